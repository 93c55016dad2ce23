/-! the model's loop over a sentence, behind an operand -/
def kFl : St → Option (Int32 × St) := fun (s48 : St) => vl (s48.1 206 16) fun v49 => some (((-1) - v49), s48)
def kBl : St → Option (Int32 × St) := fun (s52 : St) => bd (f_X12_bad (nI 1) s52) fun v53 s54 => vl (s54.1 206 16) fun v55 => some (((-1) - v55), s54)
def lpS (N : Nat) (k12 : St → Option (Int32 × St)) (m : Nat) (τ : St) : Option (Int32 × St) := f_X12_sentence_L48 N k12 kFl kFl kBl m (nI 1) τ
def Kx (N : Nat) : St → Option (Int32 × St) := fun s7 => vl (s7.1 206 46) fun v8 =>
      bp (f_X12_isWord (6385252 : Int64) s7) fun v9 =>
      jn (fun (v10 : Int32) =>
        ald (fun j => sI s7 220 j v10) 45 v8 fun s12 =>
        vl (s12.1 206 46) fun v13 =>
        vl (sI s12 206 46 (v13 + (nI 1))) fun s14 =>
        vl (sI s14 206 48 (nI 0)) fun s15 =>
        bp (f_X12_next N s15) fun s16 =>
        some ((nI 1), s16)) fun j11 =>
      if v9 = 0 then
        j11 (nI 22)
      else
      j11 (nI 21)
def Ky (N : Nat) : St → Option (Int32 × St) := fun s18 => bp (f_X12_isSign (nI 41) s18) fun v19 =>
      jn (bd (f_X12_bad (nI 1) s18) fun v21 s22 =>
        rz v21 <|
        some (v21, s22)) fun j20 =>
      if v19 = 0 then
        j20
      else
      vl (s18.1 206 46) fun v23 =>
      if v23 = 0 then
        j20
      else
      vl (s18.1 206 46) fun v24 =>
      vl (sI s18 206 46 (v24 - (nI 1))) fun s25 =>
      vl (s25.1 206 47) fun v26 =>
      vl (sI s25 206 47 (v26 - (nI 1))) fun s27 =>
      bp (f_X12_next N s27) fun s28 =>
      some ((nI 1), s28)
def Bh (N : Nat) (s1 : St) : Option (Int32 × St) :=
  bp (f_X12_isWord (6385252 : Int64) s1) fun v2 =>
  jn (bp (f_X12_isWord (6385252 : Int64) s1) fun v4 =>
    jn (fun (v5 : Int32) =>
      bp (f_X12_joins N v5 s1) fun s7 => Kx N s7) fun j6 =>
    if v4 = 0 then
      j6 (nI 22)
    else
    j6 (nI 21)) fun j3 =>
  if v2 = 0 then
    bp (f_X12_isWord (28530 : Int64) s1) fun v17 =>
    if v17 = 0 then
      bp (f_X12_joins N (nI 22) s1) fun s18 => Ky N s18
    else
    j3
  else
  j3
section Lp
variable {σ τ τ2 τ3 : St} {N n L k a b cc d v : Nat} {B : Nat → Nat} {k12 : St → Option (Int32 × St)}
theorem bh_q {s : St} (h : f_X12_nots N τ = some s) : f_X12_behind N τ = Bh N s := by
  unfold f_X12_behind
  rw [h, bp_q]
  rfl
theorem Bh_and (H : PR σ τ n L B k a b cc d v) (q : k = 1 ∧ cc = rvC 16) : Bh N τ = bp (f_X12_joins N (nI 21) τ) (Kx N) := by
  unfold Bh
  rw [m_is (i := 16) (x := 6385252) (by decide) (by decide) H, decide_eq_true q, bp_q]
  refine (jn_q _ _).trans ?_
  rw [bp_q, if_bI, if_pos rfl]
  rfl
theorem Bh_or (H : PR σ τ n L B k a b cc d v) (q : ¬ (k = 1 ∧ cc = rvC 16)) (q2 : k = 1 ∧ cc = rvC 15) : Bh N τ = bp (f_X12_joins N (nI 22) τ) (Kx N) := by
  unfold Bh
  rw [m_is (i := 16) (x := 6385252) (by decide) (by decide) H, m_is (i := 15) (x := 28530) (by decide) (by decide) H, decide_eq_false q, decide_eq_true q2, bp_q]
  refine (jn_q _ _).trans ?_
  rw [bp_q, bp_q]
  rfl
theorem Bh_el (H : PR σ τ n L B k a b cc d v) (q : ¬ (k = 1 ∧ cc = rvC 16)) (q2 : ¬ (k = 1 ∧ cc = rvC 15)) : Bh N τ = bp (f_X12_joins N (nI 22) τ) (Ky N) := by
  unfold Bh
  rw [m_is (i := 16) (x := 6385252) (by decide) (by decide) H, m_is (i := 15) (x := 28530) (by decide) (by decide) H, decide_eq_false q, decide_eq_false q2, bp_q]
  refine (jn_q _ _).trans ?_
  rw [bp_q, bp_q]
  rfl
theorem LP1 {s : St} {m : Nat} (h48 : τ.1 206 48 = nI 1) (hn : f_X12_nots N τ = some s) : lpS N k12 (m + 1) τ = if τ.1 206 11 = 0 then (bp (f_X12_joins N (nI 22) s) fun s31 => vl (s31.1 206 46) fun v32 => if v32 ≤ 0 then f_X12_sentence_L48 N k12 kFl kFl kBl m (nI 0) s31 else kBl s31) else bd (Bh N s) fun v27 s28 => if v27 = 0 then kFl s28 else lpS N k12 m s28 := by
  unfold lpS
  rw [f_X12_sentence_L48, if_one, vl_q, h48]
  refine (jn_q _ _).trans ?_
  rw [if_one, vl_q, hn, bp_q, vl_q, if_one, bh_q hn]
theorem LP_eq {m : Nat} (h2 : τ2.1 206 48 = nI 1) (h3 : τ3.1 206 48 = nI 1) (n2 : f_X12_nots N τ2 = some τ2) (n3 : f_X12_nots N τ3 = some τ3) (P2 : PR σ τ2 n L B k a b cc d v) (P3 : PR σ τ3 n L B k a b cc d v) (j21 : k = 1 ∧ cc = rvC 16 → f_X12_joins N (nI 21) τ2 = f_X12_joins N (nI 21) τ3) (j22 : f_X12_joins N (nI 22) τ2 = f_X12_joins N (nI 22) τ3) : lpS N k12 (m + 1) τ2 = lpS N k12 (m + 1) τ3 := by
  have e11 : τ2.1 206 11 = τ3.1 206 11 := P2.2.1.2.2.2.2.2.2.trans P3.2.1.2.2.2.2.2.2.symm
  have eB : Bh N τ2 = Bh N τ3 := by
    by_cases q : k = 1 ∧ cc = rvC 16
    · rw [Bh_and P2 q, Bh_and P3 q, j21 q]
    · by_cases q2 : k = 1 ∧ cc = rvC 15
      · rw [Bh_or P2 q q2, Bh_or P3 q q2, j22]
      · rw [Bh_el P2 q q2, Bh_el P3 q q2, j22]
  rw [LP1 h2 n2, LP1 h3 n3, e11, eB, j22]
/-- nots behind an operand: two stores of which one comes to the other -/
theorem LP_n {s : St} {m : Nat} (h2 : τ2.1 206 48 = nI 1) (h3 : τ3.1 206 48 = nI 1) (n2 : f_X12_nots N τ2 = some s) (n3 : f_X12_nots N τ3 = some s) (e11 : τ2.1 206 11 = τ3.1 206 11) : lpS N k12 (m + 1) τ2 = lpS N k12 (m + 1) τ3 := by
  rw [LP1 h2 n2, LP1 h3 n3, e11]
end Lp
