/-! a book's line: both sides -/
theorem nI3c {c : Nat} (h : c ≤ 40) : nI 3 * nI c = nI (3 * c) := by
  have : ∀ c, c < 41 → nI 3 * nI c = nI (3 * c) := by decide +kernel
  exact this c (by omega)
def bLo (w : Nat) : Nat := if w = 4 then 0 else 1
def bHi (w : Nat) : Nat := if w = 2 then 999 else if w = 3 then 59 else if w = 4 then 8 else if w = 5 then 30 else 60
/-- line i of a book: what, whom, how much -/
def BkL (σ τ : St) (m0 m1 i : Nat) : Prop := ∃ w a b, w ≤ 6 ∧ σ.1 72 i = nI w ∧ τ.1 210 (3 * i) = nI w ∧ ((w ≤ 3 → a < m0) ∧ (w = 4 → a < m1)) ∧ (w ≤ 4 → σ.1 73 i = nI a ∧ τ.1 210 (3 * i + 1) = nI a) ∧ (2 ≤ w → (bLo w ≤ b ∧ b ≤ bHi w) ∧ σ.1 74 i = nI b) ∧ (2 ≤ w → w ≤ 4 → τ.1 210 (3 * i + 2) = nI b) ∧ (5 ≤ w → τ.1 210 (3 * i + 1) = nI b)
def BkR (σ τ : St) (m0 m1 c : Nat) : Prop := ChN σ τ m0 m1 ∧ σ.1 71 3 = nI c ∧ τ.1 206 40 = nI c ∧ c ≤ 40 ∧ ∀ i, i < c → BkL σ τ m0 m1 i
theorem BkL_w {σ σ' τ τ' : St} {m0 m1 i : Nat} (h : BkL σ τ m0 m1 i) (c2 : σ'.1 72 i = σ.1 72 i) (c3 : σ'.1 73 i = σ.1 73 i) (c4 : σ'.1 74 i = σ.1 74 i) (t : ∀ j, j < 3 → τ'.1 210 (3 * i + j) = τ.1 210 (3 * i + j)) : BkL σ' τ' m0 m1 i := by
  obtain ⟨w, a, b, r⟩ := h
  refine ⟨w, a, b, ?_⟩
  have t0 := t 0 (by decide)
  rw [Nat.add_zero] at t0
  rw [c2, c3, c4, t0, t 1 (by decide), t 2 (by decide)]
  exact r
theorem BkR_w {σ σ' τ τ' : St} {m0 m1 c : Nat} (h : BkR σ τ m0 m1 c) (hc : ∀ b, 3 ≤ b → b < 26 → σ'.1 b = σ.1 b ∧ σ'.2 b = σ.2 b) (c1 : σ'.1 71 3 = σ.1 71 3) (cl : ∀ b, 72 ≤ b → b ≤ 74 → ∀ i, i < c → σ'.1 b i = σ.1 b i) (m8 : τ'.1 208 = τ.1 208) (m11 : τ'.2 211 = τ.2 211) (m12 : τ'.2 212 = τ.2 212) (m40 : τ'.1 206 40 = τ.1 206 40) (m10 : ∀ j, j < 3 * c → τ'.1 210 j = τ.1 210 j) : BkR σ' τ' m0 m1 c := by
  obtain ⟨a1, a2, a3, a4, a5⟩ := h
  exact ⟨ChN_w a1 hc m8 m11 m12, by rw [c1]; exact a2, by rw [m40]; exact a3, a4, fun i hi => BkL_w (a5 i hi) (cl 72 (by decide) (by decide) i hi) (cl 73 (by decide) (by decide) i hi) (cl 74 (by decide) (by decide) i hi) (fun j hj => m10 _ (by omega))⟩
theorem BkR_K {σ σ' τ τ' : St} {m0 m1 c : Nat} {ks ls : List Nat} (h : BkR σ τ m0 m1 c) (hF : FK 1 ks σ σ') (hG : FK 206 ls τ τ') (h40 : 40 ∉ ls) : BkR σ' τ' m0 m1 c :=
  BkR_w h (fun b b1 _ => hF.1 b (by omega)) (by rw [(hF.1 71 (by decide)).1]) (fun b b1 b2 i _ => by rw [(hF.1 b (by omega)).1]) (hG.1 208 (by decide)).1 (hG.1 211 (by decide)).2 (hG.1 212 (by decide)).2 (hG.2 40 h40).1 (fun j _ => by rw [(hG.1 210 (by decide)).1])
theorem BkR_c {σ τ : St} {m0 m1 c a : Nat} (h : BkR σ τ m0 m1 c) (ha : 72 ≤ a ∧ a ≤ 74) (v : Int32) : BkR (sI σ a c v) τ m0 m1 c :=
  BkR_w h (fun b b1 b2 => ⟨sI_ne (by omega), rfl⟩) (by rw [sI_ne (by omega)]) (fun b b1 b2 i hi => by
    rw [sI1]
    by_cases q : b = a
    · rw [if_pos q, if_neg (by omega), q]
    · rw [if_neg q]) rfl rfl rfl rfl (fun _ _ => rfl)
theorem BkR_m {σ τ : St} {m0 m1 c j : Nat} (h : BkR σ τ m0 m1 c) (hj : 3 * c ≤ j) (v : Int32) : BkR σ (sI τ 210 j v) m0 m1 c :=
  BkR_w h (fun _ _ _ => ⟨rfl, rfl⟩) rfl (fun _ _ _ _ _ => rfl) (sI_ne (by decide)) rfl rfl (by rw [sI_ne (by decide)]) (fun i hi => by rw [sI1, if_pos rfl, if_neg (by omega)])
theorem PR_bc {σ τ : St} {n L k a b c d v e i : Nat} {B : Nat → Nat} {x : Int32} (P : PR σ τ n L B k a b c d v) (he : 3 ≤ e) : PR (sI σ e i x) τ n L B k a b c d v := PR_c P (sI_ne (by omega)) (sI_ne (by omega)) rfl rfl rfl rfl
theorem PR_bm {σ τ : St} {n L k a b c d v i : Nat} {B : Nat → Nat} {x : Int32} (P : PR σ τ n L B k a b c d v) : PR σ (sI τ 210 i x) n L B k a b c d v := PR_c P rfl rfl rfl (sI_ne (by decide)) (sI_ne (by decide)) rfl
theorem FltP_bc {σ τ : St} {w a e i : Nat} {x : Int32} (f : FltP σ τ w a) (he : 2 ≤ e) : FltP (sI σ e i x) τ w a := by
  obtain ⟨a1, a2, r⟩ := f
  exact ⟨by rw [sI_ne (by omega)]; exact a1, by rw [sI_ne (by omega)]; exact a2, r⟩
theorem FltP_bm {σ τ : St} {w a i : Nat} {x : Int32} (f : FltP σ τ w a) : FltP σ (sI τ 210 i x) w a := by
  obtain ⟨a1, a2, a3, a4, r⟩ := f
  exact ⟨a1, a2, by rw [sI_ne (by decide)]; exact a3, by rw [sI_ne (by decide)]; exact a4, r⟩
/-- the model's chain of words -/
def mKc (J : Int32 → Option (Int32 × St)) (s0 : St) : Option (Int32 × St) :=
  bp (f_X12_isWord (431366697829 : Int64) s0) fun v3 =>
  if v3 = 0 then
    bp (f_X12_isWord (118100567813221 : Int64) s0) fun v41 =>
    if v41 = 0 then
      bp (f_X12_isWord (1718185068 : Int64) s0) fun v42 =>
      if v42 = 0 then
        bp (f_X12_isWord (495672977012 : Int64) s0) fun v43 =>
        if v43 = 0 then
          bp (f_X12_isWord (495874041202 : Int64) s0) fun v44 =>
          if v44 = 0 then
            bp (f_X12_isWord (1751218789 : Int64) s0) fun v45 =>
            if v45 = 0 then
              bp (f_X12_isWord (126879297138276 : Int64) s0) fun v46 =>
              if v46 = 0 then J (-1) else J (nI 6)
            else J (nI 5)
          else J (nI 4)
        else J (nI 3)
      else J (nI 2)
    else J (nI 1)
  else J (nI 0)
/-- behind the whom: how much -/
def mBA (N : Nat) (v2 v4 v11 : Int32) (s12 : St) : Option (Int32 × St) :=
          vl (s12.1 206 18) fun v14 =>
          ald (fun j => sI s12 210 j v14) 135 (v2 + (nI 1)) fun s15 =>
          if v11 = 0 then
            rz v11 <|
            some (v11, s15)
          else
          if (nI 2) ≤ v4 then
            jn (fun (v16 : Int32) (s17 : St) =>
              vl (s17.1 206 18) fun v19 =>
              ald (fun j => sI s17 210 j v19) 135 (v2 + (nI 2)) fun s20 =>
              rz v16 <|
              some (v16, s20)) fun j18 =>
            if v4 = (nI 2) then
              bd (f_X12_takes N (nI 1) (nI 999) s15) fun v21 s22 =>
              j18 v21 s22
            else
            if v4 = (nI 3) then
              bd (f_X12_takes N (nI 1) (nI 59) s15) fun v23 s24 =>
              j18 v23 s24
            else
            bd (f_X12_takes N (nI 0) (nI 8) s15) fun v25 s26 =>
            j18 v25 s26
          else
          rz v11 <|
          some (v11, s15)
/-- behind the word -/
def mBJ (N : Nat) (v2 : Int32) (s0 : St) (v4 : Int32) : Option (Int32 × St) :=
    if 0 ≤ v4 then
      vl (s0.1 206 40) fun v6 =>
      if v6 = (nI 40) then
        bd (f_X12_bad (nI 4) s0) fun v7 s8 =>
        rz v7 <|
        some (v7, s8)
      else
      bp (f_X12_next N s0) fun s9 =>
      ald (fun j => sI s9 210 j v4) 135 v2 fun s10 =>
      if v4 ≤ (nI 4) then
        if v4 = (nI 4) then
          ald (s10.1 208) 359 (nI 1) fun v27 =>
          bd (f_X12_takesName N (nI 8) v27 s10) fun v28 s29 =>
          mBA N v2 v4 v28 s29
        else
        ald (s10.1 208) 359 (nI 0) fun v30 =>
        bd (f_X12_takesName N (nI 0) v30 s10) fun v31 s32 =>
        mBA N v2 v4 v31 s32
      else
      jn (fun (v33 : Int32) =>
        bd (f_X12_takes N (nI 1) v33 s10) fun v35 s36 =>
        if v35 = 0 then
          some ((nI 0), s36)
        else
        vl (s36.1 206 18) fun v37 =>
        ald (fun j => sI s36 210 j v37) 135 (v2 + (nI 1)) fun s38 =>
        some ((nI 1), s38)) fun j34 =>
      if v4 = (nI 5) then
        j34 (nI 30)
      else
      j34 (nI 60)
    else
    bd (f_X12_bad (nI 1) s0) fun v39 s40 =>
    rz v39 <|
    some (v39, s40)
theorem m_bline {N : Nat} {s0 : St} : f_X12_bookLine N s0 = mKc (mBJ N (nI 3 * s0.1 206 40) s0) s0 := rfl
section BLine
variable {σ τ : St} {N n L k a b cc d v m0 m1 c : Nat} {B : Nat → Nat}
theorem p_bkind (H : PR σ τ n L B k a b cc d v) : (∃ w, w ≤ 6 ∧ k = 1 ∧ f_X0_kindAt σ = some (nI w) ∧ ∀ J, mKc J τ = J (nI w)) ∨ (f_X0_kindAt σ = some (-1) ∧ ∀ J, mKc J τ = J (-1)) := by
  unfold f_X0_kindAt mKc
  rw [m_is (i := 9) (x := 431366697829) (by decide) (by decide) H, m_is (i := 10) (x := 118100567813221) (by decide) (by decide) H, m_is (i := 11) (x := 1718185068) (by decide) (by decide) H, m_is (i := 12) (x := 495672977012) (by decide) (by decide) H, m_is (i := 13) (x := 495874041202) (by decide) (by decide) H, m_is (i := 5) (x := 1751218789) (by decide) (by decide) H, m_is (i := 14) (x := 126879297138276) (by decide) (by decide) H, c_is (i := 9) (by decide) H, c_is (i := 10) (by decide) H, c_is (i := 11) (by decide) H, c_is (i := 12) (by decide) H, c_is (i := 13) (by decide) H, c_is (i := 5) (by decide) H, c_is (i := 14) (by decide) H]
  by_cases k1 : k = 1
  · have yes : ∀ i, cc = rvC i → decide (k = 1 ∧ cc = rvC i) = true := fun i e => decide_eq_true ⟨k1, e⟩
    have no : ∀ i j, i < 27 → cc = rvC i → j < 27 → j ≠ i → decide (k = 1 ∧ cc = rvC j) = false := fun i j hi e hj h => decide_eq_false (fun w => h (rv_inj hj hi (w.2.symm.trans e)))
    by_cases w : cc = rvC 9 ∨ cc = rvC 10 ∨ cc = rvC 11 ∨ cc = rvC 12 ∨ cc = rvC 13 ∨ cc = rvC 5 ∨ cc = rvC 14
    · rcases w with e | e | e | e | e | e | e
      · rw [yes 9 e]
        exact Or.inl ⟨0, by decide, k1, rfl, fun _ => rfl⟩
      · rw [yes 10 e, no 10 9 (by decide) e (by decide) (by decide)]
        exact Or.inl ⟨1, by decide, k1, rfl, fun _ => rfl⟩
      · rw [yes 11 e, no 11 9 (by decide) e (by decide) (by decide), no 11 10 (by decide) e (by decide) (by decide)]
        exact Or.inl ⟨2, by decide, k1, rfl, fun _ => rfl⟩
      · rw [yes 12 e, no 12 9 (by decide) e (by decide) (by decide), no 12 10 (by decide) e (by decide) (by decide), no 12 11 (by decide) e (by decide) (by decide)]
        exact Or.inl ⟨3, by decide, k1, rfl, fun _ => rfl⟩
      · rw [yes 13 e, no 13 9 (by decide) e (by decide) (by decide), no 13 10 (by decide) e (by decide) (by decide), no 13 11 (by decide) e (by decide) (by decide), no 13 12 (by decide) e (by decide) (by decide)]
        exact Or.inl ⟨4, by decide, k1, rfl, fun _ => rfl⟩
      · rw [yes 5 e, no 5 9 (by decide) e (by decide) (by decide), no 5 10 (by decide) e (by decide) (by decide), no 5 11 (by decide) e (by decide) (by decide), no 5 12 (by decide) e (by decide) (by decide), no 5 13 (by decide) e (by decide) (by decide)]
        exact Or.inl ⟨5, by decide, k1, rfl, fun _ => rfl⟩
      · rw [yes 14 e, no 14 9 (by decide) e (by decide) (by decide), no 14 10 (by decide) e (by decide) (by decide), no 14 11 (by decide) e (by decide) (by decide), no 14 12 (by decide) e (by decide) (by decide), no 14 13 (by decide) e (by decide) (by decide), no 14 5 (by decide) e (by decide) (by decide)]
        exact Or.inl ⟨6, by decide, k1, rfl, fun _ => rfl⟩
    · have f : ∀ i, ¬ cc = rvC i → decide (k = 1 ∧ cc = rvC i) = false := fun i h => decide_eq_false (fun y => h y.2)
      rw [f 9 (fun e => w (by simp [e])), f 10 (fun e => w (by simp [e])), f 11 (fun e => w (by simp [e])), f 12 (fun e => w (by simp [e])), f 13 (fun e => w (by simp [e])), f 5 (fun e => w (by simp [e])), f 14 (fun e => w (by simp [e]))]
      exact Or.inr ⟨rfl, fun _ => rfl⟩
  · have f : ∀ i, decide (k = 1 ∧ cc = rvC i) = false := fun i => decide_eq_false (fun y => k1 y.1)
    rw [f 9, f 10, f 11, f 12, f 13, f 5, f 14]
    exact Or.inr ⟨rfl, fun _ => rfl⟩
/-- a number is taken, and kept in the class's row 74 -/
def cAm (v2 : Int32) (s3 : St) : Option (Int32 × St) :=
    vl (s3.1 71 3) fun v5 =>
    vl (s3.1 1 5) fun v6 =>
    ald (fun j => sI s3 74 j v6) 40 v5 fun s7 =>
    rz v2 <|
    some (v2, s7)
def AmE (σ τ : St) (n L : Nat) (B : Nat → Nat) (b c lo hi : Nat) (x y : Option (Int32 × St)) : Prop := (∃ σ' τ' w a, x = some (nI 0, σ') ∧ y = some (nI 0, τ') ∧ FltP σ' τ' w a) ∨ ∃ σ' τ' v, (lo ≤ v ∧ v ≤ hi) ∧ x = some (nI 1, sI σ' 74 c (nI v)) ∧ y = some (nI 1, τ') ∧ Adv σ τ n L B b σ' τ' ∧ τ'.1 206 18 = nI v
theorem p_amtL {lo hi : Nat} (hN : 1000 ≤ N) (hl : lo ≤ hi) (hh : hi ≤ 1000) (H : PR σ τ n L B k a b cc d v) (h3 : σ.1 71 3 = nI c) (hc : c < 40) : AmE σ τ n L B b c lo hi (bd (f_X9_takeNumber N (nI lo) (nI hi) (sI σ 1 5 (nI 0))) cAm) (f_X12_takes N (nI lo) (nI hi) τ) := by
  have F0 : FK 1 [5] σ (sI σ 1 5 (nI 0)) := FK.rf.sI (by decide)
  have P0 : PR (sI σ 1 5 (nI 0)) τ n L B k a b cc d v := PR_K H F0 (by decide) (FK.rf (ks := [])) (fun x hx => absurd hx List.not_mem_nil)
  rcases p_number hN hl hh P0 with ⟨σ', τ', w, a', e1, e2, f, g1, g2⟩ | ⟨_, v1, v2, σ', τ', e1, e2, ⟨ad, g1, g2⟩, x5, y18⟩
  · have s3 : σ'.1 71 3 = nI c := by rw [(g1.1 71 (by decide)).1, (F0.1 71 (by decide)).1]; exact h3
    refine Or.inl ⟨_, τ', w, a', ?_, e2, FltP_bc f (e := 74) (i := c) (x := σ'.1 1 5) (by decide)⟩
    rw [e1, bd_q]
    unfold cAm
    rw [vl_q, s3, vl_q, ald_q hc (by decide), rz_0]
  · have s3 : σ'.1 71 3 = nI c := by rw [(g1.1 71 (by decide)).1, (F0.1 71 (by decide)).1]; exact h3
    refine Or.inr ⟨σ', τ', v, ⟨v1, v2⟩, ?_, e2, ⟨ad, (F0.mono (by decide)).trans g1, g2⟩, y18⟩
    rw [e1, bd_q]
    unfold cAm
    rw [vl_q, s3, vl_q, ald_q hc (by decide), rz_1, x5]
/-- the class's amount, by its kind -/
theorem p_amt {w : Nat} (hw : 2 ≤ w ∧ w ≤ 6) : f_X0_readAmount N (nI w) σ = bd (f_X9_takeNumber N (nI (bLo w)) (nI (bHi w)) (sI σ 1 5 (nI 0))) cAm := by
  have : w = 2 ∨ w = 3 ∨ w = 4 ∨ w = 5 ∨ w = 6 := by omega
  unfold f_X0_readAmount
  rw [vl_q]
  refine (jn_q _ _).trans ?_
  rcases this with rfl | rfl | rfl | rfl | rfl
  · rw [if_pos rfl]; rfl
  · rw [if_neg (by decide), if_pos rfl]; rfl
  · rw [if_neg (by decide), if_neg (by decide), if_pos rfl]; rfl
  · rw [if_neg (by decide), if_neg (by decide), if_neg (by decide), if_pos rfl]; rfl
  · rw [if_neg (by decide), if_neg (by decide), if_neg (by decide), if_neg (by decide), if_pos rfl]; rfl
theorem c_amt0 {w : Nat} (hw : w < 2) (h3 : σ.1 71 3 = nI c) (hc : c < 40) : f_X0_readAmount N (nI w) σ = some (nI 1, sI (sI σ 1 5 (nI 0)) 74 c (nI 0)) := by
  unfold f_X0_readAmount
  rw [vl_q]
  refine (jn_q _ _).trans ?_
  have e5 : (sI σ 1 5 (nI 0)).1 71 3 = nI c := by rw [sI_ne (by decide)]; exact h3
  have e6 : (sI σ 1 5 (nI 0)).1 1 5 = nI 0 := by rw [sI1, if_pos rfl, if_pos rfl]
  rw [if_eqq (by omega) (by decide), if_neg (by omega), if_eqq (by omega) (by decide), if_neg (by omega), if_eqq (by omega) (by decide), if_neg (by omega), if_eqq (by omega) (by decide), if_neg (by omega), if_eqq (by omega) (by decide), if_neg (by omega)]
  dsimp only
  rw [vl_q, e5, vl_q, e6, ald_q hc (by decide), rz_1]
/-- whom: the class keeps it in its row 73, then both go on -/
def cWh (N : Nat) (v3 v4 : Int32) (s5 : St) : Option (Int32 × St) :=
    ald (fun j => sI s5 73 j v4) 40 v3 fun s7 =>
    vl (s7.1 71 3) fun v8 =>
    ald (s7.1 73) 40 v8 fun v9 =>
    if v9 = (-1) then
      some ((nI 0), s7)
    else
    bp (f_X9_next N s7) fun s10 =>
    some ((nI 1), s10)
theorem p_who {f m : Nat} {x : Option (Int32 × St)} (hN : 1000 ≤ N) (H : PR σ τ n L B k a b cc d v) (h3 : σ.1 71 3 = nI c) (hc : c < 40) (hm : m ≤ 8) (hx : BadN σ τ x (f_X12_looksAt N (nI f) (nI m) τ) ∨ (k = 1 ∧ ∃ l, l < m ∧ x = some (nI l, σ) ∧ f_X12_looksAt N (nI f) (nI m) τ = some (nI 1, sI τ 206 18 (nI l)))) : (∃ σ' τ' w a, bd x (cWh N (nI c)) = some (nI 0, σ') ∧ f_X12_takesName N (nI f) (nI m) τ = some (nI 0, τ') ∧ FltP σ' τ' w a) ∨ ∃ l σ' τ', l < m ∧ bd x (cWh N (nI c)) = some (nI 1, σ') ∧ f_X12_takesName N (nI f) (nI m) τ = some (nI 1, τ') ∧ AdvT n L B b σ' τ' ∧ FK 1 [2, 3, 4, 8, 9] (sI σ 73 c (nI l)) σ' ∧ FK 206 [4, 11, 12, 13, 14, 17] (sI τ 206 18 (nI l)) τ' ∧ τ'.1 206 18 = nI l := by
  unfold f_X12_takesName
  rcases hx with ⟨σ', τ', w, a', e1, e2, fl, g1, g2⟩ | ⟨kk, l, hl, e1, e2⟩
  · have s3 : σ'.1 71 3 = nI c := by rw [(g1.1 71 (by decide)).1]; exact h3
    refine Or.inl ⟨sI σ' 73 c (-1), τ', w, a', ?_, ?_, FltP_bc fl (by decide)⟩
    · have s3' : (sI σ' 73 c (-1)).1 71 3 = nI c := by rw [sI_ne (by decide)]; exact s3
      rw [e1, bd_q]
      unfold cWh
      rw [ald_q hc (by decide), vl_q, s3', ald_q hc (by decide), sI1, if_pos rfl, if_pos rfl, if_pos rfl]
    · rw [e2, bd_q, if_pos (by decide)]
  · have f2 : FK 206 [18] τ (sI τ 206 18 (nI l)) := FK.rf.sI (by decide)
    have P1 : PR (sI σ 73 c (nI l)) (sI τ 206 18 (nI l)) n L B k a b cc d v := PR_bc (PR_K H (FK.rf (ks := [])) (fun x hx => absurd hx List.not_mem_nil) f2 (by decide)) (by decide)
    obtain ⟨σ', τ', g1, g2, f3, f4, ad⟩ := p_next hN P1 (Or.inl kk)
    refine Or.inr ⟨l, σ', τ', hl, ?_, ?_, ad, f3, f4, ?_⟩
    · have s3' : (sI σ 73 c (nI l)).1 71 3 = nI c := by rw [sI_ne (by decide)]; exact h3
      rw [e1, bd_q]
      unfold cWh
      rw [ald_q hc (by decide), vl_q, s3', ald_q hc (by decide), sI1, if_pos rfl, if_pos rfl, if_nm1 (by omega), g1, bp_q]
    · rw [e2, bd_q, if_one, g2, bp_q]
    · rw [(f4.2 18 (by decide)).1, sI1, if_pos rfl, if_pos rfl]
theorem c_whom {w : Nat} (hw : w ≤ 6) (h3 : σ.1 71 3 = nI c) (hc : c < 40) : f_X0_readWhom N (nI w) σ = if w ≤ 4 then bd (if w = 4 then f_X1_shipAt N 3 (sI σ 73 c (-1)) else f_X1_lightAt N 3 (sI σ 73 c (-1))) (cWh N (nI c)) else some (nI 1, sI σ 73 c (-1)) := by
  have h3' : (sI σ 73 c (-1)).1 71 3 = nI c := by rw [sI_ne (by decide)]; exact h3
  unfold f_X0_readWhom
  rw [vl_q, h3, ald_q hc (by decide), if_eqq (by omega) (by decide), if_eqq (by omega) (by decide)]
  by_cases w4 : w ≤ 4
  · rw [if_pos w4, if_neg (by omega), if_neg (by omega), vl_q, h3']
    refine (jn_q _ _).trans ?_
    rw [if_eqq (by omega) (by decide)]
    by_cases e4 : w = 4
    · rw [if_pos e4, if_pos e4]; rfl
    · rw [if_neg e4, if_neg e4]; rfl
  · rw [if_neg w4]
    by_cases e5 : w = 5
    · rw [if_pos e5]
    · rw [if_neg e5, if_pos (by omega)]
def BkE (n L : Nat) (B : Nat → Nat) (m0 m1 c : Nat) (x y : Option (Int32 × St)) : Prop := (∃ σ' τ' w a, x = some (nI 0, σ') ∧ y = some (nI 0, τ') ∧ FltP σ' τ' w a) ∨ ∃ σ' τ', x = some (nI 1, σ') ∧ y = some (nI 1, τ') ∧ EPR n L B σ' τ' ∧ c < 40 ∧ BkR σ' τ' m0 m1 c ∧ BkL σ' τ' m0 m1 c
/-- behind the whom, both sides -/
theorem p_bamt {w l : Nat} (hN : 1000 ≤ N) (H : PR σ τ n L B k a b cc d v) (E : BkR σ τ m0 m1 c) (hc : c < 40) (hw : w ≤ 4) (h72 : σ.1 72 c = nI w) (h73 : σ.1 73 c = nI l) (t0 : τ.1 210 (3 * c) = nI w) (t18 : τ.1 206 18 = nI l) (ha : (w ≤ 3 → l < m0) ∧ (w = 4 → l < m1)) : BkE n L B m0 m1 c (f_X0_readAmount N (nI w) σ) (mBA N (nI (3 * c)) (nI w) (nI 1) τ) := by
  have h3 := E.2.1
  have E1 := BkR_m (j := 3 * c + 1) E (by omega) (nI l)
  have t0' : (sI τ 210 (3 * c + 1) (nI l)).1 210 (3 * c) = nI w := by rw [sI1, if_pos rfl, if_neg (by omega)]; exact t0
  have t1' : (sI τ 210 (3 * c + 1) (nI l)).1 210 (3 * c + 1) = nI l := by rw [sI1, if_pos rfl, if_pos rfl]
  unfold mBA
  rw [vl_q, t18, nI_addq, ald_q (by omega) (by decide), if_one, if_leq (by decide) (by omega)]
  by_cases w2 : 2 ≤ w
  · rw [if_pos w2]
    have run : ∀ {lo hi : Nat}, lo ≤ hi → hi ≤ 1000 → bLo w = lo → bHi w = hi → BkE n L B m0 m1 c (f_X0_readAmount N (nI w) σ) (bd (f_X12_takes N (nI lo) (nI hi) (sI τ 210 (3 * c + 1) (nI l))) fun v16 s17 => vl (s17.1 206 18) fun v19 => ald (fun j => sI s17 210 j v19) 135 (nI (3 * c) + (nI 2)) fun s20 => rz v16 (some (v16, s20))) := fun {lo hi} h1 h2 b1 b2 => by
      rw [p_amt ⟨w2, by omega⟩, b1, b2]
      rcases p_amtL (τ := sI τ 210 (3 * c + 1) (nI l)) hN h1 h2 (PR_bm H) h3 hc with ⟨σ', τ', w', a', e1, e2, f⟩ | ⟨σ', τ', v', hv, e1, e2, ⟨ad, g1, g2⟩, y18⟩
      · rw [e1, e2, bd_q, vl_q, nI_addq, ald_q (by omega) (by decide), rz_0]
        exact Or.inl ⟨_, _, w', a', rfl, rfl, FltP_bm f⟩
      · obtain ⟨k', a', b', c', d', x', P', _⟩ := ad
        rw [e1, e2, bd_q, vl_q, y18, nI_addq, ald_q (by omega) (by decide), rz_1]
        have E2 := BkR_m (j := 3 * c + 2) (BkR_c (a := 74) (BkR_K E1 g1 g2 (by decide)) (by decide) (nI v')) (by omega) (nI v')
        refine Or.inr ⟨_, _, rfl, rfl, ⟨k', a', b', c', d', x', PR_bm (PR_bc P' (by decide))⟩, hc, E2, w, l, v', by omega, ?_, ?_, ha, fun _ => ⟨?_, ?_⟩, fun _ => ⟨by rw [b1, b2]; exact hv, ?_⟩, fun _ _ => ?_, fun q => by omega⟩
        · rw [sI_ne (by decide), (g1.1 72 (by decide)).1]; exact h72
        · rw [sI1, if_pos rfl, if_neg (by omega), (g2.1 210 (by decide)).1]; exact t0'
        · rw [sI_ne (by decide), (g1.1 73 (by decide)).1]; exact h73
        · rw [sI1, if_pos rfl, if_neg (by omega), (g2.1 210 (by decide)).1]; exact t1'
        · rw [sI1, if_pos rfl, if_pos rfl]
        · rw [sI1, if_pos rfl, if_pos rfl]
    have : w = 2 ∨ w = 3 ∨ w = 4 := by omega
    rcases this with rfl | rfl | rfl
    · exact (congrArg (BkE n L B m0 m1 c _) ((jn_q _ _).trans (if_pos rfl))).mpr (run (lo := 1) (hi := 999) (by decide) (by decide) rfl rfl)
    · exact (congrArg (BkE n L B m0 m1 c _) ((jn_q _ _).trans ((if_neg (by decide)).trans (if_pos rfl)))).mpr (run (lo := 1) (hi := 59) (by decide) (by decide) rfl rfl)
    · exact (congrArg (BkE n L B m0 m1 c _) ((jn_q _ _).trans ((if_neg (by decide)).trans (if_neg (by decide))))).mpr (run (lo := 0) (hi := 8) (by decide) (by decide) rfl rfl)
  · rw [if_neg w2, rz_1, c_amt0 (by omega) h3 hc]
    have F0 : FK 1 [5] σ (sI σ 1 5 (nI 0)) := FK.rf.sI (by decide)
    have E2 := BkR_c (a := 74) (BkR_K E1 F0 (FK.rf (ks := [])) (by decide)) (by decide) (nI 0)
    have P2 : PR (sI (sI σ 1 5 (nI 0)) 74 c (nI 0)) (sI τ 210 (3 * c + 1) (nI l)) n L B k a b cc d v := PR_bc (PR_bm (PR_K H F0 (by decide) (FK.rf (ks := [])) (fun x hx => absurd hx List.not_mem_nil))) (by decide)
    refine Or.inr ⟨_, _, rfl, rfl, ⟨k, a, b, cc, d, v, P2⟩, hc, E2, w, l, 0, by omega, ?_, t0', ha, fun _ => ⟨?_, t1'⟩, fun q => by omega, fun q => by omega, fun q => by omega⟩
    · rw [sI_ne (by decide), sI_ne (by decide)]; exact h72
    · rw [sI_ne (by decide), sI_ne (by decide)]; exact h73
theorem p_bline (hN : 1000 ≤ N) (H : PR σ τ n L B k a b cc d v) (E : BkR σ τ m0 m1 c) : BkE n L B m0 m1 c (f_X0_readLine N σ) (f_X12_bookLine N τ) := by
  obtain ⟨EC, h3, t40, c40, _⟩ := id E
  obtain ⟨C2, m8, C3, m4, N0, N1, _, _, RV⟩ := id EC
  rw [m_bline, t40, nI3c c40]
  unfold f_X0_readLine
  rcases p_bkind H with ⟨w, hw, hk, e1, e2⟩ | ⟨e1, e2⟩
  · rw [e1, e2, bp_q, if_nm1 (by omega), vl_q, h3, if_ltq (by omega) (by decide)]
    unfold mBJ
    rw [if_ge0 (by omega), vl_q, t40, if_eqq (by omega) (by decide)]
    by_cases hc : c < 40
    · rw [if_pos hc, if_neg (by omega)]
      obtain ⟨σ1, τ1, g1, g2, f1, f2, k1, a1, b1, c1, d1, v1, P1, _⟩ := p_next hN H (Or.inl hk)
      have E1 := BkR_K E f1 f2 (by decide)
      have E2 := BkR_m (j := 3 * c) (BkR_c (a := 72) E1 (by decide) (nI w)) (by omega) (nI w)
      have E3 := BkR_c (a := 73) E2 (by decide) (-1)
      have P3 : PR (sI (sI σ1 72 c (nI w)) 73 c (-1)) (sI τ1 210 (3 * c) (nI w)) n L B k1 a1 b1 c1 d1 v1 := PR_bm (PR_bc (PR_bc P1 (by decide)) (by decide))
      have s72 : (sI (sI σ1 72 c (nI w)) 73 c (-1)).1 72 c = nI w := by rw [sI_ne (by decide), sI1, if_pos rfl, if_pos rfl]
      have s71 : (sI σ1 72 c (nI w)).1 71 3 = nI c := by rw [sI_ne (by decide)]; exact E1.2.1
      have t10 : (sI τ1 210 (3 * c) (nI w)).1 210 (3 * c) = nI w := by rw [sI1, if_pos rfl, if_pos rfl]
      rw [g1, g2, bp_q, bp_q, vl_q, E1.2.1, ald_q hc (by decide), ald_q (by omega) (by decide)]
      rw [c_whom hw s71 hc, if_leq (by omega) (by decide), if_eqq (by omega) (by decide)]
      have h3' := E3.2.1
      generalize hs3 : (sI (sI σ1 72 c (nI w)) 73 c (-1)) = σ3 at *
      generalize ht3 : (sI τ1 210 (3 * c) (nI w)) = τ3 at *
      obtain ⟨EC', _, _, _, _⟩ := id E3
      obtain ⟨C2', _, C3', _, N0', N1', t8, t9, RV'⟩ := id EC'
      by_cases w4 : w ≤ 4
      · rw [if_pos w4, if_pos w4]
        have go : ∀ {f m : Nat} {x : Option (Int32 × St)}, m ≤ 8 → ((w ≤ 3 → m = m0) ∧ (w = 4 → m = m1)) → (BadN σ3 τ3 x (f_X12_looksAt N (nI f) (nI m) τ3) ∨ (k1 = 1 ∧ ∃ l, l < m ∧ x = some (nI l, σ3) ∧ f_X12_looksAt N (nI f) (nI m) τ3 = some (nI 1, sI τ3 206 18 (nI l)))) → BkE n L B m0 m1 c (bd (bd x (cWh N (nI c))) fun v8 s9 => jn (fun (s10 : St) => some ((nI 0), s10)) fun j11 => if v8 = 0 then j11 s9 else bd (f_X0_readAmount N (nI w) s9) fun v12 s13 => if v12 = 0 then j11 s13 else some ((nI 1), s13)) (bd (f_X12_takesName N (nI f) (nI m) τ3) fun v28 s29 => mBA N (nI (3 * c)) (nI w) v28 s29) := fun {f m x} hm he hx => by
          rcases p_who hN P3 h3' hc hm hx with ⟨σ', τ', w', a', x1, x2, fl⟩ | ⟨l, σ', τ', hl, x1, x2, ⟨k2, a2, b2, c2, d2, v2, P4, _⟩, f3, f4, t18⟩
          · rw [x1, x2, bd_q, bd_q, jn_q, if_pos (by decide)]
            refine Or.inl ⟨σ', _, w', a', rfl, ?_, FltP_bm (i := 3 * c + 1) (x := τ'.1 206 18) fl⟩
            unfold mBA
            rw [vl_q, nI_addq, ald_q (by omega) (by decide), if_pos (by decide), rz_0]
          · have f18 : FK 206 [18] τ3 (sI τ3 206 18 (nI l)) := FK.rf.sI (by decide)
            have f18' : FK 206 [18, 4, 11, 12, 13, 14, 17] τ3 τ' := (f18.mono (by decide)).trans (f4.mono (by decide))
            have E4 := BkR_K (BkR_c (a := 73) E3 (by decide) (nI l)) f3 f18' (by decide)
            have q := p_bamt (w := w) (l := l) hN P4 E4 hc w4 (by rw [(f3.1 72 (by decide)).1, sI_ne (by decide)]; exact s72) (by rw [(f3.1 73 (by decide)).1, sI1, if_pos rfl, if_pos rfl]) (by rw [(f4.1 210 (by decide)).1, sI_ne (by decide)]; exact t10) t18 ⟨fun y => by rw [← he.1 y]; exact hl, fun y => by rw [← he.2 y]; exact hl⟩
            rw [x1, x2, bd_q, bd_q, jn_q, if_one]
            rcases q with ⟨σ', τ', w', a', y1, y2, fl⟩ | ⟨σ', τ', y1, y2, r⟩
            · rw [y1, bd_q, if_pos (by decide)]
              exact Or.inl ⟨_, _, w', a', rfl, y2, fl⟩
            · rw [y1, bd_q, if_one]
              exact Or.inr ⟨_, _, rfl, y2, r⟩
        by_cases e4 : w = 4
        · rw [if_pos e4, if_pos e4, ald_q (by decide) (by decide), t9]
          exact go (f := 8) (m := m1) (by omega) ⟨fun y => by omega, fun _ => rfl⟩ (p_shipAt (ch := 3) hN RV' P3 C3' m4 (by omega) (by rw [d3.2]; exact N1'))
        · rw [if_neg e4, if_neg e4, ald_q (by decide) (by decide), t8]
          exact go (f := 0) (m := m0) (by omega) ⟨fun _ => rfl, fun y => by omega⟩ (p_lightAt (ch := 3) hN RV' P3 C2' m8 (by omega) (by rw [d3.1]; exact N0'))
      · have go : ∀ {hi : Nat}, bHi w = hi → 1 ≤ hi → hi ≤ 1000 → BkE n L B m0 m1 c (bd (some (nI 1, σ3)) fun v8 s9 => jn (fun (s10 : St) => some ((nI 0), s10)) fun j11 => if v8 = 0 then j11 s9 else bd (f_X0_readAmount N (nI w) s9) fun v12 s13 => if v12 = 0 then j11 s13 else some ((nI 1), s13)) (bd (f_X12_takes N (nI 1) (nI hi) τ3) fun v35 s36 => if v35 = 0 then some ((nI 0), s36) else vl (s36.1 206 18) fun v37 => ald (fun j => sI s36 210 j v37) 135 (nI (3 * c) + (nI 1)) fun s38 => some ((nI 1), s38)) := fun {hi} b2 h1 h2 => by
          have b1 : bLo w = 1 := if_neg (by omega)
          rw [bd_q, jn_q, if_one, p_amt ⟨by omega, hw⟩, b1, b2]
          rcases p_amtL hN h1 h2 P3 h3' hc with ⟨σ', τ', w', a', y1, y2, f⟩ | ⟨σ', τ', v', hv, y1, y2, ⟨⟨k2, a2, b3, c2, d2, v2, P4, _⟩, q1, q2⟩, y18⟩
          · rw [y1, y2, bd_q, bd_q, if_pos (by decide), if_pos (by decide)]
            exact Or.inl ⟨_, _, w', a', rfl, rfl, f⟩
          · rw [y1, y2, bd_q, bd_q, if_one, if_one, vl_q, y18, nI_addq, ald_q (by omega) (by decide)]
            have E4 := BkR_m (j := 3 * c + 1) (BkR_c (a := 74) (BkR_K E3 q1 q2 (by decide)) (by decide) (nI v')) (by omega) (nI v')
            refine Or.inr ⟨_, _, rfl, rfl, ⟨k2, a2, b3, c2, d2, v2, PR_bm (PR_bc P4 (by decide))⟩, hc, E4, w, 0, v', hw, ?_, ?_, ⟨fun y => by omega, fun y => by omega⟩, fun y => by omega, fun _ => ⟨by rw [b1, b2]; exact hv, ?_⟩, fun _ y => by omega, fun _ => ?_⟩
            · rw [sI_ne (by decide), (q1.1 72 (by decide)).1]; exact s72
            · rw [sI1, if_pos rfl, if_neg (by omega), (q2.1 210 (by decide)).1]; exact t10
            · rw [sI1, if_pos rfl, if_pos rfl]
            · rw [sI1, if_pos rfl, if_pos rfl]
        rw [if_neg w4, if_neg w4]
        by_cases e5 : w = 5
        · refine (congrArg (BkE n L B m0 m1 c _) ((jn_q _ _).trans (if_pos (by rw [e5])))).mpr ?_
          exact go (hi := 30) (by rw [e5]; rfl) (by decide) (by decide)
        · refine (congrArg (BkE n L B m0 m1 c _) ((jn_q _ _).trans (if_neg (fun y => e5 ((nI_eq (by omega) (by decide)).mp y))))).mpr ?_
          exact go (hi := 60) (by rw [show w = 6 by omega]; rfl) (by decide) (by decide)
    · rw [if_neg hc, if_pos (by omega)]
      obtain ⟨σ', τ', x1, x2, fl, _⟩ := p_bad (w := 4) H (by decide)
      rw [x1, x2, bd_q, bd_q, rz_0, rz_0]
      exact Or.inl ⟨_, _, 4, a, rfl, rfl, fl⟩
  · rw [e1, e2, bp_q, if_pos rfl]
    unfold mBJ
    rw [if_neg (by decide)]
    obtain ⟨σ', τ', x1, x2, fl, _⟩ := p_bad (w := 1) H (by decide)
    rw [x1, x2, bd_q, bd_q, rz_0, rz_0]
    exact Or.inl ⟨_, _, 1, a, rfl, rfl, fl⟩
end BLine
