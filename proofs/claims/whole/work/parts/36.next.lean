/-! the next token: both sides -/
theorem cntN_0 {p : Nat → Bool} : ∀ {n : Nat}, cntN p n = 0 ↔ ∀ k, k < n → p k = false
  | 0 => by simp [cntN]
  | n + 1 => by
    have ih := cntN_0 (p := p) (n := n)
    simp only [cntN]
    constructor
    · intro h k hk
      by_cases q : p n = true
      · rw [if_pos q] at h; omega
      · by_cases e : k = n
        · rw [e]; exact Bool.eq_false_iff.mpr q
        · exact ih.mp (by omega) k (by omega)
    · intro h
      rw [ih.mpr (fun k hk => h k (by omega)), if_neg (by rw [h n (by omega)]; decide)]
theorem lt_dg (B : Nat → Nat) (q : Nat) : ∀ i, allN (fun j => isAl (B (q + j))) i = true → ltC B q i + dgC B q i = i
  | 0, _ => rfl
  | i + 1, h => by
    simp only [allN, Bool.and_eq_true] at h
    have ih := lt_dg B q i h.1
    rw [ltC_s, dgC_s]
    by_cases z : isLt (B (q + i)) = true
    · have hl := Lt_i.mp z
      rw [if_pos z, if_neg (fun w => by have := Dg_i.mp w; omega)]
      omega
    · have hd : isDg (B (q + i)) = true := by
        have := h.2
        unfold isAl at this
        rcases Bool.or_eq_true_iff.mp this with y | y
        · exact absurd y z
        · exact y
      rw [if_neg z, if_pos hd]
      omega
theorem c5f_e5 (B : Nat → Nat) (q : Nat) : ∀ i, (∀ j, j < i → isLt (B (q + j)) = true) → c5f B q i = e5 (fun j => B (q + j) - 96) i
  | 0, _ => rfl
  | i + 1, h => by
    have hl := Lt_i.mp (h i (by omega))
    rw [c5f_s, if_pos (h i (by omega)), e5_s, c5f_e5 B q i (fun j hj => h j (by omega))]
    omega
theorem w8f_e8 (B : Nat → Nat) (q : Nat) : ∀ i, i ≤ 7 → (∀ j, j < i → isLt (B (q + j)) = true) → w8f B q i = e8 (fun j => B (q + j) - 96) i
  | 0, _, _ => rfl
  | i + 1, hi, h => by
    have hl := Lt_i.mp (h i (by omega))
    rw [w8f_s, if_pos (by omega), e8_s, w8f_e8 B q i (by omega) (fun j hj => h j (by omega))]
    omega
theorem vcf_nmf (B : Nat → Nat) (q : Nat) : ∀ i, i ≤ 3 → (∀ j, j < i → isDg (B (q + j)) = true) → vcf B q i = nmf B q i ∧ vcf B q i < 10 ^ i
  | 0, _, _ => ⟨rfl, Nat.zero_lt_one⟩
  | i + 1, hi, h => by
    have hd := Dg_i.mp (h i (by omega))
    have ih := vcf_nmf B q i (by omega) (fun j hj => h j (by omega))
    rw [vcf_s, if_pos (h i (by omega)), nmf_s, if_pos (by omega), Nat.pow_succ]
    omega
def isSg (b : Nat) : Bool := decide (b = 59 ∨ b = 60 ∨ b = 61 ∨ b = 62 ∨ b = 40 ∨ b = 41)
theorem Fr206 {b : Nat} (h : b ≠ 206) : reg b ∉ [206] := fun z => by
  have z := List.mem_singleton.mp z
  rcases Nat.lt_or_ge b 226 with q | q
  · have key : ∀ b, b < 226 → reg b = 206 → b = 206 := by decide +kernel
    exact h (key b q z)
  · unfold reg at z
    rw [List.getD_eq_getElem?_getD, List.getElem?_eq_none (by exact q)] at z
    exact absurd z (by decide)
theorem FK_m {ks : List Nat} {s t : St} (h : Fr [206] s t) (g : Fm ks s t) : FK 206 ks s t := ⟨fun b hb => ⟨((h b (Fr206 hb)).1).symm, ((h b (Fr206 hb)).2).symm⟩, fun k hk => ⟨(g k hk).1.symm, (g k hk).2.symm⟩⟩
theorem mn_q {a b : Nat} (ha : a < 100000) (hb : b < 100000) : mn (nI a) (nI b) = nI (min a b) := by
  unfold mn
  rw [if_ltq (by omega) (by omega)]
  split
  · rw [Nat.min_eq_right (by omega)]
  · rw [Nat.min_eq_left (by omega)]
section NextB
variable {N n b : Nat} {B : Nat → Nat}
theorem c_readSign {t : St} {q : Nat} (h8 : t.1 1 8 = nI q) (hT : t.1 2 q = nI (B q)) (hb : B q < 256) (hq : q < 940) : ∃ u, f_X9_readSign t = some u ∧ FK 1 [2, 4, 9] t u ∧ u.1 1 2 = nI (if isSg (B q) = true then 3 else 4) ∧ u.1 1 4 = nI (B q) ∧ u.1 1 9 = nI (q + 1) := by
  unfold f_X9_readSign
  have e1 : (sI t 1 4 (nI (B q))).1 1 8 = nI q := by rw [sI1, if_pos rfl, if_neg (by decide)]; exact h8
  have e2 : (sI (sI t 1 4 (nI (B q))) 1 9 (nI (q + 1))).1 1 4 = nI (B q) := by rw [sI1, if_pos rfl, if_neg (by decide), sI1, if_pos rfl, if_pos rfl]
  have F : FK 1 [2, 4, 9] t (sI (sI t 1 4 (nI (B q))) 1 9 (nI (q + 1))) := (FK.rf.sI (by decide)).sI (by decide)
  have fin : ∀ k, k = (if isSg (B q) = true then 3 else 4) → ∃ u, some (sI (sI (sI t 1 4 (nI (B q))) 1 9 (nI (q + 1))) 1 2 (nI k)) = some u ∧ FK 1 [2, 4, 9] t u ∧ u.1 1 2 = nI (if isSg (B q) = true then 3 else 4) ∧ u.1 1 4 = nI (B q) ∧ u.1 1 9 = nI (q + 1) := fun k hk => ⟨_, rfl, F.sI (by decide), by rw [sI1, if_pos rfl, if_pos rfl, hk], by rw [sI1, if_pos rfl, if_neg (by decide)]; exact e2, by rw [sI1, if_pos rfl, if_neg (by decide), sI1, if_pos rfl, if_pos rfl]⟩
  rw [vl_q, h8, ald_q hq (by decide), hT, vl_q, vl_q, e1, vl_q, nI_addq, vl_q, e2]
  by_cases s1 : B q = 59
  · obtain ⟨u, e, r⟩ := fin 3 (by unfold isSg; rw [if_pos (decide_eq_true (by omega))])
    refine ⟨u, ?_, r⟩
    refine (jn_q _ _).trans ?_
    refine (jn_q _ _).trans ?_
    refine (if_pos (by rw [s1])).trans ?_
    exact e
  by_cases s2 : B q = 60
  · obtain ⟨u, e, r⟩ := fin 3 (by unfold isSg; rw [if_pos (decide_eq_true (by omega))])
    refine ⟨u, ?_, r⟩
    refine (jn_q _ _).trans ?_
    refine (jn_q _ _).trans ?_
    rw [if_eqq (by omega) (by decide), if_neg s1]
    refine (if_pos (by rw [s2])).trans ?_
    exact e
  by_cases s3 : B q = 61
  · obtain ⟨u, e, r⟩ := fin 3 (by unfold isSg; rw [if_pos (decide_eq_true (by omega))])
    refine ⟨u, ?_, r⟩
    refine (jn_q _ _).trans ?_
    refine (jn_q _ _).trans ?_
    rw [if_eqq (by omega) (by decide), if_neg s1]
    refine (if_neg (by rw [nI_eqq (by omega) (by decide)]; exact s2)).trans ?_
    refine (if_pos (by rw [s3])).trans ?_
    exact e
  by_cases s4 : B q = 62
  · obtain ⟨u, e, r⟩ := fin 3 (by unfold isSg; rw [if_pos (decide_eq_true (by omega))])
    refine ⟨u, ?_, r⟩
    refine (jn_q _ _).trans ?_
    refine (jn_q _ _).trans ?_
    rw [if_eqq (by omega) (by decide), if_neg s1]
    refine (if_neg (by rw [nI_eqq (by omega) (by decide)]; exact s2)).trans ?_
    refine (if_neg (by rw [nI_eqq (by omega) (by decide)]; exact s3)).trans ?_
    refine (if_pos (by rw [s4])).trans ?_
    exact e
  by_cases s5 : B q = 40
  · obtain ⟨u, e, r⟩ := fin 3 (by unfold isSg; rw [if_pos (decide_eq_true (by omega))])
    refine ⟨u, ?_, r⟩
    refine (jn_q _ _).trans ?_
    refine (jn_q _ _).trans ?_
    rw [if_eqq (by omega) (by decide), if_neg s1]
    refine (if_neg (by rw [nI_eqq (by omega) (by decide)]; exact s2)).trans ?_
    refine (if_neg (by rw [nI_eqq (by omega) (by decide)]; exact s3)).trans ?_
    refine (if_neg (by rw [nI_eqq (by omega) (by decide)]; exact s4)).trans ?_
    refine (if_pos (by rw [s5])).trans ?_
    exact e
  by_cases s6 : B q = 41
  · obtain ⟨u, e, r⟩ := fin 3 (by unfold isSg; rw [if_pos (decide_eq_true (by omega))])
    refine ⟨u, ?_, r⟩
    refine (jn_q _ _).trans ?_
    refine (jn_q _ _).trans ?_
    rw [if_eqq (by omega) (by decide), if_neg s1]
    refine (if_neg (by rw [nI_eqq (by omega) (by decide)]; exact s2)).trans ?_
    refine (if_neg (by rw [nI_eqq (by omega) (by decide)]; exact s3)).trans ?_
    refine (if_neg (by rw [nI_eqq (by omega) (by decide)]; exact s4)).trans ?_
    refine (if_neg (by rw [nI_eqq (by omega) (by decide)]; exact s5)).trans ?_
    refine (if_pos (by rw [s6])).trans ?_
    exact e
  · obtain ⟨u, e, r⟩ := fin 4 (by unfold isSg; rw [decide_eq_false (by omega)]; rfl)
    refine ⟨u, ?_, r⟩
    refine (jn_q _ _).trans ?_
    refine (jn_q _ _).trans ?_
    rw [if_eqq (by omega) (by decide), if_neg s1]
    refine (if_neg (by rw [nI_eqq (by omega) (by decide)]; exact s2)).trans ?_
    refine (if_neg (by rw [nI_eqq (by omega) (by decide)]; exact s3)).trans ?_
    refine (if_neg (by rw [nI_eqq (by omega) (by decide)]; exact s4)).trans ?_
    refine (if_neg (by rw [nI_eqq (by omega) (by decide)]; exact s5)).trans ?_
    refine (if_neg (by rw [nI_eqq (by omega) (by decide)]; exact s6)).trans ?_
    exact e
theorem c_next {s : St} {st : Nat} (hN : 1000 ≤ N) (h1 : s.1 1 1 = nI n) (hT : ∀ j, j < n → s.1 2 j = nI (B j)) (h10 : s.1 1 10 = nI st) (h9 : s.1 1 9 = nI b) (hB : ∀ j, j < n → B j < 256) (hst : st ≤ n) (hn : n ≤ 940) (hb : b ≤ n) (q : Nat) (hq : q = b + ldN (fun i => isBl (B (b + i))) (st - b)) : ∃ t, f_X9_next N s = some t ∧ FK 1 [2, 3, 4, 8, 9] s t ∧ (st ≤ q → t.1 1 2 = nI 0 ∧ t.1 1 8 = nI st ∧ t.2 1 3 = l64 0) ∧ (q < st → t.1 1 8 = nI q ∧ (rlN B q n = 0 → t.1 1 2 = nI (if isSg (B q) = true then 3 else 4) ∧ t.2 1 3 = l64 0 ∧ t.1 1 4 = nI (B q) ∧ t.1 1 9 = nI (q + 1)) ∧ (rlN B q n ≠ 0 → t.1 1 2 = nI (rkN B q (rlN B q n)) ∧ t.1 1 9 = nI (q + rlN B q n) ∧ t.2 1 3 = l64 (if rkN B q (rlN B q n) = 1 then c5f B q (rlN B q n) else 0) ∧ t.1 1 4 = nI (vcf B q (rlN B q n)))) := by
  have hl := ldN_le (fun i => isBl (B (b + i))) (st - b)
  have e := c_skL (s := s) (N := N) (st := st) (b := b) (k4 := fun (v13 : Int32) =>
    vl (s.1 1 10) fun v14 =>
    vl (mn v13 v14) fun v15 =>
    vl (sI s 1 8 v15) fun s16 =>
    vl (sL s16 1 3 (0 : Int64)) fun s17 =>
    vl (sI s17 1 4 (nI 0)) fun s18 =>
    vl (s18.1 1 8) fun v19 =>
    vl (s18.1 1 10) fun v20 =>
    if v19 = v20 then
      vl (sI s18 1 2 (nI 0)) fun s21 =>
      some s21
    else
    bp (f_X9_readRun N s18) fun s22 =>
    vl (s22.1 1 9) fun v23 =>
    vl (s22.1 1 8) fun v24 =>
    if v23 = v24 then
      bp (f_X9_readSign s22) fun s25 =>
      some s25
    else
    some s22) h10 hT hB hst hn hb N 0 (by omega) (by omega) rfl
  rw [Nat.add_zero, ← hq] at e
  unfold f_X9_next
  rw [vl_q, h9, e]
  simp only [vl_q]
  rw [h10, mn_q (by omega) (by omega)]
  have hF : FK 1 [2, 3, 4, 8, 9] s (sI (sL (sI s 1 8 (nI (min q st))) 1 3 (0 : Int64)) 1 4 (nI 0)) := ((FK.rf.sI (by decide)).sL (by decide)).sI (by decide)
  have g8 : (sI (sL (sI s 1 8 (nI (min q st))) 1 3 (0 : Int64)) 1 4 (nI 0)).1 1 8 = nI (min q st) := by rw [sI1, if_pos rfl, if_neg (by decide), sL1, sI1, if_pos rfl, if_pos rfl]
  have g10 : (sI (sL (sI s 1 8 (nI (min q st))) 1 3 (0 : Int64)) 1 4 (nI 0)).1 1 10 = nI st := by rw [sI1, if_pos rfl, if_neg (by decide), sL1, sI1, if_pos rfl, if_neg (by decide)]; exact h10
  have g3 : (sI (sL (sI s 1 8 (nI (min q st))) 1 3 (0 : Int64)) 1 4 (nI 0)).2 1 3 = l64 0 := by rw [sI2, sL2, if_pos rfl, if_pos rfl]; rfl
  have g4 : (sI (sL (sI s 1 8 (nI (min q st))) 1 3 (0 : Int64)) 1 4 (nI 0)).1 1 4 = nI 0 := by rw [sI1, if_pos rfl, if_pos rfl]
  generalize sI (sL (sI s 1 8 (nI (min q st))) 1 3 (0 : Int64)) 1 4 (nI 0) = s18 at hF g8 g10 g3 g4 ⊢
  rw [g8, g10, if_eqq (by omega) (by omega)]
  by_cases z : st ≤ q
  · rw [Nat.min_eq_right z] at g8
    rw [if_pos (by omega)]
    exact ⟨_, rfl, hF.sI (by decide), fun _ => ⟨by rw [sI1, if_pos rfl, if_pos rfl], by rw [sI1, if_pos rfl, if_neg (by decide)]; exact g8, g3⟩, fun w => by omega⟩
  · rw [Nat.min_eq_left (by omega)] at g8
    rw [if_neg (by omega)]
    obtain ⟨t, e1, f1, a2, a9, a3, a4⟩ := c_readRun (s := s18) (N := N) (n := n) (q := q) hN (by rw [(hF.2 1 (by decide)).1]; exact h1) (fun j hj => by rw [(hF.1 2 (by decide)).1]; exact hT j hj) hB hn (by omega) g8 g3 g4
    have f2 : FK 1 [2, 3, 4, 8, 9] s t := hF.trans (f1.mono (by decide))
    have a8 : t.1 1 8 = nI q := by rw [(f1.2 8 (by decide)).1]; exact g8
    have hrl : rlN B q n ≤ n - q := ldN_le _ _
    rw [e1, bp_q, a9, a8, if_eqq (by omega) (by omega)]
    by_cases w : rlN B q n = 0
    · obtain ⟨u, e2, f3, b2, b4, b9⟩ := c_readSign (B := B) (t := t) a8 (by rw [(f2.1 2 (by decide)).1]; exact hT q (by omega)) (hB q (by omega)) (by omega)
      rw [if_pos (by omega), e2, bp_q]
      refine ⟨u, rfl, f2.trans (f3.mono (by decide)), fun y => absurd y z, fun _ => ⟨by rw [(f3.2 8 (by decide)).1]; exact a8, fun _ => ⟨b2, ?_, b4, b9⟩, fun y => absurd w y⟩⟩
      rw [(f3.2 3 (by decide)).2, a3, w]
      congr 1
    · rw [if_neg (by omega)]
      exact ⟨t, rfl, f2, fun y => absurd y z, fun _ => ⟨a8, fun y => absurd y w, fun _ => ⟨a2, a9, a3, a4⟩⟩⟩
/-- the model's kind of a run -/
def mkN (B : Nat → Nat) (q len : Nat) : Nat := if sameL B q (isLt (B q)) len = true then (if isLt (B q) = true then (if len ≤ 7 then 1 else 4) else (if len ≤ 3 then 2 else 4)) else 4
theorem m_next {s : St} {L : Nat} (hN : 1000 ≤ N) (h3 : s.1 206 3 = nI n) (hT : ∀ j, j < n → s.1 207 j = sbt (B j)) (h5 : s.1 206 5 = nI L) (h4 : s.1 206 4 = nI b) (hB : ∀ j, j < n → B j < 256) (hL : L ≤ 940) (hn : n ≤ 940) (hb : b ≤ n) (q : Nat) (hq : q = b + ldN (fun i => isBl (B (b + i))) (n - b)) : ∃ t, f_X12_next N s = some t ∧ (L < n ∧ L ≤ q → t.1 206 11 = nI 4 ∧ t.1 206 12 = nI L) ∧ (¬ (L < n ∧ L ≤ q) → t.1 206 12 = nI q ∧ (n ≤ q → t.1 206 11 = nI 0) ∧ (q < n → isAl (B q) = false → t.1 206 11 = nI (if isSg (B q) = true then 3 else 4) ∧ t.1 206 14 = nI (B q) ∧ t.1 206 4 = nI (q + 1)) ∧ (q < n → isAl (B q) = true → t.1 206 11 = nI (mkN B q (rlN B q n)) ∧ t.1 206 4 = nI (q + rlN B q n) ∧ t.2 206 17 = l64 (w8f B q (rlN B q n)) ∧ t.1 206 14 = nI (nmf B q (rlN B q n)))) := by
  have hl := ldN_le (fun i => isBl (B (b + i))) (n - b)
  unfold f_X12_next
  rw [← sI_id (s := s) (a := 206) (k := 4) (v := nI (b + 0)) (by rw [h4]; rfl)]
  have e := fun (k2 : St → Option St) => m_skL (s := s) (N := N) (k2 := k2) (b := b) h3 hT hB hn hb N 0 (by omega) (by omega) rfl
  rw [e]
  rw [← hq]
  simp only [vl_q]
  have k4 : (sI s 206 4 (nI q)).1 206 4 = nI q := by rw [sI1, if_pos rfl, if_pos rfl]
  rw [k4]
  have hF : FK 206 [4, 12, 13] s (sI (sI (sI s 206 4 (nI q)) 206 12 (nI q)) 206 13 (nI 0)) := ((FK.rf.sI (by decide)).sI (by decide)).sI (by decide)
  have g4 : (sI (sI (sI s 206 4 (nI q)) 206 12 (nI q)) 206 13 (nI 0)).1 206 4 = nI q := by rw [sI1, if_pos rfl, if_neg (by decide), sI1, if_pos rfl, if_neg (by decide)]; exact k4
  have g12 : (sI (sI (sI s 206 4 (nI q)) 206 12 (nI q)) 206 13 (nI 0)).1 206 12 = nI q := by rw [sI1, if_pos rfl, if_neg (by decide), sI1, if_pos rfl, if_pos rfl]
  have g13 : (sI (sI (sI s 206 4 (nI q)) 206 12 (nI q)) 206 13 (nI 0)).1 206 13 = nI 0 := by rw [sI1, if_pos rfl, if_pos rfl]
  generalize sI (sI (sI s 206 4 (nI q)) 206 12 (nI q)) 206 13 (nI 0) = s14 at hF g4 g12 g13 ⊢
  have g3 : s14.1 206 3 = nI n := by rw [(hF.2 3 (by decide)).1]; exact h3
  have g5 : s14.1 206 5 = nI L := by rw [(hF.2 5 (by decide)).1]; exact h5
  have gT : ∀ j, j < n → s14.1 207 j = sbt (B j) := fun j hj => by rw [(hF.1 207 (by decide)).1]; exact hT j hj
  have pk := m_peek (s := s14) (n := n) (p := q) g3 gT hB hn g4 (by omega)
  by_cases lim : L < n ∧ L ≤ q
  · refine ⟨sI (sI s14 206 12 (nI L)) 206 11 (nI 4), ?_, fun _ => ⟨?_, ?_⟩, fun w => absurd lim w⟩
    · refine (jn_q _ _).trans ?_
      rw [g3, g5, g4, if_leq (by omega) (by omega), if_neg (by omega), if_ltq (by omega) (by omega), if_neg (by omega)]
    · rw [sI1, if_pos rfl, if_pos rfl]
    · rw [sI1, if_pos rfl, if_neg (by decide), sI1, if_pos rfl, if_pos rfl]
  · -- the common road
    have road : ∀ {X Y : Option St}, (if s14.1 206 3 ≤ s14.1 206 5 then X else if s14.1 206 4 < s14.1 206 5 then X else Y) = X := fun {X Y} => by
      rw [g3, g5, g4, if_leq (by omega) (by omega), if_ltq (by omega) (by omega)]
      by_cases z : n ≤ L
      · rw [if_pos z]
      · rw [if_neg z, if_pos (by omega)]
    by_cases hc : q < n
    · have hbq := hB q hc
      have pk' : f_X12_peek s14 = some (nI (B q)) := by rw [pk, if_pos hc]
      by_cases al : isAl (B q) = true
      · have hM0 : MFr B q 0 (sI (sL s14 206 17 (0 : Int64)) 206 14 (nI 0)) (sI (sL s14 206 17 (0 : Int64)) 206 14 (nI 0)) := ⟨FK.rf, by rw [sI1, if_pos rfl, if_neg (by decide), sL1]; exact g4, by rw [sI1, if_pos rfl, if_neg (by decide), sL1]; exact g13, by rw [sI2, sL2, if_pos rfl, if_pos rfl]; rfl, by rw [sI1, if_pos rfl, if_pos rfl]; rfl⟩
        obtain ⟨t, e1, hM⟩ := m_runL (N := N) (n := n) (q := q) (B := B) (s0 := sI (sL s14 206 17 (0 : Int64)) 206 14 (nI 0)) (sm := isLt (B q)) (k27 := fun (v58 : Int32) (s59 : St) =>
            jn (fun (v60 : Int32) =>
              vl (sI s59 206 11 v60) fun s62 =>
              some s62) fun j61 =>
            jn (j61 (nI 4)) fun j63 =>
            if v58 = 0 then
              j63
            else
            vl (s59.1 206 13) fun v64 =>
            jn (fun (v65 : Int32) =>
              if v64 ≤ v65 then
                if bI (isLt (B q)) = 0 then
                  j61 (nI 2)
                else
                j61 (nI 1)
              else
              j63) fun j66 =>
            if bI (isLt (B q)) = 0 then
              j66 (nI 3)
            else
            j66 (nI 7)) (by rw [sI1, if_pos rfl, if_neg (by decide), sL1]; exact g3) (fun j hj => by rw [sI1, if_neg (by decide), sL1]; exact gT j hj) hB hn (by omega) N 0 _ (by omega) (by omega) rfl hM0
        rw [show bI (sameL B q (isLt (B q)) 0) = nI 1 from rfl] at e1
        obtain ⟨f1, f4, f13, f17, f14⟩ := hM
        have hrl : rlN B q n ≤ n - q := ldN_le _ _
        have f12 : t.1 206 12 = nI q := by rw [(f1.2 12 (by decide)).1, sI1, if_pos rfl, if_neg (by decide), sL1]; exact g12
        have j20 : (bp (f_X12_isSmall (nI (B q)) s14) fun v21 =>
          vl (sL s14 206 17 (0 : Int64)) fun s22 =>
          vl (sI s22 206 14 (nI 0)) fun s23 =>
          f_X12_next_L181 N v21 (fun (v58 : Int32) (s59 : St) =>
            jn (fun (v60 : Int32) =>
              vl (sI s59 206 11 v60) fun s62 =>
              some s62) fun j61 =>
            jn (j61 (nI 4)) fun j63 =>
            if v58 = 0 then
              j63
            else
            vl (s59.1 206 13) fun v64 =>
            jn (fun (v65 : Int32) =>
              if v64 ≤ v65 then
                if v21 = 0 then
                  j61 (nI 2)
                else
                j61 (nI 1)
              else
              j63) fun j66 =>
            if v21 = 0 then
              j66 (nI 3)
            else
            j66 (nI 7)) N (nI 1) s23) = some (sI t 206 11 (nI (mkN B q (rlN B q n)))) := by
          refine (bp_h (m_isSmall hbq s14)).trans ?_
          refine e1.trans ?_
          refine (jn_q _ _).trans ?_
          refine (jn_q _ _).trans ?_
          refine if_bI.trans ?_
          unfold mkN
          by_cases y : sameL B q (isLt (B q)) (rlN B q n) = true
          · refine (if_pos y).trans ?_
            rw [if_pos y, f13]
            refine (jn_q _ _).trans ?_
            refine if_bI.trans ?_
            by_cases zl : isLt (B q) = true
            · refine (if_pos zl).trans ?_
              rw [if_pos zl]
              refine (if_leq (by omega) (by decide)).trans ?_
              by_cases w : rlN B q n ≤ 7
              · refine (if_pos w).trans ?_
                rw [if_pos w]
                refine if_bI.trans ?_
                exact if_pos zl
              · refine (if_neg w).trans ?_
                rw [if_neg w]; rfl
            · refine (if_neg zl).trans ?_
              rw [if_neg zl]
              refine (if_leq (by omega) (by decide)).trans ?_
              by_cases w : rlN B q n ≤ 3
              · refine (if_pos w).trans ?_
                rw [if_pos w]
                refine if_bI.trans ?_
                exact if_neg zl
              · refine (if_neg w).trans ?_
                rw [if_neg w]; rfl
          · refine (if_neg y).trans ?_
            rw [if_neg y]; rfl
        refine ⟨sI t 206 11 (nI (mkN B q (rlN B q n))), ?_, fun w => absurd w lim, fun _ => ⟨?_, fun w => by omega, fun _ w => absurd (al.symm.trans w) (by decide), fun _ _ => ⟨?_, ?_, ?_, ?_⟩⟩⟩
        · refine (jn_q _ _).trans ?_
          refine road.trans ?_
          refine (bp_h pk').trans ?_
          refine (if_ge0 (by omega)).trans ?_
          refine (bp_h (m_isSmall hbq s14)).trans ?_
          refine (jn_q _ _).trans ?_
          refine if_bI.trans ?_
          by_cases zl : isLt (B q) = true
          · refine (if_pos zl).trans ?_
            exact j20
          · refine (if_neg zl).trans ?_
            refine (bp_h (m_isDigit hbq s14)).trans ?_
            refine if_bI.trans ?_
            refine (if_pos (by
              unfold isAl at al
              rcases Bool.or_eq_true_iff.mp al with y | y
              · exact absurd y zl
              · exact y)).trans ?_
            exact j20
        · rw [sI1, if_pos rfl, if_neg (by decide)]; exact f12
        · rw [sI1, if_pos rfl, if_pos rfl]
        · rw [sI1, if_pos rfl, if_neg (by decide)]; exact f4
        · rw [sI2]; exact f17
        · rw [sI1, if_pos rfl, if_neg (by decide)]; exact f14
      · have zl : ¬ isLt (B q) = true := fun y => al (by unfold isAl; rw [y]; rfl)
        have zd : ¬ isDg (B q) = true := fun y => al (by unfold isAl; rw [y, Bool.or_true])
        have e14 : ∀ v, (sI (sI s14 206 11 v) 206 14 (nI (B q))).1 206 4 = nI q := fun v => by rw [sI1, if_pos rfl, if_neg (by decide), sI1, if_pos rfl, if_neg (by decide)]; exact g4
        refine ⟨sI (sI (sI s14 206 11 (nI (if isSg (B q) = true then 3 else 4))) 206 14 (nI (B q))) 206 4 (nI (q + 1)), ?_, fun w => absurd w lim, fun _ => ⟨?_, fun w => by omega, fun _ _ => ⟨?_, ?_, ?_⟩, fun _ w => absurd w al⟩⟩
        · have fin : ∀ v, v = (if isSg (B q) = true then 3 else 4) → (vl (sI s14 206 11 (nI v)) fun s70 => vl (sI s70 206 14 (nI (B q))) fun s71 => vl (s71.1 206 4) fun v72 => vl (sI s71 206 4 (v72 + (nI 1))) fun s73 => some s73) = some (sI (sI (sI s14 206 11 (nI (if isSg (B q) = true then 3 else 4))) 206 14 (nI (B q))) 206 4 (nI (q + 1))) := fun v hv => by
            rw [vl_q, vl_q, vl_q, vl_q, e14, nI_addq, hv]
          refine (jn_q _ _).trans ?_
          refine road.trans ?_
          refine (bp_h pk').trans ?_
          refine (if_ge0 (by omega)).trans ?_
          refine (bp_h (m_isSmall hbq s14)).trans ?_
          refine (jn_q _ _).trans ?_
          refine if_bI.trans ?_
          refine (if_neg zl).trans ?_
          refine (bp_h (m_isDigit hbq s14)).trans ?_
          refine if_bI.trans ?_
          refine (if_neg zd).trans ?_
          refine (jn_q _ _).trans ?_
          refine (jn_q _ _).trans ?_
          refine (if_eqq (by omega) (by decide)).trans ?_
          by_cases s1 : B q = 59
          · refine (if_pos s1).trans ?_
            exact fin 3 (by unfold isSg; rw [if_pos (decide_eq_true (by omega))])
          refine (if_neg s1).trans ?_
          refine (if_eqq (by omega) (by decide)).trans ?_
          by_cases s2 : B q = 40
          · refine (if_pos s2).trans ?_
            exact fin 3 (by unfold isSg; rw [if_pos (decide_eq_true (by omega))])
          refine (if_neg s2).trans ?_
          refine (if_eqq (by omega) (by decide)).trans ?_
          by_cases s3 : B q = 41
          · refine (if_pos s3).trans ?_
            exact fin 3 (by unfold isSg; rw [if_pos (decide_eq_true (by omega))])
          refine (if_neg s3).trans ?_
          refine (jn_q _ _).trans ?_
          refine (if_ltq (by omega) (by decide)).trans ?_
          by_cases s4 : B q < 60
          · refine (if_pos s4).trans ?_
            exact fin 4 (by unfold isSg; rw [if_neg (by rw [decide_eq_false (by omega)]; decide)])
          refine (if_neg s4).trans ?_
          refine (if_ltq (by decide) (by omega)).trans ?_
          by_cases s5 : 62 < B q
          · refine (if_pos s5).trans ?_
            exact fin 4 (by unfold isSg; rw [if_neg (by rw [decide_eq_false (by omega)]; decide)])
          refine (if_neg s5).trans ?_
          exact fin 3 (by unfold isSg; rw [if_pos (decide_eq_true (by omega))])
        · rw [sI1, if_pos rfl, if_neg (by decide), sI1, if_pos rfl, if_neg (by decide), sI1, if_pos rfl, if_neg (by decide)]; exact g12
        · rw [sI1, if_pos rfl, if_neg (by decide), sI1, if_pos rfl, if_neg (by decide), sI1, if_pos rfl, if_pos rfl]
        · rw [sI1, if_pos rfl, if_neg (by decide), sI1, if_pos rfl, if_pos rfl]
        · rw [sI1, if_pos rfl, if_pos rfl]
    · refine ⟨sI s14 206 11 (nI 0), ?_, fun w => absurd w lim, fun _ => ⟨?_, fun _ => by rw [sI1, if_pos rfl, if_pos rfl], fun w => by omega, fun w => by omega⟩⟩
      · refine (jn_q _ _).trans ?_
        refine road.trans ?_
        refine (bp_h (v := -1) (by rw [pk, if_neg hc])).trans ?_
        exact if_neg (by decide)
      · rw [sI1, if_pos rfl, if_neg (by decide)]; exact g12
end NextB
