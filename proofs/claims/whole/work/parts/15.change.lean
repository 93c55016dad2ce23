/-! the fewest that should be changed: both sides -/
def bitB (s l : Nat) : Bool := decide (s / 2 ^ l % 2 = 1)
/-- of each pair one at least -/
def vldS (S : Nat → Nat) (s : Nat) : Bool := allN (fun l => allN (fun m => !(conS S l m) || (bitB s l || bitB s m)) (S 0)) (S 0)
theorem vld_iff {S : Nat → Nat} {s : Nat} : vldS S s = true ↔ ∀ l, l < S 0 → ∀ m, m < S 0 → conS S l m = true → s / 2 ^ l % 2 = 1 ∨ s / 2 ^ m % 2 = 1 := by
  unfold vldS
  simp only [allN_iff, Bool.or_eq_true, Bool.not_eq_true', bitB, decide_eq_true_eq]
  constructor
  · intro h l hl m hm hc
    rcases h l hl m hm with q | q
    · rw [hc] at q; cases q
    · exact q
  · intro h l hl m hm
    rcases Bool.eq_false_or_eq_true (conS S l m) with q | q
    · exact Or.inr (h l hl m hm q)
    · exact Or.inl q
def allS (S : Nat → Nat) : Nat := 2 ^ S 0 - 1
theorem all_bit : ∀ n, n ≤ 8 → ∀ l, l < n → (2 ^ n - 1) / 2 ^ l % 2 = 1 := by decide +kernel
theorem all_lt : ∀ n, n ≤ 8 → 2 ^ n - 1 < 256 := by decide +kernel
theorem all_pc : ∀ n, n ≤ 8 → pcN (2 ^ n - 1) = n := by decide +kernel
theorem shl_all : ∀ n, n ≤ 8 → (nI 1 <<< (nI n &&& 31)) - nI 1 = nI (2 ^ n - 1) := by decide +kernel
theorem vld_all {S : Nat → Nat} (hn : S 0 ≤ 8) : vldS S (allS S) = true := vld_iff.mpr (fun l hl _ _ _ => Or.inl (all_bit _ hn l hl))
theorem pc_all : ∀ n, n ≤ 8 → ∀ s, s < 2 ^ n - 1 → pcN s < n := by decide +kernel
/-- b is the one that should be changed -/
def bestP (S : Nat → Nat) (b : Nat) : Prop := vldS S b = true ∧ b ≤ allS S ∧ ∀ t, t ≤ allS S → vldS S t = true → pcN b < pcN t ∨ (pcN b = pcN t ∧ b ≤ t)
theorem best_u {S : Nat → Nat} {b c : Nat} (h : bestP S b) (g : bestP S c) : b = c := by
  rcases h.2.2 c g.2.1 g.1 with q | q <;> rcases g.2.2 b h.2.1 h.1 with z | z <;> omega
/-! the class: upward -/
def bX (S : Nat → Nat) : Nat → Nat
  | 0 => allS S
  | s + 1 => if pcN s < pcN (bX S s) ∧ vldS S s = true then s else bX S s
theorem bX_inv {S : Nat → Nat} (hn : S 0 ≤ 8) : ∀ s, s ≤ allS S → vldS S (bX S s) = true ∧ bX S s ≤ allS S ∧ (bX S s < s ∨ bX S s = allS S) ∧ pcN (bX S s) ≤ pcN (allS S) ∧ ∀ t, t < s → vldS S t = true → pcN (bX S s) < pcN t ∨ (pcN (bX S s) = pcN t ∧ bX S s ≤ t)
  | 0, _ => ⟨vld_all hn, Nat.le_refl _, Or.inr rfl, Nat.le_refl _, fun t h => by omega⟩
  | s + 1, hs => by
    obtain ⟨h1, h2, h3, h4, h5⟩ := bX_inv hn s (by omega)
    have ha := all_pc _ hn
    have hq := pc_all _ hn s (by unfold allS at hs; omega)
    have ea : allS S = 2 ^ S 0 - 1 := rfl
    simp only [bX]
    by_cases c : pcN s < pcN (bX S s) ∧ vldS S s = true
    · rw [if_pos c]
      refine ⟨c.2, by omega, Or.inl (by omega), by omega, fun t ht hv => ?_⟩
      by_cases e : t = s
      · subst e; exact Or.inr ⟨rfl, Nat.le_refl _⟩
      · rcases h5 t (by omega) hv with q | q
        · exact Or.inl (by omega)
        · exact Or.inl (by omega)
    · rw [if_neg c]
      refine ⟨h1, h2, by omega, h4, fun t ht hv => ?_⟩
      by_cases e : t = s
      · subst e
        have : ¬ pcN t < pcN (bX S t) := fun z => c ⟨z, hv⟩
        rcases h3 with q | q
        · omega
        · exfalso; rw [q, ea, ha] at this; omega
      · exact h5 t (by omega) hv
theorem bX_best {S : Nat → Nat} (hn : S 0 ≤ 8) : bestP S (bX S (allS S)) := by
  obtain ⟨h1, h2, h3, h4, h5⟩ := bX_inv hn (allS S) (Nat.le_refl _)
  refine ⟨h1, h2, fun t ht hv => ?_⟩
  by_cases e : t = allS S
  · subst e; omega
  · exact h5 t (by omega) hv
/-! the model: downward -/
def bM (S : Nat → Nat) : Nat → Nat
  | 0 => allS S
  | j + 1 => if pcN (allS S - j) ≤ pcN (bM S j) ∧ vldS S (allS S - j) = true then allS S - j else bM S j
theorem bM_inv {S : Nat → Nat} (hn : S 0 ≤ 8) : ∀ j, j ≤ allS S + 1 → vldS S (bM S j) = true ∧ bM S j ≤ allS S ∧ allS S ≤ bM S j + j ∧ ∀ t, t ≤ allS S → allS S < t + j → vldS S t = true → pcN (bM S j) < pcN t ∨ (pcN (bM S j) = pcN t ∧ bM S j ≤ t)
  | 0, _ => ⟨vld_all hn, Nat.le_refl _, by simp only [bM]; omega, fun t h1 h2 => by omega⟩
  | j + 1, hs => by
    obtain ⟨h1, h2, h3, h4⟩ := bM_inv hn j (by omega)
    simp only [bM]
    by_cases c : pcN (allS S - j) ≤ pcN (bM S j) ∧ vldS S (allS S - j) = true
    · rw [if_pos c]
      refine ⟨c.2, by omega, by omega, fun t ht1 ht2 hv => ?_⟩
      by_cases e : t = allS S - j
      · subst e; exact Or.inr ⟨rfl, Nat.le_refl _⟩
      · rcases h4 t ht1 (by omega) hv with q | q
        · exact Or.inl (by omega)
        · omega
    · rw [if_neg c]
      refine ⟨h1, h2, by omega, fun t ht1 ht2 hv => ?_⟩
      by_cases e : t = allS S - j
      · subst e
        have : ¬ pcN (allS S - j) ≤ pcN (bM S j) := fun z => c ⟨z, hv⟩
        exact Or.inl (by omega)
      · exact h4 t ht1 (by omega) hv
theorem bM_best {S : Nat → Nat} (hn : S 0 ≤ 8) : bestP S (bM S (allS S + 1)) := by
  obtain ⟨h1, h2, h3, h4⟩ := bM_inv hn (allS S + 1) (Nat.le_refl _)
  exact ⟨h1, h2, fun t ht hv => h4 t ht (by omega) hv⟩
/-! the class's check of a set -/
theorem c_endsL {S : Nat → Nat} {σ : St} {N s : Nat} (h0 : σ.1 3 2 = nI (S 0)) (hn : S 0 ≤ 8) (hA : ARel σ 4 S) (hs : s < 256) : ∀ n l, l ≤ S 0 → S 0 - l < n → (∀ k, k < l → ∀ m, m < S 0 → conS S k m = true → s / 2 ^ k % 2 = 1 ∨ s / 2 ^ m % 2 = 1) → f_X1_endsAllConfusion_L2 N 3 (nI s) σ n (nI l) = some (bI (vldS S s)) := by
  intro n
  induction n with
  | zero => intro l _ h; omega
  | succ n ih =>
    intro l hl hn' hk
    rw [f_X1_endsAllConfusion_L2, vl_q, h0, if_leq (by omega) (by omega)]
    by_cases hc : S 0 ≤ l
    · rw [if_pos hc]
      obtain rfl : l = S 0 := by omega
      rw [vld_iff.mpr hk]; rfl
    · rw [if_neg hc, jn_q, shr_bit l (by omega) s hs, if_eq0 (by omega)]
      have hb := bset_lt8 (conS S l) hn
      by_cases hz : s / 2 ^ l % 2 = 0
      · rw [if_pos hz, ald_q (by omega) (by decide), show rr 3 0 = 4 from by decide +kernel, vl_q, (hA l (by omega)).2]
        by_cases hq : (nI (bset (conS S l) (S 0)) &&& (nI s ^^^ (-1))) = 0
        · rw [if_pos hq]
          simp only [vl_q, nI_addq]
          refine ih (l + 1) (by omega) (by omega) (fun k hk' m hm hcon => ?_)
          by_cases e : k = l
          · subst e
            refine Or.inr ((sub_q hb hs).mp hq m (by omega) ?_)
            rw [bset_bit, if_pos ⟨hm, hcon⟩]
          · exact hk k (by omega) m hm hcon
        · rw [if_neg hq]
          have : vldS S s = false := by
            rcases Bool.eq_false_or_eq_true (vldS S s) with v | v
            · exfalso
              rw [vld_iff] at v
              refine hq ((sub_q hb hs).mpr (fun m _ hm => ?_))
              rw [bset_bit] at hm
              by_cases z : m < S 0 ∧ conS S l m = true
              · rcases v l (by omega) m z.1 z.2 with w | w
                · omega
                · exact w
              · rw [if_neg z] at hm; omega
            · exact v
          rw [this]; rfl
      · rw [if_neg hz]
        simp only [vl_q, nI_addq]
        refine ih (l + 1) (by omega) (by omega) (fun k hk' m hm hcon => ?_)
        by_cases e : k = l
        · subst e; exact Or.inl (by omega)
        · exact hk k (by omega) m hm hcon
theorem c_ends {S : Nat → Nat} {σ : St} {N s : Nat} (hN : 500 ≤ N) (h0 : σ.1 3 2 = nI (S 0)) (hn : S 0 ≤ 8) (hA : ARel σ 4 S) (hs : s < 256) : f_X1_endsAllConfusion N 3 (nI s) σ = some (bI (vldS S s)) :=
  c_endsL h0 hn hA hs N 0 (by omega) (by omega) (fun k hk => by omega)
theorem c_fewL {S : Nat → Nat} {σ : St} {N : Nat} (hN : 500 ≤ N) (h0 : σ.1 3 2 = nI (S 0)) (hn : S 0 ≤ 8) (hA : ARel σ 4 S) : ∀ n s, s ≤ allS S → allS S - s < n → f_X1_fewestChanged_L7 N 3 σ n (nI (bX S s)) (nI s) = some (nI (bX S (allS S))) := by
  have hal := all_lt _ hn
  have ea : allS S = 2 ^ S 0 - 1 := rfl
  intro n
  induction n with
  | zero => intro l _ h; omega
  | succ n ih =>
    intro s hs hn'
    obtain ⟨i1, i2, i3, i4, i5⟩ := bX_inv hn s hs
    have p1 := pcN_le s
    have p2 := pcN_le (bX S s)
    rw [f_X1_fewestChanged_L7, f_X1_allLights, vl_q, h0, shl_all _ hn, bp_q, if_leq (by omega) (by omega)]
    by_cases hc : 2 ^ S 0 - 1 ≤ s
    · rw [if_pos hc]
      obtain rfl : s = allS S := by omega
      rfl
    · rw [if_neg hc, c_bitCount (by omega), bp_q, c_bitCount (by omega), bp_q, jn_q, if_leq (by omega) (by omega)]
      simp only [vl_q, nI_addq]
      have := ih (s + 1) (by omega) (by omega)
      simp only [bX] at this
      by_cases hq : pcN (bX S s) ≤ pcN s
      · rw [if_pos hq]; rw [if_neg (fun z => by omega)] at this; exact this
      · rw [if_neg hq, c_ends hN h0 hn hA (by omega), bp_q, if_bI]
        by_cases hv : vldS S s = true
        · rw [if_pos hv]; rw [if_pos ⟨by omega, hv⟩] at this; exact this
        · rw [if_neg hv]; rw [if_neg (fun z => hv z.2)] at this; exact this
theorem c_fewest {S : Nat → Nat} {σ : St} {N : Nat} (hN : 500 ≤ N) (h0 : σ.1 3 2 = nI (S 0)) (hn : S 0 ≤ 8) (hA : ARel σ 4 S) : f_X1_fewestChanged N 3 σ = some (nI (bX S (allS S))) := by
  have hal := all_lt _ hn
  have ea : allS S = 2 ^ S 0 - 1 := rfl
  unfold f_X1_fewestChanged
  rw [f_X1_allLights, vl_q, h0, shl_all _ hn, bp_q]
  exact c_fewL hN h0 hn hA N 0 (by omega) (by omega)
/-! the model's check -/
theorem m_chkL {S : Nat → Nat} {τ : St} {N s c : Nat} {k22 : Int32 → Option (Int32 × St)} (hR : RS S τ) (hn : S 0 ≤ 8) (hP : ∀ l, l < S 0 → τ.1 215 l = nI (bset (conS S l) l)) (hs : s < 256) : ∀ n l (b : Bool), l ≤ S 0 → S 0 - l < n → (b = true ↔ ∀ k, k < l → ∀ m, m < k → conS S k m = true → s / 2 ^ k % 2 = 1 ∨ s / 2 ^ m % 2 = 1) → f_X12_change_L47 N (nI c) (nI s) τ k22 n (bI b) (nI l) = k22 (bI (vldS S s)) := by
  intro n
  induction n with
  | zero => intro l b _ h; omega
  | succ n ih =>
    intro l b hl hn' hb
    rw [f_X12_change_L47, ald_S hR (by decide), if_leq (by omega) (by omega)]
    have key : (∀ k, k < S 0 → ∀ m, m < k → conS S k m = true → s / 2 ^ k % 2 = 1 ∨ s / 2 ^ m % 2 = 1) ↔ vldS S s = true := by
      rw [vld_iff]
      constructor
      · intro h k hk m hm hcon
        rcases Nat.lt_trichotomy k m with q | q | q
        · exact (h m hm k q (by rw [con_comm]; exact hcon)).symm
        · subst q
          unfold conS at hcon
          rw [decide_eq_false (fun z => z rfl), Bool.false_and] at hcon
          cases hcon
        · exact h k hk m q hcon
      · exact fun h k hk m hm => h k hk m (by omega)
    by_cases hc : S 0 ≤ l
    · rw [if_pos hc]
      obtain rfl : l = S 0 := by omega
      have : b = vldS S s := Bool.eq_iff_iff.mpr (hb.trans key)
      rw [this]
    · rw [if_neg hc, if_bI]
      by_cases hbt : b = true
      · rw [if_pos hbt, m_bitOf hs (by omega), bp_q, jn_q, jn_q, if_bI]
        simp only [vl_q, nI_addq]
        by_cases hz : s / 2 ^ l % 2 = 1
        · rw [decide_eq_true hz, if_pos rfl]
          refine ih (l + 1) true (by omega) (by omega) ⟨fun _ k hk m hm hcon => ?_, fun _ => rfl⟩
          by_cases e : k = l
          · subst e; exact Or.inl hz
          · exact hb.mp hbt k (by omega) m hm hcon
        · have hbl := bset_lt8 (conS S l) (show l ≤ 8 by omega)
          rw [decide_eq_false hz, if_neg Bool.false_ne_true, ald_q (by omega) (by decide), hP l (by omega)]
          by_cases hq : (nI (bset (conS S l) l) &&& (nI s ^^^ (-1))) = 0
          · rw [if_pos hq]
            refine ih (l + 1) true (by omega) (by omega) ⟨fun _ k hk m hm hcon => ?_, fun _ => rfl⟩
            by_cases e : k = l
            · subst e
              refine Or.inr ((sub_q hbl hs).mp hq m (by omega) ?_)
              rw [bset_bit, if_pos ⟨hm, hcon⟩]
            · exact hb.mp hbt k (by omega) m hm hcon
          · rw [if_neg hq]
            refine ih (l + 1) false (by omega) (by omega) ⟨fun z => absurd z Bool.false_ne_true, fun h => ?_⟩
            exfalso
            refine hq ((sub_q hbl hs).mpr (fun m _ hm => ?_))
            rw [bset_bit] at hm
            by_cases z : m < l ∧ conS S l m = true
            · rcases h l (by omega) m z.1 z.2 with w | w
              · exact absurd w hz
              · exact w
            · rw [if_neg z] at hm; omega
      · rw [if_neg hbt]
        have : vldS S s = false := by
          rcases Bool.eq_false_or_eq_true (vldS S s) with v | v
          · exact absurd (hb.mpr (fun k hk m hm hcon => (key.mpr v) k (by omega) m hm hcon)) hbt
          · exact v
        rw [this, Bool.eq_false_iff.mpr hbt]
theorem m_chgL {S : Nat → Nat} {τ : St} {N : Nat} {k9 : Int32 → Option (Int32 × St)} (hN : 500 ≤ N) (hR : RS S τ) (hn : S 0 ≤ 8) (hP : ∀ l, l < S 0 → τ.1 215 l = nI (bset (conS S l) l)) : ∀ n j, j ≤ allS S → allS S + 1 - j < n → f_X12_change_L23 N τ k9 n (nI (bM S j)) (nI (allS S - j)) = k9 (nI (bM S (allS S + 1))) := by
  have hal := all_lt _ hn
  have ea : allS S = 2 ^ S 0 - 1 := rfl
  intro n
  induction n with
  | zero => intro l _ h; omega
  | succ n ih =>
    intro j hj hn'
    obtain ⟨i1, i2, i3, i4⟩ := bM_inv hn j (by omega)
    have p1 := pcN_le (allS S - j)
    have p2 := pcN_le (bM S j)
    rw [f_X12_change_L23, if_lt0 (by omega), m_bits (by omega) (by omega), bp_q, m_bits (by omega) (by omega), bp_q, jn_q, if_ltq (by omega) (by omega)]
    have step : ∀ v, v = nI (bM S (j + 1)) → (vl (nI (allS S - j) + (-1)) fun v36 => f_X12_change_L23 N τ k9 n v v36) = k9 (nI (bM S (allS S + 1))) := by
      intro v hv
      rw [hv, vl_q]
      by_cases e : j = allS S
      · subst e
        rw [Nat.sub_self]
        obtain ⟨n, rfl⟩ : ∃ n', n = n' + 1 := ⟨n - 1, by omega⟩
        rw [f_X12_change_L23, if_pos (by decide)]
      · rw [show allS S - j = (allS S - (j + 1)) + 1 by omega, pk_m1]
        exact ih (j + 1) (by omega) (by omega)
    by_cases hq : pcN (bM S j) < pcN (allS S - j)
    · rw [if_pos hq]
      obtain ⟨N, rfl⟩ : ∃ n', N = n' + 1 := ⟨N - 1, by omega⟩
      have e0 : ∀ k, f_X12_change_L47 (N + 1) (nI (bM S j)) (nI (allS S - j)) τ k (N + 1) (nI 0) (nI 0) = k (nI 0) := by
        intro k
        rw [f_X12_change_L47, ald_S hR (by decide), if_leq (by omega) (by omega)]
        by_cases z : S 0 ≤ 0
        · rw [if_pos z]
        · rw [if_neg z, if_eq0 (by decide), if_pos rfl]
      dsimp only
      rw [e0, jn_q]
      rw [if_eq0 (by decide), if_pos rfl]
      exact step _ (by simp only [bM]; rw [if_neg (fun z => by omega)])
    · rw [if_neg hq]
      have := m_chkL (N := N) (s := allS S - j) (c := bM S j) (k22 := fun v33 => jn (fun v34 => vl (nI (allS S - j) + (-1)) fun v36 => f_X12_change_L23 N τ k9 n v34 v36) fun j35 => if v33 = 0 then j35 (nI (bM S j)) else j35 (nI (allS S - j))) hR hn hP (by omega) N 0 true (by omega) (by omega) ⟨fun _ k hk => by omega, fun _ => rfl⟩
      rw [bI_t] at this
      dsimp only
      rw [this, jn_q, if_bI]
      by_cases hv : vldS S (allS S - j) = true
      · rw [if_pos hv]
        exact step _ (by simp only [bM]; rw [if_pos ⟨by omega, hv⟩])
      · rw [if_neg hv]
        exact step _ (by simp only [bM]; rw [if_neg (fun z => hv z.2)])
/-- the one set that should be changed -/
def chgS (S : Nat → Nat) : Nat := bX S (allS S)
theorem chg_eq {S : Nat → Nat} (hn : S 0 ≤ 8) : bM S (allS S + 1) = chgS S := best_u (bM_best hn) (bX_best hn)
theorem chg_lt {S : Nat → Nat} (hn : S 0 ≤ 8) : chgS S < 256 := Nat.lt_of_le_of_lt (bX_best hn).2.1 (all_lt _ hn)
