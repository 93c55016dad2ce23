/-! the model's own helpers -/
def isN (x : Int32) (n : Nat) : Bool := decide (0 ≤ x.toInt ∧ x.toInt < (n : Int))
theorem isN_e {x : Int32} {n : Nat} (h : isN x n = true) (hn : n < 2147483648) : ∃ k, k < n ∧ x = nI k := by
  obtain ⟨h1, h2⟩ := of_decide_eq_true h
  obtain ⟨k, hk, e⟩ := vp_in_of (x := x) (n := n) (vp_in_iff.mpr ⟨h1, h2⟩) hn
  exact ⟨k, hk, e⟩
theorem isN_nI {k n : Nat} (hk : k < 2147483648) : isN (nI k) n = decide (k < n) := by
  unfold isN
  rw [nI_toInt hk]
  exact decide_eq_decide.mpr ⟨fun h => by omega, fun h => by omega⟩
theorem ite_bI {c : Prop} [Decidable c] : (if c then nI 1 else nI 0) = bI (decide c) := by
  by_cases h : c <;> simp [h, bI]
theorem ite_bIn {c : Prop} [Decidable c] : (if c then nI 0 else nI 1) = bI (decide (¬ c)) := by
  by_cases h : c <;> simp [h, bI]
theorem m_isIn (x lo hi : Int32) (τ : St) : f_X12_isIn x lo hi τ = some (bI (decide (lo.toInt ≤ x.toInt ∧ x.toInt ≤ hi.toInt))) := by
  unfold f_X12_isIn
  simp only [jn_q, Int32.lt_iff_toInt_lt]
  split
  · rw [decide_eq_false (by omega)]; rfl
  · split
    · rw [decide_eq_false (by omega)]; rfl
    · rw [decide_eq_true (by omega)]; rfl
theorem m_bitOf {a l : Nat} (ha : a < 256) (hl : l < 8) (τ : St) : f_X12_bitOf (nI a) (nI l) τ = some (bI (decide (a / 2 ^ l % 2 = 1))) := by
  unfold f_X12_bitOf
  rw [shr_bit l hl a ha, if_eqq (by omega) (by decide)]
  split <;> simp_all [bI]
def RS (S : Nat → Nat) (τ : St) : Prop := ∀ j, j < 359 → τ.1 208 j = nI (S j)
theorem ald_S {T : Type} {S : Nat → Nat} {τ : St} {k : Nat} {K : Int32 → Option T} (hR : RS S τ) (hk : k < 359) : ald (τ.1 208) 359 (nI k) K = K (nI (S k)) := by
  rw [ald_q hk (by decide), hR k hk]
theorem m_isLight {S : Nat → Nat} {τ : St} (hR : RS S τ) (hn : S 0 ≤ 8) (x : Int32) : f_X12_isLight x τ = some (bI (isN x (S 0))) := by
  unfold f_X12_isLight
  simp only [ald_S hR (show 0 < 359 by decide), m_isIn, bp_q, rz_q]
  congr 2
  unfold isN
  have e1 : (nI 0).toInt = 0 := rfl
  have e2 := pk_sub_toInt (a := S 0) (b := 1) (by omega) (by decide)
  rw [e1, e2]
  exact decide_eq_decide.mpr ⟨fun h => by omega, fun h => by omega⟩
theorem m_isShip {S : Nat → Nat} {τ : St} (hR : RS S τ) (hn : S 1 ≤ 4) (x : Int32) : f_X12_isShip x τ = some (bI (isN x (S 1))) := by
  unfold f_X12_isShip
  simp only [ald_S hR (show 1 < 359 by decide), m_isIn, bp_q, rz_q]
  congr 2
  unfold isN
  have e1 : (nI 0).toInt = 0 := rfl
  have e2 := pk_sub_toInt (a := S 1) (b := 1) (by omega) (by decide)
  rw [e1, e2]
  exact decide_eq_decide.mpr ⟨fun h => by omega, fun h => by omega⟩
/-! the chart's part of a state, well formed -/
def WFl (S : Nat → Nat) (l : Nat) : Prop := S (3 + l) ≤ 19 ∧ S (11 + l) ≤ 19 ∧ (1 ≤ S (19 + l) ∧ S (19 + l) ≤ 30) ∧ (1 ≤ S (27 + l) ∧ S (27 + l) ≤ 3) ∧ S (35 + l) ≤ 999 ∧ S (43 + l) ≤ 4 ∧ (∀ k, k < S (43 + l) → (1 ≤ S (51 + 4 * l + k) ∧ S (51 + 4 * l + k) ≤ 20) ∧ 1 ≤ S (83 + 4 * l + k) ∧ S (83 + 4 * l + k) ≤ 20) ∧ S (115 + l) ≤ 59 ∧ S (123 + l) < 256
def WFs (S : Nat → Nat) (k : Nat) : Prop := S (131 + k) ≤ 19 ∧ S (135 + k) ≤ 19 ∧ S (139 + k) ≤ 8 ∧ 1 ≤ S (143 + k) ∧ S (143 + k) ≤ 60
def WFC (S : Nat → Nat) : Prop := S 0 ≤ 8 ∧ S 1 ≤ 4 ∧ (1 ≤ S 2 ∧ S 2 ≤ 30) ∧ (∀ l, l < S 0 → WFl S l) ∧ ∀ k, k < S 1 → WFs S k
/-- the window 147 .. 177: what is so in a second -/
def WFW (S : Nat → Nat) : Prop := S 147 ≤ 5000 ∧ (S 148 < 256 ∧ S 148 < 2 ^ S 0) ∧ (1 ≤ S 149 ∧ S 149 ≤ 30) ∧ (∀ l, l < S 0 → S (150 + l) ≤ 999 ∧ S (158 + l) < 160) ∧ ∀ k, k < S 1 → S (166 + k) ≤ 19 ∧ S (170 + k) ≤ 19 ∧ S (174 + k) ≤ 8
/-! periods and characters -/
def dS (S : Nat → Nat) (l k : Nat) : Nat := S (51 + 4 * l + k) + S (83 + 4 * l + k)
def sumS (S : Nat → Nat) (l : Nat) : Nat → Nat
  | 0 => 0
  | k + 1 => sumS S l k + dS S l k
def perS (S : Nat → Nat) (l : Nat) : Nat := if sumS S l (S (43 + l)) = 0 then 1 else sumS S l (S (43 + l))
theorem sumS_le {S : Nat → Nat} {l : Nat} (h : WFl S l) : ∀ k, k ≤ S (43 + l) → sumS S l k ≤ 40 * k
  | 0, _ => by simp [sumS]
  | k + 1, hk => by
    have := sumS_le h k (by omega)
    have h7 := h.2.2.2.2.2.2.1 k (by omega)
    simp only [sumS, dS]
    omega
theorem sumS_ge {S : Nat → Nat} {l : Nat} (h : WFl S l) : ∀ k, k ≤ S (43 + l) → 2 * k ≤ sumS S l k
  | 0, _ => by simp [sumS]
  | k + 1, hk => by
    have := sumS_ge h k (by omega)
    have h7 := h.2.2.2.2.2.2.1 k (by omega)
    simp only [sumS, dS]
    omega
theorem perS_pos (S : Nat → Nat) (l : Nat) : 0 < perS S l := by unfold perS; split <;> omega
theorem perS_le {S : Nat → Nat} {l : Nat} (h : WFl S l) : perS S l ≤ 160 := by
  have := sumS_le h _ (Nat.le_refl _)
  have h6 := h.2.2.2.2.2.1
  unfold perS
  split <;> omega
theorem m_periodL {S : Nat → Nat} {τ : St} {N l : Nat} {k4 : Int32 → Option Int32} (hR : RS S τ) (hl : l < 8) (h : WFl S l) : ∀ n k, k ≤ S (43 + l) → S (43 + l) - k < n → f_X12_periodOf_L4 N (nI l) τ k4 n (nI (sumS S l k)) (nI k) = k4 (nI (sumS S l (S (43 + l)))) := by
  intro n
  induction n with
  | zero => intro k _ h2; omega
  | succ n ih =>
    intro k hk hn
    have h6 := h.2.2.2.2.2.1
    have hs := sumS_le h k hk
    rw [f_X12_periodOf_L4]
    simp only [nI_addq, nI_mulq, vl_q]
    rw [ald_S hR (by omega), if_leq (by omega) (by omega)]
    by_cases hc : S (43 + l) ≤ k
    · rw [if_pos hc]
      obtain rfl : k = S (43 + l) := by omega
      rfl
    · rw [if_neg hc, ald_S hR (by omega), ald_S hR (by omega)]
      have := ih (k + 1) (by omega) (by omega)
      simp only [nI_addq]
      exact this
theorem m_periodOf {S : Nat → Nat} {τ : St} {N l : Nat} (hN : 10 ≤ N) (hR : RS S τ) (hl : l < 8) (h : WFl S l) : f_X12_periodOf N (nI l) τ = some (nI (perS S l)) := by
  unfold f_X12_periodOf
  have h6 := h.2.2.2.2.2.1
  have hs := sumS_le h _ (Nat.le_refl _)
  have := m_periodL (k4 := fun v13 => if v13 = 0 then some (nI 1) else some v13) (N := N) hR hl h N 0 (by omega) (by omega)
  rw [show nI (sumS S l 0) = nI 0 from rfl] at this
  rw [this, if_eq0 (by omega)]
  unfold perS
  split <;> rfl
/-- on or off, left seconds behind the beginning of the k-th 'flash' -/
def onG (S : Nat → Nat) (l : Nat) : Nat → Nat → Nat → Bool
  | 0, _, _ => false
  | n + 1, k, left => if left < dS S l k then decide (left < S (51 + 4 * l + k)) else onG S l n (k + 1) (left - dS S l k)
def onS (S : Nat → Nat) (l p : Nat) : Bool := if S (43 + l) = 0 then true else onG S l 4 0 (p % perS S l)
theorem m_isOnL {S : Nat → Nat} {τ : St} {N l : Nat} (hR : RS S τ) (hl : l < 8) (h : WFl S l) (k7 : Int32 → Int32 → Option Int32) (hk7 : ∀ k left, k < S (43 + l) → left < dS S l k → k7 (nI left) (nI k) = some (bI (decide (left < S (51 + 4 * l + k))))) : ∀ m n k left, S (43 + l) ≤ k + m → m < n → left + sumS S l k < sumS S l (S (43 + l)) → left < 160 → f_X12_isOn_L25 N (nI l) τ k7 n (nI left) (nI k) = some (bI (onG S l m k left)) := by
  intro m
  induction m with
  | zero =>
    intro n k left hk hn hlt h160
    exfalso
    have : sumS S l (S (43 + l)) ≤ sumS S l k := by
      have mono : ∀ a b, a ≤ b → sumS S l a ≤ sumS S l b := by
        intro a b hab
        induction b with
        | zero => obtain rfl : a = 0 := by omega
                  exact Nat.le_refl _
        | succ b ihb =>
          rcases Nat.lt_or_ge b a with q | q
          · obtain rfl : a = b + 1 := by omega
            exact Nat.le_refl _
          · have := ihb q; simp only [sumS]; omega
      exact mono _ _ (by omega)
    omega
  | succ m ih =>
    intro n k left hk hn hlt h160
    have h6 := h.2.2.2.2.2.1
    have hkF : k < S (43 + l) := by
      rcases Nat.lt_or_ge k (S (43 + l)) with q | q
      · exact q
      · exfalso
        have mono : ∀ b, S (43 + l) ≤ b → sumS S l (S (43 + l)) ≤ sumS S l b := by
          intro b hab
          induction b with
          | zero => rw [Nat.le_zero.mp hab]; exact Nat.le_refl _
          | succ b ihb =>
            rcases Nat.lt_or_ge b (S (43 + l)) with q | q
            · rw [show S (43 + l) = b + 1 by omega]; exact Nat.le_refl _
            · have := ihb q; simp only [sumS]; omega
        have := mono k q
        omega
    obtain ⟨n, rfl⟩ : ∃ n', n = n' + 1 := ⟨n - 1, by omega⟩
    have h7 := h.2.2.2.2.2.2.1 k hkF
    have hs1 : sumS S l (k + 1) = sumS S l k + dS S l k := rfl
    rw [f_X12_isOn_L25]
    simp only [nI_addq, nI_mulq, vl_q]
    rw [ald_S hR (by omega), ald_S hR (by omega)]
    simp only [nI_addq]
    rw [if_ltq (by omega) (by omega), show S (51 + 4 * l + k) + S (83 + 4 * l + k) = dS S l k from rfl]
    by_cases hc : left < dS S l k
    · rw [if_pos hc, hk7 k left hkF hc]
      simp only [onG, if_pos hc]
    · rw [if_neg hc, ald_S hR (by omega), ald_S hR (by omega)]
      simp only [nI_addq]
      rw [show S (51 + 4 * l + k) + S (83 + 4 * l + k) = dS S l k from rfl, nI_subq (by omega), ih n (k + 1) (left - dS S l k) (by omega) (by omega) (by omega) (by omega)]
      simp only [onG, if_neg hc]
theorem m_isOn {S : Nat → Nat} {τ : St} {N l p : Nat} (hN : 10 ≤ N) (hR : RS S τ) (hl : l < 8) (h : WFl S l) (hp : p < 2147483648) : f_X12_isOn N (nI l) (nI p) τ = some (bI (onS S l p)) := by
  unfold f_X12_isOn
  have h6 := h.2.2.2.2.2.1
  have hge := sumS_ge h _ (Nat.le_refl _)
  have hle := perS_le h
  simp only [nI_addq]
  rw [ald_S hR (by omega), if_eq0 (by omega), onS]
  by_cases hz : S (43 + l) = 0
  · rw [if_pos hz, if_pos hz]; rfl
  · rw [if_neg hz, if_neg hz, m_periodOf hN hR hl h, bp_q, rm_q hp (perS_pos S l) (by omega)]
    have hper : perS S l = sumS S l (S (43 + l)) := by
      unfold perS; rw [if_neg (by omega)]
    have hmod := Nat.mod_lt p (perS_pos S l)
    refine m_isOnL hR hl h _ (fun k left hk hlt => ?_) 4 N 0 (p % perS S l) (by omega) (by omega) (by show _ + 0 < _; omega) (by omega)
    have h7 := h.2.2.2.2.2.2.1 k hk
    simp only [nI_addq, nI_mulq, dS] at hlt ⊢
    rw [ald_S hR (by omega), if_leq (by omega) (by omega)]
    by_cases hc : S (51 + 4 * l + k) ≤ left
    · rw [if_pos hc, decide_eq_false (by omega)]; rfl
    · rw [if_neg hc, decide_eq_true (by omega)]; rfl
