/-! said: both sides -/
def memF (A : Nat) : Nat → Nat → Nat → Int32
  | 0, _, _ => -1
  | f + 1, l, y => if btA l A = true then (if y = 0 then nI l else memF A f (l + 1) (y - 1)) else memF A f (l + 1) y
theorem memF_s (A f l y : Nat) : memF A (f + 1) l y = if btA l A = true then (if y = 0 then nI l else memF A f (l + 1) (y - 1)) else memF A f (l + 1) y := rfl
theorem memF_0 {A : Nat} : ∀ (f l y : Nat), (∀ m, l ≤ m → m < l + f → ¬ btA m A = true) → memF A f l y = -1
  | 0, _, _, _ => rfl
  | f + 1, l, y, h => by
    rw [memF_s, if_neg (h l (Nat.le_refl _) (by omega))]
    exact memF_0 f (l + 1) y (fun m h1 h2 => h m (by omega) (by omega))
theorem memF_x {A : Nat} : ∀ (f g l y : Nat), (∀ m, l + f ≤ m → m < l + f + g → ¬ btA m A = true) → memF A (f + g) l y = memF A f l y
  | 0, g, l, y, h => by
    rw [Nat.zero_add]
    exact memF_0 g l y (fun m h1 h2 => h m (by omega) (by omega))
  | f + 1, g, l, y, h => by
    rw [show f + 1 + g = f + g + 1 by omega, memF_s, memF_s, memF_x f g (l + 1) (y - 1) (fun m h1 h2 => h m (by omega) (by omega)), memF_x f g (l + 1) y (fun m h1 h2 => h m (by omega) (by omega))]
theorem c_memL {σ : St} {N A : Nat} (hA : A < 256) : ∀ F l y, l ≤ 8 → 8 - l < F → y < 2147483648 → f_X11_memberAt_L4 N (nI A) σ F (nI y) (nI l) = some (memF A (8 - l) l y) := by
  intro F
  induction F with
  | zero => intro l y _ h; omega
  | succ F ih =>
    intro l y hl hF hy
    rw [f_X11_memberAt_L4, if_leq (by decide) (by omega)]
    by_cases z : 8 ≤ l
    · rw [if_pos z, show 8 - l = 0 by omega]
      rfl
    · rw [if_neg z]
      refine (jn_q _ _).trans ?_
      have m2' := m2 (A / 2 ^ l)
      rw [shr_bit l (by omega) _ hA, if_eq0 (by omega), show 8 - l = 8 - (l + 1) + 1 by omega, memF_s]
      by_cases b : A / 2 ^ l % 2 = 0
      · have bt : ¬ btA l A = true := by unfold btA; rw [decide_eq_false (by omega)]; decide
        rw [if_pos b, if_neg bt]
        dsimp only
        rw [vl_q, nI_addq]
        exact ih (l + 1) y (by omega) (by omega) hy
      · have bt : btA l A = true := by unfold btA; exact decide_eq_true (by omega)
        rw [if_neg b, if_pos bt, if_eq0 hy]
        by_cases y0 : y = 0
        · rw [if_pos y0, if_pos y0]
        · rw [if_neg y0, if_neg y0, vl_q, show nI y + (-1) = nI (y - 1) from by rw [← nI_subq (show 1 ≤ y by omega), Int32.sub_eq_add_neg]; rfl]
          dsimp only
          rw [vl_q, nI_addq]
          exact ih (l + 1) (y - 1) (by omega) (by omega) (by omega)
section Sd
variable {S : Nat → Nat} {τ : St} {N c : Nat} {K U V : Nat → Nat}
theorem m_isSaid {l : Nat} {s : St} (hN : 1000 ≤ N) (hR : RS S τ) (hC : WFC S) (hW : WFW S) (hl : l < S 0) (h178 : τ.1 208 178 = nI c) (hc : c ≤ 40) (hQ : CdM τ S c K U V) (hr : rpn K c 1) (ho : ∀ b, b ≠ 221 → s.1 b = τ.1 b) (h2 : s.2 = τ.2) : ∃ s', f_X12_isSaid N (nI l) s = some (bI (btA l (evP S K U V c 0)), s') ∧ (∀ b, b ≠ 221 → s'.1 b = τ.1 b) ∧ s'.2 = τ.2 := by
  unfold f_X12_isSaid
  obtain ⟨s', e, g1, g2, g3⟩ := m_saidL (k5 := fun (s40 : St) => ald (s40.1 221) 45 (nI 0) fun v41 => rz v41 (some (v41, s40))) hN hR hC hW hl h178 hc hQ hr N 0 s (Nat.zero_le _) (by omega) ho h2 (fun j hj => absurd hj (Nat.not_lt_zero _))
  have h1 : Ht K c = 1 := (rpn_h hr).1
  refine ⟨s', ?_, g1, g2⟩
  have : f_X12_isSaid_L4 N (nI l) (fun (s40 : St) => ald (s40.1 221) 45 (nI 0) fun v41 => rz v41 (some (v41, s40))) N (nI 0) (nI 0) s = _ := e
  rw [this, ald_q (by decide) (by decide), g3 0 (by omega), rz_q]
theorem m_saidM {y : Nat} {k7 : Int32 → St → Option (Int32 × St)} (hN : 1000 ≤ N) (hR : RS S τ) (hC : WFC S) (hW : WFW S) (h178 : τ.1 208 178 = nI c) (hc : c ≤ 40) (hQ : CdM τ S c K U V) (hr : rpn K c 1) (hy : y < 2147483648) (hk : ∀ v s, k7 v s = some (-1, s)) : ∀ F l k (s : St), l ≤ S 0 → S 0 - l < F → k ≤ l → k ≤ y → (∀ b, b ≠ 221 → s.1 b = τ.1 b) → s.2 = τ.2 → ∃ s', f_X12_said_L27 N (nI y) k7 F (nI k) (nI l) s = some (memF (evP S K U V c 0) (S 0 - l) l (y - k), s') ∧ (∀ b, b ≠ 221 → s'.1 b = τ.1 b) ∧ s'.2 = τ.2 := by
  have c1 := hC.1
  intro F
  induction F with
  | zero => intro l k s _ h; omega
  | succ F ih =>
    intro l k s hl hF hkl hky ho h2
    rw [f_X12_said_L27, ald_q (by decide) (by decide), ho 208 (by decide), hR 0 (by decide), if_leq (by omega) (by omega)]
    by_cases z : S 0 ≤ l
    · rw [if_pos z, hk, show S 0 - l = 0 by omega]
      exact ⟨s, rfl, ho, h2⟩
    · obtain ⟨s1, e, g1, g2⟩ := m_isSaid hN hR hC hW (show l < S 0 by omega) h178 hc hQ hr ho h2
      rw [if_neg z, e, bd_q, show S 0 - l = S 0 - (l + 1) + 1 by omega, memF_s]
      refine ex_eq (jn_q _ _) ?_
      rw [if_bI]
      by_cases b : btA l (evP S K U V c 0) = true
      · rw [if_pos b, if_pos b, if_eqq (by omega) (by omega)]
        by_cases q : k = y
        · rw [if_pos q, if_pos (by omega)]
          exact ⟨s1, rfl, g1, g2⟩
        · rw [if_neg q, if_neg (show ¬ y - k = 0 by omega), vl_q, nI_addq]
          dsimp only
          rw [vl_q, nI_addq, show y - k - 1 = y - (k + 1) by omega]
          exact ih (l + 1) (k + 1) s1 (by omega) (by omega) (by omega) (by omega) g1 g2
      · rw [if_neg b, if_neg b]
        dsimp only
        rw [vl_q, nI_addq]
        exact ih (l + 1) k s1 (by omega) (by omega) (by omega) hky g1 g2
end Sd
