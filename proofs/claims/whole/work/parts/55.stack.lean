/-! the model's stack of operators -/
def ZS (τ : St) (z x e : Nat) (Z : Nat → Nat) : Prop := τ.1 206 46 = nI z ∧ τ.1 206 47 = nI x ∧ τ.1 206 48 = nI e ∧ (∀ i, i < z → τ.1 220 i = nI (Z i) ∧ Z i ≤ 23) ∧ z ≤ 40 ∧ 1 ≤ x ∧ x ≤ 20
theorem if_le0q {T : Type} {a : Nat} {X Y : T} (ha : a < 2147483648) : (if nI a ≤ 0 then X else Y) = if a = 0 then X else Y := by
  have := if_leq (T := T) (a := a) (b := 0) (A := X) (B := Y) ha (by decide)
  rw [show (0 : Int32) = nI 0 from rfl, this]
  by_cases z : a = 0
  · rw [if_pos z, if_pos (by omega)]
  · rw [if_neg z, if_neg (by omega)]
theorem nI_sub1 {a : Nat} (h1 : 1 ≤ a) (h2 : a ≤ 1000) : nI a - nI 1 = nI (a - 1) := by
  have : ∀ a, a < 1001 → 1 ≤ a → nI a - nI 1 = nI (a - 1) := by decide +kernel
  exact this a (by omega) h1
section Stk
variable {τ : St} {N z x e c : Nat} {Z : Nat → Nat}
/-- the top is popped -/
def pop (τ : St) (z : Nat) : St := sI τ 206 46 (nI z)
def popN (τ : St) (z x : Nat) : St := sI (sI τ 206 46 (nI z)) 206 47 (nI x)
theorem pop_k {k : Nat} (h : k ≠ 46) : (pop τ z).1 206 k = τ.1 206 k := by unfold pop; rw [sI1, if_pos rfl, if_neg h]
theorem pop_o {b : Nat} (h : b ≠ 206) : (pop τ z).1 b = τ.1 b := sI_ne h
theorem popN_k {k : Nat} (h : k ≠ 46) (h' : k ≠ 47) : (popN τ z x).1 206 k = τ.1 206 k := by unfold popN; rw [sI1, if_pos rfl, if_neg h', sI1, if_pos rfl, if_neg h]
theorem popN_o {b : Nat} (h : b ≠ 206) : (popN τ z x).1 b = τ.1 b := by unfold popN; rw [sI_ne h, sI_ne h]
theorem m_not0 (H : ZS τ z x e Z) (h : z = 0 ∨ Z (z - 1) ≠ 20) (m : Nat) : f_X12_nots_L0 N (m + 1) τ = some τ := by
  obtain ⟨h1, h2, h3, h4, h5, h6, h7⟩ := H
  rw [f_X12_nots_L0, vl_q, h1, if_le0q (by omega)]
  by_cases q : z = 0
  · rw [if_pos q]
  · obtain ⟨t1, t2⟩ := h4 (z - 1) (by omega)
    rw [if_neg q, vl_q, nI_sub1 (by omega) (by omega), ald_q (by omega) (by decide), t1, if_eqq (by omega) (by decide), if_neg (by omega)]
theorem m_not1 (H : ZS τ (z + 1) (x + 1) e Z) (hx : 1 ≤ x) (h : Z z = 20) (h44 : τ.1 206 44 = nI c) (hc : c < 40) (m : Nat) : f_X12_nots_L0 N (m + 1) τ = f_X12_nots_L0 N m (adM (popN τ z x) c 20 0 0) ∧ ZS (adM (popN τ z x) c 20 0 0) z x e Z := by
  obtain ⟨h1, h2, h3, h4, h5, h6, h7⟩ := H
  obtain ⟨t1, t2⟩ := h4 z (by omega)
  refine ⟨?_, ?_, ?_, ?_, fun i hi => ?_, by omega, hx, by omega⟩
  · have e47 : (sI τ 206 46 (nI z)).1 206 47 = nI (x + 1) := by rw [sI1, if_pos rfl, if_neg (by decide)]; exact h2
    have md := m_code (τ := popN τ z x) (c := c) (K := 20) (u := 0) (v := 0) (by rw [popN_k (by decide) (by decide)]; exact h44) (by omega)
    unfold popN at md
    rw [f_X12_nots_L0, vl_q, h1, if_le0q (by omega), if_neg (by omega), vl_q, nI_sub1 (by omega) (by omega), Nat.add_sub_cancel, ald_q (by omega) (by decide), t1, h, if_pos rfl, vl_q, nI_sub1 (by omega) (by omega), Nat.add_sub_cancel, vl_q, vl_q, e47, nI_sub1 (by omega) (by omega), Nat.add_sub_cancel, vl_q, md, bp_q]
    rfl
  · rw [adM_k (by decide)]; unfold popN; rw [sI1, if_pos rfl, if_neg (by decide), sI1, if_pos rfl, if_pos rfl]
  · rw [adM_k (by decide)]; unfold popN; rw [sI1, if_pos rfl, if_pos rfl]
  · rw [adM_k (by decide), popN_k (by decide) (by decide)]; exact h3
  · rw [adM_o (by decide) (by decide), popN_o (by decide)]; exact h4 i (by omega)
theorem m_join0 {o : Nat} (H : ZS τ z x e Z) (ho : o = 21 ∨ o = 22) (h : z = 0 ∨ (Z (z - 1) ≠ 21 ∧ (Z (z - 1) = 22 → o = 21))) (m : Nat) : f_X12_joins_L0 N (nI o) (m + 1) τ = some τ := by
  obtain ⟨h1, h2, h3, h4, h5, h6, h7⟩ := H
  rw [f_X12_joins_L0, vl_q, h1, if_le0q (by omega)]
  by_cases q : z = 0
  · rw [if_pos q]
  · obtain ⟨t1, t2⟩ := h4 (z - 1) (by omega)
    rw [if_neg q, vl_q, nI_sub1 (by omega) (by omega), ald_q (by omega) (by decide), t1, jn_q, if_eqq (by omega) (by decide), if_neg (by omega), vl_q, nI_sub1 (by omega) (by omega), ald_q (by omega) (by decide), t1, if_eqq (by omega) (by decide)]
    by_cases q2 : Z (z - 1) = 22
    · rw [if_pos q2, if_eqq (by omega) (by decide), if_neg (by omega)]
    · rw [if_neg q2]
theorem m_join1 {o : Nat} (H : ZS τ (z + 1) x e Z) (ho : o = 21 ∨ o = 22) (h : Z z = 21 ∨ (Z z = 22 ∧ o = 22)) (h44 : τ.1 206 44 = nI c) (hc : c < 40) (m : Nat) : f_X12_joins_L0 N (nI o) (m + 1) τ = f_X12_joins_L0 N (nI o) m (adM (pop τ z) c (Z z) 0 0) ∧ ZS (adM (pop τ z) c (Z z) 0 0) z x e Z := by
  obtain ⟨h1, h2, h3, h4, h5, h6, h7⟩ := H
  obtain ⟨t1, t2⟩ := h4 z (by omega)
  refine ⟨?_, ?_, ?_, ?_, fun i hi => ?_, by omega, h6, h7⟩
  · have e46 : (sI τ 206 46 (nI z)).1 206 46 = nI z := by rw [sI1, if_pos rfl, if_pos rfl]
    have e20 : (sI τ 206 46 (nI z)).1 220 z = nI (Z z) := by rw [sI_ne (by decide)]; exact t1
    have md := m_code (τ := pop τ z) (c := c) (K := Z z) (u := 0) (v := 0) (by rw [pop_k (by decide)]; exact h44) (by omega)
    unfold pop at md
    have stp : (vl (τ.1 206 46) fun v9 => vl (sI τ 206 46 (v9 - (nI 1))) fun s10 => vl (s10.1 206 46) fun v11 => ald (s10.1 220) 45 v11 fun v12 => bp (f_X12_code v12 (nI 0) (nI 0) s10) fun s13 => f_X12_joins_L0 N (nI o) m s13) = f_X12_joins_L0 N (nI o) m (adM (pop τ z) c (Z z) 0 0) := by
      rw [vl_q, h1, nI_sub1 (by omega) (by omega), Nat.add_sub_cancel, vl_q, vl_q, e46, ald_q (by omega) (by decide), e20, md, bp_q]
      rfl
    rw [f_X12_joins_L0, vl_q, h1, if_le0q (by omega), if_neg (by omega), vl_q, nI_sub1 (by omega) (by omega), Nat.add_sub_cancel, ald_q (by omega) (by decide), t1]
    rw [h1] at stp
    refine (jn_q _ _).trans ?_
    rw [stp, if_eqq (by omega) (by decide)]
    by_cases q : Z z = 21
    · rw [if_pos q]
    · rw [if_neg q, vl_q, nI_sub1 (by omega) (by omega), Nat.add_sub_cancel, ald_q (by omega) (by decide), t1, if_eqq (by omega) (by decide), if_pos (by omega), if_eqq (by omega) (by decide), if_pos (by omega)]
  · rw [adM_k (by decide)]; unfold pop; rw [sI1, if_pos rfl, if_pos rfl]
  · rw [adM_k (by decide), pop_k (by decide)]; exact h2
  · rw [adM_k (by decide), pop_k (by decide)]; exact h3
  · rw [adM_o (by decide) (by decide), pop_o (by decide)]; exact h4 i (by omega)
end Stk
