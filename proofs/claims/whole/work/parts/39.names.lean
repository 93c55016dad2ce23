/-! names looked up: both sides -/
theorem fstF_c {p : Nat → Bool} : ∀ (f n : Nat), (fstF p f n = -1 ∧ ∀ j, n ≤ j → j < n + f → p j = false) ∨ ∃ k, n ≤ k ∧ k < n + f ∧ p k = true ∧ fstF p f n = nI k
  | 0, n => Or.inl ⟨rfl, fun j h1 h2 => by omega⟩
  | f + 1, n => by
    by_cases q : p n = true
    · exact Or.inr ⟨n, Nat.le_refl _, by omega, q, by simp only [fstF]; rw [if_pos q]⟩
    · rcases fstF_c (p := p) f (n + 1) with ⟨h1, h2⟩ | ⟨k, h1, h2, h3, h4⟩
      · refine Or.inl ⟨by simp only [fstF]; rw [if_neg q]; exact h1, fun j g1 g2 => ?_⟩
        by_cases e : j = n
        · rw [e]; exact Bool.eq_false_iff.mpr q
        · exact h2 j (by omega) (by omega)
      · exact Or.inr ⟨k, by omega, by omega, h3, by simp only [fstF]; rw [if_neg q]; exact h4⟩
theorem fstF_cong {p q : Nat → Bool} : ∀ {f n : Nat}, (∀ j, n ≤ j → j < n + f → p j = q j) → fstF p f n = fstF q f n
  | 0, _, _ => rfl
  | f + 1, n, h => by
    simp only [fstF]
    rw [h n (Nat.le_refl _) (by omega), fstF_cong (f := f) (n := n + 1) (fun j h1 h2 => h j (by omega) (by omega))]
theorem if_lg {T : Type} {x y : Int64} {X Y : T} : (if lg_cmp x y = 0 then X else Y) = if x = y then X else Y := if_iff (lg_cmp_eq _ _)
theorem c_lnL {σ : St} {N a m : Nat} {x : Int64} (h2 : σ.1 a 2 = nI m) (hm : m ≤ 8) : ∀ n l, l ≤ m → m - l < n → f_X1_lightNamed_L2 N a x σ n (nI l) = some (fstF (fun l => decide (σ.2 (rr (rr a 0) l) 0 = x)) (m - l) l) := by
  intro n
  induction n with
  | zero => intro l _ h; omega
  | succ n ih =>
    intro l hl hn
    rw [f_X1_lightNamed_L2, vl_q, h2, if_leq (by omega) (by omega)]
    by_cases hc : m ≤ l
    · rw [if_pos hc, show m - l = 0 by omega]; rfl
    · rw [if_neg hc, ald_q (by omega) (by decide), vl_q, if_lg, vl_q, nI_addq, ih (l + 1) (by omega) (by omega), show m - l = (m - (l + 1)) + 1 by omega]
      simp only [fstF, decide_eq_true_eq]
      split <;> rfl
theorem c_snL {σ : St} {N a m : Nat} {x : Int64} (h2 : σ.1 a 3 = nI m) (hm : m ≤ 4) : ∀ n l, l ≤ m → m - l < n → f_X1_shipNamed_L2 N a x σ n (nI l) = some (fstF (fun l => decide (σ.2 (rr (rr a 1) l) 0 = x)) (m - l) l) := by
  intro n
  induction n with
  | zero => intro l _ h; omega
  | succ n ih =>
    intro l hl hn
    rw [f_X1_shipNamed_L2, vl_q, h2, if_leq (by omega) (by omega)]
    by_cases hc : m ≤ l
    · rw [if_pos hc, show m - l = 0 by omega]; rfl
    · rw [if_neg hc, ald_q (by omega) (by decide), vl_q, if_lg, vl_q, nI_addq, ih (l + 1) (by omega) (by omega), show m - l = (m - (l + 1)) + 1 by omega]
      simp only [fstF, decide_eq_true_eq]
      split <;> rfl
theorem m_skL2 {τ : St} {N f m : Nat} (hf : f + m ≤ 24) : ∀ n l, l ≤ m → m - l < n → f_X12_seek_L2 N (nI f) (nI m) τ n (nI l) = some (fstF (fun l => decide (τ.2 211 (f + l) = τ.2 206 17)) (m - l) l) := by
  intro n
  induction n with
  | zero => intro l _ h; omega
  | succ n ih =>
    intro l hl hn
    rw [f_X12_seek_L2, if_leq (by omega) (by omega)]
    by_cases hc : m ≤ l
    · rw [if_pos hc, show m - l = 0 by omega]; rfl
    · rw [if_neg hc, nI_addq, ald_q (by omega) (by decide), vl_q, if_lg, vl_q, nI_addq, ih (l + 1) (by omega) (by omega), show m - l = (m - (l + 1)) + 1 by omega]
      simp only [fstF, decide_eq_true_eq]
      split <;> rfl
/-- names of n objects: the class's in the cells of row A, the model's from f on -/
def NmR (σ τ : St) (A f n : Nat) : Prop := ∀ l, l < n → ∃ c d, WdP c d ∧ σ.2 (rr A l) 0 = l64 c ∧ τ.2 211 (f + l) = l64 d
theorem NmR_eq {σ τ : St} {A f n c d l : Nat} (h : NmR σ τ A f n) (w : WdP c d) (hl : l < n) : decide (σ.2 (rr A l) 0 = l64 c) = decide (τ.2 211 (f + l) = l64 d) := by
  obtain ⟨c1, d1, w1, e1, e2⟩ := h l hl
  have b1 := WdP_lt w1
  have b2 := WdP_lt w
  rw [e1, e2]
  exact decide_eq_decide.mpr ((l64_inj (by omega) (by omega)).trans ((WdP_eq w1 w).trans (l64_inj (by omega) (by omega)).symm))
/-- where the name at the token stands among m, or -1 -/
def lkN (τ : St) (f m : Nat) : Int32 := fstF (fun l => decide (τ.2 211 (f + l) = τ.2 206 17)) m 0
theorem m_seek {τ : St} {N f m : Nat} (hN : 100 ≤ N) (hf : f + m ≤ 24) : f_X12_seek N (nI f) (nI m) τ = some (lkN τ f m) := m_skL2 (N := N) hf N 0 (by omega) (by omega)
theorem c_lightNamed {σ τ : St} {N a f m c d : Nat} (hN : 100 ≤ N) (h2 : σ.1 a 2 = nI m) (hm : m ≤ 8) (h : NmR σ τ (rr a 0) f m) (w : WdP c d) (h17 : τ.2 206 17 = l64 d) : f_X1_lightNamed N a (l64 c) σ = some (lkN τ f m) := by
  unfold f_X1_lightNamed lkN
  rw [show (0 : Nat) = 0 from rfl, show nI 0 = nI 0 from rfl, c_lnL h2 hm N 0 (by omega) (by omega), Nat.sub_zero, h17]
  exact congrArg some (fstF_cong (fun j _ hj => NmR_eq h w (by omega)))
theorem c_shipNamed {σ τ : St} {N a f m c d : Nat} (hN : 100 ≤ N) (h2 : σ.1 a 3 = nI m) (hm : m ≤ 4) (h : NmR σ τ (rr a 1) f m) (w : WdP c d) (h17 : τ.2 206 17 = l64 d) : f_X1_shipNamed N a (l64 c) σ = some (lkN τ f m) := by
  unfold f_X1_shipNamed lkN
  rw [c_snL h2 hm N 0 (by omega) (by omega), Nat.sub_zero, h17]
  exact congrArg some (fstF_cong (fun j _ hj => NmR_eq h w (by omega)))
theorem lkN_c (τ : St) (f m : Nat) : lkN τ f m = -1 ∨ ∃ l, l < m ∧ lkN τ f m = nI l := by
  rcases fstF_c (p := fun l => decide (τ.2 211 (f + l) = τ.2 206 17)) m 0 with ⟨h, _⟩ | ⟨k, _, h2, _, h4⟩
  · exact Or.inl h
  · exact Or.inr ⟨k, by omega, h4⟩
/-- the fixed row of words in the model -/
def RvR (τ : St) : Prop := ∀ i, i < 27 → τ.2 212 i = l64 (rvM i)
section Look
variable {σ τ : St} {N n L k a b c d v : Nat} {B : Nat → Nat}
/-- a fault while a name is looked up: the class says -1 -/
def BadN (σ τ : St) (x y : Option (Int32 × St)) : Prop := ∃ σ' τ' w a, x = some (-1, σ') ∧ y = some (nI 0, τ') ∧ FltP σ' τ' w a ∧ FK 1 CS σ σ' ∧ FK 206 MS τ τ'
theorem p_lightAt {ch f m : Nat} (hN : 1000 ≤ N) (hR : RvR τ) (h : PR σ τ n L B k a b c d v) (h2 : σ.1 ch 2 = nI m) (hm : m ≤ 8) (hf : f + m ≤ 24) (hn : NmR σ τ (rr ch 0) f m) : BadN σ τ (f_X1_lightAt N ch σ) (f_X12_looksAt N (nI f) (nI m) τ) ∨ (k = 1 ∧ ∃ l, l < m ∧ f_X1_lightAt N ch σ = some (nI l, σ) ∧ f_X12_looksAt N (nI f) (nI m) τ = some (nI 1, sI τ 206 18 (nI l))) := by
  obtain ⟨e1, e2⟩ := p_isName hN hR h
  unfold f_X1_lightAt f_X12_looksAt
  rw [e1, e2, bp_q, bp_q, if_bI, if_bI]
  by_cases q : isNm k c = true
  · have hk : k = 1 := by
      unfold isNm at q
      rw [Bool.and_eq_true, decide_eq_true_eq] at q
      exact q.1
    obtain ⟨w, h17⟩ := h.2.2.1 hk
    have h3 := h.2.1.2.2.2.2.2.1
    rw [if_pos hk] at h3
    rw [if_pos q, if_pos q, vl_q, h3, c_lightNamed (by omega) h2 hm hn w h17, bp_q, m_seek (by omega) hf, bp_q]
    simp only [vl_q]
    have e18 : (sI τ 206 18 (lkN τ f m)).1 206 18 = lkN τ f m := by rw [sI1, if_pos rfl, if_pos rfl]
    rw [e18]
    rcases lkN_c τ f m with z | ⟨l, hl, z⟩
    · have f2 : FK 206 [18] τ (sI τ 206 18 (lkN τ f m)) := FK.rf.sI (by decide)
      obtain ⟨σ', τ', g1, g2, fl, g3, g4⟩ := p_bad (w := 3) (PR_K h (FK.rf (ks := [])) (fun x hx => absurd hx List.not_mem_nil) f2 (by decide)) (by decide)
      rw [z] at g2 f2 g4
      rw [z, if_pos rfl, if_neg (by decide), g1, bd_q, g2, bd_q, if_pos (by decide)]
      exact Or.inl ⟨σ', τ', 3, a, rfl, rfl, fl, g3.mono (by decide), (f2.mono (by decide)).trans (g4.mono (by decide))⟩
    · rw [z, if_nm1 (by omega), if_ge0 (by omega)]
      exact Or.inr ⟨hk, l, hl, rfl, rfl⟩
  · obtain ⟨σ', τ', g1, g2, fl, g3, g4⟩ := p_bad (w := 1) h (by decide)
    rw [if_neg q, if_neg q, g1, bd_q, g2, bd_q, rz_0]
    exact Or.inl ⟨σ', τ', 1, a, rfl, rfl, fl, g3.mono (by decide), g4.mono (by decide)⟩
theorem p_shipAt {ch f m : Nat} (hN : 1000 ≤ N) (hR : RvR τ) (h : PR σ τ n L B k a b c d v) (h2 : σ.1 ch 3 = nI m) (hm : m ≤ 4) (hf : f + m ≤ 24) (hn : NmR σ τ (rr ch 1) f m) : BadN σ τ (f_X1_shipAt N ch σ) (f_X12_looksAt N (nI f) (nI m) τ) ∨ (k = 1 ∧ ∃ l, l < m ∧ f_X1_shipAt N ch σ = some (nI l, σ) ∧ f_X12_looksAt N (nI f) (nI m) τ = some (nI 1, sI τ 206 18 (nI l))) := by
  obtain ⟨e1, e2⟩ := p_isName hN hR h
  unfold f_X1_shipAt f_X12_looksAt
  rw [e1, e2, bp_q, bp_q, if_bI, if_bI]
  by_cases q : isNm k c = true
  · have hk : k = 1 := by
      unfold isNm at q
      rw [Bool.and_eq_true, decide_eq_true_eq] at q
      exact q.1
    obtain ⟨w, h17⟩ := h.2.2.1 hk
    have h3 := h.2.1.2.2.2.2.2.1
    rw [if_pos hk] at h3
    rw [if_pos q, if_pos q, vl_q, h3, c_shipNamed (by omega) h2 hm hn w h17, bp_q, m_seek (by omega) hf, bp_q]
    simp only [vl_q]
    have e18 : (sI τ 206 18 (lkN τ f m)).1 206 18 = lkN τ f m := by rw [sI1, if_pos rfl, if_pos rfl]
    rw [e18]
    rcases lkN_c τ f m with z | ⟨l, hl, z⟩
    · have f2 : FK 206 [18] τ (sI τ 206 18 (lkN τ f m)) := FK.rf.sI (by decide)
      obtain ⟨σ', τ', g1, g2, fl, g3, g4⟩ := p_bad (w := 3) (PR_K h (FK.rf (ks := [])) (fun x hx => absurd hx List.not_mem_nil) f2 (by decide)) (by decide)
      rw [z] at g2 f2 g4
      rw [z, if_pos rfl, if_neg (by decide), g1, bd_q, g2, bd_q, if_pos (by decide)]
      exact Or.inl ⟨σ', τ', 3, a, rfl, rfl, fl, g3.mono (by decide), (f2.mono (by decide)).trans (g4.mono (by decide))⟩
    · rw [z, if_nm1 (by omega), if_ge0 (by omega)]
      exact Or.inr ⟨hk, l, hl, rfl, rfl⟩
  · obtain ⟨σ', τ', g1, g2, fl, g3, g4⟩ := p_bad (w := 1) h (by decide)
    rw [if_neg q, if_neg q, g1, bd_q, g2, bd_q, rz_0]
    exact Or.inl ⟨σ', τ', 1, a, rfl, rfl, fl, g3.mono (by decide), g4.mono (by decide)⟩
/-- a new name: the class tests, the model tests, keeps it at place to and goes on -/
theorem p_fresh {ch m q to : Nat} (hN : 1000 ≤ N) (hR : RvR τ) (h : PR σ τ n L B k a b c d v) (h2 : σ.1 ch 2 = nI m) (hm : m ≤ 8) (hn : NmR σ τ (rr ch 0) 12 m) (h3 : σ.1 ch 3 = nI q) (hq : q ≤ 4) (hs : NmR σ τ (rr ch 1) 20 q) (r0 : τ.1 209 0 = nI m) (r1 : τ.1 209 1 = nI q) (hto : to < 24) : (∃ σ' τ' w a, f_X1_atNewName N ch σ = some (nI 0, σ') ∧ f_X12_fresh N (nI to) τ = some (nI 0, τ') ∧ FltP σ' τ' w a ∧ FK 1 CS σ σ' ∧ FK 206 MS τ τ') ∨ (k = 1 ∧ f_X1_atNewName N ch σ = some (nI 1, σ) ∧ σ.2 1 3 = l64 c ∧ WdP c d ∧ f_X12_fresh N (nI to) τ = bp (f_X12_next N (sL τ 211 to (l64 d))) fun s13 => some (nI 1, s13)) := by
  obtain ⟨e1, e2⟩ := p_isName hN hR h
  unfold f_X1_atNewName f_X12_fresh
  rw [e1, e2, bp_q, bp_q, if_bI, if_bI]
  by_cases y : isNm k c = true
  · have hk : k = 1 := by
      unfold isNm at y
      rw [Bool.and_eq_true, decide_eq_true_eq] at y
      exact y.1
    obtain ⟨w, h17⟩ := h.2.2.1 hk
    have hc3 := h.2.1.2.2.2.2.2.1
    rw [if_pos hk] at hc3
    have X1 := c_lightNamed (N := N) (by omega) h2 hm hn w h17
    have X2 := c_shipNamed (N := N) (by omega) h3 hq hs w h17
    have Y1 := m_seek (τ := τ) (N := N) (f := 12) (m := m) (by omega) (by omega)
    have Y2 := m_seek (τ := τ) (N := N) (f := 20) (m := q) (by omega) (by omega)
    rw [if_pos y, if_pos y, vl_q, hc3, X1, bp_q, ald_q (by decide) (by decide), r0, Y1, bp_q, jn_q, jn_q, jn_q]
    obtain ⟨σ', τ', g1, g2, fl, g3, g4⟩ := p_bad (w := 3) h (by decide)
    have bad : ∀ {X Y : Option (Int32 × St)}, X = some (nI 0, σ') → Y = some (nI 0, τ') → (∃ σ' τ' w a, X = some (nI 0, σ') ∧ Y = some (nI 0, τ') ∧ FltP σ' τ' w a ∧ FK 1 CS σ σ' ∧ FK 206 MS τ τ') := fun {X Y} x1 x2 => ⟨σ', τ', 3, a, x1, x2, fl, g3.mono (by decide), g4.mono (by decide)⟩
    rcases lkN_c τ 12 m with z | ⟨l, hl, z⟩
    · rw [z, if_pos rfl, if_neg (show ¬ (0 : Int32) ≤ -1 by decide), vl_q, X2, bp_q, ald_q (by decide) (by decide), r1, Y2, bp_q]
      rcases lkN_c τ 20 q with z2 | ⟨l2, hl2, z2⟩
      · rw [z2, if_pos rfl, if_pos (show (-1 : Int32) < 0 by decide), vl_q, h17, ald_q hto (by decide)]
        dsimp only
        rw [if_pos (by decide)]
        exact Or.inr ⟨hk, rfl, rfl, w, rfl⟩
      · rw [z2, if_nm1 (by omega), if_lt0 (by omega)]
        refine Or.inl (bad ?_ ?_)
        · dsimp only
          rw [if_neg (by decide), g1, bd_q, if_pos (by decide)]
        · rw [g2, bd_q, rz_0]
    · rw [z, if_nm1 (by omega), if_ge0 (by omega)]
      refine Or.inl (bad ?_ ?_)
      · dsimp only
        rw [if_neg (by decide), g1, bd_q, if_pos (by decide)]
      · rw [g2, bd_q, rz_0]
  · obtain ⟨σ', τ', g1, g2, fl, g3, g4⟩ := p_bad (w := 1) h (by decide)
    rw [if_neg y, if_neg y, g1, bd_q, g2, bd_q, rz_0, rz_0]
    exact Or.inl ⟨σ', τ', 1, a, rfl, rfl, fl, g3.mono (by decide), g4.mono (by decide)⟩
end Look
