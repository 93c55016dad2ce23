/-! a chart's draft while it is read: both sides -/
def RH (h : Nat → Nat) (τ : St) : Prop := ∀ j, j < 147 → τ.1 209 j = nI (h j)
def idxL (l j : Nat) : Prop := j = 3 + l ∨ j = 11 + l ∨ j = 19 + l ∨ j = 27 + l ∨ j = 35 + l ∨ j = 43 + l ∨ (51 + 4 * l ≤ j ∧ j < 55 + 4 * l) ∨ (83 + 4 * l ≤ j ∧ j < 87 + 4 * l) ∨ j = 115 + l ∨ j = 123 + l
def agr (h h' : Nat → Nat) (l : Nat) : Prop := ∀ j, idxL l j → h' j = h j
theorem sumS_a {S S' : Nat → Nat} {l : Nat} (h : agr S S' l) : ∀ k, k ≤ 4 → sumS S' l k = sumS S l k
  | 0, _ => rfl
  | k + 1, hk => by simp only [sumS, dS]; rw [sumS_a h k (by omega), h _ (by unfold idxL; omega), h _ (by unfold idxL; omega)]
theorem perS_a {S S' : Nat → Nat} {l : Nat} (h : agr S S' l) (hf : S (43 + l) ≤ 4) : perS S' l = perS S l := by
  unfold perS
  rw [h (43 + l) (by unfold idxL; omega), sumS_a h _ hf]
theorem onG_a {S S' : Nat → Nat} {l : Nat} (h : agr S S' l) : ∀ n k left, n + k ≤ 4 → onG S' l n k left = onG S l n k left
  | 0, _, _, _ => rfl
  | n + 1, k, left, hk => by
    have e1 : S' (51 + 4 * l + k) = S (51 + 4 * l + k) := h _ (by unfold idxL; omega)
    have e2 : dS S' l k = dS S l k := by unfold dS; rw [e1, h _ (by unfold idxL; omega)]
    simp only [onG, e1, e2, onG_a h n (k + 1) _ (show n + (k + 1) ≤ 4 by omega)]
theorem onS_a {S S' : Nat → Nat} {l : Nat} (h : agr S S' l) (hf : S (43 + l) ≤ 4) (p : Nat) : onS S' l p = onS S l p := by
  unfold onS
  rw [h (43 + l) (by unfold idxL; omega), perS_a h hf, onG_a h 4 0 _ (by omega)]
theorem WFl_a {S S' : Nat → Nat} {l : Nat} (h : agr S S' l) (g : WFl S l) : WFl S' l := by
  obtain ⟨g1, g2, g3, g4, g5, g6, g7, g8, g9⟩ := g
  unfold WFl
  rw [h (3 + l) (by unfold idxL; omega), h (11 + l) (by unfold idxL; omega), h (19 + l) (by unfold idxL; omega), h (27 + l) (by unfold idxL; omega), h (35 + l) (by unfold idxL; omega), h (43 + l) (by unfold idxL; omega), h (115 + l) (by unfold idxL; omega), h (123 + l) (by unfold idxL; omega)]
  exact ⟨g1, g2, g3, g4, g5, g6, fun k hk => by rw [h _ (by unfold idxL; omega), h _ (by unfold idxL; omega)]; exact g7 k hk, g8, g9⟩
theorem LRel_a {S S' : Nat → Nat} {l a : Nat} {σ : St} (h : agr S S' l) (hf : S (43 + l) ≤ 4) (g : LRel σ a S l) : LRel σ a S' l := by
  obtain ⟨r1, r2, r3, r4, r5, r6, r8, r9, r10, r11⟩ := g
  unfold LRel
  rw [h (3 + l) (by unfold idxL; omega), h (11 + l) (by unfold idxL; omega), h (19 + l) (by unfold idxL; omega), h (27 + l) (by unfold idxL; omega), h (35 + l) (by unfold idxL; omega), h (43 + l) (by unfold idxL; omega), h (115 + l) (by unfold idxL; omega), h (123 + l) (by unfold idxL; omega), perS_a h hf]
  exact ⟨r1, r2, r3, r4, r5, r6, r8, r9, r10, fun p hp => by rw [onS_a h hf]; exact r11 p hp⟩
/-! where the draft's cells lie -/
theorem d26 : rr 26 0 = 27 ∧ rr 26 1 = 28 := by decide +kernel
theorem d27 {l : Nat} (h : l < 8) : rr 27 l = 29 + 2 * l := by
  have : ∀ l, l < 8 → rr 27 l = 29 + 2 * l := by decide +kernel
  exact this l h
theorem d27r {l : Nat} (h : l < 8) : rr (29 + 2 * l) 11 = 30 + 2 * l := by
  have : ∀ l, l < 8 → rr (29 + 2 * l) 11 = 30 + 2 * l := by decide +kernel
  exact this l h
theorem d28 {k : Nat} (h : k < 4) : rr 28 k = 45 + k := by
  have : ∀ k, k < 4 → rr 28 k = 45 + k := by decide +kernel
  exact this k h
/-- every light's flag and row hold truths alone -/
def DBl (σ : St) : Prop := ∀ l, l < 8 → (σ.1 (29 + 2 * l) 7 = nI 0 ∨ σ.1 (29 + 2 * l) 7 = nI 1) ∧ ∀ p, p < 160 → σ.1 (30 + 2 * l) p = nI 0 ∨ σ.1 (30 + 2 * l) p = nI 1
def DR (σ τ : St) (h : Nat → Nat) (g : Nat) : Prop := (RH h τ ∧ RvR τ ∧ DBl σ) ∧ (h 0 ≤ 8 ∧ h 1 ≤ 4 ∧ 1 ≤ h 2 ∧ h 2 ≤ 30) ∧ (σ.1 26 2 = nI (h 0) ∧ σ.1 26 3 = nI (h 1) ∧ σ.1 26 4 = nI (h 2)) ∧ (τ.1 206 20 = nI g ∧ g < 2 ^ h 0 ∧ g < 256) ∧ (∀ l, l < h 0 → WFl h l ∧ LRel σ (29 + 2 * l) h l ∧ σ.1 (29 + 2 * l) 7 = nI (g / 2 ^ l % 2)) ∧ (∀ l, h 0 ≤ l → l < 8 → h (43 + l) = 0 ∧ h (115 + l) = 0 ∧ h (123 + l) = 0) ∧ (∀ k, k < h 1 → WFs h k ∧ HRel σ (45 + k) h k) ∧ (NmR σ τ 27 12 (h 0) ∧ NmR σ τ 28 20 (h 1)) ∧ ∃ z : Bool, σ.1 26 6 = bI z ∧ τ.1 206 21 = bI z
/-- the class's told cells -/
def tcl (h : Nat → Nat) (b : Nat) : Prop := b = 26 ∨ (∃ l, l < h 0 ∧ (b = 29 + 2 * l ∨ b = 30 + 2 * l)) ∨ ∃ k, k < h 1 ∧ b = 45 + k
theorem LRel_w {S : Nat → Nat} {l : Nat} {σ σ' : St} (hl : l < 8) (e1 : σ'.1 (29 + 2 * l) = σ.1 (29 + 2 * l)) (e2 : σ'.1 (30 + 2 * l) = σ.1 (30 + 2 * l)) (g : LRel σ (29 + 2 * l) S l) : LRel σ' (29 + 2 * l) S l := by
  unfold LRel at g ⊢
  rw [d27r hl] at g ⊢
  rw [e1, e2]
  exact g
theorem DR_w {σ σ' τ τ' : St} {h : Nat → Nat} {g : Nat} (H : DR σ τ h g) (hc : ∀ b, tcl h b → σ'.1 b = σ.1 b ∧ σ'.2 b = σ.2 b) (hB : DBl σ') (m9 : τ'.1 209 = τ.1 209) (m12 : τ'.2 212 = τ.2 212) (m20 : τ'.1 206 20 = τ.1 206 20) (m21 : τ'.1 206 21 = τ.1 206 21) (m11 : ∀ j, (12 ≤ j ∧ j < 12 + h 0) ∨ (20 ≤ j ∧ j < 20 + h 1) → τ'.2 211 j = τ.2 211 j) : DR σ' τ' h g := by
  obtain ⟨⟨a1, a2, a3⟩, a4, ⟨b1, b2, b3⟩, ⟨c1, c2, c3⟩, c4, c5, c6, ⟨n1, n2⟩, z, z1, z2⟩ := H
  have e26 := (hc 26 (Or.inl rfl)).1
  refine ⟨⟨fun j hj => by rw [m9]; exact a1 j hj, fun i hi => by rw [m12]; exact a2 i hi, hB⟩, a4, ⟨by rw [e26]; exact b1, by rw [e26]; exact b2, by rw [e26]; exact b3⟩, ⟨by rw [m20]; exact c1, c2, c3⟩, fun l hl => ?_, c5, fun k hk => ?_, ⟨fun l hl => ?_, fun l hl => ?_⟩, z, by rw [e26]; exact z1, by rw [m21]; exact z2⟩
  · obtain ⟨x1, x2, x3⟩ := c4 l hl
    have y1 := (hc (29 + 2 * l) (Or.inr (Or.inl ⟨l, hl, Or.inl rfl⟩))).1
    have y2 := (hc (30 + 2 * l) (Or.inr (Or.inl ⟨l, hl, Or.inr rfl⟩))).1
    exact ⟨x1, LRel_w (by omega) y1 y2 x2, by rw [y1]; exact x3⟩
  · obtain ⟨x1, x2⟩ := c6 k hk
    have y1 := (hc (45 + k) (Or.inr (Or.inr ⟨k, hk, rfl⟩))).1
    exact ⟨x1, by unfold HRel at x2 ⊢; rw [y1]; exact x2⟩
  · obtain ⟨c, d, w, x1, x2⟩ := n1 l hl
    rw [d27 (by omega)] at x1 ⊢
    exact ⟨c, d, w, by rw [(hc (29 + 2 * l) (Or.inr (Or.inl ⟨l, hl, Or.inl rfl⟩))).2]; exact x1, by rw [m11 _ (by omega)]; exact x2⟩
  · obtain ⟨c, d, w, x1, x2⟩ := n2 l hl
    rw [d28 (by omega)] at x1 ⊢
    exact ⟨c, d, w, by rw [(hc (45 + l) (Or.inr (Or.inr ⟨l, hl, rfl⟩))).2]; exact x1, by rw [m11 _ (by omega)]; exact x2⟩
theorem DBl_w {σ σ' : St} (h : DBl σ) (e : ∀ b, 29 ≤ b → b < 45 → σ'.1 b = σ.1 b) : DBl σ' := fun l hl => by
  rw [e (29 + 2 * l) (by omega) (by omega), e (30 + 2 * l) (by omega) (by omega)]
  exact h l hl
/-- token steps leave the draft -/
theorem DR_K {σ σ' τ τ' : St} {h : Nat → Nat} {g : Nat} {ks ls : List Nat} (H : DR σ τ h g) (hF : FK 1 ks σ σ') (hG : FK 206 ls τ τ') (h20 : 20 ∉ ls) (h21 : 21 ∉ ls) : DR σ' τ' h g :=
  DR_w H (fun b hb => hF.1 b (by rcases hb with e | ⟨l, _, e | e⟩ | ⟨k, _, e⟩ <;> omega)) (DBl_w H.1.2.2 (fun b h1 h2 => (hF.1 b (by omega)).1)) (hG.1 209 (by decide)).1 (hG.1 212 (by decide)).2 (hG.2 20 h20).1 (hG.2 21 h21).1 (fun j _ => by rw [(hG.1 211 (by decide)).2])
theorem putL_a {h : Nat → Nat} {j v l : Nat} (hj : ¬ idxL l j) : agr h (put h j v) l := fun i hi => put_ne (fun e => hj (e ▸ hi))
/-- a number of the light, or the ship, that is being told -/
theorem DR_put {σ τ : St} {h : Nat → Nat} {g j v : Nat} (H : DR σ τ h g) (hj : (∃ k, h 0 ≤ k ∧ k < 8 ∧ (j = 3 + k ∨ j = 11 + k ∨ j = 19 + k ∨ j = 27 + k ∨ j = 35 + k)) ∨ ∃ k, h 1 ≤ k ∧ k < 4 ∧ (j = 131 + k ∨ j = 135 + k ∨ j = 139 + k ∨ j = 143 + k)) : DR σ (sI τ 209 j (nI v)) (put h j v) g := by
  obtain ⟨⟨a1, a2, a3⟩, a4, ⟨b1, b2, b3⟩, ⟨c1, c2, c3⟩, c4, c5, c6, ⟨n1, n2⟩, z, z1, z2⟩ := H
  have j3 : 3 ≤ j := by rcases hj with ⟨k, _, _, e⟩ | ⟨k, _, _, e⟩ <;> omega
  have e0 : put h j v 0 = h 0 := put_ne (by omega)
  have e1 : put h j v 1 = h 1 := put_ne (by omega)
  have e2 : put h j v 2 = h 2 := put_ne (by omega)
  unfold DR
  rw [e0, e1, e2]
  refine ⟨⟨fun i hi => ?_, a2, a3⟩, a4, ⟨b1, b2, b3⟩, ⟨by rw [sI1, if_neg (by decide)]; exact c1, c2, c3⟩, fun l hl => ?_, fun l h1 h2 => ?_, fun k hk => ?_, ⟨n1, n2⟩, z, z1, by rw [sI1, if_neg (by decide)]; exact z2⟩
  · rw [sI1, if_pos rfl]
    by_cases q : i = j
    · rw [if_pos q, q, put_eq]
    · rw [if_neg q, put_ne q]; exact a1 i hi
  · obtain ⟨x1, x2, x3⟩ := c4 l hl
    have ag : agr h (put h j v) l := putL_a (by
      unfold idxL
      rcases hj with ⟨k, _, _, e⟩ | ⟨k, _, _, e⟩ <;> omega)
    exact ⟨WFl_a ag x1, LRel_a ag x1.2.2.2.2.2.1 x2, x3⟩
  · have := c5 l h1 h2
    rw [put_ne (by rcases hj with ⟨k, _, _, e⟩ | ⟨k, _, _, e⟩ <;> omega), put_ne (by rcases hj with ⟨k, _, _, e⟩ | ⟨k, _, _, e⟩ <;> omega), put_ne (by rcases hj with ⟨k, _, _, e⟩ | ⟨k, _, _, e⟩ <;> omega)]
    exact this
  · obtain ⟨x1, x2⟩ := c6 k hk
    unfold WFs HRel at *
    rw [put_ne (k := j) (j := 131 + k) (by rcases hj with ⟨k', _, _, e⟩ | ⟨k', _, _, e⟩ <;> omega), put_ne (k := j) (j := 135 + k) (by rcases hj with ⟨k', _, _, e⟩ | ⟨k', _, _, e⟩ <;> omega), put_ne (k := j) (j := 139 + k) (by rcases hj with ⟨k', _, _, e⟩ | ⟨k', _, _, e⟩ <;> omega), put_ne (k := j) (j := 143 + k) (by rcases hj with ⟨k', _, _, e⟩ | ⟨k', _, _, e⟩ <;> omega)]
    exact ⟨x1, x2⟩
/-- writes elsewhere leave a token -/
theorem PR_c {σ σ' τ τ' : St} {n L k a b c d v : Nat} {B : Nat → Nat} (h : PR σ τ n L B k a b c d v) (e1 : σ'.1 1 = σ.1 1) (e2 : σ'.1 2 = σ.1 2) (e3 : σ'.2 1 = σ.2 1) (m6 : τ'.1 206 = τ.1 206) (m7 : τ'.1 207 = τ.1 207) (m8 : τ'.2 206 = τ.2 206) : PR σ' τ' n L B k a b c d v := by
  unfold PR TxR TokR at *
  rw [e1, e2, e3, m6, m7, m8]
  exact h
theorem AdvT_c {σ σ' τ τ' : St} {n L b0 : Nat} {B : Nat → Nat} (h : AdvT n L B b0 σ τ) (e1 : σ'.1 1 = σ.1 1) (e2 : σ'.1 2 = σ.1 2) (e3 : σ'.2 1 = σ.2 1) (m6 : τ'.1 206 = τ.1 206) (m7 : τ'.1 207 = τ.1 207) (m8 : τ'.2 206 = τ.2 206) : AdvT n L B b0 σ' τ' := by
  obtain ⟨k, a, b, c, d, v, p, hl⟩ := h
  exact ⟨k, a, b, c, d, v, PR_c p e1 e2 e3 m6 m7 m8, hl⟩
theorem AdvT_mono {σ τ : St} {n L b0 b1 : Nat} {B : Nat → Nat} (h : AdvT n L B b1 σ τ) (hb : b0 ≤ b1) : AdvT n L B b0 σ τ := by
  obtain ⟨k, a, b, c, d, v, p, hl⟩ := h
  exact ⟨k, a, b, c, d, v, p, fun q => by have := hl q; omega⟩
/-- a number is taken, and kept in the model's row -/
theorem p_puts {σ τ : St} {N n L k a b c d v lo hi j : Nat} {B : Nat → Nat} (hN : 1000 ≤ N) (hl : lo ≤ hi) (hh : hi ≤ 1000) (hj : j < 147) (h : PR σ τ n L B k a b c d v) : Bad σ τ (f_X9_takeNumber N (nI lo) (nI hi) σ) (f_X12_puts N (nI j) (nI lo) (nI hi) τ) ∨ (lo ≤ v ∧ v ≤ hi ∧ ∃ σ' τ', f_X9_takeNumber N (nI lo) (nI hi) σ = some (nI 1, σ') ∧ f_X12_puts N (nI j) (nI lo) (nI hi) τ = some (nI 1, sI τ' 209 j (nI v)) ∧ (k = 2 ∧ Adv σ τ n L B b σ' τ') ∧ σ'.1 1 5 = nI v) := by
  unfold f_X12_puts
  rcases p_number hN hl hh h with ⟨σ', τ', w, x, e1, e2, f, g1, g2⟩ | ⟨hk, v1, v2, σ', τ', e1, e2, ad, t5, t18⟩
  · rw [e1, e2, bd_q, if_pos (by decide)]
    exact Or.inl ⟨σ', τ', w, x, rfl, rfl, f, g1, g2⟩
  · rw [e1, e2, bd_q, if_neg (by decide), vl_q, t18, ald_q hj (by decide)]
    exact Or.inr ⟨v1, v2, σ', τ', rfl, rfl, ⟨hk, ad⟩, t5⟩
/-- of the model's names those of the chart that is stay -/
def N12 (τ τ' : St) : Prop := ∀ j, j < 12 → τ'.2 211 j = τ.2 211 j
/-- what a line may come to -/
def LnE (σ τ : St) (n L : Nat) (B : Nat → Nat) (b0 : Nat) (x y : Option (Int32 × St)) : Prop := (∃ σ' τ' w a, x = some (nI 0, σ') ∧ y = some (nI 0, τ') ∧ FltP σ' τ' w a ∧ N12 τ τ' ∧ DBl σ') ∨ ∃ σ' τ' h' g', x = some (nI 1, σ') ∧ y = some (nI 1, τ') ∧ DR σ' τ' h' g' ∧ AdvT n L B b0 σ' τ' ∧ N12 τ τ' ∧ σ'.1 26 5 = σ.1 26 5 ∧ τ'.1 206 19 = τ.1 206 19
theorem DBl_K {σ σ' : St} {ks : List Nat} (h : DBl σ) (g : FK 1 ks σ σ') : DBl σ' := DBl_w h (fun b h1 h2 => (g.1 b (by omega)).1)
theorem DR_dbl {σ τ : St} {h : Nat → Nat} {g : Nat} (D : DR σ τ h g) : DBl σ := D.1.2.2
theorem LnE_bad {σ τ σ1 τ1 : St} {n L b0 : Nat} {B : Nat → Nat} {x y x' y' : Option (Int32 × St)} (h : Bad σ1 τ1 x y) (hn : N12 τ τ1) (hx : ∀ s, x = some (nI 0, s) → x' = some (nI 0, s)) (hy : ∀ s, y = some (nI 0, s) → y' = some (nI 0, s)) (hB : DBl σ1 := by first | exact DR_dbl (by assumption) | exact LB_dbl (by assumption) | exact SB_dbl (by assumption) | exact DBl_K (DR_dbl (by assumption)) (by assumption)) : LnE σ τ n L B b0 x' y' := by
  obtain ⟨σ', τ', w, a, e1, e2, f, g1, g2⟩ := h
  exact Or.inl ⟨σ', τ', w, a, hx _ e1, hy _ e2, f, fun j hj => by rw [(g2.1 211 (by decide)).2]; exact hn j hj, DBl_K hB g1⟩
