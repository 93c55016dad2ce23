/-! the line 'flash': both sides -/
theorem sumS_mono (S : Nat → Nat) (l : Nat) {a : Nat} : ∀ {b : Nat}, a ≤ b → sumS S l a ≤ sumS S l b
  | 0, h => by rw [Nat.le_zero.mp h]; exact Nat.le_refl _
  | b + 1, h => by
    by_cases q : a = b + 1
    · rw [q]; exact Nat.le_refl _
    · have := sumS_mono S l (a := a) (b := b) (by omega)
      simp only [sumS]; omega
theorem onG_lo {S S' : Nat → Nat} {l K : Nat} (he : ∀ i, i < K → S' (51 + 4 * l + i) = S (51 + 4 * l + i) ∧ S' (83 + 4 * l + i) = S (83 + 4 * l + i)) : ∀ n k left, left + sumS S l k < sumS S l K → onG S' l n k left = onG S l n k left
  | 0, _, _, _ => rfl
  | n + 1, k, left, h => by
    have hk : k < K := by
      rcases Nat.lt_or_ge k K with q | q
      · exact q
      · have := sumS_mono S l q; omega
    have e1 := (he k hk).1
    have e2 : dS S' l k = dS S l k := by unfold dS; rw [(he k hk).1, (he k hk).2]
    simp only [onG, e1, e2]
    by_cases q : left < dS S l k
    · rw [if_pos q, if_pos q]
    · rw [if_neg q, if_neg q]
      exact onG_lo he n (k + 1) _ (by simp only [sumS]; omega)
theorem onG_hi {S : Nat → Nat} {l K r : Nat} : ∀ m n k, k + m = K → onG S l (n + m) k (sumS S l K - sumS S l k + r) = onG S l n K r
  | 0, n, k, h => by
    obtain rfl : k = K := by omega
    rw [Nat.sub_self, Nat.zero_add]; rfl
  | m + 1, n, k, h => by
    have h1 : sumS S l (k + 1) = sumS S l k + dS S l k := rfl
    have h2 := sumS_mono S l (show k + 1 ≤ K by omega)
    rw [show n + (m + 1) = (n + m) + 1 by omega]
    simp only [onG]
    rw [if_neg (by omega), show sumS S l K - sumS S l k + r - dS S l k = sumS S l K - sumS S l (k + 1) + r by omega]
    exact onG_hi m n (k + 1) (by omega)
/-- a row of seconds is laid -/
theorem c_addL {N A n P : Nat} {sh : Bool} {s0 : St} (hA : A ≠ rr A 11) (hP : P + n ≤ 160) : ∀ m i s, i ≤ n → n - i < m → s.1 A = upd (s0.1 A) 10 (nI (P + i)) → (∀ p, s.1 (rr A 11) p = if P ≤ p ∧ p < P + i then bI sh else s0.1 (rr A 11) p) → (∀ b, b ≠ A → b ≠ rr A 11 → s.1 b = s0.1 b) → s.2 = s0.2 → ∃ s', f_X4_addSeconds_L2 N A (nI n) (bI sh) m (nI i) s = some s' ∧ s'.1 A = upd (s0.1 A) 10 (nI (P + n)) ∧ (∀ p, s'.1 (rr A 11) p = if P ≤ p ∧ p < P + n then bI sh else s0.1 (rr A 11) p) ∧ (∀ b, b ≠ A → b ≠ rr A 11 → s'.1 b = s0.1 b) ∧ s'.2 = s0.2 := by
  intro m
  induction m with
  | zero => intro i s _ h; omega
  | succ m ih =>
    intro i s hi hm e1 e2 e3 e4
    rw [f_X4_addSeconds_L2, if_leq (by omega) (by omega)]
    by_cases hc : n ≤ i
    · rw [if_pos hc]
      obtain rfl : i = n := by omega
      exact ⟨s, rfl, e1, e2, e3, e4⟩
    · have e10 : s.1 A 10 = nI (P + i) := by rw [e1]; rfl
      rw [if_neg hc, vl_q, e10, if_leq (by decide) (by omega), if_neg (by omega), vl_q, ald_q (by omega) (by decide), bI_and1]
      simp only [vl_q, nI_addq]
      have e11 : (sI s (rr A 11) (P + i) (bI sh)).1 A 10 = nI (P + i) := by rw [sI_ne hA]; exact e10
      rw [e11, nI_addq]
      refine ih (i + 1) _ (by omega) (by omega) ?_ (fun p => ?_) (fun b h1 h2 => by rw [sI_ne h1, sI_ne h2]; exact e3 b h1 h2) e4
      · rw [sI_row, sI_ne hA, e1]
        funext j
        unfold upd
        by_cases q : j = 10
        · rw [if_pos q, if_pos q, Nat.add_assoc]
        · rw [if_neg q, if_neg q, if_neg q]
      · rw [sI_ne hA.symm, sI1, if_pos rfl]
        by_cases q : p = P + i
        · rw [if_pos q, if_pos (by omega)]
        · rw [if_neg q, e2]
          by_cases w : P ≤ p ∧ p < P + i
          · rw [if_pos w, if_pos (by omega)]
          · rw [if_neg w, if_neg (by omega)]
theorem c_addSec {N A n P : Nat} {sh : Bool} {s0 : St} (hN : 1000 ≤ N) (hA : A ≠ rr A 11) (hP : P + n ≤ 160) (h10 : s0.1 A 10 = nI P) : ∃ s', f_X4_addSeconds N A (nI n) (bI sh) s0 = some s' ∧ s'.1 A = upd (s0.1 A) 10 (nI (P + n)) ∧ (∀ p, s'.1 (rr A 11) p = if P ≤ p ∧ p < P + n then bI sh else s0.1 (rr A 11) p) ∧ (∀ b, b ≠ A → b ≠ rr A 11 → s'.1 b = s0.1 b) ∧ s'.2 = s0.2 := by
  refine c_addL hA hP N 0 s0 (by omega) (by omega) ?_ (fun p => by rw [if_neg (by omega)]) (fun _ _ _ => rfl) rfl
  funext j
  unfold upd
  by_cases q : j = 10
  · rw [if_pos q, q, h10]; rfl
  · rw [if_neg q]
/-- a 'flash' more of light l -/
def flT (h : Nat → Nat) (l on off : Nat) : Nat → Nat := put (put (put h (51 + 4 * l + h (43 + l)) on) (83 + 4 * l + h (43 + l)) off) (43 + l) (h (43 + l) + 1)
theorem perS_F {h : Nat → Nat} {l : Nat} (w : WFl h l) : (if h (43 + l) = 0 then 0 else perS h l) = sumS h l (h (43 + l)) := by
  by_cases q : h (43 + l) = 0
  · rw [if_pos q, q]; rfl
  · have := sumS_ge w _ (Nat.le_refl _)
    rw [if_neg q]
    unfold perS
    rw [if_neg (by omega)]
theorem fl_at {h : Nat → Nat} {l on off : Nat} (hl : l < 8) (hK : h (43 + l) < 4) : flT h l on off (43 + l) = h (43 + l) + 1 ∧ flT h l on off (51 + 4 * l + h (43 + l)) = on ∧ flT h l on off (83 + 4 * l + h (43 + l)) = off ∧ ∀ j, j ≠ 43 + l → j ≠ 51 + 4 * l + h (43 + l) → j ≠ 83 + 4 * l + h (43 + l) → flT h l on off j = h j := by
  unfold flT
  refine ⟨put_eq _ _ _, ?_, ?_, fun j h1 h2 h3 => ?_⟩
  · rw [put_ne (by omega), put_ne (by omega), put_eq]
  · rw [put_ne (by omega), put_eq]
  · rw [put_ne h1, put_ne h3, put_ne h2]
theorem sumS_fl {h : Nat → Nat} {l on off : Nat} (hl : l < 8) (hK : h (43 + l) < 4) : ∀ k, k ≤ h (43 + l) → sumS (flT h l on off) l k = sumS h l k
  | 0, _ => rfl
  | k + 1, hk => by
    obtain ⟨f1, f2, f3, f4⟩ := fl_at (h := h) (on := on) (off := off) hl hK
    simp only [sumS, dS]
    rw [sumS_fl hl hK k (by omega), f4 _ (by omega) (by omega) (by omega), f4 _ (by omega) (by omega) (by omega)]
theorem fl_WFl {h : Nat → Nat} {l on off : Nat} (hl : l < 8) (hK : h (43 + l) < 4) (w : WFl h l) (h1 : 1 ≤ on ∧ on ≤ 20) (h2 : 1 ≤ off ∧ off ≤ 20) : WFl (flT h l on off) l := by
  obtain ⟨f1, f2, f3, f4⟩ := fl_at (h := h) (on := on) (off := off) hl hK
  obtain ⟨g1, g2, g3, g4, g5, g6, g7, g8, g9⟩ := w
  unfold WFl
  rw [f1, f4 (3 + l) (by omega) (by omega) (by omega), f4 (11 + l) (by omega) (by omega) (by omega), f4 (19 + l) (by omega) (by omega) (by omega), f4 (27 + l) (by omega) (by omega) (by omega), f4 (35 + l) (by omega) (by omega) (by omega), f4 (115 + l) (by omega) (by omega) (by omega), f4 (123 + l) (by omega) (by omega) (by omega)]
  refine ⟨g1, g2, g3, g4, g5, by omega, fun k hk => ?_, g8, g9⟩
  by_cases q : k = h (43 + l)
  · rw [q, f2, f3]; exact ⟨h1, h2⟩
  · rw [f4 _ (by omega) (by omega) (by omega), f4 _ (by omega) (by omega) (by omega)]
    exact g7 k (by omega)
theorem fl_per {h : Nat → Nat} {l on off : Nat} (hl : l < 8) (hK : h (43 + l) < 4) (w : WFl h l) (h1 : 1 ≤ on) : perS (flT h l on off) l = sumS h l (h (43 + l)) + on + off := by
  obtain ⟨f1, f2, f3, f4⟩ := fl_at (h := h) (on := on) (off := off) hl hK
  have e : sumS (flT h l on off) l (h (43 + l) + 1) = sumS h l (h (43 + l)) + (on + off) := by
    simp only [sumS]
    rw [sumS_fl hl hK _ (Nat.le_refl _)]
    unfold dS
    rw [f2, f3]
  unfold perS
  rw [f1, e, if_neg (by omega)]
  omega
theorem fl_on {h : Nat → Nat} {l on off p : Nat} (hl : l < 8) (hK : h (43 + l) < 4) (w : WFl h l) (h1 : 1 ≤ on) (hp : p < sumS h l (h (43 + l)) + on + off) : onS (flT h l on off) l p = if p < sumS h l (h (43 + l)) then onS h l p else decide (p - sumS h l (h (43 + l)) < on) := by
  obtain ⟨f1, f2, f3, f4⟩ := fl_at (h := h) (on := on) (off := off) hl hK
  have per := fl_per (off := off) hl hK w h1
  unfold onS
  rw [f1, if_neg (by omega), per, Nat.mod_eq_of_lt hp]
  by_cases q : p < sumS h l (h (43 + l))
  · rw [if_pos q]
    have hF0 : ¬ h (43 + l) = 0 := fun e => by rw [e] at q; simp only [sumS] at q; omega
    have hper : perS h l = sumS h l (h (43 + l)) := by
      have := perS_F w
      rw [if_neg hF0] at this
      exact this
    rw [if_neg hF0, hper, Nat.mod_eq_of_lt q]
    exact onG_lo (K := h (43 + l)) (fun i hi => ⟨f4 _ (by omega) (by omega) (by omega), f4 _ (by omega) (by omega) (by omega)⟩) 4 0 p (by simp only [sumS]; omega)
  · rw [if_neg q]
    have e := onG_hi (S := flT h l on off) (l := l) (K := h (43 + l)) (r := p - sumS h l (h (43 + l))) (h (43 + l)) (4 - h (43 + l)) 0 (by omega)
    rw [show 4 - h (43 + l) + h (43 + l) = 4 by omega, sumS_fl hl hK _ (Nat.le_refl _), show sumS (flT h l on off) l 0 = 0 from rfl, Nat.sub_zero, show sumS h l (h (43 + l)) + (p - sumS h l (h (43 + l))) = p by omega] at e
    rw [e, show 4 - h (43 + l) = (3 - h (43 + l)) + 1 by omega]
    simp only [onG]
    unfold dS
    rw [f2, f3, if_pos (by omega)]
theorem c_flash {σ : St} {h : Nat → Nat} {N l on off : Nat} (hN : 1000 ≤ N) (hl : l < 8) (hK : h (43 + l) < 4) (w : WFl h l) (R : LRel σ (29 + 2 * l) h l) (h1 : 1 ≤ on ∧ on ≤ 20) (h2 : 1 ≤ off ∧ off ≤ 20) : ∃ σ', f_X4_addFlash N (29 + 2 * l) (nI on) (nI off) σ = some σ' ∧ LRel σ' (29 + 2 * l) (flT h l on off) l ∧ (∀ b, b ≠ 29 + 2 * l → b ≠ 30 + 2 * l → σ'.1 b = σ.1 b) ∧ σ'.2 = σ.2 ∧ σ'.1 (29 + 2 * l) 7 = σ.1 (29 + 2 * l) 7 ∧ ∀ p, σ'.1 (30 + 2 * l) p = σ.1 (30 + 2 * l) p ∨ σ'.1 (30 + 2 * l) p = nI 0 ∨ σ'.1 (30 + 2 * l) p = nI 1 := by
  obtain ⟨r1, r2, r3, r4, r5, r6, r8, r9, r10, r11⟩ := id R
  obtain ⟨f1, f2, f3, f4⟩ := fl_at (h := h) (on := on) (off := off) hl hK
  have hs := sumS_le w _ (Nat.le_refl _)
  have hp := perS_le w
  have hA : 29 + 2 * l ≠ rr (29 + 2 * l) 11 := by rw [d27r hl]; omega
  rw [d27r hl] at r11
  -- the store once the count is up
  have key : ∃ s5, (∀ (K : St → Option St), (jn (fun (s2 : St) => vl (s2.1 (29 + 2 * l) 9) fun v4 => vl (sI s2 (29 + 2 * l) 9 (v4 + (nI 1))) fun s5 => K s5) fun j3 => if nI (h (43 + l)) = 0 then vl (sI σ (29 + 2 * l) 10 (nI 0)) fun s8 => j3 s8 else j3 σ) = K s5) ∧ (∀ b, b ≠ 29 + 2 * l → s5.1 b = σ.1 b) ∧ s5.2 = σ.2 ∧ s5.1 (29 + 2 * l) 10 = nI (sumS h l (h (43 + l))) ∧ s5.1 (29 + 2 * l) 9 = nI (h (43 + l) + 1) ∧ ∀ j, j ≠ 9 → j ≠ 10 → s5.1 (29 + 2 * l) j = σ.1 (29 + 2 * l) j := by
    by_cases q : h (43 + l) = 0
    · refine ⟨sI (sI σ (29 + 2 * l) 10 (nI 0)) (29 + 2 * l) 9 (nI (h (43 + l) + 1)), fun K => ?_, fun b hb => by rw [sI_ne hb, sI_ne hb], rfl, ?_, by rw [sI1, if_pos rfl, if_pos rfl], fun j a1 a2 => by rw [sI1, if_pos rfl, if_neg a1, sI1, if_pos rfl, if_neg a2]⟩
      · refine (jn_q _ _).trans ?_
        rw [if_pos (by rw [q]; rfl), vl_q]
        dsimp only
        rw [vl_q, vl_q, sI1, if_pos rfl, if_neg (by decide), r9, nI_addq]
      · rw [sI1, if_pos rfl, if_neg (by decide), sI1, if_pos rfl, if_pos rfl, q]; rfl
    · refine ⟨sI σ (29 + 2 * l) 9 (nI (h (43 + l) + 1)), fun K => ?_, fun b hb => by rw [sI_ne hb], rfl, ?_, by rw [sI1, if_pos rfl, if_pos rfl], fun j a1 a2 => by rw [sI1, if_pos rfl, if_neg a1]⟩
      · refine (jn_q _ _).trans ?_
        rw [if_neg (by rw [nI_eq0 (by omega)]; exact q)]
        dsimp only
        rw [vl_q, vl_q, r9, nI_addq]
      · have := perS_F w
        rw [if_neg q] at this
        rw [sI1, if_pos rfl, if_neg (by decide), r10, this]
  obtain ⟨s5, k1, k2, k3, k4, k5, k6⟩ := key
  obtain ⟨s6, a1, a2, a3, a4, a5⟩ := c_addSec (N := N) (sh := true) (n := on) (P := sumS h l (h (43 + l))) hN hA (by omega) k4
  obtain ⟨s7, b1, b2, b3, b4, b5⟩ := c_addSec (N := N) (s0 := s6) (sh := false) (n := off) (P := sumS h l (h (43 + l)) + on) hN hA (by omega) (by rw [a2]; rfl)
  rw [d27r hl] at a3 a4 b3 b4
  rw [bI_t] at a1
  rw [bI_f] at b1
  have eF : ∀ j, j ≠ 10 → s7.1 (29 + 2 * l) j = s5.1 (29 + 2 * l) j := fun j hj => by
    rw [b2, a2]
    unfold upd
    rw [if_neg hj, if_neg hj]
  refine ⟨s7, ?_, ?_, fun b c1 c2 => by rw [b4 b c1 c2, a4 b c1 c2, k2 b c1], by rw [b5, a5, k3], by rw [eF 7 (by decide), k6 7 (by decide) (by decide)], fun p => ?_⟩
  · unfold f_X4_addFlash
    rw [vl_q, r9]
    refine (k1 _).trans ?_
    rw [a1, bp_q, b1, bp_q]
  · have per := fl_per (off := off) hl hK w h1.1
    unfold LRel
    rw [d27r hl, per, f1, f4 (3 + l) (by omega) (by omega) (by omega), f4 (11 + l) (by omega) (by omega) (by omega), f4 (19 + l) (by omega) (by omega) (by omega), f4 (27 + l) (by omega) (by omega) (by omega), f4 (35 + l) (by omega) (by omega) (by omega), f4 (115 + l) (by omega) (by omega) (by omega), f4 (123 + l) (by omega) (by omega) (by omega)]
    refine ⟨by rw [eF 1 (by decide), k6 1 (by decide) (by decide)]; exact r1, by rw [eF 2 (by decide), k6 2 (by decide) (by decide)]; exact r2, by rw [eF 3 (by decide), k6 3 (by decide) (by decide)]; exact r3, by rw [eF 4 (by decide), k6 4 (by decide) (by decide)]; exact r4, by rw [eF 5 (by decide), k6 5 (by decide) (by decide)]; exact r5, by rw [eF 6 (by decide), k6 6 (by decide) (by decide)]; exact r6, by rw [eF 8 (by decide), k6 8 (by decide) (by decide)]; exact r8, by rw [eF 9 (by decide), k5], by rw [b2]; rfl, fun p hp => ?_⟩
    rw [fl_on hl hK w h1.1 hp, b3, a3]
    by_cases q : p < sumS h l (h (43 + l))
    · rw [if_neg (by omega), if_neg (by omega), if_pos q, k2 _ (by omega)]
      refine r11 p ?_
      have := perS_F w
      by_cases z : h (43 + l) = 0
      · rw [z] at q; simp only [sumS] at q; omega
      · rw [if_neg z] at this; omega
    · rw [if_neg q]
      by_cases y : p - sumS h l (h (43 + l)) < on
      · rw [if_neg (by omega), if_pos (by omega), decide_eq_true y]
      · rw [if_pos (by omega), decide_eq_false y]
  · rw [b3, a3, k2 _ (by omega)]
    by_cases y1 : sumS h l (h (43 + l)) + on ≤ p ∧ p < sumS h l (h (43 + l)) + on + off
    · rw [if_pos y1]; exact Or.inr (Or.inl rfl)
    · rw [if_neg y1]
      by_cases y2 : sumS h l (h (43 + l)) ≤ p ∧ p < sumS h l (h (43 + l)) + on
      · rw [if_pos y2]; exact Or.inr (Or.inr rfl)
      · rw [if_neg y2]; exact Or.inl rfl
