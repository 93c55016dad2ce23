/-! changes of a state, both sides -/
def put (S : Nat → Nat) (k v : Nat) : Nat → Nat := fun j => if j = k then v else S j
theorem put_eq (S : Nat → Nat) (k v : Nat) : put S k v k = v := if_pos rfl
theorem put_ne {S : Nat → Nat} {k v j : Nat} (h : j ≠ k) : put S k v j = S j := if_neg h
theorem RS_put {S : Nat → Nat} {τ : St} (h : RS S τ) (k v : Nat) : RS (put S k v) (sI τ 208 k (nI v)) := fun j hj => by
  rw [sI1, if_pos rfl]
  by_cases e : j = k
  · rw [if_pos e, e, put_eq]
  · rw [if_neg e, put_ne e]; exact h j hj
theorem RS_ext {S S' : Nat → Nat} {τ : St} (h : RS S τ) (e : ∀ j, j < 359 → S j = S' j) : RS S' τ := fun j hj => by rw [h j hj, e j hj]
/-- the same chart -/
def sameC (S S' : Nat → Nat) : Prop := ∀ j, j < 147 → S' j = S j
theorem sameC.put {S S' : Nat → Nat} (h : sameC S S') {k : Nat} (hk : 147 ≤ k) (v : Nat) : sameC S (put S' k v) := fun j hj => by rw [put_ne (by omega)]; exact h j hj
theorem sameC.rf (S : Nat → Nat) : sameC S S := fun _ _ => rfl
theorem sumS_c {S S' : Nat → Nat} (h : sameC S S') {l : Nat} (hl : l < 8) : ∀ k, k ≤ 4 → sumS S' l k = sumS S l k
  | 0, _ => rfl
  | k + 1, hk => by simp only [sumS, dS]; rw [sumS_c h hl k (by omega), h _ (by omega), h _ (by omega)]
theorem perS_c {S S' : Nat → Nat} (h : sameC S S') {l : Nat} (hl : l < 8) (hf : S (43 + l) ≤ 4) : perS S' l = perS S l := by
  unfold perS
  rw [h (43 + l) (by omega), sumS_c h hl _ hf]
theorem onG_c {S S' : Nat → Nat} (h : sameC S S') {l : Nat} (hl : l < 8) : ∀ n k left, n + k ≤ 4 → onG S' l n k left = onG S l n k left
  | 0, _, _, _ => rfl
  | n + 1, k, left, hk => by
    have e1 : S' (51 + 4 * l + k) = S (51 + 4 * l + k) := h _ (by omega)
    have e2 : dS S' l k = dS S l k := by unfold dS; rw [e1, h _ (by omega)]
    simp only [onG, e1, e2, onG_c h hl n (k + 1) _ (show n + (k + 1) ≤ 4 by omega)]
theorem onS_c {S S' : Nat → Nat} (h : sameC S S') {l : Nat} (hl : l < 8) (hf : S (43 + l) ≤ 4) (p : Nat) : onS S' l p = onS S l p := by
  unfold onS
  rw [h (43 + l) (by omega), perS_c h hl hf, onG_c h hl 4 0 _ (by omega)]
theorem WFl_c {S S' : Nat → Nat} (h : sameC S S') {l : Nat} (hl : l < 8) (g : WFl S l) : WFl S' l := by
  obtain ⟨g1, g2, g3, g4, g5, g6, g7, g8, g9⟩ := g
  unfold WFl
  rw [h (3 + l) (by omega), h (11 + l) (by omega), h (19 + l) (by omega), h (27 + l) (by omega), h (35 + l) (by omega), h (43 + l) (by omega), h (115 + l) (by omega), h (123 + l) (by omega)]
  exact ⟨g1, g2, g3, g4, g5, g6, fun k hk => by rw [h _ (by omega), h _ (by omega)]; exact g7 k hk, g8, g9⟩
theorem WFC_c {S S' : Nat → Nat} (h : sameC S S') (g : WFC S) : WFC S' := by
  obtain ⟨g1, g2, g3, g4, g5⟩ := g
  unfold WFC
  rw [h 0 (by omega), h 1 (by omega), h 2 (by omega)]
  refine ⟨g1, g2, g3, fun l hl => WFl_c h (by omega) (g4 l hl), fun k hk => ?_⟩
  unfold WFs
  rw [h (131 + k) (by omega), h (135 + k) (by omega), h (139 + k) (by omega), h (143 + k) (by omega)]
  exact g5 k hk
theorem CRel_c {S S' : Nat → Nat} (h : sameC S S') {σ : St} {c A B : Nat} (hC : WFC S) (g : CRel σ c A B S) : CRel σ c A B S' := by
  obtain ⟨g1, g2, g3, g4, g5⟩ := g
  have c1 := hC.1
  have c2 := hC.2.1
  unfold CRel
  rw [h 0 (by omega), h 1 (by omega), h 2 (by omega)]
  refine ⟨g1, g2, g3, fun l hl => ?_, fun k hk => ?_⟩
  · have hf := (hC.2.2.2.1 l hl).2.2.2.2.2.1
    unfold LRel
    rw [h (3 + l) (by omega), h (11 + l) (by omega), h (19 + l) (by omega), h (27 + l) (by omega), h (35 + l) (by omega), h (43 + l) (by omega), h (115 + l) (by omega), h (123 + l) (by omega), perS_c h (by omega) hf]
    obtain ⟨r1, r2, r3, r4, r5, r6, r8, r9, r10, r11⟩ := g4 l hl
    exact ⟨r1, r2, r3, r4, r5, r6, r8, r9, r10, fun p hp => by rw [onS_c h (by omega) hf]; exact r11 p hp⟩
  · unfold HRel
    rw [h (131 + k) (by omega), h (135 + k) (by omega), h (139 + k) (by omega), h (143 + k) (by omega)]
    exact g5 k hk
theorem visS_c {S S' : Nat → Nat} (h : sameC S S') {l : Nat} (hl : l < 8) (x y hz : Nat) : visS S' l x y hz = visS S l x y hz := by
  unfold visS
  rw [h (3 + l) (by omega), h (11 + l) (by omega), h (19 + l) (by omega), h (123 + l) (by omega)]
theorem alkS_c {S S' : Nat → Nat} (h : sameC S S') {l m : Nat} (hl : l < 8) (hm : m < 8) (hf : S (43 + l) ≤ 4) (hg : S (43 + m) ≤ 4) : alkS S' l m = alkS S l m := by
  unfold alkS
  rw [h (27 + l) (by omega), h (27 + m) (by omega), perS_c h hl hf, perS_c h hm hg]
  have : ∀ f k, eqK S' l m f k = eqK S l m f k := fun f k => by unfold eqK; rw [onS_c h hl hf, onS_c h hm hg]
  have e : (fun f => allN (eqK S' l m f) (perS S l)) = (fun f => allN (eqK S l m f) (perS S l)) := by
    funext f
    rw [show eqK S' l m f = eqK S l m f from funext (this f)]
  rw [e]
theorem conS_c {S S' : Nat → Nat} (h : sameC S S') {l m : Nat} (hl : l < 8) (hm : m < 8) (hf : S (43 + l) ≤ 4) (hg : S (43 + m) ≤ 4) : conS S' l m = conS S l m := by
  unfold conS sgtS
  rw [alkS_c h hl hm hf hg, anyN_cong (q := cellB S l m) (fun c _ => by unfold cellB; rw [visS_c h hl, visS_c h hm])]
theorem ARel_c {S S' : Nat → Nat} (h : sameC S S') {σ : St} {A : Nat} (hC : WFC S) (g : ARel σ A S) : ARel σ A S' := by
  have c1 := hC.1
  intro l hl
  rw [h 0 (by omega)] at hl ⊢
  rw [(g l hl).1, (g l hl).2]
  have hf := fun l hl => (hC.2.2.2.1 l hl).2.2.2.2.2.1
  exact ⟨congrArg nI (bset_cong (fun m hm => by rw [alkS_c h (by omega) (by omega) (hf l hl) (hf m hm)])), congrArg nI (bset_cong (fun m hm => (conS_c h (by omega) (by omega) (hf l hl) (hf m hm)).symm))⟩
/-! the class's scene, changed at one place -/
theorem scn (b : Nat) (h : sh b = 6) : rr b 4 ≠ b ∧ rr b 5 ≠ b ∧ rr b 6 ≠ b ∧ rr b 7 ≠ b ∧ rr b 8 ≠ b ∧ rr b 4 ≠ rr b 5 ∧ rr b 4 ≠ rr b 6 ∧ rr b 4 ≠ rr b 7 ∧ rr b 4 ≠ rr b 8 ∧ rr b 5 ≠ rr b 6 ∧ rr b 5 ≠ rr b 7 ∧ rr b 5 ≠ rr b 8 ∧ rr b 6 ≠ rr b 7 ∧ rr b 6 ≠ rr b 8 ∧ rr b 7 ≠ rr b 8 := by
  have k0 : ∀ b, b < NW → sh b = 6 → rr b 4 ≠ b ∧ rr b 5 ≠ b ∧ rr b 6 ≠ b ∧ rr b 7 ≠ b ∧ rr b 8 ≠ b := by decide +kernel
  have k1 : ∀ b, b < NW → sh b = 6 → rr b 4 ≠ rr b 5 ∧ rr b 4 ≠ rr b 6 ∧ rr b 4 ≠ rr b 7 ∧ rr b 4 ≠ rr b 8 ∧ rr b 5 ≠ rr b 6 := by decide +kernel
  have k2 : ∀ b, b < NW → sh b = 6 → rr b 5 ≠ rr b 7 ∧ rr b 5 ≠ rr b 8 ∧ rr b 6 ≠ rr b 7 ∧ rr b 6 ≠ rr b 8 ∧ rr b 7 ≠ rr b 8 := by decide +kernel
  have hb := sh_lt h (by decide)
  obtain ⟨a0, a1, a2, a3, a4⟩ := k0 b hb h
  obtain ⟨b0, b1, b2, b3, b4⟩ := k1 b hb h
  obtain ⟨c0, c1, c2, c3, c4⟩ := k2 b hb h
  exact ⟨a0, a1, a2, a3, a4, b0, b1, b2, b3, b4, c0, c1, c2, c3, c4⟩
theorem U_sec {S : Nat → Nat} {σ : St} {b v : Nat} (hb : sh b = 6) (h : SRel σ b S) (h0 : S 0 ≤ 8) (h1 : S 1 ≤ 4) : SRel (sI σ (b) 1 (nI v)) b (put S (147) v) := by
  obtain ⟨n0, n1, n2, n3, n4, n5, n6, n7, n8, n9, n10, n11, n12, n13, n14⟩ := scn b hb
  obtain ⟨g1, g2, g3, g4, g5⟩ := h
  unfold SRel
  rw [put_ne (show 0 ≠ 147 by omega), put_ne (show 1 ≠ 147 by omega)]
  refine ⟨by rw [sI1, if_pos rfl, if_pos rfl, put_eq], by rw [sI1, if_pos rfl, if_neg (by decide), put_ne (by omega)]; exact g2, by rw [sI1, if_pos rfl, if_neg (by decide), put_ne (by omega)]; exact g3, fun l hl => ⟨?_, ?_⟩, fun q hq => ⟨?_, ?_, ?_⟩⟩
  · exact by rw [sI1, if_neg n0, put_ne (by omega)]; exact (g4 l hl).1
  · exact by rw [sI1, if_neg n1, put_ne (by omega)]; exact (g4 l hl).2
  · exact by rw [sI1, if_neg n2, put_ne (by omega)]; exact (g5 q hq).1
  · exact by rw [sI1, if_neg n3, put_ne (by omega)]; exact (g5 q hq).2.1
  · exact by rw [sI1, if_neg n4, put_ne (by omega)]; exact (g5 q hq).2.2
theorem U_haz {S : Nat → Nat} {σ : St} {b v : Nat} (hb : sh b = 6) (h : SRel σ b S) (h0 : S 0 ≤ 8) (h1 : S 1 ≤ 4) : SRel (sI σ (b) 2 (nI v)) b (put S (149) v) := by
  obtain ⟨n0, n1, n2, n3, n4, n5, n6, n7, n8, n9, n10, n11, n12, n13, n14⟩ := scn b hb
  obtain ⟨g1, g2, g3, g4, g5⟩ := h
  unfold SRel
  rw [put_ne (show 0 ≠ 149 by omega), put_ne (show 1 ≠ 149 by omega)]
  refine ⟨by rw [sI1, if_pos rfl, if_neg (by decide), put_ne (by omega)]; exact g1, by rw [sI1, if_pos rfl, if_pos rfl, put_eq], by rw [sI1, if_pos rfl, if_neg (by decide), put_ne (by omega)]; exact g3, fun l hl => ⟨?_, ?_⟩, fun q hq => ⟨?_, ?_, ?_⟩⟩
  · exact by rw [sI1, if_neg n0, put_ne (by omega)]; exact (g4 l hl).1
  · exact by rw [sI1, if_neg n1, put_ne (by omega)]; exact (g4 l hl).2
  · exact by rw [sI1, if_neg n2, put_ne (by omega)]; exact (g5 q hq).1
  · exact by rw [sI1, if_neg n3, put_ne (by omega)]; exact (g5 q hq).2.1
  · exact by rw [sI1, if_neg n4, put_ne (by omega)]; exact (g5 q hq).2.2
theorem U_out {S : Nat → Nat} {σ : St} {b v : Nat} (hb : sh b = 6) (h : SRel σ b S) (h0 : S 0 ≤ 8) (h1 : S 1 ≤ 4) : SRel (sI σ (b) 3 (nI v)) b (put S (148) v) := by
  obtain ⟨n0, n1, n2, n3, n4, n5, n6, n7, n8, n9, n10, n11, n12, n13, n14⟩ := scn b hb
  obtain ⟨g1, g2, g3, g4, g5⟩ := h
  unfold SRel
  rw [put_ne (show 0 ≠ 148 by omega), put_ne (show 1 ≠ 148 by omega)]
  refine ⟨by rw [sI1, if_pos rfl, if_neg (by decide), put_ne (by omega)]; exact g1, by rw [sI1, if_pos rfl, if_neg (by decide), put_ne (by omega)]; exact g2, by rw [sI1, if_pos rfl, if_pos rfl, put_eq], fun l hl => ⟨?_, ?_⟩, fun q hq => ⟨?_, ?_, ?_⟩⟩
  · exact by rw [sI1, if_neg n0, put_ne (by omega)]; exact (g4 l hl).1
  · exact by rw [sI1, if_neg n1, put_ne (by omega)]; exact (g4 l hl).2
  · exact by rw [sI1, if_neg n2, put_ne (by omega)]; exact (g5 q hq).1
  · exact by rw [sI1, if_neg n3, put_ne (by omega)]; exact (g5 q hq).2.1
  · exact by rw [sI1, if_neg n4, put_ne (by omega)]; exact (g5 q hq).2.2
theorem U_oil {S : Nat → Nat} {σ : St} {b k v : Nat} (hb : sh b = 6) (h : SRel σ b S) (h0 : S 0 ≤ 8) (h1 : S 1 ≤ 4) (hk : k < 8) : SRel (sI σ (rr b 4) k (nI v)) b (put S (150 + k) v) := by
  obtain ⟨n0, n1, n2, n3, n4, n5, n6, n7, n8, n9, n10, n11, n12, n13, n14⟩ := scn b hb
  obtain ⟨g1, g2, g3, g4, g5⟩ := h
  unfold SRel
  rw [put_ne (show 0 ≠ 150 + k by omega), put_ne (show 1 ≠ 150 + k by omega)]
  refine ⟨by rw [sI1, if_neg n0.symm, put_ne (by omega)]; exact g1, by rw [sI1, if_neg n0.symm, put_ne (by omega)]; exact g2, by rw [sI1, if_neg n0.symm, put_ne (by omega)]; exact g3, fun l hl => ⟨?_, ?_⟩, fun q hq => ⟨?_, ?_, ?_⟩⟩
  · exact by
      rw [sI1, if_pos rfl]
      by_cases e : l = k
      · subst e; rw [if_pos rfl, put_eq]
      · rw [if_neg e, put_ne (by omega)]; exact (g4 l hl).1
  · exact by rw [sI1, if_neg n5.symm, put_ne (by omega)]; exact (g4 l hl).2
  · exact by rw [sI1, if_neg n6.symm, put_ne (by omega)]; exact (g5 q hq).1
  · exact by rw [sI1, if_neg n7.symm, put_ne (by omega)]; exact (g5 q hq).2.1
  · exact by rw [sI1, if_neg n8.symm, put_ne (by omega)]; exact (g5 q hq).2.2
theorem U_shf {S : Nat → Nat} {σ : St} {b k v : Nat} (hb : sh b = 6) (h : SRel σ b S) (h0 : S 0 ≤ 8) (h1 : S 1 ≤ 4) (hk : k < 8) : SRel (sI σ (rr b 5) k (nI v)) b (put S (158 + k) v) := by
  obtain ⟨n0, n1, n2, n3, n4, n5, n6, n7, n8, n9, n10, n11, n12, n13, n14⟩ := scn b hb
  obtain ⟨g1, g2, g3, g4, g5⟩ := h
  unfold SRel
  rw [put_ne (show 0 ≠ 158 + k by omega), put_ne (show 1 ≠ 158 + k by omega)]
  refine ⟨by rw [sI1, if_neg n1.symm, put_ne (by omega)]; exact g1, by rw [sI1, if_neg n1.symm, put_ne (by omega)]; exact g2, by rw [sI1, if_neg n1.symm, put_ne (by omega)]; exact g3, fun l hl => ⟨?_, ?_⟩, fun q hq => ⟨?_, ?_, ?_⟩⟩
  · exact by rw [sI1, if_neg n5, put_ne (by omega)]; exact (g4 l hl).1
  · exact by
      rw [sI1, if_pos rfl]
      by_cases e : l = k
      · subst e; rw [if_pos rfl, put_eq]
      · rw [if_neg e, put_ne (by omega)]; exact (g4 l hl).2
  · exact by rw [sI1, if_neg n9.symm, put_ne (by omega)]; exact (g5 q hq).1
  · exact by rw [sI1, if_neg n10.symm, put_ne (by omega)]; exact (g5 q hq).2.1
  · exact by rw [sI1, if_neg n11.symm, put_ne (by omega)]; exact (g5 q hq).2.2
theorem U_x {S : Nat → Nat} {σ : St} {b k v : Nat} (hb : sh b = 6) (h : SRel σ b S) (h0 : S 0 ≤ 8) (h1 : S 1 ≤ 4) (hk : k < 4) : SRel (sI σ (rr b 6) k (nI v)) b (put S (166 + k) v) := by
  obtain ⟨n0, n1, n2, n3, n4, n5, n6, n7, n8, n9, n10, n11, n12, n13, n14⟩ := scn b hb
  obtain ⟨g1, g2, g3, g4, g5⟩ := h
  unfold SRel
  rw [put_ne (show 0 ≠ 166 + k by omega), put_ne (show 1 ≠ 166 + k by omega)]
  refine ⟨by rw [sI1, if_neg n2.symm, put_ne (by omega)]; exact g1, by rw [sI1, if_neg n2.symm, put_ne (by omega)]; exact g2, by rw [sI1, if_neg n2.symm, put_ne (by omega)]; exact g3, fun l hl => ⟨?_, ?_⟩, fun q hq => ⟨?_, ?_, ?_⟩⟩
  · exact by rw [sI1, if_neg n6, put_ne (by omega)]; exact (g4 l hl).1
  · exact by rw [sI1, if_neg n9, put_ne (by omega)]; exact (g4 l hl).2
  · exact by
      rw [sI1, if_pos rfl]
      by_cases e : q = k
      · subst e; rw [if_pos rfl, put_eq]
      · rw [if_neg e, put_ne (by omega)]; exact (g5 q hq).1
  · exact by rw [sI1, if_neg n12.symm, put_ne (by omega)]; exact (g5 q hq).2.1
  · exact by rw [sI1, if_neg n13.symm, put_ne (by omega)]; exact (g5 q hq).2.2
theorem U_y {S : Nat → Nat} {σ : St} {b k v : Nat} (hb : sh b = 6) (h : SRel σ b S) (h0 : S 0 ≤ 8) (h1 : S 1 ≤ 4) (hk : k < 4) : SRel (sI σ (rr b 7) k (nI v)) b (put S (170 + k) v) := by
  obtain ⟨n0, n1, n2, n3, n4, n5, n6, n7, n8, n9, n10, n11, n12, n13, n14⟩ := scn b hb
  obtain ⟨g1, g2, g3, g4, g5⟩ := h
  unfold SRel
  rw [put_ne (show 0 ≠ 170 + k by omega), put_ne (show 1 ≠ 170 + k by omega)]
  refine ⟨by rw [sI1, if_neg n3.symm, put_ne (by omega)]; exact g1, by rw [sI1, if_neg n3.symm, put_ne (by omega)]; exact g2, by rw [sI1, if_neg n3.symm, put_ne (by omega)]; exact g3, fun l hl => ⟨?_, ?_⟩, fun q hq => ⟨?_, ?_, ?_⟩⟩
  · exact by rw [sI1, if_neg n7, put_ne (by omega)]; exact (g4 l hl).1
  · exact by rw [sI1, if_neg n10, put_ne (by omega)]; exact (g4 l hl).2
  · exact by rw [sI1, if_neg n12, put_ne (by omega)]; exact (g5 q hq).1
  · exact by
      rw [sI1, if_pos rfl]
      by_cases e : q = k
      · subst e; rw [if_pos rfl, put_eq]
      · rw [if_neg e, put_ne (by omega)]; exact (g5 q hq).2.1
  · exact by rw [sI1, if_neg n14.symm, put_ne (by omega)]; exact (g5 q hq).2.2
theorem U_crs {S : Nat → Nat} {σ : St} {b k v : Nat} (hb : sh b = 6) (h : SRel σ b S) (h0 : S 0 ≤ 8) (h1 : S 1 ≤ 4) (hk : k < 4) : SRel (sI σ (rr b 8) k (nI v)) b (put S (174 + k) v) := by
  obtain ⟨n0, n1, n2, n3, n4, n5, n6, n7, n8, n9, n10, n11, n12, n13, n14⟩ := scn b hb
  obtain ⟨g1, g2, g3, g4, g5⟩ := h
  unfold SRel
  rw [put_ne (show 0 ≠ 174 + k by omega), put_ne (show 1 ≠ 174 + k by omega)]
  refine ⟨by rw [sI1, if_neg n4.symm, put_ne (by omega)]; exact g1, by rw [sI1, if_neg n4.symm, put_ne (by omega)]; exact g2, by rw [sI1, if_neg n4.symm, put_ne (by omega)]; exact g3, fun l hl => ⟨?_, ?_⟩, fun q hq => ⟨?_, ?_, ?_⟩⟩
  · exact by rw [sI1, if_neg n8, put_ne (by omega)]; exact (g4 l hl).1
  · exact by rw [sI1, if_neg n11, put_ne (by omega)]; exact (g4 l hl).2
  · exact by rw [sI1, if_neg n13, put_ne (by omega)]; exact (g5 q hq).1
  · exact by rw [sI1, if_neg n14, put_ne (by omega)]; exact (g5 q hq).2.1
  · exact by
      rw [sI1, if_pos rfl]
      by_cases e : q = k
      · subst e; rw [if_pos rfl, put_eq]
      · rw [if_neg e, put_ne (by omega)]; exact (g5 q hq).2.2
/-! the map's cells lie in region 2: what leaves them leaves the chart -/
theorem regA : ∀ l, l < 8 → reg (rr 4 l) = 2 ∧ reg (rr (rr 4 l) 11) = 2 := by decide +kernel
theorem regB : ∀ k, k < 4 → reg (rr 5 k) = 2 := by decide +kernel
theorem CRel_fr {R : List Nat} {S : Nat → Nat} {σ τ : St} (hF : Fr R σ τ) (hR : 2 ∉ R) (h0 : S 0 ≤ 8) (h1 : S 1 ≤ 4) (g : CRel σ 3 4 5 S) : CRel τ 3 4 5 S := by
  obtain ⟨g1, g2, g3, g4, g5⟩ := g
  have e3 : ∀ j, τ.1 3 j = σ.1 3 j := fun j => by rw [(hF 3 (by rw [show reg 3 = 2 from by decide +kernel]; exact hR)).1]
  refine ⟨by rw [e3]; exact g1, by rw [e3]; exact g2, by rw [e3]; exact g3, fun l hl => ?_, fun k hk => ?_⟩
  · have q := regA l (by omega)
    have e : τ.1 (rr 4 l) = σ.1 (rr 4 l) := (hF _ (by rw [q.1]; exact hR)).1.symm
    have e' : τ.1 (rr (rr 4 l) 11) = σ.1 (rr (rr 4 l) 11) := (hF _ (by rw [q.2]; exact hR)).1.symm
    unfold LRel
    rw [e, e']
    exact g4 l hl
  · have e : τ.1 (rr 5 k) = σ.1 (rr 5 k) := (hF _ (by rw [regB k (by omega)]; exact hR)).1.symm
    unfold HRel
    rw [e]
    exact g5 k hk
theorem ARel_fr {R : List Nat} {S : Nat → Nat} {σ τ : St} (hF : Fr R σ τ) (hR : 2 ∉ R) (h0 : S 0 ≤ 8) (g : ARel σ 4 S) : ARel τ 4 S := fun l hl => by
  have e : τ.1 (rr 4 l) = σ.1 (rr 4 l) := (hF _ (by rw [(regA l (by omega)).1]; exact hR)).1.symm
  rw [e]
  exact g l hl
theorem SRel_fr {R : List Nat} {S : Nat → Nat} {σ τ : St} {b : Nat} (hb : sh b = 6) (hF : Fr R σ τ) (hR : reg b ∉ R) (g : SRel σ b S) : SRel τ b S := by
  have e : ∀ k, k = 4 ∨ k = 5 ∨ k = 6 ∨ k = 7 ∨ k = 8 → τ.1 (rr b k) = σ.1 (rr b k) := fun k hk => by
    have : reg (rr b k) = reg b := by
      have key : ∀ b, b < NW → sh b = 6 → reg (rr b 4) = reg b ∧ reg (rr b 5) = reg b ∧ reg (rr b 6) = reg b ∧ reg (rr b 7) = reg b ∧ reg (rr b 8) = reg b := by decide +kernel
      obtain ⟨q4, q5, q6, q7, q8⟩ := key b (sh_lt hb (by decide)) hb
      rcases hk with z | z | z | z | z <;> rw [z] <;> assumption
    exact (hF _ (by rw [this]; exact hR)).1.symm
  have eb : τ.1 b = σ.1 b := (hF _ hR).1.symm
  unfold SRel
  rw [eb, e 4 (by decide), e 5 (by decide), e 6 (by decide), e 7 (by decide), e 8 (by decide)]
  exact g
