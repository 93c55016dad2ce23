/-! images: charts, scenes, speeches copied; both sides -/
def SpX (σ : St) (row : Nat → Int32) (b m0 m1 c : Nat) (K : Nat → Nat) : Prop := (∃ q, σ.1 b 0 = nI q ∧ q ≤ 20 ∧ (q = 0 ↔ c = 0)) ∧ σ.1 b 1 = nI c ∧ row 178 = nI c ∧ c ≤ 40 ∧ ∀ i, i < c → ∃ u v, K i ≤ 11 ∧ u ≤ 999 ∧ v ≤ 999 ∧ (K i = 6 → v < m0) ∧ (K i = 7 → v < m1) ∧ (8 ≤ K i → 60 ≤ u ∧ u ≤ 62) ∧ σ.1 (b + 1) i = nI (K i) ∧ σ.1 (b + 2) i = nI u ∧ σ.1 (b + 3) i = nI v ∧ row (179 + 3 * i) = nI (mKd (K i)) ∧ row (179 + 3 * i + 1) = nI u ∧ row (179 + 3 * i + 2) = nI v
theorem SpX_61 {σ τ : St} {m0 m1 c : Nat} {K : Nat → Nat} : SpX σ (τ.1 208) 61 m0 m1 c K ↔ SpR σ τ m0 m1 c K := Iff.rfl
theorem SpX_cp {σ σ' : St} {row row' : Nat → Int32} {b b' m0 m1 c : Nat} {K : Nat → Nat} (h : SpX σ row b m0 m1 c K) (e0 : σ'.1 b' 0 = σ.1 b 0) (e1 : σ'.1 b' 1 = σ.1 b 1) (e : ∀ i, i < 40 → σ'.1 (b' + 1) i = σ.1 (b + 1) i ∧ σ'.1 (b' + 2) i = σ.1 (b + 2) i ∧ σ'.1 (b' + 3) i = σ.1 (b + 3) i) (r : ∀ j, j < 359 → row' j = row j) : SpX σ' row' b' m0 m1 c K := by
  obtain ⟨⟨q, a1, a2, a3⟩, a4, a5, a6, a7⟩ := h
  refine ⟨⟨q, by rw [e0]; exact a1, a2, a3⟩, by rw [e1]; exact a4, by rw [r _ (by decide)]; exact a5, a6, fun i hi => ?_⟩
  obtain ⟨u, v, z⟩ := a7 i hi
  obtain ⟨g1, g2, g3⟩ := e i (by omega)
  refine ⟨u, v, ?_⟩
  rw [g1, g2, g3, r _ (by omega), r _ (by omega), r _ (by omega)]
  exact z
theorem c_cpSaid {a b : Nat} (s : St) (ha : rr a 2 = a + 1 ∧ rr a 3 = a + 2 ∧ rr a 4 = a + 3) (hb : rr b 2 = b + 1 ∧ rr b 3 = b + 2 ∧ rr b 4 = b + 3) (hd : a + 4 ≤ b ∨ b + 4 ≤ a) : ∃ t, f_X7_copyFrom a b s = some t ∧ t.1 a 0 = s.1 b 0 ∧ t.1 a 1 = s.1 b 1 ∧ (∀ i, i < 40 → t.1 (a + 1) i = s.1 (b + 1) i ∧ t.1 (a + 2) i = s.1 (b + 2) i ∧ t.1 (a + 3) i = s.1 (b + 3) i) ∧ (∀ c, ¬ (a ≤ c ∧ c ≤ a + 3) → t.1 c = s.1 c) ∧ t.2 = s.2 := by
  unfold f_X7_copyFrom
  rw [vl_q, vl_q, vl_q, vl_q, ha.1, ha.2.1, ha.2.2, hb.1, hb.2.1, hb.2.2, cpi, if_neg (by omega), cpi, if_neg (by omega), cpi, if_neg (by omega)]
  refine ⟨_, rfl, ?_, ?_, fun i hi => ⟨?_, ?_, ?_⟩, fun c hc => ?_, rfl⟩
  · rw [sC_ne (by omega), sC_ne (by omega), sC_ne (by omega), sI1, if_pos rfl, if_neg (by decide), sI1, if_pos rfl, if_pos rfl]
  · rw [sC_ne (by omega), sC_ne (by omega), sC_ne (by omega), sI1, if_pos rfl, if_pos rfl, sI_ne (by omega)]
  · rw [sC_ne (by omega), sC_ne (by omega), sC1, if_pos rfl, if_pos hi, sI_ne (by omega), sI_ne (by omega)]
  · rw [sC_ne (by omega), sC1, if_pos rfl, if_pos hi, sC_ne (by omega), sI_ne (by omega), sI_ne (by omega)]
  · rw [sC1, if_pos rfl, if_pos hi, sC_ne (by omega), sC_ne (by omega), sI_ne (by omega), sI_ne (by omega)]
  · rw [sC_ne (by omega), sC_ne (by omega), sC_ne (by omega), sI_ne (by omega), sI_ne (by omega)]
theorem c_scnO {a b : Nat} {s s' : St} (h : f_X6_copyFrom a b s = some s') : s'.2 = s.2 ∧ ∀ c, c ≠ a → c ≠ rr a 4 → c ≠ rr a 5 → c ≠ rr a 6 → c ≠ rr a 7 → c ≠ rr a 8 → s'.1 c = s.1 c := by
  unfold f_X6_copyFrom at h
  rw [vl_q, vl_q, vl_q, vl_q, vl_q, vl_q] at h
  unfold cpi at h
  split at h
  · cases h
  split at h
  · cases h
  split at h
  · cases h
  split at h
  · cases h
  split at h
  · cases h
  cases h
  exact ⟨rfl, fun c c0 c4 c5 c6 c7 c8 => by rw [sC_ne c8, sC_ne c7, sC_ne c6, sC_ne c5, sC_ne c4, sI_ne c0, sI_ne c0, sI_ne c0]⟩
theorem CRel_g {σ σ' : St} {S : Nat → Nat} {a : Nat} (hA : ChA a) (h0 : S 0 ≤ 8) (h1 : S 1 ≤ 4) (e : ∀ b, a ≤ b → b < a + 23 → σ'.1 b = σ.1 b) (h : CRel σ a (a + 1) (a + 2) S) : CRel σ' a (a + 1) (a + 2) S := by
  obtain ⟨b1, b2, b3, b4, b5⟩ := h
  have ea := e a (by omega) (by omega)
  refine ⟨by rw [ea]; exact b1, by rw [ea]; exact b2, by rw [ea]; exact b3, fun l hl => ?_, fun k hk => ?_⟩
  · have := b4 l hl
    obtain ⟨q1, q2⟩ := hA.2.1 l (by omega)
    rw [q1] at this ⊢
    unfold LRel at this ⊢
    rw [q2] at this ⊢
    rw [e (a + 3 + 2 * l) (by omega) (by omega), e (a + 4 + 2 * l) (by omega) (by omega)]
    exact this
  · have := b5 k hk
    rw [hA.2.2 k (by omega)] at this ⊢
    unfold HRel at this ⊢
    rw [e (a + 19 + k) (by omega) (by omega)]
    exact this
theorem ARel_g {σ σ' : St} {S : Nat → Nat} {a : Nat} (hA : ChA a) (h0 : S 0 ≤ 8) (e : ∀ b, a ≤ b → b < a + 23 → σ'.1 b = σ.1 b) (h : ARel σ (a + 1) S) : ARel σ' (a + 1) S := fun l hl => by
  have := h l hl
  obtain ⟨q1, q2⟩ := hA.2.1 l (by omega)
  rw [q1] at this ⊢
  rw [e (a + 3 + 2 * l) (by omega) (by omega)]
  exact this
theorem Trs_g {σ σ' : St} {y : Nat} (e1 : σ'.1 y = σ.1 y) (e2 : σ'.1 (y + 1) = σ.1 (y + 1)) (h : Trs σ y) : Trs σ' y := by
  unfold Trs at h ⊢
  rw [e1, e2]
  exact h
theorem c_cpChart {s : St} {S : Nat → Nat} {N a b : Nat} (hN : 100 ≤ N) (ha : ChA a) (hb : ChA b) (hd : a + 23 ≤ b ∨ b + 23 ≤ a) (hC : WFC S) (hM : CRel s b (b + 1) (b + 2) S) (hR : ARel s (b + 1) S) (hT : ∀ l, l < S 0 → Trs s (b + 3 + 2 * l)) : ∃ t, f_X1_copyFrom N a b s = some t ∧ CRel t a (a + 1) (a + 2) S ∧ ARel t (a + 1) S ∧ (∀ l, l < S 0 → Trs t (a + 3 + 2 * l)) ∧ (∀ l, l < 8 → Trs s (a + 3 + 2 * l) → Trs t (a + 3 + 2 * l)) ∧ (∀ l, l < S 0 → t.2 (a + 3 + 2 * l) 0 = s.2 (b + 3 + 2 * l) 0) ∧ (∀ k, k < S 1 → t.2 (a + 19 + k) 0 = s.2 (b + 19 + k) 0) ∧ ∀ c, ¬ (a ≤ c ∧ c < a + 23) → t.1 c = s.1 c ∧ t.2 c = s.2 c := by
  have c1 := hC.1
  have c2 := hC.2.1
  obtain ⟨t, e, g1, g2, g3, g4, g5, g6⟩ := c_copyChart (N := N) (s := s) (m := S 0) (q := S 1) hN ha hb hd hM.1 c1 hM.2.1 c2 hT
  have T1 : ∀ l, l < S 0 → Trs t (a + 3 + 2 * l) := fun l hl => by
    obtain ⟨x1, x2, x3⟩ := g1 l hl
    obtain ⟨y1, y2⟩ := hT l hl
    exact ⟨by rw [x1 7 (by unfold tfl; omega)]; exact y1, fun p hp => by rw [x3 p hp]; exact y2 p hp⟩
  refine ⟨t, e, ⟨by rw [g3 2 (by decide) (by decide)]; exact hM.1, by rw [g3 3 (by decide) (by decide)]; exact hM.2.1, by rw [g3 4 (by decide) (by decide)]; exact hM.2.2.1, fun l hl => ?_, fun k hk => ?_⟩, fun l hl => ?_, T1, fun l hl h => ?_, fun l hl => (g1 l hl).2.1, fun k hk => (g2 k hk).2, fun c hc => g5 c (by omega) (by omega) (by omega)⟩
  · have r := hM.2.2.2.1 l hl
    obtain ⟨p1, p2⟩ := ha.2.1 l (by omega)
    obtain ⟨q1, q2⟩ := hb.2.1 l (by omega)
    rw [q1] at r
    rw [p1]
    exact LRel_cp (g1 l hl) (p2.trans (by omega)) (q2.trans (by omega)) (perS_le (hC.2.2.2.1 l hl)) r
  · have r := hM.2.2.2.2 k hk
    rw [hb.2.2 k (by omega)] at r
    rw [ha.2.2 k (by omega)]
    have q := (g2 k hk).1
    unfold HRel at r ⊢
    rw [q 1 (by decide) (by decide), q 2 (by decide) (by decide), q 3 (by decide) (by decide), q 4 (by decide) (by decide)]
    exact r
  · have r := hR l hl
    obtain ⟨p1, p2⟩ := ha.2.1 l (by omega)
    obtain ⟨q1, q2⟩ := hb.2.1 l (by omega)
    rw [q1] at r
    rw [p1, (g1 l hl).1 12 (by unfold tfl; omega), (g1 l hl).1 13 (by unfold tfl; omega)]
    exact r
  · by_cases q : l < S 0
    · exact T1 l q
    · exact Trs_g (g5 _ (by omega) (by omega) (by omega)).1 (g5 _ (by omega) (by omega) (by omega)).1 h
/-- names in the model's row of images -/
def NmI (σ τ : St) (A f n : Nat) : Prop := ∀ l, l < n → ∃ c d, WdP c d ∧ σ.2 (rr A l) 0 = l64 c ∧ τ.2 223 (f + l) = l64 d
def ImK (σ τ : St) (w : Nat) (T : Nat → Nat) : Prop := (∀ j, j < 359 → τ.1 222 (359 * w + j) = nI (T j)) ∧ (WFC T ∧ WFW T ∧ T 147 ≤ 3600) ∧ CRel σ (137 + 35 * w) (137 + 35 * w + 1) (137 + 35 * w + 2) T ∧ ARel σ (137 + 35 * w + 1) T ∧ SRel σ (165 + 35 * w) T ∧ (∀ l, l < T 0 → Trs σ (137 + 35 * w + 3 + 2 * l)) ∧ (NmI σ τ (137 + 35 * w + 1) (12 * w) (T 0) ∧ NmI σ τ (137 + 35 * w + 2) (12 * w + 8) (T 1)) ∧ ∃ c K, SpX σ (fun j => τ.1 222 (359 * w + j)) (160 + 35 * w) (T 0) (T 1) c K ∧ (c = 0 ∨ rpn K c 1)
def ImR (σ τ : St) (w : Nat) : Prop := (σ.1 (136 + 35 * w) 3 = nI 0 ∧ τ.1 224 w = nI 0) ∨ (σ.1 (136 + 35 * w) 3 = nI 1 ∧ τ.1 224 w = nI 1 ∧ ∃ T, ImK σ τ w T)
theorem dIm : ∀ w, w < 2 → (rr 132 w = 136 + 35 * w ∧ rr (136 + 35 * w) 0 = 137 + 35 * w ∧ rr (136 + 35 * w) 1 = 165 + 35 * w ∧ rr (136 + 35 * w) 2 = 160 + 35 * w) ∧ (sh (165 + 35 * w) = 6 ∧ reg (165 + 35 * w) = 20 + w) ∧ (rr (165 + 35 * w) 4 = 166 + 35 * w ∧ rr (165 + 35 * w) 5 = 167 + 35 * w ∧ rr (165 + 35 * w) 6 = 168 + 35 * w ∧ rr (165 + 35 * w) 7 = 169 + 35 * w ∧ rr (165 + 35 * w) 8 = 170 + 35 * w) ∧ rr (160 + 35 * w) 2 = 160 + 35 * w + 1 ∧ rr (160 + 35 * w) 3 = 160 + 35 * w + 2 ∧ rr (160 + 35 * w) 4 = 160 + 35 * w + 3 := by decide +kernel
theorem chIm {w : Nat} (h : w < 2) : ChA (137 + 35 * w) := by
  have : ∀ w, w < 2 → ((rr (137 + 35 * w) 0 = 137 + 35 * w + 1 ∧ rr (137 + 35 * w) 1 = 137 + 35 * w + 2) ∧ (∀ l, l < 8 → rr (137 + 35 * w + 1) l = 137 + 35 * w + 3 + 2 * l ∧ rr (137 + 35 * w + 3 + 2 * l) 11 = 137 + 35 * w + 4 + 2 * l) ∧ ∀ k, k < 4 → rr (137 + 35 * w + 2) k = 137 + 35 * w + 19 + k) := by decide +kernel
  exact this w h
theorem SRel_g {σ σ' : St} {S : Nat → Nat} {b : Nat} (e0 : σ'.1 b = σ.1 b) (e4 : σ'.1 (rr b 4) = σ.1 (rr b 4)) (e5 : σ'.1 (rr b 5) = σ.1 (rr b 5)) (e6 : σ'.1 (rr b 6) = σ.1 (rr b 6)) (e7 : σ'.1 (rr b 7) = σ.1 (rr b 7)) (e8 : σ'.1 (rr b 8) = σ.1 (rr b 8)) (h : SRel σ b S) : SRel σ' b S := by
  unfold SRel at h ⊢
  rw [e0, e4, e5, e6, e7, e8]
  exact h
theorem ImR_g {σ σ' τ τ' : St} {w : Nat} (hw : w < 2) (e : ∀ b, 136 + 35 * w ≤ b → b < 171 + 35 * w → σ'.1 b = σ.1 b ∧ σ'.2 b = σ.2 b) (m2 : ∀ j, j < 359 → τ'.1 222 (359 * w + j) = τ.1 222 (359 * w + j)) (m3 : ∀ j, j < 12 → τ'.2 223 (12 * w + j) = τ.2 223 (12 * w + j)) (m4 : τ'.1 224 w = τ.1 224 w) (h : ImR σ τ w) : ImR σ' τ' w := by
  obtain ⟨⟨d0, d1, d2, d3⟩, ⟨s1, s2⟩, ⟨s4, s5, s6, s7, s8⟩, p2, p3, p4⟩ := dIm w hw
  have hA := chIm hw
  unfold ImR at h ⊢
  rw [(e (136 + 35 * w) (by omega) (by omega)).1, m4]
  rcases h with h | ⟨h1, h2, T, t1, ⟨t2, t2', t2''⟩, t3, t4, t5, t6, ⟨t7, t8⟩, c, K, t9, t10⟩
  · exact Or.inl h
  · have c1 := t2.1
    have c2 := t2.2.1
    refine Or.inr ⟨h1, h2, T, fun j hj => by rw [m2 j hj]; exact t1 j hj, ⟨t2, t2', t2''⟩, CRel_g hA c1 c2 (fun b b1 b2 => (e b (by omega) (by omega)).1) t3, ARel_g hA c1 (fun b b1 b2 => (e b (by omega) (by omega)).1) t4, SRel_g (e _ (by omega) (by omega)).1 (by rw [s4]; exact (e _ (by omega) (by omega)).1) (by rw [s5]; exact (e _ (by omega) (by omega)).1) (by rw [s6]; exact (e _ (by omega) (by omega)).1) (by rw [s7]; exact (e _ (by omega) (by omega)).1) (by rw [s8]; exact (e _ (by omega) (by omega)).1) t5, fun l hl => Trs_g (e _ (by omega) (by omega)).1 (e _ (by omega) (by omega)).1 (t6 l hl), ⟨fun l hl => ?_, fun l hl => ?_⟩, c, K, SpX_cp t9 (by rw [(e _ (by omega) (by omega)).1]) (by rw [(e _ (by omega) (by omega)).1]) (fun i _ => ⟨by rw [(e _ (by omega) (by omega)).1], by rw [(e _ (by omega) (by omega)).1], by rw [(e _ (by omega) (by omega)).1]⟩) (fun j hj => m2 j hj), t10⟩
    · obtain ⟨c, d, x, x1, x2⟩ := t7 l hl
      rw [(hA.2.1 l (by omega)).1] at x1 ⊢
      exact ⟨c, d, x, by rw [(e _ (by omega) (by omega)).2]; exact x1, by rw [m3 _ (by omega)]; exact x2⟩
    · obtain ⟨c, d, x, x1, x2⟩ := t8 l hl
      rw [hA.2.2 l (by omega)] at x1 ⊢
      exact ⟨c, d, x, by rw [(e _ (by omega) (by omega)).2]; exact x1, by rw [show 12 * w + 8 + l = 12 * w + (8 + l) by omega, m3 _ (by omega)]; rw [show 12 * w + 8 + l = 12 * w + (8 + l) by omega] at x2; exact x2⟩
theorem pl_q3 {T : Type} {x : Int32} {n : Nat} (hn : n < 100000) {A B : T} : (if x < 0 then A else if x < nI n then B else A) = if isN x n = true then B else A := by
  have e2 := nI_toInt (n := n) (by omega)
  have e0 : (0 : Int32).toInt = 0 := rfl
  unfold isN
  by_cases z : x < 0
  · rw [if_pos z, if_neg (fun w => by have := of_decide_eq_true w; rw [Int32.lt_iff_toInt_lt] at z; omega)]
  · rw [if_neg z]
    rw [Int32.lt_iff_toInt_lt] at z
    by_cases y : x < nI n
    · rw [if_pos y]
      rw [Int32.lt_iff_toInt_lt] at y
      rw [if_pos (decide_eq_true (by omega))]
    · rw [if_neg y]
      rw [Int32.lt_iff_toInt_lt] at y
      rw [if_neg (fun w => by have := of_decide_eq_true w; omega)]
section KIm
variable {σ τ : St} {S : Nat → Nat} {u top N c : Nat} {H : Nat → Nat → Nat} {K : Nat → Nat}
theorem sp61 : rr 61 2 = 61 + 1 ∧ rr 61 3 = 61 + 2 ∧ rr 61 4 = 61 + 3 := by decide +kernel
theorem k_image (hN : 1000 ≤ N) (hK : KRel σ τ S u top H) (hNm : NmR σ τ 4 0 (S 0) ∧ NmR σ τ 5 8 (S 1)) (hTr : ∀ l, l < 8 → Trs σ (6 + 2 * l)) (hSp : SpR σ τ (S 0) (S 1) c K) (hrp : c = 0 ∨ rpn K c 1) (x : Int32) : ∃ r σ' τ', f_X11_image N x σ = some (r, σ') ∧ f_X12_image N x τ = some (r, τ') ∧ ((σ' = σ ∧ τ' = sI τ 206 0 (nI 0)) ∨ ∃ w, w < 2 ∧ (∀ b, ¬ (136 + 35 * w ≤ b ∧ b < 171 + 35 * w) → σ'.1 b = σ.1 b ∧ σ'.2 b = σ.2 b) ∧ (∀ b, b ≠ 206 → b ≠ 222 → b ≠ 224 → τ'.1 b = τ.1 b) ∧ (∀ k, k ≠ 0 → τ'.1 206 k = τ.1 206 k) ∧ (∀ b, b ≠ 223 → τ'.2 b = τ.2 b) ∧ (∀ w', w' < 2 → w' ≠ w → (∀ j, j < 359 → τ'.1 222 (359 * w' + j) = τ.1 222 (359 * w' + j)) ∧ (∀ j, j < 12 → τ'.2 223 (12 * w' + j) = τ.2 223 (12 * w' + j)) ∧ τ'.1 224 w' = τ.1 224 w') ∧ ImR σ' τ' w) := by
  obtain ⟨h1, h2, hW, h4, h5, h6, h7, h8⟩ := hK
  have c1 := h2.1
  have c2 := h2.2.1
  by_cases hx : isN x 2 = true
  · obtain ⟨w, hw, rfl⟩ := isN_e hx (by decide)
    obtain ⟨⟨d0, d1, d2, d3'⟩, ⟨s1, s2⟩, ⟨s4, s5, s6, s7, s8⟩, p2, p3, p4⟩ := dIm w hw
    have hA := chIm hw
    obtain ⟨τ', e2, o1, o2, o3, o4, o5, o6⟩ := m_image (τ := τ) (N := N) hN hw
    obtain ⟨t1, f1, g1, g2, g3, _, g5, g6, g7⟩ := c_cpChart (N := N) (s := σ) (a := 137 + 35 * w) (b := 3) (by omega) hA ch_3 (by omega) h2 h5 h6 (fun l hl => hTr l (by omega))
    have r49 : reg 49 = 4 := sh49.2
    have S1 : SRel t1 49 S := by
      obtain ⟨q4, q5, q6, q7, q8⟩ := d49
      exact SRel_g (g7 _ (by omega)).1 (by rw [q4]; exact (g7 _ (by omega)).1) (by rw [q5]; exact (g7 _ (by omega)).1) (by rw [q6]; exact (g7 _ (by omega)).1) (by rw [q7]; exact (g7 _ (by omega)).1) (by rw [q8]; exact (g7 _ (by omega)).1) h7
    obtain ⟨t2, f2, S2⟩ := c_copyScene (a := 165 + 35 * w) (b := 49) s1 sh49.1 (by rw [s2, r49]; omega) c1 c2 S1
    obtain ⟨l2, b2⟩ := c_scnO f2
    rw [s4, s5, s6, s7, s8] at b2
    obtain ⟨t3, f3, v0, v1, v2, v3, v4⟩ := c_cpSaid (a := 160 + 35 * w) (b := 61) t2 ⟨p2, p3, p4⟩ sp61 (by omega)
    have run : f_X11_image N (nI w) σ = some (nI 1, sI t3 (136 + 35 * w) 3 (nI 1)) := by
      unfold f_X11_image
      rw [if_lt0 (by omega), if_ltq (by omega) (by decide), if_pos hw, ald_q hw (by decide), d0, d1, f1, bp_q, ald_q hw (by decide), d0, d2, f2, bp_q, ald_q hw (by decide), d0, d3', f3, bp_q, ald_q hw (by decide), d0, vl_q]
    have q3 : ∀ b, ¬ (160 + 35 * w ≤ b ∧ b ≤ 160 + 35 * w + 3) → b ≠ 136 + 35 * w → ¬ (165 + 35 * w ≤ b ∧ b ≤ 170 + 35 * w) → (sI t3 (136 + 35 * w) 3 (nI 1)).1 b = t1.1 b := fun b b1 b3 b4 => by
      rw [sI_ne b3, v3 b b1, b2 b (by omega) (by omega) (by omega) (by omega) (by omega) (by omega)]
    have q2 : (sI t3 (136 + 35 * w) 3 (nI 1)).2 = t1.2 := by
      show t3.2 = _
      rw [v4, l2]
    refine ⟨_, _, τ', run, e2, Or.inr ⟨w, hw, fun b hb => ⟨?_, ?_⟩, o1, o2, o5, fun w' w1 w2 => ⟨fun j hj => ?_, fun j hj => ?_, ?_⟩, Or.inr ⟨?_, ?_, S, fun j hj => ?_, ⟨h2, hW, h4⟩, ?_, ?_, ?_, fun l hl => ?_, ⟨fun l hl => ?_, fun l hl => ?_⟩, c, K, ?_, hrp⟩⟩⟩
    · rw [q3 b (by omega) (by omega) (by omega)]; exact (g7 b (by omega)).1
    · rw [q2]; exact (g7 b (by omega)).2
    · rw [o3, if_neg (by omega)]
    · rw [o6, if_neg (by omega)]
    · rw [o4, if_neg w2]
    · rw [sI1, if_pos rfl, if_pos rfl]
    · rw [o4, if_pos rfl]
    · rw [o3, if_pos (by omega), Nat.add_sub_cancel_left]; exact h1 j hj
    · exact CRel_g hA c1 c2 (fun b b1 b3 => q3 b (by omega) (by omega) (by omega)) g1
    · exact ARel_g hA c1 (fun b b1 b3 => q3 b (by omega) (by omega) (by omega)) g2
    · have w5 : ∀ b, 165 + 35 * w ≤ b → b ≤ 170 + 35 * w → (sI t3 (136 + 35 * w) 3 (nI 1)).1 b = t2.1 b := fun b b1 b3 => by rw [sI_ne (by omega), v3 b (by omega)]
      exact SRel_g (w5 _ (by omega) (by omega)) (by rw [s4]; exact w5 _ (by omega) (by omega)) (by rw [s5]; exact w5 _ (by omega) (by omega)) (by rw [s6]; exact w5 _ (by omega) (by omega)) (by rw [s7]; exact w5 _ (by omega) (by omega)) (by rw [s8]; exact w5 _ (by omega) (by omega)) S2
    · exact Trs_g (q3 _ (by omega) (by omega) (by omega)) (q3 _ (by omega) (by omega) (by omega)) (g3 l hl)
    · obtain ⟨c, d, z, x1, x2⟩ := hNm.1 l hl
      rw [d4q (by omega)] at x1
      refine ⟨c, d, z, ?_, ?_⟩
      · rw [(hA.2.1 l (by omega)).1, q2, g5 l hl, show 3 + 3 + 2 * l = 6 + 2 * l by omega]; exact x1
      · rw [o6, if_pos (by omega), Nat.add_sub_cancel_left]
        rw [Nat.zero_add] at x2; exact x2
    · obtain ⟨c, d, z, x1, x2⟩ := hNm.2 l hl
      rw [d5q (by omega)] at x1
      refine ⟨c, d, z, ?_, ?_⟩
      · rw [hA.2.2 l (by omega), q2, g6 l hl, show 3 + 19 + l = 22 + l by omega]; exact x1
      · rw [o6, if_pos (by omega), show 12 * w + 8 + l - 12 * w = 8 + l by omega]; exact x2
    · have i1 : ∀ b, b = 160 + 35 * w ∨ b = 160 + 35 * w + 1 ∨ b = 160 + 35 * w + 2 ∨ b = 160 + 35 * w + 3 → (sI t3 (136 + 35 * w) 3 (nI 1)).1 b = t3.1 b := fun b hb => sI_ne (by omega)
      have i2 : ∀ b, 61 ≤ b → b ≤ 64 → t2.1 b = σ.1 b := fun b b1 b3 => by rw [b2 b (by omega) (by omega) (by omega) (by omega) (by omega) (by omega), (g7 b (by omega)).1]
      refine SpX_cp (SpX_61.mpr hSp) ?_ ?_ (fun i hi => ?_) (fun j hj => ?_)
      · rw [i1 _ (Or.inl rfl), v0, i2 61 (by decide) (by decide)]
      · rw [i1 _ (Or.inl rfl), v1, i2 61 (by decide) (by decide)]
      · obtain ⟨z1, z2, z3⟩ := v2 i hi
        rw [i1 _ (Or.inr (Or.inl rfl)), i1 _ (Or.inr (Or.inr (Or.inl rfl))), i1 _ (Or.inr (Or.inr (Or.inr rfl))), z1, z2, z3, i2 (61 + 1) (by decide) (by decide), i2 (61 + 2) (by decide) (by decide), i2 (61 + 3) (by decide) (by decide)]
        exact ⟨rfl, rfl, rfl⟩
      · show τ'.1 222 (359 * w + j) = _
        rw [o3, if_pos (by omega), Nat.add_sub_cancel_left]
  · refine ⟨nI 0, σ, sI τ 206 0 (nI 0), ?_, ?_, Or.inl ⟨rfl, rfl⟩⟩
    · unfold f_X11_image
      rw [pl_q3 (by decide), if_neg hx]
    · unfold f_X12_image
      rw [vl_q, m_isIn, bp_q, if_bI, isN_up (by decide), if_neg (show ¬ isN x (1 + 1) = true from hx)]
theorem k_restore (hN : 1000 ≤ N) (hK : KRel σ τ S u top H) (hTr : ∀ l, l < 8 → Trs σ (6 + 2 * l)) (hI : ∀ w, w < 2 → ImR σ τ w) (x : Int32) : ∃ r σ' τ', f_X11_restore N x σ = some (r, σ') ∧ f_X12_restore N x τ = some (r, τ') ∧ ((σ' = σ ∧ τ' = sI τ 206 0 (nI 0)) ∨ ∃ T, KRel σ' τ' T 0 top H ∧ (NmR σ' τ' 4 0 (T 0) ∧ NmR σ' τ' 5 8 (T 1)) ∧ (∀ l, l < 8 → Trs σ' (6 + 2 * l)) ∧ (∃ c K, SpR σ' τ' (T 0) (T 1) c K ∧ (c = 0 ∨ rpn K c 1)) ∧ (∀ b, ¬ (3 ≤ b ∧ b < 26) → ¬ (49 ≤ b ∧ b < 55) → ¬ (61 ≤ b ∧ b < 65) → b ≠ 75 → σ'.1 b = σ.1 b ∧ σ'.2 b = σ.2 b) ∧ (∀ b, b ≠ 206 → b ≠ 208 → τ'.1 b = τ.1 b) ∧ (∀ k, k ≠ 0 → k ≠ 24 → τ'.1 206 k = τ.1 206 k) ∧ (∀ b, b ≠ 211 → τ'.2 b = τ.2 b)) := by
  obtain ⟨h1, h2, hW, h4, h5, h6, h7, h8⟩ := hK
  have c1 := h2.1
  have c2 := h2.2.1
  by_cases hx : isN x 2 = true
  · obtain ⟨w, hw, rfl⟩ := isN_e hx (by decide)
    obtain ⟨⟨d0, d1, d2, d3'⟩, ⟨s1, s2⟩, ⟨s4, s5, s6, s7, s8⟩, p2, p3, p4⟩ := dIm w hw
    have hA := chIm hw
    rcases hI w hw with ⟨k1, k2⟩ | ⟨k1, k2, T, t1, ⟨t2, t2', t2''⟩, t3, t4, t5, t6, ⟨t7, t8⟩, c, K, t9, t10⟩
    · refine ⟨nI 0, σ, sI τ 206 0 (nI 0), ?_, ?_, Or.inl ⟨rfl, rfl⟩⟩
      · unfold f_X11_restore
        rw [if_lt0 (by omega), if_leq (by decide) (by omega), if_neg (by omega), ald_q hw (by decide), d0, vl_q, k1, if_pos (by decide)]
      · unfold f_X12_restore
        rw [vl_q, isIn01 hw, bp_q, if_one, ald_q hw (by decide), sI_ne (by decide), k2, if_pos (by decide)]
    · have C1 := t2.1
      have C2 := t2.2.1
      obtain ⟨τ', e2, o1, o2, o3, o4, o5, o6⟩ := m_restore (τ := τ) (N := N) hN hw k2
      obtain ⟨u1, f1, g1, g2, g3, g4, g5, g6, g7⟩ := c_cpChart (N := N) (s := σ) (a := 3) (b := 137 + 35 * w) (by omega) ch_3 hA (by omega) t2 t3 t4 t6
      have S1 : SRel u1 (165 + 35 * w) T := SRel_g (g7 _ (by omega)).1 (by rw [s4]; exact (g7 _ (by omega)).1) (by rw [s5]; exact (g7 _ (by omega)).1) (by rw [s6]; exact (g7 _ (by omega)).1) (by rw [s7]; exact (g7 _ (by omega)).1) (by rw [s8]; exact (g7 _ (by omega)).1) t5
      obtain ⟨u2, f2, S2⟩ := c_copyScene (a := 49) (b := 165 + 35 * w) sh49.1 s1 (by rw [s2, sh49.2]; omega) C1 C2 S1
      obtain ⟨l2, b2⟩ := c_scnO f2
      obtain ⟨q4, q5, q6, q7, q8⟩ := d49
      rw [q4, q5, q6, q7, q8] at b2
      obtain ⟨u3, f3, v0, v1, v2, v3, v4⟩ := c_cpSaid (a := 61) (b := 160 + 35 * w) u2 sp61 ⟨p2, p3, p4⟩ (by omega)
      have run : f_X11_restore N (nI w) σ = some (nI 1, sI u3 75 2 (nI 0)) := by
        unfold f_X11_restore f_X5_clear
        rw [if_lt0 (by omega), if_leq (by decide) (by omega), if_neg (by omega), ald_q hw (by decide), d0, vl_q, k1, if_one, ald_q hw (by decide), d0, d1, f1, bp_q, ald_q hw (by decide), d0, d2, f2, bp_q, ald_q hw (by decide), d0, d3', f3, bp_q, vl_q, bp_q]
      have q3 : ∀ b, ¬ (61 ≤ b ∧ b ≤ 64) → b ≠ 75 → ¬ (49 ≤ b ∧ b ≤ 54) → (sI u3 75 2 (nI 0)).1 b = u1.1 b := fun b b1 b3 b4 => by
        rw [sI_ne b3, v3 b (by omega), b2 b (by omega) (by omega) (by omega) (by omega) (by omega) (by omega)]
      have q2 : (sI u3 75 2 (nI 0)).2 = u1.2 := by
        show u3.2 = _
        rw [v4, l2]
      have w5 : ∀ b, 49 ≤ b → b ≤ 54 → (sI u3 75 2 (nI 0)).1 b = u2.1 b := fun b b1 b3 => by rw [sI_ne (by omega), v3 b (by omega)]
      have e75 : u3.1 75 = σ.1 75 := by rw [v3 75 (by omega), b2 75 (by decide) (by decide) (by decide) (by decide) (by decide) (by decide), (g7 75 (by omega)).1]
      refine ⟨_, _, τ', run, e2, Or.inr ⟨T, ⟨fun j hj => ?_, t2, t2', t2'', ?_, ?_, ?_, ⟨by decide, h8.2.1, ?_, ?_, o3, fun i hi => absurd hi (Nat.not_lt_zero _)⟩⟩, ⟨fun l hl => ?_, fun l hl => ?_⟩, fun l hl => ?_, ⟨c, K, ?_, t10⟩, fun b b1 b3 b4 b5 => ⟨?_, ?_⟩, o1, o2, o5⟩⟩
      · rw [o4, if_pos hj]; exact t1 j hj
      · exact CRel_g ch_3 C1 C2 (fun b b1 b3 => q3 b (by omega) (by omega) (by omega)) g1
      · exact ARel_g ch_3 C1 (fun b b1 b3 => q3 b (by omega) (by omega) (by omega)) g2
      · exact SRel_g (w5 49 (by decide) (by decide)) (by rw [q4]; exact w5 50 (by decide) (by decide)) (by rw [q5]; exact w5 51 (by decide) (by decide)) (by rw [q6]; exact w5 52 (by decide) (by decide)) (by rw [q7]; exact w5 53 (by decide) (by decide)) (by rw [q8]; exact w5 54 (by decide) (by decide)) S2
      · rw [sI1, if_pos rfl, if_neg (by decide), e75]; exact h8.2.2.1
      · rw [sI1, if_pos rfl, if_pos rfl]
      · obtain ⟨c, d, z, x1, x2⟩ := t7 l hl
        rw [(hA.2.1 l (by omega)).1] at x1
        refine ⟨c, d, z, ?_, ?_⟩
        · rw [d4q (by omega), q2, show 6 + 2 * l = 3 + 3 + 2 * l by omega, g5 l hl]; exact x1
        · rw [o6, if_pos (by omega), Nat.zero_add]; exact x2
      · obtain ⟨c, d, z, x1, x2⟩ := t8 l hl
        rw [hA.2.2 l (by omega)] at x1
        refine ⟨c, d, z, ?_, ?_⟩
        · rw [d5q (by omega), q2, show 22 + l = 3 + 19 + l by omega, g6 l hl]; exact x1
        · rw [o6, if_pos (by omega), show 12 * w + (8 + l) = 12 * w + 8 + l by omega]; exact x2
      · have := g4 l hl (by rw [show 3 + 3 + 2 * l = 6 + 2 * l by omega]; exact hTr l hl)
        rw [show 3 + 3 + 2 * l = 6 + 2 * l by omega] at this
        exact Trs_g (q3 _ (by omega) (by omega) (by omega)) (q3 _ (by omega) (by omega) (by omega)) this
      · have i1 : ∀ b, 61 ≤ b → b ≤ 64 → (sI u3 75 2 (nI 0)).1 b = u3.1 b := fun b b1 b3 => sI_ne (by omega)
        have i2 : ∀ b, b = 160 + 35 * w ∨ b = 160 + 35 * w + 1 ∨ b = 160 + 35 * w + 2 ∨ b = 160 + 35 * w + 3 → u2.1 b = σ.1 b := fun b hb => by rw [b2 b (by omega) (by omega) (by omega) (by omega) (by omega) (by omega), (g7 b (by omega)).1]
        refine SpX_61.mp (SpX_cp t9 ?_ ?_ (fun i hi => ?_) (fun j hj => ?_))
        · rw [i1 61 (by decide) (by decide), v0, i2 _ (Or.inl rfl)]
        · rw [i1 61 (by decide) (by decide), v1, i2 _ (Or.inl rfl)]
        · obtain ⟨z1, z2, z3⟩ := v2 i hi
          rw [i1 (61 + 1) (by decide) (by decide), i1 (61 + 2) (by decide) (by decide), i1 (61 + 3) (by decide) (by decide), z1, z2, z3, i2 _ (Or.inr (Or.inl rfl)), i2 _ (Or.inr (Or.inr (Or.inl rfl))), i2 _ (Or.inr (Or.inr (Or.inr rfl)))]
          exact ⟨rfl, rfl, rfl⟩
        · rw [o4, if_pos hj]
      · rw [q3 b (by omega) b5 (by omega)]; exact (g7 b (by omega)).1
      · rw [q2]; exact (g7 b (by omega)).2
  · refine ⟨nI 0, σ, sI τ 206 0 (nI 0), ?_, ?_, Or.inl ⟨rfl, rfl⟩⟩
    · unfold f_X11_restore
      rw [pl_q (by decide), if_neg hx]
    · unfold f_X12_restore
      rw [vl_q, m_isIn, bp_q, if_bI, isN_up (by decide), if_neg (show ¬ isN x (1 + 1) = true from hx)]
end KIm
