/-! a second goes, on both sides -/
theorem nI_of_toInt {x : Int32} {z : Int} (h : x.toInt = z) (h0 : 0 ≤ z) : x = nI z.toNat := by
  apply Int32.toInt_inj.mp
  have := Int32.toInt_lt x
  rw [nI_toInt (by omega), h]
  omega
theorem shineS_c {S T : Nat → Nat} {l : Nat} (h : sameC S T) (hl : l < 8) (hf : S (43 + l) ≤ 4) (h1 : T 147 = S 147) (h2 : T 148 = S 148) (h3 : T (150 + l) = S (150 + l)) (h4 : T (158 + l) = S (158 + l)) : shineS T l = shineS S l := by
  unfold shineS plS
  rw [h1, h2, h3, h4, perS_c h hl hf, onS_c h hl hf]
/-- the oil of those below l burnt -/
def oilT (S : Nat → Nat) (l : Nat) : Nat → Nat := fun j => if 150 ≤ j ∧ j < 150 + l ∧ shineS S (j - 150) = true then S j - 1 else S j
theorem oilT_o {S : Nat → Nat} {l j : Nat} (h : j < 150 ∨ 150 + l ≤ j) : oilT S l j = S j := if_neg (fun z => by omega)
theorem oilT_0 (S : Nat → Nat) (j : Nat) : oilT S 0 j = S j := if_neg (fun z => by omega)
theorem oilT_s (S : Nat → Nat) (l j : Nat) : oilT S (l + 1) j = put (oilT S l) (150 + l) (if shineS S l = true then S (150 + l) - 1 else S (150 + l)) j := by
  by_cases e : j = 150 + l
  · subst e
    rw [put_eq]
    unfold oilT
    rw [Nat.add_sub_cancel_left]
    by_cases q : shineS S l = true
    · rw [if_pos ⟨by omega, by omega, q⟩, if_pos q]
    · rw [if_neg (fun z => q z.2.2), if_neg q]
  · rw [put_ne e]
    unfold oilT
    by_cases q : 150 ≤ j ∧ j < 150 + l ∧ shineS S (j - 150) = true
    · rw [if_pos q, if_pos ⟨q.1, by omega, q.2.2⟩]
    · rw [if_neg q, if_neg (fun z => q ⟨z.1, by omega, z.2.2⟩)]
theorem oilT_C (S : Nat → Nat) (l : Nat) : sameC S (oilT S l) := fun j hj => oilT_o (Or.inl (by omega))
theorem oilT_W {S : Nat → Nat} (h0 : S 0 ≤ 8) (hW : WFW S) (l : Nat) (hl : l ≤ S 0) : WFW (oilT S l) := by
  obtain ⟨w1, w2, w3, w4, w5⟩ := hW
  unfold WFW
  rw [oilT_o (j := 147) (by omega), oilT_o (j := 148) (by omega), oilT_o (j := 149) (by omega), oilT_o (j := 0) (by omega), oilT_o (j := 1) (by omega)]
  refine ⟨w1, w2, w3, fun k hk => ?_, fun k hk => ?_⟩
  · rw [oilT_o (j := 158 + k) (by omega)]
    refine ⟨?_, (w4 k hk).2⟩
    unfold oilT
    have := (w4 k hk).1
    split <;> omega
  · rw [oilT_o (j := 166 + k) (by omega), oilT_o (j := 170 + k) (by omega), oilT_o (j := 174 + k) (by omega)]
    exact w5 k hk
/-! ships -/
def dxi (c : Nat) : Int := if c = 0 ∨ c = 1 ∨ c = 7 then 1 else if c = 3 ∨ c = 4 ∨ c = 5 then -1 else 0
def dyi (c : Nat) : Int := if c = 1 ∨ c = 2 ∨ c = 3 then 1 else if c = 5 ∨ c = 6 ∨ c = 7 then -1 else 0
theorem sx_i : ∀ c, c < 9 → (sx c).toInt = dxi c ∧ (sy c).toInt = dyi c := by decide +kernel
theorem m_stepX {c : Nat} (h : c ≤ 8) (τ : St) : f_X12_stepX (nI c) τ = some (sx c) := by
  rcases (by omega : c = 0 ∨ c = 1 ∨ c = 2 ∨ c = 3 ∨ c = 4 ∨ c = 5 ∨ c = 6 ∨ c = 7 ∨ c = 8) with e | e | e | e | e | e | e | e | e <;> subst e <;> rfl
theorem m_stepY {c : Nat} (h : c ≤ 8) (τ : St) : f_X12_stepY (nI c) τ = some (sy c) := by
  rcases (by omega : c = 0 ∨ c = 1 ∨ c = 2 ∨ c = 3 ∨ c = 4 ∨ c = 5 ∨ c = 6 ∨ c = 7 ∨ c = 8) with e | e | e | e | e | e | e | e | e <;> subst e <;> rfl
def inC (x y : Int) : Bool := decide ((0 ≤ x ∧ x ≤ 19) ∧ 0 ≤ y ∧ y ≤ 19)
def nxX (T : Nat → Nat) (k : Nat) : Int := (T (166 + k) : Int) + dxi (T (174 + k))
def nxY (T : Nat → Nat) (k : Nat) : Int := (T (170 + k) : Int) + dyi (T (174 + k))
/-- ship k goes a cell on -/
def sailT (T : Nat → Nat) (k : Nat) : Nat → Nat := if inC (nxX T k) (nxY T k) = true then put (put T (166 + k) (nxX T k).toNat) (170 + k) (nxY T k).toNat else put T (174 + k) 8
def shpT (T : Nat → Nat) : Nat → Nat → Nat
  | 0 => T
  | k + 1 => if (shpT T k 147 + 1) % shpT T k (143 + k) = 0 then sailT (shpT T k) k else shpT T k
def secS (S : Nat → Nat) : Nat → Nat := put (shpT (oilT S (S 0)) (S 1)) 147 (S 147 + 1)
theorem sailT_o {T : Nat → Nat} {k j : Nat} (h : j < 166 + k) : sailT T k j = T j := by
  unfold sailT
  split
  · rw [put_ne (by omega), put_ne (by omega)]
  · rw [put_ne (by omega)]
theorem sailT_hi {T : Nat → Nat} {k j : Nat} (h : 178 ≤ j) (hk : k < 4) : sailT T k j = T j := by
  unfold sailT
  split
  · rw [put_ne (by omega), put_ne (by omega)]
  · rw [put_ne (by omega)]
theorem shpT_o {T : Nat → Nat} {j : Nat} (h : j < 166) : ∀ k, shpT T k j = T j
  | 0 => rfl
  | k + 1 => by
    simp only [shpT]
    split
    · rw [sailT_o (by omega), shpT_o h k]
    · exact shpT_o h k
theorem shpT_hi {T : Nat → Nat} {j : Nat} (h : 178 ≤ j) : ∀ k, k ≤ 4 → shpT T k j = T j
  | 0, _ => rfl
  | k + 1, hk => by
    simp only [shpT]
    split
    · rw [sailT_hi h (by omega), shpT_hi h k (by omega)]
    · exact shpT_hi h k (by omega)
theorem sailT_W {T : Nat → Nat} {k : Nat} (hk : k < 4) (hW : WFW T) (h0 : T 0 ≤ 8) (h1 : T 1 ≤ 4) : WFW (sailT T k) := by
  obtain ⟨w1, w2, w3, w4, w5⟩ := hW
  unfold WFW
  rw [sailT_o (j := 147) (by omega), sailT_o (j := 148) (by omega), sailT_o (j := 149) (by omega), sailT_o (j := 0) (by omega), sailT_o (j := 1) (by omega)]
  refine ⟨w1, w2, w3, fun l hl => by rw [sailT_o (j := 150 + l) (by omega), sailT_o (j := 158 + l) (by omega)]; exact w4 l hl, fun q hq => ?_⟩
  have := w5 q hq
  unfold sailT
  split
  · next hi =>
    have hi := of_decide_eq_true hi
    unfold put
    refine ⟨?_, ?_, ?_⟩
    · rw [if_neg (by omega)]; split <;> omega
    · split
      · omega
      · rw [if_neg (by omega)]; omega
    · rw [if_neg (by omega), if_neg (by omega)]; omega
  · unfold put
    refine ⟨?_, ?_, ?_⟩
    · rw [if_neg (by omega)]; omega
    · rw [if_neg (by omega)]; omega
    · split <;> omega
theorem shpT_W {T : Nat → Nat} (hW : WFW T) (h0 : T 0 ≤ 8) (h1 : T 1 ≤ 4) : ∀ k, k ≤ 4 → WFW (shpT T k)
  | 0, _ => hW
  | k + 1, hk => by
    have ih := shpT_W hW h0 h1 k (by omega)
    simp only [shpT]
    split
    · exact sailT_W (by omega) ih (by rw [shpT_o (by omega)]; exact h0) (by rw [shpT_o (by omega)]; exact h1)
    · exact ih
theorem secS_C (S : Nat → Nat) : sameC S (secS S) := fun j hj => by
  unfold secS
  rw [put_ne (by omega), shpT_o (by omega), oilT_o (by omega)]
theorem secS_hi {S : Nat → Nat} {j : Nat} (h : 178 ≤ j) (h0 : S 0 ≤ 8) (h1 : S 1 ≤ 4) : secS S j = S j := by
  unfold secS
  rw [put_ne (by omega), shpT_hi h _ h1, oilT_o (by omega)]
theorem secS_147 (S : Nat → Nat) : secS S 147 = S 147 + 1 := put_eq _ _ _
theorem secS_W {S : Nat → Nat} (hC : WFC S) (hW : WFW S) (h : S 147 < 5000) : WFW (secS S) := by
  have c1 := hC.1
  have c2 := hC.2.1
  have q := shpT_W (oilT_W c1 hW (S 0) (Nat.le_refl _)) (by rw [oilT_o (by omega)]; exact c1) (by rw [oilT_o (by omega)]; exact c2) (S 1) c2
  obtain ⟨w1, w2, w3, w4, w5⟩ := q
  unfold WFW secS
  rw [put_eq, put_ne (show 148 ≠ 147 by decide), put_ne (show 149 ≠ 147 by decide), put_ne (show 0 ≠ 147 by decide), put_ne (show 1 ≠ 147 by decide)]
  exact ⟨by omega, w2, w3, fun l hl => by rw [put_ne (by omega), put_ne (by omega)]; exact w4 l hl, fun k hk => by rw [put_ne (by omega), put_ne (by omega), put_ne (by omega)]; exact w5 k hk⟩
theorem step_toInt {a : Nat} {d : Int32} (ha : a ≤ 1000) (h1 : -1 ≤ d.toInt) (h2 : d.toInt ≤ 1) : (nI a + d).toInt = (a : Int) + d.toInt := by
  rw [add_toInt (by rw [nI_toInt (by omega)]; omega) (by omega), nI_toInt (by omega)]
theorem dx_b (c : Nat) : -1 ≤ dxi c ∧ dxi c ≤ 1 := by
  unfold dxi
  repeat' split
  all_goals omega
theorem dy_b (c : Nat) : -1 ≤ dyi c ∧ dyi c ≤ 1 := by
  unfold dyi
  repeat' split
  all_goals omega
theorem m_sails {T : Nat → Nat} {τ : St} {k : Nat} (hR : RS T τ) (hk : k < 4) (hx : T (166 + k) ≤ 19) (hy : T (170 + k) ≤ 19) (hc : T (174 + k) ≤ 8) : ∃ τ', f_X12_sails (nI k) τ = some τ' ∧ RS (sailT T k) τ' := by
  unfold f_X12_sails
  simp only [nI_addq]
  rw [ald_S hR (by omega), ald_S hR (by omega), m_stepX hc, bp_q, vl_q, ald_S hR (by omega), ald_S hR (by omega), m_stepY hc, bp_q, vl_q]
  obtain ⟨e1, e2⟩ := sx_i (T (174 + k)) (by omega)
  have b1 := dx_b (T (174 + k))
  have b2 := dy_b (T (174 + k))
  have q1 := step_toInt (a := T (166 + k)) (d := sx (T (174 + k))) (by omega) (by omega) (by omega)
  have q2 := step_toInt (a := T (170 + k)) (d := sy (T (174 + k))) (by omega) (by omega) (by omega)
  rw [e1] at q1
  rw [e2] at q2
  have z0 : (nI 0).toInt = 0 := rfl
  have z19 : (nI 19).toInt = 19 := rfl
  rw [m_isIn, bp_q, jn_q, m_isIn, bp_q, q1, q2, z0, z19]
  simp only [if_bI, decide_eq_true_eq]
  unfold sailT
  by_cases hi : inC (nxX T k) (nxY T k) = true
  · have hi' := of_decide_eq_true hi
    unfold nxX nxY at hi'
    rw [if_pos hi, if_pos (by omega), if_pos (by omega), nI_of_toInt q1 (by omega), nI_of_toInt q2 (by omega), ald_q (by omega) (by decide), ald_q (by omega) (by decide)]
    exact ⟨_, rfl, RS_put (RS_put hR _ _) _ _⟩
  · have hi' := of_decide_eq_false (Bool.eq_false_iff.mpr hi)
    unfold nxX nxY at hi'
    rw [if_neg hi]
    by_cases g : (0 : Int) ≤ (T (166 + k) : Int) + dxi (T (174 + k)) ∧ (T (166 + k) : Int) + dxi (T (174 + k)) ≤ 19
    · rw [if_pos g, if_neg (by omega), ald_q (by omega) (by decide)]
      exact ⟨_, rfl, RS_put hR _ _⟩
    · rw [if_neg g, ald_q (by omega) (by decide)]
      exact ⟨_, rfl, RS_put hR _ _⟩
theorem c_isCell (x y : Int32) (σ : St) : f_X11_isCell x y σ = some (bI (inC x.toInt y.toInt)) := by
  unfold f_X11_isCell inC
  have e0 : (0 : Int32).toInt = 0 := rfl
  have e1 : (nI 20).toInt = 20 := rfl
  simp only [jn_q, Int32.lt_iff_toInt_lt, Int32.le_iff_toInt_le, e0, e1]
  generalize x.toInt = a
  generalize y.toInt = b
  repeat' split
  all_goals first | (rw [decide_eq_false (by omega)]; rfl) | (rw [decide_eq_true (by omega)]; rfl)
theorem c_sail {T : Nat → Nat} {σ : St} {b k : Nat} (hb : sh b = 6) (hS : SRel σ b T) (h0 : T 0 ≤ 8) (h1 : T 1 ≤ 4) (hk : k < T 1) (hx : T (166 + k) ≤ 19) (hy : T (170 + k) ≤ 19) (hc : T (174 + k) ≤ 8) : ∃ σ', f_X6_sail b (nI k) σ = some σ' ∧ SRel σ' b (sailT T k) := by
  obtain ⟨g1, g2, g3⟩ := hS.2.2.2.2 k hk
  unfold f_X6_sail
  rw [ald_q (by omega) (by decide), ald_q (by omega) (by decide), g1, g3, ald_q (by omega) (by decide), vl_q, ald_q (by omega) (by decide), ald_q (by omega) (by decide), g2, g3, ald_q (by omega) (by decide), vl_q]
  obtain ⟨e1, e2⟩ := sx_i (T (174 + k)) (by omega)
  have b1 := dx_b (T (174 + k))
  have b2 := dy_b (T (174 + k))
  have q1 := step_toInt (a := T (166 + k)) (d := sx (T (174 + k))) (by omega) (by omega) (by omega)
  have q2 := step_toInt (a := T (170 + k)) (d := sy (T (174 + k))) (by omega) (by omega) (by omega)
  rw [e1] at q1
  rw [e2] at q2
  rw [c_isCell, bp_q, q1, q2, if_bI]
  unfold sailT
  by_cases hi : inC (nxX T k) (nxY T k) = true
  · have hi' := of_decide_eq_true hi
    unfold nxX nxY at hi'
    have hi2 : inC ((T (166 + k) : Int) + dxi (T (174 + k))) ((T (170 + k) : Int) + dyi (T (174 + k))) = true := hi
    rw [if_pos hi, if_pos hi2, nI_of_toInt q1 (by omega), nI_of_toInt q2 (by omega), ald_q (by omega) (by decide), ald_q (by omega) (by decide)]
    exact ⟨_, rfl, U_y hb (U_x hb hS h0 h1 (by omega)) (by rw [put_ne (by omega)]; exact h0) (by rw [put_ne (by omega)]; exact h1) (by omega)⟩
  · have hi2 : ¬ inC ((T (166 + k) : Int) + dxi (T (174 + k))) ((T (170 + k) : Int) + dyi (T (174 + k))) = true := hi
    rw [if_neg hi, if_neg hi2, ald_q (by omega) (by decide)]
    exact ⟨_, rfl, U_crs hb hS h0 h1 (by omega)⟩
/-! the loops of a second -/
theorem m_bitSet {p : Nat → Bool} {n l : Nat} (hn : n ≤ 8) (hl : l < n) (τ : St) : f_X12_bitOf (nI (bset p n)) (nI l) τ = some (bI (p l)) := by
  rw [m_bitOf (bset_lt8 p hn) (by omega), bset_bit]
  by_cases q : p l = true
  · rw [if_pos ⟨hl, q⟩, q]; rfl
  · rw [if_neg (fun z => q z.2), Bool.eq_false_iff.mpr q]; rfl
theorem m_secL7 {S : Nat → Nat} {N : Nat} {k5 : St → Option St} (hC : WFC S) (hW : WFW S) : ∀ n l τ, l ≤ S 0 → S 0 - l < n → RS (oilT S l) τ → ∃ τ', RS (oilT S (S 0)) τ' ∧ f_X12_second_L7 N (nI (bset (shineS S) (S 0))) k5 n (nI l) τ = k5 τ' := by
  have c1 := hC.1
  intro n
  induction n with
  | zero => intro l τ _ h; omega
  | succ n ih =>
    intro l τ hl hn hR
    have hb := bset_lt8 (shineS S) c1
    rw [f_X12_second_L7, ald_S hR (by decide), oilT_o (by omega), if_leq (by omega) (by omega)]
    by_cases hc : S 0 ≤ l
    · rw [if_pos hc]
      obtain rfl : l = S 0 := by omega
      exact ⟨τ, hR, rfl⟩
    · rw [if_neg hc]
      simp only [nI_addq]
      have ho := (hW.2.2.2.1 l (by omega)).1
      rw [ald_S hR (by omega), oilT_o (by omega), m_bitSet c1 (by omega), bp_q]
      simp only [jn_q, vl_q, if_bI]
      by_cases q : shineS S l = true
      · have hpos : 0 < S (150 + l) := by
          unfold shineS at q
          simp only [Bool.and_eq_true, decide_eq_true_eq] at q
          exact q.2.1
        rw [if_pos q, nI_subq (by omega), ald_q (by omega) (by decide)]
        exact ih (l + 1) _ (by omega) (by omega) (RS_ext (RS_put hR _ _) (fun j _ => by rw [oilT_s, if_pos q]))
      · rw [if_neg q, nI_subq (by omega), ald_q (by omega) (by decide)]
        exact ih (l + 1) _ (by omega) (by omega) (RS_ext (RS_put hR _ _) (fun j _ => by rw [oilT_s, if_neg q, Nat.sub_zero]))
theorem m_secL51 {T : Nat → Nat} {N : Nat} {k19 : St → Option St} (hW : WFW T) (h0 : T 0 ≤ 8) (h1 : T 1 ≤ 4) (hE : ∀ k, k < T 1 → 1 ≤ T (143 + k) ∧ T (143 + k) ≤ 60) : ∀ n k τ, k ≤ T 1 → T 1 - k < n → RS (shpT T k) τ → ∃ τ', RS (shpT T (T 1)) τ' ∧ f_X12_second_L51 N k19 n (nI k) τ = k19 τ' := by
  intro n
  induction n with
  | zero => intro l τ _ h; omega
  | succ n ih =>
    intro k τ hk hn hR
    rw [f_X12_second_L51, ald_S hR (by decide), shpT_o (by omega), if_leq (by omega) (by omega)]
    by_cases hc : T 1 ≤ k
    · rw [if_pos hc]
      obtain rfl : k = T 1 := by omega
      exact ⟨τ, hR, rfl⟩
    · rw [if_neg hc]
      have he := hE k (by omega)
      have hw := hW.1
      simp only [nI_addq]
      rw [ald_S hR (by decide), ald_S hR (by omega)]
      simp only [nI_addq]
      rw [rm_q (by rw [shpT_o (by omega)]; omega) (by rw [shpT_o (by omega)]; omega) (by rw [shpT_o (by omega)]; omega)]
      simp only [jn_q, vl_q]
      have hm := Nat.mod_lt (shpT T k 147 + 1) (show 0 < shpT T k (143 + k) by rw [shpT_o (by omega)]; omega)
      have hm' : (shpT T k 147 + 1) % shpT T k (143 + k) < 61 := Nat.lt_of_lt_of_le hm (by rw [shpT_o (by omega)]; omega)
      rw [if_eq0 (by omega)]
      by_cases q : (shpT T k 147 + 1) % shpT T k (143 + k) = 0
      · have w5 := (shpT_W hW h0 h1 k (by omega)).2.2.2.2 k (by rw [shpT_o (by omega)]; omega)
        obtain ⟨τ1, e1, r1⟩ := m_sails hR (show k < 4 by omega) w5.1 w5.2.1 w5.2.2
        rw [if_pos q, e1, bp_q]
        exact ih (k + 1) τ1 (by omega) (by omega) (by simp only [shpT]; rw [if_pos q]; exact r1)
      · rw [if_neg q]
        exact ih (k + 1) τ (by omega) (by omega) (by simp only [shpT]; rw [if_neg q]; exact hR)
theorem m_second {S : Nat → Nat} {τ : St} {N : Nat} (hN : 500 ≤ N) (hC : WFC S) (hW : WFW S) (hR : RS S τ) : ∃ τ', f_X12_second N τ = some τ' ∧ RS (secS S) τ' := by
  have c1 := hC.1
  have c2 := hC.2.1
  unfold f_X12_second
  rw [m_shining (by omega) hR hC hW, bp_q]
  obtain ⟨τ1, r1, e1⟩ := m_secL7 (N := N) (k5 := fun s16 => f_X12_second_L51 N (fun s31 => ald (s31.1 208) 359 (nI 147) fun v32 => ald (fun j => sI s31 208 j (v32 + nI 1)) 359 (nI 147) fun s33 => some s33) N (nI 0) s16) hC hW N 0 τ (by omega) (by omega) (RS_ext hR (fun j _ => (oilT_0 S j).symm))
  rw [e1]
  have a1 : oilT S (S 0) 1 = S 1 := oilT_o (by omega)
  have a0 : oilT S (S 0) 0 = S 0 := oilT_o (by omega)
  obtain ⟨τ2, r2, e2⟩ := m_secL51 (N := N) (k19 := fun s31 => ald (s31.1 208) 359 (nI 147) fun v32 => ald (fun j => sI s31 208 j (v32 + nI 1)) 359 (nI 147) fun s33 => some s33) (oilT_W c1 hW (S 0) (Nat.le_refl _)) (by rw [a0]; exact c1) (by rw [a1]; exact c2) (fun k hk => by rw [a1] at hk; rw [oilT_o (by omega)]; exact (hC.2.2.2.2 k hk).2.2.2) N 0 τ1 (by omega) (by omega) r1
  rw [e2, ald_S r2 (by decide)]
  simp only [nI_addq]
  rw [ald_q (by decide) (by decide)]
  refine ⟨_, rfl, ?_⟩
  rw [a1] at r2 ⊢
  have : shpT (oilT S (S 0)) (S 1) 147 = S 147 := by rw [shpT_o (by omega), oilT_o (by omega)]
  rw [this]
  exact RS_put r2 _ _
