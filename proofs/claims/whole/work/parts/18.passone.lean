/-! the class's second; seconds in a row, both sides -/
theorem SRel_ext {S S' : Nat → Nat} {σ : St} {b : Nat} (h : SRel σ b S) (h0 : S 0 ≤ 8) (h1 : S 1 ≤ 4) (e : ∀ j, j < 178 → S j = S' j) : SRel σ b S' := by
  obtain ⟨g1, g2, g3, g4, g5⟩ := h
  unfold SRel
  rw [← e 147 (by decide), ← e 149 (by decide), ← e 148 (by decide), ← e 0 (by decide), ← e 1 (by decide)]
  exact ⟨g1, g2, g3, fun l hl => by rw [← e (150 + l) (by omega), ← e (158 + l) (by omega)]; exact g4 l hl, fun k hk => by rw [← e (166 + k) (by omega), ← e (170 + k) (by omega), ← e (174 + k) (by omega)]; exact g5 k hk⟩
theorem n2 {b : Nat} (hr : reg b ≠ 2) : 2 ∉ [reg b] := fun z => hr (List.mem_singleton.mp z).symm
theorem c_oilL2 {S : Nat → Nat} {σ : St} {N b : Nat} {k4 : St → Option St} (hb : sh b = 6) (hr : reg b ≠ 2) (hC : WFC S) (hW : WFW S) (hM : CRel σ 3 4 5 S) : ∀ n l s, l ≤ S 0 → S 0 - l < n → SRel s b (oilT S l) → Fr [reg b] σ s → ∃ s', SRel s' b (oilT S (S 0)) ∧ Fr [reg b] σ s' ∧ f_X6_passOne_L2 N b k4 n (nI l) s = k4 s' := by
  have c1 := hC.1
  have c2 := hC.2.1
  intro n
  induction n with
  | zero => intro l τ _ h; omega
  | succ n ih =>
    intro l s hl hn hS hF
    have hM' := CRel_fr hF (n2 hr) c1 c2 hM
    rw [f_X6_passOne_L2, vl_q, hM'.1, if_leq (by omega) (by omega)]
    by_cases hc : S 0 ≤ l
    · rw [if_pos hc]
      obtain rfl : l = S 0 := by omega
      exact ⟨s, hS, hF, rfl⟩
    · rw [if_neg hc]
      have a0 : oilT S l 0 = S 0 := oilT_o (by omega)
      have a1 : oilT S l 1 = S 1 := oilT_o (by omega)
      have ho := (hW.2.2.2.1 l (by omega)).1
      have hsh := c_shines (l := l) (WFC_c (oilT_C S l) hC) (oilT_W c1 hW l hl) (CRel_c (oilT_C S l) hC hM') hS (by rw [a0]; omega)
      rw [shineS_c (oilT_C S l) (by omega) (hC.2.2.2.1 l (by omega)).2.2.2.2.2.1 (oilT_o (by omega)) (oilT_o (by omega)) (oilT_o (by omega)) (oilT_o (by omega))] at hsh
      rw [hsh, bp_q]
      simp only [jn_q, vl_q, if_bI, nI_addq]
      by_cases q : shineS S l = true
      · have hpos : 0 < S (150 + l) := by
          unfold shineS at q
          simp only [Bool.and_eq_true, decide_eq_true_eq] at q
          exact q.2.1
        rw [if_pos q, ald_q (by omega) (by decide), (hS.2.2.2.1 l (by rw [a0]; omega)).1, oilT_o (by omega), nI_subq (by omega), ald_q (by omega) (by decide)]
        refine ih (l + 1) _ (by omega) (by omega) (SRel_ext (U_oil hb hS (by rw [a0]; exact c1) (by rw [a1]; exact c2) (show l < 8 by omega)) (by rw [put_ne (by omega), a0]; exact c1) (by rw [put_ne (by omega), a1]; exact c2) (fun j _ => by rw [oilT_s, if_pos q])) (hF.sI (by rw [rgf_6_4 b hb]; exact List.mem_singleton.mpr rfl))
      · rw [if_neg q]
        exact ih (l + 1) _ (by omega) (by omega) (SRel_ext hS (by rw [a0]; exact c1) (by rw [a1]; exact c2) (fun j _ => by
          rw [oilT_s, if_neg q]
          by_cases e : j = 150 + l
          · subst e; rw [put_eq, oilT_o (by omega)]
          · rw [put_ne e])) hF
theorem c_shpL {S T : Nat → Nat} {σ : St} {N b : Nat} {k19 : St → Option St} (hb : sh b = 6) (hr : reg b ≠ 2) (hC : WFC S) (hM : CRel σ 3 4 5 S) (hT : sameC S T) (hW : WFW T) : ∀ n k s, k ≤ S 1 → S 1 - k < n → SRel s b (shpT T k) → Fr [reg b] σ s → ∃ s', SRel s' b (shpT T (S 1)) ∧ Fr [reg b] σ s' ∧ f_X6_passOne_L39 N b k19 n (nI k) s = k19 s' := by
  have c1 := hC.1
  have c2 := hC.2.1
  have t0 : T 0 = S 0 := hT 0 (by decide)
  have t1 : T 1 = S 1 := hT 1 (by decide)
  intro n
  induction n with
  | zero => intro l τ _ h; omega
  | succ n ih =>
    intro k s hk hn hS hF
    have hM' := CRel_fr hF (n2 hr) c1 c2 hM
    rw [f_X6_passOne_L39, vl_q, hM'.2.1, if_leq (by omega) (by omega)]
    by_cases hc : S 1 ≤ k
    · rw [if_pos hc]
      obtain rfl : k = S 1 := by omega
      exact ⟨s, hS, hF, rfl⟩
    · rw [if_neg hc]
      have he := (hC.2.2.2.2 k (by omega)).2.2.2
      have hw := hW.1
      have a0 : shpT T k 0 = S 0 := by rw [shpT_o (by omega), t0]
      have a1 : shpT T k 1 = S 1 := by rw [shpT_o (by omega), t1]
      have a7 : shpT T k 147 = T 147 := shpT_o (by omega) k
      have ae : shpT T k (143 + k) = S (143 + k) := by rw [shpT_o (by omega), hT (143 + k) (by omega)]
      rw [vl_q, hS.1, ald_q (by omega) (by decide), vl_q, (hM'.2.2.2.2 k (by omega)).2.2.2]
      simp only [nI_addq]
      rw [a7, c_remainder (by omega) (by omega) (by omega), bp_q]
      simp only [jn_q, vl_q]
      have hm := Nat.mod_lt (T 147 + 1) (show 0 < S (143 + k) by omega)
      rw [if_eq0 (by omega)]
      by_cases q : (T 147 + 1) % S (143 + k) = 0
      · have w5 := (shpT_W hW (by omega) (by omega) k (by omega)).2.2.2.2 k (by rw [a1]; omega)
        obtain ⟨s1, e1, r1⟩ := c_sail (k := k) hb hS (by rw [a0]; exact c1) (by rw [a1]; exact c2) (by rw [a1]; omega) w5.1 w5.2.1 w5.2.2
        rw [if_pos q, e1, bp_q]
        exact ih (k + 1) s1 (by omega) (by omega) (by simp only [shpT]; rw [a7, ae, if_pos q]; exact r1) (hF.trans (fr_X6_sail hb (fun x hx => absurd hx List.not_mem_nil) (List.mem_singleton.mpr rfl) e1))
      · rw [if_neg q]
        exact ih (k + 1) s (by omega) (by omega) (by simp only [shpT]; rw [a7, ae, if_neg q]; exact hS) hF
theorem c_passOne {S : Nat → Nat} {σ : St} {N b : Nat} (hN : 500 ≤ N) (hb : sh b = 6) (hr : reg b ≠ 2) (hC : WFC S) (hW : WFW S) (hM : CRel σ 3 4 5 S) (hS : SRel σ b S) : ∃ σ', f_X6_passOne N b σ = some σ' ∧ SRel σ' b (secS S) := by
  have c1 := hC.1
  have c2 := hC.2.1
  unfold f_X6_passOne
  obtain ⟨s1, r1, f1, e1⟩ := c_oilL2 (N := N) (k4 := fun s15 => f_X6_passOne_L39 N b (fun s33 => vl (s33.1 b 1) fun v34 => vl (sI s33 b 1 (v34 + nI 1)) fun s35 => some s35) N (nI 0) s15) hb hr hC hW hM N 0 σ (by omega) (by omega) (SRel_ext hS c1 c2 (fun j _ => (oilT_0 S j).symm)) Fr.rf
  rw [e1]
  obtain ⟨s2, r2, f2, e2⟩ := c_shpL (N := N) (k19 := fun s33 => vl (s33.1 b 1) fun v34 => vl (sI s33 b 1 (v34 + nI 1)) fun s35 => some s35) hb hr hC hM (oilT_C S (S 0)) (oilT_W c1 hW (S 0) (Nat.le_refl _)) N 0 s1 (by omega) (by omega) r1 f1
  rw [e2]
  simp only [vl_q]
  refine ⟨_, rfl, ?_⟩
  have : shpT (oilT S (S 0)) (S 1) 147 = S 147 := by rw [shpT_o (by omega), oilT_o (by omega)]
  rw [r2.1, this, nI_addq]
  exact U_sec hb r2 (by rw [shpT_o (by omega), oilT_o (by omega)]; exact c1) (by rw [shpT_o (by omega), oilT_o (by omega)]; exact c2)
/-! n seconds -/
def secN (S : Nat → Nat) : Nat → Nat → Nat
  | 0 => S
  | n + 1 => secS (secN S n)
theorem secN_147 (S : Nat → Nat) : ∀ n, secN S n 147 = S 147 + n
  | 0 => rfl
  | n + 1 => by simp only [secN]; rw [secS_147, secN_147 S n]; omega
theorem secN_C (S : Nat → Nat) : ∀ n, sameC S (secN S n)
  | 0 => sameC.rf S
  | n + 1 => fun j hj => by simp only [secN]; rw [secS_C _ j hj, secN_C S n j hj]
theorem secN_W {S : Nat → Nat} (hC : WFC S) (hW : WFW S) : ∀ n, S 147 + n ≤ 5000 → WFW (secN S n)
  | 0, _ => hW
  | n + 1, h => secS_W (WFC_c (secN_C S n) hC) (secN_W hC hW n (by omega)) (by rw [secN_147]; omega)
theorem secN_hi {S : Nat → Nat} (hC : WFC S) {j : Nat} (h : 178 ≤ j) : ∀ n, secN S n j = S j
  | 0 => rfl
  | n + 1 => by
    simp only [secN]
    rw [secS_hi h (by rw [secN_C S n 0 (by decide)]; exact hC.1) (by rw [secN_C S n 1 (by decide)]; exact hC.2.1), secN_hi hC h n]
/-- how many of n seconds go by till all are over -/
def wentS (S : Nat → Nat) (n : Nat) : Nat := min n (3600 - S 147)
theorem m_goL {S : Nat → Nat} {N n : Nat} (hN : 500 ≤ N) (hC : WFC S) (hW : WFW S) (hn : n ≤ 1000) (h3 : S 147 ≤ 3600) : ∀ m i τ, i ≤ wentS S n → wentS S n - i < m → RS (secN S i) τ → ∃ τ', RS (secN S (wentS S n)) τ' ∧ f_X12_goesOn_L2 N (nI n) m (nI i) τ = some (nI (wentS S n), τ') := by
  intro m
  induction m with
  | zero => intro i τ _ h; omega
  | succ m ih =>
    intro i τ hi hm hR
    have hw : wentS S n ≤ n := Nat.min_le_left ..
    have hw2 : wentS S n ≤ 3600 - S 147 := Nat.min_le_right ..
    rw [f_X12_goesOn_L2, if_leq (by omega) (by omega)]
    by_cases hc : n ≤ i
    · rw [if_pos hc]
      obtain rfl : i = wentS S n := by omega
      exact ⟨τ, hR, rfl⟩
    · rw [if_neg hc, ald_S hR (by decide), secN_147, if_leq (by decide) (by omega)]
      by_cases hd : 3600 ≤ S 147 + i
      · rw [if_pos hd]
        obtain rfl : i = wentS S n := by unfold wentS at hi ⊢; omega
        exact ⟨τ, hR, rfl⟩
      · rw [if_neg hd]
        obtain ⟨τ1, e1, r1⟩ := m_second hN (WFC_c (secN_C S i) hC) (secN_W hC hW i (by omega)) hR
        rw [e1, bp_q, vl_q, nI_addq]
        have hlt : i < wentS S n := by unfold wentS; omega
        exact ih (i + 1) τ1 (by omega) (by omega) r1
theorem m_goesOn {S : Nat → Nat} {τ : St} {N n : Nat} (hN : 2000 ≤ N) (hC : WFC S) (hW : WFW S) (hR : RS S τ) (hn : n ≤ 1000) (h3 : S 147 ≤ 3600) : ∃ τ', f_X12_goesOn N (nI n) τ = some (nI (wentS S n), τ') ∧ RS (secN S (wentS S n)) τ' := by
  have hw : wentS S n ≤ n := Nat.min_le_left ..
  obtain ⟨τ', r, e⟩ := m_goL (N := N) (by omega) hC hW hn h3 N 0 τ (by omega) (by omega) hR
  exact ⟨τ', e, r⟩
theorem c_pasL {S : Nat → Nat} {σ : St} {N n b : Nat} (hN : 500 ≤ N) (hb : sh b = 6) (hr : reg b ≠ 2) (hC : WFC S) (hW : WFW S) (hM : CRel σ 3 4 5 S) (hn : n ≤ 1000) (h3 : S 147 ≤ 3600) : ∀ m i s, i ≤ wentS S n → wentS S n - i < m → SRel s b (secN S i) → Fr [reg b] σ s → ∃ s', SRel s' b (secN S (wentS S n)) ∧ f_X6_pass_L2 N b (nI n) m (nI i) s = some (nI (wentS S n), s') := by
  intro m
  induction m with
  | zero => intro i τ _ h; omega
  | succ m ih =>
    intro i s hi hm hS hF
    have hw : wentS S n ≤ n := Nat.min_le_left ..
    have hw2 : wentS S n ≤ 3600 - S 147 := Nat.min_le_right ..
    rw [f_X6_pass_L2, if_leq (by omega) (by omega)]
    by_cases hc : n ≤ i
    · rw [if_pos hc]
      obtain rfl : i = wentS S n := by omega
      exact ⟨s, hS, rfl⟩
    · rw [if_neg hc, vl_q, hS.1, secN_147, if_leq (by decide) (by omega)]
      by_cases hd : 3600 ≤ S 147 + i
      · rw [if_pos hd]
        obtain rfl : i = wentS S n := by unfold wentS at hi ⊢; omega
        exact ⟨s, hS, rfl⟩
      · rw [if_neg hd]
        obtain ⟨s1, e1, r1⟩ := c_passOne hN hb hr (WFC_c (secN_C S i) hC) (secN_W hC hW i (by omega)) (CRel_c (secN_C S i) hC (CRel_fr hF (n2 hr) hC.1 hC.2.1 hM)) hS
        rw [e1, bp_q, vl_q, nI_addq]
        have hlt : i < wentS S n := by unfold wentS; omega
        exact ih (i + 1) s1 (by omega) (by omega) r1 (hF.trans (fr_X6_passOne hb (fun x hx => absurd hx List.not_mem_nil) (List.mem_singleton.mpr rfl) e1))
theorem c_pass {S : Nat → Nat} {σ : St} {N n b : Nat} (hN : 2000 ≤ N) (hb : sh b = 6) (hr : reg b ≠ 2) (hC : WFC S) (hW : WFW S) (hM : CRel σ 3 4 5 S) (hS : SRel σ b S) (hn : n ≤ 1000) (h3 : S 147 ≤ 3600) : ∃ σ', f_X6_pass N b (nI n) σ = some (nI (wentS S n), σ') ∧ SRel σ' b (secN S (wentS S n)) := by
  have hw : wentS S n ≤ n := Nat.min_le_left ..
  obtain ⟨σ', r, e⟩ := c_pasL (N := N) (by omega) hb hr hC hW hM hn h3 N 0 σ (by omega) (by omega) hS Fr.rf
  exact ⟨σ', e, r⟩
