/-! a book's lines are lived: both sides -/
def lnW (S : Nat → Nat) (w a b : Nat) : Nat := if w = 0 then douW S a else if w = 1 then kinW S a else if w = 2 then filW S a b else if w = 3 then shfW S a else if w = 4 then steW S a b else if w = 5 then hazW S b else if S 147 + b ≤ 3600 then 0 else 1
def lnT (S : Nat → Nat) (w a b : Nat) : Nat → Nat := if w = 0 then douT S a else if w = 1 then kinT S a else if w = 2 then filT S a b else if w = 3 then shfT S a b else if w = 4 then steT S a b else if w = 5 then hazT S b else secN S b
def wrg (w W : Nat) : Nat := if W = 0 then 0 else 10 * w + W
def lnA (S : Nat → Nat) (w a b : Nat) : Nat → Nat := actR (lnW S w a b) (lnT S w a b) S
def lnOk (S : Nat → Nat) (w a b : Nat) : Prop := w ≤ 6 ∧ (w ≤ 3 → a < S 0) ∧ (w = 4 → a < S 1) ∧ (2 ≤ w → bLo w ≤ b ∧ b ≤ bHi w)
theorem actR_0 {W : Nat} {T S : Nat → Nat} (h : W = 0) : actR W T S = T := if_pos h
theorem actR_n {W : Nat} {T S : Nat → Nat} (h : ¬ W = 0) : actR W T S = S := if_neg h
theorem lnW_le (S : Nat → Nat) (w a b : Nat) : lnW S w a b ≤ 2 := by
  unfold lnW douW kinW filW shfW steW hazW
  split
  · split <;> omega
  · split
    · split
      · omega
      · split <;> omega
    · split
      · split <;> omega
      · split
        · split <;> omega
        · split
          · split <;> omega
          · split
            · split <;> omega
            · split <;> omega
theorem ln_ok {S : Nat → Nat} {w a b : Nat} (hC : WFC S) (hW : WFW S) (h3 : S 147 ≤ 3600) (ok : lnOk S w a b) : sameO S (lnA S w a b) ∧ WFW (lnA S w a b) ∧ lnA S w a b 147 ≤ 3600 := by
  obtain ⟨hw, oa, os, ob⟩ := ok
  have c1 := hC.1
  have c2 := hC.2.1
  by_cases z : lnW S w a b = 0
  · unfold lnA
    rw [actR_0 z]
    have : w = 0 ∨ w = 1 ∨ w = 2 ∨ w = 3 ∨ w = 4 ∨ w = 5 ∨ w = 6 := by omega
    rcases this with rfl | rfl | rfl | rfl | rfl | rfl | rfl
    · have := oa (by decide)
      exact ⟨(sameO.rf S).put (by decide) (by decide) _, douT_W c1 hW this z, by show douT S a 147 ≤ 3600; unfold douT; rw [put_ne (by decide)]; exact h3⟩
    · exact ⟨(sameO.rf S).put (by decide) (by decide) _, kinT_W hW, by show kinT S a 147 ≤ 3600; unfold kinT; rw [put_ne (by decide)]; exact h3⟩
    · have := oa (by decide)
      exact ⟨(sameO.rf S).put (by omega) (by omega) _, filT_W this c1 hW z, by show filT S a b 147 ≤ 3600; unfold filT; rw [put_ne (by omega)]; exact h3⟩
    · have := oa (by decide)
      exact ⟨(sameO.rf S).put (by omega) (by omega) _, shfT_W this c1 hC hW, by show shfT S a b 147 ≤ 3600; unfold shfT; rw [put_ne (by omega)]; exact h3⟩
    · have := os rfl
      have hb : b ≤ 8 := (ob (by decide)).2
      exact ⟨(sameO.rf S).put (by omega) (by omega) _, steT_W this c1 c2 hW hb, by show steT S a b 147 ≤ 3600; unfold steT; rw [put_ne (by omega)]; exact h3⟩
    · have hb : 1 ≤ b ∧ b ≤ 30 := ob (by decide)
      exact ⟨(sameO.rf S).put (by omega) (by omega) _, hazT_W hW hb, by show hazT S b 147 ≤ 3600; unfold hazT; rw [put_ne (by omega)]; exact h3⟩
    · have hs : S 147 + b ≤ 3600 := by
        rcases Nat.lt_or_ge 3600 (S 147 + b) with q | q
        · exfalso
          have : lnW S 6 a b = 1 := by
            unfold lnW
            rw [if_neg (by decide), if_neg (by decide), if_neg (by decide), if_neg (by decide), if_neg (by decide), if_neg (by decide), if_neg (by omega)]
          omega
        · exact q
      exact ⟨secN_o hC b, secN_W hC hW b (by omega), by show secN S b 147 ≤ 3600; rw [secN_147]; exact hs⟩
  · unfold lnA
    rw [actR_n z]
    exact ⟨sameO.rf S, hW, h3⟩
theorem c_why {w W : Nat} {s : St} (hw : w ≤ 6) (hW : W ≤ 2) : f_X0_whyWrong (nI w) (nI W) s = some (nI (wrg w W)) := by
  unfold f_X0_whyWrong wrg
  rw [if_eq0 (by omega), nI_mulq, nI_addq]
  split <;> rfl
theorem c_whyQ {w W : Nat} {s : St} (hw : w ≤ 6) (hW : W ≤ 2) : (bp (f_X0_whyWrong (nI w) (nI W) s) fun v => some (v, s)) = some (nI (wrg w W), s) := by rw [c_why hw hW, bp_q]
theorem c_pallL {S : Nat → Nat} {σ : St} {N n b : Nat} (hN : 500 ≤ N) (hb : sh b = 6) (hr : reg b ≠ 2) (hC : WFC S) (hW : WFW S) (hM : CRel σ 3 4 5 S) (hn : S 147 + n ≤ 3600) : ∀ m i s, i ≤ n → n - i < m → SRel s b (secN S i) → Fr [reg b] σ s → ∃ s', SRel s' b (secN S n) ∧ f_X6_passAll_L16 N b (nI n) m (nI i) s = some (nI 0, s') := by
  intro m
  induction m with
  | zero => intro i s _ h; omega
  | succ m ih =>
    intro i s hi hm hS hF
    rw [f_X6_passAll_L16, if_leq (by omega) (by omega)]
    by_cases hc : n ≤ i
    · rw [if_pos hc]
      obtain rfl : i = n := by omega
      exact ⟨s, hS, rfl⟩
    · have hCi := WFC_c (secN_C S i) hC
      have hWi := secN_W hC hW i (by omega)
      have hMi := CRel_c (secN_C S i) hC (CRel_fr hF (n2 hr) hC.1 hC.2.1 hM)
      obtain ⟨s1, e1, r1⟩ := c_passOne (N := N) hN hb hr hCi hWi hMi hS
      have f1 : Fr [reg b] s s1 := fr_X6_passOne hb (fun x hx => absurd hx List.not_mem_nil) (List.mem_singleton.mpr rfl) e1
      rw [if_neg hc, e1, bp_q, vl_q, nI_addq]
      exact ih (i + 1) s1 (by omega) (by omega) r1 (hF.trans f1)
theorem c_passAll {S : Nat → Nat} {σ : St} {N n b : Nat} (hN : 2000 ≤ N) (hb : sh b = 6) (hr : reg b ≠ 2) (hC : WFC S) (hW : WFW S) (hM : CRel σ 3 4 5 S) (hS : SRel σ b S) (hn : n ≤ 1000) (h3 : S 147 ≤ 3600) : ∃ σ', f_X6_passAll N b (nI n) σ = some (nI (if S 147 + n ≤ 3600 then 0 else 1), σ') ∧ SRel σ' b (actR (if S 147 + n ≤ 3600 then 0 else 1) (secN S n) S) := by
  unfold f_X6_passAll
  rw [vl_q, hS.1, nI_subq h3, if_leq (by omega) (by omega)]
  by_cases q : S 147 + n ≤ 3600
  · rw [if_pos (by omega), if_pos q]
    obtain ⟨s', r, e⟩ := c_pallL (S := S) (N := N) (n := n) (by omega) hb hr hC hW hM q N 0 σ (by omega) (by omega) hS Fr.rf
    exact ⟨s', e, by rw [actR_0 rfl]; exact r⟩
  · rw [if_neg (by omega), if_neg q]
    exact ⟨σ, rfl, by rw [actR_n (by decide)]; exact hS⟩
section Live
variable {σ τ : St} {S : Nat → Nat} {N i w a b : Nat}
theorem c_line (hN : 2000 ≤ N) (hC : WFC S) (hW : WFW S) (h3 : S 147 ≤ 3600) (hM : CRel σ 3 4 5 S) (hS : SRel σ 55 S) (ok : lnOk S w a b) (hi : i < 40) (h72 : σ.1 72 i = nI w) (h73 : w ≤ 4 → σ.1 73 i = nI a) (h74 : 2 ≤ w → σ.1 74 i = nI b) : ∃ σ', f_X0_liveLine N 55 (nI i) σ = some (nI (wrg w (lnW S w a b)), σ') ∧ SRel σ' 55 (lnA S w a b) := by
  obtain ⟨hw, oa, os, ob⟩ := ok
  have c1 := hC.1
  have c2 := hC.2.1
  have hl := lnW_le S w a b
  unfold f_X0_liveLine
  rw [ald_q hi (by decide), ald_q hi (by decide), ald_q hi (by decide), h72]
  have : w = 0 ∨ w = 1 ∨ w = 2 ∨ w = 3 ∨ w = 4 ∨ w = 5 ∨ w = 6 := by omega
  rcases this with rfl | rfl | rfl | rfl | rfl | rfl | rfl
  · obtain ⟨σ', e, r⟩ := c_putOut (l := a) sh55.1 c1 c2 hW hS (oa (by decide))
    rw [if_pos rfl, h73 (by decide), e, bd_q]
    exact ⟨σ', c_whyQ (w := 0) (by decide) hl, r⟩
  · obtain ⟨σ', e, r⟩ := c_relight (l := a) sh55.1 c1 c2 hW hS (oa (by decide))
    rw [if_neg (by decide), if_pos rfl, h73 (by decide), e, bd_q]
    exact ⟨σ', c_whyQ (w := 1) (by decide) hl, r⟩
  · have hb : 1 ≤ b ∧ b ≤ 999 := ob (by decide)
    obtain ⟨σ', e, r⟩ := c_pourInto (l := a) (n := b) sh55.1 c1 c2 hW hS (oa (by decide)) (by omega)
    rw [if_neg (by decide), if_neg (by decide), if_pos rfl, h73 (by decide), h74 (by decide), e, bd_q]
    exact ⟨σ', c_whyQ (w := 2) (by decide) hl, r⟩
  · have hb : 1 ≤ b ∧ b ≤ 59 := ob (by decide)
    obtain ⟨σ', e, r⟩ := c_moveOn (l := a) (n := b) sh55.1 hC hW hM hS (oa (by decide)) (by omega)
    rw [if_neg (by decide), if_neg (by decide), if_neg (by decide), if_pos rfl, h73 (by decide), h74 (by decide), e, bd_q]
    exact ⟨σ', c_whyQ (w := 3) (by decide) hl, r⟩
  · have hb : 0 ≤ b ∧ b ≤ 8 := ob (by decide)
    obtain ⟨σ', e, r⟩ := c_turn (k := a) (c := b) sh55.1 c1 c2 hW hS (os rfl) (by omega)
    rw [if_neg (by decide), if_neg (by decide), if_neg (by decide), if_neg (by decide), if_pos rfl, h73 (by decide), h74 (by decide), e, bd_q]
    exact ⟨σ', c_whyQ (w := 4) (by decide) hl, r⟩
  · have hb : 1 ≤ b ∧ b ≤ 30 := ob (by decide)
    obtain ⟨σ', e, r⟩ := c_setHaze (n := b) sh55.1 c1 c2 hW hS (by omega)
    rw [if_neg (by decide), if_neg (by decide), if_neg (by decide), if_neg (by decide), if_neg (by decide), if_pos rfl, h74 (by decide), e, bd_q]
    exact ⟨σ', c_whyQ (w := 5) (by decide) hl, r⟩
  · have hb : 1 ≤ b ∧ b ≤ 60 := ob (by decide)
    obtain ⟨σ', e, r⟩ := c_passAll (N := N) (n := b) hN sh55.1 (by rw [sh55.2]; decide) hC hW hM hS (by omega) h3
    rw [if_neg (by decide), if_neg (by decide), if_neg (by decide), if_neg (by decide), if_neg (by decide), if_neg (by decide), h74 (by decide), e, bd_q]
    exact ⟨σ', c_whyQ (w := 6) (by decide) hl, r⟩
theorem or_has : ∀ l, l < 8 → ∀ b, b < 256 → b / 2 ^ l % 2 = 1 → nI b ||| (nI 1 <<< (nI l &&& 31)) = nI b := by decide +kernel
theorem m_dJ {w W : Nat} {s : St} (hw : w ≤ 6) (hW : W ≤ 2) : (if nI W ≤ 0 then some (nI 0, s) else some (nI W + nI 10 * nI w, s)) = some (nI (wrg w W), s) := by
  unfold wrg
  rw [if_le0 (by omega), nI_mulq, nI_addq, Nat.add_comm W]
  split <;> rfl
theorem put_id (S : Nat → Nat) (k : Nat) : put S k (S k) = S := by
  funext j
  unfold put
  split
  · rename_i h; rw [h]
  · rfl
theorem m_line {x1 x2 x3 : Int32} (hN : 2000 ≤ N) (hC : WFC S) (hW : WFW S) (h3 : S 147 ≤ 3600) (hR : RS S τ) (ok : lnOk S w a b) (h1 : x1 = nI w) (h2 : w ≤ 4 → x2 = nI a) (h4 : 2 ≤ w → w ≤ 4 → x3 = nI b) (h5 : 5 ≤ w → x2 = nI b) : ∃ τ', f_X12_does N x1 x2 x3 τ = some (nI (wrg w (lnW S w a b)), τ') ∧ RS (lnA S w a b) τ' := by
  obtain ⟨hw, oa, os, ob⟩ := ok
  have c1 := hC.1
  have c2 := hC.2.1
  have hl := lnW_le S w a b
  rw [h1]
  unfold f_X12_does
  refine (congrArg (fun y => ∃ τ', y = some (nI (wrg w (lnW S w a b)), τ') ∧ RS (lnA S w a b) τ') (jn_q _ _)).mpr ?_
  have : w = 0 ∨ w = 1 ∨ w = 2 ∨ w = 3 ∨ w = 4 ∨ w = 5 ∨ w = 6 := by omega
  rcases this with rfl | rfl | rfl | rfl | rfl | rfl | rfl
  · have ha := oa (by decide)
    have e0 : lnW S 0 a b = douW S a := rfl
    rw [if_pos rfl, h2 (by decide), ald_S hR (by decide), m_bitOf hW.2.1.1 (by omega), bp_q, jn_q]
    dsimp only
    rw [if_bI]
    unfold lnA
    have e1 : lnT S 0 a b = douT S a := rfl
    rw [e0, e1] at *
    by_cases q : S 148 / 2 ^ a % 2 = 1
    · have z : douW S a = 1 := if_pos q
      rw [if_pos (decide_eq_true q), ald_S hR (by decide), ald_q (by decide) (by decide), or_has a (by omega) _ hW.2.1.1 q, z]
      try dsimp only
      rw [m_dJ (w := 0) (W := 1) (by decide) (by decide), actR_n (by decide)]
      exact ⟨_, rfl, by have := RS_put hR 148 (S 148); rw [put_id] at this; exact this⟩
    · have z : douW S a = 0 := if_neg q
      rw [if_neg (fun y => q (of_decide_eq_true y)), ald_S hR (by decide), ald_q (by decide) (by decide), (or_set a (by omega) _ hW.2.1.1 (by have := m2 (S 148 / 2 ^ a); omega)).1, z]
      try dsimp only
      rw [m_dJ (w := 0) (W := 0) (by decide) (by decide), actR_0 rfl]
      exact ⟨_, rfl, RS_put hR _ _⟩
  · have ha := oa (by decide)
    have ha8 : a < 8 := by omega
    have eW : f_X12_whyKindle (nI a) τ = some (nI (kinW S a)) := by
      unfold f_X12_whyKindle kinW
      rw [ald_S hR (by decide), m_bitOf hW.2.1.1 ha8, bp_q, if_bI, nI_addq, ald_S hR (by omega), if_eq0 (by have := (hW.2.2.2.1 a ha).1; omega)]
      have := m2 (S 148 / 2 ^ a)
      by_cases q : S 148 / 2 ^ a % 2 = 1
      · rw [if_pos (decide_eq_true q), if_neg (by omega : ¬ S 148 / 2 ^ a % 2 = 0)]
        split <;> rfl
      · rw [if_neg (fun z => q (of_decide_eq_true z)), if_pos (by omega : S 148 / 2 ^ a % 2 = 0)]
    have e0 : lnW S 1 a b = kinW S a := rfl
    have e1 : lnT S 1 a b = kinT S a := rfl
    rw [if_neg (by decide), if_pos rfl, h2 (by decide), eW, bp_q]
    unfold lnA
    rw [e0] at hl
    rw [e0, e1, if_eq0 (by omega)]
    by_cases z : kinW S a = 0
    · have q : S 148 / 2 ^ a % 2 = 1 := by
        unfold kinW at z
        by_cases q0 : S 148 / 2 ^ a % 2 = 0
        · rw [if_pos q0] at z; omega
        · have := m2 (S 148 / 2 ^ a); omega
      rw [if_pos z, ald_S hR (by decide), and_clr a ha8 _ hW.2.1.1 q, ald_q (by decide) (by decide)]
      try dsimp only
      rw [m_dJ (w := 1) (by decide) hl, actR_0 z]
      exact ⟨_, rfl, RS_put hR _ _⟩
    · rw [if_neg z]
      try dsimp only
      rw [m_dJ (w := 1) (by decide) hl, actR_n z]
      exact ⟨_, rfl, hR⟩
  · have ha := oa (by decide)
    have hb : 1 ≤ b ∧ b ≤ 999 := ob (by decide)
    have o9 := (hW.2.2.2.1 a ha).1
    have eW : f_X12_whyFill (nI a) (nI b) τ = some (nI (filW S a b)) := by
      unfold f_X12_whyFill filW
      rw [nI_addq, ald_S hR (by omega), nI_addq, if_leq (by omega) (by decide)]
      split <;> rfl
    have e0 : lnW S 2 a b = filW S a b := rfl
    have e1 : lnT S 2 a b = filT S a b := rfl
    rw [if_neg (by decide), if_neg (by decide), if_pos rfl, h2 (by decide), h4 (by decide) (by decide), eW, bp_q]
    unfold lnA
    rw [e0] at hl
    rw [e0, e1, if_eq0 (by omega)]
    by_cases z : filW S a b = 0
    · rw [if_pos z, nI_addq, ald_S hR (by omega), nI_addq, ald_q (by omega) (by decide)]
      try dsimp only
      rw [m_dJ (w := 2) (by decide) hl, actR_0 z]
      exact ⟨_, rfl, RS_put hR _ _⟩
    · rw [if_neg z]
      try dsimp only
      rw [m_dJ (w := 2) (by decide) hl, actR_n z]
      exact ⟨_, rfl, hR⟩
  · have ha := oa (by decide)
    have ha8 : a < 8 := by omega
    have hb : 1 ≤ b ∧ b ≤ 59 := ob (by decide)
    have hwl := hC.2.2.2.1 a ha
    have f4 : S (43 + a) ≤ 4 := hwl.2.2.2.2.2.1
    have s9 := (hW.2.2.2.1 a ha).2
    have hp := perS_le hwl
    have e0 : lnW S 3 a b = shfW S a := rfl
    have e1 : lnT S 3 a b = shfT S a b := rfl
    rw [if_neg (by decide), if_neg (by decide), if_neg (by decide), if_pos rfl, h2 (by decide), h4 (by decide) (by decide), nI_addq, ald_S hR (by omega)]
    refine (congrArg (fun y => ∃ τ', y = some (nI (wrg 3 (lnW S 3 a b)), τ') ∧ RS (lnA S 3 a b) τ') (jn_q _ _)).mpr ?_
    unfold lnA
    rw [e0, e1, if_eq0 (by omega)]
    by_cases q : S (43 + a) = 0
    · have z : shfW S a = 1 := if_pos q
      rw [if_pos q]
      try dsimp only
      rw [if_one, z]
      try dsimp only
      rw [m_dJ (w := 3) (W := 1) (by decide) (by decide), actR_n (by decide)]
      exact ⟨_, rfl, hR⟩
    · have z : shfW S a = 0 := if_neg q
      unfold f_X12_turns
      rw [if_neg q]
      try dsimp only
      rw [if_pos (by decide), nI_addq, ald_S hR (by omega), m_periodOf (by omega) hR ha8 hwl, bp_q, nI_addq, rm_q (by omega) (perS_pos S a) (by omega), ald_q (by omega) (by decide), bp_q, z]
      try dsimp only
      rw [m_dJ (w := 3) (W := 0) (by decide) (by decide), actR_0 rfl]
      exact ⟨_, rfl, RS_put hR _ _⟩
  · have ha := os rfl
    have hb : 0 ≤ b ∧ b ≤ 8 := ob (by decide)
    have c8 := (hW.2.2.2.2 a ha).2.2
    have e0 : lnW S 4 a b = steW S a b := rfl
    have e1 : lnT S 4 a b = steT S a b := rfl
    rw [if_neg (by decide), if_neg (by decide), if_neg (by decide), if_neg (by decide), if_pos rfl, h2 (by decide), h4 (by decide) (by decide), nI_addq, ald_S hR (by omega)]
    refine (congrArg (fun y => ∃ τ', y = some (nI (wrg 4 (lnW S 4 a b)), τ') ∧ RS (lnA S 4 a b) τ') (jn_q _ _)).mpr ?_
    unfold lnA
    rw [e0, e1, if_eqq (by omega) (by omega)]
    have hp := RS_put hR (174 + a) b
    by_cases q : S (174 + a) = b
    · have z : steW S a b = 1 := if_pos q
      rw [if_pos q]
      try dsimp only
      rw [ald_q (by omega) (by decide), z]
      try dsimp only
      rw [m_dJ (w := 4) (W := 1) (by decide) (by decide), actR_n (by decide)]
      rw [← q, put_id, q] at hp
      exact ⟨_, rfl, hp⟩
    · have z : steW S a b = 0 := if_neg q
      rw [if_neg q]
      try dsimp only
      rw [ald_q (by omega) (by decide), z]
      try dsimp only
      rw [m_dJ (w := 4) (W := 0) (by decide) (by decide), actR_0 rfl]
      exact ⟨_, rfl, hp⟩
  · have hb : 1 ≤ b ∧ b ≤ 30 := ob (by decide)
    have c8 := hW.2.2.1
    have e0 : lnW S 5 a b = hazW S b := rfl
    have e1 : lnT S 5 a b = hazT S b := rfl
    rw [if_neg (by decide), if_neg (by decide), if_neg (by decide), if_neg (by decide), if_neg (by decide), if_pos rfl, h5 (by decide), ald_S hR (by omega)]
    refine (congrArg (fun y => ∃ τ', y = some (nI (wrg 5 (lnW S 5 a b)), τ') ∧ RS (lnA S 5 a b) τ') (jn_q _ _)).mpr ?_
    unfold lnA
    rw [e0, e1, if_eqq (by omega) (by omega)]
    have hp := RS_put hR 149 b
    by_cases q : S 149 = b
    · have z : hazW S b = 1 := if_pos q
      rw [if_pos q]
      try dsimp only
      rw [ald_q (by omega) (by decide), z]
      try dsimp only
      rw [m_dJ (w := 5) (W := 1) (by decide) (by decide), actR_n (by decide)]
      rw [← q, put_id, q] at hp
      exact ⟨_, rfl, hp⟩
    · have z : hazW S b = 0 := if_neg q
      rw [if_neg q]
      try dsimp only
      rw [ald_q (by omega) (by decide), z]
      try dsimp only
      rw [m_dJ (w := 5) (W := 0) (by decide) (by decide), actR_0 rfl]
      exact ⟨_, rfl, hp⟩
  · have hb : 1 ≤ b ∧ b ≤ 60 := ob (by decide)
    rw [if_neg (by decide), if_neg (by decide), if_neg (by decide), if_neg (by decide), if_neg (by decide), if_neg (by decide), h5 (by decide), ald_S hR (by omega)]
    refine (congrArg (fun y => ∃ τ', y = some (nI (wrg 6 (lnW S 6 a b)), τ') ∧ RS (lnA S 6 a b) τ') (jn_q _ _)).mpr ?_
    have e0 : lnW S 6 a b = if S 147 + b ≤ 3600 then 0 else 1 := rfl
    have e1 : lnT S 6 a b = secN S b := rfl
    unfold lnA
    rw [e0, e1, nI_addq, if_leq (by omega) (by decide)]
    by_cases q : S 147 + b ≤ 3600
    · obtain ⟨τ', eg, rg⟩ := m_goesOn (N := N) (n := b) hN hC hW hR (by omega) h3
      have hwn : wentS S b = b := by unfold wentS; omega
      rw [hwn] at eg rg
      rw [if_pos q, if_pos q]
      try dsimp only
      rw [if_pos (by decide), eg, bd_q]
      try dsimp only
      rw [m_dJ (w := 6) (W := 0) (by decide) (by decide), actR_0 rfl]
      exact ⟨_, rfl, rg⟩
    · rw [if_neg q, if_neg q]
      try dsimp only
      rw [if_one]
      try dsimp only
      rw [m_dJ (w := 6) (W := 1) (by decide) (by decide), actR_n (by decide)]
      exact ⟨_, rfl, hR⟩
/-- the lines from i on -/
theorem p_liveL {x : Int32} {c : Nat} {k38 : Int32 → St → Option (Int32 × St)} (hN : 2000 ≤ N) (hc : c ≤ 40) : ∀ (F i : Nat) (σ τ : St) (S : Nat → Nat), WFC S → WFW S → S 147 ≤ 3600 → CRel σ 3 4 5 S → SRel σ 55 S → RS S τ → σ.1 71 3 = nI c → τ.1 206 40 = nI c → (∀ j, j < c → BkL σ τ (S 0) (S 1) j) → σ.1 71 4 = nI i → σ.1 71 5 = nI 0 → τ.1 219 1 = nI i → τ.1 219 0 = nI 0 → i ≤ c → c - i + 1 < F → ∃ σ' τ' S' j w, f_X0_live_L10 N 55 F σ = some σ' ∧ f_X12_book_L111 N x k38 F (-1) (nI i) τ = k38 (if w = 0 then -1 else nI j) τ' ∧ (SRel σ' 55 S' ∧ RS S' τ') ∧ (sameO S S' ∧ WFW S' ∧ S' 147 ≤ 3600) ∧ (σ'.1 71 4 = nI j ∧ σ'.1 71 5 = nI w ∧ τ'.1 219 0 = nI w ∧ τ'.1 219 1 = nI j) ∧ (i ≤ j ∧ j ≤ c ∧ w < 100) ∧ (j = i → S' = S) ∧ Fr [5, 8] σ σ' ∧ Fr [208, 219] τ τ' := by
  intro F
  induction F with
  | zero => intro i σ τ S _ _ _ _ _ _ _ _ _ _ _ _ _ _ h; omega
  | succ F ih =>
    intro i σ τ S hC hW h3 hM hS hR s3 t40 hB s4 s5 t1 t0 hi hF
    have c1 := hC.1
    have c2 := hC.2.1
    rw [f_X0_live_L10, f_X12_book_L111, vl_q, s4, vl_q, s3, if_leq (by omega) (by omega), vl_q, t40, vl_q, if_leq (by omega) (by omega)]
    by_cases z : c ≤ i
    · rw [if_pos z, if_pos z]
      exact ⟨σ, τ, S, i, 0, rfl, rfl, ⟨hS, hR⟩, ⟨sameO.rf S, hW, h3⟩, ⟨s4, s5, t0, t1⟩, ⟨Nat.le_refl _, hi, by decide⟩, fun _ => rfl, Fr.rf, Fr.rf⟩
    · obtain ⟨w, a, b, b1, b2, b3, b4, b5, b6, b7, b8⟩ := hB i (by omega)
      have ok : lnOk S w a b := ⟨b1, b4.1, b4.2, fun h => (b6 h).1⟩
      obtain ⟨σ1, e1, r1⟩ := c_line (N := N) (i := i) hN hC hW h3 hM hS ok (by omega) b2 (fun h => (b5 h).1) (fun h => (b6 h).2)
      obtain ⟨τ1, e2, r2⟩ := m_line (N := N) (x1 := τ.1 210 (3 * i)) (x2 := τ.1 210 (3 * i + 1)) (x3 := τ.1 210 (3 * i + 2)) hN hC hW h3 hR ok b3 (fun h => (b5 h).2) b7 b8
      obtain ⟨o1, o2, o3⟩ := ln_ok hC hW h3 ok
      have f1 : Fr [5] σ σ1 := fr_X0_liveLine sh55.1 (fun x hx => absurd hx List.not_mem_nil) (by rw [sh55.2]; decide) e1
      have f2 : Fr [208] τ τ1 := fr_X12_does (fun x hx => hx) e2
      have hl := lnW_le S w a b
      have rw8 : ∀ b, reg b = 8 → σ1.1 b = σ.1 b := fun b hb => fr_row f1 (by rw [hb]; decide)
      have wl : wrg w (lnW S w a b) < 100 := by unfold wrg; split <;> omega
      have s71 : σ1.1 71 = σ.1 71 := rw8 71 (by decide +kernel)
      have t219 : τ1.1 219 = τ.1 219 := fr_row f2 (by decide +kernel)
      have t206 : τ1.1 206 = τ.1 206 := fr_row f2 (by decide +kernel)
      have t210 : τ1.1 210 = τ.1 210 := fr_row f2 (by decide +kernel)
      have x5 : (sI σ1 71 5 (nI (wrg w (lnW S w a b)))).1 71 5 = nI (wrg w (lnW S w a b)) := by rw [sI1, if_pos rfl, if_pos rfl]
      have x4 : (sI σ1 71 5 (nI (wrg w (lnW S w a b)))).1 71 4 = nI i := by rw [sI1, if_pos rfl, if_neg (by decide), s71]; exact s4
      have y0 : (sI τ1 219 0 (nI (wrg w (lnW S w a b)))).1 219 0 = nI (wrg w (lnW S w a b)) := by rw [sI1, if_pos rfl, if_pos rfl]
      have y1 : (sI τ1 219 0 (nI (wrg w (lnW S w a b)))).1 219 1 = nI i := by rw [sI1, if_pos rfl, if_neg (by decide), t219]; exact t1
      have y40 : (sI τ1 219 0 (nI (wrg w (lnW S w a b)))).1 206 40 = nI c := by rw [sI_ne (by decide), t206]; exact t40
      have g1 : Fr [5, 8] σ (sI σ1 71 5 (nI (wrg w (lnW S w a b)))) := (f1.mono (by decide)).sI (by decide +kernel)
      have g2 : Fr [208, 219] τ (sI τ1 219 0 (nI (wrg w (lnW S w a b)))) := (f2.mono (by decide)).sI (by decide +kernel)
      have r1' : SRel (sI σ1 71 5 (nI (wrg w (lnW S w a b)))) 55 (lnA S w a b) := SRel_fr sh55.1 (Fr.rf.sI (R := [8]) (by decide +kernel)) (by rw [sh55.2]; decide) r1
      have r2' : RS (lnA S w a b) (sI τ1 219 0 (nI (wrg w (lnW S w a b)))) := RS_o r2 (fun j => by rw [sI_ne (by decide)])
      have bl : ∀ j, j < c → BkL (sI σ1 71 5 (nI (wrg w (lnW S w a b)))) (sI τ1 219 0 (nI (wrg w (lnW S w a b)))) (S 0) (S 1) j := fun j hj => BkL_w (hB j hj) (by rw [sI_ne (by decide), rw8 72 (by decide +kernel)]) (by rw [sI_ne (by decide), rw8 73 (by decide +kernel)]) (by rw [sI_ne (by decide), rw8 74 (by decide +kernel)]) (fun k _ => by rw [sI_ne (by decide), t210])
      have x3 : (sI σ1 71 5 (nI (wrg w (lnW S w a b)))).1 71 3 = nI c := by rw [sI1, if_pos rfl, if_neg (by decide), s71]; exact s3
      rw [if_neg z, e1, bd_q, vl_q, vl_q, if_neg z, if_neg (show ¬ (0 : Int32) ≤ -1 by decide), nI3c (by omega), ald_q (by omega) (by decide), nI_addq, ald_q (by omega) (by decide), nI_addq, ald_q (by omega) (by decide), e2, bd_q, ald_q (by decide) (by decide), ald_q (by decide) (by decide), jn_q]
      dsimp only
      rw [x5, y0, if_eq0 (by omega), if_le0 (by omega)]
      generalize sI σ1 71 5 (nI (wrg w (lnW S w a b))) = σ2 at *
      generalize sI τ1 219 0 (nI (wrg w (lnW S w a b))) = τ2 at *
      by_cases y : wrg w (lnW S w a b) = 0
      · have W0 : lnW S w a b = 0 := by
          unfold wrg at y
          by_cases q : lnW S w a b = 0
          · exact q
          · rw [if_neg q] at y; omega
        rw [if_pos y, if_pos y, vl_q, x4, vl_q, nI_addq, ald_q (by decide) (by decide), y1, nI_addq, ald_q (by decide) (by decide), vl_q]
        rw [y] at x5 y0
        obtain ⟨σ', τ', S', j, w', q1, q2, q3, ⟨q4, q4', q4''⟩, q5, ⟨q6, q6', q6''⟩, q7, q8, q9⟩ := ih (i + 1) (sI σ2 71 4 (nI (i + 1))) (sI τ2 219 1 (nI (i + 1))) (lnA S w a b) (WFC_c o1.C hC) o2 o3 (CRel_c o1.C hC (CRel_fr (g1.sI (by decide +kernel)) (by decide) c1 c2 hM)) (SRel_fr sh55.1 (Fr.rf.sI (R := [8]) (by decide +kernel)) (by rw [sh55.2]; decide) r1') (RS_o r2' (fun j => by rw [sI_ne (by decide)])) (by rw [sI1, if_pos rfl, if_neg (by decide)]; exact x3) (by rw [sI_ne (by decide)]; exact y40) (fun j hj => by
          rw [o1 0 (by decide), o1 1 (by decide)]
          exact BkL_w (bl j hj) (by rw [sI_ne (by decide)]) (by rw [sI_ne (by decide)]) (by rw [sI_ne (by decide)]) (fun k _ => by rw [sI_ne (by decide)])) (by rw [sI1, if_pos rfl, if_pos rfl]) (by rw [sI1, if_pos rfl, if_neg (by decide)]; exact x5) (by rw [sI1, if_pos rfl, if_pos rfl]) (by rw [sI1, if_pos rfl, if_neg (by decide)]; exact y0) (by omega) (by omega)
        exact ⟨σ', τ', S', j, w', q1, q2, q3, ⟨o1.trans q4, q4', q4''⟩, q5, ⟨by omega, q6', q6''⟩, fun e => by omega, (g1.sI (by decide +kernel)).trans q8, (g2.sI (by decide +kernel)).trans q9⟩
      · have W0 : ¬ lnW S w a b = 0 := fun q => y (by unfold wrg; rw [if_pos q])
        have eS : lnA S w a b = S := by unfold lnA; exact actR_n W0
        obtain ⟨F', rfl⟩ : ∃ F', F = F' + 1 := ⟨F - 1, by omega⟩
        rw [eS] at r1' r2'
        have fin : f_X12_book_L111 N x k38 (F' + 1) (nI i) (nI i + nI 1) τ2 = k38 (if wrg w (lnW S w a b) = 0 then -1 else nI i) τ2 := by
          rw [f_X12_book_L111, vl_q, y40, if_neg y, if_ge0 (by omega)]
          split <;> rfl
        rw [if_neg y, if_neg y, vl_q, fin]
        exact ⟨σ2, τ2, S, i, wrg w (lnW S w a b), rfl, rfl, ⟨r1', r2'⟩, ⟨sameO.rf S, hW, h3⟩, ⟨x4, x5, y0, y1⟩, ⟨Nat.le_refl _, hi, wl⟩, fun _ => rfl, g1, g2⟩
end Live
