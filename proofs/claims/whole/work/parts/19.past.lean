/-! scenes copied, kept, taken back; the model's rows of undone states -/
theorem reg_scn (b : Nat) (h : sh b = 6) : reg (rr b 4) = reg b ∧ reg (rr b 5) = reg b ∧ reg (rr b 6) = reg b ∧ reg (rr b 7) = reg b ∧ reg (rr b 8) = reg b := ⟨rgf_6_4 b h, rgf_6_5 b h, rgf_6_6 b h, rgf_6_7 b h, rgf_6_8 b h⟩
theorem reg_ne {a b : Nat} (h : reg a ≠ reg b) : a ≠ b := fun e => h (by rw [e])
theorem c_copyScene {S : Nat → Nat} {σ : St} {a b : Nat} (ha : sh a = 6) (hb : sh b = 6) (hr : reg a ≠ reg b) (h0 : S 0 ≤ 8) (h1 : S 1 ≤ 4) (hS : SRel σ b S) : ∃ σ', f_X6_copyFrom a b σ = some σ' ∧ SRel σ' a S := by
  obtain ⟨p4, p5, p6, p7, p8⟩ := reg_scn a ha
  obtain ⟨q4, q5, q6, q7, q8⟩ := reg_scn b hb
  obtain ⟨n0, n1, n2, n3, n4, n5, n6, n7, n8, n9, n10, n11, n12, n13, n14⟩ := scn a ha
  have x4 : rr b 4 ≠ rr a 4 := reg_ne (by rw [p4, q4]; exact hr.symm)
  have x5 : rr b 5 ≠ rr a 5 := reg_ne (by rw [p5, q5]; exact hr.symm)
  have x6 : rr b 6 ≠ rr a 6 := reg_ne (by rw [p6, q6]; exact hr.symm)
  have x7 : rr b 7 ≠ rr a 7 := reg_ne (by rw [p7, q7]; exact hr.symm)
  have x8 : rr b 8 ≠ rr a 8 := reg_ne (by rw [p8, q8]; exact hr.symm)
  have y : ∀ j k, (j = 4 ∨ j = 5 ∨ j = 6 ∨ j = 7 ∨ j = 8) → (k = 4 ∨ k = 5 ∨ k = 6 ∨ k = 7 ∨ k = 8) → rr b j ≠ rr a k := fun j k hj hk => reg_ne (by
    have e1 : reg (rr b j) = reg b := by rcases hj with e | e | e | e | e <;> rw [e] <;> assumption
    have e2 : reg (rr a k) = reg a := by rcases hk with e | e | e | e | e <;> rw [e] <;> assumption
    rw [e1, e2]; exact hr.symm)
  have yb : ∀ j, (j = 4 ∨ j = 5 ∨ j = 6 ∨ j = 7 ∨ j = 8) → rr b j ≠ a := fun j hj => reg_ne (by
    have e1 : reg (rr b j) = reg b := by rcases hj with e | e | e | e | e <;> rw [e] <;> assumption
    rw [e1]; exact hr.symm)
  have z : b ≠ a := reg_ne hr.symm
  unfold f_X6_copyFrom cpi
  simp only [vl_q]
  rw [if_neg x4, if_neg x5, if_neg x6, if_neg x7, if_neg x8]
  refine ⟨_, rfl, ?_⟩
  obtain ⟨g1, g2, g3, g4, g5⟩ := hS
  have y54 := y 5 4 (by decide) (by decide); have y64 := y 6 4 (by decide) (by decide); have y65 := y 6 5 (by decide) (by decide)
  have y74 := y 7 4 (by decide) (by decide); have y75 := y 7 5 (by decide) (by decide); have y76 := y 7 6 (by decide) (by decide)
  have y84 := y 8 4 (by decide) (by decide); have y85 := y 8 5 (by decide) (by decide); have y86 := y 8 6 (by decide) (by decide); have y87 := y 8 7 (by decide) (by decide)
  have b4 := yb 4 (by decide); have b5 := yb 5 (by decide); have b6 := yb 6 (by decide); have b7 := yb 7 (by decide); have b8 := yb 8 (by decide)
  unfold SRel
  refine ⟨?_, ?_, ?_, fun l hl => ⟨?_, ?_⟩, fun k hk => ⟨?_, ?_, ?_⟩⟩
  · simp [sC1, sI1, n0.symm, n1.symm, n2.symm, n3.symm, n4.symm, z, g1]
  · simp [sC1, sI1, n0.symm, n1.symm, n2.symm, n3.symm, n4.symm, z, g2]
  · simp [sC1, sI1, n0.symm, n1.symm, n2.symm, n3.symm, n4.symm, z, g3]
  · simp [sC1, sI1, n5, n6, n7, n8, b4, (show l < 8 by omega), (g4 l hl).1]
  · simp [sC1, sI1, n9, n10, n11, y54, b5, (show l < 8 by omega), (g4 l hl).2]
  · simp [sC1, sI1, n12, n13, y64, y65, b6, (show k < 4 by omega), (g5 k hk).1]
  · simp [sC1, sI1, n14, y74, y75, y76, b7, (show k < 4 by omega), (g5 k hk).2.1]
  · simp [sC1, sI1, y84, y85, y86, y87, b8, (show k < 4 by omega), (g5 k hk).2.2]
/-- the chart of S under a window of 31 -/
def mix (S : Nat → Nat) (w : Nat → Nat) : Nat → Nat := fun j => if 147 ≤ j ∧ j < 178 then w (j - 147) else S j
theorem mix_w {S w : Nat → Nat} {j : Nat} (h : j < 31) : mix S w (147 + j) = w j := by
  unfold mix
  rw [if_pos (by omega), Nat.add_sub_cancel_left]
theorem mix_o {S w : Nat → Nat} {j : Nat} (h : j < 147 ∨ 178 ≤ j) : mix S w j = S j := if_neg (fun z => by omega)
theorem mix_C (S w : Nat → Nat) : sameC S (mix S w) := fun j hj => mix_o (Or.inl hj)
def win (S : Nat → Nat) : Nat → Nat := fun j => S (147 + j)
theorem mix_win (S : Nat → Nat) : mix S (win S) = S := by
  funext j
  unfold mix win
  split
  · exact congrArg S (by omega)
  · rfl
theorem mix_mix (S w v : Nat → Nat) : mix (mix S w) v = mix S v := by
  funext j
  unfold mix
  split <;> rfl
theorem mix_cong {S T w : Nat → Nat} (h : ∀ j, j < 147 ∨ 178 ≤ j → S j = T j) : mix S w = mix T w := by
  funext j
  by_cases q : 147 ≤ j ∧ j < 178
  · unfold mix; rw [if_pos q, if_pos q]
  · rw [mix_o (by omega), mix_o (by omega), h j (by omega)]
/-- where the i-th kept scene lies -/
def pos (top u i : Nat) : Nat := (top + 9 - u + i) % 9
/-- what can be undone: u states H, the newest last -/
def PRel (σ τ : St) (S : Nat → Nat) (u top : Nat) (H : Nat → Nat → Nat) : Prop := u ≤ 8 ∧ top < 9 ∧ σ.1 75 1 = nI top ∧ σ.1 75 2 = nI u ∧ τ.1 206 24 = nI u ∧ ∀ i, i < u → SRel σ (rr 76 (pos top u i)) (mix S (H i)) ∧ WFW (mix S (H i)) ∧ mix S (H i) 147 ≤ 3600 ∧ ∀ j, j < 31 → τ.1 213 (31 * i + j) = nI (H i j)
theorem shP : ∀ i, i < 9 → sh (rr 76 i) = 6 ∧ reg (rr 76 i) = 10 + i := by decide +kernel
theorem sh49 : sh 49 = 6 ∧ reg 49 = 4 := by decide +kernel
theorem c_mark {S : Nat → Nat} {σ : St} {top : Nat} (ht : top < 9) (h1 : σ.1 75 1 = nI top) (c0 : S 0 ≤ 8) (c1 : S 1 ≤ 4) (hS : SRel σ 49 S) : ∃ σ', f_X5_mark 49 σ = some σ' ∧ SRel σ' (rr 76 top) S ∧ Fr [10 + top] σ σ' := by
  have q := shP top ht
  obtain ⟨σ', e, r⟩ := c_copyScene (a := rr 76 top) (b := 49) q.1 sh49.1 (by rw [q.2, sh49.2]; omega) c0 c1 hS
  refine ⟨σ', ?_, r, fr_X6_copyFrom q.1 sh49.1 (fun x hx => absurd hx List.not_mem_nil) (by rw [q.2]; exact List.mem_singleton.mpr rfl) e⟩
  unfold f_X5_mark
  rw [vl_q, h1, ald_q ht (by decide), e, bp_q]
/-! the model's copies of its window -/
theorem m_triesL {S : Nat → Nat} {N : Nat} : ∀ n i (τ : St), i ≤ 31 → 31 - i < n → RS S τ → (∀ j, j < i → τ.1 214 j = nI (S (147 + j))) → ∃ τ', f_X12_tries_L2 N n (nI i) τ = some τ' ∧ ∀ j, j < 31 → τ'.1 214 j = nI (S (147 + j)) := by
  intro n
  induction n with
  | zero => intro i τ _ h; omega
  | succ n ih =>
    intro i τ hi hn hR hB
    rw [f_X12_tries_L2, if_leq (by decide) (by omega)]
    by_cases hc : 31 ≤ i
    · rw [if_pos hc]
      obtain rfl : i = 31 := by omega
      exact ⟨τ, rfl, hB⟩
    · rw [if_neg hc]
      simp only [nI_addq, vl_q]
      rw [ald_S hR (by omega), ald_q (by omega) (by decide)]
      refine ih (i + 1) _ (by omega) (by omega) (RS_o hR (fun j => by rw [sI1, if_neg (by decide)])) (fun j hj => ?_)
      rw [sI1, if_pos rfl]
      by_cases e : j = i
      · rw [if_pos e, e]
      · rw [if_neg e]; exact hB j (by omega)
theorem m_tries {S : Nat → Nat} {τ : St} {N : Nat} (hN : 100 ≤ N) (hR : RS S τ) : ∃ τ', f_X12_tries N τ = some τ' ∧ (∀ j, j < 31 → τ'.1 214 j = nI (S (147 + j))) ∧ Fr [214] τ τ' := by
  obtain ⟨τ', e, r⟩ := m_triesL (N := N) N 0 τ (by omega) (by omega) hR (fun j hj => by omega)
  exact ⟨τ', e, r, fr_X12_tries (fun x hx => hx) e⟩
theorem m_backL {S w : Nat → Nat} {N : Nat} : ∀ n i (τ : St), i ≤ 31 → 31 - i < n → RS (mix S (fun j => if j < i then w j else S (147 + j))) τ → (∀ j, j < 31 → τ.1 214 j = nI (w j)) → ∃ τ', f_X12_back_L2 N n (nI i) τ = some τ' ∧ RS (mix S w) τ' := by
  intro n
  induction n with
  | zero => intro i τ _ h; omega
  | succ n ih =>
    intro i τ hi hn hR hB
    rw [f_X12_back_L2, if_leq (by decide) (by omega)]
    by_cases hc : 31 ≤ i
    · rw [if_pos hc]
      refine ⟨τ, rfl, RS_ext hR (fun j _ => ?_)⟩
      unfold mix
      split
      · dsimp only; rw [if_pos (by omega)]
      · rfl
    · rw [if_neg hc]
      simp only [nI_addq, vl_q]
      rw [ald_q (by omega) (by decide), hB i (by omega), ald_q (by omega) (by decide)]
      refine ih (i + 1) _ (by omega) (by omega) (RS_ext (RS_put hR _ _) (fun j _ => ?_)) (fun j hj => by rw [sI1, if_neg (by decide)]; exact hB j hj)
      by_cases e : j = 147 + i
      · subst e; rw [put_eq, mix_w (by omega), if_pos (by omega)]
      · rw [put_ne e]
        unfold mix
        split
        · by_cases q : j - 147 < i
          · dsimp only; rw [if_pos q, if_pos (by omega)]
          · dsimp only; rw [if_neg q, if_neg (by omega)]
        · rfl
theorem m_back {S w : Nat → Nat} {τ : St} {N : Nat} (hN : 100 ≤ N) (hR : RS S τ) (hB : ∀ j, j < 31 → τ.1 214 j = nI (w j)) : ∃ τ', f_X12_back N τ = some τ' ∧ RS (mix S w) τ' ∧ Fr [208] τ τ' := by
  obtain ⟨τ', e, r⟩ := m_backL (S := S) (w := w) (N := N) N 0 τ (by omega) (by omega) (RS_ext hR (fun j _ => by
    unfold mix
    split
    · dsimp only; rw [if_neg (by omega)]; exact congrArg S (by omega)
    · rfl)) hB
  exact ⟨τ', e, r, fr_X12_back (fun x hx => hx) e⟩
/-! the model keeps and takes back -/
theorem m_stoL47 {S : Nat → Nat} {N u : Nat} {k6 : St → Option St} (hu : u < 8) : ∀ n i (τ : St), i ≤ 31 → 31 - i < n → RS S τ → τ.1 206 24 = nI u → (∀ j, j < i → τ.1 213 (31 * u + j) = nI (S (147 + j))) → ∃ τ', f_X12_stores_L47 N k6 n (nI i) τ = k6 τ' ∧ (∀ j, j < 31 → τ'.1 213 (31 * u + j) = nI (S (147 + j))) ∧ (∀ j, j < 31 * u → τ'.1 213 j = τ.1 213 j) ∧ Fr [213] τ τ' := by
  intro n
  induction n with
  | zero => intro i τ _ h; omega
  | succ n ih =>
    intro i τ hi hn hR h24 hB
    rw [f_X12_stores_L47, if_leq (by decide) (by omega)]
    by_cases hc : 31 ≤ i
    · rw [if_pos hc]
      obtain rfl : i = 31 := by omega
      exact ⟨τ, rfl, hB, fun j _ => rfl, Fr.rf⟩
    · rw [if_neg hc, vl_q, h24]
      simp only [nI_addq, nI_mulq, vl_q]
      rw [ald_S hR (by omega), ald_q (by omega) (by decide)]
      obtain ⟨τ', e, r1, r2, r3⟩ := ih (i + 1) (sI τ 213 (31 * u + i) (nI (S (147 + i)))) (by omega) (by omega) (RS_o hR (fun j => by rw [sI1, if_neg (by decide)])) (by rw [sI1, if_neg (by decide)]; exact h24) (fun j hj => by
        rw [sI1, if_pos rfl]
        by_cases q : j = i
        · rw [if_pos (by omega), q]
        · rw [if_neg (by omega)]; exact hB j (by omega))
      exact ⟨τ', e, r1, fun j hj => by rw [r2 j hj, sI1, if_pos rfl, if_neg (by omega)], (Fr.rf.sI (by decide +kernel)).trans r3⟩
theorem m_stoL11 {N : Nat} {k19 : St → Option St} (g : Nat → Nat) : ∀ n i (τ : St), i ≤ 217 → 217 - i < n → (∀ j, j < 248 → τ.1 213 j = nI (if j < i then g (j + 31) else g j)) → ∃ τ', f_X12_stores_L11 N k19 n (nI i) τ = k19 τ' ∧ (∀ j, j < 217 → τ'.1 213 j = nI (g (j + 31))) ∧ Fr [213] τ τ' := by
  intro n
  induction n with
  | zero => intro i τ _ h; omega
  | succ n ih =>
    intro i τ hi hn hB
    rw [f_X12_stores_L11, if_leq (by decide) (by omega)]
    by_cases hc : 217 ≤ i
    · rw [if_pos hc]
      exact ⟨τ, rfl, fun j hj => by rw [hB j (by omega), if_pos (by omega)], Fr.rf⟩
    · rw [if_neg hc]
      simp only [nI_addq, vl_q]
      rw [ald_q (by omega) (by decide), hB (i + 31) (by omega), if_neg (by omega), ald_q (by omega) (by decide)]
      obtain ⟨τ', e, r1, r2⟩ := ih (i + 1) (sI τ 213 i (nI (g (i + 31)))) (by omega) (by omega) (fun j hj => by
        rw [sI1, if_pos rfl]
        by_cases q : j = i
        · rw [if_pos q, if_pos (by omega), q]
        · rw [if_neg q, hB j hj]
          congr 1
          by_cases z : j < i
          · rw [if_pos z, if_pos (by omega)]
          · rw [if_neg z, if_neg (by omega)])
      exact ⟨τ', e, r1, (Fr.rf.sI (by decide +kernel)).trans r2⟩
