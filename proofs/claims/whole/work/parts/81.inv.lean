/-! the relation of the whole: class cells in one store, model cells in another -/
theorem p_read24 {σ τ : St} {N n : Nat} {B : Nat → Nat} (hN : 1000 ≤ N) (hT : TapR σ τ n B) (hR : RvR τ) (hB : DBl σ) : (∃ σ' τ' r, f_X1_read N 26 σ = some (nI 0, σ') ∧ f_X12_chart N τ = some (r, τ') ∧ τ'.1 206 24 = τ.1 206 24) ∨ ∃ σ', f_X1_read N 26 σ = some (nI 1, σ') := by
  obtain ⟨hn, hC, hM, hBb⟩ := hT
  unfold f_X1_read f_X12_chart
  rw [vl_q, vl_q, vl_q, vl_q, vl_q, m_taken, bp_q, vl_q, vl_q, vl_q, vl_q]
  have c4 : ∀ b, b ≠ 26 → (sI (sI (sI (sI σ 26 2 (nI 0)) 26 3 (nI 0)) 26 4 (nI 30)) 26 6 (nI 0)).1 b = σ.1 b := fun b hb => by rw [sI_ne hb, sI_ne hb, sI_ne hb, sI_ne hb]
  have d4 : ∀ j, (sI (sI (sI (sI σ 26 2 (nI 0)) 26 3 (nI 0)) 26 4 (nI 30)) 26 6 (nI 0)).1 26 j = if j = 6 then nI 0 else if j = 4 then nI 30 else if j = 3 then nI 0 else if j = 2 then nI 0 else σ.1 26 j := fun j => by
    rw [sI1, if_pos rfl, sI1, if_pos rfl, sI1, if_pos rfl, sI1, if_pos rfl]
  generalize hs4 : (sI (sI (sI (sI σ 26 2 (nI 0)) 26 3 (nI 0)) 26 4 (nI 30)) 26 6 (nI 0)) = σ4 at *
  have l4 : σ4.2 = σ.2 := by rw [← hs4]; rfl
  have m4 : ∀ b, b ≠ 206 → (sI (sI (sI (sI (tkS (nI 900) τ) 206 15 (nI 0)) 206 19 (nI 0)) 206 20 (nI 0)) 206 21 (nI 0)).1 b = τ.1 b := fun b hb => by rw [sI_ne hb, sI_ne hb, sI_ne hb, sI_ne hb, tk_c hb]
  have k4 : ∀ j, (sI (sI (sI (sI (tkS (nI 900) τ) 206 15 (nI 0)) 206 19 (nI 0)) 206 20 (nI 0)) 206 21 (nI 0)).1 206 j = if j = 21 then nI 0 else if j = 20 then nI 0 else if j = 19 then nI 0 else if j = 15 then nI 0 else (tkS (nI 900) τ).1 206 j := fun j => by
    rw [sI1, if_pos rfl, sI1, if_pos rfl, sI1, if_pos rfl, sI1, if_pos rfl]
  have q4 : (sI (sI (sI (sI (tkS (nI 900) τ) 206 15 (nI 0)) 206 19 (nI 0)) 206 20 (nI 0)) 206 21 (nI 0)).2 = τ.2 := rfl
  generalize hm4 : (sI (sI (sI (sI (tkS (nI 900) τ) 206 15 (nI 0)) 206 19 (nI 0)) 206 20 (nI 0)) 206 21 (nI 0)) = τ4 at *
  obtain ⟨τ5, g5, z5, o5, p5⟩ := m_clears hN τ4
  have r5 : τ5.1 206 = τ4.1 206 := o5 206 (by decide)
  rw [g5, bp_q]
  have C4 : TC σ4 n B := ⟨by rw [c4 1 (by decide)]; exact hC.1, fun j hj => by rw [c4 2 (by decide)]; exact hC.2 j hj⟩
  obtain ⟨σ1, τ1, k, a, b, c, d, v, e1, e2, f1, f2, P, hb⟩ := p_open (τ := τ5) (L := 900) hN (by decide) hn C4 hBb (by rw [r5, k4, if_neg (by decide), if_neg (by decide), if_neg (by decide), if_neg (by decide), tk_3]; exact hM.1) (fun j hj => by rw [o5 207 (by decide), m4 207 (by decide)]; exact hM.2 j hj) (by rw [r5, k4, if_neg (by decide), if_neg (by decide), if_neg (by decide), if_neg (by decide), tk_5]) (by rw [r5, k4, if_neg (by decide), if_neg (by decide), if_neg (by decide), if_neg (by decide), tk_4]) (by rw [r5, k4, if_neg (by decide), if_neg (by decide), if_neg (by decide), if_pos rfl])
  rw [e1, bp_q, vl_q, e2, bp_q]
  have n1 : ∀ b, b ≠ 26 → b ≠ 1 → (sI σ1 26 5 (nI 0)).1 b = σ.1 b := fun b h1 h2 => by rw [sI_ne h1, (f1.1 b h2).1, c4 b h1]
  have o26 : ∀ j, j ≠ 5 → (sI σ1 26 5 (nI 0)).1 26 j = σ4.1 26 j := fun j hj => by rw [sI1, if_pos rfl, if_neg hj, (f1.1 26 (by decide)).1]
  have D : DR (sI σ1 26 5 (nI 0)) τ1 (fun j => if j = 2 then 30 else 0) 0 := by
    refine ⟨⟨fun j hj => by rw [(f2.1 209 (by decide)).1]; exact z5 j hj, fun i hi => by rw [(f2.1 212 (by decide)).2, p5, q4]; exact hR i hi, DBl_w hB (fun b h1 h2 => n1 b (by omega) (by omega))⟩, by decide, ⟨?_, ?_, ?_⟩, ⟨?_, by decide, by decide⟩, fun l hl => absurd hl (Nat.not_lt_zero _), fun l _ _ => ⟨if_neg (by omega), if_neg (by omega), if_neg (by omega)⟩, fun l hl => absurd hl (Nat.not_lt_zero _), ⟨fun l hl => absurd hl (Nat.not_lt_zero _), fun l hl => absurd hl (Nat.not_lt_zero _)⟩, false, ?_, ?_⟩
    · rw [o26 2 (by decide), d4]; rfl
    · rw [o26 3 (by decide), d4]; rfl
    · rw [o26 4 (by decide), d4]; rfl
    · rw [(f2.2 20 (by decide)).1, r5, k4]; rfl
    · rw [o26 6 (by decide), d4]; rfl
    · rw [(f2.2 21 (by decide)).1, r5, k4]; rfl
  have M1 : Fr [206, 209, 211] τ τ1 := fun j hj => by
    have j1 : j ≠ 206 := fun e => hj (by rw [e]; decide)
    have j2 : j ≠ 209 := fun e => hj (by rw [e]; decide)
    exact ⟨by rw [(f2.1 j j1).1, o5 j j2, m4 j j1], by rw [(f2.1 j j1).2, p5, q4]⟩
  have N1 : N12 τ τ1 := fun j _ => by rw [(f2.1 211 (by decide)).2, p5, q4]
  have t2 : τ1.1 206 2 = nI 0 := by rw [(f2.2 2 (by decide)).1, r5, k4, if_neg (by decide), if_neg (by decide), if_neg (by decide), if_neg (by decide), tk_2]
  have t19 : τ1.1 206 19 = nI 0 := by rw [(f2.2 19 (by decide)).1, r5, k4]; rfl
  have P' : PR (sI σ1 26 5 (nI 0)) τ1 n 900 B k a b c d v := PR_c P (sI_ne (by decide)) (sI_ne (by decide)) rfl rfl rfl rfl
  rcases p_chartL (k10 := chK N) (k12 := fun (s76 : St) => vl (s76.1 206 16) fun v77 => some (((-1) - v77), s76)) hN N 0 (sI σ1 26 5 (nI 0)) τ1 k a b c d v 0 _ P' D (by rw [sI1, if_pos rfl, if_pos rfl]) t19 (fun w => by have := hb w; omega) (by decide) (by omega) with ⟨σ', τ', w, a', e3, e4, f, m12, F4, hBd⟩ | ⟨σ', τ', h', g', x', e3, e4, D', m12, F4, y5, y19, yx, y6, y15⟩
  · refine Or.inl ⟨σ', τ', _, e3, e4.trans (vl_q _ _), ?_⟩
    rw [← (F4.2 24 (by decide)).1, (f2.2 24 (by decide)).1, r5, k4, if_neg (by decide), if_neg (by decide), if_neg (by decide), if_neg (by decide), tk_n (by decide) (by decide) (by decide) (by decide) (by decide)]
  · exact Or.inr ⟨σ', e3⟩
def InvS (σ τ : St) (S : Nat → Nat) (u top : Nat) (H : Nat → Nat → Nat) : Prop := KRel σ τ S u top H ∧ MRel σ τ ∧ (∃ n B, TapR σ τ n B) ∧ (NmR σ τ 4 0 (S 0) ∧ NmR σ τ 5 8 (S 1)) ∧ RvR τ ∧ DBl σ ∧ (∀ l, l < 8 → Trs σ (6 + 2 * l)) ∧ (∃ c K, SpR σ τ (S 0) (S 1) c K ∧ (c = 0 ∨ rpn K c 1)) ∧ ∀ w, w < 2 → ImR σ τ w
def Inv (σ τ : St) : Prop := ∃ S u top H, InvS σ τ S u top H
/-! congruence of the parts -/
def kA (σ σ' : St) : Prop := ∀ b, 3 ≤ b → b < 49 → σ'.1 b = σ.1 b ∧ σ'.2 b = σ.2 b
def kI (σ σ' : St) : Prop := ∀ b, 136 ≤ b → b < 206 → σ'.1 b = σ.1 b ∧ σ'.2 b = σ.2 b
def kS (σ σ' : St) : Prop := ∀ b, 61 ≤ b → b < 65 → σ'.1 b = σ.1 b
def kM (τ τ' : St) : Prop := τ'.2 211 = τ.2 211 ∧ τ'.2 212 = τ.2 212 ∧ τ'.1 222 = τ.1 222 ∧ τ'.2 223 = τ.2 223 ∧ τ'.1 224 = τ.1 224
theorem r45 : (∀ l, l < 8 → rr 4 l = 6 + 2 * l) ∧ ∀ k, k < 4 → rr 5 k = 22 + k := by decide +kernel
theorem NmR_g {σ σ' τ τ' : St} {A f n m b0 b1 : Nat} (h : NmR σ τ A f n) (hn : n ≤ m) (hr : ∀ l, l < m → b0 ≤ rr A l ∧ rr A l < b1) (e : ∀ b, b0 ≤ b → b < b1 → σ'.2 b = σ.2 b) (e2 : ∀ l, l < m → τ'.2 211 (f + l) = τ.2 211 (f + l)) : NmR σ' τ' A f n := fun l hl => by
  obtain ⟨c, d, w, x, y⟩ := h l hl
  have q := hr l (by omega)
  exact ⟨c, d, w, by rw [e _ q.1 q.2]; exact x, by rw [e2 l (by omega)]; exact y⟩
theorem rA4 : ∀ l, l < 8 → 3 ≤ rr 4 l ∧ rr 4 l < 49 := fun l hl => by rw [r45.1 l hl]; omega
theorem rA5 : ∀ l, l < 4 → 3 ≤ rr 5 l ∧ rr 5 l < 49 := fun l hl => by rw [r45.2 l hl]; omega
theorem SpR_g {σ σ' τ τ' : St} {m0 m1 c : Nat} {K : Nat → Nat} (h : SpR σ τ m0 m1 c K) (e : ∀ b, 61 ≤ b → b < 65 → σ'.1 b = σ.1 b) (e8 : ∀ j, 178 ≤ j → j < 359 → τ'.1 208 j = τ.1 208 j) : SpR σ' τ' m0 m1 c K := by
  obtain ⟨h1, h2, h3, h4, h5⟩ := h
  refine ⟨by rw [e 61 (by decide) (by decide)]; exact h1, by rw [e 61 (by decide) (by decide)]; exact h2, by rw [e8 178 (by decide) (by decide)]; exact h3, h4, fun i hi => ?_⟩
  rw [e 62 (by decide) (by decide), e 63 (by decide) (by decide), e 64 (by decide) (by decide), e8 (179 + 3 * i) (by omega) (by omega), e8 (179 + 3 * i + 1) (by omega) (by omega), e8 (179 + 3 * i + 2) (by omega) (by omega)]
  exact h5 i hi
theorem TapR_g {σ σ' τ τ' : St} {n : Nat} {B : Nat → Nat} (h : TapR σ τ n B) (e1 : σ'.1 1 1 = σ.1 1 1) (e2 : σ'.1 2 = σ.1 2) (m1 : τ'.1 206 2 = τ.1 206 2) (m2 : τ'.1 207 = τ.1 207) : TapR σ' τ' n B := by
  obtain ⟨h1, ⟨h2, h3⟩, ⟨h4, h5⟩, h6⟩ := h
  exact ⟨h1, ⟨by rw [e1]; exact h2, fun j hj => by rw [e2]; exact h3 j hj⟩, ⟨by rw [m1]; exact h4, fun j hj => by rw [m2]; exact h5 j hj⟩, h6⟩
theorem TapR_0 {σ τ : St} (h1 : σ.1 1 1 = nI 0) (h2 : τ.1 206 2 = nI 0) : ∃ n B, TapR σ τ n B := ⟨0, fun _ => 0, by decide, ⟨h1, fun _ h => absurd h (Nat.not_lt_zero _)⟩, ⟨h2, fun _ h => absurd h (Nat.not_lt_zero _)⟩, fun _ h => absurd h (Nat.not_lt_zero _)⟩
theorem ImR_k {σ σ' τ τ' : St} (I : kI σ σ') (m2 : τ'.1 222 = τ.1 222) (m3 : τ'.2 223 = τ.2 223) (m4 : τ'.1 224 = τ.1 224) (h : ∀ w, w < 2 → ImR σ τ w) : ∀ w, w < 2 → ImR σ' τ' w := fun w hw => ImR_g hw (fun b h1 h2 => I b (by omega) (by omega)) (fun j _ => by rw [m2]) (fun j _ => by rw [m3]) (by rw [m4]) (h w hw)
theorem DBl_k {σ σ' : St} (A : kA σ σ') (h : DBl σ) : DBl σ' := DBl_w h (fun b h1 h2 => (A b (by omega) (by omega)).1)
theorem Trs_k {σ σ' : St} (A : kA σ σ') (h : ∀ l, l < 8 → Trs σ (6 + 2 * l)) : ∀ l, l < 8 → Trs σ' (6 + 2 * l) := fun l hl => Trs_g (A _ (by omega) (by omega)).1 (A _ (by omega) (by omega)).1 (h l hl)
theorem RvR_k {τ τ' : St} (e : τ'.2 212 = τ.2 212) (h : RvR τ) : RvR τ' := fun i hi => by rw [e]; exact h i hi
/-- all but the window, the misc and the tape stands as it stood -/
theorem Inv_k {σ σ' τ τ' : St} {S S' : Nat → Nat} {u top u' top' : Nat} {H H' : Nat → Nat → Nat} (h : InvS σ τ S u top H) (hK : KRel σ' τ' S' u' top' H') (hs : ∀ j, j < 147 ∨ 178 ≤ j → S' j = S j) (A : kA σ σ') (I : kI σ σ') (P : kS σ σ') (M : kM τ τ') (hM : MRel σ' τ') (hT : ∃ n B, TapR σ' τ' n B) : Inv σ' τ' := by
  obtain ⟨k1, k2, k3, ⟨k4, k5⟩, k6, k7, k8, ⟨c, K, k9, ka⟩, kb⟩ := h
  obtain ⟨M1, M2, M3, M4, M5⟩ := M
  have s0 : S' 0 = S 0 := hs 0 (by omega)
  have s1 : S' 1 = S 1 := hs 1 (by omega)
  have l0 := k1.2.1.1
  have l1 := k1.2.1.2.1
  refine ⟨S', u', top', H', hK, hM, hT, ⟨?_, ?_⟩, RvR_k M2 k6, DBl_k A k7, Trs_k A k8, ⟨c, K, ?_, ka⟩, ImR_k I M3 M4 M5 kb⟩
  · rw [s0]; exact NmR_g k4 l0 rA4 (fun b h1 h2 => (A b h1 h2).2) (fun l _ => by rw [M1])
  · rw [s1]; exact NmR_g k5 l1 rA5 (fun b h1 h2 => (A b h1 h2).2) (fun l _ => by rw [M1])
  · rw [s0, s1]
    exact SpR_g k9 P (fun j h1 h2 => by rw [hK.1 j h2, k1.1 j h2, hs j (Or.inr h1)])
/-! from frames -/
theorem g_A : ∀ b, b < 49 → 3 ≤ b → reg b = 2 ∨ reg b = 3 := by decide +kernel
theorem g_I : ∀ b, b < 206 → 136 ≤ b → reg b = 20 ∨ reg b = 21 := by decide +kernel
theorem g_S : ∀ b, b < 65 → 61 ≤ b → reg b = 6 := by decide +kernel
theorem Fr_A {σ σ' : St} {R : List Nat} (F : Fr R σ σ') (h2 : 2 ∉ R) (h3 : 3 ∉ R) : kA σ σ' := fun b h1 h4 => by
  have q : reg b ∉ R := by rcases g_A b h4 h1 with e | e <;> rw [e] <;> assumption
  exact ⟨(F b q).1.symm, (F b q).2.symm⟩
theorem Fr_I {σ σ' : St} {R : List Nat} (F : Fr R σ σ') (h2 : 20 ∉ R) (h3 : 21 ∉ R) : kI σ σ' := fun b h1 h4 => by
  have q : reg b ∉ R := by rcases g_I b h4 h1 with e | e <;> rw [e] <;> assumption
  exact ⟨(F b q).1.symm, (F b q).2.symm⟩
theorem Fr_S {σ σ' : St} {R : List Nat} (F : Fr R σ σ') (h2 : 6 ∉ R) : kS σ σ' := fun b h1 h4 => (F b (by rw [g_S b h4 h1]; exact h2)).1.symm
theorem Fr_M {τ τ' : St} {R : List Nat} (F : Fr R τ τ') (h1 : 211 ∉ R) (h2 : 212 ∉ R) (h3 : 222 ∉ R) (h4 : 223 ∉ R) (h5 : 224 ∉ R) : kM τ τ' := ⟨(F 211 h1).2.symm, (F 212 h2).2.symm, (F 222 h3).1.symm, (F 223 h4).2.symm, (F 224 h5).1.symm⟩
/-- what the object keeps of its calls, in part anew -/
def m12 (k : Nat) : Prop := k = 26 ∨ k = 27 ∨ k = 30 ∨ k = 31 ∨ k = 32 ∨ k = 33 ∨ k = 34 ∨ k = 35 ∨ k = 36
theorem MRel_p {σ σ' τ τ' : St} (h : MRel σ τ) (f : FltR σ' τ') (t : TldR σ' τ') (g : TagR σ' τ') (e0 : ∀ k, k = 16 ∨ k = 17 ∨ k = 18 ∨ k = 19 → σ'.1 0 k = σ.1 0 k) (e3 : σ'.1 133 = σ.1 133) (m : ∀ k, m12 k → τ'.1 206 k = τ.1 206 k) (m7 : τ'.1 217 = τ.1 217) : MRel σ' τ' := by
  obtain ⟨h1, h2, h3, h4, h5, h6, h7, h8⟩ := h
  unfold ChgR at h2
  unfold AskR at h3
  unfold SptR at h4
  unfold FixR at h5
  unfold FitR at h6
  refine ⟨f, ?_, ?_, ?_, ?_, ?_, t, g⟩
  · unfold ChgR; rw [e0 16 (by decide), m 27 (by unfold m12; decide), m 26 (by unfold m12; decide)]; exact h2
  · unfold AskR; rw [e0 17 (by decide), m 30 (by unfold m12; decide), m 32 (by unfold m12; decide)]; exact h3
  · unfold SptR; rw [e0 18 (by decide), m 35 (by unfold m12; decide), m 33 (by unfold m12; decide)]; exact h4
  · unfold FixR; rw [e0 19 (by decide), m 36 (by unfold m12; decide), m 34 (by unfold m12; decide)]; exact h5
  · unfold FitR; rw [e3, m 31 (by unfold m12; decide), m7]; exact h6
theorem TldR_g {σ σ' τ τ' : St} (h : TldR σ τ) (e : σ'.1 134 = σ.1 134) (m : τ'.1 206 42 = τ.1 206 42) (m9 : τ'.1 219 = τ.1 219) : TldR σ' τ' := by unfold TldR at h ⊢; rw [e, m, m9]; exact h
theorem TagR_g {σ σ' τ τ' : St} (h : TagR σ τ) (e0 : σ'.1 0 14 = σ.1 0 14) (e : σ'.1 135 = σ.1 135) (m : τ'.1 206 38 = τ.1 206 38) (m8 : τ'.1 218 = τ.1 218) : TagR σ' τ' := by unfold TagR at h ⊢; rw [e0, e, m, m8]; exact h
theorem FltR_g {σ σ' τ τ' : St} (h : FltR σ τ) (e0 : σ'.1 0 15 = σ.1 0 15) (m : τ'.1 206 15 = τ.1 206 15) : FltR σ' τ' := by unfold FltR at h ⊢; rw [e0, m]; exact h
/-- one of the three answers kept: the fewest that change, the spots, the fix -/
theorem MRel_1 {σ σ' τ τ' : St} {k a b : Nat} {v : Int32} (hk : (k = 16 ∧ a = 27 ∧ b = 26) ∨ (k = 18 ∧ a = 35 ∧ b = 33) ∨ (k = 19 ∧ a = 36 ∧ b = 34)) (h : MRel σ τ) (ek : σ'.1 0 k = v) (e0 : ∀ j, j ≠ k → σ'.1 0 j = σ.1 0 j) (e3 : σ'.1 133 = σ.1 133) (e4 : σ'.1 134 = σ.1 134) (e5 : σ'.1 135 = σ.1 135) (ma : τ'.1 206 a = nI 1) (mb : τ'.1 206 b = v) (m : ∀ k, k = 15 ∨ k = 38 ∨ k = 42 ∨ m12 k → k ≠ a → k ≠ b → τ'.1 206 k = τ.1 206 k) (m7 : τ'.1 217 = τ.1 217) (m8 : τ'.1 218 = τ.1 218) (m9 : τ'.1 219 = τ.1 219) : MRel σ' τ' := by
  obtain ⟨h1, h2, h3, h4, h5, h6, h7, h8⟩ := h
  have n1 : ¬ nI 1 = 0 := by decide
  unfold ChgR at h2
  unfold AskR at h3
  unfold SptR at h4
  unfold FixR at h5
  unfold FitR at h6
  refine ⟨FltR_g h1 (e0 15 (by omega)) (m 15 (by omega) (by omega) (by omega)), ?_, ?_, ?_, ?_, ?_, TldR_g h7 e4 (m 42 (by omega) (by omega) (by omega)) m9, TagR_g h8 (e0 14 (by omega)) e5 (m 38 (by omega) (by omega) (by omega)) m8⟩
  · unfold ChgR
    by_cases q : k = 16
    · obtain ⟨rfl, rfl⟩ : a = 27 ∧ b = 26 := by omega
      subst q
      rw [ek, ma, mb, if_neg n1]
    · rw [e0 16 (by omega), m 27 (by unfold m12; omega) (by omega) (by omega), m 26 (by unfold m12; omega) (by omega) (by omega)]; exact h2
  · unfold AskR; rw [e0 17 (by omega), m 30 (by unfold m12; omega) (by omega) (by omega), m 32 (by unfold m12; omega) (by omega) (by omega)]; exact h3
  · unfold SptR
    by_cases q : k = 18
    · obtain ⟨rfl, rfl⟩ : a = 35 ∧ b = 33 := by omega
      subst q
      rw [ek, ma, mb, if_neg n1]
    · rw [e0 18 (by omega), m 35 (by unfold m12; omega) (by omega) (by omega), m 33 (by unfold m12; omega) (by omega) (by omega)]; exact h4
  · unfold FixR
    by_cases q : k = 19
    · obtain ⟨rfl, rfl⟩ : a = 36 ∧ b = 34 := by omega
      subst q
      rw [ek, ma, mb, if_neg n1]
    · rw [e0 19 (by omega), m 36 (by unfold m12; omega) (by omega) (by omega), m 34 (by unfold m12; omega) (by omega) (by omega)]; exact h5
  · unfold FitR; rw [e3, m 31 (by unfold m12; omega) (by omega) (by omega), m7]; exact h6
/-- nothing of it anew -/
theorem MRel_f {σ σ' τ τ' : St} {R R' Q : List Nat} (h : MRel σ τ) (F : Fr R σ σ') (F' : Fr R' τ τ') (G : Fm Q τ τ') (h0 : 0 ∉ R) (h7 : 217 ∉ R') (h8 : 218 ∉ R') (h9 : 219 ∉ R') (hq : ∀ k, k = 15 ∨ k = 26 ∨ k = 27 ∨ k = 30 ∨ k = 31 ∨ k = 32 ∨ k = 33 ∨ k = 34 ∨ k = 35 ∨ k = 36 ∨ k = 38 ∨ k = 42 → k ∉ Q) : MRel σ' τ' :=
  MRel_eq h (F 0 h0).1.symm (F 133 h0).1.symm (F 134 h0).1.symm (F 135 h0).1.symm (fun k hk => (G k (hq k hk)).1.symm) (F' 217 h7).1.symm (F' 218 h8).1.symm (F' 219 h9).1.symm
def okR (R : List Nat) : Bool := R.all fun x => !([0, 1, 2, 3, 6, 20, 21].contains x)
def okM (R : List Nat) : Bool := R.all fun x => !([207, 211, 212, 217, 218, 219, 222, 223, 224].contains x)
def okQ (R : List Nat) : Bool := R.all fun x => !([2, 15, 26, 27, 30, 31, 32, 33, 34, 35, 36, 38, 42].contains x)
theorem ok_n {R L : List Nat} {x : Nat} (h : (R.all fun x => !(L.contains x)) = true) (hx : L.contains x = true) : x ∉ R := fun m => by
  have := List.all_eq_true.mp h x m
  rw [hx] at this
  exact absurd this (by decide)
/-- a call that leaves misc, tape, names, images as they were -/
theorem Inv_f {σ σ' τ τ' : St} {S S' : Nat → Nat} {u top u' top' : Nat} {H H' : Nat → Nat → Nat} {R R' Q : List Nat} (h : InvS σ τ S u top H) (hK : KRel σ' τ' S' u' top' H') (hs : ∀ j, j < 147 ∨ 178 ≤ j → S' j = S j) (F : Fr R σ σ') (F' : Fr R' τ τ') (G : Fm Q τ τ') (hR : okR R = true) (hR' : okM R' = true) (hQ : okQ Q = true) : Inv σ' τ' := by
  have nR : ∀ x, [0, 1, 2, 3, 6, 20, 21].contains x = true → x ∉ R := fun x hx => ok_n hR hx
  have nM : ∀ x, [207, 211, 212, 217, 218, 219, 222, 223, 224].contains x = true → x ∉ R' := fun x hx => ok_n hR' hx
  have nQ : ∀ x, [2, 15, 26, 27, 30, 31, 32, 33, 34, 35, 36, 38, 42].contains x = true → x ∉ Q := fun x hx => ok_n hQ hx
  obtain ⟨n, B, hT⟩ := h.2.2.1
  refine Inv_k h hK hs (Fr_A F (nR 2 rfl) (nR 3 rfl)) (Fr_I F (nR 20 rfl) (nR 21 rfl)) (Fr_S F (nR 6 rfl)) (Fr_M F' (nM 211 rfl) (nM 212 rfl) (nM 222 rfl) (nM 223 rfl) (nM 224 rfl)) (MRel_f h.2.1 F F' G (nR 0 rfl) (nM 217 rfl) (nM 218 rfl) (nM 219 rfl) (fun k hk => nQ k ?_)) ⟨n, B, TapR_g hT ?_ (F 2 (nR 1 rfl)).1.symm (G 2 (nQ 2 rfl)).1.symm (F' 207 (nM 207 rfl)).1.symm⟩
  · rcases hk with e | e | e | e | e | e | e | e | e | e | e | e <;> (subst e; rfl)
  · rw [(F 1 (nR 1 rfl)).1]
/-! two stores -/
def loE (σ σ' : St) : Prop := ∀ b, b < 206 → σ'.1 b = σ.1 b ∧ σ'.2 b = σ.2 b
def hiE (τ τ' : St) : Prop := ∀ b, 206 ≤ b → τ'.1 b = τ.1 b ∧ τ'.2 b = τ.2 b
def hiR : List Nat := [206, 207, 208, 209, 210, 211, 212, 213, 214, 215, 216, 217, 218, 219, 220, 221, 222, 223, 224, 225, 999]
def loR : List Nat := [0, 1, 2, 3, 4, 5, 6, 7, 8, 9, 10, 11, 12, 13, 14, 15, 16, 17, 18, 19, 20, 21]
theorem reg_999 {b : Nat} (h : 226 ≤ b) : reg b = 999 := by
  unfold reg
  rw [List.getD_eq_getElem?_getD, List.getElem?_eq_none (by rw [show regL.length = 226 from rfl]; exact h)]
  rfl
theorem reg_hi {b : Nat} (h : 206 ≤ b) : reg b ∈ hiR := by
  by_cases q : b < 226
  · have : ∀ b, b < 226 → 206 ≤ b → reg b ∈ hiR := by decide +kernel
    exact this b q h
  · rw [reg_999 (by omega)]; decide
theorem reg_lo : ∀ b, b < 206 → reg b ∈ loR := by decide +kernel
theorem reg_hn {b : Nat} (h : 206 ≤ b) : reg b ∉ loR := fun m => by
  have a := reg_hi h
  have : ∀ x, x ∈ hiR → x ∉ loR := by decide
  exact this _ a m
theorem loE_Fr {σ σ' : St} (h : loE σ σ') : Fr hiR σ σ' := fun b hb => by
  have q : b < 206 := Nat.lt_of_not_le fun z => hb (reg_hi z)
  exact ⟨(h b q).1.symm, (h b q).2.symm⟩
theorem hiE_Fr {τ τ' : St} (h : hiE τ τ') : Fr loR τ τ' := fun b hb => by
  have q : 206 ≤ b := Nat.le_of_not_lt fun z => hb (reg_lo b z)
  exact ⟨(h b q).1.symm, (h b q).2.symm⟩
theorem Fr_hi {σ σ' : St} (h : Fr loR σ σ') : hiE σ σ' := fun b hb => ⟨(h b (reg_hn hb)).1.symm, (h b (reg_hn hb)).2.symm⟩
theorem Fr_lo {σ σ' : St} (h : Fr hiR σ σ') : loE σ σ' := fun b hb => by
  have q : reg b ∉ hiR := fun m => by
    have a := reg_lo b hb
    have : ∀ x, x ∈ hiR → x ∉ loR := by decide
    exact this _ m a
  exact ⟨(h b q).1.symm, (h b q).2.symm⟩
theorem Inv_lo {σ σ' τ : St} (h : Inv σ τ) (e : loE σ σ') : Inv σ' τ := by
  obtain ⟨S, u, top, H, h⟩ := h
  have F := loE_Fr e
  exact Inv_f (R' := []) (Q := []) h (KRel_5 h.1 F (by decide) (by decide) (by decide)) (fun _ _ => rfl) F Fr.rf Fm.rf (by decide) (by decide) (by decide)
theorem Inv_hi {σ τ τ' : St} (h : Inv σ τ) (e : hiE τ τ') : Inv σ τ' := by
  obtain ⟨S, u, top, H, h⟩ := h
  have F := hiE_Fr e
  exact Inv_f (R := []) (Q := []) h (KRel_m h.1 (e 208 (by decide)).1 (by rw [(e 206 (by decide)).1]) (e 213 (by decide)).1) (fun _ _ => rfl) Fr.rf F (fun k _ => ⟨by rw [(e 206 (by decide)).1], by rw [(e 206 (by decide)).2]⟩) (by decide) (by decide) (by decide)
/-- a call, both sides -/
def callE (F G : St → Option (Int32 × St)) : Prop := ∀ σ τ, Inv σ τ → ∃ r σ' τ', F σ = some (r, σ') ∧ G τ = some (r, τ') ∧ Inv σ' τ'
def pu (f : St → Option Int32) : St → Option (Int32 × St) := fun σ => (f σ).map fun r => (r, σ)
theorem pu_e {f : St → Option Int32} {σ σ' : St} {r : Int32} (h : pu f σ = some (r, σ')) : f σ = some r ∧ σ' = σ := by
  unfold pu at h
  cases hf : f σ with
  | none => rw [hf] at h; cases h
  | some x => rw [hf] at h; cases h; exact ⟨rfl, rfl⟩
theorem pu_q {f : St → Option Int32} {σ : St} {r : Int32} (h : f σ = some r) : pu f σ = some (r, σ) := by unfold pu; rw [h]; rfl
theorem pu_fr {f : St → Option Int32} {σ σ' : St} {r : Int32} (h : pu f σ = some (r, σ')) : Fr loR σ σ' := by rw [(pu_e h).2]; exact Fr.rf
theorem glue {F G : St → Option (Int32 × St)} (hc : callE F G) (hF : ∀ σ r σ', F σ = some (r, σ') → Fr loR σ σ') (hG : ∀ τ r τ', G τ = some (r, τ') → Fr hiR τ τ') {ζ : St} (h : Inv ζ ζ) : ∃ r ζ1 ζ2, F ζ = some (r, ζ1) ∧ G ζ1 = some (r, ζ2) ∧ Inv ζ2 ζ2 := by
  obtain ⟨r, ζ1, τ1, e1, e2, -⟩ := hc ζ ζ h
  have h2 : Inv ζ ζ1 := Inv_hi h (Fr_hi (hF _ _ _ e1))
  obtain ⟨r', σ', ζ2, e3, e4, i⟩ := hc ζ ζ1 h2
  cases e1.symm.trans e3
  exact ⟨r, ζ1, ζ2, e1, e4, Inv_lo i (Fr_lo (hG _ _ _ e4))⟩
