/-! a book is read: both sides -/
def MB (τ τ' : St) : Prop := Fr [206, 210] τ τ' ∧ Fm [4, 11, 12, 13, 14, 15, 16, 17, 18, 40] τ τ'
theorem MB.trans {τ τ' τ2 : St} (h : MB τ τ') (g : MB τ' τ2) : MB τ τ2 := ⟨h.1.trans g.1, h.2.trans g.2⟩
theorem MB.rf {τ : St} : MB τ τ := ⟨fun _ _ => ⟨rfl, rfl⟩, Fm.rf⟩
theorem MB_bl {τ τ' : St} {N : Nat} {r : Int32} (e : f_X12_bookLine N τ = some (r, τ')) : MB τ τ' := ⟨fr_X12_bookLine (by decide) e, fm_X12_bookLine (by decide) e⟩
theorem MB_sg {τ τ' : St} {N : Nat} {r x : Int32} (e : f_X12_sign N x τ = some (r, τ')) : MB τ τ' := ⟨fr_X12_sign (by decide) e, fm_X12_sign (by decide) e⟩
theorem MB_o {τ τ' : St} (h : MB τ τ') {b : Nat} (h1 : b ≠ 206) (h2 : b ≠ 210) : τ'.1 b = τ.1 b ∧ τ'.2 b = τ.2 b := by
  have := h.1 b (fun w => by
    simp only [List.mem_cons, List.mem_nil_iff, or_false] at w
    rcases w with w | w
    · exact h1 (reg_in (by decide) (by decide) w)
    · exact h2 (reg_in (by decide) (by decide) w))
  exact ⟨this.1.symm, this.2.symm⟩
section BRead
variable {N n m0 m1 : Nat} {B : Nat → Nat}
theorem m_blnone {σ τ : St} {L k a b cc d v : Nat} (H : PR σ τ n L B k a b cc d v) (hk : k ≠ 1) : f_X12_bookLine N τ = bd (f_X12_bad (nI 1) τ) fun v s => rz v (some (v, s)) := by
  rw [m_bline]
  rcases p_bkind H with ⟨w, hw, hk', _⟩ | ⟨_, e2⟩
  · exact absurd hk' hk
  · rw [e2]
    unfold mBJ
    rw [if_neg (by decide)]
theorem c_blnone {σ τ : St} {L k a b cc d v : Nat} (H : PR σ τ n L B k a b cc d v) (hk : k ≠ 1) : f_X0_readLine N σ = bd (f_X9_refuse (nI 1) σ) fun v s => rz v (some (v, s)) := by
  unfold f_X0_readLine
  rcases p_bkind H with ⟨w, hw, hk', _⟩ | ⟨e1, _⟩
  · exact absurd hk' hk
  · rw [e1, bp_q, if_pos rfl]
def cBE : St → Option (Int32 × St) := fun (s17 : St) =>
    bd (f_X9_atEnd s17) fun v18 s19 =>
    rz v18 <|
    some (v18, s19)
theorem p_bookL {x : Int32} {L : Nat} {k9 k11 : St → Option (Int32 × St)} (hN : 1000 ≤ N) : ∀ (F c : Nat) (σ τ : St) (k a b cc d v : Nat), PR σ τ n L B k a b cc d v → BkR σ τ m0 m1 c → 41 - c < F → (∃ σ' τ' w a, f_X0_read_L14 N cBE F (nI c) σ = some (nI 0, σ') ∧ f_X12_book_L39 N x k9 k11 F τ = k11 τ' ∧ FltP σ' τ' w a ∧ MB τ τ') ∨ ∃ σ' τ' c', f_X0_read_L14 N cBE F (nI c) σ = some (nI 1, σ') ∧ f_X12_book_L39 N x k9 k11 F τ = k9 τ' ∧ BkR σ' τ' m0 m1 c' ∧ MB τ τ' ∧ σ'.1 1 6 = nI 0 ∧ τ'.1 206 15 = nI 0 := by
  intro F
  induction F with
  | zero => intro c σ τ k a b cc d v _ _ hf; omega
  | succ F ih =>
    intro c σ τ k a b cc d v H E hf
    obtain ⟨⟨_, ⟨_, _, _, c11⟩, _⟩, ⟨kk, _, c2, _, _, _, m11⟩, _, _, hbn⟩ := id H
    have c40 := E.2.2.2.1
    rw [f_X0_read_L14, f_X12_book_L39, if_ltq (by decide) (by omega), if_neg (by omega), vl_q, c2, if_eq0 (by omega), vl_q, m11]
    by_cases k0 : k = 0
    · rw [if_pos k0]
      unfold cBE f_X9_atEnd
      rw [vl_q, c2, jn_q, if_eq0 (by omega), if_pos k0, vl_q, c11, if_bI]
      by_cases q : L < n
      · have e4 : (if k = 0 ∧ L < n then 4 else k) = 4 := if_pos ⟨k0, q⟩
        rw [if_pos (decide_eq_true q), e4, if_eq0 (by decide), if_neg (by decide)]
        obtain ⟨σ', τ', e1, e2, f, g1, g2⟩ := p_bad (w := 1) H (by decide)
        have rl := m_blnone (N := N) H (by omega)
        rw [e2, bd_q, rz_0] at rl
        refine Or.inl ⟨σ', τ', _, _, ?_, ?_, f, MB_bl rl⟩
        · rw [e1, bd_q, if_pos (by decide), bd_q, rz_0]
        · rw [rl, bd_q, if_pos (by decide)]
      · have e4 : (if k = 0 ∧ L < n then 4 else k) = 0 := (if_neg (fun w => q w.2)).trans k0
        rw [if_neg (by rw [decide_eq_false q]; decide), e4, if_eq0 (by decide), if_pos rfl]
        refine Or.inr ⟨σ, τ, c, ?_, rfl, E, MB.rf, H.1.2.2.2.2.2⟩
        rw [bd_q, rz_1]
    have e4 : (if k = 0 ∧ L < n then 4 else k) = k := if_neg (fun w => k0 w.1)
    rw [if_neg k0, e4, if_eq0 (by omega), if_neg k0]
    rcases p_bline hN H E with ⟨σ', τ', w, a', e1, e2, f⟩ | ⟨σ1, τ1, e1, e2, ⟨k1, a1, b1, c1, d1, v1, P1⟩, hc, E1, L1⟩
    · rw [e1, bd_q, if_pos (by decide), e2, bd_q, if_pos (by decide)]
      exact Or.inl ⟨σ', τ', w, a', rfl, rfl, f, MB_bl e2⟩
    · have F1 : MB τ τ1 := MB_bl e2
      rw [e1, bd_q, if_one, e2, bd_q, if_one]
      rcases p_sign (sg := 59) hN (by decide) P1 with ⟨σ', τ', w, a', e3, e4, f, g1, g2⟩ | ⟨kk1, _, σ2, τ2, e3, e4, g1, g2, ⟨k2, a2, b2, c2', d2, v2, P2, l2⟩⟩
      · have F2 : MB τ1 τ' := MB_sg e4
        rw [e3, bd_q, if_pos (by decide), e4, bd_q, if_pos (by decide)]
        exact Or.inl ⟨σ', τ', w, a', rfl, rfl, f, F1.trans F2⟩
      · have F2 : MB τ1 τ2 := MB_sg e4
        have E2 := BkR_K E1 g1 g2 (by decide)
        have L2 : BkL σ2 τ2 m0 m1 c := BkL_w L1 (by rw [(g1.1 72 (by decide)).1]) (by rw [(g1.1 73 (by decide)).1]) (by rw [(g1.1 74 (by decide)).1]) (fun j _ => by rw [(g2.1 210 (by decide)).1])
        rw [e3, bd_q, if_one, e4, bd_q, if_one, vl_q, E2.2.1, vl_q, nI_addq, vl_q, vl_q, E2.2.2.1, vl_q, nI_addq]
        have P3 : PR (sI σ2 71 3 (nI (c + 1))) (sI τ2 206 40 (nI (c + 1))) n L B k2 a2 b2 c2' d2 v2 := PR_K (PR_bc (e := 71) P2 (by decide)) (FK.rf (ks := [])) (fun x hx => absurd hx List.not_mem_nil) (FK.rf.sI (ks := [40]) (by decide)) (by decide)
        have F3 : MB τ2 (sI τ2 206 40 (nI (c + 1))) := ⟨Fr.rf.sI (by decide +kernel), Fm.rf.sI (by decide)⟩
        have E3 : BkR (sI σ2 71 3 (nI (c + 1))) (sI τ2 206 40 (nI (c + 1))) m0 m1 (c + 1) := by
          obtain ⟨x1, x2, x3, x4, x5⟩ := E2
          refine ⟨ChN_w x1 (fun b b1 b2 => ⟨sI_ne (by omega), rfl⟩) (sI_ne (by decide)) rfl rfl, by rw [sI1, if_pos rfl, if_pos rfl], by rw [sI1, if_pos rfl, if_pos rfl], by omega, fun i hi => ?_⟩
          have := fun (h : BkL σ2 τ2 m0 m1 i) => BkL_w (σ' := sI σ2 71 3 (nI (c + 1))) (τ' := sI τ2 206 40 (nI (c + 1))) h (by rw [sI_ne (by decide)]) (by rw [sI_ne (by decide)]) (by rw [sI_ne (by decide)]) (fun j _ => by rw [sI_ne (by decide)])
          by_cases q : i = c
          · rw [q] at this ⊢; exact this L2
          · exact this (x5 i (by omega))
        rcases ih (c + 1) _ _ k2 a2 b2 c2' d2 v2 P3 E3 (by omega) with ⟨σ', τ', w, a', e5, e6, f, F4⟩ | ⟨σ', τ', c', e5, e6, E', F4, r⟩
        · exact Or.inl ⟨σ', τ', w, a', e5, e6, f, ((F1.trans F2).trans F3).trans F4⟩
        · exact Or.inr ⟨σ', τ', c', e5, e6, E', ((F1.trans F2).trans F3).trans F4, r⟩
/-- the model's end of a book -/
def kBk (N : Nat) (x1 : Int32) : St → Option (Int32 × St) := fun (s22 : St) =>
    bp (f_X12_tries N s22) fun s23 =>
    f_X12_book_L89 N x1 (fun (s33 : St) =>
      f_X12_book_L111 N x1 (fun (v57 : Int32) (s58 : St) =>
        ald (s58.1 208) 359 (nI 147) fun v59 =>
        ald (fun j => sI s58 219 j v59) 4 (nI 2) fun s60 =>
        bp (f_X12_oilInAll N s60) fun v61 =>
        ald (fun j => sI s60 219 j v61) 4 (nI 3) fun s62 =>
        vl (sI s62 206 42 (nI 1)) fun s63 =>
        jn (fun (s64 : St) =>
          if x1 = 0 then
            bp (f_X12_back N s64) fun s66 =>
            some (v57, s66)
          else
          some (v57, s64)) fun j65 =>
        if x1 = (nI 1) then
          ald (s63.1 219) 4 (nI 1) fun v67 =>
          if v67 ≤ 0 then
            j65 s63
          else
          bp (f_X12_stores N s63) fun s68 =>
          f_X12_book_L240 N x1 v57 (fun (s81 : St) =>
            j65 s81) N (nI 0) s68
        else
        j65 s63) N (-1) (nI 0) s33) N (nI 0) s23
theorem p_readBook {σ τ : St} {x : Int32} (hN : 1000 ≤ N) (hT : TapR σ τ n B) (hC : ChN σ τ m0 m1) (hx : f_X12_isIn x (nI 0) (nI 1) (sI τ 206 0 (nI 0)) = some (nI 1)) : (∃ σ' τ' w a, f_X0_read N σ = some (nI 0, σ') ∧ f_X12_book N x τ = some (-2 - nI a, τ') ∧ FltP σ' τ' w a ∧ Fr [206, 210] τ τ' ∧ Fm [4, 11, 12, 13, 14, 15, 16, 17, 18, 40] (tkS (nI 400) τ) τ') ∨ ∃ σ' τ' c, f_X0_read N σ = some (nI 1, σ') ∧ f_X12_book N x τ = kBk N x τ' ∧ BkR σ' τ' m0 m1 c ∧ Fr [206, 210] τ τ' ∧ Fm [4, 11, 12, 13, 14, 15, 16, 17, 18, 40] (tkS (nI 400) τ) τ' ∧ σ'.1 1 6 = nI 0 ∧ τ'.1 206 15 = nI 0 := by
  obtain ⟨hn, hTC, hTM, hBb⟩ := hT
  have mod : f_X12_book N x τ = bp (f_X12_next N (sI (sI (tkS (nI 400) τ) 206 15 (nI 0)) 206 40 (nI 0))) fun s9 => f_X12_book_L39 N x (kBk N x) (fun (s82 : St) => vl (s82.1 206 16) fun v83 => some (((-2) - v83), s82)) N s9 := by
    unfold f_X12_book
    rw [vl_q, hx, bp_q, if_one, m_taken, bp_q, vl_q, vl_q]
    rfl
  have k4 : ∀ j, (sI (sI (tkS (nI 400) τ) 206 15 (nI 0)) 206 40 (nI 0)).1 206 j = if j = 40 then nI 0 else if j = 15 then nI 0 else (tkS (nI 400) τ).1 206 j := fun j => by
    rw [sI1, if_pos rfl, sI1, if_pos rfl]
  have m4 : ∀ b, b ≠ 206 → (sI (sI (tkS (nI 400) τ) 206 15 (nI 0)) 206 40 (nI 0)).1 b = τ.1 b := fun b hb => by
    rw [sI_ne hb, sI_ne hb, tk_c hb]
  have q4 : (sI (sI (tkS (nI 400) τ) 206 15 (nI 0)) 206 40 (nI 0)).2 = τ.2 := rfl
  have Fm4 : Fm [4, 11, 12, 13, 14, 15, 16, 17, 18, 40] (tkS (nI 400) τ) (sI (sI (tkS (nI 400) τ) 206 15 (nI 0)) 206 40 (nI 0)) := (Fm.rf.sI (by decide)).sI (by decide)
  have Fr4 : Fr [206, 210] τ (sI (sI (tkS (nI 400) τ) 206 15 (nI 0)) 206 40 (nI 0)) := fun j hj => by
    have j1 : j ≠ 206 := fun e => hj (by rw [e]; decide)
    exact ⟨(m4 j j1).symm, rfl⟩
  rw [mod]
  generalize hm4 : (sI (sI (tkS (nI 400) τ) 206 15 (nI 0)) 206 40 (nI 0)) = τ4 at *
  unfold f_X0_read
  obtain ⟨σ1, τ1, k, a, b, cc, d, v, e1, e2, f1, f2, P, _⟩ := p_open (σ := σ) (τ := τ4) (L := 400) hN (by decide) hn hTC hBb (by rw [k4, if_neg (by decide), if_neg (by decide), tk_3]; exact hTM.1) (fun j hj => by rw [m4 207 (by decide)]; exact hTM.2 j hj) (by rw [k4, if_neg (by decide), if_neg (by decide), tk_5]) (by rw [k4, if_neg (by decide), if_neg (by decide), tk_4]) (by rw [k4]; rfl)
  have FM1 : MB τ4 τ1 := ⟨fun j hj => by
    have j1 : j ≠ 206 := fun e => hj (by rw [e]; decide)
    exact ⟨((f2.1 j j1).1).symm, ((f2.1 j j1).2).symm⟩, fun k hk => by
    have := f2.2 k (fun w => hk (by simp only [List.mem_cons, List.mem_nil_iff, or_false] at w ⊢; omega))
    exact ⟨this.1.symm, this.2.symm⟩⟩
  rw [e1, bp_q, vl_q, e2, bp_q]
  have E : BkR (sI σ1 71 3 (nI 0)) τ1 m0 m1 0 := by
    refine ⟨ChN_w hC (fun b h1 h2 => ⟨by rw [sI_ne (by omega), (f1.1 b (by omega)).1], (f1.1 b (by omega)).2⟩) (by rw [(f2.1 208 (by decide)).1]; exact m4 208 (by decide)) (by rw [(f2.1 211 (by decide)).2, q4]) (by rw [(f2.1 212 (by decide)).2, q4]), by rw [sI1, if_pos rfl, if_pos rfl], by rw [(f2.2 40 (by decide)).1, k4]; rfl, by decide, fun i hi => absurd hi (Nat.not_lt_zero _)⟩
  rcases p_bookL (x := x) (k9 := kBk N x) (k11 := fun (s82 : St) => vl (s82.1 206 16) fun v83 => some (((-2) - v83), s82)) hN N 0 _ _ k a b cc d v (PR_bc (e := 71) (i := 3) (x := nI 0) P (by decide)) E (by omega) with ⟨σ', τ', w, a', x1, x2, fl, mb⟩ | ⟨σ', τ', c', x1, x2, E2, mb, z6, z15⟩
  · refine Or.inl ⟨σ', τ', w, a', x1, ?_, fl, (Fr4.trans FM1.1).trans mb.1, (Fm4.trans FM1.2).trans mb.2⟩
    rw [x2, vl_q, fl.2.2.2.1]
  · exact Or.inr ⟨σ', τ', c', x1, x2, E2, (Fr4.trans FM1.1).trans mb.1, (Fm4.trans FM1.2).trans mb.2, z6, z15⟩
end BRead
