/-! every call of the law, both sides, over the relation -/
theorem Inv_g {σ σ' τ τ' : St} {S S' : Nat → Nat} {u top u' top' : Nat} {H H' : Nat → Nat → Nat} {R R' : List Nat} (h : InvS σ τ S u top H) (hK : KRel σ' τ' S' u' top' H') (hs : ∀ j, j < 147 ∨ 178 ≤ j → S' j = S j) (F : Fr R σ σ') (F' : Fr R' τ τ') (hR : (R.all fun x => !([2, 3, 6, 20, 21].contains x)) = true) (hR' : (R'.all fun x => !([211, 212, 222, 223, 224].contains x)) = true) (hM : MRel σ' τ') (hT : ∃ n B, TapR σ' τ' n B) : Inv σ' τ' := by
  have nR : ∀ x, [2, 3, 6, 20, 21].contains x = true → x ∉ R := fun x hx => ok_n hR hx
  have nM : ∀ x, [211, 212, 222, 223, 224].contains x = true → x ∉ R' := fun x hx => ok_n hR' hx
  exact Inv_k h hK hs (Fr_A F (nR 2 rfl) (nR 3 rfl)) (Fr_I F (nR 20 rfl) (nR 21 rfl)) (Fr_S F (nR 6 rfl)) (Fr_M F' (nM 211 rfl) (nM 212 rfl) (nM 222 rfl) (nM 223 rfl) (nM 224 rfl)) hM hT
theorem Inv_thr {σ τ : St} (h : Inv σ τ) (v : Int32) : Inv σ (sI τ 206 0 v) := by
  obtain ⟨S, u, top, H, h⟩ := h
  exact Inv_f (R := []) (R' := [206]) (Q := [0]) h (KRel_thr h.1 v) (fun _ _ => rfl) Fr.rf (Fr.rf.sI (by decide)) (Fm.rf.sI (by decide)) (by decide) (by decide) (by decide)
theorem c_rd {f : St → Option Int32} {g : St → Option (Int32 × St)} (h : ∀ σ τ S u top H, InvS σ τ S u top H → rdE τ (f σ) (g τ)) : callE (pu f) g := fun σ τ hi => by
  obtain ⟨S, u, top, H, hs⟩ := id hi
  obtain ⟨r, e1, e2⟩ := h σ τ S u top H hs
  exact ⟨r, σ, _, pu_q e1, e2, Inv_thr hi _⟩
theorem cc_act {f g : St → Option (Int32 × St)} (h : ∀ σ τ S u top H, KRel σ τ S u top H → actE σ τ S (f σ) (g τ)) : callE f g := fun σ τ hi => by
  obtain ⟨S, u, top, H, hs⟩ := id hi
  obtain ⟨r, σ', τ', S', u', top', H', e1, e2, k, o, F, F', G⟩ := h σ τ S u top H hs.1
  exact ⟨r, σ', τ', e1, e2, Inv_f hs k o F F' G (by decide) (by decide) (by decide)⟩
theorem cc_actD {f g : St → Option (Int32 × St)} (h : ∀ σ τ S u top H, KRel σ τ S u top H → actD σ τ S (f σ) (g τ)) : callE f g := fun σ τ hi => by
  obtain ⟨S, u, top, H, hs⟩ := id hi
  obtain ⟨r, σ', τ', S', u', top', H', e1, e2, k, o, F, F', G⟩ := h σ τ S u top H hs.1
  exact ⟨r, σ', τ', e1, e2, Inv_f hs k o F F' G (by decide) (by decide) (by decide)⟩
section Calls
variable {N : Nat}
theorem C_douse (hN : 300000 ≤ N) (a : Int32) : callE (fun σ => f_X11_douse a σ) (fun τ => f_X12_douse N a τ) := cc_act (fun _ _ _ _ _ _ h => k_douse (by omega) h a)
theorem C_kindle (hN : 300000 ≤ N) (a : Int32) : callE (fun σ => f_X11_kindle a σ) (fun τ => f_X12_kindle N a τ) := cc_act (fun _ _ _ _ _ _ h => k_kindle (by omega) h a)
theorem C_fill (hN : 300000 ≤ N) (a b : Int32) : callE (fun σ => f_X11_fill a b σ) (fun τ => f_X12_fill N a b τ) := cc_act (fun _ _ _ _ _ _ h => k_fill (by omega) h a b)
theorem C_shift (hN : 300000 ≤ N) (a b : Int32) : callE (fun σ => f_X11_shift a b σ) (fun τ => f_X12_shift N a b τ) := cc_act (fun _ _ _ _ _ _ h => k_shift (by omega) h a b)
theorem C_steer (hN : 300000 ≤ N) (a b : Int32) : callE (fun σ => f_X11_steer a b σ) (fun τ => f_X12_steer N a b τ) := cc_act (fun _ _ _ _ _ _ h => k_steer (by omega) h a b)
theorem C_haze (hN : 300000 ≤ N) (a : Int32) : callE (fun σ => f_X11_haze a σ) (fun τ => f_X12_haze N a τ) := cc_act (fun _ _ _ _ _ _ h => k_haze (by omega) h a)
theorem C_seconds (hN : 300000 ≤ N) (a : Int32) : callE (fun σ => f_X11_seconds N a σ) (fun τ => f_X12_seconds N a τ) := cc_act (fun _ _ _ _ _ _ h => k_seconds (by omega) h a)
theorem C_undo (hN : 300000 ≤ N) : callE (fun σ => f_X11_undo σ) (fun τ => f_X12_undo N τ) := cc_act (fun _ _ _ _ _ _ h => k_undo (by omega) h)
theorem C_drawn (hN : 300000 ≤ N) (a b : Int32) : callE (fun σ => f_X11_drawn N a b σ) (fun τ => f_X12_drawn N a b τ) := cc_actD (fun _ _ _ _ _ _ h => k_drawn (by omega) h a b)
theorem C_ship (hN : 300000 ≤ N) (a b : Int32) : callE (pu (fun σ => f_X11_ship N a b σ)) (fun τ => f_X12_ship N a b τ) := c_rd (fun _ _ _ _ _ _ h => k_ship (by omega) h.1 a b)
theorem C_character (hN : 300000 ≤ N) (a b : Int32) : callE (pu (fun σ => f_X11_character a b σ)) (fun τ => f_X12_character N a b τ) := c_rd (fun _ _ _ _ _ _ h => k_character (by omega) h.1 a b)
theorem C_visible (hN : 300000 ≤ N) (a b : Int32) : callE (pu (fun σ => f_X11_visible N a b σ)) (fun τ => f_X12_visible N a b τ) := c_rd (fun _ _ _ _ _ _ h => k_visible (by omega) h.1 a b)
theorem C_now (hN : 300000 ≤ N) (a : Int32) : callE (pu (fun σ => f_X11_now N a σ)) (fun τ => f_X12_now N a τ) := c_rd (fun _ _ _ _ _ _ h => k_now (by omega) h.1 a)
theorem C_both (hN : 300000 ≤ N) (a b : Int32) : callE (pu (fun σ => f_X11_both N a b σ)) (fun τ => f_X12_both N a b τ) := c_rd (fun _ _ _ _ _ _ h => k_both (by omega) h.1 a b)
theorem C_burn (hN : 300000 ≤ N) (a : Int32) : callE (pu (fun σ => f_X11_burn N a σ)) (fun τ => f_X12_burn N a τ) := c_rd (fun _ _ _ _ _ _ h => k_burn (by omega) h.1 a)
theorem C_most (hN : 300000 ≤ N) : callE (pu (fun σ => f_X11_most N σ)) (fun τ => f_X12_most N τ) := c_rd (fun _ _ _ _ _ _ h => k_most (by omega) h.1)
theorem C_count (a : Int32) : callE (pu (fun σ => f_X11_count a σ)) (fun τ => f_X12_count a τ) := c_rd (fun _ _ _ _ _ _ h => by
  obtain ⟨n, B, t⟩ := h.2.2.1
  exact k_count h.1 t a)
theorem C_fault : callE (pu (fun σ => f_X11_fault σ)) (fun τ => f_X12_fault τ) := c_rd (fun _ _ _ _ _ _ h => k_fault h.2.1.1 )
theorem C_changes : callE (pu (fun σ => f_X11_changes σ)) (fun τ => f_X12_changes τ) := c_rd (fun _ _ _ _ _ _ h => k_changes h.2.1.2.1 )
theorem C_ask : callE (pu (fun σ => f_X11_ask σ)) (fun τ => f_X12_ask τ) := c_rd (fun _ _ _ _ _ _ h => k_ask h.2.1.2.2.1 )
theorem C_spotsAt : callE (pu (fun σ => f_X11_spotsAt σ)) (fun τ => f_X12_spotsAt τ) := c_rd (fun _ _ _ _ _ _ h => k_spotsAt h.2.1.2.2.2.1 )
theorem C_fixAt : callE (pu (fun σ => f_X11_fixAt σ)) (fun τ => f_X12_fixAt τ) := c_rd (fun _ _ _ _ _ _ h => k_fixAt h.2.1.2.2.2.2.1 )
theorem C_fitsAt (a : Int32) : callE (pu (fun σ => f_X11_fitsAt a σ)) (fun τ => f_X12_fitsAt a τ) := c_rd (fun _ _ _ _ _ _ h => k_fitsAt h.2.1.2.2.2.2.2.1 a)
theorem C_told (a : Int32) : callE (pu (fun σ => f_X11_told a σ)) (fun τ => f_X12_told a τ) := c_rd (fun _ _ _ _ _ _ h => k_told h.2.1.2.2.2.2.2.2.1 a)
theorem C_byteAt (a : Int32) : callE (pu (fun σ => f_X11_byteAt a σ)) (fun τ => f_X12_byteAt a τ) := c_rd (fun _ _ _ _ _ _ h => k_byteAt h.2.1.2.2.2.2.2.2.2 a)
theorem C_waits (hN : 300000 ≤ N) (a : Int32) : callE (fun σ => f_X11_waits N a σ) (fun τ => f_X12_waits N a τ) := fun σ τ hi => by
  obtain ⟨S, u, top, H, hs⟩ := id hi
  obtain ⟨r, σ', τ', e1, e2, k, F⟩ := k_waits (N := N) (by omega) hs.1 a
  exact ⟨r, σ', τ', e1, e2, Inv_f hs k (fun _ _ => rfl) F (fr_X12_waits (R := [206, 208, 214]) (by decide) e2) (fm_X12_waits (R := [0]) (by decide) e2) (by decide) (by decide) (by decide)⟩
theorem C_odds (hN : 300000 ≤ N) (a b c : Int32) : callE (fun σ => f_X11_odds N a b c σ) (fun τ => f_X12_odds N a b c τ) := fun σ τ hi => by
  obtain ⟨S, u, top, H, hs⟩ := id hi
  obtain ⟨r, σ', τ', e1, e2, k, F⟩ := k_odds (N := N) (by omega) hs.1 a b c
  exact ⟨r, σ', τ', e1, e2, Inv_f hs k (fun _ _ => rfl) F (fr_X12_odds (R := [206, 208, 214]) (by decide) e2) (fm_X12_odds (R := [0, 39]) (by decide) e2) (by decide) (by decide) (by decide)⟩
theorem KRel_o {σ τ τ' : St} {S : Nat → Nat} {u top : Nat} {H : Nat → Nat → Nat} {R Q : List Nat} (h : KRel σ τ S u top H) (F : Fr R τ τ') (G : Fm Q τ τ') (h8 : 208 ∉ R) (h3 : 213 ∉ R) (h4 : 24 ∉ Q) : KRel σ τ' S u top H := KRel_m h (F 208 h8).1.symm (G 24 h4).1.symm (F 213 h3).1.symm
theorem C_apart (hN : 300000 ≤ N) (a b : Int32) : callE (pu (fun σ => f_X11_apart N a b σ)) (fun τ => f_X12_apart N a b τ) := fun σ τ hi => by
  obtain ⟨S, u, top, H, hs⟩ := id hi
  obtain ⟨r, τ', e1, e2⟩ := k_apart (N := N) (by omega) hs.1 a b
  have F := fr_X12_apart (R := [206, 216]) (by decide) e2
  have G := fm_X12_apart (R := [0]) (by decide) e2
  exact ⟨r, σ, τ', pu_q e1, e2, Inv_f (R := []) hs (KRel_o hs.1 F G (by decide) (by decide) (by decide)) (fun _ _ => rfl) Fr.rf F G (by decide) (by decide) (by decide)⟩
theorem C_confused (hN : 300000 ≤ N) : callE (pu (fun σ => f_X11_confused N σ)) (fun τ => f_X12_confused N τ) := fun σ τ hi => by
  obtain ⟨S, u, top, H, hs⟩ := id hi
  obtain ⟨r, e1, e2⟩ := k_confused (N := N) (by omega) hs.1
  have F := fr_X12_confused (R := [206, 215]) (by decide) e2
  have G := fm_X12_confused (R := [0]) (by decide) e2
  exact ⟨r, σ, _, pu_q e1, e2, Inv_f (R := []) hs (KRel_o hs.1 F G (by decide) (by decide) (by decide)) (fun _ _ => rfl) Fr.rf F G (by decide) (by decide) (by decide)⟩
theorem Tap_f {σ σ' τ τ' : St} {R R' Q : List Nat} (h : ∃ n B, TapR σ τ n B) (F : Fr R σ σ') (F' : Fr R' τ τ') (G : Fm Q τ τ') (h1 : 1 ∉ R) (h2 : 2 ∉ Q) (h7 : 207 ∉ R') : ∃ n B, TapR σ' τ' n B := by
  obtain ⟨n, B, hT⟩ := h
  exact ⟨n, B, TapR_g hT (by rw [(F 1 h1).1]) (F 2 h1).1.symm (G 2 h2).1.symm (F' 207 h7).1.symm⟩
theorem C_change (hN : 300000 ≤ N) : callE (fun σ => f_X11_change N σ) (fun τ => f_X12_change N τ) := fun σ τ hi => by
  obtain ⟨S, u, top, H, hs⟩ := id hi
  obtain ⟨r, v, e1, e2⟩ := k_change (N := N) (by omega) hs.1
  have F : Fr [0] σ (sI σ 0 16 v) := Fr.rf.sI (by decide)
  have F' := fr_X12_change (R := [206, 215]) (by decide) e2
  have G := fm_X12_change (R := [0, 26, 27]) (by decide) e2
  have K1 := KRel_5 (KRel_o hs.1 F' G (by decide) (by decide) (by decide)) F (by decide) (by decide) (fun k hk => by simp only [List.mem_cons, List.mem_nil_iff, or_false]; omega)
  refine ⟨r, _, _, e1, e2, Inv_g hs K1 (fun _ _ => rfl) F F' (by decide) (by decide) (MRel_1 (k := 16) (a := 27) (b := 26) (v := v) (by decide) hs.2.1 ?_ ?_ ?_ ?_ ?_ ?_ ?_ (fun k hk ka kb => (G k (fun m => ?_)).1.symm) (F' 217 (by decide)).1.symm (F' 218 (by decide)).1.symm (F' 219 (by decide)).1.symm) ⟨_, _, TapR_g hs.2.2.1.choose_spec.choose_spec (by rw [sI_ne (by decide)]) (sI_ne (by decide)) (G 2 (by decide)).1.symm (F' 207 (by decide)).1.symm⟩⟩
  · rw [sI1, if_pos rfl, if_pos rfl]
  · intro j hj; rw [sI1, if_pos rfl, if_neg hj]
  · exact sI_ne (by decide)
  · exact sI_ne (by decide)
  · exact sI_ne (by decide)
  · rw [sI1, if_pos rfl, if_neg (by decide), sI1, if_pos rfl, if_pos rfl]
  · rw [sI1, if_pos rfl, if_pos rfl]
  · simp only [List.mem_cons, List.mem_nil_iff, or_false] at m
    unfold m12 at hk
    omega
theorem C_spots (hN : 300000 ≤ N) (a : Int32) : callE (fun σ => f_X11_spots N a σ) (fun τ => f_X12_spots N a τ) := fun σ τ hi => by
  obtain ⟨S, u, top, H, hs⟩ := id hi
  rcases k_spots (N := N) (by omega) hs.1 a with ⟨r, e1, e2⟩ | ⟨r, v, e1, e2⟩
  · exact ⟨r, _, _, e1, e2, Inv_thr hi _⟩
  have F : Fr [0] σ (sI σ 0 18 v) := Fr.rf.sI (by decide)
  have F' := fr_X12_spots (R := [206]) (by decide) e2
  have G := fm_X12_spots (R := [0, 33, 35]) (by decide) e2
  have K1 := KRel_5 (KRel_o hs.1 F' G (by decide) (by decide) (by decide)) F (by decide) (by decide) (fun k hk => by simp only [List.mem_cons, List.mem_nil_iff, or_false]; omega)
  refine ⟨r, _, _, e1, e2, Inv_g hs K1 (fun _ _ => rfl) F F' (by decide) (by decide) (MRel_1 (k := 18) (a := 35) (b := 33) (v := v) (by decide) hs.2.1 ?_ ?_ ?_ ?_ ?_ ?_ ?_ (fun k hk ka kb => (G k (fun m => ?_)).1.symm) (F' 217 (by decide)).1.symm (F' 218 (by decide)).1.symm (F' 219 (by decide)).1.symm) ⟨_, _, TapR_g hs.2.2.1.choose_spec.choose_spec (by rw [sI_ne (by decide)]) (sI_ne (by decide)) (G 2 (by decide)).1.symm (F' 207 (by decide)).1.symm⟩⟩
  · rw [sI1, if_pos rfl, if_pos rfl]
  · intro j hj; rw [sI1, if_pos rfl, if_neg hj]
  · exact sI_ne (by decide)
  · exact sI_ne (by decide)
  · exact sI_ne (by decide)
  · rw [sI1, if_pos rfl, if_neg (by decide), sI1, if_pos rfl, if_pos rfl]
  · rw [sI1, if_pos rfl, if_pos rfl]
  · simp only [List.mem_cons, List.mem_nil_iff, or_false] at m
    unfold m12 at hk
    omega
theorem C_fix (hN : 300000 ≤ N) : callE (fun σ => f_X11_fix N σ) (fun τ => f_X12_fix N τ) := fun σ τ hi => by
  obtain ⟨S, u, top, H, hs⟩ := id hi
  obtain ⟨n, B, hT⟩ := hs.2.2.1
  have kk : ∀ k, k < 10 → 9 + k ∉ [0, 1] := fun k hk => by simp only [List.mem_cons, List.mem_nil_iff, or_false]; omega
  rcases k_fix (N := N) (by omega) hs.1 hT with ⟨r, e1, e2⟩ | ⟨r, v, e1, e2⟩
  · have F := fr_X11_fix (R := [0, 1]) (by decide) e1
    have F' := fr_X12_fix (R := [206]) (by decide) e2
    have G : Fm [0, 2, 3, 4, 5] τ (tkS (nI 940) τ) := fun k hk => ⟨(tk_n (fun e => hk (by rw [e]; decide)) (fun e => hk (by rw [e]; decide)) (fun e => hk (by rw [e]; decide)) (fun e => hk (by rw [e]; decide)) (fun e => hk (by rw [e]; decide))).symm, by rw [tk_L]⟩
    have K1 := KRel_5 (KRel_o hs.1 F' G (by decide) (by decide) (by decide)) F (by decide) (by decide) kk
    exact ⟨r, _, _, e1, e2, Inv_g hs K1 (fun _ _ => rfl) F F' (by decide) (by decide) (MRel_eq hs.2.1 (sI_ne (by decide)) (sI_ne (by decide)) (sI_ne (by decide)) (sI_ne (by decide)) (fun k hk => tk_n (by omega) (by omega) (by omega) (by omega) (by omega)) (F' 217 (by decide)).1.symm (F' 218 (by decide)).1.symm (F' 219 (by decide)).1.symm) (TapR_0 (by rw [sI1, if_pos rfl, if_pos rfl]) tk_2)⟩
  · have F := fr_X11_fix (R := [0, 1]) (by decide) e1
    have F' := fr_X12_fix (R := [206]) (by decide) e2
    have G := fm_X12_fix (R := [0, 2, 3, 4, 5, 34, 36]) (by decide) e2
    have K1 := KRel_5 (KRel_o hs.1 F' G (by decide) (by decide) (by decide)) F (by decide) (by decide) kk
    refine ⟨r, _, _, e1, e2, Inv_g hs K1 (fun _ _ => rfl) F F' (by decide) (by decide) (MRel_1 (k := 19) (a := 36) (b := 34) (v := v) (by decide) hs.2.1 ?_ ?_ ?_ ?_ ?_ ?_ ?_ (fun k hk ka kb => (G k (fun m => ?_)).1.symm) (F' 217 (by decide)).1.symm (F' 218 (by decide)).1.symm (F' 219 (by decide)).1.symm) (TapR_0 (by rw [sI1, if_pos rfl, if_pos rfl]) ?_)⟩
    · rw [sI_ne (by decide), sI1, if_pos rfl, if_pos rfl]
    · intro j hj; rw [sI_ne (by decide), sI1, if_pos rfl, if_neg hj]
    · rw [sI_ne (by decide), sI_ne (by decide)]
    · rw [sI_ne (by decide), sI_ne (by decide)]
    · rw [sI_ne (by decide), sI_ne (by decide)]
    · rw [sI1, if_pos rfl, if_neg (by decide), sI1, if_pos rfl, if_pos rfl]
    · rw [sI1, if_pos rfl, if_pos rfl]
    · simp only [List.mem_cons, List.mem_nil_iff, or_false] at m
      unfold m12 at hk
      omega
    · rw [sI1, if_pos rfl, if_neg (by decide), sI1, if_pos rfl, if_neg (by decide), tk_2]
theorem C_fits (hN : 300000 ≤ N) : callE (fun σ => f_X11_fits N σ) (fun τ => f_X12_fits N τ) := fun σ τ hi => by
  obtain ⟨S, u, top, H, hs⟩ := id hi
  obtain ⟨n, B, hT⟩ := hs.2.2.1
  obtain ⟨r, σ', τ', e1, e2, M, t1, t2⟩ := k_fits (N := N) (by omega) hs.1 hT hs.2.1
  have F := fr_X11_fits (R := [0, 1]) (by decide) e1
  have F' := fr_X12_fits (R := [206, 217]) (by decide) e2
  have G := fm_X12_fits (R := [0, 2, 3, 4, 5, 30, 31, 32]) (by decide) e2
  have K1 := KRel_5 (KRel_o hs.1 F' G (by decide) (by decide) (by decide)) F (by decide) (by decide) (fun k hk => by simp only [List.mem_cons, List.mem_nil_iff, or_false]; omega)
  exact ⟨r, σ', τ', e1, e2, Inv_g hs K1 (fun _ _ => rfl) F F' (by decide) (by decide) M (TapR_0 t1 t2)⟩
theorem C_feed (hN : 300000 ≤ N) (a b c d e : Int32) : callE (fun σ => f_X11_feed N a b c d e σ) (fun τ => f_X12_feed N a b c d e τ) := fun σ τ hi => by
  obtain ⟨S, u, top, H, hs⟩ := id hi
  obtain ⟨n, B, hT⟩ := hs.2.2.1
  obtain ⟨r, σ', τ', n', B', e1, e2, T⟩ := k_feed (N := N) (by omega) hT a b c d e
  have F := fr_X11_feed (R := [1]) (by decide) e1
  have F' := fr_X12_feed (R := [206, 207]) (by decide) e2
  have G := fm_X12_feed (R := [0, 2]) (by decide) e2
  have K1 := KRel_5 (KRel_o hs.1 F' G (by decide) (by decide) (by decide)) F (by decide) (by decide) (fun k hk => by simp only [List.mem_cons, List.mem_nil_iff, or_false]; omega)
  exact ⟨r, σ', τ', e1, e2, Inv_g hs K1 (fun _ _ => rfl) F F' (by decide) (by decide) (MRel_f hs.2.1 F F' G (by decide) (by decide) (by decide) (by decide) (fun k hk => by simp only [List.mem_cons, List.mem_nil_iff, or_false]; omega)) ⟨n', B', T⟩⟩
theorem C_end (a : Int32) : callE (fun σ => f_X11_end a σ) (fun τ => f_X12_end a τ) := fun σ τ hi => by
  obtain ⟨S, u, top, H, hs⟩ := id hi
  obtain ⟨n, B, hT⟩ := hs.2.2.1
  obtain ⟨r, σ', τ', n', e1, e2, T⟩ := k_end hT a
  have F := fr_X11_end (R := [1]) (by decide) e1
  have F' := fr_X12_end (R := [206]) (by decide) e2
  have G := fm_X12_end (R := [0, 2]) (by decide) e2
  have K1 := KRel_5 (KRel_o hs.1 F' G (by decide) (by decide) (by decide)) F (by decide) (by decide) (fun k hk => by simp only [List.mem_cons, List.mem_nil_iff, or_false]; omega)
  exact ⟨r, σ', τ', e1, e2, Inv_g hs K1 (fun _ _ => rfl) F F' (by decide) (by decide) (MRel_f hs.2.1 F F' G (by decide) (by decide) (by decide) (by decide) (fun k hk => by simp only [List.mem_cons, List.mem_nil_iff, or_false]; omega)) ⟨n', B, T⟩⟩
theorem C_book (hN : 300000 ≤ N) (a : Int32) : callE (fun σ => f_X11_book N a σ) (fun τ => f_X12_book N a τ) := fun σ τ hi => by
  obtain ⟨S, u, top, H, hs⟩ := id hi
  obtain ⟨n, B, hT⟩ := hs.2.2.1
  obtain ⟨r, σ', τ', e1, e2, x⟩ := k_book (N := N) (by omega) hs.1 hT hs.2.2.2.1 hs.2.2.2.2.1 hs.2.1.2.2.2.2.2.2.1 a
  rcases x with ⟨rfl, rfl⟩ | ⟨S', u', top', H', K1, so, tl, ⟨f1, f2, f3⟩, ⟨z0, ⟨z1, z2, z3⟩, F, F', G⟩⟩
  · exact ⟨r, _, _, e1, e2, Inv_thr hi _⟩
  · exact ⟨r, σ', τ', e1, e2, Inv_g hs K1 so F F' (by decide) (by decide) (MRel_p hs.2.1 f1 tl (TagR_g hs.2.1.2.2.2.2.2.2.2 (z0 14 (by decide)) z3 (G 38 (by decide)).1.symm (F' 218 (by decide)).1.symm) (fun k hk => z0 k (by omega)) z2 (fun k hk => (G k (by unfold m12 at hk; simp only [List.mem_cons, List.mem_nil_iff, or_false]; omega)).1.symm) (F' 217 (by decide)).1.symm) (TapR_0 f2 f3)⟩
theorem C_said (hN : 300000 ≤ N) (a : Int32) : callE (fun σ => f_X11_said N a σ) (fun τ => f_X12_said N a τ) := fun σ τ hi => by
  obtain ⟨S, u, top, H, hs⟩ := id hi
  obtain ⟨c, K, hP, hr⟩ := hs.2.2.2.2.2.2.2.1
  obtain ⟨r, σ', τ', e1, e2, a1, a2, a3, a4⟩ := k_said (N := N) (by omega) hs.1 hP hr a
  have F := fr_X11_said (R := [6]) (by decide) e1
  have F' := fr_X12_said (R := [206, 221]) (by decide) e2
  have G := fm_X12_said (R := [0]) (by decide) e2
  have K1 := KRel_5 (KRel_o hs.1 F' G (by decide) (by decide) (by decide)) F (by decide) (by decide) (fun k hk => by simp only [List.mem_cons, List.mem_nil_iff, or_false]; omega)
  exact ⟨r, σ', τ', e1, e2, Inv_k hs K1 (fun _ _ => rfl) (Fr_A F (by decide) (by decide)) (Fr_I F (by decide) (by decide)) (fun b _ h2 => a1 b (by omega)) (Fr_M F' (by decide) (by decide) (by decide) (by decide) (by decide)) (MRel_f hs.2.1 F F' G (by decide) (by decide) (by decide) (by decide) (fun k hk => by simp only [List.mem_cons, List.mem_nil_iff, or_false]; omega)) (Tap_f hs.2.2.1 F F' G (by decide) (by decide) (by decide))⟩
theorem C_tag (hN : 300000 ≤ N) (a : Int32) : callE (fun σ => f_X11_tag N a σ) (fun τ => f_X12_tag N a τ) := fun σ τ hi => by
  obtain ⟨S, u, top, H, hs⟩ := id hi
  obtain ⟨r, σ', τ', e1, e2, x⟩ := k_tag (N := N) (by omega) hs.1 hs.2.2.2.1.2 a
  rcases x with ⟨rfl, rfl⟩ | ⟨L, hL, ⟨c1, c2, c3, c4, c5⟩, ⟨m1, m2, m3, m4, m5⟩⟩
  · exact ⟨r, _, _, e1, e2, Inv_thr hi _⟩
  have F : Fr [0] σ σ' := fun j hj => ⟨(c3 j (fun e => hj (by rw [e]; decide)) (fun e => hj (by rw [e]; decide))).symm, by rw [c5]⟩
  have F' := fr_X12_tag (R := [206, 218]) (by decide) e2
  have G := fm_X12_tag (R := [0, 38]) (by decide) e2
  have K1 := KRel_5 (KRel_o hs.1 F' G (by decide) (by decide) (by decide)) F (by decide) (by decide) (fun k hk => by simp only [List.mem_cons, List.mem_nil_iff, or_false]; omega)
  have hM := hs.2.1
  refine ⟨r, σ', τ', e1, e2, Inv_g hs K1 (fun _ _ => rfl) F F' (by decide) (by decide) (MRel_p hM (FltR_g hM.1 (c4 15 (by decide)) (G 15 (by decide)).1.symm) (TldR_g hM.2.2.2.2.2.2.1 (c3 134 (by decide) (by decide)) (G 42 (by decide)).1.symm (F' 219 (by decide)).1.symm) ⟨L.length, hL, c1, m1, fun j hj => by rw [c2 j hj, m2 j hj]⟩ (fun k hk => c4 k (by omega)) (c3 133 (by decide) (by decide)) (fun k hk => (G k (by unfold m12 at hk; simp only [List.mem_cons, List.mem_nil_iff, or_false]; omega)).1.symm) (F' 217 (by decide)).1.symm) (Tap_f hs.2.2.1 F F' G (by decide) (by decide) (by decide))⟩
theorem C_image (hN : 300000 ≤ N) (a : Int32) : callE (fun σ => f_X11_image N a σ) (fun τ => f_X12_image N a τ) := fun σ τ hi => by
  obtain ⟨S, u, top, H, hs⟩ := id hi
  obtain ⟨c, K, hP, hr⟩ := hs.2.2.2.2.2.2.2.1
  obtain ⟨r, σ', τ', e1, e2, x⟩ := k_image (N := N) (by omega) hs.1 hs.2.2.2.1 hs.2.2.2.2.2.2.1 hP hr a
  rcases x with ⟨rfl, rfl⟩ | ⟨w, hw, x1, x2, x3, x4, x5, x6⟩
  · exact ⟨r, _, _, e1, e2, Inv_thr hi _⟩
  have F := fr_X11_image (R := [20, 21]) (by decide) e1
  have F' := fr_X12_image (R := [206, 222, 223, 224]) (by decide) e2
  have G := fm_X12_image (R := [0]) (by decide) e2
  have K1 := KRel_5 (KRel_o hs.1 F' G (by decide) (by decide) (by decide)) F (by decide) (by decide) (fun k hk => by simp only [List.mem_cons, List.mem_nil_iff, or_false]; omega)
  obtain ⟨k1, k2, k3, ⟨k4, k5⟩, k6, k7, k8, -, kb⟩ := hs
  have A := Fr_A F (by decide) (by decide)
  have M1 : τ'.2 211 = τ.2 211 := x4 211 (by decide)
  refine ⟨r, σ', τ', e1, e2, S, u, top, H, K1, MRel_f k2 F F' G (by decide) (by decide) (by decide) (by decide) (fun k hk => by simp only [List.mem_cons, List.mem_nil_iff, or_false]; omega), Tap_f k3 F F' G (by decide) (by decide) (by decide), ⟨NmR_g k4 K1.2.1.1 rA4 (fun b h1 h2 => (A b h1 h2).2) (fun l _ => by rw [M1]), NmR_g k5 K1.2.1.2.1 rA5 (fun b h1 h2 => (A b h1 h2).2) (fun l _ => by rw [M1])⟩, RvR_k (x4 212 (by decide)) k6, DBl_k A k7, Trs_k A k8, ⟨c, K, SpR_g hP (Fr_S F (by decide)) (fun j _ _ => by rw [x2 208 (by decide) (by decide) (by decide)]), hr⟩, fun w' hw' => ?_⟩
  by_cases q : w' = w
  · rw [q]; exact x6
  · obtain ⟨y1, y2, y3⟩ := x5 w' hw' q
    exact ImR_g hw' (fun b h1 h2 => x1 b (by omega)) y1 y2 y3 (kb w' hw')
theorem C_restore (hN : 300000 ≤ N) (a : Int32) : callE (fun σ => f_X11_restore N a σ) (fun τ => f_X12_restore N a τ) := fun σ τ hi => by
  obtain ⟨S, u, top, H, hs⟩ := id hi
  obtain ⟨k1, k2, k3, k45, k6, k7, k8, k9, kb⟩ := hs
  obtain ⟨r, σ', τ', e1, e2, x⟩ := k_restore (N := N) (by omega) k1 k8 kb a
  rcases x with ⟨rfl, rfl⟩ | ⟨T, x1, x2, x3, x4, x5, x6, x7, x8⟩
  · exact ⟨r, _, _, e1, e2, Inv_thr hi _⟩
  have F := fr_X11_restore (R := [2, 4, 6, 9]) (by decide) e1
  have F' := fr_X12_restore (R := [206, 208, 211]) (by decide) e2
  have G := fm_X12_restore (R := [0, 24]) (by decide) e2
  exact ⟨r, σ', τ', e1, e2, T, 0, top, H, x1, MRel_f k2 F F' G (by decide) (by decide) (by decide) (by decide) (fun k hk => by simp only [List.mem_cons, List.mem_nil_iff, or_false]; omega), Tap_f k3 F F' G (by decide) (by decide) (by decide), x2, RvR_k (F' 212 (by decide)).2.symm k6, DBl_w k7 (fun b h1 h2 => (x5 b (by omega) (by omega) (by omega) (by omega)).1), x3, x4, ImR_k (Fr_I F (by decide) (by decide)) (F' 222 (by decide)).1.symm (F' 223 (by decide)).2.symm (F' 224 (by decide)).1.symm kb⟩
theorem cl_o (s : St) : ∀ b, b ≠ 0 → b ≠ 1 → (sI (sI s 0 15 (s.1 1 6)) 1 1 (nI 0)).1 b = s.1 b := fun b h0 h1 => by rw [sI_ne h1, sI_ne h0]
/-- the object's own place: all but the fault stands, and what it keeps in arrays -/
def Q0 (s s' : St) : Prop := (∀ k, k ≠ 15 → s'.1 0 k = s.1 0 k) ∧ ∀ b, 132 ≤ b → b ≤ 135 → s'.1 b = s.1 b
theorem Q0.fr {s s' s2 : St} {R : List Nat} (h : Q0 s s') (f : Fr R s' s2) (h0 : 0 ∉ R) : Q0 s s2 := ⟨fun k hk => by rw [← (f 0 h0).1]; exact h.1 k hk, fun b h1 h2 => by
  have : ∀ b, b < 136 → 132 ≤ b → reg b = 0 := by decide +kernel
  rw [← (f b (by rw [this b (by omega) h1]; exact h0)).1]; exact h.2 b h1 h2⟩
theorem Q0_cl {s s' s2 : St} (h : Q0 s s') (e : f_X11_closeText s' = some s2) : Q0 s s2 := by
  unfold f_X11_closeText at e
  rw [vl_q, vl_q, vl_q] at e
  cases e
  exact ⟨fun k hk => by rw [sI_ne (by decide), sI1, if_pos rfl, if_neg hk]; exact h.1 k hk, fun b h1 h2 => by rw [cl_o _ b (by omega) (by omega)]; exact h.2 b h1 h2⟩
theorem Q0_chart {s s' : St} {r : Int32} (h : f_X11_chart N s = some (r, s')) : Q0 s s' := by
  have Q : Q0 s s := ⟨fun _ _ => rfl, fun _ _ _ => rfl⟩
  unfold f_X11_chart at h
  obtain ⟨v1, s2, hc, h⟩ := bd_e h
  have Q := Q.fr (fr_X1_read (R := [1, 3]) shq_26 (by decide) (by decide) hc) (by decide)
  obtain ⟨s3, hc, h⟩ := bp_e h
  have Q := Q0_cl Q hc
  refine e_ite h (fun _ h => ?_) (fun _ h => ?_)
  · rw [vl_q] at h
    have e := congrArg Prod.snd (Option.some.inj h)
    rw [← show s3 = s' from e]; exact Q
  obtain ⟨s5, hc, h⟩ := bp_e h
  have Q := Q.fr (fr_X1_copyFrom (R := [2]) shq_3 shq_26 (by decide) (by decide) hc) (by decide)
  obtain ⟨s6, hc, h⟩ := bp_e h
  have Q := Q.fr (fr_X1_compareLights (R := [2]) shq_3 (by decide) (by decide) hc) (by decide)
  obtain ⟨s7, hc, h⟩ := bp_e h
  have Q := Q.fr (fr_X6_begin (R := [4]) shq_49 (by decide) (by decide) hc) (by decide)
  obtain ⟨s8, hc, h⟩ := bp_e h
  have Q := Q.fr (fr_X7_clear (R := [6]) shq_61 (by decide) (by decide) hc) (by decide)
  obtain ⟨s9, hc, h⟩ := bp_e h
  have Q := Q.fr (fr_X5_clear (R := [9]) (by decide) hc) (by decide)
  cases h
  exact Q
theorem Q0_sentence {s s' : St} {r : Int32} (h : f_X11_sentence N s = some (r, s')) : Q0 s s' := by
  have Q : Q0 s s := ⟨fun _ _ => rfl, fun _ _ _ => rfl⟩
  unfold f_X11_sentence at h
  obtain ⟨v1, s2, hc, h⟩ := bd_e h
  have Q := Q.fr (fr_X7_read (R := [1, 7]) shq_66 (by decide) (by decide) hc) (by decide)
  obtain ⟨s3, hc, h⟩ := bp_e h
  have Q := Q0_cl Q hc
  refine e_ite h (fun _ h => ?_) (fun _ h => ?_)
  · rw [vl_q] at h
    have e := congrArg Prod.snd (Option.some.inj h)
    rw [← show s3 = s' from e]; exact Q
  obtain ⟨s5, hc, h⟩ := bp_e h
  have Q := Q.fr (fr_X7_copyFrom (R := [6]) shq_61 shq_66 (by decide) (by decide) hc) (by decide)
  cases h
  exact Q
theorem MRel_t {σ σ' τ τ' : St} {R' Q : List Nat} (h : MRel σ τ) (f : FltR σ' τ') (q : Q0 σ σ') (F' : Fr R' τ τ') (G : Fm Q τ τ') (h7 : 217 ∉ R') (h8 : 218 ∉ R') (h9 : 219 ∉ R') (hq : ∀ k, k = 38 ∨ k = 42 ∨ m12 k → k ∉ Q) : MRel σ' τ' :=
  MRel_p h f (TldR_g h.2.2.2.2.2.2.1 (q.2 134 (by decide) (by decide)) (G 42 (hq 42 (by omega))).1.symm (F' 219 h9).1.symm) (TagR_g h.2.2.2.2.2.2.2 (q.1 14 (by decide)) (q.2 135 (by decide) (by decide)) (G 38 (hq 38 (by omega))).1.symm (F' 218 h8).1.symm) (fun k hk => q.1 k (by omega)) (q.2 133 (by decide) (by decide)) (fun k hk => (G k (hq k (Or.inr (Or.inr hk)))).1.symm) (F' 217 h7).1.symm
theorem C_sentence (hN : 300000 ≤ N) : callE (fun σ => f_X11_sentence N σ) (fun τ => f_X12_sentence N τ) := fun σ τ hi => by
  obtain ⟨S, u, top, H, hs⟩ := id hi
  obtain ⟨n, B, hT⟩ := hs.2.2.1
  rcases k_sentence (N := N) (by omega) hs.1 hT hs.2.2.2.1 hs.2.2.2.2.1 with ⟨r, σ', τ', e1, e2, ⟨f1, f2, f3⟩, mq, z0, F, K1⟩ | ⟨r, σ', τ', S', c, K, e1, e2, ⟨f1, f2, f3⟩, mq, z0, ⟨K1, so⟩, sp, rp⟩
  · have F' := fr_X12_sentence (R := [206, 208, 210, 220]) (by decide) e2
    have G := fm_X12_sentence (R := [0, 2, 3, 4, 5, 11, 12, 13, 14, 15, 16, 17, 18, 44, 45, 46, 47, 48]) (by decide) e2
    exact ⟨r, σ', τ', e1, e2, Inv_g hs K1 (fun _ _ => rfl) F F' (by decide) (by decide) (MRel_t hs.2.1 f1 (Q0_sentence e1) F' G (by decide) (by decide) (by decide) (fun k hk => by unfold m12 at hk; simp only [List.mem_cons, List.mem_nil_iff, or_false]; omega)) (TapR_0 f2 f3)⟩
  · have F := fr_X11_sentence (R := [0, 1, 6, 7]) (by decide) e1
    have F' := fr_X12_sentence (R := [206, 208, 210, 220]) (by decide) e2
    have G := fm_X12_sentence (R := [0, 2, 3, 4, 5, 11, 12, 13, 14, 15, 16, 17, 18, 44, 45, 46, 47, 48]) (by decide) e2
    obtain ⟨k1, k2, k3, ⟨k4, k5⟩, k6, k7, k8, -, kb⟩ := hs
    have A := Fr_A F (by decide) (by decide)
    have M1 : τ'.2 211 = τ.2 211 := (F' 211 (by decide)).2.symm
    have s0 : S' 0 = S 0 := so 0 (by decide)
    have s1 : S' 1 = S 1 := so 1 (by decide)
    refine ⟨r, σ', τ', e1, e2, S', u, top, H, K1, MRel_t k2 f1 (Q0_sentence e1) F' G (by decide) (by decide) (by decide) (fun k hk => by unfold m12 at hk; simp only [List.mem_cons, List.mem_nil_iff, or_false]; omega), TapR_0 f2 f3, ?_, RvR_k (F' 212 (by decide)).2.symm k6, DBl_k A k7, Trs_k A k8, ?_, ImR_k (Fr_I F (by decide) (by decide)) (F' 222 (by decide)).1.symm (F' 223 (by decide)).2.symm (F' 224 (by decide)).1.symm kb⟩
    · rw [s0, s1]
      exact ⟨NmR_g k4 k1.2.1.1 rA4 (fun b h1 h2 => (A b h1 h2).2) (fun l _ => by rw [M1]), NmR_g k5 k1.2.1.2.1 rA5 (fun b h1 h2 => (A b h1 h2).2) (fun l _ => by rw [M1])⟩
    · rw [s0, s1]
      exact ⟨c, K, sp, Or.inr rp⟩
theorem ch_75 {s s' s2 : St} {r : Int32} (h : f_X11_chart N s = some (r, s')) (hr : f_X1_read N 26 s = some (nI 1, s2)) : s'.1 75 2 = nI 0 := by
  unfold f_X11_chart at h
  rw [hr, bd_q] at h
  obtain ⟨s3, hc, h⟩ := bp_e h
  rw [if_one] at h
  obtain ⟨s5, hc, h⟩ := bp_e h
  obtain ⟨s6, hc, h⟩ := bp_e h
  obtain ⟨s7, hc, h⟩ := bp_e h
  obtain ⟨s8, hc, h⟩ := bp_e h
  unfold f_X5_clear at h
  rw [vl_q, bp_q, vl_q] at h
  cases h
  rw [sI1, if_pos rfl, if_pos rfl]
theorem C_chart (hN : 300000 ≤ N) : callE (fun σ => f_X11_chart N σ) (fun τ => f_X12_chart N τ) := fun σ τ hi => by
  obtain ⟨S, u, top, H, hs⟩ := id hi
  obtain ⟨k1, k2, k3, k45, k6, k7, k8, k9, kb⟩ := id hs
  obtain ⟨n, B, hT⟩ := k3
  have hP := k1.2.2.2.2.2.2.2
  have rB4 : ∀ l, l < 8 → 3 ≤ rr 4 l ∧ rr 4 l < 26 := fun l hl => by rw [r45.1 l hl]; omega
  have rB5 : ∀ l, l < 4 → 3 ≤ rr 5 l ∧ rr 5 l < 26 := fun l hl => by rw [r45.2 l hl]; omega
  have m2 : ∀ b, 3 ≤ b → b < 26 → reg b ∉ [0, 1, 3] := by
    have : ∀ b, b < 26 → 3 ≤ b → reg b ∉ [0, 1, 3] := by decide +kernel
    exact fun b h1 h2 => this b h2 h1
  rcases k_chart (N := N) (by omega) hT k6 k7 k8 hP.2.1 hP.2.2.1 with ⟨r, σ', τ', e1, e2, ⟨f1, f2, f3⟩, n12, F', F, z0, D⟩ | ⟨r, σ', τ', S', e1, e2, ⟨f1, f2, f3⟩, K1, nm, hi0, ⟨p0, p1⟩, rv, D, tr, z0⟩
  · have G := fm_X12_chart (R := [0, 2, 3, 4, 5, 11, 12, 13, 14, 15, 16, 17, 18, 19, 20, 21, 24]) (by decide) e2
    have g24 : τ'.1 206 24 = τ.1 206 24 := by
      rcases p_read24 (N := N) (by omega) hT k6 k7 with ⟨σ2, τ2, r2, a1, a2, a3⟩ | ⟨σ2, a1⟩
      · cases e2.symm.trans a2; exact a3
      · rcases p_readChart (N := N) (by omega) hT k6 k7 with ⟨σ3, τ3, w, a, b1, -⟩ | ⟨σ3, τ3, h3, g3, x3, b1, b2, D3, -⟩
        · exact absurd (congrArg Prod.fst (Option.some.inj (a1.symm.trans b1))) (show ¬ nI 1 = nI 0 by decide)
        · obtain ⟨rN, eN, R8, oN, o206, o24, lN, n11⟩ := m_chK (N := N) (by omega) D3.1.1
          cases (e2.symm.trans b2).trans eN
          rw [o24, hP.2.2.2.2.1, ← hP.2.2.2.1, (F 75 (by decide)).1, ch_75 e1 a1]
    have K1 := KRel_5 (KRel_m k1 (F' 208 (by decide)).1.symm g24 (F' 213 (by decide)).1.symm) F (by decide) (by decide) (fun k hk => by simp only [List.mem_cons, List.mem_nil_iff, or_false]; omega)
    exact ⟨r, σ', τ', e1, e2, S, u, top, H, K1, MRel_t k2 f1 (Q0_chart e1) F' G (by decide) (by decide) (by decide) (fun k hk => by unfold m12 at hk; simp only [List.mem_cons, List.mem_nil_iff, or_false]; omega), TapR_0 f2 f3, ⟨NmR_g k45.1 k1.2.1.1 rB4 (fun b h1 h2 => (F b (m2 b h1 h2)).2.symm) (fun l hl => n12 _ (by omega)), NmR_g k45.2 k1.2.1.2.1 rB5 (fun b h1 h2 => (F b (m2 b h1 h2)).2.symm) (fun l hl => n12 _ (by omega))⟩, RvR_k (F' 212 (by decide)).2.symm k6, D, fun l hl => Trs_g (F _ (m2 _ (by omega) (by omega))).1.symm (F _ (m2 _ (by omega) (by omega))).1.symm (k8 l hl), ⟨_, _, SpR_g k9.choose_spec.choose_spec.1 (Fr_S F (by decide)) (fun j _ _ => by rw [(F' 208 (by decide)).1]), k9.choose_spec.choose_spec.2⟩, ImR_k (Fr_I F (by decide) (by decide)) (F' 222 (by decide)).1.symm (F' 223 (by decide)).2.symm (F' 224 (by decide)).1.symm kb⟩
  · have F := fr_X11_chart (R := [0, 1, 2, 3, 4, 6, 9]) (by decide) e1
    have F' := fr_X12_chart (R := [206, 208, 209, 211]) (by decide) e2
    have G := fm_X12_chart (R := [0, 2, 3, 4, 5, 11, 12, 13, 14, 15, 16, 17, 18, 19, 20, 21, 24]) (by decide) e2
    exact ⟨r, σ', τ', e1, e2, S', 0, top, _, K1, MRel_t k2 f1 (Q0_chart e1) F' G (by decide) (by decide) (by decide) (fun k hk => by unfold m12 at hk; simp only [List.mem_cons, List.mem_nil_iff, or_false]; omega), TapR_0 f2 f3, nm, rv, D, tr, ⟨0, fun _ => 0, ⟨⟨0, p0, by decide, by decide⟩, p1, by rw [K1.1 178 (by decide), hi0 178 (by decide)], by decide, fun _ h => absurd h (Nat.not_lt_zero _)⟩, Or.inl rfl⟩, ImR_k (Fr_I F (by decide) (by decide)) (F' 222 (by decide)).1.symm (F' 223 (by decide)).2.symm (F' 224 (by decide)).1.symm kb⟩
end Calls
