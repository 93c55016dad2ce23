/-! the law's loop -/
theorem callSW_L {ν : MI} {hh : List (Nat × Nat × Nat × Nat)} {n idx : Nat} {R : Room} {s : State} {args : Array Value} (hts : ∀ w ∈ tb, w.before args s = true) (h1 : Cond.codeWith ν.1 ν.2.1 ν.2.2.1 ν.2.2.2 hh ∈ tb) (h2 : Cond.initialized ν.1.cls ∈ tb) (h3 : ν.1.cls ≠ "java/lang/invoke/MethodHandle" ∧ ν.1.cls ≠ "java/lang/invoke/VarHandle") (h4 : ∀ sig, parseMethodDescriptor ν.1.desc = some sig → n = sig.parameters.length) (h5 : ν.2.2.1 ≤ 21) (h6 : Cond.methodLink RL idx ν.1 ∈ tb) (h7 : Cond.static ν.1 ∈ tb) (hR1 : 2000 ≤ R.frames) (hR2 : 40 * 2000 ≤ R.locals) : vx_CSW R s args RL idx ν.1 ν.2.1 ν.2.2.1 ν.2.2.2 hh (wsL ν hh) (rm1 9) 1 6 n := by
  have e1 : (rm1 9).frames = 9 := rfl
  have e2 : (rm1 9).locals = 360 := rfl
  have hm : ∀ w ∈ wsL ν hh, w ∈ tb := fun w hw => (List.mem_cons.mp hw).elim (fun e => by rw [e]; exact h1) id
  exact ⟨⟨rfl, rfl, by omega, by omega, pay_in hts (fun w hw => ⟨hm w hw, (tb_good w (hm w hw)).2⟩), List.mem_cons_self⟩, hts _ h1, hts _ h2, h3, h4, hts _ h6, hts _ h7⟩
theorem cw_light {R : Room} {s : State} {args : Array Value} (hts : ∀ w ∈ tb, w.before args s = true) (hR1 : 2000 ≤ R.frames) (hR2 : 40 * 2000 ≤ R.locals) : vx_CSW R s args RL 42 mL_light.1 mL_light.2.1 mL_light.2.2.1 mL_light.2.2.2 hhL (wsL mL_light hhL) (rm1 9) 1 6 4 := callSW_L hts (tb_6 103 (by decide +kernel) (by decide +kernel)) (tb_1 0 (by decide +kernel) (by decide +kernel)) (by decide +kernel) (mw_sig (by decide +kernel)) (by decide) (tb_6 101 (by decide +kernel) (by decide +kernel)) (tb_6 102 (by decide +kernel) (by decide +kernel)) hR1 hR2
theorem cw_mean {R : Room} {s : State} {args : Array Value} (hts : ∀ w ∈ tb, w.before args s = true) (hR1 : 2000 ≤ R.frames) (hR2 : 40 * 2000 ≤ R.locals) : vx_CSW R s args RL 159 mL_mean.1 mL_mean.2.1 mL_mean.2.2.1 mL_mean.2.2.2 hhM (wsL mL_mean hhM) (rm1 9) 1 6 3 := callSW_L hts (tb_6 174 (by decide +kernel) (by decide +kernel)) (tb_1 0 (by decide +kernel) (by decide +kernel)) (by decide +kernel) (mw_sig (by decide +kernel)) (by decide) (tb_6 172 (by decide +kernel) (by decide +kernel)) (tb_6 173 (by decide +kernel) (by decide +kernel)) hR1 hR2
section Static
variable {p : Program} {l : Launch} {e : Env} {R : Room} {s : State} {m : MethodId} {args : Array Value} {below : List Frame} {meth : Method} {c : Code} {H : Heap} {locs : List Loc} {cells slots : Nat} {Q : State → Prop} {D : va_G} {dA : Nat → ClassId} {ad : Nat → Nat} {A : Nat → Prop} {L : Nat} {xs : Nat → Int32}
theorem W_static {ν : MI} {hh : List (Nat × Nat × Nat × Nat)} {idx pc nn : Nat} {av : List Value} {σ σ1 : St} {r : Int32} {ls : Array Slot} {lv : List (Option Value)} (X : GCtx (E0L L xs) mL_law 2000 p R s m args meth c D dA ad A) (hV : VZ A s s.heap) (hXn : Nx s) (hM : Met l ν.1 (wsL ν hh) (rm1 9) (va_Pc (av.map (tr ad)) (PreX D dA ad σ)) (Qx D dA ad (some (.int r), σ1)) 1 6 (AW ad)) (cw : vx_CSW R s args RL idx ν.1 ν.2.1 ν.2.2.1 ν.2.2.2 hh (wsL ν hh) (rm1 9) 1 6 nn) (hn : av.length = nn) (hd : decode mL_law.2.1 pc = .ok (.invokestatic idx, 3)) (hf : cells + 1 ≤ R.cells ∧ slots + 6 ≤ R.slots) (hP : va_P D vwCl (wld ad dA σ) H) (hS : va_S A s.heap H locs) (hl : lvs ls mL_law.2.2.1 (trL ad lv))
    (kk : ∀ (H1 : Heap) (locs1 : List Loc), va_P D vwCl (wld ad dA σ1) H1 → va_S A s.heap H1 locs1 → W p l e R s m args below meth c H1 locs1 (cells + 1) (slots + 6) Q (F0 m (pc + 3) ls [.int r])) : W p l e R s m args below meth c H locs cells slots Q (F0 m pc ls (av.reverse.map (tr ad))) := by
  obtain ⟨hx, hb, hown, hts, hK, hJ, hSt, hN, hml, hlk, hR1, hR2, hAA, hE0⟩ := id X
  exact W_callG (mc := 1) (ms := 6) (ad := ad) (dA := dA) (D := D) (σ1 := σ1) (rv := some (.int r)) (vx_runSW (Qc := Qx D dA ad (some (.int r), σ1)) (As := av.map (tr ad)) (rest := []) ⟨hx, hb, hml, hown, hts⟩ hM cw ⟨preX_blind, fun U hU hW => preX_at (av := av.map (tr ad)) hP hK hJ hSt hN hV hXn hAA hS hU hW⟩ rfl (by rw [List.length_map]; exact hn) (by show ls.size = _; rw [hl.2.1]) (by show av.reverse.map (tr ad) = (av.map (tr ad)).reverse ++ []; rw [List.append_nil, List.map_reverse]) (stc (ad := ad) (st := []) rfl) hd hf) hAA hS (fun H1 locs1 hP1 hS1 => kk H1 locs1 hP1 hS1)
end Static
section Loop
variable {p : Program} {l : Launch} {e : Env} {s : State} {m : MethodId} {args : Array Value} {below : List Frame} {meth : Method} {c : Code} {Q : State → Prop} {D : va_G} {dA : Nat → ClassId} {ad : Nat → Nat} {B L : Nat} {xs : Nat → Int32}
theorem law_loop (X : GCtx (E0L L xs) mL_law 2000 p room_1 s m args meth c D dA ad (AB B)) (hV : VZ (AB B) s s.heap) (hXn : Nx s) (hl0 : l.stackTraces = false) (hL : L ≤ 3072)
    (hend : ∀ (H : Heap) (locs : List Loc) (ls : Array Slot) (k : Nat), k ≤ 600 → va_S (AB B) s.heap H locs → W p l e room_1 s m args below meth c H locs (226 + k) (11053 + 6 * k) Q (F0 m 1437 ls [.int (nI 1)])) :
    ∀ (n i k : Nat) (σ : St), L < i + 6 * n → i ≤ L → 6 * k ≤ i → Inv σ σ → ∀ (H : Heap) (locs : List Loc) (ls : Array Slot), va_P D vwCl (wld ad dA σ) H → va_S (AB B) s.heap H locs → lvs ls mL_law.2.2.1 (trL ad (lvl i)) → W p l e room_1 s m args below meth c H locs (226 + k) (11053 + 6 * k) Q (F0 m 23 ls []) := by
  have r1 : room_1.cells = 601024 := rfl
  have r2 : room_1.slots = 7293034 := rfl
  have hts : ∀ w ∈ tb, w.before args s = true := X.2.2.2.1
  have hR1 : 2000 ≤ room_1.frames := Nat.le_of_ble_eq_true rfl
  have hR2 : 40 * 2000 ≤ room_1.locals := Nat.le_of_ble_eq_true rfl
  intro n
  induction n with
  | zero => intro i k σ h1 h2; omega
  | succ n ih =>
    intro i k σ h1 h2 hk hI H locs ls hP hS hl
    have hC : 226 + k ≤ room_1.cells ∧ 11053 + 6 * k ≤ room_1.slots := by omega
    have hC2 : 226 + k + 1 ≤ room_1.cells ∧ 11053 + 6 * k + 6 ≤ room_1.slots := by omega
    by_cases hi : i + 6 ≤ L
    rotate_left
    · exact l_exit hi hL (by omega) p l e room_1 s m args below meth c D dA ad (AB B) _ _ Q X hC (fun H locs ls hP hS hl => hend H locs ls k (by omega) hS) H locs ls hP hS hl
    have ih2 : ∀ (σ : St), Inv σ σ → ∀ (H : Heap) (locs : List Loc) (ls : Array Slot), va_P D vwCl (wld ad dA σ) H → va_S (AB B) s.heap H locs → lvs ls mL_law.2.2.1 (trL ad (lvl (i + 6))) → W p l e room_1 s m args below meth c H locs (226 + k + 1) (11053 + 6 * k + 6) Q (F0 m 23 ls []) := fun σ i2 H locs ls hP hS hl => by
      have := ih (i + 6) (k + 1) σ (by omega) (by omega) (by omega) i2 H locs ls hP hS hl
      rw [show 226 + (k + 1) = 226 + k + 1 by omega, show 11053 + 6 * (k + 1) = 11053 + 6 * k + 6 by omega] at this
      exact this
    obtain ⟨j, hj, ej⟩ := pk_andE (xs i) (m := nI 63) 6 (by decide +kernel)
    by_cases h4 : j = 4
    · subst h4
      have g := l_pre hi hL (by rw [ej]; exact sA_light (σ := σ) hi hL)
      refine g p l e room_1 s m args below meth c D dA ad (AB B) _ _ Q X hC ?_ H locs ls hP hS hl
      intro H1 locs1 ls1 hP1 hS1 hl1
      rcases law_light (N := 300000) (Nat.le_refl _) (xs (i + 1)) (xs (i + 2)) hI with ⟨r, ζ2, e1, e2, ht, ho, i2⟩ | ⟨v, r, ζ2, hv, hc, e2, ht, i2⟩
      · refine W_static (av := [.ref 0, .int (xs (i + 1)), .int (xs (i + 2)), .ref 225]) X hV hXn (lA_light e1 l D dA ad) (cw_light hts hR1 hR2) rfl qL_law_370.1 hC2 hP1 hS1 hl1 (fun H2 locs2 hP2 hS2 => ?_)
        exact sB_light0 hi hL e2 ht ho p l e room_1 s m args below meth c D dA ad (AB B) _ _ Q X hC2 (fun H locs ls hP hS hl => ih2 ζ2 i2 H locs ls hP hS hl) H2 locs2 ls1 hP2 hS2 hl1
      · refine W_static (av := [.ref 0, .int (xs (i + 1)), .int (xs (i + 2)), .ref 225]) X hV hXn (lT_light hv hc l hl0 D dA ad) (cw_light hts hR1 hR2) rfl qL_law_370.1 hC2 hP1 hS1 hl1 (fun H2 locs2 hP2 hS2 => ?_)
        exact sB_light1 hi hL e2 ht p l e room_1 s m args below meth c D dA ad (AB B) _ _ Q X hC2 (fun H locs ls hP hS hl => ih2 ζ2 i2 H locs ls hP hS hl) H2 locs2 ls1 hP2 hS2 hl1
    by_cases h32 : j = 32
    · subst h32
      have g := l_pre hi hL (by rw [ej]; exact sA_mean (σ := σ) hi hL)
      refine g p l e room_1 s m args below meth c D dA ad (AB B) _ _ Q X hC ?_ H locs ls hP hS hl
      intro H1 locs1 ls1 hP1 hS1 hl1
      rcases law_mean (N := 300000) (Nat.le_refl _) (xs (i + 1)) hI with ⟨r, ζ2, e1, e2, ht, ho, i2⟩ | ⟨r, ζ2, hc, e2, ht, i2⟩
      · refine W_static (av := [.ref 0, .int (xs (i + 1)), .ref 225]) X hV hXn (lA_mean e1 l D dA ad) (cw_mean hts hR1 hR2) rfl qL_law_1083.1 hC2 hP1 hS1 hl1 (fun H2 locs2 hP2 hS2 => ?_)
        exact sB_mean0 hi hL e2 ht ho p l e room_1 s m args below meth c D dA ad (AB B) _ _ Q X hC2 (fun H locs ls hP hS hl => ih2 ζ2 i2 H locs ls hP hS hl) H2 locs2 ls1 hP2 hS2 hl1
      · refine W_static (av := [.ref 0, .int (xs (i + 1)), .ref 225]) X hV hXn (lT_mean hc l hl0 D dA ad) (cw_mean hts hR1 hR2) rfl qL_law_1083.1 hC2 hP1 hS1 hl1 (fun H2 locs2 hP2 hS2 => ?_)
        exact sB_mean1 hi hL e2 ht p l e room_1 s m args below meth c D dA ad (AB B) _ _ Q X hC2 (fun H locs ls hP hS hl => ih2 ζ2 i2 H locs ls hP hS hl) H2 locs2 ls1 hP2 hS2 hl1
    obtain ⟨σ2, i2, g⟩ := seg_all hi hL hI j hj h4 h32
    have g2 := l_pre hi hL (by rw [ej]; exact g)
    exact g2 p l e room_1 s m args below meth c D dA ad (AB B) _ _ Q X hC (fun H locs ls hP hS hl => ih (i + 6) k σ2 (by omega) (by omega) (by omega) i2 H locs ls hP hS hl) H locs ls hP hS hl
end Loop
