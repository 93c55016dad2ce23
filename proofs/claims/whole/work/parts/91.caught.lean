abbrev mL_light : MI := (yL_light, cL_light, 5, (some .int))
abbrev mL_mean : MI := (yL_mean, cL_mean, 4, (some .int))
theorem mv_L_7 : Mv RL 7 mX11_light 2 10 := ⟨mw_X11_light, tb_6 105 (by decide +kernel) (by decide +kernel), tb_6 106 (by decide +kernel) (by decide +kernel), tb_6 107 (by decide +kernel) (by decide +kernel), _, _, rfl⟩
theorem mv_L_15 : Mv RL 15 mX11_mean 1 10 := ⟨mw_X11_mean, tb_6 175 (by decide +kernel) (by decide +kernel), tb_6 176 (by decide +kernel) (by decide +kernel), tb_6 177 (by decide +kernel) (by decide +kernel), _, _, rfl⟩
theorem qL_light_0 : Dc mL_light 0 (.aload_n 3) 1 1 := ⟨by decide +kernel, rfl⟩
theorem qL_light_1 : Dc mL_light 1 (.iconst 0) 1 2 := ⟨by decide +kernel, rfl⟩
theorem qL_light_2 : Dc mL_light 2 (.aload_n 0) 1 3 := ⟨by decide +kernel, rfl⟩
theorem qL_light_3 : Dc mL_light 3 (.iload_n 1) 1 4 := ⟨by decide +kernel, rfl⟩
theorem qL_light_4 : Dc mL_light 4 (.iload_n 2) 1 5 := ⟨by decide +kernel, rfl⟩
theorem qL_light_5 : Dc mL_light 5 (.invokevirtual 7) 3 8 := ⟨by decide +kernel, rfl⟩
theorem qL_light_8 : Dc mL_light 8 (.i2l) 1 9 := ⟨by decide +kernel, rfl⟩
theorem qL_light_9 : Dc mL_light 9 (.lastore) 1 10 := ⟨by decide +kernel, rfl⟩
theorem qL_light_10 : Dc mL_light 10 (.goto 7) 3 13 := ⟨by decide +kernel, rfl⟩
theorem qL_light_13 : Dc mL_light 13 (.astore 4) 2 15 := ⟨by decide +kernel, rfl⟩
theorem qL_light_15 : Dc mL_light 15 (.iconst 1) 1 16 := ⟨by decide +kernel, rfl⟩
theorem qL_light_16 : Dc mL_light 16 (.ireturn) 1 17 := ⟨by decide +kernel, rfl⟩
theorem qL_light_17 : Dc mL_light 17 (.iconst 0) 1 18 := ⟨by decide +kernel, rfl⟩
theorem qL_light_18 : Dc mL_light 18 (.ireturn) 1 19 := ⟨by decide +kernel, rfl⟩
theorem qL_mean_0 : Dc mL_mean 0 (.aload_n 2) 1 1 := ⟨by decide +kernel, rfl⟩
theorem qL_mean_1 : Dc mL_mean 1 (.iconst 0) 1 2 := ⟨by decide +kernel, rfl⟩
theorem qL_mean_2 : Dc mL_mean 2 (.aload_n 0) 1 3 := ⟨by decide +kernel, rfl⟩
theorem qL_mean_3 : Dc mL_mean 3 (.iload_n 1) 1 4 := ⟨by decide +kernel, rfl⟩
theorem qL_mean_4 : Dc mL_mean 4 (.invokevirtual 15) 3 7 := ⟨by decide +kernel, rfl⟩
theorem qL_mean_7 : Dc mL_mean 7 (.i2l) 1 8 := ⟨by decide +kernel, rfl⟩
theorem qL_mean_8 : Dc mL_mean 8 (.lastore) 1 9 := ⟨by decide +kernel, rfl⟩
theorem qL_mean_9 : Dc mL_mean 9 (.goto 6) 3 12 := ⟨by decide +kernel, rfl⟩
theorem qL_mean_12 : Dc mL_mean 12 (.astore_n 3) 1 13 := ⟨by decide +kernel, rfl⟩
theorem qL_mean_13 : Dc mL_mean 13 (.iconst 1) 1 14 := ⟨by decide +kernel, rfl⟩
theorem qL_mean_14 : Dc mL_mean 14 (.ireturn) 1 15 := ⟨by decide +kernel, rfl⟩
theorem qL_mean_15 : Dc mL_mean 15 (.iconst 0) 1 16 := ⟨by decide +kernel, rfl⟩
theorem qL_mean_16 : Dc mL_mean 16 (.ireturn) 1 17 := ⟨by decide +kernel, rfl⟩
theorem shq_225 : sh 225 = 23 := by decide +kernel
theorem lnq_225 : ln 225 = 1 := by decide +kernel
/-! the law's own light and mean: they catch what the class throws -/
theorem l_ck : Cond.classLink RL 13 NSE ∈ tb := tb_6 104 (by decide +kernel) (by decide +kernel)
def hhL : List (Nat × Nat × Nat × Nat) := [(0, 10, 13, 13)]
def hhM : List (Nat × Nat × Nat × Nat) := [(0, 9, 12, 13)]
abbrev wsL (μ : MI) (hh : List (Nat × Nat × Nat × Nat)) : List Cond := .codeWith μ.1 μ.2.1 μ.2.2.1 μ.2.2.2 hh :: tb
theorem W_callX {p : Program} {l : Launch} {e : Env} {R : Room} {s : State} {m : MethodId} {args : Array Value} {below : List Frame} {meth : Method} {c : Code} {H : Heap} {locs : List Loc} {cells slots : Nat} {Q : State → Prop} {D : va_G} {dA : Nat → ClassId} {ad : Nat → Nat} {A : Nat → Prop} {mc ms : Nat} {σ1 : St} {pc : Nat} {ls : Array Slot} {st0 rest : List Value}
    (hr : vx_Run p l e R s m args below meth c H locs cells slots mc ms (F0 m pc ls st0) rest (fun _ _ _ => False) (XCn D dA ad σ1) (AW ad)) (hAA : ∀ q, AW ad q → A q) (hS : va_S A s.heap H locs)
    (kx : ∀ (ce : Cell) (q : Addr) (H1 : Heap) (locs1 : List Loc), va_P D vwCl (wld ad dA σ1) H1 → va_S A s.heap H1 locs1 → H1[q]? = some ce → ce.vm = .none → s.vm.findClass NSE = some ce.cls → vx_W p l e R s m args below meth c H1 locs1 (cells + mc) (slots + ms) Q (F0 m pc ls rest) q) : W p l e R s m args below meth c H locs cells slots Q (F0 m pc ls st0) := by
  intro T hT X
  rcases hr T hT X with ⟨v, st₀, t, T', L, h0, X', hL, e1, e2, hF, st⟩ | ⟨q, st₀, t, T', L, E, ce, h0, X', hL, e1, e2, ⟨hE, hp, hz, hk⟩, hce, hcv, hcl, st⟩
  · exact hF.elim
  · subst hE
    rw [h0] at hz hk
    obtain ⟨t2, a1, b1⟩ := kx ce q T'.heap (locs ++ L) (by rw [e1]; exact hp)
      ⟨Nat.le_trans hS.1 (by rw [e1]; exact hz), fun q h1 h2 => by rw [e1, hk q (Nat.lt_of_lt_of_le h1 hS.1) (fun z => h2 (hAA _ z))]; exact hS.2.1 q h1 h2, fun q hq => by
        rcases List.mem_append.mp hq with h | h
        · exact hS.2.2 q h
        · exact hAA _ (hL q h)⟩ (by rw [e1]; exact hce) hcv hcl T' rfl X'
    exact ⟨t2, st.trans a1, b1⟩
/-- the head of a body with a table: what the walk needs of its entry -/
theorem lM_of {μ : MI} {hh : List (Nat × Nat × Nat × Nat)} {d : Nat} {av : List Value} {σ : St} {Z : Option Value × St} (l : Launch) (D : va_G) (dA : Nat → ClassId) (ad : Nat → Nat) (hy : plainName μ.1.cls = true) (hlen : Nat.ble ((lg_sl av).length) μ.2.2.1 = true)
    (k : ∀ (p : Program) (e : Env) (s : State) (m : MethodId) (args : Array Value) (below : List Frame) (meth : Method) (c : Code), Ctx μ d p (rm1 d) s m args meth c D dA ad → VZ (AW ad) s s.heap → Nx s → c.exceptionTable.toList = tableOf hh → meth.sig.returnType = μ.2.2.2 → ∀ (ls : Array Slot), va_P D vwCl (wld ad dA σ) s.heap → lvs ls μ.2.2.1 (trL ad (lv0 μ.2.2.1 av)) → W p l e (rm1 d) s m args below meth c s.heap [] 0 0 (MQ below (Qx D dA ad Z) args s 1 6 (AW ad)) (F0 m 0 ls [])) : Met l μ.1 (wsL μ hh) (rm1 d) (va_Pc (av.map (tr ad)) (PreX D dA ad σ)) (Qx D dA ad Z) 1 6 (AW ad) := by
  refine va_MetW (cc := μ.2.1) (maxL := μ.2.2.1) (ret := μ.2.2.2) (hh := hh) hy rfl ?_
  intro p e s m args below meth c s₁ B hml hv
  obtain ⟨hargs, ⟨hP, hK, hJ, hSt, hN⟩, hV, hX⟩ := hv
  have hts : ∀ w ∈ wsL μ hh, w.before args s = true := atoms_spec (ws := wsL μ hh) B.pre
  have hts2 : ∀ w ∈ tb, w.before args s = true := fun w hw => hts w (List.mem_cons_of_mem _ hw)
  have hown : s.vm.findClass μ.1.cls = some m.cls := findClass_of_methodNamed B.named
  have e1 : (lg_sl (av.map (tr ad))).length = (lg_sl av).length := by
    simp only [lg_sl]
    clear hargs hlen k
    induction av with
    | nil => rfl
    | cons v t ih =>
      simp only [List.map_cons, List.flatMap_cons, List.length_append, ih, tr_cat]
      split <;> rfl
  have hlvs := lv0_at (vs := av.map (tr ad)) (nL := μ.2.2.1) (by rw [e1]; exact Nat.le_of_ble_eq_true hlen)
  rw [← lv0_tr] at hlvs
  have hent : entryFrame m args μ.2.2.1 = F0 m 0 ((lg_sl (av.map (tr ad)) ++ List.replicate (μ.2.2.1 - (lg_sl (av.map (tr ad))).length) Slot.unset).toArray) [] := by
    rw [hargs]; exact lg_entry_eq m _ _
  rw [hent]
  exact k p e s m args below meth c ⟨B.exec, B.bytes, hown, hts2, hK, hJ, hSt, hN, hml, B.notSynchronized, Nat.le_refl _, Nat.le_refl _⟩ hV hX (vx_table (x := μ.1) B (hts _ List.mem_cons_self)) B.returns _ hP hlvs
/-- it answers: the walk is the ordinary one -/
theorem lM_ans {μ : MI} {hh : List (Nat × Nat × Nat × Nat)} {d : Nat} {av : List Value} {σ σ1 : St} {r : Int32} (l : Launch) (D : va_G) (dA : Nat → ClassId) (ad : Nat → Nat) (hy : plainName μ.1.cls = true) (hlen : Nat.ble ((lg_sl av).length) μ.2.2.1 = true)
    (k : E μ d (some (.int r), σ1) 0 (lv0 μ.2.2.1 av) [] σ) : Met l μ.1 (wsL μ hh) (rm1 d) (va_Pc (av.map (tr ad)) (PreX D dA ad σ)) (Qx D dA ad (some (.int r), σ1)) 1 6 (AW ad) := by
  refine lM_of l D dA ad hy hlen ?_
  intro p e s m args below meth c X hV hX ht hret ls hP hl
  refine k p l e (rm1 d) s m args below meth c D dA ad _ X ?_ s.heap [] ls hP va_S.rf hl
  intro H locs ls pc hP1 hS1
  rintro hd ⟨ty, hty, hn⟩
  exact W.widen (k := 1) (n := 6) (by omega) (by omega) (W.zret X.1 X.2.1 (hret.trans hty) hn (fun t ht hW => ⟨⟨rfl, by rw [ht]; exact hP1⟩, hS1.F ht⟩) hS1.2.2 hd X.2.2.2.2.2.2.2.2.2.1)
theorem lA_light {σ : St} {x y r : Int32} (h : f_X11_light x y σ = some r) (l : Launch) (D : va_G) (dA : Nat → ClassId) (ad : Nat → Nat) : Met l mL_light.1 (wsL mL_light hhL) (rm1 9) (va_Pc ([.ref 0, .int x, .int y, .ref 225].map (tr ad)) (PreX D dA ad σ)) (Qx D dA ad (some (.int (nI 0)), sL σ 225 0 r.toInt64)) 1 6 (AW ad) := by
  refine lM_ans l D dA ad (by decide +kernel) rfl ?_
  show E mL_light 9 _ 0 [some (.ref 0), some (.int x), some (.int y), some (.ref 225), none] [] σ
  refine e_aload_n qL_light_0 rfl ?_
  refine e_iconst (nI 0) qL_light_1 (by decide +kernel) ?_
  refine e_aload_n qL_light_2 rfl ?_
  refine e_iload_n qL_light_3 rfl ?_
  refine e_iload_n qL_light_4 rfl ?_
  refine e_cVi2 qL_light_5 mv_L_7 shq_0 rfl rfl (w_X11_light h) ?_
  refine e_i2l qL_light_8 ?_
  refine e_last (K := fun τ => some τ) (r := sL σ 225 0 r.toInt64) qL_light_9 shq_225 lnq_225 rfl (fun τ hτ => ?_)
  cases hτ
  refine e_goto (tgt := 17) qL_light_10 (by decide) ?_
  refine e_iconst (nI 0) qL_light_17 (by decide +kernel) ?_
  exact e_iret qL_light_18 rfl rfl
theorem lT_light {σ : St} {x y : Int32} {v : Int32} (h : f_X11_isLight x σ = some v) (hc : v = 0 ∨ (v ≠ 0 ∧ y < 0) ∨ (v ≠ 0 ∧ ¬ y < 0 ∧ ¬ y ≤ nI 10)) (l : Launch) (hl : l.stackTraces = false) (D : va_G) (dA : Nat → ClassId) (ad : Nat → Nat) : Met l mL_light.1 (wsL mL_light hhL) (rm1 9) (va_Pc ([.ref 0, .int x, .int y, .ref 225].map (tr ad)) (PreX D dA ad σ)) (Qx D dA ad (some (.int (nI 1)), σ)) 1 6 (AW ad) := by
  refine lM_of l D dA ad (by decide +kernel) rfl ?_
  intro p e s m args below meth c X hV hX ht hret ls hP hl0
  have hg : EG (fun _ _ _ => True) mL_light 9 (5, [some (.ref 0), some (.int x), some (.int y), some (.ref 225), none], [.int y, .int x, .ref 0, .int (nI 0), .ref 225], σ) 0 [some (.ref 0), some (.int x), some (.int y), some (.ref 225), none] [] σ := by
    refine g_aload_n qL_light_0 rfl ?_
    refine g_iconst (nI 0) qL_light_1 (by decide +kernel) ?_
    refine g_aload_n qL_light_2 rfl ?_
    refine g_iload_n qL_light_3 rfl ?_
    refine g_iload_n qL_light_4 rfl ?_
    exact g_end rfl
  obtain ⟨hx, hb, hown, hts, hK, hJ, hSt, hN, hml, hlk, hR1, hR2⟩ := id X
  refine hg p l e (rm1 9) s m args below meth c D dA ad (AW ad) 0 0 _ ⟨hx, hb, hown, hts, hK, hJ, hSt, hN, hml, hlk, hR1, hR2, fun _ h => h, trivial⟩ ⟨Nat.zero_le _, Nat.zero_le _⟩ ?_ s.heap [] ls hP va_S.rf hl0
  intro H locs ls hP1 hS1 hl1
  obtain ⟨hm, hlk1, hin1, hse1, T', N', hc9⟩ := mv_L_7
  have hD : decode mL_light.2.1 5 = .ok (.invokevirtual 7, 3) := qL_light_5.1
  refine W_callX (ad := ad) (σ1 := σ) (mc := 1) (ms := 6) (vx_runV (As := [.int x, .int y]) (rest := ([.int (nI 0), .ref 225] : List Value).map (tr ad)) ⟨hx, hb, hml, hown, hts⟩ (vM_light h hc l hl D dA ad) ⟨callB_X hts hm hlk1 (d := 9) rfl hR1 hR2, hts _ hin1, hts _ hse1⟩ ⟨preX_blind, va_recv hK hP1 hc9 (ent_at (i := 0) shq_0 (ci_lt hc9)), fun U hU hW => preX_at (av := ([.ref 0] ++ [.int x, .int y] : List Value).map (tr ad)) hP1 hK hJ hSt hN hV hX (fun _ h => h) hS1 hU hW⟩ rfl rfl (by show ls.size = _; rw [hl1.2.1]) rfl (stc (st := [.int (nI 0), .ref 225]) rfl) hD ⟨Nat.le_refl _, Nat.le_refl _⟩) (fun _ h => h) hS1 (fun ce q H1 locs1 hP2 hS2 hce hcv hcl => ?_)
  refine vx_catch (own := RL) (name := NSE) (E := NSE) hown [] (tableOf hhL).head! [] (by rw [ht]; decide) (fun z hz => nomatch hz) (show covers (tableOf hhL).head! 5 = true by decide) (by decide) (hts _ l_ck) (hX.use _ (List.mem_cons_of_mem _ (List.mem_cons_of_mem _ (List.mem_cons_of_mem _ List.mem_cons_self)))) hce hcv hcl ?_
  show W p l e (rm1 9) s m args below meth c H1 locs1 (0 + 1) (0 + 6) _ (F0 m 13 ls [.ref q])
  refine lv_astore hx hb qL_light_13.1 hl1.has (by decide) rfl (fun ls2 h2 => ?_)
  refine lv_iconst (v := nI 1) hx hb qL_light_15.1 (by decide +kernel) ?_
  exact W.zret hx hb (hret.trans rfl) (ty := .int) rfl (fun t ht hW => ⟨⟨rfl, by rw [ht]; exact hP2⟩, hS2.F ht⟩) hS2.2.2 qL_light_16.1 hlk
theorem lA_mean {N : Nat} {σ : St} {x r : Int32} (h : f_X11_mean N x σ = some r) (l : Launch) (D : va_G) (dA : Nat → ClassId) (ad : Nat → Nat) : Met l mL_mean.1 (wsL mL_mean hhM) (rm1 9) (va_Pc ([.ref 0, .int x, .ref 225].map (tr ad)) (PreX D dA ad σ)) (Qx D dA ad (some (.int (nI 0)), sL σ 225 0 r.toInt64)) 1 6 (AW ad) := by
  refine lM_ans l D dA ad (by decide +kernel) rfl ?_
  show E mL_mean 9 _ 0 [some (.ref 0), some (.int x), some (.ref 225), none] [] σ
  refine e_aload_n qL_mean_0 rfl ?_
  refine e_iconst (nI 0) qL_mean_1 (by decide +kernel) ?_
  refine e_aload_n qL_mean_2 rfl ?_
  refine e_iload_n qL_mean_3 rfl ?_
  refine e_cVi1 qL_mean_4 mv_L_15 shq_0 rfl rfl (w_X11_mean h) ?_
  refine e_i2l qL_mean_7 ?_
  refine e_last (K := fun τ => some τ) (r := sL σ 225 0 r.toInt64) qL_mean_8 shq_225 lnq_225 rfl (fun τ hτ => ?_)
  cases hτ
  refine e_goto (tgt := 15) qL_mean_9 (by decide) ?_
  refine e_iconst (nI 0) qL_mean_15 (by decide +kernel) ?_
  exact e_iret qL_mean_16 rfl rfl
theorem lT_mean {σ : St} {x : Int32} (hc : σ.1 3 2 = 0 ∨ (σ.1 3 2 ≠ 0 ∧ x < 0) ∨ (σ.1 3 2 ≠ 0 ∧ ¬ x < 0 ∧ ¬ x ≤ nI 1)) (l : Launch) (hl : l.stackTraces = false) (D : va_G) (dA : Nat → ClassId) (ad : Nat → Nat) : Met l mL_mean.1 (wsL mL_mean hhM) (rm1 9) (va_Pc ([.ref 0, .int x, .ref 225].map (tr ad)) (PreX D dA ad σ)) (Qx D dA ad (some (.int (nI 1)), σ)) 1 6 (AW ad) := by
  refine lM_of l D dA ad (by decide +kernel) rfl ?_
  intro p e s m args below meth c X hV hX ht hret ls hP hl0
  have hg : EG (fun _ _ _ => True) mL_mean 9 (4, [some (.ref 0), some (.int x), some (.ref 225), none], [.int x, .ref 0, .int (nI 0), .ref 225], σ) 0 [some (.ref 0), some (.int x), some (.ref 225), none] [] σ := by
    refine g_aload_n qL_mean_0 rfl ?_
    refine g_iconst (nI 0) qL_mean_1 (by decide +kernel) ?_
    refine g_aload_n qL_mean_2 rfl ?_
    refine g_iload_n qL_mean_3 rfl ?_
    exact g_end rfl
  obtain ⟨hx, hb, hown, hts, hK, hJ, hSt, hN, hml, hlk, hR1, hR2⟩ := id X
  refine hg p l e (rm1 9) s m args below meth c D dA ad (AW ad) 0 0 _ ⟨hx, hb, hown, hts, hK, hJ, hSt, hN, hml, hlk, hR1, hR2, fun _ h => h, trivial⟩ ⟨Nat.zero_le _, Nat.zero_le _⟩ ?_ s.heap [] ls hP va_S.rf hl0
  intro H locs ls hP1 hS1 hl1
  obtain ⟨hm, hlk1, hin1, hse1, T', N', hc9⟩ := mv_L_15
  have hD : decode mL_mean.2.1 4 = .ok (.invokevirtual 15, 3) := qL_mean_4.1
  refine W_callX (ad := ad) (σ1 := σ) (mc := 1) (ms := 6) (vx_runV (As := [.int x]) (rest := ([.int (nI 0), .ref 225] : List Value).map (tr ad)) ⟨hx, hb, hml, hown, hts⟩ (vM_mean hc l hl D dA ad) ⟨callB_X hts hm hlk1 (d := 9) rfl hR1 hR2, hts _ hin1, hts _ hse1⟩ ⟨preX_blind, va_recv hK hP1 hc9 (ent_at (i := 0) shq_0 (ci_lt hc9)), fun U hU hW => preX_at (av := ([.ref 0] ++ [.int x] : List Value).map (tr ad)) hP1 hK hJ hSt hN hV hX (fun _ h => h) hS1 hU hW⟩ rfl rfl (by show ls.size = _; rw [hl1.2.1]) rfl (stc (st := [.int (nI 0), .ref 225]) rfl) hD ⟨Nat.le_refl _, Nat.le_refl _⟩) (fun _ h => h) hS1 (fun ce q H1 locs1 hP2 hS2 hce hcv hcl => ?_)
  refine vx_catch (own := RL) (name := NSE) (E := NSE) hown [] (tableOf hhM).head! [] (by rw [ht]; decide) (fun z hz => nomatch hz) (show covers (tableOf hhM).head! 4 = true by decide) (by decide) (hts _ l_ck) (hX.use _ (List.mem_cons_of_mem _ (List.mem_cons_of_mem _ (List.mem_cons_of_mem _ List.mem_cons_self)))) hce hcv hcl ?_
  show W p l e (rm1 9) s m args below meth c H1 locs1 (0 + 1) (0 + 6) _ (F0 m 12 ls [.ref q])
  refine lv_astore_n hx hb qL_mean_12.1 rfl hl1.has (by decide) rfl (fun ls2 h2 => ?_)
  refine lv_iconst (v := nI 1) hx hb qL_mean_13.1 (by decide +kernel) ?_
  exact W.zret hx hb (hret.trans rfl) (ty := .int) rfl (fun t ht hW => ⟨⟨rfl, by rw [ht]; exact hP2⟩, hS2.F ht⟩) hS2.2.2 qL_mean_14.1 hlk
