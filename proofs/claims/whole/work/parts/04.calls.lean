theorem W_callQ {p : Program} {l : Launch} {e : Env} {R : Room} {s : State} {m : MethodId} {args : Array Value} {below : List Frame} {meth : Method} {c : Code} {H : Heap} {locs : List Loc} {Q : State → Prop} {D : va_G} {dA : Nat → ClassId} {ad : Nat → Nat} {rv : Option Value} {σ1 : St} {pc : Nat} {ls : Array Slot} {st0 rest : List Value} {a : Array Value}
    (hr : va_Run p l e R s m args below meth c H locs 0 0 0 0 (F0 m pc ls st0) rest (Qx D dA ad (rv, σ1) a) (AW ad)) (hS : va_S (AW ad) s.heap H locs)
    (kk : ∀ (H1 : Heap) (locs1 : List Loc), va_P D vwCl (wld ad dA σ1) H1 → va_S (AW ad) s.heap H1 locs1 → W p l e R s m args below meth c H1 locs1 0 0 Q (F0 m (pc + 3) ls (rv.toList ++ rest))) : W p l e R s m args below meth c H locs 0 0 Q (F0 m pc ls st0) := by
  intro T hT X
  obtain ⟨v, st₀, t, T', L, h0, X', hL, e1, e2, ⟨⟨hv, hp⟩, hz, hk⟩, st⟩ := hr T hT X
  cases hv
  rw [h0] at hz hk
  obtain ⟨t2, a1, b1⟩ := kk T'.heap (locs ++ L) (by rw [e1]; exact hp)
    ⟨Nat.le_trans hS.1 (by rw [e1]; exact hz), fun q h1 h2 => by rw [e1, hk q (Nat.lt_of_lt_of_le h1 hS.1) h2]; exact hS.2.1 q h1 h2, fun q hq => by
      rcases List.mem_append.mp hq with h | h
      · exact hS.2.2 q h
      · exact hL q h⟩ T' rfl X'
  exact ⟨t2, st t2 a1, b1⟩
theorem preC_blind {D : va_G} {dA : Nat → ClassId} {ad : Nat → Nat} {σ : St} {av : List Value} : FrameBlind (va_Pc av (PreC D dA ad σ)) := fun a U g mk q => by
  obtain ⟨h1, h2, h3, h4, h5, h6⟩ := q
  exact ⟨h1, h2, va_K.moved (u := U) (U := U.calling g mk a) (Vm.Alike.refl U.vm) h3, h4, h5.moved (Vm.Alike.refl U.vm), Nst.same (s := U) (U := U.calling g mk a) rfl h6⟩
theorem preC_at {D : va_G} {dA : Nat → ClassId} {ad : Nat → Nat} {σ : St} {av : List Value} {s U : State} {H : Heap} {locs : List Loc} (hP : va_P D vwCl (wld ad dA σ) H) (hK : va_K D vwCl (tys dA) s) (hJ : Inj ad) (hSt : Sta (fun i => ad (1000 + i)) (AW ad) s s.heap) (hN : Nst ad s) (hS : va_S (AW ad) s.heap H locs) (hU : U.heap = H) (hW : s.WarmedH U.vm) : va_Pc av (PreC D dA ad σ) av.toArray U :=
  ⟨rfl, by rw [hU]; exact hP, va_K.moved hW.alike hK, hJ, by rw [hU]; exact (hSt.moved hW.alike).kept (fun a h1 h2 => hS.2.1 a h1 h2) , hN.warm hW⟩
theorem tb_head {μ : MI} (h : Cond.code μ.1 μ.2.1 μ.2.2.1 μ.2.2.2 ∈ tb) : ∀ w ∈ wsM μ, w ∈ tb := fun w hw => by
  rcases List.mem_cons.mp hw with e | e
  · rw [e]; exact h
  · exact e
section CallsE
variable {μ ν : MI} {d dν n : Nat} {Z : Option Value × St} {pc pc2 : Nat} {lv : List (Option Value)} {st : List Value} {σ σ1 : St} {rv : Option Value} {As : List Value}
theorem callB_E {R : Room} {s : State} {args : Array Value} {own : String} {idx : Nat} (hts : ∀ w ∈ tb, w.before args s = true) (hm : Mw ν n) (hl : Cond.methodLink own idx ν.1 ∈ tb) (hdd : Nat.ble (dν + 1) d = true) (hR1 : d ≤ R.frames) (hR2 : 40 * d ≤ R.locals) : CallB R s args own idx ν.1 ν.2.1 ν.2.2.1 ν.2.2.2 (wsM ν) (rm dν) 0 0 n := by
  obtain ⟨h1, h2, h3, h4, h5⟩ := hm
  have hdd := Nat.le_of_ble_eq_true hdd
  have e1 : (rm dν).frames = dν := rfl
  have e2 : (rm dν).locals = 40 * dν := rfl
  exact ⟨rfl, rfl, by omega, by omega, pay_in hts (fun w hw => ⟨tb_head h1 w hw, (tb_good w (tb_head h1 w hw)).2⟩), List.mem_cons_self, hts _ h1, hts _ h2, h3, h4, hts _ hl⟩
theorem stc {ad : Nat → Nat} {m : MethodId} {pc : Nat} {ls : Array Slot} {rest : List Value} (h : Nat.ble ((st.map Value.category).sum) 8 = true) : 2 * (F0 m pc ls rest).monitorRoom + ((st.map (tr ad)).map fun v => v.category).sum ≤ 8 := lv_room (by rw [tr_cats]; exact Nat.le_of_ble_eq_true h)
theorem e_cVi0 {a ci idx : Nat}  {v : Int32} (hd : Dc μ pc (.invokevirtual idx) 3 pc2) (hm : Mv μ.1.cls idx ν 0 ci) (hs : sh a = ci) (hst : Nat.ble ((st.map Value.category).sum) 8 = true) (hdd : Nat.ble (dν + 1) d = true) (hC : Ct ν dν [.ref a] σ (some (.int v), σ1)) (k0 : E μ d Z pc2 lv (.int v :: st) σ1) : E μ d Z pc lv (.ref a :: st) σ := by
  obtain ⟨hd, rfl⟩ := hd
  intro p l e R s m args below meth c D dA ad Q X F H locs ls hP hS hl
  obtain ⟨hx, hb, hown, hts, hK, hJ, hSt, hN, hml, hlk, hR1, hR2⟩ := id X
  obtain ⟨hm, hlk1, hin1, hse1, T', N, hc⟩ := hm
  refine W_callQ (va_runV (As := []) (rest := st.map (tr ad)) ⟨hx, hb, hml, hown, hts⟩ (hC l D dA ad) ⟨callB_E hts hm hlk1 hdd hR1 hR2, hts _ hin1, hts _ hse1⟩ ⟨preC_blind, va_recv hK hP hc (ent_at hs (ci_lt hc)), fun U hU hW => preC_at (av := (.ref a :: [] : List Value).map (tr ad)) hP hK hJ hSt hN hS hU hW⟩ rfl rfl (by show ls.size = _; rw [hl.2.1]) rfl (stc hst) hd ⟨Nat.zero_le _, Nat.zero_le _⟩) hS (fun H1 locs1 hP1 hS1 => ?_)
  exact k0 _ _ _ _ _ _ _ _ _ _ _ _ _ _ X F H1 locs1 ls hP1 hS1 hl
theorem e_cVl0 {a ci idx : Nat}  {v : Int64} (hd : Dc μ pc (.invokevirtual idx) 3 pc2) (hm : Mv μ.1.cls idx ν 0 ci) (hs : sh a = ci) (hst : Nat.ble ((st.map Value.category).sum) 8 = true) (hdd : Nat.ble (dν + 1) d = true) (hC : Ct ν dν [.ref a] σ (some (.long v), σ1)) (k0 : E μ d Z pc2 lv (.long v :: st) σ1) : E μ d Z pc lv (.ref a :: st) σ := by
  obtain ⟨hd, rfl⟩ := hd
  intro p l e R s m args below meth c D dA ad Q X F H locs ls hP hS hl
  obtain ⟨hx, hb, hown, hts, hK, hJ, hSt, hN, hml, hlk, hR1, hR2⟩ := id X
  obtain ⟨hm, hlk1, hin1, hse1, T', N, hc⟩ := hm
  refine W_callQ (va_runV (As := []) (rest := st.map (tr ad)) ⟨hx, hb, hml, hown, hts⟩ (hC l D dA ad) ⟨callB_E hts hm hlk1 hdd hR1 hR2, hts _ hin1, hts _ hse1⟩ ⟨preC_blind, va_recv hK hP hc (ent_at hs (ci_lt hc)), fun U hU hW => preC_at (av := (.ref a :: [] : List Value).map (tr ad)) hP hK hJ hSt hN hS hU hW⟩ rfl rfl (by show ls.size = _; rw [hl.2.1]) rfl (stc hst) hd ⟨Nat.zero_le _, Nat.zero_le _⟩) hS (fun H1 locs1 hP1 hS1 => ?_)
  exact k0 _ _ _ _ _ _ _ _ _ _ _ _ _ _ X F H1 locs1 ls hP1 hS1 hl
theorem e_cVv0 {a ci idx : Nat}   (hd : Dc μ pc (.invokevirtual idx) 3 pc2) (hm : Mv μ.1.cls idx ν 0 ci) (hs : sh a = ci) (hst : Nat.ble ((st.map Value.category).sum) 8 = true) (hdd : Nat.ble (dν + 1) d = true) (hC : Ct ν dν [.ref a] σ (none, σ1)) (k0 : E μ d Z pc2 lv (st) σ1) : E μ d Z pc lv (.ref a :: st) σ := by
  obtain ⟨hd, rfl⟩ := hd
  intro p l e R s m args below meth c D dA ad Q X F H locs ls hP hS hl
  obtain ⟨hx, hb, hown, hts, hK, hJ, hSt, hN, hml, hlk, hR1, hR2⟩ := id X
  obtain ⟨hm, hlk1, hin1, hse1, T', N, hc⟩ := hm
  refine W_callQ (va_runV (As := []) (rest := st.map (tr ad)) ⟨hx, hb, hml, hown, hts⟩ (hC l D dA ad) ⟨callB_E hts hm hlk1 hdd hR1 hR2, hts _ hin1, hts _ hse1⟩ ⟨preC_blind, va_recv hK hP hc (ent_at hs (ci_lt hc)), fun U hU hW => preC_at (av := (.ref a :: [] : List Value).map (tr ad)) hP hK hJ hSt hN hS hU hW⟩ rfl rfl (by show ls.size = _; rw [hl.2.1]) rfl (stc hst) hd ⟨Nat.zero_le _, Nat.zero_le _⟩) hS (fun H1 locs1 hP1 hS1 => ?_)
  exact k0 _ _ _ _ _ _ _ _ _ _ _ _ _ _ X F H1 locs1 ls hP1 hS1 hl
theorem e_cSi0 {idx : Nat}  {v : Int32} (hd : Dc μ pc (.invokestatic idx) 3 pc2) (hm : Ms μ.1.cls idx ν 0) (hst : Nat.ble ((st.map Value.category).sum) 8 = true) (hdd : Nat.ble (dν + 1) d = true) (hC : Ct ν dν [] σ (some (.int v), σ1)) (k0 : E μ d Z pc2 lv (.int v :: st) σ1) : E μ d Z pc lv (st) σ := by
  obtain ⟨hd, rfl⟩ := hd
  intro p l e R s m args below meth c D dA ad Q X F H locs ls hP hS hl
  obtain ⟨hx, hb, hown, hts, hK, hJ, hSt, hN, hml, hlk, hR1, hR2⟩ := id X
  obtain ⟨hm, hlk1, hst1⟩ := hm
  refine W_callQ (va_runS (As := []) (rest := st.map (tr ad)) ⟨hx, hb, hml, hown, hts⟩ (hC l D dA ad) ⟨callB_E hts hm hlk1 hdd hR1 hR2, hts _ hst1⟩ ⟨preC_blind, fun U hU hW => preC_at (av := ([] : List Value).map (tr ad)) hP hK hJ hSt hN hS hU hW⟩ rfl rfl (by show ls.size = _; rw [hl.2.1]) rfl (stc hst) hd ⟨Nat.zero_le _, Nat.zero_le _⟩) hS (fun H1 locs1 hP1 hS1 => ?_)
  exact k0 _ _ _ _ _ _ _ _ _ _ _ _ _ _ X F H1 locs1 ls hP1 hS1 hl
theorem e_cSl0 {idx : Nat}  {v : Int64} (hd : Dc μ pc (.invokestatic idx) 3 pc2) (hm : Ms μ.1.cls idx ν 0) (hst : Nat.ble ((st.map Value.category).sum) 8 = true) (hdd : Nat.ble (dν + 1) d = true) (hC : Ct ν dν [] σ (some (.long v), σ1)) (k0 : E μ d Z pc2 lv (.long v :: st) σ1) : E μ d Z pc lv (st) σ := by
  obtain ⟨hd, rfl⟩ := hd
  intro p l e R s m args below meth c D dA ad Q X F H locs ls hP hS hl
  obtain ⟨hx, hb, hown, hts, hK, hJ, hSt, hN, hml, hlk, hR1, hR2⟩ := id X
  obtain ⟨hm, hlk1, hst1⟩ := hm
  refine W_callQ (va_runS (As := []) (rest := st.map (tr ad)) ⟨hx, hb, hml, hown, hts⟩ (hC l D dA ad) ⟨callB_E hts hm hlk1 hdd hR1 hR2, hts _ hst1⟩ ⟨preC_blind, fun U hU hW => preC_at (av := ([] : List Value).map (tr ad)) hP hK hJ hSt hN hS hU hW⟩ rfl rfl (by show ls.size = _; rw [hl.2.1]) rfl (stc hst) hd ⟨Nat.zero_le _, Nat.zero_le _⟩) hS (fun H1 locs1 hP1 hS1 => ?_)
  exact k0 _ _ _ _ _ _ _ _ _ _ _ _ _ _ X F H1 locs1 ls hP1 hS1 hl
theorem e_cSv0 {idx : Nat}   (hd : Dc μ pc (.invokestatic idx) 3 pc2) (hm : Ms μ.1.cls idx ν 0) (hst : Nat.ble ((st.map Value.category).sum) 8 = true) (hdd : Nat.ble (dν + 1) d = true) (hC : Ct ν dν [] σ (none, σ1)) (k0 : E μ d Z pc2 lv (st) σ1) : E μ d Z pc lv (st) σ := by
  obtain ⟨hd, rfl⟩ := hd
  intro p l e R s m args below meth c D dA ad Q X F H locs ls hP hS hl
  obtain ⟨hx, hb, hown, hts, hK, hJ, hSt, hN, hml, hlk, hR1, hR2⟩ := id X
  obtain ⟨hm, hlk1, hst1⟩ := hm
  refine W_callQ (va_runS (As := []) (rest := st.map (tr ad)) ⟨hx, hb, hml, hown, hts⟩ (hC l D dA ad) ⟨callB_E hts hm hlk1 hdd hR1 hR2, hts _ hst1⟩ ⟨preC_blind, fun U hU hW => preC_at (av := ([] : List Value).map (tr ad)) hP hK hJ hSt hN hS hU hW⟩ rfl rfl (by show ls.size = _; rw [hl.2.1]) rfl (stc hst) hd ⟨Nat.zero_le _, Nat.zero_le _⟩) hS (fun H1 locs1 hP1 hS1 => ?_)
  exact k0 _ _ _ _ _ _ _ _ _ _ _ _ _ _ X F H1 locs1 ls hP1 hS1 hl
theorem e_cNi0 {idx : Nat} {host : String}  {v : Int32} (hd : Dc μ pc (.invokestatic idx) 3 pc2) (hm : MsN μ.1.cls idx ν 0 host) (hst : Nat.ble ((st.map Value.category).sum) 8 = true) (hdd : Nat.ble (dν + 1) d = true) (hC : Ct ν dν [] σ (some (.int v), σ1)) (k0 : E μ d Z pc2 lv (.int v :: st) σ1) : E μ d Z pc lv (st) σ := by
  obtain ⟨hd, rfl⟩ := hd
  intro p l e R s m args below meth c D dA ad Q X F H locs ls hP hS hl
  obtain ⟨hx, hb, hown, hts, hK, hJ, hSt, hN, hml, hlk, hR1, hR2⟩ := id X
  obtain ⟨⟨g1, g2, g3, g4, g5⟩, hlk1, hst1⟩ := hm
  have hdd := Nat.le_of_ble_eq_true hdd
  have e1 : (rm dν).frames = dν := rfl
  have e2 : (rm dν).locals = 40 * dν := rfl
  refine W_callQ (va_runSN (host := host) (As := []) (rest := st.map (tr ad)) ⟨hx, hb, hml, hown, hts⟩ (hC l D dA ad) ⟨⟨⟨rfl, rfl, by omega, by omega, pay_in hts (fun w hw => ⟨tb_head g1 w hw, (tb_good w (tb_head g1 w hw)).2⟩), List.mem_cons_self⟩, hts _ g1, hts _ g2, g3, g4, va_Nw.use rfl (hN.1 _ hlk1)⟩, hts _ hst1, trivial⟩ ⟨preC_blind, fun U hU hW => preC_at (av := ([] : List Value).map (tr ad)) hP hK hJ hSt hN hS hU hW⟩ rfl rfl (by show ls.size = _; rw [hl.2.1]) rfl (stc hst) hd ⟨Nat.zero_le _, Nat.zero_le _⟩) hS (fun H1 locs1 hP1 hS1 => ?_)
  exact k0 _ _ _ _ _ _ _ _ _ _ _ _ _ _ X F H1 locs1 ls hP1 hS1 hl
theorem e_cNl0 {idx : Nat} {host : String}  {v : Int64} (hd : Dc μ pc (.invokestatic idx) 3 pc2) (hm : MsN μ.1.cls idx ν 0 host) (hst : Nat.ble ((st.map Value.category).sum) 8 = true) (hdd : Nat.ble (dν + 1) d = true) (hC : Ct ν dν [] σ (some (.long v), σ1)) (k0 : E μ d Z pc2 lv (.long v :: st) σ1) : E μ d Z pc lv (st) σ := by
  obtain ⟨hd, rfl⟩ := hd
  intro p l e R s m args below meth c D dA ad Q X F H locs ls hP hS hl
  obtain ⟨hx, hb, hown, hts, hK, hJ, hSt, hN, hml, hlk, hR1, hR2⟩ := id X
  obtain ⟨⟨g1, g2, g3, g4, g5⟩, hlk1, hst1⟩ := hm
  have hdd := Nat.le_of_ble_eq_true hdd
  have e1 : (rm dν).frames = dν := rfl
  have e2 : (rm dν).locals = 40 * dν := rfl
  refine W_callQ (va_runSN (host := host) (As := []) (rest := st.map (tr ad)) ⟨hx, hb, hml, hown, hts⟩ (hC l D dA ad) ⟨⟨⟨rfl, rfl, by omega, by omega, pay_in hts (fun w hw => ⟨tb_head g1 w hw, (tb_good w (tb_head g1 w hw)).2⟩), List.mem_cons_self⟩, hts _ g1, hts _ g2, g3, g4, va_Nw.use rfl (hN.1 _ hlk1)⟩, hts _ hst1, trivial⟩ ⟨preC_blind, fun U hU hW => preC_at (av := ([] : List Value).map (tr ad)) hP hK hJ hSt hN hS hU hW⟩ rfl rfl (by show ls.size = _; rw [hl.2.1]) rfl (stc hst) hd ⟨Nat.zero_le _, Nat.zero_le _⟩) hS (fun H1 locs1 hP1 hS1 => ?_)
  exact k0 _ _ _ _ _ _ _ _ _ _ _ _ _ _ X F H1 locs1 ls hP1 hS1 hl
theorem e_cNv0 {idx : Nat} {host : String}   (hd : Dc μ pc (.invokestatic idx) 3 pc2) (hm : MsN μ.1.cls idx ν 0 host) (hst : Nat.ble ((st.map Value.category).sum) 8 = true) (hdd : Nat.ble (dν + 1) d = true) (hC : Ct ν dν [] σ (none, σ1)) (k0 : E μ d Z pc2 lv (st) σ1) : E μ d Z pc lv (st) σ := by
  obtain ⟨hd, rfl⟩ := hd
  intro p l e R s m args below meth c D dA ad Q X F H locs ls hP hS hl
  obtain ⟨hx, hb, hown, hts, hK, hJ, hSt, hN, hml, hlk, hR1, hR2⟩ := id X
  obtain ⟨⟨g1, g2, g3, g4, g5⟩, hlk1, hst1⟩ := hm
  have hdd := Nat.le_of_ble_eq_true hdd
  have e1 : (rm dν).frames = dν := rfl
  have e2 : (rm dν).locals = 40 * dν := rfl
  refine W_callQ (va_runSN (host := host) (As := []) (rest := st.map (tr ad)) ⟨hx, hb, hml, hown, hts⟩ (hC l D dA ad) ⟨⟨⟨rfl, rfl, by omega, by omega, pay_in hts (fun w hw => ⟨tb_head g1 w hw, (tb_good w (tb_head g1 w hw)).2⟩), List.mem_cons_self⟩, hts _ g1, hts _ g2, g3, g4, va_Nw.use rfl (hN.1 _ hlk1)⟩, hts _ hst1, trivial⟩ ⟨preC_blind, fun U hU hW => preC_at (av := ([] : List Value).map (tr ad)) hP hK hJ hSt hN hS hU hW⟩ rfl rfl (by show ls.size = _; rw [hl.2.1]) rfl (stc hst) hd ⟨Nat.zero_le _, Nat.zero_le _⟩) hS (fun H1 locs1 hP1 hS1 => ?_)
  exact k0 _ _ _ _ _ _ _ _ _ _ _ _ _ _ X F H1 locs1 ls hP1 hS1 hl
theorem e_cVi1 {a ci idx : Nat} {a0 : Value} {v : Int32} (hd : Dc μ pc (.invokevirtual idx) 3 pc2) (hm : Mv μ.1.cls idx ν 1 ci) (hs : sh a = ci) (hst : Nat.ble ((st.map Value.category).sum) 8 = true) (hdd : Nat.ble (dν + 1) d = true) (hC : Ct ν dν [.ref a, a0] σ (some (.int v), σ1)) (k0 : E μ d Z pc2 lv (.int v :: st) σ1) : E μ d Z pc lv (a0 :: .ref a :: st) σ := by
  obtain ⟨hd, rfl⟩ := hd
  intro p l e R s m args below meth c D dA ad Q X F H locs ls hP hS hl
  obtain ⟨hx, hb, hown, hts, hK, hJ, hSt, hN, hml, hlk, hR1, hR2⟩ := id X
  obtain ⟨hm, hlk1, hin1, hse1, T', N, hc⟩ := hm
  refine W_callQ (va_runV (As := [tr ad a0]) (rest := st.map (tr ad)) ⟨hx, hb, hml, hown, hts⟩ (hC l D dA ad) ⟨callB_E hts hm hlk1 hdd hR1 hR2, hts _ hin1, hts _ hse1⟩ ⟨preC_blind, va_recv hK hP hc (ent_at hs (ci_lt hc)), fun U hU hW => preC_at (av := (.ref a :: [a0] : List Value).map (tr ad)) hP hK hJ hSt hN hS hU hW⟩ rfl rfl (by show ls.size = _; rw [hl.2.1]) rfl (stc hst) hd ⟨Nat.zero_le _, Nat.zero_le _⟩) hS (fun H1 locs1 hP1 hS1 => ?_)
  exact k0 _ _ _ _ _ _ _ _ _ _ _ _ _ _ X F H1 locs1 ls hP1 hS1 hl
theorem e_cVl1 {a ci idx : Nat} {a0 : Value} {v : Int64} (hd : Dc μ pc (.invokevirtual idx) 3 pc2) (hm : Mv μ.1.cls idx ν 1 ci) (hs : sh a = ci) (hst : Nat.ble ((st.map Value.category).sum) 8 = true) (hdd : Nat.ble (dν + 1) d = true) (hC : Ct ν dν [.ref a, a0] σ (some (.long v), σ1)) (k0 : E μ d Z pc2 lv (.long v :: st) σ1) : E μ d Z pc lv (a0 :: .ref a :: st) σ := by
  obtain ⟨hd, rfl⟩ := hd
  intro p l e R s m args below meth c D dA ad Q X F H locs ls hP hS hl
  obtain ⟨hx, hb, hown, hts, hK, hJ, hSt, hN, hml, hlk, hR1, hR2⟩ := id X
  obtain ⟨hm, hlk1, hin1, hse1, T', N, hc⟩ := hm
  refine W_callQ (va_runV (As := [tr ad a0]) (rest := st.map (tr ad)) ⟨hx, hb, hml, hown, hts⟩ (hC l D dA ad) ⟨callB_E hts hm hlk1 hdd hR1 hR2, hts _ hin1, hts _ hse1⟩ ⟨preC_blind, va_recv hK hP hc (ent_at hs (ci_lt hc)), fun U hU hW => preC_at (av := (.ref a :: [a0] : List Value).map (tr ad)) hP hK hJ hSt hN hS hU hW⟩ rfl rfl (by show ls.size = _; rw [hl.2.1]) rfl (stc hst) hd ⟨Nat.zero_le _, Nat.zero_le _⟩) hS (fun H1 locs1 hP1 hS1 => ?_)
  exact k0 _ _ _ _ _ _ _ _ _ _ _ _ _ _ X F H1 locs1 ls hP1 hS1 hl
theorem e_cVv1 {a ci idx : Nat} {a0 : Value}  (hd : Dc μ pc (.invokevirtual idx) 3 pc2) (hm : Mv μ.1.cls idx ν 1 ci) (hs : sh a = ci) (hst : Nat.ble ((st.map Value.category).sum) 8 = true) (hdd : Nat.ble (dν + 1) d = true) (hC : Ct ν dν [.ref a, a0] σ (none, σ1)) (k0 : E μ d Z pc2 lv (st) σ1) : E μ d Z pc lv (a0 :: .ref a :: st) σ := by
  obtain ⟨hd, rfl⟩ := hd
  intro p l e R s m args below meth c D dA ad Q X F H locs ls hP hS hl
  obtain ⟨hx, hb, hown, hts, hK, hJ, hSt, hN, hml, hlk, hR1, hR2⟩ := id X
  obtain ⟨hm, hlk1, hin1, hse1, T', N, hc⟩ := hm
  refine W_callQ (va_runV (As := [tr ad a0]) (rest := st.map (tr ad)) ⟨hx, hb, hml, hown, hts⟩ (hC l D dA ad) ⟨callB_E hts hm hlk1 hdd hR1 hR2, hts _ hin1, hts _ hse1⟩ ⟨preC_blind, va_recv hK hP hc (ent_at hs (ci_lt hc)), fun U hU hW => preC_at (av := (.ref a :: [a0] : List Value).map (tr ad)) hP hK hJ hSt hN hS hU hW⟩ rfl rfl (by show ls.size = _; rw [hl.2.1]) rfl (stc hst) hd ⟨Nat.zero_le _, Nat.zero_le _⟩) hS (fun H1 locs1 hP1 hS1 => ?_)
  exact k0 _ _ _ _ _ _ _ _ _ _ _ _ _ _ X F H1 locs1 ls hP1 hS1 hl
theorem e_cSi1 {idx : Nat} {a0 : Value} {v : Int32} (hd : Dc μ pc (.invokestatic idx) 3 pc2) (hm : Ms μ.1.cls idx ν 1) (hst : Nat.ble ((st.map Value.category).sum) 8 = true) (hdd : Nat.ble (dν + 1) d = true) (hC : Ct ν dν [a0] σ (some (.int v), σ1)) (k0 : E μ d Z pc2 lv (.int v :: st) σ1) : E μ d Z pc lv (a0 :: st) σ := by
  obtain ⟨hd, rfl⟩ := hd
  intro p l e R s m args below meth c D dA ad Q X F H locs ls hP hS hl
  obtain ⟨hx, hb, hown, hts, hK, hJ, hSt, hN, hml, hlk, hR1, hR2⟩ := id X
  obtain ⟨hm, hlk1, hst1⟩ := hm
  refine W_callQ (va_runS (As := [tr ad a0]) (rest := st.map (tr ad)) ⟨hx, hb, hml, hown, hts⟩ (hC l D dA ad) ⟨callB_E hts hm hlk1 hdd hR1 hR2, hts _ hst1⟩ ⟨preC_blind, fun U hU hW => preC_at (av := ([a0] : List Value).map (tr ad)) hP hK hJ hSt hN hS hU hW⟩ rfl rfl (by show ls.size = _; rw [hl.2.1]) rfl (stc hst) hd ⟨Nat.zero_le _, Nat.zero_le _⟩) hS (fun H1 locs1 hP1 hS1 => ?_)
  exact k0 _ _ _ _ _ _ _ _ _ _ _ _ _ _ X F H1 locs1 ls hP1 hS1 hl
theorem e_cSl1 {idx : Nat} {a0 : Value} {v : Int64} (hd : Dc μ pc (.invokestatic idx) 3 pc2) (hm : Ms μ.1.cls idx ν 1) (hst : Nat.ble ((st.map Value.category).sum) 8 = true) (hdd : Nat.ble (dν + 1) d = true) (hC : Ct ν dν [a0] σ (some (.long v), σ1)) (k0 : E μ d Z pc2 lv (.long v :: st) σ1) : E μ d Z pc lv (a0 :: st) σ := by
  obtain ⟨hd, rfl⟩ := hd
  intro p l e R s m args below meth c D dA ad Q X F H locs ls hP hS hl
  obtain ⟨hx, hb, hown, hts, hK, hJ, hSt, hN, hml, hlk, hR1, hR2⟩ := id X
  obtain ⟨hm, hlk1, hst1⟩ := hm
  refine W_callQ (va_runS (As := [tr ad a0]) (rest := st.map (tr ad)) ⟨hx, hb, hml, hown, hts⟩ (hC l D dA ad) ⟨callB_E hts hm hlk1 hdd hR1 hR2, hts _ hst1⟩ ⟨preC_blind, fun U hU hW => preC_at (av := ([a0] : List Value).map (tr ad)) hP hK hJ hSt hN hS hU hW⟩ rfl rfl (by show ls.size = _; rw [hl.2.1]) rfl (stc hst) hd ⟨Nat.zero_le _, Nat.zero_le _⟩) hS (fun H1 locs1 hP1 hS1 => ?_)
  exact k0 _ _ _ _ _ _ _ _ _ _ _ _ _ _ X F H1 locs1 ls hP1 hS1 hl
theorem e_cSv1 {idx : Nat} {a0 : Value}  (hd : Dc μ pc (.invokestatic idx) 3 pc2) (hm : Ms μ.1.cls idx ν 1) (hst : Nat.ble ((st.map Value.category).sum) 8 = true) (hdd : Nat.ble (dν + 1) d = true) (hC : Ct ν dν [a0] σ (none, σ1)) (k0 : E μ d Z pc2 lv (st) σ1) : E μ d Z pc lv (a0 :: st) σ := by
  obtain ⟨hd, rfl⟩ := hd
  intro p l e R s m args below meth c D dA ad Q X F H locs ls hP hS hl
  obtain ⟨hx, hb, hown, hts, hK, hJ, hSt, hN, hml, hlk, hR1, hR2⟩ := id X
  obtain ⟨hm, hlk1, hst1⟩ := hm
  refine W_callQ (va_runS (As := [tr ad a0]) (rest := st.map (tr ad)) ⟨hx, hb, hml, hown, hts⟩ (hC l D dA ad) ⟨callB_E hts hm hlk1 hdd hR1 hR2, hts _ hst1⟩ ⟨preC_blind, fun U hU hW => preC_at (av := ([a0] : List Value).map (tr ad)) hP hK hJ hSt hN hS hU hW⟩ rfl rfl (by show ls.size = _; rw [hl.2.1]) rfl (stc hst) hd ⟨Nat.zero_le _, Nat.zero_le _⟩) hS (fun H1 locs1 hP1 hS1 => ?_)
  exact k0 _ _ _ _ _ _ _ _ _ _ _ _ _ _ X F H1 locs1 ls hP1 hS1 hl
theorem e_cNi1 {idx : Nat} {host : String} {a0 : Value} {v : Int32} (hd : Dc μ pc (.invokestatic idx) 3 pc2) (hm : MsN μ.1.cls idx ν 1 host) (hst : Nat.ble ((st.map Value.category).sum) 8 = true) (hdd : Nat.ble (dν + 1) d = true) (hC : Ct ν dν [a0] σ (some (.int v), σ1)) (k0 : E μ d Z pc2 lv (.int v :: st) σ1) : E μ d Z pc lv (a0 :: st) σ := by
  obtain ⟨hd, rfl⟩ := hd
  intro p l e R s m args below meth c D dA ad Q X F H locs ls hP hS hl
  obtain ⟨hx, hb, hown, hts, hK, hJ, hSt, hN, hml, hlk, hR1, hR2⟩ := id X
  obtain ⟨⟨g1, g2, g3, g4, g5⟩, hlk1, hst1⟩ := hm
  have hdd := Nat.le_of_ble_eq_true hdd
  have e1 : (rm dν).frames = dν := rfl
  have e2 : (rm dν).locals = 40 * dν := rfl
  refine W_callQ (va_runSN (host := host) (As := [tr ad a0]) (rest := st.map (tr ad)) ⟨hx, hb, hml, hown, hts⟩ (hC l D dA ad) ⟨⟨⟨rfl, rfl, by omega, by omega, pay_in hts (fun w hw => ⟨tb_head g1 w hw, (tb_good w (tb_head g1 w hw)).2⟩), List.mem_cons_self⟩, hts _ g1, hts _ g2, g3, g4, va_Nw.use rfl (hN.1 _ hlk1)⟩, hts _ hst1, trivial⟩ ⟨preC_blind, fun U hU hW => preC_at (av := ([a0] : List Value).map (tr ad)) hP hK hJ hSt hN hS hU hW⟩ rfl rfl (by show ls.size = _; rw [hl.2.1]) rfl (stc hst) hd ⟨Nat.zero_le _, Nat.zero_le _⟩) hS (fun H1 locs1 hP1 hS1 => ?_)
  exact k0 _ _ _ _ _ _ _ _ _ _ _ _ _ _ X F H1 locs1 ls hP1 hS1 hl
theorem e_cNl1 {idx : Nat} {host : String} {a0 : Value} {v : Int64} (hd : Dc μ pc (.invokestatic idx) 3 pc2) (hm : MsN μ.1.cls idx ν 1 host) (hst : Nat.ble ((st.map Value.category).sum) 8 = true) (hdd : Nat.ble (dν + 1) d = true) (hC : Ct ν dν [a0] σ (some (.long v), σ1)) (k0 : E μ d Z pc2 lv (.long v :: st) σ1) : E μ d Z pc lv (a0 :: st) σ := by
  obtain ⟨hd, rfl⟩ := hd
  intro p l e R s m args below meth c D dA ad Q X F H locs ls hP hS hl
  obtain ⟨hx, hb, hown, hts, hK, hJ, hSt, hN, hml, hlk, hR1, hR2⟩ := id X
  obtain ⟨⟨g1, g2, g3, g4, g5⟩, hlk1, hst1⟩ := hm
  have hdd := Nat.le_of_ble_eq_true hdd
  have e1 : (rm dν).frames = dν := rfl
  have e2 : (rm dν).locals = 40 * dν := rfl
  refine W_callQ (va_runSN (host := host) (As := [tr ad a0]) (rest := st.map (tr ad)) ⟨hx, hb, hml, hown, hts⟩ (hC l D dA ad) ⟨⟨⟨rfl, rfl, by omega, by omega, pay_in hts (fun w hw => ⟨tb_head g1 w hw, (tb_good w (tb_head g1 w hw)).2⟩), List.mem_cons_self⟩, hts _ g1, hts _ g2, g3, g4, va_Nw.use rfl (hN.1 _ hlk1)⟩, hts _ hst1, trivial⟩ ⟨preC_blind, fun U hU hW => preC_at (av := ([a0] : List Value).map (tr ad)) hP hK hJ hSt hN hS hU hW⟩ rfl rfl (by show ls.size = _; rw [hl.2.1]) rfl (stc hst) hd ⟨Nat.zero_le _, Nat.zero_le _⟩) hS (fun H1 locs1 hP1 hS1 => ?_)
  exact k0 _ _ _ _ _ _ _ _ _ _ _ _ _ _ X F H1 locs1 ls hP1 hS1 hl
theorem e_cNv1 {idx : Nat} {host : String} {a0 : Value}  (hd : Dc μ pc (.invokestatic idx) 3 pc2) (hm : MsN μ.1.cls idx ν 1 host) (hst : Nat.ble ((st.map Value.category).sum) 8 = true) (hdd : Nat.ble (dν + 1) d = true) (hC : Ct ν dν [a0] σ (none, σ1)) (k0 : E μ d Z pc2 lv (st) σ1) : E μ d Z pc lv (a0 :: st) σ := by
  obtain ⟨hd, rfl⟩ := hd
  intro p l e R s m args below meth c D dA ad Q X F H locs ls hP hS hl
  obtain ⟨hx, hb, hown, hts, hK, hJ, hSt, hN, hml, hlk, hR1, hR2⟩ := id X
  obtain ⟨⟨g1, g2, g3, g4, g5⟩, hlk1, hst1⟩ := hm
  have hdd := Nat.le_of_ble_eq_true hdd
  have e1 : (rm dν).frames = dν := rfl
  have e2 : (rm dν).locals = 40 * dν := rfl
  refine W_callQ (va_runSN (host := host) (As := [tr ad a0]) (rest := st.map (tr ad)) ⟨hx, hb, hml, hown, hts⟩ (hC l D dA ad) ⟨⟨⟨rfl, rfl, by omega, by omega, pay_in hts (fun w hw => ⟨tb_head g1 w hw, (tb_good w (tb_head g1 w hw)).2⟩), List.mem_cons_self⟩, hts _ g1, hts _ g2, g3, g4, va_Nw.use rfl (hN.1 _ hlk1)⟩, hts _ hst1, trivial⟩ ⟨preC_blind, fun U hU hW => preC_at (av := ([a0] : List Value).map (tr ad)) hP hK hJ hSt hN hS hU hW⟩ rfl rfl (by show ls.size = _; rw [hl.2.1]) rfl (stc hst) hd ⟨Nat.zero_le _, Nat.zero_le _⟩) hS (fun H1 locs1 hP1 hS1 => ?_)
  exact k0 _ _ _ _ _ _ _ _ _ _ _ _ _ _ X F H1 locs1 ls hP1 hS1 hl
theorem e_cVi2 {a ci idx : Nat} {a0 : Value} {a1 : Value} {v : Int32} (hd : Dc μ pc (.invokevirtual idx) 3 pc2) (hm : Mv μ.1.cls idx ν 2 ci) (hs : sh a = ci) (hst : Nat.ble ((st.map Value.category).sum) 8 = true) (hdd : Nat.ble (dν + 1) d = true) (hC : Ct ν dν [.ref a, a0, a1] σ (some (.int v), σ1)) (k0 : E μ d Z pc2 lv (.int v :: st) σ1) : E μ d Z pc lv (a1 :: a0 :: .ref a :: st) σ := by
  obtain ⟨hd, rfl⟩ := hd
  intro p l e R s m args below meth c D dA ad Q X F H locs ls hP hS hl
  obtain ⟨hx, hb, hown, hts, hK, hJ, hSt, hN, hml, hlk, hR1, hR2⟩ := id X
  obtain ⟨hm, hlk1, hin1, hse1, T', N, hc⟩ := hm
  refine W_callQ (va_runV (As := [tr ad a0, tr ad a1]) (rest := st.map (tr ad)) ⟨hx, hb, hml, hown, hts⟩ (hC l D dA ad) ⟨callB_E hts hm hlk1 hdd hR1 hR2, hts _ hin1, hts _ hse1⟩ ⟨preC_blind, va_recv hK hP hc (ent_at hs (ci_lt hc)), fun U hU hW => preC_at (av := (.ref a :: [a0, a1] : List Value).map (tr ad)) hP hK hJ hSt hN hS hU hW⟩ rfl rfl (by show ls.size = _; rw [hl.2.1]) rfl (stc hst) hd ⟨Nat.zero_le _, Nat.zero_le _⟩) hS (fun H1 locs1 hP1 hS1 => ?_)
  exact k0 _ _ _ _ _ _ _ _ _ _ _ _ _ _ X F H1 locs1 ls hP1 hS1 hl
theorem e_cVl2 {a ci idx : Nat} {a0 : Value} {a1 : Value} {v : Int64} (hd : Dc μ pc (.invokevirtual idx) 3 pc2) (hm : Mv μ.1.cls idx ν 2 ci) (hs : sh a = ci) (hst : Nat.ble ((st.map Value.category).sum) 8 = true) (hdd : Nat.ble (dν + 1) d = true) (hC : Ct ν dν [.ref a, a0, a1] σ (some (.long v), σ1)) (k0 : E μ d Z pc2 lv (.long v :: st) σ1) : E μ d Z pc lv (a1 :: a0 :: .ref a :: st) σ := by
  obtain ⟨hd, rfl⟩ := hd
  intro p l e R s m args below meth c D dA ad Q X F H locs ls hP hS hl
  obtain ⟨hx, hb, hown, hts, hK, hJ, hSt, hN, hml, hlk, hR1, hR2⟩ := id X
  obtain ⟨hm, hlk1, hin1, hse1, T', N, hc⟩ := hm
  refine W_callQ (va_runV (As := [tr ad a0, tr ad a1]) (rest := st.map (tr ad)) ⟨hx, hb, hml, hown, hts⟩ (hC l D dA ad) ⟨callB_E hts hm hlk1 hdd hR1 hR2, hts _ hin1, hts _ hse1⟩ ⟨preC_blind, va_recv hK hP hc (ent_at hs (ci_lt hc)), fun U hU hW => preC_at (av := (.ref a :: [a0, a1] : List Value).map (tr ad)) hP hK hJ hSt hN hS hU hW⟩ rfl rfl (by show ls.size = _; rw [hl.2.1]) rfl (stc hst) hd ⟨Nat.zero_le _, Nat.zero_le _⟩) hS (fun H1 locs1 hP1 hS1 => ?_)
  exact k0 _ _ _ _ _ _ _ _ _ _ _ _ _ _ X F H1 locs1 ls hP1 hS1 hl
theorem e_cVv2 {a ci idx : Nat} {a0 : Value} {a1 : Value}  (hd : Dc μ pc (.invokevirtual idx) 3 pc2) (hm : Mv μ.1.cls idx ν 2 ci) (hs : sh a = ci) (hst : Nat.ble ((st.map Value.category).sum) 8 = true) (hdd : Nat.ble (dν + 1) d = true) (hC : Ct ν dν [.ref a, a0, a1] σ (none, σ1)) (k0 : E μ d Z pc2 lv (st) σ1) : E μ d Z pc lv (a1 :: a0 :: .ref a :: st) σ := by
  obtain ⟨hd, rfl⟩ := hd
  intro p l e R s m args below meth c D dA ad Q X F H locs ls hP hS hl
  obtain ⟨hx, hb, hown, hts, hK, hJ, hSt, hN, hml, hlk, hR1, hR2⟩ := id X
  obtain ⟨hm, hlk1, hin1, hse1, T', N, hc⟩ := hm
  refine W_callQ (va_runV (As := [tr ad a0, tr ad a1]) (rest := st.map (tr ad)) ⟨hx, hb, hml, hown, hts⟩ (hC l D dA ad) ⟨callB_E hts hm hlk1 hdd hR1 hR2, hts _ hin1, hts _ hse1⟩ ⟨preC_blind, va_recv hK hP hc (ent_at hs (ci_lt hc)), fun U hU hW => preC_at (av := (.ref a :: [a0, a1] : List Value).map (tr ad)) hP hK hJ hSt hN hS hU hW⟩ rfl rfl (by show ls.size = _; rw [hl.2.1]) rfl (stc hst) hd ⟨Nat.zero_le _, Nat.zero_le _⟩) hS (fun H1 locs1 hP1 hS1 => ?_)
  exact k0 _ _ _ _ _ _ _ _ _ _ _ _ _ _ X F H1 locs1 ls hP1 hS1 hl
theorem e_cSi2 {idx : Nat} {a0 : Value} {a1 : Value} {v : Int32} (hd : Dc μ pc (.invokestatic idx) 3 pc2) (hm : Ms μ.1.cls idx ν 2) (hst : Nat.ble ((st.map Value.category).sum) 8 = true) (hdd : Nat.ble (dν + 1) d = true) (hC : Ct ν dν [a0, a1] σ (some (.int v), σ1)) (k0 : E μ d Z pc2 lv (.int v :: st) σ1) : E μ d Z pc lv (a1 :: a0 :: st) σ := by
  obtain ⟨hd, rfl⟩ := hd
  intro p l e R s m args below meth c D dA ad Q X F H locs ls hP hS hl
  obtain ⟨hx, hb, hown, hts, hK, hJ, hSt, hN, hml, hlk, hR1, hR2⟩ := id X
  obtain ⟨hm, hlk1, hst1⟩ := hm
  refine W_callQ (va_runS (As := [tr ad a0, tr ad a1]) (rest := st.map (tr ad)) ⟨hx, hb, hml, hown, hts⟩ (hC l D dA ad) ⟨callB_E hts hm hlk1 hdd hR1 hR2, hts _ hst1⟩ ⟨preC_blind, fun U hU hW => preC_at (av := ([a0, a1] : List Value).map (tr ad)) hP hK hJ hSt hN hS hU hW⟩ rfl rfl (by show ls.size = _; rw [hl.2.1]) rfl (stc hst) hd ⟨Nat.zero_le _, Nat.zero_le _⟩) hS (fun H1 locs1 hP1 hS1 => ?_)
  exact k0 _ _ _ _ _ _ _ _ _ _ _ _ _ _ X F H1 locs1 ls hP1 hS1 hl
theorem e_cSl2 {idx : Nat} {a0 : Value} {a1 : Value} {v : Int64} (hd : Dc μ pc (.invokestatic idx) 3 pc2) (hm : Ms μ.1.cls idx ν 2) (hst : Nat.ble ((st.map Value.category).sum) 8 = true) (hdd : Nat.ble (dν + 1) d = true) (hC : Ct ν dν [a0, a1] σ (some (.long v), σ1)) (k0 : E μ d Z pc2 lv (.long v :: st) σ1) : E μ d Z pc lv (a1 :: a0 :: st) σ := by
  obtain ⟨hd, rfl⟩ := hd
  intro p l e R s m args below meth c D dA ad Q X F H locs ls hP hS hl
  obtain ⟨hx, hb, hown, hts, hK, hJ, hSt, hN, hml, hlk, hR1, hR2⟩ := id X
  obtain ⟨hm, hlk1, hst1⟩ := hm
  refine W_callQ (va_runS (As := [tr ad a0, tr ad a1]) (rest := st.map (tr ad)) ⟨hx, hb, hml, hown, hts⟩ (hC l D dA ad) ⟨callB_E hts hm hlk1 hdd hR1 hR2, hts _ hst1⟩ ⟨preC_blind, fun U hU hW => preC_at (av := ([a0, a1] : List Value).map (tr ad)) hP hK hJ hSt hN hS hU hW⟩ rfl rfl (by show ls.size = _; rw [hl.2.1]) rfl (stc hst) hd ⟨Nat.zero_le _, Nat.zero_le _⟩) hS (fun H1 locs1 hP1 hS1 => ?_)
  exact k0 _ _ _ _ _ _ _ _ _ _ _ _ _ _ X F H1 locs1 ls hP1 hS1 hl
theorem e_cSv2 {idx : Nat} {a0 : Value} {a1 : Value}  (hd : Dc μ pc (.invokestatic idx) 3 pc2) (hm : Ms μ.1.cls idx ν 2) (hst : Nat.ble ((st.map Value.category).sum) 8 = true) (hdd : Nat.ble (dν + 1) d = true) (hC : Ct ν dν [a0, a1] σ (none, σ1)) (k0 : E μ d Z pc2 lv (st) σ1) : E μ d Z pc lv (a1 :: a0 :: st) σ := by
  obtain ⟨hd, rfl⟩ := hd
  intro p l e R s m args below meth c D dA ad Q X F H locs ls hP hS hl
  obtain ⟨hx, hb, hown, hts, hK, hJ, hSt, hN, hml, hlk, hR1, hR2⟩ := id X
  obtain ⟨hm, hlk1, hst1⟩ := hm
  refine W_callQ (va_runS (As := [tr ad a0, tr ad a1]) (rest := st.map (tr ad)) ⟨hx, hb, hml, hown, hts⟩ (hC l D dA ad) ⟨callB_E hts hm hlk1 hdd hR1 hR2, hts _ hst1⟩ ⟨preC_blind, fun U hU hW => preC_at (av := ([a0, a1] : List Value).map (tr ad)) hP hK hJ hSt hN hS hU hW⟩ rfl rfl (by show ls.size = _; rw [hl.2.1]) rfl (stc hst) hd ⟨Nat.zero_le _, Nat.zero_le _⟩) hS (fun H1 locs1 hP1 hS1 => ?_)
  exact k0 _ _ _ _ _ _ _ _ _ _ _ _ _ _ X F H1 locs1 ls hP1 hS1 hl
theorem e_cNi2 {idx : Nat} {host : String} {a0 : Value} {a1 : Value} {v : Int32} (hd : Dc μ pc (.invokestatic idx) 3 pc2) (hm : MsN μ.1.cls idx ν 2 host) (hst : Nat.ble ((st.map Value.category).sum) 8 = true) (hdd : Nat.ble (dν + 1) d = true) (hC : Ct ν dν [a0, a1] σ (some (.int v), σ1)) (k0 : E μ d Z pc2 lv (.int v :: st) σ1) : E μ d Z pc lv (a1 :: a0 :: st) σ := by
  obtain ⟨hd, rfl⟩ := hd
  intro p l e R s m args below meth c D dA ad Q X F H locs ls hP hS hl
  obtain ⟨hx, hb, hown, hts, hK, hJ, hSt, hN, hml, hlk, hR1, hR2⟩ := id X
  obtain ⟨⟨g1, g2, g3, g4, g5⟩, hlk1, hst1⟩ := hm
  have hdd := Nat.le_of_ble_eq_true hdd
  have e1 : (rm dν).frames = dν := rfl
  have e2 : (rm dν).locals = 40 * dν := rfl
  refine W_callQ (va_runSN (host := host) (As := [tr ad a0, tr ad a1]) (rest := st.map (tr ad)) ⟨hx, hb, hml, hown, hts⟩ (hC l D dA ad) ⟨⟨⟨rfl, rfl, by omega, by omega, pay_in hts (fun w hw => ⟨tb_head g1 w hw, (tb_good w (tb_head g1 w hw)).2⟩), List.mem_cons_self⟩, hts _ g1, hts _ g2, g3, g4, va_Nw.use rfl (hN.1 _ hlk1)⟩, hts _ hst1, trivial⟩ ⟨preC_blind, fun U hU hW => preC_at (av := ([a0, a1] : List Value).map (tr ad)) hP hK hJ hSt hN hS hU hW⟩ rfl rfl (by show ls.size = _; rw [hl.2.1]) rfl (stc hst) hd ⟨Nat.zero_le _, Nat.zero_le _⟩) hS (fun H1 locs1 hP1 hS1 => ?_)
  exact k0 _ _ _ _ _ _ _ _ _ _ _ _ _ _ X F H1 locs1 ls hP1 hS1 hl
theorem e_cNl2 {idx : Nat} {host : String} {a0 : Value} {a1 : Value} {v : Int64} (hd : Dc μ pc (.invokestatic idx) 3 pc2) (hm : MsN μ.1.cls idx ν 2 host) (hst : Nat.ble ((st.map Value.category).sum) 8 = true) (hdd : Nat.ble (dν + 1) d = true) (hC : Ct ν dν [a0, a1] σ (some (.long v), σ1)) (k0 : E μ d Z pc2 lv (.long v :: st) σ1) : E μ d Z pc lv (a1 :: a0 :: st) σ := by
  obtain ⟨hd, rfl⟩ := hd
  intro p l e R s m args below meth c D dA ad Q X F H locs ls hP hS hl
  obtain ⟨hx, hb, hown, hts, hK, hJ, hSt, hN, hml, hlk, hR1, hR2⟩ := id X
  obtain ⟨⟨g1, g2, g3, g4, g5⟩, hlk1, hst1⟩ := hm
  have hdd := Nat.le_of_ble_eq_true hdd
  have e1 : (rm dν).frames = dν := rfl
  have e2 : (rm dν).locals = 40 * dν := rfl
  refine W_callQ (va_runSN (host := host) (As := [tr ad a0, tr ad a1]) (rest := st.map (tr ad)) ⟨hx, hb, hml, hown, hts⟩ (hC l D dA ad) ⟨⟨⟨rfl, rfl, by omega, by omega, pay_in hts (fun w hw => ⟨tb_head g1 w hw, (tb_good w (tb_head g1 w hw)).2⟩), List.mem_cons_self⟩, hts _ g1, hts _ g2, g3, g4, va_Nw.use rfl (hN.1 _ hlk1)⟩, hts _ hst1, trivial⟩ ⟨preC_blind, fun U hU hW => preC_at (av := ([a0, a1] : List Value).map (tr ad)) hP hK hJ hSt hN hS hU hW⟩ rfl rfl (by show ls.size = _; rw [hl.2.1]) rfl (stc hst) hd ⟨Nat.zero_le _, Nat.zero_le _⟩) hS (fun H1 locs1 hP1 hS1 => ?_)
  exact k0 _ _ _ _ _ _ _ _ _ _ _ _ _ _ X F H1 locs1 ls hP1 hS1 hl
theorem e_cNv2 {idx : Nat} {host : String} {a0 : Value} {a1 : Value}  (hd : Dc μ pc (.invokestatic idx) 3 pc2) (hm : MsN μ.1.cls idx ν 2 host) (hst : Nat.ble ((st.map Value.category).sum) 8 = true) (hdd : Nat.ble (dν + 1) d = true) (hC : Ct ν dν [a0, a1] σ (none, σ1)) (k0 : E μ d Z pc2 lv (st) σ1) : E μ d Z pc lv (a1 :: a0 :: st) σ := by
  obtain ⟨hd, rfl⟩ := hd
  intro p l e R s m args below meth c D dA ad Q X F H locs ls hP hS hl
  obtain ⟨hx, hb, hown, hts, hK, hJ, hSt, hN, hml, hlk, hR1, hR2⟩ := id X
  obtain ⟨⟨g1, g2, g3, g4, g5⟩, hlk1, hst1⟩ := hm
  have hdd := Nat.le_of_ble_eq_true hdd
  have e1 : (rm dν).frames = dν := rfl
  have e2 : (rm dν).locals = 40 * dν := rfl
  refine W_callQ (va_runSN (host := host) (As := [tr ad a0, tr ad a1]) (rest := st.map (tr ad)) ⟨hx, hb, hml, hown, hts⟩ (hC l D dA ad) ⟨⟨⟨rfl, rfl, by omega, by omega, pay_in hts (fun w hw => ⟨tb_head g1 w hw, (tb_good w (tb_head g1 w hw)).2⟩), List.mem_cons_self⟩, hts _ g1, hts _ g2, g3, g4, va_Nw.use rfl (hN.1 _ hlk1)⟩, hts _ hst1, trivial⟩ ⟨preC_blind, fun U hU hW => preC_at (av := ([a0, a1] : List Value).map (tr ad)) hP hK hJ hSt hN hS hU hW⟩ rfl rfl (by show ls.size = _; rw [hl.2.1]) rfl (stc hst) hd ⟨Nat.zero_le _, Nat.zero_le _⟩) hS (fun H1 locs1 hP1 hS1 => ?_)
  exact k0 _ _ _ _ _ _ _ _ _ _ _ _ _ _ X F H1 locs1 ls hP1 hS1 hl
theorem e_cVi3 {a ci idx : Nat} {a0 : Value} {a1 : Value} {a2 : Value} {v : Int32} (hd : Dc μ pc (.invokevirtual idx) 3 pc2) (hm : Mv μ.1.cls idx ν 3 ci) (hs : sh a = ci) (hst : Nat.ble ((st.map Value.category).sum) 8 = true) (hdd : Nat.ble (dν + 1) d = true) (hC : Ct ν dν [.ref a, a0, a1, a2] σ (some (.int v), σ1)) (k0 : E μ d Z pc2 lv (.int v :: st) σ1) : E μ d Z pc lv (a2 :: a1 :: a0 :: .ref a :: st) σ := by
  obtain ⟨hd, rfl⟩ := hd
  intro p l e R s m args below meth c D dA ad Q X F H locs ls hP hS hl
  obtain ⟨hx, hb, hown, hts, hK, hJ, hSt, hN, hml, hlk, hR1, hR2⟩ := id X
  obtain ⟨hm, hlk1, hin1, hse1, T', N, hc⟩ := hm
  refine W_callQ (va_runV (As := [tr ad a0, tr ad a1, tr ad a2]) (rest := st.map (tr ad)) ⟨hx, hb, hml, hown, hts⟩ (hC l D dA ad) ⟨callB_E hts hm hlk1 hdd hR1 hR2, hts _ hin1, hts _ hse1⟩ ⟨preC_blind, va_recv hK hP hc (ent_at hs (ci_lt hc)), fun U hU hW => preC_at (av := (.ref a :: [a0, a1, a2] : List Value).map (tr ad)) hP hK hJ hSt hN hS hU hW⟩ rfl rfl (by show ls.size = _; rw [hl.2.1]) rfl (stc hst) hd ⟨Nat.zero_le _, Nat.zero_le _⟩) hS (fun H1 locs1 hP1 hS1 => ?_)
  exact k0 _ _ _ _ _ _ _ _ _ _ _ _ _ _ X F H1 locs1 ls hP1 hS1 hl
theorem e_cVl3 {a ci idx : Nat} {a0 : Value} {a1 : Value} {a2 : Value} {v : Int64} (hd : Dc μ pc (.invokevirtual idx) 3 pc2) (hm : Mv μ.1.cls idx ν 3 ci) (hs : sh a = ci) (hst : Nat.ble ((st.map Value.category).sum) 8 = true) (hdd : Nat.ble (dν + 1) d = true) (hC : Ct ν dν [.ref a, a0, a1, a2] σ (some (.long v), σ1)) (k0 : E μ d Z pc2 lv (.long v :: st) σ1) : E μ d Z pc lv (a2 :: a1 :: a0 :: .ref a :: st) σ := by
  obtain ⟨hd, rfl⟩ := hd
  intro p l e R s m args below meth c D dA ad Q X F H locs ls hP hS hl
  obtain ⟨hx, hb, hown, hts, hK, hJ, hSt, hN, hml, hlk, hR1, hR2⟩ := id X
  obtain ⟨hm, hlk1, hin1, hse1, T', N, hc⟩ := hm
  refine W_callQ (va_runV (As := [tr ad a0, tr ad a1, tr ad a2]) (rest := st.map (tr ad)) ⟨hx, hb, hml, hown, hts⟩ (hC l D dA ad) ⟨callB_E hts hm hlk1 hdd hR1 hR2, hts _ hin1, hts _ hse1⟩ ⟨preC_blind, va_recv hK hP hc (ent_at hs (ci_lt hc)), fun U hU hW => preC_at (av := (.ref a :: [a0, a1, a2] : List Value).map (tr ad)) hP hK hJ hSt hN hS hU hW⟩ rfl rfl (by show ls.size = _; rw [hl.2.1]) rfl (stc hst) hd ⟨Nat.zero_le _, Nat.zero_le _⟩) hS (fun H1 locs1 hP1 hS1 => ?_)
  exact k0 _ _ _ _ _ _ _ _ _ _ _ _ _ _ X F H1 locs1 ls hP1 hS1 hl
theorem e_cVv3 {a ci idx : Nat} {a0 : Value} {a1 : Value} {a2 : Value}  (hd : Dc μ pc (.invokevirtual idx) 3 pc2) (hm : Mv μ.1.cls idx ν 3 ci) (hs : sh a = ci) (hst : Nat.ble ((st.map Value.category).sum) 8 = true) (hdd : Nat.ble (dν + 1) d = true) (hC : Ct ν dν [.ref a, a0, a1, a2] σ (none, σ1)) (k0 : E μ d Z pc2 lv (st) σ1) : E μ d Z pc lv (a2 :: a1 :: a0 :: .ref a :: st) σ := by
  obtain ⟨hd, rfl⟩ := hd
  intro p l e R s m args below meth c D dA ad Q X F H locs ls hP hS hl
  obtain ⟨hx, hb, hown, hts, hK, hJ, hSt, hN, hml, hlk, hR1, hR2⟩ := id X
  obtain ⟨hm, hlk1, hin1, hse1, T', N, hc⟩ := hm
  refine W_callQ (va_runV (As := [tr ad a0, tr ad a1, tr ad a2]) (rest := st.map (tr ad)) ⟨hx, hb, hml, hown, hts⟩ (hC l D dA ad) ⟨callB_E hts hm hlk1 hdd hR1 hR2, hts _ hin1, hts _ hse1⟩ ⟨preC_blind, va_recv hK hP hc (ent_at hs (ci_lt hc)), fun U hU hW => preC_at (av := (.ref a :: [a0, a1, a2] : List Value).map (tr ad)) hP hK hJ hSt hN hS hU hW⟩ rfl rfl (by show ls.size = _; rw [hl.2.1]) rfl (stc hst) hd ⟨Nat.zero_le _, Nat.zero_le _⟩) hS (fun H1 locs1 hP1 hS1 => ?_)
  exact k0 _ _ _ _ _ _ _ _ _ _ _ _ _ _ X F H1 locs1 ls hP1 hS1 hl
theorem e_cSi3 {idx : Nat} {a0 : Value} {a1 : Value} {a2 : Value} {v : Int32} (hd : Dc μ pc (.invokestatic idx) 3 pc2) (hm : Ms μ.1.cls idx ν 3) (hst : Nat.ble ((st.map Value.category).sum) 8 = true) (hdd : Nat.ble (dν + 1) d = true) (hC : Ct ν dν [a0, a1, a2] σ (some (.int v), σ1)) (k0 : E μ d Z pc2 lv (.int v :: st) σ1) : E μ d Z pc lv (a2 :: a1 :: a0 :: st) σ := by
  obtain ⟨hd, rfl⟩ := hd
  intro p l e R s m args below meth c D dA ad Q X F H locs ls hP hS hl
  obtain ⟨hx, hb, hown, hts, hK, hJ, hSt, hN, hml, hlk, hR1, hR2⟩ := id X
  obtain ⟨hm, hlk1, hst1⟩ := hm
  refine W_callQ (va_runS (As := [tr ad a0, tr ad a1, tr ad a2]) (rest := st.map (tr ad)) ⟨hx, hb, hml, hown, hts⟩ (hC l D dA ad) ⟨callB_E hts hm hlk1 hdd hR1 hR2, hts _ hst1⟩ ⟨preC_blind, fun U hU hW => preC_at (av := ([a0, a1, a2] : List Value).map (tr ad)) hP hK hJ hSt hN hS hU hW⟩ rfl rfl (by show ls.size = _; rw [hl.2.1]) rfl (stc hst) hd ⟨Nat.zero_le _, Nat.zero_le _⟩) hS (fun H1 locs1 hP1 hS1 => ?_)
  exact k0 _ _ _ _ _ _ _ _ _ _ _ _ _ _ X F H1 locs1 ls hP1 hS1 hl
theorem e_cSl3 {idx : Nat} {a0 : Value} {a1 : Value} {a2 : Value} {v : Int64} (hd : Dc μ pc (.invokestatic idx) 3 pc2) (hm : Ms μ.1.cls idx ν 3) (hst : Nat.ble ((st.map Value.category).sum) 8 = true) (hdd : Nat.ble (dν + 1) d = true) (hC : Ct ν dν [a0, a1, a2] σ (some (.long v), σ1)) (k0 : E μ d Z pc2 lv (.long v :: st) σ1) : E μ d Z pc lv (a2 :: a1 :: a0 :: st) σ := by
  obtain ⟨hd, rfl⟩ := hd
  intro p l e R s m args below meth c D dA ad Q X F H locs ls hP hS hl
  obtain ⟨hx, hb, hown, hts, hK, hJ, hSt, hN, hml, hlk, hR1, hR2⟩ := id X
  obtain ⟨hm, hlk1, hst1⟩ := hm
  refine W_callQ (va_runS (As := [tr ad a0, tr ad a1, tr ad a2]) (rest := st.map (tr ad)) ⟨hx, hb, hml, hown, hts⟩ (hC l D dA ad) ⟨callB_E hts hm hlk1 hdd hR1 hR2, hts _ hst1⟩ ⟨preC_blind, fun U hU hW => preC_at (av := ([a0, a1, a2] : List Value).map (tr ad)) hP hK hJ hSt hN hS hU hW⟩ rfl rfl (by show ls.size = _; rw [hl.2.1]) rfl (stc hst) hd ⟨Nat.zero_le _, Nat.zero_le _⟩) hS (fun H1 locs1 hP1 hS1 => ?_)
  exact k0 _ _ _ _ _ _ _ _ _ _ _ _ _ _ X F H1 locs1 ls hP1 hS1 hl
theorem e_cSv3 {idx : Nat} {a0 : Value} {a1 : Value} {a2 : Value}  (hd : Dc μ pc (.invokestatic idx) 3 pc2) (hm : Ms μ.1.cls idx ν 3) (hst : Nat.ble ((st.map Value.category).sum) 8 = true) (hdd : Nat.ble (dν + 1) d = true) (hC : Ct ν dν [a0, a1, a2] σ (none, σ1)) (k0 : E μ d Z pc2 lv (st) σ1) : E μ d Z pc lv (a2 :: a1 :: a0 :: st) σ := by
  obtain ⟨hd, rfl⟩ := hd
  intro p l e R s m args below meth c D dA ad Q X F H locs ls hP hS hl
  obtain ⟨hx, hb, hown, hts, hK, hJ, hSt, hN, hml, hlk, hR1, hR2⟩ := id X
  obtain ⟨hm, hlk1, hst1⟩ := hm
  refine W_callQ (va_runS (As := [tr ad a0, tr ad a1, tr ad a2]) (rest := st.map (tr ad)) ⟨hx, hb, hml, hown, hts⟩ (hC l D dA ad) ⟨callB_E hts hm hlk1 hdd hR1 hR2, hts _ hst1⟩ ⟨preC_blind, fun U hU hW => preC_at (av := ([a0, a1, a2] : List Value).map (tr ad)) hP hK hJ hSt hN hS hU hW⟩ rfl rfl (by show ls.size = _; rw [hl.2.1]) rfl (stc hst) hd ⟨Nat.zero_le _, Nat.zero_le _⟩) hS (fun H1 locs1 hP1 hS1 => ?_)
  exact k0 _ _ _ _ _ _ _ _ _ _ _ _ _ _ X F H1 locs1 ls hP1 hS1 hl
theorem e_cVi4 {a ci idx : Nat} {a0 : Value} {a1 : Value} {a2 : Value} {a3 : Value} {v : Int32} (hd : Dc μ pc (.invokevirtual idx) 3 pc2) (hm : Mv μ.1.cls idx ν 4 ci) (hs : sh a = ci) (hst : Nat.ble ((st.map Value.category).sum) 8 = true) (hdd : Nat.ble (dν + 1) d = true) (hC : Ct ν dν [.ref a, a0, a1, a2, a3] σ (some (.int v), σ1)) (k0 : E μ d Z pc2 lv (.int v :: st) σ1) : E μ d Z pc lv (a3 :: a2 :: a1 :: a0 :: .ref a :: st) σ := by
  obtain ⟨hd, rfl⟩ := hd
  intro p l e R s m args below meth c D dA ad Q X F H locs ls hP hS hl
  obtain ⟨hx, hb, hown, hts, hK, hJ, hSt, hN, hml, hlk, hR1, hR2⟩ := id X
  obtain ⟨hm, hlk1, hin1, hse1, T', N, hc⟩ := hm
  refine W_callQ (va_runV (As := [tr ad a0, tr ad a1, tr ad a2, tr ad a3]) (rest := st.map (tr ad)) ⟨hx, hb, hml, hown, hts⟩ (hC l D dA ad) ⟨callB_E hts hm hlk1 hdd hR1 hR2, hts _ hin1, hts _ hse1⟩ ⟨preC_blind, va_recv hK hP hc (ent_at hs (ci_lt hc)), fun U hU hW => preC_at (av := (.ref a :: [a0, a1, a2, a3] : List Value).map (tr ad)) hP hK hJ hSt hN hS hU hW⟩ rfl rfl (by show ls.size = _; rw [hl.2.1]) rfl (stc hst) hd ⟨Nat.zero_le _, Nat.zero_le _⟩) hS (fun H1 locs1 hP1 hS1 => ?_)
  exact k0 _ _ _ _ _ _ _ _ _ _ _ _ _ _ X F H1 locs1 ls hP1 hS1 hl
theorem e_cVl4 {a ci idx : Nat} {a0 : Value} {a1 : Value} {a2 : Value} {a3 : Value} {v : Int64} (hd : Dc μ pc (.invokevirtual idx) 3 pc2) (hm : Mv μ.1.cls idx ν 4 ci) (hs : sh a = ci) (hst : Nat.ble ((st.map Value.category).sum) 8 = true) (hdd : Nat.ble (dν + 1) d = true) (hC : Ct ν dν [.ref a, a0, a1, a2, a3] σ (some (.long v), σ1)) (k0 : E μ d Z pc2 lv (.long v :: st) σ1) : E μ d Z pc lv (a3 :: a2 :: a1 :: a0 :: .ref a :: st) σ := by
  obtain ⟨hd, rfl⟩ := hd
  intro p l e R s m args below meth c D dA ad Q X F H locs ls hP hS hl
  obtain ⟨hx, hb, hown, hts, hK, hJ, hSt, hN, hml, hlk, hR1, hR2⟩ := id X
  obtain ⟨hm, hlk1, hin1, hse1, T', N, hc⟩ := hm
  refine W_callQ (va_runV (As := [tr ad a0, tr ad a1, tr ad a2, tr ad a3]) (rest := st.map (tr ad)) ⟨hx, hb, hml, hown, hts⟩ (hC l D dA ad) ⟨callB_E hts hm hlk1 hdd hR1 hR2, hts _ hin1, hts _ hse1⟩ ⟨preC_blind, va_recv hK hP hc (ent_at hs (ci_lt hc)), fun U hU hW => preC_at (av := (.ref a :: [a0, a1, a2, a3] : List Value).map (tr ad)) hP hK hJ hSt hN hS hU hW⟩ rfl rfl (by show ls.size = _; rw [hl.2.1]) rfl (stc hst) hd ⟨Nat.zero_le _, Nat.zero_le _⟩) hS (fun H1 locs1 hP1 hS1 => ?_)
  exact k0 _ _ _ _ _ _ _ _ _ _ _ _ _ _ X F H1 locs1 ls hP1 hS1 hl
theorem e_cVv4 {a ci idx : Nat} {a0 : Value} {a1 : Value} {a2 : Value} {a3 : Value}  (hd : Dc μ pc (.invokevirtual idx) 3 pc2) (hm : Mv μ.1.cls idx ν 4 ci) (hs : sh a = ci) (hst : Nat.ble ((st.map Value.category).sum) 8 = true) (hdd : Nat.ble (dν + 1) d = true) (hC : Ct ν dν [.ref a, a0, a1, a2, a3] σ (none, σ1)) (k0 : E μ d Z pc2 lv (st) σ1) : E μ d Z pc lv (a3 :: a2 :: a1 :: a0 :: .ref a :: st) σ := by
  obtain ⟨hd, rfl⟩ := hd
  intro p l e R s m args below meth c D dA ad Q X F H locs ls hP hS hl
  obtain ⟨hx, hb, hown, hts, hK, hJ, hSt, hN, hml, hlk, hR1, hR2⟩ := id X
  obtain ⟨hm, hlk1, hin1, hse1, T', N, hc⟩ := hm
  refine W_callQ (va_runV (As := [tr ad a0, tr ad a1, tr ad a2, tr ad a3]) (rest := st.map (tr ad)) ⟨hx, hb, hml, hown, hts⟩ (hC l D dA ad) ⟨callB_E hts hm hlk1 hdd hR1 hR2, hts _ hin1, hts _ hse1⟩ ⟨preC_blind, va_recv hK hP hc (ent_at hs (ci_lt hc)), fun U hU hW => preC_at (av := (.ref a :: [a0, a1, a2, a3] : List Value).map (tr ad)) hP hK hJ hSt hN hS hU hW⟩ rfl rfl (by show ls.size = _; rw [hl.2.1]) rfl (stc hst) hd ⟨Nat.zero_le _, Nat.zero_le _⟩) hS (fun H1 locs1 hP1 hS1 => ?_)
  exact k0 _ _ _ _ _ _ _ _ _ _ _ _ _ _ X F H1 locs1 ls hP1 hS1 hl
theorem e_cSi4 {idx : Nat} {a0 : Value} {a1 : Value} {a2 : Value} {a3 : Value} {v : Int32} (hd : Dc μ pc (.invokestatic idx) 3 pc2) (hm : Ms μ.1.cls idx ν 4) (hst : Nat.ble ((st.map Value.category).sum) 8 = true) (hdd : Nat.ble (dν + 1) d = true) (hC : Ct ν dν [a0, a1, a2, a3] σ (some (.int v), σ1)) (k0 : E μ d Z pc2 lv (.int v :: st) σ1) : E μ d Z pc lv (a3 :: a2 :: a1 :: a0 :: st) σ := by
  obtain ⟨hd, rfl⟩ := hd
  intro p l e R s m args below meth c D dA ad Q X F H locs ls hP hS hl
  obtain ⟨hx, hb, hown, hts, hK, hJ, hSt, hN, hml, hlk, hR1, hR2⟩ := id X
  obtain ⟨hm, hlk1, hst1⟩ := hm
  refine W_callQ (va_runS (As := [tr ad a0, tr ad a1, tr ad a2, tr ad a3]) (rest := st.map (tr ad)) ⟨hx, hb, hml, hown, hts⟩ (hC l D dA ad) ⟨callB_E hts hm hlk1 hdd hR1 hR2, hts _ hst1⟩ ⟨preC_blind, fun U hU hW => preC_at (av := ([a0, a1, a2, a3] : List Value).map (tr ad)) hP hK hJ hSt hN hS hU hW⟩ rfl rfl (by show ls.size = _; rw [hl.2.1]) rfl (stc hst) hd ⟨Nat.zero_le _, Nat.zero_le _⟩) hS (fun H1 locs1 hP1 hS1 => ?_)
  exact k0 _ _ _ _ _ _ _ _ _ _ _ _ _ _ X F H1 locs1 ls hP1 hS1 hl
theorem e_cSl4 {idx : Nat} {a0 : Value} {a1 : Value} {a2 : Value} {a3 : Value} {v : Int64} (hd : Dc μ pc (.invokestatic idx) 3 pc2) (hm : Ms μ.1.cls idx ν 4) (hst : Nat.ble ((st.map Value.category).sum) 8 = true) (hdd : Nat.ble (dν + 1) d = true) (hC : Ct ν dν [a0, a1, a2, a3] σ (some (.long v), σ1)) (k0 : E μ d Z pc2 lv (.long v :: st) σ1) : E μ d Z pc lv (a3 :: a2 :: a1 :: a0 :: st) σ := by
  obtain ⟨hd, rfl⟩ := hd
  intro p l e R s m args below meth c D dA ad Q X F H locs ls hP hS hl
  obtain ⟨hx, hb, hown, hts, hK, hJ, hSt, hN, hml, hlk, hR1, hR2⟩ := id X
  obtain ⟨hm, hlk1, hst1⟩ := hm
  refine W_callQ (va_runS (As := [tr ad a0, tr ad a1, tr ad a2, tr ad a3]) (rest := st.map (tr ad)) ⟨hx, hb, hml, hown, hts⟩ (hC l D dA ad) ⟨callB_E hts hm hlk1 hdd hR1 hR2, hts _ hst1⟩ ⟨preC_blind, fun U hU hW => preC_at (av := ([a0, a1, a2, a3] : List Value).map (tr ad)) hP hK hJ hSt hN hS hU hW⟩ rfl rfl (by show ls.size = _; rw [hl.2.1]) rfl (stc hst) hd ⟨Nat.zero_le _, Nat.zero_le _⟩) hS (fun H1 locs1 hP1 hS1 => ?_)
  exact k0 _ _ _ _ _ _ _ _ _ _ _ _ _ _ X F H1 locs1 ls hP1 hS1 hl
theorem e_cSv4 {idx : Nat} {a0 : Value} {a1 : Value} {a2 : Value} {a3 : Value}  (hd : Dc μ pc (.invokestatic idx) 3 pc2) (hm : Ms μ.1.cls idx ν 4) (hst : Nat.ble ((st.map Value.category).sum) 8 = true) (hdd : Nat.ble (dν + 1) d = true) (hC : Ct ν dν [a0, a1, a2, a3] σ (none, σ1)) (k0 : E μ d Z pc2 lv (st) σ1) : E μ d Z pc lv (a3 :: a2 :: a1 :: a0 :: st) σ := by
  obtain ⟨hd, rfl⟩ := hd
  intro p l e R s m args below meth c D dA ad Q X F H locs ls hP hS hl
  obtain ⟨hx, hb, hown, hts, hK, hJ, hSt, hN, hml, hlk, hR1, hR2⟩ := id X
  obtain ⟨hm, hlk1, hst1⟩ := hm
  refine W_callQ (va_runS (As := [tr ad a0, tr ad a1, tr ad a2, tr ad a3]) (rest := st.map (tr ad)) ⟨hx, hb, hml, hown, hts⟩ (hC l D dA ad) ⟨callB_E hts hm hlk1 hdd hR1 hR2, hts _ hst1⟩ ⟨preC_blind, fun U hU hW => preC_at (av := ([a0, a1, a2, a3] : List Value).map (tr ad)) hP hK hJ hSt hN hS hU hW⟩ rfl rfl (by show ls.size = _; rw [hl.2.1]) rfl (stc hst) hd ⟨Nat.zero_le _, Nat.zero_le _⟩) hS (fun H1 locs1 hP1 hS1 => ?_)
  exact k0 _ _ _ _ _ _ _ _ _ _ _ _ _ _ X F H1 locs1 ls hP1 hS1 hl
theorem e_cVi5 {a ci idx : Nat} {a0 : Value} {a1 : Value} {a2 : Value} {a3 : Value} {a4 : Value} {v : Int32} (hd : Dc μ pc (.invokevirtual idx) 3 pc2) (hm : Mv μ.1.cls idx ν 5 ci) (hs : sh a = ci) (hst : Nat.ble ((st.map Value.category).sum) 8 = true) (hdd : Nat.ble (dν + 1) d = true) (hC : Ct ν dν [.ref a, a0, a1, a2, a3, a4] σ (some (.int v), σ1)) (k0 : E μ d Z pc2 lv (.int v :: st) σ1) : E μ d Z pc lv (a4 :: a3 :: a2 :: a1 :: a0 :: .ref a :: st) σ := by
  obtain ⟨hd, rfl⟩ := hd
  intro p l e R s m args below meth c D dA ad Q X F H locs ls hP hS hl
  obtain ⟨hx, hb, hown, hts, hK, hJ, hSt, hN, hml, hlk, hR1, hR2⟩ := id X
  obtain ⟨hm, hlk1, hin1, hse1, T', N, hc⟩ := hm
  refine W_callQ (va_runV (As := [tr ad a0, tr ad a1, tr ad a2, tr ad a3, tr ad a4]) (rest := st.map (tr ad)) ⟨hx, hb, hml, hown, hts⟩ (hC l D dA ad) ⟨callB_E hts hm hlk1 hdd hR1 hR2, hts _ hin1, hts _ hse1⟩ ⟨preC_blind, va_recv hK hP hc (ent_at hs (ci_lt hc)), fun U hU hW => preC_at (av := (.ref a :: [a0, a1, a2, a3, a4] : List Value).map (tr ad)) hP hK hJ hSt hN hS hU hW⟩ rfl rfl (by show ls.size = _; rw [hl.2.1]) rfl (stc hst) hd ⟨Nat.zero_le _, Nat.zero_le _⟩) hS (fun H1 locs1 hP1 hS1 => ?_)
  exact k0 _ _ _ _ _ _ _ _ _ _ _ _ _ _ X F H1 locs1 ls hP1 hS1 hl
theorem e_cVl5 {a ci idx : Nat} {a0 : Value} {a1 : Value} {a2 : Value} {a3 : Value} {a4 : Value} {v : Int64} (hd : Dc μ pc (.invokevirtual idx) 3 pc2) (hm : Mv μ.1.cls idx ν 5 ci) (hs : sh a = ci) (hst : Nat.ble ((st.map Value.category).sum) 8 = true) (hdd : Nat.ble (dν + 1) d = true) (hC : Ct ν dν [.ref a, a0, a1, a2, a3, a4] σ (some (.long v), σ1)) (k0 : E μ d Z pc2 lv (.long v :: st) σ1) : E μ d Z pc lv (a4 :: a3 :: a2 :: a1 :: a0 :: .ref a :: st) σ := by
  obtain ⟨hd, rfl⟩ := hd
  intro p l e R s m args below meth c D dA ad Q X F H locs ls hP hS hl
  obtain ⟨hx, hb, hown, hts, hK, hJ, hSt, hN, hml, hlk, hR1, hR2⟩ := id X
  obtain ⟨hm, hlk1, hin1, hse1, T', N, hc⟩ := hm
  refine W_callQ (va_runV (As := [tr ad a0, tr ad a1, tr ad a2, tr ad a3, tr ad a4]) (rest := st.map (tr ad)) ⟨hx, hb, hml, hown, hts⟩ (hC l D dA ad) ⟨callB_E hts hm hlk1 hdd hR1 hR2, hts _ hin1, hts _ hse1⟩ ⟨preC_blind, va_recv hK hP hc (ent_at hs (ci_lt hc)), fun U hU hW => preC_at (av := (.ref a :: [a0, a1, a2, a3, a4] : List Value).map (tr ad)) hP hK hJ hSt hN hS hU hW⟩ rfl rfl (by show ls.size = _; rw [hl.2.1]) rfl (stc hst) hd ⟨Nat.zero_le _, Nat.zero_le _⟩) hS (fun H1 locs1 hP1 hS1 => ?_)
  exact k0 _ _ _ _ _ _ _ _ _ _ _ _ _ _ X F H1 locs1 ls hP1 hS1 hl
theorem e_cVv5 {a ci idx : Nat} {a0 : Value} {a1 : Value} {a2 : Value} {a3 : Value} {a4 : Value}  (hd : Dc μ pc (.invokevirtual idx) 3 pc2) (hm : Mv μ.1.cls idx ν 5 ci) (hs : sh a = ci) (hst : Nat.ble ((st.map Value.category).sum) 8 = true) (hdd : Nat.ble (dν + 1) d = true) (hC : Ct ν dν [.ref a, a0, a1, a2, a3, a4] σ (none, σ1)) (k0 : E μ d Z pc2 lv (st) σ1) : E μ d Z pc lv (a4 :: a3 :: a2 :: a1 :: a0 :: .ref a :: st) σ := by
  obtain ⟨hd, rfl⟩ := hd
  intro p l e R s m args below meth c D dA ad Q X F H locs ls hP hS hl
  obtain ⟨hx, hb, hown, hts, hK, hJ, hSt, hN, hml, hlk, hR1, hR2⟩ := id X
  obtain ⟨hm, hlk1, hin1, hse1, T', N, hc⟩ := hm
  refine W_callQ (va_runV (As := [tr ad a0, tr ad a1, tr ad a2, tr ad a3, tr ad a4]) (rest := st.map (tr ad)) ⟨hx, hb, hml, hown, hts⟩ (hC l D dA ad) ⟨callB_E hts hm hlk1 hdd hR1 hR2, hts _ hin1, hts _ hse1⟩ ⟨preC_blind, va_recv hK hP hc (ent_at hs (ci_lt hc)), fun U hU hW => preC_at (av := (.ref a :: [a0, a1, a2, a3, a4] : List Value).map (tr ad)) hP hK hJ hSt hN hS hU hW⟩ rfl rfl (by show ls.size = _; rw [hl.2.1]) rfl (stc hst) hd ⟨Nat.zero_le _, Nat.zero_le _⟩) hS (fun H1 locs1 hP1 hS1 => ?_)
  exact k0 _ _ _ _ _ _ _ _ _ _ _ _ _ _ X F H1 locs1 ls hP1 hS1 hl
theorem e_cSi5 {idx : Nat} {a0 : Value} {a1 : Value} {a2 : Value} {a3 : Value} {a4 : Value} {v : Int32} (hd : Dc μ pc (.invokestatic idx) 3 pc2) (hm : Ms μ.1.cls idx ν 5) (hst : Nat.ble ((st.map Value.category).sum) 8 = true) (hdd : Nat.ble (dν + 1) d = true) (hC : Ct ν dν [a0, a1, a2, a3, a4] σ (some (.int v), σ1)) (k0 : E μ d Z pc2 lv (.int v :: st) σ1) : E μ d Z pc lv (a4 :: a3 :: a2 :: a1 :: a0 :: st) σ := by
  obtain ⟨hd, rfl⟩ := hd
  intro p l e R s m args below meth c D dA ad Q X F H locs ls hP hS hl
  obtain ⟨hx, hb, hown, hts, hK, hJ, hSt, hN, hml, hlk, hR1, hR2⟩ := id X
  obtain ⟨hm, hlk1, hst1⟩ := hm
  refine W_callQ (va_runS (As := [tr ad a0, tr ad a1, tr ad a2, tr ad a3, tr ad a4]) (rest := st.map (tr ad)) ⟨hx, hb, hml, hown, hts⟩ (hC l D dA ad) ⟨callB_E hts hm hlk1 hdd hR1 hR2, hts _ hst1⟩ ⟨preC_blind, fun U hU hW => preC_at (av := ([a0, a1, a2, a3, a4] : List Value).map (tr ad)) hP hK hJ hSt hN hS hU hW⟩ rfl rfl (by show ls.size = _; rw [hl.2.1]) rfl (stc hst) hd ⟨Nat.zero_le _, Nat.zero_le _⟩) hS (fun H1 locs1 hP1 hS1 => ?_)
  exact k0 _ _ _ _ _ _ _ _ _ _ _ _ _ _ X F H1 locs1 ls hP1 hS1 hl
theorem e_cSl5 {idx : Nat} {a0 : Value} {a1 : Value} {a2 : Value} {a3 : Value} {a4 : Value} {v : Int64} (hd : Dc μ pc (.invokestatic idx) 3 pc2) (hm : Ms μ.1.cls idx ν 5) (hst : Nat.ble ((st.map Value.category).sum) 8 = true) (hdd : Nat.ble (dν + 1) d = true) (hC : Ct ν dν [a0, a1, a2, a3, a4] σ (some (.long v), σ1)) (k0 : E μ d Z pc2 lv (.long v :: st) σ1) : E μ d Z pc lv (a4 :: a3 :: a2 :: a1 :: a0 :: st) σ := by
  obtain ⟨hd, rfl⟩ := hd
  intro p l e R s m args below meth c D dA ad Q X F H locs ls hP hS hl
  obtain ⟨hx, hb, hown, hts, hK, hJ, hSt, hN, hml, hlk, hR1, hR2⟩ := id X
  obtain ⟨hm, hlk1, hst1⟩ := hm
  refine W_callQ (va_runS (As := [tr ad a0, tr ad a1, tr ad a2, tr ad a3, tr ad a4]) (rest := st.map (tr ad)) ⟨hx, hb, hml, hown, hts⟩ (hC l D dA ad) ⟨callB_E hts hm hlk1 hdd hR1 hR2, hts _ hst1⟩ ⟨preC_blind, fun U hU hW => preC_at (av := ([a0, a1, a2, a3, a4] : List Value).map (tr ad)) hP hK hJ hSt hN hS hU hW⟩ rfl rfl (by show ls.size = _; rw [hl.2.1]) rfl (stc hst) hd ⟨Nat.zero_le _, Nat.zero_le _⟩) hS (fun H1 locs1 hP1 hS1 => ?_)
  exact k0 _ _ _ _ _ _ _ _ _ _ _ _ _ _ X F H1 locs1 ls hP1 hS1 hl
theorem e_cSv5 {idx : Nat} {a0 : Value} {a1 : Value} {a2 : Value} {a3 : Value} {a4 : Value}  (hd : Dc μ pc (.invokestatic idx) 3 pc2) (hm : Ms μ.1.cls idx ν 5) (hst : Nat.ble ((st.map Value.category).sum) 8 = true) (hdd : Nat.ble (dν + 1) d = true) (hC : Ct ν dν [a0, a1, a2, a3, a4] σ (none, σ1)) (k0 : E μ d Z pc2 lv (st) σ1) : E μ d Z pc lv (a4 :: a3 :: a2 :: a1 :: a0 :: st) σ := by
  obtain ⟨hd, rfl⟩ := hd
  intro p l e R s m args below meth c D dA ad Q X F H locs ls hP hS hl
  obtain ⟨hx, hb, hown, hts, hK, hJ, hSt, hN, hml, hlk, hR1, hR2⟩ := id X
  obtain ⟨hm, hlk1, hst1⟩ := hm
  refine W_callQ (va_runS (As := [tr ad a0, tr ad a1, tr ad a2, tr ad a3, tr ad a4]) (rest := st.map (tr ad)) ⟨hx, hb, hml, hown, hts⟩ (hC l D dA ad) ⟨callB_E hts hm hlk1 hdd hR1 hR2, hts _ hst1⟩ ⟨preC_blind, fun U hU hW => preC_at (av := ([a0, a1, a2, a3, a4] : List Value).map (tr ad)) hP hK hJ hSt hN hS hU hW⟩ rfl rfl (by show ls.size = _; rw [hl.2.1]) rfl (stc hst) hd ⟨Nat.zero_le _, Nat.zero_le _⟩) hS (fun H1 locs1 hP1 hS1 => ?_)
  exact k0 _ _ _ _ _ _ _ _ _ _ _ _ _ _ X F H1 locs1 ls hP1 hS1 hl
theorem e_iret {x : Int32} (hd : Dc μ pc .ireturn 1 pc2) (ht : μ.2.2.2 = some .int) (hZ : Z = (some (.int x), σ)) : E μ d Z pc lv [.int x] σ := by
  subst hZ
  obtain ⟨hd, rfl⟩ := hd
  intro p l e R s m args below meth c D dA ad Q X F H locs ls hP hS hl
  obtain ⟨hx, hb, hown, hts, hK, hJ, hSt, hN, hml, hlk, hR1, hR2⟩ := id X
  exact F H locs ls pc hP hS hd ⟨_, ht, rfl⟩
theorem e_zret {x : Int32} (hd : Dc μ pc .ireturn 1 pc2) (ht : μ.2.2.2 = some .boolean) (hx01 : x = 0 ∨ x = 1) (hZ : Z = (some (.int x), σ)) : E μ d Z pc lv [.int x] σ := by
  subst hZ
  obtain ⟨hd, rfl⟩ := hd
  intro p l e R s m args below meth c D dA ad Q X F H locs ls hP hS hl
  obtain ⟨hx, hb, hown, hts, hK, hJ, hSt, hN, hml, hlk, hR1, hR2⟩ := id X
  exact F H locs ls pc hP hS hd ⟨_, ht, by rcases hx01 with q | q <;> rw [q] <;> rfl⟩
theorem e_lret {x : Int64} (hd : Dc μ pc .lreturn 1 pc2) (ht : μ.2.2.2 = some .long) (hZ : Z = (some (.long x), σ)) : E μ d Z pc lv [.long x] σ := by
  subst hZ
  obtain ⟨hd, rfl⟩ := hd
  intro p l e R s m args below meth c D dA ad Q X F H locs ls hP hS hl
  obtain ⟨hx, hb, hown, hts, hK, hJ, hSt, hN, hml, hlk, hR1, hR2⟩ := id X
  exact F H locs ls pc hP hS hd ht
theorem e_vret (hd : Dc μ pc .return_ 1 pc2) (ht : μ.2.2.2 = none) (hZ : Z = (none, σ)) : E μ d Z pc lv [] σ := by
  subst hZ
  obtain ⟨hd, rfl⟩ := hd
  intro p l e R s m args below meth c D dA ad Q X F H locs ls hP hS hl
  obtain ⟨hx, hb, hown, hts, hK, hJ, hSt, hN, hml, hlk, hR1, hR2⟩ := id X
  exact F H locs ls pc hP hS hd ht
theorem lv0_tr {ad : Nat → Nat} {nL : Nat} {av : List Value} : trL ad (lv0 nL av) = lv0 nL (av.map (tr ad)) := by
  have e1 : (lg_sl (av.map (tr ad))).length = (lg_sl av).length := by
    simp only [lg_sl]
    induction av with
    | nil => rfl
    | cons v t ih =>
      simp only [List.map_cons, List.flatMap_cons, List.length_append, ih, tr_cat]
      split <;> rfl
  have e2 : trL ad (av.flatMap fun v => if v.category = 2 then [some v, none] else [some v]) = (av.map (tr ad)).flatMap fun v => if v.category = 2 then [some v, none] else [some v] := by
    induction av with
    | nil => rfl
    | cons v t ih =>
      have ih := ih (by
        simp only [List.map_cons, lg_sl, List.flatMap_cons, List.length_append] at e1
        simp only [lg_sl]
        rw [tr_cat] at e1
        split at e1 <;> simpa using e1)
      simp only [List.map_cons, List.flatMap_cons, List.map_append, tr_cat]
      rw [← ih]
      congr 1
      split <;> rfl
  unfold lv0
  rw [← e2, e1, trL, List.map_append, List.map_replicate]
  rfl
theorem lv0_at {vs : List Value} {nL : Nat} (h : (lg_sl vs).length ≤ nL) : lvs (lg_sl vs ++ List.replicate (nL - (lg_sl vs).length) Slot.unset).toArray nL (lv0 nL vs) := by
  have e : (vs.flatMap fun v => if v.category = 2 then [some v, none] else [some v]) = (lg_sl vs).map (fun x => match x with | .val v => some v | _ => none) := by
    simp only [lg_sl]
    induction vs with
    | nil => rfl
    | cons v t ih =>
      have ih := ih (by simp only [lg_sl, List.flatMap_cons, List.length_append] at h ⊢; omega)
      simp only [List.flatMap_cons, List.map_append, ← ih]
      congr 1
      split <;> rfl
  have hh := lv_entry vs h
  refine ⟨?_, hh.1, hh.2.1, fun j v hj => ?_⟩
  · unfold lv0
    rw [e]
    simp only [List.length_append, List.length_map, List.length_replicate]
    omega
  · unfold lv0 at hj
    rw [e] at hj
    simp only [List.getElem?_toArray]
    by_cases hl : j < (lg_sl vs).length
    · rw [List.getElem?_append_left (by rw [List.length_map]; exact hl), List.getElem?_map] at hj
      rw [List.getElem?_append_left hl]
      cases q : (lg_sl vs)[j]? with
      | none => rw [q] at hj; cases hj
      | some x =>
        rw [q] at hj
        cases x with
        | val w => cases hj; rfl
        | _ => cases hj
    · rw [List.getElem?_append_right (by rw [List.length_map]; omega)] at hj
      exact absurd (List.eq_of_mem_replicate (List.mem_of_getElem? hj)) (by simp)
theorem Ct.ofE {av : List Value} (hy : plainName μ.1.cls = true) (hlen : Nat.ble ((lg_sl av).length) μ.2.2.1 = true) (k : E μ d Z 0 (lv0 μ.2.2.1 av) [] σ) : Ct μ d av σ Z := by
  intro l D dA ad
  refine Met.ofW (cc := μ.2.1) (maxL := μ.2.2.1) (ret := μ.2.2.2) hy rfl ?_
  intro p e s m args below meth c s₁ B hml hv
  obtain ⟨hargs, hP, hK, hJ, hSt, hN⟩ := hv
  have hts : ∀ w ∈ wsM μ, w.before args s = true := atoms_spec (ws := wsM μ) B.pre
  have hown : s.vm.findClass μ.1.cls = some m.cls := findClass_of_methodNamed B.named
  have e1 : (lg_sl (av.map (tr ad))).length = (lg_sl av).length := by
    simp only [lg_sl]
    clear hargs hlen k
    induction av with
    | nil => rfl
    | cons v t ih =>
      simp only [List.map_cons, List.flatMap_cons, List.length_append, ih, tr_cat]
      split <;> rfl
  have hlvs := lv0_at (vs := av.map (tr ad)) (nL := μ.2.2.1) (by rw [e1]; exact Nat.le_of_ble_eq_true hlen)
  rw [← lv0_tr] at hlvs
  have hent : entryFrame m args μ.2.2.1 = F0 m 0 ((lg_sl (av.map (tr ad)) ++ List.replicate (μ.2.2.1 - (lg_sl (av.map (tr ad))).length) Slot.unset).toArray) [] := by
    rw [hargs]; exact lg_entry_eq m _ _
  rw [hent]
  refine k p l e (headSpec (wsM μ) (rm d)).room s m args below meth c D dA ad _ ⟨B.exec, B.bytes, hown, fun w hw => hts w (List.mem_cons_of_mem _ hw), hK, hJ, hSt, hN, hml, B.notSynchronized, Nat.le_refl _, Nat.le_refl _⟩ ?_ s.heap [] _ hP va_S.rf hlvs
  intro H locs ls pc hP hS
  obtain ⟨zv, zs⟩ := Z
  cases zv with
  | none =>
    intro hd ht
    exact W.vret B.exec B.bytes (B.returns.trans ht) (fun t ht hW => ⟨⟨rfl, by rw [ht]; exact hP⟩, hS.F ht⟩) hS.2.2 hd B.notSynchronized
  | some v =>
    cases v with
    | int v =>
      rintro hd ⟨ty, ht, hn⟩
      exact W.zret B.exec B.bytes (B.returns.trans ht) hn (fun t ht hW => ⟨⟨rfl, by rw [ht]; exact hP⟩, hS.F ht⟩) hS.2.2 hd B.notSynchronized
    | long v =>
      intro hd ht
      exact W.lret B.exec B.bytes (B.returns.trans ht) (fun t ht hW => ⟨⟨rfl, by rw [ht]; exact hP⟩, hS.F ht⟩) hS.2.2 hd B.notSynchronized
    | _ => trivial
end CallsE
section RowsS
variable {μ : MI} {d : Nat} {Z : Option Value × St} {pc pc2 : Nat} {lv : List (Option Value)} {st : List Value} {σ : St} {T : Type} {r : T}
/-- a place known of a static row, through its address -/
theorem tr_lo {ad : Nat → Nat} {i : Nat} : tr ad (.ref i) = .ref (ad i) := rfl
theorem e_alenW (hd : Dc μ pc (.arraylength) 1 pc2) (k0 : E μ d Z pc2 lv (.int (nI 27) :: st) σ) : E μ d Z pc lv (.ref 1027 :: st) σ := by
  obtain ⟨hd, rfl⟩ := hd
  intro p l e R s m args below meth c D dA ad Q X F H locs ls hP hS hl
  obtain ⟨hx, hb, hown, hts, hK, hJ, hSt, hN, hml, hlk, hR1, hR2⟩ := id X
  exact va_tlen hx hb hSt.2.2.1 hS rfl hd (k0 _ _ _ _ _ _ _ _ _ _ _ _ _ _ X F H locs ls hP hS hl)
theorem e_aaldW {i : Int32} {K : Nat → Option T} (hd : Dc μ pc (.aaload) 1 pc2) (h : ald (fun j => 1000 + j) 27 i K = some r) (k0 : ∀ a, K a = some r → E μ d Z pc2 lv (.ref a :: st) σ) : E μ d Z pc lv (.int i :: .ref 1027 :: st) σ := by
  unfold ald at h
  split at h
  · cases h
  next hin =>
  replace k0 := k0 _ h
  obtain ⟨hd, rfl⟩ := hd
  intro p l e R s m args below meth c D dA ad Q X F H locs ls hP hS hl
  obtain ⟨hx, hb, hown, hts, hK, hJ, hSt, hN, hml, hlk, hR1, hR2⟩ := id X
  exact vb_tq hx hb hSt.2.2.1 hS hin rfl hd (k0 _ _ _ _ _ _ _ _ _ _ _ _ _ _ X F H locs ls hP hS hl)
theorem e_gcode {a idx : Nat} {K : Int64 → Option T} (hd : Dc μ pc (.getfield idx) 3 pc2) (hw : Cond.fieldLink μ.1.cls idx "CoastLights$Word" "code" "J" ∈ tb) (h : wcd a K = some r) (k0 : ∀ v, K v = some r → E μ d Z pc2 lv (.long v :: st) σ) : E μ d Z pc lv (.ref a :: st) σ := by
  unfold wcd at h
  by_cases hin : 1000 ≤ a ∧ a < 1027
  rotate_left
  · rw [if_neg hin] at h; cases h
  rw [if_pos hin] at h
  replace k0 := k0 _ h
  obtain ⟨i, rfl, hi⟩ : ∃ i, a = 1000 + i ∧ i < 27 := ⟨a - 1000, by omega, by omega⟩
  rw [Nat.add_sub_cancel_left] at k0
  obtain ⟨hd, rfl⟩ := hd
  intro p l e R s m args below meth c D dA ad Q X F H locs ls hP hS hl
  obtain ⟨hx, hb, hown, hts, hK, hJ, hSt, hN, hml, hlk, hR1, hR2⟩ := id X
  exact vk_getf hx hb (hSt.1 i hi).2 hS hown (hts _ hw) (fun _ h => h) hd (k0 _ _ _ _ _ _ _ _ _ _ _ _ _ _ X F H locs ls hP hS hl)
theorem e_ialdx {i : Int32} {K : Int32 → Option T} (hd : Dc μ pc (.iaload) 1 pc2) (h : ald sx 9 i K = some r) (k0 : ∀ v, K v = some r → E μ d Z pc2 lv (.int v :: st) σ) : E μ d Z pc lv (.int i :: .ref 1028 :: st) σ := by
  unfold ald at h
  split at h
  · cases h
  next hin =>
  replace k0 := k0 _ h
  obtain ⟨hd, rfl⟩ := hd
  intro p l e R s m args below meth c D dA ad Q X F H locs ls hP hS hl
  obtain ⟨hx, hb, hown, hts, hK, hJ, hSt, hN, hml, hlk, hR1, hR2⟩ := id X
  exact va_ti hx hb hSt.2.2.2.2.1 hS hin rfl hd (k0 _ _ _ _ _ _ _ _ _ _ _ _ _ _ X F H locs ls hP hS hl)
theorem e_ialdy {i : Int32} {K : Int32 → Option T} (hd : Dc μ pc (.iaload) 1 pc2) (h : ald sy 9 i K = some r) (k0 : ∀ v, K v = some r → E μ d Z pc2 lv (.int v :: st) σ) : E μ d Z pc lv (.int i :: .ref 1029 :: st) σ := by
  unfold ald at h
  split at h
  · cases h
  next hin =>
  replace k0 := k0 _ h
  obtain ⟨hd, rfl⟩ := hd
  intro p l e R s m args below meth c D dA ad Q X F H locs ls hP hS hl
  obtain ⟨hx, hb, hown, hts, hK, hJ, hSt, hN, hml, hlk, hR1, hR2⟩ := id X
  exact va_ti hx hb hSt.2.2.2.2.2.2.1 hS hin rfl hd (k0 _ _ _ _ _ _ _ _ _ _ _ _ _ _ X F H locs ls hP hS hl)
theorem e_tswk {df lo hi : Int} {offs : Array Int} {len kk : Nat} {x : Int32} {off : Int} {tgt : Nat} (hd : Dc μ pc (.tableswitch df lo hi offs) len pc2) (hx : x = nI kk) (hk : kk < 2 ^ 31) (h1 : ¬ (kk : Int) < lo) (h2 : ¬ hi < (kk : Int)) (ho : offs[((kk : Int) - lo).toNat]? = some off) (ht : (pc : Int) + off = (tgt : Int)) (k : E μ d Z tgt lv st σ) : E μ d Z pc lv (.int x :: st) σ := by
  subst hx
  have e := nI_toInt hk
  exact e_tswi hd (by rw [e]; exact h1) (by rw [e]; exact h2) (by rw [e]; exact ho) ht k
theorem tsw_def {x : Int32} {lo n : Nat} (hn : lo + n < 2 ^ 31) (h : ∀ k, k < n → ¬ x = nI (lo + k)) : x.toInt < (lo : Int) ∨ (lo : Int) + n - 1 < x.toInt := by
  refine tsw_out n (fun k hk e => h k hk ?_)
  apply Int32.toInt_inj.mp
  rw [nI_toInt (by omega), e]
  omega
theorem bd_e {α : Type} {x : Option (α × St)} {K : α → St → Option T} (h : bd x K = some r) : ∃ v s, x = some (v, s) ∧ K v s = some r := by
  cases x with
  | none => cases h
  | some q => exact ⟨q.1, q.2, rfl, h⟩
theorem bp_e {α : Type} {x : Option α} {K : α → Option T} (h : bp x K = some r) : ∃ v, x = some v ∧ K v = some r := by
  cases x with
  | none => cases h
  | some q => exact ⟨q, rfl, h⟩
end RowsS
def mn (x y : Int32) : Int32 := if y < x then y else x
def mx (x y : Int32) : Int32 := if x < y then y else x
def Mth (own : String) (idx : Nat) (nm : MethodName) (cd : ByteArray) : Prop := Cond.methodLink own idx nm ∈ tb ∧ Cond.static nm ∈ tb ∧ Cond.initialized "java/lang/Math" ∈ tb ∧ Cond.code nm cd 2 (some .int) ∈ tb
section RowsM
variable {μ : MI} {d : Nat} {Z : Option Value × St} {pc pc2 : Nat} {lv : List (Option Value)} {st : List Value} {σ : St} {T : Type} {r : T}
theorem e_mmin {x y : Int32} {idx : Nat} {K : Int32 → Option T} (hd : Dc μ pc (.invokestatic idx) 3 pc2) (hw : Mth μ.1.cls idx Lib.Math.min.name Lib.Math.min.code) (hd3 : 1 ≤ d) (hst : Nat.ble ((st.map Value.category).sum) 8 = true) (h : vl (mn x y) K = some r) (k0 : ∀ v, K v = some r → E μ d Z pc2 lv (.int v :: st) σ) : E μ d Z pc lv (.int y :: .int x :: st) σ := by
  obtain ⟨w1, w2, w3, w4⟩ := hw
  replace k0 := k0 _ h
  obtain ⟨hd, rfl⟩ := hd
  intro p l e R s m args below meth c D dA ad Q X F H locs ls hP hS hl
  obtain ⟨hx, hb, hown, hts, hK, hJ, hSt, hN, hml, hlk, hR1, hR2⟩ := id X
  have hst2 : ((st.map (tr ad)).map fun v => v.category).sum ≤ 8 := by rw [tr_cats]; exact Nat.le_of_ble_eq_true hst
  exact va_mmin hx hb (by rw [hml]; exact hl.2.1.symm) hown (hts _ w1) (hts _ w2) (hts _ w3) (hts _ w4) (by omega) (by omega) (Nat.zero_le _) (Nat.zero_le _) hd (k0 _ _ _ _ _ _ _ _ _ _ _ _ _ _ X F H locs ls hP hS hl)
theorem e_mmax {x y : Int32} {idx : Nat} {K : Int32 → Option T} (hd : Dc μ pc (.invokestatic idx) 3 pc2) (hw : Mth μ.1.cls idx Lib.Math.max.name Lib.Math.max.code) (hd3 : 1 ≤ d) (hst : Nat.ble ((st.map Value.category).sum) 8 = true) (h : vl (mx x y) K = some r) (k0 : ∀ v, K v = some r → E μ d Z pc2 lv (.int v :: st) σ) : E μ d Z pc lv (.int y :: .int x :: st) σ := by
  obtain ⟨w1, w2, w3, w4⟩ := hw
  replace k0 := k0 _ h
  obtain ⟨hd, rfl⟩ := hd
  intro p l e R s m args below meth c D dA ad Q X F H locs ls hP hS hl
  obtain ⟨hx, hb, hown, hts, hK, hJ, hSt, hN, hml, hlk, hR1, hR2⟩ := id X
  have hst2 : ((st.map (tr ad)).map fun v => v.category).sum ≤ 8 := by rw [tr_cats]; exact Nat.le_of_ble_eq_true hst
  exact va_mmax hx hb (by rw [hml]; exact hl.2.1.symm) hown (hts _ w1) (hts _ w2) (hts _ w3) (hts _ w4) (by omega) (by omega) (Nat.zero_le _) (Nat.zero_le _) hd (k0 _ _ _ _ _ _ _ _ _ _ _ _ _ _ X F H locs ls hP hS hl)
end RowsM
