/-! construction: stores into arrays, calls, the end -/
section RowsB2
variable {μ : MI} {d n0 : Nat} {Z : BSt} {pc pc2 : Nat} {lv : List (Option Value)} {st : List Value} {n : Nat} {σ : St} {ν : Nat → Nat → Bool}
theorem vpin {i N : Nat} (h : i < N) (hN : N < 2147483648) : vp_in (nI i) N := nI_in h hN
theorem b_iast {a N i : Nat} {x : Int32} (hd : Dc μ pc (.iastore) 1 pc2) (hs : sh a = 20) (hn : ln a = N) (hi : i < N) (hN9 : Nat.ble N 100000 = true) (ha : a < n) (k0 : BE μ d n0 Z pc2 lv st n (sI σ a i x) ν) : BE μ d n0 Z pc lv (.int x :: .int (nI i) :: .ref a :: st) n σ ν := by
  subst hn
  have hN9 : ln a ≤ 100000 := Nat.le_of_ble_eq_true hN9
  obtain ⟨hd, rfl⟩ := hd
  intro p l e R s m args below meth c D dA ad B Q X F H locs ls hW hS hl
  obtain ⟨hx, hb, hown, hts, hK, hL, hB, hN, hml, hlk, hR1, hR2, hnm, hR3, hR4, hR5⟩ := id X
  have he : (cw ad dA n σ ν)[a]? = some (ad a, .inl (dA 20, ln a, .inl (σ.1 a))) := by rw [cw_get ha, en2_i hs (by decide) (by decide)]
  have hDD := cw_D (dA := dA) (σ := σ) (ν := ν) hL hW.1.2.2
  have ec : (nI i).toNatClampNeg = i := nI_clamp (by omega)
  refine W.iast hx hb (hW.2.1 a _ he) ((hK.2 0 (dA 20, .int) rfl).1 (ln a) (fun j => .int (σ.1 a j))) (fun q => by cases q) (by show ¬ (nI i < 0 ∨ (arrV _ _ _).slots.size ≤ _); rw [arrV_size]; exact vpin (N := ln a) hi (by omega)) rfl rfl hd fun H1 e z oq => ?_
  have P1 := hW.2.1.set hDD he (e := .inl (dA 20, ln a, .inl (upd (σ.1 a) i x))) (by
    show H1[ad a]? = some (vp_cell _ _)
    rw [e, ec]
    show some ((vp_cell (dA 20) (ln a, .inl (σ.1 a))).setSlot i (.int x)) = _
    rw [vp_cell_i, vp_cell_i, arrV_store]
    congr 2
    funext q
    by_cases hq : q = i
    · subst hq; simp [updV, upd]
    · simp [updV, upd, hq]) oq
  have es : (cw ad dA n σ ν).set a (ad a, .inl (dA 20, ln a, .inl (upd (σ.1 a) i x))) = cw ad dA n (sI σ a i x) ν := by
    rw [← cw_set (σ := σ) (ν := ν) (τ := sI σ a i x) (ξ := ν) (i := a) (fun j hj => en2_cong (sI_ne hj).symm rfl rfl), en2_i hs (by decide) (by decide), sI_eq]
  rw [es] at P1
  exact k0 _ _ _ _ _ _ _ _ _ _ _ _ _ _ _ X F H1 _ ls ⟨⟨z.trans hW.1.1, hW.1.2⟩, P1, hW.2.2.sI ha⟩ (hS.put z oq (hDD.2 a _ he)) hl
theorem b_last {a N i : Nat} {x : Int64} (hd : Dc μ pc (.lastore) 1 pc2) (hs : sh a = 23) (hn : ln a = N) (hi : i < N) (hN9 : Nat.ble N 100000 = true) (ha : a < n) (k0 : BE μ d n0 Z pc2 lv st n (sL σ a i x) ν) : BE μ d n0 Z pc lv (.long x :: .int (nI i) :: .ref a :: st) n σ ν := by
  subst hn
  have hN9 : ln a ≤ 100000 := Nat.le_of_ble_eq_true hN9
  obtain ⟨hd, rfl⟩ := hd
  intro p l e R s m args below meth c D dA ad B Q X F H locs ls hW hS hl
  obtain ⟨hx, hb, hown, hts, hK, hL, hB, hN, hml, hlk, hR1, hR2, hnm, hR3, hR4, hR5⟩ := id X
  have he : (cw ad dA n σ ν)[a]? = some (ad a, .inl (dA 23, ln a, .inr (.inl (σ.2 a)))) := by rw [cw_get ha, en2_l hs]
  have hDD := cw_D (dA := dA) (σ := σ) (ν := ν) hL hW.1.2.2
  have ec : (nI i).toNatClampNeg = i := nI_clamp (by omega)
  refine W.last hx hb (hW.2.1 a _ he) ((hK.2 3 (dA 23, .long) rfl).1 (ln a) (fun j => .long (σ.2 a j))) (fun q => by cases q) (by show ¬ (nI i < 0 ∨ (arrV _ _ _).slots.size ≤ _); rw [arrV_size]; exact vpin (N := ln a) hi (by omega)) rfl rfl hd fun H1 e z oq => ?_
  have P1 := hW.2.1.set hDD he (e := .inl (dA 23, ln a, .inr (.inl (vp_updL (σ.2 a) i x)))) (by
    show H1[ad a]? = some (vp_cell _ _)
    rw [e, ec]
    show some ((vp_cell (dA 23) (ln a, .inr (.inl (σ.2 a)))).setSlot i (.long x)) = _
    rw [vp_cell_l, vp_cell_l, arrV_store]
    congr 2
    funext q
    by_cases hq : q = i
    · subst hq; simp [updV, vp_updL]
    · simp [updV, vp_updL, hq]) oq
  have es : (cw ad dA n σ ν).set a (ad a, .inl (dA 23, ln a, .inr (.inl (vp_updL (σ.2 a) i x)))) = cw ad dA n (sL σ a i x) ν := by
    rw [← cw_set (σ := σ) (ν := ν) (τ := sL σ a i x) (ξ := ν) (i := a) (fun j hj => en2_cong rfl (sL_ne hj).symm rfl), en2_l hs, sL_eq]
  rw [es] at P1
  exact k0 _ _ _ _ _ _ _ _ _ _ _ _ _ _ _ X F H1 _ ls ⟨⟨z.trans hW.1.1, hW.1.2⟩, P1, hW.2.2.sL ha⟩ (hS.put z oq (hDD.2 a _ he)) hl
theorem b_ialdv {a N i : Nat} (hd : Dc μ pc (.iaload) 1 pc2) (hs : sh a = 20) (hn : ln a = N) (hi : i < N) (hN9 : Nat.ble N 100000 = true) (ha : a < n) (k0 : BE μ d n0 Z pc2 lv (.int (σ.1 a i) :: st) n σ ν) : BE μ d n0 Z pc lv (.int (nI i) :: .ref a :: st) n σ ν := by
  subst hn
  have hN9 : ln a ≤ 100000 := Nat.le_of_ble_eq_true hN9
  obtain ⟨hd, rfl⟩ := hd
  intro p l e R s m args below meth c D dA ad B Q X F H locs ls hW hS hl
  obtain ⟨hx, hb, hown, hts, hK, hL, hB, hN, hml, hlk, hR1, hR2, hnm, hR3, hR4, hR5⟩ := id X
  have he : (cw ad dA n σ ν)[a]? = some (ad a, .inl (dA 20, ln a, .inl (σ.1 a))) := by rw [cw_get ha, en2_i hs (by decide) (by decide)]
  have ec : (nI i).toNatClampNeg = i := nI_clamp (by omega)
  refine va_iald hx hb hK hW.2.1 a 0 he rfl (vpin (N := ln a) hi (by omega)) hd ?_
  rw [ec]
  exact k0 _ _ _ _ _ _ _ _ _ _ _ _ _ _ _ X F H locs ls hW hS hl
theorem b_aast {a c ci i v : Nat} {C : String} {T' : u_T} {N' : Nat} (hd : Dc μ pc (.aastore) 1 pc2) (hs : sh a = c) (hc24 : 24 ≤ c) (hty : ∀ dA : Nat → ClassId, (tys dA)[c - 20]? = some (dA c, .object C)) (hc : vwCl[ci]? = some (C, T', N')) (hv : sh v = ci) (hr : rr a i = v) (hi : i < ln a) (hN9 : Nat.ble (ln a) 100000 = true) (ha : a < n) (hvn : v < n) (k0 : BE μ d n0 Z pc2 lv st n σ (nset ν a i)) : BE μ d n0 Z pc lv (.ref v :: .int (nI i) :: .ref a :: st) n σ ν := by
  have hN9 : ln a ≤ 100000 := Nat.le_of_ble_eq_true hN9
  obtain ⟨hd, rfl⟩ := hd
  intro p l e R s m args below meth c1 D dA ad B Q X F H locs ls hW hS hl
  obtain ⟨hx, hb, hown, hts, hK, hL, hB, hN, hml, hlk, hR1, hR2, hnm, hR3, hR4, hR5⟩ := id X
  have he : (cw ad dA n σ ν)[a]? = some (ad a, .inl (dA c, ln a, .inr (.inr (.inr (.inr (fun j => if ν a j = true then none else some (ad (rr a j)))))))) := by rw [cw_get ha, en2_r hs hc24]
  have hDD := cw_D (dA := dA) (σ := σ) (ν := ν) hL hW.1.2.2
  have ec : (nI i).toNatClampNeg = i := nI_clamp (by omega)
  obtain ⟨r', hr', cellV, g1, g2, g3, -⟩ := hW.2.1 v _ (by rw [cw_get hvn, en2_o hv (ci_lt hc)])
  have hcls := (hK.1 ci _ hc).2
  obtain ⟨kA, comp, k1, k2, k3, -⟩ := (hK.2 (c - 20) _ (hty dA)).2
  have hcomp : comp = D.1 ci := Option.some.inj (k3.symm.trans hcls.1)
  subst hcomp
  obtain ⟨kC, hkC, -⟩ := hcls.2
  refine W.aast hx hb (hW.2.1 a _ he) (fun q h => by cases h) (fun h => by cases h) k1 k2 rfl hkC ⟨nI_pos (by omega), by show _ < (arrV _ _ _).slots.size; rw [arrV_size, ec]; exact hi⟩ g1 (fun q h => by rw [g3] at h; cases h) (by rw [g2]; exact hkC) (by rw [g2]; exact va_assign hcls) rfl rfl hd fun H1 e z oq => ?_
  have P1 := hW.2.1.set hDD he (e := .inl (dA c, ln a, .inr (.inr (.inr (.inr (fun j => if nset ν a i a j = true then none else some (ad (rr a j)))))))) (by
    show H1[ad a]? = some (vp_cell _ _)
    rw [e, ec]
    show some ((vp_cell (dA c) (ln a, .inr (.inr (.inr (.inr (fun j => if ν a j = true then none else some (ad (rr a j)))))))).setSlot i (.ref (ad v))) = _
    rw [vp_cell_q, vp_cell_q, arrV_store]
    congr 2
    funext q
    by_cases hq : q = i
    · subst hq; subst hr; simp [updV, nset, va_rf]
    · simp [updV, nset, hq]) oq
  have es : (cw ad dA n σ ν).set a (ad a, .inl (dA c, ln a, .inr (.inr (.inr (.inr (fun j => if nset ν a i a j = true then none else some (ad (rr a j)))))))) = cw ad dA n σ (nset ν a i) := by
    rw [← cw_set (σ := σ) (ν := ν) (τ := σ) (ξ := nset ν a i) (i := a) (fun j hj => en2_cong rfl rfl (nset_ne hj).symm), en2_r hs hc24]
  rw [es] at P1
  exact k0 _ _ _ _ _ _ _ _ _ _ _ _ _ _ _ X F H1 _ ls ⟨⟨z.trans hW.1.1, hW.1.2⟩, P1, hW.2.2.ns ha⟩ (hS.put z oq (hDD.2 a _ he)) hl
theorem b_obj {a idx : Nat} (hd : Dc μ pc (.invokespecial idx) 3 pc2) (h1 : Cond.methodLink μ.1.cls idx objectInit ∈ tb) (h2 : Cond.instanceMethod objectInit ∈ tb) (h3 : Cond.code objectInit ⟨#[0xb1]⟩ 1 none ∈ tb) (hst : Nat.ble ((st.map Value.category).sum) 8 = true) (hdd : Nat.ble 1 d = true) (k0 : BE μ d n0 Z pc2 lv st n σ ν) : BE μ d n0 Z pc lv (.ref a :: st) n σ ν := by
  obtain ⟨hd, rfl⟩ := hd
  intro p l e R s m args below meth c D dA ad B Q X F H locs ls hW hS hl
  obtain ⟨hx, hb, hown, hts, hK, hL, hB, hN, hml, hlk, hR1, hR2, hnm, hR3, hR4, hR5⟩ := id X
  have hdd := Nat.le_of_ble_eq_true hdd
  have hc8 : 2 * (F0 m pc ls (st.map (tr ad))).monitorRoom + ((st.map (tr ad)).map fun v => v.category).sum ≤ 8 := stc hst
  exact W.objInit hx hb hown (hts _ h1) (hts _ h2) (hts _ h3) rfl (by show ls.size = _; rw [hl.2.1, hml]) rfl hd (by omega) (by show 2 * (F0 m pc ls (st.map (tr ad))).monitorRoom + _ + 12 ≤ _; omega) (k0 _ _ _ _ _ _ _ _ _ _ _ _ _ _ _ X F H locs ls hW hS hl)
theorem b_ret (hd : Dc μ pc (.return_) 1 pc2) (hr : μ.2.2.2 = none) (hZ : Z = (n, σ, ν)) : BE μ d n0 Z pc lv [] n σ ν := by
  subst hZ
  obtain ⟨hd, rfl⟩ := hd
  intro p l e R s m args below meth c D dA ad B Q X F H locs ls hW hS hl
  obtain ⟨hx, hb, hown, hts, hK, hL, hB, hN, hml, hlk, hR1, hR2, hnm, hR3, hR4, hR5⟩ := id X
  exact F H locs ls pc hW hS hd hr
/-! calls -/
theorem bpre_blind {D : va_G} {dA : Nat → ClassId} {ad : Nat → Nat} {B n : Nat} {σ : St} {ν : Nat → Nat → Bool} {av : List Value} : FrameBlind (va_Pc av (BPre D dA ad B n σ ν)) := fun a U g mk q => by
  obtain ⟨h1, h2, h3, h4⟩ := q
  exact ⟨h1, h2, va_K.moved (u := U) (U := U.calling g mk a) (Vm.Alike.refl U.vm) h3, Nsa.same (s := U) (U := U.calling g mk a) rfl h4⟩
theorem bpre_at {D : va_G} {dA : Nat → ClassId} {ad : Nat → Nat} {B n : Nat} {σ : St} {ν : Nat → Nat → Bool} {av : List Value} {s U : State} {H : Heap} (hW : Wd D dA ad B n0 n σ ν H) (hK : va_K D vwCl (tys dA) s) (hN : Nsa ad s) (hU : U.heap = H) (hWm : s.WarmedH U.vm) : va_Pc av (BPre D dA ad B n σ ν) av.toArray U :=
  ⟨rfl, by rw [hU]; exact ⟨⟨hW.1.1, Nat.le_refl _, hW.1.2.2⟩, hW.2⟩, va_K.moved hWm.alike hK, hN.warm hWm⟩
theorem W_callB {p : Program} {l : Launch} {e : Env} {R : Room} {s : State} {m : MethodId} {args : Array Value} {below : List Frame} {meth : Method} {c : Code} {H : Heap} {locs : List Loc} {Q : State → Prop} {D : va_G} {dA : Nat → ClassId} {ad : Nat → Nat} {B nn cells slots mc ms : Nat} {X2 : BSt} {ls : Array Slot} {st0 rest : List Value} {a : Array Value}
    (hr : va_Run p l e R s m args below meth c H locs cells slots mc ms (F0 m pc ls st0) rest (BQ D dA ad B nn X2 a) (AB B)) (hS : va_S (AB B) s.heap H locs)
    (kk : ∀ (H1 : Heap) (locs1 : List Loc), Wd D dA ad B nn X2.1 X2.2.1 X2.2.2 H1 → va_S (AB B) s.heap H1 locs1 → W p l e R s m args below meth c H1 locs1 (cells + mc) (slots + ms) Q (F0 m (pc + 3) ls rest)) : W p l e R s m args below meth c H locs cells slots Q (F0 m pc ls st0) := by
  intro T hT X
  obtain ⟨v, st₀, t, T', L, h0, X', hL, e1, e2, ⟨⟨hv, hp⟩, hz, hk⟩, st⟩ := hr T hT X
  cases hv
  rw [h0] at hz hk
  obtain ⟨t2, a1, b1⟩ := kk T'.heap (locs ++ L) (by rw [e1]; exact hp)
    ⟨Nat.le_trans hS.1 (by rw [e1]; exact hz), fun q h1 h2 => by rw [e1, hk q (Nat.lt_of_lt_of_le h1 hS.1) h2]; exact hS.2.1 q h1 h2, fun q hq => by
      rcases List.mem_append.mp hq with h | h
      · exact hS.2.2 q h
      · exact hL q h⟩ T' rfl X'
  exact ⟨t2, st t2 a1, b1⟩
theorem callB_B {y : MethodName} {bs : ByteArray} {mL : Nat} {ret : Option FieldType} {nA dν mc ms : Nat} {R : Room} {s : State} {args : Array Value} {own : String} {idx : Nat} (hts : ∀ w ∈ tb, w.before args s = true) (hm : Mw (y, bs, mL, ret) nA) (hl : Cond.methodLink own idx y ∈ tb) (hdd : Nat.ble (dν + 1) d = true) (hR1 : d ≤ R.frames) (hR2 : 40 * d ≤ R.locals) : CallB R s args own idx y bs mL ret (wsM (y, bs, mL, ret)) (rmB dν mc ms) mc ms nA := by
  obtain ⟨h1, h2, h3, h4, h5⟩ := hm
  have hdd := Nat.le_of_ble_eq_true hdd
  have e1 : (rmB dν mc ms).frames = dν := rfl
  have e2 : (rmB dν mc ms).locals = 40 * dν := rfl
  exact ⟨rfl, rfl, by omega, by dsimp only at h5; omega, pay_in hts (fun w hw => ⟨tb_head (μ := (y, bs, mL, ret)) h1 w hw, (tb_good w (tb_head (μ := (y, bs, mL, ret)) h1 w hw)).2⟩), List.mem_cons_self, hts _ h1, hts _ h2, h3, h4, hts _ hl⟩
theorem bK {R : Room} {n2 nz : Nat} {p : Program} {l : Launch} {e : Env} {s : State} {m : MethodId} {args : Array Value} {below : List Frame} {meth : Method} {c : Code} {H : Heap} {locs : List Loc} {Q : State → Prop} {g : JFrame} (h0 : n0 ≤ n) (h2 : n ≤ n2) (k : W p l e R s m args below meth c H locs (n2 - n0) (SW n2 - SW n0) Q g) : W p l e R s m args below meth c H locs (n - n0 + (n2 - n)) (SW n - SW n0 + (SW n2 - SW n)) Q g := by
  have a1 := SW_mono h0
  have a2 := SW_mono h2
  rw [show n - n0 + (n2 - n) = n2 - n0 by omega, show SW n - SW n0 + (SW n2 - SW n) = SW n2 - SW n0 by omega]
  exact k
theorem b_iniP0 {a idx dν : Nat} {y : MethodName} {bs : ByteArray} {mL : Nat} {X2 : BSt} (hd : Dc μ pc (.invokespecial idx) 3 pc2) (hm : MwI μ.1.cls idx (y, bs, mL, none) 0) (hst : Nat.ble ((st.map Value.category).sum) 8 = true) (hdd : Nat.ble (dν + 1) d = true) (hC : BCt (y, bs, mL, none) dν (.ref a :: []) n σ ν X2) (hZ : X2.1 ≤ Z.1) (k0 : BE μ d n0 Z pc2 lv st X2.1 X2.2.1 X2.2.2) : BE μ d n0 Z pc lv (.ref a :: st) n σ ν := by
  obtain ⟨hm, hnm1, hin1, -, hlk1⟩ := hm
  obtain ⟨hd, rfl⟩ := hd
  intro p l e R s m args below meth c D dA ad B Q X F H locs ls hW hS hl
  obtain ⟨hx, hb, hown, hts, hK, hL, hB, hN, hml, hlk, hR1, hR2, hnm, hR3, hR4, hR5⟩ := id X
  have s1 := SW_mono hW.1.2.1
  have s2 := SW_mono hC.1
  have s3 := SW_mono hZ
  have g0 := hW.1.2.1
  have g1 := hC.1
  refine W_callB (va_runI (As := []) (rest := st.map (tr ad)) ⟨hx, hb, hml, hown, hts⟩ (hC.2.2 l D dA ad B hL) ⟨callB_B hts hm hlk1 hdd hR1 hR2, hnm1, hts _ hin1⟩ ⟨bpre_blind, fun U hU hWm => bpre_at (av := (.ref a :: [] : List Value).map (tr ad)) hW hK hN hU hWm⟩ rfl rfl (by show ls.size = _; rw [hl.2.1]) rfl (stc hst) hd ⟨by omega, by omega⟩) hS (fun H1 locs1 hW1 hS1 => ?_)
  exact bK (nz := 0) hW.1.2.1 hC.1 (k0 _ _ _ _ _ _ _ _ _ _ _ _ _ _ _ X F H1 locs1 ls ⟨⟨hW1.1.1, Nat.le_trans hW.1.2.1 hC.1, hW1.1.2.2⟩, hW1.2⟩ hS1 hl)
theorem callB_N {y : MethodName} {bs : ByteArray} {mL : Nat} {ret : Option FieldType} {nA dν mc ms : Nat} {R : Room} {s : State} {args : Array Value} {own host : String} {idx : Nat} (hts : ∀ w ∈ tb, w.before args s = true) (hm : Mw (y, bs, mL, ret) nA) (hl : (Cond.methodLinkNest own idx y host).before args s = true) (hdd : Nat.ble (dν + 1) d = true) (hR1 : d ≤ R.frames) (hR2 : 40 * d ≤ R.locals) : va_CN R s args own idx y host bs mL ret (wsM (y, bs, mL, ret)) (rmB dν mc ms) mc ms nA := by
  obtain ⟨h1, h2, h3, h4, h5⟩ := hm
  have hdd := Nat.le_of_ble_eq_true hdd
  have e1 : (rmB dν mc ms).frames = dν := rfl
  have e2 : (rmB dν mc ms).locals = 40 * dν := rfl
  exact ⟨⟨rfl, rfl, by omega, by dsimp only at h5; omega, pay_in hts (fun w hw => ⟨tb_head (μ := (y, bs, mL, ret)) h1 w hw, (tb_good w (tb_head (μ := (y, bs, mL, ret)) h1 w hw)).2⟩), List.mem_cons_self⟩, hts _ h1, hts _ h2, h3, h4, hl⟩
theorem b_iniN0 {a idx dν : Nat} {y : MethodName} {bs : ByteArray} {mL : Nat} {host : String} {X2 : BSt} (hd : Dc μ pc (.invokespecial idx) 3 pc2) (hm : MwJ μ.1.cls idx (y, bs, mL, none) 0 host) (hst : Nat.ble ((st.map Value.category).sum) 8 = true) (hdd : Nat.ble (dν + 1) d = true) (hC : BCt (y, bs, mL, none) dν (.ref a :: []) n σ ν X2) (hZ : X2.1 ≤ Z.1) (k0 : BE μ d n0 Z pc2 lv st X2.1 X2.2.1 X2.2.2) : BE μ d n0 Z pc lv (.ref a :: st) n σ ν := by
  obtain ⟨hm, hnm1, hin1, -, hlk1⟩ := hm
  obtain ⟨hd, rfl⟩ := hd
  intro p l e R s m args below meth c D dA ad B Q X F H locs ls hW hS hl
  obtain ⟨hx, hb, hown, hts, hK, hL, hB, hN, hml, hlk, hR1, hR2, hnm, hR3, hR4, hR5⟩ := id X
  have s1 := SW_mono hW.1.2.1
  have s2 := SW_mono hC.1
  have s3 := SW_mono hZ
  have g0 := hW.1.2.1
  have g1 := hC.1
  refine W_callB (va_runIN (host := host) (As := []) (rest := st.map (tr ad)) ⟨hx, hb, hml, hown, hts⟩ (hC.2.2 l D dA ad B hL) ⟨callB_N hts hm (va_Nw.use rfl (hN.1.1 _ hlk1)) hdd hR1 hR2, hnm1, hts _ hin1⟩ ⟨bpre_blind, fun U hU hWm => bpre_at (av := (.ref a :: [] : List Value).map (tr ad)) hW hK hN hU hWm⟩ rfl rfl (by show ls.size = _; rw [hl.2.1]) rfl (stc hst) hd ⟨by omega, by omega⟩) hS (fun H1 locs1 hW1 hS1 => ?_)
  exact bK (nz := 0) hW.1.2.1 hC.1 (k0 _ _ _ _ _ _ _ _ _ _ _ _ _ _ _ X F H1 locs1 ls ⟨⟨hW1.1.1, Nat.le_trans hW.1.2.1 hC.1, hW1.1.2.2⟩, hW1.2⟩ hS1 hl)
theorem b_iniP1 {a idx dν : Nat} {a0 : Value} {y : MethodName} {bs : ByteArray} {mL : Nat} {X2 : BSt} (hd : Dc μ pc (.invokespecial idx) 3 pc2) (hm : MwI μ.1.cls idx (y, bs, mL, none) 1) (hst : Nat.ble ((st.map Value.category).sum) 8 = true) (hdd : Nat.ble (dν + 1) d = true) (hC : BCt (y, bs, mL, none) dν (.ref a :: [a0]) n σ ν X2) (hZ : X2.1 ≤ Z.1) (k0 : BE μ d n0 Z pc2 lv st X2.1 X2.2.1 X2.2.2) : BE μ d n0 Z pc lv (a0 :: .ref a :: st) n σ ν := by
  obtain ⟨hm, hnm1, hin1, -, hlk1⟩ := hm
  obtain ⟨hd, rfl⟩ := hd
  intro p l e R s m args below meth c D dA ad B Q X F H locs ls hW hS hl
  obtain ⟨hx, hb, hown, hts, hK, hL, hB, hN, hml, hlk, hR1, hR2, hnm, hR3, hR4, hR5⟩ := id X
  have s1 := SW_mono hW.1.2.1
  have s2 := SW_mono hC.1
  have s3 := SW_mono hZ
  have g0 := hW.1.2.1
  have g1 := hC.1
  refine W_callB (va_runI (As := [tr ad a0]) (rest := st.map (tr ad)) ⟨hx, hb, hml, hown, hts⟩ (hC.2.2 l D dA ad B hL) ⟨callB_B hts hm hlk1 hdd hR1 hR2, hnm1, hts _ hin1⟩ ⟨bpre_blind, fun U hU hWm => bpre_at (av := (.ref a :: [a0] : List Value).map (tr ad)) hW hK hN hU hWm⟩ rfl rfl (by show ls.size = _; rw [hl.2.1]) rfl (stc hst) hd ⟨by omega, by omega⟩) hS (fun H1 locs1 hW1 hS1 => ?_)
  exact bK (nz := 0) hW.1.2.1 hC.1 (k0 _ _ _ _ _ _ _ _ _ _ _ _ _ _ _ X F H1 locs1 ls ⟨⟨hW1.1.1, Nat.le_trans hW.1.2.1 hC.1, hW1.1.2.2⟩, hW1.2⟩ hS1 hl)
theorem b_iniN1 {a idx dν : Nat} {a0 : Value} {y : MethodName} {bs : ByteArray} {mL : Nat} {host : String} {X2 : BSt} (hd : Dc μ pc (.invokespecial idx) 3 pc2) (hm : MwJ μ.1.cls idx (y, bs, mL, none) 1 host) (hst : Nat.ble ((st.map Value.category).sum) 8 = true) (hdd : Nat.ble (dν + 1) d = true) (hC : BCt (y, bs, mL, none) dν (.ref a :: [a0]) n σ ν X2) (hZ : X2.1 ≤ Z.1) (k0 : BE μ d n0 Z pc2 lv st X2.1 X2.2.1 X2.2.2) : BE μ d n0 Z pc lv (a0 :: .ref a :: st) n σ ν := by
  obtain ⟨hm, hnm1, hin1, -, hlk1⟩ := hm
  obtain ⟨hd, rfl⟩ := hd
  intro p l e R s m args below meth c D dA ad B Q X F H locs ls hW hS hl
  obtain ⟨hx, hb, hown, hts, hK, hL, hB, hN, hml, hlk, hR1, hR2, hnm, hR3, hR4, hR5⟩ := id X
  have s1 := SW_mono hW.1.2.1
  have s2 := SW_mono hC.1
  have s3 := SW_mono hZ
  have g0 := hW.1.2.1
  have g1 := hC.1
  refine W_callB (va_runIN (host := host) (As := [tr ad a0]) (rest := st.map (tr ad)) ⟨hx, hb, hml, hown, hts⟩ (hC.2.2 l D dA ad B hL) ⟨callB_N hts hm (va_Nw.use rfl (hN.1.1 _ hlk1)) hdd hR1 hR2, hnm1, hts _ hin1⟩ ⟨bpre_blind, fun U hU hWm => bpre_at (av := (.ref a :: [a0] : List Value).map (tr ad)) hW hK hN hU hWm⟩ rfl rfl (by show ls.size = _; rw [hl.2.1]) rfl (stc hst) hd ⟨by omega, by omega⟩) hS (fun H1 locs1 hW1 hS1 => ?_)
  exact bK (nz := 0) hW.1.2.1 hC.1 (k0 _ _ _ _ _ _ _ _ _ _ _ _ _ _ _ X F H1 locs1 ls ⟨⟨hW1.1.1, Nat.le_trans hW.1.2.1 hC.1, hW1.1.2.2⟩, hW1.2⟩ hS1 hl)
theorem b_call {a ci idx dν : Nat} {y : MethodName} {bs : ByteArray} {mL : Nat} {X2 : BSt} (hd : Dc μ pc (.invokevirtual idx) 3 pc2) (hm : Mv μ.1.cls idx (y, bs, mL, none) 0 ci) (hs : sh a = ci) (ha : a < n) (hst : Nat.ble ((st.map Value.category).sum) 8 = true) (hdd : Nat.ble (dν + 1) d = true) (hC : BCt (y, bs, mL, none) dν [.ref a] n σ ν X2) (hZ : X2.1 ≤ Z.1) (k0 : BE μ d n0 Z pc2 lv st X2.1 X2.2.1 X2.2.2) : BE μ d n0 Z pc lv (.ref a :: st) n σ ν := by
  obtain ⟨hd, rfl⟩ := hd
  intro p l e R s m args below meth c D dA ad B Q X F H locs ls hW hS hl
  obtain ⟨hx, hb, hown, hts, hK, hL, hB, hN, hml, hlk, hR1, hR2, hnm, hR3, hR4, hR5⟩ := id X
  obtain ⟨hm, hlk1, hin1, hse1, T', N', hc⟩ := hm
  have s1 := SW_mono hW.1.2.1
  have s2 := SW_mono hC.1
  have s3 := SW_mono hZ
  have g0 := hW.1.2.1
  have g1 := hC.1
  refine W_callB (va_runV (As := []) (rest := st.map (tr ad)) ⟨hx, hb, hml, hown, hts⟩ (hC.2.2 l D dA ad B hL) ⟨callB_B hts hm hlk1 hdd hR1 hR2, hts _ hin1, hts _ hse1⟩ ⟨bpre_blind, va_recv hK hW.2.1 hc (by rw [cw_get ha, en2_o hs (ci_lt hc)]), fun U hU hWm => bpre_at (av := ([.ref a] : List Value).map (tr ad)) hW hK hN hU hWm⟩ rfl rfl (by show ls.size = _; rw [hl.2.1]) rfl (stc hst) hd ⟨by omega, by omega⟩) hS (fun H1 locs1 hW1 hS1 => ?_)
  exact bK (nz := 0) hW.1.2.1 hC.1 (k0 _ _ _ _ _ _ _ _ _ _ _ _ _ _ _ X F H1 locs1 ls ⟨⟨hW1.1.1, Nat.le_trans hW.1.2.1 hC.1, hW1.1.2.2⟩, hW1.2⟩ hS1 hl)
theorem BCt.ofE {av : List Value} (hy : plainName μ.1.cls = true) (hlen : Nat.ble ((lg_sl av).length) μ.2.2.1 = true) (hr : μ.2.2.2 = none) (hZ : n ≤ Z.1 ∧ Z.1 ≤ NW) (k : BE μ d n Z 0 (lv0 μ.2.2.1 av) [] n σ ν) : BCt μ d av n σ ν Z := by
  refine ⟨hZ.1, hZ.2, fun l D dA ad B hL => ?_⟩
  refine Met.ofW (cc := μ.2.1) (maxL := μ.2.2.1) (ret := μ.2.2.2) hy rfl ?_
  intro p e s m args below meth c s₁ Bd hml hv
  obtain ⟨hargs, hW, hK, hN⟩ := hv
  have hts : ∀ w ∈ wsM μ, w.before args s = true := atoms_spec (ws := wsM μ) Bd.pre
  have hown : s.vm.findClass μ.1.cls = some m.cls := findClass_of_methodNamed Bd.named
  have e1 : (lg_sl (av.map (tr ad))).length = (lg_sl av).length := by
    simp only [lg_sl]
    clear hargs hlen k
    induction av with
    | nil => rfl
    | cons v t ih =>
      simp only [List.map_cons, List.flatMap_cons, List.length_append, ih, tr_cat]
      split <;> rfl
  have hlvs := lv0_at (vs := av.map (tr ad)) (nL := μ.2.2.1) (by rw [e1]; exact Nat.le_of_ble_eq_true hlen)
  rw [← lv0_tr] at hlvs
  have hent : entryFrame m args μ.2.2.1 = F0 m 0 ((lg_sl (av.map (tr ad)) ++ List.replicate (μ.2.2.1 - (lg_sl (av.map (tr ad))).length) Slot.unset).toArray) [] := by
    rw [hargs]; exact lg_entry_eq m _ _
  rw [hent]
  have := k p l e (headSpec (wsM μ) (rmB d (Z.1 - n) (SW Z.1 - SW n))).room s m args below meth c D dA ad B (MQ below (BQ D dA ad B n Z) args s (Z.1 - n) (SW Z.1 - SW n) (AB B)) ⟨Bd.exec, Bd.bytes, hown, fun w hw => hts w (List.mem_cons_of_mem _ hw), hK, hL, by rw [hW.1.1]; exact Nat.le_add_right _ _, hN, hml, Bd.notSynchronized, Nat.le_refl _, Nat.le_refl _, (name_of_methodNamed Bd.named Bd.method).1, Nat.le_refl _, Nat.le_refl _, hZ.2⟩ ?_ s.heap [] _ hW va_S.rf hlvs
  · rw [Nat.sub_self, Nat.sub_self] at this
    exact this
  intro H locs ls pc hW1 hS hd ht
  exact W.vret Bd.exec Bd.bytes (Bd.returns.trans ht) (fun t ht hWm => ⟨⟨rfl, by rw [ht]; exact hW1⟩, hS.F ht⟩) hS.2.2 hd Bd.notSynchronized
end RowsB2
