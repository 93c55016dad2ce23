/-! the law's entry -/
abbrev BTg : Type := Nat × List (Option Value) × BSt
def HCtx (μ : MI) (d n0 nz : Nat) (p : Program) (R : Room) (s : State) (m : MethodId) (args : Array Value) (meth : Method) (c : Code) (D : va_G) (dA : Nat → ClassId) (ad : Nat → Nat) (B : Nat) : Prop :=
  p.tables.exec = Jvm.exec ∧ c.code = μ.2.1 ∧ s.vm.findClass μ.1.cls = some m.cls ∧ (∀ w ∈ tb, w.before args s = true) ∧ va_K D vwCl (tys dA) s ∧ Lin ad B ∧ B ≤ s.heap.size ∧ Nsa ad s ∧ c.maxLocals = μ.2.2.1 ∧ meth.locks = false ∧ d ≤ R.frames ∧ 40 * d ≤ R.locals ∧ True ∧ nz - n0 ≤ R.cells ∧ SW nz - SW n0 ≤ R.slots ∧ nz ≤ NW
def HFin (μ : MI) (n0 : Nat) (T : BTg) (p : Program) (l : Launch) (e : Env) (R : Room) (s : State) (m : MethodId) (args : Array Value) (below : List Frame) (meth : Method) (c : Code) (D : va_G) (dA : Nat → ClassId) (ad : Nat → Nat) (B : Nat) (Q : State → Prop) : Prop :=
  ∀ (H : Heap) (locs : List Loc) (ls : Array Slot), Wd D dA ad B n0 T.2.2.1 T.2.2.2.1 T.2.2.2.2 H → va_S (AB B) s.heap H locs → lvs ls μ.2.2.1 (trL ad T.2.1) → W p l e R s m args below meth c H locs (T.2.2.1 - n0) (SW T.2.2.1 - SW n0) Q (F0 m T.1 ls [])
/-- from pc, with n cells made, the frame comes to a place of its own -/
def BHT (μ : MI) (d n0 : Nat) (T : BTg) (Z : BSt) (pc : Nat) (lv : List (Option Value)) (st : List Value) (n : Nat) (σ : St) (ν : Nat → Nat → Bool) : Prop :=
  ∀ (p : Program) (l : Launch) (e : Env) (R : Room) (s : State) (m : MethodId) (args : Array Value) (below : List Frame) (meth : Method) (c : Code) (D : va_G) (dA : Nat → ClassId) (ad : Nat → Nat) (B : Nat) (Q : State → Prop),
    HCtx μ d n0 Z.1 p R s m args meth c D dA ad B → HFin μ n0 T p l e R s m args below meth c D dA ad B Q → ∀ (H : Heap) (locs : List Loc) (ls : Array Slot), Wd D dA ad B n0 n σ ν H → va_S (AB B) s.heap H locs → lvs ls μ.2.2.1 (trL ad lv) → W p l e R s m args below meth c H locs (n - n0) (SW n - SW n0) Q (F0 m pc ls (st.map (tr ad)))
section RowsH
variable {μ : MI} {d n0 : Nat} {T : BTg} {Z : BSt} {pc pc2 : Nat} {lv : List (Option Value)} {st : List Value} {n : Nat} {σ : St} {ν : Nat → Nat → Bool}
theorem h_iconst {i : Int} (v : Int32) (hd : Dc μ pc (.iconst i) 1 pc2) (hv : Int32.ofInt i = v) (k : BHT μ d n0 T Z pc2 lv (.int v :: st) n σ ν) : BHT μ d n0 T Z pc lv (st) n σ ν := by
  obtain ⟨hd, rfl⟩ := hd
  intro p l e R s m args below meth c D dA ad B Q X F H locs ls hW hS hl
  obtain ⟨hx, hb, hown, hts, hK, hL, hB, hN, hml, hlk, hR1, hR2, hnm, hR3, hR4, hR5⟩ := id X
  exact lv_iconst hx hb hd hv (k _ _ _ _ _ _ _ _ _ _ _ _ _ _ _ X F H locs ls hW hS hl)
theorem h_dup {v : Value} (hd : Dc μ pc (.dup) 1 pc2) (hc : v.category = 1) (k : BHT μ d n0 T Z pc2 lv (v :: v :: st) n σ ν) : BHT μ d n0 T Z pc lv (v :: st) n σ ν := by
  obtain ⟨hd, rfl⟩ := hd
  intro p l e R s m args below meth c D dA ad B Q X F H locs ls hW hS hl
  obtain ⟨hx, hb, hown, hts, hK, hL, hB, hN, hml, hlk, hR1, hR2, hnm, hR3, hR4, hR5⟩ := id X
  exact lv_dup hx hb hd (by rw [tr_cat]; exact hc) (k _ _ _ _ _ _ _ _ _ _ _ _ _ _ _ X F H locs ls hW hS hl)
theorem h_new {ci idx : Nat} (hd : Dc μ pc (.new idx) 3 pc2) (hw : Nw μ.1.cls idx ci) (hs : sh n = ci) (hZ : n + 1 ≤ Z.1) (k0 : BHT μ d n0 T Z pc2 lv (.ref n :: st) (n + 1) σ ν) : BHT μ d n0 T Z pc lv st n σ ν := by
  obtain ⟨C, T', N, ty0, hc, hlay, hty, hcl, hinst, hini, hN9, hdf⟩ := hw
  obtain ⟨hd, rfl⟩ := hd
  intro p l e R s m args below meth c D dA ad B Q X F H locs ls hW hS hl
  obtain ⟨hx, hb, hown, hts, hK, hL, hB, hN, hml, hlk, hR1, hR2, hnm, hR3, hR4, hR5⟩ := id X
  have hKn := hK.1 ci _ hc
  obtain ⟨hz, h0, h9⟩ := hW.1
  have sw : SW n0 ≤ SW n := SW_mono h0
  have sw1 : SW (n + 1) ≤ SW Z.1 := SW_mono hZ
  have e2 : SW (n + 1) = SW n + N := by
    show SW n + wt n = _
    unfold wt
    rw [if_pos (by rw [hs]; exact ci_lt hc), hs, ← hN9]
  refine W.newcK hx hb hown (hts _ hcl) (hts _ hinst) (hts _ hini) rfl hd (by omega) (by omega) hKn.2.1 hz fun H1 kC hkC e1 z1 o1 => ?_
  have an : ad n = B + n := hL n (by omega)
  have A1 : va_at D vwCl (ad n, ent2 ad dA σ ν n) H1 := by
    rw [en2_o hs (ci_lt hc), an]
    refine ⟨_, hc, (u_born ty0 hts hlay hKn hkC e1 hty).to (fun j hj => ?_)⟩
    obtain ⟨f1, f2, f3⟩ := hW.2.2 n (Nat.le_refl _)
    rw [hdf j hj]
    unfold vp_V fvs2
    rw [List.getD_eq_getElem?_getD, List.getElem?_map, List.getElem?_range (by rw [hs, ← hN9]; exact hj)]
    show _ = fv2 ad σ ν (kd (sh n) j) n j
    unfold fv2
    rw [hs, f1, f2]
    by_cases q0 : kd ci j = 0
    · rw [if_pos q0, if_pos q0]
    · rw [if_neg q0, if_neg q0]
      by_cases q1 : kd ci j = 1
      · rw [if_pos q1, if_pos q1]
      · have q9 : kd ci j = 2 := by
          have : ∀ c, c < 12 → ∀ j, j < (kdL.getD c []).length → kd c j = 0 ∨ kd c j = 1 ∨ kd c j = 2 := by decide +kernel
          have hl12 : ci < 12 := by have := (List.getElem?_eq_some_iff.mp hc).1; exact this
          have := this ci hl12 j (by rw [← hN9]; exact hj)
          omega
        rw [if_neg q1, if_neg q1, f3, if_pos]
        unfold fr0
        rw [if_pos (by rw [hs]; exact ci_lt hc), hs]
        exact decide_eq_true q9
  have := k0 _ _ _ _ _ _ _ _ _ _ _ _ _ _ _ X F H1 locs ls (Wd_push hW (by omega) z1 o1 A1) (va_S_new hS hz z1 o1) hl
  rw [show n + 1 - n0 = n - n0 + 1 by omega, show SW (n + 1) - SW n0 = SW n - SW n0 + N by omega, List.map_cons, show tr ad (.ref n) = .ref (B + n) by show Value.ref (ad n) = _; rw [an]] at this
  exact this
theorem h_newaJ {N : Nat} (hd : Dc μ pc (.newarray .long) 2 pc2) (harr : Cond.arrayClass (newarray.typeOf .long) ∈ tb) (hs : sh n = 23) (hn : ln n = N) (hb31 : Nat.ble N 100000 = true) (hZ : n + 1 ≤ Z.1) (k0 : BHT μ d n0 T Z pc2 lv (.ref n :: st) (n + 1) σ ν) : BHT μ d n0 T Z pc lv (.int (nI N) :: st) n σ ν := by
  subst hn
  have hb31 : ln n ≤ 100000 := Nat.le_of_ble_eq_true hb31
  obtain ⟨hd, rfl⟩ := hd
  intro p l e R s m args below meth c D dA ad B Q X F H locs ls hW hS hl
  obtain ⟨hx, hb, hown, hts, hK, hL, hB, hN, hml, hlk, hR1, hR2, hnm, hR3, hR4, hR5⟩ := id X
  obtain ⟨hz, h0, h9⟩ := hW.1
  have sw : SW n0 ≤ SW n := SW_mono h0
  have sw1 : SW (n + 1) ≤ SW Z.1 := SW_mono hZ
  have e2 : SW (n + 1) = SW n + ln n := by
    show SW n + wt n = _
    unfold wt
    rw [if_neg (by rw [hs]; decide)]
  have cb : componentBytes (newarray.typeOf .long) ≤ 8 := by decide
  refine va_newaK (N := ln n) hx hb (hts _ harr) rfl hd rfl (nI_pos (by omega)) (nI_clamp (by omega)) (Nat.le_trans (Nat.mul_le_mul_left _ cb) (by omega)) (by omega) (by omega) hz fun H1 cA e1 z1 o1 hAr hNm => ?_
  have an : ad n = B + n := hL n (by omega)
  have hcA : cA = dA 23 := Option.some.inj (hNm.symm.trans (hK.2 3 (dA 23, .long) rfl).2)
  have A1 : va_at D vwCl (ad n, ent2 ad dA σ ν n) H1 := by
    rw [en2_l hs, an]
    show H1[B + n]? = some (vp_cell (dA 23) (ln n, .inr (.inl (σ.2 n))))
    obtain ⟨f1, f2, f3⟩ := hW.2.2 n (Nat.le_refl _)
    rw [e1, hcA]
    show _ = some (arrV (dA 23) (ln n) (fun j => .long (σ.2 n j)))
    simp only [f2]
    rfl
  have := k0 _ _ _ _ _ _ _ _ _ _ _ _ _ _ _ X F H1 locs ls (Wd_push hW (by omega) z1 o1 A1) (va_S_new hS hz z1 o1) hl
  rw [show n + 1 - n0 = n - n0 + 1 by omega, show SW (n + 1) - SW n0 = SW n - SW n0 + ln n by omega, List.map_cons, show tr ad (.ref n) = .ref (B + n) by show Value.ref (ad n) = _; rw [an]] at this
  exact this
theorem h_iniP0 {a idx dν : Nat} {y : MethodName} {bs : ByteArray} {mL : Nat} {X2 : BSt} (hd : Dc μ pc (.invokespecial idx) 3 pc2) (hm : MwI μ.1.cls idx (y, bs, mL, none) 0) (hst : Nat.ble ((st.map Value.category).sum) 8 = true) (hdd : Nat.ble (dν + 1) d = true) (hC : BCt (y, bs, mL, none) dν (.ref a :: []) n σ ν X2) (hZ : X2.1 ≤ Z.1) (k0 : BHT μ d n0 T Z pc2 lv st X2.1 X2.2.1 X2.2.2) : BHT μ d n0 T Z pc lv (.ref a :: st) n σ ν := by
  obtain ⟨hm, hnm1, hin1, -, hlk1⟩ := hm
  obtain ⟨hd, rfl⟩ := hd
  intro p l e R s m args below meth c D dA ad B Q X F H locs ls hW hS hl
  obtain ⟨hx, hb, hown, hts, hK, hL, hB, hN, hml, hlk, hR1, hR2, hnm, hR3, hR4, hR5⟩ := id X
  have s1 := SW_mono hW.1.2.1
  have s2 := SW_mono hC.1
  have s3 := SW_mono hZ
  have g0 := hW.1.2.1
  have g1 := hC.1
  refine W_callB (va_runI (As := []) (rest := st.map (tr ad)) ⟨hx, hb, hml, hown, hts⟩ (hC.2.2 l D dA ad B hL) ⟨callB_B hts hm hlk1 hdd hR1 hR2, hnm1, hts _ hin1⟩ ⟨bpre_blind, fun U hU hWm => bpre_at (av := (.ref a :: [] : List Value).map (tr ad)) hW hK hN hU hWm⟩ rfl rfl (by show ls.size = _; rw [hl.2.1]) rfl (stc hst) hd ⟨by omega, by omega⟩) hS (fun H1 locs1 hW1 hS1 => ?_)
  exact bK (nz := 0) hW.1.2.1 hC.1 (k0 _ _ _ _ _ _ _ _ _ _ _ _ _ _ _ X F H1 locs1 ls ⟨⟨hW1.1.1, Nat.le_trans hW.1.2.1 hC.1, hW1.1.2.2⟩, hW1.2⟩ hS1 hl)
theorem h_astore_n {k : _root_.Fin 4} {x : Nat} {lv2 : List (Option Value)} (hd : Dc μ pc (.astore_n k) 1 pc2) (hn : Nat.ble (k.val + 1) lv.length = true) (hq : nlb lv k.val = true) (h2 : (lv.set k.val (some (.ref x))) = lv2) (k0 : BHT μ d n0 T Z pc2 lv2 st n σ ν) : BHT μ d n0 T Z pc lv (.ref x :: st) n σ ν := by
  subst h2
  obtain ⟨hd, rfl⟩ := hd
  intro p l e R s m args below meth c D dA ad B Q X F H locs ls hW hS hl
  obtain ⟨hx, hb, hown, hts, hK, hL, hB, hN, hml, hlk, hR1, hR2, hnm, hR3, hR4, hR5⟩ := id X
  have hn : k.val < lv.length := Nat.le_of_ble_eq_true hn
  have hlen : (trL ad lv).length = lv.length := List.length_map ..
  have e : trL ad ((lv.set k.val (some (.ref x)))) = (trL ad lv).set k.val (some (.ref (ad x))) := by simp only [List.map_set]; rfl
  exact lv_astore_n hx hb hd rfl hl.has (by have := hl.1; omega) rfl (fun ls2 h2 => k0 _ _ _ _ _ _ _ _ _ _ _ _ _ _ _ X F H locs ls2 hW hS (by rw [e]; exact lvs_s1 hl.1 (nlb_e hq) h2))
theorem h_istore {k : Nat} {x : Int32} {lv2 : List (Option Value)} (hd : Dc μ pc (.istore k) 2 pc2) (hn : Nat.ble (k + 1) lv.length = true) (hq : nlb lv k = true) (h2 : (lv.set k (some (.int x))) = lv2) (k0 : BHT μ d n0 T Z pc2 lv2 st n σ ν) : BHT μ d n0 T Z pc lv (.int x :: st) n σ ν := by
  subst h2
  obtain ⟨hd, rfl⟩ := hd
  intro p l e R s m args below meth c D dA ad B Q X F H locs ls hW hS hl
  obtain ⟨hx, hb, hown, hts, hK, hL, hB, hN, hml, hlk, hR1, hR2, hnm, hR3, hR4, hR5⟩ := id X
  have hn : k < lv.length := Nat.le_of_ble_eq_true hn
  have hlen : (trL ad lv).length = lv.length := List.length_map ..
  have e : trL ad ((lv.set k (some (.int x)))) = (trL ad lv).set k (some (.int x)) := by simp only [List.map_set]; rfl
  exact lv_istore hx hb hd hl.has (by have := hl.1; omega) rfl (fun ls2 h2 => k0 _ _ _ _ _ _ _ _ _ _ _ _ _ _ _ X F H locs ls2 hW hS (by rw [e]; exact lvs_s1 hl.1 (nlb_e hq) h2))
theorem h_end (h : T = (pc, lv, n, σ, ν)) : BHT μ d n0 T Z pc lv [] n σ ν := by
  subst h
  intro p l e R s m args below meth c D dA ad B Q X F H locs ls hW hS hl
  exact F H locs ls hW hS hl
end RowsH
theorem qL_law_0 : Dc mL_law 0 (.new 8) 3 3 := ⟨by decide +kernel, rfl⟩
theorem qL_law_3 : Dc mL_law 3 (.dup) 1 4 := ⟨by decide +kernel, rfl⟩
theorem qL_law_4 : Dc mL_law 4 (.invokespecial 19) 3 7 := ⟨by decide +kernel, rfl⟩
theorem qL_law_7 : Dc mL_law 7 (.astore_n 1) 1 8 := ⟨by decide +kernel, rfl⟩
theorem qL_law_8 : Dc mL_law 8 (.new 20) 3 11 := ⟨by decide +kernel, rfl⟩
theorem qL_law_11 : Dc mL_law 11 (.dup) 1 12 := ⟨by decide +kernel, rfl⟩
theorem qL_law_12 : Dc mL_law 12 (.invokespecial 22) 3 15 := ⟨by decide +kernel, rfl⟩
theorem qL_law_15 : Dc mL_law 15 (.astore_n 2) 1 16 := ⟨by decide +kernel, rfl⟩
theorem qL_law_16 : Dc mL_law 16 (.iconst 1) 1 17 := ⟨by decide +kernel, rfl⟩
theorem qL_law_17 : Dc mL_law 17 (.newarray .long) 2 19 := ⟨by decide +kernel, rfl⟩
theorem qL_law_19 : Dc mL_law 19 (.astore_n 3) 1 20 := ⟨by decide +kernel, rfl⟩
theorem qL_law_20 : Dc mL_law 20 (.iconst 0) 1 21 := ⟨by decide +kernel, rfl⟩
theorem qL_law_21 : Dc mL_law 21 (.istore 4) 2 23 := ⟨by decide +kernel, rfl⟩
theorem mi_L_19 : MwI RL 19 mX11_init 0 := ⟨mw_X11_init, rfl, tb_1 29 (by decide +kernel) (by decide +kernel), rfl, tb_1 28 (by decide +kernel) (by decide +kernel)⟩
theorem mi_L_22 : MwI RL 22 mX12_init 0 := ⟨mw_X12_init, rfl, tb_6 198 (by decide +kernel) (by decide +kernel), rfl, tb_6 197 (by decide +kernel) (by decide +kernel)⟩
theorem nw_L_8 : Nw RL 8 10 := ⟨_, _, _, tyX11, rfl, cws_10, tyX11_ok, tb_1 26 (by decide +kernel) (by decide +kernel), tb_1 27 (by decide +kernel) (by decide +kernel), tb_1 1 (by decide +kernel) (by decide +kernel), by decide +kernel, by decide +kernel⟩
theorem nw_L_20 : Nw RL 20 11 := ⟨_, _, _, tyX12, rfl, cws_11, tyX12_ok, tb_6 196 (by decide +kernel) (by decide +kernel), tb_6 190 (by decide +kernel) (by decide +kernel), tb_1 12 (by decide +kernel) (by decide +kernel), by decide +kernel, by decide +kernel⟩
theorem zs_225 : sh 225 = 23 := by decide +kernel
theorem zl_225 : ln 225 = 1 := by decide +kernel
def nuC : List (Nat × Nat) := (132, 1) :: (171, 1) :: (200, 0) :: (200, 8) :: (200, 7) :: (200, 6) :: (200, 5) :: (200, 4) :: (171, 2) :: (195, 5) :: (195, 4) :: (195, 3) :: (195, 2) :: (171, 0) :: (174, 3) :: (174, 2) :: (174, 1) :: (174, 0) :: (173, 7) :: (189, 11) :: (173, 6) :: (187, 11) :: (173, 5) :: (185, 11) :: (173, 4) :: (183, 11) :: (173, 3) :: (181, 11) :: (173, 2) :: (179, 11) :: (173, 1) :: (177, 11) :: (173, 0) :: (175, 11) :: (172, 1) :: (172, 0) :: (132, 0) :: (136, 1) :: (165, 0) :: (165, 8) :: (165, 7) :: (165, 6) :: (165, 5) :: (165, 4) :: (136, 2) :: (160, 5) :: (160, 4) :: (160, 3) :: (160, 2) :: (136, 0) :: (139, 3) :: (139, 2) :: (139, 1) :: (139, 0) :: (138, 7) :: (154, 11) :: (138, 6) :: (152, 11) :: (138, 5) :: (150, 11) :: (138, 4) :: (148, 11) :: (138, 3) :: (146, 11) :: (138, 2) :: (144, 11) :: (138, 1) :: (142, 11) :: (138, 0) :: (140, 11) :: (137, 1) :: (137, 0) :: (0, 13) :: (0, 12) :: (0, 11) :: (0, 10) :: (0, 9) :: (0, 8) :: (76, 8) :: (125, 0) :: (125, 8) :: (125, 7) :: (125, 6) :: (125, 5) :: (125, 4) :: (76, 7) :: (119, 0) :: (119, 8) :: (119, 7) :: (119, 6) :: (119, 5) :: (119, 4) :: (76, 6) :: (113, 0) :: (113, 8) :: (113, 7) :: (113, 6) :: (113, 5) :: (113, 4) :: (76, 5) :: (107, 0) :: (107, 8) :: (107, 7) :: (107, 6) :: (107, 5) :: (107, 4) :: (76, 4) :: (101, 0) :: (101, 8) :: (101, 7) :: (101, 6) :: (101, 5) :: (101, 4) :: (76, 3) :: (95, 0) :: (95, 8) :: (95, 7) :: (95, 6) :: (95, 5) :: (95, 4) :: (76, 2) :: (89, 0) :: (89, 8) :: (89, 7) :: (89, 6) :: (89, 5) :: (89, 4) :: (76, 1) :: (83, 0) :: (83, 8) :: (83, 7) :: (83, 6) :: (83, 5) :: (83, 4) :: (76, 0) :: (77, 0) :: (77, 8) :: (77, 7) :: (77, 6) :: (77, 5) :: (77, 4) :: (75, 0) :: (0, 7) :: (71, 2) :: (71, 1) :: (71, 0) :: (0, 6) :: (66, 5) :: (66, 4) :: (66, 3) :: (66, 2) :: (0, 5) :: (61, 5) :: (61, 4) :: (61, 3) :: (61, 2) :: (0, 4) :: (55, 0) :: (55, 8) :: (55, 7) :: (55, 6) :: (55, 5) :: (55, 4) :: (0, 3) :: (49, 0) :: (49, 8) :: (49, 7) :: (49, 6) :: (49, 5) :: (49, 4) :: (0, 2) :: (28, 3) :: (28, 2) :: (28, 1) :: (28, 0) :: (27, 7) :: (43, 11) :: (27, 6) :: (41, 11) :: (27, 5) :: (39, 11) :: (27, 4) :: (37, 11) :: (27, 3) :: (35, 11) :: (27, 2) :: (33, 11) :: (27, 1) :: (31, 11) :: (27, 0) :: (29, 11) :: (26, 1) :: (26, 0) :: (0, 1) :: (5, 3) :: (5, 2) :: (5, 1) :: (5, 0) :: (4, 7) :: (20, 11) :: (4, 6) :: (18, 11) :: (4, 5) :: (16, 11) :: (4, 4) :: (14, 11) :: (4, 3) :: (12, 11) :: (4, 2) :: (10, 11) :: (4, 1) :: (8, 11) :: (4, 0) :: (6, 11) :: (3, 1) :: (3, 0) :: (0, 0) :: (1, 0) :: []
def nuM : List (Nat × Nat) := (206, 52) :: (206, 51) :: (206, 50) :: (206, 49) :: (206, 43) :: (206, 41) :: (206, 37) :: (206, 29) :: (206, 28) :: (206, 25) :: (206, 23) :: (206, 22) :: (206, 10) :: (206, 9) :: (206, 8) :: (206, 7) :: (206, 6) :: (206, 1) :: nuC
theorem nu_z (i k : Nat) (hi : i < NW) : nuL nuM i k = false := by
  have key1 : ∀ i, i < 226 → ∀ k, k < 60 → fr0 i k = true → (nuM.any fun p => p.1 == i && p.2 == k) = true := by decide +kernel
  have key2 : ∀ i, i < 226 → (kdL.getD (sh i) []).length ≤ 60 ∧ (24 ≤ sh i → ln i ≤ 60) := by decide +kernel
  unfold nuL
  by_cases hf : fr0 i k = true
  · by_cases hk : k < 60
    · rw [key1 i hi k hk hf]; rfl
    · exfalso
      obtain ⟨h1, h2⟩ := key2 i hi
      unfold fr0 at hf
      by_cases hs : sh i < 20
      · rw [if_pos hs] at hf
        have h9 : kd (sh i) k = 9 := by
          unfold kd
          rw [List.getD_eq_getElem?_getD, List.getElem?_eq_none (by omega)]; rfl
        rw [h9] at hf
        exact absurd hf (by decide)
      · rw [if_neg hs] at hf
        obtain ⟨h3, h4⟩ := of_decide_eq_true hf
        have := h2 h3
        omega
  · rw [Bool.not_eq_true] at hf
    rw [hf, Bool.and_false]
theorem l_enter : BHT mL_law 2000 0 (23, lvl 0, NW, zM, nuL nuM) (NW, zM, nuL nuM) 0 [some (.ref 3000), none, none, none, none, none, none] [] 0 z0 (nuL []) := by
  refine h_new qL_law_0 nw_L_8 zs_0 (Nat.le_of_ble_eq_true rfl) ?_
  refine h_dup qL_law_3 rfl ?_
  refine h_iniP0 (X2 := (206, zC, nuL nuC)) qL_law_4 mi_L_19 rfl rfl (kb_X11_init (σ := z0) (L := []) rfl rfl) (Nat.le_of_ble_eq_true rfl) ?_
  dsimp only
  refine h_astore_n (lv2 := [some (.ref 3000), some (.ref 0), none, none, none, none, none]) qL_law_7 rfl rfl rfl ?_
  refine h_new qL_law_8 nw_L_20 zs_206 (Nat.le_of_ble_eq_true rfl) ?_
  refine h_dup qL_law_11 rfl ?_
  refine h_iniP0 (X2 := (225, zM, nuL nuM)) qL_law_12 mi_L_22 rfl rfl (kb_X12_init (σ := zC) (L := nuC) (fun _ => rfl) (fun _ => rfl)) (Nat.le_of_ble_eq_true rfl) ?_
  dsimp only
  refine h_astore_n (lv2 := [some (.ref 3000), some (.ref 0), some (.ref 206), none, none, none, none]) qL_law_15 rfl rfl rfl ?_
  refine h_iconst (nI 1) qL_law_16 (by decide +kernel) ?_
  refine h_newaJ qL_law_17 ar_long zs_225 zl_225 rfl (Nat.le_of_ble_eq_true rfl) ?_
  refine h_astore_n (lv2 := [some (.ref 3000), some (.ref 0), some (.ref 206), some (.ref 225), none, none, none]) qL_law_19 rfl rfl rfl ?_
  refine h_iconst (nI 0) qL_law_20 (by decide +kernel) ?_
  refine h_istore (lv2 := lvl 0) qL_law_21 rfl rfl rfl ?_
  exact h_end rfl
