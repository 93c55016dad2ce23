/-! the class's own throws -/
def NSE : String := "java/util/NoSuchElementException"
def nseN : List String := ["java/lang/RuntimeException", "java/lang/Exception"]
def nseB : List Cond := [.declares ⟨"java/lang/RuntimeException", "<init>", "()V"⟩, .declares ⟨"java/lang/Exception", "<init>", "()V"⟩, .declares ⟨"java/lang/Throwable", "<init>", "()V"⟩, .castable NSE NSE]
def VZ (A : Nat → Prop) (U : State) (H : Heap) : Prop := vx_Zq Bundle.tN "UNASSIGNED_STACK" Bundle.steD A U H ∧ vx_Zq Bundle.tN "SUPPRESSED_SENTINEL" Bundle.listD A U H
def Nx (U : State) : Prop := ∀ w ∈ nseB, va_Nw w U
theorem nx_kind : ∀ w ∈ nseB, (∃ x, w = .declares x) ∨ w = .castable NSE NSE := by
  intro w hw
  simp only [nseB, List.mem_cons, List.not_mem_nil, or_false] at hw
  rcases hw with rfl | rfl | rfl | rfl
  · exact Or.inl ⟨_, rfl⟩
  · exact Or.inl ⟨_, rfl⟩
  · exact Or.inl ⟨_, rfl⟩
  · exact Or.inr rfl
theorem Nx.warm {s U : State} (hW : s.WarmedH U.vm) (h : Nx s) : Nx U := fun w hw => by
  rcases nx_kind w hw with ⟨x, rfl⟩ | rfl
  · exact va_Nw.warmD hW (h _ hw)
  · exact va_Nw.warmC hW (h _ hw)
theorem Nx.same {s U : State} (e : s.vm = U.vm) (h : Nx s) : Nx U := fun w hw => by
  rcases nx_kind w hw with ⟨x, rfl⟩ | rfl
  · exact va_Nw.same rfl e (h _ hw)
  · exact va_Nw.same rfl e (h _ hw)
theorem Nx.use {s : State} {args : Array Value} (h : Nx s) : ∀ w ∈ nseB, w.before args s = true := fun w hw => by
  rcases nx_kind w hw with ⟨x, rfl⟩ | rfl
  · exact va_Nw.use rfl (h _ hw)
  · exact va_Nw.use rfl (h _ hw)
def PreX (D : va_G) (dA : Nat → ClassId) (ad : Nat → Nat) (σ : St) (U : State) : Prop := PreC D dA ad σ U ∧ VZ (AW ad) U U.heap ∧ Nx U
def rm1 (d : Nat) : Room := { frames := d, cells := 1, slots := 6, locals := 40 * d }
def XCn (D : va_G) (dA : Nat → ClassId) (ad : Nat → Nat) (σ : St) : String → State → State → Prop := fun E st t => E = NSE ∧ va_P D vwCl (wld ad dA σ) t.heap ∧ va_F (AW ad) st t
theorem VZ.moved {A : Nat → Prop} {u U : State} {H : Heap} (hvm : u.vm.Alike U.vm) (h : VZ A u H) : VZ A U H := ⟨h.1.moved hvm, h.2.moved hvm⟩
theorem VZ.kept {A : Nat → Prop} {U : State} {H H1 : Heap} (h : VZ A U H) (hq : ∀ a : Nat, a < H.size → ¬ A a → H1[a]? = H[a]?) : VZ A U H1 := ⟨h.1.kept hq, h.2.kept hq⟩
theorem VZ.narrow {A B : Nat → Prop} {U : State} {H : Heap} (h : VZ A U H) (hAB : ∀ q, B q → A q) : VZ B U H := ⟨h.1.narrow hAB, h.2.narrow hAB⟩
theorem preX_blind {D : va_G} {dA : Nat → ClassId} {ad : Nat → Nat} {σ : St} {av : List Value} : FrameBlind (va_Pc av (PreX D dA ad σ)) := fun a U g mk q => by
  obtain ⟨h1, h2, h3, h4⟩ := q
  obtain ⟨g1, g2⟩ := preC_blind (av := av) a U g mk ⟨h1, h2⟩
  exact ⟨g1, g2, h3.moved (Vm.Alike.refl U.vm), Nx.same (s := U) (U := U.calling g mk a) rfl h4⟩
theorem preX_at {D : va_G} {dA : Nat → ClassId} {ad : Nat → Nat} {σ : St} {av : List Value} {s U : State} {H : Heap} {locs : List Loc} {A : Nat → Prop} (hP : va_P D vwCl (wld ad dA σ) H) (hK : va_K D vwCl (tys dA) s) (hJ : Inj ad) (hSt : Sta (fun i => ad (1000 + i)) A s s.heap) (hN : Nst ad s) (hV : VZ A s s.heap) (hX : Nx s) (hAA : ∀ q, AW ad q → A q) (hS : va_S A s.heap H locs) (hU : U.heap = H) (hW : s.WarmedH U.vm) : va_Pc av (PreX D dA ad σ) av.toArray U :=
  ⟨rfl, (preG_at (av := av) hP hK hJ hSt hN hAA hS hU hW).2, by rw [hU]; exact ((hV.moved hW.alike).kept (fun a h1 h2 => hS.2.1 a h1 h2)).narrow hAA, hX.warm hW⟩
theorem callB_X {ν : MI} {d dν n : Nat} {R : Room} {s : State} {args : Array Value} {own : String} {idx : Nat} (hts : ∀ w ∈ tb, w.before args s = true) (hm : Mw ν n) (hl : Cond.methodLink own idx ν.1 ∈ tb) (hdd : Nat.ble (dν + 1) d = true) (hR1 : d ≤ R.frames) (hR2 : 40 * d ≤ R.locals) : CallB R s args own idx ν.1 ν.2.1 ν.2.2.1 ν.2.2.2 (wsM ν) (rm1 dν) 1 6 n := by
  obtain ⟨h1, h2, h3, h4, h5⟩ := hm
  have hdd := Nat.le_of_ble_eq_true hdd
  have e1 : (rm1 dν).frames = dν := rfl
  have e2 : (rm1 dν).locals = 40 * dν := rfl
  exact ⟨rfl, rfl, by omega, by omega, pay_in hts (fun w hw => ⟨tb_head h1 w hw, (tb_good w (tb_head h1 w hw)).2⟩), List.mem_cons_self, hts _ h1, hts _ h2, h3, h4, hts _ hl⟩
theorem nse_pl : (vx_at0 RX11 141 NSE nseN).filter goodWord = ([17, 1331, 1340, 1342, 1345, 1347, 1332, 1333, 32, 33, 1334, 1339, 1343, 1359, 1321, 1360, 1323, 1361, 1325, 1335, 1337, 1327, 1349, 1350, 1351, 1352, 1352, 1353, 1354, 1355, 1355, 1356, 1357, 1332, 1348, 1310, 1318, 1319, 1320, 1322, 1324, 1326, 1330, 1329, 1328] : List Nat).filterMap (fun i => tables_1[i]?) := by decide +kernel
theorem nse_in : ∀ w ∈ (vx_at0 RX11 141 NSE nseN).filter goodWord, w ∈ tb := fun w hw => by
  have g := (List.mem_filter.mp hw).2
  rw [nse_pl] at hw
  obtain ⟨i, -, hi⟩ := List.mem_filterMap.mp hw
  exact tb_t (List.mem_of_getElem? hi) g
theorem nse_out : ∀ w ∈ (vx_at0 RX11 141 NSE nseN).filter (fun w => !goodWord w), w ∈ nseB := by
  have : (vx_at0 RX11 141 NSE nseN).filter (fun w => !goodWord w) = nseB := by decide +kernel
  rw [this]; exact fun _ h => h
theorem nse_ot : ∀ w ∈ Cond.classLink RX11 139 NSE :: Cond.initialized NSE :: vx_at0 RX11 141 NSE nseN, vx_ot w = true := List.all_eq_true.mp (by decide +kernel)
theorem nse_ck : Cond.classLink RX11 139 NSE ∈ tb := tb_6 109 (by decide +kernel) (by decide +kernel)
theorem nse_ini : Cond.initialized NSE ∈ tb := tb_1 20 (by decide +kernel) (by decide +kernel)
/-- a method of the class that comes to 'throw new NoSuchElementException()' with an empty stack, the store as it stands at the throw -/
theorem vM_of {μ : MI} {d : Nat} {av : List Value} {σ σ1 : St} {pcT : Nat} {lvT : List (Option Value)} (l : Launch) (hl : l.stackTraces = false) (D : va_G) (dA : Nat → ClassId) (ad : Nat → Nat) (hy : plainName μ.1.cls = true) (hcl : μ.1.cls = RX11) (hlen : Nat.ble ((lg_sl av).length) μ.2.2.1 = true) (hd8 : 8 ≤ d)
    (d0 : decode μ.2.1 pcT = .ok (.new 139, 3)) (d3 : decode μ.2.1 (pcT + 3) = .ok (.dup, 1)) (d4 : decode μ.2.1 (pcT + 4) = .ok (.invokespecial 141, 3)) (d7 : decode μ.2.1 (pcT + 7) = .ok (.athrow, 1))
    (k : EG (fun _ _ _ => True) μ d (pcT, lvT, [], σ1) 0 (lv0 μ.2.2.1 av) [] σ) : vx_Met l μ.1 (wsM μ) (rm1 d) (va_Pc (av.map (tr ad)) (PreX D dA ad σ)) (fun _ _ _ _ => False) (XCn D dA ad σ1) 1 6 (AW ad) := by
  refine vx_ofW (cc := μ.2.1) (maxL := μ.2.2.1) (ret := μ.2.2.2) hy rfl ?_
  intro p e s m args below meth c s₁ B hml htab hv
  obtain ⟨hargs, ⟨hP, hK, hJ, hSt, hN⟩, ⟨hU, hU2⟩, hX⟩ := hv
  have hts : ∀ w ∈ wsM μ, w.before args s = true := atoms_spec (ws := wsM μ) B.pre
  have hts2 : ∀ w ∈ tb, w.before args s = true := fun w hw => hts w (List.mem_cons_of_mem _ hw)
  have hown : s.vm.findClass μ.1.cls = some m.cls := findClass_of_methodNamed B.named
  have e1 : (lg_sl (av.map (tr ad))).length = (lg_sl av).length := by
    simp only [lg_sl]
    clear hargs hlen k
    induction av with
    | nil => rfl
    | cons v t ih =>
      simp only [List.map_cons, List.flatMap_cons, List.length_append, ih, tr_cat]
      split <;> rfl
  have hlvs := lv0_at (vs := av.map (tr ad)) (nL := μ.2.2.1) (by rw [e1]; exact Nat.le_of_ble_eq_true hlen)
  rw [← lv0_tr] at hlvs
  have hent : entryFrame m args μ.2.2.1 = F0 m 0 ((lg_sl (av.map (tr ad)) ++ List.replicate (μ.2.2.1 - (lg_sl (av.map (tr ad))).length) Slot.unset).toArray) [] := by
    rw [hargs]; exact lg_entry_eq m _ _
  rw [hent]
  refine k p l e (headSpec (wsM μ) (rm1 d)).room s m args below meth c D dA ad (AW ad) 0 0 _ ⟨B.exec, B.bytes, hown, hts2, hK, hJ, hSt, hN, hml, B.notSynchronized, Nat.le_refl _, Nat.le_refl _, fun _ h => h, trivial⟩ ⟨Nat.zero_le _, Nat.zero_le _⟩ ?_ s.heap [] _ hP va_S.rf hlvs
  intro H locs ls hP1 hS1 hl1
  have hR1 : (headSpec (wsM μ) (rm1 d)).room.frames = d := rfl
  have hR2 : (headSpec (wsM μ) (rm1 d)).room.locals = 40 * d := rfl
  rw [hcl] at hown
  refine vx_throw0 (names := nseN) (cls := NSE) (own := RX11) (ik := 139) (ic := 141) (mc := 1) (ms := 6) (A := AW ad) B.exec B.bytes hl hown (by decide +kernel) (by decide +kernel) (hts2 _ nse_ck) (hts2 _ nse_ini) (vx_hat (B := nseB) (fun w hw => hts2 w (nse_in w hw)) nse_out hX.use) nse_ot hU hU2 hS1 (by rw [hml]; exact hl1.2.1) d0 d3 d4 d7 (fun x hx => (htab x hx).elim) ?_ ?_ (Nat.le_refl _) (Nat.le_refl _) B.notSynchronized ?_ hS1.2.2 (Nat.le_refl _) (Nat.le_refl _)
  · rw [hR1]; show 2 + 3 < d; omega
  · rw [hR2]; show 0 + (13 * (2 + 1) + 42) ≤ 40 * d; omega
  · intro t hvm hz hq
    exact ⟨rfl, hP1.kept (fun k x hx => hq x.1 (hP1 k x hx).lt), Nat.le_trans hS1.1 hz, fun q h1 h2 => (hq q (Nat.lt_of_lt_of_le h1 hS1.1)).trans (hS1.2.1 q h1 h2)⟩
theorem go_light {E0 : State → (Nat → Nat) → (Nat → Prop) → Prop} {σ : St} {x y v : Int32} (h : f_X11_isLight x σ = some v) (hc : v = 0 ∨ (v ≠ 0 ∧ y < 0) ∨ (v ≠ 0 ∧ ¬ y < 0 ∧ ¬ y ≤ nI 10)) : EG E0 mX11_light 8 (18, [some (.ref 0), some (.int x), some (.int y), none], [], σ) 0 [some (.ref 0), some (.int x), some (.int y), none] [] σ := by
  refine g_aload_n qX11_light_0 rfl ?_
  refine g_iload_n qX11_light_1 rfl ?_
  refine g_cVi1 qX11_light_2 mv_X11_135 shq_0 rfl rfl (w_X11_isLight h) ?_
  refine g_if_eq (tgt := 18) qX11_light_5 (by decide) (fun _ => g_end rfl) (fun z => ?_)
  refine g_iload_n qX11_light_8 rfl ?_
  refine g_if_lt (tgt := 18) qX11_light_9 (by decide) (fun _ => g_end rfl) (fun z2 => ?_)
  refine g_iload_n qX11_light_12 rfl ?_
  refine g_bipush (nI 10) qX11_light_13 (by decide +kernel) ?_
  refine g_icmp_le (tgt := 26) qX11_light_15 (by decide) (fun z3 => ?_) (fun _ => g_end rfl)
  rcases hc with h1 | ⟨-, h2⟩ | ⟨-, -, h3⟩
  · exact absurd h1 z
  · exact absurd h2 z2
  · exact absurd z3 h3
theorem go_mean {E0 : State → (Nat → Nat) → (Nat → Prop) → Prop} {σ : St} {x : Int32} (hc : σ.1 3 2 = 0 ∨ (σ.1 3 2 ≠ 0 ∧ x < 0) ∨ (σ.1 3 2 ≠ 0 ∧ ¬ x < 0 ∧ ¬ x ≤ nI 1)) : EG E0 mX11_mean 8 (19, [some (.ref 0), some (.int x), none, none, none], [], σ) 0 [some (.ref 0), some (.int x), none, none, none] [] σ := by
  refine g_aload_n qX11_mean_0 rfl ?_
  refine g_getr 3 qX11_mean_1 fl_X11_19 shq_0 kdq_10_1 rrq_0_1 ?_
  refine g_geti qX11_mean_4 fl_X11_314 shq_3 kdq_1_2 ?_
  refine g_if_eq (tgt := 19) qX11_mean_7 (by decide) (fun _ => g_end rfl) (fun z => ?_)
  refine g_iload_n qX11_mean_10 rfl ?_
  refine g_if_lt (tgt := 19) qX11_mean_11 (by decide) (fun _ => g_end rfl) (fun z2 => ?_)
  refine g_iload_n qX11_mean_14 rfl ?_
  refine g_iconst (nI 1) qX11_mean_15 (by decide +kernel) ?_
  refine g_icmp_le (tgt := 27) qX11_mean_16 (by decide) (fun z3 => ?_) (fun _ => g_end rfl)
  rcases hc with h1 | ⟨-, h2⟩ | ⟨-, -, h3⟩
  · exact absurd h1 z
  · exact absurd h2 z2
  · exact absurd z3 h3
theorem vM_light {σ : St} {x y v : Int32} (h : f_X11_isLight x σ = some v) (hc : v = 0 ∨ (v ≠ 0 ∧ y < 0) ∨ (v ≠ 0 ∧ ¬ y < 0 ∧ ¬ y ≤ nI 10)) (l : Launch) (hl : l.stackTraces = false) (D : va_G) (dA : Nat → ClassId) (ad : Nat → Nat) : vx_Met l mX11_light.1 (wsM mX11_light) (rm1 8) (va_Pc ([.ref 0, .int x, .int y].map (tr ad)) (PreX D dA ad σ)) (fun _ _ _ _ => False) (XCn D dA ad σ) 1 6 (AW ad) :=
  vM_of l hl D dA ad (by decide +kernel) rfl rfl (Nat.le_refl _) (by decide +kernel) (by decide +kernel) (by decide +kernel) (by decide +kernel) (go_light h hc)
theorem vM_mean {σ : St} {x : Int32} (hc : σ.1 3 2 = 0 ∨ (σ.1 3 2 ≠ 0 ∧ x < 0) ∨ (σ.1 3 2 ≠ 0 ∧ ¬ x < 0 ∧ ¬ x ≤ nI 1)) (l : Launch) (hl : l.stackTraces = false) (D : va_G) (dA : Nat → ClassId) (ad : Nat → Nat) : vx_Met l mX11_mean.1 (wsM mX11_mean) (rm1 8) (va_Pc ([.ref 0, .int x].map (tr ad)) (PreX D dA ad σ)) (fun _ _ _ _ => False) (XCn D dA ad σ) 1 6 (AW ad) :=
  vM_of l hl D dA ad (by decide +kernel) rfl rfl (Nat.le_refl _) (by decide +kernel) (by decide +kernel) (by decide +kernel) (by decide +kernel) (go_mean hc)
