/-! the judgement 'goes to': from pc the frame comes to a place of its own, with the locals, the stack and the store there -/
def GCtx (E0 : State → (Nat → Nat) → (Nat → Prop) → Prop) (μ : MI) (d : Nat) (p : Program) (R : Room) (s : State) (m : MethodId) (args : Array Value) (meth : Method) (c : Code) (D : va_G) (dA : Nat → ClassId) (ad : Nat → Nat) (A : Nat → Prop) : Prop :=
  p.tables.exec = Jvm.exec ∧ c.code = μ.2.1 ∧ s.vm.findClass μ.1.cls = some m.cls ∧ (∀ w ∈ tb, w.before args s = true) ∧ va_K D vwCl (tys dA) s ∧ Inj ad ∧ Sta (fun i => ad (1000 + i)) A s s.heap ∧ Nst ad s ∧ c.maxLocals = μ.2.2.1 ∧ meth.locks = false ∧ d ≤ R.frames ∧ 40 * d ≤ R.locals ∧ (∀ q, AW ad q → A q) ∧ E0 s ad A
abbrev Tg : Type := Nat × List (Option Value) × List Value × St
def GF (μ : MI) (T : Tg) (p : Program) (l : Launch) (e : Env) (R : Room) (s : State) (m : MethodId) (args : Array Value) (below : List Frame) (meth : Method) (c : Code) (D : va_G) (dA : Nat → ClassId) (ad : Nat → Nat) (A : Nat → Prop) (cells slots : Nat) (Q : State → Prop) : Prop :=
  ∀ (H : Heap) (locs : List Loc) (ls : Array Slot), va_P D vwCl (wld ad dA T.2.2.2) H → va_S A s.heap H locs → lvs ls μ.2.2.1 (trL ad T.2.1) → W p l e R s m args below meth c H locs cells slots Q (F0 m T.1 ls (T.2.2.1.map (tr ad)))
def EG (E0 : State → (Nat → Nat) → (Nat → Prop) → Prop) (μ : MI) (d : Nat) (T : Tg) (pc : Nat) (lv : List (Option Value)) (st : List Value) (σ : St) : Prop :=
  ∀ (p : Program) (l : Launch) (e : Env) (R : Room) (s : State) (m : MethodId) (args : Array Value) (below : List Frame) (meth : Method) (c : Code) (D : va_G) (dA : Nat → ClassId) (ad : Nat → Nat) (A : Nat → Prop) (cells slots : Nat) (Q : State → Prop),
    GCtx E0 μ d p R s m args meth c D dA ad A → (cells ≤ R.cells ∧ slots ≤ R.slots) → GF μ T p l e R s m args below meth c D dA ad A cells slots Q → ∀ (H : Heap) (locs : List Loc) (ls : Array Slot), va_P D vwCl (wld ad dA σ) H → va_S A s.heap H locs → lvs ls μ.2.2.1 (trL ad lv) → W p l e R s m args below meth c H locs cells slots Q (F0 m pc ls (st.map (tr ad)))
theorem Sta.narrow {sa : Nat → Nat} {A B : Nat → Prop} {U : State} {H : Heap} (h : Sta sa A U H) (hAB : ∀ q, B q → A q) : Sta sa B U H := by
  obtain ⟨h1, h2, h3, h4, h5, h6, h7, h8, h9, h10⟩ := h
  exact ⟨fun i hi => ⟨(h1 i hi).1.narrow hAB, (h1 i hi).2.narrow hAB⟩, h2.narrow hAB, h3.narrow hAB, h4.narrow hAB, h5.narrow hAB, h6.narrow hAB, h7.narrow hAB, h8.narrow hAB, h9.narrow hAB, h10.narrow hAB⟩
theorem preG_at {D : va_G} {dA : Nat → ClassId} {ad : Nat → Nat} {σ : St} {av : List Value} {s U : State} {H : Heap} {locs : List Loc} {A : Nat → Prop} (hP : va_P D vwCl (wld ad dA σ) H) (hK : va_K D vwCl (tys dA) s) (hJ : Inj ad) (hSt : Sta (fun i => ad (1000 + i)) A s s.heap) (hN : Nst ad s) (hAA : ∀ q, AW ad q → A q) (hS : va_S A s.heap H locs) (hU : U.heap = H) (hW : s.WarmedH U.vm) : va_Pc av (PreC D dA ad σ) av.toArray U :=
  ⟨rfl, by rw [hU]; exact hP, va_K.moved hW.alike hK, hJ, by rw [hU]; exact ((hSt.moved hW.alike).kept (fun a h1 h2 => hS.2.1 a h1 h2)).narrow hAA, hN.warm hW⟩
theorem W_callG {p : Program} {l : Launch} {e : Env} {R : Room} {s : State} {m : MethodId} {args : Array Value} {below : List Frame} {meth : Method} {c : Code} {H : Heap} {locs : List Loc} {cells slots : Nat} {Q : State → Prop} {D : va_G} {dA : Nat → ClassId} {ad : Nat → Nat} {A : Nat → Prop} {mc ms : Nat} {rv : Option Value} {σ1 : St} {pc : Nat} {ls : Array Slot} {st0 rest : List Value} {a : Array Value}
    (hr : va_Run p l e R s m args below meth c H locs cells slots mc ms (F0 m pc ls st0) rest (Qx D dA ad (rv, σ1) a) (AW ad)) (hAA : ∀ q, AW ad q → A q) (hS : va_S A s.heap H locs)
    (kk : ∀ (H1 : Heap) (locs1 : List Loc), va_P D vwCl (wld ad dA σ1) H1 → va_S A s.heap H1 locs1 → W p l e R s m args below meth c H1 locs1 (cells + mc) (slots + ms) Q (F0 m (pc + 3) ls (rv.toList ++ rest))) : W p l e R s m args below meth c H locs cells slots Q (F0 m pc ls st0) := by
  intro T hT X
  obtain ⟨v, st₀, t, T', L, h0, X', hL, e1, e2, ⟨⟨hv, hp⟩, hz, hk⟩, st⟩ := hr T hT X
  cases hv
  rw [h0] at hz hk
  obtain ⟨t2, a1, b1⟩ := kk T'.heap (locs ++ L) (by rw [e1]; exact hp)
    ⟨Nat.le_trans hS.1 (by rw [e1]; exact hz), fun q h1 h2 => by rw [e1, hk q (Nat.lt_of_lt_of_le h1 hS.1) (fun z => h2 (hAA _ z))]; exact hS.2.1 q h1 h2, fun q hq => by
      rcases List.mem_append.mp hq with h | h
      · exact hS.2.2 q h
      · exact hAA _ (hL q h)⟩ T' rfl X'
  exact ⟨t2, st t2 a1, b1⟩
section RowsG
variable {E0 : State → (Nat → Nat) → (Nat → Prop) → Prop} {μ ν : MI} {d dν n : Nat} {T : Tg} {pc pc2 : Nat} {lv : List (Option Value)} {st : List Value} {σ σ1 : St}
theorem g_iconst {n : Int} (v : Int32) (hd : Dc μ pc (.iconst n) 1 pc2) (hv : Int32.ofInt n = v) (k : EG E0 μ d T pc2 lv (.int v :: st) σ) : EG E0 μ d T pc lv (st) σ := by
  obtain ⟨hd, rfl⟩ := hd
  intro p l e R s m args below meth c D dA ad A cells slots Q X C9 F H locs ls hP hS hl
  obtain ⟨hx, hb, hown, hts, hK, hJ, hSt, hN, hml, hlk, hR1, hR2, hAA, hE0⟩ := id X
  exact lv_iconst hx hb hd hv (k _ _ _ _ _ _ _ _ _ _ _ _ _ _ _ _ _ X C9 F H locs ls hP hS hl)
theorem g_bipush {n : Int} (v : Int32) (hd : Dc μ pc (.bipush n) 2 pc2) (hv : (Int8.ofInt n).toInt32 = v) (k : EG E0 μ d T pc2 lv (.int v :: st) σ) : EG E0 μ d T pc lv (st) σ := by
  obtain ⟨hd, rfl⟩ := hd
  intro p l e R s m args below meth c D dA ad A cells slots Q X C9 F H locs ls hP hS hl
  obtain ⟨hx, hb, hown, hts, hK, hJ, hSt, hN, hml, hlk, hR1, hR2, hAA, hE0⟩ := id X
  exact lv_bipush hx hb hd hv (k _ _ _ _ _ _ _ _ _ _ _ _ _ _ _ _ _ X C9 F H locs ls hP hS hl)
theorem g_iload {i : Nat} {x : Int32} (hd : Dc μ pc (.iload i) 2 pc2) (h : lv[i]? = some (some (.int x))) (k : EG E0 μ d T pc2 lv (.int x :: st) σ) : EG E0 μ d T pc lv (st) σ := by
  obtain ⟨hd, rfl⟩ := hd
  intro p l e R s m args below meth c D dA ad A cells slots Q X C9 F H locs ls hP hS hl
  obtain ⟨hx, hb, hown, hts, hK, hJ, hSt, hN, hml, hlk, hR1, hR2, hAA, hE0⟩ := id X
  exact lv_iload hx hb hd (hl.2.2.2 _ _ (trL_at h)) (k _ _ _ _ _ _ _ _ _ _ _ _ _ _ _ _ _ X C9 F H locs ls hP hS hl)
theorem g_iload_n {i : _root_.Fin 4} {x : Int32} (hd : Dc μ pc (.iload_n i) 1 pc2) (h : lv[i.val]? = some (some (.int x))) (k : EG E0 μ d T pc2 lv (.int x :: st) σ) : EG E0 μ d T pc lv (st) σ := by
  obtain ⟨hd, rfl⟩ := hd
  intro p l e R s m args below meth c D dA ad A cells slots Q X C9 F H locs ls hP hS hl
  obtain ⟨hx, hb, hown, hts, hK, hJ, hSt, hN, hml, hlk, hR1, hR2, hAA, hE0⟩ := id X
  exact lv_iload_n hx hb hd rfl (hl.2.2.2 _ _ (trL_at h)) (k _ _ _ _ _ _ _ _ _ _ _ _ _ _ _ _ _ X C9 F H locs ls hP hS hl)
theorem g_aload_n {i : _root_.Fin 4} {x : Nat} (hd : Dc μ pc (.aload_n i) 1 pc2) (h : lv[i.val]? = some (some (.ref x))) (k : EG E0 μ d T pc2 lv (.ref x :: st) σ) : EG E0 μ d T pc lv (st) σ := by
  obtain ⟨hd, rfl⟩ := hd
  intro p l e R s m args below meth c D dA ad A cells slots Q X C9 F H locs ls hP hS hl
  obtain ⟨hx, hb, hown, hts, hK, hJ, hSt, hN, hml, hlk, hR1, hR2, hAA, hE0⟩ := id X
  exact lv_aload_n hx hb hd rfl (hl.2.2.2 _ _ (trL_at h)) (k _ _ _ _ _ _ _ _ _ _ _ _ _ _ _ _ _ X C9 F H locs ls hP hS hl)
theorem g_iadd {x y : Int32} (hd : Dc μ pc (.iadd) 1 pc2)  (k : EG E0 μ d T pc2 lv (.int (x + y) :: st) σ) : EG E0 μ d T pc lv (.int y :: .int x :: st) σ := by
  obtain ⟨hd, rfl⟩ := hd
  intro p l e R s m args below meth c D dA ad A cells slots Q X C9 F H locs ls hP hS hl
  obtain ⟨hx, hb, hown, hts, hK, hJ, hSt, hN, hml, hlk, hR1, hR2, hAA, hE0⟩ := id X
  exact lv_iadd hx hb hd (k _ _ _ _ _ _ _ _ _ _ _ _ _ _ _ _ _ X C9 F H locs ls hP hS hl)
theorem g_isub {x y : Int32} (hd : Dc μ pc (.isub) 1 pc2)  (k : EG E0 μ d T pc2 lv (.int (x - y) :: st) σ) : EG E0 μ d T pc lv (.int y :: .int x :: st) σ := by
  obtain ⟨hd, rfl⟩ := hd
  intro p l e R s m args below meth c D dA ad A cells slots Q X C9 F H locs ls hP hS hl
  obtain ⟨hx, hb, hown, hts, hK, hJ, hSt, hN, hml, hlk, hR1, hR2, hAA, hE0⟩ := id X
  exact lv_isub hx hb hd (k _ _ _ _ _ _ _ _ _ _ _ _ _ _ _ _ _ X C9 F H locs ls hP hS hl)
theorem g_iand {x y : Int32} (hd : Dc μ pc (.iand) 1 pc2)  (k : EG E0 μ d T pc2 lv (.int (x &&& y) :: st) σ) : EG E0 μ d T pc lv (.int y :: .int x :: st) σ := by
  obtain ⟨hd, rfl⟩ := hd
  intro p l e R s m args below meth c D dA ad A cells slots Q X C9 F H locs ls hP hS hl
  obtain ⟨hx, hb, hown, hts, hK, hJ, hSt, hN, hml, hlk, hR1, hR2, hAA, hE0⟩ := id X
  exact lv_iand hx hb hd (k _ _ _ _ _ _ _ _ _ _ _ _ _ _ _ _ _ X C9 F H locs ls hP hS hl)
theorem g_i2l {x : Int32} (hd : Dc μ pc (.i2l) 1 pc2)  (k : EG E0 μ d T pc2 lv (.long x.toInt64 :: st) σ) : EG E0 μ d T pc lv (.int x :: st) σ := by
  obtain ⟨hd, rfl⟩ := hd
  intro p l e R s m args below meth c D dA ad A cells slots Q X C9 F H locs ls hP hS hl
  obtain ⟨hx, hb, hown, hts, hK, hJ, hSt, hN, hml, hlk, hR1, hR2, hAA, hE0⟩ := id X
  exact lv_i2l hx hb hd rfl (k _ _ _ _ _ _ _ _ _ _ _ _ _ _ _ _ _ X C9 F H locs ls hP hS hl)
theorem g_lcmp {x y : Int64} (hd : Dc μ pc (.lcmp) 1 pc2)  (k : EG E0 μ d T pc2 lv (.int (lg_cmp x y) :: st) σ) : EG E0 μ d T pc lv (.long y :: .long x :: st) σ := by
  obtain ⟨hd, rfl⟩ := hd
  intro p l e R s m args below meth c D dA ad A cells slots Q X C9 F H locs ls hP hS hl
  obtain ⟨hx, hb, hown, hts, hK, hJ, hSt, hN, hml, hlk, hR1, hR2, hAA, hE0⟩ := id X
  exact W.lcmp hx hb hd (k _ _ _ _ _ _ _ _ _ _ _ _ _ _ _ _ _ X C9 F H locs ls hP hS hl)
theorem g_if_eq {x : Int32} {off : Int} {tgt : Nat}  (hd : Dc μ pc (.ifCond .eq off) 3 pc2) (ht : (pc : Int) + off = (tgt : Int)) (kt : x = 0 → EG E0 μ d T tgt lv st σ) (kf : ¬ (x = 0) → EG E0 μ d T pc2 lv st σ) : EG E0 μ d T pc lv (.int x :: st) σ := by
  obtain ⟨hd, rfl⟩ := hd
  intro p l e R s m args below meth c D dA ad A cells slots Q X C9 F H locs ls hP hS hl
  obtain ⟨hx, hb, hown, hts, hK, hJ, hSt, hN, hml, hlk, hR1, hR2, hAA, hE0⟩ := id X
  exact lv_if_eq hx hb hd ht (fun z => kt z _ _ _ _ _ _ _ _ _ _ _ _ _ _ _ _ _ X C9 F H locs ls hP hS hl) (fun z => kf z _ _ _ _ _ _ _ _ _ _ _ _ _ _ _ _ _ X C9 F H locs ls hP hS hl)
theorem g_if_ne {x : Int32} {off : Int} {tgt : Nat}  (hd : Dc μ pc (.ifCond .ne off) 3 pc2) (ht : (pc : Int) + off = (tgt : Int)) (kt : x = 0 → EG E0 μ d T pc2 lv st σ) (kf : ¬ (x = 0) → EG E0 μ d T tgt lv st σ) : EG E0 μ d T pc lv (.int x :: st) σ := by
  obtain ⟨hd, rfl⟩ := hd
  intro p l e R s m args below meth c D dA ad A cells slots Q X C9 F H locs ls hP hS hl
  obtain ⟨hx, hb, hown, hts, hK, hJ, hSt, hN, hml, hlk, hR1, hR2, hAA, hE0⟩ := id X
  exact lv_if_ne hx hb hd ht (fun z => kf z _ _ _ _ _ _ _ _ _ _ _ _ _ _ _ _ _ X C9 F H locs ls hP hS hl) (fun z => kt z _ _ _ _ _ _ _ _ _ _ _ _ _ _ _ _ _ X C9 F H locs ls hP hS hl)
theorem g_if_lt {x : Int32} {off : Int} {tgt : Nat}  (hd : Dc μ pc (.ifCond .lt off) 3 pc2) (ht : (pc : Int) + off = (tgt : Int)) (kt : x < 0 → EG E0 μ d T tgt lv st σ) (kf : ¬ (x < 0) → EG E0 μ d T pc2 lv st σ) : EG E0 μ d T pc lv (.int x :: st) σ := by
  obtain ⟨hd, rfl⟩ := hd
  intro p l e R s m args below meth c D dA ad A cells slots Q X C9 F H locs ls hP hS hl
  obtain ⟨hx, hb, hown, hts, hK, hJ, hSt, hN, hml, hlk, hR1, hR2, hAA, hE0⟩ := id X
  exact lv_if_lt hx hb hd ht (fun z => kt z _ _ _ _ _ _ _ _ _ _ _ _ _ _ _ _ _ X C9 F H locs ls hP hS hl) (fun z => kf z _ _ _ _ _ _ _ _ _ _ _ _ _ _ _ _ _ X C9 F H locs ls hP hS hl)
theorem g_icmp_eq {x y : Int32} {off : Int} {tgt : Nat}  (hd : Dc μ pc (.if_icmp .eq off) 3 pc2) (ht : (pc : Int) + off = (tgt : Int)) (kt : x = y → EG E0 μ d T tgt lv st σ) (kf : ¬ (x = y) → EG E0 μ d T pc2 lv st σ) : EG E0 μ d T pc lv (.int y :: .int x :: st) σ := by
  obtain ⟨hd, rfl⟩ := hd
  intro p l e R s m args below meth c D dA ad A cells slots Q X C9 F H locs ls hP hS hl
  obtain ⟨hx, hb, hown, hts, hK, hJ, hSt, hN, hml, hlk, hR1, hR2, hAA, hE0⟩ := id X
  exact lv_icmp_eq hx hb hd ht (fun z => kt z _ _ _ _ _ _ _ _ _ _ _ _ _ _ _ _ _ X C9 F H locs ls hP hS hl) (fun z => kf z _ _ _ _ _ _ _ _ _ _ _ _ _ _ _ _ _ X C9 F H locs ls hP hS hl)
theorem g_icmp_gt {x y : Int32} {off : Int} {tgt : Nat}  (hd : Dc μ pc (.if_icmp .gt off) 3 pc2) (ht : (pc : Int) + off = (tgt : Int)) (kt : y < x → EG E0 μ d T tgt lv st σ) (kf : ¬ (y < x) → EG E0 μ d T pc2 lv st σ) : EG E0 μ d T pc lv (.int y :: .int x :: st) σ := by
  obtain ⟨hd, rfl⟩ := hd
  intro p l e R s m args below meth c D dA ad A cells slots Q X C9 F H locs ls hP hS hl
  obtain ⟨hx, hb, hown, hts, hK, hJ, hSt, hN, hml, hlk, hR1, hR2, hAA, hE0⟩ := id X
  exact lv_icmp_gt hx hb hd ht (fun z => kt z _ _ _ _ _ _ _ _ _ _ _ _ _ _ _ _ _ X C9 F H locs ls hP hS hl) (fun z => kf z _ _ _ _ _ _ _ _ _ _ _ _ _ _ _ _ _ X C9 F H locs ls hP hS hl)
theorem g_icmp_le {x y : Int32} {off : Int} {tgt : Nat}  (hd : Dc μ pc (.if_icmp .le off) 3 pc2) (ht : (pc : Int) + off = (tgt : Int)) (kt : x ≤ y → EG E0 μ d T tgt lv st σ) (kf : ¬ (x ≤ y) → EG E0 μ d T pc2 lv st σ) : EG E0 μ d T pc lv (.int y :: .int x :: st) σ := by
  obtain ⟨hd, rfl⟩ := hd
  intro p l e R s m args below meth c D dA ad A cells slots Q X C9 F H locs ls hP hS hl
  obtain ⟨hx, hb, hown, hts, hK, hJ, hSt, hN, hml, hlk, hR1, hR2, hAA, hE0⟩ := id X
  exact lv_icmp_le hx hb hd ht (fun z => kt z _ _ _ _ _ _ _ _ _ _ _ _ _ _ _ _ _ X C9 F H locs ls hP hS hl) (fun z => kf z _ _ _ _ _ _ _ _ _ _ _ _ _ _ _ _ _ X C9 F H locs ls hP hS hl)
theorem g_goto {off : Int} {tgt : Nat} (hd : Dc μ pc (.goto off) 3 pc2) (ht : (pc : Int) + off = (tgt : Int)) (k : EG E0 μ d T tgt lv st σ) : EG E0 μ d T pc lv st σ := by
  obtain ⟨hd, rfl⟩ := hd
  intro p l e R s m args below meth c D dA ad A cells slots Q X C9 F H locs ls hP hS hl
  obtain ⟨hx, hb, hown, hts, hK, hJ, hSt, hN, hml, hlk, hR1, hR2, hAA, hE0⟩ := id X
  exact lv_goto hx hb hd ht (k _ _ _ _ _ _ _ _ _ _ _ _ _ _ _ _ _ X C9 F H locs ls hP hS hl)
theorem g_tswi {df lo hi : Int} {offs : Array Int} {len : Nat} {x : Int32} {off : Int} {tgt : Nat} (hd : Dc μ pc (.tableswitch df lo hi offs) len pc2) (h1 : ¬ x.toInt < lo) (h2 : ¬ hi < x.toInt) (ho : offs[(x.toInt - lo).toNat]? = some off) (ht : (pc : Int) + off = (tgt : Int)) (k : EG E0 μ d T tgt lv st σ) : EG E0 μ d T pc lv (.int x :: st) σ := by
  obtain ⟨hd, rfl⟩ := hd
  intro p l e R s m args below meth c D dA ad A cells slots Q X C9 F H locs ls hP hS hl
  obtain ⟨hx, hb, hown, hts, hK, hJ, hSt, hN, hml, hlk, hR1, hR2, hAA, hE0⟩ := id X
  exact lv_tableIn hx hb hd h1 h2 ho ht (k _ _ _ _ _ _ _ _ _ _ _ _ _ _ _ _ _ X C9 F H locs ls hP hS hl)
theorem g_weak {lv2 : List (Option Value)} (k : EG E0 μ d T pc lv2 st σ) (h : lvle lv2 lv) : EG E0 μ d T pc lv st σ := by
  intro p l e R s m args below meth c D dA ad A cells slots Q X C9 F H locs ls hP hS hl
  obtain ⟨hx, hb, hown, hts, hK, hJ, hSt, hN, hml, hlk, hR1, hR2, hAA, hE0⟩ := id X
  have h := lvle_tr (ad := ad) h
  exact (k _ _ _ _ _ _ _ _ _ _ _ _ _ _ _ _ _ X C9 F H locs ls hP hS ⟨(lvle_at h).1.trans hl.1, hl.2.1, hl.2.2.1, fun j v hj => hl.2.2.2 j v ((lvle_at h).2 j v hj)⟩)
theorem g_istore {k : Nat} {x : Int32} {lv2 : List (Option Value)} (hd : Dc μ pc (.istore k) 2 pc2) (hn : Nat.ble (k + 1) lv.length = true) (hq : nlb lv k = true) (h2 : (lv.set k (some (.int x))) = lv2) (k0 : EG E0 μ d T pc2 lv2 st σ) : EG E0 μ d T pc lv (.int x :: st) σ := by
  subst h2
  obtain ⟨hd, rfl⟩ := hd
  intro p l e R s m args below meth c D dA ad A cells slots Q X C9 F H locs ls hP hS hl
  obtain ⟨hx, hb, hown, hts, hK, hJ, hSt, hN, hml, hlk, hR1, hR2, hAA, hE0⟩ := id X
  have hn : k < lv.length := Nat.le_of_ble_eq_true hn
  have hlen : (trL ad lv).length = lv.length := List.length_map ..
  have e : trL ad ((lv.set k (some (.int x)))) = (trL ad lv).set k (some (.int x)) := by simp only [List.map_set]; rfl
  exact lv_istore hx hb hd hl.has (by have := hl.1; omega) rfl (fun ls2 h2 => k0 _ _ _ _ _ _ _ _ _ _ _ _ _ _ _ _ _ X C9 F H locs ls2 hP hS (by rw [e]; exact lvs_s1 hl.1 (nlb_e hq) h2))
theorem g_iinc {k : Nat} {n : Int} {x : Int32} (v y : Int32) {lv2 : List (Option Value)} (hd : Dc μ pc (.iinc k n) 3 pc2) (hx0 : lv[k]? = some (some (.int x))) (hq : nlb lv k = true) (hv : Int32.ofInt n = v) (hy : x + v = y) (h2 : lv.set k (some (.int y)) = lv2) (k0 : EG E0 μ d T pc2 lv2 st σ) : EG E0 μ d T pc lv st σ := by
  subst h2 hv hy
  obtain ⟨hd, rfl⟩ := hd
  intro p l e R s m args below meth c D dA ad A cells slots Q X C9 F H locs ls hP hS hl
  obtain ⟨hx, hb, hown, hts, hK, hJ, hSt, hN, hml, hlk, hR1, hR2, hAA, hE0⟩ := id X
  have hn : k < lv.length := (List.getElem?_eq_some_iff.mp hx0).1
  have hlen : (trL ad lv).length = lv.length := List.length_map ..
  have e : trL ad (lv.set k (some (.int (x + Int32.ofInt n)))) = (trL ad lv).set k (some (.int (x + Int32.ofInt n))) := by simp only [List.map_set]; rfl
  obtain ⟨q, hq2⟩ := List.getElem?_of_mem (asc_mem.mpr (trL_at (ad := ad) hx0))
  exact lv_iinc hx hb hd hl.has hq2 rfl (by have := hl.1; omega) rfl (fun ls2 h2 => k0 _ _ _ _ _ _ _ _ _ _ _ _ _ _ _ _ _ X C9 F H locs ls2 hP hS (by rw [e]; exact lvs_s1 hl.1 (nlb_e hq) h2))
theorem g_getr {a k ci idx : Nat} (q : Nat) (hd : Dc μ pc (.getfield idx) 3 pc2) (hf : Fl μ.1.cls idx ci k) (hs : sh a = ci) (ht : kd ci k = 2) (hq : rr a k = q) (k0 : EG E0 μ d T pc2 lv (.ref q :: st) σ) : EG E0 μ d T pc lv (.ref a :: st) σ := by
  obtain ⟨C, T', N, hc, hk, hlay, hlink⟩ := hf
  subst hq
  obtain ⟨hd, rfl⟩ := hd
  intro p l e R s m args below meth c D dA ad A cells slots Q X C9 F H locs ls hP hS hl
  obtain ⟨hx, hb, hown, hts, hK, hJ, hSt, hN, hml, hlk, hR1, hR2, hAA, hE0⟩ := id X
  exact va_get hx hb hts hlay hown hK hP a (ent_at hs (ci_lt hc)) hc k hk (hts _ hlink) (fun _ h => h) (fvs_get (t := 2) (by rw [hs]; exact ht) (by decide)) hd (k0 _ _ _ _ _ _ _ _ _ _ _ _ _ _ _ _ _ X C9 F H locs ls hP hS hl)
theorem g_cVi0 {a ci idx : Nat}  {v : Int32} (hd : Dc μ pc (.invokevirtual idx) 3 pc2) (hm : Mv μ.1.cls idx ν 0 ci) (hs : sh a = ci) (hst : Nat.ble ((st.map Value.category).sum) 8 = true) (hdd : Nat.ble (dν + 1) d = true) (hC : Ct ν dν [.ref a] σ (some (.int v), σ1)) (k0 : EG E0 μ d T pc2 lv (.int v :: st) σ1) : EG E0 μ d T pc lv (.ref a :: st) σ := by
  obtain ⟨hd, rfl⟩ := hd
  intro p l e R s m args below meth c D dA ad A cells slots Q X C9 F H locs ls hP hS hl
  obtain ⟨hx, hb, hown, hts, hK, hJ, hSt, hN, hml, hlk, hR1, hR2, hAA, hE0⟩ := id X
  obtain ⟨hm, hlk1, hin1, hse1, T', N, hc⟩ := hm
  refine W_callG (va_runV (As := []) (rest := st.map (tr ad)) ⟨hx, hb, hml, hown, hts⟩ (hC l D dA ad) ⟨callB_E hts hm hlk1 hdd hR1 hR2, hts _ hin1, hts _ hse1⟩ ⟨preC_blind, va_recv hK hP hc (ent_at hs (ci_lt hc)), fun U hU hW => preG_at (av := (.ref a :: [] : List Value).map (tr ad)) hP hK hJ hSt hN hAA hS hU hW⟩ rfl rfl (by show ls.size = _; rw [hl.2.1]) rfl (stc hst) hd C9) hAA hS (fun H1 locs1 hP1 hS1 => ?_)
  exact k0 _ _ _ _ _ _ _ _ _ _ _ _ _ _ _ _ _ X C9 F H1 locs1 ls hP1 hS1 hl
theorem g_cVi1 {a ci idx : Nat} {a0 : Value} {v : Int32} (hd : Dc μ pc (.invokevirtual idx) 3 pc2) (hm : Mv μ.1.cls idx ν 1 ci) (hs : sh a = ci) (hst : Nat.ble ((st.map Value.category).sum) 8 = true) (hdd : Nat.ble (dν + 1) d = true) (hC : Ct ν dν [.ref a, a0] σ (some (.int v), σ1)) (k0 : EG E0 μ d T pc2 lv (.int v :: st) σ1) : EG E0 μ d T pc lv (a0 :: .ref a :: st) σ := by
  obtain ⟨hd, rfl⟩ := hd
  intro p l e R s m args below meth c D dA ad A cells slots Q X C9 F H locs ls hP hS hl
  obtain ⟨hx, hb, hown, hts, hK, hJ, hSt, hN, hml, hlk, hR1, hR2, hAA, hE0⟩ := id X
  obtain ⟨hm, hlk1, hin1, hse1, T', N, hc⟩ := hm
  refine W_callG (va_runV (As := [tr ad a0]) (rest := st.map (tr ad)) ⟨hx, hb, hml, hown, hts⟩ (hC l D dA ad) ⟨callB_E hts hm hlk1 hdd hR1 hR2, hts _ hin1, hts _ hse1⟩ ⟨preC_blind, va_recv hK hP hc (ent_at hs (ci_lt hc)), fun U hU hW => preG_at (av := (.ref a :: [a0] : List Value).map (tr ad)) hP hK hJ hSt hN hAA hS hU hW⟩ rfl rfl (by show ls.size = _; rw [hl.2.1]) rfl (stc hst) hd C9) hAA hS (fun H1 locs1 hP1 hS1 => ?_)
  exact k0 _ _ _ _ _ _ _ _ _ _ _ _ _ _ _ _ _ X C9 F H1 locs1 ls hP1 hS1 hl
theorem g_cVi2 {a ci idx : Nat} {a0 : Value} {a1 : Value} {v : Int32} (hd : Dc μ pc (.invokevirtual idx) 3 pc2) (hm : Mv μ.1.cls idx ν 2 ci) (hs : sh a = ci) (hst : Nat.ble ((st.map Value.category).sum) 8 = true) (hdd : Nat.ble (dν + 1) d = true) (hC : Ct ν dν [.ref a, a0, a1] σ (some (.int v), σ1)) (k0 : EG E0 μ d T pc2 lv (.int v :: st) σ1) : EG E0 μ d T pc lv (a1 :: a0 :: .ref a :: st) σ := by
  obtain ⟨hd, rfl⟩ := hd
  intro p l e R s m args below meth c D dA ad A cells slots Q X C9 F H locs ls hP hS hl
  obtain ⟨hx, hb, hown, hts, hK, hJ, hSt, hN, hml, hlk, hR1, hR2, hAA, hE0⟩ := id X
  obtain ⟨hm, hlk1, hin1, hse1, T', N, hc⟩ := hm
  refine W_callG (va_runV (As := [tr ad a0, tr ad a1]) (rest := st.map (tr ad)) ⟨hx, hb, hml, hown, hts⟩ (hC l D dA ad) ⟨callB_E hts hm hlk1 hdd hR1 hR2, hts _ hin1, hts _ hse1⟩ ⟨preC_blind, va_recv hK hP hc (ent_at hs (ci_lt hc)), fun U hU hW => preG_at (av := (.ref a :: [a0, a1] : List Value).map (tr ad)) hP hK hJ hSt hN hAA hS hU hW⟩ rfl rfl (by show ls.size = _; rw [hl.2.1]) rfl (stc hst) hd C9) hAA hS (fun H1 locs1 hP1 hS1 => ?_)
  exact k0 _ _ _ _ _ _ _ _ _ _ _ _ _ _ _ _ _ X C9 F H1 locs1 ls hP1 hS1 hl
theorem g_cVi3 {a ci idx : Nat} {a0 : Value} {a1 : Value} {a2 : Value} {v : Int32} (hd : Dc μ pc (.invokevirtual idx) 3 pc2) (hm : Mv μ.1.cls idx ν 3 ci) (hs : sh a = ci) (hst : Nat.ble ((st.map Value.category).sum) 8 = true) (hdd : Nat.ble (dν + 1) d = true) (hC : Ct ν dν [.ref a, a0, a1, a2] σ (some (.int v), σ1)) (k0 : EG E0 μ d T pc2 lv (.int v :: st) σ1) : EG E0 μ d T pc lv (a2 :: a1 :: a0 :: .ref a :: st) σ := by
  obtain ⟨hd, rfl⟩ := hd
  intro p l e R s m args below meth c D dA ad A cells slots Q X C9 F H locs ls hP hS hl
  obtain ⟨hx, hb, hown, hts, hK, hJ, hSt, hN, hml, hlk, hR1, hR2, hAA, hE0⟩ := id X
  obtain ⟨hm, hlk1, hin1, hse1, T', N, hc⟩ := hm
  refine W_callG (va_runV (As := [tr ad a0, tr ad a1, tr ad a2]) (rest := st.map (tr ad)) ⟨hx, hb, hml, hown, hts⟩ (hC l D dA ad) ⟨callB_E hts hm hlk1 hdd hR1 hR2, hts _ hin1, hts _ hse1⟩ ⟨preC_blind, va_recv hK hP hc (ent_at hs (ci_lt hc)), fun U hU hW => preG_at (av := (.ref a :: [a0, a1, a2] : List Value).map (tr ad)) hP hK hJ hSt hN hAA hS hU hW⟩ rfl rfl (by show ls.size = _; rw [hl.2.1]) rfl (stc hst) hd C9) hAA hS (fun H1 locs1 hP1 hS1 => ?_)
  exact k0 _ _ _ _ _ _ _ _ _ _ _ _ _ _ _ _ _ X C9 F H1 locs1 ls hP1 hS1 hl
theorem g_cVi5 {a ci idx : Nat} {a0 : Value} {a1 : Value} {a2 : Value} {a3 : Value} {a4 : Value} {v : Int32} (hd : Dc μ pc (.invokevirtual idx) 3 pc2) (hm : Mv μ.1.cls idx ν 5 ci) (hs : sh a = ci) (hst : Nat.ble ((st.map Value.category).sum) 8 = true) (hdd : Nat.ble (dν + 1) d = true) (hC : Ct ν dν [.ref a, a0, a1, a2, a3, a4] σ (some (.int v), σ1)) (k0 : EG E0 μ d T pc2 lv (.int v :: st) σ1) : EG E0 μ d T pc lv (a4 :: a3 :: a2 :: a1 :: a0 :: .ref a :: st) σ := by
  obtain ⟨hd, rfl⟩ := hd
  intro p l e R s m args below meth c D dA ad A cells slots Q X C9 F H locs ls hP hS hl
  obtain ⟨hx, hb, hown, hts, hK, hJ, hSt, hN, hml, hlk, hR1, hR2, hAA, hE0⟩ := id X
  obtain ⟨hm, hlk1, hin1, hse1, T', N, hc⟩ := hm
  refine W_callG (va_runV (As := [tr ad a0, tr ad a1, tr ad a2, tr ad a3, tr ad a4]) (rest := st.map (tr ad)) ⟨hx, hb, hml, hown, hts⟩ (hC l D dA ad) ⟨callB_E hts hm hlk1 hdd hR1 hR2, hts _ hin1, hts _ hse1⟩ ⟨preC_blind, va_recv hK hP hc (ent_at hs (ci_lt hc)), fun U hU hW => preG_at (av := (.ref a :: [a0, a1, a2, a3, a4] : List Value).map (tr ad)) hP hK hJ hSt hN hAA hS hU hW⟩ rfl rfl (by show ls.size = _; rw [hl.2.1]) rfl (stc hst) hd C9) hAA hS (fun H1 locs1 hP1 hS1 => ?_)
  exact k0 _ _ _ _ _ _ _ _ _ _ _ _ _ _ _ _ _ X C9 F H1 locs1 ls hP1 hS1 hl
theorem g_geti {a k ci idx : Nat} (hd : Dc μ pc (.getfield idx) 3 pc2) (hf : Fl μ.1.cls idx ci k) (hs : sh a = ci) (ht : kd ci k = 0) (k0 : EG E0 μ d T pc2 lv (.int (σ.1 a k) :: st) σ) : EG E0 μ d T pc lv (.ref a :: st) σ := by
  obtain ⟨C, T', N, hc, hk, hlay, hlink⟩ := hf
  obtain ⟨hd, rfl⟩ := hd
  intro p l e R s m args below meth c D dA ad A cells slots Q X C9 F H locs ls hP hS hl
  obtain ⟨hx, hb, hown, hts, hK, hJ, hSt, hN, hml, hlk, hR1, hR2, hAA, hE0⟩ := id X
  exact va_get hx hb hts hlay hown hK hP a (ent_at hs (ci_lt hc)) hc k hk (hts _ hlink) (fun _ h => h) (fvs_get (t := 0) (by rw [hs]; exact ht) (by decide)) hd (k0 _ _ _ _ _ _ _ _ _ _ _ _ _ _ _ _ _ X C9 F H locs ls hP hS hl)
theorem g_lald {a : Nat} {i : Int32} (hd : Dc μ pc (.laload) 1 pc2) (hs : sh a = 23) (hin : ¬ (i < 0 ∨ ln a ≤ i.toNatClampNeg)) (k0 : EG E0 μ d T pc2 lv (.long (σ.2 a i.toNatClampNeg) :: st) σ) : EG E0 μ d T pc lv (.int i :: .ref a :: st) σ := by
  obtain ⟨hd, rfl⟩ := hd
  intro p l e R s m args below meth c D dA ad A cells slots Q X C9 F H locs ls hP hS hl
  obtain ⟨hx, hb, hown, hts, hK, hJ, hSt, hN, hml, hlk, hR1, hR2, hAA, hE0⟩ := id X
  exact va_lald hx hb hK hP a 3 (by rw [wld_get (sh_lt hs (by decide)), ent_l hs]) rfl hin hd (k0 _ _ _ _ _ _ _ _ _ _ _ _ _ _ _ _ _ X C9 F H locs ls hP hS hl)
theorem g_end (h : T = (pc, lv, st, σ)) : EG E0 μ d T pc lv st σ := by
  subst h
  intro p l e R s m args below meth c D dA ad A cells slots Q X C9 F H locs ls hP hS hl
  exact F H locs ls hP hS hl
def E0L (L : Nat) (xs : Nat → Int32) : State → (Nat → Nat) → (Nat → Prop) → Prop := fun s ad A => va_X (ad 3000) L xs s s.heap ∧ ad 3000 < s.heap.size ∧ ¬ A (ad 3000)
theorem g_sld {L : Nat} {xs : Nat → Int32} {i : Int32} (hd : Dc μ pc (.iaload) 1 pc2) (hin : vp_in i L) (k0 : EG (E0L L xs) μ d T pc2 lv (.int (xs i.toNatClampNeg) :: st) σ) : EG (E0L L xs) μ d T pc lv (.int i :: .ref 3000 :: st) σ := by
  obtain ⟨hd, rfl⟩ := hd
  intro p l e R s m args below meth c D dA ad A cells slots Q X C9 F H locs ls hP hS hl
  obtain ⟨hx, hb, hown, hts, hK, hJ, hSt, hN, hml, hlk, hR1, hR2, hAA, hE0⟩ := id X
  exact va_sld hx hb hE0.1 hE0.2.1 hE0.2.2 hS hin hd (k0 _ _ _ _ _ _ _ _ _ _ _ _ _ _ _ _ _ X C9 F H locs ls hP hS hl)
theorem g_slen {L : Nat} {xs : Nat → Int32} (hd : Dc μ pc (.arraylength) 1 pc2) (k0 : EG (E0L L xs) μ d T pc2 lv (.int (nI L) :: st) σ) : EG (E0L L xs) μ d T pc lv (.ref 3000 :: st) σ := by
  obtain ⟨hd, rfl⟩ := hd
  intro p l e R s m args below meth c D dA ad A cells slots Q X C9 F H locs ls hP hS hl
  obtain ⟨hx, hb, hown, hts, hK, hJ, hSt, hN, hml, hlk, hR1, hR2, hAA, hE0⟩ := id X
  exact va_slen hx hb hE0.1 hE0.2.1 hE0.2.2 hS hd (k0 _ _ _ _ _ _ _ _ _ _ _ _ _ _ _ _ _ X C9 F H locs ls hP hS hl)
end RowsG
