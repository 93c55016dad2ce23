/-! construction: a world that grows; references not yet stored are null -/
abbrev BSt : Type := Nat × St × (Nat → Nat → Bool)
def nset (ν : Nat → Nat → Bool) (a k : Nat) : Nat → Nat → Bool := fun i j => if i = a ∧ j = k then false else ν i j
def fr0 (i k : Nat) : Bool := if sh i < 20 then decide (kd (sh i) k = 2) else decide (24 ≤ sh i ∧ k < ln i)
def fv2 (ad : Nat → Nat) (σ : St) (ν : Nat → Nat → Bool) (t i k : Nat) : Value := if t = 0 then .int (σ.1 i k) else if t = 1 then .long (σ.2 i k) else if ν i k = true then .null else .ref (ad (rr i k))
def fvs2 (ad : Nat → Nat) (σ : St) (ν : Nat → Nat → Bool) (i : Nat) : List Value := (List.range (kdL.getD (sh i) []).length).map (fun k => fv2 ad σ ν (kd (sh i) k) i k)
def ent2 (ad : Nat → Nat) (dA : Nat → ClassId) (σ : St) (ν : Nat → Nat → Bool) (i : Nat) : va_E :=
  if sh i < 20 then .inr (sh i, fvs2 ad σ ν i) else if sh i < 23 then .inl (dA (sh i), ln i, .inl (σ.1 i)) else if sh i = 23 then .inl (dA (sh i), ln i, .inr (.inl (σ.2 i))) else .inl (dA (sh i), ln i, .inr (.inr (.inr (.inr (fun j => if ν i j = true then none else some (ad (rr i j)))))))
def cw (ad : Nat → Nat) (dA : Nat → ClassId) (n : Nat) (σ : St) (ν : Nat → Nat → Bool) : va_W := (List.range n).map (fun i => (ad i, ent2 ad dA σ ν i))
def wt (i : Nat) : Nat := if sh i < 20 then (kdL.getD (sh i) []).length else ln i
def SW : Nat → Nat
  | 0 => 0
  | n + 1 => SW n + wt n
theorem SW_mono {a b : Nat} (h : a ≤ b) : SW a ≤ SW b := by
  induction b with
  | zero => have : a = 0 := by omega
            subst this; exact Nat.le_refl _
  | succ b ih =>
    by_cases q : a = b + 1
    · subst q; exact Nat.le_refl _
    · exact Nat.le_trans (ih (by omega)) (Nat.le_add_right _ _)
def Fz (n : Nat) (σ : St) (ν : Nat → Nat → Bool) : Prop := ∀ i, n ≤ i → (∀ k, σ.1 i k = 0) ∧ (∀ k, σ.2 i k = 0) ∧ ∀ k, ν i k = fr0 i k
def Wd (D : va_G) (dA : Nat → ClassId) (ad : Nat → Nat) (B n0 n : Nat) (σ : St) (ν : Nat → Nat → Bool) (H : Heap) : Prop := (H.size = B + n ∧ n0 ≤ n ∧ n ≤ NW) ∧ va_P D vwCl (cw ad dA n σ ν) H ∧ Fz n σ ν
def AB (B : Nat) : Nat → Prop := fun q => B ≤ q
def Lin (ad : Nat → Nat) (B : Nat) : Prop := ∀ i, i < NW → ad i = B + i
def aoL : List String := ["CoastLights$Light", "CoastLights$Ship", "CoastLights$Scene", "CoastLights$Image"]
def Nsa (ad : Nat → Nat) (U : State) : Prop := Nst ad U ∧ ∀ C ∈ aoL, va_AO C U
theorem Nsa.warm {ad : Nat → Nat} {s U : State} (hW : s.WarmedH U.vm) (h : Nsa ad s) : Nsa ad U := ⟨h.1.warm hW, fun C hC => (h.2 C hC).moved hW.alike⟩
theorem Nsa.same {ad : Nat → Nat} {s U : State} (e : s.vm = U.vm) (h : Nsa ad s) : Nsa ad U := ⟨Nst.same e h.1, fun C hC => (h.2 C hC).moved (by rw [e]; exact Vm.Alike.refl U.vm)⟩
def BCtx (μ : MI) (d n0 nz : Nat) (p : Program) (R : Room) (s : State) (m : MethodId) (args : Array Value) (meth : Method) (c : Code) (D : va_G) (dA : Nat → ClassId) (ad : Nat → Nat) (B : Nat) : Prop :=
  p.tables.exec = Jvm.exec ∧ c.code = μ.2.1 ∧ s.vm.findClass μ.1.cls = some m.cls ∧ (∀ w ∈ tb, w.before args s = true) ∧ va_K D vwCl (tys dA) s ∧ Lin ad B ∧ B ≤ s.heap.size ∧ Nsa ad s ∧ c.maxLocals = μ.2.2.1 ∧ meth.locks = false ∧ d ≤ R.frames ∧ 40 * d ≤ R.locals ∧ meth.name = μ.1.name ∧ nz - n0 ≤ R.cells ∧ SW nz - SW n0 ≤ R.slots ∧ nz ≤ NW
def BFin (μ : MI) (n0 : Nat) (Z : BSt) (p : Program) (l : Launch) (e : Env) (R : Room) (s : State) (m : MethodId) (args : Array Value) (below : List Frame) (meth : Method) (c : Code) (D : va_G) (dA : Nat → ClassId) (ad : Nat → Nat) (B : Nat) (Q : State → Prop) : Prop :=
  ∀ (H : Heap) (locs : List Loc) (ls : Array Slot) (pc : Nat), Wd D dA ad B n0 Z.1 Z.2.1 Z.2.2 H → va_S (AB B) s.heap H locs → decode μ.2.1 pc = .ok (.return_, 1) → μ.2.2.2 = none → W p l e R s m args below meth c H locs (Z.1 - n0) (SW Z.1 - SW n0) Q (F0 m pc ls [])
def BE (μ : MI) (d n0 : Nat) (Z : BSt) (pc : Nat) (lv : List (Option Value)) (st : List Value) (n : Nat) (σ : St) (ν : Nat → Nat → Bool) : Prop :=
  ∀ (p : Program) (l : Launch) (e : Env) (R : Room) (s : State) (m : MethodId) (args : Array Value) (below : List Frame) (meth : Method) (c : Code) (D : va_G) (dA : Nat → ClassId) (ad : Nat → Nat) (B : Nat) (Q : State → Prop),
    BCtx μ d n0 Z.1 p R s m args meth c D dA ad B → BFin μ n0 Z p l e R s m args below meth c D dA ad B Q → ∀ (H : Heap) (locs : List Loc) (ls : Array Slot), Wd D dA ad B n0 n σ ν H → va_S (AB B) s.heap H locs → lvs ls μ.2.2.1 (trL ad lv) → W p l e R s m args below meth c H locs (n - n0) (SW n - SW n0) Q (F0 m pc ls (st.map (tr ad)))
def BQ (D : va_G) (dA : Nat → ClassId) (ad : Nat → Nat) (B n0 : Nat) (Z : BSt) : Array Value → State → Outcome → State → Prop := fun _ st oc t => (oc = .returned none ∧ Wd D dA ad B n0 Z.1 Z.2.1 Z.2.2 t.heap) ∧ va_F (AB B) st t
def BPre (D : va_G) (dA : Nat → ClassId) (ad : Nat → Nat) (B n : Nat) (σ : St) (ν : Nat → Nat → Bool) (U : State) : Prop := Wd D dA ad B n n σ ν U.heap ∧ va_K D vwCl (tys dA) U ∧ Nsa ad U
def rmB (d mc ms : Nat) : Room := { frames := d, cells := mc, slots := ms, locals := 40 * d }
/-- a constructor's contract: from n cells, the store σ, the nulls ν it comes to Z -/
def BCt (μ : MI) (d : Nat) (av : List Value) (n : Nat) (σ : St) (ν : Nat → Nat → Bool) (Z : BSt) : Prop :=
  n ≤ Z.1 ∧ Z.1 ≤ NW ∧ ∀ (l : Launch) (D : va_G) (dA : Nat → ClassId) (ad : Nat → Nat) (B : Nat), Lin ad B → Met l μ.1 (wsM μ) (rmB d (Z.1 - n) (SW Z.1 - SW n)) (va_Pc (av.map (tr ad)) (BPre D dA ad B n σ ν)) (BQ D dA ad B n Z) (Z.1 - n) (SW Z.1 - SW n) (AB B)
/-! the world's list -/
theorem cw_get {ad : Nat → Nat} {dA : Nat → ClassId} {σ : St} {ν : Nat → Nat → Bool} {i n : Nat} (h : i < n) : (cw ad dA n σ ν)[i]? = some (ad i, ent2 ad dA σ ν i) := by simp [cw, h]
theorem cw_len {ad : Nat → Nat} {dA : Nat → ClassId} {σ : St} {ν : Nat → Nat → Bool} {n : Nat} : (cw ad dA n σ ν).length = n := by simp [cw]
theorem cw_D {ad : Nat → Nat} {dA : Nat → ClassId} {σ : St} {ν : Nat → Nat → Bool} {n B : Nat} (hL : Lin ad B) (hn : n ≤ NW) : va_D (AB B) (cw ad dA n σ ν) := by
  have key : ∀ (k : Nat) (q : Nat × va_E), (cw ad dA n σ ν)[k]? = some q → k < n ∧ q.1 = ad k := by
    intro k q hk
    have hl : k < n := by have := (List.getElem?_eq_some_iff.mp hk).1; rw [cw_len] at this; exact this
    rw [cw_get hl] at hk
    cases hk
    exact ⟨hl, rfl⟩
  refine ⟨fun i j p q hi hj e => ?_, fun k q hk => ?_⟩
  · obtain ⟨a1, a2⟩ := key i p hi
    obtain ⟨b1, b2⟩ := key j q hj
    rw [a2, b2, hL i (by omega), hL j (by omega)] at e
    omega
  · obtain ⟨a1, a2⟩ := key k q hk
    rw [a2, hL k (by omega)]
    exact Nat.le_add_right _ _
theorem cw_set {ad : Nat → Nat} {dA : Nat → ClassId} {σ τ : St} {ν ξ : Nat → Nat → Bool} {i n : Nat} (h : ∀ j, j ≠ i → ent2 ad dA σ ν j = ent2 ad dA τ ξ j) : (cw ad dA n σ ν).set i (ad i, ent2 ad dA τ ξ i) = cw ad dA n τ ξ := by
  apply List.ext_getElem?
  intro k
  rw [List.getElem?_set]
  by_cases hk : i = k
  · subst hk
    rw [if_pos rfl]
    by_cases hl : i < n
    · rw [cw_get hl, if_pos (by rw [cw_len]; exact hl)]
    · rw [if_neg (by rw [cw_len]; exact hl)]
      symm
      apply List.getElem?_eq_none
      rw [cw_len]; omega
  · rw [if_neg hk]
    by_cases hl : k < n
    · rw [cw_get hl, cw_get hl, h k (fun z => hk z.symm)]
    · rw [List.getElem?_eq_none (by rw [cw_len]; omega), List.getElem?_eq_none (by rw [cw_len]; omega)]
theorem fvs2_get {ad : Nat → Nat} {σ : St} {ν : Nat → Nat → Bool} {i k t : Nat} (h : kd (sh i) k = t) (ht : t ≠ 9) : (fvs2 ad σ ν i)[k]? = some (fv2 ad σ ν t i k) := by
  have hk : k < (kdL.getD (sh i) []).length := by
    rcases Nat.lt_or_ge k (kdL.getD (sh i) []).length with q | q
    · exact q
    · exfalso; apply ht; rw [← h, kd, List.getD_eq_getElem?_getD, List.getElem?_eq_none q]; rfl
  rw [← h]
  unfold fvs2
  rw [List.getElem?_map, List.getElem?_range hk]
  rfl
theorem fvs2_set {ad : Nat → Nat} {σ τ : St} {ν ξ : Nat → Nat → Bool} {i k t : Nat} (h : kd (sh i) k = t) (ht : t ≠ 9) (hn : ∀ j, j ≠ k → fv2 ad σ ν (kd (sh i) j) i j = fv2 ad τ ξ (kd (sh i) j) i j) : (fvs2 ad σ ν i).set k (fv2 ad τ ξ t i k) = fvs2 ad τ ξ i := by
  apply List.ext_getElem?
  intro j
  rw [List.getElem?_set]
  by_cases hj : k = j
  · subst hj
    rw [if_pos rfl, if_pos (List.getElem?_eq_some_iff.mp (fvs2_get (ad := ad) (σ := σ) (ν := ν) h ht)).1, fvs2_get h ht]
  · rw [if_neg hj]
    by_cases hl : j < (kdL.getD (sh i) []).length
    · unfold fvs2
      rw [List.getElem?_map, List.getElem?_map, List.getElem?_range hl]
      exact congrArg some (hn j (fun z => hj z.symm))
    · unfold fvs2
      rw [List.getElem?_map, List.getElem?_map, List.getElem?_eq_none (by simpa using hl)]
      rfl
theorem en2_o {ad : Nat → Nat} {dA : Nat → ClassId} {σ : St} {ν : Nat → Nat → Bool} {i c : Nat} (h : sh i = c) (hc : c < 20) : ent2 ad dA σ ν i = .inr (c, fvs2 ad σ ν i) := by subst h; simp [ent2, hc]
theorem en2_i {ad : Nat → Nat} {dA : Nat → ClassId} {σ : St} {ν : Nat → Nat → Bool} {i c : Nat} (h : sh i = c) (h1 : 20 ≤ c) (h2 : c < 23) : ent2 ad dA σ ν i = .inl (dA c, ln i, .inl (σ.1 i)) := by subst h; simp [ent2, Nat.not_lt.mpr h1, h2]
theorem en2_l {ad : Nat → Nat} {dA : Nat → ClassId} {σ : St} {ν : Nat → Nat → Bool} {i : Nat} (h : sh i = 23) : ent2 ad dA σ ν i = .inl (dA 23, ln i, .inr (.inl (σ.2 i))) := by simp [ent2, h]
theorem en2_r {ad : Nat → Nat} {dA : Nat → ClassId} {σ : St} {ν : Nat → Nat → Bool} {i c : Nat} (h : sh i = c) (h1 : 24 ≤ c) : ent2 ad dA σ ν i = .inl (dA c, ln i, .inr (.inr (.inr (.inr (fun j => if ν i j = true then none else some (ad (rr i j))))))) := by
  subst h
  have a1 : ¬ sh i < 20 := by omega
  have a2 : ¬ sh i < 23 := by omega
  have a3 : ¬ sh i = 23 := by omega
  simp [ent2, a1, a2, a3]
theorem en2_cong {ad : Nat → Nat} {dA : Nat → ClassId} {σ τ : St} {ν ξ : Nat → Nat → Bool} {j : Nat} (h1 : σ.1 j = τ.1 j) (h2 : σ.2 j = τ.2 j) (h3 : ν j = ξ j) : ent2 ad dA σ ν j = ent2 ad dA τ ξ j := by simp [ent2, fvs2, fv2, h1, h2, h3]
theorem nset_ne {ν : Nat → Nat → Bool} {a k j : Nat} (h : j ≠ a) : nset ν a k j = ν j := funext fun i => if_neg (fun q => h q.1)
theorem ent2_ent {ad : Nat → Nat} {dA : Nat → ClassId} {σ : St} {ν : Nat → Nat → Bool} {i : Nat} (h : ∀ k, ν i k = false) : ent2 ad dA σ ν i = ent ad dA σ i := by
  simp [ent2, ent, fvs2, fvs, fv2, fv, h]
theorem cw_wld {ad : Nat → Nat} {dA : Nat → ClassId} {σ : St} {ν : Nat → Nat → Bool} (h : ∀ i, i < NW → ∀ k, ν i k = false) : cw ad dA NW σ ν = wld ad dA σ := by
  unfold cw wld
  exact List.map_congr_left fun i hi => by rw [ent2_ent (h i (List.mem_range.mp hi))]
/-! freshness -/
theorem Fz.up {n : Nat} {σ : St} {ν : Nat → Nat → Bool} (h : Fz n σ ν) : Fz (n + 1) σ ν := fun i hi => h i (by omega)
theorem Fz.sI {n a k : Nat} {σ : St} {ν : Nat → Nat → Bool} {v : Int32} (h : Fz n σ ν) (ha : a < n) : Fz n (sI σ a k v) ν := fun i hi => ⟨fun j => by rw [sI_ne (show i ≠ a by omega)]; exact (h i hi).1 j, (h i hi).2⟩
theorem Fz.sL {n a k : Nat} {σ : St} {ν : Nat → Nat → Bool} {v : Int64} (h : Fz n σ ν) (ha : a < n) : Fz n (sL σ a k v) ν := fun i hi => ⟨(h i hi).1, fun j => by rw [sL_ne (show i ≠ a by omega)]; exact (h i hi).2.1 j, (h i hi).2.2⟩
theorem Fz.ns {n a k : Nat} {σ : St} {ν : Nat → Nat → Bool} (h : Fz n σ ν) (ha : a < n) : Fz n σ (nset ν a k) := fun i hi => ⟨(h i hi).1, (h i hi).2.1, fun j => by rw [nset_ne (show i ≠ a by omega)]; exact (h i hi).2.2 j⟩
/-! a new cell -/
theorem Wd_push {D : va_G} {dA : Nat → ClassId} {ad : Nat → Nat} {B n0 n : Nat} {σ : St} {ν : Nat → Nat → Bool} {H H1 : Heap} (h : Wd D dA ad B n0 n σ ν H) (hn : n + 1 ≤ NW) (z1 : H1.size = B + n + 1) (o1 : ∀ q, q < B + n → H1[q]? = H[q]?) (ha : va_at D vwCl (ad n, ent2 ad dA σ ν n) H1) : Wd D dA ad B n0 (n + 1) σ ν H1 := by
  obtain ⟨⟨hz, h0, h9⟩, hP, hF⟩ := h
  refine ⟨⟨by omega, by omega, hn⟩, ?_, hF.up⟩
  have e : cw ad dA (n + 1) σ ν = cw ad dA n σ ν ++ [(ad n, ent2 ad dA σ ν n)] := by unfold cw; rw [List.range_succ, List.map_append]; rfl
  rw [e]
  refine (hP.kept (fun k x hx => o1 x.1 (by rw [← hz]; exact (hP k x hx).lt))).app (fun k x hx => ?_)
  have hz : k < 1 := (List.getElem?_eq_some_iff.mp hx).1
  rw [show k = 0 by omega] at hx
  cases hx
  exact ha
theorem va_S_new {B n : Nat} {H0 H H1 : Heap} {locs : List Loc} (hS : va_S (AB B) H0 H locs) (hz : H.size = B + n) (z1 : H1.size = B + n + 1) (o1 : ∀ q, q < B + n → H1[q]? = H[q]?) : va_S (AB B) H0 H1 locs := ⟨Nat.le_trans hS.1 (by omega), fun x h1 h2 => (o1 x (by have := hS.1; omega)).trans (hS.2.1 x h1 h2), hS.2.2⟩
/-! what the instructions name -/
def Nw (own : String) (idx ci : Nat) : Prop := ∃ (C : String) (T : u_T) (N : Nat) (ty0 : Nat → FieldType), vwCl[ci]? = some (C, T, N) ∧ (∀ w ∈ u_ws C T N, w ∈ tb) ∧ (∀ k, k < N → parseFieldDescriptor (T k).2.2.1 = some (ty0 k)) ∧ Cond.classLink own idx C ∈ tb ∧ Cond.instantiable C N ∈ tb ∧ Cond.initialized C ∈ tb ∧ N = (kdL.getD ci []).length ∧ ∀ k, k < N → defaultValue (ty0 k) = if kd ci k = 0 then .int 0 else if kd ci k = 1 then .long 0 else .null
def Fq (own : String) (idx ci k : Nat) (fin : Bool) : Prop := ∃ (C : String) (T : u_T) (N : Nat) (ty0 : Nat → FieldType) (ty : FieldType), vwCl[ci]? = some (C, T, N) ∧ k < N ∧ (∀ w ∈ u_ws C T N, w ∈ tb) ∧ Cond.fieldLink own idx (T k).1 (T k).2.1 (T k).2.2.1 ∈ tb ∧ (∀ k, k < N → parseFieldDescriptor (T k).2.2.1 = some (ty0 k)) ∧ (∀ a, a < N → ∀ b, b < N → a ≠ b → (T a).2.1 ≠ (T b).2.1) ∧ (T k).2.2.2 = fin ∧ (fin = true → (T k).1 = own) ∧ parseFieldDescriptor (T k).2.2.1 = some ty ∧ N = (kdL.getD ci []).length ∧ ∀ a : Nat, narrow ty (.ref a) = .ref a ∧ fits ty (.ref a) = true
def MwI (own : String) (idx : Nat) (μ : MI) (n : Nat) : Prop := Mw μ n ∧ μ.1.name = "<init>" ∧ Cond.instanceMethod μ.1 ∈ tb ∧ μ.2.2.2 = none ∧ Cond.methodLink own idx μ.1 ∈ tb
def MwJ (own : String) (idx : Nat) (μ : MI) (n : Nat) (host : String) : Prop := Mw μ n ∧ μ.1.name = "<init>" ∧ Cond.instanceMethod μ.1 ∈ tb ∧ μ.2.2.2 = none ∧ Cond.methodLinkNest own idx μ.1 host ∈ nestL
section RowsB
variable {μ : MI} {d n0 : Nat} {Z : BSt} {pc pc2 : Nat} {lv : List (Option Value)} {st : List Value} {n : Nat} {σ : St} {ν : Nat → Nat → Bool}
theorem b_iconst {i : Int} (v : Int32) (hd : Dc μ pc (.iconst i) 1 pc2) (hv : Int32.ofInt i = v) (k : BE μ d n0 Z pc2 lv (.int v :: st) n σ ν) : BE μ d n0 Z pc lv (st) n σ ν := by
  obtain ⟨hd, rfl⟩ := hd
  intro p l e R s m args below meth c D dA ad B Q X F H locs ls hW hS hl
  obtain ⟨hx, hb, hown, hts, hK, hL, hB, hN, hml, hlk, hR1, hR2, hnm, hR3, hR4, hR5⟩ := id X
  exact lv_iconst hx hb hd hv (k _ _ _ _ _ _ _ _ _ _ _ _ _ _ _ X F H locs ls hW hS hl)
theorem b_bipush {i : Int} (v : Int32) (hd : Dc μ pc (.bipush i) 2 pc2) (hv : (Int8.ofInt i).toInt32 = v) (k : BE μ d n0 Z pc2 lv (.int v :: st) n σ ν) : BE μ d n0 Z pc lv (st) n σ ν := by
  obtain ⟨hd, rfl⟩ := hd
  intro p l e R s m args below meth c D dA ad B Q X F H locs ls hW hS hl
  obtain ⟨hx, hb, hown, hts, hK, hL, hB, hN, hml, hlk, hR1, hR2, hnm, hR3, hR4, hR5⟩ := id X
  exact lv_bipush hx hb hd hv (k _ _ _ _ _ _ _ _ _ _ _ _ _ _ _ X F H locs ls hW hS hl)
theorem b_sipush {i : Int} (v : Int32) (hd : Dc μ pc (.sipush i) 3 pc2) (hv : (Int16.ofInt i).toInt32 = v) (k : BE μ d n0 Z pc2 lv (.int v :: st) n σ ν) : BE μ d n0 Z pc lv (st) n σ ν := by
  obtain ⟨hd, rfl⟩ := hd
  intro p l e R s m args below meth c D dA ad B Q X F H locs ls hW hS hl
  obtain ⟨hx, hb, hown, hts, hK, hL, hB, hN, hml, hlk, hR1, hR2, hnm, hR3, hR4, hR5⟩ := id X
  exact lv_sipush hx hb hd hv (k _ _ _ _ _ _ _ _ _ _ _ _ _ _ _ X F H locs ls hW hS hl)
theorem b_ldc2 {i : Nat} (v : Int64) (hd : Dc μ pc (.ldc2_w i) 3 pc2) (hw : Cond.constantLong μ.1.cls i v ∈ tb) (k : BE μ d n0 Z pc2 lv (.long v :: st) n σ ν) : BE μ d n0 Z pc lv (st) n σ ν := by
  obtain ⟨hd, rfl⟩ := hd
  intro p l e R s m args below meth c D dA ad B Q X F H locs ls hW hS hl
  obtain ⟨hx, hb, hown, hts, hK, hL, hB, hN, hml, hlk, hR1, hR2, hnm, hR3, hR4, hR5⟩ := id X
  exact lv_ldc2 hx hb hown (hts _ hw) hd (k _ _ _ _ _ _ _ _ _ _ _ _ _ _ _ X F H locs ls hW hS hl)
theorem b_iload_n {i : _root_.Fin 4} {x : Int32} (hd : Dc μ pc (.iload_n i) 1 pc2) (h : lv[i.val]? = some (some (.int x))) (k : BE μ d n0 Z pc2 lv (.int x :: st) n σ ν) : BE μ d n0 Z pc lv (st) n σ ν := by
  obtain ⟨hd, rfl⟩ := hd
  intro p l e R s m args below meth c D dA ad B Q X F H locs ls hW hS hl
  obtain ⟨hx, hb, hown, hts, hK, hL, hB, hN, hml, hlk, hR1, hR2, hnm, hR3, hR4, hR5⟩ := id X
  exact lv_iload_n hx hb hd rfl (hl.2.2.2 _ _ (trL_at h)) (k _ _ _ _ _ _ _ _ _ _ _ _ _ _ _ X F H locs ls hW hS hl)
theorem b_aload_n {i : _root_.Fin 4} {x : Nat} (hd : Dc μ pc (.aload_n i) 1 pc2) (h : lv[i.val]? = some (some (.ref x))) (k : BE μ d n0 Z pc2 lv (.ref x :: st) n σ ν) : BE μ d n0 Z pc lv (st) n σ ν := by
  obtain ⟨hd, rfl⟩ := hd
  intro p l e R s m args below meth c D dA ad B Q X F H locs ls hW hS hl
  obtain ⟨hx, hb, hown, hts, hK, hL, hB, hN, hml, hlk, hR1, hR2, hnm, hR3, hR4, hR5⟩ := id X
  exact lv_aload_n hx hb hd rfl (hl.2.2.2 _ _ (trL_at h)) (k _ _ _ _ _ _ _ _ _ _ _ _ _ _ _ X F H locs ls hW hS hl)
theorem b_dup {v : Value} (hd : Dc μ pc (.dup) 1 pc2) (hc : v.category = 1) (k : BE μ d n0 Z pc2 lv (v :: v :: st) n σ ν) : BE μ d n0 Z pc lv (v :: st) n σ ν := by
  obtain ⟨hd, rfl⟩ := hd
  intro p l e R s m args below meth c D dA ad B Q X F H locs ls hW hS hl
  obtain ⟨hx, hb, hown, hts, hK, hL, hB, hN, hml, hlk, hR1, hR2, hnm, hR3, hR4, hR5⟩ := id X
  exact lv_dup hx hb hd (by rw [tr_cat]; exact hc) (k _ _ _ _ _ _ _ _ _ _ _ _ _ _ _ X F H locs ls hW hS hl)
theorem b_goto {off : Int} {tgt : Nat} (hd : Dc μ pc (.goto off) 3 pc2) (ht : (pc : Int) + off = (tgt : Int)) (k : BE μ d n0 Z tgt lv st n σ ν) : BE μ d n0 Z pc lv st n σ ν := by
  obtain ⟨hd, rfl⟩ := hd
  intro p l e R s m args below meth c D dA ad B Q X F H locs ls hW hS hl
  obtain ⟨hx, hb, hown, hts, hK, hL, hB, hN, hml, hlk, hR1, hR2, hnm, hR3, hR4, hR5⟩ := id X
  exact lv_goto hx hb hd ht (k _ _ _ _ _ _ _ _ _ _ _ _ _ _ _ X F H locs ls hW hS hl)
theorem b_icmp_ge {x y : Int32} {off : Int} {tgt : Nat} (hd : Dc μ pc (.if_icmp .ge off) 3 pc2) (ht : (pc : Int) + off = (tgt : Int)) (kt : y ≤ x → BE μ d n0 Z tgt lv st n σ ν) (kf : ¬ (y ≤ x) → BE μ d n0 Z pc2 lv st n σ ν) : BE μ d n0 Z pc lv (.int y :: .int x :: st) n σ ν := by
  obtain ⟨hd, rfl⟩ := hd
  intro p l e R s m args below meth c D dA ad B Q X F H locs ls hW hS hl
  obtain ⟨hx, hb, hown, hts, hK, hL, hB, hN, hml, hlk, hR1, hR2, hnm, hR3, hR4, hR5⟩ := id X
  exact lv_icmp_ge hx hb hd ht (fun z => (kt z _ _ _ _ _ _ _ _ _ _ _ _ _ _ _ X F H locs ls hW hS hl)) (fun z => (kf z _ _ _ _ _ _ _ _ _ _ _ _ _ _ _ X F H locs ls hW hS hl))
theorem b_istore_n {k : _root_.Fin 4} {x : Int32} {lv2 : List (Option Value)} (hd : Dc μ pc (.istore_n k) 1 pc2) (hn : Nat.ble (k.val + 1) lv.length = true) (hq : nlb lv k.val = true) (h2 : lv.set k.val (some (.int x)) = lv2) (k0 : BE μ d n0 Z pc2 lv2 st n σ ν) : BE μ d n0 Z pc lv (.int x :: st) n σ ν := by
  subst h2
  obtain ⟨hd, rfl⟩ := hd
  intro p l e R s m args below meth c D dA ad B Q X F H locs ls hW hS hl
  obtain ⟨hx, hb, hown, hts, hK, hL, hB, hN, hml, hlk, hR1, hR2, hnm, hR3, hR4, hR5⟩ := id X
  have hn : k.val < lv.length := Nat.le_of_ble_eq_true hn
  have hlen : (trL ad lv).length = lv.length := List.length_map ..
  have e : trL ad (lv.set k.val (some (.int x))) = (trL ad lv).set k.val (some (.int x)) := by simp only [List.map_set]; rfl
  exact lv_istore_n hx hb hd rfl hl.has (by have := hl.1; omega) rfl (fun ls2 h2 => k0 _ _ _ _ _ _ _ _ _ _ _ _ _ _ _ X F H locs ls2 hW hS (by rw [e]; exact lvs_s1 hl.1 (nlb_e hq) h2))
theorem b_iinc {k : Nat} {i : Int} {x : Int32} (v y : Int32) {lv2 : List (Option Value)} (hd : Dc μ pc (.iinc k i) 3 pc2) (hx0 : lv[k]? = some (some (.int x))) (hq : nlb lv k = true) (hv : Int32.ofInt i = v) (hy : x + v = y) (h2 : lv.set k (some (.int y)) = lv2) (k0 : BE μ d n0 Z pc2 lv2 st n σ ν) : BE μ d n0 Z pc lv st n σ ν := by
  subst h2 hv hy
  obtain ⟨hd, rfl⟩ := hd
  intro p l e R s m args below meth c D dA ad B Q X F H locs ls hW hS hl
  obtain ⟨hx, hb, hown, hts, hK, hL, hB, hN, hml, hlk, hR1, hR2, hnm, hR3, hR4, hR5⟩ := id X
  have hn : k < lv.length := (List.getElem?_eq_some_iff.mp hx0).1
  have hlen : (trL ad lv).length = lv.length := List.length_map ..
  have e : trL ad (lv.set k (some (.int (x + Int32.ofInt i)))) = (trL ad lv).set k (some (.int (x + Int32.ofInt i))) := by simp only [List.map_set]; rfl
  obtain ⟨q, hq2⟩ := List.getElem?_of_mem (asc_mem.mpr (trL_at (ad := ad) hx0))
  exact lv_iinc hx hb hd hl.has hq2 rfl (by have := hl.1; omega) rfl (fun ls2 h2 => k0 _ _ _ _ _ _ _ _ _ _ _ _ _ _ _ X F H locs ls2 hW hS (by rw [e]; exact lvs_s1 hl.1 (nlb_e hq) h2))
theorem b_geti {a k ci idx : Nat} (hd : Dc μ pc (.getfield idx) 3 pc2) (hf : Fl μ.1.cls idx ci k) (hs : sh a = ci) (ht : kd ci k = 0) (ha : a < n) (k0 : BE μ d n0 Z pc2 lv (.int (σ.1 a k) :: st) n σ ν) : BE μ d n0 Z pc lv (.ref a :: st) n σ ν := by
  obtain ⟨C, T', N, hc, hk, hlay, hlink⟩ := hf
  obtain ⟨hd, rfl⟩ := hd
  intro p l e R s m args below meth c D dA ad B Q X F H locs ls hW hS hl
  obtain ⟨hx, hb, hown, hts, hK, hL, hB, hN, hml, hlk, hR1, hR2, hnm, hR3, hR4, hR5⟩ := id X
  refine va_get hx hb hts hlay hown hK hW.2.1 a (by rw [cw_get ha, en2_o hs (ci_lt hc)]) hc k hk (hts _ hlink) (fun _ h => h) (fvs2_get (t := 0) (by rw [hs]; exact ht) (by decide)) hd ?_
  have := k0 _ _ _ _ _ _ _ _ _ _ _ _ _ _ _ X F H locs ls hW hS hl
  skip
  exact this
theorem b_getr {a k ci idx : Nat} (q : Nat) (hd : Dc μ pc (.getfield idx) 3 pc2) (hf : Fl μ.1.cls idx ci k) (hs : sh a = ci) (ht : kd ci k = 2) (ha : a < n) (hq : rr a k = q) (hv : ν a k = false) (k0 : BE μ d n0 Z pc2 lv (.ref q :: st) n σ ν) : BE μ d n0 Z pc lv (.ref a :: st) n σ ν := by
  obtain ⟨C, T', N, hc, hk, hlay, hlink⟩ := hf
  subst hq
  obtain ⟨hd, rfl⟩ := hd
  intro p l e R s m args below meth c D dA ad B Q X F H locs ls hW hS hl
  obtain ⟨hx, hb, hown, hts, hK, hL, hB, hN, hml, hlk, hR1, hR2, hnm, hR3, hR4, hR5⟩ := id X
  refine va_get hx hb hts hlay hown hK hW.2.1 a (by rw [cw_get ha, en2_o hs (ci_lt hc)]) hc k hk (hts _ hlink) (fun _ h => h) (fvs2_get (t := 2) (by rw [hs]; exact ht) (by decide)) hd ?_
  have := k0 _ _ _ _ _ _ _ _ _ _ _ _ _ _ _ X F H locs ls hW hS hl
  rw [show fv2 ad σ ν 2 a k = .ref (ad (rr a k)) by unfold fv2; rw [if_neg (by decide), if_neg (by decide), if_neg (by rw [hv]; decide)]]
  exact this
theorem bput_i {ad : Nat → Nat} {dA : Nat → ClassId} {a ci k n : Nat} {σ : St} {ν : Nat → Nat → Bool} {x : Int32} (hs : sh a = ci) (hc : ci < 20) (ht : kd ci k = 0) : (cw ad dA n σ ν).set a (ad a, .inr (ci, (fvs2 ad σ ν a).set k (.int x))) = cw ad dA n (sI σ a k x) ν := by
  rw [← cw_set (σ := σ) (ν := ν) (τ := sI σ a k x) (ξ := ν) (i := a) (fun j hj => en2_cong (sI_ne hj).symm rfl rfl), en2_o hs hc]
  have e : (Value.int x) = fv2 ad (sI σ a k x) ν 0 a k := by simp [fv2, sI_eq, upd]
  rw [e, fvs2_set (σ := σ) (τ := sI σ a k x) (ν := ν) (ξ := ν) (by rw [hs]; exact ht) (by decide)]
  intro j hj
  simp [fv2, sI, upd, hj]
theorem bput_r {ad : Nat → Nat} {dA : Nat → ClassId} {a ci k n : Nat} {σ : St} {ν : Nat → Nat → Bool} (hs : sh a = ci) (hc : ci < 20) (ht : kd ci k = 2) : (cw ad dA n σ ν).set a (ad a, .inr (ci, (fvs2 ad σ ν a).set k (.ref (ad (rr a k))))) = cw ad dA n σ (nset ν a k) := by
  rw [← cw_set (σ := σ) (ν := ν) (τ := σ) (ξ := nset ν a k) (i := a) (fun j hj => en2_cong rfl rfl (nset_ne hj).symm), en2_o hs hc]
  have e : (Value.ref (ad (rr a k))) = fv2 ad σ (nset ν a k) 2 a k := by simp [fv2, nset]
  rw [e, fvs2_set (σ := σ) (τ := σ) (ν := ν) (ξ := nset ν a k) (by rw [hs]; exact ht) (by decide)]
  intro j hj
  simp [fv2, nset, hj]
theorem b_puti {a k ci idx : Nat} {x : Int32} (hd : Dc μ pc (.putfield idx) 3 pc2) (hf : Fp μ.1.cls idx ci k .int) (hs : sh a = ci) (ht : kd ci k = 0) (ha : a < n) (k0 : BE μ d n0 Z pc2 lv st n (sI σ a k x) ν) : BE μ d n0 Z pc lv (.int x :: .ref a :: st) n σ ν := by
  obtain ⟨C, T', N, ty0, hc, hk, hlay, hlink, hty, hnm2, hfin, hpd, hN9⟩ := hf
  obtain ⟨hd, rfl⟩ := hd
  intro p l e R s m args below meth c D dA ad B Q X F H locs ls hW hS hl
  obtain ⟨hx, hb, hown, hts, hK, hL, hB, hN, hml, hlk, hR1, hR2, hnm, hR3, hR4, hR5⟩ := id X
  have hap := va_apart (own := μ.1.cls) hts hlay ty0 hty hnm2 hK hc
  obtain ⟨r, h1, cell, q1, q2, q3, q4⟩ := hW.2.1 a _ (by rw [cw_get ha, en2_o hs (ci_lt hc)])
  have hr : r = (C, T', N) := Option.some.inj (h1.symm.trans hc)
  subst hr
  obtain ⟨hSl, hfc, kC, hkC, hkind⟩ := hK.1 ci _ hc
  obtain ⟨cf, kf, fi, f, hi, hsl⟩ := hSl k hk
  have hlay2 := hts _ (hlay _ (u_in_lay hk))
  unfold u_lay at hlay2
  have hst := (u_facts hfc hkC (u_lays hts hlay hk) hi).1
  rw [if_neg (by rw [hfin]; decide)] at hlay2
  have h6 := u_store hfc hkC hkind hlay2 hi hpd (v := .int x) rfl rfl
  refine W.putK hx hb (f := f) ⟨hown, hts _ hlink, ⟨_, _, _, hi⟩, hst⟩ (by rw [q2]; exact h6) q1 q3 (by rw [hsl]; exact k2_hasslot (q4 k hk)) rfl rfl hd fun H' e1 e2 e3 => ?_
  rw [hsl] at e1 ⊢
  have hDD := cw_D (dA := dA) (σ := σ) (ν := ν) hL hW.1.2.2
  have he : (cw ad dA n σ ν)[a]? = some (ad a, .inr (ci, fvs2 ad σ ν a)) := by rw [cw_get ha, en2_o hs (ci_lt hc)]
  have hlen : k < (fvs2 ad σ ν a).length := by subst hs; rw [fvs2, List.length_map, List.length_range, ← hN9]; exact hk
  have P1 := hW.2.1.set hDD he (e := .inr (ci, (fvs2 ad σ ν a).set k (.int x))) ⟨_, hc, t_OB.to (V := updV (vp_V (fvs2 ad σ ν a)) k (.int x)) ⟨_, e1, q2, q3, t_set q4 hap hk (.int x)⟩ (fun j _ => vp_updV_set hlen (.int x) j)⟩ e3
  rw [bput_i hs (ci_lt hc) ht] at P1
  exact k0 _ _ _ _ _ _ _ _ _ _ _ _ _ _ _ X F H' _ ls ⟨⟨e2.trans hW.1.1, hW.1.2⟩, P1, hW.2.2.sI ha⟩ (hS.put e2 e3 (hDD.2 a _ he)) hl
theorem b_putr {a k ci idx q : Nat} (hd : Dc μ pc (.putfield idx) 3 pc2) (hf : Fq μ.1.cls idx ci k true) (hi0 : μ.1.name = "<init>") (hs : sh a = ci) (ht : kd ci k = 2) (hq : rr a k = q) (ha : a < n) (k0 : BE μ d n0 Z pc2 lv st n σ (nset ν a k)) : BE μ d n0 Z pc lv (.ref q :: .ref a :: st) n σ ν := by
  obtain ⟨C, T', N, ty0, ty, hc, hk, hlay, hlink, hty, hnm2, hfin, hdecl, hpd, hN9, hnr⟩ := hf
  subst hq
  obtain ⟨hd, rfl⟩ := hd
  intro p l e R s m args below meth c D dA ad B Q X F H locs ls hW hS hl
  obtain ⟨hx, hb, hown, hts, hK, hL, hB, hN, hml, hlk, hR1, hR2, hnm, hR3, hR4, hR5⟩ := id X
  have hap := va_apart (own := μ.1.cls) hts hlay ty0 hty hnm2 hK hc
  obtain ⟨r, h1, cell, q1, q2, q3, q4⟩ := hW.2.1 a _ (by rw [cw_get ha, en2_o hs (ci_lt hc)])
  have hr : r = (C, T', N) := Option.some.inj (h1.symm.trans hc)
  subst hr
  obtain ⟨hSl, hfc, kC, hkC, hkind⟩ := hK.1 ci _ hc
  obtain ⟨cf, kf, fi, f, hi, hsl⟩ := hSl k hk
  have hlay2 := hts _ (hlay _ (u_in_lay hk))
  unfold u_lay at hlay2
  have hst := (u_facts hfc hkC (u_lays hts hlay hk) hi).1
  rw [if_pos hfin] at hlay2
  have hcf : m.cls = cf := by
    obtain ⟨_, _, c', _, _, _, -, -, hf', -, -, -, hown2, -⟩ := Cond.laysFinal_spec hlay2
    have e1 : c' = cf := by have := hi.symm.trans hf'; simp at this; exact this.1.symm
    rw [hdecl rfl] at hown2
    rw [← e1]; exact Option.some.inj (hown.symm.trans hown2)
  have h6 := u_fits hfc hkC hkind (Or.inr hlay2) hi hpd (v := .ref (ad (rr a k))) (hnr _).1 (hnr _).2
  refine W.putFinK hx hb hown (hts _ hlink) hi hst hcf (hnm.trans hi0) (by rw [q2]; exact h6) q1 q3 (by rw [hsl]; exact k2_hasslot (q4 k hk)) rfl rfl hd fun H' e1 e2 e3 => ?_
  rw [hsl] at e1 ⊢
  have hDD := cw_D (dA := dA) (σ := σ) (ν := ν) hL hW.1.2.2
  have he : (cw ad dA n σ ν)[a]? = some (ad a, .inr (ci, fvs2 ad σ ν a)) := by rw [cw_get ha, en2_o hs (ci_lt hc)]
  have hlen : k < (fvs2 ad σ ν a).length := by subst hs; rw [fvs2, List.length_map, List.length_range, ← hN9]; exact hk
  have P1 := hW.2.1.set hDD he (e := .inr (ci, (fvs2 ad σ ν a).set k (.ref (ad (rr a k))))) ⟨_, hc, t_OB.to (V := updV (vp_V (fvs2 ad σ ν a)) k (.ref (ad (rr a k)))) ⟨_, e1, q2, q3, t_set q4 hap hk (.ref (ad (rr a k)))⟩ (fun j _ => vp_updV_set hlen (.ref (ad (rr a k))) j)⟩ e3
  rw [bput_r hs (ci_lt hc) ht] at P1
  exact k0 _ _ _ _ _ _ _ _ _ _ _ _ _ _ _ X F H' _ ls ⟨⟨e2.trans hW.1.1, hW.1.2⟩, P1, hW.2.2.ns ha⟩ (hS.put e2 e3 (hDD.2 a _ he)) hl
theorem b_new {ci idx : Nat} (hd : Dc μ pc (.new idx) 3 pc2) (hw : Nw μ.1.cls idx ci) (hs : sh n = ci) (hZ : n + 1 ≤ Z.1) (k0 : BE μ d n0 Z pc2 lv (.ref n :: st) (n + 1) σ ν) : BE μ d n0 Z pc lv st n σ ν := by
  obtain ⟨C, T', N, ty0, hc, hlay, hty, hcl, hinst, hini, hN9, hdf⟩ := hw
  obtain ⟨hd, rfl⟩ := hd
  intro p l e R s m args below meth c D dA ad B Q X F H locs ls hW hS hl
  obtain ⟨hx, hb, hown, hts, hK, hL, hB, hN, hml, hlk, hR1, hR2, hnm, hR3, hR4, hR5⟩ := id X
  have hKn := hK.1 ci _ hc
  obtain ⟨hz, h0, h9⟩ := hW.1
  have sw : SW n0 ≤ SW n := SW_mono h0
  have sw1 : SW (n + 1) ≤ SW Z.1 := SW_mono hZ
  have e2 : SW (n + 1) = SW n + N := by
    show SW n + wt n = _
    unfold wt
    rw [if_pos (by rw [hs]; exact ci_lt hc), hs, ← hN9]
  refine W.newcK hx hb hown (hts _ hcl) (hts _ hinst) (hts _ hini) rfl hd (by omega) (by omega) hKn.2.1 hz fun H1 kC hkC e1 z1 o1 => ?_
  have an : ad n = B + n := hL n (by omega)
  have A1 : va_at D vwCl (ad n, ent2 ad dA σ ν n) H1 := by
    rw [en2_o hs (ci_lt hc), an]
    refine ⟨_, hc, (u_born ty0 hts hlay hKn hkC e1 hty).to (fun j hj => ?_)⟩
    obtain ⟨f1, f2, f3⟩ := hW.2.2 n (Nat.le_refl _)
    rw [hdf j hj]
    unfold vp_V fvs2
    rw [List.getD_eq_getElem?_getD, List.getElem?_map, List.getElem?_range (by rw [hs, ← hN9]; exact hj)]
    show _ = fv2 ad σ ν (kd (sh n) j) n j
    unfold fv2
    rw [hs, f1, f2]
    by_cases q0 : kd ci j = 0
    · rw [if_pos q0, if_pos q0]
    · rw [if_neg q0, if_neg q0]
      by_cases q1 : kd ci j = 1
      · rw [if_pos q1, if_pos q1]
      · have q9 : kd ci j = 2 := by
          have : ∀ c, c < 12 → ∀ j, j < (kdL.getD c []).length → kd c j = 0 ∨ kd c j = 1 ∨ kd c j = 2 := by decide +kernel
          have hl12 : ci < 12 := by have := (List.getElem?_eq_some_iff.mp hc).1; exact this
          have := this ci hl12 j (by rw [← hN9]; exact hj)
          omega
        rw [if_neg q1, if_neg q1, f3, if_pos]
        unfold fr0
        rw [if_pos (by rw [hs]; exact ci_lt hc), hs]
        exact decide_eq_true q9
  have := k0 _ _ _ _ _ _ _ _ _ _ _ _ _ _ _ X F H1 locs ls (Wd_push hW (by omega) z1 o1 A1) (va_S_new hS hz z1 o1) hl
  rw [show n + 1 - n0 = n - n0 + 1 by omega, show SW (n + 1) - SW n0 = SW n - SW n0 + N by omega, List.map_cons, show tr ad (.ref n) = .ref (B + n) by show Value.ref (ad n) = _; rw [an]] at this
  exact this
theorem b_newaI {N : Nat} (hd : Dc μ pc (.newarray .int) 2 pc2) (harr : Cond.arrayClass (newarray.typeOf .int) ∈ tb) (hs : sh n = 20) (hn : ln n = N) (hb31 : Nat.ble N 100000 = true) (hZ : n + 1 ≤ Z.1) (k0 : BE μ d n0 Z pc2 lv (.ref n :: st) (n + 1) σ ν) : BE μ d n0 Z pc lv (.int (nI N) :: st) n σ ν := by
  subst hn
  have hb31 : ln n ≤ 100000 := Nat.le_of_ble_eq_true hb31
  obtain ⟨hd, rfl⟩ := hd
  intro p l e R s m args below meth c D dA ad B Q X F H locs ls hW hS hl
  obtain ⟨hx, hb, hown, hts, hK, hL, hB, hN, hml, hlk, hR1, hR2, hnm, hR3, hR4, hR5⟩ := id X
  obtain ⟨hz, h0, h9⟩ := hW.1
  have sw : SW n0 ≤ SW n := SW_mono h0
  have sw1 : SW (n + 1) ≤ SW Z.1 := SW_mono hZ
  have e2 : SW (n + 1) = SW n + ln n := by
    show SW n + wt n = _
    unfold wt
    rw [if_neg (by rw [hs]; decide)]
  have cb : componentBytes (newarray.typeOf .int) ≤ 8 := by decide
  refine va_newaK (N := ln n) hx hb (hts _ harr) rfl hd rfl (nI_pos (by omega)) (nI_clamp (by omega)) (Nat.le_trans (Nat.mul_le_mul_left _ cb) (by omega)) (by omega) (by omega) hz fun H1 cA e1 z1 o1 hAr hNm => ?_
  have an : ad n = B + n := hL n (by omega)
  have hcA : cA = dA 20 := Option.some.inj (hNm.symm.trans (hK.2 0 (dA 20, .int) rfl).2)
  have A1 : va_at D vwCl (ad n, ent2 ad dA σ ν n) H1 := by
    rw [en2_i hs (by decide) (by decide), an]
    show H1[B + n]? = some (vp_cell (dA 20) (ln n, .inl (σ.1 n)))
    obtain ⟨f1, f2, f3⟩ := hW.2.2 n (Nat.le_refl _)
    rw [e1, hcA]
    show _ = some (arrV (dA 20) (ln n) (fun j => .int (σ.1 n j)))
    simp only [f1]
    rfl
  have := k0 _ _ _ _ _ _ _ _ _ _ _ _ _ _ _ X F H1 locs ls (Wd_push hW (by omega) z1 o1 A1) (va_S_new hS hz z1 o1) hl
  rw [show n + 1 - n0 = n - n0 + 1 by omega, show SW (n + 1) - SW n0 = SW n - SW n0 + ln n by omega, List.map_cons, show tr ad (.ref n) = .ref (B + n) by show Value.ref (ad n) = _; rw [an]] at this
  exact this
theorem b_newaZ {N : Nat} (hd : Dc μ pc (.newarray .boolean) 2 pc2) (harr : Cond.arrayClass (newarray.typeOf .boolean) ∈ tb) (hs : sh n = 21) (hn : ln n = N) (hb31 : Nat.ble N 100000 = true) (hZ : n + 1 ≤ Z.1) (k0 : BE μ d n0 Z pc2 lv (.ref n :: st) (n + 1) σ ν) : BE μ d n0 Z pc lv (.int (nI N) :: st) n σ ν := by
  subst hn
  have hb31 : ln n ≤ 100000 := Nat.le_of_ble_eq_true hb31
  obtain ⟨hd, rfl⟩ := hd
  intro p l e R s m args below meth c D dA ad B Q X F H locs ls hW hS hl
  obtain ⟨hx, hb, hown, hts, hK, hL, hB, hN, hml, hlk, hR1, hR2, hnm, hR3, hR4, hR5⟩ := id X
  obtain ⟨hz, h0, h9⟩ := hW.1
  have sw : SW n0 ≤ SW n := SW_mono h0
  have sw1 : SW (n + 1) ≤ SW Z.1 := SW_mono hZ
  have e2 : SW (n + 1) = SW n + ln n := by
    show SW n + wt n = _
    unfold wt
    rw [if_neg (by rw [hs]; decide)]
  have cb : componentBytes (newarray.typeOf .boolean) ≤ 8 := by decide
  refine va_newaK (N := ln n) hx hb (hts _ harr) rfl hd rfl (nI_pos (by omega)) (nI_clamp (by omega)) (Nat.le_trans (Nat.mul_le_mul_left _ cb) (by omega)) (by omega) (by omega) hz fun H1 cA e1 z1 o1 hAr hNm => ?_
  have an : ad n = B + n := hL n (by omega)
  have hcA : cA = dA 21 := Option.some.inj (hNm.symm.trans (hK.2 1 (dA 21, .boolean) rfl).2)
  have A1 : va_at D vwCl (ad n, ent2 ad dA σ ν n) H1 := by
    rw [en2_i hs (by decide) (by decide), an]
    show H1[B + n]? = some (vp_cell (dA 21) (ln n, .inl (σ.1 n)))
    obtain ⟨f1, f2, f3⟩ := hW.2.2 n (Nat.le_refl _)
    rw [e1, hcA]
    show _ = some (arrV (dA 21) (ln n) (fun j => .int (σ.1 n j)))
    simp only [f1]
    rfl
  have := k0 _ _ _ _ _ _ _ _ _ _ _ _ _ _ _ X F H1 locs ls (Wd_push hW (by omega) z1 o1 A1) (va_S_new hS hz z1 o1) hl
  rw [show n + 1 - n0 = n - n0 + 1 by omega, show SW (n + 1) - SW n0 = SW n - SW n0 + ln n by omega, List.map_cons, show tr ad (.ref n) = .ref (B + n) by show Value.ref (ad n) = _; rw [an]] at this
  exact this
theorem b_newaB {N : Nat} (hd : Dc μ pc (.newarray .byte) 2 pc2) (harr : Cond.arrayClass (newarray.typeOf .byte) ∈ tb) (hs : sh n = 22) (hn : ln n = N) (hb31 : Nat.ble N 100000 = true) (hZ : n + 1 ≤ Z.1) (k0 : BE μ d n0 Z pc2 lv (.ref n :: st) (n + 1) σ ν) : BE μ d n0 Z pc lv (.int (nI N) :: st) n σ ν := by
  subst hn
  have hb31 : ln n ≤ 100000 := Nat.le_of_ble_eq_true hb31
  obtain ⟨hd, rfl⟩ := hd
  intro p l e R s m args below meth c D dA ad B Q X F H locs ls hW hS hl
  obtain ⟨hx, hb, hown, hts, hK, hL, hB, hN, hml, hlk, hR1, hR2, hnm, hR3, hR4, hR5⟩ := id X
  obtain ⟨hz, h0, h9⟩ := hW.1
  have sw : SW n0 ≤ SW n := SW_mono h0
  have sw1 : SW (n + 1) ≤ SW Z.1 := SW_mono hZ
  have e2 : SW (n + 1) = SW n + ln n := by
    show SW n + wt n = _
    unfold wt
    rw [if_neg (by rw [hs]; decide)]
  have cb : componentBytes (newarray.typeOf .byte) ≤ 8 := by decide
  refine va_newaK (N := ln n) hx hb (hts _ harr) rfl hd rfl (nI_pos (by omega)) (nI_clamp (by omega)) (Nat.le_trans (Nat.mul_le_mul_left _ cb) (by omega)) (by omega) (by omega) hz fun H1 cA e1 z1 o1 hAr hNm => ?_
  have an : ad n = B + n := hL n (by omega)
  have hcA : cA = dA 22 := Option.some.inj (hNm.symm.trans (hK.2 2 (dA 22, .byte) rfl).2)
  have A1 : va_at D vwCl (ad n, ent2 ad dA σ ν n) H1 := by
    rw [en2_i hs (by decide) (by decide), an]
    show H1[B + n]? = some (vp_cell (dA 22) (ln n, .inl (σ.1 n)))
    obtain ⟨f1, f2, f3⟩ := hW.2.2 n (Nat.le_refl _)
    rw [e1, hcA]
    show _ = some (arrV (dA 22) (ln n) (fun j => .int (σ.1 n j)))
    simp only [f1]
    rfl
  have := k0 _ _ _ _ _ _ _ _ _ _ _ _ _ _ _ X F H1 locs ls (Wd_push hW (by omega) z1 o1 A1) (va_S_new hS hz z1 o1) hl
  rw [show n + 1 - n0 = n - n0 + 1 by omega, show SW (n + 1) - SW n0 = SW n - SW n0 + ln n by omega, List.map_cons, show tr ad (.ref n) = .ref (B + n) by show Value.ref (ad n) = _; rw [an]] at this
  exact this
theorem b_newaJ {N : Nat} (hd : Dc μ pc (.newarray .long) 2 pc2) (harr : Cond.arrayClass (newarray.typeOf .long) ∈ tb) (hs : sh n = 23) (hn : ln n = N) (hb31 : Nat.ble N 100000 = true) (hZ : n + 1 ≤ Z.1) (k0 : BE μ d n0 Z pc2 lv (.ref n :: st) (n + 1) σ ν) : BE μ d n0 Z pc lv (.int (nI N) :: st) n σ ν := by
  subst hn
  have hb31 : ln n ≤ 100000 := Nat.le_of_ble_eq_true hb31
  obtain ⟨hd, rfl⟩ := hd
  intro p l e R s m args below meth c D dA ad B Q X F H locs ls hW hS hl
  obtain ⟨hx, hb, hown, hts, hK, hL, hB, hN, hml, hlk, hR1, hR2, hnm, hR3, hR4, hR5⟩ := id X
  obtain ⟨hz, h0, h9⟩ := hW.1
  have sw : SW n0 ≤ SW n := SW_mono h0
  have sw1 : SW (n + 1) ≤ SW Z.1 := SW_mono hZ
  have e2 : SW (n + 1) = SW n + ln n := by
    show SW n + wt n = _
    unfold wt
    rw [if_neg (by rw [hs]; decide)]
  have cb : componentBytes (newarray.typeOf .long) ≤ 8 := by decide
  refine va_newaK (N := ln n) hx hb (hts _ harr) rfl hd rfl (nI_pos (by omega)) (nI_clamp (by omega)) (Nat.le_trans (Nat.mul_le_mul_left _ cb) (by omega)) (by omega) (by omega) hz fun H1 cA e1 z1 o1 hAr hNm => ?_
  have an : ad n = B + n := hL n (by omega)
  have hcA : cA = dA 23 := Option.some.inj (hNm.symm.trans (hK.2 3 (dA 23, .long) rfl).2)
  have A1 : va_at D vwCl (ad n, ent2 ad dA σ ν n) H1 := by
    rw [en2_l hs, an]
    show H1[B + n]? = some (vp_cell (dA 23) (ln n, .inr (.inl (σ.2 n))))
    obtain ⟨f1, f2, f3⟩ := hW.2.2 n (Nat.le_refl _)
    rw [e1, hcA]
    show _ = some (arrV (dA 23) (ln n) (fun j => .long (σ.2 n j)))
    simp only [f2]
    rfl
  have := k0 _ _ _ _ _ _ _ _ _ _ _ _ _ _ _ X F H1 locs ls (Wd_push hW (by omega) z1 o1 A1) (va_S_new hS hz z1 o1) hl
  rw [show n + 1 - n0 = n - n0 + 1 by omega, show SW (n + 1) - SW n0 = SW n - SW n0 + ln n by omega, List.map_cons, show tr ad (.ref n) = .ref (B + n) by show Value.ref (ad n) = _; rw [an]] at this
  exact this
def Na (own : String) (idx c : Nat) (C : String) : Prop := Cond.classLink own idx C ∈ tb ∧ C ∈ aoL ∧ 24 ≤ c ∧ ∀ dA : Nat → ClassId, (tys dA)[c - 20]? = some (dA c, .object C)
theorem b_anew {N c idx : Nat} {C : String} (hd : Dc μ pc (.anewarray idx) 3 pc2) (hw : Na μ.1.cls idx c C) (hs : sh n = c) (hn : ln n = N) (hb31 : Nat.ble N 100000 = true) (hZ : n + 1 ≤ Z.1) (k0 : BE μ d n0 Z pc2 lv (.ref n :: st) (n + 1) σ ν) : BE μ d n0 Z pc lv (.int (nI N) :: st) n σ ν := by
  subst hn
  obtain ⟨hcl, hov, hc24, hty⟩ := hw
  have hb31 : ln n ≤ 100000 := Nat.le_of_ble_eq_true hb31
  obtain ⟨hd, rfl⟩ := hd
  intro p l e R s m args below meth c1 D dA ad B Q X F H locs ls hW hS hl
  obtain ⟨hx, hb, hown, hts, hK, hL, hB, hN, hml, hlk, hR1, hR2, hnm, hR3, hR4, hR5⟩ := id X
  obtain ⟨hz, h0, h9⟩ := hW.1
  have sw : SW n0 ≤ SW n := SW_mono h0
  have sw1 : SW (n + 1) ≤ SW Z.1 := SW_mono hZ
  have e2 : SW (n + 1) = SW n + ln n := by
    show SW n + wt n = _
    unfold wt
    rw [if_neg (by omega)]
  have ecl : (nI (ln n)).toNatClampNeg = ln n := nI_clamp (by omega)
  refine W.anew hx hb hown (hts _ hcl) (hN.2 _ hov).use rfl hd rfl (nI_pos (by omega)) (by rw [ecl]; omega) (by omega) (by rw [ecl]; omega) fun cA kA comp f1 f2 f3 f4 => ?_
  rw [ecl]
  generalize hH1 : H.push ({ cls := cA, slots := Array.replicate (ln n) .null, vm := .none } : Cell) = H1
  have z1 : H1.size = B + n + 1 := by rw [← hH1, Array.size_push, hz]
  have e1 : H1[H.size]? = some (arrV cA (ln n) (fun _ => .null)) := by rw [← hH1, Array.getElem?_push_size, ← arrV_new]
  have o1 : ∀ q : Nat, q < B + n → H1[q]? = H[q]? := fun q hq => by rw [← hH1, Array.getElem?_push, if_neg (by omega)]
  have an : ad n = B + n := hL n (by omega)
  obtain ⟨kA', comp', -, -, -, g4⟩ := (hK.2 (c - 20) _ (hty dA)).2
  have hcA : cA = dA c := Option.some.inj (f1.symm.trans g4)
  have A1 : va_at D vwCl (ad n, ent2 ad dA σ ν n) H1 := by
    rw [en2_r hs hc24, an, ← hz]
    show H1[H.size]? = some (vp_cell _ _)
    obtain ⟨-, -, f3⟩ := hW.2.2 n (Nat.le_refl _)
    rw [vp_cell_q, e1, hcA]
    have eA : arrV (dA c) (ln n) (fun _ => .null) = arrV (dA c) (ln n) (fun j => va_rf (if ν n j = true then none else some (ad (rr n j)))) := by
      unfold arrV
      congr 1
      apply Array.ext
      · simp
      · intro i h1 h2
        have hi : i < ln n := by simpa using h1
        have : ν n i = true := by
          rw [f3]; unfold fr0
          rw [if_neg (by omega)]
          exact decide_eq_true ⟨by omega, hi⟩
        simp [this, va_rf]
    rw [eA]
  have := k0 _ _ _ _ _ _ _ _ _ _ _ _ _ _ _ X F H1 locs ls (Wd_push hW (by omega) z1 o1 A1) (va_S_new hS hz z1 o1) hl
  rw [show n + 1 - n0 = n - n0 + 1 by omega, show SW (n + 1) - SW n0 = SW n - SW n0 + ln n by omega, List.map_cons, show tr ad (.ref n) = .ref H.size by show Value.ref (ad n) = _; rw [an, hz]] at this
  exact this
end RowsB
