/-! pure combinators: a program's own steps, that may fail -/
def vl {α T : Type} (x : α) (K : α → Option T) : Option T := K x
def ald {α T : Type} (f : Nat → α) (n : Nat) (i : Int32) (K : α → Option T) : Option T := if i < 0 ∨ n ≤ i.toNatClampNeg then none else K (f i.toNatClampNeg)
def bd {α T : Type} (x : Option (α × St)) (K : α → St → Option T) : Option T := match x with
  | none => none
  | some (v, s) => K v s
def bp {α T : Type} (x : Option α) (K : α → Option T) : Option T := match x with
  | none => none
  | some v => K v
def dv {T : Type} (x y : Int32) (K : Int32 → Option T) : Option T := if y = 0 then none else K (x / y)
def irm (x y : Int32) : Int32 := x - x / y * y
def rm_ {T : Type} (x y : Int32) (K : Int32 → Option T) : Option T := if y = 0 then none else K (irm x y)
def ush (x y : Int32) : Int32 := (x.toUInt32 >>> (y.toUInt32 &&& Int32.toUInt32 31)).toInt32
def lsl (x : Int64) (y : Int32) : Int64 := x <<< (y.toInt64 &&& 63)
def lsr (x : Int64) (y : Int32) : Int64 := x >>> (y.toInt64 &&& 63)
/-- a truth value: 0 or 1 -/
def rz {T : Type} (x : Int32) (K : Option T) : Option T := if x = 0 ∨ x = 1 then K else none
/-- a word's letters -/
def wcd {T : Type} (a : Nat) (K : Int64 → Option T) : Option T := if 1000 ≤ a ∧ a < 1027 then K (wc (a - 1000)) else none
def jn {α T : Type} (c : α) (b : α → Option T) : Option T := b c
def cpi {T : Type} (σ : St) (a b n : Nat) (K : St → Option T) : Option T := if a = b then none else K (sC σ a b n)
def cpz {T : Type} (σ : St) (a b n : Nat) (K : St → Option T) : Option T := if a = b then none else if (List.range n).all (fun i => σ.1 a i == 0 || σ.1 a i == 1) = true then K (sC σ a b n) else none
theorem jn_e {α T : Type} {c : α} {b : α → Option T} {r : T} {G : Prop} (P : α → Prop) (h : jn c b = some r) (hc : P c) (k : ∀ j, P j → b j = some r → G) : G := k c hc h
theorem vl_e {α T : Type} {x : α} {K : α → Option T} {r : T} {P : Prop} (h : vl x K = some r) (k : K x = some r → P) : P := k h
theorem rz_e {T : Type} {x : Int32} {K : Option T} {r : T} {P : Prop} (h : rz x K = some r) (k : (x = 0 ∨ x = 1) → K = some r → P) : P := by
  unfold rz at h
  split at h
  · next q => exact k q h
  · cases h
/-! what the instructions name -/
def Fl (own : String) (idx ci k : Nat) : Prop := ∃ (C : String) (T : u_T) (N : Nat), vwCl[ci]? = some (C, T, N) ∧ k < N ∧ (∀ w ∈ u_ws C T N, w ∈ tb) ∧ Cond.fieldLink own idx (T k).1 (T k).2.1 (T k).2.2.1 ∈ tb
def Fp (own : String) (idx ci k : Nat) (ty : FieldType) : Prop := ∃ (C : String) (T : u_T) (N : Nat) (ty0 : Nat → FieldType), vwCl[ci]? = some (C, T, N) ∧ k < N ∧ (∀ w ∈ u_ws C T N, w ∈ tb) ∧ Cond.fieldLink own idx (T k).1 (T k).2.1 (T k).2.2.1 ∈ tb ∧ (∀ k, k < N → parseFieldDescriptor (T k).2.2.1 = some (ty0 k)) ∧ (∀ a, a < N → ∀ b, b < N → a ≠ b → (T a).2.1 ≠ (T b).2.1) ∧ (T k).2.2.2 = false ∧ parseFieldDescriptor (T k).2.2.1 = some ty ∧ N = (kdL.getD ci []).length
def Mw (ν : MI) (n : Nat) : Prop := Cond.code ν.1 ν.2.1 ν.2.2.1 ν.2.2.2 ∈ tb ∧ Cond.initialized ν.1.cls ∈ tb ∧ (ν.1.cls ≠ "java/lang/invoke/MethodHandle" ∧ ν.1.cls ≠ "java/lang/invoke/VarHandle") ∧ (∀ sig, parseMethodDescriptor ν.1.desc = some sig → n = sig.parameters.length) ∧ ν.2.2.1 ≤ 21
def Mv (own : String) (idx : Nat) (ν : MI) (n ci : Nat) : Prop := Mw ν n ∧ Cond.methodLink own idx ν.1 ∈ tb ∧ Cond.instanceMethod ν.1 ∈ tb ∧ Cond.selects ν.1.cls ν.1 ν.1 ∈ tb ∧ ∃ (T : u_T) (N : Nat), vwCl[ci]? = some (ν.1.cls, T, N)
def Ms (own : String) (idx : Nat) (ν : MI) (n : Nat) : Prop := Mw ν n ∧ Cond.methodLink own idx ν.1 ∈ tb ∧ Cond.static ν.1 ∈ tb
def MsN (own : String) (idx : Nat) (ν : MI) (n : Nat) (host : String) : Prop := Mw ν n ∧ Cond.methodLinkNest own idx ν.1 host ∈ nestL ∧ Cond.static ν.1 ∈ tb
def nlb (lv : List (Option Value)) (k : Nat) : Bool := match k with
  | 0 => true
  | k + 1 => match lv[k]? with
    | some (some v) => v.category == 1
    | _ => true
theorem nlb_e {ad : Nat → Nat} {lv : List (Option Value)} {k : Nat} (h : nlb lv k = true) : ∀ j, j + 1 = k → ∀ o, (trL ad lv)[j]? = some o → nl o := by
  intro j hj o ho w hw
  subst hj hw
  rw [List.getElem?_map] at ho
  cases e : lv[j]? with
  | none => rw [e] at ho; cases ho
  | some x =>
    rw [e] at ho
    cases x with
    | none => cases ho
    | some v =>
      simp only [nlb, e] at h
      cases ho
      rw [tr_cat]
      exact eq_of_beq h
theorem ent_at {ad : Nat → Nat} {dA : Nat → ClassId} {σ : St} {i c : Nat} (h : sh i = c) (hc : c < 20) : (wld ad dA σ)[i]? = some (ad i, .inr (c, fvs ad σ i)) := by
  rw [wld_get (sh_lt h (by omega)), ent_o h hc]
theorem ci_lt {ci : Nat} {q : vw_C} (h : vwCl[ci]? = some q) : ci < 20 := by
  have := (List.getElem?_eq_some_iff.mp h).1
  have e : vwCl.length = 12 := rfl
  omega
theorem put_i {ad : Nat → Nat} {dA : Nat → ClassId} {σ : St} {a ci k : Nat} {x : Int32} (hs : sh a = ci) (hc : ci < 20) (ht : kd ci k = 0) : (wld ad dA σ).set a (ad a, .inr (ci, (fvs ad σ a).set k (.int x))) = wld ad dA (sI σ a k x) := by
  rw [← wld_set (σ := σ) (τ := sI σ a k x) (i := a) (fun j hj => ent_cong (sI_ne hj).symm rfl), ent_o hs hc]
  have e : (Value.int x) = fv ad (sI σ a k x) 0 a k := by simp [fv, sI_eq, upd]
  rw [e, fvs_set (σ := σ) (τ := sI σ a k x) (by rw [hs]; exact ht) (by decide)]
  intro j hj
  simp [fv, sI, upd, hj]
theorem put_l {ad : Nat → Nat} {dA : Nat → ClassId} {σ : St} {a ci k : Nat} {x : Int64} (hs : sh a = ci) (hc : ci < 20) (ht : kd ci k = 1) : (wld ad dA σ).set a (ad a, .inr (ci, (fvs ad σ a).set k (.long x))) = wld ad dA (sL σ a k x) := by
  rw [← wld_set (σ := σ) (τ := sL σ a k x) (i := a) (fun j hj => ent_cong rfl (sL_ne hj).symm), ent_o hs hc]
  have e : (Value.long x) = fv ad (sL σ a k x) 1 a k := by simp [fv, sL_eq, vp_updL]
  rw [e, fvs_set (σ := σ) (τ := sL σ a k x) (by rw [hs]; exact ht) (by decide)]
  intro j hj
  simp [fv, sL, vp_updL, hj]
theorem ast_i {ad : Nat → Nat} {dA : Nat → ClassId} {σ : St} {a c k : Nat} {x : Int32} (hs : sh a = c) (h1 : 20 ≤ c) (h2 : c < 23) : (wld ad dA σ).set a (ad a, .inl (dA c, ln a, .inl (upd (σ.1 a) k x))) = wld ad dA (sI σ a k x) := by
  rw [← wld_set (σ := σ) (τ := sI σ a k x) (i := a) (fun j hj => ent_cong (sI_ne hj).symm rfl), ent_i hs h1 h2, sI_eq]
theorem ast_l {ad : Nat → Nat} {dA : Nat → ClassId} {σ : St} {a k : Nat} {x : Int64} (hs : sh a = 23) : (wld ad dA σ).set a (ad a, .inl (dA 23, ln a, .inr (.inl (vp_updL (σ.2 a) k x)))) = wld ad dA (sL σ a k x) := by
  rw [← wld_set (σ := σ) (τ := sL σ a k x) (i := a) (fun j hj => ent_cong rfl (sL_ne hj).symm), ent_l hs, sL_eq]
theorem acp_i {ad : Nat → Nat} {dA : Nat → ClassId} {σ : St} {a b c n : Nat} (hs : sh b = c) (h1 : 20 ≤ c) (h2 : c < 23) : (wld ad dA σ).set b (ad b, .inl (dA c, ln b, .inl (va_cpy (σ.1 a) (σ.1 b) 0 0 n))) = wld ad dA (sC σ a b n) := by
  rw [← wld_set (σ := σ) (τ := sC σ a b n) (i := b) (fun j hj => ent_cong (sC_ne hj).symm rfl), ent_i hs h1 h2, sC_eq]
section RowsE
variable {μ : MI} {d : Nat} {Z : Option Value × St} {pc pc2 : Nat} {lv : List (Option Value)} {st : List Value} {σ : St} {T : Type} {r : T}
theorem e_iconst {n : Int} (v : Int32) (hd : Dc μ pc (.iconst n) 1 pc2) (hv : Int32.ofInt n = v) (k : E μ d Z pc2 lv (.int v :: st) σ) : E μ d Z pc lv (st) σ := by
  obtain ⟨hd, rfl⟩ := hd
  intro p l e R s m args below meth c D dA ad Q X F H locs ls hP hS hl
  obtain ⟨hx, hb, hown, hts, hK, hJ, hSt, hN, hml, hlk, hR1, hR2⟩ := id X
  exact lv_iconst hx hb hd hv (k _ _ _ _ _ _ _ _ _ _ _ _ _ _ X F H locs ls hP hS hl)
theorem e_bipush {n : Int} (v : Int32) (hd : Dc μ pc (.bipush n) 2 pc2) (hv : (Int8.ofInt n).toInt32 = v) (k : E μ d Z pc2 lv (.int v :: st) σ) : E μ d Z pc lv (st) σ := by
  obtain ⟨hd, rfl⟩ := hd
  intro p l e R s m args below meth c D dA ad Q X F H locs ls hP hS hl
  obtain ⟨hx, hb, hown, hts, hK, hJ, hSt, hN, hml, hlk, hR1, hR2⟩ := id X
  exact lv_bipush hx hb hd hv (k _ _ _ _ _ _ _ _ _ _ _ _ _ _ X F H locs ls hP hS hl)
theorem e_sipush {n : Int} (v : Int32) (hd : Dc μ pc (.sipush n) 3 pc2) (hv : (Int16.ofInt n).toInt32 = v) (k : E μ d Z pc2 lv (.int v :: st) σ) : E μ d Z pc lv (st) σ := by
  obtain ⟨hd, rfl⟩ := hd
  intro p l e R s m args below meth c D dA ad Q X F H locs ls hP hS hl
  obtain ⟨hx, hb, hown, hts, hK, hJ, hSt, hN, hml, hlk, hR1, hR2⟩ := id X
  exact lv_sipush hx hb hd hv (k _ _ _ _ _ _ _ _ _ _ _ _ _ _ X F H locs ls hP hS hl)
theorem e_lconst {n : _root_.Fin 2} (v : Int64) (hd : Dc μ pc (.lconst n) 1 pc2) (hv : Int64.ofInt n.val = v) (k : E μ d Z pc2 lv (.long v :: st) σ) : E μ d Z pc lv (st) σ := by
  obtain ⟨hd, rfl⟩ := hd
  intro p l e R s m args below meth c D dA ad Q X F H locs ls hP hS hl
  obtain ⟨hx, hb, hown, hts, hK, hJ, hSt, hN, hml, hlk, hR1, hR2⟩ := id X
  exact lv_lconst hx hb hd hv (k _ _ _ _ _ _ _ _ _ _ _ _ _ _ X F H locs ls hP hS hl)
theorem e_ldc {n : Nat} (v : Int32) (hd : Dc μ pc (.ldc n) 2 pc2) (hw : Cond.constant μ.1.cls n v ∈ tb) (k : E μ d Z pc2 lv (.int v :: st) σ) : E μ d Z pc lv (st) σ := by
  obtain ⟨hd, rfl⟩ := hd
  intro p l e R s m args below meth c D dA ad Q X F H locs ls hP hS hl
  obtain ⟨hx, hb, hown, hts, hK, hJ, hSt, hN, hml, hlk, hR1, hR2⟩ := id X
  exact lv_ldc hx hb hown (hts _ hw) hd (k _ _ _ _ _ _ _ _ _ _ _ _ _ _ X F H locs ls hP hS hl)
theorem e_ldcw {n : Nat} (v : Int32) (hd : Dc μ pc (.ldc_w n) 3 pc2) (hw : Cond.constant μ.1.cls n v ∈ tb) (k : E μ d Z pc2 lv (.int v :: st) σ) : E μ d Z pc lv (st) σ := by
  obtain ⟨hd, rfl⟩ := hd
  intro p l e R s m args below meth c D dA ad Q X F H locs ls hP hS hl
  obtain ⟨hx, hb, hown, hts, hK, hJ, hSt, hN, hml, hlk, hR1, hR2⟩ := id X
  exact lv_ldcw hx hb hown (hts _ hw) hd (k _ _ _ _ _ _ _ _ _ _ _ _ _ _ X F H locs ls hP hS hl)
theorem e_ldc2 {n : Nat} (v : Int64) (hd : Dc μ pc (.ldc2_w n) 3 pc2) (hw : Cond.constantLong μ.1.cls n v ∈ tb) (k : E μ d Z pc2 lv (.long v :: st) σ) : E μ d Z pc lv (st) σ := by
  obtain ⟨hd, rfl⟩ := hd
  intro p l e R s m args below meth c D dA ad Q X F H locs ls hP hS hl
  obtain ⟨hx, hb, hown, hts, hK, hJ, hSt, hN, hml, hlk, hR1, hR2⟩ := id X
  exact lv_ldc2 hx hb hown (hts _ hw) hd (k _ _ _ _ _ _ _ _ _ _ _ _ _ _ X F H locs ls hP hS hl)
theorem e_iload {i : Nat} {x : Int32} (hd : Dc μ pc (.iload i) 2 pc2) (h : lv[i]? = some (some (.int x))) (k : E μ d Z pc2 lv (.int x :: st) σ) : E μ d Z pc lv (st) σ := by
  obtain ⟨hd, rfl⟩ := hd
  intro p l e R s m args below meth c D dA ad Q X F H locs ls hP hS hl
  obtain ⟨hx, hb, hown, hts, hK, hJ, hSt, hN, hml, hlk, hR1, hR2⟩ := id X
  exact lv_iload hx hb hd (hl.2.2.2 _ _ (trL_at h)) (k _ _ _ _ _ _ _ _ _ _ _ _ _ _ X F H locs ls hP hS hl)
theorem e_iload_n {i : _root_.Fin 4} {x : Int32} (hd : Dc μ pc (.iload_n i) 1 pc2) (h : lv[i.val]? = some (some (.int x))) (k : E μ d Z pc2 lv (.int x :: st) σ) : E μ d Z pc lv (st) σ := by
  obtain ⟨hd, rfl⟩ := hd
  intro p l e R s m args below meth c D dA ad Q X F H locs ls hP hS hl
  obtain ⟨hx, hb, hown, hts, hK, hJ, hSt, hN, hml, hlk, hR1, hR2⟩ := id X
  exact lv_iload_n hx hb hd rfl (hl.2.2.2 _ _ (trL_at h)) (k _ _ _ _ _ _ _ _ _ _ _ _ _ _ X F H locs ls hP hS hl)
theorem e_lload {i : Nat} {x : Int64} (hd : Dc μ pc (.lload i) 2 pc2) (h : lv[i]? = some (some (.long x))) (k : E μ d Z pc2 lv (.long x :: st) σ) : E μ d Z pc lv (st) σ := by
  obtain ⟨hd, rfl⟩ := hd
  intro p l e R s m args below meth c D dA ad Q X F H locs ls hP hS hl
  obtain ⟨hx, hb, hown, hts, hK, hJ, hSt, hN, hml, hlk, hR1, hR2⟩ := id X
  exact lv_lload hx hb hd (hl.2.2.2 _ _ (trL_at h)) (k _ _ _ _ _ _ _ _ _ _ _ _ _ _ X F H locs ls hP hS hl)
theorem e_lload_n {i : _root_.Fin 4} {x : Int64} (hd : Dc μ pc (.lload_n i) 1 pc2) (h : lv[i.val]? = some (some (.long x))) (k : E μ d Z pc2 lv (.long x :: st) σ) : E μ d Z pc lv (st) σ := by
  obtain ⟨hd, rfl⟩ := hd
  intro p l e R s m args below meth c D dA ad Q X F H locs ls hP hS hl
  obtain ⟨hx, hb, hown, hts, hK, hJ, hSt, hN, hml, hlk, hR1, hR2⟩ := id X
  exact lv_lload_n hx hb hd rfl (hl.2.2.2 _ _ (trL_at h)) (k _ _ _ _ _ _ _ _ _ _ _ _ _ _ X F H locs ls hP hS hl)
theorem e_aload {i : Nat} {x : Nat} (hd : Dc μ pc (.aload i) 2 pc2) (h : lv[i]? = some (some (.ref x))) (k : E μ d Z pc2 lv (.ref x :: st) σ) : E μ d Z pc lv (st) σ := by
  obtain ⟨hd, rfl⟩ := hd
  intro p l e R s m args below meth c D dA ad Q X F H locs ls hP hS hl
  obtain ⟨hx, hb, hown, hts, hK, hJ, hSt, hN, hml, hlk, hR1, hR2⟩ := id X
  exact lv_aload hx hb hd (hl.2.2.2 _ _ (trL_at h)) (k _ _ _ _ _ _ _ _ _ _ _ _ _ _ X F H locs ls hP hS hl)
theorem e_aload_n {i : _root_.Fin 4} {x : Nat} (hd : Dc μ pc (.aload_n i) 1 pc2) (h : lv[i.val]? = some (some (.ref x))) (k : E μ d Z pc2 lv (.ref x :: st) σ) : E μ d Z pc lv (st) σ := by
  obtain ⟨hd, rfl⟩ := hd
  intro p l e R s m args below meth c D dA ad Q X F H locs ls hP hS hl
  obtain ⟨hx, hb, hown, hts, hK, hJ, hSt, hN, hml, hlk, hR1, hR2⟩ := id X
  exact lv_aload_n hx hb hd rfl (hl.2.2.2 _ _ (trL_at h)) (k _ _ _ _ _ _ _ _ _ _ _ _ _ _ X F H locs ls hP hS hl)
theorem e_iadd {x y : Int32} (hd : Dc μ pc (.iadd) 1 pc2)  (k : E μ d Z pc2 lv (.int (x + y) :: st) σ) : E μ d Z pc lv (.int y :: .int x :: st) σ := by
  obtain ⟨hd, rfl⟩ := hd
  intro p l e R s m args below meth c D dA ad Q X F H locs ls hP hS hl
  obtain ⟨hx, hb, hown, hts, hK, hJ, hSt, hN, hml, hlk, hR1, hR2⟩ := id X
  exact lv_iadd hx hb hd (k _ _ _ _ _ _ _ _ _ _ _ _ _ _ X F H locs ls hP hS hl)
theorem e_isub {x y : Int32} (hd : Dc μ pc (.isub) 1 pc2)  (k : E μ d Z pc2 lv (.int (x - y) :: st) σ) : E μ d Z pc lv (.int y :: .int x :: st) σ := by
  obtain ⟨hd, rfl⟩ := hd
  intro p l e R s m args below meth c D dA ad Q X F H locs ls hP hS hl
  obtain ⟨hx, hb, hown, hts, hK, hJ, hSt, hN, hml, hlk, hR1, hR2⟩ := id X
  exact lv_isub hx hb hd (k _ _ _ _ _ _ _ _ _ _ _ _ _ _ X F H locs ls hP hS hl)
theorem e_imul {x y : Int32} (hd : Dc μ pc (.imul) 1 pc2)  (k : E μ d Z pc2 lv (.int (x * y) :: st) σ) : E μ d Z pc lv (.int y :: .int x :: st) σ := by
  obtain ⟨hd, rfl⟩ := hd
  intro p l e R s m args below meth c D dA ad Q X F H locs ls hP hS hl
  obtain ⟨hx, hb, hown, hts, hK, hJ, hSt, hN, hml, hlk, hR1, hR2⟩ := id X
  exact lv_imul hx hb hd (k _ _ _ _ _ _ _ _ _ _ _ _ _ _ X F H locs ls hP hS hl)
theorem e_iand {x y : Int32} (hd : Dc μ pc (.iand) 1 pc2)  (k : E μ d Z pc2 lv (.int (x &&& y) :: st) σ) : E μ d Z pc lv (.int y :: .int x :: st) σ := by
  obtain ⟨hd, rfl⟩ := hd
  intro p l e R s m args below meth c D dA ad Q X F H locs ls hP hS hl
  obtain ⟨hx, hb, hown, hts, hK, hJ, hSt, hN, hml, hlk, hR1, hR2⟩ := id X
  exact lv_iand hx hb hd (k _ _ _ _ _ _ _ _ _ _ _ _ _ _ X F H locs ls hP hS hl)
theorem e_ior {x y : Int32} (hd : Dc μ pc (.ior) 1 pc2)  (k : E μ d Z pc2 lv (.int (x ||| y) :: st) σ) : E μ d Z pc lv (.int y :: .int x :: st) σ := by
  obtain ⟨hd, rfl⟩ := hd
  intro p l e R s m args below meth c D dA ad Q X F H locs ls hP hS hl
  obtain ⟨hx, hb, hown, hts, hK, hJ, hSt, hN, hml, hlk, hR1, hR2⟩ := id X
  exact lv_ior hx hb hd (k _ _ _ _ _ _ _ _ _ _ _ _ _ _ X F H locs ls hP hS hl)
theorem e_ixor {x y : Int32} (hd : Dc μ pc (.ixor) 1 pc2)  (k : E μ d Z pc2 lv (.int (x ^^^ y) :: st) σ) : E μ d Z pc lv (.int y :: .int x :: st) σ := by
  obtain ⟨hd, rfl⟩ := hd
  intro p l e R s m args below meth c D dA ad Q X F H locs ls hP hS hl
  obtain ⟨hx, hb, hown, hts, hK, hJ, hSt, hN, hml, hlk, hR1, hR2⟩ := id X
  exact lv_ixor hx hb hd (k _ _ _ _ _ _ _ _ _ _ _ _ _ _ X F H locs ls hP hS hl)
theorem e_ishl {x y : Int32} (hd : Dc μ pc (.ishl) 1 pc2)  (k : E μ d Z pc2 lv (.int (x <<< (y &&& 31)) :: st) σ) : E μ d Z pc lv (.int y :: .int x :: st) σ := by
  obtain ⟨hd, rfl⟩ := hd
  intro p l e R s m args below meth c D dA ad Q X F H locs ls hP hS hl
  obtain ⟨hx, hb, hown, hts, hK, hJ, hSt, hN, hml, hlk, hR1, hR2⟩ := id X
  exact lv_ishl hx hb hd (k _ _ _ _ _ _ _ _ _ _ _ _ _ _ X F H locs ls hP hS hl)
theorem e_ishr {x y : Int32} (hd : Dc μ pc (.ishr) 1 pc2)  (k : E μ d Z pc2 lv (.int (x >>> (y &&& 31)) :: st) σ) : E μ d Z pc lv (.int y :: .int x :: st) σ := by
  obtain ⟨hd, rfl⟩ := hd
  intro p l e R s m args below meth c D dA ad Q X F H locs ls hP hS hl
  obtain ⟨hx, hb, hown, hts, hK, hJ, hSt, hN, hml, hlk, hR1, hR2⟩ := id X
  exact lv_ishr hx hb hd (k _ _ _ _ _ _ _ _ _ _ _ _ _ _ X F H locs ls hP hS hl)
theorem e_iushr {x y : Int32} (hd : Dc μ pc (.iushr) 1 pc2)  (k : E μ d Z pc2 lv (.int (ush x y) :: st) σ) : E μ d Z pc lv (.int y :: .int x :: st) σ := by
  obtain ⟨hd, rfl⟩ := hd
  intro p l e R s m args below meth c D dA ad Q X F H locs ls hP hS hl
  obtain ⟨hx, hb, hown, hts, hK, hJ, hSt, hN, hml, hlk, hR1, hR2⟩ := id X
  exact lv_iushr hx hb hd rfl (k _ _ _ _ _ _ _ _ _ _ _ _ _ _ X F H locs ls hP hS hl)
theorem e_idiv {x y : Int32} {K : Int32 → Option T} (hd : Dc μ pc .idiv 1 pc2) (h : dv x y K = some r) (k : ∀ v, K v = some r → E μ d Z pc2 lv (.int v :: st) σ) : E μ d Z pc lv (.int y :: .int x :: st) σ := by
  unfold dv at h
  split at h
  · cases h
  next hne =>
  replace k := k _ h
  obtain ⟨hd, rfl⟩ := hd
  intro p l e R s m args below meth c D dA ad Q X F H locs ls hP hS hl
  obtain ⟨hx, hb, hown, hts, hK, hJ, hSt, hN, hml, hlk, hR1, hR2⟩ := id X
  exact lv_idiv hx hb hd hne (k _ _ _ _ _ _ _ _ _ _ _ _ _ _ X F H locs ls hP hS hl)
theorem e_irem {x y : Int32} {K : Int32 → Option T} (hd : Dc μ pc .irem 1 pc2) (h : rm_ x y K = some r) (k : ∀ v, K v = some r → E μ d Z pc2 lv (.int v :: st) σ) : E μ d Z pc lv (.int y :: .int x :: st) σ := by
  unfold rm_ at h
  split at h
  · cases h
  next hne =>
  replace k := k _ h
  obtain ⟨hd, rfl⟩ := hd
  intro p l e R s m args below meth c D dA ad Q X F H locs ls hP hS hl
  obtain ⟨hx, hb, hown, hts, hK, hJ, hSt, hN, hml, hlk, hR1, hR2⟩ := id X
  exact lv_irem hx hb hd hne (k _ _ _ _ _ _ _ _ _ _ _ _ _ _ X F H locs ls hP hS hl)
theorem e_ineg {x : Int32} (hd : Dc μ pc (.ineg) 1 pc2)  (k : E μ d Z pc2 lv (.int (-x) :: st) σ) : E μ d Z pc lv (.int x :: st) σ := by
  obtain ⟨hd, rfl⟩ := hd
  intro p l e R s m args below meth c D dA ad Q X F H locs ls hP hS hl
  obtain ⟨hx, hb, hown, hts, hK, hJ, hSt, hN, hml, hlk, hR1, hR2⟩ := id X
  exact lv_ineg hx hb hd (k _ _ _ _ _ _ _ _ _ _ _ _ _ _ X F H locs ls hP hS hl)
theorem e_ladd {x y : Int64} (hd : Dc μ pc (.ladd) 1 pc2)  (k : E μ d Z pc2 lv (.long (x + y) :: st) σ) : E μ d Z pc lv (.long y :: .long x :: st) σ := by
  obtain ⟨hd, rfl⟩ := hd
  intro p l e R s m args below meth c D dA ad Q X F H locs ls hP hS hl
  obtain ⟨hx, hb, hown, hts, hK, hJ, hSt, hN, hml, hlk, hR1, hR2⟩ := id X
  exact lv_ladd hx hb hd (k _ _ _ _ _ _ _ _ _ _ _ _ _ _ X F H locs ls hP hS hl)
theorem e_land {x y : Int64} (hd : Dc μ pc (.land) 1 pc2)  (k : E μ d Z pc2 lv (.long (x &&& y) :: st) σ) : E μ d Z pc lv (.long y :: .long x :: st) σ := by
  obtain ⟨hd, rfl⟩ := hd
  intro p l e R s m args below meth c D dA ad Q X F H locs ls hP hS hl
  obtain ⟨hx, hb, hown, hts, hK, hJ, hSt, hN, hml, hlk, hR1, hR2⟩ := id X
  exact lv_land hx hb hd (k _ _ _ _ _ _ _ _ _ _ _ _ _ _ X F H locs ls hP hS hl)
theorem e_lor {x y : Int64} (hd : Dc μ pc (.lor) 1 pc2)  (k : E μ d Z pc2 lv (.long (x ||| y) :: st) σ) : E μ d Z pc lv (.long y :: .long x :: st) σ := by
  obtain ⟨hd, rfl⟩ := hd
  intro p l e R s m args below meth c D dA ad Q X F H locs ls hP hS hl
  obtain ⟨hx, hb, hown, hts, hK, hJ, hSt, hN, hml, hlk, hR1, hR2⟩ := id X
  exact lv_lor hx hb hd (k _ _ _ _ _ _ _ _ _ _ _ _ _ _ X F H locs ls hP hS hl)
theorem e_lshl {x : Int64} {y : Int32} (hd : Dc μ pc (.lshl) 1 pc2)  (k : E μ d Z pc2 lv (.long (lsl x y) :: st) σ) : E μ d Z pc lv (.int y :: .long x :: st) σ := by
  obtain ⟨hd, rfl⟩ := hd
  intro p l e R s m args below meth c D dA ad Q X F H locs ls hP hS hl
  obtain ⟨hx, hb, hown, hts, hK, hJ, hSt, hN, hml, hlk, hR1, hR2⟩ := id X
  exact lv_lshl hx hb hd rfl (k _ _ _ _ _ _ _ _ _ _ _ _ _ _ X F H locs ls hP hS hl)
theorem e_lshr {x : Int64} {y : Int32} (hd : Dc μ pc (.lshr) 1 pc2)  (k : E μ d Z pc2 lv (.long (lsr x y) :: st) σ) : E μ d Z pc lv (.int y :: .long x :: st) σ := by
  obtain ⟨hd, rfl⟩ := hd
  intro p l e R s m args below meth c D dA ad Q X F H locs ls hP hS hl
  obtain ⟨hx, hb, hown, hts, hK, hJ, hSt, hN, hml, hlk, hR1, hR2⟩ := id X
  exact lv_lshr hx hb hd rfl (k _ _ _ _ _ _ _ _ _ _ _ _ _ _ X F H locs ls hP hS hl)
theorem e_lcmp {x y : Int64} (hd : Dc μ pc (.lcmp) 1 pc2)  (k : E μ d Z pc2 lv (.int (lg_cmp x y) :: st) σ) : E μ d Z pc lv (.long y :: .long x :: st) σ := by
  obtain ⟨hd, rfl⟩ := hd
  intro p l e R s m args below meth c D dA ad Q X F H locs ls hP hS hl
  obtain ⟨hx, hb, hown, hts, hK, hJ, hSt, hN, hml, hlk, hR1, hR2⟩ := id X
  exact W.lcmp hx hb hd (k _ _ _ _ _ _ _ _ _ _ _ _ _ _ X F H locs ls hP hS hl)
theorem e_i2l {x : Int32} (hd : Dc μ pc (.i2l) 1 pc2)  (k : E μ d Z pc2 lv (.long x.toInt64 :: st) σ) : E μ d Z pc lv (.int x :: st) σ := by
  obtain ⟨hd, rfl⟩ := hd
  intro p l e R s m args below meth c D dA ad Q X F H locs ls hP hS hl
  obtain ⟨hx, hb, hown, hts, hK, hJ, hSt, hN, hml, hlk, hR1, hR2⟩ := id X
  exact lv_i2l hx hb hd rfl (k _ _ _ _ _ _ _ _ _ _ _ _ _ _ X F H locs ls hP hS hl)
theorem e_l2i {x : Int64} (hd : Dc μ pc (.l2i) 1 pc2)  (k : E μ d Z pc2 lv (.int x.toInt32 :: st) σ) : E μ d Z pc lv (.long x :: st) σ := by
  obtain ⟨hd, rfl⟩ := hd
  intro p l e R s m args below meth c D dA ad Q X F H locs ls hP hS hl
  obtain ⟨hx, hb, hown, hts, hK, hJ, hSt, hN, hml, hlk, hR1, hR2⟩ := id X
  exact lv_l2i hx hb hd rfl (k _ _ _ _ _ _ _ _ _ _ _ _ _ _ X F H locs ls hP hS hl)
theorem e_i2b {x : Int32} (hd : Dc μ pc (.i2b) 1 pc2)  (k : E μ d Z pc2 lv (.int x.toInt8.toInt32 :: st) σ) : E μ d Z pc lv (.int x :: st) σ := by
  obtain ⟨hd, rfl⟩ := hd
  intro p l e R s m args below meth c D dA ad Q X F H locs ls hP hS hl
  obtain ⟨hx, hb, hown, hts, hK, hJ, hSt, hN, hml, hlk, hR1, hR2⟩ := id X
  exact lv_i2b hx hb hd rfl (k _ _ _ _ _ _ _ _ _ _ _ _ _ _ X F H locs ls hP hS hl)
theorem e_dup {v : Value} (hd : Dc μ pc (.dup) 1 pc2) (hc : v.category = 1) (k : E μ d Z pc2 lv (v :: v :: st) σ) : E μ d Z pc lv (v :: st) σ := by
  obtain ⟨hd, rfl⟩ := hd
  intro p l e R s m args below meth c D dA ad Q X F H locs ls hP hS hl
  obtain ⟨hx, hb, hown, hts, hK, hJ, hSt, hN, hml, hlk, hR1, hR2⟩ := id X
  exact lv_dup hx hb hd (by rw [tr_cat]; exact hc) (k _ _ _ _ _ _ _ _ _ _ _ _ _ _ X F H locs ls hP hS hl)
theorem e_pop {v : Value} (hd : Dc μ pc (.pop) 1 pc2) (hc : v.category = 1) (k : E μ d Z pc2 lv (st) σ) : E μ d Z pc lv (v :: st) σ := by
  obtain ⟨hd, rfl⟩ := hd
  intro p l e R s m args below meth c D dA ad Q X F H locs ls hP hS hl
  obtain ⟨hx, hb, hown, hts, hK, hJ, hSt, hN, hml, hlk, hR1, hR2⟩ := id X
  exact lv_pop hx hb hd (by rw [tr_cat]; exact hc) (k _ _ _ _ _ _ _ _ _ _ _ _ _ _ X F H locs ls hP hS hl)
theorem e_dup2 {v w : Value} (hd : Dc μ pc (.dup2) 1 pc2) (hc : v.category = 1) (he : w.category = 1) (k : E μ d Z pc2 lv (v :: w :: v :: w :: st) σ) : E μ d Z pc lv (v :: w :: st) σ := by
  obtain ⟨hd, rfl⟩ := hd
  intro p l e R s m args below meth c D dA ad Q X F H locs ls hP hS hl
  obtain ⟨hx, hb, hown, hts, hK, hJ, hSt, hN, hml, hlk, hR1, hR2⟩ := id X
  exact lv_dup2_11 hx hb hd (by rw [tr_cat]; exact hc) (by rw [tr_cat]; exact he) (k _ _ _ _ _ _ _ _ _ _ _ _ _ _ X F H locs ls hP hS hl)
theorem e_if_eq {x : Int32} {off : Int} {tgt : Nat} {A B : Option T} {_i : Decidable (x = 0)} (hd : Dc μ pc (.ifCond .eq off) 3 pc2) (ht : (pc : Int) + off = (tgt : Int)) (h : (if x = 0 then A else B) = some r) (kt : x = 0 → A = some r → E μ d Z tgt lv st σ) (kf : ¬ (x = 0) → B = some r → E μ d Z pc2 lv st σ) : E μ d Z pc lv (.int x :: st) σ := by
  obtain ⟨hd, rfl⟩ := hd
  intro p l e R s m args below meth c D dA ad Q X F H locs ls hP hS hl
  obtain ⟨hx, hb, hown, hts, hK, hJ, hSt, hN, hml, hlk, hR1, hR2⟩ := id X
  exact lv_if_eq hx hb hd ht (fun z => kt z (by rw [if_pos z] at h; exact h) _ _ _ _ _ _ _ _ _ _ _ _ _ _ X F H locs ls hP hS hl) (fun z => kf z (by rw [if_neg z] at h; exact h) _ _ _ _ _ _ _ _ _ _ _ _ _ _ X F H locs ls hP hS hl)
theorem e_if_ne {x : Int32} {off : Int} {tgt : Nat} {A B : Option T} {_i : Decidable (x = 0)} (hd : Dc μ pc (.ifCond .ne off) 3 pc2) (ht : (pc : Int) + off = (tgt : Int)) (h : (if x = 0 then A else B) = some r) (kt : x = 0 → A = some r → E μ d Z pc2 lv st σ) (kf : ¬ (x = 0) → B = some r → E μ d Z tgt lv st σ) : E μ d Z pc lv (.int x :: st) σ := by
  obtain ⟨hd, rfl⟩ := hd
  intro p l e R s m args below meth c D dA ad Q X F H locs ls hP hS hl
  obtain ⟨hx, hb, hown, hts, hK, hJ, hSt, hN, hml, hlk, hR1, hR2⟩ := id X
  exact lv_if_ne hx hb hd ht (fun z => kf z (by rw [if_neg z] at h; exact h) _ _ _ _ _ _ _ _ _ _ _ _ _ _ X F H locs ls hP hS hl) (fun z => kt z (by rw [if_pos z] at h; exact h) _ _ _ _ _ _ _ _ _ _ _ _ _ _ X F H locs ls hP hS hl)
theorem e_icmp_eq {x y : Int32} {off : Int} {tgt : Nat} {A B : Option T} {_i : Decidable (x = y)} (hd : Dc μ pc (.if_icmp .eq off) 3 pc2) (ht : (pc : Int) + off = (tgt : Int)) (h : (if x = y then A else B) = some r) (kt : x = y → A = some r → E μ d Z tgt lv st σ) (kf : ¬ (x = y) → B = some r → E μ d Z pc2 lv st σ) : E μ d Z pc lv (.int y :: .int x :: st) σ := by
  obtain ⟨hd, rfl⟩ := hd
  intro p l e R s m args below meth c D dA ad Q X F H locs ls hP hS hl
  obtain ⟨hx, hb, hown, hts, hK, hJ, hSt, hN, hml, hlk, hR1, hR2⟩ := id X
  exact lv_icmp_eq hx hb hd ht (fun z => kt z (by rw [if_pos z] at h; exact h) _ _ _ _ _ _ _ _ _ _ _ _ _ _ X F H locs ls hP hS hl) (fun z => kf z (by rw [if_neg z] at h; exact h) _ _ _ _ _ _ _ _ _ _ _ _ _ _ X F H locs ls hP hS hl)
theorem e_icmp_ne {x y : Int32} {off : Int} {tgt : Nat} {A B : Option T} {_i : Decidable (x = y)} (hd : Dc μ pc (.if_icmp .ne off) 3 pc2) (ht : (pc : Int) + off = (tgt : Int)) (h : (if x = y then A else B) = some r) (kt : x = y → A = some r → E μ d Z pc2 lv st σ) (kf : ¬ (x = y) → B = some r → E μ d Z tgt lv st σ) : E μ d Z pc lv (.int y :: .int x :: st) σ := by
  obtain ⟨hd, rfl⟩ := hd
  intro p l e R s m args below meth c D dA ad Q X F H locs ls hP hS hl
  obtain ⟨hx, hb, hown, hts, hK, hJ, hSt, hN, hml, hlk, hR1, hR2⟩ := id X
  exact lv_icmp_ne hx hb hd ht (fun z => kf z (by rw [if_neg z] at h; exact h) _ _ _ _ _ _ _ _ _ _ _ _ _ _ X F H locs ls hP hS hl) (fun z => kt z (by rw [if_pos z] at h; exact h) _ _ _ _ _ _ _ _ _ _ _ _ _ _ X F H locs ls hP hS hl)
theorem e_if_lt {x : Int32} {off : Int} {tgt : Nat} {A B : Option T} {_i : Decidable (x < 0)} (hd : Dc μ pc (.ifCond .lt off) 3 pc2) (ht : (pc : Int) + off = (tgt : Int)) (h : (if x < 0 then A else B) = some r) (kt : x < 0 → A = some r → E μ d Z tgt lv st σ) (kf : ¬ (x < 0) → B = some r → E μ d Z pc2 lv st σ) : E μ d Z pc lv (.int x :: st) σ := by
  obtain ⟨hd, rfl⟩ := hd
  intro p l e R s m args below meth c D dA ad Q X F H locs ls hP hS hl
  obtain ⟨hx, hb, hown, hts, hK, hJ, hSt, hN, hml, hlk, hR1, hR2⟩ := id X
  exact lv_if_lt hx hb hd ht (fun z => kt z (by rw [if_pos z] at h; exact h) _ _ _ _ _ _ _ _ _ _ _ _ _ _ X F H locs ls hP hS hl) (fun z => kf z (by rw [if_neg z] at h; exact h) _ _ _ _ _ _ _ _ _ _ _ _ _ _ X F H locs ls hP hS hl)
theorem e_if_ge {x : Int32} {off : Int} {tgt : Nat} {A B : Option T} {_i : Decidable (0 ≤ x)} (hd : Dc μ pc (.ifCond .ge off) 3 pc2) (ht : (pc : Int) + off = (tgt : Int)) (h : (if 0 ≤ x then A else B) = some r) (kt : 0 ≤ x → A = some r → E μ d Z tgt lv st σ) (kf : ¬ (0 ≤ x) → B = some r → E μ d Z pc2 lv st σ) : E μ d Z pc lv (.int x :: st) σ := by
  obtain ⟨hd, rfl⟩ := hd
  intro p l e R s m args below meth c D dA ad Q X F H locs ls hP hS hl
  obtain ⟨hx, hb, hown, hts, hK, hJ, hSt, hN, hml, hlk, hR1, hR2⟩ := id X
  exact lv_if_ge hx hb hd ht (fun z => kt z (by rw [if_pos z] at h; exact h) _ _ _ _ _ _ _ _ _ _ _ _ _ _ X F H locs ls hP hS hl) (fun z => kf z (by rw [if_neg z] at h; exact h) _ _ _ _ _ _ _ _ _ _ _ _ _ _ X F H locs ls hP hS hl)
theorem e_if_gt {x : Int32} {off : Int} {tgt : Nat} {A B : Option T} {_i : Decidable (0 < x)} (hd : Dc μ pc (.ifCond .gt off) 3 pc2) (ht : (pc : Int) + off = (tgt : Int)) (h : (if 0 < x then A else B) = some r) (kt : 0 < x → A = some r → E μ d Z tgt lv st σ) (kf : ¬ (0 < x) → B = some r → E μ d Z pc2 lv st σ) : E μ d Z pc lv (.int x :: st) σ := by
  obtain ⟨hd, rfl⟩ := hd
  intro p l e R s m args below meth c D dA ad Q X F H locs ls hP hS hl
  obtain ⟨hx, hb, hown, hts, hK, hJ, hSt, hN, hml, hlk, hR1, hR2⟩ := id X
  exact lv_if_gt hx hb hd ht (fun z => kt z (by rw [if_pos z] at h; exact h) _ _ _ _ _ _ _ _ _ _ _ _ _ _ X F H locs ls hP hS hl) (fun z => kf z (by rw [if_neg z] at h; exact h) _ _ _ _ _ _ _ _ _ _ _ _ _ _ X F H locs ls hP hS hl)
theorem e_if_le {x : Int32} {off : Int} {tgt : Nat} {A B : Option T} {_i : Decidable (x ≤ 0)} (hd : Dc μ pc (.ifCond .le off) 3 pc2) (ht : (pc : Int) + off = (tgt : Int)) (h : (if x ≤ 0 then A else B) = some r) (kt : x ≤ 0 → A = some r → E μ d Z tgt lv st σ) (kf : ¬ (x ≤ 0) → B = some r → E μ d Z pc2 lv st σ) : E μ d Z pc lv (.int x :: st) σ := by
  obtain ⟨hd, rfl⟩ := hd
  intro p l e R s m args below meth c D dA ad Q X F H locs ls hP hS hl
  obtain ⟨hx, hb, hown, hts, hK, hJ, hSt, hN, hml, hlk, hR1, hR2⟩ := id X
  exact lv_if_le hx hb hd ht (fun z => kt z (by rw [if_pos z] at h; exact h) _ _ _ _ _ _ _ _ _ _ _ _ _ _ X F H locs ls hP hS hl) (fun z => kf z (by rw [if_neg z] at h; exact h) _ _ _ _ _ _ _ _ _ _ _ _ _ _ X F H locs ls hP hS hl)
theorem e_icmp_lt {x y : Int32} {off : Int} {tgt : Nat} {A B : Option T} {_i : Decidable (x < y)} (hd : Dc μ pc (.if_icmp .lt off) 3 pc2) (ht : (pc : Int) + off = (tgt : Int)) (h : (if x < y then A else B) = some r) (kt : x < y → A = some r → E μ d Z tgt lv st σ) (kf : ¬ (x < y) → B = some r → E μ d Z pc2 lv st σ) : E μ d Z pc lv (.int y :: .int x :: st) σ := by
  obtain ⟨hd, rfl⟩ := hd
  intro p l e R s m args below meth c D dA ad Q X F H locs ls hP hS hl
  obtain ⟨hx, hb, hown, hts, hK, hJ, hSt, hN, hml, hlk, hR1, hR2⟩ := id X
  exact lv_icmp_lt hx hb hd ht (fun z => kt z (by rw [if_pos z] at h; exact h) _ _ _ _ _ _ _ _ _ _ _ _ _ _ X F H locs ls hP hS hl) (fun z => kf z (by rw [if_neg z] at h; exact h) _ _ _ _ _ _ _ _ _ _ _ _ _ _ X F H locs ls hP hS hl)
theorem e_icmp_ge {x y : Int32} {off : Int} {tgt : Nat} {A B : Option T} {_i : Decidable (y ≤ x)} (hd : Dc μ pc (.if_icmp .ge off) 3 pc2) (ht : (pc : Int) + off = (tgt : Int)) (h : (if y ≤ x then A else B) = some r) (kt : y ≤ x → A = some r → E μ d Z tgt lv st σ) (kf : ¬ (y ≤ x) → B = some r → E μ d Z pc2 lv st σ) : E μ d Z pc lv (.int y :: .int x :: st) σ := by
  obtain ⟨hd, rfl⟩ := hd
  intro p l e R s m args below meth c D dA ad Q X F H locs ls hP hS hl
  obtain ⟨hx, hb, hown, hts, hK, hJ, hSt, hN, hml, hlk, hR1, hR2⟩ := id X
  exact lv_icmp_ge hx hb hd ht (fun z => kt z (by rw [if_pos z] at h; exact h) _ _ _ _ _ _ _ _ _ _ _ _ _ _ X F H locs ls hP hS hl) (fun z => kf z (by rw [if_neg z] at h; exact h) _ _ _ _ _ _ _ _ _ _ _ _ _ _ X F H locs ls hP hS hl)
theorem e_icmp_gt {x y : Int32} {off : Int} {tgt : Nat} {A B : Option T} {_i : Decidable (y < x)} (hd : Dc μ pc (.if_icmp .gt off) 3 pc2) (ht : (pc : Int) + off = (tgt : Int)) (h : (if y < x then A else B) = some r) (kt : y < x → A = some r → E μ d Z tgt lv st σ) (kf : ¬ (y < x) → B = some r → E μ d Z pc2 lv st σ) : E μ d Z pc lv (.int y :: .int x :: st) σ := by
  obtain ⟨hd, rfl⟩ := hd
  intro p l e R s m args below meth c D dA ad Q X F H locs ls hP hS hl
  obtain ⟨hx, hb, hown, hts, hK, hJ, hSt, hN, hml, hlk, hR1, hR2⟩ := id X
  exact lv_icmp_gt hx hb hd ht (fun z => kt z (by rw [if_pos z] at h; exact h) _ _ _ _ _ _ _ _ _ _ _ _ _ _ X F H locs ls hP hS hl) (fun z => kf z (by rw [if_neg z] at h; exact h) _ _ _ _ _ _ _ _ _ _ _ _ _ _ X F H locs ls hP hS hl)
theorem e_icmp_le {x y : Int32} {off : Int} {tgt : Nat} {A B : Option T} {_i : Decidable (x ≤ y)} (hd : Dc μ pc (.if_icmp .le off) 3 pc2) (ht : (pc : Int) + off = (tgt : Int)) (h : (if x ≤ y then A else B) = some r) (kt : x ≤ y → A = some r → E μ d Z tgt lv st σ) (kf : ¬ (x ≤ y) → B = some r → E μ d Z pc2 lv st σ) : E μ d Z pc lv (.int y :: .int x :: st) σ := by
  obtain ⟨hd, rfl⟩ := hd
  intro p l e R s m args below meth c D dA ad Q X F H locs ls hP hS hl
  obtain ⟨hx, hb, hown, hts, hK, hJ, hSt, hN, hml, hlk, hR1, hR2⟩ := id X
  exact lv_icmp_le hx hb hd ht (fun z => kt z (by rw [if_pos z] at h; exact h) _ _ _ _ _ _ _ _ _ _ _ _ _ _ X F H locs ls hP hS hl) (fun z => kf z (by rw [if_neg z] at h; exact h) _ _ _ _ _ _ _ _ _ _ _ _ _ _ X F H locs ls hP hS hl)
theorem e_goto {off : Int} {tgt : Nat} (hd : Dc μ pc (.goto off) 3 pc2) (ht : (pc : Int) + off = (tgt : Int)) (k : E μ d Z tgt lv st σ) : E μ d Z pc lv st σ := by
  obtain ⟨hd, rfl⟩ := hd
  intro p l e R s m args below meth c D dA ad Q X F H locs ls hP hS hl
  obtain ⟨hx, hb, hown, hts, hK, hJ, hSt, hN, hml, hlk, hR1, hR2⟩ := id X
  exact lv_goto hx hb hd ht (k _ _ _ _ _ _ _ _ _ _ _ _ _ _ X F H locs ls hP hS hl)
theorem e_ite {c : Prop} {_i : Decidable c} {A B : Option T} {G : Prop} (h : (if c then A else B) = some r) (kt : c → A = some r → G) (kf : ¬ c → B = some r → G) : G := by
  by_cases z : c
  · rw [if_pos z] at h; exact kt z h
  · rw [if_neg z] at h; exact kf z h
theorem e_tswo {df lo hi : Int} {offs : Array Int} {len : Nat} {x : Int32} {tgt : Nat} (hd : Dc μ pc (.tableswitch df lo hi offs) len pc2) (h : x.toInt < lo ∨ hi < x.toInt) (ht : (pc : Int) + df = (tgt : Int)) (k : E μ d Z tgt lv st σ) : E μ d Z pc lv (.int x :: st) σ := by
  obtain ⟨hd, rfl⟩ := hd
  intro p l e R s m args below meth c D dA ad Q X F H locs ls hP hS hl
  obtain ⟨hx, hb, hown, hts, hK, hJ, hSt, hN, hml, hlk, hR1, hR2⟩ := id X
  exact lv_tableOut hx hb hd h ht (k _ _ _ _ _ _ _ _ _ _ _ _ _ _ X F H locs ls hP hS hl)
theorem e_tswi {df lo hi : Int} {offs : Array Int} {len : Nat} {x : Int32} {off : Int} {tgt : Nat} (hd : Dc μ pc (.tableswitch df lo hi offs) len pc2) (h1 : ¬ x.toInt < lo) (h2 : ¬ hi < x.toInt) (ho : offs[(x.toInt - lo).toNat]? = some off) (ht : (pc : Int) + off = (tgt : Int)) (k : E μ d Z tgt lv st σ) : E μ d Z pc lv (.int x :: st) σ := by
  obtain ⟨hd, rfl⟩ := hd
  intro p l e R s m args below meth c D dA ad Q X F H locs ls hP hS hl
  obtain ⟨hx, hb, hown, hts, hK, hJ, hSt, hN, hml, hlk, hR1, hR2⟩ := id X
  exact lv_tableIn hx hb hd h1 h2 ho ht (k _ _ _ _ _ _ _ _ _ _ _ _ _ _ X F H locs ls hP hS hl)
theorem tsw_out {x : Int32} {lo : Int} : ∀ (n : Nat), (∀ k : Nat, k < n → ¬ x.toInt = lo + k) → x.toInt < lo ∨ lo + n - 1 < x.toInt := by
  intro n h
  rcases (by omega : x.toInt < lo ∨ lo ≤ x.toInt) with q | q
  · exact Or.inl q
  · right
    rcases (by omega : lo + n - 1 < x.toInt ∨ x.toInt ≤ lo + n - 1) with g | g
    · exact g
    · exact absurd (by omega) (h (x.toInt - lo).toNat (by omega))
theorem lvle_tr {ad : Nat → Nat} : ∀ {a b : List (Option Value)}, lvle a b → lvle (trL ad a) (trL ad b)
  | [], [], h => h
  | x :: xs, y :: ys, h => ⟨h.1.elim (fun e => Or.inl (by rw [e]; rfl)) (fun e => Or.inr (by rw [e])), lvle_tr h.2⟩
  | [], _ :: _, h => absurd h (by simp [lvle])
  | _ :: _, [], h => absurd h (by simp [lvle])
theorem e_weak {lv2 : List (Option Value)} (k : E μ d Z pc lv2 st σ) (h : lvle lv2 lv) : E μ d Z pc lv st σ := by
  intro p l e R s m args below meth c D dA ad Q X F H locs ls hP hS hl
  obtain ⟨hx, hb, hown, hts, hK, hJ, hSt, hN, hml, hlk, hR1, hR2⟩ := id X
  have h := lvle_tr (ad := ad) h
  exact (k _ _ _ _ _ _ _ _ _ _ _ _ _ _ X F H locs ls hP hS ⟨(lvle_at h).1.trans hl.1, hl.2.1, hl.2.2.1, fun j v hj => hl.2.2.2 j v ((lvle_at h).2 j v hj)⟩)
theorem e_istore_n {k : _root_.Fin 4} {x : Int32} {lv2 : List (Option Value)} (hd : Dc μ pc (.istore_n k) 1 pc2) (hn : Nat.ble (k.val + 1) lv.length = true) (hq : nlb lv k.val = true) (h2 : (lv.set k.val (some (.int x))) = lv2) (k0 : E μ d Z pc2 lv2 st σ) : E μ d Z pc lv (.int x :: st) σ := by
  subst h2
  obtain ⟨hd, rfl⟩ := hd
  intro p l e R s m args below meth c D dA ad Q X F H locs ls hP hS hl
  obtain ⟨hx, hb, hown, hts, hK, hJ, hSt, hN, hml, hlk, hR1, hR2⟩ := id X
  have hn : k.val < lv.length := Nat.le_of_ble_eq_true hn
  have hlen : (trL ad lv).length = lv.length := List.length_map ..
  have e : trL ad ((lv.set k.val (some (.int x)))) = (trL ad lv).set k.val (some (.int x)) := by simp only [List.map_set]; rfl
  exact lv_istore_n hx hb hd rfl hl.has (by have := hl.1; omega) rfl (fun ls2 h2 => k0 _ _ _ _ _ _ _ _ _ _ _ _ _ _ X F H locs ls2 hP hS (by rw [e]; exact lvs_s1 hl.1 (nlb_e hq) h2))
theorem e_istore {k : Nat} {x : Int32} {lv2 : List (Option Value)} (hd : Dc μ pc (.istore k) 2 pc2) (hn : Nat.ble (k + 1) lv.length = true) (hq : nlb lv k = true) (h2 : (lv.set k (some (.int x))) = lv2) (k0 : E μ d Z pc2 lv2 st σ) : E μ d Z pc lv (.int x :: st) σ := by
  subst h2
  obtain ⟨hd, rfl⟩ := hd
  intro p l e R s m args below meth c D dA ad Q X F H locs ls hP hS hl
  obtain ⟨hx, hb, hown, hts, hK, hJ, hSt, hN, hml, hlk, hR1, hR2⟩ := id X
  have hn : k < lv.length := Nat.le_of_ble_eq_true hn
  have hlen : (trL ad lv).length = lv.length := List.length_map ..
  have e : trL ad ((lv.set k (some (.int x)))) = (trL ad lv).set k (some (.int x)) := by simp only [List.map_set]; rfl
  exact lv_istore hx hb hd hl.has (by have := hl.1; omega) rfl (fun ls2 h2 => k0 _ _ _ _ _ _ _ _ _ _ _ _ _ _ X F H locs ls2 hP hS (by rw [e]; exact lvs_s1 hl.1 (nlb_e hq) h2))
theorem e_astore_n {k : _root_.Fin 4} {x : Nat} {lv2 : List (Option Value)} (hd : Dc μ pc (.astore_n k) 1 pc2) (hn : Nat.ble (k.val + 1) lv.length = true) (hq : nlb lv k.val = true) (h2 : (lv.set k.val (some (.ref x))) = lv2) (k0 : E μ d Z pc2 lv2 st σ) : E μ d Z pc lv (.ref x :: st) σ := by
  subst h2
  obtain ⟨hd, rfl⟩ := hd
  intro p l e R s m args below meth c D dA ad Q X F H locs ls hP hS hl
  obtain ⟨hx, hb, hown, hts, hK, hJ, hSt, hN, hml, hlk, hR1, hR2⟩ := id X
  have hn : k.val < lv.length := Nat.le_of_ble_eq_true hn
  have hlen : (trL ad lv).length = lv.length := List.length_map ..
  have e : trL ad ((lv.set k.val (some (.ref x)))) = (trL ad lv).set k.val (some (.ref (ad x))) := by simp only [List.map_set]; rfl
  exact lv_astore_n hx hb hd rfl hl.has (by have := hl.1; omega) rfl (fun ls2 h2 => k0 _ _ _ _ _ _ _ _ _ _ _ _ _ _ X F H locs ls2 hP hS (by rw [e]; exact lvs_s1 hl.1 (nlb_e hq) h2))
theorem e_astore {k : Nat} {x : Nat} {lv2 : List (Option Value)} (hd : Dc μ pc (.astore k) 2 pc2) (hn : Nat.ble (k + 1) lv.length = true) (hq : nlb lv k = true) (h2 : (lv.set k (some (.ref x))) = lv2) (k0 : E μ d Z pc2 lv2 st σ) : E μ d Z pc lv (.ref x :: st) σ := by
  subst h2
  obtain ⟨hd, rfl⟩ := hd
  intro p l e R s m args below meth c D dA ad Q X F H locs ls hP hS hl
  obtain ⟨hx, hb, hown, hts, hK, hJ, hSt, hN, hml, hlk, hR1, hR2⟩ := id X
  have hn : k < lv.length := Nat.le_of_ble_eq_true hn
  have hlen : (trL ad lv).length = lv.length := List.length_map ..
  have e : trL ad ((lv.set k (some (.ref x)))) = (trL ad lv).set k (some (.ref (ad x))) := by simp only [List.map_set]; rfl
  exact lv_astore hx hb hd hl.has (by have := hl.1; omega) rfl (fun ls2 h2 => k0 _ _ _ _ _ _ _ _ _ _ _ _ _ _ X F H locs ls2 hP hS (by rw [e]; exact lvs_s1 hl.1 (nlb_e hq) h2))
theorem e_lstore_n {k : _root_.Fin 4} {x : Int64} {lv2 : List (Option Value)} (hd : Dc μ pc (.lstore_n k) 1 pc2) (hn : Nat.ble (k.val + 1 + 1) lv.length = true) (hq : nlb lv k.val = true) (h2 : ((lv.set k.val (some (.long x))).set (k.val + 1) none) = lv2) (k0 : E μ d Z pc2 lv2 st σ) : E μ d Z pc lv (.long x :: st) σ := by
  subst h2
  obtain ⟨hd, rfl⟩ := hd
  intro p l e R s m args below meth c D dA ad Q X F H locs ls hP hS hl
  obtain ⟨hx, hb, hown, hts, hK, hJ, hSt, hN, hml, hlk, hR1, hR2⟩ := id X
  have hn : k.val + 1 < lv.length := Nat.le_of_ble_eq_true hn
  have hlen : (trL ad lv).length = lv.length := List.length_map ..
  have e : trL ad (((lv.set k.val (some (.long x))).set (k.val + 1) none)) = ((trL ad lv).set k.val (some (.long x))).set (k.val + 1) none := by simp only [List.map_set]; rfl
  exact lv_lstore_n hx hb hd rfl hl.has (by have := hl.1; omega) rfl (fun ls2 h2 => k0 _ _ _ _ _ _ _ _ _ _ _ _ _ _ X F H locs ls2 hP hS (by rw [e]; exact lvs_s2 hl.1 (nlb_e hq) h2))
theorem e_lstore {k : Nat} {x : Int64} {lv2 : List (Option Value)} (hd : Dc μ pc (.lstore k) 2 pc2) (hn : Nat.ble (k + 1 + 1) lv.length = true) (hq : nlb lv k = true) (h2 : ((lv.set k (some (.long x))).set (k + 1) none) = lv2) (k0 : E μ d Z pc2 lv2 st σ) : E μ d Z pc lv (.long x :: st) σ := by
  subst h2
  obtain ⟨hd, rfl⟩ := hd
  intro p l e R s m args below meth c D dA ad Q X F H locs ls hP hS hl
  obtain ⟨hx, hb, hown, hts, hK, hJ, hSt, hN, hml, hlk, hR1, hR2⟩ := id X
  have hn : k + 1 < lv.length := Nat.le_of_ble_eq_true hn
  have hlen : (trL ad lv).length = lv.length := List.length_map ..
  have e : trL ad (((lv.set k (some (.long x))).set (k + 1) none)) = ((trL ad lv).set k (some (.long x))).set (k + 1) none := by simp only [List.map_set]; rfl
  exact lv_lstore hx hb hd hl.has (by have := hl.1; omega) rfl (fun ls2 h2 => k0 _ _ _ _ _ _ _ _ _ _ _ _ _ _ X F H locs ls2 hP hS (by rw [e]; exact lvs_s2 hl.1 (nlb_e hq) h2))
theorem e_iinc {k : Nat} {n : Int} {x : Int32} (v y : Int32) {lv2 : List (Option Value)} (hd : Dc μ pc (.iinc k n) 3 pc2) (hx0 : lv[k]? = some (some (.int x))) (hq : nlb lv k = true) (hv : Int32.ofInt n = v) (hy : x + v = y) (h2 : lv.set k (some (.int y)) = lv2) (k0 : E μ d Z pc2 lv2 st σ) : E μ d Z pc lv st σ := by
  subst h2 hv hy
  obtain ⟨hd, rfl⟩ := hd
  intro p l e R s m args below meth c D dA ad Q X F H locs ls hP hS hl
  obtain ⟨hx, hb, hown, hts, hK, hJ, hSt, hN, hml, hlk, hR1, hR2⟩ := id X
  have hn : k < lv.length := (List.getElem?_eq_some_iff.mp hx0).1
  have hlen : (trL ad lv).length = lv.length := List.length_map ..
  have e : trL ad (lv.set k (some (.int (x + Int32.ofInt n)))) = (trL ad lv).set k (some (.int (x + Int32.ofInt n))) := by simp only [List.map_set]; rfl
  obtain ⟨q, hq2⟩ := List.getElem?_of_mem (asc_mem.mpr (trL_at (ad := ad) hx0))
  exact lv_iinc hx hb hd hl.has hq2 rfl (by have := hl.1; omega) rfl (fun ls2 h2 => k0 _ _ _ _ _ _ _ _ _ _ _ _ _ _ X F H locs ls2 hP hS (by rw [e]; exact lvs_s1 hl.1 (nlb_e hq) h2))
theorem e_geti {a k ci idx : Nat} {K : Int32 → Option T} (hd : Dc μ pc (.getfield idx) 3 pc2) (hf : Fl μ.1.cls idx ci k) (hs : sh a = ci) (ht : kd ci k = 0) (h : vl (σ.1 a k) K = some r) (k0 : ∀ v, K v = some r → E μ d Z pc2 lv (.int v :: st) σ) : E μ d Z pc lv (.ref a :: st) σ := by
  obtain ⟨C, T', N, hc, hk, hlay, hlink⟩ := hf
  replace k0 := k0 _ h
  obtain ⟨hd, rfl⟩ := hd
  intro p l e R s m args below meth c D dA ad Q X F H locs ls hP hS hl
  obtain ⟨hx, hb, hown, hts, hK, hJ, hSt, hN, hml, hlk, hR1, hR2⟩ := id X
  exact va_get hx hb hts hlay hown hK hP a (ent_at hs (ci_lt hc)) hc k hk (hts _ hlink) (fun _ h => h) (fvs_get (t := 0) (by rw [hs]; exact ht) (by decide)) hd (k0 _ _ _ _ _ _ _ _ _ _ _ _ _ _ X F H locs ls hP hS hl)
theorem e_getl {a k ci idx : Nat} {K : Int64 → Option T} (hd : Dc μ pc (.getfield idx) 3 pc2) (hf : Fl μ.1.cls idx ci k) (hs : sh a = ci) (ht : kd ci k = 1) (h : vl (σ.2 a k) K = some r) (k0 : ∀ v, K v = some r → E μ d Z pc2 lv (.long v :: st) σ) : E μ d Z pc lv (.ref a :: st) σ := by
  obtain ⟨C, T', N, hc, hk, hlay, hlink⟩ := hf
  replace k0 := k0 _ h
  obtain ⟨hd, rfl⟩ := hd
  intro p l e R s m args below meth c D dA ad Q X F H locs ls hP hS hl
  obtain ⟨hx, hb, hown, hts, hK, hJ, hSt, hN, hml, hlk, hR1, hR2⟩ := id X
  exact va_get hx hb hts hlay hown hK hP a (ent_at hs (ci_lt hc)) hc k hk (hts _ hlink) (fun _ h => h) (fvs_get (t := 1) (by rw [hs]; exact ht) (by decide)) hd (k0 _ _ _ _ _ _ _ _ _ _ _ _ _ _ X F H locs ls hP hS hl)
theorem e_getr {a k ci idx : Nat} (q : Nat) (hd : Dc μ pc (.getfield idx) 3 pc2) (hf : Fl μ.1.cls idx ci k) (hs : sh a = ci) (ht : kd ci k = 2) (hq : rr a k = q) (k0 : E μ d Z pc2 lv (.ref q :: st) σ) : E μ d Z pc lv (.ref a :: st) σ := by
  obtain ⟨C, T', N, hc, hk, hlay, hlink⟩ := hf
  subst hq
  obtain ⟨hd, rfl⟩ := hd
  intro p l e R s m args below meth c D dA ad Q X F H locs ls hP hS hl
  obtain ⟨hx, hb, hown, hts, hK, hJ, hSt, hN, hml, hlk, hR1, hR2⟩ := id X
  exact va_get hx hb hts hlay hown hK hP a (ent_at hs (ci_lt hc)) hc k hk (hts _ hlink) (fun _ h => h) (fvs_get (t := 2) (by rw [hs]; exact ht) (by decide)) hd (k0 _ _ _ _ _ _ _ _ _ _ _ _ _ _ X F H locs ls hP hS hl)
theorem e_puti {a k ci idx : Nat} {x : Int32} {K : St → Option T} (hd : Dc μ pc (.putfield idx) 3 pc2) (hf : Fp μ.1.cls idx ci k .int) (hs : sh a = ci) (ht : kd ci k = 0) (h : vl (sI σ a k x) K = some r) (k0 : ∀ τ, K τ = some r → E μ d Z pc2 lv st τ) : E μ d Z pc lv (.int x :: .ref a :: st) σ := by
  obtain ⟨C, T', N, ty0, hc, hk, hlay, hlink, hty, hnm, hfin, hpd, hN9⟩ := hf
  replace k0 := k0 _ h
  obtain ⟨hd, rfl⟩ := hd
  intro p l e R s m args below meth c D dA ad Q X F H locs ls hP hS hl
  obtain ⟨hx, hb, hown, hts, hK, hJ, hSt, hN, hml, hlk, hR1, hR2⟩ := id X
  refine va_put hx hb hts hlay ty0 hty hnm hown hK hP (wld_D hJ) hS a (ent_at hs (ci_lt hc)) hc k hk (hts _ hlink) (fun _ h => h) hfin hpd (v := .int x) rfl rfl (by subst hs; rw [fvs, List.length_map, List.length_range, ← hN9]; exact hk) hd (fun H1 locs1 hP1 hD1 hS1 => ?_)
  rw [put_i hs (ci_lt hc) ht] at hP1
  exact (k0 _ _ _ _ _ _ _ _ _ _ _ _ _ _ X F H1 locs1 ls hP1 hS1 hl)
theorem e_putl {a k ci idx : Nat} {x : Int64} {K : St → Option T} (hd : Dc μ pc (.putfield idx) 3 pc2) (hf : Fp μ.1.cls idx ci k .long) (hs : sh a = ci) (ht : kd ci k = 1) (h : vl (sL σ a k x) K = some r) (k0 : ∀ τ, K τ = some r → E μ d Z pc2 lv st τ) : E μ d Z pc lv (.long x :: .ref a :: st) σ := by
  obtain ⟨C, T', N, ty0, hc, hk, hlay, hlink, hty, hnm, hfin, hpd, hN9⟩ := hf
  replace k0 := k0 _ h
  obtain ⟨hd, rfl⟩ := hd
  intro p l e R s m args below meth c D dA ad Q X F H locs ls hP hS hl
  obtain ⟨hx, hb, hown, hts, hK, hJ, hSt, hN, hml, hlk, hR1, hR2⟩ := id X
  refine va_put hx hb hts hlay ty0 hty hnm hown hK hP (wld_D hJ) hS a (ent_at hs (ci_lt hc)) hc k hk (hts _ hlink) (fun _ h => h) hfin hpd (v := .long x) rfl rfl (by subst hs; rw [fvs, List.length_map, List.length_range, ← hN9]; exact hk) hd (fun H1 locs1 hP1 hD1 hS1 => ?_)
  rw [put_l hs (ci_lt hc) ht] at hP1
  exact (k0 _ _ _ _ _ _ _ _ _ _ _ _ _ _ X F H1 locs1 ls hP1 hS1 hl)
theorem e_putz {a k ci idx : Nat} {x : Int32} {K : St → Option T} (hd : Dc μ pc (.putfield idx) 3 pc2) (hf : Fp μ.1.cls idx ci k .boolean) (hs : sh a = ci) (ht : kd ci k = 0) (hx01 : x = 0 ∨ x = 1) (h : vl (sI σ a k x) K = some r) (k0 : ∀ τ, K τ = some r → E μ d Z pc2 lv st τ) : E μ d Z pc lv (.int x :: .ref a :: st) σ := by
  obtain ⟨C, T', N, ty0, hc, hk, hlay, hlink, hty, hnm, hfin, hpd, hN9⟩ := hf
  replace k0 := k0 _ h
  obtain ⟨hd, rfl⟩ := hd
  intro p l e R s m args below meth c D dA ad Q X F H locs ls hP hS hl
  obtain ⟨hx, hb, hown, hts, hK, hJ, hSt, hN, hml, hlk, hR1, hR2⟩ := id X
  refine va_put hx hb hts hlay ty0 hty hnm hown hK hP (wld_D hJ) hS a (ent_at hs (ci_lt hc)) hc k hk (hts _ hlink) (fun _ h => h) hfin hpd (v := .int x) (by rcases hx01 with e | e <;> rw [e] <;> rfl) (by rcases hx01 with e | e <;> rw [e] <;> rfl) (by subst hs; rw [fvs, List.length_map, List.length_range, ← hN9]; exact hk) hd (fun H1 locs1 hP1 hD1 hS1 => ?_)
  rw [put_i hs (ci_lt hc) ht] at hP1
  exact (k0 _ _ _ _ _ _ _ _ _ _ _ _ _ _ X F H1 locs1 ls hP1 hS1 hl)
theorem e_iald {a n : Nat} {i : Int32} {K : Int32 → Option T} (hd : Dc μ pc (.iaload) 1 pc2) (hs : sh a = 20) (hn : ln a = n) (h : ald (σ.1 a) n i K = some r) (k0 : ∀ v, K v = some r → E μ d Z pc2 lv (.int v :: st) σ) : E μ d Z pc lv (.int i :: .ref a :: st) σ := by
  subst hn
  unfold ald at h
  split at h
  · cases h
  next hin =>
  replace k0 := k0 _ h
  obtain ⟨hd, rfl⟩ := hd
  intro p l e R s m args below meth c D dA ad Q X F H locs ls hP hS hl
  obtain ⟨hx, hb, hown, hts, hK, hJ, hSt, hN, hml, hlk, hR1, hR2⟩ := id X
  exact va_iald hx hb hK hP a 0 (by rw [wld_get (sh_lt hs (by decide)), ent_i hs (by decide) (by decide)]) rfl hin hd (k0 _ _ _ _ _ _ _ _ _ _ _ _ _ _ X F H locs ls hP hS hl)
theorem e_zald {a n : Nat} {i : Int32} {K : Int32 → Option T} (hd : Dc μ pc (.baload) 1 pc2) (hs : sh a = 21) (hn : ln a = n) (h : ald (σ.1 a) n i K = some r) (k0 : ∀ v, K v = some r → E μ d Z pc2 lv (.int v :: st) σ) : E μ d Z pc lv (.int i :: .ref a :: st) σ := by
  subst hn
  unfold ald at h
  split at h
  · cases h
  next hin =>
  replace k0 := k0 _ h
  obtain ⟨hd, rfl⟩ := hd
  intro p l e R s m args below meth c D dA ad Q X F H locs ls hP hS hl
  obtain ⟨hx, hb, hown, hts, hK, hJ, hSt, hN, hml, hlk, hR1, hR2⟩ := id X
  exact va_zald hx hb hK hP a 1 (by rw [wld_get (sh_lt hs (by decide)), ent_i hs (by decide) (by decide)]) rfl hin hd (k0 _ _ _ _ _ _ _ _ _ _ _ _ _ _ X F H locs ls hP hS hl)
theorem e_bald {a n : Nat} {i : Int32} {K : Int32 → Option T} (hd : Dc μ pc (.baload) 1 pc2) (hs : sh a = 22) (hn : ln a = n) (h : ald (σ.1 a) n i K = some r) (k0 : ∀ v, K v = some r → E μ d Z pc2 lv (.int v :: st) σ) : E μ d Z pc lv (.int i :: .ref a :: st) σ := by
  subst hn
  unfold ald at h
  split at h
  · cases h
  next hin =>
  replace k0 := k0 _ h
  obtain ⟨hd, rfl⟩ := hd
  intro p l e R s m args below meth c D dA ad Q X F H locs ls hP hS hl
  obtain ⟨hx, hb, hown, hts, hK, hJ, hSt, hN, hml, hlk, hR1, hR2⟩ := id X
  exact va_bald hx hb hK hP a 2 (by rw [wld_get (sh_lt hs (by decide)), ent_i hs (by decide) (by decide)]) rfl hin hd (k0 _ _ _ _ _ _ _ _ _ _ _ _ _ _ X F H locs ls hP hS hl)
theorem e_lald {a n : Nat} {i : Int32} {K : Int64 → Option T} (hd : Dc μ pc (.laload) 1 pc2) (hs : sh a = 23) (hn : ln a = n) (h : ald (σ.2 a) n i K = some r) (k0 : ∀ v, K v = some r → E μ d Z pc2 lv (.long v :: st) σ) : E μ d Z pc lv (.int i :: .ref a :: st) σ := by
  subst hn
  unfold ald at h
  split at h
  · cases h
  next hin =>
  replace k0 := k0 _ h
  obtain ⟨hd, rfl⟩ := hd
  intro p l e R s m args below meth c D dA ad Q X F H locs ls hP hS hl
  obtain ⟨hx, hb, hown, hts, hK, hJ, hSt, hN, hml, hlk, hR1, hR2⟩ := id X
  exact va_lald hx hb hK hP a 3 (by rw [wld_get (sh_lt hs (by decide)), ent_l hs]) rfl hin hd (k0 _ _ _ _ _ _ _ _ _ _ _ _ _ _ X F H locs ls hP hS hl)
theorem e_rald24 {a n : Nat} {i : Int32} {K : Nat → Option T} (hd : Dc μ pc (.aaload) 1 pc2) (hs : sh a = 24) (hn : ln a = n) (h : ald (rr a) n i K = some r) (k0 : ∀ j, j < n → K (rr a j) = some r → E μ d Z pc2 lv (.ref (rr a j) :: st) σ) : E μ d Z pc lv (.int i :: .ref a :: st) σ := by
  subst hn
  unfold ald at h
  split at h
  · cases h
  next hin =>
  replace k0 := k0 _ (Nat.not_le.mp fun q => hin (Or.inr q)) h
  obtain ⟨hd, rfl⟩ := hd
  intro p l e R s m args below meth c D dA ad Q X F H locs ls hP hS hl
  obtain ⟨hx, hb, hown, hts, hK, hJ, hSt, hN, hml, hlk, hR1, hR2⟩ := id X
  exact va_aldq (C := "CoastLights$Light") (f := fun j => some (ad (rr a j))) hx hb hK hP a 4 (by rw [wld_get (sh_lt hs (by decide)), ent_r hs (by decide)]) rfl hin hd (k0 _ _ _ _ _ _ _ _ _ _ _ _ _ _ X F H locs ls hP hS hl)
theorem e_rald25 {a n : Nat} {i : Int32} {K : Nat → Option T} (hd : Dc μ pc (.aaload) 1 pc2) (hs : sh a = 25) (hn : ln a = n) (h : ald (rr a) n i K = some r) (k0 : ∀ j, j < n → K (rr a j) = some r → E μ d Z pc2 lv (.ref (rr a j) :: st) σ) : E μ d Z pc lv (.int i :: .ref a :: st) σ := by
  subst hn
  unfold ald at h
  split at h
  · cases h
  next hin =>
  replace k0 := k0 _ (Nat.not_le.mp fun q => hin (Or.inr q)) h
  obtain ⟨hd, rfl⟩ := hd
  intro p l e R s m args below meth c D dA ad Q X F H locs ls hP hS hl
  obtain ⟨hx, hb, hown, hts, hK, hJ, hSt, hN, hml, hlk, hR1, hR2⟩ := id X
  exact va_aldq (C := "CoastLights$Ship") (f := fun j => some (ad (rr a j))) hx hb hK hP a 5 (by rw [wld_get (sh_lt hs (by decide)), ent_r hs (by decide)]) rfl hin hd (k0 _ _ _ _ _ _ _ _ _ _ _ _ _ _ X F H locs ls hP hS hl)
theorem e_rald26 {a n : Nat} {i : Int32} {K : Nat → Option T} (hd : Dc μ pc (.aaload) 1 pc2) (hs : sh a = 26) (hn : ln a = n) (h : ald (rr a) n i K = some r) (k0 : ∀ j, j < n → K (rr a j) = some r → E μ d Z pc2 lv (.ref (rr a j) :: st) σ) : E μ d Z pc lv (.int i :: .ref a :: st) σ := by
  subst hn
  unfold ald at h
  split at h
  · cases h
  next hin =>
  replace k0 := k0 _ (Nat.not_le.mp fun q => hin (Or.inr q)) h
  obtain ⟨hd, rfl⟩ := hd
  intro p l e R s m args below meth c D dA ad Q X F H locs ls hP hS hl
  obtain ⟨hx, hb, hown, hts, hK, hJ, hSt, hN, hml, hlk, hR1, hR2⟩ := id X
  exact va_aldq (C := "CoastLights$Scene") (f := fun j => some (ad (rr a j))) hx hb hK hP a 6 (by rw [wld_get (sh_lt hs (by decide)), ent_r hs (by decide)]) rfl hin hd (k0 _ _ _ _ _ _ _ _ _ _ _ _ _ _ X F H locs ls hP hS hl)
theorem e_rald27 {a n : Nat} {i : Int32} {K : Nat → Option T} (hd : Dc μ pc (.aaload) 1 pc2) (hs : sh a = 27) (hn : ln a = n) (h : ald (rr a) n i K = some r) (k0 : ∀ j, j < n → K (rr a j) = some r → E μ d Z pc2 lv (.ref (rr a j) :: st) σ) : E μ d Z pc lv (.int i :: .ref a :: st) σ := by
  subst hn
  unfold ald at h
  split at h
  · cases h
  next hin =>
  replace k0 := k0 _ (Nat.not_le.mp fun q => hin (Or.inr q)) h
  obtain ⟨hd, rfl⟩ := hd
  intro p l e R s m args below meth c D dA ad Q X F H locs ls hP hS hl
  obtain ⟨hx, hb, hown, hts, hK, hJ, hSt, hN, hml, hlk, hR1, hR2⟩ := id X
  exact va_aldq (C := "CoastLights$Image") (f := fun j => some (ad (rr a j))) hx hb hK hP a 7 (by rw [wld_get (sh_lt hs (by decide)), ent_r hs (by decide)]) rfl hin hd (k0 _ _ _ _ _ _ _ _ _ _ _ _ _ _ X F H locs ls hP hS hl)
theorem e_iast {a n : Nat} {i x : Int32} {K : St → Option T} (hd : Dc μ pc (.iastore) 1 pc2) (hs : sh a = 20) (hn : ln a = n) (h : ald (fun j => sI σ a j x) n i K = some r) (k0 : ∀ τ, K τ = some r → E μ d Z pc2 lv st τ) : E μ d Z pc lv (.int x :: .int i :: .ref a :: st) σ := by
  subst hn
  unfold ald at h
  split at h
  · cases h
  next hin =>
  replace k0 := k0 _ h
  obtain ⟨hd, rfl⟩ := hd
  intro p l e R s m args below meth c D dA ad Q X F H locs ls hP hS hl
  obtain ⟨hx, hb, hown, hts, hK, hJ, hSt, hN, hml, hlk, hR1, hR2⟩ := id X
  refine va_iast hx hb hK hP (wld_D hJ) hS a 0 (by rw [wld_get (sh_lt hs (by decide)), ent_i hs (by decide) (by decide)]) rfl hin hd (fun H1 locs1 hP1 hD1 hS1 => ?_)
  rw [ast_i hs (by decide) (by decide)] at hP1
  exact (k0 _ _ _ _ _ _ _ _ _ _ _ _ _ _ X F H1 locs1 ls hP1 hS1 hl)
theorem e_zast {a n : Nat} {i x : Int32} {K : St → Option T} (hd : Dc μ pc (.bastore) 1 pc2) (hs : sh a = 21) (hn : ln a = n) (h : ald (fun j => sI σ a j (x &&& 1)) n i K = some r) (k0 : ∀ τ, K τ = some r → E μ d Z pc2 lv st τ) : E μ d Z pc lv (.int x :: .int i :: .ref a :: st) σ := by
  subst hn
  unfold ald at h
  split at h
  · cases h
  next hin =>
  replace k0 := k0 _ h
  obtain ⟨hd, rfl⟩ := hd
  intro p l e R s m args below meth c D dA ad Q X F H locs ls hP hS hl
  obtain ⟨hx, hb, hown, hts, hK, hJ, hSt, hN, hml, hlk, hR1, hR2⟩ := id X
  refine va_zast hx hb hK hP (wld_D hJ) hS a 1 (by rw [wld_get (sh_lt hs (by decide)), ent_i hs (by decide) (by decide)]) rfl hin hd (fun H1 locs1 hP1 hD1 hS1 => ?_)
  rw [show vp_nar .boolean x = x &&& 1 from rfl] at hP1
  rw [ast_i hs (by decide) (by decide)] at hP1
  exact (k0 _ _ _ _ _ _ _ _ _ _ _ _ _ _ X F H1 locs1 ls hP1 hS1 hl)
theorem e_bast {a n : Nat} {i x : Int32} {K : St → Option T} (hd : Dc μ pc (.bastore) 1 pc2) (hs : sh a = 22) (hn : ln a = n) (h : ald (fun j => sI σ a j x.toInt8.toInt32) n i K = some r) (k0 : ∀ τ, K τ = some r → E μ d Z pc2 lv st τ) : E μ d Z pc lv (.int x :: .int i :: .ref a :: st) σ := by
  subst hn
  unfold ald at h
  split at h
  · cases h
  next hin =>
  replace k0 := k0 _ h
  obtain ⟨hd, rfl⟩ := hd
  intro p l e R s m args below meth c D dA ad Q X F H locs ls hP hS hl
  obtain ⟨hx, hb, hown, hts, hK, hJ, hSt, hN, hml, hlk, hR1, hR2⟩ := id X
  refine va_bast hx hb hK hP (wld_D hJ) hS a 2 (by rw [wld_get (sh_lt hs (by decide)), ent_i hs (by decide) (by decide)]) rfl hin hd (fun H1 locs1 hP1 hD1 hS1 => ?_)
  rw [vp_nar_byte] at hP1
  rw [ast_i hs (by decide) (by decide)] at hP1
  exact (k0 _ _ _ _ _ _ _ _ _ _ _ _ _ _ X F H1 locs1 ls hP1 hS1 hl)
theorem e_last {a n : Nat} {i : Int32} {x : Int64} {K : St → Option T} (hd : Dc μ pc (.lastore) 1 pc2) (hs : sh a = 23) (hn : ln a = n) (h : ald (fun j => sL σ a j x) n i K = some r) (k0 : ∀ τ, K τ = some r → E μ d Z pc2 lv st τ) : E μ d Z pc lv (.long x :: .int i :: .ref a :: st) σ := by
  subst hn
  unfold ald at h
  split at h
  · cases h
  next hin =>
  replace k0 := k0 _ h
  obtain ⟨hd, rfl⟩ := hd
  intro p l e R s m args below meth c D dA ad Q X F H locs ls hP hS hl
  obtain ⟨hx, hb, hown, hts, hK, hJ, hSt, hN, hml, hlk, hR1, hR2⟩ := id X
  refine va_last hx hb hK hP (wld_D hJ) hS a 3 (by rw [wld_get (sh_lt hs (by decide)), ent_l hs]) rfl hin hd (fun H1 locs1 hP1 hD1 hS1 => ?_)
  rw [ast_l hs] at hP1
  exact (k0 _ _ _ _ _ _ _ _ _ _ _ _ _ _ X F H1 locs1 ls hP1 hS1 hl)
theorem e_alen {a n : Nat} (hd : Dc μ pc (.arraylength) 1 pc2) (hs : sh a = 20) (hn : ln a = n) (k0 : E μ d Z pc2 lv (.int (nI n) :: st) σ) : E μ d Z pc lv (.ref a :: st) σ := by
  subst hn
  obtain ⟨hd, rfl⟩ := hd
  intro p l e R s m args below meth c D dA ad Q X F H locs ls hP hS hl
  obtain ⟨hx, hb, hown, hts, hK, hJ, hSt, hN, hml, hlk, hR1, hR2⟩ := id X
  exact va_alen (x := (ln a, .inl (σ.1 a))) hx hb hK hP a 0 (by rw [wld_get (sh_lt hs (by decide)), ent_i hs (by decide) (by decide)]) rfl rfl hd (k0 _ _ _ _ _ _ _ _ _ _ _ _ _ _ X F H locs ls hP hS hl)
theorem e_cpi {a b n idx : Nat} {K : St → Option T} (hd : Dc μ pc (.invokestatic idx) 3 pc2) (hw : Cond.methodLink μ.1.cls idx arraycopyName ∈ tb ∧ Cond.native arraycopyName ∈ tb ∧ Cond.static arraycopyName ∈ tb ∧ Cond.initialized "java/lang/System" ∈ tb) (hd3 : 3 ≤ d) (hst : Nat.ble ((st.map Value.category).sum) 8 = true) (hs : sh a = 20) (hs2 : sh b = 20) (hn : n ≤ ln a) (hn2 : n ≤ ln b) (hn31 : n < 2 ^ 31) (h : cpi σ a b n K = some r) (k0 : ∀ τ, K τ = some r → E μ d Z pc2 lv st τ) : E μ d Z pc lv (.int (nI n) :: .int (nI 0) :: .ref b :: .int (nI 0) :: .ref a :: st) σ := by
  unfold cpi at h
  split at h
  · cases h
  next hab =>
  replace k0 := k0 _ h
  obtain ⟨hd, rfl⟩ := hd
  intro p l e R s m args below meth c D dA ad Q X F H locs ls hP hS hl
  obtain ⟨hx, hb, hown, hts, hK, hJ, hSt, hN, hml, hlk, hR1, hR2⟩ := id X
  have hst2 : ((st.map (tr ad)).map fun v => v.category).sum ≤ 8 := by rw [tr_cats]; exact Nat.le_of_ble_eq_true hst
  have hz : (nI 0).toNatClampNeg = 0 := rfl
  have hnn : (nI n).toNatClampNeg = n := nI_clamp hn31
  have hfit9 : ∀ i, i < (nI n).toNatClampNeg → fits .int (.int (σ.1 a ((nI 0).toNatClampNeg + i))) = true := fun i hi => rfl
  have hnf : nativeFrameWords "java/lang/System" "arraycopy" 5 ≤ 80 := by decide +kernel
  refine va_copyi (sp := nI 0) (dp := nI 0) (n := nI n) hx hb (by rw [hml]; exact hl.2.1.symm) hown (hts _ hw.1) (hts _ hw.2.1) (hts _ hw.2.2.1) (hts _ hw.2.2.2) hK hP (wld_D hJ) hS a b 0 0 (by rw [wld_get (sh_lt hs (by decide)), ent_i hs (by decide) (by decide)]) (by rw [wld_get (sh_lt hs2 (by decide)), ent_i hs2 (by decide) (by decide)]) rfl rfl rfl (nI_pos (by decide)) (nI_pos (by decide)) (nI_pos hn31) (by rw [hz, hnn]; omega) (by rw [hz, hnn]; omega) hfit9 (by omega) (by omega) hd (fun H1 locs1 hP1 hD1 hS1 => ?_)
  rw [hz, hnn, acp_i hs2 (by decide) (by decide)] at hP1
  exact (k0 _ _ _ _ _ _ _ _ _ _ _ _ _ _ X F H1 locs1 ls hP1 hS1 hl)
theorem e_cpz {a b n idx : Nat} {K : St → Option T} (hd : Dc μ pc (.invokestatic idx) 3 pc2) (hw : Cond.methodLink μ.1.cls idx arraycopyName ∈ tb ∧ Cond.native arraycopyName ∈ tb ∧ Cond.static arraycopyName ∈ tb ∧ Cond.initialized "java/lang/System" ∈ tb) (hd3 : 3 ≤ d) (hst : Nat.ble ((st.map Value.category).sum) 8 = true) (hs : sh a = 21) (hs2 : sh b = 21) (hn : n ≤ ln a) (hn2 : n ≤ ln b) (hn31 : n < 2 ^ 31) (h : cpz σ a b n K = some r) (k0 : ∀ τ, K τ = some r → E μ d Z pc2 lv st τ) : E μ d Z pc lv (.int (nI n) :: .int (nI 0) :: .ref b :: .int (nI 0) :: .ref a :: st) σ := by
  unfold cpz at h
  split at h
  · cases h
  next hab =>
  by_cases hall : (List.range n).all (fun i => σ.1 a i == 0 || σ.1 a i == 1) = true
  rotate_left
  · rw [if_neg hall] at h; cases h
  rw [if_pos hall] at h
  replace k0 := k0 _ h
  obtain ⟨hd, rfl⟩ := hd
  intro p l e R s m args below meth c D dA ad Q X F H locs ls hP hS hl
  obtain ⟨hx, hb, hown, hts, hK, hJ, hSt, hN, hml, hlk, hR1, hR2⟩ := id X
  have hst2 : ((st.map (tr ad)).map fun v => v.category).sum ≤ 8 := by rw [tr_cats]; exact Nat.le_of_ble_eq_true hst
  have hz : (nI 0).toNatClampNeg = 0 := rfl
  have hnn : (nI n).toNatClampNeg = n := nI_clamp hn31
  have hfit9 : ∀ i, i < (nI n).toNatClampNeg → fits .boolean (.int (σ.1 a ((nI 0).toNatClampNeg + i))) = true := fun i hi => by
    have hq := List.all_eq_true.mp hall i (List.mem_range.mpr (by rw [hnn] at hi; exact hi))
    simp only [Bool.or_eq_true, beq_iff_eq] at hq
    rw [hz, Nat.zero_add]
    rcases hq with e | e <;> rw [e] <;> rfl
  have hnf : nativeFrameWords "java/lang/System" "arraycopy" 5 ≤ 80 := by decide +kernel
  refine va_copyi (sp := nI 0) (dp := nI 0) (n := nI n) hx hb (by rw [hml]; exact hl.2.1.symm) hown (hts _ hw.1) (hts _ hw.2.1) (hts _ hw.2.2.1) (hts _ hw.2.2.2) hK hP (wld_D hJ) hS a b 1 1 (by rw [wld_get (sh_lt hs (by decide)), ent_i hs (by decide) (by decide)]) (by rw [wld_get (sh_lt hs2 (by decide)), ent_i hs2 (by decide) (by decide)]) rfl rfl rfl (nI_pos (by decide)) (nI_pos (by decide)) (nI_pos hn31) (by rw [hz, hnn]; omega) (by rw [hz, hnn]; omega) hfit9 (by omega) (by omega) hd (fun H1 locs1 hP1 hD1 hS1 => ?_)
  rw [hz, hnn, acp_i hs2 (by decide) (by decide)] at hP1
  exact (k0 _ _ _ _ _ _ _ _ _ _ _ _ _ _ X F H1 locs1 ls hP1 hS1 hl)
theorem e_getsw {i idx : Nat} (hd : Dc μ pc (.getstatic idx) 3 pc2) (hi : i < 27) (hw : Cond.fieldLink μ.1.cls idx "CoastLights$Word" (wnm i) "LCoastLights$Word;" ∈ tb) (k : E μ d Z pc2 lv (.ref (1000 + i) :: st) σ) : E μ d Z pc lv st σ := by
  obtain ⟨hd, rfl⟩ := hd
  intro p l e R s m args below meth c D dA ad Q X F H locs ls hP hS hl
  obtain ⟨hx, hb, hown, hts, hK, hJ, hSt, hN, hml, hlk, hR1, hR2⟩ := id X
  exact va_gets hx hb (hSt.1 i hi).1 hS hown (hts _ hw) (fun _ h => h) hd (k _ _ _ _ _ _ _ _ _ _ _ _ _ _ X F H locs ls hP hS hl)
theorem e_getsa {idx : Nat} (hd : Dc μ pc (.getstatic idx) 3 pc2) (hw : Cond.fieldLink μ.1.cls idx "CoastLights$Word" "ALL" "[LCoastLights$Word;" ∈ tb) (k : E μ d Z pc2 lv (.ref 1027 :: st) σ) : E μ d Z pc lv st σ := by
  obtain ⟨hd, rfl⟩ := hd
  intro p l e R s m args below meth c D dA ad Q X F H locs ls hP hS hl
  obtain ⟨hx, hb, hown, hts, hK, hJ, hSt, hN, hml, hlk, hR1, hR2⟩ := id X
  exact va_gets hx hb hSt.2.1 hS hown (hts _ hw) (fun _ h => h) hd (k _ _ _ _ _ _ _ _ _ _ _ _ _ _ X F H locs ls hP hS hl)
theorem e_getsx {idx : Nat} {host : String} (hd : Dc μ pc (.getstatic idx) 3 pc2) (hw : Cond.fieldLinkNest μ.1.cls idx "CoastLights" "STEP_X" "[I" host ∈ nestL) (k : E μ d Z pc2 lv (.ref 1028 :: st) σ) : E μ d Z pc lv st σ := by
  obtain ⟨hd, rfl⟩ := hd
  intro p l e R s m args below meth c D dA ad Q X F H locs ls hP hS hl
  obtain ⟨hx, hb, hown, hts, hK, hJ, hSt, hN, hml, hlk, hR1, hR2⟩ := id X
  exact va_getsN hx hb hSt.2.2.2.1 hS hown (va_Nw.use rfl (hN.1 _ hw)) (fun _ h => h) hd (k _ _ _ _ _ _ _ _ _ _ _ _ _ _ X F H locs ls hP hS hl)
theorem e_getsy {idx : Nat} {host : String} (hd : Dc μ pc (.getstatic idx) 3 pc2) (hw : Cond.fieldLinkNest μ.1.cls idx "CoastLights" "STEP_Y" "[I" host ∈ nestL) (k : E μ d Z pc2 lv (.ref 1029 :: st) σ) : E μ d Z pc lv st σ := by
  obtain ⟨hd, rfl⟩ := hd
  intro p l e R s m args below meth c D dA ad Q X F H locs ls hP hS hl
  obtain ⟨hx, hb, hown, hts, hK, hJ, hSt, hN, hml, hlk, hR1, hR2⟩ := id X
  exact va_getsN hx hb hSt.2.2.2.2.2.1 hS hown (va_Nw.use rfl (hN.1 _ hw)) (fun _ h => h) hd (k _ _ _ _ _ _ _ _ _ _ _ _ _ _ X F H locs ls hP hS hl)
end RowsE
