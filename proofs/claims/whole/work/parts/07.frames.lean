def regL : List Nat := [0, 1, 1, 2, 2, 2, 2, 2, 2, 2, 2, 2, 2, 2, 2, 2, 2, 2, 2, 2, 2, 2, 2, 2, 2, 2, 3, 3, 3, 3, 3, 3, 3, 3, 3, 3, 3, 3, 3, 3, 3, 3, 3, 3, 3, 3, 3, 3, 3, 4, 4, 4, 4, 4, 4, 5, 5, 5, 5, 5, 5, 6, 6, 6, 6, 6, 7, 7, 7, 7, 7, 8, 8, 8, 8, 9, 9, 10, 10, 10, 10, 10, 10, 11, 11, 11, 11, 11, 11, 12, 12, 12, 12, 12, 12, 13, 13, 13, 13, 13, 13, 14, 14, 14, 14, 14, 14, 15, 15, 15, 15, 15, 15, 16, 16, 16, 16, 16, 16, 17, 17, 17, 17, 17, 17, 18, 18, 18, 18, 18, 18, 19, 0, 0, 0, 0, 20, 20, 20, 20, 20, 20, 20, 20, 20, 20, 20, 20, 20, 20, 20, 20, 20, 20, 20, 20, 20, 20, 20, 20, 20, 20, 20, 20, 20, 20, 20, 20, 20, 20, 20, 21, 21, 21, 21, 21, 21, 21, 21, 21, 21, 21, 21, 21, 21, 21, 21, 21, 21, 21, 21, 21, 21, 21, 21, 21, 21, 21, 21, 21, 21, 21, 21, 21, 21, 21, 206, 207, 208, 209, 210, 211, 212, 213, 214, 215, 216, 217, 218, 219, 220, 221, 222, 223, 224, 225]
def reg (i : Nat) : Nat := regL.getD i 999
def Fr (R : List Nat) (σ τ : St) : Prop := ∀ j, reg j ∉ R → σ.1 j = τ.1 j ∧ σ.2 j = τ.2 j
theorem Fr.rf {R : List Nat} {σ : St} : Fr R σ σ := fun _ _ => ⟨rfl, rfl⟩
theorem Fr.trans {R : List Nat} {σ τ υ : St} (h : Fr R σ τ) (g : Fr R τ υ) : Fr R σ υ := fun j hj => ⟨(h j hj).1.trans (g j hj).1, (h j hj).2.trans (g j hj).2⟩
theorem Fr.mono {R R' : List Nat} {σ τ : St} (h : Fr R σ τ) (g : ∀ x ∈ R, x ∈ R') : Fr R' σ τ := fun j hj => h j (fun q => hj (g _ q))
theorem Fr.sI {R : List Nat} {σ τ : St} {a k : Nat} {v : Int32} (h : Fr R σ τ) (ha : reg a ∈ R) : Fr R σ (sI τ a k v) := fun j hj => ⟨(h j hj).1.trans (sI_ne (fun e => hj (by rw [e]; exact ha))).symm, (h j hj).2⟩
theorem Fr.sL {R : List Nat} {σ τ : St} {a k : Nat} {v : Int64} (h : Fr R σ τ) (ha : reg a ∈ R) : Fr R σ (sL τ a k v) := fun j hj => ⟨(h j hj).1, (h j hj).2.trans (sL_ne (fun e => hj (by rw [e]; exact ha))).symm⟩
theorem Fr.sC {R : List Nat} {σ τ : St} {a b n : Nat} (h : Fr R σ τ) (ha : reg b ∈ R) : Fr R σ (sC τ a b n) := fun j hj => ⟨(h j hj).1.trans (sC_ne (fun e => hj (by rw [e]; exact ha))).symm, (h j hj).2⟩
theorem mem_lit {R l : List Nat} {w n : Nat} (e : reg w = n) (hL : ∀ x ∈ l, x ∈ R) (d : l.contains n = true) : reg w ∈ R := by rw [e]; exact hL n (List.contains_iff_mem.mp d)
theorem mem_ref {R : List Nat} {w a : Nat} (e : reg w = reg a) (h : reg a ∈ R) : reg w ∈ R := by rw [e]; exact h
theorem hLsub {R l l' : List Nat} (hL : ∀ x ∈ l, x ∈ R) (d : l'.all (fun x => l.contains x) = true) : ∀ x ∈ l', x ∈ R := fun x hx => hL x (List.contains_iff_mem.mp (List.all_eq_true.mp d x hx))
theorem mem_set {R l s : List Nat} {w : Nat} (e : reg w ∈ s) (hL : ∀ x ∈ l, x ∈ R) (d : s.all (fun x => l.contains x) = true) : reg w ∈ R := hLsub hL d _ e
theorem set_rw {s : List Nat} {w a : Nat} (e : reg w = reg a) (h : reg a ∈ s) : reg w ∈ s := by rw [e]; exact h
section FrG
variable {T : Type} {r : T} {G : Prop} {R : List Nat} {s0 : St}
theorem vl_g {α : Type} {x : α} {K : α → Option T} (h : vl x K = some r) (k : ∀ v, K v = some r → G) : G := k x h
theorem vl_s {x : St} {K : St → Option T} (h : vl x K = some r) (hF : Fr R s0 x) (k : ∀ s, Fr R s0 s → K s = some r → G) : G := k x hF h
theorem ald_i {α : Type} {f : Nat → α} {n : Nat} {i : Int32} {K : α → Option T} (h : ald f n i K = some r) (k : ∀ j, j < n → K (f j) = some r → G) : G := by
  unfold ald at h
  split at h
  · cases h
  next hin => exact k _ (Nat.not_le.mp fun q => hin (Or.inr q)) h
theorem ald_g {α : Type} {f : Nat → α} {n : Nat} {i : Int32} {K : α → Option T} (h : ald f n i K = some r) (k : ∀ v, K v = some r → G) : G := ald_i h (fun j _ h => k _ h)
theorem ald_s {f : Nat → St} {n : Nat} {i : Int32} {K : St → Option T} (h : ald f n i K = some r) (hF : ∀ j, Fr R s0 (f j)) (k : ∀ s, Fr R s0 s → K s = some r → G) : G := ald_i h (fun j _ h => k _ (hF j) h)
theorem cpi_s {σ : St} {a b n : Nat} {K : St → Option T} (h : cpi σ a b n K = some r) (hF : Fr R s0 (sC σ a b n)) (k : ∀ s, Fr R s0 s → K s = some r → G) : G := by
  unfold cpi at h
  split at h
  · cases h
  · exact k _ hF h
theorem cpz_s {σ : St} {a b n : Nat} {K : St → Option T} (h : cpz σ a b n K = some r) (hF : Fr R s0 (sC σ a b n)) (k : ∀ s, Fr R s0 s → K s = some r → G) : G := by
  unfold cpz at h
  split at h
  · cases h
  · split at h
    · exact k _ hF h
    · cases h
theorem dv_g {x y : Int32} {K : Int32 → Option T} (h : dv x y K = some r) (k : ∀ v, K v = some r → G) : G := by
  unfold dv at h
  split at h
  · cases h
  · exact k _ h
theorem rm_g {x y : Int32} {K : Int32 → Option T} (h : rm_ x y K = some r) (k : ∀ v, K v = some r → G) : G := by
  unfold rm_ at h
  split at h
  · cases h
  · exact k _ h
theorem wcd_g {a : Nat} {K : Int64 → Option T} (h : wcd a K = some r) (k : ∀ v, K v = some r → G) : G := by
  unfold wcd at h
  split at h
  · exact k _ h
  · cases h
theorem bp_g {α : Type} {x : Option α} {K : α → Option T} (h : bp x K = some r) (k : ∀ v, K v = some r → G) : G := by
  obtain ⟨v, _, h⟩ := bp_e h
  exact k v h
theorem ret_fv {s s' : St} (h : some s = some s') (hF : Fr R s0 s) : Fr R s0 s' := by cases h; exact hF
theorem ret_fi {α : Type} {x r : α} {s s' : St} (h : some (x, s) = some (r, s')) (hF : Fr R s0 s) : Fr R s0 s' := by cases h; exact hF
end FrG
theorem rgq_0 : reg 0 = 0 := by decide +kernel
theorem rgq_1 : reg 1 = 1 := by decide +kernel
theorem rgq_2 : reg 2 = 1 := by decide +kernel
theorem rgq_3 : reg 3 = 2 := by decide +kernel
theorem rgq_26 : reg 26 = 3 := by decide +kernel
theorem rgq_49 : reg 49 = 4 := by decide +kernel
theorem rgq_55 : reg 55 = 5 := by decide +kernel
theorem rgq_61 : reg 61 = 6 := by decide +kernel
theorem rgq_66 : reg 66 = 7 := by decide +kernel
theorem rgq_71 : reg 71 = 8 := by decide +kernel
theorem rgq_72 : reg 72 = 8 := by decide +kernel
theorem rgq_73 : reg 73 = 8 := by decide +kernel
theorem rgq_74 : reg 74 = 8 := by decide +kernel
theorem rgq_75 : reg 75 = 9 := by decide +kernel
theorem rgq_131 : reg 131 = 19 := by decide +kernel
theorem rgq_133 : reg 133 = 0 := by decide +kernel
theorem rgq_134 : reg 134 = 0 := by decide +kernel
theorem rgq_135 : reg 135 = 0 := by decide +kernel
theorem rgq_206 : reg 206 = 206 := by decide +kernel
theorem rgq_207 : reg 207 = 207 := by decide +kernel
theorem rgq_208 : reg 208 = 208 := by decide +kernel
theorem rgq_209 : reg 209 = 209 := by decide +kernel
theorem rgq_210 : reg 210 = 210 := by decide +kernel
theorem rgq_211 : reg 211 = 211 := by decide +kernel
theorem rgq_213 : reg 213 = 213 := by decide +kernel
theorem rgq_214 : reg 214 = 214 := by decide +kernel
theorem rgq_215 : reg 215 = 215 := by decide +kernel
theorem rgq_216 : reg 216 = 216 := by decide +kernel
theorem rgq_217 : reg 217 = 217 := by decide +kernel
theorem rgq_218 : reg 218 = 218 := by decide +kernel
theorem rgq_219 : reg 219 = 219 := by decide +kernel
theorem rgq_220 : reg 220 = 220 := by decide +kernel
theorem rgq_221 : reg 221 = 221 := by decide +kernel
theorem rgq_222 : reg 222 = 222 := by decide +kernel
theorem rgq_223 : reg 223 = 223 := by decide +kernel
theorem rgq_224 : reg 224 = 224 := by decide +kernel
theorem rgf_1_0 (a : Nat) (h : sh a = 1) : reg (rr a 0) = reg a := by
  have key : ∀ a, a < NW → sh a = 1 → reg (rr a 0) = reg a := by decide +kernel
  exact key a (sh_lt h (by decide)) h
theorem rgf_1_1 (a : Nat) (h : sh a = 1) : reg (rr a 1) = reg a := by
  have key : ∀ a, a < NW → sh a = 1 → reg (rr a 1) = reg a := by decide +kernel
  exact key a (sh_lt h (by decide)) h
theorem rgf_3_0 (a : Nat) (h : sh a = 3) : reg (rr a 0) = reg a := by
  have key : ∀ a, a < NW → sh a = 3 → reg (rr a 0) = reg a := by decide +kernel
  exact key a (sh_lt h (by decide)) h
theorem rgf_3_1 (a : Nat) (h : sh a = 3) : reg (rr a 1) = reg a := by
  have key : ∀ a, a < NW → sh a = 3 → reg (rr a 1) = reg a := by decide +kernel
  exact key a (sh_lt h (by decide)) h
theorem rgf_3_2 (a : Nat) (h : sh a = 3) : reg (rr a 2) = reg a := by
  have key : ∀ a, a < NW → sh a = 3 → reg (rr a 2) = reg a := by decide +kernel
  exact key a (sh_lt h (by decide)) h
theorem rgf_4_11 (a : Nat) (h : sh a = 4) : reg (rr a 11) = reg a := by
  have key : ∀ a, a < NW → sh a = 4 → reg (rr a 11) = reg a := by decide +kernel
  exact key a (sh_lt h (by decide)) h
theorem rgf_6_4 (a : Nat) (h : sh a = 6) : reg (rr a 4) = reg a := by
  have key : ∀ a, a < NW → sh a = 6 → reg (rr a 4) = reg a := by decide +kernel
  exact key a (sh_lt h (by decide)) h
theorem rgf_6_5 (a : Nat) (h : sh a = 6) : reg (rr a 5) = reg a := by
  have key : ∀ a, a < NW → sh a = 6 → reg (rr a 5) = reg a := by decide +kernel
  exact key a (sh_lt h (by decide)) h
theorem rgf_6_6 (a : Nat) (h : sh a = 6) : reg (rr a 6) = reg a := by
  have key : ∀ a, a < NW → sh a = 6 → reg (rr a 6) = reg a := by decide +kernel
  exact key a (sh_lt h (by decide)) h
theorem rgf_6_7 (a : Nat) (h : sh a = 6) : reg (rr a 7) = reg a := by
  have key : ∀ a, a < NW → sh a = 6 → reg (rr a 7) = reg a := by decide +kernel
  exact key a (sh_lt h (by decide)) h
theorem rgf_6_8 (a : Nat) (h : sh a = 6) : reg (rr a 8) = reg a := by
  have key : ∀ a, a < NW → sh a = 6 → reg (rr a 8) = reg a := by decide +kernel
  exact key a (sh_lt h (by decide)) h
theorem rgf_7_2 (a : Nat) (h : sh a = 7) : reg (rr a 2) = reg a := by
  have key : ∀ a, a < NW → sh a = 7 → reg (rr a 2) = reg a := by decide +kernel
  exact key a (sh_lt h (by decide)) h
theorem rgf_7_3 (a : Nat) (h : sh a = 7) : reg (rr a 3) = reg a := by
  have key : ∀ a, a < NW → sh a = 7 → reg (rr a 3) = reg a := by decide +kernel
  exact key a (sh_lt h (by decide)) h
theorem rgf_7_4 (a : Nat) (h : sh a = 7) : reg (rr a 4) = reg a := by
  have key : ∀ a, a < NW → sh a = 7 → reg (rr a 4) = reg a := by decide +kernel
  exact key a (sh_lt h (by decide)) h
theorem rgf_7_5 (a : Nat) (h : sh a = 7) : reg (rr a 5) = reg a := by
  have key : ∀ a, a < NW → sh a = 7 → reg (rr a 5) = reg a := by decide +kernel
  exact key a (sh_lt h (by decide)) h
theorem rge_24 (a : Nat) (h : sh a = 24) (k : Nat) (hk : k < 8) : reg (rr a k) = reg a := by
  have key : ∀ a, a < NW → sh a = 24 → ∀ k, k < 8 → reg (rr a k) = reg a := by decide +kernel
  exact key a (sh_lt h (by decide)) h k hk
theorem rge_25 (a : Nat) (h : sh a = 25) (k : Nat) (hk : k < 4) : reg (rr a k) = reg a := by
  have key : ∀ a, a < NW → sh a = 25 → ∀ k, k < 4 → reg (rr a k) = reg a := by decide +kernel
  exact key a (sh_lt h (by decide)) h k hk
theorem rge_26 (k : Nat) (hk : k < 9) : reg (rr 76 k) ∈ [10, 11, 12, 13, 14, 15, 16, 17, 18] := by
  have key : ∀ k, k < 9 → reg (rr 76 k) ∈ [10, 11, 12, 13, 14, 15, 16, 17, 18] := by decide +kernel
  exact key k hk
theorem rge_27 (k : Nat) (hk : k < 2) : reg (rr 132 k) ∈ [20, 21] := by
  have key : ∀ k, k < 2 → reg (rr 132 k) ∈ [20, 21] := by decide +kernel
  exact key k hk

set_option maxHeartbeats 4000000 in
theorem fr_X2_begin {R : List Nat} {x1 : Int32} {s0 : St} {sr : St}  (hL : ∀ x ∈ ([19] : List Nat), x ∈ R)  (h : f_X2_begin x1 s0 = some sr) : Fr R s0 sr := by
  have hF : Fr R s0 s0 := Fr.rf
  unfold f_X2_begin at h
  refine vl_s h (hF.sI (mem_lit rgq_131 hL rfl)) (fun s1 hF h => ?_)
  exact ret_fv h hF

set_option maxHeartbeats 4000000 in
theorem fr_X4_begin {R : List Nat} {a0 : Nat} {x1 : Int64} {s0 : St} {sr : St} (h_a0 : sh a0 = 4) (hL : ∀ x ∈ ([] : List Nat), x ∈ R) (hm_a0 : reg a0 ∈ R) (h : f_X4_begin a0 x1 s0 = some sr) : Fr R s0 sr := by
  have hF : Fr R s0 s0 := Fr.rf
  unfold f_X4_begin at h
  refine vl_s h (hF.sL (mem_ref rfl hm_a0)) (fun s1 hF h => ?_)
  refine vl_s h (hF.sI (mem_ref rfl hm_a0)) (fun s2 hF h => ?_)
  refine vl_s h (hF.sI (mem_ref rfl hm_a0)) (fun s3 hF h => ?_)
  refine vl_s h (hF.sI (mem_ref rfl hm_a0)) (fun s4 hF h => ?_)
  refine vl_s h (hF.sI (mem_ref rfl hm_a0)) (fun s5 hF h => ?_)
  refine vl_s h (hF.sI (mem_ref rfl hm_a0)) (fun s6 hF h => ?_)
  refine ald_s h (fun _ => hF.sI (mem_ref ((rgf_4_11 _ h_a0).trans rfl) hm_a0)) (fun s7 hF h => ?_)
  exact ret_fv h hF

set_option maxHeartbeats 4000000 in
theorem fr_X4_copyFrom {R : List Nat} {a0 : Nat} {a1 : Nat} {s0 : St} {sr : St} (h_a0 : sh a0 = 4) (h_a1 : sh a1 = 4) (hL : ∀ x ∈ ([] : List Nat), x ∈ R) (hm_a0 : reg a0 ∈ R) (h : f_X4_copyFrom a0 a1 s0 = some sr) : Fr R s0 sr := by
  have hF : Fr R s0 s0 := Fr.rf
  unfold f_X4_copyFrom at h
  refine vl_g h (fun v1 h => ?_)
  refine vl_s h (hF.sL (mem_ref rfl hm_a0)) (fun s2 hF h => ?_)
  refine vl_g h (fun v3 h => ?_)
  refine vl_s h (hF.sI (mem_ref rfl hm_a0)) (fun s4 hF h => ?_)
  refine vl_g h (fun v5 h => ?_)
  refine vl_s h (hF.sI (mem_ref rfl hm_a0)) (fun s6 hF h => ?_)
  refine vl_g h (fun v7 h => ?_)
  refine vl_s h (hF.sI (mem_ref rfl hm_a0)) (fun s8 hF h => ?_)
  refine vl_g h (fun v9 h => ?_)
  refine vl_s h (hF.sI (mem_ref rfl hm_a0)) (fun s10 hF h => ?_)
  refine vl_g h (fun v11 h => ?_)
  refine vl_s h (hF.sI (mem_ref rfl hm_a0)) (fun s12 hF h => ?_)
  refine vl_g h (fun v13 h => ?_)
  refine vl_s h (hF.sI (mem_ref rfl hm_a0)) (fun s14 hF h => ?_)
  refine vl_g h (fun v15 h => ?_)
  refine rz_e h (fun _ h => ?_)
  refine vl_s h (hF.sI (mem_ref rfl hm_a0)) (fun s16 hF h => ?_)
  refine vl_g h (fun v17 h => ?_)
  refine vl_s h (hF.sI (mem_ref rfl hm_a0)) (fun s18 hF h => ?_)
  refine vl_g h (fun v19 h => ?_)
  refine vl_s h (hF.sI (mem_ref rfl hm_a0)) (fun s20 hF h => ?_)
  refine vl_g h (fun v21 h => ?_)
  refine vl_s h (hF.sI (mem_ref rfl hm_a0)) (fun s22 hF h => ?_)
  refine cpz_s h (hF.sC (mem_ref ((rgf_4_11 _ h_a0).trans rfl) hm_a0)) (fun s23 hF h => ?_)
  refine vl_g h (fun v24 h => ?_)
  refine vl_s h (hF.sI (mem_ref rfl hm_a0)) (fun s25 hF h => ?_)
  refine vl_g h (fun v26 h => ?_)
  refine vl_s h (hF.sI (mem_ref rfl hm_a0)) (fun s27 hF h => ?_)
  exact ret_fv h hF

set_option maxHeartbeats 4000000 in
theorem fr_X4_addSeconds_L2 {R : List Nat} {N : Nat} {c1 : Nat} {c2 : Int32} {c3 : Int32}  {s0 : St}  {sr : St} (h_c1 : sh c1 = 4) (hL : ∀ x ∈ ([] : List Nat), x ∈ R) (hm_c1 : reg c1 ∈ R)   : ∀ (n6 : Nat) (v4 : Int32) (s5 : St), Fr R s0 s5 → f_X4_addSeconds_L2 N c1 c2 c3 n6 v4 s5 = some sr → Fr R s0 sr := by
  intro n6
  induction n6 with
  | zero =>
    intro v4 s5 hF h
    rw [f_X4_addSeconds_L2] at h; cases h
  | succ n6 ih7 =>
    intro v4 s5 hF h
    rw [f_X4_addSeconds_L2] at h
    refine e_ite h (fun _ h => ?_) (fun _ h => ?_)
    · exact ret_fv h hF
    refine vl_g h (fun v8 h => ?_)
    refine e_ite h (fun _ h => ?_) (fun _ h => ?_)
    · exact ret_fv h hF
    refine vl_g h (fun v9 h => ?_)
    refine ald_s h (fun _ => hF.sI (mem_ref ((rgf_4_11 _ h_c1).trans rfl) hm_c1)) (fun s10 hF h => ?_)
    refine vl_g h (fun v11 h => ?_)
    refine vl_s h (hF.sI (mem_ref rfl hm_c1)) (fun s12 hF h => ?_)
    refine vl_g h (fun v13 h => ?_)
    exact ih7 _ _ hF h

set_option maxHeartbeats 4000000 in
theorem fr_X4_addSeconds {R : List Nat} {N : Nat} {a0 : Nat} {x1 : Int32} {x2 : Int32} {s0 : St} {sr : St} (h_a0 : sh a0 = 4) (hL : ∀ x ∈ ([] : List Nat), x ∈ R) (hm_a0 : reg a0 ∈ R) (h : f_X4_addSeconds N a0 x1 x2 s0 = some sr) : Fr R s0 sr := by
  have hF : Fr R s0 s0 := Fr.rf
  unfold f_X4_addSeconds at h
  exact fr_X4_addSeconds_L2 h_a0 (hLsub hL rfl) (mem_ref rfl hm_a0)  _ _ _ hF h

set_option maxHeartbeats 4000000 in
theorem fr_X5_clear {R : List Nat}  {s0 : St} {sr : St}  (hL : ∀ x ∈ ([9] : List Nat), x ∈ R)  (h : f_X5_clear  s0 = some sr) : Fr R s0 sr := by
  have hF : Fr R s0 s0 := Fr.rf
  unfold f_X5_clear at h
  refine vl_s h (hF.sI (mem_lit rgq_75 hL rfl)) (fun s1 hF h => ?_)
  exact ret_fv h hF

set_option maxHeartbeats 4000000 in
theorem fr_X5_keep {R : List Nat}  {s0 : St} {sr : St}  (hL : ∀ x ∈ ([9] : List Nat), x ∈ R)  (h : f_X5_keep  s0 = some sr) : Fr R s0 sr := by
  have hF : Fr R s0 s0 := Fr.rf
  unfold f_X5_keep at h
  refine vl_g h (fun v1 h => ?_)
  refine rm_g h (fun v2 h => ?_)
  refine vl_s h (hF.sI (mem_lit rgq_75 hL rfl)) (fun s3 hF h => ?_)
  refine vl_g h (fun v4 h => ?_)
  refine vl_g h (fun v5 h => ?_)
  refine vl_s h (hF.sI (mem_lit rgq_75 hL rfl)) (fun s6 hF h => ?_)
  exact ret_fv h hF

set_option maxHeartbeats 4000000 in
theorem fr_X6_begin_L23 {R : List Nat} {N : Nat} {c5 : Nat} {k8 : St → Option (St)} {s0 : St}  {sr : St} (h_c5 : sh c5 = 6) (hL : ∀ x ∈ ([] : List Nat), x ∈ R) (hm_c5 : reg c5 ∈ R) (hk8 : ∀ (s9 : St), Fr R s0 s9 → k8 s9 = some sr → Fr R s0 sr)  : ∀ (n10 : Nat) (v6 : Int32) (s7 : St), Fr R s0 s7 → f_X6_begin_L23 N c5 k8 n10 v6 s7 = some sr → Fr R s0 sr := by
  intro n10
  induction n10 with
  | zero =>
    intro v6 s7 hF h
    rw [f_X6_begin_L23] at h; cases h
  | succ n10 ih11 =>
    intro v6 s7 hF h
    rw [f_X6_begin_L23] at h
    refine vl_g h (fun v12 h => ?_)
    refine e_ite h (fun _ h => ?_) (fun _ h => ?_)
    · exact hk8 _ hF h
    refine ald_i h (fun i14 hi14 h => ?_)
    refine vl_g h (fun v15 h => ?_)
    refine ald_s h (fun _ => hF.sI (mem_ref ((rgf_6_4 _ h_c5).trans rfl) hm_c5)) (fun s16 hF h => ?_)
    refine ald_i h (fun i18 hi18 h => ?_)
    refine vl_g h (fun v19 h => ?_)
    refine ald_s h (fun _ => hF.sI (mem_ref ((rgf_6_5 _ h_c5).trans rfl) hm_c5)) (fun s20 hF h => ?_)
    refine vl_g h (fun v21 h => ?_)
    exact ih11 _ _ hF h

set_option maxHeartbeats 4000000 in
theorem fr_X6_begin_L78 {R : List Nat} {N : Nat} {c23 : Nat}  {s0 : St}  {sr : St} (h_c23 : sh c23 = 6) (hL : ∀ x ∈ ([] : List Nat), x ∈ R) (hm_c23 : reg c23 ∈ R)   : ∀ (n26 : Nat) (v24 : Int32) (s25 : St), Fr R s0 s25 → f_X6_begin_L78 N c23 n26 v24 s25 = some sr → Fr R s0 sr := by
  intro n26
  induction n26 with
  | zero =>
    intro v24 s25 hF h
    rw [f_X6_begin_L78] at h; cases h
  | succ n26 ih27 =>
    intro v24 s25 hF h
    rw [f_X6_begin_L78] at h
    refine vl_g h (fun v28 h => ?_)
    refine e_ite h (fun _ h => ?_) (fun _ h => ?_)
    · exact ret_fv h hF
    refine ald_i h (fun i30 hi30 h => ?_)
    refine vl_g h (fun v31 h => ?_)
    refine ald_s h (fun _ => hF.sI (mem_ref ((rgf_6_6 _ h_c23).trans rfl) hm_c23)) (fun s32 hF h => ?_)
    refine ald_i h (fun i34 hi34 h => ?_)
    refine vl_g h (fun v35 h => ?_)
    refine ald_s h (fun _ => hF.sI (mem_ref ((rgf_6_7 _ h_c23).trans rfl) hm_c23)) (fun s36 hF h => ?_)
    refine ald_i h (fun i38 hi38 h => ?_)
    refine vl_g h (fun v39 h => ?_)
    refine ald_s h (fun _ => hF.sI (mem_ref ((rgf_6_8 _ h_c23).trans rfl) hm_c23)) (fun s40 hF h => ?_)
    refine vl_g h (fun v41 h => ?_)
    exact ih27 _ _ hF h

set_option maxHeartbeats 4000000 in
theorem fr_X6_begin {R : List Nat} {N : Nat} {a0 : Nat} {s0 : St} {sr : St} (h_a0 : sh a0 = 6) (hL : ∀ x ∈ ([] : List Nat), x ∈ R) (hm_a0 : reg a0 ∈ R) (h : f_X6_begin N a0 s0 = some sr) : Fr R s0 sr := by
  have hF : Fr R s0 s0 := Fr.rf
  unfold f_X6_begin at h
  refine vl_s h (hF.sI (mem_ref rfl hm_a0)) (fun s1 hF h => ?_)
  refine vl_g h (fun v2 h => ?_)
  refine vl_s h (hF.sI (mem_ref rfl hm_a0)) (fun s3 hF h => ?_)
  refine vl_s h (hF.sI (mem_ref rfl hm_a0)) (fun s4 hF h => ?_)
  refine fr_X6_begin_L23 h_a0 (hLsub hL rfl) (mem_ref rfl hm_a0) (fun s22 hF h => ?_) _ _ _ hF h
  exact fr_X6_begin_L78 h_a0 (hLsub hL rfl) (mem_ref rfl hm_a0)  _ _ _ hF h

set_option maxHeartbeats 4000000 in
theorem fr_X6_copyFrom {R : List Nat} {a0 : Nat} {a1 : Nat} {s0 : St} {sr : St} (h_a0 : sh a0 = 6) (h_a1 : sh a1 = 6) (hL : ∀ x ∈ ([] : List Nat), x ∈ R) (hm_a0 : reg a0 ∈ R) (h : f_X6_copyFrom a0 a1 s0 = some sr) : Fr R s0 sr := by
  have hF : Fr R s0 s0 := Fr.rf
  unfold f_X6_copyFrom at h
  refine vl_g h (fun v1 h => ?_)
  refine vl_s h (hF.sI (mem_ref rfl hm_a0)) (fun s2 hF h => ?_)
  refine vl_g h (fun v3 h => ?_)
  refine vl_s h (hF.sI (mem_ref rfl hm_a0)) (fun s4 hF h => ?_)
  refine vl_g h (fun v5 h => ?_)
  refine vl_s h (hF.sI (mem_ref rfl hm_a0)) (fun s6 hF h => ?_)
  refine cpi_s h (hF.sC (mem_ref ((rgf_6_4 _ h_a0).trans rfl) hm_a0)) (fun s7 hF h => ?_)
  refine cpi_s h (hF.sC (mem_ref ((rgf_6_5 _ h_a0).trans rfl) hm_a0)) (fun s8 hF h => ?_)
  refine cpi_s h (hF.sC (mem_ref ((rgf_6_6 _ h_a0).trans rfl) hm_a0)) (fun s9 hF h => ?_)
  refine cpi_s h (hF.sC (mem_ref ((rgf_6_7 _ h_a0).trans rfl) hm_a0)) (fun s10 hF h => ?_)
  refine cpi_s h (hF.sC (mem_ref ((rgf_6_8 _ h_a0).trans rfl) hm_a0)) (fun s11 hF h => ?_)
  exact ret_fv h hF

set_option maxHeartbeats 4000000 in
theorem fr_X6_putOut {R : List Nat} {a0 : Nat} {x1 : Int32} {s0 : St} {r : Int32} {sr : St} (h_a0 : sh a0 = 6) (hL : ∀ x ∈ ([] : List Nat), x ∈ R) (hm_a0 : reg a0 ∈ R) (h : f_X6_putOut a0 x1 s0 = some (r, sr)) : Fr R s0 sr := by
  have hF : Fr R s0 s0 := Fr.rf
  unfold f_X6_putOut at h
  refine bp_g h (fun v1 h => ?_)
  refine e_ite h (fun _ h => ?_) (fun _ h => ?_)
  · refine vl_g h (fun v2 h => ?_)
    refine vl_s h (hF.sI (mem_ref rfl hm_a0)) (fun s3 hF h => ?_)
    exact ret_fi h hF
  exact ret_fi h hF

set_option maxHeartbeats 4000000 in
theorem fr_X6_relight {R : List Nat} {a0 : Nat} {x1 : Int32} {s0 : St} {r : Int32} {sr : St} (h_a0 : sh a0 = 6) (hL : ∀ x ∈ ([] : List Nat), x ∈ R) (hm_a0 : reg a0 ∈ R) (h : f_X6_relight a0 x1 s0 = some (r, sr)) : Fr R s0 sr := by
  have hF : Fr R s0 s0 := Fr.rf
  unfold f_X6_relight at h
  refine bp_g h (fun v1 h => ?_)
  refine e_ite h (fun _ h => ?_) (fun _ h => ?_)
  · exact ret_fi h hF
  refine ald_g h (fun v2 h => ?_)
  refine e_ite h (fun _ h => ?_) (fun _ h => ?_)
  · exact ret_fi h hF
  refine vl_g h (fun v3 h => ?_)
  refine vl_s h (hF.sI (mem_ref rfl hm_a0)) (fun s4 hF h => ?_)
  exact ret_fi h hF

set_option maxHeartbeats 4000000 in
theorem fr_X6_pourInto {R : List Nat} {a0 : Nat} {x1 : Int32} {x2 : Int32} {s0 : St} {r : Int32} {sr : St} (h_a0 : sh a0 = 6) (hL : ∀ x ∈ ([] : List Nat), x ∈ R) (hm_a0 : reg a0 ∈ R) (h : f_X6_pourInto a0 x1 x2 s0 = some (r, sr)) : Fr R s0 sr := by
  have hF : Fr R s0 s0 := Fr.rf
  unfold f_X6_pourInto at h
  refine ald_g h (fun v1 h => ?_)
  refine e_ite h (fun _ h => ?_) (fun _ h => ?_)
  · refine ald_g h (fun v2 h => ?_)
    refine ald_s h (fun _ => hF.sI (mem_ref ((rgf_6_4 _ h_a0).trans rfl) hm_a0)) (fun s3 hF h => ?_)
    exact ret_fi h hF
  exact ret_fi h hF

set_option maxHeartbeats 4000000 in
theorem fr_X6_turn {R : List Nat} {a0 : Nat} {x1 : Int32} {x2 : Int32} {s0 : St} {r : Int32} {sr : St} (h_a0 : sh a0 = 6) (hL : ∀ x ∈ ([] : List Nat), x ∈ R) (hm_a0 : reg a0 ∈ R) (h : f_X6_turn a0 x1 x2 s0 = some (r, sr)) : Fr R s0 sr := by
  have hF : Fr R s0 s0 := Fr.rf
  unfold f_X6_turn at h
  refine ald_g h (fun v1 h => ?_)
  refine e_ite h (fun _ h => ?_) (fun _ h => ?_)
  · exact ret_fi h hF
  refine ald_s h (fun _ => hF.sI (mem_ref ((rgf_6_8 _ h_a0).trans rfl) hm_a0)) (fun s2 hF h => ?_)
  exact ret_fi h hF

set_option maxHeartbeats 4000000 in
theorem fr_X6_setHaze {R : List Nat} {a0 : Nat} {x1 : Int32} {s0 : St} {r : Int32} {sr : St} (h_a0 : sh a0 = 6) (hL : ∀ x ∈ ([] : List Nat), x ∈ R) (hm_a0 : reg a0 ∈ R) (h : f_X6_setHaze a0 x1 s0 = some (r, sr)) : Fr R s0 sr := by
  have hF : Fr R s0 s0 := Fr.rf
  unfold f_X6_setHaze at h
  refine vl_g h (fun v1 h => ?_)
  refine e_ite h (fun _ h => ?_) (fun _ h => ?_)
  · exact ret_fi h hF
  refine vl_s h (hF.sI (mem_ref rfl hm_a0)) (fun s2 hF h => ?_)
  exact ret_fi h hF

set_option maxHeartbeats 4000000 in
theorem fr_X7_clear {R : List Nat} {a0 : Nat} {s0 : St} {sr : St} (h_a0 : sh a0 = 7) (hL : ∀ x ∈ ([] : List Nat), x ∈ R) (hm_a0 : reg a0 ∈ R) (h : f_X7_clear a0 s0 = some sr) : Fr R s0 sr := by
  have hF : Fr R s0 s0 := Fr.rf
  unfold f_X7_clear at h
  refine vl_s h (hF.sI (mem_ref rfl hm_a0)) (fun s1 hF h => ?_)
  refine vl_s h (hF.sI (mem_ref rfl hm_a0)) (fun s2 hF h => ?_)
  exact ret_fv h hF

set_option maxHeartbeats 4000000 in
theorem fr_X7_copyFrom {R : List Nat} {a0 : Nat} {a1 : Nat} {s0 : St} {sr : St} (h_a0 : sh a0 = 7) (h_a1 : sh a1 = 7) (hL : ∀ x ∈ ([] : List Nat), x ∈ R) (hm_a0 : reg a0 ∈ R) (h : f_X7_copyFrom a0 a1 s0 = some sr) : Fr R s0 sr := by
  have hF : Fr R s0 s0 := Fr.rf
  unfold f_X7_copyFrom at h
  refine vl_g h (fun v1 h => ?_)
  refine vl_s h (hF.sI (mem_ref rfl hm_a0)) (fun s2 hF h => ?_)
  refine vl_g h (fun v3 h => ?_)
  refine vl_s h (hF.sI (mem_ref rfl hm_a0)) (fun s4 hF h => ?_)
  refine cpi_s h (hF.sC (mem_ref ((rgf_7_2 _ h_a0).trans rfl) hm_a0)) (fun s5 hF h => ?_)
  refine cpi_s h (hF.sC (mem_ref ((rgf_7_3 _ h_a0).trans rfl) hm_a0)) (fun s6 hF h => ?_)
  refine cpi_s h (hF.sC (mem_ref ((rgf_7_4 _ h_a0).trans rfl) hm_a0)) (fun s7 hF h => ?_)
  exact ret_fv h hF

set_option maxHeartbeats 4000000 in
theorem fr_X7_add {R : List Nat} {a0 : Nat} {x1 : Int32} {x2 : Int32} {x3 : Int32} {s0 : St} {r : Int32} {sr : St} (h_a0 : sh a0 = 7) (hL : ∀ x ∈ ([] : List Nat), x ∈ R) (hm_a0 : reg a0 ∈ R) (h : f_X7_add a0 x1 x2 x3 s0 = some (r, sr)) : Fr R s0 sr := by
  have hF : Fr R s0 s0 := Fr.rf
  unfold f_X7_add at h
  refine vl_g h (fun v1 h => ?_)
  refine e_ite h (fun _ h => ?_) (fun _ h => ?_)
  · exact ret_fi h hF
  refine vl_g h (fun v2 h => ?_)
  refine ald_s h (fun _ => hF.sI (mem_ref ((rgf_7_2 _ h_a0).trans rfl) hm_a0)) (fun s3 hF h => ?_)
  refine vl_g h (fun v4 h => ?_)
  refine ald_s h (fun _ => hF.sI (mem_ref ((rgf_7_3 _ h_a0).trans rfl) hm_a0)) (fun s5 hF h => ?_)
  refine vl_g h (fun v6 h => ?_)
  refine ald_s h (fun _ => hF.sI (mem_ref ((rgf_7_4 _ h_a0).trans rfl) hm_a0)) (fun s7 hF h => ?_)
  refine vl_g h (fun v8 h => ?_)
  refine vl_s h (hF.sI (mem_ref rfl hm_a0)) (fun s9 hF h => ?_)
  exact ret_fi h hF

set_option maxHeartbeats 4000000 in
theorem fr_X8_copyFrom {R : List Nat} {a0 : Nat} {a1 : Nat} {s0 : St} {sr : St} (h_a0 : sh a0 = 8) (h_a1 : sh a1 = 8) (hL : ∀ x ∈ ([] : List Nat), x ∈ R) (hm_a0 : reg a0 ∈ R) (h : f_X8_copyFrom a0 a1 s0 = some sr) : Fr R s0 sr := by
  have hF : Fr R s0 s0 := Fr.rf
  unfold f_X8_copyFrom at h
  refine vl_g h (fun v1 h => ?_)
  refine vl_s h (hF.sL (mem_ref rfl hm_a0)) (fun s2 hF h => ?_)
  refine vl_g h (fun v3 h => ?_)
  refine vl_s h (hF.sI (mem_ref rfl hm_a0)) (fun s4 hF h => ?_)
  refine vl_g h (fun v5 h => ?_)
  refine vl_s h (hF.sI (mem_ref rfl hm_a0)) (fun s6 hF h => ?_)
  refine vl_g h (fun v7 h => ?_)
  refine vl_s h (hF.sI (mem_ref rfl hm_a0)) (fun s8 hF h => ?_)
  refine vl_g h (fun v9 h => ?_)
  refine vl_s h (hF.sI (mem_ref rfl hm_a0)) (fun s10 hF h => ?_)
  exact ret_fv h hF

set_option maxHeartbeats 4000000 in
theorem fr_X9_put_L3 {R : List Nat} {N : Nat} {c1 : Int32}  {s0 : St}  {sr : St}  (hL : ∀ x ∈ ([1] : List Nat), x ∈ R)    : ∀ (n4 : Nat) (v2 : Int32) (s3 : St), Fr R s0 s3 → f_X9_put_L3 N c1 n4 v2 s3 = some sr → Fr R s0 sr := by
  intro n4
  induction n4 with
  | zero =>
    intro v2 s3 hF h
    rw [f_X9_put_L3] at h; cases h
  | succ n4 ih5 =>
    intro v2 s3 hF h
    rw [f_X9_put_L3] at h
    refine e_ite h (fun _ h => ?_) (fun _ h => ?_)
    · exact ret_fv h hF
    refine vl_g h (fun v6 h => ?_)
    refine jn_e (fun j => ∀ (s7 : St), Fr R s0 s7 → j s7 = some sr → Fr R s0 sr) h ?_ (fun j8 hj8 h => ?_)
    · intro s7 hF h
      refine vl_g h (fun v9 h => ?_)
      exact ih5 _ _ hF h
    refine e_ite h (fun _ h => ?_) (fun _ h => ?_)
    · exact hj8 _ hF h
    refine vl_g h (fun v10 h => ?_)
    refine ald_s h (fun _ => hF.sI (mem_lit rgq_2 hL rfl)) (fun s11 hF h => ?_)
    refine vl_g h (fun v12 h => ?_)
    refine vl_s h (hF.sI (mem_lit rgq_1 hL rfl)) (fun s13 hF h => ?_)
    exact hj8 _ hF h

set_option maxHeartbeats 4000000 in
theorem fr_X9_put {R : List Nat} {N : Nat} {x1 : Int32} {s0 : St} {sr : St}  (hL : ∀ x ∈ ([1] : List Nat), x ∈ R)  (h : f_X9_put N x1 s0 = some sr) : Fr R s0 sr := by
  have hF : Fr R s0 s0 := Fr.rf
  unfold f_X9_put at h
  exact fr_X9_put_L3 (hLsub hL rfl)  _ _ _ hF h

set_option maxHeartbeats 4000000 in
theorem fr_X9_refuse {R : List Nat} {x1 : Int32} {s0 : St} {r : Int32} {sr : St}  (hL : ∀ x ∈ ([1] : List Nat), x ∈ R)  (h : f_X9_refuse x1 s0 = some (r, sr)) : Fr R s0 sr := by
  have hF : Fr R s0 s0 := Fr.rf
  unfold f_X9_refuse at h
  refine vl_s h (hF.sI (mem_lit rgq_1 hL rfl)) (fun s1 hF h => ?_)
  refine vl_g h (fun v2 h => ?_)
  refine vl_s h (hF.sI (mem_lit rgq_1 hL rfl)) (fun s3 hF h => ?_)
  exact ret_fi h hF

set_option maxHeartbeats 4000000 in
theorem fr_X9_atNumber {R : List Nat} {x1 : Int32} {x2 : Int32} {s0 : St} {r : Int32} {sr : St}  (hL : ∀ x ∈ ([1] : List Nat), x ∈ R)  (h : f_X9_atNumber x1 x2 s0 = some (r, sr)) : Fr R s0 sr := by
  have hF : Fr R s0 s0 := Fr.rf
  unfold f_X9_atNumber at h
  refine vl_g h (fun v1 h => ?_)
  refine e_ite h (fun _ h => ?_) (fun _ h => ?_)
  · refine vl_g h (fun v2 h => ?_)
    refine jn_e (fun j => j = some (r, sr) → Fr R s0 sr) h ?_ (fun j3 hj3 h => ?_)
    · intro h
      obtain ⟨v4, s5, hc, h⟩ := bd_e h
      have hF := hF.trans (fr_X9_refuse (hLsub hL rfl) hc)
      refine e_ite h (fun _ h => ?_) (fun _ h => ?_)
      · exact ret_fi h hF
      exact ret_fi h hF
    refine e_ite h (fun _ h => ?_) (fun _ h => ?_)
    · exact hj3 h
    refine vl_g h (fun v6 h => ?_)
    refine e_ite h (fun _ h => ?_) (fun _ h => ?_)
    · exact ret_fi h hF
    exact hj3 h
  obtain ⟨v7, s8, hc, h⟩ := bd_e h
  have hF := hF.trans (fr_X9_refuse (hLsub hL rfl) hc)
  refine rz_e h (fun _ h => ?_)
  exact ret_fi h hF

set_option maxHeartbeats 4000000 in
theorem fr_X9_atEnd {R : List Nat}  {s0 : St} {r : Int32} {sr : St}  (hL : ∀ x ∈ ([1] : List Nat), x ∈ R)  (h : f_X9_atEnd  s0 = some (r, sr)) : Fr R s0 sr := by
  have hF : Fr R s0 s0 := Fr.rf
  unfold f_X9_atEnd at h
  refine vl_g h (fun v1 h => ?_)
  refine jn_e (fun j => j = some (r, sr) → Fr R s0 sr) h ?_ (fun j2 hj2 h => ?_)
  · intro h
    obtain ⟨v3, s4, hc, h⟩ := bd_e h
    have hF := hF.trans (fr_X9_refuse (hLsub hL rfl) hc)
    refine e_ite h (fun _ h => ?_) (fun _ h => ?_)
    · exact ret_fi h hF
    exact ret_fi h hF
  refine e_ite h (fun _ h => ?_) (fun _ h => ?_)
  · refine vl_g h (fun v5 h => ?_)
    refine e_ite h (fun _ h => ?_) (fun _ h => ?_)
    · exact ret_fi h hF
    exact hj2 h
  exact hj2 h

set_option maxHeartbeats 4000000 in
theorem fr_X9_readRun_L12 {R : List Nat} {N : Nat}  {k6 : Int32 → Int32 → St → Option (St)} {s0 : St}  {sr : St}  (hL : ∀ x ∈ ([1] : List Nat), x ∈ R)  (hk6 : ∀ (v7 : Int32) (v8 : Int32) (s9 : St), Fr R s0 s9 → k6 v7 v8 s9 = some sr → Fr R s0 sr)  : ∀ (n10 : Nat) (v3 : Int32) (v4 : Int32) (s5 : St), Fr R s0 s5 → f_X9_readRun_L12 N k6 n10 v3 v4 s5 = some sr → Fr R s0 sr := by
  intro n10
  induction n10 with
  | zero =>
    intro v3 v4 s5 hF h
    rw [f_X9_readRun_L12] at h; cases h
  | succ n10 ih11 =>
    intro v3 v4 s5 hF h
    rw [f_X9_readRun_L12] at h
    refine vl_g h (fun v12 h => ?_)
    refine vl_g h (fun v13 h => ?_)
    refine e_ite h (fun _ h => ?_) (fun _ h => ?_)
    · exact hk6 _ _ _ hF h
    refine vl_g h (fun v14 h => ?_)
    refine ald_g h (fun v15 h => ?_)
    refine jn_e (fun j => ∀ (v16 : Int32) (v17 : Int32) (s18 : St), Fr R s0 s18 → j v16 v17 s18 = some sr → Fr R s0 sr) h ?_ (fun j19 hj19 h => ?_)
    · intro v16 v17 s18 hF h
      refine vl_g h (fun v20 h => ?_)
      refine vl_s h (hF.sI (mem_lit rgq_1 hL rfl)) (fun s21 hF h => ?_)
      exact ih11 _ _ _ hF h
    refine jn_e (fun j => j = some sr → Fr R s0 sr) h ?_ (fun j22 hj22 h => ?_)
    · intro h
      refine e_ite h (fun _ h => ?_) (fun _ h => ?_)
      · exact hk6 _ _ _ hF h
      refine e_ite h (fun _ h => ?_) (fun _ h => ?_)
      · exact hk6 _ _ _ hF h
      refine vl_g h (fun v23 h => ?_)
      refine vl_g h (fun v24 h => ?_)
      refine vl_s h (hF.sI (mem_lit rgq_1 hL rfl)) (fun s25 hF h => ?_)
      exact hj19 _ _ _ hF h
    refine e_ite h (fun _ h => ?_) (fun _ h => ?_)
    · exact hj22 h
    refine e_ite h (fun _ h => ?_) (fun _ h => ?_)
    · exact hj22 h
    refine vl_g h (fun v26 h => ?_)
    refine vl_g h (fun v27 h => ?_)
    refine vl_s h (hF.sL (mem_lit rgq_1 hL rfl)) (fun s28 hF h => ?_)
    exact hj19 _ _ _ hF h

set_option maxHeartbeats 4000000 in
theorem fr_X9_readRun {R : List Nat} {N : Nat}  {s0 : St} {sr : St}  (hL : ∀ x ∈ ([1] : List Nat), x ∈ R)  (h : f_X9_readRun N  s0 = some sr) : Fr R s0 sr := by
  have hF : Fr R s0 s0 := Fr.rf
  unfold f_X9_readRun at h
  refine vl_g h (fun v1 h => ?_)
  refine vl_s h (hF.sI (mem_lit rgq_1 hL rfl)) (fun s2 hF h => ?_)
  refine fr_X9_readRun_L12 (hLsub hL rfl) (fun v29 v30 s31 hF h => ?_) _ _ _ _ hF h
  refine jn_e (fun j => j = some sr → Fr R s0 sr) h ?_ (fun j32 hj32 h => ?_)
  · intro h
    refine jn_e (fun j => ∀ (v33 : Int32), j v33 = some sr → Fr R s0 sr) h ?_ (fun j34 hj34 h => ?_)
    · intro v33 h
      refine vl_s h (hF.sI (mem_lit rgq_1 hL rfl)) (fun s35 hF h => ?_)
      refine vl_s h (hF.sL (mem_lit rgq_1 hL rfl)) (fun s36 hF h => ?_)
      exact ret_fv h hF
    refine jn_e (fun j => j = some sr → Fr R s0 sr) h ?_ (fun j37 hj37 h => ?_)
    · intro h
      exact hj34 _ h
    refine e_ite h (fun _ h => ?_) (fun _ h => ?_)
    · refine e_ite h (fun _ h => ?_) (fun _ h => ?_)
      · exact hj37 h
      exact hj34 _ h
    exact hj37 h
  refine e_ite h (fun _ h => ?_) (fun _ h => ?_)
  · refine e_ite h (fun _ h => ?_) (fun _ h => ?_)
    · exact hj32 h
    refine vl_s h (hF.sI (mem_lit rgq_1 hL rfl)) (fun s38 hF h => ?_)
    exact ret_fv h hF
  exact hj32 h

set_option maxHeartbeats 4000000 in
theorem fr_X9_readSign {R : List Nat}  {s0 : St} {sr : St}  (hL : ∀ x ∈ ([1] : List Nat), x ∈ R)  (h : f_X9_readSign  s0 = some sr) : Fr R s0 sr := by
  have hF : Fr R s0 s0 := Fr.rf
  unfold f_X9_readSign at h
  refine vl_g h (fun v1 h => ?_)
  refine ald_g h (fun v2 h => ?_)
  refine vl_s h (hF.sI (mem_lit rgq_1 hL rfl)) (fun s3 hF h => ?_)
  refine vl_g h (fun v4 h => ?_)
  refine vl_s h (hF.sI (mem_lit rgq_1 hL rfl)) (fun s5 hF h => ?_)
  refine vl_g h (fun v6 h => ?_)
  refine jn_e (fun j => ∀ (v7 : Int32), j v7 = some sr → Fr R s0 sr) h ?_ (fun j8 hj8 h => ?_)
  · intro v7 h
    refine jn_e (fun j => ∀ (v9 : Int32), j v9 = some sr → Fr R s0 sr) h ?_ (fun j10 hj10 h => ?_)
    · intro v9 h
      refine vl_s h (hF.sI (mem_lit rgq_1 hL rfl)) (fun s11 hF h => ?_)
      exact ret_fv h hF
    refine e_ite h (fun _ h => ?_) (fun _ h => ?_)
    · exact hj10 _ h
    exact hj10 _ h
  refine jn_e (fun j => j = some sr → Fr R s0 sr) h ?_ (fun j12 hj12 h => ?_)
  · intro h
    exact hj8 _ h
  refine e_ite h (fun _ h => ?_) (fun _ h => ?_)
  · exact hj12 h
  refine vl_g h (fun v13 h => ?_)
  refine e_ite h (fun _ h => ?_) (fun _ h => ?_)
  · exact hj12 h
  refine vl_g h (fun v14 h => ?_)
  refine e_ite h (fun _ h => ?_) (fun _ h => ?_)
  · exact hj12 h
  refine vl_g h (fun v15 h => ?_)
  refine e_ite h (fun _ h => ?_) (fun _ h => ?_)
  · exact hj12 h
  refine vl_g h (fun v16 h => ?_)
  refine e_ite h (fun _ h => ?_) (fun _ h => ?_)
  · exact hj12 h
  refine vl_g h (fun v17 h => ?_)
  refine e_ite h (fun _ h => ?_) (fun _ h => ?_)
  · exact hj12 h
  exact hj8 _ h

set_option maxHeartbeats 4000000 in
theorem fr_X11_feed {R : List Nat} {N : Nat} {x1 : Int32} {x2 : Int32} {x3 : Int32} {x4 : Int32} {x5 : Int32} {s0 : St} {r : Int32} {sr : St}  (hL : ∀ x ∈ ([1] : List Nat), x ∈ R)  (h : f_X11_feed N x1 x2 x3 x4 x5 s0 = some (r, sr)) : Fr R s0 sr := by
  have hF : Fr R s0 s0 := Fr.rf
  unfold f_X11_feed at h
  refine vl_g h (fun v1 h => ?_)
  refine e_ite h (fun _ h => ?_) (fun _ h => ?_)
  · obtain ⟨s2, hc, h⟩ := bp_e h
    have hF := hF.trans (fr_X9_put (hLsub hL rfl) hc)
    obtain ⟨s3, hc, h⟩ := bp_e h
    have hF := hF.trans (fr_X9_put (hLsub hL rfl) hc)
    obtain ⟨s4, hc, h⟩ := bp_e h
    have hF := hF.trans (fr_X9_put (hLsub hL rfl) hc)
    obtain ⟨s5, hc, h⟩ := bp_e h
    have hF := hF.trans (fr_X9_put (hLsub hL rfl) hc)
    obtain ⟨s6, hc, h⟩ := bp_e h
    have hF := hF.trans (fr_X9_put (hLsub hL rfl) hc)
    refine vl_g h (fun v7 h => ?_)
    exact ret_fi h hF
  exact ret_fi h hF

set_option maxHeartbeats 4000000 in
theorem fr_X11_end {R : List Nat} {x1 : Int32} {s0 : St} {r : Int32} {sr : St}  (hL : ∀ x ∈ ([1] : List Nat), x ∈ R)  (h : f_X11_end x1 s0 = some (r, sr)) : Fr R s0 sr := by
  have hF : Fr R s0 s0 := Fr.rf
  unfold f_X11_end at h
  refine e_ite h (fun _ h => ?_) (fun _ h => ?_)
  · exact ret_fi h hF
  refine vl_g h (fun v1 h => ?_)
  refine e_ite h (fun _ h => ?_) (fun _ h => ?_)
  · refine vl_s h (hF.sI (mem_lit rgq_1 hL rfl)) (fun s2 hF h => ?_)
    exact ret_fi h hF
  exact ret_fi h hF

set_option maxHeartbeats 4000000 in
theorem fr_X11_closeText {R : List Nat}  {s0 : St} {sr : St}  (hL : ∀ x ∈ ([0, 1] : List Nat), x ∈ R)  (h : f_X11_closeText  s0 = some sr) : Fr R s0 sr := by
  have hF : Fr R s0 s0 := Fr.rf
  unfold f_X11_closeText at h
  refine vl_g h (fun v1 h => ?_)
  refine vl_s h (hF.sI (mem_lit rgq_0 hL rfl)) (fun s2 hF h => ?_)
  refine vl_s h (hF.sI (mem_lit rgq_1 hL rfl)) (fun s3 hF h => ?_)
  exact ret_fv h hF

set_option maxHeartbeats 4000000 in
theorem fr_X11_keepIfDone {R : List Nat} {x1 : Int32} {s0 : St} {r : Int32} {sr : St}  (hL : ∀ x ∈ ([9] : List Nat), x ∈ R)  (h : f_X11_keepIfDone x1 s0 = some (r, sr)) : Fr R s0 sr := by
  have hF : Fr R s0 s0 := Fr.rf
  unfold f_X11_keepIfDone at h
  refine e_ite h (fun _ h => ?_) (fun _ h => ?_)
  · obtain ⟨s1, hc, h⟩ := bp_e h
    have hF := hF.trans (fr_X5_keep (hLsub hL rfl) hc)
    exact ret_fi h hF
  exact ret_fi h hF

set_option maxHeartbeats 4000000 in
theorem fr_X11_keepIfAny {R : List Nat} {x1 : Int32} {s0 : St} {r : Int32} {sr : St}  (hL : ∀ x ∈ ([9] : List Nat), x ∈ R)  (h : f_X11_keepIfAny x1 s0 = some (r, sr)) : Fr R s0 sr := by
  have hF : Fr R s0 s0 := Fr.rf
  unfold f_X11_keepIfAny at h
  refine e_ite h (fun _ h => ?_) (fun _ h => ?_)
  · exact ret_fi h hF
  obtain ⟨s1, hc, h⟩ := bp_e h
  have hF := hF.trans (fr_X5_keep (hLsub hL rfl) hc)
  exact ret_fi h hF

set_option maxHeartbeats 4000000 in
theorem fr_X11_tagByte {R : List Nat} {x1 : Int32} {s0 : St} {sr : St}  (hL : ∀ x ∈ ([0] : List Nat), x ∈ R)  (h : f_X11_tagByte x1 s0 = some sr) : Fr R s0 sr := by
  have hF : Fr R s0 s0 := Fr.rf
  unfold f_X11_tagByte at h
  refine vl_g h (fun v1 h => ?_)
  refine e_ite h (fun _ h => ?_) (fun _ h => ?_)
  · exact ret_fv h hF
  refine vl_g h (fun v2 h => ?_)
  refine ald_s h (fun _ => hF.sI (mem_lit rgq_135 hL rfl)) (fun s3 hF h => ?_)
  refine vl_g h (fun v4 h => ?_)
  refine vl_s h (hF.sI (mem_lit rgq_0 hL rfl)) (fun s5 hF h => ?_)
  exact ret_fv h hF

set_option maxHeartbeats 4000000 in
theorem fr_X11_tagWord_L3 {R : List Nat} {N : Nat} {c1 : Int64}  {s0 : St}  {sr : St}  (hL : ∀ x ∈ ([0] : List Nat), x ∈ R)    : ∀ (n4 : Nat) (v2 : Int32) (s3 : St), Fr R s0 s3 → f_X11_tagWord_L3 N c1 n4 v2 s3 = some sr → Fr R s0 sr := by
  intro n4
  induction n4 with
  | zero =>
    intro v2 s3 hF h
    rw [f_X11_tagWord_L3] at h; cases h
  | succ n4 ih5 =>
    intro v2 s3 hF h
    rw [f_X11_tagWord_L3] at h
    refine e_ite h (fun _ h => ?_) (fun _ h => ?_)
    · exact ret_fv h hF
    refine vl_g h (fun v6 h => ?_)
    refine jn_e (fun j => ∀ (s7 : St), Fr R s0 s7 → j s7 = some sr → Fr R s0 sr) h ?_ (fun j8 hj8 h => ?_)
    · intro s7 hF h
      refine vl_g h (fun v9 h => ?_)
      exact ih5 _ _ hF h
    refine e_ite h (fun _ h => ?_) (fun _ h => ?_)
    · exact hj8 _ hF h
    obtain ⟨s10, hc, h⟩ := bp_e h
    have hF := hF.trans (fr_X11_tagByte (hLsub hL rfl) hc)
    exact hj8 _ hF h

set_option maxHeartbeats 4000000 in
theorem fr_X11_tagWord {R : List Nat} {N : Nat} {x1 : Int64} {s0 : St} {sr : St}  (hL : ∀ x ∈ ([0] : List Nat), x ∈ R)  (h : f_X11_tagWord N x1 s0 = some sr) : Fr R s0 sr := by
  have hF : Fr R s0 s0 := Fr.rf
  unfold f_X11_tagWord at h
  exact fr_X11_tagWord_L3 (hLsub hL rfl)  _ _ _ hF h

set_option maxHeartbeats 4000000 in
theorem fr_X11_tagNumber {R : List Nat} {x1 : Int32} {s0 : St} {sr : St}  (hL : ∀ x ∈ ([0] : List Nat), x ∈ R)  (h : f_X11_tagNumber x1 s0 = some sr) : Fr R s0 sr := by
  have hF : Fr R s0 s0 := Fr.rf
  unfold f_X11_tagNumber at h
  refine jn_e (fun j => ∀ (s1 : St), Fr R s0 s1 → j s1 = some sr → Fr R s0 sr) h ?_ (fun j2 hj2 h => ?_)
  · intro s1 hF h
    refine rm_g h (fun v3 h => ?_)
    obtain ⟨s4, hc, h⟩ := bp_e h
    have hF := hF.trans (fr_X11_tagByte (hLsub hL rfl) hc)
    exact ret_fv h hF
  refine e_ite h (fun _ h => ?_) (fun _ h => ?_)
  · exact hj2 _ hF h
  refine dv_g h (fun v5 h => ?_)
  obtain ⟨s6, hc, h⟩ := bp_e h
  have hF := hF.trans (fr_X11_tagByte (hLsub hL rfl) hc)
  exact hj2 _ hF h

set_option maxHeartbeats 4000000 in
theorem fr_X12_throwsIf {R : List Nat} {x1 : Int32} {s0 : St} {r : Int32} {sr : St}  (hL : ∀ x ∈ ([206] : List Nat), x ∈ R)  (h : f_X12_throwsIf x1 s0 = some (r, sr)) : Fr R s0 sr := by
  have hF : Fr R s0 s0 := Fr.rf
  unfold f_X12_throwsIf at h
  refine jn_e (fun j => ∀ (v1 : Int32), j v1 = some (r, sr) → Fr R s0 sr) h ?_ (fun j2 hj2 h => ?_)
  · intro v1 h
    refine vl_s h (hF.sI (mem_lit rgq_206 hL rfl)) (fun s3 hF h => ?_)
    refine rz_e h (fun _ h => ?_)
    exact ret_fi h hF
  refine e_ite h (fun _ h => ?_) (fun _ h => ?_)
  · exact hj2 _ h
  exact hj2 _ h

set_option maxHeartbeats 4000000 in
theorem fr_X12_four_L3 {R : List Nat} {N : Nat} {c1 : Int32}  {s0 : St}  {sr : St}  (hL : ∀ x ∈ ([206, 207] : List Nat), x ∈ R)    : ∀ (n4 : Nat) (v2 : Int32) (s3 : St), Fr R s0 s3 → f_X12_four_L3 N c1 n4 v2 s3 = some sr → Fr R s0 sr := by
  intro n4
  induction n4 with
  | zero =>
    intro v2 s3 hF h
    rw [f_X12_four_L3] at h; cases h
  | succ n4 ih5 =>
    intro v2 s3 hF h
    rw [f_X12_four_L3] at h
    refine e_ite h (fun _ h => ?_) (fun _ h => ?_)
    · exact ret_fv h hF
    refine vl_g h (fun v6 h => ?_)
    refine ald_s h (fun _ => hF.sI (mem_lit rgq_207 hL rfl)) (fun s7 hF h => ?_)
    refine vl_g h (fun v8 h => ?_)
    refine vl_s h (hF.sI (mem_lit rgq_206 hL rfl)) (fun s9 hF h => ?_)
    refine vl_g h (fun v10 h => ?_)
    exact ih5 _ _ hF h

set_option maxHeartbeats 4000000 in
theorem fr_X12_four {R : List Nat} {N : Nat} {x1 : Int32} {s0 : St} {sr : St}  (hL : ∀ x ∈ ([206, 207] : List Nat), x ∈ R)  (h : f_X12_four N x1 s0 = some sr) : Fr R s0 sr := by
  have hF : Fr R s0 s0 := Fr.rf
  unfold f_X12_four at h
  exact fr_X12_four_L3 (hLsub hL rfl)  _ _ _ hF h

set_option maxHeartbeats 4000000 in
theorem fr_X12_end {R : List Nat} {x1 : Int32} {s0 : St} {r : Int32} {sr : St}  (hL : ∀ x ∈ ([206] : List Nat), x ∈ R)  (h : f_X12_end x1 s0 = some (r, sr)) : Fr R s0 sr := by
  have hF : Fr R s0 s0 := Fr.rf
  unfold f_X12_end at h
  refine vl_s h (hF.sI (mem_lit rgq_206 hL rfl)) (fun s1 hF h => ?_)
  refine e_ite h (fun _ h => ?_) (fun _ h => ?_)
  · exact ret_fi h hF
  refine vl_g h (fun v2 h => ?_)
  refine e_ite h (fun _ h => ?_) (fun _ h => ?_)
  · refine vl_s h (hF.sI (mem_lit rgq_206 hL rfl)) (fun s3 hF h => ?_)
    exact ret_fi h hF
  exact ret_fi h hF

set_option maxHeartbeats 4000000 in
theorem fr_X12_taken {R : List Nat} {x1 : Int32} {s0 : St} {sr : St}  (hL : ∀ x ∈ ([206] : List Nat), x ∈ R)  (h : f_X12_taken x1 s0 = some sr) : Fr R s0 sr := by
  have hF : Fr R s0 s0 := Fr.rf
  unfold f_X12_taken at h
  refine vl_g h (fun v1 h => ?_)
  refine vl_s h (hF.sI (mem_lit rgq_206 hL rfl)) (fun s2 hF h => ?_)
  refine vl_s h (hF.sI (mem_lit rgq_206 hL rfl)) (fun s3 hF h => ?_)
  refine vl_s h (hF.sI (mem_lit rgq_206 hL rfl)) (fun s4 hF h => ?_)
  refine vl_s h (hF.sI (mem_lit rgq_206 hL rfl)) (fun s5 hF h => ?_)
  exact ret_fv h hF

set_option maxHeartbeats 4000000 in
theorem fr_X12_clears_L2 {R : List Nat} {N : Nat}  {k3 : St → Option (St)} {s0 : St}  {sr : St}  (hL : ∀ x ∈ ([209] : List Nat), x ∈ R)  (hk3 : ∀ (s4 : St), Fr R s0 s4 → k3 s4 = some sr → Fr R s0 sr)  : ∀ (n5 : Nat) (v1 : Int32) (s2 : St), Fr R s0 s2 → f_X12_clears_L2 N k3 n5 v1 s2 = some sr → Fr R s0 sr := by
  intro n5
  induction n5 with
  | zero =>
    intro v1 s2 hF h
    rw [f_X12_clears_L2] at h; cases h
  | succ n5 ih6 =>
    intro v1 s2 hF h
    rw [f_X12_clears_L2] at h
    refine e_ite h (fun _ h => ?_) (fun _ h => ?_)
    · exact hk3 _ hF h
    refine ald_s h (fun _ => hF.sI (mem_lit rgq_209 hL rfl)) (fun s7 hF h => ?_)
    refine vl_g h (fun v8 h => ?_)
    exact ih6 _ _ hF h

set_option maxHeartbeats 4000000 in
theorem fr_X12_clears {R : List Nat} {N : Nat}  {s0 : St} {sr : St}  (hL : ∀ x ∈ ([209] : List Nat), x ∈ R)  (h : f_X12_clears N  s0 = some sr) : Fr R s0 sr := by
  have hF : Fr R s0 s0 := Fr.rf
  unfold f_X12_clears at h
  refine fr_X12_clears_L2 (hLsub hL rfl) (fun s9 hF h => ?_) _ _ _ hF h
  refine ald_s h (fun _ => hF.sI (mem_lit rgq_209 hL rfl)) (fun s10 hF h => ?_)
  exact ret_fv h hF

set_option maxHeartbeats 4000000 in
theorem fr_X12_next_L0 {R : List Nat} {N : Nat}  {k2 : St → Option (St)} {s0 : St}  {sr : St}  (hL : ∀ x ∈ ([206] : List Nat), x ∈ R)  (hk2 : ∀ (s3 : St), Fr R s0 s3 → k2 s3 = some sr → Fr R s0 sr)  : ∀ (n4 : Nat) (s1 : St), Fr R s0 s1 → f_X12_next_L0 N k2 n4 s1 = some sr → Fr R s0 sr := by
  intro n4
  induction n4 with
  | zero =>
    intro s1 hF h
    rw [f_X12_next_L0] at h; cases h
  | succ n4 ih5 =>
    intro s1 hF h
    rw [f_X12_next_L0] at h
    refine bp_g h (fun v6 h => ?_)
    refine jn_e (fun j => j = some sr → Fr R s0 sr) h ?_ (fun j7 hj7 h => ?_)
    · intro h
      refine vl_g h (fun v8 h => ?_)
      refine vl_s h (hF.sI (mem_lit rgq_206 hL rfl)) (fun s9 hF h => ?_)
      exact ih5 _ hF h
    refine e_ite h (fun _ h => ?_) (fun _ h => ?_)
    · exact hj7 h
    refine bp_g h (fun v10 h => ?_)
    refine e_ite h (fun _ h => ?_) (fun _ h => ?_)
    · exact hj7 h
    exact hk2 _ hF h

set_option maxHeartbeats 4000000 in
theorem fr_X12_next_L181 {R : List Nat} {N : Nat} {c24 : Int32} {k27 : Int32 → St → Option (St)} {s0 : St}  {sr : St}  (hL : ∀ x ∈ ([206] : List Nat), x ∈ R)  (hk27 : ∀ (v28 : Int32) (s29 : St), Fr R s0 s29 → k27 v28 s29 = some sr → Fr R s0 sr)  : ∀ (n30 : Nat) (v25 : Int32) (s26 : St), Fr R s0 s26 → f_X12_next_L181 N c24 k27 n30 v25 s26 = some sr → Fr R s0 sr := by
  intro n30
  induction n30 with
  | zero =>
    intro v25 s26 hF h
    rw [f_X12_next_L181] at h; cases h
  | succ n30 ih31 =>
    intro v25 s26 hF h
    rw [f_X12_next_L181] at h
    refine bp_g h (fun v32 h => ?_)
    refine bp_g h (fun v33 h => ?_)
    refine jn_e (fun j => j = some sr → Fr R s0 sr) h ?_ (fun j34 hj34 h => ?_)
    · intro h
      refine jn_e (fun j => ∀ (v35 : Int32), j v35 = some sr → Fr R s0 sr) h ?_ (fun j36 hj36 h => ?_)
      · intro v35 h
        refine vl_g h (fun v37 h => ?_)
        refine jn_e (fun j => ∀ (s38 : St), Fr R s0 s38 → j s38 = some sr → Fr R s0 sr) h ?_ (fun j39 hj39 h => ?_)
        · intro s38 hF h
          refine vl_g h (fun v40 h => ?_)
          refine jn_e (fun j => ∀ (s41 : St), Fr R s0 s41 → j s41 = some sr → Fr R s0 sr) h ?_ (fun j42 hj42 h => ?_)
          · intro s41 hF h
            refine vl_g h (fun v43 h => ?_)
            refine vl_s h (hF.sI (mem_lit rgq_206 hL rfl)) (fun s44 hF h => ?_)
            refine vl_g h (fun v45 h => ?_)
            refine vl_s h (hF.sI (mem_lit rgq_206 hL rfl)) (fun s46 hF h => ?_)
            exact ih31 _ _ hF h
          refine e_ite h (fun _ h => ?_) (fun _ h => ?_)
          · exact hj42 _ hF h
          refine vl_g h (fun v47 h => ?_)
          refine bp_g h (fun v48 h => ?_)
          refine vl_s h (hF.sI (mem_lit rgq_206 hL rfl)) (fun s49 hF h => ?_)
          exact hj42 _ hF h
        refine e_ite h (fun _ h => ?_) (fun _ h => ?_)
        · exact hj39 _ hF h
        refine vl_g h (fun v50 h => ?_)
        refine bp_g h (fun v51 h => ?_)
        refine vl_s h (hF.sL (mem_lit rgq_206 hL rfl)) (fun s52 hF h => ?_)
        exact hj39 _ hF h
      refine jn_e (fun j => j = some sr → Fr R s0 sr) h ?_ (fun j53 hj53 h => ?_)
      · intro h
        exact hj36 _ h
      refine e_ite h (fun _ h => ?_) (fun _ h => ?_)
      · exact hj53 h
      refine bp_g h (fun v54 h => ?_)
      refine bp_g h (fun v55 h => ?_)
      refine e_ite h (fun _ h => ?_) (fun _ h => ?_)
      · exact hj36 _ h
      exact hj53 h
    refine e_ite h (fun _ h => ?_) (fun _ h => ?_)
    · refine bp_g h (fun v56 h => ?_)
      refine bp_g h (fun v57 h => ?_)
      refine e_ite h (fun _ h => ?_) (fun _ h => ?_)
      · exact hk27 _ _ hF h
      exact hj34 h
    exact hj34 h

set_option maxHeartbeats 4000000 in
theorem fr_X12_next {R : List Nat} {N : Nat}  {s0 : St} {sr : St}  (hL : ∀ x ∈ ([206] : List Nat), x ∈ R)  (h : f_X12_next N  s0 = some sr) : Fr R s0 sr := by
  have hF : Fr R s0 s0 := Fr.rf
  unfold f_X12_next at h
  refine fr_X12_next_L0 (hLsub hL rfl) (fun s11 hF h => ?_) _ _ hF h
  refine vl_g h (fun v12 h => ?_)
  refine vl_s h (hF.sI (mem_lit rgq_206 hL rfl)) (fun s13 hF h => ?_)
  refine vl_s h (hF.sI (mem_lit rgq_206 hL rfl)) (fun s14 hF h => ?_)
  refine vl_g h (fun v15 h => ?_)
  refine vl_g h (fun v16 h => ?_)
  refine jn_e (fun j => j = some sr → Fr R s0 sr) h ?_ (fun j17 hj17 h => ?_)
  · intro h
    refine bp_g h (fun v18 h => ?_)
    refine e_ite h (fun _ h => ?_) (fun _ h => ?_)
    · refine bp_g h (fun v19 h => ?_)
      refine jn_e (fun j => j = some sr → Fr R s0 sr) h ?_ (fun j20 hj20 h => ?_)
      · intro h
        refine bp_g h (fun v21 h => ?_)
        refine vl_s h (hF.sL (mem_lit rgq_206 hL rfl)) (fun s22 hF h => ?_)
        refine vl_s h (hF.sI (mem_lit rgq_206 hL rfl)) (fun s23 hF h => ?_)
        refine fr_X12_next_L181 (hLsub hL rfl) (fun v58 s59 hF h => ?_) _ _ _ hF h
        refine jn_e (fun j => ∀ (v60 : Int32), j v60 = some sr → Fr R s0 sr) h ?_ (fun j61 hj61 h => ?_)
        · intro v60 h
          refine vl_s h (hF.sI (mem_lit rgq_206 hL rfl)) (fun s62 hF h => ?_)
          exact ret_fv h hF
        refine jn_e (fun j => j = some sr → Fr R s0 sr) h ?_ (fun j63 hj63 h => ?_)
        · intro h
          exact hj61 _ h
        refine e_ite h (fun _ h => ?_) (fun _ h => ?_)
        · exact hj63 h
        refine vl_g h (fun v64 h => ?_)
        refine jn_e (fun j => ∀ (v65 : Int32), j v65 = some sr → Fr R s0 sr) h ?_ (fun j66 hj66 h => ?_)
        · intro v65 h
          refine e_ite h (fun _ h => ?_) (fun _ h => ?_)
          · refine e_ite h (fun _ h => ?_) (fun _ h => ?_)
            · exact hj61 _ h
            exact hj61 _ h
          exact hj63 h
        refine e_ite h (fun _ h => ?_) (fun _ h => ?_)
        · exact hj66 _ h
        exact hj66 _ h
      refine e_ite h (fun _ h => ?_) (fun _ h => ?_)
      · refine bp_g h (fun v67 h => ?_)
        refine e_ite h (fun _ h => ?_) (fun _ h => ?_)
        · refine jn_e (fun j => ∀ (v68 : Int32), j v68 = some sr → Fr R s0 sr) h ?_ (fun j69 hj69 h => ?_)
          · intro v68 h
            refine vl_s h (hF.sI (mem_lit rgq_206 hL rfl)) (fun s70 hF h => ?_)
            refine vl_s h (hF.sI (mem_lit rgq_206 hL rfl)) (fun s71 hF h => ?_)
            refine vl_g h (fun v72 h => ?_)
            refine vl_s h (hF.sI (mem_lit rgq_206 hL rfl)) (fun s73 hF h => ?_)
            exact ret_fv h hF
          refine jn_e (fun j => j = some sr → Fr R s0 sr) h ?_ (fun j74 hj74 h => ?_)
          · intro h
            exact hj69 _ h
          refine e_ite h (fun _ h => ?_) (fun _ h => ?_)
          · exact hj74 h
          refine e_ite h (fun _ h => ?_) (fun _ h => ?_)
          · exact hj74 h
          refine e_ite h (fun _ h => ?_) (fun _ h => ?_)
          · exact hj74 h
          refine jn_e (fun j => j = some sr → Fr R s0 sr) h ?_ (fun j75 hj75 h => ?_)
          · intro h
            exact hj69 _ h
          refine e_ite h (fun _ h => ?_) (fun _ h => ?_)
          · exact hj75 h
          refine e_ite h (fun _ h => ?_) (fun _ h => ?_)
          · exact hj75 h
          exact hj74 h
        exact hj20 h
      exact hj20 h
    refine vl_s h (hF.sI (mem_lit rgq_206 hL rfl)) (fun s76 hF h => ?_)
    exact ret_fv h hF
  refine e_ite h (fun _ h => ?_) (fun _ h => ?_)
  · exact hj17 h
  refine vl_g h (fun v77 h => ?_)
  refine vl_g h (fun v78 h => ?_)
  refine e_ite h (fun _ h => ?_) (fun _ h => ?_)
  · exact hj17 h
  refine vl_g h (fun v79 h => ?_)
  refine vl_s h (hF.sI (mem_lit rgq_206 hL rfl)) (fun s80 hF h => ?_)
  refine vl_s h (hF.sI (mem_lit rgq_206 hL rfl)) (fun s81 hF h => ?_)
  exact ret_fv h hF

set_option maxHeartbeats 4000000 in
theorem fr_X12_bad {R : List Nat} {x1 : Int32} {s0 : St} {r : Int32} {sr : St}  (hL : ∀ x ∈ ([206] : List Nat), x ∈ R)  (h : f_X12_bad x1 s0 = some (r, sr)) : Fr R s0 sr := by
  have hF : Fr R s0 s0 := Fr.rf
  unfold f_X12_bad at h
  refine vl_s h (hF.sI (mem_lit rgq_206 hL rfl)) (fun s1 hF h => ?_)
  refine vl_g h (fun v2 h => ?_)
  refine vl_s h (hF.sI (mem_lit rgq_206 hL rfl)) (fun s3 hF h => ?_)
  exact ret_fi h hF

set_option maxHeartbeats 4000000 in
theorem fr_X12_sign {R : List Nat} {N : Nat} {x1 : Int32} {s0 : St} {r : Int32} {sr : St}  (hL : ∀ x ∈ ([206] : List Nat), x ∈ R)  (h : f_X12_sign N x1 s0 = some (r, sr)) : Fr R s0 sr := by
  have hF : Fr R s0 s0 := Fr.rf
  unfold f_X12_sign at h
  refine bp_g h (fun v1 h => ?_)
  refine e_ite h (fun _ h => ?_) (fun _ h => ?_)
  · obtain ⟨v2, s3, hc, h⟩ := bd_e h
    have hF := hF.trans (fr_X12_bad (hLsub hL rfl) hc)
    refine rz_e h (fun _ h => ?_)
    exact ret_fi h hF
  obtain ⟨s4, hc, h⟩ := bp_e h
  have hF := hF.trans (fr_X12_next (hLsub hL rfl) hc)
  exact ret_fi h hF

set_option maxHeartbeats 4000000 in
theorem fr_X12_takes {R : List Nat} {N : Nat} {x1 : Int32} {x2 : Int32} {s0 : St} {r : Int32} {sr : St}  (hL : ∀ x ∈ ([206] : List Nat), x ∈ R)  (h : f_X12_takes N x1 x2 s0 = some (r, sr)) : Fr R s0 sr := by
  have hF : Fr R s0 s0 := Fr.rf
  unfold f_X12_takes at h
  refine vl_g h (fun v1 h => ?_)
  refine e_ite h (fun _ h => ?_) (fun _ h => ?_)
  · refine vl_g h (fun v2 h => ?_)
    refine bp_g h (fun v3 h => ?_)
    refine e_ite h (fun _ h => ?_) (fun _ h => ?_)
    · obtain ⟨v4, s5, hc, h⟩ := bd_e h
      have hF := hF.trans (fr_X12_bad (hLsub hL rfl) hc)
      refine rz_e h (fun _ h => ?_)
      exact ret_fi h hF
    refine vl_g h (fun v6 h => ?_)
    refine vl_s h (hF.sI (mem_lit rgq_206 hL rfl)) (fun s7 hF h => ?_)
    obtain ⟨s8, hc, h⟩ := bp_e h
    have hF := hF.trans (fr_X12_next (hLsub hL rfl) hc)
    exact ret_fi h hF
  obtain ⟨v9, s10, hc, h⟩ := bd_e h
  have hF := hF.trans (fr_X12_bad (hLsub hL rfl) hc)
  refine rz_e h (fun _ h => ?_)
  exact ret_fi h hF

set_option maxHeartbeats 4000000 in
theorem fr_X12_puts {R : List Nat} {N : Nat} {x1 : Int32} {x2 : Int32} {x3 : Int32} {s0 : St} {r : Int32} {sr : St}  (hL : ∀ x ∈ ([206, 209] : List Nat), x ∈ R)  (h : f_X12_puts N x1 x2 x3 s0 = some (r, sr)) : Fr R s0 sr := by
  have hF : Fr R s0 s0 := Fr.rf
  unfold f_X12_puts at h
  obtain ⟨v1, s2, hc, h⟩ := bd_e h
  have hF := hF.trans (fr_X12_takes (hLsub hL rfl) hc)
  refine e_ite h (fun _ h => ?_) (fun _ h => ?_)
  · exact ret_fi h hF
  refine vl_g h (fun v3 h => ?_)
  refine ald_s h (fun _ => hF.sI (mem_lit rgq_209 hL rfl)) (fun s4 hF h => ?_)
  exact ret_fi h hF

set_option maxHeartbeats 4000000 in
theorem fr_X12_fresh {R : List Nat} {N : Nat} {x1 : Int32} {s0 : St} {r : Int32} {sr : St}  (hL : ∀ x ∈ ([206, 211] : List Nat), x ∈ R)  (h : f_X12_fresh N x1 s0 = some (r, sr)) : Fr R s0 sr := by
  have hF : Fr R s0 s0 := Fr.rf
  unfold f_X12_fresh at h
  refine bp_g h (fun v1 h => ?_)
  refine e_ite h (fun _ h => ?_) (fun _ h => ?_)
  · obtain ⟨v2, s3, hc, h⟩ := bd_e h
    have hF := hF.trans (fr_X12_bad (hLsub hL rfl) hc)
    refine rz_e h (fun _ h => ?_)
    exact ret_fi h hF
  refine ald_g h (fun v4 h => ?_)
  refine bp_g h (fun v5 h => ?_)
  refine jn_e (fun j => j = some (r, sr) → Fr R s0 sr) h ?_ (fun j6 hj6 h => ?_)
  · intro h
    obtain ⟨v7, s8, hc, h⟩ := bd_e h
    have hF := hF.trans (fr_X12_bad (hLsub hL rfl) hc)
    refine rz_e h (fun _ h => ?_)
    exact ret_fi h hF
  refine e_ite h (fun _ h => ?_) (fun _ h => ?_)
  · exact hj6 h
  refine ald_g h (fun v9 h => ?_)
  refine bp_g h (fun v10 h => ?_)
  refine e_ite h (fun _ h => ?_) (fun _ h => ?_)
  · refine vl_g h (fun v11 h => ?_)
    refine ald_s h (fun _ => hF.sL (mem_lit rgq_211 hL rfl)) (fun s12 hF h => ?_)
    obtain ⟨s13, hc, h⟩ := bp_e h
    have hF := hF.trans (fr_X12_next (hLsub hL rfl) hc)
    exact ret_fi h hF
  exact hj6 h

set_option maxHeartbeats 4000000 in
theorem fr_X12_looksAt {R : List Nat} {N : Nat} {x1 : Int32} {x2 : Int32} {s0 : St} {r : Int32} {sr : St}  (hL : ∀ x ∈ ([206] : List Nat), x ∈ R)  (h : f_X12_looksAt N x1 x2 s0 = some (r, sr)) : Fr R s0 sr := by
  have hF : Fr R s0 s0 := Fr.rf
  unfold f_X12_looksAt at h
  refine bp_g h (fun v1 h => ?_)
  refine e_ite h (fun _ h => ?_) (fun _ h => ?_)
  · obtain ⟨v2, s3, hc, h⟩ := bd_e h
    have hF := hF.trans (fr_X12_bad (hLsub hL rfl) hc)
    refine rz_e h (fun _ h => ?_)
    exact ret_fi h hF
  refine bp_g h (fun v4 h => ?_)
  refine vl_s h (hF.sI (mem_lit rgq_206 hL rfl)) (fun s5 hF h => ?_)
  refine vl_g h (fun v6 h => ?_)
  refine e_ite h (fun _ h => ?_) (fun _ h => ?_)
  · exact ret_fi h hF
  obtain ⟨v7, s8, hc, h⟩ := bd_e h
  have hF := hF.trans (fr_X12_bad (hLsub hL rfl) hc)
  refine e_ite h (fun _ h => ?_) (fun _ h => ?_)
  · exact ret_fi h hF
  exact ret_fi h hF

set_option maxHeartbeats 4000000 in
theorem fr_X12_takesName {R : List Nat} {N : Nat} {x1 : Int32} {x2 : Int32} {s0 : St} {r : Int32} {sr : St}  (hL : ∀ x ∈ ([206] : List Nat), x ∈ R)  (h : f_X12_takesName N x1 x2 s0 = some (r, sr)) : Fr R s0 sr := by
  have hF : Fr R s0 s0 := Fr.rf
  unfold f_X12_takesName at h
  obtain ⟨v1, s2, hc, h⟩ := bd_e h
  have hF := hF.trans (fr_X12_looksAt (hLsub hL rfl) hc)
  refine e_ite h (fun _ h => ?_) (fun _ h => ?_)
  · exact ret_fi h hF
  obtain ⟨s3, hc, h⟩ := bp_e h
  have hF := hF.trans (fr_X12_next (hLsub hL rfl) hc)
  exact ret_fi h hF

set_option maxHeartbeats 4000000 in
theorem fr_X12_readLight {R : List Nat} {N : Nat}  {s0 : St} {r : Int32} {sr : St}  (hL : ∀ x ∈ ([206, 209, 211] : List Nat), x ∈ R)  (h : f_X12_readLight N  s0 = some (r, sr)) : Fr R s0 sr := by
  have hF : Fr R s0 s0 := Fr.rf
  unfold f_X12_readLight at h
  refine ald_g h (fun v1 h => ?_)
  refine e_ite h (fun _ h => ?_) (fun _ h => ?_)
  · obtain ⟨v2, s3, hc, h⟩ := bd_e h
    have hF := hF.trans (fr_X12_bad (hLsub hL rfl) hc)
    refine rz_e h (fun _ h => ?_)
    exact ret_fi h hF
  obtain ⟨s4, hc, h⟩ := bp_e h
  have hF := hF.trans (fr_X12_next (hLsub hL rfl) hc)
  obtain ⟨v5, s6, hc, h⟩ := bd_e h
  have hF := hF.trans (fr_X12_fresh (hLsub hL rfl) hc)
  refine e_ite h (fun _ h => ?_) (fun _ h => ?_)
  · exact ret_fi h hF
  obtain ⟨v7, s8, hc, h⟩ := bd_e h
  have hF := hF.trans (fr_X12_puts (hLsub hL rfl) hc)
  refine e_ite h (fun _ h => ?_) (fun _ h => ?_)
  · exact ret_fi h hF
  obtain ⟨v9, s10, hc, h⟩ := bd_e h
  have hF := hF.trans (fr_X12_puts (hLsub hL rfl) hc)
  refine e_ite h (fun _ h => ?_) (fun _ h => ?_)
  · exact ret_fi h hF
  obtain ⟨v11, s12, hc, h⟩ := bd_e h
  have hF := hF.trans (fr_X12_puts (hLsub hL rfl) hc)
  refine e_ite h (fun _ h => ?_) (fun _ h => ?_)
  · exact ret_fi h hF
  refine bp_g h (fun v13 h => ?_)
  refine jn_e (fun j => ∀ (v14 : Int32), j v14 = some (r, sr) → Fr R s0 sr) h ?_ (fun j15 hj15 h => ?_)
  · intro v14 h
    refine e_ite h (fun _ h => ?_) (fun _ h => ?_)
    · obtain ⟨v16, s17, hc, h⟩ := bd_e h
      have hF := hF.trans (fr_X12_bad (hLsub hL rfl) hc)
      refine rz_e h (fun _ h => ?_)
      exact ret_fi h hF
    refine ald_s h (fun _ => hF.sI (mem_lit rgq_209 hL rfl)) (fun s18 hF h => ?_)
    obtain ⟨s19, hc, h⟩ := bp_e h
    have hF := hF.trans (fr_X12_next (hLsub hL rfl) hc)
    obtain ⟨v20, s21, hc, h⟩ := bd_e h
    have hF := hF.trans (fr_X12_puts (hLsub hL rfl) hc)
    refine e_ite h (fun _ h => ?_) (fun _ h => ?_)
    · exact ret_fi h hF
    refine ald_g h (fun v22 h => ?_)
    refine ald_s h (fun _ => hF.sI (mem_lit rgq_209 hL rfl)) (fun s23 hF h => ?_)
    exact ret_fi h hF
  refine e_ite h (fun _ h => ?_) (fun _ h => ?_)
  · refine bp_g h (fun v24 h => ?_)
    refine e_ite h (fun _ h => ?_) (fun _ h => ?_)
    · refine bp_g h (fun v25 h => ?_)
      refine e_ite h (fun _ h => ?_) (fun _ h => ?_)
      · exact hj15 _ h
      exact hj15 _ h
    exact hj15 _ h
  exact hj15 _ h

set_option maxHeartbeats 4000000 in
theorem fr_X12_readFlash {R : List Nat} {N : Nat}  {s0 : St} {r : Int32} {sr : St}  (hL : ∀ x ∈ ([206, 209] : List Nat), x ∈ R)  (h : f_X12_readFlash N  s0 = some (r, sr)) : Fr R s0 sr := by
  have hF : Fr R s0 s0 := Fr.rf
  unfold f_X12_readFlash at h
  obtain ⟨s1, hc, h⟩ := bp_e h
  have hF := hF.trans (fr_X12_next (hLsub hL rfl) hc)
  refine ald_g h (fun v2 h => ?_)
  obtain ⟨v3, s4, hc, h⟩ := bd_e h
  have hF := hF.trans (fr_X12_looksAt (hLsub hL rfl) hc)
  refine e_ite h (fun _ h => ?_) (fun _ h => ?_)
  · exact ret_fi h hF
  refine vl_g h (fun v5 h => ?_)
  refine ald_g h (fun v6 h => ?_)
  refine e_ite h (fun _ h => ?_) (fun _ h => ?_)
  · obtain ⟨v7, s8, hc, h⟩ := bd_e h
    have hF := hF.trans (fr_X12_bad (hLsub hL rfl) hc)
    refine rz_e h (fun _ h => ?_)
    exact ret_fi h hF
  obtain ⟨s9, hc, h⟩ := bp_e h
  have hF := hF.trans (fr_X12_next (hLsub hL rfl) hc)
  obtain ⟨v10, s11, hc, h⟩ := bd_e h
  have hF := hF.trans (fr_X12_puts (hLsub hL rfl) hc)
  refine e_ite h (fun _ h => ?_) (fun _ h => ?_)
  · exact ret_fi h hF
  obtain ⟨v12, s13, hc, h⟩ := bd_e h
  have hF := hF.trans (fr_X12_puts (hLsub hL rfl) hc)
  refine e_ite h (fun _ h => ?_) (fun _ h => ?_)
  · exact ret_fi h hF
  refine ald_g h (fun v14 h => ?_)
  refine ald_s h (fun _ => hF.sI (mem_lit rgq_209 hL rfl)) (fun s15 hF h => ?_)
  exact ret_fi h hF

set_option maxHeartbeats 4000000 in
theorem fr_X12_readFrom {R : List Nat} {N : Nat}  {s0 : St} {r : Int32} {sr : St}  (hL : ∀ x ∈ ([206, 209] : List Nat), x ∈ R)  (h : f_X12_readFrom N  s0 = some (r, sr)) : Fr R s0 sr := by
  have hF : Fr R s0 s0 := Fr.rf
  unfold f_X12_readFrom at h
  obtain ⟨s1, hc, h⟩ := bp_e h
  have hF := hF.trans (fr_X12_next (hLsub hL rfl) hc)
  refine ald_g h (fun v2 h => ?_)
  obtain ⟨v3, s4, hc, h⟩ := bd_e h
  have hF := hF.trans (fr_X12_looksAt (hLsub hL rfl) hc)
  refine e_ite h (fun _ h => ?_) (fun _ h => ?_)
  · exact ret_fi h hF
  refine vl_g h (fun v5 h => ?_)
  refine vl_g h (fun v6 h => ?_)
  refine bp_g h (fun v7 h => ?_)
  refine e_ite h (fun _ h => ?_) (fun _ h => ?_)
  · refine vl_g h (fun v8 h => ?_)
    refine vl_s h (hF.sI (mem_lit rgq_206 hL rfl)) (fun s9 hF h => ?_)
    obtain ⟨s10, hc, h⟩ := bp_e h
    have hF := hF.trans (fr_X12_next (hLsub hL rfl) hc)
    obtain ⟨v11, s12, hc, h⟩ := bd_e h
    have hF := hF.trans (fr_X12_puts (hLsub hL rfl) hc)
    refine rz_e h (fun _ h => ?_)
    exact ret_fi h hF
  obtain ⟨v13, s14, hc, h⟩ := bd_e h
  have hF := hF.trans (fr_X12_bad (hLsub hL rfl) hc)
  refine rz_e h (fun _ h => ?_)
  exact ret_fi h hF

set_option maxHeartbeats 4000000 in
theorem fr_X12_readDark {R : List Nat} {N : Nat}  {s0 : St} {r : Int32} {sr : St}  (hL : ∀ x ∈ ([206, 209] : List Nat), x ∈ R)  (h : f_X12_readDark N  s0 = some (r, sr)) : Fr R s0 sr := by
  have hF : Fr R s0 s0 := Fr.rf
  unfold f_X12_readDark at h
  obtain ⟨s1, hc, h⟩ := bp_e h
  have hF := hF.trans (fr_X12_next (hLsub hL rfl) hc)
  refine ald_g h (fun v2 h => ?_)
  obtain ⟨v3, s4, hc, h⟩ := bd_e h
  have hF := hF.trans (fr_X12_takesName (hLsub hL rfl) hc)
  refine e_ite h (fun _ h => ?_) (fun _ h => ?_)
  · exact ret_fi h hF
  refine vl_g h (fun v5 h => ?_)
  refine vl_g h (fun v6 h => ?_)
  refine e_ite h (fun _ h => ?_) (fun _ h => ?_)
  · refine vl_g h (fun v7 h => ?_)
    refine e_ite h (fun _ h => ?_) (fun _ h => ?_)
    · refine ald_g h (fun v8 h => ?_)
      refine vl_g h (fun v9 h => ?_)
      refine bp_g h (fun v10 h => ?_)
      refine e_ite h (fun _ h => ?_) (fun _ h => ?_)
      · refine ald_g h (fun v11 h => ?_)
        refine vl_g h (fun v12 h => ?_)
        refine ald_s h (fun _ => hF.sI (mem_lit rgq_209 hL rfl)) (fun s13 hF h => ?_)
        obtain ⟨s14, hc, h⟩ := bp_e h
        have hF := hF.trans (fr_X12_next (hLsub hL rfl) hc)
        exact ret_fi h hF
      obtain ⟨v15, s16, hc, h⟩ := bd_e h
      have hF := hF.trans (fr_X12_bad (hLsub hL rfl) hc)
      refine rz_e h (fun _ h => ?_)
      exact ret_fi h hF
    obtain ⟨v17, s18, hc, h⟩ := bd_e h
    have hF := hF.trans (fr_X12_bad (hLsub hL rfl) hc)
    refine rz_e h (fun _ h => ?_)
    exact ret_fi h hF
  obtain ⟨v19, s20, hc, h⟩ := bd_e h
  have hF := hF.trans (fr_X12_bad (hLsub hL rfl) hc)
  refine rz_e h (fun _ h => ?_)
  exact ret_fi h hF

set_option maxHeartbeats 4000000 in
theorem fr_X12_readShip {R : List Nat} {N : Nat}  {s0 : St} {r : Int32} {sr : St}  (hL : ∀ x ∈ ([206, 209, 211] : List Nat), x ∈ R)  (h : f_X12_readShip N  s0 = some (r, sr)) : Fr R s0 sr := by
  have hF : Fr R s0 s0 := Fr.rf
  unfold f_X12_readShip at h
  refine ald_g h (fun v1 h => ?_)
  refine e_ite h (fun _ h => ?_) (fun _ h => ?_)
  · obtain ⟨v2, s3, hc, h⟩ := bd_e h
    have hF := hF.trans (fr_X12_bad (hLsub hL rfl) hc)
    refine rz_e h (fun _ h => ?_)
    exact ret_fi h hF
  obtain ⟨s4, hc, h⟩ := bp_e h
  have hF := hF.trans (fr_X12_next (hLsub hL rfl) hc)
  obtain ⟨v5, s6, hc, h⟩ := bd_e h
  have hF := hF.trans (fr_X12_fresh (hLsub hL rfl) hc)
  refine e_ite h (fun _ h => ?_) (fun _ h => ?_)
  · exact ret_fi h hF
  obtain ⟨v7, s8, hc, h⟩ := bd_e h
  have hF := hF.trans (fr_X12_puts (hLsub hL rfl) hc)
  refine e_ite h (fun _ h => ?_) (fun _ h => ?_)
  · exact ret_fi h hF
  obtain ⟨v9, s10, hc, h⟩ := bd_e h
  have hF := hF.trans (fr_X12_puts (hLsub hL rfl) hc)
  refine e_ite h (fun _ h => ?_) (fun _ h => ?_)
  · exact ret_fi h hF
  obtain ⟨v11, s12, hc, h⟩ := bd_e h
  have hF := hF.trans (fr_X12_puts (hLsub hL rfl) hc)
  refine e_ite h (fun _ h => ?_) (fun _ h => ?_)
  · exact ret_fi h hF
  obtain ⟨v13, s14, hc, h⟩ := bd_e h
  have hF := hF.trans (fr_X12_puts (hLsub hL rfl) hc)
  refine e_ite h (fun _ h => ?_) (fun _ h => ?_)
  · exact ret_fi h hF
  refine ald_g h (fun v15 h => ?_)
  refine ald_s h (fun _ => hF.sI (mem_lit rgq_209 hL rfl)) (fun s16 hF h => ?_)
  exact ret_fi h hF

set_option maxHeartbeats 4000000 in
theorem fr_X12_fault {R : List Nat}  {s0 : St} {r : Int32} {sr : St}  (hL : ∀ x ∈ ([206] : List Nat), x ∈ R)  (h : f_X12_fault  s0 = some (r, sr)) : Fr R s0 sr := by
  have hF : Fr R s0 s0 := Fr.rf
  unfold f_X12_fault at h
  refine vl_s h (hF.sI (mem_lit rgq_206 hL rfl)) (fun s1 hF h => ?_)
  refine vl_g h (fun v2 h => ?_)
  exact ret_fi h hF

set_option maxHeartbeats 4000000 in
theorem fr_X12_light {R : List Nat} {N : Nat} {x1 : Int32} {x2 : Int32} {s0 : St} {r : Int32} {sr : St}  (hL : ∀ x ∈ ([206] : List Nat), x ∈ R)  (h : f_X12_light N x1 x2 s0 = some (r, sr)) : Fr R s0 sr := by
  have hF : Fr R s0 s0 := Fr.rf
  unfold f_X12_light at h
  refine bp_g h (fun v1 h => ?_)
  refine jn_e (fun j => ∀ (v2 : Int32), j v2 = some (r, sr) → Fr R s0 sr) h ?_ (fun j3 hj3 h => ?_)
  · intro v2 h
    obtain ⟨v4, s5, hc, h⟩ := bd_e h
    have hF := hF.trans (fr_X12_throwsIf (hLsub hL rfl) hc)
    refine e_ite h (fun _ h => ?_) (fun _ h => ?_)
    · refine e_ite h (fun _ h => ?_) (fun _ h => ?_)
      · refine ald_g h (fun v6 h => ?_)
        exact ret_fi h hF
      refine e_ite h (fun _ h => ?_) (fun _ h => ?_)
      · refine ald_g h (fun v7 h => ?_)
        exact ret_fi h hF
      refine e_ite h (fun _ h => ?_) (fun _ h => ?_)
      · refine ald_g h (fun v8 h => ?_)
        exact ret_fi h hF
      refine e_ite h (fun _ h => ?_) (fun _ h => ?_)
      · refine ald_g h (fun v9 h => ?_)
        exact ret_fi h hF
      refine e_ite h (fun _ h => ?_) (fun _ h => ?_)
      · refine ald_g h (fun v10 h => ?_)
        exact ret_fi h hF
      refine e_ite h (fun _ h => ?_) (fun _ h => ?_)
      · refine bp_g h (fun v11 h => ?_)
        exact ret_fi h hF
      refine e_ite h (fun _ h => ?_) (fun _ h => ?_)
      · refine bp_g h (fun v12 h => ?_)
        exact ret_fi h hF
      refine e_ite h (fun _ h => ?_) (fun _ h => ?_)
      · refine ald_g h (fun v13 h => ?_)
        exact ret_fi h hF
      refine e_ite h (fun _ h => ?_) (fun _ h => ?_)
      · refine bp_g h (fun v14 h => ?_)
        refine e_ite h (fun _ h => ?_) (fun _ h => ?_)
        · exact ret_fi h hF
        exact ret_fi h hF
      refine e_ite h (fun _ h => ?_) (fun _ h => ?_)
      · refine bp_g h (fun v15 h => ?_)
        exact ret_fi h hF
      refine ald_g h (fun v16 h => ?_)
      exact ret_fi h hF
    exact ret_fi h hF
  refine jn_e (fun j => j = some (r, sr) → Fr R s0 sr) h ?_ (fun j17 hj17 h => ?_)
  · intro h
    exact hj3 _ h
  refine e_ite h (fun _ h => ?_) (fun _ h => ?_)
  · exact hj17 h
  refine bp_g h (fun v18 h => ?_)
  refine e_ite h (fun _ h => ?_) (fun _ h => ?_)
  · exact hj17 h
  exact hj3 _ h

set_option maxHeartbeats 4000000 in
theorem fr_X12_character {R : List Nat} {N : Nat} {x1 : Int32} {x2 : Int32} {s0 : St} {r : Int32} {sr : St}  (hL : ∀ x ∈ ([206] : List Nat), x ∈ R)  (h : f_X12_character N x1 x2 s0 = some (r, sr)) : Fr R s0 sr := by
  have hF : Fr R s0 s0 := Fr.rf
  unfold f_X12_character at h
  refine vl_s h (hF.sI (mem_lit rgq_206 hL rfl)) (fun s1 hF h => ?_)
  refine bp_g h (fun v2 h => ?_)
  refine jn_e (fun j => j = some (r, sr) → Fr R s0 sr) h ?_ (fun j3 hj3 h => ?_)
  · intro h
    exact ret_fi h hF
  refine e_ite h (fun _ h => ?_) (fun _ h => ?_)
  · exact hj3 h
  refine bp_g h (fun v4 h => ?_)
  refine bp_g h (fun v5 h => ?_)
  refine e_ite h (fun _ h => ?_) (fun _ h => ?_)
  · exact hj3 h
  refine bp_g h (fun v6 h => ?_)
  refine e_ite h (fun _ h => ?_) (fun _ h => ?_)
  · exact ret_fi h hF
  exact ret_fi h hF

set_option maxHeartbeats 4000000 in
theorem fr_X12_ship {R : List Nat} {N : Nat} {x1 : Int32} {x2 : Int32} {s0 : St} {r : Int32} {sr : St}  (hL : ∀ x ∈ ([206] : List Nat), x ∈ R)  (h : f_X12_ship N x1 x2 s0 = some (r, sr)) : Fr R s0 sr := by
  have hF : Fr R s0 s0 := Fr.rf
  unfold f_X12_ship at h
  refine vl_s h (hF.sI (mem_lit rgq_206 hL rfl)) (fun s1 hF h => ?_)
  refine bp_g h (fun v2 h => ?_)
  refine e_ite h (fun _ h => ?_) (fun _ h => ?_)
  · exact ret_fi h hF
  refine e_ite h (fun _ h => ?_) (fun _ h => ?_)
  · refine ald_g h (fun v3 h => ?_)
    exact ret_fi h hF
  refine e_ite h (fun _ h => ?_) (fun _ h => ?_)
  · refine ald_g h (fun v4 h => ?_)
    exact ret_fi h hF
  refine e_ite h (fun _ h => ?_) (fun _ h => ?_)
  · refine ald_g h (fun v5 h => ?_)
    exact ret_fi h hF
  refine e_ite h (fun _ h => ?_) (fun _ h => ?_)
  · refine ald_g h (fun v6 h => ?_)
    exact ret_fi h hF
  refine e_ite h (fun _ h => ?_) (fun _ h => ?_)
  · refine ald_g h (fun v7 h => ?_)
    refine ald_g h (fun v8 h => ?_)
    refine ald_g h (fun v9 h => ?_)
    refine bp_g h (fun v10 h => ?_)
    exact ret_fi h hF
  refine e_ite h (fun _ h => ?_) (fun _ h => ?_)
  · refine bp_g h (fun v11 h => ?_)
    exact ret_fi h hF
  exact ret_fi h hF

set_option maxHeartbeats 4000000 in
theorem fr_X12_visible {R : List Nat} {N : Nat} {x1 : Int32} {x2 : Int32} {s0 : St} {r : Int32} {sr : St}  (hL : ∀ x ∈ ([206] : List Nat), x ∈ R)  (h : f_X12_visible N x1 x2 s0 = some (r, sr)) : Fr R s0 sr := by
  have hF : Fr R s0 s0 := Fr.rf
  unfold f_X12_visible at h
  refine vl_s h (hF.sI (mem_lit rgq_206 hL rfl)) (fun s1 hF h => ?_)
  refine bp_g h (fun v2 h => ?_)
  refine jn_e (fun j => j = some (r, sr) → Fr R s0 sr) h ?_ (fun j3 hj3 h => ?_)
  · intro h
    exact ret_fi h hF
  refine e_ite h (fun _ h => ?_) (fun _ h => ?_)
  · exact hj3 h
  refine bp_g h (fun v4 h => ?_)
  refine e_ite h (fun _ h => ?_) (fun _ h => ?_)
  · exact hj3 h
  refine ald_g h (fun v5 h => ?_)
  refine bp_g h (fun v6 h => ?_)
  exact ret_fi h hF

set_option maxHeartbeats 4000000 in
theorem fr_X12_now_L9 {R : List Nat} {N : Nat} {c2 : Int32} {s5 : St} {k6 : Int32 → Option (Int32 × St)} {s0 : St}  {r : Int32} {sr : St}  (hL : ∀ x ∈ ([] : List Nat), x ∈ R)  (hk6 : ∀ (v7 : Int32), k6 v7 = some (r, sr) → Fr R s0 sr) (hF : Fr R s0 s5) : ∀ (n8 : Nat) (v3 : Int32) (v4 : Int32), f_X12_now_L9 N c2 s5 k6 n8 v3 v4 = some (r, sr) → Fr R s0 sr := by
  intro n8
  induction n8 with
  | zero =>
    intro v3 v4 h
    rw [f_X12_now_L9] at h; cases h
  | succ n8 ih9 =>
    intro v3 v4 h
    rw [f_X12_now_L9] at h
    refine ald_g h (fun v10 h => ?_)
    refine e_ite h (fun _ h => ?_) (fun _ h => ?_)
    · exact hk6 _ h
    refine ald_g h (fun v11 h => ?_)
    refine jn_e (fun j => ∀ (v12 : Int32), j v12 = some (r, sr) → Fr R s0 sr) h ?_ (fun j13 hj13 h => ?_)
    · intro v12 h
      refine vl_g h (fun v14 h => ?_)
      refine vl_g h (fun v15 h => ?_)
      exact ih9 _ _ h
    refine e_ite h (fun _ h => ?_) (fun _ h => ?_)
    · exact hj13 _ h
    exact hj13 _ h

set_option maxHeartbeats 4000000 in
theorem fr_X12_now {R : List Nat} {N : Nat} {x1 : Int32} {s0 : St} {r : Int32} {sr : St}  (hL : ∀ x ∈ ([206] : List Nat), x ∈ R)  (h : f_X12_now N x1 s0 = some (r, sr)) : Fr R s0 sr := by
  have hF : Fr R s0 s0 := Fr.rf
  unfold f_X12_now at h
  refine vl_s h (hF.sI (mem_lit rgq_206 hL rfl)) (fun s1 hF h => ?_)
  refine fr_X12_now_L9 (hLsub hL rfl) (fun v16 h => ?_) hF _ _ _ h
  refine e_ite h (fun _ h => ?_) (fun _ h => ?_)
  · refine ald_g h (fun v17 h => ?_)
    exact ret_fi h hF
  refine e_ite h (fun _ h => ?_) (fun _ h => ?_)
  · refine bp_g h (fun v18 h => ?_)
    exact ret_fi h hF
  refine e_ite h (fun _ h => ?_) (fun _ h => ?_)
  · refine ald_g h (fun v19 h => ?_)
    exact ret_fi h hF
  refine e_ite h (fun _ h => ?_) (fun _ h => ?_)
  · exact ret_fi h hF
  refine e_ite h (fun _ h => ?_) (fun _ h => ?_)
  · refine ald_g h (fun v20 h => ?_)
    exact ret_fi h hF
  refine e_ite h (fun _ h => ?_) (fun _ h => ?_)
  · refine bp_g h (fun v21 h => ?_)
    exact ret_fi h hF
  exact ret_fi h hF

set_option maxHeartbeats 4000000 in
theorem fr_X12_turns {R : List Nat} {N : Nat} {x1 : Int32} {x2 : Int32} {s0 : St} {sr : St}  (hL : ∀ x ∈ ([208] : List Nat), x ∈ R)  (h : f_X12_turns N x1 x2 s0 = some sr) : Fr R s0 sr := by
  have hF : Fr R s0 s0 := Fr.rf
  unfold f_X12_turns at h
  refine ald_g h (fun v1 h => ?_)
  refine bp_g h (fun v2 h => ?_)
  refine rm_g h (fun v3 h => ?_)
  refine ald_s h (fun _ => hF.sI (mem_lit rgq_208 hL rfl)) (fun s4 hF h => ?_)
  exact ret_fv h hF

set_option maxHeartbeats 4000000 in
theorem fr_X12_sails {R : List Nat} {x1 : Int32} {s0 : St} {sr : St}  (hL : ∀ x ∈ ([208] : List Nat), x ∈ R)  (h : f_X12_sails x1 s0 = some sr) : Fr R s0 sr := by
  have hF : Fr R s0 s0 := Fr.rf
  unfold f_X12_sails at h
  refine ald_g h (fun v1 h => ?_)
  refine ald_g h (fun v2 h => ?_)
  refine bp_g h (fun v3 h => ?_)
  refine vl_g h (fun v4 h => ?_)
  refine ald_g h (fun v5 h => ?_)
  refine ald_g h (fun v6 h => ?_)
  refine bp_g h (fun v7 h => ?_)
  refine vl_g h (fun v8 h => ?_)
  refine bp_g h (fun v9 h => ?_)
  refine jn_e (fun j => j = some sr → Fr R s0 sr) h ?_ (fun j10 hj10 h => ?_)
  · intro h
    refine ald_s h (fun _ => hF.sI (mem_lit rgq_208 hL rfl)) (fun s11 hF h => ?_)
    exact ret_fv h hF
  refine e_ite h (fun _ h => ?_) (fun _ h => ?_)
  · exact hj10 h
  refine bp_g h (fun v12 h => ?_)
  refine e_ite h (fun _ h => ?_) (fun _ h => ?_)
  · exact hj10 h
  refine ald_s h (fun _ => hF.sI (mem_lit rgq_208 hL rfl)) (fun s13 hF h => ?_)
  refine ald_s h (fun _ => hF.sI (mem_lit rgq_208 hL rfl)) (fun s14 hF h => ?_)
  exact ret_fv h hF

set_option maxHeartbeats 4000000 in
theorem fr_X12_second_L7 {R : List Nat} {N : Nat} {c2 : Int32} {k5 : St → Option (St)} {s0 : St}  {sr : St}  (hL : ∀ x ∈ ([208] : List Nat), x ∈ R)  (hk5 : ∀ (s6 : St), Fr R s0 s6 → k5 s6 = some sr → Fr R s0 sr)  : ∀ (n7 : Nat) (v3 : Int32) (s4 : St), Fr R s0 s4 → f_X12_second_L7 N c2 k5 n7 v3 s4 = some sr → Fr R s0 sr := by
  intro n7
  induction n7 with
  | zero =>
    intro v3 s4 hF h
    rw [f_X12_second_L7] at h; cases h
  | succ n7 ih8 =>
    intro v3 s4 hF h
    rw [f_X12_second_L7] at h
    refine ald_g h (fun v9 h => ?_)
    refine e_ite h (fun _ h => ?_) (fun _ h => ?_)
    · exact hk5 _ hF h
    refine ald_g h (fun v10 h => ?_)
    refine bp_g h (fun v11 h => ?_)
    refine jn_e (fun j => ∀ (v12 : Int32), j v12 = some sr → Fr R s0 sr) h ?_ (fun j13 hj13 h => ?_)
    · intro v12 h
      refine ald_s h (fun _ => hF.sI (mem_lit rgq_208 hL rfl)) (fun s14 hF h => ?_)
      refine vl_g h (fun v15 h => ?_)
      exact ih8 _ _ hF h
    refine e_ite h (fun _ h => ?_) (fun _ h => ?_)
    · exact hj13 _ h
    exact hj13 _ h

set_option maxHeartbeats 4000000 in
theorem fr_X12_second_L51 {R : List Nat} {N : Nat}  {k19 : St → Option (St)} {s0 : St}  {sr : St}  (hL : ∀ x ∈ ([208] : List Nat), x ∈ R)  (hk19 : ∀ (s20 : St), Fr R s0 s20 → k19 s20 = some sr → Fr R s0 sr)  : ∀ (n21 : Nat) (v17 : Int32) (s18 : St), Fr R s0 s18 → f_X12_second_L51 N k19 n21 v17 s18 = some sr → Fr R s0 sr := by
  intro n21
  induction n21 with
  | zero =>
    intro v17 s18 hF h
    rw [f_X12_second_L51] at h; cases h
  | succ n21 ih22 =>
    intro v17 s18 hF h
    rw [f_X12_second_L51] at h
    refine ald_g h (fun v23 h => ?_)
    refine e_ite h (fun _ h => ?_) (fun _ h => ?_)
    · exact hk19 _ hF h
    refine ald_g h (fun v24 h => ?_)
    refine ald_g h (fun v25 h => ?_)
    refine rm_g h (fun v26 h => ?_)
    refine jn_e (fun j => ∀ (s27 : St), Fr R s0 s27 → j s27 = some sr → Fr R s0 sr) h ?_ (fun j28 hj28 h => ?_)
    · intro s27 hF h
      refine vl_g h (fun v29 h => ?_)
      exact ih22 _ _ hF h
    refine e_ite h (fun _ h => ?_) (fun _ h => ?_)
    · obtain ⟨s30, hc, h⟩ := bp_e h
      have hF := hF.trans (fr_X12_sails (hLsub hL rfl) hc)
      exact hj28 _ hF h
    exact hj28 _ hF h

set_option maxHeartbeats 4000000 in
theorem fr_X12_second {R : List Nat} {N : Nat}  {s0 : St} {sr : St}  (hL : ∀ x ∈ ([208] : List Nat), x ∈ R)  (h : f_X12_second N  s0 = some sr) : Fr R s0 sr := by
  have hF : Fr R s0 s0 := Fr.rf
  unfold f_X12_second at h
  refine bp_g h (fun v1 h => ?_)
  refine fr_X12_second_L7 (hLsub hL rfl) (fun s16 hF h => ?_) _ _ _ hF h
  refine fr_X12_second_L51 (hLsub hL rfl) (fun s31 hF h => ?_) _ _ _ hF h
  refine ald_g h (fun v32 h => ?_)
  refine ald_s h (fun _ => hF.sI (mem_lit rgq_208 hL rfl)) (fun s33 hF h => ?_)
  exact ret_fv h hF

set_option maxHeartbeats 4000000 in
theorem fr_X12_goesOn_L2 {R : List Nat} {N : Nat} {c1 : Int32}  {s0 : St}  {r : Int32} {sr : St}  (hL : ∀ x ∈ ([208] : List Nat), x ∈ R)    : ∀ (n4 : Nat) (v2 : Int32) (s3 : St), Fr R s0 s3 → f_X12_goesOn_L2 N c1 n4 v2 s3 = some (r, sr) → Fr R s0 sr := by
  intro n4
  induction n4 with
  | zero =>
    intro v2 s3 hF h
    rw [f_X12_goesOn_L2] at h; cases h
  | succ n4 ih5 =>
    intro v2 s3 hF h
    rw [f_X12_goesOn_L2] at h
    refine e_ite h (fun _ h => ?_) (fun _ h => ?_)
    · exact ret_fi h hF
    refine ald_g h (fun v6 h => ?_)
    refine e_ite h (fun _ h => ?_) (fun _ h => ?_)
    · exact ret_fi h hF
    obtain ⟨s7, hc, h⟩ := bp_e h
    have hF := hF.trans (fr_X12_second (hLsub hL rfl) hc)
    refine vl_g h (fun v8 h => ?_)
    exact ih5 _ _ hF h

set_option maxHeartbeats 4000000 in
theorem fr_X12_goesOn {R : List Nat} {N : Nat} {x1 : Int32} {s0 : St} {r : Int32} {sr : St}  (hL : ∀ x ∈ ([208] : List Nat), x ∈ R)  (h : f_X12_goesOn N x1 s0 = some (r, sr)) : Fr R s0 sr := by
  have hF : Fr R s0 s0 := Fr.rf
  unfold f_X12_goesOn at h
  exact fr_X12_goesOn_L2 (hLsub hL rfl)  _ _ _ hF h

set_option maxHeartbeats 4000000 in
theorem fr_X12_stores_L47 {R : List Nat} {N : Nat}  {k6 : St → Option (St)} {s0 : St}  {sr : St}  (hL : ∀ x ∈ ([213] : List Nat), x ∈ R)  (hk6 : ∀ (s7 : St), Fr R s0 s7 → k6 s7 = some sr → Fr R s0 sr)  : ∀ (n8 : Nat) (v4 : Int32) (s5 : St), Fr R s0 s5 → f_X12_stores_L47 N k6 n8 v4 s5 = some sr → Fr R s0 sr := by
  intro n8
  induction n8 with
  | zero =>
    intro v4 s5 hF h
    rw [f_X12_stores_L47] at h; cases h
  | succ n8 ih9 =>
    intro v4 s5 hF h
    rw [f_X12_stores_L47] at h
    refine e_ite h (fun _ h => ?_) (fun _ h => ?_)
    · exact hk6 _ hF h
    refine vl_g h (fun v10 h => ?_)
    refine ald_g h (fun v11 h => ?_)
    refine ald_s h (fun _ => hF.sI (mem_lit rgq_213 hL rfl)) (fun s12 hF h => ?_)
    refine vl_g h (fun v13 h => ?_)
    exact ih9 _ _ hF h

set_option maxHeartbeats 4000000 in
theorem fr_X12_stores_L11 {R : List Nat} {N : Nat}  {k19 : St → Option (St)} {s0 : St}  {sr : St}  (hL : ∀ x ∈ ([213] : List Nat), x ∈ R)  (hk19 : ∀ (s20 : St), Fr R s0 s20 → k19 s20 = some sr → Fr R s0 sr)  : ∀ (n21 : Nat) (v17 : Int32) (s18 : St), Fr R s0 s18 → f_X12_stores_L11 N k19 n21 v17 s18 = some sr → Fr R s0 sr := by
  intro n21
  induction n21 with
  | zero =>
    intro v17 s18 hF h
    rw [f_X12_stores_L11] at h; cases h
  | succ n21 ih22 =>
    intro v17 s18 hF h
    rw [f_X12_stores_L11] at h
    refine e_ite h (fun _ h => ?_) (fun _ h => ?_)
    · exact hk19 _ hF h
    refine ald_g h (fun v23 h => ?_)
    refine ald_s h (fun _ => hF.sI (mem_lit rgq_213 hL rfl)) (fun s24 hF h => ?_)
    refine vl_g h (fun v25 h => ?_)
    exact ih22 _ _ hF h

set_option maxHeartbeats 4000000 in
theorem fr_X12_stores {R : List Nat} {N : Nat}  {s0 : St} {sr : St}  (hL : ∀ x ∈ ([206, 213] : List Nat), x ∈ R)  (h : f_X12_stores N  s0 = some sr) : Fr R s0 sr := by
  have hF : Fr R s0 s0 := Fr.rf
  unfold f_X12_stores at h
  refine vl_g h (fun v1 h => ?_)
  refine jn_e (fun j => ∀ (s2 : St), Fr R s0 s2 → j s2 = some sr → Fr R s0 sr) h ?_ (fun j3 hj3 h => ?_)
  · intro s2 hF h
    refine fr_X12_stores_L47 (hLsub hL rfl) (fun s14 hF h => ?_) _ _ _ hF h
    refine vl_g h (fun v15 h => ?_)
    refine vl_s h (hF.sI (mem_lit rgq_206 hL rfl)) (fun s16 hF h => ?_)
    exact ret_fv h hF
  refine e_ite h (fun _ h => ?_) (fun _ h => ?_)
  · refine fr_X12_stores_L11 (hLsub hL rfl) (fun s26 hF h => ?_) _ _ _ hF h
    refine vl_s h (hF.sI (mem_lit rgq_206 hL rfl)) (fun s27 hF h => ?_)
    exact hj3 _ hF h
  exact hj3 _ hF h

set_option maxHeartbeats 4000000 in
theorem fr_X12_undo_L26 {R : List Nat} {N : Nat}  {k7 : St → Option (Int32 × St)} {s0 : St}  {r : Int32} {sr : St}  (hL : ∀ x ∈ ([208] : List Nat), x ∈ R)  (hk7 : ∀ (s8 : St), Fr R s0 s8 → k7 s8 = some (r, sr) → Fr R s0 sr)  : ∀ (n9 : Nat) (v5 : Int32) (s6 : St), Fr R s0 s6 → f_X12_undo_L26 N k7 n9 v5 s6 = some (r, sr) → Fr R s0 sr := by
  intro n9
  induction n9 with
  | zero =>
    intro v5 s6 hF h
    rw [f_X12_undo_L26] at h; cases h
  | succ n9 ih10 =>
    intro v5 s6 hF h
    rw [f_X12_undo_L26] at h
    refine e_ite h (fun _ h => ?_) (fun _ h => ?_)
    · exact hk7 _ hF h
    refine vl_g h (fun v11 h => ?_)
    refine ald_g h (fun v12 h => ?_)
    refine ald_s h (fun _ => hF.sI (mem_lit rgq_208 hL rfl)) (fun s13 hF h => ?_)
    refine vl_g h (fun v14 h => ?_)
    exact ih10 _ _ hF h

set_option maxHeartbeats 4000000 in
theorem fr_X12_undo {R : List Nat} {N : Nat}  {s0 : St} {r : Int32} {sr : St}  (hL : ∀ x ∈ ([206, 208] : List Nat), x ∈ R)  (h : f_X12_undo N  s0 = some (r, sr)) : Fr R s0 sr := by
  have hF : Fr R s0 s0 := Fr.rf
  unfold f_X12_undo at h
  refine vl_s h (hF.sI (mem_lit rgq_206 hL rfl)) (fun s1 hF h => ?_)
  refine vl_g h (fun v2 h => ?_)
  refine e_ite h (fun _ h => ?_) (fun _ h => ?_)
  · exact ret_fi h hF
  refine vl_g h (fun v3 h => ?_)
  refine vl_s h (hF.sI (mem_lit rgq_206 hL rfl)) (fun s4 hF h => ?_)
  refine fr_X12_undo_L26 (hLsub hL rfl) (fun s15 hF h => ?_) _ _ _ hF h
  refine vl_g h (fun v16 h => ?_)
  exact ret_fi h hF

set_option maxHeartbeats 4000000 in
theorem fr_X12_tries_L2 {R : List Nat} {N : Nat}   {s0 : St}  {sr : St}  (hL : ∀ x ∈ ([214] : List Nat), x ∈ R)    : ∀ (n3 : Nat) (v1 : Int32) (s2 : St), Fr R s0 s2 → f_X12_tries_L2 N n3 v1 s2 = some sr → Fr R s0 sr := by
  intro n3
  induction n3 with
  | zero =>
    intro v1 s2 hF h
    rw [f_X12_tries_L2] at h; cases h
  | succ n3 ih4 =>
    intro v1 s2 hF h
    rw [f_X12_tries_L2] at h
    refine e_ite h (fun _ h => ?_) (fun _ h => ?_)
    · exact ret_fv h hF
    refine ald_g h (fun v5 h => ?_)
    refine ald_s h (fun _ => hF.sI (mem_lit rgq_214 hL rfl)) (fun s6 hF h => ?_)
    refine vl_g h (fun v7 h => ?_)
    exact ih4 _ _ hF h

set_option maxHeartbeats 4000000 in
theorem fr_X12_tries {R : List Nat} {N : Nat}  {s0 : St} {sr : St}  (hL : ∀ x ∈ ([214] : List Nat), x ∈ R)  (h : f_X12_tries N  s0 = some sr) : Fr R s0 sr := by
  have hF : Fr R s0 s0 := Fr.rf
  unfold f_X12_tries at h
  exact fr_X12_tries_L2 (hLsub hL rfl)  _ _ _ hF h

set_option maxHeartbeats 4000000 in
theorem fr_X12_back_L2 {R : List Nat} {N : Nat}   {s0 : St}  {sr : St}  (hL : ∀ x ∈ ([208] : List Nat), x ∈ R)    : ∀ (n3 : Nat) (v1 : Int32) (s2 : St), Fr R s0 s2 → f_X12_back_L2 N n3 v1 s2 = some sr → Fr R s0 sr := by
  intro n3
  induction n3 with
  | zero =>
    intro v1 s2 hF h
    rw [f_X12_back_L2] at h; cases h
  | succ n3 ih4 =>
    intro v1 s2 hF h
    rw [f_X12_back_L2] at h
    refine e_ite h (fun _ h => ?_) (fun _ h => ?_)
    · exact ret_fv h hF
    refine ald_g h (fun v5 h => ?_)
    refine ald_s h (fun _ => hF.sI (mem_lit rgq_208 hL rfl)) (fun s6 hF h => ?_)
    refine vl_g h (fun v7 h => ?_)
    exact ih4 _ _ hF h

set_option maxHeartbeats 4000000 in
theorem fr_X12_back {R : List Nat} {N : Nat}  {s0 : St} {sr : St}  (hL : ∀ x ∈ ([208] : List Nat), x ∈ R)  (h : f_X12_back N  s0 = some sr) : Fr R s0 sr := by
  have hF : Fr R s0 s0 := Fr.rf
  unfold f_X12_back at h
  exact fr_X12_back_L2 (hLsub hL rfl)  _ _ _ hF h

set_option maxHeartbeats 4000000 in
theorem fr_X12_laysPairs_L23 {R : List Nat} {N : Nat} {c9 : Int32} {k12 : Int32 → St → Option (Int32 × St)} {s0 : St}  {r : Int32} {sr : St}  (hL : ∀ x ∈ ([215] : List Nat), x ∈ R)  (hk12 : ∀ (v13 : Int32) (s14 : St), Fr R s0 s14 → k12 v13 s14 = some (r, sr) → Fr R s0 sr)  : ∀ (n15 : Nat) (v8 : Int32) (v10 : Int32) (s11 : St), Fr R s0 s11 → f_X12_laysPairs_L23 N c9 k12 n15 v8 v10 s11 = some (r, sr) → Fr R s0 sr := by
  intro n15
  induction n15 with
  | zero =>
    intro v8 v10 s11 hF h
    rw [f_X12_laysPairs_L23] at h; cases h
  | succ n15 ih16 =>
    intro v8 v10 s11 hF h
    rw [f_X12_laysPairs_L23] at h
    refine e_ite h (fun _ h => ?_) (fun _ h => ?_)
    · exact hk12 _ _ hF h
    refine bp_g h (fun v17 h => ?_)
    refine jn_e (fun j => ∀ (v18 : Int32) (s19 : St), Fr R s0 s19 → j v18 s19 = some (r, sr) → Fr R s0 sr) h ?_ (fun j20 hj20 h => ?_)
    · intro v18 s19 hF h
      refine vl_g h (fun v21 h => ?_)
      exact ih16 _ _ _ hF h
    refine e_ite h (fun _ h => ?_) (fun _ h => ?_)
    · exact hj20 _ _ hF h
    refine bp_g h (fun v22 h => ?_)
    refine e_ite h (fun _ h => ?_) (fun _ h => ?_)
    · exact hj20 _ _ hF h
    refine ald_g h (fun v23 h => ?_)
    refine ald_s h (fun _ => hF.sI (mem_lit rgq_215 hL rfl)) (fun s24 hF h => ?_)
    refine vl_g h (fun v25 h => ?_)
    exact hj20 _ _ hF h

set_option maxHeartbeats 4000000 in
theorem fr_X12_laysPairs_L4 {R : List Nat} {N : Nat}   {s0 : St}  {r : Int32} {sr : St}  (hL : ∀ x ∈ ([215] : List Nat), x ∈ R)    : ∀ (n4 : Nat) (v1 : Int32) (v2 : Int32) (s3 : St), Fr R s0 s3 → f_X12_laysPairs_L4 N n4 v1 v2 s3 = some (r, sr) → Fr R s0 sr := by
  intro n4
  induction n4 with
  | zero =>
    intro v1 v2 s3 hF h
    rw [f_X12_laysPairs_L4] at h; cases h
  | succ n4 ih5 =>
    intro v1 v2 s3 hF h
    rw [f_X12_laysPairs_L4] at h
    refine ald_g h (fun v6 h => ?_)
    refine e_ite h (fun _ h => ?_) (fun _ h => ?_)
    · exact ret_fi h hF
    refine ald_s h (fun _ => hF.sI (mem_lit rgq_215 hL rfl)) (fun s7 hF h => ?_)
    refine fr_X12_laysPairs_L23 (hLsub hL rfl) (fun v26 s27 hF h => ?_) _ _ _ _ hF h
    refine vl_g h (fun v28 h => ?_)
    exact ih5 _ _ _ hF h

set_option maxHeartbeats 4000000 in
theorem fr_X12_laysPairs {R : List Nat} {N : Nat}  {s0 : St} {r : Int32} {sr : St}  (hL : ∀ x ∈ ([215] : List Nat), x ∈ R)  (h : f_X12_laysPairs N  s0 = some (r, sr)) : Fr R s0 sr := by
  have hF : Fr R s0 s0 := Fr.rf
  unfold f_X12_laysPairs at h
  exact fr_X12_laysPairs_L4 (hLsub hL rfl)  _ _ _ _ hF h

set_option maxHeartbeats 4000000 in
theorem fr_X12_confused {R : List Nat} {N : Nat}  {s0 : St} {r : Int32} {sr : St}  (hL : ∀ x ∈ ([206, 215] : List Nat), x ∈ R)  (h : f_X12_confused N  s0 = some (r, sr)) : Fr R s0 sr := by
  have hF : Fr R s0 s0 := Fr.rf
  unfold f_X12_confused at h
  refine vl_s h (hF.sI (mem_lit rgq_206 hL rfl)) (fun s1 hF h => ?_)
  obtain ⟨v2, s3, hc, h⟩ := bd_e h
  have hF := hF.trans (fr_X12_laysPairs (hLsub hL rfl) hc)
  exact ret_fi h hF

set_option maxHeartbeats 4000000 in
theorem fr_X12_change_L47 {R : List Nat} {N : Nat} {c17 : Int32} {c18 : Int32} {s21 : St} {k22 : Int32 → Option (Int32 × St)} {s0 : St}  {r : Int32} {sr : St}  (hL : ∀ x ∈ ([] : List Nat), x ∈ R)  (hk22 : ∀ (v23 : Int32), k22 v23 = some (r, sr) → Fr R s0 sr) (hF : Fr R s0 s21) : ∀ (n24 : Nat) (v19 : Int32) (v20 : Int32), f_X12_change_L47 N c17 c18 s21 k22 n24 v19 v20 = some (r, sr) → Fr R s0 sr := by
  intro n24
  induction n24 with
  | zero =>
    intro v19 v20 h
    rw [f_X12_change_L47] at h; cases h
  | succ n24 ih25 =>
    intro v19 v20 h
    rw [f_X12_change_L47] at h
    refine ald_g h (fun v26 h => ?_)
    refine e_ite h (fun _ h => ?_) (fun _ h => ?_)
    · exact hk22 _ h
    refine e_ite h (fun _ h => ?_) (fun _ h => ?_)
    · exact hk22 _ h
    refine bp_g h (fun v27 h => ?_)
    refine jn_e (fun j => ∀ (v28 : Int32), j v28 = some (r, sr) → Fr R s0 sr) h ?_ (fun j29 hj29 h => ?_)
    · intro v28 h
      refine vl_g h (fun v30 h => ?_)
      exact ih25 _ _ h
    refine jn_e (fun j => j = some (r, sr) → Fr R s0 sr) h ?_ (fun j31 hj31 h => ?_)
    · intro h
      exact hj29 _ h
    refine e_ite h (fun _ h => ?_) (fun _ h => ?_)
    · refine ald_g h (fun v32 h => ?_)
      refine e_ite h (fun _ h => ?_) (fun _ h => ?_)
      · exact hj31 h
      exact hj29 _ h
    exact hj31 h

set_option maxHeartbeats 4000000 in
theorem fr_X12_change_L23 {R : List Nat} {N : Nat}  {s8 : St} {k9 : Int32 → Option (Int32 × St)} {s0 : St}  {r : Int32} {sr : St}  (hL : ∀ x ∈ ([] : List Nat), x ∈ R)  (hk9 : ∀ (v10 : Int32), k9 v10 = some (r, sr) → Fr R s0 sr) (hF : Fr R s0 s8) : ∀ (n11 : Nat) (v6 : Int32) (v7 : Int32), f_X12_change_L23 N s8 k9 n11 v6 v7 = some (r, sr) → Fr R s0 sr := by
  intro n11
  induction n11 with
  | zero =>
    intro v6 v7 h
    rw [f_X12_change_L23] at h; cases h
  | succ n11 ih12 =>
    intro v6 v7 h
    rw [f_X12_change_L23] at h
    refine e_ite h (fun _ h => ?_) (fun _ h => ?_)
    · exact hk9 _ h
    refine bp_g h (fun v13 h => ?_)
    refine bp_g h (fun v14 h => ?_)
    refine jn_e (fun j => ∀ (v15 : Int32), j v15 = some (r, sr) → Fr R s0 sr) h ?_ (fun j16 hj16 h => ?_)
    · intro v15 h
      refine fr_X12_change_L47 (hLsub hL rfl) (fun v33 h => ?_) hF _ _ _ h
      refine jn_e (fun j => ∀ (v34 : Int32), j v34 = some (r, sr) → Fr R s0 sr) h ?_ (fun j35 hj35 h => ?_)
      · intro v34 h
        refine vl_g h (fun v36 h => ?_)
        exact ih12 _ _ h
      refine e_ite h (fun _ h => ?_) (fun _ h => ?_)
      · exact hj35 _ h
      exact hj35 _ h
    refine e_ite h (fun _ h => ?_) (fun _ h => ?_)
    · exact hj16 _ h
    exact hj16 _ h

set_option maxHeartbeats 4000000 in
theorem fr_X12_change {R : List Nat} {N : Nat}  {s0 : St} {r : Int32} {sr : St}  (hL : ∀ x ∈ ([206, 215] : List Nat), x ∈ R)  (h : f_X12_change N  s0 = some (r, sr)) : Fr R s0 sr := by
  have hF : Fr R s0 s0 := Fr.rf
  unfold f_X12_change at h
  refine vl_s h (hF.sI (mem_lit rgq_206 hL rfl)) (fun s1 hF h => ?_)
  obtain ⟨v2, s3, hc, h⟩ := bd_e h
  have hF := hF.trans (fr_X12_laysPairs (hLsub hL rfl) hc)
  refine ald_g h (fun v4 h => ?_)
  refine vl_g h (fun v5 h => ?_)
  refine fr_X12_change_L23 (hLsub hL rfl) (fun v37 h => ?_) hF _ _ _ h
  refine vl_s h (hF.sI (mem_lit rgq_206 hL rfl)) (fun s38 hF h => ?_)
  refine vl_s h (hF.sI (mem_lit rgq_206 hL rfl)) (fun s39 hF h => ?_)
  refine bp_g h (fun v40 h => ?_)
  exact ret_fi h hF

set_option maxHeartbeats 4000000 in
theorem fr_X12_changes {R : List Nat}  {s0 : St} {r : Int32} {sr : St}  (hL : ∀ x ∈ ([206] : List Nat), x ∈ R)  (h : f_X12_changes  s0 = some (r, sr)) : Fr R s0 sr := by
  have hF : Fr R s0 s0 := Fr.rf
  unfold f_X12_changes at h
  refine vl_s h (hF.sI (mem_lit rgq_206 hL rfl)) (fun s1 hF h => ?_)
  refine vl_g h (fun v2 h => ?_)
  refine e_ite h (fun _ h => ?_) (fun _ h => ?_)
  · exact ret_fi h hF
  refine vl_g h (fun v3 h => ?_)
  exact ret_fi h hF

set_option maxHeartbeats 4000000 in
theorem fr_X12_apart_L32 {R : List Nat} {N : Nat} {c5 : Int32} {c6 : Int32} {c7 : Int32} {k10 : St → Option (Int32 × St)} {s0 : St}  {r : Int32} {sr : St}  (hL : ∀ x ∈ ([216] : List Nat), x ∈ R)  (hk10 : ∀ (s11 : St), Fr R s0 s11 → k10 s11 = some (r, sr) → Fr R s0 sr)  : ∀ (n12 : Nat) (v8 : Int32) (s9 : St), Fr R s0 s9 → f_X12_apart_L32 N c5 c6 c7 k10 n12 v8 s9 = some (r, sr) → Fr R s0 sr := by
  intro n12
  induction n12 with
  | zero =>
    intro v8 s9 hF h
    rw [f_X12_apart_L32] at h; cases h
  | succ n12 ih13 =>
    intro v8 s9 hF h
    rw [f_X12_apart_L32] at h
    refine e_ite h (fun _ h => ?_) (fun _ h => ?_)
    · exact hk10 _ hF h
    refine ald_s h (fun _ => hF.sI (mem_lit rgq_216 hL rfl)) (fun s14 hF h => ?_)
    refine vl_g h (fun v15 h => ?_)
    exact ih13 _ _ hF h

set_option maxHeartbeats 4000000 in
theorem fr_X12_apart_L85 {R : List Nat} {N : Nat} {c26 : Int32} {c27 : Int32} {c28 : Int32} {c29 : Int32} {c30 : Int32} {k34 : Int32 → St → Option (Int32 × St)} {s0 : St}  {r : Int32} {sr : St}  (hL : ∀ x ∈ ([216] : List Nat), x ∈ R)  (hk34 : ∀ (v35 : Int32) (s36 : St), Fr R s0 s36 → k34 v35 s36 = some (r, sr) → Fr R s0 sr)  : ∀ (n37 : Nat) (v31 : Int32) (v32 : Int32) (s33 : St), Fr R s0 s33 → f_X12_apart_L85 N c26 c27 c28 c29 c30 k34 n37 v31 v32 s33 = some (r, sr) → Fr R s0 sr := by
  intro n37
  induction n37 with
  | zero =>
    intro v31 v32 s33 hF h
    rw [f_X12_apart_L85] at h; cases h
  | succ n37 ih38 =>
    intro v31 v32 s33 hF h
    rw [f_X12_apart_L85] at h
    refine e_ite h (fun _ h => ?_) (fun _ h => ?_)
    · exact hk34 _ _ hF h
    refine ald_g h (fun v39 h => ?_)
    refine jn_e (fun j => ∀ (v40 : Int32), j v40 = some (r, sr) → Fr R s0 sr) h ?_ (fun j41 hj41 h => ?_)
    · intro v40 h
      refine ald_s h (fun _ => hF.sI (mem_lit rgq_216 hL rfl)) (fun s42 hF h => ?_)
      refine jn_e (fun j => ∀ (v43 : Int32), j v43 = some (r, sr) → Fr R s0 sr) h ?_ (fun j44 hj44 h => ?_)
      · intro v43 h
        refine vl_g h (fun v45 h => ?_)
        exact ih38 _ _ _ hF h
      refine jn_e (fun j => j = some (r, sr) → Fr R s0 sr) h ?_ (fun j46 hj46 h => ?_)
      · intro h
        exact hj44 _ h
      refine e_ite h (fun _ h => ?_) (fun _ h => ?_)
      · refine ald_g h (fun v47 h => ?_)
        refine e_ite h (fun _ h => ?_) (fun _ h => ?_)
        · exact hj44 _ h
        exact hj46 h
      exact hj46 h
    refine jn_e (fun j => j = some (r, sr) → Fr R s0 sr) h ?_ (fun j48 hj48 h => ?_)
    · intro h
      exact hj41 _ h
    refine e_ite h (fun _ h => ?_) (fun _ h => ?_)
    · exact hj48 h
    refine bp_g h (fun v49 h => ?_)
    refine e_ite h (fun _ h => ?_) (fun _ h => ?_)
    · exact hj41 _ h
    exact hj48 h

set_option maxHeartbeats 4000000 in
theorem fr_X12_apart_L55 {R : List Nat} {N : Nat} {c17 : Int32} {c18 : Int32} {c19 : Int32}  {s0 : St}  {r : Int32} {sr : St}  (hL : ∀ x ∈ ([216] : List Nat), x ∈ R)    : ∀ (n22 : Nat) (v20 : Int32) (s21 : St), Fr R s0 s21 → f_X12_apart_L55 N c17 c18 c19 n22 v20 s21 = some (r, sr) → Fr R s0 sr := by
  intro n22
  induction n22 with
  | zero =>
    intro v20 s21 hF h
    rw [f_X12_apart_L55] at h; cases h
  | succ n22 ih23 =>
    intro v20 s21 hF h
    rw [f_X12_apart_L55] at h
    refine e_ite h (fun _ h => ?_) (fun _ h => ?_)
    · exact ret_fi h hF
    refine bp_g h (fun v24 h => ?_)
    refine bp_g h (fun v25 h => ?_)
    refine fr_X12_apart_L85 (hLsub hL rfl) (fun v50 s51 hF h => ?_) _ _ _ _ hF h
    refine e_ite h (fun _ h => ?_) (fun _ h => ?_)
    · exact ret_fi h hF
    refine vl_g h (fun v52 h => ?_)
    exact ih23 _ _ hF h

set_option maxHeartbeats 4000000 in
theorem fr_X12_apart {R : List Nat} {N : Nat} {x1 : Int32} {x2 : Int32} {s0 : St} {r : Int32} {sr : St}  (hL : ∀ x ∈ ([206, 216] : List Nat), x ∈ R)  (h : f_X12_apart N x1 x2 s0 = some (r, sr)) : Fr R s0 sr := by
  have hF : Fr R s0 s0 := Fr.rf
  unfold f_X12_apart at h
  refine vl_s h (hF.sI (mem_lit rgq_206 hL rfl)) (fun s1 hF h => ?_)
  refine bp_g h (fun v2 h => ?_)
  refine e_ite h (fun _ h => ?_) (fun _ h => ?_)
  · exact ret_fi h hF
  refine bp_g h (fun v3 h => ?_)
  refine e_ite h (fun _ h => ?_) (fun _ h => ?_)
  · exact ret_fi h hF
  refine bp_g h (fun v4 h => ?_)
  refine fr_X12_apart_L32 (hLsub hL rfl) (fun s16 hF h => ?_) _ _ _ hF h
  exact fr_X12_apart_L55 (hLsub hL rfl)  _ _ _ hF h

set_option maxHeartbeats 4000000 in
theorem fr_X12_both_L25 {R : List Nat} {N : Nat} {c4 : Int32} {c5 : Int32} {s7 : St}  {s0 : St}  {r : Int32} {sr : St}  (hL : ∀ x ∈ ([] : List Nat), x ∈ R)   (hF : Fr R s0 s7) : ∀ (n8 : Nat) (v6 : Int32), f_X12_both_L25 N c4 c5 s7 n8 v6 = some (r, sr) → Fr R s0 sr := by
  intro n8
  induction n8 with
  | zero =>
    intro v6 h
    rw [f_X12_both_L25] at h; cases h
  | succ n8 ih9 =>
    intro v6 h
    rw [f_X12_both_L25] at h
    refine e_ite h (fun _ h => ?_) (fun _ h => ?_)
    · exact ret_fi h hF
    refine bp_g h (fun v10 h => ?_)
    refine bp_g h (fun v11 h => ?_)
    refine jn_e (fun j => j = some (r, sr) → Fr R s0 sr) h ?_ (fun j12 hj12 h => ?_)
    · intro h
      refine vl_g h (fun v13 h => ?_)
      exact ih9 _ h
    refine e_ite h (fun _ h => ?_) (fun _ h => ?_)
    · exact hj12 h
    refine bp_g h (fun v14 h => ?_)
    refine bp_g h (fun v15 h => ?_)
    refine e_ite h (fun _ h => ?_) (fun _ h => ?_)
    · exact hj12 h
    exact ret_fi h hF

set_option maxHeartbeats 4000000 in
theorem fr_X12_both {R : List Nat} {N : Nat} {x1 : Int32} {x2 : Int32} {s0 : St} {r : Int32} {sr : St}  (hL : ∀ x ∈ ([206] : List Nat), x ∈ R)  (h : f_X12_both N x1 x2 s0 = some (r, sr)) : Fr R s0 sr := by
  have hF : Fr R s0 s0 := Fr.rf
  unfold f_X12_both at h
  refine vl_s h (hF.sI (mem_lit rgq_206 hL rfl)) (fun s1 hF h => ?_)
  refine bp_g h (fun v2 h => ?_)
  refine e_ite h (fun _ h => ?_) (fun _ h => ?_)
  · exact ret_fi h hF
  refine bp_g h (fun v3 h => ?_)
  refine e_ite h (fun _ h => ?_) (fun _ h => ?_)
  · exact ret_fi h hF
  exact fr_X12_both_L25 (hLsub hL rfl)  hF _ _ h

set_option maxHeartbeats 4000000 in
theorem fr_X12_fits_L29 {R : List Nat} {N : Nat}  {s6 : St} {k7 : Option (Int32 × St)} {s0 : St}  {r : Int32} {sr : St}  (hL : ∀ x ∈ ([] : List Nat), x ∈ R)  (hk7 : k7 = some (r, sr) → Fr R s0 sr) (hF : Fr R s0 s6) : ∀ (n8 : Nat) (v5 : Int32), f_X12_fits_L29 N s6 k7 n8 v5 = some (r, sr) → Fr R s0 sr := by
  intro n8
  induction n8 with
  | zero =>
    intro v5 h
    rw [f_X12_fits_L29] at h; cases h
  | succ n8 ih9 =>
    intro v5 h
    rw [f_X12_fits_L29] at h
    refine vl_g h (fun v10 h => ?_)
    refine e_ite h (fun _ h => ?_) (fun _ h => ?_)
    · exact hk7 h
    refine bp_g h (fun v11 h => ?_)
    refine e_ite h (fun _ h => ?_) (fun _ h => ?_)
    · refine vl_g h (fun v12 h => ?_)
      exact ih9 _ h
    exact ret_fi h hF

set_option maxHeartbeats 4000000 in
theorem fr_X12_fits_L58 {R : List Nat} {N : Nat}  {s15 : St} {k16 : Int32 → Option (Int32 × St)} {s0 : St}  {r : Int32} {sr : St}  (hL : ∀ x ∈ ([] : List Nat), x ∈ R)  (hk16 : ∀ (v17 : Int32), k16 v17 = some (r, sr) → Fr R s0 sr) (hF : Fr R s0 s15) : ∀ (n18 : Nat) (v13 : Int32) (v14 : Int32), f_X12_fits_L58 N s15 k16 n18 v13 v14 = some (r, sr) → Fr R s0 sr := by
  intro n18
  induction n18 with
  | zero =>
    intro v13 v14 h
    rw [f_X12_fits_L58] at h; cases h
  | succ n18 ih19 =>
    intro v13 v14 h
    rw [f_X12_fits_L58] at h
    refine ald_g h (fun v20 h => ?_)
    refine e_ite h (fun _ h => ?_) (fun _ h => ?_)
    · exact hk16 _ h
    refine bp_g h (fun v21 h => ?_)
    refine jn_e (fun j => ∀ (v22 : Int32), j v22 = some (r, sr) → Fr R s0 sr) h ?_ (fun j23 hj23 h => ?_)
    · intro v22 h
      refine vl_g h (fun v24 h => ?_)
      refine vl_g h (fun v25 h => ?_)
      exact ih19 _ _ h
    refine e_ite h (fun _ h => ?_) (fun _ h => ?_)
    · exact hj23 _ h
    exact hj23 _ h

set_option maxHeartbeats 4000000 in
theorem fr_X12_fits_L115 {R : List Nat} {N : Nat} {c30 : Int32} {k33 : St → Option (Int32 × St)} {s0 : St}  {r : Int32} {sr : St}  (hL : ∀ x ∈ ([217] : List Nat), x ∈ R)  (hk33 : ∀ (s34 : St), Fr R s0 s34 → k33 s34 = some (r, sr) → Fr R s0 sr)  : ∀ (n35 : Nat) (v31 : Int32) (s32 : St), Fr R s0 s32 → f_X12_fits_L115 N c30 k33 n35 v31 s32 = some (r, sr) → Fr R s0 sr := by
  intro n35
  induction n35 with
  | zero =>
    intro v31 s32 hF h
    rw [f_X12_fits_L115] at h; cases h
  | succ n35 ih36 =>
    intro v31 s32 hF h
    rw [f_X12_fits_L115] at h
    refine ald_g h (fun v37 h => ?_)
    refine e_ite h (fun _ h => ?_) (fun _ h => ?_)
    · exact hk33 _ hF h
    refine bp_g h (fun v38 h => ?_)
    refine ald_s h (fun _ => hF.sI (mem_lit rgq_217 hL rfl)) (fun s39 hF h => ?_)
    refine vl_g h (fun v40 h => ?_)
    exact ih36 _ _ hF h

set_option maxHeartbeats 4000000 in
theorem fr_X12_fits_L149 {R : List Nat} {N : Nat} {c43 : Int32}  {s0 : St}  {r : Int32} {sr : St}  (hL : ∀ x ∈ ([206] : List Nat), x ∈ R)    : ∀ (n46 : Nat) (v44 : Int32) (s45 : St), Fr R s0 s45 → f_X12_fits_L149 N c43 n46 v44 s45 = some (r, sr) → Fr R s0 sr := by
  intro n46
  induction n46 with
  | zero =>
    intro v44 s45 hF h
    rw [f_X12_fits_L149] at h; cases h
  | succ n46 ih47 =>
    intro v44 s45 hF h
    rw [f_X12_fits_L149] at h
    refine e_ite h (fun _ h => ?_) (fun _ h => ?_)
    · exact ret_fi h hF
    refine vl_g h (fun v48 h => ?_)
    refine bp_g h (fun v49 h => ?_)
    refine vl_g h (fun v50 h => ?_)
    refine vl_g h (fun v51 h => ?_)
    refine bp_g h (fun v52 h => ?_)
    refine jn_e (fun j => ∀ (s53 : St), Fr R s0 s53 → j s53 = some (r, sr) → Fr R s0 sr) h ?_ (fun j54 hj54 h => ?_)
    · intro s53 hF h
      refine vl_g h (fun v55 h => ?_)
      exact ih47 _ _ hF h
    refine e_ite h (fun _ h => ?_) (fun _ h => ?_)
    · exact hj54 _ hF h
    refine vl_s h (hF.sI (mem_lit rgq_206 hL rfl)) (fun s56 hF h => ?_)
    exact hj54 _ hF h

set_option maxHeartbeats 4000000 in
theorem fr_X12_fits {R : List Nat} {N : Nat}  {s0 : St} {r : Int32} {sr : St}  (hL : ∀ x ∈ ([206, 217] : List Nat), x ∈ R)  (h : f_X12_fits N  s0 = some (r, sr)) : Fr R s0 sr := by
  have hF : Fr R s0 s0 := Fr.rf
  unfold f_X12_fits at h
  refine vl_s h (hF.sI (mem_lit rgq_206 hL rfl)) (fun s1 hF h => ?_)
  obtain ⟨s2, hc, h⟩ := bp_e h
  have hF := hF.trans (fr_X12_taken (hLsub hL rfl) hc)
  refine vl_g h (fun v3 h => ?_)
  refine bp_g h (fun v4 h => ?_)
  refine e_ite h (fun _ h => ?_) (fun _ h => ?_)
  · exact ret_fi h hF
  refine fr_X12_fits_L29 (hLsub hL rfl) (fun h => ?_) hF _ _ h
  refine fr_X12_fits_L58 (hLsub hL rfl) (fun v26 h => ?_) hF _ _ _ h
  refine e_ite h (fun _ h => ?_) (fun _ h => ?_)
  · exact ret_fi h hF
  refine vl_s h (hF.sI (mem_lit rgq_206 hL rfl)) (fun s27 hF h => ?_)
  refine ald_g h (fun v28 h => ?_)
  refine vl_s h (hF.sI (mem_lit rgq_206 hL rfl)) (fun s29 hF h => ?_)
  refine fr_X12_fits_L115 (hLsub hL rfl) (fun s41 hF h => ?_) _ _ _ hF h
  refine vl_s h (hF.sI (mem_lit rgq_206 hL rfl)) (fun s42 hF h => ?_)
  exact fr_X12_fits_L149 (hLsub hL rfl)  _ _ _ hF h

set_option maxHeartbeats 4000000 in
theorem fr_X12_fitsAt {R : List Nat} {x1 : Int32} {s0 : St} {r : Int32} {sr : St}  (hL : ∀ x ∈ ([206] : List Nat), x ∈ R)  (h : f_X12_fitsAt x1 s0 = some (r, sr)) : Fr R s0 sr := by
  have hF : Fr R s0 s0 := Fr.rf
  unfold f_X12_fitsAt at h
  refine vl_s h (hF.sI (mem_lit rgq_206 hL rfl)) (fun s1 hF h => ?_)
  refine vl_g h (fun v2 h => ?_)
  refine bp_g h (fun v3 h => ?_)
  refine e_ite h (fun _ h => ?_) (fun _ h => ?_)
  · exact ret_fi h hF
  refine ald_g h (fun v4 h => ?_)
  exact ret_fi h hF

set_option maxHeartbeats 4000000 in
theorem fr_X12_ask {R : List Nat}  {s0 : St} {r : Int32} {sr : St}  (hL : ∀ x ∈ ([206] : List Nat), x ∈ R)  (h : f_X12_ask  s0 = some (r, sr)) : Fr R s0 sr := by
  have hF : Fr R s0 s0 := Fr.rf
  unfold f_X12_ask at h
  refine vl_s h (hF.sI (mem_lit rgq_206 hL rfl)) (fun s1 hF h => ?_)
  refine vl_g h (fun v2 h => ?_)
  refine e_ite h (fun _ h => ?_) (fun _ h => ?_)
  · exact ret_fi h hF
  refine vl_g h (fun v3 h => ?_)
  exact ret_fi h hF

set_option maxHeartbeats 4000000 in
theorem fr_X12_spots_L34 {R : List Nat} {N : Nat} {c4 : Int32} {s8 : St} {k9 : Int32 → Int32 → Option (Int32 × St)} {s0 : St}  {r : Int32} {sr : St}  (hL : ∀ x ∈ ([] : List Nat), x ∈ R)  (hk9 : ∀ (v10 : Int32) (v11 : Int32), k9 v10 v11 = some (r, sr) → Fr R s0 sr) (hF : Fr R s0 s8) : ∀ (n12 : Nat) (v5 : Int32) (v6 : Int32) (v7 : Int32), f_X12_spots_L34 N c4 s8 k9 n12 v5 v6 v7 = some (r, sr) → Fr R s0 sr := by
  intro n12
  induction n12 with
  | zero =>
    intro v5 v6 v7 h
    rw [f_X12_spots_L34] at h; cases h
  | succ n12 ih13 =>
    intro v5 v6 v7 h
    rw [f_X12_spots_L34] at h
    refine e_ite h (fun _ h => ?_) (fun _ h => ?_)
    · exact hk9 _ _ h
    refine rm_g h (fun v14 h => ?_)
    refine dv_g h (fun v15 h => ?_)
    refine ald_g h (fun v16 h => ?_)
    refine bp_g h (fun v17 h => ?_)
    refine jn_e (fun j => ∀ (v18 : Int32) (v19 : Int32), j v18 v19 = some (r, sr) → Fr R s0 sr) h ?_ (fun j20 hj20 h => ?_)
    · intro v18 v19 h
      refine vl_g h (fun v21 h => ?_)
      exact ih13 _ _ _ h
    refine e_ite h (fun _ h => ?_) (fun _ h => ?_)
    · refine vl_g h (fun v22 h => ?_)
      exact hj20 _ _ h
    exact hj20 _ _ h

set_option maxHeartbeats 4000000 in
theorem fr_X12_spots {R : List Nat} {N : Nat} {x1 : Int32} {s0 : St} {r : Int32} {sr : St}  (hL : ∀ x ∈ ([206] : List Nat), x ∈ R)  (h : f_X12_spots N x1 s0 = some (r, sr)) : Fr R s0 sr := by
  have hF : Fr R s0 s0 := Fr.rf
  unfold f_X12_spots at h
  refine vl_s h (hF.sI (mem_lit rgq_206 hL rfl)) (fun s1 hF h => ?_)
  refine ald_g h (fun v2 h => ?_)
  refine bp_g h (fun v3 h => ?_)
  refine e_ite h (fun _ h => ?_) (fun _ h => ?_)
  · exact ret_fi h hF
  refine fr_X12_spots_L34 (hLsub hL rfl) (fun v23 v24 h => ?_) hF _ _ _ _ h
  refine e_ite h (fun _ h => ?_) (fun _ h => ?_)
  · exact ret_fi h hF
  refine vl_s h (hF.sI (mem_lit rgq_206 hL rfl)) (fun s25 hF h => ?_)
  refine vl_s h (hF.sI (mem_lit rgq_206 hL rfl)) (fun s26 hF h => ?_)
  exact ret_fi h hF

set_option maxHeartbeats 4000000 in
theorem fr_X12_spotsAt {R : List Nat}  {s0 : St} {r : Int32} {sr : St}  (hL : ∀ x ∈ ([206] : List Nat), x ∈ R)  (h : f_X12_spotsAt  s0 = some (r, sr)) : Fr R s0 sr := by
  have hF : Fr R s0 s0 := Fr.rf
  unfold f_X12_spotsAt at h
  refine vl_s h (hF.sI (mem_lit rgq_206 hL rfl)) (fun s1 hF h => ?_)
  refine vl_g h (fun v2 h => ?_)
  refine e_ite h (fun _ h => ?_) (fun _ h => ?_)
  · exact ret_fi h hF
  refine vl_g h (fun v3 h => ?_)
  exact ret_fi h hF

set_option maxHeartbeats 4000000 in
theorem fr_X12_fix_L39 {R : List Nat} {N : Nat}  {s8 : St} {k9 : Option (Int32 × St)} {s0 : St}  {r : Int32} {sr : St}  (hL : ∀ x ∈ ([] : List Nat), x ∈ R)  (hk9 : k9 = some (r, sr) → Fr R s0 sr) (hF : Fr R s0 s8) : ∀ (n10 : Nat) (v7 : Int32), f_X12_fix_L39 N s8 k9 n10 v7 = some (r, sr) → Fr R s0 sr := by
  intro n10
  induction n10 with
  | zero =>
    intro v7 h
    rw [f_X12_fix_L39] at h; cases h
  | succ n10 ih11 =>
    intro v7 h
    rw [f_X12_fix_L39] at h
    refine vl_g h (fun v12 h => ?_)
    refine e_ite h (fun _ h => ?_) (fun _ h => ?_)
    · exact hk9 h
    refine bp_g h (fun v13 h => ?_)
    refine bp_g h (fun v14 h => ?_)
    refine e_ite h (fun _ h => ?_) (fun _ h => ?_)
    · exact ret_fi h hF
    refine bp_g h (fun v15 h => ?_)
    refine e_ite h (fun _ h => ?_) (fun _ h => ?_)
    · refine vl_g h (fun v16 h => ?_)
      exact ih11 _ h
    exact ret_fi h hF

set_option maxHeartbeats 4000000 in
theorem fr_X12_fix_L97 {R : List Nat} {N : Nat} {c26 : Int32} {c27 : Int32} {c28 : Int32} {s31 : St} {k32 : Int32 → Option (Int32 × St)} {s0 : St}  {r : Int32} {sr : St}  (hL : ∀ x ∈ ([] : List Nat), x ∈ R)  (hk32 : ∀ (v33 : Int32), k32 v33 = some (r, sr) → Fr R s0 sr) (hF : Fr R s0 s31) : ∀ (n34 : Nat) (v29 : Int32) (v30 : Int32), f_X12_fix_L97 N c26 c27 c28 s31 k32 n34 v29 v30 = some (r, sr) → Fr R s0 sr := by
  intro n34
  induction n34 with
  | zero =>
    intro v29 v30 h
    rw [f_X12_fix_L97] at h; cases h
  | succ n34 ih35 =>
    intro v29 v30 h
    rw [f_X12_fix_L97] at h
    refine vl_g h (fun v36 h => ?_)
    refine e_ite h (fun _ h => ?_) (fun _ h => ?_)
    · exact hk32 _ h
    refine jn_e (fun j => ∀ (v37 : Int32), j v37 = some (r, sr) → Fr R s0 sr) h ?_ (fun j38 hj38 h => ?_)
    · intro v37 h
      refine vl_g h (fun v39 h => ?_)
      exact ih35 _ _ h
    refine jn_e (fun j => j = some (r, sr) → Fr R s0 sr) h ?_ (fun j40 hj40 h => ?_)
    · intro h
      exact hj38 _ h
    refine e_ite h (fun _ h => ?_) (fun _ h => ?_)
    · exact hj40 h
    refine bp_g h (fun v41 h => ?_)
    refine rm_g h (fun v42 h => ?_)
    refine dv_g h (fun v43 h => ?_)
    refine bp_g h (fun v44 h => ?_)
    refine bp_g h (fun v45 h => ?_)
    refine e_ite h (fun _ h => ?_) (fun _ h => ?_)
    · exact hj38 _ h
    exact hj40 h

set_option maxHeartbeats 4000000 in
theorem fr_X12_fix_L87 {R : List Nat} {N : Nat}  {s20 : St} {k21 : Int32 → Int32 → Option (Int32 × St)} {s0 : St}  {r : Int32} {sr : St}  (hL : ∀ x ∈ ([] : List Nat), x ∈ R)  (hk21 : ∀ (v22 : Int32) (v23 : Int32), k21 v22 v23 = some (r, sr) → Fr R s0 sr) (hF : Fr R s0 s20) : ∀ (n24 : Nat) (v17 : Int32) (v18 : Int32) (v19 : Int32), f_X12_fix_L87 N s20 k21 n24 v17 v18 v19 = some (r, sr) → Fr R s0 sr := by
  intro n24
  induction n24 with
  | zero =>
    intro v17 v18 v19 h
    rw [f_X12_fix_L87] at h; cases h
  | succ n24 ih25 =>
    intro v17 v18 v19 h
    rw [f_X12_fix_L87] at h
    refine e_ite h (fun _ h => ?_) (fun _ h => ?_)
    · exact hk21 _ _ h
    refine fr_X12_fix_L97 (hLsub hL rfl) (fun v46 h => ?_) hF _ _ _ h
    refine jn_e (fun j => ∀ (v47 : Int32) (v48 : Int32), j v47 v48 = some (r, sr) → Fr R s0 sr) h ?_ (fun j49 hj49 h => ?_)
    · intro v47 v48 h
      refine vl_g h (fun v50 h => ?_)
      exact ih25 _ _ _ h
    refine e_ite h (fun _ h => ?_) (fun _ h => ?_)
    · exact hj49 _ _ h
    refine vl_g h (fun v51 h => ?_)
    exact hj49 _ _ h

set_option maxHeartbeats 4000000 in
theorem fr_X12_fix {R : List Nat} {N : Nat}  {s0 : St} {r : Int32} {sr : St}  (hL : ∀ x ∈ ([206] : List Nat), x ∈ R)  (h : f_X12_fix N  s0 = some (r, sr)) : Fr R s0 sr := by
  have hF : Fr R s0 s0 := Fr.rf
  unfold f_X12_fix at h
  refine vl_s h (hF.sI (mem_lit rgq_206 hL rfl)) (fun s1 hF h => ?_)
  obtain ⟨s2, hc, h⟩ := bp_e h
  have hF := hF.trans (fr_X12_taken (hLsub hL rfl) hc)
  refine vl_g h (fun v3 h => ?_)
  refine bp_g h (fun v4 h => ?_)
  refine e_ite h (fun _ h => ?_) (fun _ h => ?_)
  · exact ret_fi h hF
  refine vl_g h (fun v5 h => ?_)
  refine rm_g h (fun v6 h => ?_)
  refine e_ite h (fun _ h => ?_) (fun _ h => ?_)
  · exact ret_fi h hF
  refine fr_X12_fix_L39 (hLsub hL rfl) (fun h => ?_) hF _ _ h
  refine fr_X12_fix_L87 (hLsub hL rfl) (fun v52 v53 h => ?_) hF _ _ _ _ h
  refine e_ite h (fun _ h => ?_) (fun _ h => ?_)
  · exact ret_fi h hF
  refine vl_s h (hF.sI (mem_lit rgq_206 hL rfl)) (fun s54 hF h => ?_)
  refine vl_s h (hF.sI (mem_lit rgq_206 hL rfl)) (fun s55 hF h => ?_)
  exact ret_fi h hF

set_option maxHeartbeats 4000000 in
theorem fr_X12_fixAt {R : List Nat}  {s0 : St} {r : Int32} {sr : St}  (hL : ∀ x ∈ ([206] : List Nat), x ∈ R)  (h : f_X12_fixAt  s0 = some (r, sr)) : Fr R s0 sr := by
  have hF : Fr R s0 s0 := Fr.rf
  unfold f_X12_fixAt at h
  refine vl_s h (hF.sI (mem_lit rgq_206 hL rfl)) (fun s1 hF h => ?_)
  refine vl_g h (fun v2 h => ?_)
  refine e_ite h (fun _ h => ?_) (fun _ h => ?_)
  · exact ret_fi h hF
  refine vl_g h (fun v3 h => ?_)
  exact ret_fi h hF

set_option maxHeartbeats 4000000 in
theorem fr_X12_most_L22 {R : List Nat} {N : Nat}  {s6 : St}  {s0 : St}  {r : Int32} {sr : St}  (hL : ∀ x ∈ ([] : List Nat), x ∈ R)   (hF : Fr R s0 s6) : ∀ (n7 : Nat) (v3 : Int32) (v4 : Int32) (v5 : Int32), f_X12_most_L22 N s6 n7 v3 v4 v5 = some (r, sr) → Fr R s0 sr := by
  intro n7
  induction n7 with
  | zero =>
    intro v3 v4 v5 h
    rw [f_X12_most_L22] at h; cases h
  | succ n7 ih8 =>
    intro v3 v4 v5 h
    rw [f_X12_most_L22] at h
    refine e_ite h (fun _ h => ?_) (fun _ h => ?_)
    · exact ret_fi h hF
    refine rm_g h (fun v9 h => ?_)
    refine dv_g h (fun v10 h => ?_)
    refine ald_g h (fun v11 h => ?_)
    refine bp_g h (fun v12 h => ?_)
    refine bp_g h (fun v13 h => ?_)
    refine jn_e (fun j => ∀ (v14 : Int32) (v15 : Int32), j v14 v15 = some (r, sr) → Fr R s0 sr) h ?_ (fun j16 hj16 h => ?_)
    · intro v14 v15 h
      refine vl_g h (fun v17 h => ?_)
      exact ih8 _ _ _ h
    refine e_ite h (fun _ h => ?_) (fun _ h => ?_)
    · exact hj16 _ _ h
    exact hj16 _ _ h

set_option maxHeartbeats 4000000 in
theorem fr_X12_most {R : List Nat} {N : Nat}  {s0 : St} {r : Int32} {sr : St}  (hL : ∀ x ∈ ([206] : List Nat), x ∈ R)  (h : f_X12_most N  s0 = some (r, sr)) : Fr R s0 sr := by
  have hF : Fr R s0 s0 := Fr.rf
  unfold f_X12_most at h
  refine vl_s h (hF.sI (mem_lit rgq_206 hL rfl)) (fun s1 hF h => ?_)
  refine ald_g h (fun v2 h => ?_)
  refine e_ite h (fun _ h => ?_) (fun _ h => ?_)
  · exact ret_fi h hF
  exact fr_X12_most_L22 (hLsub hL rfl)  hF _ _ _ _ h

set_option maxHeartbeats 4000000 in
theorem fr_X12_burn_L49 {R : List Nat} {N : Nat} {c5 : Int32} {s8 : St}  {s0 : St}  {r : Int32} {sr : St}  (hL : ∀ x ∈ ([] : List Nat), x ∈ R)   (hF : Fr R s0 s8) : ∀ (n9 : Nat) (v6 : Int32) (v7 : Int32), f_X12_burn_L49 N c5 s8 n9 v6 v7 = some (r, sr) → Fr R s0 sr := by
  intro n9
  induction n9 with
  | zero =>
    intro v6 v7 h
    rw [f_X12_burn_L49] at h; cases h
  | succ n9 ih10 =>
    intro v6 v7 h
    rw [f_X12_burn_L49] at h
    refine e_ite h (fun _ h => ?_) (fun _ h => ?_)
    · exact ret_fi h hF
    refine bp_g h (fun v11 h => ?_)
    refine bp_g h (fun v12 h => ?_)
    refine jn_e (fun j => ∀ (v13 : Int32), j v13 = some (r, sr) → Fr R s0 sr) h ?_ (fun j14 hj14 h => ?_)
    · intro v13 h
      refine vl_g h (fun v15 h => ?_)
      refine vl_g h (fun v16 h => ?_)
      exact ih10 _ _ h
    refine e_ite h (fun _ h => ?_) (fun _ h => ?_)
    · exact hj14 _ h
    exact hj14 _ h

set_option maxHeartbeats 4000000 in
theorem fr_X12_burn {R : List Nat} {N : Nat} {x1 : Int32} {s0 : St} {r : Int32} {sr : St}  (hL : ∀ x ∈ ([206] : List Nat), x ∈ R)  (h : f_X12_burn N x1 s0 = some (r, sr)) : Fr R s0 sr := by
  have hF : Fr R s0 s0 := Fr.rf
  unfold f_X12_burn at h
  refine vl_s h (hF.sI (mem_lit rgq_206 hL rfl)) (fun s1 hF h => ?_)
  refine bp_g h (fun v2 h => ?_)
  refine e_ite h (fun _ h => ?_) (fun _ h => ?_)
  · exact ret_fi h hF
  refine ald_g h (fun v3 h => ?_)
  refine jn_e (fun j => j = some (r, sr) → Fr R s0 sr) h ?_ (fun j4 hj4 h => ?_)
  · intro h
    exact fr_X12_burn_L49 (hLsub hL rfl)  hF _ _ _ h
  refine e_ite h (fun _ h => ?_) (fun _ h => ?_)
  · exact hj4 h
  refine ald_g h (fun v17 h => ?_)
  refine bp_g h (fun v18 h => ?_)
  refine e_ite h (fun _ h => ?_) (fun _ h => ?_)
  · exact hj4 h
  exact ret_fi h hF

set_option maxHeartbeats 4000000 in
theorem fr_X12_waits_L23 {R : List Nat} {N : Nat} {c4 : Int32} {k8 : Int32 → St → Option (Int32 × St)} {s0 : St}  {r : Int32} {sr : St}  (hL : ∀ x ∈ ([208] : List Nat), x ∈ R)  (hk8 : ∀ (v9 : Int32) (s10 : St), Fr R s0 s10 → k8 v9 s10 = some (r, sr) → Fr R s0 sr)  : ∀ (n11 : Nat) (v5 : Int32) (v6 : Int32) (s7 : St), Fr R s0 s7 → f_X12_waits_L23 N c4 k8 n11 v5 v6 s7 = some (r, sr) → Fr R s0 sr := by
  intro n11
  induction n11 with
  | zero =>
    intro v5 v6 s7 hF h
    rw [f_X12_waits_L23] at h; cases h
  | succ n11 ih12 =>
    intro v5 v6 s7 hF h
    rw [f_X12_waits_L23] at h
    refine e_ite h (fun _ h => ?_) (fun _ h => ?_)
    · exact hk8 _ _ hF h
    refine e_ite h (fun _ h => ?_) (fun _ h => ?_)
    · exact hk8 _ _ hF h
    refine bp_g h (fun v13 h => ?_)
    refine jn_e (fun j => ∀ (v14 : Int32), j v14 = some (r, sr) → Fr R s0 sr) h ?_ (fun j15 hj15 h => ?_)
    · intro v14 h
      obtain ⟨s16, hc, h⟩ := bp_e h
      have hF := hF.trans (fr_X12_second (hLsub hL rfl) hc)
      refine vl_g h (fun v17 h => ?_)
      exact ih12 _ _ _ hF h
    refine e_ite h (fun _ h => ?_) (fun _ h => ?_)
    · exact hj15 _ h
    exact hj15 _ h

set_option maxHeartbeats 4000000 in
theorem fr_X12_waits {R : List Nat} {N : Nat} {x1 : Int32} {s0 : St} {r : Int32} {sr : St}  (hL : ∀ x ∈ ([206, 208, 214] : List Nat), x ∈ R)  (h : f_X12_waits N x1 s0 = some (r, sr)) : Fr R s0 sr := by
  have hF : Fr R s0 s0 := Fr.rf
  unfold f_X12_waits at h
  refine vl_s h (hF.sI (mem_lit rgq_206 hL rfl)) (fun s1 hF h => ?_)
  refine bp_g h (fun v2 h => ?_)
  refine e_ite h (fun _ h => ?_) (fun _ h => ?_)
  · exact ret_fi h hF
  obtain ⟨s3, hc, h⟩ := bp_e h
  have hF := hF.trans (fr_X12_tries (hLsub hL rfl) hc)
  refine fr_X12_waits_L23 (hLsub hL rfl) (fun v18 s19 hF h => ?_) _ _ _ _ hF h
  obtain ⟨s20, hc, h⟩ := bp_e h
  have hF := hF.trans (fr_X12_back (hLsub hL rfl) hc)
  exact ret_fi h hF

set_option maxHeartbeats 4000000 in
theorem fr_X12_mean_L44 {R : List Nat} {N : Nat} {c8 : Int32} {s11 : St} {k12 : Int32 → Option (Int32 × St)} {s0 : St}  {r : Int32} {sr : St}  (hL : ∀ x ∈ ([] : List Nat), x ∈ R)  (hk12 : ∀ (v13 : Int32), k12 v13 = some (r, sr) → Fr R s0 sr) (hF : Fr R s0 s11) : ∀ (n14 : Nat) (v9 : Int32) (v10 : Int32), f_X12_mean_L44 N c8 s11 k12 n14 v9 v10 = some (r, sr) → Fr R s0 sr := by
  intro n14
  induction n14 with
  | zero =>
    intro v9 v10 h
    rw [f_X12_mean_L44] at h; cases h
  | succ n14 ih15 =>
    intro v9 v10 h
    rw [f_X12_mean_L44] at h
    refine e_ite h (fun _ h => ?_) (fun _ h => ?_)
    · exact hk12 _ h
    refine rm_g h (fun v16 h => ?_)
    exact ih15 _ _ h

set_option maxHeartbeats 4000000 in
theorem fr_X12_mean {R : List Nat} {N : Nat} {x1 : Int32} {s0 : St} {r : Int32} {sr : St}  (hL : ∀ x ∈ ([206] : List Nat), x ∈ R)  (h : f_X12_mean N x1 s0 = some (r, sr)) : Fr R s0 sr := by
  have hF : Fr R s0 s0 := Fr.rf
  unfold f_X12_mean at h
  refine ald_g h (fun v1 h => ?_)
  refine jn_e (fun j => ∀ (v2 : Int32), j v2 = some (r, sr) → Fr R s0 sr) h ?_ (fun j3 hj3 h => ?_)
  · intro v2 h
    obtain ⟨v4, s5, hc, h⟩ := bd_e h
    have hF := hF.trans (fr_X12_throwsIf (hLsub hL rfl) hc)
    refine e_ite h (fun _ h => ?_) (fun _ h => ?_)
    · refine ald_g h (fun v6 h => ?_)
      refine bp_g h (fun v7 h => ?_)
      refine fr_X12_mean_L44 (hLsub hL rfl) (fun v17 h => ?_) hF _ _ _ h
      refine jn_e (fun j => ∀ (v18 : Int32), j v18 = some (r, sr) → Fr R s0 sr) h ?_ (fun j19 hj19 h => ?_)
      · intro v18 h
        refine dv_g h (fun v20 h => ?_)
        exact ret_fi h hF
      refine e_ite h (fun _ h => ?_) (fun _ h => ?_)
      · refine bp_g h (fun v21 h => ?_)
        exact hj19 _ h
      refine ald_g h (fun v22 h => ?_)
      exact hj19 _ h
    exact ret_fi h hF
  refine jn_e (fun j => j = some (r, sr) → Fr R s0 sr) h ?_ (fun j23 hj23 h => ?_)
  · intro h
    exact hj3 _ h
  refine e_ite h (fun _ h => ?_) (fun _ h => ?_)
  · exact hj23 h
  refine bp_g h (fun v24 h => ?_)
  refine e_ite h (fun _ h => ?_) (fun _ h => ?_)
  · exact hj23 h
  exact hj3 _ h

set_option maxHeartbeats 4000000 in
theorem fr_X12_lays {R : List Nat} {x1 : Int32} {s0 : St} {sr : St}  (hL : ∀ x ∈ ([206, 218] : List Nat), x ∈ R)  (h : f_X12_lays x1 s0 = some sr) : Fr R s0 sr := by
  have hF : Fr R s0 s0 := Fr.rf
  unfold f_X12_lays at h
  refine vl_g h (fun v1 h => ?_)
  refine ald_s h (fun _ => hF.sI (mem_lit rgq_218 hL rfl)) (fun s2 hF h => ?_)
  refine vl_g h (fun v3 h => ?_)
  refine vl_s h (hF.sI (mem_lit rgq_206 hL rfl)) (fun s4 hF h => ?_)
  exact ret_fv h hF

set_option maxHeartbeats 4000000 in
theorem fr_X12_spells_L3 {R : List Nat} {N : Nat} {c1 : Int64}  {s0 : St}  {sr : St}  (hL : ∀ x ∈ ([206, 218] : List Nat), x ∈ R)    : ∀ (n4 : Nat) (v2 : Int32) (s3 : St), Fr R s0 s3 → f_X12_spells_L3 N c1 n4 v2 s3 = some sr → Fr R s0 sr := by
  intro n4
  induction n4 with
  | zero =>
    intro v2 s3 hF h
    rw [f_X12_spells_L3] at h; cases h
  | succ n4 ih5 =>
    intro v2 s3 hF h
    rw [f_X12_spells_L3] at h
    refine e_ite h (fun _ h => ?_) (fun _ h => ?_)
    · exact ret_fv h hF
    refine jn_e (fun j => ∀ (s6 : St), Fr R s0 s6 → j s6 = some sr → Fr R s0 sr) h ?_ (fun j7 hj7 h => ?_)
    · intro s6 hF h
      refine vl_g h (fun v8 h => ?_)
      exact ih5 _ _ hF h
    refine e_ite h (fun _ h => ?_) (fun _ h => ?_)
    · exact hj7 _ hF h
    obtain ⟨s9, hc, h⟩ := bp_e h
    have hF := hF.trans (fr_X12_lays (hLsub hL rfl) hc)
    exact hj7 _ hF h

set_option maxHeartbeats 4000000 in
theorem fr_X12_spells {R : List Nat} {N : Nat} {x1 : Int64} {s0 : St} {sr : St}  (hL : ∀ x ∈ ([206, 218] : List Nat), x ∈ R)  (h : f_X12_spells N x1 s0 = some sr) : Fr R s0 sr := by
  have hF : Fr R s0 s0 := Fr.rf
  unfold f_X12_spells at h
  exact fr_X12_spells_L3 (hLsub hL rfl)  _ _ _ hF h

set_option maxHeartbeats 4000000 in
theorem fr_X12_says {R : List Nat} {N : Nat} {x1 : Int64} {s0 : St} {sr : St}  (hL : ∀ x ∈ ([206, 218] : List Nat), x ∈ R)  (h : f_X12_says N x1 s0 = some sr) : Fr R s0 sr := by
  have hF : Fr R s0 s0 := Fr.rf
  unfold f_X12_says at h
  obtain ⟨s1, hc, h⟩ := bp_e h
  have hF := hF.trans (fr_X12_lays (hLsub hL rfl) hc)
  obtain ⟨s2, hc, h⟩ := bp_e h
  have hF := hF.trans (fr_X12_spells (hLsub hL rfl) hc)
  exact ret_fv h hF

set_option maxHeartbeats 4000000 in
theorem fr_X12_twoDigits {R : List Nat} {x1 : Int32} {s0 : St} {sr : St}  (hL : ∀ x ∈ ([206, 218] : List Nat), x ∈ R)  (h : f_X12_twoDigits x1 s0 = some sr) : Fr R s0 sr := by
  have hF : Fr R s0 s0 := Fr.rf
  unfold f_X12_twoDigits at h
  obtain ⟨s1, hc, h⟩ := bp_e h
  have hF := hF.trans (fr_X12_lays (hLsub hL rfl) hc)
  refine jn_e (fun j => ∀ (s2 : St), Fr R s0 s2 → j s2 = some sr → Fr R s0 sr) h ?_ (fun j3 hj3 h => ?_)
  · intro s2 hF h
    refine rm_g h (fun v4 h => ?_)
    obtain ⟨s5, hc, h⟩ := bp_e h
    have hF := hF.trans (fr_X12_lays (hLsub hL rfl) hc)
    exact ret_fv h hF
  refine e_ite h (fun _ h => ?_) (fun _ h => ?_)
  · exact hj3 _ hF h
  refine dv_g h (fun v6 h => ?_)
  obtain ⟨s7, hc, h⟩ := bp_e h
  have hF := hF.trans (fr_X12_lays (hLsub hL rfl) hc)
  exact hj3 _ hF h

set_option maxHeartbeats 4000000 in
theorem fr_X12_tag {R : List Nat} {N : Nat} {x1 : Int32} {s0 : St} {r : Int32} {sr : St}  (hL : ∀ x ∈ ([206, 218] : List Nat), x ∈ R)  (h : f_X12_tag N x1 s0 = some (r, sr)) : Fr R s0 sr := by
  have hF : Fr R s0 s0 := Fr.rf
  unfold f_X12_tag at h
  refine vl_s h (hF.sI (mem_lit rgq_206 hL rfl)) (fun s1 hF h => ?_)
  refine bp_g h (fun v2 h => ?_)
  refine e_ite h (fun _ h => ?_) (fun _ h => ?_)
  · exact ret_fi h hF
  refine vl_s h (hF.sI (mem_lit rgq_206 hL rfl)) (fun s3 hF h => ?_)
  refine ald_g h (fun v4 h => ?_)
  obtain ⟨s5, hc, h⟩ := bp_e h
  have hF := hF.trans (fr_X12_spells (hLsub hL rfl) hc)
  obtain ⟨s6, hc, h⟩ := bp_e h
  have hF := hF.trans (fr_X12_says (hLsub hL rfl) hc)
  refine ald_g h (fun v7 h => ?_)
  obtain ⟨s8, hc, h⟩ := bp_e h
  have hF := hF.trans (fr_X12_twoDigits (hLsub hL rfl) hc)
  refine ald_g h (fun v9 h => ?_)
  obtain ⟨s10, hc, h⟩ := bp_e h
  have hF := hF.trans (fr_X12_twoDigits (hLsub hL rfl) hc)
  obtain ⟨s11, hc, h⟩ := bp_e h
  have hF := hF.trans (fr_X12_says (hLsub hL rfl) hc)
  refine bp_g h (fun v12 h => ?_)
  refine bp_g h (fun v13 h => ?_)
  obtain ⟨s14, hc, h⟩ := bp_e h
  have hF := hF.trans (fr_X12_twoDigits (hLsub hL rfl) hc)
  refine vl_g h (fun v15 h => ?_)
  exact ret_fi h hF

set_option maxHeartbeats 4000000 in
theorem fr_X12_byteAt {R : List Nat} {x1 : Int32} {s0 : St} {r : Int32} {sr : St}  (hL : ∀ x ∈ ([206] : List Nat), x ∈ R)  (h : f_X12_byteAt x1 s0 = some (r, sr)) : Fr R s0 sr := by
  have hF : Fr R s0 s0 := Fr.rf
  unfold f_X12_byteAt at h
  refine vl_s h (hF.sI (mem_lit rgq_206 hL rfl)) (fun s1 hF h => ?_)
  refine vl_g h (fun v2 h => ?_)
  refine bp_g h (fun v3 h => ?_)
  refine e_ite h (fun _ h => ?_) (fun _ h => ?_)
  · exact ret_fi h hF
  refine ald_g h (fun v4 h => ?_)
  exact ret_fi h hF

set_option maxHeartbeats 4000000 in
theorem fr_X12_draw {R : List Nat} {x1 : Int32} {s0 : St} {r : Int32} {sr : St}  (hL : ∀ x ∈ ([206] : List Nat), x ∈ R)  (h : f_X12_draw x1 s0 = some (r, sr)) : Fr R s0 sr := by
  have hF : Fr R s0 s0 := Fr.rf
  unfold f_X12_draw at h
  refine vl_g h (fun v1 h => ?_)
  refine vl_s h (hF.sI (mem_lit rgq_206 hL rfl)) (fun s2 hF h => ?_)
  refine vl_g h (fun v3 h => ?_)
  refine rm_g h (fun v4 h => ?_)
  exact ret_fi h hF

set_option maxHeartbeats 4000000 in
theorem fr_X12_drawSecond {R : List Nat}  {s0 : St} {sr : St}  (hL : ∀ x ∈ ([206, 208] : List Nat), x ∈ R)  (h : f_X12_drawSecond  s0 = some sr) : Fr R s0 sr := by
  have hF : Fr R s0 s0 := Fr.rf
  unfold f_X12_drawSecond at h
  obtain ⟨v1, s2, hc, h⟩ := bd_e h
  have hF := hF.trans (fr_X12_draw (hLsub hL rfl) hc)
  refine jn_e (fun j => j = some sr → Fr R s0 sr) h ?_ (fun j3 hj3 h => ?_)
  · intro h
    refine jn_e (fun j => j = some sr → Fr R s0 sr) h ?_ (fun j4 hj4 h => ?_)
    · intro h
      refine jn_e (fun j => j = some sr → Fr R s0 sr) h ?_ (fun j5 hj5 h => ?_)
      · intro h
        refine e_ite h (fun _ h => ?_) (fun _ h => ?_)
        · obtain ⟨v6, s7, hc, h⟩ := bd_e h
          have hF := hF.trans (fr_X12_draw (hLsub hL rfl) hc)
          refine ald_s h (fun _ => hF.sI (mem_lit rgq_208 hL rfl)) (fun s8 hF h => ?_)
          exact ret_fv h hF
        exact ret_fv h hF
      refine e_ite h (fun _ h => ?_) (fun _ h => ?_)
      · refine ald_g h (fun v9 h => ?_)
        refine e_ite h (fun _ h => ?_) (fun _ h => ?_)
        · exact hj5 h
        refine ald_g h (fun v10 h => ?_)
        obtain ⟨v11, s12, hc, h⟩ := bd_e h
        have hF := hF.trans (fr_X12_draw (hLsub hL rfl) hc)
        obtain ⟨v13, s14, hc, h⟩ := bd_e h
        have hF := hF.trans (fr_X12_draw (hLsub hL rfl) hc)
        refine vl_g h (fun v15 h => ?_)
        refine bp_g h (fun v16 h => ?_)
        refine jn_e (fun j => ∀ (s17 : St), Fr R s0 s17 → j s17 = some sr → Fr R s0 sr) h ?_ (fun j18 hj18 h => ?_)
        · intro s17 hF h
          exact ret_fv h hF
        refine e_ite h (fun _ h => ?_) (fun _ h => ?_)
        · refine ald_g h (fun v19 h => ?_)
          refine ald_s h (fun _ => hF.sI (mem_lit rgq_208 hL rfl)) (fun s20 hF h => ?_)
          exact hj18 _ hF h
        exact hj18 _ hF h
      exact hj5 h
    refine e_ite h (fun _ h => ?_) (fun _ h => ?_)
    · refine ald_g h (fun v21 h => ?_)
      refine e_ite h (fun _ h => ?_) (fun _ h => ?_)
      · exact hj4 h
      refine ald_g h (fun v22 h => ?_)
      obtain ⟨v23, s24, hc, h⟩ := bd_e h
      have hF := hF.trans (fr_X12_draw (hLsub hL rfl) hc)
      obtain ⟨v25, s26, hc, h⟩ := bd_e h
      have hF := hF.trans (fr_X12_draw (hLsub hL rfl) hc)
      refine ald_s h (fun _ => hF.sI (mem_lit rgq_208 hL rfl)) (fun s27 hF h => ?_)
      exact ret_fv h hF
    exact hj4 h
  refine e_ite h (fun _ h => ?_) (fun _ h => ?_)
  · refine ald_g h (fun v28 h => ?_)
    refine e_ite h (fun _ h => ?_) (fun _ h => ?_)
    · exact hj3 h
    refine ald_g h (fun v29 h => ?_)
    obtain ⟨v30, s31, hc, h⟩ := bd_e h
    have hF := hF.trans (fr_X12_draw (hLsub hL rfl) hc)
    refine ald_g h (fun v32 h => ?_)
    refine bp_g h (fun v33 h => ?_)
    refine jn_e (fun j => ∀ (s34 : St), Fr R s0 s34 → j s34 = some sr → Fr R s0 sr) h ?_ (fun j35 hj35 h => ?_)
    · intro s34 hF h
      exact ret_fv h hF
    refine e_ite h (fun _ h => ?_) (fun _ h => ?_)
    · refine ald_g h (fun v36 h => ?_)
      refine ald_s h (fun _ => hF.sI (mem_lit rgq_208 hL rfl)) (fun s37 hF h => ?_)
      exact hj35 _ hF h
    refine bp_g h (fun v38 h => ?_)
    refine e_ite h (fun _ h => ?_) (fun _ h => ?_)
    · refine ald_g h (fun v39 h => ?_)
      refine ald_s h (fun _ => hF.sI (mem_lit rgq_208 hL rfl)) (fun s40 hF h => ?_)
      exact hj35 _ hF h
    exact hj35 _ hF h
  exact hj3 h

set_option maxHeartbeats 4000000 in
theorem fr_X12_draws_L7 {R : List Nat} {N : Nat} {c2 : Int32}  {s0 : St}  {r : Int32} {sr : St}  (hL : ∀ x ∈ ([206, 208] : List Nat), x ∈ R)    : ∀ (n5 : Nat) (v3 : Int32) (s4 : St), Fr R s0 s4 → f_X12_draws_L7 N c2 n5 v3 s4 = some (r, sr) → Fr R s0 sr := by
  intro n5
  induction n5 with
  | zero =>
    intro v3 s4 hF h
    rw [f_X12_draws_L7] at h; cases h
  | succ n5 ih6 =>
    intro v3 s4 hF h
    rw [f_X12_draws_L7] at h
    refine e_ite h (fun _ h => ?_) (fun _ h => ?_)
    · exact ret_fi h hF
    refine ald_g h (fun v7 h => ?_)
    refine e_ite h (fun _ h => ?_) (fun _ h => ?_)
    · exact ret_fi h hF
    obtain ⟨s8, hc, h⟩ := bp_e h
    have hF := hF.trans (fr_X12_drawSecond (hLsub hL rfl) hc)
    obtain ⟨s9, hc, h⟩ := bp_e h
    have hF := hF.trans (fr_X12_second (hLsub hL rfl) hc)
    refine vl_g h (fun v10 h => ?_)
    exact ih6 _ _ hF h

set_option maxHeartbeats 4000000 in
theorem fr_X12_draws {R : List Nat} {N : Nat} {x1 : Int32} {x2 : Int32} {s0 : St} {r : Int32} {sr : St}  (hL : ∀ x ∈ ([206, 208] : List Nat), x ∈ R)  (h : f_X12_draws N x1 x2 s0 = some (r, sr)) : Fr R s0 sr := by
  have hF : Fr R s0 s0 := Fr.rf
  unfold f_X12_draws at h
  refine vl_s h (hF.sI (mem_lit rgq_206 hL rfl)) (fun s1 hF h => ?_)
  exact fr_X12_draws_L7 (hLsub hL rfl)  _ _ _ hF h

set_option maxHeartbeats 4000000 in
theorem fr_X12_drawn {R : List Nat} {N : Nat} {x1 : Int32} {x2 : Int32} {s0 : St} {r : Int32} {sr : St}  (hL : ∀ x ∈ ([206, 208, 213] : List Nat), x ∈ R)  (h : f_X12_drawn N x1 x2 s0 = some (r, sr)) : Fr R s0 sr := by
  have hF : Fr R s0 s0 := Fr.rf
  unfold f_X12_drawn at h
  refine vl_s h (hF.sI (mem_lit rgq_206 hL rfl)) (fun s1 hF h => ?_)
  refine bp_g h (fun v2 h => ?_)
  refine e_ite h (fun _ h => ?_) (fun _ h => ?_)
  · exact ret_fi h hF
  refine ald_g h (fun v3 h => ?_)
  refine jn_e (fun j => ∀ (s4 : St), Fr R s0 s4 → j s4 = some (r, sr) → Fr R s0 sr) h ?_ (fun j5 hj5 h => ?_)
  · intro s4 hF h
    obtain ⟨v6, s7, hc, h⟩ := bd_e h
    have hF := hF.trans (fr_X12_draws (hLsub hL rfl) hc)
    exact ret_fi h hF
  refine e_ite h (fun _ h => ?_) (fun _ h => ?_)
  · exact hj5 _ hF h
  obtain ⟨s8, hc, h⟩ := bp_e h
  have hF := hF.trans (fr_X12_stores (hLsub hL rfl) hc)
  exact hj5 _ hF h

set_option maxHeartbeats 4000000 in
theorem fr_X12_odds_L35 {R : List Nat} {N : Nat} {c5 : Int32} {c6 : Int32} {c7 : Int32}  {s0 : St}  {r : Int32} {sr : St}  (hL : ∀ x ∈ ([206, 208] : List Nat), x ∈ R)    : ∀ (n11 : Nat) (v8 : Int32) (v9 : Int32) (s10 : St), Fr R s0 s10 → f_X12_odds_L35 N c5 c6 c7 n11 v8 v9 s10 = some (r, sr) → Fr R s0 sr := by
  intro n11
  induction n11 with
  | zero =>
    intro v8 v9 s10 hF h
    rw [f_X12_odds_L35] at h; cases h
  | succ n11 ih12 =>
    intro v8 v9 s10 hF h
    rw [f_X12_odds_L35] at h
    refine e_ite h (fun _ h => ?_) (fun _ h => ?_)
    · exact ret_fi h hF
    obtain ⟨v13, s14, hc, h⟩ := bd_e h
    have hF := hF.trans (fr_X12_draws (hLsub hL rfl) hc)
    refine bp_g h (fun v15 h => ?_)
    refine jn_e (fun j => ∀ (v16 : Int32), j v16 = some (r, sr) → Fr R s0 sr) h ?_ (fun j17 hj17 h => ?_)
    · intro v16 h
      refine vl_g h (fun v18 h => ?_)
      obtain ⟨s19, hc, h⟩ := bp_e h
      have hF := hF.trans (fr_X12_back (hLsub hL rfl) hc)
      refine vl_g h (fun v20 h => ?_)
      exact ih12 _ _ _ hF h
    refine e_ite h (fun _ h => ?_) (fun _ h => ?_)
    · exact hj17 _ h
    exact hj17 _ h

set_option maxHeartbeats 4000000 in
theorem fr_X12_odds {R : List Nat} {N : Nat} {x1 : Int32} {x2 : Int32} {x3 : Int32} {s0 : St} {r : Int32} {sr : St}  (hL : ∀ x ∈ ([206, 208, 214] : List Nat), x ∈ R)  (h : f_X12_odds N x1 x2 x3 s0 = some (r, sr)) : Fr R s0 sr := by
  have hF : Fr R s0 s0 := Fr.rf
  unfold f_X12_odds at h
  refine vl_s h (hF.sI (mem_lit rgq_206 hL rfl)) (fun s1 hF h => ?_)
  refine bp_g h (fun v2 h => ?_)
  refine e_ite h (fun _ h => ?_) (fun _ h => ?_)
  · exact ret_fi h hF
  refine bp_g h (fun v3 h => ?_)
  refine e_ite h (fun _ h => ?_) (fun _ h => ?_)
  · exact ret_fi h hF
  obtain ⟨s4, hc, h⟩ := bp_e h
  have hF := hF.trans (fr_X12_tries (hLsub hL rfl) hc)
  exact fr_X12_odds_L35 (hLsub hL rfl)  _ _ _ _ hF h

set_option maxHeartbeats 4000000 in
theorem fr_X12_bookLine {R : List Nat} {N : Nat}  {s0 : St} {r : Int32} {sr : St}  (hL : ∀ x ∈ ([206, 210] : List Nat), x ∈ R)  (h : f_X12_bookLine N  s0 = some (r, sr)) : Fr R s0 sr := by
  have hF : Fr R s0 s0 := Fr.rf
  unfold f_X12_bookLine at h
  refine vl_g h (fun v1 h => ?_)
  refine vl_g h (fun v2 h => ?_)
  refine bp_g h (fun v3 h => ?_)
  refine jn_e (fun j => ∀ (v4 : Int32), j v4 = some (r, sr) → Fr R s0 sr) h ?_ (fun j5 hj5 h => ?_)
  · intro v4 h
    refine e_ite h (fun _ h => ?_) (fun _ h => ?_)
    · refine vl_g h (fun v6 h => ?_)
      refine e_ite h (fun _ h => ?_) (fun _ h => ?_)
      · obtain ⟨v7, s8, hc, h⟩ := bd_e h
        have hF := hF.trans (fr_X12_bad (hLsub hL rfl) hc)
        refine rz_e h (fun _ h => ?_)
        exact ret_fi h hF
      obtain ⟨s9, hc, h⟩ := bp_e h
      have hF := hF.trans (fr_X12_next (hLsub hL rfl) hc)
      refine ald_s h (fun _ => hF.sI (mem_lit rgq_210 hL rfl)) (fun s10 hF h => ?_)
      refine e_ite h (fun _ h => ?_) (fun _ h => ?_)
      · refine jn_e (fun j => ∀ (v11 : Int32) (s12 : St), Fr R s0 s12 → j v11 s12 = some (r, sr) → Fr R s0 sr) h ?_ (fun j13 hj13 h => ?_)
        · intro v11 s12 hF h
          refine vl_g h (fun v14 h => ?_)
          refine ald_s h (fun _ => hF.sI (mem_lit rgq_210 hL rfl)) (fun s15 hF h => ?_)
          refine e_ite h (fun _ h => ?_) (fun _ h => ?_)
          · refine rz_e h (fun _ h => ?_)
            exact ret_fi h hF
          refine e_ite h (fun _ h => ?_) (fun _ h => ?_)
          · refine jn_e (fun j => ∀ (v16 : Int32) (s17 : St), Fr R s0 s17 → j v16 s17 = some (r, sr) → Fr R s0 sr) h ?_ (fun j18 hj18 h => ?_)
            · intro v16 s17 hF h
              refine vl_g h (fun v19 h => ?_)
              refine ald_s h (fun _ => hF.sI (mem_lit rgq_210 hL rfl)) (fun s20 hF h => ?_)
              refine rz_e h (fun _ h => ?_)
              exact ret_fi h hF
            refine e_ite h (fun _ h => ?_) (fun _ h => ?_)
            · obtain ⟨v21, s22, hc, h⟩ := bd_e h
              have hF := hF.trans (fr_X12_takes (hLsub hL rfl) hc)
              exact hj18 _ _ hF h
            refine e_ite h (fun _ h => ?_) (fun _ h => ?_)
            · obtain ⟨v23, s24, hc, h⟩ := bd_e h
              have hF := hF.trans (fr_X12_takes (hLsub hL rfl) hc)
              exact hj18 _ _ hF h
            obtain ⟨v25, s26, hc, h⟩ := bd_e h
            have hF := hF.trans (fr_X12_takes (hLsub hL rfl) hc)
            exact hj18 _ _ hF h
          refine rz_e h (fun _ h => ?_)
          exact ret_fi h hF
        refine e_ite h (fun _ h => ?_) (fun _ h => ?_)
        · refine ald_g h (fun v27 h => ?_)
          obtain ⟨v28, s29, hc, h⟩ := bd_e h
          have hF := hF.trans (fr_X12_takesName (hLsub hL rfl) hc)
          exact hj13 _ _ hF h
        refine ald_g h (fun v30 h => ?_)
        obtain ⟨v31, s32, hc, h⟩ := bd_e h
        have hF := hF.trans (fr_X12_takesName (hLsub hL rfl) hc)
        exact hj13 _ _ hF h
      refine jn_e (fun j => ∀ (v33 : Int32), j v33 = some (r, sr) → Fr R s0 sr) h ?_ (fun j34 hj34 h => ?_)
      · intro v33 h
        obtain ⟨v35, s36, hc, h⟩ := bd_e h
        have hF := hF.trans (fr_X12_takes (hLsub hL rfl) hc)
        refine e_ite h (fun _ h => ?_) (fun _ h => ?_)
        · exact ret_fi h hF
        refine vl_g h (fun v37 h => ?_)
        refine ald_s h (fun _ => hF.sI (mem_lit rgq_210 hL rfl)) (fun s38 hF h => ?_)
        exact ret_fi h hF
      refine e_ite h (fun _ h => ?_) (fun _ h => ?_)
      · exact hj34 _ h
      exact hj34 _ h
    obtain ⟨v39, s40, hc, h⟩ := bd_e h
    have hF := hF.trans (fr_X12_bad (hLsub hL rfl) hc)
    refine rz_e h (fun _ h => ?_)
    exact ret_fi h hF
  refine e_ite h (fun _ h => ?_) (fun _ h => ?_)
  · refine bp_g h (fun v41 h => ?_)
    refine e_ite h (fun _ h => ?_) (fun _ h => ?_)
    · refine bp_g h (fun v42 h => ?_)
      refine e_ite h (fun _ h => ?_) (fun _ h => ?_)
      · refine bp_g h (fun v43 h => ?_)
        refine e_ite h (fun _ h => ?_) (fun _ h => ?_)
        · refine bp_g h (fun v44 h => ?_)
          refine e_ite h (fun _ h => ?_) (fun _ h => ?_)
          · refine bp_g h (fun v45 h => ?_)
            refine e_ite h (fun _ h => ?_) (fun _ h => ?_)
            · refine bp_g h (fun v46 h => ?_)
              refine e_ite h (fun _ h => ?_) (fun _ h => ?_)
              · exact hj5 _ h
              exact hj5 _ h
            exact hj5 _ h
          exact hj5 _ h
        exact hj5 _ h
      exact hj5 _ h
    exact hj5 _ h
  exact hj5 _ h

set_option maxHeartbeats 4000000 in
theorem fr_X12_does {R : List Nat} {N : Nat} {x1 : Int32} {x2 : Int32} {x3 : Int32} {s0 : St} {r : Int32} {sr : St}  (hL : ∀ x ∈ ([208] : List Nat), x ∈ R)  (h : f_X12_does N x1 x2 x3 s0 = some (r, sr)) : Fr R s0 sr := by
  have hF : Fr R s0 s0 := Fr.rf
  unfold f_X12_does at h
  refine jn_e (fun j => ∀ (v1 : Int32) (s2 : St), Fr R s0 s2 → j v1 s2 = some (r, sr) → Fr R s0 sr) h ?_ (fun j3 hj3 h => ?_)
  · intro v1 s2 hF h
    refine e_ite h (fun _ h => ?_) (fun _ h => ?_)
    · exact ret_fi h hF
    exact ret_fi h hF
  refine e_ite h (fun _ h => ?_) (fun _ h => ?_)
  · refine ald_g h (fun v4 h => ?_)
    refine bp_g h (fun v5 h => ?_)
    refine jn_e (fun j => ∀ (v6 : Int32), j v6 = some (r, sr) → Fr R s0 sr) h ?_ (fun j7 hj7 h => ?_)
    · intro v6 h
      refine ald_g h (fun v8 h => ?_)
      refine ald_s h (fun _ => hF.sI (mem_lit rgq_208 hL rfl)) (fun s9 hF h => ?_)
      exact hj3 _ _ hF h
    refine e_ite h (fun _ h => ?_) (fun _ h => ?_)
    · exact hj7 _ h
    exact hj7 _ h
  refine e_ite h (fun _ h => ?_) (fun _ h => ?_)
  · refine bp_g h (fun v10 h => ?_)
    refine e_ite h (fun _ h => ?_) (fun _ h => ?_)
    · refine ald_g h (fun v11 h => ?_)
      refine ald_s h (fun _ => hF.sI (mem_lit rgq_208 hL rfl)) (fun s12 hF h => ?_)
      exact hj3 _ _ hF h
    exact hj3 _ _ hF h
  refine e_ite h (fun _ h => ?_) (fun _ h => ?_)
  · refine bp_g h (fun v13 h => ?_)
    refine e_ite h (fun _ h => ?_) (fun _ h => ?_)
    · refine ald_g h (fun v14 h => ?_)
      refine ald_s h (fun _ => hF.sI (mem_lit rgq_208 hL rfl)) (fun s15 hF h => ?_)
      exact hj3 _ _ hF h
    exact hj3 _ _ hF h
  refine e_ite h (fun _ h => ?_) (fun _ h => ?_)
  · refine ald_g h (fun v16 h => ?_)
    refine jn_e (fun j => ∀ (v17 : Int32), j v17 = some (r, sr) → Fr R s0 sr) h ?_ (fun j18 hj18 h => ?_)
    · intro v17 h
      refine e_ite h (fun _ h => ?_) (fun _ h => ?_)
      · obtain ⟨s19, hc, h⟩ := bp_e h
        have hF := hF.trans (fr_X12_turns (hLsub hL rfl) hc)
        exact hj3 _ _ hF h
      exact hj3 _ _ hF h
    refine e_ite h (fun _ h => ?_) (fun _ h => ?_)
    · exact hj18 _ h
    exact hj18 _ h
  refine e_ite h (fun _ h => ?_) (fun _ h => ?_)
  · refine ald_g h (fun v20 h => ?_)
    refine jn_e (fun j => ∀ (v21 : Int32), j v21 = some (r, sr) → Fr R s0 sr) h ?_ (fun j22 hj22 h => ?_)
    · intro v21 h
      refine ald_s h (fun _ => hF.sI (mem_lit rgq_208 hL rfl)) (fun s23 hF h => ?_)
      exact hj3 _ _ hF h
    refine e_ite h (fun _ h => ?_) (fun _ h => ?_)
    · exact hj22 _ h
    exact hj22 _ h
  refine e_ite h (fun _ h => ?_) (fun _ h => ?_)
  · refine ald_g h (fun v24 h => ?_)
    refine jn_e (fun j => ∀ (v25 : Int32), j v25 = some (r, sr) → Fr R s0 sr) h ?_ (fun j26 hj26 h => ?_)
    · intro v25 h
      refine ald_s h (fun _ => hF.sI (mem_lit rgq_208 hL rfl)) (fun s27 hF h => ?_)
      exact hj3 _ _ hF h
    refine e_ite h (fun _ h => ?_) (fun _ h => ?_)
    · exact hj26 _ h
    exact hj26 _ h
  refine ald_g h (fun v28 h => ?_)
  refine jn_e (fun j => ∀ (v29 : Int32), j v29 = some (r, sr) → Fr R s0 sr) h ?_ (fun j30 hj30 h => ?_)
  · intro v29 h
    refine e_ite h (fun _ h => ?_) (fun _ h => ?_)
    · obtain ⟨v31, s32, hc, h⟩ := bd_e h
      have hF := hF.trans (fr_X12_goesOn (hLsub hL rfl) hc)
      exact hj3 _ _ hF h
    exact hj3 _ _ hF h
  refine e_ite h (fun _ h => ?_) (fun _ h => ?_)
  · exact hj30 _ h
  exact hj30 _ h

set_option maxHeartbeats 4000000 in
theorem fr_X12_book_L39 {R : List Nat} {N : Nat} {c7 : Int32} {k9 : St → Option (Int32 × St)} {k11 : St → Option (Int32 × St)} {s0 : St}  {r : Int32} {sr : St}  (hL : ∀ x ∈ ([206, 210] : List Nat), x ∈ R)  (hk9 : ∀ (s10 : St), Fr R s0 s10 → k9 s10 = some (r, sr) → Fr R s0 sr) (hk11 : ∀ (s12 : St), Fr R s0 s12 → k11 s12 = some (r, sr) → Fr R s0 sr)  : ∀ (n13 : Nat) (s8 : St), Fr R s0 s8 → f_X12_book_L39 N c7 k9 k11 n13 s8 = some (r, sr) → Fr R s0 sr := by
  intro n13
  induction n13 with
  | zero =>
    intro s8 hF h
    rw [f_X12_book_L39] at h; cases h
  | succ n13 ih14 =>
    intro s8 hF h
    rw [f_X12_book_L39] at h
    refine vl_g h (fun v15 h => ?_)
    refine e_ite h (fun _ h => ?_) (fun _ h => ?_)
    · exact hk9 _ hF h
    obtain ⟨v16, s17, hc, h⟩ := bd_e h
    have hF := hF.trans (fr_X12_bookLine (hLsub hL rfl) hc)
    refine e_ite h (fun _ h => ?_) (fun _ h => ?_)
    · exact hk11 _ hF h
    obtain ⟨v18, s19, hc, h⟩ := bd_e h
    have hF := hF.trans (fr_X12_sign (hLsub hL rfl) hc)
    refine e_ite h (fun _ h => ?_) (fun _ h => ?_)
    · exact hk11 _ hF h
    refine vl_g h (fun v20 h => ?_)
    refine vl_s h (hF.sI (mem_lit rgq_206 hL rfl)) (fun s21 hF h => ?_)
    exact ih14 _ hF h

set_option maxHeartbeats 4000000 in
theorem fr_X12_book_L89 {R : List Nat} {N : Nat} {c24 : Int32} {k27 : St → Option (Int32 × St)} {s0 : St}  {r : Int32} {sr : St}  (hL : ∀ x ∈ ([219] : List Nat), x ∈ R)  (hk27 : ∀ (s28 : St), Fr R s0 s28 → k27 s28 = some (r, sr) → Fr R s0 sr)  : ∀ (n29 : Nat) (v25 : Int32) (s26 : St), Fr R s0 s26 → f_X12_book_L89 N c24 k27 n29 v25 s26 = some (r, sr) → Fr R s0 sr := by
  intro n29
  induction n29 with
  | zero =>
    intro v25 s26 hF h
    rw [f_X12_book_L89] at h; cases h
  | succ n29 ih30 =>
    intro v25 s26 hF h
    rw [f_X12_book_L89] at h
    refine e_ite h (fun _ h => ?_) (fun _ h => ?_)
    · exact hk27 _ hF h
    refine ald_s h (fun _ => hF.sI (mem_lit rgq_219 hL rfl)) (fun s31 hF h => ?_)
    refine vl_g h (fun v32 h => ?_)
    exact ih30 _ _ hF h

set_option maxHeartbeats 4000000 in
theorem fr_X12_book_L111 {R : List Nat} {N : Nat} {c34 : Int32} {k38 : Int32 → St → Option (Int32 × St)} {s0 : St}  {r : Int32} {sr : St}  (hL : ∀ x ∈ ([208, 219] : List Nat), x ∈ R)  (hk38 : ∀ (v39 : Int32) (s40 : St), Fr R s0 s40 → k38 v39 s40 = some (r, sr) → Fr R s0 sr)  : ∀ (n41 : Nat) (v35 : Int32) (v36 : Int32) (s37 : St), Fr R s0 s37 → f_X12_book_L111 N c34 k38 n41 v35 v36 s37 = some (r, sr) → Fr R s0 sr := by
  intro n41
  induction n41 with
  | zero =>
    intro v35 v36 s37 hF h
    rw [f_X12_book_L111] at h; cases h
  | succ n41 ih42 =>
    intro v35 v36 s37 hF h
    rw [f_X12_book_L111] at h
    refine vl_g h (fun v43 h => ?_)
    refine e_ite h (fun _ h => ?_) (fun _ h => ?_)
    · exact hk38 _ _ hF h
    refine e_ite h (fun _ h => ?_) (fun _ h => ?_)
    · exact hk38 _ _ hF h
    refine ald_g h (fun v44 h => ?_)
    refine ald_g h (fun v45 h => ?_)
    refine ald_g h (fun v46 h => ?_)
    obtain ⟨v47, s48, hc, h⟩ := bd_e h
    have hF := hF.trans (fr_X12_does (hLsub hL rfl) hc)
    refine ald_s h (fun _ => hF.sI (mem_lit rgq_219 hL rfl)) (fun s49 hF h => ?_)
    refine ald_g h (fun v50 h => ?_)
    refine jn_e (fun j => ∀ (v51 : Int32) (s52 : St), Fr R s0 s52 → j v51 s52 = some (r, sr) → Fr R s0 sr) h ?_ (fun j53 hj53 h => ?_)
    · intro v51 s52 hF h
      refine vl_g h (fun v54 h => ?_)
      exact ih42 _ _ _ hF h
    refine e_ite h (fun _ h => ?_) (fun _ h => ?_)
    · refine ald_g h (fun v55 h => ?_)
      refine ald_s h (fun _ => hF.sI (mem_lit rgq_219 hL rfl)) (fun s56 hF h => ?_)
      exact hj53 _ _ hF h
    exact hj53 _ _ hF h

set_option maxHeartbeats 4000000 in
theorem fr_X12_book_L240 {R : List Nat} {N : Nat} {c69 : Int32} {c70 : Int32} {k73 : St → Option (Int32 × St)} {s0 : St}  {r : Int32} {sr : St}  (hL : ∀ x ∈ ([213] : List Nat), x ∈ R)  (hk73 : ∀ (s74 : St), Fr R s0 s74 → k73 s74 = some (r, sr) → Fr R s0 sr)  : ∀ (n75 : Nat) (v71 : Int32) (s72 : St), Fr R s0 s72 → f_X12_book_L240 N c69 c70 k73 n75 v71 s72 = some (r, sr) → Fr R s0 sr := by
  intro n75
  induction n75 with
  | zero =>
    intro v71 s72 hF h
    rw [f_X12_book_L240] at h; cases h
  | succ n75 ih76 =>
    intro v71 s72 hF h
    rw [f_X12_book_L240] at h
    refine e_ite h (fun _ h => ?_) (fun _ h => ?_)
    · exact hk73 _ hF h
    refine vl_g h (fun v77 h => ?_)
    refine ald_g h (fun v78 h => ?_)
    refine ald_s h (fun _ => hF.sI (mem_lit rgq_213 hL rfl)) (fun s79 hF h => ?_)
    refine vl_g h (fun v80 h => ?_)
    exact ih76 _ _ hF h

set_option maxHeartbeats 4000000 in
theorem fr_X12_book {R : List Nat} {N : Nat} {x1 : Int32} {s0 : St} {r : Int32} {sr : St}  (hL : ∀ x ∈ ([206, 208, 210, 213, 214, 219] : List Nat), x ∈ R)  (h : f_X12_book N x1 s0 = some (r, sr)) : Fr R s0 sr := by
  have hF : Fr R s0 s0 := Fr.rf
  unfold f_X12_book at h
  refine vl_s h (hF.sI (mem_lit rgq_206 hL rfl)) (fun s1 hF h => ?_)
  refine bp_g h (fun v2 h => ?_)
  refine e_ite h (fun _ h => ?_) (fun _ h => ?_)
  · exact ret_fi h hF
  obtain ⟨s3, hc, h⟩ := bp_e h
  have hF := hF.trans (fr_X12_taken (hLsub hL rfl) hc)
  refine vl_s h (hF.sI (mem_lit rgq_206 hL rfl)) (fun s4 hF h => ?_)
  refine vl_s h (hF.sI (mem_lit rgq_206 hL rfl)) (fun s5 hF h => ?_)
  obtain ⟨s6, hc, h⟩ := bp_e h
  have hF := hF.trans (fr_X12_next (hLsub hL rfl) hc)
  refine fr_X12_book_L39 (hLsub hL rfl) (fun s22 hF h => ?_) (fun s82 hF h => ?_) _ _ hF h
  · obtain ⟨s23, hc, h⟩ := bp_e h
    have hF := hF.trans (fr_X12_tries (hLsub hL rfl) hc)
    refine fr_X12_book_L89 (hLsub hL rfl) (fun s33 hF h => ?_) _ _ _ hF h
    refine fr_X12_book_L111 (hLsub hL rfl) (fun v57 s58 hF h => ?_) _ _ _ _ hF h
    refine ald_g h (fun v59 h => ?_)
    refine ald_s h (fun _ => hF.sI (mem_lit rgq_219 hL rfl)) (fun s60 hF h => ?_)
    refine bp_g h (fun v61 h => ?_)
    refine ald_s h (fun _ => hF.sI (mem_lit rgq_219 hL rfl)) (fun s62 hF h => ?_)
    refine vl_s h (hF.sI (mem_lit rgq_206 hL rfl)) (fun s63 hF h => ?_)
    refine jn_e (fun j => ∀ (s64 : St), Fr R s0 s64 → j s64 = some (r, sr) → Fr R s0 sr) h ?_ (fun j65 hj65 h => ?_)
    · intro s64 hF h
      refine e_ite h (fun _ h => ?_) (fun _ h => ?_)
      · obtain ⟨s66, hc, h⟩ := bp_e h
        have hF := hF.trans (fr_X12_back (hLsub hL rfl) hc)
        exact ret_fi h hF
      exact ret_fi h hF
    refine e_ite h (fun _ h => ?_) (fun _ h => ?_)
    · refine ald_g h (fun v67 h => ?_)
      refine e_ite h (fun _ h => ?_) (fun _ h => ?_)
      · exact hj65 _ hF h
      obtain ⟨s68, hc, h⟩ := bp_e h
      have hF := hF.trans (fr_X12_stores (hLsub hL rfl) hc)
      refine fr_X12_book_L240 (hLsub hL rfl) (fun s81 hF h => ?_) _ _ _ hF h
      exact hj65 _ hF h
    exact hj65 _ hF h
  refine vl_g h (fun v83 h => ?_)
  exact ret_fi h hF

set_option maxHeartbeats 4000000 in
theorem fr_X12_told {R : List Nat} {x1 : Int32} {s0 : St} {r : Int32} {sr : St}  (hL : ∀ x ∈ ([206] : List Nat), x ∈ R)  (h : f_X12_told x1 s0 = some (r, sr)) : Fr R s0 sr := by
  have hF : Fr R s0 s0 := Fr.rf
  unfold f_X12_told at h
  refine vl_s h (hF.sI (mem_lit rgq_206 hL rfl)) (fun s1 hF h => ?_)
  refine vl_g h (fun v2 h => ?_)
  refine jn_e (fun j => j = some (r, sr) → Fr R s0 sr) h ?_ (fun j3 hj3 h => ?_)
  · intro h
    exact ret_fi h hF
  refine e_ite h (fun _ h => ?_) (fun _ h => ?_)
  · exact hj3 h
  refine bp_g h (fun v4 h => ?_)
  refine e_ite h (fun _ h => ?_) (fun _ h => ?_)
  · exact hj3 h
  refine ald_g h (fun v5 h => ?_)
  exact ret_fi h hF

set_option maxHeartbeats 4000000 in
theorem fr_X12_code {R : List Nat} {x1 : Int32} {x2 : Int32} {x3 : Int32} {s0 : St} {sr : St}  (hL : ∀ x ∈ ([206, 210] : List Nat), x ∈ R)  (h : f_X12_code x1 x2 x3 s0 = some sr) : Fr R s0 sr := by
  have hF : Fr R s0 s0 := Fr.rf
  unfold f_X12_code at h
  refine vl_g h (fun v1 h => ?_)
  refine ald_s h (fun _ => hF.sI (mem_lit rgq_210 hL rfl)) (fun s2 hF h => ?_)
  refine vl_g h (fun v3 h => ?_)
  refine ald_s h (fun _ => hF.sI (mem_lit rgq_210 hL rfl)) (fun s4 hF h => ?_)
  refine vl_g h (fun v5 h => ?_)
  refine ald_s h (fun _ => hF.sI (mem_lit rgq_210 hL rfl)) (fun s6 hF h => ?_)
  refine vl_g h (fun v7 h => ?_)
  refine vl_s h (hF.sI (mem_lit rgq_206 hL rfl)) (fun s8 hF h => ?_)
  exact ret_fv h hF

set_option maxHeartbeats 4000000 in
theorem fr_X12_joins_L0 {R : List Nat} {N : Nat} {c1 : Int32}  {s0 : St}  {sr : St}  (hL : ∀ x ∈ ([206, 210] : List Nat), x ∈ R)    : ∀ (n3 : Nat) (s2 : St), Fr R s0 s2 → f_X12_joins_L0 N c1 n3 s2 = some sr → Fr R s0 sr := by
  intro n3
  induction n3 with
  | zero =>
    intro s2 hF h
    rw [f_X12_joins_L0] at h; cases h
  | succ n3 ih4 =>
    intro s2 hF h
    rw [f_X12_joins_L0] at h
    refine vl_g h (fun v5 h => ?_)
    refine e_ite h (fun _ h => ?_) (fun _ h => ?_)
    · exact ret_fv h hF
    refine vl_g h (fun v6 h => ?_)
    refine ald_g h (fun v7 h => ?_)
    refine jn_e (fun j => j = some sr → Fr R s0 sr) h ?_ (fun j8 hj8 h => ?_)
    · intro h
      refine vl_g h (fun v9 h => ?_)
      refine vl_s h (hF.sI (mem_lit rgq_206 hL rfl)) (fun s10 hF h => ?_)
      refine vl_g h (fun v11 h => ?_)
      refine ald_g h (fun v12 h => ?_)
      obtain ⟨s13, hc, h⟩ := bp_e h
      have hF := hF.trans (fr_X12_code (hLsub hL rfl) hc)
      exact ih4 _ hF h
    refine e_ite h (fun _ h => ?_) (fun _ h => ?_)
    · exact hj8 h
    refine vl_g h (fun v14 h => ?_)
    refine ald_g h (fun v15 h => ?_)
    refine e_ite h (fun _ h => ?_) (fun _ h => ?_)
    · refine e_ite h (fun _ h => ?_) (fun _ h => ?_)
      · exact hj8 h
      exact ret_fv h hF
    exact ret_fv h hF

set_option maxHeartbeats 4000000 in
theorem fr_X12_joins {R : List Nat} {N : Nat} {x1 : Int32} {s0 : St} {sr : St}  (hL : ∀ x ∈ ([206, 210] : List Nat), x ∈ R)  (h : f_X12_joins N x1 s0 = some sr) : Fr R s0 sr := by
  have hF : Fr R s0 s0 := Fr.rf
  unfold f_X12_joins at h
  exact fr_X12_joins_L0 (hLsub hL rfl)  _ _ hF h

set_option maxHeartbeats 4000000 in
theorem fr_X12_nots_L0 {R : List Nat} {N : Nat}   {s0 : St}  {sr : St}  (hL : ∀ x ∈ ([206, 210] : List Nat), x ∈ R)    : ∀ (n2 : Nat) (s1 : St), Fr R s0 s1 → f_X12_nots_L0 N n2 s1 = some sr → Fr R s0 sr := by
  intro n2
  induction n2 with
  | zero =>
    intro s1 hF h
    rw [f_X12_nots_L0] at h; cases h
  | succ n2 ih3 =>
    intro s1 hF h
    rw [f_X12_nots_L0] at h
    refine vl_g h (fun v4 h => ?_)
    refine e_ite h (fun _ h => ?_) (fun _ h => ?_)
    · exact ret_fv h hF
    refine vl_g h (fun v5 h => ?_)
    refine ald_g h (fun v6 h => ?_)
    refine e_ite h (fun _ h => ?_) (fun _ h => ?_)
    · refine vl_g h (fun v7 h => ?_)
      refine vl_s h (hF.sI (mem_lit rgq_206 hL rfl)) (fun s8 hF h => ?_)
      refine vl_g h (fun v9 h => ?_)
      refine vl_s h (hF.sI (mem_lit rgq_206 hL rfl)) (fun s10 hF h => ?_)
      obtain ⟨s11, hc, h⟩ := bp_e h
      have hF := hF.trans (fr_X12_code (hLsub hL rfl) hc)
      exact ih3 _ hF h
    exact ret_fv h hF

set_option maxHeartbeats 4000000 in
theorem fr_X12_nots {R : List Nat} {N : Nat}  {s0 : St} {sr : St}  (hL : ∀ x ∈ ([206, 210] : List Nat), x ∈ R)  (h : f_X12_nots N  s0 = some sr) : Fr R s0 sr := by
  have hF : Fr R s0 s0 := Fr.rf
  unfold f_X12_nots at h
  exact fr_X12_nots_L0 (hLsub hL rfl)  _ _ hF h

set_option maxHeartbeats 4000000 in
theorem fr_X12_operand {R : List Nat} {N : Nat}  {s0 : St} {r : Int32} {sr : St}  (hL : ∀ x ∈ ([206, 210, 220] : List Nat), x ∈ R)  (h : f_X12_operand N  s0 = some (r, sr)) : Fr R s0 sr := by
  have hF : Fr R s0 s0 := Fr.rf
  unfold f_X12_operand at h
  refine bp_g h (fun v1 h => ?_)
  refine bp_g h (fun v2 h => ?_)
  refine bp_g h (fun v3 h => ?_)
  refine jn_e (fun j => j = some (r, sr) → Fr R s0 sr) h ?_ (fun j4 hj4 h => ?_)
  · intro h
    refine vl_g h (fun v5 h => ?_)
    refine jn_e (fun j => j = some (r, sr) → Fr R s0 sr) h ?_ (fun j6 hj6 h => ?_)
    · intro h
      obtain ⟨v7, s8, hc, h⟩ := bd_e h
      have hF := hF.trans (fr_X12_bad (hLsub hL rfl) hc)
      refine rz_e h (fun _ h => ?_)
      exact ret_fi h hF
    refine e_ite h (fun _ h => ?_) (fun _ h => ?_)
    · exact hj6 h
    refine vl_g h (fun v9 h => ?_)
    refine e_ite h (fun _ h => ?_) (fun _ h => ?_)
    · refine vl_g h (fun v10 h => ?_)
      refine vl_s h (hF.sI (mem_lit rgq_206 hL rfl)) (fun s11 hF h => ?_)
      obtain ⟨s12, hc, h⟩ := bp_e h
      have hF := hF.trans (fr_X12_next (hLsub hL rfl) hc)
      refine jn_e (fun j => j = some (r, sr) → Fr R s0 sr) h ?_ (fun j13 hj13 h => ?_)
      · intro h
        refine vl_g h (fun v14 h => ?_)
        refine jn_e (fun j => ∀ (v15 : Int32), j v15 = some (r, sr) → Fr R s0 sr) h ?_ (fun j16 hj16 h => ?_)
        · intro v15 h
          refine ald_s h (fun _ => hF.sI (mem_lit rgq_220 hL rfl)) (fun s17 hF h => ?_)
          refine vl_g h (fun v18 h => ?_)
          refine vl_s h (hF.sI (mem_lit rgq_206 hL rfl)) (fun s19 hF h => ?_)
          refine vl_g h (fun v20 h => ?_)
          refine vl_s h (hF.sI (mem_lit rgq_206 hL rfl)) (fun s21 hF h => ?_)
          exact ret_fi h hF
        refine e_ite h (fun _ h => ?_) (fun _ h => ?_)
        · exact hj16 _ h
        exact hj16 _ h
      refine e_ite h (fun _ h => ?_) (fun _ h => ?_)
      · refine e_ite h (fun _ h => ?_) (fun _ h => ?_)
        · refine vl_s h (hF.sI (mem_lit rgq_206 hL rfl)) (fun s22 hF h => ?_)
          refine e_ite h (fun _ h => ?_) (fun _ h => ?_)
          · refine e_ite h (fun _ h => ?_) (fun _ h => ?_)
            · refine vl_g h (fun v23 h => ?_)
              refine jn_e (fun j => j = some (r, sr) → Fr R s0 sr) h ?_ (fun j24 hj24 h => ?_)
              · intro h
                obtain ⟨v25, s26, hc, h⟩ := bd_e h
                have hF := hF.trans (fr_X12_bad (hLsub hL rfl) hc)
                refine rz_e h (fun _ h => ?_)
                exact ret_fi h hF
              refine e_ite h (fun _ h => ?_) (fun _ h => ?_)
              · refine vl_g h (fun v27 h => ?_)
                refine e_ite h (fun _ h => ?_) (fun _ h => ?_)
                · exact hj24 h
                refine vl_g h (fun v28 h => ?_)
                refine e_ite h (fun _ h => ?_) (fun _ h => ?_)
                · refine vl_g h (fun v29 h => ?_)
                  obtain ⟨s30, hc, h⟩ := bp_e h
                  have hF := hF.trans (fr_X12_next (hLsub hL rfl) hc)
                  refine vl_g h (fun v31 h => ?_)
                  refine e_ite h (fun _ h => ?_) (fun _ h => ?_)
                  · refine vl_g h (fun v32 h => ?_)
                    obtain ⟨s33, hc, h⟩ := bp_e h
                    have hF := hF.trans (fr_X12_code (hLsub hL rfl) hc)
                    obtain ⟨s34, hc, h⟩ := bp_e h
                    have hF := hF.trans (fr_X12_next (hLsub hL rfl) hc)
                    exact ret_fi h hF
                  obtain ⟨v35, s36, hc, h⟩ := bd_e h
                  have hF := hF.trans (fr_X12_bad (hLsub hL rfl) hc)
                  refine rz_e h (fun _ h => ?_)
                  exact ret_fi h hF
                exact hj24 h
              exact hj24 h
            refine jn_e (fun j => ∀ (v37 : Int32) (s38 : St), Fr R s0 s38 → j v37 s38 = some (r, sr) → Fr R s0 sr) h ?_ (fun j39 hj39 h => ?_)
            · intro v37 s38 hF h
              refine e_ite h (fun _ h => ?_) (fun _ h => ?_)
              · exact ret_fi h hF
              refine vl_g h (fun v40 h => ?_)
              obtain ⟨s41, hc, h⟩ := bp_e h
              have hF := hF.trans (fr_X12_code (hLsub hL rfl) hc)
              obtain ⟨s42, hc, h⟩ := bp_e h
              have hF := hF.trans (fr_X12_next (hLsub hL rfl) hc)
              exact ret_fi h hF
            refine e_ite h (fun _ h => ?_) (fun _ h => ?_)
            · refine ald_g h (fun v43 h => ?_)
              obtain ⟨v44, s45, hc, h⟩ := bd_e h
              have hF := hF.trans (fr_X12_looksAt (hLsub hL rfl) hc)
              exact hj39 _ _ hF h
            refine ald_g h (fun v46 h => ?_)
            obtain ⟨v47, s48, hc, h⟩ := bd_e h
            have hF := hF.trans (fr_X12_looksAt (hLsub hL rfl) hc)
            exact hj39 _ _ hF h
          obtain ⟨s49, hc, h⟩ := bp_e h
          have hF := hF.trans (fr_X12_code (hLsub hL rfl) hc)
          exact ret_fi h hF
        exact hj13 h
      exact hj13 h
    exact hj6 h
  refine e_ite h (fun _ h => ?_) (fun _ h => ?_)
  · refine e_ite h (fun _ h => ?_) (fun _ h => ?_)
    · refine e_ite h (fun _ h => ?_) (fun _ h => ?_)
      · exact hj4 h
      obtain ⟨v50, s51, hc, h⟩ := bd_e h
      have hF := hF.trans (fr_X12_bad (hLsub hL rfl) hc)
      refine rz_e h (fun _ h => ?_)
      exact ret_fi h hF
    exact hj4 h
  exact hj4 h

set_option maxHeartbeats 4000000 in
theorem fr_X12_behind {R : List Nat} {N : Nat}  {s0 : St} {r : Int32} {sr : St}  (hL : ∀ x ∈ ([206, 210, 220] : List Nat), x ∈ R)  (h : f_X12_behind N  s0 = some (r, sr)) : Fr R s0 sr := by
  have hF : Fr R s0 s0 := Fr.rf
  unfold f_X12_behind at h
  obtain ⟨s1, hc, h⟩ := bp_e h
  have hF := hF.trans (fr_X12_nots (hLsub hL rfl) hc)
  refine bp_g h (fun v2 h => ?_)
  refine jn_e (fun j => j = some (r, sr) → Fr R s0 sr) h ?_ (fun j3 hj3 h => ?_)
  · intro h
    refine bp_g h (fun v4 h => ?_)
    refine jn_e (fun j => ∀ (v5 : Int32), j v5 = some (r, sr) → Fr R s0 sr) h ?_ (fun j6 hj6 h => ?_)
    · intro v5 h
      obtain ⟨s7, hc, h⟩ := bp_e h
      have hF := hF.trans (fr_X12_joins (hLsub hL rfl) hc)
      refine vl_g h (fun v8 h => ?_)
      refine bp_g h (fun v9 h => ?_)
      refine jn_e (fun j => ∀ (v10 : Int32), j v10 = some (r, sr) → Fr R s0 sr) h ?_ (fun j11 hj11 h => ?_)
      · intro v10 h
        refine ald_s h (fun _ => hF.sI (mem_lit rgq_220 hL rfl)) (fun s12 hF h => ?_)
        refine vl_g h (fun v13 h => ?_)
        refine vl_s h (hF.sI (mem_lit rgq_206 hL rfl)) (fun s14 hF h => ?_)
        refine vl_s h (hF.sI (mem_lit rgq_206 hL rfl)) (fun s15 hF h => ?_)
        obtain ⟨s16, hc, h⟩ := bp_e h
        have hF := hF.trans (fr_X12_next (hLsub hL rfl) hc)
        exact ret_fi h hF
      refine e_ite h (fun _ h => ?_) (fun _ h => ?_)
      · exact hj11 _ h
      exact hj11 _ h
    refine e_ite h (fun _ h => ?_) (fun _ h => ?_)
    · exact hj6 _ h
    exact hj6 _ h
  refine e_ite h (fun _ h => ?_) (fun _ h => ?_)
  · refine bp_g h (fun v17 h => ?_)
    refine e_ite h (fun _ h => ?_) (fun _ h => ?_)
    · obtain ⟨s18, hc, h⟩ := bp_e h
      have hF := hF.trans (fr_X12_joins (hLsub hL rfl) hc)
      refine bp_g h (fun v19 h => ?_)
      refine jn_e (fun j => j = some (r, sr) → Fr R s0 sr) h ?_ (fun j20 hj20 h => ?_)
      · intro h
        obtain ⟨v21, s22, hc, h⟩ := bd_e h
        have hF := hF.trans (fr_X12_bad (hLsub hL rfl) hc)
        refine rz_e h (fun _ h => ?_)
        exact ret_fi h hF
      refine e_ite h (fun _ h => ?_) (fun _ h => ?_)
      · exact hj20 h
      refine vl_g h (fun v23 h => ?_)
      refine e_ite h (fun _ h => ?_) (fun _ h => ?_)
      · exact hj20 h
      refine vl_g h (fun v24 h => ?_)
      refine vl_s h (hF.sI (mem_lit rgq_206 hL rfl)) (fun s25 hF h => ?_)
      refine vl_g h (fun v26 h => ?_)
      refine vl_s h (hF.sI (mem_lit rgq_206 hL rfl)) (fun s27 hF h => ?_)
      obtain ⟨s28, hc, h⟩ := bp_e h
      have hF := hF.trans (fr_X12_next (hLsub hL rfl) hc)
      exact ret_fi h hF
    exact hj3 h
  exact hj3 h

set_option maxHeartbeats 4000000 in
theorem fr_X12_sentence_L48 {R : List Nat} {N : Nat}  {k12 : St → Option (Int32 × St)} {k14 : St → Option (Int32 × St)} {k16 : St → Option (Int32 × St)} {k18 : St → Option (Int32 × St)} {s0 : St}  {r : Int32} {sr : St}  (hL : ∀ x ∈ ([206, 210, 220] : List Nat), x ∈ R)  (hk12 : ∀ (s13 : St), Fr R s0 s13 → k12 s13 = some (r, sr) → Fr R s0 sr) (hk14 : ∀ (s15 : St), Fr R s0 s15 → k14 s15 = some (r, sr) → Fr R s0 sr) (hk16 : ∀ (s17 : St), Fr R s0 s17 → k16 s17 = some (r, sr) → Fr R s0 sr) (hk18 : ∀ (s19 : St), Fr R s0 s19 → k18 s19 = some (r, sr) → Fr R s0 sr)  : ∀ (n20 : Nat) (v10 : Int32) (s11 : St), Fr R s0 s11 → f_X12_sentence_L48 N k12 k14 k16 k18 n20 v10 s11 = some (r, sr) → Fr R s0 sr := by
  intro n20
  induction n20 with
  | zero =>
    intro v10 s11 hF h
    rw [f_X12_sentence_L48] at h; cases h
  | succ n20 ih21 =>
    intro v10 s11 hF h
    rw [f_X12_sentence_L48] at h
    refine e_ite h (fun _ h => ?_) (fun _ h => ?_)
    · exact hk12 _ hF h
    refine vl_g h (fun v22 h => ?_)
    refine jn_e (fun j => j = some (r, sr) → Fr R s0 sr) h ?_ (fun j23 hj23 h => ?_)
    · intro h
      refine vl_g h (fun v24 h => ?_)
      refine e_ite h (fun _ h => ?_) (fun _ h => ?_)
      · obtain ⟨v25, s26, hc, h⟩ := bd_e h
        have hF := hF.trans (fr_X12_operand (hLsub hL rfl) hc)
        refine e_ite h (fun _ h => ?_) (fun _ h => ?_)
        · exact hk16 _ hF h
        exact ih21 _ _ hF h
      obtain ⟨v27, s28, hc, h⟩ := bd_e h
      have hF := hF.trans (fr_X12_behind (hLsub hL rfl) hc)
      refine e_ite h (fun _ h => ?_) (fun _ h => ?_)
      · exact hk14 _ hF h
      exact ih21 _ _ hF h
    refine e_ite h (fun _ h => ?_) (fun _ h => ?_)
    · exact hj23 h
    refine vl_g h (fun v29 h => ?_)
    refine e_ite h (fun _ h => ?_) (fun _ h => ?_)
    · obtain ⟨s30, hc, h⟩ := bp_e h
      have hF := hF.trans (fr_X12_nots (hLsub hL rfl) hc)
      obtain ⟨s31, hc, h⟩ := bp_e h
      have hF := hF.trans (fr_X12_joins (hLsub hL rfl) hc)
      refine vl_g h (fun v32 h => ?_)
      refine e_ite h (fun _ h => ?_) (fun _ h => ?_)
      · exact ih21 _ _ hF h
      exact hk18 _ hF h
    exact hj23 h

set_option maxHeartbeats 4000000 in
theorem fr_X12_sentence_L146 {R : List Nat} {N : Nat}  {k38 : St → Option (Int32 × St)} {s0 : St}  {r : Int32} {sr : St}  (hL : ∀ x ∈ ([208] : List Nat), x ∈ R)  (hk38 : ∀ (s39 : St), Fr R s0 s39 → k38 s39 = some (r, sr) → Fr R s0 sr)  : ∀ (n40 : Nat) (v36 : Int32) (s37 : St), Fr R s0 s37 → f_X12_sentence_L146 N k38 n40 v36 s37 = some (r, sr) → Fr R s0 sr := by
  intro n40
  induction n40 with
  | zero =>
    intro v36 s37 hF h
    rw [f_X12_sentence_L146] at h; cases h
  | succ n40 ih41 =>
    intro v36 s37 hF h
    rw [f_X12_sentence_L146] at h
    refine vl_g h (fun v42 h => ?_)
    refine e_ite h (fun _ h => ?_) (fun _ h => ?_)
    · exact hk38 _ hF h
    refine ald_g h (fun v43 h => ?_)
    refine ald_s h (fun _ => hF.sI (mem_lit rgq_208 hL rfl)) (fun s44 hF h => ?_)
    refine vl_g h (fun v45 h => ?_)
    exact ih41 _ _ hF h

set_option maxHeartbeats 4000000 in
theorem fr_X12_sentence {R : List Nat} {N : Nat}  {s0 : St} {r : Int32} {sr : St}  (hL : ∀ x ∈ ([206, 208, 210, 220] : List Nat), x ∈ R)  (h : f_X12_sentence N  s0 = some (r, sr)) : Fr R s0 sr := by
  have hF : Fr R s0 s0 := Fr.rf
  unfold f_X12_sentence at h
  refine vl_s h (hF.sI (mem_lit rgq_206 hL rfl)) (fun s1 hF h => ?_)
  obtain ⟨s2, hc, h⟩ := bp_e h
  have hF := hF.trans (fr_X12_taken (hLsub hL rfl) hc)
  refine vl_s h (hF.sI (mem_lit rgq_206 hL rfl)) (fun s3 hF h => ?_)
  refine vl_s h (hF.sI (mem_lit rgq_206 hL rfl)) (fun s4 hF h => ?_)
  refine vl_s h (hF.sI (mem_lit rgq_206 hL rfl)) (fun s5 hF h => ?_)
  refine vl_s h (hF.sI (mem_lit rgq_206 hL rfl)) (fun s6 hF h => ?_)
  refine vl_s h (hF.sI (mem_lit rgq_206 hL rfl)) (fun s7 hF h => ?_)
  refine vl_s h (hF.sI (mem_lit rgq_206 hL rfl)) (fun s8 hF h => ?_)
  obtain ⟨s9, hc, h⟩ := bp_e h
  have hF := hF.trans (fr_X12_next (hLsub hL rfl) hc)
  refine fr_X12_sentence_L48 (hLsub hL rfl) (fun s33 hF h => ?_) (fun s48 hF h => ?_) (fun s50 hF h => ?_) (fun s52 hF h => ?_) _ _ _ hF h
  · refine vl_g h (fun v34 h => ?_)
    refine ald_s h (fun _ => hF.sI (mem_lit rgq_208 hL rfl)) (fun s35 hF h => ?_)
    refine fr_X12_sentence_L146 (hLsub hL rfl) (fun s46 hF h => ?_) _ _ _ hF h
    refine vl_g h (fun v47 h => ?_)
    exact ret_fi h hF
  · refine vl_g h (fun v49 h => ?_)
    exact ret_fi h hF
  · refine vl_g h (fun v51 h => ?_)
    exact ret_fi h hF
  obtain ⟨v53, s54, hc, h⟩ := bd_e h
  have hF := hF.trans (fr_X12_bad (hLsub hL rfl) hc)
  refine vl_g h (fun v55 h => ?_)
  exact ret_fi h hF

set_option maxHeartbeats 4000000 in
theorem fr_X12_isSaid_L4 {R : List Nat} {N : Nat} {c1 : Int32} {k5 : St → Option (Int32 × St)} {s0 : St}  {r : Int32} {sr : St}  (hL : ∀ x ∈ ([221] : List Nat), x ∈ R)  (hk5 : ∀ (s6 : St), Fr R s0 s6 → k5 s6 = some (r, sr) → Fr R s0 sr)  : ∀ (n7 : Nat) (v2 : Int32) (v3 : Int32) (s4 : St), Fr R s0 s4 → f_X12_isSaid_L4 N c1 k5 n7 v2 v3 s4 = some (r, sr) → Fr R s0 sr := by
  intro n7
  induction n7 with
  | zero =>
    intro v2 v3 s4 hF h
    rw [f_X12_isSaid_L4] at h; cases h
  | succ n7 ih8 =>
    intro v2 v3 s4 hF h
    rw [f_X12_isSaid_L4] at h
    refine ald_g h (fun v9 h => ?_)
    refine e_ite h (fun _ h => ?_) (fun _ h => ?_)
    · exact hk5 _ hF h
    refine vl_g h (fun v10 h => ?_)
    refine ald_g h (fun v11 h => ?_)
    refine jn_e (fun j => ∀ (v12 : Int32) (s13 : St), Fr R s0 s13 → j v12 s13 = some (r, sr) → Fr R s0 sr) h ?_ (fun j14 hj14 h => ?_)
    · intro v12 s13 hF h
      refine vl_g h (fun v15 h => ?_)
      exact ih8 _ _ _ hF h
    refine e_ite h (fun _ h => ?_) (fun _ h => ?_)
    · refine ald_g h (fun v16 h => ?_)
      refine jn_e (fun j => ∀ (v17 : Int32), j v17 = some (r, sr) → Fr R s0 sr) h ?_ (fun j18 hj18 h => ?_)
      · intro v17 h
        refine ald_s h (fun _ => hF.sI (mem_lit rgq_221 hL rfl)) (fun s19 hF h => ?_)
        exact hj14 _ _ hF h
      refine e_ite h (fun _ h => ?_) (fun _ h => ?_)
      · exact hj18 _ h
      exact hj18 _ h
    refine ald_g h (fun v20 h => ?_)
    refine jn_e (fun j => j = some (r, sr) → Fr R s0 sr) h ?_ (fun j21 hj21 h => ?_)
    · intro h
      refine vl_g h (fun v22 h => ?_)
      refine ald_g h (fun v23 h => ?_)
      refine jn_e (fun j => ∀ (v24 : Int32), j v24 = some (r, sr) → Fr R s0 sr) h ?_ (fun j25 hj25 h => ?_)
      · intro v24 h
        refine ald_s h (fun _ => hF.sI (mem_lit rgq_221 hL rfl)) (fun s26 hF h => ?_)
        exact hj14 _ _ hF h
      refine e_ite h (fun _ h => ?_) (fun _ h => ?_)
      · refine ald_g h (fun v27 h => ?_)
        refine jn_e (fun j => j = some (r, sr) → Fr R s0 sr) h ?_ (fun j28 hj28 h => ?_)
        · intro h
          exact hj25 _ h
        refine e_ite h (fun _ h => ?_) (fun _ h => ?_)
        · exact hj28 h
        refine ald_g h (fun v29 h => ?_)
        refine e_ite h (fun _ h => ?_) (fun _ h => ?_)
        · exact hj28 h
        exact hj25 _ h
      refine ald_g h (fun v30 h => ?_)
      refine jn_e (fun j => j = some (r, sr) → Fr R s0 sr) h ?_ (fun j31 hj31 h => ?_)
      · intro h
        exact hj25 _ h
      refine e_ite h (fun _ h => ?_) (fun _ h => ?_)
      · refine ald_g h (fun v32 h => ?_)
        refine e_ite h (fun _ h => ?_) (fun _ h => ?_)
        · exact hj25 _ h
        exact hj31 h
      exact hj31 h
    refine e_ite h (fun _ h => ?_) (fun _ h => ?_)
    · exact hj21 h
    refine ald_g h (fun v33 h => ?_)
    refine e_ite h (fun _ h => ?_) (fun _ h => ?_)
    · exact hj21 h
    refine ald_g h (fun v34 h => ?_)
    refine ald_g h (fun v35 h => ?_)
    refine ald_g h (fun v36 h => ?_)
    refine bp_g h (fun v37 h => ?_)
    refine ald_s h (fun _ => hF.sI (mem_lit rgq_221 hL rfl)) (fun s38 hF h => ?_)
    refine vl_g h (fun v39 h => ?_)
    exact hj14 _ _ hF h

set_option maxHeartbeats 4000000 in
theorem fr_X12_isSaid {R : List Nat} {N : Nat} {x1 : Int32} {s0 : St} {r : Int32} {sr : St}  (hL : ∀ x ∈ ([221] : List Nat), x ∈ R)  (h : f_X12_isSaid N x1 s0 = some (r, sr)) : Fr R s0 sr := by
  have hF : Fr R s0 s0 := Fr.rf
  unfold f_X12_isSaid at h
  refine fr_X12_isSaid_L4 (hLsub hL rfl) (fun s40 hF h => ?_) _ _ _ _ hF h
  refine ald_g h (fun v41 h => ?_)
  refine rz_e h (fun _ h => ?_)
  exact ret_fi h hF

set_option maxHeartbeats 4000000 in
theorem fr_X12_said_L27 {R : List Nat} {N : Nat} {c3 : Int32} {k7 : Int32 → St → Option (Int32 × St)} {s0 : St}  {r : Int32} {sr : St}  (hL : ∀ x ∈ ([221] : List Nat), x ∈ R)  (hk7 : ∀ (v8 : Int32) (s9 : St), Fr R s0 s9 → k7 v8 s9 = some (r, sr) → Fr R s0 sr)  : ∀ (n10 : Nat) (v4 : Int32) (v5 : Int32) (s6 : St), Fr R s0 s6 → f_X12_said_L27 N c3 k7 n10 v4 v5 s6 = some (r, sr) → Fr R s0 sr := by
  intro n10
  induction n10 with
  | zero =>
    intro v4 v5 s6 hF h
    rw [f_X12_said_L27] at h; cases h
  | succ n10 ih11 =>
    intro v4 v5 s6 hF h
    rw [f_X12_said_L27] at h
    refine ald_g h (fun v12 h => ?_)
    refine e_ite h (fun _ h => ?_) (fun _ h => ?_)
    · exact hk7 _ _ hF h
    obtain ⟨v13, s14, hc, h⟩ := bd_e h
    have hF := hF.trans (fr_X12_isSaid (hLsub hL rfl) hc)
    refine jn_e (fun j => ∀ (v15 : Int32), j v15 = some (r, sr) → Fr R s0 sr) h ?_ (fun j16 hj16 h => ?_)
    · intro v15 h
      refine vl_g h (fun v17 h => ?_)
      exact ih11 _ _ _ hF h
    refine e_ite h (fun _ h => ?_) (fun _ h => ?_)
    · exact hj16 _ h
    refine e_ite h (fun _ h => ?_) (fun _ h => ?_)
    · exact ret_fi h hF
    refine vl_g h (fun v18 h => ?_)
    exact hj16 _ h

set_option maxHeartbeats 4000000 in
theorem fr_X12_said {R : List Nat} {N : Nat} {x1 : Int32} {s0 : St} {r : Int32} {sr : St}  (hL : ∀ x ∈ ([206, 221] : List Nat), x ∈ R)  (h : f_X12_said N x1 s0 = some (r, sr)) : Fr R s0 sr := by
  have hF : Fr R s0 s0 := Fr.rf
  unfold f_X12_said at h
  refine vl_s h (hF.sI (mem_lit rgq_206 hL rfl)) (fun s1 hF h => ?_)
  refine ald_g h (fun v2 h => ?_)
  refine e_ite h (fun _ h => ?_) (fun _ h => ?_)
  · exact ret_fi h hF
  refine e_ite h (fun _ h => ?_) (fun _ h => ?_)
  · refine fr_X12_said_L27 (hLsub hL rfl) (fun v19 s20 hF h => ?_) _ _ _ _ hF h
    refine e_ite h (fun _ h => ?_) (fun _ h => ?_)
    · exact ret_fi h hF
    exact ret_fi h hF
  exact ret_fi h hF

set_option maxHeartbeats 4000000 in
theorem fr_X12_image_L18 {R : List Nat} {N : Nat} {c3 : Int32} {k6 : St → Option (Int32 × St)} {s0 : St}  {r : Int32} {sr : St}  (hL : ∀ x ∈ ([222] : List Nat), x ∈ R)  (hk6 : ∀ (s7 : St), Fr R s0 s7 → k6 s7 = some (r, sr) → Fr R s0 sr)  : ∀ (n8 : Nat) (v4 : Int32) (s5 : St), Fr R s0 s5 → f_X12_image_L18 N c3 k6 n8 v4 s5 = some (r, sr) → Fr R s0 sr := by
  intro n8
  induction n8 with
  | zero =>
    intro v4 s5 hF h
    rw [f_X12_image_L18] at h; cases h
  | succ n8 ih9 =>
    intro v4 s5 hF h
    rw [f_X12_image_L18] at h
    refine e_ite h (fun _ h => ?_) (fun _ h => ?_)
    · exact hk6 _ hF h
    refine ald_g h (fun v10 h => ?_)
    refine ald_s h (fun _ => hF.sI (mem_lit rgq_222 hL rfl)) (fun s11 hF h => ?_)
    refine vl_g h (fun v12 h => ?_)
    exact ih9 _ _ hF h

set_option maxHeartbeats 4000000 in
theorem fr_X12_image_L51 {R : List Nat} {N : Nat} {c14 : Int32} {k17 : St → Option (Int32 × St)} {s0 : St}  {r : Int32} {sr : St}  (hL : ∀ x ∈ ([223] : List Nat), x ∈ R)  (hk17 : ∀ (s18 : St), Fr R s0 s18 → k17 s18 = some (r, sr) → Fr R s0 sr)  : ∀ (n19 : Nat) (v15 : Int32) (s16 : St), Fr R s0 s16 → f_X12_image_L51 N c14 k17 n19 v15 s16 = some (r, sr) → Fr R s0 sr := by
  intro n19
  induction n19 with
  | zero =>
    intro v15 s16 hF h
    rw [f_X12_image_L51] at h; cases h
  | succ n19 ih20 =>
    intro v15 s16 hF h
    rw [f_X12_image_L51] at h
    refine e_ite h (fun _ h => ?_) (fun _ h => ?_)
    · exact hk17 _ hF h
    refine ald_g h (fun v21 h => ?_)
    refine ald_s h (fun _ => hF.sL (mem_lit rgq_223 hL rfl)) (fun s22 hF h => ?_)
    refine vl_g h (fun v23 h => ?_)
    exact ih20 _ _ hF h

set_option maxHeartbeats 4000000 in
theorem fr_X12_image {R : List Nat} {N : Nat} {x1 : Int32} {s0 : St} {r : Int32} {sr : St}  (hL : ∀ x ∈ ([206, 222, 223, 224] : List Nat), x ∈ R)  (h : f_X12_image N x1 s0 = some (r, sr)) : Fr R s0 sr := by
  have hF : Fr R s0 s0 := Fr.rf
  unfold f_X12_image at h
  refine vl_s h (hF.sI (mem_lit rgq_206 hL rfl)) (fun s1 hF h => ?_)
  refine bp_g h (fun v2 h => ?_)
  refine e_ite h (fun _ h => ?_) (fun _ h => ?_)
  · exact ret_fi h hF
  refine fr_X12_image_L18 (hLsub hL rfl) (fun s13 hF h => ?_) _ _ _ hF h
  refine fr_X12_image_L51 (hLsub hL rfl) (fun s24 hF h => ?_) _ _ _ hF h
  refine ald_s h (fun _ => hF.sI (mem_lit rgq_224 hL rfl)) (fun s25 hF h => ?_)
  exact ret_fi h hF

set_option maxHeartbeats 4000000 in
theorem fr_X12_restore_L27 {R : List Nat} {N : Nat} {c4 : Int32} {k7 : St → Option (Int32 × St)} {s0 : St}  {r : Int32} {sr : St}  (hL : ∀ x ∈ ([208] : List Nat), x ∈ R)  (hk7 : ∀ (s8 : St), Fr R s0 s8 → k7 s8 = some (r, sr) → Fr R s0 sr)  : ∀ (n9 : Nat) (v5 : Int32) (s6 : St), Fr R s0 s6 → f_X12_restore_L27 N c4 k7 n9 v5 s6 = some (r, sr) → Fr R s0 sr := by
  intro n9
  induction n9 with
  | zero =>
    intro v5 s6 hF h
    rw [f_X12_restore_L27] at h; cases h
  | succ n9 ih10 =>
    intro v5 s6 hF h
    rw [f_X12_restore_L27] at h
    refine e_ite h (fun _ h => ?_) (fun _ h => ?_)
    · exact hk7 _ hF h
    refine ald_g h (fun v11 h => ?_)
    refine ald_s h (fun _ => hF.sI (mem_lit rgq_208 hL rfl)) (fun s12 hF h => ?_)
    refine vl_g h (fun v13 h => ?_)
    exact ih10 _ _ hF h

set_option maxHeartbeats 4000000 in
theorem fr_X12_restore_L60 {R : List Nat} {N : Nat} {c15 : Int32} {k18 : St → Option (Int32 × St)} {s0 : St}  {r : Int32} {sr : St}  (hL : ∀ x ∈ ([211] : List Nat), x ∈ R)  (hk18 : ∀ (s19 : St), Fr R s0 s19 → k18 s19 = some (r, sr) → Fr R s0 sr)  : ∀ (n20 : Nat) (v16 : Int32) (s17 : St), Fr R s0 s17 → f_X12_restore_L60 N c15 k18 n20 v16 s17 = some (r, sr) → Fr R s0 sr := by
  intro n20
  induction n20 with
  | zero =>
    intro v16 s17 hF h
    rw [f_X12_restore_L60] at h; cases h
  | succ n20 ih21 =>
    intro v16 s17 hF h
    rw [f_X12_restore_L60] at h
    refine e_ite h (fun _ h => ?_) (fun _ h => ?_)
    · exact hk18 _ hF h
    refine ald_g h (fun v22 h => ?_)
    refine ald_s h (fun _ => hF.sL (mem_lit rgq_211 hL rfl)) (fun s23 hF h => ?_)
    refine vl_g h (fun v24 h => ?_)
    exact ih21 _ _ hF h

set_option maxHeartbeats 4000000 in
theorem fr_X12_restore {R : List Nat} {N : Nat} {x1 : Int32} {s0 : St} {r : Int32} {sr : St}  (hL : ∀ x ∈ ([206, 208, 211] : List Nat), x ∈ R)  (h : f_X12_restore N x1 s0 = some (r, sr)) : Fr R s0 sr := by
  have hF : Fr R s0 s0 := Fr.rf
  unfold f_X12_restore at h
  refine vl_s h (hF.sI (mem_lit rgq_206 hL rfl)) (fun s1 hF h => ?_)
  refine bp_g h (fun v2 h => ?_)
  refine e_ite h (fun _ h => ?_) (fun _ h => ?_)
  · exact ret_fi h hF
  refine ald_g h (fun v3 h => ?_)
  refine e_ite h (fun _ h => ?_) (fun _ h => ?_)
  · exact ret_fi h hF
  refine fr_X12_restore_L27 (hLsub hL rfl) (fun s14 hF h => ?_) _ _ _ hF h
  refine fr_X12_restore_L60 (hLsub hL rfl) (fun s25 hF h => ?_) _ _ _ hF h
  refine vl_s h (hF.sI (mem_lit rgq_206 hL rfl)) (fun s26 hF h => ?_)
  exact ret_fi h hF

set_option maxHeartbeats 4000000 in
theorem fr_X12_count {R : List Nat} {x1 : Int32} {s0 : St} {r : Int32} {sr : St}  (hL : ∀ x ∈ ([206] : List Nat), x ∈ R)  (h : f_X12_count x1 s0 = some (r, sr)) : Fr R s0 sr := by
  have hF : Fr R s0 s0 := Fr.rf
  unfold f_X12_count at h
  refine vl_s h (hF.sI (mem_lit rgq_206 hL rfl)) (fun s1 hF h => ?_)
  refine e_ite h (fun _ h => ?_) (fun _ h => ?_)
  · refine vl_g h (fun v2 h => ?_)
    exact ret_fi h hF
  refine bp_g h (fun v3 h => ?_)
  refine e_ite h (fun _ h => ?_) (fun _ h => ?_)
  · exact ret_fi h hF
  refine ald_g h (fun v4 h => ?_)
  exact ret_fi h hF

set_option maxHeartbeats 4000000 in
theorem fr_X1_copyFrom_L2 {R : List Nat} {N : Nat} {c1 : Nat} {c2 : Nat} {k5 : St → Option (St)} {s0 : St}  {sr : St} (h_c1 : sh c1 = 1) (h_c2 : sh c2 = 1) (hL : ∀ x ∈ ([] : List Nat), x ∈ R) (hm_c1 : reg c1 ∈ R) (hk5 : ∀ (s6 : St), Fr R s0 s6 → k5 s6 = some sr → Fr R s0 sr)  : ∀ (n7 : Nat) (v3 : Int32) (s4 : St), Fr R s0 s4 → f_X1_copyFrom_L2 N c1 c2 k5 n7 v3 s4 = some sr → Fr R s0 sr := by
  intro n7
  induction n7 with
  | zero =>
    intro v3 s4 hF h
    rw [f_X1_copyFrom_L2] at h; cases h
  | succ n7 ih8 =>
    intro v3 s4 hF h
    rw [f_X1_copyFrom_L2] at h
    refine vl_g h (fun v9 h => ?_)
    refine e_ite h (fun _ h => ?_) (fun _ h => ?_)
    · exact hk5 _ hF h
    refine ald_i h (fun i11 hi11 h => ?_)
    refine ald_i h (fun i13 hi13 h => ?_)
    obtain ⟨s14, hc, h⟩ := bp_e h
    have hF := hF.trans (fr_X4_copyFrom (we_24 _ (wt_1_0 _ h_c1).1 _ hi11) (we_24 _ (wt_1_0 _ h_c2).1 _ hi13) (hLsub hL rfl) (mem_ref ((rge_24 _ (wt_1_0 _ h_c1).1 _ hi11).trans ((rgf_1_0 _ h_c1).trans rfl)) hm_c1) hc)
    refine vl_g h (fun v15 h => ?_)
    exact ih8 _ _ hF h

set_option maxHeartbeats 4000000 in
theorem fr_X1_copyFrom_L33 {R : List Nat} {N : Nat} {c17 : Nat} {c18 : Nat} {k21 : St → Option (St)} {s0 : St}  {sr : St} (h_c17 : sh c17 = 1) (h_c18 : sh c18 = 1) (hL : ∀ x ∈ ([] : List Nat), x ∈ R) (hm_c17 : reg c17 ∈ R) (hk21 : ∀ (s22 : St), Fr R s0 s22 → k21 s22 = some sr → Fr R s0 sr)  : ∀ (n23 : Nat) (v19 : Int32) (s20 : St), Fr R s0 s20 → f_X1_copyFrom_L33 N c17 c18 k21 n23 v19 s20 = some sr → Fr R s0 sr := by
  intro n23
  induction n23 with
  | zero =>
    intro v19 s20 hF h
    rw [f_X1_copyFrom_L33] at h; cases h
  | succ n23 ih24 =>
    intro v19 s20 hF h
    rw [f_X1_copyFrom_L33] at h
    refine vl_g h (fun v25 h => ?_)
    refine e_ite h (fun _ h => ?_) (fun _ h => ?_)
    · exact hk21 _ hF h
    refine ald_i h (fun i27 hi27 h => ?_)
    refine ald_i h (fun i29 hi29 h => ?_)
    obtain ⟨s30, hc, h⟩ := bp_e h
    have hF := hF.trans (fr_X8_copyFrom (we_25 _ (wt_1_1 _ h_c17).1 _ hi27) (we_25 _ (wt_1_1 _ h_c18).1 _ hi29) (hLsub hL rfl) (mem_ref ((rge_25 _ (wt_1_1 _ h_c17).1 _ hi27).trans ((rgf_1_1 _ h_c17).trans rfl)) hm_c17) hc)
    refine vl_g h (fun v31 h => ?_)
    exact ih24 _ _ hF h

set_option maxHeartbeats 4000000 in
theorem fr_X1_copyFrom {R : List Nat} {N : Nat} {a0 : Nat} {a1 : Nat} {s0 : St} {sr : St} (h_a0 : sh a0 = 1) (h_a1 : sh a1 = 1) (hL : ∀ x ∈ ([] : List Nat), x ∈ R) (hm_a0 : reg a0 ∈ R) (h : f_X1_copyFrom N a0 a1 s0 = some sr) : Fr R s0 sr := by
  have hF : Fr R s0 s0 := Fr.rf
  unfold f_X1_copyFrom at h
  refine fr_X1_copyFrom_L2 h_a0 h_a1 (hLsub hL rfl) (mem_ref rfl hm_a0) (fun s16 hF h => ?_) _ _ _ hF h
  refine fr_X1_copyFrom_L33 h_a0 h_a1 (hLsub hL rfl) (mem_ref rfl hm_a0) (fun s32 hF h => ?_) _ _ _ hF h
  refine vl_g h (fun v33 h => ?_)
  refine vl_s h (hF.sI (mem_ref rfl hm_a0)) (fun s34 hF h => ?_)
  refine vl_g h (fun v35 h => ?_)
  refine vl_s h (hF.sI (mem_ref rfl hm_a0)) (fun s36 hF h => ?_)
  refine vl_g h (fun v37 h => ?_)
  refine vl_s h (hF.sI (mem_ref rfl hm_a0)) (fun s38 hF h => ?_)
  refine vl_g h (fun v39 h => ?_)
  refine vl_s h (hF.sI (mem_ref rfl hm_a0)) (fun s40 hF h => ?_)
  exact ret_fv h hF

set_option maxHeartbeats 4000000 in
theorem fr_X2_draw {R : List Nat} {x1 : Int32} {s0 : St} {r : Int32} {sr : St}  (hL : ∀ x ∈ ([19] : List Nat), x ∈ R)  (h : f_X2_draw x1 s0 = some (r, sr)) : Fr R s0 sr := by
  have hF : Fr R s0 s0 := Fr.rf
  unfold f_X2_draw at h
  refine vl_g h (fun v1 h => ?_)
  refine vl_s h (hF.sI (mem_lit rgq_131 hL rfl)) (fun s2 hF h => ?_)
  refine vl_g h (fun v3 h => ?_)
  refine bp_g h (fun v4 h => ?_)
  exact ret_fi h hF

set_option maxHeartbeats 4000000 in
theorem fr_X2_douseOrKindle {R : List Nat} {a0 : Nat} {x1 : Int32} {s0 : St} {sr : St} (h_a0 : sh a0 = 6) (hL : ∀ x ∈ ([] : List Nat), x ∈ R) (hm_a0 : reg a0 ∈ R) (h : f_X2_douseOrKindle a0 x1 s0 = some sr) : Fr R s0 sr := by
  have hF : Fr R s0 s0 := Fr.rf
  unfold f_X2_douseOrKindle at h
  refine bp_g h (fun v1 h => ?_)
  refine e_ite h (fun _ h => ?_) (fun _ h => ?_)
  · obtain ⟨v2, s3, hc, h⟩ := bd_e h
    have hF := hF.trans (fr_X6_putOut h_a0 (hLsub hL rfl) (mem_ref rfl hm_a0) hc)
    exact ret_fv h hF
  obtain ⟨v4, s5, hc, h⟩ := bd_e h
  have hF := hF.trans (fr_X6_relight h_a0 (hLsub hL rfl) (mem_ref rfl hm_a0) hc)
  exact ret_fv h hF

set_option maxHeartbeats 4000000 in
theorem fr_X4_addFlash {R : List Nat} {N : Nat} {a0 : Nat} {x1 : Int32} {x2 : Int32} {s0 : St} {sr : St} (h_a0 : sh a0 = 4) (hL : ∀ x ∈ ([] : List Nat), x ∈ R) (hm_a0 : reg a0 ∈ R) (h : f_X4_addFlash N a0 x1 x2 s0 = some sr) : Fr R s0 sr := by
  have hF : Fr R s0 s0 := Fr.rf
  unfold f_X4_addFlash at h
  refine vl_g h (fun v1 h => ?_)
  refine jn_e (fun j => ∀ (s2 : St), Fr R s0 s2 → j s2 = some sr → Fr R s0 sr) h ?_ (fun j3 hj3 h => ?_)
  · intro s2 hF h
    refine vl_g h (fun v4 h => ?_)
    refine vl_s h (hF.sI (mem_ref rfl hm_a0)) (fun s5 hF h => ?_)
    obtain ⟨s6, hc, h⟩ := bp_e h
    have hF := hF.trans (fr_X4_addSeconds h_a0 (hLsub hL rfl) (mem_ref rfl hm_a0) hc)
    obtain ⟨s7, hc, h⟩ := bp_e h
    have hF := hF.trans (fr_X4_addSeconds h_a0 (hLsub hL rfl) (mem_ref rfl hm_a0) hc)
    exact ret_fv h hF
  refine e_ite h (fun _ h => ?_) (fun _ h => ?_)
  · refine vl_s h (hF.sI (mem_ref rfl hm_a0)) (fun s8 hF h => ?_)
    exact hj3 _ hF h
  exact hj3 _ hF h

set_option maxHeartbeats 4000000 in
theorem fr_X5_mark {R : List Nat} {a1 : Nat} {s0 : St} {sr : St} (h_a1 : sh a1 = 6) (hL : ∀ x ∈ ([10, 11, 12, 13, 14, 15, 16, 17, 18] : List Nat), x ∈ R)  (h : f_X5_mark a1 s0 = some sr) : Fr R s0 sr := by
  have hF : Fr R s0 s0 := Fr.rf
  unfold f_X5_mark at h
  refine vl_g h (fun v1 h => ?_)
  refine ald_i h (fun i3 hi3 h => ?_)
  obtain ⟨s4, hc, h⟩ := bp_e h
  have hF := hF.trans (fr_X6_copyFrom (we_26 _ shq_76 _ hi3) h_a1 (hLsub hL rfl) (mem_set (rge_26 _ hi3) hL rfl) hc)
  exact ret_fv h hF

set_option maxHeartbeats 4000000 in
theorem fr_X5_takeBack {R : List Nat} {a1 : Nat} {s0 : St} {r : Int32} {sr : St} (h_a1 : sh a1 = 6) (hL : ∀ x ∈ ([9] : List Nat), x ∈ R) (hm_a1 : reg a1 ∈ R) (h : f_X5_takeBack a1 s0 = some (r, sr)) : Fr R s0 sr := by
  have hF : Fr R s0 s0 := Fr.rf
  unfold f_X5_takeBack at h
  refine vl_g h (fun v1 h => ?_)
  refine e_ite h (fun _ h => ?_) (fun _ h => ?_)
  · exact ret_fi h hF
  refine vl_g h (fun v2 h => ?_)
  refine rm_g h (fun v3 h => ?_)
  refine vl_s h (hF.sI (mem_lit rgq_75 hL rfl)) (fun s4 hF h => ?_)
  refine vl_g h (fun v5 h => ?_)
  refine ald_i h (fun i7 hi7 h => ?_)
  obtain ⟨s8, hc, h⟩ := bp_e h
  have hF := hF.trans (fr_X6_copyFrom h_a1 (we_26 _ shq_76 _ hi7) (hLsub hL rfl) (mem_ref rfl hm_a1) hc)
  refine vl_g h (fun v9 h => ?_)
  refine vl_s h (hF.sI (mem_lit rgq_75 hL rfl)) (fun s10 hF h => ?_)
  refine vl_g h (fun v11 h => ?_)
  exact ret_fi h hF

set_option maxHeartbeats 4000000 in
theorem fr_X6_moveOn {R : List Nat} {a0 : Nat} {x1 : Int32} {x2 : Int32} {s0 : St} {r : Int32} {sr : St} (h_a0 : sh a0 = 6) (hL : ∀ x ∈ ([] : List Nat), x ∈ R) (hm_a0 : reg a0 ∈ R) (h : f_X6_moveOn a0 x1 x2 s0 = some (r, sr)) : Fr R s0 sr := by
  have hF : Fr R s0 s0 := Fr.rf
  unfold f_X6_moveOn at h
  refine ald_i h (fun i2 hi2 h => ?_)
  refine vl_g h (fun v3 h => ?_)
  refine e_ite h (fun _ h => ?_) (fun _ h => ?_)
  · exact ret_fi h hF
  refine ald_g h (fun v4 h => ?_)
  refine ald_i h (fun i6 hi6 h => ?_)
  refine vl_g h (fun v7 h => ?_)
  refine bp_g h (fun v8 h => ?_)
  refine ald_s h (fun _ => hF.sI (mem_ref ((rgf_6_5 _ h_a0).trans rfl) hm_a0)) (fun s9 hF h => ?_)
  exact ret_fi h hF

set_option maxHeartbeats 4000000 in
theorem fr_X6_sail {R : List Nat} {a0 : Nat} {x1 : Int32} {s0 : St} {sr : St} (h_a0 : sh a0 = 6) (hL : ∀ x ∈ ([] : List Nat), x ∈ R) (hm_a0 : reg a0 ∈ R) (h : f_X6_sail a0 x1 s0 = some sr) : Fr R s0 sr := by
  have hF : Fr R s0 s0 := Fr.rf
  unfold f_X6_sail at h
  refine ald_g h (fun v1 h => ?_)
  refine ald_g h (fun v2 h => ?_)
  refine ald_g h (fun v3 h => ?_)
  refine vl_g h (fun v4 h => ?_)
  refine ald_g h (fun v5 h => ?_)
  refine ald_g h (fun v6 h => ?_)
  refine ald_g h (fun v7 h => ?_)
  refine vl_g h (fun v8 h => ?_)
  refine bp_g h (fun v9 h => ?_)
  refine e_ite h (fun _ h => ?_) (fun _ h => ?_)
  · refine ald_s h (fun _ => hF.sI (mem_ref ((rgf_6_8 _ h_a0).trans rfl) hm_a0)) (fun s10 hF h => ?_)
    exact ret_fv h hF
  refine ald_s h (fun _ => hF.sI (mem_ref ((rgf_6_6 _ h_a0).trans rfl) hm_a0)) (fun s11 hF h => ?_)
  refine ald_s h (fun _ => hF.sI (mem_ref ((rgf_6_7 _ h_a0).trans rfl) hm_a0)) (fun s12 hF h => ?_)
  exact ret_fv h hF

set_option maxHeartbeats 4000000 in
theorem fr_X9_next_L5 {R : List Nat} {N : Nat}  {s3 : St} {k4 : Int32 → Option (St)} {s0 : St}  {sr : St}  (hL : ∀ x ∈ ([] : List Nat), x ∈ R)  (hk4 : ∀ (v5 : Int32), k4 v5 = some sr → Fr R s0 sr) (hF : Fr R s0 s3) : ∀ (n6 : Nat) (v2 : Int32), f_X9_next_L5 N s3 k4 n6 v2 = some sr → Fr R s0 sr := by
  intro n6
  induction n6 with
  | zero =>
    intro v2 h
    rw [f_X9_next_L5] at h; cases h
  | succ n6 ih7 =>
    intro v2 h
    rw [f_X9_next_L5] at h
    refine vl_g h (fun v8 h => ?_)
    refine e_ite h (fun _ h => ?_) (fun _ h => ?_)
    · exact hk4 _ h
    refine ald_g h (fun v9 h => ?_)
    refine jn_e (fun j => j = some sr → Fr R s0 sr) h ?_ (fun j10 hj10 h => ?_)
    · intro h
      refine vl_g h (fun v11 h => ?_)
      exact ih7 _ h
    refine e_ite h (fun _ h => ?_) (fun _ h => ?_)
    · exact hj10 h
    refine ald_g h (fun v12 h => ?_)
    refine e_ite h (fun _ h => ?_) (fun _ h => ?_)
    · exact hj10 h
    exact hk4 _ h

set_option maxHeartbeats 4000000 in
theorem fr_X9_next {R : List Nat} {N : Nat}  {s0 : St} {sr : St}  (hL : ∀ x ∈ ([1] : List Nat), x ∈ R)  (h : f_X9_next N  s0 = some sr) : Fr R s0 sr := by
  have hF : Fr R s0 s0 := Fr.rf
  unfold f_X9_next at h
  refine vl_g h (fun v1 h => ?_)
  refine fr_X9_next_L5 (hLsub hL rfl) (fun v13 h => ?_) hF _ _ h
  refine vl_g h (fun v14 h => ?_)
  refine vl_g h (fun v15 h => ?_)
  refine vl_s h (hF.sI (mem_lit rgq_1 hL rfl)) (fun s16 hF h => ?_)
  refine vl_s h (hF.sL (mem_lit rgq_1 hL rfl)) (fun s17 hF h => ?_)
  refine vl_s h (hF.sI (mem_lit rgq_1 hL rfl)) (fun s18 hF h => ?_)
  refine vl_g h (fun v19 h => ?_)
  refine vl_g h (fun v20 h => ?_)
  refine e_ite h (fun _ h => ?_) (fun _ h => ?_)
  · refine vl_s h (hF.sI (mem_lit rgq_1 hL rfl)) (fun s21 hF h => ?_)
    exact ret_fv h hF
  obtain ⟨s22, hc, h⟩ := bp_e h
  have hF := hF.trans (fr_X9_readRun (hLsub hL rfl) hc)
  refine vl_g h (fun v23 h => ?_)
  refine vl_g h (fun v24 h => ?_)
  refine e_ite h (fun _ h => ?_) (fun _ h => ?_)
  · obtain ⟨s25, hc, h⟩ := bp_e h
    have hF := hF.trans (fr_X9_readSign (hLsub hL rfl) hc)
    exact ret_fv h hF
  exact ret_fv h hF

set_option maxHeartbeats 4000000 in
theorem fr_X9_takeNumber {R : List Nat} {N : Nat} {x1 : Int32} {x2 : Int32} {s0 : St} {r : Int32} {sr : St}  (hL : ∀ x ∈ ([1] : List Nat), x ∈ R)  (h : f_X9_takeNumber N x1 x2 s0 = some (r, sr)) : Fr R s0 sr := by
  have hF : Fr R s0 s0 := Fr.rf
  unfold f_X9_takeNumber at h
  obtain ⟨v1, s2, hc, h⟩ := bd_e h
  have hF := hF.trans (fr_X9_atNumber (hLsub hL rfl) hc)
  refine e_ite h (fun _ h => ?_) (fun _ h => ?_)
  · exact ret_fi h hF
  refine vl_g h (fun v3 h => ?_)
  refine vl_s h (hF.sI (mem_lit rgq_1 hL rfl)) (fun s4 hF h => ?_)
  obtain ⟨s5, hc, h⟩ := bp_e h
  have hF := hF.trans (fr_X9_next (hLsub hL rfl) hc)
  exact ret_fi h hF

set_option maxHeartbeats 4000000 in
theorem fr_X9_takeSign {R : List Nat} {N : Nat} {x1 : Int32} {s0 : St} {r : Int32} {sr : St}  (hL : ∀ x ∈ ([1] : List Nat), x ∈ R)  (h : f_X9_takeSign N x1 s0 = some (r, sr)) : Fr R s0 sr := by
  have hF : Fr R s0 s0 := Fr.rf
  unfold f_X9_takeSign at h
  refine bp_g h (fun v1 h => ?_)
  refine e_ite h (fun _ h => ?_) (fun _ h => ?_)
  · obtain ⟨v2, s3, hc, h⟩ := bd_e h
    have hF := hF.trans (fr_X9_refuse (hLsub hL rfl) hc)
    refine rz_e h (fun _ h => ?_)
    exact ret_fi h hF
  obtain ⟨s4, hc, h⟩ := bp_e h
  have hF := hF.trans (fr_X9_next (hLsub hL rfl) hc)
  exact ret_fi h hF

set_option maxHeartbeats 4000000 in
theorem fr_X11_douse {R : List Nat} {x1 : Int32} {s0 : St} {r : Int32} {sr : St}  (hL : ∀ x ∈ ([4, 9, 10, 11, 12, 13, 14, 15, 16, 17, 18] : List Nat), x ∈ R)  (h : f_X11_douse x1 s0 = some (r, sr)) : Fr R s0 sr := by
  have hF : Fr R s0 s0 := Fr.rf
  unfold f_X11_douse at h
  refine bp_g h (fun v1 h => ?_)
  refine e_ite h (fun _ h => ?_) (fun _ h => ?_)
  · exact ret_fi h hF
  obtain ⟨s2, hc, h⟩ := bp_e h
  have hF := hF.trans (fr_X5_mark shq_49 (hLsub hL rfl) hc)
  obtain ⟨v3, s4, hc, h⟩ := bd_e h
  have hF := hF.trans (fr_X6_putOut shq_49 (hLsub hL rfl) (mem_lit rgq_49 hL rfl) hc)
  obtain ⟨v5, s6, hc, h⟩ := bd_e h
  have hF := hF.trans (fr_X11_keepIfDone (hLsub hL rfl) hc)
  exact ret_fi h hF

set_option maxHeartbeats 4000000 in
theorem fr_X11_kindle {R : List Nat} {x1 : Int32} {s0 : St} {r : Int32} {sr : St}  (hL : ∀ x ∈ ([4, 9, 10, 11, 12, 13, 14, 15, 16, 17, 18] : List Nat), x ∈ R)  (h : f_X11_kindle x1 s0 = some (r, sr)) : Fr R s0 sr := by
  have hF : Fr R s0 s0 := Fr.rf
  unfold f_X11_kindle at h
  refine bp_g h (fun v1 h => ?_)
  refine e_ite h (fun _ h => ?_) (fun _ h => ?_)
  · exact ret_fi h hF
  obtain ⟨s2, hc, h⟩ := bp_e h
  have hF := hF.trans (fr_X5_mark shq_49 (hLsub hL rfl) hc)
  obtain ⟨v3, s4, hc, h⟩ := bd_e h
  have hF := hF.trans (fr_X6_relight shq_49 (hLsub hL rfl) (mem_lit rgq_49 hL rfl) hc)
  obtain ⟨v5, s6, hc, h⟩ := bd_e h
  have hF := hF.trans (fr_X11_keepIfDone (hLsub hL rfl) hc)
  exact ret_fi h hF

set_option maxHeartbeats 4000000 in
theorem fr_X11_fill {R : List Nat} {x1 : Int32} {x2 : Int32} {s0 : St} {r : Int32} {sr : St}  (hL : ∀ x ∈ ([4, 9, 10, 11, 12, 13, 14, 15, 16, 17, 18] : List Nat), x ∈ R)  (h : f_X11_fill x1 x2 s0 = some (r, sr)) : Fr R s0 sr := by
  have hF : Fr R s0 s0 := Fr.rf
  unfold f_X11_fill at h
  refine bp_g h (fun v1 h => ?_)
  refine e_ite h (fun _ h => ?_) (fun _ h => ?_)
  · exact ret_fi h hF
  refine e_ite h (fun _ h => ?_) (fun _ h => ?_)
  · exact ret_fi h hF
  refine e_ite h (fun _ h => ?_) (fun _ h => ?_)
  · obtain ⟨s2, hc, h⟩ := bp_e h
    have hF := hF.trans (fr_X5_mark shq_49 (hLsub hL rfl) hc)
    obtain ⟨v3, s4, hc, h⟩ := bd_e h
    have hF := hF.trans (fr_X6_pourInto shq_49 (hLsub hL rfl) (mem_lit rgq_49 hL rfl) hc)
    obtain ⟨v5, s6, hc, h⟩ := bd_e h
    have hF := hF.trans (fr_X11_keepIfDone (hLsub hL rfl) hc)
    exact ret_fi h hF
  exact ret_fi h hF

set_option maxHeartbeats 4000000 in
theorem fr_X11_shift {R : List Nat} {x1 : Int32} {x2 : Int32} {s0 : St} {r : Int32} {sr : St}  (hL : ∀ x ∈ ([4, 9, 10, 11, 12, 13, 14, 15, 16, 17, 18] : List Nat), x ∈ R)  (h : f_X11_shift x1 x2 s0 = some (r, sr)) : Fr R s0 sr := by
  have hF : Fr R s0 s0 := Fr.rf
  unfold f_X11_shift at h
  refine bp_g h (fun v1 h => ?_)
  refine e_ite h (fun _ h => ?_) (fun _ h => ?_)
  · exact ret_fi h hF
  refine e_ite h (fun _ h => ?_) (fun _ h => ?_)
  · exact ret_fi h hF
  refine e_ite h (fun _ h => ?_) (fun _ h => ?_)
  · obtain ⟨s2, hc, h⟩ := bp_e h
    have hF := hF.trans (fr_X5_mark shq_49 (hLsub hL rfl) hc)
    obtain ⟨v3, s4, hc, h⟩ := bd_e h
    have hF := hF.trans (fr_X6_moveOn shq_49 (hLsub hL rfl) (mem_lit rgq_49 hL rfl) hc)
    obtain ⟨v5, s6, hc, h⟩ := bd_e h
    have hF := hF.trans (fr_X11_keepIfDone (hLsub hL rfl) hc)
    exact ret_fi h hF
  exact ret_fi h hF

set_option maxHeartbeats 4000000 in
theorem fr_X11_steer {R : List Nat} {x1 : Int32} {x2 : Int32} {s0 : St} {r : Int32} {sr : St}  (hL : ∀ x ∈ ([4, 9, 10, 11, 12, 13, 14, 15, 16, 17, 18] : List Nat), x ∈ R)  (h : f_X11_steer x1 x2 s0 = some (r, sr)) : Fr R s0 sr := by
  have hF : Fr R s0 s0 := Fr.rf
  unfold f_X11_steer at h
  refine bp_g h (fun v1 h => ?_)
  refine e_ite h (fun _ h => ?_) (fun _ h => ?_)
  · exact ret_fi h hF
  refine e_ite h (fun _ h => ?_) (fun _ h => ?_)
  · exact ret_fi h hF
  refine e_ite h (fun _ h => ?_) (fun _ h => ?_)
  · obtain ⟨s2, hc, h⟩ := bp_e h
    have hF := hF.trans (fr_X5_mark shq_49 (hLsub hL rfl) hc)
    obtain ⟨v3, s4, hc, h⟩ := bd_e h
    have hF := hF.trans (fr_X6_turn shq_49 (hLsub hL rfl) (mem_lit rgq_49 hL rfl) hc)
    obtain ⟨v5, s6, hc, h⟩ := bd_e h
    have hF := hF.trans (fr_X11_keepIfDone (hLsub hL rfl) hc)
    exact ret_fi h hF
  exact ret_fi h hF

set_option maxHeartbeats 4000000 in
theorem fr_X11_haze {R : List Nat} {x1 : Int32} {s0 : St} {r : Int32} {sr : St}  (hL : ∀ x ∈ ([4, 9, 10, 11, 12, 13, 14, 15, 16, 17, 18] : List Nat), x ∈ R)  (h : f_X11_haze x1 s0 = some (r, sr)) : Fr R s0 sr := by
  have hF : Fr R s0 s0 := Fr.rf
  unfold f_X11_haze at h
  refine e_ite h (fun _ h => ?_) (fun _ h => ?_)
  · exact ret_fi h hF
  refine e_ite h (fun _ h => ?_) (fun _ h => ?_)
  · obtain ⟨s1, hc, h⟩ := bp_e h
    have hF := hF.trans (fr_X5_mark shq_49 (hLsub hL rfl) hc)
    obtain ⟨v2, s3, hc, h⟩ := bd_e h
    have hF := hF.trans (fr_X6_setHaze shq_49 (hLsub hL rfl) (mem_lit rgq_49 hL rfl) hc)
    obtain ⟨v4, s5, hc, h⟩ := bd_e h
    have hF := hF.trans (fr_X11_keepIfDone (hLsub hL rfl) hc)
    exact ret_fi h hF
  exact ret_fi h hF

set_option maxHeartbeats 4000000 in
theorem fr_X11_undo {R : List Nat}  {s0 : St} {r : Int32} {sr : St}  (hL : ∀ x ∈ ([4, 9] : List Nat), x ∈ R)  (h : f_X11_undo  s0 = some (r, sr)) : Fr R s0 sr := by
  have hF : Fr R s0 s0 := Fr.rf
  unfold f_X11_undo at h
  obtain ⟨v1, s2, hc, h⟩ := bd_e h
  have hF := hF.trans (fr_X5_takeBack shq_49 (hLsub hL rfl) (mem_lit rgq_49 hL rfl) hc)
  exact ret_fi h hF

set_option maxHeartbeats 4000000 in
theorem fr_X11_change {R : List Nat} {N : Nat}  {s0 : St} {r : Int32} {sr : St}  (hL : ∀ x ∈ ([0] : List Nat), x ∈ R)  (h : f_X11_change N  s0 = some (r, sr)) : Fr R s0 sr := by
  have hF : Fr R s0 s0 := Fr.rf
  unfold f_X11_change at h
  refine bp_g h (fun v1 h => ?_)
  refine vl_s h (hF.sI (mem_lit rgq_0 hL rfl)) (fun s2 hF h => ?_)
  refine vl_g h (fun v3 h => ?_)
  refine bp_g h (fun v4 h => ?_)
  exact ret_fi h hF

set_option maxHeartbeats 4000000 in
theorem fr_X11_spots_L23 {R : List Nat} {N : Nat} {c2 : Int32}  {s0 : St}  {r : Int32} {sr : St}  (hL : ∀ x ∈ ([0] : List Nat), x ∈ R)    : ∀ (n6 : Nat) (v3 : Int32) (v4 : Int32) (s5 : St), Fr R s0 s5 → f_X11_spots_L23 N c2 n6 v3 v4 s5 = some (r, sr) → Fr R s0 sr := by
  intro n6
  induction n6 with
  | zero =>
    intro v3 v4 s5 hF h
    rw [f_X11_spots_L23] at h; cases h
  | succ n6 ih7 =>
    intro v3 v4 s5 hF h
    rw [f_X11_spots_L23] at h
    refine e_ite h (fun _ h => ?_) (fun _ h => ?_)
    · exact ret_fi h hF
    refine rm_g h (fun v8 h => ?_)
    refine dv_g h (fun v9 h => ?_)
    refine bp_g h (fun v10 h => ?_)
    refine jn_e (fun j => ∀ (v11 : Int32) (s12 : St), Fr R s0 s12 → j v11 s12 = some (r, sr) → Fr R s0 sr) h ?_ (fun j13 hj13 h => ?_)
    · intro v11 s12 hF h
      refine vl_g h (fun v14 h => ?_)
      exact ih7 _ _ _ hF h
    refine e_ite h (fun _ h => ?_) (fun _ h => ?_)
    · refine vl_g h (fun v15 h => ?_)
      refine vl_s h (hF.sI (mem_lit rgq_0 hL rfl)) (fun s16 hF h => ?_)
      exact hj13 _ _ hF h
    exact hj13 _ _ hF h

set_option maxHeartbeats 4000000 in
theorem fr_X11_spots {R : List Nat} {N : Nat} {x1 : Int32} {s0 : St} {r : Int32} {sr : St}  (hL : ∀ x ∈ ([0] : List Nat), x ∈ R)  (h : f_X11_spots N x1 s0 = some (r, sr)) : Fr R s0 sr := by
  have hF : Fr R s0 s0 := Fr.rf
  unfold f_X11_spots at h
  refine e_ite h (fun _ h => ?_) (fun _ h => ?_)
  · exact ret_fi h hF
  refine bp_g h (fun v1 h => ?_)
  refine e_ite h (fun _ h => ?_) (fun _ h => ?_)
  · exact fr_X11_spots_L23 (hLsub hL rfl)  _ _ _ _ hF h
  exact ret_fi h hF

set_option maxHeartbeats 4000000 in
theorem fr_X11_fix_L15 {R : List Nat} {N : Nat}  {k9 : Int32 → St → Option (Int32 × St)} {s0 : St}  {r : Int32} {sr : St}  (hL : ∀ x ∈ ([0] : List Nat), x ∈ R)  (hk9 : ∀ (v10 : Int32) (s11 : St), Fr R s0 s11 → k9 v10 s11 = some (r, sr) → Fr R s0 sr)  : ∀ (n12 : Nat) (v6 : Int32) (v7 : Int32) (s8 : St), Fr R s0 s8 → f_X11_fix_L15 N k9 n12 v6 v7 s8 = some (r, sr) → Fr R s0 sr := by
  intro n12
  induction n12 with
  | zero =>
    intro v6 v7 s8 hF h
    rw [f_X11_fix_L15] at h; cases h
  | succ n12 ih13 =>
    intro v6 v7 s8 hF h
    rw [f_X11_fix_L15] at h
    refine e_ite h (fun _ h => ?_) (fun _ h => ?_)
    · exact hk9 _ _ hF h
    refine rm_g h (fun v14 h => ?_)
    refine dv_g h (fun v15 h => ?_)
    refine bp_g h (fun v16 h => ?_)
    refine jn_e (fun j => ∀ (v17 : Int32) (s18 : St), Fr R s0 s18 → j v17 s18 = some (r, sr) → Fr R s0 sr) h ?_ (fun j19 hj19 h => ?_)
    · intro v17 s18 hF h
      refine vl_g h (fun v20 h => ?_)
      exact ih13 _ _ _ hF h
    refine e_ite h (fun _ h => ?_) (fun _ h => ?_)
    · exact hj19 _ _ hF h
    refine vl_g h (fun v21 h => ?_)
    refine vl_s h (hF.sI (mem_lit rgq_0 hL rfl)) (fun s22 hF h => ?_)
    exact hj19 _ _ hF h

set_option maxHeartbeats 4000000 in
theorem fr_X11_fix {R : List Nat} {N : Nat}  {s0 : St} {r : Int32} {sr : St}  (hL : ∀ x ∈ ([0, 1] : List Nat), x ∈ R)  (h : f_X11_fix N  s0 = some (r, sr)) : Fr R s0 sr := by
  have hF : Fr R s0 s0 := Fr.rf
  unfold f_X11_fix at h
  refine bp_g h (fun v1 h => ?_)
  refine jn_e (fun j => ∀ (v2 : Int32) (s3 : St), Fr R s0 s3 → j v2 s3 = some (r, sr) → Fr R s0 sr) h ?_ (fun j4 hj4 h => ?_)
  · intro v2 s3 hF h
    refine vl_s h (hF.sI (mem_lit rgq_1 hL rfl)) (fun s5 hF h => ?_)
    exact ret_fi h hF
  refine e_ite h (fun _ h => ?_) (fun _ h => ?_)
  · exact hj4 _ _ hF h
  refine fr_X11_fix_L15 (hLsub hL rfl) (fun v23 s24 hF h => ?_) _ _ _ _ hF h
  exact hj4 _ _ hF h

set_option maxHeartbeats 4000000 in
theorem fr_X11_image {R : List Nat} {N : Nat} {x1 : Int32} {s0 : St} {r : Int32} {sr : St}  (hL : ∀ x ∈ ([20, 21] : List Nat), x ∈ R)  (h : f_X11_image N x1 s0 = some (r, sr)) : Fr R s0 sr := by
  have hF : Fr R s0 s0 := Fr.rf
  unfold f_X11_image at h
  refine e_ite h (fun _ h => ?_) (fun _ h => ?_)
  · exact ret_fi h hF
  refine e_ite h (fun _ h => ?_) (fun _ h => ?_)
  · refine ald_i h (fun i2 hi2 h => ?_)
    obtain ⟨s3, hc, h⟩ := bp_e h
    have hF := hF.trans (fr_X1_copyFrom (wto_3_0 _ (we_27 _ shq_132 _ hi2)) shq_3 (hLsub hL rfl) (mem_set (set_rw (rgf_3_0 _ (we_27 _ shq_132 _ hi2)) (rge_27 _ hi2)) hL rfl) hc)
    refine ald_i h (fun i5 hi5 h => ?_)
    obtain ⟨s6, hc, h⟩ := bp_e h
    have hF := hF.trans (fr_X6_copyFrom (wto_3_1 _ (we_27 _ shq_132 _ hi5)) shq_49 (hLsub hL rfl) (mem_set (set_rw (rgf_3_1 _ (we_27 _ shq_132 _ hi5)) (rge_27 _ hi5)) hL rfl) hc)
    refine ald_i h (fun i8 hi8 h => ?_)
    obtain ⟨s9, hc, h⟩ := bp_e h
    have hF := hF.trans (fr_X7_copyFrom (wto_3_2 _ (we_27 _ shq_132 _ hi8)) shq_61 (hLsub hL rfl) (mem_set (set_rw (rgf_3_2 _ (we_27 _ shq_132 _ hi8)) (rge_27 _ hi8)) hL rfl) hc)
    refine ald_i h (fun i11 hi11 h => ?_)
    refine vl_s h (hF.sI (mem_set (rge_27 _ hi11) hL rfl)) (fun s12 hF h => ?_)
    exact ret_fi h hF
  exact ret_fi h hF

set_option maxHeartbeats 4000000 in
theorem fr_X11_restore {R : List Nat} {N : Nat} {x1 : Int32} {s0 : St} {r : Int32} {sr : St}  (hL : ∀ x ∈ ([2, 4, 6, 9] : List Nat), x ∈ R)  (h : f_X11_restore N x1 s0 = some (r, sr)) : Fr R s0 sr := by
  have hF : Fr R s0 s0 := Fr.rf
  unfold f_X11_restore at h
  refine e_ite h (fun _ h => ?_) (fun _ h => ?_)
  · exact ret_fi h hF
  refine e_ite h (fun _ h => ?_) (fun _ h => ?_)
  · exact ret_fi h hF
  refine ald_i h (fun i2 hi2 h => ?_)
  refine vl_g h (fun v3 h => ?_)
  refine e_ite h (fun _ h => ?_) (fun _ h => ?_)
  · exact ret_fi h hF
  refine ald_i h (fun i5 hi5 h => ?_)
  obtain ⟨s6, hc, h⟩ := bp_e h
  have hF := hF.trans (fr_X1_copyFrom shq_3 (wto_3_0 _ (we_27 _ shq_132 _ hi5)) (hLsub hL rfl) (mem_lit rgq_3 hL rfl) hc)
  refine ald_i h (fun i8 hi8 h => ?_)
  obtain ⟨s9, hc, h⟩ := bp_e h
  have hF := hF.trans (fr_X6_copyFrom shq_49 (wto_3_1 _ (we_27 _ shq_132 _ hi8)) (hLsub hL rfl) (mem_lit rgq_49 hL rfl) hc)
  refine ald_i h (fun i11 hi11 h => ?_)
  obtain ⟨s12, hc, h⟩ := bp_e h
  have hF := hF.trans (fr_X7_copyFrom shq_61 (wto_3_2 _ (we_27 _ shq_132 _ hi11)) (hLsub hL rfl) (mem_lit rgq_61 hL rfl) hc)
  obtain ⟨s13, hc, h⟩ := bp_e h
  have hF := hF.trans (fr_X5_clear (hLsub hL rfl) hc)
  exact ret_fi h hF

set_option maxHeartbeats 4000000 in
theorem fr_X12_feed {R : List Nat} {N : Nat} {x1 : Int32} {x2 : Int32} {x3 : Int32} {x4 : Int32} {x5 : Int32} {s0 : St} {r : Int32} {sr : St}  (hL : ∀ x ∈ ([206, 207] : List Nat), x ∈ R)  (h : f_X12_feed N x1 x2 x3 x4 x5 s0 = some (r, sr)) : Fr R s0 sr := by
  have hF : Fr R s0 s0 := Fr.rf
  unfold f_X12_feed at h
  refine vl_s h (hF.sI (mem_lit rgq_206 hL rfl)) (fun s1 hF h => ?_)
  refine vl_g h (fun v2 h => ?_)
  refine e_ite h (fun _ h => ?_) (fun _ h => ?_)
  · obtain ⟨s3, hc, h⟩ := bp_e h
    have hF := hF.trans (fr_X12_four (hLsub hL rfl) hc)
    obtain ⟨s4, hc, h⟩ := bp_e h
    have hF := hF.trans (fr_X12_four (hLsub hL rfl) hc)
    obtain ⟨s5, hc, h⟩ := bp_e h
    have hF := hF.trans (fr_X12_four (hLsub hL rfl) hc)
    obtain ⟨s6, hc, h⟩ := bp_e h
    have hF := hF.trans (fr_X12_four (hLsub hL rfl) hc)
    obtain ⟨s7, hc, h⟩ := bp_e h
    have hF := hF.trans (fr_X12_four (hLsub hL rfl) hc)
    refine vl_g h (fun v8 h => ?_)
    exact ret_fi h hF
  exact ret_fi h hF

set_option maxHeartbeats 4000000 in
theorem fr_X12_readLine {R : List Nat} {N : Nat}  {s0 : St} {r : Int32} {sr : St}  (hL : ∀ x ∈ ([206, 209, 211] : List Nat), x ∈ R)  (h : f_X12_readLine N  s0 = some (r, sr)) : Fr R s0 sr := by
  have hF : Fr R s0 s0 := Fr.rf
  unfold f_X12_readLine at h
  refine bp_g h (fun v1 h => ?_)
  refine e_ite h (fun _ h => ?_) (fun _ h => ?_)
  · refine bp_g h (fun v2 h => ?_)
    refine e_ite h (fun _ h => ?_) (fun _ h => ?_)
    · refine bp_g h (fun v3 h => ?_)
      refine e_ite h (fun _ h => ?_) (fun _ h => ?_)
      · refine bp_g h (fun v4 h => ?_)
        refine e_ite h (fun _ h => ?_) (fun _ h => ?_)
        · refine bp_g h (fun v5 h => ?_)
          refine e_ite h (fun _ h => ?_) (fun _ h => ?_)
          · refine bp_g h (fun v6 h => ?_)
            refine e_ite h (fun _ h => ?_) (fun _ h => ?_)
            · obtain ⟨v7, s8, hc, h⟩ := bd_e h
              have hF := hF.trans (fr_X12_bad (hLsub hL rfl) hc)
              refine rz_e h (fun _ h => ?_)
              exact ret_fi h hF
            refine vl_g h (fun v9 h => ?_)
            refine e_ite h (fun _ h => ?_) (fun _ h => ?_)
            · refine vl_s h (hF.sI (mem_lit rgq_206 hL rfl)) (fun s10 hF h => ?_)
              obtain ⟨s11, hc, h⟩ := bp_e h
              have hF := hF.trans (fr_X12_next (hLsub hL rfl) hc)
              obtain ⟨v12, s13, hc, h⟩ := bd_e h
              have hF := hF.trans (fr_X12_puts (hLsub hL rfl) hc)
              refine rz_e h (fun _ h => ?_)
              exact ret_fi h hF
            obtain ⟨v14, s15, hc, h⟩ := bd_e h
            have hF := hF.trans (fr_X12_bad (hLsub hL rfl) hc)
            refine rz_e h (fun _ h => ?_)
            exact ret_fi h hF
          obtain ⟨v16, s17, hc, h⟩ := bd_e h
          have hF := hF.trans (fr_X12_readShip (hLsub hL rfl) hc)
          refine rz_e h (fun _ h => ?_)
          exact ret_fi h hF
        obtain ⟨v18, s19, hc, h⟩ := bd_e h
        have hF := hF.trans (fr_X12_readDark (hLsub hL rfl) hc)
        refine rz_e h (fun _ h => ?_)
        exact ret_fi h hF
      obtain ⟨v20, s21, hc, h⟩ := bd_e h
      have hF := hF.trans (fr_X12_readFrom (hLsub hL rfl) hc)
      refine rz_e h (fun _ h => ?_)
      exact ret_fi h hF
    obtain ⟨v22, s23, hc, h⟩ := bd_e h
    have hF := hF.trans (fr_X12_readFlash (hLsub hL rfl) hc)
    refine rz_e h (fun _ h => ?_)
    exact ret_fi h hF
  obtain ⟨v24, s25, hc, h⟩ := bd_e h
  have hF := hF.trans (fr_X12_readLight (hLsub hL rfl) hc)
  refine rz_e h (fun _ h => ?_)
  exact ret_fi h hF

set_option maxHeartbeats 4000000 in
theorem fr_X12_chart_L40 {R : List Nat} {N : Nat}  {k10 : St → Option (Int32 × St)} {k12 : St → Option (Int32 × St)} {s0 : St}  {r : Int32} {sr : St}  (hL : ∀ x ∈ ([206, 209, 211] : List Nat), x ∈ R)  (hk10 : ∀ (s11 : St), Fr R s0 s11 → k10 s11 = some (r, sr) → Fr R s0 sr) (hk12 : ∀ (s13 : St), Fr R s0 s13 → k12 s13 = some (r, sr) → Fr R s0 sr)  : ∀ (n14 : Nat) (s9 : St), Fr R s0 s9 → f_X12_chart_L40 N k10 k12 n14 s9 = some (r, sr) → Fr R s0 sr := by
  intro n14
  induction n14 with
  | zero =>
    intro s9 hF h
    rw [f_X12_chart_L40] at h; cases h
  | succ n14 ih15 =>
    intro s9 hF h
    rw [f_X12_chart_L40] at h
    refine vl_g h (fun v16 h => ?_)
    refine e_ite h (fun _ h => ?_) (fun _ h => ?_)
    · exact hk10 _ hF h
    obtain ⟨v17, s18, hc, h⟩ := bd_e h
    have hF := hF.trans (fr_X12_readLine (hLsub hL rfl) hc)
    refine e_ite h (fun _ h => ?_) (fun _ h => ?_)
    · exact hk12 _ hF h
    obtain ⟨v19, s20, hc, h⟩ := bd_e h
    have hF := hF.trans (fr_X12_sign (hLsub hL rfl) hc)
    refine e_ite h (fun _ h => ?_) (fun _ h => ?_)
    · exact hk12 _ hF h
    refine vl_g h (fun v21 h => ?_)
    refine vl_s h (hF.sI (mem_lit rgq_206 hL rfl)) (fun s22 hF h => ?_)
    exact ih15 _ hF h

set_option maxHeartbeats 4000000 in
theorem fr_X12_chart_L85 {R : List Nat} {N : Nat}  {k26 : St → Option (Int32 × St)} {s0 : St}  {r : Int32} {sr : St}  (hL : ∀ x ∈ ([208] : List Nat), x ∈ R)  (hk26 : ∀ (s27 : St), Fr R s0 s27 → k26 s27 = some (r, sr) → Fr R s0 sr)  : ∀ (n28 : Nat) (v24 : Int32) (s25 : St), Fr R s0 s25 → f_X12_chart_L85 N k26 n28 v24 s25 = some (r, sr) → Fr R s0 sr := by
  intro n28
  induction n28 with
  | zero =>
    intro v24 s25 hF h
    rw [f_X12_chart_L85] at h; cases h
  | succ n28 ih29 =>
    intro v24 s25 hF h
    rw [f_X12_chart_L85] at h
    refine e_ite h (fun _ h => ?_) (fun _ h => ?_)
    · exact hk26 _ hF h
    refine jn_e (fun j => ∀ (v30 : Int32), j v30 = some (r, sr) → Fr R s0 sr) h ?_ (fun j31 hj31 h => ?_)
    · intro v30 h
      refine ald_s h (fun _ => hF.sI (mem_lit rgq_208 hL rfl)) (fun s32 hF h => ?_)
      refine vl_g h (fun v33 h => ?_)
      exact ih29 _ _ hF h
    refine e_ite h (fun _ h => ?_) (fun _ h => ?_)
    · exact hj31 _ h
    refine ald_g h (fun v34 h => ?_)
    exact hj31 _ h

set_option maxHeartbeats 4000000 in
theorem fr_X12_chart_L123 {R : List Nat} {N : Nat}  {k38 : St → Option (Int32 × St)} {s0 : St}  {r : Int32} {sr : St}  (hL : ∀ x ∈ ([211] : List Nat), x ∈ R)  (hk38 : ∀ (s39 : St), Fr R s0 s39 → k38 s39 = some (r, sr) → Fr R s0 sr)  : ∀ (n40 : Nat) (v36 : Int32) (s37 : St), Fr R s0 s37 → f_X12_chart_L123 N k38 n40 v36 s37 = some (r, sr) → Fr R s0 sr := by
  intro n40
  induction n40 with
  | zero =>
    intro v36 s37 hF h
    rw [f_X12_chart_L123] at h; cases h
  | succ n40 ih41 =>
    intro v36 s37 hF h
    rw [f_X12_chart_L123] at h
    refine e_ite h (fun _ h => ?_) (fun _ h => ?_)
    · exact hk38 _ hF h
    refine ald_g h (fun v42 h => ?_)
    refine ald_s h (fun _ => hF.sL (mem_lit rgq_211 hL rfl)) (fun s43 hF h => ?_)
    refine vl_g h (fun v44 h => ?_)
    exact ih41 _ _ hF h

set_option maxHeartbeats 4000000 in
theorem fr_X12_chart_L166 {R : List Nat} {N : Nat}  {k50 : St → Option (Int32 × St)} {s0 : St}  {r : Int32} {sr : St}  (hL : ∀ x ∈ ([208] : List Nat), x ∈ R)  (hk50 : ∀ (s51 : St), Fr R s0 s51 → k50 s51 = some (r, sr) → Fr R s0 sr)  : ∀ (n52 : Nat) (v48 : Int32) (s49 : St), Fr R s0 s49 → f_X12_chart_L166 N k50 n52 v48 s49 = some (r, sr) → Fr R s0 sr := by
  intro n52
  induction n52 with
  | zero =>
    intro v48 s49 hF h
    rw [f_X12_chart_L166] at h; cases h
  | succ n52 ih53 =>
    intro v48 s49 hF h
    rw [f_X12_chart_L166] at h
    refine e_ite h (fun _ h => ?_) (fun _ h => ?_)
    · exact hk50 _ hF h
    refine ald_g h (fun v54 h => ?_)
    refine ald_s h (fun _ => hF.sI (mem_lit rgq_208 hL rfl)) (fun s55 hF h => ?_)
    refine ald_g h (fun v56 h => ?_)
    refine ald_s h (fun _ => hF.sI (mem_lit rgq_208 hL rfl)) (fun s57 hF h => ?_)
    refine vl_g h (fun v58 h => ?_)
    exact ih53 _ _ hF h

set_option maxHeartbeats 4000000 in
theorem fr_X12_chart_L218 {R : List Nat} {N : Nat}  {k62 : St → Option (Int32 × St)} {s0 : St}  {r : Int32} {sr : St}  (hL : ∀ x ∈ ([208] : List Nat), x ∈ R)  (hk62 : ∀ (s63 : St), Fr R s0 s63 → k62 s63 = some (r, sr) → Fr R s0 sr)  : ∀ (n64 : Nat) (v60 : Int32) (s61 : St), Fr R s0 s61 → f_X12_chart_L218 N k62 n64 v60 s61 = some (r, sr) → Fr R s0 sr := by
  intro n64
  induction n64 with
  | zero =>
    intro v60 s61 hF h
    rw [f_X12_chart_L218] at h; cases h
  | succ n64 ih65 =>
    intro v60 s61 hF h
    rw [f_X12_chart_L218] at h
    refine e_ite h (fun _ h => ?_) (fun _ h => ?_)
    · exact hk62 _ hF h
    refine ald_g h (fun v66 h => ?_)
    refine ald_s h (fun _ => hF.sI (mem_lit rgq_208 hL rfl)) (fun s67 hF h => ?_)
    refine ald_g h (fun v68 h => ?_)
    refine ald_s h (fun _ => hF.sI (mem_lit rgq_208 hL rfl)) (fun s69 hF h => ?_)
    refine ald_g h (fun v70 h => ?_)
    refine ald_s h (fun _ => hF.sI (mem_lit rgq_208 hL rfl)) (fun s71 hF h => ?_)
    refine vl_g h (fun v72 h => ?_)
    exact ih65 _ _ hF h

set_option maxHeartbeats 4000000 in
theorem fr_X12_chart {R : List Nat} {N : Nat}  {s0 : St} {r : Int32} {sr : St}  (hL : ∀ x ∈ ([206, 208, 209, 211] : List Nat), x ∈ R)  (h : f_X12_chart N  s0 = some (r, sr)) : Fr R s0 sr := by
  have hF : Fr R s0 s0 := Fr.rf
  unfold f_X12_chart at h
  refine vl_s h (hF.sI (mem_lit rgq_206 hL rfl)) (fun s1 hF h => ?_)
  obtain ⟨s2, hc, h⟩ := bp_e h
  have hF := hF.trans (fr_X12_taken (hLsub hL rfl) hc)
  refine vl_s h (hF.sI (mem_lit rgq_206 hL rfl)) (fun s3 hF h => ?_)
  refine vl_s h (hF.sI (mem_lit rgq_206 hL rfl)) (fun s4 hF h => ?_)
  refine vl_s h (hF.sI (mem_lit rgq_206 hL rfl)) (fun s5 hF h => ?_)
  refine vl_s h (hF.sI (mem_lit rgq_206 hL rfl)) (fun s6 hF h => ?_)
  obtain ⟨s7, hc, h⟩ := bp_e h
  have hF := hF.trans (fr_X12_clears (hLsub hL rfl) hc)
  obtain ⟨s8, hc, h⟩ := bp_e h
  have hF := hF.trans (fr_X12_next (hLsub hL rfl) hc)
  refine fr_X12_chart_L40 (hLsub hL rfl) (fun s23 hF h => ?_) (fun s76 hF h => ?_) _ _ hF h
  · refine fr_X12_chart_L85 (hLsub hL rfl) (fun s35 hF h => ?_) _ _ _ hF h
    refine fr_X12_chart_L123 (hLsub hL rfl) (fun s45 hF h => ?_) _ _ _ hF h
    refine ald_g h (fun v46 h => ?_)
    refine ald_s h (fun _ => hF.sI (mem_lit rgq_208 hL rfl)) (fun s47 hF h => ?_)
    refine fr_X12_chart_L166 (hLsub hL rfl) (fun s59 hF h => ?_) _ _ _ hF h
    refine fr_X12_chart_L218 (hLsub hL rfl) (fun s73 hF h => ?_) _ _ _ hF h
    refine vl_s h (hF.sI (mem_lit rgq_206 hL rfl)) (fun s74 hF h => ?_)
    refine vl_g h (fun v75 h => ?_)
    exact ret_fi h hF
  refine vl_g h (fun v77 h => ?_)
  exact ret_fi h hF

set_option maxHeartbeats 4000000 in
theorem fr_X12_douse {R : List Nat} {N : Nat} {x1 : Int32} {s0 : St} {r : Int32} {sr : St}  (hL : ∀ x ∈ ([206, 208, 213] : List Nat), x ∈ R)  (h : f_X12_douse N x1 s0 = some (r, sr)) : Fr R s0 sr := by
  have hF : Fr R s0 s0 := Fr.rf
  unfold f_X12_douse at h
  refine vl_s h (hF.sI (mem_lit rgq_206 hL rfl)) (fun s1 hF h => ?_)
  refine bp_g h (fun v2 h => ?_)
  refine e_ite h (fun _ h => ?_) (fun _ h => ?_)
  · exact ret_fi h hF
  refine ald_g h (fun v3 h => ?_)
  refine bp_g h (fun v4 h => ?_)
  refine e_ite h (fun _ h => ?_) (fun _ h => ?_)
  · obtain ⟨s5, hc, h⟩ := bp_e h
    have hF := hF.trans (fr_X12_stores (hLsub hL rfl) hc)
    refine ald_g h (fun v6 h => ?_)
    refine ald_s h (fun _ => hF.sI (mem_lit rgq_208 hL rfl)) (fun s7 hF h => ?_)
    exact ret_fi h hF
  exact ret_fi h hF

set_option maxHeartbeats 4000000 in
theorem fr_X12_kindle {R : List Nat} {N : Nat} {x1 : Int32} {s0 : St} {r : Int32} {sr : St}  (hL : ∀ x ∈ ([206, 208, 213] : List Nat), x ∈ R)  (h : f_X12_kindle N x1 s0 = some (r, sr)) : Fr R s0 sr := by
  have hF : Fr R s0 s0 := Fr.rf
  unfold f_X12_kindle at h
  refine vl_s h (hF.sI (mem_lit rgq_206 hL rfl)) (fun s1 hF h => ?_)
  refine bp_g h (fun v2 h => ?_)
  refine e_ite h (fun _ h => ?_) (fun _ h => ?_)
  · exact ret_fi h hF
  refine bp_g h (fun v3 h => ?_)
  refine e_ite h (fun _ h => ?_) (fun _ h => ?_)
  · obtain ⟨s4, hc, h⟩ := bp_e h
    have hF := hF.trans (fr_X12_stores (hLsub hL rfl) hc)
    refine ald_g h (fun v5 h => ?_)
    refine ald_s h (fun _ => hF.sI (mem_lit rgq_208 hL rfl)) (fun s6 hF h => ?_)
    exact ret_fi h hF
  exact ret_fi h hF

set_option maxHeartbeats 4000000 in
theorem fr_X12_fill {R : List Nat} {N : Nat} {x1 : Int32} {x2 : Int32} {s0 : St} {r : Int32} {sr : St}  (hL : ∀ x ∈ ([206, 208, 213] : List Nat), x ∈ R)  (h : f_X12_fill N x1 x2 s0 = some (r, sr)) : Fr R s0 sr := by
  have hF : Fr R s0 s0 := Fr.rf
  unfold f_X12_fill at h
  refine vl_s h (hF.sI (mem_lit rgq_206 hL rfl)) (fun s1 hF h => ?_)
  refine bp_g h (fun v2 h => ?_)
  refine e_ite h (fun _ h => ?_) (fun _ h => ?_)
  · exact ret_fi h hF
  refine bp_g h (fun v3 h => ?_)
  refine e_ite h (fun _ h => ?_) (fun _ h => ?_)
  · exact ret_fi h hF
  refine bp_g h (fun v4 h => ?_)
  refine e_ite h (fun _ h => ?_) (fun _ h => ?_)
  · obtain ⟨s5, hc, h⟩ := bp_e h
    have hF := hF.trans (fr_X12_stores (hLsub hL rfl) hc)
    refine ald_g h (fun v6 h => ?_)
    refine ald_s h (fun _ => hF.sI (mem_lit rgq_208 hL rfl)) (fun s7 hF h => ?_)
    exact ret_fi h hF
  exact ret_fi h hF

set_option maxHeartbeats 4000000 in
theorem fr_X12_shift {R : List Nat} {N : Nat} {x1 : Int32} {x2 : Int32} {s0 : St} {r : Int32} {sr : St}  (hL : ∀ x ∈ ([206, 208, 213] : List Nat), x ∈ R)  (h : f_X12_shift N x1 x2 s0 = some (r, sr)) : Fr R s0 sr := by
  have hF : Fr R s0 s0 := Fr.rf
  unfold f_X12_shift at h
  refine vl_s h (hF.sI (mem_lit rgq_206 hL rfl)) (fun s1 hF h => ?_)
  refine bp_g h (fun v2 h => ?_)
  refine e_ite h (fun _ h => ?_) (fun _ h => ?_)
  · exact ret_fi h hF
  refine bp_g h (fun v3 h => ?_)
  refine e_ite h (fun _ h => ?_) (fun _ h => ?_)
  · exact ret_fi h hF
  refine ald_g h (fun v4 h => ?_)
  refine e_ite h (fun _ h => ?_) (fun _ h => ?_)
  · exact ret_fi h hF
  obtain ⟨s5, hc, h⟩ := bp_e h
  have hF := hF.trans (fr_X12_stores (hLsub hL rfl) hc)
  obtain ⟨s6, hc, h⟩ := bp_e h
  have hF := hF.trans (fr_X12_turns (hLsub hL rfl) hc)
  exact ret_fi h hF

set_option maxHeartbeats 4000000 in
theorem fr_X12_steer {R : List Nat} {N : Nat} {x1 : Int32} {x2 : Int32} {s0 : St} {r : Int32} {sr : St}  (hL : ∀ x ∈ ([206, 208, 213] : List Nat), x ∈ R)  (h : f_X12_steer N x1 x2 s0 = some (r, sr)) : Fr R s0 sr := by
  have hF : Fr R s0 s0 := Fr.rf
  unfold f_X12_steer at h
  refine vl_s h (hF.sI (mem_lit rgq_206 hL rfl)) (fun s1 hF h => ?_)
  refine bp_g h (fun v2 h => ?_)
  refine e_ite h (fun _ h => ?_) (fun _ h => ?_)
  · exact ret_fi h hF
  refine bp_g h (fun v3 h => ?_)
  refine e_ite h (fun _ h => ?_) (fun _ h => ?_)
  · exact ret_fi h hF
  refine ald_g h (fun v4 h => ?_)
  refine e_ite h (fun _ h => ?_) (fun _ h => ?_)
  · exact ret_fi h hF
  obtain ⟨s5, hc, h⟩ := bp_e h
  have hF := hF.trans (fr_X12_stores (hLsub hL rfl) hc)
  refine ald_s h (fun _ => hF.sI (mem_lit rgq_208 hL rfl)) (fun s6 hF h => ?_)
  exact ret_fi h hF

set_option maxHeartbeats 4000000 in
theorem fr_X12_haze {R : List Nat} {N : Nat} {x1 : Int32} {s0 : St} {r : Int32} {sr : St}  (hL : ∀ x ∈ ([206, 208, 213] : List Nat), x ∈ R)  (h : f_X12_haze N x1 s0 = some (r, sr)) : Fr R s0 sr := by
  have hF : Fr R s0 s0 := Fr.rf
  unfold f_X12_haze at h
  refine vl_s h (hF.sI (mem_lit rgq_206 hL rfl)) (fun s1 hF h => ?_)
  refine bp_g h (fun v2 h => ?_)
  refine e_ite h (fun _ h => ?_) (fun _ h => ?_)
  · exact ret_fi h hF
  refine ald_g h (fun v3 h => ?_)
  refine e_ite h (fun _ h => ?_) (fun _ h => ?_)
  · exact ret_fi h hF
  obtain ⟨s4, hc, h⟩ := bp_e h
  have hF := hF.trans (fr_X12_stores (hLsub hL rfl) hc)
  refine ald_s h (fun _ => hF.sI (mem_lit rgq_208 hL rfl)) (fun s5 hF h => ?_)
  exact ret_fi h hF

set_option maxHeartbeats 4000000 in
theorem fr_X12_seconds {R : List Nat} {N : Nat} {x1 : Int32} {s0 : St} {r : Int32} {sr : St}  (hL : ∀ x ∈ ([206, 208, 213] : List Nat), x ∈ R)  (h : f_X12_seconds N x1 s0 = some (r, sr)) : Fr R s0 sr := by
  have hF : Fr R s0 s0 := Fr.rf
  unfold f_X12_seconds at h
  refine vl_s h (hF.sI (mem_lit rgq_206 hL rfl)) (fun s1 hF h => ?_)
  refine bp_g h (fun v2 h => ?_)
  refine e_ite h (fun _ h => ?_) (fun _ h => ?_)
  · exact ret_fi h hF
  refine ald_g h (fun v3 h => ?_)
  refine e_ite h (fun _ h => ?_) (fun _ h => ?_)
  · exact ret_fi h hF
  obtain ⟨s4, hc, h⟩ := bp_e h
  have hF := hF.trans (fr_X12_stores (hLsub hL rfl) hc)
  obtain ⟨v5, s6, hc, h⟩ := bd_e h
  have hF := hF.trans (fr_X12_goesOn (hLsub hL rfl) hc)
  exact ret_fi h hF

set_option maxHeartbeats 4000000 in
theorem fr_X0_readAmount {R : List Nat} {N : Nat} {x2 : Int32} {s0 : St} {r : Int32} {sr : St}  (hL : ∀ x ∈ ([1, 8] : List Nat), x ∈ R)  (h : f_X0_readAmount N x2 s0 = some (r, sr)) : Fr R s0 sr := by
  have hF : Fr R s0 s0 := Fr.rf
  unfold f_X0_readAmount at h
  refine vl_s h (hF.sI (mem_lit rgq_1 hL rfl)) (fun s1 hF h => ?_)
  refine jn_e (fun j => ∀ (v2 : Int32) (s3 : St), Fr R s0 s3 → j v2 s3 = some (r, sr) → Fr R s0 sr) h ?_ (fun j4 hj4 h => ?_)
  · intro v2 s3 hF h
    refine vl_g h (fun v5 h => ?_)
    refine vl_g h (fun v6 h => ?_)
    refine ald_s h (fun _ => hF.sI (mem_lit rgq_74 hL rfl)) (fun s7 hF h => ?_)
    refine rz_e h (fun _ h => ?_)
    exact ret_fi h hF
  refine e_ite h (fun _ h => ?_) (fun _ h => ?_)
  · obtain ⟨v8, s9, hc, h⟩ := bd_e h
    have hF := hF.trans (fr_X9_takeNumber (hLsub hL rfl) hc)
    exact hj4 _ _ hF h
  refine e_ite h (fun _ h => ?_) (fun _ h => ?_)
  · obtain ⟨v10, s11, hc, h⟩ := bd_e h
    have hF := hF.trans (fr_X9_takeNumber (hLsub hL rfl) hc)
    exact hj4 _ _ hF h
  refine e_ite h (fun _ h => ?_) (fun _ h => ?_)
  · obtain ⟨v12, s13, hc, h⟩ := bd_e h
    have hF := hF.trans (fr_X9_takeNumber (hLsub hL rfl) hc)
    exact hj4 _ _ hF h
  refine e_ite h (fun _ h => ?_) (fun _ h => ?_)
  · obtain ⟨v14, s15, hc, h⟩ := bd_e h
    have hF := hF.trans (fr_X9_takeNumber (hLsub hL rfl) hc)
    exact hj4 _ _ hF h
  refine e_ite h (fun _ h => ?_) (fun _ h => ?_)
  · obtain ⟨v16, s17, hc, h⟩ := bd_e h
    have hF := hF.trans (fr_X9_takeNumber (hLsub hL rfl) hc)
    exact hj4 _ _ hF h
  exact hj4 _ _ hF h

set_option maxHeartbeats 4000000 in
theorem fr_X1_comparePair {R : List Nat} {N : Nat} {a0 : Nat} {x1 : Int32} {x2 : Int32} {s0 : St} {sr : St} (h_a0 : sh a0 = 1) (hL : ∀ x ∈ ([] : List Nat), x ∈ R) (hm_a0 : reg a0 ∈ R) (h : f_X1_comparePair N a0 x1 x2 s0 = some sr) : Fr R s0 sr := by
  have hF : Fr R s0 s0 := Fr.rf
  unfold f_X1_comparePair at h
  refine ald_i h (fun i2 hi2 h => ?_)
  refine ald_i h (fun i4 hi4 h => ?_)
  refine bp_g h (fun v5 h => ?_)
  refine e_ite h (fun _ h => ?_) (fun _ h => ?_)
  · exact ret_fv h hF
  refine ald_i h (fun i7 hi7 h => ?_)
  refine vl_g h (fun v8 h => ?_)
  refine vl_s h (hF.sI (mem_ref ((rge_24 _ (wt_1_0 _ h_a0).1 _ hi7).trans ((rgf_1_0 _ h_a0).trans rfl)) hm_a0)) (fun s9 hF h => ?_)
  refine ald_i h (fun i11 hi11 h => ?_)
  refine vl_g h (fun v12 h => ?_)
  refine vl_s h (hF.sI (mem_ref ((rge_24 _ (wt_1_0 _ h_a0).1 _ hi11).trans ((rgf_1_0 _ h_a0).trans rfl)) hm_a0)) (fun s13 hF h => ?_)
  refine ald_i h (fun i15 hi15 h => ?_)
  refine ald_i h (fun i17 hi17 h => ?_)
  refine bp_g h (fun v18 h => ?_)
  refine e_ite h (fun _ h => ?_) (fun _ h => ?_)
  · exact ret_fv h hF
  refine ald_i h (fun i20 hi20 h => ?_)
  refine vl_g h (fun v21 h => ?_)
  refine vl_s h (hF.sI (mem_ref ((rge_24 _ (wt_1_0 _ h_a0).1 _ hi20).trans ((rgf_1_0 _ h_a0).trans rfl)) hm_a0)) (fun s22 hF h => ?_)
  refine ald_i h (fun i24 hi24 h => ?_)
  refine vl_g h (fun v25 h => ?_)
  refine vl_s h (hF.sI (mem_ref ((rge_24 _ (wt_1_0 _ h_a0).1 _ hi24).trans ((rgf_1_0 _ h_a0).trans rfl)) hm_a0)) (fun s26 hF h => ?_)
  exact ret_fv h hF

set_option maxHeartbeats 4000000 in
theorem fr_X1_readHaze {R : List Nat} {N : Nat} {a0 : Nat} {s0 : St} {r : Int32} {sr : St} (h_a0 : sh a0 = 1) (hL : ∀ x ∈ ([1] : List Nat), x ∈ R) (hm_a0 : reg a0 ∈ R) (h : f_X1_readHaze N a0 s0 = some (r, sr)) : Fr R s0 sr := by
  have hF : Fr R s0 s0 := Fr.rf
  unfold f_X1_readHaze at h
  refine vl_g h (fun v1 h => ?_)
  refine e_ite h (fun _ h => ?_) (fun _ h => ?_)
  · obtain ⟨s2, hc, h⟩ := bp_e h
    have hF := hF.trans (fr_X9_next (hLsub hL rfl) hc)
    obtain ⟨v3, s4, hc, h⟩ := bd_e h
    have hF := hF.trans (fr_X9_takeNumber (hLsub hL rfl) hc)
    refine e_ite h (fun _ h => ?_) (fun _ h => ?_)
    · exact ret_fi h hF
    refine vl_g h (fun v5 h => ?_)
    refine vl_s h (hF.sI (mem_ref rfl hm_a0)) (fun s6 hF h => ?_)
    refine vl_s h (hF.sI (mem_ref rfl hm_a0)) (fun s7 hF h => ?_)
    exact ret_fi h hF
  obtain ⟨v8, s9, hc, h⟩ := bd_e h
  have hF := hF.trans (fr_X9_refuse (hLsub hL rfl) hc)
  refine rz_e h (fun _ h => ?_)
  exact ret_fi h hF

set_option maxHeartbeats 4000000 in
theorem fr_X1_atNewName {R : List Nat} {N : Nat} {a0 : Nat} {s0 : St} {r : Int32} {sr : St} (h_a0 : sh a0 = 1) (hL : ∀ x ∈ ([1] : List Nat), x ∈ R)  (h : f_X1_atNewName N a0 s0 = some (r, sr)) : Fr R s0 sr := by
  have hF : Fr R s0 s0 := Fr.rf
  unfold f_X1_atNewName at h
  refine bp_g h (fun v1 h => ?_)
  refine e_ite h (fun _ h => ?_) (fun _ h => ?_)
  · obtain ⟨v2, s3, hc, h⟩ := bd_e h
    have hF := hF.trans (fr_X9_refuse (hLsub hL rfl) hc)
    refine rz_e h (fun _ h => ?_)
    exact ret_fi h hF
  refine vl_g h (fun v4 h => ?_)
  refine bp_g h (fun v5 h => ?_)
  refine jn_e (fun j => ∀ (v6 : Int32), j v6 = some (r, sr) → Fr R s0 sr) h ?_ (fun j7 hj7 h => ?_)
  · intro v6 h
    refine e_ite h (fun _ h => ?_) (fun _ h => ?_)
    · exact ret_fi h hF
    obtain ⟨v8, s9, hc, h⟩ := bd_e h
    have hF := hF.trans (fr_X9_refuse (hLsub hL rfl) hc)
    refine e_ite h (fun _ h => ?_) (fun _ h => ?_)
    · exact ret_fi h hF
    exact ret_fi h hF
  refine jn_e (fun j => j = some (r, sr) → Fr R s0 sr) h ?_ (fun j10 hj10 h => ?_)
  · intro h
    exact hj7 _ h
  refine e_ite h (fun _ h => ?_) (fun _ h => ?_)
  · refine vl_g h (fun v11 h => ?_)
    refine bp_g h (fun v12 h => ?_)
    refine e_ite h (fun _ h => ?_) (fun _ h => ?_)
    · exact hj7 _ h
    exact hj10 h
  exact hj10 h

set_option maxHeartbeats 4000000 in
theorem fr_X1_lightAt {R : List Nat} {N : Nat} {a0 : Nat} {s0 : St} {r : Int32} {sr : St} (h_a0 : sh a0 = 1) (hL : ∀ x ∈ ([1] : List Nat), x ∈ R)  (h : f_X1_lightAt N a0 s0 = some (r, sr)) : Fr R s0 sr := by
  have hF : Fr R s0 s0 := Fr.rf
  unfold f_X1_lightAt at h
  refine bp_g h (fun v1 h => ?_)
  refine e_ite h (fun _ h => ?_) (fun _ h => ?_)
  · obtain ⟨v2, s3, hc, h⟩ := bd_e h
    have hF := hF.trans (fr_X9_refuse (hLsub hL rfl) hc)
    exact ret_fi h hF
  refine vl_g h (fun v4 h => ?_)
  refine bp_g h (fun v5 h => ?_)
  refine e_ite h (fun _ h => ?_) (fun _ h => ?_)
  · obtain ⟨v6, s7, hc, h⟩ := bd_e h
    have hF := hF.trans (fr_X9_refuse (hLsub hL rfl) hc)
    exact ret_fi h hF
  exact ret_fi h hF

set_option maxHeartbeats 4000000 in
theorem fr_X1_shipAt {R : List Nat} {N : Nat} {a0 : Nat} {s0 : St} {r : Int32} {sr : St} (h_a0 : sh a0 = 1) (hL : ∀ x ∈ ([1] : List Nat), x ∈ R)  (h : f_X1_shipAt N a0 s0 = some (r, sr)) : Fr R s0 sr := by
  have hF : Fr R s0 s0 := Fr.rf
  unfold f_X1_shipAt at h
  refine bp_g h (fun v1 h => ?_)
  refine e_ite h (fun _ h => ?_) (fun _ h => ?_)
  · obtain ⟨v2, s3, hc, h⟩ := bd_e h
    have hF := hF.trans (fr_X9_refuse (hLsub hL rfl) hc)
    exact ret_fi h hF
  refine vl_g h (fun v4 h => ?_)
  refine bp_g h (fun v5 h => ?_)
  refine e_ite h (fun _ h => ?_) (fun _ h => ?_)
  · obtain ⟨v6, s7, hc, h⟩ := bd_e h
    have hF := hF.trans (fr_X9_refuse (hLsub hL rfl) hc)
    exact ret_fi h hF
  exact ret_fi h hF

set_option maxHeartbeats 4000000 in
theorem fr_X2_act {R : List Nat} {a1 : Nat} {s0 : St} {sr : St} (h_a1 : sh a1 = 6) (hL : ∀ x ∈ ([19] : List Nat), x ∈ R) (hm_a1 : reg a1 ∈ R) (h : f_X2_act a1 s0 = some sr) : Fr R s0 sr := by
  have hF : Fr R s0 s0 := Fr.rf
  unfold f_X2_act at h
  refine vl_g h (fun v1 h => ?_)
  refine vl_g h (fun v2 h => ?_)
  obtain ⟨v3, s4, hc, h⟩ := bd_e h
  have hF := hF.trans (fr_X2_draw (hLsub hL rfl) hc)
  refine jn_e (fun j => j = some sr → Fr R s0 sr) h ?_ (fun j5 hj5 h => ?_)
  · intro h
    refine jn_e (fun j => j = some sr → Fr R s0 sr) h ?_ (fun j6 hj6 h => ?_)
    · intro h
      refine jn_e (fun j => j = some sr → Fr R s0 sr) h ?_ (fun j7 hj7 h => ?_)
      · intro h
        refine e_ite h (fun _ h => ?_) (fun _ h => ?_)
        · obtain ⟨v8, s9, hc, h⟩ := bd_e h
          have hF := hF.trans (fr_X2_draw (hLsub hL rfl) hc)
          obtain ⟨v10, s11, hc, h⟩ := bd_e h
          have hF := hF.trans (fr_X6_setHaze h_a1 (hLsub hL rfl) (mem_ref rfl hm_a1) hc)
          exact ret_fv h hF
        exact ret_fv h hF
      refine e_ite h (fun _ h => ?_) (fun _ h => ?_)
      · refine e_ite h (fun _ h => ?_) (fun _ h => ?_)
        · exact hj7 h
        obtain ⟨v12, s13, hc, h⟩ := bd_e h
        have hF := hF.trans (fr_X2_draw (hLsub hL rfl) hc)
        obtain ⟨v14, s15, hc, h⟩ := bd_e h
        have hF := hF.trans (fr_X2_draw (hLsub hL rfl) hc)
        obtain ⟨v16, s17, hc, h⟩ := bd_e h
        have hF := hF.trans (fr_X6_pourInto h_a1 (hLsub hL rfl) (mem_ref rfl hm_a1) hc)
        exact ret_fv h hF
      exact hj7 h
    refine e_ite h (fun _ h => ?_) (fun _ h => ?_)
    · refine e_ite h (fun _ h => ?_) (fun _ h => ?_)
      · exact hj6 h
      obtain ⟨v18, s19, hc, h⟩ := bd_e h
      have hF := hF.trans (fr_X2_draw (hLsub hL rfl) hc)
      obtain ⟨v20, s21, hc, h⟩ := bd_e h
      have hF := hF.trans (fr_X2_draw (hLsub hL rfl) hc)
      obtain ⟨v22, s23, hc, h⟩ := bd_e h
      have hF := hF.trans (fr_X6_turn h_a1 (hLsub hL rfl) (mem_ref rfl hm_a1) hc)
      exact ret_fv h hF
    exact hj6 h
  refine e_ite h (fun _ h => ?_) (fun _ h => ?_)
  · refine e_ite h (fun _ h => ?_) (fun _ h => ?_)
    · exact hj5 h
    obtain ⟨v24, s25, hc, h⟩ := bd_e h
    have hF := hF.trans (fr_X2_draw (hLsub hL rfl) hc)
    obtain ⟨s26, hc, h⟩ := bp_e h
    have hF := hF.trans (fr_X2_douseOrKindle h_a1 (hLsub hL rfl) (mem_ref rfl hm_a1) hc)
    exact ret_fv h hF
  exact hj5 h

set_option maxHeartbeats 4000000 in
theorem fr_X6_passOne_L2 {R : List Nat} {N : Nat} {c1 : Nat} {k4 : St → Option (St)} {s0 : St}  {sr : St} (h_c1 : sh c1 = 6) (hL : ∀ x ∈ ([] : List Nat), x ∈ R) (hm_c1 : reg c1 ∈ R) (hk4 : ∀ (s5 : St), Fr R s0 s5 → k4 s5 = some sr → Fr R s0 sr)  : ∀ (n6 : Nat) (v2 : Int32) (s3 : St), Fr R s0 s3 → f_X6_passOne_L2 N c1 k4 n6 v2 s3 = some sr → Fr R s0 sr := by
  intro n6
  induction n6 with
  | zero =>
    intro v2 s3 hF h
    rw [f_X6_passOne_L2] at h; cases h
  | succ n6 ih7 =>
    intro v2 s3 hF h
    rw [f_X6_passOne_L2] at h
    refine vl_g h (fun v8 h => ?_)
    refine e_ite h (fun _ h => ?_) (fun _ h => ?_)
    · exact hk4 _ hF h
    refine bp_g h (fun v9 h => ?_)
    refine jn_e (fun j => ∀ (s10 : St), Fr R s0 s10 → j s10 = some sr → Fr R s0 sr) h ?_ (fun j11 hj11 h => ?_)
    · intro s10 hF h
      refine vl_g h (fun v12 h => ?_)
      exact ih7 _ _ hF h
    refine e_ite h (fun _ h => ?_) (fun _ h => ?_)
    · exact hj11 _ hF h
    refine ald_g h (fun v13 h => ?_)
    refine ald_s h (fun _ => hF.sI (mem_ref ((rgf_6_4 _ h_c1).trans rfl) hm_c1)) (fun s14 hF h => ?_)
    exact hj11 _ hF h

set_option maxHeartbeats 4000000 in
theorem fr_X6_passOne_L39 {R : List Nat} {N : Nat} {c16 : Nat} {k19 : St → Option (St)} {s0 : St}  {sr : St} (h_c16 : sh c16 = 6) (hL : ∀ x ∈ ([] : List Nat), x ∈ R) (hm_c16 : reg c16 ∈ R) (hk19 : ∀ (s20 : St), Fr R s0 s20 → k19 s20 = some sr → Fr R s0 sr)  : ∀ (n21 : Nat) (v17 : Int32) (s18 : St), Fr R s0 s18 → f_X6_passOne_L39 N c16 k19 n21 v17 s18 = some sr → Fr R s0 sr := by
  intro n21
  induction n21 with
  | zero =>
    intro v17 s18 hF h
    rw [f_X6_passOne_L39] at h; cases h
  | succ n21 ih22 =>
    intro v17 s18 hF h
    rw [f_X6_passOne_L39] at h
    refine vl_g h (fun v23 h => ?_)
    refine e_ite h (fun _ h => ?_) (fun _ h => ?_)
    · exact hk19 _ hF h
    refine vl_g h (fun v24 h => ?_)
    refine ald_i h (fun i26 hi26 h => ?_)
    refine vl_g h (fun v27 h => ?_)
    refine bp_g h (fun v28 h => ?_)
    refine jn_e (fun j => ∀ (s29 : St), Fr R s0 s29 → j s29 = some sr → Fr R s0 sr) h ?_ (fun j30 hj30 h => ?_)
    · intro s29 hF h
      refine vl_g h (fun v31 h => ?_)
      exact ih22 _ _ hF h
    refine e_ite h (fun _ h => ?_) (fun _ h => ?_)
    · obtain ⟨s32, hc, h⟩ := bp_e h
      have hF := hF.trans (fr_X6_sail h_c16 (hLsub hL rfl) (mem_ref rfl hm_c16) hc)
      exact hj30 _ hF h
    exact hj30 _ hF h

set_option maxHeartbeats 4000000 in
theorem fr_X6_passOne {R : List Nat} {N : Nat} {a0 : Nat} {s0 : St} {sr : St} (h_a0 : sh a0 = 6) (hL : ∀ x ∈ ([] : List Nat), x ∈ R) (hm_a0 : reg a0 ∈ R) (h : f_X6_passOne N a0 s0 = some sr) : Fr R s0 sr := by
  have hF : Fr R s0 s0 := Fr.rf
  unfold f_X6_passOne at h
  refine fr_X6_passOne_L2 h_a0 (hLsub hL rfl) (mem_ref rfl hm_a0) (fun s15 hF h => ?_) _ _ _ hF h
  refine fr_X6_passOne_L39 h_a0 (hLsub hL rfl) (mem_ref rfl hm_a0) (fun s33 hF h => ?_) _ _ _ hF h
  refine vl_g h (fun v34 h => ?_)
  refine vl_s h (hF.sI (mem_ref rfl hm_a0)) (fun s35 hF h => ?_)
  exact ret_fv h hF

set_option maxHeartbeats 4000000 in
theorem fr_X7_readAll_L15 {R : List Nat} {N : Nat} {rec : Nat → Int32 → St → Option (Int32 × St)} (hrecF : ∀ {R : List Nat} (a : Nat) (v : Int32) (s : St) (r : Int32) (s1 : St), sh a = 7 → rec a v s = some (r, s1) → 1 ∈ R → reg a ∈ R → Fr R s s1) {c3 : Nat} {c4 : Int32}  {s0 : St}  {r : Int32} {sr : St} (h_c3 : sh c3 = 7) (hL : ∀ x ∈ ([1] : List Nat), x ∈ R) (hm_c3 : reg c3 ∈ R)   : ∀ (n7 : Nat) (v5 : Int32) (s6 : St), Fr R s0 s6 → f_X7_readAll_L15 N rec c3 c4 n7 v5 s6 = some (r, sr) → Fr R s0 sr := by
  intro n7
  induction n7 with
  | zero =>
    intro v5 s6 hF h
    rw [f_X7_readAll_L15] at h; cases h
  | succ n7 ih8 =>
    intro v5 s6 hF h
    rw [f_X7_readAll_L15] at h
    refine e_ite h (fun _ h => ?_) (fun _ h => ?_)
    · exact ret_fi h hF
    refine bp_g h (fun v9 h => ?_)
    refine e_ite h (fun _ h => ?_) (fun _ h => ?_)
    · exact ret_fi h hF
    obtain ⟨s10, hc, h⟩ := bp_e h
    have hF := hF.trans (fr_X9_next (hLsub hL rfl) hc)
    obtain ⟨v11, s12, hc, h⟩ := bd_e h
    have hF := hF.trans (hrecF _ _ _ _ _ h_c3 hc (hL 1 (by decide)) (mem_ref rfl hm_c3))
    refine e_ite h (fun _ h => ?_) (fun _ h => ?_)
    · exact ret_fi h hF
    obtain ⟨v13, s14, hc, h⟩ := bd_e h
    have hF := hF.trans (fr_X7_add h_c3 (hLsub hL rfl) (mem_ref rfl hm_c3) hc)
    refine vl_g h (fun v15 h => ?_)
    exact ih8 _ _ hF h

set_option maxHeartbeats 4000000 in
theorem fr_X7_readAll {R : List Nat} {N : Nat} {rec : Nat → Int32 → St → Option (Int32 × St)} (hrecF : ∀ {R : List Nat} (a : Nat) (v : Int32) (s : St) (r : Int32) (s1 : St), sh a = 7 → rec a v s = some (r, s1) → 1 ∈ R → reg a ∈ R → Fr R s s1) {a0 : Nat} {x3 : Int32} {s0 : St} {r : Int32} {sr : St} (h_a0 : sh a0 = 7) (hL : ∀ x ∈ ([1] : List Nat), x ∈ R) (hm_a0 : reg a0 ∈ R) (h : f_X7_readAll N rec a0 x3 s0 = some (r, sr)) : Fr R s0 sr := by
  have hF : Fr R s0 s0 := Fr.rf
  unfold f_X7_readAll at h
  obtain ⟨v1, s2, hc, h⟩ := bd_e h
  have hF := hF.trans (hrecF _ _ _ _ _ h_a0 hc (hL 1 (by decide)) (mem_ref rfl hm_a0))
  refine e_ite h (fun _ h => ?_) (fun _ h => ?_)
  · exact ret_fi h hF
  exact fr_X7_readAll_L15 hrecF h_a0 (hLsub hL rfl) (mem_ref rfl hm_a0)  _ _ _ hF h

set_option maxHeartbeats 4000000 in
theorem fr_X7_readNamed {R : List Nat} {N : Nat} {a0 : Nat} {x2 : Int32} {x3 : Int32} {s0 : St} {r : Int32} {sr : St} (h_a0 : sh a0 = 7) (hL : ∀ x ∈ ([1] : List Nat), x ∈ R) (hm_a0 : reg a0 ∈ R) (h : f_X7_readNamed N a0 x2 x3 s0 = some (r, sr)) : Fr R s0 sr := by
  have hF : Fr R s0 s0 := Fr.rf
  unfold f_X7_readNamed at h
  refine e_ite h (fun _ h => ?_) (fun _ h => ?_)
  · exact ret_fi h hF
  obtain ⟨s1, hc, h⟩ := bp_e h
  have hF := hF.trans (fr_X9_next (hLsub hL rfl) hc)
  obtain ⟨v2, s3, hc, h⟩ := bd_e h
  have hF := hF.trans (fr_X7_add h_a0 (hLsub hL rfl) (mem_ref rfl hm_a0) hc)
  refine rz_e h (fun _ h => ?_)
  exact ret_fi h hF

set_option maxHeartbeats 4000000 in
theorem fr_X7_readMeasure {R : List Nat} {N : Nat} {a0 : Nat} {x2 : Int32} {s0 : St} {r : Int32} {sr : St} (h_a0 : sh a0 = 7) (hL : ∀ x ∈ ([1] : List Nat), x ∈ R) (hm_a0 : reg a0 ∈ R) (h : f_X7_readMeasure N a0 x2 s0 = some (r, sr)) : Fr R s0 sr := by
  have hF : Fr R s0 s0 := Fr.rf
  unfold f_X7_readMeasure at h
  refine bp_g h (fun v1 h => ?_)
  refine jn_e (fun j => j = some (r, sr) → Fr R s0 sr) h ?_ (fun j2 hj2 h => ?_)
  · intro h
    refine vl_g h (fun v3 h => ?_)
    obtain ⟨s4, hc, h⟩ := bp_e h
    have hF := hF.trans (fr_X9_next (hLsub hL rfl) hc)
    obtain ⟨v5, s6, hc, h⟩ := bd_e h
    have hF := hF.trans (fr_X9_takeNumber (hLsub hL rfl) hc)
    refine jn_e (fun j => ∀ (s7 : St), Fr R s0 s7 → j s7 = some (r, sr) → Fr R s0 sr) h ?_ (fun j8 hj8 h => ?_)
    · intro s7 hF h
      exact ret_fi h hF
    refine e_ite h (fun _ h => ?_) (fun _ h => ?_)
    · exact hj8 _ hF h
    refine vl_g h (fun v9 h => ?_)
    obtain ⟨v10, s11, hc, h⟩ := bd_e h
    have hF := hF.trans (fr_X7_add h_a0 (hLsub hL rfl) (mem_ref rfl hm_a0) hc)
    refine e_ite h (fun _ h => ?_) (fun _ h => ?_)
    · exact hj8 _ hF h
    exact ret_fi h hF
  refine e_ite h (fun _ h => ?_) (fun _ h => ?_)
  · refine bp_g h (fun v12 h => ?_)
    refine e_ite h (fun _ h => ?_) (fun _ h => ?_)
    · refine bp_g h (fun v13 h => ?_)
      refine e_ite h (fun _ h => ?_) (fun _ h => ?_)
      · obtain ⟨v14, s15, hc, h⟩ := bd_e h
        have hF := hF.trans (fr_X9_refuse (hLsub hL rfl) hc)
        refine rz_e h (fun _ h => ?_)
        exact ret_fi h hF
      exact hj2 h
    exact hj2 h
  exact hj2 h

set_option maxHeartbeats 4000000 in
theorem fr_X9_open {R : List Nat} {N : Nat} {x1 : Int32} {s0 : St} {sr : St}  (hL : ∀ x ∈ ([1] : List Nat), x ∈ R)  (h : f_X9_open N x1 s0 = some sr) : Fr R s0 sr := by
  have hF : Fr R s0 s0 := Fr.rf
  unfold f_X9_open at h
  refine vl_g h (fun v1 h => ?_)
  refine vl_g h (fun v2 h => ?_)
  refine vl_s h (hF.sI (mem_lit rgq_1 hL rfl)) (fun s3 hF h => ?_)
  refine vl_g h (fun v4 h => ?_)
  refine jn_e (fun j => ∀ (v5 : Int32), j v5 = some sr → Fr R s0 sr) h ?_ (fun j6 hj6 h => ?_)
  · intro v5 h
    refine rz_e h (fun _ h => ?_)
    refine vl_s h (hF.sI (mem_lit rgq_1 hL rfl)) (fun s7 hF h => ?_)
    refine vl_s h (hF.sI (mem_lit rgq_1 hL rfl)) (fun s8 hF h => ?_)
    refine vl_s h (hF.sI (mem_lit rgq_1 hL rfl)) (fun s9 hF h => ?_)
    refine vl_s h (hF.sI (mem_lit rgq_1 hL rfl)) (fun s10 hF h => ?_)
    obtain ⟨s11, hc, h⟩ := bp_e h
    have hF := hF.trans (fr_X9_next (hLsub hL rfl) hc)
    exact ret_fv h hF
  refine e_ite h (fun _ h => ?_) (fun _ h => ?_)
  · exact hj6 _ h
  exact hj6 _ h

set_option maxHeartbeats 4000000 in
theorem fr_X11_waits_L23 {R : List Nat} {N : Nat} {c3 : Int32}  {s0 : St}  {r : Int32} {sr : St}  (hL : ∀ x ∈ ([5] : List Nat), x ∈ R)    : ∀ (n6 : Nat) (v4 : Int32) (s5 : St), Fr R s0 s5 → f_X11_waits_L23 N c3 n6 v4 s5 = some (r, sr) → Fr R s0 sr := by
  intro n6
  induction n6 with
  | zero =>
    intro v4 s5 hF h
    rw [f_X11_waits_L23] at h; cases h
  | succ n6 ih7 =>
    intro v4 s5 hF h
    rw [f_X11_waits_L23] at h
    refine e_ite h (fun _ h => ?_) (fun _ h => ?_)
    · exact ret_fi h hF
    refine bp_g h (fun v8 h => ?_)
    refine e_ite h (fun _ h => ?_) (fun _ h => ?_)
    · obtain ⟨s9, hc, h⟩ := bp_e h
      have hF := hF.trans (fr_X6_passOne shq_55 (hLsub hL rfl) (mem_lit rgq_55 hL rfl) hc)
      refine vl_g h (fun v10 h => ?_)
      exact ih7 _ _ hF h
    exact ret_fi h hF

set_option maxHeartbeats 4000000 in
theorem fr_X11_waits {R : List Nat} {N : Nat} {x1 : Int32} {s0 : St} {r : Int32} {sr : St}  (hL : ∀ x ∈ ([5] : List Nat), x ∈ R)  (h : f_X11_waits N x1 s0 = some (r, sr)) : Fr R s0 sr := by
  have hF : Fr R s0 s0 := Fr.rf
  unfold f_X11_waits at h
  refine bp_g h (fun v1 h => ?_)
  refine e_ite h (fun _ h => ?_) (fun _ h => ?_)
  · exact ret_fi h hF
  obtain ⟨s2, hc, h⟩ := bp_e h
  have hF := hF.trans (fr_X6_copyFrom shq_55 shq_49 (hLsub hL rfl) (mem_lit rgq_55 hL rfl) hc)
  exact fr_X11_waits_L23 (hLsub hL rfl)  _ _ _ hF h

set_option maxHeartbeats 4000000 in
theorem fr_X11_keepFits_L2 {R : List Nat} {N : Nat} {c1 : Int32} {k4 : St → Option (St)} {s0 : St}  {sr : St}  (hL : ∀ x ∈ ([0] : List Nat), x ∈ R)  (hk4 : ∀ (s5 : St), Fr R s0 s5 → k4 s5 = some sr → Fr R s0 sr)  : ∀ (n6 : Nat) (v2 : Int32) (s3 : St), Fr R s0 s3 → f_X11_keepFits_L2 N c1 k4 n6 v2 s3 = some sr → Fr R s0 sr := by
  intro n6
  induction n6 with
  | zero =>
    intro v2 s3 hF h
    rw [f_X11_keepFits_L2] at h; cases h
  | succ n6 ih7 =>
    intro v2 s3 hF h
    rw [f_X11_keepFits_L2] at h
    refine e_ite h (fun _ h => ?_) (fun _ h => ?_)
    · exact hk4 _ hF h
    refine jn_e (fun j => ∀ (v8 : Int32), j v8 = some sr → Fr R s0 sr) h ?_ (fun j9 hj9 h => ?_)
    · intro v8 h
      refine ald_s h (fun _ => hF.sI (mem_lit rgq_133 hL rfl)) (fun s10 hF h => ?_)
      refine vl_g h (fun v11 h => ?_)
      exact ih7 _ _ hF h
    refine e_ite h (fun _ h => ?_) (fun _ h => ?_)
    · exact hj9 _ h
    refine ald_i h (fun i13 hi13 h => ?_)
    refine bp_g h (fun v14 h => ?_)
    exact hj9 _ h

set_option maxHeartbeats 4000000 in
theorem fr_X11_keepFits_L61 {R : List Nat} {N : Nat}   {s0 : St}  {sr : St}  (hL : ∀ x ∈ ([0] : List Nat), x ∈ R)    : ∀ (n21 : Nat) (v18 : Int32) (v19 : Int32) (s20 : St), Fr R s0 s20 → f_X11_keepFits_L61 N n21 v18 v19 s20 = some sr → Fr R s0 sr := by
  intro n21
  induction n21 with
  | zero =>
    intro v18 v19 s20 hF h
    rw [f_X11_keepFits_L61] at h; cases h
  | succ n21 ih22 =>
    intro v18 v19 s20 hF h
    rw [f_X11_keepFits_L61] at h
    refine e_ite h (fun _ h => ?_) (fun _ h => ?_)
    · exact ret_fv h hF
    refine bp_g h (fun v23 h => ?_)
    refine jn_e (fun j => ∀ (v24 : Int32) (s25 : St), Fr R s0 s25 → j v24 s25 = some sr → Fr R s0 sr) h ?_ (fun j26 hj26 h => ?_)
    · intro v24 s25 hF h
      refine vl_g h (fun v27 h => ?_)
      exact ih22 _ _ _ hF h
    refine e_ite h (fun _ h => ?_) (fun _ h => ?_)
    · exact hj26 _ _ hF h
    refine vl_s h (hF.sI (mem_lit rgq_0 hL rfl)) (fun s28 hF h => ?_)
    exact hj26 _ _ hF h

set_option maxHeartbeats 4000000 in
theorem fr_X11_keepFits {R : List Nat} {N : Nat} {x1 : Int32} {s0 : St} {sr : St}  (hL : ∀ x ∈ ([0] : List Nat), x ∈ R)  (h : f_X11_keepFits N x1 s0 = some sr) : Fr R s0 sr := by
  have hF : Fr R s0 s0 := Fr.rf
  unfold f_X11_keepFits at h
  refine fr_X11_keepFits_L2 (hLsub hL rfl) (fun s15 hF h => ?_) _ _ _ hF h
  refine vl_s h (hF.sI (mem_lit rgq_0 hL rfl)) (fun s16 hF h => ?_)
  refine bp_g h (fun v17 h => ?_)
  exact fr_X11_keepFits_L61 (hLsub hL rfl)  _ _ _ _ hF h

set_option maxHeartbeats 4000000 in
theorem fr_X0_readWhom {R : List Nat} {N : Nat} {x3 : Int32} {s0 : St} {r : Int32} {sr : St}  (hL : ∀ x ∈ ([1, 8] : List Nat), x ∈ R)  (h : f_X0_readWhom N x3 s0 = some (r, sr)) : Fr R s0 sr := by
  have hF : Fr R s0 s0 := Fr.rf
  unfold f_X0_readWhom at h
  refine vl_g h (fun v1 h => ?_)
  refine ald_s h (fun _ => hF.sI (mem_lit rgq_73 hL rfl)) (fun s2 hF h => ?_)
  refine e_ite h (fun _ h => ?_) (fun _ h => ?_)
  · exact ret_fi h hF
  refine e_ite h (fun _ h => ?_) (fun _ h => ?_)
  · exact ret_fi h hF
  refine vl_g h (fun v3 h => ?_)
  refine jn_e (fun j => ∀ (v4 : Int32) (s5 : St), Fr R s0 s5 → j v4 s5 = some (r, sr) → Fr R s0 sr) h ?_ (fun j6 hj6 h => ?_)
  · intro v4 s5 hF h
    refine ald_s h (fun _ => hF.sI (mem_lit rgq_73 hL rfl)) (fun s7 hF h => ?_)
    refine vl_g h (fun v8 h => ?_)
    refine ald_g h (fun v9 h => ?_)
    refine e_ite h (fun _ h => ?_) (fun _ h => ?_)
    · exact ret_fi h hF
    obtain ⟨s10, hc, h⟩ := bp_e h
    have hF := hF.trans (fr_X9_next (hLsub hL rfl) hc)
    exact ret_fi h hF
  refine e_ite h (fun _ h => ?_) (fun _ h => ?_)
  · obtain ⟨v11, s12, hc, h⟩ := bd_e h
    have hF := hF.trans (fr_X1_shipAt shq_3 (hLsub hL rfl) hc)
    exact hj6 _ _ hF h
  obtain ⟨v13, s14, hc, h⟩ := bd_e h
  have hF := hF.trans (fr_X1_lightAt shq_3 (hLsub hL rfl) hc)
  exact hj6 _ _ hF h

set_option maxHeartbeats 4000000 in
theorem fr_X1_compareLights_L32 {R : List Nat} {N : Nat} {c13 : Nat} {c14 : Int32} {k17 : St → Option (St)} {s0 : St}  {sr : St} (h_c13 : sh c13 = 1) (hL : ∀ x ∈ ([] : List Nat), x ∈ R) (hm_c13 : reg c13 ∈ R) (hk17 : ∀ (s18 : St), Fr R s0 s18 → k17 s18 = some sr → Fr R s0 sr)  : ∀ (n19 : Nat) (v15 : Int32) (s16 : St), Fr R s0 s16 → f_X1_compareLights_L32 N c13 c14 k17 n19 v15 s16 = some sr → Fr R s0 sr := by
  intro n19
  induction n19 with
  | zero =>
    intro v15 s16 hF h
    rw [f_X1_compareLights_L32] at h; cases h
  | succ n19 ih20 =>
    intro v15 s16 hF h
    rw [f_X1_compareLights_L32] at h
    refine e_ite h (fun _ h => ?_) (fun _ h => ?_)
    · exact hk17 _ hF h
    obtain ⟨s21, hc, h⟩ := bp_e h
    have hF := hF.trans (fr_X1_comparePair h_c13 (hLsub hL rfl) (mem_ref rfl hm_c13) hc)
    refine vl_g h (fun v22 h => ?_)
    exact ih20 _ _ hF h

set_option maxHeartbeats 4000000 in
theorem fr_X1_compareLights_L2 {R : List Nat} {N : Nat} {c1 : Nat}  {s0 : St}  {sr : St} (h_c1 : sh c1 = 1) (hL : ∀ x ∈ ([] : List Nat), x ∈ R) (hm_c1 : reg c1 ∈ R)   : ∀ (n4 : Nat) (v2 : Int32) (s3 : St), Fr R s0 s3 → f_X1_compareLights_L2 N c1 n4 v2 s3 = some sr → Fr R s0 sr := by
  intro n4
  induction n4 with
  | zero =>
    intro v2 s3 hF h
    rw [f_X1_compareLights_L2] at h; cases h
  | succ n4 ih5 =>
    intro v2 s3 hF h
    rw [f_X1_compareLights_L2] at h
    refine vl_g h (fun v6 h => ?_)
    refine e_ite h (fun _ h => ?_) (fun _ h => ?_)
    · exact ret_fv h hF
    refine ald_i h (fun i8 hi8 h => ?_)
    refine vl_s h (hF.sI (mem_ref ((rge_24 _ (wt_1_0 _ h_c1).1 _ hi8).trans ((rgf_1_0 _ h_c1).trans rfl)) hm_c1)) (fun s9 hF h => ?_)
    refine ald_i h (fun i11 hi11 h => ?_)
    refine vl_s h (hF.sI (mem_ref ((rge_24 _ (wt_1_0 _ h_c1).1 _ hi11).trans ((rgf_1_0 _ h_c1).trans rfl)) hm_c1)) (fun s12 hF h => ?_)
    refine fr_X1_compareLights_L32 h_c1 (hLsub hL rfl) (mem_ref rfl hm_c1) (fun s23 hF h => ?_) _ _ _ hF h
    refine vl_g h (fun v24 h => ?_)
    exact ih5 _ _ hF h

set_option maxHeartbeats 4000000 in
theorem fr_X1_compareLights {R : List Nat} {N : Nat} {a0 : Nat} {s0 : St} {sr : St} (h_a0 : sh a0 = 1) (hL : ∀ x ∈ ([] : List Nat), x ∈ R) (hm_a0 : reg a0 ∈ R) (h : f_X1_compareLights N a0 s0 = some sr) : Fr R s0 sr := by
  have hF : Fr R s0 s0 := Fr.rf
  unfold f_X1_compareLights at h
  exact fr_X1_compareLights_L2 h_a0 (hLsub hL rfl) (mem_ref rfl hm_a0)  _ _ _ hF h

set_option maxHeartbeats 4000000 in
theorem fr_X1_readLight {R : List Nat} {N : Nat} {a0 : Nat} {s0 : St} {r : Int32} {sr : St} (h_a0 : sh a0 = 1) (hL : ∀ x ∈ ([1] : List Nat), x ∈ R) (hm_a0 : reg a0 ∈ R) (h : f_X1_readLight N a0 s0 = some (r, sr)) : Fr R s0 sr := by
  have hF : Fr R s0 s0 := Fr.rf
  unfold f_X1_readLight at h
  refine vl_g h (fun v1 h => ?_)
  refine e_ite h (fun _ h => ?_) (fun _ h => ?_)
  · obtain ⟨s2, hc, h⟩ := bp_e h
    have hF := hF.trans (fr_X9_next (hLsub hL rfl) hc)
    obtain ⟨v3, s4, hc, h⟩ := bd_e h
    have hF := hF.trans (fr_X1_atNewName h_a0 (hLsub hL rfl) hc)
    refine e_ite h (fun _ h => ?_) (fun _ h => ?_)
    · exact ret_fi h hF
    refine vl_g h (fun v5 h => ?_)
    refine ald_i h (fun i7 hi7 h => ?_)
    refine vl_g h (fun v8 h => ?_)
    obtain ⟨s9, hc, h⟩ := bp_e h
    have hF := hF.trans (fr_X4_begin (we_24 _ (wt_1_0 _ h_a0).1 _ hi7) (hLsub hL rfl) (mem_ref ((rge_24 _ (wt_1_0 _ h_a0).1 _ hi7).trans ((rgf_1_0 _ h_a0).trans rfl)) hm_a0) hc)
    obtain ⟨s10, hc, h⟩ := bp_e h
    have hF := hF.trans (fr_X9_next (hLsub hL rfl) hc)
    obtain ⟨v11, s12, hc, h⟩ := bd_e h
    have hF := hF.trans (fr_X9_takeNumber (hLsub hL rfl) hc)
    refine e_ite h (fun _ h => ?_) (fun _ h => ?_)
    · exact ret_fi h hF
    refine vl_g h (fun v13 h => ?_)
    refine vl_s h (hF.sI (mem_ref ((rge_24 _ (wt_1_0 _ h_a0).1 _ hi7).trans ((rgf_1_0 _ h_a0).trans rfl)) hm_a0)) (fun s14 hF h => ?_)
    obtain ⟨v15, s16, hc, h⟩ := bd_e h
    have hF := hF.trans (fr_X9_takeNumber (hLsub hL rfl) hc)
    refine e_ite h (fun _ h => ?_) (fun _ h => ?_)
    · exact ret_fi h hF
    refine vl_g h (fun v17 h => ?_)
    refine vl_s h (hF.sI (mem_ref ((rge_24 _ (wt_1_0 _ h_a0).1 _ hi7).trans ((rgf_1_0 _ h_a0).trans rfl)) hm_a0)) (fun s18 hF h => ?_)
    obtain ⟨v19, s20, hc, h⟩ := bd_e h
    have hF := hF.trans (fr_X9_takeNumber (hLsub hL rfl) hc)
    refine e_ite h (fun _ h => ?_) (fun _ h => ?_)
    · exact ret_fi h hF
    refine vl_g h (fun v21 h => ?_)
    refine vl_s h (hF.sI (mem_ref ((rge_24 _ (wt_1_0 _ h_a0).1 _ hi7).trans ((rgf_1_0 _ h_a0).trans rfl)) hm_a0)) (fun s22 hF h => ?_)
    refine bp_g h (fun v23 h => ?_)
    refine vl_s h (hF.sI (mem_ref ((rge_24 _ (wt_1_0 _ h_a0).1 _ hi7).trans ((rgf_1_0 _ h_a0).trans rfl)) hm_a0)) (fun s24 hF h => ?_)
    refine vl_g h (fun v25 h => ?_)
    refine e_ite h (fun _ h => ?_) (fun _ h => ?_)
    · obtain ⟨v26, s27, hc, h⟩ := bd_e h
      have hF := hF.trans (fr_X9_refuse (hLsub hL rfl) hc)
      refine rz_e h (fun _ h => ?_)
      exact ret_fi h hF
    obtain ⟨s28, hc, h⟩ := bp_e h
    have hF := hF.trans (fr_X9_next (hLsub hL rfl) hc)
    obtain ⟨v29, s30, hc, h⟩ := bd_e h
    have hF := hF.trans (fr_X9_takeNumber (hLsub hL rfl) hc)
    refine e_ite h (fun _ h => ?_) (fun _ h => ?_)
    · exact ret_fi h hF
    refine vl_g h (fun v31 h => ?_)
    refine vl_s h (hF.sI (mem_ref ((rge_24 _ (wt_1_0 _ h_a0).1 _ hi7).trans ((rgf_1_0 _ h_a0).trans rfl)) hm_a0)) (fun s32 hF h => ?_)
    refine vl_g h (fun v33 h => ?_)
    refine vl_s h (hF.sI (mem_ref rfl hm_a0)) (fun s34 hF h => ?_)
    exact ret_fi h hF
  obtain ⟨v35, s36, hc, h⟩ := bd_e h
  have hF := hF.trans (fr_X9_refuse (hLsub hL rfl) hc)
  refine rz_e h (fun _ h => ?_)
  exact ret_fi h hF

set_option maxHeartbeats 4000000 in
theorem fr_X1_readFlash {R : List Nat} {N : Nat} {a0 : Nat} {s0 : St} {r : Int32} {sr : St} (h_a0 : sh a0 = 1) (hL : ∀ x ∈ ([1] : List Nat), x ∈ R) (hm_a0 : reg a0 ∈ R) (h : f_X1_readFlash N a0 s0 = some (r, sr)) : Fr R s0 sr := by
  have hF : Fr R s0 s0 := Fr.rf
  unfold f_X1_readFlash at h
  obtain ⟨s1, hc, h⟩ := bp_e h
  have hF := hF.trans (fr_X9_next (hLsub hL rfl) hc)
  obtain ⟨v2, s3, hc, h⟩ := bd_e h
  have hF := hF.trans (fr_X1_lightAt h_a0 (hLsub hL rfl) hc)
  refine e_ite h (fun _ h => ?_) (fun _ h => ?_)
  · exact ret_fi h hF
  refine ald_i h (fun i5 hi5 h => ?_)
  refine vl_g h (fun v6 h => ?_)
  refine e_ite h (fun _ h => ?_) (fun _ h => ?_)
  · obtain ⟨s7, hc, h⟩ := bp_e h
    have hF := hF.trans (fr_X9_next (hLsub hL rfl) hc)
    obtain ⟨v8, s9, hc, h⟩ := bd_e h
    have hF := hF.trans (fr_X9_takeNumber (hLsub hL rfl) hc)
    refine e_ite h (fun _ h => ?_) (fun _ h => ?_)
    · exact ret_fi h hF
    refine vl_g h (fun v10 h => ?_)
    obtain ⟨v11, s12, hc, h⟩ := bd_e h
    have hF := hF.trans (fr_X9_takeNumber (hLsub hL rfl) hc)
    refine e_ite h (fun _ h => ?_) (fun _ h => ?_)
    · exact ret_fi h hF
    refine ald_i h (fun i14 hi14 h => ?_)
    refine vl_g h (fun v15 h => ?_)
    obtain ⟨s16, hc, h⟩ := bp_e h
    have hF := hF.trans (fr_X4_addFlash (we_24 _ (wt_1_0 _ h_a0).1 _ hi14) (hLsub hL rfl) (mem_ref ((rge_24 _ (wt_1_0 _ h_a0).1 _ hi14).trans ((rgf_1_0 _ h_a0).trans rfl)) hm_a0) hc)
    exact ret_fi h hF
  obtain ⟨v17, s18, hc, h⟩ := bd_e h
  have hF := hF.trans (fr_X9_refuse (hLsub hL rfl) hc)
  refine rz_e h (fun _ h => ?_)
  exact ret_fi h hF

set_option maxHeartbeats 4000000 in
theorem fr_X1_readFrom {R : List Nat} {N : Nat} {a0 : Nat} {s0 : St} {r : Int32} {sr : St} (h_a0 : sh a0 = 1) (hL : ∀ x ∈ ([1] : List Nat), x ∈ R) (hm_a0 : reg a0 ∈ R) (h : f_X1_readFrom N a0 s0 = some (r, sr)) : Fr R s0 sr := by
  have hF : Fr R s0 s0 := Fr.rf
  unfold f_X1_readFrom at h
  obtain ⟨s1, hc, h⟩ := bp_e h
  have hF := hF.trans (fr_X9_next (hLsub hL rfl) hc)
  obtain ⟨v2, s3, hc, h⟩ := bd_e h
  have hF := hF.trans (fr_X1_lightAt h_a0 (hLsub hL rfl) hc)
  refine e_ite h (fun _ h => ?_) (fun _ h => ?_)
  · exact ret_fi h hF
  refine ald_i h (fun i5 hi5 h => ?_)
  refine vl_g h (fun v6 h => ?_)
  refine e_ite h (fun _ h => ?_) (fun _ h => ?_)
  · obtain ⟨s7, hc, h⟩ := bp_e h
    have hF := hF.trans (fr_X9_next (hLsub hL rfl) hc)
    obtain ⟨v8, s9, hc, h⟩ := bd_e h
    have hF := hF.trans (fr_X9_takeNumber (hLsub hL rfl) hc)
    refine e_ite h (fun _ h => ?_) (fun _ h => ?_)
    · exact ret_fi h hF
    refine ald_i h (fun i11 hi11 h => ?_)
    refine vl_g h (fun v12 h => ?_)
    refine vl_s h (hF.sI (mem_ref ((rge_24 _ (wt_1_0 _ h_a0).1 _ hi11).trans ((rgf_1_0 _ h_a0).trans rfl)) hm_a0)) (fun s13 hF h => ?_)
    refine ald_i h (fun i15 hi15 h => ?_)
    refine vl_s h (hF.sI (mem_ref ((rge_24 _ (wt_1_0 _ h_a0).1 _ hi15).trans ((rgf_1_0 _ h_a0).trans rfl)) hm_a0)) (fun s16 hF h => ?_)
    exact ret_fi h hF
  obtain ⟨v17, s18, hc, h⟩ := bd_e h
  have hF := hF.trans (fr_X9_refuse (hLsub hL rfl) hc)
  refine rz_e h (fun _ h => ?_)
  exact ret_fi h hF

set_option maxHeartbeats 4000000 in
theorem fr_X1_readDark {R : List Nat} {N : Nat} {a0 : Nat} {s0 : St} {r : Int32} {sr : St} (h_a0 : sh a0 = 1) (hL : ∀ x ∈ ([1] : List Nat), x ∈ R) (hm_a0 : reg a0 ∈ R) (h : f_X1_readDark N a0 s0 = some (r, sr)) : Fr R s0 sr := by
  have hF : Fr R s0 s0 := Fr.rf
  unfold f_X1_readDark at h
  obtain ⟨s1, hc, h⟩ := bp_e h
  have hF := hF.trans (fr_X9_next (hLsub hL rfl) hc)
  obtain ⟨v2, s3, hc, h⟩ := bd_e h
  have hF := hF.trans (fr_X1_lightAt h_a0 (hLsub hL rfl) hc)
  refine e_ite h (fun _ h => ?_) (fun _ h => ?_)
  · exact ret_fi h hF
  obtain ⟨s4, hc, h⟩ := bp_e h
  have hF := hF.trans (fr_X9_next (hLsub hL rfl) hc)
  obtain ⟨v5, s6, hc, h⟩ := bd_e h
  have hF := hF.trans (fr_X9_atNumber (hLsub hL rfl) hc)
  refine e_ite h (fun _ h => ?_) (fun _ h => ?_)
  · exact ret_fi h hF
  refine ald_i h (fun i8 hi8 h => ?_)
  refine vl_g h (fun v9 h => ?_)
  refine vl_g h (fun v10 h => ?_)
  refine e_ite h (fun _ h => ?_) (fun _ h => ?_)
  · refine ald_i h (fun i12 hi12 h => ?_)
    refine vl_g h (fun v13 h => ?_)
    refine vl_g h (fun v14 h => ?_)
    refine vl_s h (hF.sI (mem_ref ((rge_24 _ (wt_1_0 _ h_a0).1 _ hi12).trans ((rgf_1_0 _ h_a0).trans rfl)) hm_a0)) (fun s15 hF h => ?_)
    obtain ⟨s16, hc, h⟩ := bp_e h
    have hF := hF.trans (fr_X9_next (hLsub hL rfl) hc)
    exact ret_fi h hF
  obtain ⟨v17, s18, hc, h⟩ := bd_e h
  have hF := hF.trans (fr_X9_refuse (hLsub hL rfl) hc)
  refine rz_e h (fun _ h => ?_)
  exact ret_fi h hF

set_option maxHeartbeats 4000000 in
theorem fr_X1_readShip {R : List Nat} {N : Nat} {a0 : Nat} {s0 : St} {r : Int32} {sr : St} (h_a0 : sh a0 = 1) (hL : ∀ x ∈ ([1] : List Nat), x ∈ R) (hm_a0 : reg a0 ∈ R) (h : f_X1_readShip N a0 s0 = some (r, sr)) : Fr R s0 sr := by
  have hF : Fr R s0 s0 := Fr.rf
  unfold f_X1_readShip at h
  refine vl_g h (fun v1 h => ?_)
  refine e_ite h (fun _ h => ?_) (fun _ h => ?_)
  · obtain ⟨s2, hc, h⟩ := bp_e h
    have hF := hF.trans (fr_X9_next (hLsub hL rfl) hc)
    obtain ⟨v3, s4, hc, h⟩ := bd_e h
    have hF := hF.trans (fr_X1_atNewName h_a0 (hLsub hL rfl) hc)
    refine e_ite h (fun _ h => ?_) (fun _ h => ?_)
    · exact ret_fi h hF
    refine vl_g h (fun v5 h => ?_)
    refine ald_i h (fun i7 hi7 h => ?_)
    refine vl_g h (fun v8 h => ?_)
    refine vl_s h (hF.sL (mem_ref ((rge_25 _ (wt_1_1 _ h_a0).1 _ hi7).trans ((rgf_1_1 _ h_a0).trans rfl)) hm_a0)) (fun s9 hF h => ?_)
    obtain ⟨s10, hc, h⟩ := bp_e h
    have hF := hF.trans (fr_X9_next (hLsub hL rfl) hc)
    obtain ⟨v11, s12, hc, h⟩ := bd_e h
    have hF := hF.trans (fr_X9_takeNumber (hLsub hL rfl) hc)
    refine e_ite h (fun _ h => ?_) (fun _ h => ?_)
    · exact ret_fi h hF
    refine vl_g h (fun v13 h => ?_)
    refine vl_s h (hF.sI (mem_ref ((rge_25 _ (wt_1_1 _ h_a0).1 _ hi7).trans ((rgf_1_1 _ h_a0).trans rfl)) hm_a0)) (fun s14 hF h => ?_)
    obtain ⟨v15, s16, hc, h⟩ := bd_e h
    have hF := hF.trans (fr_X9_takeNumber (hLsub hL rfl) hc)
    refine e_ite h (fun _ h => ?_) (fun _ h => ?_)
    · exact ret_fi h hF
    refine vl_g h (fun v17 h => ?_)
    refine vl_s h (hF.sI (mem_ref ((rge_25 _ (wt_1_1 _ h_a0).1 _ hi7).trans ((rgf_1_1 _ h_a0).trans rfl)) hm_a0)) (fun s18 hF h => ?_)
    obtain ⟨v19, s20, hc, h⟩ := bd_e h
    have hF := hF.trans (fr_X9_takeNumber (hLsub hL rfl) hc)
    refine e_ite h (fun _ h => ?_) (fun _ h => ?_)
    · exact ret_fi h hF
    refine vl_g h (fun v21 h => ?_)
    refine vl_s h (hF.sI (mem_ref ((rge_25 _ (wt_1_1 _ h_a0).1 _ hi7).trans ((rgf_1_1 _ h_a0).trans rfl)) hm_a0)) (fun s22 hF h => ?_)
    obtain ⟨v23, s24, hc, h⟩ := bd_e h
    have hF := hF.trans (fr_X9_takeNumber (hLsub hL rfl) hc)
    refine e_ite h (fun _ h => ?_) (fun _ h => ?_)
    · exact ret_fi h hF
    refine vl_g h (fun v25 h => ?_)
    refine vl_s h (hF.sI (mem_ref ((rge_25 _ (wt_1_1 _ h_a0).1 _ hi7).trans ((rgf_1_1 _ h_a0).trans rfl)) hm_a0)) (fun s26 hF h => ?_)
    refine vl_g h (fun v27 h => ?_)
    refine vl_s h (hF.sI (mem_ref rfl hm_a0)) (fun s28 hF h => ?_)
    exact ret_fi h hF
  obtain ⟨v29, s30, hc, h⟩ := bd_e h
  have hF := hF.trans (fr_X9_refuse (hLsub hL rfl) hc)
  refine rz_e h (fun _ h => ?_)
  exact ret_fi h hF

set_option maxHeartbeats 4000000 in
theorem fr_X2_liveSeconds_L2 {R : List Nat} {N : Nat} {c1 : Nat} {c2 : Int32}  {s0 : St}  {r : Int32} {sr : St} (h_c1 : sh c1 = 6) (hL : ∀ x ∈ ([19] : List Nat), x ∈ R) (hm_c1 : reg c1 ∈ R)   : ∀ (n5 : Nat) (v3 : Int32) (s4 : St), Fr R s0 s4 → f_X2_liveSeconds_L2 N c1 c2 n5 v3 s4 = some (r, sr) → Fr R s0 sr := by
  intro n5
  induction n5 with
  | zero =>
    intro v3 s4 hF h
    rw [f_X2_liveSeconds_L2] at h; cases h
  | succ n5 ih6 =>
    intro v3 s4 hF h
    rw [f_X2_liveSeconds_L2] at h
    refine e_ite h (fun _ h => ?_) (fun _ h => ?_)
    · exact ret_fi h hF
    refine vl_g h (fun v7 h => ?_)
    refine e_ite h (fun _ h => ?_) (fun _ h => ?_)
    · exact ret_fi h hF
    obtain ⟨s8, hc, h⟩ := bp_e h
    have hF := hF.trans (fr_X2_act h_c1 (hLsub hL rfl) (mem_ref rfl hm_c1) hc)
    obtain ⟨s9, hc, h⟩ := bp_e h
    have hF := hF.trans (fr_X6_passOne h_c1 (hLsub hL rfl) (mem_ref rfl hm_c1) hc)
    refine vl_g h (fun v10 h => ?_)
    exact ih6 _ _ hF h

set_option maxHeartbeats 4000000 in
theorem fr_X2_liveSeconds {R : List Nat} {N : Nat} {a1 : Nat} {x2 : Int32} {s0 : St} {r : Int32} {sr : St} (h_a1 : sh a1 = 6) (hL : ∀ x ∈ ([19] : List Nat), x ∈ R) (hm_a1 : reg a1 ∈ R) (h : f_X2_liveSeconds N a1 x2 s0 = some (r, sr)) : Fr R s0 sr := by
  have hF : Fr R s0 s0 := Fr.rf
  unfold f_X2_liveSeconds at h
  exact fr_X2_liveSeconds_L2 h_a1 (hLsub hL rfl) (mem_ref rfl hm_a1)  _ _ _ hF h

set_option maxHeartbeats 4000000 in
theorem fr_X6_pass_L2 {R : List Nat} {N : Nat} {c1 : Nat} {c2 : Int32}  {s0 : St}  {r : Int32} {sr : St} (h_c1 : sh c1 = 6) (hL : ∀ x ∈ ([] : List Nat), x ∈ R) (hm_c1 : reg c1 ∈ R)   : ∀ (n5 : Nat) (v3 : Int32) (s4 : St), Fr R s0 s4 → f_X6_pass_L2 N c1 c2 n5 v3 s4 = some (r, sr) → Fr R s0 sr := by
  intro n5
  induction n5 with
  | zero =>
    intro v3 s4 hF h
    rw [f_X6_pass_L2] at h; cases h
  | succ n5 ih6 =>
    intro v3 s4 hF h
    rw [f_X6_pass_L2] at h
    refine e_ite h (fun _ h => ?_) (fun _ h => ?_)
    · exact ret_fi h hF
    refine vl_g h (fun v7 h => ?_)
    refine e_ite h (fun _ h => ?_) (fun _ h => ?_)
    · exact ret_fi h hF
    obtain ⟨s8, hc, h⟩ := bp_e h
    have hF := hF.trans (fr_X6_passOne h_c1 (hLsub hL rfl) (mem_ref rfl hm_c1) hc)
    refine vl_g h (fun v9 h => ?_)
    exact ih6 _ _ hF h

set_option maxHeartbeats 4000000 in
theorem fr_X6_pass {R : List Nat} {N : Nat} {a0 : Nat} {x1 : Int32} {s0 : St} {r : Int32} {sr : St} (h_a0 : sh a0 = 6) (hL : ∀ x ∈ ([] : List Nat), x ∈ R) (hm_a0 : reg a0 ∈ R) (h : f_X6_pass N a0 x1 s0 = some (r, sr)) : Fr R s0 sr := by
  have hF : Fr R s0 s0 := Fr.rf
  unfold f_X6_pass at h
  exact fr_X6_pass_L2 h_a0 (hLsub hL rfl) (mem_ref rfl hm_a0)  _ _ _ hF h

set_option maxHeartbeats 4000000 in
theorem fr_X6_passAll_L16 {R : List Nat} {N : Nat} {c2 : Nat} {c3 : Int32}  {s0 : St}  {r : Int32} {sr : St} (h_c2 : sh c2 = 6) (hL : ∀ x ∈ ([] : List Nat), x ∈ R) (hm_c2 : reg c2 ∈ R)   : ∀ (n6 : Nat) (v4 : Int32) (s5 : St), Fr R s0 s5 → f_X6_passAll_L16 N c2 c3 n6 v4 s5 = some (r, sr) → Fr R s0 sr := by
  intro n6
  induction n6 with
  | zero =>
    intro v4 s5 hF h
    rw [f_X6_passAll_L16] at h; cases h
  | succ n6 ih7 =>
    intro v4 s5 hF h
    rw [f_X6_passAll_L16] at h
    refine e_ite h (fun _ h => ?_) (fun _ h => ?_)
    · exact ret_fi h hF
    obtain ⟨s8, hc, h⟩ := bp_e h
    have hF := hF.trans (fr_X6_passOne h_c2 (hLsub hL rfl) (mem_ref rfl hm_c2) hc)
    refine vl_g h (fun v9 h => ?_)
    exact ih7 _ _ hF h

set_option maxHeartbeats 4000000 in
theorem fr_X6_passAll {R : List Nat} {N : Nat} {a0 : Nat} {x1 : Int32} {s0 : St} {r : Int32} {sr : St} (h_a0 : sh a0 = 6) (hL : ∀ x ∈ ([] : List Nat), x ∈ R) (hm_a0 : reg a0 ∈ R) (h : f_X6_passAll N a0 x1 s0 = some (r, sr)) : Fr R s0 sr := by
  have hF : Fr R s0 s0 := Fr.rf
  unfold f_X6_passAll at h
  refine vl_g h (fun v1 h => ?_)
  refine e_ite h (fun _ h => ?_) (fun _ h => ?_)
  · exact fr_X6_passAll_L16 h_a0 (hLsub hL rfl) (mem_ref rfl hm_a0)  _ _ _ hF h
  exact ret_fi h hF

set_option maxHeartbeats 4000000 in
theorem fr_X7_readCondition_L15 {R : List Nat} {N : Nat} {rec : Nat → Int32 → St → Option (Int32 × St)} (hrecF : ∀ {R : List Nat} (a : Nat) (v : Int32) (s : St) (r : Int32) (s1 : St), sh a = 7 → rec a v s = some (r, s1) → 1 ∈ R → reg a ∈ R → Fr R s s1) {c3 : Nat} {c4 : Int32}  {s0 : St}  {r : Int32} {sr : St} (h_c3 : sh c3 = 7) (hL : ∀ x ∈ ([1] : List Nat), x ∈ R) (hm_c3 : reg c3 ∈ R)   : ∀ (n7 : Nat) (v5 : Int32) (s6 : St), Fr R s0 s6 → f_X7_readCondition_L15 N rec c3 c4 n7 v5 s6 = some (r, sr) → Fr R s0 sr := by
  intro n7
  induction n7 with
  | zero =>
    intro v5 s6 hF h
    rw [f_X7_readCondition_L15] at h; cases h
  | succ n7 ih8 =>
    intro v5 s6 hF h
    rw [f_X7_readCondition_L15] at h
    refine e_ite h (fun _ h => ?_) (fun _ h => ?_)
    · exact ret_fi h hF
    refine bp_g h (fun v9 h => ?_)
    refine e_ite h (fun _ h => ?_) (fun _ h => ?_)
    · exact ret_fi h hF
    obtain ⟨s10, hc, h⟩ := bp_e h
    have hF := hF.trans (fr_X9_next (hLsub hL rfl) hc)
    obtain ⟨v11, s12, hc, h⟩ := bd_e h
    have hF := hF.trans (fr_X7_readAll hrecF h_c3 (hLsub hL rfl) (mem_ref rfl hm_c3) hc)
    refine e_ite h (fun _ h => ?_) (fun _ h => ?_)
    · exact ret_fi h hF
    obtain ⟨v13, s14, hc, h⟩ := bd_e h
    have hF := hF.trans (fr_X7_add h_c3 (hLsub hL rfl) (mem_ref rfl hm_c3) hc)
    refine vl_g h (fun v15 h => ?_)
    exact ih8 _ _ hF h

set_option maxHeartbeats 4000000 in
theorem fr_X7_readCondition {R : List Nat} {N : Nat} {rec : Nat → Int32 → St → Option (Int32 × St)} (hrecF : ∀ {R : List Nat} (a : Nat) (v : Int32) (s : St) (r : Int32) (s1 : St), sh a = 7 → rec a v s = some (r, s1) → 1 ∈ R → reg a ∈ R → Fr R s s1) {a0 : Nat} {x3 : Int32} {s0 : St} {r : Int32} {sr : St} (h_a0 : sh a0 = 7) (hL : ∀ x ∈ ([1] : List Nat), x ∈ R) (hm_a0 : reg a0 ∈ R) (h : f_X7_readCondition N rec a0 x3 s0 = some (r, sr)) : Fr R s0 sr := by
  have hF : Fr R s0 s0 := Fr.rf
  unfold f_X7_readCondition at h
  obtain ⟨v1, s2, hc, h⟩ := bd_e h
  have hF := hF.trans (fr_X7_readAll hrecF h_a0 (hLsub hL rfl) (mem_ref rfl hm_a0) hc)
  refine e_ite h (fun _ h => ?_) (fun _ h => ?_)
  · exact ret_fi h hF
  exact fr_X7_readCondition_L15 hrecF h_a0 (hLsub hL rfl) (mem_ref rfl hm_a0)  _ _ _ hF h

set_option maxHeartbeats 4000000 in
theorem fr_X7_readPlain {R : List Nat} {N : Nat} {a0 : Nat} {x3 : Int32} {s0 : St} {r : Int32} {sr : St} (h_a0 : sh a0 = 7) (hL : ∀ x ∈ ([1] : List Nat), x ∈ R) (hm_a0 : reg a0 ∈ R) (h : f_X7_readPlain N a0 x3 s0 = some (r, sr)) : Fr R s0 sr := by
  have hF : Fr R s0 s0 := Fr.rf
  unfold f_X7_readPlain at h
  refine e_ite h (fun _ h => ?_) (fun _ h => ?_)
  · obtain ⟨v1, s2, hc, h⟩ := bd_e h
    have hF := hF.trans (fr_X7_add h_a0 (hLsub hL rfl) (mem_ref rfl hm_a0) hc)
    refine rz_e h (fun _ h => ?_)
    exact ret_fi h hF
  refine e_ite h (fun _ h => ?_) (fun _ h => ?_)
  · obtain ⟨v3, s4, hc, h⟩ := bd_e h
    have hF := hF.trans (fr_X7_add h_a0 (hLsub hL rfl) (mem_ref rfl hm_a0) hc)
    refine rz_e h (fun _ h => ?_)
    exact ret_fi h hF
  refine e_ite h (fun _ h => ?_) (fun _ h => ?_)
  · obtain ⟨v5, s6, hc, h⟩ := bd_e h
    have hF := hF.trans (fr_X7_add h_a0 (hLsub hL rfl) (mem_ref rfl hm_a0) hc)
    refine rz_e h (fun _ h => ?_)
    exact ret_fi h hF
  refine e_ite h (fun _ h => ?_) (fun _ h => ?_)
  · obtain ⟨v7, s8, hc, h⟩ := bd_e h
    have hF := hF.trans (fr_X1_lightAt shq_3 (hLsub hL rfl) hc)
    obtain ⟨v9, s10, hc, h⟩ := bd_e h
    have hF := hF.trans (fr_X7_readNamed h_a0 (hLsub hL rfl) (mem_ref rfl hm_a0) hc)
    refine rz_e h (fun _ h => ?_)
    exact ret_fi h hF
  refine e_ite h (fun _ h => ?_) (fun _ h => ?_)
  · obtain ⟨v11, s12, hc, h⟩ := bd_e h
    have hF := hF.trans (fr_X1_shipAt shq_3 (hLsub hL rfl) hc)
    obtain ⟨v13, s14, hc, h⟩ := bd_e h
    have hF := hF.trans (fr_X7_readNamed h_a0 (hLsub hL rfl) (mem_ref rfl hm_a0) hc)
    refine rz_e h (fun _ h => ?_)
    exact ret_fi h hF
  obtain ⟨v15, s16, hc, h⟩ := bd_e h
  have hF := hF.trans (fr_X7_readMeasure h_a0 (hLsub hL rfl) (mem_ref rfl hm_a0) hc)
  refine rz_e h (fun _ h => ?_)
  exact ret_fi h hF

set_option maxHeartbeats 4000000 in
theorem fr_X7_saidOf_L4 {R : List Nat} {N : Nat} {c1 : Nat} {c2 : Nat} {k6 : Int32 → St → Option (Int32 × St)} {s0 : St}  {r : Int32} {sr : St} (h_c1 : sh c1 = 7) (h_c2 : sh c2 = 6) (hL : ∀ x ∈ ([] : List Nat), x ∈ R) (hm_c1 : reg c1 ∈ R) (hk6 : ∀ (v7 : Int32) (s8 : St), Fr R s0 s8 → k6 v7 s8 = some (r, sr) → Fr R s0 sr)  : ∀ (n9 : Nat) (v3 : Int32) (v4 : Int32) (s5 : St), Fr R s0 s5 → f_X7_saidOf_L4 N c1 c2 k6 n9 v3 v4 s5 = some (r, sr) → Fr R s0 sr := by
  intro n9
  induction n9 with
  | zero =>
    intro v3 v4 s5 hF h
    rw [f_X7_saidOf_L4] at h; cases h
  | succ n9 ih10 =>
    intro v3 v4 s5 hF h
    rw [f_X7_saidOf_L4] at h
    refine vl_g h (fun v11 h => ?_)
    refine e_ite h (fun _ h => ?_) (fun _ h => ?_)
    · exact hk6 _ _ hF h
    refine ald_g h (fun v12 h => ?_)
    refine jn_e (fun j => ∀ (v13 : Int32) (s14 : St), Fr R s0 s14 → j v13 s14 = some (r, sr) → Fr R s0 sr) h ?_ (fun j15 hj15 h => ?_)
    · intro v13 s14 hF h
      refine vl_g h (fun v16 h => ?_)
      exact ih10 _ _ _ hF h
    refine jn_e (fun j => j = some (r, sr) → Fr R s0 sr) h ?_ (fun j17 hj17 h => ?_)
    · intro h
      refine jn_e (fun j => j = some (r, sr) → Fr R s0 sr) h ?_ (fun j18 hj18 h => ?_)
      · intro h
        refine jn_e (fun j => j = some (r, sr) → Fr R s0 sr) h ?_ (fun j19 hj19 h => ?_)
        · intro h
          refine e_ite h (fun _ h => ?_) (fun _ h => ?_)
          · exact hj15 _ _ hF h
          refine bp_g h (fun v20 h => ?_)
          refine ald_s h (fun _ => hF.sI (mem_ref ((rgf_7_5 _ h_c1).trans rfl) hm_c1)) (fun s21 hF h => ?_)
          refine vl_g h (fun v22 h => ?_)
          exact hj15 _ _ hF h
        refine e_ite h (fun _ h => ?_) (fun _ h => ?_)
        · refine e_ite h (fun _ h => ?_) (fun _ h => ?_)
          · exact hj19 h
          refine ald_g h (fun v23 h => ?_)
          refine ald_g h (fun v24 h => ?_)
          refine ald_s h (fun _ => hF.sI (mem_ref ((rgf_7_5 _ h_c1).trans rfl) hm_c1)) (fun s25 hF h => ?_)
          refine vl_g h (fun v26 h => ?_)
          exact hj15 _ _ hF h
        exact hj19 h
      refine e_ite h (fun _ h => ?_) (fun _ h => ?_)
      · refine e_ite h (fun _ h => ?_) (fun _ h => ?_)
        · exact hj18 h
        refine ald_g h (fun v27 h => ?_)
        refine ald_g h (fun v28 h => ?_)
        refine ald_s h (fun _ => hF.sI (mem_ref ((rgf_7_5 _ h_c1).trans rfl) hm_c1)) (fun s29 hF h => ?_)
        refine vl_g h (fun v30 h => ?_)
        exact hj15 _ _ hF h
      exact hj18 h
    refine e_ite h (fun _ h => ?_) (fun _ h => ?_)
    · refine e_ite h (fun _ h => ?_) (fun _ h => ?_)
      · exact hj17 h
      refine bp_g h (fun v31 h => ?_)
      refine ald_g h (fun v32 h => ?_)
      refine ald_s h (fun _ => hF.sI (mem_ref ((rgf_7_5 _ h_c1).trans rfl) hm_c1)) (fun s33 hF h => ?_)
      exact hj15 _ _ hF h
    exact hj17 h

set_option maxHeartbeats 4000000 in
theorem fr_X7_saidOf {R : List Nat} {N : Nat} {a0 : Nat} {a1 : Nat} {s0 : St} {r : Int32} {sr : St} (h_a0 : sh a0 = 7) (h_a1 : sh a1 = 6) (hL : ∀ x ∈ ([] : List Nat), x ∈ R) (hm_a0 : reg a0 ∈ R) (h : f_X7_saidOf N a0 a1 s0 = some (r, sr)) : Fr R s0 sr := by
  have hF : Fr R s0 s0 := Fr.rf
  unfold f_X7_saidOf at h
  refine fr_X7_saidOf_L4 h_a0 h_a1 (hLsub hL rfl) (mem_ref rfl hm_a0) (fun v34 s35 hF h => ?_) _ _ _ _ hF h
  refine e_ite h (fun _ h => ?_) (fun _ h => ?_)
  · exact ret_fi h hF
  refine ald_g h (fun v36 h => ?_)
  exact ret_fi h hF

set_option maxHeartbeats 4000000 in
theorem fr_X11_seconds {R : List Nat} {N : Nat} {x1 : Int32} {s0 : St} {r : Int32} {sr : St}  (hL : ∀ x ∈ ([4, 9, 10, 11, 12, 13, 14, 15, 16, 17, 18] : List Nat), x ∈ R)  (h : f_X11_seconds N x1 s0 = some (r, sr)) : Fr R s0 sr := by
  have hF : Fr R s0 s0 := Fr.rf
  unfold f_X11_seconds at h
  refine e_ite h (fun _ h => ?_) (fun _ h => ?_)
  · exact ret_fi h hF
  refine e_ite h (fun _ h => ?_) (fun _ h => ?_)
  · obtain ⟨s1, hc, h⟩ := bp_e h
    have hF := hF.trans (fr_X5_mark shq_49 (hLsub hL rfl) hc)
    obtain ⟨v2, s3, hc, h⟩ := bd_e h
    have hF := hF.trans (fr_X6_pass shq_49 (hLsub hL rfl) (mem_lit rgq_49 hL rfl) hc)
    obtain ⟨v4, s5, hc, h⟩ := bd_e h
    have hF := hF.trans (fr_X11_keepIfAny (hLsub hL rfl) hc)
    exact ret_fi h hF
  exact ret_fi h hF

set_option maxHeartbeats 4000000 in
theorem fr_X11_fits {R : List Nat} {N : Nat}  {s0 : St} {r : Int32} {sr : St}  (hL : ∀ x ∈ ([0, 1] : List Nat), x ∈ R)  (h : f_X11_fits N  s0 = some (r, sr)) : Fr R s0 sr := by
  have hF : Fr R s0 s0 := Fr.rf
  unfold f_X11_fits at h
  refine bp_g h (fun v1 h => ?_)
  refine jn_e (fun j => ∀ (v2 : Int32), j v2 = some (r, sr) → Fr R s0 sr) h ?_ (fun j3 hj3 h => ?_)
  · intro v2 h
    refine jn_e (fun j => ∀ (s4 : St), Fr R s0 s4 → j s4 = some (r, sr) → Fr R s0 sr) h ?_ (fun j5 hj5 h => ?_)
    · intro s4 hF h
      refine vl_s h (hF.sI (mem_lit rgq_1 hL rfl)) (fun s6 hF h => ?_)
      exact ret_fi h hF
    refine e_ite h (fun _ h => ?_) (fun _ h => ?_)
    · exact hj5 _ hF h
    obtain ⟨s7, hc, h⟩ := bp_e h
    have hF := hF.trans (fr_X11_keepFits (hLsub hL rfl) hc)
    exact hj5 _ hF h
  refine e_ite h (fun _ h => ?_) (fun _ h => ?_)
  · exact hj3 _ h
  refine bp_g h (fun v8 h => ?_)
  exact hj3 _ h

set_option maxHeartbeats 4000000 in
theorem fr_X11_drawn {R : List Nat} {N : Nat} {x1 : Int32} {x2 : Int32} {s0 : St} {r : Int32} {sr : St}  (hL : ∀ x ∈ ([4, 9, 10, 11, 12, 13, 14, 15, 16, 17, 18, 19] : List Nat), x ∈ R)  (h : f_X11_drawn N x1 x2 s0 = some (r, sr)) : Fr R s0 sr := by
  have hF : Fr R s0 s0 := Fr.rf
  unfold f_X11_drawn at h
  refine e_ite h (fun _ h => ?_) (fun _ h => ?_)
  · exact ret_fi h hF
  refine e_ite h (fun _ h => ?_) (fun _ h => ?_)
  · obtain ⟨s1, hc, h⟩ := bp_e h
    have hF := hF.trans (fr_X5_mark shq_49 (hLsub hL rfl) hc)
    obtain ⟨s2, hc, h⟩ := bp_e h
    have hF := hF.trans (fr_X2_begin (hLsub hL rfl) hc)
    obtain ⟨v3, s4, hc, h⟩ := bd_e h
    have hF := hF.trans (fr_X2_liveSeconds shq_49 (hLsub hL rfl) (mem_lit rgq_49 hL rfl) hc)
    obtain ⟨v5, s6, hc, h⟩ := bd_e h
    have hF := hF.trans (fr_X11_keepIfAny (hLsub hL rfl) hc)
    exact ret_fi h hF
  exact ret_fi h hF

set_option maxHeartbeats 4000000 in
theorem fr_X11_odds_L27 {R : List Nat} {N : Nat} {c2 : Int32} {c3 : Int32} {c4 : Int32}  {s0 : St}  {r : Int32} {sr : St}  (hL : ∀ x ∈ ([5, 19] : List Nat), x ∈ R)    : ∀ (n8 : Nat) (v5 : Int32) (v6 : Int32) (s7 : St), Fr R s0 s7 → f_X11_odds_L27 N c2 c3 c4 n8 v5 v6 s7 = some (r, sr) → Fr R s0 sr := by
  intro n8
  induction n8 with
  | zero =>
    intro v5 v6 s7 hF h
    rw [f_X11_odds_L27] at h; cases h
  | succ n8 ih9 =>
    intro v5 v6 s7 hF h
    rw [f_X11_odds_L27] at h
    refine e_ite h (fun _ h => ?_) (fun _ h => ?_)
    · exact ret_fi h hF
    obtain ⟨s10, hc, h⟩ := bp_e h
    have hF := hF.trans (fr_X6_copyFrom shq_55 shq_49 (hLsub hL rfl) (mem_lit rgq_55 hL rfl) hc)
    obtain ⟨s11, hc, h⟩ := bp_e h
    have hF := hF.trans (fr_X2_begin (hLsub hL rfl) hc)
    obtain ⟨v12, s13, hc, h⟩ := bd_e h
    have hF := hF.trans (fr_X2_liveSeconds shq_55 (hLsub hL rfl) (mem_lit rgq_55 hL rfl) hc)
    refine bp_g h (fun v14 h => ?_)
    refine jn_e (fun j => ∀ (v15 : Int32), j v15 = some (r, sr) → Fr R s0 sr) h ?_ (fun j16 hj16 h => ?_)
    · intro v15 h
      refine vl_g h (fun v17 h => ?_)
      exact ih9 _ _ _ hF h
    refine e_ite h (fun _ h => ?_) (fun _ h => ?_)
    · exact hj16 _ h
    refine vl_g h (fun v18 h => ?_)
    exact hj16 _ h

set_option maxHeartbeats 4000000 in
theorem fr_X11_odds {R : List Nat} {N : Nat} {x1 : Int32} {x2 : Int32} {x3 : Int32} {s0 : St} {r : Int32} {sr : St}  (hL : ∀ x ∈ ([5, 19] : List Nat), x ∈ R)  (h : f_X11_odds N x1 x2 x3 s0 = some (r, sr)) : Fr R s0 sr := by
  have hF : Fr R s0 s0 := Fr.rf
  unfold f_X11_odds at h
  refine bp_g h (fun v1 h => ?_)
  refine e_ite h (fun _ h => ?_) (fun _ h => ?_)
  · exact ret_fi h hF
  refine e_ite h (fun _ h => ?_) (fun _ h => ?_)
  · exact ret_fi h hF
  refine e_ite h (fun _ h => ?_) (fun _ h => ?_)
  · exact fr_X11_odds_L27 (hLsub hL rfl)  _ _ _ _ hF h
  exact ret_fi h hF

set_option maxHeartbeats 4000000 in
theorem fr_X11_said {R : List Nat} {N : Nat} {x1 : Int32} {s0 : St} {r : Int32} {sr : St}  (hL : ∀ x ∈ ([6] : List Nat), x ∈ R)  (h : f_X11_said N x1 s0 = some (r, sr)) : Fr R s0 sr := by
  have hF : Fr R s0 s0 := Fr.rf
  unfold f_X11_said at h
  refine vl_g h (fun v1 h => ?_)
  refine e_ite h (fun _ h => ?_) (fun _ h => ?_)
  · exact ret_fi h hF
  refine e_ite h (fun _ h => ?_) (fun _ h => ?_)
  · obtain ⟨v2, s3, hc, h⟩ := bd_e h
    have hF := hF.trans (fr_X7_saidOf shq_61 shq_49 (hLsub hL rfl) (mem_lit rgq_61 hL rfl) hc)
    refine e_ite h (fun _ h => ?_) (fun _ h => ?_)
    · refine bp_g h (fun v4 h => ?_)
      exact ret_fi h hF
    refine bp_g h (fun v5 h => ?_)
    exact ret_fi h hF
  exact ret_fi h hF

set_option maxHeartbeats 4000000 in
theorem fr_X0_readLine {R : List Nat} {N : Nat}  {s0 : St} {r : Int32} {sr : St}  (hL : ∀ x ∈ ([1, 8] : List Nat), x ∈ R)  (h : f_X0_readLine N  s0 = some (r, sr)) : Fr R s0 sr := by
  have hF : Fr R s0 s0 := Fr.rf
  unfold f_X0_readLine at h
  refine bp_g h (fun v1 h => ?_)
  refine e_ite h (fun _ h => ?_) (fun _ h => ?_)
  · obtain ⟨v2, s3, hc, h⟩ := bd_e h
    have hF := hF.trans (fr_X9_refuse (hLsub hL rfl) hc)
    refine rz_e h (fun _ h => ?_)
    exact ret_fi h hF
  refine vl_g h (fun v4 h => ?_)
  refine e_ite h (fun _ h => ?_) (fun _ h => ?_)
  · obtain ⟨s5, hc, h⟩ := bp_e h
    have hF := hF.trans (fr_X9_next (hLsub hL rfl) hc)
    refine vl_g h (fun v6 h => ?_)
    refine ald_s h (fun _ => hF.sI (mem_lit rgq_72 hL rfl)) (fun s7 hF h => ?_)
    obtain ⟨v8, s9, hc, h⟩ := bd_e h
    have hF := hF.trans (fr_X0_readWhom (hLsub hL rfl) hc)
    refine jn_e (fun j => ∀ (s10 : St), Fr R s0 s10 → j s10 = some (r, sr) → Fr R s0 sr) h ?_ (fun j11 hj11 h => ?_)
    · intro s10 hF h
      exact ret_fi h hF
    refine e_ite h (fun _ h => ?_) (fun _ h => ?_)
    · exact hj11 _ hF h
    obtain ⟨v12, s13, hc, h⟩ := bd_e h
    have hF := hF.trans (fr_X0_readAmount (hLsub hL rfl) hc)
    refine e_ite h (fun _ h => ?_) (fun _ h => ?_)
    · exact hj11 _ hF h
    exact ret_fi h hF
  obtain ⟨v14, s15, hc, h⟩ := bd_e h
  have hF := hF.trans (fr_X9_refuse (hLsub hL rfl) hc)
  refine rz_e h (fun _ h => ?_)
  exact ret_fi h hF

set_option maxHeartbeats 4000000 in
theorem fr_X0_liveLine {R : List Nat} {N : Nat} {a1 : Nat} {x2 : Int32} {s0 : St} {r : Int32} {sr : St} (h_a1 : sh a1 = 6) (hL : ∀ x ∈ ([] : List Nat), x ∈ R) (hm_a1 : reg a1 ∈ R) (h : f_X0_liveLine N a1 x2 s0 = some (r, sr)) : Fr R s0 sr := by
  have hF : Fr R s0 s0 := Fr.rf
  unfold f_X0_liveLine at h
  refine ald_g h (fun v1 h => ?_)
  refine ald_g h (fun v2 h => ?_)
  refine ald_g h (fun v3 h => ?_)
  refine e_ite h (fun _ h => ?_) (fun _ h => ?_)
  · obtain ⟨v4, s5, hc, h⟩ := bd_e h
    have hF := hF.trans (fr_X6_putOut h_a1 (hLsub hL rfl) (mem_ref rfl hm_a1) hc)
    refine bp_g h (fun v6 h => ?_)
    exact ret_fi h hF
  refine e_ite h (fun _ h => ?_) (fun _ h => ?_)
  · obtain ⟨v7, s8, hc, h⟩ := bd_e h
    have hF := hF.trans (fr_X6_relight h_a1 (hLsub hL rfl) (mem_ref rfl hm_a1) hc)
    refine bp_g h (fun v9 h => ?_)
    exact ret_fi h hF
  refine e_ite h (fun _ h => ?_) (fun _ h => ?_)
  · obtain ⟨v10, s11, hc, h⟩ := bd_e h
    have hF := hF.trans (fr_X6_pourInto h_a1 (hLsub hL rfl) (mem_ref rfl hm_a1) hc)
    refine bp_g h (fun v12 h => ?_)
    exact ret_fi h hF
  refine e_ite h (fun _ h => ?_) (fun _ h => ?_)
  · obtain ⟨v13, s14, hc, h⟩ := bd_e h
    have hF := hF.trans (fr_X6_moveOn h_a1 (hLsub hL rfl) (mem_ref rfl hm_a1) hc)
    refine bp_g h (fun v15 h => ?_)
    exact ret_fi h hF
  refine e_ite h (fun _ h => ?_) (fun _ h => ?_)
  · obtain ⟨v16, s17, hc, h⟩ := bd_e h
    have hF := hF.trans (fr_X6_turn h_a1 (hLsub hL rfl) (mem_ref rfl hm_a1) hc)
    refine bp_g h (fun v18 h => ?_)
    exact ret_fi h hF
  refine e_ite h (fun _ h => ?_) (fun _ h => ?_)
  · obtain ⟨v19, s20, hc, h⟩ := bd_e h
    have hF := hF.trans (fr_X6_setHaze h_a1 (hLsub hL rfl) (mem_ref rfl hm_a1) hc)
    refine bp_g h (fun v21 h => ?_)
    exact ret_fi h hF
  obtain ⟨v22, s23, hc, h⟩ := bd_e h
  have hF := hF.trans (fr_X6_passAll h_a1 (hLsub hL rfl) (mem_ref rfl hm_a1) hc)
  refine bp_g h (fun v24 h => ?_)
  exact ret_fi h hF

set_option maxHeartbeats 4000000 in
theorem fr_X1_readLine {R : List Nat} {N : Nat} {a0 : Nat} {s0 : St} {r : Int32} {sr : St} (h_a0 : sh a0 = 1) (hL : ∀ x ∈ ([1] : List Nat), x ∈ R) (hm_a0 : reg a0 ∈ R) (h : f_X1_readLine N a0 s0 = some (r, sr)) : Fr R s0 sr := by
  have hF : Fr R s0 s0 := Fr.rf
  unfold f_X1_readLine at h
  refine bp_g h (fun v1 h => ?_)
  refine e_ite h (fun _ h => ?_) (fun _ h => ?_)
  · refine bp_g h (fun v2 h => ?_)
    refine e_ite h (fun _ h => ?_) (fun _ h => ?_)
    · refine bp_g h (fun v3 h => ?_)
      refine e_ite h (fun _ h => ?_) (fun _ h => ?_)
      · refine bp_g h (fun v4 h => ?_)
        refine e_ite h (fun _ h => ?_) (fun _ h => ?_)
        · refine bp_g h (fun v5 h => ?_)
          refine e_ite h (fun _ h => ?_) (fun _ h => ?_)
          · refine bp_g h (fun v6 h => ?_)
            refine e_ite h (fun _ h => ?_) (fun _ h => ?_)
            · obtain ⟨v7, s8, hc, h⟩ := bd_e h
              have hF := hF.trans (fr_X9_refuse (hLsub hL rfl) hc)
              refine rz_e h (fun _ h => ?_)
              exact ret_fi h hF
            obtain ⟨v9, s10, hc, h⟩ := bd_e h
            have hF := hF.trans (fr_X1_readHaze h_a0 (hLsub hL rfl) (mem_ref rfl hm_a0) hc)
            refine rz_e h (fun _ h => ?_)
            exact ret_fi h hF
          obtain ⟨v11, s12, hc, h⟩ := bd_e h
          have hF := hF.trans (fr_X1_readShip h_a0 (hLsub hL rfl) (mem_ref rfl hm_a0) hc)
          refine rz_e h (fun _ h => ?_)
          exact ret_fi h hF
        obtain ⟨v13, s14, hc, h⟩ := bd_e h
        have hF := hF.trans (fr_X1_readDark h_a0 (hLsub hL rfl) (mem_ref rfl hm_a0) hc)
        refine rz_e h (fun _ h => ?_)
        exact ret_fi h hF
      obtain ⟨v15, s16, hc, h⟩ := bd_e h
      have hF := hF.trans (fr_X1_readFrom h_a0 (hLsub hL rfl) (mem_ref rfl hm_a0) hc)
      refine rz_e h (fun _ h => ?_)
      exact ret_fi h hF
    obtain ⟨v17, s18, hc, h⟩ := bd_e h
    have hF := hF.trans (fr_X1_readFlash h_a0 (hLsub hL rfl) (mem_ref rfl hm_a0) hc)
    refine rz_e h (fun _ h => ?_)
    exact ret_fi h hF
  obtain ⟨v19, s20, hc, h⟩ := bd_e h
  have hF := hF.trans (fr_X1_readLight h_a0 (hLsub hL rfl) (mem_ref rfl hm_a0) hc)
  refine rz_e h (fun _ h => ?_)
  exact ret_fi h hF

set_option maxHeartbeats 4000000 in
theorem fr_X7_readOne {R : List Nat} {N : Nat} {rec : Nat → Int32 → St → Option (Int32 × St)} (hrecF : ∀ {R : List Nat} (a : Nat) (v : Int32) (s : St) (r : Int32) (s1 : St), sh a = 7 → rec a v s = some (r, s1) → 1 ∈ R → reg a ∈ R → Fr R s s1) {a0 : Nat} {x3 : Int32} {s0 : St} {r : Int32} {sr : St} (h_a0 : sh a0 = 7) (hL : ∀ x ∈ ([1] : List Nat), x ∈ R) (hm_a0 : reg a0 ∈ R) (h : f_X7_readOne N rec a0 x3 s0 = some (r, sr)) : Fr R s0 sr := by
  have hF : Fr R s0 s0 := Fr.rf
  unfold f_X7_readOne at h
  refine bp_g h (fun v1 h => ?_)
  refine bp_g h (fun v2 h => ?_)
  refine jn_e (fun j => j = some (r, sr) → Fr R s0 sr) h ?_ (fun j3 hj3 h => ?_)
  · intro h
    refine vl_g h (fun v4 h => ?_)
    refine jn_e (fun j => j = some (r, sr) → Fr R s0 sr) h ?_ (fun j5 hj5 h => ?_)
    · intro h
      obtain ⟨v6, s7, hc, h⟩ := bd_e h
      have hF := hF.trans (fr_X9_refuse (hLsub hL rfl) hc)
      refine rz_e h (fun _ h => ?_)
      exact ret_fi h hF
    refine e_ite h (fun _ h => ?_) (fun _ h => ?_)
    · exact hj5 h
    refine e_ite h (fun _ h => ?_) (fun _ h => ?_)
    · refine vl_g h (fun v8 h => ?_)
      refine vl_s h (hF.sI (mem_ref rfl hm_a0)) (fun s9 hF h => ?_)
      obtain ⟨s10, hc, h⟩ := bp_e h
      have hF := hF.trans (fr_X9_next (hLsub hL rfl) hc)
      refine e_ite h (fun _ h => ?_) (fun _ h => ?_)
      · refine e_ite h (fun _ h => ?_) (fun _ h => ?_)
        · obtain ⟨v11, s12, hc, h⟩ := bd_e h
          have hF := hF.trans (hrecF _ _ _ _ _ h_a0 hc (hL 1 (by decide)) (mem_ref rfl hm_a0))
          refine jn_e (fun j => ∀ (s13 : St), Fr R s0 s13 → j s13 = some (r, sr) → Fr R s0 sr) h ?_ (fun j14 hj14 h => ?_)
          · intro s13 hF h
            exact ret_fi h hF
          refine e_ite h (fun _ h => ?_) (fun _ h => ?_)
          · exact hj14 _ hF h
          obtain ⟨v15, s16, hc, h⟩ := bd_e h
          have hF := hF.trans (fr_X7_add h_a0 (hLsub hL rfl) (mem_ref rfl hm_a0) hc)
          refine e_ite h (fun _ h => ?_) (fun _ h => ?_)
          · exact hj14 _ hF h
          exact ret_fi h hF
        obtain ⟨v17, s18, hc, h⟩ := bd_e h
        have hF := hF.trans (fr_X7_readPlain h_a0 (hLsub hL rfl) (mem_ref rfl hm_a0) hc)
        refine rz_e h (fun _ h => ?_)
        exact ret_fi h hF
      obtain ⟨v19, s20, hc, h⟩ := bd_e h
      have hF := hF.trans (fr_X7_readCondition hrecF h_a0 (hLsub hL rfl) (mem_ref rfl hm_a0) hc)
      refine jn_e (fun j => ∀ (s21 : St), Fr R s0 s21 → j s21 = some (r, sr) → Fr R s0 sr) h ?_ (fun j22 hj22 h => ?_)
      · intro s21 hF h
        exact ret_fi h hF
      refine e_ite h (fun _ h => ?_) (fun _ h => ?_)
      · exact hj22 _ hF h
      obtain ⟨v23, s24, hc, h⟩ := bd_e h
      have hF := hF.trans (fr_X9_takeSign (hLsub hL rfl) hc)
      refine e_ite h (fun _ h => ?_) (fun _ h => ?_)
      · exact hj22 _ hF h
      exact ret_fi h hF
    exact hj5 h
  refine e_ite h (fun _ h => ?_) (fun _ h => ?_)
  · refine e_ite h (fun _ h => ?_) (fun _ h => ?_)
    · obtain ⟨v25, s26, hc, h⟩ := bd_e h
      have hF := hF.trans (fr_X9_refuse (hLsub hL rfl) hc)
      refine rz_e h (fun _ h => ?_)
      exact ret_fi h hF
    exact hj3 h
  exact hj3 h

set_option maxHeartbeats 4000000 in
theorem fr_F_X7_readOne {N : Nat} : ∀ (k : Nat) {R : List Nat} (a : Nat) (v : Int32) (s : St) (r : Int32) (s1 : St), sh a = 7 → F_X7_readOne N k a v s = some (r, s1) → 1 ∈ R → reg a ∈ R → Fr R s s1 := by
  intro k
  induction k with
  | zero => intro R a v s r s1 _ h; rw [F_X7_readOne] at h; cases h
  | succ k ih =>
    intro R a v s r s1 ha h h1 h2
    rw [F_X7_readOne] at h
    exact fr_X7_readOne (fun a v s r s1 => ih a v s r s1) ha (fun x hx => by rw [List.mem_singleton.mp hx]; exact h1) h2 h

set_option maxHeartbeats 4000000 in
theorem fr_X0_read_L14 {R : List Nat} {N : Nat}  {k5 : St → Option (Int32 × St)} {s0 : St}  {r : Int32} {sr : St}  (hL : ∀ x ∈ ([1, 8] : List Nat), x ∈ R)  (hk5 : ∀ (s6 : St), Fr R s0 s6 → k5 s6 = some (r, sr) → Fr R s0 sr)  : ∀ (n7 : Nat) (v3 : Int32) (s4 : St), Fr R s0 s4 → f_X0_read_L14 N k5 n7 v3 s4 = some (r, sr) → Fr R s0 sr := by
  intro n7
  induction n7 with
  | zero =>
    intro v3 s4 hF h
    rw [f_X0_read_L14] at h; cases h
  | succ n7 ih8 =>
    intro v3 s4 hF h
    rw [f_X0_read_L14] at h
    refine e_ite h (fun _ h => ?_) (fun _ h => ?_)
    · exact hk5 _ hF h
    refine vl_g h (fun v9 h => ?_)
    refine e_ite h (fun _ h => ?_) (fun _ h => ?_)
    · exact hk5 _ hF h
    obtain ⟨v10, s11, hc, h⟩ := bd_e h
    have hF := hF.trans (fr_X0_readLine (hLsub hL rfl) hc)
    refine e_ite h (fun _ h => ?_) (fun _ h => ?_)
    · exact ret_fi h hF
    obtain ⟨v12, s13, hc, h⟩ := bd_e h
    have hF := hF.trans (fr_X9_takeSign (hLsub hL rfl) hc)
    refine e_ite h (fun _ h => ?_) (fun _ h => ?_)
    · exact ret_fi h hF
    refine vl_g h (fun v14 h => ?_)
    refine vl_s h (hF.sI (mem_lit rgq_71 hL rfl)) (fun s15 hF h => ?_)
    refine vl_g h (fun v16 h => ?_)
    exact ih8 _ _ hF h

set_option maxHeartbeats 4000000 in
theorem fr_X0_read {R : List Nat} {N : Nat}  {s0 : St} {r : Int32} {sr : St}  (hL : ∀ x ∈ ([1, 8] : List Nat), x ∈ R)  (h : f_X0_read N  s0 = some (r, sr)) : Fr R s0 sr := by
  have hF : Fr R s0 s0 := Fr.rf
  unfold f_X0_read at h
  obtain ⟨s1, hc, h⟩ := bp_e h
  have hF := hF.trans (fr_X9_open (hLsub hL rfl) hc)
  refine vl_s h (hF.sI (mem_lit rgq_71 hL rfl)) (fun s2 hF h => ?_)
  refine fr_X0_read_L14 (hLsub hL rfl) (fun s17 hF h => ?_) _ _ _ hF h
  obtain ⟨v18, s19, hc, h⟩ := bd_e h
  have hF := hF.trans (fr_X9_atEnd (hLsub hL rfl) hc)
  refine rz_e h (fun _ h => ?_)
  exact ret_fi h hF

set_option maxHeartbeats 4000000 in
theorem fr_X0_live_L10 {R : List Nat} {N : Nat} {c3 : Nat}  {s0 : St}  {sr : St} (h_c3 : sh c3 = 6) (hL : ∀ x ∈ ([8] : List Nat), x ∈ R) (hm_c3 : reg c3 ∈ R)   : ∀ (n5 : Nat) (s4 : St), Fr R s0 s4 → f_X0_live_L10 N c3 n5 s4 = some sr → Fr R s0 sr := by
  intro n5
  induction n5 with
  | zero =>
    intro s4 hF h
    rw [f_X0_live_L10] at h; cases h
  | succ n5 ih6 =>
    intro s4 hF h
    rw [f_X0_live_L10] at h
    refine vl_g h (fun v7 h => ?_)
    refine vl_g h (fun v8 h => ?_)
    refine e_ite h (fun _ h => ?_) (fun _ h => ?_)
    · exact ret_fv h hF
    refine vl_g h (fun v9 h => ?_)
    obtain ⟨v10, s11, hc, h⟩ := bd_e h
    have hF := hF.trans (fr_X0_liveLine h_c3 (hLsub hL rfl) (mem_ref rfl hm_c3) hc)
    refine vl_s h (hF.sI (mem_lit rgq_71 hL rfl)) (fun s12 hF h => ?_)
    refine vl_g h (fun v13 h => ?_)
    refine e_ite h (fun _ h => ?_) (fun _ h => ?_)
    · refine vl_g h (fun v14 h => ?_)
      refine vl_s h (hF.sI (mem_lit rgq_71 hL rfl)) (fun s15 hF h => ?_)
      exact ih6 _ hF h
    exact ret_fv h hF

set_option maxHeartbeats 4000000 in
theorem fr_X0_live {R : List Nat} {N : Nat} {a1 : Nat} {s0 : St} {sr : St} (h_a1 : sh a1 = 6) (hL : ∀ x ∈ ([8] : List Nat), x ∈ R) (hm_a1 : reg a1 ∈ R) (h : f_X0_live N a1 s0 = some sr) : Fr R s0 sr := by
  have hF : Fr R s0 s0 := Fr.rf
  unfold f_X0_live at h
  refine vl_s h (hF.sI (mem_lit rgq_71 hL rfl)) (fun s1 hF h => ?_)
  refine vl_s h (hF.sI (mem_lit rgq_71 hL rfl)) (fun s2 hF h => ?_)
  exact fr_X0_live_L10 h_a1 (hLsub hL rfl) (mem_ref rfl hm_a1)  _ _ hF h

set_option maxHeartbeats 4000000 in
theorem fr_X1_read_L33 {R : List Nat} {N : Nat} {c7 : Nat} {k9 : St → Option (Int32 × St)} {s0 : St}  {r : Int32} {sr : St} (h_c7 : sh c7 = 1) (hL : ∀ x ∈ ([1] : List Nat), x ∈ R) (hm_c7 : reg c7 ∈ R) (hk9 : ∀ (s10 : St), Fr R s0 s10 → k9 s10 = some (r, sr) → Fr R s0 sr)  : ∀ (n11 : Nat) (s8 : St), Fr R s0 s8 → f_X1_read_L33 N c7 k9 n11 s8 = some (r, sr) → Fr R s0 sr := by
  intro n11
  induction n11 with
  | zero =>
    intro s8 hF h
    rw [f_X1_read_L33] at h; cases h
  | succ n11 ih12 =>
    intro s8 hF h
    rw [f_X1_read_L33] at h
    refine vl_g h (fun v13 h => ?_)
    refine e_ite h (fun _ h => ?_) (fun _ h => ?_)
    · exact hk9 _ hF h
    refine vl_g h (fun v14 h => ?_)
    refine e_ite h (fun _ h => ?_) (fun _ h => ?_)
    · exact hk9 _ hF h
    obtain ⟨v15, s16, hc, h⟩ := bd_e h
    have hF := hF.trans (fr_X1_readLine h_c7 (hLsub hL rfl) (mem_ref rfl hm_c7) hc)
    refine e_ite h (fun _ h => ?_) (fun _ h => ?_)
    · exact ret_fi h hF
    obtain ⟨v17, s18, hc, h⟩ := bd_e h
    have hF := hF.trans (fr_X9_takeSign (hLsub hL rfl) hc)
    refine e_ite h (fun _ h => ?_) (fun _ h => ?_)
    · exact ret_fi h hF
    refine vl_g h (fun v19 h => ?_)
    refine vl_s h (hF.sI (mem_ref rfl hm_c7)) (fun s20 hF h => ?_)
    exact ih12 _ hF h

set_option maxHeartbeats 4000000 in
theorem fr_X1_read {R : List Nat} {N : Nat} {a0 : Nat} {s0 : St} {r : Int32} {sr : St} (h_a0 : sh a0 = 1) (hL : ∀ x ∈ ([1] : List Nat), x ∈ R) (hm_a0 : reg a0 ∈ R) (h : f_X1_read N a0 s0 = some (r, sr)) : Fr R s0 sr := by
  have hF : Fr R s0 s0 := Fr.rf
  unfold f_X1_read at h
  refine vl_s h (hF.sI (mem_ref rfl hm_a0)) (fun s1 hF h => ?_)
  refine vl_s h (hF.sI (mem_ref rfl hm_a0)) (fun s2 hF h => ?_)
  refine vl_s h (hF.sI (mem_ref rfl hm_a0)) (fun s3 hF h => ?_)
  refine vl_s h (hF.sI (mem_ref rfl hm_a0)) (fun s4 hF h => ?_)
  obtain ⟨s5, hc, h⟩ := bp_e h
  have hF := hF.trans (fr_X9_open (hLsub hL rfl) hc)
  refine vl_s h (hF.sI (mem_ref rfl hm_a0)) (fun s6 hF h => ?_)
  refine fr_X1_read_L33 h_a0 (hLsub hL rfl) (mem_ref rfl hm_a0) (fun s21 hF h => ?_) _ _ hF h
  obtain ⟨v22, s23, hc, h⟩ := bd_e h
  have hF := hF.trans (fr_X9_atEnd (hLsub hL rfl) hc)
  refine rz_e h (fun _ h => ?_)
  exact ret_fi h hF

set_option maxHeartbeats 4000000 in
theorem fr_X7_read {R : List Nat} {N : Nat} {a0 : Nat} {s0 : St} {r : Int32} {sr : St} (h_a0 : sh a0 = 7) (hL : ∀ x ∈ ([1] : List Nat), x ∈ R) (hm_a0 : reg a0 ∈ R) (h : f_X7_read N a0 s0 = some (r, sr)) : Fr R s0 sr := by
  have hF : Fr R s0 s0 := Fr.rf
  unfold f_X7_read at h
  obtain ⟨s1, hc, h⟩ := bp_e h
  have hF := hF.trans (fr_X7_clear h_a0 (hLsub hL rfl) (mem_ref rfl hm_a0) hc)
  obtain ⟨s2, hc, h⟩ := bp_e h
  have hF := hF.trans (fr_X9_open (hLsub hL rfl) hc)
  obtain ⟨v3, s4, hc, h⟩ := bd_e h
  have hF := hF.trans (fr_X7_readCondition (fr_F_X7_readOne 12) h_a0 (hLsub hL rfl) (mem_ref rfl hm_a0) hc)
  refine jn_e (fun j => ∀ (s5 : St), Fr R s0 s5 → j s5 = some (r, sr) → Fr R s0 sr) h ?_ (fun j6 hj6 h => ?_)
  · intro s5 hF h
    exact ret_fi h hF
  refine e_ite h (fun _ h => ?_) (fun _ h => ?_)
  · exact hj6 _ hF h
  obtain ⟨v7, s8, hc, h⟩ := bd_e h
  have hF := hF.trans (fr_X9_atEnd (hLsub hL rfl) hc)
  refine e_ite h (fun _ h => ?_) (fun _ h => ?_)
  · exact hj6 _ hF h
  exact ret_fi h hF

set_option maxHeartbeats 4000000 in
theorem fr_X11_chart {R : List Nat} {N : Nat}  {s0 : St} {r : Int32} {sr : St}  (hL : ∀ x ∈ ([0, 1, 2, 3, 4, 6, 9] : List Nat), x ∈ R)  (h : f_X11_chart N  s0 = some (r, sr)) : Fr R s0 sr := by
  have hF : Fr R s0 s0 := Fr.rf
  unfold f_X11_chart at h
  obtain ⟨v1, s2, hc, h⟩ := bd_e h
  have hF := hF.trans (fr_X1_read shq_26 (hLsub hL rfl) (mem_lit rgq_26 hL rfl) hc)
  obtain ⟨s3, hc, h⟩ := bp_e h
  have hF := hF.trans (fr_X11_closeText (hLsub hL rfl) hc)
  refine e_ite h (fun _ h => ?_) (fun _ h => ?_)
  · refine vl_g h (fun v4 h => ?_)
    exact ret_fi h hF
  obtain ⟨s5, hc, h⟩ := bp_e h
  have hF := hF.trans (fr_X1_copyFrom shq_3 shq_26 (hLsub hL rfl) (mem_lit rgq_3 hL rfl) hc)
  obtain ⟨s6, hc, h⟩ := bp_e h
  have hF := hF.trans (fr_X1_compareLights shq_3 (hLsub hL rfl) (mem_lit rgq_3 hL rfl) hc)
  obtain ⟨s7, hc, h⟩ := bp_e h
  have hF := hF.trans (fr_X6_begin shq_49 (hLsub hL rfl) (mem_lit rgq_49 hL rfl) hc)
  obtain ⟨s8, hc, h⟩ := bp_e h
  have hF := hF.trans (fr_X7_clear shq_61 (hLsub hL rfl) (mem_lit rgq_61 hL rfl) hc)
  obtain ⟨s9, hc, h⟩ := bp_e h
  have hF := hF.trans (fr_X5_clear (hLsub hL rfl) hc)
  refine vl_g h (fun v10 h => ?_)
  exact ret_fi h hF

set_option maxHeartbeats 4000000 in
theorem fr_X11_book {R : List Nat} {N : Nat} {x1 : Int32} {s0 : St} {r : Int32} {sr : St}  (hL : ∀ x ∈ ([0, 1, 4, 5, 8, 9, 10, 11, 12, 13, 14, 15, 16, 17, 18] : List Nat), x ∈ R)  (h : f_X11_book N x1 s0 = some (r, sr)) : Fr R s0 sr := by
  have hF : Fr R s0 s0 := Fr.rf
  unfold f_X11_book at h
  refine jn_e (fun j => j = some (r, sr) → Fr R s0 sr) h ?_ (fun j1 hj1 h => ?_)
  · intro h
    obtain ⟨v2, s3, hc, h⟩ := bd_e h
    have hF := hF.trans (fr_X0_read (hLsub hL rfl) hc)
    obtain ⟨s4, hc, h⟩ := bp_e h
    have hF := hF.trans (fr_X11_closeText (hLsub hL rfl) hc)
    refine e_ite h (fun _ h => ?_) (fun _ h => ?_)
    · refine vl_g h (fun v5 h => ?_)
      exact ret_fi h hF
    obtain ⟨s6, hc, h⟩ := bp_e h
    have hF := hF.trans (fr_X6_copyFrom shq_55 shq_49 (hLsub hL rfl) (mem_lit rgq_55 hL rfl) hc)
    obtain ⟨s7, hc, h⟩ := bp_e h
    have hF := hF.trans (fr_X0_live shq_55 (hLsub hL rfl) (mem_lit rgq_55 hL rfl) hc)
    refine vl_g h (fun v8 h => ?_)
    refine ald_s h (fun _ => hF.sI (mem_lit rgq_134 hL rfl)) (fun s9 hF h => ?_)
    refine vl_g h (fun v10 h => ?_)
    refine ald_s h (fun _ => hF.sI (mem_lit rgq_134 hL rfl)) (fun s11 hF h => ?_)
    refine vl_g h (fun v12 h => ?_)
    refine ald_s h (fun _ => hF.sI (mem_lit rgq_134 hL rfl)) (fun s13 hF h => ?_)
    refine bp_g h (fun v14 h => ?_)
    refine ald_s h (fun _ => hF.sI (mem_lit rgq_134 hL rfl)) (fun s15 hF h => ?_)
    refine jn_e (fun j => ∀ (s16 : St), Fr R s0 s16 → j s16 = some (r, sr) → Fr R s0 sr) h ?_ (fun j17 hj17 h => ?_)
    · intro s16 hF h
      refine vl_g h (fun v18 h => ?_)
      refine e_ite h (fun _ h => ?_) (fun _ h => ?_)
      · exact ret_fi h hF
      refine vl_g h (fun v19 h => ?_)
      exact ret_fi h hF
    refine e_ite h (fun _ h => ?_) (fun _ h => ?_)
    · refine vl_g h (fun v20 h => ?_)
      refine e_ite h (fun _ h => ?_) (fun _ h => ?_)
      · exact hj17 _ hF h
      obtain ⟨s21, hc, h⟩ := bp_e h
      have hF := hF.trans (fr_X5_mark shq_49 (hLsub hL rfl) hc)
      obtain ⟨s22, hc, h⟩ := bp_e h
      have hF := hF.trans (fr_X5_keep (hLsub hL rfl) hc)
      obtain ⟨s23, hc, h⟩ := bp_e h
      have hF := hF.trans (fr_X6_copyFrom shq_49 shq_55 (hLsub hL rfl) (mem_lit rgq_49 hL rfl) hc)
      exact hj17 _ hF h
    exact hj17 _ hF h
  refine e_ite h (fun _ h => ?_) (fun _ h => ?_)
  · exact hj1 h
  refine e_ite h (fun _ h => ?_) (fun _ h => ?_)
  · exact hj1 h
  exact ret_fi h hF

set_option maxHeartbeats 4000000 in
theorem fr_X11_sentence {R : List Nat} {N : Nat}  {s0 : St} {r : Int32} {sr : St}  (hL : ∀ x ∈ ([0, 1, 6, 7] : List Nat), x ∈ R)  (h : f_X11_sentence N  s0 = some (r, sr)) : Fr R s0 sr := by
  have hF : Fr R s0 s0 := Fr.rf
  unfold f_X11_sentence at h
  obtain ⟨v1, s2, hc, h⟩ := bd_e h
  have hF := hF.trans (fr_X7_read shq_66 (hLsub hL rfl) (mem_lit rgq_66 hL rfl) hc)
  obtain ⟨s3, hc, h⟩ := bp_e h
  have hF := hF.trans (fr_X11_closeText (hLsub hL rfl) hc)
  refine e_ite h (fun _ h => ?_) (fun _ h => ?_)
  · refine vl_g h (fun v4 h => ?_)
    exact ret_fi h hF
  obtain ⟨s5, hc, h⟩ := bp_e h
  have hF := hF.trans (fr_X7_copyFrom shq_61 shq_66 (hLsub hL rfl) (mem_lit rgq_61 hL rfl) hc)
  refine vl_g h (fun v6 h => ?_)
  exact ret_fi h hF
