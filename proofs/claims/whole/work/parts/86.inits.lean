/-! construction: the references still null, by a list of those set -/
def nuL (L : List (Nat × Nat)) : Nat → Nat → Bool := fun i k => !(L.any fun p => p.1 == i && p.2 == k) && fr0 i k
theorem nsL {L : List (Nat × Nat)} {a k : Nat} : nset (nuL L) a k = nuL ((a, k) :: L) := by
  funext i j
  unfold nset nuL
  rw [List.any_cons]
  by_cases h : i = a ∧ j = k
  · rw [if_pos h, h.1, h.2]; simp
  · rw [if_neg h]
    have e : (((a, k) : Nat × Nat).1 == i && ((a, k) : Nat × Nat).2 == j) = false := by
      rw [Bool.and_eq_false_iff]
      by_cases h1 : a = i
      · right; simpa using fun z => h ⟨h1.symm, z.symm⟩
      · left; simpa using h1
    rw [e, Bool.false_or]
section RowsL
variable {μ : MI} {d n0 : Nat} {Z : BSt} {pc pc2 : Nat} {lv : List (Option Value)} {st : List Value} {n : Nat} {σ : St} {L : List (Nat × Nat)}
theorem b_putrL {a k ci idx q : Nat} (hd : Dc μ pc (.putfield idx) 3 pc2) (hf : Fq μ.1.cls idx ci k true) (hi0 : μ.1.name = "<init>") (hs : sh a = ci) (ht : kd ci k = 2) (hq : rr a k = q) (ha : a < n) (k0 : BE μ d n0 Z pc2 lv st n σ (nuL ((a, k) :: L))) : BE μ d n0 Z pc lv (.ref q :: .ref a :: st) n σ (nuL L) := b_putr hd hf hi0 hs ht hq ha (by rw [nsL]; exact k0)
theorem b_aastL {a c ci i v N : Nat} {C : String} {T' : u_T} {N' : Nat} (hd : Dc μ pc (.aastore) 1 pc2) (hs : sh a = c) (hc24 : 24 ≤ c) (hty : ∀ dA : Nat → ClassId, (tys dA)[c - 20]? = some (dA c, .object C)) (hc : vwCl[ci]? = some (C, T', N')) (hv : sh v = ci) (hr : rr a i = v) (hn : ln a = N) (hi : i < N) (hN9 : Nat.ble N 100000 = true) (ha : a < n) (hvn : v < n) (k0 : BE μ d n0 Z pc2 lv st n σ (nuL ((a, i) :: L))) : BE μ d n0 Z pc lv (.ref v :: .int (nI i) :: .ref a :: st) n σ (nuL L) := b_aast hd hs hc24 hty hc hv hr (by rw [hn]; exact hi) (by rw [hn]; exact hN9) ha hvn (by rw [nsL]; exact k0)
end RowsL
theorem zs_49 : sh 49 = 6 := by decide +kernel
theorem zk_6_1 : kd 6 1 = 0 := by decide +kernel
theorem zk_6_0 : kd 6 0 = 2 := by decide +kernel
theorem zr_49_0 : rr 49 0 = 3 := by decide +kernel
theorem zs_3 : sh 3 = 1 := by decide +kernel
theorem zk_1_4 : kd 1 4 = 0 := by decide +kernel
theorem zk_6_2 : kd 6 2 = 0 := by decide +kernel
theorem zk_6_3 : kd 6 3 = 0 := by decide +kernel
theorem zk_1_2 : kd 1 2 = 0 := by decide +kernel
theorem zk_1_3 : kd 1 3 = 0 := by decide +kernel
set_option maxRecDepth 20000 in
set_option maxHeartbeats 4000000 in
theorem kb_X6_begin {σ : St} {L : List (Nat × Nat)} (h1 : σ.1 3 2 = nI 0) (h2 : σ.1 3 3 = nI 0) (hv : nuL L 49 0 = false) : BCt mX6_begin 1 [.ref 49] 206 σ (nuL L) (206, sI (sI (sI (σ) 49 1 (nI 0)) 49 2 ((sI (σ) 49 1 (nI 0)).1 3 4)) 49 3 (nI 0), nuL (L)) := by
  refine BCt.ofE (by decide +kernel) rfl rfl ⟨Nat.le_of_ble_eq_true rfl, Nat.le_of_ble_eq_true rfl⟩ ?_
  show BE mX6_begin 1 206 (206, sI (sI (sI (σ) 49 1 (nI 0)) 49 2 ((sI (σ) 49 1 (nI 0)).1 3 4)) 49 3 (nI 0), nuL (L)) 0 [some (.ref 49), none] [] 206 σ (nuL L)
  refine b_aload_n qX6_begin_0 rfl ?_
  refine b_iconst (nI 0) qX6_begin_1 (by decide +kernel) ?_
  refine b_puti qX6_begin_2 fp_X6_31 zs_49 zk_6_1 (by decide) ?_
  refine b_aload_n qX6_begin_5 rfl ?_
  refine b_aload_n qX6_begin_6 rfl ?_
  refine b_getr 3 qX6_begin_7 fl_X6_27 zs_49 zk_6_0 (by decide) zr_49_0 hv ?_
  refine b_geti qX6_begin_10 fl_X6_35 zs_3 zk_1_4 (by decide) ?_
  refine b_puti qX6_begin_13 fp_X6_40 zs_49 zk_6_2 (by decide) ?_
  refine b_aload_n qX6_begin_16 rfl ?_
  refine b_iconst (nI 0) qX6_begin_17 (by decide +kernel) ?_
  refine b_puti qX6_begin_18 fp_X6_43 zs_49 zk_6_3 (by decide) ?_
  refine b_iconst (nI 0) qX6_begin_21 (by decide +kernel) ?_
  refine b_istore_n (lv2 := [some (.ref 49), some (.int (nI 0))]) qX6_begin_22 rfl rfl rfl ?_
  refine b_iload_n qX6_begin_23 rfl ?_
  refine b_aload_n qX6_begin_24 rfl ?_
  refine b_getr 3 qX6_begin_25 fl_X6_27 zs_49 zk_6_0 (by decide) zr_49_0 hv ?_
  refine b_geti qX6_begin_28 fl_X6_46 zs_3 zk_1_2 (by decide) ?_
  refine b_icmp_ge (tgt := 76) qX6_begin_31 (by decide) (fun _ => ?_) (fun h => absurd (show (sI (sI (sI (σ) 49 1 (nI 0)) 49 2 ((sI (σ) 49 1 (nI 0)).1 3 4)) 49 3 (nI 0)).1 3 2 ≤ nI 0 from by rw [show (sI (sI (sI (σ) 49 1 (nI 0)) 49 2 ((sI (σ) 49 1 (nI 0)).1 3 4)) 49 3 (nI 0)).1 3 2 = nI 0 from h1]; decide) h)
  refine b_iconst (nI 0) qX6_begin_76 (by decide +kernel) ?_
  refine b_istore_n (lv2 := [some (.ref 49), some (.int (nI 0))]) qX6_begin_77 rfl rfl rfl ?_
  refine b_iload_n qX6_begin_78 rfl ?_
  refine b_aload_n qX6_begin_79 rfl ?_
  refine b_getr 3 qX6_begin_80 fl_X6_27 zs_49 zk_6_0 (by decide) zr_49_0 hv ?_
  refine b_geti qX6_begin_83 fl_X6_60 zs_3 zk_1_3 (by decide) ?_
  refine b_icmp_ge (tgt := 149) qX6_begin_86 (by decide) (fun _ => ?_) (fun h => absurd (show (sI (sI (sI (σ) 49 1 (nI 0)) 49 2 ((sI (σ) 49 1 (nI 0)).1 3 4)) 49 3 (nI 0)).1 3 3 ≤ nI 0 from by rw [show (sI (sI (sI (σ) 49 1 (nI 0)) 49 2 ((sI (σ) 49 1 (nI 0)).1 3 4)) 49 3 (nI 0)).1 3 3 = nI 0 from h2]; decide) h)
  exact b_ret qX6_begin_149 rfl rfl
abbrev mX11_init : MI := (yX11_init, cX11_init, 2, none)
theorem mw_X11_init : Mw mX11_init 0 := ⟨tb_1 30 (by decide +kernel) (by decide +kernel), tb_1 1 (by decide +kernel) (by decide +kernel), by decide +kernel, mw_sig (by decide +kernel), by decide⟩
theorem qX11_init_0 : Dc mX11_init 0 (.aload_n 0) 1 1 := ⟨by decide +kernel, rfl⟩
theorem qX11_init_1 : Dc mX11_init 1 (.invokespecial 3) 3 4 := ⟨by decide +kernel, rfl⟩
theorem ob_X11_3 : Cond.methodLink RX11 3 objectInit ∈ tb ∧ Cond.instanceMethod objectInit ∈ tb ∧ Cond.code objectInit ⟨#[0xb1]⟩ 1 none ∈ tb := ⟨tb_1 31 (by decide +kernel) (by decide +kernel), tb_1 32 (by decide +kernel) (by decide +kernel), tb_1 33 (by decide +kernel) (by decide +kernel)⟩
theorem qX11_init_4 : Dc mX11_init 4 (.aload_n 0) 1 5 := ⟨by decide +kernel, rfl⟩
theorem qX11_init_5 : Dc mX11_init 5 (.new 9) 3 8 := ⟨by decide +kernel, rfl⟩
theorem nw_X11_9 : Nw RX11 9 9 := ⟨_, _, _, tyX9, rfl, cws_9, tyX9_ok, tb_1 34 (by decide +kernel) (by decide +kernel), tb_1 35 (by decide +kernel) (by decide +kernel), tb_1 2 (by decide +kernel) (by decide +kernel), by decide +kernel, by decide +kernel⟩
theorem zs_1 : sh 1 = 9 := by decide +kernel
theorem qX11_init_8 : Dc mX11_init 8 (.dup) 1 9 := ⟨by decide +kernel, rfl⟩
theorem qX11_init_9 : Dc mX11_init 9 (.invokespecial 11) 3 12 := ⟨by decide +kernel, rfl⟩
abbrev mX9_init : MI := (yX9_init, cX9_init, 1, none)
theorem mw_X9_init : Mw mX9_init 0 := ⟨tb_1 38 (by decide +kernel) (by decide +kernel), tb_1 2 (by decide +kernel) (by decide +kernel), by decide +kernel, mw_sig (by decide +kernel), by decide⟩
theorem qX9_init_0 : Dc mX9_init 0 (.aload_n 0) 1 1 := ⟨by decide +kernel, rfl⟩
theorem qX9_init_1 : Dc mX9_init 1 (.invokespecial 3) 3 4 := ⟨by decide +kernel, rfl⟩
theorem ob_X9_3 : Cond.methodLink RX9 3 objectInit ∈ tb ∧ Cond.instanceMethod objectInit ∈ tb ∧ Cond.code objectInit ⟨#[0xb1]⟩ 1 none ∈ tb := ⟨tb_1 39 (by decide +kernel) (by decide +kernel), tb_1 32 (by decide +kernel) (by decide +kernel), tb_1 33 (by decide +kernel) (by decide +kernel)⟩
theorem qX9_init_4 : Dc mX9_init 4 (.aload_n 0) 1 5 := ⟨by decide +kernel, rfl⟩
theorem qX9_init_5 : Dc mX9_init 5 (.sipush 940) 3 8 := ⟨by decide +kernel, rfl⟩
theorem qX9_init_8 : Dc mX9_init 8 (.newarray .int) 2 10 := ⟨by decide +kernel, rfl⟩
theorem ar_int : Cond.arrayClass (newarray.typeOf .int) ∈ tb := tb_1 89 (by decide +kernel) (by decide +kernel)
theorem zs_2 : sh 2 = 20 := by decide +kernel
theorem zl_2 : ln 2 = 940 := by decide +kernel
theorem qX9_init_10 : Dc mX9_init 10 (.putfield 9) 3 13 := ⟨by decide +kernel, rfl⟩
theorem fq_X9_9 : Fq RX9 9 9 0 true := ⟨_, _, _, tyX9, _, rfl, by decide, cws_9, tb_1 40 (by decide +kernel) (by decide +kernel), tyX9_ok, nmX9, rfl, fun _ => rfl, tyX9_ok 0 (by decide), by decide +kernel, fun _ => ⟨rfl, rfl⟩⟩
theorem zk_9_0 : kd 9 0 = 2 := by decide +kernel
theorem zr_1_0 : rr 1 0 = 2 := by decide +kernel
theorem qX9_init_13 : Dc mX9_init 13 (.return_) 1 14 := ⟨by decide +kernel, rfl⟩
set_option maxRecDepth 20000 in
set_option maxHeartbeats 4000000 in
theorem kb_X9_init_2 {σ : St} {L : List (Nat × Nat)} : BCt mX9_init 1 [.ref 1] 2 σ (nuL L) (3, σ, nuL ((1, 0) :: L)) := by
  refine BCt.ofE (by decide +kernel) rfl rfl ⟨Nat.le_of_ble_eq_true rfl, Nat.le_of_ble_eq_true rfl⟩ ?_
  show BE mX9_init 1 2 (3, σ, nuL ((1, 0) :: L)) 0 [some (.ref 1)] [] 2 σ (nuL L)
  refine b_aload_n qX9_init_0 rfl ?_
  refine b_obj qX9_init_1 ob_X9_3.1 ob_X9_3.2.1 ob_X9_3.2.2 rfl rfl ?_
  refine b_aload_n qX9_init_4 rfl ?_
  refine b_sipush (nI 940) qX9_init_5 (by decide +kernel) ?_
  refine b_newaI qX9_init_8 ar_int zs_2 zl_2 rfl (Nat.le_of_ble_eq_true rfl) ?_
  refine b_putrL qX9_init_10 fq_X9_9 rfl zs_1 zk_9_0 zr_1_0 (by decide) ?_
  exact b_ret qX9_init_13 rfl rfl
theorem mj_X11_11 : MwJ RX11 11 mX9_init 0 "CoastLights" := ⟨mw_X9_init, rfl, tb_1 37 (by decide +kernel) (by decide +kernel), rfl, by decide +kernel⟩
theorem qX11_init_12 : Dc mX11_init 12 (.putfield 12) 3 15 := ⟨by decide +kernel, rfl⟩
theorem fq_X11_12 : Fq RX11 12 10 0 true := ⟨_, _, _, tyX11, _, rfl, by decide, cws_10, tb_2 168 (by decide +kernel) (by decide +kernel), tyX11_ok, nmX11, rfl, fun _ => rfl, tyX11_ok 0 (by decide), by decide +kernel, fun _ => ⟨rfl, rfl⟩⟩
theorem zs_0 : sh 0 = 10 := by decide +kernel
theorem zk_10_0 : kd 10 0 = 2 := by decide +kernel
theorem zr_0_0 : rr 0 0 = 1 := by decide +kernel
theorem qX11_init_15 : Dc mX11_init 15 (.aload_n 0) 1 16 := ⟨by decide +kernel, rfl⟩
theorem qX11_init_16 : Dc mX11_init 16 (.new 16) 3 19 := ⟨by decide +kernel, rfl⟩
theorem nw_X11_16 : Nw RX11 16 1 := ⟨_, _, _, tyX1, rfl, cws_1, tyX1_ok, tb_1 90 (by decide +kernel) (by decide +kernel), tb_1 91 (by decide +kernel) (by decide +kernel), tb_1 3 (by decide +kernel) (by decide +kernel), by decide +kernel, by decide +kernel⟩
theorem qX11_init_19 : Dc mX11_init 19 (.dup) 1 20 := ⟨by decide +kernel, rfl⟩
theorem qX11_init_20 : Dc mX11_init 20 (.invokespecial 18) 3 23 := ⟨by decide +kernel, rfl⟩
abbrev mX1_init : MI := (yX1_init, cX1_init, 2, none)
theorem mw_X1_init : Mw mX1_init 0 := ⟨tb_1 94 (by decide +kernel) (by decide +kernel), tb_1 3 (by decide +kernel) (by decide +kernel), by decide +kernel, mw_sig (by decide +kernel), by decide⟩
theorem qX1_init_0 : Dc mX1_init 0 (.aload_n 0) 1 1 := ⟨by decide +kernel, rfl⟩
theorem qX1_init_1 : Dc mX1_init 1 (.invokespecial 3) 3 4 := ⟨by decide +kernel, rfl⟩
theorem ob_X1_3 : Cond.methodLink RX1 3 objectInit ∈ tb ∧ Cond.instanceMethod objectInit ∈ tb ∧ Cond.code objectInit ⟨#[0xb1]⟩ 1 none ∈ tb := ⟨tb_1 95 (by decide +kernel) (by decide +kernel), tb_1 32 (by decide +kernel) (by decide +kernel), tb_1 33 (by decide +kernel) (by decide +kernel)⟩
theorem qX1_init_4 : Dc mX1_init 4 (.aload_n 0) 1 5 := ⟨by decide +kernel, rfl⟩
theorem qX1_init_5 : Dc mX1_init 5 (.bipush 8) 2 7 := ⟨by decide +kernel, rfl⟩
theorem qX1_init_7 : Dc mX1_init 7 (.anewarray 9) 3 10 := ⟨by decide +kernel, rfl⟩
theorem na_X1_9 : Na RX1 9 24 "CoastLights$Light" := ⟨tb_1 96 (by decide +kernel) (by decide +kernel), by decide +kernel, by decide, fun _ => rfl⟩
theorem zs_4 : sh 4 = 24 := by decide +kernel
theorem zl_4 : ln 4 = 8 := by decide +kernel
theorem qX1_init_10 : Dc mX1_init 10 (.putfield 11) 3 13 := ⟨by decide +kernel, rfl⟩
theorem fq_X1_11 : Fq RX1 11 1 0 true := ⟨_, _, _, tyX1, _, rfl, by decide, cws_1, tb_1 210 (by decide +kernel) (by decide +kernel), tyX1_ok, nmX1, rfl, fun _ => rfl, tyX1_ok 0 (by decide), by decide +kernel, fun _ => ⟨rfl, rfl⟩⟩
theorem zk_1_0 : kd 1 0 = 2 := by decide +kernel
theorem zr_3_0 : rr 3 0 = 4 := by decide +kernel
theorem qX1_init_13 : Dc mX1_init 13 (.aload_n 0) 1 14 := ⟨by decide +kernel, rfl⟩
theorem qX1_init_14 : Dc mX1_init 14 (.iconst 4) 1 15 := ⟨by decide +kernel, rfl⟩
theorem qX1_init_15 : Dc mX1_init 15 (.anewarray 17) 3 18 := ⟨by decide +kernel, rfl⟩
theorem na_X1_17 : Na RX1 17 25 "CoastLights$Ship" := ⟨tb_1 98 (by decide +kernel) (by decide +kernel), by decide +kernel, by decide, fun _ => rfl⟩
theorem zs_5 : sh 5 = 25 := by decide +kernel
theorem zl_5 : ln 5 = 4 := by decide +kernel
theorem qX1_init_18 : Dc mX1_init 18 (.putfield 19) 3 21 := ⟨by decide +kernel, rfl⟩
theorem fq_X1_19 : Fq RX1 19 1 1 true := ⟨_, _, _, tyX1, _, rfl, by decide, cws_1, tb_1 214 (by decide +kernel) (by decide +kernel), tyX1_ok, nmX1, rfl, fun _ => rfl, tyX1_ok 1 (by decide), by decide +kernel, fun _ => ⟨rfl, rfl⟩⟩
theorem zk_1_1 : kd 1 1 = 2 := by decide +kernel
theorem zr_3_1 : rr 3 1 = 5 := by decide +kernel
theorem qX1_init_21 : Dc mX1_init 21 (.aload_n 0) 1 22 := ⟨by decide +kernel, rfl⟩
theorem qX1_init_22 : Dc mX1_init 22 (.bipush 30) 2 24 := ⟨by decide +kernel, rfl⟩
theorem qX1_init_24 : Dc mX1_init 24 (.putfield 23) 3 27 := ⟨by decide +kernel, rfl⟩
theorem qX1_init_27 : Dc mX1_init 27 (.iconst 0) 1 28 := ⟨by decide +kernel, rfl⟩
theorem qX1_init_28 : Dc mX1_init 28 (.istore_n 1) 1 29 := ⟨by decide +kernel, rfl⟩
theorem qX1_init_29 : Dc mX1_init 29 (.iload_n 1) 1 30 := ⟨by decide +kernel, rfl⟩
theorem qX1_init_30 : Dc mX1_init 30 (.bipush 8) 2 32 := ⟨by decide +kernel, rfl⟩
theorem qX1_init_32 : Dc mX1_init 32 (.if_icmp .ge 22) 3 35 := ⟨by decide +kernel, rfl⟩
theorem qX1_init_35 : Dc mX1_init 35 (.aload_n 0) 1 36 := ⟨by decide +kernel, rfl⟩
theorem qX1_init_36 : Dc mX1_init 36 (.getfield 11) 3 39 := ⟨by decide +kernel, rfl⟩
theorem qX1_init_39 : Dc mX1_init 39 (.iload_n 1) 1 40 := ⟨by decide +kernel, rfl⟩
theorem qX1_init_40 : Dc mX1_init 40 (.new 9) 3 43 := ⟨by decide +kernel, rfl⟩
theorem nw_X1_9 : Nw RX1 9 4 := ⟨_, _, _, tyX4, rfl, cws_4, tyX4_ok, tb_1 96 (by decide +kernel) (by decide +kernel), tb_1 100 (by decide +kernel) (by decide +kernel), tb_1 4 (by decide +kernel) (by decide +kernel), by decide +kernel, by decide +kernel⟩
theorem zs_6 : sh 6 = 4 := by decide +kernel
theorem qX1_init_43 : Dc mX1_init 43 (.dup) 1 44 := ⟨by decide +kernel, rfl⟩
theorem qX1_init_44 : Dc mX1_init 44 (.invokespecial 27) 3 47 := ⟨by decide +kernel, rfl⟩
abbrev mX4_init : MI := (yX4_init, cX4_init, 1, none)
theorem mw_X4_init : Mw mX4_init 0 := ⟨tb_1 103 (by decide +kernel) (by decide +kernel), tb_1 4 (by decide +kernel) (by decide +kernel), by decide +kernel, mw_sig (by decide +kernel), by decide⟩
theorem qX4_init_0 : Dc mX4_init 0 (.aload_n 0) 1 1 := ⟨by decide +kernel, rfl⟩
theorem qX4_init_1 : Dc mX4_init 1 (.invokespecial 3) 3 4 := ⟨by decide +kernel, rfl⟩
theorem ob_X4_3 : Cond.methodLink RX4 3 objectInit ∈ tb ∧ Cond.instanceMethod objectInit ∈ tb ∧ Cond.code objectInit ⟨#[0xb1]⟩ 1 none ∈ tb := ⟨tb_1 104 (by decide +kernel) (by decide +kernel), tb_1 32 (by decide +kernel) (by decide +kernel), tb_1 33 (by decide +kernel) (by decide +kernel)⟩
theorem qX4_init_4 : Dc mX4_init 4 (.aload_n 0) 1 5 := ⟨by decide +kernel, rfl⟩
theorem qX4_init_5 : Dc mX4_init 5 (.sipush 160) 3 8 := ⟨by decide +kernel, rfl⟩
theorem qX4_init_8 : Dc mX4_init 8 (.newarray .boolean) 2 10 := ⟨by decide +kernel, rfl⟩
theorem ar_boolean : Cond.arrayClass (newarray.typeOf .boolean) ∈ tb := tb_1 177 (by decide +kernel) (by decide +kernel)
theorem zs_7 : sh 7 = 21 := by decide +kernel
theorem zl_7 : ln 7 = 160 := by decide +kernel
theorem qX4_init_10 : Dc mX4_init 10 (.putfield 9) 3 13 := ⟨by decide +kernel, rfl⟩
theorem fq_X4_9 : Fq RX4 9 4 11 true := ⟨_, _, _, tyX4, _, rfl, by decide, cws_4, tb_1 139 (by decide +kernel) (by decide +kernel), tyX4_ok, nmX4, rfl, fun _ => rfl, tyX4_ok 11 (by decide), by decide +kernel, fun _ => ⟨rfl, rfl⟩⟩
theorem zk_4_11 : kd 4 11 = 2 := by decide +kernel
theorem zr_6_11 : rr 6 11 = 7 := by decide +kernel
theorem qX4_init_13 : Dc mX4_init 13 (.return_) 1 14 := ⟨by decide +kernel, rfl⟩
set_option maxRecDepth 20000 in
set_option maxHeartbeats 4000000 in
theorem kb_X4_init_7 {σ : St} {L : List (Nat × Nat)} : BCt mX4_init 1 [.ref 6] 7 σ (nuL L) (8, σ, nuL ((6, 11) :: L)) := by
  refine BCt.ofE (by decide +kernel) rfl rfl ⟨Nat.le_of_ble_eq_true rfl, Nat.le_of_ble_eq_true rfl⟩ ?_
  show BE mX4_init 1 7 (8, σ, nuL ((6, 11) :: L)) 0 [some (.ref 6)] [] 7 σ (nuL L)
  refine b_aload_n qX4_init_0 rfl ?_
  refine b_obj qX4_init_1 ob_X4_3.1 ob_X4_3.2.1 ob_X4_3.2.2 rfl rfl ?_
  refine b_aload_n qX4_init_4 rfl ?_
  refine b_sipush (nI 160) qX4_init_5 (by decide +kernel) ?_
  refine b_newaZ qX4_init_8 ar_boolean zs_7 zl_7 rfl (Nat.le_of_ble_eq_true rfl) ?_
  refine b_putrL qX4_init_10 fq_X4_9 rfl zs_6 zk_4_11 zr_6_11 (by decide) ?_
  exact b_ret qX4_init_13 rfl rfl
theorem mj_X1_27 : MwJ RX1 27 mX4_init 0 "CoastLights" := ⟨mw_X4_init, rfl, tb_1 102 (by decide +kernel) (by decide +kernel), rfl, by decide +kernel⟩
theorem qX1_init_47 : Dc mX1_init 47 (.aastore) 1 48 := ⟨by decide +kernel, rfl⟩
theorem zr_4_0 : rr 4 0 = 6 := by decide +kernel
theorem qX1_init_48 : Dc mX1_init 48 (.iinc 1 1) 3 51 := ⟨by decide +kernel, rfl⟩
theorem qX1_init_51 : Dc mX1_init 51 (.goto (-22)) 3 54 := ⟨by decide +kernel, rfl⟩
theorem zs_8 : sh 8 = 4 := by decide +kernel
theorem zs_9 : sh 9 = 21 := by decide +kernel
theorem zl_9 : ln 9 = 160 := by decide +kernel
theorem zr_8_11 : rr 8 11 = 9 := by decide +kernel
set_option maxRecDepth 20000 in
set_option maxHeartbeats 4000000 in
theorem kb_X4_init_9 {σ : St} {L : List (Nat × Nat)} : BCt mX4_init 1 [.ref 8] 9 σ (nuL L) (10, σ, nuL ((8, 11) :: L)) := by
  refine BCt.ofE (by decide +kernel) rfl rfl ⟨Nat.le_of_ble_eq_true rfl, Nat.le_of_ble_eq_true rfl⟩ ?_
  show BE mX4_init 1 9 (10, σ, nuL ((8, 11) :: L)) 0 [some (.ref 8)] [] 9 σ (nuL L)
  refine b_aload_n qX4_init_0 rfl ?_
  refine b_obj qX4_init_1 ob_X4_3.1 ob_X4_3.2.1 ob_X4_3.2.2 rfl rfl ?_
  refine b_aload_n qX4_init_4 rfl ?_
  refine b_sipush (nI 160) qX4_init_5 (by decide +kernel) ?_
  refine b_newaZ qX4_init_8 ar_boolean zs_9 zl_9 rfl (Nat.le_of_ble_eq_true rfl) ?_
  refine b_putrL qX4_init_10 fq_X4_9 rfl zs_8 zk_4_11 zr_8_11 (by decide) ?_
  exact b_ret qX4_init_13 rfl rfl
theorem zr_4_1 : rr 4 1 = 8 := by decide +kernel
theorem zs_10 : sh 10 = 4 := by decide +kernel
theorem zs_11 : sh 11 = 21 := by decide +kernel
theorem zl_11 : ln 11 = 160 := by decide +kernel
theorem zr_10_11 : rr 10 11 = 11 := by decide +kernel
set_option maxRecDepth 20000 in
set_option maxHeartbeats 4000000 in
theorem kb_X4_init_11 {σ : St} {L : List (Nat × Nat)} : BCt mX4_init 1 [.ref 10] 11 σ (nuL L) (12, σ, nuL ((10, 11) :: L)) := by
  refine BCt.ofE (by decide +kernel) rfl rfl ⟨Nat.le_of_ble_eq_true rfl, Nat.le_of_ble_eq_true rfl⟩ ?_
  show BE mX4_init 1 11 (12, σ, nuL ((10, 11) :: L)) 0 [some (.ref 10)] [] 11 σ (nuL L)
  refine b_aload_n qX4_init_0 rfl ?_
  refine b_obj qX4_init_1 ob_X4_3.1 ob_X4_3.2.1 ob_X4_3.2.2 rfl rfl ?_
  refine b_aload_n qX4_init_4 rfl ?_
  refine b_sipush (nI 160) qX4_init_5 (by decide +kernel) ?_
  refine b_newaZ qX4_init_8 ar_boolean zs_11 zl_11 rfl (Nat.le_of_ble_eq_true rfl) ?_
  refine b_putrL qX4_init_10 fq_X4_9 rfl zs_10 zk_4_11 zr_10_11 (by decide) ?_
  exact b_ret qX4_init_13 rfl rfl
theorem zr_4_2 : rr 4 2 = 10 := by decide +kernel
theorem zs_12 : sh 12 = 4 := by decide +kernel
theorem zs_13 : sh 13 = 21 := by decide +kernel
theorem zl_13 : ln 13 = 160 := by decide +kernel
theorem zr_12_11 : rr 12 11 = 13 := by decide +kernel
set_option maxRecDepth 20000 in
set_option maxHeartbeats 4000000 in
theorem kb_X4_init_13 {σ : St} {L : List (Nat × Nat)} : BCt mX4_init 1 [.ref 12] 13 σ (nuL L) (14, σ, nuL ((12, 11) :: L)) := by
  refine BCt.ofE (by decide +kernel) rfl rfl ⟨Nat.le_of_ble_eq_true rfl, Nat.le_of_ble_eq_true rfl⟩ ?_
  show BE mX4_init 1 13 (14, σ, nuL ((12, 11) :: L)) 0 [some (.ref 12)] [] 13 σ (nuL L)
  refine b_aload_n qX4_init_0 rfl ?_
  refine b_obj qX4_init_1 ob_X4_3.1 ob_X4_3.2.1 ob_X4_3.2.2 rfl rfl ?_
  refine b_aload_n qX4_init_4 rfl ?_
  refine b_sipush (nI 160) qX4_init_5 (by decide +kernel) ?_
  refine b_newaZ qX4_init_8 ar_boolean zs_13 zl_13 rfl (Nat.le_of_ble_eq_true rfl) ?_
  refine b_putrL qX4_init_10 fq_X4_9 rfl zs_12 zk_4_11 zr_12_11 (by decide) ?_
  exact b_ret qX4_init_13 rfl rfl
theorem zr_4_3 : rr 4 3 = 12 := by decide +kernel
theorem zs_14 : sh 14 = 4 := by decide +kernel
theorem zs_15 : sh 15 = 21 := by decide +kernel
theorem zl_15 : ln 15 = 160 := by decide +kernel
theorem zr_14_11 : rr 14 11 = 15 := by decide +kernel
set_option maxRecDepth 20000 in
set_option maxHeartbeats 4000000 in
theorem kb_X4_init_15 {σ : St} {L : List (Nat × Nat)} : BCt mX4_init 1 [.ref 14] 15 σ (nuL L) (16, σ, nuL ((14, 11) :: L)) := by
  refine BCt.ofE (by decide +kernel) rfl rfl ⟨Nat.le_of_ble_eq_true rfl, Nat.le_of_ble_eq_true rfl⟩ ?_
  show BE mX4_init 1 15 (16, σ, nuL ((14, 11) :: L)) 0 [some (.ref 14)] [] 15 σ (nuL L)
  refine b_aload_n qX4_init_0 rfl ?_
  refine b_obj qX4_init_1 ob_X4_3.1 ob_X4_3.2.1 ob_X4_3.2.2 rfl rfl ?_
  refine b_aload_n qX4_init_4 rfl ?_
  refine b_sipush (nI 160) qX4_init_5 (by decide +kernel) ?_
  refine b_newaZ qX4_init_8 ar_boolean zs_15 zl_15 rfl (Nat.le_of_ble_eq_true rfl) ?_
  refine b_putrL qX4_init_10 fq_X4_9 rfl zs_14 zk_4_11 zr_14_11 (by decide) ?_
  exact b_ret qX4_init_13 rfl rfl
theorem zr_4_4 : rr 4 4 = 14 := by decide +kernel
theorem zs_16 : sh 16 = 4 := by decide +kernel
theorem zs_17 : sh 17 = 21 := by decide +kernel
theorem zl_17 : ln 17 = 160 := by decide +kernel
theorem zr_16_11 : rr 16 11 = 17 := by decide +kernel
set_option maxRecDepth 20000 in
set_option maxHeartbeats 4000000 in
theorem kb_X4_init_17 {σ : St} {L : List (Nat × Nat)} : BCt mX4_init 1 [.ref 16] 17 σ (nuL L) (18, σ, nuL ((16, 11) :: L)) := by
  refine BCt.ofE (by decide +kernel) rfl rfl ⟨Nat.le_of_ble_eq_true rfl, Nat.le_of_ble_eq_true rfl⟩ ?_
  show BE mX4_init 1 17 (18, σ, nuL ((16, 11) :: L)) 0 [some (.ref 16)] [] 17 σ (nuL L)
  refine b_aload_n qX4_init_0 rfl ?_
  refine b_obj qX4_init_1 ob_X4_3.1 ob_X4_3.2.1 ob_X4_3.2.2 rfl rfl ?_
  refine b_aload_n qX4_init_4 rfl ?_
  refine b_sipush (nI 160) qX4_init_5 (by decide +kernel) ?_
  refine b_newaZ qX4_init_8 ar_boolean zs_17 zl_17 rfl (Nat.le_of_ble_eq_true rfl) ?_
  refine b_putrL qX4_init_10 fq_X4_9 rfl zs_16 zk_4_11 zr_16_11 (by decide) ?_
  exact b_ret qX4_init_13 rfl rfl
theorem zr_4_5 : rr 4 5 = 16 := by decide +kernel
theorem zs_18 : sh 18 = 4 := by decide +kernel
theorem zs_19 : sh 19 = 21 := by decide +kernel
theorem zl_19 : ln 19 = 160 := by decide +kernel
theorem zr_18_11 : rr 18 11 = 19 := by decide +kernel
set_option maxRecDepth 20000 in
set_option maxHeartbeats 4000000 in
theorem kb_X4_init_19 {σ : St} {L : List (Nat × Nat)} : BCt mX4_init 1 [.ref 18] 19 σ (nuL L) (20, σ, nuL ((18, 11) :: L)) := by
  refine BCt.ofE (by decide +kernel) rfl rfl ⟨Nat.le_of_ble_eq_true rfl, Nat.le_of_ble_eq_true rfl⟩ ?_
  show BE mX4_init 1 19 (20, σ, nuL ((18, 11) :: L)) 0 [some (.ref 18)] [] 19 σ (nuL L)
  refine b_aload_n qX4_init_0 rfl ?_
  refine b_obj qX4_init_1 ob_X4_3.1 ob_X4_3.2.1 ob_X4_3.2.2 rfl rfl ?_
  refine b_aload_n qX4_init_4 rfl ?_
  refine b_sipush (nI 160) qX4_init_5 (by decide +kernel) ?_
  refine b_newaZ qX4_init_8 ar_boolean zs_19 zl_19 rfl (Nat.le_of_ble_eq_true rfl) ?_
  refine b_putrL qX4_init_10 fq_X4_9 rfl zs_18 zk_4_11 zr_18_11 (by decide) ?_
  exact b_ret qX4_init_13 rfl rfl
theorem zr_4_6 : rr 4 6 = 18 := by decide +kernel
theorem zs_20 : sh 20 = 4 := by decide +kernel
theorem zs_21 : sh 21 = 21 := by decide +kernel
theorem zl_21 : ln 21 = 160 := by decide +kernel
theorem zr_20_11 : rr 20 11 = 21 := by decide +kernel
set_option maxRecDepth 20000 in
set_option maxHeartbeats 4000000 in
theorem kb_X4_init_21 {σ : St} {L : List (Nat × Nat)} : BCt mX4_init 1 [.ref 20] 21 σ (nuL L) (22, σ, nuL ((20, 11) :: L)) := by
  refine BCt.ofE (by decide +kernel) rfl rfl ⟨Nat.le_of_ble_eq_true rfl, Nat.le_of_ble_eq_true rfl⟩ ?_
  show BE mX4_init 1 21 (22, σ, nuL ((20, 11) :: L)) 0 [some (.ref 20)] [] 21 σ (nuL L)
  refine b_aload_n qX4_init_0 rfl ?_
  refine b_obj qX4_init_1 ob_X4_3.1 ob_X4_3.2.1 ob_X4_3.2.2 rfl rfl ?_
  refine b_aload_n qX4_init_4 rfl ?_
  refine b_sipush (nI 160) qX4_init_5 (by decide +kernel) ?_
  refine b_newaZ qX4_init_8 ar_boolean zs_21 zl_21 rfl (Nat.le_of_ble_eq_true rfl) ?_
  refine b_putrL qX4_init_10 fq_X4_9 rfl zs_20 zk_4_11 zr_20_11 (by decide) ?_
  exact b_ret qX4_init_13 rfl rfl
theorem zr_4_7 : rr 4 7 = 20 := by decide +kernel
theorem qX1_init_54 : Dc mX1_init 54 (.iconst 0) 1 55 := ⟨by decide +kernel, rfl⟩
theorem qX1_init_55 : Dc mX1_init 55 (.istore_n 1) 1 56 := ⟨by decide +kernel, rfl⟩
theorem qX1_init_56 : Dc mX1_init 56 (.iload_n 1) 1 57 := ⟨by decide +kernel, rfl⟩
theorem qX1_init_57 : Dc mX1_init 57 (.iconst 4) 1 58 := ⟨by decide +kernel, rfl⟩
theorem qX1_init_58 : Dc mX1_init 58 (.if_icmp .ge 22) 3 61 := ⟨by decide +kernel, rfl⟩
theorem qX1_init_61 : Dc mX1_init 61 (.aload_n 0) 1 62 := ⟨by decide +kernel, rfl⟩
theorem qX1_init_62 : Dc mX1_init 62 (.getfield 19) 3 65 := ⟨by decide +kernel, rfl⟩
theorem qX1_init_65 : Dc mX1_init 65 (.iload_n 1) 1 66 := ⟨by decide +kernel, rfl⟩
theorem qX1_init_66 : Dc mX1_init 66 (.new 17) 3 69 := ⟨by decide +kernel, rfl⟩
theorem nw_X1_17 : Nw RX1 17 8 := ⟨_, _, _, tyX8, rfl, cws_8, tyX8_ok, tb_1 98 (by decide +kernel) (by decide +kernel), tb_1 178 (by decide +kernel) (by decide +kernel), tb_1 5 (by decide +kernel) (by decide +kernel), by decide +kernel, by decide +kernel⟩
theorem zs_22 : sh 22 = 8 := by decide +kernel
theorem qX1_init_69 : Dc mX1_init 69 (.dup) 1 70 := ⟨by decide +kernel, rfl⟩
theorem qX1_init_70 : Dc mX1_init 70 (.invokespecial 28) 3 73 := ⟨by decide +kernel, rfl⟩
abbrev mX8_init : MI := (yX8_init, cX8_init, 1, none)
theorem mw_X8_init : Mw mX8_init 0 := ⟨tb_1 181 (by decide +kernel) (by decide +kernel), tb_1 5 (by decide +kernel) (by decide +kernel), by decide +kernel, mw_sig (by decide +kernel), by decide⟩
theorem qX8_init_0 : Dc mX8_init 0 (.aload_n 0) 1 1 := ⟨by decide +kernel, rfl⟩
theorem qX8_init_1 : Dc mX8_init 1 (.invokespecial 1) 3 4 := ⟨by decide +kernel, rfl⟩
theorem ob_X8_1 : Cond.methodLink RX8 1 objectInit ∈ tb ∧ Cond.instanceMethod objectInit ∈ tb ∧ Cond.code objectInit ⟨#[0xb1]⟩ 1 none ∈ tb := ⟨tb_1 182 (by decide +kernel) (by decide +kernel), tb_1 32 (by decide +kernel) (by decide +kernel), tb_1 33 (by decide +kernel) (by decide +kernel)⟩
theorem qX8_init_4 : Dc mX8_init 4 (.return_) 1 5 := ⟨by decide +kernel, rfl⟩
set_option maxRecDepth 20000 in
set_option maxHeartbeats 4000000 in
theorem kb_X8_init_23 {σ : St} {L : List (Nat × Nat)} : BCt mX8_init 1 [.ref 22] 23 σ (nuL L) (23, σ, nuL (L)) := by
  refine BCt.ofE (by decide +kernel) rfl rfl ⟨Nat.le_of_ble_eq_true rfl, Nat.le_of_ble_eq_true rfl⟩ ?_
  show BE mX8_init 1 23 (23, σ, nuL (L)) 0 [some (.ref 22)] [] 23 σ (nuL L)
  refine b_aload_n qX8_init_0 rfl ?_
  refine b_obj qX8_init_1 ob_X8_1.1 ob_X8_1.2.1 ob_X8_1.2.2 rfl rfl ?_
  exact b_ret qX8_init_4 rfl rfl
theorem mj_X1_28 : MwJ RX1 28 mX8_init 0 "CoastLights" := ⟨mw_X8_init, rfl, tb_1 180 (by decide +kernel) (by decide +kernel), rfl, by decide +kernel⟩
theorem qX1_init_73 : Dc mX1_init 73 (.aastore) 1 74 := ⟨by decide +kernel, rfl⟩
theorem zr_5_0 : rr 5 0 = 22 := by decide +kernel
theorem qX1_init_74 : Dc mX1_init 74 (.iinc 1 1) 3 77 := ⟨by decide +kernel, rfl⟩
theorem qX1_init_77 : Dc mX1_init 77 (.goto (-21)) 3 80 := ⟨by decide +kernel, rfl⟩
theorem zs_23 : sh 23 = 8 := by decide +kernel
set_option maxRecDepth 20000 in
set_option maxHeartbeats 4000000 in
theorem kb_X8_init_24 {σ : St} {L : List (Nat × Nat)} : BCt mX8_init 1 [.ref 23] 24 σ (nuL L) (24, σ, nuL (L)) := by
  refine BCt.ofE (by decide +kernel) rfl rfl ⟨Nat.le_of_ble_eq_true rfl, Nat.le_of_ble_eq_true rfl⟩ ?_
  show BE mX8_init 1 24 (24, σ, nuL (L)) 0 [some (.ref 23)] [] 24 σ (nuL L)
  refine b_aload_n qX8_init_0 rfl ?_
  refine b_obj qX8_init_1 ob_X8_1.1 ob_X8_1.2.1 ob_X8_1.2.2 rfl rfl ?_
  exact b_ret qX8_init_4 rfl rfl
theorem zr_5_1 : rr 5 1 = 23 := by decide +kernel
theorem zs_24 : sh 24 = 8 := by decide +kernel
set_option maxRecDepth 20000 in
set_option maxHeartbeats 4000000 in
theorem kb_X8_init_25 {σ : St} {L : List (Nat × Nat)} : BCt mX8_init 1 [.ref 24] 25 σ (nuL L) (25, σ, nuL (L)) := by
  refine BCt.ofE (by decide +kernel) rfl rfl ⟨Nat.le_of_ble_eq_true rfl, Nat.le_of_ble_eq_true rfl⟩ ?_
  show BE mX8_init 1 25 (25, σ, nuL (L)) 0 [some (.ref 24)] [] 25 σ (nuL L)
  refine b_aload_n qX8_init_0 rfl ?_
  refine b_obj qX8_init_1 ob_X8_1.1 ob_X8_1.2.1 ob_X8_1.2.2 rfl rfl ?_
  exact b_ret qX8_init_4 rfl rfl
theorem zr_5_2 : rr 5 2 = 24 := by decide +kernel
theorem zs_25 : sh 25 = 8 := by decide +kernel
set_option maxRecDepth 20000 in
set_option maxHeartbeats 4000000 in
theorem kb_X8_init_26 {σ : St} {L : List (Nat × Nat)} : BCt mX8_init 1 [.ref 25] 26 σ (nuL L) (26, σ, nuL (L)) := by
  refine BCt.ofE (by decide +kernel) rfl rfl ⟨Nat.le_of_ble_eq_true rfl, Nat.le_of_ble_eq_true rfl⟩ ?_
  show BE mX8_init 1 26 (26, σ, nuL (L)) 0 [some (.ref 25)] [] 26 σ (nuL L)
  refine b_aload_n qX8_init_0 rfl ?_
  refine b_obj qX8_init_1 ob_X8_1.1 ob_X8_1.2.1 ob_X8_1.2.2 rfl rfl ?_
  exact b_ret qX8_init_4 rfl rfl
theorem zr_5_3 : rr 5 3 = 25 := by decide +kernel
theorem qX1_init_80 : Dc mX1_init 80 (.return_) 1 81 := ⟨by decide +kernel, rfl⟩
set_option maxRecDepth 20000 in
set_option maxHeartbeats 4000000 in
theorem kb_X1_init_4 {σ : St} {L : List (Nat × Nat)} : BCt mX1_init 2 [.ref 3] 4 σ (nuL L) (26, sI (σ) 3 4 (nI 30), nuL ((5, 3) :: (5, 2) :: (5, 1) :: (5, 0) :: (4, 7) :: (20, 11) :: (4, 6) :: (18, 11) :: (4, 5) :: (16, 11) :: (4, 4) :: (14, 11) :: (4, 3) :: (12, 11) :: (4, 2) :: (10, 11) :: (4, 1) :: (8, 11) :: (4, 0) :: (6, 11) :: (3, 1) :: (3, 0) :: L)) := by
  refine BCt.ofE (by decide +kernel) rfl rfl ⟨Nat.le_of_ble_eq_true rfl, Nat.le_of_ble_eq_true rfl⟩ ?_
  show BE mX1_init 2 4 (26, sI (σ) 3 4 (nI 30), nuL ((5, 3) :: (5, 2) :: (5, 1) :: (5, 0) :: (4, 7) :: (20, 11) :: (4, 6) :: (18, 11) :: (4, 5) :: (16, 11) :: (4, 4) :: (14, 11) :: (4, 3) :: (12, 11) :: (4, 2) :: (10, 11) :: (4, 1) :: (8, 11) :: (4, 0) :: (6, 11) :: (3, 1) :: (3, 0) :: L)) 0 [some (.ref 3), none] [] 4 σ (nuL L)
  refine b_aload_n qX1_init_0 rfl ?_
  refine b_obj qX1_init_1 ob_X1_3.1 ob_X1_3.2.1 ob_X1_3.2.2 rfl rfl ?_
  refine b_aload_n qX1_init_4 rfl ?_
  refine b_bipush (nI 8) qX1_init_5 (by decide +kernel) ?_
  refine b_anew qX1_init_7 na_X1_9 zs_4 zl_4 rfl (Nat.le_of_ble_eq_true rfl) ?_
  refine b_putrL qX1_init_10 fq_X1_11 rfl zs_3 zk_1_0 zr_3_0 (by decide) ?_
  refine b_aload_n qX1_init_13 rfl ?_
  refine b_iconst (nI 4) qX1_init_14 (by decide +kernel) ?_
  refine b_anew qX1_init_15 na_X1_17 zs_5 zl_5 rfl (Nat.le_of_ble_eq_true rfl) ?_
  refine b_putrL qX1_init_18 fq_X1_19 rfl zs_3 zk_1_1 zr_3_1 (by decide) ?_
  refine b_aload_n qX1_init_21 rfl ?_
  refine b_bipush (nI 30) qX1_init_22 (by decide +kernel) ?_
  refine b_puti qX1_init_24 fp_X1_23 zs_3 zk_1_4 (by decide) ?_
  refine b_iconst (nI 0) qX1_init_27 (by decide +kernel) ?_
  refine b_istore_n (lv2 := [some (.ref 3), some (.int (nI 0))]) qX1_init_28 rfl rfl rfl ?_
  refine b_iload_n qX1_init_29 rfl ?_
  refine b_bipush (nI 8) qX1_init_30 (by decide +kernel) ?_
  refine b_icmp_ge (tgt := 54) qX1_init_32 (by decide) (fun h => absurd h (by decide)) (fun _ => ?_)
  refine b_aload_n qX1_init_35 rfl ?_
  refine b_getr 4 qX1_init_36 fl_X1_11 zs_3 zk_1_0 (by decide) zr_3_0 rfl ?_
  refine b_iload_n qX1_init_39 rfl ?_
  refine b_new qX1_init_40 nw_X1_9 zs_6 (Nat.le_of_ble_eq_true rfl) ?_
  refine b_dup qX1_init_43 rfl ?_
  refine b_iniN0 qX1_init_44 mj_X1_27 rfl rfl kb_X4_init_7 (Nat.le_of_ble_eq_true rfl) ?_
  dsimp only
  refine b_aastL qX1_init_47 zs_4 (by decide) (fun _ => rfl) rfl zs_6 zr_4_0 zl_4 (by decide) rfl (by decide) (by decide) ?_
  refine b_iinc (1) (nI 1) (lv2 := [some (.ref 3), some (.int (nI 1))]) qX1_init_48 rfl rfl (by decide +kernel) (by decide +kernel) rfl ?_
  refine b_goto (tgt := 29) qX1_init_51 (by decide) ?_
  refine b_iload_n qX1_init_29 rfl ?_
  refine b_bipush (nI 8) qX1_init_30 (by decide +kernel) ?_
  refine b_icmp_ge (tgt := 54) qX1_init_32 (by decide) (fun h => absurd h (by decide)) (fun _ => ?_)
  refine b_aload_n qX1_init_35 rfl ?_
  refine b_getr 4 qX1_init_36 fl_X1_11 zs_3 zk_1_0 (by decide) zr_3_0 rfl ?_
  refine b_iload_n qX1_init_39 rfl ?_
  refine b_new qX1_init_40 nw_X1_9 zs_8 (Nat.le_of_ble_eq_true rfl) ?_
  refine b_dup qX1_init_43 rfl ?_
  refine b_iniN0 qX1_init_44 mj_X1_27 rfl rfl kb_X4_init_9 (Nat.le_of_ble_eq_true rfl) ?_
  dsimp only
  refine b_aastL qX1_init_47 zs_4 (by decide) (fun _ => rfl) rfl zs_8 zr_4_1 zl_4 (by decide) rfl (by decide) (by decide) ?_
  refine b_iinc (1) (nI 2) (lv2 := [some (.ref 3), some (.int (nI 2))]) qX1_init_48 rfl rfl (by decide +kernel) (by decide +kernel) rfl ?_
  refine b_goto (tgt := 29) qX1_init_51 (by decide) ?_
  refine b_iload_n qX1_init_29 rfl ?_
  refine b_bipush (nI 8) qX1_init_30 (by decide +kernel) ?_
  refine b_icmp_ge (tgt := 54) qX1_init_32 (by decide) (fun h => absurd h (by decide)) (fun _ => ?_)
  refine b_aload_n qX1_init_35 rfl ?_
  refine b_getr 4 qX1_init_36 fl_X1_11 zs_3 zk_1_0 (by decide) zr_3_0 rfl ?_
  refine b_iload_n qX1_init_39 rfl ?_
  refine b_new qX1_init_40 nw_X1_9 zs_10 (Nat.le_of_ble_eq_true rfl) ?_
  refine b_dup qX1_init_43 rfl ?_
  refine b_iniN0 qX1_init_44 mj_X1_27 rfl rfl kb_X4_init_11 (Nat.le_of_ble_eq_true rfl) ?_
  dsimp only
  refine b_aastL qX1_init_47 zs_4 (by decide) (fun _ => rfl) rfl zs_10 zr_4_2 zl_4 (by decide) rfl (by decide) (by decide) ?_
  refine b_iinc (1) (nI 3) (lv2 := [some (.ref 3), some (.int (nI 3))]) qX1_init_48 rfl rfl (by decide +kernel) (by decide +kernel) rfl ?_
  refine b_goto (tgt := 29) qX1_init_51 (by decide) ?_
  refine b_iload_n qX1_init_29 rfl ?_
  refine b_bipush (nI 8) qX1_init_30 (by decide +kernel) ?_
  refine b_icmp_ge (tgt := 54) qX1_init_32 (by decide) (fun h => absurd h (by decide)) (fun _ => ?_)
  refine b_aload_n qX1_init_35 rfl ?_
  refine b_getr 4 qX1_init_36 fl_X1_11 zs_3 zk_1_0 (by decide) zr_3_0 rfl ?_
  refine b_iload_n qX1_init_39 rfl ?_
  refine b_new qX1_init_40 nw_X1_9 zs_12 (Nat.le_of_ble_eq_true rfl) ?_
  refine b_dup qX1_init_43 rfl ?_
  refine b_iniN0 qX1_init_44 mj_X1_27 rfl rfl kb_X4_init_13 (Nat.le_of_ble_eq_true rfl) ?_
  dsimp only
  refine b_aastL qX1_init_47 zs_4 (by decide) (fun _ => rfl) rfl zs_12 zr_4_3 zl_4 (by decide) rfl (by decide) (by decide) ?_
  refine b_iinc (1) (nI 4) (lv2 := [some (.ref 3), some (.int (nI 4))]) qX1_init_48 rfl rfl (by decide +kernel) (by decide +kernel) rfl ?_
  refine b_goto (tgt := 29) qX1_init_51 (by decide) ?_
  refine b_iload_n qX1_init_29 rfl ?_
  refine b_bipush (nI 8) qX1_init_30 (by decide +kernel) ?_
  refine b_icmp_ge (tgt := 54) qX1_init_32 (by decide) (fun h => absurd h (by decide)) (fun _ => ?_)
  refine b_aload_n qX1_init_35 rfl ?_
  refine b_getr 4 qX1_init_36 fl_X1_11 zs_3 zk_1_0 (by decide) zr_3_0 rfl ?_
  refine b_iload_n qX1_init_39 rfl ?_
  refine b_new qX1_init_40 nw_X1_9 zs_14 (Nat.le_of_ble_eq_true rfl) ?_
  refine b_dup qX1_init_43 rfl ?_
  refine b_iniN0 qX1_init_44 mj_X1_27 rfl rfl kb_X4_init_15 (Nat.le_of_ble_eq_true rfl) ?_
  dsimp only
  refine b_aastL qX1_init_47 zs_4 (by decide) (fun _ => rfl) rfl zs_14 zr_4_4 zl_4 (by decide) rfl (by decide) (by decide) ?_
  refine b_iinc (1) (nI 5) (lv2 := [some (.ref 3), some (.int (nI 5))]) qX1_init_48 rfl rfl (by decide +kernel) (by decide +kernel) rfl ?_
  refine b_goto (tgt := 29) qX1_init_51 (by decide) ?_
  refine b_iload_n qX1_init_29 rfl ?_
  refine b_bipush (nI 8) qX1_init_30 (by decide +kernel) ?_
  refine b_icmp_ge (tgt := 54) qX1_init_32 (by decide) (fun h => absurd h (by decide)) (fun _ => ?_)
  refine b_aload_n qX1_init_35 rfl ?_
  refine b_getr 4 qX1_init_36 fl_X1_11 zs_3 zk_1_0 (by decide) zr_3_0 rfl ?_
  refine b_iload_n qX1_init_39 rfl ?_
  refine b_new qX1_init_40 nw_X1_9 zs_16 (Nat.le_of_ble_eq_true rfl) ?_
  refine b_dup qX1_init_43 rfl ?_
  refine b_iniN0 qX1_init_44 mj_X1_27 rfl rfl kb_X4_init_17 (Nat.le_of_ble_eq_true rfl) ?_
  dsimp only
  refine b_aastL qX1_init_47 zs_4 (by decide) (fun _ => rfl) rfl zs_16 zr_4_5 zl_4 (by decide) rfl (by decide) (by decide) ?_
  refine b_iinc (1) (nI 6) (lv2 := [some (.ref 3), some (.int (nI 6))]) qX1_init_48 rfl rfl (by decide +kernel) (by decide +kernel) rfl ?_
  refine b_goto (tgt := 29) qX1_init_51 (by decide) ?_
  refine b_iload_n qX1_init_29 rfl ?_
  refine b_bipush (nI 8) qX1_init_30 (by decide +kernel) ?_
  refine b_icmp_ge (tgt := 54) qX1_init_32 (by decide) (fun h => absurd h (by decide)) (fun _ => ?_)
  refine b_aload_n qX1_init_35 rfl ?_
  refine b_getr 4 qX1_init_36 fl_X1_11 zs_3 zk_1_0 (by decide) zr_3_0 rfl ?_
  refine b_iload_n qX1_init_39 rfl ?_
  refine b_new qX1_init_40 nw_X1_9 zs_18 (Nat.le_of_ble_eq_true rfl) ?_
  refine b_dup qX1_init_43 rfl ?_
  refine b_iniN0 qX1_init_44 mj_X1_27 rfl rfl kb_X4_init_19 (Nat.le_of_ble_eq_true rfl) ?_
  dsimp only
  refine b_aastL qX1_init_47 zs_4 (by decide) (fun _ => rfl) rfl zs_18 zr_4_6 zl_4 (by decide) rfl (by decide) (by decide) ?_
  refine b_iinc (1) (nI 7) (lv2 := [some (.ref 3), some (.int (nI 7))]) qX1_init_48 rfl rfl (by decide +kernel) (by decide +kernel) rfl ?_
  refine b_goto (tgt := 29) qX1_init_51 (by decide) ?_
  refine b_iload_n qX1_init_29 rfl ?_
  refine b_bipush (nI 8) qX1_init_30 (by decide +kernel) ?_
  refine b_icmp_ge (tgt := 54) qX1_init_32 (by decide) (fun h => absurd h (by decide)) (fun _ => ?_)
  refine b_aload_n qX1_init_35 rfl ?_
  refine b_getr 4 qX1_init_36 fl_X1_11 zs_3 zk_1_0 (by decide) zr_3_0 rfl ?_
  refine b_iload_n qX1_init_39 rfl ?_
  refine b_new qX1_init_40 nw_X1_9 zs_20 (Nat.le_of_ble_eq_true rfl) ?_
  refine b_dup qX1_init_43 rfl ?_
  refine b_iniN0 qX1_init_44 mj_X1_27 rfl rfl kb_X4_init_21 (Nat.le_of_ble_eq_true rfl) ?_
  dsimp only
  refine b_aastL qX1_init_47 zs_4 (by decide) (fun _ => rfl) rfl zs_20 zr_4_7 zl_4 (by decide) rfl (by decide) (by decide) ?_
  refine b_iinc (1) (nI 8) (lv2 := [some (.ref 3), some (.int (nI 8))]) qX1_init_48 rfl rfl (by decide +kernel) (by decide +kernel) rfl ?_
  refine b_goto (tgt := 29) qX1_init_51 (by decide) ?_
  refine b_iload_n qX1_init_29 rfl ?_
  refine b_bipush (nI 8) qX1_init_30 (by decide +kernel) ?_
  refine b_icmp_ge (tgt := 54) qX1_init_32 (by decide) (fun _ => ?_) (fun h => absurd (by decide) h)
  refine b_iconst (nI 0) qX1_init_54 (by decide +kernel) ?_
  refine b_istore_n (lv2 := [some (.ref 3), some (.int (nI 0))]) qX1_init_55 rfl rfl rfl ?_
  refine b_iload_n qX1_init_56 rfl ?_
  refine b_iconst (nI 4) qX1_init_57 (by decide +kernel) ?_
  refine b_icmp_ge (tgt := 80) qX1_init_58 (by decide) (fun h => absurd h (by decide)) (fun _ => ?_)
  refine b_aload_n qX1_init_61 rfl ?_
  refine b_getr 5 qX1_init_62 fl_X1_19 zs_3 zk_1_1 (by decide) zr_3_1 rfl ?_
  refine b_iload_n qX1_init_65 rfl ?_
  refine b_new qX1_init_66 nw_X1_17 zs_22 (Nat.le_of_ble_eq_true rfl) ?_
  refine b_dup qX1_init_69 rfl ?_
  refine b_iniN0 qX1_init_70 mj_X1_28 rfl rfl kb_X8_init_23 (Nat.le_of_ble_eq_true rfl) ?_
  dsimp only
  refine b_aastL qX1_init_73 zs_5 (by decide) (fun _ => rfl) rfl zs_22 zr_5_0 zl_5 (by decide) rfl (by decide) (by decide) ?_
  refine b_iinc (1) (nI 1) (lv2 := [some (.ref 3), some (.int (nI 1))]) qX1_init_74 rfl rfl (by decide +kernel) (by decide +kernel) rfl ?_
  refine b_goto (tgt := 56) qX1_init_77 (by decide) ?_
  refine b_iload_n qX1_init_56 rfl ?_
  refine b_iconst (nI 4) qX1_init_57 (by decide +kernel) ?_
  refine b_icmp_ge (tgt := 80) qX1_init_58 (by decide) (fun h => absurd h (by decide)) (fun _ => ?_)
  refine b_aload_n qX1_init_61 rfl ?_
  refine b_getr 5 qX1_init_62 fl_X1_19 zs_3 zk_1_1 (by decide) zr_3_1 rfl ?_
  refine b_iload_n qX1_init_65 rfl ?_
  refine b_new qX1_init_66 nw_X1_17 zs_23 (Nat.le_of_ble_eq_true rfl) ?_
  refine b_dup qX1_init_69 rfl ?_
  refine b_iniN0 qX1_init_70 mj_X1_28 rfl rfl kb_X8_init_24 (Nat.le_of_ble_eq_true rfl) ?_
  dsimp only
  refine b_aastL qX1_init_73 zs_5 (by decide) (fun _ => rfl) rfl zs_23 zr_5_1 zl_5 (by decide) rfl (by decide) (by decide) ?_
  refine b_iinc (1) (nI 2) (lv2 := [some (.ref 3), some (.int (nI 2))]) qX1_init_74 rfl rfl (by decide +kernel) (by decide +kernel) rfl ?_
  refine b_goto (tgt := 56) qX1_init_77 (by decide) ?_
  refine b_iload_n qX1_init_56 rfl ?_
  refine b_iconst (nI 4) qX1_init_57 (by decide +kernel) ?_
  refine b_icmp_ge (tgt := 80) qX1_init_58 (by decide) (fun h => absurd h (by decide)) (fun _ => ?_)
  refine b_aload_n qX1_init_61 rfl ?_
  refine b_getr 5 qX1_init_62 fl_X1_19 zs_3 zk_1_1 (by decide) zr_3_1 rfl ?_
  refine b_iload_n qX1_init_65 rfl ?_
  refine b_new qX1_init_66 nw_X1_17 zs_24 (Nat.le_of_ble_eq_true rfl) ?_
  refine b_dup qX1_init_69 rfl ?_
  refine b_iniN0 qX1_init_70 mj_X1_28 rfl rfl kb_X8_init_25 (Nat.le_of_ble_eq_true rfl) ?_
  dsimp only
  refine b_aastL qX1_init_73 zs_5 (by decide) (fun _ => rfl) rfl zs_24 zr_5_2 zl_5 (by decide) rfl (by decide) (by decide) ?_
  refine b_iinc (1) (nI 3) (lv2 := [some (.ref 3), some (.int (nI 3))]) qX1_init_74 rfl rfl (by decide +kernel) (by decide +kernel) rfl ?_
  refine b_goto (tgt := 56) qX1_init_77 (by decide) ?_
  refine b_iload_n qX1_init_56 rfl ?_
  refine b_iconst (nI 4) qX1_init_57 (by decide +kernel) ?_
  refine b_icmp_ge (tgt := 80) qX1_init_58 (by decide) (fun h => absurd h (by decide)) (fun _ => ?_)
  refine b_aload_n qX1_init_61 rfl ?_
  refine b_getr 5 qX1_init_62 fl_X1_19 zs_3 zk_1_1 (by decide) zr_3_1 rfl ?_
  refine b_iload_n qX1_init_65 rfl ?_
  refine b_new qX1_init_66 nw_X1_17 zs_25 (Nat.le_of_ble_eq_true rfl) ?_
  refine b_dup qX1_init_69 rfl ?_
  refine b_iniN0 qX1_init_70 mj_X1_28 rfl rfl kb_X8_init_26 (Nat.le_of_ble_eq_true rfl) ?_
  dsimp only
  refine b_aastL qX1_init_73 zs_5 (by decide) (fun _ => rfl) rfl zs_25 zr_5_3 zl_5 (by decide) rfl (by decide) (by decide) ?_
  refine b_iinc (1) (nI 4) (lv2 := [some (.ref 3), some (.int (nI 4))]) qX1_init_74 rfl rfl (by decide +kernel) (by decide +kernel) rfl ?_
  refine b_goto (tgt := 56) qX1_init_77 (by decide) ?_
  refine b_iload_n qX1_init_56 rfl ?_
  refine b_iconst (nI 4) qX1_init_57 (by decide +kernel) ?_
  refine b_icmp_ge (tgt := 80) qX1_init_58 (by decide) (fun _ => ?_) (fun h => absurd (by decide) h)
  exact b_ret qX1_init_80 rfl rfl
theorem mi_X11_18 : MwI RX11 18 mX1_init 0 := ⟨mw_X1_init, rfl, tb_1 93 (by decide +kernel) (by decide +kernel), rfl, tb_1 92 (by decide +kernel) (by decide +kernel)⟩
theorem qX11_init_23 : Dc mX11_init 23 (.putfield 19) 3 26 := ⟨by decide +kernel, rfl⟩
theorem fq_X11_19 : Fq RX11 19 10 1 true := ⟨_, _, _, tyX11, _, rfl, by decide, cws_10, tb_2 169 (by decide +kernel) (by decide +kernel), tyX11_ok, nmX11, rfl, fun _ => rfl, tyX11_ok 1 (by decide), by decide +kernel, fun _ => ⟨rfl, rfl⟩⟩
theorem zk_10_1 : kd 10 1 = 2 := by decide +kernel
theorem zr_0_1 : rr 0 1 = 3 := by decide +kernel
theorem qX11_init_26 : Dc mX11_init 26 (.aload_n 0) 1 27 := ⟨by decide +kernel, rfl⟩
theorem qX11_init_27 : Dc mX11_init 27 (.new 16) 3 30 := ⟨by decide +kernel, rfl⟩
theorem zs_26 : sh 26 = 1 := by decide +kernel
theorem qX11_init_30 : Dc mX11_init 30 (.dup) 1 31 := ⟨by decide +kernel, rfl⟩
theorem qX11_init_31 : Dc mX11_init 31 (.invokespecial 18) 3 34 := ⟨by decide +kernel, rfl⟩
theorem zs_27 : sh 27 = 24 := by decide +kernel
theorem zl_27 : ln 27 = 8 := by decide +kernel
theorem zr_26_0 : rr 26 0 = 27 := by decide +kernel
theorem zs_28 : sh 28 = 25 := by decide +kernel
theorem zl_28 : ln 28 = 4 := by decide +kernel
theorem zr_26_1 : rr 26 1 = 28 := by decide +kernel
theorem zs_29 : sh 29 = 4 := by decide +kernel
theorem zs_30 : sh 30 = 21 := by decide +kernel
theorem zl_30 : ln 30 = 160 := by decide +kernel
theorem zr_29_11 : rr 29 11 = 30 := by decide +kernel
set_option maxRecDepth 20000 in
set_option maxHeartbeats 4000000 in
theorem kb_X4_init_30 {σ : St} {L : List (Nat × Nat)} : BCt mX4_init 1 [.ref 29] 30 σ (nuL L) (31, σ, nuL ((29, 11) :: L)) := by
  refine BCt.ofE (by decide +kernel) rfl rfl ⟨Nat.le_of_ble_eq_true rfl, Nat.le_of_ble_eq_true rfl⟩ ?_
  show BE mX4_init 1 30 (31, σ, nuL ((29, 11) :: L)) 0 [some (.ref 29)] [] 30 σ (nuL L)
  refine b_aload_n qX4_init_0 rfl ?_
  refine b_obj qX4_init_1 ob_X4_3.1 ob_X4_3.2.1 ob_X4_3.2.2 rfl rfl ?_
  refine b_aload_n qX4_init_4 rfl ?_
  refine b_sipush (nI 160) qX4_init_5 (by decide +kernel) ?_
  refine b_newaZ qX4_init_8 ar_boolean zs_30 zl_30 rfl (Nat.le_of_ble_eq_true rfl) ?_
  refine b_putrL qX4_init_10 fq_X4_9 rfl zs_29 zk_4_11 zr_29_11 (by decide) ?_
  exact b_ret qX4_init_13 rfl rfl
theorem zr_27_0 : rr 27 0 = 29 := by decide +kernel
theorem zs_31 : sh 31 = 4 := by decide +kernel
theorem zs_32 : sh 32 = 21 := by decide +kernel
theorem zl_32 : ln 32 = 160 := by decide +kernel
theorem zr_31_11 : rr 31 11 = 32 := by decide +kernel
set_option maxRecDepth 20000 in
set_option maxHeartbeats 4000000 in
theorem kb_X4_init_32 {σ : St} {L : List (Nat × Nat)} : BCt mX4_init 1 [.ref 31] 32 σ (nuL L) (33, σ, nuL ((31, 11) :: L)) := by
  refine BCt.ofE (by decide +kernel) rfl rfl ⟨Nat.le_of_ble_eq_true rfl, Nat.le_of_ble_eq_true rfl⟩ ?_
  show BE mX4_init 1 32 (33, σ, nuL ((31, 11) :: L)) 0 [some (.ref 31)] [] 32 σ (nuL L)
  refine b_aload_n qX4_init_0 rfl ?_
  refine b_obj qX4_init_1 ob_X4_3.1 ob_X4_3.2.1 ob_X4_3.2.2 rfl rfl ?_
  refine b_aload_n qX4_init_4 rfl ?_
  refine b_sipush (nI 160) qX4_init_5 (by decide +kernel) ?_
  refine b_newaZ qX4_init_8 ar_boolean zs_32 zl_32 rfl (Nat.le_of_ble_eq_true rfl) ?_
  refine b_putrL qX4_init_10 fq_X4_9 rfl zs_31 zk_4_11 zr_31_11 (by decide) ?_
  exact b_ret qX4_init_13 rfl rfl
theorem zr_27_1 : rr 27 1 = 31 := by decide +kernel
theorem zs_33 : sh 33 = 4 := by decide +kernel
theorem zs_34 : sh 34 = 21 := by decide +kernel
theorem zl_34 : ln 34 = 160 := by decide +kernel
theorem zr_33_11 : rr 33 11 = 34 := by decide +kernel
set_option maxRecDepth 20000 in
set_option maxHeartbeats 4000000 in
theorem kb_X4_init_34 {σ : St} {L : List (Nat × Nat)} : BCt mX4_init 1 [.ref 33] 34 σ (nuL L) (35, σ, nuL ((33, 11) :: L)) := by
  refine BCt.ofE (by decide +kernel) rfl rfl ⟨Nat.le_of_ble_eq_true rfl, Nat.le_of_ble_eq_true rfl⟩ ?_
  show BE mX4_init 1 34 (35, σ, nuL ((33, 11) :: L)) 0 [some (.ref 33)] [] 34 σ (nuL L)
  refine b_aload_n qX4_init_0 rfl ?_
  refine b_obj qX4_init_1 ob_X4_3.1 ob_X4_3.2.1 ob_X4_3.2.2 rfl rfl ?_
  refine b_aload_n qX4_init_4 rfl ?_
  refine b_sipush (nI 160) qX4_init_5 (by decide +kernel) ?_
  refine b_newaZ qX4_init_8 ar_boolean zs_34 zl_34 rfl (Nat.le_of_ble_eq_true rfl) ?_
  refine b_putrL qX4_init_10 fq_X4_9 rfl zs_33 zk_4_11 zr_33_11 (by decide) ?_
  exact b_ret qX4_init_13 rfl rfl
theorem zr_27_2 : rr 27 2 = 33 := by decide +kernel
theorem zs_35 : sh 35 = 4 := by decide +kernel
theorem zs_36 : sh 36 = 21 := by decide +kernel
theorem zl_36 : ln 36 = 160 := by decide +kernel
theorem zr_35_11 : rr 35 11 = 36 := by decide +kernel
set_option maxRecDepth 20000 in
set_option maxHeartbeats 4000000 in
theorem kb_X4_init_36 {σ : St} {L : List (Nat × Nat)} : BCt mX4_init 1 [.ref 35] 36 σ (nuL L) (37, σ, nuL ((35, 11) :: L)) := by
  refine BCt.ofE (by decide +kernel) rfl rfl ⟨Nat.le_of_ble_eq_true rfl, Nat.le_of_ble_eq_true rfl⟩ ?_
  show BE mX4_init 1 36 (37, σ, nuL ((35, 11) :: L)) 0 [some (.ref 35)] [] 36 σ (nuL L)
  refine b_aload_n qX4_init_0 rfl ?_
  refine b_obj qX4_init_1 ob_X4_3.1 ob_X4_3.2.1 ob_X4_3.2.2 rfl rfl ?_
  refine b_aload_n qX4_init_4 rfl ?_
  refine b_sipush (nI 160) qX4_init_5 (by decide +kernel) ?_
  refine b_newaZ qX4_init_8 ar_boolean zs_36 zl_36 rfl (Nat.le_of_ble_eq_true rfl) ?_
  refine b_putrL qX4_init_10 fq_X4_9 rfl zs_35 zk_4_11 zr_35_11 (by decide) ?_
  exact b_ret qX4_init_13 rfl rfl
theorem zr_27_3 : rr 27 3 = 35 := by decide +kernel
theorem zs_37 : sh 37 = 4 := by decide +kernel
theorem zs_38 : sh 38 = 21 := by decide +kernel
theorem zl_38 : ln 38 = 160 := by decide +kernel
theorem zr_37_11 : rr 37 11 = 38 := by decide +kernel
set_option maxRecDepth 20000 in
set_option maxHeartbeats 4000000 in
theorem kb_X4_init_38 {σ : St} {L : List (Nat × Nat)} : BCt mX4_init 1 [.ref 37] 38 σ (nuL L) (39, σ, nuL ((37, 11) :: L)) := by
  refine BCt.ofE (by decide +kernel) rfl rfl ⟨Nat.le_of_ble_eq_true rfl, Nat.le_of_ble_eq_true rfl⟩ ?_
  show BE mX4_init 1 38 (39, σ, nuL ((37, 11) :: L)) 0 [some (.ref 37)] [] 38 σ (nuL L)
  refine b_aload_n qX4_init_0 rfl ?_
  refine b_obj qX4_init_1 ob_X4_3.1 ob_X4_3.2.1 ob_X4_3.2.2 rfl rfl ?_
  refine b_aload_n qX4_init_4 rfl ?_
  refine b_sipush (nI 160) qX4_init_5 (by decide +kernel) ?_
  refine b_newaZ qX4_init_8 ar_boolean zs_38 zl_38 rfl (Nat.le_of_ble_eq_true rfl) ?_
  refine b_putrL qX4_init_10 fq_X4_9 rfl zs_37 zk_4_11 zr_37_11 (by decide) ?_
  exact b_ret qX4_init_13 rfl rfl
theorem zr_27_4 : rr 27 4 = 37 := by decide +kernel
theorem zs_39 : sh 39 = 4 := by decide +kernel
theorem zs_40 : sh 40 = 21 := by decide +kernel
theorem zl_40 : ln 40 = 160 := by decide +kernel
theorem zr_39_11 : rr 39 11 = 40 := by decide +kernel
set_option maxRecDepth 20000 in
set_option maxHeartbeats 4000000 in
theorem kb_X4_init_40 {σ : St} {L : List (Nat × Nat)} : BCt mX4_init 1 [.ref 39] 40 σ (nuL L) (41, σ, nuL ((39, 11) :: L)) := by
  refine BCt.ofE (by decide +kernel) rfl rfl ⟨Nat.le_of_ble_eq_true rfl, Nat.le_of_ble_eq_true rfl⟩ ?_
  show BE mX4_init 1 40 (41, σ, nuL ((39, 11) :: L)) 0 [some (.ref 39)] [] 40 σ (nuL L)
  refine b_aload_n qX4_init_0 rfl ?_
  refine b_obj qX4_init_1 ob_X4_3.1 ob_X4_3.2.1 ob_X4_3.2.2 rfl rfl ?_
  refine b_aload_n qX4_init_4 rfl ?_
  refine b_sipush (nI 160) qX4_init_5 (by decide +kernel) ?_
  refine b_newaZ qX4_init_8 ar_boolean zs_40 zl_40 rfl (Nat.le_of_ble_eq_true rfl) ?_
  refine b_putrL qX4_init_10 fq_X4_9 rfl zs_39 zk_4_11 zr_39_11 (by decide) ?_
  exact b_ret qX4_init_13 rfl rfl
theorem zr_27_5 : rr 27 5 = 39 := by decide +kernel
theorem zs_41 : sh 41 = 4 := by decide +kernel
theorem zs_42 : sh 42 = 21 := by decide +kernel
theorem zl_42 : ln 42 = 160 := by decide +kernel
theorem zr_41_11 : rr 41 11 = 42 := by decide +kernel
set_option maxRecDepth 20000 in
set_option maxHeartbeats 4000000 in
theorem kb_X4_init_42 {σ : St} {L : List (Nat × Nat)} : BCt mX4_init 1 [.ref 41] 42 σ (nuL L) (43, σ, nuL ((41, 11) :: L)) := by
  refine BCt.ofE (by decide +kernel) rfl rfl ⟨Nat.le_of_ble_eq_true rfl, Nat.le_of_ble_eq_true rfl⟩ ?_
  show BE mX4_init 1 42 (43, σ, nuL ((41, 11) :: L)) 0 [some (.ref 41)] [] 42 σ (nuL L)
  refine b_aload_n qX4_init_0 rfl ?_
  refine b_obj qX4_init_1 ob_X4_3.1 ob_X4_3.2.1 ob_X4_3.2.2 rfl rfl ?_
  refine b_aload_n qX4_init_4 rfl ?_
  refine b_sipush (nI 160) qX4_init_5 (by decide +kernel) ?_
  refine b_newaZ qX4_init_8 ar_boolean zs_42 zl_42 rfl (Nat.le_of_ble_eq_true rfl) ?_
  refine b_putrL qX4_init_10 fq_X4_9 rfl zs_41 zk_4_11 zr_41_11 (by decide) ?_
  exact b_ret qX4_init_13 rfl rfl
theorem zr_27_6 : rr 27 6 = 41 := by decide +kernel
theorem zs_43 : sh 43 = 4 := by decide +kernel
theorem zs_44 : sh 44 = 21 := by decide +kernel
theorem zl_44 : ln 44 = 160 := by decide +kernel
theorem zr_43_11 : rr 43 11 = 44 := by decide +kernel
set_option maxRecDepth 20000 in
set_option maxHeartbeats 4000000 in
theorem kb_X4_init_44 {σ : St} {L : List (Nat × Nat)} : BCt mX4_init 1 [.ref 43] 44 σ (nuL L) (45, σ, nuL ((43, 11) :: L)) := by
  refine BCt.ofE (by decide +kernel) rfl rfl ⟨Nat.le_of_ble_eq_true rfl, Nat.le_of_ble_eq_true rfl⟩ ?_
  show BE mX4_init 1 44 (45, σ, nuL ((43, 11) :: L)) 0 [some (.ref 43)] [] 44 σ (nuL L)
  refine b_aload_n qX4_init_0 rfl ?_
  refine b_obj qX4_init_1 ob_X4_3.1 ob_X4_3.2.1 ob_X4_3.2.2 rfl rfl ?_
  refine b_aload_n qX4_init_4 rfl ?_
  refine b_sipush (nI 160) qX4_init_5 (by decide +kernel) ?_
  refine b_newaZ qX4_init_8 ar_boolean zs_44 zl_44 rfl (Nat.le_of_ble_eq_true rfl) ?_
  refine b_putrL qX4_init_10 fq_X4_9 rfl zs_43 zk_4_11 zr_43_11 (by decide) ?_
  exact b_ret qX4_init_13 rfl rfl
theorem zr_27_7 : rr 27 7 = 43 := by decide +kernel
theorem zs_45 : sh 45 = 8 := by decide +kernel
set_option maxRecDepth 20000 in
set_option maxHeartbeats 4000000 in
theorem kb_X8_init_46 {σ : St} {L : List (Nat × Nat)} : BCt mX8_init 1 [.ref 45] 46 σ (nuL L) (46, σ, nuL (L)) := by
  refine BCt.ofE (by decide +kernel) rfl rfl ⟨Nat.le_of_ble_eq_true rfl, Nat.le_of_ble_eq_true rfl⟩ ?_
  show BE mX8_init 1 46 (46, σ, nuL (L)) 0 [some (.ref 45)] [] 46 σ (nuL L)
  refine b_aload_n qX8_init_0 rfl ?_
  refine b_obj qX8_init_1 ob_X8_1.1 ob_X8_1.2.1 ob_X8_1.2.2 rfl rfl ?_
  exact b_ret qX8_init_4 rfl rfl
theorem zr_28_0 : rr 28 0 = 45 := by decide +kernel
theorem zs_46 : sh 46 = 8 := by decide +kernel
set_option maxRecDepth 20000 in
set_option maxHeartbeats 4000000 in
theorem kb_X8_init_47 {σ : St} {L : List (Nat × Nat)} : BCt mX8_init 1 [.ref 46] 47 σ (nuL L) (47, σ, nuL (L)) := by
  refine BCt.ofE (by decide +kernel) rfl rfl ⟨Nat.le_of_ble_eq_true rfl, Nat.le_of_ble_eq_true rfl⟩ ?_
  show BE mX8_init 1 47 (47, σ, nuL (L)) 0 [some (.ref 46)] [] 47 σ (nuL L)
  refine b_aload_n qX8_init_0 rfl ?_
  refine b_obj qX8_init_1 ob_X8_1.1 ob_X8_1.2.1 ob_X8_1.2.2 rfl rfl ?_
  exact b_ret qX8_init_4 rfl rfl
theorem zr_28_1 : rr 28 1 = 46 := by decide +kernel
theorem zs_47 : sh 47 = 8 := by decide +kernel
set_option maxRecDepth 20000 in
set_option maxHeartbeats 4000000 in
theorem kb_X8_init_48 {σ : St} {L : List (Nat × Nat)} : BCt mX8_init 1 [.ref 47] 48 σ (nuL L) (48, σ, nuL (L)) := by
  refine BCt.ofE (by decide +kernel) rfl rfl ⟨Nat.le_of_ble_eq_true rfl, Nat.le_of_ble_eq_true rfl⟩ ?_
  show BE mX8_init 1 48 (48, σ, nuL (L)) 0 [some (.ref 47)] [] 48 σ (nuL L)
  refine b_aload_n qX8_init_0 rfl ?_
  refine b_obj qX8_init_1 ob_X8_1.1 ob_X8_1.2.1 ob_X8_1.2.2 rfl rfl ?_
  exact b_ret qX8_init_4 rfl rfl
theorem zr_28_2 : rr 28 2 = 47 := by decide +kernel
theorem zs_48 : sh 48 = 8 := by decide +kernel
set_option maxRecDepth 20000 in
set_option maxHeartbeats 4000000 in
theorem kb_X8_init_49 {σ : St} {L : List (Nat × Nat)} : BCt mX8_init 1 [.ref 48] 49 σ (nuL L) (49, σ, nuL (L)) := by
  refine BCt.ofE (by decide +kernel) rfl rfl ⟨Nat.le_of_ble_eq_true rfl, Nat.le_of_ble_eq_true rfl⟩ ?_
  show BE mX8_init 1 49 (49, σ, nuL (L)) 0 [some (.ref 48)] [] 49 σ (nuL L)
  refine b_aload_n qX8_init_0 rfl ?_
  refine b_obj qX8_init_1 ob_X8_1.1 ob_X8_1.2.1 ob_X8_1.2.2 rfl rfl ?_
  exact b_ret qX8_init_4 rfl rfl
theorem zr_28_3 : rr 28 3 = 48 := by decide +kernel
set_option maxRecDepth 20000 in
set_option maxHeartbeats 4000000 in
theorem kb_X1_init_27 {σ : St} {L : List (Nat × Nat)} : BCt mX1_init 2 [.ref 26] 27 σ (nuL L) (49, sI (σ) 26 4 (nI 30), nuL ((28, 3) :: (28, 2) :: (28, 1) :: (28, 0) :: (27, 7) :: (43, 11) :: (27, 6) :: (41, 11) :: (27, 5) :: (39, 11) :: (27, 4) :: (37, 11) :: (27, 3) :: (35, 11) :: (27, 2) :: (33, 11) :: (27, 1) :: (31, 11) :: (27, 0) :: (29, 11) :: (26, 1) :: (26, 0) :: L)) := by
  refine BCt.ofE (by decide +kernel) rfl rfl ⟨Nat.le_of_ble_eq_true rfl, Nat.le_of_ble_eq_true rfl⟩ ?_
  show BE mX1_init 2 27 (49, sI (σ) 26 4 (nI 30), nuL ((28, 3) :: (28, 2) :: (28, 1) :: (28, 0) :: (27, 7) :: (43, 11) :: (27, 6) :: (41, 11) :: (27, 5) :: (39, 11) :: (27, 4) :: (37, 11) :: (27, 3) :: (35, 11) :: (27, 2) :: (33, 11) :: (27, 1) :: (31, 11) :: (27, 0) :: (29, 11) :: (26, 1) :: (26, 0) :: L)) 0 [some (.ref 26), none] [] 27 σ (nuL L)
  refine b_aload_n qX1_init_0 rfl ?_
  refine b_obj qX1_init_1 ob_X1_3.1 ob_X1_3.2.1 ob_X1_3.2.2 rfl rfl ?_
  refine b_aload_n qX1_init_4 rfl ?_
  refine b_bipush (nI 8) qX1_init_5 (by decide +kernel) ?_
  refine b_anew qX1_init_7 na_X1_9 zs_27 zl_27 rfl (Nat.le_of_ble_eq_true rfl) ?_
  refine b_putrL qX1_init_10 fq_X1_11 rfl zs_26 zk_1_0 zr_26_0 (by decide) ?_
  refine b_aload_n qX1_init_13 rfl ?_
  refine b_iconst (nI 4) qX1_init_14 (by decide +kernel) ?_
  refine b_anew qX1_init_15 na_X1_17 zs_28 zl_28 rfl (Nat.le_of_ble_eq_true rfl) ?_
  refine b_putrL qX1_init_18 fq_X1_19 rfl zs_26 zk_1_1 zr_26_1 (by decide) ?_
  refine b_aload_n qX1_init_21 rfl ?_
  refine b_bipush (nI 30) qX1_init_22 (by decide +kernel) ?_
  refine b_puti qX1_init_24 fp_X1_23 zs_26 zk_1_4 (by decide) ?_
  refine b_iconst (nI 0) qX1_init_27 (by decide +kernel) ?_
  refine b_istore_n (lv2 := [some (.ref 26), some (.int (nI 0))]) qX1_init_28 rfl rfl rfl ?_
  refine b_iload_n qX1_init_29 rfl ?_
  refine b_bipush (nI 8) qX1_init_30 (by decide +kernel) ?_
  refine b_icmp_ge (tgt := 54) qX1_init_32 (by decide) (fun h => absurd h (by decide)) (fun _ => ?_)
  refine b_aload_n qX1_init_35 rfl ?_
  refine b_getr 27 qX1_init_36 fl_X1_11 zs_26 zk_1_0 (by decide) zr_26_0 rfl ?_
  refine b_iload_n qX1_init_39 rfl ?_
  refine b_new qX1_init_40 nw_X1_9 zs_29 (Nat.le_of_ble_eq_true rfl) ?_
  refine b_dup qX1_init_43 rfl ?_
  refine b_iniN0 qX1_init_44 mj_X1_27 rfl rfl kb_X4_init_30 (Nat.le_of_ble_eq_true rfl) ?_
  dsimp only
  refine b_aastL qX1_init_47 zs_27 (by decide) (fun _ => rfl) rfl zs_29 zr_27_0 zl_27 (by decide) rfl (by decide) (by decide) ?_
  refine b_iinc (1) (nI 1) (lv2 := [some (.ref 26), some (.int (nI 1))]) qX1_init_48 rfl rfl (by decide +kernel) (by decide +kernel) rfl ?_
  refine b_goto (tgt := 29) qX1_init_51 (by decide) ?_
  refine b_iload_n qX1_init_29 rfl ?_
  refine b_bipush (nI 8) qX1_init_30 (by decide +kernel) ?_
  refine b_icmp_ge (tgt := 54) qX1_init_32 (by decide) (fun h => absurd h (by decide)) (fun _ => ?_)
  refine b_aload_n qX1_init_35 rfl ?_
  refine b_getr 27 qX1_init_36 fl_X1_11 zs_26 zk_1_0 (by decide) zr_26_0 rfl ?_
  refine b_iload_n qX1_init_39 rfl ?_
  refine b_new qX1_init_40 nw_X1_9 zs_31 (Nat.le_of_ble_eq_true rfl) ?_
  refine b_dup qX1_init_43 rfl ?_
  refine b_iniN0 qX1_init_44 mj_X1_27 rfl rfl kb_X4_init_32 (Nat.le_of_ble_eq_true rfl) ?_
  dsimp only
  refine b_aastL qX1_init_47 zs_27 (by decide) (fun _ => rfl) rfl zs_31 zr_27_1 zl_27 (by decide) rfl (by decide) (by decide) ?_
  refine b_iinc (1) (nI 2) (lv2 := [some (.ref 26), some (.int (nI 2))]) qX1_init_48 rfl rfl (by decide +kernel) (by decide +kernel) rfl ?_
  refine b_goto (tgt := 29) qX1_init_51 (by decide) ?_
  refine b_iload_n qX1_init_29 rfl ?_
  refine b_bipush (nI 8) qX1_init_30 (by decide +kernel) ?_
  refine b_icmp_ge (tgt := 54) qX1_init_32 (by decide) (fun h => absurd h (by decide)) (fun _ => ?_)
  refine b_aload_n qX1_init_35 rfl ?_
  refine b_getr 27 qX1_init_36 fl_X1_11 zs_26 zk_1_0 (by decide) zr_26_0 rfl ?_
  refine b_iload_n qX1_init_39 rfl ?_
  refine b_new qX1_init_40 nw_X1_9 zs_33 (Nat.le_of_ble_eq_true rfl) ?_
  refine b_dup qX1_init_43 rfl ?_
  refine b_iniN0 qX1_init_44 mj_X1_27 rfl rfl kb_X4_init_34 (Nat.le_of_ble_eq_true rfl) ?_
  dsimp only
  refine b_aastL qX1_init_47 zs_27 (by decide) (fun _ => rfl) rfl zs_33 zr_27_2 zl_27 (by decide) rfl (by decide) (by decide) ?_
  refine b_iinc (1) (nI 3) (lv2 := [some (.ref 26), some (.int (nI 3))]) qX1_init_48 rfl rfl (by decide +kernel) (by decide +kernel) rfl ?_
  refine b_goto (tgt := 29) qX1_init_51 (by decide) ?_
  refine b_iload_n qX1_init_29 rfl ?_
  refine b_bipush (nI 8) qX1_init_30 (by decide +kernel) ?_
  refine b_icmp_ge (tgt := 54) qX1_init_32 (by decide) (fun h => absurd h (by decide)) (fun _ => ?_)
  refine b_aload_n qX1_init_35 rfl ?_
  refine b_getr 27 qX1_init_36 fl_X1_11 zs_26 zk_1_0 (by decide) zr_26_0 rfl ?_
  refine b_iload_n qX1_init_39 rfl ?_
  refine b_new qX1_init_40 nw_X1_9 zs_35 (Nat.le_of_ble_eq_true rfl) ?_
  refine b_dup qX1_init_43 rfl ?_
  refine b_iniN0 qX1_init_44 mj_X1_27 rfl rfl kb_X4_init_36 (Nat.le_of_ble_eq_true rfl) ?_
  dsimp only
  refine b_aastL qX1_init_47 zs_27 (by decide) (fun _ => rfl) rfl zs_35 zr_27_3 zl_27 (by decide) rfl (by decide) (by decide) ?_
  refine b_iinc (1) (nI 4) (lv2 := [some (.ref 26), some (.int (nI 4))]) qX1_init_48 rfl rfl (by decide +kernel) (by decide +kernel) rfl ?_
  refine b_goto (tgt := 29) qX1_init_51 (by decide) ?_
  refine b_iload_n qX1_init_29 rfl ?_
  refine b_bipush (nI 8) qX1_init_30 (by decide +kernel) ?_
  refine b_icmp_ge (tgt := 54) qX1_init_32 (by decide) (fun h => absurd h (by decide)) (fun _ => ?_)
  refine b_aload_n qX1_init_35 rfl ?_
  refine b_getr 27 qX1_init_36 fl_X1_11 zs_26 zk_1_0 (by decide) zr_26_0 rfl ?_
  refine b_iload_n qX1_init_39 rfl ?_
  refine b_new qX1_init_40 nw_X1_9 zs_37 (Nat.le_of_ble_eq_true rfl) ?_
  refine b_dup qX1_init_43 rfl ?_
  refine b_iniN0 qX1_init_44 mj_X1_27 rfl rfl kb_X4_init_38 (Nat.le_of_ble_eq_true rfl) ?_
  dsimp only
  refine b_aastL qX1_init_47 zs_27 (by decide) (fun _ => rfl) rfl zs_37 zr_27_4 zl_27 (by decide) rfl (by decide) (by decide) ?_
  refine b_iinc (1) (nI 5) (lv2 := [some (.ref 26), some (.int (nI 5))]) qX1_init_48 rfl rfl (by decide +kernel) (by decide +kernel) rfl ?_
  refine b_goto (tgt := 29) qX1_init_51 (by decide) ?_
  refine b_iload_n qX1_init_29 rfl ?_
  refine b_bipush (nI 8) qX1_init_30 (by decide +kernel) ?_
  refine b_icmp_ge (tgt := 54) qX1_init_32 (by decide) (fun h => absurd h (by decide)) (fun _ => ?_)
  refine b_aload_n qX1_init_35 rfl ?_
  refine b_getr 27 qX1_init_36 fl_X1_11 zs_26 zk_1_0 (by decide) zr_26_0 rfl ?_
  refine b_iload_n qX1_init_39 rfl ?_
  refine b_new qX1_init_40 nw_X1_9 zs_39 (Nat.le_of_ble_eq_true rfl) ?_
  refine b_dup qX1_init_43 rfl ?_
  refine b_iniN0 qX1_init_44 mj_X1_27 rfl rfl kb_X4_init_40 (Nat.le_of_ble_eq_true rfl) ?_
  dsimp only
  refine b_aastL qX1_init_47 zs_27 (by decide) (fun _ => rfl) rfl zs_39 zr_27_5 zl_27 (by decide) rfl (by decide) (by decide) ?_
  refine b_iinc (1) (nI 6) (lv2 := [some (.ref 26), some (.int (nI 6))]) qX1_init_48 rfl rfl (by decide +kernel) (by decide +kernel) rfl ?_
  refine b_goto (tgt := 29) qX1_init_51 (by decide) ?_
  refine b_iload_n qX1_init_29 rfl ?_
  refine b_bipush (nI 8) qX1_init_30 (by decide +kernel) ?_
  refine b_icmp_ge (tgt := 54) qX1_init_32 (by decide) (fun h => absurd h (by decide)) (fun _ => ?_)
  refine b_aload_n qX1_init_35 rfl ?_
  refine b_getr 27 qX1_init_36 fl_X1_11 zs_26 zk_1_0 (by decide) zr_26_0 rfl ?_
  refine b_iload_n qX1_init_39 rfl ?_
  refine b_new qX1_init_40 nw_X1_9 zs_41 (Nat.le_of_ble_eq_true rfl) ?_
  refine b_dup qX1_init_43 rfl ?_
  refine b_iniN0 qX1_init_44 mj_X1_27 rfl rfl kb_X4_init_42 (Nat.le_of_ble_eq_true rfl) ?_
  dsimp only
  refine b_aastL qX1_init_47 zs_27 (by decide) (fun _ => rfl) rfl zs_41 zr_27_6 zl_27 (by decide) rfl (by decide) (by decide) ?_
  refine b_iinc (1) (nI 7) (lv2 := [some (.ref 26), some (.int (nI 7))]) qX1_init_48 rfl rfl (by decide +kernel) (by decide +kernel) rfl ?_
  refine b_goto (tgt := 29) qX1_init_51 (by decide) ?_
  refine b_iload_n qX1_init_29 rfl ?_
  refine b_bipush (nI 8) qX1_init_30 (by decide +kernel) ?_
  refine b_icmp_ge (tgt := 54) qX1_init_32 (by decide) (fun h => absurd h (by decide)) (fun _ => ?_)
  refine b_aload_n qX1_init_35 rfl ?_
  refine b_getr 27 qX1_init_36 fl_X1_11 zs_26 zk_1_0 (by decide) zr_26_0 rfl ?_
  refine b_iload_n qX1_init_39 rfl ?_
  refine b_new qX1_init_40 nw_X1_9 zs_43 (Nat.le_of_ble_eq_true rfl) ?_
  refine b_dup qX1_init_43 rfl ?_
  refine b_iniN0 qX1_init_44 mj_X1_27 rfl rfl kb_X4_init_44 (Nat.le_of_ble_eq_true rfl) ?_
  dsimp only
  refine b_aastL qX1_init_47 zs_27 (by decide) (fun _ => rfl) rfl zs_43 zr_27_7 zl_27 (by decide) rfl (by decide) (by decide) ?_
  refine b_iinc (1) (nI 8) (lv2 := [some (.ref 26), some (.int (nI 8))]) qX1_init_48 rfl rfl (by decide +kernel) (by decide +kernel) rfl ?_
  refine b_goto (tgt := 29) qX1_init_51 (by decide) ?_
  refine b_iload_n qX1_init_29 rfl ?_
  refine b_bipush (nI 8) qX1_init_30 (by decide +kernel) ?_
  refine b_icmp_ge (tgt := 54) qX1_init_32 (by decide) (fun _ => ?_) (fun h => absurd (by decide) h)
  refine b_iconst (nI 0) qX1_init_54 (by decide +kernel) ?_
  refine b_istore_n (lv2 := [some (.ref 26), some (.int (nI 0))]) qX1_init_55 rfl rfl rfl ?_
  refine b_iload_n qX1_init_56 rfl ?_
  refine b_iconst (nI 4) qX1_init_57 (by decide +kernel) ?_
  refine b_icmp_ge (tgt := 80) qX1_init_58 (by decide) (fun h => absurd h (by decide)) (fun _ => ?_)
  refine b_aload_n qX1_init_61 rfl ?_
  refine b_getr 28 qX1_init_62 fl_X1_19 zs_26 zk_1_1 (by decide) zr_26_1 rfl ?_
  refine b_iload_n qX1_init_65 rfl ?_
  refine b_new qX1_init_66 nw_X1_17 zs_45 (Nat.le_of_ble_eq_true rfl) ?_
  refine b_dup qX1_init_69 rfl ?_
  refine b_iniN0 qX1_init_70 mj_X1_28 rfl rfl kb_X8_init_46 (Nat.le_of_ble_eq_true rfl) ?_
  dsimp only
  refine b_aastL qX1_init_73 zs_28 (by decide) (fun _ => rfl) rfl zs_45 zr_28_0 zl_28 (by decide) rfl (by decide) (by decide) ?_
  refine b_iinc (1) (nI 1) (lv2 := [some (.ref 26), some (.int (nI 1))]) qX1_init_74 rfl rfl (by decide +kernel) (by decide +kernel) rfl ?_
  refine b_goto (tgt := 56) qX1_init_77 (by decide) ?_
  refine b_iload_n qX1_init_56 rfl ?_
  refine b_iconst (nI 4) qX1_init_57 (by decide +kernel) ?_
  refine b_icmp_ge (tgt := 80) qX1_init_58 (by decide) (fun h => absurd h (by decide)) (fun _ => ?_)
  refine b_aload_n qX1_init_61 rfl ?_
  refine b_getr 28 qX1_init_62 fl_X1_19 zs_26 zk_1_1 (by decide) zr_26_1 rfl ?_
  refine b_iload_n qX1_init_65 rfl ?_
  refine b_new qX1_init_66 nw_X1_17 zs_46 (Nat.le_of_ble_eq_true rfl) ?_
  refine b_dup qX1_init_69 rfl ?_
  refine b_iniN0 qX1_init_70 mj_X1_28 rfl rfl kb_X8_init_47 (Nat.le_of_ble_eq_true rfl) ?_
  dsimp only
  refine b_aastL qX1_init_73 zs_28 (by decide) (fun _ => rfl) rfl zs_46 zr_28_1 zl_28 (by decide) rfl (by decide) (by decide) ?_
  refine b_iinc (1) (nI 2) (lv2 := [some (.ref 26), some (.int (nI 2))]) qX1_init_74 rfl rfl (by decide +kernel) (by decide +kernel) rfl ?_
  refine b_goto (tgt := 56) qX1_init_77 (by decide) ?_
  refine b_iload_n qX1_init_56 rfl ?_
  refine b_iconst (nI 4) qX1_init_57 (by decide +kernel) ?_
  refine b_icmp_ge (tgt := 80) qX1_init_58 (by decide) (fun h => absurd h (by decide)) (fun _ => ?_)
  refine b_aload_n qX1_init_61 rfl ?_
  refine b_getr 28 qX1_init_62 fl_X1_19 zs_26 zk_1_1 (by decide) zr_26_1 rfl ?_
  refine b_iload_n qX1_init_65 rfl ?_
  refine b_new qX1_init_66 nw_X1_17 zs_47 (Nat.le_of_ble_eq_true rfl) ?_
  refine b_dup qX1_init_69 rfl ?_
  refine b_iniN0 qX1_init_70 mj_X1_28 rfl rfl kb_X8_init_48 (Nat.le_of_ble_eq_true rfl) ?_
  dsimp only
  refine b_aastL qX1_init_73 zs_28 (by decide) (fun _ => rfl) rfl zs_47 zr_28_2 zl_28 (by decide) rfl (by decide) (by decide) ?_
  refine b_iinc (1) (nI 3) (lv2 := [some (.ref 26), some (.int (nI 3))]) qX1_init_74 rfl rfl (by decide +kernel) (by decide +kernel) rfl ?_
  refine b_goto (tgt := 56) qX1_init_77 (by decide) ?_
  refine b_iload_n qX1_init_56 rfl ?_
  refine b_iconst (nI 4) qX1_init_57 (by decide +kernel) ?_
  refine b_icmp_ge (tgt := 80) qX1_init_58 (by decide) (fun h => absurd h (by decide)) (fun _ => ?_)
  refine b_aload_n qX1_init_61 rfl ?_
  refine b_getr 28 qX1_init_62 fl_X1_19 zs_26 zk_1_1 (by decide) zr_26_1 rfl ?_
  refine b_iload_n qX1_init_65 rfl ?_
  refine b_new qX1_init_66 nw_X1_17 zs_48 (Nat.le_of_ble_eq_true rfl) ?_
  refine b_dup qX1_init_69 rfl ?_
  refine b_iniN0 qX1_init_70 mj_X1_28 rfl rfl kb_X8_init_49 (Nat.le_of_ble_eq_true rfl) ?_
  dsimp only
  refine b_aastL qX1_init_73 zs_28 (by decide) (fun _ => rfl) rfl zs_48 zr_28_3 zl_28 (by decide) rfl (by decide) (by decide) ?_
  refine b_iinc (1) (nI 4) (lv2 := [some (.ref 26), some (.int (nI 4))]) qX1_init_74 rfl rfl (by decide +kernel) (by decide +kernel) rfl ?_
  refine b_goto (tgt := 56) qX1_init_77 (by decide) ?_
  refine b_iload_n qX1_init_56 rfl ?_
  refine b_iconst (nI 4) qX1_init_57 (by decide +kernel) ?_
  refine b_icmp_ge (tgt := 80) qX1_init_58 (by decide) (fun _ => ?_) (fun h => absurd (by decide) h)
  exact b_ret qX1_init_80 rfl rfl
theorem qX11_init_34 : Dc mX11_init 34 (.putfield 23) 3 37 := ⟨by decide +kernel, rfl⟩
theorem fq_X11_23 : Fq RX11 23 10 2 true := ⟨_, _, _, tyX11, _, rfl, by decide, cws_10, tb_2 170 (by decide +kernel) (by decide +kernel), tyX11_ok, nmX11, rfl, fun _ => rfl, tyX11_ok 2 (by decide), by decide +kernel, fun _ => ⟨rfl, rfl⟩⟩
theorem zk_10_2 : kd 10 2 = 2 := by decide +kernel
theorem zr_0_2 : rr 0 2 = 26 := by decide +kernel
theorem qX11_init_37 : Dc mX11_init 37 (.aload_n 0) 1 38 := ⟨by decide +kernel, rfl⟩
theorem qX11_init_38 : Dc mX11_init 38 (.new 26) 3 41 := ⟨by decide +kernel, rfl⟩
theorem nw_X11_26 : Nw RX11 26 6 := ⟨_, _, _, tyX6, rfl, cws_6, tyX6_ok, tb_2 7 (by decide +kernel) (by decide +kernel), tb_2 8 (by decide +kernel) (by decide +kernel), tb_1 6 (by decide +kernel) (by decide +kernel), by decide +kernel, by decide +kernel⟩
theorem qX11_init_41 : Dc mX11_init 41 (.dup) 1 42 := ⟨by decide +kernel, rfl⟩
theorem qX11_init_42 : Dc mX11_init 42 (.aload_n 0) 1 43 := ⟨by decide +kernel, rfl⟩
theorem qX11_init_43 : Dc mX11_init 43 (.getfield 19) 3 46 := ⟨by decide +kernel, rfl⟩
theorem qX11_init_46 : Dc mX11_init 46 (.invokespecial 28) 3 49 := ⟨by decide +kernel, rfl⟩
abbrev mX6_init : MI := (yX6_init, cX6_init, 2, none)
theorem mw_X6_init : Mw mX6_init 1 := ⟨tb_2 11 (by decide +kernel) (by decide +kernel), tb_1 6 (by decide +kernel) (by decide +kernel), by decide +kernel, mw_sig (by decide +kernel), by decide⟩
theorem qX6_init_0 : Dc mX6_init 0 (.aload_n 0) 1 1 := ⟨by decide +kernel, rfl⟩
theorem qX6_init_1 : Dc mX6_init 1 (.invokespecial 3) 3 4 := ⟨by decide +kernel, rfl⟩
theorem ob_X6_3 : Cond.methodLink RX6 3 objectInit ∈ tb ∧ Cond.instanceMethod objectInit ∈ tb ∧ Cond.code objectInit ⟨#[0xb1]⟩ 1 none ∈ tb := ⟨tb_2 12 (by decide +kernel) (by decide +kernel), tb_1 32 (by decide +kernel) (by decide +kernel), tb_1 33 (by decide +kernel) (by decide +kernel)⟩
theorem qX6_init_4 : Dc mX6_init 4 (.aload_n 0) 1 5 := ⟨by decide +kernel, rfl⟩
theorem qX6_init_5 : Dc mX6_init 5 (.bipush 8) 2 7 := ⟨by decide +kernel, rfl⟩
theorem qX6_init_7 : Dc mX6_init 7 (.newarray .int) 2 9 := ⟨by decide +kernel, rfl⟩
theorem zs_50 : sh 50 = 20 := by decide +kernel
theorem zl_50 : ln 50 = 8 := by decide +kernel
theorem qX6_init_9 : Dc mX6_init 9 (.putfield 9) 3 12 := ⟨by decide +kernel, rfl⟩
theorem fq_X6_9 : Fq RX6 9 6 4 true := ⟨_, _, _, tyX6, _, rfl, by decide, cws_6, tb_2 24 (by decide +kernel) (by decide +kernel), tyX6_ok, nmX6, rfl, fun _ => rfl, tyX6_ok 4 (by decide), by decide +kernel, fun _ => ⟨rfl, rfl⟩⟩
theorem zk_6_4 : kd 6 4 = 2 := by decide +kernel
theorem zr_49_4 : rr 49 4 = 50 := by decide +kernel
theorem qX6_init_12 : Dc mX6_init 12 (.aload_n 0) 1 13 := ⟨by decide +kernel, rfl⟩
theorem qX6_init_13 : Dc mX6_init 13 (.bipush 8) 2 15 := ⟨by decide +kernel, rfl⟩
theorem qX6_init_15 : Dc mX6_init 15 (.newarray .int) 2 17 := ⟨by decide +kernel, rfl⟩
theorem zs_51 : sh 51 = 20 := by decide +kernel
theorem zl_51 : ln 51 = 8 := by decide +kernel
theorem qX6_init_17 : Dc mX6_init 17 (.putfield 15) 3 20 := ⟨by decide +kernel, rfl⟩
theorem fq_X6_15 : Fq RX6 15 6 5 true := ⟨_, _, _, tyX6, _, rfl, by decide, cws_6, tb_2 27 (by decide +kernel) (by decide +kernel), tyX6_ok, nmX6, rfl, fun _ => rfl, tyX6_ok 5 (by decide), by decide +kernel, fun _ => ⟨rfl, rfl⟩⟩
theorem zk_6_5 : kd 6 5 = 2 := by decide +kernel
theorem zr_49_5 : rr 49 5 = 51 := by decide +kernel
theorem qX6_init_20 : Dc mX6_init 20 (.aload_n 0) 1 21 := ⟨by decide +kernel, rfl⟩
theorem qX6_init_21 : Dc mX6_init 21 (.iconst 4) 1 22 := ⟨by decide +kernel, rfl⟩
theorem qX6_init_22 : Dc mX6_init 22 (.newarray .int) 2 24 := ⟨by decide +kernel, rfl⟩
theorem zs_52 : sh 52 = 20 := by decide +kernel
theorem zl_52 : ln 52 = 4 := by decide +kernel
theorem qX6_init_24 : Dc mX6_init 24 (.putfield 18) 3 27 := ⟨by decide +kernel, rfl⟩
theorem fq_X6_18 : Fq RX6 18 6 6 true := ⟨_, _, _, tyX6, _, rfl, by decide, cws_6, tb_2 28 (by decide +kernel) (by decide +kernel), tyX6_ok, nmX6, rfl, fun _ => rfl, tyX6_ok 6 (by decide), by decide +kernel, fun _ => ⟨rfl, rfl⟩⟩
theorem zk_6_6 : kd 6 6 = 2 := by decide +kernel
theorem zr_49_6 : rr 49 6 = 52 := by decide +kernel
theorem qX6_init_27 : Dc mX6_init 27 (.aload_n 0) 1 28 := ⟨by decide +kernel, rfl⟩
theorem qX6_init_28 : Dc mX6_init 28 (.iconst 4) 1 29 := ⟨by decide +kernel, rfl⟩
theorem qX6_init_29 : Dc mX6_init 29 (.newarray .int) 2 31 := ⟨by decide +kernel, rfl⟩
theorem zs_53 : sh 53 = 20 := by decide +kernel
theorem zl_53 : ln 53 = 4 := by decide +kernel
theorem qX6_init_31 : Dc mX6_init 31 (.putfield 21) 3 34 := ⟨by decide +kernel, rfl⟩
theorem fq_X6_21 : Fq RX6 21 6 7 true := ⟨_, _, _, tyX6, _, rfl, by decide, cws_6, tb_2 30 (by decide +kernel) (by decide +kernel), tyX6_ok, nmX6, rfl, fun _ => rfl, tyX6_ok 7 (by decide), by decide +kernel, fun _ => ⟨rfl, rfl⟩⟩
theorem zk_6_7 : kd 6 7 = 2 := by decide +kernel
theorem zr_49_7 : rr 49 7 = 53 := by decide +kernel
theorem qX6_init_34 : Dc mX6_init 34 (.aload_n 0) 1 35 := ⟨by decide +kernel, rfl⟩
theorem qX6_init_35 : Dc mX6_init 35 (.iconst 4) 1 36 := ⟨by decide +kernel, rfl⟩
theorem qX6_init_36 : Dc mX6_init 36 (.newarray .int) 2 38 := ⟨by decide +kernel, rfl⟩
theorem zs_54 : sh 54 = 20 := by decide +kernel
theorem zl_54 : ln 54 = 4 := by decide +kernel
theorem qX6_init_38 : Dc mX6_init 38 (.putfield 24) 3 41 := ⟨by decide +kernel, rfl⟩
theorem fq_X6_24 : Fq RX6 24 6 8 true := ⟨_, _, _, tyX6, _, rfl, by decide, cws_6, tb_2 32 (by decide +kernel) (by decide +kernel), tyX6_ok, nmX6, rfl, fun _ => rfl, tyX6_ok 8 (by decide), by decide +kernel, fun _ => ⟨rfl, rfl⟩⟩
theorem zk_6_8 : kd 6 8 = 2 := by decide +kernel
theorem zr_49_8 : rr 49 8 = 54 := by decide +kernel
theorem qX6_init_41 : Dc mX6_init 41 (.aload_n 0) 1 42 := ⟨by decide +kernel, rfl⟩
theorem qX6_init_42 : Dc mX6_init 42 (.aload_n 1) 1 43 := ⟨by decide +kernel, rfl⟩
theorem qX6_init_43 : Dc mX6_init 43 (.putfield 27) 3 46 := ⟨by decide +kernel, rfl⟩
theorem fq_X6_27 : Fq RX6 27 6 0 true := ⟨_, _, _, tyX6, _, rfl, by decide, cws_6, tb_2 13 (by decide +kernel) (by decide +kernel), tyX6_ok, nmX6, rfl, fun _ => rfl, tyX6_ok 0 (by decide), by decide +kernel, fun _ => ⟨rfl, rfl⟩⟩
theorem qX6_init_46 : Dc mX6_init 46 (.return_) 1 47 := ⟨by decide +kernel, rfl⟩
set_option maxRecDepth 20000 in
set_option maxHeartbeats 4000000 in
theorem kb_X6_init_50 {σ : St} {L : List (Nat × Nat)} : BCt mX6_init 1 [.ref 49, .ref 3] 50 σ (nuL L) (55, σ, nuL ((49, 0) :: (49, 8) :: (49, 7) :: (49, 6) :: (49, 5) :: (49, 4) :: L)) := by
  refine BCt.ofE (by decide +kernel) rfl rfl ⟨Nat.le_of_ble_eq_true rfl, Nat.le_of_ble_eq_true rfl⟩ ?_
  show BE mX6_init 1 50 (55, σ, nuL ((49, 0) :: (49, 8) :: (49, 7) :: (49, 6) :: (49, 5) :: (49, 4) :: L)) 0 [some (.ref 49), some (.ref 3)] [] 50 σ (nuL L)
  refine b_aload_n qX6_init_0 rfl ?_
  refine b_obj qX6_init_1 ob_X6_3.1 ob_X6_3.2.1 ob_X6_3.2.2 rfl rfl ?_
  refine b_aload_n qX6_init_4 rfl ?_
  refine b_bipush (nI 8) qX6_init_5 (by decide +kernel) ?_
  refine b_newaI qX6_init_7 ar_int zs_50 zl_50 rfl (Nat.le_of_ble_eq_true rfl) ?_
  refine b_putrL qX6_init_9 fq_X6_9 rfl zs_49 zk_6_4 zr_49_4 (by decide) ?_
  refine b_aload_n qX6_init_12 rfl ?_
  refine b_bipush (nI 8) qX6_init_13 (by decide +kernel) ?_
  refine b_newaI qX6_init_15 ar_int zs_51 zl_51 rfl (Nat.le_of_ble_eq_true rfl) ?_
  refine b_putrL qX6_init_17 fq_X6_15 rfl zs_49 zk_6_5 zr_49_5 (by decide) ?_
  refine b_aload_n qX6_init_20 rfl ?_
  refine b_iconst (nI 4) qX6_init_21 (by decide +kernel) ?_
  refine b_newaI qX6_init_22 ar_int zs_52 zl_52 rfl (Nat.le_of_ble_eq_true rfl) ?_
  refine b_putrL qX6_init_24 fq_X6_18 rfl zs_49 zk_6_6 zr_49_6 (by decide) ?_
  refine b_aload_n qX6_init_27 rfl ?_
  refine b_iconst (nI 4) qX6_init_28 (by decide +kernel) ?_
  refine b_newaI qX6_init_29 ar_int zs_53 zl_53 rfl (Nat.le_of_ble_eq_true rfl) ?_
  refine b_putrL qX6_init_31 fq_X6_21 rfl zs_49 zk_6_7 zr_49_7 (by decide) ?_
  refine b_aload_n qX6_init_34 rfl ?_
  refine b_iconst (nI 4) qX6_init_35 (by decide +kernel) ?_
  refine b_newaI qX6_init_36 ar_int zs_54 zl_54 rfl (Nat.le_of_ble_eq_true rfl) ?_
  refine b_putrL qX6_init_38 fq_X6_24 rfl zs_49 zk_6_8 zr_49_8 (by decide) ?_
  refine b_aload_n qX6_init_41 rfl ?_
  refine b_aload_n qX6_init_42 rfl ?_
  refine b_putrL qX6_init_43 fq_X6_27 rfl zs_49 zk_6_0 zr_49_0 (by decide) ?_
  exact b_ret qX6_init_46 rfl rfl
theorem mi_X11_28 : MwI RX11 28 mX6_init 1 := ⟨mw_X6_init, rfl, tb_2 10 (by decide +kernel) (by decide +kernel), rfl, tb_2 9 (by decide +kernel) (by decide +kernel)⟩
theorem qX11_init_49 : Dc mX11_init 49 (.putfield 31) 3 52 := ⟨by decide +kernel, rfl⟩
theorem fq_X11_31 : Fq RX11 31 10 3 true := ⟨_, _, _, tyX11, _, rfl, by decide, cws_10, tb_2 171 (by decide +kernel) (by decide +kernel), tyX11_ok, nmX11, rfl, fun _ => rfl, tyX11_ok 3 (by decide), by decide +kernel, fun _ => ⟨rfl, rfl⟩⟩
theorem zk_10_3 : kd 10 3 = 2 := by decide +kernel
theorem zr_0_3 : rr 0 3 = 49 := by decide +kernel
theorem qX11_init_52 : Dc mX11_init 52 (.aload_n 0) 1 53 := ⟨by decide +kernel, rfl⟩
theorem qX11_init_53 : Dc mX11_init 53 (.new 26) 3 56 := ⟨by decide +kernel, rfl⟩
theorem zs_55 : sh 55 = 6 := by decide +kernel
theorem qX11_init_56 : Dc mX11_init 56 (.dup) 1 57 := ⟨by decide +kernel, rfl⟩
theorem qX11_init_57 : Dc mX11_init 57 (.aload_n 0) 1 58 := ⟨by decide +kernel, rfl⟩
theorem qX11_init_58 : Dc mX11_init 58 (.getfield 19) 3 61 := ⟨by decide +kernel, rfl⟩
theorem qX11_init_61 : Dc mX11_init 61 (.invokespecial 28) 3 64 := ⟨by decide +kernel, rfl⟩
theorem zs_56 : sh 56 = 20 := by decide +kernel
theorem zl_56 : ln 56 = 8 := by decide +kernel
theorem zr_55_4 : rr 55 4 = 56 := by decide +kernel
theorem zs_57 : sh 57 = 20 := by decide +kernel
theorem zl_57 : ln 57 = 8 := by decide +kernel
theorem zr_55_5 : rr 55 5 = 57 := by decide +kernel
theorem zs_58 : sh 58 = 20 := by decide +kernel
theorem zl_58 : ln 58 = 4 := by decide +kernel
theorem zr_55_6 : rr 55 6 = 58 := by decide +kernel
theorem zs_59 : sh 59 = 20 := by decide +kernel
theorem zl_59 : ln 59 = 4 := by decide +kernel
theorem zr_55_7 : rr 55 7 = 59 := by decide +kernel
theorem zs_60 : sh 60 = 20 := by decide +kernel
theorem zl_60 : ln 60 = 4 := by decide +kernel
theorem zr_55_8 : rr 55 8 = 60 := by decide +kernel
theorem zr_55_0 : rr 55 0 = 3 := by decide +kernel
set_option maxRecDepth 20000 in
set_option maxHeartbeats 4000000 in
theorem kb_X6_init_56 {σ : St} {L : List (Nat × Nat)} : BCt mX6_init 1 [.ref 55, .ref 3] 56 σ (nuL L) (61, σ, nuL ((55, 0) :: (55, 8) :: (55, 7) :: (55, 6) :: (55, 5) :: (55, 4) :: L)) := by
  refine BCt.ofE (by decide +kernel) rfl rfl ⟨Nat.le_of_ble_eq_true rfl, Nat.le_of_ble_eq_true rfl⟩ ?_
  show BE mX6_init 1 56 (61, σ, nuL ((55, 0) :: (55, 8) :: (55, 7) :: (55, 6) :: (55, 5) :: (55, 4) :: L)) 0 [some (.ref 55), some (.ref 3)] [] 56 σ (nuL L)
  refine b_aload_n qX6_init_0 rfl ?_
  refine b_obj qX6_init_1 ob_X6_3.1 ob_X6_3.2.1 ob_X6_3.2.2 rfl rfl ?_
  refine b_aload_n qX6_init_4 rfl ?_
  refine b_bipush (nI 8) qX6_init_5 (by decide +kernel) ?_
  refine b_newaI qX6_init_7 ar_int zs_56 zl_56 rfl (Nat.le_of_ble_eq_true rfl) ?_
  refine b_putrL qX6_init_9 fq_X6_9 rfl zs_55 zk_6_4 zr_55_4 (by decide) ?_
  refine b_aload_n qX6_init_12 rfl ?_
  refine b_bipush (nI 8) qX6_init_13 (by decide +kernel) ?_
  refine b_newaI qX6_init_15 ar_int zs_57 zl_57 rfl (Nat.le_of_ble_eq_true rfl) ?_
  refine b_putrL qX6_init_17 fq_X6_15 rfl zs_55 zk_6_5 zr_55_5 (by decide) ?_
  refine b_aload_n qX6_init_20 rfl ?_
  refine b_iconst (nI 4) qX6_init_21 (by decide +kernel) ?_
  refine b_newaI qX6_init_22 ar_int zs_58 zl_58 rfl (Nat.le_of_ble_eq_true rfl) ?_
  refine b_putrL qX6_init_24 fq_X6_18 rfl zs_55 zk_6_6 zr_55_6 (by decide) ?_
  refine b_aload_n qX6_init_27 rfl ?_
  refine b_iconst (nI 4) qX6_init_28 (by decide +kernel) ?_
  refine b_newaI qX6_init_29 ar_int zs_59 zl_59 rfl (Nat.le_of_ble_eq_true rfl) ?_
  refine b_putrL qX6_init_31 fq_X6_21 rfl zs_55 zk_6_7 zr_55_7 (by decide) ?_
  refine b_aload_n qX6_init_34 rfl ?_
  refine b_iconst (nI 4) qX6_init_35 (by decide +kernel) ?_
  refine b_newaI qX6_init_36 ar_int zs_60 zl_60 rfl (Nat.le_of_ble_eq_true rfl) ?_
  refine b_putrL qX6_init_38 fq_X6_24 rfl zs_55 zk_6_8 zr_55_8 (by decide) ?_
  refine b_aload_n qX6_init_41 rfl ?_
  refine b_aload_n qX6_init_42 rfl ?_
  refine b_putrL qX6_init_43 fq_X6_27 rfl zs_55 zk_6_0 zr_55_0 (by decide) ?_
  exact b_ret qX6_init_46 rfl rfl
theorem qX11_init_64 : Dc mX11_init 64 (.putfield 35) 3 67 := ⟨by decide +kernel, rfl⟩
theorem fq_X11_35 : Fq RX11 35 10 4 true := ⟨_, _, _, tyX11, _, rfl, by decide, cws_10, tb_2 172 (by decide +kernel) (by decide +kernel), tyX11_ok, nmX11, rfl, fun _ => rfl, tyX11_ok 4 (by decide), by decide +kernel, fun _ => ⟨rfl, rfl⟩⟩
theorem zk_10_4 : kd 10 4 = 2 := by decide +kernel
theorem zr_0_4 : rr 0 4 = 55 := by decide +kernel
theorem qX11_init_67 : Dc mX11_init 67 (.aload_n 0) 1 68 := ⟨by decide +kernel, rfl⟩
theorem qX11_init_68 : Dc mX11_init 68 (.new 38) 3 71 := ⟨by decide +kernel, rfl⟩
theorem nw_X11_38 : Nw RX11 38 7 := ⟨_, _, _, tyX7, rfl, cws_7, tyX7_ok, tb_2 53 (by decide +kernel) (by decide +kernel), tb_2 54 (by decide +kernel) (by decide +kernel), tb_1 7 (by decide +kernel) (by decide +kernel), by decide +kernel, by decide +kernel⟩
theorem zs_61 : sh 61 = 7 := by decide +kernel
theorem qX11_init_71 : Dc mX11_init 71 (.dup) 1 72 := ⟨by decide +kernel, rfl⟩
theorem qX11_init_72 : Dc mX11_init 72 (.invokespecial 40) 3 75 := ⟨by decide +kernel, rfl⟩
abbrev mX7_init : MI := (yX7_init, cX7_init, 1, none)
theorem mw_X7_init : Mw mX7_init 0 := ⟨tb_2 57 (by decide +kernel) (by decide +kernel), tb_1 7 (by decide +kernel) (by decide +kernel), by decide +kernel, mw_sig (by decide +kernel), by decide⟩
theorem qX7_init_0 : Dc mX7_init 0 (.aload_n 0) 1 1 := ⟨by decide +kernel, rfl⟩
theorem qX7_init_1 : Dc mX7_init 1 (.invokespecial 3) 3 4 := ⟨by decide +kernel, rfl⟩
theorem ob_X7_3 : Cond.methodLink RX7 3 objectInit ∈ tb ∧ Cond.instanceMethod objectInit ∈ tb ∧ Cond.code objectInit ⟨#[0xb1]⟩ 1 none ∈ tb := ⟨tb_2 58 (by decide +kernel) (by decide +kernel), tb_1 32 (by decide +kernel) (by decide +kernel), tb_1 33 (by decide +kernel) (by decide +kernel)⟩
theorem qX7_init_4 : Dc mX7_init 4 (.aload_n 0) 1 5 := ⟨by decide +kernel, rfl⟩
theorem qX7_init_5 : Dc mX7_init 5 (.bipush 40) 2 7 := ⟨by decide +kernel, rfl⟩
theorem qX7_init_7 : Dc mX7_init 7 (.newarray .int) 2 9 := ⟨by decide +kernel, rfl⟩
theorem zs_62 : sh 62 = 20 := by decide +kernel
theorem zl_62 : ln 62 = 40 := by decide +kernel
theorem qX7_init_9 : Dc mX7_init 9 (.putfield 11) 3 12 := ⟨by decide +kernel, rfl⟩
theorem fq_X7_11 : Fq RX7 11 7 2 true := ⟨_, _, _, tyX7, _, rfl, by decide, cws_7, tb_2 62 (by decide +kernel) (by decide +kernel), tyX7_ok, nmX7, rfl, fun _ => rfl, tyX7_ok 2 (by decide), by decide +kernel, fun _ => ⟨rfl, rfl⟩⟩
theorem zk_7_2 : kd 7 2 = 2 := by decide +kernel
theorem zr_61_2 : rr 61 2 = 62 := by decide +kernel
theorem qX7_init_12 : Dc mX7_init 12 (.aload_n 0) 1 13 := ⟨by decide +kernel, rfl⟩
theorem qX7_init_13 : Dc mX7_init 13 (.bipush 40) 2 15 := ⟨by decide +kernel, rfl⟩
theorem qX7_init_15 : Dc mX7_init 15 (.newarray .int) 2 17 := ⟨by decide +kernel, rfl⟩
theorem zs_63 : sh 63 = 20 := by decide +kernel
theorem zl_63 : ln 63 = 40 := by decide +kernel
theorem qX7_init_17 : Dc mX7_init 17 (.putfield 15) 3 20 := ⟨by decide +kernel, rfl⟩
theorem fq_X7_15 : Fq RX7 15 7 3 true := ⟨_, _, _, tyX7, _, rfl, by decide, cws_7, tb_2 63 (by decide +kernel) (by decide +kernel), tyX7_ok, nmX7, rfl, fun _ => rfl, tyX7_ok 3 (by decide), by decide +kernel, fun _ => ⟨rfl, rfl⟩⟩
theorem zk_7_3 : kd 7 3 = 2 := by decide +kernel
theorem zr_61_3 : rr 61 3 = 63 := by decide +kernel
theorem qX7_init_20 : Dc mX7_init 20 (.aload_n 0) 1 21 := ⟨by decide +kernel, rfl⟩
theorem qX7_init_21 : Dc mX7_init 21 (.bipush 40) 2 23 := ⟨by decide +kernel, rfl⟩
theorem qX7_init_23 : Dc mX7_init 23 (.newarray .int) 2 25 := ⟨by decide +kernel, rfl⟩
theorem zs_64 : sh 64 = 20 := by decide +kernel
theorem zl_64 : ln 64 = 40 := by decide +kernel
theorem qX7_init_25 : Dc mX7_init 25 (.putfield 18) 3 28 := ⟨by decide +kernel, rfl⟩
theorem fq_X7_18 : Fq RX7 18 7 4 true := ⟨_, _, _, tyX7, _, rfl, by decide, cws_7, tb_2 64 (by decide +kernel) (by decide +kernel), tyX7_ok, nmX7, rfl, fun _ => rfl, tyX7_ok 4 (by decide), by decide +kernel, fun _ => ⟨rfl, rfl⟩⟩
theorem zk_7_4 : kd 7 4 = 2 := by decide +kernel
theorem zr_61_4 : rr 61 4 = 64 := by decide +kernel
theorem qX7_init_28 : Dc mX7_init 28 (.aload_n 0) 1 29 := ⟨by decide +kernel, rfl⟩
theorem qX7_init_29 : Dc mX7_init 29 (.bipush 40) 2 31 := ⟨by decide +kernel, rfl⟩
theorem qX7_init_31 : Dc mX7_init 31 (.newarray .int) 2 33 := ⟨by decide +kernel, rfl⟩
theorem zs_65 : sh 65 = 20 := by decide +kernel
theorem zl_65 : ln 65 = 40 := by decide +kernel
theorem qX7_init_33 : Dc mX7_init 33 (.putfield 21) 3 36 := ⟨by decide +kernel, rfl⟩
theorem fq_X7_21 : Fq RX7 21 7 5 true := ⟨_, _, _, tyX7, _, rfl, by decide, cws_7, tb_2 65 (by decide +kernel) (by decide +kernel), tyX7_ok, nmX7, rfl, fun _ => rfl, tyX7_ok 5 (by decide), by decide +kernel, fun _ => ⟨rfl, rfl⟩⟩
theorem zk_7_5 : kd 7 5 = 2 := by decide +kernel
theorem zr_61_5 : rr 61 5 = 65 := by decide +kernel
theorem qX7_init_36 : Dc mX7_init 36 (.return_) 1 37 := ⟨by decide +kernel, rfl⟩
set_option maxRecDepth 20000 in
set_option maxHeartbeats 4000000 in
theorem kb_X7_init_62 {σ : St} {L : List (Nat × Nat)} : BCt mX7_init 1 [.ref 61] 62 σ (nuL L) (66, σ, nuL ((61, 5) :: (61, 4) :: (61, 3) :: (61, 2) :: L)) := by
  refine BCt.ofE (by decide +kernel) rfl rfl ⟨Nat.le_of_ble_eq_true rfl, Nat.le_of_ble_eq_true rfl⟩ ?_
  show BE mX7_init 1 62 (66, σ, nuL ((61, 5) :: (61, 4) :: (61, 3) :: (61, 2) :: L)) 0 [some (.ref 61)] [] 62 σ (nuL L)
  refine b_aload_n qX7_init_0 rfl ?_
  refine b_obj qX7_init_1 ob_X7_3.1 ob_X7_3.2.1 ob_X7_3.2.2 rfl rfl ?_
  refine b_aload_n qX7_init_4 rfl ?_
  refine b_bipush (nI 40) qX7_init_5 (by decide +kernel) ?_
  refine b_newaI qX7_init_7 ar_int zs_62 zl_62 rfl (Nat.le_of_ble_eq_true rfl) ?_
  refine b_putrL qX7_init_9 fq_X7_11 rfl zs_61 zk_7_2 zr_61_2 (by decide) ?_
  refine b_aload_n qX7_init_12 rfl ?_
  refine b_bipush (nI 40) qX7_init_13 (by decide +kernel) ?_
  refine b_newaI qX7_init_15 ar_int zs_63 zl_63 rfl (Nat.le_of_ble_eq_true rfl) ?_
  refine b_putrL qX7_init_17 fq_X7_15 rfl zs_61 zk_7_3 zr_61_3 (by decide) ?_
  refine b_aload_n qX7_init_20 rfl ?_
  refine b_bipush (nI 40) qX7_init_21 (by decide +kernel) ?_
  refine b_newaI qX7_init_23 ar_int zs_64 zl_64 rfl (Nat.le_of_ble_eq_true rfl) ?_
  refine b_putrL qX7_init_25 fq_X7_18 rfl zs_61 zk_7_4 zr_61_4 (by decide) ?_
  refine b_aload_n qX7_init_28 rfl ?_
  refine b_bipush (nI 40) qX7_init_29 (by decide +kernel) ?_
  refine b_newaI qX7_init_31 ar_int zs_65 zl_65 rfl (Nat.le_of_ble_eq_true rfl) ?_
  refine b_putrL qX7_init_33 fq_X7_21 rfl zs_61 zk_7_5 zr_61_5 (by decide) ?_
  exact b_ret qX7_init_36 rfl rfl
theorem mj_X11_40 : MwJ RX11 40 mX7_init 0 "CoastLights" := ⟨mw_X7_init, rfl, tb_2 56 (by decide +kernel) (by decide +kernel), rfl, by decide +kernel⟩
theorem qX11_init_75 : Dc mX11_init 75 (.putfield 41) 3 78 := ⟨by decide +kernel, rfl⟩
theorem fq_X11_41 : Fq RX11 41 10 5 true := ⟨_, _, _, tyX11, _, rfl, by decide, cws_10, tb_2 173 (by decide +kernel) (by decide +kernel), tyX11_ok, nmX11, rfl, fun _ => rfl, tyX11_ok 5 (by decide), by decide +kernel, fun _ => ⟨rfl, rfl⟩⟩
theorem zk_10_5 : kd 10 5 = 2 := by decide +kernel
theorem zr_0_5 : rr 0 5 = 61 := by decide +kernel
theorem qX11_init_78 : Dc mX11_init 78 (.aload_n 0) 1 79 := ⟨by decide +kernel, rfl⟩
theorem qX11_init_79 : Dc mX11_init 79 (.new 38) 3 82 := ⟨by decide +kernel, rfl⟩
theorem zs_66 : sh 66 = 7 := by decide +kernel
theorem qX11_init_82 : Dc mX11_init 82 (.dup) 1 83 := ⟨by decide +kernel, rfl⟩
theorem qX11_init_83 : Dc mX11_init 83 (.invokespecial 40) 3 86 := ⟨by decide +kernel, rfl⟩
theorem zs_67 : sh 67 = 20 := by decide +kernel
theorem zl_67 : ln 67 = 40 := by decide +kernel
theorem zr_66_2 : rr 66 2 = 67 := by decide +kernel
theorem zs_68 : sh 68 = 20 := by decide +kernel
theorem zl_68 : ln 68 = 40 := by decide +kernel
theorem zr_66_3 : rr 66 3 = 68 := by decide +kernel
theorem zs_69 : sh 69 = 20 := by decide +kernel
theorem zl_69 : ln 69 = 40 := by decide +kernel
theorem zr_66_4 : rr 66 4 = 69 := by decide +kernel
theorem zs_70 : sh 70 = 20 := by decide +kernel
theorem zl_70 : ln 70 = 40 := by decide +kernel
theorem zr_66_5 : rr 66 5 = 70 := by decide +kernel
set_option maxRecDepth 20000 in
set_option maxHeartbeats 4000000 in
theorem kb_X7_init_67 {σ : St} {L : List (Nat × Nat)} : BCt mX7_init 1 [.ref 66] 67 σ (nuL L) (71, σ, nuL ((66, 5) :: (66, 4) :: (66, 3) :: (66, 2) :: L)) := by
  refine BCt.ofE (by decide +kernel) rfl rfl ⟨Nat.le_of_ble_eq_true rfl, Nat.le_of_ble_eq_true rfl⟩ ?_
  show BE mX7_init 1 67 (71, σ, nuL ((66, 5) :: (66, 4) :: (66, 3) :: (66, 2) :: L)) 0 [some (.ref 66)] [] 67 σ (nuL L)
  refine b_aload_n qX7_init_0 rfl ?_
  refine b_obj qX7_init_1 ob_X7_3.1 ob_X7_3.2.1 ob_X7_3.2.2 rfl rfl ?_
  refine b_aload_n qX7_init_4 rfl ?_
  refine b_bipush (nI 40) qX7_init_5 (by decide +kernel) ?_
  refine b_newaI qX7_init_7 ar_int zs_67 zl_67 rfl (Nat.le_of_ble_eq_true rfl) ?_
  refine b_putrL qX7_init_9 fq_X7_11 rfl zs_66 zk_7_2 zr_66_2 (by decide) ?_
  refine b_aload_n qX7_init_12 rfl ?_
  refine b_bipush (nI 40) qX7_init_13 (by decide +kernel) ?_
  refine b_newaI qX7_init_15 ar_int zs_68 zl_68 rfl (Nat.le_of_ble_eq_true rfl) ?_
  refine b_putrL qX7_init_17 fq_X7_15 rfl zs_66 zk_7_3 zr_66_3 (by decide) ?_
  refine b_aload_n qX7_init_20 rfl ?_
  refine b_bipush (nI 40) qX7_init_21 (by decide +kernel) ?_
  refine b_newaI qX7_init_23 ar_int zs_69 zl_69 rfl (Nat.le_of_ble_eq_true rfl) ?_
  refine b_putrL qX7_init_25 fq_X7_18 rfl zs_66 zk_7_4 zr_66_4 (by decide) ?_
  refine b_aload_n qX7_init_28 rfl ?_
  refine b_bipush (nI 40) qX7_init_29 (by decide +kernel) ?_
  refine b_newaI qX7_init_31 ar_int zs_70 zl_70 rfl (Nat.le_of_ble_eq_true rfl) ?_
  refine b_putrL qX7_init_33 fq_X7_21 rfl zs_66 zk_7_5 zr_66_5 (by decide) ?_
  exact b_ret qX7_init_36 rfl rfl
theorem qX11_init_86 : Dc mX11_init 86 (.putfield 45) 3 89 := ⟨by decide +kernel, rfl⟩
theorem fq_X11_45 : Fq RX11 45 10 6 true := ⟨_, _, _, tyX11, _, rfl, by decide, cws_10, tb_2 174 (by decide +kernel) (by decide +kernel), tyX11_ok, nmX11, rfl, fun _ => rfl, tyX11_ok 6 (by decide), by decide +kernel, fun _ => ⟨rfl, rfl⟩⟩
theorem zk_10_6 : kd 10 6 = 2 := by decide +kernel
theorem zr_0_6 : rr 0 6 = 66 := by decide +kernel
theorem qX11_init_89 : Dc mX11_init 89 (.aload_n 0) 1 90 := ⟨by decide +kernel, rfl⟩
theorem qX11_init_90 : Dc mX11_init 90 (.new 48) 3 93 := ⟨by decide +kernel, rfl⟩
theorem nw_X11_48 : Nw RX11 48 0 := ⟨_, _, _, tyX0, rfl, cws_0, tyX0_ok, tb_2 79 (by decide +kernel) (by decide +kernel), tb_2 80 (by decide +kernel) (by decide +kernel), tb_1 8 (by decide +kernel) (by decide +kernel), by decide +kernel, by decide +kernel⟩
theorem zs_71 : sh 71 = 0 := by decide +kernel
theorem qX11_init_93 : Dc mX11_init 93 (.dup) 1 94 := ⟨by decide +kernel, rfl⟩
theorem qX11_init_94 : Dc mX11_init 94 (.invokespecial 50) 3 97 := ⟨by decide +kernel, rfl⟩
abbrev mX0_init : MI := (yX0_init, cX0_init, 1, none)
theorem mw_X0_init : Mw mX0_init 0 := ⟨tb_2 83 (by decide +kernel) (by decide +kernel), tb_1 8 (by decide +kernel) (by decide +kernel), by decide +kernel, mw_sig (by decide +kernel), by decide⟩
theorem qX0_init_0 : Dc mX0_init 0 (.aload_n 0) 1 1 := ⟨by decide +kernel, rfl⟩
theorem qX0_init_1 : Dc mX0_init 1 (.invokespecial 3) 3 4 := ⟨by decide +kernel, rfl⟩
theorem ob_X0_3 : Cond.methodLink RX0 3 objectInit ∈ tb ∧ Cond.instanceMethod objectInit ∈ tb ∧ Cond.code objectInit ⟨#[0xb1]⟩ 1 none ∈ tb := ⟨tb_2 84 (by decide +kernel) (by decide +kernel), tb_1 32 (by decide +kernel) (by decide +kernel), tb_1 33 (by decide +kernel) (by decide +kernel)⟩
theorem qX0_init_4 : Dc mX0_init 4 (.aload_n 0) 1 5 := ⟨by decide +kernel, rfl⟩
theorem qX0_init_5 : Dc mX0_init 5 (.bipush 40) 2 7 := ⟨by decide +kernel, rfl⟩
theorem qX0_init_7 : Dc mX0_init 7 (.newarray .int) 2 9 := ⟨by decide +kernel, rfl⟩
theorem zs_72 : sh 72 = 20 := by decide +kernel
theorem zl_72 : ln 72 = 40 := by decide +kernel
theorem qX0_init_9 : Dc mX0_init 9 (.putfield 9) 3 12 := ⟨by decide +kernel, rfl⟩
theorem fq_X0_9 : Fq RX0 9 0 0 true := ⟨_, _, _, tyX0, _, rfl, by decide, cws_0, tb_2 85 (by decide +kernel) (by decide +kernel), tyX0_ok, nmX0, rfl, fun _ => rfl, tyX0_ok 0 (by decide), by decide +kernel, fun _ => ⟨rfl, rfl⟩⟩
theorem zk_0_0 : kd 0 0 = 2 := by decide +kernel
theorem zr_71_0 : rr 71 0 = 72 := by decide +kernel
theorem qX0_init_12 : Dc mX0_init 12 (.aload_n 0) 1 13 := ⟨by decide +kernel, rfl⟩
theorem qX0_init_13 : Dc mX0_init 13 (.bipush 40) 2 15 := ⟨by decide +kernel, rfl⟩
theorem qX0_init_15 : Dc mX0_init 15 (.newarray .int) 2 17 := ⟨by decide +kernel, rfl⟩
theorem zs_73 : sh 73 = 20 := by decide +kernel
theorem zl_73 : ln 73 = 40 := by decide +kernel
theorem qX0_init_17 : Dc mX0_init 17 (.putfield 15) 3 20 := ⟨by decide +kernel, rfl⟩
theorem fq_X0_15 : Fq RX0 15 0 1 true := ⟨_, _, _, tyX0, _, rfl, by decide, cws_0, tb_2 86 (by decide +kernel) (by decide +kernel), tyX0_ok, nmX0, rfl, fun _ => rfl, tyX0_ok 1 (by decide), by decide +kernel, fun _ => ⟨rfl, rfl⟩⟩
theorem zk_0_1 : kd 0 1 = 2 := by decide +kernel
theorem zr_71_1 : rr 71 1 = 73 := by decide +kernel
theorem qX0_init_20 : Dc mX0_init 20 (.aload_n 0) 1 21 := ⟨by decide +kernel, rfl⟩
theorem qX0_init_21 : Dc mX0_init 21 (.bipush 40) 2 23 := ⟨by decide +kernel, rfl⟩
theorem qX0_init_23 : Dc mX0_init 23 (.newarray .int) 2 25 := ⟨by decide +kernel, rfl⟩
theorem zs_74 : sh 74 = 20 := by decide +kernel
theorem zl_74 : ln 74 = 40 := by decide +kernel
theorem qX0_init_25 : Dc mX0_init 25 (.putfield 18) 3 28 := ⟨by decide +kernel, rfl⟩
theorem fq_X0_18 : Fq RX0 18 0 2 true := ⟨_, _, _, tyX0, _, rfl, by decide, cws_0, tb_2 87 (by decide +kernel) (by decide +kernel), tyX0_ok, nmX0, rfl, fun _ => rfl, tyX0_ok 2 (by decide), by decide +kernel, fun _ => ⟨rfl, rfl⟩⟩
theorem zk_0_2 : kd 0 2 = 2 := by decide +kernel
theorem zr_71_2 : rr 71 2 = 74 := by decide +kernel
theorem qX0_init_28 : Dc mX0_init 28 (.return_) 1 29 := ⟨by decide +kernel, rfl⟩
set_option maxRecDepth 20000 in
set_option maxHeartbeats 4000000 in
theorem kb_X0_init_72 {σ : St} {L : List (Nat × Nat)} : BCt mX0_init 1 [.ref 71] 72 σ (nuL L) (75, σ, nuL ((71, 2) :: (71, 1) :: (71, 0) :: L)) := by
  refine BCt.ofE (by decide +kernel) rfl rfl ⟨Nat.le_of_ble_eq_true rfl, Nat.le_of_ble_eq_true rfl⟩ ?_
  show BE mX0_init 1 72 (75, σ, nuL ((71, 2) :: (71, 1) :: (71, 0) :: L)) 0 [some (.ref 71)] [] 72 σ (nuL L)
  refine b_aload_n qX0_init_0 rfl ?_
  refine b_obj qX0_init_1 ob_X0_3.1 ob_X0_3.2.1 ob_X0_3.2.2 rfl rfl ?_
  refine b_aload_n qX0_init_4 rfl ?_
  refine b_bipush (nI 40) qX0_init_5 (by decide +kernel) ?_
  refine b_newaI qX0_init_7 ar_int zs_72 zl_72 rfl (Nat.le_of_ble_eq_true rfl) ?_
  refine b_putrL qX0_init_9 fq_X0_9 rfl zs_71 zk_0_0 zr_71_0 (by decide) ?_
  refine b_aload_n qX0_init_12 rfl ?_
  refine b_bipush (nI 40) qX0_init_13 (by decide +kernel) ?_
  refine b_newaI qX0_init_15 ar_int zs_73 zl_73 rfl (Nat.le_of_ble_eq_true rfl) ?_
  refine b_putrL qX0_init_17 fq_X0_15 rfl zs_71 zk_0_1 zr_71_1 (by decide) ?_
  refine b_aload_n qX0_init_20 rfl ?_
  refine b_bipush (nI 40) qX0_init_21 (by decide +kernel) ?_
  refine b_newaI qX0_init_23 ar_int zs_74 zl_74 rfl (Nat.le_of_ble_eq_true rfl) ?_
  refine b_putrL qX0_init_25 fq_X0_18 rfl zs_71 zk_0_2 zr_71_2 (by decide) ?_
  exact b_ret qX0_init_28 rfl rfl
theorem mj_X11_50 : MwJ RX11 50 mX0_init 0 "CoastLights" := ⟨mw_X0_init, rfl, tb_2 82 (by decide +kernel) (by decide +kernel), rfl, by decide +kernel⟩
theorem qX11_init_97 : Dc mX11_init 97 (.putfield 51) 3 100 := ⟨by decide +kernel, rfl⟩
theorem fq_X11_51 : Fq RX11 51 10 7 true := ⟨_, _, _, tyX11, _, rfl, by decide, cws_10, tb_2 175 (by decide +kernel) (by decide +kernel), tyX11_ok, nmX11, rfl, fun _ => rfl, tyX11_ok 7 (by decide), by decide +kernel, fun _ => ⟨rfl, rfl⟩⟩
theorem zk_10_7 : kd 10 7 = 2 := by decide +kernel
theorem zr_0_7 : rr 0 7 = 71 := by decide +kernel
theorem qX11_init_100 : Dc mX11_init 100 (.aload_n 0) 1 101 := ⟨by decide +kernel, rfl⟩
theorem qX11_init_101 : Dc mX11_init 101 (.new 55) 3 104 := ⟨by decide +kernel, rfl⟩
theorem nw_X11_55 : Nw RX11 55 5 := ⟨_, _, _, tyX5, rfl, cws_5, tyX5_ok, tb_2 106 (by decide +kernel) (by decide +kernel), tb_2 107 (by decide +kernel) (by decide +kernel), tb_1 9 (by decide +kernel) (by decide +kernel), by decide +kernel, by decide +kernel⟩
theorem zs_75 : sh 75 = 5 := by decide +kernel
theorem qX11_init_104 : Dc mX11_init 104 (.dup) 1 105 := ⟨by decide +kernel, rfl⟩
theorem qX11_init_105 : Dc mX11_init 105 (.aload_n 0) 1 106 := ⟨by decide +kernel, rfl⟩
theorem qX11_init_106 : Dc mX11_init 106 (.getfield 19) 3 109 := ⟨by decide +kernel, rfl⟩
theorem qX11_init_109 : Dc mX11_init 109 (.invokespecial 57) 3 112 := ⟨by decide +kernel, rfl⟩
abbrev mX5_init : MI := (yX5_init, cX5_init, 3, none)
theorem mw_X5_init : Mw mX5_init 1 := ⟨tb_2 110 (by decide +kernel) (by decide +kernel), tb_1 9 (by decide +kernel) (by decide +kernel), by decide +kernel, mw_sig (by decide +kernel), by decide⟩
theorem qX5_init_0 : Dc mX5_init 0 (.aload_n 0) 1 1 := ⟨by decide +kernel, rfl⟩
theorem qX5_init_1 : Dc mX5_init 1 (.invokespecial 3) 3 4 := ⟨by decide +kernel, rfl⟩
theorem ob_X5_3 : Cond.methodLink RX5 3 objectInit ∈ tb ∧ Cond.instanceMethod objectInit ∈ tb ∧ Cond.code objectInit ⟨#[0xb1]⟩ 1 none ∈ tb := ⟨tb_2 111 (by decide +kernel) (by decide +kernel), tb_1 32 (by decide +kernel) (by decide +kernel), tb_1 33 (by decide +kernel) (by decide +kernel)⟩
theorem qX5_init_4 : Dc mX5_init 4 (.aload_n 0) 1 5 := ⟨by decide +kernel, rfl⟩
theorem qX5_init_5 : Dc mX5_init 5 (.bipush 9) 2 7 := ⟨by decide +kernel, rfl⟩
theorem qX5_init_7 : Dc mX5_init 7 (.anewarray 11) 3 10 := ⟨by decide +kernel, rfl⟩
theorem na_X5_11 : Na RX5 11 26 "CoastLights$Scene" := ⟨tb_2 112 (by decide +kernel) (by decide +kernel), by decide +kernel, by decide, fun _ => rfl⟩
theorem zs_76 : sh 76 = 26 := by decide +kernel
theorem zl_76 : ln 76 = 9 := by decide +kernel
theorem qX5_init_10 : Dc mX5_init 10 (.putfield 13) 3 13 := ⟨by decide +kernel, rfl⟩
theorem fq_X5_13 : Fq RX5 13 5 0 true := ⟨_, _, _, tyX5, _, rfl, by decide, cws_5, tb_2 115 (by decide +kernel) (by decide +kernel), tyX5_ok, nmX5, rfl, fun _ => rfl, tyX5_ok 0 (by decide), by decide +kernel, fun _ => ⟨rfl, rfl⟩⟩
theorem zk_5_0 : kd 5 0 = 2 := by decide +kernel
theorem zr_75_0 : rr 75 0 = 76 := by decide +kernel
theorem qX5_init_13 : Dc mX5_init 13 (.iconst 0) 1 14 := ⟨by decide +kernel, rfl⟩
theorem qX5_init_14 : Dc mX5_init 14 (.istore_n 2) 1 15 := ⟨by decide +kernel, rfl⟩
theorem qX5_init_15 : Dc mX5_init 15 (.iload_n 2) 1 16 := ⟨by decide +kernel, rfl⟩
theorem qX5_init_16 : Dc mX5_init 16 (.bipush 9) 2 18 := ⟨by decide +kernel, rfl⟩
theorem qX5_init_18 : Dc mX5_init 18 (.if_icmp .ge 23) 3 21 := ⟨by decide +kernel, rfl⟩
theorem qX5_init_21 : Dc mX5_init 21 (.aload_n 0) 1 22 := ⟨by decide +kernel, rfl⟩
theorem qX5_init_22 : Dc mX5_init 22 (.getfield 13) 3 25 := ⟨by decide +kernel, rfl⟩
theorem qX5_init_25 : Dc mX5_init 25 (.iload_n 2) 1 26 := ⟨by decide +kernel, rfl⟩
theorem qX5_init_26 : Dc mX5_init 26 (.new 11) 3 29 := ⟨by decide +kernel, rfl⟩
theorem nw_X5_11 : Nw RX5 11 6 := ⟨_, _, _, tyX6, rfl, cws_6, tyX6_ok, tb_2 112 (by decide +kernel) (by decide +kernel), tb_2 8 (by decide +kernel) (by decide +kernel), tb_1 6 (by decide +kernel) (by decide +kernel), by decide +kernel, by decide +kernel⟩
theorem zs_77 : sh 77 = 6 := by decide +kernel
theorem qX5_init_29 : Dc mX5_init 29 (.dup) 1 30 := ⟨by decide +kernel, rfl⟩
theorem qX5_init_30 : Dc mX5_init 30 (.aload_n 1) 1 31 := ⟨by decide +kernel, rfl⟩
theorem qX5_init_31 : Dc mX5_init 31 (.invokespecial 17) 3 34 := ⟨by decide +kernel, rfl⟩
theorem zs_78 : sh 78 = 20 := by decide +kernel
theorem zl_78 : ln 78 = 8 := by decide +kernel
theorem zr_77_4 : rr 77 4 = 78 := by decide +kernel
theorem zs_79 : sh 79 = 20 := by decide +kernel
theorem zl_79 : ln 79 = 8 := by decide +kernel
theorem zr_77_5 : rr 77 5 = 79 := by decide +kernel
theorem zs_80 : sh 80 = 20 := by decide +kernel
theorem zl_80 : ln 80 = 4 := by decide +kernel
theorem zr_77_6 : rr 77 6 = 80 := by decide +kernel
theorem zs_81 : sh 81 = 20 := by decide +kernel
theorem zl_81 : ln 81 = 4 := by decide +kernel
theorem zr_77_7 : rr 77 7 = 81 := by decide +kernel
theorem zs_82 : sh 82 = 20 := by decide +kernel
theorem zl_82 : ln 82 = 4 := by decide +kernel
theorem zr_77_8 : rr 77 8 = 82 := by decide +kernel
theorem zr_77_0 : rr 77 0 = 3 := by decide +kernel
set_option maxRecDepth 20000 in
set_option maxHeartbeats 4000000 in
theorem kb_X6_init_78 {σ : St} {L : List (Nat × Nat)} : BCt mX6_init 1 [.ref 77, .ref 3] 78 σ (nuL L) (83, σ, nuL ((77, 0) :: (77, 8) :: (77, 7) :: (77, 6) :: (77, 5) :: (77, 4) :: L)) := by
  refine BCt.ofE (by decide +kernel) rfl rfl ⟨Nat.le_of_ble_eq_true rfl, Nat.le_of_ble_eq_true rfl⟩ ?_
  show BE mX6_init 1 78 (83, σ, nuL ((77, 0) :: (77, 8) :: (77, 7) :: (77, 6) :: (77, 5) :: (77, 4) :: L)) 0 [some (.ref 77), some (.ref 3)] [] 78 σ (nuL L)
  refine b_aload_n qX6_init_0 rfl ?_
  refine b_obj qX6_init_1 ob_X6_3.1 ob_X6_3.2.1 ob_X6_3.2.2 rfl rfl ?_
  refine b_aload_n qX6_init_4 rfl ?_
  refine b_bipush (nI 8) qX6_init_5 (by decide +kernel) ?_
  refine b_newaI qX6_init_7 ar_int zs_78 zl_78 rfl (Nat.le_of_ble_eq_true rfl) ?_
  refine b_putrL qX6_init_9 fq_X6_9 rfl zs_77 zk_6_4 zr_77_4 (by decide) ?_
  refine b_aload_n qX6_init_12 rfl ?_
  refine b_bipush (nI 8) qX6_init_13 (by decide +kernel) ?_
  refine b_newaI qX6_init_15 ar_int zs_79 zl_79 rfl (Nat.le_of_ble_eq_true rfl) ?_
  refine b_putrL qX6_init_17 fq_X6_15 rfl zs_77 zk_6_5 zr_77_5 (by decide) ?_
  refine b_aload_n qX6_init_20 rfl ?_
  refine b_iconst (nI 4) qX6_init_21 (by decide +kernel) ?_
  refine b_newaI qX6_init_22 ar_int zs_80 zl_80 rfl (Nat.le_of_ble_eq_true rfl) ?_
  refine b_putrL qX6_init_24 fq_X6_18 rfl zs_77 zk_6_6 zr_77_6 (by decide) ?_
  refine b_aload_n qX6_init_27 rfl ?_
  refine b_iconst (nI 4) qX6_init_28 (by decide +kernel) ?_
  refine b_newaI qX6_init_29 ar_int zs_81 zl_81 rfl (Nat.le_of_ble_eq_true rfl) ?_
  refine b_putrL qX6_init_31 fq_X6_21 rfl zs_77 zk_6_7 zr_77_7 (by decide) ?_
  refine b_aload_n qX6_init_34 rfl ?_
  refine b_iconst (nI 4) qX6_init_35 (by decide +kernel) ?_
  refine b_newaI qX6_init_36 ar_int zs_82 zl_82 rfl (Nat.le_of_ble_eq_true rfl) ?_
  refine b_putrL qX6_init_38 fq_X6_24 rfl zs_77 zk_6_8 zr_77_8 (by decide) ?_
  refine b_aload_n qX6_init_41 rfl ?_
  refine b_aload_n qX6_init_42 rfl ?_
  refine b_putrL qX6_init_43 fq_X6_27 rfl zs_77 zk_6_0 zr_77_0 (by decide) ?_
  exact b_ret qX6_init_46 rfl rfl
theorem mi_X5_17 : MwI RX5 17 mX6_init 1 := ⟨mw_X6_init, rfl, tb_2 10 (by decide +kernel) (by decide +kernel), rfl, tb_2 114 (by decide +kernel) (by decide +kernel)⟩
theorem qX5_init_34 : Dc mX5_init 34 (.aastore) 1 35 := ⟨by decide +kernel, rfl⟩
theorem zr_76_0 : rr 76 0 = 77 := by decide +kernel
theorem qX5_init_35 : Dc mX5_init 35 (.iinc 2 1) 3 38 := ⟨by decide +kernel, rfl⟩
theorem qX5_init_38 : Dc mX5_init 38 (.goto (-23)) 3 41 := ⟨by decide +kernel, rfl⟩
theorem zs_83 : sh 83 = 6 := by decide +kernel
theorem zs_84 : sh 84 = 20 := by decide +kernel
theorem zl_84 : ln 84 = 8 := by decide +kernel
theorem zr_83_4 : rr 83 4 = 84 := by decide +kernel
theorem zs_85 : sh 85 = 20 := by decide +kernel
theorem zl_85 : ln 85 = 8 := by decide +kernel
theorem zr_83_5 : rr 83 5 = 85 := by decide +kernel
theorem zs_86 : sh 86 = 20 := by decide +kernel
theorem zl_86 : ln 86 = 4 := by decide +kernel
theorem zr_83_6 : rr 83 6 = 86 := by decide +kernel
theorem zs_87 : sh 87 = 20 := by decide +kernel
theorem zl_87 : ln 87 = 4 := by decide +kernel
theorem zr_83_7 : rr 83 7 = 87 := by decide +kernel
theorem zs_88 : sh 88 = 20 := by decide +kernel
theorem zl_88 : ln 88 = 4 := by decide +kernel
theorem zr_83_8 : rr 83 8 = 88 := by decide +kernel
theorem zr_83_0 : rr 83 0 = 3 := by decide +kernel
set_option maxRecDepth 20000 in
set_option maxHeartbeats 4000000 in
theorem kb_X6_init_84 {σ : St} {L : List (Nat × Nat)} : BCt mX6_init 1 [.ref 83, .ref 3] 84 σ (nuL L) (89, σ, nuL ((83, 0) :: (83, 8) :: (83, 7) :: (83, 6) :: (83, 5) :: (83, 4) :: L)) := by
  refine BCt.ofE (by decide +kernel) rfl rfl ⟨Nat.le_of_ble_eq_true rfl, Nat.le_of_ble_eq_true rfl⟩ ?_
  show BE mX6_init 1 84 (89, σ, nuL ((83, 0) :: (83, 8) :: (83, 7) :: (83, 6) :: (83, 5) :: (83, 4) :: L)) 0 [some (.ref 83), some (.ref 3)] [] 84 σ (nuL L)
  refine b_aload_n qX6_init_0 rfl ?_
  refine b_obj qX6_init_1 ob_X6_3.1 ob_X6_3.2.1 ob_X6_3.2.2 rfl rfl ?_
  refine b_aload_n qX6_init_4 rfl ?_
  refine b_bipush (nI 8) qX6_init_5 (by decide +kernel) ?_
  refine b_newaI qX6_init_7 ar_int zs_84 zl_84 rfl (Nat.le_of_ble_eq_true rfl) ?_
  refine b_putrL qX6_init_9 fq_X6_9 rfl zs_83 zk_6_4 zr_83_4 (by decide) ?_
  refine b_aload_n qX6_init_12 rfl ?_
  refine b_bipush (nI 8) qX6_init_13 (by decide +kernel) ?_
  refine b_newaI qX6_init_15 ar_int zs_85 zl_85 rfl (Nat.le_of_ble_eq_true rfl) ?_
  refine b_putrL qX6_init_17 fq_X6_15 rfl zs_83 zk_6_5 zr_83_5 (by decide) ?_
  refine b_aload_n qX6_init_20 rfl ?_
  refine b_iconst (nI 4) qX6_init_21 (by decide +kernel) ?_
  refine b_newaI qX6_init_22 ar_int zs_86 zl_86 rfl (Nat.le_of_ble_eq_true rfl) ?_
  refine b_putrL qX6_init_24 fq_X6_18 rfl zs_83 zk_6_6 zr_83_6 (by decide) ?_
  refine b_aload_n qX6_init_27 rfl ?_
  refine b_iconst (nI 4) qX6_init_28 (by decide +kernel) ?_
  refine b_newaI qX6_init_29 ar_int zs_87 zl_87 rfl (Nat.le_of_ble_eq_true rfl) ?_
  refine b_putrL qX6_init_31 fq_X6_21 rfl zs_83 zk_6_7 zr_83_7 (by decide) ?_
  refine b_aload_n qX6_init_34 rfl ?_
  refine b_iconst (nI 4) qX6_init_35 (by decide +kernel) ?_
  refine b_newaI qX6_init_36 ar_int zs_88 zl_88 rfl (Nat.le_of_ble_eq_true rfl) ?_
  refine b_putrL qX6_init_38 fq_X6_24 rfl zs_83 zk_6_8 zr_83_8 (by decide) ?_
  refine b_aload_n qX6_init_41 rfl ?_
  refine b_aload_n qX6_init_42 rfl ?_
  refine b_putrL qX6_init_43 fq_X6_27 rfl zs_83 zk_6_0 zr_83_0 (by decide) ?_
  exact b_ret qX6_init_46 rfl rfl
theorem zr_76_1 : rr 76 1 = 83 := by decide +kernel
theorem zs_89 : sh 89 = 6 := by decide +kernel
theorem zs_90 : sh 90 = 20 := by decide +kernel
theorem zl_90 : ln 90 = 8 := by decide +kernel
theorem zr_89_4 : rr 89 4 = 90 := by decide +kernel
theorem zs_91 : sh 91 = 20 := by decide +kernel
theorem zl_91 : ln 91 = 8 := by decide +kernel
theorem zr_89_5 : rr 89 5 = 91 := by decide +kernel
theorem zs_92 : sh 92 = 20 := by decide +kernel
theorem zl_92 : ln 92 = 4 := by decide +kernel
theorem zr_89_6 : rr 89 6 = 92 := by decide +kernel
theorem zs_93 : sh 93 = 20 := by decide +kernel
theorem zl_93 : ln 93 = 4 := by decide +kernel
theorem zr_89_7 : rr 89 7 = 93 := by decide +kernel
theorem zs_94 : sh 94 = 20 := by decide +kernel
theorem zl_94 : ln 94 = 4 := by decide +kernel
theorem zr_89_8 : rr 89 8 = 94 := by decide +kernel
theorem zr_89_0 : rr 89 0 = 3 := by decide +kernel
set_option maxRecDepth 20000 in
set_option maxHeartbeats 4000000 in
theorem kb_X6_init_90 {σ : St} {L : List (Nat × Nat)} : BCt mX6_init 1 [.ref 89, .ref 3] 90 σ (nuL L) (95, σ, nuL ((89, 0) :: (89, 8) :: (89, 7) :: (89, 6) :: (89, 5) :: (89, 4) :: L)) := by
  refine BCt.ofE (by decide +kernel) rfl rfl ⟨Nat.le_of_ble_eq_true rfl, Nat.le_of_ble_eq_true rfl⟩ ?_
  show BE mX6_init 1 90 (95, σ, nuL ((89, 0) :: (89, 8) :: (89, 7) :: (89, 6) :: (89, 5) :: (89, 4) :: L)) 0 [some (.ref 89), some (.ref 3)] [] 90 σ (nuL L)
  refine b_aload_n qX6_init_0 rfl ?_
  refine b_obj qX6_init_1 ob_X6_3.1 ob_X6_3.2.1 ob_X6_3.2.2 rfl rfl ?_
  refine b_aload_n qX6_init_4 rfl ?_
  refine b_bipush (nI 8) qX6_init_5 (by decide +kernel) ?_
  refine b_newaI qX6_init_7 ar_int zs_90 zl_90 rfl (Nat.le_of_ble_eq_true rfl) ?_
  refine b_putrL qX6_init_9 fq_X6_9 rfl zs_89 zk_6_4 zr_89_4 (by decide) ?_
  refine b_aload_n qX6_init_12 rfl ?_
  refine b_bipush (nI 8) qX6_init_13 (by decide +kernel) ?_
  refine b_newaI qX6_init_15 ar_int zs_91 zl_91 rfl (Nat.le_of_ble_eq_true rfl) ?_
  refine b_putrL qX6_init_17 fq_X6_15 rfl zs_89 zk_6_5 zr_89_5 (by decide) ?_
  refine b_aload_n qX6_init_20 rfl ?_
  refine b_iconst (nI 4) qX6_init_21 (by decide +kernel) ?_
  refine b_newaI qX6_init_22 ar_int zs_92 zl_92 rfl (Nat.le_of_ble_eq_true rfl) ?_
  refine b_putrL qX6_init_24 fq_X6_18 rfl zs_89 zk_6_6 zr_89_6 (by decide) ?_
  refine b_aload_n qX6_init_27 rfl ?_
  refine b_iconst (nI 4) qX6_init_28 (by decide +kernel) ?_
  refine b_newaI qX6_init_29 ar_int zs_93 zl_93 rfl (Nat.le_of_ble_eq_true rfl) ?_
  refine b_putrL qX6_init_31 fq_X6_21 rfl zs_89 zk_6_7 zr_89_7 (by decide) ?_
  refine b_aload_n qX6_init_34 rfl ?_
  refine b_iconst (nI 4) qX6_init_35 (by decide +kernel) ?_
  refine b_newaI qX6_init_36 ar_int zs_94 zl_94 rfl (Nat.le_of_ble_eq_true rfl) ?_
  refine b_putrL qX6_init_38 fq_X6_24 rfl zs_89 zk_6_8 zr_89_8 (by decide) ?_
  refine b_aload_n qX6_init_41 rfl ?_
  refine b_aload_n qX6_init_42 rfl ?_
  refine b_putrL qX6_init_43 fq_X6_27 rfl zs_89 zk_6_0 zr_89_0 (by decide) ?_
  exact b_ret qX6_init_46 rfl rfl
theorem zr_76_2 : rr 76 2 = 89 := by decide +kernel
theorem zs_95 : sh 95 = 6 := by decide +kernel
theorem zs_96 : sh 96 = 20 := by decide +kernel
theorem zl_96 : ln 96 = 8 := by decide +kernel
theorem zr_95_4 : rr 95 4 = 96 := by decide +kernel
theorem zs_97 : sh 97 = 20 := by decide +kernel
theorem zl_97 : ln 97 = 8 := by decide +kernel
theorem zr_95_5 : rr 95 5 = 97 := by decide +kernel
theorem zs_98 : sh 98 = 20 := by decide +kernel
theorem zl_98 : ln 98 = 4 := by decide +kernel
theorem zr_95_6 : rr 95 6 = 98 := by decide +kernel
theorem zs_99 : sh 99 = 20 := by decide +kernel
theorem zl_99 : ln 99 = 4 := by decide +kernel
theorem zr_95_7 : rr 95 7 = 99 := by decide +kernel
theorem zs_100 : sh 100 = 20 := by decide +kernel
theorem zl_100 : ln 100 = 4 := by decide +kernel
theorem zr_95_8 : rr 95 8 = 100 := by decide +kernel
theorem zr_95_0 : rr 95 0 = 3 := by decide +kernel
set_option maxRecDepth 20000 in
set_option maxHeartbeats 4000000 in
theorem kb_X6_init_96 {σ : St} {L : List (Nat × Nat)} : BCt mX6_init 1 [.ref 95, .ref 3] 96 σ (nuL L) (101, σ, nuL ((95, 0) :: (95, 8) :: (95, 7) :: (95, 6) :: (95, 5) :: (95, 4) :: L)) := by
  refine BCt.ofE (by decide +kernel) rfl rfl ⟨Nat.le_of_ble_eq_true rfl, Nat.le_of_ble_eq_true rfl⟩ ?_
  show BE mX6_init 1 96 (101, σ, nuL ((95, 0) :: (95, 8) :: (95, 7) :: (95, 6) :: (95, 5) :: (95, 4) :: L)) 0 [some (.ref 95), some (.ref 3)] [] 96 σ (nuL L)
  refine b_aload_n qX6_init_0 rfl ?_
  refine b_obj qX6_init_1 ob_X6_3.1 ob_X6_3.2.1 ob_X6_3.2.2 rfl rfl ?_
  refine b_aload_n qX6_init_4 rfl ?_
  refine b_bipush (nI 8) qX6_init_5 (by decide +kernel) ?_
  refine b_newaI qX6_init_7 ar_int zs_96 zl_96 rfl (Nat.le_of_ble_eq_true rfl) ?_
  refine b_putrL qX6_init_9 fq_X6_9 rfl zs_95 zk_6_4 zr_95_4 (by decide) ?_
  refine b_aload_n qX6_init_12 rfl ?_
  refine b_bipush (nI 8) qX6_init_13 (by decide +kernel) ?_
  refine b_newaI qX6_init_15 ar_int zs_97 zl_97 rfl (Nat.le_of_ble_eq_true rfl) ?_
  refine b_putrL qX6_init_17 fq_X6_15 rfl zs_95 zk_6_5 zr_95_5 (by decide) ?_
  refine b_aload_n qX6_init_20 rfl ?_
  refine b_iconst (nI 4) qX6_init_21 (by decide +kernel) ?_
  refine b_newaI qX6_init_22 ar_int zs_98 zl_98 rfl (Nat.le_of_ble_eq_true rfl) ?_
  refine b_putrL qX6_init_24 fq_X6_18 rfl zs_95 zk_6_6 zr_95_6 (by decide) ?_
  refine b_aload_n qX6_init_27 rfl ?_
  refine b_iconst (nI 4) qX6_init_28 (by decide +kernel) ?_
  refine b_newaI qX6_init_29 ar_int zs_99 zl_99 rfl (Nat.le_of_ble_eq_true rfl) ?_
  refine b_putrL qX6_init_31 fq_X6_21 rfl zs_95 zk_6_7 zr_95_7 (by decide) ?_
  refine b_aload_n qX6_init_34 rfl ?_
  refine b_iconst (nI 4) qX6_init_35 (by decide +kernel) ?_
  refine b_newaI qX6_init_36 ar_int zs_100 zl_100 rfl (Nat.le_of_ble_eq_true rfl) ?_
  refine b_putrL qX6_init_38 fq_X6_24 rfl zs_95 zk_6_8 zr_95_8 (by decide) ?_
  refine b_aload_n qX6_init_41 rfl ?_
  refine b_aload_n qX6_init_42 rfl ?_
  refine b_putrL qX6_init_43 fq_X6_27 rfl zs_95 zk_6_0 zr_95_0 (by decide) ?_
  exact b_ret qX6_init_46 rfl rfl
theorem zr_76_3 : rr 76 3 = 95 := by decide +kernel
theorem zs_101 : sh 101 = 6 := by decide +kernel
theorem zs_102 : sh 102 = 20 := by decide +kernel
theorem zl_102 : ln 102 = 8 := by decide +kernel
theorem zr_101_4 : rr 101 4 = 102 := by decide +kernel
theorem zs_103 : sh 103 = 20 := by decide +kernel
theorem zl_103 : ln 103 = 8 := by decide +kernel
theorem zr_101_5 : rr 101 5 = 103 := by decide +kernel
theorem zs_104 : sh 104 = 20 := by decide +kernel
theorem zl_104 : ln 104 = 4 := by decide +kernel
theorem zr_101_6 : rr 101 6 = 104 := by decide +kernel
theorem zs_105 : sh 105 = 20 := by decide +kernel
theorem zl_105 : ln 105 = 4 := by decide +kernel
theorem zr_101_7 : rr 101 7 = 105 := by decide +kernel
theorem zs_106 : sh 106 = 20 := by decide +kernel
theorem zl_106 : ln 106 = 4 := by decide +kernel
theorem zr_101_8 : rr 101 8 = 106 := by decide +kernel
theorem zr_101_0 : rr 101 0 = 3 := by decide +kernel
set_option maxRecDepth 20000 in
set_option maxHeartbeats 4000000 in
theorem kb_X6_init_102 {σ : St} {L : List (Nat × Nat)} : BCt mX6_init 1 [.ref 101, .ref 3] 102 σ (nuL L) (107, σ, nuL ((101, 0) :: (101, 8) :: (101, 7) :: (101, 6) :: (101, 5) :: (101, 4) :: L)) := by
  refine BCt.ofE (by decide +kernel) rfl rfl ⟨Nat.le_of_ble_eq_true rfl, Nat.le_of_ble_eq_true rfl⟩ ?_
  show BE mX6_init 1 102 (107, σ, nuL ((101, 0) :: (101, 8) :: (101, 7) :: (101, 6) :: (101, 5) :: (101, 4) :: L)) 0 [some (.ref 101), some (.ref 3)] [] 102 σ (nuL L)
  refine b_aload_n qX6_init_0 rfl ?_
  refine b_obj qX6_init_1 ob_X6_3.1 ob_X6_3.2.1 ob_X6_3.2.2 rfl rfl ?_
  refine b_aload_n qX6_init_4 rfl ?_
  refine b_bipush (nI 8) qX6_init_5 (by decide +kernel) ?_
  refine b_newaI qX6_init_7 ar_int zs_102 zl_102 rfl (Nat.le_of_ble_eq_true rfl) ?_
  refine b_putrL qX6_init_9 fq_X6_9 rfl zs_101 zk_6_4 zr_101_4 (by decide) ?_
  refine b_aload_n qX6_init_12 rfl ?_
  refine b_bipush (nI 8) qX6_init_13 (by decide +kernel) ?_
  refine b_newaI qX6_init_15 ar_int zs_103 zl_103 rfl (Nat.le_of_ble_eq_true rfl) ?_
  refine b_putrL qX6_init_17 fq_X6_15 rfl zs_101 zk_6_5 zr_101_5 (by decide) ?_
  refine b_aload_n qX6_init_20 rfl ?_
  refine b_iconst (nI 4) qX6_init_21 (by decide +kernel) ?_
  refine b_newaI qX6_init_22 ar_int zs_104 zl_104 rfl (Nat.le_of_ble_eq_true rfl) ?_
  refine b_putrL qX6_init_24 fq_X6_18 rfl zs_101 zk_6_6 zr_101_6 (by decide) ?_
  refine b_aload_n qX6_init_27 rfl ?_
  refine b_iconst (nI 4) qX6_init_28 (by decide +kernel) ?_
  refine b_newaI qX6_init_29 ar_int zs_105 zl_105 rfl (Nat.le_of_ble_eq_true rfl) ?_
  refine b_putrL qX6_init_31 fq_X6_21 rfl zs_101 zk_6_7 zr_101_7 (by decide) ?_
  refine b_aload_n qX6_init_34 rfl ?_
  refine b_iconst (nI 4) qX6_init_35 (by decide +kernel) ?_
  refine b_newaI qX6_init_36 ar_int zs_106 zl_106 rfl (Nat.le_of_ble_eq_true rfl) ?_
  refine b_putrL qX6_init_38 fq_X6_24 rfl zs_101 zk_6_8 zr_101_8 (by decide) ?_
  refine b_aload_n qX6_init_41 rfl ?_
  refine b_aload_n qX6_init_42 rfl ?_
  refine b_putrL qX6_init_43 fq_X6_27 rfl zs_101 zk_6_0 zr_101_0 (by decide) ?_
  exact b_ret qX6_init_46 rfl rfl
theorem zr_76_4 : rr 76 4 = 101 := by decide +kernel
theorem zs_107 : sh 107 = 6 := by decide +kernel
theorem zs_108 : sh 108 = 20 := by decide +kernel
theorem zl_108 : ln 108 = 8 := by decide +kernel
theorem zr_107_4 : rr 107 4 = 108 := by decide +kernel
theorem zs_109 : sh 109 = 20 := by decide +kernel
theorem zl_109 : ln 109 = 8 := by decide +kernel
theorem zr_107_5 : rr 107 5 = 109 := by decide +kernel
theorem zs_110 : sh 110 = 20 := by decide +kernel
theorem zl_110 : ln 110 = 4 := by decide +kernel
theorem zr_107_6 : rr 107 6 = 110 := by decide +kernel
theorem zs_111 : sh 111 = 20 := by decide +kernel
theorem zl_111 : ln 111 = 4 := by decide +kernel
theorem zr_107_7 : rr 107 7 = 111 := by decide +kernel
theorem zs_112 : sh 112 = 20 := by decide +kernel
theorem zl_112 : ln 112 = 4 := by decide +kernel
theorem zr_107_8 : rr 107 8 = 112 := by decide +kernel
theorem zr_107_0 : rr 107 0 = 3 := by decide +kernel
set_option maxRecDepth 20000 in
set_option maxHeartbeats 4000000 in
theorem kb_X6_init_108 {σ : St} {L : List (Nat × Nat)} : BCt mX6_init 1 [.ref 107, .ref 3] 108 σ (nuL L) (113, σ, nuL ((107, 0) :: (107, 8) :: (107, 7) :: (107, 6) :: (107, 5) :: (107, 4) :: L)) := by
  refine BCt.ofE (by decide +kernel) rfl rfl ⟨Nat.le_of_ble_eq_true rfl, Nat.le_of_ble_eq_true rfl⟩ ?_
  show BE mX6_init 1 108 (113, σ, nuL ((107, 0) :: (107, 8) :: (107, 7) :: (107, 6) :: (107, 5) :: (107, 4) :: L)) 0 [some (.ref 107), some (.ref 3)] [] 108 σ (nuL L)
  refine b_aload_n qX6_init_0 rfl ?_
  refine b_obj qX6_init_1 ob_X6_3.1 ob_X6_3.2.1 ob_X6_3.2.2 rfl rfl ?_
  refine b_aload_n qX6_init_4 rfl ?_
  refine b_bipush (nI 8) qX6_init_5 (by decide +kernel) ?_
  refine b_newaI qX6_init_7 ar_int zs_108 zl_108 rfl (Nat.le_of_ble_eq_true rfl) ?_
  refine b_putrL qX6_init_9 fq_X6_9 rfl zs_107 zk_6_4 zr_107_4 (by decide) ?_
  refine b_aload_n qX6_init_12 rfl ?_
  refine b_bipush (nI 8) qX6_init_13 (by decide +kernel) ?_
  refine b_newaI qX6_init_15 ar_int zs_109 zl_109 rfl (Nat.le_of_ble_eq_true rfl) ?_
  refine b_putrL qX6_init_17 fq_X6_15 rfl zs_107 zk_6_5 zr_107_5 (by decide) ?_
  refine b_aload_n qX6_init_20 rfl ?_
  refine b_iconst (nI 4) qX6_init_21 (by decide +kernel) ?_
  refine b_newaI qX6_init_22 ar_int zs_110 zl_110 rfl (Nat.le_of_ble_eq_true rfl) ?_
  refine b_putrL qX6_init_24 fq_X6_18 rfl zs_107 zk_6_6 zr_107_6 (by decide) ?_
  refine b_aload_n qX6_init_27 rfl ?_
  refine b_iconst (nI 4) qX6_init_28 (by decide +kernel) ?_
  refine b_newaI qX6_init_29 ar_int zs_111 zl_111 rfl (Nat.le_of_ble_eq_true rfl) ?_
  refine b_putrL qX6_init_31 fq_X6_21 rfl zs_107 zk_6_7 zr_107_7 (by decide) ?_
  refine b_aload_n qX6_init_34 rfl ?_
  refine b_iconst (nI 4) qX6_init_35 (by decide +kernel) ?_
  refine b_newaI qX6_init_36 ar_int zs_112 zl_112 rfl (Nat.le_of_ble_eq_true rfl) ?_
  refine b_putrL qX6_init_38 fq_X6_24 rfl zs_107 zk_6_8 zr_107_8 (by decide) ?_
  refine b_aload_n qX6_init_41 rfl ?_
  refine b_aload_n qX6_init_42 rfl ?_
  refine b_putrL qX6_init_43 fq_X6_27 rfl zs_107 zk_6_0 zr_107_0 (by decide) ?_
  exact b_ret qX6_init_46 rfl rfl
theorem zr_76_5 : rr 76 5 = 107 := by decide +kernel
theorem zs_113 : sh 113 = 6 := by decide +kernel
theorem zs_114 : sh 114 = 20 := by decide +kernel
theorem zl_114 : ln 114 = 8 := by decide +kernel
theorem zr_113_4 : rr 113 4 = 114 := by decide +kernel
theorem zs_115 : sh 115 = 20 := by decide +kernel
theorem zl_115 : ln 115 = 8 := by decide +kernel
theorem zr_113_5 : rr 113 5 = 115 := by decide +kernel
theorem zs_116 : sh 116 = 20 := by decide +kernel
theorem zl_116 : ln 116 = 4 := by decide +kernel
theorem zr_113_6 : rr 113 6 = 116 := by decide +kernel
theorem zs_117 : sh 117 = 20 := by decide +kernel
theorem zl_117 : ln 117 = 4 := by decide +kernel
theorem zr_113_7 : rr 113 7 = 117 := by decide +kernel
theorem zs_118 : sh 118 = 20 := by decide +kernel
theorem zl_118 : ln 118 = 4 := by decide +kernel
theorem zr_113_8 : rr 113 8 = 118 := by decide +kernel
theorem zr_113_0 : rr 113 0 = 3 := by decide +kernel
set_option maxRecDepth 20000 in
set_option maxHeartbeats 4000000 in
theorem kb_X6_init_114 {σ : St} {L : List (Nat × Nat)} : BCt mX6_init 1 [.ref 113, .ref 3] 114 σ (nuL L) (119, σ, nuL ((113, 0) :: (113, 8) :: (113, 7) :: (113, 6) :: (113, 5) :: (113, 4) :: L)) := by
  refine BCt.ofE (by decide +kernel) rfl rfl ⟨Nat.le_of_ble_eq_true rfl, Nat.le_of_ble_eq_true rfl⟩ ?_
  show BE mX6_init 1 114 (119, σ, nuL ((113, 0) :: (113, 8) :: (113, 7) :: (113, 6) :: (113, 5) :: (113, 4) :: L)) 0 [some (.ref 113), some (.ref 3)] [] 114 σ (nuL L)
  refine b_aload_n qX6_init_0 rfl ?_
  refine b_obj qX6_init_1 ob_X6_3.1 ob_X6_3.2.1 ob_X6_3.2.2 rfl rfl ?_
  refine b_aload_n qX6_init_4 rfl ?_
  refine b_bipush (nI 8) qX6_init_5 (by decide +kernel) ?_
  refine b_newaI qX6_init_7 ar_int zs_114 zl_114 rfl (Nat.le_of_ble_eq_true rfl) ?_
  refine b_putrL qX6_init_9 fq_X6_9 rfl zs_113 zk_6_4 zr_113_4 (by decide) ?_
  refine b_aload_n qX6_init_12 rfl ?_
  refine b_bipush (nI 8) qX6_init_13 (by decide +kernel) ?_
  refine b_newaI qX6_init_15 ar_int zs_115 zl_115 rfl (Nat.le_of_ble_eq_true rfl) ?_
  refine b_putrL qX6_init_17 fq_X6_15 rfl zs_113 zk_6_5 zr_113_5 (by decide) ?_
  refine b_aload_n qX6_init_20 rfl ?_
  refine b_iconst (nI 4) qX6_init_21 (by decide +kernel) ?_
  refine b_newaI qX6_init_22 ar_int zs_116 zl_116 rfl (Nat.le_of_ble_eq_true rfl) ?_
  refine b_putrL qX6_init_24 fq_X6_18 rfl zs_113 zk_6_6 zr_113_6 (by decide) ?_
  refine b_aload_n qX6_init_27 rfl ?_
  refine b_iconst (nI 4) qX6_init_28 (by decide +kernel) ?_
  refine b_newaI qX6_init_29 ar_int zs_117 zl_117 rfl (Nat.le_of_ble_eq_true rfl) ?_
  refine b_putrL qX6_init_31 fq_X6_21 rfl zs_113 zk_6_7 zr_113_7 (by decide) ?_
  refine b_aload_n qX6_init_34 rfl ?_
  refine b_iconst (nI 4) qX6_init_35 (by decide +kernel) ?_
  refine b_newaI qX6_init_36 ar_int zs_118 zl_118 rfl (Nat.le_of_ble_eq_true rfl) ?_
  refine b_putrL qX6_init_38 fq_X6_24 rfl zs_113 zk_6_8 zr_113_8 (by decide) ?_
  refine b_aload_n qX6_init_41 rfl ?_
  refine b_aload_n qX6_init_42 rfl ?_
  refine b_putrL qX6_init_43 fq_X6_27 rfl zs_113 zk_6_0 zr_113_0 (by decide) ?_
  exact b_ret qX6_init_46 rfl rfl
theorem zr_76_6 : rr 76 6 = 113 := by decide +kernel
theorem zs_119 : sh 119 = 6 := by decide +kernel
theorem zs_120 : sh 120 = 20 := by decide +kernel
theorem zl_120 : ln 120 = 8 := by decide +kernel
theorem zr_119_4 : rr 119 4 = 120 := by decide +kernel
theorem zs_121 : sh 121 = 20 := by decide +kernel
theorem zl_121 : ln 121 = 8 := by decide +kernel
theorem zr_119_5 : rr 119 5 = 121 := by decide +kernel
theorem zs_122 : sh 122 = 20 := by decide +kernel
theorem zl_122 : ln 122 = 4 := by decide +kernel
theorem zr_119_6 : rr 119 6 = 122 := by decide +kernel
theorem zs_123 : sh 123 = 20 := by decide +kernel
theorem zl_123 : ln 123 = 4 := by decide +kernel
theorem zr_119_7 : rr 119 7 = 123 := by decide +kernel
theorem zs_124 : sh 124 = 20 := by decide +kernel
theorem zl_124 : ln 124 = 4 := by decide +kernel
theorem zr_119_8 : rr 119 8 = 124 := by decide +kernel
theorem zr_119_0 : rr 119 0 = 3 := by decide +kernel
set_option maxRecDepth 20000 in
set_option maxHeartbeats 4000000 in
theorem kb_X6_init_120 {σ : St} {L : List (Nat × Nat)} : BCt mX6_init 1 [.ref 119, .ref 3] 120 σ (nuL L) (125, σ, nuL ((119, 0) :: (119, 8) :: (119, 7) :: (119, 6) :: (119, 5) :: (119, 4) :: L)) := by
  refine BCt.ofE (by decide +kernel) rfl rfl ⟨Nat.le_of_ble_eq_true rfl, Nat.le_of_ble_eq_true rfl⟩ ?_
  show BE mX6_init 1 120 (125, σ, nuL ((119, 0) :: (119, 8) :: (119, 7) :: (119, 6) :: (119, 5) :: (119, 4) :: L)) 0 [some (.ref 119), some (.ref 3)] [] 120 σ (nuL L)
  refine b_aload_n qX6_init_0 rfl ?_
  refine b_obj qX6_init_1 ob_X6_3.1 ob_X6_3.2.1 ob_X6_3.2.2 rfl rfl ?_
  refine b_aload_n qX6_init_4 rfl ?_
  refine b_bipush (nI 8) qX6_init_5 (by decide +kernel) ?_
  refine b_newaI qX6_init_7 ar_int zs_120 zl_120 rfl (Nat.le_of_ble_eq_true rfl) ?_
  refine b_putrL qX6_init_9 fq_X6_9 rfl zs_119 zk_6_4 zr_119_4 (by decide) ?_
  refine b_aload_n qX6_init_12 rfl ?_
  refine b_bipush (nI 8) qX6_init_13 (by decide +kernel) ?_
  refine b_newaI qX6_init_15 ar_int zs_121 zl_121 rfl (Nat.le_of_ble_eq_true rfl) ?_
  refine b_putrL qX6_init_17 fq_X6_15 rfl zs_119 zk_6_5 zr_119_5 (by decide) ?_
  refine b_aload_n qX6_init_20 rfl ?_
  refine b_iconst (nI 4) qX6_init_21 (by decide +kernel) ?_
  refine b_newaI qX6_init_22 ar_int zs_122 zl_122 rfl (Nat.le_of_ble_eq_true rfl) ?_
  refine b_putrL qX6_init_24 fq_X6_18 rfl zs_119 zk_6_6 zr_119_6 (by decide) ?_
  refine b_aload_n qX6_init_27 rfl ?_
  refine b_iconst (nI 4) qX6_init_28 (by decide +kernel) ?_
  refine b_newaI qX6_init_29 ar_int zs_123 zl_123 rfl (Nat.le_of_ble_eq_true rfl) ?_
  refine b_putrL qX6_init_31 fq_X6_21 rfl zs_119 zk_6_7 zr_119_7 (by decide) ?_
  refine b_aload_n qX6_init_34 rfl ?_
  refine b_iconst (nI 4) qX6_init_35 (by decide +kernel) ?_
  refine b_newaI qX6_init_36 ar_int zs_124 zl_124 rfl (Nat.le_of_ble_eq_true rfl) ?_
  refine b_putrL qX6_init_38 fq_X6_24 rfl zs_119 zk_6_8 zr_119_8 (by decide) ?_
  refine b_aload_n qX6_init_41 rfl ?_
  refine b_aload_n qX6_init_42 rfl ?_
  refine b_putrL qX6_init_43 fq_X6_27 rfl zs_119 zk_6_0 zr_119_0 (by decide) ?_
  exact b_ret qX6_init_46 rfl rfl
theorem zr_76_7 : rr 76 7 = 119 := by decide +kernel
theorem zs_125 : sh 125 = 6 := by decide +kernel
theorem zs_126 : sh 126 = 20 := by decide +kernel
theorem zl_126 : ln 126 = 8 := by decide +kernel
theorem zr_125_4 : rr 125 4 = 126 := by decide +kernel
theorem zs_127 : sh 127 = 20 := by decide +kernel
theorem zl_127 : ln 127 = 8 := by decide +kernel
theorem zr_125_5 : rr 125 5 = 127 := by decide +kernel
theorem zs_128 : sh 128 = 20 := by decide +kernel
theorem zl_128 : ln 128 = 4 := by decide +kernel
theorem zr_125_6 : rr 125 6 = 128 := by decide +kernel
theorem zs_129 : sh 129 = 20 := by decide +kernel
theorem zl_129 : ln 129 = 4 := by decide +kernel
theorem zr_125_7 : rr 125 7 = 129 := by decide +kernel
theorem zs_130 : sh 130 = 20 := by decide +kernel
theorem zl_130 : ln 130 = 4 := by decide +kernel
theorem zr_125_8 : rr 125 8 = 130 := by decide +kernel
theorem zr_125_0 : rr 125 0 = 3 := by decide +kernel
set_option maxRecDepth 20000 in
set_option maxHeartbeats 4000000 in
theorem kb_X6_init_126 {σ : St} {L : List (Nat × Nat)} : BCt mX6_init 1 [.ref 125, .ref 3] 126 σ (nuL L) (131, σ, nuL ((125, 0) :: (125, 8) :: (125, 7) :: (125, 6) :: (125, 5) :: (125, 4) :: L)) := by
  refine BCt.ofE (by decide +kernel) rfl rfl ⟨Nat.le_of_ble_eq_true rfl, Nat.le_of_ble_eq_true rfl⟩ ?_
  show BE mX6_init 1 126 (131, σ, nuL ((125, 0) :: (125, 8) :: (125, 7) :: (125, 6) :: (125, 5) :: (125, 4) :: L)) 0 [some (.ref 125), some (.ref 3)] [] 126 σ (nuL L)
  refine b_aload_n qX6_init_0 rfl ?_
  refine b_obj qX6_init_1 ob_X6_3.1 ob_X6_3.2.1 ob_X6_3.2.2 rfl rfl ?_
  refine b_aload_n qX6_init_4 rfl ?_
  refine b_bipush (nI 8) qX6_init_5 (by decide +kernel) ?_
  refine b_newaI qX6_init_7 ar_int zs_126 zl_126 rfl (Nat.le_of_ble_eq_true rfl) ?_
  refine b_putrL qX6_init_9 fq_X6_9 rfl zs_125 zk_6_4 zr_125_4 (by decide) ?_
  refine b_aload_n qX6_init_12 rfl ?_
  refine b_bipush (nI 8) qX6_init_13 (by decide +kernel) ?_
  refine b_newaI qX6_init_15 ar_int zs_127 zl_127 rfl (Nat.le_of_ble_eq_true rfl) ?_
  refine b_putrL qX6_init_17 fq_X6_15 rfl zs_125 zk_6_5 zr_125_5 (by decide) ?_
  refine b_aload_n qX6_init_20 rfl ?_
  refine b_iconst (nI 4) qX6_init_21 (by decide +kernel) ?_
  refine b_newaI qX6_init_22 ar_int zs_128 zl_128 rfl (Nat.le_of_ble_eq_true rfl) ?_
  refine b_putrL qX6_init_24 fq_X6_18 rfl zs_125 zk_6_6 zr_125_6 (by decide) ?_
  refine b_aload_n qX6_init_27 rfl ?_
  refine b_iconst (nI 4) qX6_init_28 (by decide +kernel) ?_
  refine b_newaI qX6_init_29 ar_int zs_129 zl_129 rfl (Nat.le_of_ble_eq_true rfl) ?_
  refine b_putrL qX6_init_31 fq_X6_21 rfl zs_125 zk_6_7 zr_125_7 (by decide) ?_
  refine b_aload_n qX6_init_34 rfl ?_
  refine b_iconst (nI 4) qX6_init_35 (by decide +kernel) ?_
  refine b_newaI qX6_init_36 ar_int zs_130 zl_130 rfl (Nat.le_of_ble_eq_true rfl) ?_
  refine b_putrL qX6_init_38 fq_X6_24 rfl zs_125 zk_6_8 zr_125_8 (by decide) ?_
  refine b_aload_n qX6_init_41 rfl ?_
  refine b_aload_n qX6_init_42 rfl ?_
  refine b_putrL qX6_init_43 fq_X6_27 rfl zs_125 zk_6_0 zr_125_0 (by decide) ?_
  exact b_ret qX6_init_46 rfl rfl
theorem zr_76_8 : rr 76 8 = 125 := by decide +kernel
theorem qX5_init_41 : Dc mX5_init 41 (.return_) 1 42 := ⟨by decide +kernel, rfl⟩
set_option maxRecDepth 20000 in
set_option maxHeartbeats 4000000 in
theorem kb_X5_init_76 {σ : St} {L : List (Nat × Nat)} : BCt mX5_init 2 [.ref 75, .ref 3] 76 σ (nuL L) (131, σ, nuL ((76, 8) :: (125, 0) :: (125, 8) :: (125, 7) :: (125, 6) :: (125, 5) :: (125, 4) :: (76, 7) :: (119, 0) :: (119, 8) :: (119, 7) :: (119, 6) :: (119, 5) :: (119, 4) :: (76, 6) :: (113, 0) :: (113, 8) :: (113, 7) :: (113, 6) :: (113, 5) :: (113, 4) :: (76, 5) :: (107, 0) :: (107, 8) :: (107, 7) :: (107, 6) :: (107, 5) :: (107, 4) :: (76, 4) :: (101, 0) :: (101, 8) :: (101, 7) :: (101, 6) :: (101, 5) :: (101, 4) :: (76, 3) :: (95, 0) :: (95, 8) :: (95, 7) :: (95, 6) :: (95, 5) :: (95, 4) :: (76, 2) :: (89, 0) :: (89, 8) :: (89, 7) :: (89, 6) :: (89, 5) :: (89, 4) :: (76, 1) :: (83, 0) :: (83, 8) :: (83, 7) :: (83, 6) :: (83, 5) :: (83, 4) :: (76, 0) :: (77, 0) :: (77, 8) :: (77, 7) :: (77, 6) :: (77, 5) :: (77, 4) :: (75, 0) :: L)) := by
  refine BCt.ofE (by decide +kernel) rfl rfl ⟨Nat.le_of_ble_eq_true rfl, Nat.le_of_ble_eq_true rfl⟩ ?_
  show BE mX5_init 2 76 (131, σ, nuL ((76, 8) :: (125, 0) :: (125, 8) :: (125, 7) :: (125, 6) :: (125, 5) :: (125, 4) :: (76, 7) :: (119, 0) :: (119, 8) :: (119, 7) :: (119, 6) :: (119, 5) :: (119, 4) :: (76, 6) :: (113, 0) :: (113, 8) :: (113, 7) :: (113, 6) :: (113, 5) :: (113, 4) :: (76, 5) :: (107, 0) :: (107, 8) :: (107, 7) :: (107, 6) :: (107, 5) :: (107, 4) :: (76, 4) :: (101, 0) :: (101, 8) :: (101, 7) :: (101, 6) :: (101, 5) :: (101, 4) :: (76, 3) :: (95, 0) :: (95, 8) :: (95, 7) :: (95, 6) :: (95, 5) :: (95, 4) :: (76, 2) :: (89, 0) :: (89, 8) :: (89, 7) :: (89, 6) :: (89, 5) :: (89, 4) :: (76, 1) :: (83, 0) :: (83, 8) :: (83, 7) :: (83, 6) :: (83, 5) :: (83, 4) :: (76, 0) :: (77, 0) :: (77, 8) :: (77, 7) :: (77, 6) :: (77, 5) :: (77, 4) :: (75, 0) :: L)) 0 [some (.ref 75), some (.ref 3), none] [] 76 σ (nuL L)
  refine b_aload_n qX5_init_0 rfl ?_
  refine b_obj qX5_init_1 ob_X5_3.1 ob_X5_3.2.1 ob_X5_3.2.2 rfl rfl ?_
  refine b_aload_n qX5_init_4 rfl ?_
  refine b_bipush (nI 9) qX5_init_5 (by decide +kernel) ?_
  refine b_anew qX5_init_7 na_X5_11 zs_76 zl_76 rfl (Nat.le_of_ble_eq_true rfl) ?_
  refine b_putrL qX5_init_10 fq_X5_13 rfl zs_75 zk_5_0 zr_75_0 (by decide) ?_
  refine b_iconst (nI 0) qX5_init_13 (by decide +kernel) ?_
  refine b_istore_n (lv2 := [some (.ref 75), some (.ref 3), some (.int (nI 0))]) qX5_init_14 rfl rfl rfl ?_
  refine b_iload_n qX5_init_15 rfl ?_
  refine b_bipush (nI 9) qX5_init_16 (by decide +kernel) ?_
  refine b_icmp_ge (tgt := 41) qX5_init_18 (by decide) (fun h => absurd h (by decide)) (fun _ => ?_)
  refine b_aload_n qX5_init_21 rfl ?_
  refine b_getr 76 qX5_init_22 fl_X5_13 zs_75 zk_5_0 (by decide) zr_75_0 rfl ?_
  refine b_iload_n qX5_init_25 rfl ?_
  refine b_new qX5_init_26 nw_X5_11 zs_77 (Nat.le_of_ble_eq_true rfl) ?_
  refine b_dup qX5_init_29 rfl ?_
  refine b_aload_n qX5_init_30 rfl ?_
  refine b_iniP1 qX5_init_31 mi_X5_17 rfl rfl kb_X6_init_78 (Nat.le_of_ble_eq_true rfl) ?_
  dsimp only
  refine b_aastL qX5_init_34 zs_76 (by decide) (fun _ => rfl) rfl zs_77 zr_76_0 zl_76 (by decide) rfl (by decide) (by decide) ?_
  refine b_iinc (1) (nI 1) (lv2 := [some (.ref 75), some (.ref 3), some (.int (nI 1))]) qX5_init_35 rfl rfl (by decide +kernel) (by decide +kernel) rfl ?_
  refine b_goto (tgt := 15) qX5_init_38 (by decide) ?_
  refine b_iload_n qX5_init_15 rfl ?_
  refine b_bipush (nI 9) qX5_init_16 (by decide +kernel) ?_
  refine b_icmp_ge (tgt := 41) qX5_init_18 (by decide) (fun h => absurd h (by decide)) (fun _ => ?_)
  refine b_aload_n qX5_init_21 rfl ?_
  refine b_getr 76 qX5_init_22 fl_X5_13 zs_75 zk_5_0 (by decide) zr_75_0 rfl ?_
  refine b_iload_n qX5_init_25 rfl ?_
  refine b_new qX5_init_26 nw_X5_11 zs_83 (Nat.le_of_ble_eq_true rfl) ?_
  refine b_dup qX5_init_29 rfl ?_
  refine b_aload_n qX5_init_30 rfl ?_
  refine b_iniP1 qX5_init_31 mi_X5_17 rfl rfl kb_X6_init_84 (Nat.le_of_ble_eq_true rfl) ?_
  dsimp only
  refine b_aastL qX5_init_34 zs_76 (by decide) (fun _ => rfl) rfl zs_83 zr_76_1 zl_76 (by decide) rfl (by decide) (by decide) ?_
  refine b_iinc (1) (nI 2) (lv2 := [some (.ref 75), some (.ref 3), some (.int (nI 2))]) qX5_init_35 rfl rfl (by decide +kernel) (by decide +kernel) rfl ?_
  refine b_goto (tgt := 15) qX5_init_38 (by decide) ?_
  refine b_iload_n qX5_init_15 rfl ?_
  refine b_bipush (nI 9) qX5_init_16 (by decide +kernel) ?_
  refine b_icmp_ge (tgt := 41) qX5_init_18 (by decide) (fun h => absurd h (by decide)) (fun _ => ?_)
  refine b_aload_n qX5_init_21 rfl ?_
  refine b_getr 76 qX5_init_22 fl_X5_13 zs_75 zk_5_0 (by decide) zr_75_0 rfl ?_
  refine b_iload_n qX5_init_25 rfl ?_
  refine b_new qX5_init_26 nw_X5_11 zs_89 (Nat.le_of_ble_eq_true rfl) ?_
  refine b_dup qX5_init_29 rfl ?_
  refine b_aload_n qX5_init_30 rfl ?_
  refine b_iniP1 qX5_init_31 mi_X5_17 rfl rfl kb_X6_init_90 (Nat.le_of_ble_eq_true rfl) ?_
  dsimp only
  refine b_aastL qX5_init_34 zs_76 (by decide) (fun _ => rfl) rfl zs_89 zr_76_2 zl_76 (by decide) rfl (by decide) (by decide) ?_
  refine b_iinc (1) (nI 3) (lv2 := [some (.ref 75), some (.ref 3), some (.int (nI 3))]) qX5_init_35 rfl rfl (by decide +kernel) (by decide +kernel) rfl ?_
  refine b_goto (tgt := 15) qX5_init_38 (by decide) ?_
  refine b_iload_n qX5_init_15 rfl ?_
  refine b_bipush (nI 9) qX5_init_16 (by decide +kernel) ?_
  refine b_icmp_ge (tgt := 41) qX5_init_18 (by decide) (fun h => absurd h (by decide)) (fun _ => ?_)
  refine b_aload_n qX5_init_21 rfl ?_
  refine b_getr 76 qX5_init_22 fl_X5_13 zs_75 zk_5_0 (by decide) zr_75_0 rfl ?_
  refine b_iload_n qX5_init_25 rfl ?_
  refine b_new qX5_init_26 nw_X5_11 zs_95 (Nat.le_of_ble_eq_true rfl) ?_
  refine b_dup qX5_init_29 rfl ?_
  refine b_aload_n qX5_init_30 rfl ?_
  refine b_iniP1 qX5_init_31 mi_X5_17 rfl rfl kb_X6_init_96 (Nat.le_of_ble_eq_true rfl) ?_
  dsimp only
  refine b_aastL qX5_init_34 zs_76 (by decide) (fun _ => rfl) rfl zs_95 zr_76_3 zl_76 (by decide) rfl (by decide) (by decide) ?_
  refine b_iinc (1) (nI 4) (lv2 := [some (.ref 75), some (.ref 3), some (.int (nI 4))]) qX5_init_35 rfl rfl (by decide +kernel) (by decide +kernel) rfl ?_
  refine b_goto (tgt := 15) qX5_init_38 (by decide) ?_
  refine b_iload_n qX5_init_15 rfl ?_
  refine b_bipush (nI 9) qX5_init_16 (by decide +kernel) ?_
  refine b_icmp_ge (tgt := 41) qX5_init_18 (by decide) (fun h => absurd h (by decide)) (fun _ => ?_)
  refine b_aload_n qX5_init_21 rfl ?_
  refine b_getr 76 qX5_init_22 fl_X5_13 zs_75 zk_5_0 (by decide) zr_75_0 rfl ?_
  refine b_iload_n qX5_init_25 rfl ?_
  refine b_new qX5_init_26 nw_X5_11 zs_101 (Nat.le_of_ble_eq_true rfl) ?_
  refine b_dup qX5_init_29 rfl ?_
  refine b_aload_n qX5_init_30 rfl ?_
  refine b_iniP1 qX5_init_31 mi_X5_17 rfl rfl kb_X6_init_102 (Nat.le_of_ble_eq_true rfl) ?_
  dsimp only
  refine b_aastL qX5_init_34 zs_76 (by decide) (fun _ => rfl) rfl zs_101 zr_76_4 zl_76 (by decide) rfl (by decide) (by decide) ?_
  refine b_iinc (1) (nI 5) (lv2 := [some (.ref 75), some (.ref 3), some (.int (nI 5))]) qX5_init_35 rfl rfl (by decide +kernel) (by decide +kernel) rfl ?_
  refine b_goto (tgt := 15) qX5_init_38 (by decide) ?_
  refine b_iload_n qX5_init_15 rfl ?_
  refine b_bipush (nI 9) qX5_init_16 (by decide +kernel) ?_
  refine b_icmp_ge (tgt := 41) qX5_init_18 (by decide) (fun h => absurd h (by decide)) (fun _ => ?_)
  refine b_aload_n qX5_init_21 rfl ?_
  refine b_getr 76 qX5_init_22 fl_X5_13 zs_75 zk_5_0 (by decide) zr_75_0 rfl ?_
  refine b_iload_n qX5_init_25 rfl ?_
  refine b_new qX5_init_26 nw_X5_11 zs_107 (Nat.le_of_ble_eq_true rfl) ?_
  refine b_dup qX5_init_29 rfl ?_
  refine b_aload_n qX5_init_30 rfl ?_
  refine b_iniP1 qX5_init_31 mi_X5_17 rfl rfl kb_X6_init_108 (Nat.le_of_ble_eq_true rfl) ?_
  dsimp only
  refine b_aastL qX5_init_34 zs_76 (by decide) (fun _ => rfl) rfl zs_107 zr_76_5 zl_76 (by decide) rfl (by decide) (by decide) ?_
  refine b_iinc (1) (nI 6) (lv2 := [some (.ref 75), some (.ref 3), some (.int (nI 6))]) qX5_init_35 rfl rfl (by decide +kernel) (by decide +kernel) rfl ?_
  refine b_goto (tgt := 15) qX5_init_38 (by decide) ?_
  refine b_iload_n qX5_init_15 rfl ?_
  refine b_bipush (nI 9) qX5_init_16 (by decide +kernel) ?_
  refine b_icmp_ge (tgt := 41) qX5_init_18 (by decide) (fun h => absurd h (by decide)) (fun _ => ?_)
  refine b_aload_n qX5_init_21 rfl ?_
  refine b_getr 76 qX5_init_22 fl_X5_13 zs_75 zk_5_0 (by decide) zr_75_0 rfl ?_
  refine b_iload_n qX5_init_25 rfl ?_
  refine b_new qX5_init_26 nw_X5_11 zs_113 (Nat.le_of_ble_eq_true rfl) ?_
  refine b_dup qX5_init_29 rfl ?_
  refine b_aload_n qX5_init_30 rfl ?_
  refine b_iniP1 qX5_init_31 mi_X5_17 rfl rfl kb_X6_init_114 (Nat.le_of_ble_eq_true rfl) ?_
  dsimp only
  refine b_aastL qX5_init_34 zs_76 (by decide) (fun _ => rfl) rfl zs_113 zr_76_6 zl_76 (by decide) rfl (by decide) (by decide) ?_
  refine b_iinc (1) (nI 7) (lv2 := [some (.ref 75), some (.ref 3), some (.int (nI 7))]) qX5_init_35 rfl rfl (by decide +kernel) (by decide +kernel) rfl ?_
  refine b_goto (tgt := 15) qX5_init_38 (by decide) ?_
  refine b_iload_n qX5_init_15 rfl ?_
  refine b_bipush (nI 9) qX5_init_16 (by decide +kernel) ?_
  refine b_icmp_ge (tgt := 41) qX5_init_18 (by decide) (fun h => absurd h (by decide)) (fun _ => ?_)
  refine b_aload_n qX5_init_21 rfl ?_
  refine b_getr 76 qX5_init_22 fl_X5_13 zs_75 zk_5_0 (by decide) zr_75_0 rfl ?_
  refine b_iload_n qX5_init_25 rfl ?_
  refine b_new qX5_init_26 nw_X5_11 zs_119 (Nat.le_of_ble_eq_true rfl) ?_
  refine b_dup qX5_init_29 rfl ?_
  refine b_aload_n qX5_init_30 rfl ?_
  refine b_iniP1 qX5_init_31 mi_X5_17 rfl rfl kb_X6_init_120 (Nat.le_of_ble_eq_true rfl) ?_
  dsimp only
  refine b_aastL qX5_init_34 zs_76 (by decide) (fun _ => rfl) rfl zs_119 zr_76_7 zl_76 (by decide) rfl (by decide) (by decide) ?_
  refine b_iinc (1) (nI 8) (lv2 := [some (.ref 75), some (.ref 3), some (.int (nI 8))]) qX5_init_35 rfl rfl (by decide +kernel) (by decide +kernel) rfl ?_
  refine b_goto (tgt := 15) qX5_init_38 (by decide) ?_
  refine b_iload_n qX5_init_15 rfl ?_
  refine b_bipush (nI 9) qX5_init_16 (by decide +kernel) ?_
  refine b_icmp_ge (tgt := 41) qX5_init_18 (by decide) (fun h => absurd h (by decide)) (fun _ => ?_)
  refine b_aload_n qX5_init_21 rfl ?_
  refine b_getr 76 qX5_init_22 fl_X5_13 zs_75 zk_5_0 (by decide) zr_75_0 rfl ?_
  refine b_iload_n qX5_init_25 rfl ?_
  refine b_new qX5_init_26 nw_X5_11 zs_125 (Nat.le_of_ble_eq_true rfl) ?_
  refine b_dup qX5_init_29 rfl ?_
  refine b_aload_n qX5_init_30 rfl ?_
  refine b_iniP1 qX5_init_31 mi_X5_17 rfl rfl kb_X6_init_126 (Nat.le_of_ble_eq_true rfl) ?_
  dsimp only
  refine b_aastL qX5_init_34 zs_76 (by decide) (fun _ => rfl) rfl zs_125 zr_76_8 zl_76 (by decide) rfl (by decide) (by decide) ?_
  refine b_iinc (1) (nI 9) (lv2 := [some (.ref 75), some (.ref 3), some (.int (nI 9))]) qX5_init_35 rfl rfl (by decide +kernel) (by decide +kernel) rfl ?_
  refine b_goto (tgt := 15) qX5_init_38 (by decide) ?_
  refine b_iload_n qX5_init_15 rfl ?_
  refine b_bipush (nI 9) qX5_init_16 (by decide +kernel) ?_
  refine b_icmp_ge (tgt := 41) qX5_init_18 (by decide) (fun _ => ?_) (fun h => absurd (by decide) h)
  exact b_ret qX5_init_41 rfl rfl
theorem mi_X11_57 : MwI RX11 57 mX5_init 1 := ⟨mw_X5_init, rfl, tb_2 109 (by decide +kernel) (by decide +kernel), rfl, tb_2 108 (by decide +kernel) (by decide +kernel)⟩
theorem qX11_init_112 : Dc mX11_init 112 (.putfield 58) 3 115 := ⟨by decide +kernel, rfl⟩
theorem fq_X11_58 : Fq RX11 58 10 8 true := ⟨_, _, _, tyX11, _, rfl, by decide, cws_10, tb_2 176 (by decide +kernel) (by decide +kernel), tyX11_ok, nmX11, rfl, fun _ => rfl, tyX11_ok 8 (by decide), by decide +kernel, fun _ => ⟨rfl, rfl⟩⟩
theorem zk_10_8 : kd 10 8 = 2 := by decide +kernel
theorem zr_0_8 : rr 0 8 = 75 := by decide +kernel
theorem qX11_init_115 : Dc mX11_init 115 (.aload_n 0) 1 116 := ⟨by decide +kernel, rfl⟩
theorem qX11_init_116 : Dc mX11_init 116 (.new 62) 3 119 := ⟨by decide +kernel, rfl⟩
theorem nw_X11_62 : Nw RX11 62 2 := ⟨_, _, _, tyX2, rfl, cws_2, tyX2_ok, tb_2 125 (by decide +kernel) (by decide +kernel), tb_2 126 (by decide +kernel) (by decide +kernel), tb_1 10 (by decide +kernel) (by decide +kernel), by decide +kernel, by decide +kernel⟩
theorem zs_131 : sh 131 = 2 := by decide +kernel
theorem qX11_init_119 : Dc mX11_init 119 (.dup) 1 120 := ⟨by decide +kernel, rfl⟩
theorem qX11_init_120 : Dc mX11_init 120 (.invokespecial 64) 3 123 := ⟨by decide +kernel, rfl⟩
abbrev mX2_init : MI := (yX2_init, cX2_init, 1, none)
theorem mw_X2_init : Mw mX2_init 0 := ⟨tb_2 129 (by decide +kernel) (by decide +kernel), tb_1 10 (by decide +kernel) (by decide +kernel), by decide +kernel, mw_sig (by decide +kernel), by decide⟩
theorem qX2_init_0 : Dc mX2_init 0 (.aload_n 0) 1 1 := ⟨by decide +kernel, rfl⟩
theorem qX2_init_1 : Dc mX2_init 1 (.invokespecial 3) 3 4 := ⟨by decide +kernel, rfl⟩
theorem ob_X2_3 : Cond.methodLink RX2 3 objectInit ∈ tb ∧ Cond.instanceMethod objectInit ∈ tb ∧ Cond.code objectInit ⟨#[0xb1]⟩ 1 none ∈ tb := ⟨tb_2 130 (by decide +kernel) (by decide +kernel), tb_1 32 (by decide +kernel) (by decide +kernel), tb_1 33 (by decide +kernel) (by decide +kernel)⟩
theorem qX2_init_4 : Dc mX2_init 4 (.return_) 1 5 := ⟨by decide +kernel, rfl⟩
set_option maxRecDepth 20000 in
set_option maxHeartbeats 4000000 in
theorem kb_X2_init_132 {σ : St} {L : List (Nat × Nat)} : BCt mX2_init 1 [.ref 131] 132 σ (nuL L) (132, σ, nuL (L)) := by
  refine BCt.ofE (by decide +kernel) rfl rfl ⟨Nat.le_of_ble_eq_true rfl, Nat.le_of_ble_eq_true rfl⟩ ?_
  show BE mX2_init 1 132 (132, σ, nuL (L)) 0 [some (.ref 131)] [] 132 σ (nuL L)
  refine b_aload_n qX2_init_0 rfl ?_
  refine b_obj qX2_init_1 ob_X2_3.1 ob_X2_3.2.1 ob_X2_3.2.2 rfl rfl ?_
  exact b_ret qX2_init_4 rfl rfl
theorem mj_X11_64 : MwJ RX11 64 mX2_init 0 "CoastLights" := ⟨mw_X2_init, rfl, tb_2 128 (by decide +kernel) (by decide +kernel), rfl, by decide +kernel⟩
theorem qX11_init_123 : Dc mX11_init 123 (.putfield 65) 3 126 := ⟨by decide +kernel, rfl⟩
theorem fq_X11_65 : Fq RX11 65 10 9 true := ⟨_, _, _, tyX11, _, rfl, by decide, cws_10, tb_2 177 (by decide +kernel) (by decide +kernel), tyX11_ok, nmX11, rfl, fun _ => rfl, tyX11_ok 9 (by decide), by decide +kernel, fun _ => ⟨rfl, rfl⟩⟩
theorem zk_10_9 : kd 10 9 = 2 := by decide +kernel
theorem zr_0_9 : rr 0 9 = 131 := by decide +kernel
theorem qX11_init_126 : Dc mX11_init 126 (.aload_n 0) 1 127 := ⟨by decide +kernel, rfl⟩
theorem qX11_init_127 : Dc mX11_init 127 (.iconst 2) 1 128 := ⟨by decide +kernel, rfl⟩
theorem qX11_init_128 : Dc mX11_init 128 (.anewarray 69) 3 131 := ⟨by decide +kernel, rfl⟩
theorem na_X11_69 : Na RX11 69 27 "CoastLights$Image" := ⟨tb_2 135 (by decide +kernel) (by decide +kernel), by decide +kernel, by decide, fun _ => rfl⟩
theorem zs_132 : sh 132 = 27 := by decide +kernel
theorem zl_132 : ln 132 = 2 := by decide +kernel
theorem qX11_init_131 : Dc mX11_init 131 (.putfield 71) 3 134 := ⟨by decide +kernel, rfl⟩
theorem fq_X11_71 : Fq RX11 71 10 10 true := ⟨_, _, _, tyX11, _, rfl, by decide, cws_10, tb_2 178 (by decide +kernel) (by decide +kernel), tyX11_ok, nmX11, rfl, fun _ => rfl, tyX11_ok 10 (by decide), by decide +kernel, fun _ => ⟨rfl, rfl⟩⟩
theorem zk_10_10 : kd 10 10 = 2 := by decide +kernel
theorem zr_0_10 : rr 0 10 = 132 := by decide +kernel
theorem qX11_init_134 : Dc mX11_init 134 (.aload_n 0) 1 135 := ⟨by decide +kernel, rfl⟩
theorem qX11_init_135 : Dc mX11_init 135 (.bipush 8) 2 137 := ⟨by decide +kernel, rfl⟩
theorem qX11_init_137 : Dc mX11_init 137 (.newarray .int) 2 139 := ⟨by decide +kernel, rfl⟩
theorem zs_133 : sh 133 = 20 := by decide +kernel
theorem zl_133 : ln 133 = 8 := by decide +kernel
theorem qX11_init_139 : Dc mX11_init 139 (.putfield 75) 3 142 := ⟨by decide +kernel, rfl⟩
theorem fq_X11_75 : Fq RX11 75 10 11 true := ⟨_, _, _, tyX11, _, rfl, by decide, cws_10, tb_2 179 (by decide +kernel) (by decide +kernel), tyX11_ok, nmX11, rfl, fun _ => rfl, tyX11_ok 11 (by decide), by decide +kernel, fun _ => ⟨rfl, rfl⟩⟩
theorem zk_10_11 : kd 10 11 = 2 := by decide +kernel
theorem zr_0_11 : rr 0 11 = 133 := by decide +kernel
theorem qX11_init_142 : Dc mX11_init 142 (.aload_n 0) 1 143 := ⟨by decide +kernel, rfl⟩
theorem qX11_init_143 : Dc mX11_init 143 (.iconst 4) 1 144 := ⟨by decide +kernel, rfl⟩
theorem qX11_init_144 : Dc mX11_init 144 (.newarray .int) 2 146 := ⟨by decide +kernel, rfl⟩
theorem zs_134 : sh 134 = 20 := by decide +kernel
theorem zl_134 : ln 134 = 4 := by decide +kernel
theorem qX11_init_146 : Dc mX11_init 146 (.dup) 1 147 := ⟨by decide +kernel, rfl⟩
theorem qX11_init_147 : Dc mX11_init 147 (.iconst 0) 1 148 := ⟨by decide +kernel, rfl⟩
theorem qX11_init_148 : Dc mX11_init 148 (.iconst (-1)) 1 149 := ⟨by decide +kernel, rfl⟩
theorem qX11_init_149 : Dc mX11_init 149 (.iastore) 1 150 := ⟨by decide +kernel, rfl⟩
theorem qX11_init_150 : Dc mX11_init 150 (.dup) 1 151 := ⟨by decide +kernel, rfl⟩
theorem qX11_init_151 : Dc mX11_init 151 (.iconst 1) 1 152 := ⟨by decide +kernel, rfl⟩
theorem qX11_init_152 : Dc mX11_init 152 (.iconst (-1)) 1 153 := ⟨by decide +kernel, rfl⟩
theorem qX11_init_153 : Dc mX11_init 153 (.iastore) 1 154 := ⟨by decide +kernel, rfl⟩
theorem qX11_init_154 : Dc mX11_init 154 (.dup) 1 155 := ⟨by decide +kernel, rfl⟩
theorem qX11_init_155 : Dc mX11_init 155 (.iconst 2) 1 156 := ⟨by decide +kernel, rfl⟩
theorem qX11_init_156 : Dc mX11_init 156 (.iconst (-1)) 1 157 := ⟨by decide +kernel, rfl⟩
theorem qX11_init_157 : Dc mX11_init 157 (.iastore) 1 158 := ⟨by decide +kernel, rfl⟩
theorem qX11_init_158 : Dc mX11_init 158 (.dup) 1 159 := ⟨by decide +kernel, rfl⟩
theorem qX11_init_159 : Dc mX11_init 159 (.iconst 3) 1 160 := ⟨by decide +kernel, rfl⟩
theorem qX11_init_160 : Dc mX11_init 160 (.iconst (-1)) 1 161 := ⟨by decide +kernel, rfl⟩
theorem qX11_init_161 : Dc mX11_init 161 (.iastore) 1 162 := ⟨by decide +kernel, rfl⟩
theorem qX11_init_162 : Dc mX11_init 162 (.putfield 79) 3 165 := ⟨by decide +kernel, rfl⟩
theorem fq_X11_79 : Fq RX11 79 10 12 true := ⟨_, _, _, tyX11, _, rfl, by decide, cws_10, tb_2 180 (by decide +kernel) (by decide +kernel), tyX11_ok, nmX11, rfl, fun _ => rfl, tyX11_ok 12 (by decide), by decide +kernel, fun _ => ⟨rfl, rfl⟩⟩
theorem zk_10_12 : kd 10 12 = 2 := by decide +kernel
theorem zr_0_12 : rr 0 12 = 134 := by decide +kernel
theorem qX11_init_165 : Dc mX11_init 165 (.aload_n 0) 1 166 := ⟨by decide +kernel, rfl⟩
theorem qX11_init_166 : Dc mX11_init 166 (.bipush 32) 2 168 := ⟨by decide +kernel, rfl⟩
theorem qX11_init_168 : Dc mX11_init 168 (.newarray .int) 2 170 := ⟨by decide +kernel, rfl⟩
theorem zs_135 : sh 135 = 20 := by decide +kernel
theorem zl_135 : ln 135 = 32 := by decide +kernel
theorem qX11_init_170 : Dc mX11_init 170 (.putfield 82) 3 173 := ⟨by decide +kernel, rfl⟩
theorem fq_X11_82 : Fq RX11 82 10 13 true := ⟨_, _, _, tyX11, _, rfl, by decide, cws_10, tb_2 181 (by decide +kernel) (by decide +kernel), tyX11_ok, nmX11, rfl, fun _ => rfl, tyX11_ok 13 (by decide), by decide +kernel, fun _ => ⟨rfl, rfl⟩⟩
theorem zk_10_13 : kd 10 13 = 2 := by decide +kernel
theorem zr_0_13 : rr 0 13 = 135 := by decide +kernel
theorem qX11_init_173 : Dc mX11_init 173 (.aload_n 0) 1 174 := ⟨by decide +kernel, rfl⟩
theorem qX11_init_174 : Dc mX11_init 174 (.iconst (-1)) 1 175 := ⟨by decide +kernel, rfl⟩
theorem qX11_init_175 : Dc mX11_init 175 (.putfield 85) 3 178 := ⟨by decide +kernel, rfl⟩
theorem zk_10_16 : kd 10 16 = 0 := by decide +kernel
theorem qX11_init_178 : Dc mX11_init 178 (.aload_n 0) 1 179 := ⟨by decide +kernel, rfl⟩
theorem qX11_init_179 : Dc mX11_init 179 (.iconst (-1)) 1 180 := ⟨by decide +kernel, rfl⟩
theorem qX11_init_180 : Dc mX11_init 180 (.putfield 89) 3 183 := ⟨by decide +kernel, rfl⟩
theorem zk_10_17 : kd 10 17 = 0 := by decide +kernel
theorem qX11_init_183 : Dc mX11_init 183 (.aload_n 0) 1 184 := ⟨by decide +kernel, rfl⟩
theorem qX11_init_184 : Dc mX11_init 184 (.iconst (-1)) 1 185 := ⟨by decide +kernel, rfl⟩
theorem qX11_init_185 : Dc mX11_init 185 (.putfield 92) 3 188 := ⟨by decide +kernel, rfl⟩
theorem zk_10_18 : kd 10 18 = 0 := by decide +kernel
theorem qX11_init_188 : Dc mX11_init 188 (.aload_n 0) 1 189 := ⟨by decide +kernel, rfl⟩
theorem qX11_init_189 : Dc mX11_init 189 (.iconst (-1)) 1 190 := ⟨by decide +kernel, rfl⟩
theorem qX11_init_190 : Dc mX11_init 190 (.putfield 95) 3 193 := ⟨by decide +kernel, rfl⟩
theorem zk_10_19 : kd 10 19 = 0 := by decide +kernel
theorem qX11_init_193 : Dc mX11_init 193 (.iconst 0) 1 194 := ⟨by decide +kernel, rfl⟩
theorem qX11_init_194 : Dc mX11_init 194 (.istore_n 1) 1 195 := ⟨by decide +kernel, rfl⟩
theorem qX11_init_195 : Dc mX11_init 195 (.iload_n 1) 1 196 := ⟨by decide +kernel, rfl⟩
theorem qX11_init_196 : Dc mX11_init 196 (.iconst 2) 1 197 := ⟨by decide +kernel, rfl⟩
theorem qX11_init_197 : Dc mX11_init 197 (.if_icmp .ge 26) 3 200 := ⟨by decide +kernel, rfl⟩
theorem qX11_init_200 : Dc mX11_init 200 (.aload_n 0) 1 201 := ⟨by decide +kernel, rfl⟩
theorem qX11_init_201 : Dc mX11_init 201 (.getfield 71) 3 204 := ⟨by decide +kernel, rfl⟩
theorem qX11_init_204 : Dc mX11_init 204 (.iload_n 1) 1 205 := ⟨by decide +kernel, rfl⟩
theorem qX11_init_205 : Dc mX11_init 205 (.new 69) 3 208 := ⟨by decide +kernel, rfl⟩
theorem nw_X11_69 : Nw RX11 69 3 := ⟨_, _, _, tyX3, rfl, cws_3, tyX3_ok, tb_2 135 (by decide +kernel) (by decide +kernel), tb_2 137 (by decide +kernel) (by decide +kernel), tb_1 11 (by decide +kernel) (by decide +kernel), by decide +kernel, by decide +kernel⟩
theorem zs_136 : sh 136 = 3 := by decide +kernel
theorem qX11_init_208 : Dc mX11_init 208 (.dup) 1 209 := ⟨by decide +kernel, rfl⟩
theorem qX11_init_209 : Dc mX11_init 209 (.aload_n 0) 1 210 := ⟨by decide +kernel, rfl⟩
theorem qX11_init_210 : Dc mX11_init 210 (.getfield 19) 3 213 := ⟨by decide +kernel, rfl⟩
theorem qX11_init_213 : Dc mX11_init 213 (.invokespecial 98) 3 216 := ⟨by decide +kernel, rfl⟩
abbrev mX3_init : MI := (yX3_init, cX3_init, 2, none)
theorem mw_X3_init : Mw mX3_init 1 := ⟨tb_2 140 (by decide +kernel) (by decide +kernel), tb_1 11 (by decide +kernel) (by decide +kernel), by decide +kernel, mw_sig (by decide +kernel), by decide⟩
theorem qX3_init_0 : Dc mX3_init 0 (.aload_n 0) 1 1 := ⟨by decide +kernel, rfl⟩
theorem qX3_init_1 : Dc mX3_init 1 (.invokespecial 1) 3 4 := ⟨by decide +kernel, rfl⟩
theorem ob_X3_1 : Cond.methodLink RX3 1 objectInit ∈ tb ∧ Cond.instanceMethod objectInit ∈ tb ∧ Cond.code objectInit ⟨#[0xb1]⟩ 1 none ∈ tb := ⟨tb_2 141 (by decide +kernel) (by decide +kernel), tb_1 32 (by decide +kernel) (by decide +kernel), tb_1 33 (by decide +kernel) (by decide +kernel)⟩
theorem qX3_init_4 : Dc mX3_init 4 (.aload_n 0) 1 5 := ⟨by decide +kernel, rfl⟩
theorem qX3_init_5 : Dc mX3_init 5 (.new 7) 3 8 := ⟨by decide +kernel, rfl⟩
theorem nw_X3_7 : Nw RX3 7 1 := ⟨_, _, _, tyX1, rfl, cws_1, tyX1_ok, tb_2 142 (by decide +kernel) (by decide +kernel), tb_1 91 (by decide +kernel) (by decide +kernel), tb_1 3 (by decide +kernel) (by decide +kernel), by decide +kernel, by decide +kernel⟩
theorem zs_137 : sh 137 = 1 := by decide +kernel
theorem qX3_init_8 : Dc mX3_init 8 (.dup) 1 9 := ⟨by decide +kernel, rfl⟩
theorem qX3_init_9 : Dc mX3_init 9 (.invokespecial 9) 3 12 := ⟨by decide +kernel, rfl⟩
theorem zs_138 : sh 138 = 24 := by decide +kernel
theorem zl_138 : ln 138 = 8 := by decide +kernel
theorem zr_137_0 : rr 137 0 = 138 := by decide +kernel
theorem zs_139 : sh 139 = 25 := by decide +kernel
theorem zl_139 : ln 139 = 4 := by decide +kernel
theorem zr_137_1 : rr 137 1 = 139 := by decide +kernel
theorem zs_140 : sh 140 = 4 := by decide +kernel
theorem zs_141 : sh 141 = 21 := by decide +kernel
theorem zl_141 : ln 141 = 160 := by decide +kernel
theorem zr_140_11 : rr 140 11 = 141 := by decide +kernel
set_option maxRecDepth 20000 in
set_option maxHeartbeats 4000000 in
theorem kb_X4_init_141 {σ : St} {L : List (Nat × Nat)} : BCt mX4_init 1 [.ref 140] 141 σ (nuL L) (142, σ, nuL ((140, 11) :: L)) := by
  refine BCt.ofE (by decide +kernel) rfl rfl ⟨Nat.le_of_ble_eq_true rfl, Nat.le_of_ble_eq_true rfl⟩ ?_
  show BE mX4_init 1 141 (142, σ, nuL ((140, 11) :: L)) 0 [some (.ref 140)] [] 141 σ (nuL L)
  refine b_aload_n qX4_init_0 rfl ?_
  refine b_obj qX4_init_1 ob_X4_3.1 ob_X4_3.2.1 ob_X4_3.2.2 rfl rfl ?_
  refine b_aload_n qX4_init_4 rfl ?_
  refine b_sipush (nI 160) qX4_init_5 (by decide +kernel) ?_
  refine b_newaZ qX4_init_8 ar_boolean zs_141 zl_141 rfl (Nat.le_of_ble_eq_true rfl) ?_
  refine b_putrL qX4_init_10 fq_X4_9 rfl zs_140 zk_4_11 zr_140_11 (by decide) ?_
  exact b_ret qX4_init_13 rfl rfl
theorem zr_138_0 : rr 138 0 = 140 := by decide +kernel
theorem zs_142 : sh 142 = 4 := by decide +kernel
theorem zs_143 : sh 143 = 21 := by decide +kernel
theorem zl_143 : ln 143 = 160 := by decide +kernel
theorem zr_142_11 : rr 142 11 = 143 := by decide +kernel
set_option maxRecDepth 20000 in
set_option maxHeartbeats 4000000 in
theorem kb_X4_init_143 {σ : St} {L : List (Nat × Nat)} : BCt mX4_init 1 [.ref 142] 143 σ (nuL L) (144, σ, nuL ((142, 11) :: L)) := by
  refine BCt.ofE (by decide +kernel) rfl rfl ⟨Nat.le_of_ble_eq_true rfl, Nat.le_of_ble_eq_true rfl⟩ ?_
  show BE mX4_init 1 143 (144, σ, nuL ((142, 11) :: L)) 0 [some (.ref 142)] [] 143 σ (nuL L)
  refine b_aload_n qX4_init_0 rfl ?_
  refine b_obj qX4_init_1 ob_X4_3.1 ob_X4_3.2.1 ob_X4_3.2.2 rfl rfl ?_
  refine b_aload_n qX4_init_4 rfl ?_
  refine b_sipush (nI 160) qX4_init_5 (by decide +kernel) ?_
  refine b_newaZ qX4_init_8 ar_boolean zs_143 zl_143 rfl (Nat.le_of_ble_eq_true rfl) ?_
  refine b_putrL qX4_init_10 fq_X4_9 rfl zs_142 zk_4_11 zr_142_11 (by decide) ?_
  exact b_ret qX4_init_13 rfl rfl
theorem zr_138_1 : rr 138 1 = 142 := by decide +kernel
theorem zs_144 : sh 144 = 4 := by decide +kernel
theorem zs_145 : sh 145 = 21 := by decide +kernel
theorem zl_145 : ln 145 = 160 := by decide +kernel
theorem zr_144_11 : rr 144 11 = 145 := by decide +kernel
set_option maxRecDepth 20000 in
set_option maxHeartbeats 4000000 in
theorem kb_X4_init_145 {σ : St} {L : List (Nat × Nat)} : BCt mX4_init 1 [.ref 144] 145 σ (nuL L) (146, σ, nuL ((144, 11) :: L)) := by
  refine BCt.ofE (by decide +kernel) rfl rfl ⟨Nat.le_of_ble_eq_true rfl, Nat.le_of_ble_eq_true rfl⟩ ?_
  show BE mX4_init 1 145 (146, σ, nuL ((144, 11) :: L)) 0 [some (.ref 144)] [] 145 σ (nuL L)
  refine b_aload_n qX4_init_0 rfl ?_
  refine b_obj qX4_init_1 ob_X4_3.1 ob_X4_3.2.1 ob_X4_3.2.2 rfl rfl ?_
  refine b_aload_n qX4_init_4 rfl ?_
  refine b_sipush (nI 160) qX4_init_5 (by decide +kernel) ?_
  refine b_newaZ qX4_init_8 ar_boolean zs_145 zl_145 rfl (Nat.le_of_ble_eq_true rfl) ?_
  refine b_putrL qX4_init_10 fq_X4_9 rfl zs_144 zk_4_11 zr_144_11 (by decide) ?_
  exact b_ret qX4_init_13 rfl rfl
theorem zr_138_2 : rr 138 2 = 144 := by decide +kernel
theorem zs_146 : sh 146 = 4 := by decide +kernel
theorem zs_147 : sh 147 = 21 := by decide +kernel
theorem zl_147 : ln 147 = 160 := by decide +kernel
theorem zr_146_11 : rr 146 11 = 147 := by decide +kernel
set_option maxRecDepth 20000 in
set_option maxHeartbeats 4000000 in
theorem kb_X4_init_147 {σ : St} {L : List (Nat × Nat)} : BCt mX4_init 1 [.ref 146] 147 σ (nuL L) (148, σ, nuL ((146, 11) :: L)) := by
  refine BCt.ofE (by decide +kernel) rfl rfl ⟨Nat.le_of_ble_eq_true rfl, Nat.le_of_ble_eq_true rfl⟩ ?_
  show BE mX4_init 1 147 (148, σ, nuL ((146, 11) :: L)) 0 [some (.ref 146)] [] 147 σ (nuL L)
  refine b_aload_n qX4_init_0 rfl ?_
  refine b_obj qX4_init_1 ob_X4_3.1 ob_X4_3.2.1 ob_X4_3.2.2 rfl rfl ?_
  refine b_aload_n qX4_init_4 rfl ?_
  refine b_sipush (nI 160) qX4_init_5 (by decide +kernel) ?_
  refine b_newaZ qX4_init_8 ar_boolean zs_147 zl_147 rfl (Nat.le_of_ble_eq_true rfl) ?_
  refine b_putrL qX4_init_10 fq_X4_9 rfl zs_146 zk_4_11 zr_146_11 (by decide) ?_
  exact b_ret qX4_init_13 rfl rfl
theorem zr_138_3 : rr 138 3 = 146 := by decide +kernel
theorem zs_148 : sh 148 = 4 := by decide +kernel
theorem zs_149 : sh 149 = 21 := by decide +kernel
theorem zl_149 : ln 149 = 160 := by decide +kernel
theorem zr_148_11 : rr 148 11 = 149 := by decide +kernel
set_option maxRecDepth 20000 in
set_option maxHeartbeats 4000000 in
theorem kb_X4_init_149 {σ : St} {L : List (Nat × Nat)} : BCt mX4_init 1 [.ref 148] 149 σ (nuL L) (150, σ, nuL ((148, 11) :: L)) := by
  refine BCt.ofE (by decide +kernel) rfl rfl ⟨Nat.le_of_ble_eq_true rfl, Nat.le_of_ble_eq_true rfl⟩ ?_
  show BE mX4_init 1 149 (150, σ, nuL ((148, 11) :: L)) 0 [some (.ref 148)] [] 149 σ (nuL L)
  refine b_aload_n qX4_init_0 rfl ?_
  refine b_obj qX4_init_1 ob_X4_3.1 ob_X4_3.2.1 ob_X4_3.2.2 rfl rfl ?_
  refine b_aload_n qX4_init_4 rfl ?_
  refine b_sipush (nI 160) qX4_init_5 (by decide +kernel) ?_
  refine b_newaZ qX4_init_8 ar_boolean zs_149 zl_149 rfl (Nat.le_of_ble_eq_true rfl) ?_
  refine b_putrL qX4_init_10 fq_X4_9 rfl zs_148 zk_4_11 zr_148_11 (by decide) ?_
  exact b_ret qX4_init_13 rfl rfl
theorem zr_138_4 : rr 138 4 = 148 := by decide +kernel
theorem zs_150 : sh 150 = 4 := by decide +kernel
theorem zs_151 : sh 151 = 21 := by decide +kernel
theorem zl_151 : ln 151 = 160 := by decide +kernel
theorem zr_150_11 : rr 150 11 = 151 := by decide +kernel
set_option maxRecDepth 20000 in
set_option maxHeartbeats 4000000 in
theorem kb_X4_init_151 {σ : St} {L : List (Nat × Nat)} : BCt mX4_init 1 [.ref 150] 151 σ (nuL L) (152, σ, nuL ((150, 11) :: L)) := by
  refine BCt.ofE (by decide +kernel) rfl rfl ⟨Nat.le_of_ble_eq_true rfl, Nat.le_of_ble_eq_true rfl⟩ ?_
  show BE mX4_init 1 151 (152, σ, nuL ((150, 11) :: L)) 0 [some (.ref 150)] [] 151 σ (nuL L)
  refine b_aload_n qX4_init_0 rfl ?_
  refine b_obj qX4_init_1 ob_X4_3.1 ob_X4_3.2.1 ob_X4_3.2.2 rfl rfl ?_
  refine b_aload_n qX4_init_4 rfl ?_
  refine b_sipush (nI 160) qX4_init_5 (by decide +kernel) ?_
  refine b_newaZ qX4_init_8 ar_boolean zs_151 zl_151 rfl (Nat.le_of_ble_eq_true rfl) ?_
  refine b_putrL qX4_init_10 fq_X4_9 rfl zs_150 zk_4_11 zr_150_11 (by decide) ?_
  exact b_ret qX4_init_13 rfl rfl
theorem zr_138_5 : rr 138 5 = 150 := by decide +kernel
theorem zs_152 : sh 152 = 4 := by decide +kernel
theorem zs_153 : sh 153 = 21 := by decide +kernel
theorem zl_153 : ln 153 = 160 := by decide +kernel
theorem zr_152_11 : rr 152 11 = 153 := by decide +kernel
set_option maxRecDepth 20000 in
set_option maxHeartbeats 4000000 in
theorem kb_X4_init_153 {σ : St} {L : List (Nat × Nat)} : BCt mX4_init 1 [.ref 152] 153 σ (nuL L) (154, σ, nuL ((152, 11) :: L)) := by
  refine BCt.ofE (by decide +kernel) rfl rfl ⟨Nat.le_of_ble_eq_true rfl, Nat.le_of_ble_eq_true rfl⟩ ?_
  show BE mX4_init 1 153 (154, σ, nuL ((152, 11) :: L)) 0 [some (.ref 152)] [] 153 σ (nuL L)
  refine b_aload_n qX4_init_0 rfl ?_
  refine b_obj qX4_init_1 ob_X4_3.1 ob_X4_3.2.1 ob_X4_3.2.2 rfl rfl ?_
  refine b_aload_n qX4_init_4 rfl ?_
  refine b_sipush (nI 160) qX4_init_5 (by decide +kernel) ?_
  refine b_newaZ qX4_init_8 ar_boolean zs_153 zl_153 rfl (Nat.le_of_ble_eq_true rfl) ?_
  refine b_putrL qX4_init_10 fq_X4_9 rfl zs_152 zk_4_11 zr_152_11 (by decide) ?_
  exact b_ret qX4_init_13 rfl rfl
theorem zr_138_6 : rr 138 6 = 152 := by decide +kernel
theorem zs_154 : sh 154 = 4 := by decide +kernel
theorem zs_155 : sh 155 = 21 := by decide +kernel
theorem zl_155 : ln 155 = 160 := by decide +kernel
theorem zr_154_11 : rr 154 11 = 155 := by decide +kernel
set_option maxRecDepth 20000 in
set_option maxHeartbeats 4000000 in
theorem kb_X4_init_155 {σ : St} {L : List (Nat × Nat)} : BCt mX4_init 1 [.ref 154] 155 σ (nuL L) (156, σ, nuL ((154, 11) :: L)) := by
  refine BCt.ofE (by decide +kernel) rfl rfl ⟨Nat.le_of_ble_eq_true rfl, Nat.le_of_ble_eq_true rfl⟩ ?_
  show BE mX4_init 1 155 (156, σ, nuL ((154, 11) :: L)) 0 [some (.ref 154)] [] 155 σ (nuL L)
  refine b_aload_n qX4_init_0 rfl ?_
  refine b_obj qX4_init_1 ob_X4_3.1 ob_X4_3.2.1 ob_X4_3.2.2 rfl rfl ?_
  refine b_aload_n qX4_init_4 rfl ?_
  refine b_sipush (nI 160) qX4_init_5 (by decide +kernel) ?_
  refine b_newaZ qX4_init_8 ar_boolean zs_155 zl_155 rfl (Nat.le_of_ble_eq_true rfl) ?_
  refine b_putrL qX4_init_10 fq_X4_9 rfl zs_154 zk_4_11 zr_154_11 (by decide) ?_
  exact b_ret qX4_init_13 rfl rfl
theorem zr_138_7 : rr 138 7 = 154 := by decide +kernel
theorem zs_156 : sh 156 = 8 := by decide +kernel
set_option maxRecDepth 20000 in
set_option maxHeartbeats 4000000 in
theorem kb_X8_init_157 {σ : St} {L : List (Nat × Nat)} : BCt mX8_init 1 [.ref 156] 157 σ (nuL L) (157, σ, nuL (L)) := by
  refine BCt.ofE (by decide +kernel) rfl rfl ⟨Nat.le_of_ble_eq_true rfl, Nat.le_of_ble_eq_true rfl⟩ ?_
  show BE mX8_init 1 157 (157, σ, nuL (L)) 0 [some (.ref 156)] [] 157 σ (nuL L)
  refine b_aload_n qX8_init_0 rfl ?_
  refine b_obj qX8_init_1 ob_X8_1.1 ob_X8_1.2.1 ob_X8_1.2.2 rfl rfl ?_
  exact b_ret qX8_init_4 rfl rfl
theorem zr_139_0 : rr 139 0 = 156 := by decide +kernel
theorem zs_157 : sh 157 = 8 := by decide +kernel
set_option maxRecDepth 20000 in
set_option maxHeartbeats 4000000 in
theorem kb_X8_init_158 {σ : St} {L : List (Nat × Nat)} : BCt mX8_init 1 [.ref 157] 158 σ (nuL L) (158, σ, nuL (L)) := by
  refine BCt.ofE (by decide +kernel) rfl rfl ⟨Nat.le_of_ble_eq_true rfl, Nat.le_of_ble_eq_true rfl⟩ ?_
  show BE mX8_init 1 158 (158, σ, nuL (L)) 0 [some (.ref 157)] [] 158 σ (nuL L)
  refine b_aload_n qX8_init_0 rfl ?_
  refine b_obj qX8_init_1 ob_X8_1.1 ob_X8_1.2.1 ob_X8_1.2.2 rfl rfl ?_
  exact b_ret qX8_init_4 rfl rfl
theorem zr_139_1 : rr 139 1 = 157 := by decide +kernel
theorem zs_158 : sh 158 = 8 := by decide +kernel
set_option maxRecDepth 20000 in
set_option maxHeartbeats 4000000 in
theorem kb_X8_init_159 {σ : St} {L : List (Nat × Nat)} : BCt mX8_init 1 [.ref 158] 159 σ (nuL L) (159, σ, nuL (L)) := by
  refine BCt.ofE (by decide +kernel) rfl rfl ⟨Nat.le_of_ble_eq_true rfl, Nat.le_of_ble_eq_true rfl⟩ ?_
  show BE mX8_init 1 159 (159, σ, nuL (L)) 0 [some (.ref 158)] [] 159 σ (nuL L)
  refine b_aload_n qX8_init_0 rfl ?_
  refine b_obj qX8_init_1 ob_X8_1.1 ob_X8_1.2.1 ob_X8_1.2.2 rfl rfl ?_
  exact b_ret qX8_init_4 rfl rfl
theorem zr_139_2 : rr 139 2 = 158 := by decide +kernel
theorem zs_159 : sh 159 = 8 := by decide +kernel
set_option maxRecDepth 20000 in
set_option maxHeartbeats 4000000 in
theorem kb_X8_init_160 {σ : St} {L : List (Nat × Nat)} : BCt mX8_init 1 [.ref 159] 160 σ (nuL L) (160, σ, nuL (L)) := by
  refine BCt.ofE (by decide +kernel) rfl rfl ⟨Nat.le_of_ble_eq_true rfl, Nat.le_of_ble_eq_true rfl⟩ ?_
  show BE mX8_init 1 160 (160, σ, nuL (L)) 0 [some (.ref 159)] [] 160 σ (nuL L)
  refine b_aload_n qX8_init_0 rfl ?_
  refine b_obj qX8_init_1 ob_X8_1.1 ob_X8_1.2.1 ob_X8_1.2.2 rfl rfl ?_
  exact b_ret qX8_init_4 rfl rfl
theorem zr_139_3 : rr 139 3 = 159 := by decide +kernel
set_option maxRecDepth 20000 in
set_option maxHeartbeats 4000000 in
theorem kb_X1_init_138 {σ : St} {L : List (Nat × Nat)} : BCt mX1_init 2 [.ref 137] 138 σ (nuL L) (160, sI (σ) 137 4 (nI 30), nuL ((139, 3) :: (139, 2) :: (139, 1) :: (139, 0) :: (138, 7) :: (154, 11) :: (138, 6) :: (152, 11) :: (138, 5) :: (150, 11) :: (138, 4) :: (148, 11) :: (138, 3) :: (146, 11) :: (138, 2) :: (144, 11) :: (138, 1) :: (142, 11) :: (138, 0) :: (140, 11) :: (137, 1) :: (137, 0) :: L)) := by
  refine BCt.ofE (by decide +kernel) rfl rfl ⟨Nat.le_of_ble_eq_true rfl, Nat.le_of_ble_eq_true rfl⟩ ?_
  show BE mX1_init 2 138 (160, sI (σ) 137 4 (nI 30), nuL ((139, 3) :: (139, 2) :: (139, 1) :: (139, 0) :: (138, 7) :: (154, 11) :: (138, 6) :: (152, 11) :: (138, 5) :: (150, 11) :: (138, 4) :: (148, 11) :: (138, 3) :: (146, 11) :: (138, 2) :: (144, 11) :: (138, 1) :: (142, 11) :: (138, 0) :: (140, 11) :: (137, 1) :: (137, 0) :: L)) 0 [some (.ref 137), none] [] 138 σ (nuL L)
  refine b_aload_n qX1_init_0 rfl ?_
  refine b_obj qX1_init_1 ob_X1_3.1 ob_X1_3.2.1 ob_X1_3.2.2 rfl rfl ?_
  refine b_aload_n qX1_init_4 rfl ?_
  refine b_bipush (nI 8) qX1_init_5 (by decide +kernel) ?_
  refine b_anew qX1_init_7 na_X1_9 zs_138 zl_138 rfl (Nat.le_of_ble_eq_true rfl) ?_
  refine b_putrL qX1_init_10 fq_X1_11 rfl zs_137 zk_1_0 zr_137_0 (by decide) ?_
  refine b_aload_n qX1_init_13 rfl ?_
  refine b_iconst (nI 4) qX1_init_14 (by decide +kernel) ?_
  refine b_anew qX1_init_15 na_X1_17 zs_139 zl_139 rfl (Nat.le_of_ble_eq_true rfl) ?_
  refine b_putrL qX1_init_18 fq_X1_19 rfl zs_137 zk_1_1 zr_137_1 (by decide) ?_
  refine b_aload_n qX1_init_21 rfl ?_
  refine b_bipush (nI 30) qX1_init_22 (by decide +kernel) ?_
  refine b_puti qX1_init_24 fp_X1_23 zs_137 zk_1_4 (by decide) ?_
  refine b_iconst (nI 0) qX1_init_27 (by decide +kernel) ?_
  refine b_istore_n (lv2 := [some (.ref 137), some (.int (nI 0))]) qX1_init_28 rfl rfl rfl ?_
  refine b_iload_n qX1_init_29 rfl ?_
  refine b_bipush (nI 8) qX1_init_30 (by decide +kernel) ?_
  refine b_icmp_ge (tgt := 54) qX1_init_32 (by decide) (fun h => absurd h (by decide)) (fun _ => ?_)
  refine b_aload_n qX1_init_35 rfl ?_
  refine b_getr 138 qX1_init_36 fl_X1_11 zs_137 zk_1_0 (by decide) zr_137_0 rfl ?_
  refine b_iload_n qX1_init_39 rfl ?_
  refine b_new qX1_init_40 nw_X1_9 zs_140 (Nat.le_of_ble_eq_true rfl) ?_
  refine b_dup qX1_init_43 rfl ?_
  refine b_iniN0 qX1_init_44 mj_X1_27 rfl rfl kb_X4_init_141 (Nat.le_of_ble_eq_true rfl) ?_
  dsimp only
  refine b_aastL qX1_init_47 zs_138 (by decide) (fun _ => rfl) rfl zs_140 zr_138_0 zl_138 (by decide) rfl (by decide) (by decide) ?_
  refine b_iinc (1) (nI 1) (lv2 := [some (.ref 137), some (.int (nI 1))]) qX1_init_48 rfl rfl (by decide +kernel) (by decide +kernel) rfl ?_
  refine b_goto (tgt := 29) qX1_init_51 (by decide) ?_
  refine b_iload_n qX1_init_29 rfl ?_
  refine b_bipush (nI 8) qX1_init_30 (by decide +kernel) ?_
  refine b_icmp_ge (tgt := 54) qX1_init_32 (by decide) (fun h => absurd h (by decide)) (fun _ => ?_)
  refine b_aload_n qX1_init_35 rfl ?_
  refine b_getr 138 qX1_init_36 fl_X1_11 zs_137 zk_1_0 (by decide) zr_137_0 rfl ?_
  refine b_iload_n qX1_init_39 rfl ?_
  refine b_new qX1_init_40 nw_X1_9 zs_142 (Nat.le_of_ble_eq_true rfl) ?_
  refine b_dup qX1_init_43 rfl ?_
  refine b_iniN0 qX1_init_44 mj_X1_27 rfl rfl kb_X4_init_143 (Nat.le_of_ble_eq_true rfl) ?_
  dsimp only
  refine b_aastL qX1_init_47 zs_138 (by decide) (fun _ => rfl) rfl zs_142 zr_138_1 zl_138 (by decide) rfl (by decide) (by decide) ?_
  refine b_iinc (1) (nI 2) (lv2 := [some (.ref 137), some (.int (nI 2))]) qX1_init_48 rfl rfl (by decide +kernel) (by decide +kernel) rfl ?_
  refine b_goto (tgt := 29) qX1_init_51 (by decide) ?_
  refine b_iload_n qX1_init_29 rfl ?_
  refine b_bipush (nI 8) qX1_init_30 (by decide +kernel) ?_
  refine b_icmp_ge (tgt := 54) qX1_init_32 (by decide) (fun h => absurd h (by decide)) (fun _ => ?_)
  refine b_aload_n qX1_init_35 rfl ?_
  refine b_getr 138 qX1_init_36 fl_X1_11 zs_137 zk_1_0 (by decide) zr_137_0 rfl ?_
  refine b_iload_n qX1_init_39 rfl ?_
  refine b_new qX1_init_40 nw_X1_9 zs_144 (Nat.le_of_ble_eq_true rfl) ?_
  refine b_dup qX1_init_43 rfl ?_
  refine b_iniN0 qX1_init_44 mj_X1_27 rfl rfl kb_X4_init_145 (Nat.le_of_ble_eq_true rfl) ?_
  dsimp only
  refine b_aastL qX1_init_47 zs_138 (by decide) (fun _ => rfl) rfl zs_144 zr_138_2 zl_138 (by decide) rfl (by decide) (by decide) ?_
  refine b_iinc (1) (nI 3) (lv2 := [some (.ref 137), some (.int (nI 3))]) qX1_init_48 rfl rfl (by decide +kernel) (by decide +kernel) rfl ?_
  refine b_goto (tgt := 29) qX1_init_51 (by decide) ?_
  refine b_iload_n qX1_init_29 rfl ?_
  refine b_bipush (nI 8) qX1_init_30 (by decide +kernel) ?_
  refine b_icmp_ge (tgt := 54) qX1_init_32 (by decide) (fun h => absurd h (by decide)) (fun _ => ?_)
  refine b_aload_n qX1_init_35 rfl ?_
  refine b_getr 138 qX1_init_36 fl_X1_11 zs_137 zk_1_0 (by decide) zr_137_0 rfl ?_
  refine b_iload_n qX1_init_39 rfl ?_
  refine b_new qX1_init_40 nw_X1_9 zs_146 (Nat.le_of_ble_eq_true rfl) ?_
  refine b_dup qX1_init_43 rfl ?_
  refine b_iniN0 qX1_init_44 mj_X1_27 rfl rfl kb_X4_init_147 (Nat.le_of_ble_eq_true rfl) ?_
  dsimp only
  refine b_aastL qX1_init_47 zs_138 (by decide) (fun _ => rfl) rfl zs_146 zr_138_3 zl_138 (by decide) rfl (by decide) (by decide) ?_
  refine b_iinc (1) (nI 4) (lv2 := [some (.ref 137), some (.int (nI 4))]) qX1_init_48 rfl rfl (by decide +kernel) (by decide +kernel) rfl ?_
  refine b_goto (tgt := 29) qX1_init_51 (by decide) ?_
  refine b_iload_n qX1_init_29 rfl ?_
  refine b_bipush (nI 8) qX1_init_30 (by decide +kernel) ?_
  refine b_icmp_ge (tgt := 54) qX1_init_32 (by decide) (fun h => absurd h (by decide)) (fun _ => ?_)
  refine b_aload_n qX1_init_35 rfl ?_
  refine b_getr 138 qX1_init_36 fl_X1_11 zs_137 zk_1_0 (by decide) zr_137_0 rfl ?_
  refine b_iload_n qX1_init_39 rfl ?_
  refine b_new qX1_init_40 nw_X1_9 zs_148 (Nat.le_of_ble_eq_true rfl) ?_
  refine b_dup qX1_init_43 rfl ?_
  refine b_iniN0 qX1_init_44 mj_X1_27 rfl rfl kb_X4_init_149 (Nat.le_of_ble_eq_true rfl) ?_
  dsimp only
  refine b_aastL qX1_init_47 zs_138 (by decide) (fun _ => rfl) rfl zs_148 zr_138_4 zl_138 (by decide) rfl (by decide) (by decide) ?_
  refine b_iinc (1) (nI 5) (lv2 := [some (.ref 137), some (.int (nI 5))]) qX1_init_48 rfl rfl (by decide +kernel) (by decide +kernel) rfl ?_
  refine b_goto (tgt := 29) qX1_init_51 (by decide) ?_
  refine b_iload_n qX1_init_29 rfl ?_
  refine b_bipush (nI 8) qX1_init_30 (by decide +kernel) ?_
  refine b_icmp_ge (tgt := 54) qX1_init_32 (by decide) (fun h => absurd h (by decide)) (fun _ => ?_)
  refine b_aload_n qX1_init_35 rfl ?_
  refine b_getr 138 qX1_init_36 fl_X1_11 zs_137 zk_1_0 (by decide) zr_137_0 rfl ?_
  refine b_iload_n qX1_init_39 rfl ?_
  refine b_new qX1_init_40 nw_X1_9 zs_150 (Nat.le_of_ble_eq_true rfl) ?_
  refine b_dup qX1_init_43 rfl ?_
  refine b_iniN0 qX1_init_44 mj_X1_27 rfl rfl kb_X4_init_151 (Nat.le_of_ble_eq_true rfl) ?_
  dsimp only
  refine b_aastL qX1_init_47 zs_138 (by decide) (fun _ => rfl) rfl zs_150 zr_138_5 zl_138 (by decide) rfl (by decide) (by decide) ?_
  refine b_iinc (1) (nI 6) (lv2 := [some (.ref 137), some (.int (nI 6))]) qX1_init_48 rfl rfl (by decide +kernel) (by decide +kernel) rfl ?_
  refine b_goto (tgt := 29) qX1_init_51 (by decide) ?_
  refine b_iload_n qX1_init_29 rfl ?_
  refine b_bipush (nI 8) qX1_init_30 (by decide +kernel) ?_
  refine b_icmp_ge (tgt := 54) qX1_init_32 (by decide) (fun h => absurd h (by decide)) (fun _ => ?_)
  refine b_aload_n qX1_init_35 rfl ?_
  refine b_getr 138 qX1_init_36 fl_X1_11 zs_137 zk_1_0 (by decide) zr_137_0 rfl ?_
  refine b_iload_n qX1_init_39 rfl ?_
  refine b_new qX1_init_40 nw_X1_9 zs_152 (Nat.le_of_ble_eq_true rfl) ?_
  refine b_dup qX1_init_43 rfl ?_
  refine b_iniN0 qX1_init_44 mj_X1_27 rfl rfl kb_X4_init_153 (Nat.le_of_ble_eq_true rfl) ?_
  dsimp only
  refine b_aastL qX1_init_47 zs_138 (by decide) (fun _ => rfl) rfl zs_152 zr_138_6 zl_138 (by decide) rfl (by decide) (by decide) ?_
  refine b_iinc (1) (nI 7) (lv2 := [some (.ref 137), some (.int (nI 7))]) qX1_init_48 rfl rfl (by decide +kernel) (by decide +kernel) rfl ?_
  refine b_goto (tgt := 29) qX1_init_51 (by decide) ?_
  refine b_iload_n qX1_init_29 rfl ?_
  refine b_bipush (nI 8) qX1_init_30 (by decide +kernel) ?_
  refine b_icmp_ge (tgt := 54) qX1_init_32 (by decide) (fun h => absurd h (by decide)) (fun _ => ?_)
  refine b_aload_n qX1_init_35 rfl ?_
  refine b_getr 138 qX1_init_36 fl_X1_11 zs_137 zk_1_0 (by decide) zr_137_0 rfl ?_
  refine b_iload_n qX1_init_39 rfl ?_
  refine b_new qX1_init_40 nw_X1_9 zs_154 (Nat.le_of_ble_eq_true rfl) ?_
  refine b_dup qX1_init_43 rfl ?_
  refine b_iniN0 qX1_init_44 mj_X1_27 rfl rfl kb_X4_init_155 (Nat.le_of_ble_eq_true rfl) ?_
  dsimp only
  refine b_aastL qX1_init_47 zs_138 (by decide) (fun _ => rfl) rfl zs_154 zr_138_7 zl_138 (by decide) rfl (by decide) (by decide) ?_
  refine b_iinc (1) (nI 8) (lv2 := [some (.ref 137), some (.int (nI 8))]) qX1_init_48 rfl rfl (by decide +kernel) (by decide +kernel) rfl ?_
  refine b_goto (tgt := 29) qX1_init_51 (by decide) ?_
  refine b_iload_n qX1_init_29 rfl ?_
  refine b_bipush (nI 8) qX1_init_30 (by decide +kernel) ?_
  refine b_icmp_ge (tgt := 54) qX1_init_32 (by decide) (fun _ => ?_) (fun h => absurd (by decide) h)
  refine b_iconst (nI 0) qX1_init_54 (by decide +kernel) ?_
  refine b_istore_n (lv2 := [some (.ref 137), some (.int (nI 0))]) qX1_init_55 rfl rfl rfl ?_
  refine b_iload_n qX1_init_56 rfl ?_
  refine b_iconst (nI 4) qX1_init_57 (by decide +kernel) ?_
  refine b_icmp_ge (tgt := 80) qX1_init_58 (by decide) (fun h => absurd h (by decide)) (fun _ => ?_)
  refine b_aload_n qX1_init_61 rfl ?_
  refine b_getr 139 qX1_init_62 fl_X1_19 zs_137 zk_1_1 (by decide) zr_137_1 rfl ?_
  refine b_iload_n qX1_init_65 rfl ?_
  refine b_new qX1_init_66 nw_X1_17 zs_156 (Nat.le_of_ble_eq_true rfl) ?_
  refine b_dup qX1_init_69 rfl ?_
  refine b_iniN0 qX1_init_70 mj_X1_28 rfl rfl kb_X8_init_157 (Nat.le_of_ble_eq_true rfl) ?_
  dsimp only
  refine b_aastL qX1_init_73 zs_139 (by decide) (fun _ => rfl) rfl zs_156 zr_139_0 zl_139 (by decide) rfl (by decide) (by decide) ?_
  refine b_iinc (1) (nI 1) (lv2 := [some (.ref 137), some (.int (nI 1))]) qX1_init_74 rfl rfl (by decide +kernel) (by decide +kernel) rfl ?_
  refine b_goto (tgt := 56) qX1_init_77 (by decide) ?_
  refine b_iload_n qX1_init_56 rfl ?_
  refine b_iconst (nI 4) qX1_init_57 (by decide +kernel) ?_
  refine b_icmp_ge (tgt := 80) qX1_init_58 (by decide) (fun h => absurd h (by decide)) (fun _ => ?_)
  refine b_aload_n qX1_init_61 rfl ?_
  refine b_getr 139 qX1_init_62 fl_X1_19 zs_137 zk_1_1 (by decide) zr_137_1 rfl ?_
  refine b_iload_n qX1_init_65 rfl ?_
  refine b_new qX1_init_66 nw_X1_17 zs_157 (Nat.le_of_ble_eq_true rfl) ?_
  refine b_dup qX1_init_69 rfl ?_
  refine b_iniN0 qX1_init_70 mj_X1_28 rfl rfl kb_X8_init_158 (Nat.le_of_ble_eq_true rfl) ?_
  dsimp only
  refine b_aastL qX1_init_73 zs_139 (by decide) (fun _ => rfl) rfl zs_157 zr_139_1 zl_139 (by decide) rfl (by decide) (by decide) ?_
  refine b_iinc (1) (nI 2) (lv2 := [some (.ref 137), some (.int (nI 2))]) qX1_init_74 rfl rfl (by decide +kernel) (by decide +kernel) rfl ?_
  refine b_goto (tgt := 56) qX1_init_77 (by decide) ?_
  refine b_iload_n qX1_init_56 rfl ?_
  refine b_iconst (nI 4) qX1_init_57 (by decide +kernel) ?_
  refine b_icmp_ge (tgt := 80) qX1_init_58 (by decide) (fun h => absurd h (by decide)) (fun _ => ?_)
  refine b_aload_n qX1_init_61 rfl ?_
  refine b_getr 139 qX1_init_62 fl_X1_19 zs_137 zk_1_1 (by decide) zr_137_1 rfl ?_
  refine b_iload_n qX1_init_65 rfl ?_
  refine b_new qX1_init_66 nw_X1_17 zs_158 (Nat.le_of_ble_eq_true rfl) ?_
  refine b_dup qX1_init_69 rfl ?_
  refine b_iniN0 qX1_init_70 mj_X1_28 rfl rfl kb_X8_init_159 (Nat.le_of_ble_eq_true rfl) ?_
  dsimp only
  refine b_aastL qX1_init_73 zs_139 (by decide) (fun _ => rfl) rfl zs_158 zr_139_2 zl_139 (by decide) rfl (by decide) (by decide) ?_
  refine b_iinc (1) (nI 3) (lv2 := [some (.ref 137), some (.int (nI 3))]) qX1_init_74 rfl rfl (by decide +kernel) (by decide +kernel) rfl ?_
  refine b_goto (tgt := 56) qX1_init_77 (by decide) ?_
  refine b_iload_n qX1_init_56 rfl ?_
  refine b_iconst (nI 4) qX1_init_57 (by decide +kernel) ?_
  refine b_icmp_ge (tgt := 80) qX1_init_58 (by decide) (fun h => absurd h (by decide)) (fun _ => ?_)
  refine b_aload_n qX1_init_61 rfl ?_
  refine b_getr 139 qX1_init_62 fl_X1_19 zs_137 zk_1_1 (by decide) zr_137_1 rfl ?_
  refine b_iload_n qX1_init_65 rfl ?_
  refine b_new qX1_init_66 nw_X1_17 zs_159 (Nat.le_of_ble_eq_true rfl) ?_
  refine b_dup qX1_init_69 rfl ?_
  refine b_iniN0 qX1_init_70 mj_X1_28 rfl rfl kb_X8_init_160 (Nat.le_of_ble_eq_true rfl) ?_
  dsimp only
  refine b_aastL qX1_init_73 zs_139 (by decide) (fun _ => rfl) rfl zs_159 zr_139_3 zl_139 (by decide) rfl (by decide) (by decide) ?_
  refine b_iinc (1) (nI 4) (lv2 := [some (.ref 137), some (.int (nI 4))]) qX1_init_74 rfl rfl (by decide +kernel) (by decide +kernel) rfl ?_
  refine b_goto (tgt := 56) qX1_init_77 (by decide) ?_
  refine b_iload_n qX1_init_56 rfl ?_
  refine b_iconst (nI 4) qX1_init_57 (by decide +kernel) ?_
  refine b_icmp_ge (tgt := 80) qX1_init_58 (by decide) (fun _ => ?_) (fun h => absurd (by decide) h)
  exact b_ret qX1_init_80 rfl rfl
theorem mi_X3_9 : MwI RX3 9 mX1_init 0 := ⟨mw_X1_init, rfl, tb_1 93 (by decide +kernel) (by decide +kernel), rfl, tb_2 143 (by decide +kernel) (by decide +kernel)⟩
theorem qX3_init_12 : Dc mX3_init 12 (.putfield 10) 3 15 := ⟨by decide +kernel, rfl⟩
theorem fq_X3_10 : Fq RX3 10 3 0 true := ⟨_, _, _, tyX3, _, rfl, by decide, cws_3, tb_2 148 (by decide +kernel) (by decide +kernel), tyX3_ok, nmX3, rfl, fun _ => rfl, tyX3_ok 0 (by decide), by decide +kernel, fun _ => ⟨rfl, rfl⟩⟩
theorem zk_3_0 : kd 3 0 = 2 := by decide +kernel
theorem zr_136_0 : rr 136 0 = 137 := by decide +kernel
theorem qX3_init_15 : Dc mX3_init 15 (.aload_n 0) 1 16 := ⟨by decide +kernel, rfl⟩
theorem qX3_init_16 : Dc mX3_init 16 (.new 16) 3 19 := ⟨by decide +kernel, rfl⟩
theorem nw_X3_16 : Nw RX3 16 7 := ⟨_, _, _, tyX7, rfl, cws_7, tyX7_ok, tb_2 144 (by decide +kernel) (by decide +kernel), tb_2 54 (by decide +kernel) (by decide +kernel), tb_1 7 (by decide +kernel) (by decide +kernel), by decide +kernel, by decide +kernel⟩
theorem zs_160 : sh 160 = 7 := by decide +kernel
theorem qX3_init_19 : Dc mX3_init 19 (.dup) 1 20 := ⟨by decide +kernel, rfl⟩
theorem qX3_init_20 : Dc mX3_init 20 (.invokespecial 18) 3 23 := ⟨by decide +kernel, rfl⟩
theorem zs_161 : sh 161 = 20 := by decide +kernel
theorem zl_161 : ln 161 = 40 := by decide +kernel
theorem zr_160_2 : rr 160 2 = 161 := by decide +kernel
theorem zs_162 : sh 162 = 20 := by decide +kernel
theorem zl_162 : ln 162 = 40 := by decide +kernel
theorem zr_160_3 : rr 160 3 = 162 := by decide +kernel
theorem zs_163 : sh 163 = 20 := by decide +kernel
theorem zl_163 : ln 163 = 40 := by decide +kernel
theorem zr_160_4 : rr 160 4 = 163 := by decide +kernel
theorem zs_164 : sh 164 = 20 := by decide +kernel
theorem zl_164 : ln 164 = 40 := by decide +kernel
theorem zr_160_5 : rr 160 5 = 164 := by decide +kernel
set_option maxRecDepth 20000 in
set_option maxHeartbeats 4000000 in
theorem kb_X7_init_161 {σ : St} {L : List (Nat × Nat)} : BCt mX7_init 1 [.ref 160] 161 σ (nuL L) (165, σ, nuL ((160, 5) :: (160, 4) :: (160, 3) :: (160, 2) :: L)) := by
  refine BCt.ofE (by decide +kernel) rfl rfl ⟨Nat.le_of_ble_eq_true rfl, Nat.le_of_ble_eq_true rfl⟩ ?_
  show BE mX7_init 1 161 (165, σ, nuL ((160, 5) :: (160, 4) :: (160, 3) :: (160, 2) :: L)) 0 [some (.ref 160)] [] 161 σ (nuL L)
  refine b_aload_n qX7_init_0 rfl ?_
  refine b_obj qX7_init_1 ob_X7_3.1 ob_X7_3.2.1 ob_X7_3.2.2 rfl rfl ?_
  refine b_aload_n qX7_init_4 rfl ?_
  refine b_bipush (nI 40) qX7_init_5 (by decide +kernel) ?_
  refine b_newaI qX7_init_7 ar_int zs_161 zl_161 rfl (Nat.le_of_ble_eq_true rfl) ?_
  refine b_putrL qX7_init_9 fq_X7_11 rfl zs_160 zk_7_2 zr_160_2 (by decide) ?_
  refine b_aload_n qX7_init_12 rfl ?_
  refine b_bipush (nI 40) qX7_init_13 (by decide +kernel) ?_
  refine b_newaI qX7_init_15 ar_int zs_162 zl_162 rfl (Nat.le_of_ble_eq_true rfl) ?_
  refine b_putrL qX7_init_17 fq_X7_15 rfl zs_160 zk_7_3 zr_160_3 (by decide) ?_
  refine b_aload_n qX7_init_20 rfl ?_
  refine b_bipush (nI 40) qX7_init_21 (by decide +kernel) ?_
  refine b_newaI qX7_init_23 ar_int zs_163 zl_163 rfl (Nat.le_of_ble_eq_true rfl) ?_
  refine b_putrL qX7_init_25 fq_X7_18 rfl zs_160 zk_7_4 zr_160_4 (by decide) ?_
  refine b_aload_n qX7_init_28 rfl ?_
  refine b_bipush (nI 40) qX7_init_29 (by decide +kernel) ?_
  refine b_newaI qX7_init_31 ar_int zs_164 zl_164 rfl (Nat.le_of_ble_eq_true rfl) ?_
  refine b_putrL qX7_init_33 fq_X7_21 rfl zs_160 zk_7_5 zr_160_5 (by decide) ?_
  exact b_ret qX7_init_36 rfl rfl
theorem mj_X3_18 : MwJ RX3 18 mX7_init 0 "CoastLights" := ⟨mw_X7_init, rfl, tb_2 56 (by decide +kernel) (by decide +kernel), rfl, by decide +kernel⟩
theorem qX3_init_23 : Dc mX3_init 23 (.putfield 19) 3 26 := ⟨by decide +kernel, rfl⟩
theorem fq_X3_19 : Fq RX3 19 3 2 true := ⟨_, _, _, tyX3, _, rfl, by decide, cws_3, tb_2 152 (by decide +kernel) (by decide +kernel), tyX3_ok, nmX3, rfl, fun _ => rfl, tyX3_ok 2 (by decide), by decide +kernel, fun _ => ⟨rfl, rfl⟩⟩
theorem zk_3_2 : kd 3 2 = 2 := by decide +kernel
theorem zr_136_2 : rr 136 2 = 160 := by decide +kernel
theorem qX3_init_26 : Dc mX3_init 26 (.aload_n 0) 1 27 := ⟨by decide +kernel, rfl⟩
theorem qX3_init_27 : Dc mX3_init 27 (.new 23) 3 30 := ⟨by decide +kernel, rfl⟩
theorem nw_X3_23 : Nw RX3 23 6 := ⟨_, _, _, tyX6, rfl, cws_6, tyX6_ok, tb_2 146 (by decide +kernel) (by decide +kernel), tb_2 8 (by decide +kernel) (by decide +kernel), tb_1 6 (by decide +kernel) (by decide +kernel), by decide +kernel, by decide +kernel⟩
theorem zs_165 : sh 165 = 6 := by decide +kernel
theorem qX3_init_30 : Dc mX3_init 30 (.dup) 1 31 := ⟨by decide +kernel, rfl⟩
theorem qX3_init_31 : Dc mX3_init 31 (.aload_n 1) 1 32 := ⟨by decide +kernel, rfl⟩
theorem qX3_init_32 : Dc mX3_init 32 (.invokespecial 25) 3 35 := ⟨by decide +kernel, rfl⟩
theorem zs_166 : sh 166 = 20 := by decide +kernel
theorem zl_166 : ln 166 = 8 := by decide +kernel
theorem zr_165_4 : rr 165 4 = 166 := by decide +kernel
theorem zs_167 : sh 167 = 20 := by decide +kernel
theorem zl_167 : ln 167 = 8 := by decide +kernel
theorem zr_165_5 : rr 165 5 = 167 := by decide +kernel
theorem zs_168 : sh 168 = 20 := by decide +kernel
theorem zl_168 : ln 168 = 4 := by decide +kernel
theorem zr_165_6 : rr 165 6 = 168 := by decide +kernel
theorem zs_169 : sh 169 = 20 := by decide +kernel
theorem zl_169 : ln 169 = 4 := by decide +kernel
theorem zr_165_7 : rr 165 7 = 169 := by decide +kernel
theorem zs_170 : sh 170 = 20 := by decide +kernel
theorem zl_170 : ln 170 = 4 := by decide +kernel
theorem zr_165_8 : rr 165 8 = 170 := by decide +kernel
theorem zr_165_0 : rr 165 0 = 3 := by decide +kernel
set_option maxRecDepth 20000 in
set_option maxHeartbeats 4000000 in
theorem kb_X6_init_166 {σ : St} {L : List (Nat × Nat)} : BCt mX6_init 1 [.ref 165, .ref 3] 166 σ (nuL L) (171, σ, nuL ((165, 0) :: (165, 8) :: (165, 7) :: (165, 6) :: (165, 5) :: (165, 4) :: L)) := by
  refine BCt.ofE (by decide +kernel) rfl rfl ⟨Nat.le_of_ble_eq_true rfl, Nat.le_of_ble_eq_true rfl⟩ ?_
  show BE mX6_init 1 166 (171, σ, nuL ((165, 0) :: (165, 8) :: (165, 7) :: (165, 6) :: (165, 5) :: (165, 4) :: L)) 0 [some (.ref 165), some (.ref 3)] [] 166 σ (nuL L)
  refine b_aload_n qX6_init_0 rfl ?_
  refine b_obj qX6_init_1 ob_X6_3.1 ob_X6_3.2.1 ob_X6_3.2.2 rfl rfl ?_
  refine b_aload_n qX6_init_4 rfl ?_
  refine b_bipush (nI 8) qX6_init_5 (by decide +kernel) ?_
  refine b_newaI qX6_init_7 ar_int zs_166 zl_166 rfl (Nat.le_of_ble_eq_true rfl) ?_
  refine b_putrL qX6_init_9 fq_X6_9 rfl zs_165 zk_6_4 zr_165_4 (by decide) ?_
  refine b_aload_n qX6_init_12 rfl ?_
  refine b_bipush (nI 8) qX6_init_13 (by decide +kernel) ?_
  refine b_newaI qX6_init_15 ar_int zs_167 zl_167 rfl (Nat.le_of_ble_eq_true rfl) ?_
  refine b_putrL qX6_init_17 fq_X6_15 rfl zs_165 zk_6_5 zr_165_5 (by decide) ?_
  refine b_aload_n qX6_init_20 rfl ?_
  refine b_iconst (nI 4) qX6_init_21 (by decide +kernel) ?_
  refine b_newaI qX6_init_22 ar_int zs_168 zl_168 rfl (Nat.le_of_ble_eq_true rfl) ?_
  refine b_putrL qX6_init_24 fq_X6_18 rfl zs_165 zk_6_6 zr_165_6 (by decide) ?_
  refine b_aload_n qX6_init_27 rfl ?_
  refine b_iconst (nI 4) qX6_init_28 (by decide +kernel) ?_
  refine b_newaI qX6_init_29 ar_int zs_169 zl_169 rfl (Nat.le_of_ble_eq_true rfl) ?_
  refine b_putrL qX6_init_31 fq_X6_21 rfl zs_165 zk_6_7 zr_165_7 (by decide) ?_
  refine b_aload_n qX6_init_34 rfl ?_
  refine b_iconst (nI 4) qX6_init_35 (by decide +kernel) ?_
  refine b_newaI qX6_init_36 ar_int zs_170 zl_170 rfl (Nat.le_of_ble_eq_true rfl) ?_
  refine b_putrL qX6_init_38 fq_X6_24 rfl zs_165 zk_6_8 zr_165_8 (by decide) ?_
  refine b_aload_n qX6_init_41 rfl ?_
  refine b_aload_n qX6_init_42 rfl ?_
  refine b_putrL qX6_init_43 fq_X6_27 rfl zs_165 zk_6_0 zr_165_0 (by decide) ?_
  exact b_ret qX6_init_46 rfl rfl
theorem mi_X3_25 : MwI RX3 25 mX6_init 1 := ⟨mw_X6_init, rfl, tb_2 10 (by decide +kernel) (by decide +kernel), rfl, tb_2 147 (by decide +kernel) (by decide +kernel)⟩
theorem qX3_init_35 : Dc mX3_init 35 (.putfield 28) 3 38 := ⟨by decide +kernel, rfl⟩
theorem fq_X3_28 : Fq RX3 28 3 1 true := ⟨_, _, _, tyX3, _, rfl, by decide, cws_3, tb_2 150 (by decide +kernel) (by decide +kernel), tyX3_ok, nmX3, rfl, fun _ => rfl, tyX3_ok 1 (by decide), by decide +kernel, fun _ => ⟨rfl, rfl⟩⟩
theorem zk_3_1 : kd 3 1 = 2 := by decide +kernel
theorem zr_136_1 : rr 136 1 = 165 := by decide +kernel
theorem qX3_init_38 : Dc mX3_init 38 (.return_) 1 39 := ⟨by decide +kernel, rfl⟩
set_option maxRecDepth 20000 in
set_option maxHeartbeats 4000000 in
theorem kb_X3_init_137 {σ : St} {L : List (Nat × Nat)} : BCt mX3_init 3 [.ref 136, .ref 3] 137 σ (nuL L) (171, sI (σ) 137 4 (nI 30), nuL ((136, 1) :: (165, 0) :: (165, 8) :: (165, 7) :: (165, 6) :: (165, 5) :: (165, 4) :: (136, 2) :: (160, 5) :: (160, 4) :: (160, 3) :: (160, 2) :: (136, 0) :: (139, 3) :: (139, 2) :: (139, 1) :: (139, 0) :: (138, 7) :: (154, 11) :: (138, 6) :: (152, 11) :: (138, 5) :: (150, 11) :: (138, 4) :: (148, 11) :: (138, 3) :: (146, 11) :: (138, 2) :: (144, 11) :: (138, 1) :: (142, 11) :: (138, 0) :: (140, 11) :: (137, 1) :: (137, 0) :: L)) := by
  refine BCt.ofE (by decide +kernel) rfl rfl ⟨Nat.le_of_ble_eq_true rfl, Nat.le_of_ble_eq_true rfl⟩ ?_
  show BE mX3_init 3 137 (171, sI (σ) 137 4 (nI 30), nuL ((136, 1) :: (165, 0) :: (165, 8) :: (165, 7) :: (165, 6) :: (165, 5) :: (165, 4) :: (136, 2) :: (160, 5) :: (160, 4) :: (160, 3) :: (160, 2) :: (136, 0) :: (139, 3) :: (139, 2) :: (139, 1) :: (139, 0) :: (138, 7) :: (154, 11) :: (138, 6) :: (152, 11) :: (138, 5) :: (150, 11) :: (138, 4) :: (148, 11) :: (138, 3) :: (146, 11) :: (138, 2) :: (144, 11) :: (138, 1) :: (142, 11) :: (138, 0) :: (140, 11) :: (137, 1) :: (137, 0) :: L)) 0 [some (.ref 136), some (.ref 3)] [] 137 σ (nuL L)
  refine b_aload_n qX3_init_0 rfl ?_
  refine b_obj qX3_init_1 ob_X3_1.1 ob_X3_1.2.1 ob_X3_1.2.2 rfl rfl ?_
  refine b_aload_n qX3_init_4 rfl ?_
  refine b_new qX3_init_5 nw_X3_7 zs_137 (Nat.le_of_ble_eq_true rfl) ?_
  refine b_dup qX3_init_8 rfl ?_
  refine b_iniP0 qX3_init_9 mi_X3_9 rfl rfl kb_X1_init_138 (Nat.le_of_ble_eq_true rfl) ?_
  dsimp only
  refine b_putrL qX3_init_12 fq_X3_10 rfl zs_136 zk_3_0 zr_136_0 (by decide) ?_
  refine b_aload_n qX3_init_15 rfl ?_
  refine b_new qX3_init_16 nw_X3_16 zs_160 (Nat.le_of_ble_eq_true rfl) ?_
  refine b_dup qX3_init_19 rfl ?_
  refine b_iniN0 qX3_init_20 mj_X3_18 rfl rfl kb_X7_init_161 (Nat.le_of_ble_eq_true rfl) ?_
  dsimp only
  refine b_putrL qX3_init_23 fq_X3_19 rfl zs_136 zk_3_2 zr_136_2 (by decide) ?_
  refine b_aload_n qX3_init_26 rfl ?_
  refine b_new qX3_init_27 nw_X3_23 zs_165 (Nat.le_of_ble_eq_true rfl) ?_
  refine b_dup qX3_init_30 rfl ?_
  refine b_aload_n qX3_init_31 rfl ?_
  refine b_iniP1 qX3_init_32 mi_X3_25 rfl rfl kb_X6_init_166 (Nat.le_of_ble_eq_true rfl) ?_
  dsimp only
  refine b_putrL qX3_init_35 fq_X3_28 rfl zs_136 zk_3_1 zr_136_1 (by decide) ?_
  exact b_ret qX3_init_38 rfl rfl
theorem mi_X11_98 : MwI RX11 98 mX3_init 1 := ⟨mw_X3_init, rfl, tb_2 139 (by decide +kernel) (by decide +kernel), rfl, tb_2 138 (by decide +kernel) (by decide +kernel)⟩
theorem qX11_init_216 : Dc mX11_init 216 (.aastore) 1 217 := ⟨by decide +kernel, rfl⟩
theorem zr_132_0 : rr 132 0 = 136 := by decide +kernel
theorem qX11_init_217 : Dc mX11_init 217 (.iinc 1 1) 3 220 := ⟨by decide +kernel, rfl⟩
theorem qX11_init_220 : Dc mX11_init 220 (.goto (-25)) 3 223 := ⟨by decide +kernel, rfl⟩
theorem zs_171 : sh 171 = 3 := by decide +kernel
theorem zs_172 : sh 172 = 1 := by decide +kernel
theorem zs_173 : sh 173 = 24 := by decide +kernel
theorem zl_173 : ln 173 = 8 := by decide +kernel
theorem zr_172_0 : rr 172 0 = 173 := by decide +kernel
theorem zs_174 : sh 174 = 25 := by decide +kernel
theorem zl_174 : ln 174 = 4 := by decide +kernel
theorem zr_172_1 : rr 172 1 = 174 := by decide +kernel
theorem zs_175 : sh 175 = 4 := by decide +kernel
theorem zs_176 : sh 176 = 21 := by decide +kernel
theorem zl_176 : ln 176 = 160 := by decide +kernel
theorem zr_175_11 : rr 175 11 = 176 := by decide +kernel
set_option maxRecDepth 20000 in
set_option maxHeartbeats 4000000 in
theorem kb_X4_init_176 {σ : St} {L : List (Nat × Nat)} : BCt mX4_init 1 [.ref 175] 176 σ (nuL L) (177, σ, nuL ((175, 11) :: L)) := by
  refine BCt.ofE (by decide +kernel) rfl rfl ⟨Nat.le_of_ble_eq_true rfl, Nat.le_of_ble_eq_true rfl⟩ ?_
  show BE mX4_init 1 176 (177, σ, nuL ((175, 11) :: L)) 0 [some (.ref 175)] [] 176 σ (nuL L)
  refine b_aload_n qX4_init_0 rfl ?_
  refine b_obj qX4_init_1 ob_X4_3.1 ob_X4_3.2.1 ob_X4_3.2.2 rfl rfl ?_
  refine b_aload_n qX4_init_4 rfl ?_
  refine b_sipush (nI 160) qX4_init_5 (by decide +kernel) ?_
  refine b_newaZ qX4_init_8 ar_boolean zs_176 zl_176 rfl (Nat.le_of_ble_eq_true rfl) ?_
  refine b_putrL qX4_init_10 fq_X4_9 rfl zs_175 zk_4_11 zr_175_11 (by decide) ?_
  exact b_ret qX4_init_13 rfl rfl
theorem zr_173_0 : rr 173 0 = 175 := by decide +kernel
theorem zs_177 : sh 177 = 4 := by decide +kernel
theorem zs_178 : sh 178 = 21 := by decide +kernel
theorem zl_178 : ln 178 = 160 := by decide +kernel
theorem zr_177_11 : rr 177 11 = 178 := by decide +kernel
set_option maxRecDepth 20000 in
set_option maxHeartbeats 4000000 in
theorem kb_X4_init_178 {σ : St} {L : List (Nat × Nat)} : BCt mX4_init 1 [.ref 177] 178 σ (nuL L) (179, σ, nuL ((177, 11) :: L)) := by
  refine BCt.ofE (by decide +kernel) rfl rfl ⟨Nat.le_of_ble_eq_true rfl, Nat.le_of_ble_eq_true rfl⟩ ?_
  show BE mX4_init 1 178 (179, σ, nuL ((177, 11) :: L)) 0 [some (.ref 177)] [] 178 σ (nuL L)
  refine b_aload_n qX4_init_0 rfl ?_
  refine b_obj qX4_init_1 ob_X4_3.1 ob_X4_3.2.1 ob_X4_3.2.2 rfl rfl ?_
  refine b_aload_n qX4_init_4 rfl ?_
  refine b_sipush (nI 160) qX4_init_5 (by decide +kernel) ?_
  refine b_newaZ qX4_init_8 ar_boolean zs_178 zl_178 rfl (Nat.le_of_ble_eq_true rfl) ?_
  refine b_putrL qX4_init_10 fq_X4_9 rfl zs_177 zk_4_11 zr_177_11 (by decide) ?_
  exact b_ret qX4_init_13 rfl rfl
theorem zr_173_1 : rr 173 1 = 177 := by decide +kernel
theorem zs_179 : sh 179 = 4 := by decide +kernel
theorem zs_180 : sh 180 = 21 := by decide +kernel
theorem zl_180 : ln 180 = 160 := by decide +kernel
theorem zr_179_11 : rr 179 11 = 180 := by decide +kernel
set_option maxRecDepth 20000 in
set_option maxHeartbeats 4000000 in
theorem kb_X4_init_180 {σ : St} {L : List (Nat × Nat)} : BCt mX4_init 1 [.ref 179] 180 σ (nuL L) (181, σ, nuL ((179, 11) :: L)) := by
  refine BCt.ofE (by decide +kernel) rfl rfl ⟨Nat.le_of_ble_eq_true rfl, Nat.le_of_ble_eq_true rfl⟩ ?_
  show BE mX4_init 1 180 (181, σ, nuL ((179, 11) :: L)) 0 [some (.ref 179)] [] 180 σ (nuL L)
  refine b_aload_n qX4_init_0 rfl ?_
  refine b_obj qX4_init_1 ob_X4_3.1 ob_X4_3.2.1 ob_X4_3.2.2 rfl rfl ?_
  refine b_aload_n qX4_init_4 rfl ?_
  refine b_sipush (nI 160) qX4_init_5 (by decide +kernel) ?_
  refine b_newaZ qX4_init_8 ar_boolean zs_180 zl_180 rfl (Nat.le_of_ble_eq_true rfl) ?_
  refine b_putrL qX4_init_10 fq_X4_9 rfl zs_179 zk_4_11 zr_179_11 (by decide) ?_
  exact b_ret qX4_init_13 rfl rfl
theorem zr_173_2 : rr 173 2 = 179 := by decide +kernel
theorem zs_181 : sh 181 = 4 := by decide +kernel
theorem zs_182 : sh 182 = 21 := by decide +kernel
theorem zl_182 : ln 182 = 160 := by decide +kernel
theorem zr_181_11 : rr 181 11 = 182 := by decide +kernel
set_option maxRecDepth 20000 in
set_option maxHeartbeats 4000000 in
theorem kb_X4_init_182 {σ : St} {L : List (Nat × Nat)} : BCt mX4_init 1 [.ref 181] 182 σ (nuL L) (183, σ, nuL ((181, 11) :: L)) := by
  refine BCt.ofE (by decide +kernel) rfl rfl ⟨Nat.le_of_ble_eq_true rfl, Nat.le_of_ble_eq_true rfl⟩ ?_
  show BE mX4_init 1 182 (183, σ, nuL ((181, 11) :: L)) 0 [some (.ref 181)] [] 182 σ (nuL L)
  refine b_aload_n qX4_init_0 rfl ?_
  refine b_obj qX4_init_1 ob_X4_3.1 ob_X4_3.2.1 ob_X4_3.2.2 rfl rfl ?_
  refine b_aload_n qX4_init_4 rfl ?_
  refine b_sipush (nI 160) qX4_init_5 (by decide +kernel) ?_
  refine b_newaZ qX4_init_8 ar_boolean zs_182 zl_182 rfl (Nat.le_of_ble_eq_true rfl) ?_
  refine b_putrL qX4_init_10 fq_X4_9 rfl zs_181 zk_4_11 zr_181_11 (by decide) ?_
  exact b_ret qX4_init_13 rfl rfl
theorem zr_173_3 : rr 173 3 = 181 := by decide +kernel
theorem zs_183 : sh 183 = 4 := by decide +kernel
theorem zs_184 : sh 184 = 21 := by decide +kernel
theorem zl_184 : ln 184 = 160 := by decide +kernel
theorem zr_183_11 : rr 183 11 = 184 := by decide +kernel
set_option maxRecDepth 20000 in
set_option maxHeartbeats 4000000 in
theorem kb_X4_init_184 {σ : St} {L : List (Nat × Nat)} : BCt mX4_init 1 [.ref 183] 184 σ (nuL L) (185, σ, nuL ((183, 11) :: L)) := by
  refine BCt.ofE (by decide +kernel) rfl rfl ⟨Nat.le_of_ble_eq_true rfl, Nat.le_of_ble_eq_true rfl⟩ ?_
  show BE mX4_init 1 184 (185, σ, nuL ((183, 11) :: L)) 0 [some (.ref 183)] [] 184 σ (nuL L)
  refine b_aload_n qX4_init_0 rfl ?_
  refine b_obj qX4_init_1 ob_X4_3.1 ob_X4_3.2.1 ob_X4_3.2.2 rfl rfl ?_
  refine b_aload_n qX4_init_4 rfl ?_
  refine b_sipush (nI 160) qX4_init_5 (by decide +kernel) ?_
  refine b_newaZ qX4_init_8 ar_boolean zs_184 zl_184 rfl (Nat.le_of_ble_eq_true rfl) ?_
  refine b_putrL qX4_init_10 fq_X4_9 rfl zs_183 zk_4_11 zr_183_11 (by decide) ?_
  exact b_ret qX4_init_13 rfl rfl
theorem zr_173_4 : rr 173 4 = 183 := by decide +kernel
theorem zs_185 : sh 185 = 4 := by decide +kernel
theorem zs_186 : sh 186 = 21 := by decide +kernel
theorem zl_186 : ln 186 = 160 := by decide +kernel
theorem zr_185_11 : rr 185 11 = 186 := by decide +kernel
set_option maxRecDepth 20000 in
set_option maxHeartbeats 4000000 in
theorem kb_X4_init_186 {σ : St} {L : List (Nat × Nat)} : BCt mX4_init 1 [.ref 185] 186 σ (nuL L) (187, σ, nuL ((185, 11) :: L)) := by
  refine BCt.ofE (by decide +kernel) rfl rfl ⟨Nat.le_of_ble_eq_true rfl, Nat.le_of_ble_eq_true rfl⟩ ?_
  show BE mX4_init 1 186 (187, σ, nuL ((185, 11) :: L)) 0 [some (.ref 185)] [] 186 σ (nuL L)
  refine b_aload_n qX4_init_0 rfl ?_
  refine b_obj qX4_init_1 ob_X4_3.1 ob_X4_3.2.1 ob_X4_3.2.2 rfl rfl ?_
  refine b_aload_n qX4_init_4 rfl ?_
  refine b_sipush (nI 160) qX4_init_5 (by decide +kernel) ?_
  refine b_newaZ qX4_init_8 ar_boolean zs_186 zl_186 rfl (Nat.le_of_ble_eq_true rfl) ?_
  refine b_putrL qX4_init_10 fq_X4_9 rfl zs_185 zk_4_11 zr_185_11 (by decide) ?_
  exact b_ret qX4_init_13 rfl rfl
theorem zr_173_5 : rr 173 5 = 185 := by decide +kernel
theorem zs_187 : sh 187 = 4 := by decide +kernel
theorem zs_188 : sh 188 = 21 := by decide +kernel
theorem zl_188 : ln 188 = 160 := by decide +kernel
theorem zr_187_11 : rr 187 11 = 188 := by decide +kernel
set_option maxRecDepth 20000 in
set_option maxHeartbeats 4000000 in
theorem kb_X4_init_188 {σ : St} {L : List (Nat × Nat)} : BCt mX4_init 1 [.ref 187] 188 σ (nuL L) (189, σ, nuL ((187, 11) :: L)) := by
  refine BCt.ofE (by decide +kernel) rfl rfl ⟨Nat.le_of_ble_eq_true rfl, Nat.le_of_ble_eq_true rfl⟩ ?_
  show BE mX4_init 1 188 (189, σ, nuL ((187, 11) :: L)) 0 [some (.ref 187)] [] 188 σ (nuL L)
  refine b_aload_n qX4_init_0 rfl ?_
  refine b_obj qX4_init_1 ob_X4_3.1 ob_X4_3.2.1 ob_X4_3.2.2 rfl rfl ?_
  refine b_aload_n qX4_init_4 rfl ?_
  refine b_sipush (nI 160) qX4_init_5 (by decide +kernel) ?_
  refine b_newaZ qX4_init_8 ar_boolean zs_188 zl_188 rfl (Nat.le_of_ble_eq_true rfl) ?_
  refine b_putrL qX4_init_10 fq_X4_9 rfl zs_187 zk_4_11 zr_187_11 (by decide) ?_
  exact b_ret qX4_init_13 rfl rfl
theorem zr_173_6 : rr 173 6 = 187 := by decide +kernel
theorem zs_189 : sh 189 = 4 := by decide +kernel
theorem zs_190 : sh 190 = 21 := by decide +kernel
theorem zl_190 : ln 190 = 160 := by decide +kernel
theorem zr_189_11 : rr 189 11 = 190 := by decide +kernel
set_option maxRecDepth 20000 in
set_option maxHeartbeats 4000000 in
theorem kb_X4_init_190 {σ : St} {L : List (Nat × Nat)} : BCt mX4_init 1 [.ref 189] 190 σ (nuL L) (191, σ, nuL ((189, 11) :: L)) := by
  refine BCt.ofE (by decide +kernel) rfl rfl ⟨Nat.le_of_ble_eq_true rfl, Nat.le_of_ble_eq_true rfl⟩ ?_
  show BE mX4_init 1 190 (191, σ, nuL ((189, 11) :: L)) 0 [some (.ref 189)] [] 190 σ (nuL L)
  refine b_aload_n qX4_init_0 rfl ?_
  refine b_obj qX4_init_1 ob_X4_3.1 ob_X4_3.2.1 ob_X4_3.2.2 rfl rfl ?_
  refine b_aload_n qX4_init_4 rfl ?_
  refine b_sipush (nI 160) qX4_init_5 (by decide +kernel) ?_
  refine b_newaZ qX4_init_8 ar_boolean zs_190 zl_190 rfl (Nat.le_of_ble_eq_true rfl) ?_
  refine b_putrL qX4_init_10 fq_X4_9 rfl zs_189 zk_4_11 zr_189_11 (by decide) ?_
  exact b_ret qX4_init_13 rfl rfl
theorem zr_173_7 : rr 173 7 = 189 := by decide +kernel
theorem zs_191 : sh 191 = 8 := by decide +kernel
set_option maxRecDepth 20000 in
set_option maxHeartbeats 4000000 in
theorem kb_X8_init_192 {σ : St} {L : List (Nat × Nat)} : BCt mX8_init 1 [.ref 191] 192 σ (nuL L) (192, σ, nuL (L)) := by
  refine BCt.ofE (by decide +kernel) rfl rfl ⟨Nat.le_of_ble_eq_true rfl, Nat.le_of_ble_eq_true rfl⟩ ?_
  show BE mX8_init 1 192 (192, σ, nuL (L)) 0 [some (.ref 191)] [] 192 σ (nuL L)
  refine b_aload_n qX8_init_0 rfl ?_
  refine b_obj qX8_init_1 ob_X8_1.1 ob_X8_1.2.1 ob_X8_1.2.2 rfl rfl ?_
  exact b_ret qX8_init_4 rfl rfl
theorem zr_174_0 : rr 174 0 = 191 := by decide +kernel
theorem zs_192 : sh 192 = 8 := by decide +kernel
set_option maxRecDepth 20000 in
set_option maxHeartbeats 4000000 in
theorem kb_X8_init_193 {σ : St} {L : List (Nat × Nat)} : BCt mX8_init 1 [.ref 192] 193 σ (nuL L) (193, σ, nuL (L)) := by
  refine BCt.ofE (by decide +kernel) rfl rfl ⟨Nat.le_of_ble_eq_true rfl, Nat.le_of_ble_eq_true rfl⟩ ?_
  show BE mX8_init 1 193 (193, σ, nuL (L)) 0 [some (.ref 192)] [] 193 σ (nuL L)
  refine b_aload_n qX8_init_0 rfl ?_
  refine b_obj qX8_init_1 ob_X8_1.1 ob_X8_1.2.1 ob_X8_1.2.2 rfl rfl ?_
  exact b_ret qX8_init_4 rfl rfl
theorem zr_174_1 : rr 174 1 = 192 := by decide +kernel
theorem zs_193 : sh 193 = 8 := by decide +kernel
set_option maxRecDepth 20000 in
set_option maxHeartbeats 4000000 in
theorem kb_X8_init_194 {σ : St} {L : List (Nat × Nat)} : BCt mX8_init 1 [.ref 193] 194 σ (nuL L) (194, σ, nuL (L)) := by
  refine BCt.ofE (by decide +kernel) rfl rfl ⟨Nat.le_of_ble_eq_true rfl, Nat.le_of_ble_eq_true rfl⟩ ?_
  show BE mX8_init 1 194 (194, σ, nuL (L)) 0 [some (.ref 193)] [] 194 σ (nuL L)
  refine b_aload_n qX8_init_0 rfl ?_
  refine b_obj qX8_init_1 ob_X8_1.1 ob_X8_1.2.1 ob_X8_1.2.2 rfl rfl ?_
  exact b_ret qX8_init_4 rfl rfl
theorem zr_174_2 : rr 174 2 = 193 := by decide +kernel
theorem zs_194 : sh 194 = 8 := by decide +kernel
set_option maxRecDepth 20000 in
set_option maxHeartbeats 4000000 in
theorem kb_X8_init_195 {σ : St} {L : List (Nat × Nat)} : BCt mX8_init 1 [.ref 194] 195 σ (nuL L) (195, σ, nuL (L)) := by
  refine BCt.ofE (by decide +kernel) rfl rfl ⟨Nat.le_of_ble_eq_true rfl, Nat.le_of_ble_eq_true rfl⟩ ?_
  show BE mX8_init 1 195 (195, σ, nuL (L)) 0 [some (.ref 194)] [] 195 σ (nuL L)
  refine b_aload_n qX8_init_0 rfl ?_
  refine b_obj qX8_init_1 ob_X8_1.1 ob_X8_1.2.1 ob_X8_1.2.2 rfl rfl ?_
  exact b_ret qX8_init_4 rfl rfl
theorem zr_174_3 : rr 174 3 = 194 := by decide +kernel
set_option maxRecDepth 20000 in
set_option maxHeartbeats 4000000 in
theorem kb_X1_init_173 {σ : St} {L : List (Nat × Nat)} : BCt mX1_init 2 [.ref 172] 173 σ (nuL L) (195, sI (σ) 172 4 (nI 30), nuL ((174, 3) :: (174, 2) :: (174, 1) :: (174, 0) :: (173, 7) :: (189, 11) :: (173, 6) :: (187, 11) :: (173, 5) :: (185, 11) :: (173, 4) :: (183, 11) :: (173, 3) :: (181, 11) :: (173, 2) :: (179, 11) :: (173, 1) :: (177, 11) :: (173, 0) :: (175, 11) :: (172, 1) :: (172, 0) :: L)) := by
  refine BCt.ofE (by decide +kernel) rfl rfl ⟨Nat.le_of_ble_eq_true rfl, Nat.le_of_ble_eq_true rfl⟩ ?_
  show BE mX1_init 2 173 (195, sI (σ) 172 4 (nI 30), nuL ((174, 3) :: (174, 2) :: (174, 1) :: (174, 0) :: (173, 7) :: (189, 11) :: (173, 6) :: (187, 11) :: (173, 5) :: (185, 11) :: (173, 4) :: (183, 11) :: (173, 3) :: (181, 11) :: (173, 2) :: (179, 11) :: (173, 1) :: (177, 11) :: (173, 0) :: (175, 11) :: (172, 1) :: (172, 0) :: L)) 0 [some (.ref 172), none] [] 173 σ (nuL L)
  refine b_aload_n qX1_init_0 rfl ?_
  refine b_obj qX1_init_1 ob_X1_3.1 ob_X1_3.2.1 ob_X1_3.2.2 rfl rfl ?_
  refine b_aload_n qX1_init_4 rfl ?_
  refine b_bipush (nI 8) qX1_init_5 (by decide +kernel) ?_
  refine b_anew qX1_init_7 na_X1_9 zs_173 zl_173 rfl (Nat.le_of_ble_eq_true rfl) ?_
  refine b_putrL qX1_init_10 fq_X1_11 rfl zs_172 zk_1_0 zr_172_0 (by decide) ?_
  refine b_aload_n qX1_init_13 rfl ?_
  refine b_iconst (nI 4) qX1_init_14 (by decide +kernel) ?_
  refine b_anew qX1_init_15 na_X1_17 zs_174 zl_174 rfl (Nat.le_of_ble_eq_true rfl) ?_
  refine b_putrL qX1_init_18 fq_X1_19 rfl zs_172 zk_1_1 zr_172_1 (by decide) ?_
  refine b_aload_n qX1_init_21 rfl ?_
  refine b_bipush (nI 30) qX1_init_22 (by decide +kernel) ?_
  refine b_puti qX1_init_24 fp_X1_23 zs_172 zk_1_4 (by decide) ?_
  refine b_iconst (nI 0) qX1_init_27 (by decide +kernel) ?_
  refine b_istore_n (lv2 := [some (.ref 172), some (.int (nI 0))]) qX1_init_28 rfl rfl rfl ?_
  refine b_iload_n qX1_init_29 rfl ?_
  refine b_bipush (nI 8) qX1_init_30 (by decide +kernel) ?_
  refine b_icmp_ge (tgt := 54) qX1_init_32 (by decide) (fun h => absurd h (by decide)) (fun _ => ?_)
  refine b_aload_n qX1_init_35 rfl ?_
  refine b_getr 173 qX1_init_36 fl_X1_11 zs_172 zk_1_0 (by decide) zr_172_0 rfl ?_
  refine b_iload_n qX1_init_39 rfl ?_
  refine b_new qX1_init_40 nw_X1_9 zs_175 (Nat.le_of_ble_eq_true rfl) ?_
  refine b_dup qX1_init_43 rfl ?_
  refine b_iniN0 qX1_init_44 mj_X1_27 rfl rfl kb_X4_init_176 (Nat.le_of_ble_eq_true rfl) ?_
  dsimp only
  refine b_aastL qX1_init_47 zs_173 (by decide) (fun _ => rfl) rfl zs_175 zr_173_0 zl_173 (by decide) rfl (by decide) (by decide) ?_
  refine b_iinc (1) (nI 1) (lv2 := [some (.ref 172), some (.int (nI 1))]) qX1_init_48 rfl rfl (by decide +kernel) (by decide +kernel) rfl ?_
  refine b_goto (tgt := 29) qX1_init_51 (by decide) ?_
  refine b_iload_n qX1_init_29 rfl ?_
  refine b_bipush (nI 8) qX1_init_30 (by decide +kernel) ?_
  refine b_icmp_ge (tgt := 54) qX1_init_32 (by decide) (fun h => absurd h (by decide)) (fun _ => ?_)
  refine b_aload_n qX1_init_35 rfl ?_
  refine b_getr 173 qX1_init_36 fl_X1_11 zs_172 zk_1_0 (by decide) zr_172_0 rfl ?_
  refine b_iload_n qX1_init_39 rfl ?_
  refine b_new qX1_init_40 nw_X1_9 zs_177 (Nat.le_of_ble_eq_true rfl) ?_
  refine b_dup qX1_init_43 rfl ?_
  refine b_iniN0 qX1_init_44 mj_X1_27 rfl rfl kb_X4_init_178 (Nat.le_of_ble_eq_true rfl) ?_
  dsimp only
  refine b_aastL qX1_init_47 zs_173 (by decide) (fun _ => rfl) rfl zs_177 zr_173_1 zl_173 (by decide) rfl (by decide) (by decide) ?_
  refine b_iinc (1) (nI 2) (lv2 := [some (.ref 172), some (.int (nI 2))]) qX1_init_48 rfl rfl (by decide +kernel) (by decide +kernel) rfl ?_
  refine b_goto (tgt := 29) qX1_init_51 (by decide) ?_
  refine b_iload_n qX1_init_29 rfl ?_
  refine b_bipush (nI 8) qX1_init_30 (by decide +kernel) ?_
  refine b_icmp_ge (tgt := 54) qX1_init_32 (by decide) (fun h => absurd h (by decide)) (fun _ => ?_)
  refine b_aload_n qX1_init_35 rfl ?_
  refine b_getr 173 qX1_init_36 fl_X1_11 zs_172 zk_1_0 (by decide) zr_172_0 rfl ?_
  refine b_iload_n qX1_init_39 rfl ?_
  refine b_new qX1_init_40 nw_X1_9 zs_179 (Nat.le_of_ble_eq_true rfl) ?_
  refine b_dup qX1_init_43 rfl ?_
  refine b_iniN0 qX1_init_44 mj_X1_27 rfl rfl kb_X4_init_180 (Nat.le_of_ble_eq_true rfl) ?_
  dsimp only
  refine b_aastL qX1_init_47 zs_173 (by decide) (fun _ => rfl) rfl zs_179 zr_173_2 zl_173 (by decide) rfl (by decide) (by decide) ?_
  refine b_iinc (1) (nI 3) (lv2 := [some (.ref 172), some (.int (nI 3))]) qX1_init_48 rfl rfl (by decide +kernel) (by decide +kernel) rfl ?_
  refine b_goto (tgt := 29) qX1_init_51 (by decide) ?_
  refine b_iload_n qX1_init_29 rfl ?_
  refine b_bipush (nI 8) qX1_init_30 (by decide +kernel) ?_
  refine b_icmp_ge (tgt := 54) qX1_init_32 (by decide) (fun h => absurd h (by decide)) (fun _ => ?_)
  refine b_aload_n qX1_init_35 rfl ?_
  refine b_getr 173 qX1_init_36 fl_X1_11 zs_172 zk_1_0 (by decide) zr_172_0 rfl ?_
  refine b_iload_n qX1_init_39 rfl ?_
  refine b_new qX1_init_40 nw_X1_9 zs_181 (Nat.le_of_ble_eq_true rfl) ?_
  refine b_dup qX1_init_43 rfl ?_
  refine b_iniN0 qX1_init_44 mj_X1_27 rfl rfl kb_X4_init_182 (Nat.le_of_ble_eq_true rfl) ?_
  dsimp only
  refine b_aastL qX1_init_47 zs_173 (by decide) (fun _ => rfl) rfl zs_181 zr_173_3 zl_173 (by decide) rfl (by decide) (by decide) ?_
  refine b_iinc (1) (nI 4) (lv2 := [some (.ref 172), some (.int (nI 4))]) qX1_init_48 rfl rfl (by decide +kernel) (by decide +kernel) rfl ?_
  refine b_goto (tgt := 29) qX1_init_51 (by decide) ?_
  refine b_iload_n qX1_init_29 rfl ?_
  refine b_bipush (nI 8) qX1_init_30 (by decide +kernel) ?_
  refine b_icmp_ge (tgt := 54) qX1_init_32 (by decide) (fun h => absurd h (by decide)) (fun _ => ?_)
  refine b_aload_n qX1_init_35 rfl ?_
  refine b_getr 173 qX1_init_36 fl_X1_11 zs_172 zk_1_0 (by decide) zr_172_0 rfl ?_
  refine b_iload_n qX1_init_39 rfl ?_
  refine b_new qX1_init_40 nw_X1_9 zs_183 (Nat.le_of_ble_eq_true rfl) ?_
  refine b_dup qX1_init_43 rfl ?_
  refine b_iniN0 qX1_init_44 mj_X1_27 rfl rfl kb_X4_init_184 (Nat.le_of_ble_eq_true rfl) ?_
  dsimp only
  refine b_aastL qX1_init_47 zs_173 (by decide) (fun _ => rfl) rfl zs_183 zr_173_4 zl_173 (by decide) rfl (by decide) (by decide) ?_
  refine b_iinc (1) (nI 5) (lv2 := [some (.ref 172), some (.int (nI 5))]) qX1_init_48 rfl rfl (by decide +kernel) (by decide +kernel) rfl ?_
  refine b_goto (tgt := 29) qX1_init_51 (by decide) ?_
  refine b_iload_n qX1_init_29 rfl ?_
  refine b_bipush (nI 8) qX1_init_30 (by decide +kernel) ?_
  refine b_icmp_ge (tgt := 54) qX1_init_32 (by decide) (fun h => absurd h (by decide)) (fun _ => ?_)
  refine b_aload_n qX1_init_35 rfl ?_
  refine b_getr 173 qX1_init_36 fl_X1_11 zs_172 zk_1_0 (by decide) zr_172_0 rfl ?_
  refine b_iload_n qX1_init_39 rfl ?_
  refine b_new qX1_init_40 nw_X1_9 zs_185 (Nat.le_of_ble_eq_true rfl) ?_
  refine b_dup qX1_init_43 rfl ?_
  refine b_iniN0 qX1_init_44 mj_X1_27 rfl rfl kb_X4_init_186 (Nat.le_of_ble_eq_true rfl) ?_
  dsimp only
  refine b_aastL qX1_init_47 zs_173 (by decide) (fun _ => rfl) rfl zs_185 zr_173_5 zl_173 (by decide) rfl (by decide) (by decide) ?_
  refine b_iinc (1) (nI 6) (lv2 := [some (.ref 172), some (.int (nI 6))]) qX1_init_48 rfl rfl (by decide +kernel) (by decide +kernel) rfl ?_
  refine b_goto (tgt := 29) qX1_init_51 (by decide) ?_
  refine b_iload_n qX1_init_29 rfl ?_
  refine b_bipush (nI 8) qX1_init_30 (by decide +kernel) ?_
  refine b_icmp_ge (tgt := 54) qX1_init_32 (by decide) (fun h => absurd h (by decide)) (fun _ => ?_)
  refine b_aload_n qX1_init_35 rfl ?_
  refine b_getr 173 qX1_init_36 fl_X1_11 zs_172 zk_1_0 (by decide) zr_172_0 rfl ?_
  refine b_iload_n qX1_init_39 rfl ?_
  refine b_new qX1_init_40 nw_X1_9 zs_187 (Nat.le_of_ble_eq_true rfl) ?_
  refine b_dup qX1_init_43 rfl ?_
  refine b_iniN0 qX1_init_44 mj_X1_27 rfl rfl kb_X4_init_188 (Nat.le_of_ble_eq_true rfl) ?_
  dsimp only
  refine b_aastL qX1_init_47 zs_173 (by decide) (fun _ => rfl) rfl zs_187 zr_173_6 zl_173 (by decide) rfl (by decide) (by decide) ?_
  refine b_iinc (1) (nI 7) (lv2 := [some (.ref 172), some (.int (nI 7))]) qX1_init_48 rfl rfl (by decide +kernel) (by decide +kernel) rfl ?_
  refine b_goto (tgt := 29) qX1_init_51 (by decide) ?_
  refine b_iload_n qX1_init_29 rfl ?_
  refine b_bipush (nI 8) qX1_init_30 (by decide +kernel) ?_
  refine b_icmp_ge (tgt := 54) qX1_init_32 (by decide) (fun h => absurd h (by decide)) (fun _ => ?_)
  refine b_aload_n qX1_init_35 rfl ?_
  refine b_getr 173 qX1_init_36 fl_X1_11 zs_172 zk_1_0 (by decide) zr_172_0 rfl ?_
  refine b_iload_n qX1_init_39 rfl ?_
  refine b_new qX1_init_40 nw_X1_9 zs_189 (Nat.le_of_ble_eq_true rfl) ?_
  refine b_dup qX1_init_43 rfl ?_
  refine b_iniN0 qX1_init_44 mj_X1_27 rfl rfl kb_X4_init_190 (Nat.le_of_ble_eq_true rfl) ?_
  dsimp only
  refine b_aastL qX1_init_47 zs_173 (by decide) (fun _ => rfl) rfl zs_189 zr_173_7 zl_173 (by decide) rfl (by decide) (by decide) ?_
  refine b_iinc (1) (nI 8) (lv2 := [some (.ref 172), some (.int (nI 8))]) qX1_init_48 rfl rfl (by decide +kernel) (by decide +kernel) rfl ?_
  refine b_goto (tgt := 29) qX1_init_51 (by decide) ?_
  refine b_iload_n qX1_init_29 rfl ?_
  refine b_bipush (nI 8) qX1_init_30 (by decide +kernel) ?_
  refine b_icmp_ge (tgt := 54) qX1_init_32 (by decide) (fun _ => ?_) (fun h => absurd (by decide) h)
  refine b_iconst (nI 0) qX1_init_54 (by decide +kernel) ?_
  refine b_istore_n (lv2 := [some (.ref 172), some (.int (nI 0))]) qX1_init_55 rfl rfl rfl ?_
  refine b_iload_n qX1_init_56 rfl ?_
  refine b_iconst (nI 4) qX1_init_57 (by decide +kernel) ?_
  refine b_icmp_ge (tgt := 80) qX1_init_58 (by decide) (fun h => absurd h (by decide)) (fun _ => ?_)
  refine b_aload_n qX1_init_61 rfl ?_
  refine b_getr 174 qX1_init_62 fl_X1_19 zs_172 zk_1_1 (by decide) zr_172_1 rfl ?_
  refine b_iload_n qX1_init_65 rfl ?_
  refine b_new qX1_init_66 nw_X1_17 zs_191 (Nat.le_of_ble_eq_true rfl) ?_
  refine b_dup qX1_init_69 rfl ?_
  refine b_iniN0 qX1_init_70 mj_X1_28 rfl rfl kb_X8_init_192 (Nat.le_of_ble_eq_true rfl) ?_
  dsimp only
  refine b_aastL qX1_init_73 zs_174 (by decide) (fun _ => rfl) rfl zs_191 zr_174_0 zl_174 (by decide) rfl (by decide) (by decide) ?_
  refine b_iinc (1) (nI 1) (lv2 := [some (.ref 172), some (.int (nI 1))]) qX1_init_74 rfl rfl (by decide +kernel) (by decide +kernel) rfl ?_
  refine b_goto (tgt := 56) qX1_init_77 (by decide) ?_
  refine b_iload_n qX1_init_56 rfl ?_
  refine b_iconst (nI 4) qX1_init_57 (by decide +kernel) ?_
  refine b_icmp_ge (tgt := 80) qX1_init_58 (by decide) (fun h => absurd h (by decide)) (fun _ => ?_)
  refine b_aload_n qX1_init_61 rfl ?_
  refine b_getr 174 qX1_init_62 fl_X1_19 zs_172 zk_1_1 (by decide) zr_172_1 rfl ?_
  refine b_iload_n qX1_init_65 rfl ?_
  refine b_new qX1_init_66 nw_X1_17 zs_192 (Nat.le_of_ble_eq_true rfl) ?_
  refine b_dup qX1_init_69 rfl ?_
  refine b_iniN0 qX1_init_70 mj_X1_28 rfl rfl kb_X8_init_193 (Nat.le_of_ble_eq_true rfl) ?_
  dsimp only
  refine b_aastL qX1_init_73 zs_174 (by decide) (fun _ => rfl) rfl zs_192 zr_174_1 zl_174 (by decide) rfl (by decide) (by decide) ?_
  refine b_iinc (1) (nI 2) (lv2 := [some (.ref 172), some (.int (nI 2))]) qX1_init_74 rfl rfl (by decide +kernel) (by decide +kernel) rfl ?_
  refine b_goto (tgt := 56) qX1_init_77 (by decide) ?_
  refine b_iload_n qX1_init_56 rfl ?_
  refine b_iconst (nI 4) qX1_init_57 (by decide +kernel) ?_
  refine b_icmp_ge (tgt := 80) qX1_init_58 (by decide) (fun h => absurd h (by decide)) (fun _ => ?_)
  refine b_aload_n qX1_init_61 rfl ?_
  refine b_getr 174 qX1_init_62 fl_X1_19 zs_172 zk_1_1 (by decide) zr_172_1 rfl ?_
  refine b_iload_n qX1_init_65 rfl ?_
  refine b_new qX1_init_66 nw_X1_17 zs_193 (Nat.le_of_ble_eq_true rfl) ?_
  refine b_dup qX1_init_69 rfl ?_
  refine b_iniN0 qX1_init_70 mj_X1_28 rfl rfl kb_X8_init_194 (Nat.le_of_ble_eq_true rfl) ?_
  dsimp only
  refine b_aastL qX1_init_73 zs_174 (by decide) (fun _ => rfl) rfl zs_193 zr_174_2 zl_174 (by decide) rfl (by decide) (by decide) ?_
  refine b_iinc (1) (nI 3) (lv2 := [some (.ref 172), some (.int (nI 3))]) qX1_init_74 rfl rfl (by decide +kernel) (by decide +kernel) rfl ?_
  refine b_goto (tgt := 56) qX1_init_77 (by decide) ?_
  refine b_iload_n qX1_init_56 rfl ?_
  refine b_iconst (nI 4) qX1_init_57 (by decide +kernel) ?_
  refine b_icmp_ge (tgt := 80) qX1_init_58 (by decide) (fun h => absurd h (by decide)) (fun _ => ?_)
  refine b_aload_n qX1_init_61 rfl ?_
  refine b_getr 174 qX1_init_62 fl_X1_19 zs_172 zk_1_1 (by decide) zr_172_1 rfl ?_
  refine b_iload_n qX1_init_65 rfl ?_
  refine b_new qX1_init_66 nw_X1_17 zs_194 (Nat.le_of_ble_eq_true rfl) ?_
  refine b_dup qX1_init_69 rfl ?_
  refine b_iniN0 qX1_init_70 mj_X1_28 rfl rfl kb_X8_init_195 (Nat.le_of_ble_eq_true rfl) ?_
  dsimp only
  refine b_aastL qX1_init_73 zs_174 (by decide) (fun _ => rfl) rfl zs_194 zr_174_3 zl_174 (by decide) rfl (by decide) (by decide) ?_
  refine b_iinc (1) (nI 4) (lv2 := [some (.ref 172), some (.int (nI 4))]) qX1_init_74 rfl rfl (by decide +kernel) (by decide +kernel) rfl ?_
  refine b_goto (tgt := 56) qX1_init_77 (by decide) ?_
  refine b_iload_n qX1_init_56 rfl ?_
  refine b_iconst (nI 4) qX1_init_57 (by decide +kernel) ?_
  refine b_icmp_ge (tgt := 80) qX1_init_58 (by decide) (fun _ => ?_) (fun h => absurd (by decide) h)
  exact b_ret qX1_init_80 rfl rfl
theorem zr_171_0 : rr 171 0 = 172 := by decide +kernel
theorem zs_195 : sh 195 = 7 := by decide +kernel
theorem zs_196 : sh 196 = 20 := by decide +kernel
theorem zl_196 : ln 196 = 40 := by decide +kernel
theorem zr_195_2 : rr 195 2 = 196 := by decide +kernel
theorem zs_197 : sh 197 = 20 := by decide +kernel
theorem zl_197 : ln 197 = 40 := by decide +kernel
theorem zr_195_3 : rr 195 3 = 197 := by decide +kernel
theorem zs_198 : sh 198 = 20 := by decide +kernel
theorem zl_198 : ln 198 = 40 := by decide +kernel
theorem zr_195_4 : rr 195 4 = 198 := by decide +kernel
theorem zs_199 : sh 199 = 20 := by decide +kernel
theorem zl_199 : ln 199 = 40 := by decide +kernel
theorem zr_195_5 : rr 195 5 = 199 := by decide +kernel
set_option maxRecDepth 20000 in
set_option maxHeartbeats 4000000 in
theorem kb_X7_init_196 {σ : St} {L : List (Nat × Nat)} : BCt mX7_init 1 [.ref 195] 196 σ (nuL L) (200, σ, nuL ((195, 5) :: (195, 4) :: (195, 3) :: (195, 2) :: L)) := by
  refine BCt.ofE (by decide +kernel) rfl rfl ⟨Nat.le_of_ble_eq_true rfl, Nat.le_of_ble_eq_true rfl⟩ ?_
  show BE mX7_init 1 196 (200, σ, nuL ((195, 5) :: (195, 4) :: (195, 3) :: (195, 2) :: L)) 0 [some (.ref 195)] [] 196 σ (nuL L)
  refine b_aload_n qX7_init_0 rfl ?_
  refine b_obj qX7_init_1 ob_X7_3.1 ob_X7_3.2.1 ob_X7_3.2.2 rfl rfl ?_
  refine b_aload_n qX7_init_4 rfl ?_
  refine b_bipush (nI 40) qX7_init_5 (by decide +kernel) ?_
  refine b_newaI qX7_init_7 ar_int zs_196 zl_196 rfl (Nat.le_of_ble_eq_true rfl) ?_
  refine b_putrL qX7_init_9 fq_X7_11 rfl zs_195 zk_7_2 zr_195_2 (by decide) ?_
  refine b_aload_n qX7_init_12 rfl ?_
  refine b_bipush (nI 40) qX7_init_13 (by decide +kernel) ?_
  refine b_newaI qX7_init_15 ar_int zs_197 zl_197 rfl (Nat.le_of_ble_eq_true rfl) ?_
  refine b_putrL qX7_init_17 fq_X7_15 rfl zs_195 zk_7_3 zr_195_3 (by decide) ?_
  refine b_aload_n qX7_init_20 rfl ?_
  refine b_bipush (nI 40) qX7_init_21 (by decide +kernel) ?_
  refine b_newaI qX7_init_23 ar_int zs_198 zl_198 rfl (Nat.le_of_ble_eq_true rfl) ?_
  refine b_putrL qX7_init_25 fq_X7_18 rfl zs_195 zk_7_4 zr_195_4 (by decide) ?_
  refine b_aload_n qX7_init_28 rfl ?_
  refine b_bipush (nI 40) qX7_init_29 (by decide +kernel) ?_
  refine b_newaI qX7_init_31 ar_int zs_199 zl_199 rfl (Nat.le_of_ble_eq_true rfl) ?_
  refine b_putrL qX7_init_33 fq_X7_21 rfl zs_195 zk_7_5 zr_195_5 (by decide) ?_
  exact b_ret qX7_init_36 rfl rfl
theorem zr_171_2 : rr 171 2 = 195 := by decide +kernel
theorem zs_200 : sh 200 = 6 := by decide +kernel
theorem zs_201 : sh 201 = 20 := by decide +kernel
theorem zl_201 : ln 201 = 8 := by decide +kernel
theorem zr_200_4 : rr 200 4 = 201 := by decide +kernel
theorem zs_202 : sh 202 = 20 := by decide +kernel
theorem zl_202 : ln 202 = 8 := by decide +kernel
theorem zr_200_5 : rr 200 5 = 202 := by decide +kernel
theorem zs_203 : sh 203 = 20 := by decide +kernel
theorem zl_203 : ln 203 = 4 := by decide +kernel
theorem zr_200_6 : rr 200 6 = 203 := by decide +kernel
theorem zs_204 : sh 204 = 20 := by decide +kernel
theorem zl_204 : ln 204 = 4 := by decide +kernel
theorem zr_200_7 : rr 200 7 = 204 := by decide +kernel
theorem zs_205 : sh 205 = 20 := by decide +kernel
theorem zl_205 : ln 205 = 4 := by decide +kernel
theorem zr_200_8 : rr 200 8 = 205 := by decide +kernel
theorem zr_200_0 : rr 200 0 = 3 := by decide +kernel
set_option maxRecDepth 20000 in
set_option maxHeartbeats 4000000 in
theorem kb_X6_init_201 {σ : St} {L : List (Nat × Nat)} : BCt mX6_init 1 [.ref 200, .ref 3] 201 σ (nuL L) (206, σ, nuL ((200, 0) :: (200, 8) :: (200, 7) :: (200, 6) :: (200, 5) :: (200, 4) :: L)) := by
  refine BCt.ofE (by decide +kernel) rfl rfl ⟨Nat.le_of_ble_eq_true rfl, Nat.le_of_ble_eq_true rfl⟩ ?_
  show BE mX6_init 1 201 (206, σ, nuL ((200, 0) :: (200, 8) :: (200, 7) :: (200, 6) :: (200, 5) :: (200, 4) :: L)) 0 [some (.ref 200), some (.ref 3)] [] 201 σ (nuL L)
  refine b_aload_n qX6_init_0 rfl ?_
  refine b_obj qX6_init_1 ob_X6_3.1 ob_X6_3.2.1 ob_X6_3.2.2 rfl rfl ?_
  refine b_aload_n qX6_init_4 rfl ?_
  refine b_bipush (nI 8) qX6_init_5 (by decide +kernel) ?_
  refine b_newaI qX6_init_7 ar_int zs_201 zl_201 rfl (Nat.le_of_ble_eq_true rfl) ?_
  refine b_putrL qX6_init_9 fq_X6_9 rfl zs_200 zk_6_4 zr_200_4 (by decide) ?_
  refine b_aload_n qX6_init_12 rfl ?_
  refine b_bipush (nI 8) qX6_init_13 (by decide +kernel) ?_
  refine b_newaI qX6_init_15 ar_int zs_202 zl_202 rfl (Nat.le_of_ble_eq_true rfl) ?_
  refine b_putrL qX6_init_17 fq_X6_15 rfl zs_200 zk_6_5 zr_200_5 (by decide) ?_
  refine b_aload_n qX6_init_20 rfl ?_
  refine b_iconst (nI 4) qX6_init_21 (by decide +kernel) ?_
  refine b_newaI qX6_init_22 ar_int zs_203 zl_203 rfl (Nat.le_of_ble_eq_true rfl) ?_
  refine b_putrL qX6_init_24 fq_X6_18 rfl zs_200 zk_6_6 zr_200_6 (by decide) ?_
  refine b_aload_n qX6_init_27 rfl ?_
  refine b_iconst (nI 4) qX6_init_28 (by decide +kernel) ?_
  refine b_newaI qX6_init_29 ar_int zs_204 zl_204 rfl (Nat.le_of_ble_eq_true rfl) ?_
  refine b_putrL qX6_init_31 fq_X6_21 rfl zs_200 zk_6_7 zr_200_7 (by decide) ?_
  refine b_aload_n qX6_init_34 rfl ?_
  refine b_iconst (nI 4) qX6_init_35 (by decide +kernel) ?_
  refine b_newaI qX6_init_36 ar_int zs_205 zl_205 rfl (Nat.le_of_ble_eq_true rfl) ?_
  refine b_putrL qX6_init_38 fq_X6_24 rfl zs_200 zk_6_8 zr_200_8 (by decide) ?_
  refine b_aload_n qX6_init_41 rfl ?_
  refine b_aload_n qX6_init_42 rfl ?_
  refine b_putrL qX6_init_43 fq_X6_27 rfl zs_200 zk_6_0 zr_200_0 (by decide) ?_
  exact b_ret qX6_init_46 rfl rfl
theorem zr_171_1 : rr 171 1 = 200 := by decide +kernel
set_option maxRecDepth 20000 in
set_option maxHeartbeats 4000000 in
theorem kb_X3_init_172 {σ : St} {L : List (Nat × Nat)} : BCt mX3_init 3 [.ref 171, .ref 3] 172 σ (nuL L) (206, sI (σ) 172 4 (nI 30), nuL ((171, 1) :: (200, 0) :: (200, 8) :: (200, 7) :: (200, 6) :: (200, 5) :: (200, 4) :: (171, 2) :: (195, 5) :: (195, 4) :: (195, 3) :: (195, 2) :: (171, 0) :: (174, 3) :: (174, 2) :: (174, 1) :: (174, 0) :: (173, 7) :: (189, 11) :: (173, 6) :: (187, 11) :: (173, 5) :: (185, 11) :: (173, 4) :: (183, 11) :: (173, 3) :: (181, 11) :: (173, 2) :: (179, 11) :: (173, 1) :: (177, 11) :: (173, 0) :: (175, 11) :: (172, 1) :: (172, 0) :: L)) := by
  refine BCt.ofE (by decide +kernel) rfl rfl ⟨Nat.le_of_ble_eq_true rfl, Nat.le_of_ble_eq_true rfl⟩ ?_
  show BE mX3_init 3 172 (206, sI (σ) 172 4 (nI 30), nuL ((171, 1) :: (200, 0) :: (200, 8) :: (200, 7) :: (200, 6) :: (200, 5) :: (200, 4) :: (171, 2) :: (195, 5) :: (195, 4) :: (195, 3) :: (195, 2) :: (171, 0) :: (174, 3) :: (174, 2) :: (174, 1) :: (174, 0) :: (173, 7) :: (189, 11) :: (173, 6) :: (187, 11) :: (173, 5) :: (185, 11) :: (173, 4) :: (183, 11) :: (173, 3) :: (181, 11) :: (173, 2) :: (179, 11) :: (173, 1) :: (177, 11) :: (173, 0) :: (175, 11) :: (172, 1) :: (172, 0) :: L)) 0 [some (.ref 171), some (.ref 3)] [] 172 σ (nuL L)
  refine b_aload_n qX3_init_0 rfl ?_
  refine b_obj qX3_init_1 ob_X3_1.1 ob_X3_1.2.1 ob_X3_1.2.2 rfl rfl ?_
  refine b_aload_n qX3_init_4 rfl ?_
  refine b_new qX3_init_5 nw_X3_7 zs_172 (Nat.le_of_ble_eq_true rfl) ?_
  refine b_dup qX3_init_8 rfl ?_
  refine b_iniP0 qX3_init_9 mi_X3_9 rfl rfl kb_X1_init_173 (Nat.le_of_ble_eq_true rfl) ?_
  dsimp only
  refine b_putrL qX3_init_12 fq_X3_10 rfl zs_171 zk_3_0 zr_171_0 (by decide) ?_
  refine b_aload_n qX3_init_15 rfl ?_
  refine b_new qX3_init_16 nw_X3_16 zs_195 (Nat.le_of_ble_eq_true rfl) ?_
  refine b_dup qX3_init_19 rfl ?_
  refine b_iniN0 qX3_init_20 mj_X3_18 rfl rfl kb_X7_init_196 (Nat.le_of_ble_eq_true rfl) ?_
  dsimp only
  refine b_putrL qX3_init_23 fq_X3_19 rfl zs_171 zk_3_2 zr_171_2 (by decide) ?_
  refine b_aload_n qX3_init_26 rfl ?_
  refine b_new qX3_init_27 nw_X3_23 zs_200 (Nat.le_of_ble_eq_true rfl) ?_
  refine b_dup qX3_init_30 rfl ?_
  refine b_aload_n qX3_init_31 rfl ?_
  refine b_iniP1 qX3_init_32 mi_X3_25 rfl rfl kb_X6_init_201 (Nat.le_of_ble_eq_true rfl) ?_
  dsimp only
  refine b_putrL qX3_init_35 fq_X3_28 rfl zs_171 zk_3_1 zr_171_1 (by decide) ?_
  exact b_ret qX3_init_38 rfl rfl
theorem zr_132_1 : rr 132 1 = 171 := by decide +kernel
theorem qX11_init_223 : Dc mX11_init 223 (.iconst 0) 1 224 := ⟨by decide +kernel, rfl⟩
theorem qX11_init_224 : Dc mX11_init 224 (.istore_n 1) 1 225 := ⟨by decide +kernel, rfl⟩
theorem qX11_init_225 : Dc mX11_init 225 (.iload_n 1) 1 226 := ⟨by decide +kernel, rfl⟩
theorem qX11_init_226 : Dc mX11_init 226 (.bipush 8) 2 228 := ⟨by decide +kernel, rfl⟩
theorem qX11_init_228 : Dc mX11_init 228 (.if_icmp .ge 16) 3 231 := ⟨by decide +kernel, rfl⟩
theorem qX11_init_231 : Dc mX11_init 231 (.aload_n 0) 1 232 := ⟨by decide +kernel, rfl⟩
theorem qX11_init_232 : Dc mX11_init 232 (.getfield 75) 3 235 := ⟨by decide +kernel, rfl⟩
theorem qX11_init_235 : Dc mX11_init 235 (.iload_n 1) 1 236 := ⟨by decide +kernel, rfl⟩
theorem qX11_init_236 : Dc mX11_init 236 (.iconst (-1)) 1 237 := ⟨by decide +kernel, rfl⟩
theorem qX11_init_237 : Dc mX11_init 237 (.iastore) 1 238 := ⟨by decide +kernel, rfl⟩
theorem qX11_init_238 : Dc mX11_init 238 (.iinc 1 1) 3 241 := ⟨by decide +kernel, rfl⟩
theorem qX11_init_241 : Dc mX11_init 241 (.goto (-16)) 3 244 := ⟨by decide +kernel, rfl⟩
theorem qX11_init_244 : Dc mX11_init 244 (.aload_n 0) 1 245 := ⟨by decide +kernel, rfl⟩
theorem qX11_init_245 : Dc mX11_init 245 (.getfield 31) 3 248 := ⟨by decide +kernel, rfl⟩
theorem qX11_init_248 : Dc mX11_init 248 (.invokevirtual 99) 3 251 := ⟨by decide +kernel, rfl⟩
theorem qX11_init_251 : Dc mX11_init 251 (.return_) 1 252 := ⟨by decide +kernel, rfl⟩
set_option maxRecDepth 20000 in
set_option maxHeartbeats 4000000 in
theorem kb_X11_init {σ : St} {L : List (Nat × Nat)} (h1 : σ.1 3 2 = nI 0) (h2 : σ.1 3 3 = nI 0) : BCt mX11_init 4 [.ref 0] 1 σ (nuL L) (206, sI (sI (sI ((sI (sI (sI (sI (sI (sI (sI (sI (sI ((sI ((sI (sI (sI (sI (sI (sI (sI (sI (sI ((sI (σ) 3 4 (nI 30))) 26 4 (nI 30)) 134 0 (-1)) 134 1 (-1)) 134 2 (-1)) 134 3 (-1)) 0 16 (-1)) 0 17 (-1)) 0 18 (-1)) 0 19 (-1))) 137 4 (nI 30))) 172 4 (nI 30)) 133 0 (-1)) 133 1 (-1)) 133 2 (-1)) 133 3 (-1)) 133 4 (-1)) 133 5 (-1)) 133 6 (-1)) 133 7 (-1))) 49 1 (nI 0)) 49 2 ((sI ((sI (sI (sI (sI (sI (sI (sI (sI (sI ((sI ((sI (sI (sI (sI (sI (sI (sI (sI (sI ((sI (σ) 3 4 (nI 30))) 26 4 (nI 30)) 134 0 (-1)) 134 1 (-1)) 134 2 (-1)) 134 3 (-1)) 0 16 (-1)) 0 17 (-1)) 0 18 (-1)) 0 19 (-1))) 137 4 (nI 30))) 172 4 (nI 30)) 133 0 (-1)) 133 1 (-1)) 133 2 (-1)) 133 3 (-1)) 133 4 (-1)) 133 5 (-1)) 133 6 (-1)) 133 7 (-1))) 49 1 (nI 0)).1 3 4)) 49 3 (nI 0), nuL ((132, 1) :: (171, 1) :: (200, 0) :: (200, 8) :: (200, 7) :: (200, 6) :: (200, 5) :: (200, 4) :: (171, 2) :: (195, 5) :: (195, 4) :: (195, 3) :: (195, 2) :: (171, 0) :: (174, 3) :: (174, 2) :: (174, 1) :: (174, 0) :: (173, 7) :: (189, 11) :: (173, 6) :: (187, 11) :: (173, 5) :: (185, 11) :: (173, 4) :: (183, 11) :: (173, 3) :: (181, 11) :: (173, 2) :: (179, 11) :: (173, 1) :: (177, 11) :: (173, 0) :: (175, 11) :: (172, 1) :: (172, 0) :: (132, 0) :: (136, 1) :: (165, 0) :: (165, 8) :: (165, 7) :: (165, 6) :: (165, 5) :: (165, 4) :: (136, 2) :: (160, 5) :: (160, 4) :: (160, 3) :: (160, 2) :: (136, 0) :: (139, 3) :: (139, 2) :: (139, 1) :: (139, 0) :: (138, 7) :: (154, 11) :: (138, 6) :: (152, 11) :: (138, 5) :: (150, 11) :: (138, 4) :: (148, 11) :: (138, 3) :: (146, 11) :: (138, 2) :: (144, 11) :: (138, 1) :: (142, 11) :: (138, 0) :: (140, 11) :: (137, 1) :: (137, 0) :: (0, 13) :: (0, 12) :: (0, 11) :: (0, 10) :: (0, 9) :: (0, 8) :: (76, 8) :: (125, 0) :: (125, 8) :: (125, 7) :: (125, 6) :: (125, 5) :: (125, 4) :: (76, 7) :: (119, 0) :: (119, 8) :: (119, 7) :: (119, 6) :: (119, 5) :: (119, 4) :: (76, 6) :: (113, 0) :: (113, 8) :: (113, 7) :: (113, 6) :: (113, 5) :: (113, 4) :: (76, 5) :: (107, 0) :: (107, 8) :: (107, 7) :: (107, 6) :: (107, 5) :: (107, 4) :: (76, 4) :: (101, 0) :: (101, 8) :: (101, 7) :: (101, 6) :: (101, 5) :: (101, 4) :: (76, 3) :: (95, 0) :: (95, 8) :: (95, 7) :: (95, 6) :: (95, 5) :: (95, 4) :: (76, 2) :: (89, 0) :: (89, 8) :: (89, 7) :: (89, 6) :: (89, 5) :: (89, 4) :: (76, 1) :: (83, 0) :: (83, 8) :: (83, 7) :: (83, 6) :: (83, 5) :: (83, 4) :: (76, 0) :: (77, 0) :: (77, 8) :: (77, 7) :: (77, 6) :: (77, 5) :: (77, 4) :: (75, 0) :: (0, 7) :: (71, 2) :: (71, 1) :: (71, 0) :: (0, 6) :: (66, 5) :: (66, 4) :: (66, 3) :: (66, 2) :: (0, 5) :: (61, 5) :: (61, 4) :: (61, 3) :: (61, 2) :: (0, 4) :: (55, 0) :: (55, 8) :: (55, 7) :: (55, 6) :: (55, 5) :: (55, 4) :: (0, 3) :: (49, 0) :: (49, 8) :: (49, 7) :: (49, 6) :: (49, 5) :: (49, 4) :: (0, 2) :: (28, 3) :: (28, 2) :: (28, 1) :: (28, 0) :: (27, 7) :: (43, 11) :: (27, 6) :: (41, 11) :: (27, 5) :: (39, 11) :: (27, 4) :: (37, 11) :: (27, 3) :: (35, 11) :: (27, 2) :: (33, 11) :: (27, 1) :: (31, 11) :: (27, 0) :: (29, 11) :: (26, 1) :: (26, 0) :: (0, 1) :: (5, 3) :: (5, 2) :: (5, 1) :: (5, 0) :: (4, 7) :: (20, 11) :: (4, 6) :: (18, 11) :: (4, 5) :: (16, 11) :: (4, 4) :: (14, 11) :: (4, 3) :: (12, 11) :: (4, 2) :: (10, 11) :: (4, 1) :: (8, 11) :: (4, 0) :: (6, 11) :: (3, 1) :: (3, 0) :: (0, 0) :: (1, 0) :: L)) := by
  refine BCt.ofE (by decide +kernel) rfl rfl ⟨Nat.le_of_ble_eq_true rfl, Nat.le_of_ble_eq_true rfl⟩ ?_
  show BE mX11_init 4 1 (206, sI (sI (sI ((sI (sI (sI (sI (sI (sI (sI (sI (sI ((sI ((sI (sI (sI (sI (sI (sI (sI (sI (sI ((sI (σ) 3 4 (nI 30))) 26 4 (nI 30)) 134 0 (-1)) 134 1 (-1)) 134 2 (-1)) 134 3 (-1)) 0 16 (-1)) 0 17 (-1)) 0 18 (-1)) 0 19 (-1))) 137 4 (nI 30))) 172 4 (nI 30)) 133 0 (-1)) 133 1 (-1)) 133 2 (-1)) 133 3 (-1)) 133 4 (-1)) 133 5 (-1)) 133 6 (-1)) 133 7 (-1))) 49 1 (nI 0)) 49 2 ((sI ((sI (sI (sI (sI (sI (sI (sI (sI (sI ((sI ((sI (sI (sI (sI (sI (sI (sI (sI (sI ((sI (σ) 3 4 (nI 30))) 26 4 (nI 30)) 134 0 (-1)) 134 1 (-1)) 134 2 (-1)) 134 3 (-1)) 0 16 (-1)) 0 17 (-1)) 0 18 (-1)) 0 19 (-1))) 137 4 (nI 30))) 172 4 (nI 30)) 133 0 (-1)) 133 1 (-1)) 133 2 (-1)) 133 3 (-1)) 133 4 (-1)) 133 5 (-1)) 133 6 (-1)) 133 7 (-1))) 49 1 (nI 0)).1 3 4)) 49 3 (nI 0), nuL ((132, 1) :: (171, 1) :: (200, 0) :: (200, 8) :: (200, 7) :: (200, 6) :: (200, 5) :: (200, 4) :: (171, 2) :: (195, 5) :: (195, 4) :: (195, 3) :: (195, 2) :: (171, 0) :: (174, 3) :: (174, 2) :: (174, 1) :: (174, 0) :: (173, 7) :: (189, 11) :: (173, 6) :: (187, 11) :: (173, 5) :: (185, 11) :: (173, 4) :: (183, 11) :: (173, 3) :: (181, 11) :: (173, 2) :: (179, 11) :: (173, 1) :: (177, 11) :: (173, 0) :: (175, 11) :: (172, 1) :: (172, 0) :: (132, 0) :: (136, 1) :: (165, 0) :: (165, 8) :: (165, 7) :: (165, 6) :: (165, 5) :: (165, 4) :: (136, 2) :: (160, 5) :: (160, 4) :: (160, 3) :: (160, 2) :: (136, 0) :: (139, 3) :: (139, 2) :: (139, 1) :: (139, 0) :: (138, 7) :: (154, 11) :: (138, 6) :: (152, 11) :: (138, 5) :: (150, 11) :: (138, 4) :: (148, 11) :: (138, 3) :: (146, 11) :: (138, 2) :: (144, 11) :: (138, 1) :: (142, 11) :: (138, 0) :: (140, 11) :: (137, 1) :: (137, 0) :: (0, 13) :: (0, 12) :: (0, 11) :: (0, 10) :: (0, 9) :: (0, 8) :: (76, 8) :: (125, 0) :: (125, 8) :: (125, 7) :: (125, 6) :: (125, 5) :: (125, 4) :: (76, 7) :: (119, 0) :: (119, 8) :: (119, 7) :: (119, 6) :: (119, 5) :: (119, 4) :: (76, 6) :: (113, 0) :: (113, 8) :: (113, 7) :: (113, 6) :: (113, 5) :: (113, 4) :: (76, 5) :: (107, 0) :: (107, 8) :: (107, 7) :: (107, 6) :: (107, 5) :: (107, 4) :: (76, 4) :: (101, 0) :: (101, 8) :: (101, 7) :: (101, 6) :: (101, 5) :: (101, 4) :: (76, 3) :: (95, 0) :: (95, 8) :: (95, 7) :: (95, 6) :: (95, 5) :: (95, 4) :: (76, 2) :: (89, 0) :: (89, 8) :: (89, 7) :: (89, 6) :: (89, 5) :: (89, 4) :: (76, 1) :: (83, 0) :: (83, 8) :: (83, 7) :: (83, 6) :: (83, 5) :: (83, 4) :: (76, 0) :: (77, 0) :: (77, 8) :: (77, 7) :: (77, 6) :: (77, 5) :: (77, 4) :: (75, 0) :: (0, 7) :: (71, 2) :: (71, 1) :: (71, 0) :: (0, 6) :: (66, 5) :: (66, 4) :: (66, 3) :: (66, 2) :: (0, 5) :: (61, 5) :: (61, 4) :: (61, 3) :: (61, 2) :: (0, 4) :: (55, 0) :: (55, 8) :: (55, 7) :: (55, 6) :: (55, 5) :: (55, 4) :: (0, 3) :: (49, 0) :: (49, 8) :: (49, 7) :: (49, 6) :: (49, 5) :: (49, 4) :: (0, 2) :: (28, 3) :: (28, 2) :: (28, 1) :: (28, 0) :: (27, 7) :: (43, 11) :: (27, 6) :: (41, 11) :: (27, 5) :: (39, 11) :: (27, 4) :: (37, 11) :: (27, 3) :: (35, 11) :: (27, 2) :: (33, 11) :: (27, 1) :: (31, 11) :: (27, 0) :: (29, 11) :: (26, 1) :: (26, 0) :: (0, 1) :: (5, 3) :: (5, 2) :: (5, 1) :: (5, 0) :: (4, 7) :: (20, 11) :: (4, 6) :: (18, 11) :: (4, 5) :: (16, 11) :: (4, 4) :: (14, 11) :: (4, 3) :: (12, 11) :: (4, 2) :: (10, 11) :: (4, 1) :: (8, 11) :: (4, 0) :: (6, 11) :: (3, 1) :: (3, 0) :: (0, 0) :: (1, 0) :: L)) 0 [some (.ref 0), none] [] 1 σ (nuL L)
  refine b_aload_n qX11_init_0 rfl ?_
  refine b_obj qX11_init_1 ob_X11_3.1 ob_X11_3.2.1 ob_X11_3.2.2 rfl rfl ?_
  refine b_aload_n qX11_init_4 rfl ?_
  refine b_new qX11_init_5 nw_X11_9 zs_1 (Nat.le_of_ble_eq_true rfl) ?_
  refine b_dup qX11_init_8 rfl ?_
  refine b_iniN0 qX11_init_9 mj_X11_11 rfl rfl kb_X9_init_2 (Nat.le_of_ble_eq_true rfl) ?_
  dsimp only
  refine b_putrL qX11_init_12 fq_X11_12 rfl zs_0 zk_10_0 zr_0_0 (by decide) ?_
  refine b_aload_n qX11_init_15 rfl ?_
  refine b_new qX11_init_16 nw_X11_16 zs_3 (Nat.le_of_ble_eq_true rfl) ?_
  refine b_dup qX11_init_19 rfl ?_
  refine b_iniP0 qX11_init_20 mi_X11_18 rfl rfl kb_X1_init_4 (Nat.le_of_ble_eq_true rfl) ?_
  dsimp only
  refine b_putrL qX11_init_23 fq_X11_19 rfl zs_0 zk_10_1 zr_0_1 (by decide) ?_
  refine b_aload_n qX11_init_26 rfl ?_
  refine b_new qX11_init_27 nw_X11_16 zs_26 (Nat.le_of_ble_eq_true rfl) ?_
  refine b_dup qX11_init_30 rfl ?_
  refine b_iniP0 qX11_init_31 mi_X11_18 rfl rfl kb_X1_init_27 (Nat.le_of_ble_eq_true rfl) ?_
  dsimp only
  refine b_putrL qX11_init_34 fq_X11_23 rfl zs_0 zk_10_2 zr_0_2 (by decide) ?_
  refine b_aload_n qX11_init_37 rfl ?_
  refine b_new qX11_init_38 nw_X11_26 zs_49 (Nat.le_of_ble_eq_true rfl) ?_
  refine b_dup qX11_init_41 rfl ?_
  refine b_aload_n qX11_init_42 rfl ?_
  refine b_getr 3 qX11_init_43 fl_X11_19 zs_0 zk_10_1 (by decide) zr_0_1 rfl ?_
  refine b_iniP1 qX11_init_46 mi_X11_28 rfl rfl kb_X6_init_50 (Nat.le_of_ble_eq_true rfl) ?_
  dsimp only
  refine b_putrL qX11_init_49 fq_X11_31 rfl zs_0 zk_10_3 zr_0_3 (by decide) ?_
  refine b_aload_n qX11_init_52 rfl ?_
  refine b_new qX11_init_53 nw_X11_26 zs_55 (Nat.le_of_ble_eq_true rfl) ?_
  refine b_dup qX11_init_56 rfl ?_
  refine b_aload_n qX11_init_57 rfl ?_
  refine b_getr 3 qX11_init_58 fl_X11_19 zs_0 zk_10_1 (by decide) zr_0_1 rfl ?_
  refine b_iniP1 qX11_init_61 mi_X11_28 rfl rfl kb_X6_init_56 (Nat.le_of_ble_eq_true rfl) ?_
  dsimp only
  refine b_putrL qX11_init_64 fq_X11_35 rfl zs_0 zk_10_4 zr_0_4 (by decide) ?_
  refine b_aload_n qX11_init_67 rfl ?_
  refine b_new qX11_init_68 nw_X11_38 zs_61 (Nat.le_of_ble_eq_true rfl) ?_
  refine b_dup qX11_init_71 rfl ?_
  refine b_iniN0 qX11_init_72 mj_X11_40 rfl rfl kb_X7_init_62 (Nat.le_of_ble_eq_true rfl) ?_
  dsimp only
  refine b_putrL qX11_init_75 fq_X11_41 rfl zs_0 zk_10_5 zr_0_5 (by decide) ?_
  refine b_aload_n qX11_init_78 rfl ?_
  refine b_new qX11_init_79 nw_X11_38 zs_66 (Nat.le_of_ble_eq_true rfl) ?_
  refine b_dup qX11_init_82 rfl ?_
  refine b_iniN0 qX11_init_83 mj_X11_40 rfl rfl kb_X7_init_67 (Nat.le_of_ble_eq_true rfl) ?_
  dsimp only
  refine b_putrL qX11_init_86 fq_X11_45 rfl zs_0 zk_10_6 zr_0_6 (by decide) ?_
  refine b_aload_n qX11_init_89 rfl ?_
  refine b_new qX11_init_90 nw_X11_48 zs_71 (Nat.le_of_ble_eq_true rfl) ?_
  refine b_dup qX11_init_93 rfl ?_
  refine b_iniN0 qX11_init_94 mj_X11_50 rfl rfl kb_X0_init_72 (Nat.le_of_ble_eq_true rfl) ?_
  dsimp only
  refine b_putrL qX11_init_97 fq_X11_51 rfl zs_0 zk_10_7 zr_0_7 (by decide) ?_
  refine b_aload_n qX11_init_100 rfl ?_
  refine b_new qX11_init_101 nw_X11_55 zs_75 (Nat.le_of_ble_eq_true rfl) ?_
  refine b_dup qX11_init_104 rfl ?_
  refine b_aload_n qX11_init_105 rfl ?_
  refine b_getr 3 qX11_init_106 fl_X11_19 zs_0 zk_10_1 (by decide) zr_0_1 rfl ?_
  refine b_iniP1 qX11_init_109 mi_X11_57 rfl rfl kb_X5_init_76 (Nat.le_of_ble_eq_true rfl) ?_
  dsimp only
  refine b_putrL qX11_init_112 fq_X11_58 rfl zs_0 zk_10_8 zr_0_8 (by decide) ?_
  refine b_aload_n qX11_init_115 rfl ?_
  refine b_new qX11_init_116 nw_X11_62 zs_131 (Nat.le_of_ble_eq_true rfl) ?_
  refine b_dup qX11_init_119 rfl ?_
  refine b_iniN0 qX11_init_120 mj_X11_64 rfl rfl kb_X2_init_132 (Nat.le_of_ble_eq_true rfl) ?_
  dsimp only
  refine b_putrL qX11_init_123 fq_X11_65 rfl zs_0 zk_10_9 zr_0_9 (by decide) ?_
  refine b_aload_n qX11_init_126 rfl ?_
  refine b_iconst (nI 2) qX11_init_127 (by decide +kernel) ?_
  refine b_anew qX11_init_128 na_X11_69 zs_132 zl_132 rfl (Nat.le_of_ble_eq_true rfl) ?_
  refine b_putrL qX11_init_131 fq_X11_71 rfl zs_0 zk_10_10 zr_0_10 (by decide) ?_
  refine b_aload_n qX11_init_134 rfl ?_
  refine b_bipush (nI 8) qX11_init_135 (by decide +kernel) ?_
  refine b_newaI qX11_init_137 ar_int zs_133 zl_133 rfl (Nat.le_of_ble_eq_true rfl) ?_
  refine b_putrL qX11_init_139 fq_X11_75 rfl zs_0 zk_10_11 zr_0_11 (by decide) ?_
  refine b_aload_n qX11_init_142 rfl ?_
  refine b_iconst (nI 4) qX11_init_143 (by decide +kernel) ?_
  refine b_newaI qX11_init_144 ar_int zs_134 zl_134 rfl (Nat.le_of_ble_eq_true rfl) ?_
  refine b_dup qX11_init_146 rfl ?_
  refine b_iconst (nI 0) qX11_init_147 (by decide +kernel) ?_
  refine b_iconst (-1) qX11_init_148 (by decide +kernel) ?_
  refine b_iast qX11_init_149 zs_134 zl_134 (by decide) rfl (by decide) ?_
  refine b_dup qX11_init_150 rfl ?_
  refine b_iconst (nI 1) qX11_init_151 (by decide +kernel) ?_
  refine b_iconst (-1) qX11_init_152 (by decide +kernel) ?_
  refine b_iast qX11_init_153 zs_134 zl_134 (by decide) rfl (by decide) ?_
  refine b_dup qX11_init_154 rfl ?_
  refine b_iconst (nI 2) qX11_init_155 (by decide +kernel) ?_
  refine b_iconst (-1) qX11_init_156 (by decide +kernel) ?_
  refine b_iast qX11_init_157 zs_134 zl_134 (by decide) rfl (by decide) ?_
  refine b_dup qX11_init_158 rfl ?_
  refine b_iconst (nI 3) qX11_init_159 (by decide +kernel) ?_
  refine b_iconst (-1) qX11_init_160 (by decide +kernel) ?_
  refine b_iast qX11_init_161 zs_134 zl_134 (by decide) rfl (by decide) ?_
  refine b_putrL qX11_init_162 fq_X11_79 rfl zs_0 zk_10_12 zr_0_12 (by decide) ?_
  refine b_aload_n qX11_init_165 rfl ?_
  refine b_bipush (nI 32) qX11_init_166 (by decide +kernel) ?_
  refine b_newaI qX11_init_168 ar_int zs_135 zl_135 rfl (Nat.le_of_ble_eq_true rfl) ?_
  refine b_putrL qX11_init_170 fq_X11_82 rfl zs_0 zk_10_13 zr_0_13 (by decide) ?_
  refine b_aload_n qX11_init_173 rfl ?_
  refine b_iconst (-1) qX11_init_174 (by decide +kernel) ?_
  refine b_puti qX11_init_175 fp_X11_85 zs_0 zk_10_16 (by decide) ?_
  refine b_aload_n qX11_init_178 rfl ?_
  refine b_iconst (-1) qX11_init_179 (by decide +kernel) ?_
  refine b_puti qX11_init_180 fp_X11_89 zs_0 zk_10_17 (by decide) ?_
  refine b_aload_n qX11_init_183 rfl ?_
  refine b_iconst (-1) qX11_init_184 (by decide +kernel) ?_
  refine b_puti qX11_init_185 fp_X11_92 zs_0 zk_10_18 (by decide) ?_
  refine b_aload_n qX11_init_188 rfl ?_
  refine b_iconst (-1) qX11_init_189 (by decide +kernel) ?_
  refine b_puti qX11_init_190 fp_X11_95 zs_0 zk_10_19 (by decide) ?_
  refine b_iconst (nI 0) qX11_init_193 (by decide +kernel) ?_
  refine b_istore_n (lv2 := [some (.ref 0), some (.int (nI 0))]) qX11_init_194 rfl rfl rfl ?_
  refine b_iload_n qX11_init_195 rfl ?_
  refine b_iconst (nI 2) qX11_init_196 (by decide +kernel) ?_
  refine b_icmp_ge (tgt := 223) qX11_init_197 (by decide) (fun h => absurd h (by decide)) (fun _ => ?_)
  refine b_aload_n qX11_init_200 rfl ?_
  refine b_getr 132 qX11_init_201 fl_X11_71 zs_0 zk_10_10 (by decide) zr_0_10 rfl ?_
  refine b_iload_n qX11_init_204 rfl ?_
  refine b_new qX11_init_205 nw_X11_69 zs_136 (Nat.le_of_ble_eq_true rfl) ?_
  refine b_dup qX11_init_208 rfl ?_
  refine b_aload_n qX11_init_209 rfl ?_
  refine b_getr 3 qX11_init_210 fl_X11_19 zs_0 zk_10_1 (by decide) zr_0_1 rfl ?_
  refine b_iniP1 qX11_init_213 mi_X11_98 rfl rfl kb_X3_init_137 (Nat.le_of_ble_eq_true rfl) ?_
  dsimp only
  refine b_aastL qX11_init_216 zs_132 (by decide) (fun _ => rfl) rfl zs_136 zr_132_0 zl_132 (by decide) rfl (by decide) (by decide) ?_
  refine b_iinc (1) (nI 1) (lv2 := [some (.ref 0), some (.int (nI 1))]) qX11_init_217 rfl rfl (by decide +kernel) (by decide +kernel) rfl ?_
  refine b_goto (tgt := 195) qX11_init_220 (by decide) ?_
  refine b_iload_n qX11_init_195 rfl ?_
  refine b_iconst (nI 2) qX11_init_196 (by decide +kernel) ?_
  refine b_icmp_ge (tgt := 223) qX11_init_197 (by decide) (fun h => absurd h (by decide)) (fun _ => ?_)
  refine b_aload_n qX11_init_200 rfl ?_
  refine b_getr 132 qX11_init_201 fl_X11_71 zs_0 zk_10_10 (by decide) zr_0_10 rfl ?_
  refine b_iload_n qX11_init_204 rfl ?_
  refine b_new qX11_init_205 nw_X11_69 zs_171 (Nat.le_of_ble_eq_true rfl) ?_
  refine b_dup qX11_init_208 rfl ?_
  refine b_aload_n qX11_init_209 rfl ?_
  refine b_getr 3 qX11_init_210 fl_X11_19 zs_0 zk_10_1 (by decide) zr_0_1 rfl ?_
  refine b_iniP1 qX11_init_213 mi_X11_98 rfl rfl kb_X3_init_172 (Nat.le_of_ble_eq_true rfl) ?_
  dsimp only
  refine b_aastL qX11_init_216 zs_132 (by decide) (fun _ => rfl) rfl zs_171 zr_132_1 zl_132 (by decide) rfl (by decide) (by decide) ?_
  refine b_iinc (1) (nI 2) (lv2 := [some (.ref 0), some (.int (nI 2))]) qX11_init_217 rfl rfl (by decide +kernel) (by decide +kernel) rfl ?_
  refine b_goto (tgt := 195) qX11_init_220 (by decide) ?_
  refine b_iload_n qX11_init_195 rfl ?_
  refine b_iconst (nI 2) qX11_init_196 (by decide +kernel) ?_
  refine b_icmp_ge (tgt := 223) qX11_init_197 (by decide) (fun _ => ?_) (fun h => absurd (by decide) h)
  refine b_iconst (nI 0) qX11_init_223 (by decide +kernel) ?_
  refine b_istore_n (lv2 := [some (.ref 0), some (.int (nI 0))]) qX11_init_224 rfl rfl rfl ?_
  refine b_iload_n qX11_init_225 rfl ?_
  refine b_bipush (nI 8) qX11_init_226 (by decide +kernel) ?_
  refine b_icmp_ge (tgt := 244) qX11_init_228 (by decide) (fun h => absurd h (by decide)) (fun _ => ?_)
  refine b_aload_n qX11_init_231 rfl ?_
  refine b_getr 133 qX11_init_232 fl_X11_75 zs_0 zk_10_11 (by decide) zr_0_11 rfl ?_
  refine b_iload_n qX11_init_235 rfl ?_
  refine b_iconst (-1) qX11_init_236 (by decide +kernel) ?_
  refine b_iast qX11_init_237 zs_133 zl_133 (by decide) rfl (by decide) ?_
  refine b_iinc (1) (nI 1) (lv2 := [some (.ref 0), some (.int (nI 1))]) qX11_init_238 rfl rfl (by decide +kernel) (by decide +kernel) rfl ?_
  refine b_goto (tgt := 225) qX11_init_241 (by decide) ?_
  refine b_iload_n qX11_init_225 rfl ?_
  refine b_bipush (nI 8) qX11_init_226 (by decide +kernel) ?_
  refine b_icmp_ge (tgt := 244) qX11_init_228 (by decide) (fun h => absurd h (by decide)) (fun _ => ?_)
  refine b_aload_n qX11_init_231 rfl ?_
  refine b_getr 133 qX11_init_232 fl_X11_75 zs_0 zk_10_11 (by decide) zr_0_11 rfl ?_
  refine b_iload_n qX11_init_235 rfl ?_
  refine b_iconst (-1) qX11_init_236 (by decide +kernel) ?_
  refine b_iast qX11_init_237 zs_133 zl_133 (by decide) rfl (by decide) ?_
  refine b_iinc (1) (nI 2) (lv2 := [some (.ref 0), some (.int (nI 2))]) qX11_init_238 rfl rfl (by decide +kernel) (by decide +kernel) rfl ?_
  refine b_goto (tgt := 225) qX11_init_241 (by decide) ?_
  refine b_iload_n qX11_init_225 rfl ?_
  refine b_bipush (nI 8) qX11_init_226 (by decide +kernel) ?_
  refine b_icmp_ge (tgt := 244) qX11_init_228 (by decide) (fun h => absurd h (by decide)) (fun _ => ?_)
  refine b_aload_n qX11_init_231 rfl ?_
  refine b_getr 133 qX11_init_232 fl_X11_75 zs_0 zk_10_11 (by decide) zr_0_11 rfl ?_
  refine b_iload_n qX11_init_235 rfl ?_
  refine b_iconst (-1) qX11_init_236 (by decide +kernel) ?_
  refine b_iast qX11_init_237 zs_133 zl_133 (by decide) rfl (by decide) ?_
  refine b_iinc (1) (nI 3) (lv2 := [some (.ref 0), some (.int (nI 3))]) qX11_init_238 rfl rfl (by decide +kernel) (by decide +kernel) rfl ?_
  refine b_goto (tgt := 225) qX11_init_241 (by decide) ?_
  refine b_iload_n qX11_init_225 rfl ?_
  refine b_bipush (nI 8) qX11_init_226 (by decide +kernel) ?_
  refine b_icmp_ge (tgt := 244) qX11_init_228 (by decide) (fun h => absurd h (by decide)) (fun _ => ?_)
  refine b_aload_n qX11_init_231 rfl ?_
  refine b_getr 133 qX11_init_232 fl_X11_75 zs_0 zk_10_11 (by decide) zr_0_11 rfl ?_
  refine b_iload_n qX11_init_235 rfl ?_
  refine b_iconst (-1) qX11_init_236 (by decide +kernel) ?_
  refine b_iast qX11_init_237 zs_133 zl_133 (by decide) rfl (by decide) ?_
  refine b_iinc (1) (nI 4) (lv2 := [some (.ref 0), some (.int (nI 4))]) qX11_init_238 rfl rfl (by decide +kernel) (by decide +kernel) rfl ?_
  refine b_goto (tgt := 225) qX11_init_241 (by decide) ?_
  refine b_iload_n qX11_init_225 rfl ?_
  refine b_bipush (nI 8) qX11_init_226 (by decide +kernel) ?_
  refine b_icmp_ge (tgt := 244) qX11_init_228 (by decide) (fun h => absurd h (by decide)) (fun _ => ?_)
  refine b_aload_n qX11_init_231 rfl ?_
  refine b_getr 133 qX11_init_232 fl_X11_75 zs_0 zk_10_11 (by decide) zr_0_11 rfl ?_
  refine b_iload_n qX11_init_235 rfl ?_
  refine b_iconst (-1) qX11_init_236 (by decide +kernel) ?_
  refine b_iast qX11_init_237 zs_133 zl_133 (by decide) rfl (by decide) ?_
  refine b_iinc (1) (nI 5) (lv2 := [some (.ref 0), some (.int (nI 5))]) qX11_init_238 rfl rfl (by decide +kernel) (by decide +kernel) rfl ?_
  refine b_goto (tgt := 225) qX11_init_241 (by decide) ?_
  refine b_iload_n qX11_init_225 rfl ?_
  refine b_bipush (nI 8) qX11_init_226 (by decide +kernel) ?_
  refine b_icmp_ge (tgt := 244) qX11_init_228 (by decide) (fun h => absurd h (by decide)) (fun _ => ?_)
  refine b_aload_n qX11_init_231 rfl ?_
  refine b_getr 133 qX11_init_232 fl_X11_75 zs_0 zk_10_11 (by decide) zr_0_11 rfl ?_
  refine b_iload_n qX11_init_235 rfl ?_
  refine b_iconst (-1) qX11_init_236 (by decide +kernel) ?_
  refine b_iast qX11_init_237 zs_133 zl_133 (by decide) rfl (by decide) ?_
  refine b_iinc (1) (nI 6) (lv2 := [some (.ref 0), some (.int (nI 6))]) qX11_init_238 rfl rfl (by decide +kernel) (by decide +kernel) rfl ?_
  refine b_goto (tgt := 225) qX11_init_241 (by decide) ?_
  refine b_iload_n qX11_init_225 rfl ?_
  refine b_bipush (nI 8) qX11_init_226 (by decide +kernel) ?_
  refine b_icmp_ge (tgt := 244) qX11_init_228 (by decide) (fun h => absurd h (by decide)) (fun _ => ?_)
  refine b_aload_n qX11_init_231 rfl ?_
  refine b_getr 133 qX11_init_232 fl_X11_75 zs_0 zk_10_11 (by decide) zr_0_11 rfl ?_
  refine b_iload_n qX11_init_235 rfl ?_
  refine b_iconst (-1) qX11_init_236 (by decide +kernel) ?_
  refine b_iast qX11_init_237 zs_133 zl_133 (by decide) rfl (by decide) ?_
  refine b_iinc (1) (nI 7) (lv2 := [some (.ref 0), some (.int (nI 7))]) qX11_init_238 rfl rfl (by decide +kernel) (by decide +kernel) rfl ?_
  refine b_goto (tgt := 225) qX11_init_241 (by decide) ?_
  refine b_iload_n qX11_init_225 rfl ?_
  refine b_bipush (nI 8) qX11_init_226 (by decide +kernel) ?_
  refine b_icmp_ge (tgt := 244) qX11_init_228 (by decide) (fun h => absurd h (by decide)) (fun _ => ?_)
  refine b_aload_n qX11_init_231 rfl ?_
  refine b_getr 133 qX11_init_232 fl_X11_75 zs_0 zk_10_11 (by decide) zr_0_11 rfl ?_
  refine b_iload_n qX11_init_235 rfl ?_
  refine b_iconst (-1) qX11_init_236 (by decide +kernel) ?_
  refine b_iast qX11_init_237 zs_133 zl_133 (by decide) rfl (by decide) ?_
  refine b_iinc (1) (nI 8) (lv2 := [some (.ref 0), some (.int (nI 8))]) qX11_init_238 rfl rfl (by decide +kernel) (by decide +kernel) rfl ?_
  refine b_goto (tgt := 225) qX11_init_241 (by decide) ?_
  refine b_iload_n qX11_init_225 rfl ?_
  refine b_bipush (nI 8) qX11_init_226 (by decide +kernel) ?_
  refine b_icmp_ge (tgt := 244) qX11_init_228 (by decide) (fun _ => ?_) (fun h => absurd (by decide) h)
  refine b_aload_n qX11_init_244 rfl ?_
  refine b_getr 49 qX11_init_245 fl_X11_31 zs_0 zk_10_3 (by decide) zr_0_3 rfl ?_
  refine b_call qX11_init_248 mv_X11_99 zs_49 (by decide) rfl rfl (kb_X6_begin (h1) (h2) rfl) (Nat.le_of_ble_eq_true rfl) ?_
  dsimp only
  exact b_ret qX11_init_251 rfl rfl
