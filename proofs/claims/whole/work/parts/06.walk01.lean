def f_X0_whyWrong (x0 : Int32) (x1 : Int32) (s0 : St) : Option (Int32) :=
  if x1 = 0 then
    some (nI 0)
  else
  some (((nI 10) * x0) + x1)

theorem qX0_whyWrong_0 : Dc mX0_whyWrong 0 (.iload_n 1) 1 1 := ⟨by decide +kernel, rfl⟩
theorem qX0_whyWrong_1 : Dc mX0_whyWrong 1 (.ifCond .ne 7) 3 4 := ⟨by decide +kernel, rfl⟩
theorem qX0_whyWrong_4 : Dc mX0_whyWrong 4 (.iconst 0) 1 5 := ⟨by decide +kernel, rfl⟩
theorem qX0_whyWrong_5 : Dc mX0_whyWrong 5 (.goto 9) 3 8 := ⟨by decide +kernel, rfl⟩
theorem qX0_whyWrong_8 : Dc mX0_whyWrong 8 (.bipush 10) 2 10 := ⟨by decide +kernel, rfl⟩
theorem qX0_whyWrong_10 : Dc mX0_whyWrong 10 (.iload_n 0) 1 11 := ⟨by decide +kernel, rfl⟩
theorem qX0_whyWrong_11 : Dc mX0_whyWrong 11 (.imul) 1 12 := ⟨by decide +kernel, rfl⟩
theorem qX0_whyWrong_12 : Dc mX0_whyWrong 12 (.iload_n 1) 1 13 := ⟨by decide +kernel, rfl⟩
theorem qX0_whyWrong_13 : Dc mX0_whyWrong 13 (.iadd) 1 14 := ⟨by decide +kernel, rfl⟩
theorem qX0_whyWrong_14 : Dc mX0_whyWrong 14 (.ireturn) 1 15 := ⟨by decide +kernel, rfl⟩

set_option maxRecDepth 20000 in
set_option maxHeartbeats 4000000 in
theorem w_X0_whyWrong {x0 : Int32} {x1 : Int32} {s0 : St} {r : Int32} (h : f_X0_whyWrong x0 x1 s0 = some r) : Ct mX0_whyWrong 0 [.int x0, .int x1] s0 (some (.int r), s0) := by
  refine Ct.ofE (by decide +kernel) rfl ?_
  show E mX0_whyWrong 0 (some (.int r), s0) 0 [some (.int x0), some (.int x1)] [] s0
  unfold f_X0_whyWrong at h
  refine e_iload_n qX0_whyWrong_0 rfl ?_
  refine e_if_ne (tgt := 8) qX0_whyWrong_1 rfl h (fun _ h => ?_) (fun _ h => ?_)
  · refine e_iconst (nI 0) qX0_whyWrong_4 rfl ?_
    refine e_goto (tgt := 14) qX0_whyWrong_5 rfl ?_
    exact e_iret qX0_whyWrong_14 rfl (ret_p h)
  refine e_bipush (nI 10) qX0_whyWrong_8 rfl ?_
  refine e_iload_n qX0_whyWrong_10 rfl ?_
  refine e_imul qX0_whyWrong_11 ?_
  refine e_iload_n qX0_whyWrong_12 rfl ?_
  refine e_iadd qX0_whyWrong_13 ?_
  exact e_iret qX0_whyWrong_14 rfl (ret_p h)

def f_X1_allLights (a0 : Nat) (s0 : St) : Option (Int32) :=
  vl (s0.1 a0 2) fun v1 =>
  some (((nI 1) <<< (v1 &&& 31)) - (nI 1))

theorem qX1_allLights_0 : Dc mX1_allLights 0 (.iconst 1) 1 1 := ⟨by decide +kernel, rfl⟩
theorem qX1_allLights_1 : Dc mX1_allLights 1 (.aload_n 0) 1 2 := ⟨by decide +kernel, rfl⟩
theorem qX1_allLights_2 : Dc mX1_allLights 2 (.getfield 29) 3 5 := ⟨by decide +kernel, rfl⟩
theorem qX1_allLights_5 : Dc mX1_allLights 5 (.ishl) 1 6 := ⟨by decide +kernel, rfl⟩
theorem qX1_allLights_6 : Dc mX1_allLights 6 (.iconst 1) 1 7 := ⟨by decide +kernel, rfl⟩
theorem qX1_allLights_7 : Dc mX1_allLights 7 (.isub) 1 8 := ⟨by decide +kernel, rfl⟩
theorem qX1_allLights_8 : Dc mX1_allLights 8 (.ireturn) 1 9 := ⟨by decide +kernel, rfl⟩

set_option maxRecDepth 20000 in
set_option maxHeartbeats 4000000 in
theorem w_X1_allLights {a0 : Nat} {s0 : St} {r : Int32} (h_a0 : sh a0 = 1) (h : f_X1_allLights a0 s0 = some r) : Ct mX1_allLights 0 [.ref a0] s0 (some (.int r), s0) := by
  refine Ct.ofE (by decide +kernel) rfl ?_
  show E mX1_allLights 0 (some (.int r), s0) 0 [some (.ref a0)] [] s0
  unfold f_X1_allLights at h
  refine e_iconst (nI 1) qX1_allLights_0 rfl ?_
  refine e_aload_n qX1_allLights_1 rfl ?_
  refine e_geti qX1_allLights_2 fl_X1_29 h_a0 kdq_1_2 h (fun v1 h => ?_)
  refine e_ishl qX1_allLights_5 ?_
  refine e_iconst (nI 1) qX1_allLights_6 rfl ?_
  refine e_isub qX1_allLights_7 ?_
  exact e_iret qX1_allLights_8 rfl (ret_p h)

def f_X1_fixedLights_L4 (N : Nat) (c1 : Nat) (s0 : St) : Nat → Int32 → Int32 → Option (Int32)
  | 0, _, _ => none
  | n4 + 1, v2, v3 =>
    vl (s0.1 c1 2) fun v6 =>
    if v6 ≤ v3 then
      some v2
    else
    ald (rr (rr c1 0)) 8 v3 fun v7 =>
    vl (s0.1 v7 9) fun v9 =>
    jn (fun (v10 : Int32) =>
      vl (v3 + (nI 1)) fun v12 =>
      f_X1_fixedLights_L4 N c1 s0 n4 v10 v12) fun j11 =>
    if v9 = 0 then
      vl (v2 ||| ((nI 1) <<< (v3 &&& 31))) fun v13 =>
      j11 v13
    else
    j11 v2

def f_X1_fixedLights (N : Nat) (a0 : Nat) (s0 : St) : Option (Int32) :=
  f_X1_fixedLights_L4 N a0 s0 N (nI 0) (nI 0)

theorem qX1_fixedLights_0 : Dc mX1_fixedLights 0 (.iconst 0) 1 1 := ⟨by decide +kernel, rfl⟩
theorem qX1_fixedLights_1 : Dc mX1_fixedLights 1 (.istore_n 1) 1 2 := ⟨by decide +kernel, rfl⟩
theorem qX1_fixedLights_2 : Dc mX1_fixedLights 2 (.iconst 0) 1 3 := ⟨by decide +kernel, rfl⟩
theorem qX1_fixedLights_3 : Dc mX1_fixedLights 3 (.istore_n 2) 1 4 := ⟨by decide +kernel, rfl⟩
theorem qX1_fixedLights_4 : Dc mX1_fixedLights 4 (.iload_n 2) 1 5 := ⟨by decide +kernel, rfl⟩
theorem qX1_fixedLights_5 : Dc mX1_fixedLights 5 (.aload_n 0) 1 6 := ⟨by decide +kernel, rfl⟩
theorem qX1_fixedLights_6 : Dc mX1_fixedLights 6 (.getfield 29) 3 9 := ⟨by decide +kernel, rfl⟩
theorem qX1_fixedLights_9 : Dc mX1_fixedLights 9 (.if_icmp .ge 27) 3 12 := ⟨by decide +kernel, rfl⟩
theorem qX1_fixedLights_12 : Dc mX1_fixedLights 12 (.aload_n 0) 1 13 := ⟨by decide +kernel, rfl⟩
theorem qX1_fixedLights_13 : Dc mX1_fixedLights 13 (.getfield 11) 3 16 := ⟨by decide +kernel, rfl⟩
theorem qX1_fixedLights_16 : Dc mX1_fixedLights 16 (.iload_n 2) 1 17 := ⟨by decide +kernel, rfl⟩
theorem qX1_fixedLights_17 : Dc mX1_fixedLights 17 (.aaload) 1 18 := ⟨by decide +kernel, rfl⟩
theorem qX1_fixedLights_18 : Dc mX1_fixedLights 18 (.getfield 45) 3 21 := ⟨by decide +kernel, rfl⟩
theorem qX1_fixedLights_21 : Dc mX1_fixedLights 21 (.ifCond .ne 9) 3 24 := ⟨by decide +kernel, rfl⟩
theorem qX1_fixedLights_24 : Dc mX1_fixedLights 24 (.iload_n 1) 1 25 := ⟨by decide +kernel, rfl⟩
theorem qX1_fixedLights_25 : Dc mX1_fixedLights 25 (.iconst 1) 1 26 := ⟨by decide +kernel, rfl⟩
theorem qX1_fixedLights_26 : Dc mX1_fixedLights 26 (.iload_n 2) 1 27 := ⟨by decide +kernel, rfl⟩
theorem qX1_fixedLights_27 : Dc mX1_fixedLights 27 (.ishl) 1 28 := ⟨by decide +kernel, rfl⟩
theorem qX1_fixedLights_28 : Dc mX1_fixedLights 28 (.ior) 1 29 := ⟨by decide +kernel, rfl⟩
theorem qX1_fixedLights_29 : Dc mX1_fixedLights 29 (.istore_n 1) 1 30 := ⟨by decide +kernel, rfl⟩
theorem qX1_fixedLights_30 : Dc mX1_fixedLights 30 (.iinc 2 1) 3 33 := ⟨by decide +kernel, rfl⟩
theorem qX1_fixedLights_33 : Dc mX1_fixedLights 33 (.goto (-29)) 3 36 := ⟨by decide +kernel, rfl⟩
theorem qX1_fixedLights_36 : Dc mX1_fixedLights 36 (.iload_n 1) 1 37 := ⟨by decide +kernel, rfl⟩
theorem qX1_fixedLights_37 : Dc mX1_fixedLights 37 (.ireturn) 1 38 := ⟨by decide +kernel, rfl⟩

set_option maxRecDepth 20000 in
set_option maxHeartbeats 4000000 in
theorem w_X1_fixedLights_L4 {N : Nat} {c1 : Nat} {s0 : St}  {r : Int32} (h_c1 : sh c1 = 1)  : ∀ (n4 : Nat) (v2 : Int32) (v3 : Int32), f_X1_fixedLights_L4 N c1 s0 n4 v2 v3 = some r → E mX1_fixedLights 0 (some (.int r), s0) 4 [some (.ref c1), some (.int v2), some (.int v3)] [] s0 := by
  intro n4
  induction n4 with
  | zero =>
    intro v2 v3 h
    rw [f_X1_fixedLights_L4] at h; cases h
  | succ n4 ih5 =>
    intro v2 v3 h
    rw [f_X1_fixedLights_L4] at h
    refine e_iload_n qX1_fixedLights_4 rfl ?_
    refine e_aload_n qX1_fixedLights_5 rfl ?_
    refine e_geti qX1_fixedLights_6 fl_X1_29 h_c1 kdq_1_2 h (fun v6 h => ?_)
    refine e_icmp_ge (tgt := 36) qX1_fixedLights_9 rfl h (fun _ h => ?_) (fun _ h => ?_)
    · refine e_iload_n qX1_fixedLights_36 rfl ?_
      exact e_iret qX1_fixedLights_37 rfl (ret_p h)
    refine e_aload_n qX1_fixedLights_12 rfl ?_
    refine e_getr (rr c1 0) qX1_fixedLights_13 fl_X1_11 h_c1 kdq_1_0 rfl ?_
    refine e_iload_n qX1_fixedLights_16 rfl ?_
    refine e_rald24 qX1_fixedLights_17 (wt_1_0 _ h_c1).1 (wt_1_0 _ h_c1).2 h (fun i8 hi8 h => ?_)
    refine e_geti qX1_fixedLights_18 fl_X1_45 (we_24 _ (wt_1_0 _ h_c1).1 _ hi8) kdq_4_9 h (fun v9 h => ?_)
    refine jn_e (fun j => ∀ (v10 : Int32), j v10 = some r → E mX1_fixedLights 0 (some (.int r), s0) 30 [some (.ref c1), some (.int v10), some (.int v3)] [] s0) h ?_ (fun j11 hj11 h => ?_)
    · intro v10 h
      refine vl_e h (fun h => ?_)
      obtain ⟨v12, ev12⟩ : ∃ y, v3 + (nI 1) = y := ⟨_, rfl⟩
      rw [ev12] at h
      refine e_iinc (nI 1) v12 (lv2 := [some (.ref c1), some (.int v10), some (.int v12)]) qX1_fixedLights_30 rfl rfl rfl ev12 rfl ?_
      refine e_goto (tgt := 4) qX1_fixedLights_33 rfl ?_
      exact e_weak (ih5 _ _ h) ⟨Or.inr rfl, Or.inr rfl, Or.inr rfl, trivial⟩
    refine e_if_ne (tgt := 30) qX1_fixedLights_21 rfl h (fun _ h => ?_) (fun _ h => ?_)
    · refine e_iload_n qX1_fixedLights_24 rfl ?_
      refine e_iconst (nI 1) qX1_fixedLights_25 rfl ?_
      refine e_iload_n qX1_fixedLights_26 rfl ?_
      refine e_ishl qX1_fixedLights_27 ?_
      refine e_ior qX1_fixedLights_28 ?_
      refine vl_e h (fun h => ?_)
      generalize (v2 ||| ((nI 1) <<< (v3 &&& 31))) = v13 at h ⊢
      refine e_istore_n (lv2 := [some (.ref c1), some (.int v13), some (.int v3)]) qX1_fixedLights_29 rfl rfl rfl ?_
      exact e_weak (hj11 _ h) ⟨Or.inr rfl, Or.inr rfl, Or.inr rfl, trivial⟩
    exact e_weak (hj11 _ h) ⟨Or.inr rfl, Or.inr rfl, Or.inr rfl, trivial⟩

set_option maxRecDepth 20000 in
set_option maxHeartbeats 4000000 in
theorem w_X1_fixedLights {N : Nat} {a0 : Nat} {s0 : St} {r : Int32} (h_a0 : sh a0 = 1) (h : f_X1_fixedLights N a0 s0 = some r) : Ct mX1_fixedLights 0 [.ref a0] s0 (some (.int r), s0) := by
  refine Ct.ofE (by decide +kernel) rfl ?_
  show E mX1_fixedLights 0 (some (.int r), s0) 0 [some (.ref a0), none, none] [] s0
  unfold f_X1_fixedLights at h
  refine e_iconst (nI 0) qX1_fixedLights_0 rfl ?_
  refine e_istore_n (lv2 := [some (.ref a0), some (.int (nI 0)), none]) qX1_fixedLights_1 rfl rfl rfl ?_
  refine e_iconst (nI 0) qX1_fixedLights_2 rfl ?_
  refine e_istore_n (lv2 := [some (.ref a0), some (.int (nI 0)), some (.int (nI 0))]) qX1_fixedLights_3 rfl rfl rfl ?_
  exact e_weak (w_X1_fixedLights_L4 h_a0  _ _ _ h) ⟨Or.inr rfl, Or.inr rfl, Or.inr rfl, trivial⟩

def f_X1_endsAllConfusion_L2 (N : Nat) (c1 : Nat) (c2 : Int32) (s0 : St) : Nat → Int32 → Option (Int32)
  | 0, _ => none
  | n4 + 1, v3 =>
    vl (s0.1 c1 2) fun v6 =>
    if v6 ≤ v3 then
      some (nI 1)
    else
    jn (vl (v3 + (nI 1)) fun v8 =>
      f_X1_endsAllConfusion_L2 N c1 c2 s0 n4 v8) fun j7 =>
    if ((c2 >>> (v3 &&& 31)) &&& (nI 1)) = 0 then
      ald (rr (rr c1 0)) 8 v3 fun v9 =>
      vl (s0.1 v9 13) fun v11 =>
      if (v11 &&& (c2 ^^^ (-1))) = 0 then
        j7
      else
      some (nI 0)
    else
    j7

def f_X1_endsAllConfusion (N : Nat) (a0 : Nat) (x1 : Int32) (s0 : St) : Option (Int32) :=
  f_X1_endsAllConfusion_L2 N a0 x1 s0 N (nI 0)

theorem qX1_endsAllConfusion_0 : Dc mX1_endsAllConfusion 0 (.iconst 0) 1 1 := ⟨by decide +kernel, rfl⟩
theorem qX1_endsAllConfusion_1 : Dc mX1_endsAllConfusion 1 (.istore_n 2) 1 2 := ⟨by decide +kernel, rfl⟩
theorem qX1_endsAllConfusion_2 : Dc mX1_endsAllConfusion 2 (.iload_n 2) 1 3 := ⟨by decide +kernel, rfl⟩
theorem qX1_endsAllConfusion_3 : Dc mX1_endsAllConfusion 3 (.aload_n 0) 1 4 := ⟨by decide +kernel, rfl⟩
theorem qX1_endsAllConfusion_4 : Dc mX1_endsAllConfusion 4 (.getfield 29) 3 7 := ⟨by decide +kernel, rfl⟩
theorem qX1_endsAllConfusion_7 : Dc mX1_endsAllConfusion 7 (.if_icmp .ge 35) 3 10 := ⟨by decide +kernel, rfl⟩
theorem qX1_endsAllConfusion_10 : Dc mX1_endsAllConfusion 10 (.iload_n 1) 1 11 := ⟨by decide +kernel, rfl⟩
theorem qX1_endsAllConfusion_11 : Dc mX1_endsAllConfusion 11 (.iload_n 2) 1 12 := ⟨by decide +kernel, rfl⟩
theorem qX1_endsAllConfusion_12 : Dc mX1_endsAllConfusion 12 (.ishr) 1 13 := ⟨by decide +kernel, rfl⟩
theorem qX1_endsAllConfusion_13 : Dc mX1_endsAllConfusion 13 (.iconst 1) 1 14 := ⟨by decide +kernel, rfl⟩
theorem qX1_endsAllConfusion_14 : Dc mX1_endsAllConfusion 14 (.iand) 1 15 := ⟨by decide +kernel, rfl⟩
theorem qX1_endsAllConfusion_15 : Dc mX1_endsAllConfusion 15 (.ifCond .ne 21) 3 18 := ⟨by decide +kernel, rfl⟩
theorem qX1_endsAllConfusion_18 : Dc mX1_endsAllConfusion 18 (.aload_n 0) 1 19 := ⟨by decide +kernel, rfl⟩
theorem qX1_endsAllConfusion_19 : Dc mX1_endsAllConfusion 19 (.getfield 11) 3 22 := ⟨by decide +kernel, rfl⟩
theorem qX1_endsAllConfusion_22 : Dc mX1_endsAllConfusion 22 (.iload_n 2) 1 23 := ⟨by decide +kernel, rfl⟩
theorem qX1_endsAllConfusion_23 : Dc mX1_endsAllConfusion 23 (.aaload) 1 24 := ⟨by decide +kernel, rfl⟩
theorem qX1_endsAllConfusion_24 : Dc mX1_endsAllConfusion 24 (.getfield 51) 3 27 := ⟨by decide +kernel, rfl⟩
theorem qX1_endsAllConfusion_27 : Dc mX1_endsAllConfusion 27 (.iload_n 1) 1 28 := ⟨by decide +kernel, rfl⟩
theorem qX1_endsAllConfusion_28 : Dc mX1_endsAllConfusion 28 (.iconst (-1)) 1 29 := ⟨by decide +kernel, rfl⟩
theorem qX1_endsAllConfusion_29 : Dc mX1_endsAllConfusion 29 (.ixor) 1 30 := ⟨by decide +kernel, rfl⟩
theorem qX1_endsAllConfusion_30 : Dc mX1_endsAllConfusion 30 (.iand) 1 31 := ⟨by decide +kernel, rfl⟩
theorem qX1_endsAllConfusion_31 : Dc mX1_endsAllConfusion 31 (.ifCond .eq 5) 3 34 := ⟨by decide +kernel, rfl⟩
theorem qX1_endsAllConfusion_34 : Dc mX1_endsAllConfusion 34 (.iconst 0) 1 35 := ⟨by decide +kernel, rfl⟩
theorem qX1_endsAllConfusion_35 : Dc mX1_endsAllConfusion 35 (.ireturn) 1 36 := ⟨by decide +kernel, rfl⟩
theorem qX1_endsAllConfusion_36 : Dc mX1_endsAllConfusion 36 (.iinc 2 1) 3 39 := ⟨by decide +kernel, rfl⟩
theorem qX1_endsAllConfusion_39 : Dc mX1_endsAllConfusion 39 (.goto (-37)) 3 42 := ⟨by decide +kernel, rfl⟩
theorem qX1_endsAllConfusion_42 : Dc mX1_endsAllConfusion 42 (.iconst 1) 1 43 := ⟨by decide +kernel, rfl⟩
theorem qX1_endsAllConfusion_43 : Dc mX1_endsAllConfusion 43 (.ireturn) 1 44 := ⟨by decide +kernel, rfl⟩

set_option maxRecDepth 20000 in
set_option maxHeartbeats 4000000 in
theorem w_X1_endsAllConfusion_L2 {N : Nat} {c1 : Nat} {c2 : Int32} {s0 : St}  {r : Int32} (h_c1 : sh c1 = 1)  : ∀ (n4 : Nat) (v3 : Int32), f_X1_endsAllConfusion_L2 N c1 c2 s0 n4 v3 = some r → E mX1_endsAllConfusion 0 (some (.int r), s0) 2 [some (.ref c1), some (.int c2), some (.int v3)] [] s0 := by
  intro n4
  induction n4 with
  | zero =>
    intro v3 h
    rw [f_X1_endsAllConfusion_L2] at h; cases h
  | succ n4 ih5 =>
    intro v3 h
    rw [f_X1_endsAllConfusion_L2] at h
    refine e_iload_n qX1_endsAllConfusion_2 rfl ?_
    refine e_aload_n qX1_endsAllConfusion_3 rfl ?_
    refine e_geti qX1_endsAllConfusion_4 fl_X1_29 h_c1 kdq_1_2 h (fun v6 h => ?_)
    refine e_icmp_ge (tgt := 42) qX1_endsAllConfusion_7 rfl h (fun _ h => ?_) (fun _ h => ?_)
    · refine e_iconst (nI 1) qX1_endsAllConfusion_42 rfl ?_
      exact e_zret qX1_endsAllConfusion_43 rfl (by decide) (ret_p h)
    refine e_iload_n qX1_endsAllConfusion_10 rfl ?_
    refine e_iload_n qX1_endsAllConfusion_11 rfl ?_
    refine e_ishr qX1_endsAllConfusion_12 ?_
    refine e_iconst (nI 1) qX1_endsAllConfusion_13 rfl ?_
    refine e_iand qX1_endsAllConfusion_14 ?_
    refine jn_e (fun j => j = some r → E mX1_endsAllConfusion 0 (some (.int r), s0) 36 [some (.ref c1), some (.int c2), some (.int v3)] [] s0) h ?_ (fun j7 hj7 h => ?_)
    · intro h
      refine vl_e h (fun h => ?_)
      obtain ⟨v8, ev8⟩ : ∃ y, v3 + (nI 1) = y := ⟨_, rfl⟩
      rw [ev8] at h
      refine e_iinc (nI 1) v8 (lv2 := [some (.ref c1), some (.int c2), some (.int v8)]) qX1_endsAllConfusion_36 rfl rfl rfl ev8 rfl ?_
      refine e_goto (tgt := 2) qX1_endsAllConfusion_39 rfl ?_
      exact e_weak (ih5 _ h) ⟨Or.inr rfl, Or.inr rfl, Or.inr rfl, trivial⟩
    refine e_if_ne (tgt := 36) qX1_endsAllConfusion_15 rfl h (fun _ h => ?_) (fun _ h => ?_)
    · refine e_aload_n qX1_endsAllConfusion_18 rfl ?_
      refine e_getr (rr c1 0) qX1_endsAllConfusion_19 fl_X1_11 h_c1 kdq_1_0 rfl ?_
      refine e_iload_n qX1_endsAllConfusion_22 rfl ?_
      refine e_rald24 qX1_endsAllConfusion_23 (wt_1_0 _ h_c1).1 (wt_1_0 _ h_c1).2 h (fun i10 hi10 h => ?_)
      refine e_geti qX1_endsAllConfusion_24 fl_X1_51 (we_24 _ (wt_1_0 _ h_c1).1 _ hi10) kdq_4_13 h (fun v11 h => ?_)
      refine e_iload_n qX1_endsAllConfusion_27 rfl ?_
      refine e_iconst (-1) qX1_endsAllConfusion_28 rfl ?_
      refine e_ixor qX1_endsAllConfusion_29 ?_
      refine e_iand qX1_endsAllConfusion_30 ?_
      refine e_if_eq (tgt := 36) qX1_endsAllConfusion_31 rfl h (fun _ h => ?_) (fun _ h => ?_)
      · exact e_weak (hj7 h) ⟨Or.inr rfl, Or.inr rfl, Or.inr rfl, trivial⟩
      refine e_iconst (nI 0) qX1_endsAllConfusion_34 rfl ?_
      exact e_zret qX1_endsAllConfusion_35 rfl (by decide) (ret_p h)
    exact e_weak (hj7 h) ⟨Or.inr rfl, Or.inr rfl, Or.inr rfl, trivial⟩

set_option maxRecDepth 20000 in
set_option maxHeartbeats 4000000 in
theorem w_X1_endsAllConfusion {N : Nat} {a0 : Nat} {x1 : Int32} {s0 : St} {r : Int32} (h_a0 : sh a0 = 1) (h : f_X1_endsAllConfusion N a0 x1 s0 = some r) : Ct mX1_endsAllConfusion 0 [.ref a0, .int x1] s0 (some (.int r), s0) := by
  refine Ct.ofE (by decide +kernel) rfl ?_
  show E mX1_endsAllConfusion 0 (some (.int r), s0) 0 [some (.ref a0), some (.int x1), none] [] s0
  unfold f_X1_endsAllConfusion at h
  refine e_iconst (nI 0) qX1_endsAllConfusion_0 rfl ?_
  refine e_istore_n (lv2 := [some (.ref a0), some (.int x1), some (.int (nI 0))]) qX1_endsAllConfusion_1 rfl rfl rfl ?_
  exact e_weak (w_X1_endsAllConfusion_L2 h_a0  _ _ h) ⟨Or.inr rfl, Or.inr rfl, Or.inr rfl, trivial⟩

def f_X1_lightNamed_L2 (N : Nat) (c1 : Nat) (c2 : Int64) (s0 : St) : Nat → Int32 → Option (Int32)
  | 0, _ => none
  | n4 + 1, v3 =>
    vl (s0.1 c1 2) fun v6 =>
    if v6 ≤ v3 then
      some (-1)
    else
    ald (rr (rr c1 0)) 8 v3 fun v7 =>
    vl (s0.2 v7 0) fun v9 =>
    if (lg_cmp v9 c2) = 0 then
      some v3
    else
    vl (v3 + (nI 1)) fun v10 =>
    f_X1_lightNamed_L2 N c1 c2 s0 n4 v10

def f_X1_lightNamed (N : Nat) (a0 : Nat) (x1 : Int64) (s0 : St) : Option (Int32) :=
  f_X1_lightNamed_L2 N a0 x1 s0 N (nI 0)

theorem qX1_lightNamed_0 : Dc mX1_lightNamed 0 (.iconst 0) 1 1 := ⟨by decide +kernel, rfl⟩
theorem qX1_lightNamed_1 : Dc mX1_lightNamed 1 (.istore_n 3) 1 2 := ⟨by decide +kernel, rfl⟩
theorem qX1_lightNamed_2 : Dc mX1_lightNamed 2 (.iload_n 3) 1 3 := ⟨by decide +kernel, rfl⟩
theorem qX1_lightNamed_3 : Dc mX1_lightNamed 3 (.aload_n 0) 1 4 := ⟨by decide +kernel, rfl⟩
theorem qX1_lightNamed_4 : Dc mX1_lightNamed 4 (.getfield 29) 3 7 := ⟨by decide +kernel, rfl⟩
theorem qX1_lightNamed_7 : Dc mX1_lightNamed 7 (.if_icmp .ge 25) 3 10 := ⟨by decide +kernel, rfl⟩
theorem qX1_lightNamed_10 : Dc mX1_lightNamed 10 (.aload_n 0) 1 11 := ⟨by decide +kernel, rfl⟩
theorem qX1_lightNamed_11 : Dc mX1_lightNamed 11 (.getfield 11) 3 14 := ⟨by decide +kernel, rfl⟩
theorem qX1_lightNamed_14 : Dc mX1_lightNamed 14 (.iload_n 3) 1 15 := ⟨by decide +kernel, rfl⟩
theorem qX1_lightNamed_15 : Dc mX1_lightNamed 15 (.aaload) 1 16 := ⟨by decide +kernel, rfl⟩
theorem qX1_lightNamed_16 : Dc mX1_lightNamed 16 (.getfield 241) 3 19 := ⟨by decide +kernel, rfl⟩
theorem qX1_lightNamed_19 : Dc mX1_lightNamed 19 (.lload_n 1) 1 20 := ⟨by decide +kernel, rfl⟩
theorem qX1_lightNamed_20 : Dc mX1_lightNamed 20 (.lcmp) 1 21 := ⟨by decide +kernel, rfl⟩
theorem qX1_lightNamed_21 : Dc mX1_lightNamed 21 (.ifCond .ne 5) 3 24 := ⟨by decide +kernel, rfl⟩
theorem qX1_lightNamed_24 : Dc mX1_lightNamed 24 (.iload_n 3) 1 25 := ⟨by decide +kernel, rfl⟩
theorem qX1_lightNamed_25 : Dc mX1_lightNamed 25 (.ireturn) 1 26 := ⟨by decide +kernel, rfl⟩
theorem qX1_lightNamed_26 : Dc mX1_lightNamed 26 (.iinc 3 1) 3 29 := ⟨by decide +kernel, rfl⟩
theorem qX1_lightNamed_29 : Dc mX1_lightNamed 29 (.goto (-27)) 3 32 := ⟨by decide +kernel, rfl⟩
theorem qX1_lightNamed_32 : Dc mX1_lightNamed 32 (.iconst (-1)) 1 33 := ⟨by decide +kernel, rfl⟩
theorem qX1_lightNamed_33 : Dc mX1_lightNamed 33 (.ireturn) 1 34 := ⟨by decide +kernel, rfl⟩

set_option maxRecDepth 20000 in
set_option maxHeartbeats 4000000 in
theorem w_X1_lightNamed_L2 {N : Nat} {c1 : Nat} {c2 : Int64} {s0 : St}  {r : Int32} (h_c1 : sh c1 = 1)  : ∀ (n4 : Nat) (v3 : Int32), f_X1_lightNamed_L2 N c1 c2 s0 n4 v3 = some r → E mX1_lightNamed 0 (some (.int r), s0) 2 [some (.ref c1), some (.long c2), none, some (.int v3)] [] s0 := by
  intro n4
  induction n4 with
  | zero =>
    intro v3 h
    rw [f_X1_lightNamed_L2] at h; cases h
  | succ n4 ih5 =>
    intro v3 h
    rw [f_X1_lightNamed_L2] at h
    refine e_iload_n qX1_lightNamed_2 rfl ?_
    refine e_aload_n qX1_lightNamed_3 rfl ?_
    refine e_geti qX1_lightNamed_4 fl_X1_29 h_c1 kdq_1_2 h (fun v6 h => ?_)
    refine e_icmp_ge (tgt := 32) qX1_lightNamed_7 rfl h (fun _ h => ?_) (fun _ h => ?_)
    · refine e_iconst (-1) qX1_lightNamed_32 rfl ?_
      exact e_iret qX1_lightNamed_33 rfl (ret_p h)
    refine e_aload_n qX1_lightNamed_10 rfl ?_
    refine e_getr (rr c1 0) qX1_lightNamed_11 fl_X1_11 h_c1 kdq_1_0 rfl ?_
    refine e_iload_n qX1_lightNamed_14 rfl ?_
    refine e_rald24 qX1_lightNamed_15 (wt_1_0 _ h_c1).1 (wt_1_0 _ h_c1).2 h (fun i8 hi8 h => ?_)
    refine e_getl qX1_lightNamed_16 fl_X1_241 (we_24 _ (wt_1_0 _ h_c1).1 _ hi8) kdq_4_0 h (fun v9 h => ?_)
    refine e_lload_n qX1_lightNamed_19 rfl ?_
    refine e_lcmp qX1_lightNamed_20 ?_
    refine e_if_ne (tgt := 26) qX1_lightNamed_21 rfl h (fun _ h => ?_) (fun _ h => ?_)
    · refine e_iload_n qX1_lightNamed_24 rfl ?_
      exact e_iret qX1_lightNamed_25 rfl (ret_p h)
    refine vl_e h (fun h => ?_)
    obtain ⟨v10, ev10⟩ : ∃ y, v3 + (nI 1) = y := ⟨_, rfl⟩
    rw [ev10] at h
    refine e_iinc (nI 1) v10 (lv2 := [some (.ref c1), some (.long c2), none, some (.int v10)]) qX1_lightNamed_26 rfl rfl rfl ev10 rfl ?_
    refine e_goto (tgt := 2) qX1_lightNamed_29 rfl ?_
    exact e_weak (ih5 _ h) ⟨Or.inr rfl, Or.inr rfl, Or.inl rfl, Or.inr rfl, trivial⟩

set_option maxRecDepth 20000 in
set_option maxHeartbeats 4000000 in
theorem w_X1_lightNamed {N : Nat} {a0 : Nat} {x1 : Int64} {s0 : St} {r : Int32} (h_a0 : sh a0 = 1) (h : f_X1_lightNamed N a0 x1 s0 = some r) : Ct mX1_lightNamed 0 [.ref a0, .long x1] s0 (some (.int r), s0) := by
  refine Ct.ofE (by decide +kernel) rfl ?_
  show E mX1_lightNamed 0 (some (.int r), s0) 0 [some (.ref a0), some (.long x1), none, none] [] s0
  unfold f_X1_lightNamed at h
  refine e_iconst (nI 0) qX1_lightNamed_0 rfl ?_
  refine e_istore_n (lv2 := [some (.ref a0), some (.long x1), none, some (.int (nI 0))]) qX1_lightNamed_1 rfl rfl rfl ?_
  exact e_weak (w_X1_lightNamed_L2 h_a0  _ _ h) ⟨Or.inr rfl, Or.inr rfl, Or.inl rfl, Or.inr rfl, trivial⟩

def f_X1_shipNamed_L2 (N : Nat) (c1 : Nat) (c2 : Int64) (s0 : St) : Nat → Int32 → Option (Int32)
  | 0, _ => none
  | n4 + 1, v3 =>
    vl (s0.1 c1 3) fun v6 =>
    if v6 ≤ v3 then
      some (-1)
    else
    ald (rr (rr c1 1)) 4 v3 fun v7 =>
    vl (s0.2 v7 0) fun v9 =>
    if (lg_cmp v9 c2) = 0 then
      some v3
    else
    vl (v3 + (nI 1)) fun v10 =>
    f_X1_shipNamed_L2 N c1 c2 s0 n4 v10

def f_X1_shipNamed (N : Nat) (a0 : Nat) (x1 : Int64) (s0 : St) : Option (Int32) :=
  f_X1_shipNamed_L2 N a0 x1 s0 N (nI 0)

theorem qX1_shipNamed_0 : Dc mX1_shipNamed 0 (.iconst 0) 1 1 := ⟨by decide +kernel, rfl⟩
theorem qX1_shipNamed_1 : Dc mX1_shipNamed 1 (.istore_n 3) 1 2 := ⟨by decide +kernel, rfl⟩
theorem qX1_shipNamed_2 : Dc mX1_shipNamed 2 (.iload_n 3) 1 3 := ⟨by decide +kernel, rfl⟩
theorem qX1_shipNamed_3 : Dc mX1_shipNamed 3 (.aload_n 0) 1 4 := ⟨by decide +kernel, rfl⟩
theorem qX1_shipNamed_4 : Dc mX1_shipNamed 4 (.getfield 36) 3 7 := ⟨by decide +kernel, rfl⟩
theorem qX1_shipNamed_7 : Dc mX1_shipNamed 7 (.if_icmp .ge 25) 3 10 := ⟨by decide +kernel, rfl⟩
theorem qX1_shipNamed_10 : Dc mX1_shipNamed 10 (.aload_n 0) 1 11 := ⟨by decide +kernel, rfl⟩
theorem qX1_shipNamed_11 : Dc mX1_shipNamed 11 (.getfield 19) 3 14 := ⟨by decide +kernel, rfl⟩
theorem qX1_shipNamed_14 : Dc mX1_shipNamed 14 (.iload_n 3) 1 15 := ⟨by decide +kernel, rfl⟩
theorem qX1_shipNamed_15 : Dc mX1_shipNamed 15 (.aaload) 1 16 := ⟨by decide +kernel, rfl⟩
theorem qX1_shipNamed_16 : Dc mX1_shipNamed 16 (.getfield 220) 3 19 := ⟨by decide +kernel, rfl⟩
theorem qX1_shipNamed_19 : Dc mX1_shipNamed 19 (.lload_n 1) 1 20 := ⟨by decide +kernel, rfl⟩
theorem qX1_shipNamed_20 : Dc mX1_shipNamed 20 (.lcmp) 1 21 := ⟨by decide +kernel, rfl⟩
theorem qX1_shipNamed_21 : Dc mX1_shipNamed 21 (.ifCond .ne 5) 3 24 := ⟨by decide +kernel, rfl⟩
theorem qX1_shipNamed_24 : Dc mX1_shipNamed 24 (.iload_n 3) 1 25 := ⟨by decide +kernel, rfl⟩
theorem qX1_shipNamed_25 : Dc mX1_shipNamed 25 (.ireturn) 1 26 := ⟨by decide +kernel, rfl⟩
theorem qX1_shipNamed_26 : Dc mX1_shipNamed 26 (.iinc 3 1) 3 29 := ⟨by decide +kernel, rfl⟩
theorem qX1_shipNamed_29 : Dc mX1_shipNamed 29 (.goto (-27)) 3 32 := ⟨by decide +kernel, rfl⟩
theorem qX1_shipNamed_32 : Dc mX1_shipNamed 32 (.iconst (-1)) 1 33 := ⟨by decide +kernel, rfl⟩
theorem qX1_shipNamed_33 : Dc mX1_shipNamed 33 (.ireturn) 1 34 := ⟨by decide +kernel, rfl⟩

set_option maxRecDepth 20000 in
set_option maxHeartbeats 4000000 in
theorem w_X1_shipNamed_L2 {N : Nat} {c1 : Nat} {c2 : Int64} {s0 : St}  {r : Int32} (h_c1 : sh c1 = 1)  : ∀ (n4 : Nat) (v3 : Int32), f_X1_shipNamed_L2 N c1 c2 s0 n4 v3 = some r → E mX1_shipNamed 0 (some (.int r), s0) 2 [some (.ref c1), some (.long c2), none, some (.int v3)] [] s0 := by
  intro n4
  induction n4 with
  | zero =>
    intro v3 h
    rw [f_X1_shipNamed_L2] at h; cases h
  | succ n4 ih5 =>
    intro v3 h
    rw [f_X1_shipNamed_L2] at h
    refine e_iload_n qX1_shipNamed_2 rfl ?_
    refine e_aload_n qX1_shipNamed_3 rfl ?_
    refine e_geti qX1_shipNamed_4 fl_X1_36 h_c1 kdq_1_3 h (fun v6 h => ?_)
    refine e_icmp_ge (tgt := 32) qX1_shipNamed_7 rfl h (fun _ h => ?_) (fun _ h => ?_)
    · refine e_iconst (-1) qX1_shipNamed_32 rfl ?_
      exact e_iret qX1_shipNamed_33 rfl (ret_p h)
    refine e_aload_n qX1_shipNamed_10 rfl ?_
    refine e_getr (rr c1 1) qX1_shipNamed_11 fl_X1_19 h_c1 kdq_1_1 rfl ?_
    refine e_iload_n qX1_shipNamed_14 rfl ?_
    refine e_rald25 qX1_shipNamed_15 (wt_1_1 _ h_c1).1 (wt_1_1 _ h_c1).2 h (fun i8 hi8 h => ?_)
    refine e_getl qX1_shipNamed_16 fl_X1_220 (we_25 _ (wt_1_1 _ h_c1).1 _ hi8) kdq_8_0 h (fun v9 h => ?_)
    refine e_lload_n qX1_shipNamed_19 rfl ?_
    refine e_lcmp qX1_shipNamed_20 ?_
    refine e_if_ne (tgt := 26) qX1_shipNamed_21 rfl h (fun _ h => ?_) (fun _ h => ?_)
    · refine e_iload_n qX1_shipNamed_24 rfl ?_
      exact e_iret qX1_shipNamed_25 rfl (ret_p h)
    refine vl_e h (fun h => ?_)
    obtain ⟨v10, ev10⟩ : ∃ y, v3 + (nI 1) = y := ⟨_, rfl⟩
    rw [ev10] at h
    refine e_iinc (nI 1) v10 (lv2 := [some (.ref c1), some (.long c2), none, some (.int v10)]) qX1_shipNamed_26 rfl rfl rfl ev10 rfl ?_
    refine e_goto (tgt := 2) qX1_shipNamed_29 rfl ?_
    exact e_weak (ih5 _ h) ⟨Or.inr rfl, Or.inr rfl, Or.inl rfl, Or.inr rfl, trivial⟩

set_option maxRecDepth 20000 in
set_option maxHeartbeats 4000000 in
theorem w_X1_shipNamed {N : Nat} {a0 : Nat} {x1 : Int64} {s0 : St} {r : Int32} (h_a0 : sh a0 = 1) (h : f_X1_shipNamed N a0 x1 s0 = some r) : Ct mX1_shipNamed 0 [.ref a0, .long x1] s0 (some (.int r), s0) := by
  refine Ct.ofE (by decide +kernel) rfl ?_
  show E mX1_shipNamed 0 (some (.int r), s0) 0 [some (.ref a0), some (.long x1), none, none] [] s0
  unfold f_X1_shipNamed at h
  refine e_iconst (nI 0) qX1_shipNamed_0 rfl ?_
  refine e_istore_n (lv2 := [some (.ref a0), some (.long x1), none, some (.int (nI 0))]) qX1_shipNamed_1 rfl rfl rfl ?_
  exact e_weak (w_X1_shipNamed_L2 h_a0  _ _ h) ⟨Or.inr rfl, Or.inr rfl, Or.inl rfl, Or.inr rfl, trivial⟩

def f_X2_begin (x1 : Int32) (s0 : St) : Option (St) :=
  vl (sI s0 131 0 x1) fun s1 =>
  some s1

theorem qX2_begin_0 : Dc mX2_begin 0 (.aload_n 0) 1 1 := ⟨by decide +kernel, rfl⟩
theorem qX2_begin_1 : Dc mX2_begin 1 (.iload_n 1) 1 2 := ⟨by decide +kernel, rfl⟩
theorem qX2_begin_2 : Dc mX2_begin 2 (.putfield 9) 3 5 := ⟨by decide +kernel, rfl⟩
theorem qX2_begin_5 : Dc mX2_begin 5 (.return_) 1 6 := ⟨by decide +kernel, rfl⟩

set_option maxRecDepth 20000 in
set_option maxHeartbeats 4000000 in
theorem w_X2_begin {x1 : Int32} {s0 : St} {sr : St} (h : f_X2_begin x1 s0 = some sr) : Ct mX2_begin 0 [.ref 131, .int x1] s0 (none, sr) := by
  refine Ct.ofE (by decide +kernel) rfl ?_
  show E mX2_begin 0 (none, sr) 0 [some (.ref 131), some (.int x1)] [] s0
  unfold f_X2_begin at h
  refine e_aload_n qX2_begin_0 rfl ?_
  refine e_iload_n qX2_begin_1 rfl ?_
  refine e_puti qX2_begin_2 fp_X2_9 shq_131 kdq_2_0 h (fun s1 h => ?_)
  exact e_vret qX2_begin_5 rfl (ret_v h)

def f_X4_begin (a0 : Nat) (x1 : Int64) (s0 : St) : Option (St) :=
  vl (sL s0 a0 0 x1) fun s1 =>
  vl (sI s1 a0 6 (nI 0)) fun s2 =>
  vl (sI s2 a0 7 (nI 0)) fun s3 =>
  vl (sI s3 a0 8 (nI 0)) fun s4 =>
  vl (sI s4 a0 9 (nI 0)) fun s5 =>
  vl (sI s5 a0 10 (nI 1)) fun s6 =>
  ald (fun j => sI s6 (rr a0 11) j ((nI 1) &&& 1)) 160 (nI 0) fun s7 =>
  some s7

theorem qX4_begin_0 : Dc mX4_begin 0 (.aload_n 0) 1 1 := ⟨by decide +kernel, rfl⟩
theorem qX4_begin_1 : Dc mX4_begin 1 (.lload_n 1) 1 2 := ⟨by decide +kernel, rfl⟩
theorem qX4_begin_2 : Dc mX4_begin 2 (.putfield 15) 3 5 := ⟨by decide +kernel, rfl⟩
theorem qX4_begin_5 : Dc mX4_begin 5 (.aload_n 0) 1 6 := ⟨by decide +kernel, rfl⟩
theorem qX4_begin_6 : Dc mX4_begin 6 (.iconst 0) 1 7 := ⟨by decide +kernel, rfl⟩
theorem qX4_begin_7 : Dc mX4_begin 7 (.putfield 19) 3 10 := ⟨by decide +kernel, rfl⟩
theorem qX4_begin_10 : Dc mX4_begin 10 (.aload_n 0) 1 11 := ⟨by decide +kernel, rfl⟩
theorem qX4_begin_11 : Dc mX4_begin 11 (.iconst 0) 1 12 := ⟨by decide +kernel, rfl⟩
theorem qX4_begin_12 : Dc mX4_begin 12 (.putfield 23) 3 15 := ⟨by decide +kernel, rfl⟩
theorem qX4_begin_15 : Dc mX4_begin 15 (.aload_n 0) 1 16 := ⟨by decide +kernel, rfl⟩
theorem qX4_begin_16 : Dc mX4_begin 16 (.iconst 0) 1 17 := ⟨by decide +kernel, rfl⟩
theorem qX4_begin_17 : Dc mX4_begin 17 (.putfield 27) 3 20 := ⟨by decide +kernel, rfl⟩
theorem qX4_begin_20 : Dc mX4_begin 20 (.aload_n 0) 1 21 := ⟨by decide +kernel, rfl⟩
theorem qX4_begin_21 : Dc mX4_begin 21 (.iconst 0) 1 22 := ⟨by decide +kernel, rfl⟩
theorem qX4_begin_22 : Dc mX4_begin 22 (.putfield 30) 3 25 := ⟨by decide +kernel, rfl⟩
theorem qX4_begin_25 : Dc mX4_begin 25 (.aload_n 0) 1 26 := ⟨by decide +kernel, rfl⟩
theorem qX4_begin_26 : Dc mX4_begin 26 (.iconst 1) 1 27 := ⟨by decide +kernel, rfl⟩
theorem qX4_begin_27 : Dc mX4_begin 27 (.putfield 33) 3 30 := ⟨by decide +kernel, rfl⟩
theorem qX4_begin_30 : Dc mX4_begin 30 (.aload_n 0) 1 31 := ⟨by decide +kernel, rfl⟩
theorem qX4_begin_31 : Dc mX4_begin 31 (.getfield 9) 3 34 := ⟨by decide +kernel, rfl⟩
theorem qX4_begin_34 : Dc mX4_begin 34 (.iconst 0) 1 35 := ⟨by decide +kernel, rfl⟩
theorem qX4_begin_35 : Dc mX4_begin 35 (.iconst 1) 1 36 := ⟨by decide +kernel, rfl⟩
theorem qX4_begin_36 : Dc mX4_begin 36 (.bastore) 1 37 := ⟨by decide +kernel, rfl⟩
theorem qX4_begin_37 : Dc mX4_begin 37 (.return_) 1 38 := ⟨by decide +kernel, rfl⟩

set_option maxRecDepth 20000 in
set_option maxHeartbeats 4000000 in
theorem w_X4_begin {a0 : Nat} {x1 : Int64} {s0 : St} {sr : St} (h_a0 : sh a0 = 4) (h : f_X4_begin a0 x1 s0 = some sr) : Ct mX4_begin 0 [.ref a0, .long x1] s0 (none, sr) := by
  refine Ct.ofE (by decide +kernel) rfl ?_
  show E mX4_begin 0 (none, sr) 0 [some (.ref a0), some (.long x1), none] [] s0
  unfold f_X4_begin at h
  refine e_aload_n qX4_begin_0 rfl ?_
  refine e_lload_n qX4_begin_1 rfl ?_
  refine e_putl qX4_begin_2 fp_X4_15 h_a0 kdq_4_0 h (fun s1 h => ?_)
  refine e_aload_n qX4_begin_5 rfl ?_
  refine e_iconst (nI 0) qX4_begin_6 rfl ?_
  refine e_puti qX4_begin_7 fp_X4_19 h_a0 kdq_4_6 h (fun s2 h => ?_)
  refine e_aload_n qX4_begin_10 rfl ?_
  refine e_iconst (nI 0) qX4_begin_11 rfl ?_
  refine e_putz qX4_begin_12 fp_X4_23 h_a0 kdq_4_7 (by decide) h (fun s3 h => ?_)
  refine e_aload_n qX4_begin_15 rfl ?_
  refine e_iconst (nI 0) qX4_begin_16 rfl ?_
  refine e_puti qX4_begin_17 fp_X4_27 h_a0 kdq_4_8 h (fun s4 h => ?_)
  refine e_aload_n qX4_begin_20 rfl ?_
  refine e_iconst (nI 0) qX4_begin_21 rfl ?_
  refine e_puti qX4_begin_22 fp_X4_30 h_a0 kdq_4_9 h (fun s5 h => ?_)
  refine e_aload_n qX4_begin_25 rfl ?_
  refine e_iconst (nI 1) qX4_begin_26 rfl ?_
  refine e_puti qX4_begin_27 fp_X4_33 h_a0 kdq_4_10 h (fun s6 h => ?_)
  refine e_aload_n qX4_begin_30 rfl ?_
  refine e_getr (rr a0 11) qX4_begin_31 fl_X4_9 h_a0 kdq_4_11 rfl ?_
  refine e_iconst (nI 0) qX4_begin_34 rfl ?_
  refine e_iconst (nI 1) qX4_begin_35 rfl ?_
  refine e_zast qX4_begin_36 (wt_4_11 _ h_a0).1 (wt_4_11 _ h_a0).2 h (fun s7 h => ?_)
  exact e_vret qX4_begin_37 rfl (ret_v h)

def f_X4_copyFrom (a0 : Nat) (a1 : Nat) (s0 : St) : Option (St) :=
  vl (s0.2 a1 0) fun v1 =>
  vl (sL s0 a0 0 v1) fun s2 =>
  vl (s2.1 a1 1) fun v3 =>
  vl (sI s2 a0 1 v3) fun s4 =>
  vl (s4.1 a1 2) fun v5 =>
  vl (sI s4 a0 2 v5) fun s6 =>
  vl (s6.1 a1 3) fun v7 =>
  vl (sI s6 a0 3 v7) fun s8 =>
  vl (s8.1 a1 4) fun v9 =>
  vl (sI s8 a0 4 v9) fun s10 =>
  vl (s10.1 a1 5) fun v11 =>
  vl (sI s10 a0 5 v11) fun s12 =>
  vl (s12.1 a1 6) fun v13 =>
  vl (sI s12 a0 6 v13) fun s14 =>
  vl (s14.1 a1 7) fun v15 =>
  rz v15 <|
  vl (sI s14 a0 7 v15) fun s16 =>
  vl (s16.1 a1 8) fun v17 =>
  vl (sI s16 a0 8 v17) fun s18 =>
  vl (s18.1 a1 9) fun v19 =>
  vl (sI s18 a0 9 v19) fun s20 =>
  vl (s20.1 a1 10) fun v21 =>
  vl (sI s20 a0 10 v21) fun s22 =>
  cpz s22 (rr a1 11) (rr a0 11) 160 fun s23 =>
  vl (s23.1 a1 12) fun v24 =>
  vl (sI s23 a0 12 v24) fun s25 =>
  vl (s25.1 a1 13) fun v26 =>
  vl (sI s25 a0 13 v26) fun s27 =>
  some s27

theorem qX4_copyFrom_0 : Dc mX4_copyFrom 0 (.aload_n 0) 1 1 := ⟨by decide +kernel, rfl⟩
theorem qX4_copyFrom_1 : Dc mX4_copyFrom 1 (.aload_n 1) 1 2 := ⟨by decide +kernel, rfl⟩
theorem qX4_copyFrom_2 : Dc mX4_copyFrom 2 (.getfield 15) 3 5 := ⟨by decide +kernel, rfl⟩
theorem qX4_copyFrom_5 : Dc mX4_copyFrom 5 (.putfield 15) 3 8 := ⟨by decide +kernel, rfl⟩
theorem qX4_copyFrom_8 : Dc mX4_copyFrom 8 (.aload_n 0) 1 9 := ⟨by decide +kernel, rfl⟩
theorem qX4_copyFrom_9 : Dc mX4_copyFrom 9 (.aload_n 1) 1 10 := ⟨by decide +kernel, rfl⟩
theorem qX4_copyFrom_10 : Dc mX4_copyFrom 10 (.getfield 36) 3 13 := ⟨by decide +kernel, rfl⟩
theorem qX4_copyFrom_13 : Dc mX4_copyFrom 13 (.putfield 36) 3 16 := ⟨by decide +kernel, rfl⟩
theorem qX4_copyFrom_16 : Dc mX4_copyFrom 16 (.aload_n 0) 1 17 := ⟨by decide +kernel, rfl⟩
theorem qX4_copyFrom_17 : Dc mX4_copyFrom 17 (.aload_n 1) 1 18 := ⟨by decide +kernel, rfl⟩
theorem qX4_copyFrom_18 : Dc mX4_copyFrom 18 (.getfield 39) 3 21 := ⟨by decide +kernel, rfl⟩
theorem qX4_copyFrom_21 : Dc mX4_copyFrom 21 (.putfield 39) 3 24 := ⟨by decide +kernel, rfl⟩
theorem qX4_copyFrom_24 : Dc mX4_copyFrom 24 (.aload_n 0) 1 25 := ⟨by decide +kernel, rfl⟩
theorem qX4_copyFrom_25 : Dc mX4_copyFrom 25 (.aload_n 1) 1 26 := ⟨by decide +kernel, rfl⟩
theorem qX4_copyFrom_26 : Dc mX4_copyFrom 26 (.getfield 42) 3 29 := ⟨by decide +kernel, rfl⟩
theorem qX4_copyFrom_29 : Dc mX4_copyFrom 29 (.putfield 42) 3 32 := ⟨by decide +kernel, rfl⟩
theorem qX4_copyFrom_32 : Dc mX4_copyFrom 32 (.aload_n 0) 1 33 := ⟨by decide +kernel, rfl⟩
theorem qX4_copyFrom_33 : Dc mX4_copyFrom 33 (.aload_n 1) 1 34 := ⟨by decide +kernel, rfl⟩
theorem qX4_copyFrom_34 : Dc mX4_copyFrom 34 (.getfield 45) 3 37 := ⟨by decide +kernel, rfl⟩
theorem qX4_copyFrom_37 : Dc mX4_copyFrom 37 (.putfield 45) 3 40 := ⟨by decide +kernel, rfl⟩
theorem qX4_copyFrom_40 : Dc mX4_copyFrom 40 (.aload_n 0) 1 41 := ⟨by decide +kernel, rfl⟩
theorem qX4_copyFrom_41 : Dc mX4_copyFrom 41 (.aload_n 1) 1 42 := ⟨by decide +kernel, rfl⟩
theorem qX4_copyFrom_42 : Dc mX4_copyFrom 42 (.getfield 48) 3 45 := ⟨by decide +kernel, rfl⟩
theorem qX4_copyFrom_45 : Dc mX4_copyFrom 45 (.putfield 48) 3 48 := ⟨by decide +kernel, rfl⟩
theorem qX4_copyFrom_48 : Dc mX4_copyFrom 48 (.aload_n 0) 1 49 := ⟨by decide +kernel, rfl⟩
theorem qX4_copyFrom_49 : Dc mX4_copyFrom 49 (.aload_n 1) 1 50 := ⟨by decide +kernel, rfl⟩
theorem qX4_copyFrom_50 : Dc mX4_copyFrom 50 (.getfield 19) 3 53 := ⟨by decide +kernel, rfl⟩
theorem qX4_copyFrom_53 : Dc mX4_copyFrom 53 (.putfield 19) 3 56 := ⟨by decide +kernel, rfl⟩
theorem qX4_copyFrom_56 : Dc mX4_copyFrom 56 (.aload_n 0) 1 57 := ⟨by decide +kernel, rfl⟩
theorem qX4_copyFrom_57 : Dc mX4_copyFrom 57 (.aload_n 1) 1 58 := ⟨by decide +kernel, rfl⟩
theorem qX4_copyFrom_58 : Dc mX4_copyFrom 58 (.getfield 23) 3 61 := ⟨by decide +kernel, rfl⟩
theorem qX4_copyFrom_61 : Dc mX4_copyFrom 61 (.putfield 23) 3 64 := ⟨by decide +kernel, rfl⟩
theorem qX4_copyFrom_64 : Dc mX4_copyFrom 64 (.aload_n 0) 1 65 := ⟨by decide +kernel, rfl⟩
theorem qX4_copyFrom_65 : Dc mX4_copyFrom 65 (.aload_n 1) 1 66 := ⟨by decide +kernel, rfl⟩
theorem qX4_copyFrom_66 : Dc mX4_copyFrom 66 (.getfield 27) 3 69 := ⟨by decide +kernel, rfl⟩
theorem qX4_copyFrom_69 : Dc mX4_copyFrom 69 (.putfield 27) 3 72 := ⟨by decide +kernel, rfl⟩
theorem qX4_copyFrom_72 : Dc mX4_copyFrom 72 (.aload_n 0) 1 73 := ⟨by decide +kernel, rfl⟩
theorem qX4_copyFrom_73 : Dc mX4_copyFrom 73 (.aload_n 1) 1 74 := ⟨by decide +kernel, rfl⟩
theorem qX4_copyFrom_74 : Dc mX4_copyFrom 74 (.getfield 30) 3 77 := ⟨by decide +kernel, rfl⟩
theorem qX4_copyFrom_77 : Dc mX4_copyFrom 77 (.putfield 30) 3 80 := ⟨by decide +kernel, rfl⟩
theorem qX4_copyFrom_80 : Dc mX4_copyFrom 80 (.aload_n 0) 1 81 := ⟨by decide +kernel, rfl⟩
theorem qX4_copyFrom_81 : Dc mX4_copyFrom 81 (.aload_n 1) 1 82 := ⟨by decide +kernel, rfl⟩
theorem qX4_copyFrom_82 : Dc mX4_copyFrom 82 (.getfield 33) 3 85 := ⟨by decide +kernel, rfl⟩
theorem qX4_copyFrom_85 : Dc mX4_copyFrom 85 (.putfield 33) 3 88 := ⟨by decide +kernel, rfl⟩
theorem qX4_copyFrom_88 : Dc mX4_copyFrom 88 (.aload_n 1) 1 89 := ⟨by decide +kernel, rfl⟩
theorem qX4_copyFrom_89 : Dc mX4_copyFrom 89 (.getfield 9) 3 92 := ⟨by decide +kernel, rfl⟩
theorem qX4_copyFrom_92 : Dc mX4_copyFrom 92 (.iconst 0) 1 93 := ⟨by decide +kernel, rfl⟩
theorem qX4_copyFrom_93 : Dc mX4_copyFrom 93 (.aload_n 0) 1 94 := ⟨by decide +kernel, rfl⟩
theorem qX4_copyFrom_94 : Dc mX4_copyFrom 94 (.getfield 9) 3 97 := ⟨by decide +kernel, rfl⟩
theorem qX4_copyFrom_97 : Dc mX4_copyFrom 97 (.iconst 0) 1 98 := ⟨by decide +kernel, rfl⟩
theorem qX4_copyFrom_98 : Dc mX4_copyFrom 98 (.sipush 160) 3 101 := ⟨by decide +kernel, rfl⟩
theorem qX4_copyFrom_101 : Dc mX4_copyFrom 101 (.invokestatic 51) 3 104 := ⟨by decide +kernel, rfl⟩
theorem qX4_copyFrom_104 : Dc mX4_copyFrom 104 (.aload_n 0) 1 105 := ⟨by decide +kernel, rfl⟩
theorem qX4_copyFrom_105 : Dc mX4_copyFrom 105 (.aload_n 1) 1 106 := ⟨by decide +kernel, rfl⟩
theorem qX4_copyFrom_106 : Dc mX4_copyFrom 106 (.getfield 57) 3 109 := ⟨by decide +kernel, rfl⟩
theorem qX4_copyFrom_109 : Dc mX4_copyFrom 109 (.putfield 57) 3 112 := ⟨by decide +kernel, rfl⟩
theorem qX4_copyFrom_112 : Dc mX4_copyFrom 112 (.aload_n 0) 1 113 := ⟨by decide +kernel, rfl⟩
theorem qX4_copyFrom_113 : Dc mX4_copyFrom 113 (.aload_n 1) 1 114 := ⟨by decide +kernel, rfl⟩
theorem qX4_copyFrom_114 : Dc mX4_copyFrom 114 (.getfield 60) 3 117 := ⟨by decide +kernel, rfl⟩
theorem qX4_copyFrom_117 : Dc mX4_copyFrom 117 (.putfield 60) 3 120 := ⟨by decide +kernel, rfl⟩
theorem qX4_copyFrom_120 : Dc mX4_copyFrom 120 (.return_) 1 121 := ⟨by decide +kernel, rfl⟩

set_option maxRecDepth 20000 in
set_option maxHeartbeats 4000000 in
theorem w_X4_copyFrom {a0 : Nat} {a1 : Nat} {s0 : St} {sr : St} (h_a0 : sh a0 = 4) (h_a1 : sh a1 = 4) (h : f_X4_copyFrom a0 a1 s0 = some sr) : Ct mX4_copyFrom 3 [.ref a0, .ref a1] s0 (none, sr) := by
  refine Ct.ofE (by decide +kernel) rfl ?_
  show E mX4_copyFrom 3 (none, sr) 0 [some (.ref a0), some (.ref a1)] [] s0
  unfold f_X4_copyFrom at h
  refine e_aload_n qX4_copyFrom_0 rfl ?_
  refine e_aload_n qX4_copyFrom_1 rfl ?_
  refine e_getl qX4_copyFrom_2 fl_X4_15 h_a1 kdq_4_0 h (fun v1 h => ?_)
  refine e_putl qX4_copyFrom_5 fp_X4_15 h_a0 kdq_4_0 h (fun s2 h => ?_)
  refine e_aload_n qX4_copyFrom_8 rfl ?_
  refine e_aload_n qX4_copyFrom_9 rfl ?_
  refine e_geti qX4_copyFrom_10 fl_X4_36 h_a1 kdq_4_1 h (fun v3 h => ?_)
  refine e_puti qX4_copyFrom_13 fp_X4_36 h_a0 kdq_4_1 h (fun s4 h => ?_)
  refine e_aload_n qX4_copyFrom_16 rfl ?_
  refine e_aload_n qX4_copyFrom_17 rfl ?_
  refine e_geti qX4_copyFrom_18 fl_X4_39 h_a1 kdq_4_2 h (fun v5 h => ?_)
  refine e_puti qX4_copyFrom_21 fp_X4_39 h_a0 kdq_4_2 h (fun s6 h => ?_)
  refine e_aload_n qX4_copyFrom_24 rfl ?_
  refine e_aload_n qX4_copyFrom_25 rfl ?_
  refine e_geti qX4_copyFrom_26 fl_X4_42 h_a1 kdq_4_3 h (fun v7 h => ?_)
  refine e_puti qX4_copyFrom_29 fp_X4_42 h_a0 kdq_4_3 h (fun s8 h => ?_)
  refine e_aload_n qX4_copyFrom_32 rfl ?_
  refine e_aload_n qX4_copyFrom_33 rfl ?_
  refine e_geti qX4_copyFrom_34 fl_X4_45 h_a1 kdq_4_4 h (fun v9 h => ?_)
  refine e_puti qX4_copyFrom_37 fp_X4_45 h_a0 kdq_4_4 h (fun s10 h => ?_)
  refine e_aload_n qX4_copyFrom_40 rfl ?_
  refine e_aload_n qX4_copyFrom_41 rfl ?_
  refine e_geti qX4_copyFrom_42 fl_X4_48 h_a1 kdq_4_5 h (fun v11 h => ?_)
  refine e_puti qX4_copyFrom_45 fp_X4_48 h_a0 kdq_4_5 h (fun s12 h => ?_)
  refine e_aload_n qX4_copyFrom_48 rfl ?_
  refine e_aload_n qX4_copyFrom_49 rfl ?_
  refine e_geti qX4_copyFrom_50 fl_X4_19 h_a1 kdq_4_6 h (fun v13 h => ?_)
  refine e_puti qX4_copyFrom_53 fp_X4_19 h_a0 kdq_4_6 h (fun s14 h => ?_)
  refine e_aload_n qX4_copyFrom_56 rfl ?_
  refine e_aload_n qX4_copyFrom_57 rfl ?_
  refine e_geti qX4_copyFrom_58 fl_X4_23 h_a1 kdq_4_7 h (fun v15 h => ?_)
  refine rz_e h (fun hz h => ?_)
  refine e_putz qX4_copyFrom_61 fp_X4_23 h_a0 kdq_4_7 hz h (fun s16 h => ?_)
  refine e_aload_n qX4_copyFrom_64 rfl ?_
  refine e_aload_n qX4_copyFrom_65 rfl ?_
  refine e_geti qX4_copyFrom_66 fl_X4_27 h_a1 kdq_4_8 h (fun v17 h => ?_)
  refine e_puti qX4_copyFrom_69 fp_X4_27 h_a0 kdq_4_8 h (fun s18 h => ?_)
  refine e_aload_n qX4_copyFrom_72 rfl ?_
  refine e_aload_n qX4_copyFrom_73 rfl ?_
  refine e_geti qX4_copyFrom_74 fl_X4_30 h_a1 kdq_4_9 h (fun v19 h => ?_)
  refine e_puti qX4_copyFrom_77 fp_X4_30 h_a0 kdq_4_9 h (fun s20 h => ?_)
  refine e_aload_n qX4_copyFrom_80 rfl ?_
  refine e_aload_n qX4_copyFrom_81 rfl ?_
  refine e_geti qX4_copyFrom_82 fl_X4_33 h_a1 kdq_4_10 h (fun v21 h => ?_)
  refine e_puti qX4_copyFrom_85 fp_X4_33 h_a0 kdq_4_10 h (fun s22 h => ?_)
  refine e_aload_n qX4_copyFrom_88 rfl ?_
  refine e_getr (rr a1 11) qX4_copyFrom_89 fl_X4_9 h_a1 kdq_4_11 rfl ?_
  refine e_iconst (nI 0) qX4_copyFrom_92 rfl ?_
  refine e_aload_n qX4_copyFrom_93 rfl ?_
  refine e_getr (rr a0 11) qX4_copyFrom_94 fl_X4_9 h_a0 kdq_4_11 rfl ?_
  refine e_iconst (nI 0) qX4_copyFrom_97 rfl ?_
  refine e_sipush (nI 160) qX4_copyFrom_98 rfl ?_
  refine e_cpz qX4_copyFrom_101 ca_X4_51 (by decide) rfl (wt_4_11 _ h_a1).1 (wt_4_11 _ h_a0).1 (by rw [(wt_4_11 _ h_a1).2]; decide) (by rw [(wt_4_11 _ h_a0).2]; decide) (by decide) h (fun s23 h => ?_)
  refine e_aload_n qX4_copyFrom_104 rfl ?_
  refine e_aload_n qX4_copyFrom_105 rfl ?_
  refine e_geti qX4_copyFrom_106 fl_X4_57 h_a1 kdq_4_12 h (fun v24 h => ?_)
  refine e_puti qX4_copyFrom_109 fp_X4_57 h_a0 kdq_4_12 h (fun s25 h => ?_)
  refine e_aload_n qX4_copyFrom_112 rfl ?_
  refine e_aload_n qX4_copyFrom_113 rfl ?_
  refine e_geti qX4_copyFrom_114 fl_X4_60 h_a1 kdq_4_13 h (fun v26 h => ?_)
  refine e_puti qX4_copyFrom_117 fp_X4_60 h_a0 kdq_4_13 h (fun s27 h => ?_)
  exact e_vret qX4_copyFrom_120 rfl (ret_v h)

def f_X4_addSeconds_L2 (N : Nat) (c1 : Nat) (c2 : Int32) (c3 : Int32) : Nat → Int32 → St → Option (St)
  | 0, _, _ => none
  | n6 + 1, v4, s5 =>
    if c2 ≤ v4 then
      some s5
    else
    vl (s5.1 c1 10) fun v8 =>
    if (nI 160) ≤ v8 then
      some s5
    else
    vl (s5.1 c1 10) fun v9 =>
    ald (fun j => sI s5 (rr c1 11) j (c3 &&& 1)) 160 v9 fun s10 =>
    vl (s10.1 c1 10) fun v11 =>
    vl (sI s10 c1 10 (v11 + (nI 1))) fun s12 =>
    vl (v4 + (nI 1)) fun v13 =>
    f_X4_addSeconds_L2 N c1 c2 c3 n6 v13 s12

def f_X4_addSeconds (N : Nat) (a0 : Nat) (x1 : Int32) (x2 : Int32) (s0 : St) : Option (St) :=
  f_X4_addSeconds_L2 N a0 x1 x2 N (nI 0) s0

theorem qX4_addSeconds_0 : Dc mX4_addSeconds 0 (.iconst 0) 1 1 := ⟨by decide +kernel, rfl⟩
theorem qX4_addSeconds_1 : Dc mX4_addSeconds 1 (.istore_n 3) 1 2 := ⟨by decide +kernel, rfl⟩
theorem qX4_addSeconds_2 : Dc mX4_addSeconds 2 (.iload_n 3) 1 3 := ⟨by decide +kernel, rfl⟩
theorem qX4_addSeconds_3 : Dc mX4_addSeconds 3 (.iload_n 1) 1 4 := ⟨by decide +kernel, rfl⟩
theorem qX4_addSeconds_4 : Dc mX4_addSeconds 4 (.if_icmp .ge 39) 3 7 := ⟨by decide +kernel, rfl⟩
theorem qX4_addSeconds_7 : Dc mX4_addSeconds 7 (.aload_n 0) 1 8 := ⟨by decide +kernel, rfl⟩
theorem qX4_addSeconds_8 : Dc mX4_addSeconds 8 (.getfield 33) 3 11 := ⟨by decide +kernel, rfl⟩
theorem qX4_addSeconds_11 : Dc mX4_addSeconds 11 (.sipush 160) 3 14 := ⟨by decide +kernel, rfl⟩
theorem qX4_addSeconds_14 : Dc mX4_addSeconds 14 (.if_icmp .ge 29) 3 17 := ⟨by decide +kernel, rfl⟩
theorem qX4_addSeconds_17 : Dc mX4_addSeconds 17 (.aload_n 0) 1 18 := ⟨by decide +kernel, rfl⟩
theorem qX4_addSeconds_18 : Dc mX4_addSeconds 18 (.getfield 9) 3 21 := ⟨by decide +kernel, rfl⟩
theorem qX4_addSeconds_21 : Dc mX4_addSeconds 21 (.aload_n 0) 1 22 := ⟨by decide +kernel, rfl⟩
theorem qX4_addSeconds_22 : Dc mX4_addSeconds 22 (.getfield 33) 3 25 := ⟨by decide +kernel, rfl⟩
theorem qX4_addSeconds_25 : Dc mX4_addSeconds 25 (.iload_n 2) 1 26 := ⟨by decide +kernel, rfl⟩
theorem qX4_addSeconds_26 : Dc mX4_addSeconds 26 (.bastore) 1 27 := ⟨by decide +kernel, rfl⟩
theorem qX4_addSeconds_27 : Dc mX4_addSeconds 27 (.aload_n 0) 1 28 := ⟨by decide +kernel, rfl⟩
theorem qX4_addSeconds_28 : Dc mX4_addSeconds 28 (.dup) 1 29 := ⟨by decide +kernel, rfl⟩
theorem qX4_addSeconds_29 : Dc mX4_addSeconds 29 (.getfield 33) 3 32 := ⟨by decide +kernel, rfl⟩
theorem qX4_addSeconds_32 : Dc mX4_addSeconds 32 (.iconst 1) 1 33 := ⟨by decide +kernel, rfl⟩
theorem qX4_addSeconds_33 : Dc mX4_addSeconds 33 (.iadd) 1 34 := ⟨by decide +kernel, rfl⟩
theorem qX4_addSeconds_34 : Dc mX4_addSeconds 34 (.putfield 33) 3 37 := ⟨by decide +kernel, rfl⟩
theorem qX4_addSeconds_37 : Dc mX4_addSeconds 37 (.iinc 3 1) 3 40 := ⟨by decide +kernel, rfl⟩
theorem qX4_addSeconds_40 : Dc mX4_addSeconds 40 (.goto (-38)) 3 43 := ⟨by decide +kernel, rfl⟩
theorem qX4_addSeconds_43 : Dc mX4_addSeconds 43 (.return_) 1 44 := ⟨by decide +kernel, rfl⟩

set_option maxRecDepth 20000 in
set_option maxHeartbeats 4000000 in
theorem w_X4_addSeconds_L2 {N : Nat} {c1 : Nat} {c2 : Int32} {c3 : Int32}  {sr : St} (h_c1 : sh c1 = 4)  : ∀ (n6 : Nat) (v4 : Int32) (s5 : St), f_X4_addSeconds_L2 N c1 c2 c3 n6 v4 s5 = some sr → E mX4_addSeconds 0 (none, sr) 2 [some (.ref c1), some (.int c2), some (.int c3), some (.int v4)] [] s5 := by
  intro n6
  induction n6 with
  | zero =>
    intro v4 s5 h
    rw [f_X4_addSeconds_L2] at h; cases h
  | succ n6 ih7 =>
    intro v4 s5 h
    rw [f_X4_addSeconds_L2] at h
    refine e_iload_n qX4_addSeconds_2 rfl ?_
    refine e_iload_n qX4_addSeconds_3 rfl ?_
    refine e_icmp_ge (tgt := 43) qX4_addSeconds_4 rfl h (fun _ h => ?_) (fun _ h => ?_)
    · exact e_vret qX4_addSeconds_43 rfl (ret_v h)
    refine e_aload_n qX4_addSeconds_7 rfl ?_
    refine e_geti qX4_addSeconds_8 fl_X4_33 h_c1 kdq_4_10 h (fun v8 h => ?_)
    refine e_sipush (nI 160) qX4_addSeconds_11 rfl ?_
    refine e_icmp_ge (tgt := 43) qX4_addSeconds_14 rfl h (fun _ h => ?_) (fun _ h => ?_)
    · exact e_vret qX4_addSeconds_43 rfl (ret_v h)
    refine e_aload_n qX4_addSeconds_17 rfl ?_
    refine e_getr (rr c1 11) qX4_addSeconds_18 fl_X4_9 h_c1 kdq_4_11 rfl ?_
    refine e_aload_n qX4_addSeconds_21 rfl ?_
    refine e_geti qX4_addSeconds_22 fl_X4_33 h_c1 kdq_4_10 h (fun v9 h => ?_)
    refine e_iload_n qX4_addSeconds_25 rfl ?_
    refine e_zast qX4_addSeconds_26 (wt_4_11 _ h_c1).1 (wt_4_11 _ h_c1).2 h (fun s10 h => ?_)
    refine e_aload_n qX4_addSeconds_27 rfl ?_
    refine e_dup qX4_addSeconds_28 rfl ?_
    refine e_geti qX4_addSeconds_29 fl_X4_33 h_c1 kdq_4_10 h (fun v11 h => ?_)
    refine e_iconst (nI 1) qX4_addSeconds_32 rfl ?_
    refine e_iadd qX4_addSeconds_33 ?_
    refine e_puti qX4_addSeconds_34 fp_X4_33 h_c1 kdq_4_10 h (fun s12 h => ?_)
    refine vl_e h (fun h => ?_)
    obtain ⟨v13, ev13⟩ : ∃ y, v4 + (nI 1) = y := ⟨_, rfl⟩
    rw [ev13] at h
    refine e_iinc (nI 1) v13 (lv2 := [some (.ref c1), some (.int c2), some (.int c3), some (.int v13)]) qX4_addSeconds_37 rfl rfl rfl ev13 rfl ?_
    refine e_goto (tgt := 2) qX4_addSeconds_40 rfl ?_
    exact e_weak (ih7 _ _ h) ⟨Or.inr rfl, Or.inr rfl, Or.inr rfl, Or.inr rfl, trivial⟩

set_option maxRecDepth 20000 in
set_option maxHeartbeats 4000000 in
theorem w_X4_addSeconds {N : Nat} {a0 : Nat} {x1 : Int32} {x2 : Int32} {s0 : St} {sr : St} (h_a0 : sh a0 = 4) (h : f_X4_addSeconds N a0 x1 x2 s0 = some sr) : Ct mX4_addSeconds 0 [.ref a0, .int x1, .int x2] s0 (none, sr) := by
  refine Ct.ofE (by decide +kernel) rfl ?_
  show E mX4_addSeconds 0 (none, sr) 0 [some (.ref a0), some (.int x1), some (.int x2), none] [] s0
  unfold f_X4_addSeconds at h
  refine e_iconst (nI 0) qX4_addSeconds_0 rfl ?_
  refine e_istore_n (lv2 := [some (.ref a0), some (.int x1), some (.int x2), some (.int (nI 0))]) qX4_addSeconds_1 rfl rfl rfl ?_
  exact e_weak (w_X4_addSeconds_L2 h_a0  _ _ _ h) ⟨Or.inr rfl, Or.inr rfl, Or.inr rfl, Or.inr rfl, trivial⟩

def f_X4_placeBehind (a0 : Nat) (x1 : Int32) (s0 : St) : Option (Int32) :=
  vl (s0.1 a0 10) fun v1 =>
  if v1 ≤ (x1 + (nI 1)) then
    some (nI 0)
  else
  some (x1 + (nI 1))

theorem qX4_placeBehind_0 : Dc mX4_placeBehind 0 (.iload_n 1) 1 1 := ⟨by decide +kernel, rfl⟩
theorem qX4_placeBehind_1 : Dc mX4_placeBehind 1 (.iconst 1) 1 2 := ⟨by decide +kernel, rfl⟩
theorem qX4_placeBehind_2 : Dc mX4_placeBehind 2 (.iadd) 1 3 := ⟨by decide +kernel, rfl⟩
theorem qX4_placeBehind_3 : Dc mX4_placeBehind 3 (.aload_n 0) 1 4 := ⟨by decide +kernel, rfl⟩
theorem qX4_placeBehind_4 : Dc mX4_placeBehind 4 (.getfield 33) 3 7 := ⟨by decide +kernel, rfl⟩
theorem qX4_placeBehind_7 : Dc mX4_placeBehind 7 (.if_icmp .ge 9) 3 10 := ⟨by decide +kernel, rfl⟩
theorem qX4_placeBehind_10 : Dc mX4_placeBehind 10 (.iload_n 1) 1 11 := ⟨by decide +kernel, rfl⟩
theorem qX4_placeBehind_11 : Dc mX4_placeBehind 11 (.iconst 1) 1 12 := ⟨by decide +kernel, rfl⟩
theorem qX4_placeBehind_12 : Dc mX4_placeBehind 12 (.iadd) 1 13 := ⟨by decide +kernel, rfl⟩
theorem qX4_placeBehind_13 : Dc mX4_placeBehind 13 (.goto 4) 3 16 := ⟨by decide +kernel, rfl⟩
theorem qX4_placeBehind_16 : Dc mX4_placeBehind 16 (.iconst 0) 1 17 := ⟨by decide +kernel, rfl⟩
theorem qX4_placeBehind_17 : Dc mX4_placeBehind 17 (.ireturn) 1 18 := ⟨by decide +kernel, rfl⟩

set_option maxRecDepth 20000 in
set_option maxHeartbeats 4000000 in
theorem w_X4_placeBehind {a0 : Nat} {x1 : Int32} {s0 : St} {r : Int32} (h_a0 : sh a0 = 4) (h : f_X4_placeBehind a0 x1 s0 = some r) : Ct mX4_placeBehind 0 [.ref a0, .int x1] s0 (some (.int r), s0) := by
  refine Ct.ofE (by decide +kernel) rfl ?_
  show E mX4_placeBehind 0 (some (.int r), s0) 0 [some (.ref a0), some (.int x1)] [] s0
  unfold f_X4_placeBehind at h
  refine e_iload_n qX4_placeBehind_0 rfl ?_
  refine e_iconst (nI 1) qX4_placeBehind_1 rfl ?_
  refine e_iadd qX4_placeBehind_2 ?_
  refine e_aload_n qX4_placeBehind_3 rfl ?_
  refine e_geti qX4_placeBehind_4 fl_X4_33 h_a0 kdq_4_10 h (fun v1 h => ?_)
  refine e_icmp_ge (tgt := 16) qX4_placeBehind_7 rfl h (fun _ h => ?_) (fun _ h => ?_)
  · refine e_iconst (nI 0) qX4_placeBehind_16 rfl ?_
    exact e_iret qX4_placeBehind_17 rfl (ret_p h)
  refine e_iload_n qX4_placeBehind_10 rfl ?_
  refine e_iconst (nI 1) qX4_placeBehind_11 rfl ?_
  refine e_iadd qX4_placeBehind_12 ?_
  refine e_goto (tgt := 17) qX4_placeBehind_13 rfl ?_
  exact e_iret qX4_placeBehind_17 rfl (ret_p h)

def f_X4_secondsOn_L4 (N : Nat) (c1 : Nat) (s0 : St) : Nat → Int32 → Int32 → Option (Int32)
  | 0, _, _ => none
  | n4 + 1, v2, v3 =>
    vl (s0.1 c1 10) fun v6 =>
    if v6 ≤ v3 then
      some v2
    else
    ald (s0.1 (rr c1 11)) 160 v3 fun v7 =>
    jn (fun (v8 : Int32) =>
      vl (v3 + (nI 1)) fun v10 =>
      f_X4_secondsOn_L4 N c1 s0 n4 v8 v10) fun j9 =>
    if v7 = 0 then
      j9 v2
    else
    vl (v2 + (nI 1)) fun v11 =>
    j9 v11

def f_X4_secondsOn (N : Nat) (a0 : Nat) (s0 : St) : Option (Int32) :=
  f_X4_secondsOn_L4 N a0 s0 N (nI 0) (nI 0)

theorem qX4_secondsOn_0 : Dc mX4_secondsOn 0 (.iconst 0) 1 1 := ⟨by decide +kernel, rfl⟩
theorem qX4_secondsOn_1 : Dc mX4_secondsOn 1 (.istore_n 1) 1 2 := ⟨by decide +kernel, rfl⟩
theorem qX4_secondsOn_2 : Dc mX4_secondsOn 2 (.iconst 0) 1 3 := ⟨by decide +kernel, rfl⟩
theorem qX4_secondsOn_3 : Dc mX4_secondsOn 3 (.istore_n 2) 1 4 := ⟨by decide +kernel, rfl⟩
theorem qX4_secondsOn_4 : Dc mX4_secondsOn 4 (.iload_n 2) 1 5 := ⟨by decide +kernel, rfl⟩
theorem qX4_secondsOn_5 : Dc mX4_secondsOn 5 (.aload_n 0) 1 6 := ⟨by decide +kernel, rfl⟩
theorem qX4_secondsOn_6 : Dc mX4_secondsOn 6 (.getfield 33) 3 9 := ⟨by decide +kernel, rfl⟩
theorem qX4_secondsOn_9 : Dc mX4_secondsOn 9 (.if_icmp .ge 21) 3 12 := ⟨by decide +kernel, rfl⟩
theorem qX4_secondsOn_12 : Dc mX4_secondsOn 12 (.aload_n 0) 1 13 := ⟨by decide +kernel, rfl⟩
theorem qX4_secondsOn_13 : Dc mX4_secondsOn 13 (.getfield 9) 3 16 := ⟨by decide +kernel, rfl⟩
theorem qX4_secondsOn_16 : Dc mX4_secondsOn 16 (.iload_n 2) 1 17 := ⟨by decide +kernel, rfl⟩
theorem qX4_secondsOn_17 : Dc mX4_secondsOn 17 (.baload) 1 18 := ⟨by decide +kernel, rfl⟩
theorem qX4_secondsOn_18 : Dc mX4_secondsOn 18 (.ifCond .eq 6) 3 21 := ⟨by decide +kernel, rfl⟩
theorem qX4_secondsOn_21 : Dc mX4_secondsOn 21 (.iinc 1 1) 3 24 := ⟨by decide +kernel, rfl⟩
theorem qX4_secondsOn_24 : Dc mX4_secondsOn 24 (.iinc 2 1) 3 27 := ⟨by decide +kernel, rfl⟩
theorem qX4_secondsOn_27 : Dc mX4_secondsOn 27 (.goto (-23)) 3 30 := ⟨by decide +kernel, rfl⟩
theorem qX4_secondsOn_30 : Dc mX4_secondsOn 30 (.iload_n 1) 1 31 := ⟨by decide +kernel, rfl⟩
theorem qX4_secondsOn_31 : Dc mX4_secondsOn 31 (.ireturn) 1 32 := ⟨by decide +kernel, rfl⟩

set_option maxRecDepth 20000 in
set_option maxHeartbeats 4000000 in
theorem w_X4_secondsOn_L4 {N : Nat} {c1 : Nat} {s0 : St}  {r : Int32} (h_c1 : sh c1 = 4)  : ∀ (n4 : Nat) (v2 : Int32) (v3 : Int32), f_X4_secondsOn_L4 N c1 s0 n4 v2 v3 = some r → E mX4_secondsOn 0 (some (.int r), s0) 4 [some (.ref c1), some (.int v2), some (.int v3)] [] s0 := by
  intro n4
  induction n4 with
  | zero =>
    intro v2 v3 h
    rw [f_X4_secondsOn_L4] at h; cases h
  | succ n4 ih5 =>
    intro v2 v3 h
    rw [f_X4_secondsOn_L4] at h
    refine e_iload_n qX4_secondsOn_4 rfl ?_
    refine e_aload_n qX4_secondsOn_5 rfl ?_
    refine e_geti qX4_secondsOn_6 fl_X4_33 h_c1 kdq_4_10 h (fun v6 h => ?_)
    refine e_icmp_ge (tgt := 30) qX4_secondsOn_9 rfl h (fun _ h => ?_) (fun _ h => ?_)
    · refine e_iload_n qX4_secondsOn_30 rfl ?_
      exact e_iret qX4_secondsOn_31 rfl (ret_p h)
    refine e_aload_n qX4_secondsOn_12 rfl ?_
    refine e_getr (rr c1 11) qX4_secondsOn_13 fl_X4_9 h_c1 kdq_4_11 rfl ?_
    refine e_iload_n qX4_secondsOn_16 rfl ?_
    refine e_zald qX4_secondsOn_17 (wt_4_11 _ h_c1).1 (wt_4_11 _ h_c1).2 h (fun v7 h => ?_)
    refine jn_e (fun j => ∀ (v8 : Int32), j v8 = some r → E mX4_secondsOn 0 (some (.int r), s0) 24 [some (.ref c1), some (.int v8), some (.int v3)] [] s0) h ?_ (fun j9 hj9 h => ?_)
    · intro v8 h
      refine vl_e h (fun h => ?_)
      obtain ⟨v10, ev10⟩ : ∃ y, v3 + (nI 1) = y := ⟨_, rfl⟩
      rw [ev10] at h
      refine e_iinc (nI 1) v10 (lv2 := [some (.ref c1), some (.int v8), some (.int v10)]) qX4_secondsOn_24 rfl rfl rfl ev10 rfl ?_
      refine e_goto (tgt := 4) qX4_secondsOn_27 rfl ?_
      exact e_weak (ih5 _ _ h) ⟨Or.inr rfl, Or.inr rfl, Or.inr rfl, trivial⟩
    refine e_if_eq (tgt := 24) qX4_secondsOn_18 rfl h (fun _ h => ?_) (fun _ h => ?_)
    · exact e_weak (hj9 _ h) ⟨Or.inr rfl, Or.inr rfl, Or.inr rfl, trivial⟩
    refine vl_e h (fun h => ?_)
    obtain ⟨v11, ev11⟩ : ∃ y, v2 + (nI 1) = y := ⟨_, rfl⟩
    rw [ev11] at h
    refine e_iinc (nI 1) v11 (lv2 := [some (.ref c1), some (.int v11), some (.int v3)]) qX4_secondsOn_21 rfl rfl rfl ev11 rfl ?_
    exact e_weak (hj9 _ h) ⟨Or.inr rfl, Or.inr rfl, Or.inr rfl, trivial⟩

set_option maxRecDepth 20000 in
set_option maxHeartbeats 4000000 in
theorem w_X4_secondsOn {N : Nat} {a0 : Nat} {s0 : St} {r : Int32} (h_a0 : sh a0 = 4) (h : f_X4_secondsOn N a0 s0 = some r) : Ct mX4_secondsOn 0 [.ref a0] s0 (some (.int r), s0) := by
  refine Ct.ofE (by decide +kernel) rfl ?_
  show E mX4_secondsOn 0 (some (.int r), s0) 0 [some (.ref a0), none, none] [] s0
  unfold f_X4_secondsOn at h
  refine e_iconst (nI 0) qX4_secondsOn_0 rfl ?_
  refine e_istore_n (lv2 := [some (.ref a0), some (.int (nI 0)), none]) qX4_secondsOn_1 rfl rfl rfl ?_
  refine e_iconst (nI 0) qX4_secondsOn_2 rfl ?_
  refine e_istore_n (lv2 := [some (.ref a0), some (.int (nI 0)), some (.int (nI 0))]) qX4_secondsOn_3 rfl rfl rfl ?_
  exact e_weak (w_X4_secondsOn_L4 h_a0  _ _ _ h) ⟨Or.inr rfl, Or.inr rfl, Or.inr rfl, trivial⟩

def f_X4_hasRowFrom_L5 (N : Nat) (c1 : Nat) (c2 : Nat) (s0 : St) : Nat → Int32 → Int32 → Option (Int32)
  | 0, _, _ => none
  | n5 + 1, v3, v4 =>
    vl (s0.1 c1 10) fun v7 =>
    if v7 ≤ v4 then
      some (nI 1)
    else
    ald (s0.1 (rr c1 11)) 160 v4 fun v8 =>
    ald (s0.1 (rr c2 11)) 160 v3 fun v9 =>
    if v8 = v9 then
      bp (f_X4_placeBehind c2 v3 s0) fun v10 =>
      vl (v4 + (nI 1)) fun v11 =>
      f_X4_hasRowFrom_L5 N c1 c2 s0 n5 v10 v11
    else
    some (nI 0)

def f_X4_hasRowFrom (N : Nat) (a0 : Nat) (a1 : Nat) (x2 : Int32) (s0 : St) : Option (Int32) :=
  f_X4_hasRowFrom_L5 N a0 a1 s0 N x2 (nI 0)

theorem qX4_hasRowFrom_0 : Dc mX4_hasRowFrom 0 (.iload_n 2) 1 1 := ⟨by decide +kernel, rfl⟩
theorem qX4_hasRowFrom_1 : Dc mX4_hasRowFrom 1 (.istore_n 3) 1 2 := ⟨by decide +kernel, rfl⟩
theorem qX4_hasRowFrom_2 : Dc mX4_hasRowFrom 2 (.iconst 0) 1 3 := ⟨by decide +kernel, rfl⟩
theorem qX4_hasRowFrom_3 : Dc mX4_hasRowFrom 3 (.istore 4) 2 5 := ⟨by decide +kernel, rfl⟩
theorem qX4_hasRowFrom_5 : Dc mX4_hasRowFrom 5 (.iload 4) 2 7 := ⟨by decide +kernel, rfl⟩
theorem qX4_hasRowFrom_7 : Dc mX4_hasRowFrom 7 (.aload_n 0) 1 8 := ⟨by decide +kernel, rfl⟩
theorem qX4_hasRowFrom_8 : Dc mX4_hasRowFrom 8 (.getfield 33) 3 11 := ⟨by decide +kernel, rfl⟩
theorem qX4_hasRowFrom_11 : Dc mX4_hasRowFrom 11 (.if_icmp .ge 33) 3 14 := ⟨by decide +kernel, rfl⟩
theorem qX4_hasRowFrom_14 : Dc mX4_hasRowFrom 14 (.aload_n 0) 1 15 := ⟨by decide +kernel, rfl⟩
theorem qX4_hasRowFrom_15 : Dc mX4_hasRowFrom 15 (.getfield 9) 3 18 := ⟨by decide +kernel, rfl⟩
theorem qX4_hasRowFrom_18 : Dc mX4_hasRowFrom 18 (.iload 4) 2 20 := ⟨by decide +kernel, rfl⟩
theorem qX4_hasRowFrom_20 : Dc mX4_hasRowFrom 20 (.baload) 1 21 := ⟨by decide +kernel, rfl⟩
theorem qX4_hasRowFrom_21 : Dc mX4_hasRowFrom 21 (.aload_n 1) 1 22 := ⟨by decide +kernel, rfl⟩
theorem qX4_hasRowFrom_22 : Dc mX4_hasRowFrom 22 (.getfield 9) 3 25 := ⟨by decide +kernel, rfl⟩
theorem qX4_hasRowFrom_25 : Dc mX4_hasRowFrom 25 (.iload_n 3) 1 26 := ⟨by decide +kernel, rfl⟩
theorem qX4_hasRowFrom_26 : Dc mX4_hasRowFrom 26 (.baload) 1 27 := ⟨by decide +kernel, rfl⟩
theorem qX4_hasRowFrom_27 : Dc mX4_hasRowFrom 27 (.if_icmp .eq 5) 3 30 := ⟨by decide +kernel, rfl⟩
theorem qX4_hasRowFrom_30 : Dc mX4_hasRowFrom 30 (.iconst 0) 1 31 := ⟨by decide +kernel, rfl⟩
theorem qX4_hasRowFrom_31 : Dc mX4_hasRowFrom 31 (.ireturn) 1 32 := ⟨by decide +kernel, rfl⟩
theorem qX4_hasRowFrom_32 : Dc mX4_hasRowFrom 32 (.aload_n 1) 1 33 := ⟨by decide +kernel, rfl⟩
theorem qX4_hasRowFrom_33 : Dc mX4_hasRowFrom 33 (.iload_n 3) 1 34 := ⟨by decide +kernel, rfl⟩
theorem qX4_hasRowFrom_34 : Dc mX4_hasRowFrom 34 (.invokevirtual 75) 3 37 := ⟨by decide +kernel, rfl⟩
theorem qX4_hasRowFrom_37 : Dc mX4_hasRowFrom 37 (.istore_n 3) 1 38 := ⟨by decide +kernel, rfl⟩
theorem qX4_hasRowFrom_38 : Dc mX4_hasRowFrom 38 (.iinc 4 1) 3 41 := ⟨by decide +kernel, rfl⟩
theorem qX4_hasRowFrom_41 : Dc mX4_hasRowFrom 41 (.goto (-36)) 3 44 := ⟨by decide +kernel, rfl⟩
theorem qX4_hasRowFrom_44 : Dc mX4_hasRowFrom 44 (.iconst 1) 1 45 := ⟨by decide +kernel, rfl⟩
theorem qX4_hasRowFrom_45 : Dc mX4_hasRowFrom 45 (.ireturn) 1 46 := ⟨by decide +kernel, rfl⟩

set_option maxRecDepth 20000 in
set_option maxHeartbeats 4000000 in
theorem w_X4_hasRowFrom_L5 {N : Nat} {c1 : Nat} {c2 : Nat} {s0 : St}  {r : Int32} (h_c1 : sh c1 = 4) (h_c2 : sh c2 = 4)  : ∀ (n5 : Nat) (v3 : Int32) (v4 : Int32), f_X4_hasRowFrom_L5 N c1 c2 s0 n5 v3 v4 = some r → E mX4_hasRowFrom 1 (some (.int r), s0) 5 [some (.ref c1), some (.ref c2), none, some (.int v3), some (.int v4)] [] s0 := by
  intro n5
  induction n5 with
  | zero =>
    intro v3 v4 h
    rw [f_X4_hasRowFrom_L5] at h; cases h
  | succ n5 ih6 =>
    intro v3 v4 h
    rw [f_X4_hasRowFrom_L5] at h
    refine e_iload qX4_hasRowFrom_5 rfl ?_
    refine e_aload_n qX4_hasRowFrom_7 rfl ?_
    refine e_geti qX4_hasRowFrom_8 fl_X4_33 h_c1 kdq_4_10 h (fun v7 h => ?_)
    refine e_icmp_ge (tgt := 44) qX4_hasRowFrom_11 rfl h (fun _ h => ?_) (fun _ h => ?_)
    · refine e_iconst (nI 1) qX4_hasRowFrom_44 rfl ?_
      exact e_zret qX4_hasRowFrom_45 rfl (by decide) (ret_p h)
    refine e_aload_n qX4_hasRowFrom_14 rfl ?_
    refine e_getr (rr c1 11) qX4_hasRowFrom_15 fl_X4_9 h_c1 kdq_4_11 rfl ?_
    refine e_iload qX4_hasRowFrom_18 rfl ?_
    refine e_zald qX4_hasRowFrom_20 (wt_4_11 _ h_c1).1 (wt_4_11 _ h_c1).2 h (fun v8 h => ?_)
    refine e_aload_n qX4_hasRowFrom_21 rfl ?_
    refine e_getr (rr c2 11) qX4_hasRowFrom_22 fl_X4_9 h_c2 kdq_4_11 rfl ?_
    refine e_iload_n qX4_hasRowFrom_25 rfl ?_
    refine e_zald qX4_hasRowFrom_26 (wt_4_11 _ h_c2).1 (wt_4_11 _ h_c2).2 h (fun v9 h => ?_)
    refine e_icmp_eq (tgt := 32) qX4_hasRowFrom_27 rfl h (fun _ h => ?_) (fun _ h => ?_)
    · refine e_aload_n qX4_hasRowFrom_32 rfl ?_
      refine e_iload_n qX4_hasRowFrom_33 rfl ?_
      obtain ⟨v10, hc, h⟩ := bp_e h
      refine e_cVi1 qX4_hasRowFrom_34 mv_X4_75 h_c2 rfl rfl (w_X4_placeBehind h_c2 hc) ?_
      refine e_istore_n (lv2 := [some (.ref c1), some (.ref c2), none, some (.int v10), some (.int v4)]) qX4_hasRowFrom_37 rfl rfl rfl ?_
      refine vl_e h (fun h => ?_)
      obtain ⟨v11, ev11⟩ : ∃ y, v4 + (nI 1) = y := ⟨_, rfl⟩
      rw [ev11] at h
      refine e_iinc (nI 1) v11 (lv2 := [some (.ref c1), some (.ref c2), none, some (.int v10), some (.int v11)]) qX4_hasRowFrom_38 rfl rfl rfl ev11 rfl ?_
      refine e_goto (tgt := 5) qX4_hasRowFrom_41 rfl ?_
      exact e_weak (ih6 _ _ h) ⟨Or.inr rfl, Or.inr rfl, Or.inl rfl, Or.inr rfl, Or.inr rfl, trivial⟩
    refine e_iconst (nI 0) qX4_hasRowFrom_30 rfl ?_
    exact e_zret qX4_hasRowFrom_31 rfl (by decide) (ret_p h)

set_option maxRecDepth 20000 in
set_option maxHeartbeats 4000000 in
theorem w_X4_hasRowFrom {N : Nat} {a0 : Nat} {a1 : Nat} {x2 : Int32} {s0 : St} {r : Int32} (h_a0 : sh a0 = 4) (h_a1 : sh a1 = 4) (h : f_X4_hasRowFrom N a0 a1 x2 s0 = some r) : Ct mX4_hasRowFrom 1 [.ref a0, .ref a1, .int x2] s0 (some (.int r), s0) := by
  refine Ct.ofE (by decide +kernel) rfl ?_
  show E mX4_hasRowFrom 1 (some (.int r), s0) 0 [some (.ref a0), some (.ref a1), some (.int x2), none, none] [] s0
  unfold f_X4_hasRowFrom at h
  refine e_iload_n qX4_hasRowFrom_0 rfl ?_
  refine e_istore_n (lv2 := [some (.ref a0), some (.ref a1), some (.int x2), some (.int x2), none]) qX4_hasRowFrom_1 rfl rfl rfl ?_
  refine e_iconst (nI 0) qX4_hasRowFrom_2 rfl ?_
  refine e_istore (lv2 := [some (.ref a0), some (.ref a1), some (.int x2), some (.int x2), some (.int (nI 0))]) qX4_hasRowFrom_3 rfl rfl rfl ?_
  exact e_weak (w_X4_hasRowFrom_L5 h_a0 h_a1  _ _ _ h) ⟨Or.inr rfl, Or.inr rfl, Or.inl rfl, Or.inr rfl, Or.inr rfl, trivial⟩

def f_X5_clear  (s0 : St) : Option (St) :=
  vl (sI s0 75 2 (nI 0)) fun s1 =>
  some s1

theorem qX5_clear_0 : Dc mX5_clear 0 (.aload_n 0) 1 1 := ⟨by decide +kernel, rfl⟩
theorem qX5_clear_1 : Dc mX5_clear 1 (.iconst 0) 1 2 := ⟨by decide +kernel, rfl⟩
theorem qX5_clear_2 : Dc mX5_clear 2 (.putfield 20) 3 5 := ⟨by decide +kernel, rfl⟩
theorem qX5_clear_5 : Dc mX5_clear 5 (.return_) 1 6 := ⟨by decide +kernel, rfl⟩

set_option maxRecDepth 20000 in
set_option maxHeartbeats 4000000 in
theorem w_X5_clear  {s0 : St} {sr : St} (h : f_X5_clear  s0 = some sr) : Ct mX5_clear 0 [.ref 75] s0 (none, sr) := by
  refine Ct.ofE (by decide +kernel) rfl ?_
  show E mX5_clear 0 (none, sr) 0 [some (.ref 75)] [] s0
  unfold f_X5_clear at h
  refine e_aload_n qX5_clear_0 rfl ?_
  refine e_iconst (nI 0) qX5_clear_1 rfl ?_
  refine e_puti qX5_clear_2 fp_X5_20 shq_75 kdq_5_2 h (fun s1 h => ?_)
  exact e_vret qX5_clear_5 rfl (ret_v h)

def f_X5_keep  (s0 : St) : Option (St) :=
  vl (s0.1 75 1) fun v1 =>
  rm_ (v1 + (nI 1)) (nI 9) fun v2 =>
  vl (sI s0 75 1 v2) fun s3 =>
  vl (s3.1 75 2) fun v4 =>
  vl (mn (v4 + (nI 1)) (nI 8)) fun v5 =>
  vl (sI s3 75 2 v5) fun s6 =>
  some s6

theorem qX5_keep_0 : Dc mX5_keep 0 (.aload_n 0) 1 1 := ⟨by decide +kernel, rfl⟩
theorem qX5_keep_1 : Dc mX5_keep 1 (.aload_n 0) 1 2 := ⟨by decide +kernel, rfl⟩
theorem qX5_keep_2 : Dc mX5_keep 2 (.getfield 24) 3 5 := ⟨by decide +kernel, rfl⟩
theorem qX5_keep_5 : Dc mX5_keep 5 (.iconst 1) 1 6 := ⟨by decide +kernel, rfl⟩
theorem qX5_keep_6 : Dc mX5_keep 6 (.iadd) 1 7 := ⟨by decide +kernel, rfl⟩
theorem qX5_keep_7 : Dc mX5_keep 7 (.bipush 9) 2 9 := ⟨by decide +kernel, rfl⟩
theorem qX5_keep_9 : Dc mX5_keep 9 (.irem) 1 10 := ⟨by decide +kernel, rfl⟩
theorem qX5_keep_10 : Dc mX5_keep 10 (.putfield 24) 3 13 := ⟨by decide +kernel, rfl⟩
theorem qX5_keep_13 : Dc mX5_keep 13 (.aload_n 0) 1 14 := ⟨by decide +kernel, rfl⟩
theorem qX5_keep_14 : Dc mX5_keep 14 (.aload_n 0) 1 15 := ⟨by decide +kernel, rfl⟩
theorem qX5_keep_15 : Dc mX5_keep 15 (.getfield 20) 3 18 := ⟨by decide +kernel, rfl⟩
theorem qX5_keep_18 : Dc mX5_keep 18 (.iconst 1) 1 19 := ⟨by decide +kernel, rfl⟩
theorem qX5_keep_19 : Dc mX5_keep 19 (.iadd) 1 20 := ⟨by decide +kernel, rfl⟩
theorem qX5_keep_20 : Dc mX5_keep 20 (.bipush 8) 2 22 := ⟨by decide +kernel, rfl⟩
theorem qX5_keep_22 : Dc mX5_keep 22 (.invokestatic 31) 3 25 := ⟨by decide +kernel, rfl⟩
theorem qX5_keep_25 : Dc mX5_keep 25 (.putfield 20) 3 28 := ⟨by decide +kernel, rfl⟩
theorem qX5_keep_28 : Dc mX5_keep 28 (.return_) 1 29 := ⟨by decide +kernel, rfl⟩

set_option maxRecDepth 20000 in
set_option maxHeartbeats 4000000 in
theorem w_X5_keep  {s0 : St} {sr : St} (h : f_X5_keep  s0 = some sr) : Ct mX5_keep 1 [.ref 75] s0 (none, sr) := by
  refine Ct.ofE (by decide +kernel) rfl ?_
  show E mX5_keep 1 (none, sr) 0 [some (.ref 75)] [] s0
  unfold f_X5_keep at h
  refine e_aload_n qX5_keep_0 rfl ?_
  refine e_aload_n qX5_keep_1 rfl ?_
  refine e_geti qX5_keep_2 fl_X5_24 shq_75 kdq_5_1 h (fun v1 h => ?_)
  refine e_iconst (nI 1) qX5_keep_5 rfl ?_
  refine e_iadd qX5_keep_6 ?_
  refine e_bipush (nI 9) qX5_keep_7 rfl ?_
  refine e_irem qX5_keep_9 h (fun v2 h => ?_)
  refine e_puti qX5_keep_10 fp_X5_24 shq_75 kdq_5_1 h (fun s3 h => ?_)
  refine e_aload_n qX5_keep_13 rfl ?_
  refine e_aload_n qX5_keep_14 rfl ?_
  refine e_geti qX5_keep_15 fl_X5_20 shq_75 kdq_5_2 h (fun v4 h => ?_)
  refine e_iconst (nI 1) qX5_keep_18 rfl ?_
  refine e_iadd qX5_keep_19 ?_
  refine e_bipush (nI 8) qX5_keep_20 rfl ?_
  refine e_mmin qX5_keep_22 cm_X5_31 (by decide) rfl h (fun v5 h => ?_)
  refine e_puti qX5_keep_25 fp_X5_20 shq_75 kdq_5_2 h (fun s6 h => ?_)
  exact e_vret qX5_keep_28 rfl (ret_v h)

def f_X6_begin_L23 (N : Nat) (c5 : Nat) (k8 : St → Option (St)) : Nat → Int32 → St → Option (St)
  | 0, _, _ => none
  | n10 + 1, v6, s7 =>
    vl (s7.1 3 2) fun v12 =>
    if v12 ≤ v6 then
      k8 s7
    else
    ald (rr 4) 8 v6 fun v13 =>
    vl (s7.1 v13 5) fun v15 =>
    ald (fun j => sI s7 (rr c5 4) j v15) 8 v6 fun s16 =>
    ald (rr 4) 8 v6 fun v17 =>
    vl (s16.1 v17 6) fun v19 =>
    ald (fun j => sI s16 (rr c5 5) j v19) 8 v6 fun s20 =>
    vl (v6 + (nI 1)) fun v21 =>
    f_X6_begin_L23 N c5 k8 n10 v21 s20

def f_X6_begin_L78 (N : Nat) (c23 : Nat) : Nat → Int32 → St → Option (St)
  | 0, _, _ => none
  | n26 + 1, v24, s25 =>
    vl (s25.1 3 3) fun v28 =>
    if v28 ≤ v24 then
      some s25
    else
    ald (rr 5) 4 v24 fun v29 =>
    vl (s25.1 v29 1) fun v31 =>
    ald (fun j => sI s25 (rr c23 6) j v31) 4 v24 fun s32 =>
    ald (rr 5) 4 v24 fun v33 =>
    vl (s32.1 v33 2) fun v35 =>
    ald (fun j => sI s32 (rr c23 7) j v35) 4 v24 fun s36 =>
    ald (rr 5) 4 v24 fun v37 =>
    vl (s36.1 v37 3) fun v39 =>
    ald (fun j => sI s36 (rr c23 8) j v39) 4 v24 fun s40 =>
    vl (v24 + (nI 1)) fun v41 =>
    f_X6_begin_L78 N c23 n26 v41 s40

def f_X6_begin (N : Nat) (a0 : Nat) (s0 : St) : Option (St) :=
  vl (sI s0 a0 1 (nI 0)) fun s1 =>
  vl (s1.1 3 4) fun v2 =>
  vl (sI s1 a0 2 v2) fun s3 =>
  vl (sI s3 a0 3 (nI 0)) fun s4 =>
  f_X6_begin_L23 N a0 (fun (s22 : St) =>
    f_X6_begin_L78 N a0 N (nI 0) s22) N (nI 0) s4

theorem qX6_begin_0 : Dc mX6_begin 0 (.aload_n 0) 1 1 := ⟨by decide +kernel, rfl⟩
theorem qX6_begin_1 : Dc mX6_begin 1 (.iconst 0) 1 2 := ⟨by decide +kernel, rfl⟩
theorem qX6_begin_2 : Dc mX6_begin 2 (.putfield 31) 3 5 := ⟨by decide +kernel, rfl⟩
theorem qX6_begin_5 : Dc mX6_begin 5 (.aload_n 0) 1 6 := ⟨by decide +kernel, rfl⟩
theorem qX6_begin_6 : Dc mX6_begin 6 (.aload_n 0) 1 7 := ⟨by decide +kernel, rfl⟩
theorem qX6_begin_7 : Dc mX6_begin 7 (.getfield 27) 3 10 := ⟨by decide +kernel, rfl⟩
theorem qX6_begin_10 : Dc mX6_begin 10 (.getfield 35) 3 13 := ⟨by decide +kernel, rfl⟩
theorem qX6_begin_13 : Dc mX6_begin 13 (.putfield 40) 3 16 := ⟨by decide +kernel, rfl⟩
theorem qX6_begin_16 : Dc mX6_begin 16 (.aload_n 0) 1 17 := ⟨by decide +kernel, rfl⟩
theorem qX6_begin_17 : Dc mX6_begin 17 (.iconst 0) 1 18 := ⟨by decide +kernel, rfl⟩
theorem qX6_begin_18 : Dc mX6_begin 18 (.putfield 43) 3 21 := ⟨by decide +kernel, rfl⟩
theorem qX6_begin_21 : Dc mX6_begin 21 (.iconst 0) 1 22 := ⟨by decide +kernel, rfl⟩
theorem qX6_begin_22 : Dc mX6_begin 22 (.istore_n 1) 1 23 := ⟨by decide +kernel, rfl⟩
theorem qX6_begin_23 : Dc mX6_begin 23 (.iload_n 1) 1 24 := ⟨by decide +kernel, rfl⟩
theorem qX6_begin_24 : Dc mX6_begin 24 (.aload_n 0) 1 25 := ⟨by decide +kernel, rfl⟩
theorem qX6_begin_25 : Dc mX6_begin 25 (.getfield 27) 3 28 := ⟨by decide +kernel, rfl⟩
theorem qX6_begin_28 : Dc mX6_begin 28 (.getfield 46) 3 31 := ⟨by decide +kernel, rfl⟩
theorem qX6_begin_31 : Dc mX6_begin 31 (.if_icmp .ge 45) 3 34 := ⟨by decide +kernel, rfl⟩
theorem qX6_begin_34 : Dc mX6_begin 34 (.aload_n 0) 1 35 := ⟨by decide +kernel, rfl⟩
theorem qX6_begin_35 : Dc mX6_begin 35 (.getfield 9) 3 38 := ⟨by decide +kernel, rfl⟩
theorem qX6_begin_38 : Dc mX6_begin 38 (.iload_n 1) 1 39 := ⟨by decide +kernel, rfl⟩
theorem qX6_begin_39 : Dc mX6_begin 39 (.aload_n 0) 1 40 := ⟨by decide +kernel, rfl⟩
theorem qX6_begin_40 : Dc mX6_begin 40 (.getfield 27) 3 43 := ⟨by decide +kernel, rfl⟩
theorem qX6_begin_43 : Dc mX6_begin 43 (.getfield 49) 3 46 := ⟨by decide +kernel, rfl⟩
theorem qX6_begin_46 : Dc mX6_begin 46 (.iload_n 1) 1 47 := ⟨by decide +kernel, rfl⟩
theorem qX6_begin_47 : Dc mX6_begin 47 (.aaload) 1 48 := ⟨by decide +kernel, rfl⟩
theorem qX6_begin_48 : Dc mX6_begin 48 (.getfield 53) 3 51 := ⟨by decide +kernel, rfl⟩
theorem qX6_begin_51 : Dc mX6_begin 51 (.iastore) 1 52 := ⟨by decide +kernel, rfl⟩
theorem qX6_begin_52 : Dc mX6_begin 52 (.aload_n 0) 1 53 := ⟨by decide +kernel, rfl⟩
theorem qX6_begin_53 : Dc mX6_begin 53 (.getfield 15) 3 56 := ⟨by decide +kernel, rfl⟩
theorem qX6_begin_56 : Dc mX6_begin 56 (.iload_n 1) 1 57 := ⟨by decide +kernel, rfl⟩
theorem qX6_begin_57 : Dc mX6_begin 57 (.aload_n 0) 1 58 := ⟨by decide +kernel, rfl⟩
theorem qX6_begin_58 : Dc mX6_begin 58 (.getfield 27) 3 61 := ⟨by decide +kernel, rfl⟩
theorem qX6_begin_61 : Dc mX6_begin 61 (.getfield 49) 3 64 := ⟨by decide +kernel, rfl⟩
theorem qX6_begin_64 : Dc mX6_begin 64 (.iload_n 1) 1 65 := ⟨by decide +kernel, rfl⟩
theorem qX6_begin_65 : Dc mX6_begin 65 (.aaload) 1 66 := ⟨by decide +kernel, rfl⟩
theorem qX6_begin_66 : Dc mX6_begin 66 (.getfield 57) 3 69 := ⟨by decide +kernel, rfl⟩
theorem qX6_begin_69 : Dc mX6_begin 69 (.iastore) 1 70 := ⟨by decide +kernel, rfl⟩
theorem qX6_begin_70 : Dc mX6_begin 70 (.iinc 1 1) 3 73 := ⟨by decide +kernel, rfl⟩
theorem qX6_begin_73 : Dc mX6_begin 73 (.goto (-50)) 3 76 := ⟨by decide +kernel, rfl⟩
theorem qX6_begin_76 : Dc mX6_begin 76 (.iconst 0) 1 77 := ⟨by decide +kernel, rfl⟩
theorem qX6_begin_77 : Dc mX6_begin 77 (.istore_n 1) 1 78 := ⟨by decide +kernel, rfl⟩
theorem qX6_begin_78 : Dc mX6_begin 78 (.iload_n 1) 1 79 := ⟨by decide +kernel, rfl⟩
theorem qX6_begin_79 : Dc mX6_begin 79 (.aload_n 0) 1 80 := ⟨by decide +kernel, rfl⟩
theorem qX6_begin_80 : Dc mX6_begin 80 (.getfield 27) 3 83 := ⟨by decide +kernel, rfl⟩
theorem qX6_begin_83 : Dc mX6_begin 83 (.getfield 60) 3 86 := ⟨by decide +kernel, rfl⟩
theorem qX6_begin_86 : Dc mX6_begin 86 (.if_icmp .ge 63) 3 89 := ⟨by decide +kernel, rfl⟩
theorem qX6_begin_89 : Dc mX6_begin 89 (.aload_n 0) 1 90 := ⟨by decide +kernel, rfl⟩
theorem qX6_begin_90 : Dc mX6_begin 90 (.getfield 18) 3 93 := ⟨by decide +kernel, rfl⟩
theorem qX6_begin_93 : Dc mX6_begin 93 (.iload_n 1) 1 94 := ⟨by decide +kernel, rfl⟩
theorem qX6_begin_94 : Dc mX6_begin 94 (.aload_n 0) 1 95 := ⟨by decide +kernel, rfl⟩
theorem qX6_begin_95 : Dc mX6_begin 95 (.getfield 27) 3 98 := ⟨by decide +kernel, rfl⟩
theorem qX6_begin_98 : Dc mX6_begin 98 (.getfield 63) 3 101 := ⟨by decide +kernel, rfl⟩
theorem qX6_begin_101 : Dc mX6_begin 101 (.iload_n 1) 1 102 := ⟨by decide +kernel, rfl⟩
theorem qX6_begin_102 : Dc mX6_begin 102 (.aaload) 1 103 := ⟨by decide +kernel, rfl⟩
theorem qX6_begin_103 : Dc mX6_begin 103 (.getfield 67) 3 106 := ⟨by decide +kernel, rfl⟩
theorem qX6_begin_106 : Dc mX6_begin 106 (.iastore) 1 107 := ⟨by decide +kernel, rfl⟩
theorem qX6_begin_107 : Dc mX6_begin 107 (.aload_n 0) 1 108 := ⟨by decide +kernel, rfl⟩
theorem qX6_begin_108 : Dc mX6_begin 108 (.getfield 21) 3 111 := ⟨by decide +kernel, rfl⟩
theorem qX6_begin_111 : Dc mX6_begin 111 (.iload_n 1) 1 112 := ⟨by decide +kernel, rfl⟩
theorem qX6_begin_112 : Dc mX6_begin 112 (.aload_n 0) 1 113 := ⟨by decide +kernel, rfl⟩
theorem qX6_begin_113 : Dc mX6_begin 113 (.getfield 27) 3 116 := ⟨by decide +kernel, rfl⟩
theorem qX6_begin_116 : Dc mX6_begin 116 (.getfield 63) 3 119 := ⟨by decide +kernel, rfl⟩
theorem qX6_begin_119 : Dc mX6_begin 119 (.iload_n 1) 1 120 := ⟨by decide +kernel, rfl⟩
theorem qX6_begin_120 : Dc mX6_begin 120 (.aaload) 1 121 := ⟨by decide +kernel, rfl⟩
theorem qX6_begin_121 : Dc mX6_begin 121 (.getfield 72) 3 124 := ⟨by decide +kernel, rfl⟩
theorem qX6_begin_124 : Dc mX6_begin 124 (.iastore) 1 125 := ⟨by decide +kernel, rfl⟩
theorem qX6_begin_125 : Dc mX6_begin 125 (.aload_n 0) 1 126 := ⟨by decide +kernel, rfl⟩
theorem qX6_begin_126 : Dc mX6_begin 126 (.getfield 24) 3 129 := ⟨by decide +kernel, rfl⟩
theorem qX6_begin_129 : Dc mX6_begin 129 (.iload_n 1) 1 130 := ⟨by decide +kernel, rfl⟩
theorem qX6_begin_130 : Dc mX6_begin 130 (.aload_n 0) 1 131 := ⟨by decide +kernel, rfl⟩
theorem qX6_begin_131 : Dc mX6_begin 131 (.getfield 27) 3 134 := ⟨by decide +kernel, rfl⟩
theorem qX6_begin_134 : Dc mX6_begin 134 (.getfield 63) 3 137 := ⟨by decide +kernel, rfl⟩
theorem qX6_begin_137 : Dc mX6_begin 137 (.iload_n 1) 1 138 := ⟨by decide +kernel, rfl⟩
theorem qX6_begin_138 : Dc mX6_begin 138 (.aaload) 1 139 := ⟨by decide +kernel, rfl⟩
theorem qX6_begin_139 : Dc mX6_begin 139 (.getfield 75) 3 142 := ⟨by decide +kernel, rfl⟩
theorem qX6_begin_142 : Dc mX6_begin 142 (.iastore) 1 143 := ⟨by decide +kernel, rfl⟩
theorem qX6_begin_143 : Dc mX6_begin 143 (.iinc 1 1) 3 146 := ⟨by decide +kernel, rfl⟩
theorem qX6_begin_146 : Dc mX6_begin 146 (.goto (-68)) 3 149 := ⟨by decide +kernel, rfl⟩
theorem qX6_begin_149 : Dc mX6_begin 149 (.return_) 1 150 := ⟨by decide +kernel, rfl⟩

set_option maxRecDepth 20000 in
set_option maxHeartbeats 4000000 in
theorem w_X6_begin_L23 {N : Nat} {c5 : Nat} {k8 : St → Option (St)} {sr : St} (h_c5 : sh c5 = 6) (hk8 : ∀ (s9 : St), k8 s9 = some sr → E mX6_begin 0 (none, sr) 76 [some (.ref c5), none] [] s9) : ∀ (n10 : Nat) (v6 : Int32) (s7 : St), f_X6_begin_L23 N c5 k8 n10 v6 s7 = some sr → E mX6_begin 0 (none, sr) 23 [some (.ref c5), some (.int v6)] [] s7 := by
  intro n10
  induction n10 with
  | zero =>
    intro v6 s7 h
    rw [f_X6_begin_L23] at h; cases h
  | succ n10 ih11 =>
    intro v6 s7 h
    rw [f_X6_begin_L23] at h
    refine e_iload_n qX6_begin_23 rfl ?_
    refine e_aload_n qX6_begin_24 rfl ?_
    refine e_getr 3 qX6_begin_25 fl_X6_27 h_c5 kdq_6_0 (wq_6_0 _ h_c5) ?_
    refine e_geti qX6_begin_28 fl_X6_46 shq_3 kdq_1_2 h (fun v12 h => ?_)
    refine e_icmp_ge (tgt := 76) qX6_begin_31 rfl h (fun _ h => ?_) (fun _ h => ?_)
    · exact e_weak (hk8 _ h) ⟨Or.inr rfl, Or.inl rfl, trivial⟩
    refine e_aload_n qX6_begin_34 rfl ?_
    refine e_getr (rr c5 4) qX6_begin_35 fl_X6_9 h_c5 kdq_6_4 rfl ?_
    refine e_iload_n qX6_begin_38 rfl ?_
    refine e_aload_n qX6_begin_39 rfl ?_
    refine e_getr 3 qX6_begin_40 fl_X6_27 h_c5 kdq_6_0 (wq_6_0 _ h_c5) ?_
    refine e_getr 4 qX6_begin_43 fl_X6_49 shq_3 kdq_1_0 rrq_3_0 ?_
    refine e_iload_n qX6_begin_46 rfl ?_
    refine e_rald24 qX6_begin_47 shq_4 lnq_4 h (fun i14 hi14 h => ?_)
    refine e_geti qX6_begin_48 fl_X6_53 (we_24 _ shq_4 _ hi14) kdq_4_5 h (fun v15 h => ?_)
    refine e_iast qX6_begin_51 (wt_6_4 _ h_c5).1 (wt_6_4 _ h_c5).2 h (fun s16 h => ?_)
    refine e_aload_n qX6_begin_52 rfl ?_
    refine e_getr (rr c5 5) qX6_begin_53 fl_X6_15 h_c5 kdq_6_5 rfl ?_
    refine e_iload_n qX6_begin_56 rfl ?_
    refine e_aload_n qX6_begin_57 rfl ?_
    refine e_getr 3 qX6_begin_58 fl_X6_27 h_c5 kdq_6_0 (wq_6_0 _ h_c5) ?_
    refine e_getr 4 qX6_begin_61 fl_X6_49 shq_3 kdq_1_0 rrq_3_0 ?_
    refine e_iload_n qX6_begin_64 rfl ?_
    refine e_rald24 qX6_begin_65 shq_4 lnq_4 h (fun i18 hi18 h => ?_)
    refine e_geti qX6_begin_66 fl_X6_57 (we_24 _ shq_4 _ hi18) kdq_4_6 h (fun v19 h => ?_)
    refine e_iast qX6_begin_69 (wt_6_5 _ h_c5).1 (wt_6_5 _ h_c5).2 h (fun s20 h => ?_)
    refine vl_e h (fun h => ?_)
    obtain ⟨v21, ev21⟩ : ∃ y, v6 + (nI 1) = y := ⟨_, rfl⟩
    rw [ev21] at h
    refine e_iinc (nI 1) v21 (lv2 := [some (.ref c5), some (.int v21)]) qX6_begin_70 rfl rfl rfl ev21 rfl ?_
    refine e_goto (tgt := 23) qX6_begin_73 rfl ?_
    exact e_weak (ih11 _ _ h) ⟨Or.inr rfl, Or.inr rfl, trivial⟩

set_option maxRecDepth 20000 in
set_option maxHeartbeats 4000000 in
theorem w_X6_begin_L78 {N : Nat} {c23 : Nat}  {sr : St} (h_c23 : sh c23 = 6)  : ∀ (n26 : Nat) (v24 : Int32) (s25 : St), f_X6_begin_L78 N c23 n26 v24 s25 = some sr → E mX6_begin 0 (none, sr) 78 [some (.ref c23), some (.int v24)] [] s25 := by
  intro n26
  induction n26 with
  | zero =>
    intro v24 s25 h
    rw [f_X6_begin_L78] at h; cases h
  | succ n26 ih27 =>
    intro v24 s25 h
    rw [f_X6_begin_L78] at h
    refine e_iload_n qX6_begin_78 rfl ?_
    refine e_aload_n qX6_begin_79 rfl ?_
    refine e_getr 3 qX6_begin_80 fl_X6_27 h_c23 kdq_6_0 (wq_6_0 _ h_c23) ?_
    refine e_geti qX6_begin_83 fl_X6_60 shq_3 kdq_1_3 h (fun v28 h => ?_)
    refine e_icmp_ge (tgt := 149) qX6_begin_86 rfl h (fun _ h => ?_) (fun _ h => ?_)
    · exact e_vret qX6_begin_149 rfl (ret_v h)
    refine e_aload_n qX6_begin_89 rfl ?_
    refine e_getr (rr c23 6) qX6_begin_90 fl_X6_18 h_c23 kdq_6_6 rfl ?_
    refine e_iload_n qX6_begin_93 rfl ?_
    refine e_aload_n qX6_begin_94 rfl ?_
    refine e_getr 3 qX6_begin_95 fl_X6_27 h_c23 kdq_6_0 (wq_6_0 _ h_c23) ?_
    refine e_getr 5 qX6_begin_98 fl_X6_63 shq_3 kdq_1_1 rrq_3_1 ?_
    refine e_iload_n qX6_begin_101 rfl ?_
    refine e_rald25 qX6_begin_102 shq_5 lnq_5 h (fun i30 hi30 h => ?_)
    refine e_geti qX6_begin_103 fl_X6_67 (we_25 _ shq_5 _ hi30) kdq_8_1 h (fun v31 h => ?_)
    refine e_iast qX6_begin_106 (wt_6_6 _ h_c23).1 (wt_6_6 _ h_c23).2 h (fun s32 h => ?_)
    refine e_aload_n qX6_begin_107 rfl ?_
    refine e_getr (rr c23 7) qX6_begin_108 fl_X6_21 h_c23 kdq_6_7 rfl ?_
    refine e_iload_n qX6_begin_111 rfl ?_
    refine e_aload_n qX6_begin_112 rfl ?_
    refine e_getr 3 qX6_begin_113 fl_X6_27 h_c23 kdq_6_0 (wq_6_0 _ h_c23) ?_
    refine e_getr 5 qX6_begin_116 fl_X6_63 shq_3 kdq_1_1 rrq_3_1 ?_
    refine e_iload_n qX6_begin_119 rfl ?_
    refine e_rald25 qX6_begin_120 shq_5 lnq_5 h (fun i34 hi34 h => ?_)
    refine e_geti qX6_begin_121 fl_X6_72 (we_25 _ shq_5 _ hi34) kdq_8_2 h (fun v35 h => ?_)
    refine e_iast qX6_begin_124 (wt_6_7 _ h_c23).1 (wt_6_7 _ h_c23).2 h (fun s36 h => ?_)
    refine e_aload_n qX6_begin_125 rfl ?_
    refine e_getr (rr c23 8) qX6_begin_126 fl_X6_24 h_c23 kdq_6_8 rfl ?_
    refine e_iload_n qX6_begin_129 rfl ?_
    refine e_aload_n qX6_begin_130 rfl ?_
    refine e_getr 3 qX6_begin_131 fl_X6_27 h_c23 kdq_6_0 (wq_6_0 _ h_c23) ?_
    refine e_getr 5 qX6_begin_134 fl_X6_63 shq_3 kdq_1_1 rrq_3_1 ?_
    refine e_iload_n qX6_begin_137 rfl ?_
    refine e_rald25 qX6_begin_138 shq_5 lnq_5 h (fun i38 hi38 h => ?_)
    refine e_geti qX6_begin_139 fl_X6_75 (we_25 _ shq_5 _ hi38) kdq_8_3 h (fun v39 h => ?_)
    refine e_iast qX6_begin_142 (wt_6_8 _ h_c23).1 (wt_6_8 _ h_c23).2 h (fun s40 h => ?_)
    refine vl_e h (fun h => ?_)
    obtain ⟨v41, ev41⟩ : ∃ y, v24 + (nI 1) = y := ⟨_, rfl⟩
    rw [ev41] at h
    refine e_iinc (nI 1) v41 (lv2 := [some (.ref c23), some (.int v41)]) qX6_begin_143 rfl rfl rfl ev41 rfl ?_
    refine e_goto (tgt := 78) qX6_begin_146 rfl ?_
    exact e_weak (ih27 _ _ h) ⟨Or.inr rfl, Or.inr rfl, trivial⟩

set_option maxRecDepth 20000 in
set_option maxHeartbeats 4000000 in
theorem w_X6_begin {N : Nat} {a0 : Nat} {s0 : St} {sr : St} (h_a0 : sh a0 = 6) (h : f_X6_begin N a0 s0 = some sr) : Ct mX6_begin 0 [.ref a0] s0 (none, sr) := by
  refine Ct.ofE (by decide +kernel) rfl ?_
  show E mX6_begin 0 (none, sr) 0 [some (.ref a0), none] [] s0
  unfold f_X6_begin at h
  refine e_aload_n qX6_begin_0 rfl ?_
  refine e_iconst (nI 0) qX6_begin_1 rfl ?_
  refine e_puti qX6_begin_2 fp_X6_31 h_a0 kdq_6_1 h (fun s1 h => ?_)
  refine e_aload_n qX6_begin_5 rfl ?_
  refine e_aload_n qX6_begin_6 rfl ?_
  refine e_getr 3 qX6_begin_7 fl_X6_27 h_a0 kdq_6_0 (wq_6_0 _ h_a0) ?_
  refine e_geti qX6_begin_10 fl_X6_35 shq_3 kdq_1_4 h (fun v2 h => ?_)
  refine e_puti qX6_begin_13 fp_X6_40 h_a0 kdq_6_2 h (fun s3 h => ?_)
  refine e_aload_n qX6_begin_16 rfl ?_
  refine e_iconst (nI 0) qX6_begin_17 rfl ?_
  refine e_puti qX6_begin_18 fp_X6_43 h_a0 kdq_6_3 h (fun s4 h => ?_)
  refine e_iconst (nI 0) qX6_begin_21 rfl ?_
  refine e_istore_n (lv2 := [some (.ref a0), some (.int (nI 0))]) qX6_begin_22 rfl rfl rfl ?_
  refine e_weak (w_X6_begin_L23 h_a0 (fun s22 h => ?_) _ _ _ h) ⟨Or.inr rfl, Or.inr rfl, trivial⟩
  refine e_iconst (nI 0) qX6_begin_76 rfl ?_
  refine e_istore_n (lv2 := [some (.ref a0), some (.int (nI 0))]) qX6_begin_77 rfl rfl rfl ?_
  exact e_weak (w_X6_begin_L78 h_a0  _ _ _ h) ⟨Or.inr rfl, Or.inr rfl, trivial⟩

def f_X6_copyFrom (a0 : Nat) (a1 : Nat) (s0 : St) : Option (St) :=
  vl (s0.1 a1 1) fun v1 =>
  vl (sI s0 a0 1 v1) fun s2 =>
  vl (s2.1 a1 2) fun v3 =>
  vl (sI s2 a0 2 v3) fun s4 =>
  vl (s4.1 a1 3) fun v5 =>
  vl (sI s4 a0 3 v5) fun s6 =>
  cpi s6 (rr a1 4) (rr a0 4) 8 fun s7 =>
  cpi s7 (rr a1 5) (rr a0 5) 8 fun s8 =>
  cpi s8 (rr a1 6) (rr a0 6) 4 fun s9 =>
  cpi s9 (rr a1 7) (rr a0 7) 4 fun s10 =>
  cpi s10 (rr a1 8) (rr a0 8) 4 fun s11 =>
  some s11

theorem qX6_copyFrom_0 : Dc mX6_copyFrom 0 (.aload_n 0) 1 1 := ⟨by decide +kernel, rfl⟩
theorem qX6_copyFrom_1 : Dc mX6_copyFrom 1 (.aload_n 1) 1 2 := ⟨by decide +kernel, rfl⟩
theorem qX6_copyFrom_2 : Dc mX6_copyFrom 2 (.getfield 31) 3 5 := ⟨by decide +kernel, rfl⟩
theorem qX6_copyFrom_5 : Dc mX6_copyFrom 5 (.putfield 31) 3 8 := ⟨by decide +kernel, rfl⟩
theorem qX6_copyFrom_8 : Dc mX6_copyFrom 8 (.aload_n 0) 1 9 := ⟨by decide +kernel, rfl⟩
theorem qX6_copyFrom_9 : Dc mX6_copyFrom 9 (.aload_n 1) 1 10 := ⟨by decide +kernel, rfl⟩
theorem qX6_copyFrom_10 : Dc mX6_copyFrom 10 (.getfield 40) 3 13 := ⟨by decide +kernel, rfl⟩
theorem qX6_copyFrom_13 : Dc mX6_copyFrom 13 (.putfield 40) 3 16 := ⟨by decide +kernel, rfl⟩
theorem qX6_copyFrom_16 : Dc mX6_copyFrom 16 (.aload_n 0) 1 17 := ⟨by decide +kernel, rfl⟩
theorem qX6_copyFrom_17 : Dc mX6_copyFrom 17 (.aload_n 1) 1 18 := ⟨by decide +kernel, rfl⟩
theorem qX6_copyFrom_18 : Dc mX6_copyFrom 18 (.getfield 43) 3 21 := ⟨by decide +kernel, rfl⟩
theorem qX6_copyFrom_21 : Dc mX6_copyFrom 21 (.putfield 43) 3 24 := ⟨by decide +kernel, rfl⟩
theorem qX6_copyFrom_24 : Dc mX6_copyFrom 24 (.aload_n 1) 1 25 := ⟨by decide +kernel, rfl⟩
theorem qX6_copyFrom_25 : Dc mX6_copyFrom 25 (.getfield 9) 3 28 := ⟨by decide +kernel, rfl⟩
theorem qX6_copyFrom_28 : Dc mX6_copyFrom 28 (.iconst 0) 1 29 := ⟨by decide +kernel, rfl⟩
theorem qX6_copyFrom_29 : Dc mX6_copyFrom 29 (.aload_n 0) 1 30 := ⟨by decide +kernel, rfl⟩
theorem qX6_copyFrom_30 : Dc mX6_copyFrom 30 (.getfield 9) 3 33 := ⟨by decide +kernel, rfl⟩
theorem qX6_copyFrom_33 : Dc mX6_copyFrom 33 (.iconst 0) 1 34 := ⟨by decide +kernel, rfl⟩
theorem qX6_copyFrom_34 : Dc mX6_copyFrom 34 (.bipush 8) 2 36 := ⟨by decide +kernel, rfl⟩
theorem qX6_copyFrom_36 : Dc mX6_copyFrom 36 (.invokestatic 77) 3 39 := ⟨by decide +kernel, rfl⟩
theorem qX6_copyFrom_39 : Dc mX6_copyFrom 39 (.aload_n 1) 1 40 := ⟨by decide +kernel, rfl⟩
theorem qX6_copyFrom_40 : Dc mX6_copyFrom 40 (.getfield 15) 3 43 := ⟨by decide +kernel, rfl⟩
theorem qX6_copyFrom_43 : Dc mX6_copyFrom 43 (.iconst 0) 1 44 := ⟨by decide +kernel, rfl⟩
theorem qX6_copyFrom_44 : Dc mX6_copyFrom 44 (.aload_n 0) 1 45 := ⟨by decide +kernel, rfl⟩
theorem qX6_copyFrom_45 : Dc mX6_copyFrom 45 (.getfield 15) 3 48 := ⟨by decide +kernel, rfl⟩
theorem qX6_copyFrom_48 : Dc mX6_copyFrom 48 (.iconst 0) 1 49 := ⟨by decide +kernel, rfl⟩
theorem qX6_copyFrom_49 : Dc mX6_copyFrom 49 (.bipush 8) 2 51 := ⟨by decide +kernel, rfl⟩
theorem qX6_copyFrom_51 : Dc mX6_copyFrom 51 (.invokestatic 77) 3 54 := ⟨by decide +kernel, rfl⟩
theorem qX6_copyFrom_54 : Dc mX6_copyFrom 54 (.aload_n 1) 1 55 := ⟨by decide +kernel, rfl⟩
theorem qX6_copyFrom_55 : Dc mX6_copyFrom 55 (.getfield 18) 3 58 := ⟨by decide +kernel, rfl⟩
theorem qX6_copyFrom_58 : Dc mX6_copyFrom 58 (.iconst 0) 1 59 := ⟨by decide +kernel, rfl⟩
theorem qX6_copyFrom_59 : Dc mX6_copyFrom 59 (.aload_n 0) 1 60 := ⟨by decide +kernel, rfl⟩
theorem qX6_copyFrom_60 : Dc mX6_copyFrom 60 (.getfield 18) 3 63 := ⟨by decide +kernel, rfl⟩
theorem qX6_copyFrom_63 : Dc mX6_copyFrom 63 (.iconst 0) 1 64 := ⟨by decide +kernel, rfl⟩
theorem qX6_copyFrom_64 : Dc mX6_copyFrom 64 (.iconst 4) 1 65 := ⟨by decide +kernel, rfl⟩
theorem qX6_copyFrom_65 : Dc mX6_copyFrom 65 (.invokestatic 77) 3 68 := ⟨by decide +kernel, rfl⟩
theorem qX6_copyFrom_68 : Dc mX6_copyFrom 68 (.aload_n 1) 1 69 := ⟨by decide +kernel, rfl⟩
theorem qX6_copyFrom_69 : Dc mX6_copyFrom 69 (.getfield 21) 3 72 := ⟨by decide +kernel, rfl⟩
theorem qX6_copyFrom_72 : Dc mX6_copyFrom 72 (.iconst 0) 1 73 := ⟨by decide +kernel, rfl⟩
theorem qX6_copyFrom_73 : Dc mX6_copyFrom 73 (.aload_n 0) 1 74 := ⟨by decide +kernel, rfl⟩
theorem qX6_copyFrom_74 : Dc mX6_copyFrom 74 (.getfield 21) 3 77 := ⟨by decide +kernel, rfl⟩
theorem qX6_copyFrom_77 : Dc mX6_copyFrom 77 (.iconst 0) 1 78 := ⟨by decide +kernel, rfl⟩
theorem qX6_copyFrom_78 : Dc mX6_copyFrom 78 (.iconst 4) 1 79 := ⟨by decide +kernel, rfl⟩
theorem qX6_copyFrom_79 : Dc mX6_copyFrom 79 (.invokestatic 77) 3 82 := ⟨by decide +kernel, rfl⟩
theorem qX6_copyFrom_82 : Dc mX6_copyFrom 82 (.aload_n 1) 1 83 := ⟨by decide +kernel, rfl⟩
theorem qX6_copyFrom_83 : Dc mX6_copyFrom 83 (.getfield 24) 3 86 := ⟨by decide +kernel, rfl⟩
theorem qX6_copyFrom_86 : Dc mX6_copyFrom 86 (.iconst 0) 1 87 := ⟨by decide +kernel, rfl⟩
theorem qX6_copyFrom_87 : Dc mX6_copyFrom 87 (.aload_n 0) 1 88 := ⟨by decide +kernel, rfl⟩
theorem qX6_copyFrom_88 : Dc mX6_copyFrom 88 (.getfield 24) 3 91 := ⟨by decide +kernel, rfl⟩
theorem qX6_copyFrom_91 : Dc mX6_copyFrom 91 (.iconst 0) 1 92 := ⟨by decide +kernel, rfl⟩
theorem qX6_copyFrom_92 : Dc mX6_copyFrom 92 (.iconst 4) 1 93 := ⟨by decide +kernel, rfl⟩
theorem qX6_copyFrom_93 : Dc mX6_copyFrom 93 (.invokestatic 77) 3 96 := ⟨by decide +kernel, rfl⟩
theorem qX6_copyFrom_96 : Dc mX6_copyFrom 96 (.return_) 1 97 := ⟨by decide +kernel, rfl⟩

set_option maxRecDepth 20000 in
set_option maxHeartbeats 4000000 in
theorem w_X6_copyFrom {a0 : Nat} {a1 : Nat} {s0 : St} {sr : St} (h_a0 : sh a0 = 6) (h_a1 : sh a1 = 6) (h : f_X6_copyFrom a0 a1 s0 = some sr) : Ct mX6_copyFrom 3 [.ref a0, .ref a1] s0 (none, sr) := by
  refine Ct.ofE (by decide +kernel) rfl ?_
  show E mX6_copyFrom 3 (none, sr) 0 [some (.ref a0), some (.ref a1)] [] s0
  unfold f_X6_copyFrom at h
  refine e_aload_n qX6_copyFrom_0 rfl ?_
  refine e_aload_n qX6_copyFrom_1 rfl ?_
  refine e_geti qX6_copyFrom_2 fl_X6_31 h_a1 kdq_6_1 h (fun v1 h => ?_)
  refine e_puti qX6_copyFrom_5 fp_X6_31 h_a0 kdq_6_1 h (fun s2 h => ?_)
  refine e_aload_n qX6_copyFrom_8 rfl ?_
  refine e_aload_n qX6_copyFrom_9 rfl ?_
  refine e_geti qX6_copyFrom_10 fl_X6_40 h_a1 kdq_6_2 h (fun v3 h => ?_)
  refine e_puti qX6_copyFrom_13 fp_X6_40 h_a0 kdq_6_2 h (fun s4 h => ?_)
  refine e_aload_n qX6_copyFrom_16 rfl ?_
  refine e_aload_n qX6_copyFrom_17 rfl ?_
  refine e_geti qX6_copyFrom_18 fl_X6_43 h_a1 kdq_6_3 h (fun v5 h => ?_)
  refine e_puti qX6_copyFrom_21 fp_X6_43 h_a0 kdq_6_3 h (fun s6 h => ?_)
  refine e_aload_n qX6_copyFrom_24 rfl ?_
  refine e_getr (rr a1 4) qX6_copyFrom_25 fl_X6_9 h_a1 kdq_6_4 rfl ?_
  refine e_iconst (nI 0) qX6_copyFrom_28 rfl ?_
  refine e_aload_n qX6_copyFrom_29 rfl ?_
  refine e_getr (rr a0 4) qX6_copyFrom_30 fl_X6_9 h_a0 kdq_6_4 rfl ?_
  refine e_iconst (nI 0) qX6_copyFrom_33 rfl ?_
  refine e_bipush (nI 8) qX6_copyFrom_34 rfl ?_
  refine e_cpi qX6_copyFrom_36 ca_X6_77 (by decide) rfl (wt_6_4 _ h_a1).1 (wt_6_4 _ h_a0).1 (by rw [(wt_6_4 _ h_a1).2]; decide) (by rw [(wt_6_4 _ h_a0).2]; decide) (by decide) h (fun s7 h => ?_)
  refine e_aload_n qX6_copyFrom_39 rfl ?_
  refine e_getr (rr a1 5) qX6_copyFrom_40 fl_X6_15 h_a1 kdq_6_5 rfl ?_
  refine e_iconst (nI 0) qX6_copyFrom_43 rfl ?_
  refine e_aload_n qX6_copyFrom_44 rfl ?_
  refine e_getr (rr a0 5) qX6_copyFrom_45 fl_X6_15 h_a0 kdq_6_5 rfl ?_
  refine e_iconst (nI 0) qX6_copyFrom_48 rfl ?_
  refine e_bipush (nI 8) qX6_copyFrom_49 rfl ?_
  refine e_cpi qX6_copyFrom_51 ca_X6_77 (by decide) rfl (wt_6_5 _ h_a1).1 (wt_6_5 _ h_a0).1 (by rw [(wt_6_5 _ h_a1).2]; decide) (by rw [(wt_6_5 _ h_a0).2]; decide) (by decide) h (fun s8 h => ?_)
  refine e_aload_n qX6_copyFrom_54 rfl ?_
  refine e_getr (rr a1 6) qX6_copyFrom_55 fl_X6_18 h_a1 kdq_6_6 rfl ?_
  refine e_iconst (nI 0) qX6_copyFrom_58 rfl ?_
  refine e_aload_n qX6_copyFrom_59 rfl ?_
  refine e_getr (rr a0 6) qX6_copyFrom_60 fl_X6_18 h_a0 kdq_6_6 rfl ?_
  refine e_iconst (nI 0) qX6_copyFrom_63 rfl ?_
  refine e_iconst (nI 4) qX6_copyFrom_64 rfl ?_
  refine e_cpi qX6_copyFrom_65 ca_X6_77 (by decide) rfl (wt_6_6 _ h_a1).1 (wt_6_6 _ h_a0).1 (by rw [(wt_6_6 _ h_a1).2]; decide) (by rw [(wt_6_6 _ h_a0).2]; decide) (by decide) h (fun s9 h => ?_)
  refine e_aload_n qX6_copyFrom_68 rfl ?_
  refine e_getr (rr a1 7) qX6_copyFrom_69 fl_X6_21 h_a1 kdq_6_7 rfl ?_
  refine e_iconst (nI 0) qX6_copyFrom_72 rfl ?_
  refine e_aload_n qX6_copyFrom_73 rfl ?_
  refine e_getr (rr a0 7) qX6_copyFrom_74 fl_X6_21 h_a0 kdq_6_7 rfl ?_
  refine e_iconst (nI 0) qX6_copyFrom_77 rfl ?_
  refine e_iconst (nI 4) qX6_copyFrom_78 rfl ?_
  refine e_cpi qX6_copyFrom_79 ca_X6_77 (by decide) rfl (wt_6_7 _ h_a1).1 (wt_6_7 _ h_a0).1 (by rw [(wt_6_7 _ h_a1).2]; decide) (by rw [(wt_6_7 _ h_a0).2]; decide) (by decide) h (fun s10 h => ?_)
  refine e_aload_n qX6_copyFrom_82 rfl ?_
  refine e_getr (rr a1 8) qX6_copyFrom_83 fl_X6_24 h_a1 kdq_6_8 rfl ?_
  refine e_iconst (nI 0) qX6_copyFrom_86 rfl ?_
  refine e_aload_n qX6_copyFrom_87 rfl ?_
  refine e_getr (rr a0 8) qX6_copyFrom_88 fl_X6_24 h_a0 kdq_6_8 rfl ?_
  refine e_iconst (nI 0) qX6_copyFrom_91 rfl ?_
  refine e_iconst (nI 4) qX6_copyFrom_92 rfl ?_
  refine e_cpi qX6_copyFrom_93 ca_X6_77 (by decide) rfl (wt_6_8 _ h_a1).1 (wt_6_8 _ h_a0).1 (by rw [(wt_6_8 _ h_a1).2]; decide) (by rw [(wt_6_8 _ h_a0).2]; decide) (by decide) h (fun s11 h => ?_)
  exact e_vret qX6_copyFrom_96 rfl (ret_v h)

def f_X6_isOut (a0 : Nat) (x1 : Int32) (s0 : St) : Option (Int32) :=
  vl (s0.1 a0 3) fun v1 =>
  if ((v1 >>> (x1 &&& 31)) &&& (nI 1)) = 0 then
    some (nI 0)
  else
  some (nI 1)

theorem qX6_isOut_0 : Dc mX6_isOut 0 (.aload_n 0) 1 1 := ⟨by decide +kernel, rfl⟩
theorem qX6_isOut_1 : Dc mX6_isOut 1 (.getfield 43) 3 4 := ⟨by decide +kernel, rfl⟩
theorem qX6_isOut_4 : Dc mX6_isOut 4 (.iload_n 1) 1 5 := ⟨by decide +kernel, rfl⟩
theorem qX6_isOut_5 : Dc mX6_isOut 5 (.ishr) 1 6 := ⟨by decide +kernel, rfl⟩
theorem qX6_isOut_6 : Dc mX6_isOut 6 (.iconst 1) 1 7 := ⟨by decide +kernel, rfl⟩
theorem qX6_isOut_7 : Dc mX6_isOut 7 (.iand) 1 8 := ⟨by decide +kernel, rfl⟩
theorem qX6_isOut_8 : Dc mX6_isOut 8 (.ifCond .eq 7) 3 11 := ⟨by decide +kernel, rfl⟩
theorem qX6_isOut_11 : Dc mX6_isOut 11 (.iconst 1) 1 12 := ⟨by decide +kernel, rfl⟩
theorem qX6_isOut_12 : Dc mX6_isOut 12 (.goto 4) 3 15 := ⟨by decide +kernel, rfl⟩
theorem qX6_isOut_15 : Dc mX6_isOut 15 (.iconst 0) 1 16 := ⟨by decide +kernel, rfl⟩
theorem qX6_isOut_16 : Dc mX6_isOut 16 (.ireturn) 1 17 := ⟨by decide +kernel, rfl⟩

set_option maxRecDepth 20000 in
set_option maxHeartbeats 4000000 in
theorem w_X6_isOut {a0 : Nat} {x1 : Int32} {s0 : St} {r : Int32} (h_a0 : sh a0 = 6) (h : f_X6_isOut a0 x1 s0 = some r) : Ct mX6_isOut 0 [.ref a0, .int x1] s0 (some (.int r), s0) := by
  refine Ct.ofE (by decide +kernel) rfl ?_
  show E mX6_isOut 0 (some (.int r), s0) 0 [some (.ref a0), some (.int x1)] [] s0
  unfold f_X6_isOut at h
  refine e_aload_n qX6_isOut_0 rfl ?_
  refine e_geti qX6_isOut_1 fl_X6_43 h_a0 kdq_6_3 h (fun v1 h => ?_)
  refine e_iload_n qX6_isOut_4 rfl ?_
  refine e_ishr qX6_isOut_5 ?_
  refine e_iconst (nI 1) qX6_isOut_6 rfl ?_
  refine e_iand qX6_isOut_7 ?_
  refine e_if_eq (tgt := 15) qX6_isOut_8 rfl h (fun _ h => ?_) (fun _ h => ?_)
  · refine e_iconst (nI 0) qX6_isOut_15 rfl ?_
    exact e_zret qX6_isOut_16 rfl (by decide) (ret_p h)
  refine e_iconst (nI 1) qX6_isOut_11 rfl ?_
  refine e_goto (tgt := 16) qX6_isOut_12 rfl ?_
  exact e_zret qX6_isOut_16 rfl (by decide) (ret_p h)

def f_X6_emptyOnes_L4 (N : Nat) (c1 : Nat) (s0 : St) : Nat → Int32 → Int32 → Option (Int32)
  | 0, _, _ => none
  | n4 + 1, v2, v3 =>
    vl (s0.1 3 2) fun v6 =>
    if v6 ≤ v3 then
      some v2
    else
    ald (s0.1 (rr c1 4)) 8 v3 fun v7 =>
    jn (fun (v8 : Int32) =>
      vl (v3 + (nI 1)) fun v10 =>
      f_X6_emptyOnes_L4 N c1 s0 n4 v8 v10) fun j9 =>
    if v7 = 0 then
      vl (v2 ||| ((nI 1) <<< (v3 &&& 31))) fun v11 =>
      j9 v11
    else
    j9 v2

def f_X6_emptyOnes (N : Nat) (a0 : Nat) (s0 : St) : Option (Int32) :=
  f_X6_emptyOnes_L4 N a0 s0 N (nI 0) (nI 0)

theorem qX6_emptyOnes_0 : Dc mX6_emptyOnes 0 (.iconst 0) 1 1 := ⟨by decide +kernel, rfl⟩
theorem qX6_emptyOnes_1 : Dc mX6_emptyOnes 1 (.istore_n 1) 1 2 := ⟨by decide +kernel, rfl⟩
theorem qX6_emptyOnes_2 : Dc mX6_emptyOnes 2 (.iconst 0) 1 3 := ⟨by decide +kernel, rfl⟩
theorem qX6_emptyOnes_3 : Dc mX6_emptyOnes 3 (.istore_n 2) 1 4 := ⟨by decide +kernel, rfl⟩
theorem qX6_emptyOnes_4 : Dc mX6_emptyOnes 4 (.iload_n 2) 1 5 := ⟨by decide +kernel, rfl⟩
theorem qX6_emptyOnes_5 : Dc mX6_emptyOnes 5 (.aload_n 0) 1 6 := ⟨by decide +kernel, rfl⟩
theorem qX6_emptyOnes_6 : Dc mX6_emptyOnes 6 (.getfield 27) 3 9 := ⟨by decide +kernel, rfl⟩
theorem qX6_emptyOnes_9 : Dc mX6_emptyOnes 9 (.getfield 46) 3 12 := ⟨by decide +kernel, rfl⟩
theorem qX6_emptyOnes_12 : Dc mX6_emptyOnes 12 (.if_icmp .ge 24) 3 15 := ⟨by decide +kernel, rfl⟩
theorem qX6_emptyOnes_15 : Dc mX6_emptyOnes 15 (.aload_n 0) 1 16 := ⟨by decide +kernel, rfl⟩
theorem qX6_emptyOnes_16 : Dc mX6_emptyOnes 16 (.getfield 9) 3 19 := ⟨by decide +kernel, rfl⟩
theorem qX6_emptyOnes_19 : Dc mX6_emptyOnes 19 (.iload_n 2) 1 20 := ⟨by decide +kernel, rfl⟩
theorem qX6_emptyOnes_20 : Dc mX6_emptyOnes 20 (.iaload) 1 21 := ⟨by decide +kernel, rfl⟩
theorem qX6_emptyOnes_21 : Dc mX6_emptyOnes 21 (.ifCond .ne 9) 3 24 := ⟨by decide +kernel, rfl⟩
theorem qX6_emptyOnes_24 : Dc mX6_emptyOnes 24 (.iload_n 1) 1 25 := ⟨by decide +kernel, rfl⟩
theorem qX6_emptyOnes_25 : Dc mX6_emptyOnes 25 (.iconst 1) 1 26 := ⟨by decide +kernel, rfl⟩
theorem qX6_emptyOnes_26 : Dc mX6_emptyOnes 26 (.iload_n 2) 1 27 := ⟨by decide +kernel, rfl⟩
theorem qX6_emptyOnes_27 : Dc mX6_emptyOnes 27 (.ishl) 1 28 := ⟨by decide +kernel, rfl⟩
theorem qX6_emptyOnes_28 : Dc mX6_emptyOnes 28 (.ior) 1 29 := ⟨by decide +kernel, rfl⟩
theorem qX6_emptyOnes_29 : Dc mX6_emptyOnes 29 (.istore_n 1) 1 30 := ⟨by decide +kernel, rfl⟩
theorem qX6_emptyOnes_30 : Dc mX6_emptyOnes 30 (.iinc 2 1) 3 33 := ⟨by decide +kernel, rfl⟩
theorem qX6_emptyOnes_33 : Dc mX6_emptyOnes 33 (.goto (-29)) 3 36 := ⟨by decide +kernel, rfl⟩
theorem qX6_emptyOnes_36 : Dc mX6_emptyOnes 36 (.iload_n 1) 1 37 := ⟨by decide +kernel, rfl⟩
theorem qX6_emptyOnes_37 : Dc mX6_emptyOnes 37 (.ireturn) 1 38 := ⟨by decide +kernel, rfl⟩

set_option maxRecDepth 20000 in
set_option maxHeartbeats 4000000 in
theorem w_X6_emptyOnes_L4 {N : Nat} {c1 : Nat} {s0 : St}  {r : Int32} (h_c1 : sh c1 = 6)  : ∀ (n4 : Nat) (v2 : Int32) (v3 : Int32), f_X6_emptyOnes_L4 N c1 s0 n4 v2 v3 = some r → E mX6_emptyOnes 0 (some (.int r), s0) 4 [some (.ref c1), some (.int v2), some (.int v3)] [] s0 := by
  intro n4
  induction n4 with
  | zero =>
    intro v2 v3 h
    rw [f_X6_emptyOnes_L4] at h; cases h
  | succ n4 ih5 =>
    intro v2 v3 h
    rw [f_X6_emptyOnes_L4] at h
    refine e_iload_n qX6_emptyOnes_4 rfl ?_
    refine e_aload_n qX6_emptyOnes_5 rfl ?_
    refine e_getr 3 qX6_emptyOnes_6 fl_X6_27 h_c1 kdq_6_0 (wq_6_0 _ h_c1) ?_
    refine e_geti qX6_emptyOnes_9 fl_X6_46 shq_3 kdq_1_2 h (fun v6 h => ?_)
    refine e_icmp_ge (tgt := 36) qX6_emptyOnes_12 rfl h (fun _ h => ?_) (fun _ h => ?_)
    · refine e_iload_n qX6_emptyOnes_36 rfl ?_
      exact e_iret qX6_emptyOnes_37 rfl (ret_p h)
    refine e_aload_n qX6_emptyOnes_15 rfl ?_
    refine e_getr (rr c1 4) qX6_emptyOnes_16 fl_X6_9 h_c1 kdq_6_4 rfl ?_
    refine e_iload_n qX6_emptyOnes_19 rfl ?_
    refine e_iald qX6_emptyOnes_20 (wt_6_4 _ h_c1).1 (wt_6_4 _ h_c1).2 h (fun v7 h => ?_)
    refine jn_e (fun j => ∀ (v8 : Int32), j v8 = some r → E mX6_emptyOnes 0 (some (.int r), s0) 30 [some (.ref c1), some (.int v8), some (.int v3)] [] s0) h ?_ (fun j9 hj9 h => ?_)
    · intro v8 h
      refine vl_e h (fun h => ?_)
      obtain ⟨v10, ev10⟩ : ∃ y, v3 + (nI 1) = y := ⟨_, rfl⟩
      rw [ev10] at h
      refine e_iinc (nI 1) v10 (lv2 := [some (.ref c1), some (.int v8), some (.int v10)]) qX6_emptyOnes_30 rfl rfl rfl ev10 rfl ?_
      refine e_goto (tgt := 4) qX6_emptyOnes_33 rfl ?_
      exact e_weak (ih5 _ _ h) ⟨Or.inr rfl, Or.inr rfl, Or.inr rfl, trivial⟩
    refine e_if_ne (tgt := 30) qX6_emptyOnes_21 rfl h (fun _ h => ?_) (fun _ h => ?_)
    · refine e_iload_n qX6_emptyOnes_24 rfl ?_
      refine e_iconst (nI 1) qX6_emptyOnes_25 rfl ?_
      refine e_iload_n qX6_emptyOnes_26 rfl ?_
      refine e_ishl qX6_emptyOnes_27 ?_
      refine e_ior qX6_emptyOnes_28 ?_
      refine vl_e h (fun h => ?_)
      generalize (v2 ||| ((nI 1) <<< (v3 &&& 31))) = v11 at h ⊢
      refine e_istore_n (lv2 := [some (.ref c1), some (.int v11), some (.int v3)]) qX6_emptyOnes_29 rfl rfl rfl ?_
      exact e_weak (hj9 _ h) ⟨Or.inr rfl, Or.inr rfl, Or.inr rfl, trivial⟩
    exact e_weak (hj9 _ h) ⟨Or.inr rfl, Or.inr rfl, Or.inr rfl, trivial⟩

set_option maxRecDepth 20000 in
set_option maxHeartbeats 4000000 in
theorem w_X6_emptyOnes {N : Nat} {a0 : Nat} {s0 : St} {r : Int32} (h_a0 : sh a0 = 6) (h : f_X6_emptyOnes N a0 s0 = some r) : Ct mX6_emptyOnes 0 [.ref a0] s0 (some (.int r), s0) := by
  refine Ct.ofE (by decide +kernel) rfl ?_
  show E mX6_emptyOnes 0 (some (.int r), s0) 0 [some (.ref a0), none, none] [] s0
  unfold f_X6_emptyOnes at h
  refine e_iconst (nI 0) qX6_emptyOnes_0 rfl ?_
  refine e_istore_n (lv2 := [some (.ref a0), some (.int (nI 0)), none]) qX6_emptyOnes_1 rfl rfl rfl ?_
  refine e_iconst (nI 0) qX6_emptyOnes_2 rfl ?_
  refine e_istore_n (lv2 := [some (.ref a0), some (.int (nI 0)), some (.int (nI 0))]) qX6_emptyOnes_3 rfl rfl rfl ?_
  exact e_weak (w_X6_emptyOnes_L4 h_a0  _ _ _ h) ⟨Or.inr rfl, Or.inr rfl, Or.inr rfl, trivial⟩

def f_X6_oilOfAll_L4 (N : Nat) (c1 : Nat) (s0 : St) : Nat → Int32 → Int32 → Option (Int32)
  | 0, _, _ => none
  | n4 + 1, v2, v3 =>
    vl (s0.1 3 2) fun v6 =>
    if v6 ≤ v3 then
      some v2
    else
    ald (s0.1 (rr c1 4)) 8 v3 fun v7 =>
    vl (v2 + v7) fun v8 =>
    vl (v3 + (nI 1)) fun v9 =>
    f_X6_oilOfAll_L4 N c1 s0 n4 v8 v9

def f_X6_oilOfAll (N : Nat) (a0 : Nat) (s0 : St) : Option (Int32) :=
  f_X6_oilOfAll_L4 N a0 s0 N (nI 0) (nI 0)

theorem qX6_oilOfAll_0 : Dc mX6_oilOfAll 0 (.iconst 0) 1 1 := ⟨by decide +kernel, rfl⟩
theorem qX6_oilOfAll_1 : Dc mX6_oilOfAll 1 (.istore_n 1) 1 2 := ⟨by decide +kernel, rfl⟩
theorem qX6_oilOfAll_2 : Dc mX6_oilOfAll 2 (.iconst 0) 1 3 := ⟨by decide +kernel, rfl⟩
theorem qX6_oilOfAll_3 : Dc mX6_oilOfAll 3 (.istore_n 2) 1 4 := ⟨by decide +kernel, rfl⟩
theorem qX6_oilOfAll_4 : Dc mX6_oilOfAll 4 (.iload_n 2) 1 5 := ⟨by decide +kernel, rfl⟩
theorem qX6_oilOfAll_5 : Dc mX6_oilOfAll 5 (.aload_n 0) 1 6 := ⟨by decide +kernel, rfl⟩
theorem qX6_oilOfAll_6 : Dc mX6_oilOfAll 6 (.getfield 27) 3 9 := ⟨by decide +kernel, rfl⟩
theorem qX6_oilOfAll_9 : Dc mX6_oilOfAll 9 (.getfield 46) 3 12 := ⟨by decide +kernel, rfl⟩
theorem qX6_oilOfAll_12 : Dc mX6_oilOfAll 12 (.if_icmp .ge 18) 3 15 := ⟨by decide +kernel, rfl⟩
theorem qX6_oilOfAll_15 : Dc mX6_oilOfAll 15 (.iload_n 1) 1 16 := ⟨by decide +kernel, rfl⟩
theorem qX6_oilOfAll_16 : Dc mX6_oilOfAll 16 (.aload_n 0) 1 17 := ⟨by decide +kernel, rfl⟩
theorem qX6_oilOfAll_17 : Dc mX6_oilOfAll 17 (.getfield 9) 3 20 := ⟨by decide +kernel, rfl⟩
theorem qX6_oilOfAll_20 : Dc mX6_oilOfAll 20 (.iload_n 2) 1 21 := ⟨by decide +kernel, rfl⟩
theorem qX6_oilOfAll_21 : Dc mX6_oilOfAll 21 (.iaload) 1 22 := ⟨by decide +kernel, rfl⟩
theorem qX6_oilOfAll_22 : Dc mX6_oilOfAll 22 (.iadd) 1 23 := ⟨by decide +kernel, rfl⟩
theorem qX6_oilOfAll_23 : Dc mX6_oilOfAll 23 (.istore_n 1) 1 24 := ⟨by decide +kernel, rfl⟩
theorem qX6_oilOfAll_24 : Dc mX6_oilOfAll 24 (.iinc 2 1) 3 27 := ⟨by decide +kernel, rfl⟩
theorem qX6_oilOfAll_27 : Dc mX6_oilOfAll 27 (.goto (-23)) 3 30 := ⟨by decide +kernel, rfl⟩
theorem qX6_oilOfAll_30 : Dc mX6_oilOfAll 30 (.iload_n 1) 1 31 := ⟨by decide +kernel, rfl⟩
theorem qX6_oilOfAll_31 : Dc mX6_oilOfAll 31 (.ireturn) 1 32 := ⟨by decide +kernel, rfl⟩

set_option maxRecDepth 20000 in
set_option maxHeartbeats 4000000 in
theorem w_X6_oilOfAll_L4 {N : Nat} {c1 : Nat} {s0 : St}  {r : Int32} (h_c1 : sh c1 = 6)  : ∀ (n4 : Nat) (v2 : Int32) (v3 : Int32), f_X6_oilOfAll_L4 N c1 s0 n4 v2 v3 = some r → E mX6_oilOfAll 0 (some (.int r), s0) 4 [some (.ref c1), some (.int v2), some (.int v3)] [] s0 := by
  intro n4
  induction n4 with
  | zero =>
    intro v2 v3 h
    rw [f_X6_oilOfAll_L4] at h; cases h
  | succ n4 ih5 =>
    intro v2 v3 h
    rw [f_X6_oilOfAll_L4] at h
    refine e_iload_n qX6_oilOfAll_4 rfl ?_
    refine e_aload_n qX6_oilOfAll_5 rfl ?_
    refine e_getr 3 qX6_oilOfAll_6 fl_X6_27 h_c1 kdq_6_0 (wq_6_0 _ h_c1) ?_
    refine e_geti qX6_oilOfAll_9 fl_X6_46 shq_3 kdq_1_2 h (fun v6 h => ?_)
    refine e_icmp_ge (tgt := 30) qX6_oilOfAll_12 rfl h (fun _ h => ?_) (fun _ h => ?_)
    · refine e_iload_n qX6_oilOfAll_30 rfl ?_
      exact e_iret qX6_oilOfAll_31 rfl (ret_p h)
    refine e_iload_n qX6_oilOfAll_15 rfl ?_
    refine e_aload_n qX6_oilOfAll_16 rfl ?_
    refine e_getr (rr c1 4) qX6_oilOfAll_17 fl_X6_9 h_c1 kdq_6_4 rfl ?_
    refine e_iload_n qX6_oilOfAll_20 rfl ?_
    refine e_iald qX6_oilOfAll_21 (wt_6_4 _ h_c1).1 (wt_6_4 _ h_c1).2 h (fun v7 h => ?_)
    refine e_iadd qX6_oilOfAll_22 ?_
    refine vl_e h (fun h => ?_)
    generalize (v2 + v7) = v8 at h ⊢
    refine e_istore_n (lv2 := [some (.ref c1), some (.int v8), some (.int v3)]) qX6_oilOfAll_23 rfl rfl rfl ?_
    refine vl_e h (fun h => ?_)
    obtain ⟨v9, ev9⟩ : ∃ y, v3 + (nI 1) = y := ⟨_, rfl⟩
    rw [ev9] at h
    refine e_iinc (nI 1) v9 (lv2 := [some (.ref c1), some (.int v8), some (.int v9)]) qX6_oilOfAll_24 rfl rfl rfl ev9 rfl ?_
    refine e_goto (tgt := 4) qX6_oilOfAll_27 rfl ?_
    exact e_weak (ih5 _ _ h) ⟨Or.inr rfl, Or.inr rfl, Or.inr rfl, trivial⟩

set_option maxRecDepth 20000 in
set_option maxHeartbeats 4000000 in
theorem w_X6_oilOfAll {N : Nat} {a0 : Nat} {s0 : St} {r : Int32} (h_a0 : sh a0 = 6) (h : f_X6_oilOfAll N a0 s0 = some r) : Ct mX6_oilOfAll 0 [.ref a0] s0 (some (.int r), s0) := by
  refine Ct.ofE (by decide +kernel) rfl ?_
  show E mX6_oilOfAll 0 (some (.int r), s0) 0 [some (.ref a0), none, none] [] s0
  unfold f_X6_oilOfAll at h
  refine e_iconst (nI 0) qX6_oilOfAll_0 rfl ?_
  refine e_istore_n (lv2 := [some (.ref a0), some (.int (nI 0)), none]) qX6_oilOfAll_1 rfl rfl rfl ?_
  refine e_iconst (nI 0) qX6_oilOfAll_2 rfl ?_
  refine e_istore_n (lv2 := [some (.ref a0), some (.int (nI 0)), some (.int (nI 0))]) qX6_oilOfAll_3 rfl rfl rfl ?_
  exact e_weak (w_X6_oilOfAll_L4 h_a0  _ _ _ h) ⟨Or.inr rfl, Or.inr rfl, Or.inr rfl, trivial⟩

def f_X6_putOut (a0 : Nat) (x1 : Int32) (s0 : St) : Option (Int32 × St) :=
  bp (f_X6_isOut a0 x1 s0) fun v1 =>
  if v1 = 0 then
    vl (s0.1 a0 3) fun v2 =>
    vl (sI s0 a0 3 (v2 ||| ((nI 1) <<< (x1 &&& 31)))) fun s3 =>
    some ((nI 0), s3)
  else
  some ((nI 1), s0)

theorem qX6_putOut_0 : Dc mX6_putOut 0 (.aload_n 0) 1 1 := ⟨by decide +kernel, rfl⟩
theorem qX6_putOut_1 : Dc mX6_putOut 1 (.iload_n 1) 1 2 := ⟨by decide +kernel, rfl⟩
theorem qX6_putOut_2 : Dc mX6_putOut 2 (.invokevirtual 90) 3 5 := ⟨by decide +kernel, rfl⟩
theorem qX6_putOut_5 : Dc mX6_putOut 5 (.ifCond .eq 5) 3 8 := ⟨by decide +kernel, rfl⟩
theorem qX6_putOut_8 : Dc mX6_putOut 8 (.iconst 1) 1 9 := ⟨by decide +kernel, rfl⟩
theorem qX6_putOut_9 : Dc mX6_putOut 9 (.ireturn) 1 10 := ⟨by decide +kernel, rfl⟩
theorem qX6_putOut_10 : Dc mX6_putOut 10 (.aload_n 0) 1 11 := ⟨by decide +kernel, rfl⟩
theorem qX6_putOut_11 : Dc mX6_putOut 11 (.dup) 1 12 := ⟨by decide +kernel, rfl⟩
theorem qX6_putOut_12 : Dc mX6_putOut 12 (.getfield 43) 3 15 := ⟨by decide +kernel, rfl⟩
theorem qX6_putOut_15 : Dc mX6_putOut 15 (.iconst 1) 1 16 := ⟨by decide +kernel, rfl⟩
theorem qX6_putOut_16 : Dc mX6_putOut 16 (.iload_n 1) 1 17 := ⟨by decide +kernel, rfl⟩
theorem qX6_putOut_17 : Dc mX6_putOut 17 (.ishl) 1 18 := ⟨by decide +kernel, rfl⟩
theorem qX6_putOut_18 : Dc mX6_putOut 18 (.ior) 1 19 := ⟨by decide +kernel, rfl⟩
theorem qX6_putOut_19 : Dc mX6_putOut 19 (.putfield 43) 3 22 := ⟨by decide +kernel, rfl⟩
theorem qX6_putOut_22 : Dc mX6_putOut 22 (.iconst 0) 1 23 := ⟨by decide +kernel, rfl⟩
theorem qX6_putOut_23 : Dc mX6_putOut 23 (.ireturn) 1 24 := ⟨by decide +kernel, rfl⟩

set_option maxRecDepth 20000 in
set_option maxHeartbeats 4000000 in
theorem w_X6_putOut {a0 : Nat} {x1 : Int32} {s0 : St} {r : Int32} {sr : St} (h_a0 : sh a0 = 6) (h : f_X6_putOut a0 x1 s0 = some (r, sr)) : Ct mX6_putOut 1 [.ref a0, .int x1] s0 (some (.int r), sr) := by
  refine Ct.ofE (by decide +kernel) rfl ?_
  show E mX6_putOut 1 (some (.int r), sr) 0 [some (.ref a0), some (.int x1)] [] s0
  unfold f_X6_putOut at h
  refine e_aload_n qX6_putOut_0 rfl ?_
  refine e_iload_n qX6_putOut_1 rfl ?_
  obtain ⟨v1, hc, h⟩ := bp_e h
  refine e_cVi1 qX6_putOut_2 mv_X6_90 h_a0 rfl rfl (w_X6_isOut h_a0 hc) ?_
  refine e_if_eq (tgt := 10) qX6_putOut_5 rfl h (fun _ h => ?_) (fun _ h => ?_)
  · refine e_aload_n qX6_putOut_10 rfl ?_
    refine e_dup qX6_putOut_11 rfl ?_
    refine e_geti qX6_putOut_12 fl_X6_43 h_a0 kdq_6_3 h (fun v2 h => ?_)
    refine e_iconst (nI 1) qX6_putOut_15 rfl ?_
    refine e_iload_n qX6_putOut_16 rfl ?_
    refine e_ishl qX6_putOut_17 ?_
    refine e_ior qX6_putOut_18 ?_
    refine e_puti qX6_putOut_19 fp_X6_43 h_a0 kdq_6_3 h (fun s3 h => ?_)
    refine e_iconst (nI 0) qX6_putOut_22 rfl ?_
    exact e_iret qX6_putOut_23 rfl (ret_i h)
  refine e_iconst (nI 1) qX6_putOut_8 rfl ?_
  exact e_iret qX6_putOut_9 rfl (ret_i h)

def f_X6_relight (a0 : Nat) (x1 : Int32) (s0 : St) : Option (Int32 × St) :=
  bp (f_X6_isOut a0 x1 s0) fun v1 =>
  if v1 = 0 then
    some ((nI 1), s0)
  else
  ald (s0.1 (rr a0 4)) 8 x1 fun v2 =>
  if v2 = 0 then
    some ((nI 2), s0)
  else
  vl (s0.1 a0 3) fun v3 =>
  vl (sI s0 a0 3 (v3 &&& (((nI 1) <<< (x1 &&& 31)) ^^^ (-1)))) fun s4 =>
  some ((nI 0), s4)

theorem qX6_relight_0 : Dc mX6_relight 0 (.aload_n 0) 1 1 := ⟨by decide +kernel, rfl⟩
theorem qX6_relight_1 : Dc mX6_relight 1 (.iload_n 1) 1 2 := ⟨by decide +kernel, rfl⟩
theorem qX6_relight_2 : Dc mX6_relight 2 (.invokevirtual 90) 3 5 := ⟨by decide +kernel, rfl⟩
theorem qX6_relight_5 : Dc mX6_relight 5 (.ifCond .ne 5) 3 8 := ⟨by decide +kernel, rfl⟩
theorem qX6_relight_8 : Dc mX6_relight 8 (.iconst 1) 1 9 := ⟨by decide +kernel, rfl⟩
theorem qX6_relight_9 : Dc mX6_relight 9 (.ireturn) 1 10 := ⟨by decide +kernel, rfl⟩
theorem qX6_relight_10 : Dc mX6_relight 10 (.aload_n 0) 1 11 := ⟨by decide +kernel, rfl⟩
theorem qX6_relight_11 : Dc mX6_relight 11 (.getfield 9) 3 14 := ⟨by decide +kernel, rfl⟩
theorem qX6_relight_14 : Dc mX6_relight 14 (.iload_n 1) 1 15 := ⟨by decide +kernel, rfl⟩
theorem qX6_relight_15 : Dc mX6_relight 15 (.iaload) 1 16 := ⟨by decide +kernel, rfl⟩
theorem qX6_relight_16 : Dc mX6_relight 16 (.ifCond .ne 5) 3 19 := ⟨by decide +kernel, rfl⟩
theorem qX6_relight_19 : Dc mX6_relight 19 (.iconst 2) 1 20 := ⟨by decide +kernel, rfl⟩
theorem qX6_relight_20 : Dc mX6_relight 20 (.ireturn) 1 21 := ⟨by decide +kernel, rfl⟩
theorem qX6_relight_21 : Dc mX6_relight 21 (.aload_n 0) 1 22 := ⟨by decide +kernel, rfl⟩
theorem qX6_relight_22 : Dc mX6_relight 22 (.dup) 1 23 := ⟨by decide +kernel, rfl⟩
theorem qX6_relight_23 : Dc mX6_relight 23 (.getfield 43) 3 26 := ⟨by decide +kernel, rfl⟩
theorem qX6_relight_26 : Dc mX6_relight 26 (.iconst 1) 1 27 := ⟨by decide +kernel, rfl⟩
theorem qX6_relight_27 : Dc mX6_relight 27 (.iload_n 1) 1 28 := ⟨by decide +kernel, rfl⟩
theorem qX6_relight_28 : Dc mX6_relight 28 (.ishl) 1 29 := ⟨by decide +kernel, rfl⟩
theorem qX6_relight_29 : Dc mX6_relight 29 (.iconst (-1)) 1 30 := ⟨by decide +kernel, rfl⟩
theorem qX6_relight_30 : Dc mX6_relight 30 (.ixor) 1 31 := ⟨by decide +kernel, rfl⟩
theorem qX6_relight_31 : Dc mX6_relight 31 (.iand) 1 32 := ⟨by decide +kernel, rfl⟩
theorem qX6_relight_32 : Dc mX6_relight 32 (.putfield 43) 3 35 := ⟨by decide +kernel, rfl⟩
theorem qX6_relight_35 : Dc mX6_relight 35 (.iconst 0) 1 36 := ⟨by decide +kernel, rfl⟩
theorem qX6_relight_36 : Dc mX6_relight 36 (.ireturn) 1 37 := ⟨by decide +kernel, rfl⟩

set_option maxRecDepth 20000 in
set_option maxHeartbeats 4000000 in
theorem w_X6_relight {a0 : Nat} {x1 : Int32} {s0 : St} {r : Int32} {sr : St} (h_a0 : sh a0 = 6) (h : f_X6_relight a0 x1 s0 = some (r, sr)) : Ct mX6_relight 1 [.ref a0, .int x1] s0 (some (.int r), sr) := by
  refine Ct.ofE (by decide +kernel) rfl ?_
  show E mX6_relight 1 (some (.int r), sr) 0 [some (.ref a0), some (.int x1)] [] s0
  unfold f_X6_relight at h
  refine e_aload_n qX6_relight_0 rfl ?_
  refine e_iload_n qX6_relight_1 rfl ?_
  obtain ⟨v1, hc, h⟩ := bp_e h
  refine e_cVi1 qX6_relight_2 mv_X6_90 h_a0 rfl rfl (w_X6_isOut h_a0 hc) ?_
  refine e_if_ne (tgt := 10) qX6_relight_5 rfl h (fun _ h => ?_) (fun _ h => ?_)
  · refine e_iconst (nI 1) qX6_relight_8 rfl ?_
    exact e_iret qX6_relight_9 rfl (ret_i h)
  refine e_aload_n qX6_relight_10 rfl ?_
  refine e_getr (rr a0 4) qX6_relight_11 fl_X6_9 h_a0 kdq_6_4 rfl ?_
  refine e_iload_n qX6_relight_14 rfl ?_
  refine e_iald qX6_relight_15 (wt_6_4 _ h_a0).1 (wt_6_4 _ h_a0).2 h (fun v2 h => ?_)
  refine e_if_ne (tgt := 21) qX6_relight_16 rfl h (fun _ h => ?_) (fun _ h => ?_)
  · refine e_iconst (nI 2) qX6_relight_19 rfl ?_
    exact e_iret qX6_relight_20 rfl (ret_i h)
  refine e_aload_n qX6_relight_21 rfl ?_
  refine e_dup qX6_relight_22 rfl ?_
  refine e_geti qX6_relight_23 fl_X6_43 h_a0 kdq_6_3 h (fun v3 h => ?_)
  refine e_iconst (nI 1) qX6_relight_26 rfl ?_
  refine e_iload_n qX6_relight_27 rfl ?_
  refine e_ishl qX6_relight_28 ?_
  refine e_iconst (-1) qX6_relight_29 rfl ?_
  refine e_ixor qX6_relight_30 ?_
  refine e_iand qX6_relight_31 ?_
  refine e_puti qX6_relight_32 fp_X6_43 h_a0 kdq_6_3 h (fun s4 h => ?_)
  refine e_iconst (nI 0) qX6_relight_35 rfl ?_
  exact e_iret qX6_relight_36 rfl (ret_i h)

def f_X6_pourInto (a0 : Nat) (x1 : Int32) (x2 : Int32) (s0 : St) : Option (Int32 × St) :=
  ald (s0.1 (rr a0 4)) 8 x1 fun v1 =>
  if (v1 + x2) ≤ (nI 999) then
    ald (s0.1 (rr a0 4)) 8 x1 fun v2 =>
    ald (fun j => sI s0 (rr a0 4) j (v2 + x2)) 8 x1 fun s3 =>
    some ((nI 0), s3)
  else
  some ((nI 1), s0)

theorem qX6_pourInto_0 : Dc mX6_pourInto 0 (.aload_n 0) 1 1 := ⟨by decide +kernel, rfl⟩
theorem qX6_pourInto_1 : Dc mX6_pourInto 1 (.getfield 9) 3 4 := ⟨by decide +kernel, rfl⟩
theorem qX6_pourInto_4 : Dc mX6_pourInto 4 (.iload_n 1) 1 5 := ⟨by decide +kernel, rfl⟩
theorem qX6_pourInto_5 : Dc mX6_pourInto 5 (.iaload) 1 6 := ⟨by decide +kernel, rfl⟩
theorem qX6_pourInto_6 : Dc mX6_pourInto 6 (.iload_n 2) 1 7 := ⟨by decide +kernel, rfl⟩
theorem qX6_pourInto_7 : Dc mX6_pourInto 7 (.iadd) 1 8 := ⟨by decide +kernel, rfl⟩
theorem qX6_pourInto_8 : Dc mX6_pourInto 8 (.sipush 999) 3 11 := ⟨by decide +kernel, rfl⟩
theorem qX6_pourInto_11 : Dc mX6_pourInto 11 (.if_icmp .le 5) 3 14 := ⟨by decide +kernel, rfl⟩
theorem qX6_pourInto_14 : Dc mX6_pourInto 14 (.iconst 1) 1 15 := ⟨by decide +kernel, rfl⟩
theorem qX6_pourInto_15 : Dc mX6_pourInto 15 (.ireturn) 1 16 := ⟨by decide +kernel, rfl⟩
theorem qX6_pourInto_16 : Dc mX6_pourInto 16 (.aload_n 0) 1 17 := ⟨by decide +kernel, rfl⟩
theorem qX6_pourInto_17 : Dc mX6_pourInto 17 (.getfield 9) 3 20 := ⟨by decide +kernel, rfl⟩
theorem qX6_pourInto_20 : Dc mX6_pourInto 20 (.iload_n 1) 1 21 := ⟨by decide +kernel, rfl⟩
theorem qX6_pourInto_21 : Dc mX6_pourInto 21 (.dup2) 1 22 := ⟨by decide +kernel, rfl⟩
theorem qX6_pourInto_22 : Dc mX6_pourInto 22 (.iaload) 1 23 := ⟨by decide +kernel, rfl⟩
theorem qX6_pourInto_23 : Dc mX6_pourInto 23 (.iload_n 2) 1 24 := ⟨by decide +kernel, rfl⟩
theorem qX6_pourInto_24 : Dc mX6_pourInto 24 (.iadd) 1 25 := ⟨by decide +kernel, rfl⟩
theorem qX6_pourInto_25 : Dc mX6_pourInto 25 (.iastore) 1 26 := ⟨by decide +kernel, rfl⟩
theorem qX6_pourInto_26 : Dc mX6_pourInto 26 (.iconst 0) 1 27 := ⟨by decide +kernel, rfl⟩
theorem qX6_pourInto_27 : Dc mX6_pourInto 27 (.ireturn) 1 28 := ⟨by decide +kernel, rfl⟩

set_option maxRecDepth 20000 in
set_option maxHeartbeats 4000000 in
theorem w_X6_pourInto {a0 : Nat} {x1 : Int32} {x2 : Int32} {s0 : St} {r : Int32} {sr : St} (h_a0 : sh a0 = 6) (h : f_X6_pourInto a0 x1 x2 s0 = some (r, sr)) : Ct mX6_pourInto 0 [.ref a0, .int x1, .int x2] s0 (some (.int r), sr) := by
  refine Ct.ofE (by decide +kernel) rfl ?_
  show E mX6_pourInto 0 (some (.int r), sr) 0 [some (.ref a0), some (.int x1), some (.int x2)] [] s0
  unfold f_X6_pourInto at h
  refine e_aload_n qX6_pourInto_0 rfl ?_
  refine e_getr (rr a0 4) qX6_pourInto_1 fl_X6_9 h_a0 kdq_6_4 rfl ?_
  refine e_iload_n qX6_pourInto_4 rfl ?_
  refine e_iald qX6_pourInto_5 (wt_6_4 _ h_a0).1 (wt_6_4 _ h_a0).2 h (fun v1 h => ?_)
  refine e_iload_n qX6_pourInto_6 rfl ?_
  refine e_iadd qX6_pourInto_7 ?_
  refine e_sipush (nI 999) qX6_pourInto_8 rfl ?_
  refine e_icmp_le (tgt := 16) qX6_pourInto_11 rfl h (fun _ h => ?_) (fun _ h => ?_)
  · refine e_aload_n qX6_pourInto_16 rfl ?_
    refine e_getr (rr a0 4) qX6_pourInto_17 fl_X6_9 h_a0 kdq_6_4 rfl ?_
    refine e_iload_n qX6_pourInto_20 rfl ?_
    refine e_dup2 qX6_pourInto_21 rfl rfl ?_
    refine e_iald qX6_pourInto_22 (wt_6_4 _ h_a0).1 (wt_6_4 _ h_a0).2 h (fun v2 h => ?_)
    refine e_iload_n qX6_pourInto_23 rfl ?_
    refine e_iadd qX6_pourInto_24 ?_
    refine e_iast qX6_pourInto_25 (wt_6_4 _ h_a0).1 (wt_6_4 _ h_a0).2 h (fun s3 h => ?_)
    refine e_iconst (nI 0) qX6_pourInto_26 rfl ?_
    exact e_iret qX6_pourInto_27 rfl (ret_i h)
  refine e_iconst (nI 1) qX6_pourInto_14 rfl ?_
  exact e_iret qX6_pourInto_15 rfl (ret_i h)

def f_X6_turn (a0 : Nat) (x1 : Int32) (x2 : Int32) (s0 : St) : Option (Int32 × St) :=
  ald (s0.1 (rr a0 8)) 4 x1 fun v1 =>
  if v1 = x2 then
    some ((nI 1), s0)
  else
  ald (fun j => sI s0 (rr a0 8) j x2) 4 x1 fun s2 =>
  some ((nI 0), s2)

theorem qX6_turn_0 : Dc mX6_turn 0 (.aload_n 0) 1 1 := ⟨by decide +kernel, rfl⟩
theorem qX6_turn_1 : Dc mX6_turn 1 (.getfield 24) 3 4 := ⟨by decide +kernel, rfl⟩
theorem qX6_turn_4 : Dc mX6_turn 4 (.iload_n 1) 1 5 := ⟨by decide +kernel, rfl⟩
theorem qX6_turn_5 : Dc mX6_turn 5 (.iaload) 1 6 := ⟨by decide +kernel, rfl⟩
theorem qX6_turn_6 : Dc mX6_turn 6 (.iload_n 2) 1 7 := ⟨by decide +kernel, rfl⟩
theorem qX6_turn_7 : Dc mX6_turn 7 (.if_icmp .ne 5) 3 10 := ⟨by decide +kernel, rfl⟩
theorem qX6_turn_10 : Dc mX6_turn 10 (.iconst 1) 1 11 := ⟨by decide +kernel, rfl⟩
theorem qX6_turn_11 : Dc mX6_turn 11 (.ireturn) 1 12 := ⟨by decide +kernel, rfl⟩
theorem qX6_turn_12 : Dc mX6_turn 12 (.aload_n 0) 1 13 := ⟨by decide +kernel, rfl⟩
theorem qX6_turn_13 : Dc mX6_turn 13 (.getfield 24) 3 16 := ⟨by decide +kernel, rfl⟩
theorem qX6_turn_16 : Dc mX6_turn 16 (.iload_n 1) 1 17 := ⟨by decide +kernel, rfl⟩
theorem qX6_turn_17 : Dc mX6_turn 17 (.iload_n 2) 1 18 := ⟨by decide +kernel, rfl⟩
theorem qX6_turn_18 : Dc mX6_turn 18 (.iastore) 1 19 := ⟨by decide +kernel, rfl⟩
theorem qX6_turn_19 : Dc mX6_turn 19 (.iconst 0) 1 20 := ⟨by decide +kernel, rfl⟩
theorem qX6_turn_20 : Dc mX6_turn 20 (.ireturn) 1 21 := ⟨by decide +kernel, rfl⟩

set_option maxRecDepth 20000 in
set_option maxHeartbeats 4000000 in
theorem w_X6_turn {a0 : Nat} {x1 : Int32} {x2 : Int32} {s0 : St} {r : Int32} {sr : St} (h_a0 : sh a0 = 6) (h : f_X6_turn a0 x1 x2 s0 = some (r, sr)) : Ct mX6_turn 0 [.ref a0, .int x1, .int x2] s0 (some (.int r), sr) := by
  refine Ct.ofE (by decide +kernel) rfl ?_
  show E mX6_turn 0 (some (.int r), sr) 0 [some (.ref a0), some (.int x1), some (.int x2)] [] s0
  unfold f_X6_turn at h
  refine e_aload_n qX6_turn_0 rfl ?_
  refine e_getr (rr a0 8) qX6_turn_1 fl_X6_24 h_a0 kdq_6_8 rfl ?_
  refine e_iload_n qX6_turn_4 rfl ?_
  refine e_iald qX6_turn_5 (wt_6_8 _ h_a0).1 (wt_6_8 _ h_a0).2 h (fun v1 h => ?_)
  refine e_iload_n qX6_turn_6 rfl ?_
  refine e_icmp_ne (tgt := 12) qX6_turn_7 rfl h (fun _ h => ?_) (fun _ h => ?_)
  · refine e_iconst (nI 1) qX6_turn_10 rfl ?_
    exact e_iret qX6_turn_11 rfl (ret_i h)
  refine e_aload_n qX6_turn_12 rfl ?_
  refine e_getr (rr a0 8) qX6_turn_13 fl_X6_24 h_a0 kdq_6_8 rfl ?_
  refine e_iload_n qX6_turn_16 rfl ?_
  refine e_iload_n qX6_turn_17 rfl ?_
  refine e_iast qX6_turn_18 (wt_6_8 _ h_a0).1 (wt_6_8 _ h_a0).2 h (fun s2 h => ?_)
  refine e_iconst (nI 0) qX6_turn_19 rfl ?_
  exact e_iret qX6_turn_20 rfl (ret_i h)

def f_X6_setHaze (a0 : Nat) (x1 : Int32) (s0 : St) : Option (Int32 × St) :=
  vl (s0.1 a0 2) fun v1 =>
  if v1 = x1 then
    some ((nI 1), s0)
  else
  vl (sI s0 a0 2 x1) fun s2 =>
  some ((nI 0), s2)

theorem qX6_setHaze_0 : Dc mX6_setHaze 0 (.aload_n 0) 1 1 := ⟨by decide +kernel, rfl⟩
theorem qX6_setHaze_1 : Dc mX6_setHaze 1 (.getfield 40) 3 4 := ⟨by decide +kernel, rfl⟩
theorem qX6_setHaze_4 : Dc mX6_setHaze 4 (.iload_n 1) 1 5 := ⟨by decide +kernel, rfl⟩
theorem qX6_setHaze_5 : Dc mX6_setHaze 5 (.if_icmp .ne 5) 3 8 := ⟨by decide +kernel, rfl⟩
theorem qX6_setHaze_8 : Dc mX6_setHaze 8 (.iconst 1) 1 9 := ⟨by decide +kernel, rfl⟩
theorem qX6_setHaze_9 : Dc mX6_setHaze 9 (.ireturn) 1 10 := ⟨by decide +kernel, rfl⟩
theorem qX6_setHaze_10 : Dc mX6_setHaze 10 (.aload_n 0) 1 11 := ⟨by decide +kernel, rfl⟩
theorem qX6_setHaze_11 : Dc mX6_setHaze 11 (.iload_n 1) 1 12 := ⟨by decide +kernel, rfl⟩
theorem qX6_setHaze_12 : Dc mX6_setHaze 12 (.putfield 40) 3 15 := ⟨by decide +kernel, rfl⟩
theorem qX6_setHaze_15 : Dc mX6_setHaze 15 (.iconst 0) 1 16 := ⟨by decide +kernel, rfl⟩
theorem qX6_setHaze_16 : Dc mX6_setHaze 16 (.ireturn) 1 17 := ⟨by decide +kernel, rfl⟩

set_option maxRecDepth 20000 in
set_option maxHeartbeats 4000000 in
theorem w_X6_setHaze {a0 : Nat} {x1 : Int32} {s0 : St} {r : Int32} {sr : St} (h_a0 : sh a0 = 6) (h : f_X6_setHaze a0 x1 s0 = some (r, sr)) : Ct mX6_setHaze 0 [.ref a0, .int x1] s0 (some (.int r), sr) := by
  refine Ct.ofE (by decide +kernel) rfl ?_
  show E mX6_setHaze 0 (some (.int r), sr) 0 [some (.ref a0), some (.int x1)] [] s0
  unfold f_X6_setHaze at h
  refine e_aload_n qX6_setHaze_0 rfl ?_
  refine e_geti qX6_setHaze_1 fl_X6_40 h_a0 kdq_6_2 h (fun v1 h => ?_)
  refine e_iload_n qX6_setHaze_4 rfl ?_
  refine e_icmp_ne (tgt := 10) qX6_setHaze_5 rfl h (fun _ h => ?_) (fun _ h => ?_)
  · refine e_iconst (nI 1) qX6_setHaze_8 rfl ?_
    exact e_iret qX6_setHaze_9 rfl (ret_i h)
  refine e_aload_n qX6_setHaze_10 rfl ?_
  refine e_iload_n qX6_setHaze_11 rfl ?_
  refine e_puti qX6_setHaze_12 fp_X6_40 h_a0 kdq_6_2 h (fun s2 h => ?_)
  refine e_iconst (nI 0) qX6_setHaze_15 rfl ?_
  exact e_iret qX6_setHaze_16 rfl (ret_i h)

def f_X7_clear (a0 : Nat) (s0 : St) : Option (St) :=
  vl (sI s0 a0 0 (nI 0)) fun s1 =>
  vl (sI s1 a0 1 (nI 0)) fun s2 =>
  some s2

theorem qX7_clear_0 : Dc mX7_clear 0 (.aload_n 0) 1 1 := ⟨by decide +kernel, rfl⟩
theorem qX7_clear_1 : Dc mX7_clear 1 (.iconst 0) 1 2 := ⟨by decide +kernel, rfl⟩
theorem qX7_clear_2 : Dc mX7_clear 2 (.putfield 24) 3 5 := ⟨by decide +kernel, rfl⟩
theorem qX7_clear_5 : Dc mX7_clear 5 (.aload_n 0) 1 6 := ⟨by decide +kernel, rfl⟩
theorem qX7_clear_6 : Dc mX7_clear 6 (.iconst 0) 1 7 := ⟨by decide +kernel, rfl⟩
theorem qX7_clear_7 : Dc mX7_clear 7 (.putfield 28) 3 10 := ⟨by decide +kernel, rfl⟩
theorem qX7_clear_10 : Dc mX7_clear 10 (.return_) 1 11 := ⟨by decide +kernel, rfl⟩

set_option maxRecDepth 20000 in
set_option maxHeartbeats 4000000 in
theorem w_X7_clear {a0 : Nat} {s0 : St} {sr : St} (h_a0 : sh a0 = 7) (h : f_X7_clear a0 s0 = some sr) : Ct mX7_clear 0 [.ref a0] s0 (none, sr) := by
  refine Ct.ofE (by decide +kernel) rfl ?_
  show E mX7_clear 0 (none, sr) 0 [some (.ref a0)] [] s0
  unfold f_X7_clear at h
  refine e_aload_n qX7_clear_0 rfl ?_
  refine e_iconst (nI 0) qX7_clear_1 rfl ?_
  refine e_puti qX7_clear_2 fp_X7_24 h_a0 kdq_7_0 h (fun s1 h => ?_)
  refine e_aload_n qX7_clear_5 rfl ?_
  refine e_iconst (nI 0) qX7_clear_6 rfl ?_
  refine e_puti qX7_clear_7 fp_X7_28 h_a0 kdq_7_1 h (fun s2 h => ?_)
  exact e_vret qX7_clear_10 rfl (ret_v h)

def f_X7_copyFrom (a0 : Nat) (a1 : Nat) (s0 : St) : Option (St) :=
  vl (s0.1 a1 0) fun v1 =>
  vl (sI s0 a0 0 v1) fun s2 =>
  vl (s2.1 a1 1) fun v3 =>
  vl (sI s2 a0 1 v3) fun s4 =>
  cpi s4 (rr a1 2) (rr a0 2) 40 fun s5 =>
  cpi s5 (rr a1 3) (rr a0 3) 40 fun s6 =>
  cpi s6 (rr a1 4) (rr a0 4) 40 fun s7 =>
  some s7

theorem qX7_copyFrom_0 : Dc mX7_copyFrom 0 (.aload_n 0) 1 1 := ⟨by decide +kernel, rfl⟩
theorem qX7_copyFrom_1 : Dc mX7_copyFrom 1 (.aload_n 1) 1 2 := ⟨by decide +kernel, rfl⟩
theorem qX7_copyFrom_2 : Dc mX7_copyFrom 2 (.getfield 24) 3 5 := ⟨by decide +kernel, rfl⟩
theorem qX7_copyFrom_5 : Dc mX7_copyFrom 5 (.putfield 24) 3 8 := ⟨by decide +kernel, rfl⟩
theorem qX7_copyFrom_8 : Dc mX7_copyFrom 8 (.aload_n 0) 1 9 := ⟨by decide +kernel, rfl⟩
theorem qX7_copyFrom_9 : Dc mX7_copyFrom 9 (.aload_n 1) 1 10 := ⟨by decide +kernel, rfl⟩
theorem qX7_copyFrom_10 : Dc mX7_copyFrom 10 (.getfield 28) 3 13 := ⟨by decide +kernel, rfl⟩
theorem qX7_copyFrom_13 : Dc mX7_copyFrom 13 (.putfield 28) 3 16 := ⟨by decide +kernel, rfl⟩
theorem qX7_copyFrom_16 : Dc mX7_copyFrom 16 (.aload_n 1) 1 17 := ⟨by decide +kernel, rfl⟩
theorem qX7_copyFrom_17 : Dc mX7_copyFrom 17 (.getfield 11) 3 20 := ⟨by decide +kernel, rfl⟩
theorem qX7_copyFrom_20 : Dc mX7_copyFrom 20 (.iconst 0) 1 21 := ⟨by decide +kernel, rfl⟩
theorem qX7_copyFrom_21 : Dc mX7_copyFrom 21 (.aload_n 0) 1 22 := ⟨by decide +kernel, rfl⟩
theorem qX7_copyFrom_22 : Dc mX7_copyFrom 22 (.getfield 11) 3 25 := ⟨by decide +kernel, rfl⟩
theorem qX7_copyFrom_25 : Dc mX7_copyFrom 25 (.iconst 0) 1 26 := ⟨by decide +kernel, rfl⟩
theorem qX7_copyFrom_26 : Dc mX7_copyFrom 26 (.bipush 40) 2 28 := ⟨by decide +kernel, rfl⟩
theorem qX7_copyFrom_28 : Dc mX7_copyFrom 28 (.invokestatic 31) 3 31 := ⟨by decide +kernel, rfl⟩
theorem qX7_copyFrom_31 : Dc mX7_copyFrom 31 (.aload_n 1) 1 32 := ⟨by decide +kernel, rfl⟩
theorem qX7_copyFrom_32 : Dc mX7_copyFrom 32 (.getfield 15) 3 35 := ⟨by decide +kernel, rfl⟩
theorem qX7_copyFrom_35 : Dc mX7_copyFrom 35 (.iconst 0) 1 36 := ⟨by decide +kernel, rfl⟩
theorem qX7_copyFrom_36 : Dc mX7_copyFrom 36 (.aload_n 0) 1 37 := ⟨by decide +kernel, rfl⟩
theorem qX7_copyFrom_37 : Dc mX7_copyFrom 37 (.getfield 15) 3 40 := ⟨by decide +kernel, rfl⟩
theorem qX7_copyFrom_40 : Dc mX7_copyFrom 40 (.iconst 0) 1 41 := ⟨by decide +kernel, rfl⟩
theorem qX7_copyFrom_41 : Dc mX7_copyFrom 41 (.bipush 40) 2 43 := ⟨by decide +kernel, rfl⟩
theorem qX7_copyFrom_43 : Dc mX7_copyFrom 43 (.invokestatic 31) 3 46 := ⟨by decide +kernel, rfl⟩
theorem qX7_copyFrom_46 : Dc mX7_copyFrom 46 (.aload_n 1) 1 47 := ⟨by decide +kernel, rfl⟩
theorem qX7_copyFrom_47 : Dc mX7_copyFrom 47 (.getfield 18) 3 50 := ⟨by decide +kernel, rfl⟩
theorem qX7_copyFrom_50 : Dc mX7_copyFrom 50 (.iconst 0) 1 51 := ⟨by decide +kernel, rfl⟩
theorem qX7_copyFrom_51 : Dc mX7_copyFrom 51 (.aload_n 0) 1 52 := ⟨by decide +kernel, rfl⟩
theorem qX7_copyFrom_52 : Dc mX7_copyFrom 52 (.getfield 18) 3 55 := ⟨by decide +kernel, rfl⟩
theorem qX7_copyFrom_55 : Dc mX7_copyFrom 55 (.iconst 0) 1 56 := ⟨by decide +kernel, rfl⟩
theorem qX7_copyFrom_56 : Dc mX7_copyFrom 56 (.bipush 40) 2 58 := ⟨by decide +kernel, rfl⟩
theorem qX7_copyFrom_58 : Dc mX7_copyFrom 58 (.invokestatic 31) 3 61 := ⟨by decide +kernel, rfl⟩
theorem qX7_copyFrom_61 : Dc mX7_copyFrom 61 (.return_) 1 62 := ⟨by decide +kernel, rfl⟩

set_option maxRecDepth 20000 in
set_option maxHeartbeats 4000000 in
theorem w_X7_copyFrom {a0 : Nat} {a1 : Nat} {s0 : St} {sr : St} (h_a0 : sh a0 = 7) (h_a1 : sh a1 = 7) (h : f_X7_copyFrom a0 a1 s0 = some sr) : Ct mX7_copyFrom 3 [.ref a0, .ref a1] s0 (none, sr) := by
  refine Ct.ofE (by decide +kernel) rfl ?_
  show E mX7_copyFrom 3 (none, sr) 0 [some (.ref a0), some (.ref a1)] [] s0
  unfold f_X7_copyFrom at h
  refine e_aload_n qX7_copyFrom_0 rfl ?_
  refine e_aload_n qX7_copyFrom_1 rfl ?_
  refine e_geti qX7_copyFrom_2 fl_X7_24 h_a1 kdq_7_0 h (fun v1 h => ?_)
  refine e_puti qX7_copyFrom_5 fp_X7_24 h_a0 kdq_7_0 h (fun s2 h => ?_)
  refine e_aload_n qX7_copyFrom_8 rfl ?_
  refine e_aload_n qX7_copyFrom_9 rfl ?_
  refine e_geti qX7_copyFrom_10 fl_X7_28 h_a1 kdq_7_1 h (fun v3 h => ?_)
  refine e_puti qX7_copyFrom_13 fp_X7_28 h_a0 kdq_7_1 h (fun s4 h => ?_)
  refine e_aload_n qX7_copyFrom_16 rfl ?_
  refine e_getr (rr a1 2) qX7_copyFrom_17 fl_X7_11 h_a1 kdq_7_2 rfl ?_
  refine e_iconst (nI 0) qX7_copyFrom_20 rfl ?_
  refine e_aload_n qX7_copyFrom_21 rfl ?_
  refine e_getr (rr a0 2) qX7_copyFrom_22 fl_X7_11 h_a0 kdq_7_2 rfl ?_
  refine e_iconst (nI 0) qX7_copyFrom_25 rfl ?_
  refine e_bipush (nI 40) qX7_copyFrom_26 rfl ?_
  refine e_cpi qX7_copyFrom_28 ca_X7_31 (by decide) rfl (wt_7_2 _ h_a1).1 (wt_7_2 _ h_a0).1 (by rw [(wt_7_2 _ h_a1).2]; decide) (by rw [(wt_7_2 _ h_a0).2]; decide) (by decide) h (fun s5 h => ?_)
  refine e_aload_n qX7_copyFrom_31 rfl ?_
  refine e_getr (rr a1 3) qX7_copyFrom_32 fl_X7_15 h_a1 kdq_7_3 rfl ?_
  refine e_iconst (nI 0) qX7_copyFrom_35 rfl ?_
  refine e_aload_n qX7_copyFrom_36 rfl ?_
  refine e_getr (rr a0 3) qX7_copyFrom_37 fl_X7_15 h_a0 kdq_7_3 rfl ?_
  refine e_iconst (nI 0) qX7_copyFrom_40 rfl ?_
  refine e_bipush (nI 40) qX7_copyFrom_41 rfl ?_
  refine e_cpi qX7_copyFrom_43 ca_X7_31 (by decide) rfl (wt_7_3 _ h_a1).1 (wt_7_3 _ h_a0).1 (by rw [(wt_7_3 _ h_a1).2]; decide) (by rw [(wt_7_3 _ h_a0).2]; decide) (by decide) h (fun s6 h => ?_)
  refine e_aload_n qX7_copyFrom_46 rfl ?_
  refine e_getr (rr a1 4) qX7_copyFrom_47 fl_X7_18 h_a1 kdq_7_4 rfl ?_
  refine e_iconst (nI 0) qX7_copyFrom_50 rfl ?_
  refine e_aload_n qX7_copyFrom_51 rfl ?_
  refine e_getr (rr a0 4) qX7_copyFrom_52 fl_X7_18 h_a0 kdq_7_4 rfl ?_
  refine e_iconst (nI 0) qX7_copyFrom_55 rfl ?_
  refine e_bipush (nI 40) qX7_copyFrom_56 rfl ?_
  refine e_cpi qX7_copyFrom_58 ca_X7_31 (by decide) rfl (wt_7_4 _ h_a1).1 (wt_7_4 _ h_a0).1 (by rw [(wt_7_4 _ h_a1).2]; decide) (by rw [(wt_7_4 _ h_a0).2]; decide) (by decide) h (fun s7 h => ?_)
  exact e_vret qX7_copyFrom_61 rfl (ret_v h)

def f_X7_add (a0 : Nat) (x1 : Int32) (x2 : Int32) (x3 : Int32) (s0 : St) : Option (Int32 × St) :=
  vl (s0.1 a0 1) fun v1 =>
  if (nI 40) ≤ v1 then
    some ((nI 1), s0)
  else
  vl (s0.1 a0 1) fun v2 =>
  ald (fun j => sI s0 (rr a0 2) j x1) 40 v2 fun s3 =>
  vl (s3.1 a0 1) fun v4 =>
  ald (fun j => sI s3 (rr a0 3) j x2) 40 v4 fun s5 =>
  vl (s5.1 a0 1) fun v6 =>
  ald (fun j => sI s5 (rr a0 4) j x3) 40 v6 fun s7 =>
  vl (s7.1 a0 1) fun v8 =>
  vl (sI s7 a0 1 (v8 + (nI 1))) fun s9 =>
  some ((nI 1), s9)

theorem qX7_add_0 : Dc mX7_add 0 (.aload_n 0) 1 1 := ⟨by decide +kernel, rfl⟩
theorem qX7_add_1 : Dc mX7_add 1 (.getfield 28) 3 4 := ⟨by decide +kernel, rfl⟩
theorem qX7_add_4 : Dc mX7_add 4 (.bipush 40) 2 6 := ⟨by decide +kernel, rfl⟩
theorem qX7_add_6 : Dc mX7_add 6 (.if_icmp .ge 43) 3 9 := ⟨by decide +kernel, rfl⟩
theorem qX7_add_9 : Dc mX7_add 9 (.aload_n 0) 1 10 := ⟨by decide +kernel, rfl⟩
theorem qX7_add_10 : Dc mX7_add 10 (.getfield 11) 3 13 := ⟨by decide +kernel, rfl⟩
theorem qX7_add_13 : Dc mX7_add 13 (.aload_n 0) 1 14 := ⟨by decide +kernel, rfl⟩
theorem qX7_add_14 : Dc mX7_add 14 (.getfield 28) 3 17 := ⟨by decide +kernel, rfl⟩
theorem qX7_add_17 : Dc mX7_add 17 (.iload_n 1) 1 18 := ⟨by decide +kernel, rfl⟩
theorem qX7_add_18 : Dc mX7_add 18 (.iastore) 1 19 := ⟨by decide +kernel, rfl⟩
theorem qX7_add_19 : Dc mX7_add 19 (.aload_n 0) 1 20 := ⟨by decide +kernel, rfl⟩
theorem qX7_add_20 : Dc mX7_add 20 (.getfield 15) 3 23 := ⟨by decide +kernel, rfl⟩
theorem qX7_add_23 : Dc mX7_add 23 (.aload_n 0) 1 24 := ⟨by decide +kernel, rfl⟩
theorem qX7_add_24 : Dc mX7_add 24 (.getfield 28) 3 27 := ⟨by decide +kernel, rfl⟩
theorem qX7_add_27 : Dc mX7_add 27 (.iload_n 2) 1 28 := ⟨by decide +kernel, rfl⟩
theorem qX7_add_28 : Dc mX7_add 28 (.iastore) 1 29 := ⟨by decide +kernel, rfl⟩
theorem qX7_add_29 : Dc mX7_add 29 (.aload_n 0) 1 30 := ⟨by decide +kernel, rfl⟩
theorem qX7_add_30 : Dc mX7_add 30 (.getfield 18) 3 33 := ⟨by decide +kernel, rfl⟩
theorem qX7_add_33 : Dc mX7_add 33 (.aload_n 0) 1 34 := ⟨by decide +kernel, rfl⟩
theorem qX7_add_34 : Dc mX7_add 34 (.getfield 28) 3 37 := ⟨by decide +kernel, rfl⟩
theorem qX7_add_37 : Dc mX7_add 37 (.iload_n 3) 1 38 := ⟨by decide +kernel, rfl⟩
theorem qX7_add_38 : Dc mX7_add 38 (.iastore) 1 39 := ⟨by decide +kernel, rfl⟩
theorem qX7_add_39 : Dc mX7_add 39 (.aload_n 0) 1 40 := ⟨by decide +kernel, rfl⟩
theorem qX7_add_40 : Dc mX7_add 40 (.dup) 1 41 := ⟨by decide +kernel, rfl⟩
theorem qX7_add_41 : Dc mX7_add 41 (.getfield 28) 3 44 := ⟨by decide +kernel, rfl⟩
theorem qX7_add_44 : Dc mX7_add 44 (.iconst 1) 1 45 := ⟨by decide +kernel, rfl⟩
theorem qX7_add_45 : Dc mX7_add 45 (.iadd) 1 46 := ⟨by decide +kernel, rfl⟩
theorem qX7_add_46 : Dc mX7_add 46 (.putfield 28) 3 49 := ⟨by decide +kernel, rfl⟩
theorem qX7_add_49 : Dc mX7_add 49 (.iconst 1) 1 50 := ⟨by decide +kernel, rfl⟩
theorem qX7_add_50 : Dc mX7_add 50 (.ireturn) 1 51 := ⟨by decide +kernel, rfl⟩

set_option maxRecDepth 20000 in
set_option maxHeartbeats 4000000 in
theorem w_X7_add {a0 : Nat} {x1 : Int32} {x2 : Int32} {x3 : Int32} {s0 : St} {r : Int32} {sr : St} (h_a0 : sh a0 = 7) (h : f_X7_add a0 x1 x2 x3 s0 = some (r, sr)) : Ct mX7_add 0 [.ref a0, .int x1, .int x2, .int x3] s0 (some (.int r), sr) := by
  refine Ct.ofE (by decide +kernel) rfl ?_
  show E mX7_add 0 (some (.int r), sr) 0 [some (.ref a0), some (.int x1), some (.int x2), some (.int x3)] [] s0
  unfold f_X7_add at h
  refine e_aload_n qX7_add_0 rfl ?_
  refine e_geti qX7_add_1 fl_X7_28 h_a0 kdq_7_1 h (fun v1 h => ?_)
  refine e_bipush (nI 40) qX7_add_4 rfl ?_
  refine e_icmp_ge (tgt := 49) qX7_add_6 rfl h (fun _ h => ?_) (fun _ h => ?_)
  · refine e_iconst (nI 1) qX7_add_49 rfl ?_
    exact e_zret qX7_add_50 rfl (by decide) (ret_i h)
  refine e_aload_n qX7_add_9 rfl ?_
  refine e_getr (rr a0 2) qX7_add_10 fl_X7_11 h_a0 kdq_7_2 rfl ?_
  refine e_aload_n qX7_add_13 rfl ?_
  refine e_geti qX7_add_14 fl_X7_28 h_a0 kdq_7_1 h (fun v2 h => ?_)
  refine e_iload_n qX7_add_17 rfl ?_
  refine e_iast qX7_add_18 (wt_7_2 _ h_a0).1 (wt_7_2 _ h_a0).2 h (fun s3 h => ?_)
  refine e_aload_n qX7_add_19 rfl ?_
  refine e_getr (rr a0 3) qX7_add_20 fl_X7_15 h_a0 kdq_7_3 rfl ?_
  refine e_aload_n qX7_add_23 rfl ?_
  refine e_geti qX7_add_24 fl_X7_28 h_a0 kdq_7_1 h (fun v4 h => ?_)
  refine e_iload_n qX7_add_27 rfl ?_
  refine e_iast qX7_add_28 (wt_7_3 _ h_a0).1 (wt_7_3 _ h_a0).2 h (fun s5 h => ?_)
  refine e_aload_n qX7_add_29 rfl ?_
  refine e_getr (rr a0 4) qX7_add_30 fl_X7_18 h_a0 kdq_7_4 rfl ?_
  refine e_aload_n qX7_add_33 rfl ?_
  refine e_geti qX7_add_34 fl_X7_28 h_a0 kdq_7_1 h (fun v6 h => ?_)
  refine e_iload_n qX7_add_37 rfl ?_
  refine e_iast qX7_add_38 (wt_7_4 _ h_a0).1 (wt_7_4 _ h_a0).2 h (fun s7 h => ?_)
  refine e_aload_n qX7_add_39 rfl ?_
  refine e_dup qX7_add_40 rfl ?_
  refine e_geti qX7_add_41 fl_X7_28 h_a0 kdq_7_1 h (fun v8 h => ?_)
  refine e_iconst (nI 1) qX7_add_44 rfl ?_
  refine e_iadd qX7_add_45 ?_
  refine e_puti qX7_add_46 fp_X7_28 h_a0 kdq_7_1 h (fun s9 h => ?_)
  refine e_iconst (nI 1) qX7_add_49 rfl ?_
  exact e_zret qX7_add_50 rfl (by decide) (ret_i h)

def f_X7_measureOf (a0 : Nat) (x1 : Int32) (x2 : Int32) (s0 : St) : Option (Int32) :=
  if x1 = nI 8 then
    ald (s0.1 (rr a0 4)) 8 x2 fun v1 =>
    some v1
  else
  if x1 = nI 9 then
    ald (rr 4) 8 x2 fun v2 =>
    vl (s0.1 v2 10) fun v4 =>
    some v4
  else
  if x1 = nI 10 then
    ald (rr 4) 8 x2 fun v5 =>
    vl (s0.1 v5 3) fun v7 =>
    some v7
  else
  some x2

theorem qX7_measureOf_0 : Dc mX7_measureOf 0 (.iload_n 1) 1 1 := ⟨by decide +kernel, rfl⟩
theorem qX7_measureOf_1 : Dc mX7_measureOf 1 (.tableswitch 60 8 10 #[27, 34, 47]) 27 28 := ⟨by decide +kernel, rfl⟩
theorem qX7_measureOf_28 : Dc mX7_measureOf 28 (.aload_n 0) 1 29 := ⟨by decide +kernel, rfl⟩
theorem qX7_measureOf_29 : Dc mX7_measureOf 29 (.getfield 200) 3 32 := ⟨by decide +kernel, rfl⟩
theorem qX7_measureOf_32 : Dc mX7_measureOf 32 (.iload_n 2) 1 33 := ⟨by decide +kernel, rfl⟩
theorem qX7_measureOf_33 : Dc mX7_measureOf 33 (.iaload) 1 34 := ⟨by decide +kernel, rfl⟩
theorem qX7_measureOf_34 : Dc mX7_measureOf 34 (.ireturn) 1 35 := ⟨by decide +kernel, rfl⟩
theorem qX7_measureOf_35 : Dc mX7_measureOf 35 (.aload_n 0) 1 36 := ⟨by decide +kernel, rfl⟩
theorem qX7_measureOf_36 : Dc mX7_measureOf 36 (.getfield 154) 3 39 := ⟨by decide +kernel, rfl⟩
theorem qX7_measureOf_39 : Dc mX7_measureOf 39 (.getfield 177) 3 42 := ⟨by decide +kernel, rfl⟩
theorem qX7_measureOf_42 : Dc mX7_measureOf 42 (.iload_n 2) 1 43 := ⟨by decide +kernel, rfl⟩
theorem qX7_measureOf_43 : Dc mX7_measureOf 43 (.aaload) 1 44 := ⟨by decide +kernel, rfl⟩
theorem qX7_measureOf_44 : Dc mX7_measureOf 44 (.getfield 203) 3 47 := ⟨by decide +kernel, rfl⟩
theorem qX7_measureOf_47 : Dc mX7_measureOf 47 (.ireturn) 1 48 := ⟨by decide +kernel, rfl⟩
theorem qX7_measureOf_48 : Dc mX7_measureOf 48 (.aload_n 0) 1 49 := ⟨by decide +kernel, rfl⟩
theorem qX7_measureOf_49 : Dc mX7_measureOf 49 (.getfield 154) 3 52 := ⟨by decide +kernel, rfl⟩
theorem qX7_measureOf_52 : Dc mX7_measureOf 52 (.getfield 177) 3 55 := ⟨by decide +kernel, rfl⟩
theorem qX7_measureOf_55 : Dc mX7_measureOf 55 (.iload_n 2) 1 56 := ⟨by decide +kernel, rfl⟩
theorem qX7_measureOf_56 : Dc mX7_measureOf 56 (.aaload) 1 57 := ⟨by decide +kernel, rfl⟩
theorem qX7_measureOf_57 : Dc mX7_measureOf 57 (.getfield 206) 3 60 := ⟨by decide +kernel, rfl⟩
theorem qX7_measureOf_60 : Dc mX7_measureOf 60 (.ireturn) 1 61 := ⟨by decide +kernel, rfl⟩
theorem qX7_measureOf_61 : Dc mX7_measureOf 61 (.iload_n 2) 1 62 := ⟨by decide +kernel, rfl⟩
theorem qX7_measureOf_62 : Dc mX7_measureOf 62 (.ireturn) 1 63 := ⟨by decide +kernel, rfl⟩

set_option maxRecDepth 20000 in
set_option maxHeartbeats 4000000 in
theorem w_X7_measureOf {a0 : Nat} {x1 : Int32} {x2 : Int32} {s0 : St} {r : Int32} (h_a0 : sh a0 = 6) (h : f_X7_measureOf a0 x1 x2 s0 = some r) : Ct mX7_measureOf 0 [.ref a0, .int x1, .int x2] s0 (some (.int r), s0) := by
  refine Ct.ofE (by decide +kernel) rfl ?_
  show E mX7_measureOf 0 (some (.int r), s0) 0 [some (.ref a0), some (.int x1), some (.int x2)] [] s0
  unfold f_X7_measureOf at h
  refine e_iload_n qX7_measureOf_0 rfl ?_
  refine e_ite h (fun hx h => ?_) (fun hx0 h => ?_)
  · refine e_tswk (tgt := 28) qX7_measureOf_1 hx (by decide) (by decide) (by decide) rfl rfl ?_
    refine e_aload_n qX7_measureOf_28 rfl ?_
    refine e_getr (rr a0 4) qX7_measureOf_29 fl_X7_200 h_a0 kdq_6_4 rfl ?_
    refine e_iload_n qX7_measureOf_32 rfl ?_
    refine e_iald qX7_measureOf_33 (wt_6_4 _ h_a0).1 (wt_6_4 _ h_a0).2 h (fun v1 h => ?_)
    exact e_iret qX7_measureOf_34 rfl (ret_p h)
  refine e_ite h (fun hx h => ?_) (fun hx1 h => ?_)
  · refine e_tswk (tgt := 35) qX7_measureOf_1 hx (by decide) (by decide) (by decide) rfl rfl ?_
    refine e_aload_n qX7_measureOf_35 rfl ?_
    refine e_getr 3 qX7_measureOf_36 fl_X7_154 h_a0 kdq_6_0 (wq_6_0 _ h_a0) ?_
    refine e_getr 4 qX7_measureOf_39 fl_X7_177 shq_3 kdq_1_0 rrq_3_0 ?_
    refine e_iload_n qX7_measureOf_42 rfl ?_
    refine e_rald24 qX7_measureOf_43 shq_4 lnq_4 h (fun i3 hi3 h => ?_)
    refine e_geti qX7_measureOf_44 fl_X7_203 (we_24 _ shq_4 _ hi3) kdq_4_10 h (fun v4 h => ?_)
    exact e_iret qX7_measureOf_47 rfl (ret_p h)
  refine e_ite h (fun hx h => ?_) (fun hx2 h => ?_)
  · refine e_tswk (tgt := 48) qX7_measureOf_1 hx (by decide) (by decide) (by decide) rfl rfl ?_
    refine e_aload_n qX7_measureOf_48 rfl ?_
    refine e_getr 3 qX7_measureOf_49 fl_X7_154 h_a0 kdq_6_0 (wq_6_0 _ h_a0) ?_
    refine e_getr 4 qX7_measureOf_52 fl_X7_177 shq_3 kdq_1_0 rrq_3_0 ?_
    refine e_iload_n qX7_measureOf_55 rfl ?_
    refine e_rald24 qX7_measureOf_56 shq_4 lnq_4 h (fun i6 hi6 h => ?_)
    refine e_geti qX7_measureOf_57 fl_X7_206 (we_24 _ shq_4 _ hi6) kdq_4_3 h (fun v7 h => ?_)
    exact e_iret qX7_measureOf_60 rfl (ret_p h)
  refine e_tswo (tgt := 61) qX7_measureOf_1 (tsw_def (lo := 8) (n := 3) (by decide) (lt_s (lt_s (lt_s lt_0 hx0) hx1) hx2)) rfl ?_
  refine e_iload_n qX7_measureOf_61 rfl ?_
  exact e_iret qX7_measureOf_62 rfl (ret_p h)

def f_X8_copyFrom (a0 : Nat) (a1 : Nat) (s0 : St) : Option (St) :=
  vl (s0.2 a1 0) fun v1 =>
  vl (sL s0 a0 0 v1) fun s2 =>
  vl (s2.1 a1 1) fun v3 =>
  vl (sI s2 a0 1 v3) fun s4 =>
  vl (s4.1 a1 2) fun v5 =>
  vl (sI s4 a0 2 v5) fun s6 =>
  vl (s6.1 a1 3) fun v7 =>
  vl (sI s6 a0 3 v7) fun s8 =>
  vl (s8.1 a1 4) fun v9 =>
  vl (sI s8 a0 4 v9) fun s10 =>
  some s10

theorem qX8_copyFrom_0 : Dc mX8_copyFrom 0 (.aload_n 0) 1 1 := ⟨by decide +kernel, rfl⟩
theorem qX8_copyFrom_1 : Dc mX8_copyFrom 1 (.aload_n 1) 1 2 := ⟨by decide +kernel, rfl⟩
theorem qX8_copyFrom_2 : Dc mX8_copyFrom 2 (.getfield 7) 3 5 := ⟨by decide +kernel, rfl⟩
theorem qX8_copyFrom_5 : Dc mX8_copyFrom 5 (.putfield 7) 3 8 := ⟨by decide +kernel, rfl⟩
theorem qX8_copyFrom_8 : Dc mX8_copyFrom 8 (.aload_n 0) 1 9 := ⟨by decide +kernel, rfl⟩
theorem qX8_copyFrom_9 : Dc mX8_copyFrom 9 (.aload_n 1) 1 10 := ⟨by decide +kernel, rfl⟩
theorem qX8_copyFrom_10 : Dc mX8_copyFrom 10 (.getfield 13) 3 13 := ⟨by decide +kernel, rfl⟩
theorem qX8_copyFrom_13 : Dc mX8_copyFrom 13 (.putfield 13) 3 16 := ⟨by decide +kernel, rfl⟩
theorem qX8_copyFrom_16 : Dc mX8_copyFrom 16 (.aload_n 0) 1 17 := ⟨by decide +kernel, rfl⟩
theorem qX8_copyFrom_17 : Dc mX8_copyFrom 17 (.aload_n 1) 1 18 := ⟨by decide +kernel, rfl⟩
theorem qX8_copyFrom_18 : Dc mX8_copyFrom 18 (.getfield 17) 3 21 := ⟨by decide +kernel, rfl⟩
theorem qX8_copyFrom_21 : Dc mX8_copyFrom 21 (.putfield 17) 3 24 := ⟨by decide +kernel, rfl⟩
theorem qX8_copyFrom_24 : Dc mX8_copyFrom 24 (.aload_n 0) 1 25 := ⟨by decide +kernel, rfl⟩
theorem qX8_copyFrom_25 : Dc mX8_copyFrom 25 (.aload_n 1) 1 26 := ⟨by decide +kernel, rfl⟩
theorem qX8_copyFrom_26 : Dc mX8_copyFrom 26 (.getfield 20) 3 29 := ⟨by decide +kernel, rfl⟩
theorem qX8_copyFrom_29 : Dc mX8_copyFrom 29 (.putfield 20) 3 32 := ⟨by decide +kernel, rfl⟩
theorem qX8_copyFrom_32 : Dc mX8_copyFrom 32 (.aload_n 0) 1 33 := ⟨by decide +kernel, rfl⟩
theorem qX8_copyFrom_33 : Dc mX8_copyFrom 33 (.aload_n 1) 1 34 := ⟨by decide +kernel, rfl⟩
theorem qX8_copyFrom_34 : Dc mX8_copyFrom 34 (.getfield 23) 3 37 := ⟨by decide +kernel, rfl⟩
theorem qX8_copyFrom_37 : Dc mX8_copyFrom 37 (.putfield 23) 3 40 := ⟨by decide +kernel, rfl⟩
theorem qX8_copyFrom_40 : Dc mX8_copyFrom 40 (.return_) 1 41 := ⟨by decide +kernel, rfl⟩

set_option maxRecDepth 20000 in
set_option maxHeartbeats 4000000 in
theorem w_X8_copyFrom {a0 : Nat} {a1 : Nat} {s0 : St} {sr : St} (h_a0 : sh a0 = 8) (h_a1 : sh a1 = 8) (h : f_X8_copyFrom a0 a1 s0 = some sr) : Ct mX8_copyFrom 0 [.ref a0, .ref a1] s0 (none, sr) := by
  refine Ct.ofE (by decide +kernel) rfl ?_
  show E mX8_copyFrom 0 (none, sr) 0 [some (.ref a0), some (.ref a1)] [] s0
  unfold f_X8_copyFrom at h
  refine e_aload_n qX8_copyFrom_0 rfl ?_
  refine e_aload_n qX8_copyFrom_1 rfl ?_
  refine e_getl qX8_copyFrom_2 fl_X8_7 h_a1 kdq_8_0 h (fun v1 h => ?_)
  refine e_putl qX8_copyFrom_5 fp_X8_7 h_a0 kdq_8_0 h (fun s2 h => ?_)
  refine e_aload_n qX8_copyFrom_8 rfl ?_
  refine e_aload_n qX8_copyFrom_9 rfl ?_
  refine e_geti qX8_copyFrom_10 fl_X8_13 h_a1 kdq_8_1 h (fun v3 h => ?_)
  refine e_puti qX8_copyFrom_13 fp_X8_13 h_a0 kdq_8_1 h (fun s4 h => ?_)
  refine e_aload_n qX8_copyFrom_16 rfl ?_
  refine e_aload_n qX8_copyFrom_17 rfl ?_
  refine e_geti qX8_copyFrom_18 fl_X8_17 h_a1 kdq_8_2 h (fun v5 h => ?_)
  refine e_puti qX8_copyFrom_21 fp_X8_17 h_a0 kdq_8_2 h (fun s6 h => ?_)
  refine e_aload_n qX8_copyFrom_24 rfl ?_
  refine e_aload_n qX8_copyFrom_25 rfl ?_
  refine e_geti qX8_copyFrom_26 fl_X8_20 h_a1 kdq_8_3 h (fun v7 h => ?_)
  refine e_puti qX8_copyFrom_29 fp_X8_20 h_a0 kdq_8_3 h (fun s8 h => ?_)
  refine e_aload_n qX8_copyFrom_32 rfl ?_
  refine e_aload_n qX8_copyFrom_33 rfl ?_
  refine e_geti qX8_copyFrom_34 fl_X8_23 h_a1 kdq_8_4 h (fun v9 h => ?_)
  refine e_puti qX8_copyFrom_37 fp_X8_23 h_a0 kdq_8_4 h (fun s10 h => ?_)
  exact e_vret qX8_copyFrom_40 rfl (ret_v h)
