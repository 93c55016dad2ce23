def f_X9_put_L3 (N : Nat) (c1 : Int32) : Nat → Int32 → St → Option (St)
  | 0, _, _ => none
  | n4 + 1, v2, s3 =>
    if v2 < 0 then
      some s3
    else
    vl (s3.1 1 1) fun v6 =>
    jn (fun (s7 : St) =>
      vl (v2 + (-8)) fun v9 =>
      f_X9_put_L3 N c1 n4 v9 s7) fun j8 =>
    if (nI 940) ≤ v6 then
      j8 s3
    else
    vl (s3.1 1 1) fun v10 =>
    ald (fun j => sI s3 2 j ((ush c1 v2) &&& (nI 255))) 940 v10 fun s11 =>
    vl (s11.1 1 1) fun v12 =>
    vl (sI s11 1 1 (v12 + (nI 1))) fun s13 =>
    j8 s13

def f_X9_put (N : Nat) (x1 : Int32) (s0 : St) : Option (St) :=
  f_X9_put_L3 N x1 N (nI 24) s0

theorem qX9_put_0 : Dc mX9_put 0 (.bipush 24) 2 2 := ⟨by decide +kernel, rfl⟩
theorem qX9_put_2 : Dc mX9_put 2 (.istore_n 2) 1 3 := ⟨by decide +kernel, rfl⟩
theorem qX9_put_3 : Dc mX9_put 3 (.iload_n 2) 1 4 := ⟨by decide +kernel, rfl⟩
theorem qX9_put_4 : Dc mX9_put 4 (.ifCond .lt 45) 3 7 := ⟨by decide +kernel, rfl⟩
theorem qX9_put_7 : Dc mX9_put 7 (.aload_n 0) 1 8 := ⟨by decide +kernel, rfl⟩
theorem qX9_put_8 : Dc mX9_put 8 (.getfield 15) 3 11 := ⟨by decide +kernel, rfl⟩
theorem qX9_put_11 : Dc mX9_put 11 (.sipush 940) 3 14 := ⟨by decide +kernel, rfl⟩
theorem qX9_put_14 : Dc mX9_put 14 (.if_icmp .ge 29) 3 17 := ⟨by decide +kernel, rfl⟩
theorem qX9_put_17 : Dc mX9_put 17 (.aload_n 0) 1 18 := ⟨by decide +kernel, rfl⟩
theorem qX9_put_18 : Dc mX9_put 18 (.getfield 9) 3 21 := ⟨by decide +kernel, rfl⟩
theorem qX9_put_21 : Dc mX9_put 21 (.aload_n 0) 1 22 := ⟨by decide +kernel, rfl⟩
theorem qX9_put_22 : Dc mX9_put 22 (.getfield 15) 3 25 := ⟨by decide +kernel, rfl⟩
theorem qX9_put_25 : Dc mX9_put 25 (.iload_n 1) 1 26 := ⟨by decide +kernel, rfl⟩
theorem qX9_put_26 : Dc mX9_put 26 (.iload_n 2) 1 27 := ⟨by decide +kernel, rfl⟩
theorem qX9_put_27 : Dc mX9_put 27 (.iushr) 1 28 := ⟨by decide +kernel, rfl⟩
theorem qX9_put_28 : Dc mX9_put 28 (.sipush 255) 3 31 := ⟨by decide +kernel, rfl⟩
theorem qX9_put_31 : Dc mX9_put 31 (.iand) 1 32 := ⟨by decide +kernel, rfl⟩
theorem qX9_put_32 : Dc mX9_put 32 (.iastore) 1 33 := ⟨by decide +kernel, rfl⟩
theorem qX9_put_33 : Dc mX9_put 33 (.aload_n 0) 1 34 := ⟨by decide +kernel, rfl⟩
theorem qX9_put_34 : Dc mX9_put 34 (.dup) 1 35 := ⟨by decide +kernel, rfl⟩
theorem qX9_put_35 : Dc mX9_put 35 (.getfield 15) 3 38 := ⟨by decide +kernel, rfl⟩
theorem qX9_put_38 : Dc mX9_put 38 (.iconst 1) 1 39 := ⟨by decide +kernel, rfl⟩
theorem qX9_put_39 : Dc mX9_put 39 (.iadd) 1 40 := ⟨by decide +kernel, rfl⟩
theorem qX9_put_40 : Dc mX9_put 40 (.putfield 15) 3 43 := ⟨by decide +kernel, rfl⟩
theorem qX9_put_43 : Dc mX9_put 43 (.iinc 2 (-8)) 3 46 := ⟨by decide +kernel, rfl⟩
theorem qX9_put_46 : Dc mX9_put 46 (.goto (-43)) 3 49 := ⟨by decide +kernel, rfl⟩
theorem qX9_put_49 : Dc mX9_put 49 (.return_) 1 50 := ⟨by decide +kernel, rfl⟩

set_option maxRecDepth 20000 in
set_option maxHeartbeats 4000000 in
theorem w_X9_put_L3 {N : Nat} {c1 : Int32}  {sr : St}   : ∀ (n4 : Nat) (v2 : Int32) (s3 : St), f_X9_put_L3 N c1 n4 v2 s3 = some sr → E mX9_put 0 (none, sr) 3 [some (.ref 1), some (.int c1), some (.int v2)] [] s3 := by
  intro n4
  induction n4 with
  | zero =>
    intro v2 s3 h
    rw [f_X9_put_L3] at h; cases h
  | succ n4 ih5 =>
    intro v2 s3 h
    rw [f_X9_put_L3] at h
    refine e_iload_n qX9_put_3 rfl ?_
    refine e_if_lt (tgt := 49) qX9_put_4 rfl h (fun _ h => ?_) (fun _ h => ?_)
    · exact e_vret qX9_put_49 rfl (ret_v h)
    refine e_aload_n qX9_put_7 rfl ?_
    refine e_geti qX9_put_8 fl_X9_15 shq_1 kdq_9_1 h (fun v6 h => ?_)
    refine e_sipush (nI 940) qX9_put_11 rfl ?_
    refine jn_e (fun j => ∀ (s7 : St), j s7 = some sr → E mX9_put 0 (none, sr) 43 [some (.ref 1), some (.int c1), some (.int v2)] [] s7) h ?_ (fun j8 hj8 h => ?_)
    · intro s7 h
      refine vl_e h (fun h => ?_)
      obtain ⟨v9, ev9⟩ : ∃ y, v2 + (-8) = y := ⟨_, rfl⟩
      rw [ev9] at h
      refine e_iinc (-8) v9 (lv2 := [some (.ref 1), some (.int c1), some (.int v9)]) qX9_put_43 rfl rfl rfl ev9 rfl ?_
      refine e_goto (tgt := 3) qX9_put_46 rfl ?_
      exact e_weak (ih5 _ _ h) ⟨Or.inr rfl, Or.inr rfl, Or.inr rfl, trivial⟩
    refine e_icmp_ge (tgt := 43) qX9_put_14 rfl h (fun _ h => ?_) (fun _ h => ?_)
    · exact e_weak (hj8 _ h) ⟨Or.inr rfl, Or.inr rfl, Or.inr rfl, trivial⟩
    refine e_aload_n qX9_put_17 rfl ?_
    refine e_getr 2 qX9_put_18 fl_X9_9 shq_1 kdq_9_0 rrq_1_0 ?_
    refine e_aload_n qX9_put_21 rfl ?_
    refine e_geti qX9_put_22 fl_X9_15 shq_1 kdq_9_1 h (fun v10 h => ?_)
    refine e_iload_n qX9_put_25 rfl ?_
    refine e_iload_n qX9_put_26 rfl ?_
    refine e_iushr qX9_put_27 ?_
    refine e_sipush (nI 255) qX9_put_28 rfl ?_
    refine e_iand qX9_put_31 ?_
    refine e_iast qX9_put_32 shq_2 lnq_2 h (fun s11 h => ?_)
    refine e_aload_n qX9_put_33 rfl ?_
    refine e_dup qX9_put_34 rfl ?_
    refine e_geti qX9_put_35 fl_X9_15 shq_1 kdq_9_1 h (fun v12 h => ?_)
    refine e_iconst (nI 1) qX9_put_38 rfl ?_
    refine e_iadd qX9_put_39 ?_
    refine e_puti qX9_put_40 fp_X9_15 shq_1 kdq_9_1 h (fun s13 h => ?_)
    exact e_weak (hj8 _ h) ⟨Or.inr rfl, Or.inr rfl, Or.inr rfl, trivial⟩

set_option maxRecDepth 20000 in
set_option maxHeartbeats 4000000 in
theorem w_X9_put {N : Nat} {x1 : Int32} {s0 : St} {sr : St} (h : f_X9_put N x1 s0 = some sr) : Ct mX9_put 0 [.ref 1, .int x1] s0 (none, sr) := by
  refine Ct.ofE (by decide +kernel) rfl ?_
  show E mX9_put 0 (none, sr) 0 [some (.ref 1), some (.int x1), none] [] s0
  unfold f_X9_put at h
  refine e_bipush (nI 24) qX9_put_0 rfl ?_
  refine e_istore_n (lv2 := [some (.ref 1), some (.int x1), some (.int (nI 24))]) qX9_put_2 rfl rfl rfl ?_
  exact e_weak (w_X9_put_L3  _ _ _ h) ⟨Or.inr rfl, Or.inr rfl, Or.inr rfl, trivial⟩

def f_X9_refuse (x1 : Int32) (s0 : St) : Option (Int32 × St) :=
  vl (sI s0 1 6 x1) fun s1 =>
  vl (s1.1 1 8) fun v2 =>
  vl (sI s1 1 7 v2) fun s3 =>
  some ((nI 0), s3)

theorem qX9_refuse_0 : Dc mX9_refuse 0 (.aload_n 0) 1 1 := ⟨by decide +kernel, rfl⟩
theorem qX9_refuse_1 : Dc mX9_refuse 1 (.iload_n 1) 1 2 := ⟨by decide +kernel, rfl⟩
theorem qX9_refuse_2 : Dc mX9_refuse 2 (.putfield 35) 3 5 := ⟨by decide +kernel, rfl⟩
theorem qX9_refuse_5 : Dc mX9_refuse 5 (.aload_n 0) 1 6 := ⟨by decide +kernel, rfl⟩
theorem qX9_refuse_6 : Dc mX9_refuse 6 (.aload_n 0) 1 7 := ⟨by decide +kernel, rfl⟩
theorem qX9_refuse_7 : Dc mX9_refuse 7 (.getfield 44) 3 10 := ⟨by decide +kernel, rfl⟩
theorem qX9_refuse_10 : Dc mX9_refuse 10 (.putfield 38) 3 13 := ⟨by decide +kernel, rfl⟩
theorem qX9_refuse_13 : Dc mX9_refuse 13 (.iconst 0) 1 14 := ⟨by decide +kernel, rfl⟩
theorem qX9_refuse_14 : Dc mX9_refuse 14 (.ireturn) 1 15 := ⟨by decide +kernel, rfl⟩

set_option maxRecDepth 20000 in
set_option maxHeartbeats 4000000 in
theorem w_X9_refuse {x1 : Int32} {s0 : St} {r : Int32} {sr : St} (h : f_X9_refuse x1 s0 = some (r, sr)) : Ct mX9_refuse 0 [.ref 1, .int x1] s0 (some (.int r), sr) := by
  refine Ct.ofE (by decide +kernel) rfl ?_
  show E mX9_refuse 0 (some (.int r), sr) 0 [some (.ref 1), some (.int x1)] [] s0
  unfold f_X9_refuse at h
  refine e_aload_n qX9_refuse_0 rfl ?_
  refine e_iload_n qX9_refuse_1 rfl ?_
  refine e_puti qX9_refuse_2 fp_X9_35 shq_1 kdq_9_6 h (fun s1 h => ?_)
  refine e_aload_n qX9_refuse_5 rfl ?_
  refine e_aload_n qX9_refuse_6 rfl ?_
  refine e_geti qX9_refuse_7 fl_X9_44 shq_1 kdq_9_8 h (fun v2 h => ?_)
  refine e_puti qX9_refuse_10 fp_X9_38 shq_1 kdq_9_7 h (fun s3 h => ?_)
  refine e_iconst (nI 0) qX9_refuse_13 rfl ?_
  exact e_zret qX9_refuse_14 rfl (by decide) (ret_i h)

def f_X9_is (a1 : Nat) (s0 : St) : Option (Int32) :=
  vl (s0.2 1 3) fun v1 =>
  wcd a1 fun v2 =>
  if (lg_cmp v1 v2) = 0 then
    some (nI 1)
  else
  some (nI 0)

theorem qX9_is_0 : Dc mX9_is 0 (.aload_n 0) 1 1 := ⟨by decide +kernel, rfl⟩
theorem qX9_is_1 : Dc mX9_is 1 (.getfield 47) 3 4 := ⟨by decide +kernel, rfl⟩
theorem qX9_is_4 : Dc mX9_is 4 (.aload_n 1) 1 5 := ⟨by decide +kernel, rfl⟩
theorem qX9_is_5 : Dc mX9_is 5 (.getfield 63) 3 8 := ⟨by decide +kernel, rfl⟩
theorem qX9_is_8 : Dc mX9_is 8 (.lcmp) 1 9 := ⟨by decide +kernel, rfl⟩
theorem qX9_is_9 : Dc mX9_is 9 (.ifCond .ne 7) 3 12 := ⟨by decide +kernel, rfl⟩
theorem qX9_is_12 : Dc mX9_is 12 (.iconst 1) 1 13 := ⟨by decide +kernel, rfl⟩
theorem qX9_is_13 : Dc mX9_is 13 (.goto 4) 3 16 := ⟨by decide +kernel, rfl⟩
theorem qX9_is_16 : Dc mX9_is 16 (.iconst 0) 1 17 := ⟨by decide +kernel, rfl⟩
theorem qX9_is_17 : Dc mX9_is 17 (.ireturn) 1 18 := ⟨by decide +kernel, rfl⟩

set_option maxRecDepth 20000 in
set_option maxHeartbeats 4000000 in
theorem w_X9_is {a1 : Nat} {s0 : St} {r : Int32} (h : f_X9_is a1 s0 = some r) : Ct mX9_is 0 [.ref 1, .ref a1] s0 (some (.int r), s0) := by
  refine Ct.ofE (by decide +kernel) rfl ?_
  show E mX9_is 0 (some (.int r), s0) 0 [some (.ref 1), some (.ref a1)] [] s0
  unfold f_X9_is at h
  refine e_aload_n qX9_is_0 rfl ?_
  refine e_getl qX9_is_1 fl_X9_47 shq_1 kdq_9_3 h (fun v1 h => ?_)
  refine e_aload_n qX9_is_4 rfl ?_
  refine e_gcode qX9_is_5 cf_X9_63 h (fun v2 h => ?_)
  refine e_lcmp qX9_is_8 ?_
  refine e_if_ne (tgt := 16) qX9_is_9 rfl h (fun _ h => ?_) (fun _ h => ?_)
  · refine e_iconst (nI 1) qX9_is_12 rfl ?_
    refine e_goto (tgt := 17) qX9_is_13 rfl ?_
    exact e_zret qX9_is_17 rfl (by decide) (ret_p h)
  refine e_iconst (nI 0) qX9_is_16 rfl ?_
  exact e_zret qX9_is_17 rfl (by decide) (ret_p h)

def f_X9_isSign (x1 : Int32) (s0 : St) : Option (Int32) :=
  vl (s0.1 1 2) fun v1 =>
  jn (some (nI 0)) fun j2 =>
  if v1 = (nI 3) then
    vl (s0.1 1 4) fun v3 =>
    if v3 = x1 then
      some (nI 1)
    else
    j2
  else
  j2

theorem qX9_isSign_0 : Dc mX9_isSign 0 (.aload_n 0) 1 1 := ⟨by decide +kernel, rfl⟩
theorem qX9_isSign_1 : Dc mX9_isSign 1 (.getfield 54) 3 4 := ⟨by decide +kernel, rfl⟩
theorem qX9_isSign_4 : Dc mX9_isSign 4 (.iconst 3) 1 5 := ⟨by decide +kernel, rfl⟩
theorem qX9_isSign_5 : Dc mX9_isSign 5 (.if_icmp .ne 15) 3 8 := ⟨by decide +kernel, rfl⟩
theorem qX9_isSign_8 : Dc mX9_isSign 8 (.aload_n 0) 1 9 := ⟨by decide +kernel, rfl⟩
theorem qX9_isSign_9 : Dc mX9_isSign 9 (.getfield 51) 3 12 := ⟨by decide +kernel, rfl⟩
theorem qX9_isSign_12 : Dc mX9_isSign 12 (.iload_n 1) 1 13 := ⟨by decide +kernel, rfl⟩
theorem qX9_isSign_13 : Dc mX9_isSign 13 (.if_icmp .ne 7) 3 16 := ⟨by decide +kernel, rfl⟩
theorem qX9_isSign_16 : Dc mX9_isSign 16 (.iconst 1) 1 17 := ⟨by decide +kernel, rfl⟩
theorem qX9_isSign_17 : Dc mX9_isSign 17 (.goto 4) 3 20 := ⟨by decide +kernel, rfl⟩
theorem qX9_isSign_20 : Dc mX9_isSign 20 (.iconst 0) 1 21 := ⟨by decide +kernel, rfl⟩
theorem qX9_isSign_21 : Dc mX9_isSign 21 (.ireturn) 1 22 := ⟨by decide +kernel, rfl⟩

set_option maxRecDepth 20000 in
set_option maxHeartbeats 4000000 in
theorem w_X9_isSign {x1 : Int32} {s0 : St} {r : Int32} (h : f_X9_isSign x1 s0 = some r) : Ct mX9_isSign 0 [.ref 1, .int x1] s0 (some (.int r), s0) := by
  refine Ct.ofE (by decide +kernel) rfl ?_
  show E mX9_isSign 0 (some (.int r), s0) 0 [some (.ref 1), some (.int x1)] [] s0
  unfold f_X9_isSign at h
  refine e_aload_n qX9_isSign_0 rfl ?_
  refine e_geti qX9_isSign_1 fl_X9_54 shq_1 kdq_9_2 h (fun v1 h => ?_)
  refine e_iconst (nI 3) qX9_isSign_4 rfl ?_
  refine jn_e (fun j => j = some r → E mX9_isSign 0 (some (.int r), s0) 20 [none, none] [] s0) h ?_ (fun j2 hj2 h => ?_)
  · intro h
    refine e_iconst (nI 0) qX9_isSign_20 rfl ?_
    exact e_zret qX9_isSign_21 rfl (by decide) (ret_p h)
  refine e_icmp_ne (tgt := 20) qX9_isSign_5 rfl h (fun _ h => ?_) (fun _ h => ?_)
  · refine e_aload_n qX9_isSign_8 rfl ?_
    refine e_geti qX9_isSign_9 fl_X9_51 shq_1 kdq_9_4 h (fun v3 h => ?_)
    refine e_iload_n qX9_isSign_12 rfl ?_
    refine e_icmp_ne (tgt := 20) qX9_isSign_13 rfl h (fun _ h => ?_) (fun _ h => ?_)
    · refine e_iconst (nI 1) qX9_isSign_16 rfl ?_
      refine e_goto (tgt := 21) qX9_isSign_17 rfl ?_
      exact e_zret qX9_isSign_21 rfl (by decide) (ret_p h)
    exact e_weak (hj2 h) ⟨Or.inl rfl, Or.inl rfl, trivial⟩
  exact e_weak (hj2 h) ⟨Or.inl rfl, Or.inl rfl, trivial⟩

def f_X9_atNumber (x1 : Int32) (x2 : Int32) (s0 : St) : Option (Int32 × St) :=
  vl (s0.1 1 2) fun v1 =>
  if v1 = (nI 2) then
    vl (s0.1 1 4) fun v2 =>
    jn (bd (f_X9_refuse (nI 2) s0) fun v4 s5 =>
      if v4 = 0 then
        some ((nI 0), s5)
      else
      some ((nI 1), s5)) fun j3 =>
    if v2 < x1 then
      j3
    else
    vl (s0.1 1 4) fun v6 =>
    if v6 ≤ x2 then
      some ((nI 1), s0)
    else
    j3
  else
  bd (f_X9_refuse (nI 1) s0) fun v7 s8 =>
  rz v7 <|
  some (v7, s8)

theorem qX9_atNumber_0 : Dc mX9_atNumber 0 (.aload_n 0) 1 1 := ⟨by decide +kernel, rfl⟩
theorem qX9_atNumber_1 : Dc mX9_atNumber 1 (.getfield 54) 3 4 := ⟨by decide +kernel, rfl⟩
theorem qX9_atNumber_4 : Dc mX9_atNumber 4 (.iconst 2) 1 5 := ⟨by decide +kernel, rfl⟩
theorem qX9_atNumber_5 : Dc mX9_atNumber 5 (.if_icmp .eq 9) 3 8 := ⟨by decide +kernel, rfl⟩
theorem qX9_atNumber_8 : Dc mX9_atNumber 8 (.aload_n 0) 1 9 := ⟨by decide +kernel, rfl⟩
theorem qX9_atNumber_9 : Dc mX9_atNumber 9 (.iconst 1) 1 10 := ⟨by decide +kernel, rfl⟩
theorem qX9_atNumber_10 : Dc mX9_atNumber 10 (.invokevirtual 70) 3 13 := ⟨by decide +kernel, rfl⟩
theorem qX9_atNumber_13 : Dc mX9_atNumber 13 (.ireturn) 1 14 := ⟨by decide +kernel, rfl⟩
theorem qX9_atNumber_14 : Dc mX9_atNumber 14 (.aload_n 0) 1 15 := ⟨by decide +kernel, rfl⟩
theorem qX9_atNumber_15 : Dc mX9_atNumber 15 (.getfield 51) 3 18 := ⟨by decide +kernel, rfl⟩
theorem qX9_atNumber_18 : Dc mX9_atNumber 18 (.iload_n 1) 1 19 := ⟨by decide +kernel, rfl⟩
theorem qX9_atNumber_19 : Dc mX9_atNumber 19 (.if_icmp .lt 11) 3 22 := ⟨by decide +kernel, rfl⟩
theorem qX9_atNumber_22 : Dc mX9_atNumber 22 (.aload_n 0) 1 23 := ⟨by decide +kernel, rfl⟩
theorem qX9_atNumber_23 : Dc mX9_atNumber 23 (.getfield 51) 3 26 := ⟨by decide +kernel, rfl⟩
theorem qX9_atNumber_26 : Dc mX9_atNumber 26 (.iload_n 2) 1 27 := ⟨by decide +kernel, rfl⟩
theorem qX9_atNumber_27 : Dc mX9_atNumber 27 (.if_icmp .le 11) 3 30 := ⟨by decide +kernel, rfl⟩
theorem qX9_atNumber_30 : Dc mX9_atNumber 30 (.aload_n 0) 1 31 := ⟨by decide +kernel, rfl⟩
theorem qX9_atNumber_31 : Dc mX9_atNumber 31 (.iconst 2) 1 32 := ⟨by decide +kernel, rfl⟩
theorem qX9_atNumber_32 : Dc mX9_atNumber 32 (.invokevirtual 70) 3 35 := ⟨by decide +kernel, rfl⟩
theorem qX9_atNumber_35 : Dc mX9_atNumber 35 (.ifCond .eq 7) 3 38 := ⟨by decide +kernel, rfl⟩
theorem qX9_atNumber_38 : Dc mX9_atNumber 38 (.iconst 1) 1 39 := ⟨by decide +kernel, rfl⟩
theorem qX9_atNumber_39 : Dc mX9_atNumber 39 (.goto 4) 3 42 := ⟨by decide +kernel, rfl⟩
theorem qX9_atNumber_42 : Dc mX9_atNumber 42 (.iconst 0) 1 43 := ⟨by decide +kernel, rfl⟩
theorem qX9_atNumber_43 : Dc mX9_atNumber 43 (.ireturn) 1 44 := ⟨by decide +kernel, rfl⟩

set_option maxRecDepth 20000 in
set_option maxHeartbeats 4000000 in
theorem w_X9_atNumber {x1 : Int32} {x2 : Int32} {s0 : St} {r : Int32} {sr : St} (h : f_X9_atNumber x1 x2 s0 = some (r, sr)) : Ct mX9_atNumber 1 [.ref 1, .int x1, .int x2] s0 (some (.int r), sr) := by
  refine Ct.ofE (by decide +kernel) rfl ?_
  show E mX9_atNumber 1 (some (.int r), sr) 0 [some (.ref 1), some (.int x1), some (.int x2)] [] s0
  unfold f_X9_atNumber at h
  refine e_aload_n qX9_atNumber_0 rfl ?_
  refine e_geti qX9_atNumber_1 fl_X9_54 shq_1 kdq_9_2 h (fun v1 h => ?_)
  refine e_iconst (nI 2) qX9_atNumber_4 rfl ?_
  refine e_icmp_eq (tgt := 14) qX9_atNumber_5 rfl h (fun _ h => ?_) (fun _ h => ?_)
  · refine e_aload_n qX9_atNumber_14 rfl ?_
    refine e_geti qX9_atNumber_15 fl_X9_51 shq_1 kdq_9_4 h (fun v2 h => ?_)
    refine e_iload_n qX9_atNumber_18 rfl ?_
    refine jn_e (fun j => j = some (r, sr) → E mX9_atNumber 1 (some (.int r), sr) 30 [some (.ref 1), none, none] [] s0) h ?_ (fun j3 hj3 h => ?_)
    · intro h
      refine e_aload_n qX9_atNumber_30 rfl ?_
      refine e_iconst (nI 2) qX9_atNumber_31 rfl ?_
      obtain ⟨v4, s5, hc, h⟩ := bd_e h
      refine e_cVi1 qX9_atNumber_32 mv_X9_70 shq_1 rfl rfl (w_X9_refuse hc) ?_
      refine e_if_eq (tgt := 42) qX9_atNumber_35 rfl h (fun _ h => ?_) (fun _ h => ?_)
      · refine e_iconst (nI 0) qX9_atNumber_42 rfl ?_
        exact e_zret qX9_atNumber_43 rfl (by decide) (ret_i h)
      refine e_iconst (nI 1) qX9_atNumber_38 rfl ?_
      refine e_goto (tgt := 43) qX9_atNumber_39 rfl ?_
      exact e_zret qX9_atNumber_43 rfl (by decide) (ret_i h)
    refine e_icmp_lt (tgt := 30) qX9_atNumber_19 rfl h (fun _ h => ?_) (fun _ h => ?_)
    · exact e_weak (hj3 h) ⟨Or.inr rfl, Or.inl rfl, Or.inl rfl, trivial⟩
    refine e_aload_n qX9_atNumber_22 rfl ?_
    refine e_geti qX9_atNumber_23 fl_X9_51 shq_1 kdq_9_4 h (fun v6 h => ?_)
    refine e_iload_n qX9_atNumber_26 rfl ?_
    refine e_icmp_le (tgt := 38) qX9_atNumber_27 rfl h (fun _ h => ?_) (fun _ h => ?_)
    · refine e_iconst (nI 1) qX9_atNumber_38 rfl ?_
      refine e_goto (tgt := 43) qX9_atNumber_39 rfl ?_
      exact e_zret qX9_atNumber_43 rfl (by decide) (ret_i h)
    exact e_weak (hj3 h) ⟨Or.inr rfl, Or.inl rfl, Or.inl rfl, trivial⟩
  refine e_aload_n qX9_atNumber_8 rfl ?_
  refine e_iconst (nI 1) qX9_atNumber_9 rfl ?_
  obtain ⟨v7, s8, hc, h⟩ := bd_e h
  refine e_cVi1 qX9_atNumber_10 mv_X9_70 shq_1 rfl rfl (w_X9_refuse hc) ?_
  refine rz_e h (fun hz h => ?_)
  exact e_zret qX9_atNumber_13 rfl hz (ret_i h)

def f_X9_atEnd  (s0 : St) : Option (Int32 × St) :=
  vl (s0.1 1 2) fun v1 =>
  jn (bd (f_X9_refuse (nI 1) s0) fun v3 s4 =>
    if v3 = 0 then
      some ((nI 0), s4)
    else
    some ((nI 1), s4)) fun j2 =>
  if v1 = 0 then
    vl (s0.1 1 11) fun v5 =>
    if v5 = 0 then
      some ((nI 1), s0)
    else
    j2
  else
  j2

theorem qX9_atEnd_0 : Dc mX9_atEnd 0 (.aload_n 0) 1 1 := ⟨by decide +kernel, rfl⟩
theorem qX9_atEnd_1 : Dc mX9_atEnd 1 (.getfield 54) 3 4 := ⟨by decide +kernel, rfl⟩
theorem qX9_atEnd_4 : Dc mX9_atEnd 4 (.ifCond .ne 10) 3 7 := ⟨by decide +kernel, rfl⟩
theorem qX9_atEnd_7 : Dc mX9_atEnd 7 (.aload_n 0) 1 8 := ⟨by decide +kernel, rfl⟩
theorem qX9_atEnd_8 : Dc mX9_atEnd 8 (.getfield 28) 3 11 := ⟨by decide +kernel, rfl⟩
theorem qX9_atEnd_11 : Dc mX9_atEnd 11 (.ifCond .eq 11) 3 14 := ⟨by decide +kernel, rfl⟩
theorem qX9_atEnd_14 : Dc mX9_atEnd 14 (.aload_n 0) 1 15 := ⟨by decide +kernel, rfl⟩
theorem qX9_atEnd_15 : Dc mX9_atEnd 15 (.iconst 1) 1 16 := ⟨by decide +kernel, rfl⟩
theorem qX9_atEnd_16 : Dc mX9_atEnd 16 (.invokevirtual 70) 3 19 := ⟨by decide +kernel, rfl⟩
theorem qX9_atEnd_19 : Dc mX9_atEnd 19 (.ifCond .eq 7) 3 22 := ⟨by decide +kernel, rfl⟩
theorem qX9_atEnd_22 : Dc mX9_atEnd 22 (.iconst 1) 1 23 := ⟨by decide +kernel, rfl⟩
theorem qX9_atEnd_23 : Dc mX9_atEnd 23 (.goto 4) 3 26 := ⟨by decide +kernel, rfl⟩
theorem qX9_atEnd_26 : Dc mX9_atEnd 26 (.iconst 0) 1 27 := ⟨by decide +kernel, rfl⟩
theorem qX9_atEnd_27 : Dc mX9_atEnd 27 (.ireturn) 1 28 := ⟨by decide +kernel, rfl⟩

set_option maxRecDepth 20000 in
set_option maxHeartbeats 4000000 in
theorem w_X9_atEnd  {s0 : St} {r : Int32} {sr : St} (h : f_X9_atEnd  s0 = some (r, sr)) : Ct mX9_atEnd 1 [.ref 1] s0 (some (.int r), sr) := by
  refine Ct.ofE (by decide +kernel) rfl ?_
  show E mX9_atEnd 1 (some (.int r), sr) 0 [some (.ref 1)] [] s0
  unfold f_X9_atEnd at h
  refine e_aload_n qX9_atEnd_0 rfl ?_
  refine e_geti qX9_atEnd_1 fl_X9_54 shq_1 kdq_9_2 h (fun v1 h => ?_)
  refine jn_e (fun j => j = some (r, sr) → E mX9_atEnd 1 (some (.int r), sr) 14 [some (.ref 1)] [] s0) h ?_ (fun j2 hj2 h => ?_)
  · intro h
    refine e_aload_n qX9_atEnd_14 rfl ?_
    refine e_iconst (nI 1) qX9_atEnd_15 rfl ?_
    obtain ⟨v3, s4, hc, h⟩ := bd_e h
    refine e_cVi1 qX9_atEnd_16 mv_X9_70 shq_1 rfl rfl (w_X9_refuse hc) ?_
    refine e_if_eq (tgt := 26) qX9_atEnd_19 rfl h (fun _ h => ?_) (fun _ h => ?_)
    · refine e_iconst (nI 0) qX9_atEnd_26 rfl ?_
      exact e_zret qX9_atEnd_27 rfl (by decide) (ret_i h)
    refine e_iconst (nI 1) qX9_atEnd_22 rfl ?_
    refine e_goto (tgt := 27) qX9_atEnd_23 rfl ?_
    exact e_zret qX9_atEnd_27 rfl (by decide) (ret_i h)
  refine e_if_ne (tgt := 14) qX9_atEnd_4 rfl h (fun _ h => ?_) (fun _ h => ?_)
  · refine e_aload_n qX9_atEnd_7 rfl ?_
    refine e_geti qX9_atEnd_8 fl_X9_28 shq_1 kdq_9_11 h (fun v5 h => ?_)
    refine e_if_eq (tgt := 22) qX9_atEnd_11 rfl h (fun _ h => ?_) (fun _ h => ?_)
    · refine e_iconst (nI 1) qX9_atEnd_22 rfl ?_
      refine e_goto (tgt := 27) qX9_atEnd_23 rfl ?_
      exact e_zret qX9_atEnd_27 rfl (by decide) (ret_i h)
    exact e_weak (hj2 h) ⟨Or.inr rfl, trivial⟩
  exact e_weak (hj2 h) ⟨Or.inr rfl, trivial⟩

def f_X9_isShownRow_L20 (N : Nat) (s0 : St) : Nat → Int32 → Option (Int32)
  | 0, _ => none
  | n4 + 1, v3 =>
    vl (s0.1 1 1) fun v6 =>
    if v6 ≤ v3 then
      some (nI 1)
    else
    ald (s0.1 2) 940 v3 fun v7 =>
    if v7 ≤ (nI 3) then
      vl (v3 + (nI 1)) fun v8 =>
      f_X9_isShownRow_L20 N s0 n4 v8
    else
    some (nI 0)

def f_X9_isShownRow (N : Nat)  (s0 : St) : Option (Int32) :=
  vl (s0.1 1 1) fun v1 =>
  if v1 = 0 then
    some (nI 0)
  else
  vl (s0.1 1 1) fun v2 =>
  if v2 ≤ (nI 40) then
    f_X9_isShownRow_L20 N s0 N (nI 0)
  else
  some (nI 0)

theorem qX9_isShownRow_0 : Dc mX9_isShownRow 0 (.aload_n 0) 1 1 := ⟨by decide +kernel, rfl⟩
theorem qX9_isShownRow_1 : Dc mX9_isShownRow 1 (.getfield 15) 3 4 := ⟨by decide +kernel, rfl⟩
theorem qX9_isShownRow_4 : Dc mX9_isShownRow 4 (.ifCond .eq 12) 3 7 := ⟨by decide +kernel, rfl⟩
theorem qX9_isShownRow_7 : Dc mX9_isShownRow 7 (.aload_n 0) 1 8 := ⟨by decide +kernel, rfl⟩
theorem qX9_isShownRow_8 : Dc mX9_isShownRow 8 (.getfield 15) 3 11 := ⟨by decide +kernel, rfl⟩
theorem qX9_isShownRow_11 : Dc mX9_isShownRow 11 (.bipush 40) 2 13 := ⟨by decide +kernel, rfl⟩
theorem qX9_isShownRow_13 : Dc mX9_isShownRow 13 (.if_icmp .le 5) 3 16 := ⟨by decide +kernel, rfl⟩
theorem qX9_isShownRow_16 : Dc mX9_isShownRow 16 (.iconst 0) 1 17 := ⟨by decide +kernel, rfl⟩
theorem qX9_isShownRow_17 : Dc mX9_isShownRow 17 (.ireturn) 1 18 := ⟨by decide +kernel, rfl⟩
theorem qX9_isShownRow_18 : Dc mX9_isShownRow 18 (.iconst 0) 1 19 := ⟨by decide +kernel, rfl⟩
theorem qX9_isShownRow_19 : Dc mX9_isShownRow 19 (.istore_n 1) 1 20 := ⟨by decide +kernel, rfl⟩
theorem qX9_isShownRow_20 : Dc mX9_isShownRow 20 (.iload_n 1) 1 21 := ⟨by decide +kernel, rfl⟩
theorem qX9_isShownRow_21 : Dc mX9_isShownRow 21 (.aload_n 0) 1 22 := ⟨by decide +kernel, rfl⟩
theorem qX9_isShownRow_22 : Dc mX9_isShownRow 22 (.getfield 15) 3 25 := ⟨by decide +kernel, rfl⟩
theorem qX9_isShownRow_25 : Dc mX9_isShownRow 25 (.if_icmp .ge 21) 3 28 := ⟨by decide +kernel, rfl⟩
theorem qX9_isShownRow_28 : Dc mX9_isShownRow 28 (.aload_n 0) 1 29 := ⟨by decide +kernel, rfl⟩
theorem qX9_isShownRow_29 : Dc mX9_isShownRow 29 (.getfield 9) 3 32 := ⟨by decide +kernel, rfl⟩
theorem qX9_isShownRow_32 : Dc mX9_isShownRow 32 (.iload_n 1) 1 33 := ⟨by decide +kernel, rfl⟩
theorem qX9_isShownRow_33 : Dc mX9_isShownRow 33 (.iaload) 1 34 := ⟨by decide +kernel, rfl⟩
theorem qX9_isShownRow_34 : Dc mX9_isShownRow 34 (.iconst 3) 1 35 := ⟨by decide +kernel, rfl⟩
theorem qX9_isShownRow_35 : Dc mX9_isShownRow 35 (.if_icmp .le 5) 3 38 := ⟨by decide +kernel, rfl⟩
theorem qX9_isShownRow_38 : Dc mX9_isShownRow 38 (.iconst 0) 1 39 := ⟨by decide +kernel, rfl⟩
theorem qX9_isShownRow_39 : Dc mX9_isShownRow 39 (.ireturn) 1 40 := ⟨by decide +kernel, rfl⟩
theorem qX9_isShownRow_40 : Dc mX9_isShownRow 40 (.iinc 1 1) 3 43 := ⟨by decide +kernel, rfl⟩
theorem qX9_isShownRow_43 : Dc mX9_isShownRow 43 (.goto (-23)) 3 46 := ⟨by decide +kernel, rfl⟩
theorem qX9_isShownRow_46 : Dc mX9_isShownRow 46 (.iconst 1) 1 47 := ⟨by decide +kernel, rfl⟩
theorem qX9_isShownRow_47 : Dc mX9_isShownRow 47 (.ireturn) 1 48 := ⟨by decide +kernel, rfl⟩

set_option maxRecDepth 20000 in
set_option maxHeartbeats 4000000 in
theorem w_X9_isShownRow_L20 {N : Nat}  {s0 : St}  {r : Int32}   : ∀ (n4 : Nat) (v3 : Int32), f_X9_isShownRow_L20 N s0 n4 v3 = some r → E mX9_isShownRow 0 (some (.int r), s0) 20 [some (.ref 1), some (.int v3)] [] s0 := by
  intro n4
  induction n4 with
  | zero =>
    intro v3 h
    rw [f_X9_isShownRow_L20] at h; cases h
  | succ n4 ih5 =>
    intro v3 h
    rw [f_X9_isShownRow_L20] at h
    refine e_iload_n qX9_isShownRow_20 rfl ?_
    refine e_aload_n qX9_isShownRow_21 rfl ?_
    refine e_geti qX9_isShownRow_22 fl_X9_15 shq_1 kdq_9_1 h (fun v6 h => ?_)
    refine e_icmp_ge (tgt := 46) qX9_isShownRow_25 rfl h (fun _ h => ?_) (fun _ h => ?_)
    · refine e_iconst (nI 1) qX9_isShownRow_46 rfl ?_
      exact e_zret qX9_isShownRow_47 rfl (by decide) (ret_p h)
    refine e_aload_n qX9_isShownRow_28 rfl ?_
    refine e_getr 2 qX9_isShownRow_29 fl_X9_9 shq_1 kdq_9_0 rrq_1_0 ?_
    refine e_iload_n qX9_isShownRow_32 rfl ?_
    refine e_iald qX9_isShownRow_33 shq_2 lnq_2 h (fun v7 h => ?_)
    refine e_iconst (nI 3) qX9_isShownRow_34 rfl ?_
    refine e_icmp_le (tgt := 40) qX9_isShownRow_35 rfl h (fun _ h => ?_) (fun _ h => ?_)
    · refine vl_e h (fun h => ?_)
      obtain ⟨v8, ev8⟩ : ∃ y, v3 + (nI 1) = y := ⟨_, rfl⟩
      rw [ev8] at h
      refine e_iinc (nI 1) v8 (lv2 := [some (.ref 1), some (.int v8)]) qX9_isShownRow_40 rfl rfl rfl ev8 rfl ?_
      refine e_goto (tgt := 20) qX9_isShownRow_43 rfl ?_
      exact e_weak (ih5 _ h) ⟨Or.inr rfl, Or.inr rfl, trivial⟩
    refine e_iconst (nI 0) qX9_isShownRow_38 rfl ?_
    exact e_zret qX9_isShownRow_39 rfl (by decide) (ret_p h)

set_option maxRecDepth 20000 in
set_option maxHeartbeats 4000000 in
theorem w_X9_isShownRow {N : Nat}  {s0 : St} {r : Int32} (h : f_X9_isShownRow N  s0 = some r) : Ct mX9_isShownRow 0 [.ref 1] s0 (some (.int r), s0) := by
  refine Ct.ofE (by decide +kernel) rfl ?_
  show E mX9_isShownRow 0 (some (.int r), s0) 0 [some (.ref 1), none] [] s0
  unfold f_X9_isShownRow at h
  refine e_aload_n qX9_isShownRow_0 rfl ?_
  refine e_geti qX9_isShownRow_1 fl_X9_15 shq_1 kdq_9_1 h (fun v1 h => ?_)
  refine e_if_eq (tgt := 16) qX9_isShownRow_4 rfl h (fun _ h => ?_) (fun _ h => ?_)
  · refine e_iconst (nI 0) qX9_isShownRow_16 rfl ?_
    exact e_zret qX9_isShownRow_17 rfl (by decide) (ret_p h)
  refine e_aload_n qX9_isShownRow_7 rfl ?_
  refine e_geti qX9_isShownRow_8 fl_X9_15 shq_1 kdq_9_1 h (fun v2 h => ?_)
  refine e_bipush (nI 40) qX9_isShownRow_11 rfl ?_
  refine e_icmp_le (tgt := 18) qX9_isShownRow_13 rfl h (fun _ h => ?_) (fun _ h => ?_)
  · refine e_iconst (nI 0) qX9_isShownRow_18 rfl ?_
    refine e_istore_n (lv2 := [some (.ref 1), some (.int (nI 0))]) qX9_isShownRow_19 rfl rfl rfl ?_
    exact e_weak (w_X9_isShownRow_L20  _ _ h) ⟨Or.inr rfl, Or.inr rfl, trivial⟩
  refine e_iconst (nI 0) qX9_isShownRow_16 rfl ?_
  exact e_zret qX9_isShownRow_17 rfl (by decide) (ret_p h)

def f_X9_readRun_L12 (N : Nat) (k6 : Int32 → Int32 → St → Option (St)) : Nat → Int32 → Int32 → St → Option (St)
  | 0, _, _, _ => none
  | n10 + 1, v3, v4, s5 =>
    vl (s5.1 1 9) fun v12 =>
    vl (s5.1 1 1) fun v13 =>
    if v13 ≤ v12 then
      k6 v3 v4 s5
    else
    vl (s5.1 1 9) fun v14 =>
    ald (s5.1 2) 940 v14 fun v15 =>
    jn (fun (v16 : Int32) (v17 : Int32) (s18 : St) =>
      vl (s18.1 1 9) fun v20 =>
      vl (sI s18 1 9 (v20 + (nI 1))) fun s21 =>
      f_X9_readRun_L12 N k6 n10 v16 v17 s21) fun j19 =>
    jn (if v15 < (nI 48) then
        k6 v3 v4 s5
      else
      if (nI 57) < v15 then
        k6 v3 v4 s5
      else
      vl (v4 + (nI 1)) fun v23 =>
      vl (s5.1 1 4) fun v24 =>
      vl (sI s5 1 4 ((v24 * (nI 10)) + (v15 - (nI 48)))) fun s25 =>
      j19 v3 v23 s25) fun j22 =>
    if v15 < (nI 97) then
      j22
    else
    if (nI 122) < v15 then
      j22
    else
    vl (v3 + (nI 1)) fun v26 =>
    vl (s5.2 1 3) fun v27 =>
    vl (sL s5 1 3 ((lsl v27 (nI 5)) + ((v15 - (nI 97)) + (nI 1)).toInt64)) fun s28 =>
    j19 v26 v4 s28

def f_X9_readRun (N : Nat)  (s0 : St) : Option (St) :=
  vl (s0.1 1 8) fun v1 =>
  vl (sI s0 1 9 v1) fun s2 =>
  f_X9_readRun_L12 N (fun (v29 : Int32) (v30 : Int32) (s31 : St) =>
    jn (jn (fun (v33 : Int32) =>
        vl (sI s31 1 2 v33) fun s35 =>
        vl (sL s35 1 3 (0 : Int64)) fun s36 =>
        some s36) fun j34 =>
      jn (j34 (nI 4)) fun j37 =>
      if v29 = 0 then
        if (nI 3) < v30 then
          j37
        else
        j34 (nI 2)
      else
      j37) fun j32 =>
    if v30 = 0 then
      if (nI 7) < v29 then
        j32
      else
      vl (sI s31 1 2 (nI 1)) fun s38 =>
      some s38
    else
    j32) N (nI 0) (nI 0) s2

theorem qX9_readRun_0 : Dc mX9_readRun 0 (.iconst 0) 1 1 := ⟨by decide +kernel, rfl⟩
theorem qX9_readRun_1 : Dc mX9_readRun 1 (.istore_n 1) 1 2 := ⟨by decide +kernel, rfl⟩
theorem qX9_readRun_2 : Dc mX9_readRun 2 (.iconst 0) 1 3 := ⟨by decide +kernel, rfl⟩
theorem qX9_readRun_3 : Dc mX9_readRun 3 (.istore_n 2) 1 4 := ⟨by decide +kernel, rfl⟩
theorem qX9_readRun_4 : Dc mX9_readRun 4 (.aload_n 0) 1 5 := ⟨by decide +kernel, rfl⟩
theorem qX9_readRun_5 : Dc mX9_readRun 5 (.aload_n 0) 1 6 := ⟨by decide +kernel, rfl⟩
theorem qX9_readRun_6 : Dc mX9_readRun 6 (.getfield 44) 3 9 := ⟨by decide +kernel, rfl⟩
theorem qX9_readRun_9 : Dc mX9_readRun 9 (.putfield 32) 3 12 := ⟨by decide +kernel, rfl⟩
theorem qX9_readRun_12 : Dc mX9_readRun 12 (.aload_n 0) 1 13 := ⟨by decide +kernel, rfl⟩
theorem qX9_readRun_13 : Dc mX9_readRun 13 (.getfield 32) 3 16 := ⟨by decide +kernel, rfl⟩
theorem qX9_readRun_16 : Dc mX9_readRun 16 (.aload_n 0) 1 17 := ⟨by decide +kernel, rfl⟩
theorem qX9_readRun_17 : Dc mX9_readRun 17 (.getfield 15) 3 20 := ⟨by decide +kernel, rfl⟩
theorem qX9_readRun_20 : Dc mX9_readRun 20 (.if_icmp .ge 93) 3 23 := ⟨by decide +kernel, rfl⟩
theorem qX9_readRun_23 : Dc mX9_readRun 23 (.aload_n 0) 1 24 := ⟨by decide +kernel, rfl⟩
theorem qX9_readRun_24 : Dc mX9_readRun 24 (.getfield 9) 3 27 := ⟨by decide +kernel, rfl⟩
theorem qX9_readRun_27 : Dc mX9_readRun 27 (.aload_n 0) 1 28 := ⟨by decide +kernel, rfl⟩
theorem qX9_readRun_28 : Dc mX9_readRun 28 (.getfield 32) 3 31 := ⟨by decide +kernel, rfl⟩
theorem qX9_readRun_31 : Dc mX9_readRun 31 (.iaload) 1 32 := ⟨by decide +kernel, rfl⟩
theorem qX9_readRun_32 : Dc mX9_readRun 32 (.istore_n 3) 1 33 := ⟨by decide +kernel, rfl⟩
theorem qX9_readRun_33 : Dc mX9_readRun 33 (.iload_n 3) 1 34 := ⟨by decide +kernel, rfl⟩
theorem qX9_readRun_34 : Dc mX9_readRun 34 (.bipush 97) 2 36 := ⟨by decide +kernel, rfl⟩
theorem qX9_readRun_36 : Dc mX9_readRun 36 (.if_icmp .lt 33) 3 39 := ⟨by decide +kernel, rfl⟩
theorem qX9_readRun_39 : Dc mX9_readRun 39 (.iload_n 3) 1 40 := ⟨by decide +kernel, rfl⟩
theorem qX9_readRun_40 : Dc mX9_readRun 40 (.bipush 122) 2 42 := ⟨by decide +kernel, rfl⟩
theorem qX9_readRun_42 : Dc mX9_readRun 42 (.if_icmp .gt 27) 3 45 := ⟨by decide +kernel, rfl⟩
theorem qX9_readRun_45 : Dc mX9_readRun 45 (.iinc 1 1) 3 48 := ⟨by decide +kernel, rfl⟩
theorem qX9_readRun_48 : Dc mX9_readRun 48 (.aload_n 0) 1 49 := ⟨by decide +kernel, rfl⟩
theorem qX9_readRun_49 : Dc mX9_readRun 49 (.aload_n 0) 1 50 := ⟨by decide +kernel, rfl⟩
theorem qX9_readRun_50 : Dc mX9_readRun 50 (.getfield 47) 3 53 := ⟨by decide +kernel, rfl⟩
theorem qX9_readRun_53 : Dc mX9_readRun 53 (.iconst 5) 1 54 := ⟨by decide +kernel, rfl⟩
theorem qX9_readRun_54 : Dc mX9_readRun 54 (.lshl) 1 55 := ⟨by decide +kernel, rfl⟩
theorem qX9_readRun_55 : Dc mX9_readRun 55 (.iload_n 3) 1 56 := ⟨by decide +kernel, rfl⟩
theorem qX9_readRun_56 : Dc mX9_readRun 56 (.bipush 97) 2 58 := ⟨by decide +kernel, rfl⟩
theorem qX9_readRun_58 : Dc mX9_readRun 58 (.isub) 1 59 := ⟨by decide +kernel, rfl⟩
theorem qX9_readRun_59 : Dc mX9_readRun 59 (.iconst 1) 1 60 := ⟨by decide +kernel, rfl⟩
theorem qX9_readRun_60 : Dc mX9_readRun 60 (.iadd) 1 61 := ⟨by decide +kernel, rfl⟩
theorem qX9_readRun_61 : Dc mX9_readRun 61 (.i2l) 1 62 := ⟨by decide +kernel, rfl⟩
theorem qX9_readRun_62 : Dc mX9_readRun 62 (.ladd) 1 63 := ⟨by decide +kernel, rfl⟩
theorem qX9_readRun_63 : Dc mX9_readRun 63 (.putfield 47) 3 66 := ⟨by decide +kernel, rfl⟩
theorem qX9_readRun_66 : Dc mX9_readRun 66 (.goto 34) 3 69 := ⟨by decide +kernel, rfl⟩
theorem qX9_readRun_69 : Dc mX9_readRun 69 (.iload_n 3) 1 70 := ⟨by decide +kernel, rfl⟩
theorem qX9_readRun_70 : Dc mX9_readRun 70 (.bipush 48) 2 72 := ⟨by decide +kernel, rfl⟩
theorem qX9_readRun_72 : Dc mX9_readRun 72 (.if_icmp .lt 41) 3 75 := ⟨by decide +kernel, rfl⟩
theorem qX9_readRun_75 : Dc mX9_readRun 75 (.iload_n 3) 1 76 := ⟨by decide +kernel, rfl⟩
theorem qX9_readRun_76 : Dc mX9_readRun 76 (.bipush 57) 2 78 := ⟨by decide +kernel, rfl⟩
theorem qX9_readRun_78 : Dc mX9_readRun 78 (.if_icmp .gt 35) 3 81 := ⟨by decide +kernel, rfl⟩
theorem qX9_readRun_81 : Dc mX9_readRun 81 (.iinc 2 1) 3 84 := ⟨by decide +kernel, rfl⟩
theorem qX9_readRun_84 : Dc mX9_readRun 84 (.aload_n 0) 1 85 := ⟨by decide +kernel, rfl⟩
theorem qX9_readRun_85 : Dc mX9_readRun 85 (.aload_n 0) 1 86 := ⟨by decide +kernel, rfl⟩
theorem qX9_readRun_86 : Dc mX9_readRun 86 (.getfield 51) 3 89 := ⟨by decide +kernel, rfl⟩
theorem qX9_readRun_89 : Dc mX9_readRun 89 (.bipush 10) 2 91 := ⟨by decide +kernel, rfl⟩
theorem qX9_readRun_91 : Dc mX9_readRun 91 (.imul) 1 92 := ⟨by decide +kernel, rfl⟩
theorem qX9_readRun_92 : Dc mX9_readRun 92 (.iload_n 3) 1 93 := ⟨by decide +kernel, rfl⟩
theorem qX9_readRun_93 : Dc mX9_readRun 93 (.bipush 48) 2 95 := ⟨by decide +kernel, rfl⟩
theorem qX9_readRun_95 : Dc mX9_readRun 95 (.isub) 1 96 := ⟨by decide +kernel, rfl⟩
theorem qX9_readRun_96 : Dc mX9_readRun 96 (.iadd) 1 97 := ⟨by decide +kernel, rfl⟩
theorem qX9_readRun_97 : Dc mX9_readRun 97 (.putfield 51) 3 100 := ⟨by decide +kernel, rfl⟩
theorem qX9_readRun_100 : Dc mX9_readRun 100 (.aload_n 0) 1 101 := ⟨by decide +kernel, rfl⟩
theorem qX9_readRun_101 : Dc mX9_readRun 101 (.dup) 1 102 := ⟨by decide +kernel, rfl⟩
theorem qX9_readRun_102 : Dc mX9_readRun 102 (.getfield 32) 3 105 := ⟨by decide +kernel, rfl⟩
theorem qX9_readRun_105 : Dc mX9_readRun 105 (.iconst 1) 1 106 := ⟨by decide +kernel, rfl⟩
theorem qX9_readRun_106 : Dc mX9_readRun 106 (.iadd) 1 107 := ⟨by decide +kernel, rfl⟩
theorem qX9_readRun_107 : Dc mX9_readRun 107 (.putfield 32) 3 110 := ⟨by decide +kernel, rfl⟩
theorem qX9_readRun_110 : Dc mX9_readRun 110 (.goto (-98)) 3 113 := ⟨by decide +kernel, rfl⟩
theorem qX9_readRun_113 : Dc mX9_readRun 113 (.iload_n 2) 1 114 := ⟨by decide +kernel, rfl⟩
theorem qX9_readRun_114 : Dc mX9_readRun 114 (.ifCond .ne 17) 3 117 := ⟨by decide +kernel, rfl⟩
theorem qX9_readRun_117 : Dc mX9_readRun 117 (.iload_n 1) 1 118 := ⟨by decide +kernel, rfl⟩
theorem qX9_readRun_118 : Dc mX9_readRun 118 (.bipush 7) 2 120 := ⟨by decide +kernel, rfl⟩
theorem qX9_readRun_120 : Dc mX9_readRun 120 (.if_icmp .gt 11) 3 123 := ⟨by decide +kernel, rfl⟩
theorem qX9_readRun_123 : Dc mX9_readRun 123 (.aload_n 0) 1 124 := ⟨by decide +kernel, rfl⟩
theorem qX9_readRun_124 : Dc mX9_readRun 124 (.iconst 1) 1 125 := ⟨by decide +kernel, rfl⟩
theorem qX9_readRun_125 : Dc mX9_readRun 125 (.putfield 54) 3 128 := ⟨by decide +kernel, rfl⟩
theorem qX9_readRun_128 : Dc mX9_readRun 128 (.goto 26) 3 131 := ⟨by decide +kernel, rfl⟩
theorem qX9_readRun_131 : Dc mX9_readRun 131 (.aload_n 0) 1 132 := ⟨by decide +kernel, rfl⟩
theorem qX9_readRun_132 : Dc mX9_readRun 132 (.iload_n 1) 1 133 := ⟨by decide +kernel, rfl⟩
theorem qX9_readRun_133 : Dc mX9_readRun 133 (.ifCond .ne 12) 3 136 := ⟨by decide +kernel, rfl⟩
theorem qX9_readRun_136 : Dc mX9_readRun 136 (.iload_n 2) 1 137 := ⟨by decide +kernel, rfl⟩
theorem qX9_readRun_137 : Dc mX9_readRun 137 (.iconst 3) 1 138 := ⟨by decide +kernel, rfl⟩
theorem qX9_readRun_138 : Dc mX9_readRun 138 (.if_icmp .gt 7) 3 141 := ⟨by decide +kernel, rfl⟩
theorem qX9_readRun_141 : Dc mX9_readRun 141 (.iconst 2) 1 142 := ⟨by decide +kernel, rfl⟩
theorem qX9_readRun_142 : Dc mX9_readRun 142 (.goto 4) 3 145 := ⟨by decide +kernel, rfl⟩
theorem qX9_readRun_145 : Dc mX9_readRun 145 (.iconst 4) 1 146 := ⟨by decide +kernel, rfl⟩
theorem qX9_readRun_146 : Dc mX9_readRun 146 (.putfield 54) 3 149 := ⟨by decide +kernel, rfl⟩
theorem qX9_readRun_149 : Dc mX9_readRun 149 (.aload_n 0) 1 150 := ⟨by decide +kernel, rfl⟩
theorem qX9_readRun_150 : Dc mX9_readRun 150 (.lconst 0) 1 151 := ⟨by decide +kernel, rfl⟩
theorem qX9_readRun_151 : Dc mX9_readRun 151 (.putfield 47) 3 154 := ⟨by decide +kernel, rfl⟩
theorem qX9_readRun_154 : Dc mX9_readRun 154 (.return_) 1 155 := ⟨by decide +kernel, rfl⟩

set_option maxRecDepth 20000 in
set_option maxHeartbeats 4000000 in
theorem w_X9_readRun_L12 {N : Nat}  {k6 : Int32 → Int32 → St → Option (St)} {sr : St}  (hk6 : ∀ (v7 : Int32) (v8 : Int32) (s9 : St), k6 v7 v8 s9 = some sr → E mX9_readRun 0 (none, sr) 113 [some (.ref 1), some (.int v7), some (.int v8), none] [] s9) : ∀ (n10 : Nat) (v3 : Int32) (v4 : Int32) (s5 : St), f_X9_readRun_L12 N k6 n10 v3 v4 s5 = some sr → E mX9_readRun 0 (none, sr) 12 [some (.ref 1), some (.int v3), some (.int v4), none] [] s5 := by
  intro n10
  induction n10 with
  | zero =>
    intro v3 v4 s5 h
    rw [f_X9_readRun_L12] at h; cases h
  | succ n10 ih11 =>
    intro v3 v4 s5 h
    rw [f_X9_readRun_L12] at h
    refine e_aload_n qX9_readRun_12 rfl ?_
    refine e_geti qX9_readRun_13 fl_X9_32 shq_1 kdq_9_9 h (fun v12 h => ?_)
    refine e_aload_n qX9_readRun_16 rfl ?_
    refine e_geti qX9_readRun_17 fl_X9_15 shq_1 kdq_9_1 h (fun v13 h => ?_)
    refine e_icmp_ge (tgt := 113) qX9_readRun_20 rfl h (fun _ h => ?_) (fun _ h => ?_)
    · exact e_weak (hk6 _ _ _ h) ⟨Or.inr rfl, Or.inr rfl, Or.inr rfl, Or.inl rfl, trivial⟩
    refine e_aload_n qX9_readRun_23 rfl ?_
    refine e_getr 2 qX9_readRun_24 fl_X9_9 shq_1 kdq_9_0 rrq_1_0 ?_
    refine e_aload_n qX9_readRun_27 rfl ?_
    refine e_geti qX9_readRun_28 fl_X9_32 shq_1 kdq_9_9 h (fun v14 h => ?_)
    refine e_iald qX9_readRun_31 shq_2 lnq_2 h (fun v15 h => ?_)
    refine e_istore_n (lv2 := [some (.ref 1), some (.int v3), some (.int v4), some (.int v15)]) qX9_readRun_32 rfl rfl rfl ?_
    refine e_iload_n qX9_readRun_33 rfl ?_
    refine e_bipush (nI 97) qX9_readRun_34 rfl ?_
    refine jn_e (fun j => ∀ (v16 : Int32) (v17 : Int32) (s18 : St), j v16 v17 s18 = some sr → E mX9_readRun 0 (none, sr) 100 [some (.ref 1), some (.int v16), some (.int v17), none] [] s18) h ?_ (fun j19 hj19 h => ?_)
    · intro v16 v17 s18 h
      refine e_aload_n qX9_readRun_100 rfl ?_
      refine e_dup qX9_readRun_101 rfl ?_
      refine e_geti qX9_readRun_102 fl_X9_32 shq_1 kdq_9_9 h (fun v20 h => ?_)
      refine e_iconst (nI 1) qX9_readRun_105 rfl ?_
      refine e_iadd qX9_readRun_106 ?_
      refine e_puti qX9_readRun_107 fp_X9_32 shq_1 kdq_9_9 h (fun s21 h => ?_)
      refine e_goto (tgt := 12) qX9_readRun_110 rfl ?_
      exact e_weak (ih11 _ _ _ h) ⟨Or.inr rfl, Or.inr rfl, Or.inr rfl, Or.inl rfl, trivial⟩
    refine jn_e (fun j => j = some sr → E mX9_readRun 0 (none, sr) 69 [some (.ref 1), some (.int v3), some (.int v4), some (.int v15)] [] s5) h ?_ (fun j22 hj22 h => ?_)
    · intro h
      refine e_iload_n qX9_readRun_69 rfl ?_
      refine e_bipush (nI 48) qX9_readRun_70 rfl ?_
      refine e_icmp_lt (tgt := 113) qX9_readRun_72 rfl h (fun _ h => ?_) (fun _ h => ?_)
      · exact e_weak (hk6 _ _ _ h) ⟨Or.inr rfl, Or.inr rfl, Or.inr rfl, Or.inl rfl, trivial⟩
      refine e_iload_n qX9_readRun_75 rfl ?_
      refine e_bipush (nI 57) qX9_readRun_76 rfl ?_
      refine e_icmp_gt (tgt := 113) qX9_readRun_78 rfl h (fun _ h => ?_) (fun _ h => ?_)
      · exact e_weak (hk6 _ _ _ h) ⟨Or.inr rfl, Or.inr rfl, Or.inr rfl, Or.inl rfl, trivial⟩
      refine vl_e h (fun h => ?_)
      obtain ⟨v23, ev23⟩ : ∃ y, v4 + (nI 1) = y := ⟨_, rfl⟩
      rw [ev23] at h
      refine e_iinc (nI 1) v23 (lv2 := [some (.ref 1), some (.int v3), some (.int v23), some (.int v15)]) qX9_readRun_81 rfl rfl rfl ev23 rfl ?_
      refine e_aload_n qX9_readRun_84 rfl ?_
      refine e_aload_n qX9_readRun_85 rfl ?_
      refine e_geti qX9_readRun_86 fl_X9_51 shq_1 kdq_9_4 h (fun v24 h => ?_)
      refine e_bipush (nI 10) qX9_readRun_89 rfl ?_
      refine e_imul qX9_readRun_91 ?_
      refine e_iload_n qX9_readRun_92 rfl ?_
      refine e_bipush (nI 48) qX9_readRun_93 rfl ?_
      refine e_isub qX9_readRun_95 ?_
      refine e_iadd qX9_readRun_96 ?_
      refine e_puti qX9_readRun_97 fp_X9_51 shq_1 kdq_9_4 h (fun s25 h => ?_)
      exact e_weak (hj19 _ _ _ h) ⟨Or.inr rfl, Or.inr rfl, Or.inr rfl, Or.inl rfl, trivial⟩
    refine e_icmp_lt (tgt := 69) qX9_readRun_36 rfl h (fun _ h => ?_) (fun _ h => ?_)
    · exact e_weak (hj22 h) ⟨Or.inr rfl, Or.inr rfl, Or.inr rfl, Or.inr rfl, trivial⟩
    refine e_iload_n qX9_readRun_39 rfl ?_
    refine e_bipush (nI 122) qX9_readRun_40 rfl ?_
    refine e_icmp_gt (tgt := 69) qX9_readRun_42 rfl h (fun _ h => ?_) (fun _ h => ?_)
    · exact e_weak (hj22 h) ⟨Or.inr rfl, Or.inr rfl, Or.inr rfl, Or.inr rfl, trivial⟩
    refine vl_e h (fun h => ?_)
    obtain ⟨v26, ev26⟩ : ∃ y, v3 + (nI 1) = y := ⟨_, rfl⟩
    rw [ev26] at h
    refine e_iinc (nI 1) v26 (lv2 := [some (.ref 1), some (.int v26), some (.int v4), some (.int v15)]) qX9_readRun_45 rfl rfl rfl ev26 rfl ?_
    refine e_aload_n qX9_readRun_48 rfl ?_
    refine e_aload_n qX9_readRun_49 rfl ?_
    refine e_getl qX9_readRun_50 fl_X9_47 shq_1 kdq_9_3 h (fun v27 h => ?_)
    refine e_iconst (nI 5) qX9_readRun_53 rfl ?_
    refine e_lshl qX9_readRun_54 ?_
    refine e_iload_n qX9_readRun_55 rfl ?_
    refine e_bipush (nI 97) qX9_readRun_56 rfl ?_
    refine e_isub qX9_readRun_58 ?_
    refine e_iconst (nI 1) qX9_readRun_59 rfl ?_
    refine e_iadd qX9_readRun_60 ?_
    refine e_i2l qX9_readRun_61 ?_
    refine e_ladd qX9_readRun_62 ?_
    refine e_putl qX9_readRun_63 fp_X9_47 shq_1 kdq_9_3 h (fun s28 h => ?_)
    refine e_goto (tgt := 100) qX9_readRun_66 rfl ?_
    exact e_weak (hj19 _ _ _ h) ⟨Or.inr rfl, Or.inr rfl, Or.inr rfl, Or.inl rfl, trivial⟩

set_option maxRecDepth 20000 in
set_option maxHeartbeats 4000000 in
theorem w_X9_readRun {N : Nat}  {s0 : St} {sr : St} (h : f_X9_readRun N  s0 = some sr) : Ct mX9_readRun 0 [.ref 1] s0 (none, sr) := by
  refine Ct.ofE (by decide +kernel) rfl ?_
  show E mX9_readRun 0 (none, sr) 0 [some (.ref 1), none, none, none] [] s0
  unfold f_X9_readRun at h
  refine e_iconst (nI 0) qX9_readRun_0 rfl ?_
  refine e_istore_n (lv2 := [some (.ref 1), some (.int (nI 0)), none, none]) qX9_readRun_1 rfl rfl rfl ?_
  refine e_iconst (nI 0) qX9_readRun_2 rfl ?_
  refine e_istore_n (lv2 := [some (.ref 1), some (.int (nI 0)), some (.int (nI 0)), none]) qX9_readRun_3 rfl rfl rfl ?_
  refine e_aload_n qX9_readRun_4 rfl ?_
  refine e_aload_n qX9_readRun_5 rfl ?_
  refine e_geti qX9_readRun_6 fl_X9_44 shq_1 kdq_9_8 h (fun v1 h => ?_)
  refine e_puti qX9_readRun_9 fp_X9_32 shq_1 kdq_9_9 h (fun s2 h => ?_)
  refine e_weak (w_X9_readRun_L12 (fun v29 v30 s31 h => ?_) _ _ _ _ h) ⟨Or.inr rfl, Or.inr rfl, Or.inr rfl, Or.inl rfl, trivial⟩
  refine e_iload_n qX9_readRun_113 rfl ?_
  refine jn_e (fun j => j = some sr → E mX9_readRun 0 (none, sr) 131 [some (.ref 1), some (.int v29), some (.int v30), none] [] s31) h ?_ (fun j32 hj32 h => ?_)
  · intro h
    refine e_aload_n qX9_readRun_131 rfl ?_
    refine e_iload_n qX9_readRun_132 rfl ?_
    refine jn_e (fun j => ∀ (v33 : Int32), j v33 = some sr → E mX9_readRun 0 (none, sr) 146 [some (.ref 1), none, none, none] [.int v33, .ref 1] s31) h ?_ (fun j34 hj34 h => ?_)
    · intro v33 h
      refine e_puti qX9_readRun_146 fp_X9_54 shq_1 kdq_9_2 h (fun s35 h => ?_)
      refine e_aload_n qX9_readRun_149 rfl ?_
      refine e_lconst (0 : Int64) qX9_readRun_150 rfl ?_
      refine e_putl qX9_readRun_151 fp_X9_47 shq_1 kdq_9_3 h (fun s36 h => ?_)
      exact e_vret qX9_readRun_154 rfl (ret_v h)
    refine jn_e (fun j => j = some sr → E mX9_readRun 0 (none, sr) 145 [some (.ref 1), none, none, none] [.ref 1] s31) h ?_ (fun j37 hj37 h => ?_)
    · intro h
      refine e_iconst (nI 4) qX9_readRun_145 rfl ?_
      exact e_weak (hj34 _ h) ⟨Or.inr rfl, Or.inl rfl, Or.inl rfl, Or.inl rfl, trivial⟩
    refine e_if_ne (tgt := 145) qX9_readRun_133 rfl h (fun _ h => ?_) (fun _ h => ?_)
    · refine e_iload_n qX9_readRun_136 rfl ?_
      refine e_iconst (nI 3) qX9_readRun_137 rfl ?_
      refine e_icmp_gt (tgt := 145) qX9_readRun_138 rfl h (fun _ h => ?_) (fun _ h => ?_)
      · exact e_weak (hj37 h) ⟨Or.inr rfl, Or.inl rfl, Or.inl rfl, Or.inl rfl, trivial⟩
      refine e_iconst (nI 2) qX9_readRun_141 rfl ?_
      refine e_goto (tgt := 146) qX9_readRun_142 rfl ?_
      exact e_weak (hj34 _ h) ⟨Or.inr rfl, Or.inl rfl, Or.inl rfl, Or.inl rfl, trivial⟩
    exact e_weak (hj37 h) ⟨Or.inr rfl, Or.inl rfl, Or.inl rfl, Or.inl rfl, trivial⟩
  refine e_if_ne (tgt := 131) qX9_readRun_114 rfl h (fun _ h => ?_) (fun _ h => ?_)
  · refine e_iload_n qX9_readRun_117 rfl ?_
    refine e_bipush (nI 7) qX9_readRun_118 rfl ?_
    refine e_icmp_gt (tgt := 131) qX9_readRun_120 rfl h (fun _ h => ?_) (fun _ h => ?_)
    · exact e_weak (hj32 h) ⟨Or.inr rfl, Or.inr rfl, Or.inr rfl, Or.inl rfl, trivial⟩
    refine e_aload_n qX9_readRun_123 rfl ?_
    refine e_iconst (nI 1) qX9_readRun_124 rfl ?_
    refine e_puti qX9_readRun_125 fp_X9_54 shq_1 kdq_9_2 h (fun s38 h => ?_)
    refine e_goto (tgt := 154) qX9_readRun_128 rfl ?_
    exact e_vret qX9_readRun_154 rfl (ret_v h)
  exact e_weak (hj32 h) ⟨Or.inr rfl, Or.inr rfl, Or.inr rfl, Or.inl rfl, trivial⟩

def f_X9_readSign  (s0 : St) : Option (St) :=
  vl (s0.1 1 8) fun v1 =>
  ald (s0.1 2) 940 v1 fun v2 =>
  vl (sI s0 1 4 v2) fun s3 =>
  vl (s3.1 1 8) fun v4 =>
  vl (sI s3 1 9 (v4 + (nI 1))) fun s5 =>
  vl (s5.1 1 4) fun v6 =>
  jn (fun (v7 : Int32) =>
    jn (fun (v9 : Int32) =>
      vl (sI s5 1 2 v9) fun s11 =>
      some s11) fun j10 =>
    if v7 = 0 then
      j10 (nI 4)
    else
    j10 (nI 3)) fun j8 =>
  jn (j8 (nI 1)) fun j12 =>
  if v6 = (nI 59) then
    j12
  else
  vl (s5.1 1 4) fun v13 =>
  if v13 = (nI 60) then
    j12
  else
  vl (s5.1 1 4) fun v14 =>
  if v14 = (nI 61) then
    j12
  else
  vl (s5.1 1 4) fun v15 =>
  if v15 = (nI 62) then
    j12
  else
  vl (s5.1 1 4) fun v16 =>
  if v16 = (nI 40) then
    j12
  else
  vl (s5.1 1 4) fun v17 =>
  if v17 = (nI 41) then
    j12
  else
  j8 (nI 0)

theorem qX9_readSign_0 : Dc mX9_readSign 0 (.aload_n 0) 1 1 := ⟨by decide +kernel, rfl⟩
theorem qX9_readSign_1 : Dc mX9_readSign 1 (.aload_n 0) 1 2 := ⟨by decide +kernel, rfl⟩
theorem qX9_readSign_2 : Dc mX9_readSign 2 (.getfield 9) 3 5 := ⟨by decide +kernel, rfl⟩
theorem qX9_readSign_5 : Dc mX9_readSign 5 (.aload_n 0) 1 6 := ⟨by decide +kernel, rfl⟩
theorem qX9_readSign_6 : Dc mX9_readSign 6 (.getfield 44) 3 9 := ⟨by decide +kernel, rfl⟩
theorem qX9_readSign_9 : Dc mX9_readSign 9 (.iaload) 1 10 := ⟨by decide +kernel, rfl⟩
theorem qX9_readSign_10 : Dc mX9_readSign 10 (.putfield 51) 3 13 := ⟨by decide +kernel, rfl⟩
theorem qX9_readSign_13 : Dc mX9_readSign 13 (.aload_n 0) 1 14 := ⟨by decide +kernel, rfl⟩
theorem qX9_readSign_14 : Dc mX9_readSign 14 (.aload_n 0) 1 15 := ⟨by decide +kernel, rfl⟩
theorem qX9_readSign_15 : Dc mX9_readSign 15 (.getfield 44) 3 18 := ⟨by decide +kernel, rfl⟩
theorem qX9_readSign_18 : Dc mX9_readSign 18 (.iconst 1) 1 19 := ⟨by decide +kernel, rfl⟩
theorem qX9_readSign_19 : Dc mX9_readSign 19 (.iadd) 1 20 := ⟨by decide +kernel, rfl⟩
theorem qX9_readSign_20 : Dc mX9_readSign 20 (.putfield 32) 3 23 := ⟨by decide +kernel, rfl⟩
theorem qX9_readSign_23 : Dc mX9_readSign 23 (.aload_n 0) 1 24 := ⟨by decide +kernel, rfl⟩
theorem qX9_readSign_24 : Dc mX9_readSign 24 (.getfield 51) 3 27 := ⟨by decide +kernel, rfl⟩
theorem qX9_readSign_27 : Dc mX9_readSign 27 (.bipush 59) 2 29 := ⟨by decide +kernel, rfl⟩
theorem qX9_readSign_29 : Dc mX9_readSign 29 (.if_icmp .eq 48) 3 32 := ⟨by decide +kernel, rfl⟩
theorem qX9_readSign_32 : Dc mX9_readSign 32 (.aload_n 0) 1 33 := ⟨by decide +kernel, rfl⟩
theorem qX9_readSign_33 : Dc mX9_readSign 33 (.getfield 51) 3 36 := ⟨by decide +kernel, rfl⟩
theorem qX9_readSign_36 : Dc mX9_readSign 36 (.bipush 60) 2 38 := ⟨by decide +kernel, rfl⟩
theorem qX9_readSign_38 : Dc mX9_readSign 38 (.if_icmp .eq 39) 3 41 := ⟨by decide +kernel, rfl⟩
theorem qX9_readSign_41 : Dc mX9_readSign 41 (.aload_n 0) 1 42 := ⟨by decide +kernel, rfl⟩
theorem qX9_readSign_42 : Dc mX9_readSign 42 (.getfield 51) 3 45 := ⟨by decide +kernel, rfl⟩
theorem qX9_readSign_45 : Dc mX9_readSign 45 (.bipush 61) 2 47 := ⟨by decide +kernel, rfl⟩
theorem qX9_readSign_47 : Dc mX9_readSign 47 (.if_icmp .eq 30) 3 50 := ⟨by decide +kernel, rfl⟩
theorem qX9_readSign_50 : Dc mX9_readSign 50 (.aload_n 0) 1 51 := ⟨by decide +kernel, rfl⟩
theorem qX9_readSign_51 : Dc mX9_readSign 51 (.getfield 51) 3 54 := ⟨by decide +kernel, rfl⟩
theorem qX9_readSign_54 : Dc mX9_readSign 54 (.bipush 62) 2 56 := ⟨by decide +kernel, rfl⟩
theorem qX9_readSign_56 : Dc mX9_readSign 56 (.if_icmp .eq 21) 3 59 := ⟨by decide +kernel, rfl⟩
theorem qX9_readSign_59 : Dc mX9_readSign 59 (.aload_n 0) 1 60 := ⟨by decide +kernel, rfl⟩
theorem qX9_readSign_60 : Dc mX9_readSign 60 (.getfield 51) 3 63 := ⟨by decide +kernel, rfl⟩
theorem qX9_readSign_63 : Dc mX9_readSign 63 (.bipush 40) 2 65 := ⟨by decide +kernel, rfl⟩
theorem qX9_readSign_65 : Dc mX9_readSign 65 (.if_icmp .eq 12) 3 68 := ⟨by decide +kernel, rfl⟩
theorem qX9_readSign_68 : Dc mX9_readSign 68 (.aload_n 0) 1 69 := ⟨by decide +kernel, rfl⟩
theorem qX9_readSign_69 : Dc mX9_readSign 69 (.getfield 51) 3 72 := ⟨by decide +kernel, rfl⟩
theorem qX9_readSign_72 : Dc mX9_readSign 72 (.bipush 41) 2 74 := ⟨by decide +kernel, rfl⟩
theorem qX9_readSign_74 : Dc mX9_readSign 74 (.if_icmp .ne 7) 3 77 := ⟨by decide +kernel, rfl⟩
theorem qX9_readSign_77 : Dc mX9_readSign 77 (.iconst 1) 1 78 := ⟨by decide +kernel, rfl⟩
theorem qX9_readSign_78 : Dc mX9_readSign 78 (.goto 4) 3 81 := ⟨by decide +kernel, rfl⟩
theorem qX9_readSign_81 : Dc mX9_readSign 81 (.iconst 0) 1 82 := ⟨by decide +kernel, rfl⟩
theorem qX9_readSign_82 : Dc mX9_readSign 82 (.istore_n 1) 1 83 := ⟨by decide +kernel, rfl⟩
theorem qX9_readSign_83 : Dc mX9_readSign 83 (.aload_n 0) 1 84 := ⟨by decide +kernel, rfl⟩
theorem qX9_readSign_84 : Dc mX9_readSign 84 (.iload_n 1) 1 85 := ⟨by decide +kernel, rfl⟩
theorem qX9_readSign_85 : Dc mX9_readSign 85 (.ifCond .eq 7) 3 88 := ⟨by decide +kernel, rfl⟩
theorem qX9_readSign_88 : Dc mX9_readSign 88 (.iconst 3) 1 89 := ⟨by decide +kernel, rfl⟩
theorem qX9_readSign_89 : Dc mX9_readSign 89 (.goto 4) 3 92 := ⟨by decide +kernel, rfl⟩
theorem qX9_readSign_92 : Dc mX9_readSign 92 (.iconst 4) 1 93 := ⟨by decide +kernel, rfl⟩
theorem qX9_readSign_93 : Dc mX9_readSign 93 (.putfield 54) 3 96 := ⟨by decide +kernel, rfl⟩
theorem qX9_readSign_96 : Dc mX9_readSign 96 (.return_) 1 97 := ⟨by decide +kernel, rfl⟩

set_option maxRecDepth 20000 in
set_option maxHeartbeats 4000000 in
theorem w_X9_readSign  {s0 : St} {sr : St} (h : f_X9_readSign  s0 = some sr) : Ct mX9_readSign 0 [.ref 1] s0 (none, sr) := by
  refine Ct.ofE (by decide +kernel) rfl ?_
  show E mX9_readSign 0 (none, sr) 0 [some (.ref 1), none] [] s0
  unfold f_X9_readSign at h
  refine e_aload_n qX9_readSign_0 rfl ?_
  refine e_aload_n qX9_readSign_1 rfl ?_
  refine e_getr 2 qX9_readSign_2 fl_X9_9 shq_1 kdq_9_0 rrq_1_0 ?_
  refine e_aload_n qX9_readSign_5 rfl ?_
  refine e_geti qX9_readSign_6 fl_X9_44 shq_1 kdq_9_8 h (fun v1 h => ?_)
  refine e_iald qX9_readSign_9 shq_2 lnq_2 h (fun v2 h => ?_)
  refine e_puti qX9_readSign_10 fp_X9_51 shq_1 kdq_9_4 h (fun s3 h => ?_)
  refine e_aload_n qX9_readSign_13 rfl ?_
  refine e_aload_n qX9_readSign_14 rfl ?_
  refine e_geti qX9_readSign_15 fl_X9_44 shq_1 kdq_9_8 h (fun v4 h => ?_)
  refine e_iconst (nI 1) qX9_readSign_18 rfl ?_
  refine e_iadd qX9_readSign_19 ?_
  refine e_puti qX9_readSign_20 fp_X9_32 shq_1 kdq_9_9 h (fun s5 h => ?_)
  refine e_aload_n qX9_readSign_23 rfl ?_
  refine e_geti qX9_readSign_24 fl_X9_51 shq_1 kdq_9_4 h (fun v6 h => ?_)
  refine e_bipush (nI 59) qX9_readSign_27 rfl ?_
  refine jn_e (fun j => ∀ (v7 : Int32), j v7 = some sr → E mX9_readSign 0 (none, sr) 82 [some (.ref 1), none] [.int v7] s5) h ?_ (fun j8 hj8 h => ?_)
  · intro v7 h
    refine e_istore_n (lv2 := [some (.ref 1), some (.int v7)]) qX9_readSign_82 rfl rfl rfl ?_
    refine e_aload_n qX9_readSign_83 rfl ?_
    refine e_iload_n qX9_readSign_84 rfl ?_
    refine jn_e (fun j => ∀ (v9 : Int32), j v9 = some sr → E mX9_readSign 0 (none, sr) 93 [none, none] [.int v9, .ref 1] s5) h ?_ (fun j10 hj10 h => ?_)
    · intro v9 h
      refine e_puti qX9_readSign_93 fp_X9_54 shq_1 kdq_9_2 h (fun s11 h => ?_)
      exact e_vret qX9_readSign_96 rfl (ret_v h)
    refine e_if_eq (tgt := 92) qX9_readSign_85 rfl h (fun _ h => ?_) (fun _ h => ?_)
    · refine e_iconst (nI 4) qX9_readSign_92 rfl ?_
      exact e_weak (hj10 _ h) ⟨Or.inl rfl, Or.inl rfl, trivial⟩
    refine e_iconst (nI 3) qX9_readSign_88 rfl ?_
    refine e_goto (tgt := 93) qX9_readSign_89 rfl ?_
    exact e_weak (hj10 _ h) ⟨Or.inl rfl, Or.inl rfl, trivial⟩
  refine jn_e (fun j => j = some sr → E mX9_readSign 0 (none, sr) 77 [some (.ref 1), none] [] s5) h ?_ (fun j12 hj12 h => ?_)
  · intro h
    refine e_iconst (nI 1) qX9_readSign_77 rfl ?_
    refine e_goto (tgt := 82) qX9_readSign_78 rfl ?_
    exact e_weak (hj8 _ h) ⟨Or.inr rfl, Or.inl rfl, trivial⟩
  refine e_icmp_eq (tgt := 77) qX9_readSign_29 rfl h (fun _ h => ?_) (fun _ h => ?_)
  · exact e_weak (hj12 h) ⟨Or.inr rfl, Or.inl rfl, trivial⟩
  refine e_aload_n qX9_readSign_32 rfl ?_
  refine e_geti qX9_readSign_33 fl_X9_51 shq_1 kdq_9_4 h (fun v13 h => ?_)
  refine e_bipush (nI 60) qX9_readSign_36 rfl ?_
  refine e_icmp_eq (tgt := 77) qX9_readSign_38 rfl h (fun _ h => ?_) (fun _ h => ?_)
  · exact e_weak (hj12 h) ⟨Or.inr rfl, Or.inl rfl, trivial⟩
  refine e_aload_n qX9_readSign_41 rfl ?_
  refine e_geti qX9_readSign_42 fl_X9_51 shq_1 kdq_9_4 h (fun v14 h => ?_)
  refine e_bipush (nI 61) qX9_readSign_45 rfl ?_
  refine e_icmp_eq (tgt := 77) qX9_readSign_47 rfl h (fun _ h => ?_) (fun _ h => ?_)
  · exact e_weak (hj12 h) ⟨Or.inr rfl, Or.inl rfl, trivial⟩
  refine e_aload_n qX9_readSign_50 rfl ?_
  refine e_geti qX9_readSign_51 fl_X9_51 shq_1 kdq_9_4 h (fun v15 h => ?_)
  refine e_bipush (nI 62) qX9_readSign_54 rfl ?_
  refine e_icmp_eq (tgt := 77) qX9_readSign_56 rfl h (fun _ h => ?_) (fun _ h => ?_)
  · exact e_weak (hj12 h) ⟨Or.inr rfl, Or.inl rfl, trivial⟩
  refine e_aload_n qX9_readSign_59 rfl ?_
  refine e_geti qX9_readSign_60 fl_X9_51 shq_1 kdq_9_4 h (fun v16 h => ?_)
  refine e_bipush (nI 40) qX9_readSign_63 rfl ?_
  refine e_icmp_eq (tgt := 77) qX9_readSign_65 rfl h (fun _ h => ?_) (fun _ h => ?_)
  · exact e_weak (hj12 h) ⟨Or.inr rfl, Or.inl rfl, trivial⟩
  refine e_aload_n qX9_readSign_68 rfl ?_
  refine e_geti qX9_readSign_69 fl_X9_51 shq_1 kdq_9_4 h (fun v17 h => ?_)
  refine e_bipush (nI 41) qX9_readSign_72 rfl ?_
  refine e_icmp_ne (tgt := 81) qX9_readSign_74 rfl h (fun _ h => ?_) (fun _ h => ?_)
  · exact e_weak (hj12 h) ⟨Or.inr rfl, Or.inl rfl, trivial⟩
  refine e_iconst (nI 0) qX9_readSign_81 rfl ?_
  exact e_weak (hj8 _ h) ⟨Or.inr rfl, Or.inl rfl, trivial⟩

def f_X10_isReserved_L2 (N : Nat) (c1 : Int64) (s0 : St) : Nat → Int32 → Option (Int32)
  | 0, _ => none
  | n3 + 1, v2 =>
    if (nI 27) ≤ v2 then
      some (nI 0)
    else
    ald (fun j => 1000 + j) 27 v2 fun v5 =>
    wcd v5 fun v6 =>
    if (lg_cmp v6 c1) = 0 then
      some (nI 1)
    else
    vl (v2 + (nI 1)) fun v7 =>
    f_X10_isReserved_L2 N c1 s0 n3 v7

def f_X10_isReserved (N : Nat) (x0 : Int64) (s0 : St) : Option (Int32) :=
  f_X10_isReserved_L2 N x0 s0 N (nI 0)

theorem qX10_isReserved_0 : Dc mX10_isReserved 0 (.iconst 0) 1 1 := ⟨by decide +kernel, rfl⟩
theorem qX10_isReserved_1 : Dc mX10_isReserved 1 (.istore_n 2) 1 2 := ⟨by decide +kernel, rfl⟩
theorem qX10_isReserved_2 : Dc mX10_isReserved 2 (.iload_n 2) 1 3 := ⟨by decide +kernel, rfl⟩
theorem qX10_isReserved_3 : Dc mX10_isReserved 3 (.getstatic 120) 3 6 := ⟨by decide +kernel, rfl⟩
theorem qX10_isReserved_6 : Dc mX10_isReserved 6 (.arraylength) 1 7 := ⟨by decide +kernel, rfl⟩
theorem qX10_isReserved_7 : Dc mX10_isReserved 7 (.if_icmp .ge 24) 3 10 := ⟨by decide +kernel, rfl⟩
theorem qX10_isReserved_10 : Dc mX10_isReserved 10 (.getstatic 120) 3 13 := ⟨by decide +kernel, rfl⟩
theorem qX10_isReserved_13 : Dc mX10_isReserved 13 (.iload_n 2) 1 14 := ⟨by decide +kernel, rfl⟩
theorem qX10_isReserved_14 : Dc mX10_isReserved 14 (.aaload) 1 15 := ⟨by decide +kernel, rfl⟩
theorem qX10_isReserved_15 : Dc mX10_isReserved 15 (.getfield 116) 3 18 := ⟨by decide +kernel, rfl⟩
theorem qX10_isReserved_18 : Dc mX10_isReserved 18 (.lload_n 0) 1 19 := ⟨by decide +kernel, rfl⟩
theorem qX10_isReserved_19 : Dc mX10_isReserved 19 (.lcmp) 1 20 := ⟨by decide +kernel, rfl⟩
theorem qX10_isReserved_20 : Dc mX10_isReserved 20 (.ifCond .ne 5) 3 23 := ⟨by decide +kernel, rfl⟩
theorem qX10_isReserved_23 : Dc mX10_isReserved 23 (.iconst 1) 1 24 := ⟨by decide +kernel, rfl⟩
theorem qX10_isReserved_24 : Dc mX10_isReserved 24 (.ireturn) 1 25 := ⟨by decide +kernel, rfl⟩
theorem qX10_isReserved_25 : Dc mX10_isReserved 25 (.iinc 2 1) 3 28 := ⟨by decide +kernel, rfl⟩
theorem qX10_isReserved_28 : Dc mX10_isReserved 28 (.goto (-26)) 3 31 := ⟨by decide +kernel, rfl⟩
theorem qX10_isReserved_31 : Dc mX10_isReserved 31 (.iconst 0) 1 32 := ⟨by decide +kernel, rfl⟩
theorem qX10_isReserved_32 : Dc mX10_isReserved 32 (.ireturn) 1 33 := ⟨by decide +kernel, rfl⟩

set_option maxRecDepth 20000 in
set_option maxHeartbeats 4000000 in
theorem w_X10_isReserved_L2 {N : Nat} {c1 : Int64} {s0 : St}  {r : Int32}   : ∀ (n3 : Nat) (v2 : Int32), f_X10_isReserved_L2 N c1 s0 n3 v2 = some r → E mX10_isReserved 0 (some (.int r), s0) 2 [some (.long c1), none, some (.int v2)] [] s0 := by
  intro n3
  induction n3 with
  | zero =>
    intro v2 h
    rw [f_X10_isReserved_L2] at h; cases h
  | succ n3 ih4 =>
    intro v2 h
    rw [f_X10_isReserved_L2] at h
    refine e_iload_n qX10_isReserved_2 rfl ?_
    refine e_getsa qX10_isReserved_3 cg_X10_120 ?_
    refine e_alenW qX10_isReserved_6 ?_
    refine e_icmp_ge (tgt := 31) qX10_isReserved_7 rfl h (fun _ h => ?_) (fun _ h => ?_)
    · refine e_iconst (nI 0) qX10_isReserved_31 rfl ?_
      exact e_zret qX10_isReserved_32 rfl (by decide) (ret_p h)
    refine e_getsa qX10_isReserved_10 cg_X10_120 ?_
    refine e_iload_n qX10_isReserved_13 rfl ?_
    refine e_aaldW qX10_isReserved_14 h (fun v5 h => ?_)
    refine e_gcode qX10_isReserved_15 cf_X10_116 h (fun v6 h => ?_)
    refine e_lload_n qX10_isReserved_18 rfl ?_
    refine e_lcmp qX10_isReserved_19 ?_
    refine e_if_ne (tgt := 25) qX10_isReserved_20 rfl h (fun _ h => ?_) (fun _ h => ?_)
    · refine e_iconst (nI 1) qX10_isReserved_23 rfl ?_
      exact e_zret qX10_isReserved_24 rfl (by decide) (ret_p h)
    refine vl_e h (fun h => ?_)
    obtain ⟨v7, ev7⟩ : ∃ y, v2 + (nI 1) = y := ⟨_, rfl⟩
    rw [ev7] at h
    refine e_iinc (nI 1) v7 (lv2 := [some (.long c1), none, some (.int v7)]) qX10_isReserved_25 rfl rfl rfl ev7 rfl ?_
    refine e_goto (tgt := 2) qX10_isReserved_28 rfl ?_
    exact e_weak (ih4 _ h) ⟨Or.inr rfl, Or.inl rfl, Or.inr rfl, trivial⟩

set_option maxRecDepth 20000 in
set_option maxHeartbeats 4000000 in
theorem w_X10_isReserved {N : Nat} {x0 : Int64} {s0 : St} {r : Int32} (h : f_X10_isReserved N x0 s0 = some r) : Ct mX10_isReserved 0 [.long x0] s0 (some (.int r), s0) := by
  refine Ct.ofE (by decide +kernel) rfl ?_
  show E mX10_isReserved 0 (some (.int r), s0) 0 [some (.long x0), none, none] [] s0
  unfold f_X10_isReserved at h
  refine e_iconst (nI 0) qX10_isReserved_0 rfl ?_
  refine e_istore_n (lv2 := [some (.long x0), none, some (.int (nI 0))]) qX10_isReserved_1 rfl rfl rfl ?_
  exact e_weak (w_X10_isReserved_L2  _ _ h) ⟨Or.inr rfl, Or.inl rfl, Or.inr rfl, trivial⟩

def f_X11_feed (N : Nat) (x1 : Int32) (x2 : Int32) (x3 : Int32) (x4 : Int32) (x5 : Int32) (s0 : St) : Option (Int32 × St) :=
  vl (s0.1 1 1) fun v1 =>
  if (v1 + (nI 20)) ≤ (nI 940) then
    bp (f_X9_put N x1 s0) fun s2 =>
    bp (f_X9_put N x2 s2) fun s3 =>
    bp (f_X9_put N x3 s3) fun s4 =>
    bp (f_X9_put N x4 s4) fun s5 =>
    bp (f_X9_put N x5 s5) fun s6 =>
    vl (s6.1 1 1) fun v7 =>
    some (v7, s6)
  else
  some ((-1), s0)

theorem qX11_feed_0 : Dc mX11_feed 0 (.aload_n 0) 1 1 := ⟨by decide +kernel, rfl⟩
theorem qX11_feed_1 : Dc mX11_feed 1 (.getfield 12) 3 4 := ⟨by decide +kernel, rfl⟩
theorem qX11_feed_4 : Dc mX11_feed 4 (.getfield 102) 3 7 := ⟨by decide +kernel, rfl⟩
theorem qX11_feed_7 : Dc mX11_feed 7 (.bipush 20) 2 9 := ⟨by decide +kernel, rfl⟩
theorem qX11_feed_9 : Dc mX11_feed 9 (.iadd) 1 10 := ⟨by decide +kernel, rfl⟩
theorem qX11_feed_10 : Dc mX11_feed 10 (.sipush 940) 3 13 := ⟨by decide +kernel, rfl⟩
theorem qX11_feed_13 : Dc mX11_feed 13 (.if_icmp .le 5) 3 16 := ⟨by decide +kernel, rfl⟩
theorem qX11_feed_16 : Dc mX11_feed 16 (.iconst (-1)) 1 17 := ⟨by decide +kernel, rfl⟩
theorem qX11_feed_17 : Dc mX11_feed 17 (.ireturn) 1 18 := ⟨by decide +kernel, rfl⟩
theorem qX11_feed_18 : Dc mX11_feed 18 (.aload_n 0) 1 19 := ⟨by decide +kernel, rfl⟩
theorem qX11_feed_19 : Dc mX11_feed 19 (.getfield 12) 3 22 := ⟨by decide +kernel, rfl⟩
theorem qX11_feed_22 : Dc mX11_feed 22 (.iload_n 1) 1 23 := ⟨by decide +kernel, rfl⟩
theorem qX11_feed_23 : Dc mX11_feed 23 (.invokevirtual 105) 3 26 := ⟨by decide +kernel, rfl⟩
theorem qX11_feed_26 : Dc mX11_feed 26 (.aload_n 0) 1 27 := ⟨by decide +kernel, rfl⟩
theorem qX11_feed_27 : Dc mX11_feed 27 (.getfield 12) 3 30 := ⟨by decide +kernel, rfl⟩
theorem qX11_feed_30 : Dc mX11_feed 30 (.iload_n 2) 1 31 := ⟨by decide +kernel, rfl⟩
theorem qX11_feed_31 : Dc mX11_feed 31 (.invokevirtual 105) 3 34 := ⟨by decide +kernel, rfl⟩
theorem qX11_feed_34 : Dc mX11_feed 34 (.aload_n 0) 1 35 := ⟨by decide +kernel, rfl⟩
theorem qX11_feed_35 : Dc mX11_feed 35 (.getfield 12) 3 38 := ⟨by decide +kernel, rfl⟩
theorem qX11_feed_38 : Dc mX11_feed 38 (.iload_n 3) 1 39 := ⟨by decide +kernel, rfl⟩
theorem qX11_feed_39 : Dc mX11_feed 39 (.invokevirtual 105) 3 42 := ⟨by decide +kernel, rfl⟩
theorem qX11_feed_42 : Dc mX11_feed 42 (.aload_n 0) 1 43 := ⟨by decide +kernel, rfl⟩
theorem qX11_feed_43 : Dc mX11_feed 43 (.getfield 12) 3 46 := ⟨by decide +kernel, rfl⟩
theorem qX11_feed_46 : Dc mX11_feed 46 (.iload 4) 2 48 := ⟨by decide +kernel, rfl⟩
theorem qX11_feed_48 : Dc mX11_feed 48 (.invokevirtual 105) 3 51 := ⟨by decide +kernel, rfl⟩
theorem qX11_feed_51 : Dc mX11_feed 51 (.aload_n 0) 1 52 := ⟨by decide +kernel, rfl⟩
theorem qX11_feed_52 : Dc mX11_feed 52 (.getfield 12) 3 55 := ⟨by decide +kernel, rfl⟩
theorem qX11_feed_55 : Dc mX11_feed 55 (.iload 5) 2 57 := ⟨by decide +kernel, rfl⟩
theorem qX11_feed_57 : Dc mX11_feed 57 (.invokevirtual 105) 3 60 := ⟨by decide +kernel, rfl⟩
theorem qX11_feed_60 : Dc mX11_feed 60 (.aload_n 0) 1 61 := ⟨by decide +kernel, rfl⟩
theorem qX11_feed_61 : Dc mX11_feed 61 (.getfield 12) 3 64 := ⟨by decide +kernel, rfl⟩
theorem qX11_feed_64 : Dc mX11_feed 64 (.getfield 102) 3 67 := ⟨by decide +kernel, rfl⟩
theorem qX11_feed_67 : Dc mX11_feed 67 (.ireturn) 1 68 := ⟨by decide +kernel, rfl⟩

set_option maxRecDepth 20000 in
set_option maxHeartbeats 4000000 in
theorem w_X11_feed {N : Nat} {x1 : Int32} {x2 : Int32} {x3 : Int32} {x4 : Int32} {x5 : Int32} {s0 : St} {r : Int32} {sr : St} (h : f_X11_feed N x1 x2 x3 x4 x5 s0 = some (r, sr)) : Ct mX11_feed 1 [.ref 0, .int x1, .int x2, .int x3, .int x4, .int x5] s0 (some (.int r), sr) := by
  refine Ct.ofE (by decide +kernel) rfl ?_
  show E mX11_feed 1 (some (.int r), sr) 0 [some (.ref 0), some (.int x1), some (.int x2), some (.int x3), some (.int x4), some (.int x5)] [] s0
  unfold f_X11_feed at h
  refine e_aload_n qX11_feed_0 rfl ?_
  refine e_getr 1 qX11_feed_1 fl_X11_12 shq_0 kdq_10_0 rrq_0_0 ?_
  refine e_geti qX11_feed_4 fl_X11_102 shq_1 kdq_9_1 h (fun v1 h => ?_)
  refine e_bipush (nI 20) qX11_feed_7 rfl ?_
  refine e_iadd qX11_feed_9 ?_
  refine e_sipush (nI 940) qX11_feed_10 rfl ?_
  refine e_icmp_le (tgt := 18) qX11_feed_13 rfl h (fun _ h => ?_) (fun _ h => ?_)
  · refine e_aload_n qX11_feed_18 rfl ?_
    refine e_getr 1 qX11_feed_19 fl_X11_12 shq_0 kdq_10_0 rrq_0_0 ?_
    refine e_iload_n qX11_feed_22 rfl ?_
    obtain ⟨s2, hc, h⟩ := bp_e h
    refine e_cVv1 qX11_feed_23 mv_X11_105 shq_1 rfl rfl (w_X9_put hc) ?_
    refine e_aload_n qX11_feed_26 rfl ?_
    refine e_getr 1 qX11_feed_27 fl_X11_12 shq_0 kdq_10_0 rrq_0_0 ?_
    refine e_iload_n qX11_feed_30 rfl ?_
    obtain ⟨s3, hc, h⟩ := bp_e h
    refine e_cVv1 qX11_feed_31 mv_X11_105 shq_1 rfl rfl (w_X9_put hc) ?_
    refine e_aload_n qX11_feed_34 rfl ?_
    refine e_getr 1 qX11_feed_35 fl_X11_12 shq_0 kdq_10_0 rrq_0_0 ?_
    refine e_iload_n qX11_feed_38 rfl ?_
    obtain ⟨s4, hc, h⟩ := bp_e h
    refine e_cVv1 qX11_feed_39 mv_X11_105 shq_1 rfl rfl (w_X9_put hc) ?_
    refine e_aload_n qX11_feed_42 rfl ?_
    refine e_getr 1 qX11_feed_43 fl_X11_12 shq_0 kdq_10_0 rrq_0_0 ?_
    refine e_iload qX11_feed_46 rfl ?_
    obtain ⟨s5, hc, h⟩ := bp_e h
    refine e_cVv1 qX11_feed_48 mv_X11_105 shq_1 rfl rfl (w_X9_put hc) ?_
    refine e_aload_n qX11_feed_51 rfl ?_
    refine e_getr 1 qX11_feed_52 fl_X11_12 shq_0 kdq_10_0 rrq_0_0 ?_
    refine e_iload qX11_feed_55 rfl ?_
    obtain ⟨s6, hc, h⟩ := bp_e h
    refine e_cVv1 qX11_feed_57 mv_X11_105 shq_1 rfl rfl (w_X9_put hc) ?_
    refine e_aload_n qX11_feed_60 rfl ?_
    refine e_getr 1 qX11_feed_61 fl_X11_12 shq_0 kdq_10_0 rrq_0_0 ?_
    refine e_geti qX11_feed_64 fl_X11_102 shq_1 kdq_9_1 h (fun v7 h => ?_)
    exact e_iret qX11_feed_67 rfl (ret_i h)
  refine e_iconst (-1) qX11_feed_16 rfl ?_
  exact e_iret qX11_feed_17 rfl (ret_i h)

def f_X11_end (x1 : Int32) (s0 : St) : Option (Int32 × St) :=
  if x1 < 0 then
    some ((nI 0), s0)
  else
  vl (s0.1 1 1) fun v1 =>
  if x1 ≤ v1 then
    vl (sI s0 1 1 x1) fun s2 =>
    some ((nI 1), s2)
  else
  some ((nI 0), s0)

theorem qX11_end_0 : Dc mX11_end 0 (.iload_n 1) 1 1 := ⟨by decide +kernel, rfl⟩
theorem qX11_end_1 : Dc mX11_end 1 (.ifCond .lt 14) 3 4 := ⟨by decide +kernel, rfl⟩
theorem qX11_end_4 : Dc mX11_end 4 (.iload_n 1) 1 5 := ⟨by decide +kernel, rfl⟩
theorem qX11_end_5 : Dc mX11_end 5 (.aload_n 0) 1 6 := ⟨by decide +kernel, rfl⟩
theorem qX11_end_6 : Dc mX11_end 6 (.getfield 12) 3 9 := ⟨by decide +kernel, rfl⟩
theorem qX11_end_9 : Dc mX11_end 9 (.getfield 102) 3 12 := ⟨by decide +kernel, rfl⟩
theorem qX11_end_12 : Dc mX11_end 12 (.if_icmp .le 5) 3 15 := ⟨by decide +kernel, rfl⟩
theorem qX11_end_15 : Dc mX11_end 15 (.iconst 0) 1 16 := ⟨by decide +kernel, rfl⟩
theorem qX11_end_16 : Dc mX11_end 16 (.ireturn) 1 17 := ⟨by decide +kernel, rfl⟩
theorem qX11_end_17 : Dc mX11_end 17 (.aload_n 0) 1 18 := ⟨by decide +kernel, rfl⟩
theorem qX11_end_18 : Dc mX11_end 18 (.getfield 12) 3 21 := ⟨by decide +kernel, rfl⟩
theorem qX11_end_21 : Dc mX11_end 21 (.iload_n 1) 1 22 := ⟨by decide +kernel, rfl⟩
theorem qX11_end_22 : Dc mX11_end 22 (.putfield 102) 3 25 := ⟨by decide +kernel, rfl⟩
theorem qX11_end_25 : Dc mX11_end 25 (.iconst 1) 1 26 := ⟨by decide +kernel, rfl⟩
theorem qX11_end_26 : Dc mX11_end 26 (.ireturn) 1 27 := ⟨by decide +kernel, rfl⟩

set_option maxRecDepth 20000 in
set_option maxHeartbeats 4000000 in
theorem w_X11_end {x1 : Int32} {s0 : St} {r : Int32} {sr : St} (h : f_X11_end x1 s0 = some (r, sr)) : Ct mX11_end 0 [.ref 0, .int x1] s0 (some (.int r), sr) := by
  refine Ct.ofE (by decide +kernel) rfl ?_
  show E mX11_end 0 (some (.int r), sr) 0 [some (.ref 0), some (.int x1)] [] s0
  unfold f_X11_end at h
  refine e_iload_n qX11_end_0 rfl ?_
  refine e_if_lt (tgt := 15) qX11_end_1 rfl h (fun _ h => ?_) (fun _ h => ?_)
  · refine e_iconst (nI 0) qX11_end_15 rfl ?_
    exact e_zret qX11_end_16 rfl (by decide) (ret_i h)
  refine e_iload_n qX11_end_4 rfl ?_
  refine e_aload_n qX11_end_5 rfl ?_
  refine e_getr 1 qX11_end_6 fl_X11_12 shq_0 kdq_10_0 rrq_0_0 ?_
  refine e_geti qX11_end_9 fl_X11_102 shq_1 kdq_9_1 h (fun v1 h => ?_)
  refine e_icmp_le (tgt := 17) qX11_end_12 rfl h (fun _ h => ?_) (fun _ h => ?_)
  · refine e_aload_n qX11_end_17 rfl ?_
    refine e_getr 1 qX11_end_18 fl_X11_12 shq_0 kdq_10_0 rrq_0_0 ?_
    refine e_iload_n qX11_end_21 rfl ?_
    refine e_puti qX11_end_22 fp_X11_102 shq_1 kdq_9_1 h (fun s2 h => ?_)
    refine e_iconst (nI 1) qX11_end_25 rfl ?_
    exact e_zret qX11_end_26 rfl (by decide) (ret_i h)
  refine e_iconst (nI 0) qX11_end_15 rfl ?_
  exact e_zret qX11_end_16 rfl (by decide) (ret_i h)

def f_X11_fault  (s0 : St) : Option (Int32) :=
  vl (s0.1 0 15) fun v1 =>
  some v1

theorem qX11_fault_0 : Dc mX11_fault 0 (.aload_n 0) 1 1 := ⟨by decide +kernel, rfl⟩
theorem qX11_fault_1 : Dc mX11_fault 1 (.getfield 132) 3 4 := ⟨by decide +kernel, rfl⟩
theorem qX11_fault_4 : Dc mX11_fault 4 (.ireturn) 1 5 := ⟨by decide +kernel, rfl⟩

set_option maxRecDepth 20000 in
set_option maxHeartbeats 4000000 in
theorem w_X11_fault  {s0 : St} {r : Int32} (h : f_X11_fault  s0 = some r) : Ct mX11_fault 0 [.ref 0] s0 (some (.int r), s0) := by
  refine Ct.ofE (by decide +kernel) rfl ?_
  show E mX11_fault 0 (some (.int r), s0) 0 [some (.ref 0)] [] s0
  unfold f_X11_fault at h
  refine e_aload_n qX11_fault_0 rfl ?_
  refine e_geti qX11_fault_1 fl_X11_132 shq_0 kdq_10_15 h (fun v1 h => ?_)
  exact e_iret qX11_fault_4 rfl (ret_p h)

def f_X11_changes  (s0 : St) : Option (Int32) :=
  vl (s0.1 0 16) fun v1 =>
  some v1

theorem qX11_changes_0 : Dc mX11_changes 0 (.aload_n 0) 1 1 := ⟨by decide +kernel, rfl⟩
theorem qX11_changes_1 : Dc mX11_changes 1 (.getfield 85) 3 4 := ⟨by decide +kernel, rfl⟩
theorem qX11_changes_4 : Dc mX11_changes 4 (.ireturn) 1 5 := ⟨by decide +kernel, rfl⟩

set_option maxRecDepth 20000 in
set_option maxHeartbeats 4000000 in
theorem w_X11_changes  {s0 : St} {r : Int32} (h : f_X11_changes  s0 = some r) : Ct mX11_changes 0 [.ref 0] s0 (some (.int r), s0) := by
  refine Ct.ofE (by decide +kernel) rfl ?_
  show E mX11_changes 0 (some (.int r), s0) 0 [some (.ref 0)] [] s0
  unfold f_X11_changes at h
  refine e_aload_n qX11_changes_0 rfl ?_
  refine e_geti qX11_changes_1 fl_X11_85 shq_0 kdq_10_16 h (fun v1 h => ?_)
  exact e_iret qX11_changes_4 rfl (ret_p h)

def f_X11_fitsAt (x1 : Int32) (s0 : St) : Option (Int32) :=
  jn (some (-1)) fun j1 =>
  if x1 < 0 then
    j1
  else
  if (nI 8) ≤ x1 then
    j1
  else
  ald (s0.1 133) 8 x1 fun v2 =>
  some v2

theorem qX11_fitsAt_0 : Dc mX11_fitsAt 0 (.iload_n 1) 1 1 := ⟨by decide +kernel, rfl⟩
theorem qX11_fitsAt_1 : Dc mX11_fitsAt 1 (.ifCond .lt 18) 3 4 := ⟨by decide +kernel, rfl⟩
theorem qX11_fitsAt_4 : Dc mX11_fitsAt 4 (.iload_n 1) 1 5 := ⟨by decide +kernel, rfl⟩
theorem qX11_fitsAt_5 : Dc mX11_fitsAt 5 (.bipush 8) 2 7 := ⟨by decide +kernel, rfl⟩
theorem qX11_fitsAt_7 : Dc mX11_fitsAt 7 (.if_icmp .ge 12) 3 10 := ⟨by decide +kernel, rfl⟩
theorem qX11_fitsAt_10 : Dc mX11_fitsAt 10 (.aload_n 0) 1 11 := ⟨by decide +kernel, rfl⟩
theorem qX11_fitsAt_11 : Dc mX11_fitsAt 11 (.getfield 75) 3 14 := ⟨by decide +kernel, rfl⟩
theorem qX11_fitsAt_14 : Dc mX11_fitsAt 14 (.iload_n 1) 1 15 := ⟨by decide +kernel, rfl⟩
theorem qX11_fitsAt_15 : Dc mX11_fitsAt 15 (.iaload) 1 16 := ⟨by decide +kernel, rfl⟩
theorem qX11_fitsAt_16 : Dc mX11_fitsAt 16 (.goto 4) 3 19 := ⟨by decide +kernel, rfl⟩
theorem qX11_fitsAt_19 : Dc mX11_fitsAt 19 (.iconst (-1)) 1 20 := ⟨by decide +kernel, rfl⟩
theorem qX11_fitsAt_20 : Dc mX11_fitsAt 20 (.ireturn) 1 21 := ⟨by decide +kernel, rfl⟩

set_option maxRecDepth 20000 in
set_option maxHeartbeats 4000000 in
theorem w_X11_fitsAt {x1 : Int32} {s0 : St} {r : Int32} (h : f_X11_fitsAt x1 s0 = some r) : Ct mX11_fitsAt 0 [.ref 0, .int x1] s0 (some (.int r), s0) := by
  refine Ct.ofE (by decide +kernel) rfl ?_
  show E mX11_fitsAt 0 (some (.int r), s0) 0 [some (.ref 0), some (.int x1)] [] s0
  unfold f_X11_fitsAt at h
  refine e_iload_n qX11_fitsAt_0 rfl ?_
  refine jn_e (fun j => j = some r → E mX11_fitsAt 0 (some (.int r), s0) 19 [none, none] [] s0) h ?_ (fun j1 hj1 h => ?_)
  · intro h
    refine e_iconst (-1) qX11_fitsAt_19 rfl ?_
    exact e_iret qX11_fitsAt_20 rfl (ret_p h)
  refine e_if_lt (tgt := 19) qX11_fitsAt_1 rfl h (fun _ h => ?_) (fun _ h => ?_)
  · exact e_weak (hj1 h) ⟨Or.inl rfl, Or.inl rfl, trivial⟩
  refine e_iload_n qX11_fitsAt_4 rfl ?_
  refine e_bipush (nI 8) qX11_fitsAt_5 rfl ?_
  refine e_icmp_ge (tgt := 19) qX11_fitsAt_7 rfl h (fun _ h => ?_) (fun _ h => ?_)
  · exact e_weak (hj1 h) ⟨Or.inl rfl, Or.inl rfl, trivial⟩
  refine e_aload_n qX11_fitsAt_10 rfl ?_
  refine e_getr 133 qX11_fitsAt_11 fl_X11_75 shq_0 kdq_10_11 rrq_0_11 ?_
  refine e_iload_n qX11_fitsAt_14 rfl ?_
  refine e_iald qX11_fitsAt_15 shq_133 lnq_133 h (fun v2 h => ?_)
  refine e_goto (tgt := 20) qX11_fitsAt_16 rfl ?_
  exact e_iret qX11_fitsAt_20 rfl (ret_p h)

def f_X11_ask  (s0 : St) : Option (Int32) :=
  vl (s0.1 0 17) fun v1 =>
  some v1

theorem qX11_ask_0 : Dc mX11_ask 0 (.aload_n 0) 1 1 := ⟨by decide +kernel, rfl⟩
theorem qX11_ask_1 : Dc mX11_ask 1 (.getfield 89) 3 4 := ⟨by decide +kernel, rfl⟩
theorem qX11_ask_4 : Dc mX11_ask 4 (.ireturn) 1 5 := ⟨by decide +kernel, rfl⟩

set_option maxRecDepth 20000 in
set_option maxHeartbeats 4000000 in
theorem w_X11_ask  {s0 : St} {r : Int32} (h : f_X11_ask  s0 = some r) : Ct mX11_ask 0 [.ref 0] s0 (some (.int r), s0) := by
  refine Ct.ofE (by decide +kernel) rfl ?_
  show E mX11_ask 0 (some (.int r), s0) 0 [some (.ref 0)] [] s0
  unfold f_X11_ask at h
  refine e_aload_n qX11_ask_0 rfl ?_
  refine e_geti qX11_ask_1 fl_X11_89 shq_0 kdq_10_17 h (fun v1 h => ?_)
  exact e_iret qX11_ask_4 rfl (ret_p h)

def f_X11_spotsAt  (s0 : St) : Option (Int32) :=
  vl (s0.1 0 18) fun v1 =>
  some v1

theorem qX11_spotsAt_0 : Dc mX11_spotsAt 0 (.aload_n 0) 1 1 := ⟨by decide +kernel, rfl⟩
theorem qX11_spotsAt_1 : Dc mX11_spotsAt 1 (.getfield 92) 3 4 := ⟨by decide +kernel, rfl⟩
theorem qX11_spotsAt_4 : Dc mX11_spotsAt 4 (.ireturn) 1 5 := ⟨by decide +kernel, rfl⟩

set_option maxRecDepth 20000 in
set_option maxHeartbeats 4000000 in
theorem w_X11_spotsAt  {s0 : St} {r : Int32} (h : f_X11_spotsAt  s0 = some r) : Ct mX11_spotsAt 0 [.ref 0] s0 (some (.int r), s0) := by
  refine Ct.ofE (by decide +kernel) rfl ?_
  show E mX11_spotsAt 0 (some (.int r), s0) 0 [some (.ref 0)] [] s0
  unfold f_X11_spotsAt at h
  refine e_aload_n qX11_spotsAt_0 rfl ?_
  refine e_geti qX11_spotsAt_1 fl_X11_92 shq_0 kdq_10_18 h (fun v1 h => ?_)
  exact e_iret qX11_spotsAt_4 rfl (ret_p h)

def f_X11_fixAt  (s0 : St) : Option (Int32) :=
  vl (s0.1 0 19) fun v1 =>
  some v1

theorem qX11_fixAt_0 : Dc mX11_fixAt 0 (.aload_n 0) 1 1 := ⟨by decide +kernel, rfl⟩
theorem qX11_fixAt_1 : Dc mX11_fixAt 1 (.getfield 95) 3 4 := ⟨by decide +kernel, rfl⟩
theorem qX11_fixAt_4 : Dc mX11_fixAt 4 (.ireturn) 1 5 := ⟨by decide +kernel, rfl⟩

set_option maxRecDepth 20000 in
set_option maxHeartbeats 4000000 in
theorem w_X11_fixAt  {s0 : St} {r : Int32} (h : f_X11_fixAt  s0 = some r) : Ct mX11_fixAt 0 [.ref 0] s0 (some (.int r), s0) := by
  refine Ct.ofE (by decide +kernel) rfl ?_
  show E mX11_fixAt 0 (some (.int r), s0) 0 [some (.ref 0)] [] s0
  unfold f_X11_fixAt at h
  refine e_aload_n qX11_fixAt_0 rfl ?_
  refine e_geti qX11_fixAt_1 fl_X11_95 shq_0 kdq_10_19 h (fun v1 h => ?_)
  exact e_iret qX11_fixAt_4 rfl (ret_p h)

def f_X11_byteAt (x1 : Int32) (s0 : St) : Option (Int32) :=
  jn (some (-1)) fun j1 =>
  if x1 < 0 then
    j1
  else
  vl (s0.1 0 14) fun v2 =>
  if v2 ≤ x1 then
    j1
  else
  ald (s0.1 135) 32 x1 fun v3 =>
  some v3

theorem qX11_byteAt_0 : Dc mX11_byteAt 0 (.iload_n 1) 1 1 := ⟨by decide +kernel, rfl⟩
theorem qX11_byteAt_1 : Dc mX11_byteAt 1 (.ifCond .lt 20) 3 4 := ⟨by decide +kernel, rfl⟩
theorem qX11_byteAt_4 : Dc mX11_byteAt 4 (.iload_n 1) 1 5 := ⟨by decide +kernel, rfl⟩
theorem qX11_byteAt_5 : Dc mX11_byteAt 5 (.aload_n 0) 1 6 := ⟨by decide +kernel, rfl⟩
theorem qX11_byteAt_6 : Dc mX11_byteAt 6 (.getfield 325) 3 9 := ⟨by decide +kernel, rfl⟩
theorem qX11_byteAt_9 : Dc mX11_byteAt 9 (.if_icmp .ge 12) 3 12 := ⟨by decide +kernel, rfl⟩
theorem qX11_byteAt_12 : Dc mX11_byteAt 12 (.aload_n 0) 1 13 := ⟨by decide +kernel, rfl⟩
theorem qX11_byteAt_13 : Dc mX11_byteAt 13 (.getfield 82) 3 16 := ⟨by decide +kernel, rfl⟩
theorem qX11_byteAt_16 : Dc mX11_byteAt 16 (.iload_n 1) 1 17 := ⟨by decide +kernel, rfl⟩
theorem qX11_byteAt_17 : Dc mX11_byteAt 17 (.iaload) 1 18 := ⟨by decide +kernel, rfl⟩
theorem qX11_byteAt_18 : Dc mX11_byteAt 18 (.goto 4) 3 21 := ⟨by decide +kernel, rfl⟩
theorem qX11_byteAt_21 : Dc mX11_byteAt 21 (.iconst (-1)) 1 22 := ⟨by decide +kernel, rfl⟩
theorem qX11_byteAt_22 : Dc mX11_byteAt 22 (.ireturn) 1 23 := ⟨by decide +kernel, rfl⟩

set_option maxRecDepth 20000 in
set_option maxHeartbeats 4000000 in
theorem w_X11_byteAt {x1 : Int32} {s0 : St} {r : Int32} (h : f_X11_byteAt x1 s0 = some r) : Ct mX11_byteAt 0 [.ref 0, .int x1] s0 (some (.int r), s0) := by
  refine Ct.ofE (by decide +kernel) rfl ?_
  show E mX11_byteAt 0 (some (.int r), s0) 0 [some (.ref 0), some (.int x1)] [] s0
  unfold f_X11_byteAt at h
  refine e_iload_n qX11_byteAt_0 rfl ?_
  refine jn_e (fun j => j = some r → E mX11_byteAt 0 (some (.int r), s0) 21 [none, none] [] s0) h ?_ (fun j1 hj1 h => ?_)
  · intro h
    refine e_iconst (-1) qX11_byteAt_21 rfl ?_
    exact e_iret qX11_byteAt_22 rfl (ret_p h)
  refine e_if_lt (tgt := 21) qX11_byteAt_1 rfl h (fun _ h => ?_) (fun _ h => ?_)
  · exact e_weak (hj1 h) ⟨Or.inl rfl, Or.inl rfl, trivial⟩
  refine e_iload_n qX11_byteAt_4 rfl ?_
  refine e_aload_n qX11_byteAt_5 rfl ?_
  refine e_geti qX11_byteAt_6 fl_X11_325 shq_0 kdq_10_14 h (fun v2 h => ?_)
  refine e_icmp_ge (tgt := 21) qX11_byteAt_9 rfl h (fun _ h => ?_) (fun _ h => ?_)
  · exact e_weak (hj1 h) ⟨Or.inl rfl, Or.inl rfl, trivial⟩
  refine e_aload_n qX11_byteAt_12 rfl ?_
  refine e_getr 135 qX11_byteAt_13 fl_X11_82 shq_0 kdq_10_13 rrq_0_13 ?_
  refine e_iload_n qX11_byteAt_16 rfl ?_
  refine e_iald qX11_byteAt_17 shq_135 lnq_135 h (fun v3 h => ?_)
  refine e_goto (tgt := 22) qX11_byteAt_18 rfl ?_
  exact e_iret qX11_byteAt_22 rfl (ret_p h)

def f_X11_told (x1 : Int32) (s0 : St) : Option (Int32) :=
  jn (some (-1)) fun j1 =>
  if x1 < 0 then
    j1
  else
  if (nI 3) < x1 then
    j1
  else
  ald (s0.1 134) 4 x1 fun v2 =>
  some v2

theorem qX11_told_0 : Dc mX11_told 0 (.iload_n 1) 1 1 := ⟨by decide +kernel, rfl⟩
theorem qX11_told_1 : Dc mX11_told 1 (.ifCond .lt 17) 3 4 := ⟨by decide +kernel, rfl⟩
theorem qX11_told_4 : Dc mX11_told 4 (.iload_n 1) 1 5 := ⟨by decide +kernel, rfl⟩
theorem qX11_told_5 : Dc mX11_told 5 (.iconst 3) 1 6 := ⟨by decide +kernel, rfl⟩
theorem qX11_told_6 : Dc mX11_told 6 (.if_icmp .gt 12) 3 9 := ⟨by decide +kernel, rfl⟩
theorem qX11_told_9 : Dc mX11_told 9 (.aload_n 0) 1 10 := ⟨by decide +kernel, rfl⟩
theorem qX11_told_10 : Dc mX11_told 10 (.getfield 79) 3 13 := ⟨by decide +kernel, rfl⟩
theorem qX11_told_13 : Dc mX11_told 13 (.iload_n 1) 1 14 := ⟨by decide +kernel, rfl⟩
theorem qX11_told_14 : Dc mX11_told 14 (.iaload) 1 15 := ⟨by decide +kernel, rfl⟩
theorem qX11_told_15 : Dc mX11_told 15 (.goto 4) 3 18 := ⟨by decide +kernel, rfl⟩
theorem qX11_told_18 : Dc mX11_told 18 (.iconst (-1)) 1 19 := ⟨by decide +kernel, rfl⟩
theorem qX11_told_19 : Dc mX11_told 19 (.ireturn) 1 20 := ⟨by decide +kernel, rfl⟩

set_option maxRecDepth 20000 in
set_option maxHeartbeats 4000000 in
theorem w_X11_told {x1 : Int32} {s0 : St} {r : Int32} (h : f_X11_told x1 s0 = some r) : Ct mX11_told 0 [.ref 0, .int x1] s0 (some (.int r), s0) := by
  refine Ct.ofE (by decide +kernel) rfl ?_
  show E mX11_told 0 (some (.int r), s0) 0 [some (.ref 0), some (.int x1)] [] s0
  unfold f_X11_told at h
  refine e_iload_n qX11_told_0 rfl ?_
  refine jn_e (fun j => j = some r → E mX11_told 0 (some (.int r), s0) 18 [none, none] [] s0) h ?_ (fun j1 hj1 h => ?_)
  · intro h
    refine e_iconst (-1) qX11_told_18 rfl ?_
    exact e_iret qX11_told_19 rfl (ret_p h)
  refine e_if_lt (tgt := 18) qX11_told_1 rfl h (fun _ h => ?_) (fun _ h => ?_)
  · exact e_weak (hj1 h) ⟨Or.inl rfl, Or.inl rfl, trivial⟩
  refine e_iload_n qX11_told_4 rfl ?_
  refine e_iconst (nI 3) qX11_told_5 rfl ?_
  refine e_icmp_gt (tgt := 18) qX11_told_6 rfl h (fun _ h => ?_) (fun _ h => ?_)
  · exact e_weak (hj1 h) ⟨Or.inl rfl, Or.inl rfl, trivial⟩
  refine e_aload_n qX11_told_9 rfl ?_
  refine e_getr 134 qX11_told_10 fl_X11_79 shq_0 kdq_10_12 rrq_0_12 ?_
  refine e_iload_n qX11_told_13 rfl ?_
  refine e_iald qX11_told_14 shq_134 lnq_134 h (fun v2 h => ?_)
  refine e_goto (tgt := 19) qX11_told_15 rfl ?_
  exact e_iret qX11_told_19 rfl (ret_p h)

def f_X11_count (x1 : Int32) (s0 : St) : Option (Int32) :=
  if x1 = nI 0 then
    vl (s0.1 3 2) fun v1 =>
    some v1
  else
  if x1 = nI 1 then
    vl (s0.1 3 3) fun v2 =>
    some v2
  else
  if x1 = nI 2 then
    vl (s0.1 3 4) fun v3 =>
    some v3
  else
  if x1 = nI 3 then
    vl (s0.1 1 1) fun v4 =>
    some v4
  else
  some (-1)

theorem qX11_count_0 : Dc mX11_count 0 (.iload_n 1) 1 1 := ⟨by decide +kernel, rfl⟩
theorem qX11_count_1 : Dc mX11_count 1 (.tableswitch 63 0 3 #[31, 39, 47, 55]) 31 32 := ⟨by decide +kernel, rfl⟩
theorem qX11_count_32 : Dc mX11_count 32 (.aload_n 0) 1 33 := ⟨by decide +kernel, rfl⟩
theorem qX11_count_33 : Dc mX11_count 33 (.getfield 19) 3 36 := ⟨by decide +kernel, rfl⟩
theorem qX11_count_36 : Dc mX11_count 36 (.getfield 314) 3 39 := ⟨by decide +kernel, rfl⟩
theorem qX11_count_39 : Dc mX11_count 39 (.ireturn) 1 40 := ⟨by decide +kernel, rfl⟩
theorem qX11_count_40 : Dc mX11_count 40 (.aload_n 0) 1 41 := ⟨by decide +kernel, rfl⟩
theorem qX11_count_41 : Dc mX11_count 41 (.getfield 19) 3 44 := ⟨by decide +kernel, rfl⟩
theorem qX11_count_44 : Dc mX11_count 44 (.getfield 390) 3 47 := ⟨by decide +kernel, rfl⟩
theorem qX11_count_47 : Dc mX11_count 47 (.ireturn) 1 48 := ⟨by decide +kernel, rfl⟩
theorem qX11_count_48 : Dc mX11_count 48 (.aload_n 0) 1 49 := ⟨by decide +kernel, rfl⟩
theorem qX11_count_49 : Dc mX11_count 49 (.getfield 19) 3 52 := ⟨by decide +kernel, rfl⟩
theorem qX11_count_52 : Dc mX11_count 52 (.getfield 393) 3 55 := ⟨by decide +kernel, rfl⟩
theorem qX11_count_55 : Dc mX11_count 55 (.ireturn) 1 56 := ⟨by decide +kernel, rfl⟩
theorem qX11_count_56 : Dc mX11_count 56 (.aload_n 0) 1 57 := ⟨by decide +kernel, rfl⟩
theorem qX11_count_57 : Dc mX11_count 57 (.getfield 12) 3 60 := ⟨by decide +kernel, rfl⟩
theorem qX11_count_60 : Dc mX11_count 60 (.getfield 102) 3 63 := ⟨by decide +kernel, rfl⟩
theorem qX11_count_63 : Dc mX11_count 63 (.ireturn) 1 64 := ⟨by decide +kernel, rfl⟩
theorem qX11_count_64 : Dc mX11_count 64 (.iconst (-1)) 1 65 := ⟨by decide +kernel, rfl⟩
theorem qX11_count_65 : Dc mX11_count 65 (.ireturn) 1 66 := ⟨by decide +kernel, rfl⟩

set_option maxRecDepth 20000 in
set_option maxHeartbeats 4000000 in
theorem w_X11_count {x1 : Int32} {s0 : St} {r : Int32} (h : f_X11_count x1 s0 = some r) : Ct mX11_count 0 [.ref 0, .int x1] s0 (some (.int r), s0) := by
  refine Ct.ofE (by decide +kernel) rfl ?_
  show E mX11_count 0 (some (.int r), s0) 0 [some (.ref 0), some (.int x1)] [] s0
  unfold f_X11_count at h
  refine e_iload_n qX11_count_0 rfl ?_
  refine e_ite h (fun hx h => ?_) (fun hx0 h => ?_)
  · refine e_tswk (tgt := 32) qX11_count_1 hx (by decide) (by decide) (by decide) rfl rfl ?_
    refine e_aload_n qX11_count_32 rfl ?_
    refine e_getr 3 qX11_count_33 fl_X11_19 shq_0 kdq_10_1 rrq_0_1 ?_
    refine e_geti qX11_count_36 fl_X11_314 shq_3 kdq_1_2 h (fun v1 h => ?_)
    exact e_iret qX11_count_39 rfl (ret_p h)
  refine e_ite h (fun hx h => ?_) (fun hx1 h => ?_)
  · refine e_tswk (tgt := 40) qX11_count_1 hx (by decide) (by decide) (by decide) rfl rfl ?_
    refine e_aload_n qX11_count_40 rfl ?_
    refine e_getr 3 qX11_count_41 fl_X11_19 shq_0 kdq_10_1 rrq_0_1 ?_
    refine e_geti qX11_count_44 fl_X11_390 shq_3 kdq_1_3 h (fun v2 h => ?_)
    exact e_iret qX11_count_47 rfl (ret_p h)
  refine e_ite h (fun hx h => ?_) (fun hx2 h => ?_)
  · refine e_tswk (tgt := 48) qX11_count_1 hx (by decide) (by decide) (by decide) rfl rfl ?_
    refine e_aload_n qX11_count_48 rfl ?_
    refine e_getr 3 qX11_count_49 fl_X11_19 shq_0 kdq_10_1 rrq_0_1 ?_
    refine e_geti qX11_count_52 fl_X11_393 shq_3 kdq_1_4 h (fun v3 h => ?_)
    exact e_iret qX11_count_55 rfl (ret_p h)
  refine e_ite h (fun hx h => ?_) (fun hx3 h => ?_)
  · refine e_tswk (tgt := 56) qX11_count_1 hx (by decide) (by decide) (by decide) rfl rfl ?_
    refine e_aload_n qX11_count_56 rfl ?_
    refine e_getr 1 qX11_count_57 fl_X11_12 shq_0 kdq_10_0 rrq_0_0 ?_
    refine e_geti qX11_count_60 fl_X11_102 shq_1 kdq_9_1 h (fun v4 h => ?_)
    exact e_iret qX11_count_63 rfl (ret_p h)
  refine e_tswo (tgt := 64) qX11_count_1 (tsw_def (lo := 0) (n := 4) (by decide) (lt_s (lt_s (lt_s (lt_s lt_0 hx0) hx1) hx2) hx3)) rfl ?_
  refine e_iconst (-1) qX11_count_64 rfl ?_
  exact e_iret qX11_count_65 rfl (ret_p h)

def f_X11_isLight (x1 : Int32) (s0 : St) : Option (Int32) :=
  jn (some (nI 0)) fun j1 =>
  if x1 < 0 then
    j1
  else
  vl (s0.1 3 2) fun v2 =>
  if v2 ≤ x1 then
    j1
  else
  some (nI 1)

theorem qX11_isLight_0 : Dc mX11_isLight 0 (.iload_n 1) 1 1 := ⟨by decide +kernel, rfl⟩
theorem qX11_isLight_1 : Dc mX11_isLight 1 (.ifCond .lt 18) 3 4 := ⟨by decide +kernel, rfl⟩
theorem qX11_isLight_4 : Dc mX11_isLight 4 (.iload_n 1) 1 5 := ⟨by decide +kernel, rfl⟩
theorem qX11_isLight_5 : Dc mX11_isLight 5 (.aload_n 0) 1 6 := ⟨by decide +kernel, rfl⟩
theorem qX11_isLight_6 : Dc mX11_isLight 6 (.getfield 19) 3 9 := ⟨by decide +kernel, rfl⟩
theorem qX11_isLight_9 : Dc mX11_isLight 9 (.getfield 314) 3 12 := ⟨by decide +kernel, rfl⟩
theorem qX11_isLight_12 : Dc mX11_isLight 12 (.if_icmp .ge 7) 3 15 := ⟨by decide +kernel, rfl⟩
theorem qX11_isLight_15 : Dc mX11_isLight 15 (.iconst 1) 1 16 := ⟨by decide +kernel, rfl⟩
theorem qX11_isLight_16 : Dc mX11_isLight 16 (.goto 4) 3 19 := ⟨by decide +kernel, rfl⟩
theorem qX11_isLight_19 : Dc mX11_isLight 19 (.iconst 0) 1 20 := ⟨by decide +kernel, rfl⟩
theorem qX11_isLight_20 : Dc mX11_isLight 20 (.ireturn) 1 21 := ⟨by decide +kernel, rfl⟩

set_option maxRecDepth 20000 in
set_option maxHeartbeats 4000000 in
theorem w_X11_isLight {x1 : Int32} {s0 : St} {r : Int32} (h : f_X11_isLight x1 s0 = some r) : Ct mX11_isLight 0 [.ref 0, .int x1] s0 (some (.int r), s0) := by
  refine Ct.ofE (by decide +kernel) rfl ?_
  show E mX11_isLight 0 (some (.int r), s0) 0 [some (.ref 0), some (.int x1)] [] s0
  unfold f_X11_isLight at h
  refine e_iload_n qX11_isLight_0 rfl ?_
  refine jn_e (fun j => j = some r → E mX11_isLight 0 (some (.int r), s0) 19 [none, none] [] s0) h ?_ (fun j1 hj1 h => ?_)
  · intro h
    refine e_iconst (nI 0) qX11_isLight_19 rfl ?_
    exact e_zret qX11_isLight_20 rfl (by decide) (ret_p h)
  refine e_if_lt (tgt := 19) qX11_isLight_1 rfl h (fun _ h => ?_) (fun _ h => ?_)
  · exact e_weak (hj1 h) ⟨Or.inl rfl, Or.inl rfl, trivial⟩
  refine e_iload_n qX11_isLight_4 rfl ?_
  refine e_aload_n qX11_isLight_5 rfl ?_
  refine e_getr 3 qX11_isLight_6 fl_X11_19 shq_0 kdq_10_1 rrq_0_1 ?_
  refine e_geti qX11_isLight_9 fl_X11_314 shq_3 kdq_1_2 h (fun v2 h => ?_)
  refine e_icmp_ge (tgt := 19) qX11_isLight_12 rfl h (fun _ h => ?_) (fun _ h => ?_)
  · exact e_weak (hj1 h) ⟨Or.inl rfl, Or.inl rfl, trivial⟩
  refine e_iconst (nI 1) qX11_isLight_15 rfl ?_
  refine e_goto (tgt := 20) qX11_isLight_16 rfl ?_
  exact e_zret qX11_isLight_20 rfl (by decide) (ret_p h)

def f_X11_isShip (x1 : Int32) (s0 : St) : Option (Int32) :=
  jn (some (nI 0)) fun j1 =>
  if x1 < 0 then
    j1
  else
  vl (s0.1 3 3) fun v2 =>
  if v2 ≤ x1 then
    j1
  else
  some (nI 1)

theorem qX11_isShip_0 : Dc mX11_isShip 0 (.iload_n 1) 1 1 := ⟨by decide +kernel, rfl⟩
theorem qX11_isShip_1 : Dc mX11_isShip 1 (.ifCond .lt 18) 3 4 := ⟨by decide +kernel, rfl⟩
theorem qX11_isShip_4 : Dc mX11_isShip 4 (.iload_n 1) 1 5 := ⟨by decide +kernel, rfl⟩
theorem qX11_isShip_5 : Dc mX11_isShip 5 (.aload_n 0) 1 6 := ⟨by decide +kernel, rfl⟩
theorem qX11_isShip_6 : Dc mX11_isShip 6 (.getfield 19) 3 9 := ⟨by decide +kernel, rfl⟩
theorem qX11_isShip_9 : Dc mX11_isShip 9 (.getfield 390) 3 12 := ⟨by decide +kernel, rfl⟩
theorem qX11_isShip_12 : Dc mX11_isShip 12 (.if_icmp .ge 7) 3 15 := ⟨by decide +kernel, rfl⟩
theorem qX11_isShip_15 : Dc mX11_isShip 15 (.iconst 1) 1 16 := ⟨by decide +kernel, rfl⟩
theorem qX11_isShip_16 : Dc mX11_isShip 16 (.goto 4) 3 19 := ⟨by decide +kernel, rfl⟩
theorem qX11_isShip_19 : Dc mX11_isShip 19 (.iconst 0) 1 20 := ⟨by decide +kernel, rfl⟩
theorem qX11_isShip_20 : Dc mX11_isShip 20 (.ireturn) 1 21 := ⟨by decide +kernel, rfl⟩

set_option maxRecDepth 20000 in
set_option maxHeartbeats 4000000 in
theorem w_X11_isShip {x1 : Int32} {s0 : St} {r : Int32} (h : f_X11_isShip x1 s0 = some r) : Ct mX11_isShip 0 [.ref 0, .int x1] s0 (some (.int r), s0) := by
  refine Ct.ofE (by decide +kernel) rfl ?_
  show E mX11_isShip 0 (some (.int r), s0) 0 [some (.ref 0), some (.int x1)] [] s0
  unfold f_X11_isShip at h
  refine e_iload_n qX11_isShip_0 rfl ?_
  refine jn_e (fun j => j = some r → E mX11_isShip 0 (some (.int r), s0) 19 [none, none] [] s0) h ?_ (fun j1 hj1 h => ?_)
  · intro h
    refine e_iconst (nI 0) qX11_isShip_19 rfl ?_
    exact e_zret qX11_isShip_20 rfl (by decide) (ret_p h)
  refine e_if_lt (tgt := 19) qX11_isShip_1 rfl h (fun _ h => ?_) (fun _ h => ?_)
  · exact e_weak (hj1 h) ⟨Or.inl rfl, Or.inl rfl, trivial⟩
  refine e_iload_n qX11_isShip_4 rfl ?_
  refine e_aload_n qX11_isShip_5 rfl ?_
  refine e_getr 3 qX11_isShip_6 fl_X11_19 shq_0 kdq_10_1 rrq_0_1 ?_
  refine e_geti qX11_isShip_9 fl_X11_390 shq_3 kdq_1_3 h (fun v2 h => ?_)
  refine e_icmp_ge (tgt := 19) qX11_isShip_12 rfl h (fun _ h => ?_) (fun _ h => ?_)
  · exact e_weak (hj1 h) ⟨Or.inl rfl, Or.inl rfl, trivial⟩
  refine e_iconst (nI 1) qX11_isShip_15 rfl ?_
  refine e_goto (tgt := 20) qX11_isShip_16 rfl ?_
  exact e_zret qX11_isShip_20 rfl (by decide) (ret_p h)

def f_X11_isCell (x0 : Int32) (x1 : Int32) (s0 : St) : Option (Int32) :=
  jn (some (nI 0)) fun j1 =>
  if x0 < 0 then
    j1
  else
  if (nI 20) ≤ x0 then
    j1
  else
  if x1 < 0 then
    j1
  else
  if (nI 20) ≤ x1 then
    j1
  else
  some (nI 1)

theorem qX11_isCell_0 : Dc mX11_isCell 0 (.iload_n 0) 1 1 := ⟨by decide +kernel, rfl⟩
theorem qX11_isCell_1 : Dc mX11_isCell 1 (.ifCond .lt 23) 3 4 := ⟨by decide +kernel, rfl⟩
theorem qX11_isCell_4 : Dc mX11_isCell 4 (.iload_n 0) 1 5 := ⟨by decide +kernel, rfl⟩
theorem qX11_isCell_5 : Dc mX11_isCell 5 (.bipush 20) 2 7 := ⟨by decide +kernel, rfl⟩
theorem qX11_isCell_7 : Dc mX11_isCell 7 (.if_icmp .ge 17) 3 10 := ⟨by decide +kernel, rfl⟩
theorem qX11_isCell_10 : Dc mX11_isCell 10 (.iload_n 1) 1 11 := ⟨by decide +kernel, rfl⟩
theorem qX11_isCell_11 : Dc mX11_isCell 11 (.ifCond .lt 13) 3 14 := ⟨by decide +kernel, rfl⟩
theorem qX11_isCell_14 : Dc mX11_isCell 14 (.iload_n 1) 1 15 := ⟨by decide +kernel, rfl⟩
theorem qX11_isCell_15 : Dc mX11_isCell 15 (.bipush 20) 2 17 := ⟨by decide +kernel, rfl⟩
theorem qX11_isCell_17 : Dc mX11_isCell 17 (.if_icmp .ge 7) 3 20 := ⟨by decide +kernel, rfl⟩
theorem qX11_isCell_20 : Dc mX11_isCell 20 (.iconst 1) 1 21 := ⟨by decide +kernel, rfl⟩
theorem qX11_isCell_21 : Dc mX11_isCell 21 (.goto 4) 3 24 := ⟨by decide +kernel, rfl⟩
theorem qX11_isCell_24 : Dc mX11_isCell 24 (.iconst 0) 1 25 := ⟨by decide +kernel, rfl⟩
theorem qX11_isCell_25 : Dc mX11_isCell 25 (.ireturn) 1 26 := ⟨by decide +kernel, rfl⟩

set_option maxRecDepth 20000 in
set_option maxHeartbeats 4000000 in
theorem w_X11_isCell {x0 : Int32} {x1 : Int32} {s0 : St} {r : Int32} (h : f_X11_isCell x0 x1 s0 = some r) : Ct mX11_isCell 0 [.int x0, .int x1] s0 (some (.int r), s0) := by
  refine Ct.ofE (by decide +kernel) rfl ?_
  show E mX11_isCell 0 (some (.int r), s0) 0 [some (.int x0), some (.int x1)] [] s0
  unfold f_X11_isCell at h
  refine e_iload_n qX11_isCell_0 rfl ?_
  refine jn_e (fun j => j = some r → E mX11_isCell 0 (some (.int r), s0) 24 [none, none] [] s0) h ?_ (fun j1 hj1 h => ?_)
  · intro h
    refine e_iconst (nI 0) qX11_isCell_24 rfl ?_
    exact e_zret qX11_isCell_25 rfl (by decide) (ret_p h)
  refine e_if_lt (tgt := 24) qX11_isCell_1 rfl h (fun _ h => ?_) (fun _ h => ?_)
  · exact e_weak (hj1 h) ⟨Or.inl rfl, Or.inl rfl, trivial⟩
  refine e_iload_n qX11_isCell_4 rfl ?_
  refine e_bipush (nI 20) qX11_isCell_5 rfl ?_
  refine e_icmp_ge (tgt := 24) qX11_isCell_7 rfl h (fun _ h => ?_) (fun _ h => ?_)
  · exact e_weak (hj1 h) ⟨Or.inl rfl, Or.inl rfl, trivial⟩
  refine e_iload_n qX11_isCell_10 rfl ?_
  refine e_if_lt (tgt := 24) qX11_isCell_11 rfl h (fun _ h => ?_) (fun _ h => ?_)
  · exact e_weak (hj1 h) ⟨Or.inl rfl, Or.inl rfl, trivial⟩
  refine e_iload_n qX11_isCell_14 rfl ?_
  refine e_bipush (nI 20) qX11_isCell_15 rfl ?_
  refine e_icmp_ge (tgt := 24) qX11_isCell_17 rfl h (fun _ h => ?_) (fun _ h => ?_)
  · exact e_weak (hj1 h) ⟨Or.inl rfl, Or.inl rfl, trivial⟩
  refine e_iconst (nI 1) qX11_isCell_20 rfl ?_
  refine e_goto (tgt := 25) qX11_isCell_21 rfl ?_
  exact e_zret qX11_isCell_25 rfl (by decide) (ret_p h)

def f_X11_remainder (x0 : Int32) (x1 : Int32) (s0 : St) : Option (Int32) :=
  if x1 ≤ 0 then
    some (nI 0)
  else
  rm_ x0 x1 fun v1 =>
  some v1

theorem qX11_remainder_0 : Dc mX11_remainder 0 (.iload_n 1) 1 1 := ⟨by decide +kernel, rfl⟩
theorem qX11_remainder_1 : Dc mX11_remainder 1 (.ifCond .le 9) 3 4 := ⟨by decide +kernel, rfl⟩
theorem qX11_remainder_4 : Dc mX11_remainder 4 (.iload_n 0) 1 5 := ⟨by decide +kernel, rfl⟩
theorem qX11_remainder_5 : Dc mX11_remainder 5 (.iload_n 1) 1 6 := ⟨by decide +kernel, rfl⟩
theorem qX11_remainder_6 : Dc mX11_remainder 6 (.irem) 1 7 := ⟨by decide +kernel, rfl⟩
theorem qX11_remainder_7 : Dc mX11_remainder 7 (.goto 4) 3 10 := ⟨by decide +kernel, rfl⟩
theorem qX11_remainder_10 : Dc mX11_remainder 10 (.iconst 0) 1 11 := ⟨by decide +kernel, rfl⟩
theorem qX11_remainder_11 : Dc mX11_remainder 11 (.ireturn) 1 12 := ⟨by decide +kernel, rfl⟩

set_option maxRecDepth 20000 in
set_option maxHeartbeats 4000000 in
theorem w_X11_remainder {x0 : Int32} {x1 : Int32} {s0 : St} {r : Int32} (h : f_X11_remainder x0 x1 s0 = some r) : Ct mX11_remainder 0 [.int x0, .int x1] s0 (some (.int r), s0) := by
  refine Ct.ofE (by decide +kernel) rfl ?_
  show E mX11_remainder 0 (some (.int r), s0) 0 [some (.int x0), some (.int x1)] [] s0
  unfold f_X11_remainder at h
  refine e_iload_n qX11_remainder_0 rfl ?_
  refine e_if_le (tgt := 10) qX11_remainder_1 rfl h (fun _ h => ?_) (fun _ h => ?_)
  · refine e_iconst (nI 0) qX11_remainder_10 rfl ?_
    exact e_iret qX11_remainder_11 rfl (ret_p h)
  refine e_iload_n qX11_remainder_4 rfl ?_
  refine e_iload_n qX11_remainder_5 rfl ?_
  refine e_irem qX11_remainder_6 h (fun v1 h => ?_)
  refine e_goto (tgt := 11) qX11_remainder_7 rfl ?_
  exact e_iret qX11_remainder_11 rfl (ret_p h)

def f_X11_octantOf (x0 : Int32) (x1 : Int32) (s0 : St) : Option (Int32) :=
  jn (jn (jn (jn (jn (jn (jn (if 0 ≤ x1 then
                  some (-1)
                else
                if x0 < (-x1) then
                  some (-1)
                else
                some (nI 7)) fun j7 =>
              if x0 < 0 then
                j7
              else
              if (-x1) ≤ x0 then
                j7
              else
              some (nI 6)) fun j6 =>
            if 0 ≤ x0 then
              j6
            else
            if x0 < x1 then
              j6
            else
            some (nI 5)) fun j5 =>
          if 0 < x1 then
            j5
          else
          if x1 ≤ x0 then
            j5
          else
          some (nI 4)) fun j4 =>
        if x1 ≤ 0 then
          j4
        else
        if (-x0) < x1 then
          j4
        else
        some (nI 3)) fun j3 =>
      if 0 < x0 then
        j3
      else
      if x1 ≤ (-x0) then
        j3
      else
      some (nI 2)) fun j2 =>
    if x0 ≤ 0 then
      j2
    else
    if x1 < x0 then
      j2
    else
    some (nI 1)) fun j1 =>
  if x1 < 0 then
    j1
  else
  if x0 ≤ x1 then
    j1
  else
  some (nI 0)

theorem qX11_octantOf_0 : Dc mX11_octantOf 0 (.iload_n 1) 1 1 := ⟨by decide +kernel, rfl⟩
theorem qX11_octantOf_1 : Dc mX11_octantOf 1 (.ifCond .lt 10) 3 4 := ⟨by decide +kernel, rfl⟩
theorem qX11_octantOf_4 : Dc mX11_octantOf 4 (.iload_n 0) 1 5 := ⟨by decide +kernel, rfl⟩
theorem qX11_octantOf_5 : Dc mX11_octantOf 5 (.iload_n 1) 1 6 := ⟨by decide +kernel, rfl⟩
theorem qX11_octantOf_6 : Dc mX11_octantOf 6 (.if_icmp .le 5) 3 9 := ⟨by decide +kernel, rfl⟩
theorem qX11_octantOf_9 : Dc mX11_octantOf 9 (.iconst 0) 1 10 := ⟨by decide +kernel, rfl⟩
theorem qX11_octantOf_10 : Dc mX11_octantOf 10 (.ireturn) 1 11 := ⟨by decide +kernel, rfl⟩
theorem qX11_octantOf_11 : Dc mX11_octantOf 11 (.iload_n 0) 1 12 := ⟨by decide +kernel, rfl⟩
theorem qX11_octantOf_12 : Dc mX11_octantOf 12 (.ifCond .le 10) 3 15 := ⟨by decide +kernel, rfl⟩
theorem qX11_octantOf_15 : Dc mX11_octantOf 15 (.iload_n 1) 1 16 := ⟨by decide +kernel, rfl⟩
theorem qX11_octantOf_16 : Dc mX11_octantOf 16 (.iload_n 0) 1 17 := ⟨by decide +kernel, rfl⟩
theorem qX11_octantOf_17 : Dc mX11_octantOf 17 (.if_icmp .lt 5) 3 20 := ⟨by decide +kernel, rfl⟩
theorem qX11_octantOf_20 : Dc mX11_octantOf 20 (.iconst 1) 1 21 := ⟨by decide +kernel, rfl⟩
theorem qX11_octantOf_21 : Dc mX11_octantOf 21 (.ireturn) 1 22 := ⟨by decide +kernel, rfl⟩
theorem qX11_octantOf_22 : Dc mX11_octantOf 22 (.iload_n 0) 1 23 := ⟨by decide +kernel, rfl⟩
theorem qX11_octantOf_23 : Dc mX11_octantOf 23 (.ifCond .gt 11) 3 26 := ⟨by decide +kernel, rfl⟩
theorem qX11_octantOf_26 : Dc mX11_octantOf 26 (.iload_n 1) 1 27 := ⟨by decide +kernel, rfl⟩
theorem qX11_octantOf_27 : Dc mX11_octantOf 27 (.iload_n 0) 1 28 := ⟨by decide +kernel, rfl⟩
theorem qX11_octantOf_28 : Dc mX11_octantOf 28 (.ineg) 1 29 := ⟨by decide +kernel, rfl⟩
theorem qX11_octantOf_29 : Dc mX11_octantOf 29 (.if_icmp .le 5) 3 32 := ⟨by decide +kernel, rfl⟩
theorem qX11_octantOf_32 : Dc mX11_octantOf 32 (.iconst 2) 1 33 := ⟨by decide +kernel, rfl⟩
theorem qX11_octantOf_33 : Dc mX11_octantOf 33 (.ireturn) 1 34 := ⟨by decide +kernel, rfl⟩
theorem qX11_octantOf_34 : Dc mX11_octantOf 34 (.iload_n 1) 1 35 := ⟨by decide +kernel, rfl⟩
theorem qX11_octantOf_35 : Dc mX11_octantOf 35 (.ifCond .le 11) 3 38 := ⟨by decide +kernel, rfl⟩
theorem qX11_octantOf_38 : Dc mX11_octantOf 38 (.iload_n 1) 1 39 := ⟨by decide +kernel, rfl⟩
theorem qX11_octantOf_39 : Dc mX11_octantOf 39 (.iload_n 0) 1 40 := ⟨by decide +kernel, rfl⟩
theorem qX11_octantOf_40 : Dc mX11_octantOf 40 (.ineg) 1 41 := ⟨by decide +kernel, rfl⟩
theorem qX11_octantOf_41 : Dc mX11_octantOf 41 (.if_icmp .gt 5) 3 44 := ⟨by decide +kernel, rfl⟩
theorem qX11_octantOf_44 : Dc mX11_octantOf 44 (.iconst 3) 1 45 := ⟨by decide +kernel, rfl⟩
theorem qX11_octantOf_45 : Dc mX11_octantOf 45 (.ireturn) 1 46 := ⟨by decide +kernel, rfl⟩
theorem qX11_octantOf_46 : Dc mX11_octantOf 46 (.iload_n 1) 1 47 := ⟨by decide +kernel, rfl⟩
theorem qX11_octantOf_47 : Dc mX11_octantOf 47 (.ifCond .gt 10) 3 50 := ⟨by decide +kernel, rfl⟩
theorem qX11_octantOf_50 : Dc mX11_octantOf 50 (.iload_n 0) 1 51 := ⟨by decide +kernel, rfl⟩
theorem qX11_octantOf_51 : Dc mX11_octantOf 51 (.iload_n 1) 1 52 := ⟨by decide +kernel, rfl⟩
theorem qX11_octantOf_52 : Dc mX11_octantOf 52 (.if_icmp .ge 5) 3 55 := ⟨by decide +kernel, rfl⟩
theorem qX11_octantOf_55 : Dc mX11_octantOf 55 (.iconst 4) 1 56 := ⟨by decide +kernel, rfl⟩
theorem qX11_octantOf_56 : Dc mX11_octantOf 56 (.ireturn) 1 57 := ⟨by decide +kernel, rfl⟩
theorem qX11_octantOf_57 : Dc mX11_octantOf 57 (.iload_n 0) 1 58 := ⟨by decide +kernel, rfl⟩
theorem qX11_octantOf_58 : Dc mX11_octantOf 58 (.ifCond .ge 10) 3 61 := ⟨by decide +kernel, rfl⟩
theorem qX11_octantOf_61 : Dc mX11_octantOf 61 (.iload_n 1) 1 62 := ⟨by decide +kernel, rfl⟩
theorem qX11_octantOf_62 : Dc mX11_octantOf 62 (.iload_n 0) 1 63 := ⟨by decide +kernel, rfl⟩
theorem qX11_octantOf_63 : Dc mX11_octantOf 63 (.if_icmp .gt 5) 3 66 := ⟨by decide +kernel, rfl⟩
theorem qX11_octantOf_66 : Dc mX11_octantOf 66 (.iconst 5) 1 67 := ⟨by decide +kernel, rfl⟩
theorem qX11_octantOf_67 : Dc mX11_octantOf 67 (.ireturn) 1 68 := ⟨by decide +kernel, rfl⟩
theorem qX11_octantOf_68 : Dc mX11_octantOf 68 (.iload_n 0) 1 69 := ⟨by decide +kernel, rfl⟩
theorem qX11_octantOf_69 : Dc mX11_octantOf 69 (.ifCond .lt 12) 3 72 := ⟨by decide +kernel, rfl⟩
theorem qX11_octantOf_72 : Dc mX11_octantOf 72 (.iload_n 1) 1 73 := ⟨by decide +kernel, rfl⟩
theorem qX11_octantOf_73 : Dc mX11_octantOf 73 (.ineg) 1 74 := ⟨by decide +kernel, rfl⟩
theorem qX11_octantOf_74 : Dc mX11_octantOf 74 (.iload_n 0) 1 75 := ⟨by decide +kernel, rfl⟩
theorem qX11_octantOf_75 : Dc mX11_octantOf 75 (.if_icmp .le 6) 3 78 := ⟨by decide +kernel, rfl⟩
theorem qX11_octantOf_78 : Dc mX11_octantOf 78 (.bipush 6) 2 80 := ⟨by decide +kernel, rfl⟩
theorem qX11_octantOf_80 : Dc mX11_octantOf 80 (.ireturn) 1 81 := ⟨by decide +kernel, rfl⟩
theorem qX11_octantOf_81 : Dc mX11_octantOf 81 (.iload_n 1) 1 82 := ⟨by decide +kernel, rfl⟩
theorem qX11_octantOf_82 : Dc mX11_octantOf 82 (.ifCond .ge 12) 3 85 := ⟨by decide +kernel, rfl⟩
theorem qX11_octantOf_85 : Dc mX11_octantOf 85 (.iload_n 1) 1 86 := ⟨by decide +kernel, rfl⟩
theorem qX11_octantOf_86 : Dc mX11_octantOf 86 (.ineg) 1 87 := ⟨by decide +kernel, rfl⟩
theorem qX11_octantOf_87 : Dc mX11_octantOf 87 (.iload_n 0) 1 88 := ⟨by decide +kernel, rfl⟩
theorem qX11_octantOf_88 : Dc mX11_octantOf 88 (.if_icmp .gt 6) 3 91 := ⟨by decide +kernel, rfl⟩
theorem qX11_octantOf_91 : Dc mX11_octantOf 91 (.bipush 7) 2 93 := ⟨by decide +kernel, rfl⟩
theorem qX11_octantOf_93 : Dc mX11_octantOf 93 (.ireturn) 1 94 := ⟨by decide +kernel, rfl⟩
theorem qX11_octantOf_94 : Dc mX11_octantOf 94 (.iconst (-1)) 1 95 := ⟨by decide +kernel, rfl⟩
theorem qX11_octantOf_95 : Dc mX11_octantOf 95 (.ireturn) 1 96 := ⟨by decide +kernel, rfl⟩

set_option maxRecDepth 20000 in
set_option maxHeartbeats 4000000 in
theorem w_X11_octantOf {x0 : Int32} {x1 : Int32} {s0 : St} {r : Int32} (h : f_X11_octantOf x0 x1 s0 = some r) : Ct mX11_octantOf 0 [.int x0, .int x1] s0 (some (.int r), s0) := by
  refine Ct.ofE (by decide +kernel) rfl ?_
  show E mX11_octantOf 0 (some (.int r), s0) 0 [some (.int x0), some (.int x1)] [] s0
  unfold f_X11_octantOf at h
  refine e_iload_n qX11_octantOf_0 rfl ?_
  refine jn_e (fun j => j = some r → E mX11_octantOf 0 (some (.int r), s0) 11 [some (.int x0), some (.int x1)] [] s0) h ?_ (fun j1 hj1 h => ?_)
  · intro h
    refine e_iload_n qX11_octantOf_11 rfl ?_
    refine jn_e (fun j => j = some r → E mX11_octantOf 0 (some (.int r), s0) 22 [some (.int x0), some (.int x1)] [] s0) h ?_ (fun j2 hj2 h => ?_)
    · intro h
      refine e_iload_n qX11_octantOf_22 rfl ?_
      refine jn_e (fun j => j = some r → E mX11_octantOf 0 (some (.int r), s0) 34 [some (.int x0), some (.int x1)] [] s0) h ?_ (fun j3 hj3 h => ?_)
      · intro h
        refine e_iload_n qX11_octantOf_34 rfl ?_
        refine jn_e (fun j => j = some r → E mX11_octantOf 0 (some (.int r), s0) 46 [some (.int x0), some (.int x1)] [] s0) h ?_ (fun j4 hj4 h => ?_)
        · intro h
          refine e_iload_n qX11_octantOf_46 rfl ?_
          refine jn_e (fun j => j = some r → E mX11_octantOf 0 (some (.int r), s0) 57 [some (.int x0), some (.int x1)] [] s0) h ?_ (fun j5 hj5 h => ?_)
          · intro h
            refine e_iload_n qX11_octantOf_57 rfl ?_
            refine jn_e (fun j => j = some r → E mX11_octantOf 0 (some (.int r), s0) 68 [some (.int x0), some (.int x1)] [] s0) h ?_ (fun j6 hj6 h => ?_)
            · intro h
              refine e_iload_n qX11_octantOf_68 rfl ?_
              refine jn_e (fun j => j = some r → E mX11_octantOf 0 (some (.int r), s0) 81 [some (.int x0), some (.int x1)] [] s0) h ?_ (fun j7 hj7 h => ?_)
              · intro h
                refine e_iload_n qX11_octantOf_81 rfl ?_
                refine e_if_ge (tgt := 94) qX11_octantOf_82 rfl h (fun _ h => ?_) (fun _ h => ?_)
                · refine e_iconst (-1) qX11_octantOf_94 rfl ?_
                  exact e_iret qX11_octantOf_95 rfl (ret_p h)
                refine e_iload_n qX11_octantOf_85 rfl ?_
                refine e_ineg qX11_octantOf_86 ?_
                refine e_iload_n qX11_octantOf_87 rfl ?_
                refine e_icmp_gt (tgt := 94) qX11_octantOf_88 rfl h (fun _ h => ?_) (fun _ h => ?_)
                · refine e_iconst (-1) qX11_octantOf_94 rfl ?_
                  exact e_iret qX11_octantOf_95 rfl (ret_p h)
                refine e_bipush (nI 7) qX11_octantOf_91 rfl ?_
                exact e_iret qX11_octantOf_93 rfl (ret_p h)
              refine e_if_lt (tgt := 81) qX11_octantOf_69 rfl h (fun _ h => ?_) (fun _ h => ?_)
              · exact e_weak (hj7 h) ⟨Or.inr rfl, Or.inr rfl, trivial⟩
              refine e_iload_n qX11_octantOf_72 rfl ?_
              refine e_ineg qX11_octantOf_73 ?_
              refine e_iload_n qX11_octantOf_74 rfl ?_
              refine e_icmp_le (tgt := 81) qX11_octantOf_75 rfl h (fun _ h => ?_) (fun _ h => ?_)
              · exact e_weak (hj7 h) ⟨Or.inr rfl, Or.inr rfl, trivial⟩
              refine e_bipush (nI 6) qX11_octantOf_78 rfl ?_
              exact e_iret qX11_octantOf_80 rfl (ret_p h)
            refine e_if_ge (tgt := 68) qX11_octantOf_58 rfl h (fun _ h => ?_) (fun _ h => ?_)
            · exact e_weak (hj6 h) ⟨Or.inr rfl, Or.inr rfl, trivial⟩
            refine e_iload_n qX11_octantOf_61 rfl ?_
            refine e_iload_n qX11_octantOf_62 rfl ?_
            refine e_icmp_gt (tgt := 68) qX11_octantOf_63 rfl h (fun _ h => ?_) (fun _ h => ?_)
            · exact e_weak (hj6 h) ⟨Or.inr rfl, Or.inr rfl, trivial⟩
            refine e_iconst (nI 5) qX11_octantOf_66 rfl ?_
            exact e_iret qX11_octantOf_67 rfl (ret_p h)
          refine e_if_gt (tgt := 57) qX11_octantOf_47 rfl h (fun _ h => ?_) (fun _ h => ?_)
          · exact e_weak (hj5 h) ⟨Or.inr rfl, Or.inr rfl, trivial⟩
          refine e_iload_n qX11_octantOf_50 rfl ?_
          refine e_iload_n qX11_octantOf_51 rfl ?_
          refine e_icmp_ge (tgt := 57) qX11_octantOf_52 rfl h (fun _ h => ?_) (fun _ h => ?_)
          · exact e_weak (hj5 h) ⟨Or.inr rfl, Or.inr rfl, trivial⟩
          refine e_iconst (nI 4) qX11_octantOf_55 rfl ?_
          exact e_iret qX11_octantOf_56 rfl (ret_p h)
        refine e_if_le (tgt := 46) qX11_octantOf_35 rfl h (fun _ h => ?_) (fun _ h => ?_)
        · exact e_weak (hj4 h) ⟨Or.inr rfl, Or.inr rfl, trivial⟩
        refine e_iload_n qX11_octantOf_38 rfl ?_
        refine e_iload_n qX11_octantOf_39 rfl ?_
        refine e_ineg qX11_octantOf_40 ?_
        refine e_icmp_gt (tgt := 46) qX11_octantOf_41 rfl h (fun _ h => ?_) (fun _ h => ?_)
        · exact e_weak (hj4 h) ⟨Or.inr rfl, Or.inr rfl, trivial⟩
        refine e_iconst (nI 3) qX11_octantOf_44 rfl ?_
        exact e_iret qX11_octantOf_45 rfl (ret_p h)
      refine e_if_gt (tgt := 34) qX11_octantOf_23 rfl h (fun _ h => ?_) (fun _ h => ?_)
      · exact e_weak (hj3 h) ⟨Or.inr rfl, Or.inr rfl, trivial⟩
      refine e_iload_n qX11_octantOf_26 rfl ?_
      refine e_iload_n qX11_octantOf_27 rfl ?_
      refine e_ineg qX11_octantOf_28 ?_
      refine e_icmp_le (tgt := 34) qX11_octantOf_29 rfl h (fun _ h => ?_) (fun _ h => ?_)
      · exact e_weak (hj3 h) ⟨Or.inr rfl, Or.inr rfl, trivial⟩
      refine e_iconst (nI 2) qX11_octantOf_32 rfl ?_
      exact e_iret qX11_octantOf_33 rfl (ret_p h)
    refine e_if_le (tgt := 22) qX11_octantOf_12 rfl h (fun _ h => ?_) (fun _ h => ?_)
    · exact e_weak (hj2 h) ⟨Or.inr rfl, Or.inr rfl, trivial⟩
    refine e_iload_n qX11_octantOf_15 rfl ?_
    refine e_iload_n qX11_octantOf_16 rfl ?_
    refine e_icmp_lt (tgt := 22) qX11_octantOf_17 rfl h (fun _ h => ?_) (fun _ h => ?_)
    · exact e_weak (hj2 h) ⟨Or.inr rfl, Or.inr rfl, trivial⟩
    refine e_iconst (nI 1) qX11_octantOf_20 rfl ?_
    exact e_iret qX11_octantOf_21 rfl (ret_p h)
  refine e_if_lt (tgt := 11) qX11_octantOf_1 rfl h (fun _ h => ?_) (fun _ h => ?_)
  · exact e_weak (hj1 h) ⟨Or.inr rfl, Or.inr rfl, trivial⟩
  refine e_iload_n qX11_octantOf_4 rfl ?_
  refine e_iload_n qX11_octantOf_5 rfl ?_
  refine e_icmp_le (tgt := 11) qX11_octantOf_6 rfl h (fun _ h => ?_) (fun _ h => ?_)
  · exact e_weak (hj1 h) ⟨Or.inr rfl, Or.inr rfl, trivial⟩
  refine e_iconst (nI 0) qX11_octantOf_9 rfl ?_
  exact e_iret qX11_octantOf_10 rfl (ret_p h)

def f_X11_memberAt_L4 (N : Nat) (c1 : Int32) (s0 : St) : Nat → Int32 → Int32 → Option (Int32)
  | 0, _, _ => none
  | n4 + 1, v2, v3 =>
    if (nI 8) ≤ v3 then
      some (-1)
    else
    jn (fun (v6 : Int32) =>
      vl (v3 + (nI 1)) fun v8 =>
      f_X11_memberAt_L4 N c1 s0 n4 v6 v8) fun j7 =>
    if ((c1 >>> (v3 &&& 31)) &&& (nI 1)) = 0 then
      j7 v2
    else
    if v2 = 0 then
      some v3
    else
    vl (v2 + (-1)) fun v9 =>
    j7 v9

def f_X11_memberAt (N : Nat) (x0 : Int32) (x1 : Int32) (s0 : St) : Option (Int32) :=
  f_X11_memberAt_L4 N x0 s0 N x1 (nI 0)

theorem qX11_memberAt_0 : Dc mX11_memberAt 0 (.iload_n 1) 1 1 := ⟨by decide +kernel, rfl⟩
theorem qX11_memberAt_1 : Dc mX11_memberAt 1 (.istore_n 2) 1 2 := ⟨by decide +kernel, rfl⟩
theorem qX11_memberAt_2 : Dc mX11_memberAt 2 (.iconst 0) 1 3 := ⟨by decide +kernel, rfl⟩
theorem qX11_memberAt_3 : Dc mX11_memberAt 3 (.istore_n 3) 1 4 := ⟨by decide +kernel, rfl⟩
theorem qX11_memberAt_4 : Dc mX11_memberAt 4 (.iload_n 3) 1 5 := ⟨by decide +kernel, rfl⟩
theorem qX11_memberAt_5 : Dc mX11_memberAt 5 (.bipush 8) 2 7 := ⟨by decide +kernel, rfl⟩
theorem qX11_memberAt_7 : Dc mX11_memberAt 7 (.if_icmp .ge 26) 3 10 := ⟨by decide +kernel, rfl⟩
theorem qX11_memberAt_10 : Dc mX11_memberAt 10 (.iload_n 0) 1 11 := ⟨by decide +kernel, rfl⟩
theorem qX11_memberAt_11 : Dc mX11_memberAt 11 (.iload_n 3) 1 12 := ⟨by decide +kernel, rfl⟩
theorem qX11_memberAt_12 : Dc mX11_memberAt 12 (.ishr) 1 13 := ⟨by decide +kernel, rfl⟩
theorem qX11_memberAt_13 : Dc mX11_memberAt 13 (.iconst 1) 1 14 := ⟨by decide +kernel, rfl⟩
theorem qX11_memberAt_14 : Dc mX11_memberAt 14 (.iand) 1 15 := ⟨by decide +kernel, rfl⟩
theorem qX11_memberAt_15 : Dc mX11_memberAt 15 (.ifCond .eq 12) 3 18 := ⟨by decide +kernel, rfl⟩
theorem qX11_memberAt_18 : Dc mX11_memberAt 18 (.iload_n 2) 1 19 := ⟨by decide +kernel, rfl⟩
theorem qX11_memberAt_19 : Dc mX11_memberAt 19 (.ifCond .ne 5) 3 22 := ⟨by decide +kernel, rfl⟩
theorem qX11_memberAt_22 : Dc mX11_memberAt 22 (.iload_n 3) 1 23 := ⟨by decide +kernel, rfl⟩
theorem qX11_memberAt_23 : Dc mX11_memberAt 23 (.ireturn) 1 24 := ⟨by decide +kernel, rfl⟩
theorem qX11_memberAt_24 : Dc mX11_memberAt 24 (.iinc 2 (-1)) 3 27 := ⟨by decide +kernel, rfl⟩
theorem qX11_memberAt_27 : Dc mX11_memberAt 27 (.iinc 3 1) 3 30 := ⟨by decide +kernel, rfl⟩
theorem qX11_memberAt_30 : Dc mX11_memberAt 30 (.goto (-26)) 3 33 := ⟨by decide +kernel, rfl⟩
theorem qX11_memberAt_33 : Dc mX11_memberAt 33 (.iconst (-1)) 1 34 := ⟨by decide +kernel, rfl⟩
theorem qX11_memberAt_34 : Dc mX11_memberAt 34 (.ireturn) 1 35 := ⟨by decide +kernel, rfl⟩

set_option maxRecDepth 20000 in
set_option maxHeartbeats 4000000 in
theorem w_X11_memberAt_L4 {N : Nat} {c1 : Int32} {s0 : St}  {r : Int32}   : ∀ (n4 : Nat) (v2 : Int32) (v3 : Int32), f_X11_memberAt_L4 N c1 s0 n4 v2 v3 = some r → E mX11_memberAt 0 (some (.int r), s0) 4 [some (.int c1), none, some (.int v2), some (.int v3)] [] s0 := by
  intro n4
  induction n4 with
  | zero =>
    intro v2 v3 h
    rw [f_X11_memberAt_L4] at h; cases h
  | succ n4 ih5 =>
    intro v2 v3 h
    rw [f_X11_memberAt_L4] at h
    refine e_iload_n qX11_memberAt_4 rfl ?_
    refine e_bipush (nI 8) qX11_memberAt_5 rfl ?_
    refine e_icmp_ge (tgt := 33) qX11_memberAt_7 rfl h (fun _ h => ?_) (fun _ h => ?_)
    · refine e_iconst (-1) qX11_memberAt_33 rfl ?_
      exact e_iret qX11_memberAt_34 rfl (ret_p h)
    refine e_iload_n qX11_memberAt_10 rfl ?_
    refine e_iload_n qX11_memberAt_11 rfl ?_
    refine e_ishr qX11_memberAt_12 ?_
    refine e_iconst (nI 1) qX11_memberAt_13 rfl ?_
    refine e_iand qX11_memberAt_14 ?_
    refine jn_e (fun j => ∀ (v6 : Int32), j v6 = some r → E mX11_memberAt 0 (some (.int r), s0) 27 [some (.int c1), none, some (.int v6), some (.int v3)] [] s0) h ?_ (fun j7 hj7 h => ?_)
    · intro v6 h
      refine vl_e h (fun h => ?_)
      obtain ⟨v8, ev8⟩ : ∃ y, v3 + (nI 1) = y := ⟨_, rfl⟩
      rw [ev8] at h
      refine e_iinc (nI 1) v8 (lv2 := [some (.int c1), none, some (.int v6), some (.int v8)]) qX11_memberAt_27 rfl rfl rfl ev8 rfl ?_
      refine e_goto (tgt := 4) qX11_memberAt_30 rfl ?_
      exact e_weak (ih5 _ _ h) ⟨Or.inr rfl, Or.inl rfl, Or.inr rfl, Or.inr rfl, trivial⟩
    refine e_if_eq (tgt := 27) qX11_memberAt_15 rfl h (fun _ h => ?_) (fun _ h => ?_)
    · exact e_weak (hj7 _ h) ⟨Or.inr rfl, Or.inl rfl, Or.inr rfl, Or.inr rfl, trivial⟩
    refine e_iload_n qX11_memberAt_18 rfl ?_
    refine e_if_ne (tgt := 24) qX11_memberAt_19 rfl h (fun _ h => ?_) (fun _ h => ?_)
    · refine e_iload_n qX11_memberAt_22 rfl ?_
      exact e_iret qX11_memberAt_23 rfl (ret_p h)
    refine vl_e h (fun h => ?_)
    obtain ⟨v9, ev9⟩ : ∃ y, v2 + (-1) = y := ⟨_, rfl⟩
    rw [ev9] at h
    refine e_iinc (-1) v9 (lv2 := [some (.int c1), none, some (.int v9), some (.int v3)]) qX11_memberAt_24 rfl rfl rfl ev9 rfl ?_
    exact e_weak (hj7 _ h) ⟨Or.inr rfl, Or.inl rfl, Or.inr rfl, Or.inr rfl, trivial⟩

set_option maxRecDepth 20000 in
set_option maxHeartbeats 4000000 in
theorem w_X11_memberAt {N : Nat} {x0 : Int32} {x1 : Int32} {s0 : St} {r : Int32} (h : f_X11_memberAt N x0 x1 s0 = some r) : Ct mX11_memberAt 0 [.int x0, .int x1] s0 (some (.int r), s0) := by
  refine Ct.ofE (by decide +kernel) rfl ?_
  show E mX11_memberAt 0 (some (.int r), s0) 0 [some (.int x0), some (.int x1), none, none] [] s0
  unfold f_X11_memberAt at h
  refine e_iload_n qX11_memberAt_0 rfl ?_
  refine e_istore_n (lv2 := [some (.int x0), some (.int x1), some (.int x1), none]) qX11_memberAt_1 rfl rfl rfl ?_
  refine e_iconst (nI 0) qX11_memberAt_2 rfl ?_
  refine e_istore_n (lv2 := [some (.int x0), some (.int x1), some (.int x1), some (.int (nI 0))]) qX11_memberAt_3 rfl rfl rfl ?_
  exact e_weak (w_X11_memberAt_L4  _ _ _ h) ⟨Or.inr rfl, Or.inl rfl, Or.inr rfl, Or.inr rfl, trivial⟩

def f_X11_closeText  (s0 : St) : Option (St) :=
  vl (s0.1 1 6) fun v1 =>
  vl (sI s0 0 15 v1) fun s2 =>
  vl (sI s2 1 1 (nI 0)) fun s3 =>
  some s3

theorem qX11_closeText_0 : Dc mX11_closeText 0 (.aload_n 0) 1 1 := ⟨by decide +kernel, rfl⟩
theorem qX11_closeText_1 : Dc mX11_closeText 1 (.aload_n 0) 1 2 := ⟨by decide +kernel, rfl⟩
theorem qX11_closeText_2 : Dc mX11_closeText 2 (.getfield 12) 3 5 := ⟨by decide +kernel, rfl⟩
theorem qX11_closeText_5 : Dc mX11_closeText 5 (.getfield 396) 3 8 := ⟨by decide +kernel, rfl⟩
theorem qX11_closeText_8 : Dc mX11_closeText 8 (.putfield 132) 3 11 := ⟨by decide +kernel, rfl⟩
theorem qX11_closeText_11 : Dc mX11_closeText 11 (.aload_n 0) 1 12 := ⟨by decide +kernel, rfl⟩
theorem qX11_closeText_12 : Dc mX11_closeText 12 (.getfield 12) 3 15 := ⟨by decide +kernel, rfl⟩
theorem qX11_closeText_15 : Dc mX11_closeText 15 (.iconst 0) 1 16 := ⟨by decide +kernel, rfl⟩
theorem qX11_closeText_16 : Dc mX11_closeText 16 (.putfield 102) 3 19 := ⟨by decide +kernel, rfl⟩
theorem qX11_closeText_19 : Dc mX11_closeText 19 (.return_) 1 20 := ⟨by decide +kernel, rfl⟩

set_option maxRecDepth 20000 in
set_option maxHeartbeats 4000000 in
theorem w_X11_closeText  {s0 : St} {sr : St} (h : f_X11_closeText  s0 = some sr) : Ct mX11_closeText 0 [.ref 0] s0 (none, sr) := by
  refine Ct.ofE (by decide +kernel) rfl ?_
  show E mX11_closeText 0 (none, sr) 0 [some (.ref 0)] [] s0
  unfold f_X11_closeText at h
  refine e_aload_n qX11_closeText_0 rfl ?_
  refine e_aload_n qX11_closeText_1 rfl ?_
  refine e_getr 1 qX11_closeText_2 fl_X11_12 shq_0 kdq_10_0 rrq_0_0 ?_
  refine e_geti qX11_closeText_5 fl_X11_396 shq_1 kdq_9_6 h (fun v1 h => ?_)
  refine e_puti qX11_closeText_8 fp_X11_132 shq_0 kdq_10_15 h (fun s2 h => ?_)
  refine e_aload_n qX11_closeText_11 rfl ?_
  refine e_getr 1 qX11_closeText_12 fl_X11_12 shq_0 kdq_10_0 rrq_0_0 ?_
  refine e_iconst (nI 0) qX11_closeText_15 rfl ?_
  refine e_puti qX11_closeText_16 fp_X11_102 shq_1 kdq_9_1 h (fun s3 h => ?_)
  exact e_vret qX11_closeText_19 rfl (ret_v h)

def f_X11_keepIfDone (x1 : Int32) (s0 : St) : Option (Int32 × St) :=
  if x1 = 0 then
    bp (f_X5_keep s0) fun s1 =>
    some (x1, s1)
  else
  some (x1, s0)

theorem qX11_keepIfDone_0 : Dc mX11_keepIfDone 0 (.iload_n 1) 1 1 := ⟨by decide +kernel, rfl⟩
theorem qX11_keepIfDone_1 : Dc mX11_keepIfDone 1 (.ifCond .ne 10) 3 4 := ⟨by decide +kernel, rfl⟩
theorem qX11_keepIfDone_4 : Dc mX11_keepIfDone 4 (.aload_n 0) 1 5 := ⟨by decide +kernel, rfl⟩
theorem qX11_keepIfDone_5 : Dc mX11_keepIfDone 5 (.getfield 58) 3 8 := ⟨by decide +kernel, rfl⟩
theorem qX11_keepIfDone_8 : Dc mX11_keepIfDone 8 (.invokevirtual 367) 3 11 := ⟨by decide +kernel, rfl⟩
theorem qX11_keepIfDone_11 : Dc mX11_keepIfDone 11 (.iload_n 1) 1 12 := ⟨by decide +kernel, rfl⟩
theorem qX11_keepIfDone_12 : Dc mX11_keepIfDone 12 (.ireturn) 1 13 := ⟨by decide +kernel, rfl⟩

set_option maxRecDepth 20000 in
set_option maxHeartbeats 4000000 in
theorem w_X11_keepIfDone {x1 : Int32} {s0 : St} {r : Int32} {sr : St} (h : f_X11_keepIfDone x1 s0 = some (r, sr)) : Ct mX11_keepIfDone 2 [.ref 0, .int x1] s0 (some (.int r), sr) := by
  refine Ct.ofE (by decide +kernel) rfl ?_
  show E mX11_keepIfDone 2 (some (.int r), sr) 0 [some (.ref 0), some (.int x1)] [] s0
  unfold f_X11_keepIfDone at h
  refine e_iload_n qX11_keepIfDone_0 rfl ?_
  refine e_if_ne (tgt := 11) qX11_keepIfDone_1 rfl h (fun _ h => ?_) (fun _ h => ?_)
  · refine e_aload_n qX11_keepIfDone_4 rfl ?_
    refine e_getr 75 qX11_keepIfDone_5 fl_X11_58 shq_0 kdq_10_8 rrq_0_8 ?_
    obtain ⟨s1, hc, h⟩ := bp_e h
    refine e_cVv0 qX11_keepIfDone_8 mv_X11_367 shq_75 rfl rfl (w_X5_keep hc) ?_
    refine e_iload_n qX11_keepIfDone_11 rfl ?_
    exact e_iret qX11_keepIfDone_12 rfl (ret_i h)
  refine e_iload_n qX11_keepIfDone_11 rfl ?_
  exact e_iret qX11_keepIfDone_12 rfl (ret_i h)

def f_X11_keepIfAny (x1 : Int32) (s0 : St) : Option (Int32 × St) :=
  if x1 ≤ 0 then
    some (x1, s0)
  else
  bp (f_X5_keep s0) fun s1 =>
  some (x1, s1)

theorem qX11_keepIfAny_0 : Dc mX11_keepIfAny 0 (.iload_n 1) 1 1 := ⟨by decide +kernel, rfl⟩
theorem qX11_keepIfAny_1 : Dc mX11_keepIfAny 1 (.ifCond .le 10) 3 4 := ⟨by decide +kernel, rfl⟩
theorem qX11_keepIfAny_4 : Dc mX11_keepIfAny 4 (.aload_n 0) 1 5 := ⟨by decide +kernel, rfl⟩
theorem qX11_keepIfAny_5 : Dc mX11_keepIfAny 5 (.getfield 58) 3 8 := ⟨by decide +kernel, rfl⟩
theorem qX11_keepIfAny_8 : Dc mX11_keepIfAny 8 (.invokevirtual 367) 3 11 := ⟨by decide +kernel, rfl⟩
theorem qX11_keepIfAny_11 : Dc mX11_keepIfAny 11 (.iload_n 1) 1 12 := ⟨by decide +kernel, rfl⟩
theorem qX11_keepIfAny_12 : Dc mX11_keepIfAny 12 (.ireturn) 1 13 := ⟨by decide +kernel, rfl⟩

set_option maxRecDepth 20000 in
set_option maxHeartbeats 4000000 in
theorem w_X11_keepIfAny {x1 : Int32} {s0 : St} {r : Int32} {sr : St} (h : f_X11_keepIfAny x1 s0 = some (r, sr)) : Ct mX11_keepIfAny 2 [.ref 0, .int x1] s0 (some (.int r), sr) := by
  refine Ct.ofE (by decide +kernel) rfl ?_
  show E mX11_keepIfAny 2 (some (.int r), sr) 0 [some (.ref 0), some (.int x1)] [] s0
  unfold f_X11_keepIfAny at h
  refine e_iload_n qX11_keepIfAny_0 rfl ?_
  refine e_if_le (tgt := 11) qX11_keepIfAny_1 rfl h (fun _ h => ?_) (fun _ h => ?_)
  · refine e_iload_n qX11_keepIfAny_11 rfl ?_
    exact e_iret qX11_keepIfAny_12 rfl (ret_i h)
  refine e_aload_n qX11_keepIfAny_4 rfl ?_
  refine e_getr 75 qX11_keepIfAny_5 fl_X11_58 shq_0 kdq_10_8 rrq_0_8 ?_
  obtain ⟨s1, hc, h⟩ := bp_e h
  refine e_cVv0 qX11_keepIfAny_8 mv_X11_367 shq_75 rfl rfl (w_X5_keep hc) ?_
  refine e_iload_n qX11_keepIfAny_11 rfl ?_
  exact e_iret qX11_keepIfAny_12 rfl (ret_i h)

def f_X11_isFixTape_L28 (N : Nat) (c3 : Int32) (s0 : St) : Nat → Int32 → Option (Int32)
  | 0, _ => none
  | n5 + 1, v4 =>
    if c3 ≤ (v4 + (nI 1)) then
      some (nI 1)
    else
    ald (s0.1 2) 940 v4 fun v7 =>
    bp (f_X11_isLight v7 s0) fun v8 =>
    if v8 = 0 then
      some (nI 0)
    else
    ald (s0.1 2) 940 (v4 + (nI 1)) fun v9 =>
    if v9 < (nI 8) then
      vl (v4 + (nI 2)) fun v10 =>
      f_X11_isFixTape_L28 N c3 s0 n5 v10
    else
    some (nI 0)

def f_X11_isFixTape (N : Nat)  (s0 : St) : Option (Int32) :=
  vl (s0.1 1 1) fun v1 =>
  if v1 = 0 then
    some (nI 0)
  else
  if (nI 12) < v1 then
    some (nI 0)
  else
  rm_ v1 (nI 2) fun v2 =>
  if v2 = 0 then
    f_X11_isFixTape_L28 N v1 s0 N (nI 0)
  else
  some (nI 0)

theorem qX11_isFixTape_0 : Dc mX11_isFixTape 0 (.aload_n 0) 1 1 := ⟨by decide +kernel, rfl⟩
theorem qX11_isFixTape_1 : Dc mX11_isFixTape 1 (.getfield 12) 3 4 := ⟨by decide +kernel, rfl⟩
theorem qX11_isFixTape_4 : Dc mX11_isFixTape 4 (.getfield 102) 3 7 := ⟨by decide +kernel, rfl⟩
theorem qX11_isFixTape_7 : Dc mX11_isFixTape 7 (.istore_n 1) 1 8 := ⟨by decide +kernel, rfl⟩
theorem qX11_isFixTape_8 : Dc mX11_isFixTape 8 (.iload_n 1) 1 9 := ⟨by decide +kernel, rfl⟩
theorem qX11_isFixTape_9 : Dc mX11_isFixTape 9 (.ifCond .eq 15) 3 12 := ⟨by decide +kernel, rfl⟩
theorem qX11_isFixTape_12 : Dc mX11_isFixTape 12 (.iload_n 1) 1 13 := ⟨by decide +kernel, rfl⟩
theorem qX11_isFixTape_13 : Dc mX11_isFixTape 13 (.bipush 12) 2 15 := ⟨by decide +kernel, rfl⟩
theorem qX11_isFixTape_15 : Dc mX11_isFixTape 15 (.if_icmp .gt 9) 3 18 := ⟨by decide +kernel, rfl⟩
theorem qX11_isFixTape_18 : Dc mX11_isFixTape 18 (.iload_n 1) 1 19 := ⟨by decide +kernel, rfl⟩
theorem qX11_isFixTape_19 : Dc mX11_isFixTape 19 (.iconst 2) 1 20 := ⟨by decide +kernel, rfl⟩
theorem qX11_isFixTape_20 : Dc mX11_isFixTape 20 (.irem) 1 21 := ⟨by decide +kernel, rfl⟩
theorem qX11_isFixTape_21 : Dc mX11_isFixTape 21 (.ifCond .eq 5) 3 24 := ⟨by decide +kernel, rfl⟩
theorem qX11_isFixTape_24 : Dc mX11_isFixTape 24 (.iconst 0) 1 25 := ⟨by decide +kernel, rfl⟩
theorem qX11_isFixTape_25 : Dc mX11_isFixTape 25 (.ireturn) 1 26 := ⟨by decide +kernel, rfl⟩
theorem qX11_isFixTape_26 : Dc mX11_isFixTape 26 (.iconst 0) 1 27 := ⟨by decide +kernel, rfl⟩
theorem qX11_isFixTape_27 : Dc mX11_isFixTape 27 (.istore_n 2) 1 28 := ⟨by decide +kernel, rfl⟩
theorem qX11_isFixTape_28 : Dc mX11_isFixTape 28 (.iload_n 2) 1 29 := ⟨by decide +kernel, rfl⟩
theorem qX11_isFixTape_29 : Dc mX11_isFixTape 29 (.iconst 1) 1 30 := ⟨by decide +kernel, rfl⟩
theorem qX11_isFixTape_30 : Dc mX11_isFixTape 30 (.iadd) 1 31 := ⟨by decide +kernel, rfl⟩
theorem qX11_isFixTape_31 : Dc mX11_isFixTape 31 (.iload_n 1) 1 32 := ⟨by decide +kernel, rfl⟩
theorem qX11_isFixTape_32 : Dc mX11_isFixTape 32 (.if_icmp .ge 43) 3 35 := ⟨by decide +kernel, rfl⟩
theorem qX11_isFixTape_35 : Dc mX11_isFixTape 35 (.aload_n 0) 1 36 := ⟨by decide +kernel, rfl⟩
theorem qX11_isFixTape_36 : Dc mX11_isFixTape 36 (.aload_n 0) 1 37 := ⟨by decide +kernel, rfl⟩
theorem qX11_isFixTape_37 : Dc mX11_isFixTape 37 (.getfield 12) 3 40 := ⟨by decide +kernel, rfl⟩
theorem qX11_isFixTape_40 : Dc mX11_isFixTape 40 (.getfield 409) 3 43 := ⟨by decide +kernel, rfl⟩
theorem qX11_isFixTape_43 : Dc mX11_isFixTape 43 (.iload_n 2) 1 44 := ⟨by decide +kernel, rfl⟩
theorem qX11_isFixTape_44 : Dc mX11_isFixTape 44 (.iaload) 1 45 := ⟨by decide +kernel, rfl⟩
theorem qX11_isFixTape_45 : Dc mX11_isFixTape 45 (.invokevirtual 135) 3 48 := ⟨by decide +kernel, rfl⟩
theorem qX11_isFixTape_48 : Dc mX11_isFixTape 48 (.ifCond .eq 19) 3 51 := ⟨by decide +kernel, rfl⟩
theorem qX11_isFixTape_51 : Dc mX11_isFixTape 51 (.aload_n 0) 1 52 := ⟨by decide +kernel, rfl⟩
theorem qX11_isFixTape_52 : Dc mX11_isFixTape 52 (.getfield 12) 3 55 := ⟨by decide +kernel, rfl⟩
theorem qX11_isFixTape_55 : Dc mX11_isFixTape 55 (.getfield 409) 3 58 := ⟨by decide +kernel, rfl⟩
theorem qX11_isFixTape_58 : Dc mX11_isFixTape 58 (.iload_n 2) 1 59 := ⟨by decide +kernel, rfl⟩
theorem qX11_isFixTape_59 : Dc mX11_isFixTape 59 (.iconst 1) 1 60 := ⟨by decide +kernel, rfl⟩
theorem qX11_isFixTape_60 : Dc mX11_isFixTape 60 (.iadd) 1 61 := ⟨by decide +kernel, rfl⟩
theorem qX11_isFixTape_61 : Dc mX11_isFixTape 61 (.iaload) 1 62 := ⟨by decide +kernel, rfl⟩
theorem qX11_isFixTape_62 : Dc mX11_isFixTape 62 (.bipush 8) 2 64 := ⟨by decide +kernel, rfl⟩
theorem qX11_isFixTape_64 : Dc mX11_isFixTape 64 (.if_icmp .lt 5) 3 67 := ⟨by decide +kernel, rfl⟩
theorem qX11_isFixTape_67 : Dc mX11_isFixTape 67 (.iconst 0) 1 68 := ⟨by decide +kernel, rfl⟩
theorem qX11_isFixTape_68 : Dc mX11_isFixTape 68 (.ireturn) 1 69 := ⟨by decide +kernel, rfl⟩
theorem qX11_isFixTape_69 : Dc mX11_isFixTape 69 (.iinc 2 2) 3 72 := ⟨by decide +kernel, rfl⟩
theorem qX11_isFixTape_72 : Dc mX11_isFixTape 72 (.goto (-44)) 3 75 := ⟨by decide +kernel, rfl⟩
theorem qX11_isFixTape_75 : Dc mX11_isFixTape 75 (.iconst 1) 1 76 := ⟨by decide +kernel, rfl⟩
theorem qX11_isFixTape_76 : Dc mX11_isFixTape 76 (.ireturn) 1 77 := ⟨by decide +kernel, rfl⟩

set_option maxRecDepth 20000 in
set_option maxHeartbeats 4000000 in
theorem w_X11_isFixTape_L28 {N : Nat} {c3 : Int32} {s0 : St}  {r : Int32}   : ∀ (n5 : Nat) (v4 : Int32), f_X11_isFixTape_L28 N c3 s0 n5 v4 = some r → E mX11_isFixTape 1 (some (.int r), s0) 28 [some (.ref 0), some (.int c3), some (.int v4)] [] s0 := by
  intro n5
  induction n5 with
  | zero =>
    intro v4 h
    rw [f_X11_isFixTape_L28] at h; cases h
  | succ n5 ih6 =>
    intro v4 h
    rw [f_X11_isFixTape_L28] at h
    refine e_iload_n qX11_isFixTape_28 rfl ?_
    refine e_iconst (nI 1) qX11_isFixTape_29 rfl ?_
    refine e_iadd qX11_isFixTape_30 ?_
    refine e_iload_n qX11_isFixTape_31 rfl ?_
    refine e_icmp_ge (tgt := 75) qX11_isFixTape_32 rfl h (fun _ h => ?_) (fun _ h => ?_)
    · refine e_iconst (nI 1) qX11_isFixTape_75 rfl ?_
      exact e_zret qX11_isFixTape_76 rfl (by decide) (ret_p h)
    refine e_aload_n qX11_isFixTape_35 rfl ?_
    refine e_aload_n qX11_isFixTape_36 rfl ?_
    refine e_getr 1 qX11_isFixTape_37 fl_X11_12 shq_0 kdq_10_0 rrq_0_0 ?_
    refine e_getr 2 qX11_isFixTape_40 fl_X11_409 shq_1 kdq_9_0 rrq_1_0 ?_
    refine e_iload_n qX11_isFixTape_43 rfl ?_
    refine e_iald qX11_isFixTape_44 shq_2 lnq_2 h (fun v7 h => ?_)
    obtain ⟨v8, hc, h⟩ := bp_e h
    refine e_cVi1 qX11_isFixTape_45 mv_X11_135 shq_0 rfl rfl (w_X11_isLight hc) ?_
    refine e_if_eq (tgt := 67) qX11_isFixTape_48 rfl h (fun _ h => ?_) (fun _ h => ?_)
    · refine e_iconst (nI 0) qX11_isFixTape_67 rfl ?_
      exact e_zret qX11_isFixTape_68 rfl (by decide) (ret_p h)
    refine e_aload_n qX11_isFixTape_51 rfl ?_
    refine e_getr 1 qX11_isFixTape_52 fl_X11_12 shq_0 kdq_10_0 rrq_0_0 ?_
    refine e_getr 2 qX11_isFixTape_55 fl_X11_409 shq_1 kdq_9_0 rrq_1_0 ?_
    refine e_iload_n qX11_isFixTape_58 rfl ?_
    refine e_iconst (nI 1) qX11_isFixTape_59 rfl ?_
    refine e_iadd qX11_isFixTape_60 ?_
    refine e_iald qX11_isFixTape_61 shq_2 lnq_2 h (fun v9 h => ?_)
    refine e_bipush (nI 8) qX11_isFixTape_62 rfl ?_
    refine e_icmp_lt (tgt := 69) qX11_isFixTape_64 rfl h (fun _ h => ?_) (fun _ h => ?_)
    · refine vl_e h (fun h => ?_)
      obtain ⟨v10, ev10⟩ : ∃ y, v4 + (nI 2) = y := ⟨_, rfl⟩
      rw [ev10] at h
      refine e_iinc (nI 2) v10 (lv2 := [some (.ref 0), some (.int c3), some (.int v10)]) qX11_isFixTape_69 rfl rfl rfl ev10 rfl ?_
      refine e_goto (tgt := 28) qX11_isFixTape_72 rfl ?_
      exact e_weak (ih6 _ h) ⟨Or.inr rfl, Or.inr rfl, Or.inr rfl, trivial⟩
    refine e_iconst (nI 0) qX11_isFixTape_67 rfl ?_
    exact e_zret qX11_isFixTape_68 rfl (by decide) (ret_p h)

set_option maxRecDepth 20000 in
set_option maxHeartbeats 4000000 in
theorem w_X11_isFixTape {N : Nat}  {s0 : St} {r : Int32} (h : f_X11_isFixTape N  s0 = some r) : Ct mX11_isFixTape 1 [.ref 0] s0 (some (.int r), s0) := by
  refine Ct.ofE (by decide +kernel) rfl ?_
  show E mX11_isFixTape 1 (some (.int r), s0) 0 [some (.ref 0), none, none] [] s0
  unfold f_X11_isFixTape at h
  refine e_aload_n qX11_isFixTape_0 rfl ?_
  refine e_getr 1 qX11_isFixTape_1 fl_X11_12 shq_0 kdq_10_0 rrq_0_0 ?_
  refine e_geti qX11_isFixTape_4 fl_X11_102 shq_1 kdq_9_1 h (fun v1 h => ?_)
  refine e_istore_n (lv2 := [some (.ref 0), some (.int v1), none]) qX11_isFixTape_7 rfl rfl rfl ?_
  refine e_iload_n qX11_isFixTape_8 rfl ?_
  refine e_if_eq (tgt := 24) qX11_isFixTape_9 rfl h (fun _ h => ?_) (fun _ h => ?_)
  · refine e_iconst (nI 0) qX11_isFixTape_24 rfl ?_
    exact e_zret qX11_isFixTape_25 rfl (by decide) (ret_p h)
  refine e_iload_n qX11_isFixTape_12 rfl ?_
  refine e_bipush (nI 12) qX11_isFixTape_13 rfl ?_
  refine e_icmp_gt (tgt := 24) qX11_isFixTape_15 rfl h (fun _ h => ?_) (fun _ h => ?_)
  · refine e_iconst (nI 0) qX11_isFixTape_24 rfl ?_
    exact e_zret qX11_isFixTape_25 rfl (by decide) (ret_p h)
  refine e_iload_n qX11_isFixTape_18 rfl ?_
  refine e_iconst (nI 2) qX11_isFixTape_19 rfl ?_
  refine e_irem qX11_isFixTape_20 h (fun v2 h => ?_)
  refine e_if_eq (tgt := 26) qX11_isFixTape_21 rfl h (fun _ h => ?_) (fun _ h => ?_)
  · refine e_iconst (nI 0) qX11_isFixTape_26 rfl ?_
    refine e_istore_n (lv2 := [some (.ref 0), some (.int v1), some (.int (nI 0))]) qX11_isFixTape_27 rfl rfl rfl ?_
    exact e_weak (w_X11_isFixTape_L28  _ _ h) ⟨Or.inr rfl, Or.inr rfl, Or.inr rfl, trivial⟩
  refine e_iconst (nI 0) qX11_isFixTape_24 rfl ?_
  exact e_zret qX11_isFixTape_25 rfl (by decide) (ret_p h)

def f_X11_liesAsTaped_L2 (N : Nat) (c1 : Int32) (c2 : Int32) (s0 : St) : Nat → Int32 → Option (Int32)
  | 0, _ => none
  | n4 + 1, v3 =>
    vl (s0.1 1 1) fun v6 =>
    if v6 ≤ (v3 + (nI 1)) then
      some (nI 1)
    else
    ald (s0.1 2) 940 v3 fun v7 =>
    ald (rr 4) 8 v7 fun v8 =>
    vl (s0.1 v8 1) fun v10 =>
    vl (s0.1 v8 2) fun v11 =>
    bp (f_X11_octantOf (c1 - v10) (c2 - v11) s0) fun v12 =>
    ald (s0.1 2) 940 (v3 + (nI 1)) fun v13 =>
    if v12 = v13 then
      vl (v3 + (nI 2)) fun v14 =>
      f_X11_liesAsTaped_L2 N c1 c2 s0 n4 v14
    else
    some (nI 0)

def f_X11_liesAsTaped (N : Nat) (x1 : Int32) (x2 : Int32) (s0 : St) : Option (Int32) :=
  f_X11_liesAsTaped_L2 N x1 x2 s0 N (nI 0)

theorem qX11_liesAsTaped_0 : Dc mX11_liesAsTaped 0 (.iconst 0) 1 1 := ⟨by decide +kernel, rfl⟩
theorem qX11_liesAsTaped_1 : Dc mX11_liesAsTaped 1 (.istore_n 3) 1 2 := ⟨by decide +kernel, rfl⟩
theorem qX11_liesAsTaped_2 : Dc mX11_liesAsTaped 2 (.iload_n 3) 1 3 := ⟨by decide +kernel, rfl⟩
theorem qX11_liesAsTaped_3 : Dc mX11_liesAsTaped 3 (.iconst 1) 1 4 := ⟨by decide +kernel, rfl⟩
theorem qX11_liesAsTaped_4 : Dc mX11_liesAsTaped 4 (.iadd) 1 5 := ⟨by decide +kernel, rfl⟩
theorem qX11_liesAsTaped_5 : Dc mX11_liesAsTaped 5 (.aload_n 0) 1 6 := ⟨by decide +kernel, rfl⟩
theorem qX11_liesAsTaped_6 : Dc mX11_liesAsTaped 6 (.getfield 12) 3 9 := ⟨by decide +kernel, rfl⟩
theorem qX11_liesAsTaped_9 : Dc mX11_liesAsTaped 9 (.getfield 102) 3 12 := ⟨by decide +kernel, rfl⟩
theorem qX11_liesAsTaped_12 : Dc mX11_liesAsTaped 12 (.if_icmp .ge 61) 3 15 := ⟨by decide +kernel, rfl⟩
theorem qX11_liesAsTaped_15 : Dc mX11_liesAsTaped 15 (.aload_n 0) 1 16 := ⟨by decide +kernel, rfl⟩
theorem qX11_liesAsTaped_16 : Dc mX11_liesAsTaped 16 (.getfield 19) 3 19 := ⟨by decide +kernel, rfl⟩
theorem qX11_liesAsTaped_19 : Dc mX11_liesAsTaped 19 (.getfield 142) 3 22 := ⟨by decide +kernel, rfl⟩
theorem qX11_liesAsTaped_22 : Dc mX11_liesAsTaped 22 (.aload_n 0) 1 23 := ⟨by decide +kernel, rfl⟩
theorem qX11_liesAsTaped_23 : Dc mX11_liesAsTaped 23 (.getfield 12) 3 26 := ⟨by decide +kernel, rfl⟩
theorem qX11_liesAsTaped_26 : Dc mX11_liesAsTaped 26 (.getfield 409) 3 29 := ⟨by decide +kernel, rfl⟩
theorem qX11_liesAsTaped_29 : Dc mX11_liesAsTaped 29 (.iload_n 3) 1 30 := ⟨by decide +kernel, rfl⟩
theorem qX11_liesAsTaped_30 : Dc mX11_liesAsTaped 30 (.iaload) 1 31 := ⟨by decide +kernel, rfl⟩
theorem qX11_liesAsTaped_31 : Dc mX11_liesAsTaped 31 (.aaload) 1 32 := ⟨by decide +kernel, rfl⟩
theorem qX11_liesAsTaped_32 : Dc mX11_liesAsTaped 32 (.astore 4) 2 34 := ⟨by decide +kernel, rfl⟩
theorem qX11_liesAsTaped_34 : Dc mX11_liesAsTaped 34 (.iload_n 1) 1 35 := ⟨by decide +kernel, rfl⟩
theorem qX11_liesAsTaped_35 : Dc mX11_liesAsTaped 35 (.aload 4) 2 37 := ⟨by decide +kernel, rfl⟩
theorem qX11_liesAsTaped_37 : Dc mX11_liesAsTaped 37 (.getfield 146) 3 40 := ⟨by decide +kernel, rfl⟩
theorem qX11_liesAsTaped_40 : Dc mX11_liesAsTaped 40 (.isub) 1 41 := ⟨by decide +kernel, rfl⟩
theorem qX11_liesAsTaped_41 : Dc mX11_liesAsTaped 41 (.iload_n 2) 1 42 := ⟨by decide +kernel, rfl⟩
theorem qX11_liesAsTaped_42 : Dc mX11_liesAsTaped 42 (.aload 4) 2 44 := ⟨by decide +kernel, rfl⟩
theorem qX11_liesAsTaped_44 : Dc mX11_liesAsTaped 44 (.getfield 151) 3 47 := ⟨by decide +kernel, rfl⟩
theorem qX11_liesAsTaped_47 : Dc mX11_liesAsTaped 47 (.isub) 1 48 := ⟨by decide +kernel, rfl⟩
theorem qX11_liesAsTaped_48 : Dc mX11_liesAsTaped 48 (.invokestatic 412) 3 51 := ⟨by decide +kernel, rfl⟩
theorem qX11_liesAsTaped_51 : Dc mX11_liesAsTaped 51 (.aload_n 0) 1 52 := ⟨by decide +kernel, rfl⟩
theorem qX11_liesAsTaped_52 : Dc mX11_liesAsTaped 52 (.getfield 12) 3 55 := ⟨by decide +kernel, rfl⟩
theorem qX11_liesAsTaped_55 : Dc mX11_liesAsTaped 55 (.getfield 409) 3 58 := ⟨by decide +kernel, rfl⟩
theorem qX11_liesAsTaped_58 : Dc mX11_liesAsTaped 58 (.iload_n 3) 1 59 := ⟨by decide +kernel, rfl⟩
theorem qX11_liesAsTaped_59 : Dc mX11_liesAsTaped 59 (.iconst 1) 1 60 := ⟨by decide +kernel, rfl⟩
theorem qX11_liesAsTaped_60 : Dc mX11_liesAsTaped 60 (.iadd) 1 61 := ⟨by decide +kernel, rfl⟩
theorem qX11_liesAsTaped_61 : Dc mX11_liesAsTaped 61 (.iaload) 1 62 := ⟨by decide +kernel, rfl⟩
theorem qX11_liesAsTaped_62 : Dc mX11_liesAsTaped 62 (.if_icmp .eq 5) 3 65 := ⟨by decide +kernel, rfl⟩
theorem qX11_liesAsTaped_65 : Dc mX11_liesAsTaped 65 (.iconst 0) 1 66 := ⟨by decide +kernel, rfl⟩
theorem qX11_liesAsTaped_66 : Dc mX11_liesAsTaped 66 (.ireturn) 1 67 := ⟨by decide +kernel, rfl⟩
theorem qX11_liesAsTaped_67 : Dc mX11_liesAsTaped 67 (.iinc 3 2) 3 70 := ⟨by decide +kernel, rfl⟩
theorem qX11_liesAsTaped_70 : Dc mX11_liesAsTaped 70 (.goto (-68)) 3 73 := ⟨by decide +kernel, rfl⟩
theorem qX11_liesAsTaped_73 : Dc mX11_liesAsTaped 73 (.iconst 1) 1 74 := ⟨by decide +kernel, rfl⟩
theorem qX11_liesAsTaped_74 : Dc mX11_liesAsTaped 74 (.ireturn) 1 75 := ⟨by decide +kernel, rfl⟩

set_option maxRecDepth 20000 in
set_option maxHeartbeats 4000000 in
theorem w_X11_liesAsTaped_L2 {N : Nat} {c1 : Int32} {c2 : Int32} {s0 : St}  {r : Int32}   : ∀ (n4 : Nat) (v3 : Int32), f_X11_liesAsTaped_L2 N c1 c2 s0 n4 v3 = some r → E mX11_liesAsTaped 1 (some (.int r), s0) 2 [some (.ref 0), some (.int c1), some (.int c2), some (.int v3), none] [] s0 := by
  intro n4
  induction n4 with
  | zero =>
    intro v3 h
    rw [f_X11_liesAsTaped_L2] at h; cases h
  | succ n4 ih5 =>
    intro v3 h
    rw [f_X11_liesAsTaped_L2] at h
    refine e_iload_n qX11_liesAsTaped_2 rfl ?_
    refine e_iconst (nI 1) qX11_liesAsTaped_3 rfl ?_
    refine e_iadd qX11_liesAsTaped_4 ?_
    refine e_aload_n qX11_liesAsTaped_5 rfl ?_
    refine e_getr 1 qX11_liesAsTaped_6 fl_X11_12 shq_0 kdq_10_0 rrq_0_0 ?_
    refine e_geti qX11_liesAsTaped_9 fl_X11_102 shq_1 kdq_9_1 h (fun v6 h => ?_)
    refine e_icmp_ge (tgt := 73) qX11_liesAsTaped_12 rfl h (fun _ h => ?_) (fun _ h => ?_)
    · refine e_iconst (nI 1) qX11_liesAsTaped_73 rfl ?_
      exact e_zret qX11_liesAsTaped_74 rfl (by decide) (ret_p h)
    refine e_aload_n qX11_liesAsTaped_15 rfl ?_
    refine e_getr 3 qX11_liesAsTaped_16 fl_X11_19 shq_0 kdq_10_1 rrq_0_1 ?_
    refine e_getr 4 qX11_liesAsTaped_19 fl_X11_142 shq_3 kdq_1_0 rrq_3_0 ?_
    refine e_aload_n qX11_liesAsTaped_22 rfl ?_
    refine e_getr 1 qX11_liesAsTaped_23 fl_X11_12 shq_0 kdq_10_0 rrq_0_0 ?_
    refine e_getr 2 qX11_liesAsTaped_26 fl_X11_409 shq_1 kdq_9_0 rrq_1_0 ?_
    refine e_iload_n qX11_liesAsTaped_29 rfl ?_
    refine e_iald qX11_liesAsTaped_30 shq_2 lnq_2 h (fun v7 h => ?_)
    refine e_rald24 qX11_liesAsTaped_31 shq_4 lnq_4 h (fun i9 hi9 h => ?_)
    refine e_astore (lv2 := [some (.ref 0), some (.int c1), some (.int c2), some (.int v3), some (.ref (rr 4 i9))]) qX11_liesAsTaped_32 rfl rfl rfl ?_
    refine e_iload_n qX11_liesAsTaped_34 rfl ?_
    refine e_aload qX11_liesAsTaped_35 rfl ?_
    refine e_geti qX11_liesAsTaped_37 fl_X11_146 (we_24 _ shq_4 _ hi9) kdq_4_1 h (fun v10 h => ?_)
    refine e_isub qX11_liesAsTaped_40 ?_
    refine e_iload_n qX11_liesAsTaped_41 rfl ?_
    refine e_aload qX11_liesAsTaped_42 rfl ?_
    refine e_geti qX11_liesAsTaped_44 fl_X11_151 (we_24 _ shq_4 _ hi9) kdq_4_2 h (fun v11 h => ?_)
    refine e_isub qX11_liesAsTaped_47 ?_
    obtain ⟨v12, hc, h⟩ := bp_e h
    refine e_cSi2 qX11_liesAsTaped_48 ms_X11_412 rfl rfl (w_X11_octantOf hc) ?_
    refine e_aload_n qX11_liesAsTaped_51 rfl ?_
    refine e_getr 1 qX11_liesAsTaped_52 fl_X11_12 shq_0 kdq_10_0 rrq_0_0 ?_
    refine e_getr 2 qX11_liesAsTaped_55 fl_X11_409 shq_1 kdq_9_0 rrq_1_0 ?_
    refine e_iload_n qX11_liesAsTaped_58 rfl ?_
    refine e_iconst (nI 1) qX11_liesAsTaped_59 rfl ?_
    refine e_iadd qX11_liesAsTaped_60 ?_
    refine e_iald qX11_liesAsTaped_61 shq_2 lnq_2 h (fun v13 h => ?_)
    refine e_icmp_eq (tgt := 67) qX11_liesAsTaped_62 rfl h (fun _ h => ?_) (fun _ h => ?_)
    · refine vl_e h (fun h => ?_)
      obtain ⟨v14, ev14⟩ : ∃ y, v3 + (nI 2) = y := ⟨_, rfl⟩
      rw [ev14] at h
      refine e_iinc (nI 2) v14 (lv2 := [some (.ref 0), some (.int c1), some (.int c2), some (.int v14), some (.ref (rr 4 i9))]) qX11_liesAsTaped_67 rfl rfl rfl ev14 rfl ?_
      refine e_goto (tgt := 2) qX11_liesAsTaped_70 rfl ?_
      exact e_weak (ih5 _ h) ⟨Or.inr rfl, Or.inr rfl, Or.inr rfl, Or.inr rfl, Or.inl rfl, trivial⟩
    refine e_iconst (nI 0) qX11_liesAsTaped_65 rfl ?_
    exact e_zret qX11_liesAsTaped_66 rfl (by decide) (ret_p h)

set_option maxRecDepth 20000 in
set_option maxHeartbeats 4000000 in
theorem w_X11_liesAsTaped {N : Nat} {x1 : Int32} {x2 : Int32} {s0 : St} {r : Int32} (h : f_X11_liesAsTaped N x1 x2 s0 = some r) : Ct mX11_liesAsTaped 1 [.ref 0, .int x1, .int x2] s0 (some (.int r), s0) := by
  refine Ct.ofE (by decide +kernel) rfl ?_
  show E mX11_liesAsTaped 1 (some (.int r), s0) 0 [some (.ref 0), some (.int x1), some (.int x2), none, none] [] s0
  unfold f_X11_liesAsTaped at h
  refine e_iconst (nI 0) qX11_liesAsTaped_0 rfl ?_
  refine e_istore_n (lv2 := [some (.ref 0), some (.int x1), some (.int x2), some (.int (nI 0)), none]) qX11_liesAsTaped_1 rfl rfl rfl ?_
  exact e_weak (w_X11_liesAsTaped_L2  _ _ h) ⟨Or.inr rfl, Or.inr rfl, Or.inr rfl, Or.inr rfl, Or.inl rfl, trivial⟩
