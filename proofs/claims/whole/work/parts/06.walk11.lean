def f_X9_next_L5 (N : Nat) (s3 : St) (k4 : Int32 → Option (St)) : Nat → Int32 → Option (St)
  | 0, _ => none
  | n6 + 1, v2 =>
    vl (s3.1 1 10) fun v8 =>
    if v8 ≤ v2 then
      k4 v2
    else
    ald (s3.1 2) 940 v2 fun v9 =>
    jn (vl (v2 + (nI 1)) fun v11 =>
      f_X9_next_L5 N s3 k4 n6 v11) fun j10 =>
    if v9 = (nI 32) then
      j10
    else
    ald (s3.1 2) 940 v2 fun v12 =>
    if v12 = (nI 10) then
      j10
    else
    k4 v2

def f_X9_next (N : Nat)  (s0 : St) : Option (St) :=
  vl (s0.1 1 9) fun v1 =>
  f_X9_next_L5 N s0 (fun (v13 : Int32) =>
    vl (s0.1 1 10) fun v14 =>
    vl (mn v13 v14) fun v15 =>
    vl (sI s0 1 8 v15) fun s16 =>
    vl (sL s16 1 3 (0 : Int64)) fun s17 =>
    vl (sI s17 1 4 (nI 0)) fun s18 =>
    vl (s18.1 1 8) fun v19 =>
    vl (s18.1 1 10) fun v20 =>
    if v19 = v20 then
      vl (sI s18 1 2 (nI 0)) fun s21 =>
      some s21
    else
    bp (f_X9_readRun N s18) fun s22 =>
    vl (s22.1 1 9) fun v23 =>
    vl (s22.1 1 8) fun v24 =>
    if v23 = v24 then
      bp (f_X9_readSign s22) fun s25 =>
      some s25
    else
    some s22) N v1

theorem qX9_next_0 : Dc mX9_next 0 (.aload_n 0) 1 1 := ⟨by decide +kernel, rfl⟩
theorem qX9_next_1 : Dc mX9_next 1 (.getfield 32) 3 4 := ⟨by decide +kernel, rfl⟩
theorem qX9_next_4 : Dc mX9_next 4 (.istore_n 1) 1 5 := ⟨by decide +kernel, rfl⟩
theorem qX9_next_5 : Dc mX9_next 5 (.iload_n 1) 1 6 := ⟨by decide +kernel, rfl⟩
theorem qX9_next_6 : Dc mX9_next 6 (.aload_n 0) 1 7 := ⟨by decide +kernel, rfl⟩
theorem qX9_next_7 : Dc mX9_next 7 (.getfield 25) 3 10 := ⟨by decide +kernel, rfl⟩
theorem qX9_next_10 : Dc mX9_next 10 (.if_icmp .ge 31) 3 13 := ⟨by decide +kernel, rfl⟩
theorem qX9_next_13 : Dc mX9_next 13 (.aload_n 0) 1 14 := ⟨by decide +kernel, rfl⟩
theorem qX9_next_14 : Dc mX9_next 14 (.getfield 9) 3 17 := ⟨by decide +kernel, rfl⟩
theorem qX9_next_17 : Dc mX9_next 17 (.iload_n 1) 1 18 := ⟨by decide +kernel, rfl⟩
theorem qX9_next_18 : Dc mX9_next 18 (.iaload) 1 19 := ⟨by decide +kernel, rfl⟩
theorem qX9_next_19 : Dc mX9_next 19 (.bipush 32) 2 21 := ⟨by decide +kernel, rfl⟩
theorem qX9_next_21 : Dc mX9_next 21 (.if_icmp .eq 14) 3 24 := ⟨by decide +kernel, rfl⟩
theorem qX9_next_24 : Dc mX9_next 24 (.aload_n 0) 1 25 := ⟨by decide +kernel, rfl⟩
theorem qX9_next_25 : Dc mX9_next 25 (.getfield 9) 3 28 := ⟨by decide +kernel, rfl⟩
theorem qX9_next_28 : Dc mX9_next 28 (.iload_n 1) 1 29 := ⟨by decide +kernel, rfl⟩
theorem qX9_next_29 : Dc mX9_next 29 (.iaload) 1 30 := ⟨by decide +kernel, rfl⟩
theorem qX9_next_30 : Dc mX9_next 30 (.bipush 10) 2 32 := ⟨by decide +kernel, rfl⟩
theorem qX9_next_32 : Dc mX9_next 32 (.if_icmp .ne 9) 3 35 := ⟨by decide +kernel, rfl⟩
theorem qX9_next_35 : Dc mX9_next 35 (.iinc 1 1) 3 38 := ⟨by decide +kernel, rfl⟩
theorem qX9_next_38 : Dc mX9_next 38 (.goto (-33)) 3 41 := ⟨by decide +kernel, rfl⟩
theorem qX9_next_41 : Dc mX9_next 41 (.aload_n 0) 1 42 := ⟨by decide +kernel, rfl⟩
theorem qX9_next_42 : Dc mX9_next 42 (.iload_n 1) 1 43 := ⟨by decide +kernel, rfl⟩
theorem qX9_next_43 : Dc mX9_next 43 (.aload_n 0) 1 44 := ⟨by decide +kernel, rfl⟩
theorem qX9_next_44 : Dc mX9_next 44 (.getfield 25) 3 47 := ⟨by decide +kernel, rfl⟩
theorem qX9_next_47 : Dc mX9_next 47 (.invokestatic 19) 3 50 := ⟨by decide +kernel, rfl⟩
theorem qX9_next_50 : Dc mX9_next 50 (.putfield 44) 3 53 := ⟨by decide +kernel, rfl⟩
theorem qX9_next_53 : Dc mX9_next 53 (.aload_n 0) 1 54 := ⟨by decide +kernel, rfl⟩
theorem qX9_next_54 : Dc mX9_next 54 (.lconst 0) 1 55 := ⟨by decide +kernel, rfl⟩
theorem qX9_next_55 : Dc mX9_next 55 (.putfield 47) 3 58 := ⟨by decide +kernel, rfl⟩
theorem qX9_next_58 : Dc mX9_next 58 (.aload_n 0) 1 59 := ⟨by decide +kernel, rfl⟩
theorem qX9_next_59 : Dc mX9_next 59 (.iconst 0) 1 60 := ⟨by decide +kernel, rfl⟩
theorem qX9_next_60 : Dc mX9_next 60 (.putfield 51) 3 63 := ⟨by decide +kernel, rfl⟩
theorem qX9_next_63 : Dc mX9_next 63 (.aload_n 0) 1 64 := ⟨by decide +kernel, rfl⟩
theorem qX9_next_64 : Dc mX9_next 64 (.getfield 44) 3 67 := ⟨by decide +kernel, rfl⟩
theorem qX9_next_67 : Dc mX9_next 67 (.aload_n 0) 1 68 := ⟨by decide +kernel, rfl⟩
theorem qX9_next_68 : Dc mX9_next 68 (.getfield 25) 3 71 := ⟨by decide +kernel, rfl⟩
theorem qX9_next_71 : Dc mX9_next 71 (.if_icmp .ne 9) 3 74 := ⟨by decide +kernel, rfl⟩
theorem qX9_next_74 : Dc mX9_next 74 (.aload_n 0) 1 75 := ⟨by decide +kernel, rfl⟩
theorem qX9_next_75 : Dc mX9_next 75 (.iconst 0) 1 76 := ⟨by decide +kernel, rfl⟩
theorem qX9_next_76 : Dc mX9_next 76 (.putfield 54) 3 79 := ⟨by decide +kernel, rfl⟩
theorem qX9_next_79 : Dc mX9_next 79 (.return_) 1 80 := ⟨by decide +kernel, rfl⟩
theorem qX9_next_80 : Dc mX9_next 80 (.aload_n 0) 1 81 := ⟨by decide +kernel, rfl⟩
theorem qX9_next_81 : Dc mX9_next 81 (.invokevirtual 57) 3 84 := ⟨by decide +kernel, rfl⟩
theorem qX9_next_84 : Dc mX9_next 84 (.aload_n 0) 1 85 := ⟨by decide +kernel, rfl⟩
theorem qX9_next_85 : Dc mX9_next 85 (.getfield 32) 3 88 := ⟨by decide +kernel, rfl⟩
theorem qX9_next_88 : Dc mX9_next 88 (.aload_n 0) 1 89 := ⟨by decide +kernel, rfl⟩
theorem qX9_next_89 : Dc mX9_next 89 (.getfield 44) 3 92 := ⟨by decide +kernel, rfl⟩
theorem qX9_next_92 : Dc mX9_next 92 (.if_icmp .ne 7) 3 95 := ⟨by decide +kernel, rfl⟩
theorem qX9_next_95 : Dc mX9_next 95 (.aload_n 0) 1 96 := ⟨by decide +kernel, rfl⟩
theorem qX9_next_96 : Dc mX9_next 96 (.invokevirtual 60) 3 99 := ⟨by decide +kernel, rfl⟩
theorem qX9_next_99 : Dc mX9_next 99 (.return_) 1 100 := ⟨by decide +kernel, rfl⟩

set_option maxRecDepth 20000 in
set_option maxHeartbeats 4000000 in
theorem w_X9_next_L5 {N : Nat}  {s3 : St} {k4 : Int32 → Option (St)} {sr : St}  (hk4 : ∀ (v5 : Int32), k4 v5 = some sr → E mX9_next 1 (none, sr) 41 [some (.ref 1), some (.int v5)] [] s3) : ∀ (n6 : Nat) (v2 : Int32), f_X9_next_L5 N s3 k4 n6 v2 = some sr → E mX9_next 1 (none, sr) 5 [some (.ref 1), some (.int v2)] [] s3 := by
  intro n6
  induction n6 with
  | zero =>
    intro v2 h
    rw [f_X9_next_L5] at h; cases h
  | succ n6 ih7 =>
    intro v2 h
    rw [f_X9_next_L5] at h
    refine e_iload_n qX9_next_5 rfl ?_
    refine e_aload_n qX9_next_6 rfl ?_
    refine e_geti qX9_next_7 fl_X9_25 shq_1 kdq_9_10 h (fun v8 h => ?_)
    refine e_icmp_ge (tgt := 41) qX9_next_10 rfl h (fun _ h => ?_) (fun _ h => ?_)
    · exact e_weak (hk4 _ h) ⟨Or.inr rfl, Or.inr rfl, trivial⟩
    refine e_aload_n qX9_next_13 rfl ?_
    refine e_getr 2 qX9_next_14 fl_X9_9 shq_1 kdq_9_0 rrq_1_0 ?_
    refine e_iload_n qX9_next_17 rfl ?_
    refine e_iald qX9_next_18 shq_2 lnq_2 h (fun v9 h => ?_)
    refine e_bipush (nI 32) qX9_next_19 rfl ?_
    refine jn_e (fun j => j = some sr → E mX9_next 1 (none, sr) 35 [some (.ref 1), some (.int v2)] [] s3) h ?_ (fun j10 hj10 h => ?_)
    · intro h
      refine vl_e h (fun h => ?_)
      obtain ⟨v11, ev11⟩ : ∃ y, v2 + (nI 1) = y := ⟨_, rfl⟩
      rw [ev11] at h
      refine e_iinc (nI 1) v11 (lv2 := [some (.ref 1), some (.int v11)]) qX9_next_35 rfl rfl rfl ev11 rfl ?_
      refine e_goto (tgt := 5) qX9_next_38 rfl ?_
      exact e_weak (ih7 _ h) ⟨Or.inr rfl, Or.inr rfl, trivial⟩
    refine e_icmp_eq (tgt := 35) qX9_next_21 rfl h (fun _ h => ?_) (fun _ h => ?_)
    · exact e_weak (hj10 h) ⟨Or.inr rfl, Or.inr rfl, trivial⟩
    refine e_aload_n qX9_next_24 rfl ?_
    refine e_getr 2 qX9_next_25 fl_X9_9 shq_1 kdq_9_0 rrq_1_0 ?_
    refine e_iload_n qX9_next_28 rfl ?_
    refine e_iald qX9_next_29 shq_2 lnq_2 h (fun v12 h => ?_)
    refine e_bipush (nI 10) qX9_next_30 rfl ?_
    refine e_icmp_ne (tgt := 41) qX9_next_32 rfl h (fun _ h => ?_) (fun _ h => ?_)
    · exact e_weak (hj10 h) ⟨Or.inr rfl, Or.inr rfl, trivial⟩
    exact e_weak (hk4 _ h) ⟨Or.inr rfl, Or.inr rfl, trivial⟩

set_option maxRecDepth 20000 in
set_option maxHeartbeats 4000000 in
theorem w_X9_next {N : Nat}  {s0 : St} {sr : St} (h : f_X9_next N  s0 = some sr) : Ct mX9_next 1 [.ref 1] s0 (none, sr) := by
  refine Ct.ofE (by decide +kernel) rfl ?_
  show E mX9_next 1 (none, sr) 0 [some (.ref 1), none] [] s0
  unfold f_X9_next at h
  refine e_aload_n qX9_next_0 rfl ?_
  refine e_geti qX9_next_1 fl_X9_32 shq_1 kdq_9_9 h (fun v1 h => ?_)
  refine e_istore_n (lv2 := [some (.ref 1), some (.int v1)]) qX9_next_4 rfl rfl rfl ?_
  refine e_weak (w_X9_next_L5 (fun v13 h => ?_) _ _ h) ⟨Or.inr rfl, Or.inr rfl, trivial⟩
  refine e_aload_n qX9_next_41 rfl ?_
  refine e_iload_n qX9_next_42 rfl ?_
  refine e_aload_n qX9_next_43 rfl ?_
  refine e_geti qX9_next_44 fl_X9_25 shq_1 kdq_9_10 h (fun v14 h => ?_)
  refine e_mmin qX9_next_47 cm_X9_19 (by decide) rfl h (fun v15 h => ?_)
  refine e_puti qX9_next_50 fp_X9_44 shq_1 kdq_9_8 h (fun s16 h => ?_)
  refine e_aload_n qX9_next_53 rfl ?_
  refine e_lconst (0 : Int64) qX9_next_54 rfl ?_
  refine e_putl qX9_next_55 fp_X9_47 shq_1 kdq_9_3 h (fun s17 h => ?_)
  refine e_aload_n qX9_next_58 rfl ?_
  refine e_iconst (nI 0) qX9_next_59 rfl ?_
  refine e_puti qX9_next_60 fp_X9_51 shq_1 kdq_9_4 h (fun s18 h => ?_)
  refine e_aload_n qX9_next_63 rfl ?_
  refine e_geti qX9_next_64 fl_X9_44 shq_1 kdq_9_8 h (fun v19 h => ?_)
  refine e_aload_n qX9_next_67 rfl ?_
  refine e_geti qX9_next_68 fl_X9_25 shq_1 kdq_9_10 h (fun v20 h => ?_)
  refine e_icmp_ne (tgt := 80) qX9_next_71 rfl h (fun _ h => ?_) (fun _ h => ?_)
  · refine e_aload_n qX9_next_74 rfl ?_
    refine e_iconst (nI 0) qX9_next_75 rfl ?_
    refine e_puti qX9_next_76 fp_X9_54 shq_1 kdq_9_2 h (fun s21 h => ?_)
    exact e_vret qX9_next_79 rfl (ret_v h)
  refine e_aload_n qX9_next_80 rfl ?_
  obtain ⟨s22, hc, h⟩ := bp_e h
  refine e_cVv0 qX9_next_81 mv_X9_57 shq_1 rfl rfl (w_X9_readRun hc) ?_
  refine e_aload_n qX9_next_84 rfl ?_
  refine e_geti qX9_next_85 fl_X9_32 shq_1 kdq_9_9 h (fun v23 h => ?_)
  refine e_aload_n qX9_next_88 rfl ?_
  refine e_geti qX9_next_89 fl_X9_44 shq_1 kdq_9_8 h (fun v24 h => ?_)
  refine e_icmp_ne (tgt := 99) qX9_next_92 rfl h (fun _ h => ?_) (fun _ h => ?_)
  · refine e_aload_n qX9_next_95 rfl ?_
    obtain ⟨s25, hc, h⟩ := bp_e h
    refine e_cVv0 qX9_next_96 mv_X9_60 shq_1 rfl rfl (w_X9_readSign hc) ?_
    exact e_vret qX9_next_99 rfl (ret_v h)
  exact e_vret qX9_next_99 rfl (ret_v h)

def f_X9_isName (N : Nat)  (s0 : St) : Option (Int32) :=
  vl (s0.1 1 2) fun v1 =>
  jn (some (nI 0)) fun j2 =>
  if v1 = (nI 1) then
    vl (s0.2 1 3) fun v3 =>
    bp (f_X10_isReserved N v3 s0) fun v4 =>
    if v4 = 0 then
      some (nI 1)
    else
    j2
  else
  j2

theorem qX9_isName_0 : Dc mX9_isName 0 (.aload_n 0) 1 1 := ⟨by decide +kernel, rfl⟩
theorem qX9_isName_1 : Dc mX9_isName 1 (.getfield 54) 3 4 := ⟨by decide +kernel, rfl⟩
theorem qX9_isName_4 : Dc mX9_isName 4 (.iconst 1) 1 5 := ⟨by decide +kernel, rfl⟩
theorem qX9_isName_5 : Dc mX9_isName 5 (.if_icmp .ne 17) 3 8 := ⟨by decide +kernel, rfl⟩
theorem qX9_isName_8 : Dc mX9_isName 8 (.aload_n 0) 1 9 := ⟨by decide +kernel, rfl⟩
theorem qX9_isName_9 : Dc mX9_isName 9 (.getfield 47) 3 12 := ⟨by decide +kernel, rfl⟩
theorem qX9_isName_12 : Dc mX9_isName 12 (.invokestatic 66) 3 15 := ⟨by decide +kernel, rfl⟩
theorem qX9_isName_15 : Dc mX9_isName 15 (.ifCond .ne 7) 3 18 := ⟨by decide +kernel, rfl⟩
theorem qX9_isName_18 : Dc mX9_isName 18 (.iconst 1) 1 19 := ⟨by decide +kernel, rfl⟩
theorem qX9_isName_19 : Dc mX9_isName 19 (.goto 4) 3 22 := ⟨by decide +kernel, rfl⟩
theorem qX9_isName_22 : Dc mX9_isName 22 (.iconst 0) 1 23 := ⟨by decide +kernel, rfl⟩
theorem qX9_isName_23 : Dc mX9_isName 23 (.ireturn) 1 24 := ⟨by decide +kernel, rfl⟩

set_option maxRecDepth 20000 in
set_option maxHeartbeats 4000000 in
theorem w_X9_isName {N : Nat}  {s0 : St} {r : Int32} (h : f_X9_isName N  s0 = some r) : Ct mX9_isName 1 [.ref 1] s0 (some (.int r), s0) := by
  refine Ct.ofE (by decide +kernel) rfl ?_
  show E mX9_isName 1 (some (.int r), s0) 0 [some (.ref 1)] [] s0
  unfold f_X9_isName at h
  refine e_aload_n qX9_isName_0 rfl ?_
  refine e_geti qX9_isName_1 fl_X9_54 shq_1 kdq_9_2 h (fun v1 h => ?_)
  refine e_iconst (nI 1) qX9_isName_4 rfl ?_
  refine jn_e (fun j => j = some r → E mX9_isName 1 (some (.int r), s0) 22 [none] [] s0) h ?_ (fun j2 hj2 h => ?_)
  · intro h
    refine e_iconst (nI 0) qX9_isName_22 rfl ?_
    exact e_zret qX9_isName_23 rfl (by decide) (ret_p h)
  refine e_icmp_ne (tgt := 22) qX9_isName_5 rfl h (fun _ h => ?_) (fun _ h => ?_)
  · refine e_aload_n qX9_isName_8 rfl ?_
    refine e_getl qX9_isName_9 fl_X9_47 shq_1 kdq_9_3 h (fun v3 h => ?_)
    obtain ⟨v4, hc, h⟩ := bp_e h
    refine e_cSi1 qX9_isName_12 ms_X9_66 rfl rfl (w_X10_isReserved hc) ?_
    refine e_if_ne (tgt := 22) qX9_isName_15 rfl h (fun _ h => ?_) (fun _ h => ?_)
    · refine e_iconst (nI 1) qX9_isName_18 rfl ?_
      refine e_goto (tgt := 23) qX9_isName_19 rfl ?_
      exact e_zret qX9_isName_23 rfl (by decide) (ret_p h)
    exact e_weak (hj2 h) ⟨Or.inl rfl, trivial⟩
  exact e_weak (hj2 h) ⟨Or.inl rfl, trivial⟩

def f_X9_takeNumber (N : Nat) (x1 : Int32) (x2 : Int32) (s0 : St) : Option (Int32 × St) :=
  bd (f_X9_atNumber x1 x2 s0) fun v1 s2 =>
  if v1 = 0 then
    some ((nI 0), s2)
  else
  vl (s2.1 1 4) fun v3 =>
  vl (sI s2 1 5 v3) fun s4 =>
  bp (f_X9_next N s4) fun s5 =>
  some ((nI 1), s5)

theorem qX9_takeNumber_0 : Dc mX9_takeNumber 0 (.aload_n 0) 1 1 := ⟨by decide +kernel, rfl⟩
theorem qX9_takeNumber_1 : Dc mX9_takeNumber 1 (.iload_n 1) 1 2 := ⟨by decide +kernel, rfl⟩
theorem qX9_takeNumber_2 : Dc mX9_takeNumber 2 (.iload_n 2) 1 3 := ⟨by decide +kernel, rfl⟩
theorem qX9_takeNumber_3 : Dc mX9_takeNumber 3 (.invokevirtual 74) 3 6 := ⟨by decide +kernel, rfl⟩
theorem qX9_takeNumber_6 : Dc mX9_takeNumber 6 (.ifCond .ne 5) 3 9 := ⟨by decide +kernel, rfl⟩
theorem qX9_takeNumber_9 : Dc mX9_takeNumber 9 (.iconst 0) 1 10 := ⟨by decide +kernel, rfl⟩
theorem qX9_takeNumber_10 : Dc mX9_takeNumber 10 (.ireturn) 1 11 := ⟨by decide +kernel, rfl⟩
theorem qX9_takeNumber_11 : Dc mX9_takeNumber 11 (.aload_n 0) 1 12 := ⟨by decide +kernel, rfl⟩
theorem qX9_takeNumber_12 : Dc mX9_takeNumber 12 (.aload_n 0) 1 13 := ⟨by decide +kernel, rfl⟩
theorem qX9_takeNumber_13 : Dc mX9_takeNumber 13 (.getfield 51) 3 16 := ⟨by decide +kernel, rfl⟩
theorem qX9_takeNumber_16 : Dc mX9_takeNumber 16 (.putfield 78) 3 19 := ⟨by decide +kernel, rfl⟩
theorem qX9_takeNumber_19 : Dc mX9_takeNumber 19 (.aload_n 0) 1 20 := ⟨by decide +kernel, rfl⟩
theorem qX9_takeNumber_20 : Dc mX9_takeNumber 20 (.invokevirtual 41) 3 23 := ⟨by decide +kernel, rfl⟩
theorem qX9_takeNumber_23 : Dc mX9_takeNumber 23 (.iconst 1) 1 24 := ⟨by decide +kernel, rfl⟩
theorem qX9_takeNumber_24 : Dc mX9_takeNumber 24 (.ireturn) 1 25 := ⟨by decide +kernel, rfl⟩

set_option maxRecDepth 20000 in
set_option maxHeartbeats 4000000 in
theorem w_X9_takeNumber {N : Nat} {x1 : Int32} {x2 : Int32} {s0 : St} {r : Int32} {sr : St} (h : f_X9_takeNumber N x1 x2 s0 = some (r, sr)) : Ct mX9_takeNumber 2 [.ref 1, .int x1, .int x2] s0 (some (.int r), sr) := by
  refine Ct.ofE (by decide +kernel) rfl ?_
  show E mX9_takeNumber 2 (some (.int r), sr) 0 [some (.ref 1), some (.int x1), some (.int x2)] [] s0
  unfold f_X9_takeNumber at h
  refine e_aload_n qX9_takeNumber_0 rfl ?_
  refine e_iload_n qX9_takeNumber_1 rfl ?_
  refine e_iload_n qX9_takeNumber_2 rfl ?_
  obtain ⟨v1, s2, hc, h⟩ := bd_e h
  refine e_cVi2 qX9_takeNumber_3 mv_X9_74 shq_1 rfl rfl (w_X9_atNumber hc) ?_
  refine e_if_ne (tgt := 11) qX9_takeNumber_6 rfl h (fun _ h => ?_) (fun _ h => ?_)
  · refine e_iconst (nI 0) qX9_takeNumber_9 rfl ?_
    exact e_zret qX9_takeNumber_10 rfl (by decide) (ret_i h)
  refine e_aload_n qX9_takeNumber_11 rfl ?_
  refine e_aload_n qX9_takeNumber_12 rfl ?_
  refine e_geti qX9_takeNumber_13 fl_X9_51 shq_1 kdq_9_4 h (fun v3 h => ?_)
  refine e_puti qX9_takeNumber_16 fp_X9_78 shq_1 kdq_9_5 h (fun s4 h => ?_)
  refine e_aload_n qX9_takeNumber_19 rfl ?_
  obtain ⟨s5, hc, h⟩ := bp_e h
  refine e_cVv0 qX9_takeNumber_20 mv_X9_41 shq_1 rfl rfl (w_X9_next hc) ?_
  refine e_iconst (nI 1) qX9_takeNumber_23 rfl ?_
  exact e_zret qX9_takeNumber_24 rfl (by decide) (ret_i h)

def f_X9_takeSign (N : Nat) (x1 : Int32) (s0 : St) : Option (Int32 × St) :=
  bp (f_X9_isSign x1 s0) fun v1 =>
  if v1 = 0 then
    bd (f_X9_refuse (nI 1) s0) fun v2 s3 =>
    rz v2 <|
    some (v2, s3)
  else
  bp (f_X9_next N s0) fun s4 =>
  some ((nI 1), s4)

theorem qX9_takeSign_0 : Dc mX9_takeSign 0 (.aload_n 0) 1 1 := ⟨by decide +kernel, rfl⟩
theorem qX9_takeSign_1 : Dc mX9_takeSign 1 (.iload_n 1) 1 2 := ⟨by decide +kernel, rfl⟩
theorem qX9_takeSign_2 : Dc mX9_takeSign 2 (.invokevirtual 81) 3 5 := ⟨by decide +kernel, rfl⟩
theorem qX9_takeSign_5 : Dc mX9_takeSign 5 (.ifCond .ne 9) 3 8 := ⟨by decide +kernel, rfl⟩
theorem qX9_takeSign_8 : Dc mX9_takeSign 8 (.aload_n 0) 1 9 := ⟨by decide +kernel, rfl⟩
theorem qX9_takeSign_9 : Dc mX9_takeSign 9 (.iconst 1) 1 10 := ⟨by decide +kernel, rfl⟩
theorem qX9_takeSign_10 : Dc mX9_takeSign 10 (.invokevirtual 70) 3 13 := ⟨by decide +kernel, rfl⟩
theorem qX9_takeSign_13 : Dc mX9_takeSign 13 (.ireturn) 1 14 := ⟨by decide +kernel, rfl⟩
theorem qX9_takeSign_14 : Dc mX9_takeSign 14 (.aload_n 0) 1 15 := ⟨by decide +kernel, rfl⟩
theorem qX9_takeSign_15 : Dc mX9_takeSign 15 (.invokevirtual 41) 3 18 := ⟨by decide +kernel, rfl⟩
theorem qX9_takeSign_18 : Dc mX9_takeSign 18 (.iconst 1) 1 19 := ⟨by decide +kernel, rfl⟩
theorem qX9_takeSign_19 : Dc mX9_takeSign 19 (.ireturn) 1 20 := ⟨by decide +kernel, rfl⟩

set_option maxRecDepth 20000 in
set_option maxHeartbeats 4000000 in
theorem w_X9_takeSign {N : Nat} {x1 : Int32} {s0 : St} {r : Int32} {sr : St} (h : f_X9_takeSign N x1 s0 = some (r, sr)) : Ct mX9_takeSign 2 [.ref 1, .int x1] s0 (some (.int r), sr) := by
  refine Ct.ofE (by decide +kernel) rfl ?_
  show E mX9_takeSign 2 (some (.int r), sr) 0 [some (.ref 1), some (.int x1)] [] s0
  unfold f_X9_takeSign at h
  refine e_aload_n qX9_takeSign_0 rfl ?_
  refine e_iload_n qX9_takeSign_1 rfl ?_
  obtain ⟨v1, hc, h⟩ := bp_e h
  refine e_cVi1 qX9_takeSign_2 mv_X9_81 shq_1 rfl rfl (w_X9_isSign hc) ?_
  refine e_if_ne (tgt := 14) qX9_takeSign_5 rfl h (fun _ h => ?_) (fun _ h => ?_)
  · refine e_aload_n qX9_takeSign_8 rfl ?_
    refine e_iconst (nI 1) qX9_takeSign_9 rfl ?_
    obtain ⟨v2, s3, hc, h⟩ := bd_e h
    refine e_cVi1 qX9_takeSign_10 mv_X9_70 shq_1 rfl rfl (w_X9_refuse hc) ?_
    refine rz_e h (fun hz h => ?_)
    exact e_zret qX9_takeSign_13 rfl hz (ret_i h)
  refine e_aload_n qX9_takeSign_14 rfl ?_
  obtain ⟨s4, hc, h⟩ := bp_e h
  refine e_cVv0 qX9_takeSign_15 mv_X9_41 shq_1 rfl rfl (w_X9_next hc) ?_
  refine e_iconst (nI 1) qX9_takeSign_18 rfl ?_
  exact e_zret qX9_takeSign_19 rfl (by decide) (ret_i h)

def f_X9_fitsFrom_L2 (N : Nat) (c1 : Nat) (c2 : Int32) (s0 : St) : Nat → Int32 → Option (Int32)
  | 0, _ => none
  | n4 + 1, v3 =>
    vl (s0.1 1 1) fun v6 =>
    if v6 ≤ v3 then
      some (nI 1)
    else
    bp (f_X4_shownAt c1 (c2 + v3) s0) fun v7 =>
    ald (s0.1 2) 940 v3 fun v8 =>
    if v7 = v8 then
      vl (v3 + (nI 1)) fun v9 =>
      f_X9_fitsFrom_L2 N c1 c2 s0 n4 v9
    else
    some (nI 0)

def f_X9_fitsFrom (N : Nat) (a1 : Nat) (x2 : Int32) (s0 : St) : Option (Int32) :=
  f_X9_fitsFrom_L2 N a1 x2 s0 N (nI 0)

theorem qX9_fitsFrom_0 : Dc mX9_fitsFrom 0 (.iconst 0) 1 1 := ⟨by decide +kernel, rfl⟩
theorem qX9_fitsFrom_1 : Dc mX9_fitsFrom 1 (.istore_n 3) 1 2 := ⟨by decide +kernel, rfl⟩
theorem qX9_fitsFrom_2 : Dc mX9_fitsFrom 2 (.iload_n 3) 1 3 := ⟨by decide +kernel, rfl⟩
theorem qX9_fitsFrom_3 : Dc mX9_fitsFrom 3 (.aload_n 0) 1 4 := ⟨by decide +kernel, rfl⟩
theorem qX9_fitsFrom_4 : Dc mX9_fitsFrom 4 (.getfield 15) 3 7 := ⟨by decide +kernel, rfl⟩
theorem qX9_fitsFrom_7 : Dc mX9_fitsFrom 7 (.if_icmp .ge 27) 3 10 := ⟨by decide +kernel, rfl⟩
theorem qX9_fitsFrom_10 : Dc mX9_fitsFrom 10 (.aload_n 1) 1 11 := ⟨by decide +kernel, rfl⟩
theorem qX9_fitsFrom_11 : Dc mX9_fitsFrom 11 (.iload_n 2) 1 12 := ⟨by decide +kernel, rfl⟩
theorem qX9_fitsFrom_12 : Dc mX9_fitsFrom 12 (.iload_n 3) 1 13 := ⟨by decide +kernel, rfl⟩
theorem qX9_fitsFrom_13 : Dc mX9_fitsFrom 13 (.iadd) 1 14 := ⟨by decide +kernel, rfl⟩
theorem qX9_fitsFrom_14 : Dc mX9_fitsFrom 14 (.invokevirtual 94) 3 17 := ⟨by decide +kernel, rfl⟩
theorem qX9_fitsFrom_17 : Dc mX9_fitsFrom 17 (.aload_n 0) 1 18 := ⟨by decide +kernel, rfl⟩
theorem qX9_fitsFrom_18 : Dc mX9_fitsFrom 18 (.getfield 9) 3 21 := ⟨by decide +kernel, rfl⟩
theorem qX9_fitsFrom_21 : Dc mX9_fitsFrom 21 (.iload_n 3) 1 22 := ⟨by decide +kernel, rfl⟩
theorem qX9_fitsFrom_22 : Dc mX9_fitsFrom 22 (.iaload) 1 23 := ⟨by decide +kernel, rfl⟩
theorem qX9_fitsFrom_23 : Dc mX9_fitsFrom 23 (.if_icmp .eq 5) 3 26 := ⟨by decide +kernel, rfl⟩
theorem qX9_fitsFrom_26 : Dc mX9_fitsFrom 26 (.iconst 0) 1 27 := ⟨by decide +kernel, rfl⟩
theorem qX9_fitsFrom_27 : Dc mX9_fitsFrom 27 (.ireturn) 1 28 := ⟨by decide +kernel, rfl⟩
theorem qX9_fitsFrom_28 : Dc mX9_fitsFrom 28 (.iinc 3 1) 3 31 := ⟨by decide +kernel, rfl⟩
theorem qX9_fitsFrom_31 : Dc mX9_fitsFrom 31 (.goto (-29)) 3 34 := ⟨by decide +kernel, rfl⟩
theorem qX9_fitsFrom_34 : Dc mX9_fitsFrom 34 (.iconst 1) 1 35 := ⟨by decide +kernel, rfl⟩
theorem qX9_fitsFrom_35 : Dc mX9_fitsFrom 35 (.ireturn) 1 36 := ⟨by decide +kernel, rfl⟩

set_option maxRecDepth 20000 in
set_option maxHeartbeats 4000000 in
theorem w_X9_fitsFrom_L2 {N : Nat} {c1 : Nat} {c2 : Int32} {s0 : St}  {r : Int32} (h_c1 : sh c1 = 4)  : ∀ (n4 : Nat) (v3 : Int32), f_X9_fitsFrom_L2 N c1 c2 s0 n4 v3 = some r → E mX9_fitsFrom 2 (some (.int r), s0) 2 [some (.ref 1), some (.ref c1), some (.int c2), some (.int v3)] [] s0 := by
  intro n4
  induction n4 with
  | zero =>
    intro v3 h
    rw [f_X9_fitsFrom_L2] at h; cases h
  | succ n4 ih5 =>
    intro v3 h
    rw [f_X9_fitsFrom_L2] at h
    refine e_iload_n qX9_fitsFrom_2 rfl ?_
    refine e_aload_n qX9_fitsFrom_3 rfl ?_
    refine e_geti qX9_fitsFrom_4 fl_X9_15 shq_1 kdq_9_1 h (fun v6 h => ?_)
    refine e_icmp_ge (tgt := 34) qX9_fitsFrom_7 rfl h (fun _ h => ?_) (fun _ h => ?_)
    · refine e_iconst (nI 1) qX9_fitsFrom_34 rfl ?_
      exact e_zret qX9_fitsFrom_35 rfl (by decide) (ret_p h)
    refine e_aload_n qX9_fitsFrom_10 rfl ?_
    refine e_iload_n qX9_fitsFrom_11 rfl ?_
    refine e_iload_n qX9_fitsFrom_12 rfl ?_
    refine e_iadd qX9_fitsFrom_13 ?_
    obtain ⟨v7, hc, h⟩ := bp_e h
    refine e_cVi1 qX9_fitsFrom_14 mv_X9_94 h_c1 rfl rfl (w_X4_shownAt h_c1 hc) ?_
    refine e_aload_n qX9_fitsFrom_17 rfl ?_
    refine e_getr 2 qX9_fitsFrom_18 fl_X9_9 shq_1 kdq_9_0 rrq_1_0 ?_
    refine e_iload_n qX9_fitsFrom_21 rfl ?_
    refine e_iald qX9_fitsFrom_22 shq_2 lnq_2 h (fun v8 h => ?_)
    refine e_icmp_eq (tgt := 28) qX9_fitsFrom_23 rfl h (fun _ h => ?_) (fun _ h => ?_)
    · refine vl_e h (fun h => ?_)
      obtain ⟨v9, ev9⟩ : ∃ y, v3 + (nI 1) = y := ⟨_, rfl⟩
      rw [ev9] at h
      refine e_iinc (nI 1) v9 (lv2 := [some (.ref 1), some (.ref c1), some (.int c2), some (.int v9)]) qX9_fitsFrom_28 rfl rfl rfl ev9 rfl ?_
      refine e_goto (tgt := 2) qX9_fitsFrom_31 rfl ?_
      exact e_weak (ih5 _ h) ⟨Or.inr rfl, Or.inr rfl, Or.inr rfl, Or.inr rfl, trivial⟩
    refine e_iconst (nI 0) qX9_fitsFrom_26 rfl ?_
    exact e_zret qX9_fitsFrom_27 rfl (by decide) (ret_p h)

set_option maxRecDepth 20000 in
set_option maxHeartbeats 4000000 in
theorem w_X9_fitsFrom {N : Nat} {a1 : Nat} {x2 : Int32} {s0 : St} {r : Int32} (h_a1 : sh a1 = 4) (h : f_X9_fitsFrom N a1 x2 s0 = some r) : Ct mX9_fitsFrom 2 [.ref 1, .ref a1, .int x2] s0 (some (.int r), s0) := by
  refine Ct.ofE (by decide +kernel) rfl ?_
  show E mX9_fitsFrom 2 (some (.int r), s0) 0 [some (.ref 1), some (.ref a1), some (.int x2), none] [] s0
  unfold f_X9_fitsFrom at h
  refine e_iconst (nI 0) qX9_fitsFrom_0 rfl ?_
  refine e_istore_n (lv2 := [some (.ref 1), some (.ref a1), some (.int x2), some (.int (nI 0))]) qX9_fitsFrom_1 rfl rfl rfl ?_
  exact e_weak (w_X9_fitsFrom_L2 h_a1  _ _ h) ⟨Or.inr rfl, Or.inr rfl, Or.inr rfl, Or.inr rfl, trivial⟩

def f_X11_character (x1 : Int32) (x2 : Int32) (s0 : St) : Option (Int32) :=
  bp (f_X11_isLight x1 s0) fun v1 =>
  if v1 = 0 then
    some (-1)
  else
  if x2 < 0 then
    some (-1)
  else
  ald (rr 4) 8 x1 fun v2 =>
  vl (s0.1 v2 10) fun v4 =>
  if x2 < v4 then
    ald (rr 4) 8 x1 fun v5 =>
    ald (s0.1 (rr v5 11)) 160 x2 fun v7 =>
    if v7 = 0 then
      some (nI 0)
    else
    some (nI 1)
  else
  some (-1)

theorem qX11_character_0 : Dc mX11_character 0 (.aload_n 0) 1 1 := ⟨by decide +kernel, rfl⟩
theorem qX11_character_1 : Dc mX11_character 1 (.iload_n 1) 1 2 := ⟨by decide +kernel, rfl⟩
theorem qX11_character_2 : Dc mX11_character 2 (.invokevirtual 135) 3 5 := ⟨by decide +kernel, rfl⟩
theorem qX11_character_5 : Dc mX11_character 5 (.ifCond .eq 23) 3 8 := ⟨by decide +kernel, rfl⟩
theorem qX11_character_8 : Dc mX11_character 8 (.iload_n 2) 1 9 := ⟨by decide +kernel, rfl⟩
theorem qX11_character_9 : Dc mX11_character 9 (.ifCond .lt 19) 3 12 := ⟨by decide +kernel, rfl⟩
theorem qX11_character_12 : Dc mX11_character 12 (.iload_n 2) 1 13 := ⟨by decide +kernel, rfl⟩
theorem qX11_character_13 : Dc mX11_character 13 (.aload_n 0) 1 14 := ⟨by decide +kernel, rfl⟩
theorem qX11_character_14 : Dc mX11_character 14 (.getfield 19) 3 17 := ⟨by decide +kernel, rfl⟩
theorem qX11_character_17 : Dc mX11_character 17 (.getfield 142) 3 20 := ⟨by decide +kernel, rfl⟩
theorem qX11_character_20 : Dc mX11_character 20 (.iload_n 1) 1 21 := ⟨by decide +kernel, rfl⟩
theorem qX11_character_21 : Dc mX11_character 21 (.aaload) 1 22 := ⟨by decide +kernel, rfl⟩
theorem qX11_character_22 : Dc mX11_character 22 (.getfield 163) 3 25 := ⟨by decide +kernel, rfl⟩
theorem qX11_character_25 : Dc mX11_character 25 (.if_icmp .lt 5) 3 28 := ⟨by decide +kernel, rfl⟩
theorem qX11_character_28 : Dc mX11_character 28 (.iconst (-1)) 1 29 := ⟨by decide +kernel, rfl⟩
theorem qX11_character_29 : Dc mX11_character 29 (.ireturn) 1 30 := ⟨by decide +kernel, rfl⟩
theorem qX11_character_30 : Dc mX11_character 30 (.aload_n 0) 1 31 := ⟨by decide +kernel, rfl⟩
theorem qX11_character_31 : Dc mX11_character 31 (.getfield 19) 3 34 := ⟨by decide +kernel, rfl⟩
theorem qX11_character_34 : Dc mX11_character 34 (.getfield 142) 3 37 := ⟨by decide +kernel, rfl⟩
theorem qX11_character_37 : Dc mX11_character 37 (.iload_n 1) 1 38 := ⟨by decide +kernel, rfl⟩
theorem qX11_character_38 : Dc mX11_character 38 (.aaload) 1 39 := ⟨by decide +kernel, rfl⟩
theorem qX11_character_39 : Dc mX11_character 39 (.getfield 182) 3 42 := ⟨by decide +kernel, rfl⟩
theorem qX11_character_42 : Dc mX11_character 42 (.iload_n 2) 1 43 := ⟨by decide +kernel, rfl⟩
theorem qX11_character_43 : Dc mX11_character 43 (.baload) 1 44 := ⟨by decide +kernel, rfl⟩
theorem qX11_character_44 : Dc mX11_character 44 (.ifCond .eq 7) 3 47 := ⟨by decide +kernel, rfl⟩
theorem qX11_character_47 : Dc mX11_character 47 (.iconst 1) 1 48 := ⟨by decide +kernel, rfl⟩
theorem qX11_character_48 : Dc mX11_character 48 (.goto 4) 3 51 := ⟨by decide +kernel, rfl⟩
theorem qX11_character_51 : Dc mX11_character 51 (.iconst 0) 1 52 := ⟨by decide +kernel, rfl⟩
theorem qX11_character_52 : Dc mX11_character 52 (.ireturn) 1 53 := ⟨by decide +kernel, rfl⟩

set_option maxRecDepth 20000 in
set_option maxHeartbeats 4000000 in
theorem w_X11_character {x1 : Int32} {x2 : Int32} {s0 : St} {r : Int32} (h : f_X11_character x1 x2 s0 = some r) : Ct mX11_character 1 [.ref 0, .int x1, .int x2] s0 (some (.int r), s0) := by
  refine Ct.ofE (by decide +kernel) rfl ?_
  show E mX11_character 1 (some (.int r), s0) 0 [some (.ref 0), some (.int x1), some (.int x2)] [] s0
  unfold f_X11_character at h
  refine e_aload_n qX11_character_0 rfl ?_
  refine e_iload_n qX11_character_1 rfl ?_
  obtain ⟨v1, hc, h⟩ := bp_e h
  refine e_cVi1 qX11_character_2 mv_X11_135 shq_0 rfl rfl (w_X11_isLight hc) ?_
  refine e_if_eq (tgt := 28) qX11_character_5 rfl h (fun _ h => ?_) (fun _ h => ?_)
  · refine e_iconst (-1) qX11_character_28 rfl ?_
    exact e_iret qX11_character_29 rfl (ret_p h)
  refine e_iload_n qX11_character_8 rfl ?_
  refine e_if_lt (tgt := 28) qX11_character_9 rfl h (fun _ h => ?_) (fun _ h => ?_)
  · refine e_iconst (-1) qX11_character_28 rfl ?_
    exact e_iret qX11_character_29 rfl (ret_p h)
  refine e_iload_n qX11_character_12 rfl ?_
  refine e_aload_n qX11_character_13 rfl ?_
  refine e_getr 3 qX11_character_14 fl_X11_19 shq_0 kdq_10_1 rrq_0_1 ?_
  refine e_getr 4 qX11_character_17 fl_X11_142 shq_3 kdq_1_0 rrq_3_0 ?_
  refine e_iload_n qX11_character_20 rfl ?_
  refine e_rald24 qX11_character_21 shq_4 lnq_4 h (fun i3 hi3 h => ?_)
  refine e_geti qX11_character_22 fl_X11_163 (we_24 _ shq_4 _ hi3) kdq_4_10 h (fun v4 h => ?_)
  refine e_icmp_lt (tgt := 30) qX11_character_25 rfl h (fun _ h => ?_) (fun _ h => ?_)
  · refine e_aload_n qX11_character_30 rfl ?_
    refine e_getr 3 qX11_character_31 fl_X11_19 shq_0 kdq_10_1 rrq_0_1 ?_
    refine e_getr 4 qX11_character_34 fl_X11_142 shq_3 kdq_1_0 rrq_3_0 ?_
    refine e_iload_n qX11_character_37 rfl ?_
    refine e_rald24 qX11_character_38 shq_4 lnq_4 h (fun i6 hi6 h => ?_)
    refine e_getr (rr (rr 4 i6) 11) qX11_character_39 fl_X11_182 (we_24 _ shq_4 _ hi6) kdq_4_11 rfl ?_
    refine e_iload_n qX11_character_42 rfl ?_
    refine e_zald qX11_character_43 (wt_4_11 _ (we_24 _ shq_4 _ hi6)).1 (wt_4_11 _ (we_24 _ shq_4 _ hi6)).2 h (fun v7 h => ?_)
    refine e_if_eq (tgt := 51) qX11_character_44 rfl h (fun _ h => ?_) (fun _ h => ?_)
    · refine e_iconst (nI 0) qX11_character_51 rfl ?_
      exact e_iret qX11_character_52 rfl (ret_p h)
    refine e_iconst (nI 1) qX11_character_47 rfl ?_
    refine e_goto (tgt := 52) qX11_character_48 rfl ?_
    exact e_iret qX11_character_52 rfl (ret_p h)
  refine e_iconst (-1) qX11_character_28 rfl ?_
  exact e_iret qX11_character_29 rfl (ret_p h)

def f_X11_ship (N : Nat) (x1 : Int32) (x2 : Int32) (s0 : St) : Option (Int32) :=
  bp (f_X11_isShip x1 s0) fun v1 =>
  if v1 = 0 then
    some (-1)
  else
  if x2 = nI 0 then
    ald (s0.1 52) 4 x1 fun v2 =>
    some v2
  else
  if x2 = nI 1 then
    ald (s0.1 53) 4 x1 fun v3 =>
    some v3
  else
  if x2 = nI 2 then
    ald (s0.1 54) 4 x1 fun v4 =>
    some v4
  else
  if x2 = nI 3 then
    ald (rr 5) 4 x1 fun v5 =>
    vl (s0.1 v5 4) fun v7 =>
    some v7
  else
  if x2 = nI 4 then
    ald (s0.1 52) 4 x1 fun v8 =>
    ald (s0.1 53) 4 x1 fun v9 =>
    bp (f_X6_visibleFrom N 49 v8 v9 s0) fun v10 =>
    some v10
  else
  if x2 = nI 5 then
    bp (f_X6_seenBy N 49 x1 s0) fun v11 =>
    some v11
  else
  some (-1)

theorem qX11_ship_0 : Dc mX11_ship 0 (.aload_n 0) 1 1 := ⟨by decide +kernel, rfl⟩
theorem qX11_ship_1 : Dc mX11_ship 1 (.iload_n 1) 1 2 := ⟨by decide +kernel, rfl⟩
theorem qX11_ship_2 : Dc mX11_ship 2 (.invokevirtual 186) 3 5 := ⟨by decide +kernel, rfl⟩
theorem qX11_ship_5 : Dc mX11_ship 5 (.ifCond .ne 5) 3 8 := ⟨by decide +kernel, rfl⟩
theorem qX11_ship_8 : Dc mX11_ship 8 (.iconst (-1)) 1 9 := ⟨by decide +kernel, rfl⟩
theorem qX11_ship_9 : Dc mX11_ship 9 (.ireturn) 1 10 := ⟨by decide +kernel, rfl⟩
theorem qX11_ship_10 : Dc mX11_ship 10 (.iload_n 2) 1 11 := ⟨by decide +kernel, rfl⟩
theorem qX11_ship_11 : Dc mX11_ship 11 (.tableswitch 115 0 5 #[37, 47, 57, 67, 80, 106]) 37 48 := ⟨by decide +kernel, rfl⟩
theorem qX11_ship_48 : Dc mX11_ship 48 (.aload_n 0) 1 49 := ⟨by decide +kernel, rfl⟩
theorem qX11_ship_49 : Dc mX11_ship 49 (.getfield 31) 3 52 := ⟨by decide +kernel, rfl⟩
theorem qX11_ship_52 : Dc mX11_ship 52 (.getfield 189) 3 55 := ⟨by decide +kernel, rfl⟩
theorem qX11_ship_55 : Dc mX11_ship 55 (.iload_n 1) 1 56 := ⟨by decide +kernel, rfl⟩
theorem qX11_ship_56 : Dc mX11_ship 56 (.iaload) 1 57 := ⟨by decide +kernel, rfl⟩
theorem qX11_ship_57 : Dc mX11_ship 57 (.ireturn) 1 58 := ⟨by decide +kernel, rfl⟩
theorem qX11_ship_58 : Dc mX11_ship 58 (.aload_n 0) 1 59 := ⟨by decide +kernel, rfl⟩
theorem qX11_ship_59 : Dc mX11_ship 59 (.getfield 31) 3 62 := ⟨by decide +kernel, rfl⟩
theorem qX11_ship_62 : Dc mX11_ship 62 (.getfield 192) 3 65 := ⟨by decide +kernel, rfl⟩
theorem qX11_ship_65 : Dc mX11_ship 65 (.iload_n 1) 1 66 := ⟨by decide +kernel, rfl⟩
theorem qX11_ship_66 : Dc mX11_ship 66 (.iaload) 1 67 := ⟨by decide +kernel, rfl⟩
theorem qX11_ship_67 : Dc mX11_ship 67 (.ireturn) 1 68 := ⟨by decide +kernel, rfl⟩
theorem qX11_ship_68 : Dc mX11_ship 68 (.aload_n 0) 1 69 := ⟨by decide +kernel, rfl⟩
theorem qX11_ship_69 : Dc mX11_ship 69 (.getfield 31) 3 72 := ⟨by decide +kernel, rfl⟩
theorem qX11_ship_72 : Dc mX11_ship 72 (.getfield 195) 3 75 := ⟨by decide +kernel, rfl⟩
theorem qX11_ship_75 : Dc mX11_ship 75 (.iload_n 1) 1 76 := ⟨by decide +kernel, rfl⟩
theorem qX11_ship_76 : Dc mX11_ship 76 (.iaload) 1 77 := ⟨by decide +kernel, rfl⟩
theorem qX11_ship_77 : Dc mX11_ship 77 (.ireturn) 1 78 := ⟨by decide +kernel, rfl⟩
theorem qX11_ship_78 : Dc mX11_ship 78 (.aload_n 0) 1 79 := ⟨by decide +kernel, rfl⟩
theorem qX11_ship_79 : Dc mX11_ship 79 (.getfield 19) 3 82 := ⟨by decide +kernel, rfl⟩
theorem qX11_ship_82 : Dc mX11_ship 82 (.getfield 198) 3 85 := ⟨by decide +kernel, rfl⟩
theorem qX11_ship_85 : Dc mX11_ship 85 (.iload_n 1) 1 86 := ⟨by decide +kernel, rfl⟩
theorem qX11_ship_86 : Dc mX11_ship 86 (.aaload) 1 87 := ⟨by decide +kernel, rfl⟩
theorem qX11_ship_87 : Dc mX11_ship 87 (.getfield 202) 3 90 := ⟨by decide +kernel, rfl⟩
theorem qX11_ship_90 : Dc mX11_ship 90 (.ireturn) 1 91 := ⟨by decide +kernel, rfl⟩
theorem qX11_ship_91 : Dc mX11_ship 91 (.aload_n 0) 1 92 := ⟨by decide +kernel, rfl⟩
theorem qX11_ship_92 : Dc mX11_ship 92 (.getfield 31) 3 95 := ⟨by decide +kernel, rfl⟩
theorem qX11_ship_95 : Dc mX11_ship 95 (.aload_n 0) 1 96 := ⟨by decide +kernel, rfl⟩
theorem qX11_ship_96 : Dc mX11_ship 96 (.getfield 31) 3 99 := ⟨by decide +kernel, rfl⟩
theorem qX11_ship_99 : Dc mX11_ship 99 (.getfield 189) 3 102 := ⟨by decide +kernel, rfl⟩
theorem qX11_ship_102 : Dc mX11_ship 102 (.iload_n 1) 1 103 := ⟨by decide +kernel, rfl⟩
theorem qX11_ship_103 : Dc mX11_ship 103 (.iaload) 1 104 := ⟨by decide +kernel, rfl⟩
theorem qX11_ship_104 : Dc mX11_ship 104 (.aload_n 0) 1 105 := ⟨by decide +kernel, rfl⟩
theorem qX11_ship_105 : Dc mX11_ship 105 (.getfield 31) 3 108 := ⟨by decide +kernel, rfl⟩
theorem qX11_ship_108 : Dc mX11_ship 108 (.getfield 192) 3 111 := ⟨by decide +kernel, rfl⟩
theorem qX11_ship_111 : Dc mX11_ship 111 (.iload_n 1) 1 112 := ⟨by decide +kernel, rfl⟩
theorem qX11_ship_112 : Dc mX11_ship 112 (.iaload) 1 113 := ⟨by decide +kernel, rfl⟩
theorem qX11_ship_113 : Dc mX11_ship 113 (.invokevirtual 207) 3 116 := ⟨by decide +kernel, rfl⟩
theorem qX11_ship_116 : Dc mX11_ship 116 (.ireturn) 1 117 := ⟨by decide +kernel, rfl⟩
theorem qX11_ship_117 : Dc mX11_ship 117 (.aload_n 0) 1 118 := ⟨by decide +kernel, rfl⟩
theorem qX11_ship_118 : Dc mX11_ship 118 (.getfield 31) 3 121 := ⟨by decide +kernel, rfl⟩
theorem qX11_ship_121 : Dc mX11_ship 121 (.iload_n 1) 1 122 := ⟨by decide +kernel, rfl⟩
theorem qX11_ship_122 : Dc mX11_ship 122 (.invokevirtual 211) 3 125 := ⟨by decide +kernel, rfl⟩
theorem qX11_ship_125 : Dc mX11_ship 125 (.ireturn) 1 126 := ⟨by decide +kernel, rfl⟩
theorem qX11_ship_126 : Dc mX11_ship 126 (.iconst (-1)) 1 127 := ⟨by decide +kernel, rfl⟩
theorem qX11_ship_127 : Dc mX11_ship 127 (.ireturn) 1 128 := ⟨by decide +kernel, rfl⟩

set_option maxRecDepth 20000 in
set_option maxHeartbeats 4000000 in
theorem w_X11_ship {N : Nat} {x1 : Int32} {x2 : Int32} {s0 : St} {r : Int32} (h : f_X11_ship N x1 x2 s0 = some r) : Ct mX11_ship 5 [.ref 0, .int x1, .int x2] s0 (some (.int r), s0) := by
  refine Ct.ofE (by decide +kernel) rfl ?_
  show E mX11_ship 5 (some (.int r), s0) 0 [some (.ref 0), some (.int x1), some (.int x2)] [] s0
  unfold f_X11_ship at h
  refine e_aload_n qX11_ship_0 rfl ?_
  refine e_iload_n qX11_ship_1 rfl ?_
  obtain ⟨v1, hc, h⟩ := bp_e h
  refine e_cVi1 qX11_ship_2 mv_X11_186 shq_0 rfl rfl (w_X11_isShip hc) ?_
  refine e_if_ne (tgt := 10) qX11_ship_5 rfl h (fun _ h => ?_) (fun _ h => ?_)
  · refine e_iconst (-1) qX11_ship_8 rfl ?_
    exact e_iret qX11_ship_9 rfl (ret_p h)
  refine e_iload_n qX11_ship_10 rfl ?_
  refine e_ite h (fun hx h => ?_) (fun hx0 h => ?_)
  · refine e_tswk (tgt := 48) qX11_ship_11 hx (by decide) (by decide) (by decide) rfl rfl ?_
    refine e_aload_n qX11_ship_48 rfl ?_
    refine e_getr 49 qX11_ship_49 fl_X11_31 shq_0 kdq_10_3 rrq_0_3 ?_
    refine e_getr 52 qX11_ship_52 fl_X11_189 shq_49 kdq_6_6 rrq_49_6 ?_
    refine e_iload_n qX11_ship_55 rfl ?_
    refine e_iald qX11_ship_56 shq_52 lnq_52 h (fun v2 h => ?_)
    exact e_iret qX11_ship_57 rfl (ret_p h)
  refine e_ite h (fun hx h => ?_) (fun hx1 h => ?_)
  · refine e_tswk (tgt := 58) qX11_ship_11 hx (by decide) (by decide) (by decide) rfl rfl ?_
    refine e_aload_n qX11_ship_58 rfl ?_
    refine e_getr 49 qX11_ship_59 fl_X11_31 shq_0 kdq_10_3 rrq_0_3 ?_
    refine e_getr 53 qX11_ship_62 fl_X11_192 shq_49 kdq_6_7 rrq_49_7 ?_
    refine e_iload_n qX11_ship_65 rfl ?_
    refine e_iald qX11_ship_66 shq_53 lnq_53 h (fun v3 h => ?_)
    exact e_iret qX11_ship_67 rfl (ret_p h)
  refine e_ite h (fun hx h => ?_) (fun hx2 h => ?_)
  · refine e_tswk (tgt := 68) qX11_ship_11 hx (by decide) (by decide) (by decide) rfl rfl ?_
    refine e_aload_n qX11_ship_68 rfl ?_
    refine e_getr 49 qX11_ship_69 fl_X11_31 shq_0 kdq_10_3 rrq_0_3 ?_
    refine e_getr 54 qX11_ship_72 fl_X11_195 shq_49 kdq_6_8 rrq_49_8 ?_
    refine e_iload_n qX11_ship_75 rfl ?_
    refine e_iald qX11_ship_76 shq_54 lnq_54 h (fun v4 h => ?_)
    exact e_iret qX11_ship_77 rfl (ret_p h)
  refine e_ite h (fun hx h => ?_) (fun hx3 h => ?_)
  · refine e_tswk (tgt := 78) qX11_ship_11 hx (by decide) (by decide) (by decide) rfl rfl ?_
    refine e_aload_n qX11_ship_78 rfl ?_
    refine e_getr 3 qX11_ship_79 fl_X11_19 shq_0 kdq_10_1 rrq_0_1 ?_
    refine e_getr 5 qX11_ship_82 fl_X11_198 shq_3 kdq_1_1 rrq_3_1 ?_
    refine e_iload_n qX11_ship_85 rfl ?_
    refine e_rald25 qX11_ship_86 shq_5 lnq_5 h (fun i6 hi6 h => ?_)
    refine e_geti qX11_ship_87 fl_X11_202 (we_25 _ shq_5 _ hi6) kdq_8_4 h (fun v7 h => ?_)
    exact e_iret qX11_ship_90 rfl (ret_p h)
  refine e_ite h (fun hx h => ?_) (fun hx4 h => ?_)
  · refine e_tswk (tgt := 91) qX11_ship_11 hx (by decide) (by decide) (by decide) rfl rfl ?_
    refine e_aload_n qX11_ship_91 rfl ?_
    refine e_getr 49 qX11_ship_92 fl_X11_31 shq_0 kdq_10_3 rrq_0_3 ?_
    refine e_aload_n qX11_ship_95 rfl ?_
    refine e_getr 49 qX11_ship_96 fl_X11_31 shq_0 kdq_10_3 rrq_0_3 ?_
    refine e_getr 52 qX11_ship_99 fl_X11_189 shq_49 kdq_6_6 rrq_49_6 ?_
    refine e_iload_n qX11_ship_102 rfl ?_
    refine e_iald qX11_ship_103 shq_52 lnq_52 h (fun v8 h => ?_)
    refine e_aload_n qX11_ship_104 rfl ?_
    refine e_getr 49 qX11_ship_105 fl_X11_31 shq_0 kdq_10_3 rrq_0_3 ?_
    refine e_getr 53 qX11_ship_108 fl_X11_192 shq_49 kdq_6_7 rrq_49_7 ?_
    refine e_iload_n qX11_ship_111 rfl ?_
    refine e_iald qX11_ship_112 shq_53 lnq_53 h (fun v9 h => ?_)
    obtain ⟨v10, hc, h⟩ := bp_e h
    refine e_cVi2 qX11_ship_113 mv_X11_207 shq_49 rfl rfl (w_X6_visibleFrom shq_49 hc) ?_
    exact e_iret qX11_ship_116 rfl (ret_p h)
  refine e_ite h (fun hx h => ?_) (fun hx5 h => ?_)
  · refine e_tswk (tgt := 117) qX11_ship_11 hx (by decide) (by decide) (by decide) rfl rfl ?_
    refine e_aload_n qX11_ship_117 rfl ?_
    refine e_getr 49 qX11_ship_118 fl_X11_31 shq_0 kdq_10_3 rrq_0_3 ?_
    refine e_iload_n qX11_ship_121 rfl ?_
    obtain ⟨v11, hc, h⟩ := bp_e h
    refine e_cVi1 qX11_ship_122 mv_X11_211 shq_49 rfl rfl (w_X6_seenBy shq_49 hc) ?_
    exact e_iret qX11_ship_125 rfl (ret_p h)
  refine e_tswo (tgt := 126) qX11_ship_11 (tsw_def (lo := 0) (n := 6) (by decide) (lt_s (lt_s (lt_s (lt_s (lt_s (lt_s lt_0 hx0) hx1) hx2) hx3) hx4) hx5)) rfl ?_
  refine e_iconst (-1) qX11_ship_126 rfl ?_
  exact e_iret qX11_ship_127 rfl (ret_p h)

def f_X11_visible (N : Nat) (x1 : Int32) (x2 : Int32) (s0 : St) : Option (Int32) :=
  bp (f_X11_isCell x1 x2 s0) fun v1 =>
  if v1 = 0 then
    some (-1)
  else
  bp (f_X6_visibleFrom N 49 x1 x2 s0) fun v2 =>
  some v2

theorem qX11_visible_0 : Dc mX11_visible 0 (.iload_n 1) 1 1 := ⟨by decide +kernel, rfl⟩
theorem qX11_visible_1 : Dc mX11_visible 1 (.iload_n 2) 1 2 := ⟨by decide +kernel, rfl⟩
theorem qX11_visible_2 : Dc mX11_visible 2 (.invokestatic 214) 3 5 := ⟨by decide +kernel, rfl⟩
theorem qX11_visible_5 : Dc mX11_visible 5 (.ifCond .eq 15) 3 8 := ⟨by decide +kernel, rfl⟩
theorem qX11_visible_8 : Dc mX11_visible 8 (.aload_n 0) 1 9 := ⟨by decide +kernel, rfl⟩
theorem qX11_visible_9 : Dc mX11_visible 9 (.getfield 31) 3 12 := ⟨by decide +kernel, rfl⟩
theorem qX11_visible_12 : Dc mX11_visible 12 (.iload_n 1) 1 13 := ⟨by decide +kernel, rfl⟩
theorem qX11_visible_13 : Dc mX11_visible 13 (.iload_n 2) 1 14 := ⟨by decide +kernel, rfl⟩
theorem qX11_visible_14 : Dc mX11_visible 14 (.invokevirtual 207) 3 17 := ⟨by decide +kernel, rfl⟩
theorem qX11_visible_17 : Dc mX11_visible 17 (.goto 4) 3 20 := ⟨by decide +kernel, rfl⟩
theorem qX11_visible_20 : Dc mX11_visible 20 (.iconst (-1)) 1 21 := ⟨by decide +kernel, rfl⟩
theorem qX11_visible_21 : Dc mX11_visible 21 (.ireturn) 1 22 := ⟨by decide +kernel, rfl⟩

set_option maxRecDepth 20000 in
set_option maxHeartbeats 4000000 in
theorem w_X11_visible {N : Nat} {x1 : Int32} {x2 : Int32} {s0 : St} {r : Int32} (h : f_X11_visible N x1 x2 s0 = some r) : Ct mX11_visible 3 [.ref 0, .int x1, .int x2] s0 (some (.int r), s0) := by
  refine Ct.ofE (by decide +kernel) rfl ?_
  show E mX11_visible 3 (some (.int r), s0) 0 [some (.ref 0), some (.int x1), some (.int x2)] [] s0
  unfold f_X11_visible at h
  refine e_iload_n qX11_visible_0 rfl ?_
  refine e_iload_n qX11_visible_1 rfl ?_
  obtain ⟨v1, hc, h⟩ := bp_e h
  refine e_cSi2 qX11_visible_2 ms_X11_214 rfl rfl (w_X11_isCell hc) ?_
  refine e_if_eq (tgt := 20) qX11_visible_5 rfl h (fun _ h => ?_) (fun _ h => ?_)
  · refine e_iconst (-1) qX11_visible_20 rfl ?_
    exact e_iret qX11_visible_21 rfl (ret_p h)
  refine e_aload_n qX11_visible_8 rfl ?_
  refine e_getr 49 qX11_visible_9 fl_X11_31 shq_0 kdq_10_3 rrq_0_3 ?_
  refine e_iload_n qX11_visible_12 rfl ?_
  refine e_iload_n qX11_visible_13 rfl ?_
  obtain ⟨v2, hc, h⟩ := bp_e h
  refine e_cVi2 qX11_visible_14 mv_X11_207 shq_49 rfl rfl (w_X6_visibleFrom shq_49 hc) ?_
  refine e_goto (tgt := 21) qX11_visible_17 rfl ?_
  exact e_iret qX11_visible_21 rfl (ret_p h)

def f_X11_now (N : Nat) (x1 : Int32) (s0 : St) : Option (Int32) :=
  if x1 = nI 0 then
    vl (s0.1 49 1) fun v1 =>
    some v1
  else
  if x1 = nI 1 then
    bp (f_X6_shiningOnes N 49 s0) fun v2 =>
    some v2
  else
  if x1 = nI 2 then
    vl (s0.1 49 3) fun v3 =>
    some v3
  else
  if x1 = nI 3 then
    bp (f_X6_emptyOnes N 49 s0) fun v4 =>
    some v4
  else
  if x1 = nI 4 then
    vl (s0.1 49 2) fun v5 =>
    some v5
  else
  if x1 = nI 5 then
    bp (f_X6_oilOfAll N 49 s0) fun v6 =>
    some v6
  else
  some (-1)

theorem qX11_now_0 : Dc mX11_now 0 (.iload_n 1) 1 1 := ⟨by decide +kernel, rfl⟩
theorem qX11_now_1 : Dc mX11_now 1 (.tableswitch 87 0 5 #[39, 47, 55, 63, 71, 79]) 39 40 := ⟨by decide +kernel, rfl⟩
theorem qX11_now_40 : Dc mX11_now 40 (.aload_n 0) 1 41 := ⟨by decide +kernel, rfl⟩
theorem qX11_now_41 : Dc mX11_now 41 (.getfield 31) 3 44 := ⟨by decide +kernel, rfl⟩
theorem qX11_now_44 : Dc mX11_now 44 (.getfield 218) 3 47 := ⟨by decide +kernel, rfl⟩
theorem qX11_now_47 : Dc mX11_now 47 (.ireturn) 1 48 := ⟨by decide +kernel, rfl⟩
theorem qX11_now_48 : Dc mX11_now 48 (.aload_n 0) 1 49 := ⟨by decide +kernel, rfl⟩
theorem qX11_now_49 : Dc mX11_now 49 (.getfield 31) 3 52 := ⟨by decide +kernel, rfl⟩
theorem qX11_now_52 : Dc mX11_now 52 (.invokevirtual 221) 3 55 := ⟨by decide +kernel, rfl⟩
theorem qX11_now_55 : Dc mX11_now 55 (.ireturn) 1 56 := ⟨by decide +kernel, rfl⟩
theorem qX11_now_56 : Dc mX11_now 56 (.aload_n 0) 1 57 := ⟨by decide +kernel, rfl⟩
theorem qX11_now_57 : Dc mX11_now 57 (.getfield 31) 3 60 := ⟨by decide +kernel, rfl⟩
theorem qX11_now_60 : Dc mX11_now 60 (.getfield 225) 3 63 := ⟨by decide +kernel, rfl⟩
theorem qX11_now_63 : Dc mX11_now 63 (.ireturn) 1 64 := ⟨by decide +kernel, rfl⟩
theorem qX11_now_64 : Dc mX11_now 64 (.aload_n 0) 1 65 := ⟨by decide +kernel, rfl⟩
theorem qX11_now_65 : Dc mX11_now 65 (.getfield 31) 3 68 := ⟨by decide +kernel, rfl⟩
theorem qX11_now_68 : Dc mX11_now 68 (.invokevirtual 228) 3 71 := ⟨by decide +kernel, rfl⟩
theorem qX11_now_71 : Dc mX11_now 71 (.ireturn) 1 72 := ⟨by decide +kernel, rfl⟩
theorem qX11_now_72 : Dc mX11_now 72 (.aload_n 0) 1 73 := ⟨by decide +kernel, rfl⟩
theorem qX11_now_73 : Dc mX11_now 73 (.getfield 31) 3 76 := ⟨by decide +kernel, rfl⟩
theorem qX11_now_76 : Dc mX11_now 76 (.getfield 231) 3 79 := ⟨by decide +kernel, rfl⟩
theorem qX11_now_79 : Dc mX11_now 79 (.ireturn) 1 80 := ⟨by decide +kernel, rfl⟩
theorem qX11_now_80 : Dc mX11_now 80 (.aload_n 0) 1 81 := ⟨by decide +kernel, rfl⟩
theorem qX11_now_81 : Dc mX11_now 81 (.getfield 31) 3 84 := ⟨by decide +kernel, rfl⟩
theorem qX11_now_84 : Dc mX11_now 84 (.invokevirtual 234) 3 87 := ⟨by decide +kernel, rfl⟩
theorem qX11_now_87 : Dc mX11_now 87 (.ireturn) 1 88 := ⟨by decide +kernel, rfl⟩
theorem qX11_now_88 : Dc mX11_now 88 (.iconst (-1)) 1 89 := ⟨by decide +kernel, rfl⟩
theorem qX11_now_89 : Dc mX11_now 89 (.ireturn) 1 90 := ⟨by decide +kernel, rfl⟩

set_option maxRecDepth 20000 in
set_option maxHeartbeats 4000000 in
theorem w_X11_now {N : Nat} {x1 : Int32} {s0 : St} {r : Int32} (h : f_X11_now N x1 s0 = some r) : Ct mX11_now 4 [.ref 0, .int x1] s0 (some (.int r), s0) := by
  refine Ct.ofE (by decide +kernel) rfl ?_
  show E mX11_now 4 (some (.int r), s0) 0 [some (.ref 0), some (.int x1)] [] s0
  unfold f_X11_now at h
  refine e_iload_n qX11_now_0 rfl ?_
  refine e_ite h (fun hx h => ?_) (fun hx0 h => ?_)
  · refine e_tswk (tgt := 40) qX11_now_1 hx (by decide) (by decide) (by decide) rfl rfl ?_
    refine e_aload_n qX11_now_40 rfl ?_
    refine e_getr 49 qX11_now_41 fl_X11_31 shq_0 kdq_10_3 rrq_0_3 ?_
    refine e_geti qX11_now_44 fl_X11_218 shq_49 kdq_6_1 h (fun v1 h => ?_)
    exact e_iret qX11_now_47 rfl (ret_p h)
  refine e_ite h (fun hx h => ?_) (fun hx1 h => ?_)
  · refine e_tswk (tgt := 48) qX11_now_1 hx (by decide) (by decide) (by decide) rfl rfl ?_
    refine e_aload_n qX11_now_48 rfl ?_
    refine e_getr 49 qX11_now_49 fl_X11_31 shq_0 kdq_10_3 rrq_0_3 ?_
    obtain ⟨v2, hc, h⟩ := bp_e h
    refine e_cVi0 qX11_now_52 mv_X11_221 shq_49 rfl rfl (w_X6_shiningOnes shq_49 hc) ?_
    exact e_iret qX11_now_55 rfl (ret_p h)
  refine e_ite h (fun hx h => ?_) (fun hx2 h => ?_)
  · refine e_tswk (tgt := 56) qX11_now_1 hx (by decide) (by decide) (by decide) rfl rfl ?_
    refine e_aload_n qX11_now_56 rfl ?_
    refine e_getr 49 qX11_now_57 fl_X11_31 shq_0 kdq_10_3 rrq_0_3 ?_
    refine e_geti qX11_now_60 fl_X11_225 shq_49 kdq_6_3 h (fun v3 h => ?_)
    exact e_iret qX11_now_63 rfl (ret_p h)
  refine e_ite h (fun hx h => ?_) (fun hx3 h => ?_)
  · refine e_tswk (tgt := 64) qX11_now_1 hx (by decide) (by decide) (by decide) rfl rfl ?_
    refine e_aload_n qX11_now_64 rfl ?_
    refine e_getr 49 qX11_now_65 fl_X11_31 shq_0 kdq_10_3 rrq_0_3 ?_
    obtain ⟨v4, hc, h⟩ := bp_e h
    refine e_cVi0 qX11_now_68 mv_X11_228 shq_49 rfl rfl (w_X6_emptyOnes shq_49 hc) ?_
    exact e_iret qX11_now_71 rfl (ret_p h)
  refine e_ite h (fun hx h => ?_) (fun hx4 h => ?_)
  · refine e_tswk (tgt := 72) qX11_now_1 hx (by decide) (by decide) (by decide) rfl rfl ?_
    refine e_aload_n qX11_now_72 rfl ?_
    refine e_getr 49 qX11_now_73 fl_X11_31 shq_0 kdq_10_3 rrq_0_3 ?_
    refine e_geti qX11_now_76 fl_X11_231 shq_49 kdq_6_2 h (fun v5 h => ?_)
    exact e_iret qX11_now_79 rfl (ret_p h)
  refine e_ite h (fun hx h => ?_) (fun hx5 h => ?_)
  · refine e_tswk (tgt := 80) qX11_now_1 hx (by decide) (by decide) (by decide) rfl rfl ?_
    refine e_aload_n qX11_now_80 rfl ?_
    refine e_getr 49 qX11_now_81 fl_X11_31 shq_0 kdq_10_3 rrq_0_3 ?_
    obtain ⟨v6, hc, h⟩ := bp_e h
    refine e_cVi0 qX11_now_84 mv_X11_234 shq_49 rfl rfl (w_X6_oilOfAll shq_49 hc) ?_
    exact e_iret qX11_now_87 rfl (ret_p h)
  refine e_tswo (tgt := 88) qX11_now_1 (tsw_def (lo := 0) (n := 6) (by decide) (lt_s (lt_s (lt_s (lt_s (lt_s (lt_s lt_0 hx0) hx1) hx2) hx3) hx4) hx5)) rfl ?_
  refine e_iconst (-1) qX11_now_88 rfl ?_
  exact e_iret qX11_now_89 rfl (ret_p h)

def f_X11_douse (x1 : Int32) (s0 : St) : Option (Int32 × St) :=
  bp (f_X11_isLight x1 s0) fun v1 =>
  if v1 = 0 then
    some ((-1), s0)
  else
  bp (f_X5_mark 49 s0) fun s2 =>
  bd (f_X6_putOut 49 x1 s2) fun v3 s4 =>
  bd (f_X11_keepIfDone v3 s4) fun v5 s6 =>
  some (v5, s6)

theorem qX11_douse_0 : Dc mX11_douse 0 (.aload_n 0) 1 1 := ⟨by decide +kernel, rfl⟩
theorem qX11_douse_1 : Dc mX11_douse 1 (.iload_n 1) 1 2 := ⟨by decide +kernel, rfl⟩
theorem qX11_douse_2 : Dc mX11_douse 2 (.invokevirtual 135) 3 5 := ⟨by decide +kernel, rfl⟩
theorem qX11_douse_5 : Dc mX11_douse 5 (.ifCond .ne 5) 3 8 := ⟨by decide +kernel, rfl⟩
theorem qX11_douse_8 : Dc mX11_douse 8 (.iconst (-1)) 1 9 := ⟨by decide +kernel, rfl⟩
theorem qX11_douse_9 : Dc mX11_douse 9 (.ireturn) 1 10 := ⟨by decide +kernel, rfl⟩
theorem qX11_douse_10 : Dc mX11_douse 10 (.aload_n 0) 1 11 := ⟨by decide +kernel, rfl⟩
theorem qX11_douse_11 : Dc mX11_douse 11 (.getfield 58) 3 14 := ⟨by decide +kernel, rfl⟩
theorem qX11_douse_14 : Dc mX11_douse 14 (.aload_n 0) 1 15 := ⟨by decide +kernel, rfl⟩
theorem qX11_douse_15 : Dc mX11_douse 15 (.getfield 31) 3 18 := ⟨by decide +kernel, rfl⟩
theorem qX11_douse_18 : Dc mX11_douse 18 (.invokevirtual 237) 3 21 := ⟨by decide +kernel, rfl⟩
theorem qX11_douse_21 : Dc mX11_douse 21 (.aload_n 0) 1 22 := ⟨by decide +kernel, rfl⟩
theorem qX11_douse_22 : Dc mX11_douse 22 (.aload_n 0) 1 23 := ⟨by decide +kernel, rfl⟩
theorem qX11_douse_23 : Dc mX11_douse 23 (.getfield 31) 3 26 := ⟨by decide +kernel, rfl⟩
theorem qX11_douse_26 : Dc mX11_douse 26 (.iload_n 1) 1 27 := ⟨by decide +kernel, rfl⟩
theorem qX11_douse_27 : Dc mX11_douse 27 (.invokevirtual 241) 3 30 := ⟨by decide +kernel, rfl⟩
theorem qX11_douse_30 : Dc mX11_douse 30 (.invokevirtual 244) 3 33 := ⟨by decide +kernel, rfl⟩
theorem qX11_douse_33 : Dc mX11_douse 33 (.ireturn) 1 34 := ⟨by decide +kernel, rfl⟩

set_option maxRecDepth 20000 in
set_option maxHeartbeats 4000000 in
theorem w_X11_douse {x1 : Int32} {s0 : St} {r : Int32} {sr : St} (h : f_X11_douse x1 s0 = some (r, sr)) : Ct mX11_douse 5 [.ref 0, .int x1] s0 (some (.int r), sr) := by
  refine Ct.ofE (by decide +kernel) rfl ?_
  show E mX11_douse 5 (some (.int r), sr) 0 [some (.ref 0), some (.int x1)] [] s0
  unfold f_X11_douse at h
  refine e_aload_n qX11_douse_0 rfl ?_
  refine e_iload_n qX11_douse_1 rfl ?_
  obtain ⟨v1, hc, h⟩ := bp_e h
  refine e_cVi1 qX11_douse_2 mv_X11_135 shq_0 rfl rfl (w_X11_isLight hc) ?_
  refine e_if_ne (tgt := 10) qX11_douse_5 rfl h (fun _ h => ?_) (fun _ h => ?_)
  · refine e_iconst (-1) qX11_douse_8 rfl ?_
    exact e_iret qX11_douse_9 rfl (ret_i h)
  refine e_aload_n qX11_douse_10 rfl ?_
  refine e_getr 75 qX11_douse_11 fl_X11_58 shq_0 kdq_10_8 rrq_0_8 ?_
  refine e_aload_n qX11_douse_14 rfl ?_
  refine e_getr 49 qX11_douse_15 fl_X11_31 shq_0 kdq_10_3 rrq_0_3 ?_
  obtain ⟨s2, hc, h⟩ := bp_e h
  refine e_cVv1 qX11_douse_18 mv_X11_237 shq_75 rfl rfl (w_X5_mark shq_49 hc) ?_
  refine e_aload_n qX11_douse_21 rfl ?_
  refine e_aload_n qX11_douse_22 rfl ?_
  refine e_getr 49 qX11_douse_23 fl_X11_31 shq_0 kdq_10_3 rrq_0_3 ?_
  refine e_iload_n qX11_douse_26 rfl ?_
  obtain ⟨v3, s4, hc, h⟩ := bd_e h
  refine e_cVi1 qX11_douse_27 mv_X11_241 shq_49 rfl rfl (w_X6_putOut shq_49 hc) ?_
  obtain ⟨v5, s6, hc, h⟩ := bd_e h
  refine e_cVi1 qX11_douse_30 mv_X11_244 shq_0 rfl rfl (w_X11_keepIfDone hc) ?_
  exact e_iret qX11_douse_33 rfl (ret_i h)

def f_X11_kindle (x1 : Int32) (s0 : St) : Option (Int32 × St) :=
  bp (f_X11_isLight x1 s0) fun v1 =>
  if v1 = 0 then
    some ((-1), s0)
  else
  bp (f_X5_mark 49 s0) fun s2 =>
  bd (f_X6_relight 49 x1 s2) fun v3 s4 =>
  bd (f_X11_keepIfDone v3 s4) fun v5 s6 =>
  some (v5, s6)

theorem qX11_kindle_0 : Dc mX11_kindle 0 (.aload_n 0) 1 1 := ⟨by decide +kernel, rfl⟩
theorem qX11_kindle_1 : Dc mX11_kindle 1 (.iload_n 1) 1 2 := ⟨by decide +kernel, rfl⟩
theorem qX11_kindle_2 : Dc mX11_kindle 2 (.invokevirtual 135) 3 5 := ⟨by decide +kernel, rfl⟩
theorem qX11_kindle_5 : Dc mX11_kindle 5 (.ifCond .ne 5) 3 8 := ⟨by decide +kernel, rfl⟩
theorem qX11_kindle_8 : Dc mX11_kindle 8 (.iconst (-1)) 1 9 := ⟨by decide +kernel, rfl⟩
theorem qX11_kindle_9 : Dc mX11_kindle 9 (.ireturn) 1 10 := ⟨by decide +kernel, rfl⟩
theorem qX11_kindle_10 : Dc mX11_kindle 10 (.aload_n 0) 1 11 := ⟨by decide +kernel, rfl⟩
theorem qX11_kindle_11 : Dc mX11_kindle 11 (.getfield 58) 3 14 := ⟨by decide +kernel, rfl⟩
theorem qX11_kindle_14 : Dc mX11_kindle 14 (.aload_n 0) 1 15 := ⟨by decide +kernel, rfl⟩
theorem qX11_kindle_15 : Dc mX11_kindle 15 (.getfield 31) 3 18 := ⟨by decide +kernel, rfl⟩
theorem qX11_kindle_18 : Dc mX11_kindle 18 (.invokevirtual 237) 3 21 := ⟨by decide +kernel, rfl⟩
theorem qX11_kindle_21 : Dc mX11_kindle 21 (.aload_n 0) 1 22 := ⟨by decide +kernel, rfl⟩
theorem qX11_kindle_22 : Dc mX11_kindle 22 (.aload_n 0) 1 23 := ⟨by decide +kernel, rfl⟩
theorem qX11_kindle_23 : Dc mX11_kindle 23 (.getfield 31) 3 26 := ⟨by decide +kernel, rfl⟩
theorem qX11_kindle_26 : Dc mX11_kindle 26 (.iload_n 1) 1 27 := ⟨by decide +kernel, rfl⟩
theorem qX11_kindle_27 : Dc mX11_kindle 27 (.invokevirtual 247) 3 30 := ⟨by decide +kernel, rfl⟩
theorem qX11_kindle_30 : Dc mX11_kindle 30 (.invokevirtual 244) 3 33 := ⟨by decide +kernel, rfl⟩
theorem qX11_kindle_33 : Dc mX11_kindle 33 (.ireturn) 1 34 := ⟨by decide +kernel, rfl⟩

set_option maxRecDepth 20000 in
set_option maxHeartbeats 4000000 in
theorem w_X11_kindle {x1 : Int32} {s0 : St} {r : Int32} {sr : St} (h : f_X11_kindle x1 s0 = some (r, sr)) : Ct mX11_kindle 5 [.ref 0, .int x1] s0 (some (.int r), sr) := by
  refine Ct.ofE (by decide +kernel) rfl ?_
  show E mX11_kindle 5 (some (.int r), sr) 0 [some (.ref 0), some (.int x1)] [] s0
  unfold f_X11_kindle at h
  refine e_aload_n qX11_kindle_0 rfl ?_
  refine e_iload_n qX11_kindle_1 rfl ?_
  obtain ⟨v1, hc, h⟩ := bp_e h
  refine e_cVi1 qX11_kindle_2 mv_X11_135 shq_0 rfl rfl (w_X11_isLight hc) ?_
  refine e_if_ne (tgt := 10) qX11_kindle_5 rfl h (fun _ h => ?_) (fun _ h => ?_)
  · refine e_iconst (-1) qX11_kindle_8 rfl ?_
    exact e_iret qX11_kindle_9 rfl (ret_i h)
  refine e_aload_n qX11_kindle_10 rfl ?_
  refine e_getr 75 qX11_kindle_11 fl_X11_58 shq_0 kdq_10_8 rrq_0_8 ?_
  refine e_aload_n qX11_kindle_14 rfl ?_
  refine e_getr 49 qX11_kindle_15 fl_X11_31 shq_0 kdq_10_3 rrq_0_3 ?_
  obtain ⟨s2, hc, h⟩ := bp_e h
  refine e_cVv1 qX11_kindle_18 mv_X11_237 shq_75 rfl rfl (w_X5_mark shq_49 hc) ?_
  refine e_aload_n qX11_kindle_21 rfl ?_
  refine e_aload_n qX11_kindle_22 rfl ?_
  refine e_getr 49 qX11_kindle_23 fl_X11_31 shq_0 kdq_10_3 rrq_0_3 ?_
  refine e_iload_n qX11_kindle_26 rfl ?_
  obtain ⟨v3, s4, hc, h⟩ := bd_e h
  refine e_cVi1 qX11_kindle_27 mv_X11_247 shq_49 rfl rfl (w_X6_relight shq_49 hc) ?_
  obtain ⟨v5, s6, hc, h⟩ := bd_e h
  refine e_cVi1 qX11_kindle_30 mv_X11_244 shq_0 rfl rfl (w_X11_keepIfDone hc) ?_
  exact e_iret qX11_kindle_33 rfl (ret_i h)

def f_X11_fill (x1 : Int32) (x2 : Int32) (s0 : St) : Option (Int32 × St) :=
  bp (f_X11_isLight x1 s0) fun v1 =>
  if v1 = 0 then
    some ((-1), s0)
  else
  if x2 < (nI 1) then
    some ((-1), s0)
  else
  if x2 ≤ (nI 999) then
    bp (f_X5_mark 49 s0) fun s2 =>
    bd (f_X6_pourInto 49 x1 x2 s2) fun v3 s4 =>
    bd (f_X11_keepIfDone v3 s4) fun v5 s6 =>
    some (v5, s6)
  else
  some ((-1), s0)

theorem qX11_fill_0 : Dc mX11_fill 0 (.aload_n 0) 1 1 := ⟨by decide +kernel, rfl⟩
theorem qX11_fill_1 : Dc mX11_fill 1 (.iload_n 1) 1 2 := ⟨by decide +kernel, rfl⟩
theorem qX11_fill_2 : Dc mX11_fill 2 (.invokevirtual 135) 3 5 := ⟨by decide +kernel, rfl⟩
theorem qX11_fill_5 : Dc mX11_fill 5 (.ifCond .eq 15) 3 8 := ⟨by decide +kernel, rfl⟩
theorem qX11_fill_8 : Dc mX11_fill 8 (.iload_n 2) 1 9 := ⟨by decide +kernel, rfl⟩
theorem qX11_fill_9 : Dc mX11_fill 9 (.iconst 1) 1 10 := ⟨by decide +kernel, rfl⟩
theorem qX11_fill_10 : Dc mX11_fill 10 (.if_icmp .lt 10) 3 13 := ⟨by decide +kernel, rfl⟩
theorem qX11_fill_13 : Dc mX11_fill 13 (.iload_n 2) 1 14 := ⟨by decide +kernel, rfl⟩
theorem qX11_fill_14 : Dc mX11_fill 14 (.sipush 999) 3 17 := ⟨by decide +kernel, rfl⟩
theorem qX11_fill_17 : Dc mX11_fill 17 (.if_icmp .le 5) 3 20 := ⟨by decide +kernel, rfl⟩
theorem qX11_fill_20 : Dc mX11_fill 20 (.iconst (-1)) 1 21 := ⟨by decide +kernel, rfl⟩
theorem qX11_fill_21 : Dc mX11_fill 21 (.ireturn) 1 22 := ⟨by decide +kernel, rfl⟩
theorem qX11_fill_22 : Dc mX11_fill 22 (.aload_n 0) 1 23 := ⟨by decide +kernel, rfl⟩
theorem qX11_fill_23 : Dc mX11_fill 23 (.getfield 58) 3 26 := ⟨by decide +kernel, rfl⟩
theorem qX11_fill_26 : Dc mX11_fill 26 (.aload_n 0) 1 27 := ⟨by decide +kernel, rfl⟩
theorem qX11_fill_27 : Dc mX11_fill 27 (.getfield 31) 3 30 := ⟨by decide +kernel, rfl⟩
theorem qX11_fill_30 : Dc mX11_fill 30 (.invokevirtual 237) 3 33 := ⟨by decide +kernel, rfl⟩
theorem qX11_fill_33 : Dc mX11_fill 33 (.aload_n 0) 1 34 := ⟨by decide +kernel, rfl⟩
theorem qX11_fill_34 : Dc mX11_fill 34 (.aload_n 0) 1 35 := ⟨by decide +kernel, rfl⟩
theorem qX11_fill_35 : Dc mX11_fill 35 (.getfield 31) 3 38 := ⟨by decide +kernel, rfl⟩
theorem qX11_fill_38 : Dc mX11_fill 38 (.iload_n 1) 1 39 := ⟨by decide +kernel, rfl⟩
theorem qX11_fill_39 : Dc mX11_fill 39 (.iload_n 2) 1 40 := ⟨by decide +kernel, rfl⟩
theorem qX11_fill_40 : Dc mX11_fill 40 (.invokevirtual 250) 3 43 := ⟨by decide +kernel, rfl⟩
theorem qX11_fill_43 : Dc mX11_fill 43 (.invokevirtual 244) 3 46 := ⟨by decide +kernel, rfl⟩
theorem qX11_fill_46 : Dc mX11_fill 46 (.ireturn) 1 47 := ⟨by decide +kernel, rfl⟩

set_option maxRecDepth 20000 in
set_option maxHeartbeats 4000000 in
theorem w_X11_fill {x1 : Int32} {x2 : Int32} {s0 : St} {r : Int32} {sr : St} (h : f_X11_fill x1 x2 s0 = some (r, sr)) : Ct mX11_fill 5 [.ref 0, .int x1, .int x2] s0 (some (.int r), sr) := by
  refine Ct.ofE (by decide +kernel) rfl ?_
  show E mX11_fill 5 (some (.int r), sr) 0 [some (.ref 0), some (.int x1), some (.int x2)] [] s0
  unfold f_X11_fill at h
  refine e_aload_n qX11_fill_0 rfl ?_
  refine e_iload_n qX11_fill_1 rfl ?_
  obtain ⟨v1, hc, h⟩ := bp_e h
  refine e_cVi1 qX11_fill_2 mv_X11_135 shq_0 rfl rfl (w_X11_isLight hc) ?_
  refine e_if_eq (tgt := 20) qX11_fill_5 rfl h (fun _ h => ?_) (fun _ h => ?_)
  · refine e_iconst (-1) qX11_fill_20 rfl ?_
    exact e_iret qX11_fill_21 rfl (ret_i h)
  refine e_iload_n qX11_fill_8 rfl ?_
  refine e_iconst (nI 1) qX11_fill_9 rfl ?_
  refine e_icmp_lt (tgt := 20) qX11_fill_10 rfl h (fun _ h => ?_) (fun _ h => ?_)
  · refine e_iconst (-1) qX11_fill_20 rfl ?_
    exact e_iret qX11_fill_21 rfl (ret_i h)
  refine e_iload_n qX11_fill_13 rfl ?_
  refine e_sipush (nI 999) qX11_fill_14 rfl ?_
  refine e_icmp_le (tgt := 22) qX11_fill_17 rfl h (fun _ h => ?_) (fun _ h => ?_)
  · refine e_aload_n qX11_fill_22 rfl ?_
    refine e_getr 75 qX11_fill_23 fl_X11_58 shq_0 kdq_10_8 rrq_0_8 ?_
    refine e_aload_n qX11_fill_26 rfl ?_
    refine e_getr 49 qX11_fill_27 fl_X11_31 shq_0 kdq_10_3 rrq_0_3 ?_
    obtain ⟨s2, hc, h⟩ := bp_e h
    refine e_cVv1 qX11_fill_30 mv_X11_237 shq_75 rfl rfl (w_X5_mark shq_49 hc) ?_
    refine e_aload_n qX11_fill_33 rfl ?_
    refine e_aload_n qX11_fill_34 rfl ?_
    refine e_getr 49 qX11_fill_35 fl_X11_31 shq_0 kdq_10_3 rrq_0_3 ?_
    refine e_iload_n qX11_fill_38 rfl ?_
    refine e_iload_n qX11_fill_39 rfl ?_
    obtain ⟨v3, s4, hc, h⟩ := bd_e h
    refine e_cVi2 qX11_fill_40 mv_X11_250 shq_49 rfl rfl (w_X6_pourInto shq_49 hc) ?_
    obtain ⟨v5, s6, hc, h⟩ := bd_e h
    refine e_cVi1 qX11_fill_43 mv_X11_244 shq_0 rfl rfl (w_X11_keepIfDone hc) ?_
    exact e_iret qX11_fill_46 rfl (ret_i h)
  refine e_iconst (-1) qX11_fill_20 rfl ?_
  exact e_iret qX11_fill_21 rfl (ret_i h)

def f_X11_shift (x1 : Int32) (x2 : Int32) (s0 : St) : Option (Int32 × St) :=
  bp (f_X11_isLight x1 s0) fun v1 =>
  if v1 = 0 then
    some ((-1), s0)
  else
  if x2 < (nI 1) then
    some ((-1), s0)
  else
  if x2 ≤ (nI 59) then
    bp (f_X5_mark 49 s0) fun s2 =>
    bd (f_X6_moveOn 49 x1 x2 s2) fun v3 s4 =>
    bd (f_X11_keepIfDone v3 s4) fun v5 s6 =>
    some (v5, s6)
  else
  some ((-1), s0)

theorem qX11_shift_0 : Dc mX11_shift 0 (.aload_n 0) 1 1 := ⟨by decide +kernel, rfl⟩
theorem qX11_shift_1 : Dc mX11_shift 1 (.iload_n 1) 1 2 := ⟨by decide +kernel, rfl⟩
theorem qX11_shift_2 : Dc mX11_shift 2 (.invokevirtual 135) 3 5 := ⟨by decide +kernel, rfl⟩
theorem qX11_shift_5 : Dc mX11_shift 5 (.ifCond .eq 14) 3 8 := ⟨by decide +kernel, rfl⟩
theorem qX11_shift_8 : Dc mX11_shift 8 (.iload_n 2) 1 9 := ⟨by decide +kernel, rfl⟩
theorem qX11_shift_9 : Dc mX11_shift 9 (.iconst 1) 1 10 := ⟨by decide +kernel, rfl⟩
theorem qX11_shift_10 : Dc mX11_shift 10 (.if_icmp .lt 9) 3 13 := ⟨by decide +kernel, rfl⟩
theorem qX11_shift_13 : Dc mX11_shift 13 (.iload_n 2) 1 14 := ⟨by decide +kernel, rfl⟩
theorem qX11_shift_14 : Dc mX11_shift 14 (.bipush 59) 2 16 := ⟨by decide +kernel, rfl⟩
theorem qX11_shift_16 : Dc mX11_shift 16 (.if_icmp .le 5) 3 19 := ⟨by decide +kernel, rfl⟩
theorem qX11_shift_19 : Dc mX11_shift 19 (.iconst (-1)) 1 20 := ⟨by decide +kernel, rfl⟩
theorem qX11_shift_20 : Dc mX11_shift 20 (.ireturn) 1 21 := ⟨by decide +kernel, rfl⟩
theorem qX11_shift_21 : Dc mX11_shift 21 (.aload_n 0) 1 22 := ⟨by decide +kernel, rfl⟩
theorem qX11_shift_22 : Dc mX11_shift 22 (.getfield 58) 3 25 := ⟨by decide +kernel, rfl⟩
theorem qX11_shift_25 : Dc mX11_shift 25 (.aload_n 0) 1 26 := ⟨by decide +kernel, rfl⟩
theorem qX11_shift_26 : Dc mX11_shift 26 (.getfield 31) 3 29 := ⟨by decide +kernel, rfl⟩
theorem qX11_shift_29 : Dc mX11_shift 29 (.invokevirtual 237) 3 32 := ⟨by decide +kernel, rfl⟩
theorem qX11_shift_32 : Dc mX11_shift 32 (.aload_n 0) 1 33 := ⟨by decide +kernel, rfl⟩
theorem qX11_shift_33 : Dc mX11_shift 33 (.aload_n 0) 1 34 := ⟨by decide +kernel, rfl⟩
theorem qX11_shift_34 : Dc mX11_shift 34 (.getfield 31) 3 37 := ⟨by decide +kernel, rfl⟩
theorem qX11_shift_37 : Dc mX11_shift 37 (.iload_n 1) 1 38 := ⟨by decide +kernel, rfl⟩
theorem qX11_shift_38 : Dc mX11_shift 38 (.iload_n 2) 1 39 := ⟨by decide +kernel, rfl⟩
theorem qX11_shift_39 : Dc mX11_shift 39 (.invokevirtual 253) 3 42 := ⟨by decide +kernel, rfl⟩
theorem qX11_shift_42 : Dc mX11_shift 42 (.invokevirtual 244) 3 45 := ⟨by decide +kernel, rfl⟩
theorem qX11_shift_45 : Dc mX11_shift 45 (.ireturn) 1 46 := ⟨by decide +kernel, rfl⟩

set_option maxRecDepth 20000 in
set_option maxHeartbeats 4000000 in
theorem w_X11_shift {x1 : Int32} {x2 : Int32} {s0 : St} {r : Int32} {sr : St} (h : f_X11_shift x1 x2 s0 = some (r, sr)) : Ct mX11_shift 5 [.ref 0, .int x1, .int x2] s0 (some (.int r), sr) := by
  refine Ct.ofE (by decide +kernel) rfl ?_
  show E mX11_shift 5 (some (.int r), sr) 0 [some (.ref 0), some (.int x1), some (.int x2)] [] s0
  unfold f_X11_shift at h
  refine e_aload_n qX11_shift_0 rfl ?_
  refine e_iload_n qX11_shift_1 rfl ?_
  obtain ⟨v1, hc, h⟩ := bp_e h
  refine e_cVi1 qX11_shift_2 mv_X11_135 shq_0 rfl rfl (w_X11_isLight hc) ?_
  refine e_if_eq (tgt := 19) qX11_shift_5 rfl h (fun _ h => ?_) (fun _ h => ?_)
  · refine e_iconst (-1) qX11_shift_19 rfl ?_
    exact e_iret qX11_shift_20 rfl (ret_i h)
  refine e_iload_n qX11_shift_8 rfl ?_
  refine e_iconst (nI 1) qX11_shift_9 rfl ?_
  refine e_icmp_lt (tgt := 19) qX11_shift_10 rfl h (fun _ h => ?_) (fun _ h => ?_)
  · refine e_iconst (-1) qX11_shift_19 rfl ?_
    exact e_iret qX11_shift_20 rfl (ret_i h)
  refine e_iload_n qX11_shift_13 rfl ?_
  refine e_bipush (nI 59) qX11_shift_14 rfl ?_
  refine e_icmp_le (tgt := 21) qX11_shift_16 rfl h (fun _ h => ?_) (fun _ h => ?_)
  · refine e_aload_n qX11_shift_21 rfl ?_
    refine e_getr 75 qX11_shift_22 fl_X11_58 shq_0 kdq_10_8 rrq_0_8 ?_
    refine e_aload_n qX11_shift_25 rfl ?_
    refine e_getr 49 qX11_shift_26 fl_X11_31 shq_0 kdq_10_3 rrq_0_3 ?_
    obtain ⟨s2, hc, h⟩ := bp_e h
    refine e_cVv1 qX11_shift_29 mv_X11_237 shq_75 rfl rfl (w_X5_mark shq_49 hc) ?_
    refine e_aload_n qX11_shift_32 rfl ?_
    refine e_aload_n qX11_shift_33 rfl ?_
    refine e_getr 49 qX11_shift_34 fl_X11_31 shq_0 kdq_10_3 rrq_0_3 ?_
    refine e_iload_n qX11_shift_37 rfl ?_
    refine e_iload_n qX11_shift_38 rfl ?_
    obtain ⟨v3, s4, hc, h⟩ := bd_e h
    refine e_cVi2 qX11_shift_39 mv_X11_253 shq_49 rfl rfl (w_X6_moveOn shq_49 hc) ?_
    obtain ⟨v5, s6, hc, h⟩ := bd_e h
    refine e_cVi1 qX11_shift_42 mv_X11_244 shq_0 rfl rfl (w_X11_keepIfDone hc) ?_
    exact e_iret qX11_shift_45 rfl (ret_i h)
  refine e_iconst (-1) qX11_shift_19 rfl ?_
  exact e_iret qX11_shift_20 rfl (ret_i h)

def f_X11_steer (x1 : Int32) (x2 : Int32) (s0 : St) : Option (Int32 × St) :=
  bp (f_X11_isShip x1 s0) fun v1 =>
  if v1 = 0 then
    some ((-1), s0)
  else
  if x2 < 0 then
    some ((-1), s0)
  else
  if x2 ≤ (nI 8) then
    bp (f_X5_mark 49 s0) fun s2 =>
    bd (f_X6_turn 49 x1 x2 s2) fun v3 s4 =>
    bd (f_X11_keepIfDone v3 s4) fun v5 s6 =>
    some (v5, s6)
  else
  some ((-1), s0)

theorem qX11_steer_0 : Dc mX11_steer 0 (.aload_n 0) 1 1 := ⟨by decide +kernel, rfl⟩
theorem qX11_steer_1 : Dc mX11_steer 1 (.iload_n 1) 1 2 := ⟨by decide +kernel, rfl⟩
theorem qX11_steer_2 : Dc mX11_steer 2 (.invokevirtual 186) 3 5 := ⟨by decide +kernel, rfl⟩
theorem qX11_steer_5 : Dc mX11_steer 5 (.ifCond .eq 13) 3 8 := ⟨by decide +kernel, rfl⟩
theorem qX11_steer_8 : Dc mX11_steer 8 (.iload_n 2) 1 9 := ⟨by decide +kernel, rfl⟩
theorem qX11_steer_9 : Dc mX11_steer 9 (.ifCond .lt 9) 3 12 := ⟨by decide +kernel, rfl⟩
theorem qX11_steer_12 : Dc mX11_steer 12 (.iload_n 2) 1 13 := ⟨by decide +kernel, rfl⟩
theorem qX11_steer_13 : Dc mX11_steer 13 (.bipush 8) 2 15 := ⟨by decide +kernel, rfl⟩
theorem qX11_steer_15 : Dc mX11_steer 15 (.if_icmp .le 5) 3 18 := ⟨by decide +kernel, rfl⟩
theorem qX11_steer_18 : Dc mX11_steer 18 (.iconst (-1)) 1 19 := ⟨by decide +kernel, rfl⟩
theorem qX11_steer_19 : Dc mX11_steer 19 (.ireturn) 1 20 := ⟨by decide +kernel, rfl⟩
theorem qX11_steer_20 : Dc mX11_steer 20 (.aload_n 0) 1 21 := ⟨by decide +kernel, rfl⟩
theorem qX11_steer_21 : Dc mX11_steer 21 (.getfield 58) 3 24 := ⟨by decide +kernel, rfl⟩
theorem qX11_steer_24 : Dc mX11_steer 24 (.aload_n 0) 1 25 := ⟨by decide +kernel, rfl⟩
theorem qX11_steer_25 : Dc mX11_steer 25 (.getfield 31) 3 28 := ⟨by decide +kernel, rfl⟩
theorem qX11_steer_28 : Dc mX11_steer 28 (.invokevirtual 237) 3 31 := ⟨by decide +kernel, rfl⟩
theorem qX11_steer_31 : Dc mX11_steer 31 (.aload_n 0) 1 32 := ⟨by decide +kernel, rfl⟩
theorem qX11_steer_32 : Dc mX11_steer 32 (.aload_n 0) 1 33 := ⟨by decide +kernel, rfl⟩
theorem qX11_steer_33 : Dc mX11_steer 33 (.getfield 31) 3 36 := ⟨by decide +kernel, rfl⟩
theorem qX11_steer_36 : Dc mX11_steer 36 (.iload_n 1) 1 37 := ⟨by decide +kernel, rfl⟩
theorem qX11_steer_37 : Dc mX11_steer 37 (.iload_n 2) 1 38 := ⟨by decide +kernel, rfl⟩
theorem qX11_steer_38 : Dc mX11_steer 38 (.invokevirtual 256) 3 41 := ⟨by decide +kernel, rfl⟩
theorem qX11_steer_41 : Dc mX11_steer 41 (.invokevirtual 244) 3 44 := ⟨by decide +kernel, rfl⟩
theorem qX11_steer_44 : Dc mX11_steer 44 (.ireturn) 1 45 := ⟨by decide +kernel, rfl⟩

set_option maxRecDepth 20000 in
set_option maxHeartbeats 4000000 in
theorem w_X11_steer {x1 : Int32} {x2 : Int32} {s0 : St} {r : Int32} {sr : St} (h : f_X11_steer x1 x2 s0 = some (r, sr)) : Ct mX11_steer 5 [.ref 0, .int x1, .int x2] s0 (some (.int r), sr) := by
  refine Ct.ofE (by decide +kernel) rfl ?_
  show E mX11_steer 5 (some (.int r), sr) 0 [some (.ref 0), some (.int x1), some (.int x2)] [] s0
  unfold f_X11_steer at h
  refine e_aload_n qX11_steer_0 rfl ?_
  refine e_iload_n qX11_steer_1 rfl ?_
  obtain ⟨v1, hc, h⟩ := bp_e h
  refine e_cVi1 qX11_steer_2 mv_X11_186 shq_0 rfl rfl (w_X11_isShip hc) ?_
  refine e_if_eq (tgt := 18) qX11_steer_5 rfl h (fun _ h => ?_) (fun _ h => ?_)
  · refine e_iconst (-1) qX11_steer_18 rfl ?_
    exact e_iret qX11_steer_19 rfl (ret_i h)
  refine e_iload_n qX11_steer_8 rfl ?_
  refine e_if_lt (tgt := 18) qX11_steer_9 rfl h (fun _ h => ?_) (fun _ h => ?_)
  · refine e_iconst (-1) qX11_steer_18 rfl ?_
    exact e_iret qX11_steer_19 rfl (ret_i h)
  refine e_iload_n qX11_steer_12 rfl ?_
  refine e_bipush (nI 8) qX11_steer_13 rfl ?_
  refine e_icmp_le (tgt := 20) qX11_steer_15 rfl h (fun _ h => ?_) (fun _ h => ?_)
  · refine e_aload_n qX11_steer_20 rfl ?_
    refine e_getr 75 qX11_steer_21 fl_X11_58 shq_0 kdq_10_8 rrq_0_8 ?_
    refine e_aload_n qX11_steer_24 rfl ?_
    refine e_getr 49 qX11_steer_25 fl_X11_31 shq_0 kdq_10_3 rrq_0_3 ?_
    obtain ⟨s2, hc, h⟩ := bp_e h
    refine e_cVv1 qX11_steer_28 mv_X11_237 shq_75 rfl rfl (w_X5_mark shq_49 hc) ?_
    refine e_aload_n qX11_steer_31 rfl ?_
    refine e_aload_n qX11_steer_32 rfl ?_
    refine e_getr 49 qX11_steer_33 fl_X11_31 shq_0 kdq_10_3 rrq_0_3 ?_
    refine e_iload_n qX11_steer_36 rfl ?_
    refine e_iload_n qX11_steer_37 rfl ?_
    obtain ⟨v3, s4, hc, h⟩ := bd_e h
    refine e_cVi2 qX11_steer_38 mv_X11_256 shq_49 rfl rfl (w_X6_turn shq_49 hc) ?_
    obtain ⟨v5, s6, hc, h⟩ := bd_e h
    refine e_cVi1 qX11_steer_41 mv_X11_244 shq_0 rfl rfl (w_X11_keepIfDone hc) ?_
    exact e_iret qX11_steer_44 rfl (ret_i h)
  refine e_iconst (-1) qX11_steer_18 rfl ?_
  exact e_iret qX11_steer_19 rfl (ret_i h)

def f_X11_haze (x1 : Int32) (s0 : St) : Option (Int32 × St) :=
  if x1 < (nI 1) then
    some ((-1), s0)
  else
  if x1 ≤ (nI 30) then
    bp (f_X5_mark 49 s0) fun s1 =>
    bd (f_X6_setHaze 49 x1 s1) fun v2 s3 =>
    bd (f_X11_keepIfDone v2 s3) fun v4 s5 =>
    some (v4, s5)
  else
  some ((-1), s0)

theorem qX11_haze_0 : Dc mX11_haze 0 (.iload_n 1) 1 1 := ⟨by decide +kernel, rfl⟩
theorem qX11_haze_1 : Dc mX11_haze 1 (.iconst 1) 1 2 := ⟨by decide +kernel, rfl⟩
theorem qX11_haze_2 : Dc mX11_haze 2 (.if_icmp .lt 9) 3 5 := ⟨by decide +kernel, rfl⟩
theorem qX11_haze_5 : Dc mX11_haze 5 (.iload_n 1) 1 6 := ⟨by decide +kernel, rfl⟩
theorem qX11_haze_6 : Dc mX11_haze 6 (.bipush 30) 2 8 := ⟨by decide +kernel, rfl⟩
theorem qX11_haze_8 : Dc mX11_haze 8 (.if_icmp .le 5) 3 11 := ⟨by decide +kernel, rfl⟩
theorem qX11_haze_11 : Dc mX11_haze 11 (.iconst (-1)) 1 12 := ⟨by decide +kernel, rfl⟩
theorem qX11_haze_12 : Dc mX11_haze 12 (.ireturn) 1 13 := ⟨by decide +kernel, rfl⟩
theorem qX11_haze_13 : Dc mX11_haze 13 (.aload_n 0) 1 14 := ⟨by decide +kernel, rfl⟩
theorem qX11_haze_14 : Dc mX11_haze 14 (.getfield 58) 3 17 := ⟨by decide +kernel, rfl⟩
theorem qX11_haze_17 : Dc mX11_haze 17 (.aload_n 0) 1 18 := ⟨by decide +kernel, rfl⟩
theorem qX11_haze_18 : Dc mX11_haze 18 (.getfield 31) 3 21 := ⟨by decide +kernel, rfl⟩
theorem qX11_haze_21 : Dc mX11_haze 21 (.invokevirtual 237) 3 24 := ⟨by decide +kernel, rfl⟩
theorem qX11_haze_24 : Dc mX11_haze 24 (.aload_n 0) 1 25 := ⟨by decide +kernel, rfl⟩
theorem qX11_haze_25 : Dc mX11_haze 25 (.aload_n 0) 1 26 := ⟨by decide +kernel, rfl⟩
theorem qX11_haze_26 : Dc mX11_haze 26 (.getfield 31) 3 29 := ⟨by decide +kernel, rfl⟩
theorem qX11_haze_29 : Dc mX11_haze 29 (.iload_n 1) 1 30 := ⟨by decide +kernel, rfl⟩
theorem qX11_haze_30 : Dc mX11_haze 30 (.invokevirtual 259) 3 33 := ⟨by decide +kernel, rfl⟩
theorem qX11_haze_33 : Dc mX11_haze 33 (.invokevirtual 244) 3 36 := ⟨by decide +kernel, rfl⟩
theorem qX11_haze_36 : Dc mX11_haze 36 (.ireturn) 1 37 := ⟨by decide +kernel, rfl⟩

set_option maxRecDepth 20000 in
set_option maxHeartbeats 4000000 in
theorem w_X11_haze {x1 : Int32} {s0 : St} {r : Int32} {sr : St} (h : f_X11_haze x1 s0 = some (r, sr)) : Ct mX11_haze 5 [.ref 0, .int x1] s0 (some (.int r), sr) := by
  refine Ct.ofE (by decide +kernel) rfl ?_
  show E mX11_haze 5 (some (.int r), sr) 0 [some (.ref 0), some (.int x1)] [] s0
  unfold f_X11_haze at h
  refine e_iload_n qX11_haze_0 rfl ?_
  refine e_iconst (nI 1) qX11_haze_1 rfl ?_
  refine e_icmp_lt (tgt := 11) qX11_haze_2 rfl h (fun _ h => ?_) (fun _ h => ?_)
  · refine e_iconst (-1) qX11_haze_11 rfl ?_
    exact e_iret qX11_haze_12 rfl (ret_i h)
  refine e_iload_n qX11_haze_5 rfl ?_
  refine e_bipush (nI 30) qX11_haze_6 rfl ?_
  refine e_icmp_le (tgt := 13) qX11_haze_8 rfl h (fun _ h => ?_) (fun _ h => ?_)
  · refine e_aload_n qX11_haze_13 rfl ?_
    refine e_getr 75 qX11_haze_14 fl_X11_58 shq_0 kdq_10_8 rrq_0_8 ?_
    refine e_aload_n qX11_haze_17 rfl ?_
    refine e_getr 49 qX11_haze_18 fl_X11_31 shq_0 kdq_10_3 rrq_0_3 ?_
    obtain ⟨s1, hc, h⟩ := bp_e h
    refine e_cVv1 qX11_haze_21 mv_X11_237 shq_75 rfl rfl (w_X5_mark shq_49 hc) ?_
    refine e_aload_n qX11_haze_24 rfl ?_
    refine e_aload_n qX11_haze_25 rfl ?_
    refine e_getr 49 qX11_haze_26 fl_X11_31 shq_0 kdq_10_3 rrq_0_3 ?_
    refine e_iload_n qX11_haze_29 rfl ?_
    obtain ⟨v2, s3, hc, h⟩ := bd_e h
    refine e_cVi1 qX11_haze_30 mv_X11_259 shq_49 rfl rfl (w_X6_setHaze shq_49 hc) ?_
    obtain ⟨v4, s5, hc, h⟩ := bd_e h
    refine e_cVi1 qX11_haze_33 mv_X11_244 shq_0 rfl rfl (w_X11_keepIfDone hc) ?_
    exact e_iret qX11_haze_36 rfl (ret_i h)
  refine e_iconst (-1) qX11_haze_11 rfl ?_
  exact e_iret qX11_haze_12 rfl (ret_i h)

def f_X11_undo  (s0 : St) : Option (Int32 × St) :=
  bd (f_X5_takeBack 49 s0) fun v1 s2 =>
  some (v1, s2)

theorem qX11_undo_0 : Dc mX11_undo 0 (.aload_n 0) 1 1 := ⟨by decide +kernel, rfl⟩
theorem qX11_undo_1 : Dc mX11_undo 1 (.getfield 58) 3 4 := ⟨by decide +kernel, rfl⟩
theorem qX11_undo_4 : Dc mX11_undo 4 (.aload_n 0) 1 5 := ⟨by decide +kernel, rfl⟩
theorem qX11_undo_5 : Dc mX11_undo 5 (.getfield 31) 3 8 := ⟨by decide +kernel, rfl⟩
theorem qX11_undo_8 : Dc mX11_undo 8 (.invokevirtual 268) 3 11 := ⟨by decide +kernel, rfl⟩
theorem qX11_undo_11 : Dc mX11_undo 11 (.ireturn) 1 12 := ⟨by decide +kernel, rfl⟩

set_option maxRecDepth 20000 in
set_option maxHeartbeats 4000000 in
theorem w_X11_undo  {s0 : St} {r : Int32} {sr : St} (h : f_X11_undo  s0 = some (r, sr)) : Ct mX11_undo 5 [.ref 0] s0 (some (.int r), sr) := by
  refine Ct.ofE (by decide +kernel) rfl ?_
  show E mX11_undo 5 (some (.int r), sr) 0 [some (.ref 0)] [] s0
  unfold f_X11_undo at h
  refine e_aload_n qX11_undo_0 rfl ?_
  refine e_getr 75 qX11_undo_1 fl_X11_58 shq_0 kdq_10_8 rrq_0_8 ?_
  refine e_aload_n qX11_undo_4 rfl ?_
  refine e_getr 49 qX11_undo_5 fl_X11_31 shq_0 kdq_10_3 rrq_0_3 ?_
  obtain ⟨v1, s2, hc, h⟩ := bd_e h
  refine e_cVi1 qX11_undo_8 mv_X11_268 shq_75 rfl rfl (w_X5_takeBack shq_49 hc) ?_
  exact e_iret qX11_undo_11 rfl (ret_i h)

def f_X11_confused (N : Nat)  (s0 : St) : Option (Int32) :=
  bp (f_X1_pairsConfused N 3 s0) fun v1 =>
  some v1

theorem qX11_confused_0 : Dc mX11_confused 0 (.aload_n 0) 1 1 := ⟨by decide +kernel, rfl⟩
theorem qX11_confused_1 : Dc mX11_confused 1 (.getfield 19) 3 4 := ⟨by decide +kernel, rfl⟩
theorem qX11_confused_4 : Dc mX11_confused 4 (.invokevirtual 272) 3 7 := ⟨by decide +kernel, rfl⟩
theorem qX11_confused_7 : Dc mX11_confused 7 (.ireturn) 1 8 := ⟨by decide +kernel, rfl⟩

set_option maxRecDepth 20000 in
set_option maxHeartbeats 4000000 in
theorem w_X11_confused {N : Nat}  {s0 : St} {r : Int32} (h : f_X11_confused N  s0 = some r) : Ct mX11_confused 2 [.ref 0] s0 (some (.int r), s0) := by
  refine Ct.ofE (by decide +kernel) rfl ?_
  show E mX11_confused 2 (some (.int r), s0) 0 [some (.ref 0)] [] s0
  unfold f_X11_confused at h
  refine e_aload_n qX11_confused_0 rfl ?_
  refine e_getr 3 qX11_confused_1 fl_X11_19 shq_0 kdq_10_1 rrq_0_1 ?_
  obtain ⟨v1, hc, h⟩ := bp_e h
  refine e_cVi0 qX11_confused_4 mv_X11_272 shq_3 rfl rfl (w_X1_pairsConfused shq_3 hc) ?_
  exact e_iret qX11_confused_7 rfl (ret_p h)

def f_X11_change (N : Nat)  (s0 : St) : Option (Int32 × St) :=
  bp (f_X1_fewestChanged N 3 s0) fun v1 =>
  vl (sI s0 0 16 v1) fun s2 =>
  vl (s2.1 0 16) fun v3 =>
  bp (f_J6_bitCount_0f7a4 v3 s2) fun v4 =>
  some (v4, s2)

theorem qX11_change_0 : Dc mX11_change 0 (.aload_n 0) 1 1 := ⟨by decide +kernel, rfl⟩
theorem qX11_change_1 : Dc mX11_change 1 (.aload_n 0) 1 2 := ⟨by decide +kernel, rfl⟩
theorem qX11_change_2 : Dc mX11_change 2 (.getfield 19) 3 5 := ⟨by decide +kernel, rfl⟩
theorem qX11_change_5 : Dc mX11_change 5 (.invokevirtual 275) 3 8 := ⟨by decide +kernel, rfl⟩
theorem qX11_change_8 : Dc mX11_change 8 (.putfield 85) 3 11 := ⟨by decide +kernel, rfl⟩
theorem qX11_change_11 : Dc mX11_change 11 (.aload_n 0) 1 12 := ⟨by decide +kernel, rfl⟩
theorem qX11_change_12 : Dc mX11_change 12 (.getfield 85) 3 15 := ⟨by decide +kernel, rfl⟩
theorem qX11_change_15 : Dc mX11_change 15 (.invokestatic 278) 3 18 := ⟨by decide +kernel, rfl⟩
theorem qX11_change_18 : Dc mX11_change 18 (.ireturn) 1 19 := ⟨by decide +kernel, rfl⟩

set_option maxRecDepth 20000 in
set_option maxHeartbeats 4000000 in
theorem w_X11_change {N : Nat}  {s0 : St} {r : Int32} {sr : St} (h : f_X11_change N  s0 = some (r, sr)) : Ct mX11_change 2 [.ref 0] s0 (some (.int r), sr) := by
  refine Ct.ofE (by decide +kernel) rfl ?_
  show E mX11_change 2 (some (.int r), sr) 0 [some (.ref 0)] [] s0
  unfold f_X11_change at h
  refine e_aload_n qX11_change_0 rfl ?_
  refine e_aload_n qX11_change_1 rfl ?_
  refine e_getr 3 qX11_change_2 fl_X11_19 shq_0 kdq_10_1 rrq_0_1 ?_
  obtain ⟨v1, hc, h⟩ := bp_e h
  refine e_cVi0 qX11_change_5 mv_X11_275 shq_3 rfl rfl (w_X1_fewestChanged shq_3 hc) ?_
  refine e_puti qX11_change_8 fp_X11_85 shq_0 kdq_10_16 h (fun s2 h => ?_)
  refine e_aload_n qX11_change_11 rfl ?_
  refine e_geti qX11_change_12 fl_X11_85 shq_0 kdq_10_16 h (fun v3 h => ?_)
  obtain ⟨v4, hc, h⟩ := bp_e h
  refine e_cSi1 qX11_change_15 ms_X11_278 rfl rfl (w_J6_bitCount_0f7a4 hc) ?_
  exact e_iret qX11_change_18 rfl (ret_i h)

def f_X11_apart_L23 (N : Nat) (c3 : Int32) (c4 : Int32) (s0 : St) (k7 : Int32 → Option (Int32)) : Nat → Int32 → Int32 → Option (Int32)
  | 0, _, _ => none
  | n9 + 1, v5, v6 =>
    ald (rr 4) 8 c4 fun v11 =>
    vl (s0.1 v11 10) fun v13 =>
    if v13 ≤ v6 then
      k7 v5
    else
    ald (rr 4) 8 c3 fun v14 =>
    bp (f_X6_placeOf 49 c3 s0) fun v16 =>
    ald (rr 4) 8 c4 fun v17 =>
    bp (f_X4_sameFor N v14 v16 v17 v6 s0) fun v19 =>
    vl (mx v5 v19) fun v20 =>
    vl (v6 + (nI 1)) fun v21 =>
    f_X11_apart_L23 N c3 c4 s0 k7 n9 v20 v21

def f_X11_apart (N : Nat) (x1 : Int32) (x2 : Int32) (s0 : St) : Option (Int32) :=
  bp (f_X11_isLight x1 s0) fun v1 =>
  if v1 = 0 then
    some (-1)
  else
  bp (f_X11_isLight x2 s0) fun v2 =>
  if v2 = 0 then
    some (-1)
  else
  f_X11_apart_L23 N x1 x2 s0 (fun (v22 : Int32) =>
    if (nI 400) ≤ v22 then
      some (-1)
    else
    some (v22 + (nI 1))) N (nI 0) (nI 0)

theorem qX11_apart_0 : Dc mX11_apart 0 (.aload_n 0) 1 1 := ⟨by decide +kernel, rfl⟩
theorem qX11_apart_1 : Dc mX11_apart 1 (.iload_n 1) 1 2 := ⟨by decide +kernel, rfl⟩
theorem qX11_apart_2 : Dc mX11_apart 2 (.invokevirtual 135) 3 5 := ⟨by decide +kernel, rfl⟩
theorem qX11_apart_5 : Dc mX11_apart 5 (.ifCond .eq 11) 3 8 := ⟨by decide +kernel, rfl⟩
theorem qX11_apart_8 : Dc mX11_apart 8 (.aload_n 0) 1 9 := ⟨by decide +kernel, rfl⟩
theorem qX11_apart_9 : Dc mX11_apart 9 (.iload_n 2) 1 10 := ⟨by decide +kernel, rfl⟩
theorem qX11_apart_10 : Dc mX11_apart 10 (.invokevirtual 135) 3 13 := ⟨by decide +kernel, rfl⟩
theorem qX11_apart_13 : Dc mX11_apart 13 (.ifCond .ne 5) 3 16 := ⟨by decide +kernel, rfl⟩
theorem qX11_apart_16 : Dc mX11_apart 16 (.iconst (-1)) 1 17 := ⟨by decide +kernel, rfl⟩
theorem qX11_apart_17 : Dc mX11_apart 17 (.ireturn) 1 18 := ⟨by decide +kernel, rfl⟩
theorem qX11_apart_18 : Dc mX11_apart 18 (.iconst 0) 1 19 := ⟨by decide +kernel, rfl⟩
theorem qX11_apart_19 : Dc mX11_apart 19 (.istore_n 3) 1 20 := ⟨by decide +kernel, rfl⟩
theorem qX11_apart_20 : Dc mX11_apart 20 (.iconst 0) 1 21 := ⟨by decide +kernel, rfl⟩
theorem qX11_apart_21 : Dc mX11_apart 21 (.istore 4) 2 23 := ⟨by decide +kernel, rfl⟩
theorem qX11_apart_23 : Dc mX11_apart 23 (.iload 4) 2 25 := ⟨by decide +kernel, rfl⟩
theorem qX11_apart_25 : Dc mX11_apart 25 (.aload_n 0) 1 26 := ⟨by decide +kernel, rfl⟩
theorem qX11_apart_26 : Dc mX11_apart 26 (.getfield 19) 3 29 := ⟨by decide +kernel, rfl⟩
theorem qX11_apart_29 : Dc mX11_apart 29 (.getfield 142) 3 32 := ⟨by decide +kernel, rfl⟩
theorem qX11_apart_32 : Dc mX11_apart 32 (.iload_n 2) 1 33 := ⟨by decide +kernel, rfl⟩
theorem qX11_apart_33 : Dc mX11_apart 33 (.aaload) 1 34 := ⟨by decide +kernel, rfl⟩
theorem qX11_apart_34 : Dc mX11_apart 34 (.getfield 163) 3 37 := ⟨by decide +kernel, rfl⟩
theorem qX11_apart_37 : Dc mX11_apart 37 (.if_icmp .ge 49) 3 40 := ⟨by decide +kernel, rfl⟩
theorem qX11_apart_40 : Dc mX11_apart 40 (.aload_n 0) 1 41 := ⟨by decide +kernel, rfl⟩
theorem qX11_apart_41 : Dc mX11_apart 41 (.getfield 19) 3 44 := ⟨by decide +kernel, rfl⟩
theorem qX11_apart_44 : Dc mX11_apart 44 (.getfield 142) 3 47 := ⟨by decide +kernel, rfl⟩
theorem qX11_apart_47 : Dc mX11_apart 47 (.iload_n 1) 1 48 := ⟨by decide +kernel, rfl⟩
theorem qX11_apart_48 : Dc mX11_apart 48 (.aaload) 1 49 := ⟨by decide +kernel, rfl⟩
theorem qX11_apart_49 : Dc mX11_apart 49 (.aload_n 0) 1 50 := ⟨by decide +kernel, rfl⟩
theorem qX11_apart_50 : Dc mX11_apart 50 (.getfield 31) 3 53 := ⟨by decide +kernel, rfl⟩
theorem qX11_apart_53 : Dc mX11_apart 53 (.iload_n 1) 1 54 := ⟨by decide +kernel, rfl⟩
theorem qX11_apart_54 : Dc mX11_apart 54 (.invokevirtual 166) 3 57 := ⟨by decide +kernel, rfl⟩
theorem qX11_apart_57 : Dc mX11_apart 57 (.aload_n 0) 1 58 := ⟨by decide +kernel, rfl⟩
theorem qX11_apart_58 : Dc mX11_apart 58 (.getfield 19) 3 61 := ⟨by decide +kernel, rfl⟩
theorem qX11_apart_61 : Dc mX11_apart 61 (.getfield 142) 3 64 := ⟨by decide +kernel, rfl⟩
theorem qX11_apart_64 : Dc mX11_apart 64 (.iload_n 2) 1 65 := ⟨by decide +kernel, rfl⟩
theorem qX11_apart_65 : Dc mX11_apart 65 (.aaload) 1 66 := ⟨by decide +kernel, rfl⟩
theorem qX11_apart_66 : Dc mX11_apart 66 (.iload 4) 2 68 := ⟨by decide +kernel, rfl⟩
theorem qX11_apart_68 : Dc mX11_apart 68 (.invokevirtual 283) 3 71 := ⟨by decide +kernel, rfl⟩
theorem qX11_apart_71 : Dc mX11_apart 71 (.istore 5) 2 73 := ⟨by decide +kernel, rfl⟩
theorem qX11_apart_73 : Dc mX11_apart 73 (.iload_n 3) 1 74 := ⟨by decide +kernel, rfl⟩
theorem qX11_apart_74 : Dc mX11_apart 74 (.iload 5) 2 76 := ⟨by decide +kernel, rfl⟩
theorem qX11_apart_76 : Dc mX11_apart 76 (.invokestatic 287) 3 79 := ⟨by decide +kernel, rfl⟩
theorem qX11_apart_79 : Dc mX11_apart 79 (.istore_n 3) 1 80 := ⟨by decide +kernel, rfl⟩
theorem qX11_apart_80 : Dc mX11_apart 80 (.iinc 4 1) 3 83 := ⟨by decide +kernel, rfl⟩
theorem qX11_apart_83 : Dc mX11_apart 83 (.goto (-60)) 3 86 := ⟨by decide +kernel, rfl⟩
theorem qX11_apart_86 : Dc mX11_apart 86 (.iload_n 3) 1 87 := ⟨by decide +kernel, rfl⟩
theorem qX11_apart_87 : Dc mX11_apart 87 (.sipush 400) 3 90 := ⟨by decide +kernel, rfl⟩
theorem qX11_apart_90 : Dc mX11_apart 90 (.if_icmp .ge 9) 3 93 := ⟨by decide +kernel, rfl⟩
theorem qX11_apart_93 : Dc mX11_apart 93 (.iload_n 3) 1 94 := ⟨by decide +kernel, rfl⟩
theorem qX11_apart_94 : Dc mX11_apart 94 (.iconst 1) 1 95 := ⟨by decide +kernel, rfl⟩
theorem qX11_apart_95 : Dc mX11_apart 95 (.iadd) 1 96 := ⟨by decide +kernel, rfl⟩
theorem qX11_apart_96 : Dc mX11_apart 96 (.goto 4) 3 99 := ⟨by decide +kernel, rfl⟩
theorem qX11_apart_99 : Dc mX11_apart 99 (.iconst (-1)) 1 100 := ⟨by decide +kernel, rfl⟩
theorem qX11_apart_100 : Dc mX11_apart 100 (.ireturn) 1 101 := ⟨by decide +kernel, rfl⟩

set_option maxRecDepth 20000 in
set_option maxHeartbeats 4000000 in
theorem w_X11_apart_L23 {N : Nat} {c3 : Int32} {c4 : Int32} {s0 : St} {k7 : Int32 → Option (Int32)} {r : Int32}  (hk7 : ∀ (v8 : Int32), k7 v8 = some r → E mX11_apart 3 (some (.int r), s0) 86 [none, none, none, some (.int v8), none, none] [] s0) : ∀ (n9 : Nat) (v5 : Int32) (v6 : Int32), f_X11_apart_L23 N c3 c4 s0 k7 n9 v5 v6 = some r → E mX11_apart 3 (some (.int r), s0) 23 [some (.ref 0), some (.int c3), some (.int c4), some (.int v5), some (.int v6), none] [] s0 := by
  intro n9
  induction n9 with
  | zero =>
    intro v5 v6 h
    rw [f_X11_apart_L23] at h; cases h
  | succ n9 ih10 =>
    intro v5 v6 h
    rw [f_X11_apart_L23] at h
    refine e_iload qX11_apart_23 rfl ?_
    refine e_aload_n qX11_apart_25 rfl ?_
    refine e_getr 3 qX11_apart_26 fl_X11_19 shq_0 kdq_10_1 rrq_0_1 ?_
    refine e_getr 4 qX11_apart_29 fl_X11_142 shq_3 kdq_1_0 rrq_3_0 ?_
    refine e_iload_n qX11_apart_32 rfl ?_
    refine e_rald24 qX11_apart_33 shq_4 lnq_4 h (fun i12 hi12 h => ?_)
    refine e_geti qX11_apart_34 fl_X11_163 (we_24 _ shq_4 _ hi12) kdq_4_10 h (fun v13 h => ?_)
    refine e_icmp_ge (tgt := 86) qX11_apart_37 rfl h (fun _ h => ?_) (fun _ h => ?_)
    · exact e_weak (hk7 _ h) ⟨Or.inl rfl, Or.inl rfl, Or.inl rfl, Or.inr rfl, Or.inl rfl, Or.inl rfl, trivial⟩
    refine e_aload_n qX11_apart_40 rfl ?_
    refine e_getr 3 qX11_apart_41 fl_X11_19 shq_0 kdq_10_1 rrq_0_1 ?_
    refine e_getr 4 qX11_apart_44 fl_X11_142 shq_3 kdq_1_0 rrq_3_0 ?_
    refine e_iload_n qX11_apart_47 rfl ?_
    refine e_rald24 qX11_apart_48 shq_4 lnq_4 h (fun i15 hi15 h => ?_)
    refine e_aload_n qX11_apart_49 rfl ?_
    refine e_getr 49 qX11_apart_50 fl_X11_31 shq_0 kdq_10_3 rrq_0_3 ?_
    refine e_iload_n qX11_apart_53 rfl ?_
    obtain ⟨v16, hc, h⟩ := bp_e h
    refine e_cVi1 qX11_apart_54 mv_X11_166 shq_49 rfl rfl (w_X6_placeOf shq_49 hc) ?_
    refine e_aload_n qX11_apart_57 rfl ?_
    refine e_getr 3 qX11_apart_58 fl_X11_19 shq_0 kdq_10_1 rrq_0_1 ?_
    refine e_getr 4 qX11_apart_61 fl_X11_142 shq_3 kdq_1_0 rrq_3_0 ?_
    refine e_iload_n qX11_apart_64 rfl ?_
    refine e_rald24 qX11_apart_65 shq_4 lnq_4 h (fun i18 hi18 h => ?_)
    refine e_iload qX11_apart_66 rfl ?_
    obtain ⟨v19, hc, h⟩ := bp_e h
    refine e_cVi3 qX11_apart_68 mv_X11_283 (we_24 _ shq_4 _ hi15) rfl rfl (w_X4_sameFor (we_24 _ shq_4 _ hi15) (we_24 _ shq_4 _ hi18) hc) ?_
    refine e_istore (lv2 := [some (.ref 0), some (.int c3), some (.int c4), some (.int v5), some (.int v6), some (.int v19)]) qX11_apart_71 rfl rfl rfl ?_
    refine e_iload_n qX11_apart_73 rfl ?_
    refine e_iload qX11_apart_74 rfl ?_
    refine e_mmax qX11_apart_76 cm_X11_287 (by decide) rfl h (fun v20 h => ?_)
    refine e_istore_n (lv2 := [some (.ref 0), some (.int c3), some (.int c4), some (.int v20), some (.int v6), some (.int v19)]) qX11_apart_79 rfl rfl rfl ?_
    refine vl_e h (fun h => ?_)
    obtain ⟨v21, ev21⟩ : ∃ y, v6 + (nI 1) = y := ⟨_, rfl⟩
    rw [ev21] at h
    refine e_iinc (nI 1) v21 (lv2 := [some (.ref 0), some (.int c3), some (.int c4), some (.int v20), some (.int v21), some (.int v19)]) qX11_apart_80 rfl rfl rfl ev21 rfl ?_
    refine e_goto (tgt := 23) qX11_apart_83 rfl ?_
    exact e_weak (ih10 _ _ h) ⟨Or.inr rfl, Or.inr rfl, Or.inr rfl, Or.inr rfl, Or.inr rfl, Or.inl rfl, trivial⟩

set_option maxRecDepth 20000 in
set_option maxHeartbeats 4000000 in
theorem w_X11_apart {N : Nat} {x1 : Int32} {x2 : Int32} {s0 : St} {r : Int32} (h : f_X11_apart N x1 x2 s0 = some r) : Ct mX11_apart 3 [.ref 0, .int x1, .int x2] s0 (some (.int r), s0) := by
  refine Ct.ofE (by decide +kernel) rfl ?_
  show E mX11_apart 3 (some (.int r), s0) 0 [some (.ref 0), some (.int x1), some (.int x2), none, none, none] [] s0
  unfold f_X11_apart at h
  refine e_aload_n qX11_apart_0 rfl ?_
  refine e_iload_n qX11_apart_1 rfl ?_
  obtain ⟨v1, hc, h⟩ := bp_e h
  refine e_cVi1 qX11_apart_2 mv_X11_135 shq_0 rfl rfl (w_X11_isLight hc) ?_
  refine e_if_eq (tgt := 16) qX11_apart_5 rfl h (fun _ h => ?_) (fun _ h => ?_)
  · refine e_iconst (-1) qX11_apart_16 rfl ?_
    exact e_iret qX11_apart_17 rfl (ret_p h)
  refine e_aload_n qX11_apart_8 rfl ?_
  refine e_iload_n qX11_apart_9 rfl ?_
  obtain ⟨v2, hc, h⟩ := bp_e h
  refine e_cVi1 qX11_apart_10 mv_X11_135 shq_0 rfl rfl (w_X11_isLight hc) ?_
  refine e_if_ne (tgt := 18) qX11_apart_13 rfl h (fun _ h => ?_) (fun _ h => ?_)
  · refine e_iconst (-1) qX11_apart_16 rfl ?_
    exact e_iret qX11_apart_17 rfl (ret_p h)
  refine e_iconst (nI 0) qX11_apart_18 rfl ?_
  refine e_istore_n (lv2 := [some (.ref 0), some (.int x1), some (.int x2), some (.int (nI 0)), none, none]) qX11_apart_19 rfl rfl rfl ?_
  refine e_iconst (nI 0) qX11_apart_20 rfl ?_
  refine e_istore (lv2 := [some (.ref 0), some (.int x1), some (.int x2), some (.int (nI 0)), some (.int (nI 0)), none]) qX11_apart_21 rfl rfl rfl ?_
  refine e_weak (w_X11_apart_L23 (fun v22 h => ?_) _ _ _ h) ⟨Or.inr rfl, Or.inr rfl, Or.inr rfl, Or.inr rfl, Or.inr rfl, Or.inl rfl, trivial⟩
  refine e_iload_n qX11_apart_86 rfl ?_
  refine e_sipush (nI 400) qX11_apart_87 rfl ?_
  refine e_icmp_ge (tgt := 99) qX11_apart_90 rfl h (fun _ h => ?_) (fun _ h => ?_)
  · refine e_iconst (-1) qX11_apart_99 rfl ?_
    exact e_iret qX11_apart_100 rfl (ret_p h)
  refine e_iload_n qX11_apart_93 rfl ?_
  refine e_iconst (nI 1) qX11_apart_94 rfl ?_
  refine e_iadd qX11_apart_95 ?_
  refine e_goto (tgt := 100) qX11_apart_96 rfl ?_
  exact e_iret qX11_apart_100 rfl (ret_p h)

def f_X11_both_L62 (N : Nat) (c9 : Int32) (c10 : Int32) (c11 : Nat) (c12 : Nat) (s0 : St) : Nat → Int32 → Int32 → Int32 → Option (Int32)
  | 0, _, _, _ => none
  | n16 + 1, v13, v14, v15 =>
    vl (s0.1 c11 10) fun v18 =>
    vl (s0.1 c12 10) fun v19 =>
    if (v18 * v19) ≤ v15 then
      some (-1)
    else
    ald (s0.1 (rr c11 11)) 160 v13 fun v20 =>
    jn (bp (f_X4_placeBehind c11 v13 s0) fun v22 =>
      bp (f_X4_placeBehind c12 v14 s0) fun v23 =>
      bp (f_X6_placeOf 49 c9 s0) fun v24 =>
      jn (vl (v15 + (nI 1)) fun v26 =>
        f_X11_both_L62 N c9 c10 c11 c12 s0 n16 v22 v23 v26) fun j25 =>
      if v22 = v24 then
        bp (f_X6_placeOf 49 c10 s0) fun v27 =>
        if v23 = v27 then
          some (-1)
        else
        j25
      else
      j25) fun j21 =>
    if v20 = 0 then
      j21
    else
    ald (s0.1 (rr c12 11)) 160 v14 fun v28 =>
    if v28 = 0 then
      j21
    else
    some v15

def f_X11_both (N : Nat) (x1 : Int32) (x2 : Int32) (s0 : St) : Option (Int32) :=
  bp (f_X11_isLight x1 s0) fun v1 =>
  if v1 = 0 then
    some (-1)
  else
  bp (f_X11_isLight x2 s0) fun v2 =>
  if v2 = 0 then
    some (-1)
  else
  ald (rr 4) 8 x1 fun v3 =>
  ald (rr 4) 8 x2 fun v5 =>
  bp (f_X6_placeOf 49 x1 s0) fun v7 =>
  bp (f_X6_placeOf 49 x2 s0) fun v8 =>
  f_X11_both_L62 N x1 x2 v3 v5 s0 N v7 v8 (nI 0)

theorem qX11_both_0 : Dc mX11_both 0 (.aload_n 0) 1 1 := ⟨by decide +kernel, rfl⟩
theorem qX11_both_1 : Dc mX11_both 1 (.iload_n 1) 1 2 := ⟨by decide +kernel, rfl⟩
theorem qX11_both_2 : Dc mX11_both 2 (.invokevirtual 135) 3 5 := ⟨by decide +kernel, rfl⟩
theorem qX11_both_5 : Dc mX11_both 5 (.ifCond .eq 11) 3 8 := ⟨by decide +kernel, rfl⟩
theorem qX11_both_8 : Dc mX11_both 8 (.aload_n 0) 1 9 := ⟨by decide +kernel, rfl⟩
theorem qX11_both_9 : Dc mX11_both 9 (.iload_n 2) 1 10 := ⟨by decide +kernel, rfl⟩
theorem qX11_both_10 : Dc mX11_both 10 (.invokevirtual 135) 3 13 := ⟨by decide +kernel, rfl⟩
theorem qX11_both_13 : Dc mX11_both 13 (.ifCond .ne 5) 3 16 := ⟨by decide +kernel, rfl⟩
theorem qX11_both_16 : Dc mX11_both 16 (.iconst (-1)) 1 17 := ⟨by decide +kernel, rfl⟩
theorem qX11_both_17 : Dc mX11_both 17 (.ireturn) 1 18 := ⟨by decide +kernel, rfl⟩
theorem qX11_both_18 : Dc mX11_both 18 (.aload_n 0) 1 19 := ⟨by decide +kernel, rfl⟩
theorem qX11_both_19 : Dc mX11_both 19 (.getfield 19) 3 22 := ⟨by decide +kernel, rfl⟩
theorem qX11_both_22 : Dc mX11_both 22 (.getfield 142) 3 25 := ⟨by decide +kernel, rfl⟩
theorem qX11_both_25 : Dc mX11_both 25 (.iload_n 1) 1 26 := ⟨by decide +kernel, rfl⟩
theorem qX11_both_26 : Dc mX11_both 26 (.aaload) 1 27 := ⟨by decide +kernel, rfl⟩
theorem qX11_both_27 : Dc mX11_both 27 (.astore_n 3) 1 28 := ⟨by decide +kernel, rfl⟩
theorem qX11_both_28 : Dc mX11_both 28 (.aload_n 0) 1 29 := ⟨by decide +kernel, rfl⟩
theorem qX11_both_29 : Dc mX11_both 29 (.getfield 19) 3 32 := ⟨by decide +kernel, rfl⟩
theorem qX11_both_32 : Dc mX11_both 32 (.getfield 142) 3 35 := ⟨by decide +kernel, rfl⟩
theorem qX11_both_35 : Dc mX11_both 35 (.iload_n 2) 1 36 := ⟨by decide +kernel, rfl⟩
theorem qX11_both_36 : Dc mX11_both 36 (.aaload) 1 37 := ⟨by decide +kernel, rfl⟩
theorem qX11_both_37 : Dc mX11_both 37 (.astore 4) 2 39 := ⟨by decide +kernel, rfl⟩
theorem qX11_both_39 : Dc mX11_both 39 (.aload_n 0) 1 40 := ⟨by decide +kernel, rfl⟩
theorem qX11_both_40 : Dc mX11_both 40 (.getfield 31) 3 43 := ⟨by decide +kernel, rfl⟩
theorem qX11_both_43 : Dc mX11_both 43 (.iload_n 1) 1 44 := ⟨by decide +kernel, rfl⟩
theorem qX11_both_44 : Dc mX11_both 44 (.invokevirtual 166) 3 47 := ⟨by decide +kernel, rfl⟩
theorem qX11_both_47 : Dc mX11_both 47 (.istore 5) 2 49 := ⟨by decide +kernel, rfl⟩
theorem qX11_both_49 : Dc mX11_both 49 (.aload_n 0) 1 50 := ⟨by decide +kernel, rfl⟩
theorem qX11_both_50 : Dc mX11_both 50 (.getfield 31) 3 53 := ⟨by decide +kernel, rfl⟩
theorem qX11_both_53 : Dc mX11_both 53 (.iload_n 2) 1 54 := ⟨by decide +kernel, rfl⟩
theorem qX11_both_54 : Dc mX11_both 54 (.invokevirtual 166) 3 57 := ⟨by decide +kernel, rfl⟩
theorem qX11_both_57 : Dc mX11_both 57 (.istore 6) 2 59 := ⟨by decide +kernel, rfl⟩
theorem qX11_both_59 : Dc mX11_both 59 (.iconst 0) 1 60 := ⟨by decide +kernel, rfl⟩
theorem qX11_both_60 : Dc mX11_both 60 (.istore 7) 2 62 := ⟨by decide +kernel, rfl⟩
theorem qX11_both_62 : Dc mX11_both 62 (.iload 7) 2 64 := ⟨by decide +kernel, rfl⟩
theorem qX11_both_64 : Dc mX11_both 64 (.aload_n 3) 1 65 := ⟨by decide +kernel, rfl⟩
theorem qX11_both_65 : Dc mX11_both 65 (.getfield 163) 3 68 := ⟨by decide +kernel, rfl⟩
theorem qX11_both_68 : Dc mX11_both 68 (.aload 4) 2 70 := ⟨by decide +kernel, rfl⟩
theorem qX11_both_70 : Dc mX11_both 70 (.getfield 163) 3 73 := ⟨by decide +kernel, rfl⟩
theorem qX11_both_73 : Dc mX11_both 73 (.imul) 1 74 := ⟨by decide +kernel, rfl⟩
theorem qX11_both_74 : Dc mX11_both 74 (.if_icmp .ge 78) 3 77 := ⟨by decide +kernel, rfl⟩
theorem qX11_both_77 : Dc mX11_both 77 (.aload_n 3) 1 78 := ⟨by decide +kernel, rfl⟩
theorem qX11_both_78 : Dc mX11_both 78 (.getfield 182) 3 81 := ⟨by decide +kernel, rfl⟩
theorem qX11_both_81 : Dc mX11_both 81 (.iload 5) 2 83 := ⟨by decide +kernel, rfl⟩
theorem qX11_both_83 : Dc mX11_both 83 (.baload) 1 84 := ⟨by decide +kernel, rfl⟩
theorem qX11_both_84 : Dc mX11_both 84 (.ifCond .eq 17) 3 87 := ⟨by decide +kernel, rfl⟩
theorem qX11_both_87 : Dc mX11_both 87 (.aload 4) 2 89 := ⟨by decide +kernel, rfl⟩
theorem qX11_both_89 : Dc mX11_both 89 (.getfield 182) 3 92 := ⟨by decide +kernel, rfl⟩
theorem qX11_both_92 : Dc mX11_both 92 (.iload 6) 2 94 := ⟨by decide +kernel, rfl⟩
theorem qX11_both_94 : Dc mX11_both 94 (.baload) 1 95 := ⟨by decide +kernel, rfl⟩
theorem qX11_both_95 : Dc mX11_both 95 (.ifCond .eq 6) 3 98 := ⟨by decide +kernel, rfl⟩
theorem qX11_both_98 : Dc mX11_both 98 (.iload 7) 2 100 := ⟨by decide +kernel, rfl⟩
theorem qX11_both_100 : Dc mX11_both 100 (.ireturn) 1 101 := ⟨by decide +kernel, rfl⟩
theorem qX11_both_101 : Dc mX11_both 101 (.aload_n 3) 1 102 := ⟨by decide +kernel, rfl⟩
theorem qX11_both_102 : Dc mX11_both 102 (.iload 5) 2 104 := ⟨by decide +kernel, rfl⟩
theorem qX11_both_104 : Dc mX11_both 104 (.invokevirtual 292) 3 107 := ⟨by decide +kernel, rfl⟩
theorem qX11_both_107 : Dc mX11_both 107 (.istore 5) 2 109 := ⟨by decide +kernel, rfl⟩
theorem qX11_both_109 : Dc mX11_both 109 (.aload 4) 2 111 := ⟨by decide +kernel, rfl⟩
theorem qX11_both_111 : Dc mX11_both 111 (.iload 6) 2 113 := ⟨by decide +kernel, rfl⟩
theorem qX11_both_113 : Dc mX11_both 113 (.invokevirtual 292) 3 116 := ⟨by decide +kernel, rfl⟩
theorem qX11_both_116 : Dc mX11_both 116 (.istore 6) 2 118 := ⟨by decide +kernel, rfl⟩
theorem qX11_both_118 : Dc mX11_both 118 (.iload 5) 2 120 := ⟨by decide +kernel, rfl⟩
theorem qX11_both_120 : Dc mX11_both 120 (.aload_n 0) 1 121 := ⟨by decide +kernel, rfl⟩
theorem qX11_both_121 : Dc mX11_both 121 (.getfield 31) 3 124 := ⟨by decide +kernel, rfl⟩
theorem qX11_both_124 : Dc mX11_both 124 (.iload_n 1) 1 125 := ⟨by decide +kernel, rfl⟩
theorem qX11_both_125 : Dc mX11_both 125 (.invokevirtual 166) 3 128 := ⟨by decide +kernel, rfl⟩
theorem qX11_both_128 : Dc mX11_both 128 (.if_icmp .ne 18) 3 131 := ⟨by decide +kernel, rfl⟩
theorem qX11_both_131 : Dc mX11_both 131 (.iload 6) 2 133 := ⟨by decide +kernel, rfl⟩
theorem qX11_both_133 : Dc mX11_both 133 (.aload_n 0) 1 134 := ⟨by decide +kernel, rfl⟩
theorem qX11_both_134 : Dc mX11_both 134 (.getfield 31) 3 137 := ⟨by decide +kernel, rfl⟩
theorem qX11_both_137 : Dc mX11_both 137 (.iload_n 2) 1 138 := ⟨by decide +kernel, rfl⟩
theorem qX11_both_138 : Dc mX11_both 138 (.invokevirtual 166) 3 141 := ⟨by decide +kernel, rfl⟩
theorem qX11_both_141 : Dc mX11_both 141 (.if_icmp .ne 5) 3 144 := ⟨by decide +kernel, rfl⟩
theorem qX11_both_144 : Dc mX11_both 144 (.iconst (-1)) 1 145 := ⟨by decide +kernel, rfl⟩
theorem qX11_both_145 : Dc mX11_both 145 (.ireturn) 1 146 := ⟨by decide +kernel, rfl⟩
theorem qX11_both_146 : Dc mX11_both 146 (.iinc 7 1) 3 149 := ⟨by decide +kernel, rfl⟩
theorem qX11_both_149 : Dc mX11_both 149 (.goto (-87)) 3 152 := ⟨by decide +kernel, rfl⟩
theorem qX11_both_152 : Dc mX11_both 152 (.iconst (-1)) 1 153 := ⟨by decide +kernel, rfl⟩
theorem qX11_both_153 : Dc mX11_both 153 (.ireturn) 1 154 := ⟨by decide +kernel, rfl⟩

set_option maxRecDepth 20000 in
set_option maxHeartbeats 4000000 in
theorem w_X11_both_L62 {N : Nat} {c9 : Int32} {c10 : Int32} {c11 : Nat} {c12 : Nat} {s0 : St}  {r : Int32} (h_c11 : sh c11 = 4) (h_c12 : sh c12 = 4)  : ∀ (n16 : Nat) (v13 : Int32) (v14 : Int32) (v15 : Int32), f_X11_both_L62 N c9 c10 c11 c12 s0 n16 v13 v14 v15 = some r → E mX11_both 2 (some (.int r), s0) 62 [some (.ref 0), some (.int c9), some (.int c10), some (.ref c11), some (.ref c12), some (.int v13), some (.int v14), some (.int v15)] [] s0 := by
  intro n16
  induction n16 with
  | zero =>
    intro v13 v14 v15 h
    rw [f_X11_both_L62] at h; cases h
  | succ n16 ih17 =>
    intro v13 v14 v15 h
    rw [f_X11_both_L62] at h
    refine e_iload qX11_both_62 rfl ?_
    refine e_aload_n qX11_both_64 rfl ?_
    refine e_geti qX11_both_65 fl_X11_163 h_c11 kdq_4_10 h (fun v18 h => ?_)
    refine e_aload qX11_both_68 rfl ?_
    refine e_geti qX11_both_70 fl_X11_163 h_c12 kdq_4_10 h (fun v19 h => ?_)
    refine e_imul qX11_both_73 ?_
    refine e_icmp_ge (tgt := 152) qX11_both_74 rfl h (fun _ h => ?_) (fun _ h => ?_)
    · refine e_iconst (-1) qX11_both_152 rfl ?_
      exact e_iret qX11_both_153 rfl (ret_p h)
    refine e_aload_n qX11_both_77 rfl ?_
    refine e_getr (rr c11 11) qX11_both_78 fl_X11_182 h_c11 kdq_4_11 rfl ?_
    refine e_iload qX11_both_81 rfl ?_
    refine e_zald qX11_both_83 (wt_4_11 _ h_c11).1 (wt_4_11 _ h_c11).2 h (fun v20 h => ?_)
    refine jn_e (fun j => j = some r → E mX11_both 2 (some (.int r), s0) 101 [some (.ref 0), some (.int c9), some (.int c10), some (.ref c11), some (.ref c12), some (.int v13), some (.int v14), some (.int v15)] [] s0) h ?_ (fun j21 hj21 h => ?_)
    · intro h
      refine e_aload_n qX11_both_101 rfl ?_
      refine e_iload qX11_both_102 rfl ?_
      obtain ⟨v22, hc, h⟩ := bp_e h
      refine e_cVi1 qX11_both_104 mv_X11_292 h_c11 rfl rfl (w_X4_placeBehind h_c11 hc) ?_
      refine e_istore (lv2 := [some (.ref 0), some (.int c9), some (.int c10), some (.ref c11), some (.ref c12), some (.int v22), some (.int v14), some (.int v15)]) qX11_both_107 rfl rfl rfl ?_
      refine e_aload qX11_both_109 rfl ?_
      refine e_iload qX11_both_111 rfl ?_
      obtain ⟨v23, hc, h⟩ := bp_e h
      refine e_cVi1 qX11_both_113 mv_X11_292 h_c12 rfl rfl (w_X4_placeBehind h_c12 hc) ?_
      refine e_istore (lv2 := [some (.ref 0), some (.int c9), some (.int c10), some (.ref c11), some (.ref c12), some (.int v22), some (.int v23), some (.int v15)]) qX11_both_116 rfl rfl rfl ?_
      refine e_iload qX11_both_118 rfl ?_
      refine e_aload_n qX11_both_120 rfl ?_
      refine e_getr 49 qX11_both_121 fl_X11_31 shq_0 kdq_10_3 rrq_0_3 ?_
      refine e_iload_n qX11_both_124 rfl ?_
      obtain ⟨v24, hc, h⟩ := bp_e h
      refine e_cVi1 qX11_both_125 mv_X11_166 shq_49 rfl rfl (w_X6_placeOf shq_49 hc) ?_
      refine jn_e (fun j => j = some r → E mX11_both 2 (some (.int r), s0) 146 [some (.ref 0), some (.int c9), some (.int c10), some (.ref c11), some (.ref c12), some (.int v22), some (.int v23), some (.int v15)] [] s0) h ?_ (fun j25 hj25 h => ?_)
      · intro h
        refine vl_e h (fun h => ?_)
        obtain ⟨v26, ev26⟩ : ∃ y, v15 + (nI 1) = y := ⟨_, rfl⟩
        rw [ev26] at h
        refine e_iinc (nI 1) v26 (lv2 := [some (.ref 0), some (.int c9), some (.int c10), some (.ref c11), some (.ref c12), some (.int v22), some (.int v23), some (.int v26)]) qX11_both_146 rfl rfl rfl ev26 rfl ?_
        refine e_goto (tgt := 62) qX11_both_149 rfl ?_
        exact e_weak (ih17 _ _ _ h) ⟨Or.inr rfl, Or.inr rfl, Or.inr rfl, Or.inr rfl, Or.inr rfl, Or.inr rfl, Or.inr rfl, Or.inr rfl, trivial⟩
      refine e_icmp_ne (tgt := 146) qX11_both_128 rfl h (fun _ h => ?_) (fun _ h => ?_)
      · refine e_iload qX11_both_131 rfl ?_
        refine e_aload_n qX11_both_133 rfl ?_
        refine e_getr 49 qX11_both_134 fl_X11_31 shq_0 kdq_10_3 rrq_0_3 ?_
        refine e_iload_n qX11_both_137 rfl ?_
        obtain ⟨v27, hc, h⟩ := bp_e h
        refine e_cVi1 qX11_both_138 mv_X11_166 shq_49 rfl rfl (w_X6_placeOf shq_49 hc) ?_
        refine e_icmp_ne (tgt := 146) qX11_both_141 rfl h (fun _ h => ?_) (fun _ h => ?_)
        · refine e_iconst (-1) qX11_both_144 rfl ?_
          exact e_iret qX11_both_145 rfl (ret_p h)
        exact e_weak (hj25 h) ⟨Or.inr rfl, Or.inr rfl, Or.inr rfl, Or.inr rfl, Or.inr rfl, Or.inr rfl, Or.inr rfl, Or.inr rfl, trivial⟩
      exact e_weak (hj25 h) ⟨Or.inr rfl, Or.inr rfl, Or.inr rfl, Or.inr rfl, Or.inr rfl, Or.inr rfl, Or.inr rfl, Or.inr rfl, trivial⟩
    refine e_if_eq (tgt := 101) qX11_both_84 rfl h (fun _ h => ?_) (fun _ h => ?_)
    · exact e_weak (hj21 h) ⟨Or.inr rfl, Or.inr rfl, Or.inr rfl, Or.inr rfl, Or.inr rfl, Or.inr rfl, Or.inr rfl, Or.inr rfl, trivial⟩
    refine e_aload qX11_both_87 rfl ?_
    refine e_getr (rr c12 11) qX11_both_89 fl_X11_182 h_c12 kdq_4_11 rfl ?_
    refine e_iload qX11_both_92 rfl ?_
    refine e_zald qX11_both_94 (wt_4_11 _ h_c12).1 (wt_4_11 _ h_c12).2 h (fun v28 h => ?_)
    refine e_if_eq (tgt := 101) qX11_both_95 rfl h (fun _ h => ?_) (fun _ h => ?_)
    · exact e_weak (hj21 h) ⟨Or.inr rfl, Or.inr rfl, Or.inr rfl, Or.inr rfl, Or.inr rfl, Or.inr rfl, Or.inr rfl, Or.inr rfl, trivial⟩
    refine e_iload qX11_both_98 rfl ?_
    exact e_iret qX11_both_100 rfl (ret_p h)

set_option maxRecDepth 20000 in
set_option maxHeartbeats 4000000 in
theorem w_X11_both {N : Nat} {x1 : Int32} {x2 : Int32} {s0 : St} {r : Int32} (h : f_X11_both N x1 x2 s0 = some r) : Ct mX11_both 2 [.ref 0, .int x1, .int x2] s0 (some (.int r), s0) := by
  refine Ct.ofE (by decide +kernel) rfl ?_
  show E mX11_both 2 (some (.int r), s0) 0 [some (.ref 0), some (.int x1), some (.int x2), none, none, none, none, none] [] s0
  unfold f_X11_both at h
  refine e_aload_n qX11_both_0 rfl ?_
  refine e_iload_n qX11_both_1 rfl ?_
  obtain ⟨v1, hc, h⟩ := bp_e h
  refine e_cVi1 qX11_both_2 mv_X11_135 shq_0 rfl rfl (w_X11_isLight hc) ?_
  refine e_if_eq (tgt := 16) qX11_both_5 rfl h (fun _ h => ?_) (fun _ h => ?_)
  · refine e_iconst (-1) qX11_both_16 rfl ?_
    exact e_iret qX11_both_17 rfl (ret_p h)
  refine e_aload_n qX11_both_8 rfl ?_
  refine e_iload_n qX11_both_9 rfl ?_
  obtain ⟨v2, hc, h⟩ := bp_e h
  refine e_cVi1 qX11_both_10 mv_X11_135 shq_0 rfl rfl (w_X11_isLight hc) ?_
  refine e_if_ne (tgt := 18) qX11_both_13 rfl h (fun _ h => ?_) (fun _ h => ?_)
  · refine e_iconst (-1) qX11_both_16 rfl ?_
    exact e_iret qX11_both_17 rfl (ret_p h)
  refine e_aload_n qX11_both_18 rfl ?_
  refine e_getr 3 qX11_both_19 fl_X11_19 shq_0 kdq_10_1 rrq_0_1 ?_
  refine e_getr 4 qX11_both_22 fl_X11_142 shq_3 kdq_1_0 rrq_3_0 ?_
  refine e_iload_n qX11_both_25 rfl ?_
  refine e_rald24 qX11_both_26 shq_4 lnq_4 h (fun i4 hi4 h => ?_)
  refine e_astore_n (lv2 := [some (.ref 0), some (.int x1), some (.int x2), some (.ref (rr 4 i4)), none, none, none, none]) qX11_both_27 rfl rfl rfl ?_
  refine e_aload_n qX11_both_28 rfl ?_
  refine e_getr 3 qX11_both_29 fl_X11_19 shq_0 kdq_10_1 rrq_0_1 ?_
  refine e_getr 4 qX11_both_32 fl_X11_142 shq_3 kdq_1_0 rrq_3_0 ?_
  refine e_iload_n qX11_both_35 rfl ?_
  refine e_rald24 qX11_both_36 shq_4 lnq_4 h (fun i6 hi6 h => ?_)
  refine e_astore (lv2 := [some (.ref 0), some (.int x1), some (.int x2), some (.ref (rr 4 i4)), some (.ref (rr 4 i6)), none, none, none]) qX11_both_37 rfl rfl rfl ?_
  refine e_aload_n qX11_both_39 rfl ?_
  refine e_getr 49 qX11_both_40 fl_X11_31 shq_0 kdq_10_3 rrq_0_3 ?_
  refine e_iload_n qX11_both_43 rfl ?_
  obtain ⟨v7, hc, h⟩ := bp_e h
  refine e_cVi1 qX11_both_44 mv_X11_166 shq_49 rfl rfl (w_X6_placeOf shq_49 hc) ?_
  refine e_istore (lv2 := [some (.ref 0), some (.int x1), some (.int x2), some (.ref (rr 4 i4)), some (.ref (rr 4 i6)), some (.int v7), none, none]) qX11_both_47 rfl rfl rfl ?_
  refine e_aload_n qX11_both_49 rfl ?_
  refine e_getr 49 qX11_both_50 fl_X11_31 shq_0 kdq_10_3 rrq_0_3 ?_
  refine e_iload_n qX11_both_53 rfl ?_
  obtain ⟨v8, hc, h⟩ := bp_e h
  refine e_cVi1 qX11_both_54 mv_X11_166 shq_49 rfl rfl (w_X6_placeOf shq_49 hc) ?_
  refine e_istore (lv2 := [some (.ref 0), some (.int x1), some (.int x2), some (.ref (rr 4 i4)), some (.ref (rr 4 i6)), some (.int v7), some (.int v8), none]) qX11_both_57 rfl rfl rfl ?_
  refine e_iconst (nI 0) qX11_both_59 rfl ?_
  refine e_istore (lv2 := [some (.ref 0), some (.int x1), some (.int x2), some (.ref (rr 4 i4)), some (.ref (rr 4 i6)), some (.int v7), some (.int v8), some (.int (nI 0))]) qX11_both_60 rfl rfl rfl ?_
  exact e_weak (w_X11_both_L62 (we_24 _ shq_4 _ hi4) (we_24 _ shq_4 _ hi6)  _ _ _ _ h) ⟨Or.inr rfl, Or.inr rfl, Or.inr rfl, Or.inr rfl, Or.inr rfl, Or.inr rfl, Or.inr rfl, Or.inr rfl, trivial⟩

def f_X11_spots_L23 (N : Nat) (c2 : Int32) : Nat → Int32 → Int32 → St → Option (Int32 × St)
  | 0, _, _, _ => none
  | n6 + 1, v3, v4, s5 =>
    if v4 < 0 then
      some (v3, s5)
    else
    rm_ v4 (nI 20) fun v8 =>
    dv v4 (nI 20) fun v9 =>
    bp (f_X6_visibleFrom N 49 v8 v9 s5) fun v10 =>
    jn (fun (v11 : Int32) (s12 : St) =>
      vl (v4 + (-1)) fun v14 =>
      f_X11_spots_L23 N c2 n6 v11 v14 s12) fun j13 =>
    if v10 = c2 then
      vl (v3 + (nI 1)) fun v15 =>
      vl (sI s5 0 18 v4) fun s16 =>
      j13 v15 s16
    else
    j13 v3 s5

def f_X11_spots (N : Nat) (x1 : Int32) (s0 : St) : Option (Int32 × St) :=
  if x1 < 0 then
    some ((-1), s0)
  else
  bp (f_X1_allLights 3 s0) fun v1 =>
  if x1 ≤ v1 then
    f_X11_spots_L23 N x1 N (nI 0) (nI 399) s0
  else
  some ((-1), s0)

theorem qX11_spots_0 : Dc mX11_spots 0 (.iload_n 1) 1 1 := ⟨by decide +kernel, rfl⟩
theorem qX11_spots_1 : Dc mX11_spots 1 (.ifCond .lt 14) 3 4 := ⟨by decide +kernel, rfl⟩
theorem qX11_spots_4 : Dc mX11_spots 4 (.iload_n 1) 1 5 := ⟨by decide +kernel, rfl⟩
theorem qX11_spots_5 : Dc mX11_spots 5 (.aload_n 0) 1 6 := ⟨by decide +kernel, rfl⟩
theorem qX11_spots_6 : Dc mX11_spots 6 (.getfield 19) 3 9 := ⟨by decide +kernel, rfl⟩
theorem qX11_spots_9 : Dc mX11_spots 9 (.invokevirtual 305) 3 12 := ⟨by decide +kernel, rfl⟩
theorem qX11_spots_12 : Dc mX11_spots 12 (.if_icmp .le 5) 3 15 := ⟨by decide +kernel, rfl⟩
theorem qX11_spots_15 : Dc mX11_spots 15 (.iconst (-1)) 1 16 := ⟨by decide +kernel, rfl⟩
theorem qX11_spots_16 : Dc mX11_spots 16 (.ireturn) 1 17 := ⟨by decide +kernel, rfl⟩
theorem qX11_spots_17 : Dc mX11_spots 17 (.iconst 0) 1 18 := ⟨by decide +kernel, rfl⟩
theorem qX11_spots_18 : Dc mX11_spots 18 (.istore_n 2) 1 19 := ⟨by decide +kernel, rfl⟩
theorem qX11_spots_19 : Dc mX11_spots 19 (.sipush 399) 3 22 := ⟨by decide +kernel, rfl⟩
theorem qX11_spots_22 : Dc mX11_spots 22 (.istore_n 3) 1 23 := ⟨by decide +kernel, rfl⟩
theorem qX11_spots_23 : Dc mX11_spots 23 (.iload_n 3) 1 24 := ⟨by decide +kernel, rfl⟩
theorem qX11_spots_24 : Dc mX11_spots 24 (.ifCond .lt 36) 3 27 := ⟨by decide +kernel, rfl⟩
theorem qX11_spots_27 : Dc mX11_spots 27 (.aload_n 0) 1 28 := ⟨by decide +kernel, rfl⟩
theorem qX11_spots_28 : Dc mX11_spots 28 (.getfield 31) 3 31 := ⟨by decide +kernel, rfl⟩
theorem qX11_spots_31 : Dc mX11_spots 31 (.iload_n 3) 1 32 := ⟨by decide +kernel, rfl⟩
theorem qX11_spots_32 : Dc mX11_spots 32 (.bipush 20) 2 34 := ⟨by decide +kernel, rfl⟩
theorem qX11_spots_34 : Dc mX11_spots 34 (.irem) 1 35 := ⟨by decide +kernel, rfl⟩
theorem qX11_spots_35 : Dc mX11_spots 35 (.iload_n 3) 1 36 := ⟨by decide +kernel, rfl⟩
theorem qX11_spots_36 : Dc mX11_spots 36 (.bipush 20) 2 38 := ⟨by decide +kernel, rfl⟩
theorem qX11_spots_38 : Dc mX11_spots 38 (.idiv) 1 39 := ⟨by decide +kernel, rfl⟩
theorem qX11_spots_39 : Dc mX11_spots 39 (.invokevirtual 207) 3 42 := ⟨by decide +kernel, rfl⟩
theorem qX11_spots_42 : Dc mX11_spots 42 (.iload_n 1) 1 43 := ⟨by decide +kernel, rfl⟩
theorem qX11_spots_43 : Dc mX11_spots 43 (.if_icmp .ne 11) 3 46 := ⟨by decide +kernel, rfl⟩
theorem qX11_spots_46 : Dc mX11_spots 46 (.iinc 2 1) 3 49 := ⟨by decide +kernel, rfl⟩
theorem qX11_spots_49 : Dc mX11_spots 49 (.aload_n 0) 1 50 := ⟨by decide +kernel, rfl⟩
theorem qX11_spots_50 : Dc mX11_spots 50 (.iload_n 3) 1 51 := ⟨by decide +kernel, rfl⟩
theorem qX11_spots_51 : Dc mX11_spots 51 (.putfield 92) 3 54 := ⟨by decide +kernel, rfl⟩
theorem qX11_spots_54 : Dc mX11_spots 54 (.iinc 3 (-1)) 3 57 := ⟨by decide +kernel, rfl⟩
theorem qX11_spots_57 : Dc mX11_spots 57 (.goto (-34)) 3 60 := ⟨by decide +kernel, rfl⟩
theorem qX11_spots_60 : Dc mX11_spots 60 (.iload_n 2) 1 61 := ⟨by decide +kernel, rfl⟩
theorem qX11_spots_61 : Dc mX11_spots 61 (.ireturn) 1 62 := ⟨by decide +kernel, rfl⟩

set_option maxRecDepth 20000 in
set_option maxHeartbeats 4000000 in
theorem w_X11_spots_L23 {N : Nat} {c2 : Int32}  {r : Int32} {sr : St}   : ∀ (n6 : Nat) (v3 : Int32) (v4 : Int32) (s5 : St), f_X11_spots_L23 N c2 n6 v3 v4 s5 = some (r, sr) → E mX11_spots 3 (some (.int r), sr) 23 [some (.ref 0), some (.int c2), some (.int v3), some (.int v4)] [] s5 := by
  intro n6
  induction n6 with
  | zero =>
    intro v3 v4 s5 h
    rw [f_X11_spots_L23] at h; cases h
  | succ n6 ih7 =>
    intro v3 v4 s5 h
    rw [f_X11_spots_L23] at h
    refine e_iload_n qX11_spots_23 rfl ?_
    refine e_if_lt (tgt := 60) qX11_spots_24 rfl h (fun _ h => ?_) (fun _ h => ?_)
    · refine e_iload_n qX11_spots_60 rfl ?_
      exact e_iret qX11_spots_61 rfl (ret_i h)
    refine e_aload_n qX11_spots_27 rfl ?_
    refine e_getr 49 qX11_spots_28 fl_X11_31 shq_0 kdq_10_3 rrq_0_3 ?_
    refine e_iload_n qX11_spots_31 rfl ?_
    refine e_bipush (nI 20) qX11_spots_32 rfl ?_
    refine e_irem qX11_spots_34 h (fun v8 h => ?_)
    refine e_iload_n qX11_spots_35 rfl ?_
    refine e_bipush (nI 20) qX11_spots_36 rfl ?_
    refine e_idiv qX11_spots_38 h (fun v9 h => ?_)
    obtain ⟨v10, hc, h⟩ := bp_e h
    refine e_cVi2 qX11_spots_39 mv_X11_207 shq_49 rfl rfl (w_X6_visibleFrom shq_49 hc) ?_
    refine e_iload_n qX11_spots_42 rfl ?_
    refine jn_e (fun j => ∀ (v11 : Int32) (s12 : St), j v11 s12 = some (r, sr) → E mX11_spots 3 (some (.int r), sr) 54 [some (.ref 0), some (.int c2), some (.int v11), some (.int v4)] [] s12) h ?_ (fun j13 hj13 h => ?_)
    · intro v11 s12 h
      refine vl_e h (fun h => ?_)
      obtain ⟨v14, ev14⟩ : ∃ y, v4 + (-1) = y := ⟨_, rfl⟩
      rw [ev14] at h
      refine e_iinc (-1) v14 (lv2 := [some (.ref 0), some (.int c2), some (.int v11), some (.int v14)]) qX11_spots_54 rfl rfl rfl ev14 rfl ?_
      refine e_goto (tgt := 23) qX11_spots_57 rfl ?_
      exact e_weak (ih7 _ _ _ h) ⟨Or.inr rfl, Or.inr rfl, Or.inr rfl, Or.inr rfl, trivial⟩
    refine e_icmp_ne (tgt := 54) qX11_spots_43 rfl h (fun _ h => ?_) (fun _ h => ?_)
    · refine vl_e h (fun h => ?_)
      obtain ⟨v15, ev15⟩ : ∃ y, v3 + (nI 1) = y := ⟨_, rfl⟩
      rw [ev15] at h
      refine e_iinc (nI 1) v15 (lv2 := [some (.ref 0), some (.int c2), some (.int v15), some (.int v4)]) qX11_spots_46 rfl rfl rfl ev15 rfl ?_
      refine e_aload_n qX11_spots_49 rfl ?_
      refine e_iload_n qX11_spots_50 rfl ?_
      refine e_puti qX11_spots_51 fp_X11_92 shq_0 kdq_10_18 h (fun s16 h => ?_)
      exact e_weak (hj13 _ _ h) ⟨Or.inr rfl, Or.inr rfl, Or.inr rfl, Or.inr rfl, trivial⟩
    exact e_weak (hj13 _ _ h) ⟨Or.inr rfl, Or.inr rfl, Or.inr rfl, Or.inr rfl, trivial⟩

set_option maxRecDepth 20000 in
set_option maxHeartbeats 4000000 in
theorem w_X11_spots {N : Nat} {x1 : Int32} {s0 : St} {r : Int32} {sr : St} (h : f_X11_spots N x1 s0 = some (r, sr)) : Ct mX11_spots 3 [.ref 0, .int x1] s0 (some (.int r), sr) := by
  refine Ct.ofE (by decide +kernel) rfl ?_
  show E mX11_spots 3 (some (.int r), sr) 0 [some (.ref 0), some (.int x1), none, none] [] s0
  unfold f_X11_spots at h
  refine e_iload_n qX11_spots_0 rfl ?_
  refine e_if_lt (tgt := 15) qX11_spots_1 rfl h (fun _ h => ?_) (fun _ h => ?_)
  · refine e_iconst (-1) qX11_spots_15 rfl ?_
    exact e_iret qX11_spots_16 rfl (ret_i h)
  refine e_iload_n qX11_spots_4 rfl ?_
  refine e_aload_n qX11_spots_5 rfl ?_
  refine e_getr 3 qX11_spots_6 fl_X11_19 shq_0 kdq_10_1 rrq_0_1 ?_
  obtain ⟨v1, hc, h⟩ := bp_e h
  refine e_cVi0 qX11_spots_9 mv_X11_305 shq_3 rfl rfl (w_X1_allLights shq_3 hc) ?_
  refine e_icmp_le (tgt := 17) qX11_spots_12 rfl h (fun _ h => ?_) (fun _ h => ?_)
  · refine e_iconst (nI 0) qX11_spots_17 rfl ?_
    refine e_istore_n (lv2 := [some (.ref 0), some (.int x1), some (.int (nI 0)), none]) qX11_spots_18 rfl rfl rfl ?_
    refine e_sipush (nI 399) qX11_spots_19 rfl ?_
    refine e_istore_n (lv2 := [some (.ref 0), some (.int x1), some (.int (nI 0)), some (.int (nI 399))]) qX11_spots_22 rfl rfl rfl ?_
    exact e_weak (w_X11_spots_L23  _ _ _ _ h) ⟨Or.inr rfl, Or.inr rfl, Or.inr rfl, Or.inr rfl, trivial⟩
  refine e_iconst (-1) qX11_spots_15 rfl ?_
  exact e_iret qX11_spots_16 rfl (ret_i h)

def f_X11_fix_L15 (N : Nat) (k9 : Int32 → St → Option (Int32 × St)) : Nat → Int32 → Int32 → St → Option (Int32 × St)
  | 0, _, _, _ => none
  | n12 + 1, v6, v7, s8 =>
    if v7 < 0 then
      k9 v6 s8
    else
    rm_ v7 (nI 20) fun v14 =>
    dv v7 (nI 20) fun v15 =>
    bp (f_X11_liesAsTaped N v14 v15 s8) fun v16 =>
    jn (fun (v17 : Int32) (s18 : St) =>
      vl (v7 + (-1)) fun v20 =>
      f_X11_fix_L15 N k9 n12 v17 v20 s18) fun j19 =>
    if v16 = 0 then
      j19 v6 s8
    else
    vl (v6 + (nI 1)) fun v21 =>
    vl (sI s8 0 19 v7) fun s22 =>
    j19 v21 s22

def f_X11_fix (N : Nat)  (s0 : St) : Option (Int32 × St) :=
  bp (f_X11_isFixTape N s0) fun v1 =>
  jn (fun (v2 : Int32) (s3 : St) =>
    vl (sI s3 1 1 (nI 0)) fun s5 =>
    some (v2, s5)) fun j4 =>
  if v1 = 0 then
    j4 (-1) s0
  else
  f_X11_fix_L15 N (fun (v23 : Int32) (s24 : St) =>
    j4 v23 s24) N (nI 0) (nI 399) s0

theorem qX11_fix_0 : Dc mX11_fix 0 (.iconst (-1)) 1 1 := ⟨by decide +kernel, rfl⟩
theorem qX11_fix_1 : Dc mX11_fix 1 (.istore_n 1) 1 2 := ⟨by decide +kernel, rfl⟩
theorem qX11_fix_2 : Dc mX11_fix 2 (.aload_n 0) 1 3 := ⟨by decide +kernel, rfl⟩
theorem qX11_fix_3 : Dc mX11_fix 3 (.invokevirtual 308) 3 6 := ⟨by decide +kernel, rfl⟩
theorem qX11_fix_6 : Dc mX11_fix 6 (.ifCond .eq 42) 3 9 := ⟨by decide +kernel, rfl⟩
theorem qX11_fix_9 : Dc mX11_fix 9 (.iconst 0) 1 10 := ⟨by decide +kernel, rfl⟩
theorem qX11_fix_10 : Dc mX11_fix 10 (.istore_n 1) 1 11 := ⟨by decide +kernel, rfl⟩
theorem qX11_fix_11 : Dc mX11_fix 11 (.sipush 399) 3 14 := ⟨by decide +kernel, rfl⟩
theorem qX11_fix_14 : Dc mX11_fix 14 (.istore_n 2) 1 15 := ⟨by decide +kernel, rfl⟩
theorem qX11_fix_15 : Dc mX11_fix 15 (.iload_n 2) 1 16 := ⟨by decide +kernel, rfl⟩
theorem qX11_fix_16 : Dc mX11_fix 16 (.ifCond .lt 32) 3 19 := ⟨by decide +kernel, rfl⟩
theorem qX11_fix_19 : Dc mX11_fix 19 (.aload_n 0) 1 20 := ⟨by decide +kernel, rfl⟩
theorem qX11_fix_20 : Dc mX11_fix 20 (.iload_n 2) 1 21 := ⟨by decide +kernel, rfl⟩
theorem qX11_fix_21 : Dc mX11_fix 21 (.bipush 20) 2 23 := ⟨by decide +kernel, rfl⟩
theorem qX11_fix_23 : Dc mX11_fix 23 (.irem) 1 24 := ⟨by decide +kernel, rfl⟩
theorem qX11_fix_24 : Dc mX11_fix 24 (.iload_n 2) 1 25 := ⟨by decide +kernel, rfl⟩
theorem qX11_fix_25 : Dc mX11_fix 25 (.bipush 20) 2 27 := ⟨by decide +kernel, rfl⟩
theorem qX11_fix_27 : Dc mX11_fix 27 (.idiv) 1 28 := ⟨by decide +kernel, rfl⟩
theorem qX11_fix_28 : Dc mX11_fix 28 (.invokevirtual 311) 3 31 := ⟨by decide +kernel, rfl⟩
theorem qX11_fix_31 : Dc mX11_fix 31 (.ifCond .eq 11) 3 34 := ⟨by decide +kernel, rfl⟩
theorem qX11_fix_34 : Dc mX11_fix 34 (.iinc 1 1) 3 37 := ⟨by decide +kernel, rfl⟩
theorem qX11_fix_37 : Dc mX11_fix 37 (.aload_n 0) 1 38 := ⟨by decide +kernel, rfl⟩
theorem qX11_fix_38 : Dc mX11_fix 38 (.iload_n 2) 1 39 := ⟨by decide +kernel, rfl⟩
theorem qX11_fix_39 : Dc mX11_fix 39 (.putfield 95) 3 42 := ⟨by decide +kernel, rfl⟩
theorem qX11_fix_42 : Dc mX11_fix 42 (.iinc 2 (-1)) 3 45 := ⟨by decide +kernel, rfl⟩
theorem qX11_fix_45 : Dc mX11_fix 45 (.goto (-30)) 3 48 := ⟨by decide +kernel, rfl⟩
theorem qX11_fix_48 : Dc mX11_fix 48 (.aload_n 0) 1 49 := ⟨by decide +kernel, rfl⟩
theorem qX11_fix_49 : Dc mX11_fix 49 (.getfield 12) 3 52 := ⟨by decide +kernel, rfl⟩
theorem qX11_fix_52 : Dc mX11_fix 52 (.iconst 0) 1 53 := ⟨by decide +kernel, rfl⟩
theorem qX11_fix_53 : Dc mX11_fix 53 (.putfield 102) 3 56 := ⟨by decide +kernel, rfl⟩
theorem qX11_fix_56 : Dc mX11_fix 56 (.iload_n 1) 1 57 := ⟨by decide +kernel, rfl⟩
theorem qX11_fix_57 : Dc mX11_fix 57 (.ireturn) 1 58 := ⟨by decide +kernel, rfl⟩

set_option maxRecDepth 20000 in
set_option maxHeartbeats 4000000 in
theorem w_X11_fix_L15 {N : Nat}  {k9 : Int32 → St → Option (Int32 × St)} {r : Int32} {sr : St}  (hk9 : ∀ (v10 : Int32) (s11 : St), k9 v10 s11 = some (r, sr) → E mX11_fix 2 (some (.int r), sr) 48 [some (.ref 0), some (.int v10), none] [] s11) : ∀ (n12 : Nat) (v6 : Int32) (v7 : Int32) (s8 : St), f_X11_fix_L15 N k9 n12 v6 v7 s8 = some (r, sr) → E mX11_fix 2 (some (.int r), sr) 15 [some (.ref 0), some (.int v6), some (.int v7)] [] s8 := by
  intro n12
  induction n12 with
  | zero =>
    intro v6 v7 s8 h
    rw [f_X11_fix_L15] at h; cases h
  | succ n12 ih13 =>
    intro v6 v7 s8 h
    rw [f_X11_fix_L15] at h
    refine e_iload_n qX11_fix_15 rfl ?_
    refine e_if_lt (tgt := 48) qX11_fix_16 rfl h (fun _ h => ?_) (fun _ h => ?_)
    · exact e_weak (hk9 _ _ h) ⟨Or.inr rfl, Or.inr rfl, Or.inl rfl, trivial⟩
    refine e_aload_n qX11_fix_19 rfl ?_
    refine e_iload_n qX11_fix_20 rfl ?_
    refine e_bipush (nI 20) qX11_fix_21 rfl ?_
    refine e_irem qX11_fix_23 h (fun v14 h => ?_)
    refine e_iload_n qX11_fix_24 rfl ?_
    refine e_bipush (nI 20) qX11_fix_25 rfl ?_
    refine e_idiv qX11_fix_27 h (fun v15 h => ?_)
    obtain ⟨v16, hc, h⟩ := bp_e h
    refine e_cVi2 qX11_fix_28 mv_X11_311 shq_0 rfl rfl (w_X11_liesAsTaped hc) ?_
    refine jn_e (fun j => ∀ (v17 : Int32) (s18 : St), j v17 s18 = some (r, sr) → E mX11_fix 2 (some (.int r), sr) 42 [some (.ref 0), some (.int v17), some (.int v7)] [] s18) h ?_ (fun j19 hj19 h => ?_)
    · intro v17 s18 h
      refine vl_e h (fun h => ?_)
      obtain ⟨v20, ev20⟩ : ∃ y, v7 + (-1) = y := ⟨_, rfl⟩
      rw [ev20] at h
      refine e_iinc (-1) v20 (lv2 := [some (.ref 0), some (.int v17), some (.int v20)]) qX11_fix_42 rfl rfl rfl ev20 rfl ?_
      refine e_goto (tgt := 15) qX11_fix_45 rfl ?_
      exact e_weak (ih13 _ _ _ h) ⟨Or.inr rfl, Or.inr rfl, Or.inr rfl, trivial⟩
    refine e_if_eq (tgt := 42) qX11_fix_31 rfl h (fun _ h => ?_) (fun _ h => ?_)
    · exact e_weak (hj19 _ _ h) ⟨Or.inr rfl, Or.inr rfl, Or.inr rfl, trivial⟩
    refine vl_e h (fun h => ?_)
    obtain ⟨v21, ev21⟩ : ∃ y, v6 + (nI 1) = y := ⟨_, rfl⟩
    rw [ev21] at h
    refine e_iinc (nI 1) v21 (lv2 := [some (.ref 0), some (.int v21), some (.int v7)]) qX11_fix_34 rfl rfl rfl ev21 rfl ?_
    refine e_aload_n qX11_fix_37 rfl ?_
    refine e_iload_n qX11_fix_38 rfl ?_
    refine e_puti qX11_fix_39 fp_X11_95 shq_0 kdq_10_19 h (fun s22 h => ?_)
    exact e_weak (hj19 _ _ h) ⟨Or.inr rfl, Or.inr rfl, Or.inr rfl, trivial⟩

set_option maxRecDepth 20000 in
set_option maxHeartbeats 4000000 in
theorem w_X11_fix {N : Nat}  {s0 : St} {r : Int32} {sr : St} (h : f_X11_fix N  s0 = some (r, sr)) : Ct mX11_fix 2 [.ref 0] s0 (some (.int r), sr) := by
  refine Ct.ofE (by decide +kernel) rfl ?_
  show E mX11_fix 2 (some (.int r), sr) 0 [some (.ref 0), none, none] [] s0
  unfold f_X11_fix at h
  refine e_iconst (-1) qX11_fix_0 rfl ?_
  refine e_istore_n (lv2 := [some (.ref 0), some (.int (-1)), none]) qX11_fix_1 rfl rfl rfl ?_
  refine e_aload_n qX11_fix_2 rfl ?_
  obtain ⟨v1, hc, h⟩ := bp_e h
  refine e_cVi0 qX11_fix_3 mv_X11_308 shq_0 rfl rfl (w_X11_isFixTape hc) ?_
  refine jn_e (fun j => ∀ (v2 : Int32) (s3 : St), j v2 s3 = some (r, sr) → E mX11_fix 2 (some (.int r), sr) 48 [some (.ref 0), some (.int v2), none] [] s3) h ?_ (fun j4 hj4 h => ?_)
  · intro v2 s3 h
    refine e_aload_n qX11_fix_48 rfl ?_
    refine e_getr 1 qX11_fix_49 fl_X11_12 shq_0 kdq_10_0 rrq_0_0 ?_
    refine e_iconst (nI 0) qX11_fix_52 rfl ?_
    refine e_puti qX11_fix_53 fp_X11_102 shq_1 kdq_9_1 h (fun s5 h => ?_)
    refine e_iload_n qX11_fix_56 rfl ?_
    exact e_iret qX11_fix_57 rfl (ret_i h)
  refine e_if_eq (tgt := 48) qX11_fix_6 rfl h (fun _ h => ?_) (fun _ h => ?_)
  · exact e_weak (hj4 _ _ h) ⟨Or.inr rfl, Or.inr rfl, Or.inl rfl, trivial⟩
  refine e_iconst (nI 0) qX11_fix_9 rfl ?_
  refine e_istore_n (lv2 := [some (.ref 0), some (.int (nI 0)), none]) qX11_fix_10 rfl rfl rfl ?_
  refine e_sipush (nI 399) qX11_fix_11 rfl ?_
  refine e_istore_n (lv2 := [some (.ref 0), some (.int (nI 0)), some (.int (nI 399))]) qX11_fix_14 rfl rfl rfl ?_
  refine e_weak (w_X11_fix_L15 (fun v23 s24 h => ?_) _ _ _ _ h) ⟨Or.inr rfl, Or.inr rfl, Or.inr rfl, trivial⟩
  exact e_weak (hj4 _ _ h) ⟨Or.inr rfl, Or.inr rfl, Or.inl rfl, trivial⟩

def f_X11_most_L18 (N : Nat) (s0 : St) : Nat → Int32 → Int32 → Int32 → Option (Int32)
  | 0, _, _, _ => none
  | n5 + 1, v2, v3, v4 =>
    if (nI 400) ≤ v4 then
      some v2
    else
    rm_ v4 (nI 20) fun v7 =>
    dv v4 (nI 20) fun v8 =>
    bp (f_X6_visibleFrom N 49 v7 v8 s0) fun v9 =>
    bp (f_J6_bitCount_0f7a4 v9 s0) fun v10 =>
    jn (fun (v11 : Int32) (v12 : Int32) =>
      vl (v4 + (nI 1)) fun v14 =>
      f_X11_most_L18 N s0 n5 v11 v12 v14) fun j13 =>
    if v10 ≤ v3 then
      j13 v2 v3
    else
    j13 v4 v10

def f_X11_most (N : Nat)  (s0 : St) : Option (Int32) :=
  vl (s0.1 3 2) fun v1 =>
  if v1 = 0 then
    some (-1)
  else
  f_X11_most_L18 N s0 N (nI 0) (nI 0) (nI 0)

theorem qX11_most_0 : Dc mX11_most 0 (.aload_n 0) 1 1 := ⟨by decide +kernel, rfl⟩
theorem qX11_most_1 : Dc mX11_most 1 (.getfield 19) 3 4 := ⟨by decide +kernel, rfl⟩
theorem qX11_most_4 : Dc mX11_most 4 (.getfield 314) 3 7 := ⟨by decide +kernel, rfl⟩
theorem qX11_most_7 : Dc mX11_most 7 (.ifCond .ne 5) 3 10 := ⟨by decide +kernel, rfl⟩
theorem qX11_most_10 : Dc mX11_most 10 (.iconst (-1)) 1 11 := ⟨by decide +kernel, rfl⟩
theorem qX11_most_11 : Dc mX11_most 11 (.ireturn) 1 12 := ⟨by decide +kernel, rfl⟩
theorem qX11_most_12 : Dc mX11_most 12 (.iconst 0) 1 13 := ⟨by decide +kernel, rfl⟩
theorem qX11_most_13 : Dc mX11_most 13 (.istore_n 1) 1 14 := ⟨by decide +kernel, rfl⟩
theorem qX11_most_14 : Dc mX11_most 14 (.iconst 0) 1 15 := ⟨by decide +kernel, rfl⟩
theorem qX11_most_15 : Dc mX11_most 15 (.istore_n 2) 1 16 := ⟨by decide +kernel, rfl⟩
theorem qX11_most_16 : Dc mX11_most 16 (.iconst 0) 1 17 := ⟨by decide +kernel, rfl⟩
theorem qX11_most_17 : Dc mX11_most 17 (.istore_n 3) 1 18 := ⟨by decide +kernel, rfl⟩
theorem qX11_most_18 : Dc mX11_most 18 (.iload_n 3) 1 19 := ⟨by decide +kernel, rfl⟩
theorem qX11_most_19 : Dc mX11_most 19 (.sipush 400) 3 22 := ⟨by decide +kernel, rfl⟩
theorem qX11_most_22 : Dc mX11_most 22 (.if_icmp .ge 40) 3 25 := ⟨by decide +kernel, rfl⟩
theorem qX11_most_25 : Dc mX11_most 25 (.aload_n 0) 1 26 := ⟨by decide +kernel, rfl⟩
theorem qX11_most_26 : Dc mX11_most 26 (.getfield 31) 3 29 := ⟨by decide +kernel, rfl⟩
theorem qX11_most_29 : Dc mX11_most 29 (.iload_n 3) 1 30 := ⟨by decide +kernel, rfl⟩
theorem qX11_most_30 : Dc mX11_most 30 (.bipush 20) 2 32 := ⟨by decide +kernel, rfl⟩
theorem qX11_most_32 : Dc mX11_most 32 (.irem) 1 33 := ⟨by decide +kernel, rfl⟩
theorem qX11_most_33 : Dc mX11_most 33 (.iload_n 3) 1 34 := ⟨by decide +kernel, rfl⟩
theorem qX11_most_34 : Dc mX11_most 34 (.bipush 20) 2 36 := ⟨by decide +kernel, rfl⟩
theorem qX11_most_36 : Dc mX11_most 36 (.idiv) 1 37 := ⟨by decide +kernel, rfl⟩
theorem qX11_most_37 : Dc mX11_most 37 (.invokevirtual 207) 3 40 := ⟨by decide +kernel, rfl⟩
theorem qX11_most_40 : Dc mX11_most 40 (.invokestatic 278) 3 43 := ⟨by decide +kernel, rfl⟩
theorem qX11_most_43 : Dc mX11_most 43 (.istore 4) 2 45 := ⟨by decide +kernel, rfl⟩
theorem qX11_most_45 : Dc mX11_most 45 (.iload 4) 2 47 := ⟨by decide +kernel, rfl⟩
theorem qX11_most_47 : Dc mX11_most 47 (.iload_n 2) 1 48 := ⟨by decide +kernel, rfl⟩
theorem qX11_most_48 : Dc mX11_most 48 (.if_icmp .le 8) 3 51 := ⟨by decide +kernel, rfl⟩
theorem qX11_most_51 : Dc mX11_most 51 (.iload_n 3) 1 52 := ⟨by decide +kernel, rfl⟩
theorem qX11_most_52 : Dc mX11_most 52 (.istore_n 1) 1 53 := ⟨by decide +kernel, rfl⟩
theorem qX11_most_53 : Dc mX11_most 53 (.iload 4) 2 55 := ⟨by decide +kernel, rfl⟩
theorem qX11_most_55 : Dc mX11_most 55 (.istore_n 2) 1 56 := ⟨by decide +kernel, rfl⟩
theorem qX11_most_56 : Dc mX11_most 56 (.iinc 3 1) 3 59 := ⟨by decide +kernel, rfl⟩
theorem qX11_most_59 : Dc mX11_most 59 (.goto (-41)) 3 62 := ⟨by decide +kernel, rfl⟩
theorem qX11_most_62 : Dc mX11_most 62 (.iload_n 1) 1 63 := ⟨by decide +kernel, rfl⟩
theorem qX11_most_63 : Dc mX11_most 63 (.ireturn) 1 64 := ⟨by decide +kernel, rfl⟩

set_option maxRecDepth 20000 in
set_option maxHeartbeats 4000000 in
theorem w_X11_most_L18 {N : Nat}  {s0 : St}  {r : Int32}   : ∀ (n5 : Nat) (v2 : Int32) (v3 : Int32) (v4 : Int32), f_X11_most_L18 N s0 n5 v2 v3 v4 = some r → E mX11_most 3 (some (.int r), s0) 18 [some (.ref 0), some (.int v2), some (.int v3), some (.int v4), none] [] s0 := by
  intro n5
  induction n5 with
  | zero =>
    intro v2 v3 v4 h
    rw [f_X11_most_L18] at h; cases h
  | succ n5 ih6 =>
    intro v2 v3 v4 h
    rw [f_X11_most_L18] at h
    refine e_iload_n qX11_most_18 rfl ?_
    refine e_sipush (nI 400) qX11_most_19 rfl ?_
    refine e_icmp_ge (tgt := 62) qX11_most_22 rfl h (fun _ h => ?_) (fun _ h => ?_)
    · refine e_iload_n qX11_most_62 rfl ?_
      exact e_iret qX11_most_63 rfl (ret_p h)
    refine e_aload_n qX11_most_25 rfl ?_
    refine e_getr 49 qX11_most_26 fl_X11_31 shq_0 kdq_10_3 rrq_0_3 ?_
    refine e_iload_n qX11_most_29 rfl ?_
    refine e_bipush (nI 20) qX11_most_30 rfl ?_
    refine e_irem qX11_most_32 h (fun v7 h => ?_)
    refine e_iload_n qX11_most_33 rfl ?_
    refine e_bipush (nI 20) qX11_most_34 rfl ?_
    refine e_idiv qX11_most_36 h (fun v8 h => ?_)
    obtain ⟨v9, hc, h⟩ := bp_e h
    refine e_cVi2 qX11_most_37 mv_X11_207 shq_49 rfl rfl (w_X6_visibleFrom shq_49 hc) ?_
    obtain ⟨v10, hc, h⟩ := bp_e h
    refine e_cSi1 qX11_most_40 ms_X11_278 rfl rfl (w_J6_bitCount_0f7a4 hc) ?_
    refine e_istore (lv2 := [some (.ref 0), some (.int v2), some (.int v3), some (.int v4), some (.int v10)]) qX11_most_43 rfl rfl rfl ?_
    refine e_iload qX11_most_45 rfl ?_
    refine e_iload_n qX11_most_47 rfl ?_
    refine jn_e (fun j => ∀ (v11 : Int32) (v12 : Int32), j v11 v12 = some r → E mX11_most 3 (some (.int r), s0) 56 [some (.ref 0), some (.int v11), some (.int v12), some (.int v4), none] [] s0) h ?_ (fun j13 hj13 h => ?_)
    · intro v11 v12 h
      refine vl_e h (fun h => ?_)
      obtain ⟨v14, ev14⟩ : ∃ y, v4 + (nI 1) = y := ⟨_, rfl⟩
      rw [ev14] at h
      refine e_iinc (nI 1) v14 (lv2 := [some (.ref 0), some (.int v11), some (.int v12), some (.int v14), none]) qX11_most_56 rfl rfl rfl ev14 rfl ?_
      refine e_goto (tgt := 18) qX11_most_59 rfl ?_
      exact e_weak (ih6 _ _ _ h) ⟨Or.inr rfl, Or.inr rfl, Or.inr rfl, Or.inr rfl, Or.inl rfl, trivial⟩
    refine e_icmp_le (tgt := 56) qX11_most_48 rfl h (fun _ h => ?_) (fun _ h => ?_)
    · exact e_weak (hj13 _ _ h) ⟨Or.inr rfl, Or.inr rfl, Or.inr rfl, Or.inr rfl, Or.inl rfl, trivial⟩
    refine e_iload_n qX11_most_51 rfl ?_
    refine e_istore_n (lv2 := [some (.ref 0), some (.int v4), some (.int v3), some (.int v4), some (.int v10)]) qX11_most_52 rfl rfl rfl ?_
    refine e_iload qX11_most_53 rfl ?_
    refine e_istore_n (lv2 := [some (.ref 0), some (.int v4), some (.int v10), some (.int v4), some (.int v10)]) qX11_most_55 rfl rfl rfl ?_
    exact e_weak (hj13 _ _ h) ⟨Or.inr rfl, Or.inr rfl, Or.inr rfl, Or.inr rfl, Or.inl rfl, trivial⟩

set_option maxRecDepth 20000 in
set_option maxHeartbeats 4000000 in
theorem w_X11_most {N : Nat}  {s0 : St} {r : Int32} (h : f_X11_most N  s0 = some r) : Ct mX11_most 3 [.ref 0] s0 (some (.int r), s0) := by
  refine Ct.ofE (by decide +kernel) rfl ?_
  show E mX11_most 3 (some (.int r), s0) 0 [some (.ref 0), none, none, none, none] [] s0
  unfold f_X11_most at h
  refine e_aload_n qX11_most_0 rfl ?_
  refine e_getr 3 qX11_most_1 fl_X11_19 shq_0 kdq_10_1 rrq_0_1 ?_
  refine e_geti qX11_most_4 fl_X11_314 shq_3 kdq_1_2 h (fun v1 h => ?_)
  refine e_if_ne (tgt := 12) qX11_most_7 rfl h (fun _ h => ?_) (fun _ h => ?_)
  · refine e_iconst (-1) qX11_most_10 rfl ?_
    exact e_iret qX11_most_11 rfl (ret_p h)
  refine e_iconst (nI 0) qX11_most_12 rfl ?_
  refine e_istore_n (lv2 := [some (.ref 0), some (.int (nI 0)), none, none, none]) qX11_most_13 rfl rfl rfl ?_
  refine e_iconst (nI 0) qX11_most_14 rfl ?_
  refine e_istore_n (lv2 := [some (.ref 0), some (.int (nI 0)), some (.int (nI 0)), none, none]) qX11_most_15 rfl rfl rfl ?_
  refine e_iconst (nI 0) qX11_most_16 rfl ?_
  refine e_istore_n (lv2 := [some (.ref 0), some (.int (nI 0)), some (.int (nI 0)), some (.int (nI 0)), none]) qX11_most_17 rfl rfl rfl ?_
  exact e_weak (w_X11_most_L18  _ _ _ _ h) ⟨Or.inr rfl, Or.inr rfl, Or.inr rfl, Or.inr rfl, Or.inl rfl, trivial⟩

def f_X11_burn (N : Nat) (x1 : Int32) (s0 : St) : Option (Int32) :=
  bp (f_X11_isLight x1 s0) fun v1 =>
  if v1 = 0 then
    some (-1)
  else
  bp (f_X6_secondsToBurn N 49 x1 s0) fun v2 =>
  some v2

theorem qX11_burn_0 : Dc mX11_burn 0 (.aload_n 0) 1 1 := ⟨by decide +kernel, rfl⟩
theorem qX11_burn_1 : Dc mX11_burn 1 (.iload_n 1) 1 2 := ⟨by decide +kernel, rfl⟩
theorem qX11_burn_2 : Dc mX11_burn 2 (.invokevirtual 135) 3 5 := ⟨by decide +kernel, rfl⟩
theorem qX11_burn_5 : Dc mX11_burn 5 (.ifCond .eq 14) 3 8 := ⟨by decide +kernel, rfl⟩
theorem qX11_burn_8 : Dc mX11_burn 8 (.aload_n 0) 1 9 := ⟨by decide +kernel, rfl⟩
theorem qX11_burn_9 : Dc mX11_burn 9 (.getfield 31) 3 12 := ⟨by decide +kernel, rfl⟩
theorem qX11_burn_12 : Dc mX11_burn 12 (.iload_n 1) 1 13 := ⟨by decide +kernel, rfl⟩
theorem qX11_burn_13 : Dc mX11_burn 13 (.invokevirtual 317) 3 16 := ⟨by decide +kernel, rfl⟩
theorem qX11_burn_16 : Dc mX11_burn 16 (.goto 4) 3 19 := ⟨by decide +kernel, rfl⟩
theorem qX11_burn_19 : Dc mX11_burn 19 (.iconst (-1)) 1 20 := ⟨by decide +kernel, rfl⟩
theorem qX11_burn_20 : Dc mX11_burn 20 (.ireturn) 1 21 := ⟨by decide +kernel, rfl⟩

set_option maxRecDepth 20000 in
set_option maxHeartbeats 4000000 in
theorem w_X11_burn {N : Nat} {x1 : Int32} {s0 : St} {r : Int32} (h : f_X11_burn N x1 s0 = some r) : Ct mX11_burn 3 [.ref 0, .int x1] s0 (some (.int r), s0) := by
  refine Ct.ofE (by decide +kernel) rfl ?_
  show E mX11_burn 3 (some (.int r), s0) 0 [some (.ref 0), some (.int x1)] [] s0
  unfold f_X11_burn at h
  refine e_aload_n qX11_burn_0 rfl ?_
  refine e_iload_n qX11_burn_1 rfl ?_
  obtain ⟨v1, hc, h⟩ := bp_e h
  refine e_cVi1 qX11_burn_2 mv_X11_135 shq_0 rfl rfl (w_X11_isLight hc) ?_
  refine e_if_eq (tgt := 19) qX11_burn_5 rfl h (fun _ h => ?_) (fun _ h => ?_)
  · refine e_iconst (-1) qX11_burn_19 rfl ?_
    exact e_iret qX11_burn_20 rfl (ret_p h)
  refine e_aload_n qX11_burn_8 rfl ?_
  refine e_getr 49 qX11_burn_9 fl_X11_31 shq_0 kdq_10_3 rrq_0_3 ?_
  refine e_iload_n qX11_burn_12 rfl ?_
  obtain ⟨v2, hc, h⟩ := bp_e h
  refine e_cVi1 qX11_burn_13 mv_X11_317 shq_49 rfl rfl (w_X6_secondsToBurn shq_49 hc) ?_
  refine e_goto (tgt := 20) qX11_burn_16 rfl ?_
  exact e_iret qX11_burn_20 rfl (ret_p h)

def f_X11_image (N : Nat) (x1 : Int32) (s0 : St) : Option (Int32 × St) :=
  if x1 < 0 then
    some ((nI 0), s0)
  else
  if x1 < (nI 2) then
    ald (rr 132) 2 x1 fun v1 =>
    bp (f_X1_copyFrom N (rr v1 0) 3 s0) fun s3 =>
    ald (rr 132) 2 x1 fun v4 =>
    bp (f_X6_copyFrom (rr v4 1) 49 s3) fun s6 =>
    ald (rr 132) 2 x1 fun v7 =>
    bp (f_X7_copyFrom (rr v7 2) 61 s6) fun s9 =>
    ald (rr 132) 2 x1 fun v10 =>
    vl (sI s9 v10 3 (nI 1)) fun s12 =>
    some ((nI 1), s12)
  else
  some ((nI 0), s0)

theorem qX11_image_0 : Dc mX11_image 0 (.iload_n 1) 1 1 := ⟨by decide +kernel, rfl⟩
theorem qX11_image_1 : Dc mX11_image 1 (.ifCond .lt 8) 3 4 := ⟨by decide +kernel, rfl⟩
theorem qX11_image_4 : Dc mX11_image 4 (.iload_n 1) 1 5 := ⟨by decide +kernel, rfl⟩
theorem qX11_image_5 : Dc mX11_image 5 (.iconst 2) 1 6 := ⟨by decide +kernel, rfl⟩
theorem qX11_image_6 : Dc mX11_image 6 (.if_icmp .lt 5) 3 9 := ⟨by decide +kernel, rfl⟩
theorem qX11_image_9 : Dc mX11_image 9 (.iconst 0) 1 10 := ⟨by decide +kernel, rfl⟩
theorem qX11_image_10 : Dc mX11_image 10 (.ireturn) 1 11 := ⟨by decide +kernel, rfl⟩
theorem qX11_image_11 : Dc mX11_image 11 (.aload_n 0) 1 12 := ⟨by decide +kernel, rfl⟩
theorem qX11_image_12 : Dc mX11_image 12 (.getfield 71) 3 15 := ⟨by decide +kernel, rfl⟩
theorem qX11_image_15 : Dc mX11_image 15 (.iload_n 1) 1 16 := ⟨by decide +kernel, rfl⟩
theorem qX11_image_16 : Dc mX11_image 16 (.aaload) 1 17 := ⟨by decide +kernel, rfl⟩
theorem qX11_image_17 : Dc mX11_image 17 (.getfield 383) 3 20 := ⟨by decide +kernel, rfl⟩
theorem qX11_image_20 : Dc mX11_image 20 (.aload_n 0) 1 21 := ⟨by decide +kernel, rfl⟩
theorem qX11_image_21 : Dc mX11_image 21 (.getfield 19) 3 24 := ⟨by decide +kernel, rfl⟩
theorem qX11_image_24 : Dc mX11_image 24 (.invokevirtual 119) 3 27 := ⟨by decide +kernel, rfl⟩
theorem qX11_image_27 : Dc mX11_image 27 (.aload_n 0) 1 28 := ⟨by decide +kernel, rfl⟩
theorem qX11_image_28 : Dc mX11_image 28 (.getfield 71) 3 31 := ⟨by decide +kernel, rfl⟩
theorem qX11_image_31 : Dc mX11_image 31 (.iload_n 1) 1 32 := ⟨by decide +kernel, rfl⟩
theorem qX11_image_32 : Dc mX11_image 32 (.aaload) 1 33 := ⟨by decide +kernel, rfl⟩
theorem qX11_image_33 : Dc mX11_image 33 (.getfield 384) 3 36 := ⟨by decide +kernel, rfl⟩
theorem qX11_image_36 : Dc mX11_image 36 (.aload_n 0) 1 37 := ⟨by decide +kernel, rfl⟩
theorem qX11_image_37 : Dc mX11_image 37 (.getfield 31) 3 40 := ⟨by decide +kernel, rfl⟩
theorem qX11_image_40 : Dc mX11_image 40 (.invokevirtual 320) 3 43 := ⟨by decide +kernel, rfl⟩
theorem qX11_image_43 : Dc mX11_image 43 (.aload_n 0) 1 44 := ⟨by decide +kernel, rfl⟩
theorem qX11_image_44 : Dc mX11_image 44 (.getfield 71) 3 47 := ⟨by decide +kernel, rfl⟩
theorem qX11_image_47 : Dc mX11_image 47 (.iload_n 1) 1 48 := ⟨by decide +kernel, rfl⟩
theorem qX11_image_48 : Dc mX11_image 48 (.aaload) 1 49 := ⟨by decide +kernel, rfl⟩
theorem qX11_image_49 : Dc mX11_image 49 (.getfield 385) 3 52 := ⟨by decide +kernel, rfl⟩
theorem qX11_image_52 : Dc mX11_image 52 (.aload_n 0) 1 53 := ⟨by decide +kernel, rfl⟩
theorem qX11_image_53 : Dc mX11_image 53 (.getfield 41) 3 56 := ⟨by decide +kernel, rfl⟩
theorem qX11_image_56 : Dc mX11_image 56 (.invokevirtual 371) 3 59 := ⟨by decide +kernel, rfl⟩
theorem qX11_image_59 : Dc mX11_image 59 (.aload_n 0) 1 60 := ⟨by decide +kernel, rfl⟩
theorem qX11_image_60 : Dc mX11_image 60 (.getfield 71) 3 63 := ⟨by decide +kernel, rfl⟩
theorem qX11_image_63 : Dc mX11_image 63 (.iload_n 1) 1 64 := ⟨by decide +kernel, rfl⟩
theorem qX11_image_64 : Dc mX11_image 64 (.aaload) 1 65 := ⟨by decide +kernel, rfl⟩
theorem qX11_image_65 : Dc mX11_image 65 (.iconst 1) 1 66 := ⟨by decide +kernel, rfl⟩
theorem qX11_image_66 : Dc mX11_image 66 (.putfield 386) 3 69 := ⟨by decide +kernel, rfl⟩
theorem qX11_image_69 : Dc mX11_image 69 (.iconst 1) 1 70 := ⟨by decide +kernel, rfl⟩
theorem qX11_image_70 : Dc mX11_image 70 (.ireturn) 1 71 := ⟨by decide +kernel, rfl⟩

set_option maxRecDepth 20000 in
set_option maxHeartbeats 4000000 in
theorem w_X11_image {N : Nat} {x1 : Int32} {s0 : St} {r : Int32} {sr : St} (h : f_X11_image N x1 s0 = some (r, sr)) : Ct mX11_image 5 [.ref 0, .int x1] s0 (some (.int r), sr) := by
  refine Ct.ofE (by decide +kernel) rfl ?_
  show E mX11_image 5 (some (.int r), sr) 0 [some (.ref 0), some (.int x1)] [] s0
  unfold f_X11_image at h
  refine e_iload_n qX11_image_0 rfl ?_
  refine e_if_lt (tgt := 9) qX11_image_1 rfl h (fun _ h => ?_) (fun _ h => ?_)
  · refine e_iconst (nI 0) qX11_image_9 rfl ?_
    exact e_zret qX11_image_10 rfl (by decide) (ret_i h)
  refine e_iload_n qX11_image_4 rfl ?_
  refine e_iconst (nI 2) qX11_image_5 rfl ?_
  refine e_icmp_lt (tgt := 11) qX11_image_6 rfl h (fun _ h => ?_) (fun _ h => ?_)
  · refine e_aload_n qX11_image_11 rfl ?_
    refine e_getr 132 qX11_image_12 fl_X11_71 shq_0 kdq_10_10 rrq_0_10 ?_
    refine e_iload_n qX11_image_15 rfl ?_
    refine e_rald27 qX11_image_16 shq_132 lnq_132 h (fun i2 hi2 h => ?_)
    refine e_getr (rr (rr 132 i2) 0) qX11_image_17 fl_X11_383 (we_27 _ shq_132 _ hi2) kdq_3_0 rfl ?_
    refine e_aload_n qX11_image_20 rfl ?_
    refine e_getr 3 qX11_image_21 fl_X11_19 shq_0 kdq_10_1 rrq_0_1 ?_
    obtain ⟨s3, hc, h⟩ := bp_e h
    refine e_cVv1 qX11_image_24 mv_X11_119 (wto_3_0 _ (we_27 _ shq_132 _ hi2)) rfl rfl (w_X1_copyFrom (wto_3_0 _ (we_27 _ shq_132 _ hi2)) shq_3 hc) ?_
    refine e_aload_n qX11_image_27 rfl ?_
    refine e_getr 132 qX11_image_28 fl_X11_71 shq_0 kdq_10_10 rrq_0_10 ?_
    refine e_iload_n qX11_image_31 rfl ?_
    refine e_rald27 qX11_image_32 shq_132 lnq_132 h (fun i5 hi5 h => ?_)
    refine e_getr (rr (rr 132 i5) 1) qX11_image_33 fl_X11_384 (we_27 _ shq_132 _ hi5) kdq_3_1 rfl ?_
    refine e_aload_n qX11_image_36 rfl ?_
    refine e_getr 49 qX11_image_37 fl_X11_31 shq_0 kdq_10_3 rrq_0_3 ?_
    obtain ⟨s6, hc, h⟩ := bp_e h
    refine e_cVv1 qX11_image_40 mv_X11_320 (wto_3_1 _ (we_27 _ shq_132 _ hi5)) rfl rfl (w_X6_copyFrom (wto_3_1 _ (we_27 _ shq_132 _ hi5)) shq_49 hc) ?_
    refine e_aload_n qX11_image_43 rfl ?_
    refine e_getr 132 qX11_image_44 fl_X11_71 shq_0 kdq_10_10 rrq_0_10 ?_
    refine e_iload_n qX11_image_47 rfl ?_
    refine e_rald27 qX11_image_48 shq_132 lnq_132 h (fun i8 hi8 h => ?_)
    refine e_getr (rr (rr 132 i8) 2) qX11_image_49 fl_X11_385 (we_27 _ shq_132 _ hi8) kdq_3_2 rfl ?_
    refine e_aload_n qX11_image_52 rfl ?_
    refine e_getr 61 qX11_image_53 fl_X11_41 shq_0 kdq_10_5 rrq_0_5 ?_
    obtain ⟨s9, hc, h⟩ := bp_e h
    refine e_cVv1 qX11_image_56 mv_X11_371 (wto_3_2 _ (we_27 _ shq_132 _ hi8)) rfl rfl (w_X7_copyFrom (wto_3_2 _ (we_27 _ shq_132 _ hi8)) shq_61 hc) ?_
    refine e_aload_n qX11_image_59 rfl ?_
    refine e_getr 132 qX11_image_60 fl_X11_71 shq_0 kdq_10_10 rrq_0_10 ?_
    refine e_iload_n qX11_image_63 rfl ?_
    refine e_rald27 qX11_image_64 shq_132 lnq_132 h (fun i11 hi11 h => ?_)
    refine e_iconst (nI 1) qX11_image_65 rfl ?_
    refine e_putz qX11_image_66 fp_X11_386 (we_27 _ shq_132 _ hi11) kdq_3_3 (by decide) h (fun s12 h => ?_)
    refine e_iconst (nI 1) qX11_image_69 rfl ?_
    exact e_zret qX11_image_70 rfl (by decide) (ret_i h)
  refine e_iconst (nI 0) qX11_image_9 rfl ?_
  exact e_zret qX11_image_10 rfl (by decide) (ret_i h)
