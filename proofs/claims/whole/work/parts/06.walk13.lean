def f_X1_lightAt (N : Nat) (a0 : Nat) (s0 : St) : Option (Int32 × St) :=
  bp (f_X9_isName N s0) fun v1 =>
  if v1 = 0 then
    bd (f_X9_refuse (nI 1) s0) fun v2 s3 =>
    some ((-1), s3)
  else
  vl (s0.2 1 3) fun v4 =>
  bp (f_X1_lightNamed N a0 v4 s0) fun v5 =>
  if v5 = (-1) then
    bd (f_X9_refuse (nI 3) s0) fun v6 s7 =>
    some (v5, s7)
  else
  some (v5, s0)

theorem qX1_lightAt_0 : Dc mX1_lightAt 0 (.aload_n 1) 1 1 := ⟨by decide +kernel, rfl⟩
theorem qX1_lightAt_1 : Dc mX1_lightAt 1 (.invokevirtual 231) 3 4 := ⟨by decide +kernel, rfl⟩
theorem qX1_lightAt_4 : Dc mX1_lightAt 4 (.ifCond .ne 11) 3 7 := ⟨by decide +kernel, rfl⟩
theorem qX1_lightAt_7 : Dc mX1_lightAt 7 (.aload_n 1) 1 8 := ⟨by decide +kernel, rfl⟩
theorem qX1_lightAt_8 : Dc mX1_lightAt 8 (.iconst 1) 1 9 := ⟨by decide +kernel, rfl⟩
theorem qX1_lightAt_9 : Dc mX1_lightAt 9 (.invokevirtual 147) 3 12 := ⟨by decide +kernel, rfl⟩
theorem qX1_lightAt_12 : Dc mX1_lightAt 12 (.pop) 1 13 := ⟨by decide +kernel, rfl⟩
theorem qX1_lightAt_13 : Dc mX1_lightAt 13 (.iconst (-1)) 1 14 := ⟨by decide +kernel, rfl⟩
theorem qX1_lightAt_14 : Dc mX1_lightAt 14 (.ireturn) 1 15 := ⟨by decide +kernel, rfl⟩
theorem qX1_lightAt_15 : Dc mX1_lightAt 15 (.aload_n 0) 1 16 := ⟨by decide +kernel, rfl⟩
theorem qX1_lightAt_16 : Dc mX1_lightAt 16 (.aload_n 1) 1 17 := ⟨by decide +kernel, rfl⟩
theorem qX1_lightAt_17 : Dc mX1_lightAt 17 (.getfield 156) 3 20 := ⟨by decide +kernel, rfl⟩
theorem qX1_lightAt_20 : Dc mX1_lightAt 20 (.invokevirtual 234) 3 23 := ⟨by decide +kernel, rfl⟩
theorem qX1_lightAt_23 : Dc mX1_lightAt 23 (.istore_n 2) 1 24 := ⟨by decide +kernel, rfl⟩
theorem qX1_lightAt_24 : Dc mX1_lightAt 24 (.iload_n 2) 1 25 := ⟨by decide +kernel, rfl⟩
theorem qX1_lightAt_25 : Dc mX1_lightAt 25 (.iconst (-1)) 1 26 := ⟨by decide +kernel, rfl⟩
theorem qX1_lightAt_26 : Dc mX1_lightAt 26 (.if_icmp .ne 9) 3 29 := ⟨by decide +kernel, rfl⟩
theorem qX1_lightAt_29 : Dc mX1_lightAt 29 (.aload_n 1) 1 30 := ⟨by decide +kernel, rfl⟩
theorem qX1_lightAt_30 : Dc mX1_lightAt 30 (.iconst 3) 1 31 := ⟨by decide +kernel, rfl⟩
theorem qX1_lightAt_31 : Dc mX1_lightAt 31 (.invokevirtual 147) 3 34 := ⟨by decide +kernel, rfl⟩
theorem qX1_lightAt_34 : Dc mX1_lightAt 34 (.pop) 1 35 := ⟨by decide +kernel, rfl⟩
theorem qX1_lightAt_35 : Dc mX1_lightAt 35 (.iload_n 2) 1 36 := ⟨by decide +kernel, rfl⟩
theorem qX1_lightAt_36 : Dc mX1_lightAt 36 (.ireturn) 1 37 := ⟨by decide +kernel, rfl⟩

set_option maxRecDepth 20000 in
set_option maxHeartbeats 4000000 in
theorem w_X1_lightAt {N : Nat} {a0 : Nat} {s0 : St} {r : Int32} {sr : St} (h_a0 : sh a0 = 1) (h : f_X1_lightAt N a0 s0 = some (r, sr)) : Ct mX1_lightAt 2 [.ref a0, .ref 1] s0 (some (.int r), sr) := by
  refine Ct.ofE (by decide +kernel) rfl ?_
  show E mX1_lightAt 2 (some (.int r), sr) 0 [some (.ref a0), some (.ref 1), none] [] s0
  unfold f_X1_lightAt at h
  refine e_aload_n qX1_lightAt_0 rfl ?_
  obtain ⟨v1, hc, h⟩ := bp_e h
  refine e_cVi0 qX1_lightAt_1 mv_X1_231 shq_1 rfl rfl (w_X9_isName hc) ?_
  refine e_if_ne (tgt := 15) qX1_lightAt_4 rfl h (fun _ h => ?_) (fun _ h => ?_)
  · refine e_aload_n qX1_lightAt_7 rfl ?_
    refine e_iconst (nI 1) qX1_lightAt_8 rfl ?_
    obtain ⟨v2, s3, hc, h⟩ := bd_e h
    refine e_cVi1 qX1_lightAt_9 mv_X1_147 shq_1 rfl rfl (w_X9_refuse hc) ?_
    refine e_pop qX1_lightAt_12 rfl ?_
    refine e_iconst (-1) qX1_lightAt_13 rfl ?_
    exact e_iret qX1_lightAt_14 rfl (ret_i h)
  refine e_aload_n qX1_lightAt_15 rfl ?_
  refine e_aload_n qX1_lightAt_16 rfl ?_
  refine e_getl qX1_lightAt_17 fl_X1_156 shq_1 kdq_9_3 h (fun v4 h => ?_)
  obtain ⟨v5, hc, h⟩ := bp_e h
  refine e_cVi1 qX1_lightAt_20 mv_X1_234 h_a0 rfl rfl (w_X1_lightNamed h_a0 hc) ?_
  refine e_istore_n (lv2 := [some (.ref a0), some (.ref 1), some (.int v5)]) qX1_lightAt_23 rfl rfl rfl ?_
  refine e_iload_n qX1_lightAt_24 rfl ?_
  refine e_iconst (-1) qX1_lightAt_25 rfl ?_
  refine e_icmp_ne (tgt := 35) qX1_lightAt_26 rfl h (fun _ h => ?_) (fun _ h => ?_)
  · refine e_aload_n qX1_lightAt_29 rfl ?_
    refine e_iconst (nI 3) qX1_lightAt_30 rfl ?_
    obtain ⟨v6, s7, hc, h⟩ := bd_e h
    refine e_cVi1 qX1_lightAt_31 mv_X1_147 shq_1 rfl rfl (w_X9_refuse hc) ?_
    refine e_pop qX1_lightAt_34 rfl ?_
    refine e_iload_n qX1_lightAt_35 rfl ?_
    exact e_iret qX1_lightAt_36 rfl (ret_i h)
  refine e_iload_n qX1_lightAt_35 rfl ?_
  exact e_iret qX1_lightAt_36 rfl (ret_i h)

def f_X1_shipAt (N : Nat) (a0 : Nat) (s0 : St) : Option (Int32 × St) :=
  bp (f_X9_isName N s0) fun v1 =>
  if v1 = 0 then
    bd (f_X9_refuse (nI 1) s0) fun v2 s3 =>
    some ((-1), s3)
  else
  vl (s0.2 1 3) fun v4 =>
  bp (f_X1_shipNamed N a0 v4 s0) fun v5 =>
  if v5 = (-1) then
    bd (f_X9_refuse (nI 3) s0) fun v6 s7 =>
    some (v5, s7)
  else
  some (v5, s0)

theorem qX1_shipAt_0 : Dc mX1_shipAt 0 (.aload_n 1) 1 1 := ⟨by decide +kernel, rfl⟩
theorem qX1_shipAt_1 : Dc mX1_shipAt 1 (.invokevirtual 231) 3 4 := ⟨by decide +kernel, rfl⟩
theorem qX1_shipAt_4 : Dc mX1_shipAt 4 (.ifCond .ne 11) 3 7 := ⟨by decide +kernel, rfl⟩
theorem qX1_shipAt_7 : Dc mX1_shipAt 7 (.aload_n 1) 1 8 := ⟨by decide +kernel, rfl⟩
theorem qX1_shipAt_8 : Dc mX1_shipAt 8 (.iconst 1) 1 9 := ⟨by decide +kernel, rfl⟩
theorem qX1_shipAt_9 : Dc mX1_shipAt 9 (.invokevirtual 147) 3 12 := ⟨by decide +kernel, rfl⟩
theorem qX1_shipAt_12 : Dc mX1_shipAt 12 (.pop) 1 13 := ⟨by decide +kernel, rfl⟩
theorem qX1_shipAt_13 : Dc mX1_shipAt 13 (.iconst (-1)) 1 14 := ⟨by decide +kernel, rfl⟩
theorem qX1_shipAt_14 : Dc mX1_shipAt 14 (.ireturn) 1 15 := ⟨by decide +kernel, rfl⟩
theorem qX1_shipAt_15 : Dc mX1_shipAt 15 (.aload_n 0) 1 16 := ⟨by decide +kernel, rfl⟩
theorem qX1_shipAt_16 : Dc mX1_shipAt 16 (.aload_n 1) 1 17 := ⟨by decide +kernel, rfl⟩
theorem qX1_shipAt_17 : Dc mX1_shipAt 17 (.getfield 156) 3 20 := ⟨by decide +kernel, rfl⟩
theorem qX1_shipAt_20 : Dc mX1_shipAt 20 (.invokevirtual 238) 3 23 := ⟨by decide +kernel, rfl⟩
theorem qX1_shipAt_23 : Dc mX1_shipAt 23 (.istore_n 2) 1 24 := ⟨by decide +kernel, rfl⟩
theorem qX1_shipAt_24 : Dc mX1_shipAt 24 (.iload_n 2) 1 25 := ⟨by decide +kernel, rfl⟩
theorem qX1_shipAt_25 : Dc mX1_shipAt 25 (.iconst (-1)) 1 26 := ⟨by decide +kernel, rfl⟩
theorem qX1_shipAt_26 : Dc mX1_shipAt 26 (.if_icmp .ne 9) 3 29 := ⟨by decide +kernel, rfl⟩
theorem qX1_shipAt_29 : Dc mX1_shipAt 29 (.aload_n 1) 1 30 := ⟨by decide +kernel, rfl⟩
theorem qX1_shipAt_30 : Dc mX1_shipAt 30 (.iconst 3) 1 31 := ⟨by decide +kernel, rfl⟩
theorem qX1_shipAt_31 : Dc mX1_shipAt 31 (.invokevirtual 147) 3 34 := ⟨by decide +kernel, rfl⟩
theorem qX1_shipAt_34 : Dc mX1_shipAt 34 (.pop) 1 35 := ⟨by decide +kernel, rfl⟩
theorem qX1_shipAt_35 : Dc mX1_shipAt 35 (.iload_n 2) 1 36 := ⟨by decide +kernel, rfl⟩
theorem qX1_shipAt_36 : Dc mX1_shipAt 36 (.ireturn) 1 37 := ⟨by decide +kernel, rfl⟩

set_option maxRecDepth 20000 in
set_option maxHeartbeats 4000000 in
theorem w_X1_shipAt {N : Nat} {a0 : Nat} {s0 : St} {r : Int32} {sr : St} (h_a0 : sh a0 = 1) (h : f_X1_shipAt N a0 s0 = some (r, sr)) : Ct mX1_shipAt 2 [.ref a0, .ref 1] s0 (some (.int r), sr) := by
  refine Ct.ofE (by decide +kernel) rfl ?_
  show E mX1_shipAt 2 (some (.int r), sr) 0 [some (.ref a0), some (.ref 1), none] [] s0
  unfold f_X1_shipAt at h
  refine e_aload_n qX1_shipAt_0 rfl ?_
  obtain ⟨v1, hc, h⟩ := bp_e h
  refine e_cVi0 qX1_shipAt_1 mv_X1_231 shq_1 rfl rfl (w_X9_isName hc) ?_
  refine e_if_ne (tgt := 15) qX1_shipAt_4 rfl h (fun _ h => ?_) (fun _ h => ?_)
  · refine e_aload_n qX1_shipAt_7 rfl ?_
    refine e_iconst (nI 1) qX1_shipAt_8 rfl ?_
    obtain ⟨v2, s3, hc, h⟩ := bd_e h
    refine e_cVi1 qX1_shipAt_9 mv_X1_147 shq_1 rfl rfl (w_X9_refuse hc) ?_
    refine e_pop qX1_shipAt_12 rfl ?_
    refine e_iconst (-1) qX1_shipAt_13 rfl ?_
    exact e_iret qX1_shipAt_14 rfl (ret_i h)
  refine e_aload_n qX1_shipAt_15 rfl ?_
  refine e_aload_n qX1_shipAt_16 rfl ?_
  refine e_getl qX1_shipAt_17 fl_X1_156 shq_1 kdq_9_3 h (fun v4 h => ?_)
  obtain ⟨v5, hc, h⟩ := bp_e h
  refine e_cVi1 qX1_shipAt_20 mv_X1_238 h_a0 rfl rfl (w_X1_shipNamed h_a0 hc) ?_
  refine e_istore_n (lv2 := [some (.ref a0), some (.ref 1), some (.int v5)]) qX1_shipAt_23 rfl rfl rfl ?_
  refine e_iload_n qX1_shipAt_24 rfl ?_
  refine e_iconst (-1) qX1_shipAt_25 rfl ?_
  refine e_icmp_ne (tgt := 35) qX1_shipAt_26 rfl h (fun _ h => ?_) (fun _ h => ?_)
  · refine e_aload_n qX1_shipAt_29 rfl ?_
    refine e_iconst (nI 3) qX1_shipAt_30 rfl ?_
    obtain ⟨v6, s7, hc, h⟩ := bd_e h
    refine e_cVi1 qX1_shipAt_31 mv_X1_147 shq_1 rfl rfl (w_X9_refuse hc) ?_
    refine e_pop qX1_shipAt_34 rfl ?_
    refine e_iload_n qX1_shipAt_35 rfl ?_
    exact e_iret qX1_shipAt_36 rfl (ret_i h)
  refine e_iload_n qX1_shipAt_35 rfl ?_
  exact e_iret qX1_shipAt_36 rfl (ret_i h)

def f_X2_act (a1 : Nat) (s0 : St) : Option (St) :=
  vl (s0.1 3 2) fun v1 =>
  vl (s0.1 3 3) fun v2 =>
  bd (f_X2_draw (nI 6) s0) fun v3 s4 =>
  jn (jn (jn (if v3 = (nI 3) then
          bd (f_X2_draw (nI 30) s4) fun v8 s9 =>
          bd (f_X6_setHaze a1 (v8 + (nI 1)) s9) fun v10 s11 =>
          some s11
        else
        some s4) fun j7 =>
      if v3 = (nI 2) then
        if v1 ≤ 0 then
          j7
        else
        bd (f_X2_draw v1 s4) fun v12 s13 =>
        bd (f_X2_draw (nI 20) s13) fun v14 s15 =>
        bd (f_X6_pourInto a1 v12 (v14 + (nI 1)) s15) fun v16 s17 =>
        some s17
      else
      j7) fun j6 =>
    if v3 = (nI 1) then
      if v2 ≤ 0 then
        j6
      else
      bd (f_X2_draw v2 s4) fun v18 s19 =>
      bd (f_X2_draw (nI 9) s19) fun v20 s21 =>
      bd (f_X6_turn a1 v18 v20 s21) fun v22 s23 =>
      some s23
    else
    j6) fun j5 =>
  if v3 = 0 then
    if v1 ≤ 0 then
      j5
    else
    bd (f_X2_draw v1 s4) fun v24 s25 =>
    bp (f_X2_douseOrKindle a1 v24 s25) fun s26 =>
    some s26
  else
  j5

theorem qX2_act_0 : Dc mX2_act 0 (.aload_n 1) 1 1 := ⟨by decide +kernel, rfl⟩
theorem qX2_act_1 : Dc mX2_act 1 (.getfield 32) 3 4 := ⟨by decide +kernel, rfl⟩
theorem qX2_act_4 : Dc mX2_act 4 (.getfield 36) 3 7 := ⟨by decide +kernel, rfl⟩
theorem qX2_act_7 : Dc mX2_act 7 (.istore_n 2) 1 8 := ⟨by decide +kernel, rfl⟩
theorem qX2_act_8 : Dc mX2_act 8 (.aload_n 1) 1 9 := ⟨by decide +kernel, rfl⟩
theorem qX2_act_9 : Dc mX2_act 9 (.getfield 32) 3 12 := ⟨by decide +kernel, rfl⟩
theorem qX2_act_12 : Dc mX2_act 12 (.getfield 41) 3 15 := ⟨by decide +kernel, rfl⟩
theorem qX2_act_15 : Dc mX2_act 15 (.istore_n 3) 1 16 := ⟨by decide +kernel, rfl⟩
theorem qX2_act_16 : Dc mX2_act 16 (.aload_n 0) 1 17 := ⟨by decide +kernel, rfl⟩
theorem qX2_act_17 : Dc mX2_act 17 (.bipush 6) 2 19 := ⟨by decide +kernel, rfl⟩
theorem qX2_act_19 : Dc mX2_act 19 (.invokevirtual 44) 3 22 := ⟨by decide +kernel, rfl⟩
theorem qX2_act_22 : Dc mX2_act 22 (.istore 4) 2 24 := ⟨by decide +kernel, rfl⟩
theorem qX2_act_24 : Dc mX2_act 24 (.iload 4) 2 26 := ⟨by decide +kernel, rfl⟩
theorem qX2_act_26 : Dc mX2_act 26 (.ifCond .ne 19) 3 29 := ⟨by decide +kernel, rfl⟩
theorem qX2_act_29 : Dc mX2_act 29 (.iload_n 2) 1 30 := ⟨by decide +kernel, rfl⟩
theorem qX2_act_30 : Dc mX2_act 30 (.ifCond .le 15) 3 33 := ⟨by decide +kernel, rfl⟩
theorem qX2_act_33 : Dc mX2_act 33 (.aload_n 1) 1 34 := ⟨by decide +kernel, rfl⟩
theorem qX2_act_34 : Dc mX2_act 34 (.aload_n 0) 1 35 := ⟨by decide +kernel, rfl⟩
theorem qX2_act_35 : Dc mX2_act 35 (.iload_n 2) 1 36 := ⟨by decide +kernel, rfl⟩
theorem qX2_act_36 : Dc mX2_act 36 (.invokevirtual 44) 3 39 := ⟨by decide +kernel, rfl⟩
theorem qX2_act_39 : Dc mX2_act 39 (.invokestatic 48) 3 42 := ⟨by decide +kernel, rfl⟩
theorem qX2_act_42 : Dc mX2_act 42 (.goto 90) 3 45 := ⟨by decide +kernel, rfl⟩
theorem qX2_act_45 : Dc mX2_act 45 (.iload 4) 2 47 := ⟨by decide +kernel, rfl⟩
theorem qX2_act_47 : Dc mX2_act 47 (.iconst 1) 1 48 := ⟨by decide +kernel, rfl⟩
theorem qX2_act_48 : Dc mX2_act 48 (.if_icmp .ne 30) 3 51 := ⟨by decide +kernel, rfl⟩
theorem qX2_act_51 : Dc mX2_act 51 (.iload_n 3) 1 52 := ⟨by decide +kernel, rfl⟩
theorem qX2_act_52 : Dc mX2_act 52 (.ifCond .le 26) 3 55 := ⟨by decide +kernel, rfl⟩
theorem qX2_act_55 : Dc mX2_act 55 (.aload_n 0) 1 56 := ⟨by decide +kernel, rfl⟩
theorem qX2_act_56 : Dc mX2_act 56 (.iload_n 3) 1 57 := ⟨by decide +kernel, rfl⟩
theorem qX2_act_57 : Dc mX2_act 57 (.invokevirtual 44) 3 60 := ⟨by decide +kernel, rfl⟩
theorem qX2_act_60 : Dc mX2_act 60 (.istore 5) 2 62 := ⟨by decide +kernel, rfl⟩
theorem qX2_act_62 : Dc mX2_act 62 (.aload_n 1) 1 63 := ⟨by decide +kernel, rfl⟩
theorem qX2_act_63 : Dc mX2_act 63 (.iload 5) 2 65 := ⟨by decide +kernel, rfl⟩
theorem qX2_act_65 : Dc mX2_act 65 (.aload_n 0) 1 66 := ⟨by decide +kernel, rfl⟩
theorem qX2_act_66 : Dc mX2_act 66 (.bipush 9) 2 68 := ⟨by decide +kernel, rfl⟩
theorem qX2_act_68 : Dc mX2_act 68 (.invokevirtual 44) 3 71 := ⟨by decide +kernel, rfl⟩
theorem qX2_act_71 : Dc mX2_act 71 (.invokevirtual 52) 3 74 := ⟨by decide +kernel, rfl⟩
theorem qX2_act_74 : Dc mX2_act 74 (.pop) 1 75 := ⟨by decide +kernel, rfl⟩
theorem qX2_act_75 : Dc mX2_act 75 (.goto 57) 3 78 := ⟨by decide +kernel, rfl⟩
theorem qX2_act_78 : Dc mX2_act 78 (.iload 4) 2 80 := ⟨by decide +kernel, rfl⟩
theorem qX2_act_80 : Dc mX2_act 80 (.iconst 2) 1 81 := ⟨by decide +kernel, rfl⟩
theorem qX2_act_81 : Dc mX2_act 81 (.if_icmp .ne 32) 3 84 := ⟨by decide +kernel, rfl⟩
theorem qX2_act_84 : Dc mX2_act 84 (.iload_n 2) 1 85 := ⟨by decide +kernel, rfl⟩
theorem qX2_act_85 : Dc mX2_act 85 (.ifCond .le 28) 3 88 := ⟨by decide +kernel, rfl⟩
theorem qX2_act_88 : Dc mX2_act 88 (.aload_n 0) 1 89 := ⟨by decide +kernel, rfl⟩
theorem qX2_act_89 : Dc mX2_act 89 (.iload_n 2) 1 90 := ⟨by decide +kernel, rfl⟩
theorem qX2_act_90 : Dc mX2_act 90 (.invokevirtual 44) 3 93 := ⟨by decide +kernel, rfl⟩
theorem qX2_act_93 : Dc mX2_act 93 (.istore 5) 2 95 := ⟨by decide +kernel, rfl⟩
theorem qX2_act_95 : Dc mX2_act 95 (.aload_n 1) 1 96 := ⟨by decide +kernel, rfl⟩
theorem qX2_act_96 : Dc mX2_act 96 (.iload 5) 2 98 := ⟨by decide +kernel, rfl⟩
theorem qX2_act_98 : Dc mX2_act 98 (.aload_n 0) 1 99 := ⟨by decide +kernel, rfl⟩
theorem qX2_act_99 : Dc mX2_act 99 (.bipush 20) 2 101 := ⟨by decide +kernel, rfl⟩
theorem qX2_act_101 : Dc mX2_act 101 (.invokevirtual 44) 3 104 := ⟨by decide +kernel, rfl⟩
theorem qX2_act_104 : Dc mX2_act 104 (.iconst 1) 1 105 := ⟨by decide +kernel, rfl⟩
theorem qX2_act_105 : Dc mX2_act 105 (.iadd) 1 106 := ⟨by decide +kernel, rfl⟩
theorem qX2_act_106 : Dc mX2_act 106 (.invokevirtual 55) 3 109 := ⟨by decide +kernel, rfl⟩
theorem qX2_act_109 : Dc mX2_act 109 (.pop) 1 110 := ⟨by decide +kernel, rfl⟩
theorem qX2_act_110 : Dc mX2_act 110 (.goto 22) 3 113 := ⟨by decide +kernel, rfl⟩
theorem qX2_act_113 : Dc mX2_act 113 (.iload 4) 2 115 := ⟨by decide +kernel, rfl⟩
theorem qX2_act_115 : Dc mX2_act 115 (.iconst 3) 1 116 := ⟨by decide +kernel, rfl⟩
theorem qX2_act_116 : Dc mX2_act 116 (.if_icmp .ne 16) 3 119 := ⟨by decide +kernel, rfl⟩
theorem qX2_act_119 : Dc mX2_act 119 (.aload_n 1) 1 120 := ⟨by decide +kernel, rfl⟩
theorem qX2_act_120 : Dc mX2_act 120 (.aload_n 0) 1 121 := ⟨by decide +kernel, rfl⟩
theorem qX2_act_121 : Dc mX2_act 121 (.bipush 30) 2 123 := ⟨by decide +kernel, rfl⟩
theorem qX2_act_123 : Dc mX2_act 123 (.invokevirtual 44) 3 126 := ⟨by decide +kernel, rfl⟩
theorem qX2_act_126 : Dc mX2_act 126 (.iconst 1) 1 127 := ⟨by decide +kernel, rfl⟩
theorem qX2_act_127 : Dc mX2_act 127 (.iadd) 1 128 := ⟨by decide +kernel, rfl⟩
theorem qX2_act_128 : Dc mX2_act 128 (.invokevirtual 58) 3 131 := ⟨by decide +kernel, rfl⟩
theorem qX2_act_131 : Dc mX2_act 131 (.pop) 1 132 := ⟨by decide +kernel, rfl⟩
theorem qX2_act_132 : Dc mX2_act 132 (.return_) 1 133 := ⟨by decide +kernel, rfl⟩

set_option maxRecDepth 20000 in
set_option maxHeartbeats 4000000 in
theorem w_X2_act {a1 : Nat} {s0 : St} {sr : St} (h_a1 : sh a1 = 6) (h : f_X2_act a1 s0 = some sr) : Ct mX2_act 3 [.ref 131, .ref a1] s0 (none, sr) := by
  refine Ct.ofE (by decide +kernel) rfl ?_
  show E mX2_act 3 (none, sr) 0 [some (.ref 131), some (.ref a1), none, none, none, none] [] s0
  unfold f_X2_act at h
  refine e_aload_n qX2_act_0 rfl ?_
  refine e_getr 3 qX2_act_1 fl_X2_32 h_a1 kdq_6_0 (wq_6_0 _ h_a1) ?_
  refine e_geti qX2_act_4 fl_X2_36 shq_3 kdq_1_2 h (fun v1 h => ?_)
  refine e_istore_n (lv2 := [some (.ref 131), some (.ref a1), some (.int v1), none, none, none]) qX2_act_7 rfl rfl rfl ?_
  refine e_aload_n qX2_act_8 rfl ?_
  refine e_getr 3 qX2_act_9 fl_X2_32 h_a1 kdq_6_0 (wq_6_0 _ h_a1) ?_
  refine e_geti qX2_act_12 fl_X2_41 shq_3 kdq_1_3 h (fun v2 h => ?_)
  refine e_istore_n (lv2 := [some (.ref 131), some (.ref a1), some (.int v1), some (.int v2), none, none]) qX2_act_15 rfl rfl rfl ?_
  refine e_aload_n qX2_act_16 rfl ?_
  refine e_bipush (nI 6) qX2_act_17 rfl ?_
  obtain ⟨v3, s4, hc, h⟩ := bd_e h
  refine e_cVi1 qX2_act_19 mv_X2_44 shq_131 rfl rfl (w_X2_draw hc) ?_
  refine e_istore (lv2 := [some (.ref 131), some (.ref a1), some (.int v1), some (.int v2), some (.int v3), none]) qX2_act_22 rfl rfl rfl ?_
  refine e_iload qX2_act_24 rfl ?_
  refine jn_e (fun j => j = some sr → E mX2_act 3 (none, sr) 45 [some (.ref 131), some (.ref a1), some (.int v1), some (.int v2), some (.int v3), none] [] s4) h ?_ (fun j5 hj5 h => ?_)
  · intro h
    refine e_iload qX2_act_45 rfl ?_
    refine e_iconst (nI 1) qX2_act_47 rfl ?_
    refine jn_e (fun j => j = some sr → E mX2_act 3 (none, sr) 78 [some (.ref 131), some (.ref a1), some (.int v1), none, some (.int v3), none] [] s4) h ?_ (fun j6 hj6 h => ?_)
    · intro h
      refine e_iload qX2_act_78 rfl ?_
      refine e_iconst (nI 2) qX2_act_80 rfl ?_
      refine jn_e (fun j => j = some sr → E mX2_act 3 (none, sr) 113 [some (.ref 131), some (.ref a1), none, none, some (.int v3), none] [] s4) h ?_ (fun j7 hj7 h => ?_)
      · intro h
        refine e_iload qX2_act_113 rfl ?_
        refine e_iconst (nI 3) qX2_act_115 rfl ?_
        refine e_icmp_ne (tgt := 132) qX2_act_116 rfl h (fun _ h => ?_) (fun _ h => ?_)
        · refine e_aload_n qX2_act_119 rfl ?_
          refine e_aload_n qX2_act_120 rfl ?_
          refine e_bipush (nI 30) qX2_act_121 rfl ?_
          obtain ⟨v8, s9, hc, h⟩ := bd_e h
          refine e_cVi1 qX2_act_123 mv_X2_44 shq_131 rfl rfl (w_X2_draw hc) ?_
          refine e_iconst (nI 1) qX2_act_126 rfl ?_
          refine e_iadd qX2_act_127 ?_
          obtain ⟨v10, s11, hc, h⟩ := bd_e h
          refine e_cVi1 qX2_act_128 mv_X2_58 h_a1 rfl rfl (w_X6_setHaze h_a1 hc) ?_
          refine e_pop qX2_act_131 rfl ?_
          exact e_vret qX2_act_132 rfl (ret_v h)
        exact e_vret qX2_act_132 rfl (ret_v h)
      refine e_icmp_ne (tgt := 113) qX2_act_81 rfl h (fun _ h => ?_) (fun _ h => ?_)
      · refine e_iload_n qX2_act_84 rfl ?_
        refine e_if_le (tgt := 113) qX2_act_85 rfl h (fun _ h => ?_) (fun _ h => ?_)
        · exact e_weak (hj7 h) ⟨Or.inr rfl, Or.inr rfl, Or.inl rfl, Or.inl rfl, Or.inr rfl, Or.inl rfl, trivial⟩
        refine e_aload_n qX2_act_88 rfl ?_
        refine e_iload_n qX2_act_89 rfl ?_
        obtain ⟨v12, s13, hc, h⟩ := bd_e h
        refine e_cVi1 qX2_act_90 mv_X2_44 shq_131 rfl rfl (w_X2_draw hc) ?_
        refine e_istore (lv2 := [some (.ref 131), some (.ref a1), some (.int v1), none, some (.int v3), some (.int v12)]) qX2_act_93 rfl rfl rfl ?_
        refine e_aload_n qX2_act_95 rfl ?_
        refine e_iload qX2_act_96 rfl ?_
        refine e_aload_n qX2_act_98 rfl ?_
        refine e_bipush (nI 20) qX2_act_99 rfl ?_
        obtain ⟨v14, s15, hc, h⟩ := bd_e h
        refine e_cVi1 qX2_act_101 mv_X2_44 shq_131 rfl rfl (w_X2_draw hc) ?_
        refine e_iconst (nI 1) qX2_act_104 rfl ?_
        refine e_iadd qX2_act_105 ?_
        obtain ⟨v16, s17, hc, h⟩ := bd_e h
        refine e_cVi2 qX2_act_106 mv_X2_55 h_a1 rfl rfl (w_X6_pourInto h_a1 hc) ?_
        refine e_pop qX2_act_109 rfl ?_
        refine e_goto (tgt := 132) qX2_act_110 rfl ?_
        exact e_vret qX2_act_132 rfl (ret_v h)
      exact e_weak (hj7 h) ⟨Or.inr rfl, Or.inr rfl, Or.inl rfl, Or.inl rfl, Or.inr rfl, Or.inl rfl, trivial⟩
    refine e_icmp_ne (tgt := 78) qX2_act_48 rfl h (fun _ h => ?_) (fun _ h => ?_)
    · refine e_iload_n qX2_act_51 rfl ?_
      refine e_if_le (tgt := 78) qX2_act_52 rfl h (fun _ h => ?_) (fun _ h => ?_)
      · exact e_weak (hj6 h) ⟨Or.inr rfl, Or.inr rfl, Or.inr rfl, Or.inl rfl, Or.inr rfl, Or.inl rfl, trivial⟩
      refine e_aload_n qX2_act_55 rfl ?_
      refine e_iload_n qX2_act_56 rfl ?_
      obtain ⟨v18, s19, hc, h⟩ := bd_e h
      refine e_cVi1 qX2_act_57 mv_X2_44 shq_131 rfl rfl (w_X2_draw hc) ?_
      refine e_istore (lv2 := [some (.ref 131), some (.ref a1), some (.int v1), some (.int v2), some (.int v3), some (.int v18)]) qX2_act_60 rfl rfl rfl ?_
      refine e_aload_n qX2_act_62 rfl ?_
      refine e_iload qX2_act_63 rfl ?_
      refine e_aload_n qX2_act_65 rfl ?_
      refine e_bipush (nI 9) qX2_act_66 rfl ?_
      obtain ⟨v20, s21, hc, h⟩ := bd_e h
      refine e_cVi1 qX2_act_68 mv_X2_44 shq_131 rfl rfl (w_X2_draw hc) ?_
      obtain ⟨v22, s23, hc, h⟩ := bd_e h
      refine e_cVi2 qX2_act_71 mv_X2_52 h_a1 rfl rfl (w_X6_turn h_a1 hc) ?_
      refine e_pop qX2_act_74 rfl ?_
      refine e_goto (tgt := 132) qX2_act_75 rfl ?_
      exact e_vret qX2_act_132 rfl (ret_v h)
    exact e_weak (hj6 h) ⟨Or.inr rfl, Or.inr rfl, Or.inr rfl, Or.inl rfl, Or.inr rfl, Or.inl rfl, trivial⟩
  refine e_if_ne (tgt := 45) qX2_act_26 rfl h (fun _ h => ?_) (fun _ h => ?_)
  · refine e_iload_n qX2_act_29 rfl ?_
    refine e_if_le (tgt := 45) qX2_act_30 rfl h (fun _ h => ?_) (fun _ h => ?_)
    · exact e_weak (hj5 h) ⟨Or.inr rfl, Or.inr rfl, Or.inr rfl, Or.inr rfl, Or.inr rfl, Or.inl rfl, trivial⟩
    refine e_aload_n qX2_act_33 rfl ?_
    refine e_aload_n qX2_act_34 rfl ?_
    refine e_iload_n qX2_act_35 rfl ?_
    obtain ⟨v24, s25, hc, h⟩ := bd_e h
    refine e_cVi1 qX2_act_36 mv_X2_44 shq_131 rfl rfl (w_X2_draw hc) ?_
    obtain ⟨s26, hc, h⟩ := bp_e h
    refine e_cSv2 qX2_act_39 ms_X2_48 rfl rfl (w_X2_douseOrKindle h_a1 hc) ?_
    refine e_goto (tgt := 132) qX2_act_42 rfl ?_
    exact e_vret qX2_act_132 rfl (ret_v h)
  exact e_weak (hj5 h) ⟨Or.inr rfl, Or.inr rfl, Or.inr rfl, Or.inr rfl, Or.inr rfl, Or.inl rfl, trivial⟩

def f_X6_passOne_L2 (N : Nat) (c1 : Nat) (k4 : St → Option (St)) : Nat → Int32 → St → Option (St)
  | 0, _, _ => none
  | n6 + 1, v2, s3 =>
    vl (s3.1 3 2) fun v8 =>
    if v8 ≤ v2 then
      k4 s3
    else
    bp (f_X6_shines c1 v2 s3) fun v9 =>
    jn (fun (s10 : St) =>
      vl (v2 + (nI 1)) fun v12 =>
      f_X6_passOne_L2 N c1 k4 n6 v12 s10) fun j11 =>
    if v9 = 0 then
      j11 s3
    else
    ald (s3.1 (rr c1 4)) 8 v2 fun v13 =>
    ald (fun j => sI s3 (rr c1 4) j (v13 - (nI 1))) 8 v2 fun s14 =>
    j11 s14

def f_X6_passOne_L39 (N : Nat) (c16 : Nat) (k19 : St → Option (St)) : Nat → Int32 → St → Option (St)
  | 0, _, _ => none
  | n21 + 1, v17, s18 =>
    vl (s18.1 3 3) fun v23 =>
    if v23 ≤ v17 then
      k19 s18
    else
    vl (s18.1 c16 1) fun v24 =>
    ald (rr 5) 4 v17 fun v25 =>
    vl (s18.1 v25 4) fun v27 =>
    bp (f_X11_remainder (v24 + (nI 1)) v27 s18) fun v28 =>
    jn (fun (s29 : St) =>
      vl (v17 + (nI 1)) fun v31 =>
      f_X6_passOne_L39 N c16 k19 n21 v31 s29) fun j30 =>
    if v28 = 0 then
      bp (f_X6_sail c16 v17 s18) fun s32 =>
      j30 s32
    else
    j30 s18

def f_X6_passOne (N : Nat) (a0 : Nat) (s0 : St) : Option (St) :=
  f_X6_passOne_L2 N a0 (fun (s15 : St) =>
    f_X6_passOne_L39 N a0 (fun (s33 : St) =>
      vl (s33.1 a0 1) fun v34 =>
      vl (sI s33 a0 1 (v34 + (nI 1))) fun s35 =>
      some s35) N (nI 0) s15) N (nI 0) s0

theorem qX6_passOne_0 : Dc mX6_passOne 0 (.iconst 0) 1 1 := ⟨by decide +kernel, rfl⟩
theorem qX6_passOne_1 : Dc mX6_passOne 1 (.istore_n 1) 1 2 := ⟨by decide +kernel, rfl⟩
theorem qX6_passOne_2 : Dc mX6_passOne 2 (.iload_n 1) 1 3 := ⟨by decide +kernel, rfl⟩
theorem qX6_passOne_3 : Dc mX6_passOne 3 (.aload_n 0) 1 4 := ⟨by decide +kernel, rfl⟩
theorem qX6_passOne_4 : Dc mX6_passOne 4 (.getfield 27) 3 7 := ⟨by decide +kernel, rfl⟩
theorem qX6_passOne_7 : Dc mX6_passOne 7 (.getfield 46) 3 10 := ⟨by decide +kernel, rfl⟩
theorem qX6_passOne_10 : Dc mX6_passOne 10 (.if_icmp .ge 27) 3 13 := ⟨by decide +kernel, rfl⟩
theorem qX6_passOne_13 : Dc mX6_passOne 13 (.aload_n 0) 1 14 := ⟨by decide +kernel, rfl⟩
theorem qX6_passOne_14 : Dc mX6_passOne 14 (.iload_n 1) 1 15 := ⟨by decide +kernel, rfl⟩
theorem qX6_passOne_15 : Dc mX6_passOne 15 (.invokevirtual 102) 3 18 := ⟨by decide +kernel, rfl⟩
theorem qX6_passOne_18 : Dc mX6_passOne 18 (.ifCond .eq 13) 3 21 := ⟨by decide +kernel, rfl⟩
theorem qX6_passOne_21 : Dc mX6_passOne 21 (.aload_n 0) 1 22 := ⟨by decide +kernel, rfl⟩
theorem qX6_passOne_22 : Dc mX6_passOne 22 (.getfield 9) 3 25 := ⟨by decide +kernel, rfl⟩
theorem qX6_passOne_25 : Dc mX6_passOne 25 (.iload_n 1) 1 26 := ⟨by decide +kernel, rfl⟩
theorem qX6_passOne_26 : Dc mX6_passOne 26 (.dup2) 1 27 := ⟨by decide +kernel, rfl⟩
theorem qX6_passOne_27 : Dc mX6_passOne 27 (.iaload) 1 28 := ⟨by decide +kernel, rfl⟩
theorem qX6_passOne_28 : Dc mX6_passOne 28 (.iconst 1) 1 29 := ⟨by decide +kernel, rfl⟩
theorem qX6_passOne_29 : Dc mX6_passOne 29 (.isub) 1 30 := ⟨by decide +kernel, rfl⟩
theorem qX6_passOne_30 : Dc mX6_passOne 30 (.iastore) 1 31 := ⟨by decide +kernel, rfl⟩
theorem qX6_passOne_31 : Dc mX6_passOne 31 (.iinc 1 1) 3 34 := ⟨by decide +kernel, rfl⟩
theorem qX6_passOne_34 : Dc mX6_passOne 34 (.goto (-32)) 3 37 := ⟨by decide +kernel, rfl⟩
theorem qX6_passOne_37 : Dc mX6_passOne 37 (.iconst 0) 1 38 := ⟨by decide +kernel, rfl⟩
theorem qX6_passOne_38 : Dc mX6_passOne 38 (.istore_n 1) 1 39 := ⟨by decide +kernel, rfl⟩
theorem qX6_passOne_39 : Dc mX6_passOne 39 (.iload_n 1) 1 40 := ⟨by decide +kernel, rfl⟩
theorem qX6_passOne_40 : Dc mX6_passOne 40 (.aload_n 0) 1 41 := ⟨by decide +kernel, rfl⟩
theorem qX6_passOne_41 : Dc mX6_passOne 41 (.getfield 27) 3 44 := ⟨by decide +kernel, rfl⟩
theorem qX6_passOne_44 : Dc mX6_passOne 44 (.getfield 60) 3 47 := ⟨by decide +kernel, rfl⟩
theorem qX6_passOne_47 : Dc mX6_passOne 47 (.if_icmp .ge 38) 3 50 := ⟨by decide +kernel, rfl⟩
theorem qX6_passOne_50 : Dc mX6_passOne 50 (.aload_n 0) 1 51 := ⟨by decide +kernel, rfl⟩
theorem qX6_passOne_51 : Dc mX6_passOne 51 (.getfield 31) 3 54 := ⟨by decide +kernel, rfl⟩
theorem qX6_passOne_54 : Dc mX6_passOne 54 (.iconst 1) 1 55 := ⟨by decide +kernel, rfl⟩
theorem qX6_passOne_55 : Dc mX6_passOne 55 (.iadd) 1 56 := ⟨by decide +kernel, rfl⟩
theorem qX6_passOne_56 : Dc mX6_passOne 56 (.aload_n 0) 1 57 := ⟨by decide +kernel, rfl⟩
theorem qX6_passOne_57 : Dc mX6_passOne 57 (.getfield 27) 3 60 := ⟨by decide +kernel, rfl⟩
theorem qX6_passOne_60 : Dc mX6_passOne 60 (.getfield 63) 3 63 := ⟨by decide +kernel, rfl⟩
theorem qX6_passOne_63 : Dc mX6_passOne 63 (.iload_n 1) 1 64 := ⟨by decide +kernel, rfl⟩
theorem qX6_passOne_64 : Dc mX6_passOne 64 (.aaload) 1 65 := ⟨by decide +kernel, rfl⟩
theorem qX6_passOne_65 : Dc mX6_passOne 65 (.getfield 122) 3 68 := ⟨by decide +kernel, rfl⟩
theorem qX6_passOne_68 : Dc mX6_passOne 68 (.invokestatic 86) 3 71 := ⟨by decide +kernel, rfl⟩
theorem qX6_passOne_71 : Dc mX6_passOne 71 (.ifCond .ne 8) 3 74 := ⟨by decide +kernel, rfl⟩
theorem qX6_passOne_74 : Dc mX6_passOne 74 (.aload_n 0) 1 75 := ⟨by decide +kernel, rfl⟩
theorem qX6_passOne_75 : Dc mX6_passOne 75 (.iload_n 1) 1 76 := ⟨by decide +kernel, rfl⟩
theorem qX6_passOne_76 : Dc mX6_passOne 76 (.invokevirtual 125) 3 79 := ⟨by decide +kernel, rfl⟩
theorem qX6_passOne_79 : Dc mX6_passOne 79 (.iinc 1 1) 3 82 := ⟨by decide +kernel, rfl⟩
theorem qX6_passOne_82 : Dc mX6_passOne 82 (.goto (-43)) 3 85 := ⟨by decide +kernel, rfl⟩
theorem qX6_passOne_85 : Dc mX6_passOne 85 (.aload_n 0) 1 86 := ⟨by decide +kernel, rfl⟩
theorem qX6_passOne_86 : Dc mX6_passOne 86 (.dup) 1 87 := ⟨by decide +kernel, rfl⟩
theorem qX6_passOne_87 : Dc mX6_passOne 87 (.getfield 31) 3 90 := ⟨by decide +kernel, rfl⟩
theorem qX6_passOne_90 : Dc mX6_passOne 90 (.iconst 1) 1 91 := ⟨by decide +kernel, rfl⟩
theorem qX6_passOne_91 : Dc mX6_passOne 91 (.iadd) 1 92 := ⟨by decide +kernel, rfl⟩
theorem qX6_passOne_92 : Dc mX6_passOne 92 (.putfield 31) 3 95 := ⟨by decide +kernel, rfl⟩
theorem qX6_passOne_95 : Dc mX6_passOne 95 (.return_) 1 96 := ⟨by decide +kernel, rfl⟩

set_option maxRecDepth 20000 in
set_option maxHeartbeats 4000000 in
theorem w_X6_passOne_L2 {N : Nat} {c1 : Nat} {k4 : St → Option (St)} {sr : St} (h_c1 : sh c1 = 6) (hk4 : ∀ (s5 : St), k4 s5 = some sr → E mX6_passOne 3 (none, sr) 37 [some (.ref c1), none] [] s5) : ∀ (n6 : Nat) (v2 : Int32) (s3 : St), f_X6_passOne_L2 N c1 k4 n6 v2 s3 = some sr → E mX6_passOne 3 (none, sr) 2 [some (.ref c1), some (.int v2)] [] s3 := by
  intro n6
  induction n6 with
  | zero =>
    intro v2 s3 h
    rw [f_X6_passOne_L2] at h; cases h
  | succ n6 ih7 =>
    intro v2 s3 h
    rw [f_X6_passOne_L2] at h
    refine e_iload_n qX6_passOne_2 rfl ?_
    refine e_aload_n qX6_passOne_3 rfl ?_
    refine e_getr 3 qX6_passOne_4 fl_X6_27 h_c1 kdq_6_0 (wq_6_0 _ h_c1) ?_
    refine e_geti qX6_passOne_7 fl_X6_46 shq_3 kdq_1_2 h (fun v8 h => ?_)
    refine e_icmp_ge (tgt := 37) qX6_passOne_10 rfl h (fun _ h => ?_) (fun _ h => ?_)
    · exact e_weak (hk4 _ h) ⟨Or.inr rfl, Or.inl rfl, trivial⟩
    refine e_aload_n qX6_passOne_13 rfl ?_
    refine e_iload_n qX6_passOne_14 rfl ?_
    obtain ⟨v9, hc, h⟩ := bp_e h
    refine e_cVi1 qX6_passOne_15 mv_X6_102 h_c1 rfl rfl (w_X6_shines h_c1 hc) ?_
    refine jn_e (fun j => ∀ (s10 : St), j s10 = some sr → E mX6_passOne 3 (none, sr) 31 [some (.ref c1), some (.int v2)] [] s10) h ?_ (fun j11 hj11 h => ?_)
    · intro s10 h
      refine vl_e h (fun h => ?_)
      obtain ⟨v12, ev12⟩ : ∃ y, v2 + (nI 1) = y := ⟨_, rfl⟩
      rw [ev12] at h
      refine e_iinc (nI 1) v12 (lv2 := [some (.ref c1), some (.int v12)]) qX6_passOne_31 rfl rfl rfl ev12 rfl ?_
      refine e_goto (tgt := 2) qX6_passOne_34 rfl ?_
      exact e_weak (ih7 _ _ h) ⟨Or.inr rfl, Or.inr rfl, trivial⟩
    refine e_if_eq (tgt := 31) qX6_passOne_18 rfl h (fun _ h => ?_) (fun _ h => ?_)
    · exact e_weak (hj11 _ h) ⟨Or.inr rfl, Or.inr rfl, trivial⟩
    refine e_aload_n qX6_passOne_21 rfl ?_
    refine e_getr (rr c1 4) qX6_passOne_22 fl_X6_9 h_c1 kdq_6_4 rfl ?_
    refine e_iload_n qX6_passOne_25 rfl ?_
    refine e_dup2 qX6_passOne_26 rfl rfl ?_
    refine e_iald qX6_passOne_27 (wt_6_4 _ h_c1).1 (wt_6_4 _ h_c1).2 h (fun v13 h => ?_)
    refine e_iconst (nI 1) qX6_passOne_28 rfl ?_
    refine e_isub qX6_passOne_29 ?_
    refine e_iast qX6_passOne_30 (wt_6_4 _ h_c1).1 (wt_6_4 _ h_c1).2 h (fun s14 h => ?_)
    exact e_weak (hj11 _ h) ⟨Or.inr rfl, Or.inr rfl, trivial⟩

set_option maxRecDepth 20000 in
set_option maxHeartbeats 4000000 in
theorem w_X6_passOne_L39 {N : Nat} {c16 : Nat} {k19 : St → Option (St)} {sr : St} (h_c16 : sh c16 = 6) (hk19 : ∀ (s20 : St), k19 s20 = some sr → E mX6_passOne 3 (none, sr) 85 [some (.ref c16), none] [] s20) : ∀ (n21 : Nat) (v17 : Int32) (s18 : St), f_X6_passOne_L39 N c16 k19 n21 v17 s18 = some sr → E mX6_passOne 3 (none, sr) 39 [some (.ref c16), some (.int v17)] [] s18 := by
  intro n21
  induction n21 with
  | zero =>
    intro v17 s18 h
    rw [f_X6_passOne_L39] at h; cases h
  | succ n21 ih22 =>
    intro v17 s18 h
    rw [f_X6_passOne_L39] at h
    refine e_iload_n qX6_passOne_39 rfl ?_
    refine e_aload_n qX6_passOne_40 rfl ?_
    refine e_getr 3 qX6_passOne_41 fl_X6_27 h_c16 kdq_6_0 (wq_6_0 _ h_c16) ?_
    refine e_geti qX6_passOne_44 fl_X6_60 shq_3 kdq_1_3 h (fun v23 h => ?_)
    refine e_icmp_ge (tgt := 85) qX6_passOne_47 rfl h (fun _ h => ?_) (fun _ h => ?_)
    · exact e_weak (hk19 _ h) ⟨Or.inr rfl, Or.inl rfl, trivial⟩
    refine e_aload_n qX6_passOne_50 rfl ?_
    refine e_geti qX6_passOne_51 fl_X6_31 h_c16 kdq_6_1 h (fun v24 h => ?_)
    refine e_iconst (nI 1) qX6_passOne_54 rfl ?_
    refine e_iadd qX6_passOne_55 ?_
    refine e_aload_n qX6_passOne_56 rfl ?_
    refine e_getr 3 qX6_passOne_57 fl_X6_27 h_c16 kdq_6_0 (wq_6_0 _ h_c16) ?_
    refine e_getr 5 qX6_passOne_60 fl_X6_63 shq_3 kdq_1_1 rrq_3_1 ?_
    refine e_iload_n qX6_passOne_63 rfl ?_
    refine e_rald25 qX6_passOne_64 shq_5 lnq_5 h (fun i26 hi26 h => ?_)
    refine e_geti qX6_passOne_65 fl_X6_122 (we_25 _ shq_5 _ hi26) kdq_8_4 h (fun v27 h => ?_)
    obtain ⟨v28, hc, h⟩ := bp_e h
    refine e_cNi2 qX6_passOne_68 mn_X6_86 rfl rfl (w_X11_remainder hc) ?_
    refine jn_e (fun j => ∀ (s29 : St), j s29 = some sr → E mX6_passOne 3 (none, sr) 79 [some (.ref c16), some (.int v17)] [] s29) h ?_ (fun j30 hj30 h => ?_)
    · intro s29 h
      refine vl_e h (fun h => ?_)
      obtain ⟨v31, ev31⟩ : ∃ y, v17 + (nI 1) = y := ⟨_, rfl⟩
      rw [ev31] at h
      refine e_iinc (nI 1) v31 (lv2 := [some (.ref c16), some (.int v31)]) qX6_passOne_79 rfl rfl rfl ev31 rfl ?_
      refine e_goto (tgt := 39) qX6_passOne_82 rfl ?_
      exact e_weak (ih22 _ _ h) ⟨Or.inr rfl, Or.inr rfl, trivial⟩
    refine e_if_ne (tgt := 79) qX6_passOne_71 rfl h (fun _ h => ?_) (fun _ h => ?_)
    · refine e_aload_n qX6_passOne_74 rfl ?_
      refine e_iload_n qX6_passOne_75 rfl ?_
      obtain ⟨s32, hc, h⟩ := bp_e h
      refine e_cVv1 qX6_passOne_76 mv_X6_125 h_c16 rfl rfl (w_X6_sail h_c16 hc) ?_
      exact e_weak (hj30 _ h) ⟨Or.inr rfl, Or.inr rfl, trivial⟩
    exact e_weak (hj30 _ h) ⟨Or.inr rfl, Or.inr rfl, trivial⟩

set_option maxRecDepth 20000 in
set_option maxHeartbeats 4000000 in
theorem w_X6_passOne {N : Nat} {a0 : Nat} {s0 : St} {sr : St} (h_a0 : sh a0 = 6) (h : f_X6_passOne N a0 s0 = some sr) : Ct mX6_passOne 3 [.ref a0] s0 (none, sr) := by
  refine Ct.ofE (by decide +kernel) rfl ?_
  show E mX6_passOne 3 (none, sr) 0 [some (.ref a0), none] [] s0
  unfold f_X6_passOne at h
  refine e_iconst (nI 0) qX6_passOne_0 rfl ?_
  refine e_istore_n (lv2 := [some (.ref a0), some (.int (nI 0))]) qX6_passOne_1 rfl rfl rfl ?_
  refine e_weak (w_X6_passOne_L2 h_a0 (fun s15 h => ?_) _ _ _ h) ⟨Or.inr rfl, Or.inr rfl, trivial⟩
  refine e_iconst (nI 0) qX6_passOne_37 rfl ?_
  refine e_istore_n (lv2 := [some (.ref a0), some (.int (nI 0))]) qX6_passOne_38 rfl rfl rfl ?_
  refine e_weak (w_X6_passOne_L39 h_a0 (fun s33 h => ?_) _ _ _ h) ⟨Or.inr rfl, Or.inr rfl, trivial⟩
  refine e_aload_n qX6_passOne_85 rfl ?_
  refine e_dup qX6_passOne_86 rfl ?_
  refine e_geti qX6_passOne_87 fl_X6_31 h_a0 kdq_6_1 h (fun v34 h => ?_)
  refine e_iconst (nI 1) qX6_passOne_90 rfl ?_
  refine e_iadd qX6_passOne_91 ?_
  refine e_puti qX6_passOne_92 fp_X6_31 h_a0 kdq_6_1 h (fun s35 h => ?_)
  exact e_vret qX6_passOne_95 rfl (ret_v h)

def f_X7_readAll_L15 (N : Nat) (rec : Nat → Int32 → St → Option (Int32 × St)) (c3 : Nat) (c4 : Int32) : Nat → Int32 → St → Option (Int32 × St)
  | 0, _, _ => none
  | n7 + 1, v5, s6 =>
    if (nI 20) ≤ v5 then
      some ((nI 1), s6)
    else
    bp (f_X9_is 1016 s6) fun v9 =>
    if v9 = 0 then
      some ((nI 1), s6)
    else
    bp (f_X9_next N s6) fun s10 =>
    bd (rec c3 c4 s10) fun v11 s12 =>
    if v11 = 0 then
      some ((nI 0), s12)
    else
    bd (f_X7_add c3 (nI 0) (nI 0) (nI 0) s12) fun v13 s14 =>
    vl (v5 + (nI 1)) fun v15 =>
    f_X7_readAll_L15 N rec c3 c4 n7 v15 s14

def f_X7_readAll (N : Nat) (rec : Nat → Int32 → St → Option (Int32 × St)) (a0 : Nat) (x3 : Int32) (s0 : St) : Option (Int32 × St) :=
  bd (rec a0 x3 s0) fun v1 s2 =>
  if v1 = 0 then
    some ((nI 0), s2)
  else
  f_X7_readAll_L15 N rec a0 x3 N (nI 0) s2

theorem qX7_readAll_0 : Dc mX7_readAll 0 (.aload_n 0) 1 1 := ⟨by decide +kernel, rfl⟩
theorem qX7_readAll_1 : Dc mX7_readAll 1 (.aload_n 1) 1 2 := ⟨by decide +kernel, rfl⟩
theorem qX7_readAll_2 : Dc mX7_readAll 2 (.aload_n 2) 1 3 := ⟨by decide +kernel, rfl⟩
theorem qX7_readAll_3 : Dc mX7_readAll 3 (.iload_n 3) 1 4 := ⟨by decide +kernel, rfl⟩
theorem qX7_readAll_4 : Dc mX7_readAll 4 (.invokevirtual 74) 3 7 := ⟨by decide +kernel, rfl⟩
theorem qX7_readAll_7 : Dc mX7_readAll 7 (.ifCond .ne 5) 3 10 := ⟨by decide +kernel, rfl⟩
theorem qX7_readAll_10 : Dc mX7_readAll 10 (.iconst 0) 1 11 := ⟨by decide +kernel, rfl⟩
theorem qX7_readAll_11 : Dc mX7_readAll 11 (.ireturn) 1 12 := ⟨by decide +kernel, rfl⟩
theorem qX7_readAll_12 : Dc mX7_readAll 12 (.iconst 0) 1 13 := ⟨by decide +kernel, rfl⟩
theorem qX7_readAll_13 : Dc mX7_readAll 13 (.istore 4) 2 15 := ⟨by decide +kernel, rfl⟩
theorem qX7_readAll_15 : Dc mX7_readAll 15 (.iload 4) 2 17 := ⟨by decide +kernel, rfl⟩
theorem qX7_readAll_17 : Dc mX7_readAll 17 (.bipush 20) 2 19 := ⟨by decide +kernel, rfl⟩
theorem qX7_readAll_19 : Dc mX7_readAll 19 (.if_icmp .ge 43) 3 22 := ⟨by decide +kernel, rfl⟩
theorem qX7_readAll_22 : Dc mX7_readAll 22 (.aload_n 1) 1 23 := ⟨by decide +kernel, rfl⟩
theorem qX7_readAll_23 : Dc mX7_readAll 23 (.getstatic 77) 3 26 := ⟨by decide +kernel, rfl⟩
theorem qX7_readAll_26 : Dc mX7_readAll 26 (.invokevirtual 63) 3 29 := ⟨by decide +kernel, rfl⟩
theorem qX7_readAll_29 : Dc mX7_readAll 29 (.ifCond .eq 33) 3 32 := ⟨by decide +kernel, rfl⟩
theorem qX7_readAll_32 : Dc mX7_readAll 32 (.aload_n 1) 1 33 := ⟨by decide +kernel, rfl⟩
theorem qX7_readAll_33 : Dc mX7_readAll 33 (.invokevirtual 67) 3 36 := ⟨by decide +kernel, rfl⟩
theorem qX7_readAll_36 : Dc mX7_readAll 36 (.aload_n 0) 1 37 := ⟨by decide +kernel, rfl⟩
theorem qX7_readAll_37 : Dc mX7_readAll 37 (.aload_n 1) 1 38 := ⟨by decide +kernel, rfl⟩
theorem qX7_readAll_38 : Dc mX7_readAll 38 (.aload_n 2) 1 39 := ⟨by decide +kernel, rfl⟩
theorem qX7_readAll_39 : Dc mX7_readAll 39 (.iload_n 3) 1 40 := ⟨by decide +kernel, rfl⟩
theorem qX7_readAll_40 : Dc mX7_readAll 40 (.invokevirtual 74) 3 43 := ⟨by decide +kernel, rfl⟩
theorem qX7_readAll_43 : Dc mX7_readAll 43 (.ifCond .ne 5) 3 46 := ⟨by decide +kernel, rfl⟩
theorem qX7_readAll_46 : Dc mX7_readAll 46 (.iconst 0) 1 47 := ⟨by decide +kernel, rfl⟩
theorem qX7_readAll_47 : Dc mX7_readAll 47 (.ireturn) 1 48 := ⟨by decide +kernel, rfl⟩
theorem qX7_readAll_48 : Dc mX7_readAll 48 (.aload_n 0) 1 49 := ⟨by decide +kernel, rfl⟩
theorem qX7_readAll_49 : Dc mX7_readAll 49 (.iconst 0) 1 50 := ⟨by decide +kernel, rfl⟩
theorem qX7_readAll_50 : Dc mX7_readAll 50 (.iconst 0) 1 51 := ⟨by decide +kernel, rfl⟩
theorem qX7_readAll_51 : Dc mX7_readAll 51 (.iconst 0) 1 52 := ⟨by decide +kernel, rfl⟩
theorem qX7_readAll_52 : Dc mX7_readAll 52 (.invokevirtual 70) 3 55 := ⟨by decide +kernel, rfl⟩
theorem qX7_readAll_55 : Dc mX7_readAll 55 (.pop) 1 56 := ⟨by decide +kernel, rfl⟩
theorem qX7_readAll_56 : Dc mX7_readAll 56 (.iinc 4 1) 3 59 := ⟨by decide +kernel, rfl⟩
theorem qX7_readAll_59 : Dc mX7_readAll 59 (.goto (-44)) 3 62 := ⟨by decide +kernel, rfl⟩
theorem qX7_readAll_62 : Dc mX7_readAll 62 (.iconst 1) 1 63 := ⟨by decide +kernel, rfl⟩
theorem qX7_readAll_63 : Dc mX7_readAll 63 (.ireturn) 1 64 := ⟨by decide +kernel, rfl⟩

set_option maxRecDepth 20000 in
set_option maxHeartbeats 4000000 in
theorem w_X7_readAll_L15 {N : Nat} {rec : Nat → Int32 → St → Option (Int32 × St)} {c3 : Nat} {c4 : Int32}  {r : Int32} {sr : St} {dR : Nat} (hdR : 20 ≤ dR) (hrec : ∀ (a : Nat) (v : Int32) (s : St) (r : Int32) (s1 : St), sh a = 7 → rec a v s = some (r, s1) → Ct mX7_readOne dR [.ref a, .ref 1, .ref 3, .int v] s (some (.int r), s1)) (h_c3 : sh c3 = 7)  : ∀ (n7 : Nat) (v5 : Int32) (s6 : St), f_X7_readAll_L15 N rec c3 c4 n7 v5 s6 = some (r, sr) → E mX7_readAll (dR + 1) (some (.int r), sr) 15 [some (.ref c3), some (.ref 1), some (.ref 3), some (.int c4), some (.int v5)] [] s6 := by
  intro n7
  induction n7 with
  | zero =>
    intro v5 s6 h
    rw [f_X7_readAll_L15] at h; cases h
  | succ n7 ih8 =>
    intro v5 s6 h
    rw [f_X7_readAll_L15] at h
    refine e_iload qX7_readAll_15 rfl ?_
    refine e_bipush (nI 20) qX7_readAll_17 rfl ?_
    refine e_icmp_ge (tgt := 62) qX7_readAll_19 rfl h (fun _ h => ?_) (fun _ h => ?_)
    · refine e_iconst (nI 1) qX7_readAll_62 rfl ?_
      exact e_zret qX7_readAll_63 rfl (by decide) (ret_i h)
    refine e_aload_n qX7_readAll_22 rfl ?_
    refine e_getsw (i := 16) qX7_readAll_23 (by decide) cg_X7_77 ?_
    obtain ⟨v9, hc, h⟩ := bp_e h
    refine e_cVi1 qX7_readAll_26 mv_X7_63 shq_1 rfl (by rw [Nat.ble_eq]; omega) (w_X9_is hc) ?_
    refine e_if_eq (tgt := 62) qX7_readAll_29 rfl h (fun _ h => ?_) (fun _ h => ?_)
    · refine e_iconst (nI 1) qX7_readAll_62 rfl ?_
      exact e_zret qX7_readAll_63 rfl (by decide) (ret_i h)
    refine e_aload_n qX7_readAll_32 rfl ?_
    obtain ⟨s10, hc, h⟩ := bp_e h
    refine e_cVv0 qX7_readAll_33 mv_X7_67 shq_1 rfl (by rw [Nat.ble_eq]; omega) (w_X9_next hc) ?_
    refine e_aload_n qX7_readAll_36 rfl ?_
    refine e_aload_n qX7_readAll_37 rfl ?_
    refine e_aload_n qX7_readAll_38 rfl ?_
    refine e_iload_n qX7_readAll_39 rfl ?_
    obtain ⟨v11, s12, hc, h⟩ := bd_e h
    refine e_cVi3 qX7_readAll_40 mv_X7_74 h_c3 rfl (by rw [Nat.ble_eq]; omega) (hrec _ _ _ _ _ h_c3 hc) ?_
    refine e_if_ne (tgt := 48) qX7_readAll_43 rfl h (fun _ h => ?_) (fun _ h => ?_)
    · refine e_iconst (nI 0) qX7_readAll_46 rfl ?_
      exact e_zret qX7_readAll_47 rfl (by decide) (ret_i h)
    refine e_aload_n qX7_readAll_48 rfl ?_
    refine e_iconst (nI 0) qX7_readAll_49 rfl ?_
    refine e_iconst (nI 0) qX7_readAll_50 rfl ?_
    refine e_iconst (nI 0) qX7_readAll_51 rfl ?_
    obtain ⟨v13, s14, hc, h⟩ := bd_e h
    refine e_cVi3 qX7_readAll_52 mv_X7_70 h_c3 rfl (by rw [Nat.ble_eq]; omega) (w_X7_add h_c3 hc) ?_
    refine e_pop qX7_readAll_55 rfl ?_
    refine vl_e h (fun h => ?_)
    obtain ⟨v15, ev15⟩ : ∃ y, v5 + (nI 1) = y := ⟨_, rfl⟩
    rw [ev15] at h
    refine e_iinc (nI 1) v15 (lv2 := [some (.ref c3), some (.ref 1), some (.ref 3), some (.int c4), some (.int v15)]) qX7_readAll_56 rfl rfl rfl ev15 rfl ?_
    refine e_goto (tgt := 15) qX7_readAll_59 rfl ?_
    exact e_weak (ih8 _ _ h) ⟨Or.inr rfl, Or.inr rfl, Or.inr rfl, Or.inr rfl, Or.inr rfl, trivial⟩

set_option maxRecDepth 20000 in
set_option maxHeartbeats 4000000 in
theorem w_X7_readAll {N : Nat} {rec : Nat → Int32 → St → Option (Int32 × St)} {a0 : Nat} {x3 : Int32} {dR : Nat} (hdR : 20 ≤ dR) (hrec : ∀ (a : Nat) (v : Int32) (s : St) (r : Int32) (s1 : St), sh a = 7 → rec a v s = some (r, s1) → Ct mX7_readOne dR [.ref a, .ref 1, .ref 3, .int v] s (some (.int r), s1)) {s0 : St} {r : Int32} {sr : St} (h_a0 : sh a0 = 7) (h : f_X7_readAll N rec a0 x3 s0 = some (r, sr)) : Ct mX7_readAll (dR + 1) [.ref a0, .ref 1, .ref 3, .int x3] s0 (some (.int r), sr) := by
  refine Ct.ofE (by decide +kernel) rfl ?_
  show E mX7_readAll (dR + 1) (some (.int r), sr) 0 [some (.ref a0), some (.ref 1), some (.ref 3), some (.int x3), none] [] s0
  unfold f_X7_readAll at h
  refine e_aload_n qX7_readAll_0 rfl ?_
  refine e_aload_n qX7_readAll_1 rfl ?_
  refine e_aload_n qX7_readAll_2 rfl ?_
  refine e_iload_n qX7_readAll_3 rfl ?_
  obtain ⟨v1, s2, hc, h⟩ := bd_e h
  refine e_cVi3 qX7_readAll_4 mv_X7_74 h_a0 rfl (by rw [Nat.ble_eq]; omega) (hrec _ _ _ _ _ h_a0 hc) ?_
  refine e_if_ne (tgt := 12) qX7_readAll_7 rfl h (fun _ h => ?_) (fun _ h => ?_)
  · refine e_iconst (nI 0) qX7_readAll_10 rfl ?_
    exact e_zret qX7_readAll_11 rfl (by decide) (ret_i h)
  refine e_iconst (nI 0) qX7_readAll_12 rfl ?_
  refine e_istore (lv2 := [some (.ref a0), some (.ref 1), some (.ref 3), some (.int x3), some (.int (nI 0))]) qX7_readAll_13 rfl rfl rfl ?_
  exact e_weak (w_X7_readAll_L15 hdR hrec h_a0  _ _ _ h) ⟨Or.inr rfl, Or.inr rfl, Or.inr rfl, Or.inr rfl, Or.inr rfl, trivial⟩

def f_X7_readNamed (N : Nat) (a0 : Nat) (x2 : Int32) (x3 : Int32) (s0 : St) : Option (Int32 × St) :=
  if x3 = (-1) then
    some ((nI 0), s0)
  else
  bp (f_X9_next N s0) fun s1 =>
  bd (f_X7_add a0 x2 (nI 0) x3 s1) fun v2 s3 =>
  rz v2 <|
  some (v2, s3)

theorem qX7_readNamed_0 : Dc mX7_readNamed 0 (.iload_n 3) 1 1 := ⟨by decide +kernel, rfl⟩
theorem qX7_readNamed_1 : Dc mX7_readNamed 1 (.iconst (-1)) 1 2 := ⟨by decide +kernel, rfl⟩
theorem qX7_readNamed_2 : Dc mX7_readNamed 2 (.if_icmp .ne 5) 3 5 := ⟨by decide +kernel, rfl⟩
theorem qX7_readNamed_5 : Dc mX7_readNamed 5 (.iconst 0) 1 6 := ⟨by decide +kernel, rfl⟩
theorem qX7_readNamed_6 : Dc mX7_readNamed 6 (.ireturn) 1 7 := ⟨by decide +kernel, rfl⟩
theorem qX7_readNamed_7 : Dc mX7_readNamed 7 (.aload_n 1) 1 8 := ⟨by decide +kernel, rfl⟩
theorem qX7_readNamed_8 : Dc mX7_readNamed 8 (.invokevirtual 67) 3 11 := ⟨by decide +kernel, rfl⟩
theorem qX7_readNamed_11 : Dc mX7_readNamed 11 (.aload_n 0) 1 12 := ⟨by decide +kernel, rfl⟩
theorem qX7_readNamed_12 : Dc mX7_readNamed 12 (.iload_n 2) 1 13 := ⟨by decide +kernel, rfl⟩
theorem qX7_readNamed_13 : Dc mX7_readNamed 13 (.iconst 0) 1 14 := ⟨by decide +kernel, rfl⟩
theorem qX7_readNamed_14 : Dc mX7_readNamed 14 (.iload_n 3) 1 15 := ⟨by decide +kernel, rfl⟩
theorem qX7_readNamed_15 : Dc mX7_readNamed 15 (.invokevirtual 70) 3 18 := ⟨by decide +kernel, rfl⟩
theorem qX7_readNamed_18 : Dc mX7_readNamed 18 (.ireturn) 1 19 := ⟨by decide +kernel, rfl⟩

set_option maxRecDepth 20000 in
set_option maxHeartbeats 4000000 in
theorem w_X7_readNamed {N : Nat} {a0 : Nat} {x2 : Int32} {x3 : Int32} {s0 : St} {r : Int32} {sr : St} (h_a0 : sh a0 = 7) (h : f_X7_readNamed N a0 x2 x3 s0 = some (r, sr)) : Ct mX7_readNamed 2 [.ref a0, .ref 1, .int x2, .int x3] s0 (some (.int r), sr) := by
  refine Ct.ofE (by decide +kernel) rfl ?_
  show E mX7_readNamed 2 (some (.int r), sr) 0 [some (.ref a0), some (.ref 1), some (.int x2), some (.int x3)] [] s0
  unfold f_X7_readNamed at h
  refine e_iload_n qX7_readNamed_0 rfl ?_
  refine e_iconst (-1) qX7_readNamed_1 rfl ?_
  refine e_icmp_ne (tgt := 7) qX7_readNamed_2 rfl h (fun _ h => ?_) (fun _ h => ?_)
  · refine e_iconst (nI 0) qX7_readNamed_5 rfl ?_
    exact e_zret qX7_readNamed_6 rfl (by decide) (ret_i h)
  refine e_aload_n qX7_readNamed_7 rfl ?_
  obtain ⟨s1, hc, h⟩ := bp_e h
  refine e_cVv0 qX7_readNamed_8 mv_X7_67 shq_1 rfl rfl (w_X9_next hc) ?_
  refine e_aload_n qX7_readNamed_11 rfl ?_
  refine e_iload_n qX7_readNamed_12 rfl ?_
  refine e_iconst (nI 0) qX7_readNamed_13 rfl ?_
  refine e_iload_n qX7_readNamed_14 rfl ?_
  obtain ⟨v2, s3, hc, h⟩ := bd_e h
  refine e_cVi3 qX7_readNamed_15 mv_X7_70 h_a0 rfl rfl (w_X7_add h_a0 hc) ?_
  refine rz_e h (fun hz h => ?_)
  exact e_zret qX7_readNamed_18 rfl hz (ret_i h)

def f_X7_readMeasure (N : Nat) (a0 : Nat) (x2 : Int32) (s0 : St) : Option (Int32 × St) :=
  bp (f_X9_isSign (nI 60) s0) fun v1 =>
  jn (vl (s0.1 1 4) fun v3 =>
    bp (f_X9_next N s0) fun s4 =>
    bd (f_X9_takeNumber N (nI 0) (nI 999) s4) fun v5 s6 =>
    jn (fun (s7 : St) =>
      some ((nI 0), s7)) fun j8 =>
    if v5 = 0 then
      j8 s6
    else
    vl (s6.1 1 5) fun v9 =>
    bd (f_X7_add a0 x2 v3 v9 s6) fun v10 s11 =>
    if v10 = 0 then
      j8 s11
    else
    some ((nI 1), s11)) fun j2 =>
  if v1 = 0 then
    bp (f_X9_isSign (nI 61) s0) fun v12 =>
    if v12 = 0 then
      bp (f_X9_isSign (nI 62) s0) fun v13 =>
      if v13 = 0 then
        bd (f_X9_refuse (nI 1) s0) fun v14 s15 =>
        rz v14 <|
        some (v14, s15)
      else
      j2
    else
    j2
  else
  j2

theorem qX7_readMeasure_0 : Dc mX7_readMeasure 0 (.aload_n 1) 1 1 := ⟨by decide +kernel, rfl⟩
theorem qX7_readMeasure_1 : Dc mX7_readMeasure 1 (.bipush 60) 2 3 := ⟨by decide +kernel, rfl⟩
theorem qX7_readMeasure_3 : Dc mX7_readMeasure 3 (.invokevirtual 84) 3 6 := ⟨by decide +kernel, rfl⟩
theorem qX7_readMeasure_6 : Dc mX7_readMeasure 6 (.ifCond .ne 27) 3 9 := ⟨by decide +kernel, rfl⟩
theorem qX7_readMeasure_9 : Dc mX7_readMeasure 9 (.aload_n 1) 1 10 := ⟨by decide +kernel, rfl⟩
theorem qX7_readMeasure_10 : Dc mX7_readMeasure 10 (.bipush 61) 2 12 := ⟨by decide +kernel, rfl⟩
theorem qX7_readMeasure_12 : Dc mX7_readMeasure 12 (.invokevirtual 84) 3 15 := ⟨by decide +kernel, rfl⟩
theorem qX7_readMeasure_15 : Dc mX7_readMeasure 15 (.ifCond .ne 18) 3 18 := ⟨by decide +kernel, rfl⟩
theorem qX7_readMeasure_18 : Dc mX7_readMeasure 18 (.aload_n 1) 1 19 := ⟨by decide +kernel, rfl⟩
theorem qX7_readMeasure_19 : Dc mX7_readMeasure 19 (.bipush 62) 2 21 := ⟨by decide +kernel, rfl⟩
theorem qX7_readMeasure_21 : Dc mX7_readMeasure 21 (.invokevirtual 84) 3 24 := ⟨by decide +kernel, rfl⟩
theorem qX7_readMeasure_24 : Dc mX7_readMeasure 24 (.ifCond .ne 9) 3 27 := ⟨by decide +kernel, rfl⟩
theorem qX7_readMeasure_27 : Dc mX7_readMeasure 27 (.aload_n 1) 1 28 := ⟨by decide +kernel, rfl⟩
theorem qX7_readMeasure_28 : Dc mX7_readMeasure 28 (.iconst 1) 1 29 := ⟨by decide +kernel, rfl⟩
theorem qX7_readMeasure_29 : Dc mX7_readMeasure 29 (.invokevirtual 88) 3 32 := ⟨by decide +kernel, rfl⟩
theorem qX7_readMeasure_32 : Dc mX7_readMeasure 32 (.ireturn) 1 33 := ⟨by decide +kernel, rfl⟩
theorem qX7_readMeasure_33 : Dc mX7_readMeasure 33 (.aload_n 1) 1 34 := ⟨by decide +kernel, rfl⟩
theorem qX7_readMeasure_34 : Dc mX7_readMeasure 34 (.getfield 144) 3 37 := ⟨by decide +kernel, rfl⟩
theorem qX7_readMeasure_37 : Dc mX7_readMeasure 37 (.istore_n 3) 1 38 := ⟨by decide +kernel, rfl⟩
theorem qX7_readMeasure_38 : Dc mX7_readMeasure 38 (.aload_n 1) 1 39 := ⟨by decide +kernel, rfl⟩
theorem qX7_readMeasure_39 : Dc mX7_readMeasure 39 (.invokevirtual 67) 3 42 := ⟨by decide +kernel, rfl⟩
theorem qX7_readMeasure_42 : Dc mX7_readMeasure 42 (.aload_n 1) 1 43 := ⟨by decide +kernel, rfl⟩
theorem qX7_readMeasure_43 : Dc mX7_readMeasure 43 (.iconst 0) 1 44 := ⟨by decide +kernel, rfl⟩
theorem qX7_readMeasure_44 : Dc mX7_readMeasure 44 (.sipush 999) 3 47 := ⟨by decide +kernel, rfl⟩
theorem qX7_readMeasure_47 : Dc mX7_readMeasure 47 (.invokevirtual 147) 3 50 := ⟨by decide +kernel, rfl⟩
theorem qX7_readMeasure_50 : Dc mX7_readMeasure 50 (.ifCond .eq 20) 3 53 := ⟨by decide +kernel, rfl⟩
theorem qX7_readMeasure_53 : Dc mX7_readMeasure 53 (.aload_n 0) 1 54 := ⟨by decide +kernel, rfl⟩
theorem qX7_readMeasure_54 : Dc mX7_readMeasure 54 (.iload_n 2) 1 55 := ⟨by decide +kernel, rfl⟩
theorem qX7_readMeasure_55 : Dc mX7_readMeasure 55 (.iload_n 3) 1 56 := ⟨by decide +kernel, rfl⟩
theorem qX7_readMeasure_56 : Dc mX7_readMeasure 56 (.aload_n 1) 1 57 := ⟨by decide +kernel, rfl⟩
theorem qX7_readMeasure_57 : Dc mX7_readMeasure 57 (.getfield 151) 3 60 := ⟨by decide +kernel, rfl⟩
theorem qX7_readMeasure_60 : Dc mX7_readMeasure 60 (.invokevirtual 70) 3 63 := ⟨by decide +kernel, rfl⟩
theorem qX7_readMeasure_63 : Dc mX7_readMeasure 63 (.ifCond .eq 7) 3 66 := ⟨by decide +kernel, rfl⟩
theorem qX7_readMeasure_66 : Dc mX7_readMeasure 66 (.iconst 1) 1 67 := ⟨by decide +kernel, rfl⟩
theorem qX7_readMeasure_67 : Dc mX7_readMeasure 67 (.goto 4) 3 70 := ⟨by decide +kernel, rfl⟩
theorem qX7_readMeasure_70 : Dc mX7_readMeasure 70 (.iconst 0) 1 71 := ⟨by decide +kernel, rfl⟩
theorem qX7_readMeasure_71 : Dc mX7_readMeasure 71 (.ireturn) 1 72 := ⟨by decide +kernel, rfl⟩

set_option maxRecDepth 20000 in
set_option maxHeartbeats 4000000 in
theorem w_X7_readMeasure {N : Nat} {a0 : Nat} {x2 : Int32} {s0 : St} {r : Int32} {sr : St} (h_a0 : sh a0 = 7) (h : f_X7_readMeasure N a0 x2 s0 = some (r, sr)) : Ct mX7_readMeasure 3 [.ref a0, .ref 1, .int x2] s0 (some (.int r), sr) := by
  refine Ct.ofE (by decide +kernel) rfl ?_
  show E mX7_readMeasure 3 (some (.int r), sr) 0 [some (.ref a0), some (.ref 1), some (.int x2), none] [] s0
  unfold f_X7_readMeasure at h
  refine e_aload_n qX7_readMeasure_0 rfl ?_
  refine e_bipush (nI 60) qX7_readMeasure_1 rfl ?_
  obtain ⟨v1, hc, h⟩ := bp_e h
  refine e_cVi1 qX7_readMeasure_3 mv_X7_84 shq_1 rfl rfl (w_X9_isSign hc) ?_
  refine jn_e (fun j => j = some (r, sr) → E mX7_readMeasure 3 (some (.int r), sr) 33 [some (.ref a0), some (.ref 1), some (.int x2), none] [] s0) h ?_ (fun j2 hj2 h => ?_)
  · intro h
    refine e_aload_n qX7_readMeasure_33 rfl ?_
    refine e_geti qX7_readMeasure_34 fl_X7_144 shq_1 kdq_9_4 h (fun v3 h => ?_)
    refine e_istore_n (lv2 := [some (.ref a0), some (.ref 1), some (.int x2), some (.int v3)]) qX7_readMeasure_37 rfl rfl rfl ?_
    refine e_aload_n qX7_readMeasure_38 rfl ?_
    obtain ⟨s4, hc, h⟩ := bp_e h
    refine e_cVv0 qX7_readMeasure_39 mv_X7_67 shq_1 rfl rfl (w_X9_next hc) ?_
    refine e_aload_n qX7_readMeasure_42 rfl ?_
    refine e_iconst (nI 0) qX7_readMeasure_43 rfl ?_
    refine e_sipush (nI 999) qX7_readMeasure_44 rfl ?_
    obtain ⟨v5, s6, hc, h⟩ := bd_e h
    refine e_cVi2 qX7_readMeasure_47 mv_X7_147 shq_1 rfl rfl (w_X9_takeNumber hc) ?_
    refine jn_e (fun j => ∀ (s7 : St), j s7 = some (r, sr) → E mX7_readMeasure 3 (some (.int r), sr) 70 [none, none, none, none] [] s7) h ?_ (fun j8 hj8 h => ?_)
    · intro s7 h
      refine e_iconst (nI 0) qX7_readMeasure_70 rfl ?_
      exact e_zret qX7_readMeasure_71 rfl (by decide) (ret_i h)
    refine e_if_eq (tgt := 70) qX7_readMeasure_50 rfl h (fun _ h => ?_) (fun _ h => ?_)
    · exact e_weak (hj8 _ h) ⟨Or.inl rfl, Or.inl rfl, Or.inl rfl, Or.inl rfl, trivial⟩
    refine e_aload_n qX7_readMeasure_53 rfl ?_
    refine e_iload_n qX7_readMeasure_54 rfl ?_
    refine e_iload_n qX7_readMeasure_55 rfl ?_
    refine e_aload_n qX7_readMeasure_56 rfl ?_
    refine e_geti qX7_readMeasure_57 fl_X7_151 shq_1 kdq_9_5 h (fun v9 h => ?_)
    obtain ⟨v10, s11, hc, h⟩ := bd_e h
    refine e_cVi3 qX7_readMeasure_60 mv_X7_70 h_a0 rfl rfl (w_X7_add h_a0 hc) ?_
    refine e_if_eq (tgt := 70) qX7_readMeasure_63 rfl h (fun _ h => ?_) (fun _ h => ?_)
    · exact e_weak (hj8 _ h) ⟨Or.inl rfl, Or.inl rfl, Or.inl rfl, Or.inl rfl, trivial⟩
    refine e_iconst (nI 1) qX7_readMeasure_66 rfl ?_
    refine e_goto (tgt := 71) qX7_readMeasure_67 rfl ?_
    exact e_zret qX7_readMeasure_71 rfl (by decide) (ret_i h)
  refine e_if_ne (tgt := 33) qX7_readMeasure_6 rfl h (fun _ h => ?_) (fun _ h => ?_)
  · refine e_aload_n qX7_readMeasure_9 rfl ?_
    refine e_bipush (nI 61) qX7_readMeasure_10 rfl ?_
    obtain ⟨v12, hc, h⟩ := bp_e h
    refine e_cVi1 qX7_readMeasure_12 mv_X7_84 shq_1 rfl rfl (w_X9_isSign hc) ?_
    refine e_if_ne (tgt := 33) qX7_readMeasure_15 rfl h (fun _ h => ?_) (fun _ h => ?_)
    · refine e_aload_n qX7_readMeasure_18 rfl ?_
      refine e_bipush (nI 62) qX7_readMeasure_19 rfl ?_
      obtain ⟨v13, hc, h⟩ := bp_e h
      refine e_cVi1 qX7_readMeasure_21 mv_X7_84 shq_1 rfl rfl (w_X9_isSign hc) ?_
      refine e_if_ne (tgt := 33) qX7_readMeasure_24 rfl h (fun _ h => ?_) (fun _ h => ?_)
      · refine e_aload_n qX7_readMeasure_27 rfl ?_
        refine e_iconst (nI 1) qX7_readMeasure_28 rfl ?_
        obtain ⟨v14, s15, hc, h⟩ := bd_e h
        refine e_cVi1 qX7_readMeasure_29 mv_X7_88 shq_1 rfl rfl (w_X9_refuse hc) ?_
        refine rz_e h (fun hz h => ?_)
        exact e_zret qX7_readMeasure_32 rfl hz (ret_i h)
      exact e_weak (hj2 h) ⟨Or.inr rfl, Or.inr rfl, Or.inr rfl, Or.inl rfl, trivial⟩
    exact e_weak (hj2 h) ⟨Or.inr rfl, Or.inr rfl, Or.inr rfl, Or.inl rfl, trivial⟩
  exact e_weak (hj2 h) ⟨Or.inr rfl, Or.inr rfl, Or.inr rfl, Or.inl rfl, trivial⟩

def f_X7_plainSet (N : Nat) (a0 : Nat) (a1 : Nat) (x2 : Int32) (s0 : St) : Option (Int32) :=
  ald (s0.1 (rr a0 2)) 40 x2 fun v1 =>
  if v1 = nI 3 then
    vl (s0.1 a1 3) fun v2 =>
    some v2
  else
  if v1 = nI 4 then
    bp (f_X6_shiningOnes N a1 s0) fun v3 =>
    some v3
  else
  if v1 = nI 5 then
    bp (f_X1_fixedLights N 3 s0) fun v4 =>
    some v4
  else
  if v1 = nI 6 then
    ald (s0.1 (rr a0 4)) 40 x2 fun v5 =>
    ald (rr 4) 8 v5 fun v6 =>
    vl (s0.1 v6 12) fun v8 =>
    ald (s0.1 (rr a0 4)) 40 x2 fun v9 =>
    some (v8 ||| ((nI 1) <<< (v9 &&& 31)))
  else
  if v1 = nI 7 then
    ald (s0.1 (rr a0 4)) 40 x2 fun v10 =>
    bp (f_X6_seenBy N a1 v10 s0) fun v11 =>
    some v11
  else
  bp (f_X7_measuredSet N a0 a1 x2 s0) fun v12 =>
  some v12

theorem qX7_plainSet_0 : Dc mX7_plainSet 0 (.aload_n 0) 1 1 := ⟨by decide +kernel, rfl⟩
theorem qX7_plainSet_1 : Dc mX7_plainSet 1 (.getfield 11) 3 4 := ⟨by decide +kernel, rfl⟩
theorem qX7_plainSet_4 : Dc mX7_plainSet 4 (.iload_n 2) 1 5 := ⟨by decide +kernel, rfl⟩
theorem qX7_plainSet_5 : Dc mX7_plainSet 5 (.iaload) 1 6 := ⟨by decide +kernel, rfl⟩
theorem qX7_plainSet_6 : Dc mX7_plainSet 6 (.tableswitch 90 3 7 #[34, 39, 44, 52, 79]) 34 40 := ⟨by decide +kernel, rfl⟩
theorem qX7_plainSet_40 : Dc mX7_plainSet 40 (.aload_n 1) 1 41 := ⟨by decide +kernel, rfl⟩
theorem qX7_plainSet_41 : Dc mX7_plainSet 41 (.getfield 168) 3 44 := ⟨by decide +kernel, rfl⟩
theorem qX7_plainSet_44 : Dc mX7_plainSet 44 (.ireturn) 1 45 := ⟨by decide +kernel, rfl⟩
theorem qX7_plainSet_45 : Dc mX7_plainSet 45 (.aload_n 1) 1 46 := ⟨by decide +kernel, rfl⟩
theorem qX7_plainSet_46 : Dc mX7_plainSet 46 (.invokevirtual 171) 3 49 := ⟨by decide +kernel, rfl⟩
theorem qX7_plainSet_49 : Dc mX7_plainSet 49 (.ireturn) 1 50 := ⟨by decide +kernel, rfl⟩
theorem qX7_plainSet_50 : Dc mX7_plainSet 50 (.aload_n 1) 1 51 := ⟨by decide +kernel, rfl⟩
theorem qX7_plainSet_51 : Dc mX7_plainSet 51 (.getfield 154) 3 54 := ⟨by decide +kernel, rfl⟩
theorem qX7_plainSet_54 : Dc mX7_plainSet 54 (.invokevirtual 174) 3 57 := ⟨by decide +kernel, rfl⟩
theorem qX7_plainSet_57 : Dc mX7_plainSet 57 (.ireturn) 1 58 := ⟨by decide +kernel, rfl⟩
theorem qX7_plainSet_58 : Dc mX7_plainSet 58 (.aload_n 1) 1 59 := ⟨by decide +kernel, rfl⟩
theorem qX7_plainSet_59 : Dc mX7_plainSet 59 (.getfield 154) 3 62 := ⟨by decide +kernel, rfl⟩
theorem qX7_plainSet_62 : Dc mX7_plainSet 62 (.getfield 177) 3 65 := ⟨by decide +kernel, rfl⟩
theorem qX7_plainSet_65 : Dc mX7_plainSet 65 (.aload_n 0) 1 66 := ⟨by decide +kernel, rfl⟩
theorem qX7_plainSet_66 : Dc mX7_plainSet 66 (.getfield 18) 3 69 := ⟨by decide +kernel, rfl⟩
theorem qX7_plainSet_69 : Dc mX7_plainSet 69 (.iload_n 2) 1 70 := ⟨by decide +kernel, rfl⟩
theorem qX7_plainSet_70 : Dc mX7_plainSet 70 (.iaload) 1 71 := ⟨by decide +kernel, rfl⟩
theorem qX7_plainSet_71 : Dc mX7_plainSet 71 (.aaload) 1 72 := ⟨by decide +kernel, rfl⟩
theorem qX7_plainSet_72 : Dc mX7_plainSet 72 (.getfield 181) 3 75 := ⟨by decide +kernel, rfl⟩
theorem qX7_plainSet_75 : Dc mX7_plainSet 75 (.iconst 1) 1 76 := ⟨by decide +kernel, rfl⟩
theorem qX7_plainSet_76 : Dc mX7_plainSet 76 (.aload_n 0) 1 77 := ⟨by decide +kernel, rfl⟩
theorem qX7_plainSet_77 : Dc mX7_plainSet 77 (.getfield 18) 3 80 := ⟨by decide +kernel, rfl⟩
theorem qX7_plainSet_80 : Dc mX7_plainSet 80 (.iload_n 2) 1 81 := ⟨by decide +kernel, rfl⟩
theorem qX7_plainSet_81 : Dc mX7_plainSet 81 (.iaload) 1 82 := ⟨by decide +kernel, rfl⟩
theorem qX7_plainSet_82 : Dc mX7_plainSet 82 (.ishl) 1 83 := ⟨by decide +kernel, rfl⟩
theorem qX7_plainSet_83 : Dc mX7_plainSet 83 (.ior) 1 84 := ⟨by decide +kernel, rfl⟩
theorem qX7_plainSet_84 : Dc mX7_plainSet 84 (.ireturn) 1 85 := ⟨by decide +kernel, rfl⟩
theorem qX7_plainSet_85 : Dc mX7_plainSet 85 (.aload_n 1) 1 86 := ⟨by decide +kernel, rfl⟩
theorem qX7_plainSet_86 : Dc mX7_plainSet 86 (.aload_n 0) 1 87 := ⟨by decide +kernel, rfl⟩
theorem qX7_plainSet_87 : Dc mX7_plainSet 87 (.getfield 18) 3 90 := ⟨by decide +kernel, rfl⟩
theorem qX7_plainSet_90 : Dc mX7_plainSet 90 (.iload_n 2) 1 91 := ⟨by decide +kernel, rfl⟩
theorem qX7_plainSet_91 : Dc mX7_plainSet 91 (.iaload) 1 92 := ⟨by decide +kernel, rfl⟩
theorem qX7_plainSet_92 : Dc mX7_plainSet 92 (.invokevirtual 186) 3 95 := ⟨by decide +kernel, rfl⟩
theorem qX7_plainSet_95 : Dc mX7_plainSet 95 (.ireturn) 1 96 := ⟨by decide +kernel, rfl⟩
theorem qX7_plainSet_96 : Dc mX7_plainSet 96 (.aload_n 0) 1 97 := ⟨by decide +kernel, rfl⟩
theorem qX7_plainSet_97 : Dc mX7_plainSet 97 (.aload_n 1) 1 98 := ⟨by decide +kernel, rfl⟩
theorem qX7_plainSet_98 : Dc mX7_plainSet 98 (.iload_n 2) 1 99 := ⟨by decide +kernel, rfl⟩
theorem qX7_plainSet_99 : Dc mX7_plainSet 99 (.invokevirtual 190) 3 102 := ⟨by decide +kernel, rfl⟩
theorem qX7_plainSet_102 : Dc mX7_plainSet 102 (.ireturn) 1 103 := ⟨by decide +kernel, rfl⟩

set_option maxRecDepth 20000 in
set_option maxHeartbeats 4000000 in
theorem w_X7_plainSet {N : Nat} {a0 : Nat} {a1 : Nat} {x2 : Int32} {s0 : St} {r : Int32} (h_a0 : sh a0 = 7) (h_a1 : sh a1 = 6) (h : f_X7_plainSet N a0 a1 x2 s0 = some r) : Ct mX7_plainSet 5 [.ref a0, .ref a1, .int x2] s0 (some (.int r), s0) := by
  refine Ct.ofE (by decide +kernel) rfl ?_
  show E mX7_plainSet 5 (some (.int r), s0) 0 [some (.ref a0), some (.ref a1), some (.int x2)] [] s0
  unfold f_X7_plainSet at h
  refine e_aload_n qX7_plainSet_0 rfl ?_
  refine e_getr (rr a0 2) qX7_plainSet_1 fl_X7_11 h_a0 kdq_7_2 rfl ?_
  refine e_iload_n qX7_plainSet_4 rfl ?_
  refine e_iald qX7_plainSet_5 (wt_7_2 _ h_a0).1 (wt_7_2 _ h_a0).2 h (fun v1 h => ?_)
  refine e_ite h (fun hx h => ?_) (fun hx0 h => ?_)
  · refine e_tswk (tgt := 40) qX7_plainSet_6 hx (by decide) (by decide) (by decide) rfl rfl ?_
    refine e_aload_n qX7_plainSet_40 rfl ?_
    refine e_geti qX7_plainSet_41 fl_X7_168 h_a1 kdq_6_3 h (fun v2 h => ?_)
    exact e_iret qX7_plainSet_44 rfl (ret_p h)
  refine e_ite h (fun hx h => ?_) (fun hx1 h => ?_)
  · refine e_tswk (tgt := 45) qX7_plainSet_6 hx (by decide) (by decide) (by decide) rfl rfl ?_
    refine e_aload_n qX7_plainSet_45 rfl ?_
    obtain ⟨v3, hc, h⟩ := bp_e h
    refine e_cVi0 qX7_plainSet_46 mv_X7_171 h_a1 rfl rfl (w_X6_shiningOnes h_a1 hc) ?_
    exact e_iret qX7_plainSet_49 rfl (ret_p h)
  refine e_ite h (fun hx h => ?_) (fun hx2 h => ?_)
  · refine e_tswk (tgt := 50) qX7_plainSet_6 hx (by decide) (by decide) (by decide) rfl rfl ?_
    refine e_aload_n qX7_plainSet_50 rfl ?_
    refine e_getr 3 qX7_plainSet_51 fl_X7_154 h_a1 kdq_6_0 (wq_6_0 _ h_a1) ?_
    obtain ⟨v4, hc, h⟩ := bp_e h
    refine e_cVi0 qX7_plainSet_54 mv_X7_174 shq_3 rfl rfl (w_X1_fixedLights shq_3 hc) ?_
    exact e_iret qX7_plainSet_57 rfl (ret_p h)
  refine e_ite h (fun hx h => ?_) (fun hx3 h => ?_)
  · refine e_tswk (tgt := 58) qX7_plainSet_6 hx (by decide) (by decide) (by decide) rfl rfl ?_
    refine e_aload_n qX7_plainSet_58 rfl ?_
    refine e_getr 3 qX7_plainSet_59 fl_X7_154 h_a1 kdq_6_0 (wq_6_0 _ h_a1) ?_
    refine e_getr 4 qX7_plainSet_62 fl_X7_177 shq_3 kdq_1_0 rrq_3_0 ?_
    refine e_aload_n qX7_plainSet_65 rfl ?_
    refine e_getr (rr a0 4) qX7_plainSet_66 fl_X7_18 h_a0 kdq_7_4 rfl ?_
    refine e_iload_n qX7_plainSet_69 rfl ?_
    refine e_iald qX7_plainSet_70 (wt_7_4 _ h_a0).1 (wt_7_4 _ h_a0).2 h (fun v5 h => ?_)
    refine e_rald24 qX7_plainSet_71 shq_4 lnq_4 h (fun i7 hi7 h => ?_)
    refine e_geti qX7_plainSet_72 fl_X7_181 (we_24 _ shq_4 _ hi7) kdq_4_12 h (fun v8 h => ?_)
    refine e_iconst (nI 1) qX7_plainSet_75 rfl ?_
    refine e_aload_n qX7_plainSet_76 rfl ?_
    refine e_getr (rr a0 4) qX7_plainSet_77 fl_X7_18 h_a0 kdq_7_4 rfl ?_
    refine e_iload_n qX7_plainSet_80 rfl ?_
    refine e_iald qX7_plainSet_81 (wt_7_4 _ h_a0).1 (wt_7_4 _ h_a0).2 h (fun v9 h => ?_)
    refine e_ishl qX7_plainSet_82 ?_
    refine e_ior qX7_plainSet_83 ?_
    exact e_iret qX7_plainSet_84 rfl (ret_p h)
  refine e_ite h (fun hx h => ?_) (fun hx4 h => ?_)
  · refine e_tswk (tgt := 85) qX7_plainSet_6 hx (by decide) (by decide) (by decide) rfl rfl ?_
    refine e_aload_n qX7_plainSet_85 rfl ?_
    refine e_aload_n qX7_plainSet_86 rfl ?_
    refine e_getr (rr a0 4) qX7_plainSet_87 fl_X7_18 h_a0 kdq_7_4 rfl ?_
    refine e_iload_n qX7_plainSet_90 rfl ?_
    refine e_iald qX7_plainSet_91 (wt_7_4 _ h_a0).1 (wt_7_4 _ h_a0).2 h (fun v10 h => ?_)
    obtain ⟨v11, hc, h⟩ := bp_e h
    refine e_cVi1 qX7_plainSet_92 mv_X7_186 h_a1 rfl rfl (w_X6_seenBy h_a1 hc) ?_
    exact e_iret qX7_plainSet_95 rfl (ret_p h)
  refine e_tswo (tgt := 96) qX7_plainSet_6 (tsw_def (lo := 3) (n := 5) (by decide) (lt_s (lt_s (lt_s (lt_s (lt_s lt_0 hx0) hx1) hx2) hx3) hx4)) rfl ?_
  refine e_aload_n qX7_plainSet_96 rfl ?_
  refine e_aload_n qX7_plainSet_97 rfl ?_
  refine e_iload_n qX7_plainSet_98 rfl ?_
  obtain ⟨v12, hc, h⟩ := bp_e h
  refine e_cVi2 qX7_plainSet_99 mv_X7_190 h_a0 rfl rfl (w_X7_measuredSet h_a0 h_a1 hc) ?_
  exact e_iret qX7_plainSet_102 rfl (ret_p h)

def f_X9_open (N : Nat) (x1 : Int32) (s0 : St) : Option (St) :=
  vl (s0.1 1 1) fun v1 =>
  vl (mn v1 x1) fun v2 =>
  vl (sI s0 1 10 v2) fun s3 =>
  vl (s3.1 1 1) fun v4 =>
  jn (fun (v5 : Int32) =>
    rz v5 <|
    vl (sI s3 1 11 v5) fun s7 =>
    vl (sI s7 1 9 (nI 0)) fun s8 =>
    vl (sI s8 1 6 (nI 0)) fun s9 =>
    vl (sI s9 1 7 (nI 0)) fun s10 =>
    bp (f_X9_next N s10) fun s11 =>
    some s11) fun j6 =>
  if v4 ≤ x1 then
    j6 (nI 0)
  else
  j6 (nI 1)

theorem qX9_open_0 : Dc mX9_open 0 (.aload_n 0) 1 1 := ⟨by decide +kernel, rfl⟩
theorem qX9_open_1 : Dc mX9_open 1 (.aload_n 0) 1 2 := ⟨by decide +kernel, rfl⟩
theorem qX9_open_2 : Dc mX9_open 2 (.getfield 15) 3 5 := ⟨by decide +kernel, rfl⟩
theorem qX9_open_5 : Dc mX9_open 5 (.iload_n 1) 1 6 := ⟨by decide +kernel, rfl⟩
theorem qX9_open_6 : Dc mX9_open 6 (.invokestatic 19) 3 9 := ⟨by decide +kernel, rfl⟩
theorem qX9_open_9 : Dc mX9_open 9 (.putfield 25) 3 12 := ⟨by decide +kernel, rfl⟩
theorem qX9_open_12 : Dc mX9_open 12 (.aload_n 0) 1 13 := ⟨by decide +kernel, rfl⟩
theorem qX9_open_13 : Dc mX9_open 13 (.aload_n 0) 1 14 := ⟨by decide +kernel, rfl⟩
theorem qX9_open_14 : Dc mX9_open 14 (.getfield 15) 3 17 := ⟨by decide +kernel, rfl⟩
theorem qX9_open_17 : Dc mX9_open 17 (.iload_n 1) 1 18 := ⟨by decide +kernel, rfl⟩
theorem qX9_open_18 : Dc mX9_open 18 (.if_icmp .le 7) 3 21 := ⟨by decide +kernel, rfl⟩
theorem qX9_open_21 : Dc mX9_open 21 (.iconst 1) 1 22 := ⟨by decide +kernel, rfl⟩
theorem qX9_open_22 : Dc mX9_open 22 (.goto 4) 3 25 := ⟨by decide +kernel, rfl⟩
theorem qX9_open_25 : Dc mX9_open 25 (.iconst 0) 1 26 := ⟨by decide +kernel, rfl⟩
theorem qX9_open_26 : Dc mX9_open 26 (.putfield 28) 3 29 := ⟨by decide +kernel, rfl⟩
theorem qX9_open_29 : Dc mX9_open 29 (.aload_n 0) 1 30 := ⟨by decide +kernel, rfl⟩
theorem qX9_open_30 : Dc mX9_open 30 (.iconst 0) 1 31 := ⟨by decide +kernel, rfl⟩
theorem qX9_open_31 : Dc mX9_open 31 (.putfield 32) 3 34 := ⟨by decide +kernel, rfl⟩
theorem qX9_open_34 : Dc mX9_open 34 (.aload_n 0) 1 35 := ⟨by decide +kernel, rfl⟩
theorem qX9_open_35 : Dc mX9_open 35 (.iconst 0) 1 36 := ⟨by decide +kernel, rfl⟩
theorem qX9_open_36 : Dc mX9_open 36 (.putfield 35) 3 39 := ⟨by decide +kernel, rfl⟩
theorem qX9_open_39 : Dc mX9_open 39 (.aload_n 0) 1 40 := ⟨by decide +kernel, rfl⟩
theorem qX9_open_40 : Dc mX9_open 40 (.iconst 0) 1 41 := ⟨by decide +kernel, rfl⟩
theorem qX9_open_41 : Dc mX9_open 41 (.putfield 38) 3 44 := ⟨by decide +kernel, rfl⟩
theorem qX9_open_44 : Dc mX9_open 44 (.aload_n 0) 1 45 := ⟨by decide +kernel, rfl⟩
theorem qX9_open_45 : Dc mX9_open 45 (.invokevirtual 41) 3 48 := ⟨by decide +kernel, rfl⟩
theorem qX9_open_48 : Dc mX9_open 48 (.return_) 1 49 := ⟨by decide +kernel, rfl⟩

set_option maxRecDepth 20000 in
set_option maxHeartbeats 4000000 in
theorem w_X9_open {N : Nat} {x1 : Int32} {s0 : St} {sr : St} (h : f_X9_open N x1 s0 = some sr) : Ct mX9_open 2 [.ref 1, .int x1] s0 (none, sr) := by
  refine Ct.ofE (by decide +kernel) rfl ?_
  show E mX9_open 2 (none, sr) 0 [some (.ref 1), some (.int x1)] [] s0
  unfold f_X9_open at h
  refine e_aload_n qX9_open_0 rfl ?_
  refine e_aload_n qX9_open_1 rfl ?_
  refine e_geti qX9_open_2 fl_X9_15 shq_1 kdq_9_1 h (fun v1 h => ?_)
  refine e_iload_n qX9_open_5 rfl ?_
  refine e_mmin qX9_open_6 cm_X9_19 (by decide) rfl h (fun v2 h => ?_)
  refine e_puti qX9_open_9 fp_X9_25 shq_1 kdq_9_10 h (fun s3 h => ?_)
  refine e_aload_n qX9_open_12 rfl ?_
  refine e_aload_n qX9_open_13 rfl ?_
  refine e_geti qX9_open_14 fl_X9_15 shq_1 kdq_9_1 h (fun v4 h => ?_)
  refine e_iload_n qX9_open_17 rfl ?_
  refine jn_e (fun j => ∀ (v5 : Int32), j v5 = some sr → E mX9_open 2 (none, sr) 26 [some (.ref 1), none] [.int v5, .ref 1] s3) h ?_ (fun j6 hj6 h => ?_)
  · intro v5 h
    refine rz_e h (fun hz h => ?_)
    refine e_putz qX9_open_26 fp_X9_28 shq_1 kdq_9_11 hz h (fun s7 h => ?_)
    refine e_aload_n qX9_open_29 rfl ?_
    refine e_iconst (nI 0) qX9_open_30 rfl ?_
    refine e_puti qX9_open_31 fp_X9_32 shq_1 kdq_9_9 h (fun s8 h => ?_)
    refine e_aload_n qX9_open_34 rfl ?_
    refine e_iconst (nI 0) qX9_open_35 rfl ?_
    refine e_puti qX9_open_36 fp_X9_35 shq_1 kdq_9_6 h (fun s9 h => ?_)
    refine e_aload_n qX9_open_39 rfl ?_
    refine e_iconst (nI 0) qX9_open_40 rfl ?_
    refine e_puti qX9_open_41 fp_X9_38 shq_1 kdq_9_7 h (fun s10 h => ?_)
    refine e_aload_n qX9_open_44 rfl ?_
    obtain ⟨s11, hc, h⟩ := bp_e h
    refine e_cVv0 qX9_open_45 mv_X9_41 shq_1 rfl rfl (w_X9_next hc) ?_
    exact e_vret qX9_open_48 rfl (ret_v h)
  refine e_icmp_le (tgt := 25) qX9_open_18 rfl h (fun _ h => ?_) (fun _ h => ?_)
  · refine e_iconst (nI 0) qX9_open_25 rfl ?_
    exact e_weak (hj6 _ h) ⟨Or.inr rfl, Or.inl rfl, trivial⟩
  refine e_iconst (nI 1) qX9_open_21 rfl ?_
  refine e_goto (tgt := 26) qX9_open_22 rfl ?_
  exact e_weak (hj6 _ h) ⟨Or.inr rfl, Or.inl rfl, trivial⟩

def f_X9_leastFit_L2 (N : Nat) (c1 : Nat) (s0 : St) : Nat → Int32 → Option (Int32)
  | 0, _ => none
  | n3 + 1, v2 =>
    vl (s0.1 c1 10) fun v5 =>
    if v5 ≤ v2 then
      some (-1)
    else
    bp (f_X9_fitsFrom N c1 v2 s0) fun v6 =>
    if v6 = 0 then
      vl (v2 + (nI 1)) fun v7 =>
      f_X9_leastFit_L2 N c1 s0 n3 v7
    else
    some v2

def f_X9_leastFit (N : Nat) (a1 : Nat) (s0 : St) : Option (Int32) :=
  f_X9_leastFit_L2 N a1 s0 N (nI 0)

theorem qX9_leastFit_0 : Dc mX9_leastFit 0 (.iconst 0) 1 1 := ⟨by decide +kernel, rfl⟩
theorem qX9_leastFit_1 : Dc mX9_leastFit 1 (.istore_n 2) 1 2 := ⟨by decide +kernel, rfl⟩
theorem qX9_leastFit_2 : Dc mX9_leastFit 2 (.iload_n 2) 1 3 := ⟨by decide +kernel, rfl⟩
theorem qX9_leastFit_3 : Dc mX9_leastFit 3 (.aload_n 1) 1 4 := ⟨by decide +kernel, rfl⟩
theorem qX9_leastFit_4 : Dc mX9_leastFit 4 (.getfield 85) 3 7 := ⟨by decide +kernel, rfl⟩
theorem qX9_leastFit_7 : Dc mX9_leastFit 7 (.if_icmp .ge 20) 3 10 := ⟨by decide +kernel, rfl⟩
theorem qX9_leastFit_10 : Dc mX9_leastFit 10 (.aload_n 0) 1 11 := ⟨by decide +kernel, rfl⟩
theorem qX9_leastFit_11 : Dc mX9_leastFit 11 (.aload_n 1) 1 12 := ⟨by decide +kernel, rfl⟩
theorem qX9_leastFit_12 : Dc mX9_leastFit 12 (.iload_n 2) 1 13 := ⟨by decide +kernel, rfl⟩
theorem qX9_leastFit_13 : Dc mX9_leastFit 13 (.invokevirtual 90) 3 16 := ⟨by decide +kernel, rfl⟩
theorem qX9_leastFit_16 : Dc mX9_leastFit 16 (.ifCond .eq 5) 3 19 := ⟨by decide +kernel, rfl⟩
theorem qX9_leastFit_19 : Dc mX9_leastFit 19 (.iload_n 2) 1 20 := ⟨by decide +kernel, rfl⟩
theorem qX9_leastFit_20 : Dc mX9_leastFit 20 (.ireturn) 1 21 := ⟨by decide +kernel, rfl⟩
theorem qX9_leastFit_21 : Dc mX9_leastFit 21 (.iinc 2 1) 3 24 := ⟨by decide +kernel, rfl⟩
theorem qX9_leastFit_24 : Dc mX9_leastFit 24 (.goto (-22)) 3 27 := ⟨by decide +kernel, rfl⟩
theorem qX9_leastFit_27 : Dc mX9_leastFit 27 (.iconst (-1)) 1 28 := ⟨by decide +kernel, rfl⟩
theorem qX9_leastFit_28 : Dc mX9_leastFit 28 (.ireturn) 1 29 := ⟨by decide +kernel, rfl⟩

set_option maxRecDepth 20000 in
set_option maxHeartbeats 4000000 in
theorem w_X9_leastFit_L2 {N : Nat} {c1 : Nat} {s0 : St}  {r : Int32} (h_c1 : sh c1 = 4)  : ∀ (n3 : Nat) (v2 : Int32), f_X9_leastFit_L2 N c1 s0 n3 v2 = some r → E mX9_leastFit 3 (some (.int r), s0) 2 [some (.ref 1), some (.ref c1), some (.int v2)] [] s0 := by
  intro n3
  induction n3 with
  | zero =>
    intro v2 h
    rw [f_X9_leastFit_L2] at h; cases h
  | succ n3 ih4 =>
    intro v2 h
    rw [f_X9_leastFit_L2] at h
    refine e_iload_n qX9_leastFit_2 rfl ?_
    refine e_aload_n qX9_leastFit_3 rfl ?_
    refine e_geti qX9_leastFit_4 fl_X9_85 h_c1 kdq_4_10 h (fun v5 h => ?_)
    refine e_icmp_ge (tgt := 27) qX9_leastFit_7 rfl h (fun _ h => ?_) (fun _ h => ?_)
    · refine e_iconst (-1) qX9_leastFit_27 rfl ?_
      exact e_iret qX9_leastFit_28 rfl (ret_p h)
    refine e_aload_n qX9_leastFit_10 rfl ?_
    refine e_aload_n qX9_leastFit_11 rfl ?_
    refine e_iload_n qX9_leastFit_12 rfl ?_
    obtain ⟨v6, hc, h⟩ := bp_e h
    refine e_cVi2 qX9_leastFit_13 mv_X9_90 shq_1 rfl rfl (w_X9_fitsFrom h_c1 hc) ?_
    refine e_if_eq (tgt := 21) qX9_leastFit_16 rfl h (fun _ h => ?_) (fun _ h => ?_)
    · refine vl_e h (fun h => ?_)
      obtain ⟨v7, ev7⟩ : ∃ y, v2 + (nI 1) = y := ⟨_, rfl⟩
      rw [ev7] at h
      refine e_iinc (nI 1) v7 (lv2 := [some (.ref 1), some (.ref c1), some (.int v7)]) qX9_leastFit_21 rfl rfl rfl ev7 rfl ?_
      refine e_goto (tgt := 2) qX9_leastFit_24 rfl ?_
      exact e_weak (ih4 _ h) ⟨Or.inr rfl, Or.inr rfl, Or.inr rfl, trivial⟩
    refine e_iload_n qX9_leastFit_19 rfl ?_
    exact e_iret qX9_leastFit_20 rfl (ret_p h)

set_option maxRecDepth 20000 in
set_option maxHeartbeats 4000000 in
theorem w_X9_leastFit {N : Nat} {a1 : Nat} {s0 : St} {r : Int32} (h_a1 : sh a1 = 4) (h : f_X9_leastFit N a1 s0 = some r) : Ct mX9_leastFit 3 [.ref 1, .ref a1] s0 (some (.int r), s0) := by
  refine Ct.ofE (by decide +kernel) rfl ?_
  show E mX9_leastFit 3 (some (.int r), s0) 0 [some (.ref 1), some (.ref a1), none] [] s0
  unfold f_X9_leastFit at h
  refine e_iconst (nI 0) qX9_leastFit_0 rfl ?_
  refine e_istore_n (lv2 := [some (.ref 1), some (.ref a1), some (.int (nI 0))]) qX9_leastFit_1 rfl rfl rfl ?_
  exact e_weak (w_X9_leastFit_L2 h_a1  _ _ h) ⟨Or.inr rfl, Or.inr rfl, Or.inr rfl, trivial⟩

def f_X11_waits_L23 (N : Nat) (c3 : Int32) : Nat → Int32 → St → Option (Int32 × St)
  | 0, _, _ => none
  | n6 + 1, v4, s5 =>
    if (nI 600) < v4 then
      some ((-1), s5)
    else
    bp (f_X6_seenBy N 55 c3 s5) fun v8 =>
    if v8 = 0 then
      bp (f_X6_passOne N 55 s5) fun s9 =>
      vl (v4 + (nI 1)) fun v10 =>
      f_X11_waits_L23 N c3 n6 v10 s9
    else
    some (v4, s5)

def f_X11_waits (N : Nat) (x1 : Int32) (s0 : St) : Option (Int32 × St) :=
  bp (f_X11_isShip x1 s0) fun v1 =>
  if v1 = 0 then
    some ((-1), s0)
  else
  bp (f_X6_copyFrom 55 49 s0) fun s2 =>
  f_X11_waits_L23 N x1 N (nI 0) s2

theorem qX11_waits_0 : Dc mX11_waits 0 (.aload_n 0) 1 1 := ⟨by decide +kernel, rfl⟩
theorem qX11_waits_1 : Dc mX11_waits 1 (.iload_n 1) 1 2 := ⟨by decide +kernel, rfl⟩
theorem qX11_waits_2 : Dc mX11_waits 2 (.invokevirtual 186) 3 5 := ⟨by decide +kernel, rfl⟩
theorem qX11_waits_5 : Dc mX11_waits 5 (.ifCond .ne 5) 3 8 := ⟨by decide +kernel, rfl⟩
theorem qX11_waits_8 : Dc mX11_waits 8 (.iconst (-1)) 1 9 := ⟨by decide +kernel, rfl⟩
theorem qX11_waits_9 : Dc mX11_waits 9 (.ireturn) 1 10 := ⟨by decide +kernel, rfl⟩
theorem qX11_waits_10 : Dc mX11_waits 10 (.aload_n 0) 1 11 := ⟨by decide +kernel, rfl⟩
theorem qX11_waits_11 : Dc mX11_waits 11 (.getfield 35) 3 14 := ⟨by decide +kernel, rfl⟩
theorem qX11_waits_14 : Dc mX11_waits 14 (.aload_n 0) 1 15 := ⟨by decide +kernel, rfl⟩
theorem qX11_waits_15 : Dc mX11_waits 15 (.getfield 31) 3 18 := ⟨by decide +kernel, rfl⟩
theorem qX11_waits_18 : Dc mX11_waits 18 (.invokevirtual 320) 3 21 := ⟨by decide +kernel, rfl⟩
theorem qX11_waits_21 : Dc mX11_waits 21 (.iconst 0) 1 22 := ⟨by decide +kernel, rfl⟩
theorem qX11_waits_22 : Dc mX11_waits 22 (.istore_n 2) 1 23 := ⟨by decide +kernel, rfl⟩
theorem qX11_waits_23 : Dc mX11_waits 23 (.iload_n 2) 1 24 := ⟨by decide +kernel, rfl⟩
theorem qX11_waits_24 : Dc mX11_waits 24 (.sipush 600) 3 27 := ⟨by decide +kernel, rfl⟩
theorem qX11_waits_27 : Dc mX11_waits 27 (.if_icmp .gt 29) 3 30 := ⟨by decide +kernel, rfl⟩
theorem qX11_waits_30 : Dc mX11_waits 30 (.aload_n 0) 1 31 := ⟨by decide +kernel, rfl⟩
theorem qX11_waits_31 : Dc mX11_waits 31 (.getfield 35) 3 34 := ⟨by decide +kernel, rfl⟩
theorem qX11_waits_34 : Dc mX11_waits 34 (.iload_n 1) 1 35 := ⟨by decide +kernel, rfl⟩
theorem qX11_waits_35 : Dc mX11_waits 35 (.invokevirtual 211) 3 38 := ⟨by decide +kernel, rfl⟩
theorem qX11_waits_38 : Dc mX11_waits 38 (.ifCond .eq 5) 3 41 := ⟨by decide +kernel, rfl⟩
theorem qX11_waits_41 : Dc mX11_waits 41 (.iload_n 2) 1 42 := ⟨by decide +kernel, rfl⟩
theorem qX11_waits_42 : Dc mX11_waits 42 (.ireturn) 1 43 := ⟨by decide +kernel, rfl⟩
theorem qX11_waits_43 : Dc mX11_waits 43 (.aload_n 0) 1 44 := ⟨by decide +kernel, rfl⟩
theorem qX11_waits_44 : Dc mX11_waits 44 (.getfield 35) 3 47 := ⟨by decide +kernel, rfl⟩
theorem qX11_waits_47 : Dc mX11_waits 47 (.invokevirtual 322) 3 50 := ⟨by decide +kernel, rfl⟩
theorem qX11_waits_50 : Dc mX11_waits 50 (.iinc 2 1) 3 53 := ⟨by decide +kernel, rfl⟩
theorem qX11_waits_53 : Dc mX11_waits 53 (.goto (-30)) 3 56 := ⟨by decide +kernel, rfl⟩
theorem qX11_waits_56 : Dc mX11_waits 56 (.iconst (-1)) 1 57 := ⟨by decide +kernel, rfl⟩
theorem qX11_waits_57 : Dc mX11_waits 57 (.ireturn) 1 58 := ⟨by decide +kernel, rfl⟩

set_option maxRecDepth 20000 in
set_option maxHeartbeats 4000000 in
theorem w_X11_waits_L23 {N : Nat} {c3 : Int32}  {r : Int32} {sr : St}   : ∀ (n6 : Nat) (v4 : Int32) (s5 : St), f_X11_waits_L23 N c3 n6 v4 s5 = some (r, sr) → E mX11_waits 5 (some (.int r), sr) 23 [some (.ref 0), some (.int c3), some (.int v4)] [] s5 := by
  intro n6
  induction n6 with
  | zero =>
    intro v4 s5 h
    rw [f_X11_waits_L23] at h; cases h
  | succ n6 ih7 =>
    intro v4 s5 h
    rw [f_X11_waits_L23] at h
    refine e_iload_n qX11_waits_23 rfl ?_
    refine e_sipush (nI 600) qX11_waits_24 rfl ?_
    refine e_icmp_gt (tgt := 56) qX11_waits_27 rfl h (fun _ h => ?_) (fun _ h => ?_)
    · refine e_iconst (-1) qX11_waits_56 rfl ?_
      exact e_iret qX11_waits_57 rfl (ret_i h)
    refine e_aload_n qX11_waits_30 rfl ?_
    refine e_getr 55 qX11_waits_31 fl_X11_35 shq_0 kdq_10_4 rrq_0_4 ?_
    refine e_iload_n qX11_waits_34 rfl ?_
    obtain ⟨v8, hc, h⟩ := bp_e h
    refine e_cVi1 qX11_waits_35 mv_X11_211 shq_55 rfl rfl (w_X6_seenBy shq_55 hc) ?_
    refine e_if_eq (tgt := 43) qX11_waits_38 rfl h (fun _ h => ?_) (fun _ h => ?_)
    · refine e_aload_n qX11_waits_43 rfl ?_
      refine e_getr 55 qX11_waits_44 fl_X11_35 shq_0 kdq_10_4 rrq_0_4 ?_
      obtain ⟨s9, hc, h⟩ := bp_e h
      refine e_cVv0 qX11_waits_47 mv_X11_322 shq_55 rfl rfl (w_X6_passOne shq_55 hc) ?_
      refine vl_e h (fun h => ?_)
      obtain ⟨v10, ev10⟩ : ∃ y, v4 + (nI 1) = y := ⟨_, rfl⟩
      rw [ev10] at h
      refine e_iinc (nI 1) v10 (lv2 := [some (.ref 0), some (.int c3), some (.int v10)]) qX11_waits_50 rfl rfl rfl ev10 rfl ?_
      refine e_goto (tgt := 23) qX11_waits_53 rfl ?_
      exact e_weak (ih7 _ _ h) ⟨Or.inr rfl, Or.inr rfl, Or.inr rfl, trivial⟩
    refine e_iload_n qX11_waits_41 rfl ?_
    exact e_iret qX11_waits_42 rfl (ret_i h)

set_option maxRecDepth 20000 in
set_option maxHeartbeats 4000000 in
theorem w_X11_waits {N : Nat} {x1 : Int32} {s0 : St} {r : Int32} {sr : St} (h : f_X11_waits N x1 s0 = some (r, sr)) : Ct mX11_waits 5 [.ref 0, .int x1] s0 (some (.int r), sr) := by
  refine Ct.ofE (by decide +kernel) rfl ?_
  show E mX11_waits 5 (some (.int r), sr) 0 [some (.ref 0), some (.int x1), none] [] s0
  unfold f_X11_waits at h
  refine e_aload_n qX11_waits_0 rfl ?_
  refine e_iload_n qX11_waits_1 rfl ?_
  obtain ⟨v1, hc, h⟩ := bp_e h
  refine e_cVi1 qX11_waits_2 mv_X11_186 shq_0 rfl rfl (w_X11_isShip hc) ?_
  refine e_if_ne (tgt := 10) qX11_waits_5 rfl h (fun _ h => ?_) (fun _ h => ?_)
  · refine e_iconst (-1) qX11_waits_8 rfl ?_
    exact e_iret qX11_waits_9 rfl (ret_i h)
  refine e_aload_n qX11_waits_10 rfl ?_
  refine e_getr 55 qX11_waits_11 fl_X11_35 shq_0 kdq_10_4 rrq_0_4 ?_
  refine e_aload_n qX11_waits_14 rfl ?_
  refine e_getr 49 qX11_waits_15 fl_X11_31 shq_0 kdq_10_3 rrq_0_3 ?_
  obtain ⟨s2, hc, h⟩ := bp_e h
  refine e_cVv1 qX11_waits_18 mv_X11_320 shq_55 rfl rfl (w_X6_copyFrom shq_55 shq_49 hc) ?_
  refine e_iconst (nI 0) qX11_waits_21 rfl ?_
  refine e_istore_n (lv2 := [some (.ref 0), some (.int x1), some (.int (nI 0))]) qX11_waits_22 rfl rfl rfl ?_
  exact e_weak (w_X11_waits_L23  _ _ _ h) ⟨Or.inr rfl, Or.inr rfl, Or.inr rfl, trivial⟩

def f_X11_fittingLights_L4 (N : Nat) (s0 : St) : Nat → Int32 → Int32 → Option (Int32)
  | 0, _, _ => none
  | n3 + 1, v1, v2 =>
    vl (s0.1 3 2) fun v5 =>
    if v5 ≤ v2 then
      some v1
    else
    ald (rr 4) 8 v2 fun v6 =>
    bp (f_X9_leastFit N v6 s0) fun v8 =>
    jn (fun (v9 : Int32) =>
      vl (v2 + (nI 1)) fun v11 =>
      f_X11_fittingLights_L4 N s0 n3 v9 v11) fun j10 =>
    if v8 = (-1) then
      j10 v1
    else
    vl (v1 ||| ((nI 1) <<< (v2 &&& 31))) fun v12 =>
    j10 v12

def f_X11_fittingLights (N : Nat)  (s0 : St) : Option (Int32) :=
  f_X11_fittingLights_L4 N s0 N (nI 0) (nI 0)

theorem qX11_fittingLights_0 : Dc mX11_fittingLights 0 (.iconst 0) 1 1 := ⟨by decide +kernel, rfl⟩
theorem qX11_fittingLights_1 : Dc mX11_fittingLights 1 (.istore_n 1) 1 2 := ⟨by decide +kernel, rfl⟩
theorem qX11_fittingLights_2 : Dc mX11_fittingLights 2 (.iconst 0) 1 3 := ⟨by decide +kernel, rfl⟩
theorem qX11_fittingLights_3 : Dc mX11_fittingLights 3 (.istore_n 2) 1 4 := ⟨by decide +kernel, rfl⟩
theorem qX11_fittingLights_4 : Dc mX11_fittingLights 4 (.iload_n 2) 1 5 := ⟨by decide +kernel, rfl⟩
theorem qX11_fittingLights_5 : Dc mX11_fittingLights 5 (.aload_n 0) 1 6 := ⟨by decide +kernel, rfl⟩
theorem qX11_fittingLights_6 : Dc mX11_fittingLights 6 (.getfield 19) 3 9 := ⟨by decide +kernel, rfl⟩
theorem qX11_fittingLights_9 : Dc mX11_fittingLights 9 (.getfield 314) 3 12 := ⟨by decide +kernel, rfl⟩
theorem qX11_fittingLights_12 : Dc mX11_fittingLights 12 (.if_icmp .ge 35) 3 15 := ⟨by decide +kernel, rfl⟩
theorem qX11_fittingLights_15 : Dc mX11_fittingLights 15 (.aload_n 0) 1 16 := ⟨by decide +kernel, rfl⟩
theorem qX11_fittingLights_16 : Dc mX11_fittingLights 16 (.getfield 12) 3 19 := ⟨by decide +kernel, rfl⟩
theorem qX11_fittingLights_19 : Dc mX11_fittingLights 19 (.aload_n 0) 1 20 := ⟨by decide +kernel, rfl⟩
theorem qX11_fittingLights_20 : Dc mX11_fittingLights 20 (.getfield 19) 3 23 := ⟨by decide +kernel, rfl⟩
theorem qX11_fittingLights_23 : Dc mX11_fittingLights 23 (.getfield 142) 3 26 := ⟨by decide +kernel, rfl⟩
theorem qX11_fittingLights_26 : Dc mX11_fittingLights 26 (.iload_n 2) 1 27 := ⟨by decide +kernel, rfl⟩
theorem qX11_fittingLights_27 : Dc mX11_fittingLights 27 (.aaload) 1 28 := ⟨by decide +kernel, rfl⟩
theorem qX11_fittingLights_28 : Dc mX11_fittingLights 28 (.invokevirtual 399) 3 31 := ⟨by decide +kernel, rfl⟩
theorem qX11_fittingLights_31 : Dc mX11_fittingLights 31 (.iconst (-1)) 1 32 := ⟨by decide +kernel, rfl⟩
theorem qX11_fittingLights_32 : Dc mX11_fittingLights 32 (.if_icmp .eq 9) 3 35 := ⟨by decide +kernel, rfl⟩
theorem qX11_fittingLights_35 : Dc mX11_fittingLights 35 (.iload_n 1) 1 36 := ⟨by decide +kernel, rfl⟩
theorem qX11_fittingLights_36 : Dc mX11_fittingLights 36 (.iconst 1) 1 37 := ⟨by decide +kernel, rfl⟩
theorem qX11_fittingLights_37 : Dc mX11_fittingLights 37 (.iload_n 2) 1 38 := ⟨by decide +kernel, rfl⟩
theorem qX11_fittingLights_38 : Dc mX11_fittingLights 38 (.ishl) 1 39 := ⟨by decide +kernel, rfl⟩
theorem qX11_fittingLights_39 : Dc mX11_fittingLights 39 (.ior) 1 40 := ⟨by decide +kernel, rfl⟩
theorem qX11_fittingLights_40 : Dc mX11_fittingLights 40 (.istore_n 1) 1 41 := ⟨by decide +kernel, rfl⟩
theorem qX11_fittingLights_41 : Dc mX11_fittingLights 41 (.iinc 2 1) 3 44 := ⟨by decide +kernel, rfl⟩
theorem qX11_fittingLights_44 : Dc mX11_fittingLights 44 (.goto (-40)) 3 47 := ⟨by decide +kernel, rfl⟩
theorem qX11_fittingLights_47 : Dc mX11_fittingLights 47 (.iload_n 1) 1 48 := ⟨by decide +kernel, rfl⟩
theorem qX11_fittingLights_48 : Dc mX11_fittingLights 48 (.ireturn) 1 49 := ⟨by decide +kernel, rfl⟩

set_option maxRecDepth 20000 in
set_option maxHeartbeats 4000000 in
theorem w_X11_fittingLights_L4 {N : Nat}  {s0 : St}  {r : Int32}   : ∀ (n3 : Nat) (v1 : Int32) (v2 : Int32), f_X11_fittingLights_L4 N s0 n3 v1 v2 = some r → E mX11_fittingLights 4 (some (.int r), s0) 4 [some (.ref 0), some (.int v1), some (.int v2)] [] s0 := by
  intro n3
  induction n3 with
  | zero =>
    intro v1 v2 h
    rw [f_X11_fittingLights_L4] at h; cases h
  | succ n3 ih4 =>
    intro v1 v2 h
    rw [f_X11_fittingLights_L4] at h
    refine e_iload_n qX11_fittingLights_4 rfl ?_
    refine e_aload_n qX11_fittingLights_5 rfl ?_
    refine e_getr 3 qX11_fittingLights_6 fl_X11_19 shq_0 kdq_10_1 rrq_0_1 ?_
    refine e_geti qX11_fittingLights_9 fl_X11_314 shq_3 kdq_1_2 h (fun v5 h => ?_)
    refine e_icmp_ge (tgt := 47) qX11_fittingLights_12 rfl h (fun _ h => ?_) (fun _ h => ?_)
    · refine e_iload_n qX11_fittingLights_47 rfl ?_
      exact e_iret qX11_fittingLights_48 rfl (ret_p h)
    refine e_aload_n qX11_fittingLights_15 rfl ?_
    refine e_getr 1 qX11_fittingLights_16 fl_X11_12 shq_0 kdq_10_0 rrq_0_0 ?_
    refine e_aload_n qX11_fittingLights_19 rfl ?_
    refine e_getr 3 qX11_fittingLights_20 fl_X11_19 shq_0 kdq_10_1 rrq_0_1 ?_
    refine e_getr 4 qX11_fittingLights_23 fl_X11_142 shq_3 kdq_1_0 rrq_3_0 ?_
    refine e_iload_n qX11_fittingLights_26 rfl ?_
    refine e_rald24 qX11_fittingLights_27 shq_4 lnq_4 h (fun i7 hi7 h => ?_)
    obtain ⟨v8, hc, h⟩ := bp_e h
    refine e_cVi1 qX11_fittingLights_28 mv_X11_399 shq_1 rfl rfl (w_X9_leastFit (we_24 _ shq_4 _ hi7) hc) ?_
    refine e_iconst (-1) qX11_fittingLights_31 rfl ?_
    refine jn_e (fun j => ∀ (v9 : Int32), j v9 = some r → E mX11_fittingLights 4 (some (.int r), s0) 41 [some (.ref 0), some (.int v9), some (.int v2)] [] s0) h ?_ (fun j10 hj10 h => ?_)
    · intro v9 h
      refine vl_e h (fun h => ?_)
      obtain ⟨v11, ev11⟩ : ∃ y, v2 + (nI 1) = y := ⟨_, rfl⟩
      rw [ev11] at h
      refine e_iinc (nI 1) v11 (lv2 := [some (.ref 0), some (.int v9), some (.int v11)]) qX11_fittingLights_41 rfl rfl rfl ev11 rfl ?_
      refine e_goto (tgt := 4) qX11_fittingLights_44 rfl ?_
      exact e_weak (ih4 _ _ h) ⟨Or.inr rfl, Or.inr rfl, Or.inr rfl, trivial⟩
    refine e_icmp_eq (tgt := 41) qX11_fittingLights_32 rfl h (fun _ h => ?_) (fun _ h => ?_)
    · exact e_weak (hj10 _ h) ⟨Or.inr rfl, Or.inr rfl, Or.inr rfl, trivial⟩
    refine e_iload_n qX11_fittingLights_35 rfl ?_
    refine e_iconst (nI 1) qX11_fittingLights_36 rfl ?_
    refine e_iload_n qX11_fittingLights_37 rfl ?_
    refine e_ishl qX11_fittingLights_38 ?_
    refine e_ior qX11_fittingLights_39 ?_
    refine vl_e h (fun h => ?_)
    generalize (v1 ||| ((nI 1) <<< (v2 &&& 31))) = v12 at h ⊢
    refine e_istore_n (lv2 := [some (.ref 0), some (.int v12), some (.int v2)]) qX11_fittingLights_40 rfl rfl rfl ?_
    exact e_weak (hj10 _ h) ⟨Or.inr rfl, Or.inr rfl, Or.inr rfl, trivial⟩

set_option maxRecDepth 20000 in
set_option maxHeartbeats 4000000 in
theorem w_X11_fittingLights {N : Nat}  {s0 : St} {r : Int32} (h : f_X11_fittingLights N  s0 = some r) : Ct mX11_fittingLights 4 [.ref 0] s0 (some (.int r), s0) := by
  refine Ct.ofE (by decide +kernel) rfl ?_
  show E mX11_fittingLights 4 (some (.int r), s0) 0 [some (.ref 0), none, none] [] s0
  unfold f_X11_fittingLights at h
  refine e_iconst (nI 0) qX11_fittingLights_0 rfl ?_
  refine e_istore_n (lv2 := [some (.ref 0), some (.int (nI 0)), none]) qX11_fittingLights_1 rfl rfl rfl ?_
  refine e_iconst (nI 0) qX11_fittingLights_2 rfl ?_
  refine e_istore_n (lv2 := [some (.ref 0), some (.int (nI 0)), some (.int (nI 0))]) qX11_fittingLights_3 rfl rfl rfl ?_
  exact e_weak (w_X11_fittingLights_L4  _ _ _ h) ⟨Or.inr rfl, Or.inr rfl, Or.inr rfl, trivial⟩

def f_X11_keepFits_L2 (N : Nat) (c1 : Int32) (k4 : St → Option (St)) : Nat → Int32 → St → Option (St)
  | 0, _, _ => none
  | n6 + 1, v2, s3 =>
    if (nI 8) ≤ v2 then
      k4 s3
    else
    jn (fun (v8 : Int32) =>
      ald (fun j => sI s3 133 j v8) 8 v2 fun s10 =>
      vl (v2 + (nI 1)) fun v11 =>
      f_X11_keepFits_L2 N c1 k4 n6 v11 s10) fun j9 =>
    if ((c1 >>> (v2 &&& 31)) &&& (nI 1)) = 0 then
      j9 (-1)
    else
    ald (rr 4) 8 v2 fun v12 =>
    bp (f_X9_leastFit N v12 s3) fun v14 =>
    j9 v14

def f_X11_keepFits_L61 (N : Nat)  : Nat → Int32 → Int32 → St → Option (St)
  | 0, _, _, _ => none
  | n21 + 1, v18, v19, s20 =>
    if (nI 39) < v19 then
      some s20
    else
    bp (f_X11_mostLeft N v19 s20) fun v23 =>
    jn (fun (v24 : Int32) (s25 : St) =>
      vl (v19 + (nI 1)) fun v27 =>
      f_X11_keepFits_L61 N n21 v24 v27 s25) fun j26 =>
    if v18 ≤ v23 then
      j26 v18 s20
    else
    vl (sI s20 0 17 v19) fun s28 =>
    j26 v23 s28

def f_X11_keepFits (N : Nat) (x1 : Int32) (s0 : St) : Option (St) :=
  f_X11_keepFits_L2 N x1 (fun (s15 : St) =>
    vl (sI s15 0 17 (nI 0)) fun s16 =>
    bp (f_X11_mostLeft N (nI 0) s16) fun v17 =>
    f_X11_keepFits_L61 N N v17 (nI 1) s16) N (nI 0) s0

theorem qX11_keepFits_0 : Dc mX11_keepFits 0 (.iconst 0) 1 1 := ⟨by decide +kernel, rfl⟩
theorem qX11_keepFits_1 : Dc mX11_keepFits 1 (.istore_n 2) 1 2 := ⟨by decide +kernel, rfl⟩
theorem qX11_keepFits_2 : Dc mX11_keepFits 2 (.iload_n 2) 1 3 := ⟨by decide +kernel, rfl⟩
theorem qX11_keepFits_3 : Dc mX11_keepFits 3 (.bipush 8) 2 5 := ⟨by decide +kernel, rfl⟩
theorem qX11_keepFits_5 : Dc mX11_keepFits 5 (.if_icmp .ge 43) 3 8 := ⟨by decide +kernel, rfl⟩
theorem qX11_keepFits_8 : Dc mX11_keepFits 8 (.aload_n 0) 1 9 := ⟨by decide +kernel, rfl⟩
theorem qX11_keepFits_9 : Dc mX11_keepFits 9 (.getfield 75) 3 12 := ⟨by decide +kernel, rfl⟩
theorem qX11_keepFits_12 : Dc mX11_keepFits 12 (.iload_n 2) 1 13 := ⟨by decide +kernel, rfl⟩
theorem qX11_keepFits_13 : Dc mX11_keepFits 13 (.iload_n 1) 1 14 := ⟨by decide +kernel, rfl⟩
theorem qX11_keepFits_14 : Dc mX11_keepFits 14 (.iload_n 2) 1 15 := ⟨by decide +kernel, rfl⟩
theorem qX11_keepFits_15 : Dc mX11_keepFits 15 (.ishr) 1 16 := ⟨by decide +kernel, rfl⟩
theorem qX11_keepFits_16 : Dc mX11_keepFits 16 (.iconst 1) 1 17 := ⟨by decide +kernel, rfl⟩
theorem qX11_keepFits_17 : Dc mX11_keepFits 17 (.iand) 1 18 := ⟨by decide +kernel, rfl⟩
theorem qX11_keepFits_18 : Dc mX11_keepFits 18 (.ifCond .eq 22) 3 21 := ⟨by decide +kernel, rfl⟩
theorem qX11_keepFits_21 : Dc mX11_keepFits 21 (.aload_n 0) 1 22 := ⟨by decide +kernel, rfl⟩
theorem qX11_keepFits_22 : Dc mX11_keepFits 22 (.getfield 12) 3 25 := ⟨by decide +kernel, rfl⟩
theorem qX11_keepFits_25 : Dc mX11_keepFits 25 (.aload_n 0) 1 26 := ⟨by decide +kernel, rfl⟩
theorem qX11_keepFits_26 : Dc mX11_keepFits 26 (.getfield 19) 3 29 := ⟨by decide +kernel, rfl⟩
theorem qX11_keepFits_29 : Dc mX11_keepFits 29 (.getfield 142) 3 32 := ⟨by decide +kernel, rfl⟩
theorem qX11_keepFits_32 : Dc mX11_keepFits 32 (.iload_n 2) 1 33 := ⟨by decide +kernel, rfl⟩
theorem qX11_keepFits_33 : Dc mX11_keepFits 33 (.aaload) 1 34 := ⟨by decide +kernel, rfl⟩
theorem qX11_keepFits_34 : Dc mX11_keepFits 34 (.invokevirtual 399) 3 37 := ⟨by decide +kernel, rfl⟩
theorem qX11_keepFits_37 : Dc mX11_keepFits 37 (.goto 4) 3 40 := ⟨by decide +kernel, rfl⟩
theorem qX11_keepFits_40 : Dc mX11_keepFits 40 (.iconst (-1)) 1 41 := ⟨by decide +kernel, rfl⟩
theorem qX11_keepFits_41 : Dc mX11_keepFits 41 (.iastore) 1 42 := ⟨by decide +kernel, rfl⟩
theorem qX11_keepFits_42 : Dc mX11_keepFits 42 (.iinc 2 1) 3 45 := ⟨by decide +kernel, rfl⟩
theorem qX11_keepFits_45 : Dc mX11_keepFits 45 (.goto (-43)) 3 48 := ⟨by decide +kernel, rfl⟩
theorem qX11_keepFits_48 : Dc mX11_keepFits 48 (.aload_n 0) 1 49 := ⟨by decide +kernel, rfl⟩
theorem qX11_keepFits_49 : Dc mX11_keepFits 49 (.iconst 0) 1 50 := ⟨by decide +kernel, rfl⟩
theorem qX11_keepFits_50 : Dc mX11_keepFits 50 (.putfield 89) 3 53 := ⟨by decide +kernel, rfl⟩
theorem qX11_keepFits_53 : Dc mX11_keepFits 53 (.aload_n 0) 1 54 := ⟨by decide +kernel, rfl⟩
theorem qX11_keepFits_54 : Dc mX11_keepFits 54 (.iconst 0) 1 55 := ⟨by decide +kernel, rfl⟩
theorem qX11_keepFits_55 : Dc mX11_keepFits 55 (.invokevirtual 403) 3 58 := ⟨by decide +kernel, rfl⟩
theorem qX11_keepFits_58 : Dc mX11_keepFits 58 (.istore_n 2) 1 59 := ⟨by decide +kernel, rfl⟩
theorem qX11_keepFits_59 : Dc mX11_keepFits 59 (.iconst 1) 1 60 := ⟨by decide +kernel, rfl⟩
theorem qX11_keepFits_60 : Dc mX11_keepFits 60 (.istore_n 3) 1 61 := ⟨by decide +kernel, rfl⟩
theorem qX11_keepFits_61 : Dc mX11_keepFits 61 (.iload_n 3) 1 62 := ⟨by decide +kernel, rfl⟩
theorem qX11_keepFits_62 : Dc mX11_keepFits 62 (.bipush 39) 2 64 := ⟨by decide +kernel, rfl⟩
theorem qX11_keepFits_64 : Dc mX11_keepFits 64 (.if_icmp .gt 30) 3 67 := ⟨by decide +kernel, rfl⟩
theorem qX11_keepFits_67 : Dc mX11_keepFits 67 (.aload_n 0) 1 68 := ⟨by decide +kernel, rfl⟩
theorem qX11_keepFits_68 : Dc mX11_keepFits 68 (.iload_n 3) 1 69 := ⟨by decide +kernel, rfl⟩
theorem qX11_keepFits_69 : Dc mX11_keepFits 69 (.invokevirtual 403) 3 72 := ⟨by decide +kernel, rfl⟩
theorem qX11_keepFits_72 : Dc mX11_keepFits 72 (.istore 4) 2 74 := ⟨by decide +kernel, rfl⟩
theorem qX11_keepFits_74 : Dc mX11_keepFits 74 (.iload 4) 2 76 := ⟨by decide +kernel, rfl⟩
theorem qX11_keepFits_76 : Dc mX11_keepFits 76 (.iload_n 2) 1 77 := ⟨by decide +kernel, rfl⟩
theorem qX11_keepFits_77 : Dc mX11_keepFits 77 (.if_icmp .ge 11) 3 80 := ⟨by decide +kernel, rfl⟩
theorem qX11_keepFits_80 : Dc mX11_keepFits 80 (.iload 4) 2 82 := ⟨by decide +kernel, rfl⟩
theorem qX11_keepFits_82 : Dc mX11_keepFits 82 (.istore_n 2) 1 83 := ⟨by decide +kernel, rfl⟩
theorem qX11_keepFits_83 : Dc mX11_keepFits 83 (.aload_n 0) 1 84 := ⟨by decide +kernel, rfl⟩
theorem qX11_keepFits_84 : Dc mX11_keepFits 84 (.iload_n 3) 1 85 := ⟨by decide +kernel, rfl⟩
theorem qX11_keepFits_85 : Dc mX11_keepFits 85 (.putfield 89) 3 88 := ⟨by decide +kernel, rfl⟩
theorem qX11_keepFits_88 : Dc mX11_keepFits 88 (.iinc 3 1) 3 91 := ⟨by decide +kernel, rfl⟩
theorem qX11_keepFits_91 : Dc mX11_keepFits 91 (.goto (-30)) 3 94 := ⟨by decide +kernel, rfl⟩
theorem qX11_keepFits_94 : Dc mX11_keepFits 94 (.return_) 1 95 := ⟨by decide +kernel, rfl⟩

set_option maxRecDepth 20000 in
set_option maxHeartbeats 4000000 in
theorem w_X11_keepFits_L2 {N : Nat} {c1 : Int32} {k4 : St → Option (St)} {sr : St}  (hk4 : ∀ (s5 : St), k4 s5 = some sr → E mX11_keepFits 4 (none, sr) 48 [some (.ref 0), none, none, none, none] [] s5) : ∀ (n6 : Nat) (v2 : Int32) (s3 : St), f_X11_keepFits_L2 N c1 k4 n6 v2 s3 = some sr → E mX11_keepFits 4 (none, sr) 2 [some (.ref 0), some (.int c1), some (.int v2), none, none] [] s3 := by
  intro n6
  induction n6 with
  | zero =>
    intro v2 s3 h
    rw [f_X11_keepFits_L2] at h; cases h
  | succ n6 ih7 =>
    intro v2 s3 h
    rw [f_X11_keepFits_L2] at h
    refine e_iload_n qX11_keepFits_2 rfl ?_
    refine e_bipush (nI 8) qX11_keepFits_3 rfl ?_
    refine e_icmp_ge (tgt := 48) qX11_keepFits_5 rfl h (fun _ h => ?_) (fun _ h => ?_)
    · exact e_weak (hk4 _ h) ⟨Or.inr rfl, Or.inl rfl, Or.inl rfl, Or.inl rfl, Or.inl rfl, trivial⟩
    refine e_aload_n qX11_keepFits_8 rfl ?_
    refine e_getr 133 qX11_keepFits_9 fl_X11_75 shq_0 kdq_10_11 rrq_0_11 ?_
    refine e_iload_n qX11_keepFits_12 rfl ?_
    refine e_iload_n qX11_keepFits_13 rfl ?_
    refine e_iload_n qX11_keepFits_14 rfl ?_
    refine e_ishr qX11_keepFits_15 ?_
    refine e_iconst (nI 1) qX11_keepFits_16 rfl ?_
    refine e_iand qX11_keepFits_17 ?_
    refine jn_e (fun j => ∀ (v8 : Int32), j v8 = some sr → E mX11_keepFits 4 (none, sr) 41 [some (.ref 0), some (.int c1), some (.int v2), none, none] [.int v8, .int v2, .ref 133] s3) h ?_ (fun j9 hj9 h => ?_)
    · intro v8 h
      refine e_iast qX11_keepFits_41 shq_133 lnq_133 h (fun s10 h => ?_)
      refine vl_e h (fun h => ?_)
      obtain ⟨v11, ev11⟩ : ∃ y, v2 + (nI 1) = y := ⟨_, rfl⟩
      rw [ev11] at h
      refine e_iinc (nI 1) v11 (lv2 := [some (.ref 0), some (.int c1), some (.int v11), none, none]) qX11_keepFits_42 rfl rfl rfl ev11 rfl ?_
      refine e_goto (tgt := 2) qX11_keepFits_45 rfl ?_
      exact e_weak (ih7 _ _ h) ⟨Or.inr rfl, Or.inr rfl, Or.inr rfl, Or.inl rfl, Or.inl rfl, trivial⟩
    refine e_if_eq (tgt := 40) qX11_keepFits_18 rfl h (fun _ h => ?_) (fun _ h => ?_)
    · refine e_iconst (-1) qX11_keepFits_40 rfl ?_
      exact e_weak (hj9 _ h) ⟨Or.inr rfl, Or.inr rfl, Or.inr rfl, Or.inl rfl, Or.inl rfl, trivial⟩
    refine e_aload_n qX11_keepFits_21 rfl ?_
    refine e_getr 1 qX11_keepFits_22 fl_X11_12 shq_0 kdq_10_0 rrq_0_0 ?_
    refine e_aload_n qX11_keepFits_25 rfl ?_
    refine e_getr 3 qX11_keepFits_26 fl_X11_19 shq_0 kdq_10_1 rrq_0_1 ?_
    refine e_getr 4 qX11_keepFits_29 fl_X11_142 shq_3 kdq_1_0 rrq_3_0 ?_
    refine e_iload_n qX11_keepFits_32 rfl ?_
    refine e_rald24 qX11_keepFits_33 shq_4 lnq_4 h (fun i13 hi13 h => ?_)
    obtain ⟨v14, hc, h⟩ := bp_e h
    refine e_cVi1 qX11_keepFits_34 mv_X11_399 shq_1 rfl rfl (w_X9_leastFit (we_24 _ shq_4 _ hi13) hc) ?_
    refine e_goto (tgt := 41) qX11_keepFits_37 rfl ?_
    exact e_weak (hj9 _ h) ⟨Or.inr rfl, Or.inr rfl, Or.inr rfl, Or.inl rfl, Or.inl rfl, trivial⟩

set_option maxRecDepth 20000 in
set_option maxHeartbeats 4000000 in
theorem w_X11_keepFits_L61 {N : Nat}   {sr : St}   : ∀ (n21 : Nat) (v18 : Int32) (v19 : Int32) (s20 : St), f_X11_keepFits_L61 N n21 v18 v19 s20 = some sr → E mX11_keepFits 4 (none, sr) 61 [some (.ref 0), none, some (.int v18), some (.int v19), none] [] s20 := by
  intro n21
  induction n21 with
  | zero =>
    intro v18 v19 s20 h
    rw [f_X11_keepFits_L61] at h; cases h
  | succ n21 ih22 =>
    intro v18 v19 s20 h
    rw [f_X11_keepFits_L61] at h
    refine e_iload_n qX11_keepFits_61 rfl ?_
    refine e_bipush (nI 39) qX11_keepFits_62 rfl ?_
    refine e_icmp_gt (tgt := 94) qX11_keepFits_64 rfl h (fun _ h => ?_) (fun _ h => ?_)
    · exact e_vret qX11_keepFits_94 rfl (ret_v h)
    refine e_aload_n qX11_keepFits_67 rfl ?_
    refine e_iload_n qX11_keepFits_68 rfl ?_
    obtain ⟨v23, hc, h⟩ := bp_e h
    refine e_cVi1 qX11_keepFits_69 mv_X11_403 shq_0 rfl rfl (w_X11_mostLeft hc) ?_
    refine e_istore (lv2 := [some (.ref 0), none, some (.int v18), some (.int v19), some (.int v23)]) qX11_keepFits_72 rfl rfl rfl ?_
    refine e_iload qX11_keepFits_74 rfl ?_
    refine e_iload_n qX11_keepFits_76 rfl ?_
    refine jn_e (fun j => ∀ (v24 : Int32) (s25 : St), j v24 s25 = some sr → E mX11_keepFits 4 (none, sr) 88 [some (.ref 0), none, some (.int v24), some (.int v19), none] [] s25) h ?_ (fun j26 hj26 h => ?_)
    · intro v24 s25 h
      refine vl_e h (fun h => ?_)
      obtain ⟨v27, ev27⟩ : ∃ y, v19 + (nI 1) = y := ⟨_, rfl⟩
      rw [ev27] at h
      refine e_iinc (nI 1) v27 (lv2 := [some (.ref 0), none, some (.int v24), some (.int v27), none]) qX11_keepFits_88 rfl rfl rfl ev27 rfl ?_
      refine e_goto (tgt := 61) qX11_keepFits_91 rfl ?_
      exact e_weak (ih22 _ _ _ h) ⟨Or.inr rfl, Or.inl rfl, Or.inr rfl, Or.inr rfl, Or.inl rfl, trivial⟩
    refine e_icmp_ge (tgt := 88) qX11_keepFits_77 rfl h (fun _ h => ?_) (fun _ h => ?_)
    · exact e_weak (hj26 _ _ h) ⟨Or.inr rfl, Or.inl rfl, Or.inr rfl, Or.inr rfl, Or.inl rfl, trivial⟩
    refine e_iload qX11_keepFits_80 rfl ?_
    refine e_istore_n (lv2 := [some (.ref 0), none, some (.int v23), some (.int v19), some (.int v23)]) qX11_keepFits_82 rfl rfl rfl ?_
    refine e_aload_n qX11_keepFits_83 rfl ?_
    refine e_iload_n qX11_keepFits_84 rfl ?_
    refine e_puti qX11_keepFits_85 fp_X11_89 shq_0 kdq_10_17 h (fun s28 h => ?_)
    exact e_weak (hj26 _ _ h) ⟨Or.inr rfl, Or.inl rfl, Or.inr rfl, Or.inr rfl, Or.inl rfl, trivial⟩

set_option maxRecDepth 20000 in
set_option maxHeartbeats 4000000 in
theorem w_X11_keepFits {N : Nat} {x1 : Int32} {s0 : St} {sr : St} (h : f_X11_keepFits N x1 s0 = some sr) : Ct mX11_keepFits 4 [.ref 0, .int x1] s0 (none, sr) := by
  refine Ct.ofE (by decide +kernel) rfl ?_
  show E mX11_keepFits 4 (none, sr) 0 [some (.ref 0), some (.int x1), none, none, none] [] s0
  unfold f_X11_keepFits at h
  refine e_iconst (nI 0) qX11_keepFits_0 rfl ?_
  refine e_istore_n (lv2 := [some (.ref 0), some (.int x1), some (.int (nI 0)), none, none]) qX11_keepFits_1 rfl rfl rfl ?_
  refine e_weak (w_X11_keepFits_L2 (fun s15 h => ?_) _ _ _ h) ⟨Or.inr rfl, Or.inr rfl, Or.inr rfl, Or.inl rfl, Or.inl rfl, trivial⟩
  refine e_aload_n qX11_keepFits_48 rfl ?_
  refine e_iconst (nI 0) qX11_keepFits_49 rfl ?_
  refine e_puti qX11_keepFits_50 fp_X11_89 shq_0 kdq_10_17 h (fun s16 h => ?_)
  refine e_aload_n qX11_keepFits_53 rfl ?_
  refine e_iconst (nI 0) qX11_keepFits_54 rfl ?_
  obtain ⟨v17, hc, h⟩ := bp_e h
  refine e_cVi1 qX11_keepFits_55 mv_X11_403 shq_0 rfl rfl (w_X11_mostLeft hc) ?_
  refine e_istore_n (lv2 := [some (.ref 0), none, some (.int v17), none, none]) qX11_keepFits_58 rfl rfl rfl ?_
  refine e_iconst (nI 1) qX11_keepFits_59 rfl ?_
  refine e_istore_n (lv2 := [some (.ref 0), none, some (.int v17), some (.int (nI 1)), none]) qX11_keepFits_60 rfl rfl rfl ?_
  exact e_weak (w_X11_keepFits_L61  _ _ _ _ h) ⟨Or.inr rfl, Or.inl rfl, Or.inr rfl, Or.inr rfl, Or.inl rfl, trivial⟩

def f_X0_readWhom (N : Nat) (x3 : Int32) (s0 : St) : Option (Int32 × St) :=
  vl (s0.1 71 3) fun v1 =>
  ald (fun j => sI s0 73 j (-1)) 40 v1 fun s2 =>
  if x3 = (nI 5) then
    some ((nI 1), s2)
  else
  if x3 = (nI 6) then
    some ((nI 1), s2)
  else
  vl (s2.1 71 3) fun v3 =>
  jn (fun (v4 : Int32) (s5 : St) =>
    ald (fun j => sI s5 73 j v4) 40 v3 fun s7 =>
    vl (s7.1 71 3) fun v8 =>
    ald (s7.1 73) 40 v8 fun v9 =>
    if v9 = (-1) then
      some ((nI 0), s7)
    else
    bp (f_X9_next N s7) fun s10 =>
    some ((nI 1), s10)) fun j6 =>
  if x3 = (nI 4) then
    bd (f_X1_shipAt N 3 s2) fun v11 s12 =>
    j6 v11 s12
  else
  bd (f_X1_lightAt N 3 s2) fun v13 s14 =>
  j6 v13 s14

theorem qX0_readWhom_0 : Dc mX0_readWhom 0 (.aload_n 0) 1 1 := ⟨by decide +kernel, rfl⟩
theorem qX0_readWhom_1 : Dc mX0_readWhom 1 (.getfield 15) 3 4 := ⟨by decide +kernel, rfl⟩
theorem qX0_readWhom_4 : Dc mX0_readWhom 4 (.aload_n 0) 1 5 := ⟨by decide +kernel, rfl⟩
theorem qX0_readWhom_5 : Dc mX0_readWhom 5 (.getfield 27) 3 8 := ⟨by decide +kernel, rfl⟩
theorem qX0_readWhom_8 : Dc mX0_readWhom 8 (.iconst (-1)) 1 9 := ⟨by decide +kernel, rfl⟩
theorem qX0_readWhom_9 : Dc mX0_readWhom 9 (.iastore) 1 10 := ⟨by decide +kernel, rfl⟩
theorem qX0_readWhom_10 : Dc mX0_readWhom 10 (.iload_n 3) 1 11 := ⟨by decide +kernel, rfl⟩
theorem qX0_readWhom_11 : Dc mX0_readWhom 11 (.iconst 5) 1 12 := ⟨by decide +kernel, rfl⟩
theorem qX0_readWhom_12 : Dc mX0_readWhom 12 (.if_icmp .eq 9) 3 15 := ⟨by decide +kernel, rfl⟩
theorem qX0_readWhom_15 : Dc mX0_readWhom 15 (.iload_n 3) 1 16 := ⟨by decide +kernel, rfl⟩
theorem qX0_readWhom_16 : Dc mX0_readWhom 16 (.bipush 6) 2 18 := ⟨by decide +kernel, rfl⟩
theorem qX0_readWhom_18 : Dc mX0_readWhom 18 (.if_icmp .ne 5) 3 21 := ⟨by decide +kernel, rfl⟩
theorem qX0_readWhom_21 : Dc mX0_readWhom 21 (.iconst 1) 1 22 := ⟨by decide +kernel, rfl⟩
theorem qX0_readWhom_22 : Dc mX0_readWhom 22 (.ireturn) 1 23 := ⟨by decide +kernel, rfl⟩
theorem qX0_readWhom_23 : Dc mX0_readWhom 23 (.aload_n 0) 1 24 := ⟨by decide +kernel, rfl⟩
theorem qX0_readWhom_24 : Dc mX0_readWhom 24 (.getfield 15) 3 27 := ⟨by decide +kernel, rfl⟩
theorem qX0_readWhom_27 : Dc mX0_readWhom 27 (.aload_n 0) 1 28 := ⟨by decide +kernel, rfl⟩
theorem qX0_readWhom_28 : Dc mX0_readWhom 28 (.getfield 27) 3 31 := ⟨by decide +kernel, rfl⟩
theorem qX0_readWhom_31 : Dc mX0_readWhom 31 (.iload_n 3) 1 32 := ⟨by decide +kernel, rfl⟩
theorem qX0_readWhom_32 : Dc mX0_readWhom 32 (.iconst 4) 1 33 := ⟨by decide +kernel, rfl⟩
theorem qX0_readWhom_33 : Dc mX0_readWhom 33 (.if_icmp .ne 11) 3 36 := ⟨by decide +kernel, rfl⟩
theorem qX0_readWhom_36 : Dc mX0_readWhom 36 (.aload_n 2) 1 37 := ⟨by decide +kernel, rfl⟩
theorem qX0_readWhom_37 : Dc mX0_readWhom 37 (.aload_n 1) 1 38 := ⟨by decide +kernel, rfl⟩
theorem qX0_readWhom_38 : Dc mX0_readWhom 38 (.invokevirtual 93) 3 41 := ⟨by decide +kernel, rfl⟩
theorem qX0_readWhom_41 : Dc mX0_readWhom 41 (.goto 8) 3 44 := ⟨by decide +kernel, rfl⟩
theorem qX0_readWhom_44 : Dc mX0_readWhom 44 (.aload_n 2) 1 45 := ⟨by decide +kernel, rfl⟩
theorem qX0_readWhom_45 : Dc mX0_readWhom 45 (.aload_n 1) 1 46 := ⟨by decide +kernel, rfl⟩
theorem qX0_readWhom_46 : Dc mX0_readWhom 46 (.invokevirtual 98) 3 49 := ⟨by decide +kernel, rfl⟩
theorem qX0_readWhom_49 : Dc mX0_readWhom 49 (.iastore) 1 50 := ⟨by decide +kernel, rfl⟩
theorem qX0_readWhom_50 : Dc mX0_readWhom 50 (.aload_n 0) 1 51 := ⟨by decide +kernel, rfl⟩
theorem qX0_readWhom_51 : Dc mX0_readWhom 51 (.getfield 15) 3 54 := ⟨by decide +kernel, rfl⟩
theorem qX0_readWhom_54 : Dc mX0_readWhom 54 (.aload_n 0) 1 55 := ⟨by decide +kernel, rfl⟩
theorem qX0_readWhom_55 : Dc mX0_readWhom 55 (.getfield 27) 3 58 := ⟨by decide +kernel, rfl⟩
theorem qX0_readWhom_58 : Dc mX0_readWhom 58 (.iaload) 1 59 := ⟨by decide +kernel, rfl⟩
theorem qX0_readWhom_59 : Dc mX0_readWhom 59 (.iconst (-1)) 1 60 := ⟨by decide +kernel, rfl⟩
theorem qX0_readWhom_60 : Dc mX0_readWhom 60 (.if_icmp .ne 5) 3 63 := ⟨by decide +kernel, rfl⟩
theorem qX0_readWhom_63 : Dc mX0_readWhom 63 (.iconst 0) 1 64 := ⟨by decide +kernel, rfl⟩
theorem qX0_readWhom_64 : Dc mX0_readWhom 64 (.ireturn) 1 65 := ⟨by decide +kernel, rfl⟩
theorem qX0_readWhom_65 : Dc mX0_readWhom 65 (.aload_n 1) 1 66 := ⟨by decide +kernel, rfl⟩
theorem qX0_readWhom_66 : Dc mX0_readWhom 66 (.invokevirtual 54) 3 69 := ⟨by decide +kernel, rfl⟩
theorem qX0_readWhom_69 : Dc mX0_readWhom 69 (.iconst 1) 1 70 := ⟨by decide +kernel, rfl⟩
theorem qX0_readWhom_70 : Dc mX0_readWhom 70 (.ireturn) 1 71 := ⟨by decide +kernel, rfl⟩

set_option maxRecDepth 20000 in
set_option maxHeartbeats 4000000 in
theorem w_X0_readWhom {N : Nat} {x3 : Int32} {s0 : St} {r : Int32} {sr : St} (h : f_X0_readWhom N x3 s0 = some (r, sr)) : Ct mX0_readWhom 3 [.ref 71, .ref 1, .ref 3, .int x3] s0 (some (.int r), sr) := by
  refine Ct.ofE (by decide +kernel) rfl ?_
  show E mX0_readWhom 3 (some (.int r), sr) 0 [some (.ref 71), some (.ref 1), some (.ref 3), some (.int x3)] [] s0
  unfold f_X0_readWhom at h
  refine e_aload_n qX0_readWhom_0 rfl ?_
  refine e_getr 73 qX0_readWhom_1 fl_X0_15 shq_71 kdq_0_1 rrq_71_1 ?_
  refine e_aload_n qX0_readWhom_4 rfl ?_
  refine e_geti qX0_readWhom_5 fl_X0_27 shq_71 kdq_0_3 h (fun v1 h => ?_)
  refine e_iconst (-1) qX0_readWhom_8 rfl ?_
  refine e_iast qX0_readWhom_9 shq_73 lnq_73 h (fun s2 h => ?_)
  refine e_iload_n qX0_readWhom_10 rfl ?_
  refine e_iconst (nI 5) qX0_readWhom_11 rfl ?_
  refine e_icmp_eq (tgt := 21) qX0_readWhom_12 rfl h (fun _ h => ?_) (fun _ h => ?_)
  · refine e_iconst (nI 1) qX0_readWhom_21 rfl ?_
    exact e_zret qX0_readWhom_22 rfl (by decide) (ret_i h)
  refine e_iload_n qX0_readWhom_15 rfl ?_
  refine e_bipush (nI 6) qX0_readWhom_16 rfl ?_
  refine e_icmp_ne (tgt := 23) qX0_readWhom_18 rfl h (fun _ h => ?_) (fun _ h => ?_)
  · refine e_iconst (nI 1) qX0_readWhom_21 rfl ?_
    exact e_zret qX0_readWhom_22 rfl (by decide) (ret_i h)
  refine e_aload_n qX0_readWhom_23 rfl ?_
  refine e_getr 73 qX0_readWhom_24 fl_X0_15 shq_71 kdq_0_1 rrq_71_1 ?_
  refine e_aload_n qX0_readWhom_27 rfl ?_
  refine e_geti qX0_readWhom_28 fl_X0_27 shq_71 kdq_0_3 h (fun v3 h => ?_)
  refine e_iload_n qX0_readWhom_31 rfl ?_
  refine e_iconst (nI 4) qX0_readWhom_32 rfl ?_
  refine jn_e (fun j => ∀ (v4 : Int32) (s5 : St), j v4 s5 = some (r, sr) → E mX0_readWhom 3 (some (.int r), sr) 49 [some (.ref 71), some (.ref 1), none, none] [.int v4, .int v3, .ref 73] s5) h ?_ (fun j6 hj6 h => ?_)
  · intro v4 s5 h
    refine e_iast qX0_readWhom_49 shq_73 lnq_73 h (fun s7 h => ?_)
    refine e_aload_n qX0_readWhom_50 rfl ?_
    refine e_getr 73 qX0_readWhom_51 fl_X0_15 shq_71 kdq_0_1 rrq_71_1 ?_
    refine e_aload_n qX0_readWhom_54 rfl ?_
    refine e_geti qX0_readWhom_55 fl_X0_27 shq_71 kdq_0_3 h (fun v8 h => ?_)
    refine e_iald qX0_readWhom_58 shq_73 lnq_73 h (fun v9 h => ?_)
    refine e_iconst (-1) qX0_readWhom_59 rfl ?_
    refine e_icmp_ne (tgt := 65) qX0_readWhom_60 rfl h (fun _ h => ?_) (fun _ h => ?_)
    · refine e_iconst (nI 0) qX0_readWhom_63 rfl ?_
      exact e_zret qX0_readWhom_64 rfl (by decide) (ret_i h)
    refine e_aload_n qX0_readWhom_65 rfl ?_
    obtain ⟨s10, hc, h⟩ := bp_e h
    refine e_cVv0 qX0_readWhom_66 mv_X0_54 shq_1 rfl rfl (w_X9_next hc) ?_
    refine e_iconst (nI 1) qX0_readWhom_69 rfl ?_
    exact e_zret qX0_readWhom_70 rfl (by decide) (ret_i h)
  refine e_icmp_ne (tgt := 44) qX0_readWhom_33 rfl h (fun _ h => ?_) (fun _ h => ?_)
  · refine e_aload_n qX0_readWhom_36 rfl ?_
    refine e_aload_n qX0_readWhom_37 rfl ?_
    obtain ⟨v11, s12, hc, h⟩ := bd_e h
    refine e_cVi1 qX0_readWhom_38 mv_X0_93 shq_3 rfl rfl (w_X1_shipAt shq_3 hc) ?_
    refine e_goto (tgt := 49) qX0_readWhom_41 rfl ?_
    exact e_weak (hj6 _ _ h) ⟨Or.inr rfl, Or.inr rfl, Or.inl rfl, Or.inl rfl, trivial⟩
  refine e_aload_n qX0_readWhom_44 rfl ?_
  refine e_aload_n qX0_readWhom_45 rfl ?_
  obtain ⟨v13, s14, hc, h⟩ := bd_e h
  refine e_cVi1 qX0_readWhom_46 mv_X0_98 shq_3 rfl rfl (w_X1_lightAt shq_3 hc) ?_
  exact e_weak (hj6 _ _ h) ⟨Or.inr rfl, Or.inr rfl, Or.inl rfl, Or.inl rfl, trivial⟩

def f_X1_compareLights_L32 (N : Nat) (c13 : Nat) (c14 : Int32) (k17 : St → Option (St)) : Nat → Int32 → St → Option (St)
  | 0, _, _ => none
  | n19 + 1, v15, s16 =>
    if c14 ≤ v15 then
      k17 s16
    else
    bp (f_X1_comparePair N c13 c14 v15 s16) fun s21 =>
    vl (v15 + (nI 1)) fun v22 =>
    f_X1_compareLights_L32 N c13 c14 k17 n19 v22 s21

def f_X1_compareLights_L2 (N : Nat) (c1 : Nat) : Nat → Int32 → St → Option (St)
  | 0, _, _ => none
  | n4 + 1, v2, s3 =>
    vl (s3.1 c1 2) fun v6 =>
    if v6 ≤ v2 then
      some s3
    else
    ald (rr (rr c1 0)) 8 v2 fun v7 =>
    vl (sI s3 v7 12 (nI 0)) fun s9 =>
    ald (rr (rr c1 0)) 8 v2 fun v10 =>
    vl (sI s9 v10 13 (nI 0)) fun s12 =>
    f_X1_compareLights_L32 N c1 v2 (fun (s23 : St) =>
      vl (v2 + (nI 1)) fun v24 =>
      f_X1_compareLights_L2 N c1 n4 v24 s23) N (nI 0) s12

def f_X1_compareLights (N : Nat) (a0 : Nat) (s0 : St) : Option (St) :=
  f_X1_compareLights_L2 N a0 N (nI 0) s0

theorem qX1_compareLights_0 : Dc mX1_compareLights 0 (.iconst 0) 1 1 := ⟨by decide +kernel, rfl⟩
theorem qX1_compareLights_1 : Dc mX1_compareLights 1 (.istore_n 1) 1 2 := ⟨by decide +kernel, rfl⟩
theorem qX1_compareLights_2 : Dc mX1_compareLights 2 (.iload_n 1) 1 3 := ⟨by decide +kernel, rfl⟩
theorem qX1_compareLights_3 : Dc mX1_compareLights 3 (.aload_n 0) 1 4 := ⟨by decide +kernel, rfl⟩
theorem qX1_compareLights_4 : Dc mX1_compareLights 4 (.getfield 29) 3 7 := ⟨by decide +kernel, rfl⟩
theorem qX1_compareLights_7 : Dc mX1_compareLights 7 (.if_icmp .ge 48) 3 10 := ⟨by decide +kernel, rfl⟩
theorem qX1_compareLights_10 : Dc mX1_compareLights 10 (.aload_n 0) 1 11 := ⟨by decide +kernel, rfl⟩
theorem qX1_compareLights_11 : Dc mX1_compareLights 11 (.getfield 11) 3 14 := ⟨by decide +kernel, rfl⟩
theorem qX1_compareLights_14 : Dc mX1_compareLights 14 (.iload_n 1) 1 15 := ⟨by decide +kernel, rfl⟩
theorem qX1_compareLights_15 : Dc mX1_compareLights 15 (.aaload) 1 16 := ⟨by decide +kernel, rfl⟩
theorem qX1_compareLights_16 : Dc mX1_compareLights 16 (.iconst 0) 1 17 := ⟨by decide +kernel, rfl⟩
theorem qX1_compareLights_17 : Dc mX1_compareLights 17 (.putfield 48) 3 20 := ⟨by decide +kernel, rfl⟩
theorem qX1_compareLights_20 : Dc mX1_compareLights 20 (.aload_n 0) 1 21 := ⟨by decide +kernel, rfl⟩
theorem qX1_compareLights_21 : Dc mX1_compareLights 21 (.getfield 11) 3 24 := ⟨by decide +kernel, rfl⟩
theorem qX1_compareLights_24 : Dc mX1_compareLights 24 (.iload_n 1) 1 25 := ⟨by decide +kernel, rfl⟩
theorem qX1_compareLights_25 : Dc mX1_compareLights 25 (.aaload) 1 26 := ⟨by decide +kernel, rfl⟩
theorem qX1_compareLights_26 : Dc mX1_compareLights 26 (.iconst 0) 1 27 := ⟨by decide +kernel, rfl⟩
theorem qX1_compareLights_27 : Dc mX1_compareLights 27 (.putfield 51) 3 30 := ⟨by decide +kernel, rfl⟩
theorem qX1_compareLights_30 : Dc mX1_compareLights 30 (.iconst 0) 1 31 := ⟨by decide +kernel, rfl⟩
theorem qX1_compareLights_31 : Dc mX1_compareLights 31 (.istore_n 2) 1 32 := ⟨by decide +kernel, rfl⟩
theorem qX1_compareLights_32 : Dc mX1_compareLights 32 (.iload_n 2) 1 33 := ⟨by decide +kernel, rfl⟩
theorem qX1_compareLights_33 : Dc mX1_compareLights 33 (.iload_n 1) 1 34 := ⟨by decide +kernel, rfl⟩
theorem qX1_compareLights_34 : Dc mX1_compareLights 34 (.if_icmp .ge 15) 3 37 := ⟨by decide +kernel, rfl⟩
theorem qX1_compareLights_37 : Dc mX1_compareLights 37 (.aload_n 0) 1 38 := ⟨by decide +kernel, rfl⟩
theorem qX1_compareLights_38 : Dc mX1_compareLights 38 (.iload_n 1) 1 39 := ⟨by decide +kernel, rfl⟩
theorem qX1_compareLights_39 : Dc mX1_compareLights 39 (.iload_n 2) 1 40 := ⟨by decide +kernel, rfl⟩
theorem qX1_compareLights_40 : Dc mX1_compareLights 40 (.invokevirtual 54) 3 43 := ⟨by decide +kernel, rfl⟩
theorem qX1_compareLights_43 : Dc mX1_compareLights 43 (.iinc 2 1) 3 46 := ⟨by decide +kernel, rfl⟩
theorem qX1_compareLights_46 : Dc mX1_compareLights 46 (.goto (-14)) 3 49 := ⟨by decide +kernel, rfl⟩
theorem qX1_compareLights_49 : Dc mX1_compareLights 49 (.iinc 1 1) 3 52 := ⟨by decide +kernel, rfl⟩
theorem qX1_compareLights_52 : Dc mX1_compareLights 52 (.goto (-50)) 3 55 := ⟨by decide +kernel, rfl⟩
theorem qX1_compareLights_55 : Dc mX1_compareLights 55 (.return_) 1 56 := ⟨by decide +kernel, rfl⟩

set_option maxRecDepth 20000 in
set_option maxHeartbeats 4000000 in
theorem w_X1_compareLights_L32 {N : Nat} {c13 : Nat} {c14 : Int32} {k17 : St → Option (St)} {sr : St} (h_c13 : sh c13 = 1) (hk17 : ∀ (s18 : St), k17 s18 = some sr → E mX1_compareLights 4 (none, sr) 49 [some (.ref c13), some (.int c14), none] [] s18) : ∀ (n19 : Nat) (v15 : Int32) (s16 : St), f_X1_compareLights_L32 N c13 c14 k17 n19 v15 s16 = some sr → E mX1_compareLights 4 (none, sr) 32 [some (.ref c13), some (.int c14), some (.int v15)] [] s16 := by
  intro n19
  induction n19 with
  | zero =>
    intro v15 s16 h
    rw [f_X1_compareLights_L32] at h; cases h
  | succ n19 ih20 =>
    intro v15 s16 h
    rw [f_X1_compareLights_L32] at h
    refine e_iload_n qX1_compareLights_32 rfl ?_
    refine e_iload_n qX1_compareLights_33 rfl ?_
    refine e_icmp_ge (tgt := 49) qX1_compareLights_34 rfl h (fun _ h => ?_) (fun _ h => ?_)
    · exact e_weak (hk17 _ h) ⟨Or.inr rfl, Or.inr rfl, Or.inl rfl, trivial⟩
    refine e_aload_n qX1_compareLights_37 rfl ?_
    refine e_iload_n qX1_compareLights_38 rfl ?_
    refine e_iload_n qX1_compareLights_39 rfl ?_
    obtain ⟨s21, hc, h⟩ := bp_e h
    refine e_cVv2 qX1_compareLights_40 mv_X1_54 h_c13 rfl rfl (w_X1_comparePair h_c13 hc) ?_
    refine vl_e h (fun h => ?_)
    obtain ⟨v22, ev22⟩ : ∃ y, v15 + (nI 1) = y := ⟨_, rfl⟩
    rw [ev22] at h
    refine e_iinc (nI 1) v22 (lv2 := [some (.ref c13), some (.int c14), some (.int v22)]) qX1_compareLights_43 rfl rfl rfl ev22 rfl ?_
    refine e_goto (tgt := 32) qX1_compareLights_46 rfl ?_
    exact e_weak (ih20 _ _ h) ⟨Or.inr rfl, Or.inr rfl, Or.inr rfl, trivial⟩

set_option maxRecDepth 20000 in
set_option maxHeartbeats 4000000 in
theorem w_X1_compareLights_L2 {N : Nat} {c1 : Nat}  {sr : St} (h_c1 : sh c1 = 1)  : ∀ (n4 : Nat) (v2 : Int32) (s3 : St), f_X1_compareLights_L2 N c1 n4 v2 s3 = some sr → E mX1_compareLights 4 (none, sr) 2 [some (.ref c1), some (.int v2), none] [] s3 := by
  intro n4
  induction n4 with
  | zero =>
    intro v2 s3 h
    rw [f_X1_compareLights_L2] at h; cases h
  | succ n4 ih5 =>
    intro v2 s3 h
    rw [f_X1_compareLights_L2] at h
    refine e_iload_n qX1_compareLights_2 rfl ?_
    refine e_aload_n qX1_compareLights_3 rfl ?_
    refine e_geti qX1_compareLights_4 fl_X1_29 h_c1 kdq_1_2 h (fun v6 h => ?_)
    refine e_icmp_ge (tgt := 55) qX1_compareLights_7 rfl h (fun _ h => ?_) (fun _ h => ?_)
    · exact e_vret qX1_compareLights_55 rfl (ret_v h)
    refine e_aload_n qX1_compareLights_10 rfl ?_
    refine e_getr (rr c1 0) qX1_compareLights_11 fl_X1_11 h_c1 kdq_1_0 rfl ?_
    refine e_iload_n qX1_compareLights_14 rfl ?_
    refine e_rald24 qX1_compareLights_15 (wt_1_0 _ h_c1).1 (wt_1_0 _ h_c1).2 h (fun i8 hi8 h => ?_)
    refine e_iconst (nI 0) qX1_compareLights_16 rfl ?_
    refine e_puti qX1_compareLights_17 fp_X1_48 (we_24 _ (wt_1_0 _ h_c1).1 _ hi8) kdq_4_12 h (fun s9 h => ?_)
    refine e_aload_n qX1_compareLights_20 rfl ?_
    refine e_getr (rr c1 0) qX1_compareLights_21 fl_X1_11 h_c1 kdq_1_0 rfl ?_
    refine e_iload_n qX1_compareLights_24 rfl ?_
    refine e_rald24 qX1_compareLights_25 (wt_1_0 _ h_c1).1 (wt_1_0 _ h_c1).2 h (fun i11 hi11 h => ?_)
    refine e_iconst (nI 0) qX1_compareLights_26 rfl ?_
    refine e_puti qX1_compareLights_27 fp_X1_51 (we_24 _ (wt_1_0 _ h_c1).1 _ hi11) kdq_4_13 h (fun s12 h => ?_)
    refine e_iconst (nI 0) qX1_compareLights_30 rfl ?_
    refine e_istore_n (lv2 := [some (.ref c1), some (.int v2), some (.int (nI 0))]) qX1_compareLights_31 rfl rfl rfl ?_
    refine e_weak (w_X1_compareLights_L32 h_c1 (fun s23 h => ?_) _ _ _ h) ⟨Or.inr rfl, Or.inr rfl, Or.inr rfl, trivial⟩
    refine vl_e h (fun h => ?_)
    obtain ⟨v24, ev24⟩ : ∃ y, v2 + (nI 1) = y := ⟨_, rfl⟩
    rw [ev24] at h
    refine e_iinc (nI 1) v24 (lv2 := [some (.ref c1), some (.int v24), none]) qX1_compareLights_49 rfl rfl rfl ev24 rfl ?_
    refine e_goto (tgt := 2) qX1_compareLights_52 rfl ?_
    exact e_weak (ih5 _ _ h) ⟨Or.inr rfl, Or.inr rfl, Or.inl rfl, trivial⟩

set_option maxRecDepth 20000 in
set_option maxHeartbeats 4000000 in
theorem w_X1_compareLights {N : Nat} {a0 : Nat} {s0 : St} {sr : St} (h_a0 : sh a0 = 1) (h : f_X1_compareLights N a0 s0 = some sr) : Ct mX1_compareLights 4 [.ref a0] s0 (none, sr) := by
  refine Ct.ofE (by decide +kernel) rfl ?_
  show E mX1_compareLights 4 (none, sr) 0 [some (.ref a0), none, none] [] s0
  unfold f_X1_compareLights at h
  refine e_iconst (nI 0) qX1_compareLights_0 rfl ?_
  refine e_istore_n (lv2 := [some (.ref a0), some (.int (nI 0)), none]) qX1_compareLights_1 rfl rfl rfl ?_
  exact e_weak (w_X1_compareLights_L2 h_a0  _ _ _ h) ⟨Or.inr rfl, Or.inr rfl, Or.inl rfl, trivial⟩

def f_X1_readLight (N : Nat) (a0 : Nat) (s0 : St) : Option (Int32 × St) :=
  vl (s0.1 a0 2) fun v1 =>
  if v1 < (nI 8) then
    bp (f_X9_next N s0) fun s2 =>
    bd (f_X1_atNewName N a0 s2) fun v3 s4 =>
    if v3 = 0 then
      some ((nI 0), s4)
    else
    vl (s4.1 a0 2) fun v5 =>
    ald (rr (rr a0 0)) 8 v5 fun v6 =>
    vl (s4.2 1 3) fun v8 =>
    bp (f_X4_begin v6 v8 s4) fun s9 =>
    bp (f_X9_next N s9) fun s10 =>
    bd (f_X9_takeNumber N (nI 0) (nI 19) s10) fun v11 s12 =>
    if v11 = 0 then
      some ((nI 0), s12)
    else
    vl (s12.1 1 5) fun v13 =>
    vl (sI s12 v6 1 v13) fun s14 =>
    bd (f_X9_takeNumber N (nI 0) (nI 19) s14) fun v15 s16 =>
    if v15 = 0 then
      some ((nI 0), s16)
    else
    vl (s16.1 1 5) fun v17 =>
    vl (sI s16 v6 2 v17) fun s18 =>
    bd (f_X9_takeNumber N (nI 1) (nI 30) s18) fun v19 s20 =>
    if v19 = 0 then
      some ((nI 0), s20)
    else
    vl (s20.1 1 5) fun v21 =>
    vl (sI s20 v6 3 v21) fun s22 =>
    bp (f_X1_colourAt s22) fun v23 =>
    vl (sI s22 v6 4 v23) fun s24 =>
    vl (s24.1 v6 4) fun v25 =>
    if v25 = 0 then
      bd (f_X9_refuse (nI 1) s24) fun v26 s27 =>
      rz v26 <|
      some (v26, s27)
    else
    bp (f_X9_next N s24) fun s28 =>
    bd (f_X9_takeNumber N (nI 0) (nI 999) s28) fun v29 s30 =>
    if v29 = 0 then
      some ((nI 0), s30)
    else
    vl (s30.1 1 5) fun v31 =>
    vl (sI s30 v6 5 v31) fun s32 =>
    vl (s32.1 a0 2) fun v33 =>
    vl (sI s32 a0 2 (v33 + (nI 1))) fun s34 =>
    some ((nI 1), s34)
  else
  bd (f_X9_refuse (nI 4) s0) fun v35 s36 =>
  rz v35 <|
  some (v35, s36)

theorem qX1_readLight_0 : Dc mX1_readLight 0 (.aload_n 0) 1 1 := ⟨by decide +kernel, rfl⟩
theorem qX1_readLight_1 : Dc mX1_readLight 1 (.getfield 29) 3 4 := ⟨by decide +kernel, rfl⟩
theorem qX1_readLight_4 : Dc mX1_readLight 4 (.bipush 8) 2 6 := ⟨by decide +kernel, rfl⟩
theorem qX1_readLight_6 : Dc mX1_readLight 6 (.if_icmp .lt 9) 3 9 := ⟨by decide +kernel, rfl⟩
theorem qX1_readLight_9 : Dc mX1_readLight 9 (.aload_n 1) 1 10 := ⟨by decide +kernel, rfl⟩
theorem qX1_readLight_10 : Dc mX1_readLight 10 (.iconst 4) 1 11 := ⟨by decide +kernel, rfl⟩
theorem qX1_readLight_11 : Dc mX1_readLight 11 (.invokevirtual 147) 3 14 := ⟨by decide +kernel, rfl⟩
theorem qX1_readLight_14 : Dc mX1_readLight 14 (.ireturn) 1 15 := ⟨by decide +kernel, rfl⟩
theorem qX1_readLight_15 : Dc mX1_readLight 15 (.aload_n 1) 1 16 := ⟨by decide +kernel, rfl⟩
theorem qX1_readLight_16 : Dc mX1_readLight 16 (.invokevirtual 150) 3 19 := ⟨by decide +kernel, rfl⟩
theorem qX1_readLight_19 : Dc mX1_readLight 19 (.aload_n 0) 1 20 := ⟨by decide +kernel, rfl⟩
theorem qX1_readLight_20 : Dc mX1_readLight 20 (.aload_n 1) 1 21 := ⟨by decide +kernel, rfl⟩
theorem qX1_readLight_21 : Dc mX1_readLight 21 (.invokevirtual 153) 3 24 := ⟨by decide +kernel, rfl⟩
theorem qX1_readLight_24 : Dc mX1_readLight 24 (.ifCond .ne 5) 3 27 := ⟨by decide +kernel, rfl⟩
theorem qX1_readLight_27 : Dc mX1_readLight 27 (.iconst 0) 1 28 := ⟨by decide +kernel, rfl⟩
theorem qX1_readLight_28 : Dc mX1_readLight 28 (.ireturn) 1 29 := ⟨by decide +kernel, rfl⟩
theorem qX1_readLight_29 : Dc mX1_readLight 29 (.aload_n 0) 1 30 := ⟨by decide +kernel, rfl⟩
theorem qX1_readLight_30 : Dc mX1_readLight 30 (.getfield 11) 3 33 := ⟨by decide +kernel, rfl⟩
theorem qX1_readLight_33 : Dc mX1_readLight 33 (.aload_n 0) 1 34 := ⟨by decide +kernel, rfl⟩
theorem qX1_readLight_34 : Dc mX1_readLight 34 (.getfield 29) 3 37 := ⟨by decide +kernel, rfl⟩
theorem qX1_readLight_37 : Dc mX1_readLight 37 (.aaload) 1 38 := ⟨by decide +kernel, rfl⟩
theorem qX1_readLight_38 : Dc mX1_readLight 38 (.astore_n 2) 1 39 := ⟨by decide +kernel, rfl⟩
theorem qX1_readLight_39 : Dc mX1_readLight 39 (.aload_n 2) 1 40 := ⟨by decide +kernel, rfl⟩
theorem qX1_readLight_40 : Dc mX1_readLight 40 (.aload_n 1) 1 41 := ⟨by decide +kernel, rfl⟩
theorem qX1_readLight_41 : Dc mX1_readLight 41 (.getfield 156) 3 44 := ⟨by decide +kernel, rfl⟩
theorem qX1_readLight_44 : Dc mX1_readLight 44 (.invokevirtual 160) 3 47 := ⟨by decide +kernel, rfl⟩
theorem qX1_readLight_47 : Dc mX1_readLight 47 (.aload_n 1) 1 48 := ⟨by decide +kernel, rfl⟩
theorem qX1_readLight_48 : Dc mX1_readLight 48 (.invokevirtual 150) 3 51 := ⟨by decide +kernel, rfl⟩
theorem qX1_readLight_51 : Dc mX1_readLight 51 (.aload_n 1) 1 52 := ⟨by decide +kernel, rfl⟩
theorem qX1_readLight_52 : Dc mX1_readLight 52 (.iconst 0) 1 53 := ⟨by decide +kernel, rfl⟩
theorem qX1_readLight_53 : Dc mX1_readLight 53 (.bipush 19) 2 55 := ⟨by decide +kernel, rfl⟩
theorem qX1_readLight_55 : Dc mX1_readLight 55 (.invokevirtual 164) 3 58 := ⟨by decide +kernel, rfl⟩
theorem qX1_readLight_58 : Dc mX1_readLight 58 (.ifCond .ne 5) 3 61 := ⟨by decide +kernel, rfl⟩
theorem qX1_readLight_61 : Dc mX1_readLight 61 (.iconst 0) 1 62 := ⟨by decide +kernel, rfl⟩
theorem qX1_readLight_62 : Dc mX1_readLight 62 (.ireturn) 1 63 := ⟨by decide +kernel, rfl⟩
theorem qX1_readLight_63 : Dc mX1_readLight 63 (.aload_n 2) 1 64 := ⟨by decide +kernel, rfl⟩
theorem qX1_readLight_64 : Dc mX1_readLight 64 (.aload_n 1) 1 65 := ⟨by decide +kernel, rfl⟩
theorem qX1_readLight_65 : Dc mX1_readLight 65 (.getfield 168) 3 68 := ⟨by decide +kernel, rfl⟩
theorem qX1_readLight_68 : Dc mX1_readLight 68 (.putfield 171) 3 71 := ⟨by decide +kernel, rfl⟩
theorem qX1_readLight_71 : Dc mX1_readLight 71 (.aload_n 1) 1 72 := ⟨by decide +kernel, rfl⟩
theorem qX1_readLight_72 : Dc mX1_readLight 72 (.iconst 0) 1 73 := ⟨by decide +kernel, rfl⟩
theorem qX1_readLight_73 : Dc mX1_readLight 73 (.bipush 19) 2 75 := ⟨by decide +kernel, rfl⟩
theorem qX1_readLight_75 : Dc mX1_readLight 75 (.invokevirtual 164) 3 78 := ⟨by decide +kernel, rfl⟩
theorem qX1_readLight_78 : Dc mX1_readLight 78 (.ifCond .ne 5) 3 81 := ⟨by decide +kernel, rfl⟩
theorem qX1_readLight_81 : Dc mX1_readLight 81 (.iconst 0) 1 82 := ⟨by decide +kernel, rfl⟩
theorem qX1_readLight_82 : Dc mX1_readLight 82 (.ireturn) 1 83 := ⟨by decide +kernel, rfl⟩
theorem qX1_readLight_83 : Dc mX1_readLight 83 (.aload_n 2) 1 84 := ⟨by decide +kernel, rfl⟩
theorem qX1_readLight_84 : Dc mX1_readLight 84 (.aload_n 1) 1 85 := ⟨by decide +kernel, rfl⟩
theorem qX1_readLight_85 : Dc mX1_readLight 85 (.getfield 168) 3 88 := ⟨by decide +kernel, rfl⟩
theorem qX1_readLight_88 : Dc mX1_readLight 88 (.putfield 174) 3 91 := ⟨by decide +kernel, rfl⟩
theorem qX1_readLight_91 : Dc mX1_readLight 91 (.aload_n 1) 1 92 := ⟨by decide +kernel, rfl⟩
theorem qX1_readLight_92 : Dc mX1_readLight 92 (.iconst 1) 1 93 := ⟨by decide +kernel, rfl⟩
theorem qX1_readLight_93 : Dc mX1_readLight 93 (.bipush 30) 2 95 := ⟨by decide +kernel, rfl⟩
theorem qX1_readLight_95 : Dc mX1_readLight 95 (.invokevirtual 164) 3 98 := ⟨by decide +kernel, rfl⟩
theorem qX1_readLight_98 : Dc mX1_readLight 98 (.ifCond .ne 5) 3 101 := ⟨by decide +kernel, rfl⟩
theorem qX1_readLight_101 : Dc mX1_readLight 101 (.iconst 0) 1 102 := ⟨by decide +kernel, rfl⟩
theorem qX1_readLight_102 : Dc mX1_readLight 102 (.ireturn) 1 103 := ⟨by decide +kernel, rfl⟩
theorem qX1_readLight_103 : Dc mX1_readLight 103 (.aload_n 2) 1 104 := ⟨by decide +kernel, rfl⟩
theorem qX1_readLight_104 : Dc mX1_readLight 104 (.aload_n 1) 1 105 := ⟨by decide +kernel, rfl⟩
theorem qX1_readLight_105 : Dc mX1_readLight 105 (.getfield 168) 3 108 := ⟨by decide +kernel, rfl⟩
theorem qX1_readLight_108 : Dc mX1_readLight 108 (.putfield 177) 3 111 := ⟨by decide +kernel, rfl⟩
theorem qX1_readLight_111 : Dc mX1_readLight 111 (.aload_n 2) 1 112 := ⟨by decide +kernel, rfl⟩
theorem qX1_readLight_112 : Dc mX1_readLight 112 (.aload_n 1) 1 113 := ⟨by decide +kernel, rfl⟩
theorem qX1_readLight_113 : Dc mX1_readLight 113 (.invokestatic 180) 3 116 := ⟨by decide +kernel, rfl⟩
theorem qX1_readLight_116 : Dc mX1_readLight 116 (.putfield 184) 3 119 := ⟨by decide +kernel, rfl⟩
theorem qX1_readLight_119 : Dc mX1_readLight 119 (.aload_n 2) 1 120 := ⟨by decide +kernel, rfl⟩
theorem qX1_readLight_120 : Dc mX1_readLight 120 (.getfield 184) 3 123 := ⟨by decide +kernel, rfl⟩
theorem qX1_readLight_123 : Dc mX1_readLight 123 (.ifCond .ne 9) 3 126 := ⟨by decide +kernel, rfl⟩
theorem qX1_readLight_126 : Dc mX1_readLight 126 (.aload_n 1) 1 127 := ⟨by decide +kernel, rfl⟩
theorem qX1_readLight_127 : Dc mX1_readLight 127 (.iconst 1) 1 128 := ⟨by decide +kernel, rfl⟩
theorem qX1_readLight_128 : Dc mX1_readLight 128 (.invokevirtual 147) 3 131 := ⟨by decide +kernel, rfl⟩
theorem qX1_readLight_131 : Dc mX1_readLight 131 (.ireturn) 1 132 := ⟨by decide +kernel, rfl⟩
theorem qX1_readLight_132 : Dc mX1_readLight 132 (.aload_n 1) 1 133 := ⟨by decide +kernel, rfl⟩
theorem qX1_readLight_133 : Dc mX1_readLight 133 (.invokevirtual 150) 3 136 := ⟨by decide +kernel, rfl⟩
theorem qX1_readLight_136 : Dc mX1_readLight 136 (.aload_n 1) 1 137 := ⟨by decide +kernel, rfl⟩
theorem qX1_readLight_137 : Dc mX1_readLight 137 (.iconst 0) 1 138 := ⟨by decide +kernel, rfl⟩
theorem qX1_readLight_138 : Dc mX1_readLight 138 (.sipush 999) 3 141 := ⟨by decide +kernel, rfl⟩
theorem qX1_readLight_141 : Dc mX1_readLight 141 (.invokevirtual 164) 3 144 := ⟨by decide +kernel, rfl⟩
theorem qX1_readLight_144 : Dc mX1_readLight 144 (.ifCond .ne 5) 3 147 := ⟨by decide +kernel, rfl⟩
theorem qX1_readLight_147 : Dc mX1_readLight 147 (.iconst 0) 1 148 := ⟨by decide +kernel, rfl⟩
theorem qX1_readLight_148 : Dc mX1_readLight 148 (.ireturn) 1 149 := ⟨by decide +kernel, rfl⟩
theorem qX1_readLight_149 : Dc mX1_readLight 149 (.aload_n 2) 1 150 := ⟨by decide +kernel, rfl⟩
theorem qX1_readLight_150 : Dc mX1_readLight 150 (.aload_n 1) 1 151 := ⟨by decide +kernel, rfl⟩
theorem qX1_readLight_151 : Dc mX1_readLight 151 (.getfield 168) 3 154 := ⟨by decide +kernel, rfl⟩
theorem qX1_readLight_154 : Dc mX1_readLight 154 (.putfield 187) 3 157 := ⟨by decide +kernel, rfl⟩
theorem qX1_readLight_157 : Dc mX1_readLight 157 (.aload_n 0) 1 158 := ⟨by decide +kernel, rfl⟩
theorem qX1_readLight_158 : Dc mX1_readLight 158 (.dup) 1 159 := ⟨by decide +kernel, rfl⟩
theorem qX1_readLight_159 : Dc mX1_readLight 159 (.getfield 29) 3 162 := ⟨by decide +kernel, rfl⟩
theorem qX1_readLight_162 : Dc mX1_readLight 162 (.iconst 1) 1 163 := ⟨by decide +kernel, rfl⟩
theorem qX1_readLight_163 : Dc mX1_readLight 163 (.iadd) 1 164 := ⟨by decide +kernel, rfl⟩
theorem qX1_readLight_164 : Dc mX1_readLight 164 (.putfield 29) 3 167 := ⟨by decide +kernel, rfl⟩
theorem qX1_readLight_167 : Dc mX1_readLight 167 (.iconst 1) 1 168 := ⟨by decide +kernel, rfl⟩
theorem qX1_readLight_168 : Dc mX1_readLight 168 (.ireturn) 1 169 := ⟨by decide +kernel, rfl⟩

set_option maxRecDepth 20000 in
set_option maxHeartbeats 4000000 in
theorem w_X1_readLight {N : Nat} {a0 : Nat} {s0 : St} {r : Int32} {sr : St} (h_a0 : sh a0 = 1) (h : f_X1_readLight N a0 s0 = some (r, sr)) : Ct mX1_readLight 3 [.ref a0, .ref 1] s0 (some (.int r), sr) := by
  refine Ct.ofE (by decide +kernel) rfl ?_
  show E mX1_readLight 3 (some (.int r), sr) 0 [some (.ref a0), some (.ref 1), none] [] s0
  unfold f_X1_readLight at h
  refine e_aload_n qX1_readLight_0 rfl ?_
  refine e_geti qX1_readLight_1 fl_X1_29 h_a0 kdq_1_2 h (fun v1 h => ?_)
  refine e_bipush (nI 8) qX1_readLight_4 rfl ?_
  refine e_icmp_lt (tgt := 15) qX1_readLight_6 rfl h (fun _ h => ?_) (fun _ h => ?_)
  · refine e_aload_n qX1_readLight_15 rfl ?_
    obtain ⟨s2, hc, h⟩ := bp_e h
    refine e_cVv0 qX1_readLight_16 mv_X1_150 shq_1 rfl rfl (w_X9_next hc) ?_
    refine e_aload_n qX1_readLight_19 rfl ?_
    refine e_aload_n qX1_readLight_20 rfl ?_
    obtain ⟨v3, s4, hc, h⟩ := bd_e h
    refine e_cVi1 qX1_readLight_21 mv_X1_153 h_a0 rfl rfl (w_X1_atNewName h_a0 hc) ?_
    refine e_if_ne (tgt := 29) qX1_readLight_24 rfl h (fun _ h => ?_) (fun _ h => ?_)
    · refine e_iconst (nI 0) qX1_readLight_27 rfl ?_
      exact e_zret qX1_readLight_28 rfl (by decide) (ret_i h)
    refine e_aload_n qX1_readLight_29 rfl ?_
    refine e_getr (rr a0 0) qX1_readLight_30 fl_X1_11 h_a0 kdq_1_0 rfl ?_
    refine e_aload_n qX1_readLight_33 rfl ?_
    refine e_geti qX1_readLight_34 fl_X1_29 h_a0 kdq_1_2 h (fun v5 h => ?_)
    refine e_rald24 qX1_readLight_37 (wt_1_0 _ h_a0).1 (wt_1_0 _ h_a0).2 h (fun i7 hi7 h => ?_)
    refine e_astore_n (lv2 := [some (.ref a0), some (.ref 1), some (.ref (rr (rr a0 0) i7))]) qX1_readLight_38 rfl rfl rfl ?_
    refine e_aload_n qX1_readLight_39 rfl ?_
    refine e_aload_n qX1_readLight_40 rfl ?_
    refine e_getl qX1_readLight_41 fl_X1_156 shq_1 kdq_9_3 h (fun v8 h => ?_)
    obtain ⟨s9, hc, h⟩ := bp_e h
    refine e_cVv1 qX1_readLight_44 mv_X1_160 (we_24 _ (wt_1_0 _ h_a0).1 _ hi7) rfl rfl (w_X4_begin (we_24 _ (wt_1_0 _ h_a0).1 _ hi7) hc) ?_
    refine e_aload_n qX1_readLight_47 rfl ?_
    obtain ⟨s10, hc, h⟩ := bp_e h
    refine e_cVv0 qX1_readLight_48 mv_X1_150 shq_1 rfl rfl (w_X9_next hc) ?_
    refine e_aload_n qX1_readLight_51 rfl ?_
    refine e_iconst (nI 0) qX1_readLight_52 rfl ?_
    refine e_bipush (nI 19) qX1_readLight_53 rfl ?_
    obtain ⟨v11, s12, hc, h⟩ := bd_e h
    refine e_cVi2 qX1_readLight_55 mv_X1_164 shq_1 rfl rfl (w_X9_takeNumber hc) ?_
    refine e_if_ne (tgt := 63) qX1_readLight_58 rfl h (fun _ h => ?_) (fun _ h => ?_)
    · refine e_iconst (nI 0) qX1_readLight_61 rfl ?_
      exact e_zret qX1_readLight_62 rfl (by decide) (ret_i h)
    refine e_aload_n qX1_readLight_63 rfl ?_
    refine e_aload_n qX1_readLight_64 rfl ?_
    refine e_geti qX1_readLight_65 fl_X1_168 shq_1 kdq_9_5 h (fun v13 h => ?_)
    refine e_puti qX1_readLight_68 fp_X1_171 (we_24 _ (wt_1_0 _ h_a0).1 _ hi7) kdq_4_1 h (fun s14 h => ?_)
    refine e_aload_n qX1_readLight_71 rfl ?_
    refine e_iconst (nI 0) qX1_readLight_72 rfl ?_
    refine e_bipush (nI 19) qX1_readLight_73 rfl ?_
    obtain ⟨v15, s16, hc, h⟩ := bd_e h
    refine e_cVi2 qX1_readLight_75 mv_X1_164 shq_1 rfl rfl (w_X9_takeNumber hc) ?_
    refine e_if_ne (tgt := 83) qX1_readLight_78 rfl h (fun _ h => ?_) (fun _ h => ?_)
    · refine e_iconst (nI 0) qX1_readLight_81 rfl ?_
      exact e_zret qX1_readLight_82 rfl (by decide) (ret_i h)
    refine e_aload_n qX1_readLight_83 rfl ?_
    refine e_aload_n qX1_readLight_84 rfl ?_
    refine e_geti qX1_readLight_85 fl_X1_168 shq_1 kdq_9_5 h (fun v17 h => ?_)
    refine e_puti qX1_readLight_88 fp_X1_174 (we_24 _ (wt_1_0 _ h_a0).1 _ hi7) kdq_4_2 h (fun s18 h => ?_)
    refine e_aload_n qX1_readLight_91 rfl ?_
    refine e_iconst (nI 1) qX1_readLight_92 rfl ?_
    refine e_bipush (nI 30) qX1_readLight_93 rfl ?_
    obtain ⟨v19, s20, hc, h⟩ := bd_e h
    refine e_cVi2 qX1_readLight_95 mv_X1_164 shq_1 rfl rfl (w_X9_takeNumber hc) ?_
    refine e_if_ne (tgt := 103) qX1_readLight_98 rfl h (fun _ h => ?_) (fun _ h => ?_)
    · refine e_iconst (nI 0) qX1_readLight_101 rfl ?_
      exact e_zret qX1_readLight_102 rfl (by decide) (ret_i h)
    refine e_aload_n qX1_readLight_103 rfl ?_
    refine e_aload_n qX1_readLight_104 rfl ?_
    refine e_geti qX1_readLight_105 fl_X1_168 shq_1 kdq_9_5 h (fun v21 h => ?_)
    refine e_puti qX1_readLight_108 fp_X1_177 (we_24 _ (wt_1_0 _ h_a0).1 _ hi7) kdq_4_3 h (fun s22 h => ?_)
    refine e_aload_n qX1_readLight_111 rfl ?_
    refine e_aload_n qX1_readLight_112 rfl ?_
    obtain ⟨v23, hc, h⟩ := bp_e h
    refine e_cSi1 qX1_readLight_113 ms_X1_180 rfl rfl (w_X1_colourAt hc) ?_
    refine e_puti qX1_readLight_116 fp_X1_184 (we_24 _ (wt_1_0 _ h_a0).1 _ hi7) kdq_4_4 h (fun s24 h => ?_)
    refine e_aload_n qX1_readLight_119 rfl ?_
    refine e_geti qX1_readLight_120 fl_X1_184 (we_24 _ (wt_1_0 _ h_a0).1 _ hi7) kdq_4_4 h (fun v25 h => ?_)
    refine e_if_ne (tgt := 132) qX1_readLight_123 rfl h (fun _ h => ?_) (fun _ h => ?_)
    · refine e_aload_n qX1_readLight_126 rfl ?_
      refine e_iconst (nI 1) qX1_readLight_127 rfl ?_
      obtain ⟨v26, s27, hc, h⟩ := bd_e h
      refine e_cVi1 qX1_readLight_128 mv_X1_147 shq_1 rfl rfl (w_X9_refuse hc) ?_
      refine rz_e h (fun hz h => ?_)
      exact e_zret qX1_readLight_131 rfl hz (ret_i h)
    refine e_aload_n qX1_readLight_132 rfl ?_
    obtain ⟨s28, hc, h⟩ := bp_e h
    refine e_cVv0 qX1_readLight_133 mv_X1_150 shq_1 rfl rfl (w_X9_next hc) ?_
    refine e_aload_n qX1_readLight_136 rfl ?_
    refine e_iconst (nI 0) qX1_readLight_137 rfl ?_
    refine e_sipush (nI 999) qX1_readLight_138 rfl ?_
    obtain ⟨v29, s30, hc, h⟩ := bd_e h
    refine e_cVi2 qX1_readLight_141 mv_X1_164 shq_1 rfl rfl (w_X9_takeNumber hc) ?_
    refine e_if_ne (tgt := 149) qX1_readLight_144 rfl h (fun _ h => ?_) (fun _ h => ?_)
    · refine e_iconst (nI 0) qX1_readLight_147 rfl ?_
      exact e_zret qX1_readLight_148 rfl (by decide) (ret_i h)
    refine e_aload_n qX1_readLight_149 rfl ?_
    refine e_aload_n qX1_readLight_150 rfl ?_
    refine e_geti qX1_readLight_151 fl_X1_168 shq_1 kdq_9_5 h (fun v31 h => ?_)
    refine e_puti qX1_readLight_154 fp_X1_187 (we_24 _ (wt_1_0 _ h_a0).1 _ hi7) kdq_4_5 h (fun s32 h => ?_)
    refine e_aload_n qX1_readLight_157 rfl ?_
    refine e_dup qX1_readLight_158 rfl ?_
    refine e_geti qX1_readLight_159 fl_X1_29 h_a0 kdq_1_2 h (fun v33 h => ?_)
    refine e_iconst (nI 1) qX1_readLight_162 rfl ?_
    refine e_iadd qX1_readLight_163 ?_
    refine e_puti qX1_readLight_164 fp_X1_29 h_a0 kdq_1_2 h (fun s34 h => ?_)
    refine e_iconst (nI 1) qX1_readLight_167 rfl ?_
    exact e_zret qX1_readLight_168 rfl (by decide) (ret_i h)
  refine e_aload_n qX1_readLight_9 rfl ?_
  refine e_iconst (nI 4) qX1_readLight_10 rfl ?_
  obtain ⟨v35, s36, hc, h⟩ := bd_e h
  refine e_cVi1 qX1_readLight_11 mv_X1_147 shq_1 rfl rfl (w_X9_refuse hc) ?_
  refine rz_e h (fun hz h => ?_)
  exact e_zret qX1_readLight_14 rfl hz (ret_i h)

def f_X1_readFlash (N : Nat) (a0 : Nat) (s0 : St) : Option (Int32 × St) :=
  bp (f_X9_next N s0) fun s1 =>
  bd (f_X1_lightAt N a0 s1) fun v2 s3 =>
  if v2 = (-1) then
    some ((nI 0), s3)
  else
  ald (rr (rr a0 0)) 8 v2 fun v4 =>
  vl (s3.1 v4 9) fun v6 =>
  if v6 < (nI 4) then
    bp (f_X9_next N s3) fun s7 =>
    bd (f_X9_takeNumber N (nI 1) (nI 20) s7) fun v8 s9 =>
    if v8 = 0 then
      some ((nI 0), s9)
    else
    vl (s9.1 1 5) fun v10 =>
    bd (f_X9_takeNumber N (nI 1) (nI 20) s9) fun v11 s12 =>
    if v11 = 0 then
      some ((nI 0), s12)
    else
    ald (rr (rr a0 0)) 8 v2 fun v13 =>
    vl (s12.1 1 5) fun v15 =>
    bp (f_X4_addFlash N v13 v10 v15 s12) fun s16 =>
    some ((nI 1), s16)
  else
  bd (f_X9_refuse (nI 4) s3) fun v17 s18 =>
  rz v17 <|
  some (v17, s18)

theorem qX1_readFlash_0 : Dc mX1_readFlash 0 (.aload_n 1) 1 1 := ⟨by decide +kernel, rfl⟩
theorem qX1_readFlash_1 : Dc mX1_readFlash 1 (.invokevirtual 150) 3 4 := ⟨by decide +kernel, rfl⟩
theorem qX1_readFlash_4 : Dc mX1_readFlash 4 (.aload_n 0) 1 5 := ⟨by decide +kernel, rfl⟩
theorem qX1_readFlash_5 : Dc mX1_readFlash 5 (.aload_n 1) 1 6 := ⟨by decide +kernel, rfl⟩
theorem qX1_readFlash_6 : Dc mX1_readFlash 6 (.invokevirtual 199) 3 9 := ⟨by decide +kernel, rfl⟩
theorem qX1_readFlash_9 : Dc mX1_readFlash 9 (.istore_n 2) 1 10 := ⟨by decide +kernel, rfl⟩
theorem qX1_readFlash_10 : Dc mX1_readFlash 10 (.iload_n 2) 1 11 := ⟨by decide +kernel, rfl⟩
theorem qX1_readFlash_11 : Dc mX1_readFlash 11 (.iconst (-1)) 1 12 := ⟨by decide +kernel, rfl⟩
theorem qX1_readFlash_12 : Dc mX1_readFlash 12 (.if_icmp .ne 5) 3 15 := ⟨by decide +kernel, rfl⟩
theorem qX1_readFlash_15 : Dc mX1_readFlash 15 (.iconst 0) 1 16 := ⟨by decide +kernel, rfl⟩
theorem qX1_readFlash_16 : Dc mX1_readFlash 16 (.ireturn) 1 17 := ⟨by decide +kernel, rfl⟩
theorem qX1_readFlash_17 : Dc mX1_readFlash 17 (.aload_n 0) 1 18 := ⟨by decide +kernel, rfl⟩
theorem qX1_readFlash_18 : Dc mX1_readFlash 18 (.getfield 11) 3 21 := ⟨by decide +kernel, rfl⟩
theorem qX1_readFlash_21 : Dc mX1_readFlash 21 (.iload_n 2) 1 22 := ⟨by decide +kernel, rfl⟩
theorem qX1_readFlash_22 : Dc mX1_readFlash 22 (.aaload) 1 23 := ⟨by decide +kernel, rfl⟩
theorem qX1_readFlash_23 : Dc mX1_readFlash 23 (.getfield 45) 3 26 := ⟨by decide +kernel, rfl⟩
theorem qX1_readFlash_26 : Dc mX1_readFlash 26 (.iconst 4) 1 27 := ⟨by decide +kernel, rfl⟩
theorem qX1_readFlash_27 : Dc mX1_readFlash 27 (.if_icmp .lt 9) 3 30 := ⟨by decide +kernel, rfl⟩
theorem qX1_readFlash_30 : Dc mX1_readFlash 30 (.aload_n 1) 1 31 := ⟨by decide +kernel, rfl⟩
theorem qX1_readFlash_31 : Dc mX1_readFlash 31 (.iconst 4) 1 32 := ⟨by decide +kernel, rfl⟩
theorem qX1_readFlash_32 : Dc mX1_readFlash 32 (.invokevirtual 147) 3 35 := ⟨by decide +kernel, rfl⟩
theorem qX1_readFlash_35 : Dc mX1_readFlash 35 (.ireturn) 1 36 := ⟨by decide +kernel, rfl⟩
theorem qX1_readFlash_36 : Dc mX1_readFlash 36 (.aload_n 1) 1 37 := ⟨by decide +kernel, rfl⟩
theorem qX1_readFlash_37 : Dc mX1_readFlash 37 (.invokevirtual 150) 3 40 := ⟨by decide +kernel, rfl⟩
theorem qX1_readFlash_40 : Dc mX1_readFlash 40 (.aload_n 1) 1 41 := ⟨by decide +kernel, rfl⟩
theorem qX1_readFlash_41 : Dc mX1_readFlash 41 (.iconst 1) 1 42 := ⟨by decide +kernel, rfl⟩
theorem qX1_readFlash_42 : Dc mX1_readFlash 42 (.bipush 20) 2 44 := ⟨by decide +kernel, rfl⟩
theorem qX1_readFlash_44 : Dc mX1_readFlash 44 (.invokevirtual 164) 3 47 := ⟨by decide +kernel, rfl⟩
theorem qX1_readFlash_47 : Dc mX1_readFlash 47 (.ifCond .ne 5) 3 50 := ⟨by decide +kernel, rfl⟩
theorem qX1_readFlash_50 : Dc mX1_readFlash 50 (.iconst 0) 1 51 := ⟨by decide +kernel, rfl⟩
theorem qX1_readFlash_51 : Dc mX1_readFlash 51 (.ireturn) 1 52 := ⟨by decide +kernel, rfl⟩
theorem qX1_readFlash_52 : Dc mX1_readFlash 52 (.aload_n 1) 1 53 := ⟨by decide +kernel, rfl⟩
theorem qX1_readFlash_53 : Dc mX1_readFlash 53 (.getfield 168) 3 56 := ⟨by decide +kernel, rfl⟩
theorem qX1_readFlash_56 : Dc mX1_readFlash 56 (.istore_n 3) 1 57 := ⟨by decide +kernel, rfl⟩
theorem qX1_readFlash_57 : Dc mX1_readFlash 57 (.aload_n 1) 1 58 := ⟨by decide +kernel, rfl⟩
theorem qX1_readFlash_58 : Dc mX1_readFlash 58 (.iconst 1) 1 59 := ⟨by decide +kernel, rfl⟩
theorem qX1_readFlash_59 : Dc mX1_readFlash 59 (.bipush 20) 2 61 := ⟨by decide +kernel, rfl⟩
theorem qX1_readFlash_61 : Dc mX1_readFlash 61 (.invokevirtual 164) 3 64 := ⟨by decide +kernel, rfl⟩
theorem qX1_readFlash_64 : Dc mX1_readFlash 64 (.ifCond .ne 5) 3 67 := ⟨by decide +kernel, rfl⟩
theorem qX1_readFlash_67 : Dc mX1_readFlash 67 (.iconst 0) 1 68 := ⟨by decide +kernel, rfl⟩
theorem qX1_readFlash_68 : Dc mX1_readFlash 68 (.ireturn) 1 69 := ⟨by decide +kernel, rfl⟩
theorem qX1_readFlash_69 : Dc mX1_readFlash 69 (.aload_n 0) 1 70 := ⟨by decide +kernel, rfl⟩
theorem qX1_readFlash_70 : Dc mX1_readFlash 70 (.getfield 11) 3 73 := ⟨by decide +kernel, rfl⟩
theorem qX1_readFlash_73 : Dc mX1_readFlash 73 (.iload_n 2) 1 74 := ⟨by decide +kernel, rfl⟩
theorem qX1_readFlash_74 : Dc mX1_readFlash 74 (.aaload) 1 75 := ⟨by decide +kernel, rfl⟩
theorem qX1_readFlash_75 : Dc mX1_readFlash 75 (.iload_n 3) 1 76 := ⟨by decide +kernel, rfl⟩
theorem qX1_readFlash_76 : Dc mX1_readFlash 76 (.aload_n 1) 1 77 := ⟨by decide +kernel, rfl⟩
theorem qX1_readFlash_77 : Dc mX1_readFlash 77 (.getfield 168) 3 80 := ⟨by decide +kernel, rfl⟩
theorem qX1_readFlash_80 : Dc mX1_readFlash 80 (.invokevirtual 202) 3 83 := ⟨by decide +kernel, rfl⟩
theorem qX1_readFlash_83 : Dc mX1_readFlash 83 (.iconst 1) 1 84 := ⟨by decide +kernel, rfl⟩
theorem qX1_readFlash_84 : Dc mX1_readFlash 84 (.ireturn) 1 85 := ⟨by decide +kernel, rfl⟩

set_option maxRecDepth 20000 in
set_option maxHeartbeats 4000000 in
theorem w_X1_readFlash {N : Nat} {a0 : Nat} {s0 : St} {r : Int32} {sr : St} (h_a0 : sh a0 = 1) (h : f_X1_readFlash N a0 s0 = some (r, sr)) : Ct mX1_readFlash 3 [.ref a0, .ref 1] s0 (some (.int r), sr) := by
  refine Ct.ofE (by decide +kernel) rfl ?_
  show E mX1_readFlash 3 (some (.int r), sr) 0 [some (.ref a0), some (.ref 1), none, none] [] s0
  unfold f_X1_readFlash at h
  refine e_aload_n qX1_readFlash_0 rfl ?_
  obtain ⟨s1, hc, h⟩ := bp_e h
  refine e_cVv0 qX1_readFlash_1 mv_X1_150 shq_1 rfl rfl (w_X9_next hc) ?_
  refine e_aload_n qX1_readFlash_4 rfl ?_
  refine e_aload_n qX1_readFlash_5 rfl ?_
  obtain ⟨v2, s3, hc, h⟩ := bd_e h
  refine e_cVi1 qX1_readFlash_6 mv_X1_199 h_a0 rfl rfl (w_X1_lightAt h_a0 hc) ?_
  refine e_istore_n (lv2 := [some (.ref a0), some (.ref 1), some (.int v2), none]) qX1_readFlash_9 rfl rfl rfl ?_
  refine e_iload_n qX1_readFlash_10 rfl ?_
  refine e_iconst (-1) qX1_readFlash_11 rfl ?_
  refine e_icmp_ne (tgt := 17) qX1_readFlash_12 rfl h (fun _ h => ?_) (fun _ h => ?_)
  · refine e_iconst (nI 0) qX1_readFlash_15 rfl ?_
    exact e_zret qX1_readFlash_16 rfl (by decide) (ret_i h)
  refine e_aload_n qX1_readFlash_17 rfl ?_
  refine e_getr (rr a0 0) qX1_readFlash_18 fl_X1_11 h_a0 kdq_1_0 rfl ?_
  refine e_iload_n qX1_readFlash_21 rfl ?_
  refine e_rald24 qX1_readFlash_22 (wt_1_0 _ h_a0).1 (wt_1_0 _ h_a0).2 h (fun i5 hi5 h => ?_)
  refine e_geti qX1_readFlash_23 fl_X1_45 (we_24 _ (wt_1_0 _ h_a0).1 _ hi5) kdq_4_9 h (fun v6 h => ?_)
  refine e_iconst (nI 4) qX1_readFlash_26 rfl ?_
  refine e_icmp_lt (tgt := 36) qX1_readFlash_27 rfl h (fun _ h => ?_) (fun _ h => ?_)
  · refine e_aload_n qX1_readFlash_36 rfl ?_
    obtain ⟨s7, hc, h⟩ := bp_e h
    refine e_cVv0 qX1_readFlash_37 mv_X1_150 shq_1 rfl rfl (w_X9_next hc) ?_
    refine e_aload_n qX1_readFlash_40 rfl ?_
    refine e_iconst (nI 1) qX1_readFlash_41 rfl ?_
    refine e_bipush (nI 20) qX1_readFlash_42 rfl ?_
    obtain ⟨v8, s9, hc, h⟩ := bd_e h
    refine e_cVi2 qX1_readFlash_44 mv_X1_164 shq_1 rfl rfl (w_X9_takeNumber hc) ?_
    refine e_if_ne (tgt := 52) qX1_readFlash_47 rfl h (fun _ h => ?_) (fun _ h => ?_)
    · refine e_iconst (nI 0) qX1_readFlash_50 rfl ?_
      exact e_zret qX1_readFlash_51 rfl (by decide) (ret_i h)
    refine e_aload_n qX1_readFlash_52 rfl ?_
    refine e_geti qX1_readFlash_53 fl_X1_168 shq_1 kdq_9_5 h (fun v10 h => ?_)
    refine e_istore_n (lv2 := [some (.ref a0), some (.ref 1), some (.int v2), some (.int v10)]) qX1_readFlash_56 rfl rfl rfl ?_
    refine e_aload_n qX1_readFlash_57 rfl ?_
    refine e_iconst (nI 1) qX1_readFlash_58 rfl ?_
    refine e_bipush (nI 20) qX1_readFlash_59 rfl ?_
    obtain ⟨v11, s12, hc, h⟩ := bd_e h
    refine e_cVi2 qX1_readFlash_61 mv_X1_164 shq_1 rfl rfl (w_X9_takeNumber hc) ?_
    refine e_if_ne (tgt := 69) qX1_readFlash_64 rfl h (fun _ h => ?_) (fun _ h => ?_)
    · refine e_iconst (nI 0) qX1_readFlash_67 rfl ?_
      exact e_zret qX1_readFlash_68 rfl (by decide) (ret_i h)
    refine e_aload_n qX1_readFlash_69 rfl ?_
    refine e_getr (rr a0 0) qX1_readFlash_70 fl_X1_11 h_a0 kdq_1_0 rfl ?_
    refine e_iload_n qX1_readFlash_73 rfl ?_
    refine e_rald24 qX1_readFlash_74 (wt_1_0 _ h_a0).1 (wt_1_0 _ h_a0).2 h (fun i14 hi14 h => ?_)
    refine e_iload_n qX1_readFlash_75 rfl ?_
    refine e_aload_n qX1_readFlash_76 rfl ?_
    refine e_geti qX1_readFlash_77 fl_X1_168 shq_1 kdq_9_5 h (fun v15 h => ?_)
    obtain ⟨s16, hc, h⟩ := bp_e h
    refine e_cVv2 qX1_readFlash_80 mv_X1_202 (we_24 _ (wt_1_0 _ h_a0).1 _ hi14) rfl rfl (w_X4_addFlash (we_24 _ (wt_1_0 _ h_a0).1 _ hi14) hc) ?_
    refine e_iconst (nI 1) qX1_readFlash_83 rfl ?_
    exact e_zret qX1_readFlash_84 rfl (by decide) (ret_i h)
  refine e_aload_n qX1_readFlash_30 rfl ?_
  refine e_iconst (nI 4) qX1_readFlash_31 rfl ?_
  obtain ⟨v17, s18, hc, h⟩ := bd_e h
  refine e_cVi1 qX1_readFlash_32 mv_X1_147 shq_1 rfl rfl (w_X9_refuse hc) ?_
  refine rz_e h (fun hz h => ?_)
  exact e_zret qX1_readFlash_35 rfl hz (ret_i h)
