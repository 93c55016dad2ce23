def f_X1_readFrom (N : Nat) (a0 : Nat) (s0 : St) : Option (Int32 × St) :=
  bp (f_X9_next N s0) fun s1 =>
  bd (f_X1_lightAt N a0 s1) fun v2 s3 =>
  if v2 = (-1) then
    some ((nI 0), s3)
  else
  ald (rr (rr a0 0)) 8 v2 fun v4 =>
  vl (s3.1 v4 7) fun v6 =>
  if v6 = 0 then
    bp (f_X9_next N s3) fun s7 =>
    bd (f_X9_takeNumber N (nI 0) (nI 59) s7) fun v8 s9 =>
    if v8 = 0 then
      some ((nI 0), s9)
    else
    ald (rr (rr a0 0)) 8 v2 fun v10 =>
    vl (s9.1 1 5) fun v12 =>
    vl (sI s9 v10 6 v12) fun s13 =>
    ald (rr (rr a0 0)) 8 v2 fun v14 =>
    vl (sI s13 v14 7 (nI 1)) fun s16 =>
    some ((nI 1), s16)
  else
  bd (f_X9_refuse (nI 3) s3) fun v17 s18 =>
  rz v17 <|
  some (v17, s18)

theorem qX1_readFrom_0 : Dc mX1_readFrom 0 (.aload_n 1) 1 1 := ⟨by decide +kernel, rfl⟩
theorem qX1_readFrom_1 : Dc mX1_readFrom 1 (.invokevirtual 150) 3 4 := ⟨by decide +kernel, rfl⟩
theorem qX1_readFrom_4 : Dc mX1_readFrom 4 (.aload_n 0) 1 5 := ⟨by decide +kernel, rfl⟩
theorem qX1_readFrom_5 : Dc mX1_readFrom 5 (.aload_n 1) 1 6 := ⟨by decide +kernel, rfl⟩
theorem qX1_readFrom_6 : Dc mX1_readFrom 6 (.invokevirtual 199) 3 9 := ⟨by decide +kernel, rfl⟩
theorem qX1_readFrom_9 : Dc mX1_readFrom 9 (.istore_n 2) 1 10 := ⟨by decide +kernel, rfl⟩
theorem qX1_readFrom_10 : Dc mX1_readFrom 10 (.iload_n 2) 1 11 := ⟨by decide +kernel, rfl⟩
theorem qX1_readFrom_11 : Dc mX1_readFrom 11 (.iconst (-1)) 1 12 := ⟨by decide +kernel, rfl⟩
theorem qX1_readFrom_12 : Dc mX1_readFrom 12 (.if_icmp .ne 5) 3 15 := ⟨by decide +kernel, rfl⟩
theorem qX1_readFrom_15 : Dc mX1_readFrom 15 (.iconst 0) 1 16 := ⟨by decide +kernel, rfl⟩
theorem qX1_readFrom_16 : Dc mX1_readFrom 16 (.ireturn) 1 17 := ⟨by decide +kernel, rfl⟩
theorem qX1_readFrom_17 : Dc mX1_readFrom 17 (.aload_n 0) 1 18 := ⟨by decide +kernel, rfl⟩
theorem qX1_readFrom_18 : Dc mX1_readFrom 18 (.getfield 11) 3 21 := ⟨by decide +kernel, rfl⟩
theorem qX1_readFrom_21 : Dc mX1_readFrom 21 (.iload_n 2) 1 22 := ⟨by decide +kernel, rfl⟩
theorem qX1_readFrom_22 : Dc mX1_readFrom 22 (.aaload) 1 23 := ⟨by decide +kernel, rfl⟩
theorem qX1_readFrom_23 : Dc mX1_readFrom 23 (.getfield 205) 3 26 := ⟨by decide +kernel, rfl⟩
theorem qX1_readFrom_26 : Dc mX1_readFrom 26 (.ifCond .eq 9) 3 29 := ⟨by decide +kernel, rfl⟩
theorem qX1_readFrom_29 : Dc mX1_readFrom 29 (.aload_n 1) 1 30 := ⟨by decide +kernel, rfl⟩
theorem qX1_readFrom_30 : Dc mX1_readFrom 30 (.iconst 3) 1 31 := ⟨by decide +kernel, rfl⟩
theorem qX1_readFrom_31 : Dc mX1_readFrom 31 (.invokevirtual 147) 3 34 := ⟨by decide +kernel, rfl⟩
theorem qX1_readFrom_34 : Dc mX1_readFrom 34 (.ireturn) 1 35 := ⟨by decide +kernel, rfl⟩
theorem qX1_readFrom_35 : Dc mX1_readFrom 35 (.aload_n 1) 1 36 := ⟨by decide +kernel, rfl⟩
theorem qX1_readFrom_36 : Dc mX1_readFrom 36 (.invokevirtual 150) 3 39 := ⟨by decide +kernel, rfl⟩
theorem qX1_readFrom_39 : Dc mX1_readFrom 39 (.aload_n 1) 1 40 := ⟨by decide +kernel, rfl⟩
theorem qX1_readFrom_40 : Dc mX1_readFrom 40 (.iconst 0) 1 41 := ⟨by decide +kernel, rfl⟩
theorem qX1_readFrom_41 : Dc mX1_readFrom 41 (.bipush 59) 2 43 := ⟨by decide +kernel, rfl⟩
theorem qX1_readFrom_43 : Dc mX1_readFrom 43 (.invokevirtual 164) 3 46 := ⟨by decide +kernel, rfl⟩
theorem qX1_readFrom_46 : Dc mX1_readFrom 46 (.ifCond .ne 5) 3 49 := ⟨by decide +kernel, rfl⟩
theorem qX1_readFrom_49 : Dc mX1_readFrom 49 (.iconst 0) 1 50 := ⟨by decide +kernel, rfl⟩
theorem qX1_readFrom_50 : Dc mX1_readFrom 50 (.ireturn) 1 51 := ⟨by decide +kernel, rfl⟩
theorem qX1_readFrom_51 : Dc mX1_readFrom 51 (.aload_n 0) 1 52 := ⟨by decide +kernel, rfl⟩
theorem qX1_readFrom_52 : Dc mX1_readFrom 52 (.getfield 11) 3 55 := ⟨by decide +kernel, rfl⟩
theorem qX1_readFrom_55 : Dc mX1_readFrom 55 (.iload_n 2) 1 56 := ⟨by decide +kernel, rfl⟩
theorem qX1_readFrom_56 : Dc mX1_readFrom 56 (.aaload) 1 57 := ⟨by decide +kernel, rfl⟩
theorem qX1_readFrom_57 : Dc mX1_readFrom 57 (.aload_n 1) 1 58 := ⟨by decide +kernel, rfl⟩
theorem qX1_readFrom_58 : Dc mX1_readFrom 58 (.getfield 168) 3 61 := ⟨by decide +kernel, rfl⟩
theorem qX1_readFrom_61 : Dc mX1_readFrom 61 (.putfield 208) 3 64 := ⟨by decide +kernel, rfl⟩
theorem qX1_readFrom_64 : Dc mX1_readFrom 64 (.aload_n 0) 1 65 := ⟨by decide +kernel, rfl⟩
theorem qX1_readFrom_65 : Dc mX1_readFrom 65 (.getfield 11) 3 68 := ⟨by decide +kernel, rfl⟩
theorem qX1_readFrom_68 : Dc mX1_readFrom 68 (.iload_n 2) 1 69 := ⟨by decide +kernel, rfl⟩
theorem qX1_readFrom_69 : Dc mX1_readFrom 69 (.aaload) 1 70 := ⟨by decide +kernel, rfl⟩
theorem qX1_readFrom_70 : Dc mX1_readFrom 70 (.iconst 1) 1 71 := ⟨by decide +kernel, rfl⟩
theorem qX1_readFrom_71 : Dc mX1_readFrom 71 (.putfield 205) 3 74 := ⟨by decide +kernel, rfl⟩
theorem qX1_readFrom_74 : Dc mX1_readFrom 74 (.iconst 1) 1 75 := ⟨by decide +kernel, rfl⟩
theorem qX1_readFrom_75 : Dc mX1_readFrom 75 (.ireturn) 1 76 := ⟨by decide +kernel, rfl⟩

set_option maxRecDepth 20000 in
set_option maxHeartbeats 4000000 in
theorem w_X1_readFrom {N : Nat} {a0 : Nat} {s0 : St} {r : Int32} {sr : St} (h_a0 : sh a0 = 1) (h : f_X1_readFrom N a0 s0 = some (r, sr)) : Ct mX1_readFrom 3 [.ref a0, .ref 1] s0 (some (.int r), sr) := by
  refine Ct.ofE (by decide +kernel) rfl ?_
  show E mX1_readFrom 3 (some (.int r), sr) 0 [some (.ref a0), some (.ref 1), none] [] s0
  unfold f_X1_readFrom at h
  refine e_aload_n qX1_readFrom_0 rfl ?_
  obtain ⟨s1, hc, h⟩ := bp_e h
  refine e_cVv0 qX1_readFrom_1 mv_X1_150 shq_1 rfl rfl (w_X9_next hc) ?_
  refine e_aload_n qX1_readFrom_4 rfl ?_
  refine e_aload_n qX1_readFrom_5 rfl ?_
  obtain ⟨v2, s3, hc, h⟩ := bd_e h
  refine e_cVi1 qX1_readFrom_6 mv_X1_199 h_a0 rfl rfl (w_X1_lightAt h_a0 hc) ?_
  refine e_istore_n (lv2 := [some (.ref a0), some (.ref 1), some (.int v2)]) qX1_readFrom_9 rfl rfl rfl ?_
  refine e_iload_n qX1_readFrom_10 rfl ?_
  refine e_iconst (-1) qX1_readFrom_11 rfl ?_
  refine e_icmp_ne (tgt := 17) qX1_readFrom_12 rfl h (fun _ h => ?_) (fun _ h => ?_)
  · refine e_iconst (nI 0) qX1_readFrom_15 rfl ?_
    exact e_zret qX1_readFrom_16 rfl (by decide) (ret_i h)
  refine e_aload_n qX1_readFrom_17 rfl ?_
  refine e_getr (rr a0 0) qX1_readFrom_18 fl_X1_11 h_a0 kdq_1_0 rfl ?_
  refine e_iload_n qX1_readFrom_21 rfl ?_
  refine e_rald24 qX1_readFrom_22 (wt_1_0 _ h_a0).1 (wt_1_0 _ h_a0).2 h (fun i5 hi5 h => ?_)
  refine e_geti qX1_readFrom_23 fl_X1_205 (we_24 _ (wt_1_0 _ h_a0).1 _ hi5) kdq_4_7 h (fun v6 h => ?_)
  refine e_if_eq (tgt := 35) qX1_readFrom_26 rfl h (fun _ h => ?_) (fun _ h => ?_)
  · refine e_aload_n qX1_readFrom_35 rfl ?_
    obtain ⟨s7, hc, h⟩ := bp_e h
    refine e_cVv0 qX1_readFrom_36 mv_X1_150 shq_1 rfl rfl (w_X9_next hc) ?_
    refine e_aload_n qX1_readFrom_39 rfl ?_
    refine e_iconst (nI 0) qX1_readFrom_40 rfl ?_
    refine e_bipush (nI 59) qX1_readFrom_41 rfl ?_
    obtain ⟨v8, s9, hc, h⟩ := bd_e h
    refine e_cVi2 qX1_readFrom_43 mv_X1_164 shq_1 rfl rfl (w_X9_takeNumber hc) ?_
    refine e_if_ne (tgt := 51) qX1_readFrom_46 rfl h (fun _ h => ?_) (fun _ h => ?_)
    · refine e_iconst (nI 0) qX1_readFrom_49 rfl ?_
      exact e_zret qX1_readFrom_50 rfl (by decide) (ret_i h)
    refine e_aload_n qX1_readFrom_51 rfl ?_
    refine e_getr (rr a0 0) qX1_readFrom_52 fl_X1_11 h_a0 kdq_1_0 rfl ?_
    refine e_iload_n qX1_readFrom_55 rfl ?_
    refine e_rald24 qX1_readFrom_56 (wt_1_0 _ h_a0).1 (wt_1_0 _ h_a0).2 h (fun i11 hi11 h => ?_)
    refine e_aload_n qX1_readFrom_57 rfl ?_
    refine e_geti qX1_readFrom_58 fl_X1_168 shq_1 kdq_9_5 h (fun v12 h => ?_)
    refine e_puti qX1_readFrom_61 fp_X1_208 (we_24 _ (wt_1_0 _ h_a0).1 _ hi11) kdq_4_6 h (fun s13 h => ?_)
    refine e_aload_n qX1_readFrom_64 rfl ?_
    refine e_getr (rr a0 0) qX1_readFrom_65 fl_X1_11 h_a0 kdq_1_0 rfl ?_
    refine e_iload_n qX1_readFrom_68 rfl ?_
    refine e_rald24 qX1_readFrom_69 (wt_1_0 _ h_a0).1 (wt_1_0 _ h_a0).2 h (fun i15 hi15 h => ?_)
    refine e_iconst (nI 1) qX1_readFrom_70 rfl ?_
    refine e_putz qX1_readFrom_71 fp_X1_205 (we_24 _ (wt_1_0 _ h_a0).1 _ hi15) kdq_4_7 (by decide) h (fun s16 h => ?_)
    refine e_iconst (nI 1) qX1_readFrom_74 rfl ?_
    exact e_zret qX1_readFrom_75 rfl (by decide) (ret_i h)
  refine e_aload_n qX1_readFrom_29 rfl ?_
  refine e_iconst (nI 3) qX1_readFrom_30 rfl ?_
  obtain ⟨v17, s18, hc, h⟩ := bd_e h
  refine e_cVi1 qX1_readFrom_31 mv_X1_147 shq_1 rfl rfl (w_X9_refuse hc) ?_
  refine rz_e h (fun hz h => ?_)
  exact e_zret qX1_readFrom_34 rfl hz (ret_i h)

def f_X1_readDark (N : Nat) (a0 : Nat) (s0 : St) : Option (Int32 × St) :=
  bp (f_X9_next N s0) fun s1 =>
  bd (f_X1_lightAt N a0 s1) fun v2 s3 =>
  if v2 = (-1) then
    some ((nI 0), s3)
  else
  bp (f_X9_next N s3) fun s4 =>
  bd (f_X9_atNumber (nI 0) (nI 7) s4) fun v5 s6 =>
  if v5 = 0 then
    some ((nI 0), s6)
  else
  ald (rr (rr a0 0)) 8 v2 fun v7 =>
  vl (s6.1 v7 8) fun v9 =>
  vl (s6.1 1 4) fun v10 =>
  if ((v9 >>> (v10 &&& 31)) &&& (nI 1)) = 0 then
    ald (rr (rr a0 0)) 8 v2 fun v11 =>
    vl (s6.1 v11 8) fun v13 =>
    vl (s6.1 1 4) fun v14 =>
    vl (sI s6 v11 8 (v13 ||| ((nI 1) <<< (v14 &&& 31)))) fun s15 =>
    bp (f_X9_next N s15) fun s16 =>
    some ((nI 1), s16)
  else
  bd (f_X9_refuse (nI 3) s6) fun v17 s18 =>
  rz v17 <|
  some (v17, s18)

theorem qX1_readDark_0 : Dc mX1_readDark 0 (.aload_n 1) 1 1 := ⟨by decide +kernel, rfl⟩
theorem qX1_readDark_1 : Dc mX1_readDark 1 (.invokevirtual 150) 3 4 := ⟨by decide +kernel, rfl⟩
theorem qX1_readDark_4 : Dc mX1_readDark 4 (.aload_n 0) 1 5 := ⟨by decide +kernel, rfl⟩
theorem qX1_readDark_5 : Dc mX1_readDark 5 (.aload_n 1) 1 6 := ⟨by decide +kernel, rfl⟩
theorem qX1_readDark_6 : Dc mX1_readDark 6 (.invokevirtual 199) 3 9 := ⟨by decide +kernel, rfl⟩
theorem qX1_readDark_9 : Dc mX1_readDark 9 (.istore_n 2) 1 10 := ⟨by decide +kernel, rfl⟩
theorem qX1_readDark_10 : Dc mX1_readDark 10 (.iload_n 2) 1 11 := ⟨by decide +kernel, rfl⟩
theorem qX1_readDark_11 : Dc mX1_readDark 11 (.iconst (-1)) 1 12 := ⟨by decide +kernel, rfl⟩
theorem qX1_readDark_12 : Dc mX1_readDark 12 (.if_icmp .ne 5) 3 15 := ⟨by decide +kernel, rfl⟩
theorem qX1_readDark_15 : Dc mX1_readDark 15 (.iconst 0) 1 16 := ⟨by decide +kernel, rfl⟩
theorem qX1_readDark_16 : Dc mX1_readDark 16 (.ireturn) 1 17 := ⟨by decide +kernel, rfl⟩
theorem qX1_readDark_17 : Dc mX1_readDark 17 (.aload_n 1) 1 18 := ⟨by decide +kernel, rfl⟩
theorem qX1_readDark_18 : Dc mX1_readDark 18 (.invokevirtual 150) 3 21 := ⟨by decide +kernel, rfl⟩
theorem qX1_readDark_21 : Dc mX1_readDark 21 (.aload_n 1) 1 22 := ⟨by decide +kernel, rfl⟩
theorem qX1_readDark_22 : Dc mX1_readDark 22 (.iconst 0) 1 23 := ⟨by decide +kernel, rfl⟩
theorem qX1_readDark_23 : Dc mX1_readDark 23 (.bipush 7) 2 25 := ⟨by decide +kernel, rfl⟩
theorem qX1_readDark_25 : Dc mX1_readDark 25 (.invokevirtual 211) 3 28 := ⟨by decide +kernel, rfl⟩
theorem qX1_readDark_28 : Dc mX1_readDark 28 (.ifCond .ne 5) 3 31 := ⟨by decide +kernel, rfl⟩
theorem qX1_readDark_31 : Dc mX1_readDark 31 (.iconst 0) 1 32 := ⟨by decide +kernel, rfl⟩
theorem qX1_readDark_32 : Dc mX1_readDark 32 (.ireturn) 1 33 := ⟨by decide +kernel, rfl⟩
theorem qX1_readDark_33 : Dc mX1_readDark 33 (.aload_n 0) 1 34 := ⟨by decide +kernel, rfl⟩
theorem qX1_readDark_34 : Dc mX1_readDark 34 (.getfield 11) 3 37 := ⟨by decide +kernel, rfl⟩
theorem qX1_readDark_37 : Dc mX1_readDark 37 (.iload_n 2) 1 38 := ⟨by decide +kernel, rfl⟩
theorem qX1_readDark_38 : Dc mX1_readDark 38 (.aaload) 1 39 := ⟨by decide +kernel, rfl⟩
theorem qX1_readDark_39 : Dc mX1_readDark 39 (.getfield 214) 3 42 := ⟨by decide +kernel, rfl⟩
theorem qX1_readDark_42 : Dc mX1_readDark 42 (.aload_n 1) 1 43 := ⟨by decide +kernel, rfl⟩
theorem qX1_readDark_43 : Dc mX1_readDark 43 (.getfield 217) 3 46 := ⟨by decide +kernel, rfl⟩
theorem qX1_readDark_46 : Dc mX1_readDark 46 (.ishr) 1 47 := ⟨by decide +kernel, rfl⟩
theorem qX1_readDark_47 : Dc mX1_readDark 47 (.iconst 1) 1 48 := ⟨by decide +kernel, rfl⟩
theorem qX1_readDark_48 : Dc mX1_readDark 48 (.iand) 1 49 := ⟨by decide +kernel, rfl⟩
theorem qX1_readDark_49 : Dc mX1_readDark 49 (.ifCond .eq 9) 3 52 := ⟨by decide +kernel, rfl⟩
theorem qX1_readDark_52 : Dc mX1_readDark 52 (.aload_n 1) 1 53 := ⟨by decide +kernel, rfl⟩
theorem qX1_readDark_53 : Dc mX1_readDark 53 (.iconst 3) 1 54 := ⟨by decide +kernel, rfl⟩
theorem qX1_readDark_54 : Dc mX1_readDark 54 (.invokevirtual 147) 3 57 := ⟨by decide +kernel, rfl⟩
theorem qX1_readDark_57 : Dc mX1_readDark 57 (.ireturn) 1 58 := ⟨by decide +kernel, rfl⟩
theorem qX1_readDark_58 : Dc mX1_readDark 58 (.aload_n 0) 1 59 := ⟨by decide +kernel, rfl⟩
theorem qX1_readDark_59 : Dc mX1_readDark 59 (.getfield 11) 3 62 := ⟨by decide +kernel, rfl⟩
theorem qX1_readDark_62 : Dc mX1_readDark 62 (.iload_n 2) 1 63 := ⟨by decide +kernel, rfl⟩
theorem qX1_readDark_63 : Dc mX1_readDark 63 (.aaload) 1 64 := ⟨by decide +kernel, rfl⟩
theorem qX1_readDark_64 : Dc mX1_readDark 64 (.dup) 1 65 := ⟨by decide +kernel, rfl⟩
theorem qX1_readDark_65 : Dc mX1_readDark 65 (.getfield 214) 3 68 := ⟨by decide +kernel, rfl⟩
theorem qX1_readDark_68 : Dc mX1_readDark 68 (.iconst 1) 1 69 := ⟨by decide +kernel, rfl⟩
theorem qX1_readDark_69 : Dc mX1_readDark 69 (.aload_n 1) 1 70 := ⟨by decide +kernel, rfl⟩
theorem qX1_readDark_70 : Dc mX1_readDark 70 (.getfield 217) 3 73 := ⟨by decide +kernel, rfl⟩
theorem qX1_readDark_73 : Dc mX1_readDark 73 (.ishl) 1 74 := ⟨by decide +kernel, rfl⟩
theorem qX1_readDark_74 : Dc mX1_readDark 74 (.ior) 1 75 := ⟨by decide +kernel, rfl⟩
theorem qX1_readDark_75 : Dc mX1_readDark 75 (.putfield 214) 3 78 := ⟨by decide +kernel, rfl⟩
theorem qX1_readDark_78 : Dc mX1_readDark 78 (.aload_n 1) 1 79 := ⟨by decide +kernel, rfl⟩
theorem qX1_readDark_79 : Dc mX1_readDark 79 (.invokevirtual 150) 3 82 := ⟨by decide +kernel, rfl⟩
theorem qX1_readDark_82 : Dc mX1_readDark 82 (.iconst 1) 1 83 := ⟨by decide +kernel, rfl⟩
theorem qX1_readDark_83 : Dc mX1_readDark 83 (.ireturn) 1 84 := ⟨by decide +kernel, rfl⟩

set_option maxRecDepth 20000 in
set_option maxHeartbeats 4000000 in
theorem w_X1_readDark {N : Nat} {a0 : Nat} {s0 : St} {r : Int32} {sr : St} (h_a0 : sh a0 = 1) (h : f_X1_readDark N a0 s0 = some (r, sr)) : Ct mX1_readDark 3 [.ref a0, .ref 1] s0 (some (.int r), sr) := by
  refine Ct.ofE (by decide +kernel) rfl ?_
  show E mX1_readDark 3 (some (.int r), sr) 0 [some (.ref a0), some (.ref 1), none] [] s0
  unfold f_X1_readDark at h
  refine e_aload_n qX1_readDark_0 rfl ?_
  obtain ⟨s1, hc, h⟩ := bp_e h
  refine e_cVv0 qX1_readDark_1 mv_X1_150 shq_1 rfl rfl (w_X9_next hc) ?_
  refine e_aload_n qX1_readDark_4 rfl ?_
  refine e_aload_n qX1_readDark_5 rfl ?_
  obtain ⟨v2, s3, hc, h⟩ := bd_e h
  refine e_cVi1 qX1_readDark_6 mv_X1_199 h_a0 rfl rfl (w_X1_lightAt h_a0 hc) ?_
  refine e_istore_n (lv2 := [some (.ref a0), some (.ref 1), some (.int v2)]) qX1_readDark_9 rfl rfl rfl ?_
  refine e_iload_n qX1_readDark_10 rfl ?_
  refine e_iconst (-1) qX1_readDark_11 rfl ?_
  refine e_icmp_ne (tgt := 17) qX1_readDark_12 rfl h (fun _ h => ?_) (fun _ h => ?_)
  · refine e_iconst (nI 0) qX1_readDark_15 rfl ?_
    exact e_zret qX1_readDark_16 rfl (by decide) (ret_i h)
  refine e_aload_n qX1_readDark_17 rfl ?_
  obtain ⟨s4, hc, h⟩ := bp_e h
  refine e_cVv0 qX1_readDark_18 mv_X1_150 shq_1 rfl rfl (w_X9_next hc) ?_
  refine e_aload_n qX1_readDark_21 rfl ?_
  refine e_iconst (nI 0) qX1_readDark_22 rfl ?_
  refine e_bipush (nI 7) qX1_readDark_23 rfl ?_
  obtain ⟨v5, s6, hc, h⟩ := bd_e h
  refine e_cVi2 qX1_readDark_25 mv_X1_211 shq_1 rfl rfl (w_X9_atNumber hc) ?_
  refine e_if_ne (tgt := 33) qX1_readDark_28 rfl h (fun _ h => ?_) (fun _ h => ?_)
  · refine e_iconst (nI 0) qX1_readDark_31 rfl ?_
    exact e_zret qX1_readDark_32 rfl (by decide) (ret_i h)
  refine e_aload_n qX1_readDark_33 rfl ?_
  refine e_getr (rr a0 0) qX1_readDark_34 fl_X1_11 h_a0 kdq_1_0 rfl ?_
  refine e_iload_n qX1_readDark_37 rfl ?_
  refine e_rald24 qX1_readDark_38 (wt_1_0 _ h_a0).1 (wt_1_0 _ h_a0).2 h (fun i8 hi8 h => ?_)
  refine e_geti qX1_readDark_39 fl_X1_214 (we_24 _ (wt_1_0 _ h_a0).1 _ hi8) kdq_4_8 h (fun v9 h => ?_)
  refine e_aload_n qX1_readDark_42 rfl ?_
  refine e_geti qX1_readDark_43 fl_X1_217 shq_1 kdq_9_4 h (fun v10 h => ?_)
  refine e_ishr qX1_readDark_46 ?_
  refine e_iconst (nI 1) qX1_readDark_47 rfl ?_
  refine e_iand qX1_readDark_48 ?_
  refine e_if_eq (tgt := 58) qX1_readDark_49 rfl h (fun _ h => ?_) (fun _ h => ?_)
  · refine e_aload_n qX1_readDark_58 rfl ?_
    refine e_getr (rr a0 0) qX1_readDark_59 fl_X1_11 h_a0 kdq_1_0 rfl ?_
    refine e_iload_n qX1_readDark_62 rfl ?_
    refine e_rald24 qX1_readDark_63 (wt_1_0 _ h_a0).1 (wt_1_0 _ h_a0).2 h (fun i12 hi12 h => ?_)
    refine e_dup qX1_readDark_64 rfl ?_
    refine e_geti qX1_readDark_65 fl_X1_214 (we_24 _ (wt_1_0 _ h_a0).1 _ hi12) kdq_4_8 h (fun v13 h => ?_)
    refine e_iconst (nI 1) qX1_readDark_68 rfl ?_
    refine e_aload_n qX1_readDark_69 rfl ?_
    refine e_geti qX1_readDark_70 fl_X1_217 shq_1 kdq_9_4 h (fun v14 h => ?_)
    refine e_ishl qX1_readDark_73 ?_
    refine e_ior qX1_readDark_74 ?_
    refine e_puti qX1_readDark_75 fp_X1_214 (we_24 _ (wt_1_0 _ h_a0).1 _ hi12) kdq_4_8 h (fun s15 h => ?_)
    refine e_aload_n qX1_readDark_78 rfl ?_
    obtain ⟨s16, hc, h⟩ := bp_e h
    refine e_cVv0 qX1_readDark_79 mv_X1_150 shq_1 rfl rfl (w_X9_next hc) ?_
    refine e_iconst (nI 1) qX1_readDark_82 rfl ?_
    exact e_zret qX1_readDark_83 rfl (by decide) (ret_i h)
  refine e_aload_n qX1_readDark_52 rfl ?_
  refine e_iconst (nI 3) qX1_readDark_53 rfl ?_
  obtain ⟨v17, s18, hc, h⟩ := bd_e h
  refine e_cVi1 qX1_readDark_54 mv_X1_147 shq_1 rfl rfl (w_X9_refuse hc) ?_
  refine rz_e h (fun hz h => ?_)
  exact e_zret qX1_readDark_57 rfl hz (ret_i h)

def f_X1_readShip (N : Nat) (a0 : Nat) (s0 : St) : Option (Int32 × St) :=
  vl (s0.1 a0 3) fun v1 =>
  if v1 < (nI 4) then
    bp (f_X9_next N s0) fun s2 =>
    bd (f_X1_atNewName N a0 s2) fun v3 s4 =>
    if v3 = 0 then
      some ((nI 0), s4)
    else
    vl (s4.1 a0 3) fun v5 =>
    ald (rr (rr a0 1)) 4 v5 fun v6 =>
    vl (s4.2 1 3) fun v8 =>
    vl (sL s4 v6 0 v8) fun s9 =>
    bp (f_X9_next N s9) fun s10 =>
    bd (f_X9_takeNumber N (nI 0) (nI 19) s10) fun v11 s12 =>
    if v11 = 0 then
      some ((nI 0), s12)
    else
    vl (s12.1 1 5) fun v13 =>
    vl (sI s12 v6 1 v13) fun s14 =>
    bd (f_X9_takeNumber N (nI 0) (nI 19) s14) fun v15 s16 =>
    if v15 = 0 then
      some ((nI 0), s16)
    else
    vl (s16.1 1 5) fun v17 =>
    vl (sI s16 v6 2 v17) fun s18 =>
    bd (f_X9_takeNumber N (nI 0) (nI 8) s18) fun v19 s20 =>
    if v19 = 0 then
      some ((nI 0), s20)
    else
    vl (s20.1 1 5) fun v21 =>
    vl (sI s20 v6 3 v21) fun s22 =>
    bd (f_X9_takeNumber N (nI 1) (nI 60) s22) fun v23 s24 =>
    if v23 = 0 then
      some ((nI 0), s24)
    else
    vl (s24.1 1 5) fun v25 =>
    vl (sI s24 v6 4 v25) fun s26 =>
    vl (s26.1 a0 3) fun v27 =>
    vl (sI s26 a0 3 (v27 + (nI 1))) fun s28 =>
    some ((nI 1), s28)
  else
  bd (f_X9_refuse (nI 4) s0) fun v29 s30 =>
  rz v29 <|
  some (v29, s30)

theorem qX1_readShip_0 : Dc mX1_readShip 0 (.aload_n 0) 1 1 := ⟨by decide +kernel, rfl⟩
theorem qX1_readShip_1 : Dc mX1_readShip 1 (.getfield 36) 3 4 := ⟨by decide +kernel, rfl⟩
theorem qX1_readShip_4 : Dc mX1_readShip 4 (.iconst 4) 1 5 := ⟨by decide +kernel, rfl⟩
theorem qX1_readShip_5 : Dc mX1_readShip 5 (.if_icmp .lt 9) 3 8 := ⟨by decide +kernel, rfl⟩
theorem qX1_readShip_8 : Dc mX1_readShip 8 (.aload_n 1) 1 9 := ⟨by decide +kernel, rfl⟩
theorem qX1_readShip_9 : Dc mX1_readShip 9 (.iconst 4) 1 10 := ⟨by decide +kernel, rfl⟩
theorem qX1_readShip_10 : Dc mX1_readShip 10 (.invokevirtual 147) 3 13 := ⟨by decide +kernel, rfl⟩
theorem qX1_readShip_13 : Dc mX1_readShip 13 (.ireturn) 1 14 := ⟨by decide +kernel, rfl⟩
theorem qX1_readShip_14 : Dc mX1_readShip 14 (.aload_n 1) 1 15 := ⟨by decide +kernel, rfl⟩
theorem qX1_readShip_15 : Dc mX1_readShip 15 (.invokevirtual 150) 3 18 := ⟨by decide +kernel, rfl⟩
theorem qX1_readShip_18 : Dc mX1_readShip 18 (.aload_n 0) 1 19 := ⟨by decide +kernel, rfl⟩
theorem qX1_readShip_19 : Dc mX1_readShip 19 (.aload_n 1) 1 20 := ⟨by decide +kernel, rfl⟩
theorem qX1_readShip_20 : Dc mX1_readShip 20 (.invokevirtual 153) 3 23 := ⟨by decide +kernel, rfl⟩
theorem qX1_readShip_23 : Dc mX1_readShip 23 (.ifCond .ne 5) 3 26 := ⟨by decide +kernel, rfl⟩
theorem qX1_readShip_26 : Dc mX1_readShip 26 (.iconst 0) 1 27 := ⟨by decide +kernel, rfl⟩
theorem qX1_readShip_27 : Dc mX1_readShip 27 (.ireturn) 1 28 := ⟨by decide +kernel, rfl⟩
theorem qX1_readShip_28 : Dc mX1_readShip 28 (.aload_n 0) 1 29 := ⟨by decide +kernel, rfl⟩
theorem qX1_readShip_29 : Dc mX1_readShip 29 (.getfield 19) 3 32 := ⟨by decide +kernel, rfl⟩
theorem qX1_readShip_32 : Dc mX1_readShip 32 (.aload_n 0) 1 33 := ⟨by decide +kernel, rfl⟩
theorem qX1_readShip_33 : Dc mX1_readShip 33 (.getfield 36) 3 36 := ⟨by decide +kernel, rfl⟩
theorem qX1_readShip_36 : Dc mX1_readShip 36 (.aaload) 1 37 := ⟨by decide +kernel, rfl⟩
theorem qX1_readShip_37 : Dc mX1_readShip 37 (.astore_n 2) 1 38 := ⟨by decide +kernel, rfl⟩
theorem qX1_readShip_38 : Dc mX1_readShip 38 (.aload_n 2) 1 39 := ⟨by decide +kernel, rfl⟩
theorem qX1_readShip_39 : Dc mX1_readShip 39 (.aload_n 1) 1 40 := ⟨by decide +kernel, rfl⟩
theorem qX1_readShip_40 : Dc mX1_readShip 40 (.getfield 156) 3 43 := ⟨by decide +kernel, rfl⟩
theorem qX1_readShip_43 : Dc mX1_readShip 43 (.putfield 220) 3 46 := ⟨by decide +kernel, rfl⟩
theorem qX1_readShip_46 : Dc mX1_readShip 46 (.aload_n 1) 1 47 := ⟨by decide +kernel, rfl⟩
theorem qX1_readShip_47 : Dc mX1_readShip 47 (.invokevirtual 150) 3 50 := ⟨by decide +kernel, rfl⟩
theorem qX1_readShip_50 : Dc mX1_readShip 50 (.aload_n 1) 1 51 := ⟨by decide +kernel, rfl⟩
theorem qX1_readShip_51 : Dc mX1_readShip 51 (.iconst 0) 1 52 := ⟨by decide +kernel, rfl⟩
theorem qX1_readShip_52 : Dc mX1_readShip 52 (.bipush 19) 2 54 := ⟨by decide +kernel, rfl⟩
theorem qX1_readShip_54 : Dc mX1_readShip 54 (.invokevirtual 164) 3 57 := ⟨by decide +kernel, rfl⟩
theorem qX1_readShip_57 : Dc mX1_readShip 57 (.ifCond .ne 5) 3 60 := ⟨by decide +kernel, rfl⟩
theorem qX1_readShip_60 : Dc mX1_readShip 60 (.iconst 0) 1 61 := ⟨by decide +kernel, rfl⟩
theorem qX1_readShip_61 : Dc mX1_readShip 61 (.ireturn) 1 62 := ⟨by decide +kernel, rfl⟩
theorem qX1_readShip_62 : Dc mX1_readShip 62 (.aload_n 2) 1 63 := ⟨by decide +kernel, rfl⟩
theorem qX1_readShip_63 : Dc mX1_readShip 63 (.aload_n 1) 1 64 := ⟨by decide +kernel, rfl⟩
theorem qX1_readShip_64 : Dc mX1_readShip 64 (.getfield 168) 3 67 := ⟨by decide +kernel, rfl⟩
theorem qX1_readShip_67 : Dc mX1_readShip 67 (.putfield 223) 3 70 := ⟨by decide +kernel, rfl⟩
theorem qX1_readShip_70 : Dc mX1_readShip 70 (.aload_n 1) 1 71 := ⟨by decide +kernel, rfl⟩
theorem qX1_readShip_71 : Dc mX1_readShip 71 (.iconst 0) 1 72 := ⟨by decide +kernel, rfl⟩
theorem qX1_readShip_72 : Dc mX1_readShip 72 (.bipush 19) 2 74 := ⟨by decide +kernel, rfl⟩
theorem qX1_readShip_74 : Dc mX1_readShip 74 (.invokevirtual 164) 3 77 := ⟨by decide +kernel, rfl⟩
theorem qX1_readShip_77 : Dc mX1_readShip 77 (.ifCond .ne 5) 3 80 := ⟨by decide +kernel, rfl⟩
theorem qX1_readShip_80 : Dc mX1_readShip 80 (.iconst 0) 1 81 := ⟨by decide +kernel, rfl⟩
theorem qX1_readShip_81 : Dc mX1_readShip 81 (.ireturn) 1 82 := ⟨by decide +kernel, rfl⟩
theorem qX1_readShip_82 : Dc mX1_readShip 82 (.aload_n 2) 1 83 := ⟨by decide +kernel, rfl⟩
theorem qX1_readShip_83 : Dc mX1_readShip 83 (.aload_n 1) 1 84 := ⟨by decide +kernel, rfl⟩
theorem qX1_readShip_84 : Dc mX1_readShip 84 (.getfield 168) 3 87 := ⟨by decide +kernel, rfl⟩
theorem qX1_readShip_87 : Dc mX1_readShip 87 (.putfield 224) 3 90 := ⟨by decide +kernel, rfl⟩
theorem qX1_readShip_90 : Dc mX1_readShip 90 (.aload_n 1) 1 91 := ⟨by decide +kernel, rfl⟩
theorem qX1_readShip_91 : Dc mX1_readShip 91 (.iconst 0) 1 92 := ⟨by decide +kernel, rfl⟩
theorem qX1_readShip_92 : Dc mX1_readShip 92 (.bipush 8) 2 94 := ⟨by decide +kernel, rfl⟩
theorem qX1_readShip_94 : Dc mX1_readShip 94 (.invokevirtual 164) 3 97 := ⟨by decide +kernel, rfl⟩
theorem qX1_readShip_97 : Dc mX1_readShip 97 (.ifCond .ne 5) 3 100 := ⟨by decide +kernel, rfl⟩
theorem qX1_readShip_100 : Dc mX1_readShip 100 (.iconst 0) 1 101 := ⟨by decide +kernel, rfl⟩
theorem qX1_readShip_101 : Dc mX1_readShip 101 (.ireturn) 1 102 := ⟨by decide +kernel, rfl⟩
theorem qX1_readShip_102 : Dc mX1_readShip 102 (.aload_n 2) 1 103 := ⟨by decide +kernel, rfl⟩
theorem qX1_readShip_103 : Dc mX1_readShip 103 (.aload_n 1) 1 104 := ⟨by decide +kernel, rfl⟩
theorem qX1_readShip_104 : Dc mX1_readShip 104 (.getfield 168) 3 107 := ⟨by decide +kernel, rfl⟩
theorem qX1_readShip_107 : Dc mX1_readShip 107 (.putfield 225) 3 110 := ⟨by decide +kernel, rfl⟩
theorem qX1_readShip_110 : Dc mX1_readShip 110 (.aload_n 1) 1 111 := ⟨by decide +kernel, rfl⟩
theorem qX1_readShip_111 : Dc mX1_readShip 111 (.iconst 1) 1 112 := ⟨by decide +kernel, rfl⟩
theorem qX1_readShip_112 : Dc mX1_readShip 112 (.bipush 60) 2 114 := ⟨by decide +kernel, rfl⟩
theorem qX1_readShip_114 : Dc mX1_readShip 114 (.invokevirtual 164) 3 117 := ⟨by decide +kernel, rfl⟩
theorem qX1_readShip_117 : Dc mX1_readShip 117 (.ifCond .ne 5) 3 120 := ⟨by decide +kernel, rfl⟩
theorem qX1_readShip_120 : Dc mX1_readShip 120 (.iconst 0) 1 121 := ⟨by decide +kernel, rfl⟩
theorem qX1_readShip_121 : Dc mX1_readShip 121 (.ireturn) 1 122 := ⟨by decide +kernel, rfl⟩
theorem qX1_readShip_122 : Dc mX1_readShip 122 (.aload_n 2) 1 123 := ⟨by decide +kernel, rfl⟩
theorem qX1_readShip_123 : Dc mX1_readShip 123 (.aload_n 1) 1 124 := ⟨by decide +kernel, rfl⟩
theorem qX1_readShip_124 : Dc mX1_readShip 124 (.getfield 168) 3 127 := ⟨by decide +kernel, rfl⟩
theorem qX1_readShip_127 : Dc mX1_readShip 127 (.putfield 228) 3 130 := ⟨by decide +kernel, rfl⟩
theorem qX1_readShip_130 : Dc mX1_readShip 130 (.aload_n 0) 1 131 := ⟨by decide +kernel, rfl⟩
theorem qX1_readShip_131 : Dc mX1_readShip 131 (.dup) 1 132 := ⟨by decide +kernel, rfl⟩
theorem qX1_readShip_132 : Dc mX1_readShip 132 (.getfield 36) 3 135 := ⟨by decide +kernel, rfl⟩
theorem qX1_readShip_135 : Dc mX1_readShip 135 (.iconst 1) 1 136 := ⟨by decide +kernel, rfl⟩
theorem qX1_readShip_136 : Dc mX1_readShip 136 (.iadd) 1 137 := ⟨by decide +kernel, rfl⟩
theorem qX1_readShip_137 : Dc mX1_readShip 137 (.putfield 36) 3 140 := ⟨by decide +kernel, rfl⟩
theorem qX1_readShip_140 : Dc mX1_readShip 140 (.iconst 1) 1 141 := ⟨by decide +kernel, rfl⟩
theorem qX1_readShip_141 : Dc mX1_readShip 141 (.ireturn) 1 142 := ⟨by decide +kernel, rfl⟩

set_option maxRecDepth 20000 in
set_option maxHeartbeats 4000000 in
theorem w_X1_readShip {N : Nat} {a0 : Nat} {s0 : St} {r : Int32} {sr : St} (h_a0 : sh a0 = 1) (h : f_X1_readShip N a0 s0 = some (r, sr)) : Ct mX1_readShip 3 [.ref a0, .ref 1] s0 (some (.int r), sr) := by
  refine Ct.ofE (by decide +kernel) rfl ?_
  show E mX1_readShip 3 (some (.int r), sr) 0 [some (.ref a0), some (.ref 1), none] [] s0
  unfold f_X1_readShip at h
  refine e_aload_n qX1_readShip_0 rfl ?_
  refine e_geti qX1_readShip_1 fl_X1_36 h_a0 kdq_1_3 h (fun v1 h => ?_)
  refine e_iconst (nI 4) qX1_readShip_4 rfl ?_
  refine e_icmp_lt (tgt := 14) qX1_readShip_5 rfl h (fun _ h => ?_) (fun _ h => ?_)
  · refine e_aload_n qX1_readShip_14 rfl ?_
    obtain ⟨s2, hc, h⟩ := bp_e h
    refine e_cVv0 qX1_readShip_15 mv_X1_150 shq_1 rfl rfl (w_X9_next hc) ?_
    refine e_aload_n qX1_readShip_18 rfl ?_
    refine e_aload_n qX1_readShip_19 rfl ?_
    obtain ⟨v3, s4, hc, h⟩ := bd_e h
    refine e_cVi1 qX1_readShip_20 mv_X1_153 h_a0 rfl rfl (w_X1_atNewName h_a0 hc) ?_
    refine e_if_ne (tgt := 28) qX1_readShip_23 rfl h (fun _ h => ?_) (fun _ h => ?_)
    · refine e_iconst (nI 0) qX1_readShip_26 rfl ?_
      exact e_zret qX1_readShip_27 rfl (by decide) (ret_i h)
    refine e_aload_n qX1_readShip_28 rfl ?_
    refine e_getr (rr a0 1) qX1_readShip_29 fl_X1_19 h_a0 kdq_1_1 rfl ?_
    refine e_aload_n qX1_readShip_32 rfl ?_
    refine e_geti qX1_readShip_33 fl_X1_36 h_a0 kdq_1_3 h (fun v5 h => ?_)
    refine e_rald25 qX1_readShip_36 (wt_1_1 _ h_a0).1 (wt_1_1 _ h_a0).2 h (fun i7 hi7 h => ?_)
    refine e_astore_n (lv2 := [some (.ref a0), some (.ref 1), some (.ref (rr (rr a0 1) i7))]) qX1_readShip_37 rfl rfl rfl ?_
    refine e_aload_n qX1_readShip_38 rfl ?_
    refine e_aload_n qX1_readShip_39 rfl ?_
    refine e_getl qX1_readShip_40 fl_X1_156 shq_1 kdq_9_3 h (fun v8 h => ?_)
    refine e_putl qX1_readShip_43 fp_X1_220 (we_25 _ (wt_1_1 _ h_a0).1 _ hi7) kdq_8_0 h (fun s9 h => ?_)
    refine e_aload_n qX1_readShip_46 rfl ?_
    obtain ⟨s10, hc, h⟩ := bp_e h
    refine e_cVv0 qX1_readShip_47 mv_X1_150 shq_1 rfl rfl (w_X9_next hc) ?_
    refine e_aload_n qX1_readShip_50 rfl ?_
    refine e_iconst (nI 0) qX1_readShip_51 rfl ?_
    refine e_bipush (nI 19) qX1_readShip_52 rfl ?_
    obtain ⟨v11, s12, hc, h⟩ := bd_e h
    refine e_cVi2 qX1_readShip_54 mv_X1_164 shq_1 rfl rfl (w_X9_takeNumber hc) ?_
    refine e_if_ne (tgt := 62) qX1_readShip_57 rfl h (fun _ h => ?_) (fun _ h => ?_)
    · refine e_iconst (nI 0) qX1_readShip_60 rfl ?_
      exact e_zret qX1_readShip_61 rfl (by decide) (ret_i h)
    refine e_aload_n qX1_readShip_62 rfl ?_
    refine e_aload_n qX1_readShip_63 rfl ?_
    refine e_geti qX1_readShip_64 fl_X1_168 shq_1 kdq_9_5 h (fun v13 h => ?_)
    refine e_puti qX1_readShip_67 fp_X1_223 (we_25 _ (wt_1_1 _ h_a0).1 _ hi7) kdq_8_1 h (fun s14 h => ?_)
    refine e_aload_n qX1_readShip_70 rfl ?_
    refine e_iconst (nI 0) qX1_readShip_71 rfl ?_
    refine e_bipush (nI 19) qX1_readShip_72 rfl ?_
    obtain ⟨v15, s16, hc, h⟩ := bd_e h
    refine e_cVi2 qX1_readShip_74 mv_X1_164 shq_1 rfl rfl (w_X9_takeNumber hc) ?_
    refine e_if_ne (tgt := 82) qX1_readShip_77 rfl h (fun _ h => ?_) (fun _ h => ?_)
    · refine e_iconst (nI 0) qX1_readShip_80 rfl ?_
      exact e_zret qX1_readShip_81 rfl (by decide) (ret_i h)
    refine e_aload_n qX1_readShip_82 rfl ?_
    refine e_aload_n qX1_readShip_83 rfl ?_
    refine e_geti qX1_readShip_84 fl_X1_168 shq_1 kdq_9_5 h (fun v17 h => ?_)
    refine e_puti qX1_readShip_87 fp_X1_224 (we_25 _ (wt_1_1 _ h_a0).1 _ hi7) kdq_8_2 h (fun s18 h => ?_)
    refine e_aload_n qX1_readShip_90 rfl ?_
    refine e_iconst (nI 0) qX1_readShip_91 rfl ?_
    refine e_bipush (nI 8) qX1_readShip_92 rfl ?_
    obtain ⟨v19, s20, hc, h⟩ := bd_e h
    refine e_cVi2 qX1_readShip_94 mv_X1_164 shq_1 rfl rfl (w_X9_takeNumber hc) ?_
    refine e_if_ne (tgt := 102) qX1_readShip_97 rfl h (fun _ h => ?_) (fun _ h => ?_)
    · refine e_iconst (nI 0) qX1_readShip_100 rfl ?_
      exact e_zret qX1_readShip_101 rfl (by decide) (ret_i h)
    refine e_aload_n qX1_readShip_102 rfl ?_
    refine e_aload_n qX1_readShip_103 rfl ?_
    refine e_geti qX1_readShip_104 fl_X1_168 shq_1 kdq_9_5 h (fun v21 h => ?_)
    refine e_puti qX1_readShip_107 fp_X1_225 (we_25 _ (wt_1_1 _ h_a0).1 _ hi7) kdq_8_3 h (fun s22 h => ?_)
    refine e_aload_n qX1_readShip_110 rfl ?_
    refine e_iconst (nI 1) qX1_readShip_111 rfl ?_
    refine e_bipush (nI 60) qX1_readShip_112 rfl ?_
    obtain ⟨v23, s24, hc, h⟩ := bd_e h
    refine e_cVi2 qX1_readShip_114 mv_X1_164 shq_1 rfl rfl (w_X9_takeNumber hc) ?_
    refine e_if_ne (tgt := 122) qX1_readShip_117 rfl h (fun _ h => ?_) (fun _ h => ?_)
    · refine e_iconst (nI 0) qX1_readShip_120 rfl ?_
      exact e_zret qX1_readShip_121 rfl (by decide) (ret_i h)
    refine e_aload_n qX1_readShip_122 rfl ?_
    refine e_aload_n qX1_readShip_123 rfl ?_
    refine e_geti qX1_readShip_124 fl_X1_168 shq_1 kdq_9_5 h (fun v25 h => ?_)
    refine e_puti qX1_readShip_127 fp_X1_228 (we_25 _ (wt_1_1 _ h_a0).1 _ hi7) kdq_8_4 h (fun s26 h => ?_)
    refine e_aload_n qX1_readShip_130 rfl ?_
    refine e_dup qX1_readShip_131 rfl ?_
    refine e_geti qX1_readShip_132 fl_X1_36 h_a0 kdq_1_3 h (fun v27 h => ?_)
    refine e_iconst (nI 1) qX1_readShip_135 rfl ?_
    refine e_iadd qX1_readShip_136 ?_
    refine e_puti qX1_readShip_137 fp_X1_36 h_a0 kdq_1_3 h (fun s28 h => ?_)
    refine e_iconst (nI 1) qX1_readShip_140 rfl ?_
    exact e_zret qX1_readShip_141 rfl (by decide) (ret_i h)
  refine e_aload_n qX1_readShip_8 rfl ?_
  refine e_iconst (nI 4) qX1_readShip_9 rfl ?_
  obtain ⟨v29, s30, hc, h⟩ := bd_e h
  refine e_cVi1 qX1_readShip_10 mv_X1_147 shq_1 rfl rfl (w_X9_refuse hc) ?_
  refine rz_e h (fun hz h => ?_)
  exact e_zret qX1_readShip_13 rfl hz (ret_i h)

def f_X2_liveSeconds_L2 (N : Nat) (c1 : Nat) (c2 : Int32) : Nat → Int32 → St → Option (Int32 × St)
  | 0, _, _ => none
  | n5 + 1, v3, s4 =>
    if c2 ≤ v3 then
      some (v3, s4)
    else
    vl (s4.1 c1 1) fun v7 =>
    if (nI 3600) ≤ v7 then
      some (v3, s4)
    else
    bp (f_X2_act c1 s4) fun s8 =>
    bp (f_X6_passOne N c1 s8) fun s9 =>
    vl (v3 + (nI 1)) fun v10 =>
    f_X2_liveSeconds_L2 N c1 c2 n5 v10 s9

def f_X2_liveSeconds (N : Nat) (a1 : Nat) (x2 : Int32) (s0 : St) : Option (Int32 × St) :=
  f_X2_liveSeconds_L2 N a1 x2 N (nI 0) s0

theorem qX2_liveSeconds_0 : Dc mX2_liveSeconds 0 (.iconst 0) 1 1 := ⟨by decide +kernel, rfl⟩
theorem qX2_liveSeconds_1 : Dc mX2_liveSeconds 1 (.istore_n 3) 1 2 := ⟨by decide +kernel, rfl⟩
theorem qX2_liveSeconds_2 : Dc mX2_liveSeconds 2 (.iload_n 3) 1 3 := ⟨by decide +kernel, rfl⟩
theorem qX2_liveSeconds_3 : Dc mX2_liveSeconds 3 (.iload_n 2) 1 4 := ⟨by decide +kernel, rfl⟩
theorem qX2_liveSeconds_4 : Dc mX2_liveSeconds 4 (.if_icmp .ge 28) 3 7 := ⟨by decide +kernel, rfl⟩
theorem qX2_liveSeconds_7 : Dc mX2_liveSeconds 7 (.aload_n 1) 1 8 := ⟨by decide +kernel, rfl⟩
theorem qX2_liveSeconds_8 : Dc mX2_liveSeconds 8 (.getfield 15) 3 11 := ⟨by decide +kernel, rfl⟩
theorem qX2_liveSeconds_11 : Dc mX2_liveSeconds 11 (.sipush 3600) 3 14 := ⟨by decide +kernel, rfl⟩
theorem qX2_liveSeconds_14 : Dc mX2_liveSeconds 14 (.if_icmp .ge 18) 3 17 := ⟨by decide +kernel, rfl⟩
theorem qX2_liveSeconds_17 : Dc mX2_liveSeconds 17 (.aload_n 0) 1 18 := ⟨by decide +kernel, rfl⟩
theorem qX2_liveSeconds_18 : Dc mX2_liveSeconds 18 (.aload_n 1) 1 19 := ⟨by decide +kernel, rfl⟩
theorem qX2_liveSeconds_19 : Dc mX2_liveSeconds 19 (.invokevirtual 20) 3 22 := ⟨by decide +kernel, rfl⟩
theorem qX2_liveSeconds_22 : Dc mX2_liveSeconds 22 (.aload_n 1) 1 23 := ⟨by decide +kernel, rfl⟩
theorem qX2_liveSeconds_23 : Dc mX2_liveSeconds 23 (.invokevirtual 24) 3 26 := ⟨by decide +kernel, rfl⟩
theorem qX2_liveSeconds_26 : Dc mX2_liveSeconds 26 (.iinc 3 1) 3 29 := ⟨by decide +kernel, rfl⟩
theorem qX2_liveSeconds_29 : Dc mX2_liveSeconds 29 (.goto (-27)) 3 32 := ⟨by decide +kernel, rfl⟩
theorem qX2_liveSeconds_32 : Dc mX2_liveSeconds 32 (.iload_n 3) 1 33 := ⟨by decide +kernel, rfl⟩
theorem qX2_liveSeconds_33 : Dc mX2_liveSeconds 33 (.ireturn) 1 34 := ⟨by decide +kernel, rfl⟩

set_option maxRecDepth 20000 in
set_option maxHeartbeats 4000000 in
theorem w_X2_liveSeconds_L2 {N : Nat} {c1 : Nat} {c2 : Int32}  {r : Int32} {sr : St} (h_c1 : sh c1 = 6)  : ∀ (n5 : Nat) (v3 : Int32) (s4 : St), f_X2_liveSeconds_L2 N c1 c2 n5 v3 s4 = some (r, sr) → E mX2_liveSeconds 4 (some (.int r), sr) 2 [some (.ref 131), some (.ref c1), some (.int c2), some (.int v3)] [] s4 := by
  intro n5
  induction n5 with
  | zero =>
    intro v3 s4 h
    rw [f_X2_liveSeconds_L2] at h; cases h
  | succ n5 ih6 =>
    intro v3 s4 h
    rw [f_X2_liveSeconds_L2] at h
    refine e_iload_n qX2_liveSeconds_2 rfl ?_
    refine e_iload_n qX2_liveSeconds_3 rfl ?_
    refine e_icmp_ge (tgt := 32) qX2_liveSeconds_4 rfl h (fun _ h => ?_) (fun _ h => ?_)
    · refine e_iload_n qX2_liveSeconds_32 rfl ?_
      exact e_iret qX2_liveSeconds_33 rfl (ret_i h)
    refine e_aload_n qX2_liveSeconds_7 rfl ?_
    refine e_geti qX2_liveSeconds_8 fl_X2_15 h_c1 kdq_6_1 h (fun v7 h => ?_)
    refine e_sipush (nI 3600) qX2_liveSeconds_11 rfl ?_
    refine e_icmp_ge (tgt := 32) qX2_liveSeconds_14 rfl h (fun _ h => ?_) (fun _ h => ?_)
    · refine e_iload_n qX2_liveSeconds_32 rfl ?_
      exact e_iret qX2_liveSeconds_33 rfl (ret_i h)
    refine e_aload_n qX2_liveSeconds_17 rfl ?_
    refine e_aload_n qX2_liveSeconds_18 rfl ?_
    obtain ⟨s8, hc, h⟩ := bp_e h
    refine e_cVv1 qX2_liveSeconds_19 mv_X2_20 shq_131 rfl rfl (w_X2_act h_c1 hc) ?_
    refine e_aload_n qX2_liveSeconds_22 rfl ?_
    obtain ⟨s9, hc, h⟩ := bp_e h
    refine e_cVv0 qX2_liveSeconds_23 mv_X2_24 h_c1 rfl rfl (w_X6_passOne h_c1 hc) ?_
    refine vl_e h (fun h => ?_)
    obtain ⟨v10, ev10⟩ : ∃ y, v3 + (nI 1) = y := ⟨_, rfl⟩
    rw [ev10] at h
    refine e_iinc (nI 1) v10 (lv2 := [some (.ref 131), some (.ref c1), some (.int c2), some (.int v10)]) qX2_liveSeconds_26 rfl rfl rfl ev10 rfl ?_
    refine e_goto (tgt := 2) qX2_liveSeconds_29 rfl ?_
    exact e_weak (ih6 _ _ h) ⟨Or.inr rfl, Or.inr rfl, Or.inr rfl, Or.inr rfl, trivial⟩

set_option maxRecDepth 20000 in
set_option maxHeartbeats 4000000 in
theorem w_X2_liveSeconds {N : Nat} {a1 : Nat} {x2 : Int32} {s0 : St} {r : Int32} {sr : St} (h_a1 : sh a1 = 6) (h : f_X2_liveSeconds N a1 x2 s0 = some (r, sr)) : Ct mX2_liveSeconds 4 [.ref 131, .ref a1, .int x2] s0 (some (.int r), sr) := by
  refine Ct.ofE (by decide +kernel) rfl ?_
  show E mX2_liveSeconds 4 (some (.int r), sr) 0 [some (.ref 131), some (.ref a1), some (.int x2), none] [] s0
  unfold f_X2_liveSeconds at h
  refine e_iconst (nI 0) qX2_liveSeconds_0 rfl ?_
  refine e_istore_n (lv2 := [some (.ref 131), some (.ref a1), some (.int x2), some (.int (nI 0))]) qX2_liveSeconds_1 rfl rfl rfl ?_
  exact e_weak (w_X2_liveSeconds_L2 h_a1  _ _ _ h) ⟨Or.inr rfl, Or.inr rfl, Or.inr rfl, Or.inr rfl, trivial⟩

def f_X6_pass_L2 (N : Nat) (c1 : Nat) (c2 : Int32) : Nat → Int32 → St → Option (Int32 × St)
  | 0, _, _ => none
  | n5 + 1, v3, s4 =>
    if c2 ≤ v3 then
      some (v3, s4)
    else
    vl (s4.1 c1 1) fun v7 =>
    if (nI 3600) ≤ v7 then
      some (v3, s4)
    else
    bp (f_X6_passOne N c1 s4) fun s8 =>
    vl (v3 + (nI 1)) fun v9 =>
    f_X6_pass_L2 N c1 c2 n5 v9 s8

def f_X6_pass (N : Nat) (a0 : Nat) (x1 : Int32) (s0 : St) : Option (Int32 × St) :=
  f_X6_pass_L2 N a0 x1 N (nI 0) s0

theorem qX6_pass_0 : Dc mX6_pass 0 (.iconst 0) 1 1 := ⟨by decide +kernel, rfl⟩
theorem qX6_pass_1 : Dc mX6_pass 1 (.istore_n 2) 1 2 := ⟨by decide +kernel, rfl⟩
theorem qX6_pass_2 : Dc mX6_pass 2 (.iload_n 2) 1 3 := ⟨by decide +kernel, rfl⟩
theorem qX6_pass_3 : Dc mX6_pass 3 (.iload_n 1) 1 4 := ⟨by decide +kernel, rfl⟩
theorem qX6_pass_4 : Dc mX6_pass 4 (.if_icmp .ge 23) 3 7 := ⟨by decide +kernel, rfl⟩
theorem qX6_pass_7 : Dc mX6_pass 7 (.aload_n 0) 1 8 := ⟨by decide +kernel, rfl⟩
theorem qX6_pass_8 : Dc mX6_pass 8 (.getfield 31) 3 11 := ⟨by decide +kernel, rfl⟩
theorem qX6_pass_11 : Dc mX6_pass 11 (.sipush 3600) 3 14 := ⟨by decide +kernel, rfl⟩
theorem qX6_pass_14 : Dc mX6_pass 14 (.if_icmp .ge 13) 3 17 := ⟨by decide +kernel, rfl⟩
theorem qX6_pass_17 : Dc mX6_pass 17 (.aload_n 0) 1 18 := ⟨by decide +kernel, rfl⟩
theorem qX6_pass_18 : Dc mX6_pass 18 (.invokevirtual 119) 3 21 := ⟨by decide +kernel, rfl⟩
theorem qX6_pass_21 : Dc mX6_pass 21 (.iinc 2 1) 3 24 := ⟨by decide +kernel, rfl⟩
theorem qX6_pass_24 : Dc mX6_pass 24 (.goto (-22)) 3 27 := ⟨by decide +kernel, rfl⟩
theorem qX6_pass_27 : Dc mX6_pass 27 (.iload_n 2) 1 28 := ⟨by decide +kernel, rfl⟩
theorem qX6_pass_28 : Dc mX6_pass 28 (.ireturn) 1 29 := ⟨by decide +kernel, rfl⟩

set_option maxRecDepth 20000 in
set_option maxHeartbeats 4000000 in
theorem w_X6_pass_L2 {N : Nat} {c1 : Nat} {c2 : Int32}  {r : Int32} {sr : St} (h_c1 : sh c1 = 6)  : ∀ (n5 : Nat) (v3 : Int32) (s4 : St), f_X6_pass_L2 N c1 c2 n5 v3 s4 = some (r, sr) → E mX6_pass 4 (some (.int r), sr) 2 [some (.ref c1), some (.int c2), some (.int v3)] [] s4 := by
  intro n5
  induction n5 with
  | zero =>
    intro v3 s4 h
    rw [f_X6_pass_L2] at h; cases h
  | succ n5 ih6 =>
    intro v3 s4 h
    rw [f_X6_pass_L2] at h
    refine e_iload_n qX6_pass_2 rfl ?_
    refine e_iload_n qX6_pass_3 rfl ?_
    refine e_icmp_ge (tgt := 27) qX6_pass_4 rfl h (fun _ h => ?_) (fun _ h => ?_)
    · refine e_iload_n qX6_pass_27 rfl ?_
      exact e_iret qX6_pass_28 rfl (ret_i h)
    refine e_aload_n qX6_pass_7 rfl ?_
    refine e_geti qX6_pass_8 fl_X6_31 h_c1 kdq_6_1 h (fun v7 h => ?_)
    refine e_sipush (nI 3600) qX6_pass_11 rfl ?_
    refine e_icmp_ge (tgt := 27) qX6_pass_14 rfl h (fun _ h => ?_) (fun _ h => ?_)
    · refine e_iload_n qX6_pass_27 rfl ?_
      exact e_iret qX6_pass_28 rfl (ret_i h)
    refine e_aload_n qX6_pass_17 rfl ?_
    obtain ⟨s8, hc, h⟩ := bp_e h
    refine e_cVv0 qX6_pass_18 mv_X6_119 h_c1 rfl rfl (w_X6_passOne h_c1 hc) ?_
    refine vl_e h (fun h => ?_)
    obtain ⟨v9, ev9⟩ : ∃ y, v3 + (nI 1) = y := ⟨_, rfl⟩
    rw [ev9] at h
    refine e_iinc (nI 1) v9 (lv2 := [some (.ref c1), some (.int c2), some (.int v9)]) qX6_pass_21 rfl rfl rfl ev9 rfl ?_
    refine e_goto (tgt := 2) qX6_pass_24 rfl ?_
    exact e_weak (ih6 _ _ h) ⟨Or.inr rfl, Or.inr rfl, Or.inr rfl, trivial⟩

set_option maxRecDepth 20000 in
set_option maxHeartbeats 4000000 in
theorem w_X6_pass {N : Nat} {a0 : Nat} {x1 : Int32} {s0 : St} {r : Int32} {sr : St} (h_a0 : sh a0 = 6) (h : f_X6_pass N a0 x1 s0 = some (r, sr)) : Ct mX6_pass 4 [.ref a0, .int x1] s0 (some (.int r), sr) := by
  refine Ct.ofE (by decide +kernel) rfl ?_
  show E mX6_pass 4 (some (.int r), sr) 0 [some (.ref a0), some (.int x1), none] [] s0
  unfold f_X6_pass at h
  refine e_iconst (nI 0) qX6_pass_0 rfl ?_
  refine e_istore_n (lv2 := [some (.ref a0), some (.int x1), some (.int (nI 0))]) qX6_pass_1 rfl rfl rfl ?_
  exact e_weak (w_X6_pass_L2 h_a0  _ _ _ h) ⟨Or.inr rfl, Or.inr rfl, Or.inr rfl, trivial⟩

def f_X6_passAll_L16 (N : Nat) (c2 : Nat) (c3 : Int32) : Nat → Int32 → St → Option (Int32 × St)
  | 0, _, _ => none
  | n6 + 1, v4, s5 =>
    if c3 ≤ v4 then
      some ((nI 0), s5)
    else
    bp (f_X6_passOne N c2 s5) fun s8 =>
    vl (v4 + (nI 1)) fun v9 =>
    f_X6_passAll_L16 N c2 c3 n6 v9 s8

def f_X6_passAll (N : Nat) (a0 : Nat) (x1 : Int32) (s0 : St) : Option (Int32 × St) :=
  vl (s0.1 a0 1) fun v1 =>
  if x1 ≤ ((nI 3600) - v1) then
    f_X6_passAll_L16 N a0 x1 N (nI 0) s0
  else
  some ((nI 1), s0)

theorem qX6_passAll_0 : Dc mX6_passAll 0 (.sipush 3600) 3 3 := ⟨by decide +kernel, rfl⟩
theorem qX6_passAll_3 : Dc mX6_passAll 3 (.aload_n 0) 1 4 := ⟨by decide +kernel, rfl⟩
theorem qX6_passAll_4 : Dc mX6_passAll 4 (.getfield 31) 3 7 := ⟨by decide +kernel, rfl⟩
theorem qX6_passAll_7 : Dc mX6_passAll 7 (.isub) 1 8 := ⟨by decide +kernel, rfl⟩
theorem qX6_passAll_8 : Dc mX6_passAll 8 (.iload_n 1) 1 9 := ⟨by decide +kernel, rfl⟩
theorem qX6_passAll_9 : Dc mX6_passAll 9 (.if_icmp .ge 5) 3 12 := ⟨by decide +kernel, rfl⟩
theorem qX6_passAll_12 : Dc mX6_passAll 12 (.iconst 1) 1 13 := ⟨by decide +kernel, rfl⟩
theorem qX6_passAll_13 : Dc mX6_passAll 13 (.ireturn) 1 14 := ⟨by decide +kernel, rfl⟩
theorem qX6_passAll_14 : Dc mX6_passAll 14 (.iconst 0) 1 15 := ⟨by decide +kernel, rfl⟩
theorem qX6_passAll_15 : Dc mX6_passAll 15 (.istore_n 2) 1 16 := ⟨by decide +kernel, rfl⟩
theorem qX6_passAll_16 : Dc mX6_passAll 16 (.iload_n 2) 1 17 := ⟨by decide +kernel, rfl⟩
theorem qX6_passAll_17 : Dc mX6_passAll 17 (.iload_n 1) 1 18 := ⟨by decide +kernel, rfl⟩
theorem qX6_passAll_18 : Dc mX6_passAll 18 (.if_icmp .ge 13) 3 21 := ⟨by decide +kernel, rfl⟩
theorem qX6_passAll_21 : Dc mX6_passAll 21 (.aload_n 0) 1 22 := ⟨by decide +kernel, rfl⟩
theorem qX6_passAll_22 : Dc mX6_passAll 22 (.invokevirtual 119) 3 25 := ⟨by decide +kernel, rfl⟩
theorem qX6_passAll_25 : Dc mX6_passAll 25 (.iinc 2 1) 3 28 := ⟨by decide +kernel, rfl⟩
theorem qX6_passAll_28 : Dc mX6_passAll 28 (.goto (-12)) 3 31 := ⟨by decide +kernel, rfl⟩
theorem qX6_passAll_31 : Dc mX6_passAll 31 (.iconst 0) 1 32 := ⟨by decide +kernel, rfl⟩
theorem qX6_passAll_32 : Dc mX6_passAll 32 (.ireturn) 1 33 := ⟨by decide +kernel, rfl⟩

set_option maxRecDepth 20000 in
set_option maxHeartbeats 4000000 in
theorem w_X6_passAll_L16 {N : Nat} {c2 : Nat} {c3 : Int32}  {r : Int32} {sr : St} (h_c2 : sh c2 = 6)  : ∀ (n6 : Nat) (v4 : Int32) (s5 : St), f_X6_passAll_L16 N c2 c3 n6 v4 s5 = some (r, sr) → E mX6_passAll 4 (some (.int r), sr) 16 [some (.ref c2), some (.int c3), some (.int v4)] [] s5 := by
  intro n6
  induction n6 with
  | zero =>
    intro v4 s5 h
    rw [f_X6_passAll_L16] at h; cases h
  | succ n6 ih7 =>
    intro v4 s5 h
    rw [f_X6_passAll_L16] at h
    refine e_iload_n qX6_passAll_16 rfl ?_
    refine e_iload_n qX6_passAll_17 rfl ?_
    refine e_icmp_ge (tgt := 31) qX6_passAll_18 rfl h (fun _ h => ?_) (fun _ h => ?_)
    · refine e_iconst (nI 0) qX6_passAll_31 rfl ?_
      exact e_iret qX6_passAll_32 rfl (ret_i h)
    refine e_aload_n qX6_passAll_21 rfl ?_
    obtain ⟨s8, hc, h⟩ := bp_e h
    refine e_cVv0 qX6_passAll_22 mv_X6_119 h_c2 rfl rfl (w_X6_passOne h_c2 hc) ?_
    refine vl_e h (fun h => ?_)
    obtain ⟨v9, ev9⟩ : ∃ y, v4 + (nI 1) = y := ⟨_, rfl⟩
    rw [ev9] at h
    refine e_iinc (nI 1) v9 (lv2 := [some (.ref c2), some (.int c3), some (.int v9)]) qX6_passAll_25 rfl rfl rfl ev9 rfl ?_
    refine e_goto (tgt := 16) qX6_passAll_28 rfl ?_
    exact e_weak (ih7 _ _ h) ⟨Or.inr rfl, Or.inr rfl, Or.inr rfl, trivial⟩

set_option maxRecDepth 20000 in
set_option maxHeartbeats 4000000 in
theorem w_X6_passAll {N : Nat} {a0 : Nat} {x1 : Int32} {s0 : St} {r : Int32} {sr : St} (h_a0 : sh a0 = 6) (h : f_X6_passAll N a0 x1 s0 = some (r, sr)) : Ct mX6_passAll 4 [.ref a0, .int x1] s0 (some (.int r), sr) := by
  refine Ct.ofE (by decide +kernel) rfl ?_
  show E mX6_passAll 4 (some (.int r), sr) 0 [some (.ref a0), some (.int x1), none] [] s0
  unfold f_X6_passAll at h
  refine e_sipush (nI 3600) qX6_passAll_0 rfl ?_
  refine e_aload_n qX6_passAll_3 rfl ?_
  refine e_geti qX6_passAll_4 fl_X6_31 h_a0 kdq_6_1 h (fun v1 h => ?_)
  refine e_isub qX6_passAll_7 ?_
  refine e_iload_n qX6_passAll_8 rfl ?_
  refine e_icmp_ge (tgt := 14) qX6_passAll_9 rfl h (fun _ h => ?_) (fun _ h => ?_)
  · refine e_iconst (nI 0) qX6_passAll_14 rfl ?_
    refine e_istore_n (lv2 := [some (.ref a0), some (.int x1), some (.int (nI 0))]) qX6_passAll_15 rfl rfl rfl ?_
    exact e_weak (w_X6_passAll_L16 h_a0  _ _ _ h) ⟨Or.inr rfl, Or.inr rfl, Or.inr rfl, trivial⟩
  refine e_iconst (nI 1) qX6_passAll_12 rfl ?_
  exact e_iret qX6_passAll_13 rfl (ret_i h)

def f_X7_readCondition_L15 (N : Nat) (rec : Nat → Int32 → St → Option (Int32 × St)) (c3 : Nat) (c4 : Int32) : Nat → Int32 → St → Option (Int32 × St)
  | 0, _, _ => none
  | n7 + 1, v5, s6 =>
    if (nI 20) ≤ v5 then
      some ((nI 1), s6)
    else
    bp (f_X9_is 1015 s6) fun v9 =>
    if v9 = 0 then
      some ((nI 1), s6)
    else
    bp (f_X9_next N s6) fun s10 =>
    bd (f_X7_readAll N rec c3 c4 s10) fun v11 s12 =>
    if v11 = 0 then
      some ((nI 0), s12)
    else
    bd (f_X7_add c3 (nI 1) (nI 0) (nI 0) s12) fun v13 s14 =>
    vl (v5 + (nI 1)) fun v15 =>
    f_X7_readCondition_L15 N rec c3 c4 n7 v15 s14

def f_X7_readCondition (N : Nat) (rec : Nat → Int32 → St → Option (Int32 × St)) (a0 : Nat) (x3 : Int32) (s0 : St) : Option (Int32 × St) :=
  bd (f_X7_readAll N rec a0 x3 s0) fun v1 s2 =>
  if v1 = 0 then
    some ((nI 0), s2)
  else
  f_X7_readCondition_L15 N rec a0 x3 N (nI 0) s2

theorem qX7_readCondition_0 : Dc mX7_readCondition 0 (.aload_n 0) 1 1 := ⟨by decide +kernel, rfl⟩
theorem qX7_readCondition_1 : Dc mX7_readCondition 1 (.aload_n 1) 1 2 := ⟨by decide +kernel, rfl⟩
theorem qX7_readCondition_2 : Dc mX7_readCondition 2 (.aload_n 2) 1 3 := ⟨by decide +kernel, rfl⟩
theorem qX7_readCondition_3 : Dc mX7_readCondition 3 (.iload_n 3) 1 4 := ⟨by decide +kernel, rfl⟩
theorem qX7_readCondition_4 : Dc mX7_readCondition 4 (.invokevirtual 54) 3 7 := ⟨by decide +kernel, rfl⟩
theorem qX7_readCondition_7 : Dc mX7_readCondition 7 (.ifCond .ne 5) 3 10 := ⟨by decide +kernel, rfl⟩
theorem qX7_readCondition_10 : Dc mX7_readCondition 10 (.iconst 0) 1 11 := ⟨by decide +kernel, rfl⟩
theorem qX7_readCondition_11 : Dc mX7_readCondition 11 (.ireturn) 1 12 := ⟨by decide +kernel, rfl⟩
theorem qX7_readCondition_12 : Dc mX7_readCondition 12 (.iconst 0) 1 13 := ⟨by decide +kernel, rfl⟩
theorem qX7_readCondition_13 : Dc mX7_readCondition 13 (.istore 4) 2 15 := ⟨by decide +kernel, rfl⟩
theorem qX7_readCondition_15 : Dc mX7_readCondition 15 (.iload 4) 2 17 := ⟨by decide +kernel, rfl⟩
theorem qX7_readCondition_17 : Dc mX7_readCondition 17 (.bipush 20) 2 19 := ⟨by decide +kernel, rfl⟩
theorem qX7_readCondition_19 : Dc mX7_readCondition 19 (.if_icmp .ge 43) 3 22 := ⟨by decide +kernel, rfl⟩
theorem qX7_readCondition_22 : Dc mX7_readCondition 22 (.aload_n 1) 1 23 := ⟨by decide +kernel, rfl⟩
theorem qX7_readCondition_23 : Dc mX7_readCondition 23 (.getstatic 57) 3 26 := ⟨by decide +kernel, rfl⟩
theorem qX7_readCondition_26 : Dc mX7_readCondition 26 (.invokevirtual 63) 3 29 := ⟨by decide +kernel, rfl⟩
theorem qX7_readCondition_29 : Dc mX7_readCondition 29 (.ifCond .eq 33) 3 32 := ⟨by decide +kernel, rfl⟩
theorem qX7_readCondition_32 : Dc mX7_readCondition 32 (.aload_n 1) 1 33 := ⟨by decide +kernel, rfl⟩
theorem qX7_readCondition_33 : Dc mX7_readCondition 33 (.invokevirtual 67) 3 36 := ⟨by decide +kernel, rfl⟩
theorem qX7_readCondition_36 : Dc mX7_readCondition 36 (.aload_n 0) 1 37 := ⟨by decide +kernel, rfl⟩
theorem qX7_readCondition_37 : Dc mX7_readCondition 37 (.aload_n 1) 1 38 := ⟨by decide +kernel, rfl⟩
theorem qX7_readCondition_38 : Dc mX7_readCondition 38 (.aload_n 2) 1 39 := ⟨by decide +kernel, rfl⟩
theorem qX7_readCondition_39 : Dc mX7_readCondition 39 (.iload_n 3) 1 40 := ⟨by decide +kernel, rfl⟩
theorem qX7_readCondition_40 : Dc mX7_readCondition 40 (.invokevirtual 54) 3 43 := ⟨by decide +kernel, rfl⟩
theorem qX7_readCondition_43 : Dc mX7_readCondition 43 (.ifCond .ne 5) 3 46 := ⟨by decide +kernel, rfl⟩
theorem qX7_readCondition_46 : Dc mX7_readCondition 46 (.iconst 0) 1 47 := ⟨by decide +kernel, rfl⟩
theorem qX7_readCondition_47 : Dc mX7_readCondition 47 (.ireturn) 1 48 := ⟨by decide +kernel, rfl⟩
theorem qX7_readCondition_48 : Dc mX7_readCondition 48 (.aload_n 0) 1 49 := ⟨by decide +kernel, rfl⟩
theorem qX7_readCondition_49 : Dc mX7_readCondition 49 (.iconst 1) 1 50 := ⟨by decide +kernel, rfl⟩
theorem qX7_readCondition_50 : Dc mX7_readCondition 50 (.iconst 0) 1 51 := ⟨by decide +kernel, rfl⟩
theorem qX7_readCondition_51 : Dc mX7_readCondition 51 (.iconst 0) 1 52 := ⟨by decide +kernel, rfl⟩
theorem qX7_readCondition_52 : Dc mX7_readCondition 52 (.invokevirtual 70) 3 55 := ⟨by decide +kernel, rfl⟩
theorem qX7_readCondition_55 : Dc mX7_readCondition 55 (.pop) 1 56 := ⟨by decide +kernel, rfl⟩
theorem qX7_readCondition_56 : Dc mX7_readCondition 56 (.iinc 4 1) 3 59 := ⟨by decide +kernel, rfl⟩
theorem qX7_readCondition_59 : Dc mX7_readCondition 59 (.goto (-44)) 3 62 := ⟨by decide +kernel, rfl⟩
theorem qX7_readCondition_62 : Dc mX7_readCondition 62 (.iconst 1) 1 63 := ⟨by decide +kernel, rfl⟩
theorem qX7_readCondition_63 : Dc mX7_readCondition 63 (.ireturn) 1 64 := ⟨by decide +kernel, rfl⟩

set_option maxRecDepth 20000 in
set_option maxHeartbeats 4000000 in
theorem w_X7_readCondition_L15 {N : Nat} {rec : Nat → Int32 → St → Option (Int32 × St)} {c3 : Nat} {c4 : Int32}  {r : Int32} {sr : St} {dR : Nat} (hdR : 20 ≤ dR) (hrec : ∀ (a : Nat) (v : Int32) (s : St) (r : Int32) (s1 : St), sh a = 7 → rec a v s = some (r, s1) → Ct mX7_readOne dR [.ref a, .ref 1, .ref 3, .int v] s (some (.int r), s1)) (h_c3 : sh c3 = 7)  : ∀ (n7 : Nat) (v5 : Int32) (s6 : St), f_X7_readCondition_L15 N rec c3 c4 n7 v5 s6 = some (r, sr) → E mX7_readCondition (dR + 2) (some (.int r), sr) 15 [some (.ref c3), some (.ref 1), some (.ref 3), some (.int c4), some (.int v5)] [] s6 := by
  intro n7
  induction n7 with
  | zero =>
    intro v5 s6 h
    rw [f_X7_readCondition_L15] at h; cases h
  | succ n7 ih8 =>
    intro v5 s6 h
    rw [f_X7_readCondition_L15] at h
    refine e_iload qX7_readCondition_15 rfl ?_
    refine e_bipush (nI 20) qX7_readCondition_17 rfl ?_
    refine e_icmp_ge (tgt := 62) qX7_readCondition_19 rfl h (fun _ h => ?_) (fun _ h => ?_)
    · refine e_iconst (nI 1) qX7_readCondition_62 rfl ?_
      exact e_zret qX7_readCondition_63 rfl (by decide) (ret_i h)
    refine e_aload_n qX7_readCondition_22 rfl ?_
    refine e_getsw (i := 15) qX7_readCondition_23 (by decide) cg_X7_57 ?_
    obtain ⟨v9, hc, h⟩ := bp_e h
    refine e_cVi1 qX7_readCondition_26 mv_X7_63 shq_1 rfl (by rw [Nat.ble_eq]; omega) (w_X9_is hc) ?_
    refine e_if_eq (tgt := 62) qX7_readCondition_29 rfl h (fun _ h => ?_) (fun _ h => ?_)
    · refine e_iconst (nI 1) qX7_readCondition_62 rfl ?_
      exact e_zret qX7_readCondition_63 rfl (by decide) (ret_i h)
    refine e_aload_n qX7_readCondition_32 rfl ?_
    obtain ⟨s10, hc, h⟩ := bp_e h
    refine e_cVv0 qX7_readCondition_33 mv_X7_67 shq_1 rfl (by rw [Nat.ble_eq]; omega) (w_X9_next hc) ?_
    refine e_aload_n qX7_readCondition_36 rfl ?_
    refine e_aload_n qX7_readCondition_37 rfl ?_
    refine e_aload_n qX7_readCondition_38 rfl ?_
    refine e_iload_n qX7_readCondition_39 rfl ?_
    obtain ⟨v11, s12, hc, h⟩ := bd_e h
    refine e_cVi3 qX7_readCondition_40 mv_X7_54 h_c3 rfl (by rw [Nat.ble_eq]; omega) (w_X7_readAll hdR hrec h_c3 hc) ?_
    refine e_if_ne (tgt := 48) qX7_readCondition_43 rfl h (fun _ h => ?_) (fun _ h => ?_)
    · refine e_iconst (nI 0) qX7_readCondition_46 rfl ?_
      exact e_zret qX7_readCondition_47 rfl (by decide) (ret_i h)
    refine e_aload_n qX7_readCondition_48 rfl ?_
    refine e_iconst (nI 1) qX7_readCondition_49 rfl ?_
    refine e_iconst (nI 0) qX7_readCondition_50 rfl ?_
    refine e_iconst (nI 0) qX7_readCondition_51 rfl ?_
    obtain ⟨v13, s14, hc, h⟩ := bd_e h
    refine e_cVi3 qX7_readCondition_52 mv_X7_70 h_c3 rfl (by rw [Nat.ble_eq]; omega) (w_X7_add h_c3 hc) ?_
    refine e_pop qX7_readCondition_55 rfl ?_
    refine vl_e h (fun h => ?_)
    obtain ⟨v15, ev15⟩ : ∃ y, v5 + (nI 1) = y := ⟨_, rfl⟩
    rw [ev15] at h
    refine e_iinc (nI 1) v15 (lv2 := [some (.ref c3), some (.ref 1), some (.ref 3), some (.int c4), some (.int v15)]) qX7_readCondition_56 rfl rfl rfl ev15 rfl ?_
    refine e_goto (tgt := 15) qX7_readCondition_59 rfl ?_
    exact e_weak (ih8 _ _ h) ⟨Or.inr rfl, Or.inr rfl, Or.inr rfl, Or.inr rfl, Or.inr rfl, trivial⟩

set_option maxRecDepth 20000 in
set_option maxHeartbeats 4000000 in
theorem w_X7_readCondition {N : Nat} {rec : Nat → Int32 → St → Option (Int32 × St)} {a0 : Nat} {x3 : Int32} {dR : Nat} (hdR : 20 ≤ dR) (hrec : ∀ (a : Nat) (v : Int32) (s : St) (r : Int32) (s1 : St), sh a = 7 → rec a v s = some (r, s1) → Ct mX7_readOne dR [.ref a, .ref 1, .ref 3, .int v] s (some (.int r), s1)) {s0 : St} {r : Int32} {sr : St} (h_a0 : sh a0 = 7) (h : f_X7_readCondition N rec a0 x3 s0 = some (r, sr)) : Ct mX7_readCondition (dR + 2) [.ref a0, .ref 1, .ref 3, .int x3] s0 (some (.int r), sr) := by
  refine Ct.ofE (by decide +kernel) rfl ?_
  show E mX7_readCondition (dR + 2) (some (.int r), sr) 0 [some (.ref a0), some (.ref 1), some (.ref 3), some (.int x3), none] [] s0
  unfold f_X7_readCondition at h
  refine e_aload_n qX7_readCondition_0 rfl ?_
  refine e_aload_n qX7_readCondition_1 rfl ?_
  refine e_aload_n qX7_readCondition_2 rfl ?_
  refine e_iload_n qX7_readCondition_3 rfl ?_
  obtain ⟨v1, s2, hc, h⟩ := bd_e h
  refine e_cVi3 qX7_readCondition_4 mv_X7_54 h_a0 rfl (by rw [Nat.ble_eq]; omega) (w_X7_readAll hdR hrec h_a0 hc) ?_
  refine e_if_ne (tgt := 12) qX7_readCondition_7 rfl h (fun _ h => ?_) (fun _ h => ?_)
  · refine e_iconst (nI 0) qX7_readCondition_10 rfl ?_
    exact e_zret qX7_readCondition_11 rfl (by decide) (ret_i h)
  refine e_iconst (nI 0) qX7_readCondition_12 rfl ?_
  refine e_istore (lv2 := [some (.ref a0), some (.ref 1), some (.ref 3), some (.int x3), some (.int (nI 0))]) qX7_readCondition_13 rfl rfl rfl ?_
  exact e_weak (w_X7_readCondition_L15 hdR hrec h_a0  _ _ _ h) ⟨Or.inr rfl, Or.inr rfl, Or.inr rfl, Or.inr rfl, Or.inr rfl, trivial⟩

def f_X7_readPlain (N : Nat) (a0 : Nat) (x3 : Int32) (s0 : St) : Option (Int32 × St) :=
  if x3 = nI 3 then
    bd (f_X7_add a0 x3 (nI 0) (nI 0) s0) fun v1 s2 =>
    rz v1 <|
    some (v1, s2)
  else
  if x3 = nI 4 then
    bd (f_X7_add a0 x3 (nI 0) (nI 0) s0) fun v3 s4 =>
    rz v3 <|
    some (v3, s4)
  else
  if x3 = nI 5 then
    bd (f_X7_add a0 x3 (nI 0) (nI 0) s0) fun v5 s6 =>
    rz v5 <|
    some (v5, s6)
  else
  if x3 = nI 6 then
    bd (f_X1_lightAt N 3 s0) fun v7 s8 =>
    bd (f_X7_readNamed N a0 x3 v7 s8) fun v9 s10 =>
    rz v9 <|
    some (v9, s10)
  else
  if x3 = nI 7 then
    bd (f_X1_shipAt N 3 s0) fun v11 s12 =>
    bd (f_X7_readNamed N a0 x3 v11 s12) fun v13 s14 =>
    rz v13 <|
    some (v13, s14)
  else
  bd (f_X7_readMeasure N a0 x3 s0) fun v15 s16 =>
  rz v15 <|
  some (v15, s16)

theorem qX7_readPlain_0 : Dc mX7_readPlain 0 (.iload_n 3) 1 1 := ⟨by decide +kernel, rfl⟩
theorem qX7_readPlain_1 : Dc mX7_readPlain 1 (.tableswitch 67 3 7 #[59, 59, 59, 35, 47]) 35 36 := ⟨by decide +kernel, rfl⟩
theorem qX7_readPlain_36 : Dc mX7_readPlain 36 (.aload_n 0) 1 37 := ⟨by decide +kernel, rfl⟩
theorem qX7_readPlain_37 : Dc mX7_readPlain 37 (.aload_n 1) 1 38 := ⟨by decide +kernel, rfl⟩
theorem qX7_readPlain_38 : Dc mX7_readPlain 38 (.iload_n 3) 1 39 := ⟨by decide +kernel, rfl⟩
theorem qX7_readPlain_39 : Dc mX7_readPlain 39 (.aload_n 2) 1 40 := ⟨by decide +kernel, rfl⟩
theorem qX7_readPlain_40 : Dc mX7_readPlain 40 (.aload_n 1) 1 41 := ⟨by decide +kernel, rfl⟩
theorem qX7_readPlain_41 : Dc mX7_readPlain 41 (.invokevirtual 128) 3 44 := ⟨by decide +kernel, rfl⟩
theorem qX7_readPlain_44 : Dc mX7_readPlain 44 (.invokevirtual 133) 3 47 := ⟨by decide +kernel, rfl⟩
theorem qX7_readPlain_47 : Dc mX7_readPlain 47 (.ireturn) 1 48 := ⟨by decide +kernel, rfl⟩
theorem qX7_readPlain_48 : Dc mX7_readPlain 48 (.aload_n 0) 1 49 := ⟨by decide +kernel, rfl⟩
theorem qX7_readPlain_49 : Dc mX7_readPlain 49 (.aload_n 1) 1 50 := ⟨by decide +kernel, rfl⟩
theorem qX7_readPlain_50 : Dc mX7_readPlain 50 (.iload_n 3) 1 51 := ⟨by decide +kernel, rfl⟩
theorem qX7_readPlain_51 : Dc mX7_readPlain 51 (.aload_n 2) 1 52 := ⟨by decide +kernel, rfl⟩
theorem qX7_readPlain_52 : Dc mX7_readPlain 52 (.aload_n 1) 1 53 := ⟨by decide +kernel, rfl⟩
theorem qX7_readPlain_53 : Dc mX7_readPlain 53 (.invokevirtual 137) 3 56 := ⟨by decide +kernel, rfl⟩
theorem qX7_readPlain_56 : Dc mX7_readPlain 56 (.invokevirtual 133) 3 59 := ⟨by decide +kernel, rfl⟩
theorem qX7_readPlain_59 : Dc mX7_readPlain 59 (.ireturn) 1 60 := ⟨by decide +kernel, rfl⟩
theorem qX7_readPlain_60 : Dc mX7_readPlain 60 (.aload_n 0) 1 61 := ⟨by decide +kernel, rfl⟩
theorem qX7_readPlain_61 : Dc mX7_readPlain 61 (.iload_n 3) 1 62 := ⟨by decide +kernel, rfl⟩
theorem qX7_readPlain_62 : Dc mX7_readPlain 62 (.iconst 0) 1 63 := ⟨by decide +kernel, rfl⟩
theorem qX7_readPlain_63 : Dc mX7_readPlain 63 (.iconst 0) 1 64 := ⟨by decide +kernel, rfl⟩
theorem qX7_readPlain_64 : Dc mX7_readPlain 64 (.invokevirtual 70) 3 67 := ⟨by decide +kernel, rfl⟩
theorem qX7_readPlain_67 : Dc mX7_readPlain 67 (.ireturn) 1 68 := ⟨by decide +kernel, rfl⟩
theorem qX7_readPlain_68 : Dc mX7_readPlain 68 (.aload_n 0) 1 69 := ⟨by decide +kernel, rfl⟩
theorem qX7_readPlain_69 : Dc mX7_readPlain 69 (.aload_n 1) 1 70 := ⟨by decide +kernel, rfl⟩
theorem qX7_readPlain_70 : Dc mX7_readPlain 70 (.iload_n 3) 1 71 := ⟨by decide +kernel, rfl⟩
theorem qX7_readPlain_71 : Dc mX7_readPlain 71 (.invokevirtual 140) 3 74 := ⟨by decide +kernel, rfl⟩
theorem qX7_readPlain_74 : Dc mX7_readPlain 74 (.ireturn) 1 75 := ⟨by decide +kernel, rfl⟩

set_option maxRecDepth 20000 in
set_option maxHeartbeats 4000000 in
theorem w_X7_readPlain {N : Nat} {a0 : Nat} {x3 : Int32} {s0 : St} {r : Int32} {sr : St} (h_a0 : sh a0 = 7) (h : f_X7_readPlain N a0 x3 s0 = some (r, sr)) : Ct mX7_readPlain 4 [.ref a0, .ref 1, .ref 3, .int x3] s0 (some (.int r), sr) := by
  refine Ct.ofE (by decide +kernel) rfl ?_
  show E mX7_readPlain 4 (some (.int r), sr) 0 [some (.ref a0), some (.ref 1), some (.ref 3), some (.int x3)] [] s0
  unfold f_X7_readPlain at h
  refine e_iload_n qX7_readPlain_0 rfl ?_
  refine e_ite h (fun hx h => ?_) (fun hx0 h => ?_)
  · refine e_tswk (tgt := 60) qX7_readPlain_1 hx (by decide) (by decide) (by decide) rfl rfl ?_
    refine e_aload_n qX7_readPlain_60 rfl ?_
    refine e_iload_n qX7_readPlain_61 rfl ?_
    refine e_iconst (nI 0) qX7_readPlain_62 rfl ?_
    refine e_iconst (nI 0) qX7_readPlain_63 rfl ?_
    obtain ⟨v1, s2, hc, h⟩ := bd_e h
    refine e_cVi3 qX7_readPlain_64 mv_X7_70 h_a0 rfl rfl (w_X7_add h_a0 hc) ?_
    refine rz_e h (fun hz h => ?_)
    exact e_zret qX7_readPlain_67 rfl hz (ret_i h)
  refine e_ite h (fun hx h => ?_) (fun hx1 h => ?_)
  · refine e_tswk (tgt := 60) qX7_readPlain_1 hx (by decide) (by decide) (by decide) rfl rfl ?_
    refine e_aload_n qX7_readPlain_60 rfl ?_
    refine e_iload_n qX7_readPlain_61 rfl ?_
    refine e_iconst (nI 0) qX7_readPlain_62 rfl ?_
    refine e_iconst (nI 0) qX7_readPlain_63 rfl ?_
    obtain ⟨v3, s4, hc, h⟩ := bd_e h
    refine e_cVi3 qX7_readPlain_64 mv_X7_70 h_a0 rfl rfl (w_X7_add h_a0 hc) ?_
    refine rz_e h (fun hz h => ?_)
    exact e_zret qX7_readPlain_67 rfl hz (ret_i h)
  refine e_ite h (fun hx h => ?_) (fun hx2 h => ?_)
  · refine e_tswk (tgt := 60) qX7_readPlain_1 hx (by decide) (by decide) (by decide) rfl rfl ?_
    refine e_aload_n qX7_readPlain_60 rfl ?_
    refine e_iload_n qX7_readPlain_61 rfl ?_
    refine e_iconst (nI 0) qX7_readPlain_62 rfl ?_
    refine e_iconst (nI 0) qX7_readPlain_63 rfl ?_
    obtain ⟨v5, s6, hc, h⟩ := bd_e h
    refine e_cVi3 qX7_readPlain_64 mv_X7_70 h_a0 rfl rfl (w_X7_add h_a0 hc) ?_
    refine rz_e h (fun hz h => ?_)
    exact e_zret qX7_readPlain_67 rfl hz (ret_i h)
  refine e_ite h (fun hx h => ?_) (fun hx3 h => ?_)
  · refine e_tswk (tgt := 36) qX7_readPlain_1 hx (by decide) (by decide) (by decide) rfl rfl ?_
    refine e_aload_n qX7_readPlain_36 rfl ?_
    refine e_aload_n qX7_readPlain_37 rfl ?_
    refine e_iload_n qX7_readPlain_38 rfl ?_
    refine e_aload_n qX7_readPlain_39 rfl ?_
    refine e_aload_n qX7_readPlain_40 rfl ?_
    obtain ⟨v7, s8, hc, h⟩ := bd_e h
    refine e_cVi1 qX7_readPlain_41 mv_X7_128 shq_3 rfl rfl (w_X1_lightAt shq_3 hc) ?_
    obtain ⟨v9, s10, hc, h⟩ := bd_e h
    refine e_cVi3 qX7_readPlain_44 mv_X7_133 h_a0 rfl rfl (w_X7_readNamed h_a0 hc) ?_
    refine rz_e h (fun hz h => ?_)
    exact e_zret qX7_readPlain_47 rfl hz (ret_i h)
  refine e_ite h (fun hx h => ?_) (fun hx4 h => ?_)
  · refine e_tswk (tgt := 48) qX7_readPlain_1 hx (by decide) (by decide) (by decide) rfl rfl ?_
    refine e_aload_n qX7_readPlain_48 rfl ?_
    refine e_aload_n qX7_readPlain_49 rfl ?_
    refine e_iload_n qX7_readPlain_50 rfl ?_
    refine e_aload_n qX7_readPlain_51 rfl ?_
    refine e_aload_n qX7_readPlain_52 rfl ?_
    obtain ⟨v11, s12, hc, h⟩ := bd_e h
    refine e_cVi1 qX7_readPlain_53 mv_X7_137 shq_3 rfl rfl (w_X1_shipAt shq_3 hc) ?_
    obtain ⟨v13, s14, hc, h⟩ := bd_e h
    refine e_cVi3 qX7_readPlain_56 mv_X7_133 h_a0 rfl rfl (w_X7_readNamed h_a0 hc) ?_
    refine rz_e h (fun hz h => ?_)
    exact e_zret qX7_readPlain_59 rfl hz (ret_i h)
  refine e_tswo (tgt := 68) qX7_readPlain_1 (tsw_def (lo := 3) (n := 5) (by decide) (lt_s (lt_s (lt_s (lt_s (lt_s lt_0 hx0) hx1) hx2) hx3) hx4)) rfl ?_
  refine e_aload_n qX7_readPlain_68 rfl ?_
  refine e_aload_n qX7_readPlain_69 rfl ?_
  refine e_iload_n qX7_readPlain_70 rfl ?_
  obtain ⟨v15, s16, hc, h⟩ := bd_e h
  refine e_cVi2 qX7_readPlain_71 mv_X7_140 h_a0 rfl rfl (w_X7_readMeasure h_a0 hc) ?_
  refine rz_e h (fun hz h => ?_)
  exact e_zret qX7_readPlain_74 rfl hz (ret_i h)

def f_X7_saidOf_L4 (N : Nat) (c1 : Nat) (c2 : Nat) (k6 : Int32 → St → Option (Int32 × St)) : Nat → Int32 → Int32 → St → Option (Int32 × St)
  | 0, _, _, _ => none
  | n9 + 1, v3, v4, s5 =>
    vl (s5.1 c1 1) fun v11 =>
    if v11 ≤ v4 then
      k6 v3 s5
    else
    ald (s5.1 (rr c1 2)) 40 v4 fun v12 =>
    jn (fun (v13 : Int32) (s14 : St) =>
      vl (v4 + (nI 1)) fun v16 =>
      f_X7_saidOf_L4 N c1 c2 k6 n9 v13 v16 s14) fun j15 =>
    jn (jn (jn (if (nI 40) ≤ v3 then
            j15 v3 s5
          else
          bp (f_X7_plainSet N c1 c2 v4 s5) fun v20 =>
          ald (fun j => sI s5 (rr c1 5) j v20) 40 v3 fun s21 =>
          vl (v3 + (nI 1)) fun v22 =>
          j15 v22 s21) fun j19 =>
        if v12 = (nI 1) then
          if v3 < (nI 2) then
            j19
          else
          ald (s5.1 (rr c1 5)) 40 (v3 - (nI 2)) fun v23 =>
          ald (s5.1 (rr c1 5)) 40 (v3 - (nI 1)) fun v24 =>
          ald (fun j => sI s5 (rr c1 5) j (v23 ||| v24)) 40 (v3 - (nI 2)) fun s25 =>
          vl (v3 + (-1)) fun v26 =>
          j15 v26 s25
        else
        j19) fun j18 =>
      if v12 = 0 then
        if v3 < (nI 2) then
          j18
        else
        ald (s5.1 (rr c1 5)) 40 (v3 - (nI 2)) fun v27 =>
        ald (s5.1 (rr c1 5)) 40 (v3 - (nI 1)) fun v28 =>
        ald (fun j => sI s5 (rr c1 5) j (v27 &&& v28)) 40 (v3 - (nI 2)) fun s29 =>
        vl (v3 + (-1)) fun v30 =>
        j15 v30 s29
      else
      j18) fun j17 =>
    if v12 = (nI 2) then
      if v3 < (nI 1) then
        j17
      else
      bp (f_X1_allLights 3 s5) fun v31 =>
      ald (s5.1 (rr c1 5)) 40 (v3 - (nI 1)) fun v32 =>
      ald (fun j => sI s5 (rr c1 5) j (v31 &&& (v32 ^^^ (-1)))) 40 (v3 - (nI 1)) fun s33 =>
      j15 v3 s33
    else
    j17

def f_X7_saidOf (N : Nat) (a0 : Nat) (a1 : Nat) (s0 : St) : Option (Int32 × St) :=
  f_X7_saidOf_L4 N a0 a1 (fun (v34 : Int32) (s35 : St) =>
    if v34 ≤ 0 then
      some ((nI 0), s35)
    else
    ald (s35.1 (rr a0 5)) 40 (nI 0) fun v36 =>
    some (v36, s35)) N (nI 0) (nI 0) s0

theorem qX7_saidOf_0 : Dc mX7_saidOf 0 (.iconst 0) 1 1 := ⟨by decide +kernel, rfl⟩
theorem qX7_saidOf_1 : Dc mX7_saidOf 1 (.istore_n 2) 1 2 := ⟨by decide +kernel, rfl⟩
theorem qX7_saidOf_2 : Dc mX7_saidOf 2 (.iconst 0) 1 3 := ⟨by decide +kernel, rfl⟩
theorem qX7_saidOf_3 : Dc mX7_saidOf 3 (.istore_n 3) 1 4 := ⟨by decide +kernel, rfl⟩
theorem qX7_saidOf_4 : Dc mX7_saidOf 4 (.iload_n 3) 1 5 := ⟨by decide +kernel, rfl⟩
theorem qX7_saidOf_5 : Dc mX7_saidOf 5 (.aload_n 0) 1 6 := ⟨by decide +kernel, rfl⟩
theorem qX7_saidOf_6 : Dc mX7_saidOf 6 (.getfield 28) 3 9 := ⟨by decide +kernel, rfl⟩
theorem qX7_saidOf_9 : Dc mX7_saidOf 9 (.if_icmp .ge 149) 3 12 := ⟨by decide +kernel, rfl⟩
theorem qX7_saidOf_12 : Dc mX7_saidOf 12 (.aload_n 0) 1 13 := ⟨by decide +kernel, rfl⟩
theorem qX7_saidOf_13 : Dc mX7_saidOf 13 (.getfield 11) 3 16 := ⟨by decide +kernel, rfl⟩
theorem qX7_saidOf_16 : Dc mX7_saidOf 16 (.iload_n 3) 1 17 := ⟨by decide +kernel, rfl⟩
theorem qX7_saidOf_17 : Dc mX7_saidOf 17 (.iaload) 1 18 := ⟨by decide +kernel, rfl⟩
theorem qX7_saidOf_18 : Dc mX7_saidOf 18 (.istore 4) 2 20 := ⟨by decide +kernel, rfl⟩
theorem qX7_saidOf_20 : Dc mX7_saidOf 20 (.iload 4) 2 22 := ⟨by decide +kernel, rfl⟩
theorem qX7_saidOf_22 : Dc mX7_saidOf 22 (.iconst 2) 1 23 := ⟨by decide +kernel, rfl⟩
theorem qX7_saidOf_23 : Dc mX7_saidOf 23 (.if_icmp .ne 37) 3 26 := ⟨by decide +kernel, rfl⟩
theorem qX7_saidOf_26 : Dc mX7_saidOf 26 (.iload_n 2) 1 27 := ⟨by decide +kernel, rfl⟩
theorem qX7_saidOf_27 : Dc mX7_saidOf 27 (.iconst 1) 1 28 := ⟨by decide +kernel, rfl⟩
theorem qX7_saidOf_28 : Dc mX7_saidOf 28 (.if_icmp .lt 32) 3 31 := ⟨by decide +kernel, rfl⟩
theorem qX7_saidOf_31 : Dc mX7_saidOf 31 (.aload_n 0) 1 32 := ⟨by decide +kernel, rfl⟩
theorem qX7_saidOf_32 : Dc mX7_saidOf 32 (.getfield 21) 3 35 := ⟨by decide +kernel, rfl⟩
theorem qX7_saidOf_35 : Dc mX7_saidOf 35 (.iload_n 2) 1 36 := ⟨by decide +kernel, rfl⟩
theorem qX7_saidOf_36 : Dc mX7_saidOf 36 (.iconst 1) 1 37 := ⟨by decide +kernel, rfl⟩
theorem qX7_saidOf_37 : Dc mX7_saidOf 37 (.isub) 1 38 := ⟨by decide +kernel, rfl⟩
theorem qX7_saidOf_38 : Dc mX7_saidOf 38 (.aload_n 1) 1 39 := ⟨by decide +kernel, rfl⟩
theorem qX7_saidOf_39 : Dc mX7_saidOf 39 (.getfield 154) 3 42 := ⟨by decide +kernel, rfl⟩
theorem qX7_saidOf_42 : Dc mX7_saidOf 42 (.invokevirtual 160) 3 45 := ⟨by decide +kernel, rfl⟩
theorem qX7_saidOf_45 : Dc mX7_saidOf 45 (.aload_n 0) 1 46 := ⟨by decide +kernel, rfl⟩
theorem qX7_saidOf_46 : Dc mX7_saidOf 46 (.getfield 21) 3 49 := ⟨by decide +kernel, rfl⟩
theorem qX7_saidOf_49 : Dc mX7_saidOf 49 (.iload_n 2) 1 50 := ⟨by decide +kernel, rfl⟩
theorem qX7_saidOf_50 : Dc mX7_saidOf 50 (.iconst 1) 1 51 := ⟨by decide +kernel, rfl⟩
theorem qX7_saidOf_51 : Dc mX7_saidOf 51 (.isub) 1 52 := ⟨by decide +kernel, rfl⟩
theorem qX7_saidOf_52 : Dc mX7_saidOf 52 (.iaload) 1 53 := ⟨by decide +kernel, rfl⟩
theorem qX7_saidOf_53 : Dc mX7_saidOf 53 (.iconst (-1)) 1 54 := ⟨by decide +kernel, rfl⟩
theorem qX7_saidOf_54 : Dc mX7_saidOf 54 (.ixor) 1 55 := ⟨by decide +kernel, rfl⟩
theorem qX7_saidOf_55 : Dc mX7_saidOf 55 (.iand) 1 56 := ⟨by decide +kernel, rfl⟩
theorem qX7_saidOf_56 : Dc mX7_saidOf 56 (.iastore) 1 57 := ⟨by decide +kernel, rfl⟩
theorem qX7_saidOf_57 : Dc mX7_saidOf 57 (.goto 95) 3 60 := ⟨by decide +kernel, rfl⟩
theorem qX7_saidOf_60 : Dc mX7_saidOf 60 (.iload 4) 2 62 := ⟨by decide +kernel, rfl⟩
theorem qX7_saidOf_62 : Dc mX7_saidOf 62 (.ifCond .ne 33) 3 65 := ⟨by decide +kernel, rfl⟩
theorem qX7_saidOf_65 : Dc mX7_saidOf 65 (.iload_n 2) 1 66 := ⟨by decide +kernel, rfl⟩
theorem qX7_saidOf_66 : Dc mX7_saidOf 66 (.iconst 2) 1 67 := ⟨by decide +kernel, rfl⟩
theorem qX7_saidOf_67 : Dc mX7_saidOf 67 (.if_icmp .lt 28) 3 70 := ⟨by decide +kernel, rfl⟩
theorem qX7_saidOf_70 : Dc mX7_saidOf 70 (.aload_n 0) 1 71 := ⟨by decide +kernel, rfl⟩
theorem qX7_saidOf_71 : Dc mX7_saidOf 71 (.getfield 21) 3 74 := ⟨by decide +kernel, rfl⟩
theorem qX7_saidOf_74 : Dc mX7_saidOf 74 (.iload_n 2) 1 75 := ⟨by decide +kernel, rfl⟩
theorem qX7_saidOf_75 : Dc mX7_saidOf 75 (.iconst 2) 1 76 := ⟨by decide +kernel, rfl⟩
theorem qX7_saidOf_76 : Dc mX7_saidOf 76 (.isub) 1 77 := ⟨by decide +kernel, rfl⟩
theorem qX7_saidOf_77 : Dc mX7_saidOf 77 (.dup2) 1 78 := ⟨by decide +kernel, rfl⟩
theorem qX7_saidOf_78 : Dc mX7_saidOf 78 (.iaload) 1 79 := ⟨by decide +kernel, rfl⟩
theorem qX7_saidOf_79 : Dc mX7_saidOf 79 (.aload_n 0) 1 80 := ⟨by decide +kernel, rfl⟩
theorem qX7_saidOf_80 : Dc mX7_saidOf 80 (.getfield 21) 3 83 := ⟨by decide +kernel, rfl⟩
theorem qX7_saidOf_83 : Dc mX7_saidOf 83 (.iload_n 2) 1 84 := ⟨by decide +kernel, rfl⟩
theorem qX7_saidOf_84 : Dc mX7_saidOf 84 (.iconst 1) 1 85 := ⟨by decide +kernel, rfl⟩
theorem qX7_saidOf_85 : Dc mX7_saidOf 85 (.isub) 1 86 := ⟨by decide +kernel, rfl⟩
theorem qX7_saidOf_86 : Dc mX7_saidOf 86 (.iaload) 1 87 := ⟨by decide +kernel, rfl⟩
theorem qX7_saidOf_87 : Dc mX7_saidOf 87 (.iand) 1 88 := ⟨by decide +kernel, rfl⟩
theorem qX7_saidOf_88 : Dc mX7_saidOf 88 (.iastore) 1 89 := ⟨by decide +kernel, rfl⟩
theorem qX7_saidOf_89 : Dc mX7_saidOf 89 (.iinc 2 (-1)) 3 92 := ⟨by decide +kernel, rfl⟩
theorem qX7_saidOf_92 : Dc mX7_saidOf 92 (.goto 60) 3 95 := ⟨by decide +kernel, rfl⟩
theorem qX7_saidOf_95 : Dc mX7_saidOf 95 (.iload 4) 2 97 := ⟨by decide +kernel, rfl⟩
theorem qX7_saidOf_97 : Dc mX7_saidOf 97 (.iconst 1) 1 98 := ⟨by decide +kernel, rfl⟩
theorem qX7_saidOf_98 : Dc mX7_saidOf 98 (.if_icmp .ne 33) 3 101 := ⟨by decide +kernel, rfl⟩
theorem qX7_saidOf_101 : Dc mX7_saidOf 101 (.iload_n 2) 1 102 := ⟨by decide +kernel, rfl⟩
theorem qX7_saidOf_102 : Dc mX7_saidOf 102 (.iconst 2) 1 103 := ⟨by decide +kernel, rfl⟩
theorem qX7_saidOf_103 : Dc mX7_saidOf 103 (.if_icmp .lt 28) 3 106 := ⟨by decide +kernel, rfl⟩
theorem qX7_saidOf_106 : Dc mX7_saidOf 106 (.aload_n 0) 1 107 := ⟨by decide +kernel, rfl⟩
theorem qX7_saidOf_107 : Dc mX7_saidOf 107 (.getfield 21) 3 110 := ⟨by decide +kernel, rfl⟩
theorem qX7_saidOf_110 : Dc mX7_saidOf 110 (.iload_n 2) 1 111 := ⟨by decide +kernel, rfl⟩
theorem qX7_saidOf_111 : Dc mX7_saidOf 111 (.iconst 2) 1 112 := ⟨by decide +kernel, rfl⟩
theorem qX7_saidOf_112 : Dc mX7_saidOf 112 (.isub) 1 113 := ⟨by decide +kernel, rfl⟩
theorem qX7_saidOf_113 : Dc mX7_saidOf 113 (.dup2) 1 114 := ⟨by decide +kernel, rfl⟩
theorem qX7_saidOf_114 : Dc mX7_saidOf 114 (.iaload) 1 115 := ⟨by decide +kernel, rfl⟩
theorem qX7_saidOf_115 : Dc mX7_saidOf 115 (.aload_n 0) 1 116 := ⟨by decide +kernel, rfl⟩
theorem qX7_saidOf_116 : Dc mX7_saidOf 116 (.getfield 21) 3 119 := ⟨by decide +kernel, rfl⟩
theorem qX7_saidOf_119 : Dc mX7_saidOf 119 (.iload_n 2) 1 120 := ⟨by decide +kernel, rfl⟩
theorem qX7_saidOf_120 : Dc mX7_saidOf 120 (.iconst 1) 1 121 := ⟨by decide +kernel, rfl⟩
theorem qX7_saidOf_121 : Dc mX7_saidOf 121 (.isub) 1 122 := ⟨by decide +kernel, rfl⟩
theorem qX7_saidOf_122 : Dc mX7_saidOf 122 (.iaload) 1 123 := ⟨by decide +kernel, rfl⟩
theorem qX7_saidOf_123 : Dc mX7_saidOf 123 (.ior) 1 124 := ⟨by decide +kernel, rfl⟩
theorem qX7_saidOf_124 : Dc mX7_saidOf 124 (.iastore) 1 125 := ⟨by decide +kernel, rfl⟩
theorem qX7_saidOf_125 : Dc mX7_saidOf 125 (.iinc 2 (-1)) 3 128 := ⟨by decide +kernel, rfl⟩
theorem qX7_saidOf_128 : Dc mX7_saidOf 128 (.goto 24) 3 131 := ⟨by decide +kernel, rfl⟩
theorem qX7_saidOf_131 : Dc mX7_saidOf 131 (.iload_n 2) 1 132 := ⟨by decide +kernel, rfl⟩
theorem qX7_saidOf_132 : Dc mX7_saidOf 132 (.bipush 40) 2 134 := ⟨by decide +kernel, rfl⟩
theorem qX7_saidOf_134 : Dc mX7_saidOf 134 (.if_icmp .ge 18) 3 137 := ⟨by decide +kernel, rfl⟩
theorem qX7_saidOf_137 : Dc mX7_saidOf 137 (.aload_n 0) 1 138 := ⟨by decide +kernel, rfl⟩
theorem qX7_saidOf_138 : Dc mX7_saidOf 138 (.getfield 21) 3 141 := ⟨by decide +kernel, rfl⟩
theorem qX7_saidOf_141 : Dc mX7_saidOf 141 (.iload_n 2) 1 142 := ⟨by decide +kernel, rfl⟩
theorem qX7_saidOf_142 : Dc mX7_saidOf 142 (.aload_n 0) 1 143 := ⟨by decide +kernel, rfl⟩
theorem qX7_saidOf_143 : Dc mX7_saidOf 143 (.aload_n 1) 1 144 := ⟨by decide +kernel, rfl⟩
theorem qX7_saidOf_144 : Dc mX7_saidOf 144 (.iload_n 3) 1 145 := ⟨by decide +kernel, rfl⟩
theorem qX7_saidOf_145 : Dc mX7_saidOf 145 (.invokevirtual 164) 3 148 := ⟨by decide +kernel, rfl⟩
theorem qX7_saidOf_148 : Dc mX7_saidOf 148 (.iastore) 1 149 := ⟨by decide +kernel, rfl⟩
theorem qX7_saidOf_149 : Dc mX7_saidOf 149 (.iinc 2 1) 3 152 := ⟨by decide +kernel, rfl⟩
theorem qX7_saidOf_152 : Dc mX7_saidOf 152 (.iinc 3 1) 3 155 := ⟨by decide +kernel, rfl⟩
theorem qX7_saidOf_155 : Dc mX7_saidOf 155 (.goto (-151)) 3 158 := ⟨by decide +kernel, rfl⟩
theorem qX7_saidOf_158 : Dc mX7_saidOf 158 (.iload_n 2) 1 159 := ⟨by decide +kernel, rfl⟩
theorem qX7_saidOf_159 : Dc mX7_saidOf 159 (.ifCond .le 12) 3 162 := ⟨by decide +kernel, rfl⟩
theorem qX7_saidOf_162 : Dc mX7_saidOf 162 (.aload_n 0) 1 163 := ⟨by decide +kernel, rfl⟩
theorem qX7_saidOf_163 : Dc mX7_saidOf 163 (.getfield 21) 3 166 := ⟨by decide +kernel, rfl⟩
theorem qX7_saidOf_166 : Dc mX7_saidOf 166 (.iconst 0) 1 167 := ⟨by decide +kernel, rfl⟩
theorem qX7_saidOf_167 : Dc mX7_saidOf 167 (.iaload) 1 168 := ⟨by decide +kernel, rfl⟩
theorem qX7_saidOf_168 : Dc mX7_saidOf 168 (.goto 4) 3 171 := ⟨by decide +kernel, rfl⟩
theorem qX7_saidOf_171 : Dc mX7_saidOf 171 (.iconst 0) 1 172 := ⟨by decide +kernel, rfl⟩
theorem qX7_saidOf_172 : Dc mX7_saidOf 172 (.ireturn) 1 173 := ⟨by decide +kernel, rfl⟩

set_option maxRecDepth 20000 in
set_option maxHeartbeats 4000000 in
theorem w_X7_saidOf_L4 {N : Nat} {c1 : Nat} {c2 : Nat} {k6 : Int32 → St → Option (Int32 × St)} {r : Int32} {sr : St} (h_c1 : sh c1 = 7) (h_c2 : sh c2 = 6) (hk6 : ∀ (v7 : Int32) (s8 : St), k6 v7 s8 = some (r, sr) → E mX7_saidOf 6 (some (.int r), sr) 158 [some (.ref c1), none, some (.int v7), none, none] [] s8) : ∀ (n9 : Nat) (v3 : Int32) (v4 : Int32) (s5 : St), f_X7_saidOf_L4 N c1 c2 k6 n9 v3 v4 s5 = some (r, sr) → E mX7_saidOf 6 (some (.int r), sr) 4 [some (.ref c1), some (.ref c2), some (.int v3), some (.int v4), none] [] s5 := by
  intro n9
  induction n9 with
  | zero =>
    intro v3 v4 s5 h
    rw [f_X7_saidOf_L4] at h; cases h
  | succ n9 ih10 =>
    intro v3 v4 s5 h
    rw [f_X7_saidOf_L4] at h
    refine e_iload_n qX7_saidOf_4 rfl ?_
    refine e_aload_n qX7_saidOf_5 rfl ?_
    refine e_geti qX7_saidOf_6 fl_X7_28 h_c1 kdq_7_1 h (fun v11 h => ?_)
    refine e_icmp_ge (tgt := 158) qX7_saidOf_9 rfl h (fun _ h => ?_) (fun _ h => ?_)
    · exact e_weak (hk6 _ _ h) ⟨Or.inr rfl, Or.inl rfl, Or.inr rfl, Or.inl rfl, Or.inl rfl, trivial⟩
    refine e_aload_n qX7_saidOf_12 rfl ?_
    refine e_getr (rr c1 2) qX7_saidOf_13 fl_X7_11 h_c1 kdq_7_2 rfl ?_
    refine e_iload_n qX7_saidOf_16 rfl ?_
    refine e_iald qX7_saidOf_17 (wt_7_2 _ h_c1).1 (wt_7_2 _ h_c1).2 h (fun v12 h => ?_)
    refine e_istore (lv2 := [some (.ref c1), some (.ref c2), some (.int v3), some (.int v4), some (.int v12)]) qX7_saidOf_18 rfl rfl rfl ?_
    refine e_iload qX7_saidOf_20 rfl ?_
    refine e_iconst (nI 2) qX7_saidOf_22 rfl ?_
    refine jn_e (fun j => ∀ (v13 : Int32) (s14 : St), j v13 s14 = some (r, sr) → E mX7_saidOf 6 (some (.int r), sr) 152 [some (.ref c1), some (.ref c2), some (.int v13), some (.int v4), none] [] s14) h ?_ (fun j15 hj15 h => ?_)
    · intro v13 s14 h
      refine vl_e h (fun h => ?_)
      obtain ⟨v16, ev16⟩ : ∃ y, v4 + (nI 1) = y := ⟨_, rfl⟩
      rw [ev16] at h
      refine e_iinc (nI 1) v16 (lv2 := [some (.ref c1), some (.ref c2), some (.int v13), some (.int v16), none]) qX7_saidOf_152 rfl rfl rfl ev16 rfl ?_
      refine e_goto (tgt := 4) qX7_saidOf_155 rfl ?_
      exact e_weak (ih10 _ _ _ h) ⟨Or.inr rfl, Or.inr rfl, Or.inr rfl, Or.inr rfl, Or.inl rfl, trivial⟩
    refine jn_e (fun j => j = some (r, sr) → E mX7_saidOf 6 (some (.int r), sr) 60 [some (.ref c1), some (.ref c2), some (.int v3), some (.int v4), some (.int v12)] [] s5) h ?_ (fun j17 hj17 h => ?_)
    · intro h
      refine e_iload qX7_saidOf_60 rfl ?_
      refine jn_e (fun j => j = some (r, sr) → E mX7_saidOf 6 (some (.int r), sr) 95 [some (.ref c1), some (.ref c2), some (.int v3), some (.int v4), some (.int v12)] [] s5) h ?_ (fun j18 hj18 h => ?_)
      · intro h
        refine e_iload qX7_saidOf_95 rfl ?_
        refine e_iconst (nI 1) qX7_saidOf_97 rfl ?_
        refine jn_e (fun j => j = some (r, sr) → E mX7_saidOf 6 (some (.int r), sr) 131 [some (.ref c1), some (.ref c2), some (.int v3), some (.int v4), none] [] s5) h ?_ (fun j19 hj19 h => ?_)
        · intro h
          refine e_iload_n qX7_saidOf_131 rfl ?_
          refine e_bipush (nI 40) qX7_saidOf_132 rfl ?_
          refine e_icmp_ge (tgt := 152) qX7_saidOf_134 rfl h (fun _ h => ?_) (fun _ h => ?_)
          · exact e_weak (hj15 _ _ h) ⟨Or.inr rfl, Or.inr rfl, Or.inr rfl, Or.inr rfl, Or.inl rfl, trivial⟩
          refine e_aload_n qX7_saidOf_137 rfl ?_
          refine e_getr (rr c1 5) qX7_saidOf_138 fl_X7_21 h_c1 kdq_7_5 rfl ?_
          refine e_iload_n qX7_saidOf_141 rfl ?_
          refine e_aload_n qX7_saidOf_142 rfl ?_
          refine e_aload_n qX7_saidOf_143 rfl ?_
          refine e_iload_n qX7_saidOf_144 rfl ?_
          obtain ⟨v20, hc, h⟩ := bp_e h
          refine e_cVi2 qX7_saidOf_145 mv_X7_164 h_c1 rfl rfl (w_X7_plainSet h_c1 h_c2 hc) ?_
          refine e_iast qX7_saidOf_148 (wt_7_5 _ h_c1).1 (wt_7_5 _ h_c1).2 h (fun s21 h => ?_)
          refine vl_e h (fun h => ?_)
          obtain ⟨v22, ev22⟩ : ∃ y, v3 + (nI 1) = y := ⟨_, rfl⟩
          rw [ev22] at h
          refine e_iinc (nI 1) v22 (lv2 := [some (.ref c1), some (.ref c2), some (.int v22), some (.int v4), none]) qX7_saidOf_149 rfl rfl rfl ev22 rfl ?_
          exact e_weak (hj15 _ _ h) ⟨Or.inr rfl, Or.inr rfl, Or.inr rfl, Or.inr rfl, Or.inl rfl, trivial⟩
        refine e_icmp_ne (tgt := 131) qX7_saidOf_98 rfl h (fun _ h => ?_) (fun _ h => ?_)
        · refine e_iload_n qX7_saidOf_101 rfl ?_
          refine e_iconst (nI 2) qX7_saidOf_102 rfl ?_
          refine e_icmp_lt (tgt := 131) qX7_saidOf_103 rfl h (fun _ h => ?_) (fun _ h => ?_)
          · exact e_weak (hj19 h) ⟨Or.inr rfl, Or.inr rfl, Or.inr rfl, Or.inr rfl, Or.inl rfl, trivial⟩
          refine e_aload_n qX7_saidOf_106 rfl ?_
          refine e_getr (rr c1 5) qX7_saidOf_107 fl_X7_21 h_c1 kdq_7_5 rfl ?_
          refine e_iload_n qX7_saidOf_110 rfl ?_
          refine e_iconst (nI 2) qX7_saidOf_111 rfl ?_
          refine e_isub qX7_saidOf_112 ?_
          refine e_dup2 qX7_saidOf_113 rfl rfl ?_
          refine e_iald qX7_saidOf_114 (wt_7_5 _ h_c1).1 (wt_7_5 _ h_c1).2 h (fun v23 h => ?_)
          refine e_aload_n qX7_saidOf_115 rfl ?_
          refine e_getr (rr c1 5) qX7_saidOf_116 fl_X7_21 h_c1 kdq_7_5 rfl ?_
          refine e_iload_n qX7_saidOf_119 rfl ?_
          refine e_iconst (nI 1) qX7_saidOf_120 rfl ?_
          refine e_isub qX7_saidOf_121 ?_
          refine e_iald qX7_saidOf_122 (wt_7_5 _ h_c1).1 (wt_7_5 _ h_c1).2 h (fun v24 h => ?_)
          refine e_ior qX7_saidOf_123 ?_
          refine e_iast qX7_saidOf_124 (wt_7_5 _ h_c1).1 (wt_7_5 _ h_c1).2 h (fun s25 h => ?_)
          refine vl_e h (fun h => ?_)
          obtain ⟨v26, ev26⟩ : ∃ y, v3 + (-1) = y := ⟨_, rfl⟩
          rw [ev26] at h
          refine e_iinc (-1) v26 (lv2 := [some (.ref c1), some (.ref c2), some (.int v26), some (.int v4), some (.int v12)]) qX7_saidOf_125 rfl rfl rfl ev26 rfl ?_
          refine e_goto (tgt := 152) qX7_saidOf_128 rfl ?_
          exact e_weak (hj15 _ _ h) ⟨Or.inr rfl, Or.inr rfl, Or.inr rfl, Or.inr rfl, Or.inl rfl, trivial⟩
        exact e_weak (hj19 h) ⟨Or.inr rfl, Or.inr rfl, Or.inr rfl, Or.inr rfl, Or.inl rfl, trivial⟩
      refine e_if_ne (tgt := 95) qX7_saidOf_62 rfl h (fun _ h => ?_) (fun _ h => ?_)
      · refine e_iload_n qX7_saidOf_65 rfl ?_
        refine e_iconst (nI 2) qX7_saidOf_66 rfl ?_
        refine e_icmp_lt (tgt := 95) qX7_saidOf_67 rfl h (fun _ h => ?_) (fun _ h => ?_)
        · exact e_weak (hj18 h) ⟨Or.inr rfl, Or.inr rfl, Or.inr rfl, Or.inr rfl, Or.inr rfl, trivial⟩
        refine e_aload_n qX7_saidOf_70 rfl ?_
        refine e_getr (rr c1 5) qX7_saidOf_71 fl_X7_21 h_c1 kdq_7_5 rfl ?_
        refine e_iload_n qX7_saidOf_74 rfl ?_
        refine e_iconst (nI 2) qX7_saidOf_75 rfl ?_
        refine e_isub qX7_saidOf_76 ?_
        refine e_dup2 qX7_saidOf_77 rfl rfl ?_
        refine e_iald qX7_saidOf_78 (wt_7_5 _ h_c1).1 (wt_7_5 _ h_c1).2 h (fun v27 h => ?_)
        refine e_aload_n qX7_saidOf_79 rfl ?_
        refine e_getr (rr c1 5) qX7_saidOf_80 fl_X7_21 h_c1 kdq_7_5 rfl ?_
        refine e_iload_n qX7_saidOf_83 rfl ?_
        refine e_iconst (nI 1) qX7_saidOf_84 rfl ?_
        refine e_isub qX7_saidOf_85 ?_
        refine e_iald qX7_saidOf_86 (wt_7_5 _ h_c1).1 (wt_7_5 _ h_c1).2 h (fun v28 h => ?_)
        refine e_iand qX7_saidOf_87 ?_
        refine e_iast qX7_saidOf_88 (wt_7_5 _ h_c1).1 (wt_7_5 _ h_c1).2 h (fun s29 h => ?_)
        refine vl_e h (fun h => ?_)
        obtain ⟨v30, ev30⟩ : ∃ y, v3 + (-1) = y := ⟨_, rfl⟩
        rw [ev30] at h
        refine e_iinc (-1) v30 (lv2 := [some (.ref c1), some (.ref c2), some (.int v30), some (.int v4), some (.int v12)]) qX7_saidOf_89 rfl rfl rfl ev30 rfl ?_
        refine e_goto (tgt := 152) qX7_saidOf_92 rfl ?_
        exact e_weak (hj15 _ _ h) ⟨Or.inr rfl, Or.inr rfl, Or.inr rfl, Or.inr rfl, Or.inl rfl, trivial⟩
      exact e_weak (hj18 h) ⟨Or.inr rfl, Or.inr rfl, Or.inr rfl, Or.inr rfl, Or.inr rfl, trivial⟩
    refine e_icmp_ne (tgt := 60) qX7_saidOf_23 rfl h (fun _ h => ?_) (fun _ h => ?_)
    · refine e_iload_n qX7_saidOf_26 rfl ?_
      refine e_iconst (nI 1) qX7_saidOf_27 rfl ?_
      refine e_icmp_lt (tgt := 60) qX7_saidOf_28 rfl h (fun _ h => ?_) (fun _ h => ?_)
      · exact e_weak (hj17 h) ⟨Or.inr rfl, Or.inr rfl, Or.inr rfl, Or.inr rfl, Or.inr rfl, trivial⟩
      refine e_aload_n qX7_saidOf_31 rfl ?_
      refine e_getr (rr c1 5) qX7_saidOf_32 fl_X7_21 h_c1 kdq_7_5 rfl ?_
      refine e_iload_n qX7_saidOf_35 rfl ?_
      refine e_iconst (nI 1) qX7_saidOf_36 rfl ?_
      refine e_isub qX7_saidOf_37 ?_
      refine e_aload_n qX7_saidOf_38 rfl ?_
      refine e_getr 3 qX7_saidOf_39 fl_X7_154 h_c2 kdq_6_0 (wq_6_0 _ h_c2) ?_
      obtain ⟨v31, hc, h⟩ := bp_e h
      refine e_cVi0 qX7_saidOf_42 mv_X7_160 shq_3 rfl rfl (w_X1_allLights shq_3 hc) ?_
      refine e_aload_n qX7_saidOf_45 rfl ?_
      refine e_getr (rr c1 5) qX7_saidOf_46 fl_X7_21 h_c1 kdq_7_5 rfl ?_
      refine e_iload_n qX7_saidOf_49 rfl ?_
      refine e_iconst (nI 1) qX7_saidOf_50 rfl ?_
      refine e_isub qX7_saidOf_51 ?_
      refine e_iald qX7_saidOf_52 (wt_7_5 _ h_c1).1 (wt_7_5 _ h_c1).2 h (fun v32 h => ?_)
      refine e_iconst (-1) qX7_saidOf_53 rfl ?_
      refine e_ixor qX7_saidOf_54 ?_
      refine e_iand qX7_saidOf_55 ?_
      refine e_iast qX7_saidOf_56 (wt_7_5 _ h_c1).1 (wt_7_5 _ h_c1).2 h (fun s33 h => ?_)
      refine e_goto (tgt := 152) qX7_saidOf_57 rfl ?_
      exact e_weak (hj15 _ _ h) ⟨Or.inr rfl, Or.inr rfl, Or.inr rfl, Or.inr rfl, Or.inl rfl, trivial⟩
    exact e_weak (hj17 h) ⟨Or.inr rfl, Or.inr rfl, Or.inr rfl, Or.inr rfl, Or.inr rfl, trivial⟩

set_option maxRecDepth 20000 in
set_option maxHeartbeats 4000000 in
theorem w_X7_saidOf {N : Nat} {a0 : Nat} {a1 : Nat} {s0 : St} {r : Int32} {sr : St} (h_a0 : sh a0 = 7) (h_a1 : sh a1 = 6) (h : f_X7_saidOf N a0 a1 s0 = some (r, sr)) : Ct mX7_saidOf 6 [.ref a0, .ref a1] s0 (some (.int r), sr) := by
  refine Ct.ofE (by decide +kernel) rfl ?_
  show E mX7_saidOf 6 (some (.int r), sr) 0 [some (.ref a0), some (.ref a1), none, none, none] [] s0
  unfold f_X7_saidOf at h
  refine e_iconst (nI 0) qX7_saidOf_0 rfl ?_
  refine e_istore_n (lv2 := [some (.ref a0), some (.ref a1), some (.int (nI 0)), none, none]) qX7_saidOf_1 rfl rfl rfl ?_
  refine e_iconst (nI 0) qX7_saidOf_2 rfl ?_
  refine e_istore_n (lv2 := [some (.ref a0), some (.ref a1), some (.int (nI 0)), some (.int (nI 0)), none]) qX7_saidOf_3 rfl rfl rfl ?_
  refine e_weak (w_X7_saidOf_L4 h_a0 h_a1 (fun v34 s35 h => ?_) _ _ _ _ h) ⟨Or.inr rfl, Or.inr rfl, Or.inr rfl, Or.inr rfl, Or.inl rfl, trivial⟩
  refine e_iload_n qX7_saidOf_158 rfl ?_
  refine e_if_le (tgt := 171) qX7_saidOf_159 rfl h (fun _ h => ?_) (fun _ h => ?_)
  · refine e_iconst (nI 0) qX7_saidOf_171 rfl ?_
    exact e_iret qX7_saidOf_172 rfl (ret_i h)
  refine e_aload_n qX7_saidOf_162 rfl ?_
  refine e_getr (rr a0 5) qX7_saidOf_163 fl_X7_21 h_a0 kdq_7_5 rfl ?_
  refine e_iconst (nI 0) qX7_saidOf_166 rfl ?_
  refine e_iald qX7_saidOf_167 (wt_7_5 _ h_a0).1 (wt_7_5 _ h_a0).2 h (fun v36 h => ?_)
  refine e_goto (tgt := 172) qX7_saidOf_168 rfl ?_
  exact e_iret qX7_saidOf_172 rfl (ret_i h)

def f_X11_seconds (N : Nat) (x1 : Int32) (s0 : St) : Option (Int32 × St) :=
  if x1 < (nI 1) then
    some ((-1), s0)
  else
  if x1 ≤ (nI 60) then
    bp (f_X5_mark 49 s0) fun s1 =>
    bd (f_X6_pass N 49 x1 s1) fun v2 s3 =>
    bd (f_X11_keepIfAny v2 s3) fun v4 s5 =>
    some (v4, s5)
  else
  some ((-1), s0)

theorem qX11_seconds_0 : Dc mX11_seconds 0 (.iload_n 1) 1 1 := ⟨by decide +kernel, rfl⟩
theorem qX11_seconds_1 : Dc mX11_seconds 1 (.iconst 1) 1 2 := ⟨by decide +kernel, rfl⟩
theorem qX11_seconds_2 : Dc mX11_seconds 2 (.if_icmp .lt 9) 3 5 := ⟨by decide +kernel, rfl⟩
theorem qX11_seconds_5 : Dc mX11_seconds 5 (.iload_n 1) 1 6 := ⟨by decide +kernel, rfl⟩
theorem qX11_seconds_6 : Dc mX11_seconds 6 (.bipush 60) 2 8 := ⟨by decide +kernel, rfl⟩
theorem qX11_seconds_8 : Dc mX11_seconds 8 (.if_icmp .le 5) 3 11 := ⟨by decide +kernel, rfl⟩
theorem qX11_seconds_11 : Dc mX11_seconds 11 (.iconst (-1)) 1 12 := ⟨by decide +kernel, rfl⟩
theorem qX11_seconds_12 : Dc mX11_seconds 12 (.ireturn) 1 13 := ⟨by decide +kernel, rfl⟩
theorem qX11_seconds_13 : Dc mX11_seconds 13 (.aload_n 0) 1 14 := ⟨by decide +kernel, rfl⟩
theorem qX11_seconds_14 : Dc mX11_seconds 14 (.getfield 58) 3 17 := ⟨by decide +kernel, rfl⟩
theorem qX11_seconds_17 : Dc mX11_seconds 17 (.aload_n 0) 1 18 := ⟨by decide +kernel, rfl⟩
theorem qX11_seconds_18 : Dc mX11_seconds 18 (.getfield 31) 3 21 := ⟨by decide +kernel, rfl⟩
theorem qX11_seconds_21 : Dc mX11_seconds 21 (.invokevirtual 237) 3 24 := ⟨by decide +kernel, rfl⟩
theorem qX11_seconds_24 : Dc mX11_seconds 24 (.aload_n 0) 1 25 := ⟨by decide +kernel, rfl⟩
theorem qX11_seconds_25 : Dc mX11_seconds 25 (.aload_n 0) 1 26 := ⟨by decide +kernel, rfl⟩
theorem qX11_seconds_26 : Dc mX11_seconds 26 (.getfield 31) 3 29 := ⟨by decide +kernel, rfl⟩
theorem qX11_seconds_29 : Dc mX11_seconds 29 (.iload_n 1) 1 30 := ⟨by decide +kernel, rfl⟩
theorem qX11_seconds_30 : Dc mX11_seconds 30 (.invokevirtual 262) 3 33 := ⟨by decide +kernel, rfl⟩
theorem qX11_seconds_33 : Dc mX11_seconds 33 (.invokevirtual 265) 3 36 := ⟨by decide +kernel, rfl⟩
theorem qX11_seconds_36 : Dc mX11_seconds 36 (.ireturn) 1 37 := ⟨by decide +kernel, rfl⟩

set_option maxRecDepth 20000 in
set_option maxHeartbeats 4000000 in
theorem w_X11_seconds {N : Nat} {x1 : Int32} {s0 : St} {r : Int32} {sr : St} (h : f_X11_seconds N x1 s0 = some (r, sr)) : Ct mX11_seconds 5 [.ref 0, .int x1] s0 (some (.int r), sr) := by
  refine Ct.ofE (by decide +kernel) rfl ?_
  show E mX11_seconds 5 (some (.int r), sr) 0 [some (.ref 0), some (.int x1)] [] s0
  unfold f_X11_seconds at h
  refine e_iload_n qX11_seconds_0 rfl ?_
  refine e_iconst (nI 1) qX11_seconds_1 rfl ?_
  refine e_icmp_lt (tgt := 11) qX11_seconds_2 rfl h (fun _ h => ?_) (fun _ h => ?_)
  · refine e_iconst (-1) qX11_seconds_11 rfl ?_
    exact e_iret qX11_seconds_12 rfl (ret_i h)
  refine e_iload_n qX11_seconds_5 rfl ?_
  refine e_bipush (nI 60) qX11_seconds_6 rfl ?_
  refine e_icmp_le (tgt := 13) qX11_seconds_8 rfl h (fun _ h => ?_) (fun _ h => ?_)
  · refine e_aload_n qX11_seconds_13 rfl ?_
    refine e_getr 75 qX11_seconds_14 fl_X11_58 shq_0 kdq_10_8 rrq_0_8 ?_
    refine e_aload_n qX11_seconds_17 rfl ?_
    refine e_getr 49 qX11_seconds_18 fl_X11_31 shq_0 kdq_10_3 rrq_0_3 ?_
    obtain ⟨s1, hc, h⟩ := bp_e h
    refine e_cVv1 qX11_seconds_21 mv_X11_237 shq_75 rfl rfl (w_X5_mark shq_49 hc) ?_
    refine e_aload_n qX11_seconds_24 rfl ?_
    refine e_aload_n qX11_seconds_25 rfl ?_
    refine e_getr 49 qX11_seconds_26 fl_X11_31 shq_0 kdq_10_3 rrq_0_3 ?_
    refine e_iload_n qX11_seconds_29 rfl ?_
    obtain ⟨v2, s3, hc, h⟩ := bd_e h
    refine e_cVi1 qX11_seconds_30 mv_X11_262 shq_49 rfl rfl (w_X6_pass shq_49 hc) ?_
    obtain ⟨v4, s5, hc, h⟩ := bd_e h
    refine e_cVi1 qX11_seconds_33 mv_X11_265 shq_0 rfl rfl (w_X11_keepIfAny hc) ?_
    exact e_iret qX11_seconds_36 rfl (ret_i h)
  refine e_iconst (-1) qX11_seconds_11 rfl ?_
  exact e_iret qX11_seconds_12 rfl (ret_i h)

def f_X11_fits (N : Nat)  (s0 : St) : Option (Int32 × St) :=
  bp (f_X9_isShownRow N s0) fun v1 =>
  jn (fun (v2 : Int32) =>
    jn (fun (s4 : St) =>
      vl (sI s4 1 1 (nI 0)) fun s6 =>
      some (v2, s6)) fun j5 =>
    if v2 ≤ 0 then
      j5 s0
    else
    bp (f_X11_keepFits N v2 s0) fun s7 =>
    j5 s7) fun j3 =>
  if v1 = 0 then
    j3 (-1)
  else
  bp (f_X11_fittingLights N s0) fun v8 =>
  j3 v8

theorem qX11_fits_0 : Dc mX11_fits 0 (.aload_n 0) 1 1 := ⟨by decide +kernel, rfl⟩
theorem qX11_fits_1 : Dc mX11_fits 1 (.getfield 12) 3 4 := ⟨by decide +kernel, rfl⟩
theorem qX11_fits_4 : Dc mX11_fits 4 (.invokevirtual 295) 3 7 := ⟨by decide +kernel, rfl⟩
theorem qX11_fits_7 : Dc mX11_fits 7 (.ifCond .eq 10) 3 10 := ⟨by decide +kernel, rfl⟩
theorem qX11_fits_10 : Dc mX11_fits 10 (.aload_n 0) 1 11 := ⟨by decide +kernel, rfl⟩
theorem qX11_fits_11 : Dc mX11_fits 11 (.invokevirtual 299) 3 14 := ⟨by decide +kernel, rfl⟩
theorem qX11_fits_14 : Dc mX11_fits 14 (.goto 4) 3 17 := ⟨by decide +kernel, rfl⟩
theorem qX11_fits_17 : Dc mX11_fits 17 (.iconst (-1)) 1 18 := ⟨by decide +kernel, rfl⟩
theorem qX11_fits_18 : Dc mX11_fits 18 (.istore_n 1) 1 19 := ⟨by decide +kernel, rfl⟩
theorem qX11_fits_19 : Dc mX11_fits 19 (.iload_n 1) 1 20 := ⟨by decide +kernel, rfl⟩
theorem qX11_fits_20 : Dc mX11_fits 20 (.ifCond .le 8) 3 23 := ⟨by decide +kernel, rfl⟩
theorem qX11_fits_23 : Dc mX11_fits 23 (.aload_n 0) 1 24 := ⟨by decide +kernel, rfl⟩
theorem qX11_fits_24 : Dc mX11_fits 24 (.iload_n 1) 1 25 := ⟨by decide +kernel, rfl⟩
theorem qX11_fits_25 : Dc mX11_fits 25 (.invokevirtual 302) 3 28 := ⟨by decide +kernel, rfl⟩
theorem qX11_fits_28 : Dc mX11_fits 28 (.aload_n 0) 1 29 := ⟨by decide +kernel, rfl⟩
theorem qX11_fits_29 : Dc mX11_fits 29 (.getfield 12) 3 32 := ⟨by decide +kernel, rfl⟩
theorem qX11_fits_32 : Dc mX11_fits 32 (.iconst 0) 1 33 := ⟨by decide +kernel, rfl⟩
theorem qX11_fits_33 : Dc mX11_fits 33 (.putfield 102) 3 36 := ⟨by decide +kernel, rfl⟩
theorem qX11_fits_36 : Dc mX11_fits 36 (.iload_n 1) 1 37 := ⟨by decide +kernel, rfl⟩
theorem qX11_fits_37 : Dc mX11_fits 37 (.ireturn) 1 38 := ⟨by decide +kernel, rfl⟩

set_option maxRecDepth 20000 in
set_option maxHeartbeats 4000000 in
theorem w_X11_fits {N : Nat}  {s0 : St} {r : Int32} {sr : St} (h : f_X11_fits N  s0 = some (r, sr)) : Ct mX11_fits 5 [.ref 0] s0 (some (.int r), sr) := by
  refine Ct.ofE (by decide +kernel) rfl ?_
  show E mX11_fits 5 (some (.int r), sr) 0 [some (.ref 0), none] [] s0
  unfold f_X11_fits at h
  refine e_aload_n qX11_fits_0 rfl ?_
  refine e_getr 1 qX11_fits_1 fl_X11_12 shq_0 kdq_10_0 rrq_0_0 ?_
  obtain ⟨v1, hc, h⟩ := bp_e h
  refine e_cVi0 qX11_fits_4 mv_X11_295 shq_1 rfl rfl (w_X9_isShownRow hc) ?_
  refine jn_e (fun j => ∀ (v2 : Int32), j v2 = some (r, sr) → E mX11_fits 5 (some (.int r), sr) 18 [some (.ref 0), none] [.int v2] s0) h ?_ (fun j3 hj3 h => ?_)
  · intro v2 h
    refine e_istore_n (lv2 := [some (.ref 0), some (.int v2)]) qX11_fits_18 rfl rfl rfl ?_
    refine e_iload_n qX11_fits_19 rfl ?_
    refine jn_e (fun j => ∀ (s4 : St), j s4 = some (r, sr) → E mX11_fits 5 (some (.int r), sr) 28 [some (.ref 0), some (.int v2)] [] s4) h ?_ (fun j5 hj5 h => ?_)
    · intro s4 h
      refine e_aload_n qX11_fits_28 rfl ?_
      refine e_getr 1 qX11_fits_29 fl_X11_12 shq_0 kdq_10_0 rrq_0_0 ?_
      refine e_iconst (nI 0) qX11_fits_32 rfl ?_
      refine e_puti qX11_fits_33 fp_X11_102 shq_1 kdq_9_1 h (fun s6 h => ?_)
      refine e_iload_n qX11_fits_36 rfl ?_
      exact e_iret qX11_fits_37 rfl (ret_i h)
    refine e_if_le (tgt := 28) qX11_fits_20 rfl h (fun _ h => ?_) (fun _ h => ?_)
    · exact e_weak (hj5 _ h) ⟨Or.inr rfl, Or.inr rfl, trivial⟩
    refine e_aload_n qX11_fits_23 rfl ?_
    refine e_iload_n qX11_fits_24 rfl ?_
    obtain ⟨s7, hc, h⟩ := bp_e h
    refine e_cVv1 qX11_fits_25 mv_X11_302 shq_0 rfl rfl (w_X11_keepFits hc) ?_
    exact e_weak (hj5 _ h) ⟨Or.inr rfl, Or.inr rfl, trivial⟩
  refine e_if_eq (tgt := 17) qX11_fits_7 rfl h (fun _ h => ?_) (fun _ h => ?_)
  · refine e_iconst (-1) qX11_fits_17 rfl ?_
    exact e_weak (hj3 _ h) ⟨Or.inr rfl, Or.inl rfl, trivial⟩
  refine e_aload_n qX11_fits_10 rfl ?_
  obtain ⟨v8, hc, h⟩ := bp_e h
  refine e_cVi0 qX11_fits_11 mv_X11_299 shq_0 rfl rfl (w_X11_fittingLights hc) ?_
  refine e_goto (tgt := 18) qX11_fits_14 rfl ?_
  exact e_weak (hj3 _ h) ⟨Or.inr rfl, Or.inl rfl, trivial⟩

def f_X11_drawn (N : Nat) (x1 : Int32) (x2 : Int32) (s0 : St) : Option (Int32 × St) :=
  if x1 < (nI 1) then
    some ((-1), s0)
  else
  if x1 ≤ (nI 60) then
    bp (f_X5_mark 49 s0) fun s1 =>
    bp (f_X2_begin x2 s1) fun s2 =>
    bd (f_X2_liveSeconds N 49 x1 s2) fun v3 s4 =>
    bd (f_X11_keepIfAny v3 s4) fun v5 s6 =>
    some (v5, s6)
  else
  some ((-1), s0)

theorem qX11_drawn_0 : Dc mX11_drawn 0 (.iload_n 1) 1 1 := ⟨by decide +kernel, rfl⟩
theorem qX11_drawn_1 : Dc mX11_drawn 1 (.iconst 1) 1 2 := ⟨by decide +kernel, rfl⟩
theorem qX11_drawn_2 : Dc mX11_drawn 2 (.if_icmp .lt 9) 3 5 := ⟨by decide +kernel, rfl⟩
theorem qX11_drawn_5 : Dc mX11_drawn 5 (.iload_n 1) 1 6 := ⟨by decide +kernel, rfl⟩
theorem qX11_drawn_6 : Dc mX11_drawn 6 (.bipush 60) 2 8 := ⟨by decide +kernel, rfl⟩
theorem qX11_drawn_8 : Dc mX11_drawn 8 (.if_icmp .le 5) 3 11 := ⟨by decide +kernel, rfl⟩
theorem qX11_drawn_11 : Dc mX11_drawn 11 (.iconst (-1)) 1 12 := ⟨by decide +kernel, rfl⟩
theorem qX11_drawn_12 : Dc mX11_drawn 12 (.ireturn) 1 13 := ⟨by decide +kernel, rfl⟩
theorem qX11_drawn_13 : Dc mX11_drawn 13 (.aload_n 0) 1 14 := ⟨by decide +kernel, rfl⟩
theorem qX11_drawn_14 : Dc mX11_drawn 14 (.getfield 58) 3 17 := ⟨by decide +kernel, rfl⟩
theorem qX11_drawn_17 : Dc mX11_drawn 17 (.aload_n 0) 1 18 := ⟨by decide +kernel, rfl⟩
theorem qX11_drawn_18 : Dc mX11_drawn 18 (.getfield 31) 3 21 := ⟨by decide +kernel, rfl⟩
theorem qX11_drawn_21 : Dc mX11_drawn 21 (.invokevirtual 237) 3 24 := ⟨by decide +kernel, rfl⟩
theorem qX11_drawn_24 : Dc mX11_drawn 24 (.aload_n 0) 1 25 := ⟨by decide +kernel, rfl⟩
theorem qX11_drawn_25 : Dc mX11_drawn 25 (.getfield 65) 3 28 := ⟨by decide +kernel, rfl⟩
theorem qX11_drawn_28 : Dc mX11_drawn 28 (.iload_n 2) 1 29 := ⟨by decide +kernel, rfl⟩
theorem qX11_drawn_29 : Dc mX11_drawn 29 (.invokevirtual 349) 3 32 := ⟨by decide +kernel, rfl⟩
theorem qX11_drawn_32 : Dc mX11_drawn 32 (.aload_n 0) 1 33 := ⟨by decide +kernel, rfl⟩
theorem qX11_drawn_33 : Dc mX11_drawn 33 (.aload_n 0) 1 34 := ⟨by decide +kernel, rfl⟩
theorem qX11_drawn_34 : Dc mX11_drawn 34 (.getfield 65) 3 37 := ⟨by decide +kernel, rfl⟩
theorem qX11_drawn_37 : Dc mX11_drawn 37 (.aload_n 0) 1 38 := ⟨by decide +kernel, rfl⟩
theorem qX11_drawn_38 : Dc mX11_drawn 38 (.getfield 31) 3 41 := ⟨by decide +kernel, rfl⟩
theorem qX11_drawn_41 : Dc mX11_drawn 41 (.iload_n 1) 1 42 := ⟨by decide +kernel, rfl⟩
theorem qX11_drawn_42 : Dc mX11_drawn 42 (.invokevirtual 351) 3 45 := ⟨by decide +kernel, rfl⟩
theorem qX11_drawn_45 : Dc mX11_drawn 45 (.invokevirtual 265) 3 48 := ⟨by decide +kernel, rfl⟩
theorem qX11_drawn_48 : Dc mX11_drawn 48 (.ireturn) 1 49 := ⟨by decide +kernel, rfl⟩

set_option maxRecDepth 20000 in
set_option maxHeartbeats 4000000 in
theorem w_X11_drawn {N : Nat} {x1 : Int32} {x2 : Int32} {s0 : St} {r : Int32} {sr : St} (h : f_X11_drawn N x1 x2 s0 = some (r, sr)) : Ct mX11_drawn 5 [.ref 0, .int x1, .int x2] s0 (some (.int r), sr) := by
  refine Ct.ofE (by decide +kernel) rfl ?_
  show E mX11_drawn 5 (some (.int r), sr) 0 [some (.ref 0), some (.int x1), some (.int x2)] [] s0
  unfold f_X11_drawn at h
  refine e_iload_n qX11_drawn_0 rfl ?_
  refine e_iconst (nI 1) qX11_drawn_1 rfl ?_
  refine e_icmp_lt (tgt := 11) qX11_drawn_2 rfl h (fun _ h => ?_) (fun _ h => ?_)
  · refine e_iconst (-1) qX11_drawn_11 rfl ?_
    exact e_iret qX11_drawn_12 rfl (ret_i h)
  refine e_iload_n qX11_drawn_5 rfl ?_
  refine e_bipush (nI 60) qX11_drawn_6 rfl ?_
  refine e_icmp_le (tgt := 13) qX11_drawn_8 rfl h (fun _ h => ?_) (fun _ h => ?_)
  · refine e_aload_n qX11_drawn_13 rfl ?_
    refine e_getr 75 qX11_drawn_14 fl_X11_58 shq_0 kdq_10_8 rrq_0_8 ?_
    refine e_aload_n qX11_drawn_17 rfl ?_
    refine e_getr 49 qX11_drawn_18 fl_X11_31 shq_0 kdq_10_3 rrq_0_3 ?_
    obtain ⟨s1, hc, h⟩ := bp_e h
    refine e_cVv1 qX11_drawn_21 mv_X11_237 shq_75 rfl rfl (w_X5_mark shq_49 hc) ?_
    refine e_aload_n qX11_drawn_24 rfl ?_
    refine e_getr 131 qX11_drawn_25 fl_X11_65 shq_0 kdq_10_9 rrq_0_9 ?_
    refine e_iload_n qX11_drawn_28 rfl ?_
    obtain ⟨s2, hc, h⟩ := bp_e h
    refine e_cVv1 qX11_drawn_29 mv_X11_349 shq_131 rfl rfl (w_X2_begin hc) ?_
    refine e_aload_n qX11_drawn_32 rfl ?_
    refine e_aload_n qX11_drawn_33 rfl ?_
    refine e_getr 131 qX11_drawn_34 fl_X11_65 shq_0 kdq_10_9 rrq_0_9 ?_
    refine e_aload_n qX11_drawn_37 rfl ?_
    refine e_getr 49 qX11_drawn_38 fl_X11_31 shq_0 kdq_10_3 rrq_0_3 ?_
    refine e_iload_n qX11_drawn_41 rfl ?_
    obtain ⟨v3, s4, hc, h⟩ := bd_e h
    refine e_cVi2 qX11_drawn_42 mv_X11_351 shq_131 rfl rfl (w_X2_liveSeconds shq_49 hc) ?_
    obtain ⟨v5, s6, hc, h⟩ := bd_e h
    refine e_cVi1 qX11_drawn_45 mv_X11_265 shq_0 rfl rfl (w_X11_keepIfAny hc) ?_
    exact e_iret qX11_drawn_48 rfl (ret_i h)
  refine e_iconst (-1) qX11_drawn_11 rfl ?_
  exact e_iret qX11_drawn_12 rfl (ret_i h)

def f_X11_odds_L27 (N : Nat) (c2 : Int32) (c3 : Int32) (c4 : Int32) : Nat → Int32 → Int32 → St → Option (Int32 × St)
  | 0, _, _, _ => none
  | n8 + 1, v5, v6, s7 =>
    if c3 ≤ v6 then
      some (v5, s7)
    else
    bp (f_X6_copyFrom 55 49 s7) fun s10 =>
    bp (f_X2_begin (c4 + v6) s10) fun s11 =>
    bd (f_X2_liveSeconds N 55 (nI 30) s11) fun v12 s13 =>
    bp (f_X6_seenBy N 55 c2 s13) fun v14 =>
    jn (fun (v15 : Int32) =>
      vl (v6 + (nI 1)) fun v17 =>
      f_X11_odds_L27 N c2 c3 c4 n8 v15 v17 s13) fun j16 =>
    if v14 = 0 then
      j16 v5
    else
    vl (v5 + (nI 1)) fun v18 =>
    j16 v18

def f_X11_odds (N : Nat) (x1 : Int32) (x2 : Int32) (x3 : Int32) (s0 : St) : Option (Int32 × St) :=
  bp (f_X11_isShip x1 s0) fun v1 =>
  if v1 = 0 then
    some ((-1), s0)
  else
  if x2 < (nI 1) then
    some ((-1), s0)
  else
  if x2 ≤ (nI 30) then
    f_X11_odds_L27 N x1 x2 x3 N (nI 0) (nI 0) s0
  else
  some ((-1), s0)

theorem qX11_odds_0 : Dc mX11_odds 0 (.aload_n 0) 1 1 := ⟨by decide +kernel, rfl⟩
theorem qX11_odds_1 : Dc mX11_odds 1 (.iload_n 1) 1 2 := ⟨by decide +kernel, rfl⟩
theorem qX11_odds_2 : Dc mX11_odds 2 (.invokevirtual 186) 3 5 := ⟨by decide +kernel, rfl⟩
theorem qX11_odds_5 : Dc mX11_odds 5 (.ifCond .eq 14) 3 8 := ⟨by decide +kernel, rfl⟩
theorem qX11_odds_8 : Dc mX11_odds 8 (.iload_n 2) 1 9 := ⟨by decide +kernel, rfl⟩
theorem qX11_odds_9 : Dc mX11_odds 9 (.iconst 1) 1 10 := ⟨by decide +kernel, rfl⟩
theorem qX11_odds_10 : Dc mX11_odds 10 (.if_icmp .lt 9) 3 13 := ⟨by decide +kernel, rfl⟩
theorem qX11_odds_13 : Dc mX11_odds 13 (.iload_n 2) 1 14 := ⟨by decide +kernel, rfl⟩
theorem qX11_odds_14 : Dc mX11_odds 14 (.bipush 30) 2 16 := ⟨by decide +kernel, rfl⟩
theorem qX11_odds_16 : Dc mX11_odds 16 (.if_icmp .le 5) 3 19 := ⟨by decide +kernel, rfl⟩
theorem qX11_odds_19 : Dc mX11_odds 19 (.iconst (-1)) 1 20 := ⟨by decide +kernel, rfl⟩
theorem qX11_odds_20 : Dc mX11_odds 20 (.ireturn) 1 21 := ⟨by decide +kernel, rfl⟩
theorem qX11_odds_21 : Dc mX11_odds 21 (.iconst 0) 1 22 := ⟨by decide +kernel, rfl⟩
theorem qX11_odds_22 : Dc mX11_odds 22 (.istore 4) 2 24 := ⟨by decide +kernel, rfl⟩
theorem qX11_odds_24 : Dc mX11_odds 24 (.iconst 0) 1 25 := ⟨by decide +kernel, rfl⟩
theorem qX11_odds_25 : Dc mX11_odds 25 (.istore 5) 2 27 := ⟨by decide +kernel, rfl⟩
theorem qX11_odds_27 : Dc mX11_odds 27 (.iload 5) 2 29 := ⟨by decide +kernel, rfl⟩
theorem qX11_odds_29 : Dc mX11_odds 29 (.iload_n 2) 1 30 := ⟨by decide +kernel, rfl⟩
theorem qX11_odds_30 : Dc mX11_odds 30 (.if_icmp .ge 59) 3 33 := ⟨by decide +kernel, rfl⟩
theorem qX11_odds_33 : Dc mX11_odds 33 (.aload_n 0) 1 34 := ⟨by decide +kernel, rfl⟩
theorem qX11_odds_34 : Dc mX11_odds 34 (.getfield 35) 3 37 := ⟨by decide +kernel, rfl⟩
theorem qX11_odds_37 : Dc mX11_odds 37 (.aload_n 0) 1 38 := ⟨by decide +kernel, rfl⟩
theorem qX11_odds_38 : Dc mX11_odds 38 (.getfield 31) 3 41 := ⟨by decide +kernel, rfl⟩
theorem qX11_odds_41 : Dc mX11_odds 41 (.invokevirtual 320) 3 44 := ⟨by decide +kernel, rfl⟩
theorem qX11_odds_44 : Dc mX11_odds 44 (.aload_n 0) 1 45 := ⟨by decide +kernel, rfl⟩
theorem qX11_odds_45 : Dc mX11_odds 45 (.getfield 65) 3 48 := ⟨by decide +kernel, rfl⟩
theorem qX11_odds_48 : Dc mX11_odds 48 (.iload_n 3) 1 49 := ⟨by decide +kernel, rfl⟩
theorem qX11_odds_49 : Dc mX11_odds 49 (.iload 5) 2 51 := ⟨by decide +kernel, rfl⟩
theorem qX11_odds_51 : Dc mX11_odds 51 (.iadd) 1 52 := ⟨by decide +kernel, rfl⟩
theorem qX11_odds_52 : Dc mX11_odds 52 (.invokevirtual 349) 3 55 := ⟨by decide +kernel, rfl⟩
theorem qX11_odds_55 : Dc mX11_odds 55 (.aload_n 0) 1 56 := ⟨by decide +kernel, rfl⟩
theorem qX11_odds_56 : Dc mX11_odds 56 (.getfield 65) 3 59 := ⟨by decide +kernel, rfl⟩
theorem qX11_odds_59 : Dc mX11_odds 59 (.aload_n 0) 1 60 := ⟨by decide +kernel, rfl⟩
theorem qX11_odds_60 : Dc mX11_odds 60 (.getfield 35) 3 63 := ⟨by decide +kernel, rfl⟩
theorem qX11_odds_63 : Dc mX11_odds 63 (.bipush 30) 2 65 := ⟨by decide +kernel, rfl⟩
theorem qX11_odds_65 : Dc mX11_odds 65 (.invokevirtual 351) 3 68 := ⟨by decide +kernel, rfl⟩
theorem qX11_odds_68 : Dc mX11_odds 68 (.pop) 1 69 := ⟨by decide +kernel, rfl⟩
theorem qX11_odds_69 : Dc mX11_odds 69 (.aload_n 0) 1 70 := ⟨by decide +kernel, rfl⟩
theorem qX11_odds_70 : Dc mX11_odds 70 (.getfield 35) 3 73 := ⟨by decide +kernel, rfl⟩
theorem qX11_odds_73 : Dc mX11_odds 73 (.iload_n 1) 1 74 := ⟨by decide +kernel, rfl⟩
theorem qX11_odds_74 : Dc mX11_odds 74 (.invokevirtual 211) 3 77 := ⟨by decide +kernel, rfl⟩
theorem qX11_odds_77 : Dc mX11_odds 77 (.ifCond .eq 6) 3 80 := ⟨by decide +kernel, rfl⟩
theorem qX11_odds_80 : Dc mX11_odds 80 (.iinc 4 1) 3 83 := ⟨by decide +kernel, rfl⟩
theorem qX11_odds_83 : Dc mX11_odds 83 (.iinc 5 1) 3 86 := ⟨by decide +kernel, rfl⟩
theorem qX11_odds_86 : Dc mX11_odds 86 (.goto (-59)) 3 89 := ⟨by decide +kernel, rfl⟩
theorem qX11_odds_89 : Dc mX11_odds 89 (.iload 4) 2 91 := ⟨by decide +kernel, rfl⟩
theorem qX11_odds_91 : Dc mX11_odds 91 (.ireturn) 1 92 := ⟨by decide +kernel, rfl⟩

set_option maxRecDepth 20000 in
set_option maxHeartbeats 4000000 in
theorem w_X11_odds_L27 {N : Nat} {c2 : Int32} {c3 : Int32} {c4 : Int32}  {r : Int32} {sr : St}   : ∀ (n8 : Nat) (v5 : Int32) (v6 : Int32) (s7 : St), f_X11_odds_L27 N c2 c3 c4 n8 v5 v6 s7 = some (r, sr) → E mX11_odds 5 (some (.int r), sr) 27 [some (.ref 0), some (.int c2), some (.int c3), some (.int c4), some (.int v5), some (.int v6)] [] s7 := by
  intro n8
  induction n8 with
  | zero =>
    intro v5 v6 s7 h
    rw [f_X11_odds_L27] at h; cases h
  | succ n8 ih9 =>
    intro v5 v6 s7 h
    rw [f_X11_odds_L27] at h
    refine e_iload qX11_odds_27 rfl ?_
    refine e_iload_n qX11_odds_29 rfl ?_
    refine e_icmp_ge (tgt := 89) qX11_odds_30 rfl h (fun _ h => ?_) (fun _ h => ?_)
    · refine e_iload qX11_odds_89 rfl ?_
      exact e_iret qX11_odds_91 rfl (ret_i h)
    refine e_aload_n qX11_odds_33 rfl ?_
    refine e_getr 55 qX11_odds_34 fl_X11_35 shq_0 kdq_10_4 rrq_0_4 ?_
    refine e_aload_n qX11_odds_37 rfl ?_
    refine e_getr 49 qX11_odds_38 fl_X11_31 shq_0 kdq_10_3 rrq_0_3 ?_
    obtain ⟨s10, hc, h⟩ := bp_e h
    refine e_cVv1 qX11_odds_41 mv_X11_320 shq_55 rfl rfl (w_X6_copyFrom shq_55 shq_49 hc) ?_
    refine e_aload_n qX11_odds_44 rfl ?_
    refine e_getr 131 qX11_odds_45 fl_X11_65 shq_0 kdq_10_9 rrq_0_9 ?_
    refine e_iload_n qX11_odds_48 rfl ?_
    refine e_iload qX11_odds_49 rfl ?_
    refine e_iadd qX11_odds_51 ?_
    obtain ⟨s11, hc, h⟩ := bp_e h
    refine e_cVv1 qX11_odds_52 mv_X11_349 shq_131 rfl rfl (w_X2_begin hc) ?_
    refine e_aload_n qX11_odds_55 rfl ?_
    refine e_getr 131 qX11_odds_56 fl_X11_65 shq_0 kdq_10_9 rrq_0_9 ?_
    refine e_aload_n qX11_odds_59 rfl ?_
    refine e_getr 55 qX11_odds_60 fl_X11_35 shq_0 kdq_10_4 rrq_0_4 ?_
    refine e_bipush (nI 30) qX11_odds_63 rfl ?_
    obtain ⟨v12, s13, hc, h⟩ := bd_e h
    refine e_cVi2 qX11_odds_65 mv_X11_351 shq_131 rfl rfl (w_X2_liveSeconds shq_55 hc) ?_
    refine e_pop qX11_odds_68 rfl ?_
    refine e_aload_n qX11_odds_69 rfl ?_
    refine e_getr 55 qX11_odds_70 fl_X11_35 shq_0 kdq_10_4 rrq_0_4 ?_
    refine e_iload_n qX11_odds_73 rfl ?_
    obtain ⟨v14, hc, h⟩ := bp_e h
    refine e_cVi1 qX11_odds_74 mv_X11_211 shq_55 rfl rfl (w_X6_seenBy shq_55 hc) ?_
    refine jn_e (fun j => ∀ (v15 : Int32), j v15 = some (r, sr) → E mX11_odds 5 (some (.int r), sr) 83 [some (.ref 0), some (.int c2), some (.int c3), some (.int c4), some (.int v15), some (.int v6)] [] s13) h ?_ (fun j16 hj16 h => ?_)
    · intro v15 h
      refine vl_e h (fun h => ?_)
      obtain ⟨v17, ev17⟩ : ∃ y, v6 + (nI 1) = y := ⟨_, rfl⟩
      rw [ev17] at h
      refine e_iinc (nI 1) v17 (lv2 := [some (.ref 0), some (.int c2), some (.int c3), some (.int c4), some (.int v15), some (.int v17)]) qX11_odds_83 rfl rfl rfl ev17 rfl ?_
      refine e_goto (tgt := 27) qX11_odds_86 rfl ?_
      exact e_weak (ih9 _ _ _ h) ⟨Or.inr rfl, Or.inr rfl, Or.inr rfl, Or.inr rfl, Or.inr rfl, Or.inr rfl, trivial⟩
    refine e_if_eq (tgt := 83) qX11_odds_77 rfl h (fun _ h => ?_) (fun _ h => ?_)
    · exact e_weak (hj16 _ h) ⟨Or.inr rfl, Or.inr rfl, Or.inr rfl, Or.inr rfl, Or.inr rfl, Or.inr rfl, trivial⟩
    refine vl_e h (fun h => ?_)
    obtain ⟨v18, ev18⟩ : ∃ y, v5 + (nI 1) = y := ⟨_, rfl⟩
    rw [ev18] at h
    refine e_iinc (nI 1) v18 (lv2 := [some (.ref 0), some (.int c2), some (.int c3), some (.int c4), some (.int v18), some (.int v6)]) qX11_odds_80 rfl rfl rfl ev18 rfl ?_
    exact e_weak (hj16 _ h) ⟨Or.inr rfl, Or.inr rfl, Or.inr rfl, Or.inr rfl, Or.inr rfl, Or.inr rfl, trivial⟩

set_option maxRecDepth 20000 in
set_option maxHeartbeats 4000000 in
theorem w_X11_odds {N : Nat} {x1 : Int32} {x2 : Int32} {x3 : Int32} {s0 : St} {r : Int32} {sr : St} (h : f_X11_odds N x1 x2 x3 s0 = some (r, sr)) : Ct mX11_odds 5 [.ref 0, .int x1, .int x2, .int x3] s0 (some (.int r), sr) := by
  refine Ct.ofE (by decide +kernel) rfl ?_
  show E mX11_odds 5 (some (.int r), sr) 0 [some (.ref 0), some (.int x1), some (.int x2), some (.int x3), none, none] [] s0
  unfold f_X11_odds at h
  refine e_aload_n qX11_odds_0 rfl ?_
  refine e_iload_n qX11_odds_1 rfl ?_
  obtain ⟨v1, hc, h⟩ := bp_e h
  refine e_cVi1 qX11_odds_2 mv_X11_186 shq_0 rfl rfl (w_X11_isShip hc) ?_
  refine e_if_eq (tgt := 19) qX11_odds_5 rfl h (fun _ h => ?_) (fun _ h => ?_)
  · refine e_iconst (-1) qX11_odds_19 rfl ?_
    exact e_iret qX11_odds_20 rfl (ret_i h)
  refine e_iload_n qX11_odds_8 rfl ?_
  refine e_iconst (nI 1) qX11_odds_9 rfl ?_
  refine e_icmp_lt (tgt := 19) qX11_odds_10 rfl h (fun _ h => ?_) (fun _ h => ?_)
  · refine e_iconst (-1) qX11_odds_19 rfl ?_
    exact e_iret qX11_odds_20 rfl (ret_i h)
  refine e_iload_n qX11_odds_13 rfl ?_
  refine e_bipush (nI 30) qX11_odds_14 rfl ?_
  refine e_icmp_le (tgt := 21) qX11_odds_16 rfl h (fun _ h => ?_) (fun _ h => ?_)
  · refine e_iconst (nI 0) qX11_odds_21 rfl ?_
    refine e_istore (lv2 := [some (.ref 0), some (.int x1), some (.int x2), some (.int x3), some (.int (nI 0)), none]) qX11_odds_22 rfl rfl rfl ?_
    refine e_iconst (nI 0) qX11_odds_24 rfl ?_
    refine e_istore (lv2 := [some (.ref 0), some (.int x1), some (.int x2), some (.int x3), some (.int (nI 0)), some (.int (nI 0))]) qX11_odds_25 rfl rfl rfl ?_
    exact e_weak (w_X11_odds_L27  _ _ _ _ h) ⟨Or.inr rfl, Or.inr rfl, Or.inr rfl, Or.inr rfl, Or.inr rfl, Or.inr rfl, trivial⟩
  refine e_iconst (-1) qX11_odds_19 rfl ?_
  exact e_iret qX11_odds_20 rfl (ret_i h)

def f_X11_said (N : Nat) (x1 : Int32) (s0 : St) : Option (Int32 × St) :=
  vl (s0.1 61 0) fun v1 =>
  if v1 = 0 then
    some ((-1), s0)
  else
  if (-1) ≤ x1 then
    bd (f_X7_saidOf N 61 49 s0) fun v2 s3 =>
    if x1 = (-1) then
      bp (f_J6_bitCount_0f7a4 v2 s3) fun v4 =>
      some (v4, s3)
    else
    bp (f_X11_memberAt N v2 x1 s3) fun v5 =>
    some (v5, s3)
  else
  some ((-1), s0)

theorem qX11_said_0 : Dc mX11_said 0 (.aload_n 0) 1 1 := ⟨by decide +kernel, rfl⟩
theorem qX11_said_1 : Dc mX11_said 1 (.getfield 41) 3 4 := ⟨by decide +kernel, rfl⟩
theorem qX11_said_4 : Dc mX11_said 4 (.getfield 374) 3 7 := ⟨by decide +kernel, rfl⟩
theorem qX11_said_7 : Dc mX11_said 7 (.ifCond .eq 8) 3 10 := ⟨by decide +kernel, rfl⟩
theorem qX11_said_10 : Dc mX11_said 10 (.iload_n 1) 1 11 := ⟨by decide +kernel, rfl⟩
theorem qX11_said_11 : Dc mX11_said 11 (.iconst (-1)) 1 12 := ⟨by decide +kernel, rfl⟩
theorem qX11_said_12 : Dc mX11_said 12 (.if_icmp .ge 5) 3 15 := ⟨by decide +kernel, rfl⟩
theorem qX11_said_15 : Dc mX11_said 15 (.iconst (-1)) 1 16 := ⟨by decide +kernel, rfl⟩
theorem qX11_said_16 : Dc mX11_said 16 (.ireturn) 1 17 := ⟨by decide +kernel, rfl⟩
theorem qX11_said_17 : Dc mX11_said 17 (.aload_n 0) 1 18 := ⟨by decide +kernel, rfl⟩
theorem qX11_said_18 : Dc mX11_said 18 (.getfield 41) 3 21 := ⟨by decide +kernel, rfl⟩
theorem qX11_said_21 : Dc mX11_said 21 (.aload_n 0) 1 22 := ⟨by decide +kernel, rfl⟩
theorem qX11_said_22 : Dc mX11_said 22 (.getfield 31) 3 25 := ⟨by decide +kernel, rfl⟩
theorem qX11_said_25 : Dc mX11_said 25 (.invokevirtual 377) 3 28 := ⟨by decide +kernel, rfl⟩
theorem qX11_said_28 : Dc mX11_said 28 (.istore_n 2) 1 29 := ⟨by decide +kernel, rfl⟩
theorem qX11_said_29 : Dc mX11_said 29 (.iload_n 1) 1 30 := ⟨by decide +kernel, rfl⟩
theorem qX11_said_30 : Dc mX11_said 30 (.iconst (-1)) 1 31 := ⟨by decide +kernel, rfl⟩
theorem qX11_said_31 : Dc mX11_said 31 (.if_icmp .ne 10) 3 34 := ⟨by decide +kernel, rfl⟩
theorem qX11_said_34 : Dc mX11_said 34 (.iload_n 2) 1 35 := ⟨by decide +kernel, rfl⟩
theorem qX11_said_35 : Dc mX11_said 35 (.invokestatic 278) 3 38 := ⟨by decide +kernel, rfl⟩
theorem qX11_said_38 : Dc mX11_said 38 (.goto 8) 3 41 := ⟨by decide +kernel, rfl⟩
theorem qX11_said_41 : Dc mX11_said 41 (.iload_n 2) 1 42 := ⟨by decide +kernel, rfl⟩
theorem qX11_said_42 : Dc mX11_said 42 (.iload_n 1) 1 43 := ⟨by decide +kernel, rfl⟩
theorem qX11_said_43 : Dc mX11_said 43 (.invokestatic 380) 3 46 := ⟨by decide +kernel, rfl⟩
theorem qX11_said_46 : Dc mX11_said 46 (.ireturn) 1 47 := ⟨by decide +kernel, rfl⟩

set_option maxRecDepth 20000 in
set_option maxHeartbeats 4000000 in
theorem w_X11_said {N : Nat} {x1 : Int32} {s0 : St} {r : Int32} {sr : St} (h : f_X11_said N x1 s0 = some (r, sr)) : Ct mX11_said 7 [.ref 0, .int x1] s0 (some (.int r), sr) := by
  refine Ct.ofE (by decide +kernel) rfl ?_
  show E mX11_said 7 (some (.int r), sr) 0 [some (.ref 0), some (.int x1), none] [] s0
  unfold f_X11_said at h
  refine e_aload_n qX11_said_0 rfl ?_
  refine e_getr 61 qX11_said_1 fl_X11_41 shq_0 kdq_10_5 rrq_0_5 ?_
  refine e_geti qX11_said_4 fl_X11_374 shq_61 kdq_7_0 h (fun v1 h => ?_)
  refine e_if_eq (tgt := 15) qX11_said_7 rfl h (fun _ h => ?_) (fun _ h => ?_)
  · refine e_iconst (-1) qX11_said_15 rfl ?_
    exact e_iret qX11_said_16 rfl (ret_i h)
  refine e_iload_n qX11_said_10 rfl ?_
  refine e_iconst (-1) qX11_said_11 rfl ?_
  refine e_icmp_ge (tgt := 17) qX11_said_12 rfl h (fun _ h => ?_) (fun _ h => ?_)
  · refine e_aload_n qX11_said_17 rfl ?_
    refine e_getr 61 qX11_said_18 fl_X11_41 shq_0 kdq_10_5 rrq_0_5 ?_
    refine e_aload_n qX11_said_21 rfl ?_
    refine e_getr 49 qX11_said_22 fl_X11_31 shq_0 kdq_10_3 rrq_0_3 ?_
    obtain ⟨v2, s3, hc, h⟩ := bd_e h
    refine e_cVi1 qX11_said_25 mv_X11_377 shq_61 rfl rfl (w_X7_saidOf shq_61 shq_49 hc) ?_
    refine e_istore_n (lv2 := [some (.ref 0), some (.int x1), some (.int v2)]) qX11_said_28 rfl rfl rfl ?_
    refine e_iload_n qX11_said_29 rfl ?_
    refine e_iconst (-1) qX11_said_30 rfl ?_
    refine e_icmp_ne (tgt := 41) qX11_said_31 rfl h (fun _ h => ?_) (fun _ h => ?_)
    · refine e_iload_n qX11_said_34 rfl ?_
      obtain ⟨v4, hc, h⟩ := bp_e h
      refine e_cSi1 qX11_said_35 ms_X11_278 rfl rfl (w_J6_bitCount_0f7a4 hc) ?_
      refine e_goto (tgt := 46) qX11_said_38 rfl ?_
      exact e_iret qX11_said_46 rfl (ret_i h)
    refine e_iload_n qX11_said_41 rfl ?_
    refine e_iload_n qX11_said_42 rfl ?_
    obtain ⟨v5, hc, h⟩ := bp_e h
    refine e_cSi2 qX11_said_43 ms_X11_380 rfl rfl (w_X11_memberAt hc) ?_
    exact e_iret qX11_said_46 rfl (ret_i h)
  refine e_iconst (-1) qX11_said_15 rfl ?_
  exact e_iret qX11_said_16 rfl (ret_i h)

def f_X0_readLine (N : Nat)  (s0 : St) : Option (Int32 × St) :=
  bp (f_X0_kindAt s0) fun v1 =>
  if v1 = (-1) then
    bd (f_X9_refuse (nI 1) s0) fun v2 s3 =>
    rz v2 <|
    some (v2, s3)
  else
  vl (s0.1 71 3) fun v4 =>
  if v4 < (nI 40) then
    bp (f_X9_next N s0) fun s5 =>
    vl (s5.1 71 3) fun v6 =>
    ald (fun j => sI s5 72 j v1) 40 v6 fun s7 =>
    bd (f_X0_readWhom N v1 s7) fun v8 s9 =>
    jn (fun (s10 : St) =>
      some ((nI 0), s10)) fun j11 =>
    if v8 = 0 then
      j11 s9
    else
    bd (f_X0_readAmount N v1 s9) fun v12 s13 =>
    if v12 = 0 then
      j11 s13
    else
    some ((nI 1), s13)
  else
  bd (f_X9_refuse (nI 4) s0) fun v14 s15 =>
  rz v14 <|
  some (v14, s15)

theorem qX0_readLine_0 : Dc mX0_readLine 0 (.aload_n 1) 1 1 := ⟨by decide +kernel, rfl⟩
theorem qX0_readLine_1 : Dc mX0_readLine 1 (.invokestatic 46) 3 4 := ⟨by decide +kernel, rfl⟩
theorem qX0_readLine_4 : Dc mX0_readLine 4 (.istore_n 3) 1 5 := ⟨by decide +kernel, rfl⟩
theorem qX0_readLine_5 : Dc mX0_readLine 5 (.iload_n 3) 1 6 := ⟨by decide +kernel, rfl⟩
theorem qX0_readLine_6 : Dc mX0_readLine 6 (.iconst (-1)) 1 7 := ⟨by decide +kernel, rfl⟩
theorem qX0_readLine_7 : Dc mX0_readLine 7 (.if_icmp .ne 9) 3 10 := ⟨by decide +kernel, rfl⟩
theorem qX0_readLine_10 : Dc mX0_readLine 10 (.aload_n 1) 1 11 := ⟨by decide +kernel, rfl⟩
theorem qX0_readLine_11 : Dc mX0_readLine 11 (.iconst 1) 1 12 := ⟨by decide +kernel, rfl⟩
theorem qX0_readLine_12 : Dc mX0_readLine 12 (.invokevirtual 50) 3 15 := ⟨by decide +kernel, rfl⟩
theorem qX0_readLine_15 : Dc mX0_readLine 15 (.ireturn) 1 16 := ⟨by decide +kernel, rfl⟩
theorem qX0_readLine_16 : Dc mX0_readLine 16 (.aload_n 0) 1 17 := ⟨by decide +kernel, rfl⟩
theorem qX0_readLine_17 : Dc mX0_readLine 17 (.getfield 27) 3 20 := ⟨by decide +kernel, rfl⟩
theorem qX0_readLine_20 : Dc mX0_readLine 20 (.bipush 40) 2 22 := ⟨by decide +kernel, rfl⟩
theorem qX0_readLine_22 : Dc mX0_readLine 22 (.if_icmp .lt 9) 3 25 := ⟨by decide +kernel, rfl⟩
theorem qX0_readLine_25 : Dc mX0_readLine 25 (.aload_n 1) 1 26 := ⟨by decide +kernel, rfl⟩
theorem qX0_readLine_26 : Dc mX0_readLine 26 (.iconst 4) 1 27 := ⟨by decide +kernel, rfl⟩
theorem qX0_readLine_27 : Dc mX0_readLine 27 (.invokevirtual 50) 3 30 := ⟨by decide +kernel, rfl⟩
theorem qX0_readLine_30 : Dc mX0_readLine 30 (.ireturn) 1 31 := ⟨by decide +kernel, rfl⟩
theorem qX0_readLine_31 : Dc mX0_readLine 31 (.aload_n 1) 1 32 := ⟨by decide +kernel, rfl⟩
theorem qX0_readLine_32 : Dc mX0_readLine 32 (.invokevirtual 54) 3 35 := ⟨by decide +kernel, rfl⟩
theorem qX0_readLine_35 : Dc mX0_readLine 35 (.aload_n 0) 1 36 := ⟨by decide +kernel, rfl⟩
theorem qX0_readLine_36 : Dc mX0_readLine 36 (.getfield 9) 3 39 := ⟨by decide +kernel, rfl⟩
theorem qX0_readLine_39 : Dc mX0_readLine 39 (.aload_n 0) 1 40 := ⟨by decide +kernel, rfl⟩
theorem qX0_readLine_40 : Dc mX0_readLine 40 (.getfield 27) 3 43 := ⟨by decide +kernel, rfl⟩
theorem qX0_readLine_43 : Dc mX0_readLine 43 (.iload_n 3) 1 44 := ⟨by decide +kernel, rfl⟩
theorem qX0_readLine_44 : Dc mX0_readLine 44 (.iastore) 1 45 := ⟨by decide +kernel, rfl⟩
theorem qX0_readLine_45 : Dc mX0_readLine 45 (.aload_n 0) 1 46 := ⟨by decide +kernel, rfl⟩
theorem qX0_readLine_46 : Dc mX0_readLine 46 (.aload_n 1) 1 47 := ⟨by decide +kernel, rfl⟩
theorem qX0_readLine_47 : Dc mX0_readLine 47 (.aload_n 2) 1 48 := ⟨by decide +kernel, rfl⟩
theorem qX0_readLine_48 : Dc mX0_readLine 48 (.iload_n 3) 1 49 := ⟨by decide +kernel, rfl⟩
theorem qX0_readLine_49 : Dc mX0_readLine 49 (.invokevirtual 57) 3 52 := ⟨by decide +kernel, rfl⟩
theorem qX0_readLine_52 : Dc mX0_readLine 52 (.ifCond .eq 16) 3 55 := ⟨by decide +kernel, rfl⟩
theorem qX0_readLine_55 : Dc mX0_readLine 55 (.aload_n 0) 1 56 := ⟨by decide +kernel, rfl⟩
theorem qX0_readLine_56 : Dc mX0_readLine 56 (.aload_n 1) 1 57 := ⟨by decide +kernel, rfl⟩
theorem qX0_readLine_57 : Dc mX0_readLine 57 (.iload_n 3) 1 58 := ⟨by decide +kernel, rfl⟩
theorem qX0_readLine_58 : Dc mX0_readLine 58 (.invokevirtual 61) 3 61 := ⟨by decide +kernel, rfl⟩
theorem qX0_readLine_61 : Dc mX0_readLine 61 (.ifCond .eq 7) 3 64 := ⟨by decide +kernel, rfl⟩
theorem qX0_readLine_64 : Dc mX0_readLine 64 (.iconst 1) 1 65 := ⟨by decide +kernel, rfl⟩
theorem qX0_readLine_65 : Dc mX0_readLine 65 (.goto 4) 3 68 := ⟨by decide +kernel, rfl⟩
theorem qX0_readLine_68 : Dc mX0_readLine 68 (.iconst 0) 1 69 := ⟨by decide +kernel, rfl⟩
theorem qX0_readLine_69 : Dc mX0_readLine 69 (.ireturn) 1 70 := ⟨by decide +kernel, rfl⟩

set_option maxRecDepth 20000 in
set_option maxHeartbeats 4000000 in
theorem w_X0_readLine {N : Nat}  {s0 : St} {r : Int32} {sr : St} (h : f_X0_readLine N  s0 = some (r, sr)) : Ct mX0_readLine 4 [.ref 71, .ref 1, .ref 3] s0 (some (.int r), sr) := by
  refine Ct.ofE (by decide +kernel) rfl ?_
  show E mX0_readLine 4 (some (.int r), sr) 0 [some (.ref 71), some (.ref 1), some (.ref 3), none] [] s0
  unfold f_X0_readLine at h
  refine e_aload_n qX0_readLine_0 rfl ?_
  obtain ⟨v1, hc, h⟩ := bp_e h
  refine e_cSi1 qX0_readLine_1 ms_X0_46 rfl rfl (w_X0_kindAt hc) ?_
  refine e_istore_n (lv2 := [some (.ref 71), some (.ref 1), some (.ref 3), some (.int v1)]) qX0_readLine_4 rfl rfl rfl ?_
  refine e_iload_n qX0_readLine_5 rfl ?_
  refine e_iconst (-1) qX0_readLine_6 rfl ?_
  refine e_icmp_ne (tgt := 16) qX0_readLine_7 rfl h (fun _ h => ?_) (fun _ h => ?_)
  · refine e_aload_n qX0_readLine_10 rfl ?_
    refine e_iconst (nI 1) qX0_readLine_11 rfl ?_
    obtain ⟨v2, s3, hc, h⟩ := bd_e h
    refine e_cVi1 qX0_readLine_12 mv_X0_50 shq_1 rfl rfl (w_X9_refuse hc) ?_
    refine rz_e h (fun hz h => ?_)
    exact e_zret qX0_readLine_15 rfl hz (ret_i h)
  refine e_aload_n qX0_readLine_16 rfl ?_
  refine e_geti qX0_readLine_17 fl_X0_27 shq_71 kdq_0_3 h (fun v4 h => ?_)
  refine e_bipush (nI 40) qX0_readLine_20 rfl ?_
  refine e_icmp_lt (tgt := 31) qX0_readLine_22 rfl h (fun _ h => ?_) (fun _ h => ?_)
  · refine e_aload_n qX0_readLine_31 rfl ?_
    obtain ⟨s5, hc, h⟩ := bp_e h
    refine e_cVv0 qX0_readLine_32 mv_X0_54 shq_1 rfl rfl (w_X9_next hc) ?_
    refine e_aload_n qX0_readLine_35 rfl ?_
    refine e_getr 72 qX0_readLine_36 fl_X0_9 shq_71 kdq_0_0 rrq_71_0 ?_
    refine e_aload_n qX0_readLine_39 rfl ?_
    refine e_geti qX0_readLine_40 fl_X0_27 shq_71 kdq_0_3 h (fun v6 h => ?_)
    refine e_iload_n qX0_readLine_43 rfl ?_
    refine e_iast qX0_readLine_44 shq_72 lnq_72 h (fun s7 h => ?_)
    refine e_aload_n qX0_readLine_45 rfl ?_
    refine e_aload_n qX0_readLine_46 rfl ?_
    refine e_aload_n qX0_readLine_47 rfl ?_
    refine e_iload_n qX0_readLine_48 rfl ?_
    obtain ⟨v8, s9, hc, h⟩ := bd_e h
    refine e_cVi3 qX0_readLine_49 mv_X0_57 shq_71 rfl rfl (w_X0_readWhom hc) ?_
    refine jn_e (fun j => ∀ (s10 : St), j s10 = some (r, sr) → E mX0_readLine 4 (some (.int r), sr) 68 [none, none, none, none] [] s10) h ?_ (fun j11 hj11 h => ?_)
    · intro s10 h
      refine e_iconst (nI 0) qX0_readLine_68 rfl ?_
      exact e_zret qX0_readLine_69 rfl (by decide) (ret_i h)
    refine e_if_eq (tgt := 68) qX0_readLine_52 rfl h (fun _ h => ?_) (fun _ h => ?_)
    · exact e_weak (hj11 _ h) ⟨Or.inl rfl, Or.inl rfl, Or.inl rfl, Or.inl rfl, trivial⟩
    refine e_aload_n qX0_readLine_55 rfl ?_
    refine e_aload_n qX0_readLine_56 rfl ?_
    refine e_iload_n qX0_readLine_57 rfl ?_
    obtain ⟨v12, s13, hc, h⟩ := bd_e h
    refine e_cVi2 qX0_readLine_58 mv_X0_61 shq_71 rfl rfl (w_X0_readAmount hc) ?_
    refine e_if_eq (tgt := 68) qX0_readLine_61 rfl h (fun _ h => ?_) (fun _ h => ?_)
    · exact e_weak (hj11 _ h) ⟨Or.inl rfl, Or.inl rfl, Or.inl rfl, Or.inl rfl, trivial⟩
    refine e_iconst (nI 1) qX0_readLine_64 rfl ?_
    refine e_goto (tgt := 69) qX0_readLine_65 rfl ?_
    exact e_zret qX0_readLine_69 rfl (by decide) (ret_i h)
  refine e_aload_n qX0_readLine_25 rfl ?_
  refine e_iconst (nI 4) qX0_readLine_26 rfl ?_
  obtain ⟨v14, s15, hc, h⟩ := bd_e h
  refine e_cVi1 qX0_readLine_27 mv_X0_50 shq_1 rfl rfl (w_X9_refuse hc) ?_
  refine rz_e h (fun hz h => ?_)
  exact e_zret qX0_readLine_30 rfl hz (ret_i h)

def f_X0_liveLine (N : Nat) (a1 : Nat) (x2 : Int32) (s0 : St) : Option (Int32 × St) :=
  ald (s0.1 73) 40 x2 fun v1 =>
  ald (s0.1 74) 40 x2 fun v2 =>
  ald (s0.1 72) 40 x2 fun v3 =>
  if v3 = nI 0 then
    bd (f_X6_putOut a1 v1 s0) fun v4 s5 =>
    bp (f_X0_whyWrong (nI 0) v4 s5) fun v6 =>
    some (v6, s5)
  else
  if v3 = nI 1 then
    bd (f_X6_relight a1 v1 s0) fun v7 s8 =>
    bp (f_X0_whyWrong (nI 1) v7 s8) fun v9 =>
    some (v9, s8)
  else
  if v3 = nI 2 then
    bd (f_X6_pourInto a1 v1 v2 s0) fun v10 s11 =>
    bp (f_X0_whyWrong (nI 2) v10 s11) fun v12 =>
    some (v12, s11)
  else
  if v3 = nI 3 then
    bd (f_X6_moveOn a1 v1 v2 s0) fun v13 s14 =>
    bp (f_X0_whyWrong (nI 3) v13 s14) fun v15 =>
    some (v15, s14)
  else
  if v3 = nI 4 then
    bd (f_X6_turn a1 v1 v2 s0) fun v16 s17 =>
    bp (f_X0_whyWrong (nI 4) v16 s17) fun v18 =>
    some (v18, s17)
  else
  if v3 = nI 5 then
    bd (f_X6_setHaze a1 v2 s0) fun v19 s20 =>
    bp (f_X0_whyWrong (nI 5) v19 s20) fun v21 =>
    some (v21, s20)
  else
  bd (f_X6_passAll N a1 v2 s0) fun v22 s23 =>
  bp (f_X0_whyWrong (nI 6) v22 s23) fun v24 =>
  some (v24, s23)

theorem qX0_liveLine_0 : Dc mX0_liveLine 0 (.aload_n 0) 1 1 := ⟨by decide +kernel, rfl⟩
theorem qX0_liveLine_1 : Dc mX0_liveLine 1 (.getfield 15) 3 4 := ⟨by decide +kernel, rfl⟩
theorem qX0_liveLine_4 : Dc mX0_liveLine 4 (.iload_n 2) 1 5 := ⟨by decide +kernel, rfl⟩
theorem qX0_liveLine_5 : Dc mX0_liveLine 5 (.iaload) 1 6 := ⟨by decide +kernel, rfl⟩
theorem qX0_liveLine_6 : Dc mX0_liveLine 6 (.istore_n 3) 1 7 := ⟨by decide +kernel, rfl⟩
theorem qX0_liveLine_7 : Dc mX0_liveLine 7 (.aload_n 0) 1 8 := ⟨by decide +kernel, rfl⟩
theorem qX0_liveLine_8 : Dc mX0_liveLine 8 (.getfield 18) 3 11 := ⟨by decide +kernel, rfl⟩
theorem qX0_liveLine_11 : Dc mX0_liveLine 11 (.iload_n 2) 1 12 := ⟨by decide +kernel, rfl⟩
theorem qX0_liveLine_12 : Dc mX0_liveLine 12 (.iaload) 1 13 := ⟨by decide +kernel, rfl⟩
theorem qX0_liveLine_13 : Dc mX0_liveLine 13 (.istore 4) 2 15 := ⟨by decide +kernel, rfl⟩
theorem qX0_liveLine_15 : Dc mX0_liveLine 15 (.aload_n 0) 1 16 := ⟨by decide +kernel, rfl⟩
theorem qX0_liveLine_16 : Dc mX0_liveLine 16 (.getfield 9) 3 19 := ⟨by decide +kernel, rfl⟩
theorem qX0_liveLine_19 : Dc mX0_liveLine 19 (.iload_n 2) 1 20 := ⟨by decide +kernel, rfl⟩
theorem qX0_liveLine_20 : Dc mX0_liveLine 20 (.iaload) 1 21 := ⟨by decide +kernel, rfl⟩
theorem qX0_liveLine_21 : Dc mX0_liveLine 21 (.tableswitch 106 0 5 #[39, 49, 59, 71, 83, 95]) 39 60 := ⟨by decide +kernel, rfl⟩
theorem qX0_liveLine_60 : Dc mX0_liveLine 60 (.iconst 0) 1 61 := ⟨by decide +kernel, rfl⟩
theorem qX0_liveLine_61 : Dc mX0_liveLine 61 (.aload_n 1) 1 62 := ⟨by decide +kernel, rfl⟩
theorem qX0_liveLine_62 : Dc mX0_liveLine 62 (.iload_n 3) 1 63 := ⟨by decide +kernel, rfl⟩
theorem qX0_liveLine_63 : Dc mX0_liveLine 63 (.invokevirtual 118) 3 66 := ⟨by decide +kernel, rfl⟩
theorem qX0_liveLine_66 : Dc mX0_liveLine 66 (.invokestatic 124) 3 69 := ⟨by decide +kernel, rfl⟩
theorem qX0_liveLine_69 : Dc mX0_liveLine 69 (.ireturn) 1 70 := ⟨by decide +kernel, rfl⟩
theorem qX0_liveLine_70 : Dc mX0_liveLine 70 (.iconst 1) 1 71 := ⟨by decide +kernel, rfl⟩
theorem qX0_liveLine_71 : Dc mX0_liveLine 71 (.aload_n 1) 1 72 := ⟨by decide +kernel, rfl⟩
theorem qX0_liveLine_72 : Dc mX0_liveLine 72 (.iload_n 3) 1 73 := ⟨by decide +kernel, rfl⟩
theorem qX0_liveLine_73 : Dc mX0_liveLine 73 (.invokevirtual 128) 3 76 := ⟨by decide +kernel, rfl⟩
theorem qX0_liveLine_76 : Dc mX0_liveLine 76 (.invokestatic 124) 3 79 := ⟨by decide +kernel, rfl⟩
theorem qX0_liveLine_79 : Dc mX0_liveLine 79 (.ireturn) 1 80 := ⟨by decide +kernel, rfl⟩
theorem qX0_liveLine_80 : Dc mX0_liveLine 80 (.iconst 2) 1 81 := ⟨by decide +kernel, rfl⟩
theorem qX0_liveLine_81 : Dc mX0_liveLine 81 (.aload_n 1) 1 82 := ⟨by decide +kernel, rfl⟩
theorem qX0_liveLine_82 : Dc mX0_liveLine 82 (.iload_n 3) 1 83 := ⟨by decide +kernel, rfl⟩
theorem qX0_liveLine_83 : Dc mX0_liveLine 83 (.iload 4) 2 85 := ⟨by decide +kernel, rfl⟩
theorem qX0_liveLine_85 : Dc mX0_liveLine 85 (.invokevirtual 131) 3 88 := ⟨by decide +kernel, rfl⟩
theorem qX0_liveLine_88 : Dc mX0_liveLine 88 (.invokestatic 124) 3 91 := ⟨by decide +kernel, rfl⟩
theorem qX0_liveLine_91 : Dc mX0_liveLine 91 (.ireturn) 1 92 := ⟨by decide +kernel, rfl⟩
theorem qX0_liveLine_92 : Dc mX0_liveLine 92 (.iconst 3) 1 93 := ⟨by decide +kernel, rfl⟩
theorem qX0_liveLine_93 : Dc mX0_liveLine 93 (.aload_n 1) 1 94 := ⟨by decide +kernel, rfl⟩
theorem qX0_liveLine_94 : Dc mX0_liveLine 94 (.iload_n 3) 1 95 := ⟨by decide +kernel, rfl⟩
theorem qX0_liveLine_95 : Dc mX0_liveLine 95 (.iload 4) 2 97 := ⟨by decide +kernel, rfl⟩
theorem qX0_liveLine_97 : Dc mX0_liveLine 97 (.invokevirtual 134) 3 100 := ⟨by decide +kernel, rfl⟩
theorem qX0_liveLine_100 : Dc mX0_liveLine 100 (.invokestatic 124) 3 103 := ⟨by decide +kernel, rfl⟩
theorem qX0_liveLine_103 : Dc mX0_liveLine 103 (.ireturn) 1 104 := ⟨by decide +kernel, rfl⟩
theorem qX0_liveLine_104 : Dc mX0_liveLine 104 (.iconst 4) 1 105 := ⟨by decide +kernel, rfl⟩
theorem qX0_liveLine_105 : Dc mX0_liveLine 105 (.aload_n 1) 1 106 := ⟨by decide +kernel, rfl⟩
theorem qX0_liveLine_106 : Dc mX0_liveLine 106 (.iload_n 3) 1 107 := ⟨by decide +kernel, rfl⟩
theorem qX0_liveLine_107 : Dc mX0_liveLine 107 (.iload 4) 2 109 := ⟨by decide +kernel, rfl⟩
theorem qX0_liveLine_109 : Dc mX0_liveLine 109 (.invokevirtual 137) 3 112 := ⟨by decide +kernel, rfl⟩
theorem qX0_liveLine_112 : Dc mX0_liveLine 112 (.invokestatic 124) 3 115 := ⟨by decide +kernel, rfl⟩
theorem qX0_liveLine_115 : Dc mX0_liveLine 115 (.ireturn) 1 116 := ⟨by decide +kernel, rfl⟩
theorem qX0_liveLine_116 : Dc mX0_liveLine 116 (.iconst 5) 1 117 := ⟨by decide +kernel, rfl⟩
theorem qX0_liveLine_117 : Dc mX0_liveLine 117 (.aload_n 1) 1 118 := ⟨by decide +kernel, rfl⟩
theorem qX0_liveLine_118 : Dc mX0_liveLine 118 (.iload 4) 2 120 := ⟨by decide +kernel, rfl⟩
theorem qX0_liveLine_120 : Dc mX0_liveLine 120 (.invokevirtual 140) 3 123 := ⟨by decide +kernel, rfl⟩
theorem qX0_liveLine_123 : Dc mX0_liveLine 123 (.invokestatic 124) 3 126 := ⟨by decide +kernel, rfl⟩
theorem qX0_liveLine_126 : Dc mX0_liveLine 126 (.ireturn) 1 127 := ⟨by decide +kernel, rfl⟩
theorem qX0_liveLine_127 : Dc mX0_liveLine 127 (.bipush 6) 2 129 := ⟨by decide +kernel, rfl⟩
theorem qX0_liveLine_129 : Dc mX0_liveLine 129 (.aload_n 1) 1 130 := ⟨by decide +kernel, rfl⟩
theorem qX0_liveLine_130 : Dc mX0_liveLine 130 (.iload 4) 2 132 := ⟨by decide +kernel, rfl⟩
theorem qX0_liveLine_132 : Dc mX0_liveLine 132 (.invokevirtual 143) 3 135 := ⟨by decide +kernel, rfl⟩
theorem qX0_liveLine_135 : Dc mX0_liveLine 135 (.invokestatic 124) 3 138 := ⟨by decide +kernel, rfl⟩
theorem qX0_liveLine_138 : Dc mX0_liveLine 138 (.ireturn) 1 139 := ⟨by decide +kernel, rfl⟩

set_option maxRecDepth 20000 in
set_option maxHeartbeats 4000000 in
theorem w_X0_liveLine {N : Nat} {a1 : Nat} {x2 : Int32} {s0 : St} {r : Int32} {sr : St} (h_a1 : sh a1 = 6) (h : f_X0_liveLine N a1 x2 s0 = some (r, sr)) : Ct mX0_liveLine 5 [.ref 71, .ref a1, .int x2] s0 (some (.int r), sr) := by
  refine Ct.ofE (by decide +kernel) rfl ?_
  show E mX0_liveLine 5 (some (.int r), sr) 0 [some (.ref 71), some (.ref a1), some (.int x2), none, none] [] s0
  unfold f_X0_liveLine at h
  refine e_aload_n qX0_liveLine_0 rfl ?_
  refine e_getr 73 qX0_liveLine_1 fl_X0_15 shq_71 kdq_0_1 rrq_71_1 ?_
  refine e_iload_n qX0_liveLine_4 rfl ?_
  refine e_iald qX0_liveLine_5 shq_73 lnq_73 h (fun v1 h => ?_)
  refine e_istore_n (lv2 := [some (.ref 71), some (.ref a1), some (.int x2), some (.int v1), none]) qX0_liveLine_6 rfl rfl rfl ?_
  refine e_aload_n qX0_liveLine_7 rfl ?_
  refine e_getr 74 qX0_liveLine_8 fl_X0_18 shq_71 kdq_0_2 rrq_71_2 ?_
  refine e_iload_n qX0_liveLine_11 rfl ?_
  refine e_iald qX0_liveLine_12 shq_74 lnq_74 h (fun v2 h => ?_)
  refine e_istore (lv2 := [some (.ref 71), some (.ref a1), some (.int x2), some (.int v1), some (.int v2)]) qX0_liveLine_13 rfl rfl rfl ?_
  refine e_aload_n qX0_liveLine_15 rfl ?_
  refine e_getr 72 qX0_liveLine_16 fl_X0_9 shq_71 kdq_0_0 rrq_71_0 ?_
  refine e_iload_n qX0_liveLine_19 rfl ?_
  refine e_iald qX0_liveLine_20 shq_72 lnq_72 h (fun v3 h => ?_)
  refine e_ite h (fun hx h => ?_) (fun hx0 h => ?_)
  · refine e_tswk (tgt := 60) qX0_liveLine_21 hx (by decide) (by decide) (by decide) rfl rfl ?_
    refine e_iconst (nI 0) qX0_liveLine_60 rfl ?_
    refine e_aload_n qX0_liveLine_61 rfl ?_
    refine e_iload_n qX0_liveLine_62 rfl ?_
    obtain ⟨v4, s5, hc, h⟩ := bd_e h
    refine e_cVi1 qX0_liveLine_63 mv_X0_118 h_a1 rfl rfl (w_X6_putOut h_a1 hc) ?_
    obtain ⟨v6, hc, h⟩ := bp_e h
    refine e_cSi2 qX0_liveLine_66 ms_X0_124 rfl rfl (w_X0_whyWrong hc) ?_
    exact e_iret qX0_liveLine_69 rfl (ret_i h)
  refine e_ite h (fun hx h => ?_) (fun hx1 h => ?_)
  · refine e_tswk (tgt := 70) qX0_liveLine_21 hx (by decide) (by decide) (by decide) rfl rfl ?_
    refine e_iconst (nI 1) qX0_liveLine_70 rfl ?_
    refine e_aload_n qX0_liveLine_71 rfl ?_
    refine e_iload_n qX0_liveLine_72 rfl ?_
    obtain ⟨v7, s8, hc, h⟩ := bd_e h
    refine e_cVi1 qX0_liveLine_73 mv_X0_128 h_a1 rfl rfl (w_X6_relight h_a1 hc) ?_
    obtain ⟨v9, hc, h⟩ := bp_e h
    refine e_cSi2 qX0_liveLine_76 ms_X0_124 rfl rfl (w_X0_whyWrong hc) ?_
    exact e_iret qX0_liveLine_79 rfl (ret_i h)
  refine e_ite h (fun hx h => ?_) (fun hx2 h => ?_)
  · refine e_tswk (tgt := 80) qX0_liveLine_21 hx (by decide) (by decide) (by decide) rfl rfl ?_
    refine e_iconst (nI 2) qX0_liveLine_80 rfl ?_
    refine e_aload_n qX0_liveLine_81 rfl ?_
    refine e_iload_n qX0_liveLine_82 rfl ?_
    refine e_iload qX0_liveLine_83 rfl ?_
    obtain ⟨v10, s11, hc, h⟩ := bd_e h
    refine e_cVi2 qX0_liveLine_85 mv_X0_131 h_a1 rfl rfl (w_X6_pourInto h_a1 hc) ?_
    obtain ⟨v12, hc, h⟩ := bp_e h
    refine e_cSi2 qX0_liveLine_88 ms_X0_124 rfl rfl (w_X0_whyWrong hc) ?_
    exact e_iret qX0_liveLine_91 rfl (ret_i h)
  refine e_ite h (fun hx h => ?_) (fun hx3 h => ?_)
  · refine e_tswk (tgt := 92) qX0_liveLine_21 hx (by decide) (by decide) (by decide) rfl rfl ?_
    refine e_iconst (nI 3) qX0_liveLine_92 rfl ?_
    refine e_aload_n qX0_liveLine_93 rfl ?_
    refine e_iload_n qX0_liveLine_94 rfl ?_
    refine e_iload qX0_liveLine_95 rfl ?_
    obtain ⟨v13, s14, hc, h⟩ := bd_e h
    refine e_cVi2 qX0_liveLine_97 mv_X0_134 h_a1 rfl rfl (w_X6_moveOn h_a1 hc) ?_
    obtain ⟨v15, hc, h⟩ := bp_e h
    refine e_cSi2 qX0_liveLine_100 ms_X0_124 rfl rfl (w_X0_whyWrong hc) ?_
    exact e_iret qX0_liveLine_103 rfl (ret_i h)
  refine e_ite h (fun hx h => ?_) (fun hx4 h => ?_)
  · refine e_tswk (tgt := 104) qX0_liveLine_21 hx (by decide) (by decide) (by decide) rfl rfl ?_
    refine e_iconst (nI 4) qX0_liveLine_104 rfl ?_
    refine e_aload_n qX0_liveLine_105 rfl ?_
    refine e_iload_n qX0_liveLine_106 rfl ?_
    refine e_iload qX0_liveLine_107 rfl ?_
    obtain ⟨v16, s17, hc, h⟩ := bd_e h
    refine e_cVi2 qX0_liveLine_109 mv_X0_137 h_a1 rfl rfl (w_X6_turn h_a1 hc) ?_
    obtain ⟨v18, hc, h⟩ := bp_e h
    refine e_cSi2 qX0_liveLine_112 ms_X0_124 rfl rfl (w_X0_whyWrong hc) ?_
    exact e_iret qX0_liveLine_115 rfl (ret_i h)
  refine e_ite h (fun hx h => ?_) (fun hx5 h => ?_)
  · refine e_tswk (tgt := 116) qX0_liveLine_21 hx (by decide) (by decide) (by decide) rfl rfl ?_
    refine e_iconst (nI 5) qX0_liveLine_116 rfl ?_
    refine e_aload_n qX0_liveLine_117 rfl ?_
    refine e_iload qX0_liveLine_118 rfl ?_
    obtain ⟨v19, s20, hc, h⟩ := bd_e h
    refine e_cVi1 qX0_liveLine_120 mv_X0_140 h_a1 rfl rfl (w_X6_setHaze h_a1 hc) ?_
    obtain ⟨v21, hc, h⟩ := bp_e h
    refine e_cSi2 qX0_liveLine_123 ms_X0_124 rfl rfl (w_X0_whyWrong hc) ?_
    exact e_iret qX0_liveLine_126 rfl (ret_i h)
  refine e_tswo (tgt := 127) qX0_liveLine_21 (tsw_def (lo := 0) (n := 6) (by decide) (lt_s (lt_s (lt_s (lt_s (lt_s (lt_s lt_0 hx0) hx1) hx2) hx3) hx4) hx5)) rfl ?_
  refine e_bipush (nI 6) qX0_liveLine_127 rfl ?_
  refine e_aload_n qX0_liveLine_129 rfl ?_
  refine e_iload qX0_liveLine_130 rfl ?_
  obtain ⟨v22, s23, hc, h⟩ := bd_e h
  refine e_cVi1 qX0_liveLine_132 mv_X0_143 h_a1 rfl rfl (w_X6_passAll h_a1 hc) ?_
  obtain ⟨v24, hc, h⟩ := bp_e h
  refine e_cSi2 qX0_liveLine_135 ms_X0_124 rfl rfl (w_X0_whyWrong hc) ?_
  exact e_iret qX0_liveLine_138 rfl (ret_i h)

def f_X1_readLine (N : Nat) (a0 : Nat) (s0 : St) : Option (Int32 × St) :=
  bp (f_X9_is 1000 s0) fun v1 =>
  if v1 = 0 then
    bp (f_X9_is 1001 s0) fun v2 =>
    if v2 = 0 then
      bp (f_X9_is 1002 s0) fun v3 =>
      if v3 = 0 then
        bp (f_X9_is 1003 s0) fun v4 =>
        if v4 = 0 then
          bp (f_X9_is 1004 s0) fun v5 =>
          if v5 = 0 then
            bp (f_X9_is 1005 s0) fun v6 =>
            if v6 = 0 then
              bd (f_X9_refuse (nI 1) s0) fun v7 s8 =>
              rz v7 <|
              some (v7, s8)
            else
            bd (f_X1_readHaze N a0 s0) fun v9 s10 =>
            rz v9 <|
            some (v9, s10)
          else
          bd (f_X1_readShip N a0 s0) fun v11 s12 =>
          rz v11 <|
          some (v11, s12)
        else
        bd (f_X1_readDark N a0 s0) fun v13 s14 =>
        rz v13 <|
        some (v13, s14)
      else
      bd (f_X1_readFrom N a0 s0) fun v15 s16 =>
      rz v15 <|
      some (v15, s16)
    else
    bd (f_X1_readFlash N a0 s0) fun v17 s18 =>
    rz v17 <|
    some (v17, s18)
  else
  bd (f_X1_readLight N a0 s0) fun v19 s20 =>
  rz v19 <|
  some (v19, s20)

theorem qX1_readLine_0 : Dc mX1_readLine 0 (.aload_n 1) 1 1 := ⟨by decide +kernel, rfl⟩
theorem qX1_readLine_1 : Dc mX1_readLine 1 (.getstatic 104) 3 4 := ⟨by decide +kernel, rfl⟩
theorem qX1_readLine_4 : Dc mX1_readLine 4 (.invokevirtual 110) 3 7 := ⟨by decide +kernel, rfl⟩
theorem qX1_readLine_7 : Dc mX1_readLine 7 (.ifCond .eq 9) 3 10 := ⟨by decide +kernel, rfl⟩
theorem qX1_readLine_10 : Dc mX1_readLine 10 (.aload_n 0) 1 11 := ⟨by decide +kernel, rfl⟩
theorem qX1_readLine_11 : Dc mX1_readLine 11 (.aload_n 1) 1 12 := ⟨by decide +kernel, rfl⟩
theorem qX1_readLine_12 : Dc mX1_readLine 12 (.invokevirtual 114) 3 15 := ⟨by decide +kernel, rfl⟩
theorem qX1_readLine_15 : Dc mX1_readLine 15 (.ireturn) 1 16 := ⟨by decide +kernel, rfl⟩
theorem qX1_readLine_16 : Dc mX1_readLine 16 (.aload_n 1) 1 17 := ⟨by decide +kernel, rfl⟩
theorem qX1_readLine_17 : Dc mX1_readLine 17 (.getstatic 117) 3 20 := ⟨by decide +kernel, rfl⟩
theorem qX1_readLine_20 : Dc mX1_readLine 20 (.invokevirtual 110) 3 23 := ⟨by decide +kernel, rfl⟩
theorem qX1_readLine_23 : Dc mX1_readLine 23 (.ifCond .eq 9) 3 26 := ⟨by decide +kernel, rfl⟩
theorem qX1_readLine_26 : Dc mX1_readLine 26 (.aload_n 0) 1 27 := ⟨by decide +kernel, rfl⟩
theorem qX1_readLine_27 : Dc mX1_readLine 27 (.aload_n 1) 1 28 := ⟨by decide +kernel, rfl⟩
theorem qX1_readLine_28 : Dc mX1_readLine 28 (.invokevirtual 120) 3 31 := ⟨by decide +kernel, rfl⟩
theorem qX1_readLine_31 : Dc mX1_readLine 31 (.ireturn) 1 32 := ⟨by decide +kernel, rfl⟩
theorem qX1_readLine_32 : Dc mX1_readLine 32 (.aload_n 1) 1 33 := ⟨by decide +kernel, rfl⟩
theorem qX1_readLine_33 : Dc mX1_readLine 33 (.getstatic 123) 3 36 := ⟨by decide +kernel, rfl⟩
theorem qX1_readLine_36 : Dc mX1_readLine 36 (.invokevirtual 110) 3 39 := ⟨by decide +kernel, rfl⟩
theorem qX1_readLine_39 : Dc mX1_readLine 39 (.ifCond .eq 9) 3 42 := ⟨by decide +kernel, rfl⟩
theorem qX1_readLine_42 : Dc mX1_readLine 42 (.aload_n 0) 1 43 := ⟨by decide +kernel, rfl⟩
theorem qX1_readLine_43 : Dc mX1_readLine 43 (.aload_n 1) 1 44 := ⟨by decide +kernel, rfl⟩
theorem qX1_readLine_44 : Dc mX1_readLine 44 (.invokevirtual 126) 3 47 := ⟨by decide +kernel, rfl⟩
theorem qX1_readLine_47 : Dc mX1_readLine 47 (.ireturn) 1 48 := ⟨by decide +kernel, rfl⟩
theorem qX1_readLine_48 : Dc mX1_readLine 48 (.aload_n 1) 1 49 := ⟨by decide +kernel, rfl⟩
theorem qX1_readLine_49 : Dc mX1_readLine 49 (.getstatic 129) 3 52 := ⟨by decide +kernel, rfl⟩
theorem qX1_readLine_52 : Dc mX1_readLine 52 (.invokevirtual 110) 3 55 := ⟨by decide +kernel, rfl⟩
theorem qX1_readLine_55 : Dc mX1_readLine 55 (.ifCond .eq 9) 3 58 := ⟨by decide +kernel, rfl⟩
theorem qX1_readLine_58 : Dc mX1_readLine 58 (.aload_n 0) 1 59 := ⟨by decide +kernel, rfl⟩
theorem qX1_readLine_59 : Dc mX1_readLine 59 (.aload_n 1) 1 60 := ⟨by decide +kernel, rfl⟩
theorem qX1_readLine_60 : Dc mX1_readLine 60 (.invokevirtual 132) 3 63 := ⟨by decide +kernel, rfl⟩
theorem qX1_readLine_63 : Dc mX1_readLine 63 (.ireturn) 1 64 := ⟨by decide +kernel, rfl⟩
theorem qX1_readLine_64 : Dc mX1_readLine 64 (.aload_n 1) 1 65 := ⟨by decide +kernel, rfl⟩
theorem qX1_readLine_65 : Dc mX1_readLine 65 (.getstatic 135) 3 68 := ⟨by decide +kernel, rfl⟩
theorem qX1_readLine_68 : Dc mX1_readLine 68 (.invokevirtual 110) 3 71 := ⟨by decide +kernel, rfl⟩
theorem qX1_readLine_71 : Dc mX1_readLine 71 (.ifCond .eq 9) 3 74 := ⟨by decide +kernel, rfl⟩
theorem qX1_readLine_74 : Dc mX1_readLine 74 (.aload_n 0) 1 75 := ⟨by decide +kernel, rfl⟩
theorem qX1_readLine_75 : Dc mX1_readLine 75 (.aload_n 1) 1 76 := ⟨by decide +kernel, rfl⟩
theorem qX1_readLine_76 : Dc mX1_readLine 76 (.invokevirtual 138) 3 79 := ⟨by decide +kernel, rfl⟩
theorem qX1_readLine_79 : Dc mX1_readLine 79 (.ireturn) 1 80 := ⟨by decide +kernel, rfl⟩
theorem qX1_readLine_80 : Dc mX1_readLine 80 (.aload_n 1) 1 81 := ⟨by decide +kernel, rfl⟩
theorem qX1_readLine_81 : Dc mX1_readLine 81 (.getstatic 141) 3 84 := ⟨by decide +kernel, rfl⟩
theorem qX1_readLine_84 : Dc mX1_readLine 84 (.invokevirtual 110) 3 87 := ⟨by decide +kernel, rfl⟩
theorem qX1_readLine_87 : Dc mX1_readLine 87 (.ifCond .eq 9) 3 90 := ⟨by decide +kernel, rfl⟩
theorem qX1_readLine_90 : Dc mX1_readLine 90 (.aload_n 0) 1 91 := ⟨by decide +kernel, rfl⟩
theorem qX1_readLine_91 : Dc mX1_readLine 91 (.aload_n 1) 1 92 := ⟨by decide +kernel, rfl⟩
theorem qX1_readLine_92 : Dc mX1_readLine 92 (.invokevirtual 144) 3 95 := ⟨by decide +kernel, rfl⟩
theorem qX1_readLine_95 : Dc mX1_readLine 95 (.ireturn) 1 96 := ⟨by decide +kernel, rfl⟩
theorem qX1_readLine_96 : Dc mX1_readLine 96 (.aload_n 1) 1 97 := ⟨by decide +kernel, rfl⟩
theorem qX1_readLine_97 : Dc mX1_readLine 97 (.iconst 1) 1 98 := ⟨by decide +kernel, rfl⟩
theorem qX1_readLine_98 : Dc mX1_readLine 98 (.invokevirtual 147) 3 101 := ⟨by decide +kernel, rfl⟩
theorem qX1_readLine_101 : Dc mX1_readLine 101 (.ireturn) 1 102 := ⟨by decide +kernel, rfl⟩

set_option maxRecDepth 20000 in
set_option maxHeartbeats 4000000 in
theorem w_X1_readLine {N : Nat} {a0 : Nat} {s0 : St} {r : Int32} {sr : St} (h_a0 : sh a0 = 1) (h : f_X1_readLine N a0 s0 = some (r, sr)) : Ct mX1_readLine 4 [.ref a0, .ref 1] s0 (some (.int r), sr) := by
  refine Ct.ofE (by decide +kernel) rfl ?_
  show E mX1_readLine 4 (some (.int r), sr) 0 [some (.ref a0), some (.ref 1)] [] s0
  unfold f_X1_readLine at h
  refine e_aload_n qX1_readLine_0 rfl ?_
  refine e_getsw (i := 0) qX1_readLine_1 (by decide) cg_X1_104 ?_
  obtain ⟨v1, hc, h⟩ := bp_e h
  refine e_cVi1 qX1_readLine_4 mv_X1_110 shq_1 rfl rfl (w_X9_is hc) ?_
  refine e_if_eq (tgt := 16) qX1_readLine_7 rfl h (fun _ h => ?_) (fun _ h => ?_)
  · refine e_aload_n qX1_readLine_16 rfl ?_
    refine e_getsw (i := 1) qX1_readLine_17 (by decide) cg_X1_117 ?_
    obtain ⟨v2, hc, h⟩ := bp_e h
    refine e_cVi1 qX1_readLine_20 mv_X1_110 shq_1 rfl rfl (w_X9_is hc) ?_
    refine e_if_eq (tgt := 32) qX1_readLine_23 rfl h (fun _ h => ?_) (fun _ h => ?_)
    · refine e_aload_n qX1_readLine_32 rfl ?_
      refine e_getsw (i := 2) qX1_readLine_33 (by decide) cg_X1_123 ?_
      obtain ⟨v3, hc, h⟩ := bp_e h
      refine e_cVi1 qX1_readLine_36 mv_X1_110 shq_1 rfl rfl (w_X9_is hc) ?_
      refine e_if_eq (tgt := 48) qX1_readLine_39 rfl h (fun _ h => ?_) (fun _ h => ?_)
      · refine e_aload_n qX1_readLine_48 rfl ?_
        refine e_getsw (i := 3) qX1_readLine_49 (by decide) cg_X1_129 ?_
        obtain ⟨v4, hc, h⟩ := bp_e h
        refine e_cVi1 qX1_readLine_52 mv_X1_110 shq_1 rfl rfl (w_X9_is hc) ?_
        refine e_if_eq (tgt := 64) qX1_readLine_55 rfl h (fun _ h => ?_) (fun _ h => ?_)
        · refine e_aload_n qX1_readLine_64 rfl ?_
          refine e_getsw (i := 4) qX1_readLine_65 (by decide) cg_X1_135 ?_
          obtain ⟨v5, hc, h⟩ := bp_e h
          refine e_cVi1 qX1_readLine_68 mv_X1_110 shq_1 rfl rfl (w_X9_is hc) ?_
          refine e_if_eq (tgt := 80) qX1_readLine_71 rfl h (fun _ h => ?_) (fun _ h => ?_)
          · refine e_aload_n qX1_readLine_80 rfl ?_
            refine e_getsw (i := 5) qX1_readLine_81 (by decide) cg_X1_141 ?_
            obtain ⟨v6, hc, h⟩ := bp_e h
            refine e_cVi1 qX1_readLine_84 mv_X1_110 shq_1 rfl rfl (w_X9_is hc) ?_
            refine e_if_eq (tgt := 96) qX1_readLine_87 rfl h (fun _ h => ?_) (fun _ h => ?_)
            · refine e_aload_n qX1_readLine_96 rfl ?_
              refine e_iconst (nI 1) qX1_readLine_97 rfl ?_
              obtain ⟨v7, s8, hc, h⟩ := bd_e h
              refine e_cVi1 qX1_readLine_98 mv_X1_147 shq_1 rfl rfl (w_X9_refuse hc) ?_
              refine rz_e h (fun hz h => ?_)
              exact e_zret qX1_readLine_101 rfl hz (ret_i h)
            refine e_aload_n qX1_readLine_90 rfl ?_
            refine e_aload_n qX1_readLine_91 rfl ?_
            obtain ⟨v9, s10, hc, h⟩ := bd_e h
            refine e_cVi1 qX1_readLine_92 mv_X1_144 h_a0 rfl rfl (w_X1_readHaze h_a0 hc) ?_
            refine rz_e h (fun hz h => ?_)
            exact e_zret qX1_readLine_95 rfl hz (ret_i h)
          refine e_aload_n qX1_readLine_74 rfl ?_
          refine e_aload_n qX1_readLine_75 rfl ?_
          obtain ⟨v11, s12, hc, h⟩ := bd_e h
          refine e_cVi1 qX1_readLine_76 mv_X1_138 h_a0 rfl rfl (w_X1_readShip h_a0 hc) ?_
          refine rz_e h (fun hz h => ?_)
          exact e_zret qX1_readLine_79 rfl hz (ret_i h)
        refine e_aload_n qX1_readLine_58 rfl ?_
        refine e_aload_n qX1_readLine_59 rfl ?_
        obtain ⟨v13, s14, hc, h⟩ := bd_e h
        refine e_cVi1 qX1_readLine_60 mv_X1_132 h_a0 rfl rfl (w_X1_readDark h_a0 hc) ?_
        refine rz_e h (fun hz h => ?_)
        exact e_zret qX1_readLine_63 rfl hz (ret_i h)
      refine e_aload_n qX1_readLine_42 rfl ?_
      refine e_aload_n qX1_readLine_43 rfl ?_
      obtain ⟨v15, s16, hc, h⟩ := bd_e h
      refine e_cVi1 qX1_readLine_44 mv_X1_126 h_a0 rfl rfl (w_X1_readFrom h_a0 hc) ?_
      refine rz_e h (fun hz h => ?_)
      exact e_zret qX1_readLine_47 rfl hz (ret_i h)
    refine e_aload_n qX1_readLine_26 rfl ?_
    refine e_aload_n qX1_readLine_27 rfl ?_
    obtain ⟨v17, s18, hc, h⟩ := bd_e h
    refine e_cVi1 qX1_readLine_28 mv_X1_120 h_a0 rfl rfl (w_X1_readFlash h_a0 hc) ?_
    refine rz_e h (fun hz h => ?_)
    exact e_zret qX1_readLine_31 rfl hz (ret_i h)
  refine e_aload_n qX1_readLine_10 rfl ?_
  refine e_aload_n qX1_readLine_11 rfl ?_
  obtain ⟨v19, s20, hc, h⟩ := bd_e h
  refine e_cVi1 qX1_readLine_12 mv_X1_114 h_a0 rfl rfl (w_X1_readLight h_a0 hc) ?_
  refine rz_e h (fun hz h => ?_)
  exact e_zret qX1_readLine_15 rfl hz (ret_i h)
