def f_X11_restore (N : Nat) (x1 : Int32) (s0 : St) : Option (Int32 × St) :=
  if x1 < 0 then
    some ((nI 0), s0)
  else
  if (nI 2) ≤ x1 then
    some ((nI 0), s0)
  else
  ald (rr 132) 2 x1 fun v1 =>
  vl (s0.1 v1 3) fun v3 =>
  if v3 = 0 then
    some ((nI 0), s0)
  else
  ald (rr 132) 2 x1 fun v4 =>
  bp (f_X1_copyFrom N 3 (rr v4 0) s0) fun s6 =>
  ald (rr 132) 2 x1 fun v7 =>
  bp (f_X6_copyFrom 49 (rr v7 1) s6) fun s9 =>
  ald (rr 132) 2 x1 fun v10 =>
  bp (f_X7_copyFrom 61 (rr v10 2) s9) fun s12 =>
  bp (f_X5_clear s12) fun s13 =>
  some ((nI 1), s13)

theorem qX11_restore_0 : Dc mX11_restore 0 (.iload_n 1) 1 1 := ⟨by decide +kernel, rfl⟩
theorem qX11_restore_1 : Dc mX11_restore 1 (.ifCond .lt 20) 3 4 := ⟨by decide +kernel, rfl⟩
theorem qX11_restore_4 : Dc mX11_restore 4 (.iload_n 1) 1 5 := ⟨by decide +kernel, rfl⟩
theorem qX11_restore_5 : Dc mX11_restore 5 (.iconst 2) 1 6 := ⟨by decide +kernel, rfl⟩
theorem qX11_restore_6 : Dc mX11_restore 6 (.if_icmp .ge 15) 3 9 := ⟨by decide +kernel, rfl⟩
theorem qX11_restore_9 : Dc mX11_restore 9 (.aload_n 0) 1 10 := ⟨by decide +kernel, rfl⟩
theorem qX11_restore_10 : Dc mX11_restore 10 (.getfield 71) 3 13 := ⟨by decide +kernel, rfl⟩
theorem qX11_restore_13 : Dc mX11_restore 13 (.iload_n 1) 1 14 := ⟨by decide +kernel, rfl⟩
theorem qX11_restore_14 : Dc mX11_restore 14 (.aaload) 1 15 := ⟨by decide +kernel, rfl⟩
theorem qX11_restore_15 : Dc mX11_restore 15 (.getfield 386) 3 18 := ⟨by decide +kernel, rfl⟩
theorem qX11_restore_18 : Dc mX11_restore 18 (.ifCond .ne 5) 3 21 := ⟨by decide +kernel, rfl⟩
theorem qX11_restore_21 : Dc mX11_restore 21 (.iconst 0) 1 22 := ⟨by decide +kernel, rfl⟩
theorem qX11_restore_22 : Dc mX11_restore 22 (.ireturn) 1 23 := ⟨by decide +kernel, rfl⟩
theorem qX11_restore_23 : Dc mX11_restore 23 (.aload_n 0) 1 24 := ⟨by decide +kernel, rfl⟩
theorem qX11_restore_24 : Dc mX11_restore 24 (.getfield 19) 3 27 := ⟨by decide +kernel, rfl⟩
theorem qX11_restore_27 : Dc mX11_restore 27 (.aload_n 0) 1 28 := ⟨by decide +kernel, rfl⟩
theorem qX11_restore_28 : Dc mX11_restore 28 (.getfield 71) 3 31 := ⟨by decide +kernel, rfl⟩
theorem qX11_restore_31 : Dc mX11_restore 31 (.iload_n 1) 1 32 := ⟨by decide +kernel, rfl⟩
theorem qX11_restore_32 : Dc mX11_restore 32 (.aaload) 1 33 := ⟨by decide +kernel, rfl⟩
theorem qX11_restore_33 : Dc mX11_restore 33 (.getfield 383) 3 36 := ⟨by decide +kernel, rfl⟩
theorem qX11_restore_36 : Dc mX11_restore 36 (.invokevirtual 119) 3 39 := ⟨by decide +kernel, rfl⟩
theorem qX11_restore_39 : Dc mX11_restore 39 (.aload_n 0) 1 40 := ⟨by decide +kernel, rfl⟩
theorem qX11_restore_40 : Dc mX11_restore 40 (.getfield 31) 3 43 := ⟨by decide +kernel, rfl⟩
theorem qX11_restore_43 : Dc mX11_restore 43 (.aload_n 0) 1 44 := ⟨by decide +kernel, rfl⟩
theorem qX11_restore_44 : Dc mX11_restore 44 (.getfield 71) 3 47 := ⟨by decide +kernel, rfl⟩
theorem qX11_restore_47 : Dc mX11_restore 47 (.iload_n 1) 1 48 := ⟨by decide +kernel, rfl⟩
theorem qX11_restore_48 : Dc mX11_restore 48 (.aaload) 1 49 := ⟨by decide +kernel, rfl⟩
theorem qX11_restore_49 : Dc mX11_restore 49 (.getfield 384) 3 52 := ⟨by decide +kernel, rfl⟩
theorem qX11_restore_52 : Dc mX11_restore 52 (.invokevirtual 320) 3 55 := ⟨by decide +kernel, rfl⟩
theorem qX11_restore_55 : Dc mX11_restore 55 (.aload_n 0) 1 56 := ⟨by decide +kernel, rfl⟩
theorem qX11_restore_56 : Dc mX11_restore 56 (.getfield 41) 3 59 := ⟨by decide +kernel, rfl⟩
theorem qX11_restore_59 : Dc mX11_restore 59 (.aload_n 0) 1 60 := ⟨by decide +kernel, rfl⟩
theorem qX11_restore_60 : Dc mX11_restore 60 (.getfield 71) 3 63 := ⟨by decide +kernel, rfl⟩
theorem qX11_restore_63 : Dc mX11_restore 63 (.iload_n 1) 1 64 := ⟨by decide +kernel, rfl⟩
theorem qX11_restore_64 : Dc mX11_restore 64 (.aaload) 1 65 := ⟨by decide +kernel, rfl⟩
theorem qX11_restore_65 : Dc mX11_restore 65 (.getfield 385) 3 68 := ⟨by decide +kernel, rfl⟩
theorem qX11_restore_68 : Dc mX11_restore 68 (.invokevirtual 371) 3 71 := ⟨by decide +kernel, rfl⟩
theorem qX11_restore_71 : Dc mX11_restore 71 (.aload_n 0) 1 72 := ⟨by decide +kernel, rfl⟩
theorem qX11_restore_72 : Dc mX11_restore 72 (.getfield 58) 3 75 := ⟨by decide +kernel, rfl⟩
theorem qX11_restore_75 : Dc mX11_restore 75 (.invokevirtual 128) 3 78 := ⟨by decide +kernel, rfl⟩
theorem qX11_restore_78 : Dc mX11_restore 78 (.iconst 1) 1 79 := ⟨by decide +kernel, rfl⟩
theorem qX11_restore_79 : Dc mX11_restore 79 (.ireturn) 1 80 := ⟨by decide +kernel, rfl⟩

set_option maxRecDepth 20000 in
set_option maxHeartbeats 4000000 in
theorem w_X11_restore {N : Nat} {x1 : Int32} {s0 : St} {r : Int32} {sr : St} (h : f_X11_restore N x1 s0 = some (r, sr)) : Ct mX11_restore 5 [.ref 0, .int x1] s0 (some (.int r), sr) := by
  refine Ct.ofE (by decide +kernel) rfl ?_
  show E mX11_restore 5 (some (.int r), sr) 0 [some (.ref 0), some (.int x1)] [] s0
  unfold f_X11_restore at h
  refine e_iload_n qX11_restore_0 rfl ?_
  refine e_if_lt (tgt := 21) qX11_restore_1 rfl h (fun _ h => ?_) (fun _ h => ?_)
  · refine e_iconst (nI 0) qX11_restore_21 rfl ?_
    exact e_zret qX11_restore_22 rfl (by decide) (ret_i h)
  refine e_iload_n qX11_restore_4 rfl ?_
  refine e_iconst (nI 2) qX11_restore_5 rfl ?_
  refine e_icmp_ge (tgt := 21) qX11_restore_6 rfl h (fun _ h => ?_) (fun _ h => ?_)
  · refine e_iconst (nI 0) qX11_restore_21 rfl ?_
    exact e_zret qX11_restore_22 rfl (by decide) (ret_i h)
  refine e_aload_n qX11_restore_9 rfl ?_
  refine e_getr 132 qX11_restore_10 fl_X11_71 shq_0 kdq_10_10 rrq_0_10 ?_
  refine e_iload_n qX11_restore_13 rfl ?_
  refine e_rald27 qX11_restore_14 shq_132 lnq_132 h (fun i2 hi2 h => ?_)
  refine e_geti qX11_restore_15 fl_X11_386 (we_27 _ shq_132 _ hi2) kdq_3_3 h (fun v3 h => ?_)
  refine e_if_ne (tgt := 23) qX11_restore_18 rfl h (fun _ h => ?_) (fun _ h => ?_)
  · refine e_iconst (nI 0) qX11_restore_21 rfl ?_
    exact e_zret qX11_restore_22 rfl (by decide) (ret_i h)
  refine e_aload_n qX11_restore_23 rfl ?_
  refine e_getr 3 qX11_restore_24 fl_X11_19 shq_0 kdq_10_1 rrq_0_1 ?_
  refine e_aload_n qX11_restore_27 rfl ?_
  refine e_getr 132 qX11_restore_28 fl_X11_71 shq_0 kdq_10_10 rrq_0_10 ?_
  refine e_iload_n qX11_restore_31 rfl ?_
  refine e_rald27 qX11_restore_32 shq_132 lnq_132 h (fun i5 hi5 h => ?_)
  refine e_getr (rr (rr 132 i5) 0) qX11_restore_33 fl_X11_383 (we_27 _ shq_132 _ hi5) kdq_3_0 rfl ?_
  obtain ⟨s6, hc, h⟩ := bp_e h
  refine e_cVv1 qX11_restore_36 mv_X11_119 shq_3 rfl rfl (w_X1_copyFrom shq_3 (wto_3_0 _ (we_27 _ shq_132 _ hi5)) hc) ?_
  refine e_aload_n qX11_restore_39 rfl ?_
  refine e_getr 49 qX11_restore_40 fl_X11_31 shq_0 kdq_10_3 rrq_0_3 ?_
  refine e_aload_n qX11_restore_43 rfl ?_
  refine e_getr 132 qX11_restore_44 fl_X11_71 shq_0 kdq_10_10 rrq_0_10 ?_
  refine e_iload_n qX11_restore_47 rfl ?_
  refine e_rald27 qX11_restore_48 shq_132 lnq_132 h (fun i8 hi8 h => ?_)
  refine e_getr (rr (rr 132 i8) 1) qX11_restore_49 fl_X11_384 (we_27 _ shq_132 _ hi8) kdq_3_1 rfl ?_
  obtain ⟨s9, hc, h⟩ := bp_e h
  refine e_cVv1 qX11_restore_52 mv_X11_320 shq_49 rfl rfl (w_X6_copyFrom shq_49 (wto_3_1 _ (we_27 _ shq_132 _ hi8)) hc) ?_
  refine e_aload_n qX11_restore_55 rfl ?_
  refine e_getr 61 qX11_restore_56 fl_X11_41 shq_0 kdq_10_5 rrq_0_5 ?_
  refine e_aload_n qX11_restore_59 rfl ?_
  refine e_getr 132 qX11_restore_60 fl_X11_71 shq_0 kdq_10_10 rrq_0_10 ?_
  refine e_iload_n qX11_restore_63 rfl ?_
  refine e_rald27 qX11_restore_64 shq_132 lnq_132 h (fun i11 hi11 h => ?_)
  refine e_getr (rr (rr 132 i11) 2) qX11_restore_65 fl_X11_385 (we_27 _ shq_132 _ hi11) kdq_3_2 rfl ?_
  obtain ⟨s12, hc, h⟩ := bp_e h
  refine e_cVv1 qX11_restore_68 mv_X11_371 shq_61 rfl rfl (w_X7_copyFrom shq_61 (wto_3_2 _ (we_27 _ shq_132 _ hi11)) hc) ?_
  refine e_aload_n qX11_restore_71 rfl ?_
  refine e_getr 75 qX11_restore_72 fl_X11_58 shq_0 kdq_10_8 rrq_0_8 ?_
  obtain ⟨s13, hc, h⟩ := bp_e h
  refine e_cVv0 qX11_restore_75 mv_X11_128 shq_75 rfl rfl (w_X5_clear hc) ?_
  refine e_iconst (nI 1) qX11_restore_78 rfl ?_
  exact e_zret qX11_restore_79 rfl (by decide) (ret_i h)

def f_X11_mostLeft_L15 (N : Nat) (c6 : Int32) (c7 : Int32) (c8 : Int32) (s0 : St) (k11 : Int32 → Option (Int32)) : Nat → Int32 → Int32 → Option (Int32)
  | 0, _, _ => none
  | n13 + 1, v9, v10 =>
    vl (s0.1 3 2) fun v15 =>
    if v15 ≤ v10 then
      k11 v9
    else
    ald (s0.1 133) 8 v10 fun v16 =>
    jn (fun (v17 : Int32) =>
      vl (v10 + (nI 1)) fun v19 =>
      f_X11_mostLeft_L15 N c6 c7 c8 s0 k11 n13 v17 v19) fun j18 =>
    if v16 = (-1) then
      j18 v9
    else
    ald (rr 4) 8 v10 fun v20 =>
    vl (s0.1 1 1) fun v22 =>
    bp (f_X4_shownAt v20 ((v16 + v22) + c6) s0) fun v23 =>
    if v23 = c8 then
      vl (v9 + (nI 1)) fun v24 =>
      j18 v24
    else
    j18 v9

def f_X11_mostLeft_L4 (N : Nat) (c1 : Int32) (s0 : St) : Nat → Int32 → Int32 → Option (Int32)
  | 0, _, _ => none
  | n4 + 1, v2, v3 =>
    if (nI 3) < v3 then
      some v2
    else
    f_X11_mostLeft_L15 N c1 v2 v3 s0 (fun (v25 : Int32) =>
      vl (mx v2 v25) fun v26 =>
      vl (v3 + (nI 1)) fun v27 =>
      f_X11_mostLeft_L4 N c1 s0 n4 v26 v27) N (nI 0) (nI 0)

def f_X11_mostLeft (N : Nat) (x1 : Int32) (s0 : St) : Option (Int32) :=
  f_X11_mostLeft_L4 N x1 s0 N (nI 0) (nI 0)

theorem qX11_mostLeft_0 : Dc mX11_mostLeft 0 (.iconst 0) 1 1 := ⟨by decide +kernel, rfl⟩
theorem qX11_mostLeft_1 : Dc mX11_mostLeft 1 (.istore_n 2) 1 2 := ⟨by decide +kernel, rfl⟩
theorem qX11_mostLeft_2 : Dc mX11_mostLeft 2 (.iconst 0) 1 3 := ⟨by decide +kernel, rfl⟩
theorem qX11_mostLeft_3 : Dc mX11_mostLeft 3 (.istore_n 3) 1 4 := ⟨by decide +kernel, rfl⟩
theorem qX11_mostLeft_4 : Dc mX11_mostLeft 4 (.iload_n 3) 1 5 := ⟨by decide +kernel, rfl⟩
theorem qX11_mostLeft_5 : Dc mX11_mostLeft 5 (.iconst 3) 1 6 := ⟨by decide +kernel, rfl⟩
theorem qX11_mostLeft_6 : Dc mX11_mostLeft 6 (.if_icmp .gt 87) 3 9 := ⟨by decide +kernel, rfl⟩
theorem qX11_mostLeft_9 : Dc mX11_mostLeft 9 (.iconst 0) 1 10 := ⟨by decide +kernel, rfl⟩
theorem qX11_mostLeft_10 : Dc mX11_mostLeft 10 (.istore 4) 2 12 := ⟨by decide +kernel, rfl⟩
theorem qX11_mostLeft_12 : Dc mX11_mostLeft 12 (.iconst 0) 1 13 := ⟨by decide +kernel, rfl⟩
theorem qX11_mostLeft_13 : Dc mX11_mostLeft 13 (.istore 5) 2 15 := ⟨by decide +kernel, rfl⟩
theorem qX11_mostLeft_15 : Dc mX11_mostLeft 15 (.iload 5) 2 17 := ⟨by decide +kernel, rfl⟩
theorem qX11_mostLeft_17 : Dc mX11_mostLeft 17 (.aload_n 0) 1 18 := ⟨by decide +kernel, rfl⟩
theorem qX11_mostLeft_18 : Dc mX11_mostLeft 18 (.getfield 19) 3 21 := ⟨by decide +kernel, rfl⟩
theorem qX11_mostLeft_21 : Dc mX11_mostLeft 21 (.getfield 314) 3 24 := ⟨by decide +kernel, rfl⟩
theorem qX11_mostLeft_24 : Dc mX11_mostLeft 24 (.if_icmp .ge 56) 3 27 := ⟨by decide +kernel, rfl⟩
theorem qX11_mostLeft_27 : Dc mX11_mostLeft 27 (.aload_n 0) 1 28 := ⟨by decide +kernel, rfl⟩
theorem qX11_mostLeft_28 : Dc mX11_mostLeft 28 (.getfield 75) 3 31 := ⟨by decide +kernel, rfl⟩
theorem qX11_mostLeft_31 : Dc mX11_mostLeft 31 (.iload 5) 2 33 := ⟨by decide +kernel, rfl⟩
theorem qX11_mostLeft_33 : Dc mX11_mostLeft 33 (.iaload) 1 34 := ⟨by decide +kernel, rfl⟩
theorem qX11_mostLeft_34 : Dc mX11_mostLeft 34 (.istore 6) 2 36 := ⟨by decide +kernel, rfl⟩
theorem qX11_mostLeft_36 : Dc mX11_mostLeft 36 (.iload 6) 2 38 := ⟨by decide +kernel, rfl⟩
theorem qX11_mostLeft_38 : Dc mX11_mostLeft 38 (.iconst (-1)) 1 39 := ⟨by decide +kernel, rfl⟩
theorem qX11_mostLeft_39 : Dc mX11_mostLeft 39 (.if_icmp .eq 35) 3 42 := ⟨by decide +kernel, rfl⟩
theorem qX11_mostLeft_42 : Dc mX11_mostLeft 42 (.aload_n 0) 1 43 := ⟨by decide +kernel, rfl⟩
theorem qX11_mostLeft_43 : Dc mX11_mostLeft 43 (.getfield 19) 3 46 := ⟨by decide +kernel, rfl⟩
theorem qX11_mostLeft_46 : Dc mX11_mostLeft 46 (.getfield 142) 3 49 := ⟨by decide +kernel, rfl⟩
theorem qX11_mostLeft_49 : Dc mX11_mostLeft 49 (.iload 5) 2 51 := ⟨by decide +kernel, rfl⟩
theorem qX11_mostLeft_51 : Dc mX11_mostLeft 51 (.aaload) 1 52 := ⟨by decide +kernel, rfl⟩
theorem qX11_mostLeft_52 : Dc mX11_mostLeft 52 (.iload 6) 2 54 := ⟨by decide +kernel, rfl⟩
theorem qX11_mostLeft_54 : Dc mX11_mostLeft 54 (.aload_n 0) 1 55 := ⟨by decide +kernel, rfl⟩
theorem qX11_mostLeft_55 : Dc mX11_mostLeft 55 (.getfield 12) 3 58 := ⟨by decide +kernel, rfl⟩
theorem qX11_mostLeft_58 : Dc mX11_mostLeft 58 (.getfield 102) 3 61 := ⟨by decide +kernel, rfl⟩
theorem qX11_mostLeft_61 : Dc mX11_mostLeft 61 (.iadd) 1 62 := ⟨by decide +kernel, rfl⟩
theorem qX11_mostLeft_62 : Dc mX11_mostLeft 62 (.iload_n 1) 1 63 := ⟨by decide +kernel, rfl⟩
theorem qX11_mostLeft_63 : Dc mX11_mostLeft 63 (.iadd) 1 64 := ⟨by decide +kernel, rfl⟩
theorem qX11_mostLeft_64 : Dc mX11_mostLeft 64 (.invokevirtual 406) 3 67 := ⟨by decide +kernel, rfl⟩
theorem qX11_mostLeft_67 : Dc mX11_mostLeft 67 (.iload_n 3) 1 68 := ⟨by decide +kernel, rfl⟩
theorem qX11_mostLeft_68 : Dc mX11_mostLeft 68 (.if_icmp .ne 6) 3 71 := ⟨by decide +kernel, rfl⟩
theorem qX11_mostLeft_71 : Dc mX11_mostLeft 71 (.iinc 4 1) 3 74 := ⟨by decide +kernel, rfl⟩
theorem qX11_mostLeft_74 : Dc mX11_mostLeft 74 (.iinc 5 1) 3 77 := ⟨by decide +kernel, rfl⟩
theorem qX11_mostLeft_77 : Dc mX11_mostLeft 77 (.goto (-62)) 3 80 := ⟨by decide +kernel, rfl⟩
theorem qX11_mostLeft_80 : Dc mX11_mostLeft 80 (.iload_n 2) 1 81 := ⟨by decide +kernel, rfl⟩
theorem qX11_mostLeft_81 : Dc mX11_mostLeft 81 (.iload 4) 2 83 := ⟨by decide +kernel, rfl⟩
theorem qX11_mostLeft_83 : Dc mX11_mostLeft 83 (.invokestatic 287) 3 86 := ⟨by decide +kernel, rfl⟩
theorem qX11_mostLeft_86 : Dc mX11_mostLeft 86 (.istore_n 2) 1 87 := ⟨by decide +kernel, rfl⟩
theorem qX11_mostLeft_87 : Dc mX11_mostLeft 87 (.iinc 3 1) 3 90 := ⟨by decide +kernel, rfl⟩
theorem qX11_mostLeft_90 : Dc mX11_mostLeft 90 (.goto (-86)) 3 93 := ⟨by decide +kernel, rfl⟩
theorem qX11_mostLeft_93 : Dc mX11_mostLeft 93 (.iload_n 2) 1 94 := ⟨by decide +kernel, rfl⟩
theorem qX11_mostLeft_94 : Dc mX11_mostLeft 94 (.ireturn) 1 95 := ⟨by decide +kernel, rfl⟩

set_option maxRecDepth 20000 in
set_option maxHeartbeats 4000000 in
theorem w_X11_mostLeft_L15 {N : Nat} {c6 : Int32} {c7 : Int32} {c8 : Int32} {s0 : St} {k11 : Int32 → Option (Int32)} {r : Int32}  (hk11 : ∀ (v12 : Int32), k11 v12 = some r → E mX11_mostLeft 2 (some (.int r), s0) 80 [some (.ref 0), some (.int c6), some (.int c7), some (.int c8), some (.int v12), none, none] [] s0) : ∀ (n13 : Nat) (v9 : Int32) (v10 : Int32), f_X11_mostLeft_L15 N c6 c7 c8 s0 k11 n13 v9 v10 = some r → E mX11_mostLeft 2 (some (.int r), s0) 15 [some (.ref 0), some (.int c6), some (.int c7), some (.int c8), some (.int v9), some (.int v10), none] [] s0 := by
  intro n13
  induction n13 with
  | zero =>
    intro v9 v10 h
    rw [f_X11_mostLeft_L15] at h; cases h
  | succ n13 ih14 =>
    intro v9 v10 h
    rw [f_X11_mostLeft_L15] at h
    refine e_iload qX11_mostLeft_15 rfl ?_
    refine e_aload_n qX11_mostLeft_17 rfl ?_
    refine e_getr 3 qX11_mostLeft_18 fl_X11_19 shq_0 kdq_10_1 rrq_0_1 ?_
    refine e_geti qX11_mostLeft_21 fl_X11_314 shq_3 kdq_1_2 h (fun v15 h => ?_)
    refine e_icmp_ge (tgt := 80) qX11_mostLeft_24 rfl h (fun _ h => ?_) (fun _ h => ?_)
    · exact e_weak (hk11 _ h) ⟨Or.inr rfl, Or.inr rfl, Or.inr rfl, Or.inr rfl, Or.inr rfl, Or.inl rfl, Or.inl rfl, trivial⟩
    refine e_aload_n qX11_mostLeft_27 rfl ?_
    refine e_getr 133 qX11_mostLeft_28 fl_X11_75 shq_0 kdq_10_11 rrq_0_11 ?_
    refine e_iload qX11_mostLeft_31 rfl ?_
    refine e_iald qX11_mostLeft_33 shq_133 lnq_133 h (fun v16 h => ?_)
    refine e_istore (lv2 := [some (.ref 0), some (.int c6), some (.int c7), some (.int c8), some (.int v9), some (.int v10), some (.int v16)]) qX11_mostLeft_34 rfl rfl rfl ?_
    refine e_iload qX11_mostLeft_36 rfl ?_
    refine e_iconst (-1) qX11_mostLeft_38 rfl ?_
    refine jn_e (fun j => ∀ (v17 : Int32), j v17 = some r → E mX11_mostLeft 2 (some (.int r), s0) 74 [some (.ref 0), some (.int c6), some (.int c7), some (.int c8), some (.int v17), some (.int v10), none] [] s0) h ?_ (fun j18 hj18 h => ?_)
    · intro v17 h
      refine vl_e h (fun h => ?_)
      obtain ⟨v19, ev19⟩ : ∃ y, v10 + (nI 1) = y := ⟨_, rfl⟩
      rw [ev19] at h
      refine e_iinc (nI 1) v19 (lv2 := [some (.ref 0), some (.int c6), some (.int c7), some (.int c8), some (.int v17), some (.int v19), none]) qX11_mostLeft_74 rfl rfl rfl ev19 rfl ?_
      refine e_goto (tgt := 15) qX11_mostLeft_77 rfl ?_
      exact e_weak (ih14 _ _ h) ⟨Or.inr rfl, Or.inr rfl, Or.inr rfl, Or.inr rfl, Or.inr rfl, Or.inr rfl, Or.inl rfl, trivial⟩
    refine e_icmp_eq (tgt := 74) qX11_mostLeft_39 rfl h (fun _ h => ?_) (fun _ h => ?_)
    · exact e_weak (hj18 _ h) ⟨Or.inr rfl, Or.inr rfl, Or.inr rfl, Or.inr rfl, Or.inr rfl, Or.inr rfl, Or.inl rfl, trivial⟩
    refine e_aload_n qX11_mostLeft_42 rfl ?_
    refine e_getr 3 qX11_mostLeft_43 fl_X11_19 shq_0 kdq_10_1 rrq_0_1 ?_
    refine e_getr 4 qX11_mostLeft_46 fl_X11_142 shq_3 kdq_1_0 rrq_3_0 ?_
    refine e_iload qX11_mostLeft_49 rfl ?_
    refine e_rald24 qX11_mostLeft_51 shq_4 lnq_4 h (fun i21 hi21 h => ?_)
    refine e_iload qX11_mostLeft_52 rfl ?_
    refine e_aload_n qX11_mostLeft_54 rfl ?_
    refine e_getr 1 qX11_mostLeft_55 fl_X11_12 shq_0 kdq_10_0 rrq_0_0 ?_
    refine e_geti qX11_mostLeft_58 fl_X11_102 shq_1 kdq_9_1 h (fun v22 h => ?_)
    refine e_iadd qX11_mostLeft_61 ?_
    refine e_iload_n qX11_mostLeft_62 rfl ?_
    refine e_iadd qX11_mostLeft_63 ?_
    obtain ⟨v23, hc, h⟩ := bp_e h
    refine e_cVi1 qX11_mostLeft_64 mv_X11_406 (we_24 _ shq_4 _ hi21) rfl rfl (w_X4_shownAt (we_24 _ shq_4 _ hi21) hc) ?_
    refine e_iload_n qX11_mostLeft_67 rfl ?_
    refine e_icmp_ne (tgt := 74) qX11_mostLeft_68 rfl h (fun _ h => ?_) (fun _ h => ?_)
    · refine vl_e h (fun h => ?_)
      obtain ⟨v24, ev24⟩ : ∃ y, v9 + (nI 1) = y := ⟨_, rfl⟩
      rw [ev24] at h
      refine e_iinc (nI 1) v24 (lv2 := [some (.ref 0), some (.int c6), some (.int c7), some (.int c8), some (.int v24), some (.int v10), some (.int v16)]) qX11_mostLeft_71 rfl rfl rfl ev24 rfl ?_
      exact e_weak (hj18 _ h) ⟨Or.inr rfl, Or.inr rfl, Or.inr rfl, Or.inr rfl, Or.inr rfl, Or.inr rfl, Or.inl rfl, trivial⟩
    exact e_weak (hj18 _ h) ⟨Or.inr rfl, Or.inr rfl, Or.inr rfl, Or.inr rfl, Or.inr rfl, Or.inr rfl, Or.inl rfl, trivial⟩

set_option maxRecDepth 20000 in
set_option maxHeartbeats 4000000 in
theorem w_X11_mostLeft_L4 {N : Nat} {c1 : Int32} {s0 : St}  {r : Int32}   : ∀ (n4 : Nat) (v2 : Int32) (v3 : Int32), f_X11_mostLeft_L4 N c1 s0 n4 v2 v3 = some r → E mX11_mostLeft 2 (some (.int r), s0) 4 [some (.ref 0), some (.int c1), some (.int v2), some (.int v3), none, none, none] [] s0 := by
  intro n4
  induction n4 with
  | zero =>
    intro v2 v3 h
    rw [f_X11_mostLeft_L4] at h; cases h
  | succ n4 ih5 =>
    intro v2 v3 h
    rw [f_X11_mostLeft_L4] at h
    refine e_iload_n qX11_mostLeft_4 rfl ?_
    refine e_iconst (nI 3) qX11_mostLeft_5 rfl ?_
    refine e_icmp_gt (tgt := 93) qX11_mostLeft_6 rfl h (fun _ h => ?_) (fun _ h => ?_)
    · refine e_iload_n qX11_mostLeft_93 rfl ?_
      exact e_iret qX11_mostLeft_94 rfl (ret_p h)
    refine e_iconst (nI 0) qX11_mostLeft_9 rfl ?_
    refine e_istore (lv2 := [some (.ref 0), some (.int c1), some (.int v2), some (.int v3), some (.int (nI 0)), none, none]) qX11_mostLeft_10 rfl rfl rfl ?_
    refine e_iconst (nI 0) qX11_mostLeft_12 rfl ?_
    refine e_istore (lv2 := [some (.ref 0), some (.int c1), some (.int v2), some (.int v3), some (.int (nI 0)), some (.int (nI 0)), none]) qX11_mostLeft_13 rfl rfl rfl ?_
    refine e_weak (w_X11_mostLeft_L15 (fun v25 h => ?_) _ _ _ h) ⟨Or.inr rfl, Or.inr rfl, Or.inr rfl, Or.inr rfl, Or.inr rfl, Or.inr rfl, Or.inl rfl, trivial⟩
    refine e_iload_n qX11_mostLeft_80 rfl ?_
    refine e_iload qX11_mostLeft_81 rfl ?_
    refine e_mmax qX11_mostLeft_83 cm_X11_287 (by decide) rfl h (fun v26 h => ?_)
    refine e_istore_n (lv2 := [some (.ref 0), some (.int c1), some (.int v26), some (.int v3), some (.int v25), none, none]) qX11_mostLeft_86 rfl rfl rfl ?_
    refine vl_e h (fun h => ?_)
    obtain ⟨v27, ev27⟩ : ∃ y, v3 + (nI 1) = y := ⟨_, rfl⟩
    rw [ev27] at h
    refine e_iinc (nI 1) v27 (lv2 := [some (.ref 0), some (.int c1), some (.int v26), some (.int v27), some (.int v25), none, none]) qX11_mostLeft_87 rfl rfl rfl ev27 rfl ?_
    refine e_goto (tgt := 4) qX11_mostLeft_90 rfl ?_
    exact e_weak (ih5 _ _ h) ⟨Or.inr rfl, Or.inr rfl, Or.inr rfl, Or.inr rfl, Or.inl rfl, Or.inl rfl, Or.inl rfl, trivial⟩

set_option maxRecDepth 20000 in
set_option maxHeartbeats 4000000 in
theorem w_X11_mostLeft {N : Nat} {x1 : Int32} {s0 : St} {r : Int32} (h : f_X11_mostLeft N x1 s0 = some r) : Ct mX11_mostLeft 2 [.ref 0, .int x1] s0 (some (.int r), s0) := by
  refine Ct.ofE (by decide +kernel) rfl ?_
  show E mX11_mostLeft 2 (some (.int r), s0) 0 [some (.ref 0), some (.int x1), none, none, none, none, none] [] s0
  unfold f_X11_mostLeft at h
  refine e_iconst (nI 0) qX11_mostLeft_0 rfl ?_
  refine e_istore_n (lv2 := [some (.ref 0), some (.int x1), some (.int (nI 0)), none, none, none, none]) qX11_mostLeft_1 rfl rfl rfl ?_
  refine e_iconst (nI 0) qX11_mostLeft_2 rfl ?_
  refine e_istore_n (lv2 := [some (.ref 0), some (.int x1), some (.int (nI 0)), some (.int (nI 0)), none, none, none]) qX11_mostLeft_3 rfl rfl rfl ?_
  exact e_weak (w_X11_mostLeft_L4  _ _ _ h) ⟨Or.inr rfl, Or.inr rfl, Or.inr rfl, Or.inr rfl, Or.inl rfl, Or.inl rfl, Or.inl rfl, trivial⟩

def f_X12_feed (N : Nat) (x1 : Int32) (x2 : Int32) (x3 : Int32) (x4 : Int32) (x5 : Int32) (s0 : St) : Option (Int32 × St) :=
  vl (sI s0 206 0 (nI 0)) fun s1 =>
  vl (s1.1 206 2) fun v2 =>
  if (v2 + (nI 20)) ≤ (nI 940) then
    bp (f_X12_four N x1 s1) fun s3 =>
    bp (f_X12_four N x2 s3) fun s4 =>
    bp (f_X12_four N x3 s4) fun s5 =>
    bp (f_X12_four N x4 s5) fun s6 =>
    bp (f_X12_four N x5 s6) fun s7 =>
    vl (s7.1 206 2) fun v8 =>
    some (v8, s7)
  else
  some ((-1), s1)

theorem qX12_feed_0 : Dc mX12_feed 0 (.aload_n 0) 1 1 := ⟨by decide +kernel, rfl⟩
theorem qX12_feed_1 : Dc mX12_feed 1 (.iconst 0) 1 2 := ⟨by decide +kernel, rfl⟩
theorem qX12_feed_2 : Dc mX12_feed 2 (.putfield 1) 3 5 := ⟨by decide +kernel, rfl⟩
theorem qX12_feed_5 : Dc mX12_feed 5 (.aload_n 0) 1 6 := ⟨by decide +kernel, rfl⟩
theorem qX12_feed_6 : Dc mX12_feed 6 (.getfield 7) 3 9 := ⟨by decide +kernel, rfl⟩
theorem qX12_feed_9 : Dc mX12_feed 9 (.bipush 20) 2 11 := ⟨by decide +kernel, rfl⟩
theorem qX12_feed_11 : Dc mX12_feed 11 (.iadd) 1 12 := ⟨by decide +kernel, rfl⟩
theorem qX12_feed_12 : Dc mX12_feed 12 (.sipush 940) 3 15 := ⟨by decide +kernel, rfl⟩
theorem qX12_feed_15 : Dc mX12_feed 15 (.if_icmp .le 5) 3 18 := ⟨by decide +kernel, rfl⟩
theorem qX12_feed_18 : Dc mX12_feed 18 (.iconst (-1)) 1 19 := ⟨by decide +kernel, rfl⟩
theorem qX12_feed_19 : Dc mX12_feed 19 (.ireturn) 1 20 := ⟨by decide +kernel, rfl⟩
theorem qX12_feed_20 : Dc mX12_feed 20 (.aload_n 0) 1 21 := ⟨by decide +kernel, rfl⟩
theorem qX12_feed_21 : Dc mX12_feed 21 (.iload_n 1) 1 22 := ⟨by decide +kernel, rfl⟩
theorem qX12_feed_22 : Dc mX12_feed 22 (.invokevirtual 10) 3 25 := ⟨by decide +kernel, rfl⟩
theorem qX12_feed_25 : Dc mX12_feed 25 (.aload_n 0) 1 26 := ⟨by decide +kernel, rfl⟩
theorem qX12_feed_26 : Dc mX12_feed 26 (.iload_n 2) 1 27 := ⟨by decide +kernel, rfl⟩
theorem qX12_feed_27 : Dc mX12_feed 27 (.invokevirtual 10) 3 30 := ⟨by decide +kernel, rfl⟩
theorem qX12_feed_30 : Dc mX12_feed 30 (.aload_n 0) 1 31 := ⟨by decide +kernel, rfl⟩
theorem qX12_feed_31 : Dc mX12_feed 31 (.iload_n 3) 1 32 := ⟨by decide +kernel, rfl⟩
theorem qX12_feed_32 : Dc mX12_feed 32 (.invokevirtual 10) 3 35 := ⟨by decide +kernel, rfl⟩
theorem qX12_feed_35 : Dc mX12_feed 35 (.aload_n 0) 1 36 := ⟨by decide +kernel, rfl⟩
theorem qX12_feed_36 : Dc mX12_feed 36 (.iload 4) 2 38 := ⟨by decide +kernel, rfl⟩
theorem qX12_feed_38 : Dc mX12_feed 38 (.invokevirtual 10) 3 41 := ⟨by decide +kernel, rfl⟩
theorem qX12_feed_41 : Dc mX12_feed 41 (.aload_n 0) 1 42 := ⟨by decide +kernel, rfl⟩
theorem qX12_feed_42 : Dc mX12_feed 42 (.iload 5) 2 44 := ⟨by decide +kernel, rfl⟩
theorem qX12_feed_44 : Dc mX12_feed 44 (.invokevirtual 10) 3 47 := ⟨by decide +kernel, rfl⟩
theorem qX12_feed_47 : Dc mX12_feed 47 (.aload_n 0) 1 48 := ⟨by decide +kernel, rfl⟩
theorem qX12_feed_48 : Dc mX12_feed 48 (.getfield 7) 3 51 := ⟨by decide +kernel, rfl⟩
theorem qX12_feed_51 : Dc mX12_feed 51 (.ireturn) 1 52 := ⟨by decide +kernel, rfl⟩

set_option maxRecDepth 20000 in
set_option maxHeartbeats 4000000 in
theorem w_X12_feed {N : Nat} {x1 : Int32} {x2 : Int32} {x3 : Int32} {x4 : Int32} {x5 : Int32} {s0 : St} {r : Int32} {sr : St} (h : f_X12_feed N x1 x2 x3 x4 x5 s0 = some (r, sr)) : Ct mX12_feed 1 [.ref 206, .int x1, .int x2, .int x3, .int x4, .int x5] s0 (some (.int r), sr) := by
  refine Ct.ofE (by decide +kernel) rfl ?_
  show E mX12_feed 1 (some (.int r), sr) 0 [some (.ref 206), some (.int x1), some (.int x2), some (.int x3), some (.int x4), some (.int x5)] [] s0
  unfold f_X12_feed at h
  refine e_aload_n qX12_feed_0 rfl ?_
  refine e_iconst (nI 0) qX12_feed_1 rfl ?_
  refine e_puti qX12_feed_2 fp_X12_1 shq_206 kdq_11_0 h (fun s1 h => ?_)
  refine e_aload_n qX12_feed_5 rfl ?_
  refine e_geti qX12_feed_6 fl_X12_7 shq_206 kdq_11_2 h (fun v2 h => ?_)
  refine e_bipush (nI 20) qX12_feed_9 rfl ?_
  refine e_iadd qX12_feed_11 ?_
  refine e_sipush (nI 940) qX12_feed_12 rfl ?_
  refine e_icmp_le (tgt := 20) qX12_feed_15 rfl h (fun _ h => ?_) (fun _ h => ?_)
  · refine e_aload_n qX12_feed_20 rfl ?_
    refine e_iload_n qX12_feed_21 rfl ?_
    obtain ⟨s3, hc, h⟩ := bp_e h
    refine e_cVv1 qX12_feed_22 mv_X12_10 shq_206 rfl rfl (w_X12_four hc) ?_
    refine e_aload_n qX12_feed_25 rfl ?_
    refine e_iload_n qX12_feed_26 rfl ?_
    obtain ⟨s4, hc, h⟩ := bp_e h
    refine e_cVv1 qX12_feed_27 mv_X12_10 shq_206 rfl rfl (w_X12_four hc) ?_
    refine e_aload_n qX12_feed_30 rfl ?_
    refine e_iload_n qX12_feed_31 rfl ?_
    obtain ⟨s5, hc, h⟩ := bp_e h
    refine e_cVv1 qX12_feed_32 mv_X12_10 shq_206 rfl rfl (w_X12_four hc) ?_
    refine e_aload_n qX12_feed_35 rfl ?_
    refine e_iload qX12_feed_36 rfl ?_
    obtain ⟨s6, hc, h⟩ := bp_e h
    refine e_cVv1 qX12_feed_38 mv_X12_10 shq_206 rfl rfl (w_X12_four hc) ?_
    refine e_aload_n qX12_feed_41 rfl ?_
    refine e_iload qX12_feed_42 rfl ?_
    obtain ⟨s7, hc, h⟩ := bp_e h
    refine e_cVv1 qX12_feed_44 mv_X12_10 shq_206 rfl rfl (w_X12_four hc) ?_
    refine e_aload_n qX12_feed_47 rfl ?_
    refine e_geti qX12_feed_48 fl_X12_7 shq_206 kdq_11_2 h (fun v8 h => ?_)
    exact e_iret qX12_feed_51 rfl (ret_i h)
  refine e_iconst (-1) qX12_feed_18 rfl ?_
  exact e_iret qX12_feed_19 rfl (ret_i h)

def f_X12_readLine (N : Nat)  (s0 : St) : Option (Int32 × St) :=
  bp (f_X12_isWord (465624852596 : Int64) s0) fun v1 =>
  if v1 = 0 then
    bp (f_X12_isWord (439904990056 : Int64) s0) fun v2 =>
    if v2 = 0 then
      bp (f_X12_isWord (1718775661 : Int64) s0) fun v3 =>
      if v3 = 0 then
        bp (f_X12_isWord (1684107883 : Int64) s0) fun v4 =>
        if v4 = 0 then
          bp (f_X12_isWord (1936222576 : Int64) s0) fun v5 =>
          if v5 = 0 then
            bp (f_X12_isWord (1751218789 : Int64) s0) fun v6 =>
            if v6 = 0 then
              bd (f_X12_bad (nI 1) s0) fun v7 s8 =>
              rz v7 <|
              some (v7, s8)
            else
            vl (s0.1 206 21) fun v9 =>
            if v9 = 0 then
              vl (sI s0 206 21 (nI 1)) fun s10 =>
              bp (f_X12_next N s10) fun s11 =>
              bd (f_X12_puts N (nI 2) (nI 1) (nI 30) s11) fun v12 s13 =>
              rz v12 <|
              some (v12, s13)
            else
            bd (f_X12_bad (nI 3) s0) fun v14 s15 =>
            rz v14 <|
            some (v14, s15)
          else
          bd (f_X12_readShip N s0) fun v16 s17 =>
          rz v16 <|
          some (v16, s17)
        else
        bd (f_X12_readDark N s0) fun v18 s19 =>
        rz v18 <|
        some (v18, s19)
      else
      bd (f_X12_readFrom N s0) fun v20 s21 =>
      rz v20 <|
      some (v20, s21)
    else
    bd (f_X12_readFlash N s0) fun v22 s23 =>
    rz v22 <|
    some (v22, s23)
  else
  bd (f_X12_readLight N s0) fun v24 s25 =>
  rz v24 <|
  some (v24, s25)

theorem qX12_readLine_0 : Dc mX12_readLine 0 (.aload_n 0) 1 1 := ⟨by decide +kernel, rfl⟩
theorem qX12_readLine_1 : Dc mX12_readLine 1 (.ldc2_w 87) 3 4 := ⟨by decide +kernel, rfl⟩
theorem qX12_readLine_4 : Dc mX12_readLine 4 (.invokevirtual 208) 3 7 := ⟨by decide +kernel, rfl⟩
theorem qX12_readLine_7 : Dc mX12_readLine 7 (.ifCond .eq 8) 3 10 := ⟨by decide +kernel, rfl⟩
theorem qX12_readLine_10 : Dc mX12_readLine 10 (.aload_n 0) 1 11 := ⟨by decide +kernel, rfl⟩
theorem qX12_readLine_11 : Dc mX12_readLine 11 (.invokevirtual 212) 3 14 := ⟨by decide +kernel, rfl⟩
theorem qX12_readLine_14 : Dc mX12_readLine 14 (.ireturn) 1 15 := ⟨by decide +kernel, rfl⟩
theorem qX12_readLine_15 : Dc mX12_readLine 15 (.aload_n 0) 1 16 := ⟨by decide +kernel, rfl⟩
theorem qX12_readLine_16 : Dc mX12_readLine 16 (.ldc2_w 89) 3 19 := ⟨by decide +kernel, rfl⟩
theorem qX12_readLine_19 : Dc mX12_readLine 19 (.invokevirtual 208) 3 22 := ⟨by decide +kernel, rfl⟩
theorem qX12_readLine_22 : Dc mX12_readLine 22 (.ifCond .eq 8) 3 25 := ⟨by decide +kernel, rfl⟩
theorem qX12_readLine_25 : Dc mX12_readLine 25 (.aload_n 0) 1 26 := ⟨by decide +kernel, rfl⟩
theorem qX12_readLine_26 : Dc mX12_readLine 26 (.invokevirtual 215) 3 29 := ⟨by decide +kernel, rfl⟩
theorem qX12_readLine_29 : Dc mX12_readLine 29 (.ireturn) 1 30 := ⟨by decide +kernel, rfl⟩
theorem qX12_readLine_30 : Dc mX12_readLine 30 (.aload_n 0) 1 31 := ⟨by decide +kernel, rfl⟩
theorem qX12_readLine_31 : Dc mX12_readLine 31 (.ldc2_w 91) 3 34 := ⟨by decide +kernel, rfl⟩
theorem qX12_readLine_34 : Dc mX12_readLine 34 (.invokevirtual 208) 3 37 := ⟨by decide +kernel, rfl⟩
theorem qX12_readLine_37 : Dc mX12_readLine 37 (.ifCond .eq 8) 3 40 := ⟨by decide +kernel, rfl⟩
theorem qX12_readLine_40 : Dc mX12_readLine 40 (.aload_n 0) 1 41 := ⟨by decide +kernel, rfl⟩
theorem qX12_readLine_41 : Dc mX12_readLine 41 (.invokevirtual 218) 3 44 := ⟨by decide +kernel, rfl⟩
theorem qX12_readLine_44 : Dc mX12_readLine 44 (.ireturn) 1 45 := ⟨by decide +kernel, rfl⟩
theorem qX12_readLine_45 : Dc mX12_readLine 45 (.aload_n 0) 1 46 := ⟨by decide +kernel, rfl⟩
theorem qX12_readLine_46 : Dc mX12_readLine 46 (.ldc2_w 93) 3 49 := ⟨by decide +kernel, rfl⟩
theorem qX12_readLine_49 : Dc mX12_readLine 49 (.invokevirtual 208) 3 52 := ⟨by decide +kernel, rfl⟩
theorem qX12_readLine_52 : Dc mX12_readLine 52 (.ifCond .eq 8) 3 55 := ⟨by decide +kernel, rfl⟩
theorem qX12_readLine_55 : Dc mX12_readLine 55 (.aload_n 0) 1 56 := ⟨by decide +kernel, rfl⟩
theorem qX12_readLine_56 : Dc mX12_readLine 56 (.invokevirtual 221) 3 59 := ⟨by decide +kernel, rfl⟩
theorem qX12_readLine_59 : Dc mX12_readLine 59 (.ireturn) 1 60 := ⟨by decide +kernel, rfl⟩
theorem qX12_readLine_60 : Dc mX12_readLine 60 (.aload_n 0) 1 61 := ⟨by decide +kernel, rfl⟩
theorem qX12_readLine_61 : Dc mX12_readLine 61 (.ldc2_w 95) 3 64 := ⟨by decide +kernel, rfl⟩
theorem qX12_readLine_64 : Dc mX12_readLine 64 (.invokevirtual 208) 3 67 := ⟨by decide +kernel, rfl⟩
theorem qX12_readLine_67 : Dc mX12_readLine 67 (.ifCond .eq 8) 3 70 := ⟨by decide +kernel, rfl⟩
theorem qX12_readLine_70 : Dc mX12_readLine 70 (.aload_n 0) 1 71 := ⟨by decide +kernel, rfl⟩
theorem qX12_readLine_71 : Dc mX12_readLine 71 (.invokevirtual 224) 3 74 := ⟨by decide +kernel, rfl⟩
theorem qX12_readLine_74 : Dc mX12_readLine 74 (.ireturn) 1 75 := ⟨by decide +kernel, rfl⟩
theorem qX12_readLine_75 : Dc mX12_readLine 75 (.aload_n 0) 1 76 := ⟨by decide +kernel, rfl⟩
theorem qX12_readLine_76 : Dc mX12_readLine 76 (.ldc2_w 97) 3 79 := ⟨by decide +kernel, rfl⟩
theorem qX12_readLine_79 : Dc mX12_readLine 79 (.invokevirtual 208) 3 82 := ⟨by decide +kernel, rfl⟩
theorem qX12_readLine_82 : Dc mX12_readLine 82 (.ifCond .ne 9) 3 85 := ⟨by decide +kernel, rfl⟩
theorem qX12_readLine_85 : Dc mX12_readLine 85 (.aload_n 0) 1 86 := ⟨by decide +kernel, rfl⟩
theorem qX12_readLine_86 : Dc mX12_readLine 86 (.iconst 1) 1 87 := ⟨by decide +kernel, rfl⟩
theorem qX12_readLine_87 : Dc mX12_readLine 87 (.invokevirtual 180) 3 90 := ⟨by decide +kernel, rfl⟩
theorem qX12_readLine_90 : Dc mX12_readLine 90 (.ireturn) 1 91 := ⟨by decide +kernel, rfl⟩
theorem qX12_readLine_91 : Dc mX12_readLine 91 (.aload_n 0) 1 92 := ⟨by decide +kernel, rfl⟩
theorem qX12_readLine_92 : Dc mX12_readLine 92 (.getfield 227) 3 95 := ⟨by decide +kernel, rfl⟩
theorem qX12_readLine_95 : Dc mX12_readLine 95 (.ifCond .eq 9) 3 98 := ⟨by decide +kernel, rfl⟩
theorem qX12_readLine_98 : Dc mX12_readLine 98 (.aload_n 0) 1 99 := ⟨by decide +kernel, rfl⟩
theorem qX12_readLine_99 : Dc mX12_readLine 99 (.iconst 3) 1 100 := ⟨by decide +kernel, rfl⟩
theorem qX12_readLine_100 : Dc mX12_readLine 100 (.invokevirtual 180) 3 103 := ⟨by decide +kernel, rfl⟩
theorem qX12_readLine_103 : Dc mX12_readLine 103 (.ireturn) 1 104 := ⟨by decide +kernel, rfl⟩
theorem qX12_readLine_104 : Dc mX12_readLine 104 (.aload_n 0) 1 105 := ⟨by decide +kernel, rfl⟩
theorem qX12_readLine_105 : Dc mX12_readLine 105 (.iconst 1) 1 106 := ⟨by decide +kernel, rfl⟩
theorem qX12_readLine_106 : Dc mX12_readLine 106 (.putfield 227) 3 109 := ⟨by decide +kernel, rfl⟩
theorem qX12_readLine_109 : Dc mX12_readLine 109 (.aload_n 0) 1 110 := ⟨by decide +kernel, rfl⟩
theorem qX12_readLine_110 : Dc mX12_readLine 110 (.invokevirtual 183) 3 113 := ⟨by decide +kernel, rfl⟩
theorem qX12_readLine_113 : Dc mX12_readLine 113 (.aload_n 0) 1 114 := ⟨by decide +kernel, rfl⟩
theorem qX12_readLine_114 : Dc mX12_readLine 114 (.iconst 2) 1 115 := ⟨by decide +kernel, rfl⟩
theorem qX12_readLine_115 : Dc mX12_readLine 115 (.iconst 1) 1 116 := ⟨by decide +kernel, rfl⟩
theorem qX12_readLine_116 : Dc mX12_readLine 116 (.bipush 30) 2 118 := ⟨by decide +kernel, rfl⟩
theorem qX12_readLine_118 : Dc mX12_readLine 118 (.invokevirtual 231) 3 121 := ⟨by decide +kernel, rfl⟩
theorem qX12_readLine_121 : Dc mX12_readLine 121 (.ireturn) 1 122 := ⟨by decide +kernel, rfl⟩

set_option maxRecDepth 20000 in
set_option maxHeartbeats 4000000 in
theorem w_X12_readLine {N : Nat}  {s0 : St} {r : Int32} {sr : St} (h : f_X12_readLine N  s0 = some (r, sr)) : Ct mX12_readLine 5 [.ref 206] s0 (some (.int r), sr) := by
  refine Ct.ofE (by decide +kernel) rfl ?_
  show E mX12_readLine 5 (some (.int r), sr) 0 [some (.ref 206)] [] s0
  unfold f_X12_readLine at h
  refine e_aload_n qX12_readLine_0 rfl ?_
  refine e_ldc2 (465624852596 : Int64) qX12_readLine_1 cw_X12_87 ?_
  obtain ⟨v1, hc, h⟩ := bp_e h
  refine e_cVi1 qX12_readLine_4 mv_X12_208 shq_206 rfl rfl (w_X12_isWord hc) ?_
  refine e_if_eq (tgt := 15) qX12_readLine_7 rfl h (fun _ h => ?_) (fun _ h => ?_)
  · refine e_aload_n qX12_readLine_15 rfl ?_
    refine e_ldc2 (439904990056 : Int64) qX12_readLine_16 cw_X12_89 ?_
    obtain ⟨v2, hc, h⟩ := bp_e h
    refine e_cVi1 qX12_readLine_19 mv_X12_208 shq_206 rfl rfl (w_X12_isWord hc) ?_
    refine e_if_eq (tgt := 30) qX12_readLine_22 rfl h (fun _ h => ?_) (fun _ h => ?_)
    · refine e_aload_n qX12_readLine_30 rfl ?_
      refine e_ldc2 (1718775661 : Int64) qX12_readLine_31 cw_X12_91 ?_
      obtain ⟨v3, hc, h⟩ := bp_e h
      refine e_cVi1 qX12_readLine_34 mv_X12_208 shq_206 rfl rfl (w_X12_isWord hc) ?_
      refine e_if_eq (tgt := 45) qX12_readLine_37 rfl h (fun _ h => ?_) (fun _ h => ?_)
      · refine e_aload_n qX12_readLine_45 rfl ?_
        refine e_ldc2 (1684107883 : Int64) qX12_readLine_46 cw_X12_93 ?_
        obtain ⟨v4, hc, h⟩ := bp_e h
        refine e_cVi1 qX12_readLine_49 mv_X12_208 shq_206 rfl rfl (w_X12_isWord hc) ?_
        refine e_if_eq (tgt := 60) qX12_readLine_52 rfl h (fun _ h => ?_) (fun _ h => ?_)
        · refine e_aload_n qX12_readLine_60 rfl ?_
          refine e_ldc2 (1936222576 : Int64) qX12_readLine_61 cw_X12_95 ?_
          obtain ⟨v5, hc, h⟩ := bp_e h
          refine e_cVi1 qX12_readLine_64 mv_X12_208 shq_206 rfl rfl (w_X12_isWord hc) ?_
          refine e_if_eq (tgt := 75) qX12_readLine_67 rfl h (fun _ h => ?_) (fun _ h => ?_)
          · refine e_aload_n qX12_readLine_75 rfl ?_
            refine e_ldc2 (1751218789 : Int64) qX12_readLine_76 cw_X12_97 ?_
            obtain ⟨v6, hc, h⟩ := bp_e h
            refine e_cVi1 qX12_readLine_79 mv_X12_208 shq_206 rfl rfl (w_X12_isWord hc) ?_
            refine e_if_ne (tgt := 91) qX12_readLine_82 rfl h (fun _ h => ?_) (fun _ h => ?_)
            · refine e_aload_n qX12_readLine_85 rfl ?_
              refine e_iconst (nI 1) qX12_readLine_86 rfl ?_
              obtain ⟨v7, s8, hc, h⟩ := bd_e h
              refine e_cVi1 qX12_readLine_87 mv_X12_180 shq_206 rfl rfl (w_X12_bad hc) ?_
              refine rz_e h (fun hz h => ?_)
              exact e_zret qX12_readLine_90 rfl hz (ret_i h)
            refine e_aload_n qX12_readLine_91 rfl ?_
            refine e_geti qX12_readLine_92 fl_X12_227 shq_206 kdq_11_21 h (fun v9 h => ?_)
            refine e_if_eq (tgt := 104) qX12_readLine_95 rfl h (fun _ h => ?_) (fun _ h => ?_)
            · refine e_aload_n qX12_readLine_104 rfl ?_
              refine e_iconst (nI 1) qX12_readLine_105 rfl ?_
              refine e_putz qX12_readLine_106 fp_X12_227 shq_206 kdq_11_21 (by decide) h (fun s10 h => ?_)
              refine e_aload_n qX12_readLine_109 rfl ?_
              obtain ⟨s11, hc, h⟩ := bp_e h
              refine e_cVv0 qX12_readLine_110 mv_X12_183 shq_206 rfl rfl (w_X12_next hc) ?_
              refine e_aload_n qX12_readLine_113 rfl ?_
              refine e_iconst (nI 2) qX12_readLine_114 rfl ?_
              refine e_iconst (nI 1) qX12_readLine_115 rfl ?_
              refine e_bipush (nI 30) qX12_readLine_116 rfl ?_
              obtain ⟨v12, s13, hc, h⟩ := bd_e h
              refine e_cVi3 qX12_readLine_118 mv_X12_231 shq_206 rfl rfl (w_X12_puts hc) ?_
              refine rz_e h (fun hz h => ?_)
              exact e_zret qX12_readLine_121 rfl hz (ret_i h)
            refine e_aload_n qX12_readLine_98 rfl ?_
            refine e_iconst (nI 3) qX12_readLine_99 rfl ?_
            obtain ⟨v14, s15, hc, h⟩ := bd_e h
            refine e_cVi1 qX12_readLine_100 mv_X12_180 shq_206 rfl rfl (w_X12_bad hc) ?_
            refine rz_e h (fun hz h => ?_)
            exact e_zret qX12_readLine_103 rfl hz (ret_i h)
          refine e_aload_n qX12_readLine_70 rfl ?_
          obtain ⟨v16, s17, hc, h⟩ := bd_e h
          refine e_cVi0 qX12_readLine_71 mv_X12_224 shq_206 rfl rfl (w_X12_readShip hc) ?_
          refine rz_e h (fun hz h => ?_)
          exact e_zret qX12_readLine_74 rfl hz (ret_i h)
        refine e_aload_n qX12_readLine_55 rfl ?_
        obtain ⟨v18, s19, hc, h⟩ := bd_e h
        refine e_cVi0 qX12_readLine_56 mv_X12_221 shq_206 rfl rfl (w_X12_readDark hc) ?_
        refine rz_e h (fun hz h => ?_)
        exact e_zret qX12_readLine_59 rfl hz (ret_i h)
      refine e_aload_n qX12_readLine_40 rfl ?_
      obtain ⟨v20, s21, hc, h⟩ := bd_e h
      refine e_cVi0 qX12_readLine_41 mv_X12_218 shq_206 rfl rfl (w_X12_readFrom hc) ?_
      refine rz_e h (fun hz h => ?_)
      exact e_zret qX12_readLine_44 rfl hz (ret_i h)
    refine e_aload_n qX12_readLine_25 rfl ?_
    obtain ⟨v22, s23, hc, h⟩ := bd_e h
    refine e_cVi0 qX12_readLine_26 mv_X12_215 shq_206 rfl rfl (w_X12_readFlash hc) ?_
    refine rz_e h (fun hz h => ?_)
    exact e_zret qX12_readLine_29 rfl hz (ret_i h)
  refine e_aload_n qX12_readLine_10 rfl ?_
  obtain ⟨v24, s25, hc, h⟩ := bd_e h
  refine e_cVi0 qX12_readLine_11 mv_X12_212 shq_206 rfl rfl (w_X12_readLight hc) ?_
  refine rz_e h (fun hz h => ?_)
  exact e_zret qX12_readLine_14 rfl hz (ret_i h)

def f_X12_chart_L40 (N : Nat) (k10 : St → Option (Int32 × St)) (k12 : St → Option (Int32 × St)) : Nat → St → Option (Int32 × St)
  | 0, _ => none
  | n14 + 1, s9 =>
    vl (s9.1 206 11) fun v16 =>
    if v16 = 0 then
      k10 s9
    else
    bd (f_X12_readLine N s9) fun v17 s18 =>
    if v17 = 0 then
      k12 s18
    else
    bd (f_X12_sign N (nI 59) s18) fun v19 s20 =>
    if v19 = 0 then
      k12 s20
    else
    vl (s20.1 206 19) fun v21 =>
    vl (sI s20 206 19 (v21 + (nI 1))) fun s22 =>
    f_X12_chart_L40 N k10 k12 n14 s22

def f_X12_chart_L85 (N : Nat) (k26 : St → Option (Int32 × St)) : Nat → Int32 → St → Option (Int32 × St)
  | 0, _, _ => none
  | n28 + 1, v24, s25 =>
    if (nI 359) ≤ v24 then
      k26 s25
    else
    jn (fun (v30 : Int32) =>
      ald (fun j => sI s25 208 j v30) 359 v24 fun s32 =>
      vl (v24 + (nI 1)) fun v33 =>
      f_X12_chart_L85 N k26 n28 v33 s32) fun j31 =>
    if (nI 147) ≤ v24 then
      j31 (nI 0)
    else
    ald (s25.1 209) 147 v24 fun v34 =>
    j31 v34

def f_X12_chart_L123 (N : Nat) (k38 : St → Option (Int32 × St)) : Nat → Int32 → St → Option (Int32 × St)
  | 0, _, _ => none
  | n40 + 1, v36, s37 =>
    if (nI 12) ≤ v36 then
      k38 s37
    else
    ald (s37.2 211) 24 ((nI 12) + v36) fun v42 =>
    ald (fun j => sL s37 211 j v42) 24 v36 fun s43 =>
    vl (v36 + (nI 1)) fun v44 =>
    f_X12_chart_L123 N k38 n40 v44 s43

def f_X12_chart_L166 (N : Nat) (k50 : St → Option (Int32 × St)) : Nat → Int32 → St → Option (Int32 × St)
  | 0, _, _ => none
  | n52 + 1, v48, s49 =>
    if (nI 8) ≤ v48 then
      k50 s49
    else
    ald (s49.1 208) 359 ((nI 35) + v48) fun v54 =>
    ald (fun j => sI s49 208 j v54) 359 ((nI 150) + v48) fun s55 =>
    ald (s55.1 208) 359 ((nI 115) + v48) fun v56 =>
    ald (fun j => sI s55 208 j v56) 359 ((nI 158) + v48) fun s57 =>
    vl (v48 + (nI 1)) fun v58 =>
    f_X12_chart_L166 N k50 n52 v58 s57

def f_X12_chart_L218 (N : Nat) (k62 : St → Option (Int32 × St)) : Nat → Int32 → St → Option (Int32 × St)
  | 0, _, _ => none
  | n64 + 1, v60, s61 =>
    if (nI 4) ≤ v60 then
      k62 s61
    else
    ald (s61.1 208) 359 ((nI 131) + v60) fun v66 =>
    ald (fun j => sI s61 208 j v66) 359 ((nI 166) + v60) fun s67 =>
    ald (s67.1 208) 359 ((nI 135) + v60) fun v68 =>
    ald (fun j => sI s67 208 j v68) 359 ((nI 170) + v60) fun s69 =>
    ald (s69.1 208) 359 ((nI 139) + v60) fun v70 =>
    ald (fun j => sI s69 208 j v70) 359 ((nI 174) + v60) fun s71 =>
    vl (v60 + (nI 1)) fun v72 =>
    f_X12_chart_L218 N k62 n64 v72 s71

def f_X12_chart (N : Nat)  (s0 : St) : Option (Int32 × St) :=
  vl (sI s0 206 0 (nI 0)) fun s1 =>
  bp (f_X12_taken (nI 900) s1) fun s2 =>
  vl (sI s2 206 15 (nI 0)) fun s3 =>
  vl (sI s3 206 19 (nI 0)) fun s4 =>
  vl (sI s4 206 20 (nI 0)) fun s5 =>
  vl (sI s5 206 21 (nI 0)) fun s6 =>
  bp (f_X12_clears N s6) fun s7 =>
  bp (f_X12_next N s7) fun s8 =>
  f_X12_chart_L40 N (fun (s23 : St) =>
    f_X12_chart_L85 N (fun (s35 : St) =>
      f_X12_chart_L123 N (fun (s45 : St) =>
        ald (s45.1 208) 359 (nI 2) fun v46 =>
        ald (fun j => sI s45 208 j v46) 359 (nI 149) fun s47 =>
        f_X12_chart_L166 N (fun (s59 : St) =>
          f_X12_chart_L218 N (fun (s73 : St) =>
            vl (sI s73 206 24 (nI 0)) fun s74 =>
            vl (s74.1 206 19) fun v75 =>
            some (v75, s74)) N (nI 0) s59) N (nI 0) s47) N (nI 0) s35) N (nI 0) s23) (fun (s76 : St) =>
    vl (s76.1 206 16) fun v77 =>
    some (((-1) - v77), s76)) N s8

theorem qX12_chart_0 : Dc mX12_chart 0 (.aload_n 0) 1 1 := ⟨by decide +kernel, rfl⟩
theorem qX12_chart_1 : Dc mX12_chart 1 (.iconst 0) 1 2 := ⟨by decide +kernel, rfl⟩
theorem qX12_chart_2 : Dc mX12_chart 2 (.putfield 1) 3 5 := ⟨by decide +kernel, rfl⟩
theorem qX12_chart_5 : Dc mX12_chart 5 (.aload_n 0) 1 6 := ⟨by decide +kernel, rfl⟩
theorem qX12_chart_6 : Dc mX12_chart 6 (.sipush 900) 3 9 := ⟨by decide +kernel, rfl⟩
theorem qX12_chart_9 : Dc mX12_chart 9 (.invokevirtual 246) 3 12 := ⟨by decide +kernel, rfl⟩
theorem qX12_chart_12 : Dc mX12_chart 12 (.aload_n 0) 1 13 := ⟨by decide +kernel, rfl⟩
theorem qX12_chart_13 : Dc mX12_chart 13 (.iconst 0) 1 14 := ⟨by decide +kernel, rfl⟩
theorem qX12_chart_14 : Dc mX12_chart 14 (.putfield 171) 3 17 := ⟨by decide +kernel, rfl⟩
theorem qX12_chart_17 : Dc mX12_chart 17 (.aload_n 0) 1 18 := ⟨by decide +kernel, rfl⟩
theorem qX12_chart_18 : Dc mX12_chart 18 (.iconst 0) 1 19 := ⟨by decide +kernel, rfl⟩
theorem qX12_chart_19 : Dc mX12_chart 19 (.putfield 249) 3 22 := ⟨by decide +kernel, rfl⟩
theorem qX12_chart_22 : Dc mX12_chart 22 (.aload_n 0) 1 23 := ⟨by decide +kernel, rfl⟩
theorem qX12_chart_23 : Dc mX12_chart 23 (.iconst 0) 1 24 := ⟨by decide +kernel, rfl⟩
theorem qX12_chart_24 : Dc mX12_chart 24 (.putfield 237) 3 27 := ⟨by decide +kernel, rfl⟩
theorem qX12_chart_27 : Dc mX12_chart 27 (.aload_n 0) 1 28 := ⟨by decide +kernel, rfl⟩
theorem qX12_chart_28 : Dc mX12_chart 28 (.iconst 0) 1 29 := ⟨by decide +kernel, rfl⟩
theorem qX12_chart_29 : Dc mX12_chart 29 (.putfield 227) 3 32 := ⟨by decide +kernel, rfl⟩
theorem qX12_chart_32 : Dc mX12_chart 32 (.aload_n 0) 1 33 := ⟨by decide +kernel, rfl⟩
theorem qX12_chart_33 : Dc mX12_chart 33 (.invokevirtual 141) 3 36 := ⟨by decide +kernel, rfl⟩
theorem qX12_chart_36 : Dc mX12_chart 36 (.aload_n 0) 1 37 := ⟨by decide +kernel, rfl⟩
theorem qX12_chart_37 : Dc mX12_chart 37 (.invokevirtual 183) 3 40 := ⟨by decide +kernel, rfl⟩
theorem qX12_chart_40 : Dc mX12_chart 40 (.aload_n 0) 1 41 := ⟨by decide +kernel, rfl⟩
theorem qX12_chart_41 : Dc mX12_chart 41 (.getfield 154) 3 44 := ⟨by decide +kernel, rfl⟩
theorem qX12_chart_44 : Dc mX12_chart 44 (.ifCond .eq 39) 3 47 := ⟨by decide +kernel, rfl⟩
theorem qX12_chart_47 : Dc mX12_chart 47 (.aload_n 0) 1 48 := ⟨by decide +kernel, rfl⟩
theorem qX12_chart_48 : Dc mX12_chart 48 (.invokevirtual 252) 3 51 := ⟨by decide +kernel, rfl⟩
theorem qX12_chart_51 : Dc mX12_chart 51 (.ifCond .eq 12) 3 54 := ⟨by decide +kernel, rfl⟩
theorem qX12_chart_54 : Dc mX12_chart 54 (.aload_n 0) 1 55 := ⟨by decide +kernel, rfl⟩
theorem qX12_chart_55 : Dc mX12_chart 55 (.bipush 59) 2 57 := ⟨by decide +kernel, rfl⟩
theorem qX12_chart_57 : Dc mX12_chart 57 (.invokevirtual 255) 3 60 := ⟨by decide +kernel, rfl⟩
theorem qX12_chart_60 : Dc mX12_chart 60 (.ifCond .ne 10) 3 63 := ⟨by decide +kernel, rfl⟩
theorem qX12_chart_63 : Dc mX12_chart 63 (.iconst (-1)) 1 64 := ⟨by decide +kernel, rfl⟩
theorem qX12_chart_64 : Dc mX12_chart 64 (.aload_n 0) 1 65 := ⟨by decide +kernel, rfl⟩
theorem qX12_chart_65 : Dc mX12_chart 65 (.getfield 174) 3 68 := ⟨by decide +kernel, rfl⟩
theorem qX12_chart_68 : Dc mX12_chart 68 (.isub) 1 69 := ⟨by decide +kernel, rfl⟩
theorem qX12_chart_69 : Dc mX12_chart 69 (.ireturn) 1 70 := ⟨by decide +kernel, rfl⟩
theorem qX12_chart_70 : Dc mX12_chart 70 (.aload_n 0) 1 71 := ⟨by decide +kernel, rfl⟩
theorem qX12_chart_71 : Dc mX12_chart 71 (.dup) 1 72 := ⟨by decide +kernel, rfl⟩
theorem qX12_chart_72 : Dc mX12_chart 72 (.getfield 249) 3 75 := ⟨by decide +kernel, rfl⟩
theorem qX12_chart_75 : Dc mX12_chart 75 (.iconst 1) 1 76 := ⟨by decide +kernel, rfl⟩
theorem qX12_chart_76 : Dc mX12_chart 76 (.iadd) 1 77 := ⟨by decide +kernel, rfl⟩
theorem qX12_chart_77 : Dc mX12_chart 77 (.putfield 249) 3 80 := ⟨by decide +kernel, rfl⟩
theorem qX12_chart_80 : Dc mX12_chart 80 (.goto (-40)) 3 83 := ⟨by decide +kernel, rfl⟩
theorem qX12_chart_83 : Dc mX12_chart 83 (.iconst 0) 1 84 := ⟨by decide +kernel, rfl⟩
theorem qX12_chart_84 : Dc mX12_chart 84 (.istore_n 1) 1 85 := ⟨by decide +kernel, rfl⟩
theorem qX12_chart_85 : Dc mX12_chart 85 (.iload_n 1) 1 86 := ⟨by decide +kernel, rfl⟩
theorem qX12_chart_86 : Dc mX12_chart 86 (.sipush 359) 3 89 := ⟨by decide +kernel, rfl⟩
theorem qX12_chart_89 : Dc mX12_chart 89 (.if_icmp .ge 32) 3 92 := ⟨by decide +kernel, rfl⟩
theorem qX12_chart_92 : Dc mX12_chart 92 (.aload_n 0) 1 93 := ⟨by decide +kernel, rfl⟩
theorem qX12_chart_93 : Dc mX12_chart 93 (.getfield 33) 3 96 := ⟨by decide +kernel, rfl⟩
theorem qX12_chart_96 : Dc mX12_chart 96 (.iload_n 1) 1 97 := ⟨by decide +kernel, rfl⟩
theorem qX12_chart_97 : Dc mX12_chart 97 (.iload_n 1) 1 98 := ⟨by decide +kernel, rfl⟩
theorem qX12_chart_98 : Dc mX12_chart 98 (.sipush 147) 3 101 := ⟨by decide +kernel, rfl⟩
theorem qX12_chart_101 : Dc mX12_chart 101 (.if_icmp .ge 12) 3 104 := ⟨by decide +kernel, rfl⟩
theorem qX12_chart_104 : Dc mX12_chart 104 (.aload_n 0) 1 105 := ⟨by decide +kernel, rfl⟩
theorem qX12_chart_105 : Dc mX12_chart 105 (.getfield 37) 3 108 := ⟨by decide +kernel, rfl⟩
theorem qX12_chart_108 : Dc mX12_chart 108 (.iload_n 1) 1 109 := ⟨by decide +kernel, rfl⟩
theorem qX12_chart_109 : Dc mX12_chart 109 (.iaload) 1 110 := ⟨by decide +kernel, rfl⟩
theorem qX12_chart_110 : Dc mX12_chart 110 (.goto 4) 3 113 := ⟨by decide +kernel, rfl⟩
theorem qX12_chart_113 : Dc mX12_chart 113 (.iconst 0) 1 114 := ⟨by decide +kernel, rfl⟩
theorem qX12_chart_114 : Dc mX12_chart 114 (.iastore) 1 115 := ⟨by decide +kernel, rfl⟩
theorem qX12_chart_115 : Dc mX12_chart 115 (.iinc 1 1) 3 118 := ⟨by decide +kernel, rfl⟩
theorem qX12_chart_118 : Dc mX12_chart 118 (.goto (-33)) 3 121 := ⟨by decide +kernel, rfl⟩
theorem qX12_chart_121 : Dc mX12_chart 121 (.iconst 0) 1 122 := ⟨by decide +kernel, rfl⟩
theorem qX12_chart_122 : Dc mX12_chart 122 (.istore_n 1) 1 123 := ⟨by decide +kernel, rfl⟩
theorem qX12_chart_123 : Dc mX12_chart 123 (.iload_n 1) 1 124 := ⟨by decide +kernel, rfl⟩
theorem qX12_chart_124 : Dc mX12_chart 124 (.bipush 12) 2 126 := ⟨by decide +kernel, rfl⟩
theorem qX12_chart_126 : Dc mX12_chart 126 (.if_icmp .ge 24) 3 129 := ⟨by decide +kernel, rfl⟩
theorem qX12_chart_129 : Dc mX12_chart 129 (.aload_n 0) 1 130 := ⟨by decide +kernel, rfl⟩
theorem qX12_chart_130 : Dc mX12_chart 130 (.getfield 43) 3 133 := ⟨by decide +kernel, rfl⟩
theorem qX12_chart_133 : Dc mX12_chart 133 (.iload_n 1) 1 134 := ⟨by decide +kernel, rfl⟩
theorem qX12_chart_134 : Dc mX12_chart 134 (.aload_n 0) 1 135 := ⟨by decide +kernel, rfl⟩
theorem qX12_chart_135 : Dc mX12_chart 135 (.getfield 43) 3 138 := ⟨by decide +kernel, rfl⟩
theorem qX12_chart_138 : Dc mX12_chart 138 (.bipush 12) 2 140 := ⟨by decide +kernel, rfl⟩
theorem qX12_chart_140 : Dc mX12_chart 140 (.iload_n 1) 1 141 := ⟨by decide +kernel, rfl⟩
theorem qX12_chart_141 : Dc mX12_chart 141 (.iadd) 1 142 := ⟨by decide +kernel, rfl⟩
theorem qX12_chart_142 : Dc mX12_chart 142 (.laload) 1 143 := ⟨by decide +kernel, rfl⟩
theorem qX12_chart_143 : Dc mX12_chart 143 (.lastore) 1 144 := ⟨by decide +kernel, rfl⟩
theorem qX12_chart_144 : Dc mX12_chart 144 (.iinc 1 1) 3 147 := ⟨by decide +kernel, rfl⟩
theorem qX12_chart_147 : Dc mX12_chart 147 (.goto (-24)) 3 150 := ⟨by decide +kernel, rfl⟩
theorem qX12_chart_150 : Dc mX12_chart 150 (.aload_n 0) 1 151 := ⟨by decide +kernel, rfl⟩
theorem qX12_chart_151 : Dc mX12_chart 151 (.getfield 33) 3 154 := ⟨by decide +kernel, rfl⟩
theorem qX12_chart_154 : Dc mX12_chart 154 (.sipush 149) 3 157 := ⟨by decide +kernel, rfl⟩
theorem qX12_chart_157 : Dc mX12_chart 157 (.aload_n 0) 1 158 := ⟨by decide +kernel, rfl⟩
theorem qX12_chart_158 : Dc mX12_chart 158 (.getfield 33) 3 161 := ⟨by decide +kernel, rfl⟩
theorem qX12_chart_161 : Dc mX12_chart 161 (.iconst 2) 1 162 := ⟨by decide +kernel, rfl⟩
theorem qX12_chart_162 : Dc mX12_chart 162 (.iaload) 1 163 := ⟨by decide +kernel, rfl⟩
theorem qX12_chart_163 : Dc mX12_chart 163 (.iastore) 1 164 := ⟨by decide +kernel, rfl⟩
theorem qX12_chart_164 : Dc mX12_chart 164 (.iconst 0) 1 165 := ⟨by decide +kernel, rfl⟩
theorem qX12_chart_165 : Dc mX12_chart 165 (.istore_n 1) 1 166 := ⟨by decide +kernel, rfl⟩
theorem qX12_chart_166 : Dc mX12_chart 166 (.iload_n 1) 1 167 := ⟨by decide +kernel, rfl⟩
theorem qX12_chart_167 : Dc mX12_chart 167 (.bipush 8) 2 169 := ⟨by decide +kernel, rfl⟩
theorem qX12_chart_169 : Dc mX12_chart 169 (.if_icmp .ge 47) 3 172 := ⟨by decide +kernel, rfl⟩
theorem qX12_chart_172 : Dc mX12_chart 172 (.aload_n 0) 1 173 := ⟨by decide +kernel, rfl⟩
theorem qX12_chart_173 : Dc mX12_chart 173 (.getfield 33) 3 176 := ⟨by decide +kernel, rfl⟩
theorem qX12_chart_176 : Dc mX12_chart 176 (.sipush 150) 3 179 := ⟨by decide +kernel, rfl⟩
theorem qX12_chart_179 : Dc mX12_chart 179 (.iload_n 1) 1 180 := ⟨by decide +kernel, rfl⟩
theorem qX12_chart_180 : Dc mX12_chart 180 (.iadd) 1 181 := ⟨by decide +kernel, rfl⟩
theorem qX12_chart_181 : Dc mX12_chart 181 (.aload_n 0) 1 182 := ⟨by decide +kernel, rfl⟩
theorem qX12_chart_182 : Dc mX12_chart 182 (.getfield 33) 3 185 := ⟨by decide +kernel, rfl⟩
theorem qX12_chart_185 : Dc mX12_chart 185 (.bipush 35) 2 187 := ⟨by decide +kernel, rfl⟩
theorem qX12_chart_187 : Dc mX12_chart 187 (.iload_n 1) 1 188 := ⟨by decide +kernel, rfl⟩
theorem qX12_chart_188 : Dc mX12_chart 188 (.iadd) 1 189 := ⟨by decide +kernel, rfl⟩
theorem qX12_chart_189 : Dc mX12_chart 189 (.iaload) 1 190 := ⟨by decide +kernel, rfl⟩
theorem qX12_chart_190 : Dc mX12_chart 190 (.iastore) 1 191 := ⟨by decide +kernel, rfl⟩
theorem qX12_chart_191 : Dc mX12_chart 191 (.aload_n 0) 1 192 := ⟨by decide +kernel, rfl⟩
theorem qX12_chart_192 : Dc mX12_chart 192 (.getfield 33) 3 195 := ⟨by decide +kernel, rfl⟩
theorem qX12_chart_195 : Dc mX12_chart 195 (.sipush 158) 3 198 := ⟨by decide +kernel, rfl⟩
theorem qX12_chart_198 : Dc mX12_chart 198 (.iload_n 1) 1 199 := ⟨by decide +kernel, rfl⟩
theorem qX12_chart_199 : Dc mX12_chart 199 (.iadd) 1 200 := ⟨by decide +kernel, rfl⟩
theorem qX12_chart_200 : Dc mX12_chart 200 (.aload_n 0) 1 201 := ⟨by decide +kernel, rfl⟩
theorem qX12_chart_201 : Dc mX12_chart 201 (.getfield 33) 3 204 := ⟨by decide +kernel, rfl⟩
theorem qX12_chart_204 : Dc mX12_chart 204 (.bipush 115) 2 206 := ⟨by decide +kernel, rfl⟩
theorem qX12_chart_206 : Dc mX12_chart 206 (.iload_n 1) 1 207 := ⟨by decide +kernel, rfl⟩
theorem qX12_chart_207 : Dc mX12_chart 207 (.iadd) 1 208 := ⟨by decide +kernel, rfl⟩
theorem qX12_chart_208 : Dc mX12_chart 208 (.iaload) 1 209 := ⟨by decide +kernel, rfl⟩
theorem qX12_chart_209 : Dc mX12_chart 209 (.iastore) 1 210 := ⟨by decide +kernel, rfl⟩
theorem qX12_chart_210 : Dc mX12_chart 210 (.iinc 1 1) 3 213 := ⟨by decide +kernel, rfl⟩
theorem qX12_chart_213 : Dc mX12_chart 213 (.goto (-47)) 3 216 := ⟨by decide +kernel, rfl⟩
theorem qX12_chart_216 : Dc mX12_chart 216 (.iconst 0) 1 217 := ⟨by decide +kernel, rfl⟩
theorem qX12_chart_217 : Dc mX12_chart 217 (.istore_n 1) 1 218 := ⟨by decide +kernel, rfl⟩
theorem qX12_chart_218 : Dc mX12_chart 218 (.iload_n 1) 1 219 := ⟨by decide +kernel, rfl⟩
theorem qX12_chart_219 : Dc mX12_chart 219 (.iconst 4) 1 220 := ⟨by decide +kernel, rfl⟩
theorem qX12_chart_220 : Dc mX12_chart 220 (.if_icmp .ge 69) 3 223 := ⟨by decide +kernel, rfl⟩
theorem qX12_chart_223 : Dc mX12_chart 223 (.aload_n 0) 1 224 := ⟨by decide +kernel, rfl⟩
theorem qX12_chart_224 : Dc mX12_chart 224 (.getfield 33) 3 227 := ⟨by decide +kernel, rfl⟩
theorem qX12_chart_227 : Dc mX12_chart 227 (.sipush 166) 3 230 := ⟨by decide +kernel, rfl⟩
theorem qX12_chart_230 : Dc mX12_chart 230 (.iload_n 1) 1 231 := ⟨by decide +kernel, rfl⟩
theorem qX12_chart_231 : Dc mX12_chart 231 (.iadd) 1 232 := ⟨by decide +kernel, rfl⟩
theorem qX12_chart_232 : Dc mX12_chart 232 (.aload_n 0) 1 233 := ⟨by decide +kernel, rfl⟩
theorem qX12_chart_233 : Dc mX12_chart 233 (.getfield 33) 3 236 := ⟨by decide +kernel, rfl⟩
theorem qX12_chart_236 : Dc mX12_chart 236 (.sipush 131) 3 239 := ⟨by decide +kernel, rfl⟩
theorem qX12_chart_239 : Dc mX12_chart 239 (.iload_n 1) 1 240 := ⟨by decide +kernel, rfl⟩
theorem qX12_chart_240 : Dc mX12_chart 240 (.iadd) 1 241 := ⟨by decide +kernel, rfl⟩
theorem qX12_chart_241 : Dc mX12_chart 241 (.iaload) 1 242 := ⟨by decide +kernel, rfl⟩
theorem qX12_chart_242 : Dc mX12_chart 242 (.iastore) 1 243 := ⟨by decide +kernel, rfl⟩
theorem qX12_chart_243 : Dc mX12_chart 243 (.aload_n 0) 1 244 := ⟨by decide +kernel, rfl⟩
theorem qX12_chart_244 : Dc mX12_chart 244 (.getfield 33) 3 247 := ⟨by decide +kernel, rfl⟩
theorem qX12_chart_247 : Dc mX12_chart 247 (.sipush 170) 3 250 := ⟨by decide +kernel, rfl⟩
theorem qX12_chart_250 : Dc mX12_chart 250 (.iload_n 1) 1 251 := ⟨by decide +kernel, rfl⟩
theorem qX12_chart_251 : Dc mX12_chart 251 (.iadd) 1 252 := ⟨by decide +kernel, rfl⟩
theorem qX12_chart_252 : Dc mX12_chart 252 (.aload_n 0) 1 253 := ⟨by decide +kernel, rfl⟩
theorem qX12_chart_253 : Dc mX12_chart 253 (.getfield 33) 3 256 := ⟨by decide +kernel, rfl⟩
theorem qX12_chart_256 : Dc mX12_chart 256 (.sipush 135) 3 259 := ⟨by decide +kernel, rfl⟩
theorem qX12_chart_259 : Dc mX12_chart 259 (.iload_n 1) 1 260 := ⟨by decide +kernel, rfl⟩
theorem qX12_chart_260 : Dc mX12_chart 260 (.iadd) 1 261 := ⟨by decide +kernel, rfl⟩
theorem qX12_chart_261 : Dc mX12_chart 261 (.iaload) 1 262 := ⟨by decide +kernel, rfl⟩
theorem qX12_chart_262 : Dc mX12_chart 262 (.iastore) 1 263 := ⟨by decide +kernel, rfl⟩
theorem qX12_chart_263 : Dc mX12_chart 263 (.aload_n 0) 1 264 := ⟨by decide +kernel, rfl⟩
theorem qX12_chart_264 : Dc mX12_chart 264 (.getfield 33) 3 267 := ⟨by decide +kernel, rfl⟩
theorem qX12_chart_267 : Dc mX12_chart 267 (.sipush 174) 3 270 := ⟨by decide +kernel, rfl⟩
theorem qX12_chart_270 : Dc mX12_chart 270 (.iload_n 1) 1 271 := ⟨by decide +kernel, rfl⟩
theorem qX12_chart_271 : Dc mX12_chart 271 (.iadd) 1 272 := ⟨by decide +kernel, rfl⟩
theorem qX12_chart_272 : Dc mX12_chart 272 (.aload_n 0) 1 273 := ⟨by decide +kernel, rfl⟩
theorem qX12_chart_273 : Dc mX12_chart 273 (.getfield 33) 3 276 := ⟨by decide +kernel, rfl⟩
theorem qX12_chart_276 : Dc mX12_chart 276 (.sipush 139) 3 279 := ⟨by decide +kernel, rfl⟩
theorem qX12_chart_279 : Dc mX12_chart 279 (.iload_n 1) 1 280 := ⟨by decide +kernel, rfl⟩
theorem qX12_chart_280 : Dc mX12_chart 280 (.iadd) 1 281 := ⟨by decide +kernel, rfl⟩
theorem qX12_chart_281 : Dc mX12_chart 281 (.iaload) 1 282 := ⟨by decide +kernel, rfl⟩
theorem qX12_chart_282 : Dc mX12_chart 282 (.iastore) 1 283 := ⟨by decide +kernel, rfl⟩
theorem qX12_chart_283 : Dc mX12_chart 283 (.iinc 1 1) 3 286 := ⟨by decide +kernel, rfl⟩
theorem qX12_chart_286 : Dc mX12_chart 286 (.goto (-68)) 3 289 := ⟨by decide +kernel, rfl⟩
theorem qX12_chart_289 : Dc mX12_chart 289 (.aload_n 0) 1 290 := ⟨by decide +kernel, rfl⟩
theorem qX12_chart_290 : Dc mX12_chart 290 (.iconst 0) 1 291 := ⟨by decide +kernel, rfl⟩
theorem qX12_chart_291 : Dc mX12_chart 291 (.putfield 258) 3 294 := ⟨by decide +kernel, rfl⟩
theorem qX12_chart_294 : Dc mX12_chart 294 (.aload_n 0) 1 295 := ⟨by decide +kernel, rfl⟩
theorem qX12_chart_295 : Dc mX12_chart 295 (.getfield 249) 3 298 := ⟨by decide +kernel, rfl⟩
theorem qX12_chart_298 : Dc mX12_chart 298 (.ireturn) 1 299 := ⟨by decide +kernel, rfl⟩

set_option maxRecDepth 20000 in
set_option maxHeartbeats 4000000 in
theorem w_X12_chart_L40 {N : Nat}  {k10 : St → Option (Int32 × St)} {k12 : St → Option (Int32 × St)} {r : Int32} {sr : St}  (hk10 : ∀ (s11 : St), k10 s11 = some (r, sr) → E mX12_chart 6 (some (.int r), sr) 83 [some (.ref 206), none] [] s11) (hk12 : ∀ (s13 : St), k12 s13 = some (r, sr) → E mX12_chart 6 (some (.int r), sr) 63 [some (.ref 206), none] [] s13) : ∀ (n14 : Nat) (s9 : St), f_X12_chart_L40 N k10 k12 n14 s9 = some (r, sr) → E mX12_chart 6 (some (.int r), sr) 40 [some (.ref 206), none] [] s9 := by
  intro n14
  induction n14 with
  | zero =>
    intro s9 h
    rw [f_X12_chart_L40] at h; cases h
  | succ n14 ih15 =>
    intro s9 h
    rw [f_X12_chart_L40] at h
    refine e_aload_n qX12_chart_40 rfl ?_
    refine e_geti qX12_chart_41 fl_X12_154 shq_206 kdq_11_11 h (fun v16 h => ?_)
    refine e_if_eq (tgt := 83) qX12_chart_44 rfl h (fun _ h => ?_) (fun _ h => ?_)
    · exact e_weak (hk10 _ h) ⟨Or.inr rfl, Or.inl rfl, trivial⟩
    refine e_aload_n qX12_chart_47 rfl ?_
    obtain ⟨v17, s18, hc, h⟩ := bd_e h
    refine e_cVi0 qX12_chart_48 mv_X12_252 shq_206 rfl rfl (w_X12_readLine hc) ?_
    refine e_if_eq (tgt := 63) qX12_chart_51 rfl h (fun _ h => ?_) (fun _ h => ?_)
    · exact e_weak (hk12 _ h) ⟨Or.inr rfl, Or.inl rfl, trivial⟩
    refine e_aload_n qX12_chart_54 rfl ?_
    refine e_bipush (nI 59) qX12_chart_55 rfl ?_
    obtain ⟨v19, s20, hc, h⟩ := bd_e h
    refine e_cVi1 qX12_chart_57 mv_X12_255 shq_206 rfl rfl (w_X12_sign hc) ?_
    refine e_if_ne (tgt := 70) qX12_chart_60 rfl h (fun _ h => ?_) (fun _ h => ?_)
    · exact e_weak (hk12 _ h) ⟨Or.inr rfl, Or.inl rfl, trivial⟩
    refine e_aload_n qX12_chart_70 rfl ?_
    refine e_dup qX12_chart_71 rfl ?_
    refine e_geti qX12_chart_72 fl_X12_249 shq_206 kdq_11_19 h (fun v21 h => ?_)
    refine e_iconst (nI 1) qX12_chart_75 rfl ?_
    refine e_iadd qX12_chart_76 ?_
    refine e_puti qX12_chart_77 fp_X12_249 shq_206 kdq_11_19 h (fun s22 h => ?_)
    refine e_goto (tgt := 40) qX12_chart_80 rfl ?_
    exact e_weak (ih15 _ h) ⟨Or.inr rfl, Or.inl rfl, trivial⟩

set_option maxRecDepth 20000 in
set_option maxHeartbeats 4000000 in
theorem w_X12_chart_L85 {N : Nat}  {k26 : St → Option (Int32 × St)} {r : Int32} {sr : St}  (hk26 : ∀ (s27 : St), k26 s27 = some (r, sr) → E mX12_chart 6 (some (.int r), sr) 121 [some (.ref 206), none] [] s27) : ∀ (n28 : Nat) (v24 : Int32) (s25 : St), f_X12_chart_L85 N k26 n28 v24 s25 = some (r, sr) → E mX12_chart 6 (some (.int r), sr) 85 [some (.ref 206), some (.int v24)] [] s25 := by
  intro n28
  induction n28 with
  | zero =>
    intro v24 s25 h
    rw [f_X12_chart_L85] at h; cases h
  | succ n28 ih29 =>
    intro v24 s25 h
    rw [f_X12_chart_L85] at h
    refine e_iload_n qX12_chart_85 rfl ?_
    refine e_sipush (nI 359) qX12_chart_86 rfl ?_
    refine e_icmp_ge (tgt := 121) qX12_chart_89 rfl h (fun _ h => ?_) (fun _ h => ?_)
    · exact e_weak (hk26 _ h) ⟨Or.inr rfl, Or.inl rfl, trivial⟩
    refine e_aload_n qX12_chart_92 rfl ?_
    refine e_getr 208 qX12_chart_93 fl_X12_33 shq_206 kdq_11_6 rrq_206_6 ?_
    refine e_iload_n qX12_chart_96 rfl ?_
    refine e_iload_n qX12_chart_97 rfl ?_
    refine e_sipush (nI 147) qX12_chart_98 rfl ?_
    refine jn_e (fun j => ∀ (v30 : Int32), j v30 = some (r, sr) → E mX12_chart 6 (some (.int r), sr) 114 [some (.ref 206), some (.int v24)] [.int v30, .int v24, .ref 208] s25) h ?_ (fun j31 hj31 h => ?_)
    · intro v30 h
      refine e_iast qX12_chart_114 shq_208 lnq_208 h (fun s32 h => ?_)
      refine vl_e h (fun h => ?_)
      obtain ⟨v33, ev33⟩ : ∃ y, v24 + (nI 1) = y := ⟨_, rfl⟩
      rw [ev33] at h
      refine e_iinc (nI 1) v33 (lv2 := [some (.ref 206), some (.int v33)]) qX12_chart_115 rfl rfl rfl ev33 rfl ?_
      refine e_goto (tgt := 85) qX12_chart_118 rfl ?_
      exact e_weak (ih29 _ _ h) ⟨Or.inr rfl, Or.inr rfl, trivial⟩
    refine e_icmp_ge (tgt := 113) qX12_chart_101 rfl h (fun _ h => ?_) (fun _ h => ?_)
    · refine e_iconst (nI 0) qX12_chart_113 rfl ?_
      exact e_weak (hj31 _ h) ⟨Or.inr rfl, Or.inr rfl, trivial⟩
    refine e_aload_n qX12_chart_104 rfl ?_
    refine e_getr 209 qX12_chart_105 fl_X12_37 shq_206 kdq_11_7 rrq_206_7 ?_
    refine e_iload_n qX12_chart_108 rfl ?_
    refine e_iald qX12_chart_109 shq_209 lnq_209 h (fun v34 h => ?_)
    refine e_goto (tgt := 114) qX12_chart_110 rfl ?_
    exact e_weak (hj31 _ h) ⟨Or.inr rfl, Or.inr rfl, trivial⟩

set_option maxRecDepth 20000 in
set_option maxHeartbeats 4000000 in
theorem w_X12_chart_L123 {N : Nat}  {k38 : St → Option (Int32 × St)} {r : Int32} {sr : St}  (hk38 : ∀ (s39 : St), k38 s39 = some (r, sr) → E mX12_chart 6 (some (.int r), sr) 150 [some (.ref 206), none] [] s39) : ∀ (n40 : Nat) (v36 : Int32) (s37 : St), f_X12_chart_L123 N k38 n40 v36 s37 = some (r, sr) → E mX12_chart 6 (some (.int r), sr) 123 [some (.ref 206), some (.int v36)] [] s37 := by
  intro n40
  induction n40 with
  | zero =>
    intro v36 s37 h
    rw [f_X12_chart_L123] at h; cases h
  | succ n40 ih41 =>
    intro v36 s37 h
    rw [f_X12_chart_L123] at h
    refine e_iload_n qX12_chart_123 rfl ?_
    refine e_bipush (nI 12) qX12_chart_124 rfl ?_
    refine e_icmp_ge (tgt := 150) qX12_chart_126 rfl h (fun _ h => ?_) (fun _ h => ?_)
    · exact e_weak (hk38 _ h) ⟨Or.inr rfl, Or.inl rfl, trivial⟩
    refine e_aload_n qX12_chart_129 rfl ?_
    refine e_getr 211 qX12_chart_130 fl_X12_43 shq_206 kdq_11_9 rrq_206_9 ?_
    refine e_iload_n qX12_chart_133 rfl ?_
    refine e_aload_n qX12_chart_134 rfl ?_
    refine e_getr 211 qX12_chart_135 fl_X12_43 shq_206 kdq_11_9 rrq_206_9 ?_
    refine e_bipush (nI 12) qX12_chart_138 rfl ?_
    refine e_iload_n qX12_chart_140 rfl ?_
    refine e_iadd qX12_chart_141 ?_
    refine e_lald qX12_chart_142 shq_211 lnq_211 h (fun v42 h => ?_)
    refine e_last qX12_chart_143 shq_211 lnq_211 h (fun s43 h => ?_)
    refine vl_e h (fun h => ?_)
    obtain ⟨v44, ev44⟩ : ∃ y, v36 + (nI 1) = y := ⟨_, rfl⟩
    rw [ev44] at h
    refine e_iinc (nI 1) v44 (lv2 := [some (.ref 206), some (.int v44)]) qX12_chart_144 rfl rfl rfl ev44 rfl ?_
    refine e_goto (tgt := 123) qX12_chart_147 rfl ?_
    exact e_weak (ih41 _ _ h) ⟨Or.inr rfl, Or.inr rfl, trivial⟩

set_option maxRecDepth 20000 in
set_option maxHeartbeats 4000000 in
theorem w_X12_chart_L166 {N : Nat}  {k50 : St → Option (Int32 × St)} {r : Int32} {sr : St}  (hk50 : ∀ (s51 : St), k50 s51 = some (r, sr) → E mX12_chart 6 (some (.int r), sr) 216 [some (.ref 206), none] [] s51) : ∀ (n52 : Nat) (v48 : Int32) (s49 : St), f_X12_chart_L166 N k50 n52 v48 s49 = some (r, sr) → E mX12_chart 6 (some (.int r), sr) 166 [some (.ref 206), some (.int v48)] [] s49 := by
  intro n52
  induction n52 with
  | zero =>
    intro v48 s49 h
    rw [f_X12_chart_L166] at h; cases h
  | succ n52 ih53 =>
    intro v48 s49 h
    rw [f_X12_chart_L166] at h
    refine e_iload_n qX12_chart_166 rfl ?_
    refine e_bipush (nI 8) qX12_chart_167 rfl ?_
    refine e_icmp_ge (tgt := 216) qX12_chart_169 rfl h (fun _ h => ?_) (fun _ h => ?_)
    · exact e_weak (hk50 _ h) ⟨Or.inr rfl, Or.inl rfl, trivial⟩
    refine e_aload_n qX12_chart_172 rfl ?_
    refine e_getr 208 qX12_chart_173 fl_X12_33 shq_206 kdq_11_6 rrq_206_6 ?_
    refine e_sipush (nI 150) qX12_chart_176 rfl ?_
    refine e_iload_n qX12_chart_179 rfl ?_
    refine e_iadd qX12_chart_180 ?_
    refine e_aload_n qX12_chart_181 rfl ?_
    refine e_getr 208 qX12_chart_182 fl_X12_33 shq_206 kdq_11_6 rrq_206_6 ?_
    refine e_bipush (nI 35) qX12_chart_185 rfl ?_
    refine e_iload_n qX12_chart_187 rfl ?_
    refine e_iadd qX12_chart_188 ?_
    refine e_iald qX12_chart_189 shq_208 lnq_208 h (fun v54 h => ?_)
    refine e_iast qX12_chart_190 shq_208 lnq_208 h (fun s55 h => ?_)
    refine e_aload_n qX12_chart_191 rfl ?_
    refine e_getr 208 qX12_chart_192 fl_X12_33 shq_206 kdq_11_6 rrq_206_6 ?_
    refine e_sipush (nI 158) qX12_chart_195 rfl ?_
    refine e_iload_n qX12_chart_198 rfl ?_
    refine e_iadd qX12_chart_199 ?_
    refine e_aload_n qX12_chart_200 rfl ?_
    refine e_getr 208 qX12_chart_201 fl_X12_33 shq_206 kdq_11_6 rrq_206_6 ?_
    refine e_bipush (nI 115) qX12_chart_204 rfl ?_
    refine e_iload_n qX12_chart_206 rfl ?_
    refine e_iadd qX12_chart_207 ?_
    refine e_iald qX12_chart_208 shq_208 lnq_208 h (fun v56 h => ?_)
    refine e_iast qX12_chart_209 shq_208 lnq_208 h (fun s57 h => ?_)
    refine vl_e h (fun h => ?_)
    obtain ⟨v58, ev58⟩ : ∃ y, v48 + (nI 1) = y := ⟨_, rfl⟩
    rw [ev58] at h
    refine e_iinc (nI 1) v58 (lv2 := [some (.ref 206), some (.int v58)]) qX12_chart_210 rfl rfl rfl ev58 rfl ?_
    refine e_goto (tgt := 166) qX12_chart_213 rfl ?_
    exact e_weak (ih53 _ _ h) ⟨Or.inr rfl, Or.inr rfl, trivial⟩

set_option maxRecDepth 20000 in
set_option maxHeartbeats 4000000 in
theorem w_X12_chart_L218 {N : Nat}  {k62 : St → Option (Int32 × St)} {r : Int32} {sr : St}  (hk62 : ∀ (s63 : St), k62 s63 = some (r, sr) → E mX12_chart 6 (some (.int r), sr) 289 [some (.ref 206), none] [] s63) : ∀ (n64 : Nat) (v60 : Int32) (s61 : St), f_X12_chart_L218 N k62 n64 v60 s61 = some (r, sr) → E mX12_chart 6 (some (.int r), sr) 218 [some (.ref 206), some (.int v60)] [] s61 := by
  intro n64
  induction n64 with
  | zero =>
    intro v60 s61 h
    rw [f_X12_chart_L218] at h; cases h
  | succ n64 ih65 =>
    intro v60 s61 h
    rw [f_X12_chart_L218] at h
    refine e_iload_n qX12_chart_218 rfl ?_
    refine e_iconst (nI 4) qX12_chart_219 rfl ?_
    refine e_icmp_ge (tgt := 289) qX12_chart_220 rfl h (fun _ h => ?_) (fun _ h => ?_)
    · exact e_weak (hk62 _ h) ⟨Or.inr rfl, Or.inl rfl, trivial⟩
    refine e_aload_n qX12_chart_223 rfl ?_
    refine e_getr 208 qX12_chart_224 fl_X12_33 shq_206 kdq_11_6 rrq_206_6 ?_
    refine e_sipush (nI 166) qX12_chart_227 rfl ?_
    refine e_iload_n qX12_chart_230 rfl ?_
    refine e_iadd qX12_chart_231 ?_
    refine e_aload_n qX12_chart_232 rfl ?_
    refine e_getr 208 qX12_chart_233 fl_X12_33 shq_206 kdq_11_6 rrq_206_6 ?_
    refine e_sipush (nI 131) qX12_chart_236 rfl ?_
    refine e_iload_n qX12_chart_239 rfl ?_
    refine e_iadd qX12_chart_240 ?_
    refine e_iald qX12_chart_241 shq_208 lnq_208 h (fun v66 h => ?_)
    refine e_iast qX12_chart_242 shq_208 lnq_208 h (fun s67 h => ?_)
    refine e_aload_n qX12_chart_243 rfl ?_
    refine e_getr 208 qX12_chart_244 fl_X12_33 shq_206 kdq_11_6 rrq_206_6 ?_
    refine e_sipush (nI 170) qX12_chart_247 rfl ?_
    refine e_iload_n qX12_chart_250 rfl ?_
    refine e_iadd qX12_chart_251 ?_
    refine e_aload_n qX12_chart_252 rfl ?_
    refine e_getr 208 qX12_chart_253 fl_X12_33 shq_206 kdq_11_6 rrq_206_6 ?_
    refine e_sipush (nI 135) qX12_chart_256 rfl ?_
    refine e_iload_n qX12_chart_259 rfl ?_
    refine e_iadd qX12_chart_260 ?_
    refine e_iald qX12_chart_261 shq_208 lnq_208 h (fun v68 h => ?_)
    refine e_iast qX12_chart_262 shq_208 lnq_208 h (fun s69 h => ?_)
    refine e_aload_n qX12_chart_263 rfl ?_
    refine e_getr 208 qX12_chart_264 fl_X12_33 shq_206 kdq_11_6 rrq_206_6 ?_
    refine e_sipush (nI 174) qX12_chart_267 rfl ?_
    refine e_iload_n qX12_chart_270 rfl ?_
    refine e_iadd qX12_chart_271 ?_
    refine e_aload_n qX12_chart_272 rfl ?_
    refine e_getr 208 qX12_chart_273 fl_X12_33 shq_206 kdq_11_6 rrq_206_6 ?_
    refine e_sipush (nI 139) qX12_chart_276 rfl ?_
    refine e_iload_n qX12_chart_279 rfl ?_
    refine e_iadd qX12_chart_280 ?_
    refine e_iald qX12_chart_281 shq_208 lnq_208 h (fun v70 h => ?_)
    refine e_iast qX12_chart_282 shq_208 lnq_208 h (fun s71 h => ?_)
    refine vl_e h (fun h => ?_)
    obtain ⟨v72, ev72⟩ : ∃ y, v60 + (nI 1) = y := ⟨_, rfl⟩
    rw [ev72] at h
    refine e_iinc (nI 1) v72 (lv2 := [some (.ref 206), some (.int v72)]) qX12_chart_283 rfl rfl rfl ev72 rfl ?_
    refine e_goto (tgt := 218) qX12_chart_286 rfl ?_
    exact e_weak (ih65 _ _ h) ⟨Or.inr rfl, Or.inr rfl, trivial⟩

set_option maxRecDepth 20000 in
set_option maxHeartbeats 4000000 in
theorem w_X12_chart {N : Nat}  {s0 : St} {r : Int32} {sr : St} (h : f_X12_chart N  s0 = some (r, sr)) : Ct mX12_chart 6 [.ref 206] s0 (some (.int r), sr) := by
  refine Ct.ofE (by decide +kernel) rfl ?_
  show E mX12_chart 6 (some (.int r), sr) 0 [some (.ref 206), none] [] s0
  unfold f_X12_chart at h
  refine e_aload_n qX12_chart_0 rfl ?_
  refine e_iconst (nI 0) qX12_chart_1 rfl ?_
  refine e_puti qX12_chart_2 fp_X12_1 shq_206 kdq_11_0 h (fun s1 h => ?_)
  refine e_aload_n qX12_chart_5 rfl ?_
  refine e_sipush (nI 900) qX12_chart_6 rfl ?_
  obtain ⟨s2, hc, h⟩ := bp_e h
  refine e_cVv1 qX12_chart_9 mv_X12_246 shq_206 rfl rfl (w_X12_taken hc) ?_
  refine e_aload_n qX12_chart_12 rfl ?_
  refine e_iconst (nI 0) qX12_chart_13 rfl ?_
  refine e_puti qX12_chart_14 fp_X12_171 shq_206 kdq_11_15 h (fun s3 h => ?_)
  refine e_aload_n qX12_chart_17 rfl ?_
  refine e_iconst (nI 0) qX12_chart_18 rfl ?_
  refine e_puti qX12_chart_19 fp_X12_249 shq_206 kdq_11_19 h (fun s4 h => ?_)
  refine e_aload_n qX12_chart_22 rfl ?_
  refine e_iconst (nI 0) qX12_chart_23 rfl ?_
  refine e_puti qX12_chart_24 fp_X12_237 shq_206 kdq_11_20 h (fun s5 h => ?_)
  refine e_aload_n qX12_chart_27 rfl ?_
  refine e_iconst (nI 0) qX12_chart_28 rfl ?_
  refine e_putz qX12_chart_29 fp_X12_227 shq_206 kdq_11_21 (by decide) h (fun s6 h => ?_)
  refine e_aload_n qX12_chart_32 rfl ?_
  obtain ⟨s7, hc, h⟩ := bp_e h
  refine e_cVv0 qX12_chart_33 mv_X12_141 shq_206 rfl rfl (w_X12_clears hc) ?_
  refine e_aload_n qX12_chart_36 rfl ?_
  obtain ⟨s8, hc, h⟩ := bp_e h
  refine e_cVv0 qX12_chart_37 mv_X12_183 shq_206 rfl rfl (w_X12_next hc) ?_
  refine e_weak (w_X12_chart_L40 (fun s23 h => ?_) (fun s76 h => ?_) _ _ h) ⟨Or.inr rfl, Or.inl rfl, trivial⟩
  · refine e_iconst (nI 0) qX12_chart_83 rfl ?_
    refine e_istore_n (lv2 := [some (.ref 206), some (.int (nI 0))]) qX12_chart_84 rfl rfl rfl ?_
    refine e_weak (w_X12_chart_L85 (fun s35 h => ?_) _ _ _ h) ⟨Or.inr rfl, Or.inr rfl, trivial⟩
    refine e_iconst (nI 0) qX12_chart_121 rfl ?_
    refine e_istore_n (lv2 := [some (.ref 206), some (.int (nI 0))]) qX12_chart_122 rfl rfl rfl ?_
    refine e_weak (w_X12_chart_L123 (fun s45 h => ?_) _ _ _ h) ⟨Or.inr rfl, Or.inr rfl, trivial⟩
    refine e_aload_n qX12_chart_150 rfl ?_
    refine e_getr 208 qX12_chart_151 fl_X12_33 shq_206 kdq_11_6 rrq_206_6 ?_
    refine e_sipush (nI 149) qX12_chart_154 rfl ?_
    refine e_aload_n qX12_chart_157 rfl ?_
    refine e_getr 208 qX12_chart_158 fl_X12_33 shq_206 kdq_11_6 rrq_206_6 ?_
    refine e_iconst (nI 2) qX12_chart_161 rfl ?_
    refine e_iald qX12_chart_162 shq_208 lnq_208 h (fun v46 h => ?_)
    refine e_iast qX12_chart_163 shq_208 lnq_208 h (fun s47 h => ?_)
    refine e_iconst (nI 0) qX12_chart_164 rfl ?_
    refine e_istore_n (lv2 := [some (.ref 206), some (.int (nI 0))]) qX12_chart_165 rfl rfl rfl ?_
    refine e_weak (w_X12_chart_L166 (fun s59 h => ?_) _ _ _ h) ⟨Or.inr rfl, Or.inr rfl, trivial⟩
    refine e_iconst (nI 0) qX12_chart_216 rfl ?_
    refine e_istore_n (lv2 := [some (.ref 206), some (.int (nI 0))]) qX12_chart_217 rfl rfl rfl ?_
    refine e_weak (w_X12_chart_L218 (fun s73 h => ?_) _ _ _ h) ⟨Or.inr rfl, Or.inr rfl, trivial⟩
    refine e_aload_n qX12_chart_289 rfl ?_
    refine e_iconst (nI 0) qX12_chart_290 rfl ?_
    refine e_puti qX12_chart_291 fp_X12_258 shq_206 kdq_11_24 h (fun s74 h => ?_)
    refine e_aload_n qX12_chart_294 rfl ?_
    refine e_geti qX12_chart_295 fl_X12_249 shq_206 kdq_11_19 h (fun v75 h => ?_)
    exact e_iret qX12_chart_298 rfl (ret_i h)
  refine e_iconst (-1) qX12_chart_63 rfl ?_
  refine e_aload_n qX12_chart_64 rfl ?_
  refine e_geti qX12_chart_65 fl_X12_174 shq_206 kdq_11_16 h (fun v77 h => ?_)
  refine e_isub qX12_chart_68 ?_
  exact e_iret qX12_chart_69 rfl (ret_i h)

def f_X12_douse (N : Nat) (x1 : Int32) (s0 : St) : Option (Int32 × St) :=
  vl (sI s0 206 0 (nI 0)) fun s1 =>
  bp (f_X12_isLight x1 s1) fun v2 =>
  if v2 = 0 then
    some ((-1), s1)
  else
  ald (s1.1 208) 359 (nI 148) fun v3 =>
  bp (f_X12_bitOf v3 x1 s1) fun v4 =>
  if v4 = 0 then
    bp (f_X12_stores N s1) fun s5 =>
    ald (s5.1 208) 359 (nI 148) fun v6 =>
    ald (fun j => sI s5 208 j (v6 ||| ((nI 1) <<< (x1 &&& 31)))) 359 (nI 148) fun s7 =>
    some ((nI 0), s7)
  else
  some ((nI 1), s1)

theorem qX12_douse_0 : Dc mX12_douse 0 (.aload_n 0) 1 1 := ⟨by decide +kernel, rfl⟩
theorem qX12_douse_1 : Dc mX12_douse 1 (.iconst 0) 1 2 := ⟨by decide +kernel, rfl⟩
theorem qX12_douse_2 : Dc mX12_douse 2 (.putfield 1) 3 5 := ⟨by decide +kernel, rfl⟩
theorem qX12_douse_5 : Dc mX12_douse 5 (.aload_n 0) 1 6 := ⟨by decide +kernel, rfl⟩
theorem qX12_douse_6 : Dc mX12_douse 6 (.iload_n 1) 1 7 := ⟨by decide +kernel, rfl⟩
theorem qX12_douse_7 : Dc mX12_douse 7 (.invokevirtual 294) 3 10 := ⟨by decide +kernel, rfl⟩
theorem qX12_douse_10 : Dc mX12_douse 10 (.ifCond .ne 5) 3 13 := ⟨by decide +kernel, rfl⟩
theorem qX12_douse_13 : Dc mX12_douse 13 (.iconst (-1)) 1 14 := ⟨by decide +kernel, rfl⟩
theorem qX12_douse_14 : Dc mX12_douse 14 (.ireturn) 1 15 := ⟨by decide +kernel, rfl⟩
theorem qX12_douse_15 : Dc mX12_douse 15 (.aload_n 0) 1 16 := ⟨by decide +kernel, rfl⟩
theorem qX12_douse_16 : Dc mX12_douse 16 (.getfield 33) 3 19 := ⟨by decide +kernel, rfl⟩
theorem qX12_douse_19 : Dc mX12_douse 19 (.sipush 148) 3 22 := ⟨by decide +kernel, rfl⟩
theorem qX12_douse_22 : Dc mX12_douse 22 (.iaload) 1 23 := ⟨by decide +kernel, rfl⟩
theorem qX12_douse_23 : Dc mX12_douse 23 (.iload_n 1) 1 24 := ⟨by decide +kernel, rfl⟩
theorem qX12_douse_24 : Dc mX12_douse 24 (.invokestatic 240) 3 27 := ⟨by decide +kernel, rfl⟩
theorem qX12_douse_27 : Dc mX12_douse 27 (.ifCond .eq 5) 3 30 := ⟨by decide +kernel, rfl⟩
theorem qX12_douse_30 : Dc mX12_douse 30 (.iconst 1) 1 31 := ⟨by decide +kernel, rfl⟩
theorem qX12_douse_31 : Dc mX12_douse 31 (.ireturn) 1 32 := ⟨by decide +kernel, rfl⟩
theorem qX12_douse_32 : Dc mX12_douse 32 (.aload_n 0) 1 33 := ⟨by decide +kernel, rfl⟩
theorem qX12_douse_33 : Dc mX12_douse 33 (.invokevirtual 325) 3 36 := ⟨by decide +kernel, rfl⟩
theorem qX12_douse_36 : Dc mX12_douse 36 (.aload_n 0) 1 37 := ⟨by decide +kernel, rfl⟩
theorem qX12_douse_37 : Dc mX12_douse 37 (.getfield 33) 3 40 := ⟨by decide +kernel, rfl⟩
theorem qX12_douse_40 : Dc mX12_douse 40 (.sipush 148) 3 43 := ⟨by decide +kernel, rfl⟩
theorem qX12_douse_43 : Dc mX12_douse 43 (.dup2) 1 44 := ⟨by decide +kernel, rfl⟩
theorem qX12_douse_44 : Dc mX12_douse 44 (.iaload) 1 45 := ⟨by decide +kernel, rfl⟩
theorem qX12_douse_45 : Dc mX12_douse 45 (.iconst 1) 1 46 := ⟨by decide +kernel, rfl⟩
theorem qX12_douse_46 : Dc mX12_douse 46 (.iload_n 1) 1 47 := ⟨by decide +kernel, rfl⟩
theorem qX12_douse_47 : Dc mX12_douse 47 (.ishl) 1 48 := ⟨by decide +kernel, rfl⟩
theorem qX12_douse_48 : Dc mX12_douse 48 (.ior) 1 49 := ⟨by decide +kernel, rfl⟩
theorem qX12_douse_49 : Dc mX12_douse 49 (.iastore) 1 50 := ⟨by decide +kernel, rfl⟩
theorem qX12_douse_50 : Dc mX12_douse 50 (.iconst 0) 1 51 := ⟨by decide +kernel, rfl⟩
theorem qX12_douse_51 : Dc mX12_douse 51 (.ireturn) 1 52 := ⟨by decide +kernel, rfl⟩

set_option maxRecDepth 20000 in
set_option maxHeartbeats 4000000 in
theorem w_X12_douse {N : Nat} {x1 : Int32} {s0 : St} {r : Int32} {sr : St} (h : f_X12_douse N x1 s0 = some (r, sr)) : Ct mX12_douse 2 [.ref 206, .int x1] s0 (some (.int r), sr) := by
  refine Ct.ofE (by decide +kernel) rfl ?_
  show E mX12_douse 2 (some (.int r), sr) 0 [some (.ref 206), some (.int x1)] [] s0
  unfold f_X12_douse at h
  refine e_aload_n qX12_douse_0 rfl ?_
  refine e_iconst (nI 0) qX12_douse_1 rfl ?_
  refine e_puti qX12_douse_2 fp_X12_1 shq_206 kdq_11_0 h (fun s1 h => ?_)
  refine e_aload_n qX12_douse_5 rfl ?_
  refine e_iload_n qX12_douse_6 rfl ?_
  obtain ⟨v2, hc, h⟩ := bp_e h
  refine e_cVi1 qX12_douse_7 mv_X12_294 shq_206 rfl rfl (w_X12_isLight hc) ?_
  refine e_if_ne (tgt := 15) qX12_douse_10 rfl h (fun _ h => ?_) (fun _ h => ?_)
  · refine e_iconst (-1) qX12_douse_13 rfl ?_
    exact e_iret qX12_douse_14 rfl (ret_i h)
  refine e_aload_n qX12_douse_15 rfl ?_
  refine e_getr 208 qX12_douse_16 fl_X12_33 shq_206 kdq_11_6 rrq_206_6 ?_
  refine e_sipush (nI 148) qX12_douse_19 rfl ?_
  refine e_iald qX12_douse_22 shq_208 lnq_208 h (fun v3 h => ?_)
  refine e_iload_n qX12_douse_23 rfl ?_
  obtain ⟨v4, hc, h⟩ := bp_e h
  refine e_cSi2 qX12_douse_24 ms_X12_240 rfl rfl (w_X12_bitOf hc) ?_
  refine e_if_eq (tgt := 32) qX12_douse_27 rfl h (fun _ h => ?_) (fun _ h => ?_)
  · refine e_aload_n qX12_douse_32 rfl ?_
    obtain ⟨s5, hc, h⟩ := bp_e h
    refine e_cVv0 qX12_douse_33 mv_X12_325 shq_206 rfl rfl (w_X12_stores hc) ?_
    refine e_aload_n qX12_douse_36 rfl ?_
    refine e_getr 208 qX12_douse_37 fl_X12_33 shq_206 kdq_11_6 rrq_206_6 ?_
    refine e_sipush (nI 148) qX12_douse_40 rfl ?_
    refine e_dup2 qX12_douse_43 rfl rfl ?_
    refine e_iald qX12_douse_44 shq_208 lnq_208 h (fun v6 h => ?_)
    refine e_iconst (nI 1) qX12_douse_45 rfl ?_
    refine e_iload_n qX12_douse_46 rfl ?_
    refine e_ishl qX12_douse_47 ?_
    refine e_ior qX12_douse_48 ?_
    refine e_iast qX12_douse_49 shq_208 lnq_208 h (fun s7 h => ?_)
    refine e_iconst (nI 0) qX12_douse_50 rfl ?_
    exact e_iret qX12_douse_51 rfl (ret_i h)
  refine e_iconst (nI 1) qX12_douse_30 rfl ?_
  exact e_iret qX12_douse_31 rfl (ret_i h)

def f_X12_kindle (N : Nat) (x1 : Int32) (s0 : St) : Option (Int32 × St) :=
  vl (sI s0 206 0 (nI 0)) fun s1 =>
  bp (f_X12_isLight x1 s1) fun v2 =>
  if v2 = 0 then
    some ((-1), s1)
  else
  bp (f_X12_whyKindle x1 s1) fun v3 =>
  if v3 ≤ 0 then
    bp (f_X12_stores N s1) fun s4 =>
    ald (s4.1 208) 359 (nI 148) fun v5 =>
    ald (fun j => sI s4 208 j (v5 &&& (((nI 1) <<< (x1 &&& 31)) ^^^ (-1)))) 359 (nI 148) fun s6 =>
    some ((nI 0), s6)
  else
  some (v3, s1)

theorem qX12_kindle_0 : Dc mX12_kindle 0 (.aload_n 0) 1 1 := ⟨by decide +kernel, rfl⟩
theorem qX12_kindle_1 : Dc mX12_kindle 1 (.iconst 0) 1 2 := ⟨by decide +kernel, rfl⟩
theorem qX12_kindle_2 : Dc mX12_kindle 2 (.putfield 1) 3 5 := ⟨by decide +kernel, rfl⟩
theorem qX12_kindle_5 : Dc mX12_kindle 5 (.aload_n 0) 1 6 := ⟨by decide +kernel, rfl⟩
theorem qX12_kindle_6 : Dc mX12_kindle 6 (.iload_n 1) 1 7 := ⟨by decide +kernel, rfl⟩
theorem qX12_kindle_7 : Dc mX12_kindle 7 (.invokevirtual 294) 3 10 := ⟨by decide +kernel, rfl⟩
theorem qX12_kindle_10 : Dc mX12_kindle 10 (.ifCond .ne 5) 3 13 := ⟨by decide +kernel, rfl⟩
theorem qX12_kindle_13 : Dc mX12_kindle 13 (.iconst (-1)) 1 14 := ⟨by decide +kernel, rfl⟩
theorem qX12_kindle_14 : Dc mX12_kindle 14 (.ireturn) 1 15 := ⟨by decide +kernel, rfl⟩
theorem qX12_kindle_15 : Dc mX12_kindle 15 (.aload_n 0) 1 16 := ⟨by decide +kernel, rfl⟩
theorem qX12_kindle_16 : Dc mX12_kindle 16 (.iload_n 1) 1 17 := ⟨by decide +kernel, rfl⟩
theorem qX12_kindle_17 : Dc mX12_kindle 17 (.invokevirtual 328) 3 20 := ⟨by decide +kernel, rfl⟩
theorem qX12_kindle_20 : Dc mX12_kindle 20 (.istore_n 2) 1 21 := ⟨by decide +kernel, rfl⟩
theorem qX12_kindle_21 : Dc mX12_kindle 21 (.iload_n 2) 1 22 := ⟨by decide +kernel, rfl⟩
theorem qX12_kindle_22 : Dc mX12_kindle 22 (.ifCond .le 5) 3 25 := ⟨by decide +kernel, rfl⟩
theorem qX12_kindle_25 : Dc mX12_kindle 25 (.iload_n 2) 1 26 := ⟨by decide +kernel, rfl⟩
theorem qX12_kindle_26 : Dc mX12_kindle 26 (.ireturn) 1 27 := ⟨by decide +kernel, rfl⟩
theorem qX12_kindle_27 : Dc mX12_kindle 27 (.aload_n 0) 1 28 := ⟨by decide +kernel, rfl⟩
theorem qX12_kindle_28 : Dc mX12_kindle 28 (.invokevirtual 325) 3 31 := ⟨by decide +kernel, rfl⟩
theorem qX12_kindle_31 : Dc mX12_kindle 31 (.aload_n 0) 1 32 := ⟨by decide +kernel, rfl⟩
theorem qX12_kindle_32 : Dc mX12_kindle 32 (.getfield 33) 3 35 := ⟨by decide +kernel, rfl⟩
theorem qX12_kindle_35 : Dc mX12_kindle 35 (.sipush 148) 3 38 := ⟨by decide +kernel, rfl⟩
theorem qX12_kindle_38 : Dc mX12_kindle 38 (.dup2) 1 39 := ⟨by decide +kernel, rfl⟩
theorem qX12_kindle_39 : Dc mX12_kindle 39 (.iaload) 1 40 := ⟨by decide +kernel, rfl⟩
theorem qX12_kindle_40 : Dc mX12_kindle 40 (.iconst 1) 1 41 := ⟨by decide +kernel, rfl⟩
theorem qX12_kindle_41 : Dc mX12_kindle 41 (.iload_n 1) 1 42 := ⟨by decide +kernel, rfl⟩
theorem qX12_kindle_42 : Dc mX12_kindle 42 (.ishl) 1 43 := ⟨by decide +kernel, rfl⟩
theorem qX12_kindle_43 : Dc mX12_kindle 43 (.iconst (-1)) 1 44 := ⟨by decide +kernel, rfl⟩
theorem qX12_kindle_44 : Dc mX12_kindle 44 (.ixor) 1 45 := ⟨by decide +kernel, rfl⟩
theorem qX12_kindle_45 : Dc mX12_kindle 45 (.iand) 1 46 := ⟨by decide +kernel, rfl⟩
theorem qX12_kindle_46 : Dc mX12_kindle 46 (.iastore) 1 47 := ⟨by decide +kernel, rfl⟩
theorem qX12_kindle_47 : Dc mX12_kindle 47 (.iconst 0) 1 48 := ⟨by decide +kernel, rfl⟩
theorem qX12_kindle_48 : Dc mX12_kindle 48 (.ireturn) 1 49 := ⟨by decide +kernel, rfl⟩

set_option maxRecDepth 20000 in
set_option maxHeartbeats 4000000 in
theorem w_X12_kindle {N : Nat} {x1 : Int32} {s0 : St} {r : Int32} {sr : St} (h : f_X12_kindle N x1 s0 = some (r, sr)) : Ct mX12_kindle 2 [.ref 206, .int x1] s0 (some (.int r), sr) := by
  refine Ct.ofE (by decide +kernel) rfl ?_
  show E mX12_kindle 2 (some (.int r), sr) 0 [some (.ref 206), some (.int x1), none] [] s0
  unfold f_X12_kindle at h
  refine e_aload_n qX12_kindle_0 rfl ?_
  refine e_iconst (nI 0) qX12_kindle_1 rfl ?_
  refine e_puti qX12_kindle_2 fp_X12_1 shq_206 kdq_11_0 h (fun s1 h => ?_)
  refine e_aload_n qX12_kindle_5 rfl ?_
  refine e_iload_n qX12_kindle_6 rfl ?_
  obtain ⟨v2, hc, h⟩ := bp_e h
  refine e_cVi1 qX12_kindle_7 mv_X12_294 shq_206 rfl rfl (w_X12_isLight hc) ?_
  refine e_if_ne (tgt := 15) qX12_kindle_10 rfl h (fun _ h => ?_) (fun _ h => ?_)
  · refine e_iconst (-1) qX12_kindle_13 rfl ?_
    exact e_iret qX12_kindle_14 rfl (ret_i h)
  refine e_aload_n qX12_kindle_15 rfl ?_
  refine e_iload_n qX12_kindle_16 rfl ?_
  obtain ⟨v3, hc, h⟩ := bp_e h
  refine e_cVi1 qX12_kindle_17 mv_X12_328 shq_206 rfl rfl (w_X12_whyKindle hc) ?_
  refine e_istore_n (lv2 := [some (.ref 206), some (.int x1), some (.int v3)]) qX12_kindle_20 rfl rfl rfl ?_
  refine e_iload_n qX12_kindle_21 rfl ?_
  refine e_if_le (tgt := 27) qX12_kindle_22 rfl h (fun _ h => ?_) (fun _ h => ?_)
  · refine e_aload_n qX12_kindle_27 rfl ?_
    obtain ⟨s4, hc, h⟩ := bp_e h
    refine e_cVv0 qX12_kindle_28 mv_X12_325 shq_206 rfl rfl (w_X12_stores hc) ?_
    refine e_aload_n qX12_kindle_31 rfl ?_
    refine e_getr 208 qX12_kindle_32 fl_X12_33 shq_206 kdq_11_6 rrq_206_6 ?_
    refine e_sipush (nI 148) qX12_kindle_35 rfl ?_
    refine e_dup2 qX12_kindle_38 rfl rfl ?_
    refine e_iald qX12_kindle_39 shq_208 lnq_208 h (fun v5 h => ?_)
    refine e_iconst (nI 1) qX12_kindle_40 rfl ?_
    refine e_iload_n qX12_kindle_41 rfl ?_
    refine e_ishl qX12_kindle_42 ?_
    refine e_iconst (-1) qX12_kindle_43 rfl ?_
    refine e_ixor qX12_kindle_44 ?_
    refine e_iand qX12_kindle_45 ?_
    refine e_iast qX12_kindle_46 shq_208 lnq_208 h (fun s6 h => ?_)
    refine e_iconst (nI 0) qX12_kindle_47 rfl ?_
    exact e_iret qX12_kindle_48 rfl (ret_i h)
  refine e_iload_n qX12_kindle_25 rfl ?_
  exact e_iret qX12_kindle_26 rfl (ret_i h)

def f_X12_fill (N : Nat) (x1 : Int32) (x2 : Int32) (s0 : St) : Option (Int32 × St) :=
  vl (sI s0 206 0 (nI 0)) fun s1 =>
  bp (f_X12_isLight x1 s1) fun v2 =>
  if v2 = 0 then
    some ((-1), s1)
  else
  bp (f_X12_isIn x2 (nI 1) (nI 999) s1) fun v3 =>
  if v3 = 0 then
    some ((-1), s1)
  else
  bp (f_X12_whyFill x1 x2 s1) fun v4 =>
  if v4 ≤ 0 then
    bp (f_X12_stores N s1) fun s5 =>
    ald (s5.1 208) 359 ((nI 150) + x1) fun v6 =>
    ald (fun j => sI s5 208 j (v6 + x2)) 359 ((nI 150) + x1) fun s7 =>
    some ((nI 0), s7)
  else
  some ((nI 1), s1)

theorem qX12_fill_0 : Dc mX12_fill 0 (.aload_n 0) 1 1 := ⟨by decide +kernel, rfl⟩
theorem qX12_fill_1 : Dc mX12_fill 1 (.iconst 0) 1 2 := ⟨by decide +kernel, rfl⟩
theorem qX12_fill_2 : Dc mX12_fill 2 (.putfield 1) 3 5 := ⟨by decide +kernel, rfl⟩
theorem qX12_fill_5 : Dc mX12_fill 5 (.aload_n 0) 1 6 := ⟨by decide +kernel, rfl⟩
theorem qX12_fill_6 : Dc mX12_fill 6 (.iload_n 1) 1 7 := ⟨by decide +kernel, rfl⟩
theorem qX12_fill_7 : Dc mX12_fill 7 (.invokevirtual 294) 3 10 := ⟨by decide +kernel, rfl⟩
theorem qX12_fill_10 : Dc mX12_fill 10 (.ifCond .eq 14) 3 13 := ⟨by decide +kernel, rfl⟩
theorem qX12_fill_13 : Dc mX12_fill 13 (.iload_n 2) 1 14 := ⟨by decide +kernel, rfl⟩
theorem qX12_fill_14 : Dc mX12_fill 14 (.iconst 1) 1 15 := ⟨by decide +kernel, rfl⟩
theorem qX12_fill_15 : Dc mX12_fill 15 (.sipush 999) 3 18 := ⟨by decide +kernel, rfl⟩
theorem qX12_fill_18 : Dc mX12_fill 18 (.invokestatic 186) 3 21 := ⟨by decide +kernel, rfl⟩
theorem qX12_fill_21 : Dc mX12_fill 21 (.ifCond .ne 5) 3 24 := ⟨by decide +kernel, rfl⟩
theorem qX12_fill_24 : Dc mX12_fill 24 (.iconst (-1)) 1 25 := ⟨by decide +kernel, rfl⟩
theorem qX12_fill_25 : Dc mX12_fill 25 (.ireturn) 1 26 := ⟨by decide +kernel, rfl⟩
theorem qX12_fill_26 : Dc mX12_fill 26 (.aload_n 0) 1 27 := ⟨by decide +kernel, rfl⟩
theorem qX12_fill_27 : Dc mX12_fill 27 (.iload_n 1) 1 28 := ⟨by decide +kernel, rfl⟩
theorem qX12_fill_28 : Dc mX12_fill 28 (.iload_n 2) 1 29 := ⟨by decide +kernel, rfl⟩
theorem qX12_fill_29 : Dc mX12_fill 29 (.invokevirtual 331) 3 32 := ⟨by decide +kernel, rfl⟩
theorem qX12_fill_32 : Dc mX12_fill 32 (.ifCond .le 5) 3 35 := ⟨by decide +kernel, rfl⟩
theorem qX12_fill_35 : Dc mX12_fill 35 (.iconst 1) 1 36 := ⟨by decide +kernel, rfl⟩
theorem qX12_fill_36 : Dc mX12_fill 36 (.ireturn) 1 37 := ⟨by decide +kernel, rfl⟩
theorem qX12_fill_37 : Dc mX12_fill 37 (.aload_n 0) 1 38 := ⟨by decide +kernel, rfl⟩
theorem qX12_fill_38 : Dc mX12_fill 38 (.invokevirtual 325) 3 41 := ⟨by decide +kernel, rfl⟩
theorem qX12_fill_41 : Dc mX12_fill 41 (.aload_n 0) 1 42 := ⟨by decide +kernel, rfl⟩
theorem qX12_fill_42 : Dc mX12_fill 42 (.getfield 33) 3 45 := ⟨by decide +kernel, rfl⟩
theorem qX12_fill_45 : Dc mX12_fill 45 (.sipush 150) 3 48 := ⟨by decide +kernel, rfl⟩
theorem qX12_fill_48 : Dc mX12_fill 48 (.iload_n 1) 1 49 := ⟨by decide +kernel, rfl⟩
theorem qX12_fill_49 : Dc mX12_fill 49 (.iadd) 1 50 := ⟨by decide +kernel, rfl⟩
theorem qX12_fill_50 : Dc mX12_fill 50 (.dup2) 1 51 := ⟨by decide +kernel, rfl⟩
theorem qX12_fill_51 : Dc mX12_fill 51 (.iaload) 1 52 := ⟨by decide +kernel, rfl⟩
theorem qX12_fill_52 : Dc mX12_fill 52 (.iload_n 2) 1 53 := ⟨by decide +kernel, rfl⟩
theorem qX12_fill_53 : Dc mX12_fill 53 (.iadd) 1 54 := ⟨by decide +kernel, rfl⟩
theorem qX12_fill_54 : Dc mX12_fill 54 (.iastore) 1 55 := ⟨by decide +kernel, rfl⟩
theorem qX12_fill_55 : Dc mX12_fill 55 (.iconst 0) 1 56 := ⟨by decide +kernel, rfl⟩
theorem qX12_fill_56 : Dc mX12_fill 56 (.ireturn) 1 57 := ⟨by decide +kernel, rfl⟩

set_option maxRecDepth 20000 in
set_option maxHeartbeats 4000000 in
theorem w_X12_fill {N : Nat} {x1 : Int32} {x2 : Int32} {s0 : St} {r : Int32} {sr : St} (h : f_X12_fill N x1 x2 s0 = some (r, sr)) : Ct mX12_fill 2 [.ref 206, .int x1, .int x2] s0 (some (.int r), sr) := by
  refine Ct.ofE (by decide +kernel) rfl ?_
  show E mX12_fill 2 (some (.int r), sr) 0 [some (.ref 206), some (.int x1), some (.int x2)] [] s0
  unfold f_X12_fill at h
  refine e_aload_n qX12_fill_0 rfl ?_
  refine e_iconst (nI 0) qX12_fill_1 rfl ?_
  refine e_puti qX12_fill_2 fp_X12_1 shq_206 kdq_11_0 h (fun s1 h => ?_)
  refine e_aload_n qX12_fill_5 rfl ?_
  refine e_iload_n qX12_fill_6 rfl ?_
  obtain ⟨v2, hc, h⟩ := bp_e h
  refine e_cVi1 qX12_fill_7 mv_X12_294 shq_206 rfl rfl (w_X12_isLight hc) ?_
  refine e_if_eq (tgt := 24) qX12_fill_10 rfl h (fun _ h => ?_) (fun _ h => ?_)
  · refine e_iconst (-1) qX12_fill_24 rfl ?_
    exact e_iret qX12_fill_25 rfl (ret_i h)
  refine e_iload_n qX12_fill_13 rfl ?_
  refine e_iconst (nI 1) qX12_fill_14 rfl ?_
  refine e_sipush (nI 999) qX12_fill_15 rfl ?_
  obtain ⟨v3, hc, h⟩ := bp_e h
  refine e_cSi3 qX12_fill_18 ms_X12_186 rfl rfl (w_X12_isIn hc) ?_
  refine e_if_ne (tgt := 26) qX12_fill_21 rfl h (fun _ h => ?_) (fun _ h => ?_)
  · refine e_iconst (-1) qX12_fill_24 rfl ?_
    exact e_iret qX12_fill_25 rfl (ret_i h)
  refine e_aload_n qX12_fill_26 rfl ?_
  refine e_iload_n qX12_fill_27 rfl ?_
  refine e_iload_n qX12_fill_28 rfl ?_
  obtain ⟨v4, hc, h⟩ := bp_e h
  refine e_cVi2 qX12_fill_29 mv_X12_331 shq_206 rfl rfl (w_X12_whyFill hc) ?_
  refine e_if_le (tgt := 37) qX12_fill_32 rfl h (fun _ h => ?_) (fun _ h => ?_)
  · refine e_aload_n qX12_fill_37 rfl ?_
    obtain ⟨s5, hc, h⟩ := bp_e h
    refine e_cVv0 qX12_fill_38 mv_X12_325 shq_206 rfl rfl (w_X12_stores hc) ?_
    refine e_aload_n qX12_fill_41 rfl ?_
    refine e_getr 208 qX12_fill_42 fl_X12_33 shq_206 kdq_11_6 rrq_206_6 ?_
    refine e_sipush (nI 150) qX12_fill_45 rfl ?_
    refine e_iload_n qX12_fill_48 rfl ?_
    refine e_iadd qX12_fill_49 ?_
    refine e_dup2 qX12_fill_50 rfl rfl ?_
    refine e_iald qX12_fill_51 shq_208 lnq_208 h (fun v6 h => ?_)
    refine e_iload_n qX12_fill_52 rfl ?_
    refine e_iadd qX12_fill_53 ?_
    refine e_iast qX12_fill_54 shq_208 lnq_208 h (fun s7 h => ?_)
    refine e_iconst (nI 0) qX12_fill_55 rfl ?_
    exact e_iret qX12_fill_56 rfl (ret_i h)
  refine e_iconst (nI 1) qX12_fill_35 rfl ?_
  exact e_iret qX12_fill_36 rfl (ret_i h)

def f_X12_shift (N : Nat) (x1 : Int32) (x2 : Int32) (s0 : St) : Option (Int32 × St) :=
  vl (sI s0 206 0 (nI 0)) fun s1 =>
  bp (f_X12_isLight x1 s1) fun v2 =>
  if v2 = 0 then
    some ((-1), s1)
  else
  bp (f_X12_isIn x2 (nI 1) (nI 59) s1) fun v3 =>
  if v3 = 0 then
    some ((-1), s1)
  else
  ald (s1.1 208) 359 ((nI 43) + x1) fun v4 =>
  if v4 = 0 then
    some ((nI 1), s1)
  else
  bp (f_X12_stores N s1) fun s5 =>
  bp (f_X12_turns N x1 x2 s5) fun s6 =>
  some ((nI 0), s6)

theorem qX12_shift_0 : Dc mX12_shift 0 (.aload_n 0) 1 1 := ⟨by decide +kernel, rfl⟩
theorem qX12_shift_1 : Dc mX12_shift 1 (.iconst 0) 1 2 := ⟨by decide +kernel, rfl⟩
theorem qX12_shift_2 : Dc mX12_shift 2 (.putfield 1) 3 5 := ⟨by decide +kernel, rfl⟩
theorem qX12_shift_5 : Dc mX12_shift 5 (.aload_n 0) 1 6 := ⟨by decide +kernel, rfl⟩
theorem qX12_shift_6 : Dc mX12_shift 6 (.iload_n 1) 1 7 := ⟨by decide +kernel, rfl⟩
theorem qX12_shift_7 : Dc mX12_shift 7 (.invokevirtual 294) 3 10 := ⟨by decide +kernel, rfl⟩
theorem qX12_shift_10 : Dc mX12_shift 10 (.ifCond .eq 13) 3 13 := ⟨by decide +kernel, rfl⟩
theorem qX12_shift_13 : Dc mX12_shift 13 (.iload_n 2) 1 14 := ⟨by decide +kernel, rfl⟩
theorem qX12_shift_14 : Dc mX12_shift 14 (.iconst 1) 1 15 := ⟨by decide +kernel, rfl⟩
theorem qX12_shift_15 : Dc mX12_shift 15 (.bipush 59) 2 17 := ⟨by decide +kernel, rfl⟩
theorem qX12_shift_17 : Dc mX12_shift 17 (.invokestatic 186) 3 20 := ⟨by decide +kernel, rfl⟩
theorem qX12_shift_20 : Dc mX12_shift 20 (.ifCond .ne 5) 3 23 := ⟨by decide +kernel, rfl⟩
theorem qX12_shift_23 : Dc mX12_shift 23 (.iconst (-1)) 1 24 := ⟨by decide +kernel, rfl⟩
theorem qX12_shift_24 : Dc mX12_shift 24 (.ireturn) 1 25 := ⟨by decide +kernel, rfl⟩
theorem qX12_shift_25 : Dc mX12_shift 25 (.aload_n 0) 1 26 := ⟨by decide +kernel, rfl⟩
theorem qX12_shift_26 : Dc mX12_shift 26 (.getfield 33) 3 29 := ⟨by decide +kernel, rfl⟩
theorem qX12_shift_29 : Dc mX12_shift 29 (.bipush 43) 2 31 := ⟨by decide +kernel, rfl⟩
theorem qX12_shift_31 : Dc mX12_shift 31 (.iload_n 1) 1 32 := ⟨by decide +kernel, rfl⟩
theorem qX12_shift_32 : Dc mX12_shift 32 (.iadd) 1 33 := ⟨by decide +kernel, rfl⟩
theorem qX12_shift_33 : Dc mX12_shift 33 (.iaload) 1 34 := ⟨by decide +kernel, rfl⟩
theorem qX12_shift_34 : Dc mX12_shift 34 (.ifCond .ne 5) 3 37 := ⟨by decide +kernel, rfl⟩
theorem qX12_shift_37 : Dc mX12_shift 37 (.iconst 1) 1 38 := ⟨by decide +kernel, rfl⟩
theorem qX12_shift_38 : Dc mX12_shift 38 (.ireturn) 1 39 := ⟨by decide +kernel, rfl⟩
theorem qX12_shift_39 : Dc mX12_shift 39 (.aload_n 0) 1 40 := ⟨by decide +kernel, rfl⟩
theorem qX12_shift_40 : Dc mX12_shift 40 (.invokevirtual 325) 3 43 := ⟨by decide +kernel, rfl⟩
theorem qX12_shift_43 : Dc mX12_shift 43 (.aload_n 0) 1 44 := ⟨by decide +kernel, rfl⟩
theorem qX12_shift_44 : Dc mX12_shift 44 (.iload_n 1) 1 45 := ⟨by decide +kernel, rfl⟩
theorem qX12_shift_45 : Dc mX12_shift 45 (.iload_n 2) 1 46 := ⟨by decide +kernel, rfl⟩
theorem qX12_shift_46 : Dc mX12_shift 46 (.invokevirtual 334) 3 49 := ⟨by decide +kernel, rfl⟩
theorem qX12_shift_49 : Dc mX12_shift 49 (.iconst 0) 1 50 := ⟨by decide +kernel, rfl⟩
theorem qX12_shift_50 : Dc mX12_shift 50 (.ireturn) 1 51 := ⟨by decide +kernel, rfl⟩

set_option maxRecDepth 20000 in
set_option maxHeartbeats 4000000 in
theorem w_X12_shift {N : Nat} {x1 : Int32} {x2 : Int32} {s0 : St} {r : Int32} {sr : St} (h : f_X12_shift N x1 x2 s0 = some (r, sr)) : Ct mX12_shift 2 [.ref 206, .int x1, .int x2] s0 (some (.int r), sr) := by
  refine Ct.ofE (by decide +kernel) rfl ?_
  show E mX12_shift 2 (some (.int r), sr) 0 [some (.ref 206), some (.int x1), some (.int x2)] [] s0
  unfold f_X12_shift at h
  refine e_aload_n qX12_shift_0 rfl ?_
  refine e_iconst (nI 0) qX12_shift_1 rfl ?_
  refine e_puti qX12_shift_2 fp_X12_1 shq_206 kdq_11_0 h (fun s1 h => ?_)
  refine e_aload_n qX12_shift_5 rfl ?_
  refine e_iload_n qX12_shift_6 rfl ?_
  obtain ⟨v2, hc, h⟩ := bp_e h
  refine e_cVi1 qX12_shift_7 mv_X12_294 shq_206 rfl rfl (w_X12_isLight hc) ?_
  refine e_if_eq (tgt := 23) qX12_shift_10 rfl h (fun _ h => ?_) (fun _ h => ?_)
  · refine e_iconst (-1) qX12_shift_23 rfl ?_
    exact e_iret qX12_shift_24 rfl (ret_i h)
  refine e_iload_n qX12_shift_13 rfl ?_
  refine e_iconst (nI 1) qX12_shift_14 rfl ?_
  refine e_bipush (nI 59) qX12_shift_15 rfl ?_
  obtain ⟨v3, hc, h⟩ := bp_e h
  refine e_cSi3 qX12_shift_17 ms_X12_186 rfl rfl (w_X12_isIn hc) ?_
  refine e_if_ne (tgt := 25) qX12_shift_20 rfl h (fun _ h => ?_) (fun _ h => ?_)
  · refine e_iconst (-1) qX12_shift_23 rfl ?_
    exact e_iret qX12_shift_24 rfl (ret_i h)
  refine e_aload_n qX12_shift_25 rfl ?_
  refine e_getr 208 qX12_shift_26 fl_X12_33 shq_206 kdq_11_6 rrq_206_6 ?_
  refine e_bipush (nI 43) qX12_shift_29 rfl ?_
  refine e_iload_n qX12_shift_31 rfl ?_
  refine e_iadd qX12_shift_32 ?_
  refine e_iald qX12_shift_33 shq_208 lnq_208 h (fun v4 h => ?_)
  refine e_if_ne (tgt := 39) qX12_shift_34 rfl h (fun _ h => ?_) (fun _ h => ?_)
  · refine e_iconst (nI 1) qX12_shift_37 rfl ?_
    exact e_iret qX12_shift_38 rfl (ret_i h)
  refine e_aload_n qX12_shift_39 rfl ?_
  obtain ⟨s5, hc, h⟩ := bp_e h
  refine e_cVv0 qX12_shift_40 mv_X12_325 shq_206 rfl rfl (w_X12_stores hc) ?_
  refine e_aload_n qX12_shift_43 rfl ?_
  refine e_iload_n qX12_shift_44 rfl ?_
  refine e_iload_n qX12_shift_45 rfl ?_
  obtain ⟨s6, hc, h⟩ := bp_e h
  refine e_cVv2 qX12_shift_46 mv_X12_334 shq_206 rfl rfl (w_X12_turns hc) ?_
  refine e_iconst (nI 0) qX12_shift_49 rfl ?_
  exact e_iret qX12_shift_50 rfl (ret_i h)

def f_X12_steer (N : Nat) (x1 : Int32) (x2 : Int32) (s0 : St) : Option (Int32 × St) :=
  vl (sI s0 206 0 (nI 0)) fun s1 =>
  bp (f_X12_isShip x1 s1) fun v2 =>
  if v2 = 0 then
    some ((-1), s1)
  else
  bp (f_X12_isIn x2 (nI 0) (nI 8) s1) fun v3 =>
  if v3 = 0 then
    some ((-1), s1)
  else
  ald (s1.1 208) 359 ((nI 174) + x1) fun v4 =>
  if v4 = x2 then
    some ((nI 1), s1)
  else
  bp (f_X12_stores N s1) fun s5 =>
  ald (fun j => sI s5 208 j x2) 359 ((nI 174) + x1) fun s6 =>
  some ((nI 0), s6)

theorem qX12_steer_0 : Dc mX12_steer 0 (.aload_n 0) 1 1 := ⟨by decide +kernel, rfl⟩
theorem qX12_steer_1 : Dc mX12_steer 1 (.iconst 0) 1 2 := ⟨by decide +kernel, rfl⟩
theorem qX12_steer_2 : Dc mX12_steer 2 (.putfield 1) 3 5 := ⟨by decide +kernel, rfl⟩
theorem qX12_steer_5 : Dc mX12_steer 5 (.aload_n 0) 1 6 := ⟨by decide +kernel, rfl⟩
theorem qX12_steer_6 : Dc mX12_steer 6 (.iload_n 1) 1 7 := ⟨by decide +kernel, rfl⟩
theorem qX12_steer_7 : Dc mX12_steer 7 (.invokevirtual 304) 3 10 := ⟨by decide +kernel, rfl⟩
theorem qX12_steer_10 : Dc mX12_steer 10 (.ifCond .eq 13) 3 13 := ⟨by decide +kernel, rfl⟩
theorem qX12_steer_13 : Dc mX12_steer 13 (.iload_n 2) 1 14 := ⟨by decide +kernel, rfl⟩
theorem qX12_steer_14 : Dc mX12_steer 14 (.iconst 0) 1 15 := ⟨by decide +kernel, rfl⟩
theorem qX12_steer_15 : Dc mX12_steer 15 (.bipush 8) 2 17 := ⟨by decide +kernel, rfl⟩
theorem qX12_steer_17 : Dc mX12_steer 17 (.invokestatic 186) 3 20 := ⟨by decide +kernel, rfl⟩
theorem qX12_steer_20 : Dc mX12_steer 20 (.ifCond .ne 5) 3 23 := ⟨by decide +kernel, rfl⟩
theorem qX12_steer_23 : Dc mX12_steer 23 (.iconst (-1)) 1 24 := ⟨by decide +kernel, rfl⟩
theorem qX12_steer_24 : Dc mX12_steer 24 (.ireturn) 1 25 := ⟨by decide +kernel, rfl⟩
theorem qX12_steer_25 : Dc mX12_steer 25 (.aload_n 0) 1 26 := ⟨by decide +kernel, rfl⟩
theorem qX12_steer_26 : Dc mX12_steer 26 (.getfield 33) 3 29 := ⟨by decide +kernel, rfl⟩
theorem qX12_steer_29 : Dc mX12_steer 29 (.sipush 174) 3 32 := ⟨by decide +kernel, rfl⟩
theorem qX12_steer_32 : Dc mX12_steer 32 (.iload_n 1) 1 33 := ⟨by decide +kernel, rfl⟩
theorem qX12_steer_33 : Dc mX12_steer 33 (.iadd) 1 34 := ⟨by decide +kernel, rfl⟩
theorem qX12_steer_34 : Dc mX12_steer 34 (.iaload) 1 35 := ⟨by decide +kernel, rfl⟩
theorem qX12_steer_35 : Dc mX12_steer 35 (.iload_n 2) 1 36 := ⟨by decide +kernel, rfl⟩
theorem qX12_steer_36 : Dc mX12_steer 36 (.if_icmp .ne 5) 3 39 := ⟨by decide +kernel, rfl⟩
theorem qX12_steer_39 : Dc mX12_steer 39 (.iconst 1) 1 40 := ⟨by decide +kernel, rfl⟩
theorem qX12_steer_40 : Dc mX12_steer 40 (.ireturn) 1 41 := ⟨by decide +kernel, rfl⟩
theorem qX12_steer_41 : Dc mX12_steer 41 (.aload_n 0) 1 42 := ⟨by decide +kernel, rfl⟩
theorem qX12_steer_42 : Dc mX12_steer 42 (.invokevirtual 325) 3 45 := ⟨by decide +kernel, rfl⟩
theorem qX12_steer_45 : Dc mX12_steer 45 (.aload_n 0) 1 46 := ⟨by decide +kernel, rfl⟩
theorem qX12_steer_46 : Dc mX12_steer 46 (.getfield 33) 3 49 := ⟨by decide +kernel, rfl⟩
theorem qX12_steer_49 : Dc mX12_steer 49 (.sipush 174) 3 52 := ⟨by decide +kernel, rfl⟩
theorem qX12_steer_52 : Dc mX12_steer 52 (.iload_n 1) 1 53 := ⟨by decide +kernel, rfl⟩
theorem qX12_steer_53 : Dc mX12_steer 53 (.iadd) 1 54 := ⟨by decide +kernel, rfl⟩
theorem qX12_steer_54 : Dc mX12_steer 54 (.iload_n 2) 1 55 := ⟨by decide +kernel, rfl⟩
theorem qX12_steer_55 : Dc mX12_steer 55 (.iastore) 1 56 := ⟨by decide +kernel, rfl⟩
theorem qX12_steer_56 : Dc mX12_steer 56 (.iconst 0) 1 57 := ⟨by decide +kernel, rfl⟩
theorem qX12_steer_57 : Dc mX12_steer 57 (.ireturn) 1 58 := ⟨by decide +kernel, rfl⟩

set_option maxRecDepth 20000 in
set_option maxHeartbeats 4000000 in
theorem w_X12_steer {N : Nat} {x1 : Int32} {x2 : Int32} {s0 : St} {r : Int32} {sr : St} (h : f_X12_steer N x1 x2 s0 = some (r, sr)) : Ct mX12_steer 2 [.ref 206, .int x1, .int x2] s0 (some (.int r), sr) := by
  refine Ct.ofE (by decide +kernel) rfl ?_
  show E mX12_steer 2 (some (.int r), sr) 0 [some (.ref 206), some (.int x1), some (.int x2)] [] s0
  unfold f_X12_steer at h
  refine e_aload_n qX12_steer_0 rfl ?_
  refine e_iconst (nI 0) qX12_steer_1 rfl ?_
  refine e_puti qX12_steer_2 fp_X12_1 shq_206 kdq_11_0 h (fun s1 h => ?_)
  refine e_aload_n qX12_steer_5 rfl ?_
  refine e_iload_n qX12_steer_6 rfl ?_
  obtain ⟨v2, hc, h⟩ := bp_e h
  refine e_cVi1 qX12_steer_7 mv_X12_304 shq_206 rfl rfl (w_X12_isShip hc) ?_
  refine e_if_eq (tgt := 23) qX12_steer_10 rfl h (fun _ h => ?_) (fun _ h => ?_)
  · refine e_iconst (-1) qX12_steer_23 rfl ?_
    exact e_iret qX12_steer_24 rfl (ret_i h)
  refine e_iload_n qX12_steer_13 rfl ?_
  refine e_iconst (nI 0) qX12_steer_14 rfl ?_
  refine e_bipush (nI 8) qX12_steer_15 rfl ?_
  obtain ⟨v3, hc, h⟩ := bp_e h
  refine e_cSi3 qX12_steer_17 ms_X12_186 rfl rfl (w_X12_isIn hc) ?_
  refine e_if_ne (tgt := 25) qX12_steer_20 rfl h (fun _ h => ?_) (fun _ h => ?_)
  · refine e_iconst (-1) qX12_steer_23 rfl ?_
    exact e_iret qX12_steer_24 rfl (ret_i h)
  refine e_aload_n qX12_steer_25 rfl ?_
  refine e_getr 208 qX12_steer_26 fl_X12_33 shq_206 kdq_11_6 rrq_206_6 ?_
  refine e_sipush (nI 174) qX12_steer_29 rfl ?_
  refine e_iload_n qX12_steer_32 rfl ?_
  refine e_iadd qX12_steer_33 ?_
  refine e_iald qX12_steer_34 shq_208 lnq_208 h (fun v4 h => ?_)
  refine e_iload_n qX12_steer_35 rfl ?_
  refine e_icmp_ne (tgt := 41) qX12_steer_36 rfl h (fun _ h => ?_) (fun _ h => ?_)
  · refine e_iconst (nI 1) qX12_steer_39 rfl ?_
    exact e_iret qX12_steer_40 rfl (ret_i h)
  refine e_aload_n qX12_steer_41 rfl ?_
  obtain ⟨s5, hc, h⟩ := bp_e h
  refine e_cVv0 qX12_steer_42 mv_X12_325 shq_206 rfl rfl (w_X12_stores hc) ?_
  refine e_aload_n qX12_steer_45 rfl ?_
  refine e_getr 208 qX12_steer_46 fl_X12_33 shq_206 kdq_11_6 rrq_206_6 ?_
  refine e_sipush (nI 174) qX12_steer_49 rfl ?_
  refine e_iload_n qX12_steer_52 rfl ?_
  refine e_iadd qX12_steer_53 ?_
  refine e_iload_n qX12_steer_54 rfl ?_
  refine e_iast qX12_steer_55 shq_208 lnq_208 h (fun s6 h => ?_)
  refine e_iconst (nI 0) qX12_steer_56 rfl ?_
  exact e_iret qX12_steer_57 rfl (ret_i h)

def f_X12_haze (N : Nat) (x1 : Int32) (s0 : St) : Option (Int32 × St) :=
  vl (sI s0 206 0 (nI 0)) fun s1 =>
  bp (f_X12_isIn x1 (nI 1) (nI 30) s1) fun v2 =>
  if v2 = 0 then
    some ((-1), s1)
  else
  ald (s1.1 208) 359 (nI 149) fun v3 =>
  if v3 = x1 then
    some ((nI 1), s1)
  else
  bp (f_X12_stores N s1) fun s4 =>
  ald (fun j => sI s4 208 j x1) 359 (nI 149) fun s5 =>
  some ((nI 0), s5)

theorem qX12_haze_0 : Dc mX12_haze 0 (.aload_n 0) 1 1 := ⟨by decide +kernel, rfl⟩
theorem qX12_haze_1 : Dc mX12_haze 1 (.iconst 0) 1 2 := ⟨by decide +kernel, rfl⟩
theorem qX12_haze_2 : Dc mX12_haze 2 (.putfield 1) 3 5 := ⟨by decide +kernel, rfl⟩
theorem qX12_haze_5 : Dc mX12_haze 5 (.iload_n 1) 1 6 := ⟨by decide +kernel, rfl⟩
theorem qX12_haze_6 : Dc mX12_haze 6 (.iconst 1) 1 7 := ⟨by decide +kernel, rfl⟩
theorem qX12_haze_7 : Dc mX12_haze 7 (.bipush 30) 2 9 := ⟨by decide +kernel, rfl⟩
theorem qX12_haze_9 : Dc mX12_haze 9 (.invokestatic 186) 3 12 := ⟨by decide +kernel, rfl⟩
theorem qX12_haze_12 : Dc mX12_haze 12 (.ifCond .ne 5) 3 15 := ⟨by decide +kernel, rfl⟩
theorem qX12_haze_15 : Dc mX12_haze 15 (.iconst (-1)) 1 16 := ⟨by decide +kernel, rfl⟩
theorem qX12_haze_16 : Dc mX12_haze 16 (.ireturn) 1 17 := ⟨by decide +kernel, rfl⟩
theorem qX12_haze_17 : Dc mX12_haze 17 (.aload_n 0) 1 18 := ⟨by decide +kernel, rfl⟩
theorem qX12_haze_18 : Dc mX12_haze 18 (.getfield 33) 3 21 := ⟨by decide +kernel, rfl⟩
theorem qX12_haze_21 : Dc mX12_haze 21 (.sipush 149) 3 24 := ⟨by decide +kernel, rfl⟩
theorem qX12_haze_24 : Dc mX12_haze 24 (.iaload) 1 25 := ⟨by decide +kernel, rfl⟩
theorem qX12_haze_25 : Dc mX12_haze 25 (.iload_n 1) 1 26 := ⟨by decide +kernel, rfl⟩
theorem qX12_haze_26 : Dc mX12_haze 26 (.if_icmp .ne 5) 3 29 := ⟨by decide +kernel, rfl⟩
theorem qX12_haze_29 : Dc mX12_haze 29 (.iconst 1) 1 30 := ⟨by decide +kernel, rfl⟩
theorem qX12_haze_30 : Dc mX12_haze 30 (.ireturn) 1 31 := ⟨by decide +kernel, rfl⟩
theorem qX12_haze_31 : Dc mX12_haze 31 (.aload_n 0) 1 32 := ⟨by decide +kernel, rfl⟩
theorem qX12_haze_32 : Dc mX12_haze 32 (.invokevirtual 325) 3 35 := ⟨by decide +kernel, rfl⟩
theorem qX12_haze_35 : Dc mX12_haze 35 (.aload_n 0) 1 36 := ⟨by decide +kernel, rfl⟩
theorem qX12_haze_36 : Dc mX12_haze 36 (.getfield 33) 3 39 := ⟨by decide +kernel, rfl⟩
theorem qX12_haze_39 : Dc mX12_haze 39 (.sipush 149) 3 42 := ⟨by decide +kernel, rfl⟩
theorem qX12_haze_42 : Dc mX12_haze 42 (.iload_n 1) 1 43 := ⟨by decide +kernel, rfl⟩
theorem qX12_haze_43 : Dc mX12_haze 43 (.iastore) 1 44 := ⟨by decide +kernel, rfl⟩
theorem qX12_haze_44 : Dc mX12_haze 44 (.iconst 0) 1 45 := ⟨by decide +kernel, rfl⟩
theorem qX12_haze_45 : Dc mX12_haze 45 (.ireturn) 1 46 := ⟨by decide +kernel, rfl⟩

set_option maxRecDepth 20000 in
set_option maxHeartbeats 4000000 in
theorem w_X12_haze {N : Nat} {x1 : Int32} {s0 : St} {r : Int32} {sr : St} (h : f_X12_haze N x1 s0 = some (r, sr)) : Ct mX12_haze 1 [.ref 206, .int x1] s0 (some (.int r), sr) := by
  refine Ct.ofE (by decide +kernel) rfl ?_
  show E mX12_haze 1 (some (.int r), sr) 0 [some (.ref 206), some (.int x1)] [] s0
  unfold f_X12_haze at h
  refine e_aload_n qX12_haze_0 rfl ?_
  refine e_iconst (nI 0) qX12_haze_1 rfl ?_
  refine e_puti qX12_haze_2 fp_X12_1 shq_206 kdq_11_0 h (fun s1 h => ?_)
  refine e_iload_n qX12_haze_5 rfl ?_
  refine e_iconst (nI 1) qX12_haze_6 rfl ?_
  refine e_bipush (nI 30) qX12_haze_7 rfl ?_
  obtain ⟨v2, hc, h⟩ := bp_e h
  refine e_cSi3 qX12_haze_9 ms_X12_186 rfl rfl (w_X12_isIn hc) ?_
  refine e_if_ne (tgt := 17) qX12_haze_12 rfl h (fun _ h => ?_) (fun _ h => ?_)
  · refine e_iconst (-1) qX12_haze_15 rfl ?_
    exact e_iret qX12_haze_16 rfl (ret_i h)
  refine e_aload_n qX12_haze_17 rfl ?_
  refine e_getr 208 qX12_haze_18 fl_X12_33 shq_206 kdq_11_6 rrq_206_6 ?_
  refine e_sipush (nI 149) qX12_haze_21 rfl ?_
  refine e_iald qX12_haze_24 shq_208 lnq_208 h (fun v3 h => ?_)
  refine e_iload_n qX12_haze_25 rfl ?_
  refine e_icmp_ne (tgt := 31) qX12_haze_26 rfl h (fun _ h => ?_) (fun _ h => ?_)
  · refine e_iconst (nI 1) qX12_haze_29 rfl ?_
    exact e_iret qX12_haze_30 rfl (ret_i h)
  refine e_aload_n qX12_haze_31 rfl ?_
  obtain ⟨s4, hc, h⟩ := bp_e h
  refine e_cVv0 qX12_haze_32 mv_X12_325 shq_206 rfl rfl (w_X12_stores hc) ?_
  refine e_aload_n qX12_haze_35 rfl ?_
  refine e_getr 208 qX12_haze_36 fl_X12_33 shq_206 kdq_11_6 rrq_206_6 ?_
  refine e_sipush (nI 149) qX12_haze_39 rfl ?_
  refine e_iload_n qX12_haze_42 rfl ?_
  refine e_iast qX12_haze_43 shq_208 lnq_208 h (fun s5 h => ?_)
  refine e_iconst (nI 0) qX12_haze_44 rfl ?_
  exact e_iret qX12_haze_45 rfl (ret_i h)

def f_X12_seconds (N : Nat) (x1 : Int32) (s0 : St) : Option (Int32 × St) :=
  vl (sI s0 206 0 (nI 0)) fun s1 =>
  bp (f_X12_isIn x1 (nI 1) (nI 60) s1) fun v2 =>
  if v2 = 0 then
    some ((-1), s1)
  else
  ald (s1.1 208) 359 (nI 147) fun v3 =>
  if v3 = (nI 3600) then
    some ((nI 0), s1)
  else
  bp (f_X12_stores N s1) fun s4 =>
  bd (f_X12_goesOn N x1 s4) fun v5 s6 =>
  some (v5, s6)

theorem qX12_seconds_0 : Dc mX12_seconds 0 (.aload_n 0) 1 1 := ⟨by decide +kernel, rfl⟩
theorem qX12_seconds_1 : Dc mX12_seconds 1 (.iconst 0) 1 2 := ⟨by decide +kernel, rfl⟩
theorem qX12_seconds_2 : Dc mX12_seconds 2 (.putfield 1) 3 5 := ⟨by decide +kernel, rfl⟩
theorem qX12_seconds_5 : Dc mX12_seconds 5 (.iload_n 1) 1 6 := ⟨by decide +kernel, rfl⟩
theorem qX12_seconds_6 : Dc mX12_seconds 6 (.iconst 1) 1 7 := ⟨by decide +kernel, rfl⟩
theorem qX12_seconds_7 : Dc mX12_seconds 7 (.bipush 60) 2 9 := ⟨by decide +kernel, rfl⟩
theorem qX12_seconds_9 : Dc mX12_seconds 9 (.invokestatic 186) 3 12 := ⟨by decide +kernel, rfl⟩
theorem qX12_seconds_12 : Dc mX12_seconds 12 (.ifCond .ne 5) 3 15 := ⟨by decide +kernel, rfl⟩
theorem qX12_seconds_15 : Dc mX12_seconds 15 (.iconst (-1)) 1 16 := ⟨by decide +kernel, rfl⟩
theorem qX12_seconds_16 : Dc mX12_seconds 16 (.ireturn) 1 17 := ⟨by decide +kernel, rfl⟩
theorem qX12_seconds_17 : Dc mX12_seconds 17 (.aload_n 0) 1 18 := ⟨by decide +kernel, rfl⟩
theorem qX12_seconds_18 : Dc mX12_seconds 18 (.getfield 33) 3 21 := ⟨by decide +kernel, rfl⟩
theorem qX12_seconds_21 : Dc mX12_seconds 21 (.sipush 147) 3 24 := ⟨by decide +kernel, rfl⟩
theorem qX12_seconds_24 : Dc mX12_seconds 24 (.iaload) 1 25 := ⟨by decide +kernel, rfl⟩
theorem qX12_seconds_25 : Dc mX12_seconds 25 (.sipush 3600) 3 28 := ⟨by decide +kernel, rfl⟩
theorem qX12_seconds_28 : Dc mX12_seconds 28 (.if_icmp .ne 5) 3 31 := ⟨by decide +kernel, rfl⟩
theorem qX12_seconds_31 : Dc mX12_seconds 31 (.iconst 0) 1 32 := ⟨by decide +kernel, rfl⟩
theorem qX12_seconds_32 : Dc mX12_seconds 32 (.ireturn) 1 33 := ⟨by decide +kernel, rfl⟩
theorem qX12_seconds_33 : Dc mX12_seconds 33 (.aload_n 0) 1 34 := ⟨by decide +kernel, rfl⟩
theorem qX12_seconds_34 : Dc mX12_seconds 34 (.invokevirtual 325) 3 37 := ⟨by decide +kernel, rfl⟩
theorem qX12_seconds_37 : Dc mX12_seconds 37 (.aload_n 0) 1 38 := ⟨by decide +kernel, rfl⟩
theorem qX12_seconds_38 : Dc mX12_seconds 38 (.iload_n 1) 1 39 := ⟨by decide +kernel, rfl⟩
theorem qX12_seconds_39 : Dc mX12_seconds 39 (.invokevirtual 338) 3 42 := ⟨by decide +kernel, rfl⟩
theorem qX12_seconds_42 : Dc mX12_seconds 42 (.ireturn) 1 43 := ⟨by decide +kernel, rfl⟩

set_option maxRecDepth 20000 in
set_option maxHeartbeats 4000000 in
theorem w_X12_seconds {N : Nat} {x1 : Int32} {s0 : St} {r : Int32} {sr : St} (h : f_X12_seconds N x1 s0 = some (r, sr)) : Ct mX12_seconds 6 [.ref 206, .int x1] s0 (some (.int r), sr) := by
  refine Ct.ofE (by decide +kernel) rfl ?_
  show E mX12_seconds 6 (some (.int r), sr) 0 [some (.ref 206), some (.int x1)] [] s0
  unfold f_X12_seconds at h
  refine e_aload_n qX12_seconds_0 rfl ?_
  refine e_iconst (nI 0) qX12_seconds_1 rfl ?_
  refine e_puti qX12_seconds_2 fp_X12_1 shq_206 kdq_11_0 h (fun s1 h => ?_)
  refine e_iload_n qX12_seconds_5 rfl ?_
  refine e_iconst (nI 1) qX12_seconds_6 rfl ?_
  refine e_bipush (nI 60) qX12_seconds_7 rfl ?_
  obtain ⟨v2, hc, h⟩ := bp_e h
  refine e_cSi3 qX12_seconds_9 ms_X12_186 rfl rfl (w_X12_isIn hc) ?_
  refine e_if_ne (tgt := 17) qX12_seconds_12 rfl h (fun _ h => ?_) (fun _ h => ?_)
  · refine e_iconst (-1) qX12_seconds_15 rfl ?_
    exact e_iret qX12_seconds_16 rfl (ret_i h)
  refine e_aload_n qX12_seconds_17 rfl ?_
  refine e_getr 208 qX12_seconds_18 fl_X12_33 shq_206 kdq_11_6 rrq_206_6 ?_
  refine e_sipush (nI 147) qX12_seconds_21 rfl ?_
  refine e_iald qX12_seconds_24 shq_208 lnq_208 h (fun v3 h => ?_)
  refine e_sipush (nI 3600) qX12_seconds_25 rfl ?_
  refine e_icmp_ne (tgt := 33) qX12_seconds_28 rfl h (fun _ h => ?_) (fun _ h => ?_)
  · refine e_iconst (nI 0) qX12_seconds_31 rfl ?_
    exact e_iret qX12_seconds_32 rfl (ret_i h)
  refine e_aload_n qX12_seconds_33 rfl ?_
  obtain ⟨s4, hc, h⟩ := bp_e h
  refine e_cVv0 qX12_seconds_34 mv_X12_325 shq_206 rfl rfl (w_X12_stores hc) ?_
  refine e_aload_n qX12_seconds_37 rfl ?_
  refine e_iload_n qX12_seconds_38 rfl ?_
  obtain ⟨v5, s6, hc, h⟩ := bd_e h
  refine e_cVi1 qX12_seconds_39 mv_X12_338 shq_206 rfl rfl (w_X12_goesOn hc) ?_
  exact e_iret qX12_seconds_42 rfl (ret_i h)

def f_X0_readAmount (N : Nat) (x2 : Int32) (s0 : St) : Option (Int32 × St) :=
  vl (sI s0 1 5 (nI 0)) fun s1 =>
  jn (fun (v2 : Int32) (s3 : St) =>
    vl (s3.1 71 3) fun v5 =>
    vl (s3.1 1 5) fun v6 =>
    ald (fun j => sI s3 74 j v6) 40 v5 fun s7 =>
    rz v2 <|
    some (v2, s7)) fun j4 =>
  if x2 = nI 2 then
    bd (f_X9_takeNumber N (nI 1) (nI 999) s1) fun v8 s9 =>
    j4 v8 s9
  else
  if x2 = nI 3 then
    bd (f_X9_takeNumber N (nI 1) (nI 59) s1) fun v10 s11 =>
    j4 v10 s11
  else
  if x2 = nI 4 then
    bd (f_X9_takeNumber N (nI 0) (nI 8) s1) fun v12 s13 =>
    j4 v12 s13
  else
  if x2 = nI 5 then
    bd (f_X9_takeNumber N (nI 1) (nI 30) s1) fun v14 s15 =>
    j4 v14 s15
  else
  if x2 = nI 6 then
    bd (f_X9_takeNumber N (nI 1) (nI 60) s1) fun v16 s17 =>
    j4 v16 s17
  else
  j4 (nI 1) s1

theorem qX0_readAmount_0 : Dc mX0_readAmount 0 (.iconst 1) 1 1 := ⟨by decide +kernel, rfl⟩
theorem qX0_readAmount_1 : Dc mX0_readAmount 1 (.istore_n 3) 1 2 := ⟨by decide +kernel, rfl⟩
theorem qX0_readAmount_2 : Dc mX0_readAmount 2 (.aload_n 1) 1 3 := ⟨by decide +kernel, rfl⟩
theorem qX0_readAmount_3 : Dc mX0_readAmount 3 (.iconst 0) 1 4 := ⟨by decide +kernel, rfl⟩
theorem qX0_readAmount_4 : Dc mX0_readAmount 4 (.putfield 101) 3 7 := ⟨by decide +kernel, rfl⟩
theorem qX0_readAmount_7 : Dc mX0_readAmount 7 (.iload_n 2) 1 8 := ⟨by decide +kernel, rfl⟩
theorem qX0_readAmount_8 : Dc mX0_readAmount 8 (.tableswitch 92 2 6 #[36, 48, 59, 70, 81]) 36 44 := ⟨by decide +kernel, rfl⟩
theorem qX0_readAmount_44 : Dc mX0_readAmount 44 (.aload_n 1) 1 45 := ⟨by decide +kernel, rfl⟩
theorem qX0_readAmount_45 : Dc mX0_readAmount 45 (.iconst 1) 1 46 := ⟨by decide +kernel, rfl⟩
theorem qX0_readAmount_46 : Dc mX0_readAmount 46 (.sipush 999) 3 49 := ⟨by decide +kernel, rfl⟩
theorem qX0_readAmount_49 : Dc mX0_readAmount 49 (.invokevirtual 104) 3 52 := ⟨by decide +kernel, rfl⟩
theorem qX0_readAmount_52 : Dc mX0_readAmount 52 (.istore_n 3) 1 53 := ⟨by decide +kernel, rfl⟩
theorem qX0_readAmount_53 : Dc mX0_readAmount 53 (.goto 47) 3 56 := ⟨by decide +kernel, rfl⟩
theorem qX0_readAmount_56 : Dc mX0_readAmount 56 (.aload_n 1) 1 57 := ⟨by decide +kernel, rfl⟩
theorem qX0_readAmount_57 : Dc mX0_readAmount 57 (.iconst 1) 1 58 := ⟨by decide +kernel, rfl⟩
theorem qX0_readAmount_58 : Dc mX0_readAmount 58 (.bipush 59) 2 60 := ⟨by decide +kernel, rfl⟩
theorem qX0_readAmount_60 : Dc mX0_readAmount 60 (.invokevirtual 104) 3 63 := ⟨by decide +kernel, rfl⟩
theorem qX0_readAmount_63 : Dc mX0_readAmount 63 (.istore_n 3) 1 64 := ⟨by decide +kernel, rfl⟩
theorem qX0_readAmount_64 : Dc mX0_readAmount 64 (.goto 36) 3 67 := ⟨by decide +kernel, rfl⟩
theorem qX0_readAmount_67 : Dc mX0_readAmount 67 (.aload_n 1) 1 68 := ⟨by decide +kernel, rfl⟩
theorem qX0_readAmount_68 : Dc mX0_readAmount 68 (.iconst 0) 1 69 := ⟨by decide +kernel, rfl⟩
theorem qX0_readAmount_69 : Dc mX0_readAmount 69 (.bipush 8) 2 71 := ⟨by decide +kernel, rfl⟩
theorem qX0_readAmount_71 : Dc mX0_readAmount 71 (.invokevirtual 104) 3 74 := ⟨by decide +kernel, rfl⟩
theorem qX0_readAmount_74 : Dc mX0_readAmount 74 (.istore_n 3) 1 75 := ⟨by decide +kernel, rfl⟩
theorem qX0_readAmount_75 : Dc mX0_readAmount 75 (.goto 25) 3 78 := ⟨by decide +kernel, rfl⟩
theorem qX0_readAmount_78 : Dc mX0_readAmount 78 (.aload_n 1) 1 79 := ⟨by decide +kernel, rfl⟩
theorem qX0_readAmount_79 : Dc mX0_readAmount 79 (.iconst 1) 1 80 := ⟨by decide +kernel, rfl⟩
theorem qX0_readAmount_80 : Dc mX0_readAmount 80 (.bipush 30) 2 82 := ⟨by decide +kernel, rfl⟩
theorem qX0_readAmount_82 : Dc mX0_readAmount 82 (.invokevirtual 104) 3 85 := ⟨by decide +kernel, rfl⟩
theorem qX0_readAmount_85 : Dc mX0_readAmount 85 (.istore_n 3) 1 86 := ⟨by decide +kernel, rfl⟩
theorem qX0_readAmount_86 : Dc mX0_readAmount 86 (.goto 14) 3 89 := ⟨by decide +kernel, rfl⟩
theorem qX0_readAmount_89 : Dc mX0_readAmount 89 (.aload_n 1) 1 90 := ⟨by decide +kernel, rfl⟩
theorem qX0_readAmount_90 : Dc mX0_readAmount 90 (.iconst 1) 1 91 := ⟨by decide +kernel, rfl⟩
theorem qX0_readAmount_91 : Dc mX0_readAmount 91 (.bipush 60) 2 93 := ⟨by decide +kernel, rfl⟩
theorem qX0_readAmount_93 : Dc mX0_readAmount 93 (.invokevirtual 104) 3 96 := ⟨by decide +kernel, rfl⟩
theorem qX0_readAmount_96 : Dc mX0_readAmount 96 (.istore_n 3) 1 97 := ⟨by decide +kernel, rfl⟩
theorem qX0_readAmount_97 : Dc mX0_readAmount 97 (.goto 3) 3 100 := ⟨by decide +kernel, rfl⟩
theorem qX0_readAmount_100 : Dc mX0_readAmount 100 (.aload_n 0) 1 101 := ⟨by decide +kernel, rfl⟩
theorem qX0_readAmount_101 : Dc mX0_readAmount 101 (.getfield 18) 3 104 := ⟨by decide +kernel, rfl⟩
theorem qX0_readAmount_104 : Dc mX0_readAmount 104 (.aload_n 0) 1 105 := ⟨by decide +kernel, rfl⟩
theorem qX0_readAmount_105 : Dc mX0_readAmount 105 (.getfield 27) 3 108 := ⟨by decide +kernel, rfl⟩
theorem qX0_readAmount_108 : Dc mX0_readAmount 108 (.aload_n 1) 1 109 := ⟨by decide +kernel, rfl⟩
theorem qX0_readAmount_109 : Dc mX0_readAmount 109 (.getfield 101) 3 112 := ⟨by decide +kernel, rfl⟩
theorem qX0_readAmount_112 : Dc mX0_readAmount 112 (.iastore) 1 113 := ⟨by decide +kernel, rfl⟩
theorem qX0_readAmount_113 : Dc mX0_readAmount 113 (.iload_n 3) 1 114 := ⟨by decide +kernel, rfl⟩
theorem qX0_readAmount_114 : Dc mX0_readAmount 114 (.ireturn) 1 115 := ⟨by decide +kernel, rfl⟩

set_option maxRecDepth 20000 in
set_option maxHeartbeats 4000000 in
theorem w_X0_readAmount {N : Nat} {x2 : Int32} {s0 : St} {r : Int32} {sr : St} (h : f_X0_readAmount N x2 s0 = some (r, sr)) : Ct mX0_readAmount 3 [.ref 71, .ref 1, .int x2] s0 (some (.int r), sr) := by
  refine Ct.ofE (by decide +kernel) rfl ?_
  show E mX0_readAmount 3 (some (.int r), sr) 0 [some (.ref 71), some (.ref 1), some (.int x2), none] [] s0
  unfold f_X0_readAmount at h
  refine e_iconst (nI 1) qX0_readAmount_0 rfl ?_
  refine e_istore_n (lv2 := [some (.ref 71), some (.ref 1), some (.int x2), some (.int (nI 1))]) qX0_readAmount_1 rfl rfl rfl ?_
  refine e_aload_n qX0_readAmount_2 rfl ?_
  refine e_iconst (nI 0) qX0_readAmount_3 rfl ?_
  refine e_puti qX0_readAmount_4 fp_X0_101 shq_1 kdq_9_5 h (fun s1 h => ?_)
  refine e_iload_n qX0_readAmount_7 rfl ?_
  refine jn_e (fun j => ∀ (v2 : Int32) (s3 : St), j v2 s3 = some (r, sr) → E mX0_readAmount 3 (some (.int r), sr) 100 [some (.ref 71), some (.ref 1), none, some (.int v2)] [] s3) h ?_ (fun j4 hj4 h => ?_)
  · intro v2 s3 h
    refine e_aload_n qX0_readAmount_100 rfl ?_
    refine e_getr 74 qX0_readAmount_101 fl_X0_18 shq_71 kdq_0_2 rrq_71_2 ?_
    refine e_aload_n qX0_readAmount_104 rfl ?_
    refine e_geti qX0_readAmount_105 fl_X0_27 shq_71 kdq_0_3 h (fun v5 h => ?_)
    refine e_aload_n qX0_readAmount_108 rfl ?_
    refine e_geti qX0_readAmount_109 fl_X0_101 shq_1 kdq_9_5 h (fun v6 h => ?_)
    refine e_iast qX0_readAmount_112 shq_74 lnq_74 h (fun s7 h => ?_)
    refine e_iload_n qX0_readAmount_113 rfl ?_
    refine rz_e h (fun hz h => ?_)
    exact e_zret qX0_readAmount_114 rfl hz (ret_i h)
  refine e_ite h (fun hx h => ?_) (fun hx0 h => ?_)
  · refine e_tswk (tgt := 44) qX0_readAmount_8 hx (by decide) (by decide) (by decide) rfl rfl ?_
    refine e_aload_n qX0_readAmount_44 rfl ?_
    refine e_iconst (nI 1) qX0_readAmount_45 rfl ?_
    refine e_sipush (nI 999) qX0_readAmount_46 rfl ?_
    obtain ⟨v8, s9, hc, h⟩ := bd_e h
    refine e_cVi2 qX0_readAmount_49 mv_X0_104 shq_1 rfl rfl (w_X9_takeNumber hc) ?_
    refine e_istore_n (lv2 := [some (.ref 71), some (.ref 1), some (.int x2), some (.int v8)]) qX0_readAmount_52 rfl rfl rfl ?_
    refine e_goto (tgt := 100) qX0_readAmount_53 rfl ?_
    exact e_weak (hj4 _ _ h) ⟨Or.inr rfl, Or.inr rfl, Or.inl rfl, Or.inr rfl, trivial⟩
  refine e_ite h (fun hx h => ?_) (fun hx1 h => ?_)
  · refine e_tswk (tgt := 56) qX0_readAmount_8 hx (by decide) (by decide) (by decide) rfl rfl ?_
    refine e_aload_n qX0_readAmount_56 rfl ?_
    refine e_iconst (nI 1) qX0_readAmount_57 rfl ?_
    refine e_bipush (nI 59) qX0_readAmount_58 rfl ?_
    obtain ⟨v10, s11, hc, h⟩ := bd_e h
    refine e_cVi2 qX0_readAmount_60 mv_X0_104 shq_1 rfl rfl (w_X9_takeNumber hc) ?_
    refine e_istore_n (lv2 := [some (.ref 71), some (.ref 1), some (.int x2), some (.int v10)]) qX0_readAmount_63 rfl rfl rfl ?_
    refine e_goto (tgt := 100) qX0_readAmount_64 rfl ?_
    exact e_weak (hj4 _ _ h) ⟨Or.inr rfl, Or.inr rfl, Or.inl rfl, Or.inr rfl, trivial⟩
  refine e_ite h (fun hx h => ?_) (fun hx2 h => ?_)
  · refine e_tswk (tgt := 67) qX0_readAmount_8 hx (by decide) (by decide) (by decide) rfl rfl ?_
    refine e_aload_n qX0_readAmount_67 rfl ?_
    refine e_iconst (nI 0) qX0_readAmount_68 rfl ?_
    refine e_bipush (nI 8) qX0_readAmount_69 rfl ?_
    obtain ⟨v12, s13, hc, h⟩ := bd_e h
    refine e_cVi2 qX0_readAmount_71 mv_X0_104 shq_1 rfl rfl (w_X9_takeNumber hc) ?_
    refine e_istore_n (lv2 := [some (.ref 71), some (.ref 1), some (.int x2), some (.int v12)]) qX0_readAmount_74 rfl rfl rfl ?_
    refine e_goto (tgt := 100) qX0_readAmount_75 rfl ?_
    exact e_weak (hj4 _ _ h) ⟨Or.inr rfl, Or.inr rfl, Or.inl rfl, Or.inr rfl, trivial⟩
  refine e_ite h (fun hx h => ?_) (fun hx3 h => ?_)
  · refine e_tswk (tgt := 78) qX0_readAmount_8 hx (by decide) (by decide) (by decide) rfl rfl ?_
    refine e_aload_n qX0_readAmount_78 rfl ?_
    refine e_iconst (nI 1) qX0_readAmount_79 rfl ?_
    refine e_bipush (nI 30) qX0_readAmount_80 rfl ?_
    obtain ⟨v14, s15, hc, h⟩ := bd_e h
    refine e_cVi2 qX0_readAmount_82 mv_X0_104 shq_1 rfl rfl (w_X9_takeNumber hc) ?_
    refine e_istore_n (lv2 := [some (.ref 71), some (.ref 1), some (.int x2), some (.int v14)]) qX0_readAmount_85 rfl rfl rfl ?_
    refine e_goto (tgt := 100) qX0_readAmount_86 rfl ?_
    exact e_weak (hj4 _ _ h) ⟨Or.inr rfl, Or.inr rfl, Or.inl rfl, Or.inr rfl, trivial⟩
  refine e_ite h (fun hx h => ?_) (fun hx4 h => ?_)
  · refine e_tswk (tgt := 89) qX0_readAmount_8 hx (by decide) (by decide) (by decide) rfl rfl ?_
    refine e_aload_n qX0_readAmount_89 rfl ?_
    refine e_iconst (nI 1) qX0_readAmount_90 rfl ?_
    refine e_bipush (nI 60) qX0_readAmount_91 rfl ?_
    obtain ⟨v16, s17, hc, h⟩ := bd_e h
    refine e_cVi2 qX0_readAmount_93 mv_X0_104 shq_1 rfl rfl (w_X9_takeNumber hc) ?_
    refine e_istore_n (lv2 := [some (.ref 71), some (.ref 1), some (.int x2), some (.int v16)]) qX0_readAmount_96 rfl rfl rfl ?_
    refine e_goto (tgt := 100) qX0_readAmount_97 rfl ?_
    exact e_weak (hj4 _ _ h) ⟨Or.inr rfl, Or.inr rfl, Or.inl rfl, Or.inr rfl, trivial⟩
  refine e_tswo (tgt := 100) qX0_readAmount_8 (tsw_def (lo := 2) (n := 5) (by decide) (lt_s (lt_s (lt_s (lt_s (lt_s lt_0 hx0) hx1) hx2) hx3) hx4)) rfl ?_
  exact e_weak (hj4 _ _ h) ⟨Or.inr rfl, Or.inr rfl, Or.inl rfl, Or.inr rfl, trivial⟩

def f_X1_comparePair (N : Nat) (a0 : Nat) (x1 : Int32) (x2 : Int32) (s0 : St) : Option (St) :=
  ald (rr (rr a0 0)) 8 x1 fun v1 =>
  ald (rr (rr a0 0)) 8 x2 fun v3 =>
  bp (f_X4_isAlike N v1 v3 s0) fun v5 =>
  if v5 = 0 then
    some s0
  else
  ald (rr (rr a0 0)) 8 x1 fun v6 =>
  vl (s0.1 v6 12) fun v8 =>
  vl (sI s0 v6 12 (v8 ||| ((nI 1) <<< (x2 &&& 31)))) fun s9 =>
  ald (rr (rr a0 0)) 8 x2 fun v10 =>
  vl (s9.1 v10 12) fun v12 =>
  vl (sI s9 v10 12 (v12 ||| ((nI 1) <<< (x1 &&& 31)))) fun s13 =>
  ald (rr (rr a0 0)) 8 x1 fun v14 =>
  ald (rr (rr a0 0)) 8 x2 fun v16 =>
  bp (f_X4_isInOneSight N v14 v16 s13) fun v18 =>
  if v18 = 0 then
    some s13
  else
  ald (rr (rr a0 0)) 8 x1 fun v19 =>
  vl (s13.1 v19 13) fun v21 =>
  vl (sI s13 v19 13 (v21 ||| ((nI 1) <<< (x2 &&& 31)))) fun s22 =>
  ald (rr (rr a0 0)) 8 x2 fun v23 =>
  vl (s22.1 v23 13) fun v25 =>
  vl (sI s22 v23 13 (v25 ||| ((nI 1) <<< (x1 &&& 31)))) fun s26 =>
  some s26

theorem qX1_comparePair_0 : Dc mX1_comparePair 0 (.aload_n 0) 1 1 := ⟨by decide +kernel, rfl⟩
theorem qX1_comparePair_1 : Dc mX1_comparePair 1 (.getfield 11) 3 4 := ⟨by decide +kernel, rfl⟩
theorem qX1_comparePair_4 : Dc mX1_comparePair 4 (.iload_n 1) 1 5 := ⟨by decide +kernel, rfl⟩
theorem qX1_comparePair_5 : Dc mX1_comparePair 5 (.aaload) 1 6 := ⟨by decide +kernel, rfl⟩
theorem qX1_comparePair_6 : Dc mX1_comparePair 6 (.aload_n 0) 1 7 := ⟨by decide +kernel, rfl⟩
theorem qX1_comparePair_7 : Dc mX1_comparePair 7 (.getfield 11) 3 10 := ⟨by decide +kernel, rfl⟩
theorem qX1_comparePair_10 : Dc mX1_comparePair 10 (.iload_n 2) 1 11 := ⟨by decide +kernel, rfl⟩
theorem qX1_comparePair_11 : Dc mX1_comparePair 11 (.aaload) 1 12 := ⟨by decide +kernel, rfl⟩
theorem qX1_comparePair_12 : Dc mX1_comparePair 12 (.invokevirtual 58) 3 15 := ⟨by decide +kernel, rfl⟩
theorem qX1_comparePair_15 : Dc mX1_comparePair 15 (.ifCond .eq 89) 3 18 := ⟨by decide +kernel, rfl⟩
theorem qX1_comparePair_18 : Dc mX1_comparePair 18 (.aload_n 0) 1 19 := ⟨by decide +kernel, rfl⟩
theorem qX1_comparePair_19 : Dc mX1_comparePair 19 (.getfield 11) 3 22 := ⟨by decide +kernel, rfl⟩
theorem qX1_comparePair_22 : Dc mX1_comparePair 22 (.iload_n 1) 1 23 := ⟨by decide +kernel, rfl⟩
theorem qX1_comparePair_23 : Dc mX1_comparePair 23 (.aaload) 1 24 := ⟨by decide +kernel, rfl⟩
theorem qX1_comparePair_24 : Dc mX1_comparePair 24 (.dup) 1 25 := ⟨by decide +kernel, rfl⟩
theorem qX1_comparePair_25 : Dc mX1_comparePair 25 (.getfield 48) 3 28 := ⟨by decide +kernel, rfl⟩
theorem qX1_comparePair_28 : Dc mX1_comparePair 28 (.iconst 1) 1 29 := ⟨by decide +kernel, rfl⟩
theorem qX1_comparePair_29 : Dc mX1_comparePair 29 (.iload_n 2) 1 30 := ⟨by decide +kernel, rfl⟩
theorem qX1_comparePair_30 : Dc mX1_comparePair 30 (.ishl) 1 31 := ⟨by decide +kernel, rfl⟩
theorem qX1_comparePair_31 : Dc mX1_comparePair 31 (.ior) 1 32 := ⟨by decide +kernel, rfl⟩
theorem qX1_comparePair_32 : Dc mX1_comparePair 32 (.putfield 48) 3 35 := ⟨by decide +kernel, rfl⟩
theorem qX1_comparePair_35 : Dc mX1_comparePair 35 (.aload_n 0) 1 36 := ⟨by decide +kernel, rfl⟩
theorem qX1_comparePair_36 : Dc mX1_comparePair 36 (.getfield 11) 3 39 := ⟨by decide +kernel, rfl⟩
theorem qX1_comparePair_39 : Dc mX1_comparePair 39 (.iload_n 2) 1 40 := ⟨by decide +kernel, rfl⟩
theorem qX1_comparePair_40 : Dc mX1_comparePair 40 (.aaload) 1 41 := ⟨by decide +kernel, rfl⟩
theorem qX1_comparePair_41 : Dc mX1_comparePair 41 (.dup) 1 42 := ⟨by decide +kernel, rfl⟩
theorem qX1_comparePair_42 : Dc mX1_comparePair 42 (.getfield 48) 3 45 := ⟨by decide +kernel, rfl⟩
theorem qX1_comparePair_45 : Dc mX1_comparePair 45 (.iconst 1) 1 46 := ⟨by decide +kernel, rfl⟩
theorem qX1_comparePair_46 : Dc mX1_comparePair 46 (.iload_n 1) 1 47 := ⟨by decide +kernel, rfl⟩
theorem qX1_comparePair_47 : Dc mX1_comparePair 47 (.ishl) 1 48 := ⟨by decide +kernel, rfl⟩
theorem qX1_comparePair_48 : Dc mX1_comparePair 48 (.ior) 1 49 := ⟨by decide +kernel, rfl⟩
theorem qX1_comparePair_49 : Dc mX1_comparePair 49 (.putfield 48) 3 52 := ⟨by decide +kernel, rfl⟩
theorem qX1_comparePair_52 : Dc mX1_comparePair 52 (.aload_n 0) 1 53 := ⟨by decide +kernel, rfl⟩
theorem qX1_comparePair_53 : Dc mX1_comparePair 53 (.getfield 11) 3 56 := ⟨by decide +kernel, rfl⟩
theorem qX1_comparePair_56 : Dc mX1_comparePair 56 (.iload_n 1) 1 57 := ⟨by decide +kernel, rfl⟩
theorem qX1_comparePair_57 : Dc mX1_comparePair 57 (.aaload) 1 58 := ⟨by decide +kernel, rfl⟩
theorem qX1_comparePair_58 : Dc mX1_comparePair 58 (.aload_n 0) 1 59 := ⟨by decide +kernel, rfl⟩
theorem qX1_comparePair_59 : Dc mX1_comparePair 59 (.getfield 11) 3 62 := ⟨by decide +kernel, rfl⟩
theorem qX1_comparePair_62 : Dc mX1_comparePair 62 (.iload_n 2) 1 63 := ⟨by decide +kernel, rfl⟩
theorem qX1_comparePair_63 : Dc mX1_comparePair 63 (.aaload) 1 64 := ⟨by decide +kernel, rfl⟩
theorem qX1_comparePair_64 : Dc mX1_comparePair 64 (.invokevirtual 62) 3 67 := ⟨by decide +kernel, rfl⟩
theorem qX1_comparePair_67 : Dc mX1_comparePair 67 (.ifCond .eq 37) 3 70 := ⟨by decide +kernel, rfl⟩
theorem qX1_comparePair_70 : Dc mX1_comparePair 70 (.aload_n 0) 1 71 := ⟨by decide +kernel, rfl⟩
theorem qX1_comparePair_71 : Dc mX1_comparePair 71 (.getfield 11) 3 74 := ⟨by decide +kernel, rfl⟩
theorem qX1_comparePair_74 : Dc mX1_comparePair 74 (.iload_n 1) 1 75 := ⟨by decide +kernel, rfl⟩
theorem qX1_comparePair_75 : Dc mX1_comparePair 75 (.aaload) 1 76 := ⟨by decide +kernel, rfl⟩
theorem qX1_comparePair_76 : Dc mX1_comparePair 76 (.dup) 1 77 := ⟨by decide +kernel, rfl⟩
theorem qX1_comparePair_77 : Dc mX1_comparePair 77 (.getfield 51) 3 80 := ⟨by decide +kernel, rfl⟩
theorem qX1_comparePair_80 : Dc mX1_comparePair 80 (.iconst 1) 1 81 := ⟨by decide +kernel, rfl⟩
theorem qX1_comparePair_81 : Dc mX1_comparePair 81 (.iload_n 2) 1 82 := ⟨by decide +kernel, rfl⟩
theorem qX1_comparePair_82 : Dc mX1_comparePair 82 (.ishl) 1 83 := ⟨by decide +kernel, rfl⟩
theorem qX1_comparePair_83 : Dc mX1_comparePair 83 (.ior) 1 84 := ⟨by decide +kernel, rfl⟩
theorem qX1_comparePair_84 : Dc mX1_comparePair 84 (.putfield 51) 3 87 := ⟨by decide +kernel, rfl⟩
theorem qX1_comparePair_87 : Dc mX1_comparePair 87 (.aload_n 0) 1 88 := ⟨by decide +kernel, rfl⟩
theorem qX1_comparePair_88 : Dc mX1_comparePair 88 (.getfield 11) 3 91 := ⟨by decide +kernel, rfl⟩
theorem qX1_comparePair_91 : Dc mX1_comparePair 91 (.iload_n 2) 1 92 := ⟨by decide +kernel, rfl⟩
theorem qX1_comparePair_92 : Dc mX1_comparePair 92 (.aaload) 1 93 := ⟨by decide +kernel, rfl⟩
theorem qX1_comparePair_93 : Dc mX1_comparePair 93 (.dup) 1 94 := ⟨by decide +kernel, rfl⟩
theorem qX1_comparePair_94 : Dc mX1_comparePair 94 (.getfield 51) 3 97 := ⟨by decide +kernel, rfl⟩
theorem qX1_comparePair_97 : Dc mX1_comparePair 97 (.iconst 1) 1 98 := ⟨by decide +kernel, rfl⟩
theorem qX1_comparePair_98 : Dc mX1_comparePair 98 (.iload_n 1) 1 99 := ⟨by decide +kernel, rfl⟩
theorem qX1_comparePair_99 : Dc mX1_comparePair 99 (.ishl) 1 100 := ⟨by decide +kernel, rfl⟩
theorem qX1_comparePair_100 : Dc mX1_comparePair 100 (.ior) 1 101 := ⟨by decide +kernel, rfl⟩
theorem qX1_comparePair_101 : Dc mX1_comparePair 101 (.putfield 51) 3 104 := ⟨by decide +kernel, rfl⟩
theorem qX1_comparePair_104 : Dc mX1_comparePair 104 (.return_) 1 105 := ⟨by decide +kernel, rfl⟩

set_option maxRecDepth 20000 in
set_option maxHeartbeats 4000000 in
theorem w_X1_comparePair {N : Nat} {a0 : Nat} {x1 : Int32} {x2 : Int32} {s0 : St} {sr : St} (h_a0 : sh a0 = 1) (h : f_X1_comparePair N a0 x1 x2 s0 = some sr) : Ct mX1_comparePair 3 [.ref a0, .int x1, .int x2] s0 (none, sr) := by
  refine Ct.ofE (by decide +kernel) rfl ?_
  show E mX1_comparePair 3 (none, sr) 0 [some (.ref a0), some (.int x1), some (.int x2)] [] s0
  unfold f_X1_comparePair at h
  refine e_aload_n qX1_comparePair_0 rfl ?_
  refine e_getr (rr a0 0) qX1_comparePair_1 fl_X1_11 h_a0 kdq_1_0 rfl ?_
  refine e_iload_n qX1_comparePair_4 rfl ?_
  refine e_rald24 qX1_comparePair_5 (wt_1_0 _ h_a0).1 (wt_1_0 _ h_a0).2 h (fun i2 hi2 h => ?_)
  refine e_aload_n qX1_comparePair_6 rfl ?_
  refine e_getr (rr a0 0) qX1_comparePair_7 fl_X1_11 h_a0 kdq_1_0 rfl ?_
  refine e_iload_n qX1_comparePair_10 rfl ?_
  refine e_rald24 qX1_comparePair_11 (wt_1_0 _ h_a0).1 (wt_1_0 _ h_a0).2 h (fun i4 hi4 h => ?_)
  obtain ⟨v5, hc, h⟩ := bp_e h
  refine e_cVi1 qX1_comparePair_12 mv_X1_58 (we_24 _ (wt_1_0 _ h_a0).1 _ hi2) rfl rfl (w_X4_isAlike (we_24 _ (wt_1_0 _ h_a0).1 _ hi2) (we_24 _ (wt_1_0 _ h_a0).1 _ hi4) hc) ?_
  refine e_if_eq (tgt := 104) qX1_comparePair_15 rfl h (fun _ h => ?_) (fun _ h => ?_)
  · exact e_vret qX1_comparePair_104 rfl (ret_v h)
  refine e_aload_n qX1_comparePair_18 rfl ?_
  refine e_getr (rr a0 0) qX1_comparePair_19 fl_X1_11 h_a0 kdq_1_0 rfl ?_
  refine e_iload_n qX1_comparePair_22 rfl ?_
  refine e_rald24 qX1_comparePair_23 (wt_1_0 _ h_a0).1 (wt_1_0 _ h_a0).2 h (fun i7 hi7 h => ?_)
  refine e_dup qX1_comparePair_24 rfl ?_
  refine e_geti qX1_comparePair_25 fl_X1_48 (we_24 _ (wt_1_0 _ h_a0).1 _ hi7) kdq_4_12 h (fun v8 h => ?_)
  refine e_iconst (nI 1) qX1_comparePair_28 rfl ?_
  refine e_iload_n qX1_comparePair_29 rfl ?_
  refine e_ishl qX1_comparePair_30 ?_
  refine e_ior qX1_comparePair_31 ?_
  refine e_puti qX1_comparePair_32 fp_X1_48 (we_24 _ (wt_1_0 _ h_a0).1 _ hi7) kdq_4_12 h (fun s9 h => ?_)
  refine e_aload_n qX1_comparePair_35 rfl ?_
  refine e_getr (rr a0 0) qX1_comparePair_36 fl_X1_11 h_a0 kdq_1_0 rfl ?_
  refine e_iload_n qX1_comparePair_39 rfl ?_
  refine e_rald24 qX1_comparePair_40 (wt_1_0 _ h_a0).1 (wt_1_0 _ h_a0).2 h (fun i11 hi11 h => ?_)
  refine e_dup qX1_comparePair_41 rfl ?_
  refine e_geti qX1_comparePair_42 fl_X1_48 (we_24 _ (wt_1_0 _ h_a0).1 _ hi11) kdq_4_12 h (fun v12 h => ?_)
  refine e_iconst (nI 1) qX1_comparePair_45 rfl ?_
  refine e_iload_n qX1_comparePair_46 rfl ?_
  refine e_ishl qX1_comparePair_47 ?_
  refine e_ior qX1_comparePair_48 ?_
  refine e_puti qX1_comparePair_49 fp_X1_48 (we_24 _ (wt_1_0 _ h_a0).1 _ hi11) kdq_4_12 h (fun s13 h => ?_)
  refine e_aload_n qX1_comparePair_52 rfl ?_
  refine e_getr (rr a0 0) qX1_comparePair_53 fl_X1_11 h_a0 kdq_1_0 rfl ?_
  refine e_iload_n qX1_comparePair_56 rfl ?_
  refine e_rald24 qX1_comparePair_57 (wt_1_0 _ h_a0).1 (wt_1_0 _ h_a0).2 h (fun i15 hi15 h => ?_)
  refine e_aload_n qX1_comparePair_58 rfl ?_
  refine e_getr (rr a0 0) qX1_comparePair_59 fl_X1_11 h_a0 kdq_1_0 rfl ?_
  refine e_iload_n qX1_comparePair_62 rfl ?_
  refine e_rald24 qX1_comparePair_63 (wt_1_0 _ h_a0).1 (wt_1_0 _ h_a0).2 h (fun i17 hi17 h => ?_)
  obtain ⟨v18, hc, h⟩ := bp_e h
  refine e_cVi1 qX1_comparePair_64 mv_X1_62 (we_24 _ (wt_1_0 _ h_a0).1 _ hi15) rfl rfl (w_X4_isInOneSight (we_24 _ (wt_1_0 _ h_a0).1 _ hi15) (we_24 _ (wt_1_0 _ h_a0).1 _ hi17) hc) ?_
  refine e_if_eq (tgt := 104) qX1_comparePair_67 rfl h (fun _ h => ?_) (fun _ h => ?_)
  · exact e_vret qX1_comparePair_104 rfl (ret_v h)
  refine e_aload_n qX1_comparePair_70 rfl ?_
  refine e_getr (rr a0 0) qX1_comparePair_71 fl_X1_11 h_a0 kdq_1_0 rfl ?_
  refine e_iload_n qX1_comparePair_74 rfl ?_
  refine e_rald24 qX1_comparePair_75 (wt_1_0 _ h_a0).1 (wt_1_0 _ h_a0).2 h (fun i20 hi20 h => ?_)
  refine e_dup qX1_comparePair_76 rfl ?_
  refine e_geti qX1_comparePair_77 fl_X1_51 (we_24 _ (wt_1_0 _ h_a0).1 _ hi20) kdq_4_13 h (fun v21 h => ?_)
  refine e_iconst (nI 1) qX1_comparePair_80 rfl ?_
  refine e_iload_n qX1_comparePair_81 rfl ?_
  refine e_ishl qX1_comparePair_82 ?_
  refine e_ior qX1_comparePair_83 ?_
  refine e_puti qX1_comparePair_84 fp_X1_51 (we_24 _ (wt_1_0 _ h_a0).1 _ hi20) kdq_4_13 h (fun s22 h => ?_)
  refine e_aload_n qX1_comparePair_87 rfl ?_
  refine e_getr (rr a0 0) qX1_comparePair_88 fl_X1_11 h_a0 kdq_1_0 rfl ?_
  refine e_iload_n qX1_comparePair_91 rfl ?_
  refine e_rald24 qX1_comparePair_92 (wt_1_0 _ h_a0).1 (wt_1_0 _ h_a0).2 h (fun i24 hi24 h => ?_)
  refine e_dup qX1_comparePair_93 rfl ?_
  refine e_geti qX1_comparePair_94 fl_X1_51 (we_24 _ (wt_1_0 _ h_a0).1 _ hi24) kdq_4_13 h (fun v25 h => ?_)
  refine e_iconst (nI 1) qX1_comparePair_97 rfl ?_
  refine e_iload_n qX1_comparePair_98 rfl ?_
  refine e_ishl qX1_comparePair_99 ?_
  refine e_ior qX1_comparePair_100 ?_
  refine e_puti qX1_comparePair_101 fp_X1_51 (we_24 _ (wt_1_0 _ h_a0).1 _ hi24) kdq_4_13 h (fun s26 h => ?_)
  exact e_vret qX1_comparePair_104 rfl (ret_v h)

def f_X1_readHaze (N : Nat) (a0 : Nat) (s0 : St) : Option (Int32 × St) :=
  vl (s0.1 a0 6) fun v1 =>
  if v1 = 0 then
    bp (f_X9_next N s0) fun s2 =>
    bd (f_X9_takeNumber N (nI 1) (nI 30) s2) fun v3 s4 =>
    if v3 = 0 then
      some ((nI 0), s4)
    else
    vl (s4.1 1 5) fun v5 =>
    vl (sI s4 a0 4 v5) fun s6 =>
    vl (sI s6 a0 6 (nI 1)) fun s7 =>
    some ((nI 1), s7)
  else
  bd (f_X9_refuse (nI 3) s0) fun v8 s9 =>
  rz v8 <|
  some (v8, s9)

theorem qX1_readHaze_0 : Dc mX1_readHaze 0 (.aload_n 0) 1 1 := ⟨by decide +kernel, rfl⟩
theorem qX1_readHaze_1 : Dc mX1_readHaze 1 (.getfield 79) 3 4 := ⟨by decide +kernel, rfl⟩
theorem qX1_readHaze_4 : Dc mX1_readHaze 4 (.ifCond .eq 9) 3 7 := ⟨by decide +kernel, rfl⟩
theorem qX1_readHaze_7 : Dc mX1_readHaze 7 (.aload_n 1) 1 8 := ⟨by decide +kernel, rfl⟩
theorem qX1_readHaze_8 : Dc mX1_readHaze 8 (.iconst 3) 1 9 := ⟨by decide +kernel, rfl⟩
theorem qX1_readHaze_9 : Dc mX1_readHaze 9 (.invokevirtual 147) 3 12 := ⟨by decide +kernel, rfl⟩
theorem qX1_readHaze_12 : Dc mX1_readHaze 12 (.ireturn) 1 13 := ⟨by decide +kernel, rfl⟩
theorem qX1_readHaze_13 : Dc mX1_readHaze 13 (.aload_n 1) 1 14 := ⟨by decide +kernel, rfl⟩
theorem qX1_readHaze_14 : Dc mX1_readHaze 14 (.invokevirtual 150) 3 17 := ⟨by decide +kernel, rfl⟩
theorem qX1_readHaze_17 : Dc mX1_readHaze 17 (.aload_n 1) 1 18 := ⟨by decide +kernel, rfl⟩
theorem qX1_readHaze_18 : Dc mX1_readHaze 18 (.iconst 1) 1 19 := ⟨by decide +kernel, rfl⟩
theorem qX1_readHaze_19 : Dc mX1_readHaze 19 (.bipush 30) 2 21 := ⟨by decide +kernel, rfl⟩
theorem qX1_readHaze_21 : Dc mX1_readHaze 21 (.invokevirtual 164) 3 24 := ⟨by decide +kernel, rfl⟩
theorem qX1_readHaze_24 : Dc mX1_readHaze 24 (.ifCond .ne 5) 3 27 := ⟨by decide +kernel, rfl⟩
theorem qX1_readHaze_27 : Dc mX1_readHaze 27 (.iconst 0) 1 28 := ⟨by decide +kernel, rfl⟩
theorem qX1_readHaze_28 : Dc mX1_readHaze 28 (.ireturn) 1 29 := ⟨by decide +kernel, rfl⟩
theorem qX1_readHaze_29 : Dc mX1_readHaze 29 (.aload_n 0) 1 30 := ⟨by decide +kernel, rfl⟩
theorem qX1_readHaze_30 : Dc mX1_readHaze 30 (.aload_n 1) 1 31 := ⟨by decide +kernel, rfl⟩
theorem qX1_readHaze_31 : Dc mX1_readHaze 31 (.getfield 168) 3 34 := ⟨by decide +kernel, rfl⟩
theorem qX1_readHaze_34 : Dc mX1_readHaze 34 (.putfield 23) 3 37 := ⟨by decide +kernel, rfl⟩
theorem qX1_readHaze_37 : Dc mX1_readHaze 37 (.aload_n 0) 1 38 := ⟨by decide +kernel, rfl⟩
theorem qX1_readHaze_38 : Dc mX1_readHaze 38 (.iconst 1) 1 39 := ⟨by decide +kernel, rfl⟩
theorem qX1_readHaze_39 : Dc mX1_readHaze 39 (.putfield 79) 3 42 := ⟨by decide +kernel, rfl⟩
theorem qX1_readHaze_42 : Dc mX1_readHaze 42 (.iconst 1) 1 43 := ⟨by decide +kernel, rfl⟩
theorem qX1_readHaze_43 : Dc mX1_readHaze 43 (.ireturn) 1 44 := ⟨by decide +kernel, rfl⟩

set_option maxRecDepth 20000 in
set_option maxHeartbeats 4000000 in
theorem w_X1_readHaze {N : Nat} {a0 : Nat} {s0 : St} {r : Int32} {sr : St} (h_a0 : sh a0 = 1) (h : f_X1_readHaze N a0 s0 = some (r, sr)) : Ct mX1_readHaze 3 [.ref a0, .ref 1] s0 (some (.int r), sr) := by
  refine Ct.ofE (by decide +kernel) rfl ?_
  show E mX1_readHaze 3 (some (.int r), sr) 0 [some (.ref a0), some (.ref 1)] [] s0
  unfold f_X1_readHaze at h
  refine e_aload_n qX1_readHaze_0 rfl ?_
  refine e_geti qX1_readHaze_1 fl_X1_79 h_a0 kdq_1_6 h (fun v1 h => ?_)
  refine e_if_eq (tgt := 13) qX1_readHaze_4 rfl h (fun _ h => ?_) (fun _ h => ?_)
  · refine e_aload_n qX1_readHaze_13 rfl ?_
    obtain ⟨s2, hc, h⟩ := bp_e h
    refine e_cVv0 qX1_readHaze_14 mv_X1_150 shq_1 rfl rfl (w_X9_next hc) ?_
    refine e_aload_n qX1_readHaze_17 rfl ?_
    refine e_iconst (nI 1) qX1_readHaze_18 rfl ?_
    refine e_bipush (nI 30) qX1_readHaze_19 rfl ?_
    obtain ⟨v3, s4, hc, h⟩ := bd_e h
    refine e_cVi2 qX1_readHaze_21 mv_X1_164 shq_1 rfl rfl (w_X9_takeNumber hc) ?_
    refine e_if_ne (tgt := 29) qX1_readHaze_24 rfl h (fun _ h => ?_) (fun _ h => ?_)
    · refine e_iconst (nI 0) qX1_readHaze_27 rfl ?_
      exact e_zret qX1_readHaze_28 rfl (by decide) (ret_i h)
    refine e_aload_n qX1_readHaze_29 rfl ?_
    refine e_aload_n qX1_readHaze_30 rfl ?_
    refine e_geti qX1_readHaze_31 fl_X1_168 shq_1 kdq_9_5 h (fun v5 h => ?_)
    refine e_puti qX1_readHaze_34 fp_X1_23 h_a0 kdq_1_4 h (fun s6 h => ?_)
    refine e_aload_n qX1_readHaze_37 rfl ?_
    refine e_iconst (nI 1) qX1_readHaze_38 rfl ?_
    refine e_putz qX1_readHaze_39 fp_X1_79 h_a0 kdq_1_6 (by decide) h (fun s7 h => ?_)
    refine e_iconst (nI 1) qX1_readHaze_42 rfl ?_
    exact e_zret qX1_readHaze_43 rfl (by decide) (ret_i h)
  refine e_aload_n qX1_readHaze_7 rfl ?_
  refine e_iconst (nI 3) qX1_readHaze_8 rfl ?_
  obtain ⟨v8, s9, hc, h⟩ := bd_e h
  refine e_cVi1 qX1_readHaze_9 mv_X1_147 shq_1 rfl rfl (w_X9_refuse hc) ?_
  refine rz_e h (fun hz h => ?_)
  exact e_zret qX1_readHaze_12 rfl hz (ret_i h)

def f_X1_atNewName (N : Nat) (a0 : Nat) (s0 : St) : Option (Int32 × St) :=
  bp (f_X9_isName N s0) fun v1 =>
  if v1 = 0 then
    bd (f_X9_refuse (nI 1) s0) fun v2 s3 =>
    rz v2 <|
    some (v2, s3)
  else
  vl (s0.2 1 3) fun v4 =>
  bp (f_X1_lightNamed N a0 v4 s0) fun v5 =>
  jn (fun (v6 : Int32) =>
    if v6 = 0 then
      some ((nI 1), s0)
    else
    bd (f_X9_refuse (nI 3) s0) fun v8 s9 =>
    if v8 = 0 then
      some ((nI 0), s9)
    else
    some ((nI 1), s9)) fun j7 =>
  jn (j7 (nI 1)) fun j10 =>
  if v5 = (-1) then
    vl (s0.2 1 3) fun v11 =>
    bp (f_X1_shipNamed N a0 v11 s0) fun v12 =>
    if v12 = (-1) then
      j7 (nI 0)
    else
    j10
  else
  j10

theorem qX1_atNewName_0 : Dc mX1_atNewName 0 (.aload_n 1) 1 1 := ⟨by decide +kernel, rfl⟩
theorem qX1_atNewName_1 : Dc mX1_atNewName 1 (.invokevirtual 231) 3 4 := ⟨by decide +kernel, rfl⟩
theorem qX1_atNewName_4 : Dc mX1_atNewName 4 (.ifCond .ne 9) 3 7 := ⟨by decide +kernel, rfl⟩
theorem qX1_atNewName_7 : Dc mX1_atNewName 7 (.aload_n 1) 1 8 := ⟨by decide +kernel, rfl⟩
theorem qX1_atNewName_8 : Dc mX1_atNewName 8 (.iconst 1) 1 9 := ⟨by decide +kernel, rfl⟩
theorem qX1_atNewName_9 : Dc mX1_atNewName 9 (.invokevirtual 147) 3 12 := ⟨by decide +kernel, rfl⟩
theorem qX1_atNewName_12 : Dc mX1_atNewName 12 (.ireturn) 1 13 := ⟨by decide +kernel, rfl⟩
theorem qX1_atNewName_13 : Dc mX1_atNewName 13 (.aload_n 0) 1 14 := ⟨by decide +kernel, rfl⟩
theorem qX1_atNewName_14 : Dc mX1_atNewName 14 (.aload_n 1) 1 15 := ⟨by decide +kernel, rfl⟩
theorem qX1_atNewName_15 : Dc mX1_atNewName 15 (.getfield 156) 3 18 := ⟨by decide +kernel, rfl⟩
theorem qX1_atNewName_18 : Dc mX1_atNewName 18 (.invokevirtual 234) 3 21 := ⟨by decide +kernel, rfl⟩
theorem qX1_atNewName_21 : Dc mX1_atNewName 21 (.iconst (-1)) 1 22 := ⟨by decide +kernel, rfl⟩
theorem qX1_atNewName_22 : Dc mX1_atNewName 22 (.if_icmp .ne 15) 3 25 := ⟨by decide +kernel, rfl⟩
theorem qX1_atNewName_25 : Dc mX1_atNewName 25 (.aload_n 0) 1 26 := ⟨by decide +kernel, rfl⟩
theorem qX1_atNewName_26 : Dc mX1_atNewName 26 (.aload_n 1) 1 27 := ⟨by decide +kernel, rfl⟩
theorem qX1_atNewName_27 : Dc mX1_atNewName 27 (.getfield 156) 3 30 := ⟨by decide +kernel, rfl⟩
theorem qX1_atNewName_30 : Dc mX1_atNewName 30 (.invokevirtual 238) 3 33 := ⟨by decide +kernel, rfl⟩
theorem qX1_atNewName_33 : Dc mX1_atNewName 33 (.iconst (-1)) 1 34 := ⟨by decide +kernel, rfl⟩
theorem qX1_atNewName_34 : Dc mX1_atNewName 34 (.if_icmp .eq 7) 3 37 := ⟨by decide +kernel, rfl⟩
theorem qX1_atNewName_37 : Dc mX1_atNewName 37 (.iconst 1) 1 38 := ⟨by decide +kernel, rfl⟩
theorem qX1_atNewName_38 : Dc mX1_atNewName 38 (.goto 4) 3 41 := ⟨by decide +kernel, rfl⟩
theorem qX1_atNewName_41 : Dc mX1_atNewName 41 (.iconst 0) 1 42 := ⟨by decide +kernel, rfl⟩
theorem qX1_atNewName_42 : Dc mX1_atNewName 42 (.istore_n 2) 1 43 := ⟨by decide +kernel, rfl⟩
theorem qX1_atNewName_43 : Dc mX1_atNewName 43 (.iload_n 2) 1 44 := ⟨by decide +kernel, rfl⟩
theorem qX1_atNewName_44 : Dc mX1_atNewName 44 (.ifCond .eq 11) 3 47 := ⟨by decide +kernel, rfl⟩
theorem qX1_atNewName_47 : Dc mX1_atNewName 47 (.aload_n 1) 1 48 := ⟨by decide +kernel, rfl⟩
theorem qX1_atNewName_48 : Dc mX1_atNewName 48 (.iconst 3) 1 49 := ⟨by decide +kernel, rfl⟩
theorem qX1_atNewName_49 : Dc mX1_atNewName 49 (.invokevirtual 147) 3 52 := ⟨by decide +kernel, rfl⟩
theorem qX1_atNewName_52 : Dc mX1_atNewName 52 (.ifCond .eq 7) 3 55 := ⟨by decide +kernel, rfl⟩
theorem qX1_atNewName_55 : Dc mX1_atNewName 55 (.iconst 1) 1 56 := ⟨by decide +kernel, rfl⟩
theorem qX1_atNewName_56 : Dc mX1_atNewName 56 (.goto 4) 3 59 := ⟨by decide +kernel, rfl⟩
theorem qX1_atNewName_59 : Dc mX1_atNewName 59 (.iconst 0) 1 60 := ⟨by decide +kernel, rfl⟩
theorem qX1_atNewName_60 : Dc mX1_atNewName 60 (.ireturn) 1 61 := ⟨by decide +kernel, rfl⟩

set_option maxRecDepth 20000 in
set_option maxHeartbeats 4000000 in
theorem w_X1_atNewName {N : Nat} {a0 : Nat} {s0 : St} {r : Int32} {sr : St} (h_a0 : sh a0 = 1) (h : f_X1_atNewName N a0 s0 = some (r, sr)) : Ct mX1_atNewName 2 [.ref a0, .ref 1] s0 (some (.int r), sr) := by
  refine Ct.ofE (by decide +kernel) rfl ?_
  show E mX1_atNewName 2 (some (.int r), sr) 0 [some (.ref a0), some (.ref 1), none] [] s0
  unfold f_X1_atNewName at h
  refine e_aload_n qX1_atNewName_0 rfl ?_
  obtain ⟨v1, hc, h⟩ := bp_e h
  refine e_cVi0 qX1_atNewName_1 mv_X1_231 shq_1 rfl rfl (w_X9_isName hc) ?_
  refine e_if_ne (tgt := 13) qX1_atNewName_4 rfl h (fun _ h => ?_) (fun _ h => ?_)
  · refine e_aload_n qX1_atNewName_7 rfl ?_
    refine e_iconst (nI 1) qX1_atNewName_8 rfl ?_
    obtain ⟨v2, s3, hc, h⟩ := bd_e h
    refine e_cVi1 qX1_atNewName_9 mv_X1_147 shq_1 rfl rfl (w_X9_refuse hc) ?_
    refine rz_e h (fun hz h => ?_)
    exact e_zret qX1_atNewName_12 rfl hz (ret_i h)
  refine e_aload_n qX1_atNewName_13 rfl ?_
  refine e_aload_n qX1_atNewName_14 rfl ?_
  refine e_getl qX1_atNewName_15 fl_X1_156 shq_1 kdq_9_3 h (fun v4 h => ?_)
  obtain ⟨v5, hc, h⟩ := bp_e h
  refine e_cVi1 qX1_atNewName_18 mv_X1_234 h_a0 rfl rfl (w_X1_lightNamed h_a0 hc) ?_
  refine e_iconst (-1) qX1_atNewName_21 rfl ?_
  refine jn_e (fun j => ∀ (v6 : Int32), j v6 = some (r, sr) → E mX1_atNewName 2 (some (.int r), sr) 42 [none, some (.ref 1), none] [.int v6] s0) h ?_ (fun j7 hj7 h => ?_)
  · intro v6 h
    refine e_istore_n (lv2 := [none, some (.ref 1), some (.int v6)]) qX1_atNewName_42 rfl rfl rfl ?_
    refine e_iload_n qX1_atNewName_43 rfl ?_
    refine e_if_eq (tgt := 55) qX1_atNewName_44 rfl h (fun _ h => ?_) (fun _ h => ?_)
    · refine e_iconst (nI 1) qX1_atNewName_55 rfl ?_
      refine e_goto (tgt := 60) qX1_atNewName_56 rfl ?_
      exact e_zret qX1_atNewName_60 rfl (by decide) (ret_i h)
    refine e_aload_n qX1_atNewName_47 rfl ?_
    refine e_iconst (nI 3) qX1_atNewName_48 rfl ?_
    obtain ⟨v8, s9, hc, h⟩ := bd_e h
    refine e_cVi1 qX1_atNewName_49 mv_X1_147 shq_1 rfl rfl (w_X9_refuse hc) ?_
    refine e_if_eq (tgt := 59) qX1_atNewName_52 rfl h (fun _ h => ?_) (fun _ h => ?_)
    · refine e_iconst (nI 0) qX1_atNewName_59 rfl ?_
      exact e_zret qX1_atNewName_60 rfl (by decide) (ret_i h)
    refine e_iconst (nI 1) qX1_atNewName_55 rfl ?_
    refine e_goto (tgt := 60) qX1_atNewName_56 rfl ?_
    exact e_zret qX1_atNewName_60 rfl (by decide) (ret_i h)
  refine jn_e (fun j => j = some (r, sr) → E mX1_atNewName 2 (some (.int r), sr) 37 [none, some (.ref 1), none] [] s0) h ?_ (fun j10 hj10 h => ?_)
  · intro h
    refine e_iconst (nI 1) qX1_atNewName_37 rfl ?_
    refine e_goto (tgt := 42) qX1_atNewName_38 rfl ?_
    exact e_weak (hj7 _ h) ⟨Or.inl rfl, Or.inr rfl, Or.inl rfl, trivial⟩
  refine e_icmp_ne (tgt := 37) qX1_atNewName_22 rfl h (fun _ h => ?_) (fun _ h => ?_)
  · refine e_aload_n qX1_atNewName_25 rfl ?_
    refine e_aload_n qX1_atNewName_26 rfl ?_
    refine e_getl qX1_atNewName_27 fl_X1_156 shq_1 kdq_9_3 h (fun v11 h => ?_)
    obtain ⟨v12, hc, h⟩ := bp_e h
    refine e_cVi1 qX1_atNewName_30 mv_X1_238 h_a0 rfl rfl (w_X1_shipNamed h_a0 hc) ?_
    refine e_iconst (-1) qX1_atNewName_33 rfl ?_
    refine e_icmp_eq (tgt := 41) qX1_atNewName_34 rfl h (fun _ h => ?_) (fun _ h => ?_)
    · refine e_iconst (nI 0) qX1_atNewName_41 rfl ?_
      exact e_weak (hj7 _ h) ⟨Or.inl rfl, Or.inr rfl, Or.inl rfl, trivial⟩
    exact e_weak (hj10 h) ⟨Or.inl rfl, Or.inr rfl, Or.inl rfl, trivial⟩
  exact e_weak (hj10 h) ⟨Or.inl rfl, Or.inr rfl, Or.inl rfl, trivial⟩
