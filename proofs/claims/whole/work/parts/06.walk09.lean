def f_X12_behind (N : Nat)  (s0 : St) : Option (Int32 × St) :=
  bp (f_X12_nots N s0) fun s1 =>
  bp (f_X12_isWord (6385252 : Int64) s1) fun v2 =>
  jn (bp (f_X12_isWord (6385252 : Int64) s1) fun v4 =>
    jn (fun (v5 : Int32) =>
      bp (f_X12_joins N v5 s1) fun s7 =>
      vl (s7.1 206 46) fun v8 =>
      bp (f_X12_isWord (6385252 : Int64) s7) fun v9 =>
      jn (fun (v10 : Int32) =>
        ald (fun j => sI s7 220 j v10) 45 v8 fun s12 =>
        vl (s12.1 206 46) fun v13 =>
        vl (sI s12 206 46 (v13 + (nI 1))) fun s14 =>
        vl (sI s14 206 48 (nI 0)) fun s15 =>
        bp (f_X12_next N s15) fun s16 =>
        some ((nI 1), s16)) fun j11 =>
      if v9 = 0 then
        j11 (nI 22)
      else
      j11 (nI 21)) fun j6 =>
    if v4 = 0 then
      j6 (nI 22)
    else
    j6 (nI 21)) fun j3 =>
  if v2 = 0 then
    bp (f_X12_isWord (28530 : Int64) s1) fun v17 =>
    if v17 = 0 then
      bp (f_X12_joins N (nI 22) s1) fun s18 =>
      bp (f_X12_isSign (nI 41) s18) fun v19 =>
      jn (bd (f_X12_bad (nI 1) s18) fun v21 s22 =>
        rz v21 <|
        some (v21, s22)) fun j20 =>
      if v19 = 0 then
        j20
      else
      vl (s18.1 206 46) fun v23 =>
      if v23 = 0 then
        j20
      else
      vl (s18.1 206 46) fun v24 =>
      vl (sI s18 206 46 (v24 - (nI 1))) fun s25 =>
      vl (s25.1 206 47) fun v26 =>
      vl (sI s25 206 47 (v26 - (nI 1))) fun s27 =>
      bp (f_X12_next N s27) fun s28 =>
      some ((nI 1), s28)
    else
    j3
  else
  j3

theorem qX12_behind_0 : Dc mX12_behind 0 (.aload_n 0) 1 1 := ⟨by decide +kernel, rfl⟩
theorem qX12_behind_1 : Dc mX12_behind 1 (.invokevirtual 470) 3 4 := ⟨by decide +kernel, rfl⟩
theorem qX12_behind_4 : Dc mX12_behind 4 (.aload_n 0) 1 5 := ⟨by decide +kernel, rfl⟩
theorem qX12_behind_5 : Dc mX12_behind 5 (.ldc2_w 119) 3 8 := ⟨by decide +kernel, rfl⟩
theorem qX12_behind_8 : Dc mX12_behind 8 (.invokevirtual 208) 3 11 := ⟨by decide +kernel, rfl⟩
theorem qX12_behind_11 : Dc mX12_behind 11 (.ifCond .ne 13) 3 14 := ⟨by decide +kernel, rfl⟩
theorem qX12_behind_14 : Dc mX12_behind 14 (.aload_n 0) 1 15 := ⟨by decide +kernel, rfl⟩
theorem qX12_behind_15 : Dc mX12_behind 15 (.ldc2_w 117) 3 18 := ⟨by decide +kernel, rfl⟩
theorem qX12_behind_18 : Dc mX12_behind 18 (.invokevirtual 208) 3 21 := ⟨by decide +kernel, rfl⟩
theorem qX12_behind_21 : Dc mX12_behind 21 (.ifCond .eq 71) 3 24 := ⟨by decide +kernel, rfl⟩
theorem qX12_behind_24 : Dc mX12_behind 24 (.aload_n 0) 1 25 := ⟨by decide +kernel, rfl⟩
theorem qX12_behind_25 : Dc mX12_behind 25 (.aload_n 0) 1 26 := ⟨by decide +kernel, rfl⟩
theorem qX12_behind_26 : Dc mX12_behind 26 (.ldc2_w 119) 3 29 := ⟨by decide +kernel, rfl⟩
theorem qX12_behind_29 : Dc mX12_behind 29 (.invokevirtual 208) 3 32 := ⟨by decide +kernel, rfl⟩
theorem qX12_behind_32 : Dc mX12_behind 32 (.ifCond .eq 8) 3 35 := ⟨by decide +kernel, rfl⟩
theorem qX12_behind_35 : Dc mX12_behind 35 (.bipush 21) 2 37 := ⟨by decide +kernel, rfl⟩
theorem qX12_behind_37 : Dc mX12_behind 37 (.goto 5) 3 40 := ⟨by decide +kernel, rfl⟩
theorem qX12_behind_40 : Dc mX12_behind 40 (.bipush 22) 2 42 := ⟨by decide +kernel, rfl⟩
theorem qX12_behind_42 : Dc mX12_behind 42 (.invokevirtual 473) 3 45 := ⟨by decide +kernel, rfl⟩
theorem qX12_behind_45 : Dc mX12_behind 45 (.aload_n 0) 1 46 := ⟨by decide +kernel, rfl⟩
theorem qX12_behind_46 : Dc mX12_behind 46 (.getfield 72) 3 49 := ⟨by decide +kernel, rfl⟩
theorem qX12_behind_49 : Dc mX12_behind 49 (.aload_n 0) 1 50 := ⟨by decide +kernel, rfl⟩
theorem qX12_behind_50 : Dc mX12_behind 50 (.getfield 451) 3 53 := ⟨by decide +kernel, rfl⟩
theorem qX12_behind_53 : Dc mX12_behind 53 (.aload_n 0) 1 54 := ⟨by decide +kernel, rfl⟩
theorem qX12_behind_54 : Dc mX12_behind 54 (.ldc2_w 119) 3 57 := ⟨by decide +kernel, rfl⟩
theorem qX12_behind_57 : Dc mX12_behind 57 (.invokevirtual 208) 3 60 := ⟨by decide +kernel, rfl⟩
theorem qX12_behind_60 : Dc mX12_behind 60 (.ifCond .eq 8) 3 63 := ⟨by decide +kernel, rfl⟩
theorem qX12_behind_63 : Dc mX12_behind 63 (.bipush 21) 2 65 := ⟨by decide +kernel, rfl⟩
theorem qX12_behind_65 : Dc mX12_behind 65 (.goto 5) 3 68 := ⟨by decide +kernel, rfl⟩
theorem qX12_behind_68 : Dc mX12_behind 68 (.bipush 22) 2 70 := ⟨by decide +kernel, rfl⟩
theorem qX12_behind_70 : Dc mX12_behind 70 (.iastore) 1 71 := ⟨by decide +kernel, rfl⟩
theorem qX12_behind_71 : Dc mX12_behind 71 (.aload_n 0) 1 72 := ⟨by decide +kernel, rfl⟩
theorem qX12_behind_72 : Dc mX12_behind 72 (.dup) 1 73 := ⟨by decide +kernel, rfl⟩
theorem qX12_behind_73 : Dc mX12_behind 73 (.getfield 451) 3 76 := ⟨by decide +kernel, rfl⟩
theorem qX12_behind_76 : Dc mX12_behind 76 (.iconst 1) 1 77 := ⟨by decide +kernel, rfl⟩
theorem qX12_behind_77 : Dc mX12_behind 77 (.iadd) 1 78 := ⟨by decide +kernel, rfl⟩
theorem qX12_behind_78 : Dc mX12_behind 78 (.putfield 451) 3 81 := ⟨by decide +kernel, rfl⟩
theorem qX12_behind_81 : Dc mX12_behind 81 (.aload_n 0) 1 82 := ⟨by decide +kernel, rfl⟩
theorem qX12_behind_82 : Dc mX12_behind 82 (.iconst 0) 1 83 := ⟨by decide +kernel, rfl⟩
theorem qX12_behind_83 : Dc mX12_behind 83 (.putfield 467) 3 86 := ⟨by decide +kernel, rfl⟩
theorem qX12_behind_86 : Dc mX12_behind 86 (.aload_n 0) 1 87 := ⟨by decide +kernel, rfl⟩
theorem qX12_behind_87 : Dc mX12_behind 87 (.invokevirtual 183) 3 90 := ⟨by decide +kernel, rfl⟩
theorem qX12_behind_90 : Dc mX12_behind 90 (.iconst 1) 1 91 := ⟨by decide +kernel, rfl⟩
theorem qX12_behind_91 : Dc mX12_behind 91 (.ireturn) 1 92 := ⟨by decide +kernel, rfl⟩
theorem qX12_behind_92 : Dc mX12_behind 92 (.aload_n 0) 1 93 := ⟨by decide +kernel, rfl⟩
theorem qX12_behind_93 : Dc mX12_behind 93 (.bipush 22) 2 95 := ⟨by decide +kernel, rfl⟩
theorem qX12_behind_95 : Dc mX12_behind 95 (.invokevirtual 473) 3 98 := ⟨by decide +kernel, rfl⟩
theorem qX12_behind_98 : Dc mX12_behind 98 (.aload_n 0) 1 99 := ⟨by decide +kernel, rfl⟩
theorem qX12_behind_99 : Dc mX12_behind 99 (.bipush 41) 2 101 := ⟨by decide +kernel, rfl⟩
theorem qX12_behind_101 : Dc mX12_behind 101 (.invokevirtual 177) 3 104 := ⟨by decide +kernel, rfl⟩
theorem qX12_behind_104 : Dc mX12_behind 104 (.ifCond .eq 10) 3 107 := ⟨by decide +kernel, rfl⟩
theorem qX12_behind_107 : Dc mX12_behind 107 (.aload_n 0) 1 108 := ⟨by decide +kernel, rfl⟩
theorem qX12_behind_108 : Dc mX12_behind 108 (.getfield 451) 3 111 := ⟨by decide +kernel, rfl⟩
theorem qX12_behind_111 : Dc mX12_behind 111 (.ifCond .ne 9) 3 114 := ⟨by decide +kernel, rfl⟩
theorem qX12_behind_114 : Dc mX12_behind 114 (.aload_n 0) 1 115 := ⟨by decide +kernel, rfl⟩
theorem qX12_behind_115 : Dc mX12_behind 115 (.iconst 1) 1 116 := ⟨by decide +kernel, rfl⟩
theorem qX12_behind_116 : Dc mX12_behind 116 (.invokevirtual 180) 3 119 := ⟨by decide +kernel, rfl⟩
theorem qX12_behind_119 : Dc mX12_behind 119 (.ireturn) 1 120 := ⟨by decide +kernel, rfl⟩
theorem qX12_behind_120 : Dc mX12_behind 120 (.aload_n 0) 1 121 := ⟨by decide +kernel, rfl⟩
theorem qX12_behind_121 : Dc mX12_behind 121 (.dup) 1 122 := ⟨by decide +kernel, rfl⟩
theorem qX12_behind_122 : Dc mX12_behind 122 (.getfield 451) 3 125 := ⟨by decide +kernel, rfl⟩
theorem qX12_behind_125 : Dc mX12_behind 125 (.iconst 1) 1 126 := ⟨by decide +kernel, rfl⟩
theorem qX12_behind_126 : Dc mX12_behind 126 (.isub) 1 127 := ⟨by decide +kernel, rfl⟩
theorem qX12_behind_127 : Dc mX12_behind 127 (.putfield 451) 3 130 := ⟨by decide +kernel, rfl⟩
theorem qX12_behind_130 : Dc mX12_behind 130 (.aload_n 0) 1 131 := ⟨by decide +kernel, rfl⟩
theorem qX12_behind_131 : Dc mX12_behind 131 (.dup) 1 132 := ⟨by decide +kernel, rfl⟩
theorem qX12_behind_132 : Dc mX12_behind 132 (.getfield 458) 3 135 := ⟨by decide +kernel, rfl⟩
theorem qX12_behind_135 : Dc mX12_behind 135 (.iconst 1) 1 136 := ⟨by decide +kernel, rfl⟩
theorem qX12_behind_136 : Dc mX12_behind 136 (.isub) 1 137 := ⟨by decide +kernel, rfl⟩
theorem qX12_behind_137 : Dc mX12_behind 137 (.putfield 458) 3 140 := ⟨by decide +kernel, rfl⟩
theorem qX12_behind_140 : Dc mX12_behind 140 (.aload_n 0) 1 141 := ⟨by decide +kernel, rfl⟩
theorem qX12_behind_141 : Dc mX12_behind 141 (.invokevirtual 183) 3 144 := ⟨by decide +kernel, rfl⟩
theorem qX12_behind_144 : Dc mX12_behind 144 (.iconst 1) 1 145 := ⟨by decide +kernel, rfl⟩
theorem qX12_behind_145 : Dc mX12_behind 145 (.ireturn) 1 146 := ⟨by decide +kernel, rfl⟩

set_option maxRecDepth 20000 in
set_option maxHeartbeats 4000000 in
theorem w_X12_behind {N : Nat}  {s0 : St} {r : Int32} {sr : St} (h : f_X12_behind N  s0 = some (r, sr)) : Ct mX12_behind 2 [.ref 206] s0 (some (.int r), sr) := by
  refine Ct.ofE (by decide +kernel) rfl ?_
  show E mX12_behind 2 (some (.int r), sr) 0 [some (.ref 206)] [] s0
  unfold f_X12_behind at h
  refine e_aload_n qX12_behind_0 rfl ?_
  obtain ⟨s1, hc, h⟩ := bp_e h
  refine e_cVv0 qX12_behind_1 mv_X12_470 shq_206 rfl rfl (w_X12_nots hc) ?_
  refine e_aload_n qX12_behind_4 rfl ?_
  refine e_ldc2 (6385252 : Int64) qX12_behind_5 cw_X12_119 ?_
  obtain ⟨v2, hc, h⟩ := bp_e h
  refine e_cVi1 qX12_behind_8 mv_X12_208 shq_206 rfl rfl (w_X12_isWord hc) ?_
  refine jn_e (fun j => j = some (r, sr) → E mX12_behind 2 (some (.int r), sr) 24 [some (.ref 206)] [] s1) h ?_ (fun j3 hj3 h => ?_)
  · intro h
    refine e_aload_n qX12_behind_24 rfl ?_
    refine e_aload_n qX12_behind_25 rfl ?_
    refine e_ldc2 (6385252 : Int64) qX12_behind_26 cw_X12_119 ?_
    obtain ⟨v4, hc, h⟩ := bp_e h
    refine e_cVi1 qX12_behind_29 mv_X12_208 shq_206 rfl rfl (w_X12_isWord hc) ?_
    refine jn_e (fun j => ∀ (v5 : Int32), j v5 = some (r, sr) → E mX12_behind 2 (some (.int r), sr) 42 [some (.ref 206)] [.int v5, .ref 206] s1) h ?_ (fun j6 hj6 h => ?_)
    · intro v5 h
      obtain ⟨s7, hc, h⟩ := bp_e h
      refine e_cVv1 qX12_behind_42 mv_X12_473 shq_206 rfl rfl (w_X12_joins hc) ?_
      refine e_aload_n qX12_behind_45 rfl ?_
      refine e_getr 220 qX12_behind_46 fl_X12_72 shq_206 kdq_11_43 rrq_206_43 ?_
      refine e_aload_n qX12_behind_49 rfl ?_
      refine e_geti qX12_behind_50 fl_X12_451 shq_206 kdq_11_46 h (fun v8 h => ?_)
      refine e_aload_n qX12_behind_53 rfl ?_
      refine e_ldc2 (6385252 : Int64) qX12_behind_54 cw_X12_119 ?_
      obtain ⟨v9, hc, h⟩ := bp_e h
      refine e_cVi1 qX12_behind_57 mv_X12_208 shq_206 rfl rfl (w_X12_isWord hc) ?_
      refine jn_e (fun j => ∀ (v10 : Int32), j v10 = some (r, sr) → E mX12_behind 2 (some (.int r), sr) 70 [some (.ref 206)] [.int v10, .int v8, .ref 220] s7) h ?_ (fun j11 hj11 h => ?_)
      · intro v10 h
        refine e_iast qX12_behind_70 shq_220 lnq_220 h (fun s12 h => ?_)
        refine e_aload_n qX12_behind_71 rfl ?_
        refine e_dup qX12_behind_72 rfl ?_
        refine e_geti qX12_behind_73 fl_X12_451 shq_206 kdq_11_46 h (fun v13 h => ?_)
        refine e_iconst (nI 1) qX12_behind_76 rfl ?_
        refine e_iadd qX12_behind_77 ?_
        refine e_puti qX12_behind_78 fp_X12_451 shq_206 kdq_11_46 h (fun s14 h => ?_)
        refine e_aload_n qX12_behind_81 rfl ?_
        refine e_iconst (nI 0) qX12_behind_82 rfl ?_
        refine e_putz qX12_behind_83 fp_X12_467 shq_206 kdq_11_48 (by decide) h (fun s15 h => ?_)
        refine e_aload_n qX12_behind_86 rfl ?_
        obtain ⟨s16, hc, h⟩ := bp_e h
        refine e_cVv0 qX12_behind_87 mv_X12_183 shq_206 rfl rfl (w_X12_next hc) ?_
        refine e_iconst (nI 1) qX12_behind_90 rfl ?_
        exact e_zret qX12_behind_91 rfl (by decide) (ret_i h)
      refine e_if_eq (tgt := 68) qX12_behind_60 rfl h (fun _ h => ?_) (fun _ h => ?_)
      · refine e_bipush (nI 22) qX12_behind_68 rfl ?_
        exact e_weak (hj11 _ h) ⟨Or.inr rfl, trivial⟩
      refine e_bipush (nI 21) qX12_behind_63 rfl ?_
      refine e_goto (tgt := 70) qX12_behind_65 rfl ?_
      exact e_weak (hj11 _ h) ⟨Or.inr rfl, trivial⟩
    refine e_if_eq (tgt := 40) qX12_behind_32 rfl h (fun _ h => ?_) (fun _ h => ?_)
    · refine e_bipush (nI 22) qX12_behind_40 rfl ?_
      exact e_weak (hj6 _ h) ⟨Or.inr rfl, trivial⟩
    refine e_bipush (nI 21) qX12_behind_35 rfl ?_
    refine e_goto (tgt := 42) qX12_behind_37 rfl ?_
    exact e_weak (hj6 _ h) ⟨Or.inr rfl, trivial⟩
  refine e_if_ne (tgt := 24) qX12_behind_11 rfl h (fun _ h => ?_) (fun _ h => ?_)
  · refine e_aload_n qX12_behind_14 rfl ?_
    refine e_ldc2 (28530 : Int64) qX12_behind_15 cw_X12_117 ?_
    obtain ⟨v17, hc, h⟩ := bp_e h
    refine e_cVi1 qX12_behind_18 mv_X12_208 shq_206 rfl rfl (w_X12_isWord hc) ?_
    refine e_if_eq (tgt := 92) qX12_behind_21 rfl h (fun _ h => ?_) (fun _ h => ?_)
    · refine e_aload_n qX12_behind_92 rfl ?_
      refine e_bipush (nI 22) qX12_behind_93 rfl ?_
      obtain ⟨s18, hc, h⟩ := bp_e h
      refine e_cVv1 qX12_behind_95 mv_X12_473 shq_206 rfl rfl (w_X12_joins hc) ?_
      refine e_aload_n qX12_behind_98 rfl ?_
      refine e_bipush (nI 41) qX12_behind_99 rfl ?_
      obtain ⟨v19, hc, h⟩ := bp_e h
      refine e_cVi1 qX12_behind_101 mv_X12_177 shq_206 rfl rfl (w_X12_isSign hc) ?_
      refine jn_e (fun j => j = some (r, sr) → E mX12_behind 2 (some (.int r), sr) 114 [some (.ref 206)] [] s18) h ?_ (fun j20 hj20 h => ?_)
      · intro h
        refine e_aload_n qX12_behind_114 rfl ?_
        refine e_iconst (nI 1) qX12_behind_115 rfl ?_
        obtain ⟨v21, s22, hc, h⟩ := bd_e h
        refine e_cVi1 qX12_behind_116 mv_X12_180 shq_206 rfl rfl (w_X12_bad hc) ?_
        refine rz_e h (fun hz h => ?_)
        exact e_zret qX12_behind_119 rfl hz (ret_i h)
      refine e_if_eq (tgt := 114) qX12_behind_104 rfl h (fun _ h => ?_) (fun _ h => ?_)
      · exact e_weak (hj20 h) ⟨Or.inr rfl, trivial⟩
      refine e_aload_n qX12_behind_107 rfl ?_
      refine e_geti qX12_behind_108 fl_X12_451 shq_206 kdq_11_46 h (fun v23 h => ?_)
      refine e_if_ne (tgt := 120) qX12_behind_111 rfl h (fun _ h => ?_) (fun _ h => ?_)
      · exact e_weak (hj20 h) ⟨Or.inr rfl, trivial⟩
      refine e_aload_n qX12_behind_120 rfl ?_
      refine e_dup qX12_behind_121 rfl ?_
      refine e_geti qX12_behind_122 fl_X12_451 shq_206 kdq_11_46 h (fun v24 h => ?_)
      refine e_iconst (nI 1) qX12_behind_125 rfl ?_
      refine e_isub qX12_behind_126 ?_
      refine e_puti qX12_behind_127 fp_X12_451 shq_206 kdq_11_46 h (fun s25 h => ?_)
      refine e_aload_n qX12_behind_130 rfl ?_
      refine e_dup qX12_behind_131 rfl ?_
      refine e_geti qX12_behind_132 fl_X12_458 shq_206 kdq_11_47 h (fun v26 h => ?_)
      refine e_iconst (nI 1) qX12_behind_135 rfl ?_
      refine e_isub qX12_behind_136 ?_
      refine e_puti qX12_behind_137 fp_X12_458 shq_206 kdq_11_47 h (fun s27 h => ?_)
      refine e_aload_n qX12_behind_140 rfl ?_
      obtain ⟨s28, hc, h⟩ := bp_e h
      refine e_cVv0 qX12_behind_141 mv_X12_183 shq_206 rfl rfl (w_X12_next hc) ?_
      refine e_iconst (nI 1) qX12_behind_144 rfl ?_
      exact e_zret qX12_behind_145 rfl (by decide) (ret_i h)
    exact e_weak (hj3 h) ⟨Or.inr rfl, trivial⟩
  exact e_weak (hj3 h) ⟨Or.inr rfl, trivial⟩

def f_X12_sentence_L48 (N : Nat) (k12 : St → Option (Int32 × St)) (k14 : St → Option (Int32 × St)) (k16 : St → Option (Int32 × St)) (k18 : St → Option (Int32 × St)) : Nat → Int32 → St → Option (Int32 × St)
  | 0, _, _ => none
  | n20 + 1, v10, s11 =>
    if v10 = 0 then
      k12 s11
    else
    vl (s11.1 206 48) fun v22 =>
    jn (vl (s11.1 206 48) fun v24 =>
      if v24 = 0 then
        bd (f_X12_operand N s11) fun v25 s26 =>
        if v25 = 0 then
          k16 s26
        else
        f_X12_sentence_L48 N k12 k14 k16 k18 n20 v10 s26
      else
      bd (f_X12_behind N s11) fun v27 s28 =>
      if v27 = 0 then
        k14 s28
      else
      f_X12_sentence_L48 N k12 k14 k16 k18 n20 v10 s28) fun j23 =>
    if v22 = 0 then
      j23
    else
    vl (s11.1 206 11) fun v29 =>
    if v29 = 0 then
      bp (f_X12_nots N s11) fun s30 =>
      bp (f_X12_joins N (nI 22) s30) fun s31 =>
      vl (s31.1 206 46) fun v32 =>
      if v32 ≤ 0 then
        f_X12_sentence_L48 N k12 k14 k16 k18 n20 (nI 0) s31
      else
      k18 s31
    else
    j23

def f_X12_sentence_L146 (N : Nat) (k38 : St → Option (Int32 × St)) : Nat → Int32 → St → Option (Int32 × St)
  | 0, _, _ => none
  | n40 + 1, v36, s37 =>
    vl (s37.1 206 44) fun v42 =>
    if ((nI 3) * v42) ≤ v36 then
      k38 s37
    else
    ald (s37.1 210) 135 v36 fun v43 =>
    ald (fun j => sI s37 208 j v43) 359 ((nI 179) + v36) fun s44 =>
    vl (v36 + (nI 1)) fun v45 =>
    f_X12_sentence_L146 N k38 n40 v45 s44

def f_X12_sentence (N : Nat)  (s0 : St) : Option (Int32 × St) :=
  vl (sI s0 206 0 (nI 0)) fun s1 =>
  bp (f_X12_taken (nI 200) s1) fun s2 =>
  vl (sI s2 206 15 (nI 0)) fun s3 =>
  vl (sI s3 206 44 (nI 0)) fun s4 =>
  vl (sI s4 206 45 (nI 0)) fun s5 =>
  vl (sI s5 206 46 (nI 0)) fun s6 =>
  vl (sI s6 206 47 (nI 1)) fun s7 =>
  vl (sI s7 206 48 (nI 0)) fun s8 =>
  bp (f_X12_next N s8) fun s9 =>
  f_X12_sentence_L48 N (fun (s33 : St) =>
    vl (s33.1 206 44) fun v34 =>
    ald (fun j => sI s33 208 j v34) 359 (nI 178) fun s35 =>
    f_X12_sentence_L146 N (fun (s46 : St) =>
      vl (s46.1 206 45) fun v47 =>
      some (v47, s46)) N (nI 0) s35) (fun (s48 : St) =>
    vl (s48.1 206 16) fun v49 =>
    some (((-1) - v49), s48)) (fun (s50 : St) =>
    vl (s50.1 206 16) fun v51 =>
    some (((-1) - v51), s50)) (fun (s52 : St) =>
    bd (f_X12_bad (nI 1) s52) fun v53 s54 =>
    vl (s54.1 206 16) fun v55 =>
    some (((-1) - v55), s54)) N (nI 1) s9

theorem qX12_sentence_0 : Dc mX12_sentence 0 (.aload_n 0) 1 1 := ⟨by decide +kernel, rfl⟩
theorem qX12_sentence_1 : Dc mX12_sentence 1 (.iconst 0) 1 2 := ⟨by decide +kernel, rfl⟩
theorem qX12_sentence_2 : Dc mX12_sentence 2 (.putfield 1) 3 5 := ⟨by decide +kernel, rfl⟩
theorem qX12_sentence_5 : Dc mX12_sentence 5 (.aload_n 0) 1 6 := ⟨by decide +kernel, rfl⟩
theorem qX12_sentence_6 : Dc mX12_sentence 6 (.sipush 200) 3 9 := ⟨by decide +kernel, rfl⟩
theorem qX12_sentence_9 : Dc mX12_sentence 9 (.invokevirtual 246) 3 12 := ⟨by decide +kernel, rfl⟩
theorem qX12_sentence_12 : Dc mX12_sentence 12 (.aload_n 0) 1 13 := ⟨by decide +kernel, rfl⟩
theorem qX12_sentence_13 : Dc mX12_sentence 13 (.iconst 0) 1 14 := ⟨by decide +kernel, rfl⟩
theorem qX12_sentence_14 : Dc mX12_sentence 14 (.putfield 171) 3 17 := ⟨by decide +kernel, rfl⟩
theorem qX12_sentence_17 : Dc mX12_sentence 17 (.aload_n 0) 1 18 := ⟨by decide +kernel, rfl⟩
theorem qX12_sentence_18 : Dc mX12_sentence 18 (.iconst 0) 1 19 := ⟨by decide +kernel, rfl⟩
theorem qX12_sentence_19 : Dc mX12_sentence 19 (.putfield 448) 3 22 := ⟨by decide +kernel, rfl⟩
theorem qX12_sentence_22 : Dc mX12_sentence 22 (.aload_n 0) 1 23 := ⟨by decide +kernel, rfl⟩
theorem qX12_sentence_23 : Dc mX12_sentence 23 (.iconst 0) 1 24 := ⟨by decide +kernel, rfl⟩
theorem qX12_sentence_24 : Dc mX12_sentence 24 (.putfield 464) 3 27 := ⟨by decide +kernel, rfl⟩
theorem qX12_sentence_27 : Dc mX12_sentence 27 (.aload_n 0) 1 28 := ⟨by decide +kernel, rfl⟩
theorem qX12_sentence_28 : Dc mX12_sentence 28 (.iconst 0) 1 29 := ⟨by decide +kernel, rfl⟩
theorem qX12_sentence_29 : Dc mX12_sentence 29 (.putfield 451) 3 32 := ⟨by decide +kernel, rfl⟩
theorem qX12_sentence_32 : Dc mX12_sentence 32 (.aload_n 0) 1 33 := ⟨by decide +kernel, rfl⟩
theorem qX12_sentence_33 : Dc mX12_sentence 33 (.iconst 1) 1 34 := ⟨by decide +kernel, rfl⟩
theorem qX12_sentence_34 : Dc mX12_sentence 34 (.putfield 458) 3 37 := ⟨by decide +kernel, rfl⟩
theorem qX12_sentence_37 : Dc mX12_sentence 37 (.aload_n 0) 1 38 := ⟨by decide +kernel, rfl⟩
theorem qX12_sentence_38 : Dc mX12_sentence 38 (.iconst 0) 1 39 := ⟨by decide +kernel, rfl⟩
theorem qX12_sentence_39 : Dc mX12_sentence 39 (.putfield 467) 3 42 := ⟨by decide +kernel, rfl⟩
theorem qX12_sentence_42 : Dc mX12_sentence 42 (.aload_n 0) 1 43 := ⟨by decide +kernel, rfl⟩
theorem qX12_sentence_43 : Dc mX12_sentence 43 (.invokevirtual 183) 3 46 := ⟨by decide +kernel, rfl⟩
theorem qX12_sentence_46 : Dc mX12_sentence 46 (.iconst 1) 1 47 := ⟨by decide +kernel, rfl⟩
theorem qX12_sentence_47 : Dc mX12_sentence 47 (.istore_n 1) 1 48 := ⟨by decide +kernel, rfl⟩
theorem qX12_sentence_48 : Dc mX12_sentence 48 (.iload_n 1) 1 49 := ⟨by decide +kernel, rfl⟩
theorem qX12_sentence_49 : Dc mX12_sentence 49 (.ifCond .eq 83) 3 52 := ⟨by decide +kernel, rfl⟩
theorem qX12_sentence_52 : Dc mX12_sentence 52 (.aload_n 0) 1 53 := ⟨by decide +kernel, rfl⟩
theorem qX12_sentence_53 : Dc mX12_sentence 53 (.getfield 467) 3 56 := ⟨by decide +kernel, rfl⟩
theorem qX12_sentence_56 : Dc mX12_sentence 56 (.ifCond .eq 45) 3 59 := ⟨by decide +kernel, rfl⟩
theorem qX12_sentence_59 : Dc mX12_sentence 59 (.aload_n 0) 1 60 := ⟨by decide +kernel, rfl⟩
theorem qX12_sentence_60 : Dc mX12_sentence 60 (.getfield 154) 3 63 := ⟨by decide +kernel, rfl⟩
theorem qX12_sentence_63 : Dc mX12_sentence 63 (.ifCond .ne 38) 3 66 := ⟨by decide +kernel, rfl⟩
theorem qX12_sentence_66 : Dc mX12_sentence 66 (.aload_n 0) 1 67 := ⟨by decide +kernel, rfl⟩
theorem qX12_sentence_67 : Dc mX12_sentence 67 (.invokevirtual 470) 3 70 := ⟨by decide +kernel, rfl⟩
theorem qX12_sentence_70 : Dc mX12_sentence 70 (.aload_n 0) 1 71 := ⟨by decide +kernel, rfl⟩
theorem qX12_sentence_71 : Dc mX12_sentence 71 (.bipush 22) 2 73 := ⟨by decide +kernel, rfl⟩
theorem qX12_sentence_73 : Dc mX12_sentence 73 (.invokevirtual 473) 3 76 := ⟨by decide +kernel, rfl⟩
theorem qX12_sentence_76 : Dc mX12_sentence 76 (.aload_n 0) 1 77 := ⟨by decide +kernel, rfl⟩
theorem qX12_sentence_77 : Dc mX12_sentence 77 (.getfield 451) 3 80 := ⟨by decide +kernel, rfl⟩
theorem qX12_sentence_80 : Dc mX12_sentence 80 (.ifCond .le 16) 3 83 := ⟨by decide +kernel, rfl⟩
theorem qX12_sentence_83 : Dc mX12_sentence 83 (.aload_n 0) 1 84 := ⟨by decide +kernel, rfl⟩
theorem qX12_sentence_84 : Dc mX12_sentence 84 (.iconst 1) 1 85 := ⟨by decide +kernel, rfl⟩
theorem qX12_sentence_85 : Dc mX12_sentence 85 (.invokevirtual 180) 3 88 := ⟨by decide +kernel, rfl⟩
theorem qX12_sentence_88 : Dc mX12_sentence 88 (.pop) 1 89 := ⟨by decide +kernel, rfl⟩
theorem qX12_sentence_89 : Dc mX12_sentence 89 (.iconst (-1)) 1 90 := ⟨by decide +kernel, rfl⟩
theorem qX12_sentence_90 : Dc mX12_sentence 90 (.aload_n 0) 1 91 := ⟨by decide +kernel, rfl⟩
theorem qX12_sentence_91 : Dc mX12_sentence 91 (.getfield 174) 3 94 := ⟨by decide +kernel, rfl⟩
theorem qX12_sentence_94 : Dc mX12_sentence 94 (.isub) 1 95 := ⟨by decide +kernel, rfl⟩
theorem qX12_sentence_95 : Dc mX12_sentence 95 (.ireturn) 1 96 := ⟨by decide +kernel, rfl⟩
theorem qX12_sentence_96 : Dc mX12_sentence 96 (.iconst 0) 1 97 := ⟨by decide +kernel, rfl⟩
theorem qX12_sentence_97 : Dc mX12_sentence 97 (.istore_n 1) 1 98 := ⟨by decide +kernel, rfl⟩
theorem qX12_sentence_98 : Dc mX12_sentence 98 (.goto (-50)) 3 101 := ⟨by decide +kernel, rfl⟩
theorem qX12_sentence_101 : Dc mX12_sentence 101 (.aload_n 0) 1 102 := ⟨by decide +kernel, rfl⟩
theorem qX12_sentence_102 : Dc mX12_sentence 102 (.getfield 467) 3 105 := ⟨by decide +kernel, rfl⟩
theorem qX12_sentence_105 : Dc mX12_sentence 105 (.ifCond .eq 13) 3 108 := ⟨by decide +kernel, rfl⟩
theorem qX12_sentence_108 : Dc mX12_sentence 108 (.aload_n 0) 1 109 := ⟨by decide +kernel, rfl⟩
theorem qX12_sentence_109 : Dc mX12_sentence 109 (.invokevirtual 476) 3 112 := ⟨by decide +kernel, rfl⟩
theorem qX12_sentence_112 : Dc mX12_sentence 112 (.ifCond .ne (-64)) 3 115 := ⟨by decide +kernel, rfl⟩
theorem qX12_sentence_115 : Dc mX12_sentence 115 (.goto 10) 3 118 := ⟨by decide +kernel, rfl⟩
theorem qX12_sentence_118 : Dc mX12_sentence 118 (.aload_n 0) 1 119 := ⟨by decide +kernel, rfl⟩
theorem qX12_sentence_119 : Dc mX12_sentence 119 (.invokevirtual 479) 3 122 := ⟨by decide +kernel, rfl⟩
theorem qX12_sentence_122 : Dc mX12_sentence 122 (.ifCond .ne (-74)) 3 125 := ⟨by decide +kernel, rfl⟩
theorem qX12_sentence_125 : Dc mX12_sentence 125 (.iconst (-1)) 1 126 := ⟨by decide +kernel, rfl⟩
theorem qX12_sentence_126 : Dc mX12_sentence 126 (.aload_n 0) 1 127 := ⟨by decide +kernel, rfl⟩
theorem qX12_sentence_127 : Dc mX12_sentence 127 (.getfield 174) 3 130 := ⟨by decide +kernel, rfl⟩
theorem qX12_sentence_130 : Dc mX12_sentence 130 (.isub) 1 131 := ⟨by decide +kernel, rfl⟩
theorem qX12_sentence_131 : Dc mX12_sentence 131 (.ireturn) 1 132 := ⟨by decide +kernel, rfl⟩
theorem qX12_sentence_132 : Dc mX12_sentence 132 (.aload_n 0) 1 133 := ⟨by decide +kernel, rfl⟩
theorem qX12_sentence_133 : Dc mX12_sentence 133 (.getfield 33) 3 136 := ⟨by decide +kernel, rfl⟩
theorem qX12_sentence_136 : Dc mX12_sentence 136 (.sipush 178) 3 139 := ⟨by decide +kernel, rfl⟩
theorem qX12_sentence_139 : Dc mX12_sentence 139 (.aload_n 0) 1 140 := ⟨by decide +kernel, rfl⟩
theorem qX12_sentence_140 : Dc mX12_sentence 140 (.getfield 448) 3 143 := ⟨by decide +kernel, rfl⟩
theorem qX12_sentence_143 : Dc mX12_sentence 143 (.iastore) 1 144 := ⟨by decide +kernel, rfl⟩
theorem qX12_sentence_144 : Dc mX12_sentence 144 (.iconst 0) 1 145 := ⟨by decide +kernel, rfl⟩
theorem qX12_sentence_145 : Dc mX12_sentence 145 (.istore_n 2) 1 146 := ⟨by decide +kernel, rfl⟩
theorem qX12_sentence_146 : Dc mX12_sentence 146 (.iload_n 2) 1 147 := ⟨by decide +kernel, rfl⟩
theorem qX12_sentence_147 : Dc mX12_sentence 147 (.iconst 3) 1 148 := ⟨by decide +kernel, rfl⟩
theorem qX12_sentence_148 : Dc mX12_sentence 148 (.aload_n 0) 1 149 := ⟨by decide +kernel, rfl⟩
theorem qX12_sentence_149 : Dc mX12_sentence 149 (.getfield 448) 3 152 := ⟨by decide +kernel, rfl⟩
theorem qX12_sentence_152 : Dc mX12_sentence 152 (.imul) 1 153 := ⟨by decide +kernel, rfl⟩
theorem qX12_sentence_153 : Dc mX12_sentence 153 (.if_icmp .ge 25) 3 156 := ⟨by decide +kernel, rfl⟩
theorem qX12_sentence_156 : Dc mX12_sentence 156 (.aload_n 0) 1 157 := ⟨by decide +kernel, rfl⟩
theorem qX12_sentence_157 : Dc mX12_sentence 157 (.getfield 33) 3 160 := ⟨by decide +kernel, rfl⟩
theorem qX12_sentence_160 : Dc mX12_sentence 160 (.sipush 179) 3 163 := ⟨by decide +kernel, rfl⟩
theorem qX12_sentence_163 : Dc mX12_sentence 163 (.iload_n 2) 1 164 := ⟨by decide +kernel, rfl⟩
theorem qX12_sentence_164 : Dc mX12_sentence 164 (.iadd) 1 165 := ⟨by decide +kernel, rfl⟩
theorem qX12_sentence_165 : Dc mX12_sentence 165 (.aload_n 0) 1 166 := ⟨by decide +kernel, rfl⟩
theorem qX12_sentence_166 : Dc mX12_sentence 166 (.getfield 40) 3 169 := ⟨by decide +kernel, rfl⟩
theorem qX12_sentence_169 : Dc mX12_sentence 169 (.iload_n 2) 1 170 := ⟨by decide +kernel, rfl⟩
theorem qX12_sentence_170 : Dc mX12_sentence 170 (.iaload) 1 171 := ⟨by decide +kernel, rfl⟩
theorem qX12_sentence_171 : Dc mX12_sentence 171 (.iastore) 1 172 := ⟨by decide +kernel, rfl⟩
theorem qX12_sentence_172 : Dc mX12_sentence 172 (.iinc 2 1) 3 175 := ⟨by decide +kernel, rfl⟩
theorem qX12_sentence_175 : Dc mX12_sentence 175 (.goto (-29)) 3 178 := ⟨by decide +kernel, rfl⟩
theorem qX12_sentence_178 : Dc mX12_sentence 178 (.aload_n 0) 1 179 := ⟨by decide +kernel, rfl⟩
theorem qX12_sentence_179 : Dc mX12_sentence 179 (.getfield 464) 3 182 := ⟨by decide +kernel, rfl⟩
theorem qX12_sentence_182 : Dc mX12_sentence 182 (.ireturn) 1 183 := ⟨by decide +kernel, rfl⟩

set_option maxRecDepth 20000 in
set_option maxHeartbeats 4000000 in
theorem w_X12_sentence_L48 {N : Nat}  {k12 : St → Option (Int32 × St)} {k14 : St → Option (Int32 × St)} {k16 : St → Option (Int32 × St)} {k18 : St → Option (Int32 × St)} {r : Int32} {sr : St}  (hk12 : ∀ (s13 : St), k12 s13 = some (r, sr) → E mX12_sentence 3 (some (.int r), sr) 132 [some (.ref 206), none, none] [] s13) (hk14 : ∀ (s15 : St), k14 s15 = some (r, sr) → E mX12_sentence 3 (some (.int r), sr) 115 [some (.ref 206), none, none] [] s15) (hk16 : ∀ (s17 : St), k16 s17 = some (r, sr) → E mX12_sentence 3 (some (.int r), sr) 125 [some (.ref 206), none, none] [] s17) (hk18 : ∀ (s19 : St), k18 s19 = some (r, sr) → E mX12_sentence 3 (some (.int r), sr) 83 [some (.ref 206), none, none] [] s19) : ∀ (n20 : Nat) (v10 : Int32) (s11 : St), f_X12_sentence_L48 N k12 k14 k16 k18 n20 v10 s11 = some (r, sr) → E mX12_sentence 3 (some (.int r), sr) 48 [some (.ref 206), some (.int v10), none] [] s11 := by
  intro n20
  induction n20 with
  | zero =>
    intro v10 s11 h
    rw [f_X12_sentence_L48] at h; cases h
  | succ n20 ih21 =>
    intro v10 s11 h
    rw [f_X12_sentence_L48] at h
    refine e_iload_n qX12_sentence_48 rfl ?_
    refine e_if_eq (tgt := 132) qX12_sentence_49 rfl h (fun _ h => ?_) (fun _ h => ?_)
    · exact e_weak (hk12 _ h) ⟨Or.inr rfl, Or.inl rfl, Or.inl rfl, trivial⟩
    refine e_aload_n qX12_sentence_52 rfl ?_
    refine e_geti qX12_sentence_53 fl_X12_467 shq_206 kdq_11_48 h (fun v22 h => ?_)
    refine jn_e (fun j => j = some (r, sr) → E mX12_sentence 3 (some (.int r), sr) 101 [some (.ref 206), some (.int v10), none] [] s11) h ?_ (fun j23 hj23 h => ?_)
    · intro h
      refine e_aload_n qX12_sentence_101 rfl ?_
      refine e_geti qX12_sentence_102 fl_X12_467 shq_206 kdq_11_48 h (fun v24 h => ?_)
      refine e_if_eq (tgt := 118) qX12_sentence_105 rfl h (fun _ h => ?_) (fun _ h => ?_)
      · refine e_aload_n qX12_sentence_118 rfl ?_
        obtain ⟨v25, s26, hc, h⟩ := bd_e h
        refine e_cVi0 qX12_sentence_119 mv_X12_479 shq_206 rfl rfl (w_X12_operand hc) ?_
        refine e_if_ne (tgt := 48) qX12_sentence_122 rfl h (fun _ h => ?_) (fun _ h => ?_)
        · exact e_weak (hk16 _ h) ⟨Or.inr rfl, Or.inl rfl, Or.inl rfl, trivial⟩
        exact e_weak (ih21 _ _ h) ⟨Or.inr rfl, Or.inr rfl, Or.inl rfl, trivial⟩
      refine e_aload_n qX12_sentence_108 rfl ?_
      obtain ⟨v27, s28, hc, h⟩ := bd_e h
      refine e_cVi0 qX12_sentence_109 mv_X12_476 shq_206 rfl rfl (w_X12_behind hc) ?_
      refine e_if_ne (tgt := 48) qX12_sentence_112 rfl h (fun _ h => ?_) (fun _ h => ?_)
      · exact e_weak (hk14 _ h) ⟨Or.inr rfl, Or.inl rfl, Or.inl rfl, trivial⟩
      exact e_weak (ih21 _ _ h) ⟨Or.inr rfl, Or.inr rfl, Or.inl rfl, trivial⟩
    refine e_if_eq (tgt := 101) qX12_sentence_56 rfl h (fun _ h => ?_) (fun _ h => ?_)
    · exact e_weak (hj23 h) ⟨Or.inr rfl, Or.inr rfl, Or.inl rfl, trivial⟩
    refine e_aload_n qX12_sentence_59 rfl ?_
    refine e_geti qX12_sentence_60 fl_X12_154 shq_206 kdq_11_11 h (fun v29 h => ?_)
    refine e_if_ne (tgt := 101) qX12_sentence_63 rfl h (fun _ h => ?_) (fun _ h => ?_)
    · refine e_aload_n qX12_sentence_66 rfl ?_
      obtain ⟨s30, hc, h⟩ := bp_e h
      refine e_cVv0 qX12_sentence_67 mv_X12_470 shq_206 rfl rfl (w_X12_nots hc) ?_
      refine e_aload_n qX12_sentence_70 rfl ?_
      refine e_bipush (nI 22) qX12_sentence_71 rfl ?_
      obtain ⟨s31, hc, h⟩ := bp_e h
      refine e_cVv1 qX12_sentence_73 mv_X12_473 shq_206 rfl rfl (w_X12_joins hc) ?_
      refine e_aload_n qX12_sentence_76 rfl ?_
      refine e_geti qX12_sentence_77 fl_X12_451 shq_206 kdq_11_46 h (fun v32 h => ?_)
      refine e_if_le (tgt := 96) qX12_sentence_80 rfl h (fun _ h => ?_) (fun _ h => ?_)
      · refine e_iconst (nI 0) qX12_sentence_96 rfl ?_
        refine e_istore_n (lv2 := [some (.ref 206), some (.int (nI 0)), none]) qX12_sentence_97 rfl rfl rfl ?_
        refine e_goto (tgt := 48) qX12_sentence_98 rfl ?_
        exact e_weak (ih21 _ _ h) ⟨Or.inr rfl, Or.inr rfl, Or.inl rfl, trivial⟩
      exact e_weak (hk18 _ h) ⟨Or.inr rfl, Or.inl rfl, Or.inl rfl, trivial⟩
    exact e_weak (hj23 h) ⟨Or.inr rfl, Or.inr rfl, Or.inl rfl, trivial⟩

set_option maxRecDepth 20000 in
set_option maxHeartbeats 4000000 in
theorem w_X12_sentence_L146 {N : Nat}  {k38 : St → Option (Int32 × St)} {r : Int32} {sr : St}  (hk38 : ∀ (s39 : St), k38 s39 = some (r, sr) → E mX12_sentence 3 (some (.int r), sr) 178 [some (.ref 206), none, none] [] s39) : ∀ (n40 : Nat) (v36 : Int32) (s37 : St), f_X12_sentence_L146 N k38 n40 v36 s37 = some (r, sr) → E mX12_sentence 3 (some (.int r), sr) 146 [some (.ref 206), none, some (.int v36)] [] s37 := by
  intro n40
  induction n40 with
  | zero =>
    intro v36 s37 h
    rw [f_X12_sentence_L146] at h; cases h
  | succ n40 ih41 =>
    intro v36 s37 h
    rw [f_X12_sentence_L146] at h
    refine e_iload_n qX12_sentence_146 rfl ?_
    refine e_iconst (nI 3) qX12_sentence_147 rfl ?_
    refine e_aload_n qX12_sentence_148 rfl ?_
    refine e_geti qX12_sentence_149 fl_X12_448 shq_206 kdq_11_44 h (fun v42 h => ?_)
    refine e_imul qX12_sentence_152 ?_
    refine e_icmp_ge (tgt := 178) qX12_sentence_153 rfl h (fun _ h => ?_) (fun _ h => ?_)
    · exact e_weak (hk38 _ h) ⟨Or.inr rfl, Or.inl rfl, Or.inl rfl, trivial⟩
    refine e_aload_n qX12_sentence_156 rfl ?_
    refine e_getr 208 qX12_sentence_157 fl_X12_33 shq_206 kdq_11_6 rrq_206_6 ?_
    refine e_sipush (nI 179) qX12_sentence_160 rfl ?_
    refine e_iload_n qX12_sentence_163 rfl ?_
    refine e_iadd qX12_sentence_164 ?_
    refine e_aload_n qX12_sentence_165 rfl ?_
    refine e_getr 210 qX12_sentence_166 fl_X12_40 shq_206 kdq_11_8 rrq_206_8 ?_
    refine e_iload_n qX12_sentence_169 rfl ?_
    refine e_iald qX12_sentence_170 shq_210 lnq_210 h (fun v43 h => ?_)
    refine e_iast qX12_sentence_171 shq_208 lnq_208 h (fun s44 h => ?_)
    refine vl_e h (fun h => ?_)
    obtain ⟨v45, ev45⟩ : ∃ y, v36 + (nI 1) = y := ⟨_, rfl⟩
    rw [ev45] at h
    refine e_iinc (nI 1) v45 (lv2 := [some (.ref 206), none, some (.int v45)]) qX12_sentence_172 rfl rfl rfl ev45 rfl ?_
    refine e_goto (tgt := 146) qX12_sentence_175 rfl ?_
    exact e_weak (ih41 _ _ h) ⟨Or.inr rfl, Or.inl rfl, Or.inr rfl, trivial⟩

set_option maxRecDepth 20000 in
set_option maxHeartbeats 4000000 in
theorem w_X12_sentence {N : Nat}  {s0 : St} {r : Int32} {sr : St} (h : f_X12_sentence N  s0 = some (r, sr)) : Ct mX12_sentence 3 [.ref 206] s0 (some (.int r), sr) := by
  refine Ct.ofE (by decide +kernel) rfl ?_
  show E mX12_sentence 3 (some (.int r), sr) 0 [some (.ref 206), none, none] [] s0
  unfold f_X12_sentence at h
  refine e_aload_n qX12_sentence_0 rfl ?_
  refine e_iconst (nI 0) qX12_sentence_1 rfl ?_
  refine e_puti qX12_sentence_2 fp_X12_1 shq_206 kdq_11_0 h (fun s1 h => ?_)
  refine e_aload_n qX12_sentence_5 rfl ?_
  refine e_sipush (nI 200) qX12_sentence_6 rfl ?_
  obtain ⟨s2, hc, h⟩ := bp_e h
  refine e_cVv1 qX12_sentence_9 mv_X12_246 shq_206 rfl rfl (w_X12_taken hc) ?_
  refine e_aload_n qX12_sentence_12 rfl ?_
  refine e_iconst (nI 0) qX12_sentence_13 rfl ?_
  refine e_puti qX12_sentence_14 fp_X12_171 shq_206 kdq_11_15 h (fun s3 h => ?_)
  refine e_aload_n qX12_sentence_17 rfl ?_
  refine e_iconst (nI 0) qX12_sentence_18 rfl ?_
  refine e_puti qX12_sentence_19 fp_X12_448 shq_206 kdq_11_44 h (fun s4 h => ?_)
  refine e_aload_n qX12_sentence_22 rfl ?_
  refine e_iconst (nI 0) qX12_sentence_23 rfl ?_
  refine e_puti qX12_sentence_24 fp_X12_464 shq_206 kdq_11_45 h (fun s5 h => ?_)
  refine e_aload_n qX12_sentence_27 rfl ?_
  refine e_iconst (nI 0) qX12_sentence_28 rfl ?_
  refine e_puti qX12_sentence_29 fp_X12_451 shq_206 kdq_11_46 h (fun s6 h => ?_)
  refine e_aload_n qX12_sentence_32 rfl ?_
  refine e_iconst (nI 1) qX12_sentence_33 rfl ?_
  refine e_puti qX12_sentence_34 fp_X12_458 shq_206 kdq_11_47 h (fun s7 h => ?_)
  refine e_aload_n qX12_sentence_37 rfl ?_
  refine e_iconst (nI 0) qX12_sentence_38 rfl ?_
  refine e_putz qX12_sentence_39 fp_X12_467 shq_206 kdq_11_48 (by decide) h (fun s8 h => ?_)
  refine e_aload_n qX12_sentence_42 rfl ?_
  obtain ⟨s9, hc, h⟩ := bp_e h
  refine e_cVv0 qX12_sentence_43 mv_X12_183 shq_206 rfl rfl (w_X12_next hc) ?_
  refine e_iconst (nI 1) qX12_sentence_46 rfl ?_
  refine e_istore_n (lv2 := [some (.ref 206), some (.int (nI 1)), none]) qX12_sentence_47 rfl rfl rfl ?_
  refine e_weak (w_X12_sentence_L48 (fun s33 h => ?_) (fun s48 h => ?_) (fun s50 h => ?_) (fun s52 h => ?_) _ _ _ h) ⟨Or.inr rfl, Or.inr rfl, Or.inl rfl, trivial⟩
  · refine e_aload_n qX12_sentence_132 rfl ?_
    refine e_getr 208 qX12_sentence_133 fl_X12_33 shq_206 kdq_11_6 rrq_206_6 ?_
    refine e_sipush (nI 178) qX12_sentence_136 rfl ?_
    refine e_aload_n qX12_sentence_139 rfl ?_
    refine e_geti qX12_sentence_140 fl_X12_448 shq_206 kdq_11_44 h (fun v34 h => ?_)
    refine e_iast qX12_sentence_143 shq_208 lnq_208 h (fun s35 h => ?_)
    refine e_iconst (nI 0) qX12_sentence_144 rfl ?_
    refine e_istore_n (lv2 := [some (.ref 206), none, some (.int (nI 0))]) qX12_sentence_145 rfl rfl rfl ?_
    refine e_weak (w_X12_sentence_L146 (fun s46 h => ?_) _ _ _ h) ⟨Or.inr rfl, Or.inl rfl, Or.inr rfl, trivial⟩
    refine e_aload_n qX12_sentence_178 rfl ?_
    refine e_geti qX12_sentence_179 fl_X12_464 shq_206 kdq_11_45 h (fun v47 h => ?_)
    exact e_iret qX12_sentence_182 rfl (ret_i h)
  · refine e_goto (tgt := 125) qX12_sentence_115 rfl ?_
    refine e_iconst (-1) qX12_sentence_125 rfl ?_
    refine e_aload_n qX12_sentence_126 rfl ?_
    refine e_geti qX12_sentence_127 fl_X12_174 shq_206 kdq_11_16 h (fun v49 h => ?_)
    refine e_isub qX12_sentence_130 ?_
    exact e_iret qX12_sentence_131 rfl (ret_i h)
  · refine e_iconst (-1) qX12_sentence_125 rfl ?_
    refine e_aload_n qX12_sentence_126 rfl ?_
    refine e_geti qX12_sentence_127 fl_X12_174 shq_206 kdq_11_16 h (fun v51 h => ?_)
    refine e_isub qX12_sentence_130 ?_
    exact e_iret qX12_sentence_131 rfl (ret_i h)
  refine e_aload_n qX12_sentence_83 rfl ?_
  refine e_iconst (nI 1) qX12_sentence_84 rfl ?_
  obtain ⟨v53, s54, hc, h⟩ := bd_e h
  refine e_cVi1 qX12_sentence_85 mv_X12_180 shq_206 rfl rfl (w_X12_bad hc) ?_
  refine e_pop qX12_sentence_88 rfl ?_
  refine e_iconst (-1) qX12_sentence_89 rfl ?_
  refine e_aload_n qX12_sentence_90 rfl ?_
  refine e_geti qX12_sentence_91 fl_X12_174 shq_206 kdq_11_16 h (fun v55 h => ?_)
  refine e_isub qX12_sentence_94 ?_
  exact e_iret qX12_sentence_95 rfl (ret_i h)

def f_X12_isLeaf (N : Nat) (x1 : Int32) (x2 : Int32) (x3 : Int32) (x4 : Int32) (s0 : St) : Option (Int32) :=
  if x2 = nI 0 then
    ald (s0.1 208) 359 (nI 148) fun v1 =>
    bp (f_X12_bitOf v1 x1 s0) fun v2 =>
    rz v2 <|
    some v2
  else
  if x2 = nI 1 then
    bp (f_X12_isShining N x1 s0) fun v3 =>
    rz v3 <|
    some v3
  else
  if x2 = nI 2 then
    ald (s0.1 208) 359 ((nI 43) + x1) fun v4 =>
    if v4 = 0 then
      some (nI 1)
    else
    some (nI 0)
  else
  if x2 = nI 3 then
    if x1 = x4 then
      some (nI 1)
    else
    bp (f_X12_isAlike N x1 x4 s0) fun v5 =>
    if v5 = 0 then
      some (nI 0)
    else
    some (nI 1)
  else
  if x2 = nI 4 then
    bp (f_X12_seenBy N x4 s0) fun v6 =>
    bp (f_X12_bitOf v6 x1 s0) fun v7 =>
    rz v7 <|
    some v7
  else
  jn (fun (v8 : Int32) =>
    if x3 = (nI 60) then
      if x4 ≤ v8 then
        some (nI 0)
      else
      some (nI 1)
    else
    if x3 = (nI 61) then
      if v8 = x4 then
        some (nI 1)
      else
      some (nI 0)
    else
    if v8 ≤ x4 then
      some (nI 0)
    else
    some (nI 1)) fun j9 =>
  if x2 = (nI 5) then
    ald (s0.1 208) 359 ((nI 150) + x1) fun v10 =>
    j9 v10
  else
  if x2 = (nI 6) then
    bp (f_X12_periodOf N x1 s0) fun v11 =>
    j9 v11
  else
  if x2 = (nI 7) then
    ald (s0.1 208) 359 ((nI 19) + x1) fun v12 =>
    j9 v12
  else
  j9 x1

theorem qX12_isLeaf_0 : Dc mX12_isLeaf 0 (.iload_n 2) 1 1 := ⟨by decide +kernel, rfl⟩
theorem qX12_isLeaf_1 : Dc mX12_isLeaf 1 (.tableswitch 105 0 4 #[35, 48, 54, 72, 94]) 35 36 := ⟨by decide +kernel, rfl⟩
theorem qX12_isLeaf_36 : Dc mX12_isLeaf 36 (.aload_n 0) 1 37 := ⟨by decide +kernel, rfl⟩
theorem qX12_isLeaf_37 : Dc mX12_isLeaf 37 (.getfield 33) 3 40 := ⟨by decide +kernel, rfl⟩
theorem qX12_isLeaf_40 : Dc mX12_isLeaf 40 (.sipush 148) 3 43 := ⟨by decide +kernel, rfl⟩
theorem qX12_isLeaf_43 : Dc mX12_isLeaf 43 (.iaload) 1 44 := ⟨by decide +kernel, rfl⟩
theorem qX12_isLeaf_44 : Dc mX12_isLeaf 44 (.iload_n 1) 1 45 := ⟨by decide +kernel, rfl⟩
theorem qX12_isLeaf_45 : Dc mX12_isLeaf 45 (.invokestatic 240) 3 48 := ⟨by decide +kernel, rfl⟩
theorem qX12_isLeaf_48 : Dc mX12_isLeaf 48 (.ireturn) 1 49 := ⟨by decide +kernel, rfl⟩
theorem qX12_isLeaf_49 : Dc mX12_isLeaf 49 (.aload_n 0) 1 50 := ⟨by decide +kernel, rfl⟩
theorem qX12_isLeaf_50 : Dc mX12_isLeaf 50 (.iload_n 1) 1 51 := ⟨by decide +kernel, rfl⟩
theorem qX12_isLeaf_51 : Dc mX12_isLeaf 51 (.invokevirtual 284) 3 54 := ⟨by decide +kernel, rfl⟩
theorem qX12_isLeaf_54 : Dc mX12_isLeaf 54 (.ireturn) 1 55 := ⟨by decide +kernel, rfl⟩
theorem qX12_isLeaf_55 : Dc mX12_isLeaf 55 (.aload_n 0) 1 56 := ⟨by decide +kernel, rfl⟩
theorem qX12_isLeaf_56 : Dc mX12_isLeaf 56 (.getfield 33) 3 59 := ⟨by decide +kernel, rfl⟩
theorem qX12_isLeaf_59 : Dc mX12_isLeaf 59 (.bipush 43) 2 61 := ⟨by decide +kernel, rfl⟩
theorem qX12_isLeaf_61 : Dc mX12_isLeaf 61 (.iload_n 1) 1 62 := ⟨by decide +kernel, rfl⟩
theorem qX12_isLeaf_62 : Dc mX12_isLeaf 62 (.iadd) 1 63 := ⟨by decide +kernel, rfl⟩
theorem qX12_isLeaf_63 : Dc mX12_isLeaf 63 (.iaload) 1 64 := ⟨by decide +kernel, rfl⟩
theorem qX12_isLeaf_64 : Dc mX12_isLeaf 64 (.ifCond .ne 7) 3 67 := ⟨by decide +kernel, rfl⟩
theorem qX12_isLeaf_67 : Dc mX12_isLeaf 67 (.iconst 1) 1 68 := ⟨by decide +kernel, rfl⟩
theorem qX12_isLeaf_68 : Dc mX12_isLeaf 68 (.goto 4) 3 71 := ⟨by decide +kernel, rfl⟩
theorem qX12_isLeaf_71 : Dc mX12_isLeaf 71 (.iconst 0) 1 72 := ⟨by decide +kernel, rfl⟩
theorem qX12_isLeaf_72 : Dc mX12_isLeaf 72 (.ireturn) 1 73 := ⟨by decide +kernel, rfl⟩
theorem qX12_isLeaf_73 : Dc mX12_isLeaf 73 (.iload_n 1) 1 74 := ⟨by decide +kernel, rfl⟩
theorem qX12_isLeaf_74 : Dc mX12_isLeaf 74 (.iload 4) 2 76 := ⟨by decide +kernel, rfl⟩
theorem qX12_isLeaf_76 : Dc mX12_isLeaf 76 (.if_icmp .eq 13) 3 79 := ⟨by decide +kernel, rfl⟩
theorem qX12_isLeaf_79 : Dc mX12_isLeaf 79 (.aload_n 0) 1 80 := ⟨by decide +kernel, rfl⟩
theorem qX12_isLeaf_80 : Dc mX12_isLeaf 80 (.iload_n 1) 1 81 := ⟨by decide +kernel, rfl⟩
theorem qX12_isLeaf_81 : Dc mX12_isLeaf 81 (.iload 4) 2 83 := ⟨by decide +kernel, rfl⟩
theorem qX12_isLeaf_83 : Dc mX12_isLeaf 83 (.invokevirtual 271) 3 86 := ⟨by decide +kernel, rfl⟩
theorem qX12_isLeaf_86 : Dc mX12_isLeaf 86 (.ifCond .eq 7) 3 89 := ⟨by decide +kernel, rfl⟩
theorem qX12_isLeaf_89 : Dc mX12_isLeaf 89 (.iconst 1) 1 90 := ⟨by decide +kernel, rfl⟩
theorem qX12_isLeaf_90 : Dc mX12_isLeaf 90 (.goto 4) 3 93 := ⟨by decide +kernel, rfl⟩
theorem qX12_isLeaf_93 : Dc mX12_isLeaf 93 (.iconst 0) 1 94 := ⟨by decide +kernel, rfl⟩
theorem qX12_isLeaf_94 : Dc mX12_isLeaf 94 (.ireturn) 1 95 := ⟨by decide +kernel, rfl⟩
theorem qX12_isLeaf_95 : Dc mX12_isLeaf 95 (.aload_n 0) 1 96 := ⟨by decide +kernel, rfl⟩
theorem qX12_isLeaf_96 : Dc mX12_isLeaf 96 (.iload 4) 2 98 := ⟨by decide +kernel, rfl⟩
theorem qX12_isLeaf_98 : Dc mX12_isLeaf 98 (.invokevirtual 307) 3 101 := ⟨by decide +kernel, rfl⟩
theorem qX12_isLeaf_101 : Dc mX12_isLeaf 101 (.iload_n 1) 1 102 := ⟨by decide +kernel, rfl⟩
theorem qX12_isLeaf_102 : Dc mX12_isLeaf 102 (.invokestatic 240) 3 105 := ⟨by decide +kernel, rfl⟩
theorem qX12_isLeaf_105 : Dc mX12_isLeaf 105 (.ireturn) 1 106 := ⟨by decide +kernel, rfl⟩
theorem qX12_isLeaf_106 : Dc mX12_isLeaf 106 (.iload_n 2) 1 107 := ⟨by decide +kernel, rfl⟩
theorem qX12_isLeaf_107 : Dc mX12_isLeaf 107 (.iconst 5) 1 108 := ⟨by decide +kernel, rfl⟩
theorem qX12_isLeaf_108 : Dc mX12_isLeaf 108 (.if_icmp .ne 16) 3 111 := ⟨by decide +kernel, rfl⟩
theorem qX12_isLeaf_111 : Dc mX12_isLeaf 111 (.aload_n 0) 1 112 := ⟨by decide +kernel, rfl⟩
theorem qX12_isLeaf_112 : Dc mX12_isLeaf 112 (.getfield 33) 3 115 := ⟨by decide +kernel, rfl⟩
theorem qX12_isLeaf_115 : Dc mX12_isLeaf 115 (.sipush 150) 3 118 := ⟨by decide +kernel, rfl⟩
theorem qX12_isLeaf_118 : Dc mX12_isLeaf 118 (.iload_n 1) 1 119 := ⟨by decide +kernel, rfl⟩
theorem qX12_isLeaf_119 : Dc mX12_isLeaf 119 (.iadd) 1 120 := ⟨by decide +kernel, rfl⟩
theorem qX12_isLeaf_120 : Dc mX12_isLeaf 120 (.iaload) 1 121 := ⟨by decide +kernel, rfl⟩
theorem qX12_isLeaf_121 : Dc mX12_isLeaf 121 (.goto 36) 3 124 := ⟨by decide +kernel, rfl⟩
theorem qX12_isLeaf_124 : Dc mX12_isLeaf 124 (.iload_n 2) 1 125 := ⟨by decide +kernel, rfl⟩
theorem qX12_isLeaf_125 : Dc mX12_isLeaf 125 (.bipush 6) 2 127 := ⟨by decide +kernel, rfl⟩
theorem qX12_isLeaf_127 : Dc mX12_isLeaf 127 (.if_icmp .ne 11) 3 130 := ⟨by decide +kernel, rfl⟩
theorem qX12_isLeaf_130 : Dc mX12_isLeaf 130 (.aload_n 0) 1 131 := ⟨by decide +kernel, rfl⟩
theorem qX12_isLeaf_131 : Dc mX12_isLeaf 131 (.iload_n 1) 1 132 := ⟨by decide +kernel, rfl⟩
theorem qX12_isLeaf_132 : Dc mX12_isLeaf 132 (.invokevirtual 261) 3 135 := ⟨by decide +kernel, rfl⟩
theorem qX12_isLeaf_135 : Dc mX12_isLeaf 135 (.goto 22) 3 138 := ⟨by decide +kernel, rfl⟩
theorem qX12_isLeaf_138 : Dc mX12_isLeaf 138 (.iload_n 2) 1 139 := ⟨by decide +kernel, rfl⟩
theorem qX12_isLeaf_139 : Dc mX12_isLeaf 139 (.bipush 7) 2 141 := ⟨by decide +kernel, rfl⟩
theorem qX12_isLeaf_141 : Dc mX12_isLeaf 141 (.if_icmp .ne 15) 3 144 := ⟨by decide +kernel, rfl⟩
theorem qX12_isLeaf_144 : Dc mX12_isLeaf 144 (.aload_n 0) 1 145 := ⟨by decide +kernel, rfl⟩
theorem qX12_isLeaf_145 : Dc mX12_isLeaf 145 (.getfield 33) 3 148 := ⟨by decide +kernel, rfl⟩
theorem qX12_isLeaf_148 : Dc mX12_isLeaf 148 (.bipush 19) 2 150 := ⟨by decide +kernel, rfl⟩
theorem qX12_isLeaf_150 : Dc mX12_isLeaf 150 (.iload_n 1) 1 151 := ⟨by decide +kernel, rfl⟩
theorem qX12_isLeaf_151 : Dc mX12_isLeaf 151 (.iadd) 1 152 := ⟨by decide +kernel, rfl⟩
theorem qX12_isLeaf_152 : Dc mX12_isLeaf 152 (.iaload) 1 153 := ⟨by decide +kernel, rfl⟩
theorem qX12_isLeaf_153 : Dc mX12_isLeaf 153 (.goto 4) 3 156 := ⟨by decide +kernel, rfl⟩
theorem qX12_isLeaf_156 : Dc mX12_isLeaf 156 (.iload_n 1) 1 157 := ⟨by decide +kernel, rfl⟩
theorem qX12_isLeaf_157 : Dc mX12_isLeaf 157 (.istore 5) 2 159 := ⟨by decide +kernel, rfl⟩
theorem qX12_isLeaf_159 : Dc mX12_isLeaf 159 (.iload_n 3) 1 160 := ⟨by decide +kernel, rfl⟩
theorem qX12_isLeaf_160 : Dc mX12_isLeaf 160 (.bipush 60) 2 162 := ⟨by decide +kernel, rfl⟩
theorem qX12_isLeaf_162 : Dc mX12_isLeaf 162 (.if_icmp .ne 18) 3 165 := ⟨by decide +kernel, rfl⟩
theorem qX12_isLeaf_165 : Dc mX12_isLeaf 165 (.iload 5) 2 167 := ⟨by decide +kernel, rfl⟩
theorem qX12_isLeaf_167 : Dc mX12_isLeaf 167 (.iload 4) 2 169 := ⟨by decide +kernel, rfl⟩
theorem qX12_isLeaf_169 : Dc mX12_isLeaf 169 (.if_icmp .ge 7) 3 172 := ⟨by decide +kernel, rfl⟩
theorem qX12_isLeaf_172 : Dc mX12_isLeaf 172 (.iconst 1) 1 173 := ⟨by decide +kernel, rfl⟩
theorem qX12_isLeaf_173 : Dc mX12_isLeaf 173 (.goto 40) 3 176 := ⟨by decide +kernel, rfl⟩
theorem qX12_isLeaf_176 : Dc mX12_isLeaf 176 (.iconst 0) 1 177 := ⟨by decide +kernel, rfl⟩
theorem qX12_isLeaf_177 : Dc mX12_isLeaf 177 (.goto 36) 3 180 := ⟨by decide +kernel, rfl⟩
theorem qX12_isLeaf_180 : Dc mX12_isLeaf 180 (.iload_n 3) 1 181 := ⟨by decide +kernel, rfl⟩
theorem qX12_isLeaf_181 : Dc mX12_isLeaf 181 (.bipush 61) 2 183 := ⟨by decide +kernel, rfl⟩
theorem qX12_isLeaf_183 : Dc mX12_isLeaf 183 (.if_icmp .ne 18) 3 186 := ⟨by decide +kernel, rfl⟩
theorem qX12_isLeaf_186 : Dc mX12_isLeaf 186 (.iload 5) 2 188 := ⟨by decide +kernel, rfl⟩
theorem qX12_isLeaf_188 : Dc mX12_isLeaf 188 (.iload 4) 2 190 := ⟨by decide +kernel, rfl⟩
theorem qX12_isLeaf_190 : Dc mX12_isLeaf 190 (.if_icmp .ne 7) 3 193 := ⟨by decide +kernel, rfl⟩
theorem qX12_isLeaf_193 : Dc mX12_isLeaf 193 (.iconst 1) 1 194 := ⟨by decide +kernel, rfl⟩
theorem qX12_isLeaf_194 : Dc mX12_isLeaf 194 (.goto 19) 3 197 := ⟨by decide +kernel, rfl⟩
theorem qX12_isLeaf_197 : Dc mX12_isLeaf 197 (.iconst 0) 1 198 := ⟨by decide +kernel, rfl⟩
theorem qX12_isLeaf_198 : Dc mX12_isLeaf 198 (.goto 15) 3 201 := ⟨by decide +kernel, rfl⟩
theorem qX12_isLeaf_201 : Dc mX12_isLeaf 201 (.iload 5) 2 203 := ⟨by decide +kernel, rfl⟩
theorem qX12_isLeaf_203 : Dc mX12_isLeaf 203 (.iload 4) 2 205 := ⟨by decide +kernel, rfl⟩
theorem qX12_isLeaf_205 : Dc mX12_isLeaf 205 (.if_icmp .le 7) 3 208 := ⟨by decide +kernel, rfl⟩
theorem qX12_isLeaf_208 : Dc mX12_isLeaf 208 (.iconst 1) 1 209 := ⟨by decide +kernel, rfl⟩
theorem qX12_isLeaf_209 : Dc mX12_isLeaf 209 (.goto 4) 3 212 := ⟨by decide +kernel, rfl⟩
theorem qX12_isLeaf_212 : Dc mX12_isLeaf 212 (.iconst 0) 1 213 := ⟨by decide +kernel, rfl⟩
theorem qX12_isLeaf_213 : Dc mX12_isLeaf 213 (.ireturn) 1 214 := ⟨by decide +kernel, rfl⟩

set_option maxRecDepth 20000 in
set_option maxHeartbeats 4000000 in
theorem w_X12_isLeaf {N : Nat} {x1 : Int32} {x2 : Int32} {x3 : Int32} {x4 : Int32} {s0 : St} {r : Int32} (h : f_X12_isLeaf N x1 x2 x3 x4 s0 = some r) : Ct mX12_isLeaf 5 [.ref 206, .int x1, .int x2, .int x3, .int x4] s0 (some (.int r), s0) := by
  refine Ct.ofE (by decide +kernel) rfl ?_
  show E mX12_isLeaf 5 (some (.int r), s0) 0 [some (.ref 206), some (.int x1), some (.int x2), some (.int x3), some (.int x4), none] [] s0
  unfold f_X12_isLeaf at h
  refine e_iload_n qX12_isLeaf_0 rfl ?_
  refine e_ite h (fun hx h => ?_) (fun hx0 h => ?_)
  · refine e_tswk (tgt := 36) qX12_isLeaf_1 hx (by decide) (by decide) (by decide) rfl rfl ?_
    refine e_aload_n qX12_isLeaf_36 rfl ?_
    refine e_getr 208 qX12_isLeaf_37 fl_X12_33 shq_206 kdq_11_6 rrq_206_6 ?_
    refine e_sipush (nI 148) qX12_isLeaf_40 rfl ?_
    refine e_iald qX12_isLeaf_43 shq_208 lnq_208 h (fun v1 h => ?_)
    refine e_iload_n qX12_isLeaf_44 rfl ?_
    obtain ⟨v2, hc, h⟩ := bp_e h
    refine e_cSi2 qX12_isLeaf_45 ms_X12_240 rfl rfl (w_X12_bitOf hc) ?_
    refine rz_e h (fun hz h => ?_)
    exact e_zret qX12_isLeaf_48 rfl hz (ret_p h)
  refine e_ite h (fun hx h => ?_) (fun hx1 h => ?_)
  · refine e_tswk (tgt := 49) qX12_isLeaf_1 hx (by decide) (by decide) (by decide) rfl rfl ?_
    refine e_aload_n qX12_isLeaf_49 rfl ?_
    refine e_iload_n qX12_isLeaf_50 rfl ?_
    obtain ⟨v3, hc, h⟩ := bp_e h
    refine e_cVi1 qX12_isLeaf_51 mv_X12_284 shq_206 rfl rfl (w_X12_isShining hc) ?_
    refine rz_e h (fun hz h => ?_)
    exact e_zret qX12_isLeaf_54 rfl hz (ret_p h)
  refine e_ite h (fun hx h => ?_) (fun hx2 h => ?_)
  · refine e_tswk (tgt := 55) qX12_isLeaf_1 hx (by decide) (by decide) (by decide) rfl rfl ?_
    refine e_aload_n qX12_isLeaf_55 rfl ?_
    refine e_getr 208 qX12_isLeaf_56 fl_X12_33 shq_206 kdq_11_6 rrq_206_6 ?_
    refine e_bipush (nI 43) qX12_isLeaf_59 rfl ?_
    refine e_iload_n qX12_isLeaf_61 rfl ?_
    refine e_iadd qX12_isLeaf_62 ?_
    refine e_iald qX12_isLeaf_63 shq_208 lnq_208 h (fun v4 h => ?_)
    refine e_if_ne (tgt := 71) qX12_isLeaf_64 rfl h (fun _ h => ?_) (fun _ h => ?_)
    · refine e_iconst (nI 1) qX12_isLeaf_67 rfl ?_
      refine e_goto (tgt := 72) qX12_isLeaf_68 rfl ?_
      exact e_zret qX12_isLeaf_72 rfl (by decide) (ret_p h)
    refine e_iconst (nI 0) qX12_isLeaf_71 rfl ?_
    exact e_zret qX12_isLeaf_72 rfl (by decide) (ret_p h)
  refine e_ite h (fun hx h => ?_) (fun hx3 h => ?_)
  · refine e_tswk (tgt := 73) qX12_isLeaf_1 hx (by decide) (by decide) (by decide) rfl rfl ?_
    refine e_iload_n qX12_isLeaf_73 rfl ?_
    refine e_iload qX12_isLeaf_74 rfl ?_
    refine e_icmp_eq (tgt := 89) qX12_isLeaf_76 rfl h (fun _ h => ?_) (fun _ h => ?_)
    · refine e_iconst (nI 1) qX12_isLeaf_89 rfl ?_
      refine e_goto (tgt := 94) qX12_isLeaf_90 rfl ?_
      exact e_zret qX12_isLeaf_94 rfl (by decide) (ret_p h)
    refine e_aload_n qX12_isLeaf_79 rfl ?_
    refine e_iload_n qX12_isLeaf_80 rfl ?_
    refine e_iload qX12_isLeaf_81 rfl ?_
    obtain ⟨v5, hc, h⟩ := bp_e h
    refine e_cVi2 qX12_isLeaf_83 mv_X12_271 shq_206 rfl rfl (w_X12_isAlike hc) ?_
    refine e_if_eq (tgt := 93) qX12_isLeaf_86 rfl h (fun _ h => ?_) (fun _ h => ?_)
    · refine e_iconst (nI 0) qX12_isLeaf_93 rfl ?_
      exact e_zret qX12_isLeaf_94 rfl (by decide) (ret_p h)
    refine e_iconst (nI 1) qX12_isLeaf_89 rfl ?_
    refine e_goto (tgt := 94) qX12_isLeaf_90 rfl ?_
    exact e_zret qX12_isLeaf_94 rfl (by decide) (ret_p h)
  refine e_ite h (fun hx h => ?_) (fun hx4 h => ?_)
  · refine e_tswk (tgt := 95) qX12_isLeaf_1 hx (by decide) (by decide) (by decide) rfl rfl ?_
    refine e_aload_n qX12_isLeaf_95 rfl ?_
    refine e_iload qX12_isLeaf_96 rfl ?_
    obtain ⟨v6, hc, h⟩ := bp_e h
    refine e_cVi1 qX12_isLeaf_98 mv_X12_307 shq_206 rfl rfl (w_X12_seenBy hc) ?_
    refine e_iload_n qX12_isLeaf_101 rfl ?_
    obtain ⟨v7, hc, h⟩ := bp_e h
    refine e_cSi2 qX12_isLeaf_102 ms_X12_240 rfl rfl (w_X12_bitOf hc) ?_
    refine rz_e h (fun hz h => ?_)
    exact e_zret qX12_isLeaf_105 rfl hz (ret_p h)
  refine e_tswo (tgt := 106) qX12_isLeaf_1 (tsw_def (lo := 0) (n := 5) (by decide) (lt_s (lt_s (lt_s (lt_s (lt_s lt_0 hx0) hx1) hx2) hx3) hx4)) rfl ?_
  refine e_iload_n qX12_isLeaf_106 rfl ?_
  refine e_iconst (nI 5) qX12_isLeaf_107 rfl ?_
  refine jn_e (fun j => ∀ (v8 : Int32), j v8 = some r → E mX12_isLeaf 5 (some (.int r), s0) 157 [none, none, none, some (.int x3), some (.int x4), none] [.int v8] s0) h ?_ (fun j9 hj9 h => ?_)
  · intro v8 h
    refine e_istore (lv2 := [none, none, none, some (.int x3), some (.int x4), some (.int v8)]) qX12_isLeaf_157 rfl rfl rfl ?_
    refine e_iload_n qX12_isLeaf_159 rfl ?_
    refine e_bipush (nI 60) qX12_isLeaf_160 rfl ?_
    refine e_icmp_ne (tgt := 180) qX12_isLeaf_162 rfl h (fun _ h => ?_) (fun _ h => ?_)
    · refine e_iload qX12_isLeaf_165 rfl ?_
      refine e_iload qX12_isLeaf_167 rfl ?_
      refine e_icmp_ge (tgt := 176) qX12_isLeaf_169 rfl h (fun _ h => ?_) (fun _ h => ?_)
      · refine e_iconst (nI 0) qX12_isLeaf_176 rfl ?_
        refine e_goto (tgt := 213) qX12_isLeaf_177 rfl ?_
        exact e_zret qX12_isLeaf_213 rfl (by decide) (ret_p h)
      refine e_iconst (nI 1) qX12_isLeaf_172 rfl ?_
      refine e_goto (tgt := 213) qX12_isLeaf_173 rfl ?_
      exact e_zret qX12_isLeaf_213 rfl (by decide) (ret_p h)
    refine e_iload_n qX12_isLeaf_180 rfl ?_
    refine e_bipush (nI 61) qX12_isLeaf_181 rfl ?_
    refine e_icmp_ne (tgt := 201) qX12_isLeaf_183 rfl h (fun _ h => ?_) (fun _ h => ?_)
    · refine e_iload qX12_isLeaf_186 rfl ?_
      refine e_iload qX12_isLeaf_188 rfl ?_
      refine e_icmp_ne (tgt := 197) qX12_isLeaf_190 rfl h (fun _ h => ?_) (fun _ h => ?_)
      · refine e_iconst (nI 1) qX12_isLeaf_193 rfl ?_
        refine e_goto (tgt := 213) qX12_isLeaf_194 rfl ?_
        exact e_zret qX12_isLeaf_213 rfl (by decide) (ret_p h)
      refine e_iconst (nI 0) qX12_isLeaf_197 rfl ?_
      refine e_goto (tgt := 213) qX12_isLeaf_198 rfl ?_
      exact e_zret qX12_isLeaf_213 rfl (by decide) (ret_p h)
    refine e_iload qX12_isLeaf_201 rfl ?_
    refine e_iload qX12_isLeaf_203 rfl ?_
    refine e_icmp_le (tgt := 212) qX12_isLeaf_205 rfl h (fun _ h => ?_) (fun _ h => ?_)
    · refine e_iconst (nI 0) qX12_isLeaf_212 rfl ?_
      exact e_zret qX12_isLeaf_213 rfl (by decide) (ret_p h)
    refine e_iconst (nI 1) qX12_isLeaf_208 rfl ?_
    refine e_goto (tgt := 213) qX12_isLeaf_209 rfl ?_
    exact e_zret qX12_isLeaf_213 rfl (by decide) (ret_p h)
  refine e_icmp_ne (tgt := 124) qX12_isLeaf_108 rfl h (fun _ h => ?_) (fun _ h => ?_)
  · refine e_aload_n qX12_isLeaf_111 rfl ?_
    refine e_getr 208 qX12_isLeaf_112 fl_X12_33 shq_206 kdq_11_6 rrq_206_6 ?_
    refine e_sipush (nI 150) qX12_isLeaf_115 rfl ?_
    refine e_iload_n qX12_isLeaf_118 rfl ?_
    refine e_iadd qX12_isLeaf_119 ?_
    refine e_iald qX12_isLeaf_120 shq_208 lnq_208 h (fun v10 h => ?_)
    refine e_goto (tgt := 157) qX12_isLeaf_121 rfl ?_
    exact e_weak (hj9 _ h) ⟨Or.inl rfl, Or.inl rfl, Or.inl rfl, Or.inr rfl, Or.inr rfl, Or.inl rfl, trivial⟩
  refine e_iload_n qX12_isLeaf_124 rfl ?_
  refine e_bipush (nI 6) qX12_isLeaf_125 rfl ?_
  refine e_icmp_ne (tgt := 138) qX12_isLeaf_127 rfl h (fun _ h => ?_) (fun _ h => ?_)
  · refine e_aload_n qX12_isLeaf_130 rfl ?_
    refine e_iload_n qX12_isLeaf_131 rfl ?_
    obtain ⟨v11, hc, h⟩ := bp_e h
    refine e_cVi1 qX12_isLeaf_132 mv_X12_261 shq_206 rfl rfl (w_X12_periodOf hc) ?_
    refine e_goto (tgt := 157) qX12_isLeaf_135 rfl ?_
    exact e_weak (hj9 _ h) ⟨Or.inl rfl, Or.inl rfl, Or.inl rfl, Or.inr rfl, Or.inr rfl, Or.inl rfl, trivial⟩
  refine e_iload_n qX12_isLeaf_138 rfl ?_
  refine e_bipush (nI 7) qX12_isLeaf_139 rfl ?_
  refine e_icmp_ne (tgt := 156) qX12_isLeaf_141 rfl h (fun _ h => ?_) (fun _ h => ?_)
  · refine e_aload_n qX12_isLeaf_144 rfl ?_
    refine e_getr 208 qX12_isLeaf_145 fl_X12_33 shq_206 kdq_11_6 rrq_206_6 ?_
    refine e_bipush (nI 19) qX12_isLeaf_148 rfl ?_
    refine e_iload_n qX12_isLeaf_150 rfl ?_
    refine e_iadd qX12_isLeaf_151 ?_
    refine e_iald qX12_isLeaf_152 shq_208 lnq_208 h (fun v12 h => ?_)
    refine e_goto (tgt := 157) qX12_isLeaf_153 rfl ?_
    exact e_weak (hj9 _ h) ⟨Or.inl rfl, Or.inl rfl, Or.inl rfl, Or.inr rfl, Or.inr rfl, Or.inl rfl, trivial⟩
  refine e_iload_n qX12_isLeaf_156 rfl ?_
  exact e_weak (hj9 _ h) ⟨Or.inl rfl, Or.inl rfl, Or.inl rfl, Or.inr rfl, Or.inr rfl, Or.inl rfl, trivial⟩

def f_X12_isSaid_L4 (N : Nat) (c1 : Int32) (k5 : St → Option (Int32 × St)) : Nat → Int32 → Int32 → St → Option (Int32 × St)
  | 0, _, _, _ => none
  | n7 + 1, v2, v3, s4 =>
    ald (s4.1 208) 359 (nI 178) fun v9 =>
    if v9 ≤ v3 then
      k5 s4
    else
    vl ((nI 179) + ((nI 3) * v3)) fun v10 =>
    ald (s4.1 208) 359 v10 fun v11 =>
    jn (fun (v12 : Int32) (s13 : St) =>
      vl (v3 + (nI 1)) fun v15 =>
      f_X12_isSaid_L4 N c1 k5 n7 v12 v15 s13) fun j14 =>
    if v11 = (nI 20) then
      ald (s4.1 221) 45 (v2 - (nI 1)) fun v16 =>
      jn (fun (v17 : Int32) =>
        ald (fun j => sI s4 221 j (v17 &&& 1)) 45 (v2 - (nI 1)) fun s19 =>
        j14 v2 s19) fun j18 =>
      if v16 = 0 then
        j18 (nI 1)
      else
      j18 (nI 0)
    else
    ald (s4.1 208) 359 v10 fun v20 =>
    jn (vl (v2 + (-1)) fun v22 =>
      ald (s4.1 208) 359 v10 fun v23 =>
      jn (fun (v24 : Int32) =>
        ald (fun j => sI s4 221 j (v24 &&& 1)) 45 (v22 - (nI 1)) fun s26 =>
        j14 v22 s26) fun j25 =>
      if v23 = (nI 21) then
        ald (s4.1 221) 45 (v22 - (nI 1)) fun v27 =>
        jn (j25 (nI 0)) fun j28 =>
        if v27 = 0 then
          j28
        else
        ald (s4.1 221) 45 v22 fun v29 =>
        if v29 = 0 then
          j28
        else
        j25 (nI 1)
      else
      ald (s4.1 221) 45 (v22 - (nI 1)) fun v30 =>
      jn (j25 (nI 1)) fun j31 =>
      if v30 = 0 then
        ald (s4.1 221) 45 v22 fun v32 =>
        if v32 = 0 then
          j25 (nI 0)
        else
        j31
      else
      j31) fun j21 =>
    if v20 = (nI 21) then
      j21
    else
    ald (s4.1 208) 359 v10 fun v33 =>
    if v33 = (nI 22) then
      j21
    else
    ald (s4.1 208) 359 v10 fun v34 =>
    ald (s4.1 208) 359 (v10 + (nI 1)) fun v35 =>
    ald (s4.1 208) 359 (v10 + (nI 2)) fun v36 =>
    bp (f_X12_isLeaf N c1 v34 v35 v36 s4) fun v37 =>
    ald (fun j => sI s4 221 j (v37 &&& 1)) 45 v2 fun s38 =>
    vl (v2 + (nI 1)) fun v39 =>
    j14 v39 s38

def f_X12_isSaid (N : Nat) (x1 : Int32) (s0 : St) : Option (Int32 × St) :=
  f_X12_isSaid_L4 N x1 (fun (s40 : St) =>
    ald (s40.1 221) 45 (nI 0) fun v41 =>
    rz v41 <|
    some (v41, s40)) N (nI 0) (nI 0) s0

theorem qX12_isSaid_0 : Dc mX12_isSaid 0 (.iconst 0) 1 1 := ⟨by decide +kernel, rfl⟩
theorem qX12_isSaid_1 : Dc mX12_isSaid 1 (.istore_n 2) 1 2 := ⟨by decide +kernel, rfl⟩
theorem qX12_isSaid_2 : Dc mX12_isSaid 2 (.iconst 0) 1 3 := ⟨by decide +kernel, rfl⟩
theorem qX12_isSaid_3 : Dc mX12_isSaid 3 (.istore_n 3) 1 4 := ⟨by decide +kernel, rfl⟩
theorem qX12_isSaid_4 : Dc mX12_isSaid 4 (.iload_n 3) 1 5 := ⟨by decide +kernel, rfl⟩
theorem qX12_isSaid_5 : Dc mX12_isSaid 5 (.aload_n 0) 1 6 := ⟨by decide +kernel, rfl⟩
theorem qX12_isSaid_6 : Dc mX12_isSaid 6 (.getfield 33) 3 9 := ⟨by decide +kernel, rfl⟩
theorem qX12_isSaid_9 : Dc mX12_isSaid 9 (.sipush 178) 3 12 := ⟨by decide +kernel, rfl⟩
theorem qX12_isSaid_12 : Dc mX12_isSaid 12 (.iaload) 1 13 := ⟨by decide +kernel, rfl⟩
theorem qX12_isSaid_13 : Dc mX12_isSaid 13 (.if_icmp .ge 199) 3 16 := ⟨by decide +kernel, rfl⟩
theorem qX12_isSaid_16 : Dc mX12_isSaid 16 (.sipush 179) 3 19 := ⟨by decide +kernel, rfl⟩
theorem qX12_isSaid_19 : Dc mX12_isSaid 19 (.iconst 3) 1 20 := ⟨by decide +kernel, rfl⟩
theorem qX12_isSaid_20 : Dc mX12_isSaid 20 (.iload_n 3) 1 21 := ⟨by decide +kernel, rfl⟩
theorem qX12_isSaid_21 : Dc mX12_isSaid 21 (.imul) 1 22 := ⟨by decide +kernel, rfl⟩
theorem qX12_isSaid_22 : Dc mX12_isSaid 22 (.iadd) 1 23 := ⟨by decide +kernel, rfl⟩
theorem qX12_isSaid_23 : Dc mX12_isSaid 23 (.istore 4) 2 25 := ⟨by decide +kernel, rfl⟩
theorem qX12_isSaid_25 : Dc mX12_isSaid 25 (.aload_n 0) 1 26 := ⟨by decide +kernel, rfl⟩
theorem qX12_isSaid_26 : Dc mX12_isSaid 26 (.getfield 33) 3 29 := ⟨by decide +kernel, rfl⟩
theorem qX12_isSaid_29 : Dc mX12_isSaid 29 (.iload 4) 2 31 := ⟨by decide +kernel, rfl⟩
theorem qX12_isSaid_31 : Dc mX12_isSaid 31 (.iaload) 1 32 := ⟨by decide +kernel, rfl⟩
theorem qX12_isSaid_32 : Dc mX12_isSaid 32 (.bipush 20) 2 34 := ⟨by decide +kernel, rfl⟩
theorem qX12_isSaid_34 : Dc mX12_isSaid 34 (.if_icmp .ne 30) 3 37 := ⟨by decide +kernel, rfl⟩
theorem qX12_isSaid_37 : Dc mX12_isSaid 37 (.aload_n 0) 1 38 := ⟨by decide +kernel, rfl⟩
theorem qX12_isSaid_38 : Dc mX12_isSaid 38 (.getfield 75) 3 41 := ⟨by decide +kernel, rfl⟩
theorem qX12_isSaid_41 : Dc mX12_isSaid 41 (.iload_n 2) 1 42 := ⟨by decide +kernel, rfl⟩
theorem qX12_isSaid_42 : Dc mX12_isSaid 42 (.iconst 1) 1 43 := ⟨by decide +kernel, rfl⟩
theorem qX12_isSaid_43 : Dc mX12_isSaid 43 (.isub) 1 44 := ⟨by decide +kernel, rfl⟩
theorem qX12_isSaid_44 : Dc mX12_isSaid 44 (.aload_n 0) 1 45 := ⟨by decide +kernel, rfl⟩
theorem qX12_isSaid_45 : Dc mX12_isSaid 45 (.getfield 75) 3 48 := ⟨by decide +kernel, rfl⟩
theorem qX12_isSaid_48 : Dc mX12_isSaid 48 (.iload_n 2) 1 49 := ⟨by decide +kernel, rfl⟩
theorem qX12_isSaid_49 : Dc mX12_isSaid 49 (.iconst 1) 1 50 := ⟨by decide +kernel, rfl⟩
theorem qX12_isSaid_50 : Dc mX12_isSaid 50 (.isub) 1 51 := ⟨by decide +kernel, rfl⟩
theorem qX12_isSaid_51 : Dc mX12_isSaid 51 (.baload) 1 52 := ⟨by decide +kernel, rfl⟩
theorem qX12_isSaid_52 : Dc mX12_isSaid 52 (.ifCond .ne 7) 3 55 := ⟨by decide +kernel, rfl⟩
theorem qX12_isSaid_55 : Dc mX12_isSaid 55 (.iconst 1) 1 56 := ⟨by decide +kernel, rfl⟩
theorem qX12_isSaid_56 : Dc mX12_isSaid 56 (.goto 4) 3 59 := ⟨by decide +kernel, rfl⟩
theorem qX12_isSaid_59 : Dc mX12_isSaid 59 (.iconst 0) 1 60 := ⟨by decide +kernel, rfl⟩
theorem qX12_isSaid_60 : Dc mX12_isSaid 60 (.bastore) 1 61 := ⟨by decide +kernel, rfl⟩
theorem qX12_isSaid_61 : Dc mX12_isSaid 61 (.goto 145) 3 64 := ⟨by decide +kernel, rfl⟩
theorem qX12_isSaid_64 : Dc mX12_isSaid 64 (.aload_n 0) 1 65 := ⟨by decide +kernel, rfl⟩
theorem qX12_isSaid_65 : Dc mX12_isSaid 65 (.getfield 33) 3 68 := ⟨by decide +kernel, rfl⟩
theorem qX12_isSaid_68 : Dc mX12_isSaid 68 (.iload 4) 2 70 := ⟨by decide +kernel, rfl⟩
theorem qX12_isSaid_70 : Dc mX12_isSaid 70 (.iaload) 1 71 := ⟨by decide +kernel, rfl⟩
theorem qX12_isSaid_71 : Dc mX12_isSaid 71 (.bipush 21) 2 73 := ⟨by decide +kernel, rfl⟩
theorem qX12_isSaid_73 : Dc mX12_isSaid 73 (.if_icmp .eq 15) 3 76 := ⟨by decide +kernel, rfl⟩
theorem qX12_isSaid_76 : Dc mX12_isSaid 76 (.aload_n 0) 1 77 := ⟨by decide +kernel, rfl⟩
theorem qX12_isSaid_77 : Dc mX12_isSaid 77 (.getfield 33) 3 80 := ⟨by decide +kernel, rfl⟩
theorem qX12_isSaid_80 : Dc mX12_isSaid 80 (.iload 4) 2 82 := ⟨by decide +kernel, rfl⟩
theorem qX12_isSaid_82 : Dc mX12_isSaid 82 (.iaload) 1 83 := ⟨by decide +kernel, rfl⟩
theorem qX12_isSaid_83 : Dc mX12_isSaid 83 (.bipush 22) 2 85 := ⟨by decide +kernel, rfl⟩
theorem qX12_isSaid_85 : Dc mX12_isSaid 85 (.if_icmp .ne 82) 3 88 := ⟨by decide +kernel, rfl⟩
theorem qX12_isSaid_88 : Dc mX12_isSaid 88 (.iinc 2 (-1)) 3 91 := ⟨by decide +kernel, rfl⟩
theorem qX12_isSaid_91 : Dc mX12_isSaid 91 (.aload_n 0) 1 92 := ⟨by decide +kernel, rfl⟩
theorem qX12_isSaid_92 : Dc mX12_isSaid 92 (.getfield 75) 3 95 := ⟨by decide +kernel, rfl⟩
theorem qX12_isSaid_95 : Dc mX12_isSaid 95 (.iload_n 2) 1 96 := ⟨by decide +kernel, rfl⟩
theorem qX12_isSaid_96 : Dc mX12_isSaid 96 (.iconst 1) 1 97 := ⟨by decide +kernel, rfl⟩
theorem qX12_isSaid_97 : Dc mX12_isSaid 97 (.isub) 1 98 := ⟨by decide +kernel, rfl⟩
theorem qX12_isSaid_98 : Dc mX12_isSaid 98 (.aload_n 0) 1 99 := ⟨by decide +kernel, rfl⟩
theorem qX12_isSaid_99 : Dc mX12_isSaid 99 (.getfield 33) 3 102 := ⟨by decide +kernel, rfl⟩
theorem qX12_isSaid_102 : Dc mX12_isSaid 102 (.iload 4) 2 104 := ⟨by decide +kernel, rfl⟩
theorem qX12_isSaid_104 : Dc mX12_isSaid 104 (.iaload) 1 105 := ⟨by decide +kernel, rfl⟩
theorem qX12_isSaid_105 : Dc mX12_isSaid 105 (.bipush 21) 2 107 := ⟨by decide +kernel, rfl⟩
theorem qX12_isSaid_107 : Dc mX12_isSaid 107 (.if_icmp .ne 31) 3 110 := ⟨by decide +kernel, rfl⟩
theorem qX12_isSaid_110 : Dc mX12_isSaid 110 (.aload_n 0) 1 111 := ⟨by decide +kernel, rfl⟩
theorem qX12_isSaid_111 : Dc mX12_isSaid 111 (.getfield 75) 3 114 := ⟨by decide +kernel, rfl⟩
theorem qX12_isSaid_114 : Dc mX12_isSaid 114 (.iload_n 2) 1 115 := ⟨by decide +kernel, rfl⟩
theorem qX12_isSaid_115 : Dc mX12_isSaid 115 (.iconst 1) 1 116 := ⟨by decide +kernel, rfl⟩
theorem qX12_isSaid_116 : Dc mX12_isSaid 116 (.isub) 1 117 := ⟨by decide +kernel, rfl⟩
theorem qX12_isSaid_117 : Dc mX12_isSaid 117 (.baload) 1 118 := ⟨by decide +kernel, rfl⟩
theorem qX12_isSaid_118 : Dc mX12_isSaid 118 (.ifCond .eq 16) 3 121 := ⟨by decide +kernel, rfl⟩
theorem qX12_isSaid_121 : Dc mX12_isSaid 121 (.aload_n 0) 1 122 := ⟨by decide +kernel, rfl⟩
theorem qX12_isSaid_122 : Dc mX12_isSaid 122 (.getfield 75) 3 125 := ⟨by decide +kernel, rfl⟩
theorem qX12_isSaid_125 : Dc mX12_isSaid 125 (.iload_n 2) 1 126 := ⟨by decide +kernel, rfl⟩
theorem qX12_isSaid_126 : Dc mX12_isSaid 126 (.baload) 1 127 := ⟨by decide +kernel, rfl⟩
theorem qX12_isSaid_127 : Dc mX12_isSaid 127 (.ifCond .eq 7) 3 130 := ⟨by decide +kernel, rfl⟩
theorem qX12_isSaid_130 : Dc mX12_isSaid 130 (.iconst 1) 1 131 := ⟨by decide +kernel, rfl⟩
theorem qX12_isSaid_131 : Dc mX12_isSaid 131 (.goto 32) 3 134 := ⟨by decide +kernel, rfl⟩
theorem qX12_isSaid_134 : Dc mX12_isSaid 134 (.iconst 0) 1 135 := ⟨by decide +kernel, rfl⟩
theorem qX12_isSaid_135 : Dc mX12_isSaid 135 (.goto 28) 3 138 := ⟨by decide +kernel, rfl⟩
theorem qX12_isSaid_138 : Dc mX12_isSaid 138 (.aload_n 0) 1 139 := ⟨by decide +kernel, rfl⟩
theorem qX12_isSaid_139 : Dc mX12_isSaid 139 (.getfield 75) 3 142 := ⟨by decide +kernel, rfl⟩
theorem qX12_isSaid_142 : Dc mX12_isSaid 142 (.iload_n 2) 1 143 := ⟨by decide +kernel, rfl⟩
theorem qX12_isSaid_143 : Dc mX12_isSaid 143 (.iconst 1) 1 144 := ⟨by decide +kernel, rfl⟩
theorem qX12_isSaid_144 : Dc mX12_isSaid 144 (.isub) 1 145 := ⟨by decide +kernel, rfl⟩
theorem qX12_isSaid_145 : Dc mX12_isSaid 145 (.baload) 1 146 := ⟨by decide +kernel, rfl⟩
theorem qX12_isSaid_146 : Dc mX12_isSaid 146 (.ifCond .ne 12) 3 149 := ⟨by decide +kernel, rfl⟩
theorem qX12_isSaid_149 : Dc mX12_isSaid 149 (.aload_n 0) 1 150 := ⟨by decide +kernel, rfl⟩
theorem qX12_isSaid_150 : Dc mX12_isSaid 150 (.getfield 75) 3 153 := ⟨by decide +kernel, rfl⟩
theorem qX12_isSaid_153 : Dc mX12_isSaid 153 (.iload_n 2) 1 154 := ⟨by decide +kernel, rfl⟩
theorem qX12_isSaid_154 : Dc mX12_isSaid 154 (.baload) 1 155 := ⟨by decide +kernel, rfl⟩
theorem qX12_isSaid_155 : Dc mX12_isSaid 155 (.ifCond .eq 7) 3 158 := ⟨by decide +kernel, rfl⟩
theorem qX12_isSaid_158 : Dc mX12_isSaid 158 (.iconst 1) 1 159 := ⟨by decide +kernel, rfl⟩
theorem qX12_isSaid_159 : Dc mX12_isSaid 159 (.goto 4) 3 162 := ⟨by decide +kernel, rfl⟩
theorem qX12_isSaid_162 : Dc mX12_isSaid 162 (.iconst 0) 1 163 := ⟨by decide +kernel, rfl⟩
theorem qX12_isSaid_163 : Dc mX12_isSaid 163 (.bastore) 1 164 := ⟨by decide +kernel, rfl⟩
theorem qX12_isSaid_164 : Dc mX12_isSaid 164 (.goto 42) 3 167 := ⟨by decide +kernel, rfl⟩
theorem qX12_isSaid_167 : Dc mX12_isSaid 167 (.aload_n 0) 1 168 := ⟨by decide +kernel, rfl⟩
theorem qX12_isSaid_168 : Dc mX12_isSaid 168 (.getfield 75) 3 171 := ⟨by decide +kernel, rfl⟩
theorem qX12_isSaid_171 : Dc mX12_isSaid 171 (.iload_n 2) 1 172 := ⟨by decide +kernel, rfl⟩
theorem qX12_isSaid_172 : Dc mX12_isSaid 172 (.aload_n 0) 1 173 := ⟨by decide +kernel, rfl⟩
theorem qX12_isSaid_173 : Dc mX12_isSaid 173 (.iload_n 1) 1 174 := ⟨by decide +kernel, rfl⟩
theorem qX12_isSaid_174 : Dc mX12_isSaid 174 (.aload_n 0) 1 175 := ⟨by decide +kernel, rfl⟩
theorem qX12_isSaid_175 : Dc mX12_isSaid 175 (.getfield 33) 3 178 := ⟨by decide +kernel, rfl⟩
theorem qX12_isSaid_178 : Dc mX12_isSaid 178 (.iload 4) 2 180 := ⟨by decide +kernel, rfl⟩
theorem qX12_isSaid_180 : Dc mX12_isSaid 180 (.iaload) 1 181 := ⟨by decide +kernel, rfl⟩
theorem qX12_isSaid_181 : Dc mX12_isSaid 181 (.aload_n 0) 1 182 := ⟨by decide +kernel, rfl⟩
theorem qX12_isSaid_182 : Dc mX12_isSaid 182 (.getfield 33) 3 185 := ⟨by decide +kernel, rfl⟩
theorem qX12_isSaid_185 : Dc mX12_isSaid 185 (.iload 4) 2 187 := ⟨by decide +kernel, rfl⟩
theorem qX12_isSaid_187 : Dc mX12_isSaid 187 (.iconst 1) 1 188 := ⟨by decide +kernel, rfl⟩
theorem qX12_isSaid_188 : Dc mX12_isSaid 188 (.iadd) 1 189 := ⟨by decide +kernel, rfl⟩
theorem qX12_isSaid_189 : Dc mX12_isSaid 189 (.iaload) 1 190 := ⟨by decide +kernel, rfl⟩
theorem qX12_isSaid_190 : Dc mX12_isSaid 190 (.aload_n 0) 1 191 := ⟨by decide +kernel, rfl⟩
theorem qX12_isSaid_191 : Dc mX12_isSaid 191 (.getfield 33) 3 194 := ⟨by decide +kernel, rfl⟩
theorem qX12_isSaid_194 : Dc mX12_isSaid 194 (.iload 4) 2 196 := ⟨by decide +kernel, rfl⟩
theorem qX12_isSaid_196 : Dc mX12_isSaid 196 (.iconst 2) 1 197 := ⟨by decide +kernel, rfl⟩
theorem qX12_isSaid_197 : Dc mX12_isSaid 197 (.iadd) 1 198 := ⟨by decide +kernel, rfl⟩
theorem qX12_isSaid_198 : Dc mX12_isSaid 198 (.iaload) 1 199 := ⟨by decide +kernel, rfl⟩
theorem qX12_isSaid_199 : Dc mX12_isSaid 199 (.invokevirtual 482) 3 202 := ⟨by decide +kernel, rfl⟩
theorem qX12_isSaid_202 : Dc mX12_isSaid 202 (.bastore) 1 203 := ⟨by decide +kernel, rfl⟩
theorem qX12_isSaid_203 : Dc mX12_isSaid 203 (.iinc 2 1) 3 206 := ⟨by decide +kernel, rfl⟩
theorem qX12_isSaid_206 : Dc mX12_isSaid 206 (.iinc 3 1) 3 209 := ⟨by decide +kernel, rfl⟩
theorem qX12_isSaid_209 : Dc mX12_isSaid 209 (.goto (-205)) 3 212 := ⟨by decide +kernel, rfl⟩
theorem qX12_isSaid_212 : Dc mX12_isSaid 212 (.aload_n 0) 1 213 := ⟨by decide +kernel, rfl⟩
theorem qX12_isSaid_213 : Dc mX12_isSaid 213 (.getfield 75) 3 216 := ⟨by decide +kernel, rfl⟩
theorem qX12_isSaid_216 : Dc mX12_isSaid 216 (.iconst 0) 1 217 := ⟨by decide +kernel, rfl⟩
theorem qX12_isSaid_217 : Dc mX12_isSaid 217 (.baload) 1 218 := ⟨by decide +kernel, rfl⟩
theorem qX12_isSaid_218 : Dc mX12_isSaid 218 (.ireturn) 1 219 := ⟨by decide +kernel, rfl⟩

set_option maxRecDepth 20000 in
set_option maxHeartbeats 4000000 in
theorem w_X12_isSaid_L4 {N : Nat} {c1 : Int32} {k5 : St → Option (Int32 × St)} {r : Int32} {sr : St}  (hk5 : ∀ (s6 : St), k5 s6 = some (r, sr) → E mX12_isSaid 6 (some (.int r), sr) 212 [some (.ref 206), none, none, none, none] [] s6) : ∀ (n7 : Nat) (v2 : Int32) (v3 : Int32) (s4 : St), f_X12_isSaid_L4 N c1 k5 n7 v2 v3 s4 = some (r, sr) → E mX12_isSaid 6 (some (.int r), sr) 4 [some (.ref 206), some (.int c1), some (.int v2), some (.int v3), none] [] s4 := by
  intro n7
  induction n7 with
  | zero =>
    intro v2 v3 s4 h
    rw [f_X12_isSaid_L4] at h; cases h
  | succ n7 ih8 =>
    intro v2 v3 s4 h
    rw [f_X12_isSaid_L4] at h
    refine e_iload_n qX12_isSaid_4 rfl ?_
    refine e_aload_n qX12_isSaid_5 rfl ?_
    refine e_getr 208 qX12_isSaid_6 fl_X12_33 shq_206 kdq_11_6 rrq_206_6 ?_
    refine e_sipush (nI 178) qX12_isSaid_9 rfl ?_
    refine e_iald qX12_isSaid_12 shq_208 lnq_208 h (fun v9 h => ?_)
    refine e_icmp_ge (tgt := 212) qX12_isSaid_13 rfl h (fun _ h => ?_) (fun _ h => ?_)
    · exact e_weak (hk5 _ h) ⟨Or.inr rfl, Or.inl rfl, Or.inl rfl, Or.inl rfl, Or.inl rfl, trivial⟩
    refine e_sipush (nI 179) qX12_isSaid_16 rfl ?_
    refine e_iconst (nI 3) qX12_isSaid_19 rfl ?_
    refine e_iload_n qX12_isSaid_20 rfl ?_
    refine e_imul qX12_isSaid_21 ?_
    refine e_iadd qX12_isSaid_22 ?_
    refine vl_e h (fun h => ?_)
    generalize ((nI 179) + ((nI 3) * v3)) = v10 at h ⊢
    refine e_istore (lv2 := [some (.ref 206), some (.int c1), some (.int v2), some (.int v3), some (.int v10)]) qX12_isSaid_23 rfl rfl rfl ?_
    refine e_aload_n qX12_isSaid_25 rfl ?_
    refine e_getr 208 qX12_isSaid_26 fl_X12_33 shq_206 kdq_11_6 rrq_206_6 ?_
    refine e_iload qX12_isSaid_29 rfl ?_
    refine e_iald qX12_isSaid_31 shq_208 lnq_208 h (fun v11 h => ?_)
    refine e_bipush (nI 20) qX12_isSaid_32 rfl ?_
    refine jn_e (fun j => ∀ (v12 : Int32) (s13 : St), j v12 s13 = some (r, sr) → E mX12_isSaid 6 (some (.int r), sr) 206 [some (.ref 206), some (.int c1), some (.int v12), some (.int v3), none] [] s13) h ?_ (fun j14 hj14 h => ?_)
    · intro v12 s13 h
      refine vl_e h (fun h => ?_)
      obtain ⟨v15, ev15⟩ : ∃ y, v3 + (nI 1) = y := ⟨_, rfl⟩
      rw [ev15] at h
      refine e_iinc (nI 1) v15 (lv2 := [some (.ref 206), some (.int c1), some (.int v12), some (.int v15), none]) qX12_isSaid_206 rfl rfl rfl ev15 rfl ?_
      refine e_goto (tgt := 4) qX12_isSaid_209 rfl ?_
      exact e_weak (ih8 _ _ _ h) ⟨Or.inr rfl, Or.inr rfl, Or.inr rfl, Or.inr rfl, Or.inl rfl, trivial⟩
    refine e_icmp_ne (tgt := 64) qX12_isSaid_34 rfl h (fun _ h => ?_) (fun _ h => ?_)
    · refine e_aload_n qX12_isSaid_37 rfl ?_
      refine e_getr 221 qX12_isSaid_38 fl_X12_75 shq_206 kdq_11_49 rrq_206_49 ?_
      refine e_iload_n qX12_isSaid_41 rfl ?_
      refine e_iconst (nI 1) qX12_isSaid_42 rfl ?_
      refine e_isub qX12_isSaid_43 ?_
      refine e_aload_n qX12_isSaid_44 rfl ?_
      refine e_getr 221 qX12_isSaid_45 fl_X12_75 shq_206 kdq_11_49 rrq_206_49 ?_
      refine e_iload_n qX12_isSaid_48 rfl ?_
      refine e_iconst (nI 1) qX12_isSaid_49 rfl ?_
      refine e_isub qX12_isSaid_50 ?_
      refine e_zald qX12_isSaid_51 shq_221 lnq_221 h (fun v16 h => ?_)
      refine jn_e (fun j => ∀ (v17 : Int32), j v17 = some (r, sr) → E mX12_isSaid 6 (some (.int r), sr) 60 [some (.ref 206), some (.int c1), some (.int v2), some (.int v3), none] [.int v17, .int (v2 - (nI 1)), .ref 221] s4) h ?_ (fun j18 hj18 h => ?_)
      · intro v17 h
        refine e_zast qX12_isSaid_60 shq_221 lnq_221 h (fun s19 h => ?_)
        refine e_goto (tgt := 206) qX12_isSaid_61 rfl ?_
        exact e_weak (hj14 _ _ h) ⟨Or.inr rfl, Or.inr rfl, Or.inr rfl, Or.inr rfl, Or.inl rfl, trivial⟩
      refine e_if_ne (tgt := 59) qX12_isSaid_52 rfl h (fun _ h => ?_) (fun _ h => ?_)
      · refine e_iconst (nI 1) qX12_isSaid_55 rfl ?_
        refine e_goto (tgt := 60) qX12_isSaid_56 rfl ?_
        exact e_weak (hj18 _ h) ⟨Or.inr rfl, Or.inr rfl, Or.inr rfl, Or.inr rfl, Or.inl rfl, trivial⟩
      refine e_iconst (nI 0) qX12_isSaid_59 rfl ?_
      exact e_weak (hj18 _ h) ⟨Or.inr rfl, Or.inr rfl, Or.inr rfl, Or.inr rfl, Or.inl rfl, trivial⟩
    refine e_aload_n qX12_isSaid_64 rfl ?_
    refine e_getr 208 qX12_isSaid_65 fl_X12_33 shq_206 kdq_11_6 rrq_206_6 ?_
    refine e_iload qX12_isSaid_68 rfl ?_
    refine e_iald qX12_isSaid_70 shq_208 lnq_208 h (fun v20 h => ?_)
    refine e_bipush (nI 21) qX12_isSaid_71 rfl ?_
    refine jn_e (fun j => j = some (r, sr) → E mX12_isSaid 6 (some (.int r), sr) 88 [some (.ref 206), some (.int c1), some (.int v2), some (.int v3), some (.int v10)] [] s4) h ?_ (fun j21 hj21 h => ?_)
    · intro h
      refine vl_e h (fun h => ?_)
      obtain ⟨v22, ev22⟩ : ∃ y, v2 + (-1) = y := ⟨_, rfl⟩
      rw [ev22] at h
      refine e_iinc (-1) v22 (lv2 := [some (.ref 206), some (.int c1), some (.int v22), some (.int v3), some (.int v10)]) qX12_isSaid_88 rfl rfl rfl ev22 rfl ?_
      refine e_aload_n qX12_isSaid_91 rfl ?_
      refine e_getr 221 qX12_isSaid_92 fl_X12_75 shq_206 kdq_11_49 rrq_206_49 ?_
      refine e_iload_n qX12_isSaid_95 rfl ?_
      refine e_iconst (nI 1) qX12_isSaid_96 rfl ?_
      refine e_isub qX12_isSaid_97 ?_
      refine e_aload_n qX12_isSaid_98 rfl ?_
      refine e_getr 208 qX12_isSaid_99 fl_X12_33 shq_206 kdq_11_6 rrq_206_6 ?_
      refine e_iload qX12_isSaid_102 rfl ?_
      refine e_iald qX12_isSaid_104 shq_208 lnq_208 h (fun v23 h => ?_)
      refine e_bipush (nI 21) qX12_isSaid_105 rfl ?_
      refine jn_e (fun j => ∀ (v24 : Int32), j v24 = some (r, sr) → E mX12_isSaid 6 (some (.int r), sr) 163 [some (.ref 206), some (.int c1), some (.int v22), some (.int v3), none] [.int v24, .int (v22 - (nI 1)), .ref 221] s4) h ?_ (fun j25 hj25 h => ?_)
      · intro v24 h
        refine e_zast qX12_isSaid_163 shq_221 lnq_221 h (fun s26 h => ?_)
        refine e_goto (tgt := 206) qX12_isSaid_164 rfl ?_
        exact e_weak (hj14 _ _ h) ⟨Or.inr rfl, Or.inr rfl, Or.inr rfl, Or.inr rfl, Or.inl rfl, trivial⟩
      refine e_icmp_ne (tgt := 138) qX12_isSaid_107 rfl h (fun _ h => ?_) (fun _ h => ?_)
      · refine e_aload_n qX12_isSaid_110 rfl ?_
        refine e_getr 221 qX12_isSaid_111 fl_X12_75 shq_206 kdq_11_49 rrq_206_49 ?_
        refine e_iload_n qX12_isSaid_114 rfl ?_
        refine e_iconst (nI 1) qX12_isSaid_115 rfl ?_
        refine e_isub qX12_isSaid_116 ?_
        refine e_zald qX12_isSaid_117 shq_221 lnq_221 h (fun v27 h => ?_)
        refine jn_e (fun j => j = some (r, sr) → E mX12_isSaid 6 (some (.int r), sr) 134 [some (.ref 206), some (.int c1), some (.int v22), some (.int v3), none] [.int (v22 - (nI 1)), .ref 221] s4) h ?_ (fun j28 hj28 h => ?_)
        · intro h
          refine e_iconst (nI 0) qX12_isSaid_134 rfl ?_
          refine e_goto (tgt := 163) qX12_isSaid_135 rfl ?_
          exact e_weak (hj25 _ h) ⟨Or.inr rfl, Or.inr rfl, Or.inr rfl, Or.inr rfl, Or.inl rfl, trivial⟩
        refine e_if_eq (tgt := 134) qX12_isSaid_118 rfl h (fun _ h => ?_) (fun _ h => ?_)
        · exact e_weak (hj28 h) ⟨Or.inr rfl, Or.inr rfl, Or.inr rfl, Or.inr rfl, Or.inl rfl, trivial⟩
        refine e_aload_n qX12_isSaid_121 rfl ?_
        refine e_getr 221 qX12_isSaid_122 fl_X12_75 shq_206 kdq_11_49 rrq_206_49 ?_
        refine e_iload_n qX12_isSaid_125 rfl ?_
        refine e_zald qX12_isSaid_126 shq_221 lnq_221 h (fun v29 h => ?_)
        refine e_if_eq (tgt := 134) qX12_isSaid_127 rfl h (fun _ h => ?_) (fun _ h => ?_)
        · exact e_weak (hj28 h) ⟨Or.inr rfl, Or.inr rfl, Or.inr rfl, Or.inr rfl, Or.inl rfl, trivial⟩
        refine e_iconst (nI 1) qX12_isSaid_130 rfl ?_
        refine e_goto (tgt := 163) qX12_isSaid_131 rfl ?_
        exact e_weak (hj25 _ h) ⟨Or.inr rfl, Or.inr rfl, Or.inr rfl, Or.inr rfl, Or.inl rfl, trivial⟩
      refine e_aload_n qX12_isSaid_138 rfl ?_
      refine e_getr 221 qX12_isSaid_139 fl_X12_75 shq_206 kdq_11_49 rrq_206_49 ?_
      refine e_iload_n qX12_isSaid_142 rfl ?_
      refine e_iconst (nI 1) qX12_isSaid_143 rfl ?_
      refine e_isub qX12_isSaid_144 ?_
      refine e_zald qX12_isSaid_145 shq_221 lnq_221 h (fun v30 h => ?_)
      refine jn_e (fun j => j = some (r, sr) → E mX12_isSaid 6 (some (.int r), sr) 158 [some (.ref 206), some (.int c1), some (.int v22), some (.int v3), none] [.int (v22 - (nI 1)), .ref 221] s4) h ?_ (fun j31 hj31 h => ?_)
      · intro h
        refine e_iconst (nI 1) qX12_isSaid_158 rfl ?_
        refine e_goto (tgt := 163) qX12_isSaid_159 rfl ?_
        exact e_weak (hj25 _ h) ⟨Or.inr rfl, Or.inr rfl, Or.inr rfl, Or.inr rfl, Or.inl rfl, trivial⟩
      refine e_if_ne (tgt := 158) qX12_isSaid_146 rfl h (fun _ h => ?_) (fun _ h => ?_)
      · refine e_aload_n qX12_isSaid_149 rfl ?_
        refine e_getr 221 qX12_isSaid_150 fl_X12_75 shq_206 kdq_11_49 rrq_206_49 ?_
        refine e_iload_n qX12_isSaid_153 rfl ?_
        refine e_zald qX12_isSaid_154 shq_221 lnq_221 h (fun v32 h => ?_)
        refine e_if_eq (tgt := 162) qX12_isSaid_155 rfl h (fun _ h => ?_) (fun _ h => ?_)
        · refine e_iconst (nI 0) qX12_isSaid_162 rfl ?_
          exact e_weak (hj25 _ h) ⟨Or.inr rfl, Or.inr rfl, Or.inr rfl, Or.inr rfl, Or.inl rfl, trivial⟩
        exact e_weak (hj31 h) ⟨Or.inr rfl, Or.inr rfl, Or.inr rfl, Or.inr rfl, Or.inl rfl, trivial⟩
      exact e_weak (hj31 h) ⟨Or.inr rfl, Or.inr rfl, Or.inr rfl, Or.inr rfl, Or.inl rfl, trivial⟩
    refine e_icmp_eq (tgt := 88) qX12_isSaid_73 rfl h (fun _ h => ?_) (fun _ h => ?_)
    · exact e_weak (hj21 h) ⟨Or.inr rfl, Or.inr rfl, Or.inr rfl, Or.inr rfl, Or.inr rfl, trivial⟩
    refine e_aload_n qX12_isSaid_76 rfl ?_
    refine e_getr 208 qX12_isSaid_77 fl_X12_33 shq_206 kdq_11_6 rrq_206_6 ?_
    refine e_iload qX12_isSaid_80 rfl ?_
    refine e_iald qX12_isSaid_82 shq_208 lnq_208 h (fun v33 h => ?_)
    refine e_bipush (nI 22) qX12_isSaid_83 rfl ?_
    refine e_icmp_ne (tgt := 167) qX12_isSaid_85 rfl h (fun _ h => ?_) (fun _ h => ?_)
    · exact e_weak (hj21 h) ⟨Or.inr rfl, Or.inr rfl, Or.inr rfl, Or.inr rfl, Or.inr rfl, trivial⟩
    refine e_aload_n qX12_isSaid_167 rfl ?_
    refine e_getr 221 qX12_isSaid_168 fl_X12_75 shq_206 kdq_11_49 rrq_206_49 ?_
    refine e_iload_n qX12_isSaid_171 rfl ?_
    refine e_aload_n qX12_isSaid_172 rfl ?_
    refine e_iload_n qX12_isSaid_173 rfl ?_
    refine e_aload_n qX12_isSaid_174 rfl ?_
    refine e_getr 208 qX12_isSaid_175 fl_X12_33 shq_206 kdq_11_6 rrq_206_6 ?_
    refine e_iload qX12_isSaid_178 rfl ?_
    refine e_iald qX12_isSaid_180 shq_208 lnq_208 h (fun v34 h => ?_)
    refine e_aload_n qX12_isSaid_181 rfl ?_
    refine e_getr 208 qX12_isSaid_182 fl_X12_33 shq_206 kdq_11_6 rrq_206_6 ?_
    refine e_iload qX12_isSaid_185 rfl ?_
    refine e_iconst (nI 1) qX12_isSaid_187 rfl ?_
    refine e_iadd qX12_isSaid_188 ?_
    refine e_iald qX12_isSaid_189 shq_208 lnq_208 h (fun v35 h => ?_)
    refine e_aload_n qX12_isSaid_190 rfl ?_
    refine e_getr 208 qX12_isSaid_191 fl_X12_33 shq_206 kdq_11_6 rrq_206_6 ?_
    refine e_iload qX12_isSaid_194 rfl ?_
    refine e_iconst (nI 2) qX12_isSaid_196 rfl ?_
    refine e_iadd qX12_isSaid_197 ?_
    refine e_iald qX12_isSaid_198 shq_208 lnq_208 h (fun v36 h => ?_)
    obtain ⟨v37, hc, h⟩ := bp_e h
    refine e_cVi4 qX12_isSaid_199 mv_X12_482 shq_206 rfl rfl (w_X12_isLeaf hc) ?_
    refine e_zast qX12_isSaid_202 shq_221 lnq_221 h (fun s38 h => ?_)
    refine vl_e h (fun h => ?_)
    obtain ⟨v39, ev39⟩ : ∃ y, v2 + (nI 1) = y := ⟨_, rfl⟩
    rw [ev39] at h
    refine e_iinc (nI 1) v39 (lv2 := [some (.ref 206), some (.int c1), some (.int v39), some (.int v3), some (.int v10)]) qX12_isSaid_203 rfl rfl rfl ev39 rfl ?_
    exact e_weak (hj14 _ _ h) ⟨Or.inr rfl, Or.inr rfl, Or.inr rfl, Or.inr rfl, Or.inl rfl, trivial⟩

set_option maxRecDepth 20000 in
set_option maxHeartbeats 4000000 in
theorem w_X12_isSaid {N : Nat} {x1 : Int32} {s0 : St} {r : Int32} {sr : St} (h : f_X12_isSaid N x1 s0 = some (r, sr)) : Ct mX12_isSaid 6 [.ref 206, .int x1] s0 (some (.int r), sr) := by
  refine Ct.ofE (by decide +kernel) rfl ?_
  show E mX12_isSaid 6 (some (.int r), sr) 0 [some (.ref 206), some (.int x1), none, none, none] [] s0
  unfold f_X12_isSaid at h
  refine e_iconst (nI 0) qX12_isSaid_0 rfl ?_
  refine e_istore_n (lv2 := [some (.ref 206), some (.int x1), some (.int (nI 0)), none, none]) qX12_isSaid_1 rfl rfl rfl ?_
  refine e_iconst (nI 0) qX12_isSaid_2 rfl ?_
  refine e_istore_n (lv2 := [some (.ref 206), some (.int x1), some (.int (nI 0)), some (.int (nI 0)), none]) qX12_isSaid_3 rfl rfl rfl ?_
  refine e_weak (w_X12_isSaid_L4 (fun s40 h => ?_) _ _ _ _ h) ⟨Or.inr rfl, Or.inr rfl, Or.inr rfl, Or.inr rfl, Or.inl rfl, trivial⟩
  refine e_aload_n qX12_isSaid_212 rfl ?_
  refine e_getr 221 qX12_isSaid_213 fl_X12_75 shq_206 kdq_11_49 rrq_206_49 ?_
  refine e_iconst (nI 0) qX12_isSaid_216 rfl ?_
  refine e_zald qX12_isSaid_217 shq_221 lnq_221 h (fun v41 h => ?_)
  refine rz_e h (fun hz h => ?_)
  exact e_zret qX12_isSaid_218 rfl hz (ret_i h)

def f_X12_said_L27 (N : Nat) (c3 : Int32) (k7 : Int32 → St → Option (Int32 × St)) : Nat → Int32 → Int32 → St → Option (Int32 × St)
  | 0, _, _, _ => none
  | n10 + 1, v4, v5, s6 =>
    ald (s6.1 208) 359 (nI 0) fun v12 =>
    if v12 ≤ v5 then
      k7 v4 s6
    else
    bd (f_X12_isSaid N v5 s6) fun v13 s14 =>
    jn (fun (v15 : Int32) =>
      vl (v5 + (nI 1)) fun v17 =>
      f_X12_said_L27 N c3 k7 n10 v15 v17 s14) fun j16 =>
    if v13 = 0 then
      j16 v4
    else
    if v4 = c3 then
      some (v5, s14)
    else
    vl (v4 + (nI 1)) fun v18 =>
    j16 v18

def f_X12_said (N : Nat) (x1 : Int32) (s0 : St) : Option (Int32 × St) :=
  vl (sI s0 206 0 (nI 0)) fun s1 =>
  ald (s1.1 208) 359 (nI 178) fun v2 =>
  if v2 = 0 then
    some ((-1), s1)
  else
  if (-1) ≤ x1 then
    f_X12_said_L27 N x1 (fun (v19 : Int32) (s20 : St) =>
      if x1 = (-1) then
        some (v19, s20)
      else
      some ((-1), s20)) N (nI 0) (nI 0) s1
  else
  some ((-1), s1)

theorem qX12_said_0 : Dc mX12_said 0 (.aload_n 0) 1 1 := ⟨by decide +kernel, rfl⟩
theorem qX12_said_1 : Dc mX12_said 1 (.iconst 0) 1 2 := ⟨by decide +kernel, rfl⟩
theorem qX12_said_2 : Dc mX12_said 2 (.putfield 1) 3 5 := ⟨by decide +kernel, rfl⟩
theorem qX12_said_5 : Dc mX12_said 5 (.aload_n 0) 1 6 := ⟨by decide +kernel, rfl⟩
theorem qX12_said_6 : Dc mX12_said 6 (.getfield 33) 3 9 := ⟨by decide +kernel, rfl⟩
theorem qX12_said_9 : Dc mX12_said 9 (.sipush 178) 3 12 := ⟨by decide +kernel, rfl⟩
theorem qX12_said_12 : Dc mX12_said 12 (.iaload) 1 13 := ⟨by decide +kernel, rfl⟩
theorem qX12_said_13 : Dc mX12_said 13 (.ifCond .eq 8) 3 16 := ⟨by decide +kernel, rfl⟩
theorem qX12_said_16 : Dc mX12_said 16 (.iload_n 1) 1 17 := ⟨by decide +kernel, rfl⟩
theorem qX12_said_17 : Dc mX12_said 17 (.iconst (-1)) 1 18 := ⟨by decide +kernel, rfl⟩
theorem qX12_said_18 : Dc mX12_said 18 (.if_icmp .ge 5) 3 21 := ⟨by decide +kernel, rfl⟩
theorem qX12_said_21 : Dc mX12_said 21 (.iconst (-1)) 1 22 := ⟨by decide +kernel, rfl⟩
theorem qX12_said_22 : Dc mX12_said 22 (.ireturn) 1 23 := ⟨by decide +kernel, rfl⟩
theorem qX12_said_23 : Dc mX12_said 23 (.iconst 0) 1 24 := ⟨by decide +kernel, rfl⟩
theorem qX12_said_24 : Dc mX12_said 24 (.istore_n 2) 1 25 := ⟨by decide +kernel, rfl⟩
theorem qX12_said_25 : Dc mX12_said 25 (.iconst 0) 1 26 := ⟨by decide +kernel, rfl⟩
theorem qX12_said_26 : Dc mX12_said 26 (.istore_n 3) 1 27 := ⟨by decide +kernel, rfl⟩
theorem qX12_said_27 : Dc mX12_said 27 (.iload_n 3) 1 28 := ⟨by decide +kernel, rfl⟩
theorem qX12_said_28 : Dc mX12_said 28 (.aload_n 0) 1 29 := ⟨by decide +kernel, rfl⟩
theorem qX12_said_29 : Dc mX12_said 29 (.getfield 33) 3 32 := ⟨by decide +kernel, rfl⟩
theorem qX12_said_32 : Dc mX12_said 32 (.iconst 0) 1 33 := ⟨by decide +kernel, rfl⟩
theorem qX12_said_33 : Dc mX12_said 33 (.iaload) 1 34 := ⟨by decide +kernel, rfl⟩
theorem qX12_said_34 : Dc mX12_said 34 (.if_icmp .ge 30) 3 37 := ⟨by decide +kernel, rfl⟩
theorem qX12_said_37 : Dc mX12_said 37 (.aload_n 0) 1 38 := ⟨by decide +kernel, rfl⟩
theorem qX12_said_38 : Dc mX12_said 38 (.iload_n 3) 1 39 := ⟨by decide +kernel, rfl⟩
theorem qX12_said_39 : Dc mX12_said 39 (.invokevirtual 485) 3 42 := ⟨by decide +kernel, rfl⟩
theorem qX12_said_42 : Dc mX12_said 42 (.ifCond .ne 6) 3 45 := ⟨by decide +kernel, rfl⟩
theorem qX12_said_45 : Dc mX12_said 45 (.goto 13) 3 48 := ⟨by decide +kernel, rfl⟩
theorem qX12_said_48 : Dc mX12_said 48 (.iload_n 2) 1 49 := ⟨by decide +kernel, rfl⟩
theorem qX12_said_49 : Dc mX12_said 49 (.iload_n 1) 1 50 := ⟨by decide +kernel, rfl⟩
theorem qX12_said_50 : Dc mX12_said 50 (.if_icmp .ne 5) 3 53 := ⟨by decide +kernel, rfl⟩
theorem qX12_said_53 : Dc mX12_said 53 (.iload_n 3) 1 54 := ⟨by decide +kernel, rfl⟩
theorem qX12_said_54 : Dc mX12_said 54 (.ireturn) 1 55 := ⟨by decide +kernel, rfl⟩
theorem qX12_said_55 : Dc mX12_said 55 (.iinc 2 1) 3 58 := ⟨by decide +kernel, rfl⟩
theorem qX12_said_58 : Dc mX12_said 58 (.iinc 3 1) 3 61 := ⟨by decide +kernel, rfl⟩
theorem qX12_said_61 : Dc mX12_said 61 (.goto (-34)) 3 64 := ⟨by decide +kernel, rfl⟩
theorem qX12_said_64 : Dc mX12_said 64 (.iload_n 1) 1 65 := ⟨by decide +kernel, rfl⟩
theorem qX12_said_65 : Dc mX12_said 65 (.iconst (-1)) 1 66 := ⟨by decide +kernel, rfl⟩
theorem qX12_said_66 : Dc mX12_said 66 (.if_icmp .ne 7) 3 69 := ⟨by decide +kernel, rfl⟩
theorem qX12_said_69 : Dc mX12_said 69 (.iload_n 2) 1 70 := ⟨by decide +kernel, rfl⟩
theorem qX12_said_70 : Dc mX12_said 70 (.goto 4) 3 73 := ⟨by decide +kernel, rfl⟩
theorem qX12_said_73 : Dc mX12_said 73 (.iconst (-1)) 1 74 := ⟨by decide +kernel, rfl⟩
theorem qX12_said_74 : Dc mX12_said 74 (.ireturn) 1 75 := ⟨by decide +kernel, rfl⟩

set_option maxRecDepth 20000 in
set_option maxHeartbeats 4000000 in
theorem w_X12_said_L27 {N : Nat} {c3 : Int32} {k7 : Int32 → St → Option (Int32 × St)} {r : Int32} {sr : St}  (hk7 : ∀ (v8 : Int32) (s9 : St), k7 v8 s9 = some (r, sr) → E mX12_said 7 (some (.int r), sr) 64 [none, some (.int c3), some (.int v8), none] [] s9) : ∀ (n10 : Nat) (v4 : Int32) (v5 : Int32) (s6 : St), f_X12_said_L27 N c3 k7 n10 v4 v5 s6 = some (r, sr) → E mX12_said 7 (some (.int r), sr) 27 [some (.ref 206), some (.int c3), some (.int v4), some (.int v5)] [] s6 := by
  intro n10
  induction n10 with
  | zero =>
    intro v4 v5 s6 h
    rw [f_X12_said_L27] at h; cases h
  | succ n10 ih11 =>
    intro v4 v5 s6 h
    rw [f_X12_said_L27] at h
    refine e_iload_n qX12_said_27 rfl ?_
    refine e_aload_n qX12_said_28 rfl ?_
    refine e_getr 208 qX12_said_29 fl_X12_33 shq_206 kdq_11_6 rrq_206_6 ?_
    refine e_iconst (nI 0) qX12_said_32 rfl ?_
    refine e_iald qX12_said_33 shq_208 lnq_208 h (fun v12 h => ?_)
    refine e_icmp_ge (tgt := 64) qX12_said_34 rfl h (fun _ h => ?_) (fun _ h => ?_)
    · exact e_weak (hk7 _ _ h) ⟨Or.inl rfl, Or.inr rfl, Or.inr rfl, Or.inl rfl, trivial⟩
    refine e_aload_n qX12_said_37 rfl ?_
    refine e_iload_n qX12_said_38 rfl ?_
    obtain ⟨v13, s14, hc, h⟩ := bd_e h
    refine e_cVi1 qX12_said_39 mv_X12_485 shq_206 rfl rfl (w_X12_isSaid hc) ?_
    refine jn_e (fun j => ∀ (v15 : Int32), j v15 = some (r, sr) → E mX12_said 7 (some (.int r), sr) 58 [some (.ref 206), some (.int c3), some (.int v15), some (.int v5)] [] s14) h ?_ (fun j16 hj16 h => ?_)
    · intro v15 h
      refine vl_e h (fun h => ?_)
      obtain ⟨v17, ev17⟩ : ∃ y, v5 + (nI 1) = y := ⟨_, rfl⟩
      rw [ev17] at h
      refine e_iinc (nI 1) v17 (lv2 := [some (.ref 206), some (.int c3), some (.int v15), some (.int v17)]) qX12_said_58 rfl rfl rfl ev17 rfl ?_
      refine e_goto (tgt := 27) qX12_said_61 rfl ?_
      exact e_weak (ih11 _ _ _ h) ⟨Or.inr rfl, Or.inr rfl, Or.inr rfl, Or.inr rfl, trivial⟩
    refine e_if_ne (tgt := 48) qX12_said_42 rfl h (fun _ h => ?_) (fun _ h => ?_)
    · refine e_goto (tgt := 58) qX12_said_45 rfl ?_
      exact e_weak (hj16 _ h) ⟨Or.inr rfl, Or.inr rfl, Or.inr rfl, Or.inr rfl, trivial⟩
    refine e_iload_n qX12_said_48 rfl ?_
    refine e_iload_n qX12_said_49 rfl ?_
    refine e_icmp_ne (tgt := 55) qX12_said_50 rfl h (fun _ h => ?_) (fun _ h => ?_)
    · refine e_iload_n qX12_said_53 rfl ?_
      exact e_iret qX12_said_54 rfl (ret_i h)
    refine vl_e h (fun h => ?_)
    obtain ⟨v18, ev18⟩ : ∃ y, v4 + (nI 1) = y := ⟨_, rfl⟩
    rw [ev18] at h
    refine e_iinc (nI 1) v18 (lv2 := [some (.ref 206), some (.int c3), some (.int v18), some (.int v5)]) qX12_said_55 rfl rfl rfl ev18 rfl ?_
    exact e_weak (hj16 _ h) ⟨Or.inr rfl, Or.inr rfl, Or.inr rfl, Or.inr rfl, trivial⟩

set_option maxRecDepth 20000 in
set_option maxHeartbeats 4000000 in
theorem w_X12_said {N : Nat} {x1 : Int32} {s0 : St} {r : Int32} {sr : St} (h : f_X12_said N x1 s0 = some (r, sr)) : Ct mX12_said 7 [.ref 206, .int x1] s0 (some (.int r), sr) := by
  refine Ct.ofE (by decide +kernel) rfl ?_
  show E mX12_said 7 (some (.int r), sr) 0 [some (.ref 206), some (.int x1), none, none] [] s0
  unfold f_X12_said at h
  refine e_aload_n qX12_said_0 rfl ?_
  refine e_iconst (nI 0) qX12_said_1 rfl ?_
  refine e_puti qX12_said_2 fp_X12_1 shq_206 kdq_11_0 h (fun s1 h => ?_)
  refine e_aload_n qX12_said_5 rfl ?_
  refine e_getr 208 qX12_said_6 fl_X12_33 shq_206 kdq_11_6 rrq_206_6 ?_
  refine e_sipush (nI 178) qX12_said_9 rfl ?_
  refine e_iald qX12_said_12 shq_208 lnq_208 h (fun v2 h => ?_)
  refine e_if_eq (tgt := 21) qX12_said_13 rfl h (fun _ h => ?_) (fun _ h => ?_)
  · refine e_iconst (-1) qX12_said_21 rfl ?_
    exact e_iret qX12_said_22 rfl (ret_i h)
  refine e_iload_n qX12_said_16 rfl ?_
  refine e_iconst (-1) qX12_said_17 rfl ?_
  refine e_icmp_ge (tgt := 23) qX12_said_18 rfl h (fun _ h => ?_) (fun _ h => ?_)
  · refine e_iconst (nI 0) qX12_said_23 rfl ?_
    refine e_istore_n (lv2 := [some (.ref 206), some (.int x1), some (.int (nI 0)), none]) qX12_said_24 rfl rfl rfl ?_
    refine e_iconst (nI 0) qX12_said_25 rfl ?_
    refine e_istore_n (lv2 := [some (.ref 206), some (.int x1), some (.int (nI 0)), some (.int (nI 0))]) qX12_said_26 rfl rfl rfl ?_
    refine e_weak (w_X12_said_L27 (fun v19 s20 h => ?_) _ _ _ _ h) ⟨Or.inr rfl, Or.inr rfl, Or.inr rfl, Or.inr rfl, trivial⟩
    refine e_iload_n qX12_said_64 rfl ?_
    refine e_iconst (-1) qX12_said_65 rfl ?_
    refine e_icmp_ne (tgt := 73) qX12_said_66 rfl h (fun _ h => ?_) (fun _ h => ?_)
    · refine e_iload_n qX12_said_69 rfl ?_
      refine e_goto (tgt := 74) qX12_said_70 rfl ?_
      exact e_iret qX12_said_74 rfl (ret_i h)
    refine e_iconst (-1) qX12_said_73 rfl ?_
    exact e_iret qX12_said_74 rfl (ret_i h)
  refine e_iconst (-1) qX12_said_21 rfl ?_
  exact e_iret qX12_said_22 rfl (ret_i h)

def f_X12_image_L18 (N : Nat) (c3 : Int32) (k6 : St → Option (Int32 × St)) : Nat → Int32 → St → Option (Int32 × St)
  | 0, _, _ => none
  | n8 + 1, v4, s5 =>
    if (nI 359) ≤ v4 then
      k6 s5
    else
    ald (s5.1 208) 359 v4 fun v10 =>
    ald (fun j => sI s5 222 j v10) 718 (((nI 359) * c3) + v4) fun s11 =>
    vl (v4 + (nI 1)) fun v12 =>
    f_X12_image_L18 N c3 k6 n8 v12 s11

def f_X12_image_L51 (N : Nat) (c14 : Int32) (k17 : St → Option (Int32 × St)) : Nat → Int32 → St → Option (Int32 × St)
  | 0, _, _ => none
  | n19 + 1, v15, s16 =>
    if (nI 12) ≤ v15 then
      k17 s16
    else
    ald (s16.2 211) 24 v15 fun v21 =>
    ald (fun j => sL s16 223 j v21) 24 (((nI 12) * c14) + v15) fun s22 =>
    vl (v15 + (nI 1)) fun v23 =>
    f_X12_image_L51 N c14 k17 n19 v23 s22

def f_X12_image (N : Nat) (x1 : Int32) (s0 : St) : Option (Int32 × St) :=
  vl (sI s0 206 0 (nI 0)) fun s1 =>
  bp (f_X12_isIn x1 (nI 0) (nI 1) s1) fun v2 =>
  if v2 = 0 then
    some ((nI 0), s1)
  else
  f_X12_image_L18 N x1 (fun (s13 : St) =>
    f_X12_image_L51 N x1 (fun (s24 : St) =>
      ald (fun j => sI s24 224 j ((nI 1) &&& 1)) 2 x1 fun s25 =>
      some ((nI 1), s25)) N (nI 0) s13) N (nI 0) s1

theorem qX12_image_0 : Dc mX12_image 0 (.aload_n 0) 1 1 := ⟨by decide +kernel, rfl⟩
theorem qX12_image_1 : Dc mX12_image 1 (.iconst 0) 1 2 := ⟨by decide +kernel, rfl⟩
theorem qX12_image_2 : Dc mX12_image 2 (.putfield 1) 3 5 := ⟨by decide +kernel, rfl⟩
theorem qX12_image_5 : Dc mX12_image 5 (.iload_n 1) 1 6 := ⟨by decide +kernel, rfl⟩
theorem qX12_image_6 : Dc mX12_image 6 (.iconst 0) 1 7 := ⟨by decide +kernel, rfl⟩
theorem qX12_image_7 : Dc mX12_image 7 (.iconst 1) 1 8 := ⟨by decide +kernel, rfl⟩
theorem qX12_image_8 : Dc mX12_image 8 (.invokestatic 186) 3 11 := ⟨by decide +kernel, rfl⟩
theorem qX12_image_11 : Dc mX12_image 11 (.ifCond .ne 5) 3 14 := ⟨by decide +kernel, rfl⟩
theorem qX12_image_14 : Dc mX12_image 14 (.iconst 0) 1 15 := ⟨by decide +kernel, rfl⟩
theorem qX12_image_15 : Dc mX12_image 15 (.ireturn) 1 16 := ⟨by decide +kernel, rfl⟩
theorem qX12_image_16 : Dc mX12_image 16 (.iconst 0) 1 17 := ⟨by decide +kernel, rfl⟩
theorem qX12_image_17 : Dc mX12_image 17 (.istore_n 2) 1 18 := ⟨by decide +kernel, rfl⟩
theorem qX12_image_18 : Dc mX12_image 18 (.iload_n 2) 1 19 := ⟨by decide +kernel, rfl⟩
theorem qX12_image_19 : Dc mX12_image 19 (.sipush 359) 3 22 := ⟨by decide +kernel, rfl⟩
theorem qX12_image_22 : Dc mX12_image 22 (.if_icmp .ge 27) 3 25 := ⟨by decide +kernel, rfl⟩
theorem qX12_image_25 : Dc mX12_image 25 (.aload_n 0) 1 26 := ⟨by decide +kernel, rfl⟩
theorem qX12_image_26 : Dc mX12_image 26 (.getfield 78) 3 29 := ⟨by decide +kernel, rfl⟩
theorem qX12_image_29 : Dc mX12_image 29 (.sipush 359) 3 32 := ⟨by decide +kernel, rfl⟩
theorem qX12_image_32 : Dc mX12_image 32 (.iload_n 1) 1 33 := ⟨by decide +kernel, rfl⟩
theorem qX12_image_33 : Dc mX12_image 33 (.imul) 1 34 := ⟨by decide +kernel, rfl⟩
theorem qX12_image_34 : Dc mX12_image 34 (.iload_n 2) 1 35 := ⟨by decide +kernel, rfl⟩
theorem qX12_image_35 : Dc mX12_image 35 (.iadd) 1 36 := ⟨by decide +kernel, rfl⟩
theorem qX12_image_36 : Dc mX12_image 36 (.aload_n 0) 1 37 := ⟨by decide +kernel, rfl⟩
theorem qX12_image_37 : Dc mX12_image 37 (.getfield 33) 3 40 := ⟨by decide +kernel, rfl⟩
theorem qX12_image_40 : Dc mX12_image 40 (.iload_n 2) 1 41 := ⟨by decide +kernel, rfl⟩
theorem qX12_image_41 : Dc mX12_image 41 (.iaload) 1 42 := ⟨by decide +kernel, rfl⟩
theorem qX12_image_42 : Dc mX12_image 42 (.iastore) 1 43 := ⟨by decide +kernel, rfl⟩
theorem qX12_image_43 : Dc mX12_image 43 (.iinc 2 1) 3 46 := ⟨by decide +kernel, rfl⟩
theorem qX12_image_46 : Dc mX12_image 46 (.goto (-28)) 3 49 := ⟨by decide +kernel, rfl⟩
theorem qX12_image_49 : Dc mX12_image 49 (.iconst 0) 1 50 := ⟨by decide +kernel, rfl⟩
theorem qX12_image_50 : Dc mX12_image 50 (.istore_n 2) 1 51 := ⟨by decide +kernel, rfl⟩
theorem qX12_image_51 : Dc mX12_image 51 (.iload_n 2) 1 52 := ⟨by decide +kernel, rfl⟩
theorem qX12_image_52 : Dc mX12_image 52 (.bipush 12) 2 54 := ⟨by decide +kernel, rfl⟩
theorem qX12_image_54 : Dc mX12_image 54 (.if_icmp .ge 26) 3 57 := ⟨by decide +kernel, rfl⟩
theorem qX12_image_57 : Dc mX12_image 57 (.aload_n 0) 1 58 := ⟨by decide +kernel, rfl⟩
theorem qX12_image_58 : Dc mX12_image 58 (.getfield 81) 3 61 := ⟨by decide +kernel, rfl⟩
theorem qX12_image_61 : Dc mX12_image 61 (.bipush 12) 2 63 := ⟨by decide +kernel, rfl⟩
theorem qX12_image_63 : Dc mX12_image 63 (.iload_n 1) 1 64 := ⟨by decide +kernel, rfl⟩
theorem qX12_image_64 : Dc mX12_image 64 (.imul) 1 65 := ⟨by decide +kernel, rfl⟩
theorem qX12_image_65 : Dc mX12_image 65 (.iload_n 2) 1 66 := ⟨by decide +kernel, rfl⟩
theorem qX12_image_66 : Dc mX12_image 66 (.iadd) 1 67 := ⟨by decide +kernel, rfl⟩
theorem qX12_image_67 : Dc mX12_image 67 (.aload_n 0) 1 68 := ⟨by decide +kernel, rfl⟩
theorem qX12_image_68 : Dc mX12_image 68 (.getfield 43) 3 71 := ⟨by decide +kernel, rfl⟩
theorem qX12_image_71 : Dc mX12_image 71 (.iload_n 2) 1 72 := ⟨by decide +kernel, rfl⟩
theorem qX12_image_72 : Dc mX12_image 72 (.laload) 1 73 := ⟨by decide +kernel, rfl⟩
theorem qX12_image_73 : Dc mX12_image 73 (.lastore) 1 74 := ⟨by decide +kernel, rfl⟩
theorem qX12_image_74 : Dc mX12_image 74 (.iinc 2 1) 3 77 := ⟨by decide +kernel, rfl⟩
theorem qX12_image_77 : Dc mX12_image 77 (.goto (-26)) 3 80 := ⟨by decide +kernel, rfl⟩
theorem qX12_image_80 : Dc mX12_image 80 (.aload_n 0) 1 81 := ⟨by decide +kernel, rfl⟩
theorem qX12_image_81 : Dc mX12_image 81 (.getfield 84) 3 84 := ⟨by decide +kernel, rfl⟩
theorem qX12_image_84 : Dc mX12_image 84 (.iload_n 1) 1 85 := ⟨by decide +kernel, rfl⟩
theorem qX12_image_85 : Dc mX12_image 85 (.iconst 1) 1 86 := ⟨by decide +kernel, rfl⟩
theorem qX12_image_86 : Dc mX12_image 86 (.bastore) 1 87 := ⟨by decide +kernel, rfl⟩
theorem qX12_image_87 : Dc mX12_image 87 (.iconst 1) 1 88 := ⟨by decide +kernel, rfl⟩
theorem qX12_image_88 : Dc mX12_image 88 (.ireturn) 1 89 := ⟨by decide +kernel, rfl⟩

set_option maxRecDepth 20000 in
set_option maxHeartbeats 4000000 in
theorem w_X12_image_L18 {N : Nat} {c3 : Int32} {k6 : St → Option (Int32 × St)} {r : Int32} {sr : St}  (hk6 : ∀ (s7 : St), k6 s7 = some (r, sr) → E mX12_image 1 (some (.int r), sr) 49 [some (.ref 206), some (.int c3), none] [] s7) : ∀ (n8 : Nat) (v4 : Int32) (s5 : St), f_X12_image_L18 N c3 k6 n8 v4 s5 = some (r, sr) → E mX12_image 1 (some (.int r), sr) 18 [some (.ref 206), some (.int c3), some (.int v4)] [] s5 := by
  intro n8
  induction n8 with
  | zero =>
    intro v4 s5 h
    rw [f_X12_image_L18] at h; cases h
  | succ n8 ih9 =>
    intro v4 s5 h
    rw [f_X12_image_L18] at h
    refine e_iload_n qX12_image_18 rfl ?_
    refine e_sipush (nI 359) qX12_image_19 rfl ?_
    refine e_icmp_ge (tgt := 49) qX12_image_22 rfl h (fun _ h => ?_) (fun _ h => ?_)
    · exact e_weak (hk6 _ h) ⟨Or.inr rfl, Or.inr rfl, Or.inl rfl, trivial⟩
    refine e_aload_n qX12_image_25 rfl ?_
    refine e_getr 222 qX12_image_26 fl_X12_78 shq_206 kdq_11_50 rrq_206_50 ?_
    refine e_sipush (nI 359) qX12_image_29 rfl ?_
    refine e_iload_n qX12_image_32 rfl ?_
    refine e_imul qX12_image_33 ?_
    refine e_iload_n qX12_image_34 rfl ?_
    refine e_iadd qX12_image_35 ?_
    refine e_aload_n qX12_image_36 rfl ?_
    refine e_getr 208 qX12_image_37 fl_X12_33 shq_206 kdq_11_6 rrq_206_6 ?_
    refine e_iload_n qX12_image_40 rfl ?_
    refine e_iald qX12_image_41 shq_208 lnq_208 h (fun v10 h => ?_)
    refine e_iast qX12_image_42 shq_222 lnq_222 h (fun s11 h => ?_)
    refine vl_e h (fun h => ?_)
    obtain ⟨v12, ev12⟩ : ∃ y, v4 + (nI 1) = y := ⟨_, rfl⟩
    rw [ev12] at h
    refine e_iinc (nI 1) v12 (lv2 := [some (.ref 206), some (.int c3), some (.int v12)]) qX12_image_43 rfl rfl rfl ev12 rfl ?_
    refine e_goto (tgt := 18) qX12_image_46 rfl ?_
    exact e_weak (ih9 _ _ h) ⟨Or.inr rfl, Or.inr rfl, Or.inr rfl, trivial⟩

set_option maxRecDepth 20000 in
set_option maxHeartbeats 4000000 in
theorem w_X12_image_L51 {N : Nat} {c14 : Int32} {k17 : St → Option (Int32 × St)} {r : Int32} {sr : St}  (hk17 : ∀ (s18 : St), k17 s18 = some (r, sr) → E mX12_image 1 (some (.int r), sr) 80 [some (.ref 206), some (.int c14), none] [] s18) : ∀ (n19 : Nat) (v15 : Int32) (s16 : St), f_X12_image_L51 N c14 k17 n19 v15 s16 = some (r, sr) → E mX12_image 1 (some (.int r), sr) 51 [some (.ref 206), some (.int c14), some (.int v15)] [] s16 := by
  intro n19
  induction n19 with
  | zero =>
    intro v15 s16 h
    rw [f_X12_image_L51] at h; cases h
  | succ n19 ih20 =>
    intro v15 s16 h
    rw [f_X12_image_L51] at h
    refine e_iload_n qX12_image_51 rfl ?_
    refine e_bipush (nI 12) qX12_image_52 rfl ?_
    refine e_icmp_ge (tgt := 80) qX12_image_54 rfl h (fun _ h => ?_) (fun _ h => ?_)
    · exact e_weak (hk17 _ h) ⟨Or.inr rfl, Or.inr rfl, Or.inl rfl, trivial⟩
    refine e_aload_n qX12_image_57 rfl ?_
    refine e_getr 223 qX12_image_58 fl_X12_81 shq_206 kdq_11_51 rrq_206_51 ?_
    refine e_bipush (nI 12) qX12_image_61 rfl ?_
    refine e_iload_n qX12_image_63 rfl ?_
    refine e_imul qX12_image_64 ?_
    refine e_iload_n qX12_image_65 rfl ?_
    refine e_iadd qX12_image_66 ?_
    refine e_aload_n qX12_image_67 rfl ?_
    refine e_getr 211 qX12_image_68 fl_X12_43 shq_206 kdq_11_9 rrq_206_9 ?_
    refine e_iload_n qX12_image_71 rfl ?_
    refine e_lald qX12_image_72 shq_211 lnq_211 h (fun v21 h => ?_)
    refine e_last qX12_image_73 shq_223 lnq_223 h (fun s22 h => ?_)
    refine vl_e h (fun h => ?_)
    obtain ⟨v23, ev23⟩ : ∃ y, v15 + (nI 1) = y := ⟨_, rfl⟩
    rw [ev23] at h
    refine e_iinc (nI 1) v23 (lv2 := [some (.ref 206), some (.int c14), some (.int v23)]) qX12_image_74 rfl rfl rfl ev23 rfl ?_
    refine e_goto (tgt := 51) qX12_image_77 rfl ?_
    exact e_weak (ih20 _ _ h) ⟨Or.inr rfl, Or.inr rfl, Or.inr rfl, trivial⟩

set_option maxRecDepth 20000 in
set_option maxHeartbeats 4000000 in
theorem w_X12_image {N : Nat} {x1 : Int32} {s0 : St} {r : Int32} {sr : St} (h : f_X12_image N x1 s0 = some (r, sr)) : Ct mX12_image 1 [.ref 206, .int x1] s0 (some (.int r), sr) := by
  refine Ct.ofE (by decide +kernel) rfl ?_
  show E mX12_image 1 (some (.int r), sr) 0 [some (.ref 206), some (.int x1), none] [] s0
  unfold f_X12_image at h
  refine e_aload_n qX12_image_0 rfl ?_
  refine e_iconst (nI 0) qX12_image_1 rfl ?_
  refine e_puti qX12_image_2 fp_X12_1 shq_206 kdq_11_0 h (fun s1 h => ?_)
  refine e_iload_n qX12_image_5 rfl ?_
  refine e_iconst (nI 0) qX12_image_6 rfl ?_
  refine e_iconst (nI 1) qX12_image_7 rfl ?_
  obtain ⟨v2, hc, h⟩ := bp_e h
  refine e_cSi3 qX12_image_8 ms_X12_186 rfl rfl (w_X12_isIn hc) ?_
  refine e_if_ne (tgt := 16) qX12_image_11 rfl h (fun _ h => ?_) (fun _ h => ?_)
  · refine e_iconst (nI 0) qX12_image_14 rfl ?_
    exact e_zret qX12_image_15 rfl (by decide) (ret_i h)
  refine e_iconst (nI 0) qX12_image_16 rfl ?_
  refine e_istore_n (lv2 := [some (.ref 206), some (.int x1), some (.int (nI 0))]) qX12_image_17 rfl rfl rfl ?_
  refine e_weak (w_X12_image_L18 (fun s13 h => ?_) _ _ _ h) ⟨Or.inr rfl, Or.inr rfl, Or.inr rfl, trivial⟩
  refine e_iconst (nI 0) qX12_image_49 rfl ?_
  refine e_istore_n (lv2 := [some (.ref 206), some (.int x1), some (.int (nI 0))]) qX12_image_50 rfl rfl rfl ?_
  refine e_weak (w_X12_image_L51 (fun s24 h => ?_) _ _ _ h) ⟨Or.inr rfl, Or.inr rfl, Or.inr rfl, trivial⟩
  refine e_aload_n qX12_image_80 rfl ?_
  refine e_getr 224 qX12_image_81 fl_X12_84 shq_206 kdq_11_52 rrq_206_52 ?_
  refine e_iload_n qX12_image_84 rfl ?_
  refine e_iconst (nI 1) qX12_image_85 rfl ?_
  refine e_zast qX12_image_86 shq_224 lnq_224 h (fun s25 h => ?_)
  refine e_iconst (nI 1) qX12_image_87 rfl ?_
  exact e_zret qX12_image_88 rfl (by decide) (ret_i h)

def f_X12_restore_L27 (N : Nat) (c4 : Int32) (k7 : St → Option (Int32 × St)) : Nat → Int32 → St → Option (Int32 × St)
  | 0, _, _ => none
  | n9 + 1, v5, s6 =>
    if (nI 359) ≤ v5 then
      k7 s6
    else
    ald (s6.1 222) 718 (((nI 359) * c4) + v5) fun v11 =>
    ald (fun j => sI s6 208 j v11) 359 v5 fun s12 =>
    vl (v5 + (nI 1)) fun v13 =>
    f_X12_restore_L27 N c4 k7 n9 v13 s12

def f_X12_restore_L60 (N : Nat) (c15 : Int32) (k18 : St → Option (Int32 × St)) : Nat → Int32 → St → Option (Int32 × St)
  | 0, _, _ => none
  | n20 + 1, v16, s17 =>
    if (nI 12) ≤ v16 then
      k18 s17
    else
    ald (s17.2 223) 24 (((nI 12) * c15) + v16) fun v22 =>
    ald (fun j => sL s17 211 j v22) 24 v16 fun s23 =>
    vl (v16 + (nI 1)) fun v24 =>
    f_X12_restore_L60 N c15 k18 n20 v24 s23

def f_X12_restore (N : Nat) (x1 : Int32) (s0 : St) : Option (Int32 × St) :=
  vl (sI s0 206 0 (nI 0)) fun s1 =>
  bp (f_X12_isIn x1 (nI 0) (nI 1) s1) fun v2 =>
  if v2 = 0 then
    some ((nI 0), s1)
  else
  ald (s1.1 224) 2 x1 fun v3 =>
  if v3 = 0 then
    some ((nI 0), s1)
  else
  f_X12_restore_L27 N x1 (fun (s14 : St) =>
    f_X12_restore_L60 N x1 (fun (s25 : St) =>
      vl (sI s25 206 24 (nI 0)) fun s26 =>
      some ((nI 1), s26)) N (nI 0) s14) N (nI 0) s1

theorem qX12_restore_0 : Dc mX12_restore 0 (.aload_n 0) 1 1 := ⟨by decide +kernel, rfl⟩
theorem qX12_restore_1 : Dc mX12_restore 1 (.iconst 0) 1 2 := ⟨by decide +kernel, rfl⟩
theorem qX12_restore_2 : Dc mX12_restore 2 (.putfield 1) 3 5 := ⟨by decide +kernel, rfl⟩
theorem qX12_restore_5 : Dc mX12_restore 5 (.iload_n 1) 1 6 := ⟨by decide +kernel, rfl⟩
theorem qX12_restore_6 : Dc mX12_restore 6 (.iconst 0) 1 7 := ⟨by decide +kernel, rfl⟩
theorem qX12_restore_7 : Dc mX12_restore 7 (.iconst 1) 1 8 := ⟨by decide +kernel, rfl⟩
theorem qX12_restore_8 : Dc mX12_restore 8 (.invokestatic 186) 3 11 := ⟨by decide +kernel, rfl⟩
theorem qX12_restore_11 : Dc mX12_restore 11 (.ifCond .eq 12) 3 14 := ⟨by decide +kernel, rfl⟩
theorem qX12_restore_14 : Dc mX12_restore 14 (.aload_n 0) 1 15 := ⟨by decide +kernel, rfl⟩
theorem qX12_restore_15 : Dc mX12_restore 15 (.getfield 84) 3 18 := ⟨by decide +kernel, rfl⟩
theorem qX12_restore_18 : Dc mX12_restore 18 (.iload_n 1) 1 19 := ⟨by decide +kernel, rfl⟩
theorem qX12_restore_19 : Dc mX12_restore 19 (.baload) 1 20 := ⟨by decide +kernel, rfl⟩
theorem qX12_restore_20 : Dc mX12_restore 20 (.ifCond .ne 5) 3 23 := ⟨by decide +kernel, rfl⟩
theorem qX12_restore_23 : Dc mX12_restore 23 (.iconst 0) 1 24 := ⟨by decide +kernel, rfl⟩
theorem qX12_restore_24 : Dc mX12_restore 24 (.ireturn) 1 25 := ⟨by decide +kernel, rfl⟩
theorem qX12_restore_25 : Dc mX12_restore 25 (.iconst 0) 1 26 := ⟨by decide +kernel, rfl⟩
theorem qX12_restore_26 : Dc mX12_restore 26 (.istore_n 2) 1 27 := ⟨by decide +kernel, rfl⟩
theorem qX12_restore_27 : Dc mX12_restore 27 (.iload_n 2) 1 28 := ⟨by decide +kernel, rfl⟩
theorem qX12_restore_28 : Dc mX12_restore 28 (.sipush 359) 3 31 := ⟨by decide +kernel, rfl⟩
theorem qX12_restore_31 : Dc mX12_restore 31 (.if_icmp .ge 27) 3 34 := ⟨by decide +kernel, rfl⟩
theorem qX12_restore_34 : Dc mX12_restore 34 (.aload_n 0) 1 35 := ⟨by decide +kernel, rfl⟩
theorem qX12_restore_35 : Dc mX12_restore 35 (.getfield 33) 3 38 := ⟨by decide +kernel, rfl⟩
theorem qX12_restore_38 : Dc mX12_restore 38 (.iload_n 2) 1 39 := ⟨by decide +kernel, rfl⟩
theorem qX12_restore_39 : Dc mX12_restore 39 (.aload_n 0) 1 40 := ⟨by decide +kernel, rfl⟩
theorem qX12_restore_40 : Dc mX12_restore 40 (.getfield 78) 3 43 := ⟨by decide +kernel, rfl⟩
theorem qX12_restore_43 : Dc mX12_restore 43 (.sipush 359) 3 46 := ⟨by decide +kernel, rfl⟩
theorem qX12_restore_46 : Dc mX12_restore 46 (.iload_n 1) 1 47 := ⟨by decide +kernel, rfl⟩
theorem qX12_restore_47 : Dc mX12_restore 47 (.imul) 1 48 := ⟨by decide +kernel, rfl⟩
theorem qX12_restore_48 : Dc mX12_restore 48 (.iload_n 2) 1 49 := ⟨by decide +kernel, rfl⟩
theorem qX12_restore_49 : Dc mX12_restore 49 (.iadd) 1 50 := ⟨by decide +kernel, rfl⟩
theorem qX12_restore_50 : Dc mX12_restore 50 (.iaload) 1 51 := ⟨by decide +kernel, rfl⟩
theorem qX12_restore_51 : Dc mX12_restore 51 (.iastore) 1 52 := ⟨by decide +kernel, rfl⟩
theorem qX12_restore_52 : Dc mX12_restore 52 (.iinc 2 1) 3 55 := ⟨by decide +kernel, rfl⟩
theorem qX12_restore_55 : Dc mX12_restore 55 (.goto (-28)) 3 58 := ⟨by decide +kernel, rfl⟩
theorem qX12_restore_58 : Dc mX12_restore 58 (.iconst 0) 1 59 := ⟨by decide +kernel, rfl⟩
theorem qX12_restore_59 : Dc mX12_restore 59 (.istore_n 2) 1 60 := ⟨by decide +kernel, rfl⟩
theorem qX12_restore_60 : Dc mX12_restore 60 (.iload_n 2) 1 61 := ⟨by decide +kernel, rfl⟩
theorem qX12_restore_61 : Dc mX12_restore 61 (.bipush 12) 2 63 := ⟨by decide +kernel, rfl⟩
theorem qX12_restore_63 : Dc mX12_restore 63 (.if_icmp .ge 26) 3 66 := ⟨by decide +kernel, rfl⟩
theorem qX12_restore_66 : Dc mX12_restore 66 (.aload_n 0) 1 67 := ⟨by decide +kernel, rfl⟩
theorem qX12_restore_67 : Dc mX12_restore 67 (.getfield 43) 3 70 := ⟨by decide +kernel, rfl⟩
theorem qX12_restore_70 : Dc mX12_restore 70 (.iload_n 2) 1 71 := ⟨by decide +kernel, rfl⟩
theorem qX12_restore_71 : Dc mX12_restore 71 (.aload_n 0) 1 72 := ⟨by decide +kernel, rfl⟩
theorem qX12_restore_72 : Dc mX12_restore 72 (.getfield 81) 3 75 := ⟨by decide +kernel, rfl⟩
theorem qX12_restore_75 : Dc mX12_restore 75 (.bipush 12) 2 77 := ⟨by decide +kernel, rfl⟩
theorem qX12_restore_77 : Dc mX12_restore 77 (.iload_n 1) 1 78 := ⟨by decide +kernel, rfl⟩
theorem qX12_restore_78 : Dc mX12_restore 78 (.imul) 1 79 := ⟨by decide +kernel, rfl⟩
theorem qX12_restore_79 : Dc mX12_restore 79 (.iload_n 2) 1 80 := ⟨by decide +kernel, rfl⟩
theorem qX12_restore_80 : Dc mX12_restore 80 (.iadd) 1 81 := ⟨by decide +kernel, rfl⟩
theorem qX12_restore_81 : Dc mX12_restore 81 (.laload) 1 82 := ⟨by decide +kernel, rfl⟩
theorem qX12_restore_82 : Dc mX12_restore 82 (.lastore) 1 83 := ⟨by decide +kernel, rfl⟩
theorem qX12_restore_83 : Dc mX12_restore 83 (.iinc 2 1) 3 86 := ⟨by decide +kernel, rfl⟩
theorem qX12_restore_86 : Dc mX12_restore 86 (.goto (-26)) 3 89 := ⟨by decide +kernel, rfl⟩
theorem qX12_restore_89 : Dc mX12_restore 89 (.aload_n 0) 1 90 := ⟨by decide +kernel, rfl⟩
theorem qX12_restore_90 : Dc mX12_restore 90 (.iconst 0) 1 91 := ⟨by decide +kernel, rfl⟩
theorem qX12_restore_91 : Dc mX12_restore 91 (.putfield 258) 3 94 := ⟨by decide +kernel, rfl⟩
theorem qX12_restore_94 : Dc mX12_restore 94 (.iconst 1) 1 95 := ⟨by decide +kernel, rfl⟩
theorem qX12_restore_95 : Dc mX12_restore 95 (.ireturn) 1 96 := ⟨by decide +kernel, rfl⟩

set_option maxRecDepth 20000 in
set_option maxHeartbeats 4000000 in
theorem w_X12_restore_L27 {N : Nat} {c4 : Int32} {k7 : St → Option (Int32 × St)} {r : Int32} {sr : St}  (hk7 : ∀ (s8 : St), k7 s8 = some (r, sr) → E mX12_restore 1 (some (.int r), sr) 58 [some (.ref 206), some (.int c4), none] [] s8) : ∀ (n9 : Nat) (v5 : Int32) (s6 : St), f_X12_restore_L27 N c4 k7 n9 v5 s6 = some (r, sr) → E mX12_restore 1 (some (.int r), sr) 27 [some (.ref 206), some (.int c4), some (.int v5)] [] s6 := by
  intro n9
  induction n9 with
  | zero =>
    intro v5 s6 h
    rw [f_X12_restore_L27] at h; cases h
  | succ n9 ih10 =>
    intro v5 s6 h
    rw [f_X12_restore_L27] at h
    refine e_iload_n qX12_restore_27 rfl ?_
    refine e_sipush (nI 359) qX12_restore_28 rfl ?_
    refine e_icmp_ge (tgt := 58) qX12_restore_31 rfl h (fun _ h => ?_) (fun _ h => ?_)
    · exact e_weak (hk7 _ h) ⟨Or.inr rfl, Or.inr rfl, Or.inl rfl, trivial⟩
    refine e_aload_n qX12_restore_34 rfl ?_
    refine e_getr 208 qX12_restore_35 fl_X12_33 shq_206 kdq_11_6 rrq_206_6 ?_
    refine e_iload_n qX12_restore_38 rfl ?_
    refine e_aload_n qX12_restore_39 rfl ?_
    refine e_getr 222 qX12_restore_40 fl_X12_78 shq_206 kdq_11_50 rrq_206_50 ?_
    refine e_sipush (nI 359) qX12_restore_43 rfl ?_
    refine e_iload_n qX12_restore_46 rfl ?_
    refine e_imul qX12_restore_47 ?_
    refine e_iload_n qX12_restore_48 rfl ?_
    refine e_iadd qX12_restore_49 ?_
    refine e_iald qX12_restore_50 shq_222 lnq_222 h (fun v11 h => ?_)
    refine e_iast qX12_restore_51 shq_208 lnq_208 h (fun s12 h => ?_)
    refine vl_e h (fun h => ?_)
    obtain ⟨v13, ev13⟩ : ∃ y, v5 + (nI 1) = y := ⟨_, rfl⟩
    rw [ev13] at h
    refine e_iinc (nI 1) v13 (lv2 := [some (.ref 206), some (.int c4), some (.int v13)]) qX12_restore_52 rfl rfl rfl ev13 rfl ?_
    refine e_goto (tgt := 27) qX12_restore_55 rfl ?_
    exact e_weak (ih10 _ _ h) ⟨Or.inr rfl, Or.inr rfl, Or.inr rfl, trivial⟩

set_option maxRecDepth 20000 in
set_option maxHeartbeats 4000000 in
theorem w_X12_restore_L60 {N : Nat} {c15 : Int32} {k18 : St → Option (Int32 × St)} {r : Int32} {sr : St}  (hk18 : ∀ (s19 : St), k18 s19 = some (r, sr) → E mX12_restore 1 (some (.int r), sr) 89 [some (.ref 206), none, none] [] s19) : ∀ (n20 : Nat) (v16 : Int32) (s17 : St), f_X12_restore_L60 N c15 k18 n20 v16 s17 = some (r, sr) → E mX12_restore 1 (some (.int r), sr) 60 [some (.ref 206), some (.int c15), some (.int v16)] [] s17 := by
  intro n20
  induction n20 with
  | zero =>
    intro v16 s17 h
    rw [f_X12_restore_L60] at h; cases h
  | succ n20 ih21 =>
    intro v16 s17 h
    rw [f_X12_restore_L60] at h
    refine e_iload_n qX12_restore_60 rfl ?_
    refine e_bipush (nI 12) qX12_restore_61 rfl ?_
    refine e_icmp_ge (tgt := 89) qX12_restore_63 rfl h (fun _ h => ?_) (fun _ h => ?_)
    · exact e_weak (hk18 _ h) ⟨Or.inr rfl, Or.inl rfl, Or.inl rfl, trivial⟩
    refine e_aload_n qX12_restore_66 rfl ?_
    refine e_getr 211 qX12_restore_67 fl_X12_43 shq_206 kdq_11_9 rrq_206_9 ?_
    refine e_iload_n qX12_restore_70 rfl ?_
    refine e_aload_n qX12_restore_71 rfl ?_
    refine e_getr 223 qX12_restore_72 fl_X12_81 shq_206 kdq_11_51 rrq_206_51 ?_
    refine e_bipush (nI 12) qX12_restore_75 rfl ?_
    refine e_iload_n qX12_restore_77 rfl ?_
    refine e_imul qX12_restore_78 ?_
    refine e_iload_n qX12_restore_79 rfl ?_
    refine e_iadd qX12_restore_80 ?_
    refine e_lald qX12_restore_81 shq_223 lnq_223 h (fun v22 h => ?_)
    refine e_last qX12_restore_82 shq_211 lnq_211 h (fun s23 h => ?_)
    refine vl_e h (fun h => ?_)
    obtain ⟨v24, ev24⟩ : ∃ y, v16 + (nI 1) = y := ⟨_, rfl⟩
    rw [ev24] at h
    refine e_iinc (nI 1) v24 (lv2 := [some (.ref 206), some (.int c15), some (.int v24)]) qX12_restore_83 rfl rfl rfl ev24 rfl ?_
    refine e_goto (tgt := 60) qX12_restore_86 rfl ?_
    exact e_weak (ih21 _ _ h) ⟨Or.inr rfl, Or.inr rfl, Or.inr rfl, trivial⟩

set_option maxRecDepth 20000 in
set_option maxHeartbeats 4000000 in
theorem w_X12_restore {N : Nat} {x1 : Int32} {s0 : St} {r : Int32} {sr : St} (h : f_X12_restore N x1 s0 = some (r, sr)) : Ct mX12_restore 1 [.ref 206, .int x1] s0 (some (.int r), sr) := by
  refine Ct.ofE (by decide +kernel) rfl ?_
  show E mX12_restore 1 (some (.int r), sr) 0 [some (.ref 206), some (.int x1), none] [] s0
  unfold f_X12_restore at h
  refine e_aload_n qX12_restore_0 rfl ?_
  refine e_iconst (nI 0) qX12_restore_1 rfl ?_
  refine e_puti qX12_restore_2 fp_X12_1 shq_206 kdq_11_0 h (fun s1 h => ?_)
  refine e_iload_n qX12_restore_5 rfl ?_
  refine e_iconst (nI 0) qX12_restore_6 rfl ?_
  refine e_iconst (nI 1) qX12_restore_7 rfl ?_
  obtain ⟨v2, hc, h⟩ := bp_e h
  refine e_cSi3 qX12_restore_8 ms_X12_186 rfl rfl (w_X12_isIn hc) ?_
  refine e_if_eq (tgt := 23) qX12_restore_11 rfl h (fun _ h => ?_) (fun _ h => ?_)
  · refine e_iconst (nI 0) qX12_restore_23 rfl ?_
    exact e_zret qX12_restore_24 rfl (by decide) (ret_i h)
  refine e_aload_n qX12_restore_14 rfl ?_
  refine e_getr 224 qX12_restore_15 fl_X12_84 shq_206 kdq_11_52 rrq_206_52 ?_
  refine e_iload_n qX12_restore_18 rfl ?_
  refine e_zald qX12_restore_19 shq_224 lnq_224 h (fun v3 h => ?_)
  refine e_if_ne (tgt := 25) qX12_restore_20 rfl h (fun _ h => ?_) (fun _ h => ?_)
  · refine e_iconst (nI 0) qX12_restore_23 rfl ?_
    exact e_zret qX12_restore_24 rfl (by decide) (ret_i h)
  refine e_iconst (nI 0) qX12_restore_25 rfl ?_
  refine e_istore_n (lv2 := [some (.ref 206), some (.int x1), some (.int (nI 0))]) qX12_restore_26 rfl rfl rfl ?_
  refine e_weak (w_X12_restore_L27 (fun s14 h => ?_) _ _ _ h) ⟨Or.inr rfl, Or.inr rfl, Or.inr rfl, trivial⟩
  refine e_iconst (nI 0) qX12_restore_58 rfl ?_
  refine e_istore_n (lv2 := [some (.ref 206), some (.int x1), some (.int (nI 0))]) qX12_restore_59 rfl rfl rfl ?_
  refine e_weak (w_X12_restore_L60 (fun s25 h => ?_) _ _ _ h) ⟨Or.inr rfl, Or.inr rfl, Or.inr rfl, trivial⟩
  refine e_aload_n qX12_restore_89 rfl ?_
  refine e_iconst (nI 0) qX12_restore_90 rfl ?_
  refine e_puti qX12_restore_91 fp_X12_258 shq_206 kdq_11_24 h (fun s26 h => ?_)
  refine e_iconst (nI 1) qX12_restore_94 rfl ?_
  exact e_zret qX12_restore_95 rfl (by decide) (ret_i h)

def f_X12_count (x1 : Int32) (s0 : St) : Option (Int32 × St) :=
  vl (sI s0 206 0 (nI 0)) fun s1 =>
  if x1 = (nI 3) then
    vl (s1.1 206 2) fun v2 =>
    some (v2, s1)
  else
  bp (f_X12_isIn x1 (nI 0) (nI 2) s1) fun v3 =>
  if v3 = 0 then
    some ((-1), s1)
  else
  ald (s1.1 208) 359 x1 fun v4 =>
  some (v4, s1)

theorem qX12_count_0 : Dc mX12_count 0 (.aload_n 0) 1 1 := ⟨by decide +kernel, rfl⟩
theorem qX12_count_1 : Dc mX12_count 1 (.iconst 0) 1 2 := ⟨by decide +kernel, rfl⟩
theorem qX12_count_2 : Dc mX12_count 2 (.putfield 1) 3 5 := ⟨by decide +kernel, rfl⟩
theorem qX12_count_5 : Dc mX12_count 5 (.iload_n 1) 1 6 := ⟨by decide +kernel, rfl⟩
theorem qX12_count_6 : Dc mX12_count 6 (.iconst 3) 1 7 := ⟨by decide +kernel, rfl⟩
theorem qX12_count_7 : Dc mX12_count 7 (.if_icmp .ne 10) 3 10 := ⟨by decide +kernel, rfl⟩
theorem qX12_count_10 : Dc mX12_count 10 (.aload_n 0) 1 11 := ⟨by decide +kernel, rfl⟩
theorem qX12_count_11 : Dc mX12_count 11 (.getfield 7) 3 14 := ⟨by decide +kernel, rfl⟩
theorem qX12_count_14 : Dc mX12_count 14 (.goto 22) 3 17 := ⟨by decide +kernel, rfl⟩
theorem qX12_count_17 : Dc mX12_count 17 (.iload_n 1) 1 18 := ⟨by decide +kernel, rfl⟩
theorem qX12_count_18 : Dc mX12_count 18 (.iconst 0) 1 19 := ⟨by decide +kernel, rfl⟩
theorem qX12_count_19 : Dc mX12_count 19 (.iconst 2) 1 20 := ⟨by decide +kernel, rfl⟩
theorem qX12_count_20 : Dc mX12_count 20 (.invokestatic 186) 3 23 := ⟨by decide +kernel, rfl⟩
theorem qX12_count_23 : Dc mX12_count 23 (.ifCond .eq 12) 3 26 := ⟨by decide +kernel, rfl⟩
theorem qX12_count_26 : Dc mX12_count 26 (.aload_n 0) 1 27 := ⟨by decide +kernel, rfl⟩
theorem qX12_count_27 : Dc mX12_count 27 (.getfield 33) 3 30 := ⟨by decide +kernel, rfl⟩
theorem qX12_count_30 : Dc mX12_count 30 (.iload_n 1) 1 31 := ⟨by decide +kernel, rfl⟩
theorem qX12_count_31 : Dc mX12_count 31 (.iaload) 1 32 := ⟨by decide +kernel, rfl⟩
theorem qX12_count_32 : Dc mX12_count 32 (.goto 4) 3 35 := ⟨by decide +kernel, rfl⟩
theorem qX12_count_35 : Dc mX12_count 35 (.iconst (-1)) 1 36 := ⟨by decide +kernel, rfl⟩
theorem qX12_count_36 : Dc mX12_count 36 (.ireturn) 1 37 := ⟨by decide +kernel, rfl⟩

set_option maxRecDepth 20000 in
set_option maxHeartbeats 4000000 in
theorem w_X12_count {x1 : Int32} {s0 : St} {r : Int32} {sr : St} (h : f_X12_count x1 s0 = some (r, sr)) : Ct mX12_count 1 [.ref 206, .int x1] s0 (some (.int r), sr) := by
  refine Ct.ofE (by decide +kernel) rfl ?_
  show E mX12_count 1 (some (.int r), sr) 0 [some (.ref 206), some (.int x1)] [] s0
  unfold f_X12_count at h
  refine e_aload_n qX12_count_0 rfl ?_
  refine e_iconst (nI 0) qX12_count_1 rfl ?_
  refine e_puti qX12_count_2 fp_X12_1 shq_206 kdq_11_0 h (fun s1 h => ?_)
  refine e_iload_n qX12_count_5 rfl ?_
  refine e_iconst (nI 3) qX12_count_6 rfl ?_
  refine e_icmp_ne (tgt := 17) qX12_count_7 rfl h (fun _ h => ?_) (fun _ h => ?_)
  · refine e_aload_n qX12_count_10 rfl ?_
    refine e_geti qX12_count_11 fl_X12_7 shq_206 kdq_11_2 h (fun v2 h => ?_)
    refine e_goto (tgt := 36) qX12_count_14 rfl ?_
    exact e_iret qX12_count_36 rfl (ret_i h)
  refine e_iload_n qX12_count_17 rfl ?_
  refine e_iconst (nI 0) qX12_count_18 rfl ?_
  refine e_iconst (nI 2) qX12_count_19 rfl ?_
  obtain ⟨v3, hc, h⟩ := bp_e h
  refine e_cSi3 qX12_count_20 ms_X12_186 rfl rfl (w_X12_isIn hc) ?_
  refine e_if_eq (tgt := 35) qX12_count_23 rfl h (fun _ h => ?_) (fun _ h => ?_)
  · refine e_iconst (-1) qX12_count_35 rfl ?_
    exact e_iret qX12_count_36 rfl (ret_i h)
  refine e_aload_n qX12_count_26 rfl ?_
  refine e_getr 208 qX12_count_27 fl_X12_33 shq_206 kdq_11_6 rrq_206_6 ?_
  refine e_iload_n qX12_count_30 rfl ?_
  refine e_iald qX12_count_31 shq_208 lnq_208 h (fun v4 h => ?_)
  refine e_goto (tgt := 36) qX12_count_32 rfl ?_
  exact e_iret qX12_count_36 rfl (ret_i h)

def f_J6_bitCount_0f7a4 (x0 : Int32) (s0 : St) : Option (Int32) :=
  vl (x0 - ((ush x0 (nI 1)) &&& (1431655765 : Int32))) fun v1 =>
  vl ((v1 &&& (858993459 : Int32)) + ((ush v1 (nI 2)) &&& (858993459 : Int32))) fun v2 =>
  vl ((v2 + (ush v2 (nI 4))) &&& (252645135 : Int32)) fun v3 =>
  vl (v3 + (ush v3 (nI 8))) fun v4 =>
  vl (v4 + (ush v4 (nI 16))) fun v5 =>
  some (v5 &&& (nI 63))

theorem qJ6_bitCount_0f7a4_0 : Dc mJ6_bitCount_0f7a4 0 (.iload_n 0) 1 1 := ⟨by decide +kernel, rfl⟩
theorem qJ6_bitCount_0f7a4_1 : Dc mJ6_bitCount_0f7a4 1 (.iload_n 0) 1 2 := ⟨by decide +kernel, rfl⟩
theorem qJ6_bitCount_0f7a4_2 : Dc mJ6_bitCount_0f7a4 2 (.iconst 1) 1 3 := ⟨by decide +kernel, rfl⟩
theorem qJ6_bitCount_0f7a4_3 : Dc mJ6_bitCount_0f7a4 3 (.iushr) 1 4 := ⟨by decide +kernel, rfl⟩
theorem qJ6_bitCount_0f7a4_4 : Dc mJ6_bitCount_0f7a4 4 (.ldc_w 265) 3 7 := ⟨by decide +kernel, rfl⟩
theorem qJ6_bitCount_0f7a4_7 : Dc mJ6_bitCount_0f7a4 7 (.iand) 1 8 := ⟨by decide +kernel, rfl⟩
theorem qJ6_bitCount_0f7a4_8 : Dc mJ6_bitCount_0f7a4 8 (.isub) 1 9 := ⟨by decide +kernel, rfl⟩
theorem qJ6_bitCount_0f7a4_9 : Dc mJ6_bitCount_0f7a4 9 (.istore_n 0) 1 10 := ⟨by decide +kernel, rfl⟩
theorem qJ6_bitCount_0f7a4_10 : Dc mJ6_bitCount_0f7a4 10 (.iload_n 0) 1 11 := ⟨by decide +kernel, rfl⟩
theorem qJ6_bitCount_0f7a4_11 : Dc mJ6_bitCount_0f7a4 11 (.ldc_w 266) 3 14 := ⟨by decide +kernel, rfl⟩
theorem qJ6_bitCount_0f7a4_14 : Dc mJ6_bitCount_0f7a4 14 (.iand) 1 15 := ⟨by decide +kernel, rfl⟩
theorem qJ6_bitCount_0f7a4_15 : Dc mJ6_bitCount_0f7a4 15 (.iload_n 0) 1 16 := ⟨by decide +kernel, rfl⟩
theorem qJ6_bitCount_0f7a4_16 : Dc mJ6_bitCount_0f7a4 16 (.iconst 2) 1 17 := ⟨by decide +kernel, rfl⟩
theorem qJ6_bitCount_0f7a4_17 : Dc mJ6_bitCount_0f7a4 17 (.iushr) 1 18 := ⟨by decide +kernel, rfl⟩
theorem qJ6_bitCount_0f7a4_18 : Dc mJ6_bitCount_0f7a4 18 (.ldc_w 266) 3 21 := ⟨by decide +kernel, rfl⟩
theorem qJ6_bitCount_0f7a4_21 : Dc mJ6_bitCount_0f7a4 21 (.iand) 1 22 := ⟨by decide +kernel, rfl⟩
theorem qJ6_bitCount_0f7a4_22 : Dc mJ6_bitCount_0f7a4 22 (.iadd) 1 23 := ⟨by decide +kernel, rfl⟩
theorem qJ6_bitCount_0f7a4_23 : Dc mJ6_bitCount_0f7a4 23 (.istore_n 0) 1 24 := ⟨by decide +kernel, rfl⟩
theorem qJ6_bitCount_0f7a4_24 : Dc mJ6_bitCount_0f7a4 24 (.iload_n 0) 1 25 := ⟨by decide +kernel, rfl⟩
theorem qJ6_bitCount_0f7a4_25 : Dc mJ6_bitCount_0f7a4 25 (.iload_n 0) 1 26 := ⟨by decide +kernel, rfl⟩
theorem qJ6_bitCount_0f7a4_26 : Dc mJ6_bitCount_0f7a4 26 (.iconst 4) 1 27 := ⟨by decide +kernel, rfl⟩
theorem qJ6_bitCount_0f7a4_27 : Dc mJ6_bitCount_0f7a4 27 (.iushr) 1 28 := ⟨by decide +kernel, rfl⟩
theorem qJ6_bitCount_0f7a4_28 : Dc mJ6_bitCount_0f7a4 28 (.iadd) 1 29 := ⟨by decide +kernel, rfl⟩
theorem qJ6_bitCount_0f7a4_29 : Dc mJ6_bitCount_0f7a4 29 (.ldc_w 267) 3 32 := ⟨by decide +kernel, rfl⟩
theorem qJ6_bitCount_0f7a4_32 : Dc mJ6_bitCount_0f7a4 32 (.iand) 1 33 := ⟨by decide +kernel, rfl⟩
theorem qJ6_bitCount_0f7a4_33 : Dc mJ6_bitCount_0f7a4 33 (.istore_n 0) 1 34 := ⟨by decide +kernel, rfl⟩
theorem qJ6_bitCount_0f7a4_34 : Dc mJ6_bitCount_0f7a4 34 (.iload_n 0) 1 35 := ⟨by decide +kernel, rfl⟩
theorem qJ6_bitCount_0f7a4_35 : Dc mJ6_bitCount_0f7a4 35 (.iload_n 0) 1 36 := ⟨by decide +kernel, rfl⟩
theorem qJ6_bitCount_0f7a4_36 : Dc mJ6_bitCount_0f7a4 36 (.bipush 8) 2 38 := ⟨by decide +kernel, rfl⟩
theorem qJ6_bitCount_0f7a4_38 : Dc mJ6_bitCount_0f7a4 38 (.iushr) 1 39 := ⟨by decide +kernel, rfl⟩
theorem qJ6_bitCount_0f7a4_39 : Dc mJ6_bitCount_0f7a4 39 (.iadd) 1 40 := ⟨by decide +kernel, rfl⟩
theorem qJ6_bitCount_0f7a4_40 : Dc mJ6_bitCount_0f7a4 40 (.istore_n 0) 1 41 := ⟨by decide +kernel, rfl⟩
theorem qJ6_bitCount_0f7a4_41 : Dc mJ6_bitCount_0f7a4 41 (.iload_n 0) 1 42 := ⟨by decide +kernel, rfl⟩
theorem qJ6_bitCount_0f7a4_42 : Dc mJ6_bitCount_0f7a4 42 (.iload_n 0) 1 43 := ⟨by decide +kernel, rfl⟩
theorem qJ6_bitCount_0f7a4_43 : Dc mJ6_bitCount_0f7a4 43 (.bipush 16) 2 45 := ⟨by decide +kernel, rfl⟩
theorem qJ6_bitCount_0f7a4_45 : Dc mJ6_bitCount_0f7a4 45 (.iushr) 1 46 := ⟨by decide +kernel, rfl⟩
theorem qJ6_bitCount_0f7a4_46 : Dc mJ6_bitCount_0f7a4 46 (.iadd) 1 47 := ⟨by decide +kernel, rfl⟩
theorem qJ6_bitCount_0f7a4_47 : Dc mJ6_bitCount_0f7a4 47 (.istore_n 0) 1 48 := ⟨by decide +kernel, rfl⟩
theorem qJ6_bitCount_0f7a4_48 : Dc mJ6_bitCount_0f7a4 48 (.iload_n 0) 1 49 := ⟨by decide +kernel, rfl⟩
theorem qJ6_bitCount_0f7a4_49 : Dc mJ6_bitCount_0f7a4 49 (.bipush 63) 2 51 := ⟨by decide +kernel, rfl⟩
theorem qJ6_bitCount_0f7a4_51 : Dc mJ6_bitCount_0f7a4 51 (.iand) 1 52 := ⟨by decide +kernel, rfl⟩
theorem qJ6_bitCount_0f7a4_52 : Dc mJ6_bitCount_0f7a4 52 (.ireturn) 1 53 := ⟨by decide +kernel, rfl⟩

set_option maxRecDepth 20000 in
set_option maxHeartbeats 4000000 in
theorem w_J6_bitCount_0f7a4 {x0 : Int32} {s0 : St} {r : Int32} (h : f_J6_bitCount_0f7a4 x0 s0 = some r) : Ct mJ6_bitCount_0f7a4 0 [.int x0] s0 (some (.int r), s0) := by
  refine Ct.ofE (by decide +kernel) rfl ?_
  show E mJ6_bitCount_0f7a4 0 (some (.int r), s0) 0 [some (.int x0)] [] s0
  unfold f_J6_bitCount_0f7a4 at h
  refine e_iload_n qJ6_bitCount_0f7a4_0 rfl ?_
  refine e_iload_n qJ6_bitCount_0f7a4_1 rfl ?_
  refine e_iconst (nI 1) qJ6_bitCount_0f7a4_2 rfl ?_
  refine e_iushr qJ6_bitCount_0f7a4_3 ?_
  refine e_ldcw (1431655765 : Int32) qJ6_bitCount_0f7a4_4 cw_J6_265 ?_
  refine e_iand qJ6_bitCount_0f7a4_7 ?_
  refine e_isub qJ6_bitCount_0f7a4_8 ?_
  refine vl_e h (fun h => ?_)
  generalize (x0 - ((ush x0 (nI 1)) &&& (1431655765 : Int32))) = v1 at h ⊢
  refine e_istore_n (lv2 := [some (.int v1)]) qJ6_bitCount_0f7a4_9 rfl rfl rfl ?_
  refine e_iload_n qJ6_bitCount_0f7a4_10 rfl ?_
  refine e_ldcw (858993459 : Int32) qJ6_bitCount_0f7a4_11 cw_J6_266 ?_
  refine e_iand qJ6_bitCount_0f7a4_14 ?_
  refine e_iload_n qJ6_bitCount_0f7a4_15 rfl ?_
  refine e_iconst (nI 2) qJ6_bitCount_0f7a4_16 rfl ?_
  refine e_iushr qJ6_bitCount_0f7a4_17 ?_
  refine e_ldcw (858993459 : Int32) qJ6_bitCount_0f7a4_18 cw_J6_266 ?_
  refine e_iand qJ6_bitCount_0f7a4_21 ?_
  refine e_iadd qJ6_bitCount_0f7a4_22 ?_
  refine vl_e h (fun h => ?_)
  generalize ((v1 &&& (858993459 : Int32)) + ((ush v1 (nI 2)) &&& (858993459 : Int32))) = v2 at h ⊢
  refine e_istore_n (lv2 := [some (.int v2)]) qJ6_bitCount_0f7a4_23 rfl rfl rfl ?_
  refine e_iload_n qJ6_bitCount_0f7a4_24 rfl ?_
  refine e_iload_n qJ6_bitCount_0f7a4_25 rfl ?_
  refine e_iconst (nI 4) qJ6_bitCount_0f7a4_26 rfl ?_
  refine e_iushr qJ6_bitCount_0f7a4_27 ?_
  refine e_iadd qJ6_bitCount_0f7a4_28 ?_
  refine e_ldcw (252645135 : Int32) qJ6_bitCount_0f7a4_29 cw_J6_267 ?_
  refine e_iand qJ6_bitCount_0f7a4_32 ?_
  refine vl_e h (fun h => ?_)
  generalize ((v2 + (ush v2 (nI 4))) &&& (252645135 : Int32)) = v3 at h ⊢
  refine e_istore_n (lv2 := [some (.int v3)]) qJ6_bitCount_0f7a4_33 rfl rfl rfl ?_
  refine e_iload_n qJ6_bitCount_0f7a4_34 rfl ?_
  refine e_iload_n qJ6_bitCount_0f7a4_35 rfl ?_
  refine e_bipush (nI 8) qJ6_bitCount_0f7a4_36 rfl ?_
  refine e_iushr qJ6_bitCount_0f7a4_38 ?_
  refine e_iadd qJ6_bitCount_0f7a4_39 ?_
  refine vl_e h (fun h => ?_)
  generalize (v3 + (ush v3 (nI 8))) = v4 at h ⊢
  refine e_istore_n (lv2 := [some (.int v4)]) qJ6_bitCount_0f7a4_40 rfl rfl rfl ?_
  refine e_iload_n qJ6_bitCount_0f7a4_41 rfl ?_
  refine e_iload_n qJ6_bitCount_0f7a4_42 rfl ?_
  refine e_bipush (nI 16) qJ6_bitCount_0f7a4_43 rfl ?_
  refine e_iushr qJ6_bitCount_0f7a4_45 ?_
  refine e_iadd qJ6_bitCount_0f7a4_46 ?_
  refine vl_e h (fun h => ?_)
  generalize (v4 + (ush v4 (nI 16))) = v5 at h ⊢
  refine e_istore_n (lv2 := [some (.int v5)]) qJ6_bitCount_0f7a4_47 rfl rfl rfl ?_
  refine e_iload_n qJ6_bitCount_0f7a4_48 rfl ?_
  refine e_bipush (nI 63) qJ6_bitCount_0f7a4_49 rfl ?_
  refine e_iand qJ6_bitCount_0f7a4_51 ?_
  exact e_iret qJ6_bitCount_0f7a4_52 rfl (ret_p h)

def f_X0_kindAt  (s0 : St) : Option (Int32) :=
  bp (f_X9_is 1009 s0) fun v1 =>
  if v1 = 0 then
    bp (f_X9_is 1010 s0) fun v2 =>
    if v2 = 0 then
      bp (f_X9_is 1011 s0) fun v3 =>
      if v3 = 0 then
        bp (f_X9_is 1012 s0) fun v4 =>
        if v4 = 0 then
          bp (f_X9_is 1013 s0) fun v5 =>
          if v5 = 0 then
            bp (f_X9_is 1005 s0) fun v6 =>
            if v6 = 0 then
              bp (f_X9_is 1014 s0) fun v7 =>
              if v7 = 0 then
                some (-1)
              else
              some (nI 6)
            else
            some (nI 5)
          else
          some (nI 4)
        else
        some (nI 3)
      else
      some (nI 2)
    else
    some (nI 1)
  else
  some (nI 0)

theorem qX0_kindAt_0 : Dc mX0_kindAt 0 (.aload_n 0) 1 1 := ⟨by decide +kernel, rfl⟩
theorem qX0_kindAt_1 : Dc mX0_kindAt 1 (.getstatic 65) 3 4 := ⟨by decide +kernel, rfl⟩
theorem qX0_kindAt_4 : Dc mX0_kindAt 4 (.invokevirtual 71) 3 7 := ⟨by decide +kernel, rfl⟩
theorem qX0_kindAt_7 : Dc mX0_kindAt 7 (.ifCond .eq 5) 3 10 := ⟨by decide +kernel, rfl⟩
theorem qX0_kindAt_10 : Dc mX0_kindAt 10 (.iconst 0) 1 11 := ⟨by decide +kernel, rfl⟩
theorem qX0_kindAt_11 : Dc mX0_kindAt 11 (.ireturn) 1 12 := ⟨by decide +kernel, rfl⟩
theorem qX0_kindAt_12 : Dc mX0_kindAt 12 (.aload_n 0) 1 13 := ⟨by decide +kernel, rfl⟩
theorem qX0_kindAt_13 : Dc mX0_kindAt 13 (.getstatic 75) 3 16 := ⟨by decide +kernel, rfl⟩
theorem qX0_kindAt_16 : Dc mX0_kindAt 16 (.invokevirtual 71) 3 19 := ⟨by decide +kernel, rfl⟩
theorem qX0_kindAt_19 : Dc mX0_kindAt 19 (.ifCond .eq 5) 3 22 := ⟨by decide +kernel, rfl⟩
theorem qX0_kindAt_22 : Dc mX0_kindAt 22 (.iconst 1) 1 23 := ⟨by decide +kernel, rfl⟩
theorem qX0_kindAt_23 : Dc mX0_kindAt 23 (.ireturn) 1 24 := ⟨by decide +kernel, rfl⟩
theorem qX0_kindAt_24 : Dc mX0_kindAt 24 (.aload_n 0) 1 25 := ⟨by decide +kernel, rfl⟩
theorem qX0_kindAt_25 : Dc mX0_kindAt 25 (.getstatic 78) 3 28 := ⟨by decide +kernel, rfl⟩
theorem qX0_kindAt_28 : Dc mX0_kindAt 28 (.invokevirtual 71) 3 31 := ⟨by decide +kernel, rfl⟩
theorem qX0_kindAt_31 : Dc mX0_kindAt 31 (.ifCond .eq 5) 3 34 := ⟨by decide +kernel, rfl⟩
theorem qX0_kindAt_34 : Dc mX0_kindAt 34 (.iconst 2) 1 35 := ⟨by decide +kernel, rfl⟩
theorem qX0_kindAt_35 : Dc mX0_kindAt 35 (.ireturn) 1 36 := ⟨by decide +kernel, rfl⟩
theorem qX0_kindAt_36 : Dc mX0_kindAt 36 (.aload_n 0) 1 37 := ⟨by decide +kernel, rfl⟩
theorem qX0_kindAt_37 : Dc mX0_kindAt 37 (.getstatic 81) 3 40 := ⟨by decide +kernel, rfl⟩
theorem qX0_kindAt_40 : Dc mX0_kindAt 40 (.invokevirtual 71) 3 43 := ⟨by decide +kernel, rfl⟩
theorem qX0_kindAt_43 : Dc mX0_kindAt 43 (.ifCond .eq 5) 3 46 := ⟨by decide +kernel, rfl⟩
theorem qX0_kindAt_46 : Dc mX0_kindAt 46 (.iconst 3) 1 47 := ⟨by decide +kernel, rfl⟩
theorem qX0_kindAt_47 : Dc mX0_kindAt 47 (.ireturn) 1 48 := ⟨by decide +kernel, rfl⟩
theorem qX0_kindAt_48 : Dc mX0_kindAt 48 (.aload_n 0) 1 49 := ⟨by decide +kernel, rfl⟩
theorem qX0_kindAt_49 : Dc mX0_kindAt 49 (.getstatic 84) 3 52 := ⟨by decide +kernel, rfl⟩
theorem qX0_kindAt_52 : Dc mX0_kindAt 52 (.invokevirtual 71) 3 55 := ⟨by decide +kernel, rfl⟩
theorem qX0_kindAt_55 : Dc mX0_kindAt 55 (.ifCond .eq 5) 3 58 := ⟨by decide +kernel, rfl⟩
theorem qX0_kindAt_58 : Dc mX0_kindAt 58 (.iconst 4) 1 59 := ⟨by decide +kernel, rfl⟩
theorem qX0_kindAt_59 : Dc mX0_kindAt 59 (.ireturn) 1 60 := ⟨by decide +kernel, rfl⟩
theorem qX0_kindAt_60 : Dc mX0_kindAt 60 (.aload_n 0) 1 61 := ⟨by decide +kernel, rfl⟩
theorem qX0_kindAt_61 : Dc mX0_kindAt 61 (.getstatic 87) 3 64 := ⟨by decide +kernel, rfl⟩
theorem qX0_kindAt_64 : Dc mX0_kindAt 64 (.invokevirtual 71) 3 67 := ⟨by decide +kernel, rfl⟩
theorem qX0_kindAt_67 : Dc mX0_kindAt 67 (.ifCond .eq 5) 3 70 := ⟨by decide +kernel, rfl⟩
theorem qX0_kindAt_70 : Dc mX0_kindAt 70 (.iconst 5) 1 71 := ⟨by decide +kernel, rfl⟩
theorem qX0_kindAt_71 : Dc mX0_kindAt 71 (.ireturn) 1 72 := ⟨by decide +kernel, rfl⟩
theorem qX0_kindAt_72 : Dc mX0_kindAt 72 (.aload_n 0) 1 73 := ⟨by decide +kernel, rfl⟩
theorem qX0_kindAt_73 : Dc mX0_kindAt 73 (.getstatic 90) 3 76 := ⟨by decide +kernel, rfl⟩
theorem qX0_kindAt_76 : Dc mX0_kindAt 76 (.invokevirtual 71) 3 79 := ⟨by decide +kernel, rfl⟩
theorem qX0_kindAt_79 : Dc mX0_kindAt 79 (.ifCond .eq 8) 3 82 := ⟨by decide +kernel, rfl⟩
theorem qX0_kindAt_82 : Dc mX0_kindAt 82 (.bipush 6) 2 84 := ⟨by decide +kernel, rfl⟩
theorem qX0_kindAt_84 : Dc mX0_kindAt 84 (.goto 4) 3 87 := ⟨by decide +kernel, rfl⟩
theorem qX0_kindAt_87 : Dc mX0_kindAt 87 (.iconst (-1)) 1 88 := ⟨by decide +kernel, rfl⟩
theorem qX0_kindAt_88 : Dc mX0_kindAt 88 (.ireturn) 1 89 := ⟨by decide +kernel, rfl⟩

set_option maxRecDepth 20000 in
set_option maxHeartbeats 4000000 in
theorem w_X0_kindAt  {s0 : St} {r : Int32} (h : f_X0_kindAt  s0 = some r) : Ct mX0_kindAt 1 [.ref 1] s0 (some (.int r), s0) := by
  refine Ct.ofE (by decide +kernel) rfl ?_
  show E mX0_kindAt 1 (some (.int r), s0) 0 [some (.ref 1)] [] s0
  unfold f_X0_kindAt at h
  refine e_aload_n qX0_kindAt_0 rfl ?_
  refine e_getsw (i := 9) qX0_kindAt_1 (by decide) cg_X0_65 ?_
  obtain ⟨v1, hc, h⟩ := bp_e h
  refine e_cVi1 qX0_kindAt_4 mv_X0_71 shq_1 rfl rfl (w_X9_is hc) ?_
  refine e_if_eq (tgt := 12) qX0_kindAt_7 rfl h (fun _ h => ?_) (fun _ h => ?_)
  · refine e_aload_n qX0_kindAt_12 rfl ?_
    refine e_getsw (i := 10) qX0_kindAt_13 (by decide) cg_X0_75 ?_
    obtain ⟨v2, hc, h⟩ := bp_e h
    refine e_cVi1 qX0_kindAt_16 mv_X0_71 shq_1 rfl rfl (w_X9_is hc) ?_
    refine e_if_eq (tgt := 24) qX0_kindAt_19 rfl h (fun _ h => ?_) (fun _ h => ?_)
    · refine e_aload_n qX0_kindAt_24 rfl ?_
      refine e_getsw (i := 11) qX0_kindAt_25 (by decide) cg_X0_78 ?_
      obtain ⟨v3, hc, h⟩ := bp_e h
      refine e_cVi1 qX0_kindAt_28 mv_X0_71 shq_1 rfl rfl (w_X9_is hc) ?_
      refine e_if_eq (tgt := 36) qX0_kindAt_31 rfl h (fun _ h => ?_) (fun _ h => ?_)
      · refine e_aload_n qX0_kindAt_36 rfl ?_
        refine e_getsw (i := 12) qX0_kindAt_37 (by decide) cg_X0_81 ?_
        obtain ⟨v4, hc, h⟩ := bp_e h
        refine e_cVi1 qX0_kindAt_40 mv_X0_71 shq_1 rfl rfl (w_X9_is hc) ?_
        refine e_if_eq (tgt := 48) qX0_kindAt_43 rfl h (fun _ h => ?_) (fun _ h => ?_)
        · refine e_aload_n qX0_kindAt_48 rfl ?_
          refine e_getsw (i := 13) qX0_kindAt_49 (by decide) cg_X0_84 ?_
          obtain ⟨v5, hc, h⟩ := bp_e h
          refine e_cVi1 qX0_kindAt_52 mv_X0_71 shq_1 rfl rfl (w_X9_is hc) ?_
          refine e_if_eq (tgt := 60) qX0_kindAt_55 rfl h (fun _ h => ?_) (fun _ h => ?_)
          · refine e_aload_n qX0_kindAt_60 rfl ?_
            refine e_getsw (i := 5) qX0_kindAt_61 (by decide) cg_X0_87 ?_
            obtain ⟨v6, hc, h⟩ := bp_e h
            refine e_cVi1 qX0_kindAt_64 mv_X0_71 shq_1 rfl rfl (w_X9_is hc) ?_
            refine e_if_eq (tgt := 72) qX0_kindAt_67 rfl h (fun _ h => ?_) (fun _ h => ?_)
            · refine e_aload_n qX0_kindAt_72 rfl ?_
              refine e_getsw (i := 14) qX0_kindAt_73 (by decide) cg_X0_90 ?_
              obtain ⟨v7, hc, h⟩ := bp_e h
              refine e_cVi1 qX0_kindAt_76 mv_X0_71 shq_1 rfl rfl (w_X9_is hc) ?_
              refine e_if_eq (tgt := 87) qX0_kindAt_79 rfl h (fun _ h => ?_) (fun _ h => ?_)
              · refine e_iconst (-1) qX0_kindAt_87 rfl ?_
                exact e_iret qX0_kindAt_88 rfl (ret_p h)
              refine e_bipush (nI 6) qX0_kindAt_82 rfl ?_
              refine e_goto (tgt := 88) qX0_kindAt_84 rfl ?_
              exact e_iret qX0_kindAt_88 rfl (ret_p h)
            refine e_iconst (nI 5) qX0_kindAt_70 rfl ?_
            exact e_iret qX0_kindAt_71 rfl (ret_p h)
          refine e_iconst (nI 4) qX0_kindAt_58 rfl ?_
          exact e_iret qX0_kindAt_59 rfl (ret_p h)
        refine e_iconst (nI 3) qX0_kindAt_46 rfl ?_
        exact e_iret qX0_kindAt_47 rfl (ret_p h)
      refine e_iconst (nI 2) qX0_kindAt_34 rfl ?_
      exact e_iret qX0_kindAt_35 rfl (ret_p h)
    refine e_iconst (nI 1) qX0_kindAt_22 rfl ?_
    exact e_iret qX0_kindAt_23 rfl (ret_p h)
  refine e_iconst (nI 0) qX0_kindAt_10 rfl ?_
  exact e_iret qX0_kindAt_11 rfl (ret_p h)

def f_X1_copyFrom_L2 (N : Nat) (c1 : Nat) (c2 : Nat) (k5 : St → Option (St)) : Nat → Int32 → St → Option (St)
  | 0, _, _ => none
  | n7 + 1, v3, s4 =>
    vl (s4.1 c2 2) fun v9 =>
    if v9 ≤ v3 then
      k5 s4
    else
    ald (rr (rr c1 0)) 8 v3 fun v10 =>
    ald (rr (rr c2 0)) 8 v3 fun v12 =>
    bp (f_X4_copyFrom v10 v12 s4) fun s14 =>
    vl (v3 + (nI 1)) fun v15 =>
    f_X1_copyFrom_L2 N c1 c2 k5 n7 v15 s14

def f_X1_copyFrom_L33 (N : Nat) (c17 : Nat) (c18 : Nat) (k21 : St → Option (St)) : Nat → Int32 → St → Option (St)
  | 0, _, _ => none
  | n23 + 1, v19, s20 =>
    vl (s20.1 c18 3) fun v25 =>
    if v25 ≤ v19 then
      k21 s20
    else
    ald (rr (rr c17 1)) 4 v19 fun v26 =>
    ald (rr (rr c18 1)) 4 v19 fun v28 =>
    bp (f_X8_copyFrom v26 v28 s20) fun s30 =>
    vl (v19 + (nI 1)) fun v31 =>
    f_X1_copyFrom_L33 N c17 c18 k21 n23 v31 s30

def f_X1_copyFrom (N : Nat) (a0 : Nat) (a1 : Nat) (s0 : St) : Option (St) :=
  f_X1_copyFrom_L2 N a0 a1 (fun (s16 : St) =>
    f_X1_copyFrom_L33 N a0 a1 (fun (s32 : St) =>
      vl (s32.1 a1 2) fun v33 =>
      vl (sI s32 a0 2 v33) fun s34 =>
      vl (s34.1 a1 3) fun v35 =>
      vl (sI s34 a0 3 v35) fun s36 =>
      vl (s36.1 a1 4) fun v37 =>
      vl (sI s36 a0 4 v37) fun s38 =>
      vl (s38.1 a1 5) fun v39 =>
      vl (sI s38 a0 5 v39) fun s40 =>
      some s40) N (nI 0) s16) N (nI 0) s0

theorem qX1_copyFrom_0 : Dc mX1_copyFrom 0 (.iconst 0) 1 1 := ⟨by decide +kernel, rfl⟩
theorem qX1_copyFrom_1 : Dc mX1_copyFrom 1 (.istore_n 2) 1 2 := ⟨by decide +kernel, rfl⟩
theorem qX1_copyFrom_2 : Dc mX1_copyFrom 2 (.iload_n 2) 1 3 := ⟨by decide +kernel, rfl⟩
theorem qX1_copyFrom_3 : Dc mX1_copyFrom 3 (.aload_n 1) 1 4 := ⟨by decide +kernel, rfl⟩
theorem qX1_copyFrom_4 : Dc mX1_copyFrom 4 (.getfield 29) 3 7 := ⟨by decide +kernel, rfl⟩
theorem qX1_copyFrom_7 : Dc mX1_copyFrom 7 (.if_icmp .ge 24) 3 10 := ⟨by decide +kernel, rfl⟩
theorem qX1_copyFrom_10 : Dc mX1_copyFrom 10 (.aload_n 0) 1 11 := ⟨by decide +kernel, rfl⟩
theorem qX1_copyFrom_11 : Dc mX1_copyFrom 11 (.getfield 11) 3 14 := ⟨by decide +kernel, rfl⟩
theorem qX1_copyFrom_14 : Dc mX1_copyFrom 14 (.iload_n 2) 1 15 := ⟨by decide +kernel, rfl⟩
theorem qX1_copyFrom_15 : Dc mX1_copyFrom 15 (.aaload) 1 16 := ⟨by decide +kernel, rfl⟩
theorem qX1_copyFrom_16 : Dc mX1_copyFrom 16 (.aload_n 1) 1 17 := ⟨by decide +kernel, rfl⟩
theorem qX1_copyFrom_17 : Dc mX1_copyFrom 17 (.getfield 11) 3 20 := ⟨by decide +kernel, rfl⟩
theorem qX1_copyFrom_20 : Dc mX1_copyFrom 20 (.iload_n 2) 1 21 := ⟨by decide +kernel, rfl⟩
theorem qX1_copyFrom_21 : Dc mX1_copyFrom 21 (.aaload) 1 22 := ⟨by decide +kernel, rfl⟩
theorem qX1_copyFrom_22 : Dc mX1_copyFrom 22 (.invokevirtual 32) 3 25 := ⟨by decide +kernel, rfl⟩
theorem qX1_copyFrom_25 : Dc mX1_copyFrom 25 (.iinc 2 1) 3 28 := ⟨by decide +kernel, rfl⟩
theorem qX1_copyFrom_28 : Dc mX1_copyFrom 28 (.goto (-26)) 3 31 := ⟨by decide +kernel, rfl⟩
theorem qX1_copyFrom_31 : Dc mX1_copyFrom 31 (.iconst 0) 1 32 := ⟨by decide +kernel, rfl⟩
theorem qX1_copyFrom_32 : Dc mX1_copyFrom 32 (.istore_n 2) 1 33 := ⟨by decide +kernel, rfl⟩
theorem qX1_copyFrom_33 : Dc mX1_copyFrom 33 (.iload_n 2) 1 34 := ⟨by decide +kernel, rfl⟩
theorem qX1_copyFrom_34 : Dc mX1_copyFrom 34 (.aload_n 1) 1 35 := ⟨by decide +kernel, rfl⟩
theorem qX1_copyFrom_35 : Dc mX1_copyFrom 35 (.getfield 36) 3 38 := ⟨by decide +kernel, rfl⟩
theorem qX1_copyFrom_38 : Dc mX1_copyFrom 38 (.if_icmp .ge 24) 3 41 := ⟨by decide +kernel, rfl⟩
theorem qX1_copyFrom_41 : Dc mX1_copyFrom 41 (.aload_n 0) 1 42 := ⟨by decide +kernel, rfl⟩
theorem qX1_copyFrom_42 : Dc mX1_copyFrom 42 (.getfield 19) 3 45 := ⟨by decide +kernel, rfl⟩
theorem qX1_copyFrom_45 : Dc mX1_copyFrom 45 (.iload_n 2) 1 46 := ⟨by decide +kernel, rfl⟩
theorem qX1_copyFrom_46 : Dc mX1_copyFrom 46 (.aaload) 1 47 := ⟨by decide +kernel, rfl⟩
theorem qX1_copyFrom_47 : Dc mX1_copyFrom 47 (.aload_n 1) 1 48 := ⟨by decide +kernel, rfl⟩
theorem qX1_copyFrom_48 : Dc mX1_copyFrom 48 (.getfield 19) 3 51 := ⟨by decide +kernel, rfl⟩
theorem qX1_copyFrom_51 : Dc mX1_copyFrom 51 (.iload_n 2) 1 52 := ⟨by decide +kernel, rfl⟩
theorem qX1_copyFrom_52 : Dc mX1_copyFrom 52 (.aaload) 1 53 := ⟨by decide +kernel, rfl⟩
theorem qX1_copyFrom_53 : Dc mX1_copyFrom 53 (.invokevirtual 39) 3 56 := ⟨by decide +kernel, rfl⟩
theorem qX1_copyFrom_56 : Dc mX1_copyFrom 56 (.iinc 2 1) 3 59 := ⟨by decide +kernel, rfl⟩
theorem qX1_copyFrom_59 : Dc mX1_copyFrom 59 (.goto (-26)) 3 62 := ⟨by decide +kernel, rfl⟩
theorem qX1_copyFrom_62 : Dc mX1_copyFrom 62 (.aload_n 0) 1 63 := ⟨by decide +kernel, rfl⟩
theorem qX1_copyFrom_63 : Dc mX1_copyFrom 63 (.aload_n 1) 1 64 := ⟨by decide +kernel, rfl⟩
theorem qX1_copyFrom_64 : Dc mX1_copyFrom 64 (.getfield 29) 3 67 := ⟨by decide +kernel, rfl⟩
theorem qX1_copyFrom_67 : Dc mX1_copyFrom 67 (.putfield 29) 3 70 := ⟨by decide +kernel, rfl⟩
theorem qX1_copyFrom_70 : Dc mX1_copyFrom 70 (.aload_n 0) 1 71 := ⟨by decide +kernel, rfl⟩
theorem qX1_copyFrom_71 : Dc mX1_copyFrom 71 (.aload_n 1) 1 72 := ⟨by decide +kernel, rfl⟩
theorem qX1_copyFrom_72 : Dc mX1_copyFrom 72 (.getfield 36) 3 75 := ⟨by decide +kernel, rfl⟩
theorem qX1_copyFrom_75 : Dc mX1_copyFrom 75 (.putfield 36) 3 78 := ⟨by decide +kernel, rfl⟩
theorem qX1_copyFrom_78 : Dc mX1_copyFrom 78 (.aload_n 0) 1 79 := ⟨by decide +kernel, rfl⟩
theorem qX1_copyFrom_79 : Dc mX1_copyFrom 79 (.aload_n 1) 1 80 := ⟨by decide +kernel, rfl⟩
theorem qX1_copyFrom_80 : Dc mX1_copyFrom 80 (.getfield 23) 3 83 := ⟨by decide +kernel, rfl⟩
theorem qX1_copyFrom_83 : Dc mX1_copyFrom 83 (.putfield 23) 3 86 := ⟨by decide +kernel, rfl⟩
theorem qX1_copyFrom_86 : Dc mX1_copyFrom 86 (.aload_n 0) 1 87 := ⟨by decide +kernel, rfl⟩
theorem qX1_copyFrom_87 : Dc mX1_copyFrom 87 (.aload_n 1) 1 88 := ⟨by decide +kernel, rfl⟩
theorem qX1_copyFrom_88 : Dc mX1_copyFrom 88 (.getfield 42) 3 91 := ⟨by decide +kernel, rfl⟩
theorem qX1_copyFrom_91 : Dc mX1_copyFrom 91 (.putfield 42) 3 94 := ⟨by decide +kernel, rfl⟩
theorem qX1_copyFrom_94 : Dc mX1_copyFrom 94 (.return_) 1 95 := ⟨by decide +kernel, rfl⟩

set_option maxRecDepth 20000 in
set_option maxHeartbeats 4000000 in
theorem w_X1_copyFrom_L2 {N : Nat} {c1 : Nat} {c2 : Nat} {k5 : St → Option (St)} {sr : St} (h_c1 : sh c1 = 1) (h_c2 : sh c2 = 1) (hk5 : ∀ (s6 : St), k5 s6 = some sr → E mX1_copyFrom 4 (none, sr) 31 [some (.ref c1), some (.ref c2), none] [] s6) : ∀ (n7 : Nat) (v3 : Int32) (s4 : St), f_X1_copyFrom_L2 N c1 c2 k5 n7 v3 s4 = some sr → E mX1_copyFrom 4 (none, sr) 2 [some (.ref c1), some (.ref c2), some (.int v3)] [] s4 := by
  intro n7
  induction n7 with
  | zero =>
    intro v3 s4 h
    rw [f_X1_copyFrom_L2] at h; cases h
  | succ n7 ih8 =>
    intro v3 s4 h
    rw [f_X1_copyFrom_L2] at h
    refine e_iload_n qX1_copyFrom_2 rfl ?_
    refine e_aload_n qX1_copyFrom_3 rfl ?_
    refine e_geti qX1_copyFrom_4 fl_X1_29 h_c2 kdq_1_2 h (fun v9 h => ?_)
    refine e_icmp_ge (tgt := 31) qX1_copyFrom_7 rfl h (fun _ h => ?_) (fun _ h => ?_)
    · exact e_weak (hk5 _ h) ⟨Or.inr rfl, Or.inr rfl, Or.inl rfl, trivial⟩
    refine e_aload_n qX1_copyFrom_10 rfl ?_
    refine e_getr (rr c1 0) qX1_copyFrom_11 fl_X1_11 h_c1 kdq_1_0 rfl ?_
    refine e_iload_n qX1_copyFrom_14 rfl ?_
    refine e_rald24 qX1_copyFrom_15 (wt_1_0 _ h_c1).1 (wt_1_0 _ h_c1).2 h (fun i11 hi11 h => ?_)
    refine e_aload_n qX1_copyFrom_16 rfl ?_
    refine e_getr (rr c2 0) qX1_copyFrom_17 fl_X1_11 h_c2 kdq_1_0 rfl ?_
    refine e_iload_n qX1_copyFrom_20 rfl ?_
    refine e_rald24 qX1_copyFrom_21 (wt_1_0 _ h_c2).1 (wt_1_0 _ h_c2).2 h (fun i13 hi13 h => ?_)
    obtain ⟨s14, hc, h⟩ := bp_e h
    refine e_cVv1 qX1_copyFrom_22 mv_X1_32 (we_24 _ (wt_1_0 _ h_c1).1 _ hi11) rfl rfl (w_X4_copyFrom (we_24 _ (wt_1_0 _ h_c1).1 _ hi11) (we_24 _ (wt_1_0 _ h_c2).1 _ hi13) hc) ?_
    refine vl_e h (fun h => ?_)
    obtain ⟨v15, ev15⟩ : ∃ y, v3 + (nI 1) = y := ⟨_, rfl⟩
    rw [ev15] at h
    refine e_iinc (nI 1) v15 (lv2 := [some (.ref c1), some (.ref c2), some (.int v15)]) qX1_copyFrom_25 rfl rfl rfl ev15 rfl ?_
    refine e_goto (tgt := 2) qX1_copyFrom_28 rfl ?_
    exact e_weak (ih8 _ _ h) ⟨Or.inr rfl, Or.inr rfl, Or.inr rfl, trivial⟩

set_option maxRecDepth 20000 in
set_option maxHeartbeats 4000000 in
theorem w_X1_copyFrom_L33 {N : Nat} {c17 : Nat} {c18 : Nat} {k21 : St → Option (St)} {sr : St} (h_c17 : sh c17 = 1) (h_c18 : sh c18 = 1) (hk21 : ∀ (s22 : St), k21 s22 = some sr → E mX1_copyFrom 4 (none, sr) 62 [some (.ref c17), some (.ref c18), none] [] s22) : ∀ (n23 : Nat) (v19 : Int32) (s20 : St), f_X1_copyFrom_L33 N c17 c18 k21 n23 v19 s20 = some sr → E mX1_copyFrom 4 (none, sr) 33 [some (.ref c17), some (.ref c18), some (.int v19)] [] s20 := by
  intro n23
  induction n23 with
  | zero =>
    intro v19 s20 h
    rw [f_X1_copyFrom_L33] at h; cases h
  | succ n23 ih24 =>
    intro v19 s20 h
    rw [f_X1_copyFrom_L33] at h
    refine e_iload_n qX1_copyFrom_33 rfl ?_
    refine e_aload_n qX1_copyFrom_34 rfl ?_
    refine e_geti qX1_copyFrom_35 fl_X1_36 h_c18 kdq_1_3 h (fun v25 h => ?_)
    refine e_icmp_ge (tgt := 62) qX1_copyFrom_38 rfl h (fun _ h => ?_) (fun _ h => ?_)
    · exact e_weak (hk21 _ h) ⟨Or.inr rfl, Or.inr rfl, Or.inl rfl, trivial⟩
    refine e_aload_n qX1_copyFrom_41 rfl ?_
    refine e_getr (rr c17 1) qX1_copyFrom_42 fl_X1_19 h_c17 kdq_1_1 rfl ?_
    refine e_iload_n qX1_copyFrom_45 rfl ?_
    refine e_rald25 qX1_copyFrom_46 (wt_1_1 _ h_c17).1 (wt_1_1 _ h_c17).2 h (fun i27 hi27 h => ?_)
    refine e_aload_n qX1_copyFrom_47 rfl ?_
    refine e_getr (rr c18 1) qX1_copyFrom_48 fl_X1_19 h_c18 kdq_1_1 rfl ?_
    refine e_iload_n qX1_copyFrom_51 rfl ?_
    refine e_rald25 qX1_copyFrom_52 (wt_1_1 _ h_c18).1 (wt_1_1 _ h_c18).2 h (fun i29 hi29 h => ?_)
    obtain ⟨s30, hc, h⟩ := bp_e h
    refine e_cVv1 qX1_copyFrom_53 mv_X1_39 (we_25 _ (wt_1_1 _ h_c17).1 _ hi27) rfl rfl (w_X8_copyFrom (we_25 _ (wt_1_1 _ h_c17).1 _ hi27) (we_25 _ (wt_1_1 _ h_c18).1 _ hi29) hc) ?_
    refine vl_e h (fun h => ?_)
    obtain ⟨v31, ev31⟩ : ∃ y, v19 + (nI 1) = y := ⟨_, rfl⟩
    rw [ev31] at h
    refine e_iinc (nI 1) v31 (lv2 := [some (.ref c17), some (.ref c18), some (.int v31)]) qX1_copyFrom_56 rfl rfl rfl ev31 rfl ?_
    refine e_goto (tgt := 33) qX1_copyFrom_59 rfl ?_
    exact e_weak (ih24 _ _ h) ⟨Or.inr rfl, Or.inr rfl, Or.inr rfl, trivial⟩

set_option maxRecDepth 20000 in
set_option maxHeartbeats 4000000 in
theorem w_X1_copyFrom {N : Nat} {a0 : Nat} {a1 : Nat} {s0 : St} {sr : St} (h_a0 : sh a0 = 1) (h_a1 : sh a1 = 1) (h : f_X1_copyFrom N a0 a1 s0 = some sr) : Ct mX1_copyFrom 4 [.ref a0, .ref a1] s0 (none, sr) := by
  refine Ct.ofE (by decide +kernel) rfl ?_
  show E mX1_copyFrom 4 (none, sr) 0 [some (.ref a0), some (.ref a1), none] [] s0
  unfold f_X1_copyFrom at h
  refine e_iconst (nI 0) qX1_copyFrom_0 rfl ?_
  refine e_istore_n (lv2 := [some (.ref a0), some (.ref a1), some (.int (nI 0))]) qX1_copyFrom_1 rfl rfl rfl ?_
  refine e_weak (w_X1_copyFrom_L2 h_a0 h_a1 (fun s16 h => ?_) _ _ _ h) ⟨Or.inr rfl, Or.inr rfl, Or.inr rfl, trivial⟩
  refine e_iconst (nI 0) qX1_copyFrom_31 rfl ?_
  refine e_istore_n (lv2 := [some (.ref a0), some (.ref a1), some (.int (nI 0))]) qX1_copyFrom_32 rfl rfl rfl ?_
  refine e_weak (w_X1_copyFrom_L33 h_a0 h_a1 (fun s32 h => ?_) _ _ _ h) ⟨Or.inr rfl, Or.inr rfl, Or.inr rfl, trivial⟩
  refine e_aload_n qX1_copyFrom_62 rfl ?_
  refine e_aload_n qX1_copyFrom_63 rfl ?_
  refine e_geti qX1_copyFrom_64 fl_X1_29 h_a1 kdq_1_2 h (fun v33 h => ?_)
  refine e_puti qX1_copyFrom_67 fp_X1_29 h_a0 kdq_1_2 h (fun s34 h => ?_)
  refine e_aload_n qX1_copyFrom_70 rfl ?_
  refine e_aload_n qX1_copyFrom_71 rfl ?_
  refine e_geti qX1_copyFrom_72 fl_X1_36 h_a1 kdq_1_3 h (fun v35 h => ?_)
  refine e_puti qX1_copyFrom_75 fp_X1_36 h_a0 kdq_1_3 h (fun s36 h => ?_)
  refine e_aload_n qX1_copyFrom_78 rfl ?_
  refine e_aload_n qX1_copyFrom_79 rfl ?_
  refine e_geti qX1_copyFrom_80 fl_X1_23 h_a1 kdq_1_4 h (fun v37 h => ?_)
  refine e_puti qX1_copyFrom_83 fp_X1_23 h_a0 kdq_1_4 h (fun s38 h => ?_)
  refine e_aload_n qX1_copyFrom_86 rfl ?_
  refine e_aload_n qX1_copyFrom_87 rfl ?_
  refine e_geti qX1_copyFrom_88 fl_X1_42 h_a1 kdq_1_5 h (fun v39 h => ?_)
  refine e_puti qX1_copyFrom_91 fp_X1_42 h_a0 kdq_1_5 h (fun s40 h => ?_)
  exact e_vret qX1_copyFrom_94 rfl (ret_v h)
