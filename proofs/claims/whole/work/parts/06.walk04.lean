def f_X12_readLight (N : Nat)  (s0 : St) : Option (Int32 × St) :=
  ald (s0.1 209) 147 (nI 0) fun v1 =>
  if v1 = (nI 8) then
    bd (f_X12_bad (nI 4) s0) fun v2 s3 =>
    rz v2 <|
    some (v2, s3)
  else
  bp (f_X12_next N s0) fun s4 =>
  bd (f_X12_fresh N ((nI 12) + v1) s4) fun v5 s6 =>
  if v5 = 0 then
    some ((nI 0), s6)
  else
  bd (f_X12_puts N ((nI 3) + v1) (nI 0) (nI 19) s6) fun v7 s8 =>
  if v7 = 0 then
    some ((nI 0), s8)
  else
  bd (f_X12_puts N ((nI 11) + v1) (nI 0) (nI 19) s8) fun v9 s10 =>
  if v9 = 0 then
    some ((nI 0), s10)
  else
  bd (f_X12_puts N ((nI 19) + v1) (nI 1) (nI 30) s10) fun v11 s12 =>
  if v11 = 0 then
    some ((nI 0), s12)
  else
  bp (f_X12_isWord (512852849765 : Int64) s12) fun v13 =>
  jn (fun (v14 : Int32) =>
    if v14 = 0 then
      bd (f_X12_bad (nI 1) s12) fun v16 s17 =>
      rz v16 <|
      some (v16, s17)
    else
    ald (fun j => sI s12 209 j v14) 147 ((nI 27) + v1) fun s18 =>
    bp (f_X12_next N s18) fun s19 =>
    bd (f_X12_puts N ((nI 35) + v1) (nI 0) (nI 999) s19) fun v20 s21 =>
    if v20 = 0 then
      some ((nI 0), s21)
    else
    ald (s21.1 209) 147 (nI 0) fun v22 =>
    ald (fun j => sI s21 209 j (v22 + (nI 1))) 147 (nI 0) fun s23 =>
    some ((nI 1), s23)) fun j15 =>
  if v13 = 0 then
    bp (f_X12_isWord (7497060 : Int64) s12) fun v24 =>
    if v24 = 0 then
      bp (f_X12_isWord (444300879214 : Int64) s12) fun v25 =>
      if v25 = 0 then
        j15 (nI 0)
      else
      j15 (nI 3)
    else
    j15 (nI 2)
  else
  j15 (nI 1)

theorem qX12_readLight_0 : Dc mX12_readLight 0 (.aload_n 0) 1 1 := ⟨by decide +kernel, rfl⟩
theorem qX12_readLight_1 : Dc mX12_readLight 1 (.getfield 37) 3 4 := ⟨by decide +kernel, rfl⟩
theorem qX12_readLight_4 : Dc mX12_readLight 4 (.iconst 0) 1 5 := ⟨by decide +kernel, rfl⟩
theorem qX12_readLight_5 : Dc mX12_readLight 5 (.iaload) 1 6 := ⟨by decide +kernel, rfl⟩
theorem qX12_readLight_6 : Dc mX12_readLight 6 (.istore_n 1) 1 7 := ⟨by decide +kernel, rfl⟩
theorem qX12_readLight_7 : Dc mX12_readLight 7 (.iload_n 1) 1 8 := ⟨by decide +kernel, rfl⟩
theorem qX12_readLight_8 : Dc mX12_readLight 8 (.bipush 8) 2 10 := ⟨by decide +kernel, rfl⟩
theorem qX12_readLight_10 : Dc mX12_readLight 10 (.if_icmp .ne 9) 3 13 := ⟨by decide +kernel, rfl⟩
theorem qX12_readLight_13 : Dc mX12_readLight 13 (.aload_n 0) 1 14 := ⟨by decide +kernel, rfl⟩
theorem qX12_readLight_14 : Dc mX12_readLight 14 (.iconst 4) 1 15 := ⟨by decide +kernel, rfl⟩
theorem qX12_readLight_15 : Dc mX12_readLight 15 (.invokevirtual 180) 3 18 := ⟨by decide +kernel, rfl⟩
theorem qX12_readLight_18 : Dc mX12_readLight 18 (.ireturn) 1 19 := ⟨by decide +kernel, rfl⟩
theorem qX12_readLight_19 : Dc mX12_readLight 19 (.aload_n 0) 1 20 := ⟨by decide +kernel, rfl⟩
theorem qX12_readLight_20 : Dc mX12_readLight 20 (.invokevirtual 183) 3 23 := ⟨by decide +kernel, rfl⟩
theorem qX12_readLight_23 : Dc mX12_readLight 23 (.aload_n 0) 1 24 := ⟨by decide +kernel, rfl⟩
theorem qX12_readLight_24 : Dc mX12_readLight 24 (.bipush 12) 2 26 := ⟨by decide +kernel, rfl⟩
theorem qX12_readLight_26 : Dc mX12_readLight 26 (.iload_n 1) 1 27 := ⟨by decide +kernel, rfl⟩
theorem qX12_readLight_27 : Dc mX12_readLight 27 (.iadd) 1 28 := ⟨by decide +kernel, rfl⟩
theorem qX12_readLight_28 : Dc mX12_readLight 28 (.invokevirtual 234) 3 31 := ⟨by decide +kernel, rfl⟩
theorem qX12_readLight_31 : Dc mX12_readLight 31 (.ifCond .eq 44) 3 34 := ⟨by decide +kernel, rfl⟩
theorem qX12_readLight_34 : Dc mX12_readLight 34 (.aload_n 0) 1 35 := ⟨by decide +kernel, rfl⟩
theorem qX12_readLight_35 : Dc mX12_readLight 35 (.iconst 3) 1 36 := ⟨by decide +kernel, rfl⟩
theorem qX12_readLight_36 : Dc mX12_readLight 36 (.iload_n 1) 1 37 := ⟨by decide +kernel, rfl⟩
theorem qX12_readLight_37 : Dc mX12_readLight 37 (.iadd) 1 38 := ⟨by decide +kernel, rfl⟩
theorem qX12_readLight_38 : Dc mX12_readLight 38 (.iconst 0) 1 39 := ⟨by decide +kernel, rfl⟩
theorem qX12_readLight_39 : Dc mX12_readLight 39 (.bipush 19) 2 41 := ⟨by decide +kernel, rfl⟩
theorem qX12_readLight_41 : Dc mX12_readLight 41 (.invokevirtual 231) 3 44 := ⟨by decide +kernel, rfl⟩
theorem qX12_readLight_44 : Dc mX12_readLight 44 (.ifCond .eq 31) 3 47 := ⟨by decide +kernel, rfl⟩
theorem qX12_readLight_47 : Dc mX12_readLight 47 (.aload_n 0) 1 48 := ⟨by decide +kernel, rfl⟩
theorem qX12_readLight_48 : Dc mX12_readLight 48 (.bipush 11) 2 50 := ⟨by decide +kernel, rfl⟩
theorem qX12_readLight_50 : Dc mX12_readLight 50 (.iload_n 1) 1 51 := ⟨by decide +kernel, rfl⟩
theorem qX12_readLight_51 : Dc mX12_readLight 51 (.iadd) 1 52 := ⟨by decide +kernel, rfl⟩
theorem qX12_readLight_52 : Dc mX12_readLight 52 (.iconst 0) 1 53 := ⟨by decide +kernel, rfl⟩
theorem qX12_readLight_53 : Dc mX12_readLight 53 (.bipush 19) 2 55 := ⟨by decide +kernel, rfl⟩
theorem qX12_readLight_55 : Dc mX12_readLight 55 (.invokevirtual 231) 3 58 := ⟨by decide +kernel, rfl⟩
theorem qX12_readLight_58 : Dc mX12_readLight 58 (.ifCond .eq 17) 3 61 := ⟨by decide +kernel, rfl⟩
theorem qX12_readLight_61 : Dc mX12_readLight 61 (.aload_n 0) 1 62 := ⟨by decide +kernel, rfl⟩
theorem qX12_readLight_62 : Dc mX12_readLight 62 (.bipush 19) 2 64 := ⟨by decide +kernel, rfl⟩
theorem qX12_readLight_64 : Dc mX12_readLight 64 (.iload_n 1) 1 65 := ⟨by decide +kernel, rfl⟩
theorem qX12_readLight_65 : Dc mX12_readLight 65 (.iadd) 1 66 := ⟨by decide +kernel, rfl⟩
theorem qX12_readLight_66 : Dc mX12_readLight 66 (.iconst 1) 1 67 := ⟨by decide +kernel, rfl⟩
theorem qX12_readLight_67 : Dc mX12_readLight 67 (.bipush 30) 2 69 := ⟨by decide +kernel, rfl⟩
theorem qX12_readLight_69 : Dc mX12_readLight 69 (.invokevirtual 231) 3 72 := ⟨by decide +kernel, rfl⟩
theorem qX12_readLight_72 : Dc mX12_readLight 72 (.ifCond .ne 5) 3 75 := ⟨by decide +kernel, rfl⟩
theorem qX12_readLight_75 : Dc mX12_readLight 75 (.iconst 0) 1 76 := ⟨by decide +kernel, rfl⟩
theorem qX12_readLight_76 : Dc mX12_readLight 76 (.ireturn) 1 77 := ⟨by decide +kernel, rfl⟩
theorem qX12_readLight_77 : Dc mX12_readLight 77 (.aload_n 0) 1 78 := ⟨by decide +kernel, rfl⟩
theorem qX12_readLight_78 : Dc mX12_readLight 78 (.ldc2_w 99) 3 81 := ⟨by decide +kernel, rfl⟩
theorem qX12_readLight_81 : Dc mX12_readLight 81 (.invokevirtual 208) 3 84 := ⟨by decide +kernel, rfl⟩
theorem qX12_readLight_84 : Dc mX12_readLight 84 (.ifCond .eq 7) 3 87 := ⟨by decide +kernel, rfl⟩
theorem qX12_readLight_87 : Dc mX12_readLight 87 (.iconst 1) 1 88 := ⟨by decide +kernel, rfl⟩
theorem qX12_readLight_88 : Dc mX12_readLight 88 (.goto 32) 3 91 := ⟨by decide +kernel, rfl⟩
theorem qX12_readLight_91 : Dc mX12_readLight 91 (.aload_n 0) 1 92 := ⟨by decide +kernel, rfl⟩
theorem qX12_readLight_92 : Dc mX12_readLight 92 (.ldc2_w 101) 3 95 := ⟨by decide +kernel, rfl⟩
theorem qX12_readLight_95 : Dc mX12_readLight 95 (.invokevirtual 208) 3 98 := ⟨by decide +kernel, rfl⟩
theorem qX12_readLight_98 : Dc mX12_readLight 98 (.ifCond .eq 7) 3 101 := ⟨by decide +kernel, rfl⟩
theorem qX12_readLight_101 : Dc mX12_readLight 101 (.iconst 2) 1 102 := ⟨by decide +kernel, rfl⟩
theorem qX12_readLight_102 : Dc mX12_readLight 102 (.goto 18) 3 105 := ⟨by decide +kernel, rfl⟩
theorem qX12_readLight_105 : Dc mX12_readLight 105 (.aload_n 0) 1 106 := ⟨by decide +kernel, rfl⟩
theorem qX12_readLight_106 : Dc mX12_readLight 106 (.ldc2_w 103) 3 109 := ⟨by decide +kernel, rfl⟩
theorem qX12_readLight_109 : Dc mX12_readLight 109 (.invokevirtual 208) 3 112 := ⟨by decide +kernel, rfl⟩
theorem qX12_readLight_112 : Dc mX12_readLight 112 (.ifCond .eq 7) 3 115 := ⟨by decide +kernel, rfl⟩
theorem qX12_readLight_115 : Dc mX12_readLight 115 (.iconst 3) 1 116 := ⟨by decide +kernel, rfl⟩
theorem qX12_readLight_116 : Dc mX12_readLight 116 (.goto 4) 3 119 := ⟨by decide +kernel, rfl⟩
theorem qX12_readLight_119 : Dc mX12_readLight 119 (.iconst 0) 1 120 := ⟨by decide +kernel, rfl⟩
theorem qX12_readLight_120 : Dc mX12_readLight 120 (.istore_n 2) 1 121 := ⟨by decide +kernel, rfl⟩
theorem qX12_readLight_121 : Dc mX12_readLight 121 (.iload_n 2) 1 122 := ⟨by decide +kernel, rfl⟩
theorem qX12_readLight_122 : Dc mX12_readLight 122 (.ifCond .ne 9) 3 125 := ⟨by decide +kernel, rfl⟩
theorem qX12_readLight_125 : Dc mX12_readLight 125 (.aload_n 0) 1 126 := ⟨by decide +kernel, rfl⟩
theorem qX12_readLight_126 : Dc mX12_readLight 126 (.iconst 1) 1 127 := ⟨by decide +kernel, rfl⟩
theorem qX12_readLight_127 : Dc mX12_readLight 127 (.invokevirtual 180) 3 130 := ⟨by decide +kernel, rfl⟩
theorem qX12_readLight_130 : Dc mX12_readLight 130 (.ireturn) 1 131 := ⟨by decide +kernel, rfl⟩
theorem qX12_readLight_131 : Dc mX12_readLight 131 (.aload_n 0) 1 132 := ⟨by decide +kernel, rfl⟩
theorem qX12_readLight_132 : Dc mX12_readLight 132 (.getfield 37) 3 135 := ⟨by decide +kernel, rfl⟩
theorem qX12_readLight_135 : Dc mX12_readLight 135 (.bipush 27) 2 137 := ⟨by decide +kernel, rfl⟩
theorem qX12_readLight_137 : Dc mX12_readLight 137 (.iload_n 1) 1 138 := ⟨by decide +kernel, rfl⟩
theorem qX12_readLight_138 : Dc mX12_readLight 138 (.iadd) 1 139 := ⟨by decide +kernel, rfl⟩
theorem qX12_readLight_139 : Dc mX12_readLight 139 (.iload_n 2) 1 140 := ⟨by decide +kernel, rfl⟩
theorem qX12_readLight_140 : Dc mX12_readLight 140 (.iastore) 1 141 := ⟨by decide +kernel, rfl⟩
theorem qX12_readLight_141 : Dc mX12_readLight 141 (.aload_n 0) 1 142 := ⟨by decide +kernel, rfl⟩
theorem qX12_readLight_142 : Dc mX12_readLight 142 (.invokevirtual 183) 3 145 := ⟨by decide +kernel, rfl⟩
theorem qX12_readLight_145 : Dc mX12_readLight 145 (.aload_n 0) 1 146 := ⟨by decide +kernel, rfl⟩
theorem qX12_readLight_146 : Dc mX12_readLight 146 (.bipush 35) 2 148 := ⟨by decide +kernel, rfl⟩
theorem qX12_readLight_148 : Dc mX12_readLight 148 (.iload_n 1) 1 149 := ⟨by decide +kernel, rfl⟩
theorem qX12_readLight_149 : Dc mX12_readLight 149 (.iadd) 1 150 := ⟨by decide +kernel, rfl⟩
theorem qX12_readLight_150 : Dc mX12_readLight 150 (.iconst 0) 1 151 := ⟨by decide +kernel, rfl⟩
theorem qX12_readLight_151 : Dc mX12_readLight 151 (.sipush 999) 3 154 := ⟨by decide +kernel, rfl⟩
theorem qX12_readLight_154 : Dc mX12_readLight 154 (.invokevirtual 231) 3 157 := ⟨by decide +kernel, rfl⟩
theorem qX12_readLight_157 : Dc mX12_readLight 157 (.ifCond .ne 5) 3 160 := ⟨by decide +kernel, rfl⟩
theorem qX12_readLight_160 : Dc mX12_readLight 160 (.iconst 0) 1 161 := ⟨by decide +kernel, rfl⟩
theorem qX12_readLight_161 : Dc mX12_readLight 161 (.ireturn) 1 162 := ⟨by decide +kernel, rfl⟩
theorem qX12_readLight_162 : Dc mX12_readLight 162 (.aload_n 0) 1 163 := ⟨by decide +kernel, rfl⟩
theorem qX12_readLight_163 : Dc mX12_readLight 163 (.getfield 37) 3 166 := ⟨by decide +kernel, rfl⟩
theorem qX12_readLight_166 : Dc mX12_readLight 166 (.iconst 0) 1 167 := ⟨by decide +kernel, rfl⟩
theorem qX12_readLight_167 : Dc mX12_readLight 167 (.dup2) 1 168 := ⟨by decide +kernel, rfl⟩
theorem qX12_readLight_168 : Dc mX12_readLight 168 (.iaload) 1 169 := ⟨by decide +kernel, rfl⟩
theorem qX12_readLight_169 : Dc mX12_readLight 169 (.iconst 1) 1 170 := ⟨by decide +kernel, rfl⟩
theorem qX12_readLight_170 : Dc mX12_readLight 170 (.iadd) 1 171 := ⟨by decide +kernel, rfl⟩
theorem qX12_readLight_171 : Dc mX12_readLight 171 (.iastore) 1 172 := ⟨by decide +kernel, rfl⟩
theorem qX12_readLight_172 : Dc mX12_readLight 172 (.iconst 1) 1 173 := ⟨by decide +kernel, rfl⟩
theorem qX12_readLight_173 : Dc mX12_readLight 173 (.ireturn) 1 174 := ⟨by decide +kernel, rfl⟩

set_option maxRecDepth 20000 in
set_option maxHeartbeats 4000000 in
theorem w_X12_readLight {N : Nat}  {s0 : St} {r : Int32} {sr : St} (h : f_X12_readLight N  s0 = some (r, sr)) : Ct mX12_readLight 4 [.ref 206] s0 (some (.int r), sr) := by
  refine Ct.ofE (by decide +kernel) rfl ?_
  show E mX12_readLight 4 (some (.int r), sr) 0 [some (.ref 206), none, none] [] s0
  unfold f_X12_readLight at h
  refine e_aload_n qX12_readLight_0 rfl ?_
  refine e_getr 209 qX12_readLight_1 fl_X12_37 shq_206 kdq_11_7 rrq_206_7 ?_
  refine e_iconst (nI 0) qX12_readLight_4 rfl ?_
  refine e_iald qX12_readLight_5 shq_209 lnq_209 h (fun v1 h => ?_)
  refine e_istore_n (lv2 := [some (.ref 206), some (.int v1), none]) qX12_readLight_6 rfl rfl rfl ?_
  refine e_iload_n qX12_readLight_7 rfl ?_
  refine e_bipush (nI 8) qX12_readLight_8 rfl ?_
  refine e_icmp_ne (tgt := 19) qX12_readLight_10 rfl h (fun _ h => ?_) (fun _ h => ?_)
  · refine e_aload_n qX12_readLight_13 rfl ?_
    refine e_iconst (nI 4) qX12_readLight_14 rfl ?_
    obtain ⟨v2, s3, hc, h⟩ := bd_e h
    refine e_cVi1 qX12_readLight_15 mv_X12_180 shq_206 rfl rfl (w_X12_bad hc) ?_
    refine rz_e h (fun hz h => ?_)
    exact e_zret qX12_readLight_18 rfl hz (ret_i h)
  refine e_aload_n qX12_readLight_19 rfl ?_
  obtain ⟨s4, hc, h⟩ := bp_e h
  refine e_cVv0 qX12_readLight_20 mv_X12_183 shq_206 rfl rfl (w_X12_next hc) ?_
  refine e_aload_n qX12_readLight_23 rfl ?_
  refine e_bipush (nI 12) qX12_readLight_24 rfl ?_
  refine e_iload_n qX12_readLight_26 rfl ?_
  refine e_iadd qX12_readLight_27 ?_
  obtain ⟨v5, s6, hc, h⟩ := bd_e h
  refine e_cVi1 qX12_readLight_28 mv_X12_234 shq_206 rfl rfl (w_X12_fresh hc) ?_
  refine e_if_eq (tgt := 75) qX12_readLight_31 rfl h (fun _ h => ?_) (fun _ h => ?_)
  · refine e_iconst (nI 0) qX12_readLight_75 rfl ?_
    exact e_zret qX12_readLight_76 rfl (by decide) (ret_i h)
  refine e_aload_n qX12_readLight_34 rfl ?_
  refine e_iconst (nI 3) qX12_readLight_35 rfl ?_
  refine e_iload_n qX12_readLight_36 rfl ?_
  refine e_iadd qX12_readLight_37 ?_
  refine e_iconst (nI 0) qX12_readLight_38 rfl ?_
  refine e_bipush (nI 19) qX12_readLight_39 rfl ?_
  obtain ⟨v7, s8, hc, h⟩ := bd_e h
  refine e_cVi3 qX12_readLight_41 mv_X12_231 shq_206 rfl rfl (w_X12_puts hc) ?_
  refine e_if_eq (tgt := 75) qX12_readLight_44 rfl h (fun _ h => ?_) (fun _ h => ?_)
  · refine e_iconst (nI 0) qX12_readLight_75 rfl ?_
    exact e_zret qX12_readLight_76 rfl (by decide) (ret_i h)
  refine e_aload_n qX12_readLight_47 rfl ?_
  refine e_bipush (nI 11) qX12_readLight_48 rfl ?_
  refine e_iload_n qX12_readLight_50 rfl ?_
  refine e_iadd qX12_readLight_51 ?_
  refine e_iconst (nI 0) qX12_readLight_52 rfl ?_
  refine e_bipush (nI 19) qX12_readLight_53 rfl ?_
  obtain ⟨v9, s10, hc, h⟩ := bd_e h
  refine e_cVi3 qX12_readLight_55 mv_X12_231 shq_206 rfl rfl (w_X12_puts hc) ?_
  refine e_if_eq (tgt := 75) qX12_readLight_58 rfl h (fun _ h => ?_) (fun _ h => ?_)
  · refine e_iconst (nI 0) qX12_readLight_75 rfl ?_
    exact e_zret qX12_readLight_76 rfl (by decide) (ret_i h)
  refine e_aload_n qX12_readLight_61 rfl ?_
  refine e_bipush (nI 19) qX12_readLight_62 rfl ?_
  refine e_iload_n qX12_readLight_64 rfl ?_
  refine e_iadd qX12_readLight_65 ?_
  refine e_iconst (nI 1) qX12_readLight_66 rfl ?_
  refine e_bipush (nI 30) qX12_readLight_67 rfl ?_
  obtain ⟨v11, s12, hc, h⟩ := bd_e h
  refine e_cVi3 qX12_readLight_69 mv_X12_231 shq_206 rfl rfl (w_X12_puts hc) ?_
  refine e_if_ne (tgt := 77) qX12_readLight_72 rfl h (fun _ h => ?_) (fun _ h => ?_)
  · refine e_iconst (nI 0) qX12_readLight_75 rfl ?_
    exact e_zret qX12_readLight_76 rfl (by decide) (ret_i h)
  refine e_aload_n qX12_readLight_77 rfl ?_
  refine e_ldc2 (512852849765 : Int64) qX12_readLight_78 cw_X12_99 ?_
  obtain ⟨v13, hc, h⟩ := bp_e h
  refine e_cVi1 qX12_readLight_81 mv_X12_208 shq_206 rfl rfl (w_X12_isWord hc) ?_
  refine jn_e (fun j => ∀ (v14 : Int32), j v14 = some (r, sr) → E mX12_readLight 4 (some (.int r), sr) 120 [some (.ref 206), some (.int v1), none] [.int v14] s12) h ?_ (fun j15 hj15 h => ?_)
  · intro v14 h
    refine e_istore_n (lv2 := [some (.ref 206), some (.int v1), some (.int v14)]) qX12_readLight_120 rfl rfl rfl ?_
    refine e_iload_n qX12_readLight_121 rfl ?_
    refine e_if_ne (tgt := 131) qX12_readLight_122 rfl h (fun _ h => ?_) (fun _ h => ?_)
    · refine e_aload_n qX12_readLight_125 rfl ?_
      refine e_iconst (nI 1) qX12_readLight_126 rfl ?_
      obtain ⟨v16, s17, hc, h⟩ := bd_e h
      refine e_cVi1 qX12_readLight_127 mv_X12_180 shq_206 rfl rfl (w_X12_bad hc) ?_
      refine rz_e h (fun hz h => ?_)
      exact e_zret qX12_readLight_130 rfl hz (ret_i h)
    refine e_aload_n qX12_readLight_131 rfl ?_
    refine e_getr 209 qX12_readLight_132 fl_X12_37 shq_206 kdq_11_7 rrq_206_7 ?_
    refine e_bipush (nI 27) qX12_readLight_135 rfl ?_
    refine e_iload_n qX12_readLight_137 rfl ?_
    refine e_iadd qX12_readLight_138 ?_
    refine e_iload_n qX12_readLight_139 rfl ?_
    refine e_iast qX12_readLight_140 shq_209 lnq_209 h (fun s18 h => ?_)
    refine e_aload_n qX12_readLight_141 rfl ?_
    obtain ⟨s19, hc, h⟩ := bp_e h
    refine e_cVv0 qX12_readLight_142 mv_X12_183 shq_206 rfl rfl (w_X12_next hc) ?_
    refine e_aload_n qX12_readLight_145 rfl ?_
    refine e_bipush (nI 35) qX12_readLight_146 rfl ?_
    refine e_iload_n qX12_readLight_148 rfl ?_
    refine e_iadd qX12_readLight_149 ?_
    refine e_iconst (nI 0) qX12_readLight_150 rfl ?_
    refine e_sipush (nI 999) qX12_readLight_151 rfl ?_
    obtain ⟨v20, s21, hc, h⟩ := bd_e h
    refine e_cVi3 qX12_readLight_154 mv_X12_231 shq_206 rfl rfl (w_X12_puts hc) ?_
    refine e_if_ne (tgt := 162) qX12_readLight_157 rfl h (fun _ h => ?_) (fun _ h => ?_)
    · refine e_iconst (nI 0) qX12_readLight_160 rfl ?_
      exact e_zret qX12_readLight_161 rfl (by decide) (ret_i h)
    refine e_aload_n qX12_readLight_162 rfl ?_
    refine e_getr 209 qX12_readLight_163 fl_X12_37 shq_206 kdq_11_7 rrq_206_7 ?_
    refine e_iconst (nI 0) qX12_readLight_166 rfl ?_
    refine e_dup2 qX12_readLight_167 rfl rfl ?_
    refine e_iald qX12_readLight_168 shq_209 lnq_209 h (fun v22 h => ?_)
    refine e_iconst (nI 1) qX12_readLight_169 rfl ?_
    refine e_iadd qX12_readLight_170 ?_
    refine e_iast qX12_readLight_171 shq_209 lnq_209 h (fun s23 h => ?_)
    refine e_iconst (nI 1) qX12_readLight_172 rfl ?_
    exact e_zret qX12_readLight_173 rfl (by decide) (ret_i h)
  refine e_if_eq (tgt := 91) qX12_readLight_84 rfl h (fun _ h => ?_) (fun _ h => ?_)
  · refine e_aload_n qX12_readLight_91 rfl ?_
    refine e_ldc2 (7497060 : Int64) qX12_readLight_92 cw_X12_101 ?_
    obtain ⟨v24, hc, h⟩ := bp_e h
    refine e_cVi1 qX12_readLight_95 mv_X12_208 shq_206 rfl rfl (w_X12_isWord hc) ?_
    refine e_if_eq (tgt := 105) qX12_readLight_98 rfl h (fun _ h => ?_) (fun _ h => ?_)
    · refine e_aload_n qX12_readLight_105 rfl ?_
      refine e_ldc2 (444300879214 : Int64) qX12_readLight_106 cw_X12_103 ?_
      obtain ⟨v25, hc, h⟩ := bp_e h
      refine e_cVi1 qX12_readLight_109 mv_X12_208 shq_206 rfl rfl (w_X12_isWord hc) ?_
      refine e_if_eq (tgt := 119) qX12_readLight_112 rfl h (fun _ h => ?_) (fun _ h => ?_)
      · refine e_iconst (nI 0) qX12_readLight_119 rfl ?_
        exact e_weak (hj15 _ h) ⟨Or.inr rfl, Or.inr rfl, Or.inl rfl, trivial⟩
      refine e_iconst (nI 3) qX12_readLight_115 rfl ?_
      refine e_goto (tgt := 120) qX12_readLight_116 rfl ?_
      exact e_weak (hj15 _ h) ⟨Or.inr rfl, Or.inr rfl, Or.inl rfl, trivial⟩
    refine e_iconst (nI 2) qX12_readLight_101 rfl ?_
    refine e_goto (tgt := 120) qX12_readLight_102 rfl ?_
    exact e_weak (hj15 _ h) ⟨Or.inr rfl, Or.inr rfl, Or.inl rfl, trivial⟩
  refine e_iconst (nI 1) qX12_readLight_87 rfl ?_
  refine e_goto (tgt := 120) qX12_readLight_88 rfl ?_
  exact e_weak (hj15 _ h) ⟨Or.inr rfl, Or.inr rfl, Or.inl rfl, trivial⟩

def f_X12_readFlash (N : Nat)  (s0 : St) : Option (Int32 × St) :=
  bp (f_X12_next N s0) fun s1 =>
  ald (s1.1 209) 147 (nI 0) fun v2 =>
  bd (f_X12_looksAt N (nI 12) v2 s1) fun v3 s4 =>
  if v3 = 0 then
    some ((nI 0), s4)
  else
  vl (s4.1 206 18) fun v5 =>
  ald (s4.1 209) 147 ((nI 43) + v5) fun v6 =>
  if v6 = (nI 4) then
    bd (f_X12_bad (nI 4) s4) fun v7 s8 =>
    rz v7 <|
    some (v7, s8)
  else
  bp (f_X12_next N s4) fun s9 =>
  bd (f_X12_puts N (((nI 51) + ((nI 4) * v5)) + v6) (nI 1) (nI 20) s9) fun v10 s11 =>
  if v10 = 0 then
    some ((nI 0), s11)
  else
  bd (f_X12_puts N (((nI 83) + ((nI 4) * v5)) + v6) (nI 1) (nI 20) s11) fun v12 s13 =>
  if v12 = 0 then
    some ((nI 0), s13)
  else
  ald (s13.1 209) 147 ((nI 43) + v5) fun v14 =>
  ald (fun j => sI s13 209 j (v14 + (nI 1))) 147 ((nI 43) + v5) fun s15 =>
  some ((nI 1), s15)

theorem qX12_readFlash_0 : Dc mX12_readFlash 0 (.aload_n 0) 1 1 := ⟨by decide +kernel, rfl⟩
theorem qX12_readFlash_1 : Dc mX12_readFlash 1 (.invokevirtual 183) 3 4 := ⟨by decide +kernel, rfl⟩
theorem qX12_readFlash_4 : Dc mX12_readFlash 4 (.aload_n 0) 1 5 := ⟨by decide +kernel, rfl⟩
theorem qX12_readFlash_5 : Dc mX12_readFlash 5 (.bipush 12) 2 7 := ⟨by decide +kernel, rfl⟩
theorem qX12_readFlash_7 : Dc mX12_readFlash 7 (.aload_n 0) 1 8 := ⟨by decide +kernel, rfl⟩
theorem qX12_readFlash_8 : Dc mX12_readFlash 8 (.getfield 37) 3 11 := ⟨by decide +kernel, rfl⟩
theorem qX12_readFlash_11 : Dc mX12_readFlash 11 (.iconst 0) 1 12 := ⟨by decide +kernel, rfl⟩
theorem qX12_readFlash_12 : Dc mX12_readFlash 12 (.iaload) 1 13 := ⟨by decide +kernel, rfl⟩
theorem qX12_readFlash_13 : Dc mX12_readFlash 13 (.invokevirtual 205) 3 16 := ⟨by decide +kernel, rfl⟩
theorem qX12_readFlash_16 : Dc mX12_readFlash 16 (.ifCond .ne 5) 3 19 := ⟨by decide +kernel, rfl⟩
theorem qX12_readFlash_19 : Dc mX12_readFlash 19 (.iconst 0) 1 20 := ⟨by decide +kernel, rfl⟩
theorem qX12_readFlash_20 : Dc mX12_readFlash 20 (.ireturn) 1 21 := ⟨by decide +kernel, rfl⟩
theorem qX12_readFlash_21 : Dc mX12_readFlash 21 (.aload_n 0) 1 22 := ⟨by decide +kernel, rfl⟩
theorem qX12_readFlash_22 : Dc mX12_readFlash 22 (.getfield 190) 3 25 := ⟨by decide +kernel, rfl⟩
theorem qX12_readFlash_25 : Dc mX12_readFlash 25 (.istore_n 1) 1 26 := ⟨by decide +kernel, rfl⟩
theorem qX12_readFlash_26 : Dc mX12_readFlash 26 (.aload_n 0) 1 27 := ⟨by decide +kernel, rfl⟩
theorem qX12_readFlash_27 : Dc mX12_readFlash 27 (.getfield 37) 3 30 := ⟨by decide +kernel, rfl⟩
theorem qX12_readFlash_30 : Dc mX12_readFlash 30 (.bipush 43) 2 32 := ⟨by decide +kernel, rfl⟩
theorem qX12_readFlash_32 : Dc mX12_readFlash 32 (.iload_n 1) 1 33 := ⟨by decide +kernel, rfl⟩
theorem qX12_readFlash_33 : Dc mX12_readFlash 33 (.iadd) 1 34 := ⟨by decide +kernel, rfl⟩
theorem qX12_readFlash_34 : Dc mX12_readFlash 34 (.iaload) 1 35 := ⟨by decide +kernel, rfl⟩
theorem qX12_readFlash_35 : Dc mX12_readFlash 35 (.istore_n 2) 1 36 := ⟨by decide +kernel, rfl⟩
theorem qX12_readFlash_36 : Dc mX12_readFlash 36 (.iload_n 2) 1 37 := ⟨by decide +kernel, rfl⟩
theorem qX12_readFlash_37 : Dc mX12_readFlash 37 (.iconst 4) 1 38 := ⟨by decide +kernel, rfl⟩
theorem qX12_readFlash_38 : Dc mX12_readFlash 38 (.if_icmp .ne 9) 3 41 := ⟨by decide +kernel, rfl⟩
theorem qX12_readFlash_41 : Dc mX12_readFlash 41 (.aload_n 0) 1 42 := ⟨by decide +kernel, rfl⟩
theorem qX12_readFlash_42 : Dc mX12_readFlash 42 (.iconst 4) 1 43 := ⟨by decide +kernel, rfl⟩
theorem qX12_readFlash_43 : Dc mX12_readFlash 43 (.invokevirtual 180) 3 46 := ⟨by decide +kernel, rfl⟩
theorem qX12_readFlash_46 : Dc mX12_readFlash 46 (.ireturn) 1 47 := ⟨by decide +kernel, rfl⟩
theorem qX12_readFlash_47 : Dc mX12_readFlash 47 (.aload_n 0) 1 48 := ⟨by decide +kernel, rfl⟩
theorem qX12_readFlash_48 : Dc mX12_readFlash 48 (.invokevirtual 183) 3 51 := ⟨by decide +kernel, rfl⟩
theorem qX12_readFlash_51 : Dc mX12_readFlash 51 (.aload_n 0) 1 52 := ⟨by decide +kernel, rfl⟩
theorem qX12_readFlash_52 : Dc mX12_readFlash 52 (.bipush 51) 2 54 := ⟨by decide +kernel, rfl⟩
theorem qX12_readFlash_54 : Dc mX12_readFlash 54 (.iconst 4) 1 55 := ⟨by decide +kernel, rfl⟩
theorem qX12_readFlash_55 : Dc mX12_readFlash 55 (.iload_n 1) 1 56 := ⟨by decide +kernel, rfl⟩
theorem qX12_readFlash_56 : Dc mX12_readFlash 56 (.imul) 1 57 := ⟨by decide +kernel, rfl⟩
theorem qX12_readFlash_57 : Dc mX12_readFlash 57 (.iadd) 1 58 := ⟨by decide +kernel, rfl⟩
theorem qX12_readFlash_58 : Dc mX12_readFlash 58 (.iload_n 2) 1 59 := ⟨by decide +kernel, rfl⟩
theorem qX12_readFlash_59 : Dc mX12_readFlash 59 (.iadd) 1 60 := ⟨by decide +kernel, rfl⟩
theorem qX12_readFlash_60 : Dc mX12_readFlash 60 (.iconst 1) 1 61 := ⟨by decide +kernel, rfl⟩
theorem qX12_readFlash_61 : Dc mX12_readFlash 61 (.bipush 20) 2 63 := ⟨by decide +kernel, rfl⟩
theorem qX12_readFlash_63 : Dc mX12_readFlash 63 (.invokevirtual 231) 3 66 := ⟨by decide +kernel, rfl⟩
theorem qX12_readFlash_66 : Dc mX12_readFlash 66 (.ifCond .eq 21) 3 69 := ⟨by decide +kernel, rfl⟩
theorem qX12_readFlash_69 : Dc mX12_readFlash 69 (.aload_n 0) 1 70 := ⟨by decide +kernel, rfl⟩
theorem qX12_readFlash_70 : Dc mX12_readFlash 70 (.bipush 83) 2 72 := ⟨by decide +kernel, rfl⟩
theorem qX12_readFlash_72 : Dc mX12_readFlash 72 (.iconst 4) 1 73 := ⟨by decide +kernel, rfl⟩
theorem qX12_readFlash_73 : Dc mX12_readFlash 73 (.iload_n 1) 1 74 := ⟨by decide +kernel, rfl⟩
theorem qX12_readFlash_74 : Dc mX12_readFlash 74 (.imul) 1 75 := ⟨by decide +kernel, rfl⟩
theorem qX12_readFlash_75 : Dc mX12_readFlash 75 (.iadd) 1 76 := ⟨by decide +kernel, rfl⟩
theorem qX12_readFlash_76 : Dc mX12_readFlash 76 (.iload_n 2) 1 77 := ⟨by decide +kernel, rfl⟩
theorem qX12_readFlash_77 : Dc mX12_readFlash 77 (.iadd) 1 78 := ⟨by decide +kernel, rfl⟩
theorem qX12_readFlash_78 : Dc mX12_readFlash 78 (.iconst 1) 1 79 := ⟨by decide +kernel, rfl⟩
theorem qX12_readFlash_79 : Dc mX12_readFlash 79 (.bipush 20) 2 81 := ⟨by decide +kernel, rfl⟩
theorem qX12_readFlash_81 : Dc mX12_readFlash 81 (.invokevirtual 231) 3 84 := ⟨by decide +kernel, rfl⟩
theorem qX12_readFlash_84 : Dc mX12_readFlash 84 (.ifCond .ne 5) 3 87 := ⟨by decide +kernel, rfl⟩
theorem qX12_readFlash_87 : Dc mX12_readFlash 87 (.iconst 0) 1 88 := ⟨by decide +kernel, rfl⟩
theorem qX12_readFlash_88 : Dc mX12_readFlash 88 (.ireturn) 1 89 := ⟨by decide +kernel, rfl⟩
theorem qX12_readFlash_89 : Dc mX12_readFlash 89 (.aload_n 0) 1 90 := ⟨by decide +kernel, rfl⟩
theorem qX12_readFlash_90 : Dc mX12_readFlash 90 (.getfield 37) 3 93 := ⟨by decide +kernel, rfl⟩
theorem qX12_readFlash_93 : Dc mX12_readFlash 93 (.bipush 43) 2 95 := ⟨by decide +kernel, rfl⟩
theorem qX12_readFlash_95 : Dc mX12_readFlash 95 (.iload_n 1) 1 96 := ⟨by decide +kernel, rfl⟩
theorem qX12_readFlash_96 : Dc mX12_readFlash 96 (.iadd) 1 97 := ⟨by decide +kernel, rfl⟩
theorem qX12_readFlash_97 : Dc mX12_readFlash 97 (.dup2) 1 98 := ⟨by decide +kernel, rfl⟩
theorem qX12_readFlash_98 : Dc mX12_readFlash 98 (.iaload) 1 99 := ⟨by decide +kernel, rfl⟩
theorem qX12_readFlash_99 : Dc mX12_readFlash 99 (.iconst 1) 1 100 := ⟨by decide +kernel, rfl⟩
theorem qX12_readFlash_100 : Dc mX12_readFlash 100 (.iadd) 1 101 := ⟨by decide +kernel, rfl⟩
theorem qX12_readFlash_101 : Dc mX12_readFlash 101 (.iastore) 1 102 := ⟨by decide +kernel, rfl⟩
theorem qX12_readFlash_102 : Dc mX12_readFlash 102 (.iconst 1) 1 103 := ⟨by decide +kernel, rfl⟩
theorem qX12_readFlash_103 : Dc mX12_readFlash 103 (.ireturn) 1 104 := ⟨by decide +kernel, rfl⟩

set_option maxRecDepth 20000 in
set_option maxHeartbeats 4000000 in
theorem w_X12_readFlash {N : Nat}  {s0 : St} {r : Int32} {sr : St} (h : f_X12_readFlash N  s0 = some (r, sr)) : Ct mX12_readFlash 4 [.ref 206] s0 (some (.int r), sr) := by
  refine Ct.ofE (by decide +kernel) rfl ?_
  show E mX12_readFlash 4 (some (.int r), sr) 0 [some (.ref 206), none, none] [] s0
  unfold f_X12_readFlash at h
  refine e_aload_n qX12_readFlash_0 rfl ?_
  obtain ⟨s1, hc, h⟩ := bp_e h
  refine e_cVv0 qX12_readFlash_1 mv_X12_183 shq_206 rfl rfl (w_X12_next hc) ?_
  refine e_aload_n qX12_readFlash_4 rfl ?_
  refine e_bipush (nI 12) qX12_readFlash_5 rfl ?_
  refine e_aload_n qX12_readFlash_7 rfl ?_
  refine e_getr 209 qX12_readFlash_8 fl_X12_37 shq_206 kdq_11_7 rrq_206_7 ?_
  refine e_iconst (nI 0) qX12_readFlash_11 rfl ?_
  refine e_iald qX12_readFlash_12 shq_209 lnq_209 h (fun v2 h => ?_)
  obtain ⟨v3, s4, hc, h⟩ := bd_e h
  refine e_cVi2 qX12_readFlash_13 mv_X12_205 shq_206 rfl rfl (w_X12_looksAt hc) ?_
  refine e_if_ne (tgt := 21) qX12_readFlash_16 rfl h (fun _ h => ?_) (fun _ h => ?_)
  · refine e_iconst (nI 0) qX12_readFlash_19 rfl ?_
    exact e_zret qX12_readFlash_20 rfl (by decide) (ret_i h)
  refine e_aload_n qX12_readFlash_21 rfl ?_
  refine e_geti qX12_readFlash_22 fl_X12_190 shq_206 kdq_11_18 h (fun v5 h => ?_)
  refine e_istore_n (lv2 := [some (.ref 206), some (.int v5), none]) qX12_readFlash_25 rfl rfl rfl ?_
  refine e_aload_n qX12_readFlash_26 rfl ?_
  refine e_getr 209 qX12_readFlash_27 fl_X12_37 shq_206 kdq_11_7 rrq_206_7 ?_
  refine e_bipush (nI 43) qX12_readFlash_30 rfl ?_
  refine e_iload_n qX12_readFlash_32 rfl ?_
  refine e_iadd qX12_readFlash_33 ?_
  refine e_iald qX12_readFlash_34 shq_209 lnq_209 h (fun v6 h => ?_)
  refine e_istore_n (lv2 := [some (.ref 206), some (.int v5), some (.int v6)]) qX12_readFlash_35 rfl rfl rfl ?_
  refine e_iload_n qX12_readFlash_36 rfl ?_
  refine e_iconst (nI 4) qX12_readFlash_37 rfl ?_
  refine e_icmp_ne (tgt := 47) qX12_readFlash_38 rfl h (fun _ h => ?_) (fun _ h => ?_)
  · refine e_aload_n qX12_readFlash_41 rfl ?_
    refine e_iconst (nI 4) qX12_readFlash_42 rfl ?_
    obtain ⟨v7, s8, hc, h⟩ := bd_e h
    refine e_cVi1 qX12_readFlash_43 mv_X12_180 shq_206 rfl rfl (w_X12_bad hc) ?_
    refine rz_e h (fun hz h => ?_)
    exact e_zret qX12_readFlash_46 rfl hz (ret_i h)
  refine e_aload_n qX12_readFlash_47 rfl ?_
  obtain ⟨s9, hc, h⟩ := bp_e h
  refine e_cVv0 qX12_readFlash_48 mv_X12_183 shq_206 rfl rfl (w_X12_next hc) ?_
  refine e_aload_n qX12_readFlash_51 rfl ?_
  refine e_bipush (nI 51) qX12_readFlash_52 rfl ?_
  refine e_iconst (nI 4) qX12_readFlash_54 rfl ?_
  refine e_iload_n qX12_readFlash_55 rfl ?_
  refine e_imul qX12_readFlash_56 ?_
  refine e_iadd qX12_readFlash_57 ?_
  refine e_iload_n qX12_readFlash_58 rfl ?_
  refine e_iadd qX12_readFlash_59 ?_
  refine e_iconst (nI 1) qX12_readFlash_60 rfl ?_
  refine e_bipush (nI 20) qX12_readFlash_61 rfl ?_
  obtain ⟨v10, s11, hc, h⟩ := bd_e h
  refine e_cVi3 qX12_readFlash_63 mv_X12_231 shq_206 rfl rfl (w_X12_puts hc) ?_
  refine e_if_eq (tgt := 87) qX12_readFlash_66 rfl h (fun _ h => ?_) (fun _ h => ?_)
  · refine e_iconst (nI 0) qX12_readFlash_87 rfl ?_
    exact e_zret qX12_readFlash_88 rfl (by decide) (ret_i h)
  refine e_aload_n qX12_readFlash_69 rfl ?_
  refine e_bipush (nI 83) qX12_readFlash_70 rfl ?_
  refine e_iconst (nI 4) qX12_readFlash_72 rfl ?_
  refine e_iload_n qX12_readFlash_73 rfl ?_
  refine e_imul qX12_readFlash_74 ?_
  refine e_iadd qX12_readFlash_75 ?_
  refine e_iload_n qX12_readFlash_76 rfl ?_
  refine e_iadd qX12_readFlash_77 ?_
  refine e_iconst (nI 1) qX12_readFlash_78 rfl ?_
  refine e_bipush (nI 20) qX12_readFlash_79 rfl ?_
  obtain ⟨v12, s13, hc, h⟩ := bd_e h
  refine e_cVi3 qX12_readFlash_81 mv_X12_231 shq_206 rfl rfl (w_X12_puts hc) ?_
  refine e_if_ne (tgt := 89) qX12_readFlash_84 rfl h (fun _ h => ?_) (fun _ h => ?_)
  · refine e_iconst (nI 0) qX12_readFlash_87 rfl ?_
    exact e_zret qX12_readFlash_88 rfl (by decide) (ret_i h)
  refine e_aload_n qX12_readFlash_89 rfl ?_
  refine e_getr 209 qX12_readFlash_90 fl_X12_37 shq_206 kdq_11_7 rrq_206_7 ?_
  refine e_bipush (nI 43) qX12_readFlash_93 rfl ?_
  refine e_iload_n qX12_readFlash_95 rfl ?_
  refine e_iadd qX12_readFlash_96 ?_
  refine e_dup2 qX12_readFlash_97 rfl rfl ?_
  refine e_iald qX12_readFlash_98 shq_209 lnq_209 h (fun v14 h => ?_)
  refine e_iconst (nI 1) qX12_readFlash_99 rfl ?_
  refine e_iadd qX12_readFlash_100 ?_
  refine e_iast qX12_readFlash_101 shq_209 lnq_209 h (fun s15 h => ?_)
  refine e_iconst (nI 1) qX12_readFlash_102 rfl ?_
  exact e_zret qX12_readFlash_103 rfl (by decide) (ret_i h)

def f_X12_readFrom (N : Nat)  (s0 : St) : Option (Int32 × St) :=
  bp (f_X12_next N s0) fun s1 =>
  ald (s1.1 209) 147 (nI 0) fun v2 =>
  bd (f_X12_looksAt N (nI 12) v2 s1) fun v3 s4 =>
  if v3 = 0 then
    some ((nI 0), s4)
  else
  vl (s4.1 206 18) fun v5 =>
  vl (s4.1 206 20) fun v6 =>
  bp (f_X12_bitOf v6 v5 s4) fun v7 =>
  if v7 = 0 then
    vl (s4.1 206 20) fun v8 =>
    vl (sI s4 206 20 (v8 ||| ((nI 1) <<< (v5 &&& 31)))) fun s9 =>
    bp (f_X12_next N s9) fun s10 =>
    bd (f_X12_puts N ((nI 115) + v5) (nI 0) (nI 59) s10) fun v11 s12 =>
    rz v11 <|
    some (v11, s12)
  else
  bd (f_X12_bad (nI 3) s4) fun v13 s14 =>
  rz v13 <|
  some (v13, s14)

theorem qX12_readFrom_0 : Dc mX12_readFrom 0 (.aload_n 0) 1 1 := ⟨by decide +kernel, rfl⟩
theorem qX12_readFrom_1 : Dc mX12_readFrom 1 (.invokevirtual 183) 3 4 := ⟨by decide +kernel, rfl⟩
theorem qX12_readFrom_4 : Dc mX12_readFrom 4 (.aload_n 0) 1 5 := ⟨by decide +kernel, rfl⟩
theorem qX12_readFrom_5 : Dc mX12_readFrom 5 (.bipush 12) 2 7 := ⟨by decide +kernel, rfl⟩
theorem qX12_readFrom_7 : Dc mX12_readFrom 7 (.aload_n 0) 1 8 := ⟨by decide +kernel, rfl⟩
theorem qX12_readFrom_8 : Dc mX12_readFrom 8 (.getfield 37) 3 11 := ⟨by decide +kernel, rfl⟩
theorem qX12_readFrom_11 : Dc mX12_readFrom 11 (.iconst 0) 1 12 := ⟨by decide +kernel, rfl⟩
theorem qX12_readFrom_12 : Dc mX12_readFrom 12 (.iaload) 1 13 := ⟨by decide +kernel, rfl⟩
theorem qX12_readFrom_13 : Dc mX12_readFrom 13 (.invokevirtual 205) 3 16 := ⟨by decide +kernel, rfl⟩
theorem qX12_readFrom_16 : Dc mX12_readFrom 16 (.ifCond .ne 5) 3 19 := ⟨by decide +kernel, rfl⟩
theorem qX12_readFrom_19 : Dc mX12_readFrom 19 (.iconst 0) 1 20 := ⟨by decide +kernel, rfl⟩
theorem qX12_readFrom_20 : Dc mX12_readFrom 20 (.ireturn) 1 21 := ⟨by decide +kernel, rfl⟩
theorem qX12_readFrom_21 : Dc mX12_readFrom 21 (.aload_n 0) 1 22 := ⟨by decide +kernel, rfl⟩
theorem qX12_readFrom_22 : Dc mX12_readFrom 22 (.getfield 190) 3 25 := ⟨by decide +kernel, rfl⟩
theorem qX12_readFrom_25 : Dc mX12_readFrom 25 (.istore_n 1) 1 26 := ⟨by decide +kernel, rfl⟩
theorem qX12_readFrom_26 : Dc mX12_readFrom 26 (.aload_n 0) 1 27 := ⟨by decide +kernel, rfl⟩
theorem qX12_readFrom_27 : Dc mX12_readFrom 27 (.getfield 237) 3 30 := ⟨by decide +kernel, rfl⟩
theorem qX12_readFrom_30 : Dc mX12_readFrom 30 (.iload_n 1) 1 31 := ⟨by decide +kernel, rfl⟩
theorem qX12_readFrom_31 : Dc mX12_readFrom 31 (.invokestatic 240) 3 34 := ⟨by decide +kernel, rfl⟩
theorem qX12_readFrom_34 : Dc mX12_readFrom 34 (.ifCond .eq 9) 3 37 := ⟨by decide +kernel, rfl⟩
theorem qX12_readFrom_37 : Dc mX12_readFrom 37 (.aload_n 0) 1 38 := ⟨by decide +kernel, rfl⟩
theorem qX12_readFrom_38 : Dc mX12_readFrom 38 (.iconst 3) 1 39 := ⟨by decide +kernel, rfl⟩
theorem qX12_readFrom_39 : Dc mX12_readFrom 39 (.invokevirtual 180) 3 42 := ⟨by decide +kernel, rfl⟩
theorem qX12_readFrom_42 : Dc mX12_readFrom 42 (.ireturn) 1 43 := ⟨by decide +kernel, rfl⟩
theorem qX12_readFrom_43 : Dc mX12_readFrom 43 (.aload_n 0) 1 44 := ⟨by decide +kernel, rfl⟩
theorem qX12_readFrom_44 : Dc mX12_readFrom 44 (.dup) 1 45 := ⟨by decide +kernel, rfl⟩
theorem qX12_readFrom_45 : Dc mX12_readFrom 45 (.getfield 237) 3 48 := ⟨by decide +kernel, rfl⟩
theorem qX12_readFrom_48 : Dc mX12_readFrom 48 (.iconst 1) 1 49 := ⟨by decide +kernel, rfl⟩
theorem qX12_readFrom_49 : Dc mX12_readFrom 49 (.iload_n 1) 1 50 := ⟨by decide +kernel, rfl⟩
theorem qX12_readFrom_50 : Dc mX12_readFrom 50 (.ishl) 1 51 := ⟨by decide +kernel, rfl⟩
theorem qX12_readFrom_51 : Dc mX12_readFrom 51 (.ior) 1 52 := ⟨by decide +kernel, rfl⟩
theorem qX12_readFrom_52 : Dc mX12_readFrom 52 (.putfield 237) 3 55 := ⟨by decide +kernel, rfl⟩
theorem qX12_readFrom_55 : Dc mX12_readFrom 55 (.aload_n 0) 1 56 := ⟨by decide +kernel, rfl⟩
theorem qX12_readFrom_56 : Dc mX12_readFrom 56 (.invokevirtual 183) 3 59 := ⟨by decide +kernel, rfl⟩
theorem qX12_readFrom_59 : Dc mX12_readFrom 59 (.aload_n 0) 1 60 := ⟨by decide +kernel, rfl⟩
theorem qX12_readFrom_60 : Dc mX12_readFrom 60 (.bipush 115) 2 62 := ⟨by decide +kernel, rfl⟩
theorem qX12_readFrom_62 : Dc mX12_readFrom 62 (.iload_n 1) 1 63 := ⟨by decide +kernel, rfl⟩
theorem qX12_readFrom_63 : Dc mX12_readFrom 63 (.iadd) 1 64 := ⟨by decide +kernel, rfl⟩
theorem qX12_readFrom_64 : Dc mX12_readFrom 64 (.iconst 0) 1 65 := ⟨by decide +kernel, rfl⟩
theorem qX12_readFrom_65 : Dc mX12_readFrom 65 (.bipush 59) 2 67 := ⟨by decide +kernel, rfl⟩
theorem qX12_readFrom_67 : Dc mX12_readFrom 67 (.invokevirtual 231) 3 70 := ⟨by decide +kernel, rfl⟩
theorem qX12_readFrom_70 : Dc mX12_readFrom 70 (.ireturn) 1 71 := ⟨by decide +kernel, rfl⟩

set_option maxRecDepth 20000 in
set_option maxHeartbeats 4000000 in
theorem w_X12_readFrom {N : Nat}  {s0 : St} {r : Int32} {sr : St} (h : f_X12_readFrom N  s0 = some (r, sr)) : Ct mX12_readFrom 4 [.ref 206] s0 (some (.int r), sr) := by
  refine Ct.ofE (by decide +kernel) rfl ?_
  show E mX12_readFrom 4 (some (.int r), sr) 0 [some (.ref 206), none] [] s0
  unfold f_X12_readFrom at h
  refine e_aload_n qX12_readFrom_0 rfl ?_
  obtain ⟨s1, hc, h⟩ := bp_e h
  refine e_cVv0 qX12_readFrom_1 mv_X12_183 shq_206 rfl rfl (w_X12_next hc) ?_
  refine e_aload_n qX12_readFrom_4 rfl ?_
  refine e_bipush (nI 12) qX12_readFrom_5 rfl ?_
  refine e_aload_n qX12_readFrom_7 rfl ?_
  refine e_getr 209 qX12_readFrom_8 fl_X12_37 shq_206 kdq_11_7 rrq_206_7 ?_
  refine e_iconst (nI 0) qX12_readFrom_11 rfl ?_
  refine e_iald qX12_readFrom_12 shq_209 lnq_209 h (fun v2 h => ?_)
  obtain ⟨v3, s4, hc, h⟩ := bd_e h
  refine e_cVi2 qX12_readFrom_13 mv_X12_205 shq_206 rfl rfl (w_X12_looksAt hc) ?_
  refine e_if_ne (tgt := 21) qX12_readFrom_16 rfl h (fun _ h => ?_) (fun _ h => ?_)
  · refine e_iconst (nI 0) qX12_readFrom_19 rfl ?_
    exact e_zret qX12_readFrom_20 rfl (by decide) (ret_i h)
  refine e_aload_n qX12_readFrom_21 rfl ?_
  refine e_geti qX12_readFrom_22 fl_X12_190 shq_206 kdq_11_18 h (fun v5 h => ?_)
  refine e_istore_n (lv2 := [some (.ref 206), some (.int v5)]) qX12_readFrom_25 rfl rfl rfl ?_
  refine e_aload_n qX12_readFrom_26 rfl ?_
  refine e_geti qX12_readFrom_27 fl_X12_237 shq_206 kdq_11_20 h (fun v6 h => ?_)
  refine e_iload_n qX12_readFrom_30 rfl ?_
  obtain ⟨v7, hc, h⟩ := bp_e h
  refine e_cSi2 qX12_readFrom_31 ms_X12_240 rfl rfl (w_X12_bitOf hc) ?_
  refine e_if_eq (tgt := 43) qX12_readFrom_34 rfl h (fun _ h => ?_) (fun _ h => ?_)
  · refine e_aload_n qX12_readFrom_43 rfl ?_
    refine e_dup qX12_readFrom_44 rfl ?_
    refine e_geti qX12_readFrom_45 fl_X12_237 shq_206 kdq_11_20 h (fun v8 h => ?_)
    refine e_iconst (nI 1) qX12_readFrom_48 rfl ?_
    refine e_iload_n qX12_readFrom_49 rfl ?_
    refine e_ishl qX12_readFrom_50 ?_
    refine e_ior qX12_readFrom_51 ?_
    refine e_puti qX12_readFrom_52 fp_X12_237 shq_206 kdq_11_20 h (fun s9 h => ?_)
    refine e_aload_n qX12_readFrom_55 rfl ?_
    obtain ⟨s10, hc, h⟩ := bp_e h
    refine e_cVv0 qX12_readFrom_56 mv_X12_183 shq_206 rfl rfl (w_X12_next hc) ?_
    refine e_aload_n qX12_readFrom_59 rfl ?_
    refine e_bipush (nI 115) qX12_readFrom_60 rfl ?_
    refine e_iload_n qX12_readFrom_62 rfl ?_
    refine e_iadd qX12_readFrom_63 ?_
    refine e_iconst (nI 0) qX12_readFrom_64 rfl ?_
    refine e_bipush (nI 59) qX12_readFrom_65 rfl ?_
    obtain ⟨v11, s12, hc, h⟩ := bd_e h
    refine e_cVi3 qX12_readFrom_67 mv_X12_231 shq_206 rfl rfl (w_X12_puts hc) ?_
    refine rz_e h (fun hz h => ?_)
    exact e_zret qX12_readFrom_70 rfl hz (ret_i h)
  refine e_aload_n qX12_readFrom_37 rfl ?_
  refine e_iconst (nI 3) qX12_readFrom_38 rfl ?_
  obtain ⟨v13, s14, hc, h⟩ := bd_e h
  refine e_cVi1 qX12_readFrom_39 mv_X12_180 shq_206 rfl rfl (w_X12_bad hc) ?_
  refine rz_e h (fun hz h => ?_)
  exact e_zret qX12_readFrom_42 rfl hz (ret_i h)

def f_X12_readDark (N : Nat)  (s0 : St) : Option (Int32 × St) :=
  bp (f_X12_next N s0) fun s1 =>
  ald (s1.1 209) 147 (nI 0) fun v2 =>
  bd (f_X12_takesName N (nI 12) v2 s1) fun v3 s4 =>
  if v3 = 0 then
    some ((nI 0), s4)
  else
  vl (s4.1 206 18) fun v5 =>
  vl (s4.1 206 11) fun v6 =>
  if v6 = (nI 2) then
    vl (s4.1 206 14) fun v7 =>
    if v7 ≤ (nI 7) then
      ald (s4.1 209) 147 ((nI 123) + v5) fun v8 =>
      vl (s4.1 206 14) fun v9 =>
      bp (f_X12_bitOf v8 v9 s4) fun v10 =>
      if v10 = 0 then
        ald (s4.1 209) 147 ((nI 123) + v5) fun v11 =>
        vl (s4.1 206 14) fun v12 =>
        ald (fun j => sI s4 209 j (v11 ||| ((nI 1) <<< (v12 &&& 31)))) 147 ((nI 123) + v5) fun s13 =>
        bp (f_X12_next N s13) fun s14 =>
        some ((nI 1), s14)
      else
      bd (f_X12_bad (nI 3) s4) fun v15 s16 =>
      rz v15 <|
      some (v15, s16)
    else
    bd (f_X12_bad (nI 2) s4) fun v17 s18 =>
    rz v17 <|
    some (v17, s18)
  else
  bd (f_X12_bad (nI 1) s4) fun v19 s20 =>
  rz v19 <|
  some (v19, s20)

theorem qX12_readDark_0 : Dc mX12_readDark 0 (.aload_n 0) 1 1 := ⟨by decide +kernel, rfl⟩
theorem qX12_readDark_1 : Dc mX12_readDark 1 (.invokevirtual 183) 3 4 := ⟨by decide +kernel, rfl⟩
theorem qX12_readDark_4 : Dc mX12_readDark 4 (.aload_n 0) 1 5 := ⟨by decide +kernel, rfl⟩
theorem qX12_readDark_5 : Dc mX12_readDark 5 (.bipush 12) 2 7 := ⟨by decide +kernel, rfl⟩
theorem qX12_readDark_7 : Dc mX12_readDark 7 (.aload_n 0) 1 8 := ⟨by decide +kernel, rfl⟩
theorem qX12_readDark_8 : Dc mX12_readDark 8 (.getfield 37) 3 11 := ⟨by decide +kernel, rfl⟩
theorem qX12_readDark_11 : Dc mX12_readDark 11 (.iconst 0) 1 12 := ⟨by decide +kernel, rfl⟩
theorem qX12_readDark_12 : Dc mX12_readDark 12 (.iaload) 1 13 := ⟨by decide +kernel, rfl⟩
theorem qX12_readDark_13 : Dc mX12_readDark 13 (.invokevirtual 243) 3 16 := ⟨by decide +kernel, rfl⟩
theorem qX12_readDark_16 : Dc mX12_readDark 16 (.ifCond .ne 5) 3 19 := ⟨by decide +kernel, rfl⟩
theorem qX12_readDark_19 : Dc mX12_readDark 19 (.iconst 0) 1 20 := ⟨by decide +kernel, rfl⟩
theorem qX12_readDark_20 : Dc mX12_readDark 20 (.ireturn) 1 21 := ⟨by decide +kernel, rfl⟩
theorem qX12_readDark_21 : Dc mX12_readDark 21 (.aload_n 0) 1 22 := ⟨by decide +kernel, rfl⟩
theorem qX12_readDark_22 : Dc mX12_readDark 22 (.getfield 190) 3 25 := ⟨by decide +kernel, rfl⟩
theorem qX12_readDark_25 : Dc mX12_readDark 25 (.istore_n 1) 1 26 := ⟨by decide +kernel, rfl⟩
theorem qX12_readDark_26 : Dc mX12_readDark 26 (.aload_n 0) 1 27 := ⟨by decide +kernel, rfl⟩
theorem qX12_readDark_27 : Dc mX12_readDark 27 (.getfield 154) 3 30 := ⟨by decide +kernel, rfl⟩
theorem qX12_readDark_30 : Dc mX12_readDark 30 (.iconst 2) 1 31 := ⟨by decide +kernel, rfl⟩
theorem qX12_readDark_31 : Dc mX12_readDark 31 (.if_icmp .eq 9) 3 34 := ⟨by decide +kernel, rfl⟩
theorem qX12_readDark_34 : Dc mX12_readDark 34 (.aload_n 0) 1 35 := ⟨by decide +kernel, rfl⟩
theorem qX12_readDark_35 : Dc mX12_readDark 35 (.iconst 1) 1 36 := ⟨by decide +kernel, rfl⟩
theorem qX12_readDark_36 : Dc mX12_readDark 36 (.invokevirtual 180) 3 39 := ⟨by decide +kernel, rfl⟩
theorem qX12_readDark_39 : Dc mX12_readDark 39 (.ireturn) 1 40 := ⟨by decide +kernel, rfl⟩
theorem qX12_readDark_40 : Dc mX12_readDark 40 (.aload_n 0) 1 41 := ⟨by decide +kernel, rfl⟩
theorem qX12_readDark_41 : Dc mX12_readDark 41 (.getfield 164) 3 44 := ⟨by decide +kernel, rfl⟩
theorem qX12_readDark_44 : Dc mX12_readDark 44 (.bipush 7) 2 46 := ⟨by decide +kernel, rfl⟩
theorem qX12_readDark_46 : Dc mX12_readDark 46 (.if_icmp .le 9) 3 49 := ⟨by decide +kernel, rfl⟩
theorem qX12_readDark_49 : Dc mX12_readDark 49 (.aload_n 0) 1 50 := ⟨by decide +kernel, rfl⟩
theorem qX12_readDark_50 : Dc mX12_readDark 50 (.iconst 2) 1 51 := ⟨by decide +kernel, rfl⟩
theorem qX12_readDark_51 : Dc mX12_readDark 51 (.invokevirtual 180) 3 54 := ⟨by decide +kernel, rfl⟩
theorem qX12_readDark_54 : Dc mX12_readDark 54 (.ireturn) 1 55 := ⟨by decide +kernel, rfl⟩
theorem qX12_readDark_55 : Dc mX12_readDark 55 (.aload_n 0) 1 56 := ⟨by decide +kernel, rfl⟩
theorem qX12_readDark_56 : Dc mX12_readDark 56 (.getfield 37) 3 59 := ⟨by decide +kernel, rfl⟩
theorem qX12_readDark_59 : Dc mX12_readDark 59 (.bipush 123) 2 61 := ⟨by decide +kernel, rfl⟩
theorem qX12_readDark_61 : Dc mX12_readDark 61 (.iload_n 1) 1 62 := ⟨by decide +kernel, rfl⟩
theorem qX12_readDark_62 : Dc mX12_readDark 62 (.iadd) 1 63 := ⟨by decide +kernel, rfl⟩
theorem qX12_readDark_63 : Dc mX12_readDark 63 (.iaload) 1 64 := ⟨by decide +kernel, rfl⟩
theorem qX12_readDark_64 : Dc mX12_readDark 64 (.aload_n 0) 1 65 := ⟨by decide +kernel, rfl⟩
theorem qX12_readDark_65 : Dc mX12_readDark 65 (.getfield 164) 3 68 := ⟨by decide +kernel, rfl⟩
theorem qX12_readDark_68 : Dc mX12_readDark 68 (.invokestatic 240) 3 71 := ⟨by decide +kernel, rfl⟩
theorem qX12_readDark_71 : Dc mX12_readDark 71 (.ifCond .eq 9) 3 74 := ⟨by decide +kernel, rfl⟩
theorem qX12_readDark_74 : Dc mX12_readDark 74 (.aload_n 0) 1 75 := ⟨by decide +kernel, rfl⟩
theorem qX12_readDark_75 : Dc mX12_readDark 75 (.iconst 3) 1 76 := ⟨by decide +kernel, rfl⟩
theorem qX12_readDark_76 : Dc mX12_readDark 76 (.invokevirtual 180) 3 79 := ⟨by decide +kernel, rfl⟩
theorem qX12_readDark_79 : Dc mX12_readDark 79 (.ireturn) 1 80 := ⟨by decide +kernel, rfl⟩
theorem qX12_readDark_80 : Dc mX12_readDark 80 (.aload_n 0) 1 81 := ⟨by decide +kernel, rfl⟩
theorem qX12_readDark_81 : Dc mX12_readDark 81 (.getfield 37) 3 84 := ⟨by decide +kernel, rfl⟩
theorem qX12_readDark_84 : Dc mX12_readDark 84 (.bipush 123) 2 86 := ⟨by decide +kernel, rfl⟩
theorem qX12_readDark_86 : Dc mX12_readDark 86 (.iload_n 1) 1 87 := ⟨by decide +kernel, rfl⟩
theorem qX12_readDark_87 : Dc mX12_readDark 87 (.iadd) 1 88 := ⟨by decide +kernel, rfl⟩
theorem qX12_readDark_88 : Dc mX12_readDark 88 (.dup2) 1 89 := ⟨by decide +kernel, rfl⟩
theorem qX12_readDark_89 : Dc mX12_readDark 89 (.iaload) 1 90 := ⟨by decide +kernel, rfl⟩
theorem qX12_readDark_90 : Dc mX12_readDark 90 (.iconst 1) 1 91 := ⟨by decide +kernel, rfl⟩
theorem qX12_readDark_91 : Dc mX12_readDark 91 (.aload_n 0) 1 92 := ⟨by decide +kernel, rfl⟩
theorem qX12_readDark_92 : Dc mX12_readDark 92 (.getfield 164) 3 95 := ⟨by decide +kernel, rfl⟩
theorem qX12_readDark_95 : Dc mX12_readDark 95 (.ishl) 1 96 := ⟨by decide +kernel, rfl⟩
theorem qX12_readDark_96 : Dc mX12_readDark 96 (.ior) 1 97 := ⟨by decide +kernel, rfl⟩
theorem qX12_readDark_97 : Dc mX12_readDark 97 (.iastore) 1 98 := ⟨by decide +kernel, rfl⟩
theorem qX12_readDark_98 : Dc mX12_readDark 98 (.aload_n 0) 1 99 := ⟨by decide +kernel, rfl⟩
theorem qX12_readDark_99 : Dc mX12_readDark 99 (.invokevirtual 183) 3 102 := ⟨by decide +kernel, rfl⟩
theorem qX12_readDark_102 : Dc mX12_readDark 102 (.iconst 1) 1 103 := ⟨by decide +kernel, rfl⟩
theorem qX12_readDark_103 : Dc mX12_readDark 103 (.ireturn) 1 104 := ⟨by decide +kernel, rfl⟩

set_option maxRecDepth 20000 in
set_option maxHeartbeats 4000000 in
theorem w_X12_readDark {N : Nat}  {s0 : St} {r : Int32} {sr : St} (h : f_X12_readDark N  s0 = some (r, sr)) : Ct mX12_readDark 3 [.ref 206] s0 (some (.int r), sr) := by
  refine Ct.ofE (by decide +kernel) rfl ?_
  show E mX12_readDark 3 (some (.int r), sr) 0 [some (.ref 206), none] [] s0
  unfold f_X12_readDark at h
  refine e_aload_n qX12_readDark_0 rfl ?_
  obtain ⟨s1, hc, h⟩ := bp_e h
  refine e_cVv0 qX12_readDark_1 mv_X12_183 shq_206 rfl rfl (w_X12_next hc) ?_
  refine e_aload_n qX12_readDark_4 rfl ?_
  refine e_bipush (nI 12) qX12_readDark_5 rfl ?_
  refine e_aload_n qX12_readDark_7 rfl ?_
  refine e_getr 209 qX12_readDark_8 fl_X12_37 shq_206 kdq_11_7 rrq_206_7 ?_
  refine e_iconst (nI 0) qX12_readDark_11 rfl ?_
  refine e_iald qX12_readDark_12 shq_209 lnq_209 h (fun v2 h => ?_)
  obtain ⟨v3, s4, hc, h⟩ := bd_e h
  refine e_cVi2 qX12_readDark_13 mv_X12_243 shq_206 rfl rfl (w_X12_takesName hc) ?_
  refine e_if_ne (tgt := 21) qX12_readDark_16 rfl h (fun _ h => ?_) (fun _ h => ?_)
  · refine e_iconst (nI 0) qX12_readDark_19 rfl ?_
    exact e_zret qX12_readDark_20 rfl (by decide) (ret_i h)
  refine e_aload_n qX12_readDark_21 rfl ?_
  refine e_geti qX12_readDark_22 fl_X12_190 shq_206 kdq_11_18 h (fun v5 h => ?_)
  refine e_istore_n (lv2 := [some (.ref 206), some (.int v5)]) qX12_readDark_25 rfl rfl rfl ?_
  refine e_aload_n qX12_readDark_26 rfl ?_
  refine e_geti qX12_readDark_27 fl_X12_154 shq_206 kdq_11_11 h (fun v6 h => ?_)
  refine e_iconst (nI 2) qX12_readDark_30 rfl ?_
  refine e_icmp_eq (tgt := 40) qX12_readDark_31 rfl h (fun _ h => ?_) (fun _ h => ?_)
  · refine e_aload_n qX12_readDark_40 rfl ?_
    refine e_geti qX12_readDark_41 fl_X12_164 shq_206 kdq_11_14 h (fun v7 h => ?_)
    refine e_bipush (nI 7) qX12_readDark_44 rfl ?_
    refine e_icmp_le (tgt := 55) qX12_readDark_46 rfl h (fun _ h => ?_) (fun _ h => ?_)
    · refine e_aload_n qX12_readDark_55 rfl ?_
      refine e_getr 209 qX12_readDark_56 fl_X12_37 shq_206 kdq_11_7 rrq_206_7 ?_
      refine e_bipush (nI 123) qX12_readDark_59 rfl ?_
      refine e_iload_n qX12_readDark_61 rfl ?_
      refine e_iadd qX12_readDark_62 ?_
      refine e_iald qX12_readDark_63 shq_209 lnq_209 h (fun v8 h => ?_)
      refine e_aload_n qX12_readDark_64 rfl ?_
      refine e_geti qX12_readDark_65 fl_X12_164 shq_206 kdq_11_14 h (fun v9 h => ?_)
      obtain ⟨v10, hc, h⟩ := bp_e h
      refine e_cSi2 qX12_readDark_68 ms_X12_240 rfl rfl (w_X12_bitOf hc) ?_
      refine e_if_eq (tgt := 80) qX12_readDark_71 rfl h (fun _ h => ?_) (fun _ h => ?_)
      · refine e_aload_n qX12_readDark_80 rfl ?_
        refine e_getr 209 qX12_readDark_81 fl_X12_37 shq_206 kdq_11_7 rrq_206_7 ?_
        refine e_bipush (nI 123) qX12_readDark_84 rfl ?_
        refine e_iload_n qX12_readDark_86 rfl ?_
        refine e_iadd qX12_readDark_87 ?_
        refine e_dup2 qX12_readDark_88 rfl rfl ?_
        refine e_iald qX12_readDark_89 shq_209 lnq_209 h (fun v11 h => ?_)
        refine e_iconst (nI 1) qX12_readDark_90 rfl ?_
        refine e_aload_n qX12_readDark_91 rfl ?_
        refine e_geti qX12_readDark_92 fl_X12_164 shq_206 kdq_11_14 h (fun v12 h => ?_)
        refine e_ishl qX12_readDark_95 ?_
        refine e_ior qX12_readDark_96 ?_
        refine e_iast qX12_readDark_97 shq_209 lnq_209 h (fun s13 h => ?_)
        refine e_aload_n qX12_readDark_98 rfl ?_
        obtain ⟨s14, hc, h⟩ := bp_e h
        refine e_cVv0 qX12_readDark_99 mv_X12_183 shq_206 rfl rfl (w_X12_next hc) ?_
        refine e_iconst (nI 1) qX12_readDark_102 rfl ?_
        exact e_zret qX12_readDark_103 rfl (by decide) (ret_i h)
      refine e_aload_n qX12_readDark_74 rfl ?_
      refine e_iconst (nI 3) qX12_readDark_75 rfl ?_
      obtain ⟨v15, s16, hc, h⟩ := bd_e h
      refine e_cVi1 qX12_readDark_76 mv_X12_180 shq_206 rfl rfl (w_X12_bad hc) ?_
      refine rz_e h (fun hz h => ?_)
      exact e_zret qX12_readDark_79 rfl hz (ret_i h)
    refine e_aload_n qX12_readDark_49 rfl ?_
    refine e_iconst (nI 2) qX12_readDark_50 rfl ?_
    obtain ⟨v17, s18, hc, h⟩ := bd_e h
    refine e_cVi1 qX12_readDark_51 mv_X12_180 shq_206 rfl rfl (w_X12_bad hc) ?_
    refine rz_e h (fun hz h => ?_)
    exact e_zret qX12_readDark_54 rfl hz (ret_i h)
  refine e_aload_n qX12_readDark_34 rfl ?_
  refine e_iconst (nI 1) qX12_readDark_35 rfl ?_
  obtain ⟨v19, s20, hc, h⟩ := bd_e h
  refine e_cVi1 qX12_readDark_36 mv_X12_180 shq_206 rfl rfl (w_X12_bad hc) ?_
  refine rz_e h (fun hz h => ?_)
  exact e_zret qX12_readDark_39 rfl hz (ret_i h)

def f_X12_readShip (N : Nat)  (s0 : St) : Option (Int32 × St) :=
  ald (s0.1 209) 147 (nI 1) fun v1 =>
  if v1 = (nI 4) then
    bd (f_X12_bad (nI 4) s0) fun v2 s3 =>
    rz v2 <|
    some (v2, s3)
  else
  bp (f_X12_next N s0) fun s4 =>
  bd (f_X12_fresh N ((nI 20) + v1) s4) fun v5 s6 =>
  if v5 = 0 then
    some ((nI 0), s6)
  else
  bd (f_X12_puts N ((nI 131) + v1) (nI 0) (nI 19) s6) fun v7 s8 =>
  if v7 = 0 then
    some ((nI 0), s8)
  else
  bd (f_X12_puts N ((nI 135) + v1) (nI 0) (nI 19) s8) fun v9 s10 =>
  if v9 = 0 then
    some ((nI 0), s10)
  else
  bd (f_X12_puts N ((nI 139) + v1) (nI 0) (nI 8) s10) fun v11 s12 =>
  if v11 = 0 then
    some ((nI 0), s12)
  else
  bd (f_X12_puts N ((nI 143) + v1) (nI 1) (nI 60) s12) fun v13 s14 =>
  if v13 = 0 then
    some ((nI 0), s14)
  else
  ald (s14.1 209) 147 (nI 1) fun v15 =>
  ald (fun j => sI s14 209 j (v15 + (nI 1))) 147 (nI 1) fun s16 =>
  some ((nI 1), s16)

theorem qX12_readShip_0 : Dc mX12_readShip 0 (.aload_n 0) 1 1 := ⟨by decide +kernel, rfl⟩
theorem qX12_readShip_1 : Dc mX12_readShip 1 (.getfield 37) 3 4 := ⟨by decide +kernel, rfl⟩
theorem qX12_readShip_4 : Dc mX12_readShip 4 (.iconst 1) 1 5 := ⟨by decide +kernel, rfl⟩
theorem qX12_readShip_5 : Dc mX12_readShip 5 (.iaload) 1 6 := ⟨by decide +kernel, rfl⟩
theorem qX12_readShip_6 : Dc mX12_readShip 6 (.istore_n 1) 1 7 := ⟨by decide +kernel, rfl⟩
theorem qX12_readShip_7 : Dc mX12_readShip 7 (.iload_n 1) 1 8 := ⟨by decide +kernel, rfl⟩
theorem qX12_readShip_8 : Dc mX12_readShip 8 (.iconst 4) 1 9 := ⟨by decide +kernel, rfl⟩
theorem qX12_readShip_9 : Dc mX12_readShip 9 (.if_icmp .ne 9) 3 12 := ⟨by decide +kernel, rfl⟩
theorem qX12_readShip_12 : Dc mX12_readShip 12 (.aload_n 0) 1 13 := ⟨by decide +kernel, rfl⟩
theorem qX12_readShip_13 : Dc mX12_readShip 13 (.iconst 4) 1 14 := ⟨by decide +kernel, rfl⟩
theorem qX12_readShip_14 : Dc mX12_readShip 14 (.invokevirtual 180) 3 17 := ⟨by decide +kernel, rfl⟩
theorem qX12_readShip_17 : Dc mX12_readShip 17 (.ireturn) 1 18 := ⟨by decide +kernel, rfl⟩
theorem qX12_readShip_18 : Dc mX12_readShip 18 (.aload_n 0) 1 19 := ⟨by decide +kernel, rfl⟩
theorem qX12_readShip_19 : Dc mX12_readShip 19 (.invokevirtual 183) 3 22 := ⟨by decide +kernel, rfl⟩
theorem qX12_readShip_22 : Dc mX12_readShip 22 (.aload_n 0) 1 23 := ⟨by decide +kernel, rfl⟩
theorem qX12_readShip_23 : Dc mX12_readShip 23 (.bipush 20) 2 25 := ⟨by decide +kernel, rfl⟩
theorem qX12_readShip_25 : Dc mX12_readShip 25 (.iload_n 1) 1 26 := ⟨by decide +kernel, rfl⟩
theorem qX12_readShip_26 : Dc mX12_readShip 26 (.iadd) 1 27 := ⟨by decide +kernel, rfl⟩
theorem qX12_readShip_27 : Dc mX12_readShip 27 (.invokevirtual 234) 3 30 := ⟨by decide +kernel, rfl⟩
theorem qX12_readShip_30 : Dc mX12_readShip 30 (.ifCond .eq 63) 3 33 := ⟨by decide +kernel, rfl⟩
theorem qX12_readShip_33 : Dc mX12_readShip 33 (.aload_n 0) 1 34 := ⟨by decide +kernel, rfl⟩
theorem qX12_readShip_34 : Dc mX12_readShip 34 (.sipush 131) 3 37 := ⟨by decide +kernel, rfl⟩
theorem qX12_readShip_37 : Dc mX12_readShip 37 (.iload_n 1) 1 38 := ⟨by decide +kernel, rfl⟩
theorem qX12_readShip_38 : Dc mX12_readShip 38 (.iadd) 1 39 := ⟨by decide +kernel, rfl⟩
theorem qX12_readShip_39 : Dc mX12_readShip 39 (.iconst 0) 1 40 := ⟨by decide +kernel, rfl⟩
theorem qX12_readShip_40 : Dc mX12_readShip 40 (.bipush 19) 2 42 := ⟨by decide +kernel, rfl⟩
theorem qX12_readShip_42 : Dc mX12_readShip 42 (.invokevirtual 231) 3 45 := ⟨by decide +kernel, rfl⟩
theorem qX12_readShip_45 : Dc mX12_readShip 45 (.ifCond .eq 48) 3 48 := ⟨by decide +kernel, rfl⟩
theorem qX12_readShip_48 : Dc mX12_readShip 48 (.aload_n 0) 1 49 := ⟨by decide +kernel, rfl⟩
theorem qX12_readShip_49 : Dc mX12_readShip 49 (.sipush 135) 3 52 := ⟨by decide +kernel, rfl⟩
theorem qX12_readShip_52 : Dc mX12_readShip 52 (.iload_n 1) 1 53 := ⟨by decide +kernel, rfl⟩
theorem qX12_readShip_53 : Dc mX12_readShip 53 (.iadd) 1 54 := ⟨by decide +kernel, rfl⟩
theorem qX12_readShip_54 : Dc mX12_readShip 54 (.iconst 0) 1 55 := ⟨by decide +kernel, rfl⟩
theorem qX12_readShip_55 : Dc mX12_readShip 55 (.bipush 19) 2 57 := ⟨by decide +kernel, rfl⟩
theorem qX12_readShip_57 : Dc mX12_readShip 57 (.invokevirtual 231) 3 60 := ⟨by decide +kernel, rfl⟩
theorem qX12_readShip_60 : Dc mX12_readShip 60 (.ifCond .eq 33) 3 63 := ⟨by decide +kernel, rfl⟩
theorem qX12_readShip_63 : Dc mX12_readShip 63 (.aload_n 0) 1 64 := ⟨by decide +kernel, rfl⟩
theorem qX12_readShip_64 : Dc mX12_readShip 64 (.sipush 139) 3 67 := ⟨by decide +kernel, rfl⟩
theorem qX12_readShip_67 : Dc mX12_readShip 67 (.iload_n 1) 1 68 := ⟨by decide +kernel, rfl⟩
theorem qX12_readShip_68 : Dc mX12_readShip 68 (.iadd) 1 69 := ⟨by decide +kernel, rfl⟩
theorem qX12_readShip_69 : Dc mX12_readShip 69 (.iconst 0) 1 70 := ⟨by decide +kernel, rfl⟩
theorem qX12_readShip_70 : Dc mX12_readShip 70 (.bipush 8) 2 72 := ⟨by decide +kernel, rfl⟩
theorem qX12_readShip_72 : Dc mX12_readShip 72 (.invokevirtual 231) 3 75 := ⟨by decide +kernel, rfl⟩
theorem qX12_readShip_75 : Dc mX12_readShip 75 (.ifCond .eq 18) 3 78 := ⟨by decide +kernel, rfl⟩
theorem qX12_readShip_78 : Dc mX12_readShip 78 (.aload_n 0) 1 79 := ⟨by decide +kernel, rfl⟩
theorem qX12_readShip_79 : Dc mX12_readShip 79 (.sipush 143) 3 82 := ⟨by decide +kernel, rfl⟩
theorem qX12_readShip_82 : Dc mX12_readShip 82 (.iload_n 1) 1 83 := ⟨by decide +kernel, rfl⟩
theorem qX12_readShip_83 : Dc mX12_readShip 83 (.iadd) 1 84 := ⟨by decide +kernel, rfl⟩
theorem qX12_readShip_84 : Dc mX12_readShip 84 (.iconst 1) 1 85 := ⟨by decide +kernel, rfl⟩
theorem qX12_readShip_85 : Dc mX12_readShip 85 (.bipush 60) 2 87 := ⟨by decide +kernel, rfl⟩
theorem qX12_readShip_87 : Dc mX12_readShip 87 (.invokevirtual 231) 3 90 := ⟨by decide +kernel, rfl⟩
theorem qX12_readShip_90 : Dc mX12_readShip 90 (.ifCond .ne 5) 3 93 := ⟨by decide +kernel, rfl⟩
theorem qX12_readShip_93 : Dc mX12_readShip 93 (.iconst 0) 1 94 := ⟨by decide +kernel, rfl⟩
theorem qX12_readShip_94 : Dc mX12_readShip 94 (.ireturn) 1 95 := ⟨by decide +kernel, rfl⟩
theorem qX12_readShip_95 : Dc mX12_readShip 95 (.aload_n 0) 1 96 := ⟨by decide +kernel, rfl⟩
theorem qX12_readShip_96 : Dc mX12_readShip 96 (.getfield 37) 3 99 := ⟨by decide +kernel, rfl⟩
theorem qX12_readShip_99 : Dc mX12_readShip 99 (.iconst 1) 1 100 := ⟨by decide +kernel, rfl⟩
theorem qX12_readShip_100 : Dc mX12_readShip 100 (.dup2) 1 101 := ⟨by decide +kernel, rfl⟩
theorem qX12_readShip_101 : Dc mX12_readShip 101 (.iaload) 1 102 := ⟨by decide +kernel, rfl⟩
theorem qX12_readShip_102 : Dc mX12_readShip 102 (.iconst 1) 1 103 := ⟨by decide +kernel, rfl⟩
theorem qX12_readShip_103 : Dc mX12_readShip 103 (.iadd) 1 104 := ⟨by decide +kernel, rfl⟩
theorem qX12_readShip_104 : Dc mX12_readShip 104 (.iastore) 1 105 := ⟨by decide +kernel, rfl⟩
theorem qX12_readShip_105 : Dc mX12_readShip 105 (.iconst 1) 1 106 := ⟨by decide +kernel, rfl⟩
theorem qX12_readShip_106 : Dc mX12_readShip 106 (.ireturn) 1 107 := ⟨by decide +kernel, rfl⟩

set_option maxRecDepth 20000 in
set_option maxHeartbeats 4000000 in
theorem w_X12_readShip {N : Nat}  {s0 : St} {r : Int32} {sr : St} (h : f_X12_readShip N  s0 = some (r, sr)) : Ct mX12_readShip 4 [.ref 206] s0 (some (.int r), sr) := by
  refine Ct.ofE (by decide +kernel) rfl ?_
  show E mX12_readShip 4 (some (.int r), sr) 0 [some (.ref 206), none] [] s0
  unfold f_X12_readShip at h
  refine e_aload_n qX12_readShip_0 rfl ?_
  refine e_getr 209 qX12_readShip_1 fl_X12_37 shq_206 kdq_11_7 rrq_206_7 ?_
  refine e_iconst (nI 1) qX12_readShip_4 rfl ?_
  refine e_iald qX12_readShip_5 shq_209 lnq_209 h (fun v1 h => ?_)
  refine e_istore_n (lv2 := [some (.ref 206), some (.int v1)]) qX12_readShip_6 rfl rfl rfl ?_
  refine e_iload_n qX12_readShip_7 rfl ?_
  refine e_iconst (nI 4) qX12_readShip_8 rfl ?_
  refine e_icmp_ne (tgt := 18) qX12_readShip_9 rfl h (fun _ h => ?_) (fun _ h => ?_)
  · refine e_aload_n qX12_readShip_12 rfl ?_
    refine e_iconst (nI 4) qX12_readShip_13 rfl ?_
    obtain ⟨v2, s3, hc, h⟩ := bd_e h
    refine e_cVi1 qX12_readShip_14 mv_X12_180 shq_206 rfl rfl (w_X12_bad hc) ?_
    refine rz_e h (fun hz h => ?_)
    exact e_zret qX12_readShip_17 rfl hz (ret_i h)
  refine e_aload_n qX12_readShip_18 rfl ?_
  obtain ⟨s4, hc, h⟩ := bp_e h
  refine e_cVv0 qX12_readShip_19 mv_X12_183 shq_206 rfl rfl (w_X12_next hc) ?_
  refine e_aload_n qX12_readShip_22 rfl ?_
  refine e_bipush (nI 20) qX12_readShip_23 rfl ?_
  refine e_iload_n qX12_readShip_25 rfl ?_
  refine e_iadd qX12_readShip_26 ?_
  obtain ⟨v5, s6, hc, h⟩ := bd_e h
  refine e_cVi1 qX12_readShip_27 mv_X12_234 shq_206 rfl rfl (w_X12_fresh hc) ?_
  refine e_if_eq (tgt := 93) qX12_readShip_30 rfl h (fun _ h => ?_) (fun _ h => ?_)
  · refine e_iconst (nI 0) qX12_readShip_93 rfl ?_
    exact e_zret qX12_readShip_94 rfl (by decide) (ret_i h)
  refine e_aload_n qX12_readShip_33 rfl ?_
  refine e_sipush (nI 131) qX12_readShip_34 rfl ?_
  refine e_iload_n qX12_readShip_37 rfl ?_
  refine e_iadd qX12_readShip_38 ?_
  refine e_iconst (nI 0) qX12_readShip_39 rfl ?_
  refine e_bipush (nI 19) qX12_readShip_40 rfl ?_
  obtain ⟨v7, s8, hc, h⟩ := bd_e h
  refine e_cVi3 qX12_readShip_42 mv_X12_231 shq_206 rfl rfl (w_X12_puts hc) ?_
  refine e_if_eq (tgt := 93) qX12_readShip_45 rfl h (fun _ h => ?_) (fun _ h => ?_)
  · refine e_iconst (nI 0) qX12_readShip_93 rfl ?_
    exact e_zret qX12_readShip_94 rfl (by decide) (ret_i h)
  refine e_aload_n qX12_readShip_48 rfl ?_
  refine e_sipush (nI 135) qX12_readShip_49 rfl ?_
  refine e_iload_n qX12_readShip_52 rfl ?_
  refine e_iadd qX12_readShip_53 ?_
  refine e_iconst (nI 0) qX12_readShip_54 rfl ?_
  refine e_bipush (nI 19) qX12_readShip_55 rfl ?_
  obtain ⟨v9, s10, hc, h⟩ := bd_e h
  refine e_cVi3 qX12_readShip_57 mv_X12_231 shq_206 rfl rfl (w_X12_puts hc) ?_
  refine e_if_eq (tgt := 93) qX12_readShip_60 rfl h (fun _ h => ?_) (fun _ h => ?_)
  · refine e_iconst (nI 0) qX12_readShip_93 rfl ?_
    exact e_zret qX12_readShip_94 rfl (by decide) (ret_i h)
  refine e_aload_n qX12_readShip_63 rfl ?_
  refine e_sipush (nI 139) qX12_readShip_64 rfl ?_
  refine e_iload_n qX12_readShip_67 rfl ?_
  refine e_iadd qX12_readShip_68 ?_
  refine e_iconst (nI 0) qX12_readShip_69 rfl ?_
  refine e_bipush (nI 8) qX12_readShip_70 rfl ?_
  obtain ⟨v11, s12, hc, h⟩ := bd_e h
  refine e_cVi3 qX12_readShip_72 mv_X12_231 shq_206 rfl rfl (w_X12_puts hc) ?_
  refine e_if_eq (tgt := 93) qX12_readShip_75 rfl h (fun _ h => ?_) (fun _ h => ?_)
  · refine e_iconst (nI 0) qX12_readShip_93 rfl ?_
    exact e_zret qX12_readShip_94 rfl (by decide) (ret_i h)
  refine e_aload_n qX12_readShip_78 rfl ?_
  refine e_sipush (nI 143) qX12_readShip_79 rfl ?_
  refine e_iload_n qX12_readShip_82 rfl ?_
  refine e_iadd qX12_readShip_83 ?_
  refine e_iconst (nI 1) qX12_readShip_84 rfl ?_
  refine e_bipush (nI 60) qX12_readShip_85 rfl ?_
  obtain ⟨v13, s14, hc, h⟩ := bd_e h
  refine e_cVi3 qX12_readShip_87 mv_X12_231 shq_206 rfl rfl (w_X12_puts hc) ?_
  refine e_if_ne (tgt := 95) qX12_readShip_90 rfl h (fun _ h => ?_) (fun _ h => ?_)
  · refine e_iconst (nI 0) qX12_readShip_93 rfl ?_
    exact e_zret qX12_readShip_94 rfl (by decide) (ret_i h)
  refine e_aload_n qX12_readShip_95 rfl ?_
  refine e_getr 209 qX12_readShip_96 fl_X12_37 shq_206 kdq_11_7 rrq_206_7 ?_
  refine e_iconst (nI 1) qX12_readShip_99 rfl ?_
  refine e_dup2 qX12_readShip_100 rfl rfl ?_
  refine e_iald qX12_readShip_101 shq_209 lnq_209 h (fun v15 h => ?_)
  refine e_iconst (nI 1) qX12_readShip_102 rfl ?_
  refine e_iadd qX12_readShip_103 ?_
  refine e_iast qX12_readShip_104 shq_209 lnq_209 h (fun s16 h => ?_)
  refine e_iconst (nI 1) qX12_readShip_105 rfl ?_
  exact e_zret qX12_readShip_106 rfl (by decide) (ret_i h)

def f_X12_fault  (s0 : St) : Option (Int32 × St) :=
  vl (sI s0 206 0 (nI 0)) fun s1 =>
  vl (s1.1 206 15) fun v2 =>
  some (v2, s1)

theorem qX12_fault_0 : Dc mX12_fault 0 (.aload_n 0) 1 1 := ⟨by decide +kernel, rfl⟩
theorem qX12_fault_1 : Dc mX12_fault 1 (.iconst 0) 1 2 := ⟨by decide +kernel, rfl⟩
theorem qX12_fault_2 : Dc mX12_fault 2 (.putfield 1) 3 5 := ⟨by decide +kernel, rfl⟩
theorem qX12_fault_5 : Dc mX12_fault 5 (.aload_n 0) 1 6 := ⟨by decide +kernel, rfl⟩
theorem qX12_fault_6 : Dc mX12_fault 6 (.getfield 171) 3 9 := ⟨by decide +kernel, rfl⟩
theorem qX12_fault_9 : Dc mX12_fault 9 (.ireturn) 1 10 := ⟨by decide +kernel, rfl⟩

set_option maxRecDepth 20000 in
set_option maxHeartbeats 4000000 in
theorem w_X12_fault  {s0 : St} {r : Int32} {sr : St} (h : f_X12_fault  s0 = some (r, sr)) : Ct mX12_fault 0 [.ref 206] s0 (some (.int r), sr) := by
  refine Ct.ofE (by decide +kernel) rfl ?_
  show E mX12_fault 0 (some (.int r), sr) 0 [some (.ref 206)] [] s0
  unfold f_X12_fault at h
  refine e_aload_n qX12_fault_0 rfl ?_
  refine e_iconst (nI 0) qX12_fault_1 rfl ?_
  refine e_puti qX12_fault_2 fp_X12_1 shq_206 kdq_11_0 h (fun s1 h => ?_)
  refine e_aload_n qX12_fault_5 rfl ?_
  refine e_geti qX12_fault_6 fl_X12_171 shq_206 kdq_11_15 h (fun v2 h => ?_)
  exact e_iret qX12_fault_9 rfl (ret_i h)

def f_X12_isLight (x1 : Int32) (s0 : St) : Option (Int32) :=
  ald (s0.1 208) 359 (nI 0) fun v1 =>
  bp (f_X12_isIn x1 (nI 0) (v1 - (nI 1)) s0) fun v2 =>
  rz v2 <|
  some v2

theorem qX12_isLight_0 : Dc mX12_isLight 0 (.iload_n 1) 1 1 := ⟨by decide +kernel, rfl⟩
theorem qX12_isLight_1 : Dc mX12_isLight 1 (.iconst 0) 1 2 := ⟨by decide +kernel, rfl⟩
theorem qX12_isLight_2 : Dc mX12_isLight 2 (.aload_n 0) 1 3 := ⟨by decide +kernel, rfl⟩
theorem qX12_isLight_3 : Dc mX12_isLight 3 (.getfield 33) 3 6 := ⟨by decide +kernel, rfl⟩
theorem qX12_isLight_6 : Dc mX12_isLight 6 (.iconst 0) 1 7 := ⟨by decide +kernel, rfl⟩
theorem qX12_isLight_7 : Dc mX12_isLight 7 (.iaload) 1 8 := ⟨by decide +kernel, rfl⟩
theorem qX12_isLight_8 : Dc mX12_isLight 8 (.iconst 1) 1 9 := ⟨by decide +kernel, rfl⟩
theorem qX12_isLight_9 : Dc mX12_isLight 9 (.isub) 1 10 := ⟨by decide +kernel, rfl⟩
theorem qX12_isLight_10 : Dc mX12_isLight 10 (.invokestatic 186) 3 13 := ⟨by decide +kernel, rfl⟩
theorem qX12_isLight_13 : Dc mX12_isLight 13 (.ireturn) 1 14 := ⟨by decide +kernel, rfl⟩

set_option maxRecDepth 20000 in
set_option maxHeartbeats 4000000 in
theorem w_X12_isLight {x1 : Int32} {s0 : St} {r : Int32} (h : f_X12_isLight x1 s0 = some r) : Ct mX12_isLight 1 [.ref 206, .int x1] s0 (some (.int r), s0) := by
  refine Ct.ofE (by decide +kernel) rfl ?_
  show E mX12_isLight 1 (some (.int r), s0) 0 [some (.ref 206), some (.int x1)] [] s0
  unfold f_X12_isLight at h
  refine e_iload_n qX12_isLight_0 rfl ?_
  refine e_iconst (nI 0) qX12_isLight_1 rfl ?_
  refine e_aload_n qX12_isLight_2 rfl ?_
  refine e_getr 208 qX12_isLight_3 fl_X12_33 shq_206 kdq_11_6 rrq_206_6 ?_
  refine e_iconst (nI 0) qX12_isLight_6 rfl ?_
  refine e_iald qX12_isLight_7 shq_208 lnq_208 h (fun v1 h => ?_)
  refine e_iconst (nI 1) qX12_isLight_8 rfl ?_
  refine e_isub qX12_isLight_9 ?_
  obtain ⟨v2, hc, h⟩ := bp_e h
  refine e_cSi3 qX12_isLight_10 ms_X12_186 rfl rfl (w_X12_isIn hc) ?_
  refine rz_e h (fun hz h => ?_)
  exact e_zret qX12_isLight_13 rfl hz (ret_p h)

def f_X12_isShip (x1 : Int32) (s0 : St) : Option (Int32) :=
  ald (s0.1 208) 359 (nI 1) fun v1 =>
  bp (f_X12_isIn x1 (nI 0) (v1 - (nI 1)) s0) fun v2 =>
  rz v2 <|
  some v2

theorem qX12_isShip_0 : Dc mX12_isShip 0 (.iload_n 1) 1 1 := ⟨by decide +kernel, rfl⟩
theorem qX12_isShip_1 : Dc mX12_isShip 1 (.iconst 0) 1 2 := ⟨by decide +kernel, rfl⟩
theorem qX12_isShip_2 : Dc mX12_isShip 2 (.aload_n 0) 1 3 := ⟨by decide +kernel, rfl⟩
theorem qX12_isShip_3 : Dc mX12_isShip 3 (.getfield 33) 3 6 := ⟨by decide +kernel, rfl⟩
theorem qX12_isShip_6 : Dc mX12_isShip 6 (.iconst 1) 1 7 := ⟨by decide +kernel, rfl⟩
theorem qX12_isShip_7 : Dc mX12_isShip 7 (.iaload) 1 8 := ⟨by decide +kernel, rfl⟩
theorem qX12_isShip_8 : Dc mX12_isShip 8 (.iconst 1) 1 9 := ⟨by decide +kernel, rfl⟩
theorem qX12_isShip_9 : Dc mX12_isShip 9 (.isub) 1 10 := ⟨by decide +kernel, rfl⟩
theorem qX12_isShip_10 : Dc mX12_isShip 10 (.invokestatic 186) 3 13 := ⟨by decide +kernel, rfl⟩
theorem qX12_isShip_13 : Dc mX12_isShip 13 (.ireturn) 1 14 := ⟨by decide +kernel, rfl⟩

set_option maxRecDepth 20000 in
set_option maxHeartbeats 4000000 in
theorem w_X12_isShip {x1 : Int32} {s0 : St} {r : Int32} (h : f_X12_isShip x1 s0 = some r) : Ct mX12_isShip 1 [.ref 206, .int x1] s0 (some (.int r), s0) := by
  refine Ct.ofE (by decide +kernel) rfl ?_
  show E mX12_isShip 1 (some (.int r), s0) 0 [some (.ref 206), some (.int x1)] [] s0
  unfold f_X12_isShip at h
  refine e_iload_n qX12_isShip_0 rfl ?_
  refine e_iconst (nI 0) qX12_isShip_1 rfl ?_
  refine e_aload_n qX12_isShip_2 rfl ?_
  refine e_getr 208 qX12_isShip_3 fl_X12_33 shq_206 kdq_11_6 rrq_206_6 ?_
  refine e_iconst (nI 1) qX12_isShip_6 rfl ?_
  refine e_iald qX12_isShip_7 shq_208 lnq_208 h (fun v1 h => ?_)
  refine e_iconst (nI 1) qX12_isShip_8 rfl ?_
  refine e_isub qX12_isShip_9 ?_
  obtain ⟨v2, hc, h⟩ := bp_e h
  refine e_cSi3 qX12_isShip_10 ms_X12_186 rfl rfl (w_X12_isIn hc) ?_
  refine rz_e h (fun hz h => ?_)
  exact e_zret qX12_isShip_13 rfl hz (ret_p h)

def f_X12_periodOf_L4 (N : Nat) (c1 : Int32) (s0 : St) (k4 : Int32 → Option (Int32)) : Nat → Int32 → Int32 → Option (Int32)
  | 0, _, _ => none
  | n6 + 1, v2, v3 =>
    ald (s0.1 208) 359 ((nI 43) + c1) fun v8 =>
    if v8 ≤ v3 then
      k4 v2
    else
    ald (s0.1 208) 359 (((nI 51) + ((nI 4) * c1)) + v3) fun v9 =>
    ald (s0.1 208) 359 (((nI 83) + ((nI 4) * c1)) + v3) fun v10 =>
    vl (v2 + (v9 + v10)) fun v11 =>
    vl (v3 + (nI 1)) fun v12 =>
    f_X12_periodOf_L4 N c1 s0 k4 n6 v11 v12

def f_X12_periodOf (N : Nat) (x1 : Int32) (s0 : St) : Option (Int32) :=
  f_X12_periodOf_L4 N x1 s0 (fun (v13 : Int32) =>
    if v13 = 0 then
      some (nI 1)
    else
    some v13) N (nI 0) (nI 0)

theorem qX12_periodOf_0 : Dc mX12_periodOf 0 (.iconst 0) 1 1 := ⟨by decide +kernel, rfl⟩
theorem qX12_periodOf_1 : Dc mX12_periodOf 1 (.istore_n 2) 1 2 := ⟨by decide +kernel, rfl⟩
theorem qX12_periodOf_2 : Dc mX12_periodOf 2 (.iconst 0) 1 3 := ⟨by decide +kernel, rfl⟩
theorem qX12_periodOf_3 : Dc mX12_periodOf 3 (.istore_n 3) 1 4 := ⟨by decide +kernel, rfl⟩
theorem qX12_periodOf_4 : Dc mX12_periodOf 4 (.iload_n 3) 1 5 := ⟨by decide +kernel, rfl⟩
theorem qX12_periodOf_5 : Dc mX12_periodOf 5 (.aload_n 0) 1 6 := ⟨by decide +kernel, rfl⟩
theorem qX12_periodOf_6 : Dc mX12_periodOf 6 (.getfield 33) 3 9 := ⟨by decide +kernel, rfl⟩
theorem qX12_periodOf_9 : Dc mX12_periodOf 9 (.bipush 43) 2 11 := ⟨by decide +kernel, rfl⟩
theorem qX12_periodOf_11 : Dc mX12_periodOf 11 (.iload_n 1) 1 12 := ⟨by decide +kernel, rfl⟩
theorem qX12_periodOf_12 : Dc mX12_periodOf 12 (.iadd) 1 13 := ⟨by decide +kernel, rfl⟩
theorem qX12_periodOf_13 : Dc mX12_periodOf 13 (.iaload) 1 14 := ⟨by decide +kernel, rfl⟩
theorem qX12_periodOf_14 : Dc mX12_periodOf 14 (.if_icmp .ge 39) 3 17 := ⟨by decide +kernel, rfl⟩
theorem qX12_periodOf_17 : Dc mX12_periodOf 17 (.iload_n 2) 1 18 := ⟨by decide +kernel, rfl⟩
theorem qX12_periodOf_18 : Dc mX12_periodOf 18 (.aload_n 0) 1 19 := ⟨by decide +kernel, rfl⟩
theorem qX12_periodOf_19 : Dc mX12_periodOf 19 (.getfield 33) 3 22 := ⟨by decide +kernel, rfl⟩
theorem qX12_periodOf_22 : Dc mX12_periodOf 22 (.bipush 51) 2 24 := ⟨by decide +kernel, rfl⟩
theorem qX12_periodOf_24 : Dc mX12_periodOf 24 (.iconst 4) 1 25 := ⟨by decide +kernel, rfl⟩
theorem qX12_periodOf_25 : Dc mX12_periodOf 25 (.iload_n 1) 1 26 := ⟨by decide +kernel, rfl⟩
theorem qX12_periodOf_26 : Dc mX12_periodOf 26 (.imul) 1 27 := ⟨by decide +kernel, rfl⟩
theorem qX12_periodOf_27 : Dc mX12_periodOf 27 (.iadd) 1 28 := ⟨by decide +kernel, rfl⟩
theorem qX12_periodOf_28 : Dc mX12_periodOf 28 (.iload_n 3) 1 29 := ⟨by decide +kernel, rfl⟩
theorem qX12_periodOf_29 : Dc mX12_periodOf 29 (.iadd) 1 30 := ⟨by decide +kernel, rfl⟩
theorem qX12_periodOf_30 : Dc mX12_periodOf 30 (.iaload) 1 31 := ⟨by decide +kernel, rfl⟩
theorem qX12_periodOf_31 : Dc mX12_periodOf 31 (.aload_n 0) 1 32 := ⟨by decide +kernel, rfl⟩
theorem qX12_periodOf_32 : Dc mX12_periodOf 32 (.getfield 33) 3 35 := ⟨by decide +kernel, rfl⟩
theorem qX12_periodOf_35 : Dc mX12_periodOf 35 (.bipush 83) 2 37 := ⟨by decide +kernel, rfl⟩
theorem qX12_periodOf_37 : Dc mX12_periodOf 37 (.iconst 4) 1 38 := ⟨by decide +kernel, rfl⟩
theorem qX12_periodOf_38 : Dc mX12_periodOf 38 (.iload_n 1) 1 39 := ⟨by decide +kernel, rfl⟩
theorem qX12_periodOf_39 : Dc mX12_periodOf 39 (.imul) 1 40 := ⟨by decide +kernel, rfl⟩
theorem qX12_periodOf_40 : Dc mX12_periodOf 40 (.iadd) 1 41 := ⟨by decide +kernel, rfl⟩
theorem qX12_periodOf_41 : Dc mX12_periodOf 41 (.iload_n 3) 1 42 := ⟨by decide +kernel, rfl⟩
theorem qX12_periodOf_42 : Dc mX12_periodOf 42 (.iadd) 1 43 := ⟨by decide +kernel, rfl⟩
theorem qX12_periodOf_43 : Dc mX12_periodOf 43 (.iaload) 1 44 := ⟨by decide +kernel, rfl⟩
theorem qX12_periodOf_44 : Dc mX12_periodOf 44 (.iadd) 1 45 := ⟨by decide +kernel, rfl⟩
theorem qX12_periodOf_45 : Dc mX12_periodOf 45 (.iadd) 1 46 := ⟨by decide +kernel, rfl⟩
theorem qX12_periodOf_46 : Dc mX12_periodOf 46 (.istore_n 2) 1 47 := ⟨by decide +kernel, rfl⟩
theorem qX12_periodOf_47 : Dc mX12_periodOf 47 (.iinc 3 1) 3 50 := ⟨by decide +kernel, rfl⟩
theorem qX12_periodOf_50 : Dc mX12_periodOf 50 (.goto (-46)) 3 53 := ⟨by decide +kernel, rfl⟩
theorem qX12_periodOf_53 : Dc mX12_periodOf 53 (.iload_n 2) 1 54 := ⟨by decide +kernel, rfl⟩
theorem qX12_periodOf_54 : Dc mX12_periodOf 54 (.ifCond .ne 7) 3 57 := ⟨by decide +kernel, rfl⟩
theorem qX12_periodOf_57 : Dc mX12_periodOf 57 (.iconst 1) 1 58 := ⟨by decide +kernel, rfl⟩
theorem qX12_periodOf_58 : Dc mX12_periodOf 58 (.goto 4) 3 61 := ⟨by decide +kernel, rfl⟩
theorem qX12_periodOf_61 : Dc mX12_periodOf 61 (.iload_n 2) 1 62 := ⟨by decide +kernel, rfl⟩
theorem qX12_periodOf_62 : Dc mX12_periodOf 62 (.ireturn) 1 63 := ⟨by decide +kernel, rfl⟩

set_option maxRecDepth 20000 in
set_option maxHeartbeats 4000000 in
theorem w_X12_periodOf_L4 {N : Nat} {c1 : Int32} {s0 : St} {k4 : Int32 → Option (Int32)} {r : Int32}  (hk4 : ∀ (v5 : Int32), k4 v5 = some r → E mX12_periodOf 0 (some (.int r), s0) 53 [none, none, some (.int v5), none] [] s0) : ∀ (n6 : Nat) (v2 : Int32) (v3 : Int32), f_X12_periodOf_L4 N c1 s0 k4 n6 v2 v3 = some r → E mX12_periodOf 0 (some (.int r), s0) 4 [some (.ref 206), some (.int c1), some (.int v2), some (.int v3)] [] s0 := by
  intro n6
  induction n6 with
  | zero =>
    intro v2 v3 h
    rw [f_X12_periodOf_L4] at h; cases h
  | succ n6 ih7 =>
    intro v2 v3 h
    rw [f_X12_periodOf_L4] at h
    refine e_iload_n qX12_periodOf_4 rfl ?_
    refine e_aload_n qX12_periodOf_5 rfl ?_
    refine e_getr 208 qX12_periodOf_6 fl_X12_33 shq_206 kdq_11_6 rrq_206_6 ?_
    refine e_bipush (nI 43) qX12_periodOf_9 rfl ?_
    refine e_iload_n qX12_periodOf_11 rfl ?_
    refine e_iadd qX12_periodOf_12 ?_
    refine e_iald qX12_periodOf_13 shq_208 lnq_208 h (fun v8 h => ?_)
    refine e_icmp_ge (tgt := 53) qX12_periodOf_14 rfl h (fun _ h => ?_) (fun _ h => ?_)
    · exact e_weak (hk4 _ h) ⟨Or.inl rfl, Or.inl rfl, Or.inr rfl, Or.inl rfl, trivial⟩
    refine e_iload_n qX12_periodOf_17 rfl ?_
    refine e_aload_n qX12_periodOf_18 rfl ?_
    refine e_getr 208 qX12_periodOf_19 fl_X12_33 shq_206 kdq_11_6 rrq_206_6 ?_
    refine e_bipush (nI 51) qX12_periodOf_22 rfl ?_
    refine e_iconst (nI 4) qX12_periodOf_24 rfl ?_
    refine e_iload_n qX12_periodOf_25 rfl ?_
    refine e_imul qX12_periodOf_26 ?_
    refine e_iadd qX12_periodOf_27 ?_
    refine e_iload_n qX12_periodOf_28 rfl ?_
    refine e_iadd qX12_periodOf_29 ?_
    refine e_iald qX12_periodOf_30 shq_208 lnq_208 h (fun v9 h => ?_)
    refine e_aload_n qX12_periodOf_31 rfl ?_
    refine e_getr 208 qX12_periodOf_32 fl_X12_33 shq_206 kdq_11_6 rrq_206_6 ?_
    refine e_bipush (nI 83) qX12_periodOf_35 rfl ?_
    refine e_iconst (nI 4) qX12_periodOf_37 rfl ?_
    refine e_iload_n qX12_periodOf_38 rfl ?_
    refine e_imul qX12_periodOf_39 ?_
    refine e_iadd qX12_periodOf_40 ?_
    refine e_iload_n qX12_periodOf_41 rfl ?_
    refine e_iadd qX12_periodOf_42 ?_
    refine e_iald qX12_periodOf_43 shq_208 lnq_208 h (fun v10 h => ?_)
    refine e_iadd qX12_periodOf_44 ?_
    refine e_iadd qX12_periodOf_45 ?_
    refine vl_e h (fun h => ?_)
    generalize (v2 + (v9 + v10)) = v11 at h ⊢
    refine e_istore_n (lv2 := [some (.ref 206), some (.int c1), some (.int v11), some (.int v3)]) qX12_periodOf_46 rfl rfl rfl ?_
    refine vl_e h (fun h => ?_)
    obtain ⟨v12, ev12⟩ : ∃ y, v3 + (nI 1) = y := ⟨_, rfl⟩
    rw [ev12] at h
    refine e_iinc (nI 1) v12 (lv2 := [some (.ref 206), some (.int c1), some (.int v11), some (.int v12)]) qX12_periodOf_47 rfl rfl rfl ev12 rfl ?_
    refine e_goto (tgt := 4) qX12_periodOf_50 rfl ?_
    exact e_weak (ih7 _ _ h) ⟨Or.inr rfl, Or.inr rfl, Or.inr rfl, Or.inr rfl, trivial⟩

set_option maxRecDepth 20000 in
set_option maxHeartbeats 4000000 in
theorem w_X12_periodOf {N : Nat} {x1 : Int32} {s0 : St} {r : Int32} (h : f_X12_periodOf N x1 s0 = some r) : Ct mX12_periodOf 0 [.ref 206, .int x1] s0 (some (.int r), s0) := by
  refine Ct.ofE (by decide +kernel) rfl ?_
  show E mX12_periodOf 0 (some (.int r), s0) 0 [some (.ref 206), some (.int x1), none, none] [] s0
  unfold f_X12_periodOf at h
  refine e_iconst (nI 0) qX12_periodOf_0 rfl ?_
  refine e_istore_n (lv2 := [some (.ref 206), some (.int x1), some (.int (nI 0)), none]) qX12_periodOf_1 rfl rfl rfl ?_
  refine e_iconst (nI 0) qX12_periodOf_2 rfl ?_
  refine e_istore_n (lv2 := [some (.ref 206), some (.int x1), some (.int (nI 0)), some (.int (nI 0))]) qX12_periodOf_3 rfl rfl rfl ?_
  refine e_weak (w_X12_periodOf_L4 (fun v13 h => ?_) _ _ _ h) ⟨Or.inr rfl, Or.inr rfl, Or.inr rfl, Or.inr rfl, trivial⟩
  refine e_iload_n qX12_periodOf_53 rfl ?_
  refine e_if_ne (tgt := 61) qX12_periodOf_54 rfl h (fun _ h => ?_) (fun _ h => ?_)
  · refine e_iconst (nI 1) qX12_periodOf_57 rfl ?_
    refine e_goto (tgt := 62) qX12_periodOf_58 rfl ?_
    exact e_iret qX12_periodOf_62 rfl (ret_p h)
  refine e_iload_n qX12_periodOf_61 rfl ?_
  exact e_iret qX12_periodOf_62 rfl (ret_p h)

def f_X12_isOn_L25 (N : Nat) (c4 : Int32) (s0 : St) (k7 : Int32 → Int32 → Option (Int32)) : Nat → Int32 → Int32 → Option (Int32)
  | 0, _, _ => none
  | n10 + 1, v5, v6 =>
    ald (s0.1 208) 359 (((nI 51) + ((nI 4) * c4)) + v6) fun v12 =>
    ald (s0.1 208) 359 (((nI 83) + ((nI 4) * c4)) + v6) fun v13 =>
    if v5 < (v12 + v13) then
      k7 v5 v6
    else
    ald (s0.1 208) 359 (((nI 51) + ((nI 4) * c4)) + v6) fun v14 =>
    ald (s0.1 208) 359 (((nI 83) + ((nI 4) * c4)) + v6) fun v15 =>
    vl (v5 - (v14 + v15)) fun v16 =>
    vl (v6 + (nI 1)) fun v17 =>
    f_X12_isOn_L25 N c4 s0 k7 n10 v16 v17

def f_X12_isOn (N : Nat) (x1 : Int32) (x2 : Int32) (s0 : St) : Option (Int32) :=
  ald (s0.1 208) 359 ((nI 43) + x1) fun v1 =>
  if v1 = 0 then
    some (nI 1)
  else
  bp (f_X12_periodOf N x1 s0) fun v2 =>
  rm_ x2 v2 fun v3 =>
  f_X12_isOn_L25 N x1 s0 (fun (v18 : Int32) (v19 : Int32) =>
    ald (s0.1 208) 359 (((nI 51) + ((nI 4) * x1)) + v19) fun v20 =>
    if v20 ≤ v18 then
      some (nI 0)
    else
    some (nI 1)) N v3 (nI 0)

theorem qX12_isOn_0 : Dc mX12_isOn 0 (.aload_n 0) 1 1 := ⟨by decide +kernel, rfl⟩
theorem qX12_isOn_1 : Dc mX12_isOn 1 (.getfield 33) 3 4 := ⟨by decide +kernel, rfl⟩
theorem qX12_isOn_4 : Dc mX12_isOn 4 (.bipush 43) 2 6 := ⟨by decide +kernel, rfl⟩
theorem qX12_isOn_6 : Dc mX12_isOn 6 (.iload_n 1) 1 7 := ⟨by decide +kernel, rfl⟩
theorem qX12_isOn_7 : Dc mX12_isOn 7 (.iadd) 1 8 := ⟨by decide +kernel, rfl⟩
theorem qX12_isOn_8 : Dc mX12_isOn 8 (.iaload) 1 9 := ⟨by decide +kernel, rfl⟩
theorem qX12_isOn_9 : Dc mX12_isOn 9 (.ifCond .ne 5) 3 12 := ⟨by decide +kernel, rfl⟩
theorem qX12_isOn_12 : Dc mX12_isOn 12 (.iconst 1) 1 13 := ⟨by decide +kernel, rfl⟩
theorem qX12_isOn_13 : Dc mX12_isOn 13 (.ireturn) 1 14 := ⟨by decide +kernel, rfl⟩
theorem qX12_isOn_14 : Dc mX12_isOn 14 (.iload_n 2) 1 15 := ⟨by decide +kernel, rfl⟩
theorem qX12_isOn_15 : Dc mX12_isOn 15 (.aload_n 0) 1 16 := ⟨by decide +kernel, rfl⟩
theorem qX12_isOn_16 : Dc mX12_isOn 16 (.iload_n 1) 1 17 := ⟨by decide +kernel, rfl⟩
theorem qX12_isOn_17 : Dc mX12_isOn 17 (.invokevirtual 261) 3 20 := ⟨by decide +kernel, rfl⟩
theorem qX12_isOn_20 : Dc mX12_isOn 20 (.irem) 1 21 := ⟨by decide +kernel, rfl⟩
theorem qX12_isOn_21 : Dc mX12_isOn 21 (.istore_n 3) 1 22 := ⟨by decide +kernel, rfl⟩
theorem qX12_isOn_22 : Dc mX12_isOn 22 (.iconst 0) 1 23 := ⟨by decide +kernel, rfl⟩
theorem qX12_isOn_23 : Dc mX12_isOn 23 (.istore 4) 2 25 := ⟨by decide +kernel, rfl⟩
theorem qX12_isOn_25 : Dc mX12_isOn 25 (.iload_n 3) 1 26 := ⟨by decide +kernel, rfl⟩
theorem qX12_isOn_26 : Dc mX12_isOn 26 (.aload_n 0) 1 27 := ⟨by decide +kernel, rfl⟩
theorem qX12_isOn_27 : Dc mX12_isOn 27 (.getfield 33) 3 30 := ⟨by decide +kernel, rfl⟩
theorem qX12_isOn_30 : Dc mX12_isOn 30 (.bipush 51) 2 32 := ⟨by decide +kernel, rfl⟩
theorem qX12_isOn_32 : Dc mX12_isOn 32 (.iconst 4) 1 33 := ⟨by decide +kernel, rfl⟩
theorem qX12_isOn_33 : Dc mX12_isOn 33 (.iload_n 1) 1 34 := ⟨by decide +kernel, rfl⟩
theorem qX12_isOn_34 : Dc mX12_isOn 34 (.imul) 1 35 := ⟨by decide +kernel, rfl⟩
theorem qX12_isOn_35 : Dc mX12_isOn 35 (.iadd) 1 36 := ⟨by decide +kernel, rfl⟩
theorem qX12_isOn_36 : Dc mX12_isOn 36 (.iload 4) 2 38 := ⟨by decide +kernel, rfl⟩
theorem qX12_isOn_38 : Dc mX12_isOn 38 (.iadd) 1 39 := ⟨by decide +kernel, rfl⟩
theorem qX12_isOn_39 : Dc mX12_isOn 39 (.iaload) 1 40 := ⟨by decide +kernel, rfl⟩
theorem qX12_isOn_40 : Dc mX12_isOn 40 (.aload_n 0) 1 41 := ⟨by decide +kernel, rfl⟩
theorem qX12_isOn_41 : Dc mX12_isOn 41 (.getfield 33) 3 44 := ⟨by decide +kernel, rfl⟩
theorem qX12_isOn_44 : Dc mX12_isOn 44 (.bipush 83) 2 46 := ⟨by decide +kernel, rfl⟩
theorem qX12_isOn_46 : Dc mX12_isOn 46 (.iconst 4) 1 47 := ⟨by decide +kernel, rfl⟩
theorem qX12_isOn_47 : Dc mX12_isOn 47 (.iload_n 1) 1 48 := ⟨by decide +kernel, rfl⟩
theorem qX12_isOn_48 : Dc mX12_isOn 48 (.imul) 1 49 := ⟨by decide +kernel, rfl⟩
theorem qX12_isOn_49 : Dc mX12_isOn 49 (.iadd) 1 50 := ⟨by decide +kernel, rfl⟩
theorem qX12_isOn_50 : Dc mX12_isOn 50 (.iload 4) 2 52 := ⟨by decide +kernel, rfl⟩
theorem qX12_isOn_52 : Dc mX12_isOn 52 (.iadd) 1 53 := ⟨by decide +kernel, rfl⟩
theorem qX12_isOn_53 : Dc mX12_isOn 53 (.iaload) 1 54 := ⟨by decide +kernel, rfl⟩
theorem qX12_isOn_54 : Dc mX12_isOn 54 (.iadd) 1 55 := ⟨by decide +kernel, rfl⟩
theorem qX12_isOn_55 : Dc mX12_isOn 55 (.if_icmp .lt 41) 3 58 := ⟨by decide +kernel, rfl⟩
theorem qX12_isOn_58 : Dc mX12_isOn 58 (.iload_n 3) 1 59 := ⟨by decide +kernel, rfl⟩
theorem qX12_isOn_59 : Dc mX12_isOn 59 (.aload_n 0) 1 60 := ⟨by decide +kernel, rfl⟩
theorem qX12_isOn_60 : Dc mX12_isOn 60 (.getfield 33) 3 63 := ⟨by decide +kernel, rfl⟩
theorem qX12_isOn_63 : Dc mX12_isOn 63 (.bipush 51) 2 65 := ⟨by decide +kernel, rfl⟩
theorem qX12_isOn_65 : Dc mX12_isOn 65 (.iconst 4) 1 66 := ⟨by decide +kernel, rfl⟩
theorem qX12_isOn_66 : Dc mX12_isOn 66 (.iload_n 1) 1 67 := ⟨by decide +kernel, rfl⟩
theorem qX12_isOn_67 : Dc mX12_isOn 67 (.imul) 1 68 := ⟨by decide +kernel, rfl⟩
theorem qX12_isOn_68 : Dc mX12_isOn 68 (.iadd) 1 69 := ⟨by decide +kernel, rfl⟩
theorem qX12_isOn_69 : Dc mX12_isOn 69 (.iload 4) 2 71 := ⟨by decide +kernel, rfl⟩
theorem qX12_isOn_71 : Dc mX12_isOn 71 (.iadd) 1 72 := ⟨by decide +kernel, rfl⟩
theorem qX12_isOn_72 : Dc mX12_isOn 72 (.iaload) 1 73 := ⟨by decide +kernel, rfl⟩
theorem qX12_isOn_73 : Dc mX12_isOn 73 (.aload_n 0) 1 74 := ⟨by decide +kernel, rfl⟩
theorem qX12_isOn_74 : Dc mX12_isOn 74 (.getfield 33) 3 77 := ⟨by decide +kernel, rfl⟩
theorem qX12_isOn_77 : Dc mX12_isOn 77 (.bipush 83) 2 79 := ⟨by decide +kernel, rfl⟩
theorem qX12_isOn_79 : Dc mX12_isOn 79 (.iconst 4) 1 80 := ⟨by decide +kernel, rfl⟩
theorem qX12_isOn_80 : Dc mX12_isOn 80 (.iload_n 1) 1 81 := ⟨by decide +kernel, rfl⟩
theorem qX12_isOn_81 : Dc mX12_isOn 81 (.imul) 1 82 := ⟨by decide +kernel, rfl⟩
theorem qX12_isOn_82 : Dc mX12_isOn 82 (.iadd) 1 83 := ⟨by decide +kernel, rfl⟩
theorem qX12_isOn_83 : Dc mX12_isOn 83 (.iload 4) 2 85 := ⟨by decide +kernel, rfl⟩
theorem qX12_isOn_85 : Dc mX12_isOn 85 (.iadd) 1 86 := ⟨by decide +kernel, rfl⟩
theorem qX12_isOn_86 : Dc mX12_isOn 86 (.iaload) 1 87 := ⟨by decide +kernel, rfl⟩
theorem qX12_isOn_87 : Dc mX12_isOn 87 (.iadd) 1 88 := ⟨by decide +kernel, rfl⟩
theorem qX12_isOn_88 : Dc mX12_isOn 88 (.isub) 1 89 := ⟨by decide +kernel, rfl⟩
theorem qX12_isOn_89 : Dc mX12_isOn 89 (.istore_n 3) 1 90 := ⟨by decide +kernel, rfl⟩
theorem qX12_isOn_90 : Dc mX12_isOn 90 (.iinc 4 1) 3 93 := ⟨by decide +kernel, rfl⟩
theorem qX12_isOn_93 : Dc mX12_isOn 93 (.goto (-68)) 3 96 := ⟨by decide +kernel, rfl⟩
theorem qX12_isOn_96 : Dc mX12_isOn 96 (.iload_n 3) 1 97 := ⟨by decide +kernel, rfl⟩
theorem qX12_isOn_97 : Dc mX12_isOn 97 (.aload_n 0) 1 98 := ⟨by decide +kernel, rfl⟩
theorem qX12_isOn_98 : Dc mX12_isOn 98 (.getfield 33) 3 101 := ⟨by decide +kernel, rfl⟩
theorem qX12_isOn_101 : Dc mX12_isOn 101 (.bipush 51) 2 103 := ⟨by decide +kernel, rfl⟩
theorem qX12_isOn_103 : Dc mX12_isOn 103 (.iconst 4) 1 104 := ⟨by decide +kernel, rfl⟩
theorem qX12_isOn_104 : Dc mX12_isOn 104 (.iload_n 1) 1 105 := ⟨by decide +kernel, rfl⟩
theorem qX12_isOn_105 : Dc mX12_isOn 105 (.imul) 1 106 := ⟨by decide +kernel, rfl⟩
theorem qX12_isOn_106 : Dc mX12_isOn 106 (.iadd) 1 107 := ⟨by decide +kernel, rfl⟩
theorem qX12_isOn_107 : Dc mX12_isOn 107 (.iload 4) 2 109 := ⟨by decide +kernel, rfl⟩
theorem qX12_isOn_109 : Dc mX12_isOn 109 (.iadd) 1 110 := ⟨by decide +kernel, rfl⟩
theorem qX12_isOn_110 : Dc mX12_isOn 110 (.iaload) 1 111 := ⟨by decide +kernel, rfl⟩
theorem qX12_isOn_111 : Dc mX12_isOn 111 (.if_icmp .ge 7) 3 114 := ⟨by decide +kernel, rfl⟩
theorem qX12_isOn_114 : Dc mX12_isOn 114 (.iconst 1) 1 115 := ⟨by decide +kernel, rfl⟩
theorem qX12_isOn_115 : Dc mX12_isOn 115 (.goto 4) 3 118 := ⟨by decide +kernel, rfl⟩
theorem qX12_isOn_118 : Dc mX12_isOn 118 (.iconst 0) 1 119 := ⟨by decide +kernel, rfl⟩
theorem qX12_isOn_119 : Dc mX12_isOn 119 (.ireturn) 1 120 := ⟨by decide +kernel, rfl⟩

set_option maxRecDepth 20000 in
set_option maxHeartbeats 4000000 in
theorem w_X12_isOn_L25 {N : Nat} {c4 : Int32} {s0 : St} {k7 : Int32 → Int32 → Option (Int32)} {r : Int32}  (hk7 : ∀ (v8 : Int32) (v9 : Int32), k7 v8 v9 = some r → E mX12_isOn 1 (some (.int r), s0) 96 [some (.ref 206), some (.int c4), none, some (.int v8), some (.int v9)] [] s0) : ∀ (n10 : Nat) (v5 : Int32) (v6 : Int32), f_X12_isOn_L25 N c4 s0 k7 n10 v5 v6 = some r → E mX12_isOn 1 (some (.int r), s0) 25 [some (.ref 206), some (.int c4), none, some (.int v5), some (.int v6)] [] s0 := by
  intro n10
  induction n10 with
  | zero =>
    intro v5 v6 h
    rw [f_X12_isOn_L25] at h; cases h
  | succ n10 ih11 =>
    intro v5 v6 h
    rw [f_X12_isOn_L25] at h
    refine e_iload_n qX12_isOn_25 rfl ?_
    refine e_aload_n qX12_isOn_26 rfl ?_
    refine e_getr 208 qX12_isOn_27 fl_X12_33 shq_206 kdq_11_6 rrq_206_6 ?_
    refine e_bipush (nI 51) qX12_isOn_30 rfl ?_
    refine e_iconst (nI 4) qX12_isOn_32 rfl ?_
    refine e_iload_n qX12_isOn_33 rfl ?_
    refine e_imul qX12_isOn_34 ?_
    refine e_iadd qX12_isOn_35 ?_
    refine e_iload qX12_isOn_36 rfl ?_
    refine e_iadd qX12_isOn_38 ?_
    refine e_iald qX12_isOn_39 shq_208 lnq_208 h (fun v12 h => ?_)
    refine e_aload_n qX12_isOn_40 rfl ?_
    refine e_getr 208 qX12_isOn_41 fl_X12_33 shq_206 kdq_11_6 rrq_206_6 ?_
    refine e_bipush (nI 83) qX12_isOn_44 rfl ?_
    refine e_iconst (nI 4) qX12_isOn_46 rfl ?_
    refine e_iload_n qX12_isOn_47 rfl ?_
    refine e_imul qX12_isOn_48 ?_
    refine e_iadd qX12_isOn_49 ?_
    refine e_iload qX12_isOn_50 rfl ?_
    refine e_iadd qX12_isOn_52 ?_
    refine e_iald qX12_isOn_53 shq_208 lnq_208 h (fun v13 h => ?_)
    refine e_iadd qX12_isOn_54 ?_
    refine e_icmp_lt (tgt := 96) qX12_isOn_55 rfl h (fun _ h => ?_) (fun _ h => ?_)
    · exact e_weak (hk7 _ _ h) ⟨Or.inr rfl, Or.inr rfl, Or.inl rfl, Or.inr rfl, Or.inr rfl, trivial⟩
    refine e_iload_n qX12_isOn_58 rfl ?_
    refine e_aload_n qX12_isOn_59 rfl ?_
    refine e_getr 208 qX12_isOn_60 fl_X12_33 shq_206 kdq_11_6 rrq_206_6 ?_
    refine e_bipush (nI 51) qX12_isOn_63 rfl ?_
    refine e_iconst (nI 4) qX12_isOn_65 rfl ?_
    refine e_iload_n qX12_isOn_66 rfl ?_
    refine e_imul qX12_isOn_67 ?_
    refine e_iadd qX12_isOn_68 ?_
    refine e_iload qX12_isOn_69 rfl ?_
    refine e_iadd qX12_isOn_71 ?_
    refine e_iald qX12_isOn_72 shq_208 lnq_208 h (fun v14 h => ?_)
    refine e_aload_n qX12_isOn_73 rfl ?_
    refine e_getr 208 qX12_isOn_74 fl_X12_33 shq_206 kdq_11_6 rrq_206_6 ?_
    refine e_bipush (nI 83) qX12_isOn_77 rfl ?_
    refine e_iconst (nI 4) qX12_isOn_79 rfl ?_
    refine e_iload_n qX12_isOn_80 rfl ?_
    refine e_imul qX12_isOn_81 ?_
    refine e_iadd qX12_isOn_82 ?_
    refine e_iload qX12_isOn_83 rfl ?_
    refine e_iadd qX12_isOn_85 ?_
    refine e_iald qX12_isOn_86 shq_208 lnq_208 h (fun v15 h => ?_)
    refine e_iadd qX12_isOn_87 ?_
    refine e_isub qX12_isOn_88 ?_
    refine vl_e h (fun h => ?_)
    generalize (v5 - (v14 + v15)) = v16 at h ⊢
    refine e_istore_n (lv2 := [some (.ref 206), some (.int c4), none, some (.int v16), some (.int v6)]) qX12_isOn_89 rfl rfl rfl ?_
    refine vl_e h (fun h => ?_)
    obtain ⟨v17, ev17⟩ : ∃ y, v6 + (nI 1) = y := ⟨_, rfl⟩
    rw [ev17] at h
    refine e_iinc (nI 1) v17 (lv2 := [some (.ref 206), some (.int c4), none, some (.int v16), some (.int v17)]) qX12_isOn_90 rfl rfl rfl ev17 rfl ?_
    refine e_goto (tgt := 25) qX12_isOn_93 rfl ?_
    exact e_weak (ih11 _ _ h) ⟨Or.inr rfl, Or.inr rfl, Or.inl rfl, Or.inr rfl, Or.inr rfl, trivial⟩

set_option maxRecDepth 20000 in
set_option maxHeartbeats 4000000 in
theorem w_X12_isOn {N : Nat} {x1 : Int32} {x2 : Int32} {s0 : St} {r : Int32} (h : f_X12_isOn N x1 x2 s0 = some r) : Ct mX12_isOn 1 [.ref 206, .int x1, .int x2] s0 (some (.int r), s0) := by
  refine Ct.ofE (by decide +kernel) rfl ?_
  show E mX12_isOn 1 (some (.int r), s0) 0 [some (.ref 206), some (.int x1), some (.int x2), none, none] [] s0
  unfold f_X12_isOn at h
  refine e_aload_n qX12_isOn_0 rfl ?_
  refine e_getr 208 qX12_isOn_1 fl_X12_33 shq_206 kdq_11_6 rrq_206_6 ?_
  refine e_bipush (nI 43) qX12_isOn_4 rfl ?_
  refine e_iload_n qX12_isOn_6 rfl ?_
  refine e_iadd qX12_isOn_7 ?_
  refine e_iald qX12_isOn_8 shq_208 lnq_208 h (fun v1 h => ?_)
  refine e_if_ne (tgt := 14) qX12_isOn_9 rfl h (fun _ h => ?_) (fun _ h => ?_)
  · refine e_iconst (nI 1) qX12_isOn_12 rfl ?_
    exact e_zret qX12_isOn_13 rfl (by decide) (ret_p h)
  refine e_iload_n qX12_isOn_14 rfl ?_
  refine e_aload_n qX12_isOn_15 rfl ?_
  refine e_iload_n qX12_isOn_16 rfl ?_
  obtain ⟨v2, hc, h⟩ := bp_e h
  refine e_cVi1 qX12_isOn_17 mv_X12_261 shq_206 rfl rfl (w_X12_periodOf hc) ?_
  refine e_irem qX12_isOn_20 h (fun v3 h => ?_)
  refine e_istore_n (lv2 := [some (.ref 206), some (.int x1), some (.int x2), some (.int v3), none]) qX12_isOn_21 rfl rfl rfl ?_
  refine e_iconst (nI 0) qX12_isOn_22 rfl ?_
  refine e_istore (lv2 := [some (.ref 206), some (.int x1), some (.int x2), some (.int v3), some (.int (nI 0))]) qX12_isOn_23 rfl rfl rfl ?_
  refine e_weak (w_X12_isOn_L25 (fun v18 v19 h => ?_) _ _ _ h) ⟨Or.inr rfl, Or.inr rfl, Or.inl rfl, Or.inr rfl, Or.inr rfl, trivial⟩
  refine e_iload_n qX12_isOn_96 rfl ?_
  refine e_aload_n qX12_isOn_97 rfl ?_
  refine e_getr 208 qX12_isOn_98 fl_X12_33 shq_206 kdq_11_6 rrq_206_6 ?_
  refine e_bipush (nI 51) qX12_isOn_101 rfl ?_
  refine e_iconst (nI 4) qX12_isOn_103 rfl ?_
  refine e_iload_n qX12_isOn_104 rfl ?_
  refine e_imul qX12_isOn_105 ?_
  refine e_iadd qX12_isOn_106 ?_
  refine e_iload qX12_isOn_107 rfl ?_
  refine e_iadd qX12_isOn_109 ?_
  refine e_iald qX12_isOn_110 shq_208 lnq_208 h (fun v20 h => ?_)
  refine e_icmp_ge (tgt := 118) qX12_isOn_111 rfl h (fun _ h => ?_) (fun _ h => ?_)
  · refine e_iconst (nI 0) qX12_isOn_118 rfl ?_
    exact e_zret qX12_isOn_119 rfl (by decide) (ret_p h)
  refine e_iconst (nI 1) qX12_isOn_114 rfl ?_
  refine e_goto (tgt := 119) qX12_isOn_115 rfl ?_
  exact e_zret qX12_isOn_119 rfl (by decide) (ret_p h)

def f_X12_placeIn (N : Nat) (x1 : Int32) (x2 : Int32) (s0 : St) : Option (Int32) :=
  ald (s0.1 208) 359 (nI 147) fun v1 =>
  ald (s0.1 208) 359 ((nI 158) + x1) fun v2 =>
  bp (f_X12_periodOf N x1 s0) fun v3 =>
  rm_ ((v1 + x2) + v2) v3 fun v4 =>
  some v4

theorem qX12_placeIn_0 : Dc mX12_placeIn 0 (.aload_n 0) 1 1 := ⟨by decide +kernel, rfl⟩
theorem qX12_placeIn_1 : Dc mX12_placeIn 1 (.getfield 33) 3 4 := ⟨by decide +kernel, rfl⟩
theorem qX12_placeIn_4 : Dc mX12_placeIn 4 (.sipush 147) 3 7 := ⟨by decide +kernel, rfl⟩
theorem qX12_placeIn_7 : Dc mX12_placeIn 7 (.iaload) 1 8 := ⟨by decide +kernel, rfl⟩
theorem qX12_placeIn_8 : Dc mX12_placeIn 8 (.iload_n 2) 1 9 := ⟨by decide +kernel, rfl⟩
theorem qX12_placeIn_9 : Dc mX12_placeIn 9 (.iadd) 1 10 := ⟨by decide +kernel, rfl⟩
theorem qX12_placeIn_10 : Dc mX12_placeIn 10 (.aload_n 0) 1 11 := ⟨by decide +kernel, rfl⟩
theorem qX12_placeIn_11 : Dc mX12_placeIn 11 (.getfield 33) 3 14 := ⟨by decide +kernel, rfl⟩
theorem qX12_placeIn_14 : Dc mX12_placeIn 14 (.sipush 158) 3 17 := ⟨by decide +kernel, rfl⟩
theorem qX12_placeIn_17 : Dc mX12_placeIn 17 (.iload_n 1) 1 18 := ⟨by decide +kernel, rfl⟩
theorem qX12_placeIn_18 : Dc mX12_placeIn 18 (.iadd) 1 19 := ⟨by decide +kernel, rfl⟩
theorem qX12_placeIn_19 : Dc mX12_placeIn 19 (.iaload) 1 20 := ⟨by decide +kernel, rfl⟩
theorem qX12_placeIn_20 : Dc mX12_placeIn 20 (.iadd) 1 21 := ⟨by decide +kernel, rfl⟩
theorem qX12_placeIn_21 : Dc mX12_placeIn 21 (.aload_n 0) 1 22 := ⟨by decide +kernel, rfl⟩
theorem qX12_placeIn_22 : Dc mX12_placeIn 22 (.iload_n 1) 1 23 := ⟨by decide +kernel, rfl⟩
theorem qX12_placeIn_23 : Dc mX12_placeIn 23 (.invokevirtual 261) 3 26 := ⟨by decide +kernel, rfl⟩
theorem qX12_placeIn_26 : Dc mX12_placeIn 26 (.irem) 1 27 := ⟨by decide +kernel, rfl⟩
theorem qX12_placeIn_27 : Dc mX12_placeIn 27 (.ireturn) 1 28 := ⟨by decide +kernel, rfl⟩

set_option maxRecDepth 20000 in
set_option maxHeartbeats 4000000 in
theorem w_X12_placeIn {N : Nat} {x1 : Int32} {x2 : Int32} {s0 : St} {r : Int32} (h : f_X12_placeIn N x1 x2 s0 = some r) : Ct mX12_placeIn 1 [.ref 206, .int x1, .int x2] s0 (some (.int r), s0) := by
  refine Ct.ofE (by decide +kernel) rfl ?_
  show E mX12_placeIn 1 (some (.int r), s0) 0 [some (.ref 206), some (.int x1), some (.int x2)] [] s0
  unfold f_X12_placeIn at h
  refine e_aload_n qX12_placeIn_0 rfl ?_
  refine e_getr 208 qX12_placeIn_1 fl_X12_33 shq_206 kdq_11_6 rrq_206_6 ?_
  refine e_sipush (nI 147) qX12_placeIn_4 rfl ?_
  refine e_iald qX12_placeIn_7 shq_208 lnq_208 h (fun v1 h => ?_)
  refine e_iload_n qX12_placeIn_8 rfl ?_
  refine e_iadd qX12_placeIn_9 ?_
  refine e_aload_n qX12_placeIn_10 rfl ?_
  refine e_getr 208 qX12_placeIn_11 fl_X12_33 shq_206 kdq_11_6 rrq_206_6 ?_
  refine e_sipush (nI 158) qX12_placeIn_14 rfl ?_
  refine e_iload_n qX12_placeIn_17 rfl ?_
  refine e_iadd qX12_placeIn_18 ?_
  refine e_iald qX12_placeIn_19 shq_208 lnq_208 h (fun v2 h => ?_)
  refine e_iadd qX12_placeIn_20 ?_
  refine e_aload_n qX12_placeIn_21 rfl ?_
  refine e_iload_n qX12_placeIn_22 rfl ?_
  obtain ⟨v3, hc, h⟩ := bp_e h
  refine e_cVi1 qX12_placeIn_23 mv_X12_261 shq_206 rfl rfl (w_X12_periodOf hc) ?_
  refine e_irem qX12_placeIn_26 h (fun v4 h => ?_)
  exact e_iret qX12_placeIn_27 rfl (ret_p h)

def f_X12_showsAt (N : Nat) (x1 : Int32) (x2 : Int32) (s0 : St) : Option (Int32) :=
  bp (f_X12_isOn N x1 x2 s0) fun v1 =>
  if v1 = 0 then
    some (nI 0)
  else
  ald (s0.1 208) 359 ((nI 27) + x1) fun v2 =>
  some v2

theorem qX12_showsAt_0 : Dc mX12_showsAt 0 (.aload_n 0) 1 1 := ⟨by decide +kernel, rfl⟩
theorem qX12_showsAt_1 : Dc mX12_showsAt 1 (.iload_n 1) 1 2 := ⟨by decide +kernel, rfl⟩
theorem qX12_showsAt_2 : Dc mX12_showsAt 2 (.iload_n 2) 1 3 := ⟨by decide +kernel, rfl⟩
theorem qX12_showsAt_3 : Dc mX12_showsAt 3 (.invokevirtual 265) 3 6 := ⟨by decide +kernel, rfl⟩
theorem qX12_showsAt_6 : Dc mX12_showsAt 6 (.ifCond .eq 15) 3 9 := ⟨by decide +kernel, rfl⟩
theorem qX12_showsAt_9 : Dc mX12_showsAt 9 (.aload_n 0) 1 10 := ⟨by decide +kernel, rfl⟩
theorem qX12_showsAt_10 : Dc mX12_showsAt 10 (.getfield 33) 3 13 := ⟨by decide +kernel, rfl⟩
theorem qX12_showsAt_13 : Dc mX12_showsAt 13 (.bipush 27) 2 15 := ⟨by decide +kernel, rfl⟩
theorem qX12_showsAt_15 : Dc mX12_showsAt 15 (.iload_n 1) 1 16 := ⟨by decide +kernel, rfl⟩
theorem qX12_showsAt_16 : Dc mX12_showsAt 16 (.iadd) 1 17 := ⟨by decide +kernel, rfl⟩
theorem qX12_showsAt_17 : Dc mX12_showsAt 17 (.iaload) 1 18 := ⟨by decide +kernel, rfl⟩
theorem qX12_showsAt_18 : Dc mX12_showsAt 18 (.goto 4) 3 21 := ⟨by decide +kernel, rfl⟩
theorem qX12_showsAt_21 : Dc mX12_showsAt 21 (.iconst 0) 1 22 := ⟨by decide +kernel, rfl⟩
theorem qX12_showsAt_22 : Dc mX12_showsAt 22 (.ireturn) 1 23 := ⟨by decide +kernel, rfl⟩

set_option maxRecDepth 20000 in
set_option maxHeartbeats 4000000 in
theorem w_X12_showsAt {N : Nat} {x1 : Int32} {x2 : Int32} {s0 : St} {r : Int32} (h : f_X12_showsAt N x1 x2 s0 = some r) : Ct mX12_showsAt 2 [.ref 206, .int x1, .int x2] s0 (some (.int r), s0) := by
  refine Ct.ofE (by decide +kernel) rfl ?_
  show E mX12_showsAt 2 (some (.int r), s0) 0 [some (.ref 206), some (.int x1), some (.int x2)] [] s0
  unfold f_X12_showsAt at h
  refine e_aload_n qX12_showsAt_0 rfl ?_
  refine e_iload_n qX12_showsAt_1 rfl ?_
  refine e_iload_n qX12_showsAt_2 rfl ?_
  obtain ⟨v1, hc, h⟩ := bp_e h
  refine e_cVi2 qX12_showsAt_3 mv_X12_265 shq_206 rfl rfl (w_X12_isOn hc) ?_
  refine e_if_eq (tgt := 21) qX12_showsAt_6 rfl h (fun _ h => ?_) (fun _ h => ?_)
  · refine e_iconst (nI 0) qX12_showsAt_21 rfl ?_
    exact e_iret qX12_showsAt_22 rfl (ret_p h)
  refine e_aload_n qX12_showsAt_9 rfl ?_
  refine e_getr 208 qX12_showsAt_10 fl_X12_33 shq_206 kdq_11_6 rrq_206_6 ?_
  refine e_bipush (nI 27) qX12_showsAt_13 rfl ?_
  refine e_iload_n qX12_showsAt_15 rfl ?_
  refine e_iadd qX12_showsAt_16 ?_
  refine e_iald qX12_showsAt_17 shq_208 lnq_208 h (fun v2 h => ?_)
  refine e_goto (tgt := 22) qX12_showsAt_18 rfl ?_
  exact e_iret qX12_showsAt_22 rfl (ret_p h)

def f_X12_isShining (N : Nat) (x1 : Int32) (s0 : St) : Option (Int32) :=
  ald (s0.1 208) 359 (nI 148) fun v1 =>
  bp (f_X12_bitOf v1 x1 s0) fun v2 =>
  jn (some (nI 0)) fun j3 =>
  if v2 = 0 then
    ald (s0.1 208) 359 ((nI 150) + x1) fun v4 =>
    if v4 ≤ 0 then
      j3
    else
    bp (f_X12_placeIn N x1 (nI 0) s0) fun v5 =>
    bp (f_X12_isOn N x1 v5 s0) fun v6 =>
    if v6 = 0 then
      j3
    else
    some (nI 1)
  else
  j3

theorem qX12_isShining_0 : Dc mX12_isShining 0 (.aload_n 0) 1 1 := ⟨by decide +kernel, rfl⟩
theorem qX12_isShining_1 : Dc mX12_isShining 1 (.getfield 33) 3 4 := ⟨by decide +kernel, rfl⟩
theorem qX12_isShining_4 : Dc mX12_isShining 4 (.sipush 148) 3 7 := ⟨by decide +kernel, rfl⟩
theorem qX12_isShining_7 : Dc mX12_isShining 7 (.iaload) 1 8 := ⟨by decide +kernel, rfl⟩
theorem qX12_isShining_8 : Dc mX12_isShining 8 (.iload_n 1) 1 9 := ⟨by decide +kernel, rfl⟩
theorem qX12_isShining_9 : Dc mX12_isShining 9 (.invokestatic 240) 3 12 := ⟨by decide +kernel, rfl⟩
theorem qX12_isShining_12 : Dc mX12_isShining 12 (.ifCond .ne 34) 3 15 := ⟨by decide +kernel, rfl⟩
theorem qX12_isShining_15 : Dc mX12_isShining 15 (.aload_n 0) 1 16 := ⟨by decide +kernel, rfl⟩
theorem qX12_isShining_16 : Dc mX12_isShining 16 (.getfield 33) 3 19 := ⟨by decide +kernel, rfl⟩
theorem qX12_isShining_19 : Dc mX12_isShining 19 (.sipush 150) 3 22 := ⟨by decide +kernel, rfl⟩
theorem qX12_isShining_22 : Dc mX12_isShining 22 (.iload_n 1) 1 23 := ⟨by decide +kernel, rfl⟩
theorem qX12_isShining_23 : Dc mX12_isShining 23 (.iadd) 1 24 := ⟨by decide +kernel, rfl⟩
theorem qX12_isShining_24 : Dc mX12_isShining 24 (.iaload) 1 25 := ⟨by decide +kernel, rfl⟩
theorem qX12_isShining_25 : Dc mX12_isShining 25 (.ifCond .le 21) 3 28 := ⟨by decide +kernel, rfl⟩
theorem qX12_isShining_28 : Dc mX12_isShining 28 (.aload_n 0) 1 29 := ⟨by decide +kernel, rfl⟩
theorem qX12_isShining_29 : Dc mX12_isShining 29 (.iload_n 1) 1 30 := ⟨by decide +kernel, rfl⟩
theorem qX12_isShining_30 : Dc mX12_isShining 30 (.aload_n 0) 1 31 := ⟨by decide +kernel, rfl⟩
theorem qX12_isShining_31 : Dc mX12_isShining 31 (.iload_n 1) 1 32 := ⟨by decide +kernel, rfl⟩
theorem qX12_isShining_32 : Dc mX12_isShining 32 (.iconst 0) 1 33 := ⟨by decide +kernel, rfl⟩
theorem qX12_isShining_33 : Dc mX12_isShining 33 (.invokevirtual 268) 3 36 := ⟨by decide +kernel, rfl⟩
theorem qX12_isShining_36 : Dc mX12_isShining 36 (.invokevirtual 265) 3 39 := ⟨by decide +kernel, rfl⟩
theorem qX12_isShining_39 : Dc mX12_isShining 39 (.ifCond .eq 7) 3 42 := ⟨by decide +kernel, rfl⟩
theorem qX12_isShining_42 : Dc mX12_isShining 42 (.iconst 1) 1 43 := ⟨by decide +kernel, rfl⟩
theorem qX12_isShining_43 : Dc mX12_isShining 43 (.goto 4) 3 46 := ⟨by decide +kernel, rfl⟩
theorem qX12_isShining_46 : Dc mX12_isShining 46 (.iconst 0) 1 47 := ⟨by decide +kernel, rfl⟩
theorem qX12_isShining_47 : Dc mX12_isShining 47 (.ireturn) 1 48 := ⟨by decide +kernel, rfl⟩

set_option maxRecDepth 20000 in
set_option maxHeartbeats 4000000 in
theorem w_X12_isShining {N : Nat} {x1 : Int32} {s0 : St} {r : Int32} (h : f_X12_isShining N x1 s0 = some r) : Ct mX12_isShining 2 [.ref 206, .int x1] s0 (some (.int r), s0) := by
  refine Ct.ofE (by decide +kernel) rfl ?_
  show E mX12_isShining 2 (some (.int r), s0) 0 [some (.ref 206), some (.int x1)] [] s0
  unfold f_X12_isShining at h
  refine e_aload_n qX12_isShining_0 rfl ?_
  refine e_getr 208 qX12_isShining_1 fl_X12_33 shq_206 kdq_11_6 rrq_206_6 ?_
  refine e_sipush (nI 148) qX12_isShining_4 rfl ?_
  refine e_iald qX12_isShining_7 shq_208 lnq_208 h (fun v1 h => ?_)
  refine e_iload_n qX12_isShining_8 rfl ?_
  obtain ⟨v2, hc, h⟩ := bp_e h
  refine e_cSi2 qX12_isShining_9 ms_X12_240 rfl rfl (w_X12_bitOf hc) ?_
  refine jn_e (fun j => j = some r → E mX12_isShining 2 (some (.int r), s0) 46 [none, none] [] s0) h ?_ (fun j3 hj3 h => ?_)
  · intro h
    refine e_iconst (nI 0) qX12_isShining_46 rfl ?_
    exact e_zret qX12_isShining_47 rfl (by decide) (ret_p h)
  refine e_if_ne (tgt := 46) qX12_isShining_12 rfl h (fun _ h => ?_) (fun _ h => ?_)
  · refine e_aload_n qX12_isShining_15 rfl ?_
    refine e_getr 208 qX12_isShining_16 fl_X12_33 shq_206 kdq_11_6 rrq_206_6 ?_
    refine e_sipush (nI 150) qX12_isShining_19 rfl ?_
    refine e_iload_n qX12_isShining_22 rfl ?_
    refine e_iadd qX12_isShining_23 ?_
    refine e_iald qX12_isShining_24 shq_208 lnq_208 h (fun v4 h => ?_)
    refine e_if_le (tgt := 46) qX12_isShining_25 rfl h (fun _ h => ?_) (fun _ h => ?_)
    · exact e_weak (hj3 h) ⟨Or.inl rfl, Or.inl rfl, trivial⟩
    refine e_aload_n qX12_isShining_28 rfl ?_
    refine e_iload_n qX12_isShining_29 rfl ?_
    refine e_aload_n qX12_isShining_30 rfl ?_
    refine e_iload_n qX12_isShining_31 rfl ?_
    refine e_iconst (nI 0) qX12_isShining_32 rfl ?_
    obtain ⟨v5, hc, h⟩ := bp_e h
    refine e_cVi2 qX12_isShining_33 mv_X12_268 shq_206 rfl rfl (w_X12_placeIn hc) ?_
    obtain ⟨v6, hc, h⟩ := bp_e h
    refine e_cVi2 qX12_isShining_36 mv_X12_265 shq_206 rfl rfl (w_X12_isOn hc) ?_
    refine e_if_eq (tgt := 46) qX12_isShining_39 rfl h (fun _ h => ?_) (fun _ h => ?_)
    · exact e_weak (hj3 h) ⟨Or.inl rfl, Or.inl rfl, trivial⟩
    refine e_iconst (nI 1) qX12_isShining_42 rfl ?_
    refine e_goto (tgt := 47) qX12_isShining_43 rfl ?_
    exact e_zret qX12_isShining_47 rfl (by decide) (ret_p h)
  exact e_weak (hj3 h) ⟨Or.inl rfl, Or.inl rfl, trivial⟩

def f_X12_isAlike_L70 (N : Nat) (c13 : Int32) (c14 : Int32) (c15 : Int32) (c17 : Int32) (s0 : St) (k19 : Int32 → Option (Int32)) : Nat → Int32 → Int32 → Option (Int32)
  | 0, _, _ => none
  | n21 + 1, v16, v18 =>
    if c15 ≤ v18 then
      k19 v16
    else
    if v16 = 0 then
      k19 v16
    else
    bp (f_X12_isOn N c13 v18 s0) fun v23 =>
    bp (f_X12_isOn N c14 (c17 + v18) s0) fun v24 =>
    jn (fun (v25 : Int32) =>
      vl (v18 + (nI 1)) fun v27 =>
      f_X12_isAlike_L70 N c13 c14 c15 c17 s0 k19 n21 v25 v27) fun j26 =>
    if v23 = v24 then
      j26 (nI 1)
    else
    j26 (nI 0)

def f_X12_isAlike_L53 (N : Nat) (c6 : Int32) (c7 : Int32) (c8 : Int32) (s0 : St) : Nat → Int32 → Int32 → Option (Int32)
  | 0, _, _ => none
  | n11 + 1, v9, v10 =>
    if c8 ≤ v10 then
      rz v9 <|
      some v9
    else
    if v9 = 0 then
      f_X12_isAlike_L70 N c6 c7 c8 v10 s0 (fun (v28 : Int32) =>
        vl (v10 + (nI 1)) fun v29 =>
        f_X12_isAlike_L53 N c6 c7 c8 s0 n11 v28 v29) N (nI 1) (nI 0)
    else
    rz v9 <|
    some v9

def f_X12_isAlike (N : Nat) (x1 : Int32) (x2 : Int32) (s0 : St) : Option (Int32) :=
  if x1 = x2 then
    some (nI 0)
  else
  ald (s0.1 208) 359 ((nI 27) + x1) fun v1 =>
  ald (s0.1 208) 359 ((nI 27) + x2) fun v2 =>
  if v1 = v2 then
    bp (f_X12_periodOf N x1 s0) fun v3 =>
    bp (f_X12_periodOf N x2 s0) fun v4 =>
    if v3 = v4 then
      bp (f_X12_periodOf N x1 s0) fun v5 =>
      f_X12_isAlike_L53 N x1 x2 v5 s0 N (nI 0) (nI 0)
    else
    some (nI 0)
  else
  some (nI 0)

theorem qX12_isAlike_0 : Dc mX12_isAlike 0 (.iload_n 1) 1 1 := ⟨by decide +kernel, rfl⟩
theorem qX12_isAlike_1 : Dc mX12_isAlike 1 (.iload_n 2) 1 2 := ⟨by decide +kernel, rfl⟩
theorem qX12_isAlike_2 : Dc mX12_isAlike 2 (.if_icmp .eq 37) 3 5 := ⟨by decide +kernel, rfl⟩
theorem qX12_isAlike_5 : Dc mX12_isAlike 5 (.aload_n 0) 1 6 := ⟨by decide +kernel, rfl⟩
theorem qX12_isAlike_6 : Dc mX12_isAlike 6 (.getfield 33) 3 9 := ⟨by decide +kernel, rfl⟩
theorem qX12_isAlike_9 : Dc mX12_isAlike 9 (.bipush 27) 2 11 := ⟨by decide +kernel, rfl⟩
theorem qX12_isAlike_11 : Dc mX12_isAlike 11 (.iload_n 1) 1 12 := ⟨by decide +kernel, rfl⟩
theorem qX12_isAlike_12 : Dc mX12_isAlike 12 (.iadd) 1 13 := ⟨by decide +kernel, rfl⟩
theorem qX12_isAlike_13 : Dc mX12_isAlike 13 (.iaload) 1 14 := ⟨by decide +kernel, rfl⟩
theorem qX12_isAlike_14 : Dc mX12_isAlike 14 (.aload_n 0) 1 15 := ⟨by decide +kernel, rfl⟩
theorem qX12_isAlike_15 : Dc mX12_isAlike 15 (.getfield 33) 3 18 := ⟨by decide +kernel, rfl⟩
theorem qX12_isAlike_18 : Dc mX12_isAlike 18 (.bipush 27) 2 20 := ⟨by decide +kernel, rfl⟩
theorem qX12_isAlike_20 : Dc mX12_isAlike 20 (.iload_n 2) 1 21 := ⟨by decide +kernel, rfl⟩
theorem qX12_isAlike_21 : Dc mX12_isAlike 21 (.iadd) 1 22 := ⟨by decide +kernel, rfl⟩
theorem qX12_isAlike_22 : Dc mX12_isAlike 22 (.iaload) 1 23 := ⟨by decide +kernel, rfl⟩
theorem qX12_isAlike_23 : Dc mX12_isAlike 23 (.if_icmp .ne 16) 3 26 := ⟨by decide +kernel, rfl⟩
theorem qX12_isAlike_26 : Dc mX12_isAlike 26 (.aload_n 0) 1 27 := ⟨by decide +kernel, rfl⟩
theorem qX12_isAlike_27 : Dc mX12_isAlike 27 (.iload_n 1) 1 28 := ⟨by decide +kernel, rfl⟩
theorem qX12_isAlike_28 : Dc mX12_isAlike 28 (.invokevirtual 261) 3 31 := ⟨by decide +kernel, rfl⟩
theorem qX12_isAlike_31 : Dc mX12_isAlike 31 (.aload_n 0) 1 32 := ⟨by decide +kernel, rfl⟩
theorem qX12_isAlike_32 : Dc mX12_isAlike 32 (.iload_n 2) 1 33 := ⟨by decide +kernel, rfl⟩
theorem qX12_isAlike_33 : Dc mX12_isAlike 33 (.invokevirtual 261) 3 36 := ⟨by decide +kernel, rfl⟩
theorem qX12_isAlike_36 : Dc mX12_isAlike 36 (.if_icmp .eq 5) 3 39 := ⟨by decide +kernel, rfl⟩
theorem qX12_isAlike_39 : Dc mX12_isAlike 39 (.iconst 0) 1 40 := ⟨by decide +kernel, rfl⟩
theorem qX12_isAlike_40 : Dc mX12_isAlike 40 (.ireturn) 1 41 := ⟨by decide +kernel, rfl⟩
theorem qX12_isAlike_41 : Dc mX12_isAlike 41 (.aload_n 0) 1 42 := ⟨by decide +kernel, rfl⟩
theorem qX12_isAlike_42 : Dc mX12_isAlike 42 (.iload_n 1) 1 43 := ⟨by decide +kernel, rfl⟩
theorem qX12_isAlike_43 : Dc mX12_isAlike 43 (.invokevirtual 261) 3 46 := ⟨by decide +kernel, rfl⟩
theorem qX12_isAlike_46 : Dc mX12_isAlike 46 (.istore_n 3) 1 47 := ⟨by decide +kernel, rfl⟩
theorem qX12_isAlike_47 : Dc mX12_isAlike 47 (.iconst 0) 1 48 := ⟨by decide +kernel, rfl⟩
theorem qX12_isAlike_48 : Dc mX12_isAlike 48 (.istore 4) 2 50 := ⟨by decide +kernel, rfl⟩
theorem qX12_isAlike_50 : Dc mX12_isAlike 50 (.iconst 0) 1 51 := ⟨by decide +kernel, rfl⟩
theorem qX12_isAlike_51 : Dc mX12_isAlike 51 (.istore 5) 2 53 := ⟨by decide +kernel, rfl⟩
theorem qX12_isAlike_53 : Dc mX12_isAlike 53 (.iload 5) 2 55 := ⟨by decide +kernel, rfl⟩
theorem qX12_isAlike_55 : Dc mX12_isAlike 55 (.iload_n 3) 1 56 := ⟨by decide +kernel, rfl⟩
theorem qX12_isAlike_56 : Dc mX12_isAlike 56 (.if_icmp .ge 64) 3 59 := ⟨by decide +kernel, rfl⟩
theorem qX12_isAlike_59 : Dc mX12_isAlike 59 (.iload 4) 2 61 := ⟨by decide +kernel, rfl⟩
theorem qX12_isAlike_61 : Dc mX12_isAlike 61 (.ifCond .ne 59) 3 64 := ⟨by decide +kernel, rfl⟩
theorem qX12_isAlike_64 : Dc mX12_isAlike 64 (.iconst 1) 1 65 := ⟨by decide +kernel, rfl⟩
theorem qX12_isAlike_65 : Dc mX12_isAlike 65 (.istore 4) 2 67 := ⟨by decide +kernel, rfl⟩
theorem qX12_isAlike_67 : Dc mX12_isAlike 67 (.iconst 0) 1 68 := ⟨by decide +kernel, rfl⟩
theorem qX12_isAlike_68 : Dc mX12_isAlike 68 (.istore 6) 2 70 := ⟨by decide +kernel, rfl⟩
theorem qX12_isAlike_70 : Dc mX12_isAlike 70 (.iload 6) 2 72 := ⟨by decide +kernel, rfl⟩
theorem qX12_isAlike_72 : Dc mX12_isAlike 72 (.iload_n 3) 1 73 := ⟨by decide +kernel, rfl⟩
theorem qX12_isAlike_73 : Dc mX12_isAlike 73 (.if_icmp .ge 41) 3 76 := ⟨by decide +kernel, rfl⟩
theorem qX12_isAlike_76 : Dc mX12_isAlike 76 (.iload 4) 2 78 := ⟨by decide +kernel, rfl⟩
theorem qX12_isAlike_78 : Dc mX12_isAlike 78 (.ifCond .eq 36) 3 81 := ⟨by decide +kernel, rfl⟩
theorem qX12_isAlike_81 : Dc mX12_isAlike 81 (.aload_n 0) 1 82 := ⟨by decide +kernel, rfl⟩
theorem qX12_isAlike_82 : Dc mX12_isAlike 82 (.iload_n 1) 1 83 := ⟨by decide +kernel, rfl⟩
theorem qX12_isAlike_83 : Dc mX12_isAlike 83 (.iload 6) 2 85 := ⟨by decide +kernel, rfl⟩
theorem qX12_isAlike_85 : Dc mX12_isAlike 85 (.invokevirtual 265) 3 88 := ⟨by decide +kernel, rfl⟩
theorem qX12_isAlike_88 : Dc mX12_isAlike 88 (.aload_n 0) 1 89 := ⟨by decide +kernel, rfl⟩
theorem qX12_isAlike_89 : Dc mX12_isAlike 89 (.iload_n 2) 1 90 := ⟨by decide +kernel, rfl⟩
theorem qX12_isAlike_90 : Dc mX12_isAlike 90 (.iload 5) 2 92 := ⟨by decide +kernel, rfl⟩
theorem qX12_isAlike_92 : Dc mX12_isAlike 92 (.iload 6) 2 94 := ⟨by decide +kernel, rfl⟩
theorem qX12_isAlike_94 : Dc mX12_isAlike 94 (.iadd) 1 95 := ⟨by decide +kernel, rfl⟩
theorem qX12_isAlike_95 : Dc mX12_isAlike 95 (.invokevirtual 265) 3 98 := ⟨by decide +kernel, rfl⟩
theorem qX12_isAlike_98 : Dc mX12_isAlike 98 (.if_icmp .ne 7) 3 101 := ⟨by decide +kernel, rfl⟩
theorem qX12_isAlike_101 : Dc mX12_isAlike 101 (.iconst 1) 1 102 := ⟨by decide +kernel, rfl⟩
theorem qX12_isAlike_102 : Dc mX12_isAlike 102 (.goto 4) 3 105 := ⟨by decide +kernel, rfl⟩
theorem qX12_isAlike_105 : Dc mX12_isAlike 105 (.iconst 0) 1 106 := ⟨by decide +kernel, rfl⟩
theorem qX12_isAlike_106 : Dc mX12_isAlike 106 (.istore 4) 2 108 := ⟨by decide +kernel, rfl⟩
theorem qX12_isAlike_108 : Dc mX12_isAlike 108 (.iinc 6 1) 3 111 := ⟨by decide +kernel, rfl⟩
theorem qX12_isAlike_111 : Dc mX12_isAlike 111 (.goto (-41)) 3 114 := ⟨by decide +kernel, rfl⟩
theorem qX12_isAlike_114 : Dc mX12_isAlike 114 (.iinc 5 1) 3 117 := ⟨by decide +kernel, rfl⟩
theorem qX12_isAlike_117 : Dc mX12_isAlike 117 (.goto (-64)) 3 120 := ⟨by decide +kernel, rfl⟩
theorem qX12_isAlike_120 : Dc mX12_isAlike 120 (.iload 4) 2 122 := ⟨by decide +kernel, rfl⟩
theorem qX12_isAlike_122 : Dc mX12_isAlike 122 (.ireturn) 1 123 := ⟨by decide +kernel, rfl⟩

set_option maxRecDepth 20000 in
set_option maxHeartbeats 4000000 in
theorem w_X12_isAlike_L70 {N : Nat} {c13 : Int32} {c14 : Int32} {c15 : Int32} {c17 : Int32} {s0 : St} {k19 : Int32 → Option (Int32)} {r : Int32}  (hk19 : ∀ (v20 : Int32), k19 v20 = some r → E mX12_isAlike 2 (some (.int r), s0) 114 [some (.ref 206), some (.int c13), some (.int c14), some (.int c15), some (.int v20), some (.int c17), none] [] s0) : ∀ (n21 : Nat) (v16 : Int32) (v18 : Int32), f_X12_isAlike_L70 N c13 c14 c15 c17 s0 k19 n21 v16 v18 = some r → E mX12_isAlike 2 (some (.int r), s0) 70 [some (.ref 206), some (.int c13), some (.int c14), some (.int c15), some (.int v16), some (.int c17), some (.int v18)] [] s0 := by
  intro n21
  induction n21 with
  | zero =>
    intro v16 v18 h
    rw [f_X12_isAlike_L70] at h; cases h
  | succ n21 ih22 =>
    intro v16 v18 h
    rw [f_X12_isAlike_L70] at h
    refine e_iload qX12_isAlike_70 rfl ?_
    refine e_iload_n qX12_isAlike_72 rfl ?_
    refine e_icmp_ge (tgt := 114) qX12_isAlike_73 rfl h (fun _ h => ?_) (fun _ h => ?_)
    · exact e_weak (hk19 _ h) ⟨Or.inr rfl, Or.inr rfl, Or.inr rfl, Or.inr rfl, Or.inr rfl, Or.inr rfl, Or.inl rfl, trivial⟩
    refine e_iload qX12_isAlike_76 rfl ?_
    refine e_if_eq (tgt := 114) qX12_isAlike_78 rfl h (fun _ h => ?_) (fun _ h => ?_)
    · exact e_weak (hk19 _ h) ⟨Or.inr rfl, Or.inr rfl, Or.inr rfl, Or.inr rfl, Or.inr rfl, Or.inr rfl, Or.inl rfl, trivial⟩
    refine e_aload_n qX12_isAlike_81 rfl ?_
    refine e_iload_n qX12_isAlike_82 rfl ?_
    refine e_iload qX12_isAlike_83 rfl ?_
    obtain ⟨v23, hc, h⟩ := bp_e h
    refine e_cVi2 qX12_isAlike_85 mv_X12_265 shq_206 rfl rfl (w_X12_isOn hc) ?_
    refine e_aload_n qX12_isAlike_88 rfl ?_
    refine e_iload_n qX12_isAlike_89 rfl ?_
    refine e_iload qX12_isAlike_90 rfl ?_
    refine e_iload qX12_isAlike_92 rfl ?_
    refine e_iadd qX12_isAlike_94 ?_
    obtain ⟨v24, hc, h⟩ := bp_e h
    refine e_cVi2 qX12_isAlike_95 mv_X12_265 shq_206 rfl rfl (w_X12_isOn hc) ?_
    refine jn_e (fun j => ∀ (v25 : Int32), j v25 = some r → E mX12_isAlike 2 (some (.int r), s0) 106 [some (.ref 206), some (.int c13), some (.int c14), some (.int c15), none, some (.int c17), some (.int v18)] [.int v25] s0) h ?_ (fun j26 hj26 h => ?_)
    · intro v25 h
      refine e_istore (lv2 := [some (.ref 206), some (.int c13), some (.int c14), some (.int c15), some (.int v25), some (.int c17), some (.int v18)]) qX12_isAlike_106 rfl rfl rfl ?_
      refine vl_e h (fun h => ?_)
      obtain ⟨v27, ev27⟩ : ∃ y, v18 + (nI 1) = y := ⟨_, rfl⟩
      rw [ev27] at h
      refine e_iinc (nI 1) v27 (lv2 := [some (.ref 206), some (.int c13), some (.int c14), some (.int c15), some (.int v25), some (.int c17), some (.int v27)]) qX12_isAlike_108 rfl rfl rfl ev27 rfl ?_
      refine e_goto (tgt := 70) qX12_isAlike_111 rfl ?_
      exact e_weak (ih22 _ _ h) ⟨Or.inr rfl, Or.inr rfl, Or.inr rfl, Or.inr rfl, Or.inr rfl, Or.inr rfl, Or.inr rfl, trivial⟩
    refine e_icmp_ne (tgt := 105) qX12_isAlike_98 rfl h (fun _ h => ?_) (fun _ h => ?_)
    · refine e_iconst (nI 1) qX12_isAlike_101 rfl ?_
      refine e_goto (tgt := 106) qX12_isAlike_102 rfl ?_
      exact e_weak (hj26 _ h) ⟨Or.inr rfl, Or.inr rfl, Or.inr rfl, Or.inr rfl, Or.inl rfl, Or.inr rfl, Or.inr rfl, trivial⟩
    refine e_iconst (nI 0) qX12_isAlike_105 rfl ?_
    exact e_weak (hj26 _ h) ⟨Or.inr rfl, Or.inr rfl, Or.inr rfl, Or.inr rfl, Or.inl rfl, Or.inr rfl, Or.inr rfl, trivial⟩

set_option maxRecDepth 20000 in
set_option maxHeartbeats 4000000 in
theorem w_X12_isAlike_L53 {N : Nat} {c6 : Int32} {c7 : Int32} {c8 : Int32} {s0 : St}  {r : Int32}   : ∀ (n11 : Nat) (v9 : Int32) (v10 : Int32), f_X12_isAlike_L53 N c6 c7 c8 s0 n11 v9 v10 = some r → E mX12_isAlike 2 (some (.int r), s0) 53 [some (.ref 206), some (.int c6), some (.int c7), some (.int c8), some (.int v9), some (.int v10), none] [] s0 := by
  intro n11
  induction n11 with
  | zero =>
    intro v9 v10 h
    rw [f_X12_isAlike_L53] at h; cases h
  | succ n11 ih12 =>
    intro v9 v10 h
    rw [f_X12_isAlike_L53] at h
    refine e_iload qX12_isAlike_53 rfl ?_
    refine e_iload_n qX12_isAlike_55 rfl ?_
    refine e_icmp_ge (tgt := 120) qX12_isAlike_56 rfl h (fun _ h => ?_) (fun _ h => ?_)
    · refine e_iload qX12_isAlike_120 rfl ?_
      refine rz_e h (fun hz h => ?_)
      exact e_zret qX12_isAlike_122 rfl hz (ret_p h)
    refine e_iload qX12_isAlike_59 rfl ?_
    refine e_if_ne (tgt := 120) qX12_isAlike_61 rfl h (fun _ h => ?_) (fun _ h => ?_)
    · refine e_iconst (nI 1) qX12_isAlike_64 rfl ?_
      refine e_istore (lv2 := [some (.ref 206), some (.int c6), some (.int c7), some (.int c8), some (.int (nI 1)), some (.int v10), none]) qX12_isAlike_65 rfl rfl rfl ?_
      refine e_iconst (nI 0) qX12_isAlike_67 rfl ?_
      refine e_istore (lv2 := [some (.ref 206), some (.int c6), some (.int c7), some (.int c8), some (.int (nI 1)), some (.int v10), some (.int (nI 0))]) qX12_isAlike_68 rfl rfl rfl ?_
      refine e_weak (w_X12_isAlike_L70 (fun v28 h => ?_) _ _ _ h) ⟨Or.inr rfl, Or.inr rfl, Or.inr rfl, Or.inr rfl, Or.inr rfl, Or.inr rfl, Or.inr rfl, trivial⟩
      refine vl_e h (fun h => ?_)
      obtain ⟨v29, ev29⟩ : ∃ y, v10 + (nI 1) = y := ⟨_, rfl⟩
      rw [ev29] at h
      refine e_iinc (nI 1) v29 (lv2 := [some (.ref 206), some (.int c6), some (.int c7), some (.int c8), some (.int v28), some (.int v29), none]) qX12_isAlike_114 rfl rfl rfl ev29 rfl ?_
      refine e_goto (tgt := 53) qX12_isAlike_117 rfl ?_
      exact e_weak (ih12 _ _ h) ⟨Or.inr rfl, Or.inr rfl, Or.inr rfl, Or.inr rfl, Or.inr rfl, Or.inr rfl, Or.inl rfl, trivial⟩
    refine e_iload qX12_isAlike_120 rfl ?_
    refine rz_e h (fun hz h => ?_)
    exact e_zret qX12_isAlike_122 rfl hz (ret_p h)

set_option maxRecDepth 20000 in
set_option maxHeartbeats 4000000 in
theorem w_X12_isAlike {N : Nat} {x1 : Int32} {x2 : Int32} {s0 : St} {r : Int32} (h : f_X12_isAlike N x1 x2 s0 = some r) : Ct mX12_isAlike 2 [.ref 206, .int x1, .int x2] s0 (some (.int r), s0) := by
  refine Ct.ofE (by decide +kernel) rfl ?_
  show E mX12_isAlike 2 (some (.int r), s0) 0 [some (.ref 206), some (.int x1), some (.int x2), none, none, none, none] [] s0
  unfold f_X12_isAlike at h
  refine e_iload_n qX12_isAlike_0 rfl ?_
  refine e_iload_n qX12_isAlike_1 rfl ?_
  refine e_icmp_eq (tgt := 39) qX12_isAlike_2 rfl h (fun _ h => ?_) (fun _ h => ?_)
  · refine e_iconst (nI 0) qX12_isAlike_39 rfl ?_
    exact e_zret qX12_isAlike_40 rfl (by decide) (ret_p h)
  refine e_aload_n qX12_isAlike_5 rfl ?_
  refine e_getr 208 qX12_isAlike_6 fl_X12_33 shq_206 kdq_11_6 rrq_206_6 ?_
  refine e_bipush (nI 27) qX12_isAlike_9 rfl ?_
  refine e_iload_n qX12_isAlike_11 rfl ?_
  refine e_iadd qX12_isAlike_12 ?_
  refine e_iald qX12_isAlike_13 shq_208 lnq_208 h (fun v1 h => ?_)
  refine e_aload_n qX12_isAlike_14 rfl ?_
  refine e_getr 208 qX12_isAlike_15 fl_X12_33 shq_206 kdq_11_6 rrq_206_6 ?_
  refine e_bipush (nI 27) qX12_isAlike_18 rfl ?_
  refine e_iload_n qX12_isAlike_20 rfl ?_
  refine e_iadd qX12_isAlike_21 ?_
  refine e_iald qX12_isAlike_22 shq_208 lnq_208 h (fun v2 h => ?_)
  refine e_icmp_ne (tgt := 39) qX12_isAlike_23 rfl h (fun _ h => ?_) (fun _ h => ?_)
  · refine e_aload_n qX12_isAlike_26 rfl ?_
    refine e_iload_n qX12_isAlike_27 rfl ?_
    obtain ⟨v3, hc, h⟩ := bp_e h
    refine e_cVi1 qX12_isAlike_28 mv_X12_261 shq_206 rfl rfl (w_X12_periodOf hc) ?_
    refine e_aload_n qX12_isAlike_31 rfl ?_
    refine e_iload_n qX12_isAlike_32 rfl ?_
    obtain ⟨v4, hc, h⟩ := bp_e h
    refine e_cVi1 qX12_isAlike_33 mv_X12_261 shq_206 rfl rfl (w_X12_periodOf hc) ?_
    refine e_icmp_eq (tgt := 41) qX12_isAlike_36 rfl h (fun _ h => ?_) (fun _ h => ?_)
    · refine e_aload_n qX12_isAlike_41 rfl ?_
      refine e_iload_n qX12_isAlike_42 rfl ?_
      obtain ⟨v5, hc, h⟩ := bp_e h
      refine e_cVi1 qX12_isAlike_43 mv_X12_261 shq_206 rfl rfl (w_X12_periodOf hc) ?_
      refine e_istore_n (lv2 := [some (.ref 206), some (.int x1), some (.int x2), some (.int v5), none, none, none]) qX12_isAlike_46 rfl rfl rfl ?_
      refine e_iconst (nI 0) qX12_isAlike_47 rfl ?_
      refine e_istore (lv2 := [some (.ref 206), some (.int x1), some (.int x2), some (.int v5), some (.int (nI 0)), none, none]) qX12_isAlike_48 rfl rfl rfl ?_
      refine e_iconst (nI 0) qX12_isAlike_50 rfl ?_
      refine e_istore (lv2 := [some (.ref 206), some (.int x1), some (.int x2), some (.int v5), some (.int (nI 0)), some (.int (nI 0)), none]) qX12_isAlike_51 rfl rfl rfl ?_
      exact e_weak (w_X12_isAlike_L53  _ _ _ h) ⟨Or.inr rfl, Or.inr rfl, Or.inr rfl, Or.inr rfl, Or.inr rfl, Or.inr rfl, Or.inl rfl, trivial⟩
    refine e_iconst (nI 0) qX12_isAlike_39 rfl ?_
    exact e_zret qX12_isAlike_40 rfl (by decide) (ret_p h)
  refine e_iconst (nI 0) qX12_isAlike_39 rfl ?_
  exact e_zret qX12_isAlike_40 rfl (by decide) (ret_p h)

def f_X12_alikes_L4 (N : Nat) (c1 : Int32) (s0 : St) : Nat → Int32 → Int32 → Option (Int32)
  | 0, _, _ => none
  | n4 + 1, v2, v3 =>
    ald (s0.1 208) 359 (nI 0) fun v6 =>
    if v6 ≤ v3 then
      some v2
    else
    bp (f_X12_isAlike N c1 v3 s0) fun v7 =>
    jn (fun (v8 : Int32) =>
      vl (v2 ||| v8) fun v10 =>
      vl (v3 + (nI 1)) fun v11 =>
      f_X12_alikes_L4 N c1 s0 n4 v10 v11) fun j9 =>
    if v7 = 0 then
      j9 (nI 0)
    else
    j9 ((nI 1) <<< (v3 &&& 31))

def f_X12_alikes (N : Nat) (x1 : Int32) (s0 : St) : Option (Int32) :=
  f_X12_alikes_L4 N x1 s0 N (nI 0) (nI 0)

theorem qX12_alikes_0 : Dc mX12_alikes 0 (.iconst 0) 1 1 := ⟨by decide +kernel, rfl⟩
theorem qX12_alikes_1 : Dc mX12_alikes 1 (.istore_n 2) 1 2 := ⟨by decide +kernel, rfl⟩
theorem qX12_alikes_2 : Dc mX12_alikes 2 (.iconst 0) 1 3 := ⟨by decide +kernel, rfl⟩
theorem qX12_alikes_3 : Dc mX12_alikes 3 (.istore_n 3) 1 4 := ⟨by decide +kernel, rfl⟩
theorem qX12_alikes_4 : Dc mX12_alikes 4 (.iload_n 3) 1 5 := ⟨by decide +kernel, rfl⟩
theorem qX12_alikes_5 : Dc mX12_alikes 5 (.aload_n 0) 1 6 := ⟨by decide +kernel, rfl⟩
theorem qX12_alikes_6 : Dc mX12_alikes 6 (.getfield 33) 3 9 := ⟨by decide +kernel, rfl⟩
theorem qX12_alikes_9 : Dc mX12_alikes 9 (.iconst 0) 1 10 := ⟨by decide +kernel, rfl⟩
theorem qX12_alikes_10 : Dc mX12_alikes 10 (.iaload) 1 11 := ⟨by decide +kernel, rfl⟩
theorem qX12_alikes_11 : Dc mX12_alikes 11 (.if_icmp .ge 28) 3 14 := ⟨by decide +kernel, rfl⟩
theorem qX12_alikes_14 : Dc mX12_alikes 14 (.iload_n 2) 1 15 := ⟨by decide +kernel, rfl⟩
theorem qX12_alikes_15 : Dc mX12_alikes 15 (.aload_n 0) 1 16 := ⟨by decide +kernel, rfl⟩
theorem qX12_alikes_16 : Dc mX12_alikes 16 (.iload_n 1) 1 17 := ⟨by decide +kernel, rfl⟩
theorem qX12_alikes_17 : Dc mX12_alikes 17 (.iload_n 3) 1 18 := ⟨by decide +kernel, rfl⟩
theorem qX12_alikes_18 : Dc mX12_alikes 18 (.invokevirtual 271) 3 21 := ⟨by decide +kernel, rfl⟩
theorem qX12_alikes_21 : Dc mX12_alikes 21 (.ifCond .eq 9) 3 24 := ⟨by decide +kernel, rfl⟩
theorem qX12_alikes_24 : Dc mX12_alikes 24 (.iconst 1) 1 25 := ⟨by decide +kernel, rfl⟩
theorem qX12_alikes_25 : Dc mX12_alikes 25 (.iload_n 3) 1 26 := ⟨by decide +kernel, rfl⟩
theorem qX12_alikes_26 : Dc mX12_alikes 26 (.ishl) 1 27 := ⟨by decide +kernel, rfl⟩
theorem qX12_alikes_27 : Dc mX12_alikes 27 (.goto 4) 3 30 := ⟨by decide +kernel, rfl⟩
theorem qX12_alikes_30 : Dc mX12_alikes 30 (.iconst 0) 1 31 := ⟨by decide +kernel, rfl⟩
theorem qX12_alikes_31 : Dc mX12_alikes 31 (.ior) 1 32 := ⟨by decide +kernel, rfl⟩
theorem qX12_alikes_32 : Dc mX12_alikes 32 (.istore_n 2) 1 33 := ⟨by decide +kernel, rfl⟩
theorem qX12_alikes_33 : Dc mX12_alikes 33 (.iinc 3 1) 3 36 := ⟨by decide +kernel, rfl⟩
theorem qX12_alikes_36 : Dc mX12_alikes 36 (.goto (-32)) 3 39 := ⟨by decide +kernel, rfl⟩
theorem qX12_alikes_39 : Dc mX12_alikes 39 (.iload_n 2) 1 40 := ⟨by decide +kernel, rfl⟩
theorem qX12_alikes_40 : Dc mX12_alikes 40 (.ireturn) 1 41 := ⟨by decide +kernel, rfl⟩

set_option maxRecDepth 20000 in
set_option maxHeartbeats 4000000 in
theorem w_X12_alikes_L4 {N : Nat} {c1 : Int32} {s0 : St}  {r : Int32}   : ∀ (n4 : Nat) (v2 : Int32) (v3 : Int32), f_X12_alikes_L4 N c1 s0 n4 v2 v3 = some r → E mX12_alikes 3 (some (.int r), s0) 4 [some (.ref 206), some (.int c1), some (.int v2), some (.int v3)] [] s0 := by
  intro n4
  induction n4 with
  | zero =>
    intro v2 v3 h
    rw [f_X12_alikes_L4] at h; cases h
  | succ n4 ih5 =>
    intro v2 v3 h
    rw [f_X12_alikes_L4] at h
    refine e_iload_n qX12_alikes_4 rfl ?_
    refine e_aload_n qX12_alikes_5 rfl ?_
    refine e_getr 208 qX12_alikes_6 fl_X12_33 shq_206 kdq_11_6 rrq_206_6 ?_
    refine e_iconst (nI 0) qX12_alikes_9 rfl ?_
    refine e_iald qX12_alikes_10 shq_208 lnq_208 h (fun v6 h => ?_)
    refine e_icmp_ge (tgt := 39) qX12_alikes_11 rfl h (fun _ h => ?_) (fun _ h => ?_)
    · refine e_iload_n qX12_alikes_39 rfl ?_
      exact e_iret qX12_alikes_40 rfl (ret_p h)
    refine e_iload_n qX12_alikes_14 rfl ?_
    refine e_aload_n qX12_alikes_15 rfl ?_
    refine e_iload_n qX12_alikes_16 rfl ?_
    refine e_iload_n qX12_alikes_17 rfl ?_
    obtain ⟨v7, hc, h⟩ := bp_e h
    refine e_cVi2 qX12_alikes_18 mv_X12_271 shq_206 rfl rfl (w_X12_isAlike hc) ?_
    refine jn_e (fun j => ∀ (v8 : Int32), j v8 = some r → E mX12_alikes 3 (some (.int r), s0) 31 [some (.ref 206), some (.int c1), none, some (.int v3)] [.int v8, .int v2] s0) h ?_ (fun j9 hj9 h => ?_)
    · intro v8 h
      refine e_ior qX12_alikes_31 ?_
      refine vl_e h (fun h => ?_)
      generalize (v2 ||| v8) = v10 at h ⊢
      refine e_istore_n (lv2 := [some (.ref 206), some (.int c1), some (.int v10), some (.int v3)]) qX12_alikes_32 rfl rfl rfl ?_
      refine vl_e h (fun h => ?_)
      obtain ⟨v11, ev11⟩ : ∃ y, v3 + (nI 1) = y := ⟨_, rfl⟩
      rw [ev11] at h
      refine e_iinc (nI 1) v11 (lv2 := [some (.ref 206), some (.int c1), some (.int v10), some (.int v11)]) qX12_alikes_33 rfl rfl rfl ev11 rfl ?_
      refine e_goto (tgt := 4) qX12_alikes_36 rfl ?_
      exact e_weak (ih5 _ _ h) ⟨Or.inr rfl, Or.inr rfl, Or.inr rfl, Or.inr rfl, trivial⟩
    refine e_if_eq (tgt := 30) qX12_alikes_21 rfl h (fun _ h => ?_) (fun _ h => ?_)
    · refine e_iconst (nI 0) qX12_alikes_30 rfl ?_
      exact e_weak (hj9 _ h) ⟨Or.inr rfl, Or.inr rfl, Or.inl rfl, Or.inr rfl, trivial⟩
    refine e_iconst (nI 1) qX12_alikes_24 rfl ?_
    refine e_iload_n qX12_alikes_25 rfl ?_
    refine e_ishl qX12_alikes_26 ?_
    refine e_goto (tgt := 31) qX12_alikes_27 rfl ?_
    exact e_weak (hj9 _ h) ⟨Or.inr rfl, Or.inr rfl, Or.inl rfl, Or.inr rfl, trivial⟩

set_option maxRecDepth 20000 in
set_option maxHeartbeats 4000000 in
theorem w_X12_alikes {N : Nat} {x1 : Int32} {s0 : St} {r : Int32} (h : f_X12_alikes N x1 s0 = some r) : Ct mX12_alikes 3 [.ref 206, .int x1] s0 (some (.int r), s0) := by
  refine Ct.ofE (by decide +kernel) rfl ?_
  show E mX12_alikes 3 (some (.int r), s0) 0 [some (.ref 206), some (.int x1), none, none] [] s0
  unfold f_X12_alikes at h
  refine e_iconst (nI 0) qX12_alikes_0 rfl ?_
  refine e_istore_n (lv2 := [some (.ref 206), some (.int x1), some (.int (nI 0)), none]) qX12_alikes_1 rfl rfl rfl ?_
  refine e_iconst (nI 0) qX12_alikes_2 rfl ?_
  refine e_istore_n (lv2 := [some (.ref 206), some (.int x1), some (.int (nI 0)), some (.int (nI 0))]) qX12_alikes_3 rfl rfl rfl ?_
  exact e_weak (w_X12_alikes_L4  _ _ _ h) ⟨Or.inr rfl, Or.inr rfl, Or.inr rfl, Or.inr rfl, trivial⟩

def f_X12_octantOf (x0 : Int32) (x1 : Int32) (s0 : St) : Option (Int32) :=
  jn (jn (jn (jn (jn (jn (jn (jn (some (nI 7)) fun j8 =>
                if x0 < 0 then
                  j8
                else
                if (-x1) ≤ x0 then
                  j8
                else
                some (nI 6)) fun j7 =>
              if 0 ≤ x0 then
                j7
              else
              if x0 < x1 then
                j7
              else
              some (nI 5)) fun j6 =>
            if 0 < x1 then
              j6
            else
            if x1 ≤ x0 then
              j6
            else
            some (nI 4)) fun j5 =>
          if x1 ≤ 0 then
            j5
          else
          if (-x0) < x1 then
            j5
          else
          some (nI 3)) fun j4 =>
        if 0 < x0 then
          j4
        else
        if x1 ≤ (-x0) then
          j4
        else
        some (nI 2)) fun j3 =>
      if x0 ≤ 0 then
        j3
      else
      if x1 < x0 then
        j3
      else
      some (nI 1)) fun j2 =>
    if x1 < 0 then
      j2
    else
    if x0 ≤ x1 then
      j2
    else
    some (nI 0)) fun j1 =>
  if x0 = 0 then
    if x1 = 0 then
      some (-1)
    else
    j1
  else
  j1

theorem qX12_octantOf_0 : Dc mX12_octantOf 0 (.iload_n 0) 1 1 := ⟨by decide +kernel, rfl⟩
theorem qX12_octantOf_1 : Dc mX12_octantOf 1 (.ifCond .ne 9) 3 4 := ⟨by decide +kernel, rfl⟩
theorem qX12_octantOf_4 : Dc mX12_octantOf 4 (.iload_n 1) 1 5 := ⟨by decide +kernel, rfl⟩
theorem qX12_octantOf_5 : Dc mX12_octantOf 5 (.ifCond .ne 5) 3 8 := ⟨by decide +kernel, rfl⟩
theorem qX12_octantOf_8 : Dc mX12_octantOf 8 (.iconst (-1)) 1 9 := ⟨by decide +kernel, rfl⟩
theorem qX12_octantOf_9 : Dc mX12_octantOf 9 (.ireturn) 1 10 := ⟨by decide +kernel, rfl⟩
theorem qX12_octantOf_10 : Dc mX12_octantOf 10 (.iload_n 1) 1 11 := ⟨by decide +kernel, rfl⟩
theorem qX12_octantOf_11 : Dc mX12_octantOf 11 (.ifCond .lt 10) 3 14 := ⟨by decide +kernel, rfl⟩
theorem qX12_octantOf_14 : Dc mX12_octantOf 14 (.iload_n 0) 1 15 := ⟨by decide +kernel, rfl⟩
theorem qX12_octantOf_15 : Dc mX12_octantOf 15 (.iload_n 1) 1 16 := ⟨by decide +kernel, rfl⟩
theorem qX12_octantOf_16 : Dc mX12_octantOf 16 (.if_icmp .le 5) 3 19 := ⟨by decide +kernel, rfl⟩
theorem qX12_octantOf_19 : Dc mX12_octantOf 19 (.iconst 0) 1 20 := ⟨by decide +kernel, rfl⟩
theorem qX12_octantOf_20 : Dc mX12_octantOf 20 (.ireturn) 1 21 := ⟨by decide +kernel, rfl⟩
theorem qX12_octantOf_21 : Dc mX12_octantOf 21 (.iload_n 0) 1 22 := ⟨by decide +kernel, rfl⟩
theorem qX12_octantOf_22 : Dc mX12_octantOf 22 (.ifCond .le 10) 3 25 := ⟨by decide +kernel, rfl⟩
theorem qX12_octantOf_25 : Dc mX12_octantOf 25 (.iload_n 1) 1 26 := ⟨by decide +kernel, rfl⟩
theorem qX12_octantOf_26 : Dc mX12_octantOf 26 (.iload_n 0) 1 27 := ⟨by decide +kernel, rfl⟩
theorem qX12_octantOf_27 : Dc mX12_octantOf 27 (.if_icmp .lt 5) 3 30 := ⟨by decide +kernel, rfl⟩
theorem qX12_octantOf_30 : Dc mX12_octantOf 30 (.iconst 1) 1 31 := ⟨by decide +kernel, rfl⟩
theorem qX12_octantOf_31 : Dc mX12_octantOf 31 (.ireturn) 1 32 := ⟨by decide +kernel, rfl⟩
theorem qX12_octantOf_32 : Dc mX12_octantOf 32 (.iload_n 0) 1 33 := ⟨by decide +kernel, rfl⟩
theorem qX12_octantOf_33 : Dc mX12_octantOf 33 (.ifCond .gt 11) 3 36 := ⟨by decide +kernel, rfl⟩
theorem qX12_octantOf_36 : Dc mX12_octantOf 36 (.iload_n 1) 1 37 := ⟨by decide +kernel, rfl⟩
theorem qX12_octantOf_37 : Dc mX12_octantOf 37 (.iload_n 0) 1 38 := ⟨by decide +kernel, rfl⟩
theorem qX12_octantOf_38 : Dc mX12_octantOf 38 (.ineg) 1 39 := ⟨by decide +kernel, rfl⟩
theorem qX12_octantOf_39 : Dc mX12_octantOf 39 (.if_icmp .le 5) 3 42 := ⟨by decide +kernel, rfl⟩
theorem qX12_octantOf_42 : Dc mX12_octantOf 42 (.iconst 2) 1 43 := ⟨by decide +kernel, rfl⟩
theorem qX12_octantOf_43 : Dc mX12_octantOf 43 (.ireturn) 1 44 := ⟨by decide +kernel, rfl⟩
theorem qX12_octantOf_44 : Dc mX12_octantOf 44 (.iload_n 1) 1 45 := ⟨by decide +kernel, rfl⟩
theorem qX12_octantOf_45 : Dc mX12_octantOf 45 (.ifCond .le 11) 3 48 := ⟨by decide +kernel, rfl⟩
theorem qX12_octantOf_48 : Dc mX12_octantOf 48 (.iload_n 1) 1 49 := ⟨by decide +kernel, rfl⟩
theorem qX12_octantOf_49 : Dc mX12_octantOf 49 (.iload_n 0) 1 50 := ⟨by decide +kernel, rfl⟩
theorem qX12_octantOf_50 : Dc mX12_octantOf 50 (.ineg) 1 51 := ⟨by decide +kernel, rfl⟩
theorem qX12_octantOf_51 : Dc mX12_octantOf 51 (.if_icmp .gt 5) 3 54 := ⟨by decide +kernel, rfl⟩
theorem qX12_octantOf_54 : Dc mX12_octantOf 54 (.iconst 3) 1 55 := ⟨by decide +kernel, rfl⟩
theorem qX12_octantOf_55 : Dc mX12_octantOf 55 (.ireturn) 1 56 := ⟨by decide +kernel, rfl⟩
theorem qX12_octantOf_56 : Dc mX12_octantOf 56 (.iload_n 1) 1 57 := ⟨by decide +kernel, rfl⟩
theorem qX12_octantOf_57 : Dc mX12_octantOf 57 (.ifCond .gt 10) 3 60 := ⟨by decide +kernel, rfl⟩
theorem qX12_octantOf_60 : Dc mX12_octantOf 60 (.iload_n 0) 1 61 := ⟨by decide +kernel, rfl⟩
theorem qX12_octantOf_61 : Dc mX12_octantOf 61 (.iload_n 1) 1 62 := ⟨by decide +kernel, rfl⟩
theorem qX12_octantOf_62 : Dc mX12_octantOf 62 (.if_icmp .ge 5) 3 65 := ⟨by decide +kernel, rfl⟩
theorem qX12_octantOf_65 : Dc mX12_octantOf 65 (.iconst 4) 1 66 := ⟨by decide +kernel, rfl⟩
theorem qX12_octantOf_66 : Dc mX12_octantOf 66 (.ireturn) 1 67 := ⟨by decide +kernel, rfl⟩
theorem qX12_octantOf_67 : Dc mX12_octantOf 67 (.iload_n 0) 1 68 := ⟨by decide +kernel, rfl⟩
theorem qX12_octantOf_68 : Dc mX12_octantOf 68 (.ifCond .ge 10) 3 71 := ⟨by decide +kernel, rfl⟩
theorem qX12_octantOf_71 : Dc mX12_octantOf 71 (.iload_n 1) 1 72 := ⟨by decide +kernel, rfl⟩
theorem qX12_octantOf_72 : Dc mX12_octantOf 72 (.iload_n 0) 1 73 := ⟨by decide +kernel, rfl⟩
theorem qX12_octantOf_73 : Dc mX12_octantOf 73 (.if_icmp .gt 5) 3 76 := ⟨by decide +kernel, rfl⟩
theorem qX12_octantOf_76 : Dc mX12_octantOf 76 (.iconst 5) 1 77 := ⟨by decide +kernel, rfl⟩
theorem qX12_octantOf_77 : Dc mX12_octantOf 77 (.ireturn) 1 78 := ⟨by decide +kernel, rfl⟩
theorem qX12_octantOf_78 : Dc mX12_octantOf 78 (.iload_n 0) 1 79 := ⟨by decide +kernel, rfl⟩
theorem qX12_octantOf_79 : Dc mX12_octantOf 79 (.ifCond .lt 14) 3 82 := ⟨by decide +kernel, rfl⟩
theorem qX12_octantOf_82 : Dc mX12_octantOf 82 (.iload_n 1) 1 83 := ⟨by decide +kernel, rfl⟩
theorem qX12_octantOf_83 : Dc mX12_octantOf 83 (.ineg) 1 84 := ⟨by decide +kernel, rfl⟩
theorem qX12_octantOf_84 : Dc mX12_octantOf 84 (.iload_n 0) 1 85 := ⟨by decide +kernel, rfl⟩
theorem qX12_octantOf_85 : Dc mX12_octantOf 85 (.if_icmp .le 8) 3 88 := ⟨by decide +kernel, rfl⟩
theorem qX12_octantOf_88 : Dc mX12_octantOf 88 (.bipush 6) 2 90 := ⟨by decide +kernel, rfl⟩
theorem qX12_octantOf_90 : Dc mX12_octantOf 90 (.goto 5) 3 93 := ⟨by decide +kernel, rfl⟩
theorem qX12_octantOf_93 : Dc mX12_octantOf 93 (.bipush 7) 2 95 := ⟨by decide +kernel, rfl⟩
theorem qX12_octantOf_95 : Dc mX12_octantOf 95 (.ireturn) 1 96 := ⟨by decide +kernel, rfl⟩

set_option maxRecDepth 20000 in
set_option maxHeartbeats 4000000 in
theorem w_X12_octantOf {x0 : Int32} {x1 : Int32} {s0 : St} {r : Int32} (h : f_X12_octantOf x0 x1 s0 = some r) : Ct mX12_octantOf 0 [.int x0, .int x1] s0 (some (.int r), s0) := by
  refine Ct.ofE (by decide +kernel) rfl ?_
  show E mX12_octantOf 0 (some (.int r), s0) 0 [some (.int x0), some (.int x1)] [] s0
  unfold f_X12_octantOf at h
  refine e_iload_n qX12_octantOf_0 rfl ?_
  refine jn_e (fun j => j = some r → E mX12_octantOf 0 (some (.int r), s0) 10 [some (.int x0), some (.int x1)] [] s0) h ?_ (fun j1 hj1 h => ?_)
  · intro h
    refine e_iload_n qX12_octantOf_10 rfl ?_
    refine jn_e (fun j => j = some r → E mX12_octantOf 0 (some (.int r), s0) 21 [some (.int x0), some (.int x1)] [] s0) h ?_ (fun j2 hj2 h => ?_)
    · intro h
      refine e_iload_n qX12_octantOf_21 rfl ?_
      refine jn_e (fun j => j = some r → E mX12_octantOf 0 (some (.int r), s0) 32 [some (.int x0), some (.int x1)] [] s0) h ?_ (fun j3 hj3 h => ?_)
      · intro h
        refine e_iload_n qX12_octantOf_32 rfl ?_
        refine jn_e (fun j => j = some r → E mX12_octantOf 0 (some (.int r), s0) 44 [some (.int x0), some (.int x1)] [] s0) h ?_ (fun j4 hj4 h => ?_)
        · intro h
          refine e_iload_n qX12_octantOf_44 rfl ?_
          refine jn_e (fun j => j = some r → E mX12_octantOf 0 (some (.int r), s0) 56 [some (.int x0), some (.int x1)] [] s0) h ?_ (fun j5 hj5 h => ?_)
          · intro h
            refine e_iload_n qX12_octantOf_56 rfl ?_
            refine jn_e (fun j => j = some r → E mX12_octantOf 0 (some (.int r), s0) 67 [some (.int x0), some (.int x1)] [] s0) h ?_ (fun j6 hj6 h => ?_)
            · intro h
              refine e_iload_n qX12_octantOf_67 rfl ?_
              refine jn_e (fun j => j = some r → E mX12_octantOf 0 (some (.int r), s0) 78 [some (.int x0), some (.int x1)] [] s0) h ?_ (fun j7 hj7 h => ?_)
              · intro h
                refine e_iload_n qX12_octantOf_78 rfl ?_
                refine jn_e (fun j => j = some r → E mX12_octantOf 0 (some (.int r), s0) 93 [none, none] [] s0) h ?_ (fun j8 hj8 h => ?_)
                · intro h
                  refine e_bipush (nI 7) qX12_octantOf_93 rfl ?_
                  exact e_iret qX12_octantOf_95 rfl (ret_p h)
                refine e_if_lt (tgt := 93) qX12_octantOf_79 rfl h (fun _ h => ?_) (fun _ h => ?_)
                · exact e_weak (hj8 h) ⟨Or.inl rfl, Or.inl rfl, trivial⟩
                refine e_iload_n qX12_octantOf_82 rfl ?_
                refine e_ineg qX12_octantOf_83 ?_
                refine e_iload_n qX12_octantOf_84 rfl ?_
                refine e_icmp_le (tgt := 93) qX12_octantOf_85 rfl h (fun _ h => ?_) (fun _ h => ?_)
                · exact e_weak (hj8 h) ⟨Or.inl rfl, Or.inl rfl, trivial⟩
                refine e_bipush (nI 6) qX12_octantOf_88 rfl ?_
                refine e_goto (tgt := 95) qX12_octantOf_90 rfl ?_
                exact e_iret qX12_octantOf_95 rfl (ret_p h)
              refine e_if_ge (tgt := 78) qX12_octantOf_68 rfl h (fun _ h => ?_) (fun _ h => ?_)
              · exact e_weak (hj7 h) ⟨Or.inr rfl, Or.inr rfl, trivial⟩
              refine e_iload_n qX12_octantOf_71 rfl ?_
              refine e_iload_n qX12_octantOf_72 rfl ?_
              refine e_icmp_gt (tgt := 78) qX12_octantOf_73 rfl h (fun _ h => ?_) (fun _ h => ?_)
              · exact e_weak (hj7 h) ⟨Or.inr rfl, Or.inr rfl, trivial⟩
              refine e_iconst (nI 5) qX12_octantOf_76 rfl ?_
              exact e_iret qX12_octantOf_77 rfl (ret_p h)
            refine e_if_gt (tgt := 67) qX12_octantOf_57 rfl h (fun _ h => ?_) (fun _ h => ?_)
            · exact e_weak (hj6 h) ⟨Or.inr rfl, Or.inr rfl, trivial⟩
            refine e_iload_n qX12_octantOf_60 rfl ?_
            refine e_iload_n qX12_octantOf_61 rfl ?_
            refine e_icmp_ge (tgt := 67) qX12_octantOf_62 rfl h (fun _ h => ?_) (fun _ h => ?_)
            · exact e_weak (hj6 h) ⟨Or.inr rfl, Or.inr rfl, trivial⟩
            refine e_iconst (nI 4) qX12_octantOf_65 rfl ?_
            exact e_iret qX12_octantOf_66 rfl (ret_p h)
          refine e_if_le (tgt := 56) qX12_octantOf_45 rfl h (fun _ h => ?_) (fun _ h => ?_)
          · exact e_weak (hj5 h) ⟨Or.inr rfl, Or.inr rfl, trivial⟩
          refine e_iload_n qX12_octantOf_48 rfl ?_
          refine e_iload_n qX12_octantOf_49 rfl ?_
          refine e_ineg qX12_octantOf_50 ?_
          refine e_icmp_gt (tgt := 56) qX12_octantOf_51 rfl h (fun _ h => ?_) (fun _ h => ?_)
          · exact e_weak (hj5 h) ⟨Or.inr rfl, Or.inr rfl, trivial⟩
          refine e_iconst (nI 3) qX12_octantOf_54 rfl ?_
          exact e_iret qX12_octantOf_55 rfl (ret_p h)
        refine e_if_gt (tgt := 44) qX12_octantOf_33 rfl h (fun _ h => ?_) (fun _ h => ?_)
        · exact e_weak (hj4 h) ⟨Or.inr rfl, Or.inr rfl, trivial⟩
        refine e_iload_n qX12_octantOf_36 rfl ?_
        refine e_iload_n qX12_octantOf_37 rfl ?_
        refine e_ineg qX12_octantOf_38 ?_
        refine e_icmp_le (tgt := 44) qX12_octantOf_39 rfl h (fun _ h => ?_) (fun _ h => ?_)
        · exact e_weak (hj4 h) ⟨Or.inr rfl, Or.inr rfl, trivial⟩
        refine e_iconst (nI 2) qX12_octantOf_42 rfl ?_
        exact e_iret qX12_octantOf_43 rfl (ret_p h)
      refine e_if_le (tgt := 32) qX12_octantOf_22 rfl h (fun _ h => ?_) (fun _ h => ?_)
      · exact e_weak (hj3 h) ⟨Or.inr rfl, Or.inr rfl, trivial⟩
      refine e_iload_n qX12_octantOf_25 rfl ?_
      refine e_iload_n qX12_octantOf_26 rfl ?_
      refine e_icmp_lt (tgt := 32) qX12_octantOf_27 rfl h (fun _ h => ?_) (fun _ h => ?_)
      · exact e_weak (hj3 h) ⟨Or.inr rfl, Or.inr rfl, trivial⟩
      refine e_iconst (nI 1) qX12_octantOf_30 rfl ?_
      exact e_iret qX12_octantOf_31 rfl (ret_p h)
    refine e_if_lt (tgt := 21) qX12_octantOf_11 rfl h (fun _ h => ?_) (fun _ h => ?_)
    · exact e_weak (hj2 h) ⟨Or.inr rfl, Or.inr rfl, trivial⟩
    refine e_iload_n qX12_octantOf_14 rfl ?_
    refine e_iload_n qX12_octantOf_15 rfl ?_
    refine e_icmp_le (tgt := 21) qX12_octantOf_16 rfl h (fun _ h => ?_) (fun _ h => ?_)
    · exact e_weak (hj2 h) ⟨Or.inr rfl, Or.inr rfl, trivial⟩
    refine e_iconst (nI 0) qX12_octantOf_19 rfl ?_
    exact e_iret qX12_octantOf_20 rfl (ret_p h)
  refine e_if_ne (tgt := 10) qX12_octantOf_1 rfl h (fun _ h => ?_) (fun _ h => ?_)
  · refine e_iload_n qX12_octantOf_4 rfl ?_
    refine e_if_ne (tgt := 10) qX12_octantOf_5 rfl h (fun _ h => ?_) (fun _ h => ?_)
    · refine e_iconst (-1) qX12_octantOf_8 rfl ?_
      exact e_iret qX12_octantOf_9 rfl (ret_p h)
    exact e_weak (hj1 h) ⟨Or.inr rfl, Or.inr rfl, trivial⟩
  exact e_weak (hj1 h) ⟨Or.inr rfl, Or.inr rfl, trivial⟩

def f_X12_octantFrom (x1 : Int32) (x2 : Int32) (x3 : Int32) (s0 : St) : Option (Int32) :=
  ald (s0.1 208) 359 ((nI 3) + x1) fun v1 =>
  ald (s0.1 208) 359 ((nI 11) + x1) fun v2 =>
  bp (f_X12_octantOf (x2 - v1) (x3 - v2) s0) fun v3 =>
  some v3

theorem qX12_octantFrom_0 : Dc mX12_octantFrom 0 (.iload_n 2) 1 1 := ⟨by decide +kernel, rfl⟩
theorem qX12_octantFrom_1 : Dc mX12_octantFrom 1 (.aload_n 0) 1 2 := ⟨by decide +kernel, rfl⟩
theorem qX12_octantFrom_2 : Dc mX12_octantFrom 2 (.getfield 33) 3 5 := ⟨by decide +kernel, rfl⟩
theorem qX12_octantFrom_5 : Dc mX12_octantFrom 5 (.iconst 3) 1 6 := ⟨by decide +kernel, rfl⟩
theorem qX12_octantFrom_6 : Dc mX12_octantFrom 6 (.iload_n 1) 1 7 := ⟨by decide +kernel, rfl⟩
theorem qX12_octantFrom_7 : Dc mX12_octantFrom 7 (.iadd) 1 8 := ⟨by decide +kernel, rfl⟩
theorem qX12_octantFrom_8 : Dc mX12_octantFrom 8 (.iaload) 1 9 := ⟨by decide +kernel, rfl⟩
theorem qX12_octantFrom_9 : Dc mX12_octantFrom 9 (.isub) 1 10 := ⟨by decide +kernel, rfl⟩
theorem qX12_octantFrom_10 : Dc mX12_octantFrom 10 (.iload_n 3) 1 11 := ⟨by decide +kernel, rfl⟩
theorem qX12_octantFrom_11 : Dc mX12_octantFrom 11 (.aload_n 0) 1 12 := ⟨by decide +kernel, rfl⟩
theorem qX12_octantFrom_12 : Dc mX12_octantFrom 12 (.getfield 33) 3 15 := ⟨by decide +kernel, rfl⟩
theorem qX12_octantFrom_15 : Dc mX12_octantFrom 15 (.bipush 11) 2 17 := ⟨by decide +kernel, rfl⟩
theorem qX12_octantFrom_17 : Dc mX12_octantFrom 17 (.iload_n 1) 1 18 := ⟨by decide +kernel, rfl⟩
theorem qX12_octantFrom_18 : Dc mX12_octantFrom 18 (.iadd) 1 19 := ⟨by decide +kernel, rfl⟩
theorem qX12_octantFrom_19 : Dc mX12_octantFrom 19 (.iaload) 1 20 := ⟨by decide +kernel, rfl⟩
theorem qX12_octantFrom_20 : Dc mX12_octantFrom 20 (.isub) 1 21 := ⟨by decide +kernel, rfl⟩
theorem qX12_octantFrom_21 : Dc mX12_octantFrom 21 (.invokestatic 274) 3 24 := ⟨by decide +kernel, rfl⟩
theorem qX12_octantFrom_24 : Dc mX12_octantFrom 24 (.ireturn) 1 25 := ⟨by decide +kernel, rfl⟩

set_option maxRecDepth 20000 in
set_option maxHeartbeats 4000000 in
theorem w_X12_octantFrom {x1 : Int32} {x2 : Int32} {x3 : Int32} {s0 : St} {r : Int32} (h : f_X12_octantFrom x1 x2 x3 s0 = some r) : Ct mX12_octantFrom 1 [.ref 206, .int x1, .int x2, .int x3] s0 (some (.int r), s0) := by
  refine Ct.ofE (by decide +kernel) rfl ?_
  show E mX12_octantFrom 1 (some (.int r), s0) 0 [some (.ref 206), some (.int x1), some (.int x2), some (.int x3)] [] s0
  unfold f_X12_octantFrom at h
  refine e_iload_n qX12_octantFrom_0 rfl ?_
  refine e_aload_n qX12_octantFrom_1 rfl ?_
  refine e_getr 208 qX12_octantFrom_2 fl_X12_33 shq_206 kdq_11_6 rrq_206_6 ?_
  refine e_iconst (nI 3) qX12_octantFrom_5 rfl ?_
  refine e_iload_n qX12_octantFrom_6 rfl ?_
  refine e_iadd qX12_octantFrom_7 ?_
  refine e_iald qX12_octantFrom_8 shq_208 lnq_208 h (fun v1 h => ?_)
  refine e_isub qX12_octantFrom_9 ?_
  refine e_iload_n qX12_octantFrom_10 rfl ?_
  refine e_aload_n qX12_octantFrom_11 rfl ?_
  refine e_getr 208 qX12_octantFrom_12 fl_X12_33 shq_206 kdq_11_6 rrq_206_6 ?_
  refine e_bipush (nI 11) qX12_octantFrom_15 rfl ?_
  refine e_iload_n qX12_octantFrom_17 rfl ?_
  refine e_iadd qX12_octantFrom_18 ?_
  refine e_iald qX12_octantFrom_19 shq_208 lnq_208 h (fun v2 h => ?_)
  refine e_isub qX12_octantFrom_20 ?_
  obtain ⟨v3, hc, h⟩ := bp_e h
  refine e_cSi2 qX12_octantFrom_21 ms_X12_274 rfl rfl (w_X12_octantOf hc) ?_
  exact e_iret qX12_octantFrom_24 rfl (ret_p h)

def f_X12_isVisibleBy (x1 : Int32) (x2 : Int32) (x3 : Int32) (x4 : Int32) (s0 : St) : Option (Int32) :=
  ald (s0.1 208) 359 ((nI 3) + x1) fun v1 =>
  vl (x2 - v1) fun v2 =>
  ald (s0.1 208) 359 ((nI 11) + x1) fun v3 =>
  vl (x3 - v3) fun v4 =>
  ald (s0.1 208) 359 ((nI 19) + x1) fun v5 =>
  bp (f_X12_lesser v5 x4 s0) fun v6 =>
  bp (f_X12_octantOf v2 v4 s0) fun v7 =>
  jn (some (nI 0)) fun j8 =>
  if (v6 * v6) < ((v2 * v2) + (v4 * v4)) then
    j8
  else
  if v7 < 0 then
    some (nI 1)
  else
  ald (s0.1 208) 359 ((nI 123) + x1) fun v9 =>
  bp (f_X12_bitOf v9 v7 s0) fun v10 =>
  if v10 = 0 then
    some (nI 1)
  else
  j8

theorem qX12_isVisibleBy_0 : Dc mX12_isVisibleBy 0 (.iload_n 2) 1 1 := ⟨by decide +kernel, rfl⟩
theorem qX12_isVisibleBy_1 : Dc mX12_isVisibleBy 1 (.aload_n 0) 1 2 := ⟨by decide +kernel, rfl⟩
theorem qX12_isVisibleBy_2 : Dc mX12_isVisibleBy 2 (.getfield 33) 3 5 := ⟨by decide +kernel, rfl⟩
theorem qX12_isVisibleBy_5 : Dc mX12_isVisibleBy 5 (.iconst 3) 1 6 := ⟨by decide +kernel, rfl⟩
theorem qX12_isVisibleBy_6 : Dc mX12_isVisibleBy 6 (.iload_n 1) 1 7 := ⟨by decide +kernel, rfl⟩
theorem qX12_isVisibleBy_7 : Dc mX12_isVisibleBy 7 (.iadd) 1 8 := ⟨by decide +kernel, rfl⟩
theorem qX12_isVisibleBy_8 : Dc mX12_isVisibleBy 8 (.iaload) 1 9 := ⟨by decide +kernel, rfl⟩
theorem qX12_isVisibleBy_9 : Dc mX12_isVisibleBy 9 (.isub) 1 10 := ⟨by decide +kernel, rfl⟩
theorem qX12_isVisibleBy_10 : Dc mX12_isVisibleBy 10 (.istore 5) 2 12 := ⟨by decide +kernel, rfl⟩
theorem qX12_isVisibleBy_12 : Dc mX12_isVisibleBy 12 (.iload_n 3) 1 13 := ⟨by decide +kernel, rfl⟩
theorem qX12_isVisibleBy_13 : Dc mX12_isVisibleBy 13 (.aload_n 0) 1 14 := ⟨by decide +kernel, rfl⟩
theorem qX12_isVisibleBy_14 : Dc mX12_isVisibleBy 14 (.getfield 33) 3 17 := ⟨by decide +kernel, rfl⟩
theorem qX12_isVisibleBy_17 : Dc mX12_isVisibleBy 17 (.bipush 11) 2 19 := ⟨by decide +kernel, rfl⟩
theorem qX12_isVisibleBy_19 : Dc mX12_isVisibleBy 19 (.iload_n 1) 1 20 := ⟨by decide +kernel, rfl⟩
theorem qX12_isVisibleBy_20 : Dc mX12_isVisibleBy 20 (.iadd) 1 21 := ⟨by decide +kernel, rfl⟩
theorem qX12_isVisibleBy_21 : Dc mX12_isVisibleBy 21 (.iaload) 1 22 := ⟨by decide +kernel, rfl⟩
theorem qX12_isVisibleBy_22 : Dc mX12_isVisibleBy 22 (.isub) 1 23 := ⟨by decide +kernel, rfl⟩
theorem qX12_isVisibleBy_23 : Dc mX12_isVisibleBy 23 (.istore 6) 2 25 := ⟨by decide +kernel, rfl⟩
theorem qX12_isVisibleBy_25 : Dc mX12_isVisibleBy 25 (.aload_n 0) 1 26 := ⟨by decide +kernel, rfl⟩
theorem qX12_isVisibleBy_26 : Dc mX12_isVisibleBy 26 (.getfield 33) 3 29 := ⟨by decide +kernel, rfl⟩
theorem qX12_isVisibleBy_29 : Dc mX12_isVisibleBy 29 (.bipush 19) 2 31 := ⟨by decide +kernel, rfl⟩
theorem qX12_isVisibleBy_31 : Dc mX12_isVisibleBy 31 (.iload_n 1) 1 32 := ⟨by decide +kernel, rfl⟩
theorem qX12_isVisibleBy_32 : Dc mX12_isVisibleBy 32 (.iadd) 1 33 := ⟨by decide +kernel, rfl⟩
theorem qX12_isVisibleBy_33 : Dc mX12_isVisibleBy 33 (.iaload) 1 34 := ⟨by decide +kernel, rfl⟩
theorem qX12_isVisibleBy_34 : Dc mX12_isVisibleBy 34 (.iload 4) 2 36 := ⟨by decide +kernel, rfl⟩
theorem qX12_isVisibleBy_36 : Dc mX12_isVisibleBy 36 (.invokestatic 277) 3 39 := ⟨by decide +kernel, rfl⟩
theorem qX12_isVisibleBy_39 : Dc mX12_isVisibleBy 39 (.istore 7) 2 41 := ⟨by decide +kernel, rfl⟩
theorem qX12_isVisibleBy_41 : Dc mX12_isVisibleBy 41 (.iload 5) 2 43 := ⟨by decide +kernel, rfl⟩
theorem qX12_isVisibleBy_43 : Dc mX12_isVisibleBy 43 (.iload 6) 2 45 := ⟨by decide +kernel, rfl⟩
theorem qX12_isVisibleBy_45 : Dc mX12_isVisibleBy 45 (.invokestatic 274) 3 48 := ⟨by decide +kernel, rfl⟩
theorem qX12_isVisibleBy_48 : Dc mX12_isVisibleBy 48 (.istore 8) 2 50 := ⟨by decide +kernel, rfl⟩
theorem qX12_isVisibleBy_50 : Dc mX12_isVisibleBy 50 (.iload 5) 2 52 := ⟨by decide +kernel, rfl⟩
theorem qX12_isVisibleBy_52 : Dc mX12_isVisibleBy 52 (.iload 5) 2 54 := ⟨by decide +kernel, rfl⟩
theorem qX12_isVisibleBy_54 : Dc mX12_isVisibleBy 54 (.imul) 1 55 := ⟨by decide +kernel, rfl⟩
theorem qX12_isVisibleBy_55 : Dc mX12_isVisibleBy 55 (.iload 6) 2 57 := ⟨by decide +kernel, rfl⟩
theorem qX12_isVisibleBy_57 : Dc mX12_isVisibleBy 57 (.iload 6) 2 59 := ⟨by decide +kernel, rfl⟩
theorem qX12_isVisibleBy_59 : Dc mX12_isVisibleBy 59 (.imul) 1 60 := ⟨by decide +kernel, rfl⟩
theorem qX12_isVisibleBy_60 : Dc mX12_isVisibleBy 60 (.iadd) 1 61 := ⟨by decide +kernel, rfl⟩
theorem qX12_isVisibleBy_61 : Dc mX12_isVisibleBy 61 (.iload 7) 2 63 := ⟨by decide +kernel, rfl⟩
theorem qX12_isVisibleBy_63 : Dc mX12_isVisibleBy 63 (.iload 7) 2 65 := ⟨by decide +kernel, rfl⟩
theorem qX12_isVisibleBy_65 : Dc mX12_isVisibleBy 65 (.imul) 1 66 := ⟨by decide +kernel, rfl⟩
theorem qX12_isVisibleBy_66 : Dc mX12_isVisibleBy 66 (.if_icmp .gt 29) 3 69 := ⟨by decide +kernel, rfl⟩
theorem qX12_isVisibleBy_69 : Dc mX12_isVisibleBy 69 (.iload 8) 2 71 := ⟨by decide +kernel, rfl⟩
theorem qX12_isVisibleBy_71 : Dc mX12_isVisibleBy 71 (.ifCond .lt 20) 3 74 := ⟨by decide +kernel, rfl⟩
theorem qX12_isVisibleBy_74 : Dc mX12_isVisibleBy 74 (.aload_n 0) 1 75 := ⟨by decide +kernel, rfl⟩
theorem qX12_isVisibleBy_75 : Dc mX12_isVisibleBy 75 (.getfield 33) 3 78 := ⟨by decide +kernel, rfl⟩
theorem qX12_isVisibleBy_78 : Dc mX12_isVisibleBy 78 (.bipush 123) 2 80 := ⟨by decide +kernel, rfl⟩
theorem qX12_isVisibleBy_80 : Dc mX12_isVisibleBy 80 (.iload_n 1) 1 81 := ⟨by decide +kernel, rfl⟩
theorem qX12_isVisibleBy_81 : Dc mX12_isVisibleBy 81 (.iadd) 1 82 := ⟨by decide +kernel, rfl⟩
theorem qX12_isVisibleBy_82 : Dc mX12_isVisibleBy 82 (.iaload) 1 83 := ⟨by decide +kernel, rfl⟩
theorem qX12_isVisibleBy_83 : Dc mX12_isVisibleBy 83 (.iload 8) 2 85 := ⟨by decide +kernel, rfl⟩
theorem qX12_isVisibleBy_85 : Dc mX12_isVisibleBy 85 (.invokestatic 240) 3 88 := ⟨by decide +kernel, rfl⟩
theorem qX12_isVisibleBy_88 : Dc mX12_isVisibleBy 88 (.ifCond .ne 7) 3 91 := ⟨by decide +kernel, rfl⟩
theorem qX12_isVisibleBy_91 : Dc mX12_isVisibleBy 91 (.iconst 1) 1 92 := ⟨by decide +kernel, rfl⟩
theorem qX12_isVisibleBy_92 : Dc mX12_isVisibleBy 92 (.goto 4) 3 95 := ⟨by decide +kernel, rfl⟩
theorem qX12_isVisibleBy_95 : Dc mX12_isVisibleBy 95 (.iconst 0) 1 96 := ⟨by decide +kernel, rfl⟩
theorem qX12_isVisibleBy_96 : Dc mX12_isVisibleBy 96 (.ireturn) 1 97 := ⟨by decide +kernel, rfl⟩

set_option maxRecDepth 20000 in
set_option maxHeartbeats 4000000 in
theorem w_X12_isVisibleBy {x1 : Int32} {x2 : Int32} {x3 : Int32} {x4 : Int32} {s0 : St} {r : Int32} (h : f_X12_isVisibleBy x1 x2 x3 x4 s0 = some r) : Ct mX12_isVisibleBy 1 [.ref 206, .int x1, .int x2, .int x3, .int x4] s0 (some (.int r), s0) := by
  refine Ct.ofE (by decide +kernel) rfl ?_
  show E mX12_isVisibleBy 1 (some (.int r), s0) 0 [some (.ref 206), some (.int x1), some (.int x2), some (.int x3), some (.int x4), none, none, none, none] [] s0
  unfold f_X12_isVisibleBy at h
  refine e_iload_n qX12_isVisibleBy_0 rfl ?_
  refine e_aload_n qX12_isVisibleBy_1 rfl ?_
  refine e_getr 208 qX12_isVisibleBy_2 fl_X12_33 shq_206 kdq_11_6 rrq_206_6 ?_
  refine e_iconst (nI 3) qX12_isVisibleBy_5 rfl ?_
  refine e_iload_n qX12_isVisibleBy_6 rfl ?_
  refine e_iadd qX12_isVisibleBy_7 ?_
  refine e_iald qX12_isVisibleBy_8 shq_208 lnq_208 h (fun v1 h => ?_)
  refine e_isub qX12_isVisibleBy_9 ?_
  refine vl_e h (fun h => ?_)
  generalize (x2 - v1) = v2 at h ⊢
  refine e_istore (lv2 := [some (.ref 206), some (.int x1), some (.int x2), some (.int x3), some (.int x4), some (.int v2), none, none, none]) qX12_isVisibleBy_10 rfl rfl rfl ?_
  refine e_iload_n qX12_isVisibleBy_12 rfl ?_
  refine e_aload_n qX12_isVisibleBy_13 rfl ?_
  refine e_getr 208 qX12_isVisibleBy_14 fl_X12_33 shq_206 kdq_11_6 rrq_206_6 ?_
  refine e_bipush (nI 11) qX12_isVisibleBy_17 rfl ?_
  refine e_iload_n qX12_isVisibleBy_19 rfl ?_
  refine e_iadd qX12_isVisibleBy_20 ?_
  refine e_iald qX12_isVisibleBy_21 shq_208 lnq_208 h (fun v3 h => ?_)
  refine e_isub qX12_isVisibleBy_22 ?_
  refine vl_e h (fun h => ?_)
  generalize (x3 - v3) = v4 at h ⊢
  refine e_istore (lv2 := [some (.ref 206), some (.int x1), some (.int x2), some (.int x3), some (.int x4), some (.int v2), some (.int v4), none, none]) qX12_isVisibleBy_23 rfl rfl rfl ?_
  refine e_aload_n qX12_isVisibleBy_25 rfl ?_
  refine e_getr 208 qX12_isVisibleBy_26 fl_X12_33 shq_206 kdq_11_6 rrq_206_6 ?_
  refine e_bipush (nI 19) qX12_isVisibleBy_29 rfl ?_
  refine e_iload_n qX12_isVisibleBy_31 rfl ?_
  refine e_iadd qX12_isVisibleBy_32 ?_
  refine e_iald qX12_isVisibleBy_33 shq_208 lnq_208 h (fun v5 h => ?_)
  refine e_iload qX12_isVisibleBy_34 rfl ?_
  obtain ⟨v6, hc, h⟩ := bp_e h
  refine e_cSi2 qX12_isVisibleBy_36 ms_X12_277 rfl rfl (w_X12_lesser hc) ?_
  refine e_istore (lv2 := [some (.ref 206), some (.int x1), some (.int x2), some (.int x3), some (.int x4), some (.int v2), some (.int v4), some (.int v6), none]) qX12_isVisibleBy_39 rfl rfl rfl ?_
  refine e_iload qX12_isVisibleBy_41 rfl ?_
  refine e_iload qX12_isVisibleBy_43 rfl ?_
  obtain ⟨v7, hc, h⟩ := bp_e h
  refine e_cSi2 qX12_isVisibleBy_45 ms_X12_274 rfl rfl (w_X12_octantOf hc) ?_
  refine e_istore (lv2 := [some (.ref 206), some (.int x1), some (.int x2), some (.int x3), some (.int x4), some (.int v2), some (.int v4), some (.int v6), some (.int v7)]) qX12_isVisibleBy_48 rfl rfl rfl ?_
  refine e_iload qX12_isVisibleBy_50 rfl ?_
  refine e_iload qX12_isVisibleBy_52 rfl ?_
  refine e_imul qX12_isVisibleBy_54 ?_
  refine e_iload qX12_isVisibleBy_55 rfl ?_
  refine e_iload qX12_isVisibleBy_57 rfl ?_
  refine e_imul qX12_isVisibleBy_59 ?_
  refine e_iadd qX12_isVisibleBy_60 ?_
  refine e_iload qX12_isVisibleBy_61 rfl ?_
  refine e_iload qX12_isVisibleBy_63 rfl ?_
  refine e_imul qX12_isVisibleBy_65 ?_
  refine jn_e (fun j => j = some r → E mX12_isVisibleBy 1 (some (.int r), s0) 95 [none, none, none, none, none, none, none, none, none] [] s0) h ?_ (fun j8 hj8 h => ?_)
  · intro h
    refine e_iconst (nI 0) qX12_isVisibleBy_95 rfl ?_
    exact e_zret qX12_isVisibleBy_96 rfl (by decide) (ret_p h)
  refine e_icmp_gt (tgt := 95) qX12_isVisibleBy_66 rfl h (fun _ h => ?_) (fun _ h => ?_)
  · exact e_weak (hj8 h) ⟨Or.inl rfl, Or.inl rfl, Or.inl rfl, Or.inl rfl, Or.inl rfl, Or.inl rfl, Or.inl rfl, Or.inl rfl, Or.inl rfl, trivial⟩
  refine e_iload qX12_isVisibleBy_69 rfl ?_
  refine e_if_lt (tgt := 91) qX12_isVisibleBy_71 rfl h (fun _ h => ?_) (fun _ h => ?_)
  · refine e_iconst (nI 1) qX12_isVisibleBy_91 rfl ?_
    refine e_goto (tgt := 96) qX12_isVisibleBy_92 rfl ?_
    exact e_zret qX12_isVisibleBy_96 rfl (by decide) (ret_p h)
  refine e_aload_n qX12_isVisibleBy_74 rfl ?_
  refine e_getr 208 qX12_isVisibleBy_75 fl_X12_33 shq_206 kdq_11_6 rrq_206_6 ?_
  refine e_bipush (nI 123) qX12_isVisibleBy_78 rfl ?_
  refine e_iload_n qX12_isVisibleBy_80 rfl ?_
  refine e_iadd qX12_isVisibleBy_81 ?_
  refine e_iald qX12_isVisibleBy_82 shq_208 lnq_208 h (fun v9 h => ?_)
  refine e_iload qX12_isVisibleBy_83 rfl ?_
  obtain ⟨v10, hc, h⟩ := bp_e h
  refine e_cSi2 qX12_isVisibleBy_85 ms_X12_240 rfl rfl (w_X12_bitOf hc) ?_
  refine e_if_ne (tgt := 95) qX12_isVisibleBy_88 rfl h (fun _ h => ?_) (fun _ h => ?_)
  · refine e_iconst (nI 1) qX12_isVisibleBy_91 rfl ?_
    refine e_goto (tgt := 96) qX12_isVisibleBy_92 rfl ?_
    exact e_zret qX12_isVisibleBy_96 rfl (by decide) (ret_p h)
  exact e_weak (hj8 h) ⟨Or.inl rfl, Or.inl rfl, Or.inl rfl, Or.inl rfl, Or.inl rfl, Or.inl rfl, Or.inl rfl, Or.inl rfl, Or.inl rfl, trivial⟩
