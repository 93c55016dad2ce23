/-! light and mean of the class where they answer -/
abbrev mX11_light : MI := (yX11_light, cX11_light, 4, (some .int))
abbrev mX11_mean : MI := (yX11_mean, cX11_mean, 5, (some .int))
theorem fl_X11_154 : Fl RX11 154 4 3 := ⟨_, _, _, rfl, by decide, cws_4, tb_1 114 (by decide +kernel) (by decide +kernel)⟩
theorem fl_X11_157 : Fl RX11 157 4 4 := ⟨_, _, _, rfl, by decide, cws_4, tb_1 118 (by decide +kernel) (by decide +kernel)⟩
theorem fl_X11_160 : Fl RX11 160 6 4 := ⟨_, _, _, rfl, by decide, cws_6, tb_2 25 (by decide +kernel) (by decide +kernel)⟩
theorem rrq_49_4 : rr 49 4 = 50 := by decide +kernel
theorem shq_50 : sh 50 = 20 := by decide +kernel
theorem lnq_50 : ln 50 = 8 := by decide +kernel
theorem mv_X11_170 : Mv RX11 170 mX6_isOut 1 6 := ⟨mw_X6_isOut, tb_6 170 (by decide +kernel) (by decide +kernel), tb_4 3 (by decide +kernel) (by decide +kernel), tb_4 4 (by decide +kernel) (by decide +kernel), _, _, rfl⟩
theorem mv_X11_173 : Mv RX11 173 mX6_shines 1 6 := ⟨mw_X6_shines, tb_6 171 (by decide +kernel) (by decide +kernel), tb_3 239 (by decide +kernel) (by decide +kernel), tb_4 0 (by decide +kernel) (by decide +kernel), _, _, rfl⟩
theorem fl_X11_176 : Fl RX11 176 4 12 := ⟨_, _, _, rfl, by decide, cws_4, tb_1 144 (by decide +kernel) (by decide +kernel)⟩
theorem fl_X11_179 : Fl RX11 179 4 8 := ⟨_, _, _, rfl, by decide, cws_4, tb_1 129 (by decide +kernel) (by decide +kernel)⟩
theorem mw_X11_light : Mw mX11_light 2 := ⟨tb_6 108 (by decide +kernel) (by decide +kernel), tb_1 1 (by decide +kernel) (by decide +kernel), by decide +kernel, mw_sig (by decide +kernel), by decide⟩
theorem mw_X11_mean : Mw mX11_mean 1 := ⟨tb_6 178 (by decide +kernel) (by decide +kernel), tb_1 1 (by decide +kernel) (by decide +kernel), by decide +kernel, mw_sig (by decide +kernel), by decide⟩
def f_X11_light (x1 : Int32) (x2 : Int32) (s0 : St) : Option (Int32) :=
  bp (f_X11_isLight x1 s0) fun v1 =>
  jn (none) fun j2 =>
  if v1 = 0 then
    j2
  else
  if x2 < 0 then
    j2
  else
  if x2 ≤ (nI 10) then
    ald (rr 4) 8 x1 fun v3 =>
    if x2 = nI 0 then
      vl (s0.1 v3 1) fun v5 =>
      some v5
    else
    if x2 = nI 1 then
      vl (s0.1 v3 2) fun v6 =>
      some v6
    else
    if x2 = nI 2 then
      vl (s0.1 v3 3) fun v7 =>
      some v7
    else
    if x2 = nI 3 then
      vl (s0.1 v3 4) fun v8 =>
      some v8
    else
    if x2 = nI 4 then
      ald (s0.1 50) 8 x1 fun v9 =>
      some v9
    else
    if x2 = nI 5 then
      vl (s0.1 v3 10) fun v10 =>
      some v10
    else
    if x2 = nI 6 then
      bp (f_X6_placeOf 49 x1 s0) fun v11 =>
      some v11
    else
    if x2 = nI 7 then
      bp (f_X6_isOut 49 x1 s0) fun v12 =>
      if v12 = 0 then
        some (nI 0)
      else
      some (nI 1)
    else
    if x2 = nI 8 then
      bp (f_X6_shines 49 x1 s0) fun v13 =>
      if v13 = 0 then
        some (nI 0)
      else
      some (nI 1)
    else
    if x2 = nI 9 then
      vl (s0.1 v3 12) fun v14 =>
      some v14
    else
    vl (s0.1 v3 8) fun v15 =>
    some v15
  else
  j2

theorem qX11_light_0 : Dc mX11_light 0 (.aload_n 0) 1 1 := ⟨by decide +kernel, rfl⟩
theorem qX11_light_1 : Dc mX11_light 1 (.iload_n 1) 1 2 := ⟨by decide +kernel, rfl⟩
theorem qX11_light_2 : Dc mX11_light 2 (.invokevirtual 135) 3 5 := ⟨by decide +kernel, rfl⟩
theorem qX11_light_5 : Dc mX11_light 5 (.ifCond .eq 13) 3 8 := ⟨by decide +kernel, rfl⟩
theorem qX11_light_8 : Dc mX11_light 8 (.iload_n 2) 1 9 := ⟨by decide +kernel, rfl⟩
theorem qX11_light_9 : Dc mX11_light 9 (.ifCond .lt 9) 3 12 := ⟨by decide +kernel, rfl⟩
theorem qX11_light_12 : Dc mX11_light 12 (.iload_n 2) 1 13 := ⟨by decide +kernel, rfl⟩
theorem qX11_light_13 : Dc mX11_light 13 (.bipush 10) 2 15 := ⟨by decide +kernel, rfl⟩
theorem qX11_light_15 : Dc mX11_light 15 (.if_icmp .le 11) 3 18 := ⟨by decide +kernel, rfl⟩
theorem qX11_light_18 : Dc mX11_light 18 (.new 139) 3 21 := ⟨by decide +kernel, rfl⟩
theorem qX11_light_26 : Dc mX11_light 26 (.aload_n 0) 1 27 := ⟨by decide +kernel, rfl⟩
theorem qX11_light_27 : Dc mX11_light 27 (.getfield 19) 3 30 := ⟨by decide +kernel, rfl⟩
theorem qX11_light_30 : Dc mX11_light 30 (.getfield 142) 3 33 := ⟨by decide +kernel, rfl⟩
theorem qX11_light_33 : Dc mX11_light 33 (.iload_n 1) 1 34 := ⟨by decide +kernel, rfl⟩
theorem qX11_light_34 : Dc mX11_light 34 (.aaload) 1 35 := ⟨by decide +kernel, rfl⟩
theorem qX11_light_35 : Dc mX11_light 35 (.astore_n 3) 1 36 := ⟨by decide +kernel, rfl⟩
theorem qX11_light_36 : Dc mX11_light 36 (.iload_n 2) 1 37 := ⟨by decide +kernel, rfl⟩
theorem qX11_light_37 : Dc mX11_light 37 (.tableswitch 138 0 9 #[55, 60, 65, 70, 75, 85, 90, 99, 116, 133]) 55 92 := ⟨by decide +kernel, rfl⟩
theorem qX11_light_92 : Dc mX11_light 92 (.aload_n 3) 1 93 := ⟨by decide +kernel, rfl⟩
theorem qX11_light_93 : Dc mX11_light 93 (.getfield 146) 3 96 := ⟨by decide +kernel, rfl⟩
theorem qX11_light_96 : Dc mX11_light 96 (.ireturn) 1 97 := ⟨by decide +kernel, rfl⟩
theorem qX11_light_97 : Dc mX11_light 97 (.aload_n 3) 1 98 := ⟨by decide +kernel, rfl⟩
theorem qX11_light_98 : Dc mX11_light 98 (.getfield 151) 3 101 := ⟨by decide +kernel, rfl⟩
theorem qX11_light_101 : Dc mX11_light 101 (.ireturn) 1 102 := ⟨by decide +kernel, rfl⟩
theorem qX11_light_102 : Dc mX11_light 102 (.aload_n 3) 1 103 := ⟨by decide +kernel, rfl⟩
theorem qX11_light_103 : Dc mX11_light 103 (.getfield 154) 3 106 := ⟨by decide +kernel, rfl⟩
theorem qX11_light_106 : Dc mX11_light 106 (.ireturn) 1 107 := ⟨by decide +kernel, rfl⟩
theorem qX11_light_107 : Dc mX11_light 107 (.aload_n 3) 1 108 := ⟨by decide +kernel, rfl⟩
theorem qX11_light_108 : Dc mX11_light 108 (.getfield 157) 3 111 := ⟨by decide +kernel, rfl⟩
theorem qX11_light_111 : Dc mX11_light 111 (.ireturn) 1 112 := ⟨by decide +kernel, rfl⟩
theorem qX11_light_112 : Dc mX11_light 112 (.aload_n 0) 1 113 := ⟨by decide +kernel, rfl⟩
theorem qX11_light_113 : Dc mX11_light 113 (.getfield 31) 3 116 := ⟨by decide +kernel, rfl⟩
theorem qX11_light_116 : Dc mX11_light 116 (.getfield 160) 3 119 := ⟨by decide +kernel, rfl⟩
theorem qX11_light_119 : Dc mX11_light 119 (.iload_n 1) 1 120 := ⟨by decide +kernel, rfl⟩
theorem qX11_light_120 : Dc mX11_light 120 (.iaload) 1 121 := ⟨by decide +kernel, rfl⟩
theorem qX11_light_121 : Dc mX11_light 121 (.ireturn) 1 122 := ⟨by decide +kernel, rfl⟩
theorem qX11_light_122 : Dc mX11_light 122 (.aload_n 3) 1 123 := ⟨by decide +kernel, rfl⟩
theorem qX11_light_123 : Dc mX11_light 123 (.getfield 163) 3 126 := ⟨by decide +kernel, rfl⟩
theorem qX11_light_126 : Dc mX11_light 126 (.ireturn) 1 127 := ⟨by decide +kernel, rfl⟩
theorem qX11_light_127 : Dc mX11_light 127 (.aload_n 0) 1 128 := ⟨by decide +kernel, rfl⟩
theorem qX11_light_128 : Dc mX11_light 128 (.getfield 31) 3 131 := ⟨by decide +kernel, rfl⟩
theorem qX11_light_131 : Dc mX11_light 131 (.iload_n 1) 1 132 := ⟨by decide +kernel, rfl⟩
theorem qX11_light_132 : Dc mX11_light 132 (.invokevirtual 166) 3 135 := ⟨by decide +kernel, rfl⟩
theorem qX11_light_135 : Dc mX11_light 135 (.ireturn) 1 136 := ⟨by decide +kernel, rfl⟩
theorem qX11_light_136 : Dc mX11_light 136 (.aload_n 0) 1 137 := ⟨by decide +kernel, rfl⟩
theorem qX11_light_137 : Dc mX11_light 137 (.getfield 31) 3 140 := ⟨by decide +kernel, rfl⟩
theorem qX11_light_140 : Dc mX11_light 140 (.iload_n 1) 1 141 := ⟨by decide +kernel, rfl⟩
theorem qX11_light_141 : Dc mX11_light 141 (.invokevirtual 170) 3 144 := ⟨by decide +kernel, rfl⟩
theorem qX11_light_144 : Dc mX11_light 144 (.ifCond .eq 7) 3 147 := ⟨by decide +kernel, rfl⟩
theorem qX11_light_147 : Dc mX11_light 147 (.iconst 1) 1 148 := ⟨by decide +kernel, rfl⟩
theorem qX11_light_148 : Dc mX11_light 148 (.goto 4) 3 151 := ⟨by decide +kernel, rfl⟩
theorem qX11_light_151 : Dc mX11_light 151 (.iconst 0) 1 152 := ⟨by decide +kernel, rfl⟩
theorem qX11_light_152 : Dc mX11_light 152 (.ireturn) 1 153 := ⟨by decide +kernel, rfl⟩
theorem qX11_light_153 : Dc mX11_light 153 (.aload_n 0) 1 154 := ⟨by decide +kernel, rfl⟩
theorem qX11_light_154 : Dc mX11_light 154 (.getfield 31) 3 157 := ⟨by decide +kernel, rfl⟩
theorem qX11_light_157 : Dc mX11_light 157 (.iload_n 1) 1 158 := ⟨by decide +kernel, rfl⟩
theorem qX11_light_158 : Dc mX11_light 158 (.invokevirtual 173) 3 161 := ⟨by decide +kernel, rfl⟩
theorem qX11_light_161 : Dc mX11_light 161 (.ifCond .eq 7) 3 164 := ⟨by decide +kernel, rfl⟩
theorem qX11_light_164 : Dc mX11_light 164 (.iconst 1) 1 165 := ⟨by decide +kernel, rfl⟩
theorem qX11_light_165 : Dc mX11_light 165 (.goto 4) 3 168 := ⟨by decide +kernel, rfl⟩
theorem qX11_light_168 : Dc mX11_light 168 (.iconst 0) 1 169 := ⟨by decide +kernel, rfl⟩
theorem qX11_light_169 : Dc mX11_light 169 (.ireturn) 1 170 := ⟨by decide +kernel, rfl⟩
theorem qX11_light_170 : Dc mX11_light 170 (.aload_n 3) 1 171 := ⟨by decide +kernel, rfl⟩
theorem qX11_light_171 : Dc mX11_light 171 (.getfield 176) 3 174 := ⟨by decide +kernel, rfl⟩
theorem qX11_light_174 : Dc mX11_light 174 (.ireturn) 1 175 := ⟨by decide +kernel, rfl⟩
theorem qX11_light_175 : Dc mX11_light 175 (.aload_n 3) 1 176 := ⟨by decide +kernel, rfl⟩
theorem qX11_light_176 : Dc mX11_light 176 (.getfield 179) 3 179 := ⟨by decide +kernel, rfl⟩
theorem qX11_light_179 : Dc mX11_light 179 (.ireturn) 1 180 := ⟨by decide +kernel, rfl⟩

set_option maxRecDepth 20000 in
set_option maxHeartbeats 4000000 in
theorem w_X11_light {x1 : Int32} {x2 : Int32} {s0 : St} {r : Int32} (h : f_X11_light x1 x2 s0 = some r) : Ct mX11_light 3 [.ref 0, .int x1, .int x2] s0 (some (.int r), s0) := by
  refine Ct.ofE (by decide +kernel) rfl ?_
  show E mX11_light 3 (some (.int r), s0) 0 [some (.ref 0), some (.int x1), some (.int x2), none] [] s0
  unfold f_X11_light at h
  refine e_aload_n qX11_light_0 rfl ?_
  refine e_iload_n qX11_light_1 rfl ?_
  obtain ⟨v1, hc, h⟩ := bp_e h
  refine e_cVi1 qX11_light_2 mv_X11_135 shq_0 rfl rfl (w_X11_isLight hc) ?_
  refine jn_e (fun j => j = some r → E mX11_light 3 (some (.int r), s0) 18 [none, none, none, none] [] s0) h ?_ (fun j2 hj2 h => ?_)
  · intro h
    cases h
  refine e_if_eq (tgt := 18) qX11_light_5 rfl h (fun _ h => ?_) (fun _ h => ?_)
  · exact e_weak (hj2 h) ⟨Or.inl rfl, Or.inl rfl, Or.inl rfl, Or.inl rfl, trivial⟩
  refine e_iload_n qX11_light_8 rfl ?_
  refine e_if_lt (tgt := 18) qX11_light_9 rfl h (fun _ h => ?_) (fun _ h => ?_)
  · exact e_weak (hj2 h) ⟨Or.inl rfl, Or.inl rfl, Or.inl rfl, Or.inl rfl, trivial⟩
  refine e_iload_n qX11_light_12 rfl ?_
  refine e_bipush (nI 10) qX11_light_13 rfl ?_
  refine e_icmp_le (tgt := 26) qX11_light_15 rfl h (fun _ h => ?_) (fun _ h => ?_)
  · refine e_aload_n qX11_light_26 rfl ?_
    refine e_getr 3 qX11_light_27 fl_X11_19 shq_0 kdq_10_1 rrq_0_1 ?_
    refine e_getr 4 qX11_light_30 fl_X11_142 shq_3 kdq_1_0 rrq_3_0 ?_
    refine e_iload_n qX11_light_33 rfl ?_
    refine e_rald24 qX11_light_34 shq_4 lnq_4 h (fun i4 hi4 h => ?_)
    refine e_astore_n (lv2 := [some (.ref 0), some (.int x1), some (.int x2), some (.ref (rr 4 i4))]) qX11_light_35 rfl rfl rfl ?_
    refine e_iload_n qX11_light_36 rfl ?_
    refine e_ite h (fun hx h => ?_) (fun hx0 h => ?_)
    · refine e_tswk (tgt := 92) qX11_light_37 hx (by decide) (by decide) (by decide) rfl rfl ?_
      refine e_aload_n qX11_light_92 rfl ?_
      refine e_geti qX11_light_93 fl_X11_146 (we_24 _ shq_4 _ hi4) kdq_4_1 h (fun v5 h => ?_)
      exact e_iret qX11_light_96 rfl (ret_p h)
    refine e_ite h (fun hx h => ?_) (fun hx1 h => ?_)
    · refine e_tswk (tgt := 97) qX11_light_37 hx (by decide) (by decide) (by decide) rfl rfl ?_
      refine e_aload_n qX11_light_97 rfl ?_
      refine e_geti qX11_light_98 fl_X11_151 (we_24 _ shq_4 _ hi4) kdq_4_2 h (fun v6 h => ?_)
      exact e_iret qX11_light_101 rfl (ret_p h)
    refine e_ite h (fun hx h => ?_) (fun hx2 h => ?_)
    · refine e_tswk (tgt := 102) qX11_light_37 hx (by decide) (by decide) (by decide) rfl rfl ?_
      refine e_aload_n qX11_light_102 rfl ?_
      refine e_geti qX11_light_103 fl_X11_154 (we_24 _ shq_4 _ hi4) kdq_4_3 h (fun v7 h => ?_)
      exact e_iret qX11_light_106 rfl (ret_p h)
    refine e_ite h (fun hx h => ?_) (fun hx3 h => ?_)
    · refine e_tswk (tgt := 107) qX11_light_37 hx (by decide) (by decide) (by decide) rfl rfl ?_
      refine e_aload_n qX11_light_107 rfl ?_
      refine e_geti qX11_light_108 fl_X11_157 (we_24 _ shq_4 _ hi4) kdq_4_4 h (fun v8 h => ?_)
      exact e_iret qX11_light_111 rfl (ret_p h)
    refine e_ite h (fun hx h => ?_) (fun hx4 h => ?_)
    · refine e_tswk (tgt := 112) qX11_light_37 hx (by decide) (by decide) (by decide) rfl rfl ?_
      refine e_aload_n qX11_light_112 rfl ?_
      refine e_getr 49 qX11_light_113 fl_X11_31 shq_0 kdq_10_3 rrq_0_3 ?_
      refine e_getr 50 qX11_light_116 fl_X11_160 shq_49 kdq_6_4 rrq_49_4 ?_
      refine e_iload_n qX11_light_119 rfl ?_
      refine e_iald qX11_light_120 shq_50 lnq_50 h (fun v9 h => ?_)
      exact e_iret qX11_light_121 rfl (ret_p h)
    refine e_ite h (fun hx h => ?_) (fun hx5 h => ?_)
    · refine e_tswk (tgt := 122) qX11_light_37 hx (by decide) (by decide) (by decide) rfl rfl ?_
      refine e_aload_n qX11_light_122 rfl ?_
      refine e_geti qX11_light_123 fl_X11_163 (we_24 _ shq_4 _ hi4) kdq_4_10 h (fun v10 h => ?_)
      exact e_iret qX11_light_126 rfl (ret_p h)
    refine e_ite h (fun hx h => ?_) (fun hx6 h => ?_)
    · refine e_tswk (tgt := 127) qX11_light_37 hx (by decide) (by decide) (by decide) rfl rfl ?_
      refine e_aload_n qX11_light_127 rfl ?_
      refine e_getr 49 qX11_light_128 fl_X11_31 shq_0 kdq_10_3 rrq_0_3 ?_
      refine e_iload_n qX11_light_131 rfl ?_
      obtain ⟨v11, hc, h⟩ := bp_e h
      refine e_cVi1 qX11_light_132 mv_X11_166 shq_49 rfl rfl (w_X6_placeOf shq_49 hc) ?_
      exact e_iret qX11_light_135 rfl (ret_p h)
    refine e_ite h (fun hx h => ?_) (fun hx7 h => ?_)
    · refine e_tswk (tgt := 136) qX11_light_37 hx (by decide) (by decide) (by decide) rfl rfl ?_
      refine e_aload_n qX11_light_136 rfl ?_
      refine e_getr 49 qX11_light_137 fl_X11_31 shq_0 kdq_10_3 rrq_0_3 ?_
      refine e_iload_n qX11_light_140 rfl ?_
      obtain ⟨v12, hc, h⟩ := bp_e h
      refine e_cVi1 qX11_light_141 mv_X11_170 shq_49 rfl rfl (w_X6_isOut shq_49 hc) ?_
      refine e_if_eq (tgt := 151) qX11_light_144 rfl h (fun _ h => ?_) (fun _ h => ?_)
      · refine e_iconst (nI 0) qX11_light_151 rfl ?_
        exact e_iret qX11_light_152 rfl (ret_p h)
      refine e_iconst (nI 1) qX11_light_147 rfl ?_
      refine e_goto (tgt := 152) qX11_light_148 rfl ?_
      exact e_iret qX11_light_152 rfl (ret_p h)
    refine e_ite h (fun hx h => ?_) (fun hx8 h => ?_)
    · refine e_tswk (tgt := 153) qX11_light_37 hx (by decide) (by decide) (by decide) rfl rfl ?_
      refine e_aload_n qX11_light_153 rfl ?_
      refine e_getr 49 qX11_light_154 fl_X11_31 shq_0 kdq_10_3 rrq_0_3 ?_
      refine e_iload_n qX11_light_157 rfl ?_
      obtain ⟨v13, hc, h⟩ := bp_e h
      refine e_cVi1 qX11_light_158 mv_X11_173 shq_49 rfl rfl (w_X6_shines shq_49 hc) ?_
      refine e_if_eq (tgt := 168) qX11_light_161 rfl h (fun _ h => ?_) (fun _ h => ?_)
      · refine e_iconst (nI 0) qX11_light_168 rfl ?_
        exact e_iret qX11_light_169 rfl (ret_p h)
      refine e_iconst (nI 1) qX11_light_164 rfl ?_
      refine e_goto (tgt := 169) qX11_light_165 rfl ?_
      exact e_iret qX11_light_169 rfl (ret_p h)
    refine e_ite h (fun hx h => ?_) (fun hx9 h => ?_)
    · refine e_tswk (tgt := 170) qX11_light_37 hx (by decide) (by decide) (by decide) rfl rfl ?_
      refine e_aload_n qX11_light_170 rfl ?_
      refine e_geti qX11_light_171 fl_X11_176 (we_24 _ shq_4 _ hi4) kdq_4_12 h (fun v14 h => ?_)
      exact e_iret qX11_light_174 rfl (ret_p h)
    refine e_tswo (tgt := 175) qX11_light_37 (tsw_def (lo := 0) (n := 10) (by decide) (lt_s (lt_s (lt_s (lt_s (lt_s (lt_s (lt_s (lt_s (lt_s (lt_s lt_0 hx0) hx1) hx2) hx3) hx4) hx5) hx6) hx7) hx8) hx9)) rfl ?_
    refine e_aload_n qX11_light_175 rfl ?_
    refine e_geti qX11_light_176 fl_X11_179 (we_24 _ shq_4 _ hi4) kdq_4_8 h (fun v15 h => ?_)
    exact e_iret qX11_light_179 rfl (ret_p h)
  exact e_weak (hj2 h) ⟨Or.inl rfl, Or.inl rfl, Or.inl rfl, Or.inl rfl, trivial⟩
def f_X11_mean_L52 (N : Nat) (c6 : Int32) (s0 : St) (k10 : Int32 → Int32 → Option (Int32)) : Nat → Int32 → Int32 → Int32 → Option (Int32)
  | 0, _, _, _ => none
  | n13 + 1, v7, v8, v9 =>
    if v9 ≤ (nI 1) then
      k10 v7 v8
    else
    rm_ v7 v9 fun v15 =>
    jn (fun (v16 : Int32) (v17 : Int32) =>
      vl (v9 + (-1)) fun v19 =>
      f_X11_mean_L52 N c6 s0 k10 n13 v16 v17 v19) fun j18 =>
    if v15 = 0 then
      rm_ v8 v9 fun v20 =>
      if v20 = 0 then
        dv v7 v9 fun v21 =>
        dv v8 v9 fun v22 =>
        j18 v21 v22
      else
      j18 v7 v8
    else
    j18 v7 v8

def f_X11_mean (N : Nat) (x1 : Int32) (s0 : St) : Option (Int32) :=
  vl (s0.1 3 2) fun v1 =>
  jn (none) fun j2 =>
  if v1 = 0 then
    j2
  else
  if x1 < 0 then
    j2
  else
  if x1 ≤ (nI 1) then
    bp (f_X6_oilOfAll N 49 s0) fun v3 =>
    vl (s0.1 3 2) fun v4 =>
    vl (s0.1 3 2) fun v5 =>
    f_X11_mean_L52 N x1 s0 (fun (v23 : Int32) (v24 : Int32) =>
      if x1 = 0 then
        some v23
      else
      some v24) N v3 v4 v5
  else
  j2

theorem qX11_mean_0 : Dc mX11_mean 0 (.aload_n 0) 1 1 := ⟨by decide +kernel, rfl⟩
theorem qX11_mean_1 : Dc mX11_mean 1 (.getfield 19) 3 4 := ⟨by decide +kernel, rfl⟩
theorem qX11_mean_4 : Dc mX11_mean 4 (.getfield 314) 3 7 := ⟨by decide +kernel, rfl⟩
theorem qX11_mean_7 : Dc mX11_mean 7 (.ifCond .eq 12) 3 10 := ⟨by decide +kernel, rfl⟩
theorem qX11_mean_10 : Dc mX11_mean 10 (.iload_n 1) 1 11 := ⟨by decide +kernel, rfl⟩
theorem qX11_mean_11 : Dc mX11_mean 11 (.ifCond .lt 8) 3 14 := ⟨by decide +kernel, rfl⟩
theorem qX11_mean_14 : Dc mX11_mean 14 (.iload_n 1) 1 15 := ⟨by decide +kernel, rfl⟩
theorem qX11_mean_15 : Dc mX11_mean 15 (.iconst 1) 1 16 := ⟨by decide +kernel, rfl⟩
theorem qX11_mean_16 : Dc mX11_mean 16 (.if_icmp .le 11) 3 19 := ⟨by decide +kernel, rfl⟩
theorem qX11_mean_19 : Dc mX11_mean 19 (.new 139) 3 22 := ⟨by decide +kernel, rfl⟩
theorem qX11_mean_27 : Dc mX11_mean 27 (.aload_n 0) 1 28 := ⟨by decide +kernel, rfl⟩
theorem qX11_mean_28 : Dc mX11_mean 28 (.getfield 31) 3 31 := ⟨by decide +kernel, rfl⟩
theorem qX11_mean_31 : Dc mX11_mean 31 (.invokevirtual 234) 3 34 := ⟨by decide +kernel, rfl⟩
theorem qX11_mean_34 : Dc mX11_mean 34 (.istore_n 2) 1 35 := ⟨by decide +kernel, rfl⟩
theorem qX11_mean_35 : Dc mX11_mean 35 (.aload_n 0) 1 36 := ⟨by decide +kernel, rfl⟩
theorem qX11_mean_36 : Dc mX11_mean 36 (.getfield 19) 3 39 := ⟨by decide +kernel, rfl⟩
theorem qX11_mean_39 : Dc mX11_mean 39 (.getfield 314) 3 42 := ⟨by decide +kernel, rfl⟩
theorem qX11_mean_42 : Dc mX11_mean 42 (.istore_n 3) 1 43 := ⟨by decide +kernel, rfl⟩
theorem qX11_mean_43 : Dc mX11_mean 43 (.aload_n 0) 1 44 := ⟨by decide +kernel, rfl⟩
theorem qX11_mean_44 : Dc mX11_mean 44 (.getfield 19) 3 47 := ⟨by decide +kernel, rfl⟩
theorem qX11_mean_47 : Dc mX11_mean 47 (.getfield 314) 3 50 := ⟨by decide +kernel, rfl⟩
theorem qX11_mean_50 : Dc mX11_mean 50 (.istore 4) 2 52 := ⟨by decide +kernel, rfl⟩
theorem qX11_mean_52 : Dc mX11_mean 52 (.iload 4) 2 54 := ⟨by decide +kernel, rfl⟩
theorem qX11_mean_54 : Dc mX11_mean 54 (.iconst 1) 1 55 := ⟨by decide +kernel, rfl⟩
theorem qX11_mean_55 : Dc mX11_mean 55 (.if_icmp .le 33) 3 58 := ⟨by decide +kernel, rfl⟩
theorem qX11_mean_58 : Dc mX11_mean 58 (.iload_n 2) 1 59 := ⟨by decide +kernel, rfl⟩
theorem qX11_mean_59 : Dc mX11_mean 59 (.iload 4) 2 61 := ⟨by decide +kernel, rfl⟩
theorem qX11_mean_61 : Dc mX11_mean 61 (.irem) 1 62 := ⟨by decide +kernel, rfl⟩
theorem qX11_mean_62 : Dc mX11_mean 62 (.ifCond .ne 20) 3 65 := ⟨by decide +kernel, rfl⟩
theorem qX11_mean_65 : Dc mX11_mean 65 (.iload_n 3) 1 66 := ⟨by decide +kernel, rfl⟩
theorem qX11_mean_66 : Dc mX11_mean 66 (.iload 4) 2 68 := ⟨by decide +kernel, rfl⟩
theorem qX11_mean_68 : Dc mX11_mean 68 (.irem) 1 69 := ⟨by decide +kernel, rfl⟩
theorem qX11_mean_69 : Dc mX11_mean 69 (.ifCond .ne 13) 3 72 := ⟨by decide +kernel, rfl⟩
theorem qX11_mean_72 : Dc mX11_mean 72 (.iload_n 2) 1 73 := ⟨by decide +kernel, rfl⟩
theorem qX11_mean_73 : Dc mX11_mean 73 (.iload 4) 2 75 := ⟨by decide +kernel, rfl⟩
theorem qX11_mean_75 : Dc mX11_mean 75 (.idiv) 1 76 := ⟨by decide +kernel, rfl⟩
theorem qX11_mean_76 : Dc mX11_mean 76 (.istore_n 2) 1 77 := ⟨by decide +kernel, rfl⟩
theorem qX11_mean_77 : Dc mX11_mean 77 (.iload_n 3) 1 78 := ⟨by decide +kernel, rfl⟩
theorem qX11_mean_78 : Dc mX11_mean 78 (.iload 4) 2 80 := ⟨by decide +kernel, rfl⟩
theorem qX11_mean_80 : Dc mX11_mean 80 (.idiv) 1 81 := ⟨by decide +kernel, rfl⟩
theorem qX11_mean_81 : Dc mX11_mean 81 (.istore_n 3) 1 82 := ⟨by decide +kernel, rfl⟩
theorem qX11_mean_82 : Dc mX11_mean 82 (.iinc 4 (-1)) 3 85 := ⟨by decide +kernel, rfl⟩
theorem qX11_mean_85 : Dc mX11_mean 85 (.goto (-33)) 3 88 := ⟨by decide +kernel, rfl⟩
theorem qX11_mean_88 : Dc mX11_mean 88 (.iload_n 1) 1 89 := ⟨by decide +kernel, rfl⟩
theorem qX11_mean_89 : Dc mX11_mean 89 (.ifCond .ne 7) 3 92 := ⟨by decide +kernel, rfl⟩
theorem qX11_mean_92 : Dc mX11_mean 92 (.iload_n 2) 1 93 := ⟨by decide +kernel, rfl⟩
theorem qX11_mean_93 : Dc mX11_mean 93 (.goto 4) 3 96 := ⟨by decide +kernel, rfl⟩
theorem qX11_mean_96 : Dc mX11_mean 96 (.iload_n 3) 1 97 := ⟨by decide +kernel, rfl⟩
theorem qX11_mean_97 : Dc mX11_mean 97 (.ireturn) 1 98 := ⟨by decide +kernel, rfl⟩

set_option maxRecDepth 20000 in
set_option maxHeartbeats 4000000 in
theorem w_X11_mean_L52 {N : Nat} {c6 : Int32} {s0 : St} {k10 : Int32 → Int32 → Option (Int32)} {r : Int32}  (hk10 : ∀ (v11 : Int32) (v12 : Int32), k10 v11 v12 = some r → E mX11_mean 1 (some (.int r), s0) 88 [none, some (.int c6), some (.int v11), some (.int v12), none] [] s0) : ∀ (n13 : Nat) (v7 : Int32) (v8 : Int32) (v9 : Int32), f_X11_mean_L52 N c6 s0 k10 n13 v7 v8 v9 = some r → E mX11_mean 1 (some (.int r), s0) 52 [none, some (.int c6), some (.int v7), some (.int v8), some (.int v9)] [] s0 := by
  intro n13
  induction n13 with
  | zero =>
    intro v7 v8 v9 h
    rw [f_X11_mean_L52] at h; cases h
  | succ n13 ih14 =>
    intro v7 v8 v9 h
    rw [f_X11_mean_L52] at h
    refine e_iload qX11_mean_52 rfl ?_
    refine e_iconst (nI 1) qX11_mean_54 rfl ?_
    refine e_icmp_le (tgt := 88) qX11_mean_55 rfl h (fun _ h => ?_) (fun _ h => ?_)
    · exact e_weak (hk10 _ _ h) ⟨Or.inl rfl, Or.inr rfl, Or.inr rfl, Or.inr rfl, Or.inl rfl, trivial⟩
    refine e_iload_n qX11_mean_58 rfl ?_
    refine e_iload qX11_mean_59 rfl ?_
    refine e_irem qX11_mean_61 h (fun v15 h => ?_)
    refine jn_e (fun j => ∀ (v16 : Int32) (v17 : Int32), j v16 v17 = some r → E mX11_mean 1 (some (.int r), s0) 82 [none, some (.int c6), some (.int v16), some (.int v17), some (.int v9)] [] s0) h ?_ (fun j18 hj18 h => ?_)
    · intro v16 v17 h
      refine vl_e h (fun h => ?_)
      obtain ⟨v19, ev19⟩ : ∃ y, v9 + (-1) = y := ⟨_, rfl⟩
      rw [ev19] at h
      refine e_iinc (-1) v19 (lv2 := [none, some (.int c6), some (.int v16), some (.int v17), some (.int v19)]) qX11_mean_82 rfl rfl rfl ev19 rfl ?_
      refine e_goto (tgt := 52) qX11_mean_85 rfl ?_
      exact e_weak (ih14 _ _ _ h) ⟨Or.inl rfl, Or.inr rfl, Or.inr rfl, Or.inr rfl, Or.inr rfl, trivial⟩
    refine e_if_ne (tgt := 82) qX11_mean_62 rfl h (fun _ h => ?_) (fun _ h => ?_)
    · refine e_iload_n qX11_mean_65 rfl ?_
      refine e_iload qX11_mean_66 rfl ?_
      refine e_irem qX11_mean_68 h (fun v20 h => ?_)
      refine e_if_ne (tgt := 82) qX11_mean_69 rfl h (fun _ h => ?_) (fun _ h => ?_)
      · refine e_iload_n qX11_mean_72 rfl ?_
        refine e_iload qX11_mean_73 rfl ?_
        refine e_idiv qX11_mean_75 h (fun v21 h => ?_)
        refine e_istore_n (lv2 := [none, some (.int c6), some (.int v21), some (.int v8), some (.int v9)]) qX11_mean_76 rfl rfl rfl ?_
        refine e_iload_n qX11_mean_77 rfl ?_
        refine e_iload qX11_mean_78 rfl ?_
        refine e_idiv qX11_mean_80 h (fun v22 h => ?_)
        refine e_istore_n (lv2 := [none, some (.int c6), some (.int v21), some (.int v22), some (.int v9)]) qX11_mean_81 rfl rfl rfl ?_
        exact e_weak (hj18 _ _ h) ⟨Or.inl rfl, Or.inr rfl, Or.inr rfl, Or.inr rfl, Or.inr rfl, trivial⟩
      exact e_weak (hj18 _ _ h) ⟨Or.inl rfl, Or.inr rfl, Or.inr rfl, Or.inr rfl, Or.inr rfl, trivial⟩
    exact e_weak (hj18 _ _ h) ⟨Or.inl rfl, Or.inr rfl, Or.inr rfl, Or.inr rfl, Or.inr rfl, trivial⟩

set_option maxRecDepth 20000 in
set_option maxHeartbeats 4000000 in
theorem w_X11_mean {N : Nat} {x1 : Int32} {s0 : St} {r : Int32} (h : f_X11_mean N x1 s0 = some r) : Ct mX11_mean 1 [.ref 0, .int x1] s0 (some (.int r), s0) := by
  refine Ct.ofE (by decide +kernel) rfl ?_
  show E mX11_mean 1 (some (.int r), s0) 0 [some (.ref 0), some (.int x1), none, none, none] [] s0
  unfold f_X11_mean at h
  refine e_aload_n qX11_mean_0 rfl ?_
  refine e_getr 3 qX11_mean_1 fl_X11_19 shq_0 kdq_10_1 rrq_0_1 ?_
  refine e_geti qX11_mean_4 fl_X11_314 shq_3 kdq_1_2 h (fun v1 h => ?_)
  refine jn_e (fun j => j = some r → E mX11_mean 1 (some (.int r), s0) 19 [none, none, none, none, none] [] s0) h ?_ (fun j2 hj2 h => ?_)
  · intro h
    cases h
  refine e_if_eq (tgt := 19) qX11_mean_7 rfl h (fun _ h => ?_) (fun _ h => ?_)
  · exact e_weak (hj2 h) ⟨Or.inl rfl, Or.inl rfl, Or.inl rfl, Or.inl rfl, Or.inl rfl, trivial⟩
  refine e_iload_n qX11_mean_10 rfl ?_
  refine e_if_lt (tgt := 19) qX11_mean_11 rfl h (fun _ h => ?_) (fun _ h => ?_)
  · exact e_weak (hj2 h) ⟨Or.inl rfl, Or.inl rfl, Or.inl rfl, Or.inl rfl, Or.inl rfl, trivial⟩
  refine e_iload_n qX11_mean_14 rfl ?_
  refine e_iconst (nI 1) qX11_mean_15 rfl ?_
  refine e_icmp_le (tgt := 27) qX11_mean_16 rfl h (fun _ h => ?_) (fun _ h => ?_)
  · refine e_aload_n qX11_mean_27 rfl ?_
    refine e_getr 49 qX11_mean_28 fl_X11_31 shq_0 kdq_10_3 rrq_0_3 ?_
    obtain ⟨v3, hc, h⟩ := bp_e h
    refine e_cVi0 qX11_mean_31 mv_X11_234 shq_49 rfl rfl (w_X6_oilOfAll shq_49 hc) ?_
    refine e_istore_n (lv2 := [some (.ref 0), some (.int x1), some (.int v3), none, none]) qX11_mean_34 rfl rfl rfl ?_
    refine e_aload_n qX11_mean_35 rfl ?_
    refine e_getr 3 qX11_mean_36 fl_X11_19 shq_0 kdq_10_1 rrq_0_1 ?_
    refine e_geti qX11_mean_39 fl_X11_314 shq_3 kdq_1_2 h (fun v4 h => ?_)
    refine e_istore_n (lv2 := [some (.ref 0), some (.int x1), some (.int v3), some (.int v4), none]) qX11_mean_42 rfl rfl rfl ?_
    refine e_aload_n qX11_mean_43 rfl ?_
    refine e_getr 3 qX11_mean_44 fl_X11_19 shq_0 kdq_10_1 rrq_0_1 ?_
    refine e_geti qX11_mean_47 fl_X11_314 shq_3 kdq_1_2 h (fun v5 h => ?_)
    refine e_istore (lv2 := [some (.ref 0), some (.int x1), some (.int v3), some (.int v4), some (.int v5)]) qX11_mean_50 rfl rfl rfl ?_
    refine e_weak (w_X11_mean_L52 (fun v23 v24 h => ?_) _ _ _ _ h) ⟨Or.inl rfl, Or.inr rfl, Or.inr rfl, Or.inr rfl, Or.inr rfl, trivial⟩
    refine e_iload_n qX11_mean_88 rfl ?_
    refine e_if_ne (tgt := 96) qX11_mean_89 rfl h (fun _ h => ?_) (fun _ h => ?_)
    · refine e_iload_n qX11_mean_92 rfl ?_
      refine e_goto (tgt := 97) qX11_mean_93 rfl ?_
      exact e_iret qX11_mean_97 rfl (ret_p h)
    refine e_iload_n qX11_mean_96 rfl ?_
    exact e_iret qX11_mean_97 rfl (ret_p h)
  exact e_weak (hj2 h) ⟨Or.inl rfl, Or.inl rfl, Or.inl rfl, Or.inl rfl, Or.inl rfl, trivial⟩
