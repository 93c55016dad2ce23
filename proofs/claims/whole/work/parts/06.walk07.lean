def f_X12_spotsAt  (s0 : St) : Option (Int32 × St) :=
  vl (sI s0 206 0 (nI 0)) fun s1 =>
  vl (s1.1 206 35) fun v2 =>
  if v2 = 0 then
    some ((-1), s1)
  else
  vl (s1.1 206 33) fun v3 =>
  some (v3, s1)

theorem qX12_spotsAt_0 : Dc mX12_spotsAt 0 (.aload_n 0) 1 1 := ⟨by decide +kernel, rfl⟩
theorem qX12_spotsAt_1 : Dc mX12_spotsAt 1 (.iconst 0) 1 2 := ⟨by decide +kernel, rfl⟩
theorem qX12_spotsAt_2 : Dc mX12_spotsAt 2 (.putfield 1) 3 5 := ⟨by decide +kernel, rfl⟩
theorem qX12_spotsAt_5 : Dc mX12_spotsAt 5 (.aload_n 0) 1 6 := ⟨by decide +kernel, rfl⟩
theorem qX12_spotsAt_6 : Dc mX12_spotsAt 6 (.getfield 380) 3 9 := ⟨by decide +kernel, rfl⟩
theorem qX12_spotsAt_9 : Dc mX12_spotsAt 9 (.ifCond .eq 10) 3 12 := ⟨by decide +kernel, rfl⟩
theorem qX12_spotsAt_12 : Dc mX12_spotsAt 12 (.aload_n 0) 1 13 := ⟨by decide +kernel, rfl⟩
theorem qX12_spotsAt_13 : Dc mX12_spotsAt 13 (.getfield 383) 3 16 := ⟨by decide +kernel, rfl⟩
theorem qX12_spotsAt_16 : Dc mX12_spotsAt 16 (.goto 4) 3 19 := ⟨by decide +kernel, rfl⟩
theorem qX12_spotsAt_19 : Dc mX12_spotsAt 19 (.iconst (-1)) 1 20 := ⟨by decide +kernel, rfl⟩
theorem qX12_spotsAt_20 : Dc mX12_spotsAt 20 (.ireturn) 1 21 := ⟨by decide +kernel, rfl⟩

set_option maxRecDepth 20000 in
set_option maxHeartbeats 4000000 in
theorem w_X12_spotsAt  {s0 : St} {r : Int32} {sr : St} (h : f_X12_spotsAt  s0 = some (r, sr)) : Ct mX12_spotsAt 0 [.ref 206] s0 (some (.int r), sr) := by
  refine Ct.ofE (by decide +kernel) rfl ?_
  show E mX12_spotsAt 0 (some (.int r), sr) 0 [some (.ref 206)] [] s0
  unfold f_X12_spotsAt at h
  refine e_aload_n qX12_spotsAt_0 rfl ?_
  refine e_iconst (nI 0) qX12_spotsAt_1 rfl ?_
  refine e_puti qX12_spotsAt_2 fp_X12_1 shq_206 kdq_11_0 h (fun s1 h => ?_)
  refine e_aload_n qX12_spotsAt_5 rfl ?_
  refine e_geti qX12_spotsAt_6 fl_X12_380 shq_206 kdq_11_35 h (fun v2 h => ?_)
  refine e_if_eq (tgt := 19) qX12_spotsAt_9 rfl h (fun _ h => ?_) (fun _ h => ?_)
  · refine e_iconst (-1) qX12_spotsAt_19 rfl ?_
    exact e_iret qX12_spotsAt_20 rfl (ret_i h)
  refine e_aload_n qX12_spotsAt_12 rfl ?_
  refine e_geti qX12_spotsAt_13 fl_X12_383 shq_206 kdq_11_33 h (fun v3 h => ?_)
  refine e_goto (tgt := 20) qX12_spotsAt_16 rfl ?_
  exact e_iret qX12_spotsAt_20 rfl (ret_i h)

def f_X12_fix_L39 (N : Nat) (s8 : St) (k9 : Option (Int32 × St)) : Nat → Int32 → Option (Int32 × St)
  | 0, _ => none
  | n10 + 1, v7 =>
    vl (s8.1 206 3) fun v12 =>
    if v12 ≤ v7 then
      k9
    else
    bp (f_X12_octet v7 s8) fun v13 =>
    bp (f_X12_isLight v13 s8) fun v14 =>
    if v14 = 0 then
      some ((-1), s8)
    else
    bp (f_X12_octet (v7 + (nI 1)) s8) fun v15 =>
    if v15 ≤ (nI 7) then
      vl (v7 + (nI 2)) fun v16 =>
      f_X12_fix_L39 N s8 k9 n10 v16
    else
    some ((-1), s8)

def f_X12_fix_L97 (N : Nat) (c26 : Int32) (c27 : Int32) (c28 : Int32) (s31 : St) (k32 : Int32 → Option (Int32 × St)) : Nat → Int32 → Int32 → Option (Int32 × St)
  | 0, _, _ => none
  | n34 + 1, v29, v30 =>
    vl (s31.1 206 3) fun v36 =>
    if v36 ≤ v30 then
      k32 v29
    else
    jn (fun (v37 : Int32) =>
      vl (v30 + (nI 2)) fun v39 =>
      f_X12_fix_L97 N c26 c27 c28 s31 k32 n34 v37 v39) fun j38 =>
    jn (j38 (nI 0)) fun j40 =>
    if v29 = 0 then
      j40
    else
    bp (f_X12_octet v30 s31) fun v41 =>
    rm_ c28 (nI 20) fun v42 =>
    dv c28 (nI 20) fun v43 =>
    bp (f_X12_octantFrom v41 v42 v43 s31) fun v44 =>
    bp (f_X12_octet (v30 + (nI 1)) s31) fun v45 =>
    if v44 = v45 then
      j38 (nI 1)
    else
    j40

def f_X12_fix_L87 (N : Nat) (s20 : St) (k21 : Int32 → Int32 → Option (Int32 × St)) : Nat → Int32 → Int32 → Int32 → Option (Int32 × St)
  | 0, _, _, _ => none
  | n24 + 1, v17, v18, v19 =>
    if v19 < 0 then
      k21 v17 v18
    else
    f_X12_fix_L97 N v17 v18 v19 s20 (fun (v46 : Int32) =>
      jn (fun (v47 : Int32) (v48 : Int32) =>
        vl (v19 + (-1)) fun v50 =>
        f_X12_fix_L87 N s20 k21 n24 v47 v48 v50) fun j49 =>
      if v46 = 0 then
        j49 v17 v18
      else
      vl (v17 + (nI 1)) fun v51 =>
      j49 v51 v19) N (nI 1) (nI 0)

def f_X12_fix (N : Nat)  (s0 : St) : Option (Int32 × St) :=
  vl (sI s0 206 0 (nI 0)) fun s1 =>
  bp (f_X12_taken (nI 940) s1) fun s2 =>
  vl (s2.1 206 3) fun v3 =>
  bp (f_X12_isIn v3 (nI 2) (nI 12) s2) fun v4 =>
  if v4 = 0 then
    some ((-1), s2)
  else
  vl (s2.1 206 3) fun v5 =>
  rm_ v5 (nI 2) fun v6 =>
  if v6 = (nI 1) then
    some ((-1), s2)
  else
  f_X12_fix_L39 N s2 (f_X12_fix_L87 N s2 (fun (v52 : Int32) (v53 : Int32) =>
      if v52 = 0 then
        some ((nI 0), s2)
      else
      vl (sI s2 206 36 (nI 1)) fun s54 =>
      vl (sI s54 206 34 v53) fun s55 =>
      some (v52, s55)) N (nI 0) (nI 0) (nI 399)) N (nI 0)

theorem qX12_fix_0 : Dc mX12_fix 0 (.aload_n 0) 1 1 := ⟨by decide +kernel, rfl⟩
theorem qX12_fix_1 : Dc mX12_fix 1 (.iconst 0) 1 2 := ⟨by decide +kernel, rfl⟩
theorem qX12_fix_2 : Dc mX12_fix 2 (.putfield 1) 3 5 := ⟨by decide +kernel, rfl⟩
theorem qX12_fix_5 : Dc mX12_fix 5 (.aload_n 0) 1 6 := ⟨by decide +kernel, rfl⟩
theorem qX12_fix_6 : Dc mX12_fix 6 (.sipush 940) 3 9 := ⟨by decide +kernel, rfl⟩
theorem qX12_fix_9 : Dc mX12_fix 9 (.invokevirtual 246) 3 12 := ⟨by decide +kernel, rfl⟩
theorem qX12_fix_12 : Dc mX12_fix 12 (.aload_n 0) 1 13 := ⟨by decide +kernel, rfl⟩
theorem qX12_fix_13 : Dc mX12_fix 13 (.getfield 18) 3 16 := ⟨by decide +kernel, rfl⟩
theorem qX12_fix_16 : Dc mX12_fix 16 (.iconst 2) 1 17 := ⟨by decide +kernel, rfl⟩
theorem qX12_fix_17 : Dc mX12_fix 17 (.bipush 12) 2 19 := ⟨by decide +kernel, rfl⟩
theorem qX12_fix_19 : Dc mX12_fix 19 (.invokestatic 186) 3 22 := ⟨by decide +kernel, rfl⟩
theorem qX12_fix_22 : Dc mX12_fix 22 (.ifCond .eq 13) 3 25 := ⟨by decide +kernel, rfl⟩
theorem qX12_fix_25 : Dc mX12_fix 25 (.aload_n 0) 1 26 := ⟨by decide +kernel, rfl⟩
theorem qX12_fix_26 : Dc mX12_fix 26 (.getfield 18) 3 29 := ⟨by decide +kernel, rfl⟩
theorem qX12_fix_29 : Dc mX12_fix 29 (.iconst 2) 1 30 := ⟨by decide +kernel, rfl⟩
theorem qX12_fix_30 : Dc mX12_fix 30 (.irem) 1 31 := ⟨by decide +kernel, rfl⟩
theorem qX12_fix_31 : Dc mX12_fix 31 (.iconst 1) 1 32 := ⟨by decide +kernel, rfl⟩
theorem qX12_fix_32 : Dc mX12_fix 32 (.if_icmp .ne 5) 3 35 := ⟨by decide +kernel, rfl⟩
theorem qX12_fix_35 : Dc mX12_fix 35 (.iconst (-1)) 1 36 := ⟨by decide +kernel, rfl⟩
theorem qX12_fix_36 : Dc mX12_fix 36 (.ireturn) 1 37 := ⟨by decide +kernel, rfl⟩
theorem qX12_fix_37 : Dc mX12_fix 37 (.iconst 0) 1 38 := ⟨by decide +kernel, rfl⟩
theorem qX12_fix_38 : Dc mX12_fix 38 (.istore_n 1) 1 39 := ⟨by decide +kernel, rfl⟩
theorem qX12_fix_39 : Dc mX12_fix 39 (.iload_n 1) 1 40 := ⟨by decide +kernel, rfl⟩
theorem qX12_fix_40 : Dc mX12_fix 40 (.aload_n 0) 1 41 := ⟨by decide +kernel, rfl⟩
theorem qX12_fix_41 : Dc mX12_fix 41 (.getfield 18) 3 44 := ⟨by decide +kernel, rfl⟩
theorem qX12_fix_44 : Dc mX12_fix 44 (.if_icmp .ge 35) 3 47 := ⟨by decide +kernel, rfl⟩
theorem qX12_fix_47 : Dc mX12_fix 47 (.aload_n 0) 1 48 := ⟨by decide +kernel, rfl⟩
theorem qX12_fix_48 : Dc mX12_fix 48 (.aload_n 0) 1 49 := ⟨by decide +kernel, rfl⟩
theorem qX12_fix_49 : Dc mX12_fix 49 (.iload_n 1) 1 50 := ⟨by decide +kernel, rfl⟩
theorem qX12_fix_50 : Dc mX12_fix 50 (.invokevirtual 359) 3 53 := ⟨by decide +kernel, rfl⟩
theorem qX12_fix_53 : Dc mX12_fix 53 (.invokevirtual 294) 3 56 := ⟨by decide +kernel, rfl⟩
theorem qX12_fix_56 : Dc mX12_fix 56 (.ifCond .eq 15) 3 59 := ⟨by decide +kernel, rfl⟩
theorem qX12_fix_59 : Dc mX12_fix 59 (.aload_n 0) 1 60 := ⟨by decide +kernel, rfl⟩
theorem qX12_fix_60 : Dc mX12_fix 60 (.iload_n 1) 1 61 := ⟨by decide +kernel, rfl⟩
theorem qX12_fix_61 : Dc mX12_fix 61 (.iconst 1) 1 62 := ⟨by decide +kernel, rfl⟩
theorem qX12_fix_62 : Dc mX12_fix 62 (.iadd) 1 63 := ⟨by decide +kernel, rfl⟩
theorem qX12_fix_63 : Dc mX12_fix 63 (.invokevirtual 359) 3 66 := ⟨by decide +kernel, rfl⟩
theorem qX12_fix_66 : Dc mX12_fix 66 (.bipush 7) 2 68 := ⟨by decide +kernel, rfl⟩
theorem qX12_fix_68 : Dc mX12_fix 68 (.if_icmp .le 5) 3 71 := ⟨by decide +kernel, rfl⟩
theorem qX12_fix_71 : Dc mX12_fix 71 (.iconst (-1)) 1 72 := ⟨by decide +kernel, rfl⟩
theorem qX12_fix_72 : Dc mX12_fix 72 (.ireturn) 1 73 := ⟨by decide +kernel, rfl⟩
theorem qX12_fix_73 : Dc mX12_fix 73 (.iinc 1 2) 3 76 := ⟨by decide +kernel, rfl⟩
theorem qX12_fix_76 : Dc mX12_fix 76 (.goto (-37)) 3 79 := ⟨by decide +kernel, rfl⟩
theorem qX12_fix_79 : Dc mX12_fix 79 (.iconst 0) 1 80 := ⟨by decide +kernel, rfl⟩
theorem qX12_fix_80 : Dc mX12_fix 80 (.istore_n 1) 1 81 := ⟨by decide +kernel, rfl⟩
theorem qX12_fix_81 : Dc mX12_fix 81 (.iconst 0) 1 82 := ⟨by decide +kernel, rfl⟩
theorem qX12_fix_82 : Dc mX12_fix 82 (.istore_n 2) 1 83 := ⟨by decide +kernel, rfl⟩
theorem qX12_fix_83 : Dc mX12_fix 83 (.sipush 399) 3 86 := ⟨by decide +kernel, rfl⟩
theorem qX12_fix_86 : Dc mX12_fix 86 (.istore_n 3) 1 87 := ⟨by decide +kernel, rfl⟩
theorem qX12_fix_87 : Dc mX12_fix 87 (.iload_n 3) 1 88 := ⟨by decide +kernel, rfl⟩
theorem qX12_fix_88 : Dc mX12_fix 88 (.ifCond .lt 84) 3 91 := ⟨by decide +kernel, rfl⟩
theorem qX12_fix_91 : Dc mX12_fix 91 (.iconst 1) 1 92 := ⟨by decide +kernel, rfl⟩
theorem qX12_fix_92 : Dc mX12_fix 92 (.istore 4) 2 94 := ⟨by decide +kernel, rfl⟩
theorem qX12_fix_94 : Dc mX12_fix 94 (.iconst 0) 1 95 := ⟨by decide +kernel, rfl⟩
theorem qX12_fix_95 : Dc mX12_fix 95 (.istore 5) 2 97 := ⟨by decide +kernel, rfl⟩
theorem qX12_fix_97 : Dc mX12_fix 97 (.iload 5) 2 99 := ⟨by decide +kernel, rfl⟩
theorem qX12_fix_99 : Dc mX12_fix 99 (.aload_n 0) 1 100 := ⟨by decide +kernel, rfl⟩
theorem qX12_fix_100 : Dc mX12_fix 100 (.getfield 18) 3 103 := ⟨by decide +kernel, rfl⟩
theorem qX12_fix_103 : Dc mX12_fix 103 (.if_icmp .ge 50) 3 106 := ⟨by decide +kernel, rfl⟩
theorem qX12_fix_106 : Dc mX12_fix 106 (.iload 4) 2 108 := ⟨by decide +kernel, rfl⟩
theorem qX12_fix_108 : Dc mX12_fix 108 (.ifCond .eq 36) 3 111 := ⟨by decide +kernel, rfl⟩
theorem qX12_fix_111 : Dc mX12_fix 111 (.aload_n 0) 1 112 := ⟨by decide +kernel, rfl⟩
theorem qX12_fix_112 : Dc mX12_fix 112 (.aload_n 0) 1 113 := ⟨by decide +kernel, rfl⟩
theorem qX12_fix_113 : Dc mX12_fix 113 (.iload 5) 2 115 := ⟨by decide +kernel, rfl⟩
theorem qX12_fix_115 : Dc mX12_fix 115 (.invokevirtual 359) 3 118 := ⟨by decide +kernel, rfl⟩
theorem qX12_fix_118 : Dc mX12_fix 118 (.iload_n 3) 1 119 := ⟨by decide +kernel, rfl⟩
theorem qX12_fix_119 : Dc mX12_fix 119 (.bipush 20) 2 121 := ⟨by decide +kernel, rfl⟩
theorem qX12_fix_121 : Dc mX12_fix 121 (.irem) 1 122 := ⟨by decide +kernel, rfl⟩
theorem qX12_fix_122 : Dc mX12_fix 122 (.iload_n 3) 1 123 := ⟨by decide +kernel, rfl⟩
theorem qX12_fix_123 : Dc mX12_fix 123 (.bipush 20) 2 125 := ⟨by decide +kernel, rfl⟩
theorem qX12_fix_125 : Dc mX12_fix 125 (.idiv) 1 126 := ⟨by decide +kernel, rfl⟩
theorem qX12_fix_126 : Dc mX12_fix 126 (.invokevirtual 386) 3 129 := ⟨by decide +kernel, rfl⟩
theorem qX12_fix_129 : Dc mX12_fix 129 (.aload_n 0) 1 130 := ⟨by decide +kernel, rfl⟩
theorem qX12_fix_130 : Dc mX12_fix 130 (.iload 5) 2 132 := ⟨by decide +kernel, rfl⟩
theorem qX12_fix_132 : Dc mX12_fix 132 (.iconst 1) 1 133 := ⟨by decide +kernel, rfl⟩
theorem qX12_fix_133 : Dc mX12_fix 133 (.iadd) 1 134 := ⟨by decide +kernel, rfl⟩
theorem qX12_fix_134 : Dc mX12_fix 134 (.invokevirtual 359) 3 137 := ⟨by decide +kernel, rfl⟩
theorem qX12_fix_137 : Dc mX12_fix 137 (.if_icmp .ne 7) 3 140 := ⟨by decide +kernel, rfl⟩
theorem qX12_fix_140 : Dc mX12_fix 140 (.iconst 1) 1 141 := ⟨by decide +kernel, rfl⟩
theorem qX12_fix_141 : Dc mX12_fix 141 (.goto 4) 3 144 := ⟨by decide +kernel, rfl⟩
theorem qX12_fix_144 : Dc mX12_fix 144 (.iconst 0) 1 145 := ⟨by decide +kernel, rfl⟩
theorem qX12_fix_145 : Dc mX12_fix 145 (.istore 4) 2 147 := ⟨by decide +kernel, rfl⟩
theorem qX12_fix_147 : Dc mX12_fix 147 (.iinc 5 2) 3 150 := ⟨by decide +kernel, rfl⟩
theorem qX12_fix_150 : Dc mX12_fix 150 (.goto (-53)) 3 153 := ⟨by decide +kernel, rfl⟩
theorem qX12_fix_153 : Dc mX12_fix 153 (.iload 4) 2 155 := ⟨by decide +kernel, rfl⟩
theorem qX12_fix_155 : Dc mX12_fix 155 (.ifCond .ne 6) 3 158 := ⟨by decide +kernel, rfl⟩
theorem qX12_fix_158 : Dc mX12_fix 158 (.goto 8) 3 161 := ⟨by decide +kernel, rfl⟩
theorem qX12_fix_161 : Dc mX12_fix 161 (.iinc 1 1) 3 164 := ⟨by decide +kernel, rfl⟩
theorem qX12_fix_164 : Dc mX12_fix 164 (.iload_n 3) 1 165 := ⟨by decide +kernel, rfl⟩
theorem qX12_fix_165 : Dc mX12_fix 165 (.istore_n 2) 1 166 := ⟨by decide +kernel, rfl⟩
theorem qX12_fix_166 : Dc mX12_fix 166 (.iinc 3 (-1)) 3 169 := ⟨by decide +kernel, rfl⟩
theorem qX12_fix_169 : Dc mX12_fix 169 (.goto (-82)) 3 172 := ⟨by decide +kernel, rfl⟩
theorem qX12_fix_172 : Dc mX12_fix 172 (.iload_n 1) 1 173 := ⟨by decide +kernel, rfl⟩
theorem qX12_fix_173 : Dc mX12_fix 173 (.ifCond .ne 5) 3 176 := ⟨by decide +kernel, rfl⟩
theorem qX12_fix_176 : Dc mX12_fix 176 (.iconst 0) 1 177 := ⟨by decide +kernel, rfl⟩
theorem qX12_fix_177 : Dc mX12_fix 177 (.ireturn) 1 178 := ⟨by decide +kernel, rfl⟩
theorem qX12_fix_178 : Dc mX12_fix 178 (.aload_n 0) 1 179 := ⟨by decide +kernel, rfl⟩
theorem qX12_fix_179 : Dc mX12_fix 179 (.iconst 1) 1 180 := ⟨by decide +kernel, rfl⟩
theorem qX12_fix_180 : Dc mX12_fix 180 (.putfield 389) 3 183 := ⟨by decide +kernel, rfl⟩
theorem qX12_fix_183 : Dc mX12_fix 183 (.aload_n 0) 1 184 := ⟨by decide +kernel, rfl⟩
theorem qX12_fix_184 : Dc mX12_fix 184 (.iload_n 2) 1 185 := ⟨by decide +kernel, rfl⟩
theorem qX12_fix_185 : Dc mX12_fix 185 (.putfield 392) 3 188 := ⟨by decide +kernel, rfl⟩
theorem qX12_fix_188 : Dc mX12_fix 188 (.iload_n 1) 1 189 := ⟨by decide +kernel, rfl⟩
theorem qX12_fix_189 : Dc mX12_fix 189 (.ireturn) 1 190 := ⟨by decide +kernel, rfl⟩

set_option maxRecDepth 20000 in
set_option maxHeartbeats 4000000 in
theorem w_X12_fix_L39 {N : Nat}  {s8 : St} {k9 : Option (Int32 × St)} {r : Int32} {sr : St}  (hk9 : k9 = some (r, sr) → E mX12_fix 2 (some (.int r), sr) 79 [some (.ref 206), none, none, none, none, none] [] s8) : ∀ (n10 : Nat) (v7 : Int32), f_X12_fix_L39 N s8 k9 n10 v7 = some (r, sr) → E mX12_fix 2 (some (.int r), sr) 39 [some (.ref 206), some (.int v7), none, none, none, none] [] s8 := by
  intro n10
  induction n10 with
  | zero =>
    intro v7 h
    rw [f_X12_fix_L39] at h; cases h
  | succ n10 ih11 =>
    intro v7 h
    rw [f_X12_fix_L39] at h
    refine e_iload_n qX12_fix_39 rfl ?_
    refine e_aload_n qX12_fix_40 rfl ?_
    refine e_geti qX12_fix_41 fl_X12_18 shq_206 kdq_11_3 h (fun v12 h => ?_)
    refine e_icmp_ge (tgt := 79) qX12_fix_44 rfl h (fun _ h => ?_) (fun _ h => ?_)
    · exact e_weak (hk9 h) ⟨Or.inr rfl, Or.inl rfl, Or.inl rfl, Or.inl rfl, Or.inl rfl, Or.inl rfl, trivial⟩
    refine e_aload_n qX12_fix_47 rfl ?_
    refine e_aload_n qX12_fix_48 rfl ?_
    refine e_iload_n qX12_fix_49 rfl ?_
    obtain ⟨v13, hc, h⟩ := bp_e h
    refine e_cVi1 qX12_fix_50 mv_X12_359 shq_206 rfl rfl (w_X12_octet hc) ?_
    obtain ⟨v14, hc, h⟩ := bp_e h
    refine e_cVi1 qX12_fix_53 mv_X12_294 shq_206 rfl rfl (w_X12_isLight hc) ?_
    refine e_if_eq (tgt := 71) qX12_fix_56 rfl h (fun _ h => ?_) (fun _ h => ?_)
    · refine e_iconst (-1) qX12_fix_71 rfl ?_
      exact e_iret qX12_fix_72 rfl (ret_i h)
    refine e_aload_n qX12_fix_59 rfl ?_
    refine e_iload_n qX12_fix_60 rfl ?_
    refine e_iconst (nI 1) qX12_fix_61 rfl ?_
    refine e_iadd qX12_fix_62 ?_
    obtain ⟨v15, hc, h⟩ := bp_e h
    refine e_cVi1 qX12_fix_63 mv_X12_359 shq_206 rfl rfl (w_X12_octet hc) ?_
    refine e_bipush (nI 7) qX12_fix_66 rfl ?_
    refine e_icmp_le (tgt := 73) qX12_fix_68 rfl h (fun _ h => ?_) (fun _ h => ?_)
    · refine vl_e h (fun h => ?_)
      obtain ⟨v16, ev16⟩ : ∃ y, v7 + (nI 2) = y := ⟨_, rfl⟩
      rw [ev16] at h
      refine e_iinc (nI 2) v16 (lv2 := [some (.ref 206), some (.int v16), none, none, none, none]) qX12_fix_73 rfl rfl rfl ev16 rfl ?_
      refine e_goto (tgt := 39) qX12_fix_76 rfl ?_
      exact e_weak (ih11 _ h) ⟨Or.inr rfl, Or.inr rfl, Or.inl rfl, Or.inl rfl, Or.inl rfl, Or.inl rfl, trivial⟩
    refine e_iconst (-1) qX12_fix_71 rfl ?_
    exact e_iret qX12_fix_72 rfl (ret_i h)

set_option maxRecDepth 20000 in
set_option maxHeartbeats 4000000 in
theorem w_X12_fix_L97 {N : Nat} {c26 : Int32} {c27 : Int32} {c28 : Int32} {s31 : St} {k32 : Int32 → Option (Int32 × St)} {r : Int32} {sr : St}  (hk32 : ∀ (v33 : Int32), k32 v33 = some (r, sr) → E mX12_fix 2 (some (.int r), sr) 153 [some (.ref 206), some (.int c26), some (.int c27), some (.int c28), some (.int v33), none] [] s31) : ∀ (n34 : Nat) (v29 : Int32) (v30 : Int32), f_X12_fix_L97 N c26 c27 c28 s31 k32 n34 v29 v30 = some (r, sr) → E mX12_fix 2 (some (.int r), sr) 97 [some (.ref 206), some (.int c26), some (.int c27), some (.int c28), some (.int v29), some (.int v30)] [] s31 := by
  intro n34
  induction n34 with
  | zero =>
    intro v29 v30 h
    rw [f_X12_fix_L97] at h; cases h
  | succ n34 ih35 =>
    intro v29 v30 h
    rw [f_X12_fix_L97] at h
    refine e_iload qX12_fix_97 rfl ?_
    refine e_aload_n qX12_fix_99 rfl ?_
    refine e_geti qX12_fix_100 fl_X12_18 shq_206 kdq_11_3 h (fun v36 h => ?_)
    refine e_icmp_ge (tgt := 153) qX12_fix_103 rfl h (fun _ h => ?_) (fun _ h => ?_)
    · exact e_weak (hk32 _ h) ⟨Or.inr rfl, Or.inr rfl, Or.inr rfl, Or.inr rfl, Or.inr rfl, Or.inl rfl, trivial⟩
    refine e_iload qX12_fix_106 rfl ?_
    refine jn_e (fun j => ∀ (v37 : Int32), j v37 = some (r, sr) → E mX12_fix 2 (some (.int r), sr) 145 [some (.ref 206), some (.int c26), some (.int c27), some (.int c28), none, some (.int v30)] [.int v37] s31) h ?_ (fun j38 hj38 h => ?_)
    · intro v37 h
      refine e_istore (lv2 := [some (.ref 206), some (.int c26), some (.int c27), some (.int c28), some (.int v37), some (.int v30)]) qX12_fix_145 rfl rfl rfl ?_
      refine vl_e h (fun h => ?_)
      obtain ⟨v39, ev39⟩ : ∃ y, v30 + (nI 2) = y := ⟨_, rfl⟩
      rw [ev39] at h
      refine e_iinc (nI 2) v39 (lv2 := [some (.ref 206), some (.int c26), some (.int c27), some (.int c28), some (.int v37), some (.int v39)]) qX12_fix_147 rfl rfl rfl ev39 rfl ?_
      refine e_goto (tgt := 97) qX12_fix_150 rfl ?_
      exact e_weak (ih35 _ _ h) ⟨Or.inr rfl, Or.inr rfl, Or.inr rfl, Or.inr rfl, Or.inr rfl, Or.inr rfl, trivial⟩
    refine jn_e (fun j => j = some (r, sr) → E mX12_fix 2 (some (.int r), sr) 144 [some (.ref 206), some (.int c26), some (.int c27), some (.int c28), none, some (.int v30)] [] s31) h ?_ (fun j40 hj40 h => ?_)
    · intro h
      refine e_iconst (nI 0) qX12_fix_144 rfl ?_
      exact e_weak (hj38 _ h) ⟨Or.inr rfl, Or.inr rfl, Or.inr rfl, Or.inr rfl, Or.inl rfl, Or.inr rfl, trivial⟩
    refine e_if_eq (tgt := 144) qX12_fix_108 rfl h (fun _ h => ?_) (fun _ h => ?_)
    · exact e_weak (hj40 h) ⟨Or.inr rfl, Or.inr rfl, Or.inr rfl, Or.inr rfl, Or.inl rfl, Or.inr rfl, trivial⟩
    refine e_aload_n qX12_fix_111 rfl ?_
    refine e_aload_n qX12_fix_112 rfl ?_
    refine e_iload qX12_fix_113 rfl ?_
    obtain ⟨v41, hc, h⟩ := bp_e h
    refine e_cVi1 qX12_fix_115 mv_X12_359 shq_206 rfl rfl (w_X12_octet hc) ?_
    refine e_iload_n qX12_fix_118 rfl ?_
    refine e_bipush (nI 20) qX12_fix_119 rfl ?_
    refine e_irem qX12_fix_121 h (fun v42 h => ?_)
    refine e_iload_n qX12_fix_122 rfl ?_
    refine e_bipush (nI 20) qX12_fix_123 rfl ?_
    refine e_idiv qX12_fix_125 h (fun v43 h => ?_)
    obtain ⟨v44, hc, h⟩ := bp_e h
    refine e_cVi3 qX12_fix_126 mv_X12_386 shq_206 rfl rfl (w_X12_octantFrom hc) ?_
    refine e_aload_n qX12_fix_129 rfl ?_
    refine e_iload qX12_fix_130 rfl ?_
    refine e_iconst (nI 1) qX12_fix_132 rfl ?_
    refine e_iadd qX12_fix_133 ?_
    obtain ⟨v45, hc, h⟩ := bp_e h
    refine e_cVi1 qX12_fix_134 mv_X12_359 shq_206 rfl rfl (w_X12_octet hc) ?_
    refine e_icmp_ne (tgt := 144) qX12_fix_137 rfl h (fun _ h => ?_) (fun _ h => ?_)
    · refine e_iconst (nI 1) qX12_fix_140 rfl ?_
      refine e_goto (tgt := 145) qX12_fix_141 rfl ?_
      exact e_weak (hj38 _ h) ⟨Or.inr rfl, Or.inr rfl, Or.inr rfl, Or.inr rfl, Or.inl rfl, Or.inr rfl, trivial⟩
    exact e_weak (hj40 h) ⟨Or.inr rfl, Or.inr rfl, Or.inr rfl, Or.inr rfl, Or.inl rfl, Or.inr rfl, trivial⟩

set_option maxRecDepth 20000 in
set_option maxHeartbeats 4000000 in
theorem w_X12_fix_L87 {N : Nat}  {s20 : St} {k21 : Int32 → Int32 → Option (Int32 × St)} {r : Int32} {sr : St}  (hk21 : ∀ (v22 : Int32) (v23 : Int32), k21 v22 v23 = some (r, sr) → E mX12_fix 2 (some (.int r), sr) 172 [some (.ref 206), some (.int v22), some (.int v23), none, none, none] [] s20) : ∀ (n24 : Nat) (v17 : Int32) (v18 : Int32) (v19 : Int32), f_X12_fix_L87 N s20 k21 n24 v17 v18 v19 = some (r, sr) → E mX12_fix 2 (some (.int r), sr) 87 [some (.ref 206), some (.int v17), some (.int v18), some (.int v19), none, none] [] s20 := by
  intro n24
  induction n24 with
  | zero =>
    intro v17 v18 v19 h
    rw [f_X12_fix_L87] at h; cases h
  | succ n24 ih25 =>
    intro v17 v18 v19 h
    rw [f_X12_fix_L87] at h
    refine e_iload_n qX12_fix_87 rfl ?_
    refine e_if_lt (tgt := 172) qX12_fix_88 rfl h (fun _ h => ?_) (fun _ h => ?_)
    · exact e_weak (hk21 _ _ h) ⟨Or.inr rfl, Or.inr rfl, Or.inr rfl, Or.inl rfl, Or.inl rfl, Or.inl rfl, trivial⟩
    refine e_iconst (nI 1) qX12_fix_91 rfl ?_
    refine e_istore (lv2 := [some (.ref 206), some (.int v17), some (.int v18), some (.int v19), some (.int (nI 1)), none]) qX12_fix_92 rfl rfl rfl ?_
    refine e_iconst (nI 0) qX12_fix_94 rfl ?_
    refine e_istore (lv2 := [some (.ref 206), some (.int v17), some (.int v18), some (.int v19), some (.int (nI 1)), some (.int (nI 0))]) qX12_fix_95 rfl rfl rfl ?_
    refine e_weak (w_X12_fix_L97 (fun v46 h => ?_) _ _ _ h) ⟨Or.inr rfl, Or.inr rfl, Or.inr rfl, Or.inr rfl, Or.inr rfl, Or.inr rfl, trivial⟩
    refine e_iload qX12_fix_153 rfl ?_
    refine jn_e (fun j => ∀ (v47 : Int32) (v48 : Int32), j v47 v48 = some (r, sr) → E mX12_fix 2 (some (.int r), sr) 166 [some (.ref 206), some (.int v47), some (.int v48), some (.int v19), none, none] [] s20) h ?_ (fun j49 hj49 h => ?_)
    · intro v47 v48 h
      refine vl_e h (fun h => ?_)
      obtain ⟨v50, ev50⟩ : ∃ y, v19 + (-1) = y := ⟨_, rfl⟩
      rw [ev50] at h
      refine e_iinc (-1) v50 (lv2 := [some (.ref 206), some (.int v47), some (.int v48), some (.int v50), none, none]) qX12_fix_166 rfl rfl rfl ev50 rfl ?_
      refine e_goto (tgt := 87) qX12_fix_169 rfl ?_
      exact e_weak (ih25 _ _ _ h) ⟨Or.inr rfl, Or.inr rfl, Or.inr rfl, Or.inr rfl, Or.inl rfl, Or.inl rfl, trivial⟩
    refine e_if_ne (tgt := 161) qX12_fix_155 rfl h (fun _ h => ?_) (fun _ h => ?_)
    · refine e_goto (tgt := 166) qX12_fix_158 rfl ?_
      exact e_weak (hj49 _ _ h) ⟨Or.inr rfl, Or.inr rfl, Or.inr rfl, Or.inr rfl, Or.inl rfl, Or.inl rfl, trivial⟩
    refine vl_e h (fun h => ?_)
    obtain ⟨v51, ev51⟩ : ∃ y, v17 + (nI 1) = y := ⟨_, rfl⟩
    rw [ev51] at h
    refine e_iinc (nI 1) v51 (lv2 := [some (.ref 206), some (.int v51), some (.int v18), some (.int v19), some (.int v46), none]) qX12_fix_161 rfl rfl rfl ev51 rfl ?_
    refine e_iload_n qX12_fix_164 rfl ?_
    refine e_istore_n (lv2 := [some (.ref 206), some (.int v51), some (.int v19), some (.int v19), some (.int v46), none]) qX12_fix_165 rfl rfl rfl ?_
    exact e_weak (hj49 _ _ h) ⟨Or.inr rfl, Or.inr rfl, Or.inr rfl, Or.inr rfl, Or.inl rfl, Or.inl rfl, trivial⟩

set_option maxRecDepth 20000 in
set_option maxHeartbeats 4000000 in
theorem w_X12_fix {N : Nat}  {s0 : St} {r : Int32} {sr : St} (h : f_X12_fix N  s0 = some (r, sr)) : Ct mX12_fix 2 [.ref 206] s0 (some (.int r), sr) := by
  refine Ct.ofE (by decide +kernel) rfl ?_
  show E mX12_fix 2 (some (.int r), sr) 0 [some (.ref 206), none, none, none, none, none] [] s0
  unfold f_X12_fix at h
  refine e_aload_n qX12_fix_0 rfl ?_
  refine e_iconst (nI 0) qX12_fix_1 rfl ?_
  refine e_puti qX12_fix_2 fp_X12_1 shq_206 kdq_11_0 h (fun s1 h => ?_)
  refine e_aload_n qX12_fix_5 rfl ?_
  refine e_sipush (nI 940) qX12_fix_6 rfl ?_
  obtain ⟨s2, hc, h⟩ := bp_e h
  refine e_cVv1 qX12_fix_9 mv_X12_246 shq_206 rfl rfl (w_X12_taken hc) ?_
  refine e_aload_n qX12_fix_12 rfl ?_
  refine e_geti qX12_fix_13 fl_X12_18 shq_206 kdq_11_3 h (fun v3 h => ?_)
  refine e_iconst (nI 2) qX12_fix_16 rfl ?_
  refine e_bipush (nI 12) qX12_fix_17 rfl ?_
  obtain ⟨v4, hc, h⟩ := bp_e h
  refine e_cSi3 qX12_fix_19 ms_X12_186 rfl rfl (w_X12_isIn hc) ?_
  refine e_if_eq (tgt := 35) qX12_fix_22 rfl h (fun _ h => ?_) (fun _ h => ?_)
  · refine e_iconst (-1) qX12_fix_35 rfl ?_
    exact e_iret qX12_fix_36 rfl (ret_i h)
  refine e_aload_n qX12_fix_25 rfl ?_
  refine e_geti qX12_fix_26 fl_X12_18 shq_206 kdq_11_3 h (fun v5 h => ?_)
  refine e_iconst (nI 2) qX12_fix_29 rfl ?_
  refine e_irem qX12_fix_30 h (fun v6 h => ?_)
  refine e_iconst (nI 1) qX12_fix_31 rfl ?_
  refine e_icmp_ne (tgt := 37) qX12_fix_32 rfl h (fun _ h => ?_) (fun _ h => ?_)
  · refine e_iconst (-1) qX12_fix_35 rfl ?_
    exact e_iret qX12_fix_36 rfl (ret_i h)
  refine e_iconst (nI 0) qX12_fix_37 rfl ?_
  refine e_istore_n (lv2 := [some (.ref 206), some (.int (nI 0)), none, none, none, none]) qX12_fix_38 rfl rfl rfl ?_
  refine e_weak (w_X12_fix_L39 (fun h => ?_) _ _ h) ⟨Or.inr rfl, Or.inr rfl, Or.inl rfl, Or.inl rfl, Or.inl rfl, Or.inl rfl, trivial⟩
  refine e_iconst (nI 0) qX12_fix_79 rfl ?_
  refine e_istore_n (lv2 := [some (.ref 206), some (.int (nI 0)), none, none, none, none]) qX12_fix_80 rfl rfl rfl ?_
  refine e_iconst (nI 0) qX12_fix_81 rfl ?_
  refine e_istore_n (lv2 := [some (.ref 206), some (.int (nI 0)), some (.int (nI 0)), none, none, none]) qX12_fix_82 rfl rfl rfl ?_
  refine e_sipush (nI 399) qX12_fix_83 rfl ?_
  refine e_istore_n (lv2 := [some (.ref 206), some (.int (nI 0)), some (.int (nI 0)), some (.int (nI 399)), none, none]) qX12_fix_86 rfl rfl rfl ?_
  refine e_weak (w_X12_fix_L87 (fun v52 v53 h => ?_) _ _ _ _ h) ⟨Or.inr rfl, Or.inr rfl, Or.inr rfl, Or.inr rfl, Or.inl rfl, Or.inl rfl, trivial⟩
  refine e_iload_n qX12_fix_172 rfl ?_
  refine e_if_ne (tgt := 178) qX12_fix_173 rfl h (fun _ h => ?_) (fun _ h => ?_)
  · refine e_iconst (nI 0) qX12_fix_176 rfl ?_
    exact e_iret qX12_fix_177 rfl (ret_i h)
  refine e_aload_n qX12_fix_178 rfl ?_
  refine e_iconst (nI 1) qX12_fix_179 rfl ?_
  refine e_putz qX12_fix_180 fp_X12_389 shq_206 kdq_11_36 (by decide) h (fun s54 h => ?_)
  refine e_aload_n qX12_fix_183 rfl ?_
  refine e_iload_n qX12_fix_184 rfl ?_
  refine e_puti qX12_fix_185 fp_X12_392 shq_206 kdq_11_34 h (fun s55 h => ?_)
  refine e_iload_n qX12_fix_188 rfl ?_
  exact e_iret qX12_fix_189 rfl (ret_i h)

def f_X12_fixAt  (s0 : St) : Option (Int32 × St) :=
  vl (sI s0 206 0 (nI 0)) fun s1 =>
  vl (s1.1 206 36) fun v2 =>
  if v2 = 0 then
    some ((-1), s1)
  else
  vl (s1.1 206 34) fun v3 =>
  some (v3, s1)

theorem qX12_fixAt_0 : Dc mX12_fixAt 0 (.aload_n 0) 1 1 := ⟨by decide +kernel, rfl⟩
theorem qX12_fixAt_1 : Dc mX12_fixAt 1 (.iconst 0) 1 2 := ⟨by decide +kernel, rfl⟩
theorem qX12_fixAt_2 : Dc mX12_fixAt 2 (.putfield 1) 3 5 := ⟨by decide +kernel, rfl⟩
theorem qX12_fixAt_5 : Dc mX12_fixAt 5 (.aload_n 0) 1 6 := ⟨by decide +kernel, rfl⟩
theorem qX12_fixAt_6 : Dc mX12_fixAt 6 (.getfield 389) 3 9 := ⟨by decide +kernel, rfl⟩
theorem qX12_fixAt_9 : Dc mX12_fixAt 9 (.ifCond .eq 10) 3 12 := ⟨by decide +kernel, rfl⟩
theorem qX12_fixAt_12 : Dc mX12_fixAt 12 (.aload_n 0) 1 13 := ⟨by decide +kernel, rfl⟩
theorem qX12_fixAt_13 : Dc mX12_fixAt 13 (.getfield 392) 3 16 := ⟨by decide +kernel, rfl⟩
theorem qX12_fixAt_16 : Dc mX12_fixAt 16 (.goto 4) 3 19 := ⟨by decide +kernel, rfl⟩
theorem qX12_fixAt_19 : Dc mX12_fixAt 19 (.iconst (-1)) 1 20 := ⟨by decide +kernel, rfl⟩
theorem qX12_fixAt_20 : Dc mX12_fixAt 20 (.ireturn) 1 21 := ⟨by decide +kernel, rfl⟩

set_option maxRecDepth 20000 in
set_option maxHeartbeats 4000000 in
theorem w_X12_fixAt  {s0 : St} {r : Int32} {sr : St} (h : f_X12_fixAt  s0 = some (r, sr)) : Ct mX12_fixAt 0 [.ref 206] s0 (some (.int r), sr) := by
  refine Ct.ofE (by decide +kernel) rfl ?_
  show E mX12_fixAt 0 (some (.int r), sr) 0 [some (.ref 206)] [] s0
  unfold f_X12_fixAt at h
  refine e_aload_n qX12_fixAt_0 rfl ?_
  refine e_iconst (nI 0) qX12_fixAt_1 rfl ?_
  refine e_puti qX12_fixAt_2 fp_X12_1 shq_206 kdq_11_0 h (fun s1 h => ?_)
  refine e_aload_n qX12_fixAt_5 rfl ?_
  refine e_geti qX12_fixAt_6 fl_X12_389 shq_206 kdq_11_36 h (fun v2 h => ?_)
  refine e_if_eq (tgt := 19) qX12_fixAt_9 rfl h (fun _ h => ?_) (fun _ h => ?_)
  · refine e_iconst (-1) qX12_fixAt_19 rfl ?_
    exact e_iret qX12_fixAt_20 rfl (ret_i h)
  refine e_aload_n qX12_fixAt_12 rfl ?_
  refine e_geti qX12_fixAt_13 fl_X12_392 shq_206 kdq_11_34 h (fun v3 h => ?_)
  refine e_goto (tgt := 20) qX12_fixAt_16 rfl ?_
  exact e_iret qX12_fixAt_20 rfl (ret_i h)

def f_X12_most_L22 (N : Nat) (s6 : St) : Nat → Int32 → Int32 → Int32 → Option (Int32 × St)
  | 0, _, _, _ => none
  | n7 + 1, v3, v4, v5 =>
    if (nI 400) ≤ v5 then
      some (v3, s6)
    else
    rm_ v5 (nI 20) fun v9 =>
    dv v5 (nI 20) fun v10 =>
    ald (s6.1 208) 359 (nI 149) fun v11 =>
    bp (f_X12_visibleFrom N v9 v10 v11 s6) fun v12 =>
    bp (f_X12_bits N v12 s6) fun v13 =>
    jn (fun (v14 : Int32) (v15 : Int32) =>
      vl (v5 + (nI 1)) fun v17 =>
      f_X12_most_L22 N s6 n7 v14 v15 v17) fun j16 =>
    if v4 < v13 then
      j16 v5 v13
    else
    j16 v3 v4

def f_X12_most (N : Nat)  (s0 : St) : Option (Int32 × St) :=
  vl (sI s0 206 0 (nI 0)) fun s1 =>
  ald (s1.1 208) 359 (nI 0) fun v2 =>
  if v2 = 0 then
    some ((-1), s1)
  else
  f_X12_most_L22 N s1 N (nI 0) (-1) (nI 0)

theorem qX12_most_0 : Dc mX12_most 0 (.aload_n 0) 1 1 := ⟨by decide +kernel, rfl⟩
theorem qX12_most_1 : Dc mX12_most 1 (.iconst 0) 1 2 := ⟨by decide +kernel, rfl⟩
theorem qX12_most_2 : Dc mX12_most 2 (.putfield 1) 3 5 := ⟨by decide +kernel, rfl⟩
theorem qX12_most_5 : Dc mX12_most 5 (.aload_n 0) 1 6 := ⟨by decide +kernel, rfl⟩
theorem qX12_most_6 : Dc mX12_most 6 (.getfield 33) 3 9 := ⟨by decide +kernel, rfl⟩
theorem qX12_most_9 : Dc mX12_most 9 (.iconst 0) 1 10 := ⟨by decide +kernel, rfl⟩
theorem qX12_most_10 : Dc mX12_most 10 (.iaload) 1 11 := ⟨by decide +kernel, rfl⟩
theorem qX12_most_11 : Dc mX12_most 11 (.ifCond .ne 5) 3 14 := ⟨by decide +kernel, rfl⟩
theorem qX12_most_14 : Dc mX12_most 14 (.iconst (-1)) 1 15 := ⟨by decide +kernel, rfl⟩
theorem qX12_most_15 : Dc mX12_most 15 (.ireturn) 1 16 := ⟨by decide +kernel, rfl⟩
theorem qX12_most_16 : Dc mX12_most 16 (.iconst 0) 1 17 := ⟨by decide +kernel, rfl⟩
theorem qX12_most_17 : Dc mX12_most 17 (.istore_n 1) 1 18 := ⟨by decide +kernel, rfl⟩
theorem qX12_most_18 : Dc mX12_most 18 (.iconst (-1)) 1 19 := ⟨by decide +kernel, rfl⟩
theorem qX12_most_19 : Dc mX12_most 19 (.istore_n 2) 1 20 := ⟨by decide +kernel, rfl⟩
theorem qX12_most_20 : Dc mX12_most 20 (.iconst 0) 1 21 := ⟨by decide +kernel, rfl⟩
theorem qX12_most_21 : Dc mX12_most 21 (.istore_n 3) 1 22 := ⟨by decide +kernel, rfl⟩
theorem qX12_most_22 : Dc mX12_most 22 (.iload_n 3) 1 23 := ⟨by decide +kernel, rfl⟩
theorem qX12_most_23 : Dc mX12_most 23 (.sipush 400) 3 26 := ⟨by decide +kernel, rfl⟩
theorem qX12_most_26 : Dc mX12_most 26 (.if_icmp .ge 48) 3 29 := ⟨by decide +kernel, rfl⟩
theorem qX12_most_29 : Dc mX12_most 29 (.aload_n 0) 1 30 := ⟨by decide +kernel, rfl⟩
theorem qX12_most_30 : Dc mX12_most 30 (.iload_n 3) 1 31 := ⟨by decide +kernel, rfl⟩
theorem qX12_most_31 : Dc mX12_most 31 (.bipush 20) 2 33 := ⟨by decide +kernel, rfl⟩
theorem qX12_most_33 : Dc mX12_most 33 (.irem) 1 34 := ⟨by decide +kernel, rfl⟩
theorem qX12_most_34 : Dc mX12_most 34 (.iload_n 3) 1 35 := ⟨by decide +kernel, rfl⟩
theorem qX12_most_35 : Dc mX12_most 35 (.bipush 20) 2 37 := ⟨by decide +kernel, rfl⟩
theorem qX12_most_37 : Dc mX12_most 37 (.idiv) 1 38 := ⟨by decide +kernel, rfl⟩
theorem qX12_most_38 : Dc mX12_most 38 (.aload_n 0) 1 39 := ⟨by decide +kernel, rfl⟩
theorem qX12_most_39 : Dc mX12_most 39 (.getfield 33) 3 42 := ⟨by decide +kernel, rfl⟩
theorem qX12_most_42 : Dc mX12_most 42 (.sipush 149) 3 45 := ⟨by decide +kernel, rfl⟩
theorem qX12_most_45 : Dc mX12_most 45 (.iaload) 1 46 := ⟨by decide +kernel, rfl⟩
theorem qX12_most_46 : Dc mX12_most 46 (.invokevirtual 287) 3 49 := ⟨by decide +kernel, rfl⟩
theorem qX12_most_49 : Dc mX12_most 49 (.invokestatic 347) 3 52 := ⟨by decide +kernel, rfl⟩
theorem qX12_most_52 : Dc mX12_most 52 (.istore 4) 2 54 := ⟨by decide +kernel, rfl⟩
theorem qX12_most_54 : Dc mX12_most 54 (.iload 4) 2 56 := ⟨by decide +kernel, rfl⟩
theorem qX12_most_56 : Dc mX12_most 56 (.iload_n 2) 1 57 := ⟨by decide +kernel, rfl⟩
theorem qX12_most_57 : Dc mX12_most 57 (.if_icmp .gt 6) 3 60 := ⟨by decide +kernel, rfl⟩
theorem qX12_most_60 : Dc mX12_most 60 (.goto 8) 3 63 := ⟨by decide +kernel, rfl⟩
theorem qX12_most_63 : Dc mX12_most 63 (.iload 4) 2 65 := ⟨by decide +kernel, rfl⟩
theorem qX12_most_65 : Dc mX12_most 65 (.istore_n 2) 1 66 := ⟨by decide +kernel, rfl⟩
theorem qX12_most_66 : Dc mX12_most 66 (.iload_n 3) 1 67 := ⟨by decide +kernel, rfl⟩
theorem qX12_most_67 : Dc mX12_most 67 (.istore_n 1) 1 68 := ⟨by decide +kernel, rfl⟩
theorem qX12_most_68 : Dc mX12_most 68 (.iinc 3 1) 3 71 := ⟨by decide +kernel, rfl⟩
theorem qX12_most_71 : Dc mX12_most 71 (.goto (-49)) 3 74 := ⟨by decide +kernel, rfl⟩
theorem qX12_most_74 : Dc mX12_most 74 (.iload_n 1) 1 75 := ⟨by decide +kernel, rfl⟩
theorem qX12_most_75 : Dc mX12_most 75 (.ireturn) 1 76 := ⟨by decide +kernel, rfl⟩

set_option maxRecDepth 20000 in
set_option maxHeartbeats 4000000 in
theorem w_X12_most_L22 {N : Nat}  {s6 : St}  {r : Int32} {sr : St}   : ∀ (n7 : Nat) (v3 : Int32) (v4 : Int32) (v5 : Int32), f_X12_most_L22 N s6 n7 v3 v4 v5 = some (r, sr) → E mX12_most 3 (some (.int r), sr) 22 [some (.ref 206), some (.int v3), some (.int v4), some (.int v5), none] [] s6 := by
  intro n7
  induction n7 with
  | zero =>
    intro v3 v4 v5 h
    rw [f_X12_most_L22] at h; cases h
  | succ n7 ih8 =>
    intro v3 v4 v5 h
    rw [f_X12_most_L22] at h
    refine e_iload_n qX12_most_22 rfl ?_
    refine e_sipush (nI 400) qX12_most_23 rfl ?_
    refine e_icmp_ge (tgt := 74) qX12_most_26 rfl h (fun _ h => ?_) (fun _ h => ?_)
    · refine e_iload_n qX12_most_74 rfl ?_
      exact e_iret qX12_most_75 rfl (ret_i h)
    refine e_aload_n qX12_most_29 rfl ?_
    refine e_iload_n qX12_most_30 rfl ?_
    refine e_bipush (nI 20) qX12_most_31 rfl ?_
    refine e_irem qX12_most_33 h (fun v9 h => ?_)
    refine e_iload_n qX12_most_34 rfl ?_
    refine e_bipush (nI 20) qX12_most_35 rfl ?_
    refine e_idiv qX12_most_37 h (fun v10 h => ?_)
    refine e_aload_n qX12_most_38 rfl ?_
    refine e_getr 208 qX12_most_39 fl_X12_33 shq_206 kdq_11_6 rrq_206_6 ?_
    refine e_sipush (nI 149) qX12_most_42 rfl ?_
    refine e_iald qX12_most_45 shq_208 lnq_208 h (fun v11 h => ?_)
    obtain ⟨v12, hc, h⟩ := bp_e h
    refine e_cVi3 qX12_most_46 mv_X12_287 shq_206 rfl rfl (w_X12_visibleFrom hc) ?_
    obtain ⟨v13, hc, h⟩ := bp_e h
    refine e_cSi1 qX12_most_49 ms_X12_347 rfl rfl (w_X12_bits hc) ?_
    refine e_istore (lv2 := [some (.ref 206), some (.int v3), some (.int v4), some (.int v5), some (.int v13)]) qX12_most_52 rfl rfl rfl ?_
    refine e_iload qX12_most_54 rfl ?_
    refine e_iload_n qX12_most_56 rfl ?_
    refine jn_e (fun j => ∀ (v14 : Int32) (v15 : Int32), j v14 v15 = some (r, sr) → E mX12_most 3 (some (.int r), sr) 68 [some (.ref 206), some (.int v14), some (.int v15), some (.int v5), none] [] s6) h ?_ (fun j16 hj16 h => ?_)
    · intro v14 v15 h
      refine vl_e h (fun h => ?_)
      obtain ⟨v17, ev17⟩ : ∃ y, v5 + (nI 1) = y := ⟨_, rfl⟩
      rw [ev17] at h
      refine e_iinc (nI 1) v17 (lv2 := [some (.ref 206), some (.int v14), some (.int v15), some (.int v17), none]) qX12_most_68 rfl rfl rfl ev17 rfl ?_
      refine e_goto (tgt := 22) qX12_most_71 rfl ?_
      exact e_weak (ih8 _ _ _ h) ⟨Or.inr rfl, Or.inr rfl, Or.inr rfl, Or.inr rfl, Or.inl rfl, trivial⟩
    refine e_icmp_gt (tgt := 63) qX12_most_57 rfl h (fun _ h => ?_) (fun _ h => ?_)
    · refine e_iload qX12_most_63 rfl ?_
      refine e_istore_n (lv2 := [some (.ref 206), some (.int v3), some (.int v13), some (.int v5), some (.int v13)]) qX12_most_65 rfl rfl rfl ?_
      refine e_iload_n qX12_most_66 rfl ?_
      refine e_istore_n (lv2 := [some (.ref 206), some (.int v5), some (.int v13), some (.int v5), some (.int v13)]) qX12_most_67 rfl rfl rfl ?_
      exact e_weak (hj16 _ _ h) ⟨Or.inr rfl, Or.inr rfl, Or.inr rfl, Or.inr rfl, Or.inl rfl, trivial⟩
    refine e_goto (tgt := 68) qX12_most_60 rfl ?_
    exact e_weak (hj16 _ _ h) ⟨Or.inr rfl, Or.inr rfl, Or.inr rfl, Or.inr rfl, Or.inl rfl, trivial⟩

set_option maxRecDepth 20000 in
set_option maxHeartbeats 4000000 in
theorem w_X12_most {N : Nat}  {s0 : St} {r : Int32} {sr : St} (h : f_X12_most N  s0 = some (r, sr)) : Ct mX12_most 3 [.ref 206] s0 (some (.int r), sr) := by
  refine Ct.ofE (by decide +kernel) rfl ?_
  show E mX12_most 3 (some (.int r), sr) 0 [some (.ref 206), none, none, none, none] [] s0
  unfold f_X12_most at h
  refine e_aload_n qX12_most_0 rfl ?_
  refine e_iconst (nI 0) qX12_most_1 rfl ?_
  refine e_puti qX12_most_2 fp_X12_1 shq_206 kdq_11_0 h (fun s1 h => ?_)
  refine e_aload_n qX12_most_5 rfl ?_
  refine e_getr 208 qX12_most_6 fl_X12_33 shq_206 kdq_11_6 rrq_206_6 ?_
  refine e_iconst (nI 0) qX12_most_9 rfl ?_
  refine e_iald qX12_most_10 shq_208 lnq_208 h (fun v2 h => ?_)
  refine e_if_ne (tgt := 16) qX12_most_11 rfl h (fun _ h => ?_) (fun _ h => ?_)
  · refine e_iconst (-1) qX12_most_14 rfl ?_
    exact e_iret qX12_most_15 rfl (ret_i h)
  refine e_iconst (nI 0) qX12_most_16 rfl ?_
  refine e_istore_n (lv2 := [some (.ref 206), some (.int (nI 0)), none, none, none]) qX12_most_17 rfl rfl rfl ?_
  refine e_iconst (-1) qX12_most_18 rfl ?_
  refine e_istore_n (lv2 := [some (.ref 206), some (.int (nI 0)), some (.int (-1)), none, none]) qX12_most_19 rfl rfl rfl ?_
  refine e_iconst (nI 0) qX12_most_20 rfl ?_
  refine e_istore_n (lv2 := [some (.ref 206), some (.int (nI 0)), some (.int (-1)), some (.int (nI 0)), none]) qX12_most_21 rfl rfl rfl ?_
  exact e_weak (w_X12_most_L22  _ _ _ _ h) ⟨Or.inr rfl, Or.inr rfl, Or.inr rfl, Or.inr rfl, Or.inl rfl, trivial⟩

def f_X12_burn_L49 (N : Nat) (c5 : Int32) (s8 : St) : Nat → Int32 → Int32 → Option (Int32 × St)
  | 0, _, _ => none
  | n9 + 1, v6, v7 =>
    if v6 ≤ 0 then
      some (v7, s8)
    else
    bp (f_X12_placeIn N c5 v7 s8) fun v11 =>
    bp (f_X12_isOn N c5 v11 s8) fun v12 =>
    jn (fun (v13 : Int32) =>
      vl (v6 - v13) fun v15 =>
      vl (v7 + (nI 1)) fun v16 =>
      f_X12_burn_L49 N c5 s8 n9 v15 v16) fun j14 =>
    if v12 = 0 then
      j14 (nI 0)
    else
    j14 (nI 1)

def f_X12_burn (N : Nat) (x1 : Int32) (s0 : St) : Option (Int32 × St) :=
  vl (sI s0 206 0 (nI 0)) fun s1 =>
  bp (f_X12_isLight x1 s1) fun v2 =>
  if v2 = 0 then
    some ((-1), s1)
  else
  ald (s1.1 208) 359 ((nI 150) + x1) fun v3 =>
  jn (f_X12_burn_L49 N x1 s1 N v3 (nI 0)) fun j4 =>
  if v3 ≤ 0 then
    j4
  else
  ald (s1.1 208) 359 (nI 148) fun v17 =>
  bp (f_X12_bitOf v17 x1 s1) fun v18 =>
  if v18 = 0 then
    j4
  else
  some ((-1), s1)

theorem qX12_burn_0 : Dc mX12_burn 0 (.aload_n 0) 1 1 := ⟨by decide +kernel, rfl⟩
theorem qX12_burn_1 : Dc mX12_burn 1 (.iconst 0) 1 2 := ⟨by decide +kernel, rfl⟩
theorem qX12_burn_2 : Dc mX12_burn 2 (.putfield 1) 3 5 := ⟨by decide +kernel, rfl⟩
theorem qX12_burn_5 : Dc mX12_burn 5 (.aload_n 0) 1 6 := ⟨by decide +kernel, rfl⟩
theorem qX12_burn_6 : Dc mX12_burn 6 (.iload_n 1) 1 7 := ⟨by decide +kernel, rfl⟩
theorem qX12_burn_7 : Dc mX12_burn 7 (.invokevirtual 294) 3 10 := ⟨by decide +kernel, rfl⟩
theorem qX12_burn_10 : Dc mX12_burn 10 (.ifCond .ne 5) 3 13 := ⟨by decide +kernel, rfl⟩
theorem qX12_burn_13 : Dc mX12_burn 13 (.iconst (-1)) 1 14 := ⟨by decide +kernel, rfl⟩
theorem qX12_burn_14 : Dc mX12_burn 14 (.ireturn) 1 15 := ⟨by decide +kernel, rfl⟩
theorem qX12_burn_15 : Dc mX12_burn 15 (.aload_n 0) 1 16 := ⟨by decide +kernel, rfl⟩
theorem qX12_burn_16 : Dc mX12_burn 16 (.getfield 33) 3 19 := ⟨by decide +kernel, rfl⟩
theorem qX12_burn_19 : Dc mX12_burn 19 (.sipush 150) 3 22 := ⟨by decide +kernel, rfl⟩
theorem qX12_burn_22 : Dc mX12_burn 22 (.iload_n 1) 1 23 := ⟨by decide +kernel, rfl⟩
theorem qX12_burn_23 : Dc mX12_burn 23 (.iadd) 1 24 := ⟨by decide +kernel, rfl⟩
theorem qX12_burn_24 : Dc mX12_burn 24 (.iaload) 1 25 := ⟨by decide +kernel, rfl⟩
theorem qX12_burn_25 : Dc mX12_burn 25 (.istore_n 2) 1 26 := ⟨by decide +kernel, rfl⟩
theorem qX12_burn_26 : Dc mX12_burn 26 (.iload_n 2) 1 27 := ⟨by decide +kernel, rfl⟩
theorem qX12_burn_27 : Dc mX12_burn 27 (.ifCond .le 20) 3 30 := ⟨by decide +kernel, rfl⟩
theorem qX12_burn_30 : Dc mX12_burn 30 (.aload_n 0) 1 31 := ⟨by decide +kernel, rfl⟩
theorem qX12_burn_31 : Dc mX12_burn 31 (.getfield 33) 3 34 := ⟨by decide +kernel, rfl⟩
theorem qX12_burn_34 : Dc mX12_burn 34 (.sipush 148) 3 37 := ⟨by decide +kernel, rfl⟩
theorem qX12_burn_37 : Dc mX12_burn 37 (.iaload) 1 38 := ⟨by decide +kernel, rfl⟩
theorem qX12_burn_38 : Dc mX12_burn 38 (.iload_n 1) 1 39 := ⟨by decide +kernel, rfl⟩
theorem qX12_burn_39 : Dc mX12_burn 39 (.invokestatic 240) 3 42 := ⟨by decide +kernel, rfl⟩
theorem qX12_burn_42 : Dc mX12_burn 42 (.ifCond .eq 5) 3 45 := ⟨by decide +kernel, rfl⟩
theorem qX12_burn_45 : Dc mX12_burn 45 (.iconst (-1)) 1 46 := ⟨by decide +kernel, rfl⟩
theorem qX12_burn_46 : Dc mX12_burn 46 (.ireturn) 1 47 := ⟨by decide +kernel, rfl⟩
theorem qX12_burn_47 : Dc mX12_burn 47 (.iconst 0) 1 48 := ⟨by decide +kernel, rfl⟩
theorem qX12_burn_48 : Dc mX12_burn 48 (.istore_n 3) 1 49 := ⟨by decide +kernel, rfl⟩
theorem qX12_burn_49 : Dc mX12_burn 49 (.iload_n 2) 1 50 := ⟨by decide +kernel, rfl⟩
theorem qX12_burn_50 : Dc mX12_burn 50 (.ifCond .le 31) 3 53 := ⟨by decide +kernel, rfl⟩
theorem qX12_burn_53 : Dc mX12_burn 53 (.iload_n 2) 1 54 := ⟨by decide +kernel, rfl⟩
theorem qX12_burn_54 : Dc mX12_burn 54 (.aload_n 0) 1 55 := ⟨by decide +kernel, rfl⟩
theorem qX12_burn_55 : Dc mX12_burn 55 (.iload_n 1) 1 56 := ⟨by decide +kernel, rfl⟩
theorem qX12_burn_56 : Dc mX12_burn 56 (.aload_n 0) 1 57 := ⟨by decide +kernel, rfl⟩
theorem qX12_burn_57 : Dc mX12_burn 57 (.iload_n 1) 1 58 := ⟨by decide +kernel, rfl⟩
theorem qX12_burn_58 : Dc mX12_burn 58 (.iload_n 3) 1 59 := ⟨by decide +kernel, rfl⟩
theorem qX12_burn_59 : Dc mX12_burn 59 (.invokevirtual 268) 3 62 := ⟨by decide +kernel, rfl⟩
theorem qX12_burn_62 : Dc mX12_burn 62 (.invokevirtual 265) 3 65 := ⟨by decide +kernel, rfl⟩
theorem qX12_burn_65 : Dc mX12_burn 65 (.ifCond .eq 7) 3 68 := ⟨by decide +kernel, rfl⟩
theorem qX12_burn_68 : Dc mX12_burn 68 (.iconst 1) 1 69 := ⟨by decide +kernel, rfl⟩
theorem qX12_burn_69 : Dc mX12_burn 69 (.goto 4) 3 72 := ⟨by decide +kernel, rfl⟩
theorem qX12_burn_72 : Dc mX12_burn 72 (.iconst 0) 1 73 := ⟨by decide +kernel, rfl⟩
theorem qX12_burn_73 : Dc mX12_burn 73 (.isub) 1 74 := ⟨by decide +kernel, rfl⟩
theorem qX12_burn_74 : Dc mX12_burn 74 (.istore_n 2) 1 75 := ⟨by decide +kernel, rfl⟩
theorem qX12_burn_75 : Dc mX12_burn 75 (.iinc 3 1) 3 78 := ⟨by decide +kernel, rfl⟩
theorem qX12_burn_78 : Dc mX12_burn 78 (.goto (-29)) 3 81 := ⟨by decide +kernel, rfl⟩
theorem qX12_burn_81 : Dc mX12_burn 81 (.iload_n 3) 1 82 := ⟨by decide +kernel, rfl⟩
theorem qX12_burn_82 : Dc mX12_burn 82 (.ireturn) 1 83 := ⟨by decide +kernel, rfl⟩

set_option maxRecDepth 20000 in
set_option maxHeartbeats 4000000 in
theorem w_X12_burn_L49 {N : Nat} {c5 : Int32} {s8 : St}  {r : Int32} {sr : St}   : ∀ (n9 : Nat) (v6 : Int32) (v7 : Int32), f_X12_burn_L49 N c5 s8 n9 v6 v7 = some (r, sr) → E mX12_burn 2 (some (.int r), sr) 49 [some (.ref 206), some (.int c5), some (.int v6), some (.int v7)] [] s8 := by
  intro n9
  induction n9 with
  | zero =>
    intro v6 v7 h
    rw [f_X12_burn_L49] at h; cases h
  | succ n9 ih10 =>
    intro v6 v7 h
    rw [f_X12_burn_L49] at h
    refine e_iload_n qX12_burn_49 rfl ?_
    refine e_if_le (tgt := 81) qX12_burn_50 rfl h (fun _ h => ?_) (fun _ h => ?_)
    · refine e_iload_n qX12_burn_81 rfl ?_
      exact e_iret qX12_burn_82 rfl (ret_i h)
    refine e_iload_n qX12_burn_53 rfl ?_
    refine e_aload_n qX12_burn_54 rfl ?_
    refine e_iload_n qX12_burn_55 rfl ?_
    refine e_aload_n qX12_burn_56 rfl ?_
    refine e_iload_n qX12_burn_57 rfl ?_
    refine e_iload_n qX12_burn_58 rfl ?_
    obtain ⟨v11, hc, h⟩ := bp_e h
    refine e_cVi2 qX12_burn_59 mv_X12_268 shq_206 rfl rfl (w_X12_placeIn hc) ?_
    obtain ⟨v12, hc, h⟩ := bp_e h
    refine e_cVi2 qX12_burn_62 mv_X12_265 shq_206 rfl rfl (w_X12_isOn hc) ?_
    refine jn_e (fun j => ∀ (v13 : Int32), j v13 = some (r, sr) → E mX12_burn 2 (some (.int r), sr) 73 [some (.ref 206), some (.int c5), none, some (.int v7)] [.int v13, .int v6] s8) h ?_ (fun j14 hj14 h => ?_)
    · intro v13 h
      refine e_isub qX12_burn_73 ?_
      refine vl_e h (fun h => ?_)
      generalize (v6 - v13) = v15 at h ⊢
      refine e_istore_n (lv2 := [some (.ref 206), some (.int c5), some (.int v15), some (.int v7)]) qX12_burn_74 rfl rfl rfl ?_
      refine vl_e h (fun h => ?_)
      obtain ⟨v16, ev16⟩ : ∃ y, v7 + (nI 1) = y := ⟨_, rfl⟩
      rw [ev16] at h
      refine e_iinc (nI 1) v16 (lv2 := [some (.ref 206), some (.int c5), some (.int v15), some (.int v16)]) qX12_burn_75 rfl rfl rfl ev16 rfl ?_
      refine e_goto (tgt := 49) qX12_burn_78 rfl ?_
      exact e_weak (ih10 _ _ h) ⟨Or.inr rfl, Or.inr rfl, Or.inr rfl, Or.inr rfl, trivial⟩
    refine e_if_eq (tgt := 72) qX12_burn_65 rfl h (fun _ h => ?_) (fun _ h => ?_)
    · refine e_iconst (nI 0) qX12_burn_72 rfl ?_
      exact e_weak (hj14 _ h) ⟨Or.inr rfl, Or.inr rfl, Or.inl rfl, Or.inr rfl, trivial⟩
    refine e_iconst (nI 1) qX12_burn_68 rfl ?_
    refine e_goto (tgt := 73) qX12_burn_69 rfl ?_
    exact e_weak (hj14 _ h) ⟨Or.inr rfl, Or.inr rfl, Or.inl rfl, Or.inr rfl, trivial⟩

set_option maxRecDepth 20000 in
set_option maxHeartbeats 4000000 in
theorem w_X12_burn {N : Nat} {x1 : Int32} {s0 : St} {r : Int32} {sr : St} (h : f_X12_burn N x1 s0 = some (r, sr)) : Ct mX12_burn 2 [.ref 206, .int x1] s0 (some (.int r), sr) := by
  refine Ct.ofE (by decide +kernel) rfl ?_
  show E mX12_burn 2 (some (.int r), sr) 0 [some (.ref 206), some (.int x1), none, none] [] s0
  unfold f_X12_burn at h
  refine e_aload_n qX12_burn_0 rfl ?_
  refine e_iconst (nI 0) qX12_burn_1 rfl ?_
  refine e_puti qX12_burn_2 fp_X12_1 shq_206 kdq_11_0 h (fun s1 h => ?_)
  refine e_aload_n qX12_burn_5 rfl ?_
  refine e_iload_n qX12_burn_6 rfl ?_
  obtain ⟨v2, hc, h⟩ := bp_e h
  refine e_cVi1 qX12_burn_7 mv_X12_294 shq_206 rfl rfl (w_X12_isLight hc) ?_
  refine e_if_ne (tgt := 15) qX12_burn_10 rfl h (fun _ h => ?_) (fun _ h => ?_)
  · refine e_iconst (-1) qX12_burn_13 rfl ?_
    exact e_iret qX12_burn_14 rfl (ret_i h)
  refine e_aload_n qX12_burn_15 rfl ?_
  refine e_getr 208 qX12_burn_16 fl_X12_33 shq_206 kdq_11_6 rrq_206_6 ?_
  refine e_sipush (nI 150) qX12_burn_19 rfl ?_
  refine e_iload_n qX12_burn_22 rfl ?_
  refine e_iadd qX12_burn_23 ?_
  refine e_iald qX12_burn_24 shq_208 lnq_208 h (fun v3 h => ?_)
  refine e_istore_n (lv2 := [some (.ref 206), some (.int x1), some (.int v3), none]) qX12_burn_25 rfl rfl rfl ?_
  refine e_iload_n qX12_burn_26 rfl ?_
  refine jn_e (fun j => j = some (r, sr) → E mX12_burn 2 (some (.int r), sr) 47 [some (.ref 206), some (.int x1), some (.int v3), none] [] s1) h ?_ (fun j4 hj4 h => ?_)
  · intro h
    refine e_iconst (nI 0) qX12_burn_47 rfl ?_
    refine e_istore_n (lv2 := [some (.ref 206), some (.int x1), some (.int v3), some (.int (nI 0))]) qX12_burn_48 rfl rfl rfl ?_
    exact e_weak (w_X12_burn_L49  _ _ _ h) ⟨Or.inr rfl, Or.inr rfl, Or.inr rfl, Or.inr rfl, trivial⟩
  refine e_if_le (tgt := 47) qX12_burn_27 rfl h (fun _ h => ?_) (fun _ h => ?_)
  · exact e_weak (hj4 h) ⟨Or.inr rfl, Or.inr rfl, Or.inr rfl, Or.inl rfl, trivial⟩
  refine e_aload_n qX12_burn_30 rfl ?_
  refine e_getr 208 qX12_burn_31 fl_X12_33 shq_206 kdq_11_6 rrq_206_6 ?_
  refine e_sipush (nI 148) qX12_burn_34 rfl ?_
  refine e_iald qX12_burn_37 shq_208 lnq_208 h (fun v17 h => ?_)
  refine e_iload_n qX12_burn_38 rfl ?_
  obtain ⟨v18, hc, h⟩ := bp_e h
  refine e_cSi2 qX12_burn_39 ms_X12_240 rfl rfl (w_X12_bitOf hc) ?_
  refine e_if_eq (tgt := 47) qX12_burn_42 rfl h (fun _ h => ?_) (fun _ h => ?_)
  · exact e_weak (hj4 h) ⟨Or.inr rfl, Or.inr rfl, Or.inr rfl, Or.inl rfl, trivial⟩
  refine e_iconst (-1) qX12_burn_45 rfl ?_
  exact e_iret qX12_burn_46 rfl (ret_i h)

def f_X12_waits_L23 (N : Nat) (c4 : Int32) (k8 : Int32 → St → Option (Int32 × St)) : Nat → Int32 → Int32 → St → Option (Int32 × St)
  | 0, _, _, _ => none
  | n11 + 1, v5, v6, s7 =>
    if (nI 600) < v6 then
      k8 v5 s7
    else
    if 0 ≤ v5 then
      k8 v5 s7
    else
    bp (f_X12_seenBy N c4 s7) fun v13 =>
    jn (fun (v14 : Int32) =>
      bp (f_X12_second N s7) fun s16 =>
      vl (v6 + (nI 1)) fun v17 =>
      f_X12_waits_L23 N c4 k8 n11 v14 v17 s16) fun j15 =>
    if v13 = 0 then
      j15 v5
    else
    j15 v6

def f_X12_waits (N : Nat) (x1 : Int32) (s0 : St) : Option (Int32 × St) :=
  vl (sI s0 206 0 (nI 0)) fun s1 =>
  bp (f_X12_isShip x1 s1) fun v2 =>
  if v2 = 0 then
    some ((-1), s1)
  else
  bp (f_X12_tries N s1) fun s3 =>
  f_X12_waits_L23 N x1 (fun (v18 : Int32) (s19 : St) =>
    bp (f_X12_back N s19) fun s20 =>
    some (v18, s20)) N (-1) (nI 0) s3

theorem qX12_waits_0 : Dc mX12_waits 0 (.aload_n 0) 1 1 := ⟨by decide +kernel, rfl⟩
theorem qX12_waits_1 : Dc mX12_waits 1 (.iconst 0) 1 2 := ⟨by decide +kernel, rfl⟩
theorem qX12_waits_2 : Dc mX12_waits 2 (.putfield 1) 3 5 := ⟨by decide +kernel, rfl⟩
theorem qX12_waits_5 : Dc mX12_waits 5 (.aload_n 0) 1 6 := ⟨by decide +kernel, rfl⟩
theorem qX12_waits_6 : Dc mX12_waits 6 (.iload_n 1) 1 7 := ⟨by decide +kernel, rfl⟩
theorem qX12_waits_7 : Dc mX12_waits 7 (.invokevirtual 304) 3 10 := ⟨by decide +kernel, rfl⟩
theorem qX12_waits_10 : Dc mX12_waits 10 (.ifCond .ne 5) 3 13 := ⟨by decide +kernel, rfl⟩
theorem qX12_waits_13 : Dc mX12_waits 13 (.iconst (-1)) 1 14 := ⟨by decide +kernel, rfl⟩
theorem qX12_waits_14 : Dc mX12_waits 14 (.ireturn) 1 15 := ⟨by decide +kernel, rfl⟩
theorem qX12_waits_15 : Dc mX12_waits 15 (.aload_n 0) 1 16 := ⟨by decide +kernel, rfl⟩
theorem qX12_waits_16 : Dc mX12_waits 16 (.invokevirtual 395) 3 19 := ⟨by decide +kernel, rfl⟩
theorem qX12_waits_19 : Dc mX12_waits 19 (.iconst (-1)) 1 20 := ⟨by decide +kernel, rfl⟩
theorem qX12_waits_20 : Dc mX12_waits 20 (.istore_n 2) 1 21 := ⟨by decide +kernel, rfl⟩
theorem qX12_waits_21 : Dc mX12_waits 21 (.iconst 0) 1 22 := ⟨by decide +kernel, rfl⟩
theorem qX12_waits_22 : Dc mX12_waits 22 (.istore_n 3) 1 23 := ⟨by decide +kernel, rfl⟩
theorem qX12_waits_23 : Dc mX12_waits 23 (.iload_n 3) 1 24 := ⟨by decide +kernel, rfl⟩
theorem qX12_waits_24 : Dc mX12_waits 24 (.sipush 600) 3 27 := ⟨by decide +kernel, rfl⟩
theorem qX12_waits_27 : Dc mX12_waits 27 (.if_icmp .gt 27) 3 30 := ⟨by decide +kernel, rfl⟩
theorem qX12_waits_30 : Dc mX12_waits 30 (.iload_n 2) 1 31 := ⟨by decide +kernel, rfl⟩
theorem qX12_waits_31 : Dc mX12_waits 31 (.ifCond .ge 23) 3 34 := ⟨by decide +kernel, rfl⟩
theorem qX12_waits_34 : Dc mX12_waits 34 (.aload_n 0) 1 35 := ⟨by decide +kernel, rfl⟩
theorem qX12_waits_35 : Dc mX12_waits 35 (.iload_n 1) 1 36 := ⟨by decide +kernel, rfl⟩
theorem qX12_waits_36 : Dc mX12_waits 36 (.invokevirtual 307) 3 39 := ⟨by decide +kernel, rfl⟩
theorem qX12_waits_39 : Dc mX12_waits 39 (.ifCond .eq 5) 3 42 := ⟨by decide +kernel, rfl⟩
theorem qX12_waits_42 : Dc mX12_waits 42 (.iload_n 3) 1 43 := ⟨by decide +kernel, rfl⟩
theorem qX12_waits_43 : Dc mX12_waits 43 (.istore_n 2) 1 44 := ⟨by decide +kernel, rfl⟩
theorem qX12_waits_44 : Dc mX12_waits 44 (.aload_n 0) 1 45 := ⟨by decide +kernel, rfl⟩
theorem qX12_waits_45 : Dc mX12_waits 45 (.invokevirtual 322) 3 48 := ⟨by decide +kernel, rfl⟩
theorem qX12_waits_48 : Dc mX12_waits 48 (.iinc 3 1) 3 51 := ⟨by decide +kernel, rfl⟩
theorem qX12_waits_51 : Dc mX12_waits 51 (.goto (-28)) 3 54 := ⟨by decide +kernel, rfl⟩
theorem qX12_waits_54 : Dc mX12_waits 54 (.aload_n 0) 1 55 := ⟨by decide +kernel, rfl⟩
theorem qX12_waits_55 : Dc mX12_waits 55 (.invokevirtual 398) 3 58 := ⟨by decide +kernel, rfl⟩
theorem qX12_waits_58 : Dc mX12_waits 58 (.iload_n 2) 1 59 := ⟨by decide +kernel, rfl⟩
theorem qX12_waits_59 : Dc mX12_waits 59 (.ireturn) 1 60 := ⟨by decide +kernel, rfl⟩

set_option maxRecDepth 20000 in
set_option maxHeartbeats 4000000 in
theorem w_X12_waits_L23 {N : Nat} {c4 : Int32} {k8 : Int32 → St → Option (Int32 × St)} {r : Int32} {sr : St}  (hk8 : ∀ (v9 : Int32) (s10 : St), k8 v9 s10 = some (r, sr) → E mX12_waits 5 (some (.int r), sr) 54 [some (.ref 206), none, some (.int v9), none] [] s10) : ∀ (n11 : Nat) (v5 : Int32) (v6 : Int32) (s7 : St), f_X12_waits_L23 N c4 k8 n11 v5 v6 s7 = some (r, sr) → E mX12_waits 5 (some (.int r), sr) 23 [some (.ref 206), some (.int c4), some (.int v5), some (.int v6)] [] s7 := by
  intro n11
  induction n11 with
  | zero =>
    intro v5 v6 s7 h
    rw [f_X12_waits_L23] at h; cases h
  | succ n11 ih12 =>
    intro v5 v6 s7 h
    rw [f_X12_waits_L23] at h
    refine e_iload_n qX12_waits_23 rfl ?_
    refine e_sipush (nI 600) qX12_waits_24 rfl ?_
    refine e_icmp_gt (tgt := 54) qX12_waits_27 rfl h (fun _ h => ?_) (fun _ h => ?_)
    · exact e_weak (hk8 _ _ h) ⟨Or.inr rfl, Or.inl rfl, Or.inr rfl, Or.inl rfl, trivial⟩
    refine e_iload_n qX12_waits_30 rfl ?_
    refine e_if_ge (tgt := 54) qX12_waits_31 rfl h (fun _ h => ?_) (fun _ h => ?_)
    · exact e_weak (hk8 _ _ h) ⟨Or.inr rfl, Or.inl rfl, Or.inr rfl, Or.inl rfl, trivial⟩
    refine e_aload_n qX12_waits_34 rfl ?_
    refine e_iload_n qX12_waits_35 rfl ?_
    obtain ⟨v13, hc, h⟩ := bp_e h
    refine e_cVi1 qX12_waits_36 mv_X12_307 shq_206 rfl rfl (w_X12_seenBy hc) ?_
    refine jn_e (fun j => ∀ (v14 : Int32), j v14 = some (r, sr) → E mX12_waits 5 (some (.int r), sr) 44 [some (.ref 206), some (.int c4), some (.int v14), some (.int v6)] [] s7) h ?_ (fun j15 hj15 h => ?_)
    · intro v14 h
      refine e_aload_n qX12_waits_44 rfl ?_
      obtain ⟨s16, hc, h⟩ := bp_e h
      refine e_cVv0 qX12_waits_45 mv_X12_322 shq_206 rfl rfl (w_X12_second hc) ?_
      refine vl_e h (fun h => ?_)
      obtain ⟨v17, ev17⟩ : ∃ y, v6 + (nI 1) = y := ⟨_, rfl⟩
      rw [ev17] at h
      refine e_iinc (nI 1) v17 (lv2 := [some (.ref 206), some (.int c4), some (.int v14), some (.int v17)]) qX12_waits_48 rfl rfl rfl ev17 rfl ?_
      refine e_goto (tgt := 23) qX12_waits_51 rfl ?_
      exact e_weak (ih12 _ _ _ h) ⟨Or.inr rfl, Or.inr rfl, Or.inr rfl, Or.inr rfl, trivial⟩
    refine e_if_eq (tgt := 44) qX12_waits_39 rfl h (fun _ h => ?_) (fun _ h => ?_)
    · exact e_weak (hj15 _ h) ⟨Or.inr rfl, Or.inr rfl, Or.inr rfl, Or.inr rfl, trivial⟩
    refine e_iload_n qX12_waits_42 rfl ?_
    refine e_istore_n (lv2 := [some (.ref 206), some (.int c4), some (.int v6), some (.int v6)]) qX12_waits_43 rfl rfl rfl ?_
    exact e_weak (hj15 _ h) ⟨Or.inr rfl, Or.inr rfl, Or.inr rfl, Or.inr rfl, trivial⟩

set_option maxRecDepth 20000 in
set_option maxHeartbeats 4000000 in
theorem w_X12_waits {N : Nat} {x1 : Int32} {s0 : St} {r : Int32} {sr : St} (h : f_X12_waits N x1 s0 = some (r, sr)) : Ct mX12_waits 5 [.ref 206, .int x1] s0 (some (.int r), sr) := by
  refine Ct.ofE (by decide +kernel) rfl ?_
  show E mX12_waits 5 (some (.int r), sr) 0 [some (.ref 206), some (.int x1), none, none] [] s0
  unfold f_X12_waits at h
  refine e_aload_n qX12_waits_0 rfl ?_
  refine e_iconst (nI 0) qX12_waits_1 rfl ?_
  refine e_puti qX12_waits_2 fp_X12_1 shq_206 kdq_11_0 h (fun s1 h => ?_)
  refine e_aload_n qX12_waits_5 rfl ?_
  refine e_iload_n qX12_waits_6 rfl ?_
  obtain ⟨v2, hc, h⟩ := bp_e h
  refine e_cVi1 qX12_waits_7 mv_X12_304 shq_206 rfl rfl (w_X12_isShip hc) ?_
  refine e_if_ne (tgt := 15) qX12_waits_10 rfl h (fun _ h => ?_) (fun _ h => ?_)
  · refine e_iconst (-1) qX12_waits_13 rfl ?_
    exact e_iret qX12_waits_14 rfl (ret_i h)
  refine e_aload_n qX12_waits_15 rfl ?_
  obtain ⟨s3, hc, h⟩ := bp_e h
  refine e_cVv0 qX12_waits_16 mv_X12_395 shq_206 rfl rfl (w_X12_tries hc) ?_
  refine e_iconst (-1) qX12_waits_19 rfl ?_
  refine e_istore_n (lv2 := [some (.ref 206), some (.int x1), some (.int (-1)), none]) qX12_waits_20 rfl rfl rfl ?_
  refine e_iconst (nI 0) qX12_waits_21 rfl ?_
  refine e_istore_n (lv2 := [some (.ref 206), some (.int x1), some (.int (-1)), some (.int (nI 0))]) qX12_waits_22 rfl rfl rfl ?_
  refine e_weak (w_X12_waits_L23 (fun v18 s19 h => ?_) _ _ _ _ h) ⟨Or.inr rfl, Or.inr rfl, Or.inr rfl, Or.inr rfl, trivial⟩
  refine e_aload_n qX12_waits_54 rfl ?_
  obtain ⟨s20, hc, h⟩ := bp_e h
  refine e_cVv0 qX12_waits_55 mv_X12_398 shq_206 rfl rfl (w_X12_back hc) ?_
  refine e_iload_n qX12_waits_58 rfl ?_
  exact e_iret qX12_waits_59 rfl (ret_i h)

def f_X12_mean_L44 (N : Nat) (c8 : Int32) (s11 : St) (k12 : Int32 → Option (Int32 × St)) : Nat → Int32 → Int32 → Option (Int32 × St)
  | 0, _, _ => none
  | n14 + 1, v9, v10 =>
    if v10 = 0 then
      k12 v9
    else
    rm_ v9 v10 fun v16 =>
    f_X12_mean_L44 N c8 s11 k12 n14 v10 v16

def f_X12_mean (N : Nat) (x1 : Int32) (s0 : St) : Option (Int32 × St) :=
  ald (s0.1 208) 359 (nI 0) fun v1 =>
  jn (fun (v2 : Int32) =>
    bd (f_X12_throwsIf v2 s0) fun v4 s5 =>
    if v4 = 0 then
      ald (s5.1 208) 359 (nI 0) fun v6 =>
      bp (f_X12_oilInAll N s5) fun v7 =>
      f_X12_mean_L44 N x1 s5 (fun (v17 : Int32) =>
        jn (fun (v18 : Int32) =>
          dv v18 v17 fun v20 =>
          some (v20, s5)) fun j19 =>
        if x1 = 0 then
          bp (f_X12_oilInAll N s5) fun v21 =>
          j19 v21
        else
        ald (s5.1 208) 359 (nI 0) fun v22 =>
        j19 v22) N v6 v7
    else
    some ((nI 0), s5)) fun j3 =>
  jn (j3 (nI 1)) fun j23 =>
  if v1 = 0 then
    j23
  else
  bp (f_X12_isIn x1 (nI 0) (nI 1) s0) fun v24 =>
  if v24 = 0 then
    j23
  else
  j3 (nI 0)

theorem qX12_mean_0 : Dc mX12_mean 0 (.aload_n 0) 1 1 := ⟨by decide +kernel, rfl⟩
theorem qX12_mean_1 : Dc mX12_mean 1 (.aload_n 0) 1 2 := ⟨by decide +kernel, rfl⟩
theorem qX12_mean_2 : Dc mX12_mean 2 (.getfield 33) 3 5 := ⟨by decide +kernel, rfl⟩
theorem qX12_mean_5 : Dc mX12_mean 5 (.iconst 0) 1 6 := ⟨by decide +kernel, rfl⟩
theorem qX12_mean_6 : Dc mX12_mean 6 (.iaload) 1 7 := ⟨by decide +kernel, rfl⟩
theorem qX12_mean_7 : Dc mX12_mean 7 (.ifCond .eq 12) 3 10 := ⟨by decide +kernel, rfl⟩
theorem qX12_mean_10 : Dc mX12_mean 10 (.iload_n 1) 1 11 := ⟨by decide +kernel, rfl⟩
theorem qX12_mean_11 : Dc mX12_mean 11 (.iconst 0) 1 12 := ⟨by decide +kernel, rfl⟩
theorem qX12_mean_12 : Dc mX12_mean 12 (.iconst 1) 1 13 := ⟨by decide +kernel, rfl⟩
theorem qX12_mean_13 : Dc mX12_mean 13 (.invokestatic 186) 3 16 := ⟨by decide +kernel, rfl⟩
theorem qX12_mean_16 : Dc mX12_mean 16 (.ifCond .ne 7) 3 19 := ⟨by decide +kernel, rfl⟩
theorem qX12_mean_19 : Dc mX12_mean 19 (.iconst 1) 1 20 := ⟨by decide +kernel, rfl⟩
theorem qX12_mean_20 : Dc mX12_mean 20 (.goto 4) 3 23 := ⟨by decide +kernel, rfl⟩
theorem qX12_mean_23 : Dc mX12_mean 23 (.iconst 0) 1 24 := ⟨by decide +kernel, rfl⟩
theorem qX12_mean_24 : Dc mX12_mean 24 (.invokevirtual 297) 3 27 := ⟨by decide +kernel, rfl⟩
theorem qX12_mean_27 : Dc mX12_mean 27 (.ifCond .eq 5) 3 30 := ⟨by decide +kernel, rfl⟩
theorem qX12_mean_30 : Dc mX12_mean 30 (.iconst 0) 1 31 := ⟨by decide +kernel, rfl⟩
theorem qX12_mean_31 : Dc mX12_mean 31 (.ireturn) 1 32 := ⟨by decide +kernel, rfl⟩
theorem qX12_mean_32 : Dc mX12_mean 32 (.aload_n 0) 1 33 := ⟨by decide +kernel, rfl⟩
theorem qX12_mean_33 : Dc mX12_mean 33 (.getfield 33) 3 36 := ⟨by decide +kernel, rfl⟩
theorem qX12_mean_36 : Dc mX12_mean 36 (.iconst 0) 1 37 := ⟨by decide +kernel, rfl⟩
theorem qX12_mean_37 : Dc mX12_mean 37 (.iaload) 1 38 := ⟨by decide +kernel, rfl⟩
theorem qX12_mean_38 : Dc mX12_mean 38 (.istore_n 2) 1 39 := ⟨by decide +kernel, rfl⟩
theorem qX12_mean_39 : Dc mX12_mean 39 (.aload_n 0) 1 40 := ⟨by decide +kernel, rfl⟩
theorem qX12_mean_40 : Dc mX12_mean 40 (.invokevirtual 310) 3 43 := ⟨by decide +kernel, rfl⟩
theorem qX12_mean_43 : Dc mX12_mean 43 (.istore_n 3) 1 44 := ⟨by decide +kernel, rfl⟩
theorem qX12_mean_44 : Dc mX12_mean 44 (.iload_n 3) 1 45 := ⟨by decide +kernel, rfl⟩
theorem qX12_mean_45 : Dc mX12_mean 45 (.ifCond .eq 16) 3 48 := ⟨by decide +kernel, rfl⟩
theorem qX12_mean_48 : Dc mX12_mean 48 (.iload_n 2) 1 49 := ⟨by decide +kernel, rfl⟩
theorem qX12_mean_49 : Dc mX12_mean 49 (.iload_n 3) 1 50 := ⟨by decide +kernel, rfl⟩
theorem qX12_mean_50 : Dc mX12_mean 50 (.irem) 1 51 := ⟨by decide +kernel, rfl⟩
theorem qX12_mean_51 : Dc mX12_mean 51 (.istore 4) 2 53 := ⟨by decide +kernel, rfl⟩
theorem qX12_mean_53 : Dc mX12_mean 53 (.iload_n 3) 1 54 := ⟨by decide +kernel, rfl⟩
theorem qX12_mean_54 : Dc mX12_mean 54 (.istore_n 2) 1 55 := ⟨by decide +kernel, rfl⟩
theorem qX12_mean_55 : Dc mX12_mean 55 (.iload 4) 2 57 := ⟨by decide +kernel, rfl⟩
theorem qX12_mean_57 : Dc mX12_mean 57 (.istore_n 3) 1 58 := ⟨by decide +kernel, rfl⟩
theorem qX12_mean_58 : Dc mX12_mean 58 (.goto (-14)) 3 61 := ⟨by decide +kernel, rfl⟩
theorem qX12_mean_61 : Dc mX12_mean 61 (.iload_n 1) 1 62 := ⟨by decide +kernel, rfl⟩
theorem qX12_mean_62 : Dc mX12_mean 62 (.ifCond .ne 10) 3 65 := ⟨by decide +kernel, rfl⟩
theorem qX12_mean_65 : Dc mX12_mean 65 (.aload_n 0) 1 66 := ⟨by decide +kernel, rfl⟩
theorem qX12_mean_66 : Dc mX12_mean 66 (.invokevirtual 310) 3 69 := ⟨by decide +kernel, rfl⟩
theorem qX12_mean_69 : Dc mX12_mean 69 (.goto 9) 3 72 := ⟨by decide +kernel, rfl⟩
theorem qX12_mean_72 : Dc mX12_mean 72 (.aload_n 0) 1 73 := ⟨by decide +kernel, rfl⟩
theorem qX12_mean_73 : Dc mX12_mean 73 (.getfield 33) 3 76 := ⟨by decide +kernel, rfl⟩
theorem qX12_mean_76 : Dc mX12_mean 76 (.iconst 0) 1 77 := ⟨by decide +kernel, rfl⟩
theorem qX12_mean_77 : Dc mX12_mean 77 (.iaload) 1 78 := ⟨by decide +kernel, rfl⟩
theorem qX12_mean_78 : Dc mX12_mean 78 (.iload_n 2) 1 79 := ⟨by decide +kernel, rfl⟩
theorem qX12_mean_79 : Dc mX12_mean 79 (.idiv) 1 80 := ⟨by decide +kernel, rfl⟩
theorem qX12_mean_80 : Dc mX12_mean 80 (.ireturn) 1 81 := ⟨by decide +kernel, rfl⟩

set_option maxRecDepth 20000 in
set_option maxHeartbeats 4000000 in
theorem w_X12_mean_L44 {N : Nat} {c8 : Int32} {s11 : St} {k12 : Int32 → Option (Int32 × St)} {r : Int32} {sr : St}  (hk12 : ∀ (v13 : Int32), k12 v13 = some (r, sr) → E mX12_mean 1 (some (.int r), sr) 61 [some (.ref 206), some (.int c8), some (.int v13), none, none] [] s11) : ∀ (n14 : Nat) (v9 : Int32) (v10 : Int32), f_X12_mean_L44 N c8 s11 k12 n14 v9 v10 = some (r, sr) → E mX12_mean 1 (some (.int r), sr) 44 [some (.ref 206), some (.int c8), some (.int v9), some (.int v10), none] [] s11 := by
  intro n14
  induction n14 with
  | zero =>
    intro v9 v10 h
    rw [f_X12_mean_L44] at h; cases h
  | succ n14 ih15 =>
    intro v9 v10 h
    rw [f_X12_mean_L44] at h
    refine e_iload_n qX12_mean_44 rfl ?_
    refine e_if_eq (tgt := 61) qX12_mean_45 rfl h (fun _ h => ?_) (fun _ h => ?_)
    · exact e_weak (hk12 _ h) ⟨Or.inr rfl, Or.inr rfl, Or.inr rfl, Or.inl rfl, Or.inl rfl, trivial⟩
    refine e_iload_n qX12_mean_48 rfl ?_
    refine e_iload_n qX12_mean_49 rfl ?_
    refine e_irem qX12_mean_50 h (fun v16 h => ?_)
    refine e_istore (lv2 := [some (.ref 206), some (.int c8), some (.int v9), some (.int v10), some (.int v16)]) qX12_mean_51 rfl rfl rfl ?_
    refine e_iload_n qX12_mean_53 rfl ?_
    refine e_istore_n (lv2 := [some (.ref 206), some (.int c8), some (.int v10), some (.int v10), some (.int v16)]) qX12_mean_54 rfl rfl rfl ?_
    refine e_iload qX12_mean_55 rfl ?_
    refine e_istore_n (lv2 := [some (.ref 206), some (.int c8), some (.int v10), some (.int v16), some (.int v16)]) qX12_mean_57 rfl rfl rfl ?_
    refine e_goto (tgt := 44) qX12_mean_58 rfl ?_
    exact e_weak (ih15 _ _ h) ⟨Or.inr rfl, Or.inr rfl, Or.inr rfl, Or.inr rfl, Or.inl rfl, trivial⟩

set_option maxRecDepth 20000 in
set_option maxHeartbeats 4000000 in
theorem w_X12_mean {N : Nat} {x1 : Int32} {s0 : St} {r : Int32} {sr : St} (h : f_X12_mean N x1 s0 = some (r, sr)) : Ct mX12_mean 1 [.ref 206, .int x1] s0 (some (.int r), sr) := by
  refine Ct.ofE (by decide +kernel) rfl ?_
  show E mX12_mean 1 (some (.int r), sr) 0 [some (.ref 206), some (.int x1), none, none, none] [] s0
  unfold f_X12_mean at h
  refine e_aload_n qX12_mean_0 rfl ?_
  refine e_aload_n qX12_mean_1 rfl ?_
  refine e_getr 208 qX12_mean_2 fl_X12_33 shq_206 kdq_11_6 rrq_206_6 ?_
  refine e_iconst (nI 0) qX12_mean_5 rfl ?_
  refine e_iald qX12_mean_6 shq_208 lnq_208 h (fun v1 h => ?_)
  refine jn_e (fun j => ∀ (v2 : Int32), j v2 = some (r, sr) → E mX12_mean 1 (some (.int r), sr) 24 [some (.ref 206), some (.int x1), none, none, none] [.int v2, .ref 206] s0) h ?_ (fun j3 hj3 h => ?_)
  · intro v2 h
    obtain ⟨v4, s5, hc, h⟩ := bd_e h
    refine e_cVi1 qX12_mean_24 mv_X12_297 shq_206 rfl rfl (w_X12_throwsIf hc) ?_
    refine e_if_eq (tgt := 32) qX12_mean_27 rfl h (fun _ h => ?_) (fun _ h => ?_)
    · refine e_aload_n qX12_mean_32 rfl ?_
      refine e_getr 208 qX12_mean_33 fl_X12_33 shq_206 kdq_11_6 rrq_206_6 ?_
      refine e_iconst (nI 0) qX12_mean_36 rfl ?_
      refine e_iald qX12_mean_37 shq_208 lnq_208 h (fun v6 h => ?_)
      refine e_istore_n (lv2 := [some (.ref 206), some (.int x1), some (.int v6), none, none]) qX12_mean_38 rfl rfl rfl ?_
      refine e_aload_n qX12_mean_39 rfl ?_
      obtain ⟨v7, hc, h⟩ := bp_e h
      refine e_cVi0 qX12_mean_40 mv_X12_310 shq_206 rfl rfl (w_X12_oilInAll hc) ?_
      refine e_istore_n (lv2 := [some (.ref 206), some (.int x1), some (.int v6), some (.int v7), none]) qX12_mean_43 rfl rfl rfl ?_
      refine e_weak (w_X12_mean_L44 (fun v17 h => ?_) _ _ _ h) ⟨Or.inr rfl, Or.inr rfl, Or.inr rfl, Or.inr rfl, Or.inl rfl, trivial⟩
      refine e_iload_n qX12_mean_61 rfl ?_
      refine jn_e (fun j => ∀ (v18 : Int32), j v18 = some (r, sr) → E mX12_mean 1 (some (.int r), sr) 78 [none, none, some (.int v17), none, none] [.int v18] s5) h ?_ (fun j19 hj19 h => ?_)
      · intro v18 h
        refine e_iload_n qX12_mean_78 rfl ?_
        refine e_idiv qX12_mean_79 h (fun v20 h => ?_)
        exact e_iret qX12_mean_80 rfl (ret_i h)
      refine e_if_ne (tgt := 72) qX12_mean_62 rfl h (fun _ h => ?_) (fun _ h => ?_)
      · refine e_aload_n qX12_mean_65 rfl ?_
        obtain ⟨v21, hc, h⟩ := bp_e h
        refine e_cVi0 qX12_mean_66 mv_X12_310 shq_206 rfl rfl (w_X12_oilInAll hc) ?_
        refine e_goto (tgt := 78) qX12_mean_69 rfl ?_
        exact e_weak (hj19 _ h) ⟨Or.inl rfl, Or.inl rfl, Or.inr rfl, Or.inl rfl, Or.inl rfl, trivial⟩
      refine e_aload_n qX12_mean_72 rfl ?_
      refine e_getr 208 qX12_mean_73 fl_X12_33 shq_206 kdq_11_6 rrq_206_6 ?_
      refine e_iconst (nI 0) qX12_mean_76 rfl ?_
      refine e_iald qX12_mean_77 shq_208 lnq_208 h (fun v22 h => ?_)
      exact e_weak (hj19 _ h) ⟨Or.inl rfl, Or.inl rfl, Or.inr rfl, Or.inl rfl, Or.inl rfl, trivial⟩
    refine e_iconst (nI 0) qX12_mean_30 rfl ?_
    exact e_iret qX12_mean_31 rfl (ret_i h)
  refine jn_e (fun j => j = some (r, sr) → E mX12_mean 1 (some (.int r), sr) 19 [some (.ref 206), some (.int x1), none, none, none] [.ref 206] s0) h ?_ (fun j23 hj23 h => ?_)
  · intro h
    refine e_iconst (nI 1) qX12_mean_19 rfl ?_
    refine e_goto (tgt := 24) qX12_mean_20 rfl ?_
    exact e_weak (hj3 _ h) ⟨Or.inr rfl, Or.inr rfl, Or.inl rfl, Or.inl rfl, Or.inl rfl, trivial⟩
  refine e_if_eq (tgt := 19) qX12_mean_7 rfl h (fun _ h => ?_) (fun _ h => ?_)
  · exact e_weak (hj23 h) ⟨Or.inr rfl, Or.inr rfl, Or.inl rfl, Or.inl rfl, Or.inl rfl, trivial⟩
  refine e_iload_n qX12_mean_10 rfl ?_
  refine e_iconst (nI 0) qX12_mean_11 rfl ?_
  refine e_iconst (nI 1) qX12_mean_12 rfl ?_
  obtain ⟨v24, hc, h⟩ := bp_e h
  refine e_cSi3 qX12_mean_13 ms_X12_186 rfl rfl (w_X12_isIn hc) ?_
  refine e_if_ne (tgt := 23) qX12_mean_16 rfl h (fun _ h => ?_) (fun _ h => ?_)
  · exact e_weak (hj23 h) ⟨Or.inr rfl, Or.inr rfl, Or.inl rfl, Or.inl rfl, Or.inl rfl, trivial⟩
  refine e_iconst (nI 0) qX12_mean_23 rfl ?_
  exact e_weak (hj3 _ h) ⟨Or.inr rfl, Or.inr rfl, Or.inl rfl, Or.inl rfl, Or.inl rfl, trivial⟩

def f_X12_lays (x1 : Int32) (s0 : St) : Option (St) :=
  vl (s0.1 206 38) fun v1 =>
  ald (fun j => sI s0 218 j (x1.toInt8.toInt32).toInt8.toInt32) 40 v1 fun s2 =>
  vl (s2.1 206 38) fun v3 =>
  vl (sI s2 206 38 (v3 + (nI 1))) fun s4 =>
  some s4

theorem qX12_lays_0 : Dc mX12_lays 0 (.aload_n 0) 1 1 := ⟨by decide +kernel, rfl⟩
theorem qX12_lays_1 : Dc mX12_lays 1 (.getfield 66) 3 4 := ⟨by decide +kernel, rfl⟩
theorem qX12_lays_4 : Dc mX12_lays 4 (.aload_n 0) 1 5 := ⟨by decide +kernel, rfl⟩
theorem qX12_lays_5 : Dc mX12_lays 5 (.getfield 401) 3 8 := ⟨by decide +kernel, rfl⟩
theorem qX12_lays_8 : Dc mX12_lays 8 (.iload_n 1) 1 9 := ⟨by decide +kernel, rfl⟩
theorem qX12_lays_9 : Dc mX12_lays 9 (.i2b) 1 10 := ⟨by decide +kernel, rfl⟩
theorem qX12_lays_10 : Dc mX12_lays 10 (.bastore) 1 11 := ⟨by decide +kernel, rfl⟩
theorem qX12_lays_11 : Dc mX12_lays 11 (.aload_n 0) 1 12 := ⟨by decide +kernel, rfl⟩
theorem qX12_lays_12 : Dc mX12_lays 12 (.dup) 1 13 := ⟨by decide +kernel, rfl⟩
theorem qX12_lays_13 : Dc mX12_lays 13 (.getfield 401) 3 16 := ⟨by decide +kernel, rfl⟩
theorem qX12_lays_16 : Dc mX12_lays 16 (.iconst 1) 1 17 := ⟨by decide +kernel, rfl⟩
theorem qX12_lays_17 : Dc mX12_lays 17 (.iadd) 1 18 := ⟨by decide +kernel, rfl⟩
theorem qX12_lays_18 : Dc mX12_lays 18 (.putfield 401) 3 21 := ⟨by decide +kernel, rfl⟩
theorem qX12_lays_21 : Dc mX12_lays 21 (.return_) 1 22 := ⟨by decide +kernel, rfl⟩

set_option maxRecDepth 20000 in
set_option maxHeartbeats 4000000 in
theorem w_X12_lays {x1 : Int32} {s0 : St} {sr : St} (h : f_X12_lays x1 s0 = some sr) : Ct mX12_lays 0 [.ref 206, .int x1] s0 (none, sr) := by
  refine Ct.ofE (by decide +kernel) rfl ?_
  show E mX12_lays 0 (none, sr) 0 [some (.ref 206), some (.int x1)] [] s0
  unfold f_X12_lays at h
  refine e_aload_n qX12_lays_0 rfl ?_
  refine e_getr 218 qX12_lays_1 fl_X12_66 shq_206 kdq_11_37 rrq_206_37 ?_
  refine e_aload_n qX12_lays_4 rfl ?_
  refine e_geti qX12_lays_5 fl_X12_401 shq_206 kdq_11_38 h (fun v1 h => ?_)
  refine e_iload_n qX12_lays_8 rfl ?_
  refine e_i2b qX12_lays_9 ?_
  refine e_bast qX12_lays_10 shq_218 lnq_218 h (fun s2 h => ?_)
  refine e_aload_n qX12_lays_11 rfl ?_
  refine e_dup qX12_lays_12 rfl ?_
  refine e_geti qX12_lays_13 fl_X12_401 shq_206 kdq_11_38 h (fun v3 h => ?_)
  refine e_iconst (nI 1) qX12_lays_16 rfl ?_
  refine e_iadd qX12_lays_17 ?_
  refine e_puti qX12_lays_18 fp_X12_401 shq_206 kdq_11_38 h (fun s4 h => ?_)
  exact e_vret qX12_lays_21 rfl (ret_v h)

def f_X12_spells_L3 (N : Nat) (c1 : Int64) : Nat → Int32 → St → Option (St)
  | 0, _, _ => none
  | n4 + 1, v2, s3 =>
    if v2 < 0 then
      some s3
    else
    jn (fun (s6 : St) =>
      vl (v2 + (-8)) fun v8 =>
      f_X12_spells_L3 N c1 n4 v8 s6) fun j7 =>
    if (lg_cmp ((lsr c1 v2) &&& (255 : Int64)) (0 : Int64)) = 0 then
      j7 s3
    else
    bp (f_X12_lays (((lsr c1 v2) &&& (255 : Int64)).toInt32) s3) fun s9 =>
    j7 s9

def f_X12_spells (N : Nat) (x1 : Int64) (s0 : St) : Option (St) :=
  f_X12_spells_L3 N x1 N (nI 56) s0

theorem qX12_spells_0 : Dc mX12_spells 0 (.bipush 56) 2 2 := ⟨by decide +kernel, rfl⟩
theorem qX12_spells_2 : Dc mX12_spells 2 (.istore_n 3) 1 3 := ⟨by decide +kernel, rfl⟩
theorem qX12_spells_3 : Dc mX12_spells 3 (.iload_n 3) 1 4 := ⟨by decide +kernel, rfl⟩
theorem qX12_spells_4 : Dc mX12_spells 4 (.ifCond .lt 33) 3 7 := ⟨by decide +kernel, rfl⟩
theorem qX12_spells_7 : Dc mX12_spells 7 (.lload_n 1) 1 8 := ⟨by decide +kernel, rfl⟩
theorem qX12_spells_8 : Dc mX12_spells 8 (.iload_n 3) 1 9 := ⟨by decide +kernel, rfl⟩
theorem qX12_spells_9 : Dc mX12_spells 9 (.lshr) 1 10 := ⟨by decide +kernel, rfl⟩
theorem qX12_spells_10 : Dc mX12_spells 10 (.ldc2_w 404) 3 13 := ⟨by decide +kernel, rfl⟩
theorem qX12_spells_13 : Dc mX12_spells 13 (.land) 1 14 := ⟨by decide +kernel, rfl⟩
theorem qX12_spells_14 : Dc mX12_spells 14 (.lconst 0) 1 15 := ⟨by decide +kernel, rfl⟩
theorem qX12_spells_15 : Dc mX12_spells 15 (.lcmp) 1 16 := ⟨by decide +kernel, rfl⟩
theorem qX12_spells_16 : Dc mX12_spells 16 (.ifCond .eq 15) 3 19 := ⟨by decide +kernel, rfl⟩
theorem qX12_spells_19 : Dc mX12_spells 19 (.aload_n 0) 1 20 := ⟨by decide +kernel, rfl⟩
theorem qX12_spells_20 : Dc mX12_spells 20 (.lload_n 1) 1 21 := ⟨by decide +kernel, rfl⟩
theorem qX12_spells_21 : Dc mX12_spells 21 (.iload_n 3) 1 22 := ⟨by decide +kernel, rfl⟩
theorem qX12_spells_22 : Dc mX12_spells 22 (.lshr) 1 23 := ⟨by decide +kernel, rfl⟩
theorem qX12_spells_23 : Dc mX12_spells 23 (.ldc2_w 404) 3 26 := ⟨by decide +kernel, rfl⟩
theorem qX12_spells_26 : Dc mX12_spells 26 (.land) 1 27 := ⟨by decide +kernel, rfl⟩
theorem qX12_spells_27 : Dc mX12_spells 27 (.l2i) 1 28 := ⟨by decide +kernel, rfl⟩
theorem qX12_spells_28 : Dc mX12_spells 28 (.invokevirtual 406) 3 31 := ⟨by decide +kernel, rfl⟩
theorem qX12_spells_31 : Dc mX12_spells 31 (.iinc 3 (-8)) 3 34 := ⟨by decide +kernel, rfl⟩
theorem qX12_spells_34 : Dc mX12_spells 34 (.goto (-31)) 3 37 := ⟨by decide +kernel, rfl⟩
theorem qX12_spells_37 : Dc mX12_spells 37 (.return_) 1 38 := ⟨by decide +kernel, rfl⟩

set_option maxRecDepth 20000 in
set_option maxHeartbeats 4000000 in
theorem w_X12_spells_L3 {N : Nat} {c1 : Int64}  {sr : St}   : ∀ (n4 : Nat) (v2 : Int32) (s3 : St), f_X12_spells_L3 N c1 n4 v2 s3 = some sr → E mX12_spells 1 (none, sr) 3 [some (.ref 206), some (.long c1), none, some (.int v2)] [] s3 := by
  intro n4
  induction n4 with
  | zero =>
    intro v2 s3 h
    rw [f_X12_spells_L3] at h; cases h
  | succ n4 ih5 =>
    intro v2 s3 h
    rw [f_X12_spells_L3] at h
    refine e_iload_n qX12_spells_3 rfl ?_
    refine e_if_lt (tgt := 37) qX12_spells_4 rfl h (fun _ h => ?_) (fun _ h => ?_)
    · exact e_vret qX12_spells_37 rfl (ret_v h)
    refine e_lload_n qX12_spells_7 rfl ?_
    refine e_iload_n qX12_spells_8 rfl ?_
    refine e_lshr qX12_spells_9 ?_
    refine e_ldc2 (255 : Int64) qX12_spells_10 cw_X12_404 ?_
    refine e_land qX12_spells_13 ?_
    refine e_lconst (0 : Int64) qX12_spells_14 rfl ?_
    refine e_lcmp qX12_spells_15 ?_
    refine jn_e (fun j => ∀ (s6 : St), j s6 = some sr → E mX12_spells 1 (none, sr) 31 [some (.ref 206), some (.long c1), none, some (.int v2)] [] s6) h ?_ (fun j7 hj7 h => ?_)
    · intro s6 h
      refine vl_e h (fun h => ?_)
      obtain ⟨v8, ev8⟩ : ∃ y, v2 + (-8) = y := ⟨_, rfl⟩
      rw [ev8] at h
      refine e_iinc (-8) v8 (lv2 := [some (.ref 206), some (.long c1), none, some (.int v8)]) qX12_spells_31 rfl rfl rfl ev8 rfl ?_
      refine e_goto (tgt := 3) qX12_spells_34 rfl ?_
      exact e_weak (ih5 _ _ h) ⟨Or.inr rfl, Or.inr rfl, Or.inl rfl, Or.inr rfl, trivial⟩
    refine e_if_eq (tgt := 31) qX12_spells_16 rfl h (fun _ h => ?_) (fun _ h => ?_)
    · exact e_weak (hj7 _ h) ⟨Or.inr rfl, Or.inr rfl, Or.inl rfl, Or.inr rfl, trivial⟩
    refine e_aload_n qX12_spells_19 rfl ?_
    refine e_lload_n qX12_spells_20 rfl ?_
    refine e_iload_n qX12_spells_21 rfl ?_
    refine e_lshr qX12_spells_22 ?_
    refine e_ldc2 (255 : Int64) qX12_spells_23 cw_X12_404 ?_
    refine e_land qX12_spells_26 ?_
    refine e_l2i qX12_spells_27 ?_
    obtain ⟨s9, hc, h⟩ := bp_e h
    refine e_cVv1 qX12_spells_28 mv_X12_406 shq_206 rfl rfl (w_X12_lays hc) ?_
    exact e_weak (hj7 _ h) ⟨Or.inr rfl, Or.inr rfl, Or.inl rfl, Or.inr rfl, trivial⟩

set_option maxRecDepth 20000 in
set_option maxHeartbeats 4000000 in
theorem w_X12_spells {N : Nat} {x1 : Int64} {s0 : St} {sr : St} (h : f_X12_spells N x1 s0 = some sr) : Ct mX12_spells 1 [.ref 206, .long x1] s0 (none, sr) := by
  refine Ct.ofE (by decide +kernel) rfl ?_
  show E mX12_spells 1 (none, sr) 0 [some (.ref 206), some (.long x1), none, none] [] s0
  unfold f_X12_spells at h
  refine e_bipush (nI 56) qX12_spells_0 rfl ?_
  refine e_istore_n (lv2 := [some (.ref 206), some (.long x1), none, some (.int (nI 56))]) qX12_spells_2 rfl rfl rfl ?_
  exact e_weak (w_X12_spells_L3  _ _ _ h) ⟨Or.inr rfl, Or.inr rfl, Or.inl rfl, Or.inr rfl, trivial⟩

def f_X12_says (N : Nat) (x1 : Int64) (s0 : St) : Option (St) :=
  bp (f_X12_lays (nI 32) s0) fun s1 =>
  bp (f_X12_spells N x1 s1) fun s2 =>
  some s2

theorem qX12_says_0 : Dc mX12_says 0 (.aload_n 0) 1 1 := ⟨by decide +kernel, rfl⟩
theorem qX12_says_1 : Dc mX12_says 1 (.bipush 32) 2 3 := ⟨by decide +kernel, rfl⟩
theorem qX12_says_3 : Dc mX12_says 3 (.invokevirtual 406) 3 6 := ⟨by decide +kernel, rfl⟩
theorem qX12_says_6 : Dc mX12_says 6 (.aload_n 0) 1 7 := ⟨by decide +kernel, rfl⟩
theorem qX12_says_7 : Dc mX12_says 7 (.lload_n 1) 1 8 := ⟨by decide +kernel, rfl⟩
theorem qX12_says_8 : Dc mX12_says 8 (.invokevirtual 409) 3 11 := ⟨by decide +kernel, rfl⟩
theorem qX12_says_11 : Dc mX12_says 11 (.return_) 1 12 := ⟨by decide +kernel, rfl⟩

set_option maxRecDepth 20000 in
set_option maxHeartbeats 4000000 in
theorem w_X12_says {N : Nat} {x1 : Int64} {s0 : St} {sr : St} (h : f_X12_says N x1 s0 = some sr) : Ct mX12_says 2 [.ref 206, .long x1] s0 (none, sr) := by
  refine Ct.ofE (by decide +kernel) rfl ?_
  show E mX12_says 2 (none, sr) 0 [some (.ref 206), some (.long x1), none] [] s0
  unfold f_X12_says at h
  refine e_aload_n qX12_says_0 rfl ?_
  refine e_bipush (nI 32) qX12_says_1 rfl ?_
  obtain ⟨s1, hc, h⟩ := bp_e h
  refine e_cVv1 qX12_says_3 mv_X12_406 shq_206 rfl rfl (w_X12_lays hc) ?_
  refine e_aload_n qX12_says_6 rfl ?_
  refine e_lload_n qX12_says_7 rfl ?_
  obtain ⟨s2, hc, h⟩ := bp_e h
  refine e_cVv1 qX12_says_8 mv_X12_409 shq_206 rfl rfl (w_X12_spells hc) ?_
  exact e_vret qX12_says_11 rfl (ret_v h)

def f_X12_twoDigits (x1 : Int32) (s0 : St) : Option (St) :=
  bp (f_X12_lays (nI 32) s0) fun s1 =>
  jn (fun (s2 : St) =>
    rm_ x1 (nI 10) fun v4 =>
    bp (f_X12_lays ((nI 48) + v4) s2) fun s5 =>
    some s5) fun j3 =>
  if x1 ≤ (nI 9) then
    j3 s1
  else
  dv x1 (nI 10) fun v6 =>
  bp (f_X12_lays ((nI 48) + v6) s1) fun s7 =>
  j3 s7

theorem qX12_twoDigits_0 : Dc mX12_twoDigits 0 (.aload_n 0) 1 1 := ⟨by decide +kernel, rfl⟩
theorem qX12_twoDigits_1 : Dc mX12_twoDigits 1 (.bipush 32) 2 3 := ⟨by decide +kernel, rfl⟩
theorem qX12_twoDigits_3 : Dc mX12_twoDigits 3 (.invokevirtual 406) 3 6 := ⟨by decide +kernel, rfl⟩
theorem qX12_twoDigits_6 : Dc mX12_twoDigits 6 (.iload_n 1) 1 7 := ⟨by decide +kernel, rfl⟩
theorem qX12_twoDigits_7 : Dc mX12_twoDigits 7 (.bipush 9) 2 9 := ⟨by decide +kernel, rfl⟩
theorem qX12_twoDigits_9 : Dc mX12_twoDigits 9 (.if_icmp .le 14) 3 12 := ⟨by decide +kernel, rfl⟩
theorem qX12_twoDigits_12 : Dc mX12_twoDigits 12 (.aload_n 0) 1 13 := ⟨by decide +kernel, rfl⟩
theorem qX12_twoDigits_13 : Dc mX12_twoDigits 13 (.bipush 48) 2 15 := ⟨by decide +kernel, rfl⟩
theorem qX12_twoDigits_15 : Dc mX12_twoDigits 15 (.iload_n 1) 1 16 := ⟨by decide +kernel, rfl⟩
theorem qX12_twoDigits_16 : Dc mX12_twoDigits 16 (.bipush 10) 2 18 := ⟨by decide +kernel, rfl⟩
theorem qX12_twoDigits_18 : Dc mX12_twoDigits 18 (.idiv) 1 19 := ⟨by decide +kernel, rfl⟩
theorem qX12_twoDigits_19 : Dc mX12_twoDigits 19 (.iadd) 1 20 := ⟨by decide +kernel, rfl⟩
theorem qX12_twoDigits_20 : Dc mX12_twoDigits 20 (.invokevirtual 406) 3 23 := ⟨by decide +kernel, rfl⟩
theorem qX12_twoDigits_23 : Dc mX12_twoDigits 23 (.aload_n 0) 1 24 := ⟨by decide +kernel, rfl⟩
theorem qX12_twoDigits_24 : Dc mX12_twoDigits 24 (.bipush 48) 2 26 := ⟨by decide +kernel, rfl⟩
theorem qX12_twoDigits_26 : Dc mX12_twoDigits 26 (.iload_n 1) 1 27 := ⟨by decide +kernel, rfl⟩
theorem qX12_twoDigits_27 : Dc mX12_twoDigits 27 (.bipush 10) 2 29 := ⟨by decide +kernel, rfl⟩
theorem qX12_twoDigits_29 : Dc mX12_twoDigits 29 (.irem) 1 30 := ⟨by decide +kernel, rfl⟩
theorem qX12_twoDigits_30 : Dc mX12_twoDigits 30 (.iadd) 1 31 := ⟨by decide +kernel, rfl⟩
theorem qX12_twoDigits_31 : Dc mX12_twoDigits 31 (.invokevirtual 406) 3 34 := ⟨by decide +kernel, rfl⟩
theorem qX12_twoDigits_34 : Dc mX12_twoDigits 34 (.return_) 1 35 := ⟨by decide +kernel, rfl⟩

set_option maxRecDepth 20000 in
set_option maxHeartbeats 4000000 in
theorem w_X12_twoDigits {x1 : Int32} {s0 : St} {sr : St} (h : f_X12_twoDigits x1 s0 = some sr) : Ct mX12_twoDigits 1 [.ref 206, .int x1] s0 (none, sr) := by
  refine Ct.ofE (by decide +kernel) rfl ?_
  show E mX12_twoDigits 1 (none, sr) 0 [some (.ref 206), some (.int x1)] [] s0
  unfold f_X12_twoDigits at h
  refine e_aload_n qX12_twoDigits_0 rfl ?_
  refine e_bipush (nI 32) qX12_twoDigits_1 rfl ?_
  obtain ⟨s1, hc, h⟩ := bp_e h
  refine e_cVv1 qX12_twoDigits_3 mv_X12_406 shq_206 rfl rfl (w_X12_lays hc) ?_
  refine e_iload_n qX12_twoDigits_6 rfl ?_
  refine e_bipush (nI 9) qX12_twoDigits_7 rfl ?_
  refine jn_e (fun j => ∀ (s2 : St), j s2 = some sr → E mX12_twoDigits 1 (none, sr) 23 [some (.ref 206), some (.int x1)] [] s2) h ?_ (fun j3 hj3 h => ?_)
  · intro s2 h
    refine e_aload_n qX12_twoDigits_23 rfl ?_
    refine e_bipush (nI 48) qX12_twoDigits_24 rfl ?_
    refine e_iload_n qX12_twoDigits_26 rfl ?_
    refine e_bipush (nI 10) qX12_twoDigits_27 rfl ?_
    refine e_irem qX12_twoDigits_29 h (fun v4 h => ?_)
    refine e_iadd qX12_twoDigits_30 ?_
    obtain ⟨s5, hc, h⟩ := bp_e h
    refine e_cVv1 qX12_twoDigits_31 mv_X12_406 shq_206 rfl rfl (w_X12_lays hc) ?_
    exact e_vret qX12_twoDigits_34 rfl (ret_v h)
  refine e_icmp_le (tgt := 23) qX12_twoDigits_9 rfl h (fun _ h => ?_) (fun _ h => ?_)
  · exact e_weak (hj3 _ h) ⟨Or.inr rfl, Or.inr rfl, trivial⟩
  refine e_aload_n qX12_twoDigits_12 rfl ?_
  refine e_bipush (nI 48) qX12_twoDigits_13 rfl ?_
  refine e_iload_n qX12_twoDigits_15 rfl ?_
  refine e_bipush (nI 10) qX12_twoDigits_16 rfl ?_
  refine e_idiv qX12_twoDigits_18 h (fun v6 h => ?_)
  refine e_iadd qX12_twoDigits_19 ?_
  obtain ⟨s7, hc, h⟩ := bp_e h
  refine e_cVv1 qX12_twoDigits_20 mv_X12_406 shq_206 rfl rfl (w_X12_lays hc) ?_
  exact e_weak (hj3 _ h) ⟨Or.inr rfl, Or.inr rfl, trivial⟩

def f_X12_tag (N : Nat) (x1 : Int32) (s0 : St) : Option (Int32 × St) :=
  vl (sI s0 206 0 (nI 0)) fun s1 =>
  bp (f_X12_isShip x1 s1) fun v2 =>
  if v2 = 0 then
    some ((-1), s1)
  else
  vl (sI s1 206 38 (nI 0)) fun s3 =>
  ald (s3.2 211) 24 ((nI 8) + x1) fun v4 =>
  bp (f_X12_spells N v4 s3) fun s5 =>
  bp (f_X12_says N (24948 : Int64) s5) fun s6 =>
  ald (s6.1 208) 359 ((nI 166) + x1) fun v7 =>
  bp (f_X12_twoDigits v7 s6) fun s8 =>
  ald (s8.1 208) 359 ((nI 170) + x1) fun v9 =>
  bp (f_X12_twoDigits v9 s8) fun s10 =>
  bp (f_X12_says N (1936024947 : Int64) s10) fun s11 =>
  bp (f_X12_seenBy N x1 s11) fun v12 =>
  bp (f_X12_bits N v12 s11) fun v13 =>
  bp (f_X12_twoDigits v13 s11) fun s14 =>
  vl (s14.1 206 38) fun v15 =>
  some (v15, s14)

theorem qX12_tag_0 : Dc mX12_tag 0 (.aload_n 0) 1 1 := ⟨by decide +kernel, rfl⟩
theorem qX12_tag_1 : Dc mX12_tag 1 (.iconst 0) 1 2 := ⟨by decide +kernel, rfl⟩
theorem qX12_tag_2 : Dc mX12_tag 2 (.putfield 1) 3 5 := ⟨by decide +kernel, rfl⟩
theorem qX12_tag_5 : Dc mX12_tag 5 (.aload_n 0) 1 6 := ⟨by decide +kernel, rfl⟩
theorem qX12_tag_6 : Dc mX12_tag 6 (.iload_n 1) 1 7 := ⟨by decide +kernel, rfl⟩
theorem qX12_tag_7 : Dc mX12_tag 7 (.invokevirtual 304) 3 10 := ⟨by decide +kernel, rfl⟩
theorem qX12_tag_10 : Dc mX12_tag 10 (.ifCond .ne 5) 3 13 := ⟨by decide +kernel, rfl⟩
theorem qX12_tag_13 : Dc mX12_tag 13 (.iconst (-1)) 1 14 := ⟨by decide +kernel, rfl⟩
theorem qX12_tag_14 : Dc mX12_tag 14 (.ireturn) 1 15 := ⟨by decide +kernel, rfl⟩
theorem qX12_tag_15 : Dc mX12_tag 15 (.aload_n 0) 1 16 := ⟨by decide +kernel, rfl⟩
theorem qX12_tag_16 : Dc mX12_tag 16 (.iconst 0) 1 17 := ⟨by decide +kernel, rfl⟩
theorem qX12_tag_17 : Dc mX12_tag 17 (.putfield 401) 3 20 := ⟨by decide +kernel, rfl⟩
theorem qX12_tag_20 : Dc mX12_tag 20 (.aload_n 0) 1 21 := ⟨by decide +kernel, rfl⟩
theorem qX12_tag_21 : Dc mX12_tag 21 (.aload_n 0) 1 22 := ⟨by decide +kernel, rfl⟩
theorem qX12_tag_22 : Dc mX12_tag 22 (.getfield 43) 3 25 := ⟨by decide +kernel, rfl⟩
theorem qX12_tag_25 : Dc mX12_tag 25 (.bipush 8) 2 27 := ⟨by decide +kernel, rfl⟩
theorem qX12_tag_27 : Dc mX12_tag 27 (.iload_n 1) 1 28 := ⟨by decide +kernel, rfl⟩
theorem qX12_tag_28 : Dc mX12_tag 28 (.iadd) 1 29 := ⟨by decide +kernel, rfl⟩
theorem qX12_tag_29 : Dc mX12_tag 29 (.laload) 1 30 := ⟨by decide +kernel, rfl⟩
theorem qX12_tag_30 : Dc mX12_tag 30 (.invokevirtual 409) 3 33 := ⟨by decide +kernel, rfl⟩
theorem qX12_tag_33 : Dc mX12_tag 33 (.aload_n 0) 1 34 := ⟨by decide +kernel, rfl⟩
theorem qX12_tag_34 : Dc mX12_tag 34 (.ldc2_w 413) 3 37 := ⟨by decide +kernel, rfl⟩
theorem qX12_tag_37 : Dc mX12_tag 37 (.invokevirtual 415) 3 40 := ⟨by decide +kernel, rfl⟩
theorem qX12_tag_40 : Dc mX12_tag 40 (.aload_n 0) 1 41 := ⟨by decide +kernel, rfl⟩
theorem qX12_tag_41 : Dc mX12_tag 41 (.aload_n 0) 1 42 := ⟨by decide +kernel, rfl⟩
theorem qX12_tag_42 : Dc mX12_tag 42 (.getfield 33) 3 45 := ⟨by decide +kernel, rfl⟩
theorem qX12_tag_45 : Dc mX12_tag 45 (.sipush 166) 3 48 := ⟨by decide +kernel, rfl⟩
theorem qX12_tag_48 : Dc mX12_tag 48 (.iload_n 1) 1 49 := ⟨by decide +kernel, rfl⟩
theorem qX12_tag_49 : Dc mX12_tag 49 (.iadd) 1 50 := ⟨by decide +kernel, rfl⟩
theorem qX12_tag_50 : Dc mX12_tag 50 (.iaload) 1 51 := ⟨by decide +kernel, rfl⟩
theorem qX12_tag_51 : Dc mX12_tag 51 (.invokevirtual 418) 3 54 := ⟨by decide +kernel, rfl⟩
theorem qX12_tag_54 : Dc mX12_tag 54 (.aload_n 0) 1 55 := ⟨by decide +kernel, rfl⟩
theorem qX12_tag_55 : Dc mX12_tag 55 (.aload_n 0) 1 56 := ⟨by decide +kernel, rfl⟩
theorem qX12_tag_56 : Dc mX12_tag 56 (.getfield 33) 3 59 := ⟨by decide +kernel, rfl⟩
theorem qX12_tag_59 : Dc mX12_tag 59 (.sipush 170) 3 62 := ⟨by decide +kernel, rfl⟩
theorem qX12_tag_62 : Dc mX12_tag 62 (.iload_n 1) 1 63 := ⟨by decide +kernel, rfl⟩
theorem qX12_tag_63 : Dc mX12_tag 63 (.iadd) 1 64 := ⟨by decide +kernel, rfl⟩
theorem qX12_tag_64 : Dc mX12_tag 64 (.iaload) 1 65 := ⟨by decide +kernel, rfl⟩
theorem qX12_tag_65 : Dc mX12_tag 65 (.invokevirtual 418) 3 68 := ⟨by decide +kernel, rfl⟩
theorem qX12_tag_68 : Dc mX12_tag 68 (.aload_n 0) 1 69 := ⟨by decide +kernel, rfl⟩
theorem qX12_tag_69 : Dc mX12_tag 69 (.ldc2_w 421) 3 72 := ⟨by decide +kernel, rfl⟩
theorem qX12_tag_72 : Dc mX12_tag 72 (.invokevirtual 415) 3 75 := ⟨by decide +kernel, rfl⟩
theorem qX12_tag_75 : Dc mX12_tag 75 (.aload_n 0) 1 76 := ⟨by decide +kernel, rfl⟩
theorem qX12_tag_76 : Dc mX12_tag 76 (.aload_n 0) 1 77 := ⟨by decide +kernel, rfl⟩
theorem qX12_tag_77 : Dc mX12_tag 77 (.iload_n 1) 1 78 := ⟨by decide +kernel, rfl⟩
theorem qX12_tag_78 : Dc mX12_tag 78 (.invokevirtual 307) 3 81 := ⟨by decide +kernel, rfl⟩
theorem qX12_tag_81 : Dc mX12_tag 81 (.invokestatic 347) 3 84 := ⟨by decide +kernel, rfl⟩
theorem qX12_tag_84 : Dc mX12_tag 84 (.invokevirtual 418) 3 87 := ⟨by decide +kernel, rfl⟩
theorem qX12_tag_87 : Dc mX12_tag 87 (.aload_n 0) 1 88 := ⟨by decide +kernel, rfl⟩
theorem qX12_tag_88 : Dc mX12_tag 88 (.getfield 401) 3 91 := ⟨by decide +kernel, rfl⟩
theorem qX12_tag_91 : Dc mX12_tag 91 (.ireturn) 1 92 := ⟨by decide +kernel, rfl⟩

set_option maxRecDepth 20000 in
set_option maxHeartbeats 4000000 in
theorem w_X12_tag {N : Nat} {x1 : Int32} {s0 : St} {r : Int32} {sr : St} (h : f_X12_tag N x1 s0 = some (r, sr)) : Ct mX12_tag 5 [.ref 206, .int x1] s0 (some (.int r), sr) := by
  refine Ct.ofE (by decide +kernel) rfl ?_
  show E mX12_tag 5 (some (.int r), sr) 0 [some (.ref 206), some (.int x1)] [] s0
  unfold f_X12_tag at h
  refine e_aload_n qX12_tag_0 rfl ?_
  refine e_iconst (nI 0) qX12_tag_1 rfl ?_
  refine e_puti qX12_tag_2 fp_X12_1 shq_206 kdq_11_0 h (fun s1 h => ?_)
  refine e_aload_n qX12_tag_5 rfl ?_
  refine e_iload_n qX12_tag_6 rfl ?_
  obtain ⟨v2, hc, h⟩ := bp_e h
  refine e_cVi1 qX12_tag_7 mv_X12_304 shq_206 rfl rfl (w_X12_isShip hc) ?_
  refine e_if_ne (tgt := 15) qX12_tag_10 rfl h (fun _ h => ?_) (fun _ h => ?_)
  · refine e_iconst (-1) qX12_tag_13 rfl ?_
    exact e_iret qX12_tag_14 rfl (ret_i h)
  refine e_aload_n qX12_tag_15 rfl ?_
  refine e_iconst (nI 0) qX12_tag_16 rfl ?_
  refine e_puti qX12_tag_17 fp_X12_401 shq_206 kdq_11_38 h (fun s3 h => ?_)
  refine e_aload_n qX12_tag_20 rfl ?_
  refine e_aload_n qX12_tag_21 rfl ?_
  refine e_getr 211 qX12_tag_22 fl_X12_43 shq_206 kdq_11_9 rrq_206_9 ?_
  refine e_bipush (nI 8) qX12_tag_25 rfl ?_
  refine e_iload_n qX12_tag_27 rfl ?_
  refine e_iadd qX12_tag_28 ?_
  refine e_lald qX12_tag_29 shq_211 lnq_211 h (fun v4 h => ?_)
  obtain ⟨s5, hc, h⟩ := bp_e h
  refine e_cVv1 qX12_tag_30 mv_X12_409 shq_206 rfl rfl (w_X12_spells hc) ?_
  refine e_aload_n qX12_tag_33 rfl ?_
  refine e_ldc2 (24948 : Int64) qX12_tag_34 cw_X12_413 ?_
  obtain ⟨s6, hc, h⟩ := bp_e h
  refine e_cVv1 qX12_tag_37 mv_X12_415 shq_206 rfl rfl (w_X12_says hc) ?_
  refine e_aload_n qX12_tag_40 rfl ?_
  refine e_aload_n qX12_tag_41 rfl ?_
  refine e_getr 208 qX12_tag_42 fl_X12_33 shq_206 kdq_11_6 rrq_206_6 ?_
  refine e_sipush (nI 166) qX12_tag_45 rfl ?_
  refine e_iload_n qX12_tag_48 rfl ?_
  refine e_iadd qX12_tag_49 ?_
  refine e_iald qX12_tag_50 shq_208 lnq_208 h (fun v7 h => ?_)
  obtain ⟨s8, hc, h⟩ := bp_e h
  refine e_cVv1 qX12_tag_51 mv_X12_418 shq_206 rfl rfl (w_X12_twoDigits hc) ?_
  refine e_aload_n qX12_tag_54 rfl ?_
  refine e_aload_n qX12_tag_55 rfl ?_
  refine e_getr 208 qX12_tag_56 fl_X12_33 shq_206 kdq_11_6 rrq_206_6 ?_
  refine e_sipush (nI 170) qX12_tag_59 rfl ?_
  refine e_iload_n qX12_tag_62 rfl ?_
  refine e_iadd qX12_tag_63 ?_
  refine e_iald qX12_tag_64 shq_208 lnq_208 h (fun v9 h => ?_)
  obtain ⟨s10, hc, h⟩ := bp_e h
  refine e_cVv1 qX12_tag_65 mv_X12_418 shq_206 rfl rfl (w_X12_twoDigits hc) ?_
  refine e_aload_n qX12_tag_68 rfl ?_
  refine e_ldc2 (1936024947 : Int64) qX12_tag_69 cw_X12_421 ?_
  obtain ⟨s11, hc, h⟩ := bp_e h
  refine e_cVv1 qX12_tag_72 mv_X12_415 shq_206 rfl rfl (w_X12_says hc) ?_
  refine e_aload_n qX12_tag_75 rfl ?_
  refine e_aload_n qX12_tag_76 rfl ?_
  refine e_iload_n qX12_tag_77 rfl ?_
  obtain ⟨v12, hc, h⟩ := bp_e h
  refine e_cVi1 qX12_tag_78 mv_X12_307 shq_206 rfl rfl (w_X12_seenBy hc) ?_
  obtain ⟨v13, hc, h⟩ := bp_e h
  refine e_cSi1 qX12_tag_81 ms_X12_347 rfl rfl (w_X12_bits hc) ?_
  obtain ⟨s14, hc, h⟩ := bp_e h
  refine e_cVv1 qX12_tag_84 mv_X12_418 shq_206 rfl rfl (w_X12_twoDigits hc) ?_
  refine e_aload_n qX12_tag_87 rfl ?_
  refine e_geti qX12_tag_88 fl_X12_401 shq_206 kdq_11_38 h (fun v15 h => ?_)
  exact e_iret qX12_tag_91 rfl (ret_i h)

def f_X12_byteAt (x1 : Int32) (s0 : St) : Option (Int32 × St) :=
  vl (sI s0 206 0 (nI 0)) fun s1 =>
  vl (s1.1 206 38) fun v2 =>
  bp (f_X12_isIn x1 (nI 0) (v2 - (nI 1)) s1) fun v3 =>
  if v3 = 0 then
    some ((-1), s1)
  else
  ald (s1.1 218) 40 x1 fun v4 =>
  some (v4, s1)

theorem qX12_byteAt_0 : Dc mX12_byteAt 0 (.aload_n 0) 1 1 := ⟨by decide +kernel, rfl⟩
theorem qX12_byteAt_1 : Dc mX12_byteAt 1 (.iconst 0) 1 2 := ⟨by decide +kernel, rfl⟩
theorem qX12_byteAt_2 : Dc mX12_byteAt 2 (.putfield 1) 3 5 := ⟨by decide +kernel, rfl⟩
theorem qX12_byteAt_5 : Dc mX12_byteAt 5 (.iload_n 1) 1 6 := ⟨by decide +kernel, rfl⟩
theorem qX12_byteAt_6 : Dc mX12_byteAt 6 (.iconst 0) 1 7 := ⟨by decide +kernel, rfl⟩
theorem qX12_byteAt_7 : Dc mX12_byteAt 7 (.aload_n 0) 1 8 := ⟨by decide +kernel, rfl⟩
theorem qX12_byteAt_8 : Dc mX12_byteAt 8 (.getfield 401) 3 11 := ⟨by decide +kernel, rfl⟩
theorem qX12_byteAt_11 : Dc mX12_byteAt 11 (.iconst 1) 1 12 := ⟨by decide +kernel, rfl⟩
theorem qX12_byteAt_12 : Dc mX12_byteAt 12 (.isub) 1 13 := ⟨by decide +kernel, rfl⟩
theorem qX12_byteAt_13 : Dc mX12_byteAt 13 (.invokestatic 186) 3 16 := ⟨by decide +kernel, rfl⟩
theorem qX12_byteAt_16 : Dc mX12_byteAt 16 (.ifCond .eq 12) 3 19 := ⟨by decide +kernel, rfl⟩
theorem qX12_byteAt_19 : Dc mX12_byteAt 19 (.aload_n 0) 1 20 := ⟨by decide +kernel, rfl⟩
theorem qX12_byteAt_20 : Dc mX12_byteAt 20 (.getfield 66) 3 23 := ⟨by decide +kernel, rfl⟩
theorem qX12_byteAt_23 : Dc mX12_byteAt 23 (.iload_n 1) 1 24 := ⟨by decide +kernel, rfl⟩
theorem qX12_byteAt_24 : Dc mX12_byteAt 24 (.baload) 1 25 := ⟨by decide +kernel, rfl⟩
theorem qX12_byteAt_25 : Dc mX12_byteAt 25 (.goto 4) 3 28 := ⟨by decide +kernel, rfl⟩
theorem qX12_byteAt_28 : Dc mX12_byteAt 28 (.iconst (-1)) 1 29 := ⟨by decide +kernel, rfl⟩
theorem qX12_byteAt_29 : Dc mX12_byteAt 29 (.ireturn) 1 30 := ⟨by decide +kernel, rfl⟩

set_option maxRecDepth 20000 in
set_option maxHeartbeats 4000000 in
theorem w_X12_byteAt {x1 : Int32} {s0 : St} {r : Int32} {sr : St} (h : f_X12_byteAt x1 s0 = some (r, sr)) : Ct mX12_byteAt 1 [.ref 206, .int x1] s0 (some (.int r), sr) := by
  refine Ct.ofE (by decide +kernel) rfl ?_
  show E mX12_byteAt 1 (some (.int r), sr) 0 [some (.ref 206), some (.int x1)] [] s0
  unfold f_X12_byteAt at h
  refine e_aload_n qX12_byteAt_0 rfl ?_
  refine e_iconst (nI 0) qX12_byteAt_1 rfl ?_
  refine e_puti qX12_byteAt_2 fp_X12_1 shq_206 kdq_11_0 h (fun s1 h => ?_)
  refine e_iload_n qX12_byteAt_5 rfl ?_
  refine e_iconst (nI 0) qX12_byteAt_6 rfl ?_
  refine e_aload_n qX12_byteAt_7 rfl ?_
  refine e_geti qX12_byteAt_8 fl_X12_401 shq_206 kdq_11_38 h (fun v2 h => ?_)
  refine e_iconst (nI 1) qX12_byteAt_11 rfl ?_
  refine e_isub qX12_byteAt_12 ?_
  obtain ⟨v3, hc, h⟩ := bp_e h
  refine e_cSi3 qX12_byteAt_13 ms_X12_186 rfl rfl (w_X12_isIn hc) ?_
  refine e_if_eq (tgt := 28) qX12_byteAt_16 rfl h (fun _ h => ?_) (fun _ h => ?_)
  · refine e_iconst (-1) qX12_byteAt_28 rfl ?_
    exact e_iret qX12_byteAt_29 rfl (ret_i h)
  refine e_aload_n qX12_byteAt_19 rfl ?_
  refine e_getr 218 qX12_byteAt_20 fl_X12_66 shq_206 kdq_11_37 rrq_206_37 ?_
  refine e_iload_n qX12_byteAt_23 rfl ?_
  refine e_bald qX12_byteAt_24 shq_218 lnq_218 h (fun v4 h => ?_)
  refine e_goto (tgt := 29) qX12_byteAt_25 rfl ?_
  exact e_iret qX12_byteAt_29 rfl (ret_i h)

def f_X12_draw (x1 : Int32) (s0 : St) : Option (Int32 × St) :=
  vl (s0.1 206 39) fun v1 =>
  vl (sI s0 206 39 ((v1 * (1103515245 : Int32)) + (nI 12345))) fun s2 =>
  vl (s2.1 206 39) fun v3 =>
  rm_ (ush v3 (nI 8)) x1 fun v4 =>
  some (v4, s2)

theorem qX12_draw_0 : Dc mX12_draw 0 (.aload_n 0) 1 1 := ⟨by decide +kernel, rfl⟩
theorem qX12_draw_1 : Dc mX12_draw 1 (.aload_n 0) 1 2 := ⟨by decide +kernel, rfl⟩
theorem qX12_draw_2 : Dc mX12_draw 2 (.getfield 423) 3 5 := ⟨by decide +kernel, rfl⟩
theorem qX12_draw_5 : Dc mX12_draw 5 (.ldc_w 426) 3 8 := ⟨by decide +kernel, rfl⟩
theorem qX12_draw_8 : Dc mX12_draw 8 (.imul) 1 9 := ⟨by decide +kernel, rfl⟩
theorem qX12_draw_9 : Dc mX12_draw 9 (.sipush 12345) 3 12 := ⟨by decide +kernel, rfl⟩
theorem qX12_draw_12 : Dc mX12_draw 12 (.iadd) 1 13 := ⟨by decide +kernel, rfl⟩
theorem qX12_draw_13 : Dc mX12_draw 13 (.putfield 423) 3 16 := ⟨by decide +kernel, rfl⟩
theorem qX12_draw_16 : Dc mX12_draw 16 (.aload_n 0) 1 17 := ⟨by decide +kernel, rfl⟩
theorem qX12_draw_17 : Dc mX12_draw 17 (.getfield 423) 3 20 := ⟨by decide +kernel, rfl⟩
theorem qX12_draw_20 : Dc mX12_draw 20 (.bipush 8) 2 22 := ⟨by decide +kernel, rfl⟩
theorem qX12_draw_22 : Dc mX12_draw 22 (.iushr) 1 23 := ⟨by decide +kernel, rfl⟩
theorem qX12_draw_23 : Dc mX12_draw 23 (.iload_n 1) 1 24 := ⟨by decide +kernel, rfl⟩
theorem qX12_draw_24 : Dc mX12_draw 24 (.irem) 1 25 := ⟨by decide +kernel, rfl⟩
theorem qX12_draw_25 : Dc mX12_draw 25 (.ireturn) 1 26 := ⟨by decide +kernel, rfl⟩

set_option maxRecDepth 20000 in
set_option maxHeartbeats 4000000 in
theorem w_X12_draw {x1 : Int32} {s0 : St} {r : Int32} {sr : St} (h : f_X12_draw x1 s0 = some (r, sr)) : Ct mX12_draw 0 [.ref 206, .int x1] s0 (some (.int r), sr) := by
  refine Ct.ofE (by decide +kernel) rfl ?_
  show E mX12_draw 0 (some (.int r), sr) 0 [some (.ref 206), some (.int x1)] [] s0
  unfold f_X12_draw at h
  refine e_aload_n qX12_draw_0 rfl ?_
  refine e_aload_n qX12_draw_1 rfl ?_
  refine e_geti qX12_draw_2 fl_X12_423 shq_206 kdq_11_39 h (fun v1 h => ?_)
  refine e_ldcw (1103515245 : Int32) qX12_draw_5 cw_X12_426 ?_
  refine e_imul qX12_draw_8 ?_
  refine e_sipush (nI 12345) qX12_draw_9 rfl ?_
  refine e_iadd qX12_draw_12 ?_
  refine e_puti qX12_draw_13 fp_X12_423 shq_206 kdq_11_39 h (fun s2 h => ?_)
  refine e_aload_n qX12_draw_16 rfl ?_
  refine e_geti qX12_draw_17 fl_X12_423 shq_206 kdq_11_39 h (fun v3 h => ?_)
  refine e_bipush (nI 8) qX12_draw_20 rfl ?_
  refine e_iushr qX12_draw_22 ?_
  refine e_iload_n qX12_draw_23 rfl ?_
  refine e_irem qX12_draw_24 h (fun v4 h => ?_)
  exact e_iret qX12_draw_25 rfl (ret_i h)

def f_X12_drawSecond  (s0 : St) : Option (St) :=
  bd (f_X12_draw (nI 6) s0) fun v1 s2 =>
  jn (jn (jn (if v1 = (nI 3) then
          bd (f_X12_draw (nI 30) s2) fun v6 s7 =>
          ald (fun j => sI s7 208 j (v6 + (nI 1))) 359 (nI 149) fun s8 =>
          some s8
        else
        some s2) fun j5 =>
      if v1 = (nI 2) then
        ald (s2.1 208) 359 (nI 0) fun v9 =>
        if v9 ≤ 0 then
          j5
        else
        ald (s2.1 208) 359 (nI 0) fun v10 =>
        bd (f_X12_draw v10 s2) fun v11 s12 =>
        bd (f_X12_draw (nI 20) s12) fun v13 s14 =>
        vl (v13 + (nI 1)) fun v15 =>
        bp (f_X12_whyFill v11 v15 s14) fun v16 =>
        jn (fun (s17 : St) =>
          some s17) fun j18 =>
        if v16 = 0 then
          ald (s14.1 208) 359 ((nI 150) + v11) fun v19 =>
          ald (fun j => sI s14 208 j (v19 + v15)) 359 ((nI 150) + v11) fun s20 =>
          j18 s20
        else
        j18 s14
      else
      j5) fun j4 =>
    if v1 = (nI 1) then
      ald (s2.1 208) 359 (nI 1) fun v21 =>
      if v21 ≤ 0 then
        j4
      else
      ald (s2.1 208) 359 (nI 1) fun v22 =>
      bd (f_X12_draw v22 s2) fun v23 s24 =>
      bd (f_X12_draw (nI 9) s24) fun v25 s26 =>
      ald (fun j => sI s26 208 j v25) 359 ((nI 174) + v23) fun s27 =>
      some s27
    else
    j4) fun j3 =>
  if v1 = 0 then
    ald (s2.1 208) 359 (nI 0) fun v28 =>
    if v28 ≤ 0 then
      j3
    else
    ald (s2.1 208) 359 (nI 0) fun v29 =>
    bd (f_X12_draw v29 s2) fun v30 s31 =>
    ald (s31.1 208) 359 (nI 148) fun v32 =>
    bp (f_X12_bitOf v32 v30 s31) fun v33 =>
    jn (fun (s34 : St) =>
      some s34) fun j35 =>
    if v33 = 0 then
      ald (s31.1 208) 359 (nI 148) fun v36 =>
      ald (fun j => sI s31 208 j (v36 ||| ((nI 1) <<< (v30 &&& 31)))) 359 (nI 148) fun s37 =>
      j35 s37
    else
    bp (f_X12_whyKindle v30 s31) fun v38 =>
    if v38 = 0 then
      ald (s31.1 208) 359 (nI 148) fun v39 =>
      ald (fun j => sI s31 208 j (v39 &&& (((nI 1) <<< (v30 &&& 31)) ^^^ (-1)))) 359 (nI 148) fun s40 =>
      j35 s40
    else
    j35 s31
  else
  j3

theorem qX12_drawSecond_0 : Dc mX12_drawSecond 0 (.aload_n 0) 1 1 := ⟨by decide +kernel, rfl⟩
theorem qX12_drawSecond_1 : Dc mX12_drawSecond 1 (.bipush 6) 2 3 := ⟨by decide +kernel, rfl⟩
theorem qX12_drawSecond_3 : Dc mX12_drawSecond 3 (.invokevirtual 427) 3 6 := ⟨by decide +kernel, rfl⟩
theorem qX12_drawSecond_6 : Dc mX12_drawSecond 6 (.istore_n 1) 1 7 := ⟨by decide +kernel, rfl⟩
theorem qX12_drawSecond_7 : Dc mX12_drawSecond 7 (.iload_n 1) 1 8 := ⟨by decide +kernel, rfl⟩
theorem qX12_drawSecond_8 : Dc mX12_drawSecond 8 (.ifCond .ne 82) 3 11 := ⟨by decide +kernel, rfl⟩
theorem qX12_drawSecond_11 : Dc mX12_drawSecond 11 (.aload_n 0) 1 12 := ⟨by decide +kernel, rfl⟩
theorem qX12_drawSecond_12 : Dc mX12_drawSecond 12 (.getfield 33) 3 15 := ⟨by decide +kernel, rfl⟩
theorem qX12_drawSecond_15 : Dc mX12_drawSecond 15 (.iconst 0) 1 16 := ⟨by decide +kernel, rfl⟩
theorem qX12_drawSecond_16 : Dc mX12_drawSecond 16 (.iaload) 1 17 := ⟨by decide +kernel, rfl⟩
theorem qX12_drawSecond_17 : Dc mX12_drawSecond 17 (.ifCond .le 73) 3 20 := ⟨by decide +kernel, rfl⟩
theorem qX12_drawSecond_20 : Dc mX12_drawSecond 20 (.aload_n 0) 1 21 := ⟨by decide +kernel, rfl⟩
theorem qX12_drawSecond_21 : Dc mX12_drawSecond 21 (.aload_n 0) 1 22 := ⟨by decide +kernel, rfl⟩
theorem qX12_drawSecond_22 : Dc mX12_drawSecond 22 (.getfield 33) 3 25 := ⟨by decide +kernel, rfl⟩
theorem qX12_drawSecond_25 : Dc mX12_drawSecond 25 (.iconst 0) 1 26 := ⟨by decide +kernel, rfl⟩
theorem qX12_drawSecond_26 : Dc mX12_drawSecond 26 (.iaload) 1 27 := ⟨by decide +kernel, rfl⟩
theorem qX12_drawSecond_27 : Dc mX12_drawSecond 27 (.invokevirtual 427) 3 30 := ⟨by decide +kernel, rfl⟩
theorem qX12_drawSecond_30 : Dc mX12_drawSecond 30 (.istore_n 2) 1 31 := ⟨by decide +kernel, rfl⟩
theorem qX12_drawSecond_31 : Dc mX12_drawSecond 31 (.aload_n 0) 1 32 := ⟨by decide +kernel, rfl⟩
theorem qX12_drawSecond_32 : Dc mX12_drawSecond 32 (.getfield 33) 3 35 := ⟨by decide +kernel, rfl⟩
theorem qX12_drawSecond_35 : Dc mX12_drawSecond 35 (.sipush 148) 3 38 := ⟨by decide +kernel, rfl⟩
theorem qX12_drawSecond_38 : Dc mX12_drawSecond 38 (.iaload) 1 39 := ⟨by decide +kernel, rfl⟩
theorem qX12_drawSecond_39 : Dc mX12_drawSecond 39 (.iload_n 2) 1 40 := ⟨by decide +kernel, rfl⟩
theorem qX12_drawSecond_40 : Dc mX12_drawSecond 40 (.invokestatic 240) 3 43 := ⟨by decide +kernel, rfl⟩
theorem qX12_drawSecond_43 : Dc mX12_drawSecond 43 (.ifCond .ne 20) 3 46 := ⟨by decide +kernel, rfl⟩
theorem qX12_drawSecond_46 : Dc mX12_drawSecond 46 (.aload_n 0) 1 47 := ⟨by decide +kernel, rfl⟩
theorem qX12_drawSecond_47 : Dc mX12_drawSecond 47 (.getfield 33) 3 50 := ⟨by decide +kernel, rfl⟩
theorem qX12_drawSecond_50 : Dc mX12_drawSecond 50 (.sipush 148) 3 53 := ⟨by decide +kernel, rfl⟩
theorem qX12_drawSecond_53 : Dc mX12_drawSecond 53 (.dup2) 1 54 := ⟨by decide +kernel, rfl⟩
theorem qX12_drawSecond_54 : Dc mX12_drawSecond 54 (.iaload) 1 55 := ⟨by decide +kernel, rfl⟩
theorem qX12_drawSecond_55 : Dc mX12_drawSecond 55 (.iconst 1) 1 56 := ⟨by decide +kernel, rfl⟩
theorem qX12_drawSecond_56 : Dc mX12_drawSecond 56 (.iload_n 2) 1 57 := ⟨by decide +kernel, rfl⟩
theorem qX12_drawSecond_57 : Dc mX12_drawSecond 57 (.ishl) 1 58 := ⟨by decide +kernel, rfl⟩
theorem qX12_drawSecond_58 : Dc mX12_drawSecond 58 (.ior) 1 59 := ⟨by decide +kernel, rfl⟩
theorem qX12_drawSecond_59 : Dc mX12_drawSecond 59 (.iastore) 1 60 := ⟨by decide +kernel, rfl⟩
theorem qX12_drawSecond_60 : Dc mX12_drawSecond 60 (.goto 27) 3 63 := ⟨by decide +kernel, rfl⟩
theorem qX12_drawSecond_63 : Dc mX12_drawSecond 63 (.aload_n 0) 1 64 := ⟨by decide +kernel, rfl⟩
theorem qX12_drawSecond_64 : Dc mX12_drawSecond 64 (.iload_n 2) 1 65 := ⟨by decide +kernel, rfl⟩
theorem qX12_drawSecond_65 : Dc mX12_drawSecond 65 (.invokevirtual 328) 3 68 := ⟨by decide +kernel, rfl⟩
theorem qX12_drawSecond_68 : Dc mX12_drawSecond 68 (.ifCond .ne 19) 3 71 := ⟨by decide +kernel, rfl⟩
theorem qX12_drawSecond_71 : Dc mX12_drawSecond 71 (.aload_n 0) 1 72 := ⟨by decide +kernel, rfl⟩
theorem qX12_drawSecond_72 : Dc mX12_drawSecond 72 (.getfield 33) 3 75 := ⟨by decide +kernel, rfl⟩
theorem qX12_drawSecond_75 : Dc mX12_drawSecond 75 (.sipush 148) 3 78 := ⟨by decide +kernel, rfl⟩
theorem qX12_drawSecond_78 : Dc mX12_drawSecond 78 (.dup2) 1 79 := ⟨by decide +kernel, rfl⟩
theorem qX12_drawSecond_79 : Dc mX12_drawSecond 79 (.iaload) 1 80 := ⟨by decide +kernel, rfl⟩
theorem qX12_drawSecond_80 : Dc mX12_drawSecond 80 (.iconst 1) 1 81 := ⟨by decide +kernel, rfl⟩
theorem qX12_drawSecond_81 : Dc mX12_drawSecond 81 (.iload_n 2) 1 82 := ⟨by decide +kernel, rfl⟩
theorem qX12_drawSecond_82 : Dc mX12_drawSecond 82 (.ishl) 1 83 := ⟨by decide +kernel, rfl⟩
theorem qX12_drawSecond_83 : Dc mX12_drawSecond 83 (.iconst (-1)) 1 84 := ⟨by decide +kernel, rfl⟩
theorem qX12_drawSecond_84 : Dc mX12_drawSecond 84 (.ixor) 1 85 := ⟨by decide +kernel, rfl⟩
theorem qX12_drawSecond_85 : Dc mX12_drawSecond 85 (.iand) 1 86 := ⟨by decide +kernel, rfl⟩
theorem qX12_drawSecond_86 : Dc mX12_drawSecond 86 (.iastore) 1 87 := ⟨by decide +kernel, rfl⟩
theorem qX12_drawSecond_87 : Dc mX12_drawSecond 87 (.goto 128) 3 90 := ⟨by decide +kernel, rfl⟩
theorem qX12_drawSecond_90 : Dc mX12_drawSecond 90 (.iload_n 1) 1 91 := ⟨by decide +kernel, rfl⟩
theorem qX12_drawSecond_91 : Dc mX12_drawSecond 91 (.iconst 1) 1 92 := ⟨by decide +kernel, rfl⟩
theorem qX12_drawSecond_92 : Dc mX12_drawSecond 92 (.if_icmp .ne 42) 3 95 := ⟨by decide +kernel, rfl⟩
theorem qX12_drawSecond_95 : Dc mX12_drawSecond 95 (.aload_n 0) 1 96 := ⟨by decide +kernel, rfl⟩
theorem qX12_drawSecond_96 : Dc mX12_drawSecond 96 (.getfield 33) 3 99 := ⟨by decide +kernel, rfl⟩
theorem qX12_drawSecond_99 : Dc mX12_drawSecond 99 (.iconst 1) 1 100 := ⟨by decide +kernel, rfl⟩
theorem qX12_drawSecond_100 : Dc mX12_drawSecond 100 (.iaload) 1 101 := ⟨by decide +kernel, rfl⟩
theorem qX12_drawSecond_101 : Dc mX12_drawSecond 101 (.ifCond .le 33) 3 104 := ⟨by decide +kernel, rfl⟩
theorem qX12_drawSecond_104 : Dc mX12_drawSecond 104 (.aload_n 0) 1 105 := ⟨by decide +kernel, rfl⟩
theorem qX12_drawSecond_105 : Dc mX12_drawSecond 105 (.aload_n 0) 1 106 := ⟨by decide +kernel, rfl⟩
theorem qX12_drawSecond_106 : Dc mX12_drawSecond 106 (.getfield 33) 3 109 := ⟨by decide +kernel, rfl⟩
theorem qX12_drawSecond_109 : Dc mX12_drawSecond 109 (.iconst 1) 1 110 := ⟨by decide +kernel, rfl⟩
theorem qX12_drawSecond_110 : Dc mX12_drawSecond 110 (.iaload) 1 111 := ⟨by decide +kernel, rfl⟩
theorem qX12_drawSecond_111 : Dc mX12_drawSecond 111 (.invokevirtual 427) 3 114 := ⟨by decide +kernel, rfl⟩
theorem qX12_drawSecond_114 : Dc mX12_drawSecond 114 (.istore_n 2) 1 115 := ⟨by decide +kernel, rfl⟩
theorem qX12_drawSecond_115 : Dc mX12_drawSecond 115 (.aload_n 0) 1 116 := ⟨by decide +kernel, rfl⟩
theorem qX12_drawSecond_116 : Dc mX12_drawSecond 116 (.getfield 33) 3 119 := ⟨by decide +kernel, rfl⟩
theorem qX12_drawSecond_119 : Dc mX12_drawSecond 119 (.sipush 174) 3 122 := ⟨by decide +kernel, rfl⟩
theorem qX12_drawSecond_122 : Dc mX12_drawSecond 122 (.iload_n 2) 1 123 := ⟨by decide +kernel, rfl⟩
theorem qX12_drawSecond_123 : Dc mX12_drawSecond 123 (.iadd) 1 124 := ⟨by decide +kernel, rfl⟩
theorem qX12_drawSecond_124 : Dc mX12_drawSecond 124 (.aload_n 0) 1 125 := ⟨by decide +kernel, rfl⟩
theorem qX12_drawSecond_125 : Dc mX12_drawSecond 125 (.bipush 9) 2 127 := ⟨by decide +kernel, rfl⟩
theorem qX12_drawSecond_127 : Dc mX12_drawSecond 127 (.invokevirtual 427) 3 130 := ⟨by decide +kernel, rfl⟩
theorem qX12_drawSecond_130 : Dc mX12_drawSecond 130 (.iastore) 1 131 := ⟨by decide +kernel, rfl⟩
theorem qX12_drawSecond_131 : Dc mX12_drawSecond 131 (.goto 84) 3 134 := ⟨by decide +kernel, rfl⟩
theorem qX12_drawSecond_134 : Dc mX12_drawSecond 134 (.iload_n 1) 1 135 := ⟨by decide +kernel, rfl⟩
theorem qX12_drawSecond_135 : Dc mX12_drawSecond 135 (.iconst 2) 1 136 := ⟨by decide +kernel, rfl⟩
theorem qX12_drawSecond_136 : Dc mX12_drawSecond 136 (.if_icmp .ne 58) 3 139 := ⟨by decide +kernel, rfl⟩
theorem qX12_drawSecond_139 : Dc mX12_drawSecond 139 (.aload_n 0) 1 140 := ⟨by decide +kernel, rfl⟩
theorem qX12_drawSecond_140 : Dc mX12_drawSecond 140 (.getfield 33) 3 143 := ⟨by decide +kernel, rfl⟩
theorem qX12_drawSecond_143 : Dc mX12_drawSecond 143 (.iconst 0) 1 144 := ⟨by decide +kernel, rfl⟩
theorem qX12_drawSecond_144 : Dc mX12_drawSecond 144 (.iaload) 1 145 := ⟨by decide +kernel, rfl⟩
theorem qX12_drawSecond_145 : Dc mX12_drawSecond 145 (.ifCond .le 49) 3 148 := ⟨by decide +kernel, rfl⟩
theorem qX12_drawSecond_148 : Dc mX12_drawSecond 148 (.aload_n 0) 1 149 := ⟨by decide +kernel, rfl⟩
theorem qX12_drawSecond_149 : Dc mX12_drawSecond 149 (.aload_n 0) 1 150 := ⟨by decide +kernel, rfl⟩
theorem qX12_drawSecond_150 : Dc mX12_drawSecond 150 (.getfield 33) 3 153 := ⟨by decide +kernel, rfl⟩
theorem qX12_drawSecond_153 : Dc mX12_drawSecond 153 (.iconst 0) 1 154 := ⟨by decide +kernel, rfl⟩
theorem qX12_drawSecond_154 : Dc mX12_drawSecond 154 (.iaload) 1 155 := ⟨by decide +kernel, rfl⟩
theorem qX12_drawSecond_155 : Dc mX12_drawSecond 155 (.invokevirtual 427) 3 158 := ⟨by decide +kernel, rfl⟩
theorem qX12_drawSecond_158 : Dc mX12_drawSecond 158 (.istore_n 2) 1 159 := ⟨by decide +kernel, rfl⟩
theorem qX12_drawSecond_159 : Dc mX12_drawSecond 159 (.aload_n 0) 1 160 := ⟨by decide +kernel, rfl⟩
theorem qX12_drawSecond_160 : Dc mX12_drawSecond 160 (.bipush 20) 2 162 := ⟨by decide +kernel, rfl⟩
theorem qX12_drawSecond_162 : Dc mX12_drawSecond 162 (.invokevirtual 427) 3 165 := ⟨by decide +kernel, rfl⟩
theorem qX12_drawSecond_165 : Dc mX12_drawSecond 165 (.iconst 1) 1 166 := ⟨by decide +kernel, rfl⟩
theorem qX12_drawSecond_166 : Dc mX12_drawSecond 166 (.iadd) 1 167 := ⟨by decide +kernel, rfl⟩
theorem qX12_drawSecond_167 : Dc mX12_drawSecond 167 (.istore_n 3) 1 168 := ⟨by decide +kernel, rfl⟩
theorem qX12_drawSecond_168 : Dc mX12_drawSecond 168 (.aload_n 0) 1 169 := ⟨by decide +kernel, rfl⟩
theorem qX12_drawSecond_169 : Dc mX12_drawSecond 169 (.iload_n 2) 1 170 := ⟨by decide +kernel, rfl⟩
theorem qX12_drawSecond_170 : Dc mX12_drawSecond 170 (.iload_n 3) 1 171 := ⟨by decide +kernel, rfl⟩
theorem qX12_drawSecond_171 : Dc mX12_drawSecond 171 (.invokevirtual 331) 3 174 := ⟨by decide +kernel, rfl⟩
theorem qX12_drawSecond_174 : Dc mX12_drawSecond 174 (.ifCond .ne 17) 3 177 := ⟨by decide +kernel, rfl⟩
theorem qX12_drawSecond_177 : Dc mX12_drawSecond 177 (.aload_n 0) 1 178 := ⟨by decide +kernel, rfl⟩
theorem qX12_drawSecond_178 : Dc mX12_drawSecond 178 (.getfield 33) 3 181 := ⟨by decide +kernel, rfl⟩
theorem qX12_drawSecond_181 : Dc mX12_drawSecond 181 (.sipush 150) 3 184 := ⟨by decide +kernel, rfl⟩
theorem qX12_drawSecond_184 : Dc mX12_drawSecond 184 (.iload_n 2) 1 185 := ⟨by decide +kernel, rfl⟩
theorem qX12_drawSecond_185 : Dc mX12_drawSecond 185 (.iadd) 1 186 := ⟨by decide +kernel, rfl⟩
theorem qX12_drawSecond_186 : Dc mX12_drawSecond 186 (.dup2) 1 187 := ⟨by decide +kernel, rfl⟩
theorem qX12_drawSecond_187 : Dc mX12_drawSecond 187 (.iaload) 1 188 := ⟨by decide +kernel, rfl⟩
theorem qX12_drawSecond_188 : Dc mX12_drawSecond 188 (.iload_n 3) 1 189 := ⟨by decide +kernel, rfl⟩
theorem qX12_drawSecond_189 : Dc mX12_drawSecond 189 (.iadd) 1 190 := ⟨by decide +kernel, rfl⟩
theorem qX12_drawSecond_190 : Dc mX12_drawSecond 190 (.iastore) 1 191 := ⟨by decide +kernel, rfl⟩
theorem qX12_drawSecond_191 : Dc mX12_drawSecond 191 (.goto 24) 3 194 := ⟨by decide +kernel, rfl⟩
theorem qX12_drawSecond_194 : Dc mX12_drawSecond 194 (.iload_n 1) 1 195 := ⟨by decide +kernel, rfl⟩
theorem qX12_drawSecond_195 : Dc mX12_drawSecond 195 (.iconst 3) 1 196 := ⟨by decide +kernel, rfl⟩
theorem qX12_drawSecond_196 : Dc mX12_drawSecond 196 (.if_icmp .ne 19) 3 199 := ⟨by decide +kernel, rfl⟩
theorem qX12_drawSecond_199 : Dc mX12_drawSecond 199 (.aload_n 0) 1 200 := ⟨by decide +kernel, rfl⟩
theorem qX12_drawSecond_200 : Dc mX12_drawSecond 200 (.getfield 33) 3 203 := ⟨by decide +kernel, rfl⟩
theorem qX12_drawSecond_203 : Dc mX12_drawSecond 203 (.sipush 149) 3 206 := ⟨by decide +kernel, rfl⟩
theorem qX12_drawSecond_206 : Dc mX12_drawSecond 206 (.aload_n 0) 1 207 := ⟨by decide +kernel, rfl⟩
theorem qX12_drawSecond_207 : Dc mX12_drawSecond 207 (.bipush 30) 2 209 := ⟨by decide +kernel, rfl⟩
theorem qX12_drawSecond_209 : Dc mX12_drawSecond 209 (.invokevirtual 427) 3 212 := ⟨by decide +kernel, rfl⟩
theorem qX12_drawSecond_212 : Dc mX12_drawSecond 212 (.iconst 1) 1 213 := ⟨by decide +kernel, rfl⟩
theorem qX12_drawSecond_213 : Dc mX12_drawSecond 213 (.iadd) 1 214 := ⟨by decide +kernel, rfl⟩
theorem qX12_drawSecond_214 : Dc mX12_drawSecond 214 (.iastore) 1 215 := ⟨by decide +kernel, rfl⟩
theorem qX12_drawSecond_215 : Dc mX12_drawSecond 215 (.return_) 1 216 := ⟨by decide +kernel, rfl⟩

set_option maxRecDepth 20000 in
set_option maxHeartbeats 4000000 in
theorem w_X12_drawSecond  {s0 : St} {sr : St} (h : f_X12_drawSecond  s0 = some sr) : Ct mX12_drawSecond 2 [.ref 206] s0 (none, sr) := by
  refine Ct.ofE (by decide +kernel) rfl ?_
  show E mX12_drawSecond 2 (none, sr) 0 [some (.ref 206), none, none, none] [] s0
  unfold f_X12_drawSecond at h
  refine e_aload_n qX12_drawSecond_0 rfl ?_
  refine e_bipush (nI 6) qX12_drawSecond_1 rfl ?_
  obtain ⟨v1, s2, hc, h⟩ := bd_e h
  refine e_cVi1 qX12_drawSecond_3 mv_X12_427 shq_206 rfl rfl (w_X12_draw hc) ?_
  refine e_istore_n (lv2 := [some (.ref 206), some (.int v1), none, none]) qX12_drawSecond_6 rfl rfl rfl ?_
  refine e_iload_n qX12_drawSecond_7 rfl ?_
  refine jn_e (fun j => j = some sr → E mX12_drawSecond 2 (none, sr) 90 [some (.ref 206), some (.int v1), none, none] [] s2) h ?_ (fun j3 hj3 h => ?_)
  · intro h
    refine e_iload_n qX12_drawSecond_90 rfl ?_
    refine e_iconst (nI 1) qX12_drawSecond_91 rfl ?_
    refine jn_e (fun j => j = some sr → E mX12_drawSecond 2 (none, sr) 134 [some (.ref 206), some (.int v1), none, none] [] s2) h ?_ (fun j4 hj4 h => ?_)
    · intro h
      refine e_iload_n qX12_drawSecond_134 rfl ?_
      refine e_iconst (nI 2) qX12_drawSecond_135 rfl ?_
      refine jn_e (fun j => j = some sr → E mX12_drawSecond 2 (none, sr) 194 [some (.ref 206), some (.int v1), none, none] [] s2) h ?_ (fun j5 hj5 h => ?_)
      · intro h
        refine e_iload_n qX12_drawSecond_194 rfl ?_
        refine e_iconst (nI 3) qX12_drawSecond_195 rfl ?_
        refine e_icmp_ne (tgt := 215) qX12_drawSecond_196 rfl h (fun _ h => ?_) (fun _ h => ?_)
        · refine e_aload_n qX12_drawSecond_199 rfl ?_
          refine e_getr 208 qX12_drawSecond_200 fl_X12_33 shq_206 kdq_11_6 rrq_206_6 ?_
          refine e_sipush (nI 149) qX12_drawSecond_203 rfl ?_
          refine e_aload_n qX12_drawSecond_206 rfl ?_
          refine e_bipush (nI 30) qX12_drawSecond_207 rfl ?_
          obtain ⟨v6, s7, hc, h⟩ := bd_e h
          refine e_cVi1 qX12_drawSecond_209 mv_X12_427 shq_206 rfl rfl (w_X12_draw hc) ?_
          refine e_iconst (nI 1) qX12_drawSecond_212 rfl ?_
          refine e_iadd qX12_drawSecond_213 ?_
          refine e_iast qX12_drawSecond_214 shq_208 lnq_208 h (fun s8 h => ?_)
          exact e_vret qX12_drawSecond_215 rfl (ret_v h)
        exact e_vret qX12_drawSecond_215 rfl (ret_v h)
      refine e_icmp_ne (tgt := 194) qX12_drawSecond_136 rfl h (fun _ h => ?_) (fun _ h => ?_)
      · refine e_aload_n qX12_drawSecond_139 rfl ?_
        refine e_getr 208 qX12_drawSecond_140 fl_X12_33 shq_206 kdq_11_6 rrq_206_6 ?_
        refine e_iconst (nI 0) qX12_drawSecond_143 rfl ?_
        refine e_iald qX12_drawSecond_144 shq_208 lnq_208 h (fun v9 h => ?_)
        refine e_if_le (tgt := 194) qX12_drawSecond_145 rfl h (fun _ h => ?_) (fun _ h => ?_)
        · exact e_weak (hj5 h) ⟨Or.inr rfl, Or.inr rfl, Or.inl rfl, Or.inl rfl, trivial⟩
        refine e_aload_n qX12_drawSecond_148 rfl ?_
        refine e_aload_n qX12_drawSecond_149 rfl ?_
        refine e_getr 208 qX12_drawSecond_150 fl_X12_33 shq_206 kdq_11_6 rrq_206_6 ?_
        refine e_iconst (nI 0) qX12_drawSecond_153 rfl ?_
        refine e_iald qX12_drawSecond_154 shq_208 lnq_208 h (fun v10 h => ?_)
        obtain ⟨v11, s12, hc, h⟩ := bd_e h
        refine e_cVi1 qX12_drawSecond_155 mv_X12_427 shq_206 rfl rfl (w_X12_draw hc) ?_
        refine e_istore_n (lv2 := [some (.ref 206), some (.int v1), some (.int v11), none]) qX12_drawSecond_158 rfl rfl rfl ?_
        refine e_aload_n qX12_drawSecond_159 rfl ?_
        refine e_bipush (nI 20) qX12_drawSecond_160 rfl ?_
        obtain ⟨v13, s14, hc, h⟩ := bd_e h
        refine e_cVi1 qX12_drawSecond_162 mv_X12_427 shq_206 rfl rfl (w_X12_draw hc) ?_
        refine e_iconst (nI 1) qX12_drawSecond_165 rfl ?_
        refine e_iadd qX12_drawSecond_166 ?_
        refine vl_e h (fun h => ?_)
        generalize (v13 + (nI 1)) = v15 at h ⊢
        refine e_istore_n (lv2 := [some (.ref 206), some (.int v1), some (.int v11), some (.int v15)]) qX12_drawSecond_167 rfl rfl rfl ?_
        refine e_aload_n qX12_drawSecond_168 rfl ?_
        refine e_iload_n qX12_drawSecond_169 rfl ?_
        refine e_iload_n qX12_drawSecond_170 rfl ?_
        obtain ⟨v16, hc, h⟩ := bp_e h
        refine e_cVi2 qX12_drawSecond_171 mv_X12_331 shq_206 rfl rfl (w_X12_whyFill hc) ?_
        refine jn_e (fun j => ∀ (s17 : St), j s17 = some sr → E mX12_drawSecond 2 (none, sr) 191 [none, none, none, none] [] s17) h ?_ (fun j18 hj18 h => ?_)
        · intro s17 h
          refine e_goto (tgt := 215) qX12_drawSecond_191 rfl ?_
          exact e_vret qX12_drawSecond_215 rfl (ret_v h)
        refine e_if_ne (tgt := 191) qX12_drawSecond_174 rfl h (fun _ h => ?_) (fun _ h => ?_)
        · refine e_aload_n qX12_drawSecond_177 rfl ?_
          refine e_getr 208 qX12_drawSecond_178 fl_X12_33 shq_206 kdq_11_6 rrq_206_6 ?_
          refine e_sipush (nI 150) qX12_drawSecond_181 rfl ?_
          refine e_iload_n qX12_drawSecond_184 rfl ?_
          refine e_iadd qX12_drawSecond_185 ?_
          refine e_dup2 qX12_drawSecond_186 rfl rfl ?_
          refine e_iald qX12_drawSecond_187 shq_208 lnq_208 h (fun v19 h => ?_)
          refine e_iload_n qX12_drawSecond_188 rfl ?_
          refine e_iadd qX12_drawSecond_189 ?_
          refine e_iast qX12_drawSecond_190 shq_208 lnq_208 h (fun s20 h => ?_)
          exact e_weak (hj18 _ h) ⟨Or.inl rfl, Or.inl rfl, Or.inl rfl, Or.inl rfl, trivial⟩
        exact e_weak (hj18 _ h) ⟨Or.inl rfl, Or.inl rfl, Or.inl rfl, Or.inl rfl, trivial⟩
      exact e_weak (hj5 h) ⟨Or.inr rfl, Or.inr rfl, Or.inl rfl, Or.inl rfl, trivial⟩
    refine e_icmp_ne (tgt := 134) qX12_drawSecond_92 rfl h (fun _ h => ?_) (fun _ h => ?_)
    · refine e_aload_n qX12_drawSecond_95 rfl ?_
      refine e_getr 208 qX12_drawSecond_96 fl_X12_33 shq_206 kdq_11_6 rrq_206_6 ?_
      refine e_iconst (nI 1) qX12_drawSecond_99 rfl ?_
      refine e_iald qX12_drawSecond_100 shq_208 lnq_208 h (fun v21 h => ?_)
      refine e_if_le (tgt := 134) qX12_drawSecond_101 rfl h (fun _ h => ?_) (fun _ h => ?_)
      · exact e_weak (hj4 h) ⟨Or.inr rfl, Or.inr rfl, Or.inl rfl, Or.inl rfl, trivial⟩
      refine e_aload_n qX12_drawSecond_104 rfl ?_
      refine e_aload_n qX12_drawSecond_105 rfl ?_
      refine e_getr 208 qX12_drawSecond_106 fl_X12_33 shq_206 kdq_11_6 rrq_206_6 ?_
      refine e_iconst (nI 1) qX12_drawSecond_109 rfl ?_
      refine e_iald qX12_drawSecond_110 shq_208 lnq_208 h (fun v22 h => ?_)
      obtain ⟨v23, s24, hc, h⟩ := bd_e h
      refine e_cVi1 qX12_drawSecond_111 mv_X12_427 shq_206 rfl rfl (w_X12_draw hc) ?_
      refine e_istore_n (lv2 := [some (.ref 206), some (.int v1), some (.int v23), none]) qX12_drawSecond_114 rfl rfl rfl ?_
      refine e_aload_n qX12_drawSecond_115 rfl ?_
      refine e_getr 208 qX12_drawSecond_116 fl_X12_33 shq_206 kdq_11_6 rrq_206_6 ?_
      refine e_sipush (nI 174) qX12_drawSecond_119 rfl ?_
      refine e_iload_n qX12_drawSecond_122 rfl ?_
      refine e_iadd qX12_drawSecond_123 ?_
      refine e_aload_n qX12_drawSecond_124 rfl ?_
      refine e_bipush (nI 9) qX12_drawSecond_125 rfl ?_
      obtain ⟨v25, s26, hc, h⟩ := bd_e h
      refine e_cVi1 qX12_drawSecond_127 mv_X12_427 shq_206 rfl rfl (w_X12_draw hc) ?_
      refine e_iast qX12_drawSecond_130 shq_208 lnq_208 h (fun s27 h => ?_)
      refine e_goto (tgt := 215) qX12_drawSecond_131 rfl ?_
      exact e_vret qX12_drawSecond_215 rfl (ret_v h)
    exact e_weak (hj4 h) ⟨Or.inr rfl, Or.inr rfl, Or.inl rfl, Or.inl rfl, trivial⟩
  refine e_if_ne (tgt := 90) qX12_drawSecond_8 rfl h (fun _ h => ?_) (fun _ h => ?_)
  · refine e_aload_n qX12_drawSecond_11 rfl ?_
    refine e_getr 208 qX12_drawSecond_12 fl_X12_33 shq_206 kdq_11_6 rrq_206_6 ?_
    refine e_iconst (nI 0) qX12_drawSecond_15 rfl ?_
    refine e_iald qX12_drawSecond_16 shq_208 lnq_208 h (fun v28 h => ?_)
    refine e_if_le (tgt := 90) qX12_drawSecond_17 rfl h (fun _ h => ?_) (fun _ h => ?_)
    · exact e_weak (hj3 h) ⟨Or.inr rfl, Or.inr rfl, Or.inl rfl, Or.inl rfl, trivial⟩
    refine e_aload_n qX12_drawSecond_20 rfl ?_
    refine e_aload_n qX12_drawSecond_21 rfl ?_
    refine e_getr 208 qX12_drawSecond_22 fl_X12_33 shq_206 kdq_11_6 rrq_206_6 ?_
    refine e_iconst (nI 0) qX12_drawSecond_25 rfl ?_
    refine e_iald qX12_drawSecond_26 shq_208 lnq_208 h (fun v29 h => ?_)
    obtain ⟨v30, s31, hc, h⟩ := bd_e h
    refine e_cVi1 qX12_drawSecond_27 mv_X12_427 shq_206 rfl rfl (w_X12_draw hc) ?_
    refine e_istore_n (lv2 := [some (.ref 206), some (.int v1), some (.int v30), none]) qX12_drawSecond_30 rfl rfl rfl ?_
    refine e_aload_n qX12_drawSecond_31 rfl ?_
    refine e_getr 208 qX12_drawSecond_32 fl_X12_33 shq_206 kdq_11_6 rrq_206_6 ?_
    refine e_sipush (nI 148) qX12_drawSecond_35 rfl ?_
    refine e_iald qX12_drawSecond_38 shq_208 lnq_208 h (fun v32 h => ?_)
    refine e_iload_n qX12_drawSecond_39 rfl ?_
    obtain ⟨v33, hc, h⟩ := bp_e h
    refine e_cSi2 qX12_drawSecond_40 ms_X12_240 rfl rfl (w_X12_bitOf hc) ?_
    refine jn_e (fun j => ∀ (s34 : St), j s34 = some sr → E mX12_drawSecond 2 (none, sr) 87 [none, none, none, none] [] s34) h ?_ (fun j35 hj35 h => ?_)
    · intro s34 h
      refine e_goto (tgt := 215) qX12_drawSecond_87 rfl ?_
      exact e_vret qX12_drawSecond_215 rfl (ret_v h)
    refine e_if_ne (tgt := 63) qX12_drawSecond_43 rfl h (fun _ h => ?_) (fun _ h => ?_)
    · refine e_aload_n qX12_drawSecond_46 rfl ?_
      refine e_getr 208 qX12_drawSecond_47 fl_X12_33 shq_206 kdq_11_6 rrq_206_6 ?_
      refine e_sipush (nI 148) qX12_drawSecond_50 rfl ?_
      refine e_dup2 qX12_drawSecond_53 rfl rfl ?_
      refine e_iald qX12_drawSecond_54 shq_208 lnq_208 h (fun v36 h => ?_)
      refine e_iconst (nI 1) qX12_drawSecond_55 rfl ?_
      refine e_iload_n qX12_drawSecond_56 rfl ?_
      refine e_ishl qX12_drawSecond_57 ?_
      refine e_ior qX12_drawSecond_58 ?_
      refine e_iast qX12_drawSecond_59 shq_208 lnq_208 h (fun s37 h => ?_)
      refine e_goto (tgt := 87) qX12_drawSecond_60 rfl ?_
      exact e_weak (hj35 _ h) ⟨Or.inl rfl, Or.inl rfl, Or.inl rfl, Or.inl rfl, trivial⟩
    refine e_aload_n qX12_drawSecond_63 rfl ?_
    refine e_iload_n qX12_drawSecond_64 rfl ?_
    obtain ⟨v38, hc, h⟩ := bp_e h
    refine e_cVi1 qX12_drawSecond_65 mv_X12_328 shq_206 rfl rfl (w_X12_whyKindle hc) ?_
    refine e_if_ne (tgt := 87) qX12_drawSecond_68 rfl h (fun _ h => ?_) (fun _ h => ?_)
    · refine e_aload_n qX12_drawSecond_71 rfl ?_
      refine e_getr 208 qX12_drawSecond_72 fl_X12_33 shq_206 kdq_11_6 rrq_206_6 ?_
      refine e_sipush (nI 148) qX12_drawSecond_75 rfl ?_
      refine e_dup2 qX12_drawSecond_78 rfl rfl ?_
      refine e_iald qX12_drawSecond_79 shq_208 lnq_208 h (fun v39 h => ?_)
      refine e_iconst (nI 1) qX12_drawSecond_80 rfl ?_
      refine e_iload_n qX12_drawSecond_81 rfl ?_
      refine e_ishl qX12_drawSecond_82 ?_
      refine e_iconst (-1) qX12_drawSecond_83 rfl ?_
      refine e_ixor qX12_drawSecond_84 ?_
      refine e_iand qX12_drawSecond_85 ?_
      refine e_iast qX12_drawSecond_86 shq_208 lnq_208 h (fun s40 h => ?_)
      exact e_weak (hj35 _ h) ⟨Or.inl rfl, Or.inl rfl, Or.inl rfl, Or.inl rfl, trivial⟩
    exact e_weak (hj35 _ h) ⟨Or.inl rfl, Or.inl rfl, Or.inl rfl, Or.inl rfl, trivial⟩
  exact e_weak (hj3 h) ⟨Or.inr rfl, Or.inr rfl, Or.inl rfl, Or.inl rfl, trivial⟩

def f_X12_draws_L7 (N : Nat) (c2 : Int32) : Nat → Int32 → St → Option (Int32 × St)
  | 0, _, _ => none
  | n5 + 1, v3, s4 =>
    if c2 ≤ v3 then
      some (v3, s4)
    else
    ald (s4.1 208) 359 (nI 147) fun v7 =>
    if (nI 3600) ≤ v7 then
      some (v3, s4)
    else
    bp (f_X12_drawSecond s4) fun s8 =>
    bp (f_X12_second N s8) fun s9 =>
    vl (v3 + (nI 1)) fun v10 =>
    f_X12_draws_L7 N c2 n5 v10 s9

def f_X12_draws (N : Nat) (x1 : Int32) (x2 : Int32) (s0 : St) : Option (Int32 × St) :=
  vl (sI s0 206 39 x2) fun s1 =>
  f_X12_draws_L7 N x1 N (nI 0) s1

theorem qX12_draws_0 : Dc mX12_draws 0 (.aload_n 0) 1 1 := ⟨by decide +kernel, rfl⟩
theorem qX12_draws_1 : Dc mX12_draws 1 (.iload_n 2) 1 2 := ⟨by decide +kernel, rfl⟩
theorem qX12_draws_2 : Dc mX12_draws 2 (.putfield 423) 3 5 := ⟨by decide +kernel, rfl⟩
theorem qX12_draws_5 : Dc mX12_draws 5 (.iconst 0) 1 6 := ⟨by decide +kernel, rfl⟩
theorem qX12_draws_6 : Dc mX12_draws 6 (.istore_n 3) 1 7 := ⟨by decide +kernel, rfl⟩
theorem qX12_draws_7 : Dc mX12_draws 7 (.iload_n 3) 1 8 := ⟨by decide +kernel, rfl⟩
theorem qX12_draws_8 : Dc mX12_draws 8 (.iload_n 1) 1 9 := ⟨by decide +kernel, rfl⟩
theorem qX12_draws_9 : Dc mX12_draws 9 (.if_icmp .ge 31) 3 12 := ⟨by decide +kernel, rfl⟩
theorem qX12_draws_12 : Dc mX12_draws 12 (.aload_n 0) 1 13 := ⟨by decide +kernel, rfl⟩
theorem qX12_draws_13 : Dc mX12_draws 13 (.getfield 33) 3 16 := ⟨by decide +kernel, rfl⟩
theorem qX12_draws_16 : Dc mX12_draws 16 (.sipush 147) 3 19 := ⟨by decide +kernel, rfl⟩
theorem qX12_draws_19 : Dc mX12_draws 19 (.iaload) 1 20 := ⟨by decide +kernel, rfl⟩
theorem qX12_draws_20 : Dc mX12_draws 20 (.sipush 3600) 3 23 := ⟨by decide +kernel, rfl⟩
theorem qX12_draws_23 : Dc mX12_draws 23 (.if_icmp .ge 17) 3 26 := ⟨by decide +kernel, rfl⟩
theorem qX12_draws_26 : Dc mX12_draws 26 (.aload_n 0) 1 27 := ⟨by decide +kernel, rfl⟩
theorem qX12_draws_27 : Dc mX12_draws 27 (.invokevirtual 430) 3 30 := ⟨by decide +kernel, rfl⟩
theorem qX12_draws_30 : Dc mX12_draws 30 (.aload_n 0) 1 31 := ⟨by decide +kernel, rfl⟩
theorem qX12_draws_31 : Dc mX12_draws 31 (.invokevirtual 322) 3 34 := ⟨by decide +kernel, rfl⟩
theorem qX12_draws_34 : Dc mX12_draws 34 (.iinc 3 1) 3 37 := ⟨by decide +kernel, rfl⟩
theorem qX12_draws_37 : Dc mX12_draws 37 (.goto (-30)) 3 40 := ⟨by decide +kernel, rfl⟩
theorem qX12_draws_40 : Dc mX12_draws 40 (.iload_n 3) 1 41 := ⟨by decide +kernel, rfl⟩
theorem qX12_draws_41 : Dc mX12_draws 41 (.ireturn) 1 42 := ⟨by decide +kernel, rfl⟩

set_option maxRecDepth 20000 in
set_option maxHeartbeats 4000000 in
theorem w_X12_draws_L7 {N : Nat} {c2 : Int32}  {r : Int32} {sr : St}   : ∀ (n5 : Nat) (v3 : Int32) (s4 : St), f_X12_draws_L7 N c2 n5 v3 s4 = some (r, sr) → E mX12_draws 5 (some (.int r), sr) 7 [some (.ref 206), some (.int c2), none, some (.int v3)] [] s4 := by
  intro n5
  induction n5 with
  | zero =>
    intro v3 s4 h
    rw [f_X12_draws_L7] at h; cases h
  | succ n5 ih6 =>
    intro v3 s4 h
    rw [f_X12_draws_L7] at h
    refine e_iload_n qX12_draws_7 rfl ?_
    refine e_iload_n qX12_draws_8 rfl ?_
    refine e_icmp_ge (tgt := 40) qX12_draws_9 rfl h (fun _ h => ?_) (fun _ h => ?_)
    · refine e_iload_n qX12_draws_40 rfl ?_
      exact e_iret qX12_draws_41 rfl (ret_i h)
    refine e_aload_n qX12_draws_12 rfl ?_
    refine e_getr 208 qX12_draws_13 fl_X12_33 shq_206 kdq_11_6 rrq_206_6 ?_
    refine e_sipush (nI 147) qX12_draws_16 rfl ?_
    refine e_iald qX12_draws_19 shq_208 lnq_208 h (fun v7 h => ?_)
    refine e_sipush (nI 3600) qX12_draws_20 rfl ?_
    refine e_icmp_ge (tgt := 40) qX12_draws_23 rfl h (fun _ h => ?_) (fun _ h => ?_)
    · refine e_iload_n qX12_draws_40 rfl ?_
      exact e_iret qX12_draws_41 rfl (ret_i h)
    refine e_aload_n qX12_draws_26 rfl ?_
    obtain ⟨s8, hc, h⟩ := bp_e h
    refine e_cVv0 qX12_draws_27 mv_X12_430 shq_206 rfl rfl (w_X12_drawSecond hc) ?_
    refine e_aload_n qX12_draws_30 rfl ?_
    obtain ⟨s9, hc, h⟩ := bp_e h
    refine e_cVv0 qX12_draws_31 mv_X12_322 shq_206 rfl rfl (w_X12_second hc) ?_
    refine vl_e h (fun h => ?_)
    obtain ⟨v10, ev10⟩ : ∃ y, v3 + (nI 1) = y := ⟨_, rfl⟩
    rw [ev10] at h
    refine e_iinc (nI 1) v10 (lv2 := [some (.ref 206), some (.int c2), none, some (.int v10)]) qX12_draws_34 rfl rfl rfl ev10 rfl ?_
    refine e_goto (tgt := 7) qX12_draws_37 rfl ?_
    exact e_weak (ih6 _ _ h) ⟨Or.inr rfl, Or.inr rfl, Or.inl rfl, Or.inr rfl, trivial⟩

set_option maxRecDepth 20000 in
set_option maxHeartbeats 4000000 in
theorem w_X12_draws {N : Nat} {x1 : Int32} {x2 : Int32} {s0 : St} {r : Int32} {sr : St} (h : f_X12_draws N x1 x2 s0 = some (r, sr)) : Ct mX12_draws 5 [.ref 206, .int x1, .int x2] s0 (some (.int r), sr) := by
  refine Ct.ofE (by decide +kernel) rfl ?_
  show E mX12_draws 5 (some (.int r), sr) 0 [some (.ref 206), some (.int x1), some (.int x2), none] [] s0
  unfold f_X12_draws at h
  refine e_aload_n qX12_draws_0 rfl ?_
  refine e_iload_n qX12_draws_1 rfl ?_
  refine e_puti qX12_draws_2 fp_X12_423 shq_206 kdq_11_39 h (fun s1 h => ?_)
  refine e_iconst (nI 0) qX12_draws_5 rfl ?_
  refine e_istore_n (lv2 := [some (.ref 206), some (.int x1), some (.int x2), some (.int (nI 0))]) qX12_draws_6 rfl rfl rfl ?_
  exact e_weak (w_X12_draws_L7  _ _ _ h) ⟨Or.inr rfl, Or.inr rfl, Or.inl rfl, Or.inr rfl, trivial⟩

def f_X12_drawn (N : Nat) (x1 : Int32) (x2 : Int32) (s0 : St) : Option (Int32 × St) :=
  vl (sI s0 206 0 (nI 0)) fun s1 =>
  bp (f_X12_isIn x1 (nI 1) (nI 60) s1) fun v2 =>
  if v2 = 0 then
    some ((-1), s1)
  else
  ald (s1.1 208) 359 (nI 147) fun v3 =>
  jn (fun (s4 : St) =>
    bd (f_X12_draws N x1 x2 s4) fun v6 s7 =>
    some (v6, s7)) fun j5 =>
  if (nI 3600) ≤ v3 then
    j5 s1
  else
  bp (f_X12_stores N s1) fun s8 =>
  j5 s8

theorem qX12_drawn_0 : Dc mX12_drawn 0 (.aload_n 0) 1 1 := ⟨by decide +kernel, rfl⟩
theorem qX12_drawn_1 : Dc mX12_drawn 1 (.iconst 0) 1 2 := ⟨by decide +kernel, rfl⟩
theorem qX12_drawn_2 : Dc mX12_drawn 2 (.putfield 1) 3 5 := ⟨by decide +kernel, rfl⟩
theorem qX12_drawn_5 : Dc mX12_drawn 5 (.iload_n 1) 1 6 := ⟨by decide +kernel, rfl⟩
theorem qX12_drawn_6 : Dc mX12_drawn 6 (.iconst 1) 1 7 := ⟨by decide +kernel, rfl⟩
theorem qX12_drawn_7 : Dc mX12_drawn 7 (.bipush 60) 2 9 := ⟨by decide +kernel, rfl⟩
theorem qX12_drawn_9 : Dc mX12_drawn 9 (.invokestatic 186) 3 12 := ⟨by decide +kernel, rfl⟩
theorem qX12_drawn_12 : Dc mX12_drawn 12 (.ifCond .ne 5) 3 15 := ⟨by decide +kernel, rfl⟩
theorem qX12_drawn_15 : Dc mX12_drawn 15 (.iconst (-1)) 1 16 := ⟨by decide +kernel, rfl⟩
theorem qX12_drawn_16 : Dc mX12_drawn 16 (.ireturn) 1 17 := ⟨by decide +kernel, rfl⟩
theorem qX12_drawn_17 : Dc mX12_drawn 17 (.aload_n 0) 1 18 := ⟨by decide +kernel, rfl⟩
theorem qX12_drawn_18 : Dc mX12_drawn 18 (.getfield 33) 3 21 := ⟨by decide +kernel, rfl⟩
theorem qX12_drawn_21 : Dc mX12_drawn 21 (.sipush 147) 3 24 := ⟨by decide +kernel, rfl⟩
theorem qX12_drawn_24 : Dc mX12_drawn 24 (.iaload) 1 25 := ⟨by decide +kernel, rfl⟩
theorem qX12_drawn_25 : Dc mX12_drawn 25 (.sipush 3600) 3 28 := ⟨by decide +kernel, rfl⟩
theorem qX12_drawn_28 : Dc mX12_drawn 28 (.if_icmp .ge 7) 3 31 := ⟨by decide +kernel, rfl⟩
theorem qX12_drawn_31 : Dc mX12_drawn 31 (.aload_n 0) 1 32 := ⟨by decide +kernel, rfl⟩
theorem qX12_drawn_32 : Dc mX12_drawn 32 (.invokevirtual 325) 3 35 := ⟨by decide +kernel, rfl⟩
theorem qX12_drawn_35 : Dc mX12_drawn 35 (.aload_n 0) 1 36 := ⟨by decide +kernel, rfl⟩
theorem qX12_drawn_36 : Dc mX12_drawn 36 (.iload_n 1) 1 37 := ⟨by decide +kernel, rfl⟩
theorem qX12_drawn_37 : Dc mX12_drawn 37 (.iload_n 2) 1 38 := ⟨by decide +kernel, rfl⟩
theorem qX12_drawn_38 : Dc mX12_drawn 38 (.invokevirtual 433) 3 41 := ⟨by decide +kernel, rfl⟩
theorem qX12_drawn_41 : Dc mX12_drawn 41 (.ireturn) 1 42 := ⟨by decide +kernel, rfl⟩

set_option maxRecDepth 20000 in
set_option maxHeartbeats 4000000 in
theorem w_X12_drawn {N : Nat} {x1 : Int32} {x2 : Int32} {s0 : St} {r : Int32} {sr : St} (h : f_X12_drawn N x1 x2 s0 = some (r, sr)) : Ct mX12_drawn 6 [.ref 206, .int x1, .int x2] s0 (some (.int r), sr) := by
  refine Ct.ofE (by decide +kernel) rfl ?_
  show E mX12_drawn 6 (some (.int r), sr) 0 [some (.ref 206), some (.int x1), some (.int x2)] [] s0
  unfold f_X12_drawn at h
  refine e_aload_n qX12_drawn_0 rfl ?_
  refine e_iconst (nI 0) qX12_drawn_1 rfl ?_
  refine e_puti qX12_drawn_2 fp_X12_1 shq_206 kdq_11_0 h (fun s1 h => ?_)
  refine e_iload_n qX12_drawn_5 rfl ?_
  refine e_iconst (nI 1) qX12_drawn_6 rfl ?_
  refine e_bipush (nI 60) qX12_drawn_7 rfl ?_
  obtain ⟨v2, hc, h⟩ := bp_e h
  refine e_cSi3 qX12_drawn_9 ms_X12_186 rfl rfl (w_X12_isIn hc) ?_
  refine e_if_ne (tgt := 17) qX12_drawn_12 rfl h (fun _ h => ?_) (fun _ h => ?_)
  · refine e_iconst (-1) qX12_drawn_15 rfl ?_
    exact e_iret qX12_drawn_16 rfl (ret_i h)
  refine e_aload_n qX12_drawn_17 rfl ?_
  refine e_getr 208 qX12_drawn_18 fl_X12_33 shq_206 kdq_11_6 rrq_206_6 ?_
  refine e_sipush (nI 147) qX12_drawn_21 rfl ?_
  refine e_iald qX12_drawn_24 shq_208 lnq_208 h (fun v3 h => ?_)
  refine e_sipush (nI 3600) qX12_drawn_25 rfl ?_
  refine jn_e (fun j => ∀ (s4 : St), j s4 = some (r, sr) → E mX12_drawn 6 (some (.int r), sr) 35 [some (.ref 206), some (.int x1), some (.int x2)] [] s4) h ?_ (fun j5 hj5 h => ?_)
  · intro s4 h
    refine e_aload_n qX12_drawn_35 rfl ?_
    refine e_iload_n qX12_drawn_36 rfl ?_
    refine e_iload_n qX12_drawn_37 rfl ?_
    obtain ⟨v6, s7, hc, h⟩ := bd_e h
    refine e_cVi2 qX12_drawn_38 mv_X12_433 shq_206 rfl rfl (w_X12_draws hc) ?_
    exact e_iret qX12_drawn_41 rfl (ret_i h)
  refine e_icmp_ge (tgt := 35) qX12_drawn_28 rfl h (fun _ h => ?_) (fun _ h => ?_)
  · exact e_weak (hj5 _ h) ⟨Or.inr rfl, Or.inr rfl, Or.inr rfl, trivial⟩
  refine e_aload_n qX12_drawn_31 rfl ?_
  obtain ⟨s8, hc, h⟩ := bp_e h
  refine e_cVv0 qX12_drawn_32 mv_X12_325 shq_206 rfl rfl (w_X12_stores hc) ?_
  exact e_weak (hj5 _ h) ⟨Or.inr rfl, Or.inr rfl, Or.inr rfl, trivial⟩

def f_X12_odds_L35 (N : Nat) (c5 : Int32) (c6 : Int32) (c7 : Int32) : Nat → Int32 → Int32 → St → Option (Int32 × St)
  | 0, _, _, _ => none
  | n11 + 1, v8, v9, s10 =>
    if c6 ≤ v9 then
      some (v8, s10)
    else
    bd (f_X12_draws N (nI 30) (c7 + v9) s10) fun v13 s14 =>
    bp (f_X12_seenBy N c5 s14) fun v15 =>
    jn (fun (v16 : Int32) =>
      vl (v8 + v16) fun v18 =>
      bp (f_X12_back N s14) fun s19 =>
      vl (v9 + (nI 1)) fun v20 =>
      f_X12_odds_L35 N c5 c6 c7 n11 v18 v20 s19) fun j17 =>
    if v15 = 0 then
      j17 (nI 0)
    else
    j17 (nI 1)

def f_X12_odds (N : Nat) (x1 : Int32) (x2 : Int32) (x3 : Int32) (s0 : St) : Option (Int32 × St) :=
  vl (sI s0 206 0 (nI 0)) fun s1 =>
  bp (f_X12_isShip x1 s1) fun v2 =>
  if v2 = 0 then
    some ((-1), s1)
  else
  bp (f_X12_isIn x2 (nI 1) (nI 30) s1) fun v3 =>
  if v3 = 0 then
    some ((-1), s1)
  else
  bp (f_X12_tries N s1) fun s4 =>
  f_X12_odds_L35 N x1 x2 x3 N (nI 0) (nI 0) s4

theorem qX12_odds_0 : Dc mX12_odds 0 (.aload_n 0) 1 1 := ⟨by decide +kernel, rfl⟩
theorem qX12_odds_1 : Dc mX12_odds 1 (.iconst 0) 1 2 := ⟨by decide +kernel, rfl⟩
theorem qX12_odds_2 : Dc mX12_odds 2 (.putfield 1) 3 5 := ⟨by decide +kernel, rfl⟩
theorem qX12_odds_5 : Dc mX12_odds 5 (.aload_n 0) 1 6 := ⟨by decide +kernel, rfl⟩
theorem qX12_odds_6 : Dc mX12_odds 6 (.iload_n 1) 1 7 := ⟨by decide +kernel, rfl⟩
theorem qX12_odds_7 : Dc mX12_odds 7 (.invokevirtual 304) 3 10 := ⟨by decide +kernel, rfl⟩
theorem qX12_odds_10 : Dc mX12_odds 10 (.ifCond .eq 13) 3 13 := ⟨by decide +kernel, rfl⟩
theorem qX12_odds_13 : Dc mX12_odds 13 (.iload_n 2) 1 14 := ⟨by decide +kernel, rfl⟩
theorem qX12_odds_14 : Dc mX12_odds 14 (.iconst 1) 1 15 := ⟨by decide +kernel, rfl⟩
theorem qX12_odds_15 : Dc mX12_odds 15 (.bipush 30) 2 17 := ⟨by decide +kernel, rfl⟩
theorem qX12_odds_17 : Dc mX12_odds 17 (.invokestatic 186) 3 20 := ⟨by decide +kernel, rfl⟩
theorem qX12_odds_20 : Dc mX12_odds 20 (.ifCond .ne 5) 3 23 := ⟨by decide +kernel, rfl⟩
theorem qX12_odds_23 : Dc mX12_odds 23 (.iconst (-1)) 1 24 := ⟨by decide +kernel, rfl⟩
theorem qX12_odds_24 : Dc mX12_odds 24 (.ireturn) 1 25 := ⟨by decide +kernel, rfl⟩
theorem qX12_odds_25 : Dc mX12_odds 25 (.aload_n 0) 1 26 := ⟨by decide +kernel, rfl⟩
theorem qX12_odds_26 : Dc mX12_odds 26 (.invokevirtual 395) 3 29 := ⟨by decide +kernel, rfl⟩
theorem qX12_odds_29 : Dc mX12_odds 29 (.iconst 0) 1 30 := ⟨by decide +kernel, rfl⟩
theorem qX12_odds_30 : Dc mX12_odds 30 (.istore 4) 2 32 := ⟨by decide +kernel, rfl⟩
theorem qX12_odds_32 : Dc mX12_odds 32 (.iconst 0) 1 33 := ⟨by decide +kernel, rfl⟩
theorem qX12_odds_33 : Dc mX12_odds 33 (.istore 5) 2 35 := ⟨by decide +kernel, rfl⟩
theorem qX12_odds_35 : Dc mX12_odds 35 (.iload 5) 2 37 := ⟨by decide +kernel, rfl⟩
theorem qX12_odds_37 : Dc mX12_odds 37 (.iload_n 2) 1 38 := ⟨by decide +kernel, rfl⟩
theorem qX12_odds_38 : Dc mX12_odds 38 (.if_icmp .ge 42) 3 41 := ⟨by decide +kernel, rfl⟩
theorem qX12_odds_41 : Dc mX12_odds 41 (.aload_n 0) 1 42 := ⟨by decide +kernel, rfl⟩
theorem qX12_odds_42 : Dc mX12_odds 42 (.bipush 30) 2 44 := ⟨by decide +kernel, rfl⟩
theorem qX12_odds_44 : Dc mX12_odds 44 (.iload_n 3) 1 45 := ⟨by decide +kernel, rfl⟩
theorem qX12_odds_45 : Dc mX12_odds 45 (.iload 5) 2 47 := ⟨by decide +kernel, rfl⟩
theorem qX12_odds_47 : Dc mX12_odds 47 (.iadd) 1 48 := ⟨by decide +kernel, rfl⟩
theorem qX12_odds_48 : Dc mX12_odds 48 (.invokevirtual 433) 3 51 := ⟨by decide +kernel, rfl⟩
theorem qX12_odds_51 : Dc mX12_odds 51 (.pop) 1 52 := ⟨by decide +kernel, rfl⟩
theorem qX12_odds_52 : Dc mX12_odds 52 (.iload 4) 2 54 := ⟨by decide +kernel, rfl⟩
theorem qX12_odds_54 : Dc mX12_odds 54 (.aload_n 0) 1 55 := ⟨by decide +kernel, rfl⟩
theorem qX12_odds_55 : Dc mX12_odds 55 (.iload_n 1) 1 56 := ⟨by decide +kernel, rfl⟩
theorem qX12_odds_56 : Dc mX12_odds 56 (.invokevirtual 307) 3 59 := ⟨by decide +kernel, rfl⟩
theorem qX12_odds_59 : Dc mX12_odds 59 (.ifCond .eq 7) 3 62 := ⟨by decide +kernel, rfl⟩
theorem qX12_odds_62 : Dc mX12_odds 62 (.iconst 1) 1 63 := ⟨by decide +kernel, rfl⟩
theorem qX12_odds_63 : Dc mX12_odds 63 (.goto 4) 3 66 := ⟨by decide +kernel, rfl⟩
theorem qX12_odds_66 : Dc mX12_odds 66 (.iconst 0) 1 67 := ⟨by decide +kernel, rfl⟩
theorem qX12_odds_67 : Dc mX12_odds 67 (.iadd) 1 68 := ⟨by decide +kernel, rfl⟩
theorem qX12_odds_68 : Dc mX12_odds 68 (.istore 4) 2 70 := ⟨by decide +kernel, rfl⟩
theorem qX12_odds_70 : Dc mX12_odds 70 (.aload_n 0) 1 71 := ⟨by decide +kernel, rfl⟩
theorem qX12_odds_71 : Dc mX12_odds 71 (.invokevirtual 398) 3 74 := ⟨by decide +kernel, rfl⟩
theorem qX12_odds_74 : Dc mX12_odds 74 (.iinc 5 1) 3 77 := ⟨by decide +kernel, rfl⟩
theorem qX12_odds_77 : Dc mX12_odds 77 (.goto (-42)) 3 80 := ⟨by decide +kernel, rfl⟩
theorem qX12_odds_80 : Dc mX12_odds 80 (.iload 4) 2 82 := ⟨by decide +kernel, rfl⟩
theorem qX12_odds_82 : Dc mX12_odds 82 (.ireturn) 1 83 := ⟨by decide +kernel, rfl⟩

set_option maxRecDepth 20000 in
set_option maxHeartbeats 4000000 in
theorem w_X12_odds_L35 {N : Nat} {c5 : Int32} {c6 : Int32} {c7 : Int32}  {r : Int32} {sr : St}   : ∀ (n11 : Nat) (v8 : Int32) (v9 : Int32) (s10 : St), f_X12_odds_L35 N c5 c6 c7 n11 v8 v9 s10 = some (r, sr) → E mX12_odds 6 (some (.int r), sr) 35 [some (.ref 206), some (.int c5), some (.int c6), some (.int c7), some (.int v8), some (.int v9)] [] s10 := by
  intro n11
  induction n11 with
  | zero =>
    intro v8 v9 s10 h
    rw [f_X12_odds_L35] at h; cases h
  | succ n11 ih12 =>
    intro v8 v9 s10 h
    rw [f_X12_odds_L35] at h
    refine e_iload qX12_odds_35 rfl ?_
    refine e_iload_n qX12_odds_37 rfl ?_
    refine e_icmp_ge (tgt := 80) qX12_odds_38 rfl h (fun _ h => ?_) (fun _ h => ?_)
    · refine e_iload qX12_odds_80 rfl ?_
      exact e_iret qX12_odds_82 rfl (ret_i h)
    refine e_aload_n qX12_odds_41 rfl ?_
    refine e_bipush (nI 30) qX12_odds_42 rfl ?_
    refine e_iload_n qX12_odds_44 rfl ?_
    refine e_iload qX12_odds_45 rfl ?_
    refine e_iadd qX12_odds_47 ?_
    obtain ⟨v13, s14, hc, h⟩ := bd_e h
    refine e_cVi2 qX12_odds_48 mv_X12_433 shq_206 rfl rfl (w_X12_draws hc) ?_
    refine e_pop qX12_odds_51 rfl ?_
    refine e_iload qX12_odds_52 rfl ?_
    refine e_aload_n qX12_odds_54 rfl ?_
    refine e_iload_n qX12_odds_55 rfl ?_
    obtain ⟨v15, hc, h⟩ := bp_e h
    refine e_cVi1 qX12_odds_56 mv_X12_307 shq_206 rfl rfl (w_X12_seenBy hc) ?_
    refine jn_e (fun j => ∀ (v16 : Int32), j v16 = some (r, sr) → E mX12_odds 6 (some (.int r), sr) 67 [some (.ref 206), some (.int c5), some (.int c6), some (.int c7), none, some (.int v9)] [.int v16, .int v8] s14) h ?_ (fun j17 hj17 h => ?_)
    · intro v16 h
      refine e_iadd qX12_odds_67 ?_
      refine vl_e h (fun h => ?_)
      generalize (v8 + v16) = v18 at h ⊢
      refine e_istore (lv2 := [some (.ref 206), some (.int c5), some (.int c6), some (.int c7), some (.int v18), some (.int v9)]) qX12_odds_68 rfl rfl rfl ?_
      refine e_aload_n qX12_odds_70 rfl ?_
      obtain ⟨s19, hc, h⟩ := bp_e h
      refine e_cVv0 qX12_odds_71 mv_X12_398 shq_206 rfl rfl (w_X12_back hc) ?_
      refine vl_e h (fun h => ?_)
      obtain ⟨v20, ev20⟩ : ∃ y, v9 + (nI 1) = y := ⟨_, rfl⟩
      rw [ev20] at h
      refine e_iinc (nI 1) v20 (lv2 := [some (.ref 206), some (.int c5), some (.int c6), some (.int c7), some (.int v18), some (.int v20)]) qX12_odds_74 rfl rfl rfl ev20 rfl ?_
      refine e_goto (tgt := 35) qX12_odds_77 rfl ?_
      exact e_weak (ih12 _ _ _ h) ⟨Or.inr rfl, Or.inr rfl, Or.inr rfl, Or.inr rfl, Or.inr rfl, Or.inr rfl, trivial⟩
    refine e_if_eq (tgt := 66) qX12_odds_59 rfl h (fun _ h => ?_) (fun _ h => ?_)
    · refine e_iconst (nI 0) qX12_odds_66 rfl ?_
      exact e_weak (hj17 _ h) ⟨Or.inr rfl, Or.inr rfl, Or.inr rfl, Or.inr rfl, Or.inl rfl, Or.inr rfl, trivial⟩
    refine e_iconst (nI 1) qX12_odds_62 rfl ?_
    refine e_goto (tgt := 67) qX12_odds_63 rfl ?_
    exact e_weak (hj17 _ h) ⟨Or.inr rfl, Or.inr rfl, Or.inr rfl, Or.inr rfl, Or.inl rfl, Or.inr rfl, trivial⟩

set_option maxRecDepth 20000 in
set_option maxHeartbeats 4000000 in
theorem w_X12_odds {N : Nat} {x1 : Int32} {x2 : Int32} {x3 : Int32} {s0 : St} {r : Int32} {sr : St} (h : f_X12_odds N x1 x2 x3 s0 = some (r, sr)) : Ct mX12_odds 6 [.ref 206, .int x1, .int x2, .int x3] s0 (some (.int r), sr) := by
  refine Ct.ofE (by decide +kernel) rfl ?_
  show E mX12_odds 6 (some (.int r), sr) 0 [some (.ref 206), some (.int x1), some (.int x2), some (.int x3), none, none] [] s0
  unfold f_X12_odds at h
  refine e_aload_n qX12_odds_0 rfl ?_
  refine e_iconst (nI 0) qX12_odds_1 rfl ?_
  refine e_puti qX12_odds_2 fp_X12_1 shq_206 kdq_11_0 h (fun s1 h => ?_)
  refine e_aload_n qX12_odds_5 rfl ?_
  refine e_iload_n qX12_odds_6 rfl ?_
  obtain ⟨v2, hc, h⟩ := bp_e h
  refine e_cVi1 qX12_odds_7 mv_X12_304 shq_206 rfl rfl (w_X12_isShip hc) ?_
  refine e_if_eq (tgt := 23) qX12_odds_10 rfl h (fun _ h => ?_) (fun _ h => ?_)
  · refine e_iconst (-1) qX12_odds_23 rfl ?_
    exact e_iret qX12_odds_24 rfl (ret_i h)
  refine e_iload_n qX12_odds_13 rfl ?_
  refine e_iconst (nI 1) qX12_odds_14 rfl ?_
  refine e_bipush (nI 30) qX12_odds_15 rfl ?_
  obtain ⟨v3, hc, h⟩ := bp_e h
  refine e_cSi3 qX12_odds_17 ms_X12_186 rfl rfl (w_X12_isIn hc) ?_
  refine e_if_ne (tgt := 25) qX12_odds_20 rfl h (fun _ h => ?_) (fun _ h => ?_)
  · refine e_iconst (-1) qX12_odds_23 rfl ?_
    exact e_iret qX12_odds_24 rfl (ret_i h)
  refine e_aload_n qX12_odds_25 rfl ?_
  obtain ⟨s4, hc, h⟩ := bp_e h
  refine e_cVv0 qX12_odds_26 mv_X12_395 shq_206 rfl rfl (w_X12_tries hc) ?_
  refine e_iconst (nI 0) qX12_odds_29 rfl ?_
  refine e_istore (lv2 := [some (.ref 206), some (.int x1), some (.int x2), some (.int x3), some (.int (nI 0)), none]) qX12_odds_30 rfl rfl rfl ?_
  refine e_iconst (nI 0) qX12_odds_32 rfl ?_
  refine e_istore (lv2 := [some (.ref 206), some (.int x1), some (.int x2), some (.int x3), some (.int (nI 0)), some (.int (nI 0))]) qX12_odds_33 rfl rfl rfl ?_
  exact e_weak (w_X12_odds_L35  _ _ _ _ h) ⟨Or.inr rfl, Or.inr rfl, Or.inr rfl, Or.inr rfl, Or.inr rfl, Or.inr rfl, trivial⟩
