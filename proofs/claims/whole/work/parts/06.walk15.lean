def f_X7_readOne (N : Nat) (rec : Nat → Int32 → St → Option (Int32 × St)) (a0 : Nat) (x3 : Int32) (s0 : St) : Option (Int32 × St) :=
  bp (f_X7_kindAt s0) fun v1 =>
  bp (f_X9_isSign (nI 40) s0) fun v2 =>
  jn (vl (s0.1 a0 0) fun v4 =>
    jn (bd (f_X9_refuse (nI 4) s0) fun v6 s7 =>
      rz v6 <|
      some (v6, s7)) fun j5 =>
    if (nI 20) ≤ v4 then
      j5
    else
    if x3 ≤ (nI 8) then
      vl (s0.1 a0 0) fun v8 =>
      vl (sI s0 a0 0 (v8 + (nI 1))) fun s9 =>
      bp (f_X9_next N s9) fun s10 =>
      if v2 = 0 then
        if v1 = (nI 2) then
          bd (rec a0 (x3 + (nI 1)) s10) fun v11 s12 =>
          jn (fun (s13 : St) =>
            some ((nI 0), s13)) fun j14 =>
          if v11 = 0 then
            j14 s12
          else
          bd (f_X7_add a0 (nI 2) (nI 0) (nI 0) s12) fun v15 s16 =>
          if v15 = 0 then
            j14 s16
          else
          some ((nI 1), s16)
        else
        bd (f_X7_readPlain N a0 v1 s10) fun v17 s18 =>
        rz v17 <|
        some (v17, s18)
      else
      bd (f_X7_readCondition N rec a0 (x3 + (nI 1)) s10) fun v19 s20 =>
      jn (fun (s21 : St) =>
        some ((nI 0), s21)) fun j22 =>
      if v19 = 0 then
        j22 s20
      else
      bd (f_X9_takeSign N (nI 41) s20) fun v23 s24 =>
      if v23 = 0 then
        j22 s24
      else
      some ((nI 1), s24)
    else
    j5) fun j3 =>
  if v1 = (-1) then
    if v2 = 0 then
      bd (f_X9_refuse (nI 1) s0) fun v25 s26 =>
      rz v25 <|
      some (v25, s26)
    else
    j3
  else
  j3

def F_X7_readOne (N : Nat) : Nat → Nat → Int32 → St → Option (Int32 × St)
  | 0, _, _, _ => none
  | k + 1, a, v, s => f_X7_readOne N (F_X7_readOne N k) a v s

theorem qX7_readOne_0 : Dc mX7_readOne 0 (.aload_n 1) 1 1 := ⟨by decide +kernel, rfl⟩
theorem qX7_readOne_1 : Dc mX7_readOne 1 (.invokestatic 80) 3 4 := ⟨by decide +kernel, rfl⟩
theorem qX7_readOne_4 : Dc mX7_readOne 4 (.istore 4) 2 6 := ⟨by decide +kernel, rfl⟩
theorem qX7_readOne_6 : Dc mX7_readOne 6 (.aload_n 1) 1 7 := ⟨by decide +kernel, rfl⟩
theorem qX7_readOne_7 : Dc mX7_readOne 7 (.bipush 40) 2 9 := ⟨by decide +kernel, rfl⟩
theorem qX7_readOne_9 : Dc mX7_readOne 9 (.invokevirtual 84) 3 12 := ⟨by decide +kernel, rfl⟩
theorem qX7_readOne_12 : Dc mX7_readOne 12 (.istore 5) 2 14 := ⟨by decide +kernel, rfl⟩
theorem qX7_readOne_14 : Dc mX7_readOne 14 (.iload 4) 2 16 := ⟨by decide +kernel, rfl⟩
theorem qX7_readOne_16 : Dc mX7_readOne 16 (.iconst (-1)) 1 17 := ⟨by decide +kernel, rfl⟩
theorem qX7_readOne_17 : Dc mX7_readOne 17 (.if_icmp .ne 14) 3 20 := ⟨by decide +kernel, rfl⟩
theorem qX7_readOne_20 : Dc mX7_readOne 20 (.iload 5) 2 22 := ⟨by decide +kernel, rfl⟩
theorem qX7_readOne_22 : Dc mX7_readOne 22 (.ifCond .ne 9) 3 25 := ⟨by decide +kernel, rfl⟩
theorem qX7_readOne_25 : Dc mX7_readOne 25 (.aload_n 1) 1 26 := ⟨by decide +kernel, rfl⟩
theorem qX7_readOne_26 : Dc mX7_readOne 26 (.iconst 1) 1 27 := ⟨by decide +kernel, rfl⟩
theorem qX7_readOne_27 : Dc mX7_readOne 27 (.invokevirtual 88) 3 30 := ⟨by decide +kernel, rfl⟩
theorem qX7_readOne_30 : Dc mX7_readOne 30 (.ireturn) 1 31 := ⟨by decide +kernel, rfl⟩
theorem qX7_readOne_31 : Dc mX7_readOne 31 (.aload_n 0) 1 32 := ⟨by decide +kernel, rfl⟩
theorem qX7_readOne_32 : Dc mX7_readOne 32 (.getfield 24) 3 35 := ⟨by decide +kernel, rfl⟩
theorem qX7_readOne_35 : Dc mX7_readOne 35 (.bipush 20) 2 37 := ⟨by decide +kernel, rfl⟩
theorem qX7_readOne_37 : Dc mX7_readOne 37 (.if_icmp .ge 9) 3 40 := ⟨by decide +kernel, rfl⟩
theorem qX7_readOne_40 : Dc mX7_readOne 40 (.iload_n 3) 1 41 := ⟨by decide +kernel, rfl⟩
theorem qX7_readOne_41 : Dc mX7_readOne 41 (.bipush 8) 2 43 := ⟨by decide +kernel, rfl⟩
theorem qX7_readOne_43 : Dc mX7_readOne 43 (.if_icmp .le 9) 3 46 := ⟨by decide +kernel, rfl⟩
theorem qX7_readOne_46 : Dc mX7_readOne 46 (.aload_n 1) 1 47 := ⟨by decide +kernel, rfl⟩
theorem qX7_readOne_47 : Dc mX7_readOne 47 (.iconst 4) 1 48 := ⟨by decide +kernel, rfl⟩
theorem qX7_readOne_48 : Dc mX7_readOne 48 (.invokevirtual 88) 3 51 := ⟨by decide +kernel, rfl⟩
theorem qX7_readOne_51 : Dc mX7_readOne 51 (.ireturn) 1 52 := ⟨by decide +kernel, rfl⟩
theorem qX7_readOne_52 : Dc mX7_readOne 52 (.aload_n 0) 1 53 := ⟨by decide +kernel, rfl⟩
theorem qX7_readOne_53 : Dc mX7_readOne 53 (.dup) 1 54 := ⟨by decide +kernel, rfl⟩
theorem qX7_readOne_54 : Dc mX7_readOne 54 (.getfield 24) 3 57 := ⟨by decide +kernel, rfl⟩
theorem qX7_readOne_57 : Dc mX7_readOne 57 (.iconst 1) 1 58 := ⟨by decide +kernel, rfl⟩
theorem qX7_readOne_58 : Dc mX7_readOne 58 (.iadd) 1 59 := ⟨by decide +kernel, rfl⟩
theorem qX7_readOne_59 : Dc mX7_readOne 59 (.putfield 24) 3 62 := ⟨by decide +kernel, rfl⟩
theorem qX7_readOne_62 : Dc mX7_readOne 62 (.aload_n 1) 1 63 := ⟨by decide +kernel, rfl⟩
theorem qX7_readOne_63 : Dc mX7_readOne 63 (.invokevirtual 67) 3 66 := ⟨by decide +kernel, rfl⟩
theorem qX7_readOne_66 : Dc mX7_readOne 66 (.iload 5) 2 68 := ⟨by decide +kernel, rfl⟩
theorem qX7_readOne_68 : Dc mX7_readOne 68 (.ifCond .eq 30) 3 71 := ⟨by decide +kernel, rfl⟩
theorem qX7_readOne_71 : Dc mX7_readOne 71 (.aload_n 0) 1 72 := ⟨by decide +kernel, rfl⟩
theorem qX7_readOne_72 : Dc mX7_readOne 72 (.aload_n 1) 1 73 := ⟨by decide +kernel, rfl⟩
theorem qX7_readOne_73 : Dc mX7_readOne 73 (.aload_n 2) 1 74 := ⟨by decide +kernel, rfl⟩
theorem qX7_readOne_74 : Dc mX7_readOne 74 (.iload_n 3) 1 75 := ⟨by decide +kernel, rfl⟩
theorem qX7_readOne_75 : Dc mX7_readOne 75 (.iconst 1) 1 76 := ⟨by decide +kernel, rfl⟩
theorem qX7_readOne_76 : Dc mX7_readOne 76 (.iadd) 1 77 := ⟨by decide +kernel, rfl⟩
theorem qX7_readOne_77 : Dc mX7_readOne 77 (.invokevirtual 46) 3 80 := ⟨by decide +kernel, rfl⟩
theorem qX7_readOne_80 : Dc mX7_readOne 80 (.ifCond .eq 16) 3 83 := ⟨by decide +kernel, rfl⟩
theorem qX7_readOne_83 : Dc mX7_readOne 83 (.aload_n 1) 1 84 := ⟨by decide +kernel, rfl⟩
theorem qX7_readOne_84 : Dc mX7_readOne 84 (.bipush 41) 2 86 := ⟨by decide +kernel, rfl⟩
theorem qX7_readOne_86 : Dc mX7_readOne 86 (.invokevirtual 92) 3 89 := ⟨by decide +kernel, rfl⟩
theorem qX7_readOne_89 : Dc mX7_readOne 89 (.ifCond .eq 7) 3 92 := ⟨by decide +kernel, rfl⟩
theorem qX7_readOne_92 : Dc mX7_readOne 92 (.iconst 1) 1 93 := ⟨by decide +kernel, rfl⟩
theorem qX7_readOne_93 : Dc mX7_readOne 93 (.goto 4) 3 96 := ⟨by decide +kernel, rfl⟩
theorem qX7_readOne_96 : Dc mX7_readOne 96 (.iconst 0) 1 97 := ⟨by decide +kernel, rfl⟩
theorem qX7_readOne_97 : Dc mX7_readOne 97 (.ireturn) 1 98 := ⟨by decide +kernel, rfl⟩
theorem qX7_readOne_98 : Dc mX7_readOne 98 (.iload 4) 2 100 := ⟨by decide +kernel, rfl⟩
theorem qX7_readOne_100 : Dc mX7_readOne 100 (.iconst 2) 1 101 := ⟨by decide +kernel, rfl⟩
theorem qX7_readOne_101 : Dc mX7_readOne 101 (.if_icmp .ne 31) 3 104 := ⟨by decide +kernel, rfl⟩
theorem qX7_readOne_104 : Dc mX7_readOne 104 (.aload_n 0) 1 105 := ⟨by decide +kernel, rfl⟩
theorem qX7_readOne_105 : Dc mX7_readOne 105 (.aload_n 1) 1 106 := ⟨by decide +kernel, rfl⟩
theorem qX7_readOne_106 : Dc mX7_readOne 106 (.aload_n 2) 1 107 := ⟨by decide +kernel, rfl⟩
theorem qX7_readOne_107 : Dc mX7_readOne 107 (.iload_n 3) 1 108 := ⟨by decide +kernel, rfl⟩
theorem qX7_readOne_108 : Dc mX7_readOne 108 (.iconst 1) 1 109 := ⟨by decide +kernel, rfl⟩
theorem qX7_readOne_109 : Dc mX7_readOne 109 (.iadd) 1 110 := ⟨by decide +kernel, rfl⟩
theorem qX7_readOne_110 : Dc mX7_readOne 110 (.invokevirtual 74) 3 113 := ⟨by decide +kernel, rfl⟩
theorem qX7_readOne_113 : Dc mX7_readOne 113 (.ifCond .eq 17) 3 116 := ⟨by decide +kernel, rfl⟩
theorem qX7_readOne_116 : Dc mX7_readOne 116 (.aload_n 0) 1 117 := ⟨by decide +kernel, rfl⟩
theorem qX7_readOne_117 : Dc mX7_readOne 117 (.iconst 2) 1 118 := ⟨by decide +kernel, rfl⟩
theorem qX7_readOne_118 : Dc mX7_readOne 118 (.iconst 0) 1 119 := ⟨by decide +kernel, rfl⟩
theorem qX7_readOne_119 : Dc mX7_readOne 119 (.iconst 0) 1 120 := ⟨by decide +kernel, rfl⟩
theorem qX7_readOne_120 : Dc mX7_readOne 120 (.invokevirtual 70) 3 123 := ⟨by decide +kernel, rfl⟩
theorem qX7_readOne_123 : Dc mX7_readOne 123 (.ifCond .eq 7) 3 126 := ⟨by decide +kernel, rfl⟩
theorem qX7_readOne_126 : Dc mX7_readOne 126 (.iconst 1) 1 127 := ⟨by decide +kernel, rfl⟩
theorem qX7_readOne_127 : Dc mX7_readOne 127 (.goto 4) 3 130 := ⟨by decide +kernel, rfl⟩
theorem qX7_readOne_130 : Dc mX7_readOne 130 (.iconst 0) 1 131 := ⟨by decide +kernel, rfl⟩
theorem qX7_readOne_131 : Dc mX7_readOne 131 (.ireturn) 1 132 := ⟨by decide +kernel, rfl⟩
theorem qX7_readOne_132 : Dc mX7_readOne 132 (.aload_n 0) 1 133 := ⟨by decide +kernel, rfl⟩
theorem qX7_readOne_133 : Dc mX7_readOne 133 (.aload_n 1) 1 134 := ⟨by decide +kernel, rfl⟩
theorem qX7_readOne_134 : Dc mX7_readOne 134 (.aload_n 2) 1 135 := ⟨by decide +kernel, rfl⟩
theorem qX7_readOne_135 : Dc mX7_readOne 135 (.iload 4) 2 137 := ⟨by decide +kernel, rfl⟩
theorem qX7_readOne_137 : Dc mX7_readOne 137 (.invokevirtual 95) 3 140 := ⟨by decide +kernel, rfl⟩
theorem qX7_readOne_140 : Dc mX7_readOne 140 (.ireturn) 1 141 := ⟨by decide +kernel, rfl⟩

set_option maxRecDepth 20000 in
set_option maxHeartbeats 4000000 in
theorem w_X7_readOne {N : Nat} {rec : Nat → Int32 → St → Option (Int32 × St)} {a0 : Nat} {x3 : Int32} {dR : Nat} (hdR : 20 ≤ dR) (hrec : ∀ (a : Nat) (v : Int32) (s : St) (r : Int32) (s1 : St), sh a = 7 → rec a v s = some (r, s1) → Ct mX7_readOne dR [.ref a, .ref 1, .ref 3, .int v] s (some (.int r), s1)) {s0 : St} {r : Int32} {sr : St} (h_a0 : sh a0 = 7) (h : f_X7_readOne N rec a0 x3 s0 = some (r, sr)) : Ct mX7_readOne (dR + 3) [.ref a0, .ref 1, .ref 3, .int x3] s0 (some (.int r), sr) := by
  refine Ct.ofE (by decide +kernel) rfl ?_
  show E mX7_readOne (dR + 3) (some (.int r), sr) 0 [some (.ref a0), some (.ref 1), some (.ref 3), some (.int x3), none, none] [] s0
  unfold f_X7_readOne at h
  refine e_aload_n qX7_readOne_0 rfl ?_
  obtain ⟨v1, hc, h⟩ := bp_e h
  refine e_cSi1 qX7_readOne_1 ms_X7_80 rfl (by rw [Nat.ble_eq]; omega) (w_X7_kindAt hc) ?_
  refine e_istore (lv2 := [some (.ref a0), some (.ref 1), some (.ref 3), some (.int x3), some (.int v1), none]) qX7_readOne_4 rfl rfl rfl ?_
  refine e_aload_n qX7_readOne_6 rfl ?_
  refine e_bipush (nI 40) qX7_readOne_7 rfl ?_
  obtain ⟨v2, hc, h⟩ := bp_e h
  refine e_cVi1 qX7_readOne_9 mv_X7_84 shq_1 rfl (by rw [Nat.ble_eq]; omega) (w_X9_isSign hc) ?_
  refine e_istore (lv2 := [some (.ref a0), some (.ref 1), some (.ref 3), some (.int x3), some (.int v1), some (.int v2)]) qX7_readOne_12 rfl rfl rfl ?_
  refine e_iload qX7_readOne_14 rfl ?_
  refine e_iconst (-1) qX7_readOne_16 rfl ?_
  refine jn_e (fun j => j = some (r, sr) → E mX7_readOne (dR + 3) (some (.int r), sr) 31 [some (.ref a0), some (.ref 1), some (.ref 3), some (.int x3), some (.int v1), some (.int v2)] [] s0) h ?_ (fun j3 hj3 h => ?_)
  · intro h
    refine e_aload_n qX7_readOne_31 rfl ?_
    refine e_geti qX7_readOne_32 fl_X7_24 h_a0 kdq_7_0 h (fun v4 h => ?_)
    refine e_bipush (nI 20) qX7_readOne_35 rfl ?_
    refine jn_e (fun j => j = some (r, sr) → E mX7_readOne (dR + 3) (some (.int r), sr) 46 [none, some (.ref 1), none, none, none, none] [] s0) h ?_ (fun j5 hj5 h => ?_)
    · intro h
      refine e_aload_n qX7_readOne_46 rfl ?_
      refine e_iconst (nI 4) qX7_readOne_47 rfl ?_
      obtain ⟨v6, s7, hc, h⟩ := bd_e h
      refine e_cVi1 qX7_readOne_48 mv_X7_88 shq_1 rfl (by rw [Nat.ble_eq]; omega) (w_X9_refuse hc) ?_
      refine rz_e h (fun hz h => ?_)
      exact e_zret qX7_readOne_51 rfl hz (ret_i h)
    refine e_icmp_ge (tgt := 46) qX7_readOne_37 rfl h (fun _ h => ?_) (fun _ h => ?_)
    · exact e_weak (hj5 h) ⟨Or.inl rfl, Or.inr rfl, Or.inl rfl, Or.inl rfl, Or.inl rfl, Or.inl rfl, trivial⟩
    refine e_iload_n qX7_readOne_40 rfl ?_
    refine e_bipush (nI 8) qX7_readOne_41 rfl ?_
    refine e_icmp_le (tgt := 52) qX7_readOne_43 rfl h (fun _ h => ?_) (fun _ h => ?_)
    · refine e_aload_n qX7_readOne_52 rfl ?_
      refine e_dup qX7_readOne_53 rfl ?_
      refine e_geti qX7_readOne_54 fl_X7_24 h_a0 kdq_7_0 h (fun v8 h => ?_)
      refine e_iconst (nI 1) qX7_readOne_57 rfl ?_
      refine e_iadd qX7_readOne_58 ?_
      refine e_puti qX7_readOne_59 fp_X7_24 h_a0 kdq_7_0 h (fun s9 h => ?_)
      refine e_aload_n qX7_readOne_62 rfl ?_
      obtain ⟨s10, hc, h⟩ := bp_e h
      refine e_cVv0 qX7_readOne_63 mv_X7_67 shq_1 rfl (by rw [Nat.ble_eq]; omega) (w_X9_next hc) ?_
      refine e_iload qX7_readOne_66 rfl ?_
      refine e_if_eq (tgt := 98) qX7_readOne_68 rfl h (fun _ h => ?_) (fun _ h => ?_)
      · refine e_iload qX7_readOne_98 rfl ?_
        refine e_iconst (nI 2) qX7_readOne_100 rfl ?_
        refine e_icmp_ne (tgt := 132) qX7_readOne_101 rfl h (fun _ h => ?_) (fun _ h => ?_)
        · refine e_aload_n qX7_readOne_104 rfl ?_
          refine e_aload_n qX7_readOne_105 rfl ?_
          refine e_aload_n qX7_readOne_106 rfl ?_
          refine e_iload_n qX7_readOne_107 rfl ?_
          refine e_iconst (nI 1) qX7_readOne_108 rfl ?_
          refine e_iadd qX7_readOne_109 ?_
          obtain ⟨v11, s12, hc, h⟩ := bd_e h
          refine e_cVi3 qX7_readOne_110 mv_X7_74 h_a0 rfl (by rw [Nat.ble_eq]; omega) (hrec _ _ _ _ _ h_a0 hc) ?_
          refine jn_e (fun j => ∀ (s13 : St), j s13 = some (r, sr) → E mX7_readOne (dR + 3) (some (.int r), sr) 130 [none, none, none, none, none, none] [] s13) h ?_ (fun j14 hj14 h => ?_)
          · intro s13 h
            refine e_iconst (nI 0) qX7_readOne_130 rfl ?_
            exact e_zret qX7_readOne_131 rfl (by decide) (ret_i h)
          refine e_if_eq (tgt := 130) qX7_readOne_113 rfl h (fun _ h => ?_) (fun _ h => ?_)
          · exact e_weak (hj14 _ h) ⟨Or.inl rfl, Or.inl rfl, Or.inl rfl, Or.inl rfl, Or.inl rfl, Or.inl rfl, trivial⟩
          refine e_aload_n qX7_readOne_116 rfl ?_
          refine e_iconst (nI 2) qX7_readOne_117 rfl ?_
          refine e_iconst (nI 0) qX7_readOne_118 rfl ?_
          refine e_iconst (nI 0) qX7_readOne_119 rfl ?_
          obtain ⟨v15, s16, hc, h⟩ := bd_e h
          refine e_cVi3 qX7_readOne_120 mv_X7_70 h_a0 rfl (by rw [Nat.ble_eq]; omega) (w_X7_add h_a0 hc) ?_
          refine e_if_eq (tgt := 130) qX7_readOne_123 rfl h (fun _ h => ?_) (fun _ h => ?_)
          · exact e_weak (hj14 _ h) ⟨Or.inl rfl, Or.inl rfl, Or.inl rfl, Or.inl rfl, Or.inl rfl, Or.inl rfl, trivial⟩
          refine e_iconst (nI 1) qX7_readOne_126 rfl ?_
          refine e_goto (tgt := 131) qX7_readOne_127 rfl ?_
          exact e_zret qX7_readOne_131 rfl (by decide) (ret_i h)
        refine e_aload_n qX7_readOne_132 rfl ?_
        refine e_aload_n qX7_readOne_133 rfl ?_
        refine e_aload_n qX7_readOne_134 rfl ?_
        refine e_iload qX7_readOne_135 rfl ?_
        obtain ⟨v17, s18, hc, h⟩ := bd_e h
        refine e_cVi3 qX7_readOne_137 mv_X7_95 h_a0 rfl (by rw [Nat.ble_eq]; omega) (w_X7_readPlain h_a0 hc) ?_
        refine rz_e h (fun hz h => ?_)
        exact e_zret qX7_readOne_140 rfl hz (ret_i h)
      refine e_aload_n qX7_readOne_71 rfl ?_
      refine e_aload_n qX7_readOne_72 rfl ?_
      refine e_aload_n qX7_readOne_73 rfl ?_
      refine e_iload_n qX7_readOne_74 rfl ?_
      refine e_iconst (nI 1) qX7_readOne_75 rfl ?_
      refine e_iadd qX7_readOne_76 ?_
      obtain ⟨v19, s20, hc, h⟩ := bd_e h
      refine e_cVi3 qX7_readOne_77 mv_X7_46 h_a0 rfl (by rw [Nat.ble_eq]; omega) (w_X7_readCondition hdR hrec h_a0 hc) ?_
      refine jn_e (fun j => ∀ (s21 : St), j s21 = some (r, sr) → E mX7_readOne (dR + 3) (some (.int r), sr) 96 [none, none, none, none, none, none] [] s21) h ?_ (fun j22 hj22 h => ?_)
      · intro s21 h
        refine e_iconst (nI 0) qX7_readOne_96 rfl ?_
        exact e_zret qX7_readOne_97 rfl (by decide) (ret_i h)
      refine e_if_eq (tgt := 96) qX7_readOne_80 rfl h (fun _ h => ?_) (fun _ h => ?_)
      · exact e_weak (hj22 _ h) ⟨Or.inl rfl, Or.inl rfl, Or.inl rfl, Or.inl rfl, Or.inl rfl, Or.inl rfl, trivial⟩
      refine e_aload_n qX7_readOne_83 rfl ?_
      refine e_bipush (nI 41) qX7_readOne_84 rfl ?_
      obtain ⟨v23, s24, hc, h⟩ := bd_e h
      refine e_cVi1 qX7_readOne_86 mv_X7_92 shq_1 rfl (by rw [Nat.ble_eq]; omega) (w_X9_takeSign hc) ?_
      refine e_if_eq (tgt := 96) qX7_readOne_89 rfl h (fun _ h => ?_) (fun _ h => ?_)
      · exact e_weak (hj22 _ h) ⟨Or.inl rfl, Or.inl rfl, Or.inl rfl, Or.inl rfl, Or.inl rfl, Or.inl rfl, trivial⟩
      refine e_iconst (nI 1) qX7_readOne_92 rfl ?_
      refine e_goto (tgt := 97) qX7_readOne_93 rfl ?_
      exact e_zret qX7_readOne_97 rfl (by decide) (ret_i h)
    exact e_weak (hj5 h) ⟨Or.inl rfl, Or.inr rfl, Or.inl rfl, Or.inl rfl, Or.inl rfl, Or.inl rfl, trivial⟩
  refine e_icmp_ne (tgt := 31) qX7_readOne_17 rfl h (fun _ h => ?_) (fun _ h => ?_)
  · refine e_iload qX7_readOne_20 rfl ?_
    refine e_if_ne (tgt := 31) qX7_readOne_22 rfl h (fun _ h => ?_) (fun _ h => ?_)
    · refine e_aload_n qX7_readOne_25 rfl ?_
      refine e_iconst (nI 1) qX7_readOne_26 rfl ?_
      obtain ⟨v25, s26, hc, h⟩ := bd_e h
      refine e_cVi1 qX7_readOne_27 mv_X7_88 shq_1 rfl (by rw [Nat.ble_eq]; omega) (w_X9_refuse hc) ?_
      refine rz_e h (fun hz h => ?_)
      exact e_zret qX7_readOne_30 rfl hz (ret_i h)
    exact e_weak (hj3 h) ⟨Or.inr rfl, Or.inr rfl, Or.inr rfl, Or.inr rfl, Or.inr rfl, Or.inr rfl, trivial⟩
  exact e_weak (hj3 h) ⟨Or.inr rfl, Or.inr rfl, Or.inr rfl, Or.inr rfl, Or.inr rfl, Or.inr rfl, trivial⟩

theorem w_F_X7_readOne {N : Nat} : ∀ (k : Nat) (a : Nat) (v : Int32) (s : St) (r : Int32) (s1 : St), sh a = 7 → F_X7_readOne N k a v s = some (r, s1) → Ct mX7_readOne (20 + 3 * k) [.ref a, .ref 1, .ref 3, .int v] s (some (.int r), s1) := by
  intro k
  induction k with
  | zero => intro a v s r s1 _ h; rw [F_X7_readOne] at h; cases h
  | succ k ih =>
    intro a v s r s1 ha h
    rw [F_X7_readOne] at h
    exact w_X7_readOne (dR := 20 + 3 * k) (Nat.le_add_right _ _) ih ha h

def f_X0_read_L14 (N : Nat) (k5 : St → Option (Int32 × St)) : Nat → Int32 → St → Option (Int32 × St)
  | 0, _, _ => none
  | n7 + 1, v3, s4 =>
    if (nI 40) < v3 then
      k5 s4
    else
    vl (s4.1 1 2) fun v9 =>
    if v9 = 0 then
      k5 s4
    else
    bd (f_X0_readLine N s4) fun v10 s11 =>
    if v10 = 0 then
      some ((nI 0), s11)
    else
    bd (f_X9_takeSign N (nI 59) s11) fun v12 s13 =>
    if v12 = 0 then
      some ((nI 0), s13)
    else
    vl (s13.1 71 3) fun v14 =>
    vl (sI s13 71 3 (v14 + (nI 1))) fun s15 =>
    vl (v3 + (nI 1)) fun v16 =>
    f_X0_read_L14 N k5 n7 v16 s15

def f_X0_read (N : Nat)  (s0 : St) : Option (Int32 × St) :=
  bp (f_X9_open N (nI 400) s0) fun s1 =>
  vl (sI s1 71 3 (nI 0)) fun s2 =>
  f_X0_read_L14 N (fun (s17 : St) =>
    bd (f_X9_atEnd s17) fun v18 s19 =>
    rz v18 <|
    some (v18, s19)) N (nI 0) s2

theorem qX0_read_0 : Dc mX0_read 0 (.aload_n 1) 1 1 := ⟨by decide +kernel, rfl⟩
theorem qX0_read_1 : Dc mX0_read 1 (.sipush 400) 3 4 := ⟨by decide +kernel, rfl⟩
theorem qX0_read_4 : Dc mX0_read 4 (.invokevirtual 21) 3 7 := ⟨by decide +kernel, rfl⟩
theorem qX0_read_7 : Dc mX0_read 7 (.aload_n 0) 1 8 := ⟨by decide +kernel, rfl⟩
theorem qX0_read_8 : Dc mX0_read 8 (.iconst 0) 1 9 := ⟨by decide +kernel, rfl⟩
theorem qX0_read_9 : Dc mX0_read 9 (.putfield 27) 3 12 := ⟨by decide +kernel, rfl⟩
theorem qX0_read_12 : Dc mX0_read 12 (.iconst 0) 1 13 := ⟨by decide +kernel, rfl⟩
theorem qX0_read_13 : Dc mX0_read 13 (.istore_n 3) 1 14 := ⟨by decide +kernel, rfl⟩
theorem qX0_read_14 : Dc mX0_read 14 (.iload_n 3) 1 15 := ⟨by decide +kernel, rfl⟩
theorem qX0_read_15 : Dc mX0_read 15 (.bipush 40) 2 17 := ⟨by decide +kernel, rfl⟩
theorem qX0_read_17 : Dc mX0_read 17 (.if_icmp .gt 46) 3 20 := ⟨by decide +kernel, rfl⟩
theorem qX0_read_20 : Dc mX0_read 20 (.aload_n 1) 1 21 := ⟨by decide +kernel, rfl⟩
theorem qX0_read_21 : Dc mX0_read 21 (.getfield 31) 3 24 := ⟨by decide +kernel, rfl⟩
theorem qX0_read_24 : Dc mX0_read 24 (.ifCond .eq 39) 3 27 := ⟨by decide +kernel, rfl⟩
theorem qX0_read_27 : Dc mX0_read 27 (.aload_n 0) 1 28 := ⟨by decide +kernel, rfl⟩
theorem qX0_read_28 : Dc mX0_read 28 (.aload_n 1) 1 29 := ⟨by decide +kernel, rfl⟩
theorem qX0_read_29 : Dc mX0_read 29 (.aload_n 2) 1 30 := ⟨by decide +kernel, rfl⟩
theorem qX0_read_30 : Dc mX0_read 30 (.invokevirtual 34) 3 33 := ⟨by decide +kernel, rfl⟩
theorem qX0_read_33 : Dc mX0_read 33 (.ifCond .eq 12) 3 36 := ⟨by decide +kernel, rfl⟩
theorem qX0_read_36 : Dc mX0_read 36 (.aload_n 1) 1 37 := ⟨by decide +kernel, rfl⟩
theorem qX0_read_37 : Dc mX0_read 37 (.bipush 59) 2 39 := ⟨by decide +kernel, rfl⟩
theorem qX0_read_39 : Dc mX0_read 39 (.invokevirtual 38) 3 42 := ⟨by decide +kernel, rfl⟩
theorem qX0_read_42 : Dc mX0_read 42 (.ifCond .ne 5) 3 45 := ⟨by decide +kernel, rfl⟩
theorem qX0_read_45 : Dc mX0_read 45 (.iconst 0) 1 46 := ⟨by decide +kernel, rfl⟩
theorem qX0_read_46 : Dc mX0_read 46 (.ireturn) 1 47 := ⟨by decide +kernel, rfl⟩
theorem qX0_read_47 : Dc mX0_read 47 (.aload_n 0) 1 48 := ⟨by decide +kernel, rfl⟩
theorem qX0_read_48 : Dc mX0_read 48 (.dup) 1 49 := ⟨by decide +kernel, rfl⟩
theorem qX0_read_49 : Dc mX0_read 49 (.getfield 27) 3 52 := ⟨by decide +kernel, rfl⟩
theorem qX0_read_52 : Dc mX0_read 52 (.iconst 1) 1 53 := ⟨by decide +kernel, rfl⟩
theorem qX0_read_53 : Dc mX0_read 53 (.iadd) 1 54 := ⟨by decide +kernel, rfl⟩
theorem qX0_read_54 : Dc mX0_read 54 (.putfield 27) 3 57 := ⟨by decide +kernel, rfl⟩
theorem qX0_read_57 : Dc mX0_read 57 (.iinc 3 1) 3 60 := ⟨by decide +kernel, rfl⟩
theorem qX0_read_60 : Dc mX0_read 60 (.goto (-46)) 3 63 := ⟨by decide +kernel, rfl⟩
theorem qX0_read_63 : Dc mX0_read 63 (.aload_n 1) 1 64 := ⟨by decide +kernel, rfl⟩
theorem qX0_read_64 : Dc mX0_read 64 (.invokevirtual 42) 3 67 := ⟨by decide +kernel, rfl⟩
theorem qX0_read_67 : Dc mX0_read 67 (.ireturn) 1 68 := ⟨by decide +kernel, rfl⟩

set_option maxRecDepth 20000 in
set_option maxHeartbeats 4000000 in
theorem w_X0_read_L14 {N : Nat}  {k5 : St → Option (Int32 × St)} {r : Int32} {sr : St}  (hk5 : ∀ (s6 : St), k5 s6 = some (r, sr) → E mX0_read 5 (some (.int r), sr) 63 [none, some (.ref 1), none, none] [] s6) : ∀ (n7 : Nat) (v3 : Int32) (s4 : St), f_X0_read_L14 N k5 n7 v3 s4 = some (r, sr) → E mX0_read 5 (some (.int r), sr) 14 [some (.ref 71), some (.ref 1), some (.ref 3), some (.int v3)] [] s4 := by
  intro n7
  induction n7 with
  | zero =>
    intro v3 s4 h
    rw [f_X0_read_L14] at h; cases h
  | succ n7 ih8 =>
    intro v3 s4 h
    rw [f_X0_read_L14] at h
    refine e_iload_n qX0_read_14 rfl ?_
    refine e_bipush (nI 40) qX0_read_15 rfl ?_
    refine e_icmp_gt (tgt := 63) qX0_read_17 rfl h (fun _ h => ?_) (fun _ h => ?_)
    · exact e_weak (hk5 _ h) ⟨Or.inl rfl, Or.inr rfl, Or.inl rfl, Or.inl rfl, trivial⟩
    refine e_aload_n qX0_read_20 rfl ?_
    refine e_geti qX0_read_21 fl_X0_31 shq_1 kdq_9_2 h (fun v9 h => ?_)
    refine e_if_eq (tgt := 63) qX0_read_24 rfl h (fun _ h => ?_) (fun _ h => ?_)
    · exact e_weak (hk5 _ h) ⟨Or.inl rfl, Or.inr rfl, Or.inl rfl, Or.inl rfl, trivial⟩
    refine e_aload_n qX0_read_27 rfl ?_
    refine e_aload_n qX0_read_28 rfl ?_
    refine e_aload_n qX0_read_29 rfl ?_
    obtain ⟨v10, s11, hc, h⟩ := bd_e h
    refine e_cVi2 qX0_read_30 mv_X0_34 shq_71 rfl rfl (w_X0_readLine hc) ?_
    refine e_if_eq (tgt := 45) qX0_read_33 rfl h (fun _ h => ?_) (fun _ h => ?_)
    · refine e_iconst (nI 0) qX0_read_45 rfl ?_
      exact e_zret qX0_read_46 rfl (by decide) (ret_i h)
    refine e_aload_n qX0_read_36 rfl ?_
    refine e_bipush (nI 59) qX0_read_37 rfl ?_
    obtain ⟨v12, s13, hc, h⟩ := bd_e h
    refine e_cVi1 qX0_read_39 mv_X0_38 shq_1 rfl rfl (w_X9_takeSign hc) ?_
    refine e_if_ne (tgt := 47) qX0_read_42 rfl h (fun _ h => ?_) (fun _ h => ?_)
    · refine e_iconst (nI 0) qX0_read_45 rfl ?_
      exact e_zret qX0_read_46 rfl (by decide) (ret_i h)
    refine e_aload_n qX0_read_47 rfl ?_
    refine e_dup qX0_read_48 rfl ?_
    refine e_geti qX0_read_49 fl_X0_27 shq_71 kdq_0_3 h (fun v14 h => ?_)
    refine e_iconst (nI 1) qX0_read_52 rfl ?_
    refine e_iadd qX0_read_53 ?_
    refine e_puti qX0_read_54 fp_X0_27 shq_71 kdq_0_3 h (fun s15 h => ?_)
    refine vl_e h (fun h => ?_)
    obtain ⟨v16, ev16⟩ : ∃ y, v3 + (nI 1) = y := ⟨_, rfl⟩
    rw [ev16] at h
    refine e_iinc (nI 1) v16 (lv2 := [some (.ref 71), some (.ref 1), some (.ref 3), some (.int v16)]) qX0_read_57 rfl rfl rfl ev16 rfl ?_
    refine e_goto (tgt := 14) qX0_read_60 rfl ?_
    exact e_weak (ih8 _ _ h) ⟨Or.inr rfl, Or.inr rfl, Or.inr rfl, Or.inr rfl, trivial⟩

set_option maxRecDepth 20000 in
set_option maxHeartbeats 4000000 in
theorem w_X0_read {N : Nat}  {s0 : St} {r : Int32} {sr : St} (h : f_X0_read N  s0 = some (r, sr)) : Ct mX0_read 5 [.ref 71, .ref 1, .ref 3] s0 (some (.int r), sr) := by
  refine Ct.ofE (by decide +kernel) rfl ?_
  show E mX0_read 5 (some (.int r), sr) 0 [some (.ref 71), some (.ref 1), some (.ref 3), none] [] s0
  unfold f_X0_read at h
  refine e_aload_n qX0_read_0 rfl ?_
  refine e_sipush (nI 400) qX0_read_1 rfl ?_
  obtain ⟨s1, hc, h⟩ := bp_e h
  refine e_cVv1 qX0_read_4 mv_X0_21 shq_1 rfl rfl (w_X9_open hc) ?_
  refine e_aload_n qX0_read_7 rfl ?_
  refine e_iconst (nI 0) qX0_read_8 rfl ?_
  refine e_puti qX0_read_9 fp_X0_27 shq_71 kdq_0_3 h (fun s2 h => ?_)
  refine e_iconst (nI 0) qX0_read_12 rfl ?_
  refine e_istore_n (lv2 := [some (.ref 71), some (.ref 1), some (.ref 3), some (.int (nI 0))]) qX0_read_13 rfl rfl rfl ?_
  refine e_weak (w_X0_read_L14 (fun s17 h => ?_) _ _ _ h) ⟨Or.inr rfl, Or.inr rfl, Or.inr rfl, Or.inr rfl, trivial⟩
  refine e_aload_n qX0_read_63 rfl ?_
  obtain ⟨v18, s19, hc, h⟩ := bd_e h
  refine e_cVi0 qX0_read_64 mv_X0_42 shq_1 rfl rfl (w_X9_atEnd hc) ?_
  refine rz_e h (fun hz h => ?_)
  exact e_zret qX0_read_67 rfl hz (ret_i h)

def f_X0_live_L10 (N : Nat) (c3 : Nat) : Nat → St → Option (St)
  | 0, _ => none
  | n5 + 1, s4 =>
    vl (s4.1 71 4) fun v7 =>
    vl (s4.1 71 3) fun v8 =>
    if v8 ≤ v7 then
      some s4
    else
    vl (s4.1 71 4) fun v9 =>
    bd (f_X0_liveLine N c3 v9 s4) fun v10 s11 =>
    vl (sI s11 71 5 v10) fun s12 =>
    vl (s12.1 71 5) fun v13 =>
    if v13 = 0 then
      vl (s12.1 71 4) fun v14 =>
      vl (sI s12 71 4 (v14 + (nI 1))) fun s15 =>
      f_X0_live_L10 N c3 n5 s15
    else
    some s12

def f_X0_live (N : Nat) (a1 : Nat) (s0 : St) : Option (St) :=
  vl (sI s0 71 5 (nI 0)) fun s1 =>
  vl (sI s1 71 4 (nI 0)) fun s2 =>
  f_X0_live_L10 N a1 N s2

theorem qX0_live_0 : Dc mX0_live 0 (.aload_n 0) 1 1 := ⟨by decide +kernel, rfl⟩
theorem qX0_live_1 : Dc mX0_live 1 (.iconst 0) 1 2 := ⟨by decide +kernel, rfl⟩
theorem qX0_live_2 : Dc mX0_live 2 (.putfield 108) 3 5 := ⟨by decide +kernel, rfl⟩
theorem qX0_live_5 : Dc mX0_live 5 (.aload_n 0) 1 6 := ⟨by decide +kernel, rfl⟩
theorem qX0_live_6 : Dc mX0_live 6 (.iconst 0) 1 7 := ⟨by decide +kernel, rfl⟩
theorem qX0_live_7 : Dc mX0_live 7 (.putfield 111) 3 10 := ⟨by decide +kernel, rfl⟩
theorem qX0_live_10 : Dc mX0_live 10 (.aload_n 0) 1 11 := ⟨by decide +kernel, rfl⟩
theorem qX0_live_11 : Dc mX0_live 11 (.getfield 111) 3 14 := ⟨by decide +kernel, rfl⟩
theorem qX0_live_14 : Dc mX0_live 14 (.aload_n 0) 1 15 := ⟨by decide +kernel, rfl⟩
theorem qX0_live_15 : Dc mX0_live 15 (.getfield 27) 3 18 := ⟨by decide +kernel, rfl⟩
theorem qX0_live_18 : Dc mX0_live 18 (.if_icmp .ge 37) 3 21 := ⟨by decide +kernel, rfl⟩
theorem qX0_live_21 : Dc mX0_live 21 (.aload_n 0) 1 22 := ⟨by decide +kernel, rfl⟩
theorem qX0_live_22 : Dc mX0_live 22 (.aload_n 0) 1 23 := ⟨by decide +kernel, rfl⟩
theorem qX0_live_23 : Dc mX0_live 23 (.aload_n 1) 1 24 := ⟨by decide +kernel, rfl⟩
theorem qX0_live_24 : Dc mX0_live 24 (.aload_n 0) 1 25 := ⟨by decide +kernel, rfl⟩
theorem qX0_live_25 : Dc mX0_live 25 (.getfield 111) 3 28 := ⟨by decide +kernel, rfl⟩
theorem qX0_live_28 : Dc mX0_live 28 (.invokevirtual 114) 3 31 := ⟨by decide +kernel, rfl⟩
theorem qX0_live_31 : Dc mX0_live 31 (.putfield 108) 3 34 := ⟨by decide +kernel, rfl⟩
theorem qX0_live_34 : Dc mX0_live 34 (.aload_n 0) 1 35 := ⟨by decide +kernel, rfl⟩
theorem qX0_live_35 : Dc mX0_live 35 (.getfield 108) 3 38 := ⟨by decide +kernel, rfl⟩
theorem qX0_live_38 : Dc mX0_live 38 (.ifCond .eq 4) 3 41 := ⟨by decide +kernel, rfl⟩
theorem qX0_live_41 : Dc mX0_live 41 (.return_) 1 42 := ⟨by decide +kernel, rfl⟩
theorem qX0_live_42 : Dc mX0_live 42 (.aload_n 0) 1 43 := ⟨by decide +kernel, rfl⟩
theorem qX0_live_43 : Dc mX0_live 43 (.dup) 1 44 := ⟨by decide +kernel, rfl⟩
theorem qX0_live_44 : Dc mX0_live 44 (.getfield 111) 3 47 := ⟨by decide +kernel, rfl⟩
theorem qX0_live_47 : Dc mX0_live 47 (.iconst 1) 1 48 := ⟨by decide +kernel, rfl⟩
theorem qX0_live_48 : Dc mX0_live 48 (.iadd) 1 49 := ⟨by decide +kernel, rfl⟩
theorem qX0_live_49 : Dc mX0_live 49 (.putfield 111) 3 52 := ⟨by decide +kernel, rfl⟩
theorem qX0_live_52 : Dc mX0_live 52 (.goto (-42)) 3 55 := ⟨by decide +kernel, rfl⟩
theorem qX0_live_55 : Dc mX0_live 55 (.return_) 1 56 := ⟨by decide +kernel, rfl⟩

set_option maxRecDepth 20000 in
set_option maxHeartbeats 4000000 in
theorem w_X0_live_L10 {N : Nat} {c3 : Nat}  {sr : St} (h_c3 : sh c3 = 6)  : ∀ (n5 : Nat) (s4 : St), f_X0_live_L10 N c3 n5 s4 = some sr → E mX0_live 6 (none, sr) 10 [some (.ref 71), some (.ref c3)] [] s4 := by
  intro n5
  induction n5 with
  | zero =>
    intro s4 h
    rw [f_X0_live_L10] at h; cases h
  | succ n5 ih6 =>
    intro s4 h
    rw [f_X0_live_L10] at h
    refine e_aload_n qX0_live_10 rfl ?_
    refine e_geti qX0_live_11 fl_X0_111 shq_71 kdq_0_4 h (fun v7 h => ?_)
    refine e_aload_n qX0_live_14 rfl ?_
    refine e_geti qX0_live_15 fl_X0_27 shq_71 kdq_0_3 h (fun v8 h => ?_)
    refine e_icmp_ge (tgt := 55) qX0_live_18 rfl h (fun _ h => ?_) (fun _ h => ?_)
    · exact e_vret qX0_live_55 rfl (ret_v h)
    refine e_aload_n qX0_live_21 rfl ?_
    refine e_aload_n qX0_live_22 rfl ?_
    refine e_aload_n qX0_live_23 rfl ?_
    refine e_aload_n qX0_live_24 rfl ?_
    refine e_geti qX0_live_25 fl_X0_111 shq_71 kdq_0_4 h (fun v9 h => ?_)
    obtain ⟨v10, s11, hc, h⟩ := bd_e h
    refine e_cVi2 qX0_live_28 mv_X0_114 shq_71 rfl rfl (w_X0_liveLine h_c3 hc) ?_
    refine e_puti qX0_live_31 fp_X0_108 shq_71 kdq_0_5 h (fun s12 h => ?_)
    refine e_aload_n qX0_live_34 rfl ?_
    refine e_geti qX0_live_35 fl_X0_108 shq_71 kdq_0_5 h (fun v13 h => ?_)
    refine e_if_eq (tgt := 42) qX0_live_38 rfl h (fun _ h => ?_) (fun _ h => ?_)
    · refine e_aload_n qX0_live_42 rfl ?_
      refine e_dup qX0_live_43 rfl ?_
      refine e_geti qX0_live_44 fl_X0_111 shq_71 kdq_0_4 h (fun v14 h => ?_)
      refine e_iconst (nI 1) qX0_live_47 rfl ?_
      refine e_iadd qX0_live_48 ?_
      refine e_puti qX0_live_49 fp_X0_111 shq_71 kdq_0_4 h (fun s15 h => ?_)
      refine e_goto (tgt := 10) qX0_live_52 rfl ?_
      exact e_weak (ih6 _ h) ⟨Or.inr rfl, Or.inr rfl, trivial⟩
    exact e_vret qX0_live_41 rfl (ret_v h)

set_option maxRecDepth 20000 in
set_option maxHeartbeats 4000000 in
theorem w_X0_live {N : Nat} {a1 : Nat} {s0 : St} {sr : St} (h_a1 : sh a1 = 6) (h : f_X0_live N a1 s0 = some sr) : Ct mX0_live 6 [.ref 71, .ref a1] s0 (none, sr) := by
  refine Ct.ofE (by decide +kernel) rfl ?_
  show E mX0_live 6 (none, sr) 0 [some (.ref 71), some (.ref a1)] [] s0
  unfold f_X0_live at h
  refine e_aload_n qX0_live_0 rfl ?_
  refine e_iconst (nI 0) qX0_live_1 rfl ?_
  refine e_puti qX0_live_2 fp_X0_108 shq_71 kdq_0_5 h (fun s1 h => ?_)
  refine e_aload_n qX0_live_5 rfl ?_
  refine e_iconst (nI 0) qX0_live_6 rfl ?_
  refine e_puti qX0_live_7 fp_X0_111 shq_71 kdq_0_4 h (fun s2 h => ?_)
  exact e_weak (w_X0_live_L10 h_a1  _ _ h) ⟨Or.inr rfl, Or.inr rfl, trivial⟩

def f_X1_read_L33 (N : Nat) (c7 : Nat) (k9 : St → Option (Int32 × St)) : Nat → St → Option (Int32 × St)
  | 0, _ => none
  | n11 + 1, s8 =>
    vl (s8.1 c7 5) fun v13 =>
    if (nI 900) ≤ v13 then
      k9 s8
    else
    vl (s8.1 1 2) fun v14 =>
    if v14 = 0 then
      k9 s8
    else
    bd (f_X1_readLine N c7 s8) fun v15 s16 =>
    if v15 = 0 then
      some ((nI 0), s16)
    else
    bd (f_X9_takeSign N (nI 59) s16) fun v17 s18 =>
    if v17 = 0 then
      some ((nI 0), s18)
    else
    vl (s18.1 c7 5) fun v19 =>
    vl (sI s18 c7 5 (v19 + (nI 1))) fun s20 =>
    f_X1_read_L33 N c7 k9 n11 s20

def f_X1_read (N : Nat) (a0 : Nat) (s0 : St) : Option (Int32 × St) :=
  vl (sI s0 a0 2 (nI 0)) fun s1 =>
  vl (sI s1 a0 3 (nI 0)) fun s2 =>
  vl (sI s2 a0 4 (nI 30)) fun s3 =>
  vl (sI s3 a0 6 (nI 0)) fun s4 =>
  bp (f_X9_open N (nI 900) s4) fun s5 =>
  vl (sI s5 a0 5 (nI 0)) fun s6 =>
  f_X1_read_L33 N a0 (fun (s21 : St) =>
    bd (f_X9_atEnd s21) fun v22 s23 =>
    rz v22 <|
    some (v22, s23)) N s6

theorem qX1_read_0 : Dc mX1_read 0 (.aload_n 0) 1 1 := ⟨by decide +kernel, rfl⟩
theorem qX1_read_1 : Dc mX1_read 1 (.iconst 0) 1 2 := ⟨by decide +kernel, rfl⟩
theorem qX1_read_2 : Dc mX1_read 2 (.putfield 29) 3 5 := ⟨by decide +kernel, rfl⟩
theorem qX1_read_5 : Dc mX1_read 5 (.aload_n 0) 1 6 := ⟨by decide +kernel, rfl⟩
theorem qX1_read_6 : Dc mX1_read 6 (.iconst 0) 1 7 := ⟨by decide +kernel, rfl⟩
theorem qX1_read_7 : Dc mX1_read 7 (.putfield 36) 3 10 := ⟨by decide +kernel, rfl⟩
theorem qX1_read_10 : Dc mX1_read 10 (.aload_n 0) 1 11 := ⟨by decide +kernel, rfl⟩
theorem qX1_read_11 : Dc mX1_read 11 (.bipush 30) 2 13 := ⟨by decide +kernel, rfl⟩
theorem qX1_read_13 : Dc mX1_read 13 (.putfield 23) 3 16 := ⟨by decide +kernel, rfl⟩
theorem qX1_read_16 : Dc mX1_read 16 (.aload_n 0) 1 17 := ⟨by decide +kernel, rfl⟩
theorem qX1_read_17 : Dc mX1_read 17 (.iconst 0) 1 18 := ⟨by decide +kernel, rfl⟩
theorem qX1_read_18 : Dc mX1_read 18 (.putfield 79) 3 21 := ⟨by decide +kernel, rfl⟩
theorem qX1_read_21 : Dc mX1_read 21 (.aload_n 1) 1 22 := ⟨by decide +kernel, rfl⟩
theorem qX1_read_22 : Dc mX1_read 22 (.sipush 900) 3 25 := ⟨by decide +kernel, rfl⟩
theorem qX1_read_25 : Dc mX1_read 25 (.invokevirtual 83) 3 28 := ⟨by decide +kernel, rfl⟩
theorem qX1_read_28 : Dc mX1_read 28 (.aload_n 0) 1 29 := ⟨by decide +kernel, rfl⟩
theorem qX1_read_29 : Dc mX1_read 29 (.iconst 0) 1 30 := ⟨by decide +kernel, rfl⟩
theorem qX1_read_30 : Dc mX1_read 30 (.putfield 42) 3 33 := ⟨by decide +kernel, rfl⟩
theorem qX1_read_33 : Dc mX1_read 33 (.aload_n 0) 1 34 := ⟨by decide +kernel, rfl⟩
theorem qX1_read_34 : Dc mX1_read 34 (.getfield 42) 3 37 := ⟨by decide +kernel, rfl⟩
theorem qX1_read_37 : Dc mX1_read 37 (.sipush 900) 3 40 := ⟨by decide +kernel, rfl⟩
theorem qX1_read_40 : Dc mX1_read 40 (.if_icmp .ge 42) 3 43 := ⟨by decide +kernel, rfl⟩
theorem qX1_read_43 : Dc mX1_read 43 (.aload_n 1) 1 44 := ⟨by decide +kernel, rfl⟩
theorem qX1_read_44 : Dc mX1_read 44 (.getfield 89) 3 47 := ⟨by decide +kernel, rfl⟩
theorem qX1_read_47 : Dc mX1_read 47 (.ifCond .eq 35) 3 50 := ⟨by decide +kernel, rfl⟩
theorem qX1_read_50 : Dc mX1_read 50 (.aload_n 0) 1 51 := ⟨by decide +kernel, rfl⟩
theorem qX1_read_51 : Dc mX1_read 51 (.aload_n 1) 1 52 := ⟨by decide +kernel, rfl⟩
theorem qX1_read_52 : Dc mX1_read 52 (.invokevirtual 92) 3 55 := ⟨by decide +kernel, rfl⟩
theorem qX1_read_55 : Dc mX1_read 55 (.ifCond .eq 12) 3 58 := ⟨by decide +kernel, rfl⟩
theorem qX1_read_58 : Dc mX1_read 58 (.aload_n 1) 1 59 := ⟨by decide +kernel, rfl⟩
theorem qX1_read_59 : Dc mX1_read 59 (.bipush 59) 2 61 := ⟨by decide +kernel, rfl⟩
theorem qX1_read_61 : Dc mX1_read 61 (.invokevirtual 96) 3 64 := ⟨by decide +kernel, rfl⟩
theorem qX1_read_64 : Dc mX1_read 64 (.ifCond .ne 5) 3 67 := ⟨by decide +kernel, rfl⟩
theorem qX1_read_67 : Dc mX1_read 67 (.iconst 0) 1 68 := ⟨by decide +kernel, rfl⟩
theorem qX1_read_68 : Dc mX1_read 68 (.ireturn) 1 69 := ⟨by decide +kernel, rfl⟩
theorem qX1_read_69 : Dc mX1_read 69 (.aload_n 0) 1 70 := ⟨by decide +kernel, rfl⟩
theorem qX1_read_70 : Dc mX1_read 70 (.dup) 1 71 := ⟨by decide +kernel, rfl⟩
theorem qX1_read_71 : Dc mX1_read 71 (.getfield 42) 3 74 := ⟨by decide +kernel, rfl⟩
theorem qX1_read_74 : Dc mX1_read 74 (.iconst 1) 1 75 := ⟨by decide +kernel, rfl⟩
theorem qX1_read_75 : Dc mX1_read 75 (.iadd) 1 76 := ⟨by decide +kernel, rfl⟩
theorem qX1_read_76 : Dc mX1_read 76 (.putfield 42) 3 79 := ⟨by decide +kernel, rfl⟩
theorem qX1_read_79 : Dc mX1_read 79 (.goto (-46)) 3 82 := ⟨by decide +kernel, rfl⟩
theorem qX1_read_82 : Dc mX1_read 82 (.aload_n 1) 1 83 := ⟨by decide +kernel, rfl⟩
theorem qX1_read_83 : Dc mX1_read 83 (.invokevirtual 100) 3 86 := ⟨by decide +kernel, rfl⟩
theorem qX1_read_86 : Dc mX1_read 86 (.ireturn) 1 87 := ⟨by decide +kernel, rfl⟩

set_option maxRecDepth 20000 in
set_option maxHeartbeats 4000000 in
theorem w_X1_read_L33 {N : Nat} {c7 : Nat} {k9 : St → Option (Int32 × St)} {r : Int32} {sr : St} (h_c7 : sh c7 = 1) (hk9 : ∀ (s10 : St), k9 s10 = some (r, sr) → E mX1_read 5 (some (.int r), sr) 82 [none, some (.ref 1)] [] s10) : ∀ (n11 : Nat) (s8 : St), f_X1_read_L33 N c7 k9 n11 s8 = some (r, sr) → E mX1_read 5 (some (.int r), sr) 33 [some (.ref c7), some (.ref 1)] [] s8 := by
  intro n11
  induction n11 with
  | zero =>
    intro s8 h
    rw [f_X1_read_L33] at h; cases h
  | succ n11 ih12 =>
    intro s8 h
    rw [f_X1_read_L33] at h
    refine e_aload_n qX1_read_33 rfl ?_
    refine e_geti qX1_read_34 fl_X1_42 h_c7 kdq_1_5 h (fun v13 h => ?_)
    refine e_sipush (nI 900) qX1_read_37 rfl ?_
    refine e_icmp_ge (tgt := 82) qX1_read_40 rfl h (fun _ h => ?_) (fun _ h => ?_)
    · exact e_weak (hk9 _ h) ⟨Or.inl rfl, Or.inr rfl, trivial⟩
    refine e_aload_n qX1_read_43 rfl ?_
    refine e_geti qX1_read_44 fl_X1_89 shq_1 kdq_9_2 h (fun v14 h => ?_)
    refine e_if_eq (tgt := 82) qX1_read_47 rfl h (fun _ h => ?_) (fun _ h => ?_)
    · exact e_weak (hk9 _ h) ⟨Or.inl rfl, Or.inr rfl, trivial⟩
    refine e_aload_n qX1_read_50 rfl ?_
    refine e_aload_n qX1_read_51 rfl ?_
    obtain ⟨v15, s16, hc, h⟩ := bd_e h
    refine e_cVi1 qX1_read_52 mv_X1_92 h_c7 rfl rfl (w_X1_readLine h_c7 hc) ?_
    refine e_if_eq (tgt := 67) qX1_read_55 rfl h (fun _ h => ?_) (fun _ h => ?_)
    · refine e_iconst (nI 0) qX1_read_67 rfl ?_
      exact e_zret qX1_read_68 rfl (by decide) (ret_i h)
    refine e_aload_n qX1_read_58 rfl ?_
    refine e_bipush (nI 59) qX1_read_59 rfl ?_
    obtain ⟨v17, s18, hc, h⟩ := bd_e h
    refine e_cVi1 qX1_read_61 mv_X1_96 shq_1 rfl rfl (w_X9_takeSign hc) ?_
    refine e_if_ne (tgt := 69) qX1_read_64 rfl h (fun _ h => ?_) (fun _ h => ?_)
    · refine e_iconst (nI 0) qX1_read_67 rfl ?_
      exact e_zret qX1_read_68 rfl (by decide) (ret_i h)
    refine e_aload_n qX1_read_69 rfl ?_
    refine e_dup qX1_read_70 rfl ?_
    refine e_geti qX1_read_71 fl_X1_42 h_c7 kdq_1_5 h (fun v19 h => ?_)
    refine e_iconst (nI 1) qX1_read_74 rfl ?_
    refine e_iadd qX1_read_75 ?_
    refine e_puti qX1_read_76 fp_X1_42 h_c7 kdq_1_5 h (fun s20 h => ?_)
    refine e_goto (tgt := 33) qX1_read_79 rfl ?_
    exact e_weak (ih12 _ h) ⟨Or.inr rfl, Or.inr rfl, trivial⟩

set_option maxRecDepth 20000 in
set_option maxHeartbeats 4000000 in
theorem w_X1_read {N : Nat} {a0 : Nat} {s0 : St} {r : Int32} {sr : St} (h_a0 : sh a0 = 1) (h : f_X1_read N a0 s0 = some (r, sr)) : Ct mX1_read 5 [.ref a0, .ref 1] s0 (some (.int r), sr) := by
  refine Ct.ofE (by decide +kernel) rfl ?_
  show E mX1_read 5 (some (.int r), sr) 0 [some (.ref a0), some (.ref 1)] [] s0
  unfold f_X1_read at h
  refine e_aload_n qX1_read_0 rfl ?_
  refine e_iconst (nI 0) qX1_read_1 rfl ?_
  refine e_puti qX1_read_2 fp_X1_29 h_a0 kdq_1_2 h (fun s1 h => ?_)
  refine e_aload_n qX1_read_5 rfl ?_
  refine e_iconst (nI 0) qX1_read_6 rfl ?_
  refine e_puti qX1_read_7 fp_X1_36 h_a0 kdq_1_3 h (fun s2 h => ?_)
  refine e_aload_n qX1_read_10 rfl ?_
  refine e_bipush (nI 30) qX1_read_11 rfl ?_
  refine e_puti qX1_read_13 fp_X1_23 h_a0 kdq_1_4 h (fun s3 h => ?_)
  refine e_aload_n qX1_read_16 rfl ?_
  refine e_iconst (nI 0) qX1_read_17 rfl ?_
  refine e_putz qX1_read_18 fp_X1_79 h_a0 kdq_1_6 (by decide) h (fun s4 h => ?_)
  refine e_aload_n qX1_read_21 rfl ?_
  refine e_sipush (nI 900) qX1_read_22 rfl ?_
  obtain ⟨s5, hc, h⟩ := bp_e h
  refine e_cVv1 qX1_read_25 mv_X1_83 shq_1 rfl rfl (w_X9_open hc) ?_
  refine e_aload_n qX1_read_28 rfl ?_
  refine e_iconst (nI 0) qX1_read_29 rfl ?_
  refine e_puti qX1_read_30 fp_X1_42 h_a0 kdq_1_5 h (fun s6 h => ?_)
  refine e_weak (w_X1_read_L33 h_a0 (fun s21 h => ?_) _ _ h) ⟨Or.inr rfl, Or.inr rfl, trivial⟩
  refine e_aload_n qX1_read_82 rfl ?_
  obtain ⟨v22, s23, hc, h⟩ := bd_e h
  refine e_cVi0 qX1_read_83 mv_X1_100 shq_1 rfl rfl (w_X9_atEnd hc) ?_
  refine rz_e h (fun hz h => ?_)
  exact e_zret qX1_read_86 rfl hz (ret_i h)

def f_X7_read (N : Nat) (a0 : Nat) (s0 : St) : Option (Int32 × St) :=
  bp (f_X7_clear a0 s0) fun s1 =>
  bp (f_X9_open N (nI 200) s1) fun s2 =>
  bd (f_X7_readCondition N (F_X7_readOne N 12) a0 (nI 1) s2) fun v3 s4 =>
  jn (fun (s5 : St) =>
    some ((nI 0), s5)) fun j6 =>
  if v3 = 0 then
    j6 s4
  else
  bd (f_X9_atEnd s4) fun v7 s8 =>
  if v7 = 0 then
    j6 s8
  else
  some ((nI 1), s8)

theorem qX7_read_0 : Dc mX7_read 0 (.aload_n 0) 1 1 := ⟨by decide +kernel, rfl⟩
theorem qX7_read_1 : Dc mX7_read 1 (.invokevirtual 37) 3 4 := ⟨by decide +kernel, rfl⟩
theorem qX7_read_4 : Dc mX7_read 4 (.aload_n 1) 1 5 := ⟨by decide +kernel, rfl⟩
theorem qX7_read_5 : Dc mX7_read 5 (.sipush 200) 3 8 := ⟨by decide +kernel, rfl⟩
theorem qX7_read_8 : Dc mX7_read 8 (.invokevirtual 40) 3 11 := ⟨by decide +kernel, rfl⟩
theorem qX7_read_11 : Dc mX7_read 11 (.aload_n 0) 1 12 := ⟨by decide +kernel, rfl⟩
theorem qX7_read_12 : Dc mX7_read 12 (.aload_n 1) 1 13 := ⟨by decide +kernel, rfl⟩
theorem qX7_read_13 : Dc mX7_read 13 (.aload_n 2) 1 14 := ⟨by decide +kernel, rfl⟩
theorem qX7_read_14 : Dc mX7_read 14 (.iconst 1) 1 15 := ⟨by decide +kernel, rfl⟩
theorem qX7_read_15 : Dc mX7_read 15 (.invokevirtual 46) 3 18 := ⟨by decide +kernel, rfl⟩
theorem qX7_read_18 : Dc mX7_read 18 (.ifCond .eq 14) 3 21 := ⟨by decide +kernel, rfl⟩
theorem qX7_read_21 : Dc mX7_read 21 (.aload_n 1) 1 22 := ⟨by decide +kernel, rfl⟩
theorem qX7_read_22 : Dc mX7_read 22 (.invokevirtual 50) 3 25 := ⟨by decide +kernel, rfl⟩
theorem qX7_read_25 : Dc mX7_read 25 (.ifCond .eq 7) 3 28 := ⟨by decide +kernel, rfl⟩
theorem qX7_read_28 : Dc mX7_read 28 (.iconst 1) 1 29 := ⟨by decide +kernel, rfl⟩
theorem qX7_read_29 : Dc mX7_read 29 (.goto 4) 3 32 := ⟨by decide +kernel, rfl⟩
theorem qX7_read_32 : Dc mX7_read 32 (.iconst 0) 1 33 := ⟨by decide +kernel, rfl⟩
theorem qX7_read_33 : Dc mX7_read 33 (.ireturn) 1 34 := ⟨by decide +kernel, rfl⟩

set_option maxRecDepth 20000 in
set_option maxHeartbeats 4000000 in
theorem w_X7_read {N : Nat} {a0 : Nat} {s0 : St} {r : Int32} {sr : St} (h_a0 : sh a0 = 7) (h : f_X7_read N a0 s0 = some (r, sr)) : Ct mX7_read 59 [.ref a0, .ref 1, .ref 3] s0 (some (.int r), sr) := by
  refine Ct.ofE (by decide +kernel) rfl ?_
  show E mX7_read 59 (some (.int r), sr) 0 [some (.ref a0), some (.ref 1), some (.ref 3)] [] s0
  unfold f_X7_read at h
  refine e_aload_n qX7_read_0 rfl ?_
  obtain ⟨s1, hc, h⟩ := bp_e h
  refine e_cVv0 qX7_read_1 mv_X7_37 h_a0 rfl rfl (w_X7_clear h_a0 hc) ?_
  refine e_aload_n qX7_read_4 rfl ?_
  refine e_sipush (nI 200) qX7_read_5 rfl ?_
  obtain ⟨s2, hc, h⟩ := bp_e h
  refine e_cVv1 qX7_read_8 mv_X7_40 shq_1 rfl rfl (w_X9_open hc) ?_
  refine e_aload_n qX7_read_11 rfl ?_
  refine e_aload_n qX7_read_12 rfl ?_
  refine e_aload_n qX7_read_13 rfl ?_
  refine e_iconst (nI 1) qX7_read_14 rfl ?_
  obtain ⟨v3, s4, hc, h⟩ := bd_e h
  refine e_cVi3 qX7_read_15 mv_X7_46 h_a0 rfl rfl (w_X7_readCondition (dR := 20 + 3 * 12) (by decide) (w_F_X7_readOne 12) h_a0 hc) ?_
  refine jn_e (fun j => ∀ (s5 : St), j s5 = some (r, sr) → E mX7_read 59 (some (.int r), sr) 32 [none, none, none] [] s5) h ?_ (fun j6 hj6 h => ?_)
  · intro s5 h
    refine e_iconst (nI 0) qX7_read_32 rfl ?_
    exact e_zret qX7_read_33 rfl (by decide) (ret_i h)
  refine e_if_eq (tgt := 32) qX7_read_18 rfl h (fun _ h => ?_) (fun _ h => ?_)
  · exact e_weak (hj6 _ h) ⟨Or.inl rfl, Or.inl rfl, Or.inl rfl, trivial⟩
  refine e_aload_n qX7_read_21 rfl ?_
  obtain ⟨v7, s8, hc, h⟩ := bd_e h
  refine e_cVi0 qX7_read_22 mv_X7_50 shq_1 rfl rfl (w_X9_atEnd hc) ?_
  refine e_if_eq (tgt := 32) qX7_read_25 rfl h (fun _ h => ?_) (fun _ h => ?_)
  · exact e_weak (hj6 _ h) ⟨Or.inl rfl, Or.inl rfl, Or.inl rfl, trivial⟩
  refine e_iconst (nI 1) qX7_read_28 rfl ?_
  refine e_goto (tgt := 33) qX7_read_29 rfl ?_
  exact e_zret qX7_read_33 rfl (by decide) (ret_i h)

def f_X11_chart (N : Nat)  (s0 : St) : Option (Int32 × St) :=
  bd (f_X1_read N 26 s0) fun v1 s2 =>
  bp (f_X11_closeText s2) fun s3 =>
  if v1 = 0 then
    vl (s3.1 1 7) fun v4 =>
    some (((-1) - v4), s3)
  else
  bp (f_X1_copyFrom N 3 26 s3) fun s5 =>
  bp (f_X1_compareLights N 3 s5) fun s6 =>
  bp (f_X6_begin N 49 s6) fun s7 =>
  bp (f_X7_clear 61 s7) fun s8 =>
  bp (f_X5_clear s8) fun s9 =>
  vl (s9.1 3 5) fun v10 =>
  some (v10, s9)

theorem qX11_chart_0 : Dc mX11_chart 0 (.aload_n 0) 1 1 := ⟨by decide +kernel, rfl⟩
theorem qX11_chart_1 : Dc mX11_chart 1 (.getfield 23) 3 4 := ⟨by decide +kernel, rfl⟩
theorem qX11_chart_4 : Dc mX11_chart 4 (.aload_n 0) 1 5 := ⟨by decide +kernel, rfl⟩
theorem qX11_chart_5 : Dc mX11_chart 5 (.getfield 12) 3 8 := ⟨by decide +kernel, rfl⟩
theorem qX11_chart_8 : Dc mX11_chart 8 (.invokevirtual 109) 3 11 := ⟨by decide +kernel, rfl⟩
theorem qX11_chart_11 : Dc mX11_chart 11 (.istore_n 1) 1 12 := ⟨by decide +kernel, rfl⟩
theorem qX11_chart_12 : Dc mX11_chart 12 (.aload_n 0) 1 13 := ⟨by decide +kernel, rfl⟩
theorem qX11_chart_13 : Dc mX11_chart 13 (.invokevirtual 113) 3 16 := ⟨by decide +kernel, rfl⟩
theorem qX11_chart_16 : Dc mX11_chart 16 (.iload_n 1) 1 17 := ⟨by decide +kernel, rfl⟩
theorem qX11_chart_17 : Dc mX11_chart 17 (.ifCond .ne 13) 3 20 := ⟨by decide +kernel, rfl⟩
theorem qX11_chart_20 : Dc mX11_chart 20 (.iconst (-1)) 1 21 := ⟨by decide +kernel, rfl⟩
theorem qX11_chart_21 : Dc mX11_chart 21 (.aload_n 0) 1 22 := ⟨by decide +kernel, rfl⟩
theorem qX11_chart_22 : Dc mX11_chart 22 (.getfield 12) 3 25 := ⟨by decide +kernel, rfl⟩
theorem qX11_chart_25 : Dc mX11_chart 25 (.getfield 116) 3 28 := ⟨by decide +kernel, rfl⟩
theorem qX11_chart_28 : Dc mX11_chart 28 (.isub) 1 29 := ⟨by decide +kernel, rfl⟩
theorem qX11_chart_29 : Dc mX11_chart 29 (.ireturn) 1 30 := ⟨by decide +kernel, rfl⟩
theorem qX11_chart_30 : Dc mX11_chart 30 (.aload_n 0) 1 31 := ⟨by decide +kernel, rfl⟩
theorem qX11_chart_31 : Dc mX11_chart 31 (.getfield 19) 3 34 := ⟨by decide +kernel, rfl⟩
theorem qX11_chart_34 : Dc mX11_chart 34 (.aload_n 0) 1 35 := ⟨by decide +kernel, rfl⟩
theorem qX11_chart_35 : Dc mX11_chart 35 (.getfield 23) 3 38 := ⟨by decide +kernel, rfl⟩
theorem qX11_chart_38 : Dc mX11_chart 38 (.invokevirtual 119) 3 41 := ⟨by decide +kernel, rfl⟩
theorem qX11_chart_41 : Dc mX11_chart 41 (.aload_n 0) 1 42 := ⟨by decide +kernel, rfl⟩
theorem qX11_chart_42 : Dc mX11_chart 42 (.getfield 19) 3 45 := ⟨by decide +kernel, rfl⟩
theorem qX11_chart_45 : Dc mX11_chart 45 (.invokevirtual 122) 3 48 := ⟨by decide +kernel, rfl⟩
theorem qX11_chart_48 : Dc mX11_chart 48 (.aload_n 0) 1 49 := ⟨by decide +kernel, rfl⟩
theorem qX11_chart_49 : Dc mX11_chart 49 (.getfield 31) 3 52 := ⟨by decide +kernel, rfl⟩
theorem qX11_chart_52 : Dc mX11_chart 52 (.invokevirtual 99) 3 55 := ⟨by decide +kernel, rfl⟩
theorem qX11_chart_55 : Dc mX11_chart 55 (.aload_n 0) 1 56 := ⟨by decide +kernel, rfl⟩
theorem qX11_chart_56 : Dc mX11_chart 56 (.getfield 41) 3 59 := ⟨by decide +kernel, rfl⟩
theorem qX11_chart_59 : Dc mX11_chart 59 (.invokevirtual 125) 3 62 := ⟨by decide +kernel, rfl⟩
theorem qX11_chart_62 : Dc mX11_chart 62 (.aload_n 0) 1 63 := ⟨by decide +kernel, rfl⟩
theorem qX11_chart_63 : Dc mX11_chart 63 (.getfield 58) 3 66 := ⟨by decide +kernel, rfl⟩
theorem qX11_chart_66 : Dc mX11_chart 66 (.invokevirtual 128) 3 69 := ⟨by decide +kernel, rfl⟩
theorem qX11_chart_69 : Dc mX11_chart 69 (.aload_n 0) 1 70 := ⟨by decide +kernel, rfl⟩
theorem qX11_chart_70 : Dc mX11_chart 70 (.getfield 19) 3 73 := ⟨by decide +kernel, rfl⟩
theorem qX11_chart_73 : Dc mX11_chart 73 (.getfield 129) 3 76 := ⟨by decide +kernel, rfl⟩
theorem qX11_chart_76 : Dc mX11_chart 76 (.ireturn) 1 77 := ⟨by decide +kernel, rfl⟩

set_option maxRecDepth 20000 in
set_option maxHeartbeats 4000000 in
theorem w_X11_chart {N : Nat}  {s0 : St} {r : Int32} {sr : St} (h : f_X11_chart N  s0 = some (r, sr)) : Ct mX11_chart 6 [.ref 0] s0 (some (.int r), sr) := by
  refine Ct.ofE (by decide +kernel) rfl ?_
  show E mX11_chart 6 (some (.int r), sr) 0 [some (.ref 0), none] [] s0
  unfold f_X11_chart at h
  refine e_aload_n qX11_chart_0 rfl ?_
  refine e_getr 26 qX11_chart_1 fl_X11_23 shq_0 kdq_10_2 rrq_0_2 ?_
  refine e_aload_n qX11_chart_4 rfl ?_
  refine e_getr 1 qX11_chart_5 fl_X11_12 shq_0 kdq_10_0 rrq_0_0 ?_
  obtain ⟨v1, s2, hc, h⟩ := bd_e h
  refine e_cVi1 qX11_chart_8 mv_X11_109 shq_26 rfl rfl (w_X1_read shq_26 hc) ?_
  refine e_istore_n (lv2 := [some (.ref 0), some (.int v1)]) qX11_chart_11 rfl rfl rfl ?_
  refine e_aload_n qX11_chart_12 rfl ?_
  obtain ⟨s3, hc, h⟩ := bp_e h
  refine e_cVv0 qX11_chart_13 mv_X11_113 shq_0 rfl rfl (w_X11_closeText hc) ?_
  refine e_iload_n qX11_chart_16 rfl ?_
  refine e_if_ne (tgt := 30) qX11_chart_17 rfl h (fun _ h => ?_) (fun _ h => ?_)
  · refine e_iconst (-1) qX11_chart_20 rfl ?_
    refine e_aload_n qX11_chart_21 rfl ?_
    refine e_getr 1 qX11_chart_22 fl_X11_12 shq_0 kdq_10_0 rrq_0_0 ?_
    refine e_geti qX11_chart_25 fl_X11_116 shq_1 kdq_9_7 h (fun v4 h => ?_)
    refine e_isub qX11_chart_28 ?_
    exact e_iret qX11_chart_29 rfl (ret_i h)
  refine e_aload_n qX11_chart_30 rfl ?_
  refine e_getr 3 qX11_chart_31 fl_X11_19 shq_0 kdq_10_1 rrq_0_1 ?_
  refine e_aload_n qX11_chart_34 rfl ?_
  refine e_getr 26 qX11_chart_35 fl_X11_23 shq_0 kdq_10_2 rrq_0_2 ?_
  obtain ⟨s5, hc, h⟩ := bp_e h
  refine e_cVv1 qX11_chart_38 mv_X11_119 shq_3 rfl rfl (w_X1_copyFrom shq_3 shq_26 hc) ?_
  refine e_aload_n qX11_chart_41 rfl ?_
  refine e_getr 3 qX11_chart_42 fl_X11_19 shq_0 kdq_10_1 rrq_0_1 ?_
  obtain ⟨s6, hc, h⟩ := bp_e h
  refine e_cVv0 qX11_chart_45 mv_X11_122 shq_3 rfl rfl (w_X1_compareLights shq_3 hc) ?_
  refine e_aload_n qX11_chart_48 rfl ?_
  refine e_getr 49 qX11_chart_49 fl_X11_31 shq_0 kdq_10_3 rrq_0_3 ?_
  obtain ⟨s7, hc, h⟩ := bp_e h
  refine e_cVv0 qX11_chart_52 mv_X11_99 shq_49 rfl rfl (w_X6_begin shq_49 hc) ?_
  refine e_aload_n qX11_chart_55 rfl ?_
  refine e_getr 61 qX11_chart_56 fl_X11_41 shq_0 kdq_10_5 rrq_0_5 ?_
  obtain ⟨s8, hc, h⟩ := bp_e h
  refine e_cVv0 qX11_chart_59 mv_X11_125 shq_61 rfl rfl (w_X7_clear shq_61 hc) ?_
  refine e_aload_n qX11_chart_62 rfl ?_
  refine e_getr 75 qX11_chart_63 fl_X11_58 shq_0 kdq_10_8 rrq_0_8 ?_
  obtain ⟨s9, hc, h⟩ := bp_e h
  refine e_cVv0 qX11_chart_66 mv_X11_128 shq_75 rfl rfl (w_X5_clear hc) ?_
  refine e_aload_n qX11_chart_69 rfl ?_
  refine e_getr 3 qX11_chart_70 fl_X11_19 shq_0 kdq_10_1 rrq_0_1 ?_
  refine e_geti qX11_chart_73 fl_X11_129 shq_3 kdq_1_5 h (fun v10 h => ?_)
  exact e_iret qX11_chart_76 rfl (ret_i h)

def f_X11_book (N : Nat) (x1 : Int32) (s0 : St) : Option (Int32 × St) :=
  jn (bd (f_X0_read N s0) fun v2 s3 =>
    bp (f_X11_closeText s3) fun s4 =>
    if v2 = 0 then
      vl (s4.1 1 7) fun v5 =>
      some (((-2) - v5), s4)
    else
    bp (f_X6_copyFrom 55 49 s4) fun s6 =>
    bp (f_X0_live N 55 s6) fun s7 =>
    vl (s7.1 71 5) fun v8 =>
    ald (fun j => sI s7 134 j v8) 4 (nI 0) fun s9 =>
    vl (s9.1 71 4) fun v10 =>
    ald (fun j => sI s9 134 j v10) 4 (nI 1) fun s11 =>
    vl (s11.1 55 1) fun v12 =>
    ald (fun j => sI s11 134 j v12) 4 (nI 2) fun s13 =>
    bp (f_X6_oilOfAll N 55 s13) fun v14 =>
    ald (fun j => sI s13 134 j v14) 4 (nI 3) fun s15 =>
    jn (fun (s16 : St) =>
      vl (s16.1 71 5) fun v18 =>
      if v18 = 0 then
        some ((-1), s16)
      else
      vl (s16.1 71 4) fun v19 =>
      some (v19, s16)) fun j17 =>
    if x1 = (nI 1) then
      vl (s15.1 71 4) fun v20 =>
      if v20 ≤ 0 then
        j17 s15
      else
      bp (f_X5_mark 49 s15) fun s21 =>
      bp (f_X5_keep s21) fun s22 =>
      bp (f_X6_copyFrom 49 55 s22) fun s23 =>
      j17 s23
    else
    j17 s15) fun j1 =>
  if x1 = 0 then
    j1
  else
  if x1 = (nI 1) then
    j1
  else
  some ((-1000), s0)

theorem qX11_book_0 : Dc mX11_book 0 (.iload_n 1) 1 1 := ⟨by decide +kernel, rfl⟩
theorem qX11_book_1 : Dc mX11_book 1 (.ifCond .eq 12) 3 4 := ⟨by decide +kernel, rfl⟩
theorem qX11_book_4 : Dc mX11_book 4 (.iload_n 1) 1 5 := ⟨by decide +kernel, rfl⟩
theorem qX11_book_5 : Dc mX11_book 5 (.iconst 1) 1 6 := ⟨by decide +kernel, rfl⟩
theorem qX11_book_6 : Dc mX11_book 6 (.if_icmp .eq 7) 3 9 := ⟨by decide +kernel, rfl⟩
theorem qX11_book_9 : Dc mX11_book 9 (.sipush (-1000)) 3 12 := ⟨by decide +kernel, rfl⟩
theorem qX11_book_12 : Dc mX11_book 12 (.ireturn) 1 13 := ⟨by decide +kernel, rfl⟩
theorem qX11_book_13 : Dc mX11_book 13 (.aload_n 0) 1 14 := ⟨by decide +kernel, rfl⟩
theorem qX11_book_14 : Dc mX11_book 14 (.getfield 51) 3 17 := ⟨by decide +kernel, rfl⟩
theorem qX11_book_17 : Dc mX11_book 17 (.aload_n 0) 1 18 := ⟨by decide +kernel, rfl⟩
theorem qX11_book_18 : Dc mX11_book 18 (.getfield 12) 3 21 := ⟨by decide +kernel, rfl⟩
theorem qX11_book_21 : Dc mX11_book 21 (.aload_n 0) 1 22 := ⟨by decide +kernel, rfl⟩
theorem qX11_book_22 : Dc mX11_book 22 (.getfield 19) 3 25 := ⟨by decide +kernel, rfl⟩
theorem qX11_book_25 : Dc mX11_book 25 (.invokevirtual 355) 3 28 := ⟨by decide +kernel, rfl⟩
theorem qX11_book_28 : Dc mX11_book 28 (.istore_n 2) 1 29 := ⟨by decide +kernel, rfl⟩
theorem qX11_book_29 : Dc mX11_book 29 (.aload_n 0) 1 30 := ⟨by decide +kernel, rfl⟩
theorem qX11_book_30 : Dc mX11_book 30 (.invokevirtual 113) 3 33 := ⟨by decide +kernel, rfl⟩
theorem qX11_book_33 : Dc mX11_book 33 (.iload_n 2) 1 34 := ⟨by decide +kernel, rfl⟩
theorem qX11_book_34 : Dc mX11_book 34 (.ifCond .ne 14) 3 37 := ⟨by decide +kernel, rfl⟩
theorem qX11_book_37 : Dc mX11_book 37 (.bipush (-2)) 2 39 := ⟨by decide +kernel, rfl⟩
theorem qX11_book_39 : Dc mX11_book 39 (.aload_n 0) 1 40 := ⟨by decide +kernel, rfl⟩
theorem qX11_book_40 : Dc mX11_book 40 (.getfield 12) 3 43 := ⟨by decide +kernel, rfl⟩
theorem qX11_book_43 : Dc mX11_book 43 (.getfield 116) 3 46 := ⟨by decide +kernel, rfl⟩
theorem qX11_book_46 : Dc mX11_book 46 (.isub) 1 47 := ⟨by decide +kernel, rfl⟩
theorem qX11_book_47 : Dc mX11_book 47 (.ireturn) 1 48 := ⟨by decide +kernel, rfl⟩
theorem qX11_book_48 : Dc mX11_book 48 (.aload_n 0) 1 49 := ⟨by decide +kernel, rfl⟩
theorem qX11_book_49 : Dc mX11_book 49 (.getfield 35) 3 52 := ⟨by decide +kernel, rfl⟩
theorem qX11_book_52 : Dc mX11_book 52 (.aload_n 0) 1 53 := ⟨by decide +kernel, rfl⟩
theorem qX11_book_53 : Dc mX11_book 53 (.getfield 31) 3 56 := ⟨by decide +kernel, rfl⟩
theorem qX11_book_56 : Dc mX11_book 56 (.invokevirtual 320) 3 59 := ⟨by decide +kernel, rfl⟩
theorem qX11_book_59 : Dc mX11_book 59 (.aload_n 0) 1 60 := ⟨by decide +kernel, rfl⟩
theorem qX11_book_60 : Dc mX11_book 60 (.getfield 51) 3 63 := ⟨by decide +kernel, rfl⟩
theorem qX11_book_63 : Dc mX11_book 63 (.aload_n 0) 1 64 := ⟨by decide +kernel, rfl⟩
theorem qX11_book_64 : Dc mX11_book 64 (.getfield 35) 3 67 := ⟨by decide +kernel, rfl⟩
theorem qX11_book_67 : Dc mX11_book 67 (.invokevirtual 358) 3 70 := ⟨by decide +kernel, rfl⟩
theorem qX11_book_70 : Dc mX11_book 70 (.aload_n 0) 1 71 := ⟨by decide +kernel, rfl⟩
theorem qX11_book_71 : Dc mX11_book 71 (.getfield 79) 3 74 := ⟨by decide +kernel, rfl⟩
theorem qX11_book_74 : Dc mX11_book 74 (.iconst 0) 1 75 := ⟨by decide +kernel, rfl⟩
theorem qX11_book_75 : Dc mX11_book 75 (.aload_n 0) 1 76 := ⟨by decide +kernel, rfl⟩
theorem qX11_book_76 : Dc mX11_book 76 (.getfield 51) 3 79 := ⟨by decide +kernel, rfl⟩
theorem qX11_book_79 : Dc mX11_book 79 (.getfield 361) 3 82 := ⟨by decide +kernel, rfl⟩
theorem qX11_book_82 : Dc mX11_book 82 (.iastore) 1 83 := ⟨by decide +kernel, rfl⟩
theorem qX11_book_83 : Dc mX11_book 83 (.aload_n 0) 1 84 := ⟨by decide +kernel, rfl⟩
theorem qX11_book_84 : Dc mX11_book 84 (.getfield 79) 3 87 := ⟨by decide +kernel, rfl⟩
theorem qX11_book_87 : Dc mX11_book 87 (.iconst 1) 1 88 := ⟨by decide +kernel, rfl⟩
theorem qX11_book_88 : Dc mX11_book 88 (.aload_n 0) 1 89 := ⟨by decide +kernel, rfl⟩
theorem qX11_book_89 : Dc mX11_book 89 (.getfield 51) 3 92 := ⟨by decide +kernel, rfl⟩
theorem qX11_book_92 : Dc mX11_book 92 (.getfield 364) 3 95 := ⟨by decide +kernel, rfl⟩
theorem qX11_book_95 : Dc mX11_book 95 (.iastore) 1 96 := ⟨by decide +kernel, rfl⟩
theorem qX11_book_96 : Dc mX11_book 96 (.aload_n 0) 1 97 := ⟨by decide +kernel, rfl⟩
theorem qX11_book_97 : Dc mX11_book 97 (.getfield 79) 3 100 := ⟨by decide +kernel, rfl⟩
theorem qX11_book_100 : Dc mX11_book 100 (.iconst 2) 1 101 := ⟨by decide +kernel, rfl⟩
theorem qX11_book_101 : Dc mX11_book 101 (.aload_n 0) 1 102 := ⟨by decide +kernel, rfl⟩
theorem qX11_book_102 : Dc mX11_book 102 (.getfield 35) 3 105 := ⟨by decide +kernel, rfl⟩
theorem qX11_book_105 : Dc mX11_book 105 (.getfield 218) 3 108 := ⟨by decide +kernel, rfl⟩
theorem qX11_book_108 : Dc mX11_book 108 (.iastore) 1 109 := ⟨by decide +kernel, rfl⟩
theorem qX11_book_109 : Dc mX11_book 109 (.aload_n 0) 1 110 := ⟨by decide +kernel, rfl⟩
theorem qX11_book_110 : Dc mX11_book 110 (.getfield 79) 3 113 := ⟨by decide +kernel, rfl⟩
theorem qX11_book_113 : Dc mX11_book 113 (.iconst 3) 1 114 := ⟨by decide +kernel, rfl⟩
theorem qX11_book_114 : Dc mX11_book 114 (.aload_n 0) 1 115 := ⟨by decide +kernel, rfl⟩
theorem qX11_book_115 : Dc mX11_book 115 (.getfield 35) 3 118 := ⟨by decide +kernel, rfl⟩
theorem qX11_book_118 : Dc mX11_book 118 (.invokevirtual 234) 3 121 := ⟨by decide +kernel, rfl⟩
theorem qX11_book_121 : Dc mX11_book 121 (.iastore) 1 122 := ⟨by decide +kernel, rfl⟩
theorem qX11_book_122 : Dc mX11_book 122 (.iload_n 1) 1 123 := ⟨by decide +kernel, rfl⟩
theorem qX11_book_123 : Dc mX11_book 123 (.iconst 1) 1 124 := ⟨by decide +kernel, rfl⟩
theorem qX11_book_124 : Dc mX11_book 124 (.if_icmp .ne 42) 3 127 := ⟨by decide +kernel, rfl⟩
theorem qX11_book_127 : Dc mX11_book 127 (.aload_n 0) 1 128 := ⟨by decide +kernel, rfl⟩
theorem qX11_book_128 : Dc mX11_book 128 (.getfield 51) 3 131 := ⟨by decide +kernel, rfl⟩
theorem qX11_book_131 : Dc mX11_book 131 (.getfield 364) 3 134 := ⟨by decide +kernel, rfl⟩
theorem qX11_book_134 : Dc mX11_book 134 (.ifCond .le 32) 3 137 := ⟨by decide +kernel, rfl⟩
theorem qX11_book_137 : Dc mX11_book 137 (.aload_n 0) 1 138 := ⟨by decide +kernel, rfl⟩
theorem qX11_book_138 : Dc mX11_book 138 (.getfield 58) 3 141 := ⟨by decide +kernel, rfl⟩
theorem qX11_book_141 : Dc mX11_book 141 (.aload_n 0) 1 142 := ⟨by decide +kernel, rfl⟩
theorem qX11_book_142 : Dc mX11_book 142 (.getfield 31) 3 145 := ⟨by decide +kernel, rfl⟩
theorem qX11_book_145 : Dc mX11_book 145 (.invokevirtual 237) 3 148 := ⟨by decide +kernel, rfl⟩
theorem qX11_book_148 : Dc mX11_book 148 (.aload_n 0) 1 149 := ⟨by decide +kernel, rfl⟩
theorem qX11_book_149 : Dc mX11_book 149 (.getfield 58) 3 152 := ⟨by decide +kernel, rfl⟩
theorem qX11_book_152 : Dc mX11_book 152 (.invokevirtual 367) 3 155 := ⟨by decide +kernel, rfl⟩
theorem qX11_book_155 : Dc mX11_book 155 (.aload_n 0) 1 156 := ⟨by decide +kernel, rfl⟩
theorem qX11_book_156 : Dc mX11_book 156 (.getfield 31) 3 159 := ⟨by decide +kernel, rfl⟩
theorem qX11_book_159 : Dc mX11_book 159 (.aload_n 0) 1 160 := ⟨by decide +kernel, rfl⟩
theorem qX11_book_160 : Dc mX11_book 160 (.getfield 35) 3 163 := ⟨by decide +kernel, rfl⟩
theorem qX11_book_163 : Dc mX11_book 163 (.invokevirtual 320) 3 166 := ⟨by decide +kernel, rfl⟩
theorem qX11_book_166 : Dc mX11_book 166 (.aload_n 0) 1 167 := ⟨by decide +kernel, rfl⟩
theorem qX11_book_167 : Dc mX11_book 167 (.getfield 51) 3 170 := ⟨by decide +kernel, rfl⟩
theorem qX11_book_170 : Dc mX11_book 170 (.getfield 361) 3 173 := ⟨by decide +kernel, rfl⟩
theorem qX11_book_173 : Dc mX11_book 173 (.ifCond .eq 13) 3 176 := ⟨by decide +kernel, rfl⟩
theorem qX11_book_176 : Dc mX11_book 176 (.aload_n 0) 1 177 := ⟨by decide +kernel, rfl⟩
theorem qX11_book_177 : Dc mX11_book 177 (.getfield 51) 3 180 := ⟨by decide +kernel, rfl⟩
theorem qX11_book_180 : Dc mX11_book 180 (.getfield 364) 3 183 := ⟨by decide +kernel, rfl⟩
theorem qX11_book_183 : Dc mX11_book 183 (.goto 4) 3 186 := ⟨by decide +kernel, rfl⟩
theorem qX11_book_186 : Dc mX11_book 186 (.iconst (-1)) 1 187 := ⟨by decide +kernel, rfl⟩
theorem qX11_book_187 : Dc mX11_book 187 (.ireturn) 1 188 := ⟨by decide +kernel, rfl⟩

set_option maxRecDepth 20000 in
set_option maxHeartbeats 4000000 in
theorem w_X11_book {N : Nat} {x1 : Int32} {s0 : St} {r : Int32} {sr : St} (h : f_X11_book N x1 s0 = some (r, sr)) : Ct mX11_book 7 [.ref 0, .int x1] s0 (some (.int r), sr) := by
  refine Ct.ofE (by decide +kernel) rfl ?_
  show E mX11_book 7 (some (.int r), sr) 0 [some (.ref 0), some (.int x1), none] [] s0
  unfold f_X11_book at h
  refine e_iload_n qX11_book_0 rfl ?_
  refine jn_e (fun j => j = some (r, sr) → E mX11_book 7 (some (.int r), sr) 13 [some (.ref 0), some (.int x1), none] [] s0) h ?_ (fun j1 hj1 h => ?_)
  · intro h
    refine e_aload_n qX11_book_13 rfl ?_
    refine e_getr 71 qX11_book_14 fl_X11_51 shq_0 kdq_10_7 rrq_0_7 ?_
    refine e_aload_n qX11_book_17 rfl ?_
    refine e_getr 1 qX11_book_18 fl_X11_12 shq_0 kdq_10_0 rrq_0_0 ?_
    refine e_aload_n qX11_book_21 rfl ?_
    refine e_getr 3 qX11_book_22 fl_X11_19 shq_0 kdq_10_1 rrq_0_1 ?_
    obtain ⟨v2, s3, hc, h⟩ := bd_e h
    refine e_cVi2 qX11_book_25 mv_X11_355 shq_71 rfl rfl (w_X0_read hc) ?_
    refine e_istore_n (lv2 := [some (.ref 0), some (.int x1), some (.int v2)]) qX11_book_28 rfl rfl rfl ?_
    refine e_aload_n qX11_book_29 rfl ?_
    obtain ⟨s4, hc, h⟩ := bp_e h
    refine e_cVv0 qX11_book_30 mv_X11_113 shq_0 rfl rfl (w_X11_closeText hc) ?_
    refine e_iload_n qX11_book_33 rfl ?_
    refine e_if_ne (tgt := 48) qX11_book_34 rfl h (fun _ h => ?_) (fun _ h => ?_)
    · refine e_bipush (-2) qX11_book_37 rfl ?_
      refine e_aload_n qX11_book_39 rfl ?_
      refine e_getr 1 qX11_book_40 fl_X11_12 shq_0 kdq_10_0 rrq_0_0 ?_
      refine e_geti qX11_book_43 fl_X11_116 shq_1 kdq_9_7 h (fun v5 h => ?_)
      refine e_isub qX11_book_46 ?_
      exact e_iret qX11_book_47 rfl (ret_i h)
    refine e_aload_n qX11_book_48 rfl ?_
    refine e_getr 55 qX11_book_49 fl_X11_35 shq_0 kdq_10_4 rrq_0_4 ?_
    refine e_aload_n qX11_book_52 rfl ?_
    refine e_getr 49 qX11_book_53 fl_X11_31 shq_0 kdq_10_3 rrq_0_3 ?_
    obtain ⟨s6, hc, h⟩ := bp_e h
    refine e_cVv1 qX11_book_56 mv_X11_320 shq_55 rfl rfl (w_X6_copyFrom shq_55 shq_49 hc) ?_
    refine e_aload_n qX11_book_59 rfl ?_
    refine e_getr 71 qX11_book_60 fl_X11_51 shq_0 kdq_10_7 rrq_0_7 ?_
    refine e_aload_n qX11_book_63 rfl ?_
    refine e_getr 55 qX11_book_64 fl_X11_35 shq_0 kdq_10_4 rrq_0_4 ?_
    obtain ⟨s7, hc, h⟩ := bp_e h
    refine e_cVv1 qX11_book_67 mv_X11_358 shq_71 rfl rfl (w_X0_live shq_55 hc) ?_
    refine e_aload_n qX11_book_70 rfl ?_
    refine e_getr 134 qX11_book_71 fl_X11_79 shq_0 kdq_10_12 rrq_0_12 ?_
    refine e_iconst (nI 0) qX11_book_74 rfl ?_
    refine e_aload_n qX11_book_75 rfl ?_
    refine e_getr 71 qX11_book_76 fl_X11_51 shq_0 kdq_10_7 rrq_0_7 ?_
    refine e_geti qX11_book_79 fl_X11_361 shq_71 kdq_0_5 h (fun v8 h => ?_)
    refine e_iast qX11_book_82 shq_134 lnq_134 h (fun s9 h => ?_)
    refine e_aload_n qX11_book_83 rfl ?_
    refine e_getr 134 qX11_book_84 fl_X11_79 shq_0 kdq_10_12 rrq_0_12 ?_
    refine e_iconst (nI 1) qX11_book_87 rfl ?_
    refine e_aload_n qX11_book_88 rfl ?_
    refine e_getr 71 qX11_book_89 fl_X11_51 shq_0 kdq_10_7 rrq_0_7 ?_
    refine e_geti qX11_book_92 fl_X11_364 shq_71 kdq_0_4 h (fun v10 h => ?_)
    refine e_iast qX11_book_95 shq_134 lnq_134 h (fun s11 h => ?_)
    refine e_aload_n qX11_book_96 rfl ?_
    refine e_getr 134 qX11_book_97 fl_X11_79 shq_0 kdq_10_12 rrq_0_12 ?_
    refine e_iconst (nI 2) qX11_book_100 rfl ?_
    refine e_aload_n qX11_book_101 rfl ?_
    refine e_getr 55 qX11_book_102 fl_X11_35 shq_0 kdq_10_4 rrq_0_4 ?_
    refine e_geti qX11_book_105 fl_X11_218 shq_55 kdq_6_1 h (fun v12 h => ?_)
    refine e_iast qX11_book_108 shq_134 lnq_134 h (fun s13 h => ?_)
    refine e_aload_n qX11_book_109 rfl ?_
    refine e_getr 134 qX11_book_110 fl_X11_79 shq_0 kdq_10_12 rrq_0_12 ?_
    refine e_iconst (nI 3) qX11_book_113 rfl ?_
    refine e_aload_n qX11_book_114 rfl ?_
    refine e_getr 55 qX11_book_115 fl_X11_35 shq_0 kdq_10_4 rrq_0_4 ?_
    obtain ⟨v14, hc, h⟩ := bp_e h
    refine e_cVi0 qX11_book_118 mv_X11_234 shq_55 rfl rfl (w_X6_oilOfAll shq_55 hc) ?_
    refine e_iast qX11_book_121 shq_134 lnq_134 h (fun s15 h => ?_)
    refine e_iload_n qX11_book_122 rfl ?_
    refine e_iconst (nI 1) qX11_book_123 rfl ?_
    refine jn_e (fun j => ∀ (s16 : St), j s16 = some (r, sr) → E mX11_book 7 (some (.int r), sr) 166 [some (.ref 0), none, none] [] s16) h ?_ (fun j17 hj17 h => ?_)
    · intro s16 h
      refine e_aload_n qX11_book_166 rfl ?_
      refine e_getr 71 qX11_book_167 fl_X11_51 shq_0 kdq_10_7 rrq_0_7 ?_
      refine e_geti qX11_book_170 fl_X11_361 shq_71 kdq_0_5 h (fun v18 h => ?_)
      refine e_if_eq (tgt := 186) qX11_book_173 rfl h (fun _ h => ?_) (fun _ h => ?_)
      · refine e_iconst (-1) qX11_book_186 rfl ?_
        exact e_iret qX11_book_187 rfl (ret_i h)
      refine e_aload_n qX11_book_176 rfl ?_
      refine e_getr 71 qX11_book_177 fl_X11_51 shq_0 kdq_10_7 rrq_0_7 ?_
      refine e_geti qX11_book_180 fl_X11_364 shq_71 kdq_0_4 h (fun v19 h => ?_)
      refine e_goto (tgt := 187) qX11_book_183 rfl ?_
      exact e_iret qX11_book_187 rfl (ret_i h)
    refine e_icmp_ne (tgt := 166) qX11_book_124 rfl h (fun _ h => ?_) (fun _ h => ?_)
    · refine e_aload_n qX11_book_127 rfl ?_
      refine e_getr 71 qX11_book_128 fl_X11_51 shq_0 kdq_10_7 rrq_0_7 ?_
      refine e_geti qX11_book_131 fl_X11_364 shq_71 kdq_0_4 h (fun v20 h => ?_)
      refine e_if_le (tgt := 166) qX11_book_134 rfl h (fun _ h => ?_) (fun _ h => ?_)
      · exact e_weak (hj17 _ h) ⟨Or.inr rfl, Or.inl rfl, Or.inl rfl, trivial⟩
      refine e_aload_n qX11_book_137 rfl ?_
      refine e_getr 75 qX11_book_138 fl_X11_58 shq_0 kdq_10_8 rrq_0_8 ?_
      refine e_aload_n qX11_book_141 rfl ?_
      refine e_getr 49 qX11_book_142 fl_X11_31 shq_0 kdq_10_3 rrq_0_3 ?_
      obtain ⟨s21, hc, h⟩ := bp_e h
      refine e_cVv1 qX11_book_145 mv_X11_237 shq_75 rfl rfl (w_X5_mark shq_49 hc) ?_
      refine e_aload_n qX11_book_148 rfl ?_
      refine e_getr 75 qX11_book_149 fl_X11_58 shq_0 kdq_10_8 rrq_0_8 ?_
      obtain ⟨s22, hc, h⟩ := bp_e h
      refine e_cVv0 qX11_book_152 mv_X11_367 shq_75 rfl rfl (w_X5_keep hc) ?_
      refine e_aload_n qX11_book_155 rfl ?_
      refine e_getr 49 qX11_book_156 fl_X11_31 shq_0 kdq_10_3 rrq_0_3 ?_
      refine e_aload_n qX11_book_159 rfl ?_
      refine e_getr 55 qX11_book_160 fl_X11_35 shq_0 kdq_10_4 rrq_0_4 ?_
      obtain ⟨s23, hc, h⟩ := bp_e h
      refine e_cVv1 qX11_book_163 mv_X11_320 shq_49 rfl rfl (w_X6_copyFrom shq_49 shq_55 hc) ?_
      exact e_weak (hj17 _ h) ⟨Or.inr rfl, Or.inl rfl, Or.inl rfl, trivial⟩
    exact e_weak (hj17 _ h) ⟨Or.inr rfl, Or.inl rfl, Or.inl rfl, trivial⟩
  refine e_if_eq (tgt := 13) qX11_book_1 rfl h (fun _ h => ?_) (fun _ h => ?_)
  · exact e_weak (hj1 h) ⟨Or.inr rfl, Or.inr rfl, Or.inl rfl, trivial⟩
  refine e_iload_n qX11_book_4 rfl ?_
  refine e_iconst (nI 1) qX11_book_5 rfl ?_
  refine e_icmp_eq (tgt := 13) qX11_book_6 rfl h (fun _ h => ?_) (fun _ h => ?_)
  · exact e_weak (hj1 h) ⟨Or.inr rfl, Or.inr rfl, Or.inl rfl, trivial⟩
  refine e_sipush (-1000) qX11_book_9 rfl ?_
  exact e_iret qX11_book_12 rfl (ret_i h)

def f_X11_sentence (N : Nat)  (s0 : St) : Option (Int32 × St) :=
  bd (f_X7_read N 66 s0) fun v1 s2 =>
  bp (f_X11_closeText s2) fun s3 =>
  if v1 = 0 then
    vl (s3.1 1 7) fun v4 =>
    some (((-1) - v4), s3)
  else
  bp (f_X7_copyFrom 61 66 s3) fun s5 =>
  vl (s5.1 61 0) fun v6 =>
  some (v6, s5)

theorem qX11_sentence_0 : Dc mX11_sentence 0 (.aload_n 0) 1 1 := ⟨by decide +kernel, rfl⟩
theorem qX11_sentence_1 : Dc mX11_sentence 1 (.getfield 45) 3 4 := ⟨by decide +kernel, rfl⟩
theorem qX11_sentence_4 : Dc mX11_sentence 4 (.aload_n 0) 1 5 := ⟨by decide +kernel, rfl⟩
theorem qX11_sentence_5 : Dc mX11_sentence 5 (.getfield 12) 3 8 := ⟨by decide +kernel, rfl⟩
theorem qX11_sentence_8 : Dc mX11_sentence 8 (.aload_n 0) 1 9 := ⟨by decide +kernel, rfl⟩
theorem qX11_sentence_9 : Dc mX11_sentence 9 (.getfield 19) 3 12 := ⟨by decide +kernel, rfl⟩
theorem qX11_sentence_12 : Dc mX11_sentence 12 (.invokevirtual 370) 3 15 := ⟨by decide +kernel, rfl⟩
theorem qX11_sentence_15 : Dc mX11_sentence 15 (.istore_n 1) 1 16 := ⟨by decide +kernel, rfl⟩
theorem qX11_sentence_16 : Dc mX11_sentence 16 (.aload_n 0) 1 17 := ⟨by decide +kernel, rfl⟩
theorem qX11_sentence_17 : Dc mX11_sentence 17 (.invokevirtual 113) 3 20 := ⟨by decide +kernel, rfl⟩
theorem qX11_sentence_20 : Dc mX11_sentence 20 (.iload_n 1) 1 21 := ⟨by decide +kernel, rfl⟩
theorem qX11_sentence_21 : Dc mX11_sentence 21 (.ifCond .ne 13) 3 24 := ⟨by decide +kernel, rfl⟩
theorem qX11_sentence_24 : Dc mX11_sentence 24 (.iconst (-1)) 1 25 := ⟨by decide +kernel, rfl⟩
theorem qX11_sentence_25 : Dc mX11_sentence 25 (.aload_n 0) 1 26 := ⟨by decide +kernel, rfl⟩
theorem qX11_sentence_26 : Dc mX11_sentence 26 (.getfield 12) 3 29 := ⟨by decide +kernel, rfl⟩
theorem qX11_sentence_29 : Dc mX11_sentence 29 (.getfield 116) 3 32 := ⟨by decide +kernel, rfl⟩
theorem qX11_sentence_32 : Dc mX11_sentence 32 (.isub) 1 33 := ⟨by decide +kernel, rfl⟩
theorem qX11_sentence_33 : Dc mX11_sentence 33 (.ireturn) 1 34 := ⟨by decide +kernel, rfl⟩
theorem qX11_sentence_34 : Dc mX11_sentence 34 (.aload_n 0) 1 35 := ⟨by decide +kernel, rfl⟩
theorem qX11_sentence_35 : Dc mX11_sentence 35 (.getfield 41) 3 38 := ⟨by decide +kernel, rfl⟩
theorem qX11_sentence_38 : Dc mX11_sentence 38 (.aload_n 0) 1 39 := ⟨by decide +kernel, rfl⟩
theorem qX11_sentence_39 : Dc mX11_sentence 39 (.getfield 45) 3 42 := ⟨by decide +kernel, rfl⟩
theorem qX11_sentence_42 : Dc mX11_sentence 42 (.invokevirtual 371) 3 45 := ⟨by decide +kernel, rfl⟩
theorem qX11_sentence_45 : Dc mX11_sentence 45 (.aload_n 0) 1 46 := ⟨by decide +kernel, rfl⟩
theorem qX11_sentence_46 : Dc mX11_sentence 46 (.getfield 41) 3 49 := ⟨by decide +kernel, rfl⟩
theorem qX11_sentence_49 : Dc mX11_sentence 49 (.getfield 374) 3 52 := ⟨by decide +kernel, rfl⟩
theorem qX11_sentence_52 : Dc mX11_sentence 52 (.ireturn) 1 53 := ⟨by decide +kernel, rfl⟩

set_option maxRecDepth 20000 in
set_option maxHeartbeats 4000000 in
theorem w_X11_sentence {N : Nat}  {s0 : St} {r : Int32} {sr : St} (h : f_X11_sentence N  s0 = some (r, sr)) : Ct mX11_sentence 60 [.ref 0] s0 (some (.int r), sr) := by
  refine Ct.ofE (by decide +kernel) rfl ?_
  show E mX11_sentence 60 (some (.int r), sr) 0 [some (.ref 0), none] [] s0
  unfold f_X11_sentence at h
  refine e_aload_n qX11_sentence_0 rfl ?_
  refine e_getr 66 qX11_sentence_1 fl_X11_45 shq_0 kdq_10_6 rrq_0_6 ?_
  refine e_aload_n qX11_sentence_4 rfl ?_
  refine e_getr 1 qX11_sentence_5 fl_X11_12 shq_0 kdq_10_0 rrq_0_0 ?_
  refine e_aload_n qX11_sentence_8 rfl ?_
  refine e_getr 3 qX11_sentence_9 fl_X11_19 shq_0 kdq_10_1 rrq_0_1 ?_
  obtain ⟨v1, s2, hc, h⟩ := bd_e h
  refine e_cVi2 qX11_sentence_12 mv_X11_370 shq_66 rfl rfl (w_X7_read shq_66 hc) ?_
  refine e_istore_n (lv2 := [some (.ref 0), some (.int v1)]) qX11_sentence_15 rfl rfl rfl ?_
  refine e_aload_n qX11_sentence_16 rfl ?_
  obtain ⟨s3, hc, h⟩ := bp_e h
  refine e_cVv0 qX11_sentence_17 mv_X11_113 shq_0 rfl rfl (w_X11_closeText hc) ?_
  refine e_iload_n qX11_sentence_20 rfl ?_
  refine e_if_ne (tgt := 34) qX11_sentence_21 rfl h (fun _ h => ?_) (fun _ h => ?_)
  · refine e_iconst (-1) qX11_sentence_24 rfl ?_
    refine e_aload_n qX11_sentence_25 rfl ?_
    refine e_getr 1 qX11_sentence_26 fl_X11_12 shq_0 kdq_10_0 rrq_0_0 ?_
    refine e_geti qX11_sentence_29 fl_X11_116 shq_1 kdq_9_7 h (fun v4 h => ?_)
    refine e_isub qX11_sentence_32 ?_
    exact e_iret qX11_sentence_33 rfl (ret_i h)
  refine e_aload_n qX11_sentence_34 rfl ?_
  refine e_getr 61 qX11_sentence_35 fl_X11_41 shq_0 kdq_10_5 rrq_0_5 ?_
  refine e_aload_n qX11_sentence_38 rfl ?_
  refine e_getr 66 qX11_sentence_39 fl_X11_45 shq_0 kdq_10_6 rrq_0_6 ?_
  obtain ⟨s5, hc, h⟩ := bp_e h
  refine e_cVv1 qX11_sentence_42 mv_X11_371 shq_61 rfl rfl (w_X7_copyFrom shq_61 shq_66 hc) ?_
  refine e_aload_n qX11_sentence_45 rfl ?_
  refine e_getr 61 qX11_sentence_46 fl_X11_41 shq_0 kdq_10_5 rrq_0_5 ?_
  refine e_geti qX11_sentence_49 fl_X11_374 shq_61 kdq_7_0 h (fun v6 h => ?_)
  exact e_iret qX11_sentence_52 rfl (ret_i h)
