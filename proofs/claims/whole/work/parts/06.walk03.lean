def f_X11_tagByte (x1 : Int32) (s0 : St) : Option (St) :=
  vl (s0.1 0 14) fun v1 =>
  if (nI 32) ≤ v1 then
    some s0
  else
  vl (s0.1 0 14) fun v2 =>
  ald (fun j => sI s0 135 j x1) 32 v2 fun s3 =>
  vl (s3.1 0 14) fun v4 =>
  vl (sI s3 0 14 (v4 + (nI 1))) fun s5 =>
  some s5

theorem qX11_tagByte_0 : Dc mX11_tagByte 0 (.aload_n 0) 1 1 := ⟨by decide +kernel, rfl⟩
theorem qX11_tagByte_1 : Dc mX11_tagByte 1 (.getfield 325) 3 4 := ⟨by decide +kernel, rfl⟩
theorem qX11_tagByte_4 : Dc mX11_tagByte 4 (.bipush 32) 2 6 := ⟨by decide +kernel, rfl⟩
theorem qX11_tagByte_6 : Dc mX11_tagByte 6 (.if_icmp .ge 23) 3 9 := ⟨by decide +kernel, rfl⟩
theorem qX11_tagByte_9 : Dc mX11_tagByte 9 (.aload_n 0) 1 10 := ⟨by decide +kernel, rfl⟩
theorem qX11_tagByte_10 : Dc mX11_tagByte 10 (.getfield 82) 3 13 := ⟨by decide +kernel, rfl⟩
theorem qX11_tagByte_13 : Dc mX11_tagByte 13 (.aload_n 0) 1 14 := ⟨by decide +kernel, rfl⟩
theorem qX11_tagByte_14 : Dc mX11_tagByte 14 (.getfield 325) 3 17 := ⟨by decide +kernel, rfl⟩
theorem qX11_tagByte_17 : Dc mX11_tagByte 17 (.iload_n 1) 1 18 := ⟨by decide +kernel, rfl⟩
theorem qX11_tagByte_18 : Dc mX11_tagByte 18 (.iastore) 1 19 := ⟨by decide +kernel, rfl⟩
theorem qX11_tagByte_19 : Dc mX11_tagByte 19 (.aload_n 0) 1 20 := ⟨by decide +kernel, rfl⟩
theorem qX11_tagByte_20 : Dc mX11_tagByte 20 (.dup) 1 21 := ⟨by decide +kernel, rfl⟩
theorem qX11_tagByte_21 : Dc mX11_tagByte 21 (.getfield 325) 3 24 := ⟨by decide +kernel, rfl⟩
theorem qX11_tagByte_24 : Dc mX11_tagByte 24 (.iconst 1) 1 25 := ⟨by decide +kernel, rfl⟩
theorem qX11_tagByte_25 : Dc mX11_tagByte 25 (.iadd) 1 26 := ⟨by decide +kernel, rfl⟩
theorem qX11_tagByte_26 : Dc mX11_tagByte 26 (.putfield 325) 3 29 := ⟨by decide +kernel, rfl⟩
theorem qX11_tagByte_29 : Dc mX11_tagByte 29 (.return_) 1 30 := ⟨by decide +kernel, rfl⟩

set_option maxRecDepth 20000 in
set_option maxHeartbeats 4000000 in
theorem w_X11_tagByte {x1 : Int32} {s0 : St} {sr : St} (h : f_X11_tagByte x1 s0 = some sr) : Ct mX11_tagByte 0 [.ref 0, .int x1] s0 (none, sr) := by
  refine Ct.ofE (by decide +kernel) rfl ?_
  show E mX11_tagByte 0 (none, sr) 0 [some (.ref 0), some (.int x1)] [] s0
  unfold f_X11_tagByte at h
  refine e_aload_n qX11_tagByte_0 rfl ?_
  refine e_geti qX11_tagByte_1 fl_X11_325 shq_0 kdq_10_14 h (fun v1 h => ?_)
  refine e_bipush (nI 32) qX11_tagByte_4 rfl ?_
  refine e_icmp_ge (tgt := 29) qX11_tagByte_6 rfl h (fun _ h => ?_) (fun _ h => ?_)
  · exact e_vret qX11_tagByte_29 rfl (ret_v h)
  refine e_aload_n qX11_tagByte_9 rfl ?_
  refine e_getr 135 qX11_tagByte_10 fl_X11_82 shq_0 kdq_10_13 rrq_0_13 ?_
  refine e_aload_n qX11_tagByte_13 rfl ?_
  refine e_geti qX11_tagByte_14 fl_X11_325 shq_0 kdq_10_14 h (fun v2 h => ?_)
  refine e_iload_n qX11_tagByte_17 rfl ?_
  refine e_iast qX11_tagByte_18 shq_135 lnq_135 h (fun s3 h => ?_)
  refine e_aload_n qX11_tagByte_19 rfl ?_
  refine e_dup qX11_tagByte_20 rfl ?_
  refine e_geti qX11_tagByte_21 fl_X11_325 shq_0 kdq_10_14 h (fun v4 h => ?_)
  refine e_iconst (nI 1) qX11_tagByte_24 rfl ?_
  refine e_iadd qX11_tagByte_25 ?_
  refine e_puti qX11_tagByte_26 fp_X11_325 shq_0 kdq_10_14 h (fun s5 h => ?_)
  exact e_vret qX11_tagByte_29 rfl (ret_v h)

def f_X11_tagWord_L3 (N : Nat) (c1 : Int64) : Nat → Int32 → St → Option (St)
  | 0, _, _ => none
  | n4 + 1, v2, s3 =>
    if v2 < 0 then
      some s3
    else
    vl ((lsr c1 (v2 * (nI 5))).toInt32 &&& (nI 31)) fun v6 =>
    jn (fun (s7 : St) =>
      vl (v2 + (-1)) fun v9 =>
      f_X11_tagWord_L3 N c1 n4 v9 s7) fun j8 =>
    if v6 = 0 then
      j8 s3
    else
    bp (f_X11_tagByte (((nI 97) + v6) - (nI 1)) s3) fun s10 =>
    j8 s10

def f_X11_tagWord (N : Nat) (x1 : Int64) (s0 : St) : Option (St) :=
  f_X11_tagWord_L3 N x1 N (nI 6) s0

theorem qX11_tagWord_0 : Dc mX11_tagWord 0 (.bipush 6) 2 2 := ⟨by decide +kernel, rfl⟩
theorem qX11_tagWord_2 : Dc mX11_tagWord 2 (.istore_n 3) 1 3 := ⟨by decide +kernel, rfl⟩
theorem qX11_tagWord_3 : Dc mX11_tagWord 3 (.iload_n 3) 1 4 := ⟨by decide +kernel, rfl⟩
theorem qX11_tagWord_4 : Dc mX11_tagWord 4 (.ifCond .lt 36) 3 7 := ⟨by decide +kernel, rfl⟩
theorem qX11_tagWord_7 : Dc mX11_tagWord 7 (.lload_n 1) 1 8 := ⟨by decide +kernel, rfl⟩
theorem qX11_tagWord_8 : Dc mX11_tagWord 8 (.iload_n 3) 1 9 := ⟨by decide +kernel, rfl⟩
theorem qX11_tagWord_9 : Dc mX11_tagWord 9 (.iconst 5) 1 10 := ⟨by decide +kernel, rfl⟩
theorem qX11_tagWord_10 : Dc mX11_tagWord 10 (.imul) 1 11 := ⟨by decide +kernel, rfl⟩
theorem qX11_tagWord_11 : Dc mX11_tagWord 11 (.lshr) 1 12 := ⟨by decide +kernel, rfl⟩
theorem qX11_tagWord_12 : Dc mX11_tagWord 12 (.l2i) 1 13 := ⟨by decide +kernel, rfl⟩
theorem qX11_tagWord_13 : Dc mX11_tagWord 13 (.bipush 31) 2 15 := ⟨by decide +kernel, rfl⟩
theorem qX11_tagWord_15 : Dc mX11_tagWord 15 (.iand) 1 16 := ⟨by decide +kernel, rfl⟩
theorem qX11_tagWord_16 : Dc mX11_tagWord 16 (.istore 4) 2 18 := ⟨by decide +kernel, rfl⟩
theorem qX11_tagWord_18 : Dc mX11_tagWord 18 (.iload 4) 2 20 := ⟨by decide +kernel, rfl⟩
theorem qX11_tagWord_20 : Dc mX11_tagWord 20 (.ifCond .eq 14) 3 23 := ⟨by decide +kernel, rfl⟩
theorem qX11_tagWord_23 : Dc mX11_tagWord 23 (.aload_n 0) 1 24 := ⟨by decide +kernel, rfl⟩
theorem qX11_tagWord_24 : Dc mX11_tagWord 24 (.bipush 97) 2 26 := ⟨by decide +kernel, rfl⟩
theorem qX11_tagWord_26 : Dc mX11_tagWord 26 (.iload 4) 2 28 := ⟨by decide +kernel, rfl⟩
theorem qX11_tagWord_28 : Dc mX11_tagWord 28 (.iadd) 1 29 := ⟨by decide +kernel, rfl⟩
theorem qX11_tagWord_29 : Dc mX11_tagWord 29 (.iconst 1) 1 30 := ⟨by decide +kernel, rfl⟩
theorem qX11_tagWord_30 : Dc mX11_tagWord 30 (.isub) 1 31 := ⟨by decide +kernel, rfl⟩
theorem qX11_tagWord_31 : Dc mX11_tagWord 31 (.invokevirtual 423) 3 34 := ⟨by decide +kernel, rfl⟩
theorem qX11_tagWord_34 : Dc mX11_tagWord 34 (.iinc 3 (-1)) 3 37 := ⟨by decide +kernel, rfl⟩
theorem qX11_tagWord_37 : Dc mX11_tagWord 37 (.goto (-34)) 3 40 := ⟨by decide +kernel, rfl⟩
theorem qX11_tagWord_40 : Dc mX11_tagWord 40 (.return_) 1 41 := ⟨by decide +kernel, rfl⟩

set_option maxRecDepth 20000 in
set_option maxHeartbeats 4000000 in
theorem w_X11_tagWord_L3 {N : Nat} {c1 : Int64}  {sr : St}   : ∀ (n4 : Nat) (v2 : Int32) (s3 : St), f_X11_tagWord_L3 N c1 n4 v2 s3 = some sr → E mX11_tagWord 1 (none, sr) 3 [some (.ref 0), some (.long c1), none, some (.int v2), none] [] s3 := by
  intro n4
  induction n4 with
  | zero =>
    intro v2 s3 h
    rw [f_X11_tagWord_L3] at h; cases h
  | succ n4 ih5 =>
    intro v2 s3 h
    rw [f_X11_tagWord_L3] at h
    refine e_iload_n qX11_tagWord_3 rfl ?_
    refine e_if_lt (tgt := 40) qX11_tagWord_4 rfl h (fun _ h => ?_) (fun _ h => ?_)
    · exact e_vret qX11_tagWord_40 rfl (ret_v h)
    refine e_lload_n qX11_tagWord_7 rfl ?_
    refine e_iload_n qX11_tagWord_8 rfl ?_
    refine e_iconst (nI 5) qX11_tagWord_9 rfl ?_
    refine e_imul qX11_tagWord_10 ?_
    refine e_lshr qX11_tagWord_11 ?_
    refine e_l2i qX11_tagWord_12 ?_
    refine e_bipush (nI 31) qX11_tagWord_13 rfl ?_
    refine e_iand qX11_tagWord_15 ?_
    refine vl_e h (fun h => ?_)
    generalize ((lsr c1 (v2 * (nI 5))).toInt32 &&& (nI 31)) = v6 at h ⊢
    refine e_istore (lv2 := [some (.ref 0), some (.long c1), none, some (.int v2), some (.int v6)]) qX11_tagWord_16 rfl rfl rfl ?_
    refine e_iload qX11_tagWord_18 rfl ?_
    refine jn_e (fun j => ∀ (s7 : St), j s7 = some sr → E mX11_tagWord 1 (none, sr) 34 [some (.ref 0), some (.long c1), none, some (.int v2), none] [] s7) h ?_ (fun j8 hj8 h => ?_)
    · intro s7 h
      refine vl_e h (fun h => ?_)
      obtain ⟨v9, ev9⟩ : ∃ y, v2 + (-1) = y := ⟨_, rfl⟩
      rw [ev9] at h
      refine e_iinc (-1) v9 (lv2 := [some (.ref 0), some (.long c1), none, some (.int v9), none]) qX11_tagWord_34 rfl rfl rfl ev9 rfl ?_
      refine e_goto (tgt := 3) qX11_tagWord_37 rfl ?_
      exact e_weak (ih5 _ _ h) ⟨Or.inr rfl, Or.inr rfl, Or.inl rfl, Or.inr rfl, Or.inl rfl, trivial⟩
    refine e_if_eq (tgt := 34) qX11_tagWord_20 rfl h (fun _ h => ?_) (fun _ h => ?_)
    · exact e_weak (hj8 _ h) ⟨Or.inr rfl, Or.inr rfl, Or.inl rfl, Or.inr rfl, Or.inl rfl, trivial⟩
    refine e_aload_n qX11_tagWord_23 rfl ?_
    refine e_bipush (nI 97) qX11_tagWord_24 rfl ?_
    refine e_iload qX11_tagWord_26 rfl ?_
    refine e_iadd qX11_tagWord_28 ?_
    refine e_iconst (nI 1) qX11_tagWord_29 rfl ?_
    refine e_isub qX11_tagWord_30 ?_
    obtain ⟨s10, hc, h⟩ := bp_e h
    refine e_cVv1 qX11_tagWord_31 mv_X11_423 shq_0 rfl rfl (w_X11_tagByte hc) ?_
    exact e_weak (hj8 _ h) ⟨Or.inr rfl, Or.inr rfl, Or.inl rfl, Or.inr rfl, Or.inl rfl, trivial⟩

set_option maxRecDepth 20000 in
set_option maxHeartbeats 4000000 in
theorem w_X11_tagWord {N : Nat} {x1 : Int64} {s0 : St} {sr : St} (h : f_X11_tagWord N x1 s0 = some sr) : Ct mX11_tagWord 1 [.ref 0, .long x1] s0 (none, sr) := by
  refine Ct.ofE (by decide +kernel) rfl ?_
  show E mX11_tagWord 1 (none, sr) 0 [some (.ref 0), some (.long x1), none, none, none] [] s0
  unfold f_X11_tagWord at h
  refine e_bipush (nI 6) qX11_tagWord_0 rfl ?_
  refine e_istore_n (lv2 := [some (.ref 0), some (.long x1), none, some (.int (nI 6)), none]) qX11_tagWord_2 rfl rfl rfl ?_
  exact e_weak (w_X11_tagWord_L3  _ _ _ h) ⟨Or.inr rfl, Or.inr rfl, Or.inl rfl, Or.inr rfl, Or.inl rfl, trivial⟩

def f_X11_tagNumber (x1 : Int32) (s0 : St) : Option (St) :=
  jn (fun (s1 : St) =>
    rm_ x1 (nI 10) fun v3 =>
    bp (f_X11_tagByte ((nI 48) + v3) s1) fun s4 =>
    some s4) fun j2 =>
  if x1 < (nI 10) then
    j2 s0
  else
  dv x1 (nI 10) fun v5 =>
  bp (f_X11_tagByte ((nI 48) + v5) s0) fun s6 =>
  j2 s6

theorem qX11_tagNumber_0 : Dc mX11_tagNumber 0 (.iload_n 1) 1 1 := ⟨by decide +kernel, rfl⟩
theorem qX11_tagNumber_1 : Dc mX11_tagNumber 1 (.bipush 10) 2 3 := ⟨by decide +kernel, rfl⟩
theorem qX11_tagNumber_3 : Dc mX11_tagNumber 3 (.if_icmp .lt 14) 3 6 := ⟨by decide +kernel, rfl⟩
theorem qX11_tagNumber_6 : Dc mX11_tagNumber 6 (.aload_n 0) 1 7 := ⟨by decide +kernel, rfl⟩
theorem qX11_tagNumber_7 : Dc mX11_tagNumber 7 (.bipush 48) 2 9 := ⟨by decide +kernel, rfl⟩
theorem qX11_tagNumber_9 : Dc mX11_tagNumber 9 (.iload_n 1) 1 10 := ⟨by decide +kernel, rfl⟩
theorem qX11_tagNumber_10 : Dc mX11_tagNumber 10 (.bipush 10) 2 12 := ⟨by decide +kernel, rfl⟩
theorem qX11_tagNumber_12 : Dc mX11_tagNumber 12 (.idiv) 1 13 := ⟨by decide +kernel, rfl⟩
theorem qX11_tagNumber_13 : Dc mX11_tagNumber 13 (.iadd) 1 14 := ⟨by decide +kernel, rfl⟩
theorem qX11_tagNumber_14 : Dc mX11_tagNumber 14 (.invokevirtual 423) 3 17 := ⟨by decide +kernel, rfl⟩
theorem qX11_tagNumber_17 : Dc mX11_tagNumber 17 (.aload_n 0) 1 18 := ⟨by decide +kernel, rfl⟩
theorem qX11_tagNumber_18 : Dc mX11_tagNumber 18 (.bipush 48) 2 20 := ⟨by decide +kernel, rfl⟩
theorem qX11_tagNumber_20 : Dc mX11_tagNumber 20 (.iload_n 1) 1 21 := ⟨by decide +kernel, rfl⟩
theorem qX11_tagNumber_21 : Dc mX11_tagNumber 21 (.bipush 10) 2 23 := ⟨by decide +kernel, rfl⟩
theorem qX11_tagNumber_23 : Dc mX11_tagNumber 23 (.irem) 1 24 := ⟨by decide +kernel, rfl⟩
theorem qX11_tagNumber_24 : Dc mX11_tagNumber 24 (.iadd) 1 25 := ⟨by decide +kernel, rfl⟩
theorem qX11_tagNumber_25 : Dc mX11_tagNumber 25 (.invokevirtual 423) 3 28 := ⟨by decide +kernel, rfl⟩
theorem qX11_tagNumber_28 : Dc mX11_tagNumber 28 (.return_) 1 29 := ⟨by decide +kernel, rfl⟩

set_option maxRecDepth 20000 in
set_option maxHeartbeats 4000000 in
theorem w_X11_tagNumber {x1 : Int32} {s0 : St} {sr : St} (h : f_X11_tagNumber x1 s0 = some sr) : Ct mX11_tagNumber 1 [.ref 0, .int x1] s0 (none, sr) := by
  refine Ct.ofE (by decide +kernel) rfl ?_
  show E mX11_tagNumber 1 (none, sr) 0 [some (.ref 0), some (.int x1)] [] s0
  unfold f_X11_tagNumber at h
  refine e_iload_n qX11_tagNumber_0 rfl ?_
  refine e_bipush (nI 10) qX11_tagNumber_1 rfl ?_
  refine jn_e (fun j => ∀ (s1 : St), j s1 = some sr → E mX11_tagNumber 1 (none, sr) 17 [some (.ref 0), some (.int x1)] [] s1) h ?_ (fun j2 hj2 h => ?_)
  · intro s1 h
    refine e_aload_n qX11_tagNumber_17 rfl ?_
    refine e_bipush (nI 48) qX11_tagNumber_18 rfl ?_
    refine e_iload_n qX11_tagNumber_20 rfl ?_
    refine e_bipush (nI 10) qX11_tagNumber_21 rfl ?_
    refine e_irem qX11_tagNumber_23 h (fun v3 h => ?_)
    refine e_iadd qX11_tagNumber_24 ?_
    obtain ⟨s4, hc, h⟩ := bp_e h
    refine e_cVv1 qX11_tagNumber_25 mv_X11_423 shq_0 rfl rfl (w_X11_tagByte hc) ?_
    exact e_vret qX11_tagNumber_28 rfl (ret_v h)
  refine e_icmp_lt (tgt := 17) qX11_tagNumber_3 rfl h (fun _ h => ?_) (fun _ h => ?_)
  · exact e_weak (hj2 _ h) ⟨Or.inr rfl, Or.inr rfl, trivial⟩
  refine e_aload_n qX11_tagNumber_6 rfl ?_
  refine e_bipush (nI 48) qX11_tagNumber_7 rfl ?_
  refine e_iload_n qX11_tagNumber_9 rfl ?_
  refine e_bipush (nI 10) qX11_tagNumber_10 rfl ?_
  refine e_idiv qX11_tagNumber_12 h (fun v5 h => ?_)
  refine e_iadd qX11_tagNumber_13 ?_
  obtain ⟨s6, hc, h⟩ := bp_e h
  refine e_cVv1 qX11_tagNumber_14 mv_X11_423 shq_0 rfl rfl (w_X11_tagByte hc) ?_
  exact e_weak (hj2 _ h) ⟨Or.inr rfl, Or.inr rfl, trivial⟩

def f_X12_thrown  (s0 : St) : Option (Int32) :=
  vl (s0.1 206 0) fun v1 =>
  some v1

theorem qX12_thrown_0 : Dc mX12_thrown 0 (.aload_n 0) 1 1 := ⟨by decide +kernel, rfl⟩
theorem qX12_thrown_1 : Dc mX12_thrown 1 (.getfield 1) 3 4 := ⟨by decide +kernel, rfl⟩
theorem qX12_thrown_4 : Dc mX12_thrown 4 (.ireturn) 1 5 := ⟨by decide +kernel, rfl⟩

set_option maxRecDepth 20000 in
set_option maxHeartbeats 4000000 in
theorem w_X12_thrown  {s0 : St} {r : Int32} (h : f_X12_thrown  s0 = some r) : Ct mX12_thrown 0 [.ref 206] s0 (some (.int r), s0) := by
  refine Ct.ofE (by decide +kernel) rfl ?_
  show E mX12_thrown 0 (some (.int r), s0) 0 [some (.ref 206)] [] s0
  unfold f_X12_thrown at h
  refine e_aload_n qX12_thrown_0 rfl ?_
  refine e_geti qX12_thrown_1 fl_X12_1 shq_206 kdq_11_0 h (fun v1 h => ?_)
  exact e_iret qX12_thrown_4 rfl (ret_p h)

def f_X12_throwsIf (x1 : Int32) (s0 : St) : Option (Int32 × St) :=
  jn (fun (v1 : Int32) =>
    vl (sI s0 206 0 v1) fun s3 =>
    rz x1 <|
    some (x1, s3)) fun j2 =>
  if x1 = 0 then
    j2 (nI 0)
  else
  j2 (nI 1)

theorem qX12_throwsIf_0 : Dc mX12_throwsIf 0 (.aload_n 0) 1 1 := ⟨by decide +kernel, rfl⟩
theorem qX12_throwsIf_1 : Dc mX12_throwsIf 1 (.iload_n 1) 1 2 := ⟨by decide +kernel, rfl⟩
theorem qX12_throwsIf_2 : Dc mX12_throwsIf 2 (.ifCond .eq 7) 3 5 := ⟨by decide +kernel, rfl⟩
theorem qX12_throwsIf_5 : Dc mX12_throwsIf 5 (.iconst 1) 1 6 := ⟨by decide +kernel, rfl⟩
theorem qX12_throwsIf_6 : Dc mX12_throwsIf 6 (.goto 4) 3 9 := ⟨by decide +kernel, rfl⟩
theorem qX12_throwsIf_9 : Dc mX12_throwsIf 9 (.iconst 0) 1 10 := ⟨by decide +kernel, rfl⟩
theorem qX12_throwsIf_10 : Dc mX12_throwsIf 10 (.putfield 1) 3 13 := ⟨by decide +kernel, rfl⟩
theorem qX12_throwsIf_13 : Dc mX12_throwsIf 13 (.iload_n 1) 1 14 := ⟨by decide +kernel, rfl⟩
theorem qX12_throwsIf_14 : Dc mX12_throwsIf 14 (.ireturn) 1 15 := ⟨by decide +kernel, rfl⟩

set_option maxRecDepth 20000 in
set_option maxHeartbeats 4000000 in
theorem w_X12_throwsIf {x1 : Int32} {s0 : St} {r : Int32} {sr : St} (h : f_X12_throwsIf x1 s0 = some (r, sr)) : Ct mX12_throwsIf 0 [.ref 206, .int x1] s0 (some (.int r), sr) := by
  refine Ct.ofE (by decide +kernel) rfl ?_
  show E mX12_throwsIf 0 (some (.int r), sr) 0 [some (.ref 206), some (.int x1)] [] s0
  unfold f_X12_throwsIf at h
  refine e_aload_n qX12_throwsIf_0 rfl ?_
  refine e_iload_n qX12_throwsIf_1 rfl ?_
  refine jn_e (fun j => ∀ (v1 : Int32), j v1 = some (r, sr) → E mX12_throwsIf 0 (some (.int r), sr) 10 [none, some (.int x1)] [.int v1, .ref 206] s0) h ?_ (fun j2 hj2 h => ?_)
  · intro v1 h
    refine e_puti qX12_throwsIf_10 fp_X12_1 shq_206 kdq_11_0 h (fun s3 h => ?_)
    refine e_iload_n qX12_throwsIf_13 rfl ?_
    refine rz_e h (fun hz h => ?_)
    exact e_zret qX12_throwsIf_14 rfl hz (ret_i h)
  refine e_if_eq (tgt := 9) qX12_throwsIf_2 rfl h (fun _ h => ?_) (fun _ h => ?_)
  · refine e_iconst (nI 0) qX12_throwsIf_9 rfl ?_
    exact e_weak (hj2 _ h) ⟨Or.inl rfl, Or.inr rfl, trivial⟩
  refine e_iconst (nI 1) qX12_throwsIf_5 rfl ?_
  refine e_goto (tgt := 10) qX12_throwsIf_6 rfl ?_
  exact e_weak (hj2 _ h) ⟨Or.inl rfl, Or.inr rfl, trivial⟩

def f_X12_four_L3 (N : Nat) (c1 : Int32) : Nat → Int32 → St → Option (St)
  | 0, _, _ => none
  | n4 + 1, v2, s3 =>
    if v2 < 0 then
      some s3
    else
    vl (s3.1 206 2) fun v6 =>
    ald (fun j => sI s3 207 j ((c1 >>> (v2 &&& 31)).toInt8.toInt32).toInt8.toInt32) 940 v6 fun s7 =>
    vl (s7.1 206 2) fun v8 =>
    vl (sI s7 206 2 (v8 + (nI 1))) fun s9 =>
    vl (v2 + (-8)) fun v10 =>
    f_X12_four_L3 N c1 n4 v10 s9

def f_X12_four (N : Nat) (x1 : Int32) (s0 : St) : Option (St) :=
  f_X12_four_L3 N x1 N (nI 24) s0

theorem qX12_four_0 : Dc mX12_four 0 (.bipush 24) 2 2 := ⟨by decide +kernel, rfl⟩
theorem qX12_four_2 : Dc mX12_four 2 (.istore_n 2) 1 3 := ⟨by decide +kernel, rfl⟩
theorem qX12_four_3 : Dc mX12_four 3 (.iload_n 2) 1 4 := ⟨by decide +kernel, rfl⟩
theorem qX12_four_4 : Dc mX12_four 4 (.ifCond .lt 32) 3 7 := ⟨by decide +kernel, rfl⟩
theorem qX12_four_7 : Dc mX12_four 7 (.aload_n 0) 1 8 := ⟨by decide +kernel, rfl⟩
theorem qX12_four_8 : Dc mX12_four 8 (.getfield 14) 3 11 := ⟨by decide +kernel, rfl⟩
theorem qX12_four_11 : Dc mX12_four 11 (.aload_n 0) 1 12 := ⟨by decide +kernel, rfl⟩
theorem qX12_four_12 : Dc mX12_four 12 (.getfield 7) 3 15 := ⟨by decide +kernel, rfl⟩
theorem qX12_four_15 : Dc mX12_four 15 (.iload_n 1) 1 16 := ⟨by decide +kernel, rfl⟩
theorem qX12_four_16 : Dc mX12_four 16 (.iload_n 2) 1 17 := ⟨by decide +kernel, rfl⟩
theorem qX12_four_17 : Dc mX12_four 17 (.ishr) 1 18 := ⟨by decide +kernel, rfl⟩
theorem qX12_four_18 : Dc mX12_four 18 (.i2b) 1 19 := ⟨by decide +kernel, rfl⟩
theorem qX12_four_19 : Dc mX12_four 19 (.bastore) 1 20 := ⟨by decide +kernel, rfl⟩
theorem qX12_four_20 : Dc mX12_four 20 (.aload_n 0) 1 21 := ⟨by decide +kernel, rfl⟩
theorem qX12_four_21 : Dc mX12_four 21 (.dup) 1 22 := ⟨by decide +kernel, rfl⟩
theorem qX12_four_22 : Dc mX12_four 22 (.getfield 7) 3 25 := ⟨by decide +kernel, rfl⟩
theorem qX12_four_25 : Dc mX12_four 25 (.iconst 1) 1 26 := ⟨by decide +kernel, rfl⟩
theorem qX12_four_26 : Dc mX12_four 26 (.iadd) 1 27 := ⟨by decide +kernel, rfl⟩
theorem qX12_four_27 : Dc mX12_four 27 (.putfield 7) 3 30 := ⟨by decide +kernel, rfl⟩
theorem qX12_four_30 : Dc mX12_four 30 (.iinc 2 (-8)) 3 33 := ⟨by decide +kernel, rfl⟩
theorem qX12_four_33 : Dc mX12_four 33 (.goto (-30)) 3 36 := ⟨by decide +kernel, rfl⟩
theorem qX12_four_36 : Dc mX12_four 36 (.return_) 1 37 := ⟨by decide +kernel, rfl⟩

set_option maxRecDepth 20000 in
set_option maxHeartbeats 4000000 in
theorem w_X12_four_L3 {N : Nat} {c1 : Int32}  {sr : St}   : ∀ (n4 : Nat) (v2 : Int32) (s3 : St), f_X12_four_L3 N c1 n4 v2 s3 = some sr → E mX12_four 0 (none, sr) 3 [some (.ref 206), some (.int c1), some (.int v2)] [] s3 := by
  intro n4
  induction n4 with
  | zero =>
    intro v2 s3 h
    rw [f_X12_four_L3] at h; cases h
  | succ n4 ih5 =>
    intro v2 s3 h
    rw [f_X12_four_L3] at h
    refine e_iload_n qX12_four_3 rfl ?_
    refine e_if_lt (tgt := 36) qX12_four_4 rfl h (fun _ h => ?_) (fun _ h => ?_)
    · exact e_vret qX12_four_36 rfl (ret_v h)
    refine e_aload_n qX12_four_7 rfl ?_
    refine e_getr 207 qX12_four_8 fl_X12_14 shq_206 kdq_11_1 rrq_206_1 ?_
    refine e_aload_n qX12_four_11 rfl ?_
    refine e_geti qX12_four_12 fl_X12_7 shq_206 kdq_11_2 h (fun v6 h => ?_)
    refine e_iload_n qX12_four_15 rfl ?_
    refine e_iload_n qX12_four_16 rfl ?_
    refine e_ishr qX12_four_17 ?_
    refine e_i2b qX12_four_18 ?_
    refine e_bast qX12_four_19 shq_207 lnq_207 h (fun s7 h => ?_)
    refine e_aload_n qX12_four_20 rfl ?_
    refine e_dup qX12_four_21 rfl ?_
    refine e_geti qX12_four_22 fl_X12_7 shq_206 kdq_11_2 h (fun v8 h => ?_)
    refine e_iconst (nI 1) qX12_four_25 rfl ?_
    refine e_iadd qX12_four_26 ?_
    refine e_puti qX12_four_27 fp_X12_7 shq_206 kdq_11_2 h (fun s9 h => ?_)
    refine vl_e h (fun h => ?_)
    obtain ⟨v10, ev10⟩ : ∃ y, v2 + (-8) = y := ⟨_, rfl⟩
    rw [ev10] at h
    refine e_iinc (-8) v10 (lv2 := [some (.ref 206), some (.int c1), some (.int v10)]) qX12_four_30 rfl rfl rfl ev10 rfl ?_
    refine e_goto (tgt := 3) qX12_four_33 rfl ?_
    exact e_weak (ih5 _ _ h) ⟨Or.inr rfl, Or.inr rfl, Or.inr rfl, trivial⟩

set_option maxRecDepth 20000 in
set_option maxHeartbeats 4000000 in
theorem w_X12_four {N : Nat} {x1 : Int32} {s0 : St} {sr : St} (h : f_X12_four N x1 s0 = some sr) : Ct mX12_four 0 [.ref 206, .int x1] s0 (none, sr) := by
  refine Ct.ofE (by decide +kernel) rfl ?_
  show E mX12_four 0 (none, sr) 0 [some (.ref 206), some (.int x1), none] [] s0
  unfold f_X12_four at h
  refine e_bipush (nI 24) qX12_four_0 rfl ?_
  refine e_istore_n (lv2 := [some (.ref 206), some (.int x1), some (.int (nI 24))]) qX12_four_2 rfl rfl rfl ?_
  exact e_weak (w_X12_four_L3  _ _ _ h) ⟨Or.inr rfl, Or.inr rfl, Or.inr rfl, trivial⟩

def f_X12_end (x1 : Int32) (s0 : St) : Option (Int32 × St) :=
  vl (sI s0 206 0 (nI 0)) fun s1 =>
  if x1 < 0 then
    some ((nI 0), s1)
  else
  vl (s1.1 206 2) fun v2 =>
  if x1 ≤ v2 then
    vl (sI s1 206 2 x1) fun s3 =>
    some ((nI 1), s3)
  else
  some ((nI 0), s1)

theorem qX12_end_0 : Dc mX12_end 0 (.aload_n 0) 1 1 := ⟨by decide +kernel, rfl⟩
theorem qX12_end_1 : Dc mX12_end 1 (.iconst 0) 1 2 := ⟨by decide +kernel, rfl⟩
theorem qX12_end_2 : Dc mX12_end 2 (.putfield 1) 3 5 := ⟨by decide +kernel, rfl⟩
theorem qX12_end_5 : Dc mX12_end 5 (.iload_n 1) 1 6 := ⟨by decide +kernel, rfl⟩
theorem qX12_end_6 : Dc mX12_end 6 (.ifCond .lt 11) 3 9 := ⟨by decide +kernel, rfl⟩
theorem qX12_end_9 : Dc mX12_end 9 (.iload_n 1) 1 10 := ⟨by decide +kernel, rfl⟩
theorem qX12_end_10 : Dc mX12_end 10 (.aload_n 0) 1 11 := ⟨by decide +kernel, rfl⟩
theorem qX12_end_11 : Dc mX12_end 11 (.getfield 7) 3 14 := ⟨by decide +kernel, rfl⟩
theorem qX12_end_14 : Dc mX12_end 14 (.if_icmp .le 5) 3 17 := ⟨by decide +kernel, rfl⟩
theorem qX12_end_17 : Dc mX12_end 17 (.iconst 0) 1 18 := ⟨by decide +kernel, rfl⟩
theorem qX12_end_18 : Dc mX12_end 18 (.ireturn) 1 19 := ⟨by decide +kernel, rfl⟩
theorem qX12_end_19 : Dc mX12_end 19 (.aload_n 0) 1 20 := ⟨by decide +kernel, rfl⟩
theorem qX12_end_20 : Dc mX12_end 20 (.iload_n 1) 1 21 := ⟨by decide +kernel, rfl⟩
theorem qX12_end_21 : Dc mX12_end 21 (.putfield 7) 3 24 := ⟨by decide +kernel, rfl⟩
theorem qX12_end_24 : Dc mX12_end 24 (.iconst 1) 1 25 := ⟨by decide +kernel, rfl⟩
theorem qX12_end_25 : Dc mX12_end 25 (.ireturn) 1 26 := ⟨by decide +kernel, rfl⟩

set_option maxRecDepth 20000 in
set_option maxHeartbeats 4000000 in
theorem w_X12_end {x1 : Int32} {s0 : St} {r : Int32} {sr : St} (h : f_X12_end x1 s0 = some (r, sr)) : Ct mX12_end 0 [.ref 206, .int x1] s0 (some (.int r), sr) := by
  refine Ct.ofE (by decide +kernel) rfl ?_
  show E mX12_end 0 (some (.int r), sr) 0 [some (.ref 206), some (.int x1)] [] s0
  unfold f_X12_end at h
  refine e_aload_n qX12_end_0 rfl ?_
  refine e_iconst (nI 0) qX12_end_1 rfl ?_
  refine e_puti qX12_end_2 fp_X12_1 shq_206 kdq_11_0 h (fun s1 h => ?_)
  refine e_iload_n qX12_end_5 rfl ?_
  refine e_if_lt (tgt := 17) qX12_end_6 rfl h (fun _ h => ?_) (fun _ h => ?_)
  · refine e_iconst (nI 0) qX12_end_17 rfl ?_
    exact e_zret qX12_end_18 rfl (by decide) (ret_i h)
  refine e_iload_n qX12_end_9 rfl ?_
  refine e_aload_n qX12_end_10 rfl ?_
  refine e_geti qX12_end_11 fl_X12_7 shq_206 kdq_11_2 h (fun v2 h => ?_)
  refine e_icmp_le (tgt := 19) qX12_end_14 rfl h (fun _ h => ?_) (fun _ h => ?_)
  · refine e_aload_n qX12_end_19 rfl ?_
    refine e_iload_n qX12_end_20 rfl ?_
    refine e_puti qX12_end_21 fp_X12_7 shq_206 kdq_11_2 h (fun s3 h => ?_)
    refine e_iconst (nI 1) qX12_end_24 rfl ?_
    exact e_zret qX12_end_25 rfl (by decide) (ret_i h)
  refine e_iconst (nI 0) qX12_end_17 rfl ?_
  exact e_zret qX12_end_18 rfl (by decide) (ret_i h)

def f_X12_taken (x1 : Int32) (s0 : St) : Option (St) :=
  vl (s0.1 206 2) fun v1 =>
  vl (sI s0 206 3 v1) fun s2 =>
  vl (sI s2 206 2 (nI 0)) fun s3 =>
  vl (sI s3 206 4 (nI 0)) fun s4 =>
  vl (sI s4 206 5 x1) fun s5 =>
  some s5

theorem qX12_taken_0 : Dc mX12_taken 0 (.aload_n 0) 1 1 := ⟨by decide +kernel, rfl⟩
theorem qX12_taken_1 : Dc mX12_taken 1 (.aload_n 0) 1 2 := ⟨by decide +kernel, rfl⟩
theorem qX12_taken_2 : Dc mX12_taken 2 (.getfield 7) 3 5 := ⟨by decide +kernel, rfl⟩
theorem qX12_taken_5 : Dc mX12_taken 5 (.putfield 18) 3 8 := ⟨by decide +kernel, rfl⟩
theorem qX12_taken_8 : Dc mX12_taken 8 (.aload_n 0) 1 9 := ⟨by decide +kernel, rfl⟩
theorem qX12_taken_9 : Dc mX12_taken 9 (.iconst 0) 1 10 := ⟨by decide +kernel, rfl⟩
theorem qX12_taken_10 : Dc mX12_taken 10 (.putfield 7) 3 13 := ⟨by decide +kernel, rfl⟩
theorem qX12_taken_13 : Dc mX12_taken 13 (.aload_n 0) 1 14 := ⟨by decide +kernel, rfl⟩
theorem qX12_taken_14 : Dc mX12_taken 14 (.iconst 0) 1 15 := ⟨by decide +kernel, rfl⟩
theorem qX12_taken_15 : Dc mX12_taken 15 (.putfield 21) 3 18 := ⟨by decide +kernel, rfl⟩
theorem qX12_taken_18 : Dc mX12_taken 18 (.aload_n 0) 1 19 := ⟨by decide +kernel, rfl⟩
theorem qX12_taken_19 : Dc mX12_taken 19 (.iload_n 1) 1 20 := ⟨by decide +kernel, rfl⟩
theorem qX12_taken_20 : Dc mX12_taken 20 (.putfield 24) 3 23 := ⟨by decide +kernel, rfl⟩
theorem qX12_taken_23 : Dc mX12_taken 23 (.return_) 1 24 := ⟨by decide +kernel, rfl⟩

set_option maxRecDepth 20000 in
set_option maxHeartbeats 4000000 in
theorem w_X12_taken {x1 : Int32} {s0 : St} {sr : St} (h : f_X12_taken x1 s0 = some sr) : Ct mX12_taken 0 [.ref 206, .int x1] s0 (none, sr) := by
  refine Ct.ofE (by decide +kernel) rfl ?_
  show E mX12_taken 0 (none, sr) 0 [some (.ref 206), some (.int x1)] [] s0
  unfold f_X12_taken at h
  refine e_aload_n qX12_taken_0 rfl ?_
  refine e_aload_n qX12_taken_1 rfl ?_
  refine e_geti qX12_taken_2 fl_X12_7 shq_206 kdq_11_2 h (fun v1 h => ?_)
  refine e_puti qX12_taken_5 fp_X12_18 shq_206 kdq_11_3 h (fun s2 h => ?_)
  refine e_aload_n qX12_taken_8 rfl ?_
  refine e_iconst (nI 0) qX12_taken_9 rfl ?_
  refine e_puti qX12_taken_10 fp_X12_7 shq_206 kdq_11_2 h (fun s3 h => ?_)
  refine e_aload_n qX12_taken_13 rfl ?_
  refine e_iconst (nI 0) qX12_taken_14 rfl ?_
  refine e_puti qX12_taken_15 fp_X12_21 shq_206 kdq_11_4 h (fun s4 h => ?_)
  refine e_aload_n qX12_taken_18 rfl ?_
  refine e_iload_n qX12_taken_19 rfl ?_
  refine e_puti qX12_taken_20 fp_X12_24 shq_206 kdq_11_5 h (fun s5 h => ?_)
  exact e_vret qX12_taken_23 rfl (ret_v h)

def f_X12_isIn (x0 : Int32) (x1 : Int32) (x2 : Int32) (s0 : St) : Option (Int32) :=
  jn (some (nI 0)) fun j1 =>
  if x0 < x1 then
    j1
  else
  if x2 < x0 then
    j1
  else
  some (nI 1)

theorem qX12_isIn_0 : Dc mX12_isIn 0 (.iload_n 0) 1 1 := ⟨by decide +kernel, rfl⟩
theorem qX12_isIn_1 : Dc mX12_isIn 1 (.iload_n 1) 1 2 := ⟨by decide +kernel, rfl⟩
theorem qX12_isIn_2 : Dc mX12_isIn 2 (.if_icmp .lt 12) 3 5 := ⟨by decide +kernel, rfl⟩
theorem qX12_isIn_5 : Dc mX12_isIn 5 (.iload_n 0) 1 6 := ⟨by decide +kernel, rfl⟩
theorem qX12_isIn_6 : Dc mX12_isIn 6 (.iload_n 2) 1 7 := ⟨by decide +kernel, rfl⟩
theorem qX12_isIn_7 : Dc mX12_isIn 7 (.if_icmp .gt 7) 3 10 := ⟨by decide +kernel, rfl⟩
theorem qX12_isIn_10 : Dc mX12_isIn 10 (.iconst 1) 1 11 := ⟨by decide +kernel, rfl⟩
theorem qX12_isIn_11 : Dc mX12_isIn 11 (.goto 4) 3 14 := ⟨by decide +kernel, rfl⟩
theorem qX12_isIn_14 : Dc mX12_isIn 14 (.iconst 0) 1 15 := ⟨by decide +kernel, rfl⟩
theorem qX12_isIn_15 : Dc mX12_isIn 15 (.ireturn) 1 16 := ⟨by decide +kernel, rfl⟩

set_option maxRecDepth 20000 in
set_option maxHeartbeats 4000000 in
theorem w_X12_isIn {x0 : Int32} {x1 : Int32} {x2 : Int32} {s0 : St} {r : Int32} (h : f_X12_isIn x0 x1 x2 s0 = some r) : Ct mX12_isIn 0 [.int x0, .int x1, .int x2] s0 (some (.int r), s0) := by
  refine Ct.ofE (by decide +kernel) rfl ?_
  show E mX12_isIn 0 (some (.int r), s0) 0 [some (.int x0), some (.int x1), some (.int x2)] [] s0
  unfold f_X12_isIn at h
  refine e_iload_n qX12_isIn_0 rfl ?_
  refine e_iload_n qX12_isIn_1 rfl ?_
  refine jn_e (fun j => j = some r → E mX12_isIn 0 (some (.int r), s0) 14 [none, none, none] [] s0) h ?_ (fun j1 hj1 h => ?_)
  · intro h
    refine e_iconst (nI 0) qX12_isIn_14 rfl ?_
    exact e_zret qX12_isIn_15 rfl (by decide) (ret_p h)
  refine e_icmp_lt (tgt := 14) qX12_isIn_2 rfl h (fun _ h => ?_) (fun _ h => ?_)
  · exact e_weak (hj1 h) ⟨Or.inl rfl, Or.inl rfl, Or.inl rfl, trivial⟩
  refine e_iload_n qX12_isIn_5 rfl ?_
  refine e_iload_n qX12_isIn_6 rfl ?_
  refine e_icmp_gt (tgt := 14) qX12_isIn_7 rfl h (fun _ h => ?_) (fun _ h => ?_)
  · exact e_weak (hj1 h) ⟨Or.inl rfl, Or.inl rfl, Or.inl rfl, trivial⟩
  refine e_iconst (nI 1) qX12_isIn_10 rfl ?_
  refine e_goto (tgt := 15) qX12_isIn_11 rfl ?_
  exact e_zret qX12_isIn_15 rfl (by decide) (ret_p h)

def f_X12_bitOf (x0 : Int32) (x1 : Int32) (s0 : St) : Option (Int32) :=
  if ((x0 >>> (x1 &&& 31)) &&& (nI 1)) = (nI 1) then
    some (nI 1)
  else
  some (nI 0)

theorem qX12_bitOf_0 : Dc mX12_bitOf 0 (.iload_n 0) 1 1 := ⟨by decide +kernel, rfl⟩
theorem qX12_bitOf_1 : Dc mX12_bitOf 1 (.iload_n 1) 1 2 := ⟨by decide +kernel, rfl⟩
theorem qX12_bitOf_2 : Dc mX12_bitOf 2 (.ishr) 1 3 := ⟨by decide +kernel, rfl⟩
theorem qX12_bitOf_3 : Dc mX12_bitOf 3 (.iconst 1) 1 4 := ⟨by decide +kernel, rfl⟩
theorem qX12_bitOf_4 : Dc mX12_bitOf 4 (.iand) 1 5 := ⟨by decide +kernel, rfl⟩
theorem qX12_bitOf_5 : Dc mX12_bitOf 5 (.iconst 1) 1 6 := ⟨by decide +kernel, rfl⟩
theorem qX12_bitOf_6 : Dc mX12_bitOf 6 (.if_icmp .ne 7) 3 9 := ⟨by decide +kernel, rfl⟩
theorem qX12_bitOf_9 : Dc mX12_bitOf 9 (.iconst 1) 1 10 := ⟨by decide +kernel, rfl⟩
theorem qX12_bitOf_10 : Dc mX12_bitOf 10 (.goto 4) 3 13 := ⟨by decide +kernel, rfl⟩
theorem qX12_bitOf_13 : Dc mX12_bitOf 13 (.iconst 0) 1 14 := ⟨by decide +kernel, rfl⟩
theorem qX12_bitOf_14 : Dc mX12_bitOf 14 (.ireturn) 1 15 := ⟨by decide +kernel, rfl⟩

set_option maxRecDepth 20000 in
set_option maxHeartbeats 4000000 in
theorem w_X12_bitOf {x0 : Int32} {x1 : Int32} {s0 : St} {r : Int32} (h : f_X12_bitOf x0 x1 s0 = some r) : Ct mX12_bitOf 0 [.int x0, .int x1] s0 (some (.int r), s0) := by
  refine Ct.ofE (by decide +kernel) rfl ?_
  show E mX12_bitOf 0 (some (.int r), s0) 0 [some (.int x0), some (.int x1)] [] s0
  unfold f_X12_bitOf at h
  refine e_iload_n qX12_bitOf_0 rfl ?_
  refine e_iload_n qX12_bitOf_1 rfl ?_
  refine e_ishr qX12_bitOf_2 ?_
  refine e_iconst (nI 1) qX12_bitOf_3 rfl ?_
  refine e_iand qX12_bitOf_4 ?_
  refine e_iconst (nI 1) qX12_bitOf_5 rfl ?_
  refine e_icmp_ne (tgt := 13) qX12_bitOf_6 rfl h (fun _ h => ?_) (fun _ h => ?_)
  · refine e_iconst (nI 1) qX12_bitOf_9 rfl ?_
    refine e_goto (tgt := 14) qX12_bitOf_10 rfl ?_
    exact e_zret qX12_bitOf_14 rfl (by decide) (ret_p h)
  refine e_iconst (nI 0) qX12_bitOf_13 rfl ?_
  exact e_zret qX12_bitOf_14 rfl (by decide) (ret_p h)

def f_X12_lesser (x0 : Int32) (x1 : Int32) (s0 : St) : Option (Int32) :=
  if x1 ≤ x0 then
    some x1
  else
  some x0

theorem qX12_lesser_0 : Dc mX12_lesser 0 (.iload_n 0) 1 1 := ⟨by decide +kernel, rfl⟩
theorem qX12_lesser_1 : Dc mX12_lesser 1 (.iload_n 1) 1 2 := ⟨by decide +kernel, rfl⟩
theorem qX12_lesser_2 : Dc mX12_lesser 2 (.if_icmp .ge 7) 3 5 := ⟨by decide +kernel, rfl⟩
theorem qX12_lesser_5 : Dc mX12_lesser 5 (.iload_n 0) 1 6 := ⟨by decide +kernel, rfl⟩
theorem qX12_lesser_6 : Dc mX12_lesser 6 (.goto 4) 3 9 := ⟨by decide +kernel, rfl⟩
theorem qX12_lesser_9 : Dc mX12_lesser 9 (.iload_n 1) 1 10 := ⟨by decide +kernel, rfl⟩
theorem qX12_lesser_10 : Dc mX12_lesser 10 (.ireturn) 1 11 := ⟨by decide +kernel, rfl⟩

set_option maxRecDepth 20000 in
set_option maxHeartbeats 4000000 in
theorem w_X12_lesser {x0 : Int32} {x1 : Int32} {s0 : St} {r : Int32} (h : f_X12_lesser x0 x1 s0 = some r) : Ct mX12_lesser 0 [.int x0, .int x1] s0 (some (.int r), s0) := by
  refine Ct.ofE (by decide +kernel) rfl ?_
  show E mX12_lesser 0 (some (.int r), s0) 0 [some (.int x0), some (.int x1)] [] s0
  unfold f_X12_lesser at h
  refine e_iload_n qX12_lesser_0 rfl ?_
  refine e_iload_n qX12_lesser_1 rfl ?_
  refine e_icmp_ge (tgt := 9) qX12_lesser_2 rfl h (fun _ h => ?_) (fun _ h => ?_)
  · refine e_iload_n qX12_lesser_9 rfl ?_
    exact e_iret qX12_lesser_10 rfl (ret_p h)
  refine e_iload_n qX12_lesser_5 rfl ?_
  refine e_goto (tgt := 10) qX12_lesser_6 rfl ?_
  exact e_iret qX12_lesser_10 rfl (ret_p h)

def f_X12_greater (x0 : Int32) (x1 : Int32) (s0 : St) : Option (Int32) :=
  if x0 ≤ x1 then
    some x1
  else
  some x0

theorem qX12_greater_0 : Dc mX12_greater 0 (.iload_n 0) 1 1 := ⟨by decide +kernel, rfl⟩
theorem qX12_greater_1 : Dc mX12_greater 1 (.iload_n 1) 1 2 := ⟨by decide +kernel, rfl⟩
theorem qX12_greater_2 : Dc mX12_greater 2 (.if_icmp .le 7) 3 5 := ⟨by decide +kernel, rfl⟩
theorem qX12_greater_5 : Dc mX12_greater 5 (.iload_n 0) 1 6 := ⟨by decide +kernel, rfl⟩
theorem qX12_greater_6 : Dc mX12_greater 6 (.goto 4) 3 9 := ⟨by decide +kernel, rfl⟩
theorem qX12_greater_9 : Dc mX12_greater 9 (.iload_n 1) 1 10 := ⟨by decide +kernel, rfl⟩
theorem qX12_greater_10 : Dc mX12_greater 10 (.ireturn) 1 11 := ⟨by decide +kernel, rfl⟩

set_option maxRecDepth 20000 in
set_option maxHeartbeats 4000000 in
theorem w_X12_greater {x0 : Int32} {x1 : Int32} {s0 : St} {r : Int32} (h : f_X12_greater x0 x1 s0 = some r) : Ct mX12_greater 0 [.int x0, .int x1] s0 (some (.int r), s0) := by
  refine Ct.ofE (by decide +kernel) rfl ?_
  show E mX12_greater 0 (some (.int r), s0) 0 [some (.int x0), some (.int x1)] [] s0
  unfold f_X12_greater at h
  refine e_iload_n qX12_greater_0 rfl ?_
  refine e_iload_n qX12_greater_1 rfl ?_
  refine e_icmp_le (tgt := 9) qX12_greater_2 rfl h (fun _ h => ?_) (fun _ h => ?_)
  · refine e_iload_n qX12_greater_9 rfl ?_
    exact e_iret qX12_greater_10 rfl (ret_p h)
  refine e_iload_n qX12_greater_5 rfl ?_
  refine e_goto (tgt := 10) qX12_greater_6 rfl ?_
  exact e_iret qX12_greater_10 rfl (ret_p h)

def f_X12_bits_L4 (N : Nat) (s0 : St) : Nat → Int32 → Int32 → Option (Int32)
  | 0, _, _ => none
  | n3 + 1, v1, v2 =>
    if v2 = 0 then
      some v1
    else
    vl (v1 + (nI 1)) fun v5 =>
    vl (v2 &&& (v2 - (nI 1))) fun v6 =>
    f_X12_bits_L4 N s0 n3 v5 v6

def f_X12_bits (N : Nat) (x0 : Int32) (s0 : St) : Option (Int32) :=
  f_X12_bits_L4 N s0 N (nI 0) x0

theorem qX12_bits_0 : Dc mX12_bits 0 (.iconst 0) 1 1 := ⟨by decide +kernel, rfl⟩
theorem qX12_bits_1 : Dc mX12_bits 1 (.istore_n 1) 1 2 := ⟨by decide +kernel, rfl⟩
theorem qX12_bits_2 : Dc mX12_bits 2 (.iload_n 0) 1 3 := ⟨by decide +kernel, rfl⟩
theorem qX12_bits_3 : Dc mX12_bits 3 (.istore_n 2) 1 4 := ⟨by decide +kernel, rfl⟩
theorem qX12_bits_4 : Dc mX12_bits 4 (.iload_n 2) 1 5 := ⟨by decide +kernel, rfl⟩
theorem qX12_bits_5 : Dc mX12_bits 5 (.ifCond .eq 15) 3 8 := ⟨by decide +kernel, rfl⟩
theorem qX12_bits_8 : Dc mX12_bits 8 (.iinc 1 1) 3 11 := ⟨by decide +kernel, rfl⟩
theorem qX12_bits_11 : Dc mX12_bits 11 (.iload_n 2) 1 12 := ⟨by decide +kernel, rfl⟩
theorem qX12_bits_12 : Dc mX12_bits 12 (.iload_n 2) 1 13 := ⟨by decide +kernel, rfl⟩
theorem qX12_bits_13 : Dc mX12_bits 13 (.iconst 1) 1 14 := ⟨by decide +kernel, rfl⟩
theorem qX12_bits_14 : Dc mX12_bits 14 (.isub) 1 15 := ⟨by decide +kernel, rfl⟩
theorem qX12_bits_15 : Dc mX12_bits 15 (.iand) 1 16 := ⟨by decide +kernel, rfl⟩
theorem qX12_bits_16 : Dc mX12_bits 16 (.istore_n 2) 1 17 := ⟨by decide +kernel, rfl⟩
theorem qX12_bits_17 : Dc mX12_bits 17 (.goto (-13)) 3 20 := ⟨by decide +kernel, rfl⟩
theorem qX12_bits_20 : Dc mX12_bits 20 (.iload_n 1) 1 21 := ⟨by decide +kernel, rfl⟩
theorem qX12_bits_21 : Dc mX12_bits 21 (.ireturn) 1 22 := ⟨by decide +kernel, rfl⟩

set_option maxRecDepth 20000 in
set_option maxHeartbeats 4000000 in
theorem w_X12_bits_L4 {N : Nat}  {s0 : St}  {r : Int32}   : ∀ (n3 : Nat) (v1 : Int32) (v2 : Int32), f_X12_bits_L4 N s0 n3 v1 v2 = some r → E mX12_bits 0 (some (.int r), s0) 4 [none, some (.int v1), some (.int v2)] [] s0 := by
  intro n3
  induction n3 with
  | zero =>
    intro v1 v2 h
    rw [f_X12_bits_L4] at h; cases h
  | succ n3 ih4 =>
    intro v1 v2 h
    rw [f_X12_bits_L4] at h
    refine e_iload_n qX12_bits_4 rfl ?_
    refine e_if_eq (tgt := 20) qX12_bits_5 rfl h (fun _ h => ?_) (fun _ h => ?_)
    · refine e_iload_n qX12_bits_20 rfl ?_
      exact e_iret qX12_bits_21 rfl (ret_p h)
    refine vl_e h (fun h => ?_)
    obtain ⟨v5, ev5⟩ : ∃ y, v1 + (nI 1) = y := ⟨_, rfl⟩
    rw [ev5] at h
    refine e_iinc (nI 1) v5 (lv2 := [none, some (.int v5), some (.int v2)]) qX12_bits_8 rfl rfl rfl ev5 rfl ?_
    refine e_iload_n qX12_bits_11 rfl ?_
    refine e_iload_n qX12_bits_12 rfl ?_
    refine e_iconst (nI 1) qX12_bits_13 rfl ?_
    refine e_isub qX12_bits_14 ?_
    refine e_iand qX12_bits_15 ?_
    refine vl_e h (fun h => ?_)
    generalize (v2 &&& (v2 - (nI 1))) = v6 at h ⊢
    refine e_istore_n (lv2 := [none, some (.int v5), some (.int v6)]) qX12_bits_16 rfl rfl rfl ?_
    refine e_goto (tgt := 4) qX12_bits_17 rfl ?_
    exact e_weak (ih4 _ _ h) ⟨Or.inl rfl, Or.inr rfl, Or.inr rfl, trivial⟩

set_option maxRecDepth 20000 in
set_option maxHeartbeats 4000000 in
theorem w_X12_bits {N : Nat} {x0 : Int32} {s0 : St} {r : Int32} (h : f_X12_bits N x0 s0 = some r) : Ct mX12_bits 0 [.int x0] s0 (some (.int r), s0) := by
  refine Ct.ofE (by decide +kernel) rfl ?_
  show E mX12_bits 0 (some (.int r), s0) 0 [some (.int x0), none, none] [] s0
  unfold f_X12_bits at h
  refine e_iconst (nI 0) qX12_bits_0 rfl ?_
  refine e_istore_n (lv2 := [some (.int x0), some (.int (nI 0)), none]) qX12_bits_1 rfl rfl rfl ?_
  refine e_iload_n qX12_bits_2 rfl ?_
  refine e_istore_n (lv2 := [some (.int x0), some (.int (nI 0)), some (.int x0)]) qX12_bits_3 rfl rfl rfl ?_
  exact e_weak (w_X12_bits_L4  _ _ _ h) ⟨Or.inl rfl, Or.inr rfl, Or.inr rfl, trivial⟩

def f_X12_octet (x1 : Int32) (s0 : St) : Option (Int32) :=
  ald (s0.1 207) 940 x1 fun v1 =>
  some (v1 &&& (nI 255))

theorem qX12_octet_0 : Dc mX12_octet 0 (.aload_n 0) 1 1 := ⟨by decide +kernel, rfl⟩
theorem qX12_octet_1 : Dc mX12_octet 1 (.getfield 14) 3 4 := ⟨by decide +kernel, rfl⟩
theorem qX12_octet_4 : Dc mX12_octet 4 (.iload_n 1) 1 5 := ⟨by decide +kernel, rfl⟩
theorem qX12_octet_5 : Dc mX12_octet 5 (.baload) 1 6 := ⟨by decide +kernel, rfl⟩
theorem qX12_octet_6 : Dc mX12_octet 6 (.sipush 255) 3 9 := ⟨by decide +kernel, rfl⟩
theorem qX12_octet_9 : Dc mX12_octet 9 (.iand) 1 10 := ⟨by decide +kernel, rfl⟩
theorem qX12_octet_10 : Dc mX12_octet 10 (.ireturn) 1 11 := ⟨by decide +kernel, rfl⟩

set_option maxRecDepth 20000 in
set_option maxHeartbeats 4000000 in
theorem w_X12_octet {x1 : Int32} {s0 : St} {r : Int32} (h : f_X12_octet x1 s0 = some r) : Ct mX12_octet 0 [.ref 206, .int x1] s0 (some (.int r), s0) := by
  refine Ct.ofE (by decide +kernel) rfl ?_
  show E mX12_octet 0 (some (.int r), s0) 0 [some (.ref 206), some (.int x1)] [] s0
  unfold f_X12_octet at h
  refine e_aload_n qX12_octet_0 rfl ?_
  refine e_getr 207 qX12_octet_1 fl_X12_14 shq_206 kdq_11_1 rrq_206_1 ?_
  refine e_iload_n qX12_octet_4 rfl ?_
  refine e_bald qX12_octet_5 shq_207 lnq_207 h (fun v1 h => ?_)
  refine e_sipush (nI 255) qX12_octet_6 rfl ?_
  refine e_iand qX12_octet_9 ?_
  exact e_iret qX12_octet_10 rfl (ret_p h)

def f_X12_clears_L2 (N : Nat) (k3 : St → Option (St)) : Nat → Int32 → St → Option (St)
  | 0, _, _ => none
  | n5 + 1, v1, s2 =>
    if (nI 147) ≤ v1 then
      k3 s2
    else
    ald (fun j => sI s2 209 j (nI 0)) 147 v1 fun s7 =>
    vl (v1 + (nI 1)) fun v8 =>
    f_X12_clears_L2 N k3 n5 v8 s7

def f_X12_clears (N : Nat)  (s0 : St) : Option (St) :=
  f_X12_clears_L2 N (fun (s9 : St) =>
    ald (fun j => sI s9 209 j (nI 30)) 147 (nI 2) fun s10 =>
    some s10) N (nI 0) s0

theorem qX12_clears_0 : Dc mX12_clears 0 (.iconst 0) 1 1 := ⟨by decide +kernel, rfl⟩
theorem qX12_clears_1 : Dc mX12_clears 1 (.istore_n 1) 1 2 := ⟨by decide +kernel, rfl⟩
theorem qX12_clears_2 : Dc mX12_clears 2 (.iload_n 1) 1 3 := ⟨by decide +kernel, rfl⟩
theorem qX12_clears_3 : Dc mX12_clears 3 (.sipush 147) 3 6 := ⟨by decide +kernel, rfl⟩
theorem qX12_clears_6 : Dc mX12_clears 6 (.if_icmp .ge 16) 3 9 := ⟨by decide +kernel, rfl⟩
theorem qX12_clears_9 : Dc mX12_clears 9 (.aload_n 0) 1 10 := ⟨by decide +kernel, rfl⟩
theorem qX12_clears_10 : Dc mX12_clears 10 (.getfield 37) 3 13 := ⟨by decide +kernel, rfl⟩
theorem qX12_clears_13 : Dc mX12_clears 13 (.iload_n 1) 1 14 := ⟨by decide +kernel, rfl⟩
theorem qX12_clears_14 : Dc mX12_clears 14 (.iconst 0) 1 15 := ⟨by decide +kernel, rfl⟩
theorem qX12_clears_15 : Dc mX12_clears 15 (.iastore) 1 16 := ⟨by decide +kernel, rfl⟩
theorem qX12_clears_16 : Dc mX12_clears 16 (.iinc 1 1) 3 19 := ⟨by decide +kernel, rfl⟩
theorem qX12_clears_19 : Dc mX12_clears 19 (.goto (-17)) 3 22 := ⟨by decide +kernel, rfl⟩
theorem qX12_clears_22 : Dc mX12_clears 22 (.aload_n 0) 1 23 := ⟨by decide +kernel, rfl⟩
theorem qX12_clears_23 : Dc mX12_clears 23 (.getfield 37) 3 26 := ⟨by decide +kernel, rfl⟩
theorem qX12_clears_26 : Dc mX12_clears 26 (.iconst 2) 1 27 := ⟨by decide +kernel, rfl⟩
theorem qX12_clears_27 : Dc mX12_clears 27 (.bipush 30) 2 29 := ⟨by decide +kernel, rfl⟩
theorem qX12_clears_29 : Dc mX12_clears 29 (.iastore) 1 30 := ⟨by decide +kernel, rfl⟩
theorem qX12_clears_30 : Dc mX12_clears 30 (.return_) 1 31 := ⟨by decide +kernel, rfl⟩

set_option maxRecDepth 20000 in
set_option maxHeartbeats 4000000 in
theorem w_X12_clears_L2 {N : Nat}  {k3 : St → Option (St)} {sr : St}  (hk3 : ∀ (s4 : St), k3 s4 = some sr → E mX12_clears 0 (none, sr) 22 [some (.ref 206), none] [] s4) : ∀ (n5 : Nat) (v1 : Int32) (s2 : St), f_X12_clears_L2 N k3 n5 v1 s2 = some sr → E mX12_clears 0 (none, sr) 2 [some (.ref 206), some (.int v1)] [] s2 := by
  intro n5
  induction n5 with
  | zero =>
    intro v1 s2 h
    rw [f_X12_clears_L2] at h; cases h
  | succ n5 ih6 =>
    intro v1 s2 h
    rw [f_X12_clears_L2] at h
    refine e_iload_n qX12_clears_2 rfl ?_
    refine e_sipush (nI 147) qX12_clears_3 rfl ?_
    refine e_icmp_ge (tgt := 22) qX12_clears_6 rfl h (fun _ h => ?_) (fun _ h => ?_)
    · exact e_weak (hk3 _ h) ⟨Or.inr rfl, Or.inl rfl, trivial⟩
    refine e_aload_n qX12_clears_9 rfl ?_
    refine e_getr 209 qX12_clears_10 fl_X12_37 shq_206 kdq_11_7 rrq_206_7 ?_
    refine e_iload_n qX12_clears_13 rfl ?_
    refine e_iconst (nI 0) qX12_clears_14 rfl ?_
    refine e_iast qX12_clears_15 shq_209 lnq_209 h (fun s7 h => ?_)
    refine vl_e h (fun h => ?_)
    obtain ⟨v8, ev8⟩ : ∃ y, v1 + (nI 1) = y := ⟨_, rfl⟩
    rw [ev8] at h
    refine e_iinc (nI 1) v8 (lv2 := [some (.ref 206), some (.int v8)]) qX12_clears_16 rfl rfl rfl ev8 rfl ?_
    refine e_goto (tgt := 2) qX12_clears_19 rfl ?_
    exact e_weak (ih6 _ _ h) ⟨Or.inr rfl, Or.inr rfl, trivial⟩

set_option maxRecDepth 20000 in
set_option maxHeartbeats 4000000 in
theorem w_X12_clears {N : Nat}  {s0 : St} {sr : St} (h : f_X12_clears N  s0 = some sr) : Ct mX12_clears 0 [.ref 206] s0 (none, sr) := by
  refine Ct.ofE (by decide +kernel) rfl ?_
  show E mX12_clears 0 (none, sr) 0 [some (.ref 206), none] [] s0
  unfold f_X12_clears at h
  refine e_iconst (nI 0) qX12_clears_0 rfl ?_
  refine e_istore_n (lv2 := [some (.ref 206), some (.int (nI 0))]) qX12_clears_1 rfl rfl rfl ?_
  refine e_weak (w_X12_clears_L2 (fun s9 h => ?_) _ _ _ h) ⟨Or.inr rfl, Or.inr rfl, trivial⟩
  refine e_aload_n qX12_clears_22 rfl ?_
  refine e_getr 209 qX12_clears_23 fl_X12_37 shq_206 kdq_11_7 rrq_206_7 ?_
  refine e_iconst (nI 2) qX12_clears_26 rfl ?_
  refine e_bipush (nI 30) qX12_clears_27 rfl ?_
  refine e_iast qX12_clears_29 shq_209 lnq_209 h (fun s10 h => ?_)
  exact e_vret qX12_clears_30 rfl (ret_v h)

def f_X12_peek  (s0 : St) : Option (Int32) :=
  vl (s0.1 206 4) fun v1 =>
  vl (s0.1 206 3) fun v2 =>
  if v2 ≤ v1 then
    some (-1)
  else
  vl (s0.1 206 4) fun v3 =>
  ald (s0.1 207) 940 v3 fun v4 =>
  some (v4 &&& (nI 255))

theorem qX12_peek_0 : Dc mX12_peek 0 (.aload_n 0) 1 1 := ⟨by decide +kernel, rfl⟩
theorem qX12_peek_1 : Dc mX12_peek 1 (.getfield 21) 3 4 := ⟨by decide +kernel, rfl⟩
theorem qX12_peek_4 : Dc mX12_peek 4 (.aload_n 0) 1 5 := ⟨by decide +kernel, rfl⟩
theorem qX12_peek_5 : Dc mX12_peek 5 (.getfield 18) 3 8 := ⟨by decide +kernel, rfl⟩
theorem qX12_peek_8 : Dc mX12_peek 8 (.if_icmp .ge 19) 3 11 := ⟨by decide +kernel, rfl⟩
theorem qX12_peek_11 : Dc mX12_peek 11 (.aload_n 0) 1 12 := ⟨by decide +kernel, rfl⟩
theorem qX12_peek_12 : Dc mX12_peek 12 (.getfield 14) 3 15 := ⟨by decide +kernel, rfl⟩
theorem qX12_peek_15 : Dc mX12_peek 15 (.aload_n 0) 1 16 := ⟨by decide +kernel, rfl⟩
theorem qX12_peek_16 : Dc mX12_peek 16 (.getfield 21) 3 19 := ⟨by decide +kernel, rfl⟩
theorem qX12_peek_19 : Dc mX12_peek 19 (.baload) 1 20 := ⟨by decide +kernel, rfl⟩
theorem qX12_peek_20 : Dc mX12_peek 20 (.sipush 255) 3 23 := ⟨by decide +kernel, rfl⟩
theorem qX12_peek_23 : Dc mX12_peek 23 (.iand) 1 24 := ⟨by decide +kernel, rfl⟩
theorem qX12_peek_24 : Dc mX12_peek 24 (.goto 4) 3 27 := ⟨by decide +kernel, rfl⟩
theorem qX12_peek_27 : Dc mX12_peek 27 (.iconst (-1)) 1 28 := ⟨by decide +kernel, rfl⟩
theorem qX12_peek_28 : Dc mX12_peek 28 (.ireturn) 1 29 := ⟨by decide +kernel, rfl⟩

set_option maxRecDepth 20000 in
set_option maxHeartbeats 4000000 in
theorem w_X12_peek  {s0 : St} {r : Int32} (h : f_X12_peek  s0 = some r) : Ct mX12_peek 0 [.ref 206] s0 (some (.int r), s0) := by
  refine Ct.ofE (by decide +kernel) rfl ?_
  show E mX12_peek 0 (some (.int r), s0) 0 [some (.ref 206)] [] s0
  unfold f_X12_peek at h
  refine e_aload_n qX12_peek_0 rfl ?_
  refine e_geti qX12_peek_1 fl_X12_21 shq_206 kdq_11_4 h (fun v1 h => ?_)
  refine e_aload_n qX12_peek_4 rfl ?_
  refine e_geti qX12_peek_5 fl_X12_18 shq_206 kdq_11_3 h (fun v2 h => ?_)
  refine e_icmp_ge (tgt := 27) qX12_peek_8 rfl h (fun _ h => ?_) (fun _ h => ?_)
  · refine e_iconst (-1) qX12_peek_27 rfl ?_
    exact e_iret qX12_peek_28 rfl (ret_p h)
  refine e_aload_n qX12_peek_11 rfl ?_
  refine e_getr 207 qX12_peek_12 fl_X12_14 shq_206 kdq_11_1 rrq_206_1 ?_
  refine e_aload_n qX12_peek_15 rfl ?_
  refine e_geti qX12_peek_16 fl_X12_21 shq_206 kdq_11_4 h (fun v3 h => ?_)
  refine e_bald qX12_peek_19 shq_207 lnq_207 h (fun v4 h => ?_)
  refine e_sipush (nI 255) qX12_peek_20 rfl ?_
  refine e_iand qX12_peek_23 ?_
  refine e_goto (tgt := 28) qX12_peek_24 rfl ?_
  exact e_iret qX12_peek_28 rfl (ret_p h)

def f_X12_isSmall (x0 : Int32) (s0 : St) : Option (Int32) :=
  jn (some (nI 0)) fun j1 =>
  if x0 < (nI 97) then
    j1
  else
  if (nI 122) < x0 then
    j1
  else
  some (nI 1)

theorem qX12_isSmall_0 : Dc mX12_isSmall 0 (.iload_n 0) 1 1 := ⟨by decide +kernel, rfl⟩
theorem qX12_isSmall_1 : Dc mX12_isSmall 1 (.bipush 97) 2 3 := ⟨by decide +kernel, rfl⟩
theorem qX12_isSmall_3 : Dc mX12_isSmall 3 (.if_icmp .lt 13) 3 6 := ⟨by decide +kernel, rfl⟩
theorem qX12_isSmall_6 : Dc mX12_isSmall 6 (.iload_n 0) 1 7 := ⟨by decide +kernel, rfl⟩
theorem qX12_isSmall_7 : Dc mX12_isSmall 7 (.bipush 122) 2 9 := ⟨by decide +kernel, rfl⟩
theorem qX12_isSmall_9 : Dc mX12_isSmall 9 (.if_icmp .gt 7) 3 12 := ⟨by decide +kernel, rfl⟩
theorem qX12_isSmall_12 : Dc mX12_isSmall 12 (.iconst 1) 1 13 := ⟨by decide +kernel, rfl⟩
theorem qX12_isSmall_13 : Dc mX12_isSmall 13 (.goto 4) 3 16 := ⟨by decide +kernel, rfl⟩
theorem qX12_isSmall_16 : Dc mX12_isSmall 16 (.iconst 0) 1 17 := ⟨by decide +kernel, rfl⟩
theorem qX12_isSmall_17 : Dc mX12_isSmall 17 (.ireturn) 1 18 := ⟨by decide +kernel, rfl⟩

set_option maxRecDepth 20000 in
set_option maxHeartbeats 4000000 in
theorem w_X12_isSmall {x0 : Int32} {s0 : St} {r : Int32} (h : f_X12_isSmall x0 s0 = some r) : Ct mX12_isSmall 0 [.int x0] s0 (some (.int r), s0) := by
  refine Ct.ofE (by decide +kernel) rfl ?_
  show E mX12_isSmall 0 (some (.int r), s0) 0 [some (.int x0)] [] s0
  unfold f_X12_isSmall at h
  refine e_iload_n qX12_isSmall_0 rfl ?_
  refine e_bipush (nI 97) qX12_isSmall_1 rfl ?_
  refine jn_e (fun j => j = some r → E mX12_isSmall 0 (some (.int r), s0) 16 [none] [] s0) h ?_ (fun j1 hj1 h => ?_)
  · intro h
    refine e_iconst (nI 0) qX12_isSmall_16 rfl ?_
    exact e_zret qX12_isSmall_17 rfl (by decide) (ret_p h)
  refine e_icmp_lt (tgt := 16) qX12_isSmall_3 rfl h (fun _ h => ?_) (fun _ h => ?_)
  · exact e_weak (hj1 h) ⟨Or.inl rfl, trivial⟩
  refine e_iload_n qX12_isSmall_6 rfl ?_
  refine e_bipush (nI 122) qX12_isSmall_7 rfl ?_
  refine e_icmp_gt (tgt := 16) qX12_isSmall_9 rfl h (fun _ h => ?_) (fun _ h => ?_)
  · exact e_weak (hj1 h) ⟨Or.inl rfl, trivial⟩
  refine e_iconst (nI 1) qX12_isSmall_12 rfl ?_
  refine e_goto (tgt := 17) qX12_isSmall_13 rfl ?_
  exact e_zret qX12_isSmall_17 rfl (by decide) (ret_p h)

def f_X12_isDigit (x0 : Int32) (s0 : St) : Option (Int32) :=
  jn (some (nI 0)) fun j1 =>
  if x0 < (nI 48) then
    j1
  else
  if (nI 57) < x0 then
    j1
  else
  some (nI 1)

theorem qX12_isDigit_0 : Dc mX12_isDigit 0 (.iload_n 0) 1 1 := ⟨by decide +kernel, rfl⟩
theorem qX12_isDigit_1 : Dc mX12_isDigit 1 (.bipush 48) 2 3 := ⟨by decide +kernel, rfl⟩
theorem qX12_isDigit_3 : Dc mX12_isDigit 3 (.if_icmp .lt 13) 3 6 := ⟨by decide +kernel, rfl⟩
theorem qX12_isDigit_6 : Dc mX12_isDigit 6 (.iload_n 0) 1 7 := ⟨by decide +kernel, rfl⟩
theorem qX12_isDigit_7 : Dc mX12_isDigit 7 (.bipush 57) 2 9 := ⟨by decide +kernel, rfl⟩
theorem qX12_isDigit_9 : Dc mX12_isDigit 9 (.if_icmp .gt 7) 3 12 := ⟨by decide +kernel, rfl⟩
theorem qX12_isDigit_12 : Dc mX12_isDigit 12 (.iconst 1) 1 13 := ⟨by decide +kernel, rfl⟩
theorem qX12_isDigit_13 : Dc mX12_isDigit 13 (.goto 4) 3 16 := ⟨by decide +kernel, rfl⟩
theorem qX12_isDigit_16 : Dc mX12_isDigit 16 (.iconst 0) 1 17 := ⟨by decide +kernel, rfl⟩
theorem qX12_isDigit_17 : Dc mX12_isDigit 17 (.ireturn) 1 18 := ⟨by decide +kernel, rfl⟩

set_option maxRecDepth 20000 in
set_option maxHeartbeats 4000000 in
theorem w_X12_isDigit {x0 : Int32} {s0 : St} {r : Int32} (h : f_X12_isDigit x0 s0 = some r) : Ct mX12_isDigit 0 [.int x0] s0 (some (.int r), s0) := by
  refine Ct.ofE (by decide +kernel) rfl ?_
  show E mX12_isDigit 0 (some (.int r), s0) 0 [some (.int x0)] [] s0
  unfold f_X12_isDigit at h
  refine e_iload_n qX12_isDigit_0 rfl ?_
  refine e_bipush (nI 48) qX12_isDigit_1 rfl ?_
  refine jn_e (fun j => j = some r → E mX12_isDigit 0 (some (.int r), s0) 16 [none] [] s0) h ?_ (fun j1 hj1 h => ?_)
  · intro h
    refine e_iconst (nI 0) qX12_isDigit_16 rfl ?_
    exact e_zret qX12_isDigit_17 rfl (by decide) (ret_p h)
  refine e_icmp_lt (tgt := 16) qX12_isDigit_3 rfl h (fun _ h => ?_) (fun _ h => ?_)
  · exact e_weak (hj1 h) ⟨Or.inl rfl, trivial⟩
  refine e_iload_n qX12_isDigit_6 rfl ?_
  refine e_bipush (nI 57) qX12_isDigit_7 rfl ?_
  refine e_icmp_gt (tgt := 16) qX12_isDigit_9 rfl h (fun _ h => ?_) (fun _ h => ?_)
  · exact e_weak (hj1 h) ⟨Or.inl rfl, trivial⟩
  refine e_iconst (nI 1) qX12_isDigit_12 rfl ?_
  refine e_goto (tgt := 17) qX12_isDigit_13 rfl ?_
  exact e_zret qX12_isDigit_17 rfl (by decide) (ret_p h)

def f_X12_next_L0 (N : Nat) (k2 : St → Option (St)) : Nat → St → Option (St)
  | 0, _ => none
  | n4 + 1, s1 =>
    bp (f_X12_peek s1) fun v6 =>
    jn (vl (s1.1 206 4) fun v8 =>
      vl (sI s1 206 4 (v8 + (nI 1))) fun s9 =>
      f_X12_next_L0 N k2 n4 s9) fun j7 =>
    if v6 = (nI 32) then
      j7
    else
    bp (f_X12_peek s1) fun v10 =>
    if v10 = (nI 10) then
      j7
    else
    k2 s1

def f_X12_next_L181 (N : Nat) (c24 : Int32) (k27 : Int32 → St → Option (St)) : Nat → Int32 → St → Option (St)
  | 0, _, _ => none
  | n30 + 1, v25, s26 =>
    bp (f_X12_peek s26) fun v32 =>
    bp (f_X12_isSmall v32 s26) fun v33 =>
    jn (jn (fun (v35 : Int32) =>
        vl (s26.1 206 13) fun v37 =>
        jn (fun (s38 : St) =>
          vl (s38.1 206 13) fun v40 =>
          jn (fun (s41 : St) =>
            vl (s41.1 206 13) fun v43 =>
            vl (sI s41 206 13 (v43 + (nI 1))) fun s44 =>
            vl (s44.1 206 4) fun v45 =>
            vl (sI s44 206 4 (v45 + (nI 1))) fun s46 =>
            f_X12_next_L181 N c24 k27 n30 v35 s46) fun j42 =>
          if (nI 3) ≤ v40 then
            j42 s38
          else
          vl (s38.1 206 14) fun v47 =>
          bp (f_X12_peek s38) fun v48 =>
          vl (sI s38 206 14 ((((nI 10) * v47) + v48) - (nI 48))) fun s49 =>
          j42 s49) fun j39 =>
        if (nI 7) ≤ v37 then
          j39 s26
        else
        vl (s26.2 206 17) fun v50 =>
        bp (f_X12_peek s26) fun v51 =>
        vl (sL s26 206 17 ((lsl v50 (nI 8)) ||| v51.toInt64)) fun s52 =>
        j39 s52) fun j36 =>
      jn (j36 (nI 0)) fun j53 =>
      if v25 = 0 then
        j53
      else
      bp (f_X12_peek s26) fun v54 =>
      bp (f_X12_isSmall v54 s26) fun v55 =>
      if v55 = c24 then
        j36 (nI 1)
      else
      j53) fun j34 =>
    if v33 = 0 then
      bp (f_X12_peek s26) fun v56 =>
      bp (f_X12_isDigit v56 s26) fun v57 =>
      if v57 = 0 then
        k27 v25 s26
      else
      j34
    else
    j34

def f_X12_next (N : Nat)  (s0 : St) : Option (St) :=
  f_X12_next_L0 N (fun (s11 : St) =>
    vl (s11.1 206 4) fun v12 =>
    vl (sI s11 206 12 v12) fun s13 =>
    vl (sI s13 206 13 (nI 0)) fun s14 =>
    vl (s14.1 206 3) fun v15 =>
    vl (s14.1 206 5) fun v16 =>
    jn (bp (f_X12_peek s14) fun v18 =>
      if 0 ≤ v18 then
        bp (f_X12_isSmall v18 s14) fun v19 =>
        jn (bp (f_X12_isSmall v18 s14) fun v21 =>
          vl (sL s14 206 17 (0 : Int64)) fun s22 =>
          vl (sI s22 206 14 (nI 0)) fun s23 =>
          f_X12_next_L181 N v21 (fun (v58 : Int32) (s59 : St) =>
            jn (fun (v60 : Int32) =>
              vl (sI s59 206 11 v60) fun s62 =>
              some s62) fun j61 =>
            jn (j61 (nI 4)) fun j63 =>
            if v58 = 0 then
              j63
            else
            vl (s59.1 206 13) fun v64 =>
            jn (fun (v65 : Int32) =>
              if v64 ≤ v65 then
                if v21 = 0 then
                  j61 (nI 2)
                else
                j61 (nI 1)
              else
              j63) fun j66 =>
            if v21 = 0 then
              j66 (nI 3)
            else
            j66 (nI 7)) N (nI 1) s23) fun j20 =>
        if v19 = 0 then
          bp (f_X12_isDigit v18 s14) fun v67 =>
          if v67 = 0 then
            jn (fun (v68 : Int32) =>
              vl (sI s14 206 11 v68) fun s70 =>
              vl (sI s70 206 14 v18) fun s71 =>
              vl (s71.1 206 4) fun v72 =>
              vl (sI s71 206 4 (v72 + (nI 1))) fun s73 =>
              some s73) fun j69 =>
            jn (j69 (nI 3)) fun j74 =>
            if v18 = (nI 59) then
              j74
            else
            if v18 = (nI 40) then
              j74
            else
            if v18 = (nI 41) then
              j74
            else
            jn (j69 (nI 4)) fun j75 =>
            if v18 < (nI 60) then
              j75
            else
            if (nI 62) < v18 then
              j75
            else
            j74
          else
          j20
        else
        j20
      else
      vl (sI s14 206 11 (nI 0)) fun s76 =>
      some s76) fun j17 =>
    if v15 ≤ v16 then
      j17
    else
    vl (s14.1 206 4) fun v77 =>
    vl (s14.1 206 5) fun v78 =>
    if v77 < v78 then
      j17
    else
    vl (s14.1 206 5) fun v79 =>
    vl (sI s14 206 12 v79) fun s80 =>
    vl (sI s80 206 11 (nI 4)) fun s81 =>
    some s81) N s0

theorem qX12_next_0 : Dc mX12_next 0 (.aload_n 0) 1 1 := ⟨by decide +kernel, rfl⟩
theorem qX12_next_1 : Dc mX12_next 1 (.invokevirtual 144) 3 4 := ⟨by decide +kernel, rfl⟩
theorem qX12_next_4 : Dc mX12_next 4 (.bipush 32) 2 6 := ⟨by decide +kernel, rfl⟩
theorem qX12_next_6 : Dc mX12_next 6 (.if_icmp .eq 12) 3 9 := ⟨by decide +kernel, rfl⟩
theorem qX12_next_9 : Dc mX12_next 9 (.aload_n 0) 1 10 := ⟨by decide +kernel, rfl⟩
theorem qX12_next_10 : Dc mX12_next 10 (.invokevirtual 144) 3 13 := ⟨by decide +kernel, rfl⟩
theorem qX12_next_13 : Dc mX12_next 13 (.bipush 10) 2 15 := ⟨by decide +kernel, rfl⟩
theorem qX12_next_15 : Dc mX12_next 15 (.if_icmp .ne 16) 3 18 := ⟨by decide +kernel, rfl⟩
theorem qX12_next_18 : Dc mX12_next 18 (.aload_n 0) 1 19 := ⟨by decide +kernel, rfl⟩
theorem qX12_next_19 : Dc mX12_next 19 (.dup) 1 20 := ⟨by decide +kernel, rfl⟩
theorem qX12_next_20 : Dc mX12_next 20 (.getfield 21) 3 23 := ⟨by decide +kernel, rfl⟩
theorem qX12_next_23 : Dc mX12_next 23 (.iconst 1) 1 24 := ⟨by decide +kernel, rfl⟩
theorem qX12_next_24 : Dc mX12_next 24 (.iadd) 1 25 := ⟨by decide +kernel, rfl⟩
theorem qX12_next_25 : Dc mX12_next 25 (.putfield 21) 3 28 := ⟨by decide +kernel, rfl⟩
theorem qX12_next_28 : Dc mX12_next 28 (.goto (-28)) 3 31 := ⟨by decide +kernel, rfl⟩
theorem qX12_next_31 : Dc mX12_next 31 (.aload_n 0) 1 32 := ⟨by decide +kernel, rfl⟩
theorem qX12_next_32 : Dc mX12_next 32 (.aload_n 0) 1 33 := ⟨by decide +kernel, rfl⟩
theorem qX12_next_33 : Dc mX12_next 33 (.getfield 21) 3 36 := ⟨by decide +kernel, rfl⟩
theorem qX12_next_36 : Dc mX12_next 36 (.putfield 148) 3 39 := ⟨by decide +kernel, rfl⟩
theorem qX12_next_39 : Dc mX12_next 39 (.aload_n 0) 1 40 := ⟨by decide +kernel, rfl⟩
theorem qX12_next_40 : Dc mX12_next 40 (.iconst 0) 1 41 := ⟨by decide +kernel, rfl⟩
theorem qX12_next_41 : Dc mX12_next 41 (.putfield 151) 3 44 := ⟨by decide +kernel, rfl⟩
theorem qX12_next_44 : Dc mX12_next 44 (.aload_n 0) 1 45 := ⟨by decide +kernel, rfl⟩
theorem qX12_next_45 : Dc mX12_next 45 (.getfield 18) 3 48 := ⟨by decide +kernel, rfl⟩
theorem qX12_next_48 : Dc mX12_next 48 (.aload_n 0) 1 49 := ⟨by decide +kernel, rfl⟩
theorem qX12_next_49 : Dc mX12_next 49 (.getfield 24) 3 52 := ⟨by decide +kernel, rfl⟩
theorem qX12_next_52 : Dc mX12_next 52 (.if_icmp .le 28) 3 55 := ⟨by decide +kernel, rfl⟩
theorem qX12_next_55 : Dc mX12_next 55 (.aload_n 0) 1 56 := ⟨by decide +kernel, rfl⟩
theorem qX12_next_56 : Dc mX12_next 56 (.getfield 21) 3 59 := ⟨by decide +kernel, rfl⟩
theorem qX12_next_59 : Dc mX12_next 59 (.aload_n 0) 1 60 := ⟨by decide +kernel, rfl⟩
theorem qX12_next_60 : Dc mX12_next 60 (.getfield 24) 3 63 := ⟨by decide +kernel, rfl⟩
theorem qX12_next_63 : Dc mX12_next 63 (.if_icmp .lt 17) 3 66 := ⟨by decide +kernel, rfl⟩
theorem qX12_next_66 : Dc mX12_next 66 (.aload_n 0) 1 67 := ⟨by decide +kernel, rfl⟩
theorem qX12_next_67 : Dc mX12_next 67 (.aload_n 0) 1 68 := ⟨by decide +kernel, rfl⟩
theorem qX12_next_68 : Dc mX12_next 68 (.getfield 24) 3 71 := ⟨by decide +kernel, rfl⟩
theorem qX12_next_71 : Dc mX12_next 71 (.putfield 148) 3 74 := ⟨by decide +kernel, rfl⟩
theorem qX12_next_74 : Dc mX12_next 74 (.aload_n 0) 1 75 := ⟨by decide +kernel, rfl⟩
theorem qX12_next_75 : Dc mX12_next 75 (.iconst 4) 1 76 := ⟨by decide +kernel, rfl⟩
theorem qX12_next_76 : Dc mX12_next 76 (.putfield 154) 3 79 := ⟨by decide +kernel, rfl⟩
theorem qX12_next_79 : Dc mX12_next 79 (.return_) 1 80 := ⟨by decide +kernel, rfl⟩
theorem qX12_next_80 : Dc mX12_next 80 (.aload_n 0) 1 81 := ⟨by decide +kernel, rfl⟩
theorem qX12_next_81 : Dc mX12_next 81 (.invokevirtual 144) 3 84 := ⟨by decide +kernel, rfl⟩
theorem qX12_next_84 : Dc mX12_next 84 (.istore_n 1) 1 85 := ⟨by decide +kernel, rfl⟩
theorem qX12_next_85 : Dc mX12_next 85 (.iload_n 1) 1 86 := ⟨by decide +kernel, rfl⟩
theorem qX12_next_86 : Dc mX12_next 86 (.ifCond .ge 9) 3 89 := ⟨by decide +kernel, rfl⟩
theorem qX12_next_89 : Dc mX12_next 89 (.aload_n 0) 1 90 := ⟨by decide +kernel, rfl⟩
theorem qX12_next_90 : Dc mX12_next 90 (.iconst 0) 1 91 := ⟨by decide +kernel, rfl⟩
theorem qX12_next_91 : Dc mX12_next 91 (.putfield 154) 3 94 := ⟨by decide +kernel, rfl⟩
theorem qX12_next_94 : Dc mX12_next 94 (.return_) 1 95 := ⟨by decide +kernel, rfl⟩
theorem qX12_next_95 : Dc mX12_next 95 (.iload_n 1) 1 96 := ⟨by decide +kernel, rfl⟩
theorem qX12_next_96 : Dc mX12_next 96 (.invokestatic 157) 3 99 := ⟨by decide +kernel, rfl⟩
theorem qX12_next_99 : Dc mX12_next 99 (.ifCond .ne 65) 3 102 := ⟨by decide +kernel, rfl⟩
theorem qX12_next_102 : Dc mX12_next 102 (.iload_n 1) 1 103 := ⟨by decide +kernel, rfl⟩
theorem qX12_next_103 : Dc mX12_next 103 (.invokestatic 161) 3 106 := ⟨by decide +kernel, rfl⟩
theorem qX12_next_106 : Dc mX12_next 106 (.ifCond .ne 58) 3 109 := ⟨by decide +kernel, rfl⟩
theorem qX12_next_109 : Dc mX12_next 109 (.aload_n 0) 1 110 := ⟨by decide +kernel, rfl⟩
theorem qX12_next_110 : Dc mX12_next 110 (.iload_n 1) 1 111 := ⟨by decide +kernel, rfl⟩
theorem qX12_next_111 : Dc mX12_next 111 (.bipush 59) 2 113 := ⟨by decide +kernel, rfl⟩
theorem qX12_next_113 : Dc mX12_next 113 (.if_icmp .eq 27) 3 116 := ⟨by decide +kernel, rfl⟩
theorem qX12_next_116 : Dc mX12_next 116 (.iload_n 1) 1 117 := ⟨by decide +kernel, rfl⟩
theorem qX12_next_117 : Dc mX12_next 117 (.bipush 40) 2 119 := ⟨by decide +kernel, rfl⟩
theorem qX12_next_119 : Dc mX12_next 119 (.if_icmp .eq 21) 3 122 := ⟨by decide +kernel, rfl⟩
theorem qX12_next_122 : Dc mX12_next 122 (.iload_n 1) 1 123 := ⟨by decide +kernel, rfl⟩
theorem qX12_next_123 : Dc mX12_next 123 (.bipush 41) 2 125 := ⟨by decide +kernel, rfl⟩
theorem qX12_next_125 : Dc mX12_next 125 (.if_icmp .eq 15) 3 128 := ⟨by decide +kernel, rfl⟩
theorem qX12_next_128 : Dc mX12_next 128 (.iload_n 1) 1 129 := ⟨by decide +kernel, rfl⟩
theorem qX12_next_129 : Dc mX12_next 129 (.bipush 60) 2 131 := ⟨by decide +kernel, rfl⟩
theorem qX12_next_131 : Dc mX12_next 131 (.if_icmp .lt 13) 3 134 := ⟨by decide +kernel, rfl⟩
theorem qX12_next_134 : Dc mX12_next 134 (.iload_n 1) 1 135 := ⟨by decide +kernel, rfl⟩
theorem qX12_next_135 : Dc mX12_next 135 (.bipush 62) 2 137 := ⟨by decide +kernel, rfl⟩
theorem qX12_next_137 : Dc mX12_next 137 (.if_icmp .gt 7) 3 140 := ⟨by decide +kernel, rfl⟩
theorem qX12_next_140 : Dc mX12_next 140 (.iconst 3) 1 141 := ⟨by decide +kernel, rfl⟩
theorem qX12_next_141 : Dc mX12_next 141 (.goto 4) 3 144 := ⟨by decide +kernel, rfl⟩
theorem qX12_next_144 : Dc mX12_next 144 (.iconst 4) 1 145 := ⟨by decide +kernel, rfl⟩
theorem qX12_next_145 : Dc mX12_next 145 (.putfield 154) 3 148 := ⟨by decide +kernel, rfl⟩
theorem qX12_next_148 : Dc mX12_next 148 (.aload_n 0) 1 149 := ⟨by decide +kernel, rfl⟩
theorem qX12_next_149 : Dc mX12_next 149 (.iload_n 1) 1 150 := ⟨by decide +kernel, rfl⟩
theorem qX12_next_150 : Dc mX12_next 150 (.putfield 164) 3 153 := ⟨by decide +kernel, rfl⟩
theorem qX12_next_153 : Dc mX12_next 153 (.aload_n 0) 1 154 := ⟨by decide +kernel, rfl⟩
theorem qX12_next_154 : Dc mX12_next 154 (.dup) 1 155 := ⟨by decide +kernel, rfl⟩
theorem qX12_next_155 : Dc mX12_next 155 (.getfield 21) 3 158 := ⟨by decide +kernel, rfl⟩
theorem qX12_next_158 : Dc mX12_next 158 (.iconst 1) 1 159 := ⟨by decide +kernel, rfl⟩
theorem qX12_next_159 : Dc mX12_next 159 (.iadd) 1 160 := ⟨by decide +kernel, rfl⟩
theorem qX12_next_160 : Dc mX12_next 160 (.putfield 21) 3 163 := ⟨by decide +kernel, rfl⟩
theorem qX12_next_163 : Dc mX12_next 163 (.return_) 1 164 := ⟨by decide +kernel, rfl⟩
theorem qX12_next_164 : Dc mX12_next 164 (.iload_n 1) 1 165 := ⟨by decide +kernel, rfl⟩
theorem qX12_next_165 : Dc mX12_next 165 (.invokestatic 157) 3 168 := ⟨by decide +kernel, rfl⟩
theorem qX12_next_168 : Dc mX12_next 168 (.istore_n 2) 1 169 := ⟨by decide +kernel, rfl⟩
theorem qX12_next_169 : Dc mX12_next 169 (.iconst 1) 1 170 := ⟨by decide +kernel, rfl⟩
theorem qX12_next_170 : Dc mX12_next 170 (.istore_n 3) 1 171 := ⟨by decide +kernel, rfl⟩
theorem qX12_next_171 : Dc mX12_next 171 (.aload_n 0) 1 172 := ⟨by decide +kernel, rfl⟩
theorem qX12_next_172 : Dc mX12_next 172 (.lconst 0) 1 173 := ⟨by decide +kernel, rfl⟩
theorem qX12_next_173 : Dc mX12_next 173 (.putfield 167) 3 176 := ⟨by decide +kernel, rfl⟩
theorem qX12_next_176 : Dc mX12_next 176 (.aload_n 0) 1 177 := ⟨by decide +kernel, rfl⟩
theorem qX12_next_177 : Dc mX12_next 177 (.iconst 0) 1 178 := ⟨by decide +kernel, rfl⟩
theorem qX12_next_178 : Dc mX12_next 178 (.putfield 164) 3 181 := ⟨by decide +kernel, rfl⟩
theorem qX12_next_181 : Dc mX12_next 181 (.aload_n 0) 1 182 := ⟨by decide +kernel, rfl⟩
theorem qX12_next_182 : Dc mX12_next 182 (.invokevirtual 144) 3 185 := ⟨by decide +kernel, rfl⟩
theorem qX12_next_185 : Dc mX12_next 185 (.invokestatic 157) 3 188 := ⟨by decide +kernel, rfl⟩
theorem qX12_next_188 : Dc mX12_next 188 (.ifCond .ne 13) 3 191 := ⟨by decide +kernel, rfl⟩
theorem qX12_next_191 : Dc mX12_next 191 (.aload_n 0) 1 192 := ⟨by decide +kernel, rfl⟩
theorem qX12_next_192 : Dc mX12_next 192 (.invokevirtual 144) 3 195 := ⟨by decide +kernel, rfl⟩
theorem qX12_next_195 : Dc mX12_next 195 (.invokestatic 161) 3 198 := ⟨by decide +kernel, rfl⟩
theorem qX12_next_198 : Dc mX12_next 198 (.ifCond .eq 100) 3 201 := ⟨by decide +kernel, rfl⟩
theorem qX12_next_201 : Dc mX12_next 201 (.iload_n 3) 1 202 := ⟨by decide +kernel, rfl⟩
theorem qX12_next_202 : Dc mX12_next 202 (.ifCond .eq 18) 3 205 := ⟨by decide +kernel, rfl⟩
theorem qX12_next_205 : Dc mX12_next 205 (.aload_n 0) 1 206 := ⟨by decide +kernel, rfl⟩
theorem qX12_next_206 : Dc mX12_next 206 (.invokevirtual 144) 3 209 := ⟨by decide +kernel, rfl⟩
theorem qX12_next_209 : Dc mX12_next 209 (.invokestatic 157) 3 212 := ⟨by decide +kernel, rfl⟩
theorem qX12_next_212 : Dc mX12_next 212 (.iload_n 2) 1 213 := ⟨by decide +kernel, rfl⟩
theorem qX12_next_213 : Dc mX12_next 213 (.if_icmp .ne 7) 3 216 := ⟨by decide +kernel, rfl⟩
theorem qX12_next_216 : Dc mX12_next 216 (.iconst 1) 1 217 := ⟨by decide +kernel, rfl⟩
theorem qX12_next_217 : Dc mX12_next 217 (.goto 4) 3 220 := ⟨by decide +kernel, rfl⟩
theorem qX12_next_220 : Dc mX12_next 220 (.iconst 0) 1 221 := ⟨by decide +kernel, rfl⟩
theorem qX12_next_221 : Dc mX12_next 221 (.istore_n 3) 1 222 := ⟨by decide +kernel, rfl⟩
theorem qX12_next_222 : Dc mX12_next 222 (.aload_n 0) 1 223 := ⟨by decide +kernel, rfl⟩
theorem qX12_next_223 : Dc mX12_next 223 (.getfield 151) 3 226 := ⟨by decide +kernel, rfl⟩
theorem qX12_next_226 : Dc mX12_next 226 (.bipush 7) 2 228 := ⟨by decide +kernel, rfl⟩
theorem qX12_next_228 : Dc mX12_next 228 (.if_icmp .ge 20) 3 231 := ⟨by decide +kernel, rfl⟩
theorem qX12_next_231 : Dc mX12_next 231 (.aload_n 0) 1 232 := ⟨by decide +kernel, rfl⟩
theorem qX12_next_232 : Dc mX12_next 232 (.aload_n 0) 1 233 := ⟨by decide +kernel, rfl⟩
theorem qX12_next_233 : Dc mX12_next 233 (.getfield 167) 3 236 := ⟨by decide +kernel, rfl⟩
theorem qX12_next_236 : Dc mX12_next 236 (.bipush 8) 2 238 := ⟨by decide +kernel, rfl⟩
theorem qX12_next_238 : Dc mX12_next 238 (.lshl) 1 239 := ⟨by decide +kernel, rfl⟩
theorem qX12_next_239 : Dc mX12_next 239 (.aload_n 0) 1 240 := ⟨by decide +kernel, rfl⟩
theorem qX12_next_240 : Dc mX12_next 240 (.invokevirtual 144) 3 243 := ⟨by decide +kernel, rfl⟩
theorem qX12_next_243 : Dc mX12_next 243 (.i2l) 1 244 := ⟨by decide +kernel, rfl⟩
theorem qX12_next_244 : Dc mX12_next 244 (.lor) 1 245 := ⟨by decide +kernel, rfl⟩
theorem qX12_next_245 : Dc mX12_next 245 (.putfield 167) 3 248 := ⟨by decide +kernel, rfl⟩
theorem qX12_next_248 : Dc mX12_next 248 (.aload_n 0) 1 249 := ⟨by decide +kernel, rfl⟩
theorem qX12_next_249 : Dc mX12_next 249 (.getfield 151) 3 252 := ⟨by decide +kernel, rfl⟩
theorem qX12_next_252 : Dc mX12_next 252 (.iconst 3) 1 253 := ⟨by decide +kernel, rfl⟩
theorem qX12_next_253 : Dc mX12_next 253 (.if_icmp .ge 22) 3 256 := ⟨by decide +kernel, rfl⟩
theorem qX12_next_256 : Dc mX12_next 256 (.aload_n 0) 1 257 := ⟨by decide +kernel, rfl⟩
theorem qX12_next_257 : Dc mX12_next 257 (.bipush 10) 2 259 := ⟨by decide +kernel, rfl⟩
theorem qX12_next_259 : Dc mX12_next 259 (.aload_n 0) 1 260 := ⟨by decide +kernel, rfl⟩
theorem qX12_next_260 : Dc mX12_next 260 (.getfield 164) 3 263 := ⟨by decide +kernel, rfl⟩
theorem qX12_next_263 : Dc mX12_next 263 (.imul) 1 264 := ⟨by decide +kernel, rfl⟩
theorem qX12_next_264 : Dc mX12_next 264 (.aload_n 0) 1 265 := ⟨by decide +kernel, rfl⟩
theorem qX12_next_265 : Dc mX12_next 265 (.invokevirtual 144) 3 268 := ⟨by decide +kernel, rfl⟩
theorem qX12_next_268 : Dc mX12_next 268 (.iadd) 1 269 := ⟨by decide +kernel, rfl⟩
theorem qX12_next_269 : Dc mX12_next 269 (.bipush 48) 2 271 := ⟨by decide +kernel, rfl⟩
theorem qX12_next_271 : Dc mX12_next 271 (.isub) 1 272 := ⟨by decide +kernel, rfl⟩
theorem qX12_next_272 : Dc mX12_next 272 (.putfield 164) 3 275 := ⟨by decide +kernel, rfl⟩
theorem qX12_next_275 : Dc mX12_next 275 (.aload_n 0) 1 276 := ⟨by decide +kernel, rfl⟩
theorem qX12_next_276 : Dc mX12_next 276 (.dup) 1 277 := ⟨by decide +kernel, rfl⟩
theorem qX12_next_277 : Dc mX12_next 277 (.getfield 151) 3 280 := ⟨by decide +kernel, rfl⟩
theorem qX12_next_280 : Dc mX12_next 280 (.iconst 1) 1 281 := ⟨by decide +kernel, rfl⟩
theorem qX12_next_281 : Dc mX12_next 281 (.iadd) 1 282 := ⟨by decide +kernel, rfl⟩
theorem qX12_next_282 : Dc mX12_next 282 (.putfield 151) 3 285 := ⟨by decide +kernel, rfl⟩
theorem qX12_next_285 : Dc mX12_next 285 (.aload_n 0) 1 286 := ⟨by decide +kernel, rfl⟩
theorem qX12_next_286 : Dc mX12_next 286 (.dup) 1 287 := ⟨by decide +kernel, rfl⟩
theorem qX12_next_287 : Dc mX12_next 287 (.getfield 21) 3 290 := ⟨by decide +kernel, rfl⟩
theorem qX12_next_290 : Dc mX12_next 290 (.iconst 1) 1 291 := ⟨by decide +kernel, rfl⟩
theorem qX12_next_291 : Dc mX12_next 291 (.iadd) 1 292 := ⟨by decide +kernel, rfl⟩
theorem qX12_next_292 : Dc mX12_next 292 (.putfield 21) 3 295 := ⟨by decide +kernel, rfl⟩
theorem qX12_next_295 : Dc mX12_next 295 (.goto (-114)) 3 298 := ⟨by decide +kernel, rfl⟩
theorem qX12_next_298 : Dc mX12_next 298 (.aload_n 0) 1 299 := ⟨by decide +kernel, rfl⟩
theorem qX12_next_299 : Dc mX12_next 299 (.iload_n 3) 1 300 := ⟨by decide +kernel, rfl⟩
theorem qX12_next_300 : Dc mX12_next 300 (.ifCond .eq 20) 3 303 := ⟨by decide +kernel, rfl⟩
theorem qX12_next_303 : Dc mX12_next 303 (.aload_n 0) 1 304 := ⟨by decide +kernel, rfl⟩
theorem qX12_next_304 : Dc mX12_next 304 (.getfield 151) 3 307 := ⟨by decide +kernel, rfl⟩
theorem qX12_next_307 : Dc mX12_next 307 (.iload_n 2) 1 308 := ⟨by decide +kernel, rfl⟩
theorem qX12_next_308 : Dc mX12_next 308 (.ifCond .eq 8) 3 311 := ⟨by decide +kernel, rfl⟩
theorem qX12_next_311 : Dc mX12_next 311 (.bipush 7) 2 313 := ⟨by decide +kernel, rfl⟩
theorem qX12_next_313 : Dc mX12_next 313 (.goto 4) 3 316 := ⟨by decide +kernel, rfl⟩
theorem qX12_next_316 : Dc mX12_next 316 (.iconst 3) 1 317 := ⟨by decide +kernel, rfl⟩
theorem qX12_next_317 : Dc mX12_next 317 (.if_icmp .le 7) 3 320 := ⟨by decide +kernel, rfl⟩
theorem qX12_next_320 : Dc mX12_next 320 (.iconst 4) 1 321 := ⟨by decide +kernel, rfl⟩
theorem qX12_next_321 : Dc mX12_next 321 (.goto 12) 3 324 := ⟨by decide +kernel, rfl⟩
theorem qX12_next_324 : Dc mX12_next 324 (.iload_n 2) 1 325 := ⟨by decide +kernel, rfl⟩
theorem qX12_next_325 : Dc mX12_next 325 (.ifCond .eq 7) 3 328 := ⟨by decide +kernel, rfl⟩
theorem qX12_next_328 : Dc mX12_next 328 (.iconst 1) 1 329 := ⟨by decide +kernel, rfl⟩
theorem qX12_next_329 : Dc mX12_next 329 (.goto 4) 3 332 := ⟨by decide +kernel, rfl⟩
theorem qX12_next_332 : Dc mX12_next 332 (.iconst 2) 1 333 := ⟨by decide +kernel, rfl⟩
theorem qX12_next_333 : Dc mX12_next 333 (.putfield 154) 3 336 := ⟨by decide +kernel, rfl⟩
theorem qX12_next_336 : Dc mX12_next 336 (.return_) 1 337 := ⟨by decide +kernel, rfl⟩

set_option maxRecDepth 20000 in
set_option maxHeartbeats 4000000 in
theorem w_X12_next_L0 {N : Nat}  {k2 : St → Option (St)} {sr : St}  (hk2 : ∀ (s3 : St), k2 s3 = some sr → E mX12_next 1 (none, sr) 31 [some (.ref 206), none, none, none] [] s3) : ∀ (n4 : Nat) (s1 : St), f_X12_next_L0 N k2 n4 s1 = some sr → E mX12_next 1 (none, sr) 0 [some (.ref 206), none, none, none] [] s1 := by
  intro n4
  induction n4 with
  | zero =>
    intro s1 h
    rw [f_X12_next_L0] at h; cases h
  | succ n4 ih5 =>
    intro s1 h
    rw [f_X12_next_L0] at h
    refine e_aload_n qX12_next_0 rfl ?_
    obtain ⟨v6, hc, h⟩ := bp_e h
    refine e_cVi0 qX12_next_1 mv_X12_144 shq_206 rfl rfl (w_X12_peek hc) ?_
    refine e_bipush (nI 32) qX12_next_4 rfl ?_
    refine jn_e (fun j => j = some sr → E mX12_next 1 (none, sr) 18 [some (.ref 206), none, none, none] [] s1) h ?_ (fun j7 hj7 h => ?_)
    · intro h
      refine e_aload_n qX12_next_18 rfl ?_
      refine e_dup qX12_next_19 rfl ?_
      refine e_geti qX12_next_20 fl_X12_21 shq_206 kdq_11_4 h (fun v8 h => ?_)
      refine e_iconst (nI 1) qX12_next_23 rfl ?_
      refine e_iadd qX12_next_24 ?_
      refine e_puti qX12_next_25 fp_X12_21 shq_206 kdq_11_4 h (fun s9 h => ?_)
      refine e_goto (tgt := 0) qX12_next_28 rfl ?_
      exact e_weak (ih5 _ h) ⟨Or.inr rfl, Or.inl rfl, Or.inl rfl, Or.inl rfl, trivial⟩
    refine e_icmp_eq (tgt := 18) qX12_next_6 rfl h (fun _ h => ?_) (fun _ h => ?_)
    · exact e_weak (hj7 h) ⟨Or.inr rfl, Or.inl rfl, Or.inl rfl, Or.inl rfl, trivial⟩
    refine e_aload_n qX12_next_9 rfl ?_
    obtain ⟨v10, hc, h⟩ := bp_e h
    refine e_cVi0 qX12_next_10 mv_X12_144 shq_206 rfl rfl (w_X12_peek hc) ?_
    refine e_bipush (nI 10) qX12_next_13 rfl ?_
    refine e_icmp_ne (tgt := 31) qX12_next_15 rfl h (fun _ h => ?_) (fun _ h => ?_)
    · exact e_weak (hj7 h) ⟨Or.inr rfl, Or.inl rfl, Or.inl rfl, Or.inl rfl, trivial⟩
    exact e_weak (hk2 _ h) ⟨Or.inr rfl, Or.inl rfl, Or.inl rfl, Or.inl rfl, trivial⟩

set_option maxRecDepth 20000 in
set_option maxHeartbeats 4000000 in
theorem w_X12_next_L181 {N : Nat} {c24 : Int32} {k27 : Int32 → St → Option (St)} {sr : St}  (hk27 : ∀ (v28 : Int32) (s29 : St), k27 v28 s29 = some sr → E mX12_next 1 (none, sr) 298 [some (.ref 206), none, some (.int c24), some (.int v28)] [] s29) : ∀ (n30 : Nat) (v25 : Int32) (s26 : St), f_X12_next_L181 N c24 k27 n30 v25 s26 = some sr → E mX12_next 1 (none, sr) 181 [some (.ref 206), none, some (.int c24), some (.int v25)] [] s26 := by
  intro n30
  induction n30 with
  | zero =>
    intro v25 s26 h
    rw [f_X12_next_L181] at h; cases h
  | succ n30 ih31 =>
    intro v25 s26 h
    rw [f_X12_next_L181] at h
    refine e_aload_n qX12_next_181 rfl ?_
    obtain ⟨v32, hc, h⟩ := bp_e h
    refine e_cVi0 qX12_next_182 mv_X12_144 shq_206 rfl rfl (w_X12_peek hc) ?_
    obtain ⟨v33, hc, h⟩ := bp_e h
    refine e_cSi1 qX12_next_185 ms_X12_157 rfl rfl (w_X12_isSmall hc) ?_
    refine jn_e (fun j => j = some sr → E mX12_next 1 (none, sr) 201 [some (.ref 206), none, some (.int c24), some (.int v25)] [] s26) h ?_ (fun j34 hj34 h => ?_)
    · intro h
      refine e_iload_n qX12_next_201 rfl ?_
      refine jn_e (fun j => ∀ (v35 : Int32), j v35 = some sr → E mX12_next 1 (none, sr) 221 [some (.ref 206), none, some (.int c24), none] [.int v35] s26) h ?_ (fun j36 hj36 h => ?_)
      · intro v35 h
        refine e_istore_n (lv2 := [some (.ref 206), none, some (.int c24), some (.int v35)]) qX12_next_221 rfl rfl rfl ?_
        refine e_aload_n qX12_next_222 rfl ?_
        refine e_geti qX12_next_223 fl_X12_151 shq_206 kdq_11_13 h (fun v37 h => ?_)
        refine e_bipush (nI 7) qX12_next_226 rfl ?_
        refine jn_e (fun j => ∀ (s38 : St), j s38 = some sr → E mX12_next 1 (none, sr) 248 [some (.ref 206), none, some (.int c24), some (.int v35)] [] s38) h ?_ (fun j39 hj39 h => ?_)
        · intro s38 h
          refine e_aload_n qX12_next_248 rfl ?_
          refine e_geti qX12_next_249 fl_X12_151 shq_206 kdq_11_13 h (fun v40 h => ?_)
          refine e_iconst (nI 3) qX12_next_252 rfl ?_
          refine jn_e (fun j => ∀ (s41 : St), j s41 = some sr → E mX12_next 1 (none, sr) 275 [some (.ref 206), none, some (.int c24), some (.int v35)] [] s41) h ?_ (fun j42 hj42 h => ?_)
          · intro s41 h
            refine e_aload_n qX12_next_275 rfl ?_
            refine e_dup qX12_next_276 rfl ?_
            refine e_geti qX12_next_277 fl_X12_151 shq_206 kdq_11_13 h (fun v43 h => ?_)
            refine e_iconst (nI 1) qX12_next_280 rfl ?_
            refine e_iadd qX12_next_281 ?_
            refine e_puti qX12_next_282 fp_X12_151 shq_206 kdq_11_13 h (fun s44 h => ?_)
            refine e_aload_n qX12_next_285 rfl ?_
            refine e_dup qX12_next_286 rfl ?_
            refine e_geti qX12_next_287 fl_X12_21 shq_206 kdq_11_4 h (fun v45 h => ?_)
            refine e_iconst (nI 1) qX12_next_290 rfl ?_
            refine e_iadd qX12_next_291 ?_
            refine e_puti qX12_next_292 fp_X12_21 shq_206 kdq_11_4 h (fun s46 h => ?_)
            refine e_goto (tgt := 181) qX12_next_295 rfl ?_
            exact e_weak (ih31 _ _ h) ⟨Or.inr rfl, Or.inl rfl, Or.inr rfl, Or.inr rfl, trivial⟩
          refine e_icmp_ge (tgt := 275) qX12_next_253 rfl h (fun _ h => ?_) (fun _ h => ?_)
          · exact e_weak (hj42 _ h) ⟨Or.inr rfl, Or.inl rfl, Or.inr rfl, Or.inr rfl, trivial⟩
          refine e_aload_n qX12_next_256 rfl ?_
          refine e_bipush (nI 10) qX12_next_257 rfl ?_
          refine e_aload_n qX12_next_259 rfl ?_
          refine e_geti qX12_next_260 fl_X12_164 shq_206 kdq_11_14 h (fun v47 h => ?_)
          refine e_imul qX12_next_263 ?_
          refine e_aload_n qX12_next_264 rfl ?_
          obtain ⟨v48, hc, h⟩ := bp_e h
          refine e_cVi0 qX12_next_265 mv_X12_144 shq_206 rfl rfl (w_X12_peek hc) ?_
          refine e_iadd qX12_next_268 ?_
          refine e_bipush (nI 48) qX12_next_269 rfl ?_
          refine e_isub qX12_next_271 ?_
          refine e_puti qX12_next_272 fp_X12_164 shq_206 kdq_11_14 h (fun s49 h => ?_)
          exact e_weak (hj42 _ h) ⟨Or.inr rfl, Or.inl rfl, Or.inr rfl, Or.inr rfl, trivial⟩
        refine e_icmp_ge (tgt := 248) qX12_next_228 rfl h (fun _ h => ?_) (fun _ h => ?_)
        · exact e_weak (hj39 _ h) ⟨Or.inr rfl, Or.inl rfl, Or.inr rfl, Or.inr rfl, trivial⟩
        refine e_aload_n qX12_next_231 rfl ?_
        refine e_aload_n qX12_next_232 rfl ?_
        refine e_getl qX12_next_233 fl_X12_167 shq_206 kdq_11_17 h (fun v50 h => ?_)
        refine e_bipush (nI 8) qX12_next_236 rfl ?_
        refine e_lshl qX12_next_238 ?_
        refine e_aload_n qX12_next_239 rfl ?_
        obtain ⟨v51, hc, h⟩ := bp_e h
        refine e_cVi0 qX12_next_240 mv_X12_144 shq_206 rfl rfl (w_X12_peek hc) ?_
        refine e_i2l qX12_next_243 ?_
        refine e_lor qX12_next_244 ?_
        refine e_putl qX12_next_245 fp_X12_167 shq_206 kdq_11_17 h (fun s52 h => ?_)
        exact e_weak (hj39 _ h) ⟨Or.inr rfl, Or.inl rfl, Or.inr rfl, Or.inr rfl, trivial⟩
      refine jn_e (fun j => j = some sr → E mX12_next 1 (none, sr) 220 [some (.ref 206), none, some (.int c24), none] [] s26) h ?_ (fun j53 hj53 h => ?_)
      · intro h
        refine e_iconst (nI 0) qX12_next_220 rfl ?_
        exact e_weak (hj36 _ h) ⟨Or.inr rfl, Or.inl rfl, Or.inr rfl, Or.inl rfl, trivial⟩
      refine e_if_eq (tgt := 220) qX12_next_202 rfl h (fun _ h => ?_) (fun _ h => ?_)
      · exact e_weak (hj53 h) ⟨Or.inr rfl, Or.inl rfl, Or.inr rfl, Or.inl rfl, trivial⟩
      refine e_aload_n qX12_next_205 rfl ?_
      obtain ⟨v54, hc, h⟩ := bp_e h
      refine e_cVi0 qX12_next_206 mv_X12_144 shq_206 rfl rfl (w_X12_peek hc) ?_
      obtain ⟨v55, hc, h⟩ := bp_e h
      refine e_cSi1 qX12_next_209 ms_X12_157 rfl rfl (w_X12_isSmall hc) ?_
      refine e_iload_n qX12_next_212 rfl ?_
      refine e_icmp_ne (tgt := 220) qX12_next_213 rfl h (fun _ h => ?_) (fun _ h => ?_)
      · refine e_iconst (nI 1) qX12_next_216 rfl ?_
        refine e_goto (tgt := 221) qX12_next_217 rfl ?_
        exact e_weak (hj36 _ h) ⟨Or.inr rfl, Or.inl rfl, Or.inr rfl, Or.inl rfl, trivial⟩
      exact e_weak (hj53 h) ⟨Or.inr rfl, Or.inl rfl, Or.inr rfl, Or.inl rfl, trivial⟩
    refine e_if_ne (tgt := 201) qX12_next_188 rfl h (fun _ h => ?_) (fun _ h => ?_)
    · refine e_aload_n qX12_next_191 rfl ?_
      obtain ⟨v56, hc, h⟩ := bp_e h
      refine e_cVi0 qX12_next_192 mv_X12_144 shq_206 rfl rfl (w_X12_peek hc) ?_
      obtain ⟨v57, hc, h⟩ := bp_e h
      refine e_cSi1 qX12_next_195 ms_X12_161 rfl rfl (w_X12_isDigit hc) ?_
      refine e_if_eq (tgt := 298) qX12_next_198 rfl h (fun _ h => ?_) (fun _ h => ?_)
      · exact e_weak (hk27 _ _ h) ⟨Or.inr rfl, Or.inl rfl, Or.inr rfl, Or.inr rfl, trivial⟩
      exact e_weak (hj34 h) ⟨Or.inr rfl, Or.inl rfl, Or.inr rfl, Or.inr rfl, trivial⟩
    exact e_weak (hj34 h) ⟨Or.inr rfl, Or.inl rfl, Or.inr rfl, Or.inr rfl, trivial⟩

set_option maxRecDepth 20000 in
set_option maxHeartbeats 4000000 in
theorem w_X12_next {N : Nat}  {s0 : St} {sr : St} (h : f_X12_next N  s0 = some sr) : Ct mX12_next 1 [.ref 206] s0 (none, sr) := by
  refine Ct.ofE (by decide +kernel) rfl ?_
  show E mX12_next 1 (none, sr) 0 [some (.ref 206), none, none, none] [] s0
  unfold f_X12_next at h
  refine e_weak (w_X12_next_L0 (fun s11 h => ?_) _ _ h) ⟨Or.inr rfl, Or.inl rfl, Or.inl rfl, Or.inl rfl, trivial⟩
  refine e_aload_n qX12_next_31 rfl ?_
  refine e_aload_n qX12_next_32 rfl ?_
  refine e_geti qX12_next_33 fl_X12_21 shq_206 kdq_11_4 h (fun v12 h => ?_)
  refine e_puti qX12_next_36 fp_X12_148 shq_206 kdq_11_12 h (fun s13 h => ?_)
  refine e_aload_n qX12_next_39 rfl ?_
  refine e_iconst (nI 0) qX12_next_40 rfl ?_
  refine e_puti qX12_next_41 fp_X12_151 shq_206 kdq_11_13 h (fun s14 h => ?_)
  refine e_aload_n qX12_next_44 rfl ?_
  refine e_geti qX12_next_45 fl_X12_18 shq_206 kdq_11_3 h (fun v15 h => ?_)
  refine e_aload_n qX12_next_48 rfl ?_
  refine e_geti qX12_next_49 fl_X12_24 shq_206 kdq_11_5 h (fun v16 h => ?_)
  refine jn_e (fun j => j = some sr → E mX12_next 1 (none, sr) 80 [some (.ref 206), none, none, none] [] s14) h ?_ (fun j17 hj17 h => ?_)
  · intro h
    refine e_aload_n qX12_next_80 rfl ?_
    obtain ⟨v18, hc, h⟩ := bp_e h
    refine e_cVi0 qX12_next_81 mv_X12_144 shq_206 rfl rfl (w_X12_peek hc) ?_
    refine e_istore_n (lv2 := [some (.ref 206), some (.int v18), none, none]) qX12_next_84 rfl rfl rfl ?_
    refine e_iload_n qX12_next_85 rfl ?_
    refine e_if_ge (tgt := 95) qX12_next_86 rfl h (fun _ h => ?_) (fun _ h => ?_)
    · refine e_iload_n qX12_next_95 rfl ?_
      obtain ⟨v19, hc, h⟩ := bp_e h
      refine e_cSi1 qX12_next_96 ms_X12_157 rfl rfl (w_X12_isSmall hc) ?_
      refine jn_e (fun j => j = some sr → E mX12_next 1 (none, sr) 164 [some (.ref 206), some (.int v18), none, none] [] s14) h ?_ (fun j20 hj20 h => ?_)
      · intro h
        refine e_iload_n qX12_next_164 rfl ?_
        obtain ⟨v21, hc, h⟩ := bp_e h
        refine e_cSi1 qX12_next_165 ms_X12_157 rfl rfl (w_X12_isSmall hc) ?_
        refine e_istore_n (lv2 := [some (.ref 206), some (.int v18), some (.int v21), none]) qX12_next_168 rfl rfl rfl ?_
        refine e_iconst (nI 1) qX12_next_169 rfl ?_
        refine e_istore_n (lv2 := [some (.ref 206), some (.int v18), some (.int v21), some (.int (nI 1))]) qX12_next_170 rfl rfl rfl ?_
        refine e_aload_n qX12_next_171 rfl ?_
        refine e_lconst (0 : Int64) qX12_next_172 rfl ?_
        refine e_putl qX12_next_173 fp_X12_167 shq_206 kdq_11_17 h (fun s22 h => ?_)
        refine e_aload_n qX12_next_176 rfl ?_
        refine e_iconst (nI 0) qX12_next_177 rfl ?_
        refine e_puti qX12_next_178 fp_X12_164 shq_206 kdq_11_14 h (fun s23 h => ?_)
        refine e_weak (w_X12_next_L181 (fun v58 s59 h => ?_) _ _ _ h) ⟨Or.inr rfl, Or.inl rfl, Or.inr rfl, Or.inr rfl, trivial⟩
        refine e_aload_n qX12_next_298 rfl ?_
        refine e_iload_n qX12_next_299 rfl ?_
        refine jn_e (fun j => ∀ (v60 : Int32), j v60 = some sr → E mX12_next 1 (none, sr) 333 [none, none, none, none] [.int v60, .ref 206] s59) h ?_ (fun j61 hj61 h => ?_)
        · intro v60 h
          refine e_puti qX12_next_333 fp_X12_154 shq_206 kdq_11_11 h (fun s62 h => ?_)
          exact e_vret qX12_next_336 rfl (ret_v h)
        refine jn_e (fun j => j = some sr → E mX12_next 1 (none, sr) 320 [none, none, none, none] [.ref 206] s59) h ?_ (fun j63 hj63 h => ?_)
        · intro h
          refine e_iconst (nI 4) qX12_next_320 rfl ?_
          refine e_goto (tgt := 333) qX12_next_321 rfl ?_
          exact e_weak (hj61 _ h) ⟨Or.inl rfl, Or.inl rfl, Or.inl rfl, Or.inl rfl, trivial⟩
        refine e_if_eq (tgt := 320) qX12_next_300 rfl h (fun _ h => ?_) (fun _ h => ?_)
        · exact e_weak (hj63 h) ⟨Or.inl rfl, Or.inl rfl, Or.inl rfl, Or.inl rfl, trivial⟩
        refine e_aload_n qX12_next_303 rfl ?_
        refine e_geti qX12_next_304 fl_X12_151 shq_206 kdq_11_13 h (fun v64 h => ?_)
        refine e_iload_n qX12_next_307 rfl ?_
        refine jn_e (fun j => ∀ (v65 : Int32), j v65 = some sr → E mX12_next 1 (none, sr) 317 [none, none, some (.int v21), none] [.int v65, .int v64, .ref 206] s59) h ?_ (fun j66 hj66 h => ?_)
        · intro v65 h
          refine e_icmp_le (tgt := 324) qX12_next_317 rfl h (fun _ h => ?_) (fun _ h => ?_)
          · refine e_iload_n qX12_next_324 rfl ?_
            refine e_if_eq (tgt := 332) qX12_next_325 rfl h (fun _ h => ?_) (fun _ h => ?_)
            · refine e_iconst (nI 2) qX12_next_332 rfl ?_
              exact e_weak (hj61 _ h) ⟨Or.inl rfl, Or.inl rfl, Or.inl rfl, Or.inl rfl, trivial⟩
            refine e_iconst (nI 1) qX12_next_328 rfl ?_
            refine e_goto (tgt := 333) qX12_next_329 rfl ?_
            exact e_weak (hj61 _ h) ⟨Or.inl rfl, Or.inl rfl, Or.inl rfl, Or.inl rfl, trivial⟩
          exact e_weak (hj63 h) ⟨Or.inl rfl, Or.inl rfl, Or.inl rfl, Or.inl rfl, trivial⟩
        refine e_if_eq (tgt := 316) qX12_next_308 rfl h (fun _ h => ?_) (fun _ h => ?_)
        · refine e_iconst (nI 3) qX12_next_316 rfl ?_
          exact e_weak (hj66 _ h) ⟨Or.inl rfl, Or.inl rfl, Or.inr rfl, Or.inl rfl, trivial⟩
        refine e_bipush (nI 7) qX12_next_311 rfl ?_
        refine e_goto (tgt := 317) qX12_next_313 rfl ?_
        exact e_weak (hj66 _ h) ⟨Or.inl rfl, Or.inl rfl, Or.inr rfl, Or.inl rfl, trivial⟩
      refine e_if_ne (tgt := 164) qX12_next_99 rfl h (fun _ h => ?_) (fun _ h => ?_)
      · refine e_iload_n qX12_next_102 rfl ?_
        obtain ⟨v67, hc, h⟩ := bp_e h
        refine e_cSi1 qX12_next_103 ms_X12_161 rfl rfl (w_X12_isDigit hc) ?_
        refine e_if_ne (tgt := 164) qX12_next_106 rfl h (fun _ h => ?_) (fun _ h => ?_)
        · refine e_aload_n qX12_next_109 rfl ?_
          refine e_iload_n qX12_next_110 rfl ?_
          refine e_bipush (nI 59) qX12_next_111 rfl ?_
          refine jn_e (fun j => ∀ (v68 : Int32), j v68 = some sr → E mX12_next 1 (none, sr) 145 [some (.ref 206), some (.int v18), none, none] [.int v68, .ref 206] s14) h ?_ (fun j69 hj69 h => ?_)
          · intro v68 h
            refine e_puti qX12_next_145 fp_X12_154 shq_206 kdq_11_11 h (fun s70 h => ?_)
            refine e_aload_n qX12_next_148 rfl ?_
            refine e_iload_n qX12_next_149 rfl ?_
            refine e_puti qX12_next_150 fp_X12_164 shq_206 kdq_11_14 h (fun s71 h => ?_)
            refine e_aload_n qX12_next_153 rfl ?_
            refine e_dup qX12_next_154 rfl ?_
            refine e_geti qX12_next_155 fl_X12_21 shq_206 kdq_11_4 h (fun v72 h => ?_)
            refine e_iconst (nI 1) qX12_next_158 rfl ?_
            refine e_iadd qX12_next_159 ?_
            refine e_puti qX12_next_160 fp_X12_21 shq_206 kdq_11_4 h (fun s73 h => ?_)
            exact e_vret qX12_next_163 rfl (ret_v h)
          refine jn_e (fun j => j = some sr → E mX12_next 1 (none, sr) 140 [some (.ref 206), some (.int v18), none, none] [.ref 206] s14) h ?_ (fun j74 hj74 h => ?_)
          · intro h
            refine e_iconst (nI 3) qX12_next_140 rfl ?_
            refine e_goto (tgt := 145) qX12_next_141 rfl ?_
            exact e_weak (hj69 _ h) ⟨Or.inr rfl, Or.inr rfl, Or.inl rfl, Or.inl rfl, trivial⟩
          refine e_icmp_eq (tgt := 140) qX12_next_113 rfl h (fun _ h => ?_) (fun _ h => ?_)
          · exact e_weak (hj74 h) ⟨Or.inr rfl, Or.inr rfl, Or.inl rfl, Or.inl rfl, trivial⟩
          refine e_iload_n qX12_next_116 rfl ?_
          refine e_bipush (nI 40) qX12_next_117 rfl ?_
          refine e_icmp_eq (tgt := 140) qX12_next_119 rfl h (fun _ h => ?_) (fun _ h => ?_)
          · exact e_weak (hj74 h) ⟨Or.inr rfl, Or.inr rfl, Or.inl rfl, Or.inl rfl, trivial⟩
          refine e_iload_n qX12_next_122 rfl ?_
          refine e_bipush (nI 41) qX12_next_123 rfl ?_
          refine e_icmp_eq (tgt := 140) qX12_next_125 rfl h (fun _ h => ?_) (fun _ h => ?_)
          · exact e_weak (hj74 h) ⟨Or.inr rfl, Or.inr rfl, Or.inl rfl, Or.inl rfl, trivial⟩
          refine e_iload_n qX12_next_128 rfl ?_
          refine e_bipush (nI 60) qX12_next_129 rfl ?_
          refine jn_e (fun j => j = some sr → E mX12_next 1 (none, sr) 144 [some (.ref 206), some (.int v18), none, none] [.ref 206] s14) h ?_ (fun j75 hj75 h => ?_)
          · intro h
            refine e_iconst (nI 4) qX12_next_144 rfl ?_
            exact e_weak (hj69 _ h) ⟨Or.inr rfl, Or.inr rfl, Or.inl rfl, Or.inl rfl, trivial⟩
          refine e_icmp_lt (tgt := 144) qX12_next_131 rfl h (fun _ h => ?_) (fun _ h => ?_)
          · exact e_weak (hj75 h) ⟨Or.inr rfl, Or.inr rfl, Or.inl rfl, Or.inl rfl, trivial⟩
          refine e_iload_n qX12_next_134 rfl ?_
          refine e_bipush (nI 62) qX12_next_135 rfl ?_
          refine e_icmp_gt (tgt := 144) qX12_next_137 rfl h (fun _ h => ?_) (fun _ h => ?_)
          · exact e_weak (hj75 h) ⟨Or.inr rfl, Or.inr rfl, Or.inl rfl, Or.inl rfl, trivial⟩
          exact e_weak (hj74 h) ⟨Or.inr rfl, Or.inr rfl, Or.inl rfl, Or.inl rfl, trivial⟩
        exact e_weak (hj20 h) ⟨Or.inr rfl, Or.inr rfl, Or.inl rfl, Or.inl rfl, trivial⟩
      exact e_weak (hj20 h) ⟨Or.inr rfl, Or.inr rfl, Or.inl rfl, Or.inl rfl, trivial⟩
    refine e_aload_n qX12_next_89 rfl ?_
    refine e_iconst (nI 0) qX12_next_90 rfl ?_
    refine e_puti qX12_next_91 fp_X12_154 shq_206 kdq_11_11 h (fun s76 h => ?_)
    exact e_vret qX12_next_94 rfl (ret_v h)
  refine e_icmp_le (tgt := 80) qX12_next_52 rfl h (fun _ h => ?_) (fun _ h => ?_)
  · exact e_weak (hj17 h) ⟨Or.inr rfl, Or.inl rfl, Or.inl rfl, Or.inl rfl, trivial⟩
  refine e_aload_n qX12_next_55 rfl ?_
  refine e_geti qX12_next_56 fl_X12_21 shq_206 kdq_11_4 h (fun v77 h => ?_)
  refine e_aload_n qX12_next_59 rfl ?_
  refine e_geti qX12_next_60 fl_X12_24 shq_206 kdq_11_5 h (fun v78 h => ?_)
  refine e_icmp_lt (tgt := 80) qX12_next_63 rfl h (fun _ h => ?_) (fun _ h => ?_)
  · exact e_weak (hj17 h) ⟨Or.inr rfl, Or.inl rfl, Or.inl rfl, Or.inl rfl, trivial⟩
  refine e_aload_n qX12_next_66 rfl ?_
  refine e_aload_n qX12_next_67 rfl ?_
  refine e_geti qX12_next_68 fl_X12_24 shq_206 kdq_11_5 h (fun v79 h => ?_)
  refine e_puti qX12_next_71 fp_X12_148 shq_206 kdq_11_12 h (fun s80 h => ?_)
  refine e_aload_n qX12_next_74 rfl ?_
  refine e_iconst (nI 4) qX12_next_75 rfl ?_
  refine e_puti qX12_next_76 fp_X12_154 shq_206 kdq_11_11 h (fun s81 h => ?_)
  exact e_vret qX12_next_79 rfl (ret_v h)

def f_X12_bad (x1 : Int32) (s0 : St) : Option (Int32 × St) :=
  vl (sI s0 206 15 x1) fun s1 =>
  vl (s1.1 206 12) fun v2 =>
  vl (sI s1 206 16 v2) fun s3 =>
  some ((nI 0), s3)

theorem qX12_bad_0 : Dc mX12_bad 0 (.aload_n 0) 1 1 := ⟨by decide +kernel, rfl⟩
theorem qX12_bad_1 : Dc mX12_bad 1 (.iload_n 1) 1 2 := ⟨by decide +kernel, rfl⟩
theorem qX12_bad_2 : Dc mX12_bad 2 (.putfield 171) 3 5 := ⟨by decide +kernel, rfl⟩
theorem qX12_bad_5 : Dc mX12_bad 5 (.aload_n 0) 1 6 := ⟨by decide +kernel, rfl⟩
theorem qX12_bad_6 : Dc mX12_bad 6 (.aload_n 0) 1 7 := ⟨by decide +kernel, rfl⟩
theorem qX12_bad_7 : Dc mX12_bad 7 (.getfield 148) 3 10 := ⟨by decide +kernel, rfl⟩
theorem qX12_bad_10 : Dc mX12_bad 10 (.putfield 174) 3 13 := ⟨by decide +kernel, rfl⟩
theorem qX12_bad_13 : Dc mX12_bad 13 (.iconst 0) 1 14 := ⟨by decide +kernel, rfl⟩
theorem qX12_bad_14 : Dc mX12_bad 14 (.ireturn) 1 15 := ⟨by decide +kernel, rfl⟩

set_option maxRecDepth 20000 in
set_option maxHeartbeats 4000000 in
theorem w_X12_bad {x1 : Int32} {s0 : St} {r : Int32} {sr : St} (h : f_X12_bad x1 s0 = some (r, sr)) : Ct mX12_bad 0 [.ref 206, .int x1] s0 (some (.int r), sr) := by
  refine Ct.ofE (by decide +kernel) rfl ?_
  show E mX12_bad 0 (some (.int r), sr) 0 [some (.ref 206), some (.int x1)] [] s0
  unfold f_X12_bad at h
  refine e_aload_n qX12_bad_0 rfl ?_
  refine e_iload_n qX12_bad_1 rfl ?_
  refine e_puti qX12_bad_2 fp_X12_171 shq_206 kdq_11_15 h (fun s1 h => ?_)
  refine e_aload_n qX12_bad_5 rfl ?_
  refine e_aload_n qX12_bad_6 rfl ?_
  refine e_geti qX12_bad_7 fl_X12_148 shq_206 kdq_11_12 h (fun v2 h => ?_)
  refine e_puti qX12_bad_10 fp_X12_174 shq_206 kdq_11_16 h (fun s3 h => ?_)
  refine e_iconst (nI 0) qX12_bad_13 rfl ?_
  exact e_zret qX12_bad_14 rfl (by decide) (ret_i h)

def f_X12_isWord (x1 : Int64) (s0 : St) : Option (Int32) :=
  vl (s0.1 206 11) fun v1 =>
  jn (some (nI 0)) fun j2 =>
  if v1 = (nI 1) then
    vl (s0.2 206 17) fun v3 =>
    if (lg_cmp v3 x1) = 0 then
      some (nI 1)
    else
    j2
  else
  j2

theorem qX12_isWord_0 : Dc mX12_isWord 0 (.aload_n 0) 1 1 := ⟨by decide +kernel, rfl⟩
theorem qX12_isWord_1 : Dc mX12_isWord 1 (.getfield 154) 3 4 := ⟨by decide +kernel, rfl⟩
theorem qX12_isWord_4 : Dc mX12_isWord 4 (.iconst 1) 1 5 := ⟨by decide +kernel, rfl⟩
theorem qX12_isWord_5 : Dc mX12_isWord 5 (.if_icmp .ne 16) 3 8 := ⟨by decide +kernel, rfl⟩
theorem qX12_isWord_8 : Dc mX12_isWord 8 (.aload_n 0) 1 9 := ⟨by decide +kernel, rfl⟩
theorem qX12_isWord_9 : Dc mX12_isWord 9 (.getfield 167) 3 12 := ⟨by decide +kernel, rfl⟩
theorem qX12_isWord_12 : Dc mX12_isWord 12 (.lload_n 1) 1 13 := ⟨by decide +kernel, rfl⟩
theorem qX12_isWord_13 : Dc mX12_isWord 13 (.lcmp) 1 14 := ⟨by decide +kernel, rfl⟩
theorem qX12_isWord_14 : Dc mX12_isWord 14 (.ifCond .ne 7) 3 17 := ⟨by decide +kernel, rfl⟩
theorem qX12_isWord_17 : Dc mX12_isWord 17 (.iconst 1) 1 18 := ⟨by decide +kernel, rfl⟩
theorem qX12_isWord_18 : Dc mX12_isWord 18 (.goto 4) 3 21 := ⟨by decide +kernel, rfl⟩
theorem qX12_isWord_21 : Dc mX12_isWord 21 (.iconst 0) 1 22 := ⟨by decide +kernel, rfl⟩
theorem qX12_isWord_22 : Dc mX12_isWord 22 (.ireturn) 1 23 := ⟨by decide +kernel, rfl⟩

set_option maxRecDepth 20000 in
set_option maxHeartbeats 4000000 in
theorem w_X12_isWord {x1 : Int64} {s0 : St} {r : Int32} (h : f_X12_isWord x1 s0 = some r) : Ct mX12_isWord 0 [.ref 206, .long x1] s0 (some (.int r), s0) := by
  refine Ct.ofE (by decide +kernel) rfl ?_
  show E mX12_isWord 0 (some (.int r), s0) 0 [some (.ref 206), some (.long x1), none] [] s0
  unfold f_X12_isWord at h
  refine e_aload_n qX12_isWord_0 rfl ?_
  refine e_geti qX12_isWord_1 fl_X12_154 shq_206 kdq_11_11 h (fun v1 h => ?_)
  refine e_iconst (nI 1) qX12_isWord_4 rfl ?_
  refine jn_e (fun j => j = some r → E mX12_isWord 0 (some (.int r), s0) 21 [none, none, none] [] s0) h ?_ (fun j2 hj2 h => ?_)
  · intro h
    refine e_iconst (nI 0) qX12_isWord_21 rfl ?_
    exact e_zret qX12_isWord_22 rfl (by decide) (ret_p h)
  refine e_icmp_ne (tgt := 21) qX12_isWord_5 rfl h (fun _ h => ?_) (fun _ h => ?_)
  · refine e_aload_n qX12_isWord_8 rfl ?_
    refine e_getl qX12_isWord_9 fl_X12_167 shq_206 kdq_11_17 h (fun v3 h => ?_)
    refine e_lload_n qX12_isWord_12 rfl ?_
    refine e_lcmp qX12_isWord_13 ?_
    refine e_if_ne (tgt := 21) qX12_isWord_14 rfl h (fun _ h => ?_) (fun _ h => ?_)
    · refine e_iconst (nI 1) qX12_isWord_17 rfl ?_
      refine e_goto (tgt := 22) qX12_isWord_18 rfl ?_
      exact e_zret qX12_isWord_22 rfl (by decide) (ret_p h)
    exact e_weak (hj2 h) ⟨Or.inl rfl, Or.inl rfl, Or.inl rfl, trivial⟩
  exact e_weak (hj2 h) ⟨Or.inl rfl, Or.inl rfl, Or.inl rfl, trivial⟩

def f_X12_isSign (x1 : Int32) (s0 : St) : Option (Int32) :=
  vl (s0.1 206 11) fun v1 =>
  jn (some (nI 0)) fun j2 =>
  if v1 = (nI 3) then
    vl (s0.1 206 14) fun v3 =>
    if v3 = x1 then
      some (nI 1)
    else
    j2
  else
  j2

theorem qX12_isSign_0 : Dc mX12_isSign 0 (.aload_n 0) 1 1 := ⟨by decide +kernel, rfl⟩
theorem qX12_isSign_1 : Dc mX12_isSign 1 (.getfield 154) 3 4 := ⟨by decide +kernel, rfl⟩
theorem qX12_isSign_4 : Dc mX12_isSign 4 (.iconst 3) 1 5 := ⟨by decide +kernel, rfl⟩
theorem qX12_isSign_5 : Dc mX12_isSign 5 (.if_icmp .ne 15) 3 8 := ⟨by decide +kernel, rfl⟩
theorem qX12_isSign_8 : Dc mX12_isSign 8 (.aload_n 0) 1 9 := ⟨by decide +kernel, rfl⟩
theorem qX12_isSign_9 : Dc mX12_isSign 9 (.getfield 164) 3 12 := ⟨by decide +kernel, rfl⟩
theorem qX12_isSign_12 : Dc mX12_isSign 12 (.iload_n 1) 1 13 := ⟨by decide +kernel, rfl⟩
theorem qX12_isSign_13 : Dc mX12_isSign 13 (.if_icmp .ne 7) 3 16 := ⟨by decide +kernel, rfl⟩
theorem qX12_isSign_16 : Dc mX12_isSign 16 (.iconst 1) 1 17 := ⟨by decide +kernel, rfl⟩
theorem qX12_isSign_17 : Dc mX12_isSign 17 (.goto 4) 3 20 := ⟨by decide +kernel, rfl⟩
theorem qX12_isSign_20 : Dc mX12_isSign 20 (.iconst 0) 1 21 := ⟨by decide +kernel, rfl⟩
theorem qX12_isSign_21 : Dc mX12_isSign 21 (.ireturn) 1 22 := ⟨by decide +kernel, rfl⟩

set_option maxRecDepth 20000 in
set_option maxHeartbeats 4000000 in
theorem w_X12_isSign {x1 : Int32} {s0 : St} {r : Int32} (h : f_X12_isSign x1 s0 = some r) : Ct mX12_isSign 0 [.ref 206, .int x1] s0 (some (.int r), s0) := by
  refine Ct.ofE (by decide +kernel) rfl ?_
  show E mX12_isSign 0 (some (.int r), s0) 0 [some (.ref 206), some (.int x1)] [] s0
  unfold f_X12_isSign at h
  refine e_aload_n qX12_isSign_0 rfl ?_
  refine e_geti qX12_isSign_1 fl_X12_154 shq_206 kdq_11_11 h (fun v1 h => ?_)
  refine e_iconst (nI 3) qX12_isSign_4 rfl ?_
  refine jn_e (fun j => j = some r → E mX12_isSign 0 (some (.int r), s0) 20 [none, none] [] s0) h ?_ (fun j2 hj2 h => ?_)
  · intro h
    refine e_iconst (nI 0) qX12_isSign_20 rfl ?_
    exact e_zret qX12_isSign_21 rfl (by decide) (ret_p h)
  refine e_icmp_ne (tgt := 20) qX12_isSign_5 rfl h (fun _ h => ?_) (fun _ h => ?_)
  · refine e_aload_n qX12_isSign_8 rfl ?_
    refine e_geti qX12_isSign_9 fl_X12_164 shq_206 kdq_11_14 h (fun v3 h => ?_)
    refine e_iload_n qX12_isSign_12 rfl ?_
    refine e_icmp_ne (tgt := 20) qX12_isSign_13 rfl h (fun _ h => ?_) (fun _ h => ?_)
    · refine e_iconst (nI 1) qX12_isSign_16 rfl ?_
      refine e_goto (tgt := 21) qX12_isSign_17 rfl ?_
      exact e_zret qX12_isSign_21 rfl (by decide) (ret_p h)
    exact e_weak (hj2 h) ⟨Or.inl rfl, Or.inl rfl, trivial⟩
  exact e_weak (hj2 h) ⟨Or.inl rfl, Or.inl rfl, trivial⟩

def f_X12_sign (N : Nat) (x1 : Int32) (s0 : St) : Option (Int32 × St) :=
  bp (f_X12_isSign x1 s0) fun v1 =>
  if v1 = 0 then
    bd (f_X12_bad (nI 1) s0) fun v2 s3 =>
    rz v2 <|
    some (v2, s3)
  else
  bp (f_X12_next N s0) fun s4 =>
  some ((nI 1), s4)

theorem qX12_sign_0 : Dc mX12_sign 0 (.aload_n 0) 1 1 := ⟨by decide +kernel, rfl⟩
theorem qX12_sign_1 : Dc mX12_sign 1 (.iload_n 1) 1 2 := ⟨by decide +kernel, rfl⟩
theorem qX12_sign_2 : Dc mX12_sign 2 (.invokevirtual 177) 3 5 := ⟨by decide +kernel, rfl⟩
theorem qX12_sign_5 : Dc mX12_sign 5 (.ifCond .ne 9) 3 8 := ⟨by decide +kernel, rfl⟩
theorem qX12_sign_8 : Dc mX12_sign 8 (.aload_n 0) 1 9 := ⟨by decide +kernel, rfl⟩
theorem qX12_sign_9 : Dc mX12_sign 9 (.iconst 1) 1 10 := ⟨by decide +kernel, rfl⟩
theorem qX12_sign_10 : Dc mX12_sign 10 (.invokevirtual 180) 3 13 := ⟨by decide +kernel, rfl⟩
theorem qX12_sign_13 : Dc mX12_sign 13 (.ireturn) 1 14 := ⟨by decide +kernel, rfl⟩
theorem qX12_sign_14 : Dc mX12_sign 14 (.aload_n 0) 1 15 := ⟨by decide +kernel, rfl⟩
theorem qX12_sign_15 : Dc mX12_sign 15 (.invokevirtual 183) 3 18 := ⟨by decide +kernel, rfl⟩
theorem qX12_sign_18 : Dc mX12_sign 18 (.iconst 1) 1 19 := ⟨by decide +kernel, rfl⟩
theorem qX12_sign_19 : Dc mX12_sign 19 (.ireturn) 1 20 := ⟨by decide +kernel, rfl⟩

set_option maxRecDepth 20000 in
set_option maxHeartbeats 4000000 in
theorem w_X12_sign {N : Nat} {x1 : Int32} {s0 : St} {r : Int32} {sr : St} (h : f_X12_sign N x1 s0 = some (r, sr)) : Ct mX12_sign 2 [.ref 206, .int x1] s0 (some (.int r), sr) := by
  refine Ct.ofE (by decide +kernel) rfl ?_
  show E mX12_sign 2 (some (.int r), sr) 0 [some (.ref 206), some (.int x1)] [] s0
  unfold f_X12_sign at h
  refine e_aload_n qX12_sign_0 rfl ?_
  refine e_iload_n qX12_sign_1 rfl ?_
  obtain ⟨v1, hc, h⟩ := bp_e h
  refine e_cVi1 qX12_sign_2 mv_X12_177 shq_206 rfl rfl (w_X12_isSign hc) ?_
  refine e_if_ne (tgt := 14) qX12_sign_5 rfl h (fun _ h => ?_) (fun _ h => ?_)
  · refine e_aload_n qX12_sign_8 rfl ?_
    refine e_iconst (nI 1) qX12_sign_9 rfl ?_
    obtain ⟨v2, s3, hc, h⟩ := bd_e h
    refine e_cVi1 qX12_sign_10 mv_X12_180 shq_206 rfl rfl (w_X12_bad hc) ?_
    refine rz_e h (fun hz h => ?_)
    exact e_zret qX12_sign_13 rfl hz (ret_i h)
  refine e_aload_n qX12_sign_14 rfl ?_
  obtain ⟨s4, hc, h⟩ := bp_e h
  refine e_cVv0 qX12_sign_15 mv_X12_183 shq_206 rfl rfl (w_X12_next hc) ?_
  refine e_iconst (nI 1) qX12_sign_18 rfl ?_
  exact e_zret qX12_sign_19 rfl (by decide) (ret_i h)

def f_X12_isName_L16 (N : Nat) (s0 : St) : Nat → Int32 → Int32 → Option (Int32)
  | 0, _, _ => none
  | n6 + 1, v4, v5 =>
    if (nI 27) ≤ v5 then
      rz v4 <|
      some v4
    else
    jn (fun (v8 : Int32) =>
      vl (v5 + (nI 1)) fun v10 =>
      f_X12_isName_L16 N s0 n6 v8 v10) fun j9 =>
    jn (j9 (nI 0)) fun j11 =>
    if v4 = 0 then
      j11
    else
    vl (s0.2 206 17) fun v12 =>
    ald (s0.2 212) 27 v5 fun v13 =>
    if (lg_cmp v12 v13) = 0 then
      j11
    else
    j9 (nI 1)

def f_X12_isName (N : Nat)  (s0 : St) : Option (Int32) :=
  vl (s0.1 206 11) fun v1 =>
  jn (fun (v2 : Int32) =>
    f_X12_isName_L16 N s0 N v2 (nI 0)) fun j3 =>
  if v1 = (nI 1) then
    j3 (nI 1)
  else
  j3 (nI 0)

theorem qX12_isName_0 : Dc mX12_isName 0 (.aload_n 0) 1 1 := ⟨by decide +kernel, rfl⟩
theorem qX12_isName_1 : Dc mX12_isName 1 (.getfield 154) 3 4 := ⟨by decide +kernel, rfl⟩
theorem qX12_isName_4 : Dc mX12_isName 4 (.iconst 1) 1 5 := ⟨by decide +kernel, rfl⟩
theorem qX12_isName_5 : Dc mX12_isName 5 (.if_icmp .ne 7) 3 8 := ⟨by decide +kernel, rfl⟩
theorem qX12_isName_8 : Dc mX12_isName 8 (.iconst 1) 1 9 := ⟨by decide +kernel, rfl⟩
theorem qX12_isName_9 : Dc mX12_isName 9 (.goto 4) 3 12 := ⟨by decide +kernel, rfl⟩
theorem qX12_isName_12 : Dc mX12_isName 12 (.iconst 0) 1 13 := ⟨by decide +kernel, rfl⟩
theorem qX12_isName_13 : Dc mX12_isName 13 (.istore_n 1) 1 14 := ⟨by decide +kernel, rfl⟩
theorem qX12_isName_14 : Dc mX12_isName 14 (.iconst 0) 1 15 := ⟨by decide +kernel, rfl⟩
theorem qX12_isName_15 : Dc mX12_isName 15 (.istore_n 2) 1 16 := ⟨by decide +kernel, rfl⟩
theorem qX12_isName_16 : Dc mX12_isName 16 (.iload_n 2) 1 17 := ⟨by decide +kernel, rfl⟩
theorem qX12_isName_17 : Dc mX12_isName 17 (.bipush 27) 2 19 := ⟨by decide +kernel, rfl⟩
theorem qX12_isName_19 : Dc mX12_isName 19 (.if_icmp .ge 33) 3 22 := ⟨by decide +kernel, rfl⟩
theorem qX12_isName_22 : Dc mX12_isName 22 (.iload_n 1) 1 23 := ⟨by decide +kernel, rfl⟩
theorem qX12_isName_23 : Dc mX12_isName 23 (.ifCond .eq 21) 3 26 := ⟨by decide +kernel, rfl⟩
theorem qX12_isName_26 : Dc mX12_isName 26 (.aload_n 0) 1 27 := ⟨by decide +kernel, rfl⟩
theorem qX12_isName_27 : Dc mX12_isName 27 (.getfield 167) 3 30 := ⟨by decide +kernel, rfl⟩
theorem qX12_isName_30 : Dc mX12_isName 30 (.aload_n 0) 1 31 := ⟨by decide +kernel, rfl⟩
theorem qX12_isName_31 : Dc mX12_isName 31 (.getfield 47) 3 34 := ⟨by decide +kernel, rfl⟩
theorem qX12_isName_34 : Dc mX12_isName 34 (.iload_n 2) 1 35 := ⟨by decide +kernel, rfl⟩
theorem qX12_isName_35 : Dc mX12_isName 35 (.laload) 1 36 := ⟨by decide +kernel, rfl⟩
theorem qX12_isName_36 : Dc mX12_isName 36 (.lcmp) 1 37 := ⟨by decide +kernel, rfl⟩
theorem qX12_isName_37 : Dc mX12_isName 37 (.ifCond .eq 7) 3 40 := ⟨by decide +kernel, rfl⟩
theorem qX12_isName_40 : Dc mX12_isName 40 (.iconst 1) 1 41 := ⟨by decide +kernel, rfl⟩
theorem qX12_isName_41 : Dc mX12_isName 41 (.goto 4) 3 44 := ⟨by decide +kernel, rfl⟩
theorem qX12_isName_44 : Dc mX12_isName 44 (.iconst 0) 1 45 := ⟨by decide +kernel, rfl⟩
theorem qX12_isName_45 : Dc mX12_isName 45 (.istore_n 1) 1 46 := ⟨by decide +kernel, rfl⟩
theorem qX12_isName_46 : Dc mX12_isName 46 (.iinc 2 1) 3 49 := ⟨by decide +kernel, rfl⟩
theorem qX12_isName_49 : Dc mX12_isName 49 (.goto (-33)) 3 52 := ⟨by decide +kernel, rfl⟩
theorem qX12_isName_52 : Dc mX12_isName 52 (.iload_n 1) 1 53 := ⟨by decide +kernel, rfl⟩
theorem qX12_isName_53 : Dc mX12_isName 53 (.ireturn) 1 54 := ⟨by decide +kernel, rfl⟩

set_option maxRecDepth 20000 in
set_option maxHeartbeats 4000000 in
theorem w_X12_isName_L16 {N : Nat}  {s0 : St}  {r : Int32}   : ∀ (n6 : Nat) (v4 : Int32) (v5 : Int32), f_X12_isName_L16 N s0 n6 v4 v5 = some r → E mX12_isName 0 (some (.int r), s0) 16 [some (.ref 206), some (.int v4), some (.int v5)] [] s0 := by
  intro n6
  induction n6 with
  | zero =>
    intro v4 v5 h
    rw [f_X12_isName_L16] at h; cases h
  | succ n6 ih7 =>
    intro v4 v5 h
    rw [f_X12_isName_L16] at h
    refine e_iload_n qX12_isName_16 rfl ?_
    refine e_bipush (nI 27) qX12_isName_17 rfl ?_
    refine e_icmp_ge (tgt := 52) qX12_isName_19 rfl h (fun _ h => ?_) (fun _ h => ?_)
    · refine e_iload_n qX12_isName_52 rfl ?_
      refine rz_e h (fun hz h => ?_)
      exact e_zret qX12_isName_53 rfl hz (ret_p h)
    refine e_iload_n qX12_isName_22 rfl ?_
    refine jn_e (fun j => ∀ (v8 : Int32), j v8 = some r → E mX12_isName 0 (some (.int r), s0) 45 [some (.ref 206), none, some (.int v5)] [.int v8] s0) h ?_ (fun j9 hj9 h => ?_)
    · intro v8 h
      refine e_istore_n (lv2 := [some (.ref 206), some (.int v8), some (.int v5)]) qX12_isName_45 rfl rfl rfl ?_
      refine vl_e h (fun h => ?_)
      obtain ⟨v10, ev10⟩ : ∃ y, v5 + (nI 1) = y := ⟨_, rfl⟩
      rw [ev10] at h
      refine e_iinc (nI 1) v10 (lv2 := [some (.ref 206), some (.int v8), some (.int v10)]) qX12_isName_46 rfl rfl rfl ev10 rfl ?_
      refine e_goto (tgt := 16) qX12_isName_49 rfl ?_
      exact e_weak (ih7 _ _ h) ⟨Or.inr rfl, Or.inr rfl, Or.inr rfl, trivial⟩
    refine jn_e (fun j => j = some r → E mX12_isName 0 (some (.int r), s0) 44 [some (.ref 206), none, some (.int v5)] [] s0) h ?_ (fun j11 hj11 h => ?_)
    · intro h
      refine e_iconst (nI 0) qX12_isName_44 rfl ?_
      exact e_weak (hj9 _ h) ⟨Or.inr rfl, Or.inl rfl, Or.inr rfl, trivial⟩
    refine e_if_eq (tgt := 44) qX12_isName_23 rfl h (fun _ h => ?_) (fun _ h => ?_)
    · exact e_weak (hj11 h) ⟨Or.inr rfl, Or.inl rfl, Or.inr rfl, trivial⟩
    refine e_aload_n qX12_isName_26 rfl ?_
    refine e_getl qX12_isName_27 fl_X12_167 shq_206 kdq_11_17 h (fun v12 h => ?_)
    refine e_aload_n qX12_isName_30 rfl ?_
    refine e_getr 212 qX12_isName_31 fl_X12_47 shq_206 kdq_11_10 rrq_206_10 ?_
    refine e_iload_n qX12_isName_34 rfl ?_
    refine e_lald qX12_isName_35 shq_212 lnq_212 h (fun v13 h => ?_)
    refine e_lcmp qX12_isName_36 ?_
    refine e_if_eq (tgt := 44) qX12_isName_37 rfl h (fun _ h => ?_) (fun _ h => ?_)
    · exact e_weak (hj11 h) ⟨Or.inr rfl, Or.inl rfl, Or.inr rfl, trivial⟩
    refine e_iconst (nI 1) qX12_isName_40 rfl ?_
    refine e_goto (tgt := 45) qX12_isName_41 rfl ?_
    exact e_weak (hj9 _ h) ⟨Or.inr rfl, Or.inl rfl, Or.inr rfl, trivial⟩

set_option maxRecDepth 20000 in
set_option maxHeartbeats 4000000 in
theorem w_X12_isName {N : Nat}  {s0 : St} {r : Int32} (h : f_X12_isName N  s0 = some r) : Ct mX12_isName 0 [.ref 206] s0 (some (.int r), s0) := by
  refine Ct.ofE (by decide +kernel) rfl ?_
  show E mX12_isName 0 (some (.int r), s0) 0 [some (.ref 206), none, none] [] s0
  unfold f_X12_isName at h
  refine e_aload_n qX12_isName_0 rfl ?_
  refine e_geti qX12_isName_1 fl_X12_154 shq_206 kdq_11_11 h (fun v1 h => ?_)
  refine e_iconst (nI 1) qX12_isName_4 rfl ?_
  refine jn_e (fun j => ∀ (v2 : Int32), j v2 = some r → E mX12_isName 0 (some (.int r), s0) 13 [some (.ref 206), none, none] [.int v2] s0) h ?_ (fun j3 hj3 h => ?_)
  · intro v2 h
    refine e_istore_n (lv2 := [some (.ref 206), some (.int v2), none]) qX12_isName_13 rfl rfl rfl ?_
    refine e_iconst (nI 0) qX12_isName_14 rfl ?_
    refine e_istore_n (lv2 := [some (.ref 206), some (.int v2), some (.int (nI 0))]) qX12_isName_15 rfl rfl rfl ?_
    exact e_weak (w_X12_isName_L16  _ _ _ h) ⟨Or.inr rfl, Or.inr rfl, Or.inr rfl, trivial⟩
  refine e_icmp_ne (tgt := 12) qX12_isName_5 rfl h (fun _ h => ?_) (fun _ h => ?_)
  · refine e_iconst (nI 1) qX12_isName_8 rfl ?_
    refine e_goto (tgt := 13) qX12_isName_9 rfl ?_
    exact e_weak (hj3 _ h) ⟨Or.inr rfl, Or.inl rfl, Or.inl rfl, trivial⟩
  refine e_iconst (nI 0) qX12_isName_12 rfl ?_
  exact e_weak (hj3 _ h) ⟨Or.inr rfl, Or.inl rfl, Or.inl rfl, trivial⟩

def f_X12_takes (N : Nat) (x1 : Int32) (x2 : Int32) (s0 : St) : Option (Int32 × St) :=
  vl (s0.1 206 11) fun v1 =>
  if v1 = (nI 2) then
    vl (s0.1 206 14) fun v2 =>
    bp (f_X12_isIn v2 x1 x2 s0) fun v3 =>
    if v3 = 0 then
      bd (f_X12_bad (nI 2) s0) fun v4 s5 =>
      rz v4 <|
      some (v4, s5)
    else
    vl (s0.1 206 14) fun v6 =>
    vl (sI s0 206 18 v6) fun s7 =>
    bp (f_X12_next N s7) fun s8 =>
    some ((nI 1), s8)
  else
  bd (f_X12_bad (nI 1) s0) fun v9 s10 =>
  rz v9 <|
  some (v9, s10)

theorem qX12_takes_0 : Dc mX12_takes 0 (.aload_n 0) 1 1 := ⟨by decide +kernel, rfl⟩
theorem qX12_takes_1 : Dc mX12_takes 1 (.getfield 154) 3 4 := ⟨by decide +kernel, rfl⟩
theorem qX12_takes_4 : Dc mX12_takes 4 (.iconst 2) 1 5 := ⟨by decide +kernel, rfl⟩
theorem qX12_takes_5 : Dc mX12_takes 5 (.if_icmp .eq 9) 3 8 := ⟨by decide +kernel, rfl⟩
theorem qX12_takes_8 : Dc mX12_takes 8 (.aload_n 0) 1 9 := ⟨by decide +kernel, rfl⟩
theorem qX12_takes_9 : Dc mX12_takes 9 (.iconst 1) 1 10 := ⟨by decide +kernel, rfl⟩
theorem qX12_takes_10 : Dc mX12_takes 10 (.invokevirtual 180) 3 13 := ⟨by decide +kernel, rfl⟩
theorem qX12_takes_13 : Dc mX12_takes 13 (.ireturn) 1 14 := ⟨by decide +kernel, rfl⟩
theorem qX12_takes_14 : Dc mX12_takes 14 (.aload_n 0) 1 15 := ⟨by decide +kernel, rfl⟩
theorem qX12_takes_15 : Dc mX12_takes 15 (.getfield 164) 3 18 := ⟨by decide +kernel, rfl⟩
theorem qX12_takes_18 : Dc mX12_takes 18 (.iload_n 1) 1 19 := ⟨by decide +kernel, rfl⟩
theorem qX12_takes_19 : Dc mX12_takes 19 (.iload_n 2) 1 20 := ⟨by decide +kernel, rfl⟩
theorem qX12_takes_20 : Dc mX12_takes 20 (.invokestatic 186) 3 23 := ⟨by decide +kernel, rfl⟩
theorem qX12_takes_23 : Dc mX12_takes 23 (.ifCond .ne 9) 3 26 := ⟨by decide +kernel, rfl⟩
theorem qX12_takes_26 : Dc mX12_takes 26 (.aload_n 0) 1 27 := ⟨by decide +kernel, rfl⟩
theorem qX12_takes_27 : Dc mX12_takes 27 (.iconst 2) 1 28 := ⟨by decide +kernel, rfl⟩
theorem qX12_takes_28 : Dc mX12_takes 28 (.invokevirtual 180) 3 31 := ⟨by decide +kernel, rfl⟩
theorem qX12_takes_31 : Dc mX12_takes 31 (.ireturn) 1 32 := ⟨by decide +kernel, rfl⟩
theorem qX12_takes_32 : Dc mX12_takes 32 (.aload_n 0) 1 33 := ⟨by decide +kernel, rfl⟩
theorem qX12_takes_33 : Dc mX12_takes 33 (.aload_n 0) 1 34 := ⟨by decide +kernel, rfl⟩
theorem qX12_takes_34 : Dc mX12_takes 34 (.getfield 164) 3 37 := ⟨by decide +kernel, rfl⟩
theorem qX12_takes_37 : Dc mX12_takes 37 (.putfield 190) 3 40 := ⟨by decide +kernel, rfl⟩
theorem qX12_takes_40 : Dc mX12_takes 40 (.aload_n 0) 1 41 := ⟨by decide +kernel, rfl⟩
theorem qX12_takes_41 : Dc mX12_takes 41 (.invokevirtual 183) 3 44 := ⟨by decide +kernel, rfl⟩
theorem qX12_takes_44 : Dc mX12_takes 44 (.iconst 1) 1 45 := ⟨by decide +kernel, rfl⟩
theorem qX12_takes_45 : Dc mX12_takes 45 (.ireturn) 1 46 := ⟨by decide +kernel, rfl⟩

set_option maxRecDepth 20000 in
set_option maxHeartbeats 4000000 in
theorem w_X12_takes {N : Nat} {x1 : Int32} {x2 : Int32} {s0 : St} {r : Int32} {sr : St} (h : f_X12_takes N x1 x2 s0 = some (r, sr)) : Ct mX12_takes 2 [.ref 206, .int x1, .int x2] s0 (some (.int r), sr) := by
  refine Ct.ofE (by decide +kernel) rfl ?_
  show E mX12_takes 2 (some (.int r), sr) 0 [some (.ref 206), some (.int x1), some (.int x2)] [] s0
  unfold f_X12_takes at h
  refine e_aload_n qX12_takes_0 rfl ?_
  refine e_geti qX12_takes_1 fl_X12_154 shq_206 kdq_11_11 h (fun v1 h => ?_)
  refine e_iconst (nI 2) qX12_takes_4 rfl ?_
  refine e_icmp_eq (tgt := 14) qX12_takes_5 rfl h (fun _ h => ?_) (fun _ h => ?_)
  · refine e_aload_n qX12_takes_14 rfl ?_
    refine e_geti qX12_takes_15 fl_X12_164 shq_206 kdq_11_14 h (fun v2 h => ?_)
    refine e_iload_n qX12_takes_18 rfl ?_
    refine e_iload_n qX12_takes_19 rfl ?_
    obtain ⟨v3, hc, h⟩ := bp_e h
    refine e_cSi3 qX12_takes_20 ms_X12_186 rfl rfl (w_X12_isIn hc) ?_
    refine e_if_ne (tgt := 32) qX12_takes_23 rfl h (fun _ h => ?_) (fun _ h => ?_)
    · refine e_aload_n qX12_takes_26 rfl ?_
      refine e_iconst (nI 2) qX12_takes_27 rfl ?_
      obtain ⟨v4, s5, hc, h⟩ := bd_e h
      refine e_cVi1 qX12_takes_28 mv_X12_180 shq_206 rfl rfl (w_X12_bad hc) ?_
      refine rz_e h (fun hz h => ?_)
      exact e_zret qX12_takes_31 rfl hz (ret_i h)
    refine e_aload_n qX12_takes_32 rfl ?_
    refine e_aload_n qX12_takes_33 rfl ?_
    refine e_geti qX12_takes_34 fl_X12_164 shq_206 kdq_11_14 h (fun v6 h => ?_)
    refine e_puti qX12_takes_37 fp_X12_190 shq_206 kdq_11_18 h (fun s7 h => ?_)
    refine e_aload_n qX12_takes_40 rfl ?_
    obtain ⟨s8, hc, h⟩ := bp_e h
    refine e_cVv0 qX12_takes_41 mv_X12_183 shq_206 rfl rfl (w_X12_next hc) ?_
    refine e_iconst (nI 1) qX12_takes_44 rfl ?_
    exact e_zret qX12_takes_45 rfl (by decide) (ret_i h)
  refine e_aload_n qX12_takes_8 rfl ?_
  refine e_iconst (nI 1) qX12_takes_9 rfl ?_
  obtain ⟨v9, s10, hc, h⟩ := bd_e h
  refine e_cVi1 qX12_takes_10 mv_X12_180 shq_206 rfl rfl (w_X12_bad hc) ?_
  refine rz_e h (fun hz h => ?_)
  exact e_zret qX12_takes_13 rfl hz (ret_i h)

def f_X12_puts (N : Nat) (x1 : Int32) (x2 : Int32) (x3 : Int32) (s0 : St) : Option (Int32 × St) :=
  bd (f_X12_takes N x2 x3 s0) fun v1 s2 =>
  if v1 = 0 then
    some ((nI 0), s2)
  else
  vl (s2.1 206 18) fun v3 =>
  ald (fun j => sI s2 209 j v3) 147 x1 fun s4 =>
  some ((nI 1), s4)

theorem qX12_puts_0 : Dc mX12_puts 0 (.aload_n 0) 1 1 := ⟨by decide +kernel, rfl⟩
theorem qX12_puts_1 : Dc mX12_puts 1 (.iload_n 2) 1 2 := ⟨by decide +kernel, rfl⟩
theorem qX12_puts_2 : Dc mX12_puts 2 (.iload_n 3) 1 3 := ⟨by decide +kernel, rfl⟩
theorem qX12_puts_3 : Dc mX12_puts 3 (.invokevirtual 193) 3 6 := ⟨by decide +kernel, rfl⟩
theorem qX12_puts_6 : Dc mX12_puts 6 (.ifCond .ne 5) 3 9 := ⟨by decide +kernel, rfl⟩
theorem qX12_puts_9 : Dc mX12_puts 9 (.iconst 0) 1 10 := ⟨by decide +kernel, rfl⟩
theorem qX12_puts_10 : Dc mX12_puts 10 (.ireturn) 1 11 := ⟨by decide +kernel, rfl⟩
theorem qX12_puts_11 : Dc mX12_puts 11 (.aload_n 0) 1 12 := ⟨by decide +kernel, rfl⟩
theorem qX12_puts_12 : Dc mX12_puts 12 (.getfield 37) 3 15 := ⟨by decide +kernel, rfl⟩
theorem qX12_puts_15 : Dc mX12_puts 15 (.iload_n 1) 1 16 := ⟨by decide +kernel, rfl⟩
theorem qX12_puts_16 : Dc mX12_puts 16 (.aload_n 0) 1 17 := ⟨by decide +kernel, rfl⟩
theorem qX12_puts_17 : Dc mX12_puts 17 (.getfield 190) 3 20 := ⟨by decide +kernel, rfl⟩
theorem qX12_puts_20 : Dc mX12_puts 20 (.iastore) 1 21 := ⟨by decide +kernel, rfl⟩
theorem qX12_puts_21 : Dc mX12_puts 21 (.iconst 1) 1 22 := ⟨by decide +kernel, rfl⟩
theorem qX12_puts_22 : Dc mX12_puts 22 (.ireturn) 1 23 := ⟨by decide +kernel, rfl⟩

set_option maxRecDepth 20000 in
set_option maxHeartbeats 4000000 in
theorem w_X12_puts {N : Nat} {x1 : Int32} {x2 : Int32} {x3 : Int32} {s0 : St} {r : Int32} {sr : St} (h : f_X12_puts N x1 x2 x3 s0 = some (r, sr)) : Ct mX12_puts 3 [.ref 206, .int x1, .int x2, .int x3] s0 (some (.int r), sr) := by
  refine Ct.ofE (by decide +kernel) rfl ?_
  show E mX12_puts 3 (some (.int r), sr) 0 [some (.ref 206), some (.int x1), some (.int x2), some (.int x3)] [] s0
  unfold f_X12_puts at h
  refine e_aload_n qX12_puts_0 rfl ?_
  refine e_iload_n qX12_puts_1 rfl ?_
  refine e_iload_n qX12_puts_2 rfl ?_
  obtain ⟨v1, s2, hc, h⟩ := bd_e h
  refine e_cVi2 qX12_puts_3 mv_X12_193 shq_206 rfl rfl (w_X12_takes hc) ?_
  refine e_if_ne (tgt := 11) qX12_puts_6 rfl h (fun _ h => ?_) (fun _ h => ?_)
  · refine e_iconst (nI 0) qX12_puts_9 rfl ?_
    exact e_zret qX12_puts_10 rfl (by decide) (ret_i h)
  refine e_aload_n qX12_puts_11 rfl ?_
  refine e_getr 209 qX12_puts_12 fl_X12_37 shq_206 kdq_11_7 rrq_206_7 ?_
  refine e_iload_n qX12_puts_15 rfl ?_
  refine e_aload_n qX12_puts_16 rfl ?_
  refine e_geti qX12_puts_17 fl_X12_190 shq_206 kdq_11_18 h (fun v3 h => ?_)
  refine e_iast qX12_puts_20 shq_209 lnq_209 h (fun s4 h => ?_)
  refine e_iconst (nI 1) qX12_puts_21 rfl ?_
  exact e_zret qX12_puts_22 rfl (by decide) (ret_i h)

def f_X12_seek_L2 (N : Nat) (c1 : Int32) (c2 : Int32) (s0 : St) : Nat → Int32 → Option (Int32)
  | 0, _ => none
  | n4 + 1, v3 =>
    if c2 ≤ v3 then
      some (-1)
    else
    ald (s0.2 211) 24 (c1 + v3) fun v6 =>
    vl (s0.2 206 17) fun v7 =>
    if (lg_cmp v6 v7) = 0 then
      some v3
    else
    vl (v3 + (nI 1)) fun v8 =>
    f_X12_seek_L2 N c1 c2 s0 n4 v8

def f_X12_seek (N : Nat) (x1 : Int32) (x2 : Int32) (s0 : St) : Option (Int32) :=
  f_X12_seek_L2 N x1 x2 s0 N (nI 0)

theorem qX12_seek_0 : Dc mX12_seek 0 (.iconst 0) 1 1 := ⟨by decide +kernel, rfl⟩
theorem qX12_seek_1 : Dc mX12_seek 1 (.istore_n 3) 1 2 := ⟨by decide +kernel, rfl⟩
theorem qX12_seek_2 : Dc mX12_seek 2 (.iload_n 3) 1 3 := ⟨by decide +kernel, rfl⟩
theorem qX12_seek_3 : Dc mX12_seek 3 (.iload_n 2) 1 4 := ⟨by decide +kernel, rfl⟩
theorem qX12_seek_4 : Dc mX12_seek 4 (.if_icmp .ge 27) 3 7 := ⟨by decide +kernel, rfl⟩
theorem qX12_seek_7 : Dc mX12_seek 7 (.aload_n 0) 1 8 := ⟨by decide +kernel, rfl⟩
theorem qX12_seek_8 : Dc mX12_seek 8 (.getfield 43) 3 11 := ⟨by decide +kernel, rfl⟩
theorem qX12_seek_11 : Dc mX12_seek 11 (.iload_n 1) 1 12 := ⟨by decide +kernel, rfl⟩
theorem qX12_seek_12 : Dc mX12_seek 12 (.iload_n 3) 1 13 := ⟨by decide +kernel, rfl⟩
theorem qX12_seek_13 : Dc mX12_seek 13 (.iadd) 1 14 := ⟨by decide +kernel, rfl⟩
theorem qX12_seek_14 : Dc mX12_seek 14 (.laload) 1 15 := ⟨by decide +kernel, rfl⟩
theorem qX12_seek_15 : Dc mX12_seek 15 (.aload_n 0) 1 16 := ⟨by decide +kernel, rfl⟩
theorem qX12_seek_16 : Dc mX12_seek 16 (.getfield 167) 3 19 := ⟨by decide +kernel, rfl⟩
theorem qX12_seek_19 : Dc mX12_seek 19 (.lcmp) 1 20 := ⟨by decide +kernel, rfl⟩
theorem qX12_seek_20 : Dc mX12_seek 20 (.ifCond .ne 5) 3 23 := ⟨by decide +kernel, rfl⟩
theorem qX12_seek_23 : Dc mX12_seek 23 (.iload_n 3) 1 24 := ⟨by decide +kernel, rfl⟩
theorem qX12_seek_24 : Dc mX12_seek 24 (.ireturn) 1 25 := ⟨by decide +kernel, rfl⟩
theorem qX12_seek_25 : Dc mX12_seek 25 (.iinc 3 1) 3 28 := ⟨by decide +kernel, rfl⟩
theorem qX12_seek_28 : Dc mX12_seek 28 (.goto (-26)) 3 31 := ⟨by decide +kernel, rfl⟩
theorem qX12_seek_31 : Dc mX12_seek 31 (.iconst (-1)) 1 32 := ⟨by decide +kernel, rfl⟩
theorem qX12_seek_32 : Dc mX12_seek 32 (.ireturn) 1 33 := ⟨by decide +kernel, rfl⟩

set_option maxRecDepth 20000 in
set_option maxHeartbeats 4000000 in
theorem w_X12_seek_L2 {N : Nat} {c1 : Int32} {c2 : Int32} {s0 : St}  {r : Int32}   : ∀ (n4 : Nat) (v3 : Int32), f_X12_seek_L2 N c1 c2 s0 n4 v3 = some r → E mX12_seek 0 (some (.int r), s0) 2 [some (.ref 206), some (.int c1), some (.int c2), some (.int v3)] [] s0 := by
  intro n4
  induction n4 with
  | zero =>
    intro v3 h
    rw [f_X12_seek_L2] at h; cases h
  | succ n4 ih5 =>
    intro v3 h
    rw [f_X12_seek_L2] at h
    refine e_iload_n qX12_seek_2 rfl ?_
    refine e_iload_n qX12_seek_3 rfl ?_
    refine e_icmp_ge (tgt := 31) qX12_seek_4 rfl h (fun _ h => ?_) (fun _ h => ?_)
    · refine e_iconst (-1) qX12_seek_31 rfl ?_
      exact e_iret qX12_seek_32 rfl (ret_p h)
    refine e_aload_n qX12_seek_7 rfl ?_
    refine e_getr 211 qX12_seek_8 fl_X12_43 shq_206 kdq_11_9 rrq_206_9 ?_
    refine e_iload_n qX12_seek_11 rfl ?_
    refine e_iload_n qX12_seek_12 rfl ?_
    refine e_iadd qX12_seek_13 ?_
    refine e_lald qX12_seek_14 shq_211 lnq_211 h (fun v6 h => ?_)
    refine e_aload_n qX12_seek_15 rfl ?_
    refine e_getl qX12_seek_16 fl_X12_167 shq_206 kdq_11_17 h (fun v7 h => ?_)
    refine e_lcmp qX12_seek_19 ?_
    refine e_if_ne (tgt := 25) qX12_seek_20 rfl h (fun _ h => ?_) (fun _ h => ?_)
    · refine e_iload_n qX12_seek_23 rfl ?_
      exact e_iret qX12_seek_24 rfl (ret_p h)
    refine vl_e h (fun h => ?_)
    obtain ⟨v8, ev8⟩ : ∃ y, v3 + (nI 1) = y := ⟨_, rfl⟩
    rw [ev8] at h
    refine e_iinc (nI 1) v8 (lv2 := [some (.ref 206), some (.int c1), some (.int c2), some (.int v8)]) qX12_seek_25 rfl rfl rfl ev8 rfl ?_
    refine e_goto (tgt := 2) qX12_seek_28 rfl ?_
    exact e_weak (ih5 _ h) ⟨Or.inr rfl, Or.inr rfl, Or.inr rfl, Or.inr rfl, trivial⟩

set_option maxRecDepth 20000 in
set_option maxHeartbeats 4000000 in
theorem w_X12_seek {N : Nat} {x1 : Int32} {x2 : Int32} {s0 : St} {r : Int32} (h : f_X12_seek N x1 x2 s0 = some r) : Ct mX12_seek 0 [.ref 206, .int x1, .int x2] s0 (some (.int r), s0) := by
  refine Ct.ofE (by decide +kernel) rfl ?_
  show E mX12_seek 0 (some (.int r), s0) 0 [some (.ref 206), some (.int x1), some (.int x2), none] [] s0
  unfold f_X12_seek at h
  refine e_iconst (nI 0) qX12_seek_0 rfl ?_
  refine e_istore_n (lv2 := [some (.ref 206), some (.int x1), some (.int x2), some (.int (nI 0))]) qX12_seek_1 rfl rfl rfl ?_
  exact e_weak (w_X12_seek_L2  _ _ h) ⟨Or.inr rfl, Or.inr rfl, Or.inr rfl, Or.inr rfl, trivial⟩

def f_X12_fresh (N : Nat) (x1 : Int32) (s0 : St) : Option (Int32 × St) :=
  bp (f_X12_isName N s0) fun v1 =>
  if v1 = 0 then
    bd (f_X12_bad (nI 1) s0) fun v2 s3 =>
    rz v2 <|
    some (v2, s3)
  else
  ald (s0.1 209) 147 (nI 0) fun v4 =>
  bp (f_X12_seek N (nI 12) v4 s0) fun v5 =>
  jn (bd (f_X12_bad (nI 3) s0) fun v7 s8 =>
    rz v7 <|
    some (v7, s8)) fun j6 =>
  if 0 ≤ v5 then
    j6
  else
  ald (s0.1 209) 147 (nI 1) fun v9 =>
  bp (f_X12_seek N (nI 20) v9 s0) fun v10 =>
  if v10 < 0 then
    vl (s0.2 206 17) fun v11 =>
    ald (fun j => sL s0 211 j v11) 24 x1 fun s12 =>
    bp (f_X12_next N s12) fun s13 =>
    some ((nI 1), s13)
  else
  j6

theorem qX12_fresh_0 : Dc mX12_fresh 0 (.aload_n 0) 1 1 := ⟨by decide +kernel, rfl⟩
theorem qX12_fresh_1 : Dc mX12_fresh 1 (.invokevirtual 197) 3 4 := ⟨by decide +kernel, rfl⟩
theorem qX12_fresh_4 : Dc mX12_fresh 4 (.ifCond .ne 9) 3 7 := ⟨by decide +kernel, rfl⟩
theorem qX12_fresh_7 : Dc mX12_fresh 7 (.aload_n 0) 1 8 := ⟨by decide +kernel, rfl⟩
theorem qX12_fresh_8 : Dc mX12_fresh 8 (.iconst 1) 1 9 := ⟨by decide +kernel, rfl⟩
theorem qX12_fresh_9 : Dc mX12_fresh 9 (.invokevirtual 180) 3 12 := ⟨by decide +kernel, rfl⟩
theorem qX12_fresh_12 : Dc mX12_fresh 12 (.ireturn) 1 13 := ⟨by decide +kernel, rfl⟩
theorem qX12_fresh_13 : Dc mX12_fresh 13 (.aload_n 0) 1 14 := ⟨by decide +kernel, rfl⟩
theorem qX12_fresh_14 : Dc mX12_fresh 14 (.bipush 12) 2 16 := ⟨by decide +kernel, rfl⟩
theorem qX12_fresh_16 : Dc mX12_fresh 16 (.aload_n 0) 1 17 := ⟨by decide +kernel, rfl⟩
theorem qX12_fresh_17 : Dc mX12_fresh 17 (.getfield 37) 3 20 := ⟨by decide +kernel, rfl⟩
theorem qX12_fresh_20 : Dc mX12_fresh 20 (.iconst 0) 1 21 := ⟨by decide +kernel, rfl⟩
theorem qX12_fresh_21 : Dc mX12_fresh 21 (.iaload) 1 22 := ⟨by decide +kernel, rfl⟩
theorem qX12_fresh_22 : Dc mX12_fresh 22 (.invokevirtual 201) 3 25 := ⟨by decide +kernel, rfl⟩
theorem qX12_fresh_25 : Dc mX12_fresh 25 (.ifCond .ge 18) 3 28 := ⟨by decide +kernel, rfl⟩
theorem qX12_fresh_28 : Dc mX12_fresh 28 (.aload_n 0) 1 29 := ⟨by decide +kernel, rfl⟩
theorem qX12_fresh_29 : Dc mX12_fresh 29 (.bipush 20) 2 31 := ⟨by decide +kernel, rfl⟩
theorem qX12_fresh_31 : Dc mX12_fresh 31 (.aload_n 0) 1 32 := ⟨by decide +kernel, rfl⟩
theorem qX12_fresh_32 : Dc mX12_fresh 32 (.getfield 37) 3 35 := ⟨by decide +kernel, rfl⟩
theorem qX12_fresh_35 : Dc mX12_fresh 35 (.iconst 1) 1 36 := ⟨by decide +kernel, rfl⟩
theorem qX12_fresh_36 : Dc mX12_fresh 36 (.iaload) 1 37 := ⟨by decide +kernel, rfl⟩
theorem qX12_fresh_37 : Dc mX12_fresh 37 (.invokevirtual 201) 3 40 := ⟨by decide +kernel, rfl⟩
theorem qX12_fresh_40 : Dc mX12_fresh 40 (.ifCond .lt 9) 3 43 := ⟨by decide +kernel, rfl⟩
theorem qX12_fresh_43 : Dc mX12_fresh 43 (.aload_n 0) 1 44 := ⟨by decide +kernel, rfl⟩
theorem qX12_fresh_44 : Dc mX12_fresh 44 (.iconst 3) 1 45 := ⟨by decide +kernel, rfl⟩
theorem qX12_fresh_45 : Dc mX12_fresh 45 (.invokevirtual 180) 3 48 := ⟨by decide +kernel, rfl⟩
theorem qX12_fresh_48 : Dc mX12_fresh 48 (.ireturn) 1 49 := ⟨by decide +kernel, rfl⟩
theorem qX12_fresh_49 : Dc mX12_fresh 49 (.aload_n 0) 1 50 := ⟨by decide +kernel, rfl⟩
theorem qX12_fresh_50 : Dc mX12_fresh 50 (.getfield 43) 3 53 := ⟨by decide +kernel, rfl⟩
theorem qX12_fresh_53 : Dc mX12_fresh 53 (.iload_n 1) 1 54 := ⟨by decide +kernel, rfl⟩
theorem qX12_fresh_54 : Dc mX12_fresh 54 (.aload_n 0) 1 55 := ⟨by decide +kernel, rfl⟩
theorem qX12_fresh_55 : Dc mX12_fresh 55 (.getfield 167) 3 58 := ⟨by decide +kernel, rfl⟩
theorem qX12_fresh_58 : Dc mX12_fresh 58 (.lastore) 1 59 := ⟨by decide +kernel, rfl⟩
theorem qX12_fresh_59 : Dc mX12_fresh 59 (.aload_n 0) 1 60 := ⟨by decide +kernel, rfl⟩
theorem qX12_fresh_60 : Dc mX12_fresh 60 (.invokevirtual 183) 3 63 := ⟨by decide +kernel, rfl⟩
theorem qX12_fresh_63 : Dc mX12_fresh 63 (.iconst 1) 1 64 := ⟨by decide +kernel, rfl⟩
theorem qX12_fresh_64 : Dc mX12_fresh 64 (.ireturn) 1 65 := ⟨by decide +kernel, rfl⟩

set_option maxRecDepth 20000 in
set_option maxHeartbeats 4000000 in
theorem w_X12_fresh {N : Nat} {x1 : Int32} {s0 : St} {r : Int32} {sr : St} (h : f_X12_fresh N x1 s0 = some (r, sr)) : Ct mX12_fresh 2 [.ref 206, .int x1] s0 (some (.int r), sr) := by
  refine Ct.ofE (by decide +kernel) rfl ?_
  show E mX12_fresh 2 (some (.int r), sr) 0 [some (.ref 206), some (.int x1)] [] s0
  unfold f_X12_fresh at h
  refine e_aload_n qX12_fresh_0 rfl ?_
  obtain ⟨v1, hc, h⟩ := bp_e h
  refine e_cVi0 qX12_fresh_1 mv_X12_197 shq_206 rfl rfl (w_X12_isName hc) ?_
  refine e_if_ne (tgt := 13) qX12_fresh_4 rfl h (fun _ h => ?_) (fun _ h => ?_)
  · refine e_aload_n qX12_fresh_7 rfl ?_
    refine e_iconst (nI 1) qX12_fresh_8 rfl ?_
    obtain ⟨v2, s3, hc, h⟩ := bd_e h
    refine e_cVi1 qX12_fresh_9 mv_X12_180 shq_206 rfl rfl (w_X12_bad hc) ?_
    refine rz_e h (fun hz h => ?_)
    exact e_zret qX12_fresh_12 rfl hz (ret_i h)
  refine e_aload_n qX12_fresh_13 rfl ?_
  refine e_bipush (nI 12) qX12_fresh_14 rfl ?_
  refine e_aload_n qX12_fresh_16 rfl ?_
  refine e_getr 209 qX12_fresh_17 fl_X12_37 shq_206 kdq_11_7 rrq_206_7 ?_
  refine e_iconst (nI 0) qX12_fresh_20 rfl ?_
  refine e_iald qX12_fresh_21 shq_209 lnq_209 h (fun v4 h => ?_)
  obtain ⟨v5, hc, h⟩ := bp_e h
  refine e_cVi2 qX12_fresh_22 mv_X12_201 shq_206 rfl rfl (w_X12_seek hc) ?_
  refine jn_e (fun j => j = some (r, sr) → E mX12_fresh 2 (some (.int r), sr) 43 [some (.ref 206), none] [] s0) h ?_ (fun j6 hj6 h => ?_)
  · intro h
    refine e_aload_n qX12_fresh_43 rfl ?_
    refine e_iconst (nI 3) qX12_fresh_44 rfl ?_
    obtain ⟨v7, s8, hc, h⟩ := bd_e h
    refine e_cVi1 qX12_fresh_45 mv_X12_180 shq_206 rfl rfl (w_X12_bad hc) ?_
    refine rz_e h (fun hz h => ?_)
    exact e_zret qX12_fresh_48 rfl hz (ret_i h)
  refine e_if_ge (tgt := 43) qX12_fresh_25 rfl h (fun _ h => ?_) (fun _ h => ?_)
  · exact e_weak (hj6 h) ⟨Or.inr rfl, Or.inl rfl, trivial⟩
  refine e_aload_n qX12_fresh_28 rfl ?_
  refine e_bipush (nI 20) qX12_fresh_29 rfl ?_
  refine e_aload_n qX12_fresh_31 rfl ?_
  refine e_getr 209 qX12_fresh_32 fl_X12_37 shq_206 kdq_11_7 rrq_206_7 ?_
  refine e_iconst (nI 1) qX12_fresh_35 rfl ?_
  refine e_iald qX12_fresh_36 shq_209 lnq_209 h (fun v9 h => ?_)
  obtain ⟨v10, hc, h⟩ := bp_e h
  refine e_cVi2 qX12_fresh_37 mv_X12_201 shq_206 rfl rfl (w_X12_seek hc) ?_
  refine e_if_lt (tgt := 49) qX12_fresh_40 rfl h (fun _ h => ?_) (fun _ h => ?_)
  · refine e_aload_n qX12_fresh_49 rfl ?_
    refine e_getr 211 qX12_fresh_50 fl_X12_43 shq_206 kdq_11_9 rrq_206_9 ?_
    refine e_iload_n qX12_fresh_53 rfl ?_
    refine e_aload_n qX12_fresh_54 rfl ?_
    refine e_getl qX12_fresh_55 fl_X12_167 shq_206 kdq_11_17 h (fun v11 h => ?_)
    refine e_last qX12_fresh_58 shq_211 lnq_211 h (fun s12 h => ?_)
    refine e_aload_n qX12_fresh_59 rfl ?_
    obtain ⟨s13, hc, h⟩ := bp_e h
    refine e_cVv0 qX12_fresh_60 mv_X12_183 shq_206 rfl rfl (w_X12_next hc) ?_
    refine e_iconst (nI 1) qX12_fresh_63 rfl ?_
    exact e_zret qX12_fresh_64 rfl (by decide) (ret_i h)
  exact e_weak (hj6 h) ⟨Or.inr rfl, Or.inl rfl, trivial⟩

def f_X12_looksAt (N : Nat) (x1 : Int32) (x2 : Int32) (s0 : St) : Option (Int32 × St) :=
  bp (f_X12_isName N s0) fun v1 =>
  if v1 = 0 then
    bd (f_X12_bad (nI 1) s0) fun v2 s3 =>
    rz v2 <|
    some (v2, s3)
  else
  bp (f_X12_seek N x1 x2 s0) fun v4 =>
  vl (sI s0 206 18 v4) fun s5 =>
  vl (s5.1 206 18) fun v6 =>
  if 0 ≤ v6 then
    some ((nI 1), s5)
  else
  bd (f_X12_bad (nI 3) s5) fun v7 s8 =>
  if v7 = 0 then
    some ((nI 0), s8)
  else
  some ((nI 1), s8)

theorem qX12_looksAt_0 : Dc mX12_looksAt 0 (.aload_n 0) 1 1 := ⟨by decide +kernel, rfl⟩
theorem qX12_looksAt_1 : Dc mX12_looksAt 1 (.invokevirtual 197) 3 4 := ⟨by decide +kernel, rfl⟩
theorem qX12_looksAt_4 : Dc mX12_looksAt 4 (.ifCond .ne 9) 3 7 := ⟨by decide +kernel, rfl⟩
theorem qX12_looksAt_7 : Dc mX12_looksAt 7 (.aload_n 0) 1 8 := ⟨by decide +kernel, rfl⟩
theorem qX12_looksAt_8 : Dc mX12_looksAt 8 (.iconst 1) 1 9 := ⟨by decide +kernel, rfl⟩
theorem qX12_looksAt_9 : Dc mX12_looksAt 9 (.invokevirtual 180) 3 12 := ⟨by decide +kernel, rfl⟩
theorem qX12_looksAt_12 : Dc mX12_looksAt 12 (.ireturn) 1 13 := ⟨by decide +kernel, rfl⟩
theorem qX12_looksAt_13 : Dc mX12_looksAt 13 (.aload_n 0) 1 14 := ⟨by decide +kernel, rfl⟩
theorem qX12_looksAt_14 : Dc mX12_looksAt 14 (.aload_n 0) 1 15 := ⟨by decide +kernel, rfl⟩
theorem qX12_looksAt_15 : Dc mX12_looksAt 15 (.iload_n 1) 1 16 := ⟨by decide +kernel, rfl⟩
theorem qX12_looksAt_16 : Dc mX12_looksAt 16 (.iload_n 2) 1 17 := ⟨by decide +kernel, rfl⟩
theorem qX12_looksAt_17 : Dc mX12_looksAt 17 (.invokevirtual 201) 3 20 := ⟨by decide +kernel, rfl⟩
theorem qX12_looksAt_20 : Dc mX12_looksAt 20 (.putfield 190) 3 23 := ⟨by decide +kernel, rfl⟩
theorem qX12_looksAt_23 : Dc mX12_looksAt 23 (.aload_n 0) 1 24 := ⟨by decide +kernel, rfl⟩
theorem qX12_looksAt_24 : Dc mX12_looksAt 24 (.getfield 190) 3 27 := ⟨by decide +kernel, rfl⟩
theorem qX12_looksAt_27 : Dc mX12_looksAt 27 (.ifCond .ge 11) 3 30 := ⟨by decide +kernel, rfl⟩
theorem qX12_looksAt_30 : Dc mX12_looksAt 30 (.aload_n 0) 1 31 := ⟨by decide +kernel, rfl⟩
theorem qX12_looksAt_31 : Dc mX12_looksAt 31 (.iconst 3) 1 32 := ⟨by decide +kernel, rfl⟩
theorem qX12_looksAt_32 : Dc mX12_looksAt 32 (.invokevirtual 180) 3 35 := ⟨by decide +kernel, rfl⟩
theorem qX12_looksAt_35 : Dc mX12_looksAt 35 (.ifCond .eq 7) 3 38 := ⟨by decide +kernel, rfl⟩
theorem qX12_looksAt_38 : Dc mX12_looksAt 38 (.iconst 1) 1 39 := ⟨by decide +kernel, rfl⟩
theorem qX12_looksAt_39 : Dc mX12_looksAt 39 (.goto 4) 3 42 := ⟨by decide +kernel, rfl⟩
theorem qX12_looksAt_42 : Dc mX12_looksAt 42 (.iconst 0) 1 43 := ⟨by decide +kernel, rfl⟩
theorem qX12_looksAt_43 : Dc mX12_looksAt 43 (.ireturn) 1 44 := ⟨by decide +kernel, rfl⟩

set_option maxRecDepth 20000 in
set_option maxHeartbeats 4000000 in
theorem w_X12_looksAt {N : Nat} {x1 : Int32} {x2 : Int32} {s0 : St} {r : Int32} {sr : St} (h : f_X12_looksAt N x1 x2 s0 = some (r, sr)) : Ct mX12_looksAt 1 [.ref 206, .int x1, .int x2] s0 (some (.int r), sr) := by
  refine Ct.ofE (by decide +kernel) rfl ?_
  show E mX12_looksAt 1 (some (.int r), sr) 0 [some (.ref 206), some (.int x1), some (.int x2)] [] s0
  unfold f_X12_looksAt at h
  refine e_aload_n qX12_looksAt_0 rfl ?_
  obtain ⟨v1, hc, h⟩ := bp_e h
  refine e_cVi0 qX12_looksAt_1 mv_X12_197 shq_206 rfl rfl (w_X12_isName hc) ?_
  refine e_if_ne (tgt := 13) qX12_looksAt_4 rfl h (fun _ h => ?_) (fun _ h => ?_)
  · refine e_aload_n qX12_looksAt_7 rfl ?_
    refine e_iconst (nI 1) qX12_looksAt_8 rfl ?_
    obtain ⟨v2, s3, hc, h⟩ := bd_e h
    refine e_cVi1 qX12_looksAt_9 mv_X12_180 shq_206 rfl rfl (w_X12_bad hc) ?_
    refine rz_e h (fun hz h => ?_)
    exact e_zret qX12_looksAt_12 rfl hz (ret_i h)
  refine e_aload_n qX12_looksAt_13 rfl ?_
  refine e_aload_n qX12_looksAt_14 rfl ?_
  refine e_iload_n qX12_looksAt_15 rfl ?_
  refine e_iload_n qX12_looksAt_16 rfl ?_
  obtain ⟨v4, hc, h⟩ := bp_e h
  refine e_cVi2 qX12_looksAt_17 mv_X12_201 shq_206 rfl rfl (w_X12_seek hc) ?_
  refine e_puti qX12_looksAt_20 fp_X12_190 shq_206 kdq_11_18 h (fun s5 h => ?_)
  refine e_aload_n qX12_looksAt_23 rfl ?_
  refine e_geti qX12_looksAt_24 fl_X12_190 shq_206 kdq_11_18 h (fun v6 h => ?_)
  refine e_if_ge (tgt := 38) qX12_looksAt_27 rfl h (fun _ h => ?_) (fun _ h => ?_)
  · refine e_iconst (nI 1) qX12_looksAt_38 rfl ?_
    refine e_goto (tgt := 43) qX12_looksAt_39 rfl ?_
    exact e_zret qX12_looksAt_43 rfl (by decide) (ret_i h)
  refine e_aload_n qX12_looksAt_30 rfl ?_
  refine e_iconst (nI 3) qX12_looksAt_31 rfl ?_
  obtain ⟨v7, s8, hc, h⟩ := bd_e h
  refine e_cVi1 qX12_looksAt_32 mv_X12_180 shq_206 rfl rfl (w_X12_bad hc) ?_
  refine e_if_eq (tgt := 42) qX12_looksAt_35 rfl h (fun _ h => ?_) (fun _ h => ?_)
  · refine e_iconst (nI 0) qX12_looksAt_42 rfl ?_
    exact e_zret qX12_looksAt_43 rfl (by decide) (ret_i h)
  refine e_iconst (nI 1) qX12_looksAt_38 rfl ?_
  refine e_goto (tgt := 43) qX12_looksAt_39 rfl ?_
  exact e_zret qX12_looksAt_43 rfl (by decide) (ret_i h)

def f_X12_takesName (N : Nat) (x1 : Int32) (x2 : Int32) (s0 : St) : Option (Int32 × St) :=
  bd (f_X12_looksAt N x1 x2 s0) fun v1 s2 =>
  if v1 = 0 then
    some ((nI 0), s2)
  else
  bp (f_X12_next N s2) fun s3 =>
  some ((nI 1), s3)

theorem qX12_takesName_0 : Dc mX12_takesName 0 (.aload_n 0) 1 1 := ⟨by decide +kernel, rfl⟩
theorem qX12_takesName_1 : Dc mX12_takesName 1 (.iload_n 1) 1 2 := ⟨by decide +kernel, rfl⟩
theorem qX12_takesName_2 : Dc mX12_takesName 2 (.iload_n 2) 1 3 := ⟨by decide +kernel, rfl⟩
theorem qX12_takesName_3 : Dc mX12_takesName 3 (.invokevirtual 205) 3 6 := ⟨by decide +kernel, rfl⟩
theorem qX12_takesName_6 : Dc mX12_takesName 6 (.ifCond .ne 5) 3 9 := ⟨by decide +kernel, rfl⟩
theorem qX12_takesName_9 : Dc mX12_takesName 9 (.iconst 0) 1 10 := ⟨by decide +kernel, rfl⟩
theorem qX12_takesName_10 : Dc mX12_takesName 10 (.ireturn) 1 11 := ⟨by decide +kernel, rfl⟩
theorem qX12_takesName_11 : Dc mX12_takesName 11 (.aload_n 0) 1 12 := ⟨by decide +kernel, rfl⟩
theorem qX12_takesName_12 : Dc mX12_takesName 12 (.invokevirtual 183) 3 15 := ⟨by decide +kernel, rfl⟩
theorem qX12_takesName_15 : Dc mX12_takesName 15 (.iconst 1) 1 16 := ⟨by decide +kernel, rfl⟩
theorem qX12_takesName_16 : Dc mX12_takesName 16 (.ireturn) 1 17 := ⟨by decide +kernel, rfl⟩

set_option maxRecDepth 20000 in
set_option maxHeartbeats 4000000 in
theorem w_X12_takesName {N : Nat} {x1 : Int32} {x2 : Int32} {s0 : St} {r : Int32} {sr : St} (h : f_X12_takesName N x1 x2 s0 = some (r, sr)) : Ct mX12_takesName 2 [.ref 206, .int x1, .int x2] s0 (some (.int r), sr) := by
  refine Ct.ofE (by decide +kernel) rfl ?_
  show E mX12_takesName 2 (some (.int r), sr) 0 [some (.ref 206), some (.int x1), some (.int x2)] [] s0
  unfold f_X12_takesName at h
  refine e_aload_n qX12_takesName_0 rfl ?_
  refine e_iload_n qX12_takesName_1 rfl ?_
  refine e_iload_n qX12_takesName_2 rfl ?_
  obtain ⟨v1, s2, hc, h⟩ := bd_e h
  refine e_cVi2 qX12_takesName_3 mv_X12_205 shq_206 rfl rfl (w_X12_looksAt hc) ?_
  refine e_if_ne (tgt := 11) qX12_takesName_6 rfl h (fun _ h => ?_) (fun _ h => ?_)
  · refine e_iconst (nI 0) qX12_takesName_9 rfl ?_
    exact e_zret qX12_takesName_10 rfl (by decide) (ret_i h)
  refine e_aload_n qX12_takesName_11 rfl ?_
  obtain ⟨s3, hc, h⟩ := bp_e h
  refine e_cVv0 qX12_takesName_12 mv_X12_183 shq_206 rfl rfl (w_X12_next hc) ?_
  refine e_iconst (nI 1) qX12_takesName_15 rfl ?_
  exact e_zret qX12_takesName_16 rfl (by decide) (ret_i h)
