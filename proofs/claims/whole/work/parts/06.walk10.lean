def f_X1_pairsConfused_L4 (N : Nat) (c1 : Nat) (s0 : St) (k4 : Int32 → Option (Int32)) : Nat → Int32 → Int32 → Option (Int32)
  | 0, _, _ => none
  | n6 + 1, v2, v3 =>
    vl (s0.1 c1 2) fun v8 =>
    if v8 ≤ v3 then
      k4 v2
    else
    ald (rr (rr c1 0)) 8 v3 fun v9 =>
    vl (s0.1 v9 13) fun v11 =>
    bp (f_J6_bitCount_0f7a4 v11 s0) fun v12 =>
    vl (v2 + v12) fun v13 =>
    vl (v3 + (nI 1)) fun v14 =>
    f_X1_pairsConfused_L4 N c1 s0 k4 n6 v13 v14

def f_X1_pairsConfused (N : Nat) (a0 : Nat) (s0 : St) : Option (Int32) :=
  f_X1_pairsConfused_L4 N a0 s0 (fun (v15 : Int32) =>
    dv v15 (nI 2) fun v16 =>
    some v16) N (nI 0) (nI 0)

theorem qX1_pairsConfused_0 : Dc mX1_pairsConfused 0 (.iconst 0) 1 1 := ⟨by decide +kernel, rfl⟩
theorem qX1_pairsConfused_1 : Dc mX1_pairsConfused 1 (.istore_n 1) 1 2 := ⟨by decide +kernel, rfl⟩
theorem qX1_pairsConfused_2 : Dc mX1_pairsConfused 2 (.iconst 0) 1 3 := ⟨by decide +kernel, rfl⟩
theorem qX1_pairsConfused_3 : Dc mX1_pairsConfused 3 (.istore_n 2) 1 4 := ⟨by decide +kernel, rfl⟩
theorem qX1_pairsConfused_4 : Dc mX1_pairsConfused 4 (.iload_n 2) 1 5 := ⟨by decide +kernel, rfl⟩
theorem qX1_pairsConfused_5 : Dc mX1_pairsConfused 5 (.aload_n 0) 1 6 := ⟨by decide +kernel, rfl⟩
theorem qX1_pairsConfused_6 : Dc mX1_pairsConfused 6 (.getfield 29) 3 9 := ⟨by decide +kernel, rfl⟩
theorem qX1_pairsConfused_9 : Dc mX1_pairsConfused 9 (.if_icmp .ge 24) 3 12 := ⟨by decide +kernel, rfl⟩
theorem qX1_pairsConfused_12 : Dc mX1_pairsConfused 12 (.iload_n 1) 1 13 := ⟨by decide +kernel, rfl⟩
theorem qX1_pairsConfused_13 : Dc mX1_pairsConfused 13 (.aload_n 0) 1 14 := ⟨by decide +kernel, rfl⟩
theorem qX1_pairsConfused_14 : Dc mX1_pairsConfused 14 (.getfield 11) 3 17 := ⟨by decide +kernel, rfl⟩
theorem qX1_pairsConfused_17 : Dc mX1_pairsConfused 17 (.iload_n 2) 1 18 := ⟨by decide +kernel, rfl⟩
theorem qX1_pairsConfused_18 : Dc mX1_pairsConfused 18 (.aaload) 1 19 := ⟨by decide +kernel, rfl⟩
theorem qX1_pairsConfused_19 : Dc mX1_pairsConfused 19 (.getfield 51) 3 22 := ⟨by decide +kernel, rfl⟩
theorem qX1_pairsConfused_22 : Dc mX1_pairsConfused 22 (.invokestatic 65) 3 25 := ⟨by decide +kernel, rfl⟩
theorem qX1_pairsConfused_25 : Dc mX1_pairsConfused 25 (.iadd) 1 26 := ⟨by decide +kernel, rfl⟩
theorem qX1_pairsConfused_26 : Dc mX1_pairsConfused 26 (.istore_n 1) 1 27 := ⟨by decide +kernel, rfl⟩
theorem qX1_pairsConfused_27 : Dc mX1_pairsConfused 27 (.iinc 2 1) 3 30 := ⟨by decide +kernel, rfl⟩
theorem qX1_pairsConfused_30 : Dc mX1_pairsConfused 30 (.goto (-26)) 3 33 := ⟨by decide +kernel, rfl⟩
theorem qX1_pairsConfused_33 : Dc mX1_pairsConfused 33 (.iload_n 1) 1 34 := ⟨by decide +kernel, rfl⟩
theorem qX1_pairsConfused_34 : Dc mX1_pairsConfused 34 (.iconst 2) 1 35 := ⟨by decide +kernel, rfl⟩
theorem qX1_pairsConfused_35 : Dc mX1_pairsConfused 35 (.idiv) 1 36 := ⟨by decide +kernel, rfl⟩
theorem qX1_pairsConfused_36 : Dc mX1_pairsConfused 36 (.ireturn) 1 37 := ⟨by decide +kernel, rfl⟩

set_option maxRecDepth 20000 in
set_option maxHeartbeats 4000000 in
theorem w_X1_pairsConfused_L4 {N : Nat} {c1 : Nat} {s0 : St} {k4 : Int32 → Option (Int32)} {r : Int32} (h_c1 : sh c1 = 1) (hk4 : ∀ (v5 : Int32), k4 v5 = some r → E mX1_pairsConfused 1 (some (.int r), s0) 33 [none, some (.int v5), none] [] s0) : ∀ (n6 : Nat) (v2 : Int32) (v3 : Int32), f_X1_pairsConfused_L4 N c1 s0 k4 n6 v2 v3 = some r → E mX1_pairsConfused 1 (some (.int r), s0) 4 [some (.ref c1), some (.int v2), some (.int v3)] [] s0 := by
  intro n6
  induction n6 with
  | zero =>
    intro v2 v3 h
    rw [f_X1_pairsConfused_L4] at h; cases h
  | succ n6 ih7 =>
    intro v2 v3 h
    rw [f_X1_pairsConfused_L4] at h
    refine e_iload_n qX1_pairsConfused_4 rfl ?_
    refine e_aload_n qX1_pairsConfused_5 rfl ?_
    refine e_geti qX1_pairsConfused_6 fl_X1_29 h_c1 kdq_1_2 h (fun v8 h => ?_)
    refine e_icmp_ge (tgt := 33) qX1_pairsConfused_9 rfl h (fun _ h => ?_) (fun _ h => ?_)
    · exact e_weak (hk4 _ h) ⟨Or.inl rfl, Or.inr rfl, Or.inl rfl, trivial⟩
    refine e_iload_n qX1_pairsConfused_12 rfl ?_
    refine e_aload_n qX1_pairsConfused_13 rfl ?_
    refine e_getr (rr c1 0) qX1_pairsConfused_14 fl_X1_11 h_c1 kdq_1_0 rfl ?_
    refine e_iload_n qX1_pairsConfused_17 rfl ?_
    refine e_rald24 qX1_pairsConfused_18 (wt_1_0 _ h_c1).1 (wt_1_0 _ h_c1).2 h (fun i10 hi10 h => ?_)
    refine e_geti qX1_pairsConfused_19 fl_X1_51 (we_24 _ (wt_1_0 _ h_c1).1 _ hi10) kdq_4_13 h (fun v11 h => ?_)
    obtain ⟨v12, hc, h⟩ := bp_e h
    refine e_cSi1 qX1_pairsConfused_22 ms_X1_65 rfl rfl (w_J6_bitCount_0f7a4 hc) ?_
    refine e_iadd qX1_pairsConfused_25 ?_
    refine vl_e h (fun h => ?_)
    generalize (v2 + v12) = v13 at h ⊢
    refine e_istore_n (lv2 := [some (.ref c1), some (.int v13), some (.int v3)]) qX1_pairsConfused_26 rfl rfl rfl ?_
    refine vl_e h (fun h => ?_)
    obtain ⟨v14, ev14⟩ : ∃ y, v3 + (nI 1) = y := ⟨_, rfl⟩
    rw [ev14] at h
    refine e_iinc (nI 1) v14 (lv2 := [some (.ref c1), some (.int v13), some (.int v14)]) qX1_pairsConfused_27 rfl rfl rfl ev14 rfl ?_
    refine e_goto (tgt := 4) qX1_pairsConfused_30 rfl ?_
    exact e_weak (ih7 _ _ h) ⟨Or.inr rfl, Or.inr rfl, Or.inr rfl, trivial⟩

set_option maxRecDepth 20000 in
set_option maxHeartbeats 4000000 in
theorem w_X1_pairsConfused {N : Nat} {a0 : Nat} {s0 : St} {r : Int32} (h_a0 : sh a0 = 1) (h : f_X1_pairsConfused N a0 s0 = some r) : Ct mX1_pairsConfused 1 [.ref a0] s0 (some (.int r), s0) := by
  refine Ct.ofE (by decide +kernel) rfl ?_
  show E mX1_pairsConfused 1 (some (.int r), s0) 0 [some (.ref a0), none, none] [] s0
  unfold f_X1_pairsConfused at h
  refine e_iconst (nI 0) qX1_pairsConfused_0 rfl ?_
  refine e_istore_n (lv2 := [some (.ref a0), some (.int (nI 0)), none]) qX1_pairsConfused_1 rfl rfl rfl ?_
  refine e_iconst (nI 0) qX1_pairsConfused_2 rfl ?_
  refine e_istore_n (lv2 := [some (.ref a0), some (.int (nI 0)), some (.int (nI 0))]) qX1_pairsConfused_3 rfl rfl rfl ?_
  refine e_weak (w_X1_pairsConfused_L4 h_a0 (fun v15 h => ?_) _ _ _ h) ⟨Or.inr rfl, Or.inr rfl, Or.inr rfl, trivial⟩
  refine e_iload_n qX1_pairsConfused_33 rfl ?_
  refine e_iconst (nI 2) qX1_pairsConfused_34 rfl ?_
  refine e_idiv qX1_pairsConfused_35 h (fun v16 h => ?_)
  exact e_iret qX1_pairsConfused_36 rfl (ret_p h)

def f_X1_fewestChanged_L7 (N : Nat) (c2 : Nat) (s0 : St) : Nat → Int32 → Int32 → Option (Int32)
  | 0, _, _ => none
  | n5 + 1, v3, v4 =>
    bp (f_X1_allLights c2 s0) fun v7 =>
    if v7 ≤ v4 then
      some v3
    else
    bp (f_J6_bitCount_0f7a4 v4 s0) fun v8 =>
    bp (f_J6_bitCount_0f7a4 v3 s0) fun v9 =>
    jn (fun (v10 : Int32) =>
      vl (v4 + (nI 1)) fun v12 =>
      f_X1_fewestChanged_L7 N c2 s0 n5 v10 v12) fun j11 =>
    if v9 ≤ v8 then
      j11 v3
    else
    bp (f_X1_endsAllConfusion N c2 v4 s0) fun v13 =>
    if v13 = 0 then
      j11 v3
    else
    j11 v4

def f_X1_fewestChanged (N : Nat) (a0 : Nat) (s0 : St) : Option (Int32) :=
  bp (f_X1_allLights a0 s0) fun v1 =>
  f_X1_fewestChanged_L7 N a0 s0 N v1 (nI 0)

theorem qX1_fewestChanged_0 : Dc mX1_fewestChanged 0 (.aload_n 0) 1 1 := ⟨by decide +kernel, rfl⟩
theorem qX1_fewestChanged_1 : Dc mX1_fewestChanged 1 (.invokevirtual 71) 3 4 := ⟨by decide +kernel, rfl⟩
theorem qX1_fewestChanged_4 : Dc mX1_fewestChanged 4 (.istore_n 1) 1 5 := ⟨by decide +kernel, rfl⟩
theorem qX1_fewestChanged_5 : Dc mX1_fewestChanged 5 (.iconst 0) 1 6 := ⟨by decide +kernel, rfl⟩
theorem qX1_fewestChanged_6 : Dc mX1_fewestChanged 6 (.istore_n 2) 1 7 := ⟨by decide +kernel, rfl⟩
theorem qX1_fewestChanged_7 : Dc mX1_fewestChanged 7 (.iload_n 2) 1 8 := ⟨by decide +kernel, rfl⟩
theorem qX1_fewestChanged_8 : Dc mX1_fewestChanged 8 (.aload_n 0) 1 9 := ⟨by decide +kernel, rfl⟩
theorem qX1_fewestChanged_9 : Dc mX1_fewestChanged 9 (.invokevirtual 71) 3 12 := ⟨by decide +kernel, rfl⟩
theorem qX1_fewestChanged_12 : Dc mX1_fewestChanged 12 (.if_icmp .ge 30) 3 15 := ⟨by decide +kernel, rfl⟩
theorem qX1_fewestChanged_15 : Dc mX1_fewestChanged 15 (.iload_n 2) 1 16 := ⟨by decide +kernel, rfl⟩
theorem qX1_fewestChanged_16 : Dc mX1_fewestChanged 16 (.invokestatic 65) 3 19 := ⟨by decide +kernel, rfl⟩
theorem qX1_fewestChanged_19 : Dc mX1_fewestChanged 19 (.iload_n 1) 1 20 := ⟨by decide +kernel, rfl⟩
theorem qX1_fewestChanged_20 : Dc mX1_fewestChanged 20 (.invokestatic 65) 3 23 := ⟨by decide +kernel, rfl⟩
theorem qX1_fewestChanged_23 : Dc mX1_fewestChanged 23 (.if_icmp .ge 13) 3 26 := ⟨by decide +kernel, rfl⟩
theorem qX1_fewestChanged_26 : Dc mX1_fewestChanged 26 (.aload_n 0) 1 27 := ⟨by decide +kernel, rfl⟩
theorem qX1_fewestChanged_27 : Dc mX1_fewestChanged 27 (.iload_n 2) 1 28 := ⟨by decide +kernel, rfl⟩
theorem qX1_fewestChanged_28 : Dc mX1_fewestChanged 28 (.invokevirtual 75) 3 31 := ⟨by decide +kernel, rfl⟩
theorem qX1_fewestChanged_31 : Dc mX1_fewestChanged 31 (.ifCond .eq 5) 3 34 := ⟨by decide +kernel, rfl⟩
theorem qX1_fewestChanged_34 : Dc mX1_fewestChanged 34 (.iload_n 2) 1 35 := ⟨by decide +kernel, rfl⟩
theorem qX1_fewestChanged_35 : Dc mX1_fewestChanged 35 (.istore_n 1) 1 36 := ⟨by decide +kernel, rfl⟩
theorem qX1_fewestChanged_36 : Dc mX1_fewestChanged 36 (.iinc 2 1) 3 39 := ⟨by decide +kernel, rfl⟩
theorem qX1_fewestChanged_39 : Dc mX1_fewestChanged 39 (.goto (-32)) 3 42 := ⟨by decide +kernel, rfl⟩
theorem qX1_fewestChanged_42 : Dc mX1_fewestChanged 42 (.iload_n 1) 1 43 := ⟨by decide +kernel, rfl⟩
theorem qX1_fewestChanged_43 : Dc mX1_fewestChanged 43 (.ireturn) 1 44 := ⟨by decide +kernel, rfl⟩

set_option maxRecDepth 20000 in
set_option maxHeartbeats 4000000 in
theorem w_X1_fewestChanged_L7 {N : Nat} {c2 : Nat} {s0 : St}  {r : Int32} (h_c2 : sh c2 = 1)  : ∀ (n5 : Nat) (v3 : Int32) (v4 : Int32), f_X1_fewestChanged_L7 N c2 s0 n5 v3 v4 = some r → E mX1_fewestChanged 1 (some (.int r), s0) 7 [some (.ref c2), some (.int v3), some (.int v4)] [] s0 := by
  intro n5
  induction n5 with
  | zero =>
    intro v3 v4 h
    rw [f_X1_fewestChanged_L7] at h; cases h
  | succ n5 ih6 =>
    intro v3 v4 h
    rw [f_X1_fewestChanged_L7] at h
    refine e_iload_n qX1_fewestChanged_7 rfl ?_
    refine e_aload_n qX1_fewestChanged_8 rfl ?_
    obtain ⟨v7, hc, h⟩ := bp_e h
    refine e_cVi0 qX1_fewestChanged_9 mv_X1_71 h_c2 rfl rfl (w_X1_allLights h_c2 hc) ?_
    refine e_icmp_ge (tgt := 42) qX1_fewestChanged_12 rfl h (fun _ h => ?_) (fun _ h => ?_)
    · refine e_iload_n qX1_fewestChanged_42 rfl ?_
      exact e_iret qX1_fewestChanged_43 rfl (ret_p h)
    refine e_iload_n qX1_fewestChanged_15 rfl ?_
    obtain ⟨v8, hc, h⟩ := bp_e h
    refine e_cSi1 qX1_fewestChanged_16 ms_X1_65 rfl rfl (w_J6_bitCount_0f7a4 hc) ?_
    refine e_iload_n qX1_fewestChanged_19 rfl ?_
    obtain ⟨v9, hc, h⟩ := bp_e h
    refine e_cSi1 qX1_fewestChanged_20 ms_X1_65 rfl rfl (w_J6_bitCount_0f7a4 hc) ?_
    refine jn_e (fun j => ∀ (v10 : Int32), j v10 = some r → E mX1_fewestChanged 1 (some (.int r), s0) 36 [some (.ref c2), some (.int v10), some (.int v4)] [] s0) h ?_ (fun j11 hj11 h => ?_)
    · intro v10 h
      refine vl_e h (fun h => ?_)
      obtain ⟨v12, ev12⟩ : ∃ y, v4 + (nI 1) = y := ⟨_, rfl⟩
      rw [ev12] at h
      refine e_iinc (nI 1) v12 (lv2 := [some (.ref c2), some (.int v10), some (.int v12)]) qX1_fewestChanged_36 rfl rfl rfl ev12 rfl ?_
      refine e_goto (tgt := 7) qX1_fewestChanged_39 rfl ?_
      exact e_weak (ih6 _ _ h) ⟨Or.inr rfl, Or.inr rfl, Or.inr rfl, trivial⟩
    refine e_icmp_ge (tgt := 36) qX1_fewestChanged_23 rfl h (fun _ h => ?_) (fun _ h => ?_)
    · exact e_weak (hj11 _ h) ⟨Or.inr rfl, Or.inr rfl, Or.inr rfl, trivial⟩
    refine e_aload_n qX1_fewestChanged_26 rfl ?_
    refine e_iload_n qX1_fewestChanged_27 rfl ?_
    obtain ⟨v13, hc, h⟩ := bp_e h
    refine e_cVi1 qX1_fewestChanged_28 mv_X1_75 h_c2 rfl rfl (w_X1_endsAllConfusion h_c2 hc) ?_
    refine e_if_eq (tgt := 36) qX1_fewestChanged_31 rfl h (fun _ h => ?_) (fun _ h => ?_)
    · exact e_weak (hj11 _ h) ⟨Or.inr rfl, Or.inr rfl, Or.inr rfl, trivial⟩
    refine e_iload_n qX1_fewestChanged_34 rfl ?_
    refine e_istore_n (lv2 := [some (.ref c2), some (.int v4), some (.int v4)]) qX1_fewestChanged_35 rfl rfl rfl ?_
    exact e_weak (hj11 _ h) ⟨Or.inr rfl, Or.inr rfl, Or.inr rfl, trivial⟩

set_option maxRecDepth 20000 in
set_option maxHeartbeats 4000000 in
theorem w_X1_fewestChanged {N : Nat} {a0 : Nat} {s0 : St} {r : Int32} (h_a0 : sh a0 = 1) (h : f_X1_fewestChanged N a0 s0 = some r) : Ct mX1_fewestChanged 1 [.ref a0] s0 (some (.int r), s0) := by
  refine Ct.ofE (by decide +kernel) rfl ?_
  show E mX1_fewestChanged 1 (some (.int r), s0) 0 [some (.ref a0), none, none] [] s0
  unfold f_X1_fewestChanged at h
  refine e_aload_n qX1_fewestChanged_0 rfl ?_
  obtain ⟨v1, hc, h⟩ := bp_e h
  refine e_cVi0 qX1_fewestChanged_1 mv_X1_71 h_a0 rfl rfl (w_X1_allLights h_a0 hc) ?_
  refine e_istore_n (lv2 := [some (.ref a0), some (.int v1), none]) qX1_fewestChanged_4 rfl rfl rfl ?_
  refine e_iconst (nI 0) qX1_fewestChanged_5 rfl ?_
  refine e_istore_n (lv2 := [some (.ref a0), some (.int v1), some (.int (nI 0))]) qX1_fewestChanged_6 rfl rfl rfl ?_
  exact e_weak (w_X1_fewestChanged_L7 h_a0  _ _ _ h) ⟨Or.inr rfl, Or.inr rfl, Or.inr rfl, trivial⟩

def f_X1_colourAt  (s0 : St) : Option (Int32) :=
  bp (f_X9_is 1006 s0) fun v1 =>
  if v1 = 0 then
    bp (f_X9_is 1007 s0) fun v2 =>
    if v2 = 0 then
      bp (f_X9_is 1008 s0) fun v3 =>
      if v3 = 0 then
        some (nI 0)
      else
      some (nI 3)
    else
    some (nI 2)
  else
  some (nI 1)

theorem qX1_colourAt_0 : Dc mX1_colourAt 0 (.aload_n 0) 1 1 := ⟨by decide +kernel, rfl⟩
theorem qX1_colourAt_1 : Dc mX1_colourAt 1 (.getstatic 190) 3 4 := ⟨by decide +kernel, rfl⟩
theorem qX1_colourAt_4 : Dc mX1_colourAt 4 (.invokevirtual 110) 3 7 := ⟨by decide +kernel, rfl⟩
theorem qX1_colourAt_7 : Dc mX1_colourAt 7 (.ifCond .eq 5) 3 10 := ⟨by decide +kernel, rfl⟩
theorem qX1_colourAt_10 : Dc mX1_colourAt 10 (.iconst 1) 1 11 := ⟨by decide +kernel, rfl⟩
theorem qX1_colourAt_11 : Dc mX1_colourAt 11 (.ireturn) 1 12 := ⟨by decide +kernel, rfl⟩
theorem qX1_colourAt_12 : Dc mX1_colourAt 12 (.aload_n 0) 1 13 := ⟨by decide +kernel, rfl⟩
theorem qX1_colourAt_13 : Dc mX1_colourAt 13 (.getstatic 193) 3 16 := ⟨by decide +kernel, rfl⟩
theorem qX1_colourAt_16 : Dc mX1_colourAt 16 (.invokevirtual 110) 3 19 := ⟨by decide +kernel, rfl⟩
theorem qX1_colourAt_19 : Dc mX1_colourAt 19 (.ifCond .eq 5) 3 22 := ⟨by decide +kernel, rfl⟩
theorem qX1_colourAt_22 : Dc mX1_colourAt 22 (.iconst 2) 1 23 := ⟨by decide +kernel, rfl⟩
theorem qX1_colourAt_23 : Dc mX1_colourAt 23 (.ireturn) 1 24 := ⟨by decide +kernel, rfl⟩
theorem qX1_colourAt_24 : Dc mX1_colourAt 24 (.aload_n 0) 1 25 := ⟨by decide +kernel, rfl⟩
theorem qX1_colourAt_25 : Dc mX1_colourAt 25 (.getstatic 196) 3 28 := ⟨by decide +kernel, rfl⟩
theorem qX1_colourAt_28 : Dc mX1_colourAt 28 (.invokevirtual 110) 3 31 := ⟨by decide +kernel, rfl⟩
theorem qX1_colourAt_31 : Dc mX1_colourAt 31 (.ifCond .eq 7) 3 34 := ⟨by decide +kernel, rfl⟩
theorem qX1_colourAt_34 : Dc mX1_colourAt 34 (.iconst 3) 1 35 := ⟨by decide +kernel, rfl⟩
theorem qX1_colourAt_35 : Dc mX1_colourAt 35 (.goto 4) 3 38 := ⟨by decide +kernel, rfl⟩
theorem qX1_colourAt_38 : Dc mX1_colourAt 38 (.iconst 0) 1 39 := ⟨by decide +kernel, rfl⟩
theorem qX1_colourAt_39 : Dc mX1_colourAt 39 (.ireturn) 1 40 := ⟨by decide +kernel, rfl⟩

set_option maxRecDepth 20000 in
set_option maxHeartbeats 4000000 in
theorem w_X1_colourAt  {s0 : St} {r : Int32} (h : f_X1_colourAt  s0 = some r) : Ct mX1_colourAt 1 [.ref 1] s0 (some (.int r), s0) := by
  refine Ct.ofE (by decide +kernel) rfl ?_
  show E mX1_colourAt 1 (some (.int r), s0) 0 [some (.ref 1)] [] s0
  unfold f_X1_colourAt at h
  refine e_aload_n qX1_colourAt_0 rfl ?_
  refine e_getsw (i := 6) qX1_colourAt_1 (by decide) cg_X1_190 ?_
  obtain ⟨v1, hc, h⟩ := bp_e h
  refine e_cVi1 qX1_colourAt_4 mv_X1_110 shq_1 rfl rfl (w_X9_is hc) ?_
  refine e_if_eq (tgt := 12) qX1_colourAt_7 rfl h (fun _ h => ?_) (fun _ h => ?_)
  · refine e_aload_n qX1_colourAt_12 rfl ?_
    refine e_getsw (i := 7) qX1_colourAt_13 (by decide) cg_X1_193 ?_
    obtain ⟨v2, hc, h⟩ := bp_e h
    refine e_cVi1 qX1_colourAt_16 mv_X1_110 shq_1 rfl rfl (w_X9_is hc) ?_
    refine e_if_eq (tgt := 24) qX1_colourAt_19 rfl h (fun _ h => ?_) (fun _ h => ?_)
    · refine e_aload_n qX1_colourAt_24 rfl ?_
      refine e_getsw (i := 8) qX1_colourAt_25 (by decide) cg_X1_196 ?_
      obtain ⟨v3, hc, h⟩ := bp_e h
      refine e_cVi1 qX1_colourAt_28 mv_X1_110 shq_1 rfl rfl (w_X9_is hc) ?_
      refine e_if_eq (tgt := 38) qX1_colourAt_31 rfl h (fun _ h => ?_) (fun _ h => ?_)
      · refine e_iconst (nI 0) qX1_colourAt_38 rfl ?_
        exact e_iret qX1_colourAt_39 rfl (ret_p h)
      refine e_iconst (nI 3) qX1_colourAt_34 rfl ?_
      refine e_goto (tgt := 39) qX1_colourAt_35 rfl ?_
      exact e_iret qX1_colourAt_39 rfl (ret_p h)
    refine e_iconst (nI 2) qX1_colourAt_22 rfl ?_
    exact e_iret qX1_colourAt_23 rfl (ret_p h)
  refine e_iconst (nI 1) qX1_colourAt_10 rfl ?_
  exact e_iret qX1_colourAt_11 rfl (ret_p h)

def f_X2_draw (x1 : Int32) (s0 : St) : Option (Int32 × St) :=
  vl (s0.1 131 0) fun v1 =>
  vl (sI s0 131 0 ((v1 * (1103515245 : Int32)) + (nI 12345))) fun s2 =>
  vl (s2.1 131 0) fun v3 =>
  bp (f_X11_remainder (ush v3 (nI 8)) x1 s2) fun v4 =>
  some (v4, s2)

theorem qX2_draw_0 : Dc mX2_draw 0 (.aload_n 0) 1 1 := ⟨by decide +kernel, rfl⟩
theorem qX2_draw_1 : Dc mX2_draw 1 (.aload_n 0) 1 2 := ⟨by decide +kernel, rfl⟩
theorem qX2_draw_2 : Dc mX2_draw 2 (.getfield 9) 3 5 := ⟨by decide +kernel, rfl⟩
theorem qX2_draw_5 : Dc mX2_draw 5 (.ldc 27) 2 7 := ⟨by decide +kernel, rfl⟩
theorem qX2_draw_7 : Dc mX2_draw 7 (.imul) 1 8 := ⟨by decide +kernel, rfl⟩
theorem qX2_draw_8 : Dc mX2_draw 8 (.sipush 12345) 3 11 := ⟨by decide +kernel, rfl⟩
theorem qX2_draw_11 : Dc mX2_draw 11 (.iadd) 1 12 := ⟨by decide +kernel, rfl⟩
theorem qX2_draw_12 : Dc mX2_draw 12 (.putfield 9) 3 15 := ⟨by decide +kernel, rfl⟩
theorem qX2_draw_15 : Dc mX2_draw 15 (.aload_n 0) 1 16 := ⟨by decide +kernel, rfl⟩
theorem qX2_draw_16 : Dc mX2_draw 16 (.getfield 9) 3 19 := ⟨by decide +kernel, rfl⟩
theorem qX2_draw_19 : Dc mX2_draw 19 (.bipush 8) 2 21 := ⟨by decide +kernel, rfl⟩
theorem qX2_draw_21 : Dc mX2_draw 21 (.iushr) 1 22 := ⟨by decide +kernel, rfl⟩
theorem qX2_draw_22 : Dc mX2_draw 22 (.iload_n 1) 1 23 := ⟨by decide +kernel, rfl⟩
theorem qX2_draw_23 : Dc mX2_draw 23 (.invokestatic 28) 3 26 := ⟨by decide +kernel, rfl⟩
theorem qX2_draw_26 : Dc mX2_draw 26 (.ireturn) 1 27 := ⟨by decide +kernel, rfl⟩

set_option maxRecDepth 20000 in
set_option maxHeartbeats 4000000 in
theorem w_X2_draw {x1 : Int32} {s0 : St} {r : Int32} {sr : St} (h : f_X2_draw x1 s0 = some (r, sr)) : Ct mX2_draw 1 [.ref 131, .int x1] s0 (some (.int r), sr) := by
  refine Ct.ofE (by decide +kernel) rfl ?_
  show E mX2_draw 1 (some (.int r), sr) 0 [some (.ref 131), some (.int x1)] [] s0
  unfold f_X2_draw at h
  refine e_aload_n qX2_draw_0 rfl ?_
  refine e_aload_n qX2_draw_1 rfl ?_
  refine e_geti qX2_draw_2 fl_X2_9 shq_131 kdq_2_0 h (fun v1 h => ?_)
  refine e_ldc (1103515245 : Int32) qX2_draw_5 cw_X2_27 ?_
  refine e_imul qX2_draw_7 ?_
  refine e_sipush (nI 12345) qX2_draw_8 rfl ?_
  refine e_iadd qX2_draw_11 ?_
  refine e_puti qX2_draw_12 fp_X2_9 shq_131 kdq_2_0 h (fun s2 h => ?_)
  refine e_aload_n qX2_draw_15 rfl ?_
  refine e_geti qX2_draw_16 fl_X2_9 shq_131 kdq_2_0 h (fun v3 h => ?_)
  refine e_bipush (nI 8) qX2_draw_19 rfl ?_
  refine e_iushr qX2_draw_21 ?_
  refine e_iload_n qX2_draw_22 rfl ?_
  obtain ⟨v4, hc, h⟩ := bp_e h
  refine e_cNi2 qX2_draw_23 mn_X2_28 rfl rfl (w_X11_remainder hc) ?_
  exact e_iret qX2_draw_26 rfl (ret_i h)

def f_X2_douseOrKindle (a0 : Nat) (x1 : Int32) (s0 : St) : Option (St) :=
  bp (f_X6_isOut a0 x1 s0) fun v1 =>
  if v1 = 0 then
    bd (f_X6_putOut a0 x1 s0) fun v2 s3 =>
    some s3
  else
  bd (f_X6_relight a0 x1 s0) fun v4 s5 =>
  some s5

theorem qX2_douseOrKindle_0 : Dc mX2_douseOrKindle 0 (.aload_n 0) 1 1 := ⟨by decide +kernel, rfl⟩
theorem qX2_douseOrKindle_1 : Dc mX2_douseOrKindle 1 (.iload_n 1) 1 2 := ⟨by decide +kernel, rfl⟩
theorem qX2_douseOrKindle_2 : Dc mX2_douseOrKindle 2 (.invokevirtual 61) 3 5 := ⟨by decide +kernel, rfl⟩
theorem qX2_douseOrKindle_5 : Dc mX2_douseOrKindle 5 (.ifCond .eq 12) 3 8 := ⟨by decide +kernel, rfl⟩
theorem qX2_douseOrKindle_8 : Dc mX2_douseOrKindle 8 (.aload_n 0) 1 9 := ⟨by decide +kernel, rfl⟩
theorem qX2_douseOrKindle_9 : Dc mX2_douseOrKindle 9 (.iload_n 1) 1 10 := ⟨by decide +kernel, rfl⟩
theorem qX2_douseOrKindle_10 : Dc mX2_douseOrKindle 10 (.invokevirtual 65) 3 13 := ⟨by decide +kernel, rfl⟩
theorem qX2_douseOrKindle_13 : Dc mX2_douseOrKindle 13 (.pop) 1 14 := ⟨by decide +kernel, rfl⟩
theorem qX2_douseOrKindle_14 : Dc mX2_douseOrKindle 14 (.goto 9) 3 17 := ⟨by decide +kernel, rfl⟩
theorem qX2_douseOrKindle_17 : Dc mX2_douseOrKindle 17 (.aload_n 0) 1 18 := ⟨by decide +kernel, rfl⟩
theorem qX2_douseOrKindle_18 : Dc mX2_douseOrKindle 18 (.iload_n 1) 1 19 := ⟨by decide +kernel, rfl⟩
theorem qX2_douseOrKindle_19 : Dc mX2_douseOrKindle 19 (.invokevirtual 68) 3 22 := ⟨by decide +kernel, rfl⟩
theorem qX2_douseOrKindle_22 : Dc mX2_douseOrKindle 22 (.pop) 1 23 := ⟨by decide +kernel, rfl⟩
theorem qX2_douseOrKindle_23 : Dc mX2_douseOrKindle 23 (.return_) 1 24 := ⟨by decide +kernel, rfl⟩

set_option maxRecDepth 20000 in
set_option maxHeartbeats 4000000 in
theorem w_X2_douseOrKindle {a0 : Nat} {x1 : Int32} {s0 : St} {sr : St} (h_a0 : sh a0 = 6) (h : f_X2_douseOrKindle a0 x1 s0 = some sr) : Ct mX2_douseOrKindle 2 [.ref a0, .int x1] s0 (none, sr) := by
  refine Ct.ofE (by decide +kernel) rfl ?_
  show E mX2_douseOrKindle 2 (none, sr) 0 [some (.ref a0), some (.int x1)] [] s0
  unfold f_X2_douseOrKindle at h
  refine e_aload_n qX2_douseOrKindle_0 rfl ?_
  refine e_iload_n qX2_douseOrKindle_1 rfl ?_
  obtain ⟨v1, hc, h⟩ := bp_e h
  refine e_cVi1 qX2_douseOrKindle_2 mv_X2_61 h_a0 rfl rfl (w_X6_isOut h_a0 hc) ?_
  refine e_if_eq (tgt := 17) qX2_douseOrKindle_5 rfl h (fun _ h => ?_) (fun _ h => ?_)
  · refine e_aload_n qX2_douseOrKindle_17 rfl ?_
    refine e_iload_n qX2_douseOrKindle_18 rfl ?_
    obtain ⟨v2, s3, hc, h⟩ := bd_e h
    refine e_cVi1 qX2_douseOrKindle_19 mv_X2_68 h_a0 rfl rfl (w_X6_putOut h_a0 hc) ?_
    refine e_pop qX2_douseOrKindle_22 rfl ?_
    exact e_vret qX2_douseOrKindle_23 rfl (ret_v h)
  refine e_aload_n qX2_douseOrKindle_8 rfl ?_
  refine e_iload_n qX2_douseOrKindle_9 rfl ?_
  obtain ⟨v4, s5, hc, h⟩ := bd_e h
  refine e_cVi1 qX2_douseOrKindle_10 mv_X2_65 h_a0 rfl rfl (w_X6_relight h_a0 hc) ?_
  refine e_pop qX2_douseOrKindle_13 rfl ?_
  refine e_goto (tgt := 23) qX2_douseOrKindle_14 rfl ?_
  exact e_vret qX2_douseOrKindle_23 rfl (ret_v h)

def f_X4_addFlash (N : Nat) (a0 : Nat) (x1 : Int32) (x2 : Int32) (s0 : St) : Option (St) :=
  vl (s0.1 a0 9) fun v1 =>
  jn (fun (s2 : St) =>
    vl (s2.1 a0 9) fun v4 =>
    vl (sI s2 a0 9 (v4 + (nI 1))) fun s5 =>
    bp (f_X4_addSeconds N a0 x1 (nI 1) s5) fun s6 =>
    bp (f_X4_addSeconds N a0 x2 (nI 0) s6) fun s7 =>
    some s7) fun j3 =>
  if v1 = 0 then
    vl (sI s0 a0 10 (nI 0)) fun s8 =>
    j3 s8
  else
  j3 s0

theorem qX4_addFlash_0 : Dc mX4_addFlash 0 (.aload_n 0) 1 1 := ⟨by decide +kernel, rfl⟩
theorem qX4_addFlash_1 : Dc mX4_addFlash 1 (.getfield 30) 3 4 := ⟨by decide +kernel, rfl⟩
theorem qX4_addFlash_4 : Dc mX4_addFlash 4 (.ifCond .ne 8) 3 7 := ⟨by decide +kernel, rfl⟩
theorem qX4_addFlash_7 : Dc mX4_addFlash 7 (.aload_n 0) 1 8 := ⟨by decide +kernel, rfl⟩
theorem qX4_addFlash_8 : Dc mX4_addFlash 8 (.iconst 0) 1 9 := ⟨by decide +kernel, rfl⟩
theorem qX4_addFlash_9 : Dc mX4_addFlash 9 (.putfield 33) 3 12 := ⟨by decide +kernel, rfl⟩
theorem qX4_addFlash_12 : Dc mX4_addFlash 12 (.aload_n 0) 1 13 := ⟨by decide +kernel, rfl⟩
theorem qX4_addFlash_13 : Dc mX4_addFlash 13 (.dup) 1 14 := ⟨by decide +kernel, rfl⟩
theorem qX4_addFlash_14 : Dc mX4_addFlash 14 (.getfield 30) 3 17 := ⟨by decide +kernel, rfl⟩
theorem qX4_addFlash_17 : Dc mX4_addFlash 17 (.iconst 1) 1 18 := ⟨by decide +kernel, rfl⟩
theorem qX4_addFlash_18 : Dc mX4_addFlash 18 (.iadd) 1 19 := ⟨by decide +kernel, rfl⟩
theorem qX4_addFlash_19 : Dc mX4_addFlash 19 (.putfield 30) 3 22 := ⟨by decide +kernel, rfl⟩
theorem qX4_addFlash_22 : Dc mX4_addFlash 22 (.aload_n 0) 1 23 := ⟨by decide +kernel, rfl⟩
theorem qX4_addFlash_23 : Dc mX4_addFlash 23 (.iload_n 1) 1 24 := ⟨by decide +kernel, rfl⟩
theorem qX4_addFlash_24 : Dc mX4_addFlash 24 (.iconst 1) 1 25 := ⟨by decide +kernel, rfl⟩
theorem qX4_addFlash_25 : Dc mX4_addFlash 25 (.invokevirtual 63) 3 28 := ⟨by decide +kernel, rfl⟩
theorem qX4_addFlash_28 : Dc mX4_addFlash 28 (.aload_n 0) 1 29 := ⟨by decide +kernel, rfl⟩
theorem qX4_addFlash_29 : Dc mX4_addFlash 29 (.iload_n 2) 1 30 := ⟨by decide +kernel, rfl⟩
theorem qX4_addFlash_30 : Dc mX4_addFlash 30 (.iconst 0) 1 31 := ⟨by decide +kernel, rfl⟩
theorem qX4_addFlash_31 : Dc mX4_addFlash 31 (.invokevirtual 63) 3 34 := ⟨by decide +kernel, rfl⟩
theorem qX4_addFlash_34 : Dc mX4_addFlash 34 (.return_) 1 35 := ⟨by decide +kernel, rfl⟩

set_option maxRecDepth 20000 in
set_option maxHeartbeats 4000000 in
theorem w_X4_addFlash {N : Nat} {a0 : Nat} {x1 : Int32} {x2 : Int32} {s0 : St} {sr : St} (h_a0 : sh a0 = 4) (h : f_X4_addFlash N a0 x1 x2 s0 = some sr) : Ct mX4_addFlash 1 [.ref a0, .int x1, .int x2] s0 (none, sr) := by
  refine Ct.ofE (by decide +kernel) rfl ?_
  show E mX4_addFlash 1 (none, sr) 0 [some (.ref a0), some (.int x1), some (.int x2)] [] s0
  unfold f_X4_addFlash at h
  refine e_aload_n qX4_addFlash_0 rfl ?_
  refine e_geti qX4_addFlash_1 fl_X4_30 h_a0 kdq_4_9 h (fun v1 h => ?_)
  refine jn_e (fun j => ∀ (s2 : St), j s2 = some sr → E mX4_addFlash 1 (none, sr) 12 [some (.ref a0), some (.int x1), some (.int x2)] [] s2) h ?_ (fun j3 hj3 h => ?_)
  · intro s2 h
    refine e_aload_n qX4_addFlash_12 rfl ?_
    refine e_dup qX4_addFlash_13 rfl ?_
    refine e_geti qX4_addFlash_14 fl_X4_30 h_a0 kdq_4_9 h (fun v4 h => ?_)
    refine e_iconst (nI 1) qX4_addFlash_17 rfl ?_
    refine e_iadd qX4_addFlash_18 ?_
    refine e_puti qX4_addFlash_19 fp_X4_30 h_a0 kdq_4_9 h (fun s5 h => ?_)
    refine e_aload_n qX4_addFlash_22 rfl ?_
    refine e_iload_n qX4_addFlash_23 rfl ?_
    refine e_iconst (nI 1) qX4_addFlash_24 rfl ?_
    obtain ⟨s6, hc, h⟩ := bp_e h
    refine e_cVv2 qX4_addFlash_25 mv_X4_63 h_a0 rfl rfl (w_X4_addSeconds h_a0 hc) ?_
    refine e_aload_n qX4_addFlash_28 rfl ?_
    refine e_iload_n qX4_addFlash_29 rfl ?_
    refine e_iconst (nI 0) qX4_addFlash_30 rfl ?_
    obtain ⟨s7, hc, h⟩ := bp_e h
    refine e_cVv2 qX4_addFlash_31 mv_X4_63 h_a0 rfl rfl (w_X4_addSeconds h_a0 hc) ?_
    exact e_vret qX4_addFlash_34 rfl (ret_v h)
  refine e_if_ne (tgt := 12) qX4_addFlash_4 rfl h (fun _ h => ?_) (fun _ h => ?_)
  · refine e_aload_n qX4_addFlash_7 rfl ?_
    refine e_iconst (nI 0) qX4_addFlash_8 rfl ?_
    refine e_puti qX4_addFlash_9 fp_X4_33 h_a0 kdq_4_10 h (fun s8 h => ?_)
    exact e_weak (hj3 _ h) ⟨Or.inr rfl, Or.inr rfl, Or.inr rfl, trivial⟩
  exact e_weak (hj3 _ h) ⟨Or.inr rfl, Or.inr rfl, Or.inr rfl, trivial⟩

def f_X4_shownAt (a0 : Nat) (x1 : Int32) (s0 : St) : Option (Int32) :=
  vl (s0.1 a0 10) fun v1 =>
  bp (f_X11_remainder x1 v1 s0) fun v2 =>
  ald (s0.1 (rr a0 11)) 160 v2 fun v3 =>
  if v3 = 0 then
    some (nI 0)
  else
  vl (s0.1 a0 4) fun v4 =>
  some v4

theorem qX4_shownAt_0 : Dc mX4_shownAt 0 (.aload_n 0) 1 1 := ⟨by decide +kernel, rfl⟩
theorem qX4_shownAt_1 : Dc mX4_shownAt 1 (.getfield 9) 3 4 := ⟨by decide +kernel, rfl⟩
theorem qX4_shownAt_4 : Dc mX4_shownAt 4 (.iload_n 1) 1 5 := ⟨by decide +kernel, rfl⟩
theorem qX4_shownAt_5 : Dc mX4_shownAt 5 (.aload_n 0) 1 6 := ⟨by decide +kernel, rfl⟩
theorem qX4_shownAt_6 : Dc mX4_shownAt 6 (.getfield 33) 3 9 := ⟨by decide +kernel, rfl⟩
theorem qX4_shownAt_9 : Dc mX4_shownAt 9 (.invokestatic 67) 3 12 := ⟨by decide +kernel, rfl⟩
theorem qX4_shownAt_12 : Dc mX4_shownAt 12 (.baload) 1 13 := ⟨by decide +kernel, rfl⟩
theorem qX4_shownAt_13 : Dc mX4_shownAt 13 (.ifCond .eq 10) 3 16 := ⟨by decide +kernel, rfl⟩
theorem qX4_shownAt_16 : Dc mX4_shownAt 16 (.aload_n 0) 1 17 := ⟨by decide +kernel, rfl⟩
theorem qX4_shownAt_17 : Dc mX4_shownAt 17 (.getfield 45) 3 20 := ⟨by decide +kernel, rfl⟩
theorem qX4_shownAt_20 : Dc mX4_shownAt 20 (.goto 4) 3 23 := ⟨by decide +kernel, rfl⟩
theorem qX4_shownAt_23 : Dc mX4_shownAt 23 (.iconst 0) 1 24 := ⟨by decide +kernel, rfl⟩
theorem qX4_shownAt_24 : Dc mX4_shownAt 24 (.ireturn) 1 25 := ⟨by decide +kernel, rfl⟩

set_option maxRecDepth 20000 in
set_option maxHeartbeats 4000000 in
theorem w_X4_shownAt {a0 : Nat} {x1 : Int32} {s0 : St} {r : Int32} (h_a0 : sh a0 = 4) (h : f_X4_shownAt a0 x1 s0 = some r) : Ct mX4_shownAt 1 [.ref a0, .int x1] s0 (some (.int r), s0) := by
  refine Ct.ofE (by decide +kernel) rfl ?_
  show E mX4_shownAt 1 (some (.int r), s0) 0 [some (.ref a0), some (.int x1)] [] s0
  unfold f_X4_shownAt at h
  refine e_aload_n qX4_shownAt_0 rfl ?_
  refine e_getr (rr a0 11) qX4_shownAt_1 fl_X4_9 h_a0 kdq_4_11 rfl ?_
  refine e_iload_n qX4_shownAt_4 rfl ?_
  refine e_aload_n qX4_shownAt_5 rfl ?_
  refine e_geti qX4_shownAt_6 fl_X4_33 h_a0 kdq_4_10 h (fun v1 h => ?_)
  obtain ⟨v2, hc, h⟩ := bp_e h
  refine e_cNi2 qX4_shownAt_9 mn_X4_67 rfl rfl (w_X11_remainder hc) ?_
  refine e_zald qX4_shownAt_12 (wt_4_11 _ h_a0).1 (wt_4_11 _ h_a0).2 h (fun v3 h => ?_)
  refine e_if_eq (tgt := 23) qX4_shownAt_13 rfl h (fun _ h => ?_) (fun _ h => ?_)
  · refine e_iconst (nI 0) qX4_shownAt_23 rfl ?_
    exact e_iret qX4_shownAt_24 rfl (ret_p h)
  refine e_aload_n qX4_shownAt_16 rfl ?_
  refine e_geti qX4_shownAt_17 fl_X4_45 h_a0 kdq_4_4 h (fun v4 h => ?_)
  refine e_goto (tgt := 24) qX4_shownAt_20 rfl ?_
  exact e_iret qX4_shownAt_24 rfl (ret_p h)

def f_X4_sameFor_L9 (N : Nat) (c1 : Nat) (c2 : Nat) (s0 : St) : Nat → Int32 → Int32 → Int32 → Option (Int32)
  | 0, _, _, _ => none
  | n6 + 1, v3, v4, v5 =>
    if (nI 400) ≤ v5 then
      some (nI 400)
    else
    bp (f_X4_shownAt c1 v3 s0) fun v8 =>
    bp (f_X4_shownAt c2 v4 s0) fun v9 =>
    if v8 = v9 then
      bp (f_X4_placeBehind c1 v3 s0) fun v10 =>
      bp (f_X4_placeBehind c2 v4 s0) fun v11 =>
      vl (v5 + (nI 1)) fun v12 =>
      f_X4_sameFor_L9 N c1 c2 s0 n6 v10 v11 v12
    else
    some v5

def f_X4_sameFor (N : Nat) (a0 : Nat) (x1 : Int32) (a2 : Nat) (x3 : Int32) (s0 : St) : Option (Int32) :=
  f_X4_sameFor_L9 N a0 a2 s0 N x1 x3 (nI 0)

theorem qX4_sameFor_0 : Dc mX4_sameFor 0 (.iload_n 1) 1 1 := ⟨by decide +kernel, rfl⟩
theorem qX4_sameFor_1 : Dc mX4_sameFor 1 (.istore 4) 2 3 := ⟨by decide +kernel, rfl⟩
theorem qX4_sameFor_3 : Dc mX4_sameFor 3 (.iload_n 3) 1 4 := ⟨by decide +kernel, rfl⟩
theorem qX4_sameFor_4 : Dc mX4_sameFor 4 (.istore 5) 2 6 := ⟨by decide +kernel, rfl⟩
theorem qX4_sameFor_6 : Dc mX4_sameFor 6 (.iconst 0) 1 7 := ⟨by decide +kernel, rfl⟩
theorem qX4_sameFor_7 : Dc mX4_sameFor 7 (.istore 6) 2 9 := ⟨by decide +kernel, rfl⟩
theorem qX4_sameFor_9 : Dc mX4_sameFor 9 (.iload 6) 2 11 := ⟨by decide +kernel, rfl⟩
theorem qX4_sameFor_11 : Dc mX4_sameFor 11 (.sipush 400) 3 14 := ⟨by decide +kernel, rfl⟩
theorem qX4_sameFor_14 : Dc mX4_sameFor 14 (.if_icmp .ge 43) 3 17 := ⟨by decide +kernel, rfl⟩
theorem qX4_sameFor_17 : Dc mX4_sameFor 17 (.aload_n 0) 1 18 := ⟨by decide +kernel, rfl⟩
theorem qX4_sameFor_18 : Dc mX4_sameFor 18 (.iload 4) 2 20 := ⟨by decide +kernel, rfl⟩
theorem qX4_sameFor_20 : Dc mX4_sameFor 20 (.invokevirtual 71) 3 23 := ⟨by decide +kernel, rfl⟩
theorem qX4_sameFor_23 : Dc mX4_sameFor 23 (.aload_n 2) 1 24 := ⟨by decide +kernel, rfl⟩
theorem qX4_sameFor_24 : Dc mX4_sameFor 24 (.iload 5) 2 26 := ⟨by decide +kernel, rfl⟩
theorem qX4_sameFor_26 : Dc mX4_sameFor 26 (.invokevirtual 71) 3 29 := ⟨by decide +kernel, rfl⟩
theorem qX4_sameFor_29 : Dc mX4_sameFor 29 (.if_icmp .eq 6) 3 32 := ⟨by decide +kernel, rfl⟩
theorem qX4_sameFor_32 : Dc mX4_sameFor 32 (.iload 6) 2 34 := ⟨by decide +kernel, rfl⟩
theorem qX4_sameFor_34 : Dc mX4_sameFor 34 (.ireturn) 1 35 := ⟨by decide +kernel, rfl⟩
theorem qX4_sameFor_35 : Dc mX4_sameFor 35 (.aload_n 0) 1 36 := ⟨by decide +kernel, rfl⟩
theorem qX4_sameFor_36 : Dc mX4_sameFor 36 (.iload 4) 2 38 := ⟨by decide +kernel, rfl⟩
theorem qX4_sameFor_38 : Dc mX4_sameFor 38 (.invokevirtual 75) 3 41 := ⟨by decide +kernel, rfl⟩
theorem qX4_sameFor_41 : Dc mX4_sameFor 41 (.istore 4) 2 43 := ⟨by decide +kernel, rfl⟩
theorem qX4_sameFor_43 : Dc mX4_sameFor 43 (.aload_n 2) 1 44 := ⟨by decide +kernel, rfl⟩
theorem qX4_sameFor_44 : Dc mX4_sameFor 44 (.iload 5) 2 46 := ⟨by decide +kernel, rfl⟩
theorem qX4_sameFor_46 : Dc mX4_sameFor 46 (.invokevirtual 75) 3 49 := ⟨by decide +kernel, rfl⟩
theorem qX4_sameFor_49 : Dc mX4_sameFor 49 (.istore 5) 2 51 := ⟨by decide +kernel, rfl⟩
theorem qX4_sameFor_51 : Dc mX4_sameFor 51 (.iinc 6 1) 3 54 := ⟨by decide +kernel, rfl⟩
theorem qX4_sameFor_54 : Dc mX4_sameFor 54 (.goto (-45)) 3 57 := ⟨by decide +kernel, rfl⟩
theorem qX4_sameFor_57 : Dc mX4_sameFor 57 (.sipush 400) 3 60 := ⟨by decide +kernel, rfl⟩
theorem qX4_sameFor_60 : Dc mX4_sameFor 60 (.ireturn) 1 61 := ⟨by decide +kernel, rfl⟩

set_option maxRecDepth 20000 in
set_option maxHeartbeats 4000000 in
theorem w_X4_sameFor_L9 {N : Nat} {c1 : Nat} {c2 : Nat} {s0 : St}  {r : Int32} (h_c1 : sh c1 = 4) (h_c2 : sh c2 = 4)  : ∀ (n6 : Nat) (v3 : Int32) (v4 : Int32) (v5 : Int32), f_X4_sameFor_L9 N c1 c2 s0 n6 v3 v4 v5 = some r → E mX4_sameFor 2 (some (.int r), s0) 9 [some (.ref c1), none, some (.ref c2), none, some (.int v3), some (.int v4), some (.int v5)] [] s0 := by
  intro n6
  induction n6 with
  | zero =>
    intro v3 v4 v5 h
    rw [f_X4_sameFor_L9] at h; cases h
  | succ n6 ih7 =>
    intro v3 v4 v5 h
    rw [f_X4_sameFor_L9] at h
    refine e_iload qX4_sameFor_9 rfl ?_
    refine e_sipush (nI 400) qX4_sameFor_11 rfl ?_
    refine e_icmp_ge (tgt := 57) qX4_sameFor_14 rfl h (fun _ h => ?_) (fun _ h => ?_)
    · refine e_sipush (nI 400) qX4_sameFor_57 rfl ?_
      exact e_iret qX4_sameFor_60 rfl (ret_p h)
    refine e_aload_n qX4_sameFor_17 rfl ?_
    refine e_iload qX4_sameFor_18 rfl ?_
    obtain ⟨v8, hc, h⟩ := bp_e h
    refine e_cVi1 qX4_sameFor_20 mv_X4_71 h_c1 rfl rfl (w_X4_shownAt h_c1 hc) ?_
    refine e_aload_n qX4_sameFor_23 rfl ?_
    refine e_iload qX4_sameFor_24 rfl ?_
    obtain ⟨v9, hc, h⟩ := bp_e h
    refine e_cVi1 qX4_sameFor_26 mv_X4_71 h_c2 rfl rfl (w_X4_shownAt h_c2 hc) ?_
    refine e_icmp_eq (tgt := 35) qX4_sameFor_29 rfl h (fun _ h => ?_) (fun _ h => ?_)
    · refine e_aload_n qX4_sameFor_35 rfl ?_
      refine e_iload qX4_sameFor_36 rfl ?_
      obtain ⟨v10, hc, h⟩ := bp_e h
      refine e_cVi1 qX4_sameFor_38 mv_X4_75 h_c1 rfl rfl (w_X4_placeBehind h_c1 hc) ?_
      refine e_istore (lv2 := [some (.ref c1), none, some (.ref c2), none, some (.int v10), some (.int v4), some (.int v5)]) qX4_sameFor_41 rfl rfl rfl ?_
      refine e_aload_n qX4_sameFor_43 rfl ?_
      refine e_iload qX4_sameFor_44 rfl ?_
      obtain ⟨v11, hc, h⟩ := bp_e h
      refine e_cVi1 qX4_sameFor_46 mv_X4_75 h_c2 rfl rfl (w_X4_placeBehind h_c2 hc) ?_
      refine e_istore (lv2 := [some (.ref c1), none, some (.ref c2), none, some (.int v10), some (.int v11), some (.int v5)]) qX4_sameFor_49 rfl rfl rfl ?_
      refine vl_e h (fun h => ?_)
      obtain ⟨v12, ev12⟩ : ∃ y, v5 + (nI 1) = y := ⟨_, rfl⟩
      rw [ev12] at h
      refine e_iinc (nI 1) v12 (lv2 := [some (.ref c1), none, some (.ref c2), none, some (.int v10), some (.int v11), some (.int v12)]) qX4_sameFor_51 rfl rfl rfl ev12 rfl ?_
      refine e_goto (tgt := 9) qX4_sameFor_54 rfl ?_
      exact e_weak (ih7 _ _ _ h) ⟨Or.inr rfl, Or.inl rfl, Or.inr rfl, Or.inl rfl, Or.inr rfl, Or.inr rfl, Or.inr rfl, trivial⟩
    refine e_iload qX4_sameFor_32 rfl ?_
    exact e_iret qX4_sameFor_34 rfl (ret_p h)

set_option maxRecDepth 20000 in
set_option maxHeartbeats 4000000 in
theorem w_X4_sameFor {N : Nat} {a0 : Nat} {x1 : Int32} {a2 : Nat} {x3 : Int32} {s0 : St} {r : Int32} (h_a0 : sh a0 = 4) (h_a2 : sh a2 = 4) (h : f_X4_sameFor N a0 x1 a2 x3 s0 = some r) : Ct mX4_sameFor 2 [.ref a0, .int x1, .ref a2, .int x3] s0 (some (.int r), s0) := by
  refine Ct.ofE (by decide +kernel) rfl ?_
  show E mX4_sameFor 2 (some (.int r), s0) 0 [some (.ref a0), some (.int x1), some (.ref a2), some (.int x3), none, none, none] [] s0
  unfold f_X4_sameFor at h
  refine e_iload_n qX4_sameFor_0 rfl ?_
  refine e_istore (lv2 := [some (.ref a0), some (.int x1), some (.ref a2), some (.int x3), some (.int x1), none, none]) qX4_sameFor_1 rfl rfl rfl ?_
  refine e_iload_n qX4_sameFor_3 rfl ?_
  refine e_istore (lv2 := [some (.ref a0), some (.int x1), some (.ref a2), some (.int x3), some (.int x1), some (.int x3), none]) qX4_sameFor_4 rfl rfl rfl ?_
  refine e_iconst (nI 0) qX4_sameFor_6 rfl ?_
  refine e_istore (lv2 := [some (.ref a0), some (.int x1), some (.ref a2), some (.int x3), some (.int x1), some (.int x3), some (.int (nI 0))]) qX4_sameFor_7 rfl rfl rfl ?_
  exact e_weak (w_X4_sameFor_L9 h_a0 h_a2  _ _ _ _ h) ⟨Or.inr rfl, Or.inl rfl, Or.inr rfl, Or.inl rfl, Or.inr rfl, Or.inr rfl, Or.inr rfl, trivial⟩

def f_X4_isAlike_L26 (N : Nat) (c5 : Nat) (c6 : Nat) (s0 : St) : Nat → Int32 → Option (Int32)
  | 0, _ => none
  | n8 + 1, v7 =>
    vl (s0.1 c5 10) fun v10 =>
    if v10 ≤ v7 then
      some (nI 0)
    else
    bp (f_X4_hasRowFrom N c5 c6 v7 s0) fun v11 =>
    if v11 = 0 then
      vl (v7 + (nI 1)) fun v12 =>
      f_X4_isAlike_L26 N c5 c6 s0 n8 v12
    else
    some (nI 1)

def f_X4_isAlike (N : Nat) (a0 : Nat) (a1 : Nat) (s0 : St) : Option (Int32) :=
  vl (s0.1 a0 4) fun v1 =>
  vl (s0.1 a1 4) fun v2 =>
  if v1 = v2 then
    vl (s0.1 a0 10) fun v3 =>
    vl (s0.1 a1 10) fun v4 =>
    if v3 = v4 then
      f_X4_isAlike_L26 N a0 a1 s0 N (nI 0)
    else
    some (nI 0)
  else
  some (nI 0)

theorem qX4_isAlike_0 : Dc mX4_isAlike 0 (.aload_n 0) 1 1 := ⟨by decide +kernel, rfl⟩
theorem qX4_isAlike_1 : Dc mX4_isAlike 1 (.getfield 45) 3 4 := ⟨by decide +kernel, rfl⟩
theorem qX4_isAlike_4 : Dc mX4_isAlike 4 (.aload_n 1) 1 5 := ⟨by decide +kernel, rfl⟩
theorem qX4_isAlike_5 : Dc mX4_isAlike 5 (.getfield 45) 3 8 := ⟨by decide +kernel, rfl⟩
theorem qX4_isAlike_8 : Dc mX4_isAlike 8 (.if_icmp .ne 14) 3 11 := ⟨by decide +kernel, rfl⟩
theorem qX4_isAlike_11 : Dc mX4_isAlike 11 (.aload_n 0) 1 12 := ⟨by decide +kernel, rfl⟩
theorem qX4_isAlike_12 : Dc mX4_isAlike 12 (.getfield 33) 3 15 := ⟨by decide +kernel, rfl⟩
theorem qX4_isAlike_15 : Dc mX4_isAlike 15 (.aload_n 1) 1 16 := ⟨by decide +kernel, rfl⟩
theorem qX4_isAlike_16 : Dc mX4_isAlike 16 (.getfield 33) 3 19 := ⟨by decide +kernel, rfl⟩
theorem qX4_isAlike_19 : Dc mX4_isAlike 19 (.if_icmp .eq 5) 3 22 := ⟨by decide +kernel, rfl⟩
theorem qX4_isAlike_22 : Dc mX4_isAlike 22 (.iconst 0) 1 23 := ⟨by decide +kernel, rfl⟩
theorem qX4_isAlike_23 : Dc mX4_isAlike 23 (.ireturn) 1 24 := ⟨by decide +kernel, rfl⟩
theorem qX4_isAlike_24 : Dc mX4_isAlike 24 (.iconst 0) 1 25 := ⟨by decide +kernel, rfl⟩
theorem qX4_isAlike_25 : Dc mX4_isAlike 25 (.istore_n 2) 1 26 := ⟨by decide +kernel, rfl⟩
theorem qX4_isAlike_26 : Dc mX4_isAlike 26 (.iload_n 2) 1 27 := ⟨by decide +kernel, rfl⟩
theorem qX4_isAlike_27 : Dc mX4_isAlike 27 (.aload_n 0) 1 28 := ⟨by decide +kernel, rfl⟩
theorem qX4_isAlike_28 : Dc mX4_isAlike 28 (.getfield 33) 3 31 := ⟨by decide +kernel, rfl⟩
theorem qX4_isAlike_31 : Dc mX4_isAlike 31 (.if_icmp .ge 20) 3 34 := ⟨by decide +kernel, rfl⟩
theorem qX4_isAlike_34 : Dc mX4_isAlike 34 (.aload_n 0) 1 35 := ⟨by decide +kernel, rfl⟩
theorem qX4_isAlike_35 : Dc mX4_isAlike 35 (.aload_n 1) 1 36 := ⟨by decide +kernel, rfl⟩
theorem qX4_isAlike_36 : Dc mX4_isAlike 36 (.iload_n 2) 1 37 := ⟨by decide +kernel, rfl⟩
theorem qX4_isAlike_37 : Dc mX4_isAlike 37 (.invokevirtual 78) 3 40 := ⟨by decide +kernel, rfl⟩
theorem qX4_isAlike_40 : Dc mX4_isAlike 40 (.ifCond .eq 5) 3 43 := ⟨by decide +kernel, rfl⟩
theorem qX4_isAlike_43 : Dc mX4_isAlike 43 (.iconst 1) 1 44 := ⟨by decide +kernel, rfl⟩
theorem qX4_isAlike_44 : Dc mX4_isAlike 44 (.ireturn) 1 45 := ⟨by decide +kernel, rfl⟩
theorem qX4_isAlike_45 : Dc mX4_isAlike 45 (.iinc 2 1) 3 48 := ⟨by decide +kernel, rfl⟩
theorem qX4_isAlike_48 : Dc mX4_isAlike 48 (.goto (-22)) 3 51 := ⟨by decide +kernel, rfl⟩
theorem qX4_isAlike_51 : Dc mX4_isAlike 51 (.iconst 0) 1 52 := ⟨by decide +kernel, rfl⟩
theorem qX4_isAlike_52 : Dc mX4_isAlike 52 (.ireturn) 1 53 := ⟨by decide +kernel, rfl⟩

set_option maxRecDepth 20000 in
set_option maxHeartbeats 4000000 in
theorem w_X4_isAlike_L26 {N : Nat} {c5 : Nat} {c6 : Nat} {s0 : St}  {r : Int32} (h_c5 : sh c5 = 4) (h_c6 : sh c6 = 4)  : ∀ (n8 : Nat) (v7 : Int32), f_X4_isAlike_L26 N c5 c6 s0 n8 v7 = some r → E mX4_isAlike 2 (some (.int r), s0) 26 [some (.ref c5), some (.ref c6), some (.int v7)] [] s0 := by
  intro n8
  induction n8 with
  | zero =>
    intro v7 h
    rw [f_X4_isAlike_L26] at h; cases h
  | succ n8 ih9 =>
    intro v7 h
    rw [f_X4_isAlike_L26] at h
    refine e_iload_n qX4_isAlike_26 rfl ?_
    refine e_aload_n qX4_isAlike_27 rfl ?_
    refine e_geti qX4_isAlike_28 fl_X4_33 h_c5 kdq_4_10 h (fun v10 h => ?_)
    refine e_icmp_ge (tgt := 51) qX4_isAlike_31 rfl h (fun _ h => ?_) (fun _ h => ?_)
    · refine e_iconst (nI 0) qX4_isAlike_51 rfl ?_
      exact e_zret qX4_isAlike_52 rfl (by decide) (ret_p h)
    refine e_aload_n qX4_isAlike_34 rfl ?_
    refine e_aload_n qX4_isAlike_35 rfl ?_
    refine e_iload_n qX4_isAlike_36 rfl ?_
    obtain ⟨v11, hc, h⟩ := bp_e h
    refine e_cVi2 qX4_isAlike_37 mv_X4_78 h_c5 rfl rfl (w_X4_hasRowFrom h_c5 h_c6 hc) ?_
    refine e_if_eq (tgt := 45) qX4_isAlike_40 rfl h (fun _ h => ?_) (fun _ h => ?_)
    · refine vl_e h (fun h => ?_)
      obtain ⟨v12, ev12⟩ : ∃ y, v7 + (nI 1) = y := ⟨_, rfl⟩
      rw [ev12] at h
      refine e_iinc (nI 1) v12 (lv2 := [some (.ref c5), some (.ref c6), some (.int v12)]) qX4_isAlike_45 rfl rfl rfl ev12 rfl ?_
      refine e_goto (tgt := 26) qX4_isAlike_48 rfl ?_
      exact e_weak (ih9 _ h) ⟨Or.inr rfl, Or.inr rfl, Or.inr rfl, trivial⟩
    refine e_iconst (nI 1) qX4_isAlike_43 rfl ?_
    exact e_zret qX4_isAlike_44 rfl (by decide) (ret_p h)

set_option maxRecDepth 20000 in
set_option maxHeartbeats 4000000 in
theorem w_X4_isAlike {N : Nat} {a0 : Nat} {a1 : Nat} {s0 : St} {r : Int32} (h_a0 : sh a0 = 4) (h_a1 : sh a1 = 4) (h : f_X4_isAlike N a0 a1 s0 = some r) : Ct mX4_isAlike 2 [.ref a0, .ref a1] s0 (some (.int r), s0) := by
  refine Ct.ofE (by decide +kernel) rfl ?_
  show E mX4_isAlike 2 (some (.int r), s0) 0 [some (.ref a0), some (.ref a1), none] [] s0
  unfold f_X4_isAlike at h
  refine e_aload_n qX4_isAlike_0 rfl ?_
  refine e_geti qX4_isAlike_1 fl_X4_45 h_a0 kdq_4_4 h (fun v1 h => ?_)
  refine e_aload_n qX4_isAlike_4 rfl ?_
  refine e_geti qX4_isAlike_5 fl_X4_45 h_a1 kdq_4_4 h (fun v2 h => ?_)
  refine e_icmp_ne (tgt := 22) qX4_isAlike_8 rfl h (fun _ h => ?_) (fun _ h => ?_)
  · refine e_aload_n qX4_isAlike_11 rfl ?_
    refine e_geti qX4_isAlike_12 fl_X4_33 h_a0 kdq_4_10 h (fun v3 h => ?_)
    refine e_aload_n qX4_isAlike_15 rfl ?_
    refine e_geti qX4_isAlike_16 fl_X4_33 h_a1 kdq_4_10 h (fun v4 h => ?_)
    refine e_icmp_eq (tgt := 24) qX4_isAlike_19 rfl h (fun _ h => ?_) (fun _ h => ?_)
    · refine e_iconst (nI 0) qX4_isAlike_24 rfl ?_
      refine e_istore_n (lv2 := [some (.ref a0), some (.ref a1), some (.int (nI 0))]) qX4_isAlike_25 rfl rfl rfl ?_
      exact e_weak (w_X4_isAlike_L26 h_a0 h_a1  _ _ h) ⟨Or.inr rfl, Or.inr rfl, Or.inr rfl, trivial⟩
    refine e_iconst (nI 0) qX4_isAlike_22 rfl ?_
    exact e_zret qX4_isAlike_23 rfl (by decide) (ret_p h)
  refine e_iconst (nI 0) qX4_isAlike_22 rfl ?_
  exact e_zret qX4_isAlike_23 rfl (by decide) (ret_p h)

def f_X4_isVisible (a0 : Nat) (x1 : Int32) (x2 : Int32) (x3 : Int32) (s0 : St) : Option (Int32) :=
  vl (s0.1 a0 1) fun v1 =>
  vl (x1 - v1) fun v2 =>
  vl (s0.1 a0 2) fun v3 =>
  vl (x2 - v3) fun v4 =>
  vl (s0.1 a0 3) fun v5 =>
  vl (mn v5 x3) fun v6 =>
  if ((v2 * v2) + (v4 * v4)) ≤ (v6 * v6) then
    bp (f_X11_octantOf v2 v4 s0) fun v7 =>
    if v7 = (-1) then
      some (nI 1)
    else
    vl (s0.1 a0 8) fun v8 =>
    if ((v8 >>> (v7 &&& 31)) &&& (nI 1)) = 0 then
      some (nI 1)
    else
    some (nI 0)
  else
  some (nI 0)

theorem qX4_isVisible_0 : Dc mX4_isVisible 0 (.iload_n 1) 1 1 := ⟨by decide +kernel, rfl⟩
theorem qX4_isVisible_1 : Dc mX4_isVisible 1 (.aload_n 0) 1 2 := ⟨by decide +kernel, rfl⟩
theorem qX4_isVisible_2 : Dc mX4_isVisible 2 (.getfield 36) 3 5 := ⟨by decide +kernel, rfl⟩
theorem qX4_isVisible_5 : Dc mX4_isVisible 5 (.isub) 1 6 := ⟨by decide +kernel, rfl⟩
theorem qX4_isVisible_6 : Dc mX4_isVisible 6 (.istore 4) 2 8 := ⟨by decide +kernel, rfl⟩
theorem qX4_isVisible_8 : Dc mX4_isVisible 8 (.iload_n 2) 1 9 := ⟨by decide +kernel, rfl⟩
theorem qX4_isVisible_9 : Dc mX4_isVisible 9 (.aload_n 0) 1 10 := ⟨by decide +kernel, rfl⟩
theorem qX4_isVisible_10 : Dc mX4_isVisible 10 (.getfield 39) 3 13 := ⟨by decide +kernel, rfl⟩
theorem qX4_isVisible_13 : Dc mX4_isVisible 13 (.isub) 1 14 := ⟨by decide +kernel, rfl⟩
theorem qX4_isVisible_14 : Dc mX4_isVisible 14 (.istore 5) 2 16 := ⟨by decide +kernel, rfl⟩
theorem qX4_isVisible_16 : Dc mX4_isVisible 16 (.aload_n 0) 1 17 := ⟨by decide +kernel, rfl⟩
theorem qX4_isVisible_17 : Dc mX4_isVisible 17 (.getfield 42) 3 20 := ⟨by decide +kernel, rfl⟩
theorem qX4_isVisible_20 : Dc mX4_isVisible 20 (.iload_n 3) 1 21 := ⟨by decide +kernel, rfl⟩
theorem qX4_isVisible_21 : Dc mX4_isVisible 21 (.invokestatic 82) 3 24 := ⟨by decide +kernel, rfl⟩
theorem qX4_isVisible_24 : Dc mX4_isVisible 24 (.istore 6) 2 26 := ⟨by decide +kernel, rfl⟩
theorem qX4_isVisible_26 : Dc mX4_isVisible 26 (.iload 4) 2 28 := ⟨by decide +kernel, rfl⟩
theorem qX4_isVisible_28 : Dc mX4_isVisible 28 (.iload 4) 2 30 := ⟨by decide +kernel, rfl⟩
theorem qX4_isVisible_30 : Dc mX4_isVisible 30 (.imul) 1 31 := ⟨by decide +kernel, rfl⟩
theorem qX4_isVisible_31 : Dc mX4_isVisible 31 (.iload 5) 2 33 := ⟨by decide +kernel, rfl⟩
theorem qX4_isVisible_33 : Dc mX4_isVisible 33 (.iload 5) 2 35 := ⟨by decide +kernel, rfl⟩
theorem qX4_isVisible_35 : Dc mX4_isVisible 35 (.imul) 1 36 := ⟨by decide +kernel, rfl⟩
theorem qX4_isVisible_36 : Dc mX4_isVisible 36 (.iadd) 1 37 := ⟨by decide +kernel, rfl⟩
theorem qX4_isVisible_37 : Dc mX4_isVisible 37 (.iload 6) 2 39 := ⟨by decide +kernel, rfl⟩
theorem qX4_isVisible_39 : Dc mX4_isVisible 39 (.iload 6) 2 41 := ⟨by decide +kernel, rfl⟩
theorem qX4_isVisible_41 : Dc mX4_isVisible 41 (.imul) 1 42 := ⟨by decide +kernel, rfl⟩
theorem qX4_isVisible_42 : Dc mX4_isVisible 42 (.if_icmp .le 5) 3 45 := ⟨by decide +kernel, rfl⟩
theorem qX4_isVisible_45 : Dc mX4_isVisible 45 (.iconst 0) 1 46 := ⟨by decide +kernel, rfl⟩
theorem qX4_isVisible_46 : Dc mX4_isVisible 46 (.ireturn) 1 47 := ⟨by decide +kernel, rfl⟩
theorem qX4_isVisible_47 : Dc mX4_isVisible 47 (.iload 4) 2 49 := ⟨by decide +kernel, rfl⟩
theorem qX4_isVisible_49 : Dc mX4_isVisible 49 (.iload 5) 2 51 := ⟨by decide +kernel, rfl⟩
theorem qX4_isVisible_51 : Dc mX4_isVisible 51 (.invokestatic 87) 3 54 := ⟨by decide +kernel, rfl⟩
theorem qX4_isVisible_54 : Dc mX4_isVisible 54 (.istore 7) 2 56 := ⟨by decide +kernel, rfl⟩
theorem qX4_isVisible_56 : Dc mX4_isVisible 56 (.iload 7) 2 58 := ⟨by decide +kernel, rfl⟩
theorem qX4_isVisible_58 : Dc mX4_isVisible 58 (.iconst (-1)) 1 59 := ⟨by decide +kernel, rfl⟩
theorem qX4_isVisible_59 : Dc mX4_isVisible 59 (.if_icmp .eq 15) 3 62 := ⟨by decide +kernel, rfl⟩
theorem qX4_isVisible_62 : Dc mX4_isVisible 62 (.aload_n 0) 1 63 := ⟨by decide +kernel, rfl⟩
theorem qX4_isVisible_63 : Dc mX4_isVisible 63 (.getfield 27) 3 66 := ⟨by decide +kernel, rfl⟩
theorem qX4_isVisible_66 : Dc mX4_isVisible 66 (.iload 7) 2 68 := ⟨by decide +kernel, rfl⟩
theorem qX4_isVisible_68 : Dc mX4_isVisible 68 (.ishr) 1 69 := ⟨by decide +kernel, rfl⟩
theorem qX4_isVisible_69 : Dc mX4_isVisible 69 (.iconst 1) 1 70 := ⟨by decide +kernel, rfl⟩
theorem qX4_isVisible_70 : Dc mX4_isVisible 70 (.iand) 1 71 := ⟨by decide +kernel, rfl⟩
theorem qX4_isVisible_71 : Dc mX4_isVisible 71 (.ifCond .ne 7) 3 74 := ⟨by decide +kernel, rfl⟩
theorem qX4_isVisible_74 : Dc mX4_isVisible 74 (.iconst 1) 1 75 := ⟨by decide +kernel, rfl⟩
theorem qX4_isVisible_75 : Dc mX4_isVisible 75 (.goto 4) 3 78 := ⟨by decide +kernel, rfl⟩
theorem qX4_isVisible_78 : Dc mX4_isVisible 78 (.iconst 0) 1 79 := ⟨by decide +kernel, rfl⟩
theorem qX4_isVisible_79 : Dc mX4_isVisible 79 (.ireturn) 1 80 := ⟨by decide +kernel, rfl⟩

set_option maxRecDepth 20000 in
set_option maxHeartbeats 4000000 in
theorem w_X4_isVisible {a0 : Nat} {x1 : Int32} {x2 : Int32} {x3 : Int32} {s0 : St} {r : Int32} (h_a0 : sh a0 = 4) (h : f_X4_isVisible a0 x1 x2 x3 s0 = some r) : Ct mX4_isVisible 1 [.ref a0, .int x1, .int x2, .int x3] s0 (some (.int r), s0) := by
  refine Ct.ofE (by decide +kernel) rfl ?_
  show E mX4_isVisible 1 (some (.int r), s0) 0 [some (.ref a0), some (.int x1), some (.int x2), some (.int x3), none, none, none, none] [] s0
  unfold f_X4_isVisible at h
  refine e_iload_n qX4_isVisible_0 rfl ?_
  refine e_aload_n qX4_isVisible_1 rfl ?_
  refine e_geti qX4_isVisible_2 fl_X4_36 h_a0 kdq_4_1 h (fun v1 h => ?_)
  refine e_isub qX4_isVisible_5 ?_
  refine vl_e h (fun h => ?_)
  generalize (x1 - v1) = v2 at h ⊢
  refine e_istore (lv2 := [some (.ref a0), some (.int x1), some (.int x2), some (.int x3), some (.int v2), none, none, none]) qX4_isVisible_6 rfl rfl rfl ?_
  refine e_iload_n qX4_isVisible_8 rfl ?_
  refine e_aload_n qX4_isVisible_9 rfl ?_
  refine e_geti qX4_isVisible_10 fl_X4_39 h_a0 kdq_4_2 h (fun v3 h => ?_)
  refine e_isub qX4_isVisible_13 ?_
  refine vl_e h (fun h => ?_)
  generalize (x2 - v3) = v4 at h ⊢
  refine e_istore (lv2 := [some (.ref a0), some (.int x1), some (.int x2), some (.int x3), some (.int v2), some (.int v4), none, none]) qX4_isVisible_14 rfl rfl rfl ?_
  refine e_aload_n qX4_isVisible_16 rfl ?_
  refine e_geti qX4_isVisible_17 fl_X4_42 h_a0 kdq_4_3 h (fun v5 h => ?_)
  refine e_iload_n qX4_isVisible_20 rfl ?_
  refine e_mmin qX4_isVisible_21 cm_X4_82 (by decide) rfl h (fun v6 h => ?_)
  refine e_istore (lv2 := [some (.ref a0), some (.int x1), some (.int x2), some (.int x3), some (.int v2), some (.int v4), some (.int v6), none]) qX4_isVisible_24 rfl rfl rfl ?_
  refine e_iload qX4_isVisible_26 rfl ?_
  refine e_iload qX4_isVisible_28 rfl ?_
  refine e_imul qX4_isVisible_30 ?_
  refine e_iload qX4_isVisible_31 rfl ?_
  refine e_iload qX4_isVisible_33 rfl ?_
  refine e_imul qX4_isVisible_35 ?_
  refine e_iadd qX4_isVisible_36 ?_
  refine e_iload qX4_isVisible_37 rfl ?_
  refine e_iload qX4_isVisible_39 rfl ?_
  refine e_imul qX4_isVisible_41 ?_
  refine e_icmp_le (tgt := 47) qX4_isVisible_42 rfl h (fun _ h => ?_) (fun _ h => ?_)
  · refine e_iload qX4_isVisible_47 rfl ?_
    refine e_iload qX4_isVisible_49 rfl ?_
    obtain ⟨v7, hc, h⟩ := bp_e h
    refine e_cNi2 qX4_isVisible_51 mn_X4_87 rfl rfl (w_X11_octantOf hc) ?_
    refine e_istore (lv2 := [some (.ref a0), some (.int x1), some (.int x2), some (.int x3), some (.int v2), some (.int v4), some (.int v6), some (.int v7)]) qX4_isVisible_54 rfl rfl rfl ?_
    refine e_iload qX4_isVisible_56 rfl ?_
    refine e_iconst (-1) qX4_isVisible_58 rfl ?_
    refine e_icmp_eq (tgt := 74) qX4_isVisible_59 rfl h (fun _ h => ?_) (fun _ h => ?_)
    · refine e_iconst (nI 1) qX4_isVisible_74 rfl ?_
      refine e_goto (tgt := 79) qX4_isVisible_75 rfl ?_
      exact e_zret qX4_isVisible_79 rfl (by decide) (ret_p h)
    refine e_aload_n qX4_isVisible_62 rfl ?_
    refine e_geti qX4_isVisible_63 fl_X4_27 h_a0 kdq_4_8 h (fun v8 h => ?_)
    refine e_iload qX4_isVisible_66 rfl ?_
    refine e_ishr qX4_isVisible_68 ?_
    refine e_iconst (nI 1) qX4_isVisible_69 rfl ?_
    refine e_iand qX4_isVisible_70 ?_
    refine e_if_ne (tgt := 78) qX4_isVisible_71 rfl h (fun _ h => ?_) (fun _ h => ?_)
    · refine e_iconst (nI 1) qX4_isVisible_74 rfl ?_
      refine e_goto (tgt := 79) qX4_isVisible_75 rfl ?_
      exact e_zret qX4_isVisible_79 rfl (by decide) (ret_p h)
    refine e_iconst (nI 0) qX4_isVisible_78 rfl ?_
    exact e_zret qX4_isVisible_79 rfl (by decide) (ret_p h)
  refine e_iconst (nI 0) qX4_isVisible_45 rfl ?_
  exact e_zret qX4_isVisible_46 rfl (by decide) (ret_p h)

def f_X4_isInOneSight_L2 (N : Nat) (c1 : Nat) (c2 : Nat) (s0 : St) : Nat → Int32 → Option (Int32)
  | 0, _ => none
  | n4 + 1, v3 =>
    if (nI 400) ≤ v3 then
      some (nI 0)
    else
    rm_ v3 (nI 20) fun v6 =>
    dv v3 (nI 20) fun v7 =>
    bp (f_X4_isVisible c1 v6 v7 (nI 30) s0) fun v8 =>
    jn (vl (v3 + (nI 1)) fun v10 =>
      f_X4_isInOneSight_L2 N c1 c2 s0 n4 v10) fun j9 =>
    if v8 = 0 then
      j9
    else
    bp (f_X4_isVisible c2 v6 v7 (nI 30) s0) fun v11 =>
    if v11 = 0 then
      j9
    else
    some (nI 1)

def f_X4_isInOneSight (N : Nat) (a0 : Nat) (a1 : Nat) (s0 : St) : Option (Int32) :=
  f_X4_isInOneSight_L2 N a0 a1 s0 N (nI 0)

theorem qX4_isInOneSight_0 : Dc mX4_isInOneSight 0 (.iconst 0) 1 1 := ⟨by decide +kernel, rfl⟩
theorem qX4_isInOneSight_1 : Dc mX4_isInOneSight 1 (.istore_n 2) 1 2 := ⟨by decide +kernel, rfl⟩
theorem qX4_isInOneSight_2 : Dc mX4_isInOneSight 2 (.iload_n 2) 1 3 := ⟨by decide +kernel, rfl⟩
theorem qX4_isInOneSight_3 : Dc mX4_isInOneSight 3 (.sipush 400) 3 6 := ⟨by decide +kernel, rfl⟩
theorem qX4_isInOneSight_6 : Dc mX4_isInOneSight 6 (.if_icmp .ge 46) 3 9 := ⟨by decide +kernel, rfl⟩
theorem qX4_isInOneSight_9 : Dc mX4_isInOneSight 9 (.iload_n 2) 1 10 := ⟨by decide +kernel, rfl⟩
theorem qX4_isInOneSight_10 : Dc mX4_isInOneSight 10 (.bipush 20) 2 12 := ⟨by decide +kernel, rfl⟩
theorem qX4_isInOneSight_12 : Dc mX4_isInOneSight 12 (.irem) 1 13 := ⟨by decide +kernel, rfl⟩
theorem qX4_isInOneSight_13 : Dc mX4_isInOneSight 13 (.istore_n 3) 1 14 := ⟨by decide +kernel, rfl⟩
theorem qX4_isInOneSight_14 : Dc mX4_isInOneSight 14 (.iload_n 2) 1 15 := ⟨by decide +kernel, rfl⟩
theorem qX4_isInOneSight_15 : Dc mX4_isInOneSight 15 (.bipush 20) 2 17 := ⟨by decide +kernel, rfl⟩
theorem qX4_isInOneSight_17 : Dc mX4_isInOneSight 17 (.idiv) 1 18 := ⟨by decide +kernel, rfl⟩
theorem qX4_isInOneSight_18 : Dc mX4_isInOneSight 18 (.istore 4) 2 20 := ⟨by decide +kernel, rfl⟩
theorem qX4_isInOneSight_20 : Dc mX4_isInOneSight 20 (.aload_n 0) 1 21 := ⟨by decide +kernel, rfl⟩
theorem qX4_isInOneSight_21 : Dc mX4_isInOneSight 21 (.iload_n 3) 1 22 := ⟨by decide +kernel, rfl⟩
theorem qX4_isInOneSight_22 : Dc mX4_isInOneSight 22 (.iload 4) 2 24 := ⟨by decide +kernel, rfl⟩
theorem qX4_isInOneSight_24 : Dc mX4_isInOneSight 24 (.bipush 30) 2 26 := ⟨by decide +kernel, rfl⟩
theorem qX4_isInOneSight_26 : Dc mX4_isInOneSight 26 (.invokevirtual 90) 3 29 := ⟨by decide +kernel, rfl⟩
theorem qX4_isInOneSight_29 : Dc mX4_isInOneSight 29 (.ifCond .eq 17) 3 32 := ⟨by decide +kernel, rfl⟩
theorem qX4_isInOneSight_32 : Dc mX4_isInOneSight 32 (.aload_n 1) 1 33 := ⟨by decide +kernel, rfl⟩
theorem qX4_isInOneSight_33 : Dc mX4_isInOneSight 33 (.iload_n 3) 1 34 := ⟨by decide +kernel, rfl⟩
theorem qX4_isInOneSight_34 : Dc mX4_isInOneSight 34 (.iload 4) 2 36 := ⟨by decide +kernel, rfl⟩
theorem qX4_isInOneSight_36 : Dc mX4_isInOneSight 36 (.bipush 30) 2 38 := ⟨by decide +kernel, rfl⟩
theorem qX4_isInOneSight_38 : Dc mX4_isInOneSight 38 (.invokevirtual 90) 3 41 := ⟨by decide +kernel, rfl⟩
theorem qX4_isInOneSight_41 : Dc mX4_isInOneSight 41 (.ifCond .eq 5) 3 44 := ⟨by decide +kernel, rfl⟩
theorem qX4_isInOneSight_44 : Dc mX4_isInOneSight 44 (.iconst 1) 1 45 := ⟨by decide +kernel, rfl⟩
theorem qX4_isInOneSight_45 : Dc mX4_isInOneSight 45 (.ireturn) 1 46 := ⟨by decide +kernel, rfl⟩
theorem qX4_isInOneSight_46 : Dc mX4_isInOneSight 46 (.iinc 2 1) 3 49 := ⟨by decide +kernel, rfl⟩
theorem qX4_isInOneSight_49 : Dc mX4_isInOneSight 49 (.goto (-47)) 3 52 := ⟨by decide +kernel, rfl⟩
theorem qX4_isInOneSight_52 : Dc mX4_isInOneSight 52 (.iconst 0) 1 53 := ⟨by decide +kernel, rfl⟩
theorem qX4_isInOneSight_53 : Dc mX4_isInOneSight 53 (.ireturn) 1 54 := ⟨by decide +kernel, rfl⟩

set_option maxRecDepth 20000 in
set_option maxHeartbeats 4000000 in
theorem w_X4_isInOneSight_L2 {N : Nat} {c1 : Nat} {c2 : Nat} {s0 : St}  {r : Int32} (h_c1 : sh c1 = 4) (h_c2 : sh c2 = 4)  : ∀ (n4 : Nat) (v3 : Int32), f_X4_isInOneSight_L2 N c1 c2 s0 n4 v3 = some r → E mX4_isInOneSight 2 (some (.int r), s0) 2 [some (.ref c1), some (.ref c2), some (.int v3), none, none] [] s0 := by
  intro n4
  induction n4 with
  | zero =>
    intro v3 h
    rw [f_X4_isInOneSight_L2] at h; cases h
  | succ n4 ih5 =>
    intro v3 h
    rw [f_X4_isInOneSight_L2] at h
    refine e_iload_n qX4_isInOneSight_2 rfl ?_
    refine e_sipush (nI 400) qX4_isInOneSight_3 rfl ?_
    refine e_icmp_ge (tgt := 52) qX4_isInOneSight_6 rfl h (fun _ h => ?_) (fun _ h => ?_)
    · refine e_iconst (nI 0) qX4_isInOneSight_52 rfl ?_
      exact e_zret qX4_isInOneSight_53 rfl (by decide) (ret_p h)
    refine e_iload_n qX4_isInOneSight_9 rfl ?_
    refine e_bipush (nI 20) qX4_isInOneSight_10 rfl ?_
    refine e_irem qX4_isInOneSight_12 h (fun v6 h => ?_)
    refine e_istore_n (lv2 := [some (.ref c1), some (.ref c2), some (.int v3), some (.int v6), none]) qX4_isInOneSight_13 rfl rfl rfl ?_
    refine e_iload_n qX4_isInOneSight_14 rfl ?_
    refine e_bipush (nI 20) qX4_isInOneSight_15 rfl ?_
    refine e_idiv qX4_isInOneSight_17 h (fun v7 h => ?_)
    refine e_istore (lv2 := [some (.ref c1), some (.ref c2), some (.int v3), some (.int v6), some (.int v7)]) qX4_isInOneSight_18 rfl rfl rfl ?_
    refine e_aload_n qX4_isInOneSight_20 rfl ?_
    refine e_iload_n qX4_isInOneSight_21 rfl ?_
    refine e_iload qX4_isInOneSight_22 rfl ?_
    refine e_bipush (nI 30) qX4_isInOneSight_24 rfl ?_
    obtain ⟨v8, hc, h⟩ := bp_e h
    refine e_cVi3 qX4_isInOneSight_26 mv_X4_90 h_c1 rfl rfl (w_X4_isVisible h_c1 hc) ?_
    refine jn_e (fun j => j = some r → E mX4_isInOneSight 2 (some (.int r), s0) 46 [some (.ref c1), some (.ref c2), some (.int v3), none, none] [] s0) h ?_ (fun j9 hj9 h => ?_)
    · intro h
      refine vl_e h (fun h => ?_)
      obtain ⟨v10, ev10⟩ : ∃ y, v3 + (nI 1) = y := ⟨_, rfl⟩
      rw [ev10] at h
      refine e_iinc (nI 1) v10 (lv2 := [some (.ref c1), some (.ref c2), some (.int v10), none, none]) qX4_isInOneSight_46 rfl rfl rfl ev10 rfl ?_
      refine e_goto (tgt := 2) qX4_isInOneSight_49 rfl ?_
      exact e_weak (ih5 _ h) ⟨Or.inr rfl, Or.inr rfl, Or.inr rfl, Or.inl rfl, Or.inl rfl, trivial⟩
    refine e_if_eq (tgt := 46) qX4_isInOneSight_29 rfl h (fun _ h => ?_) (fun _ h => ?_)
    · exact e_weak (hj9 h) ⟨Or.inr rfl, Or.inr rfl, Or.inr rfl, Or.inl rfl, Or.inl rfl, trivial⟩
    refine e_aload_n qX4_isInOneSight_32 rfl ?_
    refine e_iload_n qX4_isInOneSight_33 rfl ?_
    refine e_iload qX4_isInOneSight_34 rfl ?_
    refine e_bipush (nI 30) qX4_isInOneSight_36 rfl ?_
    obtain ⟨v11, hc, h⟩ := bp_e h
    refine e_cVi3 qX4_isInOneSight_38 mv_X4_90 h_c2 rfl rfl (w_X4_isVisible h_c2 hc) ?_
    refine e_if_eq (tgt := 46) qX4_isInOneSight_41 rfl h (fun _ h => ?_) (fun _ h => ?_)
    · exact e_weak (hj9 h) ⟨Or.inr rfl, Or.inr rfl, Or.inr rfl, Or.inl rfl, Or.inl rfl, trivial⟩
    refine e_iconst (nI 1) qX4_isInOneSight_44 rfl ?_
    exact e_zret qX4_isInOneSight_45 rfl (by decide) (ret_p h)

set_option maxRecDepth 20000 in
set_option maxHeartbeats 4000000 in
theorem w_X4_isInOneSight {N : Nat} {a0 : Nat} {a1 : Nat} {s0 : St} {r : Int32} (h_a0 : sh a0 = 4) (h_a1 : sh a1 = 4) (h : f_X4_isInOneSight N a0 a1 s0 = some r) : Ct mX4_isInOneSight 2 [.ref a0, .ref a1] s0 (some (.int r), s0) := by
  refine Ct.ofE (by decide +kernel) rfl ?_
  show E mX4_isInOneSight 2 (some (.int r), s0) 0 [some (.ref a0), some (.ref a1), none, none, none] [] s0
  unfold f_X4_isInOneSight at h
  refine e_iconst (nI 0) qX4_isInOneSight_0 rfl ?_
  refine e_istore_n (lv2 := [some (.ref a0), some (.ref a1), some (.int (nI 0)), none, none]) qX4_isInOneSight_1 rfl rfl rfl ?_
  exact e_weak (w_X4_isInOneSight_L2 h_a0 h_a1  _ _ h) ⟨Or.inr rfl, Or.inr rfl, Or.inr rfl, Or.inl rfl, Or.inl rfl, trivial⟩

def f_X5_mark (a1 : Nat) (s0 : St) : Option (St) :=
  vl (s0.1 75 1) fun v1 =>
  ald (rr 76) 9 v1 fun v2 =>
  bp (f_X6_copyFrom v2 a1 s0) fun s4 =>
  some s4

theorem qX5_mark_0 : Dc mX5_mark 0 (.aload_n 0) 1 1 := ⟨by decide +kernel, rfl⟩
theorem qX5_mark_1 : Dc mX5_mark 1 (.getfield 13) 3 4 := ⟨by decide +kernel, rfl⟩
theorem qX5_mark_4 : Dc mX5_mark 4 (.aload_n 0) 1 5 := ⟨by decide +kernel, rfl⟩
theorem qX5_mark_5 : Dc mX5_mark 5 (.getfield 24) 3 8 := ⟨by decide +kernel, rfl⟩
theorem qX5_mark_8 : Dc mX5_mark 8 (.aaload) 1 9 := ⟨by decide +kernel, rfl⟩
theorem qX5_mark_9 : Dc mX5_mark 9 (.aload_n 1) 1 10 := ⟨by decide +kernel, rfl⟩
theorem qX5_mark_10 : Dc mX5_mark 10 (.invokevirtual 27) 3 13 := ⟨by decide +kernel, rfl⟩
theorem qX5_mark_13 : Dc mX5_mark 13 (.return_) 1 14 := ⟨by decide +kernel, rfl⟩

set_option maxRecDepth 20000 in
set_option maxHeartbeats 4000000 in
theorem w_X5_mark {a1 : Nat} {s0 : St} {sr : St} (h_a1 : sh a1 = 6) (h : f_X5_mark a1 s0 = some sr) : Ct mX5_mark 4 [.ref 75, .ref a1] s0 (none, sr) := by
  refine Ct.ofE (by decide +kernel) rfl ?_
  show E mX5_mark 4 (none, sr) 0 [some (.ref 75), some (.ref a1)] [] s0
  unfold f_X5_mark at h
  refine e_aload_n qX5_mark_0 rfl ?_
  refine e_getr 76 qX5_mark_1 fl_X5_13 shq_75 kdq_5_0 rrq_75_0 ?_
  refine e_aload_n qX5_mark_4 rfl ?_
  refine e_geti qX5_mark_5 fl_X5_24 shq_75 kdq_5_1 h (fun v1 h => ?_)
  refine e_rald26 qX5_mark_8 shq_76 lnq_76 h (fun i3 hi3 h => ?_)
  refine e_aload_n qX5_mark_9 rfl ?_
  obtain ⟨s4, hc, h⟩ := bp_e h
  refine e_cVv1 qX5_mark_10 mv_X5_27 (we_26 _ shq_76 _ hi3) rfl rfl (w_X6_copyFrom (we_26 _ shq_76 _ hi3) h_a1 hc) ?_
  exact e_vret qX5_mark_13 rfl (ret_v h)

def f_X5_takeBack (a1 : Nat) (s0 : St) : Option (Int32 × St) :=
  vl (s0.1 75 2) fun v1 =>
  if v1 = 0 then
    some ((-1), s0)
  else
  vl (s0.1 75 1) fun v2 =>
  rm_ ((v2 + (nI 9)) - (nI 1)) (nI 9) fun v3 =>
  vl (sI s0 75 1 v3) fun s4 =>
  vl (s4.1 75 1) fun v5 =>
  ald (rr 76) 9 v5 fun v6 =>
  bp (f_X6_copyFrom a1 v6 s4) fun s8 =>
  vl (s8.1 75 2) fun v9 =>
  vl (sI s8 75 2 (v9 - (nI 1))) fun s10 =>
  vl (s10.1 75 2) fun v11 =>
  some (v11, s10)

theorem qX5_takeBack_0 : Dc mX5_takeBack 0 (.aload_n 0) 1 1 := ⟨by decide +kernel, rfl⟩
theorem qX5_takeBack_1 : Dc mX5_takeBack 1 (.getfield 20) 3 4 := ⟨by decide +kernel, rfl⟩
theorem qX5_takeBack_4 : Dc mX5_takeBack 4 (.ifCond .ne 5) 3 7 := ⟨by decide +kernel, rfl⟩
theorem qX5_takeBack_7 : Dc mX5_takeBack 7 (.iconst (-1)) 1 8 := ⟨by decide +kernel, rfl⟩
theorem qX5_takeBack_8 : Dc mX5_takeBack 8 (.ireturn) 1 9 := ⟨by decide +kernel, rfl⟩
theorem qX5_takeBack_9 : Dc mX5_takeBack 9 (.aload_n 0) 1 10 := ⟨by decide +kernel, rfl⟩
theorem qX5_takeBack_10 : Dc mX5_takeBack 10 (.aload_n 0) 1 11 := ⟨by decide +kernel, rfl⟩
theorem qX5_takeBack_11 : Dc mX5_takeBack 11 (.getfield 24) 3 14 := ⟨by decide +kernel, rfl⟩
theorem qX5_takeBack_14 : Dc mX5_takeBack 14 (.bipush 9) 2 16 := ⟨by decide +kernel, rfl⟩
theorem qX5_takeBack_16 : Dc mX5_takeBack 16 (.iadd) 1 17 := ⟨by decide +kernel, rfl⟩
theorem qX5_takeBack_17 : Dc mX5_takeBack 17 (.iconst 1) 1 18 := ⟨by decide +kernel, rfl⟩
theorem qX5_takeBack_18 : Dc mX5_takeBack 18 (.isub) 1 19 := ⟨by decide +kernel, rfl⟩
theorem qX5_takeBack_19 : Dc mX5_takeBack 19 (.bipush 9) 2 21 := ⟨by decide +kernel, rfl⟩
theorem qX5_takeBack_21 : Dc mX5_takeBack 21 (.irem) 1 22 := ⟨by decide +kernel, rfl⟩
theorem qX5_takeBack_22 : Dc mX5_takeBack 22 (.putfield 24) 3 25 := ⟨by decide +kernel, rfl⟩
theorem qX5_takeBack_25 : Dc mX5_takeBack 25 (.aload_n 1) 1 26 := ⟨by decide +kernel, rfl⟩
theorem qX5_takeBack_26 : Dc mX5_takeBack 26 (.aload_n 0) 1 27 := ⟨by decide +kernel, rfl⟩
theorem qX5_takeBack_27 : Dc mX5_takeBack 27 (.getfield 13) 3 30 := ⟨by decide +kernel, rfl⟩
theorem qX5_takeBack_30 : Dc mX5_takeBack 30 (.aload_n 0) 1 31 := ⟨by decide +kernel, rfl⟩
theorem qX5_takeBack_31 : Dc mX5_takeBack 31 (.getfield 24) 3 34 := ⟨by decide +kernel, rfl⟩
theorem qX5_takeBack_34 : Dc mX5_takeBack 34 (.aaload) 1 35 := ⟨by decide +kernel, rfl⟩
theorem qX5_takeBack_35 : Dc mX5_takeBack 35 (.invokevirtual 27) 3 38 := ⟨by decide +kernel, rfl⟩
theorem qX5_takeBack_38 : Dc mX5_takeBack 38 (.aload_n 0) 1 39 := ⟨by decide +kernel, rfl⟩
theorem qX5_takeBack_39 : Dc mX5_takeBack 39 (.dup) 1 40 := ⟨by decide +kernel, rfl⟩
theorem qX5_takeBack_40 : Dc mX5_takeBack 40 (.getfield 20) 3 43 := ⟨by decide +kernel, rfl⟩
theorem qX5_takeBack_43 : Dc mX5_takeBack 43 (.iconst 1) 1 44 := ⟨by decide +kernel, rfl⟩
theorem qX5_takeBack_44 : Dc mX5_takeBack 44 (.isub) 1 45 := ⟨by decide +kernel, rfl⟩
theorem qX5_takeBack_45 : Dc mX5_takeBack 45 (.putfield 20) 3 48 := ⟨by decide +kernel, rfl⟩
theorem qX5_takeBack_48 : Dc mX5_takeBack 48 (.aload_n 0) 1 49 := ⟨by decide +kernel, rfl⟩
theorem qX5_takeBack_49 : Dc mX5_takeBack 49 (.getfield 20) 3 52 := ⟨by decide +kernel, rfl⟩
theorem qX5_takeBack_52 : Dc mX5_takeBack 52 (.ireturn) 1 53 := ⟨by decide +kernel, rfl⟩

set_option maxRecDepth 20000 in
set_option maxHeartbeats 4000000 in
theorem w_X5_takeBack {a1 : Nat} {s0 : St} {r : Int32} {sr : St} (h_a1 : sh a1 = 6) (h : f_X5_takeBack a1 s0 = some (r, sr)) : Ct mX5_takeBack 4 [.ref 75, .ref a1] s0 (some (.int r), sr) := by
  refine Ct.ofE (by decide +kernel) rfl ?_
  show E mX5_takeBack 4 (some (.int r), sr) 0 [some (.ref 75), some (.ref a1)] [] s0
  unfold f_X5_takeBack at h
  refine e_aload_n qX5_takeBack_0 rfl ?_
  refine e_geti qX5_takeBack_1 fl_X5_20 shq_75 kdq_5_2 h (fun v1 h => ?_)
  refine e_if_ne (tgt := 9) qX5_takeBack_4 rfl h (fun _ h => ?_) (fun _ h => ?_)
  · refine e_iconst (-1) qX5_takeBack_7 rfl ?_
    exact e_iret qX5_takeBack_8 rfl (ret_i h)
  refine e_aload_n qX5_takeBack_9 rfl ?_
  refine e_aload_n qX5_takeBack_10 rfl ?_
  refine e_geti qX5_takeBack_11 fl_X5_24 shq_75 kdq_5_1 h (fun v2 h => ?_)
  refine e_bipush (nI 9) qX5_takeBack_14 rfl ?_
  refine e_iadd qX5_takeBack_16 ?_
  refine e_iconst (nI 1) qX5_takeBack_17 rfl ?_
  refine e_isub qX5_takeBack_18 ?_
  refine e_bipush (nI 9) qX5_takeBack_19 rfl ?_
  refine e_irem qX5_takeBack_21 h (fun v3 h => ?_)
  refine e_puti qX5_takeBack_22 fp_X5_24 shq_75 kdq_5_1 h (fun s4 h => ?_)
  refine e_aload_n qX5_takeBack_25 rfl ?_
  refine e_aload_n qX5_takeBack_26 rfl ?_
  refine e_getr 76 qX5_takeBack_27 fl_X5_13 shq_75 kdq_5_0 rrq_75_0 ?_
  refine e_aload_n qX5_takeBack_30 rfl ?_
  refine e_geti qX5_takeBack_31 fl_X5_24 shq_75 kdq_5_1 h (fun v5 h => ?_)
  refine e_rald26 qX5_takeBack_34 shq_76 lnq_76 h (fun i7 hi7 h => ?_)
  obtain ⟨s8, hc, h⟩ := bp_e h
  refine e_cVv1 qX5_takeBack_35 mv_X5_27 h_a1 rfl rfl (w_X6_copyFrom h_a1 (we_26 _ shq_76 _ hi7) hc) ?_
  refine e_aload_n qX5_takeBack_38 rfl ?_
  refine e_dup qX5_takeBack_39 rfl ?_
  refine e_geti qX5_takeBack_40 fl_X5_20 shq_75 kdq_5_2 h (fun v9 h => ?_)
  refine e_iconst (nI 1) qX5_takeBack_43 rfl ?_
  refine e_isub qX5_takeBack_44 ?_
  refine e_puti qX5_takeBack_45 fp_X5_20 shq_75 kdq_5_2 h (fun s10 h => ?_)
  refine e_aload_n qX5_takeBack_48 rfl ?_
  refine e_geti qX5_takeBack_49 fl_X5_20 shq_75 kdq_5_2 h (fun v11 h => ?_)
  exact e_iret qX5_takeBack_52 rfl (ret_i h)

def f_X6_placeOf (a0 : Nat) (x1 : Int32) (s0 : St) : Option (Int32) :=
  vl (s0.1 a0 1) fun v1 =>
  ald (s0.1 (rr a0 5)) 8 x1 fun v2 =>
  ald (rr 4) 8 x1 fun v3 =>
  vl (s0.1 v3 10) fun v5 =>
  bp (f_X11_remainder (v1 + v2) v5 s0) fun v6 =>
  some v6

theorem qX6_placeOf_0 : Dc mX6_placeOf 0 (.aload_n 0) 1 1 := ⟨by decide +kernel, rfl⟩
theorem qX6_placeOf_1 : Dc mX6_placeOf 1 (.getfield 31) 3 4 := ⟨by decide +kernel, rfl⟩
theorem qX6_placeOf_4 : Dc mX6_placeOf 4 (.aload_n 0) 1 5 := ⟨by decide +kernel, rfl⟩
theorem qX6_placeOf_5 : Dc mX6_placeOf 5 (.getfield 15) 3 8 := ⟨by decide +kernel, rfl⟩
theorem qX6_placeOf_8 : Dc mX6_placeOf 8 (.iload_n 1) 1 9 := ⟨by decide +kernel, rfl⟩
theorem qX6_placeOf_9 : Dc mX6_placeOf 9 (.iaload) 1 10 := ⟨by decide +kernel, rfl⟩
theorem qX6_placeOf_10 : Dc mX6_placeOf 10 (.iadd) 1 11 := ⟨by decide +kernel, rfl⟩
theorem qX6_placeOf_11 : Dc mX6_placeOf 11 (.aload_n 0) 1 12 := ⟨by decide +kernel, rfl⟩
theorem qX6_placeOf_12 : Dc mX6_placeOf 12 (.getfield 27) 3 15 := ⟨by decide +kernel, rfl⟩
theorem qX6_placeOf_15 : Dc mX6_placeOf 15 (.getfield 49) 3 18 := ⟨by decide +kernel, rfl⟩
theorem qX6_placeOf_18 : Dc mX6_placeOf 18 (.iload_n 1) 1 19 := ⟨by decide +kernel, rfl⟩
theorem qX6_placeOf_19 : Dc mX6_placeOf 19 (.aaload) 1 20 := ⟨by decide +kernel, rfl⟩
theorem qX6_placeOf_20 : Dc mX6_placeOf 20 (.getfield 83) 3 23 := ⟨by decide +kernel, rfl⟩
theorem qX6_placeOf_23 : Dc mX6_placeOf 23 (.invokestatic 86) 3 26 := ⟨by decide +kernel, rfl⟩
theorem qX6_placeOf_26 : Dc mX6_placeOf 26 (.ireturn) 1 27 := ⟨by decide +kernel, rfl⟩

set_option maxRecDepth 20000 in
set_option maxHeartbeats 4000000 in
theorem w_X6_placeOf {a0 : Nat} {x1 : Int32} {s0 : St} {r : Int32} (h_a0 : sh a0 = 6) (h : f_X6_placeOf a0 x1 s0 = some r) : Ct mX6_placeOf 1 [.ref a0, .int x1] s0 (some (.int r), s0) := by
  refine Ct.ofE (by decide +kernel) rfl ?_
  show E mX6_placeOf 1 (some (.int r), s0) 0 [some (.ref a0), some (.int x1)] [] s0
  unfold f_X6_placeOf at h
  refine e_aload_n qX6_placeOf_0 rfl ?_
  refine e_geti qX6_placeOf_1 fl_X6_31 h_a0 kdq_6_1 h (fun v1 h => ?_)
  refine e_aload_n qX6_placeOf_4 rfl ?_
  refine e_getr (rr a0 5) qX6_placeOf_5 fl_X6_15 h_a0 kdq_6_5 rfl ?_
  refine e_iload_n qX6_placeOf_8 rfl ?_
  refine e_iald qX6_placeOf_9 (wt_6_5 _ h_a0).1 (wt_6_5 _ h_a0).2 h (fun v2 h => ?_)
  refine e_iadd qX6_placeOf_10 ?_
  refine e_aload_n qX6_placeOf_11 rfl ?_
  refine e_getr 3 qX6_placeOf_12 fl_X6_27 h_a0 kdq_6_0 (wq_6_0 _ h_a0) ?_
  refine e_getr 4 qX6_placeOf_15 fl_X6_49 shq_3 kdq_1_0 rrq_3_0 ?_
  refine e_iload_n qX6_placeOf_18 rfl ?_
  refine e_rald24 qX6_placeOf_19 shq_4 lnq_4 h (fun i4 hi4 h => ?_)
  refine e_geti qX6_placeOf_20 fl_X6_83 (we_24 _ shq_4 _ hi4) kdq_4_10 h (fun v5 h => ?_)
  obtain ⟨v6, hc, h⟩ := bp_e h
  refine e_cNi2 qX6_placeOf_23 mn_X6_86 rfl rfl (w_X11_remainder hc) ?_
  exact e_iret qX6_placeOf_26 rfl (ret_p h)

def f_X6_shines (a0 : Nat) (x1 : Int32) (s0 : St) : Option (Int32) :=
  bp (f_X6_isOut a0 x1 s0) fun v1 =>
  jn (some (nI 0)) fun j2 =>
  if v1 = 0 then
    ald (s0.1 (rr a0 4)) 8 x1 fun v3 =>
    if v3 ≤ 0 then
      j2
    else
    ald (rr 4) 8 x1 fun v4 =>
    bp (f_X6_placeOf a0 x1 s0) fun v6 =>
    ald (s0.1 (rr v4 11)) 160 v6 fun v7 =>
    if v7 = 0 then
      j2
    else
    some (nI 1)
  else
  j2

theorem qX6_shines_0 : Dc mX6_shines 0 (.aload_n 0) 1 1 := ⟨by decide +kernel, rfl⟩
theorem qX6_shines_1 : Dc mX6_shines 1 (.iload_n 1) 1 2 := ⟨by decide +kernel, rfl⟩
theorem qX6_shines_2 : Dc mX6_shines 2 (.invokevirtual 90) 3 5 := ⟨by decide +kernel, rfl⟩
theorem qX6_shines_5 : Dc mX6_shines 5 (.ifCond .ne 37) 3 8 := ⟨by decide +kernel, rfl⟩
theorem qX6_shines_8 : Dc mX6_shines 8 (.aload_n 0) 1 9 := ⟨by decide +kernel, rfl⟩
theorem qX6_shines_9 : Dc mX6_shines 9 (.getfield 9) 3 12 := ⟨by decide +kernel, rfl⟩
theorem qX6_shines_12 : Dc mX6_shines 12 (.iload_n 1) 1 13 := ⟨by decide +kernel, rfl⟩
theorem qX6_shines_13 : Dc mX6_shines 13 (.iaload) 1 14 := ⟨by decide +kernel, rfl⟩
theorem qX6_shines_14 : Dc mX6_shines 14 (.ifCond .le 28) 3 17 := ⟨by decide +kernel, rfl⟩
theorem qX6_shines_17 : Dc mX6_shines 17 (.aload_n 0) 1 18 := ⟨by decide +kernel, rfl⟩
theorem qX6_shines_18 : Dc mX6_shines 18 (.getfield 27) 3 21 := ⟨by decide +kernel, rfl⟩
theorem qX6_shines_21 : Dc mX6_shines 21 (.getfield 49) 3 24 := ⟨by decide +kernel, rfl⟩
theorem qX6_shines_24 : Dc mX6_shines 24 (.iload_n 1) 1 25 := ⟨by decide +kernel, rfl⟩
theorem qX6_shines_25 : Dc mX6_shines 25 (.aaload) 1 26 := ⟨by decide +kernel, rfl⟩
theorem qX6_shines_26 : Dc mX6_shines 26 (.getfield 94) 3 29 := ⟨by decide +kernel, rfl⟩
theorem qX6_shines_29 : Dc mX6_shines 29 (.aload_n 0) 1 30 := ⟨by decide +kernel, rfl⟩
theorem qX6_shines_30 : Dc mX6_shines 30 (.iload_n 1) 1 31 := ⟨by decide +kernel, rfl⟩
theorem qX6_shines_31 : Dc mX6_shines 31 (.invokevirtual 98) 3 34 := ⟨by decide +kernel, rfl⟩
theorem qX6_shines_34 : Dc mX6_shines 34 (.baload) 1 35 := ⟨by decide +kernel, rfl⟩
theorem qX6_shines_35 : Dc mX6_shines 35 (.ifCond .eq 7) 3 38 := ⟨by decide +kernel, rfl⟩
theorem qX6_shines_38 : Dc mX6_shines 38 (.iconst 1) 1 39 := ⟨by decide +kernel, rfl⟩
theorem qX6_shines_39 : Dc mX6_shines 39 (.goto 4) 3 42 := ⟨by decide +kernel, rfl⟩
theorem qX6_shines_42 : Dc mX6_shines 42 (.iconst 0) 1 43 := ⟨by decide +kernel, rfl⟩
theorem qX6_shines_43 : Dc mX6_shines 43 (.ireturn) 1 44 := ⟨by decide +kernel, rfl⟩

set_option maxRecDepth 20000 in
set_option maxHeartbeats 4000000 in
theorem w_X6_shines {a0 : Nat} {x1 : Int32} {s0 : St} {r : Int32} (h_a0 : sh a0 = 6) (h : f_X6_shines a0 x1 s0 = some r) : Ct mX6_shines 2 [.ref a0, .int x1] s0 (some (.int r), s0) := by
  refine Ct.ofE (by decide +kernel) rfl ?_
  show E mX6_shines 2 (some (.int r), s0) 0 [some (.ref a0), some (.int x1)] [] s0
  unfold f_X6_shines at h
  refine e_aload_n qX6_shines_0 rfl ?_
  refine e_iload_n qX6_shines_1 rfl ?_
  obtain ⟨v1, hc, h⟩ := bp_e h
  refine e_cVi1 qX6_shines_2 mv_X6_90 h_a0 rfl rfl (w_X6_isOut h_a0 hc) ?_
  refine jn_e (fun j => j = some r → E mX6_shines 2 (some (.int r), s0) 42 [none, none] [] s0) h ?_ (fun j2 hj2 h => ?_)
  · intro h
    refine e_iconst (nI 0) qX6_shines_42 rfl ?_
    exact e_zret qX6_shines_43 rfl (by decide) (ret_p h)
  refine e_if_ne (tgt := 42) qX6_shines_5 rfl h (fun _ h => ?_) (fun _ h => ?_)
  · refine e_aload_n qX6_shines_8 rfl ?_
    refine e_getr (rr a0 4) qX6_shines_9 fl_X6_9 h_a0 kdq_6_4 rfl ?_
    refine e_iload_n qX6_shines_12 rfl ?_
    refine e_iald qX6_shines_13 (wt_6_4 _ h_a0).1 (wt_6_4 _ h_a0).2 h (fun v3 h => ?_)
    refine e_if_le (tgt := 42) qX6_shines_14 rfl h (fun _ h => ?_) (fun _ h => ?_)
    · exact e_weak (hj2 h) ⟨Or.inl rfl, Or.inl rfl, trivial⟩
    refine e_aload_n qX6_shines_17 rfl ?_
    refine e_getr 3 qX6_shines_18 fl_X6_27 h_a0 kdq_6_0 (wq_6_0 _ h_a0) ?_
    refine e_getr 4 qX6_shines_21 fl_X6_49 shq_3 kdq_1_0 rrq_3_0 ?_
    refine e_iload_n qX6_shines_24 rfl ?_
    refine e_rald24 qX6_shines_25 shq_4 lnq_4 h (fun i5 hi5 h => ?_)
    refine e_getr (rr (rr 4 i5) 11) qX6_shines_26 fl_X6_94 (we_24 _ shq_4 _ hi5) kdq_4_11 rfl ?_
    refine e_aload_n qX6_shines_29 rfl ?_
    refine e_iload_n qX6_shines_30 rfl ?_
    obtain ⟨v6, hc, h⟩ := bp_e h
    refine e_cVi1 qX6_shines_31 mv_X6_98 h_a0 rfl rfl (w_X6_placeOf h_a0 hc) ?_
    refine e_zald qX6_shines_34 (wt_4_11 _ (we_24 _ shq_4 _ hi5)).1 (wt_4_11 _ (we_24 _ shq_4 _ hi5)).2 h (fun v7 h => ?_)
    refine e_if_eq (tgt := 42) qX6_shines_35 rfl h (fun _ h => ?_) (fun _ h => ?_)
    · exact e_weak (hj2 h) ⟨Or.inl rfl, Or.inl rfl, trivial⟩
    refine e_iconst (nI 1) qX6_shines_38 rfl ?_
    refine e_goto (tgt := 43) qX6_shines_39 rfl ?_
    exact e_zret qX6_shines_43 rfl (by decide) (ret_p h)
  exact e_weak (hj2 h) ⟨Or.inl rfl, Or.inl rfl, trivial⟩

def f_X6_shiningOnes_L4 (N : Nat) (c1 : Nat) (s0 : St) : Nat → Int32 → Int32 → Option (Int32)
  | 0, _, _ => none
  | n4 + 1, v2, v3 =>
    vl (s0.1 3 2) fun v6 =>
    if v6 ≤ v3 then
      some v2
    else
    bp (f_X6_shines c1 v3 s0) fun v7 =>
    jn (fun (v8 : Int32) =>
      vl (v3 + (nI 1)) fun v10 =>
      f_X6_shiningOnes_L4 N c1 s0 n4 v8 v10) fun j9 =>
    if v7 = 0 then
      j9 v2
    else
    vl (v2 ||| ((nI 1) <<< (v3 &&& 31))) fun v11 =>
    j9 v11

def f_X6_shiningOnes (N : Nat) (a0 : Nat) (s0 : St) : Option (Int32) :=
  f_X6_shiningOnes_L4 N a0 s0 N (nI 0) (nI 0)

theorem qX6_shiningOnes_0 : Dc mX6_shiningOnes 0 (.iconst 0) 1 1 := ⟨by decide +kernel, rfl⟩
theorem qX6_shiningOnes_1 : Dc mX6_shiningOnes 1 (.istore_n 1) 1 2 := ⟨by decide +kernel, rfl⟩
theorem qX6_shiningOnes_2 : Dc mX6_shiningOnes 2 (.iconst 0) 1 3 := ⟨by decide +kernel, rfl⟩
theorem qX6_shiningOnes_3 : Dc mX6_shiningOnes 3 (.istore_n 2) 1 4 := ⟨by decide +kernel, rfl⟩
theorem qX6_shiningOnes_4 : Dc mX6_shiningOnes 4 (.iload_n 2) 1 5 := ⟨by decide +kernel, rfl⟩
theorem qX6_shiningOnes_5 : Dc mX6_shiningOnes 5 (.aload_n 0) 1 6 := ⟨by decide +kernel, rfl⟩
theorem qX6_shiningOnes_6 : Dc mX6_shiningOnes 6 (.getfield 27) 3 9 := ⟨by decide +kernel, rfl⟩
theorem qX6_shiningOnes_9 : Dc mX6_shiningOnes 9 (.getfield 46) 3 12 := ⟨by decide +kernel, rfl⟩
theorem qX6_shiningOnes_12 : Dc mX6_shiningOnes 12 (.if_icmp .ge 23) 3 15 := ⟨by decide +kernel, rfl⟩
theorem qX6_shiningOnes_15 : Dc mX6_shiningOnes 15 (.aload_n 0) 1 16 := ⟨by decide +kernel, rfl⟩
theorem qX6_shiningOnes_16 : Dc mX6_shiningOnes 16 (.iload_n 2) 1 17 := ⟨by decide +kernel, rfl⟩
theorem qX6_shiningOnes_17 : Dc mX6_shiningOnes 17 (.invokevirtual 102) 3 20 := ⟨by decide +kernel, rfl⟩
theorem qX6_shiningOnes_20 : Dc mX6_shiningOnes 20 (.ifCond .eq 9) 3 23 := ⟨by decide +kernel, rfl⟩
theorem qX6_shiningOnes_23 : Dc mX6_shiningOnes 23 (.iload_n 1) 1 24 := ⟨by decide +kernel, rfl⟩
theorem qX6_shiningOnes_24 : Dc mX6_shiningOnes 24 (.iconst 1) 1 25 := ⟨by decide +kernel, rfl⟩
theorem qX6_shiningOnes_25 : Dc mX6_shiningOnes 25 (.iload_n 2) 1 26 := ⟨by decide +kernel, rfl⟩
theorem qX6_shiningOnes_26 : Dc mX6_shiningOnes 26 (.ishl) 1 27 := ⟨by decide +kernel, rfl⟩
theorem qX6_shiningOnes_27 : Dc mX6_shiningOnes 27 (.ior) 1 28 := ⟨by decide +kernel, rfl⟩
theorem qX6_shiningOnes_28 : Dc mX6_shiningOnes 28 (.istore_n 1) 1 29 := ⟨by decide +kernel, rfl⟩
theorem qX6_shiningOnes_29 : Dc mX6_shiningOnes 29 (.iinc 2 1) 3 32 := ⟨by decide +kernel, rfl⟩
theorem qX6_shiningOnes_32 : Dc mX6_shiningOnes 32 (.goto (-28)) 3 35 := ⟨by decide +kernel, rfl⟩
theorem qX6_shiningOnes_35 : Dc mX6_shiningOnes 35 (.iload_n 1) 1 36 := ⟨by decide +kernel, rfl⟩
theorem qX6_shiningOnes_36 : Dc mX6_shiningOnes 36 (.ireturn) 1 37 := ⟨by decide +kernel, rfl⟩

set_option maxRecDepth 20000 in
set_option maxHeartbeats 4000000 in
theorem w_X6_shiningOnes_L4 {N : Nat} {c1 : Nat} {s0 : St}  {r : Int32} (h_c1 : sh c1 = 6)  : ∀ (n4 : Nat) (v2 : Int32) (v3 : Int32), f_X6_shiningOnes_L4 N c1 s0 n4 v2 v3 = some r → E mX6_shiningOnes 3 (some (.int r), s0) 4 [some (.ref c1), some (.int v2), some (.int v3)] [] s0 := by
  intro n4
  induction n4 with
  | zero =>
    intro v2 v3 h
    rw [f_X6_shiningOnes_L4] at h; cases h
  | succ n4 ih5 =>
    intro v2 v3 h
    rw [f_X6_shiningOnes_L4] at h
    refine e_iload_n qX6_shiningOnes_4 rfl ?_
    refine e_aload_n qX6_shiningOnes_5 rfl ?_
    refine e_getr 3 qX6_shiningOnes_6 fl_X6_27 h_c1 kdq_6_0 (wq_6_0 _ h_c1) ?_
    refine e_geti qX6_shiningOnes_9 fl_X6_46 shq_3 kdq_1_2 h (fun v6 h => ?_)
    refine e_icmp_ge (tgt := 35) qX6_shiningOnes_12 rfl h (fun _ h => ?_) (fun _ h => ?_)
    · refine e_iload_n qX6_shiningOnes_35 rfl ?_
      exact e_iret qX6_shiningOnes_36 rfl (ret_p h)
    refine e_aload_n qX6_shiningOnes_15 rfl ?_
    refine e_iload_n qX6_shiningOnes_16 rfl ?_
    obtain ⟨v7, hc, h⟩ := bp_e h
    refine e_cVi1 qX6_shiningOnes_17 mv_X6_102 h_c1 rfl rfl (w_X6_shines h_c1 hc) ?_
    refine jn_e (fun j => ∀ (v8 : Int32), j v8 = some r → E mX6_shiningOnes 3 (some (.int r), s0) 29 [some (.ref c1), some (.int v8), some (.int v3)] [] s0) h ?_ (fun j9 hj9 h => ?_)
    · intro v8 h
      refine vl_e h (fun h => ?_)
      obtain ⟨v10, ev10⟩ : ∃ y, v3 + (nI 1) = y := ⟨_, rfl⟩
      rw [ev10] at h
      refine e_iinc (nI 1) v10 (lv2 := [some (.ref c1), some (.int v8), some (.int v10)]) qX6_shiningOnes_29 rfl rfl rfl ev10 rfl ?_
      refine e_goto (tgt := 4) qX6_shiningOnes_32 rfl ?_
      exact e_weak (ih5 _ _ h) ⟨Or.inr rfl, Or.inr rfl, Or.inr rfl, trivial⟩
    refine e_if_eq (tgt := 29) qX6_shiningOnes_20 rfl h (fun _ h => ?_) (fun _ h => ?_)
    · exact e_weak (hj9 _ h) ⟨Or.inr rfl, Or.inr rfl, Or.inr rfl, trivial⟩
    refine e_iload_n qX6_shiningOnes_23 rfl ?_
    refine e_iconst (nI 1) qX6_shiningOnes_24 rfl ?_
    refine e_iload_n qX6_shiningOnes_25 rfl ?_
    refine e_ishl qX6_shiningOnes_26 ?_
    refine e_ior qX6_shiningOnes_27 ?_
    refine vl_e h (fun h => ?_)
    generalize (v2 ||| ((nI 1) <<< (v3 &&& 31))) = v11 at h ⊢
    refine e_istore_n (lv2 := [some (.ref c1), some (.int v11), some (.int v3)]) qX6_shiningOnes_28 rfl rfl rfl ?_
    exact e_weak (hj9 _ h) ⟨Or.inr rfl, Or.inr rfl, Or.inr rfl, trivial⟩

set_option maxRecDepth 20000 in
set_option maxHeartbeats 4000000 in
theorem w_X6_shiningOnes {N : Nat} {a0 : Nat} {s0 : St} {r : Int32} (h_a0 : sh a0 = 6) (h : f_X6_shiningOnes N a0 s0 = some r) : Ct mX6_shiningOnes 3 [.ref a0] s0 (some (.int r), s0) := by
  refine Ct.ofE (by decide +kernel) rfl ?_
  show E mX6_shiningOnes 3 (some (.int r), s0) 0 [some (.ref a0), none, none] [] s0
  unfold f_X6_shiningOnes at h
  refine e_iconst (nI 0) qX6_shiningOnes_0 rfl ?_
  refine e_istore_n (lv2 := [some (.ref a0), some (.int (nI 0)), none]) qX6_shiningOnes_1 rfl rfl rfl ?_
  refine e_iconst (nI 0) qX6_shiningOnes_2 rfl ?_
  refine e_istore_n (lv2 := [some (.ref a0), some (.int (nI 0)), some (.int (nI 0))]) qX6_shiningOnes_3 rfl rfl rfl ?_
  exact e_weak (w_X6_shiningOnes_L4 h_a0  _ _ _ h) ⟨Or.inr rfl, Or.inr rfl, Or.inr rfl, trivial⟩

def f_X6_visibleFrom_L5 (N : Nat) (c1 : Nat) (c2 : Int32) (c3 : Int32) (s0 : St) : Nat → Int32 → Int32 → Option (Int32)
  | 0, _, _ => none
  | n6 + 1, v4, v5 =>
    vl (s0.1 3 2) fun v8 =>
    if v8 ≤ v5 then
      some v4
    else
    ald (rr 4) 8 v5 fun v9 =>
    vl (s0.1 c1 2) fun v11 =>
    bp (f_X4_isVisible v9 c2 c3 v11 s0) fun v12 =>
    jn (fun (v13 : Int32) =>
      vl (v5 + (nI 1)) fun v15 =>
      f_X6_visibleFrom_L5 N c1 c2 c3 s0 n6 v13 v15) fun j14 =>
    if v12 = 0 then
      j14 v4
    else
    vl (v4 ||| ((nI 1) <<< (v5 &&& 31))) fun v16 =>
    j14 v16

def f_X6_visibleFrom (N : Nat) (a0 : Nat) (x1 : Int32) (x2 : Int32) (s0 : St) : Option (Int32) :=
  f_X6_visibleFrom_L5 N a0 x1 x2 s0 N (nI 0) (nI 0)

theorem qX6_visibleFrom_0 : Dc mX6_visibleFrom 0 (.iconst 0) 1 1 := ⟨by decide +kernel, rfl⟩
theorem qX6_visibleFrom_1 : Dc mX6_visibleFrom 1 (.istore_n 3) 1 2 := ⟨by decide +kernel, rfl⟩
theorem qX6_visibleFrom_2 : Dc mX6_visibleFrom 2 (.iconst 0) 1 3 := ⟨by decide +kernel, rfl⟩
theorem qX6_visibleFrom_3 : Dc mX6_visibleFrom 3 (.istore 4) 2 5 := ⟨by decide +kernel, rfl⟩
theorem qX6_visibleFrom_5 : Dc mX6_visibleFrom 5 (.iload 4) 2 7 := ⟨by decide +kernel, rfl⟩
theorem qX6_visibleFrom_7 : Dc mX6_visibleFrom 7 (.aload_n 0) 1 8 := ⟨by decide +kernel, rfl⟩
theorem qX6_visibleFrom_8 : Dc mX6_visibleFrom 8 (.getfield 27) 3 11 := ⟨by decide +kernel, rfl⟩
theorem qX6_visibleFrom_11 : Dc mX6_visibleFrom 11 (.getfield 46) 3 14 := ⟨by decide +kernel, rfl⟩
theorem qX6_visibleFrom_14 : Dc mX6_visibleFrom 14 (.if_icmp .ge 38) 3 17 := ⟨by decide +kernel, rfl⟩
theorem qX6_visibleFrom_17 : Dc mX6_visibleFrom 17 (.aload_n 0) 1 18 := ⟨by decide +kernel, rfl⟩
theorem qX6_visibleFrom_18 : Dc mX6_visibleFrom 18 (.getfield 27) 3 21 := ⟨by decide +kernel, rfl⟩
theorem qX6_visibleFrom_21 : Dc mX6_visibleFrom 21 (.getfield 49) 3 24 := ⟨by decide +kernel, rfl⟩
theorem qX6_visibleFrom_24 : Dc mX6_visibleFrom 24 (.iload 4) 2 26 := ⟨by decide +kernel, rfl⟩
theorem qX6_visibleFrom_26 : Dc mX6_visibleFrom 26 (.aaload) 1 27 := ⟨by decide +kernel, rfl⟩
theorem qX6_visibleFrom_27 : Dc mX6_visibleFrom 27 (.iload_n 1) 1 28 := ⟨by decide +kernel, rfl⟩
theorem qX6_visibleFrom_28 : Dc mX6_visibleFrom 28 (.iload_n 2) 1 29 := ⟨by decide +kernel, rfl⟩
theorem qX6_visibleFrom_29 : Dc mX6_visibleFrom 29 (.aload_n 0) 1 30 := ⟨by decide +kernel, rfl⟩
theorem qX6_visibleFrom_30 : Dc mX6_visibleFrom 30 (.getfield 40) 3 33 := ⟨by decide +kernel, rfl⟩
theorem qX6_visibleFrom_33 : Dc mX6_visibleFrom 33 (.invokevirtual 105) 3 36 := ⟨by decide +kernel, rfl⟩
theorem qX6_visibleFrom_36 : Dc mX6_visibleFrom 36 (.ifCond .eq 10) 3 39 := ⟨by decide +kernel, rfl⟩
theorem qX6_visibleFrom_39 : Dc mX6_visibleFrom 39 (.iload_n 3) 1 40 := ⟨by decide +kernel, rfl⟩
theorem qX6_visibleFrom_40 : Dc mX6_visibleFrom 40 (.iconst 1) 1 41 := ⟨by decide +kernel, rfl⟩
theorem qX6_visibleFrom_41 : Dc mX6_visibleFrom 41 (.iload 4) 2 43 := ⟨by decide +kernel, rfl⟩
theorem qX6_visibleFrom_43 : Dc mX6_visibleFrom 43 (.ishl) 1 44 := ⟨by decide +kernel, rfl⟩
theorem qX6_visibleFrom_44 : Dc mX6_visibleFrom 44 (.ior) 1 45 := ⟨by decide +kernel, rfl⟩
theorem qX6_visibleFrom_45 : Dc mX6_visibleFrom 45 (.istore_n 3) 1 46 := ⟨by decide +kernel, rfl⟩
theorem qX6_visibleFrom_46 : Dc mX6_visibleFrom 46 (.iinc 4 1) 3 49 := ⟨by decide +kernel, rfl⟩
theorem qX6_visibleFrom_49 : Dc mX6_visibleFrom 49 (.goto (-44)) 3 52 := ⟨by decide +kernel, rfl⟩
theorem qX6_visibleFrom_52 : Dc mX6_visibleFrom 52 (.iload_n 3) 1 53 := ⟨by decide +kernel, rfl⟩
theorem qX6_visibleFrom_53 : Dc mX6_visibleFrom 53 (.ireturn) 1 54 := ⟨by decide +kernel, rfl⟩

set_option maxRecDepth 20000 in
set_option maxHeartbeats 4000000 in
theorem w_X6_visibleFrom_L5 {N : Nat} {c1 : Nat} {c2 : Int32} {c3 : Int32} {s0 : St}  {r : Int32} (h_c1 : sh c1 = 6)  : ∀ (n6 : Nat) (v4 : Int32) (v5 : Int32), f_X6_visibleFrom_L5 N c1 c2 c3 s0 n6 v4 v5 = some r → E mX6_visibleFrom 2 (some (.int r), s0) 5 [some (.ref c1), some (.int c2), some (.int c3), some (.int v4), some (.int v5)] [] s0 := by
  intro n6
  induction n6 with
  | zero =>
    intro v4 v5 h
    rw [f_X6_visibleFrom_L5] at h; cases h
  | succ n6 ih7 =>
    intro v4 v5 h
    rw [f_X6_visibleFrom_L5] at h
    refine e_iload qX6_visibleFrom_5 rfl ?_
    refine e_aload_n qX6_visibleFrom_7 rfl ?_
    refine e_getr 3 qX6_visibleFrom_8 fl_X6_27 h_c1 kdq_6_0 (wq_6_0 _ h_c1) ?_
    refine e_geti qX6_visibleFrom_11 fl_X6_46 shq_3 kdq_1_2 h (fun v8 h => ?_)
    refine e_icmp_ge (tgt := 52) qX6_visibleFrom_14 rfl h (fun _ h => ?_) (fun _ h => ?_)
    · refine e_iload_n qX6_visibleFrom_52 rfl ?_
      exact e_iret qX6_visibleFrom_53 rfl (ret_p h)
    refine e_aload_n qX6_visibleFrom_17 rfl ?_
    refine e_getr 3 qX6_visibleFrom_18 fl_X6_27 h_c1 kdq_6_0 (wq_6_0 _ h_c1) ?_
    refine e_getr 4 qX6_visibleFrom_21 fl_X6_49 shq_3 kdq_1_0 rrq_3_0 ?_
    refine e_iload qX6_visibleFrom_24 rfl ?_
    refine e_rald24 qX6_visibleFrom_26 shq_4 lnq_4 h (fun i10 hi10 h => ?_)
    refine e_iload_n qX6_visibleFrom_27 rfl ?_
    refine e_iload_n qX6_visibleFrom_28 rfl ?_
    refine e_aload_n qX6_visibleFrom_29 rfl ?_
    refine e_geti qX6_visibleFrom_30 fl_X6_40 h_c1 kdq_6_2 h (fun v11 h => ?_)
    obtain ⟨v12, hc, h⟩ := bp_e h
    refine e_cVi3 qX6_visibleFrom_33 mv_X6_105 (we_24 _ shq_4 _ hi10) rfl rfl (w_X4_isVisible (we_24 _ shq_4 _ hi10) hc) ?_
    refine jn_e (fun j => ∀ (v13 : Int32), j v13 = some r → E mX6_visibleFrom 2 (some (.int r), s0) 46 [some (.ref c1), some (.int c2), some (.int c3), some (.int v13), some (.int v5)] [] s0) h ?_ (fun j14 hj14 h => ?_)
    · intro v13 h
      refine vl_e h (fun h => ?_)
      obtain ⟨v15, ev15⟩ : ∃ y, v5 + (nI 1) = y := ⟨_, rfl⟩
      rw [ev15] at h
      refine e_iinc (nI 1) v15 (lv2 := [some (.ref c1), some (.int c2), some (.int c3), some (.int v13), some (.int v15)]) qX6_visibleFrom_46 rfl rfl rfl ev15 rfl ?_
      refine e_goto (tgt := 5) qX6_visibleFrom_49 rfl ?_
      exact e_weak (ih7 _ _ h) ⟨Or.inr rfl, Or.inr rfl, Or.inr rfl, Or.inr rfl, Or.inr rfl, trivial⟩
    refine e_if_eq (tgt := 46) qX6_visibleFrom_36 rfl h (fun _ h => ?_) (fun _ h => ?_)
    · exact e_weak (hj14 _ h) ⟨Or.inr rfl, Or.inr rfl, Or.inr rfl, Or.inr rfl, Or.inr rfl, trivial⟩
    refine e_iload_n qX6_visibleFrom_39 rfl ?_
    refine e_iconst (nI 1) qX6_visibleFrom_40 rfl ?_
    refine e_iload qX6_visibleFrom_41 rfl ?_
    refine e_ishl qX6_visibleFrom_43 ?_
    refine e_ior qX6_visibleFrom_44 ?_
    refine vl_e h (fun h => ?_)
    generalize (v4 ||| ((nI 1) <<< (v5 &&& 31))) = v16 at h ⊢
    refine e_istore_n (lv2 := [some (.ref c1), some (.int c2), some (.int c3), some (.int v16), some (.int v5)]) qX6_visibleFrom_45 rfl rfl rfl ?_
    exact e_weak (hj14 _ h) ⟨Or.inr rfl, Or.inr rfl, Or.inr rfl, Or.inr rfl, Or.inr rfl, trivial⟩

set_option maxRecDepth 20000 in
set_option maxHeartbeats 4000000 in
theorem w_X6_visibleFrom {N : Nat} {a0 : Nat} {x1 : Int32} {x2 : Int32} {s0 : St} {r : Int32} (h_a0 : sh a0 = 6) (h : f_X6_visibleFrom N a0 x1 x2 s0 = some r) : Ct mX6_visibleFrom 2 [.ref a0, .int x1, .int x2] s0 (some (.int r), s0) := by
  refine Ct.ofE (by decide +kernel) rfl ?_
  show E mX6_visibleFrom 2 (some (.int r), s0) 0 [some (.ref a0), some (.int x1), some (.int x2), none, none] [] s0
  unfold f_X6_visibleFrom at h
  refine e_iconst (nI 0) qX6_visibleFrom_0 rfl ?_
  refine e_istore_n (lv2 := [some (.ref a0), some (.int x1), some (.int x2), some (.int (nI 0)), none]) qX6_visibleFrom_1 rfl rfl rfl ?_
  refine e_iconst (nI 0) qX6_visibleFrom_2 rfl ?_
  refine e_istore (lv2 := [some (.ref a0), some (.int x1), some (.int x2), some (.int (nI 0)), some (.int (nI 0))]) qX6_visibleFrom_3 rfl rfl rfl ?_
  exact e_weak (w_X6_visibleFrom_L5 h_a0  _ _ _ h) ⟨Or.inr rfl, Or.inr rfl, Or.inr rfl, Or.inr rfl, Or.inr rfl, trivial⟩

def f_X6_seenBy (N : Nat) (a0 : Nat) (x1 : Int32) (s0 : St) : Option (Int32) :=
  ald (s0.1 (rr a0 6)) 4 x1 fun v1 =>
  ald (s0.1 (rr a0 7)) 4 x1 fun v2 =>
  bp (f_X6_visibleFrom N a0 v1 v2 s0) fun v3 =>
  bp (f_X6_shiningOnes N a0 s0) fun v4 =>
  some (v3 &&& v4)

theorem qX6_seenBy_0 : Dc mX6_seenBy 0 (.aload_n 0) 1 1 := ⟨by decide +kernel, rfl⟩
theorem qX6_seenBy_1 : Dc mX6_seenBy 1 (.aload_n 0) 1 2 := ⟨by decide +kernel, rfl⟩
theorem qX6_seenBy_2 : Dc mX6_seenBy 2 (.getfield 18) 3 5 := ⟨by decide +kernel, rfl⟩
theorem qX6_seenBy_5 : Dc mX6_seenBy 5 (.iload_n 1) 1 6 := ⟨by decide +kernel, rfl⟩
theorem qX6_seenBy_6 : Dc mX6_seenBy 6 (.iaload) 1 7 := ⟨by decide +kernel, rfl⟩
theorem qX6_seenBy_7 : Dc mX6_seenBy 7 (.aload_n 0) 1 8 := ⟨by decide +kernel, rfl⟩
theorem qX6_seenBy_8 : Dc mX6_seenBy 8 (.getfield 21) 3 11 := ⟨by decide +kernel, rfl⟩
theorem qX6_seenBy_11 : Dc mX6_seenBy 11 (.iload_n 1) 1 12 := ⟨by decide +kernel, rfl⟩
theorem qX6_seenBy_12 : Dc mX6_seenBy 12 (.iaload) 1 13 := ⟨by decide +kernel, rfl⟩
theorem qX6_seenBy_13 : Dc mX6_seenBy 13 (.invokevirtual 109) 3 16 := ⟨by decide +kernel, rfl⟩
theorem qX6_seenBy_16 : Dc mX6_seenBy 16 (.aload_n 0) 1 17 := ⟨by decide +kernel, rfl⟩
theorem qX6_seenBy_17 : Dc mX6_seenBy 17 (.invokevirtual 112) 3 20 := ⟨by decide +kernel, rfl⟩
theorem qX6_seenBy_20 : Dc mX6_seenBy 20 (.iand) 1 21 := ⟨by decide +kernel, rfl⟩
theorem qX6_seenBy_21 : Dc mX6_seenBy 21 (.ireturn) 1 22 := ⟨by decide +kernel, rfl⟩

set_option maxRecDepth 20000 in
set_option maxHeartbeats 4000000 in
theorem w_X6_seenBy {N : Nat} {a0 : Nat} {x1 : Int32} {s0 : St} {r : Int32} (h_a0 : sh a0 = 6) (h : f_X6_seenBy N a0 x1 s0 = some r) : Ct mX6_seenBy 4 [.ref a0, .int x1] s0 (some (.int r), s0) := by
  refine Ct.ofE (by decide +kernel) rfl ?_
  show E mX6_seenBy 4 (some (.int r), s0) 0 [some (.ref a0), some (.int x1)] [] s0
  unfold f_X6_seenBy at h
  refine e_aload_n qX6_seenBy_0 rfl ?_
  refine e_aload_n qX6_seenBy_1 rfl ?_
  refine e_getr (rr a0 6) qX6_seenBy_2 fl_X6_18 h_a0 kdq_6_6 rfl ?_
  refine e_iload_n qX6_seenBy_5 rfl ?_
  refine e_iald qX6_seenBy_6 (wt_6_6 _ h_a0).1 (wt_6_6 _ h_a0).2 h (fun v1 h => ?_)
  refine e_aload_n qX6_seenBy_7 rfl ?_
  refine e_getr (rr a0 7) qX6_seenBy_8 fl_X6_21 h_a0 kdq_6_7 rfl ?_
  refine e_iload_n qX6_seenBy_11 rfl ?_
  refine e_iald qX6_seenBy_12 (wt_6_7 _ h_a0).1 (wt_6_7 _ h_a0).2 h (fun v2 h => ?_)
  obtain ⟨v3, hc, h⟩ := bp_e h
  refine e_cVi2 qX6_seenBy_13 mv_X6_109 h_a0 rfl rfl (w_X6_visibleFrom h_a0 hc) ?_
  refine e_aload_n qX6_seenBy_16 rfl ?_
  obtain ⟨v4, hc, h⟩ := bp_e h
  refine e_cVi0 qX6_seenBy_17 mv_X6_112 h_a0 rfl rfl (w_X6_shiningOnes h_a0 hc) ?_
  refine e_iand qX6_seenBy_20 ?_
  exact e_iret qX6_seenBy_21 rfl (ret_p h)

def f_X6_moveOn (a0 : Nat) (x1 : Int32) (x2 : Int32) (s0 : St) : Option (Int32 × St) :=
  ald (rr 4) 8 x1 fun v1 =>
  vl (s0.1 v1 9) fun v3 =>
  if v3 = 0 then
    some ((nI 1), s0)
  else
  ald (s0.1 (rr a0 5)) 8 x1 fun v4 =>
  ald (rr 4) 8 x1 fun v5 =>
  vl (s0.1 v5 10) fun v7 =>
  bp (f_X11_remainder (v4 + x2) v7 s0) fun v8 =>
  ald (fun j => sI s0 (rr a0 5) j v8) 8 x1 fun s9 =>
  some ((nI 0), s9)

theorem qX6_moveOn_0 : Dc mX6_moveOn 0 (.aload_n 0) 1 1 := ⟨by decide +kernel, rfl⟩
theorem qX6_moveOn_1 : Dc mX6_moveOn 1 (.getfield 27) 3 4 := ⟨by decide +kernel, rfl⟩
theorem qX6_moveOn_4 : Dc mX6_moveOn 4 (.getfield 49) 3 7 := ⟨by decide +kernel, rfl⟩
theorem qX6_moveOn_7 : Dc mX6_moveOn 7 (.iload_n 1) 1 8 := ⟨by decide +kernel, rfl⟩
theorem qX6_moveOn_8 : Dc mX6_moveOn 8 (.aaload) 1 9 := ⟨by decide +kernel, rfl⟩
theorem qX6_moveOn_9 : Dc mX6_moveOn 9 (.getfield 116) 3 12 := ⟨by decide +kernel, rfl⟩
theorem qX6_moveOn_12 : Dc mX6_moveOn 12 (.ifCond .ne 5) 3 15 := ⟨by decide +kernel, rfl⟩
theorem qX6_moveOn_15 : Dc mX6_moveOn 15 (.iconst 1) 1 16 := ⟨by decide +kernel, rfl⟩
theorem qX6_moveOn_16 : Dc mX6_moveOn 16 (.ireturn) 1 17 := ⟨by decide +kernel, rfl⟩
theorem qX6_moveOn_17 : Dc mX6_moveOn 17 (.aload_n 0) 1 18 := ⟨by decide +kernel, rfl⟩
theorem qX6_moveOn_18 : Dc mX6_moveOn 18 (.getfield 15) 3 21 := ⟨by decide +kernel, rfl⟩
theorem qX6_moveOn_21 : Dc mX6_moveOn 21 (.iload_n 1) 1 22 := ⟨by decide +kernel, rfl⟩
theorem qX6_moveOn_22 : Dc mX6_moveOn 22 (.aload_n 0) 1 23 := ⟨by decide +kernel, rfl⟩
theorem qX6_moveOn_23 : Dc mX6_moveOn 23 (.getfield 15) 3 26 := ⟨by decide +kernel, rfl⟩
theorem qX6_moveOn_26 : Dc mX6_moveOn 26 (.iload_n 1) 1 27 := ⟨by decide +kernel, rfl⟩
theorem qX6_moveOn_27 : Dc mX6_moveOn 27 (.iaload) 1 28 := ⟨by decide +kernel, rfl⟩
theorem qX6_moveOn_28 : Dc mX6_moveOn 28 (.iload_n 2) 1 29 := ⟨by decide +kernel, rfl⟩
theorem qX6_moveOn_29 : Dc mX6_moveOn 29 (.iadd) 1 30 := ⟨by decide +kernel, rfl⟩
theorem qX6_moveOn_30 : Dc mX6_moveOn 30 (.aload_n 0) 1 31 := ⟨by decide +kernel, rfl⟩
theorem qX6_moveOn_31 : Dc mX6_moveOn 31 (.getfield 27) 3 34 := ⟨by decide +kernel, rfl⟩
theorem qX6_moveOn_34 : Dc mX6_moveOn 34 (.getfield 49) 3 37 := ⟨by decide +kernel, rfl⟩
theorem qX6_moveOn_37 : Dc mX6_moveOn 37 (.iload_n 1) 1 38 := ⟨by decide +kernel, rfl⟩
theorem qX6_moveOn_38 : Dc mX6_moveOn 38 (.aaload) 1 39 := ⟨by decide +kernel, rfl⟩
theorem qX6_moveOn_39 : Dc mX6_moveOn 39 (.getfield 83) 3 42 := ⟨by decide +kernel, rfl⟩
theorem qX6_moveOn_42 : Dc mX6_moveOn 42 (.invokestatic 86) 3 45 := ⟨by decide +kernel, rfl⟩
theorem qX6_moveOn_45 : Dc mX6_moveOn 45 (.iastore) 1 46 := ⟨by decide +kernel, rfl⟩
theorem qX6_moveOn_46 : Dc mX6_moveOn 46 (.iconst 0) 1 47 := ⟨by decide +kernel, rfl⟩
theorem qX6_moveOn_47 : Dc mX6_moveOn 47 (.ireturn) 1 48 := ⟨by decide +kernel, rfl⟩

set_option maxRecDepth 20000 in
set_option maxHeartbeats 4000000 in
theorem w_X6_moveOn {a0 : Nat} {x1 : Int32} {x2 : Int32} {s0 : St} {r : Int32} {sr : St} (h_a0 : sh a0 = 6) (h : f_X6_moveOn a0 x1 x2 s0 = some (r, sr)) : Ct mX6_moveOn 1 [.ref a0, .int x1, .int x2] s0 (some (.int r), sr) := by
  refine Ct.ofE (by decide +kernel) rfl ?_
  show E mX6_moveOn 1 (some (.int r), sr) 0 [some (.ref a0), some (.int x1), some (.int x2)] [] s0
  unfold f_X6_moveOn at h
  refine e_aload_n qX6_moveOn_0 rfl ?_
  refine e_getr 3 qX6_moveOn_1 fl_X6_27 h_a0 kdq_6_0 (wq_6_0 _ h_a0) ?_
  refine e_getr 4 qX6_moveOn_4 fl_X6_49 shq_3 kdq_1_0 rrq_3_0 ?_
  refine e_iload_n qX6_moveOn_7 rfl ?_
  refine e_rald24 qX6_moveOn_8 shq_4 lnq_4 h (fun i2 hi2 h => ?_)
  refine e_geti qX6_moveOn_9 fl_X6_116 (we_24 _ shq_4 _ hi2) kdq_4_9 h (fun v3 h => ?_)
  refine e_if_ne (tgt := 17) qX6_moveOn_12 rfl h (fun _ h => ?_) (fun _ h => ?_)
  · refine e_iconst (nI 1) qX6_moveOn_15 rfl ?_
    exact e_iret qX6_moveOn_16 rfl (ret_i h)
  refine e_aload_n qX6_moveOn_17 rfl ?_
  refine e_getr (rr a0 5) qX6_moveOn_18 fl_X6_15 h_a0 kdq_6_5 rfl ?_
  refine e_iload_n qX6_moveOn_21 rfl ?_
  refine e_aload_n qX6_moveOn_22 rfl ?_
  refine e_getr (rr a0 5) qX6_moveOn_23 fl_X6_15 h_a0 kdq_6_5 rfl ?_
  refine e_iload_n qX6_moveOn_26 rfl ?_
  refine e_iald qX6_moveOn_27 (wt_6_5 _ h_a0).1 (wt_6_5 _ h_a0).2 h (fun v4 h => ?_)
  refine e_iload_n qX6_moveOn_28 rfl ?_
  refine e_iadd qX6_moveOn_29 ?_
  refine e_aload_n qX6_moveOn_30 rfl ?_
  refine e_getr 3 qX6_moveOn_31 fl_X6_27 h_a0 kdq_6_0 (wq_6_0 _ h_a0) ?_
  refine e_getr 4 qX6_moveOn_34 fl_X6_49 shq_3 kdq_1_0 rrq_3_0 ?_
  refine e_iload_n qX6_moveOn_37 rfl ?_
  refine e_rald24 qX6_moveOn_38 shq_4 lnq_4 h (fun i6 hi6 h => ?_)
  refine e_geti qX6_moveOn_39 fl_X6_83 (we_24 _ shq_4 _ hi6) kdq_4_10 h (fun v7 h => ?_)
  obtain ⟨v8, hc, h⟩ := bp_e h
  refine e_cNi2 qX6_moveOn_42 mn_X6_86 rfl rfl (w_X11_remainder hc) ?_
  refine e_iast qX6_moveOn_45 (wt_6_5 _ h_a0).1 (wt_6_5 _ h_a0).2 h (fun s9 h => ?_)
  refine e_iconst (nI 0) qX6_moveOn_46 rfl ?_
  exact e_iret qX6_moveOn_47 rfl (ret_i h)

def f_X6_sail (a0 : Nat) (x1 : Int32) (s0 : St) : Option (St) :=
  ald (s0.1 (rr a0 6)) 4 x1 fun v1 =>
  ald (s0.1 (rr a0 8)) 4 x1 fun v2 =>
  ald sx 9 v2 fun v3 =>
  vl (v1 + v3) fun v4 =>
  ald (s0.1 (rr a0 7)) 4 x1 fun v5 =>
  ald (s0.1 (rr a0 8)) 4 x1 fun v6 =>
  ald sy 9 v6 fun v7 =>
  vl (v5 + v7) fun v8 =>
  bp (f_X11_isCell v4 v8 s0) fun v9 =>
  if v9 = 0 then
    ald (fun j => sI s0 (rr a0 8) j (nI 8)) 4 x1 fun s10 =>
    some s10
  else
  ald (fun j => sI s0 (rr a0 6) j v4) 4 x1 fun s11 =>
  ald (fun j => sI s11 (rr a0 7) j v8) 4 x1 fun s12 =>
  some s12

theorem qX6_sail_0 : Dc mX6_sail 0 (.aload_n 0) 1 1 := ⟨by decide +kernel, rfl⟩
theorem qX6_sail_1 : Dc mX6_sail 1 (.getfield 18) 3 4 := ⟨by decide +kernel, rfl⟩
theorem qX6_sail_4 : Dc mX6_sail 4 (.iload_n 1) 1 5 := ⟨by decide +kernel, rfl⟩
theorem qX6_sail_5 : Dc mX6_sail 5 (.iaload) 1 6 := ⟨by decide +kernel, rfl⟩
theorem qX6_sail_6 : Dc mX6_sail 6 (.getstatic 129) 3 9 := ⟨by decide +kernel, rfl⟩
theorem qX6_sail_9 : Dc mX6_sail 9 (.aload_n 0) 1 10 := ⟨by decide +kernel, rfl⟩
theorem qX6_sail_10 : Dc mX6_sail 10 (.getfield 24) 3 13 := ⟨by decide +kernel, rfl⟩
theorem qX6_sail_13 : Dc mX6_sail 13 (.iload_n 1) 1 14 := ⟨by decide +kernel, rfl⟩
theorem qX6_sail_14 : Dc mX6_sail 14 (.iaload) 1 15 := ⟨by decide +kernel, rfl⟩
theorem qX6_sail_15 : Dc mX6_sail 15 (.iaload) 1 16 := ⟨by decide +kernel, rfl⟩
theorem qX6_sail_16 : Dc mX6_sail 16 (.iadd) 1 17 := ⟨by decide +kernel, rfl⟩
theorem qX6_sail_17 : Dc mX6_sail 17 (.istore_n 2) 1 18 := ⟨by decide +kernel, rfl⟩
theorem qX6_sail_18 : Dc mX6_sail 18 (.aload_n 0) 1 19 := ⟨by decide +kernel, rfl⟩
theorem qX6_sail_19 : Dc mX6_sail 19 (.getfield 21) 3 22 := ⟨by decide +kernel, rfl⟩
theorem qX6_sail_22 : Dc mX6_sail 22 (.iload_n 1) 1 23 := ⟨by decide +kernel, rfl⟩
theorem qX6_sail_23 : Dc mX6_sail 23 (.iaload) 1 24 := ⟨by decide +kernel, rfl⟩
theorem qX6_sail_24 : Dc mX6_sail 24 (.getstatic 132) 3 27 := ⟨by decide +kernel, rfl⟩
theorem qX6_sail_27 : Dc mX6_sail 27 (.aload_n 0) 1 28 := ⟨by decide +kernel, rfl⟩
theorem qX6_sail_28 : Dc mX6_sail 28 (.getfield 24) 3 31 := ⟨by decide +kernel, rfl⟩
theorem qX6_sail_31 : Dc mX6_sail 31 (.iload_n 1) 1 32 := ⟨by decide +kernel, rfl⟩
theorem qX6_sail_32 : Dc mX6_sail 32 (.iaload) 1 33 := ⟨by decide +kernel, rfl⟩
theorem qX6_sail_33 : Dc mX6_sail 33 (.iaload) 1 34 := ⟨by decide +kernel, rfl⟩
theorem qX6_sail_34 : Dc mX6_sail 34 (.iadd) 1 35 := ⟨by decide +kernel, rfl⟩
theorem qX6_sail_35 : Dc mX6_sail 35 (.istore_n 3) 1 36 := ⟨by decide +kernel, rfl⟩
theorem qX6_sail_36 : Dc mX6_sail 36 (.iload_n 2) 1 37 := ⟨by decide +kernel, rfl⟩
theorem qX6_sail_37 : Dc mX6_sail 37 (.iload_n 3) 1 38 := ⟨by decide +kernel, rfl⟩
theorem qX6_sail_38 : Dc mX6_sail 38 (.invokestatic 135) 3 41 := ⟨by decide +kernel, rfl⟩
theorem qX6_sail_41 : Dc mX6_sail 41 (.ifCond .eq 20) 3 44 := ⟨by decide +kernel, rfl⟩
theorem qX6_sail_44 : Dc mX6_sail 44 (.aload_n 0) 1 45 := ⟨by decide +kernel, rfl⟩
theorem qX6_sail_45 : Dc mX6_sail 45 (.getfield 18) 3 48 := ⟨by decide +kernel, rfl⟩
theorem qX6_sail_48 : Dc mX6_sail 48 (.iload_n 1) 1 49 := ⟨by decide +kernel, rfl⟩
theorem qX6_sail_49 : Dc mX6_sail 49 (.iload_n 2) 1 50 := ⟨by decide +kernel, rfl⟩
theorem qX6_sail_50 : Dc mX6_sail 50 (.iastore) 1 51 := ⟨by decide +kernel, rfl⟩
theorem qX6_sail_51 : Dc mX6_sail 51 (.aload_n 0) 1 52 := ⟨by decide +kernel, rfl⟩
theorem qX6_sail_52 : Dc mX6_sail 52 (.getfield 21) 3 55 := ⟨by decide +kernel, rfl⟩
theorem qX6_sail_55 : Dc mX6_sail 55 (.iload_n 1) 1 56 := ⟨by decide +kernel, rfl⟩
theorem qX6_sail_56 : Dc mX6_sail 56 (.iload_n 3) 1 57 := ⟨by decide +kernel, rfl⟩
theorem qX6_sail_57 : Dc mX6_sail 57 (.iastore) 1 58 := ⟨by decide +kernel, rfl⟩
theorem qX6_sail_58 : Dc mX6_sail 58 (.goto 11) 3 61 := ⟨by decide +kernel, rfl⟩
theorem qX6_sail_61 : Dc mX6_sail 61 (.aload_n 0) 1 62 := ⟨by decide +kernel, rfl⟩
theorem qX6_sail_62 : Dc mX6_sail 62 (.getfield 24) 3 65 := ⟨by decide +kernel, rfl⟩
theorem qX6_sail_65 : Dc mX6_sail 65 (.iload_n 1) 1 66 := ⟨by decide +kernel, rfl⟩
theorem qX6_sail_66 : Dc mX6_sail 66 (.bipush 8) 2 68 := ⟨by decide +kernel, rfl⟩
theorem qX6_sail_68 : Dc mX6_sail 68 (.iastore) 1 69 := ⟨by decide +kernel, rfl⟩
theorem qX6_sail_69 : Dc mX6_sail 69 (.return_) 1 70 := ⟨by decide +kernel, rfl⟩

set_option maxRecDepth 20000 in
set_option maxHeartbeats 4000000 in
theorem w_X6_sail {a0 : Nat} {x1 : Int32} {s0 : St} {sr : St} (h_a0 : sh a0 = 6) (h : f_X6_sail a0 x1 s0 = some sr) : Ct mX6_sail 1 [.ref a0, .int x1] s0 (none, sr) := by
  refine Ct.ofE (by decide +kernel) rfl ?_
  show E mX6_sail 1 (none, sr) 0 [some (.ref a0), some (.int x1), none, none] [] s0
  unfold f_X6_sail at h
  refine e_aload_n qX6_sail_0 rfl ?_
  refine e_getr (rr a0 6) qX6_sail_1 fl_X6_18 h_a0 kdq_6_6 rfl ?_
  refine e_iload_n qX6_sail_4 rfl ?_
  refine e_iald qX6_sail_5 (wt_6_6 _ h_a0).1 (wt_6_6 _ h_a0).2 h (fun v1 h => ?_)
  refine e_getsx (host := "CoastLights") qX6_sail_6 (by decide +kernel) ?_
  refine e_aload_n qX6_sail_9 rfl ?_
  refine e_getr (rr a0 8) qX6_sail_10 fl_X6_24 h_a0 kdq_6_8 rfl ?_
  refine e_iload_n qX6_sail_13 rfl ?_
  refine e_iald qX6_sail_14 (wt_6_8 _ h_a0).1 (wt_6_8 _ h_a0).2 h (fun v2 h => ?_)
  refine e_ialdx qX6_sail_15 h (fun v3 h => ?_)
  refine e_iadd qX6_sail_16 ?_
  refine vl_e h (fun h => ?_)
  generalize (v1 + v3) = v4 at h ⊢
  refine e_istore_n (lv2 := [some (.ref a0), some (.int x1), some (.int v4), none]) qX6_sail_17 rfl rfl rfl ?_
  refine e_aload_n qX6_sail_18 rfl ?_
  refine e_getr (rr a0 7) qX6_sail_19 fl_X6_21 h_a0 kdq_6_7 rfl ?_
  refine e_iload_n qX6_sail_22 rfl ?_
  refine e_iald qX6_sail_23 (wt_6_7 _ h_a0).1 (wt_6_7 _ h_a0).2 h (fun v5 h => ?_)
  refine e_getsy (host := "CoastLights") qX6_sail_24 (by decide +kernel) ?_
  refine e_aload_n qX6_sail_27 rfl ?_
  refine e_getr (rr a0 8) qX6_sail_28 fl_X6_24 h_a0 kdq_6_8 rfl ?_
  refine e_iload_n qX6_sail_31 rfl ?_
  refine e_iald qX6_sail_32 (wt_6_8 _ h_a0).1 (wt_6_8 _ h_a0).2 h (fun v6 h => ?_)
  refine e_ialdy qX6_sail_33 h (fun v7 h => ?_)
  refine e_iadd qX6_sail_34 ?_
  refine vl_e h (fun h => ?_)
  generalize (v5 + v7) = v8 at h ⊢
  refine e_istore_n (lv2 := [some (.ref a0), some (.int x1), some (.int v4), some (.int v8)]) qX6_sail_35 rfl rfl rfl ?_
  refine e_iload_n qX6_sail_36 rfl ?_
  refine e_iload_n qX6_sail_37 rfl ?_
  obtain ⟨v9, hc, h⟩ := bp_e h
  refine e_cNi2 qX6_sail_38 mn_X6_135 rfl rfl (w_X11_isCell hc) ?_
  refine e_if_eq (tgt := 61) qX6_sail_41 rfl h (fun _ h => ?_) (fun _ h => ?_)
  · refine e_aload_n qX6_sail_61 rfl ?_
    refine e_getr (rr a0 8) qX6_sail_62 fl_X6_24 h_a0 kdq_6_8 rfl ?_
    refine e_iload_n qX6_sail_65 rfl ?_
    refine e_bipush (nI 8) qX6_sail_66 rfl ?_
    refine e_iast qX6_sail_68 (wt_6_8 _ h_a0).1 (wt_6_8 _ h_a0).2 h (fun s10 h => ?_)
    exact e_vret qX6_sail_69 rfl (ret_v h)
  refine e_aload_n qX6_sail_44 rfl ?_
  refine e_getr (rr a0 6) qX6_sail_45 fl_X6_18 h_a0 kdq_6_6 rfl ?_
  refine e_iload_n qX6_sail_48 rfl ?_
  refine e_iload_n qX6_sail_49 rfl ?_
  refine e_iast qX6_sail_50 (wt_6_6 _ h_a0).1 (wt_6_6 _ h_a0).2 h (fun s11 h => ?_)
  refine e_aload_n qX6_sail_51 rfl ?_
  refine e_getr (rr a0 7) qX6_sail_52 fl_X6_21 h_a0 kdq_6_7 rfl ?_
  refine e_iload_n qX6_sail_55 rfl ?_
  refine e_iload_n qX6_sail_56 rfl ?_
  refine e_iast qX6_sail_57 (wt_6_7 _ h_a0).1 (wt_6_7 _ h_a0).2 h (fun s12 h => ?_)
  refine e_goto (tgt := 69) qX6_sail_58 rfl ?_
  exact e_vret qX6_sail_69 rfl (ret_v h)

def f_X6_secondsToBurn_L84 (N : Nat) (c13 : Nat) (s0 : St) : Nat → Int32 → Int32 → Int32 → Int32 → Option (Int32)
  | 0, _, _, _, _ => none
  | n18 + 1, v14, v15, v16, v17 =>
    vl (s0.1 c13 10) fun v20 =>
    if v20 ≤ v17 then
      some v16
    else
    if v14 ≤ 0 then
      some v16
    else
    ald (s0.1 (rr c13 11)) 160 v15 fun v21 =>
    jn (fun (v22 : Int32) =>
      bp (f_X4_placeBehind c13 v15 s0) fun v24 =>
      vl (v16 + (nI 1)) fun v25 =>
      vl (v17 + (nI 1)) fun v26 =>
      f_X6_secondsToBurn_L84 N c13 s0 n18 v22 v24 v25 v26) fun j23 =>
    if v21 = 0 then
      j23 v14
    else
    vl (v14 + (-1)) fun v27 =>
    j23 v27

def f_X6_secondsToBurn (N : Nat) (a0 : Nat) (x1 : Int32) (s0 : St) : Option (Int32) :=
  ald (rr 4) 8 x1 fun v1 =>
  bp (f_X4_secondsOn N v1 s0) fun v3 =>
  ald (s0.1 (rr a0 4)) 8 x1 fun v4 =>
  if v4 = 0 then
    some (nI 0)
  else
  bp (f_X6_isOut a0 x1 s0) fun v5 =>
  if v5 = 0 then
    if v3 = 0 then
      some (-1)
    else
    ald (s0.1 (rr a0 4)) 8 x1 fun v6 =>
    dv (v6 - (nI 1)) v3 fun v7 =>
    ald (s0.1 (rr a0 4)) 8 x1 fun v8 =>
    vl (v8 - (v7 * v3)) fun v9 =>
    bp (f_X6_placeOf a0 x1 s0) fun v10 =>
    vl (s0.1 v1 10) fun v11 =>
    vl (v7 * v11) fun v12 =>
    f_X6_secondsToBurn_L84 N v1 s0 N v9 v10 v12 (nI 0)
  else
  some (-1)

theorem qX6_secondsToBurn_0 : Dc mX6_secondsToBurn 0 (.aload_n 0) 1 1 := ⟨by decide +kernel, rfl⟩
theorem qX6_secondsToBurn_1 : Dc mX6_secondsToBurn 1 (.getfield 27) 3 4 := ⟨by decide +kernel, rfl⟩
theorem qX6_secondsToBurn_4 : Dc mX6_secondsToBurn 4 (.getfield 49) 3 7 := ⟨by decide +kernel, rfl⟩
theorem qX6_secondsToBurn_7 : Dc mX6_secondsToBurn 7 (.iload_n 1) 1 8 := ⟨by decide +kernel, rfl⟩
theorem qX6_secondsToBurn_8 : Dc mX6_secondsToBurn 8 (.aaload) 1 9 := ⟨by decide +kernel, rfl⟩
theorem qX6_secondsToBurn_9 : Dc mX6_secondsToBurn 9 (.astore_n 2) 1 10 := ⟨by decide +kernel, rfl⟩
theorem qX6_secondsToBurn_10 : Dc mX6_secondsToBurn 10 (.aload_n 2) 1 11 := ⟨by decide +kernel, rfl⟩
theorem qX6_secondsToBurn_11 : Dc mX6_secondsToBurn 11 (.invokevirtual 139) 3 14 := ⟨by decide +kernel, rfl⟩
theorem qX6_secondsToBurn_14 : Dc mX6_secondsToBurn 14 (.istore_n 3) 1 15 := ⟨by decide +kernel, rfl⟩
theorem qX6_secondsToBurn_15 : Dc mX6_secondsToBurn 15 (.aload_n 0) 1 16 := ⟨by decide +kernel, rfl⟩
theorem qX6_secondsToBurn_16 : Dc mX6_secondsToBurn 16 (.getfield 9) 3 19 := ⟨by decide +kernel, rfl⟩
theorem qX6_secondsToBurn_19 : Dc mX6_secondsToBurn 19 (.iload_n 1) 1 20 := ⟨by decide +kernel, rfl⟩
theorem qX6_secondsToBurn_20 : Dc mX6_secondsToBurn 20 (.iaload) 1 21 := ⟨by decide +kernel, rfl⟩
theorem qX6_secondsToBurn_21 : Dc mX6_secondsToBurn 21 (.ifCond .ne 5) 3 24 := ⟨by decide +kernel, rfl⟩
theorem qX6_secondsToBurn_24 : Dc mX6_secondsToBurn 24 (.iconst 0) 1 25 := ⟨by decide +kernel, rfl⟩
theorem qX6_secondsToBurn_25 : Dc mX6_secondsToBurn 25 (.ireturn) 1 26 := ⟨by decide +kernel, rfl⟩
theorem qX6_secondsToBurn_26 : Dc mX6_secondsToBurn 26 (.aload_n 0) 1 27 := ⟨by decide +kernel, rfl⟩
theorem qX6_secondsToBurn_27 : Dc mX6_secondsToBurn 27 (.iload_n 1) 1 28 := ⟨by decide +kernel, rfl⟩
theorem qX6_secondsToBurn_28 : Dc mX6_secondsToBurn 28 (.invokevirtual 90) 3 31 := ⟨by decide +kernel, rfl⟩
theorem qX6_secondsToBurn_31 : Dc mX6_secondsToBurn 31 (.ifCond .ne 7) 3 34 := ⟨by decide +kernel, rfl⟩
theorem qX6_secondsToBurn_34 : Dc mX6_secondsToBurn 34 (.iload_n 3) 1 35 := ⟨by decide +kernel, rfl⟩
theorem qX6_secondsToBurn_35 : Dc mX6_secondsToBurn 35 (.ifCond .ne 5) 3 38 := ⟨by decide +kernel, rfl⟩
theorem qX6_secondsToBurn_38 : Dc mX6_secondsToBurn 38 (.iconst (-1)) 1 39 := ⟨by decide +kernel, rfl⟩
theorem qX6_secondsToBurn_39 : Dc mX6_secondsToBurn 39 (.ireturn) 1 40 := ⟨by decide +kernel, rfl⟩
theorem qX6_secondsToBurn_40 : Dc mX6_secondsToBurn 40 (.aload_n 0) 1 41 := ⟨by decide +kernel, rfl⟩
theorem qX6_secondsToBurn_41 : Dc mX6_secondsToBurn 41 (.getfield 9) 3 44 := ⟨by decide +kernel, rfl⟩
theorem qX6_secondsToBurn_44 : Dc mX6_secondsToBurn 44 (.iload_n 1) 1 45 := ⟨by decide +kernel, rfl⟩
theorem qX6_secondsToBurn_45 : Dc mX6_secondsToBurn 45 (.iaload) 1 46 := ⟨by decide +kernel, rfl⟩
theorem qX6_secondsToBurn_46 : Dc mX6_secondsToBurn 46 (.iconst 1) 1 47 := ⟨by decide +kernel, rfl⟩
theorem qX6_secondsToBurn_47 : Dc mX6_secondsToBurn 47 (.isub) 1 48 := ⟨by decide +kernel, rfl⟩
theorem qX6_secondsToBurn_48 : Dc mX6_secondsToBurn 48 (.iload_n 3) 1 49 := ⟨by decide +kernel, rfl⟩
theorem qX6_secondsToBurn_49 : Dc mX6_secondsToBurn 49 (.idiv) 1 50 := ⟨by decide +kernel, rfl⟩
theorem qX6_secondsToBurn_50 : Dc mX6_secondsToBurn 50 (.istore 4) 2 52 := ⟨by decide +kernel, rfl⟩
theorem qX6_secondsToBurn_52 : Dc mX6_secondsToBurn 52 (.aload_n 0) 1 53 := ⟨by decide +kernel, rfl⟩
theorem qX6_secondsToBurn_53 : Dc mX6_secondsToBurn 53 (.getfield 9) 3 56 := ⟨by decide +kernel, rfl⟩
theorem qX6_secondsToBurn_56 : Dc mX6_secondsToBurn 56 (.iload_n 1) 1 57 := ⟨by decide +kernel, rfl⟩
theorem qX6_secondsToBurn_57 : Dc mX6_secondsToBurn 57 (.iaload) 1 58 := ⟨by decide +kernel, rfl⟩
theorem qX6_secondsToBurn_58 : Dc mX6_secondsToBurn 58 (.iload 4) 2 60 := ⟨by decide +kernel, rfl⟩
theorem qX6_secondsToBurn_60 : Dc mX6_secondsToBurn 60 (.iload_n 3) 1 61 := ⟨by decide +kernel, rfl⟩
theorem qX6_secondsToBurn_61 : Dc mX6_secondsToBurn 61 (.imul) 1 62 := ⟨by decide +kernel, rfl⟩
theorem qX6_secondsToBurn_62 : Dc mX6_secondsToBurn 62 (.isub) 1 63 := ⟨by decide +kernel, rfl⟩
theorem qX6_secondsToBurn_63 : Dc mX6_secondsToBurn 63 (.istore 5) 2 65 := ⟨by decide +kernel, rfl⟩
theorem qX6_secondsToBurn_65 : Dc mX6_secondsToBurn 65 (.aload_n 0) 1 66 := ⟨by decide +kernel, rfl⟩
theorem qX6_secondsToBurn_66 : Dc mX6_secondsToBurn 66 (.iload_n 1) 1 67 := ⟨by decide +kernel, rfl⟩
theorem qX6_secondsToBurn_67 : Dc mX6_secondsToBurn 67 (.invokevirtual 98) 3 70 := ⟨by decide +kernel, rfl⟩
theorem qX6_secondsToBurn_70 : Dc mX6_secondsToBurn 70 (.istore 6) 2 72 := ⟨by decide +kernel, rfl⟩
theorem qX6_secondsToBurn_72 : Dc mX6_secondsToBurn 72 (.iload 4) 2 74 := ⟨by decide +kernel, rfl⟩
theorem qX6_secondsToBurn_74 : Dc mX6_secondsToBurn 74 (.aload_n 2) 1 75 := ⟨by decide +kernel, rfl⟩
theorem qX6_secondsToBurn_75 : Dc mX6_secondsToBurn 75 (.getfield 83) 3 78 := ⟨by decide +kernel, rfl⟩
theorem qX6_secondsToBurn_78 : Dc mX6_secondsToBurn 78 (.imul) 1 79 := ⟨by decide +kernel, rfl⟩
theorem qX6_secondsToBurn_79 : Dc mX6_secondsToBurn 79 (.istore 7) 2 81 := ⟨by decide +kernel, rfl⟩
theorem qX6_secondsToBurn_81 : Dc mX6_secondsToBurn 81 (.iconst 0) 1 82 := ⟨by decide +kernel, rfl⟩
theorem qX6_secondsToBurn_82 : Dc mX6_secondsToBurn 82 (.istore 8) 2 84 := ⟨by decide +kernel, rfl⟩
theorem qX6_secondsToBurn_84 : Dc mX6_secondsToBurn 84 (.iload 8) 2 86 := ⟨by decide +kernel, rfl⟩
theorem qX6_secondsToBurn_86 : Dc mX6_secondsToBurn 86 (.aload_n 2) 1 87 := ⟨by decide +kernel, rfl⟩
theorem qX6_secondsToBurn_87 : Dc mX6_secondsToBurn 87 (.getfield 83) 3 90 := ⟨by decide +kernel, rfl⟩
theorem qX6_secondsToBurn_90 : Dc mX6_secondsToBurn 90 (.if_icmp .ge 38) 3 93 := ⟨by decide +kernel, rfl⟩
theorem qX6_secondsToBurn_93 : Dc mX6_secondsToBurn 93 (.iload 5) 2 95 := ⟨by decide +kernel, rfl⟩
theorem qX6_secondsToBurn_95 : Dc mX6_secondsToBurn 95 (.ifCond .le 33) 3 98 := ⟨by decide +kernel, rfl⟩
theorem qX6_secondsToBurn_98 : Dc mX6_secondsToBurn 98 (.aload_n 2) 1 99 := ⟨by decide +kernel, rfl⟩
theorem qX6_secondsToBurn_99 : Dc mX6_secondsToBurn 99 (.getfield 94) 3 102 := ⟨by decide +kernel, rfl⟩
theorem qX6_secondsToBurn_102 : Dc mX6_secondsToBurn 102 (.iload 6) 2 104 := ⟨by decide +kernel, rfl⟩
theorem qX6_secondsToBurn_104 : Dc mX6_secondsToBurn 104 (.baload) 1 105 := ⟨by decide +kernel, rfl⟩
theorem qX6_secondsToBurn_105 : Dc mX6_secondsToBurn 105 (.ifCond .eq 6) 3 108 := ⟨by decide +kernel, rfl⟩
theorem qX6_secondsToBurn_108 : Dc mX6_secondsToBurn 108 (.iinc 5 (-1)) 3 111 := ⟨by decide +kernel, rfl⟩
theorem qX6_secondsToBurn_111 : Dc mX6_secondsToBurn 111 (.aload_n 2) 1 112 := ⟨by decide +kernel, rfl⟩
theorem qX6_secondsToBurn_112 : Dc mX6_secondsToBurn 112 (.iload 6) 2 114 := ⟨by decide +kernel, rfl⟩
theorem qX6_secondsToBurn_114 : Dc mX6_secondsToBurn 114 (.invokevirtual 142) 3 117 := ⟨by decide +kernel, rfl⟩
theorem qX6_secondsToBurn_117 : Dc mX6_secondsToBurn 117 (.istore 6) 2 119 := ⟨by decide +kernel, rfl⟩
theorem qX6_secondsToBurn_119 : Dc mX6_secondsToBurn 119 (.iinc 7 1) 3 122 := ⟨by decide +kernel, rfl⟩
theorem qX6_secondsToBurn_122 : Dc mX6_secondsToBurn 122 (.iinc 8 1) 3 125 := ⟨by decide +kernel, rfl⟩
theorem qX6_secondsToBurn_125 : Dc mX6_secondsToBurn 125 (.goto (-41)) 3 128 := ⟨by decide +kernel, rfl⟩
theorem qX6_secondsToBurn_128 : Dc mX6_secondsToBurn 128 (.iload 7) 2 130 := ⟨by decide +kernel, rfl⟩
theorem qX6_secondsToBurn_130 : Dc mX6_secondsToBurn 130 (.ireturn) 1 131 := ⟨by decide +kernel, rfl⟩

set_option maxRecDepth 20000 in
set_option maxHeartbeats 4000000 in
theorem w_X6_secondsToBurn_L84 {N : Nat} {c13 : Nat} {s0 : St}  {r : Int32} (h_c13 : sh c13 = 4)  : ∀ (n18 : Nat) (v14 : Int32) (v15 : Int32) (v16 : Int32) (v17 : Int32), f_X6_secondsToBurn_L84 N c13 s0 n18 v14 v15 v16 v17 = some r → E mX6_secondsToBurn 2 (some (.int r), s0) 84 [none, none, some (.ref c13), none, none, some (.int v14), some (.int v15), some (.int v16), some (.int v17)] [] s0 := by
  intro n18
  induction n18 with
  | zero =>
    intro v14 v15 v16 v17 h
    rw [f_X6_secondsToBurn_L84] at h; cases h
  | succ n18 ih19 =>
    intro v14 v15 v16 v17 h
    rw [f_X6_secondsToBurn_L84] at h
    refine e_iload qX6_secondsToBurn_84 rfl ?_
    refine e_aload_n qX6_secondsToBurn_86 rfl ?_
    refine e_geti qX6_secondsToBurn_87 fl_X6_83 h_c13 kdq_4_10 h (fun v20 h => ?_)
    refine e_icmp_ge (tgt := 128) qX6_secondsToBurn_90 rfl h (fun _ h => ?_) (fun _ h => ?_)
    · refine e_iload qX6_secondsToBurn_128 rfl ?_
      exact e_iret qX6_secondsToBurn_130 rfl (ret_p h)
    refine e_iload qX6_secondsToBurn_93 rfl ?_
    refine e_if_le (tgt := 128) qX6_secondsToBurn_95 rfl h (fun _ h => ?_) (fun _ h => ?_)
    · refine e_iload qX6_secondsToBurn_128 rfl ?_
      exact e_iret qX6_secondsToBurn_130 rfl (ret_p h)
    refine e_aload_n qX6_secondsToBurn_98 rfl ?_
    refine e_getr (rr c13 11) qX6_secondsToBurn_99 fl_X6_94 h_c13 kdq_4_11 rfl ?_
    refine e_iload qX6_secondsToBurn_102 rfl ?_
    refine e_zald qX6_secondsToBurn_104 (wt_4_11 _ h_c13).1 (wt_4_11 _ h_c13).2 h (fun v21 h => ?_)
    refine jn_e (fun j => ∀ (v22 : Int32), j v22 = some r → E mX6_secondsToBurn 2 (some (.int r), s0) 111 [none, none, some (.ref c13), none, none, some (.int v22), some (.int v15), some (.int v16), some (.int v17)] [] s0) h ?_ (fun j23 hj23 h => ?_)
    · intro v22 h
      refine e_aload_n qX6_secondsToBurn_111 rfl ?_
      refine e_iload qX6_secondsToBurn_112 rfl ?_
      obtain ⟨v24, hc, h⟩ := bp_e h
      refine e_cVi1 qX6_secondsToBurn_114 mv_X6_142 h_c13 rfl rfl (w_X4_placeBehind h_c13 hc) ?_
      refine e_istore (lv2 := [none, none, some (.ref c13), none, none, some (.int v22), some (.int v24), some (.int v16), some (.int v17)]) qX6_secondsToBurn_117 rfl rfl rfl ?_
      refine vl_e h (fun h => ?_)
      obtain ⟨v25, ev25⟩ : ∃ y, v16 + (nI 1) = y := ⟨_, rfl⟩
      rw [ev25] at h
      refine e_iinc (nI 1) v25 (lv2 := [none, none, some (.ref c13), none, none, some (.int v22), some (.int v24), some (.int v25), some (.int v17)]) qX6_secondsToBurn_119 rfl rfl rfl ev25 rfl ?_
      refine vl_e h (fun h => ?_)
      obtain ⟨v26, ev26⟩ : ∃ y, v17 + (nI 1) = y := ⟨_, rfl⟩
      rw [ev26] at h
      refine e_iinc (nI 1) v26 (lv2 := [none, none, some (.ref c13), none, none, some (.int v22), some (.int v24), some (.int v25), some (.int v26)]) qX6_secondsToBurn_122 rfl rfl rfl ev26 rfl ?_
      refine e_goto (tgt := 84) qX6_secondsToBurn_125 rfl ?_
      exact e_weak (ih19 _ _ _ _ h) ⟨Or.inl rfl, Or.inl rfl, Or.inr rfl, Or.inl rfl, Or.inl rfl, Or.inr rfl, Or.inr rfl, Or.inr rfl, Or.inr rfl, trivial⟩
    refine e_if_eq (tgt := 111) qX6_secondsToBurn_105 rfl h (fun _ h => ?_) (fun _ h => ?_)
    · exact e_weak (hj23 _ h) ⟨Or.inl rfl, Or.inl rfl, Or.inr rfl, Or.inl rfl, Or.inl rfl, Or.inr rfl, Or.inr rfl, Or.inr rfl, Or.inr rfl, trivial⟩
    refine vl_e h (fun h => ?_)
    obtain ⟨v27, ev27⟩ : ∃ y, v14 + (-1) = y := ⟨_, rfl⟩
    rw [ev27] at h
    refine e_iinc (-1) v27 (lv2 := [none, none, some (.ref c13), none, none, some (.int v27), some (.int v15), some (.int v16), some (.int v17)]) qX6_secondsToBurn_108 rfl rfl rfl ev27 rfl ?_
    exact e_weak (hj23 _ h) ⟨Or.inl rfl, Or.inl rfl, Or.inr rfl, Or.inl rfl, Or.inl rfl, Or.inr rfl, Or.inr rfl, Or.inr rfl, Or.inr rfl, trivial⟩

set_option maxRecDepth 20000 in
set_option maxHeartbeats 4000000 in
theorem w_X6_secondsToBurn {N : Nat} {a0 : Nat} {x1 : Int32} {s0 : St} {r : Int32} (h_a0 : sh a0 = 6) (h : f_X6_secondsToBurn N a0 x1 s0 = some r) : Ct mX6_secondsToBurn 2 [.ref a0, .int x1] s0 (some (.int r), s0) := by
  refine Ct.ofE (by decide +kernel) rfl ?_
  show E mX6_secondsToBurn 2 (some (.int r), s0) 0 [some (.ref a0), some (.int x1), none, none, none, none, none, none, none] [] s0
  unfold f_X6_secondsToBurn at h
  refine e_aload_n qX6_secondsToBurn_0 rfl ?_
  refine e_getr 3 qX6_secondsToBurn_1 fl_X6_27 h_a0 kdq_6_0 (wq_6_0 _ h_a0) ?_
  refine e_getr 4 qX6_secondsToBurn_4 fl_X6_49 shq_3 kdq_1_0 rrq_3_0 ?_
  refine e_iload_n qX6_secondsToBurn_7 rfl ?_
  refine e_rald24 qX6_secondsToBurn_8 shq_4 lnq_4 h (fun i2 hi2 h => ?_)
  refine e_astore_n (lv2 := [some (.ref a0), some (.int x1), some (.ref (rr 4 i2)), none, none, none, none, none, none]) qX6_secondsToBurn_9 rfl rfl rfl ?_
  refine e_aload_n qX6_secondsToBurn_10 rfl ?_
  obtain ⟨v3, hc, h⟩ := bp_e h
  refine e_cVi0 qX6_secondsToBurn_11 mv_X6_139 (we_24 _ shq_4 _ hi2) rfl rfl (w_X4_secondsOn (we_24 _ shq_4 _ hi2) hc) ?_
  refine e_istore_n (lv2 := [some (.ref a0), some (.int x1), some (.ref (rr 4 i2)), some (.int v3), none, none, none, none, none]) qX6_secondsToBurn_14 rfl rfl rfl ?_
  refine e_aload_n qX6_secondsToBurn_15 rfl ?_
  refine e_getr (rr a0 4) qX6_secondsToBurn_16 fl_X6_9 h_a0 kdq_6_4 rfl ?_
  refine e_iload_n qX6_secondsToBurn_19 rfl ?_
  refine e_iald qX6_secondsToBurn_20 (wt_6_4 _ h_a0).1 (wt_6_4 _ h_a0).2 h (fun v4 h => ?_)
  refine e_if_ne (tgt := 26) qX6_secondsToBurn_21 rfl h (fun _ h => ?_) (fun _ h => ?_)
  · refine e_iconst (nI 0) qX6_secondsToBurn_24 rfl ?_
    exact e_iret qX6_secondsToBurn_25 rfl (ret_p h)
  refine e_aload_n qX6_secondsToBurn_26 rfl ?_
  refine e_iload_n qX6_secondsToBurn_27 rfl ?_
  obtain ⟨v5, hc, h⟩ := bp_e h
  refine e_cVi1 qX6_secondsToBurn_28 mv_X6_90 h_a0 rfl rfl (w_X6_isOut h_a0 hc) ?_
  refine e_if_ne (tgt := 38) qX6_secondsToBurn_31 rfl h (fun _ h => ?_) (fun _ h => ?_)
  · refine e_iload_n qX6_secondsToBurn_34 rfl ?_
    refine e_if_ne (tgt := 40) qX6_secondsToBurn_35 rfl h (fun _ h => ?_) (fun _ h => ?_)
    · refine e_iconst (-1) qX6_secondsToBurn_38 rfl ?_
      exact e_iret qX6_secondsToBurn_39 rfl (ret_p h)
    refine e_aload_n qX6_secondsToBurn_40 rfl ?_
    refine e_getr (rr a0 4) qX6_secondsToBurn_41 fl_X6_9 h_a0 kdq_6_4 rfl ?_
    refine e_iload_n qX6_secondsToBurn_44 rfl ?_
    refine e_iald qX6_secondsToBurn_45 (wt_6_4 _ h_a0).1 (wt_6_4 _ h_a0).2 h (fun v6 h => ?_)
    refine e_iconst (nI 1) qX6_secondsToBurn_46 rfl ?_
    refine e_isub qX6_secondsToBurn_47 ?_
    refine e_iload_n qX6_secondsToBurn_48 rfl ?_
    refine e_idiv qX6_secondsToBurn_49 h (fun v7 h => ?_)
    refine e_istore (lv2 := [some (.ref a0), some (.int x1), some (.ref (rr 4 i2)), some (.int v3), some (.int v7), none, none, none, none]) qX6_secondsToBurn_50 rfl rfl rfl ?_
    refine e_aload_n qX6_secondsToBurn_52 rfl ?_
    refine e_getr (rr a0 4) qX6_secondsToBurn_53 fl_X6_9 h_a0 kdq_6_4 rfl ?_
    refine e_iload_n qX6_secondsToBurn_56 rfl ?_
    refine e_iald qX6_secondsToBurn_57 (wt_6_4 _ h_a0).1 (wt_6_4 _ h_a0).2 h (fun v8 h => ?_)
    refine e_iload qX6_secondsToBurn_58 rfl ?_
    refine e_iload_n qX6_secondsToBurn_60 rfl ?_
    refine e_imul qX6_secondsToBurn_61 ?_
    refine e_isub qX6_secondsToBurn_62 ?_
    refine vl_e h (fun h => ?_)
    generalize (v8 - (v7 * v3)) = v9 at h ⊢
    refine e_istore (lv2 := [some (.ref a0), some (.int x1), some (.ref (rr 4 i2)), some (.int v3), some (.int v7), some (.int v9), none, none, none]) qX6_secondsToBurn_63 rfl rfl rfl ?_
    refine e_aload_n qX6_secondsToBurn_65 rfl ?_
    refine e_iload_n qX6_secondsToBurn_66 rfl ?_
    obtain ⟨v10, hc, h⟩ := bp_e h
    refine e_cVi1 qX6_secondsToBurn_67 mv_X6_98 h_a0 rfl rfl (w_X6_placeOf h_a0 hc) ?_
    refine e_istore (lv2 := [some (.ref a0), some (.int x1), some (.ref (rr 4 i2)), some (.int v3), some (.int v7), some (.int v9), some (.int v10), none, none]) qX6_secondsToBurn_70 rfl rfl rfl ?_
    refine e_iload qX6_secondsToBurn_72 rfl ?_
    refine e_aload_n qX6_secondsToBurn_74 rfl ?_
    refine e_geti qX6_secondsToBurn_75 fl_X6_83 (we_24 _ shq_4 _ hi2) kdq_4_10 h (fun v11 h => ?_)
    refine e_imul qX6_secondsToBurn_78 ?_
    refine vl_e h (fun h => ?_)
    generalize (v7 * v11) = v12 at h ⊢
    refine e_istore (lv2 := [some (.ref a0), some (.int x1), some (.ref (rr 4 i2)), some (.int v3), some (.int v7), some (.int v9), some (.int v10), some (.int v12), none]) qX6_secondsToBurn_79 rfl rfl rfl ?_
    refine e_iconst (nI 0) qX6_secondsToBurn_81 rfl ?_
    refine e_istore (lv2 := [some (.ref a0), some (.int x1), some (.ref (rr 4 i2)), some (.int v3), some (.int v7), some (.int v9), some (.int v10), some (.int v12), some (.int (nI 0))]) qX6_secondsToBurn_82 rfl rfl rfl ?_
    exact e_weak (w_X6_secondsToBurn_L84 (we_24 _ shq_4 _ hi2)  _ _ _ _ _ h) ⟨Or.inl rfl, Or.inl rfl, Or.inr rfl, Or.inl rfl, Or.inl rfl, Or.inr rfl, Or.inr rfl, Or.inr rfl, Or.inr rfl, trivial⟩
  refine e_iconst (-1) qX6_secondsToBurn_38 rfl ?_
  exact e_iret qX6_secondsToBurn_39 rfl (ret_p h)

def f_X7_kindAt  (s0 : St) : Option (Int32) :=
  bp (f_X9_is 1017 s0) fun v1 =>
  if v1 = 0 then
    bp (f_X9_is 1018 s0) fun v2 =>
    if v2 = 0 then
      bp (f_X9_is 1019 s0) fun v3 =>
      if v3 = 0 then
        bp (f_X9_is 1020 s0) fun v4 =>
        if v4 = 0 then
          bp (f_X9_is 1021 s0) fun v5 =>
          if v5 = 0 then
            bp (f_X9_is 1022 s0) fun v6 =>
            if v6 = 0 then
              bp (f_X9_is 1023 s0) fun v7 =>
              if v7 = 0 then
                bp (f_X9_is 1024 s0) fun v8 =>
                if v8 = 0 then
                  bp (f_X9_is 1025 s0) fun v9 =>
                  if v9 = 0 then
                    bp (f_X9_is 1026 s0) fun v10 =>
                    if v10 = 0 then
                      some (-1)
                    else
                    some (nI 11)
                  else
                  some (nI 10)
                else
                some (nI 9)
              else
              some (nI 8)
            else
            some (nI 7)
          else
          some (nI 6)
        else
        some (nI 5)
      else
      some (nI 4)
    else
    some (nI 3)
  else
  some (nI 2)

theorem qX7_kindAt_0 : Dc mX7_kindAt 0 (.aload_n 0) 1 1 := ⟨by decide +kernel, rfl⟩
theorem qX7_kindAt_1 : Dc mX7_kindAt 1 (.getstatic 98) 3 4 := ⟨by decide +kernel, rfl⟩
theorem qX7_kindAt_4 : Dc mX7_kindAt 4 (.invokevirtual 63) 3 7 := ⟨by decide +kernel, rfl⟩
theorem qX7_kindAt_7 : Dc mX7_kindAt 7 (.ifCond .eq 5) 3 10 := ⟨by decide +kernel, rfl⟩
theorem qX7_kindAt_10 : Dc mX7_kindAt 10 (.iconst 2) 1 11 := ⟨by decide +kernel, rfl⟩
theorem qX7_kindAt_11 : Dc mX7_kindAt 11 (.ireturn) 1 12 := ⟨by decide +kernel, rfl⟩
theorem qX7_kindAt_12 : Dc mX7_kindAt 12 (.aload_n 0) 1 13 := ⟨by decide +kernel, rfl⟩
theorem qX7_kindAt_13 : Dc mX7_kindAt 13 (.getstatic 101) 3 16 := ⟨by decide +kernel, rfl⟩
theorem qX7_kindAt_16 : Dc mX7_kindAt 16 (.invokevirtual 63) 3 19 := ⟨by decide +kernel, rfl⟩
theorem qX7_kindAt_19 : Dc mX7_kindAt 19 (.ifCond .eq 5) 3 22 := ⟨by decide +kernel, rfl⟩
theorem qX7_kindAt_22 : Dc mX7_kindAt 22 (.iconst 3) 1 23 := ⟨by decide +kernel, rfl⟩
theorem qX7_kindAt_23 : Dc mX7_kindAt 23 (.ireturn) 1 24 := ⟨by decide +kernel, rfl⟩
theorem qX7_kindAt_24 : Dc mX7_kindAt 24 (.aload_n 0) 1 25 := ⟨by decide +kernel, rfl⟩
theorem qX7_kindAt_25 : Dc mX7_kindAt 25 (.getstatic 104) 3 28 := ⟨by decide +kernel, rfl⟩
theorem qX7_kindAt_28 : Dc mX7_kindAt 28 (.invokevirtual 63) 3 31 := ⟨by decide +kernel, rfl⟩
theorem qX7_kindAt_31 : Dc mX7_kindAt 31 (.ifCond .eq 5) 3 34 := ⟨by decide +kernel, rfl⟩
theorem qX7_kindAt_34 : Dc mX7_kindAt 34 (.iconst 4) 1 35 := ⟨by decide +kernel, rfl⟩
theorem qX7_kindAt_35 : Dc mX7_kindAt 35 (.ireturn) 1 36 := ⟨by decide +kernel, rfl⟩
theorem qX7_kindAt_36 : Dc mX7_kindAt 36 (.aload_n 0) 1 37 := ⟨by decide +kernel, rfl⟩
theorem qX7_kindAt_37 : Dc mX7_kindAt 37 (.getstatic 107) 3 40 := ⟨by decide +kernel, rfl⟩
theorem qX7_kindAt_40 : Dc mX7_kindAt 40 (.invokevirtual 63) 3 43 := ⟨by decide +kernel, rfl⟩
theorem qX7_kindAt_43 : Dc mX7_kindAt 43 (.ifCond .eq 5) 3 46 := ⟨by decide +kernel, rfl⟩
theorem qX7_kindAt_46 : Dc mX7_kindAt 46 (.iconst 5) 1 47 := ⟨by decide +kernel, rfl⟩
theorem qX7_kindAt_47 : Dc mX7_kindAt 47 (.ireturn) 1 48 := ⟨by decide +kernel, rfl⟩
theorem qX7_kindAt_48 : Dc mX7_kindAt 48 (.aload_n 0) 1 49 := ⟨by decide +kernel, rfl⟩
theorem qX7_kindAt_49 : Dc mX7_kindAt 49 (.getstatic 110) 3 52 := ⟨by decide +kernel, rfl⟩
theorem qX7_kindAt_52 : Dc mX7_kindAt 52 (.invokevirtual 63) 3 55 := ⟨by decide +kernel, rfl⟩
theorem qX7_kindAt_55 : Dc mX7_kindAt 55 (.ifCond .eq 6) 3 58 := ⟨by decide +kernel, rfl⟩
theorem qX7_kindAt_58 : Dc mX7_kindAt 58 (.bipush 6) 2 60 := ⟨by decide +kernel, rfl⟩
theorem qX7_kindAt_60 : Dc mX7_kindAt 60 (.ireturn) 1 61 := ⟨by decide +kernel, rfl⟩
theorem qX7_kindAt_61 : Dc mX7_kindAt 61 (.aload_n 0) 1 62 := ⟨by decide +kernel, rfl⟩
theorem qX7_kindAt_62 : Dc mX7_kindAt 62 (.getstatic 113) 3 65 := ⟨by decide +kernel, rfl⟩
theorem qX7_kindAt_65 : Dc mX7_kindAt 65 (.invokevirtual 63) 3 68 := ⟨by decide +kernel, rfl⟩
theorem qX7_kindAt_68 : Dc mX7_kindAt 68 (.ifCond .eq 6) 3 71 := ⟨by decide +kernel, rfl⟩
theorem qX7_kindAt_71 : Dc mX7_kindAt 71 (.bipush 7) 2 73 := ⟨by decide +kernel, rfl⟩
theorem qX7_kindAt_73 : Dc mX7_kindAt 73 (.ireturn) 1 74 := ⟨by decide +kernel, rfl⟩
theorem qX7_kindAt_74 : Dc mX7_kindAt 74 (.aload_n 0) 1 75 := ⟨by decide +kernel, rfl⟩
theorem qX7_kindAt_75 : Dc mX7_kindAt 75 (.getstatic 116) 3 78 := ⟨by decide +kernel, rfl⟩
theorem qX7_kindAt_78 : Dc mX7_kindAt 78 (.invokevirtual 63) 3 81 := ⟨by decide +kernel, rfl⟩
theorem qX7_kindAt_81 : Dc mX7_kindAt 81 (.ifCond .eq 6) 3 84 := ⟨by decide +kernel, rfl⟩
theorem qX7_kindAt_84 : Dc mX7_kindAt 84 (.bipush 8) 2 86 := ⟨by decide +kernel, rfl⟩
theorem qX7_kindAt_86 : Dc mX7_kindAt 86 (.ireturn) 1 87 := ⟨by decide +kernel, rfl⟩
theorem qX7_kindAt_87 : Dc mX7_kindAt 87 (.aload_n 0) 1 88 := ⟨by decide +kernel, rfl⟩
theorem qX7_kindAt_88 : Dc mX7_kindAt 88 (.getstatic 119) 3 91 := ⟨by decide +kernel, rfl⟩
theorem qX7_kindAt_91 : Dc mX7_kindAt 91 (.invokevirtual 63) 3 94 := ⟨by decide +kernel, rfl⟩
theorem qX7_kindAt_94 : Dc mX7_kindAt 94 (.ifCond .eq 6) 3 97 := ⟨by decide +kernel, rfl⟩
theorem qX7_kindAt_97 : Dc mX7_kindAt 97 (.bipush 9) 2 99 := ⟨by decide +kernel, rfl⟩
theorem qX7_kindAt_99 : Dc mX7_kindAt 99 (.ireturn) 1 100 := ⟨by decide +kernel, rfl⟩
theorem qX7_kindAt_100 : Dc mX7_kindAt 100 (.aload_n 0) 1 101 := ⟨by decide +kernel, rfl⟩
theorem qX7_kindAt_101 : Dc mX7_kindAt 101 (.getstatic 122) 3 104 := ⟨by decide +kernel, rfl⟩
theorem qX7_kindAt_104 : Dc mX7_kindAt 104 (.invokevirtual 63) 3 107 := ⟨by decide +kernel, rfl⟩
theorem qX7_kindAt_107 : Dc mX7_kindAt 107 (.ifCond .eq 6) 3 110 := ⟨by decide +kernel, rfl⟩
theorem qX7_kindAt_110 : Dc mX7_kindAt 110 (.bipush 10) 2 112 := ⟨by decide +kernel, rfl⟩
theorem qX7_kindAt_112 : Dc mX7_kindAt 112 (.ireturn) 1 113 := ⟨by decide +kernel, rfl⟩
theorem qX7_kindAt_113 : Dc mX7_kindAt 113 (.aload_n 0) 1 114 := ⟨by decide +kernel, rfl⟩
theorem qX7_kindAt_114 : Dc mX7_kindAt 114 (.getstatic 125) 3 117 := ⟨by decide +kernel, rfl⟩
theorem qX7_kindAt_117 : Dc mX7_kindAt 117 (.invokevirtual 63) 3 120 := ⟨by decide +kernel, rfl⟩
theorem qX7_kindAt_120 : Dc mX7_kindAt 120 (.ifCond .eq 8) 3 123 := ⟨by decide +kernel, rfl⟩
theorem qX7_kindAt_123 : Dc mX7_kindAt 123 (.bipush 11) 2 125 := ⟨by decide +kernel, rfl⟩
theorem qX7_kindAt_125 : Dc mX7_kindAt 125 (.goto 4) 3 128 := ⟨by decide +kernel, rfl⟩
theorem qX7_kindAt_128 : Dc mX7_kindAt 128 (.iconst (-1)) 1 129 := ⟨by decide +kernel, rfl⟩
theorem qX7_kindAt_129 : Dc mX7_kindAt 129 (.ireturn) 1 130 := ⟨by decide +kernel, rfl⟩

set_option maxRecDepth 20000 in
set_option maxHeartbeats 4000000 in
theorem w_X7_kindAt  {s0 : St} {r : Int32} (h : f_X7_kindAt  s0 = some r) : Ct mX7_kindAt 1 [.ref 1] s0 (some (.int r), s0) := by
  refine Ct.ofE (by decide +kernel) rfl ?_
  show E mX7_kindAt 1 (some (.int r), s0) 0 [some (.ref 1)] [] s0
  unfold f_X7_kindAt at h
  refine e_aload_n qX7_kindAt_0 rfl ?_
  refine e_getsw (i := 17) qX7_kindAt_1 (by decide) cg_X7_98 ?_
  obtain ⟨v1, hc, h⟩ := bp_e h
  refine e_cVi1 qX7_kindAt_4 mv_X7_63 shq_1 rfl rfl (w_X9_is hc) ?_
  refine e_if_eq (tgt := 12) qX7_kindAt_7 rfl h (fun _ h => ?_) (fun _ h => ?_)
  · refine e_aload_n qX7_kindAt_12 rfl ?_
    refine e_getsw (i := 18) qX7_kindAt_13 (by decide) cg_X7_101 ?_
    obtain ⟨v2, hc, h⟩ := bp_e h
    refine e_cVi1 qX7_kindAt_16 mv_X7_63 shq_1 rfl rfl (w_X9_is hc) ?_
    refine e_if_eq (tgt := 24) qX7_kindAt_19 rfl h (fun _ h => ?_) (fun _ h => ?_)
    · refine e_aload_n qX7_kindAt_24 rfl ?_
      refine e_getsw (i := 19) qX7_kindAt_25 (by decide) cg_X7_104 ?_
      obtain ⟨v3, hc, h⟩ := bp_e h
      refine e_cVi1 qX7_kindAt_28 mv_X7_63 shq_1 rfl rfl (w_X9_is hc) ?_
      refine e_if_eq (tgt := 36) qX7_kindAt_31 rfl h (fun _ h => ?_) (fun _ h => ?_)
      · refine e_aload_n qX7_kindAt_36 rfl ?_
        refine e_getsw (i := 20) qX7_kindAt_37 (by decide) cg_X7_107 ?_
        obtain ⟨v4, hc, h⟩ := bp_e h
        refine e_cVi1 qX7_kindAt_40 mv_X7_63 shq_1 rfl rfl (w_X9_is hc) ?_
        refine e_if_eq (tgt := 48) qX7_kindAt_43 rfl h (fun _ h => ?_) (fun _ h => ?_)
        · refine e_aload_n qX7_kindAt_48 rfl ?_
          refine e_getsw (i := 21) qX7_kindAt_49 (by decide) cg_X7_110 ?_
          obtain ⟨v5, hc, h⟩ := bp_e h
          refine e_cVi1 qX7_kindAt_52 mv_X7_63 shq_1 rfl rfl (w_X9_is hc) ?_
          refine e_if_eq (tgt := 61) qX7_kindAt_55 rfl h (fun _ h => ?_) (fun _ h => ?_)
          · refine e_aload_n qX7_kindAt_61 rfl ?_
            refine e_getsw (i := 22) qX7_kindAt_62 (by decide) cg_X7_113 ?_
            obtain ⟨v6, hc, h⟩ := bp_e h
            refine e_cVi1 qX7_kindAt_65 mv_X7_63 shq_1 rfl rfl (w_X9_is hc) ?_
            refine e_if_eq (tgt := 74) qX7_kindAt_68 rfl h (fun _ h => ?_) (fun _ h => ?_)
            · refine e_aload_n qX7_kindAt_74 rfl ?_
              refine e_getsw (i := 23) qX7_kindAt_75 (by decide) cg_X7_116 ?_
              obtain ⟨v7, hc, h⟩ := bp_e h
              refine e_cVi1 qX7_kindAt_78 mv_X7_63 shq_1 rfl rfl (w_X9_is hc) ?_
              refine e_if_eq (tgt := 87) qX7_kindAt_81 rfl h (fun _ h => ?_) (fun _ h => ?_)
              · refine e_aload_n qX7_kindAt_87 rfl ?_
                refine e_getsw (i := 24) qX7_kindAt_88 (by decide) cg_X7_119 ?_
                obtain ⟨v8, hc, h⟩ := bp_e h
                refine e_cVi1 qX7_kindAt_91 mv_X7_63 shq_1 rfl rfl (w_X9_is hc) ?_
                refine e_if_eq (tgt := 100) qX7_kindAt_94 rfl h (fun _ h => ?_) (fun _ h => ?_)
                · refine e_aload_n qX7_kindAt_100 rfl ?_
                  refine e_getsw (i := 25) qX7_kindAt_101 (by decide) cg_X7_122 ?_
                  obtain ⟨v9, hc, h⟩ := bp_e h
                  refine e_cVi1 qX7_kindAt_104 mv_X7_63 shq_1 rfl rfl (w_X9_is hc) ?_
                  refine e_if_eq (tgt := 113) qX7_kindAt_107 rfl h (fun _ h => ?_) (fun _ h => ?_)
                  · refine e_aload_n qX7_kindAt_113 rfl ?_
                    refine e_getsw (i := 26) qX7_kindAt_114 (by decide) cg_X7_125 ?_
                    obtain ⟨v10, hc, h⟩ := bp_e h
                    refine e_cVi1 qX7_kindAt_117 mv_X7_63 shq_1 rfl rfl (w_X9_is hc) ?_
                    refine e_if_eq (tgt := 128) qX7_kindAt_120 rfl h (fun _ h => ?_) (fun _ h => ?_)
                    · refine e_iconst (-1) qX7_kindAt_128 rfl ?_
                      exact e_iret qX7_kindAt_129 rfl (ret_p h)
                    refine e_bipush (nI 11) qX7_kindAt_123 rfl ?_
                    refine e_goto (tgt := 129) qX7_kindAt_125 rfl ?_
                    exact e_iret qX7_kindAt_129 rfl (ret_p h)
                  refine e_bipush (nI 10) qX7_kindAt_110 rfl ?_
                  exact e_iret qX7_kindAt_112 rfl (ret_p h)
                refine e_bipush (nI 9) qX7_kindAt_97 rfl ?_
                exact e_iret qX7_kindAt_99 rfl (ret_p h)
              refine e_bipush (nI 8) qX7_kindAt_84 rfl ?_
              exact e_iret qX7_kindAt_86 rfl (ret_p h)
            refine e_bipush (nI 7) qX7_kindAt_71 rfl ?_
            exact e_iret qX7_kindAt_73 rfl (ret_p h)
          refine e_bipush (nI 6) qX7_kindAt_58 rfl ?_
          exact e_iret qX7_kindAt_60 rfl (ret_p h)
        refine e_iconst (nI 5) qX7_kindAt_46 rfl ?_
        exact e_iret qX7_kindAt_47 rfl (ret_p h)
      refine e_iconst (nI 4) qX7_kindAt_34 rfl ?_
      exact e_iret qX7_kindAt_35 rfl (ret_p h)
    refine e_iconst (nI 3) qX7_kindAt_22 rfl ?_
    exact e_iret qX7_kindAt_23 rfl (ret_p h)
  refine e_iconst (nI 2) qX7_kindAt_10 rfl ?_
  exact e_iret qX7_kindAt_11 rfl (ret_p h)

def f_X7_measuredSet_L5 (N : Nat) (c1 : Nat) (c2 : Nat) (c3 : Int32) (s0 : St) : Nat → Int32 → Int32 → Option (Int32)
  | 0, _, _ => none
  | n6 + 1, v4, v5 =>
    vl (s0.1 3 2) fun v8 =>
    if v8 ≤ v5 then
      some v4
    else
    ald (s0.1 (rr c1 2)) 40 c3 fun v9 =>
    bp (f_X7_measureOf c2 v9 v5 s0) fun v10 =>
    ald (s0.1 (rr c1 3)) 40 c3 fun v11 =>
    jn (fun (v12 : Int32) =>
      jn (fun (v14 : Int32) =>
        vl (v5 + (nI 1)) fun v16 =>
        f_X7_measuredSet_L5 N c1 c2 c3 s0 n6 v14 v16) fun j15 =>
      if v12 = 0 then
        j15 v4
      else
      vl (v4 ||| ((nI 1) <<< (v5 &&& 31))) fun v17 =>
      j15 v17) fun j13 =>
    if v11 = (nI 60) then
      ald (s0.1 (rr c1 4)) 40 c3 fun v18 =>
      if v18 ≤ v10 then
        j13 (nI 0)
      else
      j13 (nI 1)
    else
    ald (s0.1 (rr c1 3)) 40 c3 fun v19 =>
    if v19 = (nI 62) then
      ald (s0.1 (rr c1 4)) 40 c3 fun v20 =>
      if v10 ≤ v20 then
        j13 (nI 0)
      else
      j13 (nI 1)
    else
    ald (s0.1 (rr c1 4)) 40 c3 fun v21 =>
    if v10 = v21 then
      j13 (nI 1)
    else
    j13 (nI 0)

def f_X7_measuredSet (N : Nat) (a0 : Nat) (a1 : Nat) (x2 : Int32) (s0 : St) : Option (Int32) :=
  f_X7_measuredSet_L5 N a0 a1 x2 s0 N (nI 0) (nI 0)

theorem qX7_measuredSet_0 : Dc mX7_measuredSet 0 (.iconst 0) 1 1 := ⟨by decide +kernel, rfl⟩
theorem qX7_measuredSet_1 : Dc mX7_measuredSet 1 (.istore_n 3) 1 2 := ⟨by decide +kernel, rfl⟩
theorem qX7_measuredSet_2 : Dc mX7_measuredSet 2 (.iconst 0) 1 3 := ⟨by decide +kernel, rfl⟩
theorem qX7_measuredSet_3 : Dc mX7_measuredSet 3 (.istore 4) 2 5 := ⟨by decide +kernel, rfl⟩
theorem qX7_measuredSet_5 : Dc mX7_measuredSet 5 (.iload 4) 2 7 := ⟨by decide +kernel, rfl⟩
theorem qX7_measuredSet_7 : Dc mX7_measuredSet 7 (.aload_n 1) 1 8 := ⟨by decide +kernel, rfl⟩
theorem qX7_measuredSet_8 : Dc mX7_measuredSet 8 (.getfield 154) 3 11 := ⟨by decide +kernel, rfl⟩
theorem qX7_measuredSet_11 : Dc mX7_measuredSet 11 (.getfield 193) 3 14 := ⟨by decide +kernel, rfl⟩
theorem qX7_measuredSet_14 : Dc mX7_measuredSet 14 (.if_icmp .ge 113) 3 17 := ⟨by decide +kernel, rfl⟩
theorem qX7_measuredSet_17 : Dc mX7_measuredSet 17 (.aload_n 1) 1 18 := ⟨by decide +kernel, rfl⟩
theorem qX7_measuredSet_18 : Dc mX7_measuredSet 18 (.aload_n 0) 1 19 := ⟨by decide +kernel, rfl⟩
theorem qX7_measuredSet_19 : Dc mX7_measuredSet 19 (.getfield 11) 3 22 := ⟨by decide +kernel, rfl⟩
theorem qX7_measuredSet_22 : Dc mX7_measuredSet 22 (.iload_n 2) 1 23 := ⟨by decide +kernel, rfl⟩
theorem qX7_measuredSet_23 : Dc mX7_measuredSet 23 (.iaload) 1 24 := ⟨by decide +kernel, rfl⟩
theorem qX7_measuredSet_24 : Dc mX7_measuredSet 24 (.iload 4) 2 26 := ⟨by decide +kernel, rfl⟩
theorem qX7_measuredSet_26 : Dc mX7_measuredSet 26 (.invokestatic 196) 3 29 := ⟨by decide +kernel, rfl⟩
theorem qX7_measuredSet_29 : Dc mX7_measuredSet 29 (.istore 5) 2 31 := ⟨by decide +kernel, rfl⟩
theorem qX7_measuredSet_31 : Dc mX7_measuredSet 31 (.aload_n 0) 1 32 := ⟨by decide +kernel, rfl⟩
theorem qX7_measuredSet_32 : Dc mX7_measuredSet 32 (.getfield 15) 3 35 := ⟨by decide +kernel, rfl⟩
theorem qX7_measuredSet_35 : Dc mX7_measuredSet 35 (.iload_n 2) 1 36 := ⟨by decide +kernel, rfl⟩
theorem qX7_measuredSet_36 : Dc mX7_measuredSet 36 (.iaload) 1 37 := ⟨by decide +kernel, rfl⟩
theorem qX7_measuredSet_37 : Dc mX7_measuredSet 37 (.bipush 60) 2 39 := ⟨by decide +kernel, rfl⟩
theorem qX7_measuredSet_39 : Dc mX7_measuredSet 39 (.if_icmp .ne 22) 3 42 := ⟨by decide +kernel, rfl⟩
theorem qX7_measuredSet_42 : Dc mX7_measuredSet 42 (.iload 5) 2 44 := ⟨by decide +kernel, rfl⟩
theorem qX7_measuredSet_44 : Dc mX7_measuredSet 44 (.aload_n 0) 1 45 := ⟨by decide +kernel, rfl⟩
theorem qX7_measuredSet_45 : Dc mX7_measuredSet 45 (.getfield 18) 3 48 := ⟨by decide +kernel, rfl⟩
theorem qX7_measuredSet_48 : Dc mX7_measuredSet 48 (.iload_n 2) 1 49 := ⟨by decide +kernel, rfl⟩
theorem qX7_measuredSet_49 : Dc mX7_measuredSet 49 (.iaload) 1 50 := ⟨by decide +kernel, rfl⟩
theorem qX7_measuredSet_50 : Dc mX7_measuredSet 50 (.if_icmp .ge 7) 3 53 := ⟨by decide +kernel, rfl⟩
theorem qX7_measuredSet_53 : Dc mX7_measuredSet 53 (.iconst 1) 1 54 := ⟨by decide +kernel, rfl⟩
theorem qX7_measuredSet_54 : Dc mX7_measuredSet 54 (.goto 53) 3 57 := ⟨by decide +kernel, rfl⟩
theorem qX7_measuredSet_57 : Dc mX7_measuredSet 57 (.iconst 0) 1 58 := ⟨by decide +kernel, rfl⟩
theorem qX7_measuredSet_58 : Dc mX7_measuredSet 58 (.goto 49) 3 61 := ⟨by decide +kernel, rfl⟩
theorem qX7_measuredSet_61 : Dc mX7_measuredSet 61 (.aload_n 0) 1 62 := ⟨by decide +kernel, rfl⟩
theorem qX7_measuredSet_62 : Dc mX7_measuredSet 62 (.getfield 15) 3 65 := ⟨by decide +kernel, rfl⟩
theorem qX7_measuredSet_65 : Dc mX7_measuredSet 65 (.iload_n 2) 1 66 := ⟨by decide +kernel, rfl⟩
theorem qX7_measuredSet_66 : Dc mX7_measuredSet 66 (.iaload) 1 67 := ⟨by decide +kernel, rfl⟩
theorem qX7_measuredSet_67 : Dc mX7_measuredSet 67 (.bipush 62) 2 69 := ⟨by decide +kernel, rfl⟩
theorem qX7_measuredSet_69 : Dc mX7_measuredSet 69 (.if_icmp .ne 22) 3 72 := ⟨by decide +kernel, rfl⟩
theorem qX7_measuredSet_72 : Dc mX7_measuredSet 72 (.iload 5) 2 74 := ⟨by decide +kernel, rfl⟩
theorem qX7_measuredSet_74 : Dc mX7_measuredSet 74 (.aload_n 0) 1 75 := ⟨by decide +kernel, rfl⟩
theorem qX7_measuredSet_75 : Dc mX7_measuredSet 75 (.getfield 18) 3 78 := ⟨by decide +kernel, rfl⟩
theorem qX7_measuredSet_78 : Dc mX7_measuredSet 78 (.iload_n 2) 1 79 := ⟨by decide +kernel, rfl⟩
theorem qX7_measuredSet_79 : Dc mX7_measuredSet 79 (.iaload) 1 80 := ⟨by decide +kernel, rfl⟩
theorem qX7_measuredSet_80 : Dc mX7_measuredSet 80 (.if_icmp .le 7) 3 83 := ⟨by decide +kernel, rfl⟩
theorem qX7_measuredSet_83 : Dc mX7_measuredSet 83 (.iconst 1) 1 84 := ⟨by decide +kernel, rfl⟩
theorem qX7_measuredSet_84 : Dc mX7_measuredSet 84 (.goto 23) 3 87 := ⟨by decide +kernel, rfl⟩
theorem qX7_measuredSet_87 : Dc mX7_measuredSet 87 (.iconst 0) 1 88 := ⟨by decide +kernel, rfl⟩
theorem qX7_measuredSet_88 : Dc mX7_measuredSet 88 (.goto 19) 3 91 := ⟨by decide +kernel, rfl⟩
theorem qX7_measuredSet_91 : Dc mX7_measuredSet 91 (.iload 5) 2 93 := ⟨by decide +kernel, rfl⟩
theorem qX7_measuredSet_93 : Dc mX7_measuredSet 93 (.aload_n 0) 1 94 := ⟨by decide +kernel, rfl⟩
theorem qX7_measuredSet_94 : Dc mX7_measuredSet 94 (.getfield 18) 3 97 := ⟨by decide +kernel, rfl⟩
theorem qX7_measuredSet_97 : Dc mX7_measuredSet 97 (.iload_n 2) 1 98 := ⟨by decide +kernel, rfl⟩
theorem qX7_measuredSet_98 : Dc mX7_measuredSet 98 (.iaload) 1 99 := ⟨by decide +kernel, rfl⟩
theorem qX7_measuredSet_99 : Dc mX7_measuredSet 99 (.if_icmp .ne 7) 3 102 := ⟨by decide +kernel, rfl⟩
theorem qX7_measuredSet_102 : Dc mX7_measuredSet 102 (.iconst 1) 1 103 := ⟨by decide +kernel, rfl⟩
theorem qX7_measuredSet_103 : Dc mX7_measuredSet 103 (.goto 4) 3 106 := ⟨by decide +kernel, rfl⟩
theorem qX7_measuredSet_106 : Dc mX7_measuredSet 106 (.iconst 0) 1 107 := ⟨by decide +kernel, rfl⟩
theorem qX7_measuredSet_107 : Dc mX7_measuredSet 107 (.istore 6) 2 109 := ⟨by decide +kernel, rfl⟩
theorem qX7_measuredSet_109 : Dc mX7_measuredSet 109 (.iload 6) 2 111 := ⟨by decide +kernel, rfl⟩
theorem qX7_measuredSet_111 : Dc mX7_measuredSet 111 (.ifCond .eq 10) 3 114 := ⟨by decide +kernel, rfl⟩
theorem qX7_measuredSet_114 : Dc mX7_measuredSet 114 (.iload_n 3) 1 115 := ⟨by decide +kernel, rfl⟩
theorem qX7_measuredSet_115 : Dc mX7_measuredSet 115 (.iconst 1) 1 116 := ⟨by decide +kernel, rfl⟩
theorem qX7_measuredSet_116 : Dc mX7_measuredSet 116 (.iload 4) 2 118 := ⟨by decide +kernel, rfl⟩
theorem qX7_measuredSet_118 : Dc mX7_measuredSet 118 (.ishl) 1 119 := ⟨by decide +kernel, rfl⟩
theorem qX7_measuredSet_119 : Dc mX7_measuredSet 119 (.ior) 1 120 := ⟨by decide +kernel, rfl⟩
theorem qX7_measuredSet_120 : Dc mX7_measuredSet 120 (.istore_n 3) 1 121 := ⟨by decide +kernel, rfl⟩
theorem qX7_measuredSet_121 : Dc mX7_measuredSet 121 (.iinc 4 1) 3 124 := ⟨by decide +kernel, rfl⟩
theorem qX7_measuredSet_124 : Dc mX7_measuredSet 124 (.goto (-119)) 3 127 := ⟨by decide +kernel, rfl⟩
theorem qX7_measuredSet_127 : Dc mX7_measuredSet 127 (.iload_n 3) 1 128 := ⟨by decide +kernel, rfl⟩
theorem qX7_measuredSet_128 : Dc mX7_measuredSet 128 (.ireturn) 1 129 := ⟨by decide +kernel, rfl⟩

set_option maxRecDepth 20000 in
set_option maxHeartbeats 4000000 in
theorem w_X7_measuredSet_L5 {N : Nat} {c1 : Nat} {c2 : Nat} {c3 : Int32} {s0 : St}  {r : Int32} (h_c1 : sh c1 = 7) (h_c2 : sh c2 = 6)  : ∀ (n6 : Nat) (v4 : Int32) (v5 : Int32), f_X7_measuredSet_L5 N c1 c2 c3 s0 n6 v4 v5 = some r → E mX7_measuredSet 1 (some (.int r), s0) 5 [some (.ref c1), some (.ref c2), some (.int c3), some (.int v4), some (.int v5), none, none] [] s0 := by
  intro n6
  induction n6 with
  | zero =>
    intro v4 v5 h
    rw [f_X7_measuredSet_L5] at h; cases h
  | succ n6 ih7 =>
    intro v4 v5 h
    rw [f_X7_measuredSet_L5] at h
    refine e_iload qX7_measuredSet_5 rfl ?_
    refine e_aload_n qX7_measuredSet_7 rfl ?_
    refine e_getr 3 qX7_measuredSet_8 fl_X7_154 h_c2 kdq_6_0 (wq_6_0 _ h_c2) ?_
    refine e_geti qX7_measuredSet_11 fl_X7_193 shq_3 kdq_1_2 h (fun v8 h => ?_)
    refine e_icmp_ge (tgt := 127) qX7_measuredSet_14 rfl h (fun _ h => ?_) (fun _ h => ?_)
    · refine e_iload_n qX7_measuredSet_127 rfl ?_
      exact e_iret qX7_measuredSet_128 rfl (ret_p h)
    refine e_aload_n qX7_measuredSet_17 rfl ?_
    refine e_aload_n qX7_measuredSet_18 rfl ?_
    refine e_getr (rr c1 2) qX7_measuredSet_19 fl_X7_11 h_c1 kdq_7_2 rfl ?_
    refine e_iload_n qX7_measuredSet_22 rfl ?_
    refine e_iald qX7_measuredSet_23 (wt_7_2 _ h_c1).1 (wt_7_2 _ h_c1).2 h (fun v9 h => ?_)
    refine e_iload qX7_measuredSet_24 rfl ?_
    obtain ⟨v10, hc, h⟩ := bp_e h
    refine e_cSi3 qX7_measuredSet_26 ms_X7_196 rfl rfl (w_X7_measureOf h_c2 hc) ?_
    refine e_istore (lv2 := [some (.ref c1), some (.ref c2), some (.int c3), some (.int v4), some (.int v5), some (.int v10), none]) qX7_measuredSet_29 rfl rfl rfl ?_
    refine e_aload_n qX7_measuredSet_31 rfl ?_
    refine e_getr (rr c1 3) qX7_measuredSet_32 fl_X7_15 h_c1 kdq_7_3 rfl ?_
    refine e_iload_n qX7_measuredSet_35 rfl ?_
    refine e_iald qX7_measuredSet_36 (wt_7_3 _ h_c1).1 (wt_7_3 _ h_c1).2 h (fun v11 h => ?_)
    refine e_bipush (nI 60) qX7_measuredSet_37 rfl ?_
    refine jn_e (fun j => ∀ (v12 : Int32), j v12 = some r → E mX7_measuredSet 1 (some (.int r), s0) 107 [some (.ref c1), some (.ref c2), some (.int c3), some (.int v4), some (.int v5), none, none] [.int v12] s0) h ?_ (fun j13 hj13 h => ?_)
    · intro v12 h
      refine e_istore (lv2 := [some (.ref c1), some (.ref c2), some (.int c3), some (.int v4), some (.int v5), none, some (.int v12)]) qX7_measuredSet_107 rfl rfl rfl ?_
      refine e_iload qX7_measuredSet_109 rfl ?_
      refine jn_e (fun j => ∀ (v14 : Int32), j v14 = some r → E mX7_measuredSet 1 (some (.int r), s0) 121 [some (.ref c1), some (.ref c2), some (.int c3), some (.int v14), some (.int v5), none, none] [] s0) h ?_ (fun j15 hj15 h => ?_)
      · intro v14 h
        refine vl_e h (fun h => ?_)
        obtain ⟨v16, ev16⟩ : ∃ y, v5 + (nI 1) = y := ⟨_, rfl⟩
        rw [ev16] at h
        refine e_iinc (nI 1) v16 (lv2 := [some (.ref c1), some (.ref c2), some (.int c3), some (.int v14), some (.int v16), none, none]) qX7_measuredSet_121 rfl rfl rfl ev16 rfl ?_
        refine e_goto (tgt := 5) qX7_measuredSet_124 rfl ?_
        exact e_weak (ih7 _ _ h) ⟨Or.inr rfl, Or.inr rfl, Or.inr rfl, Or.inr rfl, Or.inr rfl, Or.inl rfl, Or.inl rfl, trivial⟩
      refine e_if_eq (tgt := 121) qX7_measuredSet_111 rfl h (fun _ h => ?_) (fun _ h => ?_)
      · exact e_weak (hj15 _ h) ⟨Or.inr rfl, Or.inr rfl, Or.inr rfl, Or.inr rfl, Or.inr rfl, Or.inl rfl, Or.inl rfl, trivial⟩
      refine e_iload_n qX7_measuredSet_114 rfl ?_
      refine e_iconst (nI 1) qX7_measuredSet_115 rfl ?_
      refine e_iload qX7_measuredSet_116 rfl ?_
      refine e_ishl qX7_measuredSet_118 ?_
      refine e_ior qX7_measuredSet_119 ?_
      refine vl_e h (fun h => ?_)
      generalize (v4 ||| ((nI 1) <<< (v5 &&& 31))) = v17 at h ⊢
      refine e_istore_n (lv2 := [some (.ref c1), some (.ref c2), some (.int c3), some (.int v17), some (.int v5), none, some (.int v12)]) qX7_measuredSet_120 rfl rfl rfl ?_
      exact e_weak (hj15 _ h) ⟨Or.inr rfl, Or.inr rfl, Or.inr rfl, Or.inr rfl, Or.inr rfl, Or.inl rfl, Or.inl rfl, trivial⟩
    refine e_icmp_ne (tgt := 61) qX7_measuredSet_39 rfl h (fun _ h => ?_) (fun _ h => ?_)
    · refine e_iload qX7_measuredSet_42 rfl ?_
      refine e_aload_n qX7_measuredSet_44 rfl ?_
      refine e_getr (rr c1 4) qX7_measuredSet_45 fl_X7_18 h_c1 kdq_7_4 rfl ?_
      refine e_iload_n qX7_measuredSet_48 rfl ?_
      refine e_iald qX7_measuredSet_49 (wt_7_4 _ h_c1).1 (wt_7_4 _ h_c1).2 h (fun v18 h => ?_)
      refine e_icmp_ge (tgt := 57) qX7_measuredSet_50 rfl h (fun _ h => ?_) (fun _ h => ?_)
      · refine e_iconst (nI 0) qX7_measuredSet_57 rfl ?_
        refine e_goto (tgt := 107) qX7_measuredSet_58 rfl ?_
        exact e_weak (hj13 _ h) ⟨Or.inr rfl, Or.inr rfl, Or.inr rfl, Or.inr rfl, Or.inr rfl, Or.inl rfl, Or.inl rfl, trivial⟩
      refine e_iconst (nI 1) qX7_measuredSet_53 rfl ?_
      refine e_goto (tgt := 107) qX7_measuredSet_54 rfl ?_
      exact e_weak (hj13 _ h) ⟨Or.inr rfl, Or.inr rfl, Or.inr rfl, Or.inr rfl, Or.inr rfl, Or.inl rfl, Or.inl rfl, trivial⟩
    refine e_aload_n qX7_measuredSet_61 rfl ?_
    refine e_getr (rr c1 3) qX7_measuredSet_62 fl_X7_15 h_c1 kdq_7_3 rfl ?_
    refine e_iload_n qX7_measuredSet_65 rfl ?_
    refine e_iald qX7_measuredSet_66 (wt_7_3 _ h_c1).1 (wt_7_3 _ h_c1).2 h (fun v19 h => ?_)
    refine e_bipush (nI 62) qX7_measuredSet_67 rfl ?_
    refine e_icmp_ne (tgt := 91) qX7_measuredSet_69 rfl h (fun _ h => ?_) (fun _ h => ?_)
    · refine e_iload qX7_measuredSet_72 rfl ?_
      refine e_aload_n qX7_measuredSet_74 rfl ?_
      refine e_getr (rr c1 4) qX7_measuredSet_75 fl_X7_18 h_c1 kdq_7_4 rfl ?_
      refine e_iload_n qX7_measuredSet_78 rfl ?_
      refine e_iald qX7_measuredSet_79 (wt_7_4 _ h_c1).1 (wt_7_4 _ h_c1).2 h (fun v20 h => ?_)
      refine e_icmp_le (tgt := 87) qX7_measuredSet_80 rfl h (fun _ h => ?_) (fun _ h => ?_)
      · refine e_iconst (nI 0) qX7_measuredSet_87 rfl ?_
        refine e_goto (tgt := 107) qX7_measuredSet_88 rfl ?_
        exact e_weak (hj13 _ h) ⟨Or.inr rfl, Or.inr rfl, Or.inr rfl, Or.inr rfl, Or.inr rfl, Or.inl rfl, Or.inl rfl, trivial⟩
      refine e_iconst (nI 1) qX7_measuredSet_83 rfl ?_
      refine e_goto (tgt := 107) qX7_measuredSet_84 rfl ?_
      exact e_weak (hj13 _ h) ⟨Or.inr rfl, Or.inr rfl, Or.inr rfl, Or.inr rfl, Or.inr rfl, Or.inl rfl, Or.inl rfl, trivial⟩
    refine e_iload qX7_measuredSet_91 rfl ?_
    refine e_aload_n qX7_measuredSet_93 rfl ?_
    refine e_getr (rr c1 4) qX7_measuredSet_94 fl_X7_18 h_c1 kdq_7_4 rfl ?_
    refine e_iload_n qX7_measuredSet_97 rfl ?_
    refine e_iald qX7_measuredSet_98 (wt_7_4 _ h_c1).1 (wt_7_4 _ h_c1).2 h (fun v21 h => ?_)
    refine e_icmp_ne (tgt := 106) qX7_measuredSet_99 rfl h (fun _ h => ?_) (fun _ h => ?_)
    · refine e_iconst (nI 1) qX7_measuredSet_102 rfl ?_
      refine e_goto (tgt := 107) qX7_measuredSet_103 rfl ?_
      exact e_weak (hj13 _ h) ⟨Or.inr rfl, Or.inr rfl, Or.inr rfl, Or.inr rfl, Or.inr rfl, Or.inl rfl, Or.inl rfl, trivial⟩
    refine e_iconst (nI 0) qX7_measuredSet_106 rfl ?_
    exact e_weak (hj13 _ h) ⟨Or.inr rfl, Or.inr rfl, Or.inr rfl, Or.inr rfl, Or.inr rfl, Or.inl rfl, Or.inl rfl, trivial⟩

set_option maxRecDepth 20000 in
set_option maxHeartbeats 4000000 in
theorem w_X7_measuredSet {N : Nat} {a0 : Nat} {a1 : Nat} {x2 : Int32} {s0 : St} {r : Int32} (h_a0 : sh a0 = 7) (h_a1 : sh a1 = 6) (h : f_X7_measuredSet N a0 a1 x2 s0 = some r) : Ct mX7_measuredSet 1 [.ref a0, .ref a1, .int x2] s0 (some (.int r), s0) := by
  refine Ct.ofE (by decide +kernel) rfl ?_
  show E mX7_measuredSet 1 (some (.int r), s0) 0 [some (.ref a0), some (.ref a1), some (.int x2), none, none, none, none] [] s0
  unfold f_X7_measuredSet at h
  refine e_iconst (nI 0) qX7_measuredSet_0 rfl ?_
  refine e_istore_n (lv2 := [some (.ref a0), some (.ref a1), some (.int x2), some (.int (nI 0)), none, none, none]) qX7_measuredSet_1 rfl rfl rfl ?_
  refine e_iconst (nI 0) qX7_measuredSet_2 rfl ?_
  refine e_istore (lv2 := [some (.ref a0), some (.ref a1), some (.int x2), some (.int (nI 0)), some (.int (nI 0)), none, none]) qX7_measuredSet_3 rfl rfl rfl ?_
  exact e_weak (w_X7_measuredSet_L5 h_a0 h_a1  _ _ _ h) ⟨Or.inr rfl, Or.inr rfl, Or.inr rfl, Or.inr rfl, Or.inr rfl, Or.inl rfl, Or.inl rfl, trivial⟩
