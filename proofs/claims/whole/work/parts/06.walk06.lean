def f_X12_tries_L2 (N : Nat)  : Nat → Int32 → St → Option (St)
  | 0, _, _ => none
  | n3 + 1, v1, s2 =>
    if (nI 31) ≤ v1 then
      some s2
    else
    ald (s2.1 208) 359 ((nI 147) + v1) fun v5 =>
    ald (fun j => sI s2 214 j v5) 31 v1 fun s6 =>
    vl (v1 + (nI 1)) fun v7 =>
    f_X12_tries_L2 N n3 v7 s6

def f_X12_tries (N : Nat)  (s0 : St) : Option (St) :=
  f_X12_tries_L2 N N (nI 0) s0

theorem qX12_tries_0 : Dc mX12_tries 0 (.iconst 0) 1 1 := ⟨by decide +kernel, rfl⟩
theorem qX12_tries_1 : Dc mX12_tries 1 (.istore_n 1) 1 2 := ⟨by decide +kernel, rfl⟩
theorem qX12_tries_2 : Dc mX12_tries 2 (.iload_n 1) 1 3 := ⟨by decide +kernel, rfl⟩
theorem qX12_tries_3 : Dc mX12_tries 3 (.bipush 31) 2 5 := ⟨by decide +kernel, rfl⟩
theorem qX12_tries_5 : Dc mX12_tries 5 (.if_icmp .ge 25) 3 8 := ⟨by decide +kernel, rfl⟩
theorem qX12_tries_8 : Dc mX12_tries 8 (.aload_n 0) 1 9 := ⟨by decide +kernel, rfl⟩
theorem qX12_tries_9 : Dc mX12_tries 9 (.getfield 53) 3 12 := ⟨by decide +kernel, rfl⟩
theorem qX12_tries_12 : Dc mX12_tries 12 (.iload_n 1) 1 13 := ⟨by decide +kernel, rfl⟩
theorem qX12_tries_13 : Dc mX12_tries 13 (.aload_n 0) 1 14 := ⟨by decide +kernel, rfl⟩
theorem qX12_tries_14 : Dc mX12_tries 14 (.getfield 33) 3 17 := ⟨by decide +kernel, rfl⟩
theorem qX12_tries_17 : Dc mX12_tries 17 (.sipush 147) 3 20 := ⟨by decide +kernel, rfl⟩
theorem qX12_tries_20 : Dc mX12_tries 20 (.iload_n 1) 1 21 := ⟨by decide +kernel, rfl⟩
theorem qX12_tries_21 : Dc mX12_tries 21 (.iadd) 1 22 := ⟨by decide +kernel, rfl⟩
theorem qX12_tries_22 : Dc mX12_tries 22 (.iaload) 1 23 := ⟨by decide +kernel, rfl⟩
theorem qX12_tries_23 : Dc mX12_tries 23 (.iastore) 1 24 := ⟨by decide +kernel, rfl⟩
theorem qX12_tries_24 : Dc mX12_tries 24 (.iinc 1 1) 3 27 := ⟨by decide +kernel, rfl⟩
theorem qX12_tries_27 : Dc mX12_tries 27 (.goto (-25)) 3 30 := ⟨by decide +kernel, rfl⟩
theorem qX12_tries_30 : Dc mX12_tries 30 (.return_) 1 31 := ⟨by decide +kernel, rfl⟩

set_option maxRecDepth 20000 in
set_option maxHeartbeats 4000000 in
theorem w_X12_tries_L2 {N : Nat}   {sr : St}   : ∀ (n3 : Nat) (v1 : Int32) (s2 : St), f_X12_tries_L2 N n3 v1 s2 = some sr → E mX12_tries 0 (none, sr) 2 [some (.ref 206), some (.int v1)] [] s2 := by
  intro n3
  induction n3 with
  | zero =>
    intro v1 s2 h
    rw [f_X12_tries_L2] at h; cases h
  | succ n3 ih4 =>
    intro v1 s2 h
    rw [f_X12_tries_L2] at h
    refine e_iload_n qX12_tries_2 rfl ?_
    refine e_bipush (nI 31) qX12_tries_3 rfl ?_
    refine e_icmp_ge (tgt := 30) qX12_tries_5 rfl h (fun _ h => ?_) (fun _ h => ?_)
    · exact e_vret qX12_tries_30 rfl (ret_v h)
    refine e_aload_n qX12_tries_8 rfl ?_
    refine e_getr 214 qX12_tries_9 fl_X12_53 shq_206 kdq_11_23 rrq_206_23 ?_
    refine e_iload_n qX12_tries_12 rfl ?_
    refine e_aload_n qX12_tries_13 rfl ?_
    refine e_getr 208 qX12_tries_14 fl_X12_33 shq_206 kdq_11_6 rrq_206_6 ?_
    refine e_sipush (nI 147) qX12_tries_17 rfl ?_
    refine e_iload_n qX12_tries_20 rfl ?_
    refine e_iadd qX12_tries_21 ?_
    refine e_iald qX12_tries_22 shq_208 lnq_208 h (fun v5 h => ?_)
    refine e_iast qX12_tries_23 shq_214 lnq_214 h (fun s6 h => ?_)
    refine vl_e h (fun h => ?_)
    obtain ⟨v7, ev7⟩ : ∃ y, v1 + (nI 1) = y := ⟨_, rfl⟩
    rw [ev7] at h
    refine e_iinc (nI 1) v7 (lv2 := [some (.ref 206), some (.int v7)]) qX12_tries_24 rfl rfl rfl ev7 rfl ?_
    refine e_goto (tgt := 2) qX12_tries_27 rfl ?_
    exact e_weak (ih4 _ _ h) ⟨Or.inr rfl, Or.inr rfl, trivial⟩

set_option maxRecDepth 20000 in
set_option maxHeartbeats 4000000 in
theorem w_X12_tries {N : Nat}  {s0 : St} {sr : St} (h : f_X12_tries N  s0 = some sr) : Ct mX12_tries 0 [.ref 206] s0 (none, sr) := by
  refine Ct.ofE (by decide +kernel) rfl ?_
  show E mX12_tries 0 (none, sr) 0 [some (.ref 206), none] [] s0
  unfold f_X12_tries at h
  refine e_iconst (nI 0) qX12_tries_0 rfl ?_
  refine e_istore_n (lv2 := [some (.ref 206), some (.int (nI 0))]) qX12_tries_1 rfl rfl rfl ?_
  exact e_weak (w_X12_tries_L2  _ _ _ h) ⟨Or.inr rfl, Or.inr rfl, trivial⟩

def f_X12_back_L2 (N : Nat)  : Nat → Int32 → St → Option (St)
  | 0, _, _ => none
  | n3 + 1, v1, s2 =>
    if (nI 31) ≤ v1 then
      some s2
    else
    ald (s2.1 214) 31 v1 fun v5 =>
    ald (fun j => sI s2 208 j v5) 359 ((nI 147) + v1) fun s6 =>
    vl (v1 + (nI 1)) fun v7 =>
    f_X12_back_L2 N n3 v7 s6

def f_X12_back (N : Nat)  (s0 : St) : Option (St) :=
  f_X12_back_L2 N N (nI 0) s0

theorem qX12_back_0 : Dc mX12_back 0 (.iconst 0) 1 1 := ⟨by decide +kernel, rfl⟩
theorem qX12_back_1 : Dc mX12_back 1 (.istore_n 1) 1 2 := ⟨by decide +kernel, rfl⟩
theorem qX12_back_2 : Dc mX12_back 2 (.iload_n 1) 1 3 := ⟨by decide +kernel, rfl⟩
theorem qX12_back_3 : Dc mX12_back 3 (.bipush 31) 2 5 := ⟨by decide +kernel, rfl⟩
theorem qX12_back_5 : Dc mX12_back 5 (.if_icmp .ge 25) 3 8 := ⟨by decide +kernel, rfl⟩
theorem qX12_back_8 : Dc mX12_back 8 (.aload_n 0) 1 9 := ⟨by decide +kernel, rfl⟩
theorem qX12_back_9 : Dc mX12_back 9 (.getfield 33) 3 12 := ⟨by decide +kernel, rfl⟩
theorem qX12_back_12 : Dc mX12_back 12 (.sipush 147) 3 15 := ⟨by decide +kernel, rfl⟩
theorem qX12_back_15 : Dc mX12_back 15 (.iload_n 1) 1 16 := ⟨by decide +kernel, rfl⟩
theorem qX12_back_16 : Dc mX12_back 16 (.iadd) 1 17 := ⟨by decide +kernel, rfl⟩
theorem qX12_back_17 : Dc mX12_back 17 (.aload_n 0) 1 18 := ⟨by decide +kernel, rfl⟩
theorem qX12_back_18 : Dc mX12_back 18 (.getfield 53) 3 21 := ⟨by decide +kernel, rfl⟩
theorem qX12_back_21 : Dc mX12_back 21 (.iload_n 1) 1 22 := ⟨by decide +kernel, rfl⟩
theorem qX12_back_22 : Dc mX12_back 22 (.iaload) 1 23 := ⟨by decide +kernel, rfl⟩
theorem qX12_back_23 : Dc mX12_back 23 (.iastore) 1 24 := ⟨by decide +kernel, rfl⟩
theorem qX12_back_24 : Dc mX12_back 24 (.iinc 1 1) 3 27 := ⟨by decide +kernel, rfl⟩
theorem qX12_back_27 : Dc mX12_back 27 (.goto (-25)) 3 30 := ⟨by decide +kernel, rfl⟩
theorem qX12_back_30 : Dc mX12_back 30 (.return_) 1 31 := ⟨by decide +kernel, rfl⟩

set_option maxRecDepth 20000 in
set_option maxHeartbeats 4000000 in
theorem w_X12_back_L2 {N : Nat}   {sr : St}   : ∀ (n3 : Nat) (v1 : Int32) (s2 : St), f_X12_back_L2 N n3 v1 s2 = some sr → E mX12_back 0 (none, sr) 2 [some (.ref 206), some (.int v1)] [] s2 := by
  intro n3
  induction n3 with
  | zero =>
    intro v1 s2 h
    rw [f_X12_back_L2] at h; cases h
  | succ n3 ih4 =>
    intro v1 s2 h
    rw [f_X12_back_L2] at h
    refine e_iload_n qX12_back_2 rfl ?_
    refine e_bipush (nI 31) qX12_back_3 rfl ?_
    refine e_icmp_ge (tgt := 30) qX12_back_5 rfl h (fun _ h => ?_) (fun _ h => ?_)
    · exact e_vret qX12_back_30 rfl (ret_v h)
    refine e_aload_n qX12_back_8 rfl ?_
    refine e_getr 208 qX12_back_9 fl_X12_33 shq_206 kdq_11_6 rrq_206_6 ?_
    refine e_sipush (nI 147) qX12_back_12 rfl ?_
    refine e_iload_n qX12_back_15 rfl ?_
    refine e_iadd qX12_back_16 ?_
    refine e_aload_n qX12_back_17 rfl ?_
    refine e_getr 214 qX12_back_18 fl_X12_53 shq_206 kdq_11_23 rrq_206_23 ?_
    refine e_iload_n qX12_back_21 rfl ?_
    refine e_iald qX12_back_22 shq_214 lnq_214 h (fun v5 h => ?_)
    refine e_iast qX12_back_23 shq_208 lnq_208 h (fun s6 h => ?_)
    refine vl_e h (fun h => ?_)
    obtain ⟨v7, ev7⟩ : ∃ y, v1 + (nI 1) = y := ⟨_, rfl⟩
    rw [ev7] at h
    refine e_iinc (nI 1) v7 (lv2 := [some (.ref 206), some (.int v7)]) qX12_back_24 rfl rfl rfl ev7 rfl ?_
    refine e_goto (tgt := 2) qX12_back_27 rfl ?_
    exact e_weak (ih4 _ _ h) ⟨Or.inr rfl, Or.inr rfl, trivial⟩

set_option maxRecDepth 20000 in
set_option maxHeartbeats 4000000 in
theorem w_X12_back {N : Nat}  {s0 : St} {sr : St} (h : f_X12_back N  s0 = some sr) : Ct mX12_back 0 [.ref 206] s0 (none, sr) := by
  refine Ct.ofE (by decide +kernel) rfl ?_
  show E mX12_back 0 (none, sr) 0 [some (.ref 206), none] [] s0
  unfold f_X12_back at h
  refine e_iconst (nI 0) qX12_back_0 rfl ?_
  refine e_istore_n (lv2 := [some (.ref 206), some (.int (nI 0))]) qX12_back_1 rfl rfl rfl ?_
  exact e_weak (w_X12_back_L2  _ _ _ h) ⟨Or.inr rfl, Or.inr rfl, trivial⟩

def f_X12_areSeen_L5 (N : Nat) (c1 : Int32) (c2 : Int32) (s0 : St) : Nat → Int32 → Int32 → Option (Int32)
  | 0, _, _ => none
  | n5 + 1, v3, v4 =>
    if (nI 400) ≤ v4 then
      rz v3 <|
      some v3
    else
    if v3 = 0 then
      rm_ v4 (nI 20) fun v7 =>
      dv v4 (nI 20) fun v8 =>
      bp (f_X12_isVisibleBy c1 v7 v8 (nI 30) s0) fun v9 =>
      jn (fun (v10 : Int32) =>
        vl (v4 + (nI 1)) fun v12 =>
        f_X12_areSeen_L5 N c1 c2 s0 n5 v10 v12) fun j11 =>
      jn (j11 (nI 0)) fun j13 =>
      if v9 = 0 then
        j13
      else
      rm_ v4 (nI 20) fun v14 =>
      dv v4 (nI 20) fun v15 =>
      bp (f_X12_isVisibleBy c2 v14 v15 (nI 30) s0) fun v16 =>
      if v16 = 0 then
        j13
      else
      j11 (nI 1)
    else
    rz v3 <|
    some v3

def f_X12_areSeen (N : Nat) (x1 : Int32) (x2 : Int32) (s0 : St) : Option (Int32) :=
  f_X12_areSeen_L5 N x1 x2 s0 N (nI 0) (nI 0)

theorem qX12_areSeen_0 : Dc mX12_areSeen 0 (.iconst 0) 1 1 := ⟨by decide +kernel, rfl⟩
theorem qX12_areSeen_1 : Dc mX12_areSeen 1 (.istore_n 3) 1 2 := ⟨by decide +kernel, rfl⟩
theorem qX12_areSeen_2 : Dc mX12_areSeen 2 (.iconst 0) 1 3 := ⟨by decide +kernel, rfl⟩
theorem qX12_areSeen_3 : Dc mX12_areSeen 3 (.istore 4) 2 5 := ⟨by decide +kernel, rfl⟩
theorem qX12_areSeen_5 : Dc mX12_areSeen 5 (.iload 4) 2 7 := ⟨by decide +kernel, rfl⟩
theorem qX12_areSeen_7 : Dc mX12_areSeen 7 (.sipush 400) 3 10 := ⟨by decide +kernel, rfl⟩
theorem qX12_areSeen_10 : Dc mX12_areSeen 10 (.if_icmp .ge 59) 3 13 := ⟨by decide +kernel, rfl⟩
theorem qX12_areSeen_13 : Dc mX12_areSeen 13 (.iload_n 3) 1 14 := ⟨by decide +kernel, rfl⟩
theorem qX12_areSeen_14 : Dc mX12_areSeen 14 (.ifCond .ne 55) 3 17 := ⟨by decide +kernel, rfl⟩
theorem qX12_areSeen_17 : Dc mX12_areSeen 17 (.aload_n 0) 1 18 := ⟨by decide +kernel, rfl⟩
theorem qX12_areSeen_18 : Dc mX12_areSeen 18 (.iload_n 1) 1 19 := ⟨by decide +kernel, rfl⟩
theorem qX12_areSeen_19 : Dc mX12_areSeen 19 (.iload 4) 2 21 := ⟨by decide +kernel, rfl⟩
theorem qX12_areSeen_21 : Dc mX12_areSeen 21 (.bipush 20) 2 23 := ⟨by decide +kernel, rfl⟩
theorem qX12_areSeen_23 : Dc mX12_areSeen 23 (.irem) 1 24 := ⟨by decide +kernel, rfl⟩
theorem qX12_areSeen_24 : Dc mX12_areSeen 24 (.iload 4) 2 26 := ⟨by decide +kernel, rfl⟩
theorem qX12_areSeen_26 : Dc mX12_areSeen 26 (.bipush 20) 2 28 := ⟨by decide +kernel, rfl⟩
theorem qX12_areSeen_28 : Dc mX12_areSeen 28 (.idiv) 1 29 := ⟨by decide +kernel, rfl⟩
theorem qX12_areSeen_29 : Dc mX12_areSeen 29 (.bipush 30) 2 31 := ⟨by decide +kernel, rfl⟩
theorem qX12_areSeen_31 : Dc mX12_areSeen 31 (.invokevirtual 280) 3 34 := ⟨by decide +kernel, rfl⟩
theorem qX12_areSeen_34 : Dc mX12_areSeen 34 (.ifCond .eq 27) 3 37 := ⟨by decide +kernel, rfl⟩
theorem qX12_areSeen_37 : Dc mX12_areSeen 37 (.aload_n 0) 1 38 := ⟨by decide +kernel, rfl⟩
theorem qX12_areSeen_38 : Dc mX12_areSeen 38 (.iload_n 2) 1 39 := ⟨by decide +kernel, rfl⟩
theorem qX12_areSeen_39 : Dc mX12_areSeen 39 (.iload 4) 2 41 := ⟨by decide +kernel, rfl⟩
theorem qX12_areSeen_41 : Dc mX12_areSeen 41 (.bipush 20) 2 43 := ⟨by decide +kernel, rfl⟩
theorem qX12_areSeen_43 : Dc mX12_areSeen 43 (.irem) 1 44 := ⟨by decide +kernel, rfl⟩
theorem qX12_areSeen_44 : Dc mX12_areSeen 44 (.iload 4) 2 46 := ⟨by decide +kernel, rfl⟩
theorem qX12_areSeen_46 : Dc mX12_areSeen 46 (.bipush 20) 2 48 := ⟨by decide +kernel, rfl⟩
theorem qX12_areSeen_48 : Dc mX12_areSeen 48 (.idiv) 1 49 := ⟨by decide +kernel, rfl⟩
theorem qX12_areSeen_49 : Dc mX12_areSeen 49 (.bipush 30) 2 51 := ⟨by decide +kernel, rfl⟩
theorem qX12_areSeen_51 : Dc mX12_areSeen 51 (.invokevirtual 280) 3 54 := ⟨by decide +kernel, rfl⟩
theorem qX12_areSeen_54 : Dc mX12_areSeen 54 (.ifCond .eq 7) 3 57 := ⟨by decide +kernel, rfl⟩
theorem qX12_areSeen_57 : Dc mX12_areSeen 57 (.iconst 1) 1 58 := ⟨by decide +kernel, rfl⟩
theorem qX12_areSeen_58 : Dc mX12_areSeen 58 (.goto 4) 3 61 := ⟨by decide +kernel, rfl⟩
theorem qX12_areSeen_61 : Dc mX12_areSeen 61 (.iconst 0) 1 62 := ⟨by decide +kernel, rfl⟩
theorem qX12_areSeen_62 : Dc mX12_areSeen 62 (.istore_n 3) 1 63 := ⟨by decide +kernel, rfl⟩
theorem qX12_areSeen_63 : Dc mX12_areSeen 63 (.iinc 4 1) 3 66 := ⟨by decide +kernel, rfl⟩
theorem qX12_areSeen_66 : Dc mX12_areSeen 66 (.goto (-61)) 3 69 := ⟨by decide +kernel, rfl⟩
theorem qX12_areSeen_69 : Dc mX12_areSeen 69 (.iload_n 3) 1 70 := ⟨by decide +kernel, rfl⟩
theorem qX12_areSeen_70 : Dc mX12_areSeen 70 (.ireturn) 1 71 := ⟨by decide +kernel, rfl⟩

set_option maxRecDepth 20000 in
set_option maxHeartbeats 4000000 in
theorem w_X12_areSeen_L5 {N : Nat} {c1 : Int32} {c2 : Int32} {s0 : St}  {r : Int32}   : ∀ (n5 : Nat) (v3 : Int32) (v4 : Int32), f_X12_areSeen_L5 N c1 c2 s0 n5 v3 v4 = some r → E mX12_areSeen 2 (some (.int r), s0) 5 [some (.ref 206), some (.int c1), some (.int c2), some (.int v3), some (.int v4)] [] s0 := by
  intro n5
  induction n5 with
  | zero =>
    intro v3 v4 h
    rw [f_X12_areSeen_L5] at h; cases h
  | succ n5 ih6 =>
    intro v3 v4 h
    rw [f_X12_areSeen_L5] at h
    refine e_iload qX12_areSeen_5 rfl ?_
    refine e_sipush (nI 400) qX12_areSeen_7 rfl ?_
    refine e_icmp_ge (tgt := 69) qX12_areSeen_10 rfl h (fun _ h => ?_) (fun _ h => ?_)
    · refine e_iload_n qX12_areSeen_69 rfl ?_
      refine rz_e h (fun hz h => ?_)
      exact e_zret qX12_areSeen_70 rfl hz (ret_p h)
    refine e_iload_n qX12_areSeen_13 rfl ?_
    refine e_if_ne (tgt := 69) qX12_areSeen_14 rfl h (fun _ h => ?_) (fun _ h => ?_)
    · refine e_aload_n qX12_areSeen_17 rfl ?_
      refine e_iload_n qX12_areSeen_18 rfl ?_
      refine e_iload qX12_areSeen_19 rfl ?_
      refine e_bipush (nI 20) qX12_areSeen_21 rfl ?_
      refine e_irem qX12_areSeen_23 h (fun v7 h => ?_)
      refine e_iload qX12_areSeen_24 rfl ?_
      refine e_bipush (nI 20) qX12_areSeen_26 rfl ?_
      refine e_idiv qX12_areSeen_28 h (fun v8 h => ?_)
      refine e_bipush (nI 30) qX12_areSeen_29 rfl ?_
      obtain ⟨v9, hc, h⟩ := bp_e h
      refine e_cVi4 qX12_areSeen_31 mv_X12_280 shq_206 rfl rfl (w_X12_isVisibleBy hc) ?_
      refine jn_e (fun j => ∀ (v10 : Int32), j v10 = some r → E mX12_areSeen 2 (some (.int r), s0) 62 [some (.ref 206), some (.int c1), some (.int c2), none, some (.int v4)] [.int v10] s0) h ?_ (fun j11 hj11 h => ?_)
      · intro v10 h
        refine e_istore_n (lv2 := [some (.ref 206), some (.int c1), some (.int c2), some (.int v10), some (.int v4)]) qX12_areSeen_62 rfl rfl rfl ?_
        refine vl_e h (fun h => ?_)
        obtain ⟨v12, ev12⟩ : ∃ y, v4 + (nI 1) = y := ⟨_, rfl⟩
        rw [ev12] at h
        refine e_iinc (nI 1) v12 (lv2 := [some (.ref 206), some (.int c1), some (.int c2), some (.int v10), some (.int v12)]) qX12_areSeen_63 rfl rfl rfl ev12 rfl ?_
        refine e_goto (tgt := 5) qX12_areSeen_66 rfl ?_
        exact e_weak (ih6 _ _ h) ⟨Or.inr rfl, Or.inr rfl, Or.inr rfl, Or.inr rfl, Or.inr rfl, trivial⟩
      refine jn_e (fun j => j = some r → E mX12_areSeen 2 (some (.int r), s0) 61 [some (.ref 206), some (.int c1), some (.int c2), none, some (.int v4)] [] s0) h ?_ (fun j13 hj13 h => ?_)
      · intro h
        refine e_iconst (nI 0) qX12_areSeen_61 rfl ?_
        exact e_weak (hj11 _ h) ⟨Or.inr rfl, Or.inr rfl, Or.inr rfl, Or.inl rfl, Or.inr rfl, trivial⟩
      refine e_if_eq (tgt := 61) qX12_areSeen_34 rfl h (fun _ h => ?_) (fun _ h => ?_)
      · exact e_weak (hj13 h) ⟨Or.inr rfl, Or.inr rfl, Or.inr rfl, Or.inl rfl, Or.inr rfl, trivial⟩
      refine e_aload_n qX12_areSeen_37 rfl ?_
      refine e_iload_n qX12_areSeen_38 rfl ?_
      refine e_iload qX12_areSeen_39 rfl ?_
      refine e_bipush (nI 20) qX12_areSeen_41 rfl ?_
      refine e_irem qX12_areSeen_43 h (fun v14 h => ?_)
      refine e_iload qX12_areSeen_44 rfl ?_
      refine e_bipush (nI 20) qX12_areSeen_46 rfl ?_
      refine e_idiv qX12_areSeen_48 h (fun v15 h => ?_)
      refine e_bipush (nI 30) qX12_areSeen_49 rfl ?_
      obtain ⟨v16, hc, h⟩ := bp_e h
      refine e_cVi4 qX12_areSeen_51 mv_X12_280 shq_206 rfl rfl (w_X12_isVisibleBy hc) ?_
      refine e_if_eq (tgt := 61) qX12_areSeen_54 rfl h (fun _ h => ?_) (fun _ h => ?_)
      · exact e_weak (hj13 h) ⟨Or.inr rfl, Or.inr rfl, Or.inr rfl, Or.inl rfl, Or.inr rfl, trivial⟩
      refine e_iconst (nI 1) qX12_areSeen_57 rfl ?_
      refine e_goto (tgt := 62) qX12_areSeen_58 rfl ?_
      exact e_weak (hj11 _ h) ⟨Or.inr rfl, Or.inr rfl, Or.inr rfl, Or.inl rfl, Or.inr rfl, trivial⟩
    refine e_iload_n qX12_areSeen_69 rfl ?_
    refine rz_e h (fun hz h => ?_)
    exact e_zret qX12_areSeen_70 rfl hz (ret_p h)

set_option maxRecDepth 20000 in
set_option maxHeartbeats 4000000 in
theorem w_X12_areSeen {N : Nat} {x1 : Int32} {x2 : Int32} {s0 : St} {r : Int32} (h : f_X12_areSeen N x1 x2 s0 = some r) : Ct mX12_areSeen 2 [.ref 206, .int x1, .int x2] s0 (some (.int r), s0) := by
  refine Ct.ofE (by decide +kernel) rfl ?_
  show E mX12_areSeen 2 (some (.int r), s0) 0 [some (.ref 206), some (.int x1), some (.int x2), none, none] [] s0
  unfold f_X12_areSeen at h
  refine e_iconst (nI 0) qX12_areSeen_0 rfl ?_
  refine e_istore_n (lv2 := [some (.ref 206), some (.int x1), some (.int x2), some (.int (nI 0)), none]) qX12_areSeen_1 rfl rfl rfl ?_
  refine e_iconst (nI 0) qX12_areSeen_2 rfl ?_
  refine e_istore (lv2 := [some (.ref 206), some (.int x1), some (.int x2), some (.int (nI 0)), some (.int (nI 0))]) qX12_areSeen_3 rfl rfl rfl ?_
  exact e_weak (w_X12_areSeen_L5  _ _ _ h) ⟨Or.inr rfl, Or.inr rfl, Or.inr rfl, Or.inr rfl, Or.inr rfl, trivial⟩

def f_X12_laysPairs_L23 (N : Nat) (c9 : Int32) (k12 : Int32 → St → Option (Int32 × St)) : Nat → Int32 → Int32 → St → Option (Int32 × St)
  | 0, _, _, _ => none
  | n15 + 1, v8, v10, s11 =>
    if c9 ≤ v10 then
      k12 v8 s11
    else
    bp (f_X12_isAlike N c9 v10 s11) fun v17 =>
    jn (fun (v18 : Int32) (s19 : St) =>
      vl (v10 + (nI 1)) fun v21 =>
      f_X12_laysPairs_L23 N c9 k12 n15 v18 v21 s19) fun j20 =>
    if v17 = 0 then
      j20 v8 s11
    else
    bp (f_X12_areSeen N c9 v10 s11) fun v22 =>
    if v22 = 0 then
      j20 v8 s11
    else
    ald (s11.1 215) 8 c9 fun v23 =>
    ald (fun j => sI s11 215 j (v23 ||| ((nI 1) <<< (v10 &&& 31)))) 8 c9 fun s24 =>
    vl (v8 + (nI 1)) fun v25 =>
    j20 v25 s24

def f_X12_laysPairs_L4 (N : Nat)  : Nat → Int32 → Int32 → St → Option (Int32 × St)
  | 0, _, _, _ => none
  | n4 + 1, v1, v2, s3 =>
    ald (s3.1 208) 359 (nI 0) fun v6 =>
    if v6 ≤ v2 then
      some (v1, s3)
    else
    ald (fun j => sI s3 215 j (nI 0)) 8 v2 fun s7 =>
    f_X12_laysPairs_L23 N v2 (fun (v26 : Int32) (s27 : St) =>
      vl (v2 + (nI 1)) fun v28 =>
      f_X12_laysPairs_L4 N n4 v26 v28 s27) N v1 (nI 0) s7

def f_X12_laysPairs (N : Nat)  (s0 : St) : Option (Int32 × St) :=
  f_X12_laysPairs_L4 N N (nI 0) (nI 0) s0

theorem qX12_laysPairs_0 : Dc mX12_laysPairs 0 (.iconst 0) 1 1 := ⟨by decide +kernel, rfl⟩
theorem qX12_laysPairs_1 : Dc mX12_laysPairs 1 (.istore_n 1) 1 2 := ⟨by decide +kernel, rfl⟩
theorem qX12_laysPairs_2 : Dc mX12_laysPairs 2 (.iconst 0) 1 3 := ⟨by decide +kernel, rfl⟩
theorem qX12_laysPairs_3 : Dc mX12_laysPairs 3 (.istore_n 2) 1 4 := ⟨by decide +kernel, rfl⟩
theorem qX12_laysPairs_4 : Dc mX12_laysPairs 4 (.iload_n 2) 1 5 := ⟨by decide +kernel, rfl⟩
theorem qX12_laysPairs_5 : Dc mX12_laysPairs 5 (.aload_n 0) 1 6 := ⟨by decide +kernel, rfl⟩
theorem qX12_laysPairs_6 : Dc mX12_laysPairs 6 (.getfield 33) 3 9 := ⟨by decide +kernel, rfl⟩
theorem qX12_laysPairs_9 : Dc mX12_laysPairs 9 (.iconst 0) 1 10 := ⟨by decide +kernel, rfl⟩
theorem qX12_laysPairs_10 : Dc mX12_laysPairs 10 (.iaload) 1 11 := ⟨by decide +kernel, rfl⟩
theorem qX12_laysPairs_11 : Dc mX12_laysPairs 11 (.if_icmp .ge 65) 3 14 := ⟨by decide +kernel, rfl⟩
theorem qX12_laysPairs_14 : Dc mX12_laysPairs 14 (.aload_n 0) 1 15 := ⟨by decide +kernel, rfl⟩
theorem qX12_laysPairs_15 : Dc mX12_laysPairs 15 (.getfield 56) 3 18 := ⟨by decide +kernel, rfl⟩
theorem qX12_laysPairs_18 : Dc mX12_laysPairs 18 (.iload_n 2) 1 19 := ⟨by decide +kernel, rfl⟩
theorem qX12_laysPairs_19 : Dc mX12_laysPairs 19 (.iconst 0) 1 20 := ⟨by decide +kernel, rfl⟩
theorem qX12_laysPairs_20 : Dc mX12_laysPairs 20 (.iastore) 1 21 := ⟨by decide +kernel, rfl⟩
theorem qX12_laysPairs_21 : Dc mX12_laysPairs 21 (.iconst 0) 1 22 := ⟨by decide +kernel, rfl⟩
theorem qX12_laysPairs_22 : Dc mX12_laysPairs 22 (.istore_n 3) 1 23 := ⟨by decide +kernel, rfl⟩
theorem qX12_laysPairs_23 : Dc mX12_laysPairs 23 (.iload_n 3) 1 24 := ⟨by decide +kernel, rfl⟩
theorem qX12_laysPairs_24 : Dc mX12_laysPairs 24 (.iload_n 2) 1 25 := ⟨by decide +kernel, rfl⟩
theorem qX12_laysPairs_25 : Dc mX12_laysPairs 25 (.if_icmp .ge 45) 3 28 := ⟨by decide +kernel, rfl⟩
theorem qX12_laysPairs_28 : Dc mX12_laysPairs 28 (.aload_n 0) 1 29 := ⟨by decide +kernel, rfl⟩
theorem qX12_laysPairs_29 : Dc mX12_laysPairs 29 (.iload_n 2) 1 30 := ⟨by decide +kernel, rfl⟩
theorem qX12_laysPairs_30 : Dc mX12_laysPairs 30 (.iload_n 3) 1 31 := ⟨by decide +kernel, rfl⟩
theorem qX12_laysPairs_31 : Dc mX12_laysPairs 31 (.invokevirtual 271) 3 34 := ⟨by decide +kernel, rfl⟩
theorem qX12_laysPairs_34 : Dc mX12_laysPairs 34 (.ifCond .eq 30) 3 37 := ⟨by decide +kernel, rfl⟩
theorem qX12_laysPairs_37 : Dc mX12_laysPairs 37 (.aload_n 0) 1 38 := ⟨by decide +kernel, rfl⟩
theorem qX12_laysPairs_38 : Dc mX12_laysPairs 38 (.iload_n 2) 1 39 := ⟨by decide +kernel, rfl⟩
theorem qX12_laysPairs_39 : Dc mX12_laysPairs 39 (.iload_n 3) 1 40 := ⟨by decide +kernel, rfl⟩
theorem qX12_laysPairs_40 : Dc mX12_laysPairs 40 (.invokevirtual 341) 3 43 := ⟨by decide +kernel, rfl⟩
theorem qX12_laysPairs_43 : Dc mX12_laysPairs 43 (.ifCond .ne 6) 3 46 := ⟨by decide +kernel, rfl⟩
theorem qX12_laysPairs_46 : Dc mX12_laysPairs 46 (.goto 18) 3 49 := ⟨by decide +kernel, rfl⟩
theorem qX12_laysPairs_49 : Dc mX12_laysPairs 49 (.aload_n 0) 1 50 := ⟨by decide +kernel, rfl⟩
theorem qX12_laysPairs_50 : Dc mX12_laysPairs 50 (.getfield 56) 3 53 := ⟨by decide +kernel, rfl⟩
theorem qX12_laysPairs_53 : Dc mX12_laysPairs 53 (.iload_n 2) 1 54 := ⟨by decide +kernel, rfl⟩
theorem qX12_laysPairs_54 : Dc mX12_laysPairs 54 (.dup2) 1 55 := ⟨by decide +kernel, rfl⟩
theorem qX12_laysPairs_55 : Dc mX12_laysPairs 55 (.iaload) 1 56 := ⟨by decide +kernel, rfl⟩
theorem qX12_laysPairs_56 : Dc mX12_laysPairs 56 (.iconst 1) 1 57 := ⟨by decide +kernel, rfl⟩
theorem qX12_laysPairs_57 : Dc mX12_laysPairs 57 (.iload_n 3) 1 58 := ⟨by decide +kernel, rfl⟩
theorem qX12_laysPairs_58 : Dc mX12_laysPairs 58 (.ishl) 1 59 := ⟨by decide +kernel, rfl⟩
theorem qX12_laysPairs_59 : Dc mX12_laysPairs 59 (.ior) 1 60 := ⟨by decide +kernel, rfl⟩
theorem qX12_laysPairs_60 : Dc mX12_laysPairs 60 (.iastore) 1 61 := ⟨by decide +kernel, rfl⟩
theorem qX12_laysPairs_61 : Dc mX12_laysPairs 61 (.iinc 1 1) 3 64 := ⟨by decide +kernel, rfl⟩
theorem qX12_laysPairs_64 : Dc mX12_laysPairs 64 (.iinc 3 1) 3 67 := ⟨by decide +kernel, rfl⟩
theorem qX12_laysPairs_67 : Dc mX12_laysPairs 67 (.goto (-44)) 3 70 := ⟨by decide +kernel, rfl⟩
theorem qX12_laysPairs_70 : Dc mX12_laysPairs 70 (.iinc 2 1) 3 73 := ⟨by decide +kernel, rfl⟩
theorem qX12_laysPairs_73 : Dc mX12_laysPairs 73 (.goto (-69)) 3 76 := ⟨by decide +kernel, rfl⟩
theorem qX12_laysPairs_76 : Dc mX12_laysPairs 76 (.iload_n 1) 1 77 := ⟨by decide +kernel, rfl⟩
theorem qX12_laysPairs_77 : Dc mX12_laysPairs 77 (.ireturn) 1 78 := ⟨by decide +kernel, rfl⟩

set_option maxRecDepth 20000 in
set_option maxHeartbeats 4000000 in
theorem w_X12_laysPairs_L23 {N : Nat} {c9 : Int32} {k12 : Int32 → St → Option (Int32 × St)} {r : Int32} {sr : St}  (hk12 : ∀ (v13 : Int32) (s14 : St), k12 v13 s14 = some (r, sr) → E mX12_laysPairs 3 (some (.int r), sr) 70 [some (.ref 206), some (.int v13), some (.int c9), none] [] s14) : ∀ (n15 : Nat) (v8 : Int32) (v10 : Int32) (s11 : St), f_X12_laysPairs_L23 N c9 k12 n15 v8 v10 s11 = some (r, sr) → E mX12_laysPairs 3 (some (.int r), sr) 23 [some (.ref 206), some (.int v8), some (.int c9), some (.int v10)] [] s11 := by
  intro n15
  induction n15 with
  | zero =>
    intro v8 v10 s11 h
    rw [f_X12_laysPairs_L23] at h; cases h
  | succ n15 ih16 =>
    intro v8 v10 s11 h
    rw [f_X12_laysPairs_L23] at h
    refine e_iload_n qX12_laysPairs_23 rfl ?_
    refine e_iload_n qX12_laysPairs_24 rfl ?_
    refine e_icmp_ge (tgt := 70) qX12_laysPairs_25 rfl h (fun _ h => ?_) (fun _ h => ?_)
    · exact e_weak (hk12 _ _ h) ⟨Or.inr rfl, Or.inr rfl, Or.inr rfl, Or.inl rfl, trivial⟩
    refine e_aload_n qX12_laysPairs_28 rfl ?_
    refine e_iload_n qX12_laysPairs_29 rfl ?_
    refine e_iload_n qX12_laysPairs_30 rfl ?_
    obtain ⟨v17, hc, h⟩ := bp_e h
    refine e_cVi2 qX12_laysPairs_31 mv_X12_271 shq_206 rfl rfl (w_X12_isAlike hc) ?_
    refine jn_e (fun j => ∀ (v18 : Int32) (s19 : St), j v18 s19 = some (r, sr) → E mX12_laysPairs 3 (some (.int r), sr) 64 [some (.ref 206), some (.int v18), some (.int c9), some (.int v10)] [] s19) h ?_ (fun j20 hj20 h => ?_)
    · intro v18 s19 h
      refine vl_e h (fun h => ?_)
      obtain ⟨v21, ev21⟩ : ∃ y, v10 + (nI 1) = y := ⟨_, rfl⟩
      rw [ev21] at h
      refine e_iinc (nI 1) v21 (lv2 := [some (.ref 206), some (.int v18), some (.int c9), some (.int v21)]) qX12_laysPairs_64 rfl rfl rfl ev21 rfl ?_
      refine e_goto (tgt := 23) qX12_laysPairs_67 rfl ?_
      exact e_weak (ih16 _ _ _ h) ⟨Or.inr rfl, Or.inr rfl, Or.inr rfl, Or.inr rfl, trivial⟩
    refine e_if_eq (tgt := 64) qX12_laysPairs_34 rfl h (fun _ h => ?_) (fun _ h => ?_)
    · exact e_weak (hj20 _ _ h) ⟨Or.inr rfl, Or.inr rfl, Or.inr rfl, Or.inr rfl, trivial⟩
    refine e_aload_n qX12_laysPairs_37 rfl ?_
    refine e_iload_n qX12_laysPairs_38 rfl ?_
    refine e_iload_n qX12_laysPairs_39 rfl ?_
    obtain ⟨v22, hc, h⟩ := bp_e h
    refine e_cVi2 qX12_laysPairs_40 mv_X12_341 shq_206 rfl rfl (w_X12_areSeen hc) ?_
    refine e_if_ne (tgt := 49) qX12_laysPairs_43 rfl h (fun _ h => ?_) (fun _ h => ?_)
    · refine e_goto (tgt := 64) qX12_laysPairs_46 rfl ?_
      exact e_weak (hj20 _ _ h) ⟨Or.inr rfl, Or.inr rfl, Or.inr rfl, Or.inr rfl, trivial⟩
    refine e_aload_n qX12_laysPairs_49 rfl ?_
    refine e_getr 215 qX12_laysPairs_50 fl_X12_56 shq_206 kdq_11_25 rrq_206_25 ?_
    refine e_iload_n qX12_laysPairs_53 rfl ?_
    refine e_dup2 qX12_laysPairs_54 rfl rfl ?_
    refine e_iald qX12_laysPairs_55 shq_215 lnq_215 h (fun v23 h => ?_)
    refine e_iconst (nI 1) qX12_laysPairs_56 rfl ?_
    refine e_iload_n qX12_laysPairs_57 rfl ?_
    refine e_ishl qX12_laysPairs_58 ?_
    refine e_ior qX12_laysPairs_59 ?_
    refine e_iast qX12_laysPairs_60 shq_215 lnq_215 h (fun s24 h => ?_)
    refine vl_e h (fun h => ?_)
    obtain ⟨v25, ev25⟩ : ∃ y, v8 + (nI 1) = y := ⟨_, rfl⟩
    rw [ev25] at h
    refine e_iinc (nI 1) v25 (lv2 := [some (.ref 206), some (.int v25), some (.int c9), some (.int v10)]) qX12_laysPairs_61 rfl rfl rfl ev25 rfl ?_
    exact e_weak (hj20 _ _ h) ⟨Or.inr rfl, Or.inr rfl, Or.inr rfl, Or.inr rfl, trivial⟩

set_option maxRecDepth 20000 in
set_option maxHeartbeats 4000000 in
theorem w_X12_laysPairs_L4 {N : Nat}   {r : Int32} {sr : St}   : ∀ (n4 : Nat) (v1 : Int32) (v2 : Int32) (s3 : St), f_X12_laysPairs_L4 N n4 v1 v2 s3 = some (r, sr) → E mX12_laysPairs 3 (some (.int r), sr) 4 [some (.ref 206), some (.int v1), some (.int v2), none] [] s3 := by
  intro n4
  induction n4 with
  | zero =>
    intro v1 v2 s3 h
    rw [f_X12_laysPairs_L4] at h; cases h
  | succ n4 ih5 =>
    intro v1 v2 s3 h
    rw [f_X12_laysPairs_L4] at h
    refine e_iload_n qX12_laysPairs_4 rfl ?_
    refine e_aload_n qX12_laysPairs_5 rfl ?_
    refine e_getr 208 qX12_laysPairs_6 fl_X12_33 shq_206 kdq_11_6 rrq_206_6 ?_
    refine e_iconst (nI 0) qX12_laysPairs_9 rfl ?_
    refine e_iald qX12_laysPairs_10 shq_208 lnq_208 h (fun v6 h => ?_)
    refine e_icmp_ge (tgt := 76) qX12_laysPairs_11 rfl h (fun _ h => ?_) (fun _ h => ?_)
    · refine e_iload_n qX12_laysPairs_76 rfl ?_
      exact e_iret qX12_laysPairs_77 rfl (ret_i h)
    refine e_aload_n qX12_laysPairs_14 rfl ?_
    refine e_getr 215 qX12_laysPairs_15 fl_X12_56 shq_206 kdq_11_25 rrq_206_25 ?_
    refine e_iload_n qX12_laysPairs_18 rfl ?_
    refine e_iconst (nI 0) qX12_laysPairs_19 rfl ?_
    refine e_iast qX12_laysPairs_20 shq_215 lnq_215 h (fun s7 h => ?_)
    refine e_iconst (nI 0) qX12_laysPairs_21 rfl ?_
    refine e_istore_n (lv2 := [some (.ref 206), some (.int v1), some (.int v2), some (.int (nI 0))]) qX12_laysPairs_22 rfl rfl rfl ?_
    refine e_weak (w_X12_laysPairs_L23 (fun v26 s27 h => ?_) _ _ _ _ h) ⟨Or.inr rfl, Or.inr rfl, Or.inr rfl, Or.inr rfl, trivial⟩
    refine vl_e h (fun h => ?_)
    obtain ⟨v28, ev28⟩ : ∃ y, v2 + (nI 1) = y := ⟨_, rfl⟩
    rw [ev28] at h
    refine e_iinc (nI 1) v28 (lv2 := [some (.ref 206), some (.int v26), some (.int v28), none]) qX12_laysPairs_70 rfl rfl rfl ev28 rfl ?_
    refine e_goto (tgt := 4) qX12_laysPairs_73 rfl ?_
    exact e_weak (ih5 _ _ _ h) ⟨Or.inr rfl, Or.inr rfl, Or.inr rfl, Or.inl rfl, trivial⟩

set_option maxRecDepth 20000 in
set_option maxHeartbeats 4000000 in
theorem w_X12_laysPairs {N : Nat}  {s0 : St} {r : Int32} {sr : St} (h : f_X12_laysPairs N  s0 = some (r, sr)) : Ct mX12_laysPairs 3 [.ref 206] s0 (some (.int r), sr) := by
  refine Ct.ofE (by decide +kernel) rfl ?_
  show E mX12_laysPairs 3 (some (.int r), sr) 0 [some (.ref 206), none, none, none] [] s0
  unfold f_X12_laysPairs at h
  refine e_iconst (nI 0) qX12_laysPairs_0 rfl ?_
  refine e_istore_n (lv2 := [some (.ref 206), some (.int (nI 0)), none, none]) qX12_laysPairs_1 rfl rfl rfl ?_
  refine e_iconst (nI 0) qX12_laysPairs_2 rfl ?_
  refine e_istore_n (lv2 := [some (.ref 206), some (.int (nI 0)), some (.int (nI 0)), none]) qX12_laysPairs_3 rfl rfl rfl ?_
  exact e_weak (w_X12_laysPairs_L4  _ _ _ _ h) ⟨Or.inr rfl, Or.inr rfl, Or.inr rfl, Or.inl rfl, trivial⟩

def f_X12_confused (N : Nat)  (s0 : St) : Option (Int32 × St) :=
  vl (sI s0 206 0 (nI 0)) fun s1 =>
  bd (f_X12_laysPairs N s1) fun v2 s3 =>
  some (v2, s3)

theorem qX12_confused_0 : Dc mX12_confused 0 (.aload_n 0) 1 1 := ⟨by decide +kernel, rfl⟩
theorem qX12_confused_1 : Dc mX12_confused 1 (.iconst 0) 1 2 := ⟨by decide +kernel, rfl⟩
theorem qX12_confused_2 : Dc mX12_confused 2 (.putfield 1) 3 5 := ⟨by decide +kernel, rfl⟩
theorem qX12_confused_5 : Dc mX12_confused 5 (.aload_n 0) 1 6 := ⟨by decide +kernel, rfl⟩
theorem qX12_confused_6 : Dc mX12_confused 6 (.invokevirtual 344) 3 9 := ⟨by decide +kernel, rfl⟩
theorem qX12_confused_9 : Dc mX12_confused 9 (.ireturn) 1 10 := ⟨by decide +kernel, rfl⟩

set_option maxRecDepth 20000 in
set_option maxHeartbeats 4000000 in
theorem w_X12_confused {N : Nat}  {s0 : St} {r : Int32} {sr : St} (h : f_X12_confused N  s0 = some (r, sr)) : Ct mX12_confused 4 [.ref 206] s0 (some (.int r), sr) := by
  refine Ct.ofE (by decide +kernel) rfl ?_
  show E mX12_confused 4 (some (.int r), sr) 0 [some (.ref 206)] [] s0
  unfold f_X12_confused at h
  refine e_aload_n qX12_confused_0 rfl ?_
  refine e_iconst (nI 0) qX12_confused_1 rfl ?_
  refine e_puti qX12_confused_2 fp_X12_1 shq_206 kdq_11_0 h (fun s1 h => ?_)
  refine e_aload_n qX12_confused_5 rfl ?_
  obtain ⟨v2, s3, hc, h⟩ := bd_e h
  refine e_cVi0 qX12_confused_6 mv_X12_344 shq_206 rfl rfl (w_X12_laysPairs hc) ?_
  exact e_iret qX12_confused_9 rfl (ret_i h)

def f_X12_change_L47 (N : Nat) (c17 : Int32) (c18 : Int32) (s21 : St) (k22 : Int32 → Option (Int32 × St)) : Nat → Int32 → Int32 → Option (Int32 × St)
  | 0, _, _ => none
  | n24 + 1, v19, v20 =>
    ald (s21.1 208) 359 (nI 0) fun v26 =>
    if v26 ≤ v20 then
      k22 v19
    else
    if v19 = 0 then
      k22 v19
    else
    bp (f_X12_bitOf c18 v20 s21) fun v27 =>
    jn (fun (v28 : Int32) =>
      vl (v20 + (nI 1)) fun v30 =>
      f_X12_change_L47 N c17 c18 s21 k22 n24 v28 v30) fun j29 =>
    jn (j29 (nI 1)) fun j31 =>
    if v27 = 0 then
      ald (s21.1 215) 8 v20 fun v32 =>
      if (v32 &&& (c18 ^^^ (-1))) = 0 then
        j31
      else
      j29 (nI 0)
    else
    j31

def f_X12_change_L23 (N : Nat) (s8 : St) (k9 : Int32 → Option (Int32 × St)) : Nat → Int32 → Int32 → Option (Int32 × St)
  | 0, _, _ => none
  | n11 + 1, v6, v7 =>
    if v7 < 0 then
      k9 v6
    else
    bp (f_X12_bits N v7 s8) fun v13 =>
    bp (f_X12_bits N v6 s8) fun v14 =>
    jn (fun (v15 : Int32) =>
      f_X12_change_L47 N v6 v7 s8 (fun (v33 : Int32) =>
        jn (fun (v34 : Int32) =>
          vl (v7 + (-1)) fun v36 =>
          f_X12_change_L23 N s8 k9 n11 v34 v36) fun j35 =>
        if v33 = 0 then
          j35 v6
        else
        j35 v7) N v15 (nI 0)) fun j16 =>
    if v14 < v13 then
      j16 (nI 0)
    else
    j16 (nI 1)

def f_X12_change (N : Nat)  (s0 : St) : Option (Int32 × St) :=
  vl (sI s0 206 0 (nI 0)) fun s1 =>
  bd (f_X12_laysPairs N s1) fun v2 s3 =>
  ald (s3.1 208) 359 (nI 0) fun v4 =>
  vl (((nI 1) <<< (v4 &&& 31)) - (nI 1)) fun v5 =>
  f_X12_change_L23 N s3 (fun (v37 : Int32) =>
    vl (sI s3 206 27 (nI 1)) fun s38 =>
    vl (sI s38 206 26 v37) fun s39 =>
    bp (f_X12_bits N v37 s39) fun v40 =>
    some (v40, s39)) N v5 v5

theorem qX12_change_0 : Dc mX12_change 0 (.aload_n 0) 1 1 := ⟨by decide +kernel, rfl⟩
theorem qX12_change_1 : Dc mX12_change 1 (.iconst 0) 1 2 := ⟨by decide +kernel, rfl⟩
theorem qX12_change_2 : Dc mX12_change 2 (.putfield 1) 3 5 := ⟨by decide +kernel, rfl⟩
theorem qX12_change_5 : Dc mX12_change 5 (.aload_n 0) 1 6 := ⟨by decide +kernel, rfl⟩
theorem qX12_change_6 : Dc mX12_change 6 (.invokevirtual 344) 3 9 := ⟨by decide +kernel, rfl⟩
theorem qX12_change_9 : Dc mX12_change 9 (.pop) 1 10 := ⟨by decide +kernel, rfl⟩
theorem qX12_change_10 : Dc mX12_change 10 (.iconst 1) 1 11 := ⟨by decide +kernel, rfl⟩
theorem qX12_change_11 : Dc mX12_change 11 (.aload_n 0) 1 12 := ⟨by decide +kernel, rfl⟩
theorem qX12_change_12 : Dc mX12_change 12 (.getfield 33) 3 15 := ⟨by decide +kernel, rfl⟩
theorem qX12_change_15 : Dc mX12_change 15 (.iconst 0) 1 16 := ⟨by decide +kernel, rfl⟩
theorem qX12_change_16 : Dc mX12_change 16 (.iaload) 1 17 := ⟨by decide +kernel, rfl⟩
theorem qX12_change_17 : Dc mX12_change 17 (.ishl) 1 18 := ⟨by decide +kernel, rfl⟩
theorem qX12_change_18 : Dc mX12_change 18 (.iconst 1) 1 19 := ⟨by decide +kernel, rfl⟩
theorem qX12_change_19 : Dc mX12_change 19 (.isub) 1 20 := ⟨by decide +kernel, rfl⟩
theorem qX12_change_20 : Dc mX12_change 20 (.istore_n 1) 1 21 := ⟨by decide +kernel, rfl⟩
theorem qX12_change_21 : Dc mX12_change 21 (.iload_n 1) 1 22 := ⟨by decide +kernel, rfl⟩
theorem qX12_change_22 : Dc mX12_change 22 (.istore_n 2) 1 23 := ⟨by decide +kernel, rfl⟩
theorem qX12_change_23 : Dc mX12_change 23 (.iload_n 2) 1 24 := ⟨by decide +kernel, rfl⟩
theorem qX12_change_24 : Dc mX12_change 24 (.ifCond .lt 85) 3 27 := ⟨by decide +kernel, rfl⟩
theorem qX12_change_27 : Dc mX12_change 27 (.iload_n 2) 1 28 := ⟨by decide +kernel, rfl⟩
theorem qX12_change_28 : Dc mX12_change 28 (.invokestatic 347) 3 31 := ⟨by decide +kernel, rfl⟩
theorem qX12_change_31 : Dc mX12_change 31 (.iload_n 1) 1 32 := ⟨by decide +kernel, rfl⟩
theorem qX12_change_32 : Dc mX12_change 32 (.invokestatic 347) 3 35 := ⟨by decide +kernel, rfl⟩
theorem qX12_change_35 : Dc mX12_change 35 (.if_icmp .gt 7) 3 38 := ⟨by decide +kernel, rfl⟩
theorem qX12_change_38 : Dc mX12_change 38 (.iconst 1) 1 39 := ⟨by decide +kernel, rfl⟩
theorem qX12_change_39 : Dc mX12_change 39 (.goto 4) 3 42 := ⟨by decide +kernel, rfl⟩
theorem qX12_change_42 : Dc mX12_change 42 (.iconst 0) 1 43 := ⟨by decide +kernel, rfl⟩
theorem qX12_change_43 : Dc mX12_change 43 (.istore_n 3) 1 44 := ⟨by decide +kernel, rfl⟩
theorem qX12_change_44 : Dc mX12_change 44 (.iconst 0) 1 45 := ⟨by decide +kernel, rfl⟩
theorem qX12_change_45 : Dc mX12_change 45 (.istore 4) 2 47 := ⟨by decide +kernel, rfl⟩
theorem qX12_change_47 : Dc mX12_change 47 (.iload 4) 2 49 := ⟨by decide +kernel, rfl⟩
theorem qX12_change_49 : Dc mX12_change 49 (.aload_n 0) 1 50 := ⟨by decide +kernel, rfl⟩
theorem qX12_change_50 : Dc mX12_change 50 (.getfield 33) 3 53 := ⟨by decide +kernel, rfl⟩
theorem qX12_change_53 : Dc mX12_change 53 (.iconst 0) 1 54 := ⟨by decide +kernel, rfl⟩
theorem qX12_change_54 : Dc mX12_change 54 (.iaload) 1 55 := ⟨by decide +kernel, rfl⟩
theorem qX12_change_55 : Dc mX12_change 55 (.if_icmp .ge 42) 3 58 := ⟨by decide +kernel, rfl⟩
theorem qX12_change_58 : Dc mX12_change 58 (.iload_n 3) 1 59 := ⟨by decide +kernel, rfl⟩
theorem qX12_change_59 : Dc mX12_change 59 (.ifCond .eq 38) 3 62 := ⟨by decide +kernel, rfl⟩
theorem qX12_change_62 : Dc mX12_change 62 (.iload_n 2) 1 63 := ⟨by decide +kernel, rfl⟩
theorem qX12_change_63 : Dc mX12_change 63 (.iload 4) 2 65 := ⟨by decide +kernel, rfl⟩
theorem qX12_change_65 : Dc mX12_change 65 (.invokestatic 240) 3 68 := ⟨by decide +kernel, rfl⟩
theorem qX12_change_68 : Dc mX12_change 68 (.ifCond .ne 17) 3 71 := ⟨by decide +kernel, rfl⟩
theorem qX12_change_71 : Dc mX12_change 71 (.aload_n 0) 1 72 := ⟨by decide +kernel, rfl⟩
theorem qX12_change_72 : Dc mX12_change 72 (.getfield 56) 3 75 := ⟨by decide +kernel, rfl⟩
theorem qX12_change_75 : Dc mX12_change 75 (.iload 4) 2 77 := ⟨by decide +kernel, rfl⟩
theorem qX12_change_77 : Dc mX12_change 77 (.iaload) 1 78 := ⟨by decide +kernel, rfl⟩
theorem qX12_change_78 : Dc mX12_change 78 (.iload_n 2) 1 79 := ⟨by decide +kernel, rfl⟩
theorem qX12_change_79 : Dc mX12_change 79 (.iconst (-1)) 1 80 := ⟨by decide +kernel, rfl⟩
theorem qX12_change_80 : Dc mX12_change 80 (.ixor) 1 81 := ⟨by decide +kernel, rfl⟩
theorem qX12_change_81 : Dc mX12_change 81 (.iand) 1 82 := ⟨by decide +kernel, rfl⟩
theorem qX12_change_82 : Dc mX12_change 82 (.ifCond .ne 7) 3 85 := ⟨by decide +kernel, rfl⟩
theorem qX12_change_85 : Dc mX12_change 85 (.iconst 1) 1 86 := ⟨by decide +kernel, rfl⟩
theorem qX12_change_86 : Dc mX12_change 86 (.goto 4) 3 89 := ⟨by decide +kernel, rfl⟩
theorem qX12_change_89 : Dc mX12_change 89 (.iconst 0) 1 90 := ⟨by decide +kernel, rfl⟩
theorem qX12_change_90 : Dc mX12_change 90 (.istore_n 3) 1 91 := ⟨by decide +kernel, rfl⟩
theorem qX12_change_91 : Dc mX12_change 91 (.iinc 4 1) 3 94 := ⟨by decide +kernel, rfl⟩
theorem qX12_change_94 : Dc mX12_change 94 (.goto (-47)) 3 97 := ⟨by decide +kernel, rfl⟩
theorem qX12_change_97 : Dc mX12_change 97 (.iload_n 3) 1 98 := ⟨by decide +kernel, rfl⟩
theorem qX12_change_98 : Dc mX12_change 98 (.ifCond .eq 5) 3 101 := ⟨by decide +kernel, rfl⟩
theorem qX12_change_101 : Dc mX12_change 101 (.iload_n 2) 1 102 := ⟨by decide +kernel, rfl⟩
theorem qX12_change_102 : Dc mX12_change 102 (.istore_n 1) 1 103 := ⟨by decide +kernel, rfl⟩
theorem qX12_change_103 : Dc mX12_change 103 (.iinc 2 (-1)) 3 106 := ⟨by decide +kernel, rfl⟩
theorem qX12_change_106 : Dc mX12_change 106 (.goto (-83)) 3 109 := ⟨by decide +kernel, rfl⟩
theorem qX12_change_109 : Dc mX12_change 109 (.aload_n 0) 1 110 := ⟨by decide +kernel, rfl⟩
theorem qX12_change_110 : Dc mX12_change 110 (.iconst 1) 1 111 := ⟨by decide +kernel, rfl⟩
theorem qX12_change_111 : Dc mX12_change 111 (.putfield 350) 3 114 := ⟨by decide +kernel, rfl⟩
theorem qX12_change_114 : Dc mX12_change 114 (.aload_n 0) 1 115 := ⟨by decide +kernel, rfl⟩
theorem qX12_change_115 : Dc mX12_change 115 (.iload_n 1) 1 116 := ⟨by decide +kernel, rfl⟩
theorem qX12_change_116 : Dc mX12_change 116 (.putfield 353) 3 119 := ⟨by decide +kernel, rfl⟩
theorem qX12_change_119 : Dc mX12_change 119 (.iload_n 1) 1 120 := ⟨by decide +kernel, rfl⟩
theorem qX12_change_120 : Dc mX12_change 120 (.invokestatic 347) 3 123 := ⟨by decide +kernel, rfl⟩
theorem qX12_change_123 : Dc mX12_change 123 (.ireturn) 1 124 := ⟨by decide +kernel, rfl⟩

set_option maxRecDepth 20000 in
set_option maxHeartbeats 4000000 in
theorem w_X12_change_L47 {N : Nat} {c17 : Int32} {c18 : Int32} {s21 : St} {k22 : Int32 → Option (Int32 × St)} {r : Int32} {sr : St}  (hk22 : ∀ (v23 : Int32), k22 v23 = some (r, sr) → E mX12_change 4 (some (.int r), sr) 97 [some (.ref 206), some (.int c17), some (.int c18), some (.int v23), none] [] s21) : ∀ (n24 : Nat) (v19 : Int32) (v20 : Int32), f_X12_change_L47 N c17 c18 s21 k22 n24 v19 v20 = some (r, sr) → E mX12_change 4 (some (.int r), sr) 47 [some (.ref 206), some (.int c17), some (.int c18), some (.int v19), some (.int v20)] [] s21 := by
  intro n24
  induction n24 with
  | zero =>
    intro v19 v20 h
    rw [f_X12_change_L47] at h; cases h
  | succ n24 ih25 =>
    intro v19 v20 h
    rw [f_X12_change_L47] at h
    refine e_iload qX12_change_47 rfl ?_
    refine e_aload_n qX12_change_49 rfl ?_
    refine e_getr 208 qX12_change_50 fl_X12_33 shq_206 kdq_11_6 rrq_206_6 ?_
    refine e_iconst (nI 0) qX12_change_53 rfl ?_
    refine e_iald qX12_change_54 shq_208 lnq_208 h (fun v26 h => ?_)
    refine e_icmp_ge (tgt := 97) qX12_change_55 rfl h (fun _ h => ?_) (fun _ h => ?_)
    · exact e_weak (hk22 _ h) ⟨Or.inr rfl, Or.inr rfl, Or.inr rfl, Or.inr rfl, Or.inl rfl, trivial⟩
    refine e_iload_n qX12_change_58 rfl ?_
    refine e_if_eq (tgt := 97) qX12_change_59 rfl h (fun _ h => ?_) (fun _ h => ?_)
    · exact e_weak (hk22 _ h) ⟨Or.inr rfl, Or.inr rfl, Or.inr rfl, Or.inr rfl, Or.inl rfl, trivial⟩
    refine e_iload_n qX12_change_62 rfl ?_
    refine e_iload qX12_change_63 rfl ?_
    obtain ⟨v27, hc, h⟩ := bp_e h
    refine e_cSi2 qX12_change_65 ms_X12_240 rfl rfl (w_X12_bitOf hc) ?_
    refine jn_e (fun j => ∀ (v28 : Int32), j v28 = some (r, sr) → E mX12_change 4 (some (.int r), sr) 90 [some (.ref 206), some (.int c17), some (.int c18), none, some (.int v20)] [.int v28] s21) h ?_ (fun j29 hj29 h => ?_)
    · intro v28 h
      refine e_istore_n (lv2 := [some (.ref 206), some (.int c17), some (.int c18), some (.int v28), some (.int v20)]) qX12_change_90 rfl rfl rfl ?_
      refine vl_e h (fun h => ?_)
      obtain ⟨v30, ev30⟩ : ∃ y, v20 + (nI 1) = y := ⟨_, rfl⟩
      rw [ev30] at h
      refine e_iinc (nI 1) v30 (lv2 := [some (.ref 206), some (.int c17), some (.int c18), some (.int v28), some (.int v30)]) qX12_change_91 rfl rfl rfl ev30 rfl ?_
      refine e_goto (tgt := 47) qX12_change_94 rfl ?_
      exact e_weak (ih25 _ _ h) ⟨Or.inr rfl, Or.inr rfl, Or.inr rfl, Or.inr rfl, Or.inr rfl, trivial⟩
    refine jn_e (fun j => j = some (r, sr) → E mX12_change 4 (some (.int r), sr) 85 [some (.ref 206), some (.int c17), some (.int c18), none, some (.int v20)] [] s21) h ?_ (fun j31 hj31 h => ?_)
    · intro h
      refine e_iconst (nI 1) qX12_change_85 rfl ?_
      refine e_goto (tgt := 90) qX12_change_86 rfl ?_
      exact e_weak (hj29 _ h) ⟨Or.inr rfl, Or.inr rfl, Or.inr rfl, Or.inl rfl, Or.inr rfl, trivial⟩
    refine e_if_ne (tgt := 85) qX12_change_68 rfl h (fun _ h => ?_) (fun _ h => ?_)
    · refine e_aload_n qX12_change_71 rfl ?_
      refine e_getr 215 qX12_change_72 fl_X12_56 shq_206 kdq_11_25 rrq_206_25 ?_
      refine e_iload qX12_change_75 rfl ?_
      refine e_iald qX12_change_77 shq_215 lnq_215 h (fun v32 h => ?_)
      refine e_iload_n qX12_change_78 rfl ?_
      refine e_iconst (-1) qX12_change_79 rfl ?_
      refine e_ixor qX12_change_80 ?_
      refine e_iand qX12_change_81 ?_
      refine e_if_ne (tgt := 89) qX12_change_82 rfl h (fun _ h => ?_) (fun _ h => ?_)
      · exact e_weak (hj31 h) ⟨Or.inr rfl, Or.inr rfl, Or.inr rfl, Or.inl rfl, Or.inr rfl, trivial⟩
      refine e_iconst (nI 0) qX12_change_89 rfl ?_
      exact e_weak (hj29 _ h) ⟨Or.inr rfl, Or.inr rfl, Or.inr rfl, Or.inl rfl, Or.inr rfl, trivial⟩
    exact e_weak (hj31 h) ⟨Or.inr rfl, Or.inr rfl, Or.inr rfl, Or.inl rfl, Or.inr rfl, trivial⟩

set_option maxRecDepth 20000 in
set_option maxHeartbeats 4000000 in
theorem w_X12_change_L23 {N : Nat}  {s8 : St} {k9 : Int32 → Option (Int32 × St)} {r : Int32} {sr : St}  (hk9 : ∀ (v10 : Int32), k9 v10 = some (r, sr) → E mX12_change 4 (some (.int r), sr) 109 [some (.ref 206), some (.int v10), none, none, none] [] s8) : ∀ (n11 : Nat) (v6 : Int32) (v7 : Int32), f_X12_change_L23 N s8 k9 n11 v6 v7 = some (r, sr) → E mX12_change 4 (some (.int r), sr) 23 [some (.ref 206), some (.int v6), some (.int v7), none, none] [] s8 := by
  intro n11
  induction n11 with
  | zero =>
    intro v6 v7 h
    rw [f_X12_change_L23] at h; cases h
  | succ n11 ih12 =>
    intro v6 v7 h
    rw [f_X12_change_L23] at h
    refine e_iload_n qX12_change_23 rfl ?_
    refine e_if_lt (tgt := 109) qX12_change_24 rfl h (fun _ h => ?_) (fun _ h => ?_)
    · exact e_weak (hk9 _ h) ⟨Or.inr rfl, Or.inr rfl, Or.inl rfl, Or.inl rfl, Or.inl rfl, trivial⟩
    refine e_iload_n qX12_change_27 rfl ?_
    obtain ⟨v13, hc, h⟩ := bp_e h
    refine e_cSi1 qX12_change_28 ms_X12_347 rfl rfl (w_X12_bits hc) ?_
    refine e_iload_n qX12_change_31 rfl ?_
    obtain ⟨v14, hc, h⟩ := bp_e h
    refine e_cSi1 qX12_change_32 ms_X12_347 rfl rfl (w_X12_bits hc) ?_
    refine jn_e (fun j => ∀ (v15 : Int32), j v15 = some (r, sr) → E mX12_change 4 (some (.int r), sr) 43 [some (.ref 206), some (.int v6), some (.int v7), none, none] [.int v15] s8) h ?_ (fun j16 hj16 h => ?_)
    · intro v15 h
      refine e_istore_n (lv2 := [some (.ref 206), some (.int v6), some (.int v7), some (.int v15), none]) qX12_change_43 rfl rfl rfl ?_
      refine e_iconst (nI 0) qX12_change_44 rfl ?_
      refine e_istore (lv2 := [some (.ref 206), some (.int v6), some (.int v7), some (.int v15), some (.int (nI 0))]) qX12_change_45 rfl rfl rfl ?_
      refine e_weak (w_X12_change_L47 (fun v33 h => ?_) _ _ _ h) ⟨Or.inr rfl, Or.inr rfl, Or.inr rfl, Or.inr rfl, Or.inr rfl, trivial⟩
      refine e_iload_n qX12_change_97 rfl ?_
      refine jn_e (fun j => ∀ (v34 : Int32), j v34 = some (r, sr) → E mX12_change 4 (some (.int r), sr) 103 [some (.ref 206), some (.int v34), some (.int v7), none, none] [] s8) h ?_ (fun j35 hj35 h => ?_)
      · intro v34 h
        refine vl_e h (fun h => ?_)
        obtain ⟨v36, ev36⟩ : ∃ y, v7 + (-1) = y := ⟨_, rfl⟩
        rw [ev36] at h
        refine e_iinc (-1) v36 (lv2 := [some (.ref 206), some (.int v34), some (.int v36), none, none]) qX12_change_103 rfl rfl rfl ev36 rfl ?_
        refine e_goto (tgt := 23) qX12_change_106 rfl ?_
        exact e_weak (ih12 _ _ h) ⟨Or.inr rfl, Or.inr rfl, Or.inr rfl, Or.inl rfl, Or.inl rfl, trivial⟩
      refine e_if_eq (tgt := 103) qX12_change_98 rfl h (fun _ h => ?_) (fun _ h => ?_)
      · exact e_weak (hj35 _ h) ⟨Or.inr rfl, Or.inr rfl, Or.inr rfl, Or.inl rfl, Or.inl rfl, trivial⟩
      refine e_iload_n qX12_change_101 rfl ?_
      refine e_istore_n (lv2 := [some (.ref 206), some (.int v7), some (.int v7), some (.int v33), none]) qX12_change_102 rfl rfl rfl ?_
      exact e_weak (hj35 _ h) ⟨Or.inr rfl, Or.inr rfl, Or.inr rfl, Or.inl rfl, Or.inl rfl, trivial⟩
    refine e_icmp_gt (tgt := 42) qX12_change_35 rfl h (fun _ h => ?_) (fun _ h => ?_)
    · refine e_iconst (nI 0) qX12_change_42 rfl ?_
      exact e_weak (hj16 _ h) ⟨Or.inr rfl, Or.inr rfl, Or.inr rfl, Or.inl rfl, Or.inl rfl, trivial⟩
    refine e_iconst (nI 1) qX12_change_38 rfl ?_
    refine e_goto (tgt := 43) qX12_change_39 rfl ?_
    exact e_weak (hj16 _ h) ⟨Or.inr rfl, Or.inr rfl, Or.inr rfl, Or.inl rfl, Or.inl rfl, trivial⟩

set_option maxRecDepth 20000 in
set_option maxHeartbeats 4000000 in
theorem w_X12_change {N : Nat}  {s0 : St} {r : Int32} {sr : St} (h : f_X12_change N  s0 = some (r, sr)) : Ct mX12_change 4 [.ref 206] s0 (some (.int r), sr) := by
  refine Ct.ofE (by decide +kernel) rfl ?_
  show E mX12_change 4 (some (.int r), sr) 0 [some (.ref 206), none, none, none, none] [] s0
  unfold f_X12_change at h
  refine e_aload_n qX12_change_0 rfl ?_
  refine e_iconst (nI 0) qX12_change_1 rfl ?_
  refine e_puti qX12_change_2 fp_X12_1 shq_206 kdq_11_0 h (fun s1 h => ?_)
  refine e_aload_n qX12_change_5 rfl ?_
  obtain ⟨v2, s3, hc, h⟩ := bd_e h
  refine e_cVi0 qX12_change_6 mv_X12_344 shq_206 rfl rfl (w_X12_laysPairs hc) ?_
  refine e_pop qX12_change_9 rfl ?_
  refine e_iconst (nI 1) qX12_change_10 rfl ?_
  refine e_aload_n qX12_change_11 rfl ?_
  refine e_getr 208 qX12_change_12 fl_X12_33 shq_206 kdq_11_6 rrq_206_6 ?_
  refine e_iconst (nI 0) qX12_change_15 rfl ?_
  refine e_iald qX12_change_16 shq_208 lnq_208 h (fun v4 h => ?_)
  refine e_ishl qX12_change_17 ?_
  refine e_iconst (nI 1) qX12_change_18 rfl ?_
  refine e_isub qX12_change_19 ?_
  refine vl_e h (fun h => ?_)
  generalize (((nI 1) <<< (v4 &&& 31)) - (nI 1)) = v5 at h ⊢
  refine e_istore_n (lv2 := [some (.ref 206), some (.int v5), none, none, none]) qX12_change_20 rfl rfl rfl ?_
  refine e_iload_n qX12_change_21 rfl ?_
  refine e_istore_n (lv2 := [some (.ref 206), some (.int v5), some (.int v5), none, none]) qX12_change_22 rfl rfl rfl ?_
  refine e_weak (w_X12_change_L23 (fun v37 h => ?_) _ _ _ h) ⟨Or.inr rfl, Or.inr rfl, Or.inr rfl, Or.inl rfl, Or.inl rfl, trivial⟩
  refine e_aload_n qX12_change_109 rfl ?_
  refine e_iconst (nI 1) qX12_change_110 rfl ?_
  refine e_putz qX12_change_111 fp_X12_350 shq_206 kdq_11_27 (by decide) h (fun s38 h => ?_)
  refine e_aload_n qX12_change_114 rfl ?_
  refine e_iload_n qX12_change_115 rfl ?_
  refine e_puti qX12_change_116 fp_X12_353 shq_206 kdq_11_26 h (fun s39 h => ?_)
  refine e_iload_n qX12_change_119 rfl ?_
  obtain ⟨v40, hc, h⟩ := bp_e h
  refine e_cSi1 qX12_change_120 ms_X12_347 rfl rfl (w_X12_bits hc) ?_
  exact e_iret qX12_change_123 rfl (ret_i h)

def f_X12_changes  (s0 : St) : Option (Int32 × St) :=
  vl (sI s0 206 0 (nI 0)) fun s1 =>
  vl (s1.1 206 27) fun v2 =>
  if v2 = 0 then
    some ((-1), s1)
  else
  vl (s1.1 206 26) fun v3 =>
  some (v3, s1)

theorem qX12_changes_0 : Dc mX12_changes 0 (.aload_n 0) 1 1 := ⟨by decide +kernel, rfl⟩
theorem qX12_changes_1 : Dc mX12_changes 1 (.iconst 0) 1 2 := ⟨by decide +kernel, rfl⟩
theorem qX12_changes_2 : Dc mX12_changes 2 (.putfield 1) 3 5 := ⟨by decide +kernel, rfl⟩
theorem qX12_changes_5 : Dc mX12_changes 5 (.aload_n 0) 1 6 := ⟨by decide +kernel, rfl⟩
theorem qX12_changes_6 : Dc mX12_changes 6 (.getfield 350) 3 9 := ⟨by decide +kernel, rfl⟩
theorem qX12_changes_9 : Dc mX12_changes 9 (.ifCond .eq 10) 3 12 := ⟨by decide +kernel, rfl⟩
theorem qX12_changes_12 : Dc mX12_changes 12 (.aload_n 0) 1 13 := ⟨by decide +kernel, rfl⟩
theorem qX12_changes_13 : Dc mX12_changes 13 (.getfield 353) 3 16 := ⟨by decide +kernel, rfl⟩
theorem qX12_changes_16 : Dc mX12_changes 16 (.goto 4) 3 19 := ⟨by decide +kernel, rfl⟩
theorem qX12_changes_19 : Dc mX12_changes 19 (.iconst (-1)) 1 20 := ⟨by decide +kernel, rfl⟩
theorem qX12_changes_20 : Dc mX12_changes 20 (.ireturn) 1 21 := ⟨by decide +kernel, rfl⟩

set_option maxRecDepth 20000 in
set_option maxHeartbeats 4000000 in
theorem w_X12_changes  {s0 : St} {r : Int32} {sr : St} (h : f_X12_changes  s0 = some (r, sr)) : Ct mX12_changes 0 [.ref 206] s0 (some (.int r), sr) := by
  refine Ct.ofE (by decide +kernel) rfl ?_
  show E mX12_changes 0 (some (.int r), sr) 0 [some (.ref 206)] [] s0
  unfold f_X12_changes at h
  refine e_aload_n qX12_changes_0 rfl ?_
  refine e_iconst (nI 0) qX12_changes_1 rfl ?_
  refine e_puti qX12_changes_2 fp_X12_1 shq_206 kdq_11_0 h (fun s1 h => ?_)
  refine e_aload_n qX12_changes_5 rfl ?_
  refine e_geti qX12_changes_6 fl_X12_350 shq_206 kdq_11_27 h (fun v2 h => ?_)
  refine e_if_eq (tgt := 19) qX12_changes_9 rfl h (fun _ h => ?_) (fun _ h => ?_)
  · refine e_iconst (-1) qX12_changes_19 rfl ?_
    exact e_iret qX12_changes_20 rfl (ret_i h)
  refine e_aload_n qX12_changes_12 rfl ?_
  refine e_geti qX12_changes_13 fl_X12_353 shq_206 kdq_11_26 h (fun v3 h => ?_)
  refine e_goto (tgt := 20) qX12_changes_16 rfl ?_
  exact e_iret qX12_changes_20 rfl (ret_i h)

def f_X12_apart_L32 (N : Nat) (c5 : Int32) (c6 : Int32) (c7 : Int32) (k10 : St → Option (Int32 × St)) : Nat → Int32 → St → Option (Int32 × St)
  | 0, _, _ => none
  | n12 + 1, v8, s9 =>
    if c7 ≤ v8 then
      k10 s9
    else
    ald (fun j => sI s9 216 j ((nI 1) &&& 1)) 160 v8 fun s14 =>
    vl (v8 + (nI 1)) fun v15 =>
    f_X12_apart_L32 N c5 c6 c7 k10 n12 v15 s14

def f_X12_apart_L85 (N : Nat) (c26 : Int32) (c27 : Int32) (c28 : Int32) (c29 : Int32) (c30 : Int32) (k34 : Int32 → St → Option (Int32 × St)) : Nat → Int32 → Int32 → St → Option (Int32 × St)
  | 0, _, _, _ => none
  | n37 + 1, v31, v32, s33 =>
    if c28 ≤ v32 then
      k34 v31 s33
    else
    ald (s33.1 216) 160 v32 fun v39 =>
    jn (fun (v40 : Int32) =>
      ald (fun j => sI s33 216 j (v40 &&& 1)) 160 v32 fun s42 =>
      jn (fun (v43 : Int32) =>
        vl (v32 + (nI 1)) fun v45 =>
        f_X12_apart_L85 N c26 c27 c28 c29 c30 k34 n37 v43 v45 s42) fun j44 =>
      jn (j44 (nI 1)) fun j46 =>
      if v31 = 0 then
        ald (s42.1 216) 160 v32 fun v47 =>
        if v47 = 0 then
          j44 (nI 0)
        else
        j46
      else
      j46) fun j41 =>
    jn (j41 (nI 0)) fun j48 =>
    if v39 = 0 then
      j48
    else
    bp (f_X12_showsAt N c27 ((v32 + c29) - (nI 1)) s33) fun v49 =>
    if v49 = c30 then
      j41 (nI 1)
    else
    j48

def f_X12_apart_L55 (N : Nat) (c17 : Int32) (c18 : Int32) (c19 : Int32) : Nat → Int32 → St → Option (Int32 × St)
  | 0, _, _ => none
  | n22 + 1, v20, s21 =>
    if (nI 400) < v20 then
      some ((-1), s21)
    else
    bp (f_X12_placeIn N c17 (v20 - (nI 1)) s21) fun v24 =>
    bp (f_X12_showsAt N c17 v24 s21) fun v25 =>
    f_X12_apart_L85 N c17 c18 c19 v20 v25 (fun (v50 : Int32) (s51 : St) =>
      if v50 = 0 then
        some (v20, s51)
      else
      vl (v20 + (nI 1)) fun v52 =>
      f_X12_apart_L55 N c17 c18 c19 n22 v52 s51) N (nI 0) (nI 0) s21

def f_X12_apart (N : Nat) (x1 : Int32) (x2 : Int32) (s0 : St) : Option (Int32 × St) :=
  vl (sI s0 206 0 (nI 0)) fun s1 =>
  bp (f_X12_isLight x1 s1) fun v2 =>
  if v2 = 0 then
    some ((-1), s1)
  else
  bp (f_X12_isLight x2 s1) fun v3 =>
  if v3 = 0 then
    some ((-1), s1)
  else
  bp (f_X12_periodOf N x2 s1) fun v4 =>
  f_X12_apart_L32 N x1 x2 v4 (fun (s16 : St) =>
    f_X12_apart_L55 N x1 x2 v4 N (nI 1) s16) N (nI 0) s1

theorem qX12_apart_0 : Dc mX12_apart 0 (.aload_n 0) 1 1 := ⟨by decide +kernel, rfl⟩
theorem qX12_apart_1 : Dc mX12_apart 1 (.iconst 0) 1 2 := ⟨by decide +kernel, rfl⟩
theorem qX12_apart_2 : Dc mX12_apart 2 (.putfield 1) 3 5 := ⟨by decide +kernel, rfl⟩
theorem qX12_apart_5 : Dc mX12_apart 5 (.aload_n 0) 1 6 := ⟨by decide +kernel, rfl⟩
theorem qX12_apart_6 : Dc mX12_apart 6 (.iload_n 1) 1 7 := ⟨by decide +kernel, rfl⟩
theorem qX12_apart_7 : Dc mX12_apart 7 (.invokevirtual 294) 3 10 := ⟨by decide +kernel, rfl⟩
theorem qX12_apart_10 : Dc mX12_apart 10 (.ifCond .eq 11) 3 13 := ⟨by decide +kernel, rfl⟩
theorem qX12_apart_13 : Dc mX12_apart 13 (.aload_n 0) 1 14 := ⟨by decide +kernel, rfl⟩
theorem qX12_apart_14 : Dc mX12_apart 14 (.iload_n 2) 1 15 := ⟨by decide +kernel, rfl⟩
theorem qX12_apart_15 : Dc mX12_apart 15 (.invokevirtual 294) 3 18 := ⟨by decide +kernel, rfl⟩
theorem qX12_apart_18 : Dc mX12_apart 18 (.ifCond .ne 5) 3 21 := ⟨by decide +kernel, rfl⟩
theorem qX12_apart_21 : Dc mX12_apart 21 (.iconst (-1)) 1 22 := ⟨by decide +kernel, rfl⟩
theorem qX12_apart_22 : Dc mX12_apart 22 (.ireturn) 1 23 := ⟨by decide +kernel, rfl⟩
theorem qX12_apart_23 : Dc mX12_apart 23 (.aload_n 0) 1 24 := ⟨by decide +kernel, rfl⟩
theorem qX12_apart_24 : Dc mX12_apart 24 (.iload_n 2) 1 25 := ⟨by decide +kernel, rfl⟩
theorem qX12_apart_25 : Dc mX12_apart 25 (.invokevirtual 261) 3 28 := ⟨by decide +kernel, rfl⟩
theorem qX12_apart_28 : Dc mX12_apart 28 (.istore_n 3) 1 29 := ⟨by decide +kernel, rfl⟩
theorem qX12_apart_29 : Dc mX12_apart 29 (.iconst 0) 1 30 := ⟨by decide +kernel, rfl⟩
theorem qX12_apart_30 : Dc mX12_apart 30 (.istore 4) 2 32 := ⟨by decide +kernel, rfl⟩
theorem qX12_apart_32 : Dc mX12_apart 32 (.iload 4) 2 34 := ⟨by decide +kernel, rfl⟩
theorem qX12_apart_34 : Dc mX12_apart 34 (.iload_n 3) 1 35 := ⟨by decide +kernel, rfl⟩
theorem qX12_apart_35 : Dc mX12_apart 35 (.if_icmp .ge 17) 3 38 := ⟨by decide +kernel, rfl⟩
theorem qX12_apart_38 : Dc mX12_apart 38 (.aload_n 0) 1 39 := ⟨by decide +kernel, rfl⟩
theorem qX12_apart_39 : Dc mX12_apart 39 (.getfield 59) 3 42 := ⟨by decide +kernel, rfl⟩
theorem qX12_apart_42 : Dc mX12_apart 42 (.iload 4) 2 44 := ⟨by decide +kernel, rfl⟩
theorem qX12_apart_44 : Dc mX12_apart 44 (.iconst 1) 1 45 := ⟨by decide +kernel, rfl⟩
theorem qX12_apart_45 : Dc mX12_apart 45 (.bastore) 1 46 := ⟨by decide +kernel, rfl⟩
theorem qX12_apart_46 : Dc mX12_apart 46 (.iinc 4 1) 3 49 := ⟨by decide +kernel, rfl⟩
theorem qX12_apart_49 : Dc mX12_apart 49 (.goto (-17)) 3 52 := ⟨by decide +kernel, rfl⟩
theorem qX12_apart_52 : Dc mX12_apart 52 (.iconst 1) 1 53 := ⟨by decide +kernel, rfl⟩
theorem qX12_apart_53 : Dc mX12_apart 53 (.istore 4) 2 55 := ⟨by decide +kernel, rfl⟩
theorem qX12_apart_55 : Dc mX12_apart 55 (.iload 4) 2 57 := ⟨by decide +kernel, rfl⟩
theorem qX12_apart_57 : Dc mX12_apart 57 (.sipush 400) 3 60 := ⟨by decide +kernel, rfl⟩
theorem qX12_apart_60 : Dc mX12_apart 60 (.if_icmp .gt 112) 3 63 := ⟨by decide +kernel, rfl⟩
theorem qX12_apart_63 : Dc mX12_apart 63 (.aload_n 0) 1 64 := ⟨by decide +kernel, rfl⟩
theorem qX12_apart_64 : Dc mX12_apart 64 (.iload_n 1) 1 65 := ⟨by decide +kernel, rfl⟩
theorem qX12_apart_65 : Dc mX12_apart 65 (.aload_n 0) 1 66 := ⟨by decide +kernel, rfl⟩
theorem qX12_apart_66 : Dc mX12_apart 66 (.iload_n 1) 1 67 := ⟨by decide +kernel, rfl⟩
theorem qX12_apart_67 : Dc mX12_apart 67 (.iload 4) 2 69 := ⟨by decide +kernel, rfl⟩
theorem qX12_apart_69 : Dc mX12_apart 69 (.iconst 1) 1 70 := ⟨by decide +kernel, rfl⟩
theorem qX12_apart_70 : Dc mX12_apart 70 (.isub) 1 71 := ⟨by decide +kernel, rfl⟩
theorem qX12_apart_71 : Dc mX12_apart 71 (.invokevirtual 268) 3 74 := ⟨by decide +kernel, rfl⟩
theorem qX12_apart_74 : Dc mX12_apart 74 (.invokevirtual 356) 3 77 := ⟨by decide +kernel, rfl⟩
theorem qX12_apart_77 : Dc mX12_apart 77 (.istore 5) 2 79 := ⟨by decide +kernel, rfl⟩
theorem qX12_apart_79 : Dc mX12_apart 79 (.iconst 0) 1 80 := ⟨by decide +kernel, rfl⟩
theorem qX12_apart_80 : Dc mX12_apart 80 (.istore 6) 2 82 := ⟨by decide +kernel, rfl⟩
theorem qX12_apart_82 : Dc mX12_apart 82 (.iconst 0) 1 83 := ⟨by decide +kernel, rfl⟩
theorem qX12_apart_83 : Dc mX12_apart 83 (.istore 7) 2 85 := ⟨by decide +kernel, rfl⟩
theorem qX12_apart_85 : Dc mX12_apart 85 (.iload 7) 2 87 := ⟨by decide +kernel, rfl⟩
theorem qX12_apart_87 : Dc mX12_apart 87 (.iload_n 3) 1 88 := ⟨by decide +kernel, rfl⟩
theorem qX12_apart_88 : Dc mX12_apart 88 (.if_icmp .ge 70) 3 91 := ⟨by decide +kernel, rfl⟩
theorem qX12_apart_91 : Dc mX12_apart 91 (.aload_n 0) 1 92 := ⟨by decide +kernel, rfl⟩
theorem qX12_apart_92 : Dc mX12_apart 92 (.getfield 59) 3 95 := ⟨by decide +kernel, rfl⟩
theorem qX12_apart_95 : Dc mX12_apart 95 (.iload 7) 2 97 := ⟨by decide +kernel, rfl⟩
theorem qX12_apart_97 : Dc mX12_apart 97 (.aload_n 0) 1 98 := ⟨by decide +kernel, rfl⟩
theorem qX12_apart_98 : Dc mX12_apart 98 (.getfield 59) 3 101 := ⟨by decide +kernel, rfl⟩
theorem qX12_apart_101 : Dc mX12_apart 101 (.iload 7) 2 103 := ⟨by decide +kernel, rfl⟩
theorem qX12_apart_103 : Dc mX12_apart 103 (.baload) 1 104 := ⟨by decide +kernel, rfl⟩
theorem qX12_apart_104 : Dc mX12_apart 104 (.ifCond .eq 24) 3 107 := ⟨by decide +kernel, rfl⟩
theorem qX12_apart_107 : Dc mX12_apart 107 (.aload_n 0) 1 108 := ⟨by decide +kernel, rfl⟩
theorem qX12_apart_108 : Dc mX12_apart 108 (.iload_n 2) 1 109 := ⟨by decide +kernel, rfl⟩
theorem qX12_apart_109 : Dc mX12_apart 109 (.iload 7) 2 111 := ⟨by decide +kernel, rfl⟩
theorem qX12_apart_111 : Dc mX12_apart 111 (.iload 4) 2 113 := ⟨by decide +kernel, rfl⟩
theorem qX12_apart_113 : Dc mX12_apart 113 (.iadd) 1 114 := ⟨by decide +kernel, rfl⟩
theorem qX12_apart_114 : Dc mX12_apart 114 (.iconst 1) 1 115 := ⟨by decide +kernel, rfl⟩
theorem qX12_apart_115 : Dc mX12_apart 115 (.isub) 1 116 := ⟨by decide +kernel, rfl⟩
theorem qX12_apart_116 : Dc mX12_apart 116 (.invokevirtual 356) 3 119 := ⟨by decide +kernel, rfl⟩
theorem qX12_apart_119 : Dc mX12_apart 119 (.iload 5) 2 121 := ⟨by decide +kernel, rfl⟩
theorem qX12_apart_121 : Dc mX12_apart 121 (.if_icmp .ne 7) 3 124 := ⟨by decide +kernel, rfl⟩
theorem qX12_apart_124 : Dc mX12_apart 124 (.iconst 1) 1 125 := ⟨by decide +kernel, rfl⟩
theorem qX12_apart_125 : Dc mX12_apart 125 (.goto 4) 3 128 := ⟨by decide +kernel, rfl⟩
theorem qX12_apart_128 : Dc mX12_apart 128 (.iconst 0) 1 129 := ⟨by decide +kernel, rfl⟩
theorem qX12_apart_129 : Dc mX12_apart 129 (.bastore) 1 130 := ⟨by decide +kernel, rfl⟩
theorem qX12_apart_130 : Dc mX12_apart 130 (.iload 6) 2 132 := ⟨by decide +kernel, rfl⟩
theorem qX12_apart_132 : Dc mX12_apart 132 (.ifCond .ne 13) 3 135 := ⟨by decide +kernel, rfl⟩
theorem qX12_apart_135 : Dc mX12_apart 135 (.aload_n 0) 1 136 := ⟨by decide +kernel, rfl⟩
theorem qX12_apart_136 : Dc mX12_apart 136 (.getfield 59) 3 139 := ⟨by decide +kernel, rfl⟩
theorem qX12_apart_139 : Dc mX12_apart 139 (.iload 7) 2 141 := ⟨by decide +kernel, rfl⟩
theorem qX12_apart_141 : Dc mX12_apart 141 (.baload) 1 142 := ⟨by decide +kernel, rfl⟩
theorem qX12_apart_142 : Dc mX12_apart 142 (.ifCond .eq 7) 3 145 := ⟨by decide +kernel, rfl⟩
theorem qX12_apart_145 : Dc mX12_apart 145 (.iconst 1) 1 146 := ⟨by decide +kernel, rfl⟩
theorem qX12_apart_146 : Dc mX12_apart 146 (.goto 4) 3 149 := ⟨by decide +kernel, rfl⟩
theorem qX12_apart_149 : Dc mX12_apart 149 (.iconst 0) 1 150 := ⟨by decide +kernel, rfl⟩
theorem qX12_apart_150 : Dc mX12_apart 150 (.istore 6) 2 152 := ⟨by decide +kernel, rfl⟩
theorem qX12_apart_152 : Dc mX12_apart 152 (.iinc 7 1) 3 155 := ⟨by decide +kernel, rfl⟩
theorem qX12_apart_155 : Dc mX12_apart 155 (.goto (-70)) 3 158 := ⟨by decide +kernel, rfl⟩
theorem qX12_apart_158 : Dc mX12_apart 158 (.iload 6) 2 160 := ⟨by decide +kernel, rfl⟩
theorem qX12_apart_160 : Dc mX12_apart 160 (.ifCond .ne 6) 3 163 := ⟨by decide +kernel, rfl⟩
theorem qX12_apart_163 : Dc mX12_apart 163 (.iload 4) 2 165 := ⟨by decide +kernel, rfl⟩
theorem qX12_apart_165 : Dc mX12_apart 165 (.ireturn) 1 166 := ⟨by decide +kernel, rfl⟩
theorem qX12_apart_166 : Dc mX12_apart 166 (.iinc 4 1) 3 169 := ⟨by decide +kernel, rfl⟩
theorem qX12_apart_169 : Dc mX12_apart 169 (.goto (-114)) 3 172 := ⟨by decide +kernel, rfl⟩
theorem qX12_apart_172 : Dc mX12_apart 172 (.iconst (-1)) 1 173 := ⟨by decide +kernel, rfl⟩
theorem qX12_apart_173 : Dc mX12_apart 173 (.ireturn) 1 174 := ⟨by decide +kernel, rfl⟩

set_option maxRecDepth 20000 in
set_option maxHeartbeats 4000000 in
theorem w_X12_apart_L32 {N : Nat} {c5 : Int32} {c6 : Int32} {c7 : Int32} {k10 : St → Option (Int32 × St)} {r : Int32} {sr : St}  (hk10 : ∀ (s11 : St), k10 s11 = some (r, sr) → E mX12_apart 3 (some (.int r), sr) 52 [some (.ref 206), some (.int c5), some (.int c6), some (.int c7), none, none, none, none] [] s11) : ∀ (n12 : Nat) (v8 : Int32) (s9 : St), f_X12_apart_L32 N c5 c6 c7 k10 n12 v8 s9 = some (r, sr) → E mX12_apart 3 (some (.int r), sr) 32 [some (.ref 206), some (.int c5), some (.int c6), some (.int c7), some (.int v8), none, none, none] [] s9 := by
  intro n12
  induction n12 with
  | zero =>
    intro v8 s9 h
    rw [f_X12_apart_L32] at h; cases h
  | succ n12 ih13 =>
    intro v8 s9 h
    rw [f_X12_apart_L32] at h
    refine e_iload qX12_apart_32 rfl ?_
    refine e_iload_n qX12_apart_34 rfl ?_
    refine e_icmp_ge (tgt := 52) qX12_apart_35 rfl h (fun _ h => ?_) (fun _ h => ?_)
    · exact e_weak (hk10 _ h) ⟨Or.inr rfl, Or.inr rfl, Or.inr rfl, Or.inr rfl, Or.inl rfl, Or.inl rfl, Or.inl rfl, Or.inl rfl, trivial⟩
    refine e_aload_n qX12_apart_38 rfl ?_
    refine e_getr 216 qX12_apart_39 fl_X12_59 shq_206 kdq_11_28 rrq_206_28 ?_
    refine e_iload qX12_apart_42 rfl ?_
    refine e_iconst (nI 1) qX12_apart_44 rfl ?_
    refine e_zast qX12_apart_45 shq_216 lnq_216 h (fun s14 h => ?_)
    refine vl_e h (fun h => ?_)
    obtain ⟨v15, ev15⟩ : ∃ y, v8 + (nI 1) = y := ⟨_, rfl⟩
    rw [ev15] at h
    refine e_iinc (nI 1) v15 (lv2 := [some (.ref 206), some (.int c5), some (.int c6), some (.int c7), some (.int v15), none, none, none]) qX12_apart_46 rfl rfl rfl ev15 rfl ?_
    refine e_goto (tgt := 32) qX12_apart_49 rfl ?_
    exact e_weak (ih13 _ _ h) ⟨Or.inr rfl, Or.inr rfl, Or.inr rfl, Or.inr rfl, Or.inr rfl, Or.inl rfl, Or.inl rfl, Or.inl rfl, trivial⟩

set_option maxRecDepth 20000 in
set_option maxHeartbeats 4000000 in
theorem w_X12_apart_L85 {N : Nat} {c26 : Int32} {c27 : Int32} {c28 : Int32} {c29 : Int32} {c30 : Int32} {k34 : Int32 → St → Option (Int32 × St)} {r : Int32} {sr : St}  (hk34 : ∀ (v35 : Int32) (s36 : St), k34 v35 s36 = some (r, sr) → E mX12_apart 3 (some (.int r), sr) 158 [some (.ref 206), some (.int c26), some (.int c27), some (.int c28), some (.int c29), none, some (.int v35), none] [] s36) : ∀ (n37 : Nat) (v31 : Int32) (v32 : Int32) (s33 : St), f_X12_apart_L85 N c26 c27 c28 c29 c30 k34 n37 v31 v32 s33 = some (r, sr) → E mX12_apart 3 (some (.int r), sr) 85 [some (.ref 206), some (.int c26), some (.int c27), some (.int c28), some (.int c29), some (.int c30), some (.int v31), some (.int v32)] [] s33 := by
  intro n37
  induction n37 with
  | zero =>
    intro v31 v32 s33 h
    rw [f_X12_apart_L85] at h; cases h
  | succ n37 ih38 =>
    intro v31 v32 s33 h
    rw [f_X12_apart_L85] at h
    refine e_iload qX12_apart_85 rfl ?_
    refine e_iload_n qX12_apart_87 rfl ?_
    refine e_icmp_ge (tgt := 158) qX12_apart_88 rfl h (fun _ h => ?_) (fun _ h => ?_)
    · exact e_weak (hk34 _ _ h) ⟨Or.inr rfl, Or.inr rfl, Or.inr rfl, Or.inr rfl, Or.inr rfl, Or.inl rfl, Or.inr rfl, Or.inl rfl, trivial⟩
    refine e_aload_n qX12_apart_91 rfl ?_
    refine e_getr 216 qX12_apart_92 fl_X12_59 shq_206 kdq_11_28 rrq_206_28 ?_
    refine e_iload qX12_apart_95 rfl ?_
    refine e_aload_n qX12_apart_97 rfl ?_
    refine e_getr 216 qX12_apart_98 fl_X12_59 shq_206 kdq_11_28 rrq_206_28 ?_
    refine e_iload qX12_apart_101 rfl ?_
    refine e_zald qX12_apart_103 shq_216 lnq_216 h (fun v39 h => ?_)
    refine jn_e (fun j => ∀ (v40 : Int32), j v40 = some (r, sr) → E mX12_apart 3 (some (.int r), sr) 129 [some (.ref 206), some (.int c26), some (.int c27), some (.int c28), some (.int c29), some (.int c30), some (.int v31), some (.int v32)] [.int v40, .int v32, .ref 216] s33) h ?_ (fun j41 hj41 h => ?_)
    · intro v40 h
      refine e_zast qX12_apart_129 shq_216 lnq_216 h (fun s42 h => ?_)
      refine e_iload qX12_apart_130 rfl ?_
      refine jn_e (fun j => ∀ (v43 : Int32), j v43 = some (r, sr) → E mX12_apart 3 (some (.int r), sr) 150 [some (.ref 206), some (.int c26), some (.int c27), some (.int c28), some (.int c29), some (.int c30), none, some (.int v32)] [.int v43] s42) h ?_ (fun j44 hj44 h => ?_)
      · intro v43 h
        refine e_istore (lv2 := [some (.ref 206), some (.int c26), some (.int c27), some (.int c28), some (.int c29), some (.int c30), some (.int v43), some (.int v32)]) qX12_apart_150 rfl rfl rfl ?_
        refine vl_e h (fun h => ?_)
        obtain ⟨v45, ev45⟩ : ∃ y, v32 + (nI 1) = y := ⟨_, rfl⟩
        rw [ev45] at h
        refine e_iinc (nI 1) v45 (lv2 := [some (.ref 206), some (.int c26), some (.int c27), some (.int c28), some (.int c29), some (.int c30), some (.int v43), some (.int v45)]) qX12_apart_152 rfl rfl rfl ev45 rfl ?_
        refine e_goto (tgt := 85) qX12_apart_155 rfl ?_
        exact e_weak (ih38 _ _ _ h) ⟨Or.inr rfl, Or.inr rfl, Or.inr rfl, Or.inr rfl, Or.inr rfl, Or.inr rfl, Or.inr rfl, Or.inr rfl, trivial⟩
      refine jn_e (fun j => j = some (r, sr) → E mX12_apart 3 (some (.int r), sr) 145 [some (.ref 206), some (.int c26), some (.int c27), some (.int c28), some (.int c29), some (.int c30), none, some (.int v32)] [] s42) h ?_ (fun j46 hj46 h => ?_)
      · intro h
        refine e_iconst (nI 1) qX12_apart_145 rfl ?_
        refine e_goto (tgt := 150) qX12_apart_146 rfl ?_
        exact e_weak (hj44 _ h) ⟨Or.inr rfl, Or.inr rfl, Or.inr rfl, Or.inr rfl, Or.inr rfl, Or.inr rfl, Or.inl rfl, Or.inr rfl, trivial⟩
      refine e_if_ne (tgt := 145) qX12_apart_132 rfl h (fun _ h => ?_) (fun _ h => ?_)
      · refine e_aload_n qX12_apart_135 rfl ?_
        refine e_getr 216 qX12_apart_136 fl_X12_59 shq_206 kdq_11_28 rrq_206_28 ?_
        refine e_iload qX12_apart_139 rfl ?_
        refine e_zald qX12_apart_141 shq_216 lnq_216 h (fun v47 h => ?_)
        refine e_if_eq (tgt := 149) qX12_apart_142 rfl h (fun _ h => ?_) (fun _ h => ?_)
        · refine e_iconst (nI 0) qX12_apart_149 rfl ?_
          exact e_weak (hj44 _ h) ⟨Or.inr rfl, Or.inr rfl, Or.inr rfl, Or.inr rfl, Or.inr rfl, Or.inr rfl, Or.inl rfl, Or.inr rfl, trivial⟩
        exact e_weak (hj46 h) ⟨Or.inr rfl, Or.inr rfl, Or.inr rfl, Or.inr rfl, Or.inr rfl, Or.inr rfl, Or.inl rfl, Or.inr rfl, trivial⟩
      exact e_weak (hj46 h) ⟨Or.inr rfl, Or.inr rfl, Or.inr rfl, Or.inr rfl, Or.inr rfl, Or.inr rfl, Or.inl rfl, Or.inr rfl, trivial⟩
    refine jn_e (fun j => j = some (r, sr) → E mX12_apart 3 (some (.int r), sr) 128 [some (.ref 206), some (.int c26), some (.int c27), some (.int c28), some (.int c29), some (.int c30), some (.int v31), some (.int v32)] [.int v32, .ref 216] s33) h ?_ (fun j48 hj48 h => ?_)
    · intro h
      refine e_iconst (nI 0) qX12_apart_128 rfl ?_
      exact e_weak (hj41 _ h) ⟨Or.inr rfl, Or.inr rfl, Or.inr rfl, Or.inr rfl, Or.inr rfl, Or.inr rfl, Or.inr rfl, Or.inr rfl, trivial⟩
    refine e_if_eq (tgt := 128) qX12_apart_104 rfl h (fun _ h => ?_) (fun _ h => ?_)
    · exact e_weak (hj48 h) ⟨Or.inr rfl, Or.inr rfl, Or.inr rfl, Or.inr rfl, Or.inr rfl, Or.inr rfl, Or.inr rfl, Or.inr rfl, trivial⟩
    refine e_aload_n qX12_apart_107 rfl ?_
    refine e_iload_n qX12_apart_108 rfl ?_
    refine e_iload qX12_apart_109 rfl ?_
    refine e_iload qX12_apart_111 rfl ?_
    refine e_iadd qX12_apart_113 ?_
    refine e_iconst (nI 1) qX12_apart_114 rfl ?_
    refine e_isub qX12_apart_115 ?_
    obtain ⟨v49, hc, h⟩ := bp_e h
    refine e_cVi2 qX12_apart_116 mv_X12_356 shq_206 rfl rfl (w_X12_showsAt hc) ?_
    refine e_iload qX12_apart_119 rfl ?_
    refine e_icmp_ne (tgt := 128) qX12_apart_121 rfl h (fun _ h => ?_) (fun _ h => ?_)
    · refine e_iconst (nI 1) qX12_apart_124 rfl ?_
      refine e_goto (tgt := 129) qX12_apart_125 rfl ?_
      exact e_weak (hj41 _ h) ⟨Or.inr rfl, Or.inr rfl, Or.inr rfl, Or.inr rfl, Or.inr rfl, Or.inr rfl, Or.inr rfl, Or.inr rfl, trivial⟩
    exact e_weak (hj48 h) ⟨Or.inr rfl, Or.inr rfl, Or.inr rfl, Or.inr rfl, Or.inr rfl, Or.inr rfl, Or.inr rfl, Or.inr rfl, trivial⟩

set_option maxRecDepth 20000 in
set_option maxHeartbeats 4000000 in
theorem w_X12_apart_L55 {N : Nat} {c17 : Int32} {c18 : Int32} {c19 : Int32}  {r : Int32} {sr : St}   : ∀ (n22 : Nat) (v20 : Int32) (s21 : St), f_X12_apart_L55 N c17 c18 c19 n22 v20 s21 = some (r, sr) → E mX12_apart 3 (some (.int r), sr) 55 [some (.ref 206), some (.int c17), some (.int c18), some (.int c19), some (.int v20), none, none, none] [] s21 := by
  intro n22
  induction n22 with
  | zero =>
    intro v20 s21 h
    rw [f_X12_apart_L55] at h; cases h
  | succ n22 ih23 =>
    intro v20 s21 h
    rw [f_X12_apart_L55] at h
    refine e_iload qX12_apart_55 rfl ?_
    refine e_sipush (nI 400) qX12_apart_57 rfl ?_
    refine e_icmp_gt (tgt := 172) qX12_apart_60 rfl h (fun _ h => ?_) (fun _ h => ?_)
    · refine e_iconst (-1) qX12_apart_172 rfl ?_
      exact e_iret qX12_apart_173 rfl (ret_i h)
    refine e_aload_n qX12_apart_63 rfl ?_
    refine e_iload_n qX12_apart_64 rfl ?_
    refine e_aload_n qX12_apart_65 rfl ?_
    refine e_iload_n qX12_apart_66 rfl ?_
    refine e_iload qX12_apart_67 rfl ?_
    refine e_iconst (nI 1) qX12_apart_69 rfl ?_
    refine e_isub qX12_apart_70 ?_
    obtain ⟨v24, hc, h⟩ := bp_e h
    refine e_cVi2 qX12_apart_71 mv_X12_268 shq_206 rfl rfl (w_X12_placeIn hc) ?_
    obtain ⟨v25, hc, h⟩ := bp_e h
    refine e_cVi2 qX12_apart_74 mv_X12_356 shq_206 rfl rfl (w_X12_showsAt hc) ?_
    refine e_istore (lv2 := [some (.ref 206), some (.int c17), some (.int c18), some (.int c19), some (.int v20), some (.int v25), none, none]) qX12_apart_77 rfl rfl rfl ?_
    refine e_iconst (nI 0) qX12_apart_79 rfl ?_
    refine e_istore (lv2 := [some (.ref 206), some (.int c17), some (.int c18), some (.int c19), some (.int v20), some (.int v25), some (.int (nI 0)), none]) qX12_apart_80 rfl rfl rfl ?_
    refine e_iconst (nI 0) qX12_apart_82 rfl ?_
    refine e_istore (lv2 := [some (.ref 206), some (.int c17), some (.int c18), some (.int c19), some (.int v20), some (.int v25), some (.int (nI 0)), some (.int (nI 0))]) qX12_apart_83 rfl rfl rfl ?_
    refine e_weak (w_X12_apart_L85 (fun v50 s51 h => ?_) _ _ _ _ h) ⟨Or.inr rfl, Or.inr rfl, Or.inr rfl, Or.inr rfl, Or.inr rfl, Or.inr rfl, Or.inr rfl, Or.inr rfl, trivial⟩
    refine e_iload qX12_apart_158 rfl ?_
    refine e_if_ne (tgt := 166) qX12_apart_160 rfl h (fun _ h => ?_) (fun _ h => ?_)
    · refine e_iload qX12_apart_163 rfl ?_
      exact e_iret qX12_apart_165 rfl (ret_i h)
    refine vl_e h (fun h => ?_)
    obtain ⟨v52, ev52⟩ : ∃ y, v20 + (nI 1) = y := ⟨_, rfl⟩
    rw [ev52] at h
    refine e_iinc (nI 1) v52 (lv2 := [some (.ref 206), some (.int c17), some (.int c18), some (.int c19), some (.int v52), none, some (.int v50), none]) qX12_apart_166 rfl rfl rfl ev52 rfl ?_
    refine e_goto (tgt := 55) qX12_apart_169 rfl ?_
    exact e_weak (ih23 _ _ h) ⟨Or.inr rfl, Or.inr rfl, Or.inr rfl, Or.inr rfl, Or.inr rfl, Or.inl rfl, Or.inl rfl, Or.inl rfl, trivial⟩

set_option maxRecDepth 20000 in
set_option maxHeartbeats 4000000 in
theorem w_X12_apart {N : Nat} {x1 : Int32} {x2 : Int32} {s0 : St} {r : Int32} {sr : St} (h : f_X12_apart N x1 x2 s0 = some (r, sr)) : Ct mX12_apart 3 [.ref 206, .int x1, .int x2] s0 (some (.int r), sr) := by
  refine Ct.ofE (by decide +kernel) rfl ?_
  show E mX12_apart 3 (some (.int r), sr) 0 [some (.ref 206), some (.int x1), some (.int x2), none, none, none, none, none] [] s0
  unfold f_X12_apart at h
  refine e_aload_n qX12_apart_0 rfl ?_
  refine e_iconst (nI 0) qX12_apart_1 rfl ?_
  refine e_puti qX12_apart_2 fp_X12_1 shq_206 kdq_11_0 h (fun s1 h => ?_)
  refine e_aload_n qX12_apart_5 rfl ?_
  refine e_iload_n qX12_apart_6 rfl ?_
  obtain ⟨v2, hc, h⟩ := bp_e h
  refine e_cVi1 qX12_apart_7 mv_X12_294 shq_206 rfl rfl (w_X12_isLight hc) ?_
  refine e_if_eq (tgt := 21) qX12_apart_10 rfl h (fun _ h => ?_) (fun _ h => ?_)
  · refine e_iconst (-1) qX12_apart_21 rfl ?_
    exact e_iret qX12_apart_22 rfl (ret_i h)
  refine e_aload_n qX12_apart_13 rfl ?_
  refine e_iload_n qX12_apart_14 rfl ?_
  obtain ⟨v3, hc, h⟩ := bp_e h
  refine e_cVi1 qX12_apart_15 mv_X12_294 shq_206 rfl rfl (w_X12_isLight hc) ?_
  refine e_if_ne (tgt := 23) qX12_apart_18 rfl h (fun _ h => ?_) (fun _ h => ?_)
  · refine e_iconst (-1) qX12_apart_21 rfl ?_
    exact e_iret qX12_apart_22 rfl (ret_i h)
  refine e_aload_n qX12_apart_23 rfl ?_
  refine e_iload_n qX12_apart_24 rfl ?_
  obtain ⟨v4, hc, h⟩ := bp_e h
  refine e_cVi1 qX12_apart_25 mv_X12_261 shq_206 rfl rfl (w_X12_periodOf hc) ?_
  refine e_istore_n (lv2 := [some (.ref 206), some (.int x1), some (.int x2), some (.int v4), none, none, none, none]) qX12_apart_28 rfl rfl rfl ?_
  refine e_iconst (nI 0) qX12_apart_29 rfl ?_
  refine e_istore (lv2 := [some (.ref 206), some (.int x1), some (.int x2), some (.int v4), some (.int (nI 0)), none, none, none]) qX12_apart_30 rfl rfl rfl ?_
  refine e_weak (w_X12_apart_L32 (fun s16 h => ?_) _ _ _ h) ⟨Or.inr rfl, Or.inr rfl, Or.inr rfl, Or.inr rfl, Or.inr rfl, Or.inl rfl, Or.inl rfl, Or.inl rfl, trivial⟩
  refine e_iconst (nI 1) qX12_apart_52 rfl ?_
  refine e_istore (lv2 := [some (.ref 206), some (.int x1), some (.int x2), some (.int v4), some (.int (nI 1)), none, none, none]) qX12_apart_53 rfl rfl rfl ?_
  exact e_weak (w_X12_apart_L55  _ _ _ h) ⟨Or.inr rfl, Or.inr rfl, Or.inr rfl, Or.inr rfl, Or.inr rfl, Or.inl rfl, Or.inl rfl, Or.inl rfl, trivial⟩

def f_X12_both_L25 (N : Nat) (c4 : Int32) (c5 : Int32) (s7 : St) : Nat → Int32 → Option (Int32 × St)
  | 0, _ => none
  | n8 + 1, v6 =>
    if (nI 25600) ≤ v6 then
      some ((-1), s7)
    else
    bp (f_X12_placeIn N c4 v6 s7) fun v10 =>
    bp (f_X12_isOn N c4 v10 s7) fun v11 =>
    jn (vl (v6 + (nI 1)) fun v13 =>
      f_X12_both_L25 N c4 c5 s7 n8 v13) fun j12 =>
    if v11 = 0 then
      j12
    else
    bp (f_X12_placeIn N c5 v6 s7) fun v14 =>
    bp (f_X12_isOn N c5 v14 s7) fun v15 =>
    if v15 = 0 then
      j12
    else
    some (v6, s7)

def f_X12_both (N : Nat) (x1 : Int32) (x2 : Int32) (s0 : St) : Option (Int32 × St) :=
  vl (sI s0 206 0 (nI 0)) fun s1 =>
  bp (f_X12_isLight x1 s1) fun v2 =>
  if v2 = 0 then
    some ((-1), s1)
  else
  bp (f_X12_isLight x2 s1) fun v3 =>
  if v3 = 0 then
    some ((-1), s1)
  else
  f_X12_both_L25 N x1 x2 s1 N (nI 0)

theorem qX12_both_0 : Dc mX12_both 0 (.aload_n 0) 1 1 := ⟨by decide +kernel, rfl⟩
theorem qX12_both_1 : Dc mX12_both 1 (.iconst 0) 1 2 := ⟨by decide +kernel, rfl⟩
theorem qX12_both_2 : Dc mX12_both 2 (.putfield 1) 3 5 := ⟨by decide +kernel, rfl⟩
theorem qX12_both_5 : Dc mX12_both 5 (.aload_n 0) 1 6 := ⟨by decide +kernel, rfl⟩
theorem qX12_both_6 : Dc mX12_both 6 (.iload_n 1) 1 7 := ⟨by decide +kernel, rfl⟩
theorem qX12_both_7 : Dc mX12_both 7 (.invokevirtual 294) 3 10 := ⟨by decide +kernel, rfl⟩
theorem qX12_both_10 : Dc mX12_both 10 (.ifCond .eq 11) 3 13 := ⟨by decide +kernel, rfl⟩
theorem qX12_both_13 : Dc mX12_both 13 (.aload_n 0) 1 14 := ⟨by decide +kernel, rfl⟩
theorem qX12_both_14 : Dc mX12_both 14 (.iload_n 2) 1 15 := ⟨by decide +kernel, rfl⟩
theorem qX12_both_15 : Dc mX12_both 15 (.invokevirtual 294) 3 18 := ⟨by decide +kernel, rfl⟩
theorem qX12_both_18 : Dc mX12_both 18 (.ifCond .ne 5) 3 21 := ⟨by decide +kernel, rfl⟩
theorem qX12_both_21 : Dc mX12_both 21 (.iconst (-1)) 1 22 := ⟨by decide +kernel, rfl⟩
theorem qX12_both_22 : Dc mX12_both 22 (.ireturn) 1 23 := ⟨by decide +kernel, rfl⟩
theorem qX12_both_23 : Dc mX12_both 23 (.iconst 0) 1 24 := ⟨by decide +kernel, rfl⟩
theorem qX12_both_24 : Dc mX12_both 24 (.istore_n 3) 1 25 := ⟨by decide +kernel, rfl⟩
theorem qX12_both_25 : Dc mX12_both 25 (.iload_n 3) 1 26 := ⟨by decide +kernel, rfl⟩
theorem qX12_both_26 : Dc mX12_both 26 (.sipush 25600) 3 29 := ⟨by decide +kernel, rfl⟩
theorem qX12_both_29 : Dc mX12_both 29 (.if_icmp .ge 39) 3 32 := ⟨by decide +kernel, rfl⟩
theorem qX12_both_32 : Dc mX12_both 32 (.aload_n 0) 1 33 := ⟨by decide +kernel, rfl⟩
theorem qX12_both_33 : Dc mX12_both 33 (.iload_n 1) 1 34 := ⟨by decide +kernel, rfl⟩
theorem qX12_both_34 : Dc mX12_both 34 (.aload_n 0) 1 35 := ⟨by decide +kernel, rfl⟩
theorem qX12_both_35 : Dc mX12_both 35 (.iload_n 1) 1 36 := ⟨by decide +kernel, rfl⟩
theorem qX12_both_36 : Dc mX12_both 36 (.iload_n 3) 1 37 := ⟨by decide +kernel, rfl⟩
theorem qX12_both_37 : Dc mX12_both 37 (.invokevirtual 268) 3 40 := ⟨by decide +kernel, rfl⟩
theorem qX12_both_40 : Dc mX12_both 40 (.invokevirtual 265) 3 43 := ⟨by decide +kernel, rfl⟩
theorem qX12_both_43 : Dc mX12_both 43 (.ifCond .eq 19) 3 46 := ⟨by decide +kernel, rfl⟩
theorem qX12_both_46 : Dc mX12_both 46 (.aload_n 0) 1 47 := ⟨by decide +kernel, rfl⟩
theorem qX12_both_47 : Dc mX12_both 47 (.iload_n 2) 1 48 := ⟨by decide +kernel, rfl⟩
theorem qX12_both_48 : Dc mX12_both 48 (.aload_n 0) 1 49 := ⟨by decide +kernel, rfl⟩
theorem qX12_both_49 : Dc mX12_both 49 (.iload_n 2) 1 50 := ⟨by decide +kernel, rfl⟩
theorem qX12_both_50 : Dc mX12_both 50 (.iload_n 3) 1 51 := ⟨by decide +kernel, rfl⟩
theorem qX12_both_51 : Dc mX12_both 51 (.invokevirtual 268) 3 54 := ⟨by decide +kernel, rfl⟩
theorem qX12_both_54 : Dc mX12_both 54 (.invokevirtual 265) 3 57 := ⟨by decide +kernel, rfl⟩
theorem qX12_both_57 : Dc mX12_both 57 (.ifCond .eq 5) 3 60 := ⟨by decide +kernel, rfl⟩
theorem qX12_both_60 : Dc mX12_both 60 (.iload_n 3) 1 61 := ⟨by decide +kernel, rfl⟩
theorem qX12_both_61 : Dc mX12_both 61 (.ireturn) 1 62 := ⟨by decide +kernel, rfl⟩
theorem qX12_both_62 : Dc mX12_both 62 (.iinc 3 1) 3 65 := ⟨by decide +kernel, rfl⟩
theorem qX12_both_65 : Dc mX12_both 65 (.goto (-40)) 3 68 := ⟨by decide +kernel, rfl⟩
theorem qX12_both_68 : Dc mX12_both 68 (.iconst (-1)) 1 69 := ⟨by decide +kernel, rfl⟩
theorem qX12_both_69 : Dc mX12_both 69 (.ireturn) 1 70 := ⟨by decide +kernel, rfl⟩

set_option maxRecDepth 20000 in
set_option maxHeartbeats 4000000 in
theorem w_X12_both_L25 {N : Nat} {c4 : Int32} {c5 : Int32} {s7 : St}  {r : Int32} {sr : St}   : ∀ (n8 : Nat) (v6 : Int32), f_X12_both_L25 N c4 c5 s7 n8 v6 = some (r, sr) → E mX12_both 2 (some (.int r), sr) 25 [some (.ref 206), some (.int c4), some (.int c5), some (.int v6)] [] s7 := by
  intro n8
  induction n8 with
  | zero =>
    intro v6 h
    rw [f_X12_both_L25] at h; cases h
  | succ n8 ih9 =>
    intro v6 h
    rw [f_X12_both_L25] at h
    refine e_iload_n qX12_both_25 rfl ?_
    refine e_sipush (nI 25600) qX12_both_26 rfl ?_
    refine e_icmp_ge (tgt := 68) qX12_both_29 rfl h (fun _ h => ?_) (fun _ h => ?_)
    · refine e_iconst (-1) qX12_both_68 rfl ?_
      exact e_iret qX12_both_69 rfl (ret_i h)
    refine e_aload_n qX12_both_32 rfl ?_
    refine e_iload_n qX12_both_33 rfl ?_
    refine e_aload_n qX12_both_34 rfl ?_
    refine e_iload_n qX12_both_35 rfl ?_
    refine e_iload_n qX12_both_36 rfl ?_
    obtain ⟨v10, hc, h⟩ := bp_e h
    refine e_cVi2 qX12_both_37 mv_X12_268 shq_206 rfl rfl (w_X12_placeIn hc) ?_
    obtain ⟨v11, hc, h⟩ := bp_e h
    refine e_cVi2 qX12_both_40 mv_X12_265 shq_206 rfl rfl (w_X12_isOn hc) ?_
    refine jn_e (fun j => j = some (r, sr) → E mX12_both 2 (some (.int r), sr) 62 [some (.ref 206), some (.int c4), some (.int c5), some (.int v6)] [] s7) h ?_ (fun j12 hj12 h => ?_)
    · intro h
      refine vl_e h (fun h => ?_)
      obtain ⟨v13, ev13⟩ : ∃ y, v6 + (nI 1) = y := ⟨_, rfl⟩
      rw [ev13] at h
      refine e_iinc (nI 1) v13 (lv2 := [some (.ref 206), some (.int c4), some (.int c5), some (.int v13)]) qX12_both_62 rfl rfl rfl ev13 rfl ?_
      refine e_goto (tgt := 25) qX12_both_65 rfl ?_
      exact e_weak (ih9 _ h) ⟨Or.inr rfl, Or.inr rfl, Or.inr rfl, Or.inr rfl, trivial⟩
    refine e_if_eq (tgt := 62) qX12_both_43 rfl h (fun _ h => ?_) (fun _ h => ?_)
    · exact e_weak (hj12 h) ⟨Or.inr rfl, Or.inr rfl, Or.inr rfl, Or.inr rfl, trivial⟩
    refine e_aload_n qX12_both_46 rfl ?_
    refine e_iload_n qX12_both_47 rfl ?_
    refine e_aload_n qX12_both_48 rfl ?_
    refine e_iload_n qX12_both_49 rfl ?_
    refine e_iload_n qX12_both_50 rfl ?_
    obtain ⟨v14, hc, h⟩ := bp_e h
    refine e_cVi2 qX12_both_51 mv_X12_268 shq_206 rfl rfl (w_X12_placeIn hc) ?_
    obtain ⟨v15, hc, h⟩ := bp_e h
    refine e_cVi2 qX12_both_54 mv_X12_265 shq_206 rfl rfl (w_X12_isOn hc) ?_
    refine e_if_eq (tgt := 62) qX12_both_57 rfl h (fun _ h => ?_) (fun _ h => ?_)
    · exact e_weak (hj12 h) ⟨Or.inr rfl, Or.inr rfl, Or.inr rfl, Or.inr rfl, trivial⟩
    refine e_iload_n qX12_both_60 rfl ?_
    exact e_iret qX12_both_61 rfl (ret_i h)

set_option maxRecDepth 20000 in
set_option maxHeartbeats 4000000 in
theorem w_X12_both {N : Nat} {x1 : Int32} {x2 : Int32} {s0 : St} {r : Int32} {sr : St} (h : f_X12_both N x1 x2 s0 = some (r, sr)) : Ct mX12_both 2 [.ref 206, .int x1, .int x2] s0 (some (.int r), sr) := by
  refine Ct.ofE (by decide +kernel) rfl ?_
  show E mX12_both 2 (some (.int r), sr) 0 [some (.ref 206), some (.int x1), some (.int x2), none] [] s0
  unfold f_X12_both at h
  refine e_aload_n qX12_both_0 rfl ?_
  refine e_iconst (nI 0) qX12_both_1 rfl ?_
  refine e_puti qX12_both_2 fp_X12_1 shq_206 kdq_11_0 h (fun s1 h => ?_)
  refine e_aload_n qX12_both_5 rfl ?_
  refine e_iload_n qX12_both_6 rfl ?_
  obtain ⟨v2, hc, h⟩ := bp_e h
  refine e_cVi1 qX12_both_7 mv_X12_294 shq_206 rfl rfl (w_X12_isLight hc) ?_
  refine e_if_eq (tgt := 21) qX12_both_10 rfl h (fun _ h => ?_) (fun _ h => ?_)
  · refine e_iconst (-1) qX12_both_21 rfl ?_
    exact e_iret qX12_both_22 rfl (ret_i h)
  refine e_aload_n qX12_both_13 rfl ?_
  refine e_iload_n qX12_both_14 rfl ?_
  obtain ⟨v3, hc, h⟩ := bp_e h
  refine e_cVi1 qX12_both_15 mv_X12_294 shq_206 rfl rfl (w_X12_isLight hc) ?_
  refine e_if_ne (tgt := 23) qX12_both_18 rfl h (fun _ h => ?_) (fun _ h => ?_)
  · refine e_iconst (-1) qX12_both_21 rfl ?_
    exact e_iret qX12_both_22 rfl (ret_i h)
  refine e_iconst (nI 0) qX12_both_23 rfl ?_
  refine e_istore_n (lv2 := [some (.ref 206), some (.int x1), some (.int x2), some (.int (nI 0))]) qX12_both_24 rfl rfl rfl ?_
  exact e_weak (w_X12_both_L25  _ _ h) ⟨Or.inr rfl, Or.inr rfl, Or.inr rfl, Or.inr rfl, trivial⟩

def f_X12_fitOf_L16 (N : Nat) (c6 : Int32) (c7 : Int32) (s0 : St) (k10 : Int32 → Option (Int32)) : Nat → Int32 → Int32 → Option (Int32)
  | 0, _, _ => none
  | n12 + 1, v8, v9 =>
    vl (s0.1 206 3) fun v14 =>
    if v14 ≤ v9 then
      k10 v8
    else
    if v8 = 0 then
      k10 v8
    else
    bp (f_X12_showsAt N c6 (c7 + v9) s0) fun v15 =>
    bp (f_X12_octet v9 s0) fun v16 =>
    jn (fun (v17 : Int32) =>
      vl (v9 + (nI 1)) fun v19 =>
      f_X12_fitOf_L16 N c6 c7 s0 k10 n12 v17 v19) fun j18 =>
    if v15 = v16 then
      j18 (nI 1)
    else
    j18 (nI 0)

def f_X12_fitOf_L2 (N : Nat) (c1 : Int32) (s0 : St) : Nat → Int32 → Option (Int32)
  | 0, _ => none
  | n3 + 1, v2 =>
    bp (f_X12_periodOf N c1 s0) fun v5 =>
    if v5 ≤ v2 then
      some (-1)
    else
    f_X12_fitOf_L16 N c1 v2 s0 (fun (v20 : Int32) =>
      if v20 = 0 then
        vl (v2 + (nI 1)) fun v21 =>
        f_X12_fitOf_L2 N c1 s0 n3 v21
      else
      some v2) N (nI 1) (nI 0)

def f_X12_fitOf (N : Nat) (x1 : Int32) (s0 : St) : Option (Int32) :=
  f_X12_fitOf_L2 N x1 s0 N (nI 0)

theorem qX12_fitOf_0 : Dc mX12_fitOf 0 (.iconst 0) 1 1 := ⟨by decide +kernel, rfl⟩
theorem qX12_fitOf_1 : Dc mX12_fitOf 1 (.istore_n 2) 1 2 := ⟨by decide +kernel, rfl⟩
theorem qX12_fitOf_2 : Dc mX12_fitOf 2 (.iload_n 2) 1 3 := ⟨by decide +kernel, rfl⟩
theorem qX12_fitOf_3 : Dc mX12_fitOf 3 (.aload_n 0) 1 4 := ⟨by decide +kernel, rfl⟩
theorem qX12_fitOf_4 : Dc mX12_fitOf 4 (.iload_n 1) 1 5 := ⟨by decide +kernel, rfl⟩
theorem qX12_fitOf_5 : Dc mX12_fitOf 5 (.invokevirtual 261) 3 8 := ⟨by decide +kernel, rfl⟩
theorem qX12_fitOf_8 : Dc mX12_fitOf 8 (.if_icmp .ge 63) 3 11 := ⟨by decide +kernel, rfl⟩
theorem qX12_fitOf_11 : Dc mX12_fitOf 11 (.iconst 1) 1 12 := ⟨by decide +kernel, rfl⟩
theorem qX12_fitOf_12 : Dc mX12_fitOf 12 (.istore_n 3) 1 13 := ⟨by decide +kernel, rfl⟩
theorem qX12_fitOf_13 : Dc mX12_fitOf 13 (.iconst 0) 1 14 := ⟨by decide +kernel, rfl⟩
theorem qX12_fitOf_14 : Dc mX12_fitOf 14 (.istore 4) 2 16 := ⟨by decide +kernel, rfl⟩
theorem qX12_fitOf_16 : Dc mX12_fitOf 16 (.iload 4) 2 18 := ⟨by decide +kernel, rfl⟩
theorem qX12_fitOf_18 : Dc mX12_fitOf 18 (.aload_n 0) 1 19 := ⟨by decide +kernel, rfl⟩
theorem qX12_fitOf_19 : Dc mX12_fitOf 19 (.getfield 18) 3 22 := ⟨by decide +kernel, rfl⟩
theorem qX12_fitOf_22 : Dc mX12_fitOf 22 (.if_icmp .ge 37) 3 25 := ⟨by decide +kernel, rfl⟩
theorem qX12_fitOf_25 : Dc mX12_fitOf 25 (.iload_n 3) 1 26 := ⟨by decide +kernel, rfl⟩
theorem qX12_fitOf_26 : Dc mX12_fitOf 26 (.ifCond .eq 33) 3 29 := ⟨by decide +kernel, rfl⟩
theorem qX12_fitOf_29 : Dc mX12_fitOf 29 (.aload_n 0) 1 30 := ⟨by decide +kernel, rfl⟩
theorem qX12_fitOf_30 : Dc mX12_fitOf 30 (.iload_n 1) 1 31 := ⟨by decide +kernel, rfl⟩
theorem qX12_fitOf_31 : Dc mX12_fitOf 31 (.iload_n 2) 1 32 := ⟨by decide +kernel, rfl⟩
theorem qX12_fitOf_32 : Dc mX12_fitOf 32 (.iload 4) 2 34 := ⟨by decide +kernel, rfl⟩
theorem qX12_fitOf_34 : Dc mX12_fitOf 34 (.iadd) 1 35 := ⟨by decide +kernel, rfl⟩
theorem qX12_fitOf_35 : Dc mX12_fitOf 35 (.invokevirtual 356) 3 38 := ⟨by decide +kernel, rfl⟩
theorem qX12_fitOf_38 : Dc mX12_fitOf 38 (.aload_n 0) 1 39 := ⟨by decide +kernel, rfl⟩
theorem qX12_fitOf_39 : Dc mX12_fitOf 39 (.iload 4) 2 41 := ⟨by decide +kernel, rfl⟩
theorem qX12_fitOf_41 : Dc mX12_fitOf 41 (.invokevirtual 359) 3 44 := ⟨by decide +kernel, rfl⟩
theorem qX12_fitOf_44 : Dc mX12_fitOf 44 (.if_icmp .ne 7) 3 47 := ⟨by decide +kernel, rfl⟩
theorem qX12_fitOf_47 : Dc mX12_fitOf 47 (.iconst 1) 1 48 := ⟨by decide +kernel, rfl⟩
theorem qX12_fitOf_48 : Dc mX12_fitOf 48 (.goto 4) 3 51 := ⟨by decide +kernel, rfl⟩
theorem qX12_fitOf_51 : Dc mX12_fitOf 51 (.iconst 0) 1 52 := ⟨by decide +kernel, rfl⟩
theorem qX12_fitOf_52 : Dc mX12_fitOf 52 (.istore_n 3) 1 53 := ⟨by decide +kernel, rfl⟩
theorem qX12_fitOf_53 : Dc mX12_fitOf 53 (.iinc 4 1) 3 56 := ⟨by decide +kernel, rfl⟩
theorem qX12_fitOf_56 : Dc mX12_fitOf 56 (.goto (-40)) 3 59 := ⟨by decide +kernel, rfl⟩
theorem qX12_fitOf_59 : Dc mX12_fitOf 59 (.iload_n 3) 1 60 := ⟨by decide +kernel, rfl⟩
theorem qX12_fitOf_60 : Dc mX12_fitOf 60 (.ifCond .eq 5) 3 63 := ⟨by decide +kernel, rfl⟩
theorem qX12_fitOf_63 : Dc mX12_fitOf 63 (.iload_n 2) 1 64 := ⟨by decide +kernel, rfl⟩
theorem qX12_fitOf_64 : Dc mX12_fitOf 64 (.ireturn) 1 65 := ⟨by decide +kernel, rfl⟩
theorem qX12_fitOf_65 : Dc mX12_fitOf 65 (.iinc 2 1) 3 68 := ⟨by decide +kernel, rfl⟩
theorem qX12_fitOf_68 : Dc mX12_fitOf 68 (.goto (-66)) 3 71 := ⟨by decide +kernel, rfl⟩
theorem qX12_fitOf_71 : Dc mX12_fitOf 71 (.iconst (-1)) 1 72 := ⟨by decide +kernel, rfl⟩
theorem qX12_fitOf_72 : Dc mX12_fitOf 72 (.ireturn) 1 73 := ⟨by decide +kernel, rfl⟩

set_option maxRecDepth 20000 in
set_option maxHeartbeats 4000000 in
theorem w_X12_fitOf_L16 {N : Nat} {c6 : Int32} {c7 : Int32} {s0 : St} {k10 : Int32 → Option (Int32)} {r : Int32}  (hk10 : ∀ (v11 : Int32), k10 v11 = some r → E mX12_fitOf 3 (some (.int r), s0) 59 [some (.ref 206), some (.int c6), some (.int c7), some (.int v11), none] [] s0) : ∀ (n12 : Nat) (v8 : Int32) (v9 : Int32), f_X12_fitOf_L16 N c6 c7 s0 k10 n12 v8 v9 = some r → E mX12_fitOf 3 (some (.int r), s0) 16 [some (.ref 206), some (.int c6), some (.int c7), some (.int v8), some (.int v9)] [] s0 := by
  intro n12
  induction n12 with
  | zero =>
    intro v8 v9 h
    rw [f_X12_fitOf_L16] at h; cases h
  | succ n12 ih13 =>
    intro v8 v9 h
    rw [f_X12_fitOf_L16] at h
    refine e_iload qX12_fitOf_16 rfl ?_
    refine e_aload_n qX12_fitOf_18 rfl ?_
    refine e_geti qX12_fitOf_19 fl_X12_18 shq_206 kdq_11_3 h (fun v14 h => ?_)
    refine e_icmp_ge (tgt := 59) qX12_fitOf_22 rfl h (fun _ h => ?_) (fun _ h => ?_)
    · exact e_weak (hk10 _ h) ⟨Or.inr rfl, Or.inr rfl, Or.inr rfl, Or.inr rfl, Or.inl rfl, trivial⟩
    refine e_iload_n qX12_fitOf_25 rfl ?_
    refine e_if_eq (tgt := 59) qX12_fitOf_26 rfl h (fun _ h => ?_) (fun _ h => ?_)
    · exact e_weak (hk10 _ h) ⟨Or.inr rfl, Or.inr rfl, Or.inr rfl, Or.inr rfl, Or.inl rfl, trivial⟩
    refine e_aload_n qX12_fitOf_29 rfl ?_
    refine e_iload_n qX12_fitOf_30 rfl ?_
    refine e_iload_n qX12_fitOf_31 rfl ?_
    refine e_iload qX12_fitOf_32 rfl ?_
    refine e_iadd qX12_fitOf_34 ?_
    obtain ⟨v15, hc, h⟩ := bp_e h
    refine e_cVi2 qX12_fitOf_35 mv_X12_356 shq_206 rfl rfl (w_X12_showsAt hc) ?_
    refine e_aload_n qX12_fitOf_38 rfl ?_
    refine e_iload qX12_fitOf_39 rfl ?_
    obtain ⟨v16, hc, h⟩ := bp_e h
    refine e_cVi1 qX12_fitOf_41 mv_X12_359 shq_206 rfl rfl (w_X12_octet hc) ?_
    refine jn_e (fun j => ∀ (v17 : Int32), j v17 = some r → E mX12_fitOf 3 (some (.int r), s0) 52 [some (.ref 206), some (.int c6), some (.int c7), none, some (.int v9)] [.int v17] s0) h ?_ (fun j18 hj18 h => ?_)
    · intro v17 h
      refine e_istore_n (lv2 := [some (.ref 206), some (.int c6), some (.int c7), some (.int v17), some (.int v9)]) qX12_fitOf_52 rfl rfl rfl ?_
      refine vl_e h (fun h => ?_)
      obtain ⟨v19, ev19⟩ : ∃ y, v9 + (nI 1) = y := ⟨_, rfl⟩
      rw [ev19] at h
      refine e_iinc (nI 1) v19 (lv2 := [some (.ref 206), some (.int c6), some (.int c7), some (.int v17), some (.int v19)]) qX12_fitOf_53 rfl rfl rfl ev19 rfl ?_
      refine e_goto (tgt := 16) qX12_fitOf_56 rfl ?_
      exact e_weak (ih13 _ _ h) ⟨Or.inr rfl, Or.inr rfl, Or.inr rfl, Or.inr rfl, Or.inr rfl, trivial⟩
    refine e_icmp_ne (tgt := 51) qX12_fitOf_44 rfl h (fun _ h => ?_) (fun _ h => ?_)
    · refine e_iconst (nI 1) qX12_fitOf_47 rfl ?_
      refine e_goto (tgt := 52) qX12_fitOf_48 rfl ?_
      exact e_weak (hj18 _ h) ⟨Or.inr rfl, Or.inr rfl, Or.inr rfl, Or.inl rfl, Or.inr rfl, trivial⟩
    refine e_iconst (nI 0) qX12_fitOf_51 rfl ?_
    exact e_weak (hj18 _ h) ⟨Or.inr rfl, Or.inr rfl, Or.inr rfl, Or.inl rfl, Or.inr rfl, trivial⟩

set_option maxRecDepth 20000 in
set_option maxHeartbeats 4000000 in
theorem w_X12_fitOf_L2 {N : Nat} {c1 : Int32} {s0 : St}  {r : Int32}   : ∀ (n3 : Nat) (v2 : Int32), f_X12_fitOf_L2 N c1 s0 n3 v2 = some r → E mX12_fitOf 3 (some (.int r), s0) 2 [some (.ref 206), some (.int c1), some (.int v2), none, none] [] s0 := by
  intro n3
  induction n3 with
  | zero =>
    intro v2 h
    rw [f_X12_fitOf_L2] at h; cases h
  | succ n3 ih4 =>
    intro v2 h
    rw [f_X12_fitOf_L2] at h
    refine e_iload_n qX12_fitOf_2 rfl ?_
    refine e_aload_n qX12_fitOf_3 rfl ?_
    refine e_iload_n qX12_fitOf_4 rfl ?_
    obtain ⟨v5, hc, h⟩ := bp_e h
    refine e_cVi1 qX12_fitOf_5 mv_X12_261 shq_206 rfl rfl (w_X12_periodOf hc) ?_
    refine e_icmp_ge (tgt := 71) qX12_fitOf_8 rfl h (fun _ h => ?_) (fun _ h => ?_)
    · refine e_iconst (-1) qX12_fitOf_71 rfl ?_
      exact e_iret qX12_fitOf_72 rfl (ret_p h)
    refine e_iconst (nI 1) qX12_fitOf_11 rfl ?_
    refine e_istore_n (lv2 := [some (.ref 206), some (.int c1), some (.int v2), some (.int (nI 1)), none]) qX12_fitOf_12 rfl rfl rfl ?_
    refine e_iconst (nI 0) qX12_fitOf_13 rfl ?_
    refine e_istore (lv2 := [some (.ref 206), some (.int c1), some (.int v2), some (.int (nI 1)), some (.int (nI 0))]) qX12_fitOf_14 rfl rfl rfl ?_
    refine e_weak (w_X12_fitOf_L16 (fun v20 h => ?_) _ _ _ h) ⟨Or.inr rfl, Or.inr rfl, Or.inr rfl, Or.inr rfl, Or.inr rfl, trivial⟩
    refine e_iload_n qX12_fitOf_59 rfl ?_
    refine e_if_eq (tgt := 65) qX12_fitOf_60 rfl h (fun _ h => ?_) (fun _ h => ?_)
    · refine vl_e h (fun h => ?_)
      obtain ⟨v21, ev21⟩ : ∃ y, v2 + (nI 1) = y := ⟨_, rfl⟩
      rw [ev21] at h
      refine e_iinc (nI 1) v21 (lv2 := [some (.ref 206), some (.int c1), some (.int v21), some (.int v20), none]) qX12_fitOf_65 rfl rfl rfl ev21 rfl ?_
      refine e_goto (tgt := 2) qX12_fitOf_68 rfl ?_
      exact e_weak (ih4 _ h) ⟨Or.inr rfl, Or.inr rfl, Or.inr rfl, Or.inl rfl, Or.inl rfl, trivial⟩
    refine e_iload_n qX12_fitOf_63 rfl ?_
    exact e_iret qX12_fitOf_64 rfl (ret_p h)

set_option maxRecDepth 20000 in
set_option maxHeartbeats 4000000 in
theorem w_X12_fitOf {N : Nat} {x1 : Int32} {s0 : St} {r : Int32} (h : f_X12_fitOf N x1 s0 = some r) : Ct mX12_fitOf 3 [.ref 206, .int x1] s0 (some (.int r), s0) := by
  refine Ct.ofE (by decide +kernel) rfl ?_
  show E mX12_fitOf 3 (some (.int r), s0) 0 [some (.ref 206), some (.int x1), none, none, none] [] s0
  unfold f_X12_fitOf at h
  refine e_iconst (nI 0) qX12_fitOf_0 rfl ?_
  refine e_istore_n (lv2 := [some (.ref 206), some (.int x1), some (.int (nI 0)), none, none]) qX12_fitOf_1 rfl rfl rfl ?_
  exact e_weak (w_X12_fitOf_L2  _ _ h) ⟨Or.inr rfl, Or.inr rfl, Or.inr rfl, Or.inl rfl, Or.inl rfl, trivial⟩

def f_X12_leftBy_L17 (N : Nat) (c7 : Int32) (c8 : Int32) (c9 : Int32) (c10 : Int32) (s0 : St) (k13 : Int32 → Option (Int32)) : Nat → Int32 → Int32 → Option (Int32)
  | 0, _, _ => none
  | n15 + 1, v11, v12 =>
    ald (s0.1 208) 359 (nI 0) fun v17 =>
    if v17 ≤ v12 then
      k13 v11
    else
    ald (s0.1 217) 8 v12 fun v18 =>
    jn (fun (v19 : Int32) =>
      vl (v11 + v19) fun v21 =>
      vl (v12 + (nI 1)) fun v22 =>
      f_X12_leftBy_L17 N c7 c8 c9 c10 s0 k13 n15 v21 v22) fun j20 =>
    jn (j20 (nI 0)) fun j23 =>
    if v18 < 0 then
      j23
    else
    ald (s0.1 217) 8 v12 fun v24 =>
    bp (f_X12_showsAt N v12 ((v24 + c8) + c7) s0) fun v25 =>
    if v25 = c10 then
      j20 (nI 1)
    else
    j23

def f_X12_leftBy_L5 (N : Nat) (c1 : Int32) (c2 : Int32) (s0 : St) : Nat → Int32 → Int32 → Option (Int32)
  | 0, _, _ => none
  | n5 + 1, v3, v4 =>
    if (nI 4) ≤ v4 then
      some v3
    else
    f_X12_leftBy_L17 N c1 c2 v3 v4 s0 (fun (v26 : Int32) =>
      bp (f_X12_greater v3 v26 s0) fun v27 =>
      vl (v4 + (nI 1)) fun v28 =>
      f_X12_leftBy_L5 N c1 c2 s0 n5 v27 v28) N (nI 0) (nI 0)

def f_X12_leftBy (N : Nat) (x1 : Int32) (x2 : Int32) (s0 : St) : Option (Int32) :=
  f_X12_leftBy_L5 N x1 x2 s0 N (nI 0) (nI 0)

theorem qX12_leftBy_0 : Dc mX12_leftBy 0 (.iconst 0) 1 1 := ⟨by decide +kernel, rfl⟩
theorem qX12_leftBy_1 : Dc mX12_leftBy 1 (.istore_n 3) 1 2 := ⟨by decide +kernel, rfl⟩
theorem qX12_leftBy_2 : Dc mX12_leftBy 2 (.iconst 0) 1 3 := ⟨by decide +kernel, rfl⟩
theorem qX12_leftBy_3 : Dc mX12_leftBy 3 (.istore 4) 2 5 := ⟨by decide +kernel, rfl⟩
theorem qX12_leftBy_5 : Dc mX12_leftBy 5 (.iload 4) 2 7 := ⟨by decide +kernel, rfl⟩
theorem qX12_leftBy_7 : Dc mX12_leftBy 7 (.iconst 4) 1 8 := ⟨by decide +kernel, rfl⟩
theorem qX12_leftBy_8 : Dc mX12_leftBy 8 (.if_icmp .ge 81) 3 11 := ⟨by decide +kernel, rfl⟩
theorem qX12_leftBy_11 : Dc mX12_leftBy 11 (.iconst 0) 1 12 := ⟨by decide +kernel, rfl⟩
theorem qX12_leftBy_12 : Dc mX12_leftBy 12 (.istore 5) 2 14 := ⟨by decide +kernel, rfl⟩
theorem qX12_leftBy_14 : Dc mX12_leftBy 14 (.iconst 0) 1 15 := ⟨by decide +kernel, rfl⟩
theorem qX12_leftBy_15 : Dc mX12_leftBy 15 (.istore 6) 2 17 := ⟨by decide +kernel, rfl⟩
theorem qX12_leftBy_17 : Dc mX12_leftBy 17 (.iload 6) 2 19 := ⟨by decide +kernel, rfl⟩
theorem qX12_leftBy_19 : Dc mX12_leftBy 19 (.aload_n 0) 1 20 := ⟨by decide +kernel, rfl⟩
theorem qX12_leftBy_20 : Dc mX12_leftBy 20 (.getfield 33) 3 23 := ⟨by decide +kernel, rfl⟩
theorem qX12_leftBy_23 : Dc mX12_leftBy 23 (.iconst 0) 1 24 := ⟨by decide +kernel, rfl⟩
theorem qX12_leftBy_24 : Dc mX12_leftBy 24 (.iaload) 1 25 := ⟨by decide +kernel, rfl⟩
theorem qX12_leftBy_25 : Dc mX12_leftBy 25 (.if_icmp .ge 51) 3 28 := ⟨by decide +kernel, rfl⟩
theorem qX12_leftBy_28 : Dc mX12_leftBy 28 (.iload 5) 2 30 := ⟨by decide +kernel, rfl⟩
theorem qX12_leftBy_30 : Dc mX12_leftBy 30 (.aload_n 0) 1 31 := ⟨by decide +kernel, rfl⟩
theorem qX12_leftBy_31 : Dc mX12_leftBy 31 (.getfield 63) 3 34 := ⟨by decide +kernel, rfl⟩
theorem qX12_leftBy_34 : Dc mX12_leftBy 34 (.iload 6) 2 36 := ⟨by decide +kernel, rfl⟩
theorem qX12_leftBy_36 : Dc mX12_leftBy 36 (.iaload) 1 37 := ⟨by decide +kernel, rfl⟩
theorem qX12_leftBy_37 : Dc mX12_leftBy 37 (.ifCond .lt 29) 3 40 := ⟨by decide +kernel, rfl⟩
theorem qX12_leftBy_40 : Dc mX12_leftBy 40 (.aload_n 0) 1 41 := ⟨by decide +kernel, rfl⟩
theorem qX12_leftBy_41 : Dc mX12_leftBy 41 (.iload 6) 2 43 := ⟨by decide +kernel, rfl⟩
theorem qX12_leftBy_43 : Dc mX12_leftBy 43 (.aload_n 0) 1 44 := ⟨by decide +kernel, rfl⟩
theorem qX12_leftBy_44 : Dc mX12_leftBy 44 (.getfield 63) 3 47 := ⟨by decide +kernel, rfl⟩
theorem qX12_leftBy_47 : Dc mX12_leftBy 47 (.iload 6) 2 49 := ⟨by decide +kernel, rfl⟩
theorem qX12_leftBy_49 : Dc mX12_leftBy 49 (.iaload) 1 50 := ⟨by decide +kernel, rfl⟩
theorem qX12_leftBy_50 : Dc mX12_leftBy 50 (.iload_n 2) 1 51 := ⟨by decide +kernel, rfl⟩
theorem qX12_leftBy_51 : Dc mX12_leftBy 51 (.iadd) 1 52 := ⟨by decide +kernel, rfl⟩
theorem qX12_leftBy_52 : Dc mX12_leftBy 52 (.iload_n 1) 1 53 := ⟨by decide +kernel, rfl⟩
theorem qX12_leftBy_53 : Dc mX12_leftBy 53 (.iadd) 1 54 := ⟨by decide +kernel, rfl⟩
theorem qX12_leftBy_54 : Dc mX12_leftBy 54 (.invokevirtual 356) 3 57 := ⟨by decide +kernel, rfl⟩
theorem qX12_leftBy_57 : Dc mX12_leftBy 57 (.iload 4) 2 59 := ⟨by decide +kernel, rfl⟩
theorem qX12_leftBy_59 : Dc mX12_leftBy 59 (.if_icmp .ne 7) 3 62 := ⟨by decide +kernel, rfl⟩
theorem qX12_leftBy_62 : Dc mX12_leftBy 62 (.iconst 1) 1 63 := ⟨by decide +kernel, rfl⟩
theorem qX12_leftBy_63 : Dc mX12_leftBy 63 (.goto 4) 3 66 := ⟨by decide +kernel, rfl⟩
theorem qX12_leftBy_66 : Dc mX12_leftBy 66 (.iconst 0) 1 67 := ⟨by decide +kernel, rfl⟩
theorem qX12_leftBy_67 : Dc mX12_leftBy 67 (.iadd) 1 68 := ⟨by decide +kernel, rfl⟩
theorem qX12_leftBy_68 : Dc mX12_leftBy 68 (.istore 5) 2 70 := ⟨by decide +kernel, rfl⟩
theorem qX12_leftBy_70 : Dc mX12_leftBy 70 (.iinc 6 1) 3 73 := ⟨by decide +kernel, rfl⟩
theorem qX12_leftBy_73 : Dc mX12_leftBy 73 (.goto (-56)) 3 76 := ⟨by decide +kernel, rfl⟩
theorem qX12_leftBy_76 : Dc mX12_leftBy 76 (.iload_n 3) 1 77 := ⟨by decide +kernel, rfl⟩
theorem qX12_leftBy_77 : Dc mX12_leftBy 77 (.iload 5) 2 79 := ⟨by decide +kernel, rfl⟩
theorem qX12_leftBy_79 : Dc mX12_leftBy 79 (.invokestatic 362) 3 82 := ⟨by decide +kernel, rfl⟩
theorem qX12_leftBy_82 : Dc mX12_leftBy 82 (.istore_n 3) 1 83 := ⟨by decide +kernel, rfl⟩
theorem qX12_leftBy_83 : Dc mX12_leftBy 83 (.iinc 4 1) 3 86 := ⟨by decide +kernel, rfl⟩
theorem qX12_leftBy_86 : Dc mX12_leftBy 86 (.goto (-81)) 3 89 := ⟨by decide +kernel, rfl⟩
theorem qX12_leftBy_89 : Dc mX12_leftBy 89 (.iload_n 3) 1 90 := ⟨by decide +kernel, rfl⟩
theorem qX12_leftBy_90 : Dc mX12_leftBy 90 (.ireturn) 1 91 := ⟨by decide +kernel, rfl⟩

set_option maxRecDepth 20000 in
set_option maxHeartbeats 4000000 in
theorem w_X12_leftBy_L17 {N : Nat} {c7 : Int32} {c8 : Int32} {c9 : Int32} {c10 : Int32} {s0 : St} {k13 : Int32 → Option (Int32)} {r : Int32}  (hk13 : ∀ (v14 : Int32), k13 v14 = some r → E mX12_leftBy 3 (some (.int r), s0) 76 [some (.ref 206), some (.int c7), some (.int c8), some (.int c9), some (.int c10), some (.int v14), none] [] s0) : ∀ (n15 : Nat) (v11 : Int32) (v12 : Int32), f_X12_leftBy_L17 N c7 c8 c9 c10 s0 k13 n15 v11 v12 = some r → E mX12_leftBy 3 (some (.int r), s0) 17 [some (.ref 206), some (.int c7), some (.int c8), some (.int c9), some (.int c10), some (.int v11), some (.int v12)] [] s0 := by
  intro n15
  induction n15 with
  | zero =>
    intro v11 v12 h
    rw [f_X12_leftBy_L17] at h; cases h
  | succ n15 ih16 =>
    intro v11 v12 h
    rw [f_X12_leftBy_L17] at h
    refine e_iload qX12_leftBy_17 rfl ?_
    refine e_aload_n qX12_leftBy_19 rfl ?_
    refine e_getr 208 qX12_leftBy_20 fl_X12_33 shq_206 kdq_11_6 rrq_206_6 ?_
    refine e_iconst (nI 0) qX12_leftBy_23 rfl ?_
    refine e_iald qX12_leftBy_24 shq_208 lnq_208 h (fun v17 h => ?_)
    refine e_icmp_ge (tgt := 76) qX12_leftBy_25 rfl h (fun _ h => ?_) (fun _ h => ?_)
    · exact e_weak (hk13 _ h) ⟨Or.inr rfl, Or.inr rfl, Or.inr rfl, Or.inr rfl, Or.inr rfl, Or.inr rfl, Or.inl rfl, trivial⟩
    refine e_iload qX12_leftBy_28 rfl ?_
    refine e_aload_n qX12_leftBy_30 rfl ?_
    refine e_getr 217 qX12_leftBy_31 fl_X12_63 shq_206 kdq_11_29 rrq_206_29 ?_
    refine e_iload qX12_leftBy_34 rfl ?_
    refine e_iald qX12_leftBy_36 shq_217 lnq_217 h (fun v18 h => ?_)
    refine jn_e (fun j => ∀ (v19 : Int32), j v19 = some r → E mX12_leftBy 3 (some (.int r), s0) 67 [some (.ref 206), some (.int c7), some (.int c8), some (.int c9), some (.int c10), none, some (.int v12)] [.int v19, .int v11] s0) h ?_ (fun j20 hj20 h => ?_)
    · intro v19 h
      refine e_iadd qX12_leftBy_67 ?_
      refine vl_e h (fun h => ?_)
      generalize (v11 + v19) = v21 at h ⊢
      refine e_istore (lv2 := [some (.ref 206), some (.int c7), some (.int c8), some (.int c9), some (.int c10), some (.int v21), some (.int v12)]) qX12_leftBy_68 rfl rfl rfl ?_
      refine vl_e h (fun h => ?_)
      obtain ⟨v22, ev22⟩ : ∃ y, v12 + (nI 1) = y := ⟨_, rfl⟩
      rw [ev22] at h
      refine e_iinc (nI 1) v22 (lv2 := [some (.ref 206), some (.int c7), some (.int c8), some (.int c9), some (.int c10), some (.int v21), some (.int v22)]) qX12_leftBy_70 rfl rfl rfl ev22 rfl ?_
      refine e_goto (tgt := 17) qX12_leftBy_73 rfl ?_
      exact e_weak (ih16 _ _ h) ⟨Or.inr rfl, Or.inr rfl, Or.inr rfl, Or.inr rfl, Or.inr rfl, Or.inr rfl, Or.inr rfl, trivial⟩
    refine jn_e (fun j => j = some r → E mX12_leftBy 3 (some (.int r), s0) 66 [some (.ref 206), some (.int c7), some (.int c8), some (.int c9), some (.int c10), none, some (.int v12)] [.int v11] s0) h ?_ (fun j23 hj23 h => ?_)
    · intro h
      refine e_iconst (nI 0) qX12_leftBy_66 rfl ?_
      exact e_weak (hj20 _ h) ⟨Or.inr rfl, Or.inr rfl, Or.inr rfl, Or.inr rfl, Or.inr rfl, Or.inl rfl, Or.inr rfl, trivial⟩
    refine e_if_lt (tgt := 66) qX12_leftBy_37 rfl h (fun _ h => ?_) (fun _ h => ?_)
    · exact e_weak (hj23 h) ⟨Or.inr rfl, Or.inr rfl, Or.inr rfl, Or.inr rfl, Or.inr rfl, Or.inl rfl, Or.inr rfl, trivial⟩
    refine e_aload_n qX12_leftBy_40 rfl ?_
    refine e_iload qX12_leftBy_41 rfl ?_
    refine e_aload_n qX12_leftBy_43 rfl ?_
    refine e_getr 217 qX12_leftBy_44 fl_X12_63 shq_206 kdq_11_29 rrq_206_29 ?_
    refine e_iload qX12_leftBy_47 rfl ?_
    refine e_iald qX12_leftBy_49 shq_217 lnq_217 h (fun v24 h => ?_)
    refine e_iload_n qX12_leftBy_50 rfl ?_
    refine e_iadd qX12_leftBy_51 ?_
    refine e_iload_n qX12_leftBy_52 rfl ?_
    refine e_iadd qX12_leftBy_53 ?_
    obtain ⟨v25, hc, h⟩ := bp_e h
    refine e_cVi2 qX12_leftBy_54 mv_X12_356 shq_206 rfl rfl (w_X12_showsAt hc) ?_
    refine e_iload qX12_leftBy_57 rfl ?_
    refine e_icmp_ne (tgt := 66) qX12_leftBy_59 rfl h (fun _ h => ?_) (fun _ h => ?_)
    · refine e_iconst (nI 1) qX12_leftBy_62 rfl ?_
      refine e_goto (tgt := 67) qX12_leftBy_63 rfl ?_
      exact e_weak (hj20 _ h) ⟨Or.inr rfl, Or.inr rfl, Or.inr rfl, Or.inr rfl, Or.inr rfl, Or.inl rfl, Or.inr rfl, trivial⟩
    exact e_weak (hj23 h) ⟨Or.inr rfl, Or.inr rfl, Or.inr rfl, Or.inr rfl, Or.inr rfl, Or.inl rfl, Or.inr rfl, trivial⟩

set_option maxRecDepth 20000 in
set_option maxHeartbeats 4000000 in
theorem w_X12_leftBy_L5 {N : Nat} {c1 : Int32} {c2 : Int32} {s0 : St}  {r : Int32}   : ∀ (n5 : Nat) (v3 : Int32) (v4 : Int32), f_X12_leftBy_L5 N c1 c2 s0 n5 v3 v4 = some r → E mX12_leftBy 3 (some (.int r), s0) 5 [some (.ref 206), some (.int c1), some (.int c2), some (.int v3), some (.int v4), none, none] [] s0 := by
  intro n5
  induction n5 with
  | zero =>
    intro v3 v4 h
    rw [f_X12_leftBy_L5] at h; cases h
  | succ n5 ih6 =>
    intro v3 v4 h
    rw [f_X12_leftBy_L5] at h
    refine e_iload qX12_leftBy_5 rfl ?_
    refine e_iconst (nI 4) qX12_leftBy_7 rfl ?_
    refine e_icmp_ge (tgt := 89) qX12_leftBy_8 rfl h (fun _ h => ?_) (fun _ h => ?_)
    · refine e_iload_n qX12_leftBy_89 rfl ?_
      exact e_iret qX12_leftBy_90 rfl (ret_p h)
    refine e_iconst (nI 0) qX12_leftBy_11 rfl ?_
    refine e_istore (lv2 := [some (.ref 206), some (.int c1), some (.int c2), some (.int v3), some (.int v4), some (.int (nI 0)), none]) qX12_leftBy_12 rfl rfl rfl ?_
    refine e_iconst (nI 0) qX12_leftBy_14 rfl ?_
    refine e_istore (lv2 := [some (.ref 206), some (.int c1), some (.int c2), some (.int v3), some (.int v4), some (.int (nI 0)), some (.int (nI 0))]) qX12_leftBy_15 rfl rfl rfl ?_
    refine e_weak (w_X12_leftBy_L17 (fun v26 h => ?_) _ _ _ h) ⟨Or.inr rfl, Or.inr rfl, Or.inr rfl, Or.inr rfl, Or.inr rfl, Or.inr rfl, Or.inr rfl, trivial⟩
    refine e_iload_n qX12_leftBy_76 rfl ?_
    refine e_iload qX12_leftBy_77 rfl ?_
    obtain ⟨v27, hc, h⟩ := bp_e h
    refine e_cSi2 qX12_leftBy_79 ms_X12_362 rfl rfl (w_X12_greater hc) ?_
    refine e_istore_n (lv2 := [some (.ref 206), some (.int c1), some (.int c2), some (.int v27), some (.int v4), some (.int v26), none]) qX12_leftBy_82 rfl rfl rfl ?_
    refine vl_e h (fun h => ?_)
    obtain ⟨v28, ev28⟩ : ∃ y, v4 + (nI 1) = y := ⟨_, rfl⟩
    rw [ev28] at h
    refine e_iinc (nI 1) v28 (lv2 := [some (.ref 206), some (.int c1), some (.int c2), some (.int v27), some (.int v28), some (.int v26), none]) qX12_leftBy_83 rfl rfl rfl ev28 rfl ?_
    refine e_goto (tgt := 5) qX12_leftBy_86 rfl ?_
    exact e_weak (ih6 _ _ h) ⟨Or.inr rfl, Or.inr rfl, Or.inr rfl, Or.inr rfl, Or.inr rfl, Or.inl rfl, Or.inl rfl, trivial⟩

set_option maxRecDepth 20000 in
set_option maxHeartbeats 4000000 in
theorem w_X12_leftBy {N : Nat} {x1 : Int32} {x2 : Int32} {s0 : St} {r : Int32} (h : f_X12_leftBy N x1 x2 s0 = some r) : Ct mX12_leftBy 3 [.ref 206, .int x1, .int x2] s0 (some (.int r), s0) := by
  refine Ct.ofE (by decide +kernel) rfl ?_
  show E mX12_leftBy 3 (some (.int r), s0) 0 [some (.ref 206), some (.int x1), some (.int x2), none, none, none, none] [] s0
  unfold f_X12_leftBy at h
  refine e_iconst (nI 0) qX12_leftBy_0 rfl ?_
  refine e_istore_n (lv2 := [some (.ref 206), some (.int x1), some (.int x2), some (.int (nI 0)), none, none, none]) qX12_leftBy_1 rfl rfl rfl ?_
  refine e_iconst (nI 0) qX12_leftBy_2 rfl ?_
  refine e_istore (lv2 := [some (.ref 206), some (.int x1), some (.int x2), some (.int (nI 0)), some (.int (nI 0)), none, none]) qX12_leftBy_3 rfl rfl rfl ?_
  exact e_weak (w_X12_leftBy_L5  _ _ _ h) ⟨Or.inr rfl, Or.inr rfl, Or.inr rfl, Or.inr rfl, Or.inr rfl, Or.inl rfl, Or.inl rfl, trivial⟩

def f_X12_fits_L29 (N : Nat) (s6 : St) (k7 : Option (Int32 × St)) : Nat → Int32 → Option (Int32 × St)
  | 0, _ => none
  | n8 + 1, v5 =>
    vl (s6.1 206 3) fun v10 =>
    if v10 ≤ v5 then
      k7
    else
    bp (f_X12_octet v5 s6) fun v11 =>
    if v11 ≤ (nI 3) then
      vl (v5 + (nI 1)) fun v12 =>
      f_X12_fits_L29 N s6 k7 n8 v12
    else
    some ((-1), s6)

def f_X12_fits_L58 (N : Nat) (s15 : St) (k16 : Int32 → Option (Int32 × St)) : Nat → Int32 → Int32 → Option (Int32 × St)
  | 0, _, _ => none
  | n18 + 1, v13, v14 =>
    ald (s15.1 208) 359 (nI 0) fun v20 =>
    if v20 ≤ v14 then
      k16 v13
    else
    bp (f_X12_fitOf N v14 s15) fun v21 =>
    jn (fun (v22 : Int32) =>
      vl (v13 ||| v22) fun v24 =>
      vl (v14 + (nI 1)) fun v25 =>
      f_X12_fits_L58 N s15 k16 n18 v24 v25) fun j23 =>
    if v21 < 0 then
      j23 (nI 0)
    else
    j23 ((nI 1) <<< (v14 &&& 31))

def f_X12_fits_L115 (N : Nat) (c30 : Int32) (k33 : St → Option (Int32 × St)) : Nat → Int32 → St → Option (Int32 × St)
  | 0, _, _ => none
  | n35 + 1, v31, s32 =>
    ald (s32.1 208) 359 (nI 0) fun v37 =>
    if v37 ≤ v31 then
      k33 s32
    else
    bp (f_X12_fitOf N v31 s32) fun v38 =>
    ald (fun j => sI s32 217 j v38) 8 v31 fun s39 =>
    vl (v31 + (nI 1)) fun v40 =>
    f_X12_fits_L115 N c30 k33 n35 v40 s39

def f_X12_fits_L149 (N : Nat) (c43 : Int32) : Nat → Int32 → St → Option (Int32 × St)
  | 0, _, _ => none
  | n46 + 1, v44, s45 =>
    if (nI 40) ≤ v44 then
      some (c43, s45)
    else
    vl (s45.1 206 3) fun v48 =>
    bp (f_X12_leftBy N v44 v48 s45) fun v49 =>
    vl (s45.1 206 32) fun v50 =>
    vl (s45.1 206 3) fun v51 =>
    bp (f_X12_leftBy N v50 v51 s45) fun v52 =>
    jn (fun (s53 : St) =>
      vl (v44 + (nI 1)) fun v55 =>
      f_X12_fits_L149 N c43 n46 v55 s53) fun j54 =>
    if v52 ≤ v49 then
      j54 s45
    else
    vl (sI s45 206 32 v44) fun s56 =>
    j54 s56

def f_X12_fits (N : Nat)  (s0 : St) : Option (Int32 × St) :=
  vl (sI s0 206 0 (nI 0)) fun s1 =>
  bp (f_X12_taken (nI 940) s1) fun s2 =>
  vl (s2.1 206 3) fun v3 =>
  bp (f_X12_isIn v3 (nI 1) (nI 40) s2) fun v4 =>
  if v4 = 0 then
    some ((-1), s2)
  else
  f_X12_fits_L29 N s2 (f_X12_fits_L58 N s2 (fun (v26 : Int32) =>
      if v26 = 0 then
        some ((nI 0), s2)
      else
      vl (sI s2 206 30 v26) fun s27 =>
      ald (s27.1 208) 359 (nI 0) fun v28 =>
      vl (sI s27 206 31 v28) fun s29 =>
      f_X12_fits_L115 N v26 (fun (s41 : St) =>
        vl (sI s41 206 32 (nI 0)) fun s42 =>
        f_X12_fits_L149 N v26 N (nI 1) s42) N (nI 0) s29) N (nI 0) (nI 0)) N (nI 0)

theorem qX12_fits_0 : Dc mX12_fits 0 (.aload_n 0) 1 1 := ⟨by decide +kernel, rfl⟩
theorem qX12_fits_1 : Dc mX12_fits 1 (.iconst 0) 1 2 := ⟨by decide +kernel, rfl⟩
theorem qX12_fits_2 : Dc mX12_fits 2 (.putfield 1) 3 5 := ⟨by decide +kernel, rfl⟩
theorem qX12_fits_5 : Dc mX12_fits 5 (.aload_n 0) 1 6 := ⟨by decide +kernel, rfl⟩
theorem qX12_fits_6 : Dc mX12_fits 6 (.sipush 940) 3 9 := ⟨by decide +kernel, rfl⟩
theorem qX12_fits_9 : Dc mX12_fits 9 (.invokevirtual 246) 3 12 := ⟨by decide +kernel, rfl⟩
theorem qX12_fits_12 : Dc mX12_fits 12 (.aload_n 0) 1 13 := ⟨by decide +kernel, rfl⟩
theorem qX12_fits_13 : Dc mX12_fits 13 (.getfield 18) 3 16 := ⟨by decide +kernel, rfl⟩
theorem qX12_fits_16 : Dc mX12_fits 16 (.iconst 1) 1 17 := ⟨by decide +kernel, rfl⟩
theorem qX12_fits_17 : Dc mX12_fits 17 (.bipush 40) 2 19 := ⟨by decide +kernel, rfl⟩
theorem qX12_fits_19 : Dc mX12_fits 19 (.invokestatic 186) 3 22 := ⟨by decide +kernel, rfl⟩
theorem qX12_fits_22 : Dc mX12_fits 22 (.ifCond .ne 5) 3 25 := ⟨by decide +kernel, rfl⟩
theorem qX12_fits_25 : Dc mX12_fits 25 (.iconst (-1)) 1 26 := ⟨by decide +kernel, rfl⟩
theorem qX12_fits_26 : Dc mX12_fits 26 (.ireturn) 1 27 := ⟨by decide +kernel, rfl⟩
theorem qX12_fits_27 : Dc mX12_fits 27 (.iconst 0) 1 28 := ⟨by decide +kernel, rfl⟩
theorem qX12_fits_28 : Dc mX12_fits 28 (.istore_n 1) 1 29 := ⟨by decide +kernel, rfl⟩
theorem qX12_fits_29 : Dc mX12_fits 29 (.iload_n 1) 1 30 := ⟨by decide +kernel, rfl⟩
theorem qX12_fits_30 : Dc mX12_fits 30 (.aload_n 0) 1 31 := ⟨by decide +kernel, rfl⟩
theorem qX12_fits_31 : Dc mX12_fits 31 (.getfield 18) 3 34 := ⟨by decide +kernel, rfl⟩
theorem qX12_fits_34 : Dc mX12_fits 34 (.if_icmp .ge 20) 3 37 := ⟨by decide +kernel, rfl⟩
theorem qX12_fits_37 : Dc mX12_fits 37 (.aload_n 0) 1 38 := ⟨by decide +kernel, rfl⟩
theorem qX12_fits_38 : Dc mX12_fits 38 (.iload_n 1) 1 39 := ⟨by decide +kernel, rfl⟩
theorem qX12_fits_39 : Dc mX12_fits 39 (.invokevirtual 359) 3 42 := ⟨by decide +kernel, rfl⟩
theorem qX12_fits_42 : Dc mX12_fits 42 (.iconst 3) 1 43 := ⟨by decide +kernel, rfl⟩
theorem qX12_fits_43 : Dc mX12_fits 43 (.if_icmp .le 5) 3 46 := ⟨by decide +kernel, rfl⟩
theorem qX12_fits_46 : Dc mX12_fits 46 (.iconst (-1)) 1 47 := ⟨by decide +kernel, rfl⟩
theorem qX12_fits_47 : Dc mX12_fits 47 (.ireturn) 1 48 := ⟨by decide +kernel, rfl⟩
theorem qX12_fits_48 : Dc mX12_fits 48 (.iinc 1 1) 3 51 := ⟨by decide +kernel, rfl⟩
theorem qX12_fits_51 : Dc mX12_fits 51 (.goto (-22)) 3 54 := ⟨by decide +kernel, rfl⟩
theorem qX12_fits_54 : Dc mX12_fits 54 (.iconst 0) 1 55 := ⟨by decide +kernel, rfl⟩
theorem qX12_fits_55 : Dc mX12_fits 55 (.istore_n 1) 1 56 := ⟨by decide +kernel, rfl⟩
theorem qX12_fits_56 : Dc mX12_fits 56 (.iconst 0) 1 57 := ⟨by decide +kernel, rfl⟩
theorem qX12_fits_57 : Dc mX12_fits 57 (.istore_n 2) 1 58 := ⟨by decide +kernel, rfl⟩
theorem qX12_fits_58 : Dc mX12_fits 58 (.iload_n 2) 1 59 := ⟨by decide +kernel, rfl⟩
theorem qX12_fits_59 : Dc mX12_fits 59 (.aload_n 0) 1 60 := ⟨by decide +kernel, rfl⟩
theorem qX12_fits_60 : Dc mX12_fits 60 (.getfield 33) 3 63 := ⟨by decide +kernel, rfl⟩
theorem qX12_fits_63 : Dc mX12_fits 63 (.iconst 0) 1 64 := ⟨by decide +kernel, rfl⟩
theorem qX12_fits_64 : Dc mX12_fits 64 (.iaload) 1 65 := ⟨by decide +kernel, rfl⟩
theorem qX12_fits_65 : Dc mX12_fits 65 (.if_icmp .ge 27) 3 68 := ⟨by decide +kernel, rfl⟩
theorem qX12_fits_68 : Dc mX12_fits 68 (.iload_n 1) 1 69 := ⟨by decide +kernel, rfl⟩
theorem qX12_fits_69 : Dc mX12_fits 69 (.aload_n 0) 1 70 := ⟨by decide +kernel, rfl⟩
theorem qX12_fits_70 : Dc mX12_fits 70 (.iload_n 2) 1 71 := ⟨by decide +kernel, rfl⟩
theorem qX12_fits_71 : Dc mX12_fits 71 (.invokevirtual 365) 3 74 := ⟨by decide +kernel, rfl⟩
theorem qX12_fits_74 : Dc mX12_fits 74 (.ifCond .lt 9) 3 77 := ⟨by decide +kernel, rfl⟩
theorem qX12_fits_77 : Dc mX12_fits 77 (.iconst 1) 1 78 := ⟨by decide +kernel, rfl⟩
theorem qX12_fits_78 : Dc mX12_fits 78 (.iload_n 2) 1 79 := ⟨by decide +kernel, rfl⟩
theorem qX12_fits_79 : Dc mX12_fits 79 (.ishl) 1 80 := ⟨by decide +kernel, rfl⟩
theorem qX12_fits_80 : Dc mX12_fits 80 (.goto 4) 3 83 := ⟨by decide +kernel, rfl⟩
theorem qX12_fits_83 : Dc mX12_fits 83 (.iconst 0) 1 84 := ⟨by decide +kernel, rfl⟩
theorem qX12_fits_84 : Dc mX12_fits 84 (.ior) 1 85 := ⟨by decide +kernel, rfl⟩
theorem qX12_fits_85 : Dc mX12_fits 85 (.istore_n 1) 1 86 := ⟨by decide +kernel, rfl⟩
theorem qX12_fits_86 : Dc mX12_fits 86 (.iinc 2 1) 3 89 := ⟨by decide +kernel, rfl⟩
theorem qX12_fits_89 : Dc mX12_fits 89 (.goto (-31)) 3 92 := ⟨by decide +kernel, rfl⟩
theorem qX12_fits_92 : Dc mX12_fits 92 (.iload_n 1) 1 93 := ⟨by decide +kernel, rfl⟩
theorem qX12_fits_93 : Dc mX12_fits 93 (.ifCond .ne 5) 3 96 := ⟨by decide +kernel, rfl⟩
theorem qX12_fits_96 : Dc mX12_fits 96 (.iconst 0) 1 97 := ⟨by decide +kernel, rfl⟩
theorem qX12_fits_97 : Dc mX12_fits 97 (.ireturn) 1 98 := ⟨by decide +kernel, rfl⟩
theorem qX12_fits_98 : Dc mX12_fits 98 (.aload_n 0) 1 99 := ⟨by decide +kernel, rfl⟩
theorem qX12_fits_99 : Dc mX12_fits 99 (.iload_n 1) 1 100 := ⟨by decide +kernel, rfl⟩
theorem qX12_fits_100 : Dc mX12_fits 100 (.putfield 368) 3 103 := ⟨by decide +kernel, rfl⟩
theorem qX12_fits_103 : Dc mX12_fits 103 (.aload_n 0) 1 104 := ⟨by decide +kernel, rfl⟩
theorem qX12_fits_104 : Dc mX12_fits 104 (.aload_n 0) 1 105 := ⟨by decide +kernel, rfl⟩
theorem qX12_fits_105 : Dc mX12_fits 105 (.getfield 33) 3 108 := ⟨by decide +kernel, rfl⟩
theorem qX12_fits_108 : Dc mX12_fits 108 (.iconst 0) 1 109 := ⟨by decide +kernel, rfl⟩
theorem qX12_fits_109 : Dc mX12_fits 109 (.iaload) 1 110 := ⟨by decide +kernel, rfl⟩
theorem qX12_fits_110 : Dc mX12_fits 110 (.putfield 371) 3 113 := ⟨by decide +kernel, rfl⟩
theorem qX12_fits_113 : Dc mX12_fits 113 (.iconst 0) 1 114 := ⟨by decide +kernel, rfl⟩
theorem qX12_fits_114 : Dc mX12_fits 114 (.istore_n 2) 1 115 := ⟨by decide +kernel, rfl⟩
theorem qX12_fits_115 : Dc mX12_fits 115 (.iload_n 2) 1 116 := ⟨by decide +kernel, rfl⟩
theorem qX12_fits_116 : Dc mX12_fits 116 (.aload_n 0) 1 117 := ⟨by decide +kernel, rfl⟩
theorem qX12_fits_117 : Dc mX12_fits 117 (.getfield 33) 3 120 := ⟨by decide +kernel, rfl⟩
theorem qX12_fits_120 : Dc mX12_fits 120 (.iconst 0) 1 121 := ⟨by decide +kernel, rfl⟩
theorem qX12_fits_121 : Dc mX12_fits 121 (.iaload) 1 122 := ⟨by decide +kernel, rfl⟩
theorem qX12_fits_122 : Dc mX12_fits 122 (.if_icmp .ge 20) 3 125 := ⟨by decide +kernel, rfl⟩
theorem qX12_fits_125 : Dc mX12_fits 125 (.aload_n 0) 1 126 := ⟨by decide +kernel, rfl⟩
theorem qX12_fits_126 : Dc mX12_fits 126 (.getfield 63) 3 129 := ⟨by decide +kernel, rfl⟩
theorem qX12_fits_129 : Dc mX12_fits 129 (.iload_n 2) 1 130 := ⟨by decide +kernel, rfl⟩
theorem qX12_fits_130 : Dc mX12_fits 130 (.aload_n 0) 1 131 := ⟨by decide +kernel, rfl⟩
theorem qX12_fits_131 : Dc mX12_fits 131 (.iload_n 2) 1 132 := ⟨by decide +kernel, rfl⟩
theorem qX12_fits_132 : Dc mX12_fits 132 (.invokevirtual 365) 3 135 := ⟨by decide +kernel, rfl⟩
theorem qX12_fits_135 : Dc mX12_fits 135 (.iastore) 1 136 := ⟨by decide +kernel, rfl⟩
theorem qX12_fits_136 : Dc mX12_fits 136 (.iinc 2 1) 3 139 := ⟨by decide +kernel, rfl⟩
theorem qX12_fits_139 : Dc mX12_fits 139 (.goto (-24)) 3 142 := ⟨by decide +kernel, rfl⟩
theorem qX12_fits_142 : Dc mX12_fits 142 (.aload_n 0) 1 143 := ⟨by decide +kernel, rfl⟩
theorem qX12_fits_143 : Dc mX12_fits 143 (.iconst 0) 1 144 := ⟨by decide +kernel, rfl⟩
theorem qX12_fits_144 : Dc mX12_fits 144 (.putfield 374) 3 147 := ⟨by decide +kernel, rfl⟩
theorem qX12_fits_147 : Dc mX12_fits 147 (.iconst 1) 1 148 := ⟨by decide +kernel, rfl⟩
theorem qX12_fits_148 : Dc mX12_fits 148 (.istore_n 2) 1 149 := ⟨by decide +kernel, rfl⟩
theorem qX12_fits_149 : Dc mX12_fits 149 (.iload_n 2) 1 150 := ⟨by decide +kernel, rfl⟩
theorem qX12_fits_150 : Dc mX12_fits 150 (.bipush 40) 2 152 := ⟨by decide +kernel, rfl⟩
theorem qX12_fits_152 : Dc mX12_fits 152 (.if_icmp .ge 38) 3 155 := ⟨by decide +kernel, rfl⟩
theorem qX12_fits_155 : Dc mX12_fits 155 (.aload_n 0) 1 156 := ⟨by decide +kernel, rfl⟩
theorem qX12_fits_156 : Dc mX12_fits 156 (.iload_n 2) 1 157 := ⟨by decide +kernel, rfl⟩
theorem qX12_fits_157 : Dc mX12_fits 157 (.aload_n 0) 1 158 := ⟨by decide +kernel, rfl⟩
theorem qX12_fits_158 : Dc mX12_fits 158 (.getfield 18) 3 161 := ⟨by decide +kernel, rfl⟩
theorem qX12_fits_161 : Dc mX12_fits 161 (.invokevirtual 377) 3 164 := ⟨by decide +kernel, rfl⟩
theorem qX12_fits_164 : Dc mX12_fits 164 (.aload_n 0) 1 165 := ⟨by decide +kernel, rfl⟩
theorem qX12_fits_165 : Dc mX12_fits 165 (.aload_n 0) 1 166 := ⟨by decide +kernel, rfl⟩
theorem qX12_fits_166 : Dc mX12_fits 166 (.getfield 374) 3 169 := ⟨by decide +kernel, rfl⟩
theorem qX12_fits_169 : Dc mX12_fits 169 (.aload_n 0) 1 170 := ⟨by decide +kernel, rfl⟩
theorem qX12_fits_170 : Dc mX12_fits 170 (.getfield 18) 3 173 := ⟨by decide +kernel, rfl⟩
theorem qX12_fits_173 : Dc mX12_fits 173 (.invokevirtual 377) 3 176 := ⟨by decide +kernel, rfl⟩
theorem qX12_fits_176 : Dc mX12_fits 176 (.if_icmp .ge 8) 3 179 := ⟨by decide +kernel, rfl⟩
theorem qX12_fits_179 : Dc mX12_fits 179 (.aload_n 0) 1 180 := ⟨by decide +kernel, rfl⟩
theorem qX12_fits_180 : Dc mX12_fits 180 (.iload_n 2) 1 181 := ⟨by decide +kernel, rfl⟩
theorem qX12_fits_181 : Dc mX12_fits 181 (.putfield 374) 3 184 := ⟨by decide +kernel, rfl⟩
theorem qX12_fits_184 : Dc mX12_fits 184 (.iinc 2 1) 3 187 := ⟨by decide +kernel, rfl⟩
theorem qX12_fits_187 : Dc mX12_fits 187 (.goto (-38)) 3 190 := ⟨by decide +kernel, rfl⟩
theorem qX12_fits_190 : Dc mX12_fits 190 (.iload_n 1) 1 191 := ⟨by decide +kernel, rfl⟩
theorem qX12_fits_191 : Dc mX12_fits 191 (.ireturn) 1 192 := ⟨by decide +kernel, rfl⟩

set_option maxRecDepth 20000 in
set_option maxHeartbeats 4000000 in
theorem w_X12_fits_L29 {N : Nat}  {s6 : St} {k7 : Option (Int32 × St)} {r : Int32} {sr : St}  (hk7 : k7 = some (r, sr) → E mX12_fits 4 (some (.int r), sr) 54 [some (.ref 206), none, none] [] s6) : ∀ (n8 : Nat) (v5 : Int32), f_X12_fits_L29 N s6 k7 n8 v5 = some (r, sr) → E mX12_fits 4 (some (.int r), sr) 29 [some (.ref 206), some (.int v5), none] [] s6 := by
  intro n8
  induction n8 with
  | zero =>
    intro v5 h
    rw [f_X12_fits_L29] at h; cases h
  | succ n8 ih9 =>
    intro v5 h
    rw [f_X12_fits_L29] at h
    refine e_iload_n qX12_fits_29 rfl ?_
    refine e_aload_n qX12_fits_30 rfl ?_
    refine e_geti qX12_fits_31 fl_X12_18 shq_206 kdq_11_3 h (fun v10 h => ?_)
    refine e_icmp_ge (tgt := 54) qX12_fits_34 rfl h (fun _ h => ?_) (fun _ h => ?_)
    · exact e_weak (hk7 h) ⟨Or.inr rfl, Or.inl rfl, Or.inl rfl, trivial⟩
    refine e_aload_n qX12_fits_37 rfl ?_
    refine e_iload_n qX12_fits_38 rfl ?_
    obtain ⟨v11, hc, h⟩ := bp_e h
    refine e_cVi1 qX12_fits_39 mv_X12_359 shq_206 rfl rfl (w_X12_octet hc) ?_
    refine e_iconst (nI 3) qX12_fits_42 rfl ?_
    refine e_icmp_le (tgt := 48) qX12_fits_43 rfl h (fun _ h => ?_) (fun _ h => ?_)
    · refine vl_e h (fun h => ?_)
      obtain ⟨v12, ev12⟩ : ∃ y, v5 + (nI 1) = y := ⟨_, rfl⟩
      rw [ev12] at h
      refine e_iinc (nI 1) v12 (lv2 := [some (.ref 206), some (.int v12), none]) qX12_fits_48 rfl rfl rfl ev12 rfl ?_
      refine e_goto (tgt := 29) qX12_fits_51 rfl ?_
      exact e_weak (ih9 _ h) ⟨Or.inr rfl, Or.inr rfl, Or.inl rfl, trivial⟩
    refine e_iconst (-1) qX12_fits_46 rfl ?_
    exact e_iret qX12_fits_47 rfl (ret_i h)

set_option maxRecDepth 20000 in
set_option maxHeartbeats 4000000 in
theorem w_X12_fits_L58 {N : Nat}  {s15 : St} {k16 : Int32 → Option (Int32 × St)} {r : Int32} {sr : St}  (hk16 : ∀ (v17 : Int32), k16 v17 = some (r, sr) → E mX12_fits 4 (some (.int r), sr) 92 [some (.ref 206), some (.int v17), none] [] s15) : ∀ (n18 : Nat) (v13 : Int32) (v14 : Int32), f_X12_fits_L58 N s15 k16 n18 v13 v14 = some (r, sr) → E mX12_fits 4 (some (.int r), sr) 58 [some (.ref 206), some (.int v13), some (.int v14)] [] s15 := by
  intro n18
  induction n18 with
  | zero =>
    intro v13 v14 h
    rw [f_X12_fits_L58] at h; cases h
  | succ n18 ih19 =>
    intro v13 v14 h
    rw [f_X12_fits_L58] at h
    refine e_iload_n qX12_fits_58 rfl ?_
    refine e_aload_n qX12_fits_59 rfl ?_
    refine e_getr 208 qX12_fits_60 fl_X12_33 shq_206 kdq_11_6 rrq_206_6 ?_
    refine e_iconst (nI 0) qX12_fits_63 rfl ?_
    refine e_iald qX12_fits_64 shq_208 lnq_208 h (fun v20 h => ?_)
    refine e_icmp_ge (tgt := 92) qX12_fits_65 rfl h (fun _ h => ?_) (fun _ h => ?_)
    · exact e_weak (hk16 _ h) ⟨Or.inr rfl, Or.inr rfl, Or.inl rfl, trivial⟩
    refine e_iload_n qX12_fits_68 rfl ?_
    refine e_aload_n qX12_fits_69 rfl ?_
    refine e_iload_n qX12_fits_70 rfl ?_
    obtain ⟨v21, hc, h⟩ := bp_e h
    refine e_cVi1 qX12_fits_71 mv_X12_365 shq_206 rfl rfl (w_X12_fitOf hc) ?_
    refine jn_e (fun j => ∀ (v22 : Int32), j v22 = some (r, sr) → E mX12_fits 4 (some (.int r), sr) 84 [some (.ref 206), none, some (.int v14)] [.int v22, .int v13] s15) h ?_ (fun j23 hj23 h => ?_)
    · intro v22 h
      refine e_ior qX12_fits_84 ?_
      refine vl_e h (fun h => ?_)
      generalize (v13 ||| v22) = v24 at h ⊢
      refine e_istore_n (lv2 := [some (.ref 206), some (.int v24), some (.int v14)]) qX12_fits_85 rfl rfl rfl ?_
      refine vl_e h (fun h => ?_)
      obtain ⟨v25, ev25⟩ : ∃ y, v14 + (nI 1) = y := ⟨_, rfl⟩
      rw [ev25] at h
      refine e_iinc (nI 1) v25 (lv2 := [some (.ref 206), some (.int v24), some (.int v25)]) qX12_fits_86 rfl rfl rfl ev25 rfl ?_
      refine e_goto (tgt := 58) qX12_fits_89 rfl ?_
      exact e_weak (ih19 _ _ h) ⟨Or.inr rfl, Or.inr rfl, Or.inr rfl, trivial⟩
    refine e_if_lt (tgt := 83) qX12_fits_74 rfl h (fun _ h => ?_) (fun _ h => ?_)
    · refine e_iconst (nI 0) qX12_fits_83 rfl ?_
      exact e_weak (hj23 _ h) ⟨Or.inr rfl, Or.inl rfl, Or.inr rfl, trivial⟩
    refine e_iconst (nI 1) qX12_fits_77 rfl ?_
    refine e_iload_n qX12_fits_78 rfl ?_
    refine e_ishl qX12_fits_79 ?_
    refine e_goto (tgt := 84) qX12_fits_80 rfl ?_
    exact e_weak (hj23 _ h) ⟨Or.inr rfl, Or.inl rfl, Or.inr rfl, trivial⟩

set_option maxRecDepth 20000 in
set_option maxHeartbeats 4000000 in
theorem w_X12_fits_L115 {N : Nat} {c30 : Int32} {k33 : St → Option (Int32 × St)} {r : Int32} {sr : St}  (hk33 : ∀ (s34 : St), k33 s34 = some (r, sr) → E mX12_fits 4 (some (.int r), sr) 142 [some (.ref 206), some (.int c30), none] [] s34) : ∀ (n35 : Nat) (v31 : Int32) (s32 : St), f_X12_fits_L115 N c30 k33 n35 v31 s32 = some (r, sr) → E mX12_fits 4 (some (.int r), sr) 115 [some (.ref 206), some (.int c30), some (.int v31)] [] s32 := by
  intro n35
  induction n35 with
  | zero =>
    intro v31 s32 h
    rw [f_X12_fits_L115] at h; cases h
  | succ n35 ih36 =>
    intro v31 s32 h
    rw [f_X12_fits_L115] at h
    refine e_iload_n qX12_fits_115 rfl ?_
    refine e_aload_n qX12_fits_116 rfl ?_
    refine e_getr 208 qX12_fits_117 fl_X12_33 shq_206 kdq_11_6 rrq_206_6 ?_
    refine e_iconst (nI 0) qX12_fits_120 rfl ?_
    refine e_iald qX12_fits_121 shq_208 lnq_208 h (fun v37 h => ?_)
    refine e_icmp_ge (tgt := 142) qX12_fits_122 rfl h (fun _ h => ?_) (fun _ h => ?_)
    · exact e_weak (hk33 _ h) ⟨Or.inr rfl, Or.inr rfl, Or.inl rfl, trivial⟩
    refine e_aload_n qX12_fits_125 rfl ?_
    refine e_getr 217 qX12_fits_126 fl_X12_63 shq_206 kdq_11_29 rrq_206_29 ?_
    refine e_iload_n qX12_fits_129 rfl ?_
    refine e_aload_n qX12_fits_130 rfl ?_
    refine e_iload_n qX12_fits_131 rfl ?_
    obtain ⟨v38, hc, h⟩ := bp_e h
    refine e_cVi1 qX12_fits_132 mv_X12_365 shq_206 rfl rfl (w_X12_fitOf hc) ?_
    refine e_iast qX12_fits_135 shq_217 lnq_217 h (fun s39 h => ?_)
    refine vl_e h (fun h => ?_)
    obtain ⟨v40, ev40⟩ : ∃ y, v31 + (nI 1) = y := ⟨_, rfl⟩
    rw [ev40] at h
    refine e_iinc (nI 1) v40 (lv2 := [some (.ref 206), some (.int c30), some (.int v40)]) qX12_fits_136 rfl rfl rfl ev40 rfl ?_
    refine e_goto (tgt := 115) qX12_fits_139 rfl ?_
    exact e_weak (ih36 _ _ h) ⟨Or.inr rfl, Or.inr rfl, Or.inr rfl, trivial⟩

set_option maxRecDepth 20000 in
set_option maxHeartbeats 4000000 in
theorem w_X12_fits_L149 {N : Nat} {c43 : Int32}  {r : Int32} {sr : St}   : ∀ (n46 : Nat) (v44 : Int32) (s45 : St), f_X12_fits_L149 N c43 n46 v44 s45 = some (r, sr) → E mX12_fits 4 (some (.int r), sr) 149 [some (.ref 206), some (.int c43), some (.int v44)] [] s45 := by
  intro n46
  induction n46 with
  | zero =>
    intro v44 s45 h
    rw [f_X12_fits_L149] at h; cases h
  | succ n46 ih47 =>
    intro v44 s45 h
    rw [f_X12_fits_L149] at h
    refine e_iload_n qX12_fits_149 rfl ?_
    refine e_bipush (nI 40) qX12_fits_150 rfl ?_
    refine e_icmp_ge (tgt := 190) qX12_fits_152 rfl h (fun _ h => ?_) (fun _ h => ?_)
    · refine e_iload_n qX12_fits_190 rfl ?_
      exact e_iret qX12_fits_191 rfl (ret_i h)
    refine e_aload_n qX12_fits_155 rfl ?_
    refine e_iload_n qX12_fits_156 rfl ?_
    refine e_aload_n qX12_fits_157 rfl ?_
    refine e_geti qX12_fits_158 fl_X12_18 shq_206 kdq_11_3 h (fun v48 h => ?_)
    obtain ⟨v49, hc, h⟩ := bp_e h
    refine e_cVi2 qX12_fits_161 mv_X12_377 shq_206 rfl rfl (w_X12_leftBy hc) ?_
    refine e_aload_n qX12_fits_164 rfl ?_
    refine e_aload_n qX12_fits_165 rfl ?_
    refine e_geti qX12_fits_166 fl_X12_374 shq_206 kdq_11_32 h (fun v50 h => ?_)
    refine e_aload_n qX12_fits_169 rfl ?_
    refine e_geti qX12_fits_170 fl_X12_18 shq_206 kdq_11_3 h (fun v51 h => ?_)
    obtain ⟨v52, hc, h⟩ := bp_e h
    refine e_cVi2 qX12_fits_173 mv_X12_377 shq_206 rfl rfl (w_X12_leftBy hc) ?_
    refine jn_e (fun j => ∀ (s53 : St), j s53 = some (r, sr) → E mX12_fits 4 (some (.int r), sr) 184 [some (.ref 206), some (.int c43), some (.int v44)] [] s53) h ?_ (fun j54 hj54 h => ?_)
    · intro s53 h
      refine vl_e h (fun h => ?_)
      obtain ⟨v55, ev55⟩ : ∃ y, v44 + (nI 1) = y := ⟨_, rfl⟩
      rw [ev55] at h
      refine e_iinc (nI 1) v55 (lv2 := [some (.ref 206), some (.int c43), some (.int v55)]) qX12_fits_184 rfl rfl rfl ev55 rfl ?_
      refine e_goto (tgt := 149) qX12_fits_187 rfl ?_
      exact e_weak (ih47 _ _ h) ⟨Or.inr rfl, Or.inr rfl, Or.inr rfl, trivial⟩
    refine e_icmp_ge (tgt := 184) qX12_fits_176 rfl h (fun _ h => ?_) (fun _ h => ?_)
    · exact e_weak (hj54 _ h) ⟨Or.inr rfl, Or.inr rfl, Or.inr rfl, trivial⟩
    refine e_aload_n qX12_fits_179 rfl ?_
    refine e_iload_n qX12_fits_180 rfl ?_
    refine e_puti qX12_fits_181 fp_X12_374 shq_206 kdq_11_32 h (fun s56 h => ?_)
    exact e_weak (hj54 _ h) ⟨Or.inr rfl, Or.inr rfl, Or.inr rfl, trivial⟩

set_option maxRecDepth 20000 in
set_option maxHeartbeats 4000000 in
theorem w_X12_fits {N : Nat}  {s0 : St} {r : Int32} {sr : St} (h : f_X12_fits N  s0 = some (r, sr)) : Ct mX12_fits 4 [.ref 206] s0 (some (.int r), sr) := by
  refine Ct.ofE (by decide +kernel) rfl ?_
  show E mX12_fits 4 (some (.int r), sr) 0 [some (.ref 206), none, none] [] s0
  unfold f_X12_fits at h
  refine e_aload_n qX12_fits_0 rfl ?_
  refine e_iconst (nI 0) qX12_fits_1 rfl ?_
  refine e_puti qX12_fits_2 fp_X12_1 shq_206 kdq_11_0 h (fun s1 h => ?_)
  refine e_aload_n qX12_fits_5 rfl ?_
  refine e_sipush (nI 940) qX12_fits_6 rfl ?_
  obtain ⟨s2, hc, h⟩ := bp_e h
  refine e_cVv1 qX12_fits_9 mv_X12_246 shq_206 rfl rfl (w_X12_taken hc) ?_
  refine e_aload_n qX12_fits_12 rfl ?_
  refine e_geti qX12_fits_13 fl_X12_18 shq_206 kdq_11_3 h (fun v3 h => ?_)
  refine e_iconst (nI 1) qX12_fits_16 rfl ?_
  refine e_bipush (nI 40) qX12_fits_17 rfl ?_
  obtain ⟨v4, hc, h⟩ := bp_e h
  refine e_cSi3 qX12_fits_19 ms_X12_186 rfl rfl (w_X12_isIn hc) ?_
  refine e_if_ne (tgt := 27) qX12_fits_22 rfl h (fun _ h => ?_) (fun _ h => ?_)
  · refine e_iconst (-1) qX12_fits_25 rfl ?_
    exact e_iret qX12_fits_26 rfl (ret_i h)
  refine e_iconst (nI 0) qX12_fits_27 rfl ?_
  refine e_istore_n (lv2 := [some (.ref 206), some (.int (nI 0)), none]) qX12_fits_28 rfl rfl rfl ?_
  refine e_weak (w_X12_fits_L29 (fun h => ?_) _ _ h) ⟨Or.inr rfl, Or.inr rfl, Or.inl rfl, trivial⟩
  refine e_iconst (nI 0) qX12_fits_54 rfl ?_
  refine e_istore_n (lv2 := [some (.ref 206), some (.int (nI 0)), none]) qX12_fits_55 rfl rfl rfl ?_
  refine e_iconst (nI 0) qX12_fits_56 rfl ?_
  refine e_istore_n (lv2 := [some (.ref 206), some (.int (nI 0)), some (.int (nI 0))]) qX12_fits_57 rfl rfl rfl ?_
  refine e_weak (w_X12_fits_L58 (fun v26 h => ?_) _ _ _ h) ⟨Or.inr rfl, Or.inr rfl, Or.inr rfl, trivial⟩
  refine e_iload_n qX12_fits_92 rfl ?_
  refine e_if_ne (tgt := 98) qX12_fits_93 rfl h (fun _ h => ?_) (fun _ h => ?_)
  · refine e_iconst (nI 0) qX12_fits_96 rfl ?_
    exact e_iret qX12_fits_97 rfl (ret_i h)
  refine e_aload_n qX12_fits_98 rfl ?_
  refine e_iload_n qX12_fits_99 rfl ?_
  refine e_puti qX12_fits_100 fp_X12_368 shq_206 kdq_11_30 h (fun s27 h => ?_)
  refine e_aload_n qX12_fits_103 rfl ?_
  refine e_aload_n qX12_fits_104 rfl ?_
  refine e_getr 208 qX12_fits_105 fl_X12_33 shq_206 kdq_11_6 rrq_206_6 ?_
  refine e_iconst (nI 0) qX12_fits_108 rfl ?_
  refine e_iald qX12_fits_109 shq_208 lnq_208 h (fun v28 h => ?_)
  refine e_puti qX12_fits_110 fp_X12_371 shq_206 kdq_11_31 h (fun s29 h => ?_)
  refine e_iconst (nI 0) qX12_fits_113 rfl ?_
  refine e_istore_n (lv2 := [some (.ref 206), some (.int v26), some (.int (nI 0))]) qX12_fits_114 rfl rfl rfl ?_
  refine e_weak (w_X12_fits_L115 (fun s41 h => ?_) _ _ _ h) ⟨Or.inr rfl, Or.inr rfl, Or.inr rfl, trivial⟩
  refine e_aload_n qX12_fits_142 rfl ?_
  refine e_iconst (nI 0) qX12_fits_143 rfl ?_
  refine e_puti qX12_fits_144 fp_X12_374 shq_206 kdq_11_32 h (fun s42 h => ?_)
  refine e_iconst (nI 1) qX12_fits_147 rfl ?_
  refine e_istore_n (lv2 := [some (.ref 206), some (.int v26), some (.int (nI 1))]) qX12_fits_148 rfl rfl rfl ?_
  exact e_weak (w_X12_fits_L149  _ _ _ h) ⟨Or.inr rfl, Or.inr rfl, Or.inr rfl, trivial⟩

def f_X12_fitsAt (x1 : Int32) (s0 : St) : Option (Int32 × St) :=
  vl (sI s0 206 0 (nI 0)) fun s1 =>
  vl (s1.1 206 31) fun v2 =>
  bp (f_X12_isIn x1 (nI 0) (v2 - (nI 1)) s1) fun v3 =>
  if v3 = 0 then
    some ((-1), s1)
  else
  ald (s1.1 217) 8 x1 fun v4 =>
  some (v4, s1)

theorem qX12_fitsAt_0 : Dc mX12_fitsAt 0 (.aload_n 0) 1 1 := ⟨by decide +kernel, rfl⟩
theorem qX12_fitsAt_1 : Dc mX12_fitsAt 1 (.iconst 0) 1 2 := ⟨by decide +kernel, rfl⟩
theorem qX12_fitsAt_2 : Dc mX12_fitsAt 2 (.putfield 1) 3 5 := ⟨by decide +kernel, rfl⟩
theorem qX12_fitsAt_5 : Dc mX12_fitsAt 5 (.iload_n 1) 1 6 := ⟨by decide +kernel, rfl⟩
theorem qX12_fitsAt_6 : Dc mX12_fitsAt 6 (.iconst 0) 1 7 := ⟨by decide +kernel, rfl⟩
theorem qX12_fitsAt_7 : Dc mX12_fitsAt 7 (.aload_n 0) 1 8 := ⟨by decide +kernel, rfl⟩
theorem qX12_fitsAt_8 : Dc mX12_fitsAt 8 (.getfield 371) 3 11 := ⟨by decide +kernel, rfl⟩
theorem qX12_fitsAt_11 : Dc mX12_fitsAt 11 (.iconst 1) 1 12 := ⟨by decide +kernel, rfl⟩
theorem qX12_fitsAt_12 : Dc mX12_fitsAt 12 (.isub) 1 13 := ⟨by decide +kernel, rfl⟩
theorem qX12_fitsAt_13 : Dc mX12_fitsAt 13 (.invokestatic 186) 3 16 := ⟨by decide +kernel, rfl⟩
theorem qX12_fitsAt_16 : Dc mX12_fitsAt 16 (.ifCond .eq 12) 3 19 := ⟨by decide +kernel, rfl⟩
theorem qX12_fitsAt_19 : Dc mX12_fitsAt 19 (.aload_n 0) 1 20 := ⟨by decide +kernel, rfl⟩
theorem qX12_fitsAt_20 : Dc mX12_fitsAt 20 (.getfield 63) 3 23 := ⟨by decide +kernel, rfl⟩
theorem qX12_fitsAt_23 : Dc mX12_fitsAt 23 (.iload_n 1) 1 24 := ⟨by decide +kernel, rfl⟩
theorem qX12_fitsAt_24 : Dc mX12_fitsAt 24 (.iaload) 1 25 := ⟨by decide +kernel, rfl⟩
theorem qX12_fitsAt_25 : Dc mX12_fitsAt 25 (.goto 4) 3 28 := ⟨by decide +kernel, rfl⟩
theorem qX12_fitsAt_28 : Dc mX12_fitsAt 28 (.iconst (-1)) 1 29 := ⟨by decide +kernel, rfl⟩
theorem qX12_fitsAt_29 : Dc mX12_fitsAt 29 (.ireturn) 1 30 := ⟨by decide +kernel, rfl⟩

set_option maxRecDepth 20000 in
set_option maxHeartbeats 4000000 in
theorem w_X12_fitsAt {x1 : Int32} {s0 : St} {r : Int32} {sr : St} (h : f_X12_fitsAt x1 s0 = some (r, sr)) : Ct mX12_fitsAt 1 [.ref 206, .int x1] s0 (some (.int r), sr) := by
  refine Ct.ofE (by decide +kernel) rfl ?_
  show E mX12_fitsAt 1 (some (.int r), sr) 0 [some (.ref 206), some (.int x1)] [] s0
  unfold f_X12_fitsAt at h
  refine e_aload_n qX12_fitsAt_0 rfl ?_
  refine e_iconst (nI 0) qX12_fitsAt_1 rfl ?_
  refine e_puti qX12_fitsAt_2 fp_X12_1 shq_206 kdq_11_0 h (fun s1 h => ?_)
  refine e_iload_n qX12_fitsAt_5 rfl ?_
  refine e_iconst (nI 0) qX12_fitsAt_6 rfl ?_
  refine e_aload_n qX12_fitsAt_7 rfl ?_
  refine e_geti qX12_fitsAt_8 fl_X12_371 shq_206 kdq_11_31 h (fun v2 h => ?_)
  refine e_iconst (nI 1) qX12_fitsAt_11 rfl ?_
  refine e_isub qX12_fitsAt_12 ?_
  obtain ⟨v3, hc, h⟩ := bp_e h
  refine e_cSi3 qX12_fitsAt_13 ms_X12_186 rfl rfl (w_X12_isIn hc) ?_
  refine e_if_eq (tgt := 28) qX12_fitsAt_16 rfl h (fun _ h => ?_) (fun _ h => ?_)
  · refine e_iconst (-1) qX12_fitsAt_28 rfl ?_
    exact e_iret qX12_fitsAt_29 rfl (ret_i h)
  refine e_aload_n qX12_fitsAt_19 rfl ?_
  refine e_getr 217 qX12_fitsAt_20 fl_X12_63 shq_206 kdq_11_29 rrq_206_29 ?_
  refine e_iload_n qX12_fitsAt_23 rfl ?_
  refine e_iald qX12_fitsAt_24 shq_217 lnq_217 h (fun v4 h => ?_)
  refine e_goto (tgt := 29) qX12_fitsAt_25 rfl ?_
  exact e_iret qX12_fitsAt_29 rfl (ret_i h)

def f_X12_ask  (s0 : St) : Option (Int32 × St) :=
  vl (sI s0 206 0 (nI 0)) fun s1 =>
  vl (s1.1 206 30) fun v2 =>
  if v2 ≤ 0 then
    some ((-1), s1)
  else
  vl (s1.1 206 32) fun v3 =>
  some (v3, s1)

theorem qX12_ask_0 : Dc mX12_ask 0 (.aload_n 0) 1 1 := ⟨by decide +kernel, rfl⟩
theorem qX12_ask_1 : Dc mX12_ask 1 (.iconst 0) 1 2 := ⟨by decide +kernel, rfl⟩
theorem qX12_ask_2 : Dc mX12_ask 2 (.putfield 1) 3 5 := ⟨by decide +kernel, rfl⟩
theorem qX12_ask_5 : Dc mX12_ask 5 (.aload_n 0) 1 6 := ⟨by decide +kernel, rfl⟩
theorem qX12_ask_6 : Dc mX12_ask 6 (.getfield 368) 3 9 := ⟨by decide +kernel, rfl⟩
theorem qX12_ask_9 : Dc mX12_ask 9 (.ifCond .le 10) 3 12 := ⟨by decide +kernel, rfl⟩
theorem qX12_ask_12 : Dc mX12_ask 12 (.aload_n 0) 1 13 := ⟨by decide +kernel, rfl⟩
theorem qX12_ask_13 : Dc mX12_ask 13 (.getfield 374) 3 16 := ⟨by decide +kernel, rfl⟩
theorem qX12_ask_16 : Dc mX12_ask 16 (.goto 4) 3 19 := ⟨by decide +kernel, rfl⟩
theorem qX12_ask_19 : Dc mX12_ask 19 (.iconst (-1)) 1 20 := ⟨by decide +kernel, rfl⟩
theorem qX12_ask_20 : Dc mX12_ask 20 (.ireturn) 1 21 := ⟨by decide +kernel, rfl⟩

set_option maxRecDepth 20000 in
set_option maxHeartbeats 4000000 in
theorem w_X12_ask  {s0 : St} {r : Int32} {sr : St} (h : f_X12_ask  s0 = some (r, sr)) : Ct mX12_ask 0 [.ref 206] s0 (some (.int r), sr) := by
  refine Ct.ofE (by decide +kernel) rfl ?_
  show E mX12_ask 0 (some (.int r), sr) 0 [some (.ref 206)] [] s0
  unfold f_X12_ask at h
  refine e_aload_n qX12_ask_0 rfl ?_
  refine e_iconst (nI 0) qX12_ask_1 rfl ?_
  refine e_puti qX12_ask_2 fp_X12_1 shq_206 kdq_11_0 h (fun s1 h => ?_)
  refine e_aload_n qX12_ask_5 rfl ?_
  refine e_geti qX12_ask_6 fl_X12_368 shq_206 kdq_11_30 h (fun v2 h => ?_)
  refine e_if_le (tgt := 19) qX12_ask_9 rfl h (fun _ h => ?_) (fun _ h => ?_)
  · refine e_iconst (-1) qX12_ask_19 rfl ?_
    exact e_iret qX12_ask_20 rfl (ret_i h)
  refine e_aload_n qX12_ask_12 rfl ?_
  refine e_geti qX12_ask_13 fl_X12_374 shq_206 kdq_11_32 h (fun v3 h => ?_)
  refine e_goto (tgt := 20) qX12_ask_16 rfl ?_
  exact e_iret qX12_ask_20 rfl (ret_i h)

def f_X12_spots_L34 (N : Nat) (c4 : Int32) (s8 : St) (k9 : Int32 → Int32 → Option (Int32 × St)) : Nat → Int32 → Int32 → Int32 → Option (Int32 × St)
  | 0, _, _, _ => none
  | n12 + 1, v5, v6, v7 =>
    if v7 < 0 then
      k9 v5 v6
    else
    rm_ v7 (nI 20) fun v14 =>
    dv v7 (nI 20) fun v15 =>
    ald (s8.1 208) 359 (nI 149) fun v16 =>
    bp (f_X12_visibleFrom N v14 v15 v16 s8) fun v17 =>
    jn (fun (v18 : Int32) (v19 : Int32) =>
      vl (v7 + (-1)) fun v21 =>
      f_X12_spots_L34 N c4 s8 k9 n12 v18 v19 v21) fun j20 =>
    if v17 = c4 then
      vl (v5 + (nI 1)) fun v22 =>
      j20 v22 v7
    else
    j20 v5 v6

def f_X12_spots (N : Nat) (x1 : Int32) (s0 : St) : Option (Int32 × St) :=
  vl (sI s0 206 0 (nI 0)) fun s1 =>
  ald (s1.1 208) 359 (nI 0) fun v2 =>
  bp (f_X12_isIn x1 (nI 0) (((nI 1) <<< (v2 &&& 31)) - (nI 1)) s1) fun v3 =>
  if v3 = 0 then
    some ((-1), s1)
  else
  f_X12_spots_L34 N x1 s1 (fun (v23 : Int32) (v24 : Int32) =>
    if v23 = 0 then
      some ((nI 0), s1)
    else
    vl (sI s1 206 35 (nI 1)) fun s25 =>
    vl (sI s25 206 33 v24) fun s26 =>
    some (v23, s26)) N (nI 0) (nI 0) (nI 399)

theorem qX12_spots_0 : Dc mX12_spots 0 (.aload_n 0) 1 1 := ⟨by decide +kernel, rfl⟩
theorem qX12_spots_1 : Dc mX12_spots 1 (.iconst 0) 1 2 := ⟨by decide +kernel, rfl⟩
theorem qX12_spots_2 : Dc mX12_spots 2 (.putfield 1) 3 5 := ⟨by decide +kernel, rfl⟩
theorem qX12_spots_5 : Dc mX12_spots 5 (.iload_n 1) 1 6 := ⟨by decide +kernel, rfl⟩
theorem qX12_spots_6 : Dc mX12_spots 6 (.iconst 0) 1 7 := ⟨by decide +kernel, rfl⟩
theorem qX12_spots_7 : Dc mX12_spots 7 (.iconst 1) 1 8 := ⟨by decide +kernel, rfl⟩
theorem qX12_spots_8 : Dc mX12_spots 8 (.aload_n 0) 1 9 := ⟨by decide +kernel, rfl⟩
theorem qX12_spots_9 : Dc mX12_spots 9 (.getfield 33) 3 12 := ⟨by decide +kernel, rfl⟩
theorem qX12_spots_12 : Dc mX12_spots 12 (.iconst 0) 1 13 := ⟨by decide +kernel, rfl⟩
theorem qX12_spots_13 : Dc mX12_spots 13 (.iaload) 1 14 := ⟨by decide +kernel, rfl⟩
theorem qX12_spots_14 : Dc mX12_spots 14 (.ishl) 1 15 := ⟨by decide +kernel, rfl⟩
theorem qX12_spots_15 : Dc mX12_spots 15 (.iconst 1) 1 16 := ⟨by decide +kernel, rfl⟩
theorem qX12_spots_16 : Dc mX12_spots 16 (.isub) 1 17 := ⟨by decide +kernel, rfl⟩
theorem qX12_spots_17 : Dc mX12_spots 17 (.invokestatic 186) 3 20 := ⟨by decide +kernel, rfl⟩
theorem qX12_spots_20 : Dc mX12_spots 20 (.ifCond .ne 5) 3 23 := ⟨by decide +kernel, rfl⟩
theorem qX12_spots_23 : Dc mX12_spots 23 (.iconst (-1)) 1 24 := ⟨by decide +kernel, rfl⟩
theorem qX12_spots_24 : Dc mX12_spots 24 (.ireturn) 1 25 := ⟨by decide +kernel, rfl⟩
theorem qX12_spots_25 : Dc mX12_spots 25 (.iconst 0) 1 26 := ⟨by decide +kernel, rfl⟩
theorem qX12_spots_26 : Dc mX12_spots 26 (.istore_n 2) 1 27 := ⟨by decide +kernel, rfl⟩
theorem qX12_spots_27 : Dc mX12_spots 27 (.iconst 0) 1 28 := ⟨by decide +kernel, rfl⟩
theorem qX12_spots_28 : Dc mX12_spots 28 (.istore_n 3) 1 29 := ⟨by decide +kernel, rfl⟩
theorem qX12_spots_29 : Dc mX12_spots 29 (.sipush 399) 3 32 := ⟨by decide +kernel, rfl⟩
theorem qX12_spots_32 : Dc mX12_spots 32 (.istore 4) 2 34 := ⟨by decide +kernel, rfl⟩
theorem qX12_spots_34 : Dc mX12_spots 34 (.iload 4) 2 36 := ⟨by decide +kernel, rfl⟩
theorem qX12_spots_36 : Dc mX12_spots 36 (.ifCond .lt 44) 3 39 := ⟨by decide +kernel, rfl⟩
theorem qX12_spots_39 : Dc mX12_spots 39 (.aload_n 0) 1 40 := ⟨by decide +kernel, rfl⟩
theorem qX12_spots_40 : Dc mX12_spots 40 (.iload 4) 2 42 := ⟨by decide +kernel, rfl⟩
theorem qX12_spots_42 : Dc mX12_spots 42 (.bipush 20) 2 44 := ⟨by decide +kernel, rfl⟩
theorem qX12_spots_44 : Dc mX12_spots 44 (.irem) 1 45 := ⟨by decide +kernel, rfl⟩
theorem qX12_spots_45 : Dc mX12_spots 45 (.iload 4) 2 47 := ⟨by decide +kernel, rfl⟩
theorem qX12_spots_47 : Dc mX12_spots 47 (.bipush 20) 2 49 := ⟨by decide +kernel, rfl⟩
theorem qX12_spots_49 : Dc mX12_spots 49 (.idiv) 1 50 := ⟨by decide +kernel, rfl⟩
theorem qX12_spots_50 : Dc mX12_spots 50 (.aload_n 0) 1 51 := ⟨by decide +kernel, rfl⟩
theorem qX12_spots_51 : Dc mX12_spots 51 (.getfield 33) 3 54 := ⟨by decide +kernel, rfl⟩
theorem qX12_spots_54 : Dc mX12_spots 54 (.sipush 149) 3 57 := ⟨by decide +kernel, rfl⟩
theorem qX12_spots_57 : Dc mX12_spots 57 (.iaload) 1 58 := ⟨by decide +kernel, rfl⟩
theorem qX12_spots_58 : Dc mX12_spots 58 (.invokevirtual 287) 3 61 := ⟨by decide +kernel, rfl⟩
theorem qX12_spots_61 : Dc mX12_spots 61 (.iload_n 1) 1 62 := ⟨by decide +kernel, rfl⟩
theorem qX12_spots_62 : Dc mX12_spots 62 (.if_icmp .eq 6) 3 65 := ⟨by decide +kernel, rfl⟩
theorem qX12_spots_65 : Dc mX12_spots 65 (.goto 9) 3 68 := ⟨by decide +kernel, rfl⟩
theorem qX12_spots_68 : Dc mX12_spots 68 (.iinc 2 1) 3 71 := ⟨by decide +kernel, rfl⟩
theorem qX12_spots_71 : Dc mX12_spots 71 (.iload 4) 2 73 := ⟨by decide +kernel, rfl⟩
theorem qX12_spots_73 : Dc mX12_spots 73 (.istore_n 3) 1 74 := ⟨by decide +kernel, rfl⟩
theorem qX12_spots_74 : Dc mX12_spots 74 (.iinc 4 (-1)) 3 77 := ⟨by decide +kernel, rfl⟩
theorem qX12_spots_77 : Dc mX12_spots 77 (.goto (-43)) 3 80 := ⟨by decide +kernel, rfl⟩
theorem qX12_spots_80 : Dc mX12_spots 80 (.iload_n 2) 1 81 := ⟨by decide +kernel, rfl⟩
theorem qX12_spots_81 : Dc mX12_spots 81 (.ifCond .ne 5) 3 84 := ⟨by decide +kernel, rfl⟩
theorem qX12_spots_84 : Dc mX12_spots 84 (.iconst 0) 1 85 := ⟨by decide +kernel, rfl⟩
theorem qX12_spots_85 : Dc mX12_spots 85 (.ireturn) 1 86 := ⟨by decide +kernel, rfl⟩
theorem qX12_spots_86 : Dc mX12_spots 86 (.aload_n 0) 1 87 := ⟨by decide +kernel, rfl⟩
theorem qX12_spots_87 : Dc mX12_spots 87 (.iconst 1) 1 88 := ⟨by decide +kernel, rfl⟩
theorem qX12_spots_88 : Dc mX12_spots 88 (.putfield 380) 3 91 := ⟨by decide +kernel, rfl⟩
theorem qX12_spots_91 : Dc mX12_spots 91 (.aload_n 0) 1 92 := ⟨by decide +kernel, rfl⟩
theorem qX12_spots_92 : Dc mX12_spots 92 (.iload_n 3) 1 93 := ⟨by decide +kernel, rfl⟩
theorem qX12_spots_93 : Dc mX12_spots 93 (.putfield 383) 3 96 := ⟨by decide +kernel, rfl⟩
theorem qX12_spots_96 : Dc mX12_spots 96 (.iload_n 2) 1 97 := ⟨by decide +kernel, rfl⟩
theorem qX12_spots_97 : Dc mX12_spots 97 (.ireturn) 1 98 := ⟨by decide +kernel, rfl⟩

set_option maxRecDepth 20000 in
set_option maxHeartbeats 4000000 in
theorem w_X12_spots_L34 {N : Nat} {c4 : Int32} {s8 : St} {k9 : Int32 → Int32 → Option (Int32 × St)} {r : Int32} {sr : St}  (hk9 : ∀ (v10 : Int32) (v11 : Int32), k9 v10 v11 = some (r, sr) → E mX12_spots 3 (some (.int r), sr) 80 [some (.ref 206), none, some (.int v10), some (.int v11), none] [] s8) : ∀ (n12 : Nat) (v5 : Int32) (v6 : Int32) (v7 : Int32), f_X12_spots_L34 N c4 s8 k9 n12 v5 v6 v7 = some (r, sr) → E mX12_spots 3 (some (.int r), sr) 34 [some (.ref 206), some (.int c4), some (.int v5), some (.int v6), some (.int v7)] [] s8 := by
  intro n12
  induction n12 with
  | zero =>
    intro v5 v6 v7 h
    rw [f_X12_spots_L34] at h; cases h
  | succ n12 ih13 =>
    intro v5 v6 v7 h
    rw [f_X12_spots_L34] at h
    refine e_iload qX12_spots_34 rfl ?_
    refine e_if_lt (tgt := 80) qX12_spots_36 rfl h (fun _ h => ?_) (fun _ h => ?_)
    · exact e_weak (hk9 _ _ h) ⟨Or.inr rfl, Or.inl rfl, Or.inr rfl, Or.inr rfl, Or.inl rfl, trivial⟩
    refine e_aload_n qX12_spots_39 rfl ?_
    refine e_iload qX12_spots_40 rfl ?_
    refine e_bipush (nI 20) qX12_spots_42 rfl ?_
    refine e_irem qX12_spots_44 h (fun v14 h => ?_)
    refine e_iload qX12_spots_45 rfl ?_
    refine e_bipush (nI 20) qX12_spots_47 rfl ?_
    refine e_idiv qX12_spots_49 h (fun v15 h => ?_)
    refine e_aload_n qX12_spots_50 rfl ?_
    refine e_getr 208 qX12_spots_51 fl_X12_33 shq_206 kdq_11_6 rrq_206_6 ?_
    refine e_sipush (nI 149) qX12_spots_54 rfl ?_
    refine e_iald qX12_spots_57 shq_208 lnq_208 h (fun v16 h => ?_)
    obtain ⟨v17, hc, h⟩ := bp_e h
    refine e_cVi3 qX12_spots_58 mv_X12_287 shq_206 rfl rfl (w_X12_visibleFrom hc) ?_
    refine e_iload_n qX12_spots_61 rfl ?_
    refine jn_e (fun j => ∀ (v18 : Int32) (v19 : Int32), j v18 v19 = some (r, sr) → E mX12_spots 3 (some (.int r), sr) 74 [some (.ref 206), some (.int c4), some (.int v18), some (.int v19), some (.int v7)] [] s8) h ?_ (fun j20 hj20 h => ?_)
    · intro v18 v19 h
      refine vl_e h (fun h => ?_)
      obtain ⟨v21, ev21⟩ : ∃ y, v7 + (-1) = y := ⟨_, rfl⟩
      rw [ev21] at h
      refine e_iinc (-1) v21 (lv2 := [some (.ref 206), some (.int c4), some (.int v18), some (.int v19), some (.int v21)]) qX12_spots_74 rfl rfl rfl ev21 rfl ?_
      refine e_goto (tgt := 34) qX12_spots_77 rfl ?_
      exact e_weak (ih13 _ _ _ h) ⟨Or.inr rfl, Or.inr rfl, Or.inr rfl, Or.inr rfl, Or.inr rfl, trivial⟩
    refine e_icmp_eq (tgt := 68) qX12_spots_62 rfl h (fun _ h => ?_) (fun _ h => ?_)
    · refine vl_e h (fun h => ?_)
      obtain ⟨v22, ev22⟩ : ∃ y, v5 + (nI 1) = y := ⟨_, rfl⟩
      rw [ev22] at h
      refine e_iinc (nI 1) v22 (lv2 := [some (.ref 206), some (.int c4), some (.int v22), some (.int v6), some (.int v7)]) qX12_spots_68 rfl rfl rfl ev22 rfl ?_
      refine e_iload qX12_spots_71 rfl ?_
      refine e_istore_n (lv2 := [some (.ref 206), some (.int c4), some (.int v22), some (.int v7), some (.int v7)]) qX12_spots_73 rfl rfl rfl ?_
      exact e_weak (hj20 _ _ h) ⟨Or.inr rfl, Or.inr rfl, Or.inr rfl, Or.inr rfl, Or.inr rfl, trivial⟩
    refine e_goto (tgt := 74) qX12_spots_65 rfl ?_
    exact e_weak (hj20 _ _ h) ⟨Or.inr rfl, Or.inr rfl, Or.inr rfl, Or.inr rfl, Or.inr rfl, trivial⟩

set_option maxRecDepth 20000 in
set_option maxHeartbeats 4000000 in
theorem w_X12_spots {N : Nat} {x1 : Int32} {s0 : St} {r : Int32} {sr : St} (h : f_X12_spots N x1 s0 = some (r, sr)) : Ct mX12_spots 3 [.ref 206, .int x1] s0 (some (.int r), sr) := by
  refine Ct.ofE (by decide +kernel) rfl ?_
  show E mX12_spots 3 (some (.int r), sr) 0 [some (.ref 206), some (.int x1), none, none, none] [] s0
  unfold f_X12_spots at h
  refine e_aload_n qX12_spots_0 rfl ?_
  refine e_iconst (nI 0) qX12_spots_1 rfl ?_
  refine e_puti qX12_spots_2 fp_X12_1 shq_206 kdq_11_0 h (fun s1 h => ?_)
  refine e_iload_n qX12_spots_5 rfl ?_
  refine e_iconst (nI 0) qX12_spots_6 rfl ?_
  refine e_iconst (nI 1) qX12_spots_7 rfl ?_
  refine e_aload_n qX12_spots_8 rfl ?_
  refine e_getr 208 qX12_spots_9 fl_X12_33 shq_206 kdq_11_6 rrq_206_6 ?_
  refine e_iconst (nI 0) qX12_spots_12 rfl ?_
  refine e_iald qX12_spots_13 shq_208 lnq_208 h (fun v2 h => ?_)
  refine e_ishl qX12_spots_14 ?_
  refine e_iconst (nI 1) qX12_spots_15 rfl ?_
  refine e_isub qX12_spots_16 ?_
  obtain ⟨v3, hc, h⟩ := bp_e h
  refine e_cSi3 qX12_spots_17 ms_X12_186 rfl rfl (w_X12_isIn hc) ?_
  refine e_if_ne (tgt := 25) qX12_spots_20 rfl h (fun _ h => ?_) (fun _ h => ?_)
  · refine e_iconst (-1) qX12_spots_23 rfl ?_
    exact e_iret qX12_spots_24 rfl (ret_i h)
  refine e_iconst (nI 0) qX12_spots_25 rfl ?_
  refine e_istore_n (lv2 := [some (.ref 206), some (.int x1), some (.int (nI 0)), none, none]) qX12_spots_26 rfl rfl rfl ?_
  refine e_iconst (nI 0) qX12_spots_27 rfl ?_
  refine e_istore_n (lv2 := [some (.ref 206), some (.int x1), some (.int (nI 0)), some (.int (nI 0)), none]) qX12_spots_28 rfl rfl rfl ?_
  refine e_sipush (nI 399) qX12_spots_29 rfl ?_
  refine e_istore (lv2 := [some (.ref 206), some (.int x1), some (.int (nI 0)), some (.int (nI 0)), some (.int (nI 399))]) qX12_spots_32 rfl rfl rfl ?_
  refine e_weak (w_X12_spots_L34 (fun v23 v24 h => ?_) _ _ _ _ h) ⟨Or.inr rfl, Or.inr rfl, Or.inr rfl, Or.inr rfl, Or.inr rfl, trivial⟩
  refine e_iload_n qX12_spots_80 rfl ?_
  refine e_if_ne (tgt := 86) qX12_spots_81 rfl h (fun _ h => ?_) (fun _ h => ?_)
  · refine e_iconst (nI 0) qX12_spots_84 rfl ?_
    exact e_iret qX12_spots_85 rfl (ret_i h)
  refine e_aload_n qX12_spots_86 rfl ?_
  refine e_iconst (nI 1) qX12_spots_87 rfl ?_
  refine e_putz qX12_spots_88 fp_X12_380 shq_206 kdq_11_35 (by decide) h (fun s25 h => ?_)
  refine e_aload_n qX12_spots_91 rfl ?_
  refine e_iload_n qX12_spots_92 rfl ?_
  refine e_puti qX12_spots_93 fp_X12_383 shq_206 kdq_11_33 h (fun s26 h => ?_)
  refine e_iload_n qX12_spots_96 rfl ?_
  exact e_iret qX12_spots_97 rfl (ret_i h)
