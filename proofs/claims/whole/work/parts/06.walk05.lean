def f_X12_visibleFrom_L6 (N : Nat) (c1 : Int32) (c2 : Int32) (c3 : Int32) (s0 : St) : Nat → Int32 → Int32 → Option (Int32)
  | 0, _, _ => none
  | n6 + 1, v4, v5 =>
    ald (s0.1 208) 359 (nI 0) fun v8 =>
    if v8 ≤ v5 then
      some v4
    else
    bp (f_X12_isVisibleBy v5 c1 c2 c3 s0) fun v9 =>
    jn (fun (v10 : Int32) =>
      vl (v4 ||| v10) fun v12 =>
      vl (v5 + (nI 1)) fun v13 =>
      f_X12_visibleFrom_L6 N c1 c2 c3 s0 n6 v12 v13) fun j11 =>
    if v9 = 0 then
      j11 (nI 0)
    else
    j11 ((nI 1) <<< (v5 &&& 31))

def f_X12_visibleFrom (N : Nat) (x1 : Int32) (x2 : Int32) (x3 : Int32) (s0 : St) : Option (Int32) :=
  f_X12_visibleFrom_L6 N x1 x2 x3 s0 N (nI 0) (nI 0)

theorem qX12_visibleFrom_0 : Dc mX12_visibleFrom 0 (.iconst 0) 1 1 := ⟨by decide +kernel, rfl⟩
theorem qX12_visibleFrom_1 : Dc mX12_visibleFrom 1 (.istore 4) 2 3 := ⟨by decide +kernel, rfl⟩
theorem qX12_visibleFrom_3 : Dc mX12_visibleFrom 3 (.iconst 0) 1 4 := ⟨by decide +kernel, rfl⟩
theorem qX12_visibleFrom_4 : Dc mX12_visibleFrom 4 (.istore 5) 2 6 := ⟨by decide +kernel, rfl⟩
theorem qX12_visibleFrom_6 : Dc mX12_visibleFrom 6 (.iload 5) 2 8 := ⟨by decide +kernel, rfl⟩
theorem qX12_visibleFrom_8 : Dc mX12_visibleFrom 8 (.aload_n 0) 1 9 := ⟨by decide +kernel, rfl⟩
theorem qX12_visibleFrom_9 : Dc mX12_visibleFrom 9 (.getfield 33) 3 12 := ⟨by decide +kernel, rfl⟩
theorem qX12_visibleFrom_12 : Dc mX12_visibleFrom 12 (.iconst 0) 1 13 := ⟨by decide +kernel, rfl⟩
theorem qX12_visibleFrom_13 : Dc mX12_visibleFrom 13 (.iaload) 1 14 := ⟨by decide +kernel, rfl⟩
theorem qX12_visibleFrom_14 : Dc mX12_visibleFrom 14 (.if_icmp .ge 34) 3 17 := ⟨by decide +kernel, rfl⟩
theorem qX12_visibleFrom_17 : Dc mX12_visibleFrom 17 (.iload 4) 2 19 := ⟨by decide +kernel, rfl⟩
theorem qX12_visibleFrom_19 : Dc mX12_visibleFrom 19 (.aload_n 0) 1 20 := ⟨by decide +kernel, rfl⟩
theorem qX12_visibleFrom_20 : Dc mX12_visibleFrom 20 (.iload 5) 2 22 := ⟨by decide +kernel, rfl⟩
theorem qX12_visibleFrom_22 : Dc mX12_visibleFrom 22 (.iload_n 1) 1 23 := ⟨by decide +kernel, rfl⟩
theorem qX12_visibleFrom_23 : Dc mX12_visibleFrom 23 (.iload_n 2) 1 24 := ⟨by decide +kernel, rfl⟩
theorem qX12_visibleFrom_24 : Dc mX12_visibleFrom 24 (.iload_n 3) 1 25 := ⟨by decide +kernel, rfl⟩
theorem qX12_visibleFrom_25 : Dc mX12_visibleFrom 25 (.invokevirtual 280) 3 28 := ⟨by decide +kernel, rfl⟩
theorem qX12_visibleFrom_28 : Dc mX12_visibleFrom 28 (.ifCond .eq 10) 3 31 := ⟨by decide +kernel, rfl⟩
theorem qX12_visibleFrom_31 : Dc mX12_visibleFrom 31 (.iconst 1) 1 32 := ⟨by decide +kernel, rfl⟩
theorem qX12_visibleFrom_32 : Dc mX12_visibleFrom 32 (.iload 5) 2 34 := ⟨by decide +kernel, rfl⟩
theorem qX12_visibleFrom_34 : Dc mX12_visibleFrom 34 (.ishl) 1 35 := ⟨by decide +kernel, rfl⟩
theorem qX12_visibleFrom_35 : Dc mX12_visibleFrom 35 (.goto 4) 3 38 := ⟨by decide +kernel, rfl⟩
theorem qX12_visibleFrom_38 : Dc mX12_visibleFrom 38 (.iconst 0) 1 39 := ⟨by decide +kernel, rfl⟩
theorem qX12_visibleFrom_39 : Dc mX12_visibleFrom 39 (.ior) 1 40 := ⟨by decide +kernel, rfl⟩
theorem qX12_visibleFrom_40 : Dc mX12_visibleFrom 40 (.istore 4) 2 42 := ⟨by decide +kernel, rfl⟩
theorem qX12_visibleFrom_42 : Dc mX12_visibleFrom 42 (.iinc 5 1) 3 45 := ⟨by decide +kernel, rfl⟩
theorem qX12_visibleFrom_45 : Dc mX12_visibleFrom 45 (.goto (-39)) 3 48 := ⟨by decide +kernel, rfl⟩
theorem qX12_visibleFrom_48 : Dc mX12_visibleFrom 48 (.iload 4) 2 50 := ⟨by decide +kernel, rfl⟩
theorem qX12_visibleFrom_50 : Dc mX12_visibleFrom 50 (.ireturn) 1 51 := ⟨by decide +kernel, rfl⟩

set_option maxRecDepth 20000 in
set_option maxHeartbeats 4000000 in
theorem w_X12_visibleFrom_L6 {N : Nat} {c1 : Int32} {c2 : Int32} {c3 : Int32} {s0 : St}  {r : Int32}   : ∀ (n6 : Nat) (v4 : Int32) (v5 : Int32), f_X12_visibleFrom_L6 N c1 c2 c3 s0 n6 v4 v5 = some r → E mX12_visibleFrom 2 (some (.int r), s0) 6 [some (.ref 206), some (.int c1), some (.int c2), some (.int c3), some (.int v4), some (.int v5)] [] s0 := by
  intro n6
  induction n6 with
  | zero =>
    intro v4 v5 h
    rw [f_X12_visibleFrom_L6] at h; cases h
  | succ n6 ih7 =>
    intro v4 v5 h
    rw [f_X12_visibleFrom_L6] at h
    refine e_iload qX12_visibleFrom_6 rfl ?_
    refine e_aload_n qX12_visibleFrom_8 rfl ?_
    refine e_getr 208 qX12_visibleFrom_9 fl_X12_33 shq_206 kdq_11_6 rrq_206_6 ?_
    refine e_iconst (nI 0) qX12_visibleFrom_12 rfl ?_
    refine e_iald qX12_visibleFrom_13 shq_208 lnq_208 h (fun v8 h => ?_)
    refine e_icmp_ge (tgt := 48) qX12_visibleFrom_14 rfl h (fun _ h => ?_) (fun _ h => ?_)
    · refine e_iload qX12_visibleFrom_48 rfl ?_
      exact e_iret qX12_visibleFrom_50 rfl (ret_p h)
    refine e_iload qX12_visibleFrom_17 rfl ?_
    refine e_aload_n qX12_visibleFrom_19 rfl ?_
    refine e_iload qX12_visibleFrom_20 rfl ?_
    refine e_iload_n qX12_visibleFrom_22 rfl ?_
    refine e_iload_n qX12_visibleFrom_23 rfl ?_
    refine e_iload_n qX12_visibleFrom_24 rfl ?_
    obtain ⟨v9, hc, h⟩ := bp_e h
    refine e_cVi4 qX12_visibleFrom_25 mv_X12_280 shq_206 rfl rfl (w_X12_isVisibleBy hc) ?_
    refine jn_e (fun j => ∀ (v10 : Int32), j v10 = some r → E mX12_visibleFrom 2 (some (.int r), s0) 39 [some (.ref 206), some (.int c1), some (.int c2), some (.int c3), none, some (.int v5)] [.int v10, .int v4] s0) h ?_ (fun j11 hj11 h => ?_)
    · intro v10 h
      refine e_ior qX12_visibleFrom_39 ?_
      refine vl_e h (fun h => ?_)
      generalize (v4 ||| v10) = v12 at h ⊢
      refine e_istore (lv2 := [some (.ref 206), some (.int c1), some (.int c2), some (.int c3), some (.int v12), some (.int v5)]) qX12_visibleFrom_40 rfl rfl rfl ?_
      refine vl_e h (fun h => ?_)
      obtain ⟨v13, ev13⟩ : ∃ y, v5 + (nI 1) = y := ⟨_, rfl⟩
      rw [ev13] at h
      refine e_iinc (nI 1) v13 (lv2 := [some (.ref 206), some (.int c1), some (.int c2), some (.int c3), some (.int v12), some (.int v13)]) qX12_visibleFrom_42 rfl rfl rfl ev13 rfl ?_
      refine e_goto (tgt := 6) qX12_visibleFrom_45 rfl ?_
      exact e_weak (ih7 _ _ h) ⟨Or.inr rfl, Or.inr rfl, Or.inr rfl, Or.inr rfl, Or.inr rfl, Or.inr rfl, trivial⟩
    refine e_if_eq (tgt := 38) qX12_visibleFrom_28 rfl h (fun _ h => ?_) (fun _ h => ?_)
    · refine e_iconst (nI 0) qX12_visibleFrom_38 rfl ?_
      exact e_weak (hj11 _ h) ⟨Or.inr rfl, Or.inr rfl, Or.inr rfl, Or.inr rfl, Or.inl rfl, Or.inr rfl, trivial⟩
    refine e_iconst (nI 1) qX12_visibleFrom_31 rfl ?_
    refine e_iload qX12_visibleFrom_32 rfl ?_
    refine e_ishl qX12_visibleFrom_34 ?_
    refine e_goto (tgt := 39) qX12_visibleFrom_35 rfl ?_
    exact e_weak (hj11 _ h) ⟨Or.inr rfl, Or.inr rfl, Or.inr rfl, Or.inr rfl, Or.inl rfl, Or.inr rfl, trivial⟩

set_option maxRecDepth 20000 in
set_option maxHeartbeats 4000000 in
theorem w_X12_visibleFrom {N : Nat} {x1 : Int32} {x2 : Int32} {x3 : Int32} {s0 : St} {r : Int32} (h : f_X12_visibleFrom N x1 x2 x3 s0 = some r) : Ct mX12_visibleFrom 2 [.ref 206, .int x1, .int x2, .int x3] s0 (some (.int r), s0) := by
  refine Ct.ofE (by decide +kernel) rfl ?_
  show E mX12_visibleFrom 2 (some (.int r), s0) 0 [some (.ref 206), some (.int x1), some (.int x2), some (.int x3), none, none] [] s0
  unfold f_X12_visibleFrom at h
  refine e_iconst (nI 0) qX12_visibleFrom_0 rfl ?_
  refine e_istore (lv2 := [some (.ref 206), some (.int x1), some (.int x2), some (.int x3), some (.int (nI 0)), none]) qX12_visibleFrom_1 rfl rfl rfl ?_
  refine e_iconst (nI 0) qX12_visibleFrom_3 rfl ?_
  refine e_istore (lv2 := [some (.ref 206), some (.int x1), some (.int x2), some (.int x3), some (.int (nI 0)), some (.int (nI 0))]) qX12_visibleFrom_4 rfl rfl rfl ?_
  exact e_weak (w_X12_visibleFrom_L6  _ _ _ h) ⟨Or.inr rfl, Or.inr rfl, Or.inr rfl, Or.inr rfl, Or.inr rfl, Or.inr rfl, trivial⟩

def f_X12_shining_L4 (N : Nat) (s0 : St) : Nat → Int32 → Int32 → Option (Int32)
  | 0, _, _ => none
  | n3 + 1, v1, v2 =>
    ald (s0.1 208) 359 (nI 0) fun v5 =>
    if v5 ≤ v2 then
      some v1
    else
    bp (f_X12_isShining N v2 s0) fun v6 =>
    jn (fun (v7 : Int32) =>
      vl (v1 ||| v7) fun v9 =>
      vl (v2 + (nI 1)) fun v10 =>
      f_X12_shining_L4 N s0 n3 v9 v10) fun j8 =>
    if v6 = 0 then
      j8 (nI 0)
    else
    j8 ((nI 1) <<< (v2 &&& 31))

def f_X12_shining (N : Nat)  (s0 : St) : Option (Int32) :=
  f_X12_shining_L4 N s0 N (nI 0) (nI 0)

theorem qX12_shining_0 : Dc mX12_shining 0 (.iconst 0) 1 1 := ⟨by decide +kernel, rfl⟩
theorem qX12_shining_1 : Dc mX12_shining 1 (.istore_n 1) 1 2 := ⟨by decide +kernel, rfl⟩
theorem qX12_shining_2 : Dc mX12_shining 2 (.iconst 0) 1 3 := ⟨by decide +kernel, rfl⟩
theorem qX12_shining_3 : Dc mX12_shining 3 (.istore_n 2) 1 4 := ⟨by decide +kernel, rfl⟩
theorem qX12_shining_4 : Dc mX12_shining 4 (.iload_n 2) 1 5 := ⟨by decide +kernel, rfl⟩
theorem qX12_shining_5 : Dc mX12_shining 5 (.aload_n 0) 1 6 := ⟨by decide +kernel, rfl⟩
theorem qX12_shining_6 : Dc mX12_shining 6 (.getfield 33) 3 9 := ⟨by decide +kernel, rfl⟩
theorem qX12_shining_9 : Dc mX12_shining 9 (.iconst 0) 1 10 := ⟨by decide +kernel, rfl⟩
theorem qX12_shining_10 : Dc mX12_shining 10 (.iaload) 1 11 := ⟨by decide +kernel, rfl⟩
theorem qX12_shining_11 : Dc mX12_shining 11 (.if_icmp .ge 27) 3 14 := ⟨by decide +kernel, rfl⟩
theorem qX12_shining_14 : Dc mX12_shining 14 (.iload_n 1) 1 15 := ⟨by decide +kernel, rfl⟩
theorem qX12_shining_15 : Dc mX12_shining 15 (.aload_n 0) 1 16 := ⟨by decide +kernel, rfl⟩
theorem qX12_shining_16 : Dc mX12_shining 16 (.iload_n 2) 1 17 := ⟨by decide +kernel, rfl⟩
theorem qX12_shining_17 : Dc mX12_shining 17 (.invokevirtual 284) 3 20 := ⟨by decide +kernel, rfl⟩
theorem qX12_shining_20 : Dc mX12_shining 20 (.ifCond .eq 9) 3 23 := ⟨by decide +kernel, rfl⟩
theorem qX12_shining_23 : Dc mX12_shining 23 (.iconst 1) 1 24 := ⟨by decide +kernel, rfl⟩
theorem qX12_shining_24 : Dc mX12_shining 24 (.iload_n 2) 1 25 := ⟨by decide +kernel, rfl⟩
theorem qX12_shining_25 : Dc mX12_shining 25 (.ishl) 1 26 := ⟨by decide +kernel, rfl⟩
theorem qX12_shining_26 : Dc mX12_shining 26 (.goto 4) 3 29 := ⟨by decide +kernel, rfl⟩
theorem qX12_shining_29 : Dc mX12_shining 29 (.iconst 0) 1 30 := ⟨by decide +kernel, rfl⟩
theorem qX12_shining_30 : Dc mX12_shining 30 (.ior) 1 31 := ⟨by decide +kernel, rfl⟩
theorem qX12_shining_31 : Dc mX12_shining 31 (.istore_n 1) 1 32 := ⟨by decide +kernel, rfl⟩
theorem qX12_shining_32 : Dc mX12_shining 32 (.iinc 2 1) 3 35 := ⟨by decide +kernel, rfl⟩
theorem qX12_shining_35 : Dc mX12_shining 35 (.goto (-31)) 3 38 := ⟨by decide +kernel, rfl⟩
theorem qX12_shining_38 : Dc mX12_shining 38 (.iload_n 1) 1 39 := ⟨by decide +kernel, rfl⟩
theorem qX12_shining_39 : Dc mX12_shining 39 (.ireturn) 1 40 := ⟨by decide +kernel, rfl⟩

set_option maxRecDepth 20000 in
set_option maxHeartbeats 4000000 in
theorem w_X12_shining_L4 {N : Nat}  {s0 : St}  {r : Int32}   : ∀ (n3 : Nat) (v1 : Int32) (v2 : Int32), f_X12_shining_L4 N s0 n3 v1 v2 = some r → E mX12_shining 3 (some (.int r), s0) 4 [some (.ref 206), some (.int v1), some (.int v2)] [] s0 := by
  intro n3
  induction n3 with
  | zero =>
    intro v1 v2 h
    rw [f_X12_shining_L4] at h; cases h
  | succ n3 ih4 =>
    intro v1 v2 h
    rw [f_X12_shining_L4] at h
    refine e_iload_n qX12_shining_4 rfl ?_
    refine e_aload_n qX12_shining_5 rfl ?_
    refine e_getr 208 qX12_shining_6 fl_X12_33 shq_206 kdq_11_6 rrq_206_6 ?_
    refine e_iconst (nI 0) qX12_shining_9 rfl ?_
    refine e_iald qX12_shining_10 shq_208 lnq_208 h (fun v5 h => ?_)
    refine e_icmp_ge (tgt := 38) qX12_shining_11 rfl h (fun _ h => ?_) (fun _ h => ?_)
    · refine e_iload_n qX12_shining_38 rfl ?_
      exact e_iret qX12_shining_39 rfl (ret_p h)
    refine e_iload_n qX12_shining_14 rfl ?_
    refine e_aload_n qX12_shining_15 rfl ?_
    refine e_iload_n qX12_shining_16 rfl ?_
    obtain ⟨v6, hc, h⟩ := bp_e h
    refine e_cVi1 qX12_shining_17 mv_X12_284 shq_206 rfl rfl (w_X12_isShining hc) ?_
    refine jn_e (fun j => ∀ (v7 : Int32), j v7 = some r → E mX12_shining 3 (some (.int r), s0) 30 [some (.ref 206), none, some (.int v2)] [.int v7, .int v1] s0) h ?_ (fun j8 hj8 h => ?_)
    · intro v7 h
      refine e_ior qX12_shining_30 ?_
      refine vl_e h (fun h => ?_)
      generalize (v1 ||| v7) = v9 at h ⊢
      refine e_istore_n (lv2 := [some (.ref 206), some (.int v9), some (.int v2)]) qX12_shining_31 rfl rfl rfl ?_
      refine vl_e h (fun h => ?_)
      obtain ⟨v10, ev10⟩ : ∃ y, v2 + (nI 1) = y := ⟨_, rfl⟩
      rw [ev10] at h
      refine e_iinc (nI 1) v10 (lv2 := [some (.ref 206), some (.int v9), some (.int v10)]) qX12_shining_32 rfl rfl rfl ev10 rfl ?_
      refine e_goto (tgt := 4) qX12_shining_35 rfl ?_
      exact e_weak (ih4 _ _ h) ⟨Or.inr rfl, Or.inr rfl, Or.inr rfl, trivial⟩
    refine e_if_eq (tgt := 29) qX12_shining_20 rfl h (fun _ h => ?_) (fun _ h => ?_)
    · refine e_iconst (nI 0) qX12_shining_29 rfl ?_
      exact e_weak (hj8 _ h) ⟨Or.inr rfl, Or.inl rfl, Or.inr rfl, trivial⟩
    refine e_iconst (nI 1) qX12_shining_23 rfl ?_
    refine e_iload_n qX12_shining_24 rfl ?_
    refine e_ishl qX12_shining_25 ?_
    refine e_goto (tgt := 30) qX12_shining_26 rfl ?_
    exact e_weak (hj8 _ h) ⟨Or.inr rfl, Or.inl rfl, Or.inr rfl, trivial⟩

set_option maxRecDepth 20000 in
set_option maxHeartbeats 4000000 in
theorem w_X12_shining {N : Nat}  {s0 : St} {r : Int32} (h : f_X12_shining N  s0 = some r) : Ct mX12_shining 3 [.ref 206] s0 (some (.int r), s0) := by
  refine Ct.ofE (by decide +kernel) rfl ?_
  show E mX12_shining 3 (some (.int r), s0) 0 [some (.ref 206), none, none] [] s0
  unfold f_X12_shining at h
  refine e_iconst (nI 0) qX12_shining_0 rfl ?_
  refine e_istore_n (lv2 := [some (.ref 206), some (.int (nI 0)), none]) qX12_shining_1 rfl rfl rfl ?_
  refine e_iconst (nI 0) qX12_shining_2 rfl ?_
  refine e_istore_n (lv2 := [some (.ref 206), some (.int (nI 0)), some (.int (nI 0))]) qX12_shining_3 rfl rfl rfl ?_
  exact e_weak (w_X12_shining_L4  _ _ _ h) ⟨Or.inr rfl, Or.inr rfl, Or.inr rfl, trivial⟩

def f_X12_seenBy (N : Nat) (x1 : Int32) (s0 : St) : Option (Int32) :=
  ald (s0.1 208) 359 ((nI 166) + x1) fun v1 =>
  ald (s0.1 208) 359 ((nI 170) + x1) fun v2 =>
  ald (s0.1 208) 359 (nI 149) fun v3 =>
  bp (f_X12_visibleFrom N v1 v2 v3 s0) fun v4 =>
  bp (f_X12_shining N s0) fun v5 =>
  some (v4 &&& v5)

theorem qX12_seenBy_0 : Dc mX12_seenBy 0 (.aload_n 0) 1 1 := ⟨by decide +kernel, rfl⟩
theorem qX12_seenBy_1 : Dc mX12_seenBy 1 (.aload_n 0) 1 2 := ⟨by decide +kernel, rfl⟩
theorem qX12_seenBy_2 : Dc mX12_seenBy 2 (.getfield 33) 3 5 := ⟨by decide +kernel, rfl⟩
theorem qX12_seenBy_5 : Dc mX12_seenBy 5 (.sipush 166) 3 8 := ⟨by decide +kernel, rfl⟩
theorem qX12_seenBy_8 : Dc mX12_seenBy 8 (.iload_n 1) 1 9 := ⟨by decide +kernel, rfl⟩
theorem qX12_seenBy_9 : Dc mX12_seenBy 9 (.iadd) 1 10 := ⟨by decide +kernel, rfl⟩
theorem qX12_seenBy_10 : Dc mX12_seenBy 10 (.iaload) 1 11 := ⟨by decide +kernel, rfl⟩
theorem qX12_seenBy_11 : Dc mX12_seenBy 11 (.aload_n 0) 1 12 := ⟨by decide +kernel, rfl⟩
theorem qX12_seenBy_12 : Dc mX12_seenBy 12 (.getfield 33) 3 15 := ⟨by decide +kernel, rfl⟩
theorem qX12_seenBy_15 : Dc mX12_seenBy 15 (.sipush 170) 3 18 := ⟨by decide +kernel, rfl⟩
theorem qX12_seenBy_18 : Dc mX12_seenBy 18 (.iload_n 1) 1 19 := ⟨by decide +kernel, rfl⟩
theorem qX12_seenBy_19 : Dc mX12_seenBy 19 (.iadd) 1 20 := ⟨by decide +kernel, rfl⟩
theorem qX12_seenBy_20 : Dc mX12_seenBy 20 (.iaload) 1 21 := ⟨by decide +kernel, rfl⟩
theorem qX12_seenBy_21 : Dc mX12_seenBy 21 (.aload_n 0) 1 22 := ⟨by decide +kernel, rfl⟩
theorem qX12_seenBy_22 : Dc mX12_seenBy 22 (.getfield 33) 3 25 := ⟨by decide +kernel, rfl⟩
theorem qX12_seenBy_25 : Dc mX12_seenBy 25 (.sipush 149) 3 28 := ⟨by decide +kernel, rfl⟩
theorem qX12_seenBy_28 : Dc mX12_seenBy 28 (.iaload) 1 29 := ⟨by decide +kernel, rfl⟩
theorem qX12_seenBy_29 : Dc mX12_seenBy 29 (.invokevirtual 287) 3 32 := ⟨by decide +kernel, rfl⟩
theorem qX12_seenBy_32 : Dc mX12_seenBy 32 (.aload_n 0) 1 33 := ⟨by decide +kernel, rfl⟩
theorem qX12_seenBy_33 : Dc mX12_seenBy 33 (.invokevirtual 291) 3 36 := ⟨by decide +kernel, rfl⟩
theorem qX12_seenBy_36 : Dc mX12_seenBy 36 (.iand) 1 37 := ⟨by decide +kernel, rfl⟩
theorem qX12_seenBy_37 : Dc mX12_seenBy 37 (.ireturn) 1 38 := ⟨by decide +kernel, rfl⟩

set_option maxRecDepth 20000 in
set_option maxHeartbeats 4000000 in
theorem w_X12_seenBy {N : Nat} {x1 : Int32} {s0 : St} {r : Int32} (h : f_X12_seenBy N x1 s0 = some r) : Ct mX12_seenBy 4 [.ref 206, .int x1] s0 (some (.int r), s0) := by
  refine Ct.ofE (by decide +kernel) rfl ?_
  show E mX12_seenBy 4 (some (.int r), s0) 0 [some (.ref 206), some (.int x1)] [] s0
  unfold f_X12_seenBy at h
  refine e_aload_n qX12_seenBy_0 rfl ?_
  refine e_aload_n qX12_seenBy_1 rfl ?_
  refine e_getr 208 qX12_seenBy_2 fl_X12_33 shq_206 kdq_11_6 rrq_206_6 ?_
  refine e_sipush (nI 166) qX12_seenBy_5 rfl ?_
  refine e_iload_n qX12_seenBy_8 rfl ?_
  refine e_iadd qX12_seenBy_9 ?_
  refine e_iald qX12_seenBy_10 shq_208 lnq_208 h (fun v1 h => ?_)
  refine e_aload_n qX12_seenBy_11 rfl ?_
  refine e_getr 208 qX12_seenBy_12 fl_X12_33 shq_206 kdq_11_6 rrq_206_6 ?_
  refine e_sipush (nI 170) qX12_seenBy_15 rfl ?_
  refine e_iload_n qX12_seenBy_18 rfl ?_
  refine e_iadd qX12_seenBy_19 ?_
  refine e_iald qX12_seenBy_20 shq_208 lnq_208 h (fun v2 h => ?_)
  refine e_aload_n qX12_seenBy_21 rfl ?_
  refine e_getr 208 qX12_seenBy_22 fl_X12_33 shq_206 kdq_11_6 rrq_206_6 ?_
  refine e_sipush (nI 149) qX12_seenBy_25 rfl ?_
  refine e_iald qX12_seenBy_28 shq_208 lnq_208 h (fun v3 h => ?_)
  obtain ⟨v4, hc, h⟩ := bp_e h
  refine e_cVi3 qX12_seenBy_29 mv_X12_287 shq_206 rfl rfl (w_X12_visibleFrom hc) ?_
  refine e_aload_n qX12_seenBy_32 rfl ?_
  obtain ⟨v5, hc, h⟩ := bp_e h
  refine e_cVi0 qX12_seenBy_33 mv_X12_291 shq_206 rfl rfl (w_X12_shining hc) ?_
  refine e_iand qX12_seenBy_36 ?_
  exact e_iret qX12_seenBy_37 rfl (ret_p h)

def f_X12_oilInAll_L4 (N : Nat) (s0 : St) : Nat → Int32 → Int32 → Option (Int32)
  | 0, _, _ => none
  | n3 + 1, v1, v2 =>
    ald (s0.1 208) 359 (nI 0) fun v5 =>
    if v5 ≤ v2 then
      some v1
    else
    ald (s0.1 208) 359 ((nI 150) + v2) fun v6 =>
    vl (v1 + v6) fun v7 =>
    vl (v2 + (nI 1)) fun v8 =>
    f_X12_oilInAll_L4 N s0 n3 v7 v8

def f_X12_oilInAll (N : Nat)  (s0 : St) : Option (Int32) :=
  f_X12_oilInAll_L4 N s0 N (nI 0) (nI 0)

theorem qX12_oilInAll_0 : Dc mX12_oilInAll 0 (.iconst 0) 1 1 := ⟨by decide +kernel, rfl⟩
theorem qX12_oilInAll_1 : Dc mX12_oilInAll 1 (.istore_n 1) 1 2 := ⟨by decide +kernel, rfl⟩
theorem qX12_oilInAll_2 : Dc mX12_oilInAll 2 (.iconst 0) 1 3 := ⟨by decide +kernel, rfl⟩
theorem qX12_oilInAll_3 : Dc mX12_oilInAll 3 (.istore_n 2) 1 4 := ⟨by decide +kernel, rfl⟩
theorem qX12_oilInAll_4 : Dc mX12_oilInAll 4 (.iload_n 2) 1 5 := ⟨by decide +kernel, rfl⟩
theorem qX12_oilInAll_5 : Dc mX12_oilInAll 5 (.aload_n 0) 1 6 := ⟨by decide +kernel, rfl⟩
theorem qX12_oilInAll_6 : Dc mX12_oilInAll 6 (.getfield 33) 3 9 := ⟨by decide +kernel, rfl⟩
theorem qX12_oilInAll_9 : Dc mX12_oilInAll 9 (.iconst 0) 1 10 := ⟨by decide +kernel, rfl⟩
theorem qX12_oilInAll_10 : Dc mX12_oilInAll 10 (.iaload) 1 11 := ⟨by decide +kernel, rfl⟩
theorem qX12_oilInAll_11 : Dc mX12_oilInAll 11 (.if_icmp .ge 22) 3 14 := ⟨by decide +kernel, rfl⟩
theorem qX12_oilInAll_14 : Dc mX12_oilInAll 14 (.iload_n 1) 1 15 := ⟨by decide +kernel, rfl⟩
theorem qX12_oilInAll_15 : Dc mX12_oilInAll 15 (.aload_n 0) 1 16 := ⟨by decide +kernel, rfl⟩
theorem qX12_oilInAll_16 : Dc mX12_oilInAll 16 (.getfield 33) 3 19 := ⟨by decide +kernel, rfl⟩
theorem qX12_oilInAll_19 : Dc mX12_oilInAll 19 (.sipush 150) 3 22 := ⟨by decide +kernel, rfl⟩
theorem qX12_oilInAll_22 : Dc mX12_oilInAll 22 (.iload_n 2) 1 23 := ⟨by decide +kernel, rfl⟩
theorem qX12_oilInAll_23 : Dc mX12_oilInAll 23 (.iadd) 1 24 := ⟨by decide +kernel, rfl⟩
theorem qX12_oilInAll_24 : Dc mX12_oilInAll 24 (.iaload) 1 25 := ⟨by decide +kernel, rfl⟩
theorem qX12_oilInAll_25 : Dc mX12_oilInAll 25 (.iadd) 1 26 := ⟨by decide +kernel, rfl⟩
theorem qX12_oilInAll_26 : Dc mX12_oilInAll 26 (.istore_n 1) 1 27 := ⟨by decide +kernel, rfl⟩
theorem qX12_oilInAll_27 : Dc mX12_oilInAll 27 (.iinc 2 1) 3 30 := ⟨by decide +kernel, rfl⟩
theorem qX12_oilInAll_30 : Dc mX12_oilInAll 30 (.goto (-26)) 3 33 := ⟨by decide +kernel, rfl⟩
theorem qX12_oilInAll_33 : Dc mX12_oilInAll 33 (.iload_n 1) 1 34 := ⟨by decide +kernel, rfl⟩
theorem qX12_oilInAll_34 : Dc mX12_oilInAll 34 (.ireturn) 1 35 := ⟨by decide +kernel, rfl⟩

set_option maxRecDepth 20000 in
set_option maxHeartbeats 4000000 in
theorem w_X12_oilInAll_L4 {N : Nat}  {s0 : St}  {r : Int32}   : ∀ (n3 : Nat) (v1 : Int32) (v2 : Int32), f_X12_oilInAll_L4 N s0 n3 v1 v2 = some r → E mX12_oilInAll 0 (some (.int r), s0) 4 [some (.ref 206), some (.int v1), some (.int v2)] [] s0 := by
  intro n3
  induction n3 with
  | zero =>
    intro v1 v2 h
    rw [f_X12_oilInAll_L4] at h; cases h
  | succ n3 ih4 =>
    intro v1 v2 h
    rw [f_X12_oilInAll_L4] at h
    refine e_iload_n qX12_oilInAll_4 rfl ?_
    refine e_aload_n qX12_oilInAll_5 rfl ?_
    refine e_getr 208 qX12_oilInAll_6 fl_X12_33 shq_206 kdq_11_6 rrq_206_6 ?_
    refine e_iconst (nI 0) qX12_oilInAll_9 rfl ?_
    refine e_iald qX12_oilInAll_10 shq_208 lnq_208 h (fun v5 h => ?_)
    refine e_icmp_ge (tgt := 33) qX12_oilInAll_11 rfl h (fun _ h => ?_) (fun _ h => ?_)
    · refine e_iload_n qX12_oilInAll_33 rfl ?_
      exact e_iret qX12_oilInAll_34 rfl (ret_p h)
    refine e_iload_n qX12_oilInAll_14 rfl ?_
    refine e_aload_n qX12_oilInAll_15 rfl ?_
    refine e_getr 208 qX12_oilInAll_16 fl_X12_33 shq_206 kdq_11_6 rrq_206_6 ?_
    refine e_sipush (nI 150) qX12_oilInAll_19 rfl ?_
    refine e_iload_n qX12_oilInAll_22 rfl ?_
    refine e_iadd qX12_oilInAll_23 ?_
    refine e_iald qX12_oilInAll_24 shq_208 lnq_208 h (fun v6 h => ?_)
    refine e_iadd qX12_oilInAll_25 ?_
    refine vl_e h (fun h => ?_)
    generalize (v1 + v6) = v7 at h ⊢
    refine e_istore_n (lv2 := [some (.ref 206), some (.int v7), some (.int v2)]) qX12_oilInAll_26 rfl rfl rfl ?_
    refine vl_e h (fun h => ?_)
    obtain ⟨v8, ev8⟩ : ∃ y, v2 + (nI 1) = y := ⟨_, rfl⟩
    rw [ev8] at h
    refine e_iinc (nI 1) v8 (lv2 := [some (.ref 206), some (.int v7), some (.int v8)]) qX12_oilInAll_27 rfl rfl rfl ev8 rfl ?_
    refine e_goto (tgt := 4) qX12_oilInAll_30 rfl ?_
    exact e_weak (ih4 _ _ h) ⟨Or.inr rfl, Or.inr rfl, Or.inr rfl, trivial⟩

set_option maxRecDepth 20000 in
set_option maxHeartbeats 4000000 in
theorem w_X12_oilInAll {N : Nat}  {s0 : St} {r : Int32} (h : f_X12_oilInAll N  s0 = some r) : Ct mX12_oilInAll 0 [.ref 206] s0 (some (.int r), s0) := by
  refine Ct.ofE (by decide +kernel) rfl ?_
  show E mX12_oilInAll 0 (some (.int r), s0) 0 [some (.ref 206), none, none] [] s0
  unfold f_X12_oilInAll at h
  refine e_iconst (nI 0) qX12_oilInAll_0 rfl ?_
  refine e_istore_n (lv2 := [some (.ref 206), some (.int (nI 0)), none]) qX12_oilInAll_1 rfl rfl rfl ?_
  refine e_iconst (nI 0) qX12_oilInAll_2 rfl ?_
  refine e_istore_n (lv2 := [some (.ref 206), some (.int (nI 0)), some (.int (nI 0))]) qX12_oilInAll_3 rfl rfl rfl ?_
  exact e_weak (w_X12_oilInAll_L4  _ _ _ h) ⟨Or.inr rfl, Or.inr rfl, Or.inr rfl, trivial⟩

def f_X12_light (N : Nat) (x1 : Int32) (x2 : Int32) (s0 : St) : Option (Int32 × St) :=
  bp (f_X12_isLight x1 s0) fun v1 =>
  jn (fun (v2 : Int32) =>
    bd (f_X12_throwsIf v2 s0) fun v4 s5 =>
    if v4 = 0 then
      if x2 = nI 0 then
        ald (s5.1 208) 359 ((nI 3) + x1) fun v6 =>
        some (v6, s5)
      else
      if x2 = nI 1 then
        ald (s5.1 208) 359 ((nI 11) + x1) fun v7 =>
        some (v7, s5)
      else
      if x2 = nI 2 then
        ald (s5.1 208) 359 ((nI 19) + x1) fun v8 =>
        some (v8, s5)
      else
      if x2 = nI 3 then
        ald (s5.1 208) 359 ((nI 27) + x1) fun v9 =>
        some (v9, s5)
      else
      if x2 = nI 4 then
        ald (s5.1 208) 359 ((nI 150) + x1) fun v10 =>
        some (v10, s5)
      else
      if x2 = nI 5 then
        bp (f_X12_periodOf N x1 s5) fun v11 =>
        some (v11, s5)
      else
      if x2 = nI 6 then
        bp (f_X12_placeIn N x1 (nI 0) s5) fun v12 =>
        some (v12, s5)
      else
      if x2 = nI 7 then
        ald (s5.1 208) 359 (nI 148) fun v13 =>
        some (((v13 >>> (x1 &&& 31)) &&& (nI 1)), s5)
      else
      if x2 = nI 8 then
        bp (f_X12_isShining N x1 s5) fun v14 =>
        if v14 = 0 then
          some ((nI 0), s5)
        else
        some ((nI 1), s5)
      else
      if x2 = nI 9 then
        bp (f_X12_alikes N x1 s5) fun v15 =>
        some (v15, s5)
      else
      ald (s5.1 208) 359 ((nI 123) + x1) fun v16 =>
      some (v16, s5)
    else
    some ((nI 0), s5)) fun j3 =>
  jn (j3 (nI 1)) fun j17 =>
  if v1 = 0 then
    j17
  else
  bp (f_X12_isIn x2 (nI 0) (nI 10) s0) fun v18 =>
  if v18 = 0 then
    j17
  else
  j3 (nI 0)

theorem qX12_light_0 : Dc mX12_light 0 (.aload_n 0) 1 1 := ⟨by decide +kernel, rfl⟩
theorem qX12_light_1 : Dc mX12_light 1 (.aload_n 0) 1 2 := ⟨by decide +kernel, rfl⟩
theorem qX12_light_2 : Dc mX12_light 2 (.iload_n 1) 1 3 := ⟨by decide +kernel, rfl⟩
theorem qX12_light_3 : Dc mX12_light 3 (.invokevirtual 294) 3 6 := ⟨by decide +kernel, rfl⟩
theorem qX12_light_6 : Dc mX12_light 6 (.ifCond .eq 13) 3 9 := ⟨by decide +kernel, rfl⟩
theorem qX12_light_9 : Dc mX12_light 9 (.iload_n 2) 1 10 := ⟨by decide +kernel, rfl⟩
theorem qX12_light_10 : Dc mX12_light 10 (.iconst 0) 1 11 := ⟨by decide +kernel, rfl⟩
theorem qX12_light_11 : Dc mX12_light 11 (.bipush 10) 2 13 := ⟨by decide +kernel, rfl⟩
theorem qX12_light_13 : Dc mX12_light 13 (.invokestatic 186) 3 16 := ⟨by decide +kernel, rfl⟩
theorem qX12_light_16 : Dc mX12_light 16 (.ifCond .ne 7) 3 19 := ⟨by decide +kernel, rfl⟩
theorem qX12_light_19 : Dc mX12_light 19 (.iconst 1) 1 20 := ⟨by decide +kernel, rfl⟩
theorem qX12_light_20 : Dc mX12_light 20 (.goto 4) 3 23 := ⟨by decide +kernel, rfl⟩
theorem qX12_light_23 : Dc mX12_light 23 (.iconst 0) 1 24 := ⟨by decide +kernel, rfl⟩
theorem qX12_light_24 : Dc mX12_light 24 (.invokevirtual 297) 3 27 := ⟨by decide +kernel, rfl⟩
theorem qX12_light_27 : Dc mX12_light 27 (.ifCond .eq 5) 3 30 := ⟨by decide +kernel, rfl⟩
theorem qX12_light_30 : Dc mX12_light 30 (.iconst 0) 1 31 := ⟨by decide +kernel, rfl⟩
theorem qX12_light_31 : Dc mX12_light 31 (.ireturn) 1 32 := ⟨by decide +kernel, rfl⟩
theorem qX12_light_32 : Dc mX12_light 32 (.iload_n 2) 1 33 := ⟨by decide +kernel, rfl⟩
theorem qX12_light_33 : Dc mX12_light 33 (.tableswitch 151 0 9 #[55, 64, 74, 84, 94, 105, 111, 118, 131, 145]) 55 88 := ⟨by decide +kernel, rfl⟩
theorem qX12_light_88 : Dc mX12_light 88 (.aload_n 0) 1 89 := ⟨by decide +kernel, rfl⟩
theorem qX12_light_89 : Dc mX12_light 89 (.getfield 33) 3 92 := ⟨by decide +kernel, rfl⟩
theorem qX12_light_92 : Dc mX12_light 92 (.iconst 3) 1 93 := ⟨by decide +kernel, rfl⟩
theorem qX12_light_93 : Dc mX12_light 93 (.iload_n 1) 1 94 := ⟨by decide +kernel, rfl⟩
theorem qX12_light_94 : Dc mX12_light 94 (.iadd) 1 95 := ⟨by decide +kernel, rfl⟩
theorem qX12_light_95 : Dc mX12_light 95 (.iaload) 1 96 := ⟨by decide +kernel, rfl⟩
theorem qX12_light_96 : Dc mX12_light 96 (.ireturn) 1 97 := ⟨by decide +kernel, rfl⟩
theorem qX12_light_97 : Dc mX12_light 97 (.aload_n 0) 1 98 := ⟨by decide +kernel, rfl⟩
theorem qX12_light_98 : Dc mX12_light 98 (.getfield 33) 3 101 := ⟨by decide +kernel, rfl⟩
theorem qX12_light_101 : Dc mX12_light 101 (.bipush 11) 2 103 := ⟨by decide +kernel, rfl⟩
theorem qX12_light_103 : Dc mX12_light 103 (.iload_n 1) 1 104 := ⟨by decide +kernel, rfl⟩
theorem qX12_light_104 : Dc mX12_light 104 (.iadd) 1 105 := ⟨by decide +kernel, rfl⟩
theorem qX12_light_105 : Dc mX12_light 105 (.iaload) 1 106 := ⟨by decide +kernel, rfl⟩
theorem qX12_light_106 : Dc mX12_light 106 (.ireturn) 1 107 := ⟨by decide +kernel, rfl⟩
theorem qX12_light_107 : Dc mX12_light 107 (.aload_n 0) 1 108 := ⟨by decide +kernel, rfl⟩
theorem qX12_light_108 : Dc mX12_light 108 (.getfield 33) 3 111 := ⟨by decide +kernel, rfl⟩
theorem qX12_light_111 : Dc mX12_light 111 (.bipush 19) 2 113 := ⟨by decide +kernel, rfl⟩
theorem qX12_light_113 : Dc mX12_light 113 (.iload_n 1) 1 114 := ⟨by decide +kernel, rfl⟩
theorem qX12_light_114 : Dc mX12_light 114 (.iadd) 1 115 := ⟨by decide +kernel, rfl⟩
theorem qX12_light_115 : Dc mX12_light 115 (.iaload) 1 116 := ⟨by decide +kernel, rfl⟩
theorem qX12_light_116 : Dc mX12_light 116 (.ireturn) 1 117 := ⟨by decide +kernel, rfl⟩
theorem qX12_light_117 : Dc mX12_light 117 (.aload_n 0) 1 118 := ⟨by decide +kernel, rfl⟩
theorem qX12_light_118 : Dc mX12_light 118 (.getfield 33) 3 121 := ⟨by decide +kernel, rfl⟩
theorem qX12_light_121 : Dc mX12_light 121 (.bipush 27) 2 123 := ⟨by decide +kernel, rfl⟩
theorem qX12_light_123 : Dc mX12_light 123 (.iload_n 1) 1 124 := ⟨by decide +kernel, rfl⟩
theorem qX12_light_124 : Dc mX12_light 124 (.iadd) 1 125 := ⟨by decide +kernel, rfl⟩
theorem qX12_light_125 : Dc mX12_light 125 (.iaload) 1 126 := ⟨by decide +kernel, rfl⟩
theorem qX12_light_126 : Dc mX12_light 126 (.ireturn) 1 127 := ⟨by decide +kernel, rfl⟩
theorem qX12_light_127 : Dc mX12_light 127 (.aload_n 0) 1 128 := ⟨by decide +kernel, rfl⟩
theorem qX12_light_128 : Dc mX12_light 128 (.getfield 33) 3 131 := ⟨by decide +kernel, rfl⟩
theorem qX12_light_131 : Dc mX12_light 131 (.sipush 150) 3 134 := ⟨by decide +kernel, rfl⟩
theorem qX12_light_134 : Dc mX12_light 134 (.iload_n 1) 1 135 := ⟨by decide +kernel, rfl⟩
theorem qX12_light_135 : Dc mX12_light 135 (.iadd) 1 136 := ⟨by decide +kernel, rfl⟩
theorem qX12_light_136 : Dc mX12_light 136 (.iaload) 1 137 := ⟨by decide +kernel, rfl⟩
theorem qX12_light_137 : Dc mX12_light 137 (.ireturn) 1 138 := ⟨by decide +kernel, rfl⟩
theorem qX12_light_138 : Dc mX12_light 138 (.aload_n 0) 1 139 := ⟨by decide +kernel, rfl⟩
theorem qX12_light_139 : Dc mX12_light 139 (.iload_n 1) 1 140 := ⟨by decide +kernel, rfl⟩
theorem qX12_light_140 : Dc mX12_light 140 (.invokevirtual 261) 3 143 := ⟨by decide +kernel, rfl⟩
theorem qX12_light_143 : Dc mX12_light 143 (.ireturn) 1 144 := ⟨by decide +kernel, rfl⟩
theorem qX12_light_144 : Dc mX12_light 144 (.aload_n 0) 1 145 := ⟨by decide +kernel, rfl⟩
theorem qX12_light_145 : Dc mX12_light 145 (.iload_n 1) 1 146 := ⟨by decide +kernel, rfl⟩
theorem qX12_light_146 : Dc mX12_light 146 (.iconst 0) 1 147 := ⟨by decide +kernel, rfl⟩
theorem qX12_light_147 : Dc mX12_light 147 (.invokevirtual 268) 3 150 := ⟨by decide +kernel, rfl⟩
theorem qX12_light_150 : Dc mX12_light 150 (.ireturn) 1 151 := ⟨by decide +kernel, rfl⟩
theorem qX12_light_151 : Dc mX12_light 151 (.aload_n 0) 1 152 := ⟨by decide +kernel, rfl⟩
theorem qX12_light_152 : Dc mX12_light 152 (.getfield 33) 3 155 := ⟨by decide +kernel, rfl⟩
theorem qX12_light_155 : Dc mX12_light 155 (.sipush 148) 3 158 := ⟨by decide +kernel, rfl⟩
theorem qX12_light_158 : Dc mX12_light 158 (.iaload) 1 159 := ⟨by decide +kernel, rfl⟩
theorem qX12_light_159 : Dc mX12_light 159 (.iload_n 1) 1 160 := ⟨by decide +kernel, rfl⟩
theorem qX12_light_160 : Dc mX12_light 160 (.ishr) 1 161 := ⟨by decide +kernel, rfl⟩
theorem qX12_light_161 : Dc mX12_light 161 (.iconst 1) 1 162 := ⟨by decide +kernel, rfl⟩
theorem qX12_light_162 : Dc mX12_light 162 (.iand) 1 163 := ⟨by decide +kernel, rfl⟩
theorem qX12_light_163 : Dc mX12_light 163 (.ireturn) 1 164 := ⟨by decide +kernel, rfl⟩
theorem qX12_light_164 : Dc mX12_light 164 (.aload_n 0) 1 165 := ⟨by decide +kernel, rfl⟩
theorem qX12_light_165 : Dc mX12_light 165 (.iload_n 1) 1 166 := ⟨by decide +kernel, rfl⟩
theorem qX12_light_166 : Dc mX12_light 166 (.invokevirtual 284) 3 169 := ⟨by decide +kernel, rfl⟩
theorem qX12_light_169 : Dc mX12_light 169 (.ifCond .eq 7) 3 172 := ⟨by decide +kernel, rfl⟩
theorem qX12_light_172 : Dc mX12_light 172 (.iconst 1) 1 173 := ⟨by decide +kernel, rfl⟩
theorem qX12_light_173 : Dc mX12_light 173 (.goto 4) 3 176 := ⟨by decide +kernel, rfl⟩
theorem qX12_light_176 : Dc mX12_light 176 (.iconst 0) 1 177 := ⟨by decide +kernel, rfl⟩
theorem qX12_light_177 : Dc mX12_light 177 (.ireturn) 1 178 := ⟨by decide +kernel, rfl⟩
theorem qX12_light_178 : Dc mX12_light 178 (.aload_n 0) 1 179 := ⟨by decide +kernel, rfl⟩
theorem qX12_light_179 : Dc mX12_light 179 (.iload_n 1) 1 180 := ⟨by decide +kernel, rfl⟩
theorem qX12_light_180 : Dc mX12_light 180 (.invokevirtual 301) 3 183 := ⟨by decide +kernel, rfl⟩
theorem qX12_light_183 : Dc mX12_light 183 (.ireturn) 1 184 := ⟨by decide +kernel, rfl⟩
theorem qX12_light_184 : Dc mX12_light 184 (.aload_n 0) 1 185 := ⟨by decide +kernel, rfl⟩
theorem qX12_light_185 : Dc mX12_light 185 (.getfield 33) 3 188 := ⟨by decide +kernel, rfl⟩
theorem qX12_light_188 : Dc mX12_light 188 (.bipush 123) 2 190 := ⟨by decide +kernel, rfl⟩
theorem qX12_light_190 : Dc mX12_light 190 (.iload_n 1) 1 191 := ⟨by decide +kernel, rfl⟩
theorem qX12_light_191 : Dc mX12_light 191 (.iadd) 1 192 := ⟨by decide +kernel, rfl⟩
theorem qX12_light_192 : Dc mX12_light 192 (.iaload) 1 193 := ⟨by decide +kernel, rfl⟩
theorem qX12_light_193 : Dc mX12_light 193 (.ireturn) 1 194 := ⟨by decide +kernel, rfl⟩

set_option maxRecDepth 20000 in
set_option maxHeartbeats 4000000 in
theorem w_X12_light {N : Nat} {x1 : Int32} {x2 : Int32} {s0 : St} {r : Int32} {sr : St} (h : f_X12_light N x1 x2 s0 = some (r, sr)) : Ct mX12_light 4 [.ref 206, .int x1, .int x2] s0 (some (.int r), sr) := by
  refine Ct.ofE (by decide +kernel) rfl ?_
  show E mX12_light 4 (some (.int r), sr) 0 [some (.ref 206), some (.int x1), some (.int x2)] [] s0
  unfold f_X12_light at h
  refine e_aload_n qX12_light_0 rfl ?_
  refine e_aload_n qX12_light_1 rfl ?_
  refine e_iload_n qX12_light_2 rfl ?_
  obtain ⟨v1, hc, h⟩ := bp_e h
  refine e_cVi1 qX12_light_3 mv_X12_294 shq_206 rfl rfl (w_X12_isLight hc) ?_
  refine jn_e (fun j => ∀ (v2 : Int32), j v2 = some (r, sr) → E mX12_light 4 (some (.int r), sr) 24 [some (.ref 206), some (.int x1), some (.int x2)] [.int v2, .ref 206] s0) h ?_ (fun j3 hj3 h => ?_)
  · intro v2 h
    obtain ⟨v4, s5, hc, h⟩ := bd_e h
    refine e_cVi1 qX12_light_24 mv_X12_297 shq_206 rfl rfl (w_X12_throwsIf hc) ?_
    refine e_if_eq (tgt := 32) qX12_light_27 rfl h (fun _ h => ?_) (fun _ h => ?_)
    · refine e_iload_n qX12_light_32 rfl ?_
      refine e_ite h (fun hx h => ?_) (fun hx0 h => ?_)
      · refine e_tswk (tgt := 88) qX12_light_33 hx (by decide) (by decide) (by decide) rfl rfl ?_
        refine e_aload_n qX12_light_88 rfl ?_
        refine e_getr 208 qX12_light_89 fl_X12_33 shq_206 kdq_11_6 rrq_206_6 ?_
        refine e_iconst (nI 3) qX12_light_92 rfl ?_
        refine e_iload_n qX12_light_93 rfl ?_
        refine e_iadd qX12_light_94 ?_
        refine e_iald qX12_light_95 shq_208 lnq_208 h (fun v6 h => ?_)
        exact e_iret qX12_light_96 rfl (ret_i h)
      refine e_ite h (fun hx h => ?_) (fun hx1 h => ?_)
      · refine e_tswk (tgt := 97) qX12_light_33 hx (by decide) (by decide) (by decide) rfl rfl ?_
        refine e_aload_n qX12_light_97 rfl ?_
        refine e_getr 208 qX12_light_98 fl_X12_33 shq_206 kdq_11_6 rrq_206_6 ?_
        refine e_bipush (nI 11) qX12_light_101 rfl ?_
        refine e_iload_n qX12_light_103 rfl ?_
        refine e_iadd qX12_light_104 ?_
        refine e_iald qX12_light_105 shq_208 lnq_208 h (fun v7 h => ?_)
        exact e_iret qX12_light_106 rfl (ret_i h)
      refine e_ite h (fun hx h => ?_) (fun hx2 h => ?_)
      · refine e_tswk (tgt := 107) qX12_light_33 hx (by decide) (by decide) (by decide) rfl rfl ?_
        refine e_aload_n qX12_light_107 rfl ?_
        refine e_getr 208 qX12_light_108 fl_X12_33 shq_206 kdq_11_6 rrq_206_6 ?_
        refine e_bipush (nI 19) qX12_light_111 rfl ?_
        refine e_iload_n qX12_light_113 rfl ?_
        refine e_iadd qX12_light_114 ?_
        refine e_iald qX12_light_115 shq_208 lnq_208 h (fun v8 h => ?_)
        exact e_iret qX12_light_116 rfl (ret_i h)
      refine e_ite h (fun hx h => ?_) (fun hx3 h => ?_)
      · refine e_tswk (tgt := 117) qX12_light_33 hx (by decide) (by decide) (by decide) rfl rfl ?_
        refine e_aload_n qX12_light_117 rfl ?_
        refine e_getr 208 qX12_light_118 fl_X12_33 shq_206 kdq_11_6 rrq_206_6 ?_
        refine e_bipush (nI 27) qX12_light_121 rfl ?_
        refine e_iload_n qX12_light_123 rfl ?_
        refine e_iadd qX12_light_124 ?_
        refine e_iald qX12_light_125 shq_208 lnq_208 h (fun v9 h => ?_)
        exact e_iret qX12_light_126 rfl (ret_i h)
      refine e_ite h (fun hx h => ?_) (fun hx4 h => ?_)
      · refine e_tswk (tgt := 127) qX12_light_33 hx (by decide) (by decide) (by decide) rfl rfl ?_
        refine e_aload_n qX12_light_127 rfl ?_
        refine e_getr 208 qX12_light_128 fl_X12_33 shq_206 kdq_11_6 rrq_206_6 ?_
        refine e_sipush (nI 150) qX12_light_131 rfl ?_
        refine e_iload_n qX12_light_134 rfl ?_
        refine e_iadd qX12_light_135 ?_
        refine e_iald qX12_light_136 shq_208 lnq_208 h (fun v10 h => ?_)
        exact e_iret qX12_light_137 rfl (ret_i h)
      refine e_ite h (fun hx h => ?_) (fun hx5 h => ?_)
      · refine e_tswk (tgt := 138) qX12_light_33 hx (by decide) (by decide) (by decide) rfl rfl ?_
        refine e_aload_n qX12_light_138 rfl ?_
        refine e_iload_n qX12_light_139 rfl ?_
        obtain ⟨v11, hc, h⟩ := bp_e h
        refine e_cVi1 qX12_light_140 mv_X12_261 shq_206 rfl rfl (w_X12_periodOf hc) ?_
        exact e_iret qX12_light_143 rfl (ret_i h)
      refine e_ite h (fun hx h => ?_) (fun hx6 h => ?_)
      · refine e_tswk (tgt := 144) qX12_light_33 hx (by decide) (by decide) (by decide) rfl rfl ?_
        refine e_aload_n qX12_light_144 rfl ?_
        refine e_iload_n qX12_light_145 rfl ?_
        refine e_iconst (nI 0) qX12_light_146 rfl ?_
        obtain ⟨v12, hc, h⟩ := bp_e h
        refine e_cVi2 qX12_light_147 mv_X12_268 shq_206 rfl rfl (w_X12_placeIn hc) ?_
        exact e_iret qX12_light_150 rfl (ret_i h)
      refine e_ite h (fun hx h => ?_) (fun hx7 h => ?_)
      · refine e_tswk (tgt := 151) qX12_light_33 hx (by decide) (by decide) (by decide) rfl rfl ?_
        refine e_aload_n qX12_light_151 rfl ?_
        refine e_getr 208 qX12_light_152 fl_X12_33 shq_206 kdq_11_6 rrq_206_6 ?_
        refine e_sipush (nI 148) qX12_light_155 rfl ?_
        refine e_iald qX12_light_158 shq_208 lnq_208 h (fun v13 h => ?_)
        refine e_iload_n qX12_light_159 rfl ?_
        refine e_ishr qX12_light_160 ?_
        refine e_iconst (nI 1) qX12_light_161 rfl ?_
        refine e_iand qX12_light_162 ?_
        exact e_iret qX12_light_163 rfl (ret_i h)
      refine e_ite h (fun hx h => ?_) (fun hx8 h => ?_)
      · refine e_tswk (tgt := 164) qX12_light_33 hx (by decide) (by decide) (by decide) rfl rfl ?_
        refine e_aload_n qX12_light_164 rfl ?_
        refine e_iload_n qX12_light_165 rfl ?_
        obtain ⟨v14, hc, h⟩ := bp_e h
        refine e_cVi1 qX12_light_166 mv_X12_284 shq_206 rfl rfl (w_X12_isShining hc) ?_
        refine e_if_eq (tgt := 176) qX12_light_169 rfl h (fun _ h => ?_) (fun _ h => ?_)
        · refine e_iconst (nI 0) qX12_light_176 rfl ?_
          exact e_iret qX12_light_177 rfl (ret_i h)
        refine e_iconst (nI 1) qX12_light_172 rfl ?_
        refine e_goto (tgt := 177) qX12_light_173 rfl ?_
        exact e_iret qX12_light_177 rfl (ret_i h)
      refine e_ite h (fun hx h => ?_) (fun hx9 h => ?_)
      · refine e_tswk (tgt := 178) qX12_light_33 hx (by decide) (by decide) (by decide) rfl rfl ?_
        refine e_aload_n qX12_light_178 rfl ?_
        refine e_iload_n qX12_light_179 rfl ?_
        obtain ⟨v15, hc, h⟩ := bp_e h
        refine e_cVi1 qX12_light_180 mv_X12_301 shq_206 rfl rfl (w_X12_alikes hc) ?_
        exact e_iret qX12_light_183 rfl (ret_i h)
      refine e_tswo (tgt := 184) qX12_light_33 (tsw_def (lo := 0) (n := 10) (by decide) (lt_s (lt_s (lt_s (lt_s (lt_s (lt_s (lt_s (lt_s (lt_s (lt_s lt_0 hx0) hx1) hx2) hx3) hx4) hx5) hx6) hx7) hx8) hx9)) rfl ?_
      refine e_aload_n qX12_light_184 rfl ?_
      refine e_getr 208 qX12_light_185 fl_X12_33 shq_206 kdq_11_6 rrq_206_6 ?_
      refine e_bipush (nI 123) qX12_light_188 rfl ?_
      refine e_iload_n qX12_light_190 rfl ?_
      refine e_iadd qX12_light_191 ?_
      refine e_iald qX12_light_192 shq_208 lnq_208 h (fun v16 h => ?_)
      exact e_iret qX12_light_193 rfl (ret_i h)
    refine e_iconst (nI 0) qX12_light_30 rfl ?_
    exact e_iret qX12_light_31 rfl (ret_i h)
  refine jn_e (fun j => j = some (r, sr) → E mX12_light 4 (some (.int r), sr) 19 [some (.ref 206), some (.int x1), some (.int x2)] [.ref 206] s0) h ?_ (fun j17 hj17 h => ?_)
  · intro h
    refine e_iconst (nI 1) qX12_light_19 rfl ?_
    refine e_goto (tgt := 24) qX12_light_20 rfl ?_
    exact e_weak (hj3 _ h) ⟨Or.inr rfl, Or.inr rfl, Or.inr rfl, trivial⟩
  refine e_if_eq (tgt := 19) qX12_light_6 rfl h (fun _ h => ?_) (fun _ h => ?_)
  · exact e_weak (hj17 h) ⟨Or.inr rfl, Or.inr rfl, Or.inr rfl, trivial⟩
  refine e_iload_n qX12_light_9 rfl ?_
  refine e_iconst (nI 0) qX12_light_10 rfl ?_
  refine e_bipush (nI 10) qX12_light_11 rfl ?_
  obtain ⟨v18, hc, h⟩ := bp_e h
  refine e_cSi3 qX12_light_13 ms_X12_186 rfl rfl (w_X12_isIn hc) ?_
  refine e_if_ne (tgt := 23) qX12_light_16 rfl h (fun _ h => ?_) (fun _ h => ?_)
  · exact e_weak (hj17 h) ⟨Or.inr rfl, Or.inr rfl, Or.inr rfl, trivial⟩
  refine e_iconst (nI 0) qX12_light_23 rfl ?_
  exact e_weak (hj3 _ h) ⟨Or.inr rfl, Or.inr rfl, Or.inr rfl, trivial⟩

def f_X12_character (N : Nat) (x1 : Int32) (x2 : Int32) (s0 : St) : Option (Int32 × St) :=
  vl (sI s0 206 0 (nI 0)) fun s1 =>
  bp (f_X12_isLight x1 s1) fun v2 =>
  jn (some ((-1), s1)) fun j3 =>
  if v2 = 0 then
    j3
  else
  bp (f_X12_periodOf N x1 s1) fun v4 =>
  bp (f_X12_isIn x2 (nI 0) (v4 - (nI 1)) s1) fun v5 =>
  if v5 = 0 then
    j3
  else
  bp (f_X12_isOn N x1 x2 s1) fun v6 =>
  if v6 = 0 then
    some ((nI 0), s1)
  else
  some ((nI 1), s1)

theorem qX12_character_0 : Dc mX12_character 0 (.aload_n 0) 1 1 := ⟨by decide +kernel, rfl⟩
theorem qX12_character_1 : Dc mX12_character 1 (.iconst 0) 1 2 := ⟨by decide +kernel, rfl⟩
theorem qX12_character_2 : Dc mX12_character 2 (.putfield 1) 3 5 := ⟨by decide +kernel, rfl⟩
theorem qX12_character_5 : Dc mX12_character 5 (.aload_n 0) 1 6 := ⟨by decide +kernel, rfl⟩
theorem qX12_character_6 : Dc mX12_character 6 (.iload_n 1) 1 7 := ⟨by decide +kernel, rfl⟩
theorem qX12_character_7 : Dc mX12_character 7 (.invokevirtual 294) 3 10 := ⟨by decide +kernel, rfl⟩
theorem qX12_character_10 : Dc mX12_character 10 (.ifCond .eq 35) 3 13 := ⟨by decide +kernel, rfl⟩
theorem qX12_character_13 : Dc mX12_character 13 (.iload_n 2) 1 14 := ⟨by decide +kernel, rfl⟩
theorem qX12_character_14 : Dc mX12_character 14 (.iconst 0) 1 15 := ⟨by decide +kernel, rfl⟩
theorem qX12_character_15 : Dc mX12_character 15 (.aload_n 0) 1 16 := ⟨by decide +kernel, rfl⟩
theorem qX12_character_16 : Dc mX12_character 16 (.iload_n 1) 1 17 := ⟨by decide +kernel, rfl⟩
theorem qX12_character_17 : Dc mX12_character 17 (.invokevirtual 261) 3 20 := ⟨by decide +kernel, rfl⟩
theorem qX12_character_20 : Dc mX12_character 20 (.iconst 1) 1 21 := ⟨by decide +kernel, rfl⟩
theorem qX12_character_21 : Dc mX12_character 21 (.isub) 1 22 := ⟨by decide +kernel, rfl⟩
theorem qX12_character_22 : Dc mX12_character 22 (.invokestatic 186) 3 25 := ⟨by decide +kernel, rfl⟩
theorem qX12_character_25 : Dc mX12_character 25 (.ifCond .eq 20) 3 28 := ⟨by decide +kernel, rfl⟩
theorem qX12_character_28 : Dc mX12_character 28 (.aload_n 0) 1 29 := ⟨by decide +kernel, rfl⟩
theorem qX12_character_29 : Dc mX12_character 29 (.iload_n 1) 1 30 := ⟨by decide +kernel, rfl⟩
theorem qX12_character_30 : Dc mX12_character 30 (.iload_n 2) 1 31 := ⟨by decide +kernel, rfl⟩
theorem qX12_character_31 : Dc mX12_character 31 (.invokevirtual 265) 3 34 := ⟨by decide +kernel, rfl⟩
theorem qX12_character_34 : Dc mX12_character 34 (.ifCond .eq 7) 3 37 := ⟨by decide +kernel, rfl⟩
theorem qX12_character_37 : Dc mX12_character 37 (.iconst 1) 1 38 := ⟨by decide +kernel, rfl⟩
theorem qX12_character_38 : Dc mX12_character 38 (.goto 8) 3 41 := ⟨by decide +kernel, rfl⟩
theorem qX12_character_41 : Dc mX12_character 41 (.iconst 0) 1 42 := ⟨by decide +kernel, rfl⟩
theorem qX12_character_42 : Dc mX12_character 42 (.goto 4) 3 45 := ⟨by decide +kernel, rfl⟩
theorem qX12_character_45 : Dc mX12_character 45 (.iconst (-1)) 1 46 := ⟨by decide +kernel, rfl⟩
theorem qX12_character_46 : Dc mX12_character 46 (.ireturn) 1 47 := ⟨by decide +kernel, rfl⟩

set_option maxRecDepth 20000 in
set_option maxHeartbeats 4000000 in
theorem w_X12_character {N : Nat} {x1 : Int32} {x2 : Int32} {s0 : St} {r : Int32} {sr : St} (h : f_X12_character N x1 x2 s0 = some (r, sr)) : Ct mX12_character 2 [.ref 206, .int x1, .int x2] s0 (some (.int r), sr) := by
  refine Ct.ofE (by decide +kernel) rfl ?_
  show E mX12_character 2 (some (.int r), sr) 0 [some (.ref 206), some (.int x1), some (.int x2)] [] s0
  unfold f_X12_character at h
  refine e_aload_n qX12_character_0 rfl ?_
  refine e_iconst (nI 0) qX12_character_1 rfl ?_
  refine e_puti qX12_character_2 fp_X12_1 shq_206 kdq_11_0 h (fun s1 h => ?_)
  refine e_aload_n qX12_character_5 rfl ?_
  refine e_iload_n qX12_character_6 rfl ?_
  obtain ⟨v2, hc, h⟩ := bp_e h
  refine e_cVi1 qX12_character_7 mv_X12_294 shq_206 rfl rfl (w_X12_isLight hc) ?_
  refine jn_e (fun j => j = some (r, sr) → E mX12_character 2 (some (.int r), sr) 45 [none, none, none] [] s1) h ?_ (fun j3 hj3 h => ?_)
  · intro h
    refine e_iconst (-1) qX12_character_45 rfl ?_
    exact e_iret qX12_character_46 rfl (ret_i h)
  refine e_if_eq (tgt := 45) qX12_character_10 rfl h (fun _ h => ?_) (fun _ h => ?_)
  · exact e_weak (hj3 h) ⟨Or.inl rfl, Or.inl rfl, Or.inl rfl, trivial⟩
  refine e_iload_n qX12_character_13 rfl ?_
  refine e_iconst (nI 0) qX12_character_14 rfl ?_
  refine e_aload_n qX12_character_15 rfl ?_
  refine e_iload_n qX12_character_16 rfl ?_
  obtain ⟨v4, hc, h⟩ := bp_e h
  refine e_cVi1 qX12_character_17 mv_X12_261 shq_206 rfl rfl (w_X12_periodOf hc) ?_
  refine e_iconst (nI 1) qX12_character_20 rfl ?_
  refine e_isub qX12_character_21 ?_
  obtain ⟨v5, hc, h⟩ := bp_e h
  refine e_cSi3 qX12_character_22 ms_X12_186 rfl rfl (w_X12_isIn hc) ?_
  refine e_if_eq (tgt := 45) qX12_character_25 rfl h (fun _ h => ?_) (fun _ h => ?_)
  · exact e_weak (hj3 h) ⟨Or.inl rfl, Or.inl rfl, Or.inl rfl, trivial⟩
  refine e_aload_n qX12_character_28 rfl ?_
  refine e_iload_n qX12_character_29 rfl ?_
  refine e_iload_n qX12_character_30 rfl ?_
  obtain ⟨v6, hc, h⟩ := bp_e h
  refine e_cVi2 qX12_character_31 mv_X12_265 shq_206 rfl rfl (w_X12_isOn hc) ?_
  refine e_if_eq (tgt := 41) qX12_character_34 rfl h (fun _ h => ?_) (fun _ h => ?_)
  · refine e_iconst (nI 0) qX12_character_41 rfl ?_
    refine e_goto (tgt := 46) qX12_character_42 rfl ?_
    exact e_iret qX12_character_46 rfl (ret_i h)
  refine e_iconst (nI 1) qX12_character_37 rfl ?_
  refine e_goto (tgt := 46) qX12_character_38 rfl ?_
  exact e_iret qX12_character_46 rfl (ret_i h)

def f_X12_ship (N : Nat) (x1 : Int32) (x2 : Int32) (s0 : St) : Option (Int32 × St) :=
  vl (sI s0 206 0 (nI 0)) fun s1 =>
  bp (f_X12_isShip x1 s1) fun v2 =>
  if v2 = 0 then
    some ((-1), s1)
  else
  if x2 = nI 0 then
    ald (s1.1 208) 359 ((nI 166) + x1) fun v3 =>
    some (v3, s1)
  else
  if x2 = nI 1 then
    ald (s1.1 208) 359 ((nI 170) + x1) fun v4 =>
    some (v4, s1)
  else
  if x2 = nI 2 then
    ald (s1.1 208) 359 ((nI 174) + x1) fun v5 =>
    some (v5, s1)
  else
  if x2 = nI 3 then
    ald (s1.1 208) 359 ((nI 143) + x1) fun v6 =>
    some (v6, s1)
  else
  if x2 = nI 4 then
    ald (s1.1 208) 359 ((nI 166) + x1) fun v7 =>
    ald (s1.1 208) 359 ((nI 170) + x1) fun v8 =>
    ald (s1.1 208) 359 (nI 149) fun v9 =>
    bp (f_X12_visibleFrom N v7 v8 v9 s1) fun v10 =>
    some (v10, s1)
  else
  if x2 = nI 5 then
    bp (f_X12_seenBy N x1 s1) fun v11 =>
    some (v11, s1)
  else
  some ((-1), s1)

theorem qX12_ship_0 : Dc mX12_ship 0 (.aload_n 0) 1 1 := ⟨by decide +kernel, rfl⟩
theorem qX12_ship_1 : Dc mX12_ship 1 (.iconst 0) 1 2 := ⟨by decide +kernel, rfl⟩
theorem qX12_ship_2 : Dc mX12_ship 2 (.putfield 1) 3 5 := ⟨by decide +kernel, rfl⟩
theorem qX12_ship_5 : Dc mX12_ship 5 (.aload_n 0) 1 6 := ⟨by decide +kernel, rfl⟩
theorem qX12_ship_6 : Dc mX12_ship 6 (.iload_n 1) 1 7 := ⟨by decide +kernel, rfl⟩
theorem qX12_ship_7 : Dc mX12_ship 7 (.invokevirtual 304) 3 10 := ⟨by decide +kernel, rfl⟩
theorem qX12_ship_10 : Dc mX12_ship 10 (.ifCond .ne 5) 3 13 := ⟨by decide +kernel, rfl⟩
theorem qX12_ship_13 : Dc mX12_ship 13 (.iconst (-1)) 1 14 := ⟨by decide +kernel, rfl⟩
theorem qX12_ship_14 : Dc mX12_ship 14 (.ireturn) 1 15 := ⟨by decide +kernel, rfl⟩
theorem qX12_ship_15 : Dc mX12_ship 15 (.iload_n 2) 1 16 := ⟨by decide +kernel, rfl⟩
theorem qX12_ship_16 : Dc mX12_ship 16 (.tableswitch 123 0 5 #[40, 51, 62, 73, 84, 117]) 40 56 := ⟨by decide +kernel, rfl⟩
theorem qX12_ship_56 : Dc mX12_ship 56 (.aload_n 0) 1 57 := ⟨by decide +kernel, rfl⟩
theorem qX12_ship_57 : Dc mX12_ship 57 (.getfield 33) 3 60 := ⟨by decide +kernel, rfl⟩
theorem qX12_ship_60 : Dc mX12_ship 60 (.sipush 166) 3 63 := ⟨by decide +kernel, rfl⟩
theorem qX12_ship_63 : Dc mX12_ship 63 (.iload_n 1) 1 64 := ⟨by decide +kernel, rfl⟩
theorem qX12_ship_64 : Dc mX12_ship 64 (.iadd) 1 65 := ⟨by decide +kernel, rfl⟩
theorem qX12_ship_65 : Dc mX12_ship 65 (.iaload) 1 66 := ⟨by decide +kernel, rfl⟩
theorem qX12_ship_66 : Dc mX12_ship 66 (.ireturn) 1 67 := ⟨by decide +kernel, rfl⟩
theorem qX12_ship_67 : Dc mX12_ship 67 (.aload_n 0) 1 68 := ⟨by decide +kernel, rfl⟩
theorem qX12_ship_68 : Dc mX12_ship 68 (.getfield 33) 3 71 := ⟨by decide +kernel, rfl⟩
theorem qX12_ship_71 : Dc mX12_ship 71 (.sipush 170) 3 74 := ⟨by decide +kernel, rfl⟩
theorem qX12_ship_74 : Dc mX12_ship 74 (.iload_n 1) 1 75 := ⟨by decide +kernel, rfl⟩
theorem qX12_ship_75 : Dc mX12_ship 75 (.iadd) 1 76 := ⟨by decide +kernel, rfl⟩
theorem qX12_ship_76 : Dc mX12_ship 76 (.iaload) 1 77 := ⟨by decide +kernel, rfl⟩
theorem qX12_ship_77 : Dc mX12_ship 77 (.ireturn) 1 78 := ⟨by decide +kernel, rfl⟩
theorem qX12_ship_78 : Dc mX12_ship 78 (.aload_n 0) 1 79 := ⟨by decide +kernel, rfl⟩
theorem qX12_ship_79 : Dc mX12_ship 79 (.getfield 33) 3 82 := ⟨by decide +kernel, rfl⟩
theorem qX12_ship_82 : Dc mX12_ship 82 (.sipush 174) 3 85 := ⟨by decide +kernel, rfl⟩
theorem qX12_ship_85 : Dc mX12_ship 85 (.iload_n 1) 1 86 := ⟨by decide +kernel, rfl⟩
theorem qX12_ship_86 : Dc mX12_ship 86 (.iadd) 1 87 := ⟨by decide +kernel, rfl⟩
theorem qX12_ship_87 : Dc mX12_ship 87 (.iaload) 1 88 := ⟨by decide +kernel, rfl⟩
theorem qX12_ship_88 : Dc mX12_ship 88 (.ireturn) 1 89 := ⟨by decide +kernel, rfl⟩
theorem qX12_ship_89 : Dc mX12_ship 89 (.aload_n 0) 1 90 := ⟨by decide +kernel, rfl⟩
theorem qX12_ship_90 : Dc mX12_ship 90 (.getfield 33) 3 93 := ⟨by decide +kernel, rfl⟩
theorem qX12_ship_93 : Dc mX12_ship 93 (.sipush 143) 3 96 := ⟨by decide +kernel, rfl⟩
theorem qX12_ship_96 : Dc mX12_ship 96 (.iload_n 1) 1 97 := ⟨by decide +kernel, rfl⟩
theorem qX12_ship_97 : Dc mX12_ship 97 (.iadd) 1 98 := ⟨by decide +kernel, rfl⟩
theorem qX12_ship_98 : Dc mX12_ship 98 (.iaload) 1 99 := ⟨by decide +kernel, rfl⟩
theorem qX12_ship_99 : Dc mX12_ship 99 (.ireturn) 1 100 := ⟨by decide +kernel, rfl⟩
theorem qX12_ship_100 : Dc mX12_ship 100 (.aload_n 0) 1 101 := ⟨by decide +kernel, rfl⟩
theorem qX12_ship_101 : Dc mX12_ship 101 (.aload_n 0) 1 102 := ⟨by decide +kernel, rfl⟩
theorem qX12_ship_102 : Dc mX12_ship 102 (.getfield 33) 3 105 := ⟨by decide +kernel, rfl⟩
theorem qX12_ship_105 : Dc mX12_ship 105 (.sipush 166) 3 108 := ⟨by decide +kernel, rfl⟩
theorem qX12_ship_108 : Dc mX12_ship 108 (.iload_n 1) 1 109 := ⟨by decide +kernel, rfl⟩
theorem qX12_ship_109 : Dc mX12_ship 109 (.iadd) 1 110 := ⟨by decide +kernel, rfl⟩
theorem qX12_ship_110 : Dc mX12_ship 110 (.iaload) 1 111 := ⟨by decide +kernel, rfl⟩
theorem qX12_ship_111 : Dc mX12_ship 111 (.aload_n 0) 1 112 := ⟨by decide +kernel, rfl⟩
theorem qX12_ship_112 : Dc mX12_ship 112 (.getfield 33) 3 115 := ⟨by decide +kernel, rfl⟩
theorem qX12_ship_115 : Dc mX12_ship 115 (.sipush 170) 3 118 := ⟨by decide +kernel, rfl⟩
theorem qX12_ship_118 : Dc mX12_ship 118 (.iload_n 1) 1 119 := ⟨by decide +kernel, rfl⟩
theorem qX12_ship_119 : Dc mX12_ship 119 (.iadd) 1 120 := ⟨by decide +kernel, rfl⟩
theorem qX12_ship_120 : Dc mX12_ship 120 (.iaload) 1 121 := ⟨by decide +kernel, rfl⟩
theorem qX12_ship_121 : Dc mX12_ship 121 (.aload_n 0) 1 122 := ⟨by decide +kernel, rfl⟩
theorem qX12_ship_122 : Dc mX12_ship 122 (.getfield 33) 3 125 := ⟨by decide +kernel, rfl⟩
theorem qX12_ship_125 : Dc mX12_ship 125 (.sipush 149) 3 128 := ⟨by decide +kernel, rfl⟩
theorem qX12_ship_128 : Dc mX12_ship 128 (.iaload) 1 129 := ⟨by decide +kernel, rfl⟩
theorem qX12_ship_129 : Dc mX12_ship 129 (.invokevirtual 287) 3 132 := ⟨by decide +kernel, rfl⟩
theorem qX12_ship_132 : Dc mX12_ship 132 (.ireturn) 1 133 := ⟨by decide +kernel, rfl⟩
theorem qX12_ship_133 : Dc mX12_ship 133 (.aload_n 0) 1 134 := ⟨by decide +kernel, rfl⟩
theorem qX12_ship_134 : Dc mX12_ship 134 (.iload_n 1) 1 135 := ⟨by decide +kernel, rfl⟩
theorem qX12_ship_135 : Dc mX12_ship 135 (.invokevirtual 307) 3 138 := ⟨by decide +kernel, rfl⟩
theorem qX12_ship_138 : Dc mX12_ship 138 (.ireturn) 1 139 := ⟨by decide +kernel, rfl⟩
theorem qX12_ship_139 : Dc mX12_ship 139 (.iconst (-1)) 1 140 := ⟨by decide +kernel, rfl⟩
theorem qX12_ship_140 : Dc mX12_ship 140 (.ireturn) 1 141 := ⟨by decide +kernel, rfl⟩

set_option maxRecDepth 20000 in
set_option maxHeartbeats 4000000 in
theorem w_X12_ship {N : Nat} {x1 : Int32} {x2 : Int32} {s0 : St} {r : Int32} {sr : St} (h : f_X12_ship N x1 x2 s0 = some (r, sr)) : Ct mX12_ship 5 [.ref 206, .int x1, .int x2] s0 (some (.int r), sr) := by
  refine Ct.ofE (by decide +kernel) rfl ?_
  show E mX12_ship 5 (some (.int r), sr) 0 [some (.ref 206), some (.int x1), some (.int x2)] [] s0
  unfold f_X12_ship at h
  refine e_aload_n qX12_ship_0 rfl ?_
  refine e_iconst (nI 0) qX12_ship_1 rfl ?_
  refine e_puti qX12_ship_2 fp_X12_1 shq_206 kdq_11_0 h (fun s1 h => ?_)
  refine e_aload_n qX12_ship_5 rfl ?_
  refine e_iload_n qX12_ship_6 rfl ?_
  obtain ⟨v2, hc, h⟩ := bp_e h
  refine e_cVi1 qX12_ship_7 mv_X12_304 shq_206 rfl rfl (w_X12_isShip hc) ?_
  refine e_if_ne (tgt := 15) qX12_ship_10 rfl h (fun _ h => ?_) (fun _ h => ?_)
  · refine e_iconst (-1) qX12_ship_13 rfl ?_
    exact e_iret qX12_ship_14 rfl (ret_i h)
  refine e_iload_n qX12_ship_15 rfl ?_
  refine e_ite h (fun hx h => ?_) (fun hx0 h => ?_)
  · refine e_tswk (tgt := 56) qX12_ship_16 hx (by decide) (by decide) (by decide) rfl rfl ?_
    refine e_aload_n qX12_ship_56 rfl ?_
    refine e_getr 208 qX12_ship_57 fl_X12_33 shq_206 kdq_11_6 rrq_206_6 ?_
    refine e_sipush (nI 166) qX12_ship_60 rfl ?_
    refine e_iload_n qX12_ship_63 rfl ?_
    refine e_iadd qX12_ship_64 ?_
    refine e_iald qX12_ship_65 shq_208 lnq_208 h (fun v3 h => ?_)
    exact e_iret qX12_ship_66 rfl (ret_i h)
  refine e_ite h (fun hx h => ?_) (fun hx1 h => ?_)
  · refine e_tswk (tgt := 67) qX12_ship_16 hx (by decide) (by decide) (by decide) rfl rfl ?_
    refine e_aload_n qX12_ship_67 rfl ?_
    refine e_getr 208 qX12_ship_68 fl_X12_33 shq_206 kdq_11_6 rrq_206_6 ?_
    refine e_sipush (nI 170) qX12_ship_71 rfl ?_
    refine e_iload_n qX12_ship_74 rfl ?_
    refine e_iadd qX12_ship_75 ?_
    refine e_iald qX12_ship_76 shq_208 lnq_208 h (fun v4 h => ?_)
    exact e_iret qX12_ship_77 rfl (ret_i h)
  refine e_ite h (fun hx h => ?_) (fun hx2 h => ?_)
  · refine e_tswk (tgt := 78) qX12_ship_16 hx (by decide) (by decide) (by decide) rfl rfl ?_
    refine e_aload_n qX12_ship_78 rfl ?_
    refine e_getr 208 qX12_ship_79 fl_X12_33 shq_206 kdq_11_6 rrq_206_6 ?_
    refine e_sipush (nI 174) qX12_ship_82 rfl ?_
    refine e_iload_n qX12_ship_85 rfl ?_
    refine e_iadd qX12_ship_86 ?_
    refine e_iald qX12_ship_87 shq_208 lnq_208 h (fun v5 h => ?_)
    exact e_iret qX12_ship_88 rfl (ret_i h)
  refine e_ite h (fun hx h => ?_) (fun hx3 h => ?_)
  · refine e_tswk (tgt := 89) qX12_ship_16 hx (by decide) (by decide) (by decide) rfl rfl ?_
    refine e_aload_n qX12_ship_89 rfl ?_
    refine e_getr 208 qX12_ship_90 fl_X12_33 shq_206 kdq_11_6 rrq_206_6 ?_
    refine e_sipush (nI 143) qX12_ship_93 rfl ?_
    refine e_iload_n qX12_ship_96 rfl ?_
    refine e_iadd qX12_ship_97 ?_
    refine e_iald qX12_ship_98 shq_208 lnq_208 h (fun v6 h => ?_)
    exact e_iret qX12_ship_99 rfl (ret_i h)
  refine e_ite h (fun hx h => ?_) (fun hx4 h => ?_)
  · refine e_tswk (tgt := 100) qX12_ship_16 hx (by decide) (by decide) (by decide) rfl rfl ?_
    refine e_aload_n qX12_ship_100 rfl ?_
    refine e_aload_n qX12_ship_101 rfl ?_
    refine e_getr 208 qX12_ship_102 fl_X12_33 shq_206 kdq_11_6 rrq_206_6 ?_
    refine e_sipush (nI 166) qX12_ship_105 rfl ?_
    refine e_iload_n qX12_ship_108 rfl ?_
    refine e_iadd qX12_ship_109 ?_
    refine e_iald qX12_ship_110 shq_208 lnq_208 h (fun v7 h => ?_)
    refine e_aload_n qX12_ship_111 rfl ?_
    refine e_getr 208 qX12_ship_112 fl_X12_33 shq_206 kdq_11_6 rrq_206_6 ?_
    refine e_sipush (nI 170) qX12_ship_115 rfl ?_
    refine e_iload_n qX12_ship_118 rfl ?_
    refine e_iadd qX12_ship_119 ?_
    refine e_iald qX12_ship_120 shq_208 lnq_208 h (fun v8 h => ?_)
    refine e_aload_n qX12_ship_121 rfl ?_
    refine e_getr 208 qX12_ship_122 fl_X12_33 shq_206 kdq_11_6 rrq_206_6 ?_
    refine e_sipush (nI 149) qX12_ship_125 rfl ?_
    refine e_iald qX12_ship_128 shq_208 lnq_208 h (fun v9 h => ?_)
    obtain ⟨v10, hc, h⟩ := bp_e h
    refine e_cVi3 qX12_ship_129 mv_X12_287 shq_206 rfl rfl (w_X12_visibleFrom hc) ?_
    exact e_iret qX12_ship_132 rfl (ret_i h)
  refine e_ite h (fun hx h => ?_) (fun hx5 h => ?_)
  · refine e_tswk (tgt := 133) qX12_ship_16 hx (by decide) (by decide) (by decide) rfl rfl ?_
    refine e_aload_n qX12_ship_133 rfl ?_
    refine e_iload_n qX12_ship_134 rfl ?_
    obtain ⟨v11, hc, h⟩ := bp_e h
    refine e_cVi1 qX12_ship_135 mv_X12_307 shq_206 rfl rfl (w_X12_seenBy hc) ?_
    exact e_iret qX12_ship_138 rfl (ret_i h)
  refine e_tswo (tgt := 139) qX12_ship_16 (tsw_def (lo := 0) (n := 6) (by decide) (lt_s (lt_s (lt_s (lt_s (lt_s (lt_s lt_0 hx0) hx1) hx2) hx3) hx4) hx5)) rfl ?_
  refine e_iconst (-1) qX12_ship_139 rfl ?_
  exact e_iret qX12_ship_140 rfl (ret_i h)

def f_X12_visible (N : Nat) (x1 : Int32) (x2 : Int32) (s0 : St) : Option (Int32 × St) :=
  vl (sI s0 206 0 (nI 0)) fun s1 =>
  bp (f_X12_isIn x1 (nI 0) (nI 19) s1) fun v2 =>
  jn (some ((-1), s1)) fun j3 =>
  if v2 = 0 then
    j3
  else
  bp (f_X12_isIn x2 (nI 0) (nI 19) s1) fun v4 =>
  if v4 = 0 then
    j3
  else
  ald (s1.1 208) 359 (nI 149) fun v5 =>
  bp (f_X12_visibleFrom N x1 x2 v5 s1) fun v6 =>
  some (v6, s1)

theorem qX12_visible_0 : Dc mX12_visible 0 (.aload_n 0) 1 1 := ⟨by decide +kernel, rfl⟩
theorem qX12_visible_1 : Dc mX12_visible 1 (.iconst 0) 1 2 := ⟨by decide +kernel, rfl⟩
theorem qX12_visible_2 : Dc mX12_visible 2 (.putfield 1) 3 5 := ⟨by decide +kernel, rfl⟩
theorem qX12_visible_5 : Dc mX12_visible 5 (.iload_n 1) 1 6 := ⟨by decide +kernel, rfl⟩
theorem qX12_visible_6 : Dc mX12_visible 6 (.iconst 0) 1 7 := ⟨by decide +kernel, rfl⟩
theorem qX12_visible_7 : Dc mX12_visible 7 (.bipush 19) 2 9 := ⟨by decide +kernel, rfl⟩
theorem qX12_visible_9 : Dc mX12_visible 9 (.invokestatic 186) 3 12 := ⟨by decide +kernel, rfl⟩
theorem qX12_visible_12 : Dc mX12_visible 12 (.ifCond .eq 30) 3 15 := ⟨by decide +kernel, rfl⟩
theorem qX12_visible_15 : Dc mX12_visible 15 (.iload_n 2) 1 16 := ⟨by decide +kernel, rfl⟩
theorem qX12_visible_16 : Dc mX12_visible 16 (.iconst 0) 1 17 := ⟨by decide +kernel, rfl⟩
theorem qX12_visible_17 : Dc mX12_visible 17 (.bipush 19) 2 19 := ⟨by decide +kernel, rfl⟩
theorem qX12_visible_19 : Dc mX12_visible 19 (.invokestatic 186) 3 22 := ⟨by decide +kernel, rfl⟩
theorem qX12_visible_22 : Dc mX12_visible 22 (.ifCond .eq 20) 3 25 := ⟨by decide +kernel, rfl⟩
theorem qX12_visible_25 : Dc mX12_visible 25 (.aload_n 0) 1 26 := ⟨by decide +kernel, rfl⟩
theorem qX12_visible_26 : Dc mX12_visible 26 (.iload_n 1) 1 27 := ⟨by decide +kernel, rfl⟩
theorem qX12_visible_27 : Dc mX12_visible 27 (.iload_n 2) 1 28 := ⟨by decide +kernel, rfl⟩
theorem qX12_visible_28 : Dc mX12_visible 28 (.aload_n 0) 1 29 := ⟨by decide +kernel, rfl⟩
theorem qX12_visible_29 : Dc mX12_visible 29 (.getfield 33) 3 32 := ⟨by decide +kernel, rfl⟩
theorem qX12_visible_32 : Dc mX12_visible 32 (.sipush 149) 3 35 := ⟨by decide +kernel, rfl⟩
theorem qX12_visible_35 : Dc mX12_visible 35 (.iaload) 1 36 := ⟨by decide +kernel, rfl⟩
theorem qX12_visible_36 : Dc mX12_visible 36 (.invokevirtual 287) 3 39 := ⟨by decide +kernel, rfl⟩
theorem qX12_visible_39 : Dc mX12_visible 39 (.goto 4) 3 42 := ⟨by decide +kernel, rfl⟩
theorem qX12_visible_42 : Dc mX12_visible 42 (.iconst (-1)) 1 43 := ⟨by decide +kernel, rfl⟩
theorem qX12_visible_43 : Dc mX12_visible 43 (.ireturn) 1 44 := ⟨by decide +kernel, rfl⟩

set_option maxRecDepth 20000 in
set_option maxHeartbeats 4000000 in
theorem w_X12_visible {N : Nat} {x1 : Int32} {x2 : Int32} {s0 : St} {r : Int32} {sr : St} (h : f_X12_visible N x1 x2 s0 = some (r, sr)) : Ct mX12_visible 3 [.ref 206, .int x1, .int x2] s0 (some (.int r), sr) := by
  refine Ct.ofE (by decide +kernel) rfl ?_
  show E mX12_visible 3 (some (.int r), sr) 0 [some (.ref 206), some (.int x1), some (.int x2)] [] s0
  unfold f_X12_visible at h
  refine e_aload_n qX12_visible_0 rfl ?_
  refine e_iconst (nI 0) qX12_visible_1 rfl ?_
  refine e_puti qX12_visible_2 fp_X12_1 shq_206 kdq_11_0 h (fun s1 h => ?_)
  refine e_iload_n qX12_visible_5 rfl ?_
  refine e_iconst (nI 0) qX12_visible_6 rfl ?_
  refine e_bipush (nI 19) qX12_visible_7 rfl ?_
  obtain ⟨v2, hc, h⟩ := bp_e h
  refine e_cSi3 qX12_visible_9 ms_X12_186 rfl rfl (w_X12_isIn hc) ?_
  refine jn_e (fun j => j = some (r, sr) → E mX12_visible 3 (some (.int r), sr) 42 [none, none, none] [] s1) h ?_ (fun j3 hj3 h => ?_)
  · intro h
    refine e_iconst (-1) qX12_visible_42 rfl ?_
    exact e_iret qX12_visible_43 rfl (ret_i h)
  refine e_if_eq (tgt := 42) qX12_visible_12 rfl h (fun _ h => ?_) (fun _ h => ?_)
  · exact e_weak (hj3 h) ⟨Or.inl rfl, Or.inl rfl, Or.inl rfl, trivial⟩
  refine e_iload_n qX12_visible_15 rfl ?_
  refine e_iconst (nI 0) qX12_visible_16 rfl ?_
  refine e_bipush (nI 19) qX12_visible_17 rfl ?_
  obtain ⟨v4, hc, h⟩ := bp_e h
  refine e_cSi3 qX12_visible_19 ms_X12_186 rfl rfl (w_X12_isIn hc) ?_
  refine e_if_eq (tgt := 42) qX12_visible_22 rfl h (fun _ h => ?_) (fun _ h => ?_)
  · exact e_weak (hj3 h) ⟨Or.inl rfl, Or.inl rfl, Or.inl rfl, trivial⟩
  refine e_aload_n qX12_visible_25 rfl ?_
  refine e_iload_n qX12_visible_26 rfl ?_
  refine e_iload_n qX12_visible_27 rfl ?_
  refine e_aload_n qX12_visible_28 rfl ?_
  refine e_getr 208 qX12_visible_29 fl_X12_33 shq_206 kdq_11_6 rrq_206_6 ?_
  refine e_sipush (nI 149) qX12_visible_32 rfl ?_
  refine e_iald qX12_visible_35 shq_208 lnq_208 h (fun v5 h => ?_)
  obtain ⟨v6, hc, h⟩ := bp_e h
  refine e_cVi3 qX12_visible_36 mv_X12_287 shq_206 rfl rfl (w_X12_visibleFrom hc) ?_
  refine e_goto (tgt := 43) qX12_visible_39 rfl ?_
  exact e_iret qX12_visible_43 rfl (ret_i h)

def f_X12_now_L9 (N : Nat) (c2 : Int32) (s5 : St) (k6 : Int32 → Option (Int32 × St)) : Nat → Int32 → Int32 → Option (Int32 × St)
  | 0, _, _ => none
  | n8 + 1, v3, v4 =>
    ald (s5.1 208) 359 (nI 0) fun v10 =>
    if v10 ≤ v4 then
      k6 v3
    else
    ald (s5.1 208) 359 ((nI 150) + v4) fun v11 =>
    jn (fun (v12 : Int32) =>
      vl (v3 ||| v12) fun v14 =>
      vl (v4 + (nI 1)) fun v15 =>
      f_X12_now_L9 N c2 s5 k6 n8 v14 v15) fun j13 =>
    if v11 = 0 then
      j13 ((nI 1) <<< (v4 &&& 31))
    else
    j13 (nI 0)

def f_X12_now (N : Nat) (x1 : Int32) (s0 : St) : Option (Int32 × St) :=
  vl (sI s0 206 0 (nI 0)) fun s1 =>
  f_X12_now_L9 N x1 s1 (fun (v16 : Int32) =>
    if x1 = nI 0 then
      ald (s1.1 208) 359 (nI 147) fun v17 =>
      some (v17, s1)
    else
    if x1 = nI 1 then
      bp (f_X12_shining N s1) fun v18 =>
      some (v18, s1)
    else
    if x1 = nI 2 then
      ald (s1.1 208) 359 (nI 148) fun v19 =>
      some (v19, s1)
    else
    if x1 = nI 3 then
      some (v16, s1)
    else
    if x1 = nI 4 then
      ald (s1.1 208) 359 (nI 149) fun v20 =>
      some (v20, s1)
    else
    if x1 = nI 5 then
      bp (f_X12_oilInAll N s1) fun v21 =>
      some (v21, s1)
    else
    some ((-1), s1)) N (nI 0) (nI 0)

theorem qX12_now_0 : Dc mX12_now 0 (.aload_n 0) 1 1 := ⟨by decide +kernel, rfl⟩
theorem qX12_now_1 : Dc mX12_now 1 (.iconst 0) 1 2 := ⟨by decide +kernel, rfl⟩
theorem qX12_now_2 : Dc mX12_now 2 (.putfield 1) 3 5 := ⟨by decide +kernel, rfl⟩
theorem qX12_now_5 : Dc mX12_now 5 (.iconst 0) 1 6 := ⟨by decide +kernel, rfl⟩
theorem qX12_now_6 : Dc mX12_now 6 (.istore_n 2) 1 7 := ⟨by decide +kernel, rfl⟩
theorem qX12_now_7 : Dc mX12_now 7 (.iconst 0) 1 8 := ⟨by decide +kernel, rfl⟩
theorem qX12_now_8 : Dc mX12_now 8 (.istore_n 3) 1 9 := ⟨by decide +kernel, rfl⟩
theorem qX12_now_9 : Dc mX12_now 9 (.iload_n 3) 1 10 := ⟨by decide +kernel, rfl⟩
theorem qX12_now_10 : Dc mX12_now 10 (.aload_n 0) 1 11 := ⟨by decide +kernel, rfl⟩
theorem qX12_now_11 : Dc mX12_now 11 (.getfield 33) 3 14 := ⟨by decide +kernel, rfl⟩
theorem qX12_now_14 : Dc mX12_now 14 (.iconst 0) 1 15 := ⟨by decide +kernel, rfl⟩
theorem qX12_now_15 : Dc mX12_now 15 (.iaload) 1 16 := ⟨by decide +kernel, rfl⟩
theorem qX12_now_16 : Dc mX12_now 16 (.if_icmp .ge 32) 3 19 := ⟨by decide +kernel, rfl⟩
theorem qX12_now_19 : Dc mX12_now 19 (.iload_n 2) 1 20 := ⟨by decide +kernel, rfl⟩
theorem qX12_now_20 : Dc mX12_now 20 (.aload_n 0) 1 21 := ⟨by decide +kernel, rfl⟩
theorem qX12_now_21 : Dc mX12_now 21 (.getfield 33) 3 24 := ⟨by decide +kernel, rfl⟩
theorem qX12_now_24 : Dc mX12_now 24 (.sipush 150) 3 27 := ⟨by decide +kernel, rfl⟩
theorem qX12_now_27 : Dc mX12_now 27 (.iload_n 3) 1 28 := ⟨by decide +kernel, rfl⟩
theorem qX12_now_28 : Dc mX12_now 28 (.iadd) 1 29 := ⟨by decide +kernel, rfl⟩
theorem qX12_now_29 : Dc mX12_now 29 (.iaload) 1 30 := ⟨by decide +kernel, rfl⟩
theorem qX12_now_30 : Dc mX12_now 30 (.ifCond .ne 9) 3 33 := ⟨by decide +kernel, rfl⟩
theorem qX12_now_33 : Dc mX12_now 33 (.iconst 1) 1 34 := ⟨by decide +kernel, rfl⟩
theorem qX12_now_34 : Dc mX12_now 34 (.iload_n 3) 1 35 := ⟨by decide +kernel, rfl⟩
theorem qX12_now_35 : Dc mX12_now 35 (.ishl) 1 36 := ⟨by decide +kernel, rfl⟩
theorem qX12_now_36 : Dc mX12_now 36 (.goto 4) 3 39 := ⟨by decide +kernel, rfl⟩
theorem qX12_now_39 : Dc mX12_now 39 (.iconst 0) 1 40 := ⟨by decide +kernel, rfl⟩
theorem qX12_now_40 : Dc mX12_now 40 (.ior) 1 41 := ⟨by decide +kernel, rfl⟩
theorem qX12_now_41 : Dc mX12_now 41 (.istore_n 2) 1 42 := ⟨by decide +kernel, rfl⟩
theorem qX12_now_42 : Dc mX12_now 42 (.iinc 3 1) 3 45 := ⟨by decide +kernel, rfl⟩
theorem qX12_now_45 : Dc mX12_now 45 (.goto (-36)) 3 48 := ⟨by decide +kernel, rfl⟩
theorem qX12_now_48 : Dc mX12_now 48 (.iload_n 1) 1 49 := ⟨by decide +kernel, rfl⟩
theorem qX12_now_49 : Dc mX12_now 49 (.tableswitch 78 0 5 #[39, 48, 53, 62, 64, 73]) 39 88 := ⟨by decide +kernel, rfl⟩
theorem qX12_now_88 : Dc mX12_now 88 (.aload_n 0) 1 89 := ⟨by decide +kernel, rfl⟩
theorem qX12_now_89 : Dc mX12_now 89 (.getfield 33) 3 92 := ⟨by decide +kernel, rfl⟩
theorem qX12_now_92 : Dc mX12_now 92 (.sipush 147) 3 95 := ⟨by decide +kernel, rfl⟩
theorem qX12_now_95 : Dc mX12_now 95 (.iaload) 1 96 := ⟨by decide +kernel, rfl⟩
theorem qX12_now_96 : Dc mX12_now 96 (.ireturn) 1 97 := ⟨by decide +kernel, rfl⟩
theorem qX12_now_97 : Dc mX12_now 97 (.aload_n 0) 1 98 := ⟨by decide +kernel, rfl⟩
theorem qX12_now_98 : Dc mX12_now 98 (.invokevirtual 291) 3 101 := ⟨by decide +kernel, rfl⟩
theorem qX12_now_101 : Dc mX12_now 101 (.ireturn) 1 102 := ⟨by decide +kernel, rfl⟩
theorem qX12_now_102 : Dc mX12_now 102 (.aload_n 0) 1 103 := ⟨by decide +kernel, rfl⟩
theorem qX12_now_103 : Dc mX12_now 103 (.getfield 33) 3 106 := ⟨by decide +kernel, rfl⟩
theorem qX12_now_106 : Dc mX12_now 106 (.sipush 148) 3 109 := ⟨by decide +kernel, rfl⟩
theorem qX12_now_109 : Dc mX12_now 109 (.iaload) 1 110 := ⟨by decide +kernel, rfl⟩
theorem qX12_now_110 : Dc mX12_now 110 (.ireturn) 1 111 := ⟨by decide +kernel, rfl⟩
theorem qX12_now_111 : Dc mX12_now 111 (.iload_n 2) 1 112 := ⟨by decide +kernel, rfl⟩
theorem qX12_now_112 : Dc mX12_now 112 (.ireturn) 1 113 := ⟨by decide +kernel, rfl⟩
theorem qX12_now_113 : Dc mX12_now 113 (.aload_n 0) 1 114 := ⟨by decide +kernel, rfl⟩
theorem qX12_now_114 : Dc mX12_now 114 (.getfield 33) 3 117 := ⟨by decide +kernel, rfl⟩
theorem qX12_now_117 : Dc mX12_now 117 (.sipush 149) 3 120 := ⟨by decide +kernel, rfl⟩
theorem qX12_now_120 : Dc mX12_now 120 (.iaload) 1 121 := ⟨by decide +kernel, rfl⟩
theorem qX12_now_121 : Dc mX12_now 121 (.ireturn) 1 122 := ⟨by decide +kernel, rfl⟩
theorem qX12_now_122 : Dc mX12_now 122 (.aload_n 0) 1 123 := ⟨by decide +kernel, rfl⟩
theorem qX12_now_123 : Dc mX12_now 123 (.invokevirtual 310) 3 126 := ⟨by decide +kernel, rfl⟩
theorem qX12_now_126 : Dc mX12_now 126 (.ireturn) 1 127 := ⟨by decide +kernel, rfl⟩
theorem qX12_now_127 : Dc mX12_now 127 (.iconst (-1)) 1 128 := ⟨by decide +kernel, rfl⟩
theorem qX12_now_128 : Dc mX12_now 128 (.ireturn) 1 129 := ⟨by decide +kernel, rfl⟩

set_option maxRecDepth 20000 in
set_option maxHeartbeats 4000000 in
theorem w_X12_now_L9 {N : Nat} {c2 : Int32} {s5 : St} {k6 : Int32 → Option (Int32 × St)} {r : Int32} {sr : St}  (hk6 : ∀ (v7 : Int32), k6 v7 = some (r, sr) → E mX12_now 4 (some (.int r), sr) 48 [some (.ref 206), some (.int c2), some (.int v7), none] [] s5) : ∀ (n8 : Nat) (v3 : Int32) (v4 : Int32), f_X12_now_L9 N c2 s5 k6 n8 v3 v4 = some (r, sr) → E mX12_now 4 (some (.int r), sr) 9 [some (.ref 206), some (.int c2), some (.int v3), some (.int v4)] [] s5 := by
  intro n8
  induction n8 with
  | zero =>
    intro v3 v4 h
    rw [f_X12_now_L9] at h; cases h
  | succ n8 ih9 =>
    intro v3 v4 h
    rw [f_X12_now_L9] at h
    refine e_iload_n qX12_now_9 rfl ?_
    refine e_aload_n qX12_now_10 rfl ?_
    refine e_getr 208 qX12_now_11 fl_X12_33 shq_206 kdq_11_6 rrq_206_6 ?_
    refine e_iconst (nI 0) qX12_now_14 rfl ?_
    refine e_iald qX12_now_15 shq_208 lnq_208 h (fun v10 h => ?_)
    refine e_icmp_ge (tgt := 48) qX12_now_16 rfl h (fun _ h => ?_) (fun _ h => ?_)
    · exact e_weak (hk6 _ h) ⟨Or.inr rfl, Or.inr rfl, Or.inr rfl, Or.inl rfl, trivial⟩
    refine e_iload_n qX12_now_19 rfl ?_
    refine e_aload_n qX12_now_20 rfl ?_
    refine e_getr 208 qX12_now_21 fl_X12_33 shq_206 kdq_11_6 rrq_206_6 ?_
    refine e_sipush (nI 150) qX12_now_24 rfl ?_
    refine e_iload_n qX12_now_27 rfl ?_
    refine e_iadd qX12_now_28 ?_
    refine e_iald qX12_now_29 shq_208 lnq_208 h (fun v11 h => ?_)
    refine jn_e (fun j => ∀ (v12 : Int32), j v12 = some (r, sr) → E mX12_now 4 (some (.int r), sr) 40 [some (.ref 206), some (.int c2), none, some (.int v4)] [.int v12, .int v3] s5) h ?_ (fun j13 hj13 h => ?_)
    · intro v12 h
      refine e_ior qX12_now_40 ?_
      refine vl_e h (fun h => ?_)
      generalize (v3 ||| v12) = v14 at h ⊢
      refine e_istore_n (lv2 := [some (.ref 206), some (.int c2), some (.int v14), some (.int v4)]) qX12_now_41 rfl rfl rfl ?_
      refine vl_e h (fun h => ?_)
      obtain ⟨v15, ev15⟩ : ∃ y, v4 + (nI 1) = y := ⟨_, rfl⟩
      rw [ev15] at h
      refine e_iinc (nI 1) v15 (lv2 := [some (.ref 206), some (.int c2), some (.int v14), some (.int v15)]) qX12_now_42 rfl rfl rfl ev15 rfl ?_
      refine e_goto (tgt := 9) qX12_now_45 rfl ?_
      exact e_weak (ih9 _ _ h) ⟨Or.inr rfl, Or.inr rfl, Or.inr rfl, Or.inr rfl, trivial⟩
    refine e_if_ne (tgt := 39) qX12_now_30 rfl h (fun _ h => ?_) (fun _ h => ?_)
    · refine e_iconst (nI 1) qX12_now_33 rfl ?_
      refine e_iload_n qX12_now_34 rfl ?_
      refine e_ishl qX12_now_35 ?_
      refine e_goto (tgt := 40) qX12_now_36 rfl ?_
      exact e_weak (hj13 _ h) ⟨Or.inr rfl, Or.inr rfl, Or.inl rfl, Or.inr rfl, trivial⟩
    refine e_iconst (nI 0) qX12_now_39 rfl ?_
    exact e_weak (hj13 _ h) ⟨Or.inr rfl, Or.inr rfl, Or.inl rfl, Or.inr rfl, trivial⟩

set_option maxRecDepth 20000 in
set_option maxHeartbeats 4000000 in
theorem w_X12_now {N : Nat} {x1 : Int32} {s0 : St} {r : Int32} {sr : St} (h : f_X12_now N x1 s0 = some (r, sr)) : Ct mX12_now 4 [.ref 206, .int x1] s0 (some (.int r), sr) := by
  refine Ct.ofE (by decide +kernel) rfl ?_
  show E mX12_now 4 (some (.int r), sr) 0 [some (.ref 206), some (.int x1), none, none] [] s0
  unfold f_X12_now at h
  refine e_aload_n qX12_now_0 rfl ?_
  refine e_iconst (nI 0) qX12_now_1 rfl ?_
  refine e_puti qX12_now_2 fp_X12_1 shq_206 kdq_11_0 h (fun s1 h => ?_)
  refine e_iconst (nI 0) qX12_now_5 rfl ?_
  refine e_istore_n (lv2 := [some (.ref 206), some (.int x1), some (.int (nI 0)), none]) qX12_now_6 rfl rfl rfl ?_
  refine e_iconst (nI 0) qX12_now_7 rfl ?_
  refine e_istore_n (lv2 := [some (.ref 206), some (.int x1), some (.int (nI 0)), some (.int (nI 0))]) qX12_now_8 rfl rfl rfl ?_
  refine e_weak (w_X12_now_L9 (fun v16 h => ?_) _ _ _ h) ⟨Or.inr rfl, Or.inr rfl, Or.inr rfl, Or.inr rfl, trivial⟩
  refine e_iload_n qX12_now_48 rfl ?_
  refine e_ite h (fun hx h => ?_) (fun hx0 h => ?_)
  · refine e_tswk (tgt := 88) qX12_now_49 hx (by decide) (by decide) (by decide) rfl rfl ?_
    refine e_aload_n qX12_now_88 rfl ?_
    refine e_getr 208 qX12_now_89 fl_X12_33 shq_206 kdq_11_6 rrq_206_6 ?_
    refine e_sipush (nI 147) qX12_now_92 rfl ?_
    refine e_iald qX12_now_95 shq_208 lnq_208 h (fun v17 h => ?_)
    exact e_iret qX12_now_96 rfl (ret_i h)
  refine e_ite h (fun hx h => ?_) (fun hx1 h => ?_)
  · refine e_tswk (tgt := 97) qX12_now_49 hx (by decide) (by decide) (by decide) rfl rfl ?_
    refine e_aload_n qX12_now_97 rfl ?_
    obtain ⟨v18, hc, h⟩ := bp_e h
    refine e_cVi0 qX12_now_98 mv_X12_291 shq_206 rfl rfl (w_X12_shining hc) ?_
    exact e_iret qX12_now_101 rfl (ret_i h)
  refine e_ite h (fun hx h => ?_) (fun hx2 h => ?_)
  · refine e_tswk (tgt := 102) qX12_now_49 hx (by decide) (by decide) (by decide) rfl rfl ?_
    refine e_aload_n qX12_now_102 rfl ?_
    refine e_getr 208 qX12_now_103 fl_X12_33 shq_206 kdq_11_6 rrq_206_6 ?_
    refine e_sipush (nI 148) qX12_now_106 rfl ?_
    refine e_iald qX12_now_109 shq_208 lnq_208 h (fun v19 h => ?_)
    exact e_iret qX12_now_110 rfl (ret_i h)
  refine e_ite h (fun hx h => ?_) (fun hx3 h => ?_)
  · refine e_tswk (tgt := 111) qX12_now_49 hx (by decide) (by decide) (by decide) rfl rfl ?_
    refine e_iload_n qX12_now_111 rfl ?_
    exact e_iret qX12_now_112 rfl (ret_i h)
  refine e_ite h (fun hx h => ?_) (fun hx4 h => ?_)
  · refine e_tswk (tgt := 113) qX12_now_49 hx (by decide) (by decide) (by decide) rfl rfl ?_
    refine e_aload_n qX12_now_113 rfl ?_
    refine e_getr 208 qX12_now_114 fl_X12_33 shq_206 kdq_11_6 rrq_206_6 ?_
    refine e_sipush (nI 149) qX12_now_117 rfl ?_
    refine e_iald qX12_now_120 shq_208 lnq_208 h (fun v20 h => ?_)
    exact e_iret qX12_now_121 rfl (ret_i h)
  refine e_ite h (fun hx h => ?_) (fun hx5 h => ?_)
  · refine e_tswk (tgt := 122) qX12_now_49 hx (by decide) (by decide) (by decide) rfl rfl ?_
    refine e_aload_n qX12_now_122 rfl ?_
    obtain ⟨v21, hc, h⟩ := bp_e h
    refine e_cVi0 qX12_now_123 mv_X12_310 shq_206 rfl rfl (w_X12_oilInAll hc) ?_
    exact e_iret qX12_now_126 rfl (ret_i h)
  refine e_tswo (tgt := 127) qX12_now_49 (tsw_def (lo := 0) (n := 6) (by decide) (lt_s (lt_s (lt_s (lt_s (lt_s (lt_s lt_0 hx0) hx1) hx2) hx3) hx4) hx5)) rfl ?_
  refine e_iconst (-1) qX12_now_127 rfl ?_
  exact e_iret qX12_now_128 rfl (ret_i h)

def f_X12_whyKindle (x1 : Int32) (s0 : St) : Option (Int32) :=
  ald (s0.1 208) 359 (nI 148) fun v1 =>
  bp (f_X12_bitOf v1 x1 s0) fun v2 =>
  if v2 = 0 then
    some (nI 1)
  else
  ald (s0.1 208) 359 ((nI 150) + x1) fun v3 =>
  if v3 = 0 then
    some (nI 2)
  else
  some (nI 0)

theorem qX12_whyKindle_0 : Dc mX12_whyKindle 0 (.aload_n 0) 1 1 := ⟨by decide +kernel, rfl⟩
theorem qX12_whyKindle_1 : Dc mX12_whyKindle 1 (.getfield 33) 3 4 := ⟨by decide +kernel, rfl⟩
theorem qX12_whyKindle_4 : Dc mX12_whyKindle 4 (.sipush 148) 3 7 := ⟨by decide +kernel, rfl⟩
theorem qX12_whyKindle_7 : Dc mX12_whyKindle 7 (.iaload) 1 8 := ⟨by decide +kernel, rfl⟩
theorem qX12_whyKindle_8 : Dc mX12_whyKindle 8 (.iload_n 1) 1 9 := ⟨by decide +kernel, rfl⟩
theorem qX12_whyKindle_9 : Dc mX12_whyKindle 9 (.invokestatic 240) 3 12 := ⟨by decide +kernel, rfl⟩
theorem qX12_whyKindle_12 : Dc mX12_whyKindle 12 (.ifCond .ne 7) 3 15 := ⟨by decide +kernel, rfl⟩
theorem qX12_whyKindle_15 : Dc mX12_whyKindle 15 (.iconst 1) 1 16 := ⟨by decide +kernel, rfl⟩
theorem qX12_whyKindle_16 : Dc mX12_whyKindle 16 (.goto 21) 3 19 := ⟨by decide +kernel, rfl⟩
theorem qX12_whyKindle_19 : Dc mX12_whyKindle 19 (.aload_n 0) 1 20 := ⟨by decide +kernel, rfl⟩
theorem qX12_whyKindle_20 : Dc mX12_whyKindle 20 (.getfield 33) 3 23 := ⟨by decide +kernel, rfl⟩
theorem qX12_whyKindle_23 : Dc mX12_whyKindle 23 (.sipush 150) 3 26 := ⟨by decide +kernel, rfl⟩
theorem qX12_whyKindle_26 : Dc mX12_whyKindle 26 (.iload_n 1) 1 27 := ⟨by decide +kernel, rfl⟩
theorem qX12_whyKindle_27 : Dc mX12_whyKindle 27 (.iadd) 1 28 := ⟨by decide +kernel, rfl⟩
theorem qX12_whyKindle_28 : Dc mX12_whyKindle 28 (.iaload) 1 29 := ⟨by decide +kernel, rfl⟩
theorem qX12_whyKindle_29 : Dc mX12_whyKindle 29 (.ifCond .ne 7) 3 32 := ⟨by decide +kernel, rfl⟩
theorem qX12_whyKindle_32 : Dc mX12_whyKindle 32 (.iconst 2) 1 33 := ⟨by decide +kernel, rfl⟩
theorem qX12_whyKindle_33 : Dc mX12_whyKindle 33 (.goto 4) 3 36 := ⟨by decide +kernel, rfl⟩
theorem qX12_whyKindle_36 : Dc mX12_whyKindle 36 (.iconst 0) 1 37 := ⟨by decide +kernel, rfl⟩
theorem qX12_whyKindle_37 : Dc mX12_whyKindle 37 (.ireturn) 1 38 := ⟨by decide +kernel, rfl⟩

set_option maxRecDepth 20000 in
set_option maxHeartbeats 4000000 in
theorem w_X12_whyKindle {x1 : Int32} {s0 : St} {r : Int32} (h : f_X12_whyKindle x1 s0 = some r) : Ct mX12_whyKindle 1 [.ref 206, .int x1] s0 (some (.int r), s0) := by
  refine Ct.ofE (by decide +kernel) rfl ?_
  show E mX12_whyKindle 1 (some (.int r), s0) 0 [some (.ref 206), some (.int x1)] [] s0
  unfold f_X12_whyKindle at h
  refine e_aload_n qX12_whyKindle_0 rfl ?_
  refine e_getr 208 qX12_whyKindle_1 fl_X12_33 shq_206 kdq_11_6 rrq_206_6 ?_
  refine e_sipush (nI 148) qX12_whyKindle_4 rfl ?_
  refine e_iald qX12_whyKindle_7 shq_208 lnq_208 h (fun v1 h => ?_)
  refine e_iload_n qX12_whyKindle_8 rfl ?_
  obtain ⟨v2, hc, h⟩ := bp_e h
  refine e_cSi2 qX12_whyKindle_9 ms_X12_240 rfl rfl (w_X12_bitOf hc) ?_
  refine e_if_ne (tgt := 19) qX12_whyKindle_12 rfl h (fun _ h => ?_) (fun _ h => ?_)
  · refine e_iconst (nI 1) qX12_whyKindle_15 rfl ?_
    refine e_goto (tgt := 37) qX12_whyKindle_16 rfl ?_
    exact e_iret qX12_whyKindle_37 rfl (ret_p h)
  refine e_aload_n qX12_whyKindle_19 rfl ?_
  refine e_getr 208 qX12_whyKindle_20 fl_X12_33 shq_206 kdq_11_6 rrq_206_6 ?_
  refine e_sipush (nI 150) qX12_whyKindle_23 rfl ?_
  refine e_iload_n qX12_whyKindle_26 rfl ?_
  refine e_iadd qX12_whyKindle_27 ?_
  refine e_iald qX12_whyKindle_28 shq_208 lnq_208 h (fun v3 h => ?_)
  refine e_if_ne (tgt := 36) qX12_whyKindle_29 rfl h (fun _ h => ?_) (fun _ h => ?_)
  · refine e_iconst (nI 2) qX12_whyKindle_32 rfl ?_
    refine e_goto (tgt := 37) qX12_whyKindle_33 rfl ?_
    exact e_iret qX12_whyKindle_37 rfl (ret_p h)
  refine e_iconst (nI 0) qX12_whyKindle_36 rfl ?_
  exact e_iret qX12_whyKindle_37 rfl (ret_p h)

def f_X12_whyFill (x1 : Int32) (x2 : Int32) (s0 : St) : Option (Int32) :=
  ald (s0.1 208) 359 ((nI 150) + x1) fun v1 =>
  if (v1 + x2) ≤ (nI 999) then
    some (nI 0)
  else
  some (nI 1)

theorem qX12_whyFill_0 : Dc mX12_whyFill 0 (.aload_n 0) 1 1 := ⟨by decide +kernel, rfl⟩
theorem qX12_whyFill_1 : Dc mX12_whyFill 1 (.getfield 33) 3 4 := ⟨by decide +kernel, rfl⟩
theorem qX12_whyFill_4 : Dc mX12_whyFill 4 (.sipush 150) 3 7 := ⟨by decide +kernel, rfl⟩
theorem qX12_whyFill_7 : Dc mX12_whyFill 7 (.iload_n 1) 1 8 := ⟨by decide +kernel, rfl⟩
theorem qX12_whyFill_8 : Dc mX12_whyFill 8 (.iadd) 1 9 := ⟨by decide +kernel, rfl⟩
theorem qX12_whyFill_9 : Dc mX12_whyFill 9 (.iaload) 1 10 := ⟨by decide +kernel, rfl⟩
theorem qX12_whyFill_10 : Dc mX12_whyFill 10 (.iload_n 2) 1 11 := ⟨by decide +kernel, rfl⟩
theorem qX12_whyFill_11 : Dc mX12_whyFill 11 (.iadd) 1 12 := ⟨by decide +kernel, rfl⟩
theorem qX12_whyFill_12 : Dc mX12_whyFill 12 (.sipush 999) 3 15 := ⟨by decide +kernel, rfl⟩
theorem qX12_whyFill_15 : Dc mX12_whyFill 15 (.if_icmp .le 7) 3 18 := ⟨by decide +kernel, rfl⟩
theorem qX12_whyFill_18 : Dc mX12_whyFill 18 (.iconst 1) 1 19 := ⟨by decide +kernel, rfl⟩
theorem qX12_whyFill_19 : Dc mX12_whyFill 19 (.goto 4) 3 22 := ⟨by decide +kernel, rfl⟩
theorem qX12_whyFill_22 : Dc mX12_whyFill 22 (.iconst 0) 1 23 := ⟨by decide +kernel, rfl⟩
theorem qX12_whyFill_23 : Dc mX12_whyFill 23 (.ireturn) 1 24 := ⟨by decide +kernel, rfl⟩

set_option maxRecDepth 20000 in
set_option maxHeartbeats 4000000 in
theorem w_X12_whyFill {x1 : Int32} {x2 : Int32} {s0 : St} {r : Int32} (h : f_X12_whyFill x1 x2 s0 = some r) : Ct mX12_whyFill 0 [.ref 206, .int x1, .int x2] s0 (some (.int r), s0) := by
  refine Ct.ofE (by decide +kernel) rfl ?_
  show E mX12_whyFill 0 (some (.int r), s0) 0 [some (.ref 206), some (.int x1), some (.int x2)] [] s0
  unfold f_X12_whyFill at h
  refine e_aload_n qX12_whyFill_0 rfl ?_
  refine e_getr 208 qX12_whyFill_1 fl_X12_33 shq_206 kdq_11_6 rrq_206_6 ?_
  refine e_sipush (nI 150) qX12_whyFill_4 rfl ?_
  refine e_iload_n qX12_whyFill_7 rfl ?_
  refine e_iadd qX12_whyFill_8 ?_
  refine e_iald qX12_whyFill_9 shq_208 lnq_208 h (fun v1 h => ?_)
  refine e_iload_n qX12_whyFill_10 rfl ?_
  refine e_iadd qX12_whyFill_11 ?_
  refine e_sipush (nI 999) qX12_whyFill_12 rfl ?_
  refine e_icmp_le (tgt := 22) qX12_whyFill_15 rfl h (fun _ h => ?_) (fun _ h => ?_)
  · refine e_iconst (nI 0) qX12_whyFill_22 rfl ?_
    exact e_iret qX12_whyFill_23 rfl (ret_p h)
  refine e_iconst (nI 1) qX12_whyFill_18 rfl ?_
  refine e_goto (tgt := 23) qX12_whyFill_19 rfl ?_
  exact e_iret qX12_whyFill_23 rfl (ret_p h)

def f_X12_turns (N : Nat) (x1 : Int32) (x2 : Int32) (s0 : St) : Option (St) :=
  ald (s0.1 208) 359 ((nI 158) + x1) fun v1 =>
  bp (f_X12_periodOf N x1 s0) fun v2 =>
  rm_ (v1 + x2) v2 fun v3 =>
  ald (fun j => sI s0 208 j v3) 359 ((nI 158) + x1) fun s4 =>
  some s4

theorem qX12_turns_0 : Dc mX12_turns 0 (.aload_n 0) 1 1 := ⟨by decide +kernel, rfl⟩
theorem qX12_turns_1 : Dc mX12_turns 1 (.getfield 33) 3 4 := ⟨by decide +kernel, rfl⟩
theorem qX12_turns_4 : Dc mX12_turns 4 (.sipush 158) 3 7 := ⟨by decide +kernel, rfl⟩
theorem qX12_turns_7 : Dc mX12_turns 7 (.iload_n 1) 1 8 := ⟨by decide +kernel, rfl⟩
theorem qX12_turns_8 : Dc mX12_turns 8 (.iadd) 1 9 := ⟨by decide +kernel, rfl⟩
theorem qX12_turns_9 : Dc mX12_turns 9 (.aload_n 0) 1 10 := ⟨by decide +kernel, rfl⟩
theorem qX12_turns_10 : Dc mX12_turns 10 (.getfield 33) 3 13 := ⟨by decide +kernel, rfl⟩
theorem qX12_turns_13 : Dc mX12_turns 13 (.sipush 158) 3 16 := ⟨by decide +kernel, rfl⟩
theorem qX12_turns_16 : Dc mX12_turns 16 (.iload_n 1) 1 17 := ⟨by decide +kernel, rfl⟩
theorem qX12_turns_17 : Dc mX12_turns 17 (.iadd) 1 18 := ⟨by decide +kernel, rfl⟩
theorem qX12_turns_18 : Dc mX12_turns 18 (.iaload) 1 19 := ⟨by decide +kernel, rfl⟩
theorem qX12_turns_19 : Dc mX12_turns 19 (.iload_n 2) 1 20 := ⟨by decide +kernel, rfl⟩
theorem qX12_turns_20 : Dc mX12_turns 20 (.iadd) 1 21 := ⟨by decide +kernel, rfl⟩
theorem qX12_turns_21 : Dc mX12_turns 21 (.aload_n 0) 1 22 := ⟨by decide +kernel, rfl⟩
theorem qX12_turns_22 : Dc mX12_turns 22 (.iload_n 1) 1 23 := ⟨by decide +kernel, rfl⟩
theorem qX12_turns_23 : Dc mX12_turns 23 (.invokevirtual 261) 3 26 := ⟨by decide +kernel, rfl⟩
theorem qX12_turns_26 : Dc mX12_turns 26 (.irem) 1 27 := ⟨by decide +kernel, rfl⟩
theorem qX12_turns_27 : Dc mX12_turns 27 (.iastore) 1 28 := ⟨by decide +kernel, rfl⟩
theorem qX12_turns_28 : Dc mX12_turns 28 (.return_) 1 29 := ⟨by decide +kernel, rfl⟩

set_option maxRecDepth 20000 in
set_option maxHeartbeats 4000000 in
theorem w_X12_turns {N : Nat} {x1 : Int32} {x2 : Int32} {s0 : St} {sr : St} (h : f_X12_turns N x1 x2 s0 = some sr) : Ct mX12_turns 1 [.ref 206, .int x1, .int x2] s0 (none, sr) := by
  refine Ct.ofE (by decide +kernel) rfl ?_
  show E mX12_turns 1 (none, sr) 0 [some (.ref 206), some (.int x1), some (.int x2)] [] s0
  unfold f_X12_turns at h
  refine e_aload_n qX12_turns_0 rfl ?_
  refine e_getr 208 qX12_turns_1 fl_X12_33 shq_206 kdq_11_6 rrq_206_6 ?_
  refine e_sipush (nI 158) qX12_turns_4 rfl ?_
  refine e_iload_n qX12_turns_7 rfl ?_
  refine e_iadd qX12_turns_8 ?_
  refine e_aload_n qX12_turns_9 rfl ?_
  refine e_getr 208 qX12_turns_10 fl_X12_33 shq_206 kdq_11_6 rrq_206_6 ?_
  refine e_sipush (nI 158) qX12_turns_13 rfl ?_
  refine e_iload_n qX12_turns_16 rfl ?_
  refine e_iadd qX12_turns_17 ?_
  refine e_iald qX12_turns_18 shq_208 lnq_208 h (fun v1 h => ?_)
  refine e_iload_n qX12_turns_19 rfl ?_
  refine e_iadd qX12_turns_20 ?_
  refine e_aload_n qX12_turns_21 rfl ?_
  refine e_iload_n qX12_turns_22 rfl ?_
  obtain ⟨v2, hc, h⟩ := bp_e h
  refine e_cVi1 qX12_turns_23 mv_X12_261 shq_206 rfl rfl (w_X12_periodOf hc) ?_
  refine e_irem qX12_turns_26 h (fun v3 h => ?_)
  refine e_iast qX12_turns_27 shq_208 lnq_208 h (fun s4 h => ?_)
  exact e_vret qX12_turns_28 rfl (ret_v h)

def f_X12_stepX (x0 : Int32) (s0 : St) : Option (Int32) :=
  if x0 = 0 then
    some (nI 1)
  else
  if x0 = (nI 1) then
    some (nI 1)
  else
  if x0 = (nI 7) then
    some (nI 1)
  else
  if x0 = (nI 3) then
    some (-1)
  else
  if x0 = (nI 4) then
    some (-1)
  else
  if x0 = (nI 5) then
    some (-1)
  else
  some (nI 0)

theorem qX12_stepX_0 : Dc mX12_stepX 0 (.iload_n 0) 1 1 := ⟨by decide +kernel, rfl⟩
theorem qX12_stepX_1 : Dc mX12_stepX 1 (.ifCond .eq 14) 3 4 := ⟨by decide +kernel, rfl⟩
theorem qX12_stepX_4 : Dc mX12_stepX 4 (.iload_n 0) 1 5 := ⟨by decide +kernel, rfl⟩
theorem qX12_stepX_5 : Dc mX12_stepX 5 (.iconst 1) 1 6 := ⟨by decide +kernel, rfl⟩
theorem qX12_stepX_6 : Dc mX12_stepX 6 (.if_icmp .eq 9) 3 9 := ⟨by decide +kernel, rfl⟩
theorem qX12_stepX_9 : Dc mX12_stepX 9 (.iload_n 0) 1 10 := ⟨by decide +kernel, rfl⟩
theorem qX12_stepX_10 : Dc mX12_stepX 10 (.bipush 7) 2 12 := ⟨by decide +kernel, rfl⟩
theorem qX12_stepX_12 : Dc mX12_stepX 12 (.if_icmp .ne 7) 3 15 := ⟨by decide +kernel, rfl⟩
theorem qX12_stepX_15 : Dc mX12_stepX 15 (.iconst 1) 1 16 := ⟨by decide +kernel, rfl⟩
theorem qX12_stepX_16 : Dc mX12_stepX 16 (.goto 23) 3 19 := ⟨by decide +kernel, rfl⟩
theorem qX12_stepX_19 : Dc mX12_stepX 19 (.iload_n 0) 1 20 := ⟨by decide +kernel, rfl⟩
theorem qX12_stepX_20 : Dc mX12_stepX 20 (.iconst 3) 1 21 := ⟨by decide +kernel, rfl⟩
theorem qX12_stepX_21 : Dc mX12_stepX 21 (.if_icmp .eq 13) 3 24 := ⟨by decide +kernel, rfl⟩
theorem qX12_stepX_24 : Dc mX12_stepX 24 (.iload_n 0) 1 25 := ⟨by decide +kernel, rfl⟩
theorem qX12_stepX_25 : Dc mX12_stepX 25 (.iconst 4) 1 26 := ⟨by decide +kernel, rfl⟩
theorem qX12_stepX_26 : Dc mX12_stepX 26 (.if_icmp .eq 8) 3 29 := ⟨by decide +kernel, rfl⟩
theorem qX12_stepX_29 : Dc mX12_stepX 29 (.iload_n 0) 1 30 := ⟨by decide +kernel, rfl⟩
theorem qX12_stepX_30 : Dc mX12_stepX 30 (.iconst 5) 1 31 := ⟨by decide +kernel, rfl⟩
theorem qX12_stepX_31 : Dc mX12_stepX 31 (.if_icmp .ne 7) 3 34 := ⟨by decide +kernel, rfl⟩
theorem qX12_stepX_34 : Dc mX12_stepX 34 (.iconst (-1)) 1 35 := ⟨by decide +kernel, rfl⟩
theorem qX12_stepX_35 : Dc mX12_stepX 35 (.goto 4) 3 38 := ⟨by decide +kernel, rfl⟩
theorem qX12_stepX_38 : Dc mX12_stepX 38 (.iconst 0) 1 39 := ⟨by decide +kernel, rfl⟩
theorem qX12_stepX_39 : Dc mX12_stepX 39 (.ireturn) 1 40 := ⟨by decide +kernel, rfl⟩

set_option maxRecDepth 20000 in
set_option maxHeartbeats 4000000 in
theorem w_X12_stepX {x0 : Int32} {s0 : St} {r : Int32} (h : f_X12_stepX x0 s0 = some r) : Ct mX12_stepX 0 [.int x0] s0 (some (.int r), s0) := by
  refine Ct.ofE (by decide +kernel) rfl ?_
  show E mX12_stepX 0 (some (.int r), s0) 0 [some (.int x0)] [] s0
  unfold f_X12_stepX at h
  refine e_iload_n qX12_stepX_0 rfl ?_
  refine e_if_eq (tgt := 15) qX12_stepX_1 rfl h (fun _ h => ?_) (fun _ h => ?_)
  · refine e_iconst (nI 1) qX12_stepX_15 rfl ?_
    refine e_goto (tgt := 39) qX12_stepX_16 rfl ?_
    exact e_iret qX12_stepX_39 rfl (ret_p h)
  refine e_iload_n qX12_stepX_4 rfl ?_
  refine e_iconst (nI 1) qX12_stepX_5 rfl ?_
  refine e_icmp_eq (tgt := 15) qX12_stepX_6 rfl h (fun _ h => ?_) (fun _ h => ?_)
  · refine e_iconst (nI 1) qX12_stepX_15 rfl ?_
    refine e_goto (tgt := 39) qX12_stepX_16 rfl ?_
    exact e_iret qX12_stepX_39 rfl (ret_p h)
  refine e_iload_n qX12_stepX_9 rfl ?_
  refine e_bipush (nI 7) qX12_stepX_10 rfl ?_
  refine e_icmp_ne (tgt := 19) qX12_stepX_12 rfl h (fun _ h => ?_) (fun _ h => ?_)
  · refine e_iconst (nI 1) qX12_stepX_15 rfl ?_
    refine e_goto (tgt := 39) qX12_stepX_16 rfl ?_
    exact e_iret qX12_stepX_39 rfl (ret_p h)
  refine e_iload_n qX12_stepX_19 rfl ?_
  refine e_iconst (nI 3) qX12_stepX_20 rfl ?_
  refine e_icmp_eq (tgt := 34) qX12_stepX_21 rfl h (fun _ h => ?_) (fun _ h => ?_)
  · refine e_iconst (-1) qX12_stepX_34 rfl ?_
    refine e_goto (tgt := 39) qX12_stepX_35 rfl ?_
    exact e_iret qX12_stepX_39 rfl (ret_p h)
  refine e_iload_n qX12_stepX_24 rfl ?_
  refine e_iconst (nI 4) qX12_stepX_25 rfl ?_
  refine e_icmp_eq (tgt := 34) qX12_stepX_26 rfl h (fun _ h => ?_) (fun _ h => ?_)
  · refine e_iconst (-1) qX12_stepX_34 rfl ?_
    refine e_goto (tgt := 39) qX12_stepX_35 rfl ?_
    exact e_iret qX12_stepX_39 rfl (ret_p h)
  refine e_iload_n qX12_stepX_29 rfl ?_
  refine e_iconst (nI 5) qX12_stepX_30 rfl ?_
  refine e_icmp_ne (tgt := 38) qX12_stepX_31 rfl h (fun _ h => ?_) (fun _ h => ?_)
  · refine e_iconst (-1) qX12_stepX_34 rfl ?_
    refine e_goto (tgt := 39) qX12_stepX_35 rfl ?_
    exact e_iret qX12_stepX_39 rfl (ret_p h)
  refine e_iconst (nI 0) qX12_stepX_38 rfl ?_
  exact e_iret qX12_stepX_39 rfl (ret_p h)

def f_X12_stepY (x0 : Int32) (s0 : St) : Option (Int32) :=
  bp (f_X12_isIn x0 (nI 1) (nI 3) s0) fun v1 =>
  if v1 = 0 then
    bp (f_X12_isIn x0 (nI 5) (nI 7) s0) fun v2 =>
    if v2 = 0 then
      some (nI 0)
    else
    some (-1)
  else
  some (nI 1)

theorem qX12_stepY_0 : Dc mX12_stepY 0 (.iload_n 0) 1 1 := ⟨by decide +kernel, rfl⟩
theorem qX12_stepY_1 : Dc mX12_stepY 1 (.iconst 1) 1 2 := ⟨by decide +kernel, rfl⟩
theorem qX12_stepY_2 : Dc mX12_stepY 2 (.iconst 3) 1 3 := ⟨by decide +kernel, rfl⟩
theorem qX12_stepY_3 : Dc mX12_stepY 3 (.invokestatic 186) 3 6 := ⟨by decide +kernel, rfl⟩
theorem qX12_stepY_6 : Dc mX12_stepY 6 (.ifCond .eq 7) 3 9 := ⟨by decide +kernel, rfl⟩
theorem qX12_stepY_9 : Dc mX12_stepY 9 (.iconst 1) 1 10 := ⟨by decide +kernel, rfl⟩
theorem qX12_stepY_10 : Dc mX12_stepY 10 (.goto 18) 3 13 := ⟨by decide +kernel, rfl⟩
theorem qX12_stepY_13 : Dc mX12_stepY 13 (.iload_n 0) 1 14 := ⟨by decide +kernel, rfl⟩
theorem qX12_stepY_14 : Dc mX12_stepY 14 (.iconst 5) 1 15 := ⟨by decide +kernel, rfl⟩
theorem qX12_stepY_15 : Dc mX12_stepY 15 (.bipush 7) 2 17 := ⟨by decide +kernel, rfl⟩
theorem qX12_stepY_17 : Dc mX12_stepY 17 (.invokestatic 186) 3 20 := ⟨by decide +kernel, rfl⟩
theorem qX12_stepY_20 : Dc mX12_stepY 20 (.ifCond .eq 7) 3 23 := ⟨by decide +kernel, rfl⟩
theorem qX12_stepY_23 : Dc mX12_stepY 23 (.iconst (-1)) 1 24 := ⟨by decide +kernel, rfl⟩
theorem qX12_stepY_24 : Dc mX12_stepY 24 (.goto 4) 3 27 := ⟨by decide +kernel, rfl⟩
theorem qX12_stepY_27 : Dc mX12_stepY 27 (.iconst 0) 1 28 := ⟨by decide +kernel, rfl⟩
theorem qX12_stepY_28 : Dc mX12_stepY 28 (.ireturn) 1 29 := ⟨by decide +kernel, rfl⟩

set_option maxRecDepth 20000 in
set_option maxHeartbeats 4000000 in
theorem w_X12_stepY {x0 : Int32} {s0 : St} {r : Int32} (h : f_X12_stepY x0 s0 = some r) : Ct mX12_stepY 1 [.int x0] s0 (some (.int r), s0) := by
  refine Ct.ofE (by decide +kernel) rfl ?_
  show E mX12_stepY 1 (some (.int r), s0) 0 [some (.int x0)] [] s0
  unfold f_X12_stepY at h
  refine e_iload_n qX12_stepY_0 rfl ?_
  refine e_iconst (nI 1) qX12_stepY_1 rfl ?_
  refine e_iconst (nI 3) qX12_stepY_2 rfl ?_
  obtain ⟨v1, hc, h⟩ := bp_e h
  refine e_cSi3 qX12_stepY_3 ms_X12_186 rfl rfl (w_X12_isIn hc) ?_
  refine e_if_eq (tgt := 13) qX12_stepY_6 rfl h (fun _ h => ?_) (fun _ h => ?_)
  · refine e_iload_n qX12_stepY_13 rfl ?_
    refine e_iconst (nI 5) qX12_stepY_14 rfl ?_
    refine e_bipush (nI 7) qX12_stepY_15 rfl ?_
    obtain ⟨v2, hc, h⟩ := bp_e h
    refine e_cSi3 qX12_stepY_17 ms_X12_186 rfl rfl (w_X12_isIn hc) ?_
    refine e_if_eq (tgt := 27) qX12_stepY_20 rfl h (fun _ h => ?_) (fun _ h => ?_)
    · refine e_iconst (nI 0) qX12_stepY_27 rfl ?_
      exact e_iret qX12_stepY_28 rfl (ret_p h)
    refine e_iconst (-1) qX12_stepY_23 rfl ?_
    refine e_goto (tgt := 28) qX12_stepY_24 rfl ?_
    exact e_iret qX12_stepY_28 rfl (ret_p h)
  refine e_iconst (nI 1) qX12_stepY_9 rfl ?_
  refine e_goto (tgt := 28) qX12_stepY_10 rfl ?_
  exact e_iret qX12_stepY_28 rfl (ret_p h)

def f_X12_sails (x1 : Int32) (s0 : St) : Option (St) :=
  ald (s0.1 208) 359 ((nI 166) + x1) fun v1 =>
  ald (s0.1 208) 359 ((nI 174) + x1) fun v2 =>
  bp (f_X12_stepX v2 s0) fun v3 =>
  vl (v1 + v3) fun v4 =>
  ald (s0.1 208) 359 ((nI 170) + x1) fun v5 =>
  ald (s0.1 208) 359 ((nI 174) + x1) fun v6 =>
  bp (f_X12_stepY v6 s0) fun v7 =>
  vl (v5 + v7) fun v8 =>
  bp (f_X12_isIn v4 (nI 0) (nI 19) s0) fun v9 =>
  jn (ald (fun j => sI s0 208 j (nI 8)) 359 ((nI 174) + x1) fun s11 =>
    some s11) fun j10 =>
  if v9 = 0 then
    j10
  else
  bp (f_X12_isIn v8 (nI 0) (nI 19) s0) fun v12 =>
  if v12 = 0 then
    j10
  else
  ald (fun j => sI s0 208 j v4) 359 ((nI 166) + x1) fun s13 =>
  ald (fun j => sI s13 208 j v8) 359 ((nI 170) + x1) fun s14 =>
  some s14

theorem qX12_sails_0 : Dc mX12_sails 0 (.aload_n 0) 1 1 := ⟨by decide +kernel, rfl⟩
theorem qX12_sails_1 : Dc mX12_sails 1 (.getfield 33) 3 4 := ⟨by decide +kernel, rfl⟩
theorem qX12_sails_4 : Dc mX12_sails 4 (.sipush 166) 3 7 := ⟨by decide +kernel, rfl⟩
theorem qX12_sails_7 : Dc mX12_sails 7 (.iload_n 1) 1 8 := ⟨by decide +kernel, rfl⟩
theorem qX12_sails_8 : Dc mX12_sails 8 (.iadd) 1 9 := ⟨by decide +kernel, rfl⟩
theorem qX12_sails_9 : Dc mX12_sails 9 (.iaload) 1 10 := ⟨by decide +kernel, rfl⟩
theorem qX12_sails_10 : Dc mX12_sails 10 (.aload_n 0) 1 11 := ⟨by decide +kernel, rfl⟩
theorem qX12_sails_11 : Dc mX12_sails 11 (.getfield 33) 3 14 := ⟨by decide +kernel, rfl⟩
theorem qX12_sails_14 : Dc mX12_sails 14 (.sipush 174) 3 17 := ⟨by decide +kernel, rfl⟩
theorem qX12_sails_17 : Dc mX12_sails 17 (.iload_n 1) 1 18 := ⟨by decide +kernel, rfl⟩
theorem qX12_sails_18 : Dc mX12_sails 18 (.iadd) 1 19 := ⟨by decide +kernel, rfl⟩
theorem qX12_sails_19 : Dc mX12_sails 19 (.iaload) 1 20 := ⟨by decide +kernel, rfl⟩
theorem qX12_sails_20 : Dc mX12_sails 20 (.invokestatic 313) 3 23 := ⟨by decide +kernel, rfl⟩
theorem qX12_sails_23 : Dc mX12_sails 23 (.iadd) 1 24 := ⟨by decide +kernel, rfl⟩
theorem qX12_sails_24 : Dc mX12_sails 24 (.istore_n 2) 1 25 := ⟨by decide +kernel, rfl⟩
theorem qX12_sails_25 : Dc mX12_sails 25 (.aload_n 0) 1 26 := ⟨by decide +kernel, rfl⟩
theorem qX12_sails_26 : Dc mX12_sails 26 (.getfield 33) 3 29 := ⟨by decide +kernel, rfl⟩
theorem qX12_sails_29 : Dc mX12_sails 29 (.sipush 170) 3 32 := ⟨by decide +kernel, rfl⟩
theorem qX12_sails_32 : Dc mX12_sails 32 (.iload_n 1) 1 33 := ⟨by decide +kernel, rfl⟩
theorem qX12_sails_33 : Dc mX12_sails 33 (.iadd) 1 34 := ⟨by decide +kernel, rfl⟩
theorem qX12_sails_34 : Dc mX12_sails 34 (.iaload) 1 35 := ⟨by decide +kernel, rfl⟩
theorem qX12_sails_35 : Dc mX12_sails 35 (.aload_n 0) 1 36 := ⟨by decide +kernel, rfl⟩
theorem qX12_sails_36 : Dc mX12_sails 36 (.getfield 33) 3 39 := ⟨by decide +kernel, rfl⟩
theorem qX12_sails_39 : Dc mX12_sails 39 (.sipush 174) 3 42 := ⟨by decide +kernel, rfl⟩
theorem qX12_sails_42 : Dc mX12_sails 42 (.iload_n 1) 1 43 := ⟨by decide +kernel, rfl⟩
theorem qX12_sails_43 : Dc mX12_sails 43 (.iadd) 1 44 := ⟨by decide +kernel, rfl⟩
theorem qX12_sails_44 : Dc mX12_sails 44 (.iaload) 1 45 := ⟨by decide +kernel, rfl⟩
theorem qX12_sails_45 : Dc mX12_sails 45 (.invokestatic 316) 3 48 := ⟨by decide +kernel, rfl⟩
theorem qX12_sails_48 : Dc mX12_sails 48 (.iadd) 1 49 := ⟨by decide +kernel, rfl⟩
theorem qX12_sails_49 : Dc mX12_sails 49 (.istore_n 3) 1 50 := ⟨by decide +kernel, rfl⟩
theorem qX12_sails_50 : Dc mX12_sails 50 (.iload_n 2) 1 51 := ⟨by decide +kernel, rfl⟩
theorem qX12_sails_51 : Dc mX12_sails 51 (.iconst 0) 1 52 := ⟨by decide +kernel, rfl⟩
theorem qX12_sails_52 : Dc mX12_sails 52 (.bipush 19) 2 54 := ⟨by decide +kernel, rfl⟩
theorem qX12_sails_54 : Dc mX12_sails 54 (.invokestatic 186) 3 57 := ⟨by decide +kernel, rfl⟩
theorem qX12_sails_57 : Dc mX12_sails 57 (.ifCond .eq 13) 3 60 := ⟨by decide +kernel, rfl⟩
theorem qX12_sails_60 : Dc mX12_sails 60 (.iload_n 3) 1 61 := ⟨by decide +kernel, rfl⟩
theorem qX12_sails_61 : Dc mX12_sails 61 (.iconst 0) 1 62 := ⟨by decide +kernel, rfl⟩
theorem qX12_sails_62 : Dc mX12_sails 62 (.bipush 19) 2 64 := ⟨by decide +kernel, rfl⟩
theorem qX12_sails_64 : Dc mX12_sails 64 (.invokestatic 186) 3 67 := ⟨by decide +kernel, rfl⟩
theorem qX12_sails_67 : Dc mX12_sails 67 (.ifCond .ne 16) 3 70 := ⟨by decide +kernel, rfl⟩
theorem qX12_sails_70 : Dc mX12_sails 70 (.aload_n 0) 1 71 := ⟨by decide +kernel, rfl⟩
theorem qX12_sails_71 : Dc mX12_sails 71 (.getfield 33) 3 74 := ⟨by decide +kernel, rfl⟩
theorem qX12_sails_74 : Dc mX12_sails 74 (.sipush 174) 3 77 := ⟨by decide +kernel, rfl⟩
theorem qX12_sails_77 : Dc mX12_sails 77 (.iload_n 1) 1 78 := ⟨by decide +kernel, rfl⟩
theorem qX12_sails_78 : Dc mX12_sails 78 (.iadd) 1 79 := ⟨by decide +kernel, rfl⟩
theorem qX12_sails_79 : Dc mX12_sails 79 (.bipush 8) 2 81 := ⟨by decide +kernel, rfl⟩
theorem qX12_sails_81 : Dc mX12_sails 81 (.iastore) 1 82 := ⟨by decide +kernel, rfl⟩
theorem qX12_sails_82 : Dc mX12_sails 82 (.return_) 1 83 := ⟨by decide +kernel, rfl⟩
theorem qX12_sails_83 : Dc mX12_sails 83 (.aload_n 0) 1 84 := ⟨by decide +kernel, rfl⟩
theorem qX12_sails_84 : Dc mX12_sails 84 (.getfield 33) 3 87 := ⟨by decide +kernel, rfl⟩
theorem qX12_sails_87 : Dc mX12_sails 87 (.sipush 166) 3 90 := ⟨by decide +kernel, rfl⟩
theorem qX12_sails_90 : Dc mX12_sails 90 (.iload_n 1) 1 91 := ⟨by decide +kernel, rfl⟩
theorem qX12_sails_91 : Dc mX12_sails 91 (.iadd) 1 92 := ⟨by decide +kernel, rfl⟩
theorem qX12_sails_92 : Dc mX12_sails 92 (.iload_n 2) 1 93 := ⟨by decide +kernel, rfl⟩
theorem qX12_sails_93 : Dc mX12_sails 93 (.iastore) 1 94 := ⟨by decide +kernel, rfl⟩
theorem qX12_sails_94 : Dc mX12_sails 94 (.aload_n 0) 1 95 := ⟨by decide +kernel, rfl⟩
theorem qX12_sails_95 : Dc mX12_sails 95 (.getfield 33) 3 98 := ⟨by decide +kernel, rfl⟩
theorem qX12_sails_98 : Dc mX12_sails 98 (.sipush 170) 3 101 := ⟨by decide +kernel, rfl⟩
theorem qX12_sails_101 : Dc mX12_sails 101 (.iload_n 1) 1 102 := ⟨by decide +kernel, rfl⟩
theorem qX12_sails_102 : Dc mX12_sails 102 (.iadd) 1 103 := ⟨by decide +kernel, rfl⟩
theorem qX12_sails_103 : Dc mX12_sails 103 (.iload_n 3) 1 104 := ⟨by decide +kernel, rfl⟩
theorem qX12_sails_104 : Dc mX12_sails 104 (.iastore) 1 105 := ⟨by decide +kernel, rfl⟩
theorem qX12_sails_105 : Dc mX12_sails 105 (.return_) 1 106 := ⟨by decide +kernel, rfl⟩

set_option maxRecDepth 20000 in
set_option maxHeartbeats 4000000 in
theorem w_X12_sails {x1 : Int32} {s0 : St} {sr : St} (h : f_X12_sails x1 s0 = some sr) : Ct mX12_sails 2 [.ref 206, .int x1] s0 (none, sr) := by
  refine Ct.ofE (by decide +kernel) rfl ?_
  show E mX12_sails 2 (none, sr) 0 [some (.ref 206), some (.int x1), none, none] [] s0
  unfold f_X12_sails at h
  refine e_aload_n qX12_sails_0 rfl ?_
  refine e_getr 208 qX12_sails_1 fl_X12_33 shq_206 kdq_11_6 rrq_206_6 ?_
  refine e_sipush (nI 166) qX12_sails_4 rfl ?_
  refine e_iload_n qX12_sails_7 rfl ?_
  refine e_iadd qX12_sails_8 ?_
  refine e_iald qX12_sails_9 shq_208 lnq_208 h (fun v1 h => ?_)
  refine e_aload_n qX12_sails_10 rfl ?_
  refine e_getr 208 qX12_sails_11 fl_X12_33 shq_206 kdq_11_6 rrq_206_6 ?_
  refine e_sipush (nI 174) qX12_sails_14 rfl ?_
  refine e_iload_n qX12_sails_17 rfl ?_
  refine e_iadd qX12_sails_18 ?_
  refine e_iald qX12_sails_19 shq_208 lnq_208 h (fun v2 h => ?_)
  obtain ⟨v3, hc, h⟩ := bp_e h
  refine e_cSi1 qX12_sails_20 ms_X12_313 rfl rfl (w_X12_stepX hc) ?_
  refine e_iadd qX12_sails_23 ?_
  refine vl_e h (fun h => ?_)
  generalize (v1 + v3) = v4 at h ⊢
  refine e_istore_n (lv2 := [some (.ref 206), some (.int x1), some (.int v4), none]) qX12_sails_24 rfl rfl rfl ?_
  refine e_aload_n qX12_sails_25 rfl ?_
  refine e_getr 208 qX12_sails_26 fl_X12_33 shq_206 kdq_11_6 rrq_206_6 ?_
  refine e_sipush (nI 170) qX12_sails_29 rfl ?_
  refine e_iload_n qX12_sails_32 rfl ?_
  refine e_iadd qX12_sails_33 ?_
  refine e_iald qX12_sails_34 shq_208 lnq_208 h (fun v5 h => ?_)
  refine e_aload_n qX12_sails_35 rfl ?_
  refine e_getr 208 qX12_sails_36 fl_X12_33 shq_206 kdq_11_6 rrq_206_6 ?_
  refine e_sipush (nI 174) qX12_sails_39 rfl ?_
  refine e_iload_n qX12_sails_42 rfl ?_
  refine e_iadd qX12_sails_43 ?_
  refine e_iald qX12_sails_44 shq_208 lnq_208 h (fun v6 h => ?_)
  obtain ⟨v7, hc, h⟩ := bp_e h
  refine e_cSi1 qX12_sails_45 ms_X12_316 rfl rfl (w_X12_stepY hc) ?_
  refine e_iadd qX12_sails_48 ?_
  refine vl_e h (fun h => ?_)
  generalize (v5 + v7) = v8 at h ⊢
  refine e_istore_n (lv2 := [some (.ref 206), some (.int x1), some (.int v4), some (.int v8)]) qX12_sails_49 rfl rfl rfl ?_
  refine e_iload_n qX12_sails_50 rfl ?_
  refine e_iconst (nI 0) qX12_sails_51 rfl ?_
  refine e_bipush (nI 19) qX12_sails_52 rfl ?_
  obtain ⟨v9, hc, h⟩ := bp_e h
  refine e_cSi3 qX12_sails_54 ms_X12_186 rfl rfl (w_X12_isIn hc) ?_
  refine jn_e (fun j => j = some sr → E mX12_sails 2 (none, sr) 70 [some (.ref 206), some (.int x1), none, none] [] s0) h ?_ (fun j10 hj10 h => ?_)
  · intro h
    refine e_aload_n qX12_sails_70 rfl ?_
    refine e_getr 208 qX12_sails_71 fl_X12_33 shq_206 kdq_11_6 rrq_206_6 ?_
    refine e_sipush (nI 174) qX12_sails_74 rfl ?_
    refine e_iload_n qX12_sails_77 rfl ?_
    refine e_iadd qX12_sails_78 ?_
    refine e_bipush (nI 8) qX12_sails_79 rfl ?_
    refine e_iast qX12_sails_81 shq_208 lnq_208 h (fun s11 h => ?_)
    exact e_vret qX12_sails_82 rfl (ret_v h)
  refine e_if_eq (tgt := 70) qX12_sails_57 rfl h (fun _ h => ?_) (fun _ h => ?_)
  · exact e_weak (hj10 h) ⟨Or.inr rfl, Or.inr rfl, Or.inl rfl, Or.inl rfl, trivial⟩
  refine e_iload_n qX12_sails_60 rfl ?_
  refine e_iconst (nI 0) qX12_sails_61 rfl ?_
  refine e_bipush (nI 19) qX12_sails_62 rfl ?_
  obtain ⟨v12, hc, h⟩ := bp_e h
  refine e_cSi3 qX12_sails_64 ms_X12_186 rfl rfl (w_X12_isIn hc) ?_
  refine e_if_ne (tgt := 83) qX12_sails_67 rfl h (fun _ h => ?_) (fun _ h => ?_)
  · exact e_weak (hj10 h) ⟨Or.inr rfl, Or.inr rfl, Or.inl rfl, Or.inl rfl, trivial⟩
  refine e_aload_n qX12_sails_83 rfl ?_
  refine e_getr 208 qX12_sails_84 fl_X12_33 shq_206 kdq_11_6 rrq_206_6 ?_
  refine e_sipush (nI 166) qX12_sails_87 rfl ?_
  refine e_iload_n qX12_sails_90 rfl ?_
  refine e_iadd qX12_sails_91 ?_
  refine e_iload_n qX12_sails_92 rfl ?_
  refine e_iast qX12_sails_93 shq_208 lnq_208 h (fun s13 h => ?_)
  refine e_aload_n qX12_sails_94 rfl ?_
  refine e_getr 208 qX12_sails_95 fl_X12_33 shq_206 kdq_11_6 rrq_206_6 ?_
  refine e_sipush (nI 170) qX12_sails_98 rfl ?_
  refine e_iload_n qX12_sails_101 rfl ?_
  refine e_iadd qX12_sails_102 ?_
  refine e_iload_n qX12_sails_103 rfl ?_
  refine e_iast qX12_sails_104 shq_208 lnq_208 h (fun s14 h => ?_)
  exact e_vret qX12_sails_105 rfl (ret_v h)

def f_X12_second_L7 (N : Nat) (c2 : Int32) (k5 : St → Option (St)) : Nat → Int32 → St → Option (St)
  | 0, _, _ => none
  | n7 + 1, v3, s4 =>
    ald (s4.1 208) 359 (nI 0) fun v9 =>
    if v9 ≤ v3 then
      k5 s4
    else
    ald (s4.1 208) 359 ((nI 150) + v3) fun v10 =>
    bp (f_X12_bitOf c2 v3 s4) fun v11 =>
    jn (fun (v12 : Int32) =>
      ald (fun j => sI s4 208 j (v10 - v12)) 359 ((nI 150) + v3) fun s14 =>
      vl (v3 + (nI 1)) fun v15 =>
      f_X12_second_L7 N c2 k5 n7 v15 s14) fun j13 =>
    if v11 = 0 then
      j13 (nI 0)
    else
    j13 (nI 1)

def f_X12_second_L51 (N : Nat) (k19 : St → Option (St)) : Nat → Int32 → St → Option (St)
  | 0, _, _ => none
  | n21 + 1, v17, s18 =>
    ald (s18.1 208) 359 (nI 1) fun v23 =>
    if v23 ≤ v17 then
      k19 s18
    else
    ald (s18.1 208) 359 (nI 147) fun v24 =>
    ald (s18.1 208) 359 ((nI 143) + v17) fun v25 =>
    rm_ (v24 + (nI 1)) v25 fun v26 =>
    jn (fun (s27 : St) =>
      vl (v17 + (nI 1)) fun v29 =>
      f_X12_second_L51 N k19 n21 v29 s27) fun j28 =>
    if v26 = 0 then
      bp (f_X12_sails v17 s18) fun s30 =>
      j28 s30
    else
    j28 s18

def f_X12_second (N : Nat)  (s0 : St) : Option (St) :=
  bp (f_X12_shining N s0) fun v1 =>
  f_X12_second_L7 N v1 (fun (s16 : St) =>
    f_X12_second_L51 N (fun (s31 : St) =>
      ald (s31.1 208) 359 (nI 147) fun v32 =>
      ald (fun j => sI s31 208 j (v32 + (nI 1))) 359 (nI 147) fun s33 =>
      some s33) N (nI 0) s16) N (nI 0) s0

theorem qX12_second_0 : Dc mX12_second 0 (.aload_n 0) 1 1 := ⟨by decide +kernel, rfl⟩
theorem qX12_second_1 : Dc mX12_second 1 (.invokevirtual 291) 3 4 := ⟨by decide +kernel, rfl⟩
theorem qX12_second_4 : Dc mX12_second 4 (.istore_n 1) 1 5 := ⟨by decide +kernel, rfl⟩
theorem qX12_second_5 : Dc mX12_second 5 (.iconst 0) 1 6 := ⟨by decide +kernel, rfl⟩
theorem qX12_second_6 : Dc mX12_second 6 (.istore_n 2) 1 7 := ⟨by decide +kernel, rfl⟩
theorem qX12_second_7 : Dc mX12_second 7 (.iload_n 2) 1 8 := ⟨by decide +kernel, rfl⟩
theorem qX12_second_8 : Dc mX12_second 8 (.aload_n 0) 1 9 := ⟨by decide +kernel, rfl⟩
theorem qX12_second_9 : Dc mX12_second 9 (.getfield 33) 3 12 := ⟨by decide +kernel, rfl⟩
theorem qX12_second_12 : Dc mX12_second 12 (.iconst 0) 1 13 := ⟨by decide +kernel, rfl⟩
theorem qX12_second_13 : Dc mX12_second 13 (.iaload) 1 14 := ⟨by decide +kernel, rfl⟩
theorem qX12_second_14 : Dc mX12_second 14 (.if_icmp .ge 35) 3 17 := ⟨by decide +kernel, rfl⟩
theorem qX12_second_17 : Dc mX12_second 17 (.aload_n 0) 1 18 := ⟨by decide +kernel, rfl⟩
theorem qX12_second_18 : Dc mX12_second 18 (.getfield 33) 3 21 := ⟨by decide +kernel, rfl⟩
theorem qX12_second_21 : Dc mX12_second 21 (.sipush 150) 3 24 := ⟨by decide +kernel, rfl⟩
theorem qX12_second_24 : Dc mX12_second 24 (.iload_n 2) 1 25 := ⟨by decide +kernel, rfl⟩
theorem qX12_second_25 : Dc mX12_second 25 (.iadd) 1 26 := ⟨by decide +kernel, rfl⟩
theorem qX12_second_26 : Dc mX12_second 26 (.dup2) 1 27 := ⟨by decide +kernel, rfl⟩
theorem qX12_second_27 : Dc mX12_second 27 (.iaload) 1 28 := ⟨by decide +kernel, rfl⟩
theorem qX12_second_28 : Dc mX12_second 28 (.iload_n 1) 1 29 := ⟨by decide +kernel, rfl⟩
theorem qX12_second_29 : Dc mX12_second 29 (.iload_n 2) 1 30 := ⟨by decide +kernel, rfl⟩
theorem qX12_second_30 : Dc mX12_second 30 (.invokestatic 240) 3 33 := ⟨by decide +kernel, rfl⟩
theorem qX12_second_33 : Dc mX12_second 33 (.ifCond .eq 7) 3 36 := ⟨by decide +kernel, rfl⟩
theorem qX12_second_36 : Dc mX12_second 36 (.iconst 1) 1 37 := ⟨by decide +kernel, rfl⟩
theorem qX12_second_37 : Dc mX12_second 37 (.goto 4) 3 40 := ⟨by decide +kernel, rfl⟩
theorem qX12_second_40 : Dc mX12_second 40 (.iconst 0) 1 41 := ⟨by decide +kernel, rfl⟩
theorem qX12_second_41 : Dc mX12_second 41 (.isub) 1 42 := ⟨by decide +kernel, rfl⟩
theorem qX12_second_42 : Dc mX12_second 42 (.iastore) 1 43 := ⟨by decide +kernel, rfl⟩
theorem qX12_second_43 : Dc mX12_second 43 (.iinc 2 1) 3 46 := ⟨by decide +kernel, rfl⟩
theorem qX12_second_46 : Dc mX12_second 46 (.goto (-39)) 3 49 := ⟨by decide +kernel, rfl⟩
theorem qX12_second_49 : Dc mX12_second 49 (.iconst 0) 1 50 := ⟨by decide +kernel, rfl⟩
theorem qX12_second_50 : Dc mX12_second 50 (.istore_n 2) 1 51 := ⟨by decide +kernel, rfl⟩
theorem qX12_second_51 : Dc mX12_second 51 (.iload_n 2) 1 52 := ⟨by decide +kernel, rfl⟩
theorem qX12_second_52 : Dc mX12_second 52 (.aload_n 0) 1 53 := ⟨by decide +kernel, rfl⟩
theorem qX12_second_53 : Dc mX12_second 53 (.getfield 33) 3 56 := ⟨by decide +kernel, rfl⟩
theorem qX12_second_56 : Dc mX12_second 56 (.iconst 1) 1 57 := ⟨by decide +kernel, rfl⟩
theorem qX12_second_57 : Dc mX12_second 57 (.iaload) 1 58 := ⟨by decide +kernel, rfl⟩
theorem qX12_second_58 : Dc mX12_second 58 (.if_icmp .ge 38) 3 61 := ⟨by decide +kernel, rfl⟩
theorem qX12_second_61 : Dc mX12_second 61 (.aload_n 0) 1 62 := ⟨by decide +kernel, rfl⟩
theorem qX12_second_62 : Dc mX12_second 62 (.getfield 33) 3 65 := ⟨by decide +kernel, rfl⟩
theorem qX12_second_65 : Dc mX12_second 65 (.sipush 147) 3 68 := ⟨by decide +kernel, rfl⟩
theorem qX12_second_68 : Dc mX12_second 68 (.iaload) 1 69 := ⟨by decide +kernel, rfl⟩
theorem qX12_second_69 : Dc mX12_second 69 (.iconst 1) 1 70 := ⟨by decide +kernel, rfl⟩
theorem qX12_second_70 : Dc mX12_second 70 (.iadd) 1 71 := ⟨by decide +kernel, rfl⟩
theorem qX12_second_71 : Dc mX12_second 71 (.aload_n 0) 1 72 := ⟨by decide +kernel, rfl⟩
theorem qX12_second_72 : Dc mX12_second 72 (.getfield 33) 3 75 := ⟨by decide +kernel, rfl⟩
theorem qX12_second_75 : Dc mX12_second 75 (.sipush 143) 3 78 := ⟨by decide +kernel, rfl⟩
theorem qX12_second_78 : Dc mX12_second 78 (.iload_n 2) 1 79 := ⟨by decide +kernel, rfl⟩
theorem qX12_second_79 : Dc mX12_second 79 (.iadd) 1 80 := ⟨by decide +kernel, rfl⟩
theorem qX12_second_80 : Dc mX12_second 80 (.iaload) 1 81 := ⟨by decide +kernel, rfl⟩
theorem qX12_second_81 : Dc mX12_second 81 (.irem) 1 82 := ⟨by decide +kernel, rfl⟩
theorem qX12_second_82 : Dc mX12_second 82 (.ifCond .ne 8) 3 85 := ⟨by decide +kernel, rfl⟩
theorem qX12_second_85 : Dc mX12_second 85 (.aload_n 0) 1 86 := ⟨by decide +kernel, rfl⟩
theorem qX12_second_86 : Dc mX12_second 86 (.iload_n 2) 1 87 := ⟨by decide +kernel, rfl⟩
theorem qX12_second_87 : Dc mX12_second 87 (.invokevirtual 319) 3 90 := ⟨by decide +kernel, rfl⟩
theorem qX12_second_90 : Dc mX12_second 90 (.iinc 2 1) 3 93 := ⟨by decide +kernel, rfl⟩
theorem qX12_second_93 : Dc mX12_second 93 (.goto (-42)) 3 96 := ⟨by decide +kernel, rfl⟩
theorem qX12_second_96 : Dc mX12_second 96 (.aload_n 0) 1 97 := ⟨by decide +kernel, rfl⟩
theorem qX12_second_97 : Dc mX12_second 97 (.getfield 33) 3 100 := ⟨by decide +kernel, rfl⟩
theorem qX12_second_100 : Dc mX12_second 100 (.sipush 147) 3 103 := ⟨by decide +kernel, rfl⟩
theorem qX12_second_103 : Dc mX12_second 103 (.dup2) 1 104 := ⟨by decide +kernel, rfl⟩
theorem qX12_second_104 : Dc mX12_second 104 (.iaload) 1 105 := ⟨by decide +kernel, rfl⟩
theorem qX12_second_105 : Dc mX12_second 105 (.iconst 1) 1 106 := ⟨by decide +kernel, rfl⟩
theorem qX12_second_106 : Dc mX12_second 106 (.iadd) 1 107 := ⟨by decide +kernel, rfl⟩
theorem qX12_second_107 : Dc mX12_second 107 (.iastore) 1 108 := ⟨by decide +kernel, rfl⟩
theorem qX12_second_108 : Dc mX12_second 108 (.return_) 1 109 := ⟨by decide +kernel, rfl⟩

set_option maxRecDepth 20000 in
set_option maxHeartbeats 4000000 in
theorem w_X12_second_L7 {N : Nat} {c2 : Int32} {k5 : St → Option (St)} {sr : St}  (hk5 : ∀ (s6 : St), k5 s6 = some sr → E mX12_second 4 (none, sr) 49 [some (.ref 206), none, none] [] s6) : ∀ (n7 : Nat) (v3 : Int32) (s4 : St), f_X12_second_L7 N c2 k5 n7 v3 s4 = some sr → E mX12_second 4 (none, sr) 7 [some (.ref 206), some (.int c2), some (.int v3)] [] s4 := by
  intro n7
  induction n7 with
  | zero =>
    intro v3 s4 h
    rw [f_X12_second_L7] at h; cases h
  | succ n7 ih8 =>
    intro v3 s4 h
    rw [f_X12_second_L7] at h
    refine e_iload_n qX12_second_7 rfl ?_
    refine e_aload_n qX12_second_8 rfl ?_
    refine e_getr 208 qX12_second_9 fl_X12_33 shq_206 kdq_11_6 rrq_206_6 ?_
    refine e_iconst (nI 0) qX12_second_12 rfl ?_
    refine e_iald qX12_second_13 shq_208 lnq_208 h (fun v9 h => ?_)
    refine e_icmp_ge (tgt := 49) qX12_second_14 rfl h (fun _ h => ?_) (fun _ h => ?_)
    · exact e_weak (hk5 _ h) ⟨Or.inr rfl, Or.inl rfl, Or.inl rfl, trivial⟩
    refine e_aload_n qX12_second_17 rfl ?_
    refine e_getr 208 qX12_second_18 fl_X12_33 shq_206 kdq_11_6 rrq_206_6 ?_
    refine e_sipush (nI 150) qX12_second_21 rfl ?_
    refine e_iload_n qX12_second_24 rfl ?_
    refine e_iadd qX12_second_25 ?_
    refine e_dup2 qX12_second_26 rfl rfl ?_
    refine e_iald qX12_second_27 shq_208 lnq_208 h (fun v10 h => ?_)
    refine e_iload_n qX12_second_28 rfl ?_
    refine e_iload_n qX12_second_29 rfl ?_
    obtain ⟨v11, hc, h⟩ := bp_e h
    refine e_cSi2 qX12_second_30 ms_X12_240 rfl rfl (w_X12_bitOf hc) ?_
    refine jn_e (fun j => ∀ (v12 : Int32), j v12 = some sr → E mX12_second 4 (none, sr) 41 [some (.ref 206), some (.int c2), some (.int v3)] [.int v12, .int v10, .int ((nI 150) + v3), .ref 208] s4) h ?_ (fun j13 hj13 h => ?_)
    · intro v12 h
      refine e_isub qX12_second_41 ?_
      refine e_iast qX12_second_42 shq_208 lnq_208 h (fun s14 h => ?_)
      refine vl_e h (fun h => ?_)
      obtain ⟨v15, ev15⟩ : ∃ y, v3 + (nI 1) = y := ⟨_, rfl⟩
      rw [ev15] at h
      refine e_iinc (nI 1) v15 (lv2 := [some (.ref 206), some (.int c2), some (.int v15)]) qX12_second_43 rfl rfl rfl ev15 rfl ?_
      refine e_goto (tgt := 7) qX12_second_46 rfl ?_
      exact e_weak (ih8 _ _ h) ⟨Or.inr rfl, Or.inr rfl, Or.inr rfl, trivial⟩
    refine e_if_eq (tgt := 40) qX12_second_33 rfl h (fun _ h => ?_) (fun _ h => ?_)
    · refine e_iconst (nI 0) qX12_second_40 rfl ?_
      exact e_weak (hj13 _ h) ⟨Or.inr rfl, Or.inr rfl, Or.inr rfl, trivial⟩
    refine e_iconst (nI 1) qX12_second_36 rfl ?_
    refine e_goto (tgt := 41) qX12_second_37 rfl ?_
    exact e_weak (hj13 _ h) ⟨Or.inr rfl, Or.inr rfl, Or.inr rfl, trivial⟩

set_option maxRecDepth 20000 in
set_option maxHeartbeats 4000000 in
theorem w_X12_second_L51 {N : Nat}  {k19 : St → Option (St)} {sr : St}  (hk19 : ∀ (s20 : St), k19 s20 = some sr → E mX12_second 4 (none, sr) 96 [some (.ref 206), none, none] [] s20) : ∀ (n21 : Nat) (v17 : Int32) (s18 : St), f_X12_second_L51 N k19 n21 v17 s18 = some sr → E mX12_second 4 (none, sr) 51 [some (.ref 206), none, some (.int v17)] [] s18 := by
  intro n21
  induction n21 with
  | zero =>
    intro v17 s18 h
    rw [f_X12_second_L51] at h; cases h
  | succ n21 ih22 =>
    intro v17 s18 h
    rw [f_X12_second_L51] at h
    refine e_iload_n qX12_second_51 rfl ?_
    refine e_aload_n qX12_second_52 rfl ?_
    refine e_getr 208 qX12_second_53 fl_X12_33 shq_206 kdq_11_6 rrq_206_6 ?_
    refine e_iconst (nI 1) qX12_second_56 rfl ?_
    refine e_iald qX12_second_57 shq_208 lnq_208 h (fun v23 h => ?_)
    refine e_icmp_ge (tgt := 96) qX12_second_58 rfl h (fun _ h => ?_) (fun _ h => ?_)
    · exact e_weak (hk19 _ h) ⟨Or.inr rfl, Or.inl rfl, Or.inl rfl, trivial⟩
    refine e_aload_n qX12_second_61 rfl ?_
    refine e_getr 208 qX12_second_62 fl_X12_33 shq_206 kdq_11_6 rrq_206_6 ?_
    refine e_sipush (nI 147) qX12_second_65 rfl ?_
    refine e_iald qX12_second_68 shq_208 lnq_208 h (fun v24 h => ?_)
    refine e_iconst (nI 1) qX12_second_69 rfl ?_
    refine e_iadd qX12_second_70 ?_
    refine e_aload_n qX12_second_71 rfl ?_
    refine e_getr 208 qX12_second_72 fl_X12_33 shq_206 kdq_11_6 rrq_206_6 ?_
    refine e_sipush (nI 143) qX12_second_75 rfl ?_
    refine e_iload_n qX12_second_78 rfl ?_
    refine e_iadd qX12_second_79 ?_
    refine e_iald qX12_second_80 shq_208 lnq_208 h (fun v25 h => ?_)
    refine e_irem qX12_second_81 h (fun v26 h => ?_)
    refine jn_e (fun j => ∀ (s27 : St), j s27 = some sr → E mX12_second 4 (none, sr) 90 [some (.ref 206), none, some (.int v17)] [] s27) h ?_ (fun j28 hj28 h => ?_)
    · intro s27 h
      refine vl_e h (fun h => ?_)
      obtain ⟨v29, ev29⟩ : ∃ y, v17 + (nI 1) = y := ⟨_, rfl⟩
      rw [ev29] at h
      refine e_iinc (nI 1) v29 (lv2 := [some (.ref 206), none, some (.int v29)]) qX12_second_90 rfl rfl rfl ev29 rfl ?_
      refine e_goto (tgt := 51) qX12_second_93 rfl ?_
      exact e_weak (ih22 _ _ h) ⟨Or.inr rfl, Or.inl rfl, Or.inr rfl, trivial⟩
    refine e_if_ne (tgt := 90) qX12_second_82 rfl h (fun _ h => ?_) (fun _ h => ?_)
    · refine e_aload_n qX12_second_85 rfl ?_
      refine e_iload_n qX12_second_86 rfl ?_
      obtain ⟨s30, hc, h⟩ := bp_e h
      refine e_cVv1 qX12_second_87 mv_X12_319 shq_206 rfl rfl (w_X12_sails hc) ?_
      exact e_weak (hj28 _ h) ⟨Or.inr rfl, Or.inl rfl, Or.inr rfl, trivial⟩
    exact e_weak (hj28 _ h) ⟨Or.inr rfl, Or.inl rfl, Or.inr rfl, trivial⟩

set_option maxRecDepth 20000 in
set_option maxHeartbeats 4000000 in
theorem w_X12_second {N : Nat}  {s0 : St} {sr : St} (h : f_X12_second N  s0 = some sr) : Ct mX12_second 4 [.ref 206] s0 (none, sr) := by
  refine Ct.ofE (by decide +kernel) rfl ?_
  show E mX12_second 4 (none, sr) 0 [some (.ref 206), none, none] [] s0
  unfold f_X12_second at h
  refine e_aload_n qX12_second_0 rfl ?_
  obtain ⟨v1, hc, h⟩ := bp_e h
  refine e_cVi0 qX12_second_1 mv_X12_291 shq_206 rfl rfl (w_X12_shining hc) ?_
  refine e_istore_n (lv2 := [some (.ref 206), some (.int v1), none]) qX12_second_4 rfl rfl rfl ?_
  refine e_iconst (nI 0) qX12_second_5 rfl ?_
  refine e_istore_n (lv2 := [some (.ref 206), some (.int v1), some (.int (nI 0))]) qX12_second_6 rfl rfl rfl ?_
  refine e_weak (w_X12_second_L7 (fun s16 h => ?_) _ _ _ h) ⟨Or.inr rfl, Or.inr rfl, Or.inr rfl, trivial⟩
  refine e_iconst (nI 0) qX12_second_49 rfl ?_
  refine e_istore_n (lv2 := [some (.ref 206), none, some (.int (nI 0))]) qX12_second_50 rfl rfl rfl ?_
  refine e_weak (w_X12_second_L51 (fun s31 h => ?_) _ _ _ h) ⟨Or.inr rfl, Or.inl rfl, Or.inr rfl, trivial⟩
  refine e_aload_n qX12_second_96 rfl ?_
  refine e_getr 208 qX12_second_97 fl_X12_33 shq_206 kdq_11_6 rrq_206_6 ?_
  refine e_sipush (nI 147) qX12_second_100 rfl ?_
  refine e_dup2 qX12_second_103 rfl rfl ?_
  refine e_iald qX12_second_104 shq_208 lnq_208 h (fun v32 h => ?_)
  refine e_iconst (nI 1) qX12_second_105 rfl ?_
  refine e_iadd qX12_second_106 ?_
  refine e_iast qX12_second_107 shq_208 lnq_208 h (fun s33 h => ?_)
  exact e_vret qX12_second_108 rfl (ret_v h)

def f_X12_goesOn_L2 (N : Nat) (c1 : Int32) : Nat → Int32 → St → Option (Int32 × St)
  | 0, _, _ => none
  | n4 + 1, v2, s3 =>
    if c1 ≤ v2 then
      some (v2, s3)
    else
    ald (s3.1 208) 359 (nI 147) fun v6 =>
    if (nI 3600) ≤ v6 then
      some (v2, s3)
    else
    bp (f_X12_second N s3) fun s7 =>
    vl (v2 + (nI 1)) fun v8 =>
    f_X12_goesOn_L2 N c1 n4 v8 s7

def f_X12_goesOn (N : Nat) (x1 : Int32) (s0 : St) : Option (Int32 × St) :=
  f_X12_goesOn_L2 N x1 N (nI 0) s0

theorem qX12_goesOn_0 : Dc mX12_goesOn 0 (.iconst 0) 1 1 := ⟨by decide +kernel, rfl⟩
theorem qX12_goesOn_1 : Dc mX12_goesOn 1 (.istore_n 2) 1 2 := ⟨by decide +kernel, rfl⟩
theorem qX12_goesOn_2 : Dc mX12_goesOn 2 (.iload_n 2) 1 3 := ⟨by decide +kernel, rfl⟩
theorem qX12_goesOn_3 : Dc mX12_goesOn 3 (.iload_n 1) 1 4 := ⟨by decide +kernel, rfl⟩
theorem qX12_goesOn_4 : Dc mX12_goesOn 4 (.if_icmp .ge 27) 3 7 := ⟨by decide +kernel, rfl⟩
theorem qX12_goesOn_7 : Dc mX12_goesOn 7 (.aload_n 0) 1 8 := ⟨by decide +kernel, rfl⟩
theorem qX12_goesOn_8 : Dc mX12_goesOn 8 (.getfield 33) 3 11 := ⟨by decide +kernel, rfl⟩
theorem qX12_goesOn_11 : Dc mX12_goesOn 11 (.sipush 147) 3 14 := ⟨by decide +kernel, rfl⟩
theorem qX12_goesOn_14 : Dc mX12_goesOn 14 (.iaload) 1 15 := ⟨by decide +kernel, rfl⟩
theorem qX12_goesOn_15 : Dc mX12_goesOn 15 (.sipush 3600) 3 18 := ⟨by decide +kernel, rfl⟩
theorem qX12_goesOn_18 : Dc mX12_goesOn 18 (.if_icmp .ge 13) 3 21 := ⟨by decide +kernel, rfl⟩
theorem qX12_goesOn_21 : Dc mX12_goesOn 21 (.aload_n 0) 1 22 := ⟨by decide +kernel, rfl⟩
theorem qX12_goesOn_22 : Dc mX12_goesOn 22 (.invokevirtual 322) 3 25 := ⟨by decide +kernel, rfl⟩
theorem qX12_goesOn_25 : Dc mX12_goesOn 25 (.iinc 2 1) 3 28 := ⟨by decide +kernel, rfl⟩
theorem qX12_goesOn_28 : Dc mX12_goesOn 28 (.goto (-26)) 3 31 := ⟨by decide +kernel, rfl⟩
theorem qX12_goesOn_31 : Dc mX12_goesOn 31 (.iload_n 2) 1 32 := ⟨by decide +kernel, rfl⟩
theorem qX12_goesOn_32 : Dc mX12_goesOn 32 (.ireturn) 1 33 := ⟨by decide +kernel, rfl⟩

set_option maxRecDepth 20000 in
set_option maxHeartbeats 4000000 in
theorem w_X12_goesOn_L2 {N : Nat} {c1 : Int32}  {r : Int32} {sr : St}   : ∀ (n4 : Nat) (v2 : Int32) (s3 : St), f_X12_goesOn_L2 N c1 n4 v2 s3 = some (r, sr) → E mX12_goesOn 5 (some (.int r), sr) 2 [some (.ref 206), some (.int c1), some (.int v2)] [] s3 := by
  intro n4
  induction n4 with
  | zero =>
    intro v2 s3 h
    rw [f_X12_goesOn_L2] at h; cases h
  | succ n4 ih5 =>
    intro v2 s3 h
    rw [f_X12_goesOn_L2] at h
    refine e_iload_n qX12_goesOn_2 rfl ?_
    refine e_iload_n qX12_goesOn_3 rfl ?_
    refine e_icmp_ge (tgt := 31) qX12_goesOn_4 rfl h (fun _ h => ?_) (fun _ h => ?_)
    · refine e_iload_n qX12_goesOn_31 rfl ?_
      exact e_iret qX12_goesOn_32 rfl (ret_i h)
    refine e_aload_n qX12_goesOn_7 rfl ?_
    refine e_getr 208 qX12_goesOn_8 fl_X12_33 shq_206 kdq_11_6 rrq_206_6 ?_
    refine e_sipush (nI 147) qX12_goesOn_11 rfl ?_
    refine e_iald qX12_goesOn_14 shq_208 lnq_208 h (fun v6 h => ?_)
    refine e_sipush (nI 3600) qX12_goesOn_15 rfl ?_
    refine e_icmp_ge (tgt := 31) qX12_goesOn_18 rfl h (fun _ h => ?_) (fun _ h => ?_)
    · refine e_iload_n qX12_goesOn_31 rfl ?_
      exact e_iret qX12_goesOn_32 rfl (ret_i h)
    refine e_aload_n qX12_goesOn_21 rfl ?_
    obtain ⟨s7, hc, h⟩ := bp_e h
    refine e_cVv0 qX12_goesOn_22 mv_X12_322 shq_206 rfl rfl (w_X12_second hc) ?_
    refine vl_e h (fun h => ?_)
    obtain ⟨v8, ev8⟩ : ∃ y, v2 + (nI 1) = y := ⟨_, rfl⟩
    rw [ev8] at h
    refine e_iinc (nI 1) v8 (lv2 := [some (.ref 206), some (.int c1), some (.int v8)]) qX12_goesOn_25 rfl rfl rfl ev8 rfl ?_
    refine e_goto (tgt := 2) qX12_goesOn_28 rfl ?_
    exact e_weak (ih5 _ _ h) ⟨Or.inr rfl, Or.inr rfl, Or.inr rfl, trivial⟩

set_option maxRecDepth 20000 in
set_option maxHeartbeats 4000000 in
theorem w_X12_goesOn {N : Nat} {x1 : Int32} {s0 : St} {r : Int32} {sr : St} (h : f_X12_goesOn N x1 s0 = some (r, sr)) : Ct mX12_goesOn 5 [.ref 206, .int x1] s0 (some (.int r), sr) := by
  refine Ct.ofE (by decide +kernel) rfl ?_
  show E mX12_goesOn 5 (some (.int r), sr) 0 [some (.ref 206), some (.int x1), none] [] s0
  unfold f_X12_goesOn at h
  refine e_iconst (nI 0) qX12_goesOn_0 rfl ?_
  refine e_istore_n (lv2 := [some (.ref 206), some (.int x1), some (.int (nI 0))]) qX12_goesOn_1 rfl rfl rfl ?_
  exact e_weak (w_X12_goesOn_L2  _ _ _ h) ⟨Or.inr rfl, Or.inr rfl, Or.inr rfl, trivial⟩

def f_X12_stores_L47 (N : Nat) (k6 : St → Option (St)) : Nat → Int32 → St → Option (St)
  | 0, _, _ => none
  | n8 + 1, v4, s5 =>
    if (nI 31) ≤ v4 then
      k6 s5
    else
    vl (s5.1 206 24) fun v10 =>
    ald (s5.1 208) 359 ((nI 147) + v4) fun v11 =>
    ald (fun j => sI s5 213 j v11) 248 (((nI 31) * v10) + v4) fun s12 =>
    vl (v4 + (nI 1)) fun v13 =>
    f_X12_stores_L47 N k6 n8 v13 s12

def f_X12_stores_L11 (N : Nat) (k19 : St → Option (St)) : Nat → Int32 → St → Option (St)
  | 0, _, _ => none
  | n21 + 1, v17, s18 =>
    if (nI 217) ≤ v17 then
      k19 s18
    else
    ald (s18.1 213) 248 (v17 + (nI 31)) fun v23 =>
    ald (fun j => sI s18 213 j v23) 248 v17 fun s24 =>
    vl (v17 + (nI 1)) fun v25 =>
    f_X12_stores_L11 N k19 n21 v25 s24

def f_X12_stores (N : Nat)  (s0 : St) : Option (St) :=
  vl (s0.1 206 24) fun v1 =>
  jn (fun (s2 : St) =>
    f_X12_stores_L47 N (fun (s14 : St) =>
      vl (s14.1 206 24) fun v15 =>
      vl (sI s14 206 24 (v15 + (nI 1))) fun s16 =>
      some s16) N (nI 0) s2) fun j3 =>
  if v1 = (nI 8) then
    f_X12_stores_L11 N (fun (s26 : St) =>
      vl (sI s26 206 24 (nI 7)) fun s27 =>
      j3 s27) N (nI 0) s0
  else
  j3 s0

theorem qX12_stores_0 : Dc mX12_stores 0 (.aload_n 0) 1 1 := ⟨by decide +kernel, rfl⟩
theorem qX12_stores_1 : Dc mX12_stores 1 (.getfield 258) 3 4 := ⟨by decide +kernel, rfl⟩
theorem qX12_stores_4 : Dc mX12_stores 4 (.bipush 8) 2 6 := ⟨by decide +kernel, rfl⟩
theorem qX12_stores_6 : Dc mX12_stores 6 (.if_icmp .ne 39) 3 9 := ⟨by decide +kernel, rfl⟩
theorem qX12_stores_9 : Dc mX12_stores 9 (.iconst 0) 1 10 := ⟨by decide +kernel, rfl⟩
theorem qX12_stores_10 : Dc mX12_stores 10 (.istore_n 1) 1 11 := ⟨by decide +kernel, rfl⟩
theorem qX12_stores_11 : Dc mX12_stores 11 (.iload_n 1) 1 12 := ⟨by decide +kernel, rfl⟩
theorem qX12_stores_12 : Dc mX12_stores 12 (.sipush 217) 3 15 := ⟨by decide +kernel, rfl⟩
theorem qX12_stores_15 : Dc mX12_stores 15 (.if_icmp .ge 24) 3 18 := ⟨by decide +kernel, rfl⟩
theorem qX12_stores_18 : Dc mX12_stores 18 (.aload_n 0) 1 19 := ⟨by decide +kernel, rfl⟩
theorem qX12_stores_19 : Dc mX12_stores 19 (.getfield 50) 3 22 := ⟨by decide +kernel, rfl⟩
theorem qX12_stores_22 : Dc mX12_stores 22 (.iload_n 1) 1 23 := ⟨by decide +kernel, rfl⟩
theorem qX12_stores_23 : Dc mX12_stores 23 (.aload_n 0) 1 24 := ⟨by decide +kernel, rfl⟩
theorem qX12_stores_24 : Dc mX12_stores 24 (.getfield 50) 3 27 := ⟨by decide +kernel, rfl⟩
theorem qX12_stores_27 : Dc mX12_stores 27 (.iload_n 1) 1 28 := ⟨by decide +kernel, rfl⟩
theorem qX12_stores_28 : Dc mX12_stores 28 (.bipush 31) 2 30 := ⟨by decide +kernel, rfl⟩
theorem qX12_stores_30 : Dc mX12_stores 30 (.iadd) 1 31 := ⟨by decide +kernel, rfl⟩
theorem qX12_stores_31 : Dc mX12_stores 31 (.iaload) 1 32 := ⟨by decide +kernel, rfl⟩
theorem qX12_stores_32 : Dc mX12_stores 32 (.iastore) 1 33 := ⟨by decide +kernel, rfl⟩
theorem qX12_stores_33 : Dc mX12_stores 33 (.iinc 1 1) 3 36 := ⟨by decide +kernel, rfl⟩
theorem qX12_stores_36 : Dc mX12_stores 36 (.goto (-25)) 3 39 := ⟨by decide +kernel, rfl⟩
theorem qX12_stores_39 : Dc mX12_stores 39 (.aload_n 0) 1 40 := ⟨by decide +kernel, rfl⟩
theorem qX12_stores_40 : Dc mX12_stores 40 (.bipush 7) 2 42 := ⟨by decide +kernel, rfl⟩
theorem qX12_stores_42 : Dc mX12_stores 42 (.putfield 258) 3 45 := ⟨by decide +kernel, rfl⟩
theorem qX12_stores_45 : Dc mX12_stores 45 (.iconst 0) 1 46 := ⟨by decide +kernel, rfl⟩
theorem qX12_stores_46 : Dc mX12_stores 46 (.istore_n 1) 1 47 := ⟨by decide +kernel, rfl⟩
theorem qX12_stores_47 : Dc mX12_stores 47 (.iload_n 1) 1 48 := ⟨by decide +kernel, rfl⟩
theorem qX12_stores_48 : Dc mX12_stores 48 (.bipush 31) 2 50 := ⟨by decide +kernel, rfl⟩
theorem qX12_stores_50 : Dc mX12_stores 50 (.if_icmp .ge 33) 3 53 := ⟨by decide +kernel, rfl⟩
theorem qX12_stores_53 : Dc mX12_stores 53 (.aload_n 0) 1 54 := ⟨by decide +kernel, rfl⟩
theorem qX12_stores_54 : Dc mX12_stores 54 (.getfield 50) 3 57 := ⟨by decide +kernel, rfl⟩
theorem qX12_stores_57 : Dc mX12_stores 57 (.bipush 31) 2 59 := ⟨by decide +kernel, rfl⟩
theorem qX12_stores_59 : Dc mX12_stores 59 (.aload_n 0) 1 60 := ⟨by decide +kernel, rfl⟩
theorem qX12_stores_60 : Dc mX12_stores 60 (.getfield 258) 3 63 := ⟨by decide +kernel, rfl⟩
theorem qX12_stores_63 : Dc mX12_stores 63 (.imul) 1 64 := ⟨by decide +kernel, rfl⟩
theorem qX12_stores_64 : Dc mX12_stores 64 (.iload_n 1) 1 65 := ⟨by decide +kernel, rfl⟩
theorem qX12_stores_65 : Dc mX12_stores 65 (.iadd) 1 66 := ⟨by decide +kernel, rfl⟩
theorem qX12_stores_66 : Dc mX12_stores 66 (.aload_n 0) 1 67 := ⟨by decide +kernel, rfl⟩
theorem qX12_stores_67 : Dc mX12_stores 67 (.getfield 33) 3 70 := ⟨by decide +kernel, rfl⟩
theorem qX12_stores_70 : Dc mX12_stores 70 (.sipush 147) 3 73 := ⟨by decide +kernel, rfl⟩
theorem qX12_stores_73 : Dc mX12_stores 73 (.iload_n 1) 1 74 := ⟨by decide +kernel, rfl⟩
theorem qX12_stores_74 : Dc mX12_stores 74 (.iadd) 1 75 := ⟨by decide +kernel, rfl⟩
theorem qX12_stores_75 : Dc mX12_stores 75 (.iaload) 1 76 := ⟨by decide +kernel, rfl⟩
theorem qX12_stores_76 : Dc mX12_stores 76 (.iastore) 1 77 := ⟨by decide +kernel, rfl⟩
theorem qX12_stores_77 : Dc mX12_stores 77 (.iinc 1 1) 3 80 := ⟨by decide +kernel, rfl⟩
theorem qX12_stores_80 : Dc mX12_stores 80 (.goto (-33)) 3 83 := ⟨by decide +kernel, rfl⟩
theorem qX12_stores_83 : Dc mX12_stores 83 (.aload_n 0) 1 84 := ⟨by decide +kernel, rfl⟩
theorem qX12_stores_84 : Dc mX12_stores 84 (.dup) 1 85 := ⟨by decide +kernel, rfl⟩
theorem qX12_stores_85 : Dc mX12_stores 85 (.getfield 258) 3 88 := ⟨by decide +kernel, rfl⟩
theorem qX12_stores_88 : Dc mX12_stores 88 (.iconst 1) 1 89 := ⟨by decide +kernel, rfl⟩
theorem qX12_stores_89 : Dc mX12_stores 89 (.iadd) 1 90 := ⟨by decide +kernel, rfl⟩
theorem qX12_stores_90 : Dc mX12_stores 90 (.putfield 258) 3 93 := ⟨by decide +kernel, rfl⟩
theorem qX12_stores_93 : Dc mX12_stores 93 (.return_) 1 94 := ⟨by decide +kernel, rfl⟩

set_option maxRecDepth 20000 in
set_option maxHeartbeats 4000000 in
theorem w_X12_stores_L47 {N : Nat}  {k6 : St → Option (St)} {sr : St}  (hk6 : ∀ (s7 : St), k6 s7 = some sr → E mX12_stores 0 (none, sr) 83 [some (.ref 206), none] [] s7) : ∀ (n8 : Nat) (v4 : Int32) (s5 : St), f_X12_stores_L47 N k6 n8 v4 s5 = some sr → E mX12_stores 0 (none, sr) 47 [some (.ref 206), some (.int v4)] [] s5 := by
  intro n8
  induction n8 with
  | zero =>
    intro v4 s5 h
    rw [f_X12_stores_L47] at h; cases h
  | succ n8 ih9 =>
    intro v4 s5 h
    rw [f_X12_stores_L47] at h
    refine e_iload_n qX12_stores_47 rfl ?_
    refine e_bipush (nI 31) qX12_stores_48 rfl ?_
    refine e_icmp_ge (tgt := 83) qX12_stores_50 rfl h (fun _ h => ?_) (fun _ h => ?_)
    · exact e_weak (hk6 _ h) ⟨Or.inr rfl, Or.inl rfl, trivial⟩
    refine e_aload_n qX12_stores_53 rfl ?_
    refine e_getr 213 qX12_stores_54 fl_X12_50 shq_206 kdq_11_22 rrq_206_22 ?_
    refine e_bipush (nI 31) qX12_stores_57 rfl ?_
    refine e_aload_n qX12_stores_59 rfl ?_
    refine e_geti qX12_stores_60 fl_X12_258 shq_206 kdq_11_24 h (fun v10 h => ?_)
    refine e_imul qX12_stores_63 ?_
    refine e_iload_n qX12_stores_64 rfl ?_
    refine e_iadd qX12_stores_65 ?_
    refine e_aload_n qX12_stores_66 rfl ?_
    refine e_getr 208 qX12_stores_67 fl_X12_33 shq_206 kdq_11_6 rrq_206_6 ?_
    refine e_sipush (nI 147) qX12_stores_70 rfl ?_
    refine e_iload_n qX12_stores_73 rfl ?_
    refine e_iadd qX12_stores_74 ?_
    refine e_iald qX12_stores_75 shq_208 lnq_208 h (fun v11 h => ?_)
    refine e_iast qX12_stores_76 shq_213 lnq_213 h (fun s12 h => ?_)
    refine vl_e h (fun h => ?_)
    obtain ⟨v13, ev13⟩ : ∃ y, v4 + (nI 1) = y := ⟨_, rfl⟩
    rw [ev13] at h
    refine e_iinc (nI 1) v13 (lv2 := [some (.ref 206), some (.int v13)]) qX12_stores_77 rfl rfl rfl ev13 rfl ?_
    refine e_goto (tgt := 47) qX12_stores_80 rfl ?_
    exact e_weak (ih9 _ _ h) ⟨Or.inr rfl, Or.inr rfl, trivial⟩

set_option maxRecDepth 20000 in
set_option maxHeartbeats 4000000 in
theorem w_X12_stores_L11 {N : Nat}  {k19 : St → Option (St)} {sr : St}  (hk19 : ∀ (s20 : St), k19 s20 = some sr → E mX12_stores 0 (none, sr) 39 [some (.ref 206), none] [] s20) : ∀ (n21 : Nat) (v17 : Int32) (s18 : St), f_X12_stores_L11 N k19 n21 v17 s18 = some sr → E mX12_stores 0 (none, sr) 11 [some (.ref 206), some (.int v17)] [] s18 := by
  intro n21
  induction n21 with
  | zero =>
    intro v17 s18 h
    rw [f_X12_stores_L11] at h; cases h
  | succ n21 ih22 =>
    intro v17 s18 h
    rw [f_X12_stores_L11] at h
    refine e_iload_n qX12_stores_11 rfl ?_
    refine e_sipush (nI 217) qX12_stores_12 rfl ?_
    refine e_icmp_ge (tgt := 39) qX12_stores_15 rfl h (fun _ h => ?_) (fun _ h => ?_)
    · exact e_weak (hk19 _ h) ⟨Or.inr rfl, Or.inl rfl, trivial⟩
    refine e_aload_n qX12_stores_18 rfl ?_
    refine e_getr 213 qX12_stores_19 fl_X12_50 shq_206 kdq_11_22 rrq_206_22 ?_
    refine e_iload_n qX12_stores_22 rfl ?_
    refine e_aload_n qX12_stores_23 rfl ?_
    refine e_getr 213 qX12_stores_24 fl_X12_50 shq_206 kdq_11_22 rrq_206_22 ?_
    refine e_iload_n qX12_stores_27 rfl ?_
    refine e_bipush (nI 31) qX12_stores_28 rfl ?_
    refine e_iadd qX12_stores_30 ?_
    refine e_iald qX12_stores_31 shq_213 lnq_213 h (fun v23 h => ?_)
    refine e_iast qX12_stores_32 shq_213 lnq_213 h (fun s24 h => ?_)
    refine vl_e h (fun h => ?_)
    obtain ⟨v25, ev25⟩ : ∃ y, v17 + (nI 1) = y := ⟨_, rfl⟩
    rw [ev25] at h
    refine e_iinc (nI 1) v25 (lv2 := [some (.ref 206), some (.int v25)]) qX12_stores_33 rfl rfl rfl ev25 rfl ?_
    refine e_goto (tgt := 11) qX12_stores_36 rfl ?_
    exact e_weak (ih22 _ _ h) ⟨Or.inr rfl, Or.inr rfl, trivial⟩

set_option maxRecDepth 20000 in
set_option maxHeartbeats 4000000 in
theorem w_X12_stores {N : Nat}  {s0 : St} {sr : St} (h : f_X12_stores N  s0 = some sr) : Ct mX12_stores 0 [.ref 206] s0 (none, sr) := by
  refine Ct.ofE (by decide +kernel) rfl ?_
  show E mX12_stores 0 (none, sr) 0 [some (.ref 206), none] [] s0
  unfold f_X12_stores at h
  refine e_aload_n qX12_stores_0 rfl ?_
  refine e_geti qX12_stores_1 fl_X12_258 shq_206 kdq_11_24 h (fun v1 h => ?_)
  refine e_bipush (nI 8) qX12_stores_4 rfl ?_
  refine jn_e (fun j => ∀ (s2 : St), j s2 = some sr → E mX12_stores 0 (none, sr) 45 [some (.ref 206), none] [] s2) h ?_ (fun j3 hj3 h => ?_)
  · intro s2 h
    refine e_iconst (nI 0) qX12_stores_45 rfl ?_
    refine e_istore_n (lv2 := [some (.ref 206), some (.int (nI 0))]) qX12_stores_46 rfl rfl rfl ?_
    refine e_weak (w_X12_stores_L47 (fun s14 h => ?_) _ _ _ h) ⟨Or.inr rfl, Or.inr rfl, trivial⟩
    refine e_aload_n qX12_stores_83 rfl ?_
    refine e_dup qX12_stores_84 rfl ?_
    refine e_geti qX12_stores_85 fl_X12_258 shq_206 kdq_11_24 h (fun v15 h => ?_)
    refine e_iconst (nI 1) qX12_stores_88 rfl ?_
    refine e_iadd qX12_stores_89 ?_
    refine e_puti qX12_stores_90 fp_X12_258 shq_206 kdq_11_24 h (fun s16 h => ?_)
    exact e_vret qX12_stores_93 rfl (ret_v h)
  refine e_icmp_ne (tgt := 45) qX12_stores_6 rfl h (fun _ h => ?_) (fun _ h => ?_)
  · refine e_iconst (nI 0) qX12_stores_9 rfl ?_
    refine e_istore_n (lv2 := [some (.ref 206), some (.int (nI 0))]) qX12_stores_10 rfl rfl rfl ?_
    refine e_weak (w_X12_stores_L11 (fun s26 h => ?_) _ _ _ h) ⟨Or.inr rfl, Or.inr rfl, trivial⟩
    refine e_aload_n qX12_stores_39 rfl ?_
    refine e_bipush (nI 7) qX12_stores_40 rfl ?_
    refine e_puti qX12_stores_42 fp_X12_258 shq_206 kdq_11_24 h (fun s27 h => ?_)
    exact e_weak (hj3 _ h) ⟨Or.inr rfl, Or.inl rfl, trivial⟩
  exact e_weak (hj3 _ h) ⟨Or.inr rfl, Or.inl rfl, trivial⟩

def f_X12_undo_L26 (N : Nat) (k7 : St → Option (Int32 × St)) : Nat → Int32 → St → Option (Int32 × St)
  | 0, _, _ => none
  | n9 + 1, v5, s6 =>
    if (nI 31) ≤ v5 then
      k7 s6
    else
    vl (s6.1 206 24) fun v11 =>
    ald (s6.1 213) 248 (((nI 31) * v11) + v5) fun v12 =>
    ald (fun j => sI s6 208 j v12) 359 ((nI 147) + v5) fun s13 =>
    vl (v5 + (nI 1)) fun v14 =>
    f_X12_undo_L26 N k7 n9 v14 s13

def f_X12_undo (N : Nat)  (s0 : St) : Option (Int32 × St) :=
  vl (sI s0 206 0 (nI 0)) fun s1 =>
  vl (s1.1 206 24) fun v2 =>
  if v2 = 0 then
    some ((-1), s1)
  else
  vl (s1.1 206 24) fun v3 =>
  vl (sI s1 206 24 (v3 - (nI 1))) fun s4 =>
  f_X12_undo_L26 N (fun (s15 : St) =>
    vl (s15.1 206 24) fun v16 =>
    some (v16, s15)) N (nI 0) s4

theorem qX12_undo_0 : Dc mX12_undo 0 (.aload_n 0) 1 1 := ⟨by decide +kernel, rfl⟩
theorem qX12_undo_1 : Dc mX12_undo 1 (.iconst 0) 1 2 := ⟨by decide +kernel, rfl⟩
theorem qX12_undo_2 : Dc mX12_undo 2 (.putfield 1) 3 5 := ⟨by decide +kernel, rfl⟩
theorem qX12_undo_5 : Dc mX12_undo 5 (.aload_n 0) 1 6 := ⟨by decide +kernel, rfl⟩
theorem qX12_undo_6 : Dc mX12_undo 6 (.getfield 258) 3 9 := ⟨by decide +kernel, rfl⟩
theorem qX12_undo_9 : Dc mX12_undo 9 (.ifCond .ne 5) 3 12 := ⟨by decide +kernel, rfl⟩
theorem qX12_undo_12 : Dc mX12_undo 12 (.iconst (-1)) 1 13 := ⟨by decide +kernel, rfl⟩
theorem qX12_undo_13 : Dc mX12_undo 13 (.ireturn) 1 14 := ⟨by decide +kernel, rfl⟩
theorem qX12_undo_14 : Dc mX12_undo 14 (.aload_n 0) 1 15 := ⟨by decide +kernel, rfl⟩
theorem qX12_undo_15 : Dc mX12_undo 15 (.dup) 1 16 := ⟨by decide +kernel, rfl⟩
theorem qX12_undo_16 : Dc mX12_undo 16 (.getfield 258) 3 19 := ⟨by decide +kernel, rfl⟩
theorem qX12_undo_19 : Dc mX12_undo 19 (.iconst 1) 1 20 := ⟨by decide +kernel, rfl⟩
theorem qX12_undo_20 : Dc mX12_undo 20 (.isub) 1 21 := ⟨by decide +kernel, rfl⟩
theorem qX12_undo_21 : Dc mX12_undo 21 (.putfield 258) 3 24 := ⟨by decide +kernel, rfl⟩
theorem qX12_undo_24 : Dc mX12_undo 24 (.iconst 0) 1 25 := ⟨by decide +kernel, rfl⟩
theorem qX12_undo_25 : Dc mX12_undo 25 (.istore_n 1) 1 26 := ⟨by decide +kernel, rfl⟩
theorem qX12_undo_26 : Dc mX12_undo 26 (.iload_n 1) 1 27 := ⟨by decide +kernel, rfl⟩
theorem qX12_undo_27 : Dc mX12_undo 27 (.bipush 31) 2 29 := ⟨by decide +kernel, rfl⟩
theorem qX12_undo_29 : Dc mX12_undo 29 (.if_icmp .ge 33) 3 32 := ⟨by decide +kernel, rfl⟩
theorem qX12_undo_32 : Dc mX12_undo 32 (.aload_n 0) 1 33 := ⟨by decide +kernel, rfl⟩
theorem qX12_undo_33 : Dc mX12_undo 33 (.getfield 33) 3 36 := ⟨by decide +kernel, rfl⟩
theorem qX12_undo_36 : Dc mX12_undo 36 (.sipush 147) 3 39 := ⟨by decide +kernel, rfl⟩
theorem qX12_undo_39 : Dc mX12_undo 39 (.iload_n 1) 1 40 := ⟨by decide +kernel, rfl⟩
theorem qX12_undo_40 : Dc mX12_undo 40 (.iadd) 1 41 := ⟨by decide +kernel, rfl⟩
theorem qX12_undo_41 : Dc mX12_undo 41 (.aload_n 0) 1 42 := ⟨by decide +kernel, rfl⟩
theorem qX12_undo_42 : Dc mX12_undo 42 (.getfield 50) 3 45 := ⟨by decide +kernel, rfl⟩
theorem qX12_undo_45 : Dc mX12_undo 45 (.bipush 31) 2 47 := ⟨by decide +kernel, rfl⟩
theorem qX12_undo_47 : Dc mX12_undo 47 (.aload_n 0) 1 48 := ⟨by decide +kernel, rfl⟩
theorem qX12_undo_48 : Dc mX12_undo 48 (.getfield 258) 3 51 := ⟨by decide +kernel, rfl⟩
theorem qX12_undo_51 : Dc mX12_undo 51 (.imul) 1 52 := ⟨by decide +kernel, rfl⟩
theorem qX12_undo_52 : Dc mX12_undo 52 (.iload_n 1) 1 53 := ⟨by decide +kernel, rfl⟩
theorem qX12_undo_53 : Dc mX12_undo 53 (.iadd) 1 54 := ⟨by decide +kernel, rfl⟩
theorem qX12_undo_54 : Dc mX12_undo 54 (.iaload) 1 55 := ⟨by decide +kernel, rfl⟩
theorem qX12_undo_55 : Dc mX12_undo 55 (.iastore) 1 56 := ⟨by decide +kernel, rfl⟩
theorem qX12_undo_56 : Dc mX12_undo 56 (.iinc 1 1) 3 59 := ⟨by decide +kernel, rfl⟩
theorem qX12_undo_59 : Dc mX12_undo 59 (.goto (-33)) 3 62 := ⟨by decide +kernel, rfl⟩
theorem qX12_undo_62 : Dc mX12_undo 62 (.aload_n 0) 1 63 := ⟨by decide +kernel, rfl⟩
theorem qX12_undo_63 : Dc mX12_undo 63 (.getfield 258) 3 66 := ⟨by decide +kernel, rfl⟩
theorem qX12_undo_66 : Dc mX12_undo 66 (.ireturn) 1 67 := ⟨by decide +kernel, rfl⟩

set_option maxRecDepth 20000 in
set_option maxHeartbeats 4000000 in
theorem w_X12_undo_L26 {N : Nat}  {k7 : St → Option (Int32 × St)} {r : Int32} {sr : St}  (hk7 : ∀ (s8 : St), k7 s8 = some (r, sr) → E mX12_undo 0 (some (.int r), sr) 62 [some (.ref 206), none] [] s8) : ∀ (n9 : Nat) (v5 : Int32) (s6 : St), f_X12_undo_L26 N k7 n9 v5 s6 = some (r, sr) → E mX12_undo 0 (some (.int r), sr) 26 [some (.ref 206), some (.int v5)] [] s6 := by
  intro n9
  induction n9 with
  | zero =>
    intro v5 s6 h
    rw [f_X12_undo_L26] at h; cases h
  | succ n9 ih10 =>
    intro v5 s6 h
    rw [f_X12_undo_L26] at h
    refine e_iload_n qX12_undo_26 rfl ?_
    refine e_bipush (nI 31) qX12_undo_27 rfl ?_
    refine e_icmp_ge (tgt := 62) qX12_undo_29 rfl h (fun _ h => ?_) (fun _ h => ?_)
    · exact e_weak (hk7 _ h) ⟨Or.inr rfl, Or.inl rfl, trivial⟩
    refine e_aload_n qX12_undo_32 rfl ?_
    refine e_getr 208 qX12_undo_33 fl_X12_33 shq_206 kdq_11_6 rrq_206_6 ?_
    refine e_sipush (nI 147) qX12_undo_36 rfl ?_
    refine e_iload_n qX12_undo_39 rfl ?_
    refine e_iadd qX12_undo_40 ?_
    refine e_aload_n qX12_undo_41 rfl ?_
    refine e_getr 213 qX12_undo_42 fl_X12_50 shq_206 kdq_11_22 rrq_206_22 ?_
    refine e_bipush (nI 31) qX12_undo_45 rfl ?_
    refine e_aload_n qX12_undo_47 rfl ?_
    refine e_geti qX12_undo_48 fl_X12_258 shq_206 kdq_11_24 h (fun v11 h => ?_)
    refine e_imul qX12_undo_51 ?_
    refine e_iload_n qX12_undo_52 rfl ?_
    refine e_iadd qX12_undo_53 ?_
    refine e_iald qX12_undo_54 shq_213 lnq_213 h (fun v12 h => ?_)
    refine e_iast qX12_undo_55 shq_208 lnq_208 h (fun s13 h => ?_)
    refine vl_e h (fun h => ?_)
    obtain ⟨v14, ev14⟩ : ∃ y, v5 + (nI 1) = y := ⟨_, rfl⟩
    rw [ev14] at h
    refine e_iinc (nI 1) v14 (lv2 := [some (.ref 206), some (.int v14)]) qX12_undo_56 rfl rfl rfl ev14 rfl ?_
    refine e_goto (tgt := 26) qX12_undo_59 rfl ?_
    exact e_weak (ih10 _ _ h) ⟨Or.inr rfl, Or.inr rfl, trivial⟩

set_option maxRecDepth 20000 in
set_option maxHeartbeats 4000000 in
theorem w_X12_undo {N : Nat}  {s0 : St} {r : Int32} {sr : St} (h : f_X12_undo N  s0 = some (r, sr)) : Ct mX12_undo 0 [.ref 206] s0 (some (.int r), sr) := by
  refine Ct.ofE (by decide +kernel) rfl ?_
  show E mX12_undo 0 (some (.int r), sr) 0 [some (.ref 206), none] [] s0
  unfold f_X12_undo at h
  refine e_aload_n qX12_undo_0 rfl ?_
  refine e_iconst (nI 0) qX12_undo_1 rfl ?_
  refine e_puti qX12_undo_2 fp_X12_1 shq_206 kdq_11_0 h (fun s1 h => ?_)
  refine e_aload_n qX12_undo_5 rfl ?_
  refine e_geti qX12_undo_6 fl_X12_258 shq_206 kdq_11_24 h (fun v2 h => ?_)
  refine e_if_ne (tgt := 14) qX12_undo_9 rfl h (fun _ h => ?_) (fun _ h => ?_)
  · refine e_iconst (-1) qX12_undo_12 rfl ?_
    exact e_iret qX12_undo_13 rfl (ret_i h)
  refine e_aload_n qX12_undo_14 rfl ?_
  refine e_dup qX12_undo_15 rfl ?_
  refine e_geti qX12_undo_16 fl_X12_258 shq_206 kdq_11_24 h (fun v3 h => ?_)
  refine e_iconst (nI 1) qX12_undo_19 rfl ?_
  refine e_isub qX12_undo_20 ?_
  refine e_puti qX12_undo_21 fp_X12_258 shq_206 kdq_11_24 h (fun s4 h => ?_)
  refine e_iconst (nI 0) qX12_undo_24 rfl ?_
  refine e_istore_n (lv2 := [some (.ref 206), some (.int (nI 0))]) qX12_undo_25 rfl rfl rfl ?_
  refine e_weak (w_X12_undo_L26 (fun s15 h => ?_) _ _ _ h) ⟨Or.inr rfl, Or.inr rfl, trivial⟩
  refine e_aload_n qX12_undo_62 rfl ?_
  refine e_geti qX12_undo_63 fl_X12_258 shq_206 kdq_11_24 h (fun v16 h => ?_)
  exact e_iret qX12_undo_66 rfl (ret_i h)
