/-! construction: the model -/
abbrev mX12_init : MI := (yX12_init, cX12_init, 2, none)
theorem mw_X12_init : Mw mX12_init 0 := ⟨tb_6 199 (by decide +kernel) (by decide +kernel), tb_1 12 (by decide +kernel) (by decide +kernel), by decide +kernel, mw_sig (by decide +kernel), by decide⟩
theorem zs_206 : sh 206 = 11 := by decide +kernel
theorem zs_208 : sh 208 = 20 := by decide +kernel
theorem zs_209 : sh 209 = 20 := by decide +kernel
theorem zl_208 : ln 208 = 359 := by decide +kernel
theorem zl_209 : ln 209 = 147 := by decide +kernel
theorem zk_11_6 : kd 11 6 = 2 := by decide +kernel
theorem zk_11_7 : kd 11 7 = 2 := by decide +kernel
theorem zr_206_6 : rr 206 6 = 208 := by decide +kernel
theorem zr_206_7 : rr 206 7 = 209 := by decide +kernel
theorem kb_X12_clears {σ : St} {L : List (Nat × Nat)} (h : ∀ k, σ.1 209 k = nI 0) (hv : nuL L 206 7 = false) : BCt mX12_clears 1 [.ref 206] 225 σ (nuL L) (225, sI σ 209 2 (nI 30), nuL L) := by
  refine BCt.ofE (by decide +kernel) rfl rfl ⟨Nat.le_of_ble_eq_true rfl, Nat.le_of_ble_eq_true rfl⟩ ?_
  show BE mX12_clears 1 225 (225, sI σ 209 2 (nI 30), nuL L) 0 [some (.ref 206), none] [] 225 σ (nuL L)
  refine b_iconst (nI 0) qX12_clears_0 (by decide +kernel) ?_
  refine b_istore_n (lv2 := [some (.ref 206), some (.int (nI 0))]) qX12_clears_1 rfl rfl rfl ?_
  have lp : ∀ m k, m + k = 147 → BE mX12_clears 1 225 (225, sI σ 209 2 (nI 30), nuL L) 2 [some (.ref 206), some (.int (nI k))] [] 225 σ (nuL L) := by
    intro m
    induction m with
    | zero =>
      intro k hk
      obtain rfl : k = 147 := by omega
      refine b_iload_n qX12_clears_2 rfl ?_
      refine b_sipush (nI 147) qX12_clears_3 (by decide +kernel) ?_
      refine b_icmp_ge (tgt := 22) qX12_clears_6 (by decide) (fun _ => ?_) (fun z => absurd (by decide) z)
      refine b_aload_n qX12_clears_22 rfl ?_
      refine b_getr 209 qX12_clears_23 fl_X12_37 zs_206 zk_11_7 (by decide) zr_206_7 hv ?_
      refine b_iconst (nI 2) qX12_clears_26 (by decide +kernel) ?_
      refine b_bipush (nI 30) qX12_clears_27 (by decide +kernel) ?_
      refine b_iast qX12_clears_29 zs_209 zl_209 (by decide) rfl (by decide) ?_
      exact b_ret qX12_clears_30 rfl rfl
    | succ m ih =>
      intro k hk
      refine b_iload_n qX12_clears_2 rfl ?_
      refine b_sipush (nI 147) qX12_clears_3 (by decide +kernel) ?_
      refine b_icmp_ge (tgt := 22) qX12_clears_6 (by decide) (fun z => absurd z (nI_ge (by omega) (by decide))) (fun _ => ?_)
      refine b_aload_n qX12_clears_9 rfl ?_
      refine b_getr 209 qX12_clears_10 fl_X12_37 zs_206 zk_11_7 (by decide) zr_206_7 hv ?_
      refine b_iload_n qX12_clears_13 rfl ?_
      refine b_iconst (nI 0) qX12_clears_14 (by decide +kernel) ?_
      refine b_iast qX12_clears_15 zs_209 zl_209 (by omega) rfl (by decide) ?_
      rw [sI_id (h k)]
      refine b_iinc 1 (nI (k + 1)) (lv2 := [some (.ref 206), some (.int (nI (k + 1)))]) qX12_clears_16 rfl rfl (by decide +kernel) (nI_1 k) rfl ?_
      refine b_goto (tgt := 2) qX12_clears_19 (by decide) ?_
      exact ih (k + 1) (by omega)
  exact lp 147 0 rfl
theorem qX12_init_423 : Dc mX12_init 423 (.iload_n 1) 1 424 := ⟨by decide +kernel, rfl⟩
theorem qX12_init_424 : Dc mX12_init 424 (.sipush 147) 3 427 := ⟨by decide +kernel, rfl⟩
theorem qX12_init_427 : Dc mX12_init 427 (.if_icmp .ge 21) 3 430 := ⟨by decide +kernel, rfl⟩
theorem qX12_init_430 : Dc mX12_init 430 (.aload_n 0) 1 431 := ⟨by decide +kernel, rfl⟩
theorem qX12_init_431 : Dc mX12_init 431 (.getfield 33) 3 434 := ⟨by decide +kernel, rfl⟩
theorem qX12_init_434 : Dc mX12_init 434 (.iload_n 1) 1 435 := ⟨by decide +kernel, rfl⟩
theorem qX12_init_435 : Dc mX12_init 435 (.aload_n 0) 1 436 := ⟨by decide +kernel, rfl⟩
theorem qX12_init_436 : Dc mX12_init 436 (.getfield 37) 3 439 := ⟨by decide +kernel, rfl⟩
theorem qX12_init_439 : Dc mX12_init 439 (.iload_n 1) 1 440 := ⟨by decide +kernel, rfl⟩
theorem qX12_init_440 : Dc mX12_init 440 (.iaload) 1 441 := ⟨by decide +kernel, rfl⟩
theorem qX12_init_441 : Dc mX12_init 441 (.iastore) 1 442 := ⟨by decide +kernel, rfl⟩
theorem qX12_init_442 : Dc mX12_init 442 (.iinc 1 1) 3 445 := ⟨by decide +kernel, rfl⟩
theorem qX12_init_445 : Dc mX12_init 445 (.goto (-22)) 3 448 := ⟨by decide +kernel, rfl⟩
theorem qX12_init_448 : Dc mX12_init 448 (.aload_n 0) 1 449 := ⟨by decide +kernel, rfl⟩
theorem qX12_init_449 : Dc mX12_init 449 (.getfield 33) 3 452 := ⟨by decide +kernel, rfl⟩
theorem qX12_init_452 : Dc mX12_init 452 (.sipush 149) 3 455 := ⟨by decide +kernel, rfl⟩
theorem qX12_init_455 : Dc mX12_init 455 (.bipush 30) 2 457 := ⟨by decide +kernel, rfl⟩
theorem qX12_init_457 : Dc mX12_init 457 (.iastore) 1 458 := ⟨by decide +kernel, rfl⟩
theorem qX12_init_458 : Dc mX12_init 458 (.return_) 1 459 := ⟨by decide +kernel, rfl⟩
theorem kl_X12 {σ : St} {L : List (Nat × Nat)} {Z : BSt} (h8 : ∀ k, σ.1 208 k = nI 0) (h9 : ∀ k, σ.1 209 k = if k = 2 then nI 30 else nI 0) (hv8 : nuL L 206 6 = false) (hv9 : nuL L 206 7 = false) (kx : BE mX12_init 2 207 Z 448 [some (.ref 206), some (.int (nI 147))] [] 225 (sI σ 208 2 (nI 30)) (nuL L)) : ∀ m k, m + k = 147 → BE mX12_init 2 207 Z 423 [some (.ref 206), some (.int (nI k))] [] 225 (if k ≤ 2 then σ else sI σ 208 2 (nI 30)) (nuL L) := by
  intro m
  induction m with
  | zero =>
    intro k hk
    obtain rfl : k = 147 := by omega
    rw [if_neg (by decide)]
    refine b_iload_n qX12_init_423 rfl ?_
    refine b_sipush (nI 147) qX12_init_424 (by decide +kernel) ?_
    exact b_icmp_ge (tgt := 448) qX12_init_427 (by decide) (fun _ => kx) (fun z => absurd (by decide) z)
  | succ m ih =>
    intro k hk
    have key : ∀ τ, (if k ≤ 2 then σ else sI σ 208 2 (nI 30)) = τ → sI τ 208 k (τ.1 209 k) = if k + 1 ≤ 2 then σ else sI σ 208 2 (nI 30) := by
      intro τ e
      have e9 : τ.1 209 k = if k = 2 then nI 30 else nI 0 := by
        rw [← h9 k, ← e]
        by_cases q : k ≤ 2
        · rw [if_pos q]
        · rw [if_neg q, sI_ne (by decide)]
      by_cases q : k ≤ 2
      · rw [if_pos q] at e
        subst e
        by_cases q2 : k = 2
        · subst q2
          rw [e9, if_pos rfl, if_neg (by decide)]
        · rw [if_pos (by omega), e9, if_neg q2]
          exact sI_id (h8 k)
      · rw [if_neg q] at e
        rw [if_neg (by omega), e9, if_neg (by omega), ← e]
        refine sI_id ?_
        rw [sI_eq]
        show (if k = 2 then _ else _) = _
        rw [if_neg (by omega)]
        exact h8 k
    generalize hτ : (if k ≤ 2 then σ else sI σ 208 2 (nI 30)) = τ at key ⊢
    refine b_iload_n qX12_init_423 rfl ?_
    refine b_sipush (nI 147) qX12_init_424 (by decide +kernel) ?_
    refine b_icmp_ge (tgt := 448) qX12_init_427 (by decide) (fun z => absurd z (nI_ge (by omega) (by decide))) (fun _ => ?_)
    refine b_aload_n qX12_init_430 rfl ?_
    refine b_getr 208 qX12_init_431 fl_X12_33 zs_206 zk_11_6 (by decide) zr_206_6 hv8 ?_
    refine b_iload_n qX12_init_434 rfl ?_
    refine b_aload_n qX12_init_435 rfl ?_
    refine b_getr 209 qX12_init_436 fl_X12_37 zs_206 zk_11_7 (by decide) zr_206_7 hv9 ?_
    refine b_iload_n qX12_init_439 rfl ?_
    refine b_ialdv qX12_init_440 zs_209 zl_209 (by omega) rfl (by decide) ?_
    refine b_iast qX12_init_441 zs_208 zl_208 (by omega) rfl (by decide) ?_
    rw [key τ rfl]
    refine b_iinc 1 (nI (k + 1)) (lv2 := [some (.ref 206), some (.int (nI (k + 1)))]) qX12_init_442 rfl rfl (by decide +kernel) (nI_1 k) rfl ?_
    refine b_goto (tgt := 423) qX12_init_445 (by decide) ?_
    exact ih (k + 1) (by omega)
theorem kl_X12s {σ : St} {L : List (Nat × Nat)} {Z : BSt} (h8 : ∀ k, σ.1 208 k = nI 0) (h9 : ∀ k, σ.1 209 k = if k = 2 then nI 30 else nI 0) (hv8 : nuL L 206 6 = false) (hv9 : nuL L 206 7 = false) (hZ : Z = (225, sI (sI σ 208 2 (nI 30)) 208 149 (nI 30), nuL L)) : BE mX12_init 2 207 Z 423 [some (.ref 206), some (.int (nI 0))] [] 225 σ (nuL L) := by
  have := kl_X12 (Z := Z) h8 h9 hv8 hv9 (by
    refine b_aload_n qX12_init_448 rfl ?_
    refine b_getr 208 qX12_init_449 fl_X12_33 zs_206 zk_11_6 (by decide) zr_206_6 hv8 ?_
    refine b_sipush (nI 149) qX12_init_452 (by decide +kernel) ?_
    refine b_bipush (nI 30) qX12_init_455 (by decide +kernel) ?_
    refine b_iast qX12_init_457 zs_208 zl_208 (by decide) rfl (by decide) ?_
    exact b_ret qX12_init_458 rfl hZ) 147 0 rfl
  rw [if_pos (by decide)] at this
  exact this
theorem sI_rw2 {σ : St} {a k j : Nat} {v : Int32} : (sI σ a k v).1 a j = if j = k then v else σ.1 a j := by rw [sI_eq]; rfl
theorem qX12_init_0 : Dc mX12_init 0 (.aload_n 0) 1 1 := ⟨by decide +kernel, rfl⟩
theorem qX12_init_1 : Dc mX12_init 1 (.invokespecial 27) 3 4 := ⟨by decide +kernel, rfl⟩
theorem ob_X12_27 : Cond.methodLink RX12 27 objectInit ∈ tb ∧ Cond.instanceMethod objectInit ∈ tb ∧ Cond.code objectInit ⟨#[0xb1]⟩ 1 none ∈ tb := ⟨tb_6 200 (by decide +kernel) (by decide +kernel), tb_1 32 (by decide +kernel) (by decide +kernel), tb_1 33 (by decide +kernel) (by decide +kernel)⟩
theorem qX12_init_4 : Dc mX12_init 4 (.aload_n 0) 1 5 := ⟨by decide +kernel, rfl⟩
theorem qX12_init_5 : Dc mX12_init 5 (.sipush 940) 3 8 := ⟨by decide +kernel, rfl⟩
theorem qX12_init_8 : Dc mX12_init 8 (.newarray .byte) 2 10 := ⟨by decide +kernel, rfl⟩
theorem ar_byte : Cond.arrayClass (newarray.typeOf .byte) ∈ tb := tb_5 107 (by decide +kernel) (by decide +kernel)
theorem zs_207 : sh 207 = 22 := by decide +kernel
theorem zl_207 : ln 207 = 940 := by decide +kernel
theorem qX12_init_10 : Dc mX12_init 10 (.putfield 14) 3 13 := ⟨by decide +kernel, rfl⟩
theorem fq_X12_14 : Fq RX12 14 11 1 true := ⟨_, _, _, tyX12, _, rfl, by decide, cws_11, tb_6 233 (by decide +kernel) (by decide +kernel), tyX12_ok, nmX12, rfl, fun _ => rfl, tyX12_ok 1 (by decide), by decide +kernel, fun _ => ⟨rfl, rfl⟩⟩
theorem zk_11_1 : kd 11 1 = 2 := by decide +kernel
theorem zr_206_1 : rr 206 1 = 207 := by decide +kernel
theorem qX12_init_13 : Dc mX12_init 13 (.aload_n 0) 1 14 := ⟨by decide +kernel, rfl⟩
theorem qX12_init_14 : Dc mX12_init 14 (.sipush 359) 3 17 := ⟨by decide +kernel, rfl⟩
theorem qX12_init_17 : Dc mX12_init 17 (.newarray .int) 2 19 := ⟨by decide +kernel, rfl⟩
theorem qX12_init_19 : Dc mX12_init 19 (.putfield 33) 3 22 := ⟨by decide +kernel, rfl⟩
theorem fq_X12_33 : Fq RX12 33 11 6 true := ⟨_, _, _, tyX12, _, rfl, by decide, cws_11, tb_6 238 (by decide +kernel) (by decide +kernel), tyX12_ok, nmX12, rfl, fun _ => rfl, tyX12_ok 6 (by decide), by decide +kernel, fun _ => ⟨rfl, rfl⟩⟩
theorem qX12_init_22 : Dc mX12_init 22 (.aload_n 0) 1 23 := ⟨by decide +kernel, rfl⟩
theorem qX12_init_23 : Dc mX12_init 23 (.sipush 147) 3 26 := ⟨by decide +kernel, rfl⟩
theorem qX12_init_26 : Dc mX12_init 26 (.newarray .int) 2 28 := ⟨by decide +kernel, rfl⟩
theorem qX12_init_28 : Dc mX12_init 28 (.putfield 37) 3 31 := ⟨by decide +kernel, rfl⟩
theorem fq_X12_37 : Fq RX12 37 11 7 true := ⟨_, _, _, tyX12, _, rfl, by decide, cws_11, tb_6 239 (by decide +kernel) (by decide +kernel), tyX12_ok, nmX12, rfl, fun _ => rfl, tyX12_ok 7 (by decide), by decide +kernel, fun _ => ⟨rfl, rfl⟩⟩
theorem qX12_init_31 : Dc mX12_init 31 (.aload_n 0) 1 32 := ⟨by decide +kernel, rfl⟩
theorem qX12_init_32 : Dc mX12_init 32 (.sipush 135) 3 35 := ⟨by decide +kernel, rfl⟩
theorem qX12_init_35 : Dc mX12_init 35 (.newarray .int) 2 37 := ⟨by decide +kernel, rfl⟩
theorem zs_210 : sh 210 = 20 := by decide +kernel
theorem zl_210 : ln 210 = 135 := by decide +kernel
theorem qX12_init_37 : Dc mX12_init 37 (.putfield 40) 3 40 := ⟨by decide +kernel, rfl⟩
theorem fq_X12_40 : Fq RX12 40 11 8 true := ⟨_, _, _, tyX12, _, rfl, by decide, cws_11, tb_7 0 (by decide +kernel) (by decide +kernel), tyX12_ok, nmX12, rfl, fun _ => rfl, tyX12_ok 8 (by decide), by decide +kernel, fun _ => ⟨rfl, rfl⟩⟩
theorem zk_11_8 : kd 11 8 = 2 := by decide +kernel
theorem zr_206_8 : rr 206 8 = 210 := by decide +kernel
theorem qX12_init_40 : Dc mX12_init 40 (.aload_n 0) 1 41 := ⟨by decide +kernel, rfl⟩
theorem qX12_init_41 : Dc mX12_init 41 (.bipush 24) 2 43 := ⟨by decide +kernel, rfl⟩
theorem qX12_init_43 : Dc mX12_init 43 (.newarray .long) 2 45 := ⟨by decide +kernel, rfl⟩
theorem ar_long : Cond.arrayClass (newarray.typeOf .long) ∈ tb := tb_7 152 (by decide +kernel) (by decide +kernel)
theorem zs_211 : sh 211 = 23 := by decide +kernel
theorem zl_211 : ln 211 = 24 := by decide +kernel
theorem qX12_init_45 : Dc mX12_init 45 (.putfield 43) 3 48 := ⟨by decide +kernel, rfl⟩
theorem fq_X12_43 : Fq RX12 43 11 9 true := ⟨_, _, _, tyX12, _, rfl, by decide, cws_11, tb_7 1 (by decide +kernel) (by decide +kernel), tyX12_ok, nmX12, rfl, fun _ => rfl, tyX12_ok 9 (by decide), by decide +kernel, fun _ => ⟨rfl, rfl⟩⟩
theorem zk_11_9 : kd 11 9 = 2 := by decide +kernel
theorem zr_206_9 : rr 206 9 = 211 := by decide +kernel
theorem qX12_init_48 : Dc mX12_init 48 (.aload_n 0) 1 49 := ⟨by decide +kernel, rfl⟩
theorem qX12_init_49 : Dc mX12_init 49 (.bipush 27) 2 51 := ⟨by decide +kernel, rfl⟩
theorem qX12_init_51 : Dc mX12_init 51 (.newarray .long) 2 53 := ⟨by decide +kernel, rfl⟩
theorem zs_212 : sh 212 = 23 := by decide +kernel
theorem zl_212 : ln 212 = 27 := by decide +kernel
theorem qX12_init_53 : Dc mX12_init 53 (.putfield 47) 3 56 := ⟨by decide +kernel, rfl⟩
theorem fq_X12_47 : Fq RX12 47 11 10 true := ⟨_, _, _, tyX12, _, rfl, by decide, cws_11, tb_7 2 (by decide +kernel) (by decide +kernel), tyX12_ok, nmX12, rfl, fun _ => rfl, tyX12_ok 10 (by decide), by decide +kernel, fun _ => ⟨rfl, rfl⟩⟩
theorem zk_11_10 : kd 11 10 = 2 := by decide +kernel
theorem zr_206_10 : rr 206 10 = 212 := by decide +kernel
theorem qX12_init_56 : Dc mX12_init 56 (.aload_n 0) 1 57 := ⟨by decide +kernel, rfl⟩
theorem qX12_init_57 : Dc mX12_init 57 (.sipush 248) 3 60 := ⟨by decide +kernel, rfl⟩
theorem qX12_init_60 : Dc mX12_init 60 (.newarray .int) 2 62 := ⟨by decide +kernel, rfl⟩
theorem zs_213 : sh 213 = 20 := by decide +kernel
theorem zl_213 : ln 213 = 248 := by decide +kernel
theorem qX12_init_62 : Dc mX12_init 62 (.putfield 50) 3 65 := ⟨by decide +kernel, rfl⟩
theorem fq_X12_50 : Fq RX12 50 11 22 true := ⟨_, _, _, tyX12, _, rfl, by decide, cws_11, tb_7 14 (by decide +kernel) (by decide +kernel), tyX12_ok, nmX12, rfl, fun _ => rfl, tyX12_ok 22 (by decide), by decide +kernel, fun _ => ⟨rfl, rfl⟩⟩
theorem zk_11_22 : kd 11 22 = 2 := by decide +kernel
theorem zr_206_22 : rr 206 22 = 213 := by decide +kernel
theorem qX12_init_65 : Dc mX12_init 65 (.aload_n 0) 1 66 := ⟨by decide +kernel, rfl⟩
theorem qX12_init_66 : Dc mX12_init 66 (.bipush 31) 2 68 := ⟨by decide +kernel, rfl⟩
theorem qX12_init_68 : Dc mX12_init 68 (.newarray .int) 2 70 := ⟨by decide +kernel, rfl⟩
theorem zs_214 : sh 214 = 20 := by decide +kernel
theorem zl_214 : ln 214 = 31 := by decide +kernel
theorem qX12_init_70 : Dc mX12_init 70 (.putfield 53) 3 73 := ⟨by decide +kernel, rfl⟩
theorem fq_X12_53 : Fq RX12 53 11 23 true := ⟨_, _, _, tyX12, _, rfl, by decide, cws_11, tb_7 15 (by decide +kernel) (by decide +kernel), tyX12_ok, nmX12, rfl, fun _ => rfl, tyX12_ok 23 (by decide), by decide +kernel, fun _ => ⟨rfl, rfl⟩⟩
theorem zk_11_23 : kd 11 23 = 2 := by decide +kernel
theorem zr_206_23 : rr 206 23 = 214 := by decide +kernel
theorem qX12_init_73 : Dc mX12_init 73 (.aload_n 0) 1 74 := ⟨by decide +kernel, rfl⟩
theorem qX12_init_74 : Dc mX12_init 74 (.bipush 8) 2 76 := ⟨by decide +kernel, rfl⟩
theorem qX12_init_76 : Dc mX12_init 76 (.newarray .int) 2 78 := ⟨by decide +kernel, rfl⟩
theorem zs_215 : sh 215 = 20 := by decide +kernel
theorem zl_215 : ln 215 = 8 := by decide +kernel
theorem qX12_init_78 : Dc mX12_init 78 (.putfield 56) 3 81 := ⟨by decide +kernel, rfl⟩
theorem fq_X12_56 : Fq RX12 56 11 25 true := ⟨_, _, _, tyX12, _, rfl, by decide, cws_11, tb_7 17 (by decide +kernel) (by decide +kernel), tyX12_ok, nmX12, rfl, fun _ => rfl, tyX12_ok 25 (by decide), by decide +kernel, fun _ => ⟨rfl, rfl⟩⟩
theorem zk_11_25 : kd 11 25 = 2 := by decide +kernel
theorem zr_206_25 : rr 206 25 = 215 := by decide +kernel
theorem qX12_init_81 : Dc mX12_init 81 (.aload_n 0) 1 82 := ⟨by decide +kernel, rfl⟩
theorem qX12_init_82 : Dc mX12_init 82 (.sipush 160) 3 85 := ⟨by decide +kernel, rfl⟩
theorem qX12_init_85 : Dc mX12_init 85 (.newarray .boolean) 2 87 := ⟨by decide +kernel, rfl⟩
theorem zs_216 : sh 216 = 21 := by decide +kernel
theorem zl_216 : ln 216 = 160 := by decide +kernel
theorem qX12_init_87 : Dc mX12_init 87 (.putfield 59) 3 90 := ⟨by decide +kernel, rfl⟩
theorem fq_X12_59 : Fq RX12 59 11 28 true := ⟨_, _, _, tyX12, _, rfl, by decide, cws_11, tb_7 20 (by decide +kernel) (by decide +kernel), tyX12_ok, nmX12, rfl, fun _ => rfl, tyX12_ok 28 (by decide), by decide +kernel, fun _ => ⟨rfl, rfl⟩⟩
theorem zk_11_28 : kd 11 28 = 2 := by decide +kernel
theorem zr_206_28 : rr 206 28 = 216 := by decide +kernel
theorem qX12_init_90 : Dc mX12_init 90 (.aload_n 0) 1 91 := ⟨by decide +kernel, rfl⟩
theorem qX12_init_91 : Dc mX12_init 91 (.bipush 8) 2 93 := ⟨by decide +kernel, rfl⟩
theorem qX12_init_93 : Dc mX12_init 93 (.newarray .int) 2 95 := ⟨by decide +kernel, rfl⟩
theorem zs_217 : sh 217 = 20 := by decide +kernel
theorem zl_217 : ln 217 = 8 := by decide +kernel
theorem qX12_init_95 : Dc mX12_init 95 (.putfield 63) 3 98 := ⟨by decide +kernel, rfl⟩
theorem fq_X12_63 : Fq RX12 63 11 29 true := ⟨_, _, _, tyX12, _, rfl, by decide, cws_11, tb_7 21 (by decide +kernel) (by decide +kernel), tyX12_ok, nmX12, rfl, fun _ => rfl, tyX12_ok 29 (by decide), by decide +kernel, fun _ => ⟨rfl, rfl⟩⟩
theorem zk_11_29 : kd 11 29 = 2 := by decide +kernel
theorem zr_206_29 : rr 206 29 = 217 := by decide +kernel
theorem qX12_init_98 : Dc mX12_init 98 (.aload_n 0) 1 99 := ⟨by decide +kernel, rfl⟩
theorem qX12_init_99 : Dc mX12_init 99 (.bipush 40) 2 101 := ⟨by decide +kernel, rfl⟩
theorem qX12_init_101 : Dc mX12_init 101 (.newarray .byte) 2 103 := ⟨by decide +kernel, rfl⟩
theorem zs_218 : sh 218 = 22 := by decide +kernel
theorem zl_218 : ln 218 = 40 := by decide +kernel
theorem qX12_init_103 : Dc mX12_init 103 (.putfield 66) 3 106 := ⟨by decide +kernel, rfl⟩
theorem fq_X12_66 : Fq RX12 66 11 37 true := ⟨_, _, _, tyX12, _, rfl, by decide, cws_11, tb_7 29 (by decide +kernel) (by decide +kernel), tyX12_ok, nmX12, rfl, fun _ => rfl, tyX12_ok 37 (by decide), by decide +kernel, fun _ => ⟨rfl, rfl⟩⟩
theorem zk_11_37 : kd 11 37 = 2 := by decide +kernel
theorem zr_206_37 : rr 206 37 = 218 := by decide +kernel
theorem qX12_init_106 : Dc mX12_init 106 (.aload_n 0) 1 107 := ⟨by decide +kernel, rfl⟩
theorem qX12_init_107 : Dc mX12_init 107 (.iconst 4) 1 108 := ⟨by decide +kernel, rfl⟩
theorem qX12_init_108 : Dc mX12_init 108 (.newarray .int) 2 110 := ⟨by decide +kernel, rfl⟩
theorem zs_219 : sh 219 = 20 := by decide +kernel
theorem zl_219 : ln 219 = 4 := by decide +kernel
theorem qX12_init_110 : Dc mX12_init 110 (.putfield 69) 3 113 := ⟨by decide +kernel, rfl⟩
theorem fq_X12_69 : Fq RX12 69 11 41 true := ⟨_, _, _, tyX12, _, rfl, by decide, cws_11, tb_7 33 (by decide +kernel) (by decide +kernel), tyX12_ok, nmX12, rfl, fun _ => rfl, tyX12_ok 41 (by decide), by decide +kernel, fun _ => ⟨rfl, rfl⟩⟩
theorem zk_11_41 : kd 11 41 = 2 := by decide +kernel
theorem zr_206_41 : rr 206 41 = 219 := by decide +kernel
theorem qX12_init_113 : Dc mX12_init 113 (.aload_n 0) 1 114 := ⟨by decide +kernel, rfl⟩
theorem qX12_init_114 : Dc mX12_init 114 (.bipush 45) 2 116 := ⟨by decide +kernel, rfl⟩
theorem qX12_init_116 : Dc mX12_init 116 (.newarray .int) 2 118 := ⟨by decide +kernel, rfl⟩
theorem zs_220 : sh 220 = 20 := by decide +kernel
theorem zl_220 : ln 220 = 45 := by decide +kernel
theorem qX12_init_118 : Dc mX12_init 118 (.putfield 72) 3 121 := ⟨by decide +kernel, rfl⟩
theorem fq_X12_72 : Fq RX12 72 11 43 true := ⟨_, _, _, tyX12, _, rfl, by decide, cws_11, tb_7 35 (by decide +kernel) (by decide +kernel), tyX12_ok, nmX12, rfl, fun _ => rfl, tyX12_ok 43 (by decide), by decide +kernel, fun _ => ⟨rfl, rfl⟩⟩
theorem zk_11_43 : kd 11 43 = 2 := by decide +kernel
theorem zr_206_43 : rr 206 43 = 220 := by decide +kernel
theorem qX12_init_121 : Dc mX12_init 121 (.aload_n 0) 1 122 := ⟨by decide +kernel, rfl⟩
theorem qX12_init_122 : Dc mX12_init 122 (.bipush 45) 2 124 := ⟨by decide +kernel, rfl⟩
theorem qX12_init_124 : Dc mX12_init 124 (.newarray .boolean) 2 126 := ⟨by decide +kernel, rfl⟩
theorem zs_221 : sh 221 = 21 := by decide +kernel
theorem zl_221 : ln 221 = 45 := by decide +kernel
theorem qX12_init_126 : Dc mX12_init 126 (.putfield 75) 3 129 := ⟨by decide +kernel, rfl⟩
theorem fq_X12_75 : Fq RX12 75 11 49 true := ⟨_, _, _, tyX12, _, rfl, by decide, cws_11, tb_7 41 (by decide +kernel) (by decide +kernel), tyX12_ok, nmX12, rfl, fun _ => rfl, tyX12_ok 49 (by decide), by decide +kernel, fun _ => ⟨rfl, rfl⟩⟩
theorem zk_11_49 : kd 11 49 = 2 := by decide +kernel
theorem zr_206_49 : rr 206 49 = 221 := by decide +kernel
theorem qX12_init_129 : Dc mX12_init 129 (.aload_n 0) 1 130 := ⟨by decide +kernel, rfl⟩
theorem qX12_init_130 : Dc mX12_init 130 (.sipush 718) 3 133 := ⟨by decide +kernel, rfl⟩
theorem qX12_init_133 : Dc mX12_init 133 (.newarray .int) 2 135 := ⟨by decide +kernel, rfl⟩
theorem zs_222 : sh 222 = 20 := by decide +kernel
theorem zl_222 : ln 222 = 718 := by decide +kernel
theorem qX12_init_135 : Dc mX12_init 135 (.putfield 78) 3 138 := ⟨by decide +kernel, rfl⟩
theorem fq_X12_78 : Fq RX12 78 11 50 true := ⟨_, _, _, tyX12, _, rfl, by decide, cws_11, tb_7 42 (by decide +kernel) (by decide +kernel), tyX12_ok, nmX12, rfl, fun _ => rfl, tyX12_ok 50 (by decide), by decide +kernel, fun _ => ⟨rfl, rfl⟩⟩
theorem zk_11_50 : kd 11 50 = 2 := by decide +kernel
theorem zr_206_50 : rr 206 50 = 222 := by decide +kernel
theorem qX12_init_138 : Dc mX12_init 138 (.aload_n 0) 1 139 := ⟨by decide +kernel, rfl⟩
theorem qX12_init_139 : Dc mX12_init 139 (.bipush 24) 2 141 := ⟨by decide +kernel, rfl⟩
theorem qX12_init_141 : Dc mX12_init 141 (.newarray .long) 2 143 := ⟨by decide +kernel, rfl⟩
theorem zs_223 : sh 223 = 23 := by decide +kernel
theorem zl_223 : ln 223 = 24 := by decide +kernel
theorem qX12_init_143 : Dc mX12_init 143 (.putfield 81) 3 146 := ⟨by decide +kernel, rfl⟩
theorem fq_X12_81 : Fq RX12 81 11 51 true := ⟨_, _, _, tyX12, _, rfl, by decide, cws_11, tb_7 43 (by decide +kernel) (by decide +kernel), tyX12_ok, nmX12, rfl, fun _ => rfl, tyX12_ok 51 (by decide), by decide +kernel, fun _ => ⟨rfl, rfl⟩⟩
theorem zk_11_51 : kd 11 51 = 2 := by decide +kernel
theorem zr_206_51 : rr 206 51 = 223 := by decide +kernel
theorem qX12_init_146 : Dc mX12_init 146 (.aload_n 0) 1 147 := ⟨by decide +kernel, rfl⟩
theorem qX12_init_147 : Dc mX12_init 147 (.iconst 2) 1 148 := ⟨by decide +kernel, rfl⟩
theorem qX12_init_148 : Dc mX12_init 148 (.newarray .boolean) 2 150 := ⟨by decide +kernel, rfl⟩
theorem zs_224 : sh 224 = 21 := by decide +kernel
theorem zl_224 : ln 224 = 2 := by decide +kernel
theorem qX12_init_150 : Dc mX12_init 150 (.putfield 84) 3 153 := ⟨by decide +kernel, rfl⟩
theorem fq_X12_84 : Fq RX12 84 11 52 true := ⟨_, _, _, tyX12, _, rfl, by decide, cws_11, tb_7 44 (by decide +kernel) (by decide +kernel), tyX12_ok, nmX12, rfl, fun _ => rfl, tyX12_ok 52 (by decide), by decide +kernel, fun _ => ⟨rfl, rfl⟩⟩
theorem zk_11_52 : kd 11 52 = 2 := by decide +kernel
theorem zr_206_52 : rr 206 52 = 224 := by decide +kernel
theorem qX12_init_153 : Dc mX12_init 153 (.aload_n 0) 1 154 := ⟨by decide +kernel, rfl⟩
theorem qX12_init_154 : Dc mX12_init 154 (.getfield 47) 3 157 := ⟨by decide +kernel, rfl⟩
theorem qX12_init_157 : Dc mX12_init 157 (.iconst 0) 1 158 := ⟨by decide +kernel, rfl⟩
theorem qX12_init_158 : Dc mX12_init 158 (.ldc2_w 87) 3 161 := ⟨by decide +kernel, rfl⟩
theorem qX12_init_161 : Dc mX12_init 161 (.lastore) 1 162 := ⟨by decide +kernel, rfl⟩
theorem qX12_init_162 : Dc mX12_init 162 (.aload_n 0) 1 163 := ⟨by decide +kernel, rfl⟩
theorem qX12_init_163 : Dc mX12_init 163 (.getfield 47) 3 166 := ⟨by decide +kernel, rfl⟩
theorem qX12_init_166 : Dc mX12_init 166 (.iconst 1) 1 167 := ⟨by decide +kernel, rfl⟩
theorem qX12_init_167 : Dc mX12_init 167 (.ldc2_w 89) 3 170 := ⟨by decide +kernel, rfl⟩
theorem qX12_init_170 : Dc mX12_init 170 (.lastore) 1 171 := ⟨by decide +kernel, rfl⟩
theorem qX12_init_171 : Dc mX12_init 171 (.aload_n 0) 1 172 := ⟨by decide +kernel, rfl⟩
theorem qX12_init_172 : Dc mX12_init 172 (.getfield 47) 3 175 := ⟨by decide +kernel, rfl⟩
theorem qX12_init_175 : Dc mX12_init 175 (.iconst 2) 1 176 := ⟨by decide +kernel, rfl⟩
theorem qX12_init_176 : Dc mX12_init 176 (.ldc2_w 91) 3 179 := ⟨by decide +kernel, rfl⟩
theorem qX12_init_179 : Dc mX12_init 179 (.lastore) 1 180 := ⟨by decide +kernel, rfl⟩
theorem qX12_init_180 : Dc mX12_init 180 (.aload_n 0) 1 181 := ⟨by decide +kernel, rfl⟩
theorem qX12_init_181 : Dc mX12_init 181 (.getfield 47) 3 184 := ⟨by decide +kernel, rfl⟩
theorem qX12_init_184 : Dc mX12_init 184 (.iconst 3) 1 185 := ⟨by decide +kernel, rfl⟩
theorem qX12_init_185 : Dc mX12_init 185 (.ldc2_w 93) 3 188 := ⟨by decide +kernel, rfl⟩
theorem qX12_init_188 : Dc mX12_init 188 (.lastore) 1 189 := ⟨by decide +kernel, rfl⟩
theorem qX12_init_189 : Dc mX12_init 189 (.aload_n 0) 1 190 := ⟨by decide +kernel, rfl⟩
theorem qX12_init_190 : Dc mX12_init 190 (.getfield 47) 3 193 := ⟨by decide +kernel, rfl⟩
theorem qX12_init_193 : Dc mX12_init 193 (.iconst 4) 1 194 := ⟨by decide +kernel, rfl⟩
theorem qX12_init_194 : Dc mX12_init 194 (.ldc2_w 95) 3 197 := ⟨by decide +kernel, rfl⟩
theorem qX12_init_197 : Dc mX12_init 197 (.lastore) 1 198 := ⟨by decide +kernel, rfl⟩
theorem qX12_init_198 : Dc mX12_init 198 (.aload_n 0) 1 199 := ⟨by decide +kernel, rfl⟩
theorem qX12_init_199 : Dc mX12_init 199 (.getfield 47) 3 202 := ⟨by decide +kernel, rfl⟩
theorem qX12_init_202 : Dc mX12_init 202 (.iconst 5) 1 203 := ⟨by decide +kernel, rfl⟩
theorem qX12_init_203 : Dc mX12_init 203 (.ldc2_w 97) 3 206 := ⟨by decide +kernel, rfl⟩
theorem qX12_init_206 : Dc mX12_init 206 (.lastore) 1 207 := ⟨by decide +kernel, rfl⟩
theorem qX12_init_207 : Dc mX12_init 207 (.aload_n 0) 1 208 := ⟨by decide +kernel, rfl⟩
theorem qX12_init_208 : Dc mX12_init 208 (.getfield 47) 3 211 := ⟨by decide +kernel, rfl⟩
theorem qX12_init_211 : Dc mX12_init 211 (.bipush 6) 2 213 := ⟨by decide +kernel, rfl⟩
theorem qX12_init_213 : Dc mX12_init 213 (.ldc2_w 99) 3 216 := ⟨by decide +kernel, rfl⟩
theorem qX12_init_216 : Dc mX12_init 216 (.lastore) 1 217 := ⟨by decide +kernel, rfl⟩
theorem qX12_init_217 : Dc mX12_init 217 (.aload_n 0) 1 218 := ⟨by decide +kernel, rfl⟩
theorem qX12_init_218 : Dc mX12_init 218 (.getfield 47) 3 221 := ⟨by decide +kernel, rfl⟩
theorem qX12_init_221 : Dc mX12_init 221 (.bipush 7) 2 223 := ⟨by decide +kernel, rfl⟩
theorem qX12_init_223 : Dc mX12_init 223 (.ldc2_w 101) 3 226 := ⟨by decide +kernel, rfl⟩
theorem qX12_init_226 : Dc mX12_init 226 (.lastore) 1 227 := ⟨by decide +kernel, rfl⟩
theorem qX12_init_227 : Dc mX12_init 227 (.aload_n 0) 1 228 := ⟨by decide +kernel, rfl⟩
theorem qX12_init_228 : Dc mX12_init 228 (.getfield 47) 3 231 := ⟨by decide +kernel, rfl⟩
theorem qX12_init_231 : Dc mX12_init 231 (.bipush 8) 2 233 := ⟨by decide +kernel, rfl⟩
theorem qX12_init_233 : Dc mX12_init 233 (.ldc2_w 103) 3 236 := ⟨by decide +kernel, rfl⟩
theorem qX12_init_236 : Dc mX12_init 236 (.lastore) 1 237 := ⟨by decide +kernel, rfl⟩
theorem qX12_init_237 : Dc mX12_init 237 (.aload_n 0) 1 238 := ⟨by decide +kernel, rfl⟩
theorem qX12_init_238 : Dc mX12_init 238 (.getfield 47) 3 241 := ⟨by decide +kernel, rfl⟩
theorem qX12_init_241 : Dc mX12_init 241 (.bipush 9) 2 243 := ⟨by decide +kernel, rfl⟩
theorem qX12_init_243 : Dc mX12_init 243 (.ldc2_w 105) 3 246 := ⟨by decide +kernel, rfl⟩
theorem qX12_init_246 : Dc mX12_init 246 (.lastore) 1 247 := ⟨by decide +kernel, rfl⟩
theorem qX12_init_247 : Dc mX12_init 247 (.aload_n 0) 1 248 := ⟨by decide +kernel, rfl⟩
theorem qX12_init_248 : Dc mX12_init 248 (.getfield 47) 3 251 := ⟨by decide +kernel, rfl⟩
theorem qX12_init_251 : Dc mX12_init 251 (.bipush 10) 2 253 := ⟨by decide +kernel, rfl⟩
theorem qX12_init_253 : Dc mX12_init 253 (.ldc2_w 107) 3 256 := ⟨by decide +kernel, rfl⟩
theorem qX12_init_256 : Dc mX12_init 256 (.lastore) 1 257 := ⟨by decide +kernel, rfl⟩
theorem qX12_init_257 : Dc mX12_init 257 (.aload_n 0) 1 258 := ⟨by decide +kernel, rfl⟩
theorem qX12_init_258 : Dc mX12_init 258 (.getfield 47) 3 261 := ⟨by decide +kernel, rfl⟩
theorem qX12_init_261 : Dc mX12_init 261 (.bipush 11) 2 263 := ⟨by decide +kernel, rfl⟩
theorem qX12_init_263 : Dc mX12_init 263 (.ldc2_w 109) 3 266 := ⟨by decide +kernel, rfl⟩
theorem qX12_init_266 : Dc mX12_init 266 (.lastore) 1 267 := ⟨by decide +kernel, rfl⟩
theorem qX12_init_267 : Dc mX12_init 267 (.aload_n 0) 1 268 := ⟨by decide +kernel, rfl⟩
theorem qX12_init_268 : Dc mX12_init 268 (.getfield 47) 3 271 := ⟨by decide +kernel, rfl⟩
theorem qX12_init_271 : Dc mX12_init 271 (.bipush 12) 2 273 := ⟨by decide +kernel, rfl⟩
theorem qX12_init_273 : Dc mX12_init 273 (.ldc2_w 111) 3 276 := ⟨by decide +kernel, rfl⟩
theorem qX12_init_276 : Dc mX12_init 276 (.lastore) 1 277 := ⟨by decide +kernel, rfl⟩
theorem qX12_init_277 : Dc mX12_init 277 (.aload_n 0) 1 278 := ⟨by decide +kernel, rfl⟩
theorem qX12_init_278 : Dc mX12_init 278 (.getfield 47) 3 281 := ⟨by decide +kernel, rfl⟩
theorem qX12_init_281 : Dc mX12_init 281 (.bipush 13) 2 283 := ⟨by decide +kernel, rfl⟩
theorem qX12_init_283 : Dc mX12_init 283 (.ldc2_w 113) 3 286 := ⟨by decide +kernel, rfl⟩
theorem qX12_init_286 : Dc mX12_init 286 (.lastore) 1 287 := ⟨by decide +kernel, rfl⟩
theorem qX12_init_287 : Dc mX12_init 287 (.aload_n 0) 1 288 := ⟨by decide +kernel, rfl⟩
theorem qX12_init_288 : Dc mX12_init 288 (.getfield 47) 3 291 := ⟨by decide +kernel, rfl⟩
theorem qX12_init_291 : Dc mX12_init 291 (.bipush 14) 2 293 := ⟨by decide +kernel, rfl⟩
theorem qX12_init_293 : Dc mX12_init 293 (.ldc2_w 115) 3 296 := ⟨by decide +kernel, rfl⟩
theorem qX12_init_296 : Dc mX12_init 296 (.lastore) 1 297 := ⟨by decide +kernel, rfl⟩
theorem qX12_init_297 : Dc mX12_init 297 (.aload_n 0) 1 298 := ⟨by decide +kernel, rfl⟩
theorem qX12_init_298 : Dc mX12_init 298 (.getfield 47) 3 301 := ⟨by decide +kernel, rfl⟩
theorem qX12_init_301 : Dc mX12_init 301 (.bipush 15) 2 303 := ⟨by decide +kernel, rfl⟩
theorem qX12_init_303 : Dc mX12_init 303 (.ldc2_w 117) 3 306 := ⟨by decide +kernel, rfl⟩
theorem qX12_init_306 : Dc mX12_init 306 (.lastore) 1 307 := ⟨by decide +kernel, rfl⟩
theorem qX12_init_307 : Dc mX12_init 307 (.aload_n 0) 1 308 := ⟨by decide +kernel, rfl⟩
theorem qX12_init_308 : Dc mX12_init 308 (.getfield 47) 3 311 := ⟨by decide +kernel, rfl⟩
theorem qX12_init_311 : Dc mX12_init 311 (.bipush 16) 2 313 := ⟨by decide +kernel, rfl⟩
theorem qX12_init_313 : Dc mX12_init 313 (.ldc2_w 119) 3 316 := ⟨by decide +kernel, rfl⟩
theorem qX12_init_316 : Dc mX12_init 316 (.lastore) 1 317 := ⟨by decide +kernel, rfl⟩
theorem qX12_init_317 : Dc mX12_init 317 (.aload_n 0) 1 318 := ⟨by decide +kernel, rfl⟩
theorem qX12_init_318 : Dc mX12_init 318 (.getfield 47) 3 321 := ⟨by decide +kernel, rfl⟩
theorem qX12_init_321 : Dc mX12_init 321 (.bipush 17) 2 323 := ⟨by decide +kernel, rfl⟩
theorem qX12_init_323 : Dc mX12_init 323 (.ldc2_w 121) 3 326 := ⟨by decide +kernel, rfl⟩
theorem qX12_init_326 : Dc mX12_init 326 (.lastore) 1 327 := ⟨by decide +kernel, rfl⟩
theorem qX12_init_327 : Dc mX12_init 327 (.aload_n 0) 1 328 := ⟨by decide +kernel, rfl⟩
theorem qX12_init_328 : Dc mX12_init 328 (.getfield 47) 3 331 := ⟨by decide +kernel, rfl⟩
theorem qX12_init_331 : Dc mX12_init 331 (.bipush 18) 2 333 := ⟨by decide +kernel, rfl⟩
theorem qX12_init_333 : Dc mX12_init 333 (.ldc2_w 123) 3 336 := ⟨by decide +kernel, rfl⟩
theorem qX12_init_336 : Dc mX12_init 336 (.lastore) 1 337 := ⟨by decide +kernel, rfl⟩
theorem qX12_init_337 : Dc mX12_init 337 (.aload_n 0) 1 338 := ⟨by decide +kernel, rfl⟩
theorem qX12_init_338 : Dc mX12_init 338 (.getfield 47) 3 341 := ⟨by decide +kernel, rfl⟩
theorem qX12_init_341 : Dc mX12_init 341 (.bipush 19) 2 343 := ⟨by decide +kernel, rfl⟩
theorem qX12_init_343 : Dc mX12_init 343 (.ldc2_w 125) 3 346 := ⟨by decide +kernel, rfl⟩
theorem qX12_init_346 : Dc mX12_init 346 (.lastore) 1 347 := ⟨by decide +kernel, rfl⟩
theorem qX12_init_347 : Dc mX12_init 347 (.aload_n 0) 1 348 := ⟨by decide +kernel, rfl⟩
theorem qX12_init_348 : Dc mX12_init 348 (.getfield 47) 3 351 := ⟨by decide +kernel, rfl⟩
theorem qX12_init_351 : Dc mX12_init 351 (.bipush 20) 2 353 := ⟨by decide +kernel, rfl⟩
theorem qX12_init_353 : Dc mX12_init 353 (.ldc2_w 127) 3 356 := ⟨by decide +kernel, rfl⟩
theorem qX12_init_356 : Dc mX12_init 356 (.lastore) 1 357 := ⟨by decide +kernel, rfl⟩
theorem qX12_init_357 : Dc mX12_init 357 (.aload_n 0) 1 358 := ⟨by decide +kernel, rfl⟩
theorem qX12_init_358 : Dc mX12_init 358 (.getfield 47) 3 361 := ⟨by decide +kernel, rfl⟩
theorem qX12_init_361 : Dc mX12_init 361 (.bipush 21) 2 363 := ⟨by decide +kernel, rfl⟩
theorem qX12_init_363 : Dc mX12_init 363 (.ldc2_w 129) 3 366 := ⟨by decide +kernel, rfl⟩
theorem qX12_init_366 : Dc mX12_init 366 (.lastore) 1 367 := ⟨by decide +kernel, rfl⟩
theorem qX12_init_367 : Dc mX12_init 367 (.aload_n 0) 1 368 := ⟨by decide +kernel, rfl⟩
theorem qX12_init_368 : Dc mX12_init 368 (.getfield 47) 3 371 := ⟨by decide +kernel, rfl⟩
theorem qX12_init_371 : Dc mX12_init 371 (.bipush 22) 2 373 := ⟨by decide +kernel, rfl⟩
theorem qX12_init_373 : Dc mX12_init 373 (.ldc2_w 131) 3 376 := ⟨by decide +kernel, rfl⟩
theorem qX12_init_376 : Dc mX12_init 376 (.lastore) 1 377 := ⟨by decide +kernel, rfl⟩
theorem qX12_init_377 : Dc mX12_init 377 (.aload_n 0) 1 378 := ⟨by decide +kernel, rfl⟩
theorem qX12_init_378 : Dc mX12_init 378 (.getfield 47) 3 381 := ⟨by decide +kernel, rfl⟩
theorem qX12_init_381 : Dc mX12_init 381 (.bipush 23) 2 383 := ⟨by decide +kernel, rfl⟩
theorem qX12_init_383 : Dc mX12_init 383 (.ldc2_w 133) 3 386 := ⟨by decide +kernel, rfl⟩
theorem qX12_init_386 : Dc mX12_init 386 (.lastore) 1 387 := ⟨by decide +kernel, rfl⟩
theorem qX12_init_387 : Dc mX12_init 387 (.aload_n 0) 1 388 := ⟨by decide +kernel, rfl⟩
theorem qX12_init_388 : Dc mX12_init 388 (.getfield 47) 3 391 := ⟨by decide +kernel, rfl⟩
theorem qX12_init_391 : Dc mX12_init 391 (.bipush 24) 2 393 := ⟨by decide +kernel, rfl⟩
theorem qX12_init_393 : Dc mX12_init 393 (.ldc2_w 135) 3 396 := ⟨by decide +kernel, rfl⟩
theorem qX12_init_396 : Dc mX12_init 396 (.lastore) 1 397 := ⟨by decide +kernel, rfl⟩
theorem qX12_init_397 : Dc mX12_init 397 (.aload_n 0) 1 398 := ⟨by decide +kernel, rfl⟩
theorem qX12_init_398 : Dc mX12_init 398 (.getfield 47) 3 401 := ⟨by decide +kernel, rfl⟩
theorem qX12_init_401 : Dc mX12_init 401 (.bipush 25) 2 403 := ⟨by decide +kernel, rfl⟩
theorem qX12_init_403 : Dc mX12_init 403 (.ldc2_w 137) 3 406 := ⟨by decide +kernel, rfl⟩
theorem qX12_init_406 : Dc mX12_init 406 (.lastore) 1 407 := ⟨by decide +kernel, rfl⟩
theorem qX12_init_407 : Dc mX12_init 407 (.aload_n 0) 1 408 := ⟨by decide +kernel, rfl⟩
theorem qX12_init_408 : Dc mX12_init 408 (.getfield 47) 3 411 := ⟨by decide +kernel, rfl⟩
theorem qX12_init_411 : Dc mX12_init 411 (.bipush 26) 2 413 := ⟨by decide +kernel, rfl⟩
theorem qX12_init_413 : Dc mX12_init 413 (.ldc2_w 139) 3 416 := ⟨by decide +kernel, rfl⟩
theorem qX12_init_416 : Dc mX12_init 416 (.lastore) 1 417 := ⟨by decide +kernel, rfl⟩
theorem qX12_init_417 : Dc mX12_init 417 (.aload_n 0) 1 418 := ⟨by decide +kernel, rfl⟩
theorem qX12_init_418 : Dc mX12_init 418 (.invokevirtual 141) 3 421 := ⟨by decide +kernel, rfl⟩
theorem qX12_init_421 : Dc mX12_init 421 (.iconst 0) 1 422 := ⟨by decide +kernel, rfl⟩
theorem qX12_init_422 : Dc mX12_init 422 (.istore_n 1) 1 423 := ⟨by decide +kernel, rfl⟩
set_option maxRecDepth 20000 in
set_option maxHeartbeats 4000000 in
theorem kb_X12_init {σ : St} {L : List (Nat × Nat)} (hz8 : ∀ k, σ.1 208 k = nI 0) (hz9 : ∀ k, σ.1 209 k = nI 0) : BCt mX12_init 2 [.ref 206] 207 σ (nuL L) (225, sI (sI (sI ((sL (sL (sL (sL (sL (sL (sL (sL (sL (sL (sL (sL (sL (sL (sL (sL (sL (sL (sL (sL (sL (sL (sL (sL (sL (sL (sL (σ) 212 0 (465624852596)) 212 1 (439904990056)) 212 2 (1718775661)) 212 3 (1684107883)) 212 4 (1936222576)) 212 5 (1751218789)) 212 6 (512852849765)) 212 7 (7497060)) 212 8 (444300879214)) 212 9 (431366697829)) 212 10 (118100567813221)) 212 11 (1718185068)) 212 12 (495672977012)) 212 13 (495874041202)) 212 14 (126879297138276)) 212 15 (28530)) 212 16 (6385252)) 212 17 (7237492)) 212 18 (7304564)) 212 19 (32484424354983527)) 212 20 (439856162148)) 212 21 (1818848101)) 212 22 (25209)) 212 23 (7301484)) 212 24 (123581013520228)) 212 25 (491260897125)) 212 26 (121450625394034))) 209 2 (nI 30)) 208 2 (nI 30)) 208 149 (nI 30), nuL ((206, 52) :: (206, 51) :: (206, 50) :: (206, 49) :: (206, 43) :: (206, 41) :: (206, 37) :: (206, 29) :: (206, 28) :: (206, 25) :: (206, 23) :: (206, 22) :: (206, 10) :: (206, 9) :: (206, 8) :: (206, 7) :: (206, 6) :: (206, 1) :: L)) := by
  refine BCt.ofE (by decide +kernel) rfl rfl ⟨Nat.le_of_ble_eq_true rfl, Nat.le_of_ble_eq_true rfl⟩ ?_
  show BE mX12_init 2 207 (225, sI (sI (sI ((sL (sL (sL (sL (sL (sL (sL (sL (sL (sL (sL (sL (sL (sL (sL (sL (sL (sL (sL (sL (sL (sL (sL (sL (sL (sL (sL (σ) 212 0 (465624852596)) 212 1 (439904990056)) 212 2 (1718775661)) 212 3 (1684107883)) 212 4 (1936222576)) 212 5 (1751218789)) 212 6 (512852849765)) 212 7 (7497060)) 212 8 (444300879214)) 212 9 (431366697829)) 212 10 (118100567813221)) 212 11 (1718185068)) 212 12 (495672977012)) 212 13 (495874041202)) 212 14 (126879297138276)) 212 15 (28530)) 212 16 (6385252)) 212 17 (7237492)) 212 18 (7304564)) 212 19 (32484424354983527)) 212 20 (439856162148)) 212 21 (1818848101)) 212 22 (25209)) 212 23 (7301484)) 212 24 (123581013520228)) 212 25 (491260897125)) 212 26 (121450625394034))) 209 2 (nI 30)) 208 2 (nI 30)) 208 149 (nI 30), nuL ((206, 52) :: (206, 51) :: (206, 50) :: (206, 49) :: (206, 43) :: (206, 41) :: (206, 37) :: (206, 29) :: (206, 28) :: (206, 25) :: (206, 23) :: (206, 22) :: (206, 10) :: (206, 9) :: (206, 8) :: (206, 7) :: (206, 6) :: (206, 1) :: L)) 0 [some (.ref 206), none] [] 207 σ (nuL L)
  refine b_aload_n qX12_init_0 rfl ?_
  refine b_obj qX12_init_1 ob_X12_27.1 ob_X12_27.2.1 ob_X12_27.2.2 rfl rfl ?_
  refine b_aload_n qX12_init_4 rfl ?_
  refine b_sipush (nI 940) qX12_init_5 (by decide +kernel) ?_
  refine b_newaB qX12_init_8 ar_byte zs_207 zl_207 rfl (Nat.le_of_ble_eq_true rfl) ?_
  refine b_putrL qX12_init_10 fq_X12_14 rfl zs_206 zk_11_1 zr_206_1 (by decide) ?_
  refine b_aload_n qX12_init_13 rfl ?_
  refine b_sipush (nI 359) qX12_init_14 (by decide +kernel) ?_
  refine b_newaI qX12_init_17 ar_int zs_208 zl_208 rfl (Nat.le_of_ble_eq_true rfl) ?_
  refine b_putrL qX12_init_19 fq_X12_33 rfl zs_206 zk_11_6 zr_206_6 (by decide) ?_
  refine b_aload_n qX12_init_22 rfl ?_
  refine b_sipush (nI 147) qX12_init_23 (by decide +kernel) ?_
  refine b_newaI qX12_init_26 ar_int zs_209 zl_209 rfl (Nat.le_of_ble_eq_true rfl) ?_
  refine b_putrL qX12_init_28 fq_X12_37 rfl zs_206 zk_11_7 zr_206_7 (by decide) ?_
  refine b_aload_n qX12_init_31 rfl ?_
  refine b_sipush (nI 135) qX12_init_32 (by decide +kernel) ?_
  refine b_newaI qX12_init_35 ar_int zs_210 zl_210 rfl (Nat.le_of_ble_eq_true rfl) ?_
  refine b_putrL qX12_init_37 fq_X12_40 rfl zs_206 zk_11_8 zr_206_8 (by decide) ?_
  refine b_aload_n qX12_init_40 rfl ?_
  refine b_bipush (nI 24) qX12_init_41 (by decide +kernel) ?_
  refine b_newaJ qX12_init_43 ar_long zs_211 zl_211 rfl (Nat.le_of_ble_eq_true rfl) ?_
  refine b_putrL qX12_init_45 fq_X12_43 rfl zs_206 zk_11_9 zr_206_9 (by decide) ?_
  refine b_aload_n qX12_init_48 rfl ?_
  refine b_bipush (nI 27) qX12_init_49 (by decide +kernel) ?_
  refine b_newaJ qX12_init_51 ar_long zs_212 zl_212 rfl (Nat.le_of_ble_eq_true rfl) ?_
  refine b_putrL qX12_init_53 fq_X12_47 rfl zs_206 zk_11_10 zr_206_10 (by decide) ?_
  refine b_aload_n qX12_init_56 rfl ?_
  refine b_sipush (nI 248) qX12_init_57 (by decide +kernel) ?_
  refine b_newaI qX12_init_60 ar_int zs_213 zl_213 rfl (Nat.le_of_ble_eq_true rfl) ?_
  refine b_putrL qX12_init_62 fq_X12_50 rfl zs_206 zk_11_22 zr_206_22 (by decide) ?_
  refine b_aload_n qX12_init_65 rfl ?_
  refine b_bipush (nI 31) qX12_init_66 (by decide +kernel) ?_
  refine b_newaI qX12_init_68 ar_int zs_214 zl_214 rfl (Nat.le_of_ble_eq_true rfl) ?_
  refine b_putrL qX12_init_70 fq_X12_53 rfl zs_206 zk_11_23 zr_206_23 (by decide) ?_
  refine b_aload_n qX12_init_73 rfl ?_
  refine b_bipush (nI 8) qX12_init_74 (by decide +kernel) ?_
  refine b_newaI qX12_init_76 ar_int zs_215 zl_215 rfl (Nat.le_of_ble_eq_true rfl) ?_
  refine b_putrL qX12_init_78 fq_X12_56 rfl zs_206 zk_11_25 zr_206_25 (by decide) ?_
  refine b_aload_n qX12_init_81 rfl ?_
  refine b_sipush (nI 160) qX12_init_82 (by decide +kernel) ?_
  refine b_newaZ qX12_init_85 ar_boolean zs_216 zl_216 rfl (Nat.le_of_ble_eq_true rfl) ?_
  refine b_putrL qX12_init_87 fq_X12_59 rfl zs_206 zk_11_28 zr_206_28 (by decide) ?_
  refine b_aload_n qX12_init_90 rfl ?_
  refine b_bipush (nI 8) qX12_init_91 (by decide +kernel) ?_
  refine b_newaI qX12_init_93 ar_int zs_217 zl_217 rfl (Nat.le_of_ble_eq_true rfl) ?_
  refine b_putrL qX12_init_95 fq_X12_63 rfl zs_206 zk_11_29 zr_206_29 (by decide) ?_
  refine b_aload_n qX12_init_98 rfl ?_
  refine b_bipush (nI 40) qX12_init_99 (by decide +kernel) ?_
  refine b_newaB qX12_init_101 ar_byte zs_218 zl_218 rfl (Nat.le_of_ble_eq_true rfl) ?_
  refine b_putrL qX12_init_103 fq_X12_66 rfl zs_206 zk_11_37 zr_206_37 (by decide) ?_
  refine b_aload_n qX12_init_106 rfl ?_
  refine b_iconst (nI 4) qX12_init_107 (by decide +kernel) ?_
  refine b_newaI qX12_init_108 ar_int zs_219 zl_219 rfl (Nat.le_of_ble_eq_true rfl) ?_
  refine b_putrL qX12_init_110 fq_X12_69 rfl zs_206 zk_11_41 zr_206_41 (by decide) ?_
  refine b_aload_n qX12_init_113 rfl ?_
  refine b_bipush (nI 45) qX12_init_114 (by decide +kernel) ?_
  refine b_newaI qX12_init_116 ar_int zs_220 zl_220 rfl (Nat.le_of_ble_eq_true rfl) ?_
  refine b_putrL qX12_init_118 fq_X12_72 rfl zs_206 zk_11_43 zr_206_43 (by decide) ?_
  refine b_aload_n qX12_init_121 rfl ?_
  refine b_bipush (nI 45) qX12_init_122 (by decide +kernel) ?_
  refine b_newaZ qX12_init_124 ar_boolean zs_221 zl_221 rfl (Nat.le_of_ble_eq_true rfl) ?_
  refine b_putrL qX12_init_126 fq_X12_75 rfl zs_206 zk_11_49 zr_206_49 (by decide) ?_
  refine b_aload_n qX12_init_129 rfl ?_
  refine b_sipush (nI 718) qX12_init_130 (by decide +kernel) ?_
  refine b_newaI qX12_init_133 ar_int zs_222 zl_222 rfl (Nat.le_of_ble_eq_true rfl) ?_
  refine b_putrL qX12_init_135 fq_X12_78 rfl zs_206 zk_11_50 zr_206_50 (by decide) ?_
  refine b_aload_n qX12_init_138 rfl ?_
  refine b_bipush (nI 24) qX12_init_139 (by decide +kernel) ?_
  refine b_newaJ qX12_init_141 ar_long zs_223 zl_223 rfl (Nat.le_of_ble_eq_true rfl) ?_
  refine b_putrL qX12_init_143 fq_X12_81 rfl zs_206 zk_11_51 zr_206_51 (by decide) ?_
  refine b_aload_n qX12_init_146 rfl ?_
  refine b_iconst (nI 2) qX12_init_147 (by decide +kernel) ?_
  refine b_newaZ qX12_init_148 ar_boolean zs_224 zl_224 rfl (Nat.le_of_ble_eq_true rfl) ?_
  refine b_putrL qX12_init_150 fq_X12_84 rfl zs_206 zk_11_52 zr_206_52 (by decide) ?_
  refine b_aload_n qX12_init_153 rfl ?_
  refine b_getr 212 qX12_init_154 fl_X12_47 zs_206 zk_11_10 (by decide) zr_206_10 rfl ?_
  refine b_iconst (nI 0) qX12_init_157 (by decide +kernel) ?_
  refine b_ldc2 (465624852596) qX12_init_158 cw_X12_87 ?_
  refine b_last qX12_init_161 zs_212 zl_212 (by decide) rfl (by decide) ?_
  refine b_aload_n qX12_init_162 rfl ?_
  refine b_getr 212 qX12_init_163 fl_X12_47 zs_206 zk_11_10 (by decide) zr_206_10 rfl ?_
  refine b_iconst (nI 1) qX12_init_166 (by decide +kernel) ?_
  refine b_ldc2 (439904990056) qX12_init_167 cw_X12_89 ?_
  refine b_last qX12_init_170 zs_212 zl_212 (by decide) rfl (by decide) ?_
  refine b_aload_n qX12_init_171 rfl ?_
  refine b_getr 212 qX12_init_172 fl_X12_47 zs_206 zk_11_10 (by decide) zr_206_10 rfl ?_
  refine b_iconst (nI 2) qX12_init_175 (by decide +kernel) ?_
  refine b_ldc2 (1718775661) qX12_init_176 cw_X12_91 ?_
  refine b_last qX12_init_179 zs_212 zl_212 (by decide) rfl (by decide) ?_
  refine b_aload_n qX12_init_180 rfl ?_
  refine b_getr 212 qX12_init_181 fl_X12_47 zs_206 zk_11_10 (by decide) zr_206_10 rfl ?_
  refine b_iconst (nI 3) qX12_init_184 (by decide +kernel) ?_
  refine b_ldc2 (1684107883) qX12_init_185 cw_X12_93 ?_
  refine b_last qX12_init_188 zs_212 zl_212 (by decide) rfl (by decide) ?_
  refine b_aload_n qX12_init_189 rfl ?_
  refine b_getr 212 qX12_init_190 fl_X12_47 zs_206 zk_11_10 (by decide) zr_206_10 rfl ?_
  refine b_iconst (nI 4) qX12_init_193 (by decide +kernel) ?_
  refine b_ldc2 (1936222576) qX12_init_194 cw_X12_95 ?_
  refine b_last qX12_init_197 zs_212 zl_212 (by decide) rfl (by decide) ?_
  refine b_aload_n qX12_init_198 rfl ?_
  refine b_getr 212 qX12_init_199 fl_X12_47 zs_206 zk_11_10 (by decide) zr_206_10 rfl ?_
  refine b_iconst (nI 5) qX12_init_202 (by decide +kernel) ?_
  refine b_ldc2 (1751218789) qX12_init_203 cw_X12_97 ?_
  refine b_last qX12_init_206 zs_212 zl_212 (by decide) rfl (by decide) ?_
  refine b_aload_n qX12_init_207 rfl ?_
  refine b_getr 212 qX12_init_208 fl_X12_47 zs_206 zk_11_10 (by decide) zr_206_10 rfl ?_
  refine b_bipush (nI 6) qX12_init_211 (by decide +kernel) ?_
  refine b_ldc2 (512852849765) qX12_init_213 cw_X12_99 ?_
  refine b_last qX12_init_216 zs_212 zl_212 (by decide) rfl (by decide) ?_
  refine b_aload_n qX12_init_217 rfl ?_
  refine b_getr 212 qX12_init_218 fl_X12_47 zs_206 zk_11_10 (by decide) zr_206_10 rfl ?_
  refine b_bipush (nI 7) qX12_init_221 (by decide +kernel) ?_
  refine b_ldc2 (7497060) qX12_init_223 cw_X12_101 ?_
  refine b_last qX12_init_226 zs_212 zl_212 (by decide) rfl (by decide) ?_
  refine b_aload_n qX12_init_227 rfl ?_
  refine b_getr 212 qX12_init_228 fl_X12_47 zs_206 zk_11_10 (by decide) zr_206_10 rfl ?_
  refine b_bipush (nI 8) qX12_init_231 (by decide +kernel) ?_
  refine b_ldc2 (444300879214) qX12_init_233 cw_X12_103 ?_
  refine b_last qX12_init_236 zs_212 zl_212 (by decide) rfl (by decide) ?_
  refine b_aload_n qX12_init_237 rfl ?_
  refine b_getr 212 qX12_init_238 fl_X12_47 zs_206 zk_11_10 (by decide) zr_206_10 rfl ?_
  refine b_bipush (nI 9) qX12_init_241 (by decide +kernel) ?_
  refine b_ldc2 (431366697829) qX12_init_243 cw_X12_105 ?_
  refine b_last qX12_init_246 zs_212 zl_212 (by decide) rfl (by decide) ?_
  refine b_aload_n qX12_init_247 rfl ?_
  refine b_getr 212 qX12_init_248 fl_X12_47 zs_206 zk_11_10 (by decide) zr_206_10 rfl ?_
  refine b_bipush (nI 10) qX12_init_251 (by decide +kernel) ?_
  refine b_ldc2 (118100567813221) qX12_init_253 cw_X12_107 ?_
  refine b_last qX12_init_256 zs_212 zl_212 (by decide) rfl (by decide) ?_
  refine b_aload_n qX12_init_257 rfl ?_
  refine b_getr 212 qX12_init_258 fl_X12_47 zs_206 zk_11_10 (by decide) zr_206_10 rfl ?_
  refine b_bipush (nI 11) qX12_init_261 (by decide +kernel) ?_
  refine b_ldc2 (1718185068) qX12_init_263 cw_X12_109 ?_
  refine b_last qX12_init_266 zs_212 zl_212 (by decide) rfl (by decide) ?_
  refine b_aload_n qX12_init_267 rfl ?_
  refine b_getr 212 qX12_init_268 fl_X12_47 zs_206 zk_11_10 (by decide) zr_206_10 rfl ?_
  refine b_bipush (nI 12) qX12_init_271 (by decide +kernel) ?_
  refine b_ldc2 (495672977012) qX12_init_273 cw_X12_111 ?_
  refine b_last qX12_init_276 zs_212 zl_212 (by decide) rfl (by decide) ?_
  refine b_aload_n qX12_init_277 rfl ?_
  refine b_getr 212 qX12_init_278 fl_X12_47 zs_206 zk_11_10 (by decide) zr_206_10 rfl ?_
  refine b_bipush (nI 13) qX12_init_281 (by decide +kernel) ?_
  refine b_ldc2 (495874041202) qX12_init_283 cw_X12_113 ?_
  refine b_last qX12_init_286 zs_212 zl_212 (by decide) rfl (by decide) ?_
  refine b_aload_n qX12_init_287 rfl ?_
  refine b_getr 212 qX12_init_288 fl_X12_47 zs_206 zk_11_10 (by decide) zr_206_10 rfl ?_
  refine b_bipush (nI 14) qX12_init_291 (by decide +kernel) ?_
  refine b_ldc2 (126879297138276) qX12_init_293 cw_X12_115 ?_
  refine b_last qX12_init_296 zs_212 zl_212 (by decide) rfl (by decide) ?_
  refine b_aload_n qX12_init_297 rfl ?_
  refine b_getr 212 qX12_init_298 fl_X12_47 zs_206 zk_11_10 (by decide) zr_206_10 rfl ?_
  refine b_bipush (nI 15) qX12_init_301 (by decide +kernel) ?_
  refine b_ldc2 (28530) qX12_init_303 cw_X12_117 ?_
  refine b_last qX12_init_306 zs_212 zl_212 (by decide) rfl (by decide) ?_
  refine b_aload_n qX12_init_307 rfl ?_
  refine b_getr 212 qX12_init_308 fl_X12_47 zs_206 zk_11_10 (by decide) zr_206_10 rfl ?_
  refine b_bipush (nI 16) qX12_init_311 (by decide +kernel) ?_
  refine b_ldc2 (6385252) qX12_init_313 cw_X12_119 ?_
  refine b_last qX12_init_316 zs_212 zl_212 (by decide) rfl (by decide) ?_
  refine b_aload_n qX12_init_317 rfl ?_
  refine b_getr 212 qX12_init_318 fl_X12_47 zs_206 zk_11_10 (by decide) zr_206_10 rfl ?_
  refine b_bipush (nI 17) qX12_init_321 (by decide +kernel) ?_
  refine b_ldc2 (7237492) qX12_init_323 cw_X12_121 ?_
  refine b_last qX12_init_326 zs_212 zl_212 (by decide) rfl (by decide) ?_
  refine b_aload_n qX12_init_327 rfl ?_
  refine b_getr 212 qX12_init_328 fl_X12_47 zs_206 zk_11_10 (by decide) zr_206_10 rfl ?_
  refine b_bipush (nI 18) qX12_init_331 (by decide +kernel) ?_
  refine b_ldc2 (7304564) qX12_init_333 cw_X12_123 ?_
  refine b_last qX12_init_336 zs_212 zl_212 (by decide) rfl (by decide) ?_
  refine b_aload_n qX12_init_337 rfl ?_
  refine b_getr 212 qX12_init_338 fl_X12_47 zs_206 zk_11_10 (by decide) zr_206_10 rfl ?_
  refine b_bipush (nI 19) qX12_init_341 (by decide +kernel) ?_
  refine b_ldc2 (32484424354983527) qX12_init_343 cw_X12_125 ?_
  refine b_last qX12_init_346 zs_212 zl_212 (by decide) rfl (by decide) ?_
  refine b_aload_n qX12_init_347 rfl ?_
  refine b_getr 212 qX12_init_348 fl_X12_47 zs_206 zk_11_10 (by decide) zr_206_10 rfl ?_
  refine b_bipush (nI 20) qX12_init_351 (by decide +kernel) ?_
  refine b_ldc2 (439856162148) qX12_init_353 cw_X12_127 ?_
  refine b_last qX12_init_356 zs_212 zl_212 (by decide) rfl (by decide) ?_
  refine b_aload_n qX12_init_357 rfl ?_
  refine b_getr 212 qX12_init_358 fl_X12_47 zs_206 zk_11_10 (by decide) zr_206_10 rfl ?_
  refine b_bipush (nI 21) qX12_init_361 (by decide +kernel) ?_
  refine b_ldc2 (1818848101) qX12_init_363 cw_X12_129 ?_
  refine b_last qX12_init_366 zs_212 zl_212 (by decide) rfl (by decide) ?_
  refine b_aload_n qX12_init_367 rfl ?_
  refine b_getr 212 qX12_init_368 fl_X12_47 zs_206 zk_11_10 (by decide) zr_206_10 rfl ?_
  refine b_bipush (nI 22) qX12_init_371 (by decide +kernel) ?_
  refine b_ldc2 (25209) qX12_init_373 cw_X12_131 ?_
  refine b_last qX12_init_376 zs_212 zl_212 (by decide) rfl (by decide) ?_
  refine b_aload_n qX12_init_377 rfl ?_
  refine b_getr 212 qX12_init_378 fl_X12_47 zs_206 zk_11_10 (by decide) zr_206_10 rfl ?_
  refine b_bipush (nI 23) qX12_init_381 (by decide +kernel) ?_
  refine b_ldc2 (7301484) qX12_init_383 cw_X12_133 ?_
  refine b_last qX12_init_386 zs_212 zl_212 (by decide) rfl (by decide) ?_
  refine b_aload_n qX12_init_387 rfl ?_
  refine b_getr 212 qX12_init_388 fl_X12_47 zs_206 zk_11_10 (by decide) zr_206_10 rfl ?_
  refine b_bipush (nI 24) qX12_init_391 (by decide +kernel) ?_
  refine b_ldc2 (123581013520228) qX12_init_393 cw_X12_135 ?_
  refine b_last qX12_init_396 zs_212 zl_212 (by decide) rfl (by decide) ?_
  refine b_aload_n qX12_init_397 rfl ?_
  refine b_getr 212 qX12_init_398 fl_X12_47 zs_206 zk_11_10 (by decide) zr_206_10 rfl ?_
  refine b_bipush (nI 25) qX12_init_401 (by decide +kernel) ?_
  refine b_ldc2 (491260897125) qX12_init_403 cw_X12_137 ?_
  refine b_last qX12_init_406 zs_212 zl_212 (by decide) rfl (by decide) ?_
  refine b_aload_n qX12_init_407 rfl ?_
  refine b_getr 212 qX12_init_408 fl_X12_47 zs_206 zk_11_10 (by decide) zr_206_10 rfl ?_
  refine b_bipush (nI 26) qX12_init_411 (by decide +kernel) ?_
  refine b_ldc2 (121450625394034) qX12_init_413 cw_X12_139 ?_
  refine b_last qX12_init_416 zs_212 zl_212 (by decide) rfl (by decide) ?_
  refine b_aload_n qX12_init_417 rfl ?_
  refine b_call qX12_init_418 mv_X12_141 zs_206 (by decide) rfl rfl (kb_X12_clears (hz9) rfl) (Nat.le_of_ble_eq_true rfl) ?_
  dsimp only
  refine b_iconst (nI 0) qX12_init_421 (by decide +kernel) ?_
  refine b_istore_n (lv2 := [some (.ref 206), some (.int (nI 0))]) qX12_init_422 rfl rfl rfl ?_
  exact kl_X12s (fun k => hz8 k) (fun k => (sI_rw2).trans (congrArg (fun z => if k = 2 then nI 30 else z) (hz9 k))) rfl rfl rfl
