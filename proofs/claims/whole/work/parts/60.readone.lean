/-! the reader of one operand: both sides -/
def cIn (N : Nat) (rec : Nat → Int32 → St → Option (Int32 × St)) (x3 v1 v2 : Int32) (s10 : St) : Option (Int32 × St) :=
      if v2 = 0 then
        if v1 = (nI 2) then
          bd (rec 66 (x3 + (nI 1)) s10) fun v11 s12 =>
          jn (fun (s13 : St) =>
            some ((nI 0), s13)) fun j14 =>
          if v11 = 0 then
            j14 s12
          else
          bd (f_X7_add 66 (nI 2) (nI 0) (nI 0) s12) fun v15 s16 =>
          if v15 = 0 then
            j14 s16
          else
          some ((nI 1), s16)
        else
        bd (f_X7_readPlain N 66 v1 s10) fun v17 s18 =>
        rz v17 <|
        some (v17, s18)
      else
      bd (f_X7_readCondition N rec 66 (x3 + (nI 1)) s10) fun v19 s20 =>
      jn (fun (s21 : St) =>
        some ((nI 0), s21)) fun j22 =>
      if v19 = 0 then
        j22 s20
      else
      bd (f_X9_takeSign N (nI 41) s20) fun v23 s24 =>
      if v23 = 0 then
        j22 s24
      else
      some ((nI 1), s24)
def mIn (N : Nat) (v1 v2 v3 : Int32) (s12 : St) : Option (Int32 × St) := jn (mPush v1 s12) fun j13 =>
      if v1 = 0 then
        if v2 = 0 then
          mLf N v3 s12
        else
        j13
      else
      j13
section Ro
variable {N n L m0 m1 : Nat} {B : Nat → Nat} {k12 : St → Option (Int32 × St)} {rec : Nat → Int32 → St → Option (Int32 × St)}
theorem SE_q {σ τ : St} {q c h : Nat} {K : Nat → Nat} (E : SE σ τ m0 m1 q c h K) (hq : q < 20) : SE (sI σ 66 0 (nI (q + 1))) (sI τ 206 45 (nI (q + 1))) m0 m1 (q + 1) c h K := by
  obtain ⟨a1, ⟨b1, b2, b3⟩, ⟨c1, c2, c3⟩, d1, e1⟩ := E
  refine ⟨ChN_w a1 (fun b h1 h2 => ⟨sI_ne (by omega), rfl⟩) (sI_ne (by decide)) rfl rfl, ⟨by rw [sI1, if_pos rfl, if_pos rfl], by rw [sI1, if_pos rfl, if_pos rfl], by omega⟩, ⟨by rw [sI1, if_pos rfl, if_neg (by decide)]; exact c1, by rw [sI1, if_pos rfl, if_neg (by decide)]; exact c2, c3⟩, d1, fun i hi => ?_⟩
  obtain ⟨u, v, r⟩ := e1 i hi
  refine ⟨u, v, ?_⟩
  rw [sI_ne (by decide), sI_ne (by decide), sI_ne (by decide), sI_ne (by decide)]
  exact r
theorem p_step {σ τ : St} {k a b cc d v q c h z x : Nat} {K Z : Nat → Nat} (hN : 1000 ≤ N) (H : PR σ τ n L B k a b cc d v) (hk : k = 1 ∨ k = 2 ∨ k = 3) (E : SE σ τ m0 m1 q c h K) (S : ZS τ z x 0 Z) (hq : q < 20) : ∃ σ1 τ1, f_X9_next N (sI σ 66 0 (nI (q + 1))) = some σ1 ∧ f_X12_next N (sI τ 206 45 (nI (q + 1))) = some τ1 ∧ SE σ1 τ1 m0 m1 (q + 1) c h K ∧ ZS τ1 z x 0 Z ∧ EPR n L B σ1 τ1 ∧ MqS τ τ1 := by
  have P1 : PR (sI σ 66 0 (nI (q + 1))) (sI τ 206 45 (nI (q + 1))) n L B k a b cc d v := PR_K (PR_c (τ' := τ) H (σ' := sI σ 66 0 (nI (q + 1))) (sI_ne (by decide)) (sI_ne (by decide)) rfl rfl rfl rfl) (FK.rf (ks := [])) (fun x hx => absurd hx List.not_mem_nil) (FK.rf.sI (ks := [45]) (by decide)) (by decide)
  obtain ⟨σ1, τ1, e1, e2, f1, f2, k', a', b', c', d', v', P2, _⟩ := p_next hN P1 hk
  obtain ⟨h1, h2, h3, h4, r⟩ := S
  refine ⟨σ1, τ1, e1, e2, SE_K (SE_q E hq) f1 f2 (by decide) (by decide), ⟨?_, ?_, ?_, fun i hi => ?_, r⟩, ⟨k', a', b', c', d', v', P2⟩, fun b b1 _ _ => ⟨(f2.1 b b1).1.trans (sI_ne b1), (f2.1 b b1).2⟩⟩
  · rw [(f2.2 46 (by decide)).1, sI1, if_pos rfl, if_neg (by decide)]; exact h1
  · rw [(f2.2 47 (by decide)).1, sI1, if_pos rfl, if_neg (by decide)]; exact h2
  · rw [(f2.2 48 (by decide)).1, sI1, if_pos rfl, if_neg (by decide)]; exact h3
  · rw [(f2.1 220 (by decide)).1, sI_ne (by decide)]; exact h4 i hi
theorem p_hold {σ τ : St} {q c h z x o : Nat} {K Z : Nat → Nat} {v1 : Int32} (ep : EPR n L B σ τ) (E : SE σ τ m0 m1 q c h K) (S : ZS τ z x 0 Z) (hz : z ≤ 39) (hx : x ≤ 19) (ho : (v1 = nI 0 ∧ o = 23) ∨ (v1 = nI 1 ∧ o = 20)) : ∃ τ1, mPush v1 τ = some (nI 1, τ1) ∧ SE σ τ1 m0 m1 q c h K ∧ ZS τ1 (z + 1) (x + 1) 0 (put Z z o) ∧ EPR n L B σ τ1 ∧ MqS τ τ1 := by
  obtain ⟨h1, h2, h3, h4, h5, h6, h7⟩ := S
  obtain ⟨k, a, b, cc, d, v, H⟩ := ep
  have P1 : PR σ (sI τ 220 z (nI o)) n L B k a b cc d v := PR_c H rfl rfl rfl (sI_ne (by decide)) (sI_ne (by decide)) rfl
  have P2 : PR σ (sI (sI (sI τ 220 z (nI o)) 206 46 (nI (z + 1))) 206 47 (nI (x + 1))) n L B k a b cc d v := PR_K P1 (FK.rf (ks := [])) (fun x hx => absurd hx List.not_mem_nil) ((FK.rf.sI (ks := [46, 47]) (by decide)).sI (by decide)) (by decide)
  have E2 := SE_48 (SE_48 (SE_w (τ' := sI τ 220 z (nI o)) E (fun _ _ => ⟨rfl, rfl⟩) (sI_ne (by decide)) (sI_ne (by decide)) rfl rfl (by rw [sI_ne (by decide)]) (by rw [sI_ne (by decide)])) 46 (nI (z + 1)) (by decide)) 47 (nI (x + 1)) (by decide)
  refine ⟨_, ?_, E2, ⟨?_, ?_, ?_, fun i hi => ?_, by omega, by omega, by omega⟩, ⟨k, a, b, cc, d, v, P2⟩, fun b b1 _ b3 => ⟨(sI_ne b1).trans ((sI_ne b1).trans (sI_ne b3)), rfl⟩⟩
  · have st : (ald (fun j => sI τ 220 j (nI o)) 45 (nI z) fun s17 => vl (s17.1 206 46) fun v18 => vl (sI s17 206 46 (v18 + (nI 1))) fun s19 => vl (s19.1 206 47) fun v20 => vl (sI s19 206 47 (v20 + (nI 1))) fun s21 => some ((nI 1), s21)) = some (nI 1, sI (sI (sI τ 220 z (nI o)) 206 46 (nI (z + 1))) 206 47 (nI (x + 1))) := by
      rw [ald_q (by omega) (by decide), vl_q, sI_ne (by decide), h1, nI_addq, vl_q, vl_q, sI1, if_pos rfl, if_neg (by decide), sI_ne (by decide), h2, nI_addq, vl_q]
    unfold mPush
    rw [vl_q, h1]
    refine (jn_q _ _).trans ?_
    rcases ho with ⟨e, e'⟩ | ⟨e, e'⟩
    · rw [e, if_pos (by decide), ← e']; exact st
    · rw [e, if_one, ← e']; exact st
  · rw [sI1, if_pos rfl, if_neg (by decide), sI1, if_pos rfl, if_pos rfl]
  · rw [sI1, if_pos rfl, if_pos rfl]
  · rw [sI1, if_pos rfl, if_neg (by decide), sI1, if_pos rfl, if_neg (by decide), sI_ne (by decide)]; exact h3
  · rw [sI_ne (by decide), sI_ne (by decide), sI1, if_pos rfl]
    by_cases y : i = z
    · rw [if_pos y, y, put_eq]
      exact ⟨rfl, by omega⟩
    · rw [if_neg y, put_ne y]; exact h4 i (by omega)
theorem c_tsg {σ τ : St} {k a b cc d v : Nat} (H : PR σ τ n L B k a b cc d v) : f_X9_takeSign N (nI 41) σ = if k = 3 ∧ v = 41 then (bp (f_X9_next N σ) fun s4 => some ((nI 1), s4)) else bd (f_X9_refuse (nI 1) σ) fun v2 s3 => rz v2 (some (v2, s3)) := by
  unfold f_X9_takeSign
  rw [(c_isSign (sg := 41) (by decide) H).1, bp_q, if_bI]
  by_cases w : k = 3 ∧ v = 41
  · rw [if_pos (decide_eq_true w), if_pos w]
  · rw [if_neg (fun y => w (of_decide_eq_true y)), if_neg w]
/-- behind a condition in brackets -/
theorem p_close {σ τ : St} {k a b cc d v q c h z x m : Nat} {K Z : Nat → Nat} (hN : 1000 ≤ N) (H : PR σ τ n L B k a b cc d v) (hT : tOr k cc) (E : SE σ τ m0 m1 q c h K) (S : ZS τ (z + 1) (x + 1) 1 Z) (hx : 1 ≤ x) (hZ : Z z = 23) : (∃ σ' τ' w a', f_X9_takeSign N (nI 41) σ = some (nI 0, σ') ∧ lpS N k12 (m + 1) τ = kFl τ' ∧ FltP σ' τ' w a' ∧ MqS τ τ') ∨ ∃ σ' τ', f_X9_takeSign N (nI 41) σ = some (nI 1, σ') ∧ lpS N k12 (m + 1) τ = lpS N k12 m τ' ∧ SE σ' τ' m0 m1 q c h K ∧ ZS τ' z x 1 Z ∧ EPR n L B σ' τ' ∧ MqS τ τ' := by
  have n0 := m_nots0 hN S (Or.inr (by rw [Nat.add_sub_cancel, hZ]; decide))
  have j0 := m_joins0 hN S (Or.inr rfl) (Or.inr (by rw [Nat.add_sub_cancel, hZ]; decide))
  obtain ⟨h1, h2, h3, h4, h5, h6, h7⟩ := id S
  rw [c_tsg H, LP1 h3 n0, j0, bp_q, vl_q, h1, if_le0q (by omega), if_neg (show ¬ z + 1 = 0 by omega), Bh_el H hT.1 hT.2, j0, bp_q]
  have sg := (c_isSign (sg := 41) (by decide) H).2
  by_cases w : k = 3 ∧ v = 41
  · have P1 : PR σ (popN τ z x) n L B k a b cc d v := PR_K H (FK.rf (ks := [])) (fun x hx => absurd hx List.not_mem_nil) ((FK.rf.sI (ks := [46, 47]) (by decide)).sI (by decide)) (by decide)
    have E1 : SE σ (popN τ z x) m0 m1 q c h K := SE_48 (SE_48 E 46 (nI z) (by decide)) 47 (nI x) (by decide)
    obtain ⟨σ1, τ1, e1, e2, f1, f2, k', a', b', c', d', v', P2, _⟩ := p_next hN P1 (Or.inr (Or.inr w.1))
    have ky : Ky N τ = some (nI 1, τ1) := by
      unfold popN at e2
      unfold Ky
      rw [sg, decide_eq_true w, bp_q]
      refine (jn_q _ _).trans ?_
      rw [if_bI, if_pos rfl, vl_q, h1, if_eq0 (by omega), if_neg (by omega), vl_q, nI_sub1 (by omega) (by omega), Nat.add_sub_cancel, vl_q, vl_q, sI1, if_pos rfl, if_neg (by decide), h2, nI_sub1 (by omega) (by omega), Nat.add_sub_cancel, vl_q, e2, bp_q]
    rw [if_pos w, e1, bp_q, (tok_3 H.2).2.mpr w.1, if_neg (by decide), ky, bd_q, if_one]
    refine Or.inr ⟨σ1, τ1, rfl, rfl, SE_K E1 f1 f2 (by decide) (by decide), ⟨?_, ?_, ?_, fun i hi => ?_, by omega, hx, by omega⟩, ⟨k', a', b', c', d', v', P2⟩, fun b b1 _ _ => ⟨(f2.1 b b1).1.trans (popN_o b1), (f2.1 b b1).2⟩⟩
    · rw [(f2.2 46 (by decide)).1]; unfold popN; rw [sI1, if_pos rfl, if_neg (by decide), sI1, if_pos rfl, if_pos rfl]
    · rw [(f2.2 47 (by decide)).1]; unfold popN; rw [sI1, if_pos rfl, if_pos rfl]
    · rw [(f2.2 48 (by decide)).1, popN_k (by decide) (by decide)]; exact h3
    · rw [(f2.1 220 (by decide)).1, popN_o (by decide)]; exact h4 i (by omega)
  · obtain ⟨σ', τ', e1, e2, fl, g1, g2⟩ := p_bad (w := 1) H (by decide)
    have ky : Ky N τ = some (nI 0, τ') := by
      unfold Ky
      rw [sg, decide_eq_false w, bp_q]
      refine (jn_q _ _).trans ?_
      rw [if_bI, if_neg (by decide), e2, bd_q, rz_0]
    rw [if_neg w, e1, bd_q, rz_0]
    refine Or.inl ⟨σ', τ', 1, a, rfl, ?_, fl, MqS.fk g2⟩
    by_cases y : τ.1 206 11 = 0
    · rw [if_pos y]
      unfold kBl kFl
      rw [e2, bd_q]
    · rw [if_neg y, ky, bd_q, if_pos (by decide)]
end Ro
