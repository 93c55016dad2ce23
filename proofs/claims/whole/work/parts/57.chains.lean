/-! operands that 'and' and 'or' join: both sides -/
def MqS (τ τ' : St) : Prop := ∀ b, b ≠ 206 → b ≠ 210 → b ≠ 220 → τ'.1 b = τ.1 b ∧ τ'.2 b = τ.2 b
theorem MqS.rf {τ : St} : MqS τ τ := fun _ _ _ _ => ⟨rfl, rfl⟩
theorem MqS.trans {τ τ' τ2 : St} (h : MqS τ τ') (g : MqS τ' τ2) : MqS τ τ2 := fun b h1 h2 h3 => ⟨(g b h1 h2 h3).1.trans (h b h1 h2 h3).1, (g b h1 h2 h3).2.trans (h b h1 h2 h3).2⟩
theorem MqS.fk {τ τ' : St} {ks : List Nat} (h : FK 206 ks τ τ') : MqS τ τ' := fun b h1 _ _ => h.1 b h1
theorem MqS_adM {τ : St} {z c K u v : Nat} : MqS τ (adM (pop τ z) c K u v) := fun b h1 h2 _ => ⟨(adM_o h1 h2).trans (pop_o h1), rfl⟩
theorem ZS_c {τ : St} {z x e : Nat} {Z Z' : Nat → Nat} (H : ZS τ z x e Z) (h : ∀ i, i < z → Z' i = Z i) : ZS τ z x e Z' := by
  obtain ⟨h1, h2, h3, h4, r⟩ := H
  exact ⟨h1, h2, h3, fun i hi => by rw [h i hi]; exact h4 i hi, r⟩
section Ch
variable {N n L m0 m1 : Nat} {B : Nat → Nat} {k12 : St → Option (Int32 × St)}
theorem PR_pop {σ τ : St} {k a b cc d v z : Nat} (P : PR σ τ n L B k a b cc d v) : PR σ (pop τ z) n L B k a b cc d v := PR_K P (FK.rf (ks := [])) (fun x hx => absurd hx List.not_mem_nil) (FK.rf.sI (ks := [46]) (by decide)) (by decide)
theorem p_push {σ τ : St} {k a b cc d v q c h z x o : Nat} {K Z : Nat → Nat} (hN : 1000 ≤ N) (H : PR σ τ n L B k a b cc d v) (hk : k = 1) (E : SE σ τ m0 m1 q c h K) (S : ZS τ z x 1 Z) (hz : z ≤ 39) (ho : o = if cc = rvC 16 then 21 else 22) : ∃ σ1 τ1, f_X9_next N σ = some σ1 ∧ Kx N τ = some (nI 1, τ1) ∧ SE σ1 τ1 m0 m1 q c h K ∧ ZS τ1 (z + 1) x 0 (put Z z o) ∧ EPR n L B σ1 τ1 ∧ MqS τ τ1 := by
  obtain ⟨h1, h2, h3, h4, h5, h6, h7⟩ := S
  have P1 : PR σ (sI τ 220 z (nI o)) n L B k a b cc d v := PR_c H rfl rfl rfl (sI_ne (by decide)) (sI_ne (by decide)) rfl
  have P2 : PR σ (sI (sI (sI τ 220 z (nI o)) 206 46 (nI (z + 1))) 206 48 (nI 0)) n L B k a b cc d v := PR_K P1 (FK.rf (ks := [])) (fun x hx => absurd hx List.not_mem_nil) ((FK.rf.sI (ks := [46, 48]) (by decide)).sI (by decide)) (by decide)
  have E2 := SE_48 (SE_48 (SE_w (τ' := sI τ 220 z (nI o)) E (fun _ _ => ⟨rfl, rfl⟩) (sI_ne (by decide)) (sI_ne (by decide)) rfl rfl (by rw [sI_ne (by decide)]) (by rw [sI_ne (by decide)])) 46 (nI (z + 1)) (by decide)) 48 (nI 0) (by decide)
  obtain ⟨σ1, τ1, e1, e2, f1, f2, ep⟩ := p_next hN P2 (Or.inl hk)
  obtain ⟨k', a', b', c', d', v', P3, _⟩ := ep
  refine ⟨σ1, τ1, e1, ?_, SE_K E2 f1 f2 (by decide) (by decide), ⟨?_, ?_, ?_, fun i hi => ?_, by omega, h6, h7⟩, ⟨k', a', b', c', d', v', P3⟩, fun b b1 _ b3 => ⟨(f2.1 b b1).1.trans ((sI_ne b1).trans ((sI_ne b1).trans (sI_ne b3))), (f2.1 b b1).2⟩⟩
  · have st : (ald (fun j => sI τ 220 j (nI o)) 45 (nI z) fun s12 => vl (s12.1 206 46) fun v13 => vl (sI s12 206 46 (v13 + (nI 1))) fun s14 => vl (sI s14 206 48 (nI 0)) fun s15 => bp (f_X12_next N s15) fun s16 => some ((nI 1), s16)) = some (nI 1, τ1) := by
      rw [ald_q (by omega) (by decide), vl_q, sI_ne (by decide), h1, nI_addq, vl_q, vl_q, e2, bp_q]
    unfold Kx
    rw [vl_q, h1, m_is (i := 16) (x := 6385252) (by decide) (by decide) H, bp_q]
    refine (jn_q _ _).trans ?_
    rw [if_bI]
    by_cases q : cc = rvC 16
    · rw [if_pos (decide_eq_true ⟨hk, q⟩)]
      rw [if_pos q] at ho
      rw [← ho]
      exact st
    · rw [if_neg (fun w => q (of_decide_eq_true w).2)]
      rw [if_neg q] at ho
      rw [← ho]
      exact st
  · rw [(f2.2 46 (by decide)).1, sI1, if_pos rfl, if_neg (by decide), sI1, if_pos rfl, if_pos rfl]
  · rw [(f2.2 47 (by decide)).1, sI1, if_pos rfl, if_neg (by decide), sI1, if_pos rfl, if_neg (by decide), sI_ne (by decide)]; exact h2
  · rw [(f2.2 48 (by decide)).1, sI1, if_pos rfl, if_pos rfl]
  · rw [(f2.1 220 (by decide)).1, sI_ne (by decide), sI_ne (by decide), sI1, if_pos rfl]
    by_cases y : i = z
    · rw [if_pos y, y, put_eq]
      refine ⟨rfl, ?_⟩
      rw [ho]; split <;> decide
    · rw [if_neg y, put_ne y]; exact h4 i (by omega)
/-- refused, both -/
def FLr (N : Nat) (k12 : St → Option (Int32 × St)) (X : Option (Int32 × St)) (m : Nat) (τ : St) : Prop := ∃ σ' τ' w a, X = some (nI 0, σ') ∧ lpS N k12 m τ = kFl τ' ∧ FltP σ' τ' w a ∧ MqS τ τ'
/-- told, both: the stack as before -/
def OKx (N n L : Nat) (B : Nat → Nat) (k12 : St → Option (Int32 × St)) (m0 m1 : Nat) (T : Nat → Nat → Prop) (X : Option (Int32 × St)) (m : Nat) (τ : St) (z x M Q h p : Nat) (Z : Nat → Nat) : Prop := ∃ σ' τ2 m' q' c' K' k a b cc d v, X = some (nI 1, σ') ∧ lpS N k12 m τ = lpS N k12 m' τ2 ∧ SE σ' τ2 m0 m1 q' c' h K' ∧ (PR σ' τ2 n L B k a b cc d v ∧ T k cc) ∧ ZS τ2 z x 1 Z ∧ c' + p + 1 ≤ 2 * q' ∧ Q ≤ q' ∧ M ≤ m' + 3 * q' ∧ MqS τ τ2
/-- told, both: 'not's may stand on the stack -/
def OKn (N n L : Nat) (B : Nat → Nat) (k12 : St → Option (Int32 × St)) (m0 m1 : Nat) (X : Option (Int32 × St)) (m : Nat) (τ : St) (z x M Q h p : Nat) (Z : Nat → Nat) : Prop := ∃ σ' τ1 τ2 dd m' q' c' K' k a b cc d v, X = some (nI 1, σ') ∧ lpS N k12 m τ = lpS N k12 m' τ1 ∧ (τ1.1 206 48 = nI 1 ∧ τ1.1 206 11 = τ2.1 206 11 ∧ dd + x ≤ 20 ∧ ∀ j, f_X12_nots_L0 N (j + dd) τ1 = f_X12_nots_L0 N j τ2) ∧ SE σ' τ2 m0 m1 q' c' h K' ∧ PR σ' τ2 n L B k a b cc d v ∧ ZS τ2 z x 1 Z ∧ c' + p + 1 ≤ 2 * q' ∧ Q ≤ q' ∧ M ≤ m' + 3 * q' ∧ MqS τ τ2
def ROK (N n L : Nat) (B : Nat → Nat) (k12 : St → Option (Int32 × St)) (m0 m1 : Nat) (rec : Nat → Int32 → St → Option (Int32 × St)) (x : Nat) : Prop := ∀ (σ τ : St) (m z q c h p : Nat) (K Z : Nat → Nat), EPR n L B σ τ → SE σ τ m0 m1 q c h K → ZS τ z x 0 Z → z + 1 ≤ 3 * x → c + p ≤ 2 * q → 70 ≤ m + 3 * q → FLr N k12 (rec 66 (nI x) σ) m τ ∨ OKn N n L B k12 m0 m1 (rec 66 (nI x) σ) m τ z x (m + 3 * q + 1) (q + 1) (h + 1) p Z
theorem m_nots0 {τ : St} {z x e : Nat} {Z : Nat → Nat} (hN : 1000 ≤ N) (S : ZS τ z x e Z) (h : z = 0 ∨ Z (z - 1) ≠ 20) : f_X12_nots N τ = some τ := by
  unfold f_X12_nots
  obtain ⟨M, rfl⟩ : ∃ M, N = M + 1 := ⟨N - 1, by omega⟩
  exact m_not0 S h M
theorem m_joins0 {τ : St} {z x e o : Nat} {Z : Nat → Nat} (hN : 1000 ≤ N) (S : ZS τ z x e Z) (ho : o = 21 ∨ o = 22) (h : z = 0 ∨ (Z (z - 1) ≠ 21 ∧ (Z (z - 1) = 22 → o = 21))) : f_X12_joins N (nI o) τ = some τ := by
  unfold f_X12_joins
  obtain ⟨M, rfl⟩ : ∃ M, N = M + 1 := ⟨N - 1, by omega⟩
  exact m_join0 S ho h M
/-- the 'not's are taken from the stack -/
theorem OKn_x {X : Option (Int32 × St)} {m z x M Q h p : Nat} {τ : St} {Z : Nat → Nat} (hN : 1000 ≤ N) (hM : 70 ≤ M) (ht : z = 0 ∨ Z (z - 1) ≠ 20) (H : OKn N n L B k12 m0 m1 X m τ z x M Q h p Z) : OKx N n L B k12 m0 m1 (fun _ _ => True) X m τ z x M Q h p Z := by
  obtain ⟨σ', τ1, τ2, dd, m', q', c', K', k, a, b, cc, d, v, e1, e2, ⟨e3, e4, e5, e6⟩, E, P, S, b1, b2, b3, mq⟩ := H
  have n3 := m_nots0 hN S ht
  have n2 : f_X12_nots N τ1 = some τ2 := by
    have := e6 (N - dd)
    rw [Nat.sub_add_cancel (by omega)] at this
    unfold f_X12_nots
    rw [this]
    obtain ⟨M', hM'⟩ : ∃ M', N - dd = M' + 1 := ⟨N - dd - 1, by omega⟩
    rw [hM']
    exact m_not0 S ht M'
  have q20 := E.2.1.2.2
  obtain ⟨m2, rfl⟩ : ∃ m2, m' = m2 + 1 := ⟨m' - 1, by omega⟩
  exact ⟨σ', τ2, m2 + 1, q', c', K', k, a, b, cc, d, v, e1, e2.trans (LP_n e3 S.2.2.1 n2 n3 e4), E, ⟨P, trivial⟩, S, b1, b2, b3, mq⟩
/-- where joins of 22 ends -/
def Bse (z : Nat) (Z : Nat → Nat) : Prop := z = 0 ∨ Z (z - 1) = 23
theorem j22_tot {τ : St} {z x e q c h : Nat} {σ : St} {K Z : Nat → Nat} (S : ZS τ z x e Z) (E : SE σ τ m0 m1 q c h K) (hc : c < 40) (hb : Bse z Z ∨ (1 ≤ z ∧ Z (z - 1) = 22 ∧ Bse (z - 1) Z)) : ∃ s, ∀ j, f_X12_joins_L0 N (nI 22) (j + 2) τ = some s := by
  rcases hb with hb | ⟨z1, z2, z3⟩
  · exact ⟨τ, fun j => m_join0 S (Or.inr rfl) (by unfold Bse at hb; omega) (j + 1)⟩
  · obtain ⟨z', rfl⟩ : ∃ z', z = z' + 1 := ⟨z - 1, by omega⟩
    rw [Nat.add_sub_cancel] at z2 z3
    have st := fun j => m_join1 (N := N) (o := 22) S (Or.inr rfl) (Or.inr ⟨z2, rfl⟩) E.2.2.1.2.1 hc j
    refine ⟨adM (pop τ z') c (Z z') 0 0, fun j => ?_⟩
    rw [(st (j + 1)).1]
    exact m_join0 (st 0).2 (Or.inr rfl) (by unfold Bse at z3; omega) j
/-- an operator that stands on top is coded: nothing else changes -/
theorem x_pop {σ' τ2 : St} {m' z x q' c' h h' k a b cc d v o : Nat} {K' Z Z' : Nat → Nat} (hN : 1000 ≤ N) (S : ZS τ2 (z + 1) x 1 Z') (hZ : ∀ i, i < z → Z' i = Z i) (hzo : Z' z = o) (P : PR σ' τ2 n L B k a b cc d v) (E : SE σ' τ2 m0 m1 q' c' h K') (hc : c' < 39) (ho : (o = 21 ∧ (Bse z Z ∨ (1 ≤ z ∧ Z (z - 1) = 22 ∧ Bse (z - 1) Z))) ∨ (o = 22 ∧ Bse z Z ∧ ¬ (k = 1 ∧ cc = rvC 16))) (hh : h = h' + 1) (h1 : 1 ≤ h') : lpS N k12 (m' + 1) τ2 = lpS N k12 (m' + 1) (adM (pop τ2 z) c' o 0 0) ∧ ZS (adM (pop τ2 z) c' o 0 0) z x 1 Z ∧ PR (adC σ' c' (o - 21) 0 0) (adM (pop τ2 z) c' o 0 0) n L B k a b cc d v ∧ SE (adC σ' c' (o - 21) 0 0) (adM (pop τ2 z) c' o 0 0) m0 m1 q' (c' + 1) h' (put K' c' (o - 21)) ∧ f_X7_add 66 (nI (o - 21)) (nI 0) (nI 0) σ' = some (nI 1, adC σ' c' (o - 21) 0 0) := by
  have o2 : o = 21 ∨ o = 22 := by rcases ho with ⟨e, _⟩ | ⟨e, _⟩ <;> omega
  have ht : Z' z = 21 ∨ Z' z = 22 := by rw [hzo]; exact o2
  have st := fun (w : Nat) (hw : w = 21 ∨ w = 22) (hq : Z' z = 21 ∨ (Z' z = 22 ∧ w = 22)) (j : Nat) => m_join1 (N := N) (o := w) S hw hq E.2.2.1.2.1 (by omega) j
  have S3' : ZS (adM (pop τ2 z) c' o 0 0) z x 1 Z' := by rw [← hzo]; exact (st 22 (Or.inr rfl) (by omega) 0).2
  have S3 : ZS (adM (pop τ2 z) c' o 0 0) z x 1 Z := ZS_c S3' (fun i hi => (hZ i hi).symm)
  have mk : mKd (o - 21) = o := by unfold mKd; rcases o2 with e | e <;> rw [e] <;> decide
  have Ep : SE σ' (pop τ2 z) m0 m1 q' c' h K' := SE_48 E 46 (nI z) (by decide)
  have E3 := SE_add (h' := h') (K0 := o - 21) (u := 0) (v := 0) Ep (by omega) (by omega) (by decide) (by decide) (by omega) (by omega) (by omega) ⟨h1, by rw [if_pos (by omega)]; omega⟩
  rw [mk] at E3
  have P3 : PR σ' (adM (pop τ2 z) c' o 0 0) n L B k a b cc d v := PR_adM (PR_pop P)
  have n2 : f_X12_nots N τ2 = some τ2 := m_nots0 hN S (Or.inr (by rw [Nat.add_sub_cancel]; omega))
  have tz : z = 0 ∨ (Z (z - 1) = 22 ∨ Z (z - 1) = 23) := by
    rcases ho with ⟨_, e | ⟨_, e, _⟩⟩ | ⟨_, e, _⟩ <;> unfold Bse at * <;> omega
  have n3 : f_X12_nots N (adM (pop τ2 z) c' o 0 0) = some (adM (pop τ2 z) c' o 0 0) := m_nots0 hN S3 (by omega)
  refine ⟨?_, S3, PR_adC P3, E3, c_add E.2.2.1.1 (by omega)⟩
  refine LP_eq S.2.2.1 S3.2.2.1 n2 n3 P P3 (fun q => ?_) ?_
  · rcases ho with ⟨e, _⟩ | ⟨_, _, e⟩
    · rw [m_joins0 hN S3 (Or.inl rfl) (by omega)]
      unfold f_X12_joins
      obtain ⟨M, hM⟩ : ∃ M, N = M + 2 := ⟨N - 2, by omega⟩
      have s1 := (st 21 (Or.inl rfl) (by omega) (M + 1)).1
      rw [hzo] at s1
      have s2 := m_join0 (N := N) S3 (Or.inl rfl) (by omega) M
      rw [show N = M + 1 + 1 from hM] at s1 s2 ⊢
      rw [s1]
      exact s2
    · exact absurd q e
  · obtain ⟨s, hs⟩ := j22_tot (N := N) S3 E3 (by omega) (by rcases ho with ⟨_, e⟩ | ⟨_, e, _⟩; exact e; exact Or.inl e)
    unfold f_X12_joins
    obtain ⟨M, hM⟩ : ∃ M, N = M + 3 := ⟨N - 3, by omega⟩
    have s1 := (st 22 (Or.inr rfl) (by omega) (M + 2)).1
    rw [hzo] at s1
    have s2 := hs M
    have s3 := hs (M + 1)
    rw [show N = M + 2 + 1 from hM] at s1 s2 s3 ⊢
    rw [s1, s2]
    exact s3.symm
end Ch
