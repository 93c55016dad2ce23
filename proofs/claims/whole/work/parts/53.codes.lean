/-! a sentence's codes: both sides -/
theorem d66 : rr 66 2 = 67 ∧ rr 66 3 = 68 ∧ rr 66 4 = 69 := by decide +kernel
def mKd (K : Nat) : Nat := if K = 0 then 21 else if K = 1 then 22 else if K = 2 then 20 else K - 3
/-- c codes leave h truths on the pile -/
def rpn (K : Nat → Nat) : Nat → Nat → Prop
  | 0, h => h = 0
  | c + 1, h => 1 ≤ h ∧ if K c ≤ 1 then rpn K c (h + 1) else if K c = 2 then rpn K c h else rpn K c (h - 1)
theorem rpn_cong {K K' : Nat → Nat} : ∀ {c h : Nat}, (∀ i, i < c → K i = K' i) → rpn K c h → rpn K' c h
  | 0, _, _, r => r
  | c + 1, h, e, r => by
    have ih := fun {h : Nat} => rpn_cong (K := K) (K' := K') (c := c) (h := h) (fun i hi => e i (by omega))
    obtain ⟨r1, r2⟩ := r
    refine ⟨r1, ?_⟩
    rw [← e c (by omega)]
    by_cases q : K c ≤ 1
    · rw [if_pos q] at r2 ⊢; exact ih r2
    · rw [if_neg q] at r2 ⊢
      by_cases q2 : K c = 2
      · rw [if_pos q2] at r2 ⊢; exact ih r2
      · rw [if_neg q2] at r2 ⊢; exact ih r2
/-- the code at i: kind, sign, number -/
def CdQ (σ τ : St) (m0 m1 : Nat) (K : Nat → Nat) (i : Nat) : Prop := ∃ u v, K i ≤ 11 ∧ u ≤ 999 ∧ v ≤ 999 ∧ (K i = 6 → v < m0) ∧ (K i = 7 → v < m1) ∧ (8 ≤ K i → 60 ≤ u ∧ u ≤ 62) ∧ σ.1 67 i = nI (K i) ∧ σ.1 68 i = nI u ∧ σ.1 69 i = nI v ∧ τ.1 210 (3 * i) = nI (mKd (K i)) ∧ τ.1 210 (3 * i + 1) = nI u ∧ τ.1 210 (3 * i + 2) = nI v
def ChN (σ τ : St) (m0 m1 : Nat) : Prop := σ.1 3 2 = nI m0 ∧ m0 ≤ 8 ∧ σ.1 3 3 = nI m1 ∧ m1 ≤ 4 ∧ NmR σ τ 4 0 m0 ∧ NmR σ τ 5 8 m1 ∧ τ.1 208 0 = nI m0 ∧ τ.1 208 1 = nI m1 ∧ RvR τ
def SE (σ τ : St) (m0 m1 q c h : Nat) (K : Nat → Nat) : Prop := ChN σ τ m0 m1 ∧ (σ.1 66 0 = nI q ∧ τ.1 206 45 = nI q ∧ q ≤ 20) ∧ (σ.1 66 1 = nI c ∧ τ.1 206 44 = nI c ∧ c ≤ 40) ∧ rpn K c h ∧ ∀ i, i < c → CdQ σ τ m0 m1 K i
theorem ChN_w {σ σ' τ τ' : St} {m0 m1 : Nat} (H : ChN σ τ m0 m1) (hc : ∀ b, 3 ≤ b → b < 26 → σ'.1 b = σ.1 b ∧ σ'.2 b = σ.2 b) (m8 : τ'.1 208 = τ.1 208) (m11 : τ'.2 211 = τ.2 211) (m12 : τ'.2 212 = τ.2 212) : ChN σ' τ' m0 m1 := by
  obtain ⟨a1, a2, a3, a4, a5, a6, a7, a8, a9⟩ := H
  refine ⟨by rw [(hc 3 (by decide) (by decide)).1]; exact a1, a2, by rw [(hc 3 (by decide) (by decide)).1]; exact a3, a4, fun l hl => ?_, fun l hl => ?_, by rw [m8]; exact a7, by rw [m8]; exact a8, fun i hi => by rw [m12]; exact a9 i hi⟩
  · obtain ⟨c, d, w, x1, x2⟩ := a5 l hl
    rw [d4q (by omega)] at x1 ⊢
    exact ⟨c, d, w, by rw [(hc _ (by omega) (by omega)).2]; exact x1, by rw [m11]; exact x2⟩
  · obtain ⟨c, d, w, x1, x2⟩ := a6 l hl
    rw [d5q (by omega)] at x1 ⊢
    exact ⟨c, d, w, by rw [(hc _ (by omega) (by omega)).2]; exact x1, by rw [m11]; exact x2⟩
theorem SE_w {σ σ' τ τ' : St} {m0 m1 q c h : Nat} {K : Nat → Nat} (H : SE σ τ m0 m1 q c h K) (hc : ∀ b, b ≠ 1 → σ'.1 b = σ.1 b ∧ σ'.2 b = σ.2 b) (m8 : τ'.1 208 = τ.1 208) (m10 : τ'.1 210 = τ.1 210) (m11 : τ'.2 211 = τ.2 211) (m12 : τ'.2 212 = τ.2 212) (m44 : τ'.1 206 44 = τ.1 206 44) (m45 : τ'.1 206 45 = τ.1 206 45) : SE σ' τ' m0 m1 q c h K := by
  obtain ⟨a1, ⟨b1, b2, b3⟩, ⟨c1, c2, c3⟩, d1, e1⟩ := H
  refine ⟨ChN_w a1 (fun b h1 h2 => hc b (by omega)) m8 m11 m12, ⟨by rw [(hc 66 (by decide)).1]; exact b1, by rw [m45]; exact b2, b3⟩, ⟨by rw [(hc 66 (by decide)).1]; exact c1, by rw [m44]; exact c2, c3⟩, d1, fun i hi => ?_⟩
  obtain ⟨u, v, r⟩ := e1 i hi
  refine ⟨u, v, ?_⟩
  rw [(hc 67 (by decide)).1, (hc 68 (by decide)).1, (hc 69 (by decide)).1, m10]
  exact r
theorem SE_K {σ σ' τ τ' : St} {m0 m1 q c h : Nat} {K : Nat → Nat} {ks ls : List Nat} (H : SE σ τ m0 m1 q c h K) (hF : FK 1 ks σ σ') (hG : FK 206 ls τ τ') (h44 : 44 ∉ ls) (h45 : 45 ∉ ls) : SE σ' τ' m0 m1 q c h K :=
  SE_w H hF.1 (hG.1 208 (by decide)).1 (hG.1 210 (by decide)).1 (hG.1 211 (by decide)).2 (hG.1 212 (by decide)).2 (hG.2 44 h44).1 (hG.2 45 h45).1
def adC (σ : St) (c K u v : Nat) : St := sI (sI (sI (sI σ 67 c (nI K)) 68 c (nI u)) 69 c (nI v)) 66 1 (nI (c + 1))
def adM (τ : St) (c K u v : Nat) : St := sI (sI (sI (sI τ 210 (3 * c) (nI K)) 210 (3 * c + 1) (nI u)) 210 (3 * c + 2) (nI v)) 206 44 (nI (c + 1))
theorem c_add {σ : St} {c K u v : Nat} (h1 : σ.1 66 1 = nI c) (hc : c < 40) : f_X7_add 66 (nI K) (nI u) (nI v) σ = some (nI 1, adC σ c K u v) := by
  unfold f_X7_add adC
  rw [vl_q, h1, if_leq (by decide) (by omega), if_neg (by omega), vl_q, d66.1, d66.2.1, d66.2.2, ald_q hc (by decide), vl_q, sI_ne (by decide), h1, ald_q hc (by decide), vl_q, sI_ne (by decide), sI_ne (by decide), h1, ald_q hc (by decide), vl_q, vl_q, sI_ne (by decide), sI_ne (by decide), sI_ne (by decide), h1, nI_addq]
theorem m_code {τ : St} {c K u v : Nat} (h1 : τ.1 206 44 = nI c) (hc : c < 45) : f_X12_code (nI K) (nI u) (nI v) τ = some (adM τ c K u v) := by
  have e3 : nI 3 * nI c = nI (3 * c) := by
    have : ∀ c, c < 45 → nI 3 * nI c = nI (3 * c) := by decide +kernel
    exact this c hc
  unfold f_X12_code adM
  rw [vl_q, h1, e3, ald_q (by omega) (by decide), vl_q, sI_ne (by decide), h1, e3, nI_addq, ald_q (by omega) (by decide), vl_q, sI_ne (by decide), sI_ne (by decide), h1, e3, nI_addq, ald_q (by omega) (by decide), vl_q, vl_q, sI_ne (by decide), sI_ne (by decide), sI_ne (by decide), h1, nI_addq]
theorem adC_o {σ : St} {c K u v b : Nat} (h1 : b ≠ 66) (h2 : b ≠ 67) (h3 : b ≠ 68) (h4 : b ≠ 69) : (adC σ c K u v).1 b = σ.1 b := by
  unfold adC
  rw [sI_ne h1, sI_ne h4, sI_ne h3, sI_ne h2]
theorem adM_o {τ : St} {c K u v b : Nat} (h1 : b ≠ 206) (h2 : b ≠ 210) : (adM τ c K u v).1 b = τ.1 b := by
  unfold adM
  rw [sI_ne h1, sI_ne h2, sI_ne h2, sI_ne h2]
theorem adM_k {τ : St} {c K u v k : Nat} (h : k ≠ 44) : (adM τ c K u v).1 206 k = τ.1 206 k := by
  unfold adM
  rw [sI1, if_pos rfl, if_neg h, sI_ne (by decide), sI_ne (by decide), sI_ne (by decide)]
theorem adM_L {τ : St} {c K u v : Nat} : (adM τ c K u v).2 = τ.2 := rfl
/-- a code is added, in both -/
theorem SE_add {σ τ : St} {m0 m1 q c h h' K0 u v : Nat} {K : Nat → Nat} (H : SE σ τ m0 m1 q c h K) (hc : c < 40) (k11 : K0 ≤ 11) (hu : u ≤ 999) (hv : v ≤ 999) (k6 : K0 = 6 → v < m0) (k7 : K0 = 7 → v < m1) (k8 : 8 ≤ K0 → 60 ≤ u ∧ u ≤ 62) (hr : 1 ≤ h' ∧ if K0 ≤ 1 then h' + 1 = h else if K0 = 2 then h' = h else h' - 1 = h) : SE (adC σ c K0 u v) (adM τ c (mKd K0) u v) m0 m1 q (c + 1) h' (put K c K0) := by
  obtain ⟨a1, ⟨b1, b2, b3⟩, ⟨c1, c2, c3⟩, d1, e1⟩ := H
  have pK : ∀ i, i < c → put K c K0 i = K i := fun i hi => put_ne (by omega)
  have d2 : rpn (put K c K0) c h := rpn_cong (fun i hi => (pK i hi).symm) d1
  refine ⟨ChN_w a1 (fun b h1 h2 => ⟨adC_o (by omega) (by omega) (by omega) (by omega), rfl⟩) (adM_o (by decide) (by decide)) rfl rfl, ⟨?_, by rw [adM_k (by decide)]; exact b2, b3⟩, ⟨?_, ?_, by omega⟩, ⟨hr.1, ?_⟩, fun i hi => ?_⟩
  · unfold adC
    rw [sI1, if_pos rfl, if_neg (by decide), sI_ne (by decide), sI_ne (by decide), sI_ne (by decide)]; exact b1
  · unfold adC
    rw [sI1, if_pos rfl, if_pos rfl]
  · unfold adM
    rw [sI1, if_pos rfl, if_pos rfl]
  · rw [put_eq]
    have r := hr.2
    by_cases q1 : K0 ≤ 1
    · rw [if_pos q1] at r ⊢; rw [r]; exact d2
    · rw [if_neg q1] at r ⊢
      by_cases q2 : K0 = 2
      · rw [if_pos q2] at r ⊢; rw [r]; exact d2
      · rw [if_neg q2] at r ⊢; rw [r]; exact d2
  · have f67 : ∀ i, (adC σ c K0 u v).1 67 i = if i = c then nI K0 else σ.1 67 i := fun i => by
      unfold adC; rw [sI_ne (by decide), sI_ne (by decide), sI_ne (by decide), sI1, if_pos rfl]
    have f68 : ∀ i, (adC σ c K0 u v).1 68 i = if i = c then nI u else σ.1 68 i := fun i => by
      unfold adC; rw [sI_ne (by decide), sI_ne (by decide), sI1, if_pos rfl, sI_ne (by decide)]
    have f69 : ∀ i, (adC σ c K0 u v).1 69 i = if i = c then nI v else σ.1 69 i := fun i => by
      unfold adC; rw [sI_ne (by decide), sI1, if_pos rfl, sI_ne (by decide), sI_ne (by decide)]
    have f10 : ∀ j, (adM τ c (mKd K0) u v).1 210 j = if j = 3 * c + 2 then nI v else if j = 3 * c + 1 then nI u else if j = 3 * c then nI (mKd K0) else τ.1 210 j := fun j => by
      unfold adM; rw [sI_ne (by decide), sI1, if_pos rfl, sI1, if_pos rfl, sI1, if_pos rfl]
    unfold CdQ
    rw [f67, f68, f69, f10, f10, f10]
    by_cases y : i = c
    · subst y
      rw [put_eq]
      refine ⟨u, v, k11, hu, hv, k6, k7, k8, if_pos rfl, if_pos rfl, if_pos rfl, ?_, ?_, if_pos rfl⟩
      · rw [if_neg (by omega), if_neg (by omega), if_pos rfl]
      · rw [if_neg (by omega), if_pos rfl]
    · obtain ⟨u', v', r⟩ := e1 i (by omega)
      refine ⟨u', v', ?_⟩
      rw [pK i (by omega), if_neg y, if_neg y, if_neg y, if_neg (by omega), if_neg (by omega), if_neg (by omega), if_neg (by omega), if_neg (by omega), if_neg (by omega), if_neg (by omega), if_neg (by omega), if_neg (by omega)]
      exact r
/-- what a code leaves of a token -/
theorem PR_adM {σ τ : St} {n L k a b c d v c0 K u w : Nat} {B : Nat → Nat} (P : PR σ τ n L B k a b c d v) : PR σ (adM τ c0 K u w) n L B k a b c d v := by
  have P1 : PR σ (sI (sI (sI τ 210 (3 * c0) (nI K)) 210 (3 * c0 + 1) (nI u)) 210 (3 * c0 + 2) (nI w)) n L B k a b c d v := PR_c P rfl rfl rfl ((sI_ne (by decide)).trans ((sI_ne (by decide)).trans (sI_ne (by decide)))) ((sI_ne (by decide)).trans ((sI_ne (by decide)).trans (sI_ne (by decide)))) rfl
  exact PR_K P1 (FK.rf (ks := [])) (fun x hx => absurd hx List.not_mem_nil) (FK.rf.sI (ks := [44]) (by decide)) (by decide)
theorem PR_adC {σ τ : St} {n L k a b c d v c0 K u w : Nat} {B : Nat → Nat} (P : PR σ τ n L B k a b c d v) : PR (adC σ c0 K u w) τ n L B k a b c d v := PR_c P (adC_o (by decide) (by decide) (by decide) (by decide)) (adC_o (by decide) (by decide) (by decide) (by decide)) rfl rfl rfl rfl
