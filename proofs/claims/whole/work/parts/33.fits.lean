/-! fits and ask: both sides -/
def fitB (S B : Nat → Nat) (n l f : Nat) : Bool := allN (fun k => decide (shwS S l (f + k) = B k)) n
/-- the least place that fits, or the period -/
def fpI (S B : Nat → Nat) (n l : Nat) : Nat := ldN (fun f => !(fitB S B n l f)) (perS S l)
def hsF (S B : Nat → Nat) (n l : Nat) : Bool := decide (fpI S B n l < perS S l)
def fvI (S B : Nat → Nat) (n l : Nat) : Int32 := if hsF S B n l = true then nI (fpI S B n l) else -1
theorem fp_le (S B : Nat → Nat) (n l : Nat) : fpI S B n l ≤ perS S l := ldN_le _ _
theorem fv_no {S B : Nat → Nat} {n l : Nat} (h : allN (fun f => !(fitB S B n l f)) (perS S l) = true) : fvI S B n l = -1 ∧ hsF S B n l = false := by
  have := (ldN_iff (fun f => !(fitB S B n l f)) (perS S l) (perS S l) (Nat.le_refl _)).mp h
  have hh : hsF S B n l = false := decide_eq_false (by unfold fpI; omega)
  exact ⟨by unfold fvI; rw [if_neg (by rw [hh]; decide)], hh⟩
theorem fv_at {S B : Nat → Nat} {n l f : Nat} (hf : f < perS S l) (h : allN (fun f => !(fitB S B n l f)) f = true) (hb : fitB S B n l f = true) : fvI S B n l = nI f ∧ hsF S B n l = true ∧ fpI S B n l = f := by
  have e : fpI S B n l = f := ldN_eq hf h (by rw [hb]; rfl)
  have hh : hsF S B n l = true := decide_eq_true (by omega)
  exact ⟨by unfold fvI; rw [if_pos hh, e], hh, e⟩
section FitC
variable {S B : Nat → Nat} {σ τ : St} {N n l a : Nat}
theorem c_ffL {f : Nat} (h : WFl S l) (hL : LRel σ a S l) (hT : TC σ n B) (hB : ∀ j, j < n → B j < 256) (hn : n ≤ 940) (hf : f ≤ 160) : ∀ m k, k ≤ n → n - k < m → allN (fun k => decide (shwS S l (f + k) = B k)) k = true → f_X9_fitsFrom_L2 N a (nI f) σ m (nI k) = some (bI (fitB S B n l f)) := by
  intro m
  induction m with
  | zero => intro k _ h; omega
  | succ m ih =>
    intro k hk hm ha
    rw [f_X9_fitsFrom_L2, vl_q, hT.1, if_leq (by omega) (by omega)]
    by_cases hc : n ≤ k
    · rw [if_pos hc]
      obtain rfl : k = n := by omega
      unfold fitB
      rw [ha]; rfl
    · have hb := hB k (by omega)
      have hs := shwS_le h (f + k)
      rw [if_neg hc, nI_addq, c_shownAt h hL (by omega), bp_q, ald_q (by omega) (by decide), hT.2 k (by omega), if_eqq (by omega) (by omega), vl_q, nI_addq]
      by_cases z : shwS S l (f + k) = B k
      · rw [if_pos z]
        exact ih (k + 1) (by omega) (by omega) (by simp only [allN, ha, Bool.true_and]; exact decide_eq_true z)
      · rw [if_neg z]
        unfold fitB
        rw [allN_f (k := k + 1) (by simp only [allN, ha, Bool.true_and]; exact decide_eq_false z) (by omega)]; rfl
theorem c_lfL (hN : 1000 ≤ N) (h : WFl S l) (hL : LRel σ a S l) (hT : TC σ n B) (hB : ∀ j, j < n → B j < 256) (hn : n ≤ 940) : ∀ m f, f ≤ perS S l → perS S l - f < m → allN (fun f => !(fitB S B n l f)) f = true → f_X9_leastFit_L2 N a σ m (nI f) = some (fvI S B n l) := by
  have p1 := perS_le h
  intro m
  induction m with
  | zero => intro k _ h; omega
  | succ m ih =>
    intro f hf hm ha
    rw [f_X9_leastFit_L2, vl_q, hL.2.2.2.2.2.2.2.2.1, if_leq (by omega) (by omega)]
    by_cases hc : perS S l ≤ f
    · rw [if_pos hc]
      obtain rfl : f = perS S l := by omega
      rw [(fv_no ha).1]
    · unfold f_X9_fitsFrom
      rw [if_neg hc, c_ffL h hL hT hB hn (by omega) N 0 (by omega) (by omega) rfl, bp_q, if_bI, vl_q, nI_addq]
      by_cases z : fitB S B n l f = true
      · rw [if_pos z, (fv_at (by omega) ha z).1]
      · rw [if_neg z]
        exact ih (f + 1) (by omega) (by omega) (by simp only [allN, ha, Bool.true_and, Bool.eq_false_iff.mpr z, Bool.not_false])
theorem c_leastFit (hN : 1000 ≤ N) (h : WFl S l) (hL : LRel σ a S l) (hT : TC σ n B) (hB : ∀ j, j < n → B j < 256) (hn : n ≤ 940) : f_X9_leastFit N a σ = some (fvI S B n l) := by
  have p1 := perS_le h
  exact c_lfL hN h hL hT hB hn N 0 (by omega) (by omega) rfl
theorem m_fo16 {f : Nat} {k10 : Int32 → Option Int32} (hN : 10 ≤ N) (hR : RS S τ) (hl : l < 8) (h : WFl S l) (h3 : τ.1 206 3 = nI n) (hT : ∀ j, j < n → τ.1 207 j = sbt (B j)) (hB : ∀ j, j < n → B j < 256) (hn : n ≤ 940) (hf : f ≤ 160) : ∀ m k, k ≤ n → n - k < m → f_X12_fitOf_L16 N (nI l) (nI f) τ k10 m (bI (allN (fun k => decide (shwS S l (f + k) = B k)) k)) (nI k) = k10 (bI (fitB S B n l f)) := by
  intro m
  induction m with
  | zero => intro k _ h; omega
  | succ m ih =>
    intro k hk hm
    rw [f_X12_fitOf_L16, vl_q, h3, if_leq (by omega) (by omega)]
    by_cases hc : n ≤ k
    · rw [if_pos hc]
      obtain rfl : k = n := by omega
      rfl
    · have hb := hB k (by omega)
      have hs := shwS_le h (f + k)
      rw [if_neg hc, if_bI]
      rcases Bool.eq_false_or_eq_true (allN (fun k => decide (shwS S l (f + k) = B k)) k) with q | q
      · have ih' := ih (k + 1) (by omega) (by omega)
        rw [if_pos q, nI_addq, m_showsAt hN hR hl h (by omega), bp_q, m_octet hT hB (by omega) hn, bp_q, jn_q, if_eqq (by omega) (by omega)]
        simp only [vl_q, nI_addq]
        by_cases z : shwS S l (f + k) = B k
        · rw [if_pos z]
          simp only [allN, q, Bool.true_and, decide_eq_true z] at ih'
          exact ih'
        · rw [if_neg z]
          simp only [allN, q, Bool.true_and, decide_eq_false z] at ih'
          exact ih'
      · rw [if_neg (by rw [q]; decide), q]
        unfold fitB
        rw [allN_f q (by omega)]
theorem m_foL (hN : 1000 ≤ N) (hR : RS S τ) (hl : l < 8) (h : WFl S l) (h3 : τ.1 206 3 = nI n) (hT : ∀ j, j < n → τ.1 207 j = sbt (B j)) (hB : ∀ j, j < n → B j < 256) (hn : n ≤ 940) : ∀ m f, f ≤ perS S l → perS S l - f < m → allN (fun f => !(fitB S B n l f)) f = true → f_X12_fitOf_L2 N (nI l) τ m (nI f) = some (fvI S B n l) := by
  have p1 := perS_le h
  intro m
  induction m with
  | zero => intro k _ h; omega
  | succ m ih =>
    intro f hf hm ha
    rw [f_X12_fitOf_L2, m_periodOf (by omega) hR hl h, bp_q, if_leq (by omega) (by omega)]
    by_cases hc : perS S l ≤ f
    · rw [if_pos hc]
      obtain rfl : f = perS S l := by omega
      rw [(fv_no ha).1]
    · have e := m_fo16 (τ := τ) (N := N) (f := f) (k10 := fun (v20 : Int32) => if v20 = 0 then vl (nI f + (nI 1)) fun v21 => f_X12_fitOf_L2 N (nI l) τ m v21 else some (nI f)) (by omega) hR hl h h3 hT hB hn (by omega) N 0 (by omega) (by omega)
      rw [show bI (allN (fun k => decide (shwS S l (f + k) = B k)) 0) = nI 1 from rfl] at e
      rw [if_neg hc, e, if_bI, vl_q, nI_addq]
      by_cases z : fitB S B n l f = true
      · rw [if_pos z, (fv_at (by omega) ha z).1]
      · rw [if_neg z]
        exact ih (f + 1) (by omega) (by omega) (by simp only [allN, ha, Bool.true_and, Bool.eq_false_iff.mpr z, Bool.not_false])
theorem m_fitOf (hN : 1000 ≤ N) (hR : RS S τ) (hl : l < 8) (h : WFl S l) (h3 : τ.1 206 3 = nI n) (hT : ∀ j, j < n → τ.1 207 j = sbt (B j)) (hB : ∀ j, j < n → B j < 256) (hn : n ≤ 940) : f_X12_fitOf N (nI l) τ = some (fvI S B n l) := by
  have p1 := perS_le h
  exact m_foL hN hR hl h h3 hT hB hn N 0 (by omega) (by omega) rfl
theorem fv_m1 (h : WFl S l) : (fvI S B n l = -1) ↔ ¬ hsF S B n l = true := by
  have p1 := perS_le h
  have p2 := fp_le S B n l
  unfold fvI
  by_cases q : hsF S B n l = true
  · rw [if_pos q]
    exact ⟨fun z => absurd z (nI_nm1 (by omega)), fun z => absurd q z⟩
  · rw [if_neg q]
    exact ⟨fun _ => q, fun _ => rfl⟩
theorem fv_neg (h : WFl S l) : (fvI S B n l < 0) ↔ ¬ hsF S B n l = true := by
  have p1 := perS_le h
  have p2 := fp_le S B n l
  unfold fvI
  by_cases q : hsF S B n l = true
  · rw [if_pos q]
    exact ⟨fun z => absurd z (by rw [nI_lt0 (by omega)]; exact id), fun z => absurd q z⟩
  · rw [if_neg q]
    exact ⟨fun _ => q, fun _ => by decide⟩
theorem fv_pos (q : hsF S B n l = true) : fvI S B n l = nI (fpI S B n l) := if_pos q
end FitC
/-- all bytes are colours -/
def shOk (B : Nat → Nat) (n : Nat) : Bool := allN (fun j => decide (B j ≤ 3)) n
section FitD
variable {S B : Nat → Nat} {σ τ : St} {N n : Nat}
theorem c_shL (hT : TC σ n B) (hB : ∀ j, j < n → B j < 256) (hn : n ≤ 40) : ∀ m k, k ≤ n → n - k < m → shOk B k = true → f_X9_isShownRow_L20 N σ m (nI k) = some (bI (shOk B n)) := by
  intro m
  induction m with
  | zero => intro k _ h; omega
  | succ m ih =>
    intro k hk hm ha
    rw [f_X9_isShownRow_L20, vl_q, hT.1, if_leq (by omega) (by omega)]
    by_cases hc : n ≤ k
    · rw [if_pos hc]
      obtain rfl : k = n := by omega
      rw [ha]; rfl
    · have hb := hB k (by omega)
      rw [if_neg hc, ald_q (by omega) (by decide), hT.2 k (by omega), if_leq (by omega) (by decide), vl_q, nI_addq]
      by_cases z : B k ≤ 3
      · rw [if_pos z]
        exact ih (k + 1) (by omega) (by omega) (by unfold shOk at ha ⊢; simp only [allN, ha, Bool.true_and]; exact decide_eq_true z)
      · rw [if_neg z, show shOk B n = false from allN_f (k := k + 1) (by unfold shOk at ha; simp only [allN, ha, Bool.true_and]; exact decide_eq_false z) (by omega)]; rfl
theorem m_shL {k7 : Option (Int32 × St)} (h3 : τ.1 206 3 = nI n) (hT : ∀ j, j < n → τ.1 207 j = sbt (B j)) (hB : ∀ j, j < n → B j < 256) (hn : n ≤ 40) : ∀ m k, k ≤ n → n - k < m → shOk B k = true → f_X12_fits_L29 N τ k7 m (nI k) = if shOk B n = true then k7 else some (-1, τ) := by
  intro m
  induction m with
  | zero => intro k _ h; omega
  | succ m ih =>
    intro k hk hm ha
    rw [f_X12_fits_L29, vl_q, h3, if_leq (by omega) (by omega)]
    by_cases hc : n ≤ k
    · rw [if_pos hc]
      obtain rfl : k = n := by omega
      rw [if_pos ha]
    · have hb := hB k (by omega)
      rw [if_neg hc, m_octet hT hB (by omega) (by omega), bp_q, if_leq (by omega) (by decide), vl_q, nI_addq]
      by_cases z : B k ≤ 3
      · rw [if_pos z]
        exact ih (k + 1) (by omega) (by omega) (by unfold shOk at ha ⊢; simp only [allN, ha, Bool.true_and]; exact decide_eq_true z)
      · rw [if_neg z, if_neg (by rw [show shOk B n = false from allN_f (k := k + 1) (by unfold shOk at ha; simp only [allN, ha, Bool.true_and]; exact decide_eq_false z) (by omega)]; decide)]
theorem c_fitting (hN : 1000 ≤ N) (hC : WFC S) (hM : CRel σ 3 4 5 S) (hT : TC σ n B) (hB : ∀ j, j < n → B j < 256) (hn : n ≤ 940) : ∀ m l, l ≤ S 0 → S 0 - l < m → f_X11_fittingLights_L4 N σ m (nI (bset (hsF S B n) l)) (nI l) = some (nI (bset (hsF S B n) (S 0))) := by
  have c1 := hC.1
  intro m
  induction m with
  | zero => intro k _ h; omega
  | succ m ih =>
    intro l hl hm
    have hb := bset_lt8 (hsF S B n) (show l ≤ 8 by omega)
    have hb2 := bset_lt (hsF S B n) l
    rw [f_X11_fittingLights_L4, vl_q, hM.1, if_leq (by omega) (by omega)]
    by_cases hc : S 0 ≤ l
    · rw [if_pos hc]
      obtain rfl : l = S 0 := by omega
      rfl
    · have w := hC.2.2.2.1 l (by omega)
      have := ih (l + 1) (by omega) (by omega)
      rw [if_neg hc, ald_q (by omega) (by decide), c_leastFit hN w (hM.2.2.2.1 l (by omega)) hT hB hn, bp_q, jn_q, if_iff (fv_m1 w) (_j := instDecidableNot), or_bit hb2 (by omega)]
      simp only [vl_q, nI_addq]
      by_cases q : hsF S B n l = true
      · rw [if_neg (fun z => z q)]
        simpa only [bset, if_pos q] using this
      · rw [if_pos q]
        simpa only [bset, if_neg q, Nat.add_zero] using this
theorem m_fitting {k16 : Int32 → Option (Int32 × St)} (hN : 1000 ≤ N) (hC : WFC S) (hR : RS S τ) (h3 : τ.1 206 3 = nI n) (hT : ∀ j, j < n → τ.1 207 j = sbt (B j)) (hB : ∀ j, j < n → B j < 256) (hn : n ≤ 940) : ∀ m l, l ≤ S 0 → S 0 - l < m → f_X12_fits_L58 N τ k16 m (nI (bset (hsF S B n) l)) (nI l) = k16 (nI (bset (hsF S B n) (S 0))) := by
  have c1 := hC.1
  intro m
  induction m with
  | zero => intro k _ h; omega
  | succ m ih =>
    intro l hl hm
    have hb := bset_lt8 (hsF S B n) (show l ≤ 8 by omega)
    have hb2 := bset_lt (hsF S B n) l
    rw [f_X12_fits_L58, ald_S hR (by decide), if_leq (by omega) (by omega)]
    by_cases hc : S 0 ≤ l
    · rw [if_pos hc]
      obtain rfl : l = S 0 := by omega
      rfl
    · have w := hC.2.2.2.1 l (by omega)
      have := ih (l + 1) (by omega) (by omega)
      rw [if_neg hc, m_fitOf hN hR (by omega) w h3 hT hB hn, bp_q, jn_q, if_iff (fv_neg w) (_j := instDecidableNot)]
      simp only [vl_q, nI_addq]
      by_cases q : hsF S B n l = true
      · rw [if_neg (fun z => z q), or_bit hb2 (by omega)]
        simpa only [bset, if_pos q] using this
      · rw [if_pos q, or_0]
        simpa only [bset, if_neg q, Nat.add_zero] using this
/-- what a light's place is told as, for all eight -/
def fv8 (S B : Nat → Nat) (n l : Nat) : Int32 := if l < S 0 then fvI S B n l else -1
theorem Fr0_of {s s' : St} {b : Nat} (hb : reg b = 0) (h1 : ∀ j, j ≠ b → s'.1 j = s.1 j) (h2 : s'.2 = s.2) : Fr [0] s s' := fun j hj => by
  have : j ≠ b := fun e => hj (by rw [e, hb]; exact List.mem_singleton.mpr rfl)
  exact ⟨(h1 j this).symm, by rw [h2]⟩
theorem c_kfL {k4 : St → Option St} (hN : 1000 ≤ N) (hC : WFC S) (hM : CRel σ 3 4 5 S) (hT : TC σ n B) (hB : ∀ j, j < n → B j < 256) (hn : n ≤ 940) : ∀ m l s, l ≤ 8 → 8 - l < m → (∀ j, j ≠ 133 → s.1 j = σ.1 j) → s.2 = σ.2 → (∀ j, j < l → s.1 133 j = fv8 S B n j) → ∃ s', f_X11_keepFits_L2 N (nI (bset (hsF S B n) (S 0))) k4 m (nI l) s = k4 s' ∧ (∀ j, j ≠ 133 → s'.1 j = σ.1 j) ∧ s'.2 = σ.2 ∧ ∀ j, j < 8 → s'.1 133 j = fv8 S B n j := by
  have c1 := hC.1
  have c2 := hC.2.1
  have hb := bset_lt8 (hsF S B n) c1
  intro m
  induction m with
  | zero => intro k _ _ h; omega
  | succ m ih =>
    intro l s hl hm e1 e2 e3
    rw [f_X11_keepFits_L2, if_leq (by decide) (by omega)]
    by_cases hc : 8 ≤ l
    · rw [if_pos hc]
      exact ⟨s, rfl, e1, e2, fun j hj => e3 j (by omega)⟩
    · have hF : Fr [0] σ s := Fr0_of (by decide +kernel) e1 e2
      have go : ∀ v, v = fv8 S B n l → ∃ s', (ald (fun j => sI s 133 j v) 8 (nI l) fun s10 => vl (nI l + (nI 1)) fun v11 => f_X11_keepFits_L2 N (nI (bset (hsF S B n) (S 0))) k4 m v11 s10) = k4 s' ∧ (∀ j, j ≠ 133 → s'.1 j = σ.1 j) ∧ s'.2 = σ.2 ∧ ∀ j, j < 8 → s'.1 133 j = fv8 S B n j := by
        intro v hv
        rw [ald_q (by omega) (by decide), vl_q, nI_addq]
        exact ih (l + 1) _ (by omega) (by omega) (fun j hj => by rw [sI_ne hj]; exact e1 j hj) e2 (fun j hj => by
          rw [sI1, if_pos rfl]
          by_cases z : j = l
          · rw [if_pos z, z, hv]
          · rw [if_neg z]; exact e3 j (by omega))
      rw [if_neg hc, jn_q, shr_bit l (by omega) _ hb, if_eq0 (by omega), bset_bit]
      by_cases q : l < S 0 ∧ hsF S B n l = true
      · rw [if_pos q, if_neg (by decide), ald_q (by omega) (by decide)]
        have hT' : TC s n B := ⟨by rw [e1 1 (by decide)]; exact hT.1, fun j hj => by rw [e1 2 (by decide)]; exact hT.2 j hj⟩
        rw [c_leastFit hN (hC.2.2.2.1 l q.1) ((CRel_fr hF (by decide) c1 c2 hM).2.2.2.1 l q.1) hT' hB hn, bp_q]
        exact go _ (by unfold fv8; rw [if_pos q.1])
      · rw [if_neg q, if_pos rfl]
        refine go _ ?_
        unfold fv8
        by_cases z : l < S 0
        · rw [if_pos z]; unfold fvI; rw [if_neg (fun w => q ⟨z, w⟩)]
        · rw [if_neg z]
/-- how many that fit show sh, k seconds behind the row -/
def lcF (S B : Nat → Nat) (n k sh : Nat) : Nat := cntN (fun l => hsF S B n l && decide (shwS S l (fpI S B n l + n + k) = sh)) (S 0)
def lfF (S B : Nat → Nat) (n k : Nat) : Nat := mxN (lcF S B n k) 4
theorem lcF_le (S B : Nat → Nat) (n k sh : Nat) : lcF S B n k sh ≤ S 0 := cntN_le _ _
theorem lfF_le (S B : Nat → Nat) (n k : Nat) : lfF S B n k ≤ S 0 := mxN_le (lcF_le S B n k) _
theorem c_ml15 {k sh : Nat} {c7 : Int32} {k11 : Int32 → Option Int32} (hC : WFC S) (hM : CRel σ 3 4 5 S) (h1 : σ.1 1 1 = nI n) (h133 : ∀ j, j < 8 → σ.1 133 j = fv8 S B n j) (hn : n ≤ 940) (hk : k ≤ 100) (hsh : sh ≤ 3) : ∀ m l, l ≤ S 0 → S 0 - l < m → f_X11_mostLeft_L15 N (nI k) c7 (nI sh) σ k11 m (nI (cntN (fun l => hsF S B n l && decide (shwS S l (fpI S B n l + n + k) = sh)) l)) (nI l) = k11 (nI (lcF S B n k sh)) := by
  have c1 := hC.1
  intro m
  induction m with
  | zero => intro k _ h; omega
  | succ m ih =>
    intro l hl hm
    have hcn := cntN_le (fun l => hsF S B n l && decide (shwS S l (fpI S B n l + n + k) = sh)) l
    rw [f_X11_mostLeft_L15, vl_q, hM.1, if_leq (by omega) (by omega)]
    by_cases hc : S 0 ≤ l
    · rw [if_pos hc]
      obtain rfl : l = S 0 := by omega
      rfl
    · have w := hC.2.2.2.1 l (by omega)
      have p1 := perS_le w
      have p2 := fp_le S B n l
      have ih' := ih (l + 1) (by omega) (by omega)
      simp only [cntN] at ih'
      rw [if_neg hc, ald_q (by omega) (by decide), h133 l (by omega)]
      unfold fv8
      rw [if_pos (by omega), jn_q, if_iff (fv_m1 w) (_j := instDecidableNot)]
      simp only [vl_q, nI_addq]
      by_cases q : hsF S B n l = true
      · have hs := shwS_le w (fpI S B n l + n + k)
        rw [if_neg (fun z => z q), ald_q (by omega) (by decide), h1, fv_pos q, nI_addq, nI_addq, c_shownAt w (hM.2.2.2.1 l (by omega)) (by omega), bp_q, if_eqq (by omega) (by omega)]
        by_cases z : shwS S l (fpI S B n l + n + k) = sh
        · rw [if_pos z]
          rw [if_pos (by rw [q, decide_eq_true z]; rfl)] at ih'
          exact ih'
        · rw [if_neg z]
          rw [if_neg (by rw [q, decide_eq_false z]; decide), Nat.add_zero] at ih'
          exact ih'
      · rw [if_pos q]
        rw [if_neg (by rw [Bool.eq_false_iff.mpr q]; simp), Nat.add_zero] at ih'
        exact ih'
theorem c_ml4 {k : Nat} (hN : 1000 ≤ N) (hC : WFC S) (hM : CRel σ 3 4 5 S) (h1 : σ.1 1 1 = nI n) (h133 : ∀ j, j < 8 → σ.1 133 j = fv8 S B n j) (hn : n ≤ 940) (hk : k ≤ 100) : ∀ m sh, sh ≤ 4 → 4 - sh < m → f_X11_mostLeft_L4 N (nI k) σ m (nI (mxN (lcF S B n k) sh)) (nI sh) = some (nI (lfF S B n k)) := by
  have c1 := hC.1
  intro m
  induction m with
  | zero => intro k _ h; omega
  | succ m ih =>
    intro sh hs hm
    have hmx := mxN_le (lcF_le S B n k) sh
    have hlc := lcF_le S B n k sh
    rw [f_X11_mostLeft_L4, if_ltq (by decide) (by omega)]
    by_cases hc : 3 < sh
    · rw [if_pos hc]
      obtain rfl : sh = 4 := by omega
      rfl
    · have e := c_ml15 (σ := σ) (B := B) (N := N) (n := n) (k := k) (sh := sh) (c7 := nI (mxN (lcF S B n k) sh)) (k11 := fun (v25 : Int32) => vl (mx (nI (mxN (lcF S B n k) sh)) v25) fun v26 => vl (nI sh + (nI 1)) fun v27 => f_X11_mostLeft_L4 N (nI k) σ m v26 v27) hC hM h1 h133 hn hk (by omega) N 0 (by omega) (by omega)
      rw [show cntN (fun l => hsF S B n l && decide (shwS S l (fpI S B n l + n + k) = sh)) 0 = 0 from rfl] at e
      rw [if_neg hc, e, vl_q, vl_q, mx_q (by omega) (by omega), nI_addq]
      exact ih (sh + 1) (by omega) (by omega)
theorem c_mostLeft {k : Nat} (hN : 1000 ≤ N) (hC : WFC S) (hM : CRel σ 3 4 5 S) (h1 : σ.1 1 1 = nI n) (h133 : ∀ j, j < 8 → σ.1 133 j = fv8 S B n j) (hn : n ≤ 940) (hk : k ≤ 100) : f_X11_mostLeft N (nI k) σ = some (nI (lfF S B n k)) := c_ml4 hN hC hM h1 h133 hn hk N 0 (by omega) (by omega)
theorem m_lb17 {k sh : Nat} {c9 : Int32} {k13 : Int32 → Option Int32} (hN : 10 ≤ N) (hC : WFC S) (hR : RS S τ) (h217 : ∀ j, j < S 0 → τ.1 217 j = fvI S B n j) (hn : n ≤ 940) (hk : k ≤ 100) (hsh : sh ≤ 3) : ∀ m l, l ≤ S 0 → S 0 - l < m → f_X12_leftBy_L17 N (nI k) (nI n) c9 (nI sh) τ k13 m (nI (cntN (fun l => hsF S B n l && decide (shwS S l (fpI S B n l + n + k) = sh)) l)) (nI l) = k13 (nI (lcF S B n k sh)) := by
  have c1 := hC.1
  intro m
  induction m with
  | zero => intro k _ h; omega
  | succ m ih =>
    intro l hl hm
    have hcn := cntN_le (fun l => hsF S B n l && decide (shwS S l (fpI S B n l + n + k) = sh)) l
    rw [f_X12_leftBy_L17, ald_S hR (by decide), if_leq (by omega) (by omega)]
    by_cases hc : S 0 ≤ l
    · rw [if_pos hc]
      obtain rfl : l = S 0 := by omega
      rfl
    · have w := hC.2.2.2.1 l (by omega)
      have p1 := perS_le w
      have p2 := fp_le S B n l
      have ih' := ih (l + 1) (by omega) (by omega)
      simp only [cntN] at ih'
      rw [if_neg hc, ald_q (by omega) (by decide), h217 l (by omega), jn_q, jn_q, if_iff (fv_neg w) (_j := instDecidableNot)]
      simp only [vl_q, nI_addq]
      by_cases q : hsF S B n l = true
      · have hs := shwS_le w (fpI S B n l + n + k)
        rw [if_neg (fun z => z q), ald_q (by omega) (by decide), h217 l (by omega), fv_pos q, nI_addq, nI_addq, m_showsAt hN hR (by omega) w (by omega), bp_q, if_eqq (by omega) (by omega)]
        by_cases z : shwS S l (fpI S B n l + n + k) = sh
        · rw [if_pos z]
          rw [if_pos (by rw [q, decide_eq_true z]; rfl)] at ih'
          exact ih'
        · rw [if_neg z]
          rw [if_neg (by rw [q, decide_eq_false z]; decide)] at ih'
          exact ih'
      · rw [if_pos q]
        rw [if_neg (by rw [Bool.eq_false_iff.mpr q]; simp)] at ih'
        exact ih'
theorem m_greater {a b : Nat} (ha : a < 100000) (hb : b < 100000) : f_X12_greater (nI a) (nI b) τ = some (nI (max a b)) := by
  unfold f_X12_greater
  rw [if_leq (by omega) (by omega)]
  split
  · rw [Nat.max_eq_right (by omega)]
  · rw [Nat.max_eq_left (by omega)]
theorem m_lb5 {k : Nat} (hN : 1000 ≤ N) (hC : WFC S) (hR : RS S τ) (h217 : ∀ j, j < S 0 → τ.1 217 j = fvI S B n j) (hn : n ≤ 940) (hk : k ≤ 100) : ∀ m sh, sh ≤ 4 → 4 - sh < m → f_X12_leftBy_L5 N (nI k) (nI n) τ m (nI (mxN (lcF S B n k) sh)) (nI sh) = some (nI (lfF S B n k)) := by
  have c1 := hC.1
  intro m
  induction m with
  | zero => intro k _ h; omega
  | succ m ih =>
    intro sh hs hm
    have hmx := mxN_le (lcF_le S B n k) sh
    have hlc := lcF_le S B n k sh
    rw [f_X12_leftBy_L5, if_leq (by decide) (by omega)]
    by_cases hc : 4 ≤ sh
    · rw [if_pos hc]
      obtain rfl : sh = 4 := by omega
      rfl
    · have e := m_lb17 (τ := τ) (B := B) (N := N) (n := n) (k := k) (sh := sh) (c9 := nI (mxN (lcF S B n k) sh)) (k13 := fun (v26 : Int32) => bp (f_X12_greater (nI (mxN (lcF S B n k) sh)) v26 τ) fun v27 => vl (nI sh + (nI 1)) fun v28 => f_X12_leftBy_L5 N (nI k) (nI n) τ m v27 v28) (by omega) hC hR h217 hn hk (by omega) N 0 (by omega) (by omega)
      rw [show cntN (fun l => hsF S B n l && decide (shwS S l (fpI S B n l + n + k) = sh)) 0 = 0 from rfl] at e
      rw [if_neg hc, e, m_greater (by omega) (by omega), bp_q, vl_q, nI_addq]
      exact ih (sh + 1) (by omega) (by omega)
theorem m_leftBy {k : Nat} (hN : 1000 ≤ N) (hC : WFC S) (hR : RS S τ) (h217 : ∀ j, j < S 0 → τ.1 217 j = fvI S B n j) (hn : n ≤ 940) (hk : k ≤ 100) : f_X12_leftBy N (nI k) (nI n) τ = some (nI (lfF S B n k)) := m_lb5 hN hC hR h217 hn hk N 0 (by omega) (by omega)
/-- the second to look in, of the first k -/
def askN (S B : Nat → Nat) (n : Nat) : Nat → Nat
  | 0 => 0
  | k + 1 => if lfF S B n k < lfF S B n (askN S B n k) then k else askN S B n k
theorem askN_s (S B : Nat → Nat) (n k : Nat) : askN S B n (k + 1) = if lfF S B n k < lfF S B n (askN S B n k) then k else askN S B n k := rfl
theorem askN_1 (S B : Nat → Nat) (n : Nat) : askN S B n 1 = 0 := by
  rw [askN_s, show askN S B n 0 = 0 from rfl, if_neg (Nat.lt_irrefl _)]
theorem askN_le (S B : Nat → Nat) (n : Nat) : ∀ k, askN S B n k ≤ k
  | 0 => Nat.le_refl _
  | k + 1 => by have := askN_le S B n k; rw [askN_s]; split <;> omega
theorem c_askL (hN : 1000 ≤ N) (hC : WFC S) (hM : CRel σ 3 4 5 S) (h1 : σ.1 1 1 = nI n) (h133 : ∀ j, j < 8 → σ.1 133 j = fv8 S B n j) (hn : n ≤ 940) : ∀ m k, 1 ≤ k → k ≤ 40 → 40 - k < m → f_X11_keepFits_L61 N m (nI (lfF S B n (askN S B n k))) (nI k) (sI σ 0 17 (nI (askN S B n k))) = some (sI σ 0 17 (nI (askN S B n 40))) := by
  have c1 := hC.1
  have c2 := hC.2.1
  intro m
  induction m with
  | zero => intro k _ _ h; omega
  | succ m ih =>
    intro k hk0 hk hm
    have hF : Fr [0] σ (sI σ 0 17 (nI (askN S B n k))) := Fr.rf.sI (by decide +kernel)
    have l1 := lfF_le S B n k
    have l2 := lfF_le S B n (askN S B n k)
    rw [f_X11_keepFits_L61, if_ltq (by decide) (by omega)]
    by_cases hc : 39 < k
    · rw [if_pos hc]
      obtain rfl : k = 40 := by omega
      rfl
    · have ih' := ih (k + 1) (by omega) (by omega) (by omega)
      rw [askN_s _ _ _ k] at ih'
      rw [if_neg hc, c_mostLeft hN hC (CRel_fr hF (by decide) c1 c2 hM) (by rw [sI1, if_neg (by decide)]; exact h1) (fun j hj => by rw [sI1, if_neg (by decide)]; exact h133 j hj) hn (by omega), bp_q, jn_q, if_leq (by omega) (by omega)]
      simp only [vl_q, nI_addq]
      by_cases z : lfF S B n k < lfF S B n (askN S B n k)
      · rw [if_neg (by omega), sI_sI]
        rw [if_pos z] at ih'
        exact ih'
      · rw [if_pos (by omega)]
        rw [if_neg z] at ih'
        exact ih'
theorem m_ft115 {k33 : St → Option (Int32 × St)} {c30 : Int32} (hN : 1000 ≤ N) (hC : WFC S) (hR : RS S τ) (h3 : τ.1 206 3 = nI n) (hT : ∀ j, j < n → τ.1 207 j = sbt (B j)) (hB : ∀ j, j < n → B j < 256) (hn : n ≤ 940) : ∀ m l s, l ≤ S 0 → S 0 - l < m → (∀ j, j ≠ 217 → s.1 j = τ.1 j) → (∀ j, j < l → s.1 217 j = fvI S B n j) → ∃ s', f_X12_fits_L115 N c30 k33 m (nI l) s = k33 s' ∧ (∀ j, j ≠ 217 → s'.1 j = τ.1 j) ∧ ∀ j, j < S 0 → s'.1 217 j = fvI S B n j := by
  have c1 := hC.1
  intro m
  induction m with
  | zero => intro k _ _ h; omega
  | succ m ih =>
    intro l s hl hm e1 e3
    have hR' : RS S s := RS_o hR (fun j => by rw [e1 208 (by decide)])
    rw [f_X12_fits_L115, ald_S hR' (by decide), if_leq (by omega) (by omega)]
    by_cases hc : S 0 ≤ l
    · rw [if_pos hc]
      exact ⟨s, rfl, e1, fun j hj => e3 j (by omega)⟩
    · rw [if_neg hc, m_fitOf hN hR' (by omega) (hC.2.2.2.1 l (by omega)) (by rw [e1 206 (by decide)]; exact h3) (fun j hj => by rw [e1 207 (by decide)]; exact hT j hj) hB hn, bp_q, ald_q (by omega) (by decide), vl_q, nI_addq]
      exact ih (l + 1) _ (by omega) (by omega) (fun j hj => by rw [sI_ne hj]; exact e1 j hj) (fun j hj => by
        rw [sI1, if_pos rfl]
        by_cases z : j = l
        · rw [if_pos z, z]
        · rw [if_neg z]; exact e3 j (by omega))
theorem m_askL {v : Int32} (hN : 1000 ≤ N) (hC : WFC S) (hR : RS S τ) (h3 : τ.1 206 3 = nI n) (h217 : ∀ j, j < S 0 → τ.1 217 j = fvI S B n j) (hn : n ≤ 940) : ∀ m k, 1 ≤ k → k ≤ 40 → 40 - k < m → f_X12_fits_L149 N v m (nI k) (sI τ 206 32 (nI (askN S B n k))) = some (v, sI τ 206 32 (nI (askN S B n 40))) := by
  have c1 := hC.1
  intro m
  induction m with
  | zero => intro k _ _ h; omega
  | succ m ih =>
    intro k hk0 hk hm
    have l1 := lfF_le S B n k
    have l2 := lfF_le S B n (askN S B n k)
    have l3 := askN_le S B n k
    have hR' : RS S (sI τ 206 32 (nI (askN S B n k))) := RS_o hR (fun j => by rw [sI1, if_neg (by decide)])
    have h217' : ∀ j, j < S 0 → (sI τ 206 32 (nI (askN S B n k))).1 217 j = fvI S B n j := fun j hj => by rw [sI1, if_neg (by decide)]; exact h217 j hj
    rw [f_X12_fits_L149, if_leq (by decide) (by omega)]
    by_cases hc : 40 ≤ k
    · rw [if_pos hc]
      obtain rfl : k = 40 := by omega
      rfl
    · have ih' := ih (k + 1) (by omega) (by omega) (by omega)
      rw [askN_s _ _ _ k] at ih'
      have x3 : (sI τ 206 32 (nI (askN S B n k))).1 206 3 = nI n := by rw [sI1, if_pos rfl, if_neg (by decide)]; exact h3
      have x32 : (sI τ 206 32 (nI (askN S B n k))).1 206 32 = nI (askN S B n k) := by rw [sI1, if_pos rfl, if_pos rfl]
      rw [if_neg hc, vl_q, x3, m_leftBy hN hC hR' h217' hn (by omega), bp_q, vl_q, x32, vl_q, m_leftBy hN hC hR' h217' hn (by omega), bp_q, jn_q, if_leq (by omega) (by omega)]
      simp only [vl_q, nI_addq]
      by_cases z : lfF S B n k < lfF S B n (askN S B n k)
      · rw [if_neg (by omega), sI_sI]
        rw [if_pos z] at ih'
        exact ih'
      · rw [if_pos (by omega)]
        rw [if_neg z] at ih'
        exact ih'
end FitD
theorem k_fits {σ τ : St} {S : Nat → Nat} {u top N n : Nat} {H : Nat → Nat → Nat} {B : Nat → Nat} (hN : 1000 ≤ N) (hK : KRel σ τ S u top H) (hT : TapR σ τ n B) (hMR : MRel σ τ) : ∃ r σ' τ', f_X11_fits N σ = some (r, σ') ∧ f_X12_fits N τ = some (r, τ') ∧ MRel σ' τ' ∧ σ'.1 1 1 = nI 0 ∧ τ'.1 206 2 = nI 0 := by
  have hh := hK
  obtain ⟨h1, h2, hW, h4, h5, h6, h7, h8⟩ := hh
  have c1 := h2.1
  have c2 := h2.2.1
  obtain ⟨t1, t2, t3, t4⟩ := hT
  have hR1 : RS S (tkS (nI 940) τ) := RS_o h1 (fun j => by rw [tk_c (by decide)])
  have e3 : (tkS (nI 940) τ).1 206 3 = nI n := by rw [tk_3]; exact t3.1
  have t3' : ∀ j, j < n → (tkS (nI 940) τ).1 207 j = sbt (B j) := fun j hj => by rw [tk_c (by decide)]; exact t3.2 j hj
  have mtk : MRel (sI σ 1 1 (nI 0)) (tkS (nI 940) τ) := MRel_eq hMR (sI_ne (by decide)) (sI_ne (by decide)) (sI_ne (by decide)) (sI_ne (by decide)) (fun k hk => tk_n (by omega) (by omega) (by omega) (by omega) (by omega)) (tk_c (by decide)) (tk_c (by decide)) (tk_c (by decide))
  have none_ : ∀ (r : Int32), ∃ (r' : Int32) (σ' τ' : St), some (r, sI σ 1 1 (nI 0)) = some (r', σ') ∧ some (r, tkS (nI 940) τ) = some (r', τ') ∧ MRel σ' τ' ∧ σ'.1 1 1 = nI 0 ∧ τ'.1 206 2 = nI 0 := fun r => ⟨r, _, _, rfl, rfl, mtk, by rw [sI1, if_pos rfl, if_pos rfl], tk_2⟩
  unfold f_X11_fits f_X12_fits f_X9_isShownRow
  rw [vl_q, vl_q, vl_q, m_taken, bp_q, vl_q, e3, m_isIn, bp_q, t2.1, if_eq0 (by omega), if_leq (by omega) (by decide), if_bI]
  have e1 : (nI 1).toInt = 1 := rfl
  have e40 : (nI 40).toInt = 40 := rfl
  rw [e1, e40, nI_toInt (by omega)]
  by_cases q : 1 ≤ n ∧ n ≤ 40
  · have hq : decide ((1 : Int) ≤ (n : Int) ∧ (n : Int) ≤ 40) = true := decide_eq_true (by omega)
    rw [if_pos hq, if_neg (show ¬ n = 0 by omega), if_pos q.2]
    have a1 := c_shL (σ := σ) (N := N) t2 t4 q.2 N 0 (by omega) (by omega) rfl
    have a2 := fun k7 => m_shL (τ := tkS (nI 940) τ) (N := N) (k7 := k7) e3 t3' t4 q.2 N 0 (by omega) (by omega) rfl
    rw [a1, bp_q, jn_q, a2, if_bI]
    by_cases hok : shOk B n = true
    · have b1 := c_fitting (σ := σ) (N := N) hN h2 h5 t2 t4 t1 N 0 (by omega) (by omega)
      have hb := bset_lt8 (hsF S B n) c1
      rw [if_pos hok, if_pos hok]
      unfold f_X11_fittingLights
      rw [show nI (bset (hsF S B n) 0) = nI 0 from rfl] at b1
      rw [b1, bp_q]
      dsimp only
      rw [jn_q, if_le0 (by omega)]
      have b2 := m_fitting (τ := tkS (nI 940) τ) (B := B) (N := N) (n := n) (k16 := fun (v26 : Int32) =>
      if v26 = 0 then
        some ((nI 0), tkS (nI 940) τ)
      else
      vl (sI (tkS (nI 940) τ) 206 30 v26) fun s27 =>
      ald (s27.1 208) 359 (nI 0) fun v28 =>
      vl (sI s27 206 31 v28) fun s29 =>
      f_X12_fits_L115 N v26 (fun (s41 : St) =>
        vl (sI s41 206 32 (nI 0)) fun s42 =>
        f_X12_fits_L149 N v26 N (nI 1) s42) N (nI 0) s29) hN h2 hR1 e3 t3' t4 t1 N 0 (by omega) (by omega)
      rw [show nI (bset (hsF S B n) 0) = nI 0 from rfl] at b2
      rw [b2, if_eq0 (by omega)]
      by_cases z : bset (hsF S B n) (S 0) = 0
      · rw [if_pos z, if_pos z, z]
        exact none_ _
      · rw [if_neg z, if_neg z]
        unfold f_X11_keepFits
        obtain ⟨s1, g1, g2, g3, g4⟩ := c_kfL (σ := σ) (N := N) (k4 := fun (s15 : St) => vl (sI s15 0 17 (nI 0)) fun s16 => bp (f_X11_mostLeft N (nI 0) s16) fun v17 => f_X11_keepFits_L61 N N v17 (nI 1) s16) hN h2 h5 t2 t4 t1 N 0 σ (by omega) (by omega) (fun _ _ => rfl) rfl (fun j hj => by omega)
        have hF1 : Fr [0] σ s1 := Fr0_of (by decide +kernel) g2 g3
        have hM1 := CRel_fr hF1 (by decide) c1 c2 h5
        have h11 : s1.1 1 1 = nI n := by rw [g2 1 (by decide)]; exact t2.1
        have hF2 : Fr [0] s1 (sI s1 0 17 (nI 0)) := Fr.rf.sI (by decide +kernel)
        have g5 := c_askL (σ := s1) (B := B) (N := N) hN h2 hM1 h11 g4 t1 N 1 (by omega) (by omega) (by omega)
        rw [askN_1] at g5
        rw [g1, vl_q, c_mostLeft hN h2 (CRel_fr hF2 (by decide) c1 c2 hM1) (by rw [sI1, if_neg (by decide)]; exact h11) (fun j hj => by rw [sI1, if_neg (by decide)]; exact g4 j hj) t1 (by omega), bp_q, g5, bp_q]
        simp only [vl_q]
        have r0 : (sI (tkS (nI 940) τ) 206 30 (nI (bset (hsF S B n) (S 0)))).1 208 0 = nI (S 0) := by rw [sI1, if_neg (by decide)]; exact hR1 0 (by decide)
        rw [ald_q (by decide) (by decide), r0]
        have hR2 : RS S (sI (sI (tkS (nI 940) τ) 206 30 (nI (bset (hsF S B n) (S 0)))) 206 31 (nI (S 0))) := RS_o hR1 (fun j => by rw [sI1, if_neg (by decide), sI1, if_neg (by decide)])
        obtain ⟨u1, d1, d2, d3⟩ := m_ft115 (τ := sI (sI (tkS (nI 940) τ) 206 30 (nI (bset (hsF S B n) (S 0)))) 206 31 (nI (S 0))) (B := B) (N := N) (n := n) (c30 := nI (bset (hsF S B n) (S 0))) (k33 := fun (s41 : St) => f_X12_fits_L149 N (nI (bset (hsF S B n) (S 0))) N (nI 1) (sI s41 206 32 (nI 0))) hN h2 hR2 (by rw [sI1, if_pos rfl, if_neg (by decide), sI1, if_pos rfl, if_neg (by decide)]; exact e3) (fun j hj => by rw [sI1, if_neg (by decide), sI1, if_neg (by decide)]; exact t3' j hj) t4 t1 N 0 _ (by omega) (by omega) (fun _ _ => rfl) (fun j hj => by omega)
        have d4 := m_askL (τ := u1) (B := B) (N := N) (n := n) (v := nI (bset (hsF S B n) (S 0))) hN h2 (RS_o hR2 (fun j => by rw [d2 208 (by decide)])) (by rw [d2 206 (by decide), sI1, if_pos rfl, if_neg (by decide), sI1, if_pos rfl, if_neg (by decide)]; exact e3) d3 t1 N 1 (by omega) (by omega) (by omega)
        rw [askN_1] at d4
        rw [d1, d4]
        refine ⟨_, _, _, rfl, rfl, ?_, by rw [sI1, if_pos rfl, if_pos rfl], ?_⟩
        · obtain ⟨m1, m2, m3, m4, m5, m6, m7, m8⟩ := hMR
          have cl : ∀ k, k ≠ 17 → (sI (sI s1 0 17 (nI (askN S B n 40))) 1 1 (nI 0)).1 0 k = σ.1 0 k := fun k hk => by rw [sI1, if_neg (by decide), sI1, if_pos rfl, if_neg hk, g2 0 (by decide)]
          have mo : ∀ k, k = 15 ∨ k = 26 ∨ k = 27 ∨ k = 33 ∨ k = 34 ∨ k = 35 ∨ k = 36 ∨ k = 38 ∨ k = 42 → (sI u1 206 32 (nI (askN S B n 40))).1 206 k = τ.1 206 k := fun k hk => by
            rw [sI1, if_pos rfl, if_neg (by omega), d2 206 (by decide), sI1, if_pos rfl, if_neg (by omega), sI1, if_pos rfl, if_neg (by omega)]
            exact tk_n (by omega) (by omega) (by omega) (by omega) (by omega)
          have row : ∀ b, b ≠ 206 → b ≠ 217 → (sI u1 206 32 (nI (askN S B n 40))).1 b = τ.1 b := fun b hb hb2 => by
            rw [sI_ne hb, d2 b hb2, sI_ne hb, sI_ne hb]
            exact tk_c hb
          have crow : ∀ b, b ≠ 0 → b ≠ 1 → b ≠ 133 → (sI (sI s1 0 17 (nI (askN S B n 40))) 1 1 (nI 0)).1 b = σ.1 b := fun b h0 h1 h3 => by rw [sI_ne h1, sI_ne h0, g2 b h3]
          refine ⟨?_, ?_, ?_, ?_, ?_, ?_, ?_, ?_⟩
          · unfold FltR at m1 ⊢; rw [cl 15 (by decide), mo 15 (by decide)]; exact m1
          · unfold ChgR at m2 ⊢; rw [cl 16 (by decide), mo 26 (by decide), mo 27 (by decide)]; exact m2
          · unfold AskR
            have x30 : (sI u1 206 32 (nI (askN S B n 40))).1 206 30 = nI (bset (hsF S B n) (S 0)) := by rw [sI1, if_pos rfl, if_neg (by decide), d2 206 (by decide), sI1, if_pos rfl, if_neg (by decide), sI1, if_pos rfl, if_pos rfl]
            rw [x30, if_le0 (by omega), if_neg z, sI1, if_neg (by decide), sI1, if_pos rfl, if_pos rfl, sI1, if_pos rfl, if_pos rfl]
          · unfold SptR at m4 ⊢; rw [cl 18 (by decide), mo 33 (by decide), mo 35 (by decide)]; exact m4
          · unfold FixR at m5 ⊢; rw [cl 19 (by decide), mo 34 (by decide), mo 36 (by decide)]; exact m5
          · refine ⟨S 0, c1, ?_, fun l hl => ?_⟩
            · rw [sI1, if_pos rfl, if_neg (by decide), d2 206 (by decide), sI1, if_pos rfl, if_pos rfl]
            · rw [sI1, if_neg (by decide), sI1, if_neg (by decide), g4 l hl]
              unfold fv8
              by_cases w : l < S 0
              · rw [if_pos w, if_pos w, sI1, if_neg (by decide), d3 l w]
              · rw [if_neg w, if_neg w]
          · unfold TldR at m7 ⊢
            intro k hk
            rw [crow 134 (by decide) (by decide) (by decide), mo 42 (by decide), row 219 (by decide) (by decide)]
            exact m7 k hk
          · unfold TagR at m8 ⊢
            rw [cl 14 (by decide), crow 135 (by decide) (by decide) (by decide), mo 38 (by decide), row 218 (by decide) (by decide)]
            exact m8
        · rw [sI1, if_pos rfl, if_neg (by decide), d2 206 (by decide), sI1, if_pos rfl, if_neg (by decide), sI1, if_pos rfl, if_neg (by decide)]
          exact tk_2
    · rw [if_neg hok, if_neg hok]
      dsimp only
      rw [jn_q, if_pos (by decide)]
      exact none_ _
  · have hq : ¬ decide ((1 : Int) ≤ (n : Int) ∧ (n : Int) ≤ 40) = true := fun z => q (by have := of_decide_eq_true z; omega)
    have no : (if n = 0 then some (nI 0) else if n ≤ 40 then f_X9_isShownRow_L20 N σ N (nI 0) else some (nI 0)) = some (nI 0) := by
      by_cases z : n = 0
      · rw [if_pos z]
      · rw [if_neg z, if_neg (by omega)]
    rw [if_neg hq, no, bp_q, jn_q, if_pos (by decide)]
    dsimp only
    rw [jn_q, if_pos (by decide)]
    exact none_ _
