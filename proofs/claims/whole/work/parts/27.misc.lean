/-! what the object keeps of its calls besides: both sides -/
def FltR (σ τ : St) : Prop := σ.1 0 15 = τ.1 206 15
def ChgR (σ τ : St) : Prop := σ.1 0 16 = if τ.1 206 27 = 0 then -1 else τ.1 206 26
def AskR (σ τ : St) : Prop := σ.1 0 17 = if τ.1 206 30 ≤ 0 then -1 else τ.1 206 32
def SptR (σ τ : St) : Prop := σ.1 0 18 = if τ.1 206 35 = 0 then -1 else τ.1 206 33
def FixR (σ τ : St) : Prop := σ.1 0 19 = if τ.1 206 36 = 0 then -1 else τ.1 206 34
def FitR (σ τ : St) : Prop := ∃ n, n ≤ 8 ∧ τ.1 206 31 = nI n ∧ ∀ l, l < 8 → σ.1 133 l = if l < n then τ.1 217 l else -1
def TldR (σ τ : St) : Prop := ∀ k, k < 4 → σ.1 134 k = if τ.1 206 42 = 0 then -1 else τ.1 219 k
def TagR (σ τ : St) : Prop := ∃ n, n ≤ 32 ∧ σ.1 0 14 = nI n ∧ τ.1 206 38 = nI n ∧ ∀ j, j < n → σ.1 135 j = τ.1 218 j
def MRel (σ τ : St) : Prop := FltR σ τ ∧ ChgR σ τ ∧ AskR σ τ ∧ SptR σ τ ∧ FixR σ τ ∧ FitR σ τ ∧ TldR σ τ ∧ TagR σ τ
theorem MRel_eq {σ σ' τ τ' : St} (h : MRel σ τ) (e0 : σ'.1 0 = σ.1 0) (e3 : σ'.1 133 = σ.1 133) (e4 : σ'.1 134 = σ.1 134) (e5 : σ'.1 135 = σ.1 135) (m : ∀ k, k = 15 ∨ k = 26 ∨ k = 27 ∨ k = 30 ∨ k = 31 ∨ k = 32 ∨ k = 33 ∨ k = 34 ∨ k = 35 ∨ k = 36 ∨ k = 38 ∨ k = 42 → τ'.1 206 k = τ.1 206 k) (m7 : τ'.1 217 = τ.1 217) (m8 : τ'.1 218 = τ.1 218) (m9 : τ'.1 219 = τ.1 219) : MRel σ' τ' := by
  unfold MRel FltR ChgR AskR SptR FixR FitR TldR TagR at h ⊢
  rw [e0, e3, e4, e5, m7, m8, m9, m 15 (by decide), m 26 (by decide), m 27 (by decide), m 30 (by decide), m 31 (by decide), m 32 (by decide), m 33 (by decide), m 34 (by decide), m 35 (by decide), m 36 (by decide), m 38 (by decide), m 42 (by decide)]
  exact h
theorem rd_of {τ : St} {r : Int32} {a : Option Int32} {b : Option (Int32 × St)} (h1 : a = some r) (h2 : b = some (r, sI τ 206 0 (nI 0))) : rdE τ a b := ⟨r, h1, h2⟩
theorem t0_n {τ : St} {k : Nat} (h : k ≠ 0) : (sI τ 206 0 (nI 0)).1 206 k = τ.1 206 k := by rw [sI1, if_pos rfl, if_neg h]
theorem t0_c {τ : St} {b : Nat} (h : b ≠ 206) : (sI τ 206 0 (nI 0)).1 b = τ.1 b := funext fun j => by rw [sI1, if_neg h]
theorem k_fault {σ τ : St} (h : FltR σ τ) : rdE τ (f_X11_fault σ) (f_X12_fault τ) := by
  unfold f_X11_fault f_X12_fault
  simp only [vl_q]
  rw [t0_n (by decide), h]
  exact rd_no _ _
theorem k_changes {σ τ : St} (h : ChgR σ τ) : rdE τ (f_X11_changes σ) (f_X12_changes τ) := by
  unfold f_X11_changes f_X12_changes
  simp only [vl_q]
  rw [t0_n (by decide), t0_n (by decide), h]
  by_cases q : τ.1 206 27 = 0
  · rw [if_pos q, if_pos q]; exact rd_no _ _
  · rw [if_neg q, if_neg q]; exact rd_no _ _
theorem k_ask {σ τ : St} (h : AskR σ τ) : rdE τ (f_X11_ask σ) (f_X12_ask τ) := by
  unfold f_X11_ask f_X12_ask
  simp only [vl_q]
  rw [t0_n (by decide), t0_n (by decide), h]
  by_cases q : τ.1 206 30 ≤ 0
  · rw [if_pos q, if_pos q]; exact rd_no _ _
  · rw [if_neg q, if_neg q]; exact rd_no _ _
theorem k_spotsAt {σ τ : St} (h : SptR σ τ) : rdE τ (f_X11_spotsAt σ) (f_X12_spotsAt τ) := by
  unfold f_X11_spotsAt f_X12_spotsAt
  simp only [vl_q]
  rw [t0_n (by decide), t0_n (by decide), h]
  by_cases q : τ.1 206 35 = 0
  · rw [if_pos q, if_pos q]; exact rd_no _ _
  · rw [if_neg q, if_neg q]; exact rd_no _ _
theorem k_fixAt {σ τ : St} (h : FixR σ τ) : rdE τ (f_X11_fixAt σ) (f_X12_fixAt τ) := by
  unfold f_X11_fixAt f_X12_fixAt
  simp only [vl_q]
  rw [t0_n (by decide), t0_n (by decide), h]
  by_cases q : τ.1 206 36 = 0
  · rw [if_pos q, if_pos q]; exact rd_no _ _
  · rw [if_neg q, if_neg q]; exact rd_no _ _
/-- a range that ends one below n -/
theorem isN_dec {x : Int32} {n : Nat} (hn : n < 100000) : decide ((nI 0).toInt ≤ x.toInt ∧ x.toInt ≤ (nI n - nI 1).toInt) = isN x n := by
  unfold isN
  have e1 : (nI 0).toInt = 0 := rfl
  have e2 := pk_sub_toInt (a := n) (b := 1) (by omega) (by decide)
  rw [e1, e2]
  exact decide_eq_decide.mpr ⟨fun h => by omega, fun h => by omega⟩
theorem isN_up {x : Int32} {n : Nat} (hn : n < 100000) : decide ((nI 0).toInt ≤ x.toInt ∧ x.toInt ≤ (nI n).toInt) = isN x (n + 1) := by
  unfold isN
  have e1 : (nI 0).toInt = 0 := rfl
  have e2 := nI_toInt (n := n) (by omega)
  rw [e1, e2]
  exact decide_eq_decide.mpr ⟨fun h => by omega, fun h => by omega⟩
/-- the class's test of a place -/
theorem pl_q {T : Type} {x : Int32} {n : Nat} (hn : n < 100000) {A B : T} : (if x < 0 then A else if nI n ≤ x then A else B) = if isN x n = true then B else A := by
  have e1 : (0 : Int32).toInt = 0 := rfl
  have e2 := nI_toInt (n := n) (by omega)
  by_cases q : isN x n = true
  · have := of_decide_eq_true q
    rw [if_pos q, if_neg (by rw [Int32.lt_iff_toInt_lt]; omega), if_neg (by rw [Int32.le_iff_toInt_le]; omega)]
  · have : ¬ (0 ≤ x.toInt ∧ x.toInt < (n : Int)) := fun z => q (decide_eq_true z)
    rw [if_neg q]
    by_cases z : x < 0
    · rw [if_pos z]
    · rw [if_neg z]
      rw [Int32.lt_iff_toInt_lt] at z
      rw [if_pos (by rw [Int32.le_iff_toInt_le]; omega)]
theorem pl_q2 {T : Type} {x : Int32} {n : Nat} (hn : n < 100000) {A B : T} : (if x < 0 then A else if nI n < x then A else B) = if isN x (n + 1) = true then B else A := by
  have e1 : (0 : Int32).toInt = 0 := rfl
  have e2 := nI_toInt (n := n) (by omega)
  by_cases q : isN x (n + 1) = true
  · have := of_decide_eq_true q
    rw [if_pos q, if_neg (by rw [Int32.lt_iff_toInt_lt]; omega), if_neg (by rw [Int32.lt_iff_toInt_lt]; omega)]
  · have : ¬ (0 ≤ x.toInt ∧ x.toInt < ((n + 1 : Nat) : Int)) := fun z => q (decide_eq_true z)
    rw [if_neg q]
    by_cases z : x < 0
    · rw [if_pos z]
    · rw [if_neg z]
      rw [Int32.lt_iff_toInt_lt] at z
      rw [if_pos (by rw [Int32.lt_iff_toInt_lt]; omega)]
theorem k_fitsAt {σ τ : St} (h : FitR σ τ) (x : Int32) : rdE τ (f_X11_fitsAt x σ) (f_X12_fitsAt x τ) := by
  obtain ⟨n, hn, e31, hl⟩ := h
  unfold f_X11_fitsAt f_X12_fitsAt
  simp only [vl_q, jn_q]
  rw [t0_n (by decide), e31, pl_q (by decide), m_isIn, bp_q, if_bI, isN_dec (by omega), t0_c (by decide)]
  by_cases q : isN x 8 = true
  · obtain ⟨k, hk, rfl⟩ := isN_e q (by decide)
    rw [if_pos q, ald_q hk (by decide), hl k hk, isN_nI (by omega)]
    by_cases z : k < n
    · rw [if_pos z, if_pos (decide_eq_true z), ald_q hk (by decide)]; exact rd_no _ _
    · rw [if_neg z, if_neg (fun w => z (of_decide_eq_true w))]; exact rd_no _ _
  · have : ¬ isN x n = true := fun z => by
      obtain ⟨k, hk, rfl⟩ := isN_e z (by omega)
      rw [isN_nI (by omega)] at q
      exact q (decide_eq_true (by omega))
    rw [if_neg q, if_neg this]; exact rd_no _ _
theorem k_byteAt {σ τ : St} (h : TagR σ τ) (x : Int32) : rdE τ (f_X11_byteAt x σ) (f_X12_byteAt x τ) := by
  obtain ⟨n, hn, e14, e38, hl⟩ := h
  unfold f_X11_byteAt f_X12_byteAt
  simp only [vl_q, jn_q]
  rw [t0_n (by decide), e14, e38, pl_q (by omega), m_isIn, bp_q, if_bI, isN_dec (by omega), t0_c (by decide)]
  by_cases q : isN x n = true
  · obtain ⟨k, hk, rfl⟩ := isN_e q (by omega)
    rw [if_pos q, if_pos q, ald_q (by omega) (by decide), ald_q (by omega) (by decide), hl k hk]; exact rd_no _ _
  · rw [if_neg q, if_neg q]; exact rd_no _ _
theorem k_told {σ τ : St} (h : TldR σ τ) (x : Int32) : rdE τ (f_X11_told x σ) (f_X12_told x τ) := by
  unfold f_X11_told f_X12_told
  simp only [vl_q, jn_q]
  rw [t0_n (by decide), pl_q2 (by decide), m_isIn, bp_q, if_bI, isN_up (by decide), t0_c (by decide)]
  by_cases q : isN x 4 = true
  · obtain ⟨k, hk, rfl⟩ := isN_e q (by decide)
    rw [if_pos q, if_pos q, ald_q hk (by decide), ald_q hk (by decide), h k hk]
    by_cases z : τ.1 206 42 = 0
    · rw [if_pos z, if_pos z]; exact rd_no _ _
    · rw [if_neg z, if_neg z]; exact rd_no _ _
  · rw [if_neg q, if_neg q]
    split <;> exact rd_no _ _
/-! cells, downward: how many, the first -/
def cD (p : Nat → Bool) : Nat → Nat
  | 0 => 0
  | j + 1 => cD p j + if p (399 - j) = true then 1 else 0
def fD (p : Nat → Bool) : Nat → Nat
  | 0 => 0
  | j + 1 => if p (399 - j) = true then 399 - j else fD p j
theorem cD_le (p : Nat → Bool) : ∀ j, cD p j ≤ j
  | 0 => Nat.le_refl _
  | j + 1 => by have := cD_le p j; simp only [cD]; split <;> omega
theorem cD_s (p : Nat → Bool) (j : Nat) : cD p (j + 1) = cD p j + if p (399 - j) = true then 1 else 0 := rfl
theorem fD_s (p : Nat → Bool) (j : Nat) : fD p (j + 1) = if p (399 - j) = true then 399 - j else fD p j := rfl
theorem fD_le (p : Nat → Bool) : ∀ j, fD p j ≤ 399
  | 0 => Nat.zero_le _
  | j + 1 => by have := fD_le p j; simp only [fD]; split <;> omega
def dn (j : Nat) : Int32 := nI (400 - j) + (-1)
theorem dn_lt {j : Nat} (h : j < 400) : dn j = nI (399 - j) := by
  unfold dn
  rw [show 400 - j = (399 - j) + 1 by omega, pk_m1]
theorem dn_end : dn 400 < 0 := by decide
theorem dn_s {j : Nat} (h : j < 400) : dn j + (-1) = dn (j + 1) := by
  rw [dn_lt h, dn]
  rw [show 400 - (j + 1) = 399 - j by omega]
/-- the class's own store while it counts: field k holds the first -/
def spS (k : Nat) (σ : St) (p : Nat → Bool) (j : Nat) : St := if cD p j = 0 then σ else sI σ 0 k (nI (fD p j))
theorem spS_F {k : Nat} {σ : St} {p : Nat → Bool} {j : Nat} : Fr [0] σ (spS k σ p j) := by
  unfold spS
  split
  · exact Fr.rf
  · exact Fr.rf.sI (by decide +kernel)
theorem spS_s {k : Nat} {σ : St} {p : Nat → Bool} {j : Nat} (h : p (399 - j) = true) : sI (spS k σ p j) 0 k (nI (399 - j)) = spS k σ p (j + 1) := by
  have e : spS k σ p (j + 1) = sI σ 0 k (nI (399 - j)) := by
    unfold spS
    rw [if_neg (by simp only [cD, if_pos h]; omega)]
    simp only [fD, if_pos h]
  rw [e]
  unfold spS
  split
  · rfl
  · exact sI_sI _ _ _ _ _
theorem spS_n {k : Nat} {σ : St} {p : Nat → Bool} {j : Nat} (h : ¬ p (399 - j) = true) : spS k σ p j = spS k σ p (j + 1) := by
  unfold spS
  simp only [cD, fD, if_neg h, Nat.add_zero]
theorem c_spoL {σ : St} {N t : Nat} {q : Nat → Nat} (ht : t < 100000) (hq : ∀ c, c < 400 → q c < 100000) (hv : ∀ c, c < 400 → ∀ s, Fr [0] σ s → f_X6_visibleFrom N 49 (nI (c % 20)) (nI (c / 20)) s = some (nI (q c))) : ∀ n j, j ≤ 400 → 400 - j < n → f_X11_spots_L23 N (nI t) n (nI (cD (fun c => decide (q c = t)) j)) (dn j) (spS 18 σ (fun c => decide (q c = t)) j) = some (nI (cD (fun c => decide (q c = t)) 400), spS 18 σ (fun c => decide (q c = t)) 400) := by
  intro n
  induction n with
  | zero => intro j _ h; omega
  | succ n ih =>
    intro j hj hn
    rw [f_X11_spots_L23]
    by_cases hc : j = 400
    · subst hc; rw [if_pos dn_end]
    · have hj' : j < 400 := by omega
      have := ih (j + 1) (by omega) (by omega)
      have hqc := hq (399 - j) (by omega)
      rw [dn_lt hj', if_lt0 (by omega), rm_q (by omega) (by decide) (by decide), dv_q (by omega) (by decide) (by decide), hv _ (by omega) _ spS_F, bp_q]
      simp only [jn_q, vl_q]
      rw [← dn_lt hj', dn_s hj', if_eqq (by omega) (by omega)]
      by_cases z : q (399 - j) = t
      · rw [if_pos z, dn_lt hj', spS_s (k := 18) (p := fun c => decide (q c = t)) (decide_eq_true z), nI_addq]
        rw [cD_s _ j, if_pos (decide_eq_true z)] at this
        exact this
      · rw [if_neg z, spS_n (k := 18) (p := fun c => decide (q c = t)) (fun w => z (of_decide_eq_true w))]
        rw [cD_s _ j, if_neg (fun w => z (of_decide_eq_true w)), Nat.add_zero] at this
        exact this
theorem m_spoL {τ : St} {N t hz : Nat} {q : Nat → Nat} {k9 : Int32 → Int32 → Option (Int32 × St)} (ht : t < 100000) (hq : ∀ c, c < 400 → q c < 100000) (h9 : τ.1 208 149 = nI hz) (hv : ∀ c, c < 400 → f_X12_visibleFrom N (nI (c % 20)) (nI (c / 20)) (nI hz) τ = some (nI (q c))) : ∀ n j, j ≤ 400 → 400 - j < n → f_X12_spots_L34 N (nI t) τ k9 n (nI (cD (fun c => decide (q c = t)) j)) (nI (fD (fun c => decide (q c = t)) j)) (dn j) = k9 (nI (cD (fun c => decide (q c = t)) 400)) (nI (fD (fun c => decide (q c = t)) 400)) := by
  intro n
  induction n with
  | zero => intro j _ h; omega
  | succ n ih =>
    intro j hj hn
    rw [f_X12_spots_L34]
    by_cases hc : j = 400
    · subst hc; rw [if_pos dn_end]
    · have hj' : j < 400 := by omega
      have := ih (j + 1) (by omega) (by omega)
      have hqc := hq (399 - j) (by omega)
      rw [dn_lt hj', if_lt0 (by omega), rm_q (by omega) (by decide) (by decide), dv_q (by omega) (by decide) (by decide), ald_q (by decide) (by decide), h9, hv _ (by omega), bp_q]
      simp only [jn_q, vl_q]
      rw [← dn_lt hj', dn_s hj', if_eqq (by omega) (by omega)]
      by_cases z : q (399 - j) = t
      · rw [if_pos z, dn_lt hj', nI_addq]
        rw [cD_s _ j, fD_s _ j, if_pos (decide_eq_true z), if_pos (decide_eq_true z)] at this
        exact this
      · rw [if_neg z]
        rw [cD_s _ j, fD_s _ j, if_neg (fun w => z (of_decide_eq_true w)), if_neg (fun w => z (of_decide_eq_true w)), Nat.add_zero] at this
        exact this
/-- which lights are visible from cell c -/
def vsC (S : Nat → Nat) (c : Nat) : Nat := bset (fun l => visS S l (c % 20) (c / 20) (S 149)) (S 0)
theorem vsC_lt {S : Nat → Nat} (hn : S 0 ≤ 8) (c : Nat) : vsC S c < 256 := bset_lt8 _ hn
/-- a call that keeps one number in the class's own cell (field k), with its flag in the model's (fields a, b) -/
def oneE (σ τ : St) (k a b : Nat) (x : Option (Int32 × St)) (y : Option (Int32 × St)) : Prop := (∃ r, x = some (r, σ) ∧ y = some (r, sI τ 206 0 (nI 0))) ∨ ∃ r v, x = some (r, sI σ 0 k v) ∧ y = some (r, sI (sI (sI τ 206 0 (nI 0)) 206 a (nI 1)) 206 b v)
theorem k_spots {σ τ : St} {S : Nat → Nat} {u top N : Nat} {H : Nat → Nat → Nat} (hN : 1000 ≤ N) (hK : KRel σ τ S u top H) (x : Int32) : oneE σ τ 18 35 33 (f_X11_spots N x σ) (f_X12_spots N x τ) := by
  have hh := hK
  obtain ⟨h1, h2, hW, h4, h5, h6, h7, h8⟩ := hh
  have c1 := h2.1
  have c2 := h2.2.1
  have hR0 := (KRel_thr hK (nI 0)).1
  have hal := all_lt _ c1
  unfold f_X11_spots f_X12_spots
  rw [f_X1_allLights]
  simp only [vl_q]
  rw [h5.1, shl_all _ c1, bp_q, ald_S hR0 (by decide), shl_all _ c1, m_isIn, bp_q, if_bI, isN_up (by omega)]
  have e : (if x < 0 then some (-1, σ) else if x ≤ nI (2 ^ S 0 - 1) then f_X11_spots_L23 N x N (nI 0) (nI 399) σ else some (-1, σ)) = if isN x (2 ^ S 0 - 1 + 1) = true then f_X11_spots_L23 N x N (nI 0) (nI 399) σ else some (-1, σ) := by
    rw [← pl_q2 (by omega)]
    have e2 := nI_toInt (n := 2 ^ S 0 - 1) (by omega)
    by_cases z : x < 0
    · rw [if_pos z, if_pos z]
    · rw [if_neg z, if_neg z]
      by_cases w : x ≤ nI (2 ^ S 0 - 1)
      · rw [if_pos w, if_neg (fun q => by rw [Int32.le_iff_toInt_le] at w; rw [Int32.lt_iff_toInt_lt] at q; omega)]
      · rw [if_neg w, if_pos (by rw [Int32.le_iff_toInt_le] at w; rw [Int32.lt_iff_toInt_lt]; omega)]
  rw [e]
  by_cases hx : isN x (2 ^ S 0 - 1 + 1) = true
  · obtain ⟨t, ht, rfl⟩ := isN_e hx (by omega)
    rw [if_pos hx, if_pos hx]
    have hq : ∀ c, c < 400 → vsC S c < 100000 := fun c _ => by have := vsC_lt c1 c; omega
    have ec := c_spoL (σ := σ) (N := N) (t := t) (q := vsC S) (by omega) hq (fun c hc s hF => by
      have hM := CRel_fr hF (by decide) c1 c2 h5
      have hS := SRel_fr sh49.1 hF (by rw [sh49.2]; decide) h7
      exact c_visibleFrom (by omega) h2 hM (by omega) (by omega) hW.2.2.1.2 hS.2.1) N 0 (by omega) (by omega)
    have em := m_spoL (τ := sI τ 206 0 (nI 0)) (N := N) (t := t) (hz := S 149) (q := vsC S) (k9 := fun (v23 : Int32) (v24 : Int32) =>
      if v23 = 0 then some ((nI 0), sI τ 206 0 (nI 0)) else some (v23, sI (sI (sI τ 206 0 (nI 0)) 206 35 (nI 1)) 206 33 v24)) (by omega) hq (hR0 149 (by decide)) (fun c hc => m_visibleFrom (by omega) hR0 h2 (by omega) (by omega) hW.2.2.1.2) N 0 (by omega) (by omega)
    rw [show dn 0 = nI 399 from by decide, show spS 18 σ (fun c => decide (vsC S c = t)) 0 = σ from rfl, show nI (cD (fun c => decide (vsC S c = t)) 0) = nI 0 from rfl] at ec
    rw [show dn 0 = nI 399 from by decide, show nI (fD (fun c => decide (vsC S c = t)) 0) = nI 0 from rfl, show nI (cD (fun c => decide (vsC S c = t)) 0) = nI 0 from rfl] at em
    rw [ec, em]
    have hcl := cD_le (fun c => decide (vsC S c = t)) 400
    rw [if_eq0 (by omega)]
    unfold spS
    by_cases z : cD (fun c => decide (vsC S c = t)) 400 = 0
    · rw [if_pos z, if_pos z, z]
      exact Or.inl ⟨_, rfl, rfl⟩
    · rw [if_neg z, if_neg z]
      exact Or.inr ⟨_, _, rfl, rfl⟩
  · rw [if_neg hx, if_neg hx]
    exact Or.inl ⟨_, rfl, rfl⟩
/-! most -/
def mSt (q : Nat → Nat) : Nat → Nat × Nat
  | 0 => (0, 0)
  | j + 1 => if (mSt q j).2 < q j then (j, q j) else mSt q j
theorem mSt_s (q : Nat → Nat) (j : Nat) : mSt q (j + 1) = if (mSt q j).2 < q j then (j, q j) else mSt q j := rfl
theorem mSt_le {q : Nat → Nat} (hq : ∀ c, q c ≤ 8) : ∀ j, (mSt q j).2 ≤ 8 ∧ (mSt q j).1 ≤ j
  | 0 => ⟨Nat.zero_le _, Nat.le_refl _⟩
  | j + 1 => by
    have := mSt_le hq j
    simp only [mSt]
    split
    · exact ⟨hq j, by dsimp only; omega⟩
    · exact ⟨this.1, by omega⟩
theorem c_mosL {σ : St} {N : Nat} {S : Nat → Nat} (hn : S 0 ≤ 8) (hv : ∀ c, c < 400 → f_X6_visibleFrom N 49 (nI (c % 20)) (nI (c / 20)) σ = some (nI (vsC S c))) : ∀ n j, j ≤ 400 → 400 - j < n → f_X11_most_L18 N σ n (nI (mSt (fun c => pcN (vsC S c)) j).1) (nI (mSt (fun c => pcN (vsC S c)) j).2) (nI j) = some (nI (mSt (fun c => pcN (vsC S c)) 400).1) := by
  intro n
  induction n with
  | zero => intro j _ h; omega
  | succ n ih =>
    intro j hj hn'
    have hl := mSt_le (q := fun c => pcN (vsC S c)) (fun c => pcN_le _) j
    rw [f_X11_most_L18, if_leq (by decide) (by omega)]
    by_cases hc : 400 ≤ j
    · rw [if_pos hc]
      obtain rfl : j = 400 := by omega
      rfl
    · have := ih (j + 1) (by omega) (by omega)
      have hp := pcN_le (vsC S j)
      rw [if_neg hc, rm_q (by omega) (by decide) (by decide), dv_q (by omega) (by decide) (by decide), hv _ (by omega), bp_q, c_bitCount (vsC_lt hn j), bp_q]
      simp only [jn_q, vl_q]
      rw [if_leq (by omega) (by omega), nI_addq]
      rw [mSt_s _ j] at this
      by_cases z : (mSt (fun c => pcN (vsC S c)) j).2 < pcN (vsC S j)
      · rw [if_neg (by omega)]; rw [if_pos z] at this; exact this
      · rw [if_pos (by omega)]; rw [if_neg z] at this; exact this
theorem m_mosL {τ : St} {N hz : Nat} {S : Nat → Nat} (hN : 10 ≤ N) (hn : S 0 ≤ 8) (h9 : τ.1 208 149 = nI hz) (hv : ∀ c, c < 400 → f_X12_visibleFrom N (nI (c % 20)) (nI (c / 20)) (nI hz) τ = some (nI (vsC S c))) : ∀ n j, j ≤ 400 → 400 - j < n → f_X12_most_L22 N τ n (nI (mSt (fun c => pcN (vsC S c)) j).1) (nI (mSt (fun c => pcN (vsC S c)) j).2) (nI j) = some (nI (mSt (fun c => pcN (vsC S c)) 400).1, τ) := by
  intro n
  induction n with
  | zero => intro j _ h; omega
  | succ n ih =>
    intro j hj hn'
    have hl := mSt_le (q := fun c => pcN (vsC S c)) (fun c => pcN_le _) j
    rw [f_X12_most_L22, if_leq (by decide) (by omega)]
    by_cases hc : 400 ≤ j
    · rw [if_pos hc]
      obtain rfl : j = 400 := by omega
      rfl
    · have := ih (j + 1) (by omega) (by omega)
      have hp := pcN_le (vsC S j)
      rw [if_neg hc, rm_q (by omega) (by decide) (by decide), dv_q (by omega) (by decide) (by decide), ald_q (by decide) (by decide), h9, hv _ (by omega), bp_q, m_bits hN (vsC_lt hn j), bp_q]
      simp only [jn_q, vl_q]
      rw [if_ltq (by omega) (by omega), nI_addq]
      rw [mSt_s _ j] at this
      by_cases z : (mSt (fun c => pcN (vsC S c)) j).2 < pcN (vsC S j)
      · rw [if_pos z]; rw [if_pos z] at this; exact this
      · rw [if_neg z]; rw [if_neg z] at this; exact this
theorem k_most {σ τ : St} {S : Nat → Nat} {u top N : Nat} {H : Nat → Nat → Nat} (hN : 1000 ≤ N) (hK : KRel σ τ S u top H) : rdE τ (f_X11_most N σ) (f_X12_most N τ) := by
  have hh := hK
  obtain ⟨h1, h2, hW, h4, h5, h6, h7, h8⟩ := hh
  have c1 := h2.1
  have hR0 := (KRel_thr hK (nI 0)).1
  unfold f_X11_most f_X12_most
  simp only [vl_q]
  rw [h5.1, ald_S hR0 (by decide), if_eq0 (by omega), if_eq0 (by omega)]
  by_cases z : S 0 = 0
  · rw [if_pos z, if_pos z]; exact rd_no _ _
  · have hv : ∀ c, c < 400 → f_X12_visibleFrom N (nI (c % 20)) (nI (c / 20)) (nI (S 149)) (sI τ 206 0 (nI 0)) = some (nI (vsC S c)) := fun c hc => m_visibleFrom (by omega) hR0 h2 (by omega) (by omega) hW.2.2.1.2
    have ec := c_mosL (σ := σ) (N := N) c1 (fun c hc => c_visibleFrom (by omega) h2 h5 (by omega) (by omega) hW.2.2.1.2 h7.2.1) N 0 (by omega) (by omega)
    obtain ⟨N', rfl⟩ : ∃ N', N = N' + 1 := ⟨N - 1, by omega⟩
    have em := m_mosL (τ := sI τ 206 0 (nI 0)) (N := N' + 1) (hz := S 149) (by omega) c1 (hR0 149 (by decide)) hv N' 1 (by omega) (by omega)
    rw [if_neg z, if_neg z]
    refine rd_of ec ?_
    rw [f_X12_most_L22, if_leq (by decide) (by decide), if_neg (by decide), rm_q (by omega) (by decide) (by decide), dv_q (by omega) (by decide) (by decide), ald_q (by decide) (by decide), hR0 149 (by decide), hv _ (by omega), bp_q, m_bits (by omega) (vsC_lt c1 _), bp_q]
    simp only [jn_q, vl_q]
    have hp := pcN_le (vsC S 0)
    have e1 : mSt (fun c => pcN (vsC S c)) 1 = (0, pcN (vsC S 0)) := by
      rw [mSt_s _ 0, show mSt (fun c => pcN (vsC S c)) 0 = (0, 0) from rfl]
      dsimp only
      split
      · rfl
      · rw [show pcN (vsC S 0) = 0 by omega]
    rw [e1] at em
    rw [if_pos (by rw [Int32.lt_iff_toInt_lt, nI_toInt (by omega), show (-1 : Int32).toInt = -1 from rfl]; omega), nI_addq]
    exact em
/-! change -/
theorem k_change {σ τ : St} {S : Nat → Nat} {u top N : Nat} {H : Nat → Nat → Nat} (hN : 1000 ≤ N) (hK : KRel σ τ S u top H) : ∃ r v, f_X11_change N σ = some (r, sI σ 0 16 v) ∧ f_X12_change N τ = some (r, sI (sI (sP S (sI τ 206 0 (nI 0)) (S 0)) 206 27 (nI 1)) 206 26 v) := by
  have hh := hK
  obtain ⟨h1, h2, hW, h4, h5, h6, h7, h8⟩ := hh
  have c1 := h2.1
  have hR0 := (KRel_thr hK (nI 0)).1
  have hal := all_lt _ c1
  have hcl := chg_lt c1
  unfold f_X11_change f_X12_change
  simp only [vl_q]
  rw [c_fewest (by omega) h5.1 c1 h6, bp_q]
  rw [show bX S (allS S) = chgS S from rfl]
  have e16 : (sI σ 0 16 (nI (chgS S))).1 0 16 = nI (chgS S) := by rw [sI1, if_pos rfl, if_pos rfl]
  rw [e16, c_bitCount hcl, bp_q, m_laysPairs (by omega) h2 hR0, bd_q]
  have hR1 : RS S (sP S (sI τ 206 0 (nI 0)) (S 0)) := RS_o hR0 (fun j => sP_o S _ (by decide) j _)
  rw [ald_S hR1 (by decide), shl_all _ c1]
  have em := m_chgL (τ := sP S (sI τ 206 0 (nI 0)) (S 0)) (N := N) (k9 := fun (v37 : Int32) => bp (f_X12_bits N v37 (sI (sI (sP S (sI τ 206 0 (nI 0)) (S 0)) 206 27 (nI 1)) 206 26 v37)) fun v40 => some (v40, sI (sI (sP S (sI τ 206 0 (nI 0)) (S 0)) 206 27 (nI 1)) 206 26 v37)) (by omega) hR1 c1 (fun l hl => sP_i S _ _ l hl) N 0 (by omega) (by have : allS S = 2 ^ S 0 - 1 := rfl; omega)
  rw [show bM S 0 = allS S from rfl, Nat.sub_zero, show allS S = 2 ^ S 0 - 1 from rfl] at em
  rw [em, show bM S (2 ^ S 0 - 1 + 1) = chgS S from chg_eq c1, m_bits (by omega) hcl, bp_q]
  exact ⟨_, _, rfl, rfl⟩
