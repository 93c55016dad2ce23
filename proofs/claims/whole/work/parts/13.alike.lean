/-! which lights are alike, which are in one sight: both sides -/
def allN (p : Nat → Bool) : Nat → Bool
  | 0 => true
  | n + 1 => allN p n && p n
def anyN (p : Nat → Bool) : Nat → Bool
  | 0 => false
  | n + 1 => anyN p n || p n
theorem allN_iff {p : Nat → Bool} : ∀ {n : Nat}, allN p n = true ↔ ∀ k, k < n → p k = true
  | 0 => by simp [allN]
  | n + 1 => by
    simp only [allN, Bool.and_eq_true, allN_iff]
    exact ⟨fun h k hk => by rcases Nat.lt_succ_iff_lt_or_eq.mp hk with q | q
                            · exact h.1 k q
                            · rw [q]; exact h.2, fun h => ⟨fun k hk => h k (by omega), h n (by omega)⟩⟩
theorem anyN_iff {p : Nat → Bool} : ∀ {n : Nat}, anyN p n = true ↔ ∃ k, k < n ∧ p k = true
  | 0 => by simp [anyN]
  | n + 1 => by
    simp only [anyN, Bool.or_eq_true, anyN_iff]
    constructor
    · rintro (⟨k, h1, h2⟩ | h)
      · exact ⟨k, by omega, h2⟩
      · exact ⟨n, by omega, h⟩
    · rintro ⟨k, h1, h2⟩
      rcases Nat.lt_succ_iff_lt_or_eq.mp h1 with q | q
      · exact Or.inl ⟨k, q, h2⟩
      · exact Or.inr (q ▸ h2)
theorem allN_f {p : Nat → Bool} {k n : Nat} (h : allN p k = false) (hk : k ≤ n) : allN p n = false := by
  rcases Bool.eq_false_or_eq_true (allN p n) with q | q
  · rw [allN_iff] at q
    have : allN p k = true := allN_iff.mpr (fun j hj => q j (by omega))
    rw [this] at h; cases h
  · exact q
theorem anyN_t {p : Nat → Bool} {k n : Nat} (h : anyN p k = true) (hk : k ≤ n) : anyN p n = true := by
  obtain ⟨j, h1, h2⟩ := anyN_iff.mp h
  exact anyN_iff.mpr ⟨j, by omega, h2⟩
theorem anyN_cong {p q : Nat → Bool} {n : Nat} (h : ∀ k, k < n → p k = q k) : anyN p n = anyN q n := by
  induction n with
  | zero => rfl
  | succ n ih => simp only [anyN]; rw [ih (fun k hk => h k (by omega)), h n (by omega)]
def eqK (S : Nat → Nat) (l m f k : Nat) : Bool := onS S l k == onS S m (f + k)
/-- alike but for their beginning (also of one and itself) -/
def alkS (S : Nat → Nat) (l m : Nat) : Bool := decide (S (27 + l) = S (27 + m)) && (decide (perS S l = perS S m) && anyN (fun f => allN (eqK S l m f) (perS S l)) (perS S l))
section AlkM
variable {S : Nat → Nat} {τ : St} {N l m : Nat}
theorem m_alk70 {f many : Nat} {k19 : Int32 → Option Int32} (hN : 10 ≤ N) (hR : RS S τ) (hl : l < 8) (hm : m < 8) (h : WFl S l) (h' : WFl S m) (hf : f < 160) (hM : many ≤ 160) : ∀ n k, k ≤ many → many - k < n → f_X12_isAlike_L70 N (nI l) (nI m) (nI many) (nI f) τ k19 n (bI (allN (eqK S l m f) k)) (nI k) = k19 (bI (allN (eqK S l m f) many)) := by
  intro n
  induction n with
  | zero => intro k _ h; omega
  | succ n ih =>
    intro k hk hn
    rw [f_X12_isAlike_L70, if_leq (by omega) (by omega)]
    by_cases hc : many ≤ k
    · rw [if_pos hc]
      obtain rfl : k = many := by omega
      rfl
    · rw [if_neg hc, if_bI]
      rcases Bool.eq_false_or_eq_true (allN (eqK S l m f) k) with q | q
      · rw [if_pos q, m_isOn hN hR hl h (by omega), bp_q]
        simp only [nI_addq]
        rw [m_isOn hN hR hm h' (by omega), bp_q, jn_q]
        simp only [vl_q, nI_addq]
        have := ih (k + 1) (by omega) (by omega)
        simp only [allN, q, Bool.true_and] at this
        have e : (bI (onS S l k) = bI (onS S m (f + k))) ↔ eqK S l m f k = true := by
          unfold eqK
          cases onS S l k <;> cases onS S m (f + k) <;> decide
        by_cases z : eqK S l m f k = true
        · rw [if_pos (e.mpr z)]
          rw [z] at this
          exact this
        · rw [if_neg (fun w => z (e.mp w))]
          rw [Bool.eq_false_iff.mpr z] at this
          exact this
      · rw [if_neg (by rw [q]; decide), q, allN_f q (Nat.le_of_lt (Nat.lt_of_not_le hc))]
theorem m_alk53 {many : Nat} (hN : 200 ≤ N) (hR : RS S τ) (hl : l < 8) (hm : m < 8) (h : WFl S l) (h' : WFl S m) (hM : many ≤ 160) : ∀ n f, f ≤ many → many - f < n → f_X12_isAlike_L53 N (nI l) (nI m) (nI many) τ n (bI (anyN (fun f => allN (eqK S l m f) many) f)) (nI f) = some (bI (anyN (fun f => allN (eqK S l m f) many) many)) := by
  intro n
  induction n with
  | zero => intro k _ h; omega
  | succ n ih =>
    intro f hk hn
    rw [f_X12_isAlike_L53, if_leq (by omega) (by omega)]
    by_cases hc : many ≤ f
    · rw [if_pos hc]
      obtain rfl : f = many := by omega
      rw [rz_q]
    · rw [if_neg hc, if_bI]
      rcases Bool.eq_false_or_eq_true (anyN (fun f => allN (eqK S l m f) many) f) with q | q
      · rw [if_pos q, rz_q, q, anyN_t q (Nat.le_of_lt (Nat.lt_of_not_le hc))]
      · rw [if_neg (by rw [q]; decide)]
        have e := m_alk70 (N := N) (f := f) (many := many) (k19 := fun v28 => vl (nI f + nI 1) fun v29 => f_X12_isAlike_L53 N (nI l) (nI m) (nI many) τ n v28 v29) (by omega) hR hl hm h h' (by omega) hM N 0 (by omega) (by omega)
        rw [show allN (eqK S l m f) 0 = true from rfl, bI_t] at e
        rw [e]
        simp only [vl_q, nI_addq]
        have := ih (f + 1) (by omega) (by omega)
        simp only [anyN, q, Bool.false_or] at this
        exact this
theorem m_isAlike (hN : 200 ≤ N) (hR : RS S τ) (hl : l < 8) (hm : m < 8) (h : WFl S l) (h' : WFl S m) : f_X12_isAlike N (nI l) (nI m) τ = some (bI (decide (l ≠ m) && alkS S l m)) := by
  unfold f_X12_isAlike
  have p1 := perS_le h
  have p2 := perS_le h'
  have c1 := h.2.2.2.1
  have c2 := h'.2.2.2.1
  rw [if_eqq (by omega) (by omega)]
  by_cases hlm : l = m
  · rw [if_pos hlm, decide_eq_false (fun z => z hlm), Bool.false_and]; rfl
  · rw [if_neg hlm, decide_eq_true hlm, Bool.true_and]
    simp only [nI_addq]
    rw [ald_S hR (by omega), ald_S hR (by omega), if_eqq (by omega) (by omega)]
    unfold alkS
    by_cases hc : S (27 + l) = S (27 + m)
    · rw [if_pos hc, decide_eq_true hc, Bool.true_and, m_periodOf (by omega) hR hl h, bp_q, m_periodOf (by omega) hR hm h', bp_q, if_eqq (by omega) (by omega)]
      by_cases hp : perS S l = perS S m
      · rw [if_pos hp, decide_eq_true hp, Bool.true_and, bp_q]
        exact m_alk53 hN hR hl hm h h' p1 N 0 (by omega) (by omega)
      · rw [if_neg hp, decide_eq_false hp, Bool.false_and]; rfl
    · rw [if_neg hc, decide_eq_false hc, Bool.false_and]; rfl
end AlkM
section AlkX
variable {S : Nat → Nat} {σ : St} {N a b l m : Nat}
theorem c_placeBehind {p : Nat} (hp : p < 1000) (hL : σ.1 a 10 = nI (perS S l)) (hb : perS S l ≤ 160) : f_X4_placeBehind a (nI p) σ = some (nI (if p + 1 < perS S l then p + 1 else 0)) := by
  unfold f_X4_placeBehind
  rw [vl_q, hL]
  simp only [nI_addq]
  rw [if_leq (by omega) (by omega)]
  by_cases h : p + 1 < perS S l
  · rw [if_neg (by omega), if_pos h]
  · rw [if_pos (by omega), if_neg h]
theorem mod_step {p d : Nat} (hd : 0 < d) : (if p % d + 1 < d then p % d + 1 else 0) = (p + 1) % d := by
  have h := Nat.mod_lt p hd
  by_cases q : p % d + 1 < d
  · rw [if_pos q, Nat.add_mod, Nat.mod_eq_of_lt (show 1 < d by omega), Nat.mod_eq_of_lt q]
  · rw [if_neg q]
    have e : p % d + 1 = d := by omega
    rw [← Nat.mod_add_div p d]
    rw [show p % d + d * (p / d) + 1 = (p % d + 1) + d * (p / d) by omega, e, Nat.add_mul_mod_self_left, Nat.mod_self]
theorem c_rowL {f : Nat} (h : WFl S l) (h' : WFl S m) (hA : LRel σ a S l) (hB : LRel σ b S m) (hp : perS S l = perS S m) : ∀ n p, p ≤ perS S l → perS S l - p < n → allN (eqK S l m f) p = true → f_X4_hasRowFrom_L5 N a b σ n (nI ((f + p) % perS S m)) (nI p) = some (bI (allN (eqK S l m f) (perS S l))) := by
  intro n
  induction n with
  | zero => intro k _ h; omega
  | succ n ih =>
    intro p hk hn hq
    have p1 := perS_le h
    have p2 := perS_le h'
    have pm := perS_pos S m
    have hlt := Nat.mod_lt (f + p) pm
    rw [f_X4_hasRowFrom_L5, vl_q, hA.2.2.2.2.2.2.2.2.1, if_leq (by omega) (by omega)]
    by_cases hc : perS S l ≤ p
    · rw [if_pos hc]
      obtain rfl : p = perS S l := by omega
      rw [hq]; rfl
    · rw [if_neg hc, ald_q (by omega) (by decide), ald_q (by omega) (by decide), hA.2.2.2.2.2.2.2.2.2 _ (by omega), hB.2.2.2.2.2.2.2.2.2 _ hlt, onS_mod]
      have e : (bI (onS S l p) = bI (onS S m (f + p))) ↔ eqK S l m f p = true := by
        unfold eqK
        cases onS S l p <;> cases onS S m (f + p) <;> decide
      by_cases z : eqK S l m f p = true
      · rw [if_pos (e.mpr z), c_placeBehind (by omega) hB.2.2.2.2.2.2.2.2.1 p2, bp_q]
        simp only [vl_q, nI_addq]
        rw [mod_step pm]
        exact ih (p + 1) (by omega) (by omega) (by simp only [allN, hq, z, Bool.true_and])
      · rw [if_neg (fun w => z (e.mp w)), allN_f (k := p + 1) (by simp only [allN, hq, Bool.true_and]; exact Bool.eq_false_iff.mpr z) (by omega)]; rfl
theorem c_alkL (hN : 200 ≤ N) (h : WFl S l) (h' : WFl S m) (hA : LRel σ a S l) (hB : LRel σ b S m) (hp : perS S l = perS S m) : ∀ n f, f ≤ perS S l → perS S l - f < n → anyN (fun f => allN (eqK S l m f) (perS S l)) f = false → f_X4_isAlike_L26 N a b σ n (nI f) = some (bI (anyN (fun f => allN (eqK S l m f) (perS S l)) (perS S l))) := by
  intro n
  induction n with
  | zero => intro k _ h; omega
  | succ n ih =>
    intro f hk hn hq
    have p1 := perS_le h
    have pm := perS_pos S m
    rw [f_X4_isAlike_L26, vl_q, hA.2.2.2.2.2.2.2.2.1, if_leq (by omega) (by omega)]
    by_cases hc : perS S l ≤ f
    · rw [if_pos hc]
      obtain rfl : f = perS S l := by omega
      rw [hq]; rfl
    · rw [if_neg hc]
      have e := c_rowL (f := f) (N := N) h h' hA hB hp N 0 (by omega) (by omega) rfl
      rw [Nat.add_zero, Nat.mod_eq_of_lt (by omega)] at e
      unfold f_X4_hasRowFrom
      rw [e, bp_q, if_bI]
      by_cases z : allN (eqK S l m f) (perS S l) = true
      · rw [if_pos z, anyN_t (k := f + 1) (by simp only [anyN, z, Bool.or_true]) (by omega)]; rfl
      · rw [if_neg z]
        simp only [vl_q, nI_addq]
        exact ih (f + 1) (by omega) (by omega) (by simp only [anyN, hq, Bool.false_or]; exact Bool.eq_false_iff.mpr z)
theorem c_isAlike (hN : 200 ≤ N) (h : WFl S l) (h' : WFl S m) (hA : LRel σ a S l) (hB : LRel σ b S m) : f_X4_isAlike N a b σ = some (bI (alkS S l m)) := by
  unfold f_X4_isAlike alkS
  have p1 := perS_le h
  have p2 := perS_le h'
  have c1 := h.2.2.2.1
  have c2 := h'.2.2.2.1
  simp only [vl_q]
  rw [hA.2.2.2.1, hB.2.2.2.1, hA.2.2.2.2.2.2.2.2.1, hB.2.2.2.2.2.2.2.2.1, if_eqq (by omega) (by omega), if_eqq (by omega) (by omega)]
  by_cases hc : S (27 + l) = S (27 + m)
  · rw [if_pos hc, decide_eq_true hc, Bool.true_and]
    by_cases hp : perS S l = perS S m
    · rw [if_pos hp, decide_eq_true hp, Bool.true_and]
      exact c_alkL hN h h' hA hB hp N 0 (by omega) (by omega) rfl
    · rw [if_neg hp, decide_eq_false hp, Bool.false_and]; rfl
  · rw [if_neg hc, decide_eq_false hc, Bool.false_and]; rfl
end AlkX
/-- one cell from which both are visible, without haze -/
def cellB (S : Nat → Nat) (l m c : Nat) : Bool := visS S l (c % 20) (c / 20) 30 && visS S m (c % 20) (c / 20) 30
def sgtS (S : Nat → Nat) (l m : Nat) : Bool := anyN (cellB S l m) 400
theorem m_sgtL {S : Nat → Nat} {τ : St} {N l m : Nat} (hR : RS S τ) (hl : l < 8) (hm : m < 8) (h : WFl S l) (h' : WFl S m) : ∀ n c, c ≤ 400 → 400 - c < n → f_X12_areSeen_L5 N (nI l) (nI m) τ n (bI (anyN (cellB S l m) c)) (nI c) = some (bI (sgtS S l m)) := by
  intro n
  induction n with
  | zero => intro k _ h; omega
  | succ n ih =>
    intro c hk hn
    rw [f_X12_areSeen_L5, if_leq (by omega) (by omega)]
    by_cases hc : 400 ≤ c
    · rw [if_pos hc, rz_q]
      obtain rfl : c = 400 := by omega
      rfl
    · rw [if_neg hc, if_bI]
      rcases Bool.eq_false_or_eq_true (anyN (cellB S l m) c) with q | q
      · rw [if_pos q, rz_q, q, sgtS, anyN_t q (Nat.le_of_lt (Nat.lt_of_not_le hc))]
      · rw [if_neg (by rw [q]; decide), rm_q (by omega) (by decide) (by decide), dv_q (by omega) (by decide) (by decide), m_visBy hR hl h (by omega) (by omega) (by decide), bp_q]
        have := ih (c + 1) (by omega) (by omega)
        simp only [anyN, q, Bool.false_or] at this
        simp only [jn_q, vl_q, nI_addq, if_bI]
        by_cases z : visS S l (c % 20) (c / 20) 30 = true
        · rw [if_pos z, rm_q (by omega) (by decide) (by decide), dv_q (by omega) (by decide) (by decide), m_visBy hR hm h' (by omega) (by omega) (by decide), bp_q, if_bI]
          unfold cellB at this
          rw [z, Bool.true_and] at this
          by_cases y : visS S m (c % 20) (c / 20) 30 = true
          · rw [if_pos y]; rw [y] at this; exact this
          · rw [if_neg y]; rw [Bool.eq_false_iff.mpr y] at this; exact this
        · rw [if_neg z]
          unfold cellB at this
          rw [Bool.eq_false_iff.mpr z, Bool.false_and] at this
          exact this
theorem m_areSeen {S : Nat → Nat} {τ : St} {N l m : Nat} (hN : 500 ≤ N) (hR : RS S τ) (hl : l < 8) (hm : m < 8) (h : WFl S l) (h' : WFl S m) : f_X12_areSeen N (nI l) (nI m) τ = some (bI (sgtS S l m)) := m_sgtL hR hl hm h h' N 0 (by omega) (by omega)
theorem c_sgtL {S : Nat → Nat} {σ : St} {N a b l m : Nat} (h : WFl S l) (h' : WFl S m) (hA : LRel σ a S l) (hB : LRel σ b S m) : ∀ n c, c ≤ 400 → 400 - c < n → anyN (cellB S l m) c = false → f_X4_isInOneSight_L2 N a b σ n (nI c) = some (bI (sgtS S l m)) := by
  intro n
  induction n with
  | zero => intro k _ h; omega
  | succ n ih =>
    intro c hk hn q
    rw [f_X4_isInOneSight_L2, if_leq (by omega) (by omega)]
    by_cases hc : 400 ≤ c
    · rw [if_pos hc, sgtS]
      obtain rfl : c = 400 := by omega
      rw [q]; rfl
    · rw [if_neg hc, rm_q (by omega) (by decide) (by decide), dv_q (by omega) (by decide) (by decide), c_isVisible h hA (by omega) (by omega) (by decide), bp_q]
      simp only [jn_q, vl_q, nI_addq, if_bI]
      by_cases z : visS S l (c % 20) (c / 20) 30 = true
      · rw [if_pos z, c_isVisible h' hB (by omega) (by omega) (by decide), bp_q, if_bI]
        by_cases y : visS S m (c % 20) (c / 20) 30 = true
        · rw [if_pos y, sgtS, anyN_t (k := c + 1) (by simp only [anyN, cellB, z, y, Bool.and_self, Bool.or_true]) (by omega)]; rfl
        · rw [if_neg y]
          exact ih (c + 1) (by omega) (by omega) (by simp only [anyN, q, cellB, Bool.eq_false_iff.mpr y, Bool.and_false, Bool.or_self])
      · rw [if_neg z]
        exact ih (c + 1) (by omega) (by omega) (by simp only [anyN, q, cellB, Bool.eq_false_iff.mpr z, Bool.false_and, Bool.or_self])
theorem c_isInOneSight {S : Nat → Nat} {σ : St} {N a b l m : Nat} (hN : 500 ≤ N) (h : WFl S l) (h' : WFl S m) (hA : LRel σ a S l) (hB : LRel σ b S m) : f_X4_isInOneSight N a b σ = some (bI (sgtS S l m)) := c_sgtL h h' hA hB N 0 (by omega) (by omega) rfl
