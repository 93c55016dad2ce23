/-! octants, what is visible, what shines -/
def octN (a b : Int) : Nat := if 0 ≤ b ∧ b < a then 0 else if 0 < a ∧ a ≤ b then 1 else if a ≤ 0 ∧ -a < b then 2 else if 0 < b ∧ b ≤ -a then 3 else if b ≤ 0 ∧ a < b then 4 else if a < 0 ∧ b ≤ a then 5 else if 0 ≤ a ∧ a < -b then 6 else if b < 0 ∧ -b ≤ a then 7 else 8
def oI (k : Nat) : Int32 := if k = 8 then -1 else nI k
theorem octN_le (a b : Int) : octN a b ≤ 8 := by
  unfold octN
  repeat' split
  all_goals omega
theorem octN_c (a b : Int) : (octN a b = 0 ∧ 0 ≤ b ∧ b < a) ∨ (octN a b = 1 ∧ 0 < a ∧ a ≤ b) ∨ (octN a b = 2 ∧ a ≤ 0 ∧ -a < b) ∨ (octN a b = 3 ∧ 0 < b ∧ b ≤ -a) ∨ (octN a b = 4 ∧ b ≤ 0 ∧ a < b) ∨ (octN a b = 5 ∧ a < 0 ∧ b ≤ a) ∨ (octN a b = 6 ∧ 0 ≤ a ∧ a < -b) ∨ (octN a b = 7 ∧ b < 0 ∧ -b ≤ a) ∨ (octN a b = 8 ∧ a = 0 ∧ b = 0) := by
  unfold octN
  repeat' split
  all_goals omega
theorem neg_toInt {x : Int32} (h : -1000 ≤ x.toInt) : (-x).toInt = -x.toInt := by
  rw [Int32.toInt_neg]
  have := Int32.toInt_lt x
  exact Int.bmod_eq_of_le (by omega) (by omega)
theorem m_octantOf {x y : Int32} (hx : -1000 ≤ x.toInt) (hy : -1000 ≤ y.toInt) (τ : St) : f_X12_octantOf x y τ = some (oI (octN x.toInt y.toInt)) := by
  unfold f_X12_octantOf
  have e0 : (0 : Int32).toInt = 0 := rfl
  simp only [Int32.lt_iff_toInt_lt, Int32.le_iff_toInt_le, ← Int32.toInt_inj, neg_toInt hx, neg_toInt hy, e0]
  generalize x.toInt = a
  generalize y.toInt = b
  rcases octN_c a b with ⟨e, q⟩ | ⟨e, q⟩ | ⟨e, q⟩ | ⟨e, q⟩ | ⟨e, q⟩ | ⟨e, q⟩ | ⟨e, q⟩ | ⟨e, q⟩ | ⟨e, q⟩
  all_goals
    rw [e]
    repeat' (first | (with_reducible refine (if_pos (by omega)).trans ?_) | (with_reducible refine (if_neg (by omega)).trans ?_) | (with_reducible refine (jn_q _ _).trans ?_) | (with_reducible exact rfl) | split)
  all_goals rfl
theorem c_octantOf {x y : Int32} (hx : -1000 ≤ x.toInt) (hy : -1000 ≤ y.toInt) (τ : St) : f_X11_octantOf x y τ = some (oI (octN x.toInt y.toInt)) := by
  unfold f_X11_octantOf
  have e0 : (0 : Int32).toInt = 0 := rfl
  simp only [Int32.lt_iff_toInt_lt, Int32.le_iff_toInt_le, ← Int32.toInt_inj, neg_toInt hx, neg_toInt hy, e0]
  generalize x.toInt = a
  generalize y.toInt = b
  rcases octN_c a b with ⟨e, q⟩ | ⟨e, q⟩ | ⟨e, q⟩ | ⟨e, q⟩ | ⟨e, q⟩ | ⟨e, q⟩ | ⟨e, q⟩ | ⟨e, q⟩ | ⟨e, q⟩
  all_goals
    rw [e]
    repeat' (first | (with_reducible refine (if_pos (by omega)).trans ?_) | (with_reducible refine (if_neg (by omega)).trans ?_) | (with_reducible refine (jn_q _ _).trans ?_) | (with_reducible exact rfl) | split)
  all_goals rfl
theorem mul_toInt {x y : Int32} (hx : -30000 ≤ x.toInt ∧ x.toInt ≤ 30000) (hy : -30000 ≤ y.toInt ∧ y.toInt ≤ 30000) : (x * y).toInt = x.toInt * y.toInt := by
  rw [Int32.toInt_mul]
  have h1 : x.toInt * y.toInt ≤ 30000 * 30000 := by
    rcases Int.le_total 0 x.toInt with h | h <;> rcases Int.le_total 0 y.toInt with g | g
    · exact Int.le_trans (Int.mul_le_mul_of_nonneg_left hy.2 h) (Int.mul_le_mul_of_nonneg_right hx.2 (by decide))
    · exact Int.le_trans (Int.mul_nonpos_of_nonneg_of_nonpos h g) (by decide)
    · exact Int.le_trans (Int.mul_nonpos_of_nonpos_of_nonneg h g) (by decide)
    · have : x.toInt * y.toInt = (-x.toInt) * (-y.toInt) := by rw [Int.neg_mul_neg]
      rw [this]
      exact Int.le_trans (Int.mul_le_mul_of_nonneg_left (show -y.toInt ≤ 30000 by omega) (by omega)) (Int.mul_le_mul_of_nonneg_right (by omega) (by decide))
  have h2 : -(30000 * 30000) ≤ x.toInt * y.toInt := by
    have : -(x.toInt * y.toInt) ≤ 30000 * 30000 := by
      rw [← Int.neg_mul]
      rcases Int.le_total 0 (-x.toInt) with h | h <;> rcases Int.le_total 0 y.toInt with g | g
      · exact Int.le_trans (Int.mul_le_mul_of_nonneg_left hy.2 h) (Int.mul_le_mul_of_nonneg_right (by omega) (by decide))
      · exact Int.le_trans (Int.mul_nonpos_of_nonneg_of_nonpos h g) (by decide)
      · exact Int.le_trans (Int.mul_nonpos_of_nonpos_of_nonneg h g) (by decide)
      · have : -x.toInt * y.toInt = x.toInt * (-y.toInt) := by rw [Int.neg_mul, Int.mul_neg]
        rw [this]
        exact Int.le_trans (Int.mul_le_mul_of_nonneg_left (show -y.toInt ≤ 30000 by omega) (by omega)) (Int.mul_le_mul_of_nonneg_right hx.2 (by decide))
    omega
  exact Int.bmod_eq_of_le (by omega) (by omega)
theorem add_toInt {x y : Int32} (hx : -1000000000 ≤ x.toInt ∧ x.toInt ≤ 1000000000) (hy : -1000000000 ≤ y.toInt ∧ y.toInt ≤ 1000000000) : (x + y).toInt = x.toInt + y.toInt := by
  rw [Int32.toInt_add]
  exact Int.bmod_eq_of_le (by omega) (by omega)
/-- a light at (X, Y) of that reach and those dark octants is visible from (x, y) -/
def visN (X Y R D x y : Nat) : Bool := decide (((x : Int) - X) * ((x : Int) - X) + ((y : Int) - Y) * ((y : Int) - Y) ≤ (R : Int) * R) && (decide (octN ((x : Int) - X) ((y : Int) - Y) = 8) || decide (D / 2 ^ octN ((x : Int) - X) ((y : Int) - Y) % 2 = 0))
def visS (S : Nat → Nat) (l x y hz : Nat) : Bool := visN (S (3 + l)) (S (11 + l)) (min (S (19 + l)) hz) (S (123 + l)) x y
theorem sq_le {a : Int} {b : Nat} (h1 : -(b : Int) ≤ a) (h2 : a ≤ b) : a * a ≤ (b : Int) * b := by
  rcases Int.le_total 0 a with h | h
  · exact Int.le_trans (Int.mul_le_mul_of_nonneg_left h2 h) (Int.mul_le_mul_of_nonneg_right h2 (by omega))
  · rw [← Int.neg_mul_neg]
    exact Int.le_trans (Int.mul_le_mul_of_nonneg_left (show -a ≤ b by omega) (by omega)) (Int.mul_le_mul_of_nonneg_right (by omega) (by omega))
theorem sq_nn (a : Int) : 0 ≤ a * a := by
  rcases Int.le_total 0 a with h | h
  · exact Int.mul_nonneg h h
  · rw [← Int.neg_mul_neg]; exact Int.mul_nonneg (by omega) (by omega)
/-- the distance's comparison, in the machine's numbers -/
theorem dist_q {X Y R x y : Nat} (hX : X ≤ 1000) (hY : Y ≤ 1000) (hR : R ≤ 1000) (hx : x ≤ 1000) (hy : y ≤ 1000) :
    ((nI R * nI R) < ((nI x - nI X) * (nI x - nI X) + (nI y - nI Y) * (nI y - nI Y))) ↔ ¬ (((x : Int) - X) * ((x : Int) - X) + ((y : Int) - Y) * ((y : Int) - Y) ≤ (R : Int) * R) := by
  have e1 := pk_sub_toInt (a := x) (b := X) (by omega) (by omega)
  have e2 := pk_sub_toInt (a := y) (b := Y) (by omega) (by omega)
  have e3 := nI_toInt (n := R) (by omega)
  have q1 := mul_toInt (x := nI x - nI X) (y := nI x - nI X) (by rw [e1]; omega) (by rw [e1]; omega)
  have q2 := mul_toInt (x := nI y - nI Y) (y := nI y - nI Y) (by rw [e2]; omega) (by rw [e2]; omega)
  have q3 := mul_toInt (x := nI R) (y := nI R) (by rw [e3]; omega) (by rw [e3]; omega)
  rw [e1] at q1
  rw [e2] at q2
  rw [e3] at q3
  have b1 := sq_le (a := (x : Int) - X) (b := 1000) (by omega) (by omega)
  have b2 := sq_le (a := (y : Int) - Y) (b := 1000) (by omega) (by omega)
  have b3 := sq_nn ((x : Int) - X)
  have b4 := sq_nn ((y : Int) - Y)
  have q4 := add_toInt (x := (nI x - nI X) * (nI x - nI X)) (y := (nI y - nI Y) * (nI y - nI Y)) (by rw [q1]; omega) (by rw [q2]; omega)
  rw [Int32.lt_iff_toInt_lt, q4, q1, q2, q3]
  omega
theorem m_visBy {S : Nat → Nat} {τ : St} {l x y hz : Nat} (hR : RS S τ) (hl : l < 8) (h : WFl S l) (hx : x ≤ 1000) (hy : y ≤ 1000) (hz9 : hz ≤ 30) : f_X12_isVisibleBy (nI l) (nI x) (nI y) (nI hz) τ = some (bI (visS S l x y hz)) := by
  obtain ⟨h1, h2, ⟨h3, h3'⟩, h4, h5, h6, h7, h8, h9⟩ := h
  unfold f_X12_isVisibleBy
  simp only [nI_addq, vl_q]
  rw [ald_S hR (by omega), ald_S hR (by omega), ald_S hR (by omega)]
  have el : f_X12_lesser (nI (S (19 + l))) (nI hz) τ = some (nI (min (S (19 + l)) hz)) := by
    unfold f_X12_lesser
    rw [if_leq (by omega) (by omega)]
    split
    · rw [Nat.min_eq_right (by omega)]
    · rw [Nat.min_eq_left (by omega)]
  have e1 := pk_sub_toInt (a := x) (b := S (3 + l)) (by omega) (by omega)
  have e2 := pk_sub_toInt (a := y) (b := S (11 + l)) (by omega) (by omega)
  rw [el, bp_q, m_octantOf (by rw [e1]; omega) (by rw [e2]; omega), bp_q, e1, e2]
  simp only [jn_q]
  have hdq := dist_q (X := S (3 + l)) (Y := S (11 + l)) (R := min (S (19 + l)) hz) (x := x) (y := y) (by omega) (by omega) (by omega) hx hy
  unfold visS visN
  by_cases hd : ((x : Int) - S (3 + l)) * ((x : Int) - S (3 + l)) + ((y : Int) - S (11 + l)) * ((y : Int) - S (11 + l)) ≤ ((min (S (19 + l)) hz : Nat) : Int) * (min (S (19 + l)) hz : Nat)
  · rw [if_neg (fun z => hdq.mp z hd), decide_eq_true hd, Bool.true_and]
    have ho := octN_le ((x : Int) - S (3 + l)) ((y : Int) - S (11 + l))
    generalize octN ((x : Int) - S (3 + l)) ((y : Int) - S (11 + l)) = o at ho ⊢
    by_cases h8' : o = 8
    · subst h8'
      rw [if_pos (by decide)]
      rfl
    · rw [show oI o = nI o from if_neg h8', if_lt0 (by omega), ald_S hR (by omega), m_bitOf h9 (by omega), bp_q, if_bI, decide_eq_false h8', Bool.false_or]
      by_cases hb : S (123 + l) / 2 ^ o % 2 = 1
      · rw [decide_eq_true hb, if_pos rfl, decide_eq_false (by omega)]; rfl
      · rw [decide_eq_false hb, if_neg (by decide), decide_eq_true (by omega)]; rfl
  · rw [if_pos (hdq.mpr hd), decide_eq_false hd, Bool.false_and]; rfl
