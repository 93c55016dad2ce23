/-! light and mean: values both sides -/
theorem m_throwsIf (b : Bool) (τ : St) : f_X12_throwsIf (bI b) τ = some (bI b, sI τ 206 0 (bI b)) := by cases b <;> rfl
theorem m_throws0 (τ : St) : f_X12_throwsIf (nI 0) τ = some (nI 0, sI τ 206 0 (nI 0)) := rfl
theorem k_light {σ τ : St} {S : Nat → Nat} {u top N : Nat} {H : Nat → Nat → Nat} (hN : 1000 ≤ N) (hK : KRel σ τ S u top H) (x y : Int32) (hx : isN x (S 0) = true) (hy : 0 ≤ y.toInt ∧ y.toInt ≤ 10) : rdE τ (f_X11_light x y σ) (f_X12_light N x y τ) := by
  have hh := hK
  obtain ⟨h1, h2, hW, h4, h5, h6, h7, h8⟩ := hh
  have c1 := h2.1
  have y1 : ¬ y < 0 := by
    rw [Int32.lt_iff_toInt_lt]; have t : (0 : Int32).toInt = 0 := rfl; omega
  have y2 : y ≤ nI 10 := by
    rw [Int32.le_iff_toInt_le]; have t : (nI 10).toInt = 10 := rfl; omega
  obtain ⟨l, hl, rfl⟩ := isN_e hx (by omega)
  have hl8 : l < 8 := by omega
  have hwl := h2.2.2.2.1 l hl
  have w := hW.2.2.2.1 l hl
  obtain ⟨g1, g2, g3, g4, g5, g6, g7, g8, g9, g10⟩ := h5.2.2.2.1 l hl
  have hR0 := (KRel_thr hK (nI 0)).1
  have sO := h7.2.2.2.1 l hl
  rw [r49.1] at sO
  have hA := (h6 l hl).1
  unfold f_X11_light f_X12_light
  simp only [jn_q]
  rw [c_isLight c1 h5.1 (nI l), bp_q, m_isLight h1 c1 (nI l), bp_q, if_bI, if_bI, if_pos hx, if_pos hx, m_isIn, bp_q, if_bI]
  have e0 : (nI 0).toInt = 0 := rfl
  have e1 : (nI 10).toInt = 10 := rfl
  rw [if_pos (decide_eq_true (by rw [e0, e1]; exact hy)), if_neg y1, if_pos y2, ald_q hl8 (by decide), m_throws0, bd_q, if_pos (show nI 0 = (0 : Int32) from rfl)]
  by_cases q0 : y = nI 0
  · rw [if_pos q0, if_pos q0, vl_q, g1, nI_addq, ald_S hR0 (by omega)]; exact rd_no _ _
  rw [if_neg q0, if_neg q0]
  by_cases q1 : y = nI 1
  · rw [if_pos q1, if_pos q1, vl_q, g2, nI_addq, ald_S hR0 (by omega)]; exact rd_no _ _
  rw [if_neg q1, if_neg q1]
  by_cases q2 : y = nI 2
  · rw [if_pos q2, if_pos q2, vl_q, g3, nI_addq, ald_S hR0 (by omega)]; exact rd_no _ _
  rw [if_neg q2, if_neg q2]
  by_cases q3 : y = nI 3
  · rw [if_pos q3, if_pos q3, vl_q, g4, nI_addq, ald_S hR0 (by omega)]; exact rd_no _ _
  rw [if_neg q3, if_neg q3]
  by_cases q4 : y = nI 4
  · rw [if_pos q4, if_pos q4, ald_q hl8 (by decide), sO.1, nI_addq, ald_S hR0 (by omega)]; exact rd_no _ _
  rw [if_neg q4, if_neg q4]
  by_cases q5 : y = nI 5
  · rw [if_pos q5, if_pos q5, vl_q, g9, m_periodOf (by omega) hR0 hl8 hwl, bp_q]; exact rd_no _ _
  rw [if_neg q5, if_neg q5]
  by_cases q6 : y = nI 6
  · rw [if_pos q6, if_pos q6, c_placeOf h2 hW h5 h7 hl, bp_q, m_placeIn (by omega) hR0 hl8 hwl hW.1 w.2 (by decide), bp_q]; exact rd_no _ _
  rw [if_neg q6, if_neg q6]
  by_cases q7 : y = nI 7
  · rw [if_pos q7, if_pos q7, c_isOut hW.2.1.1 h7 hl8, bp_q, if_bI, ald_S hR0 (by decide), shr_bit l hl8 _ hW.2.1.1]
    by_cases b : S 148 / 2 ^ l % 2 = 1
    · rw [if_pos (decide_eq_true b), b]; exact rd_no _ _
    · rw [if_neg (fun z => b (of_decide_eq_true z)), show S 148 / 2 ^ l % 2 = 0 by omega]; exact rd_no _ _
  rw [if_neg q7, if_neg q7]
  by_cases q8 : y = nI 8
  · rw [if_pos q8, if_pos q8, c_shines h2 hW h5 h7 hl, bp_q, if_bI, m_isShining (by omega) hR0 hl8 hwl hW.1 w.2 hW.2.1.1 w.1, bp_q, if_bI]
    cases shineS S l
    · exact rd_no _ _
    · exact rd_no _ _
  rw [if_neg q8, if_neg q8]
  by_cases q9 : y = nI 9
  · rw [if_pos q9, if_pos q9, vl_q, hA]
    have := m_alkL (N := N) (c := nI l) (fun m => decide (l ≠ m) && alkS S l m) hR0 c1 (fun m hm => m_isAlike (by omega) hR0 hl8 (by omega) hwl (h2.2.2.2.1 m hm)) N 0 (by omega) (by omega)
    unfold f_X12_alikes
    rw [show nI (bset (fun m => decide (l ≠ m) && alkS S l m) 0) = nI 0 from rfl] at this
    rw [this, bp_q]; exact rd_no _ _
  rw [if_neg q9, if_neg q9, vl_q, g7, nI_addq, ald_S hR0 (by omega)]
  exact rd_no _ _
theorem k_lightT {σ τ : St} {S : Nat → Nat} {u top N : Nat} {H : Nat → Nat → Nat} (hK : KRel σ τ S u top H) (x y : Int32) (h : ¬ (isN x (S 0) = true ∧ 0 ≤ y.toInt ∧ y.toInt ≤ 10)) : f_X12_light N x y τ = some (nI 0, sI τ 206 0 (nI 1)) := by
  have hh := hK
  obtain ⟨h1, h2, hW, h4, h5, h6, h7, h8⟩ := hh
  unfold f_X12_light
  simp only [jn_q]
  rw [m_isLight h1 h2.1 x, bp_q, if_bI]
  have fin : (bd (f_X12_throwsIf (nI 1) τ) fun v4 s5 => if v4 = 0 then (none : Option (Int32 × St)) else some ((nI 0), s5)) = some (nI 0, sI τ 206 0 (nI 1)) := rfl
  have e0 : (nI 0).toInt = 0 := rfl
  have e1 : (nI 10).toInt = 10 := rfl
  by_cases hx : isN x (S 0) = true
  · rw [if_pos hx, m_isIn, bp_q, if_bI, if_neg (fun z => h ⟨hx, by have t := of_decide_eq_true z; rw [e0, e1] at t; exact t⟩)]
    rfl
  · rw [if_neg hx]
    rfl
/-! mean -/
theorem gcd_stay {A B d : Nat} (hB : 0 < B) (hd : 1 < d) : ¬ (d ∣ A / Nat.gcd A B ∧ d ∣ B / Nat.gcd A B) := by
  intro h
  obtain ⟨⟨i, hi⟩, ⟨j, hj⟩⟩ := h
  have hg := Nat.gcd_pos_of_pos_right A hB
  have ea : Nat.gcd A B * (A / Nat.gcd A B) = A := Nat.mul_div_cancel' (Nat.gcd_dvd_left A B)
  have eb : Nat.gcd A B * (B / Nat.gcd A B) = B := Nat.mul_div_cancel' (Nat.gcd_dvd_right A B)
  have da : Nat.gcd A B * d ∣ A := ⟨i, by rw [Nat.mul_assoc, ← hi, ea]⟩
  have db : Nat.gcd A B * d ∣ B := ⟨j, by rw [Nat.mul_assoc, ← hj, eb]⟩
  have := Nat.le_of_dvd hg (Nat.dvd_gcd da db)
  have h2 : Nat.gcd A B * 2 ≤ Nat.gcd A B * d := Nat.mul_le_mul_left _ hd
  omega
theorem c_meanQ {N : Nat} {c : Int32} {σ : St} {k : Int32 → Int32 → Option Int32} {a b : Nat} (ha : a < 2147483648) (hb : b < 2147483648) (hs : ∀ d, 1 < d → ¬ (d ∣ a ∧ d ∣ b)) : ∀ n d, d < n → d < 2147483648 → f_X11_mean_L52 N c σ k n (nI a) (nI b) (nI d) = k (nI a) (nI b) := by
  intro n
  induction n with
  | zero => intro d h; omega
  | succ n ih =>
    intro d h h31
    rw [f_X11_mean_L52, if_leq h31 (by decide)]
    by_cases hd : d ≤ 1
    · rw [if_pos hd]
    · have e : nI d + (-1) = nI (d - 1) := by rw [← nI_subq (show 1 ≤ d by omega), Int32.sub_eq_add_neg]; rfl
      rw [if_neg hd, rm_q ha (by omega) h31]
      simp only [jn_q, vl_q]
      rw [if_eq0 (by have := Nat.mod_lt a (show 0 < d by omega); omega), e, ih (d - 1) (by omega) (by omega)]
      by_cases r1 : a % d = 0
      · rw [if_pos r1, rm_q hb (by omega) h31, if_eq0 (by have := Nat.mod_lt b (show 0 < d by omega); omega), if_neg (fun r2 => hs d (by omega) ⟨Nat.dvd_of_mod_eq_zero r1, Nat.dvd_of_mod_eq_zero r2⟩)]
      · rw [if_neg r1]
theorem c_meanL {N : Nat} {c : Int32} {σ : St} {k : Int32 → Int32 → Option Int32} {A B : Nat} (hA : A < 2147483648) (hB : 0 < B) (hB3 : B < 2147483648) : ∀ n d, Nat.gcd A B ≤ d → d < n → d < 2147483648 → f_X11_mean_L52 N c σ k n (nI A) (nI B) (nI d) = k (nI (A / Nat.gcd A B)) (nI (B / Nat.gcd A B)) := by
  intro n
  have hg := Nat.gcd_pos_of_pos_right A hB
  induction n with
  | zero => intro d _ h; omega
  | succ n ih =>
    intro d hgd h h31
    rw [f_X11_mean_L52, if_leq h31 (by decide)]
    by_cases hd : d ≤ 1
    · have e1 : Nat.gcd A B = 1 := by omega
      rw [if_pos hd, e1, Nat.div_one, Nat.div_one]
    · have e : nI d + (-1) = nI (d - 1) := by rw [← nI_subq (show 1 ≤ d by omega), Int32.sub_eq_add_neg]; rfl
      rw [if_neg hd, rm_q hA (by omega) h31]
      simp only [jn_q, vl_q]
      rw [if_eq0 (by have := Nat.mod_lt A (show 0 < d by omega); omega), e]
      by_cases hq : d = Nat.gcd A B
      · subst hq
        have la : A / Nat.gcd A B ≤ A := Nat.div_le_self _ _
        have lb : B / Nat.gcd A B ≤ B := Nat.div_le_self _ _
        rw [if_pos (Nat.mod_eq_zero_of_dvd (Nat.gcd_dvd_left A B)), rm_q hB3 (by omega) h31, if_eq0 (by have := Nat.mod_lt B (show 0 < Nat.gcd A B by omega); omega), if_pos (Nat.mod_eq_zero_of_dvd (Nat.gcd_dvd_right A B)), dv_q hA (by omega) h31, dv_q hB3 (by omega) h31]
        exact c_meanQ (by omega) (by omega) (fun d hd => gcd_stay hB hd) n _ (by omega) (by omega)
      · rw [ih (d - 1) (by omega) (by omega) (by omega)]
        by_cases r1 : A % d = 0
        · rw [if_pos r1, rm_q hB3 (by omega) h31, if_eq0 (by have := Nat.mod_lt B (show 0 < d by omega); omega), if_neg (fun r2 => by
            have := Nat.le_of_dvd hg (Nat.dvd_gcd (Nat.dvd_of_mod_eq_zero r1) (Nat.dvd_of_mod_eq_zero r2))
            omega)]
        · rw [if_neg r1]
theorem m_meanL {N : Nat} {c : Int32} {τ : St} {k : Int32 → Option (Int32 × St)} {G : Nat} : ∀ n a b, Nat.gcd b a = G → b < n → a < 2147483648 → b < 2147483648 → f_X12_mean_L44 N c τ k n (nI a) (nI b) = k (nI G) := by
  intro n
  induction n with
  | zero => intro a b _ h; omega
  | succ n ih =>
    intro a b hg h ha hb
    rw [f_X12_mean_L44, if_eq0 hb]
    by_cases h0 : b = 0
    · subst h0
      rw [if_pos rfl, ← hg, Nat.gcd_zero_left]
    · have l := Nat.mod_lt a (show 0 < b by omega)
      rw [if_neg h0, rm_q ha (by omega) hb]
      exact ih b (a % b) (by rw [← hg]; exact (Nat.gcd_rec b a).symm) (by omega) hb (by omega)
theorem k_mean {σ τ : St} {S : Nat → Nat} {u top N : Nat} {H : Nat → Nat → Nat} (hN : 10000 ≤ N) (hK : KRel σ τ S u top H) (x : Int32) (h0 : S 0 ≠ 0) (hx : 0 ≤ x.toInt ∧ x.toInt ≤ 1) : rdE τ (f_X11_mean N x σ) (f_X12_mean N x τ) := by
  have hh := hK
  obtain ⟨h1, h2, hW, h4, h5, h6, h7, h8⟩ := hh
  have c1 := h2.1
  obtain ⟨k, hk, rfl⟩ : ∃ k, k < 2 ∧ x = nI k := by
    obtain ⟨a, a1, a2, e⟩ := inR (lo := 0) (hi := 1) (by decide) (by decide) hx
    exact ⟨a, by omega, e⟩
  have hR0 := (KRel_thr hK (nI 0)).1
  have ho := oilS_le (S := S) (n := S 0) (fun l hl => (hW.2.2.2.1 l hl).1)
  have co := c_oilOfAll (N := N) (by omega) h2 h5 h7
  have mo := m_oilInAll (N := N) (by omega) hR0 h2 hW
  have hg := Nat.gcd_pos_of_pos_right (oilS S (S 0)) (show 0 < S 0 by omega)
  have hg2 := Nat.gcd_le_right (oilS S (S 0)) (show 0 < S 0 by omega)
  unfold f_X11_mean f_X12_mean
  simp only [jn_q]
  have e0 : (nI 0).toInt = 0 := rfl
  have e1 : (nI 1).toInt = 1 := rfl
  rw [vl_q, h5.1, if_eq0 (by omega), if_neg h0, if_lt0 (by omega), if_leq (by omega) (by decide), if_pos (by omega), co, bp_q, vl_q, vl_q, c_meanL (by omega) (by omega) (by omega) N (S 0) hg2 (by omega) (by omega)]
  rw [ald_S h1 (by decide), if_eq0 (a := S 0) (by omega), if_neg h0, m_isIn, bp_q, if_bI, if_pos (decide_eq_true (by rw [e0, e1]; exact hx)), m_throws0, bd_q, if_pos (show nI 0 = (0 : Int32) from rfl)]
  rw [ald_S hR0 (by decide), mo, bp_q, m_meanL (G := Nat.gcd (oilS S (S 0)) (S 0)) N (S 0) _ rfl (by omega) (by omega) (by omega)]
  by_cases q : nI k = 0
  · rw [if_pos q, if_pos q, bp_q, dv_q (by omega) hg (by omega)]; exact rd_no _ _
  · rw [if_neg q, if_neg q, ald_S hR0 (by decide), dv_q (by omega) hg (by omega)]; exact rd_no _ _
theorem k_meanT {σ τ : St} {S : Nat → Nat} {u top N : Nat} {H : Nat → Nat → Nat} (hK : KRel σ τ S u top H) (x : Int32) (h : ¬ (S 0 ≠ 0 ∧ 0 ≤ x.toInt ∧ x.toInt ≤ 1)) : f_X12_mean N x τ = some (nI 0, sI τ 206 0 (nI 1)) := by
  have hh := hK
  obtain ⟨h1, h2, hW, h4, h5, h6, h7, h8⟩ := hh
  have c1 := h2.1
  unfold f_X12_mean
  simp only [jn_q]
  rw [ald_S h1 (by decide), if_eq0 (by omega)]
  have e0 : (nI 0).toInt = 0 := rfl
  have e1 : (nI 1).toInt = 1 := rfl
  by_cases h0 : S 0 = 0
  · rw [if_pos h0]; rfl
  · rw [if_neg h0, m_isIn, bp_q, if_bI, if_neg (fun z => h ⟨h0, by have t := of_decide_eq_true z; rw [e0, e1] at t; exact t⟩)]
    rfl
