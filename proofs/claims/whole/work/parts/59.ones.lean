/-! one operand: both sides -/
theorem reg_in {j r : Nat} (h1 : 206 ≤ r) (h2 : r < 226) (h : reg j = r) : j = r := by
  have : ∀ j, j < 226 → ∀ r, r < 226 → 206 ≤ r → reg j = r → j = r := by decide +kernel
  by_cases q : j < 226
  · exact this j q r h2 h1 h
  · have e : reg j = 999 := by
      unfold reg
      have l : regL.length = 226 := by decide +kernel
      rw [List.getD_eq_getElem?_getD, List.getElem?_eq_none (by omega)]
      rfl
    omega
theorem MqS_fr {τ τ' : St} (h : Fr [206, 210, 220] τ τ') : MqS τ τ' := fun b b1 b2 b3 => by
  have := h b (fun w => by
    simp only [List.mem_cons, List.mem_nil_iff, or_false] at w
    rcases w with w | w | w
    · exact b1 (reg_in (by decide) (by decide) w)
    · exact b2 (reg_in (by decide) (by decide) w)
    · exact b3 (reg_in (by decide) (by decide) w))
  exact ⟨this.1.symm, this.2.symm⟩
def cJo (N : Nat) (rec : Nat → Int32 → St → Option (Int32 × St)) (x3 v1 v2 : Int32) (s0 : St) : Option (Int32 × St) := vl (s0.1 66 0) fun v4 =>
    jn (bd (f_X9_refuse (nI 4) s0) fun v6 s7 =>
      rz v6 <|
      some (v6, s7)) fun j5 =>
    if (nI 20) ≤ v4 then
      j5
    else
    if x3 ≤ (nI 8) then
      vl (s0.1 66 0) fun v8 =>
      vl (sI s0 66 0 (v8 + (nI 1))) fun s9 =>
      bp (f_X9_next N s9) fun s10 =>
      if v2 = 0 then
        if v1 = (nI 2) then
          bd (rec 66 (x3 + (nI 1)) s10) fun v11 s12 =>
          jn (fun (s13 : St) =>
            some ((nI 0), s13)) fun j14 =>
          if v11 = 0 then
            j14 s12
          else
          bd (f_X7_add 66 (nI 2) (nI 0) (nI 0) s12) fun v15 s16 =>
          if v15 = 0 then
            j14 s16
          else
          some ((nI 1), s16)
        else
        bd (f_X7_readPlain N 66 v1 s10) fun v17 s18 =>
        rz v17 <|
        some (v17, s18)
      else
      bd (f_X7_readCondition N rec 66 (x3 + (nI 1)) s10) fun v19 s20 =>
      jn (fun (s21 : St) =>
        some ((nI 0), s21)) fun j22 =>
      if v19 = 0 then
        j22 s20
      else
      bd (f_X9_takeSign N (nI 41) s20) fun v23 s24 =>
      if v23 = 0 then
        j22 s24
      else
      some ((nI 1), s24)
    else
    j5
def mPush (v1 : Int32) (s12 : St) : Option (Int32 × St) := vl (s12.1 206 46) fun v14 =>
        jn (fun (v15 : Int32) =>
          ald (fun j => sI s12 220 j v15) 45 v14 fun s17 =>
          vl (s17.1 206 46) fun v18 =>
          vl (sI s17 206 46 (v18 + (nI 1))) fun s19 =>
          vl (s19.1 206 47) fun v20 =>
          vl (sI s19 206 47 (v20 + (nI 1))) fun s21 =>
          some ((nI 1), s21)) fun j16 =>
        if v1 = 0 then
          j16 (nI 23)
        else
        j16 (nI 20)
def mJo (N : Nat) (v1 v2 v3 : Int32) (s0 : St) : Option (Int32 × St) := vl (s0.1 206 45) fun v5 =>
    jn (bd (f_X12_bad (nI 4) s0) fun v7 s8 =>
      rz v7 <|
      some (v7, s8)) fun j6 =>
    if v5 = (nI 20) then
      j6
    else
    vl (s0.1 206 47) fun v9 =>
    if v9 ≤ (nI 8) then
      vl (s0.1 206 45) fun v10 =>
      vl (sI s0 206 45 (v10 + (nI 1))) fun s11 =>
      bp (f_X12_next N s11) fun s12 =>
      jn (mPush v1 s12) fun j13 =>
      if v1 = 0 then
        if v2 = 0 then
          mLf N v3 s12
        else
        j13
      else
      j13
    else
    j6
section On
variable {σ τ : St} {N n L k a b cc d v m0 m1 : Nat} {B : Nat → Nat} {k12 : St → Option (Int32 × St)}
theorem p_kind (H : PR σ τ n L B k a b cc d v) : (∃ K0 lf, 2 ≤ K0 ∧ K0 ≤ 11 ∧ k = 1 ∧ f_X7_kindAt σ = some (nI K0) ∧ f_X12_isWord 7237492 τ = some (bI (decide (K0 = 2))) ∧ f_X12_leafOf τ = some lf ∧ (3 ≤ K0 → lf = nI (K0 - 3))) ∨ (f_X7_kindAt σ = some (-1) ∧ f_X12_isWord 7237492 τ = some (nI 0) ∧ f_X12_leafOf τ = some (-1)) := by
  unfold f_X7_kindAt f_X12_leafOf
  rw [m_is (i := 17) (x := 7237492) (by decide) (by decide) H, m_is (i := 18) (x := 7304564) (by decide) (by decide) H, m_is (i := 19) (x := 32484424354983527) (by decide) (by decide) H, m_is (i := 20) (x := 439856162148) (by decide) (by decide) H, m_is (i := 21) (x := 1818848101) (by decide) (by decide) H, m_is (i := 22) (x := 25209) (by decide) (by decide) H, m_is (i := 23) (x := 7301484) (by decide) (by decide) H, m_is (i := 24) (x := 123581013520228) (by decide) (by decide) H, m_is (i := 25) (x := 491260897125) (by decide) (by decide) H, m_is (i := 26) (x := 121450625394034) (by decide) (by decide) H, c_is (i := 17) (by decide) H, c_is (i := 18) (by decide) H, c_is (i := 19) (by decide) H, c_is (i := 20) (by decide) H, c_is (i := 21) (by decide) H, c_is (i := 22) (by decide) H, c_is (i := 23) (by decide) H, c_is (i := 24) (by decide) H, c_is (i := 25) (by decide) H, c_is (i := 26) (by decide) H]
  by_cases k1 : k = 1
  · have go : ∀ i, 17 ≤ i → i < 27 → cc = rvC i → ∀ j, j < 27 → j ≠ i → decide (k = 1 ∧ cc = rvC j) = false := fun i h1 h2 e j h3 h4 => decide_eq_false (fun w => by
      have inj : ∀ i, i < 27 → ∀ j, j < 27 → rvC i = rvC j → i = j := by decide +kernel
      exact h4 (inj i h2 j h3 (e.symm.trans w.2)).symm)
    have yes : ∀ i, cc = rvC i → decide (k = 1 ∧ cc = rvC i) = true := fun i e => decide_eq_true ⟨k1, e⟩
    by_cases w : ∃ i, 17 ≤ i ∧ i < 27 ∧ cc = rvC i
    · obtain ⟨i, i1, i2, e⟩ := w
      have g := go i i1 i2 e
      have y := yes i e
      have : i = 17 ∨ i = 18 ∨ i = 19 ∨ i = 20 ∨ i = 21 ∨ i = 22 ∨ i = 23 ∨ i = 24 ∨ i = 25 ∨ i = 26 := by omega
      rcases this with rfl | rfl | rfl | rfl | rfl | rfl | rfl | rfl | rfl | rfl
      · rw [y, g 18 (by decide) (by decide), g 19 (by decide) (by decide), g 20 (by decide) (by decide), g 21 (by decide) (by decide), g 22 (by decide) (by decide), g 23 (by decide) (by decide), g 24 (by decide) (by decide), g 25 (by decide) (by decide), g 26 (by decide) (by decide)]
        exact Or.inl ⟨2, -1, by decide, by decide, k1, rfl, rfl, rfl, fun h => absurd h (by decide)⟩
      · rw [y, g 17 (by decide) (by decide)]
        exact Or.inl ⟨3, nI 0, by decide, by decide, k1, rfl, rfl, rfl, fun _ => rfl⟩
      · rw [y, g 17 (by decide) (by decide), g 18 (by decide) (by decide)]
        exact Or.inl ⟨4, nI 1, by decide, by decide, k1, rfl, rfl, rfl, fun _ => rfl⟩
      · rw [y, g 17 (by decide) (by decide), g 18 (by decide) (by decide), g 19 (by decide) (by decide)]
        exact Or.inl ⟨5, nI 2, by decide, by decide, k1, rfl, rfl, rfl, fun _ => rfl⟩
      · rw [y, g 17 (by decide) (by decide), g 18 (by decide) (by decide), g 19 (by decide) (by decide), g 20 (by decide) (by decide)]
        exact Or.inl ⟨6, nI 3, by decide, by decide, k1, rfl, rfl, rfl, fun _ => rfl⟩
      · rw [y, g 17 (by decide) (by decide), g 18 (by decide) (by decide), g 19 (by decide) (by decide), g 20 (by decide) (by decide), g 21 (by decide) (by decide)]
        exact Or.inl ⟨7, nI 4, by decide, by decide, k1, rfl, rfl, rfl, fun _ => rfl⟩
      · rw [y, g 17 (by decide) (by decide), g 18 (by decide) (by decide), g 19 (by decide) (by decide), g 20 (by decide) (by decide), g 21 (by decide) (by decide), g 22 (by decide) (by decide)]
        exact Or.inl ⟨8, nI 5, by decide, by decide, k1, rfl, rfl, rfl, fun _ => rfl⟩
      · rw [y, g 17 (by decide) (by decide), g 18 (by decide) (by decide), g 19 (by decide) (by decide), g 20 (by decide) (by decide), g 21 (by decide) (by decide), g 22 (by decide) (by decide), g 23 (by decide) (by decide)]
        exact Or.inl ⟨9, nI 6, by decide, by decide, k1, rfl, rfl, rfl, fun _ => rfl⟩
      · rw [y, g 17 (by decide) (by decide), g 18 (by decide) (by decide), g 19 (by decide) (by decide), g 20 (by decide) (by decide), g 21 (by decide) (by decide), g 22 (by decide) (by decide), g 23 (by decide) (by decide), g 24 (by decide) (by decide)]
        exact Or.inl ⟨10, nI 7, by decide, by decide, k1, rfl, rfl, rfl, fun _ => rfl⟩
      · rw [y, g 17 (by decide) (by decide), g 18 (by decide) (by decide), g 19 (by decide) (by decide), g 20 (by decide) (by decide), g 21 (by decide) (by decide), g 22 (by decide) (by decide), g 23 (by decide) (by decide), g 24 (by decide) (by decide), g 25 (by decide) (by decide)]
        exact Or.inl ⟨11, nI 8, by decide, by decide, k1, rfl, rfl, rfl, fun _ => rfl⟩
    · have f : ∀ i, 17 ≤ i → i < 27 → decide (k = 1 ∧ cc = rvC i) = false := fun i h1 h2 => decide_eq_false (fun y => w ⟨i, h1, h2, y.2⟩)
      rw [f 17 (by decide) (by decide), f 18 (by decide) (by decide), f 19 (by decide) (by decide), f 20 (by decide) (by decide), f 21 (by decide) (by decide), f 22 (by decide) (by decide), f 23 (by decide) (by decide), f 24 (by decide) (by decide), f 25 (by decide) (by decide), f 26 (by decide) (by decide)]
      exact Or.inr ⟨rfl, rfl, rfl⟩
  · have f : ∀ i, decide (k = 1 ∧ cc = rvC i) = false := fun i => decide_eq_false (fun y => k1 y.1)
    rw [f 17, f 18, f 19, f 20, f 21, f 22, f 23, f 24, f 25, f 26]
    exact Or.inr ⟨rfl, rfl, rfl⟩
theorem LP0 {m : Nat} (h48 : τ.1 206 48 = nI 0) : lpS N k12 (m + 1) τ = bd (f_X12_operand N τ) fun v25 s26 => if v25 = 0 then kFl s26 else lpS N k12 m s26 := by
  unfold lpS
  rw [f_X12_sentence_L48, if_one, vl_q, h48]
  refine (jn_q _ _).trans ?_
  rw [if_pos (by decide), vl_q, if_pos (by decide)]
end On
