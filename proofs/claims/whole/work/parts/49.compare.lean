/-! the class: the lights are compared -/
theorem d3 : rr 3 0 = 4 ∧ rr 3 1 = 5 := by decide +kernel
theorem d4q {l : Nat} (h : l < 8) : rr 4 l = 6 + 2 * l := by
  have : ∀ l, l < 8 → rr 4 l = 6 + 2 * l := by decide +kernel
  exact this l h
theorem d4r {l : Nat} (h : l < 8) : rr (6 + 2 * l) 11 = 7 + 2 * l := by
  have : ∀ l, l < 8 → rr (6 + 2 * l) 11 = 7 + 2 * l := by decide +kernel
  exact this l h
theorem d5q {k : Nat} (h : k < 4) : rr 5 k = 22 + k := by
  have : ∀ k, k < 4 → rr 5 k = 22 + k := by decide +kernel
  exact this k h
/-- besides fields 12 and 13 of the lights all is as it was -/
def Ot (s t : St) : Prop := t.2 = s.2 ∧ ∀ c k, (k ≠ 12 ∧ k ≠ 13) ∨ ¬ (6 ≤ c ∧ c < 22 ∧ c % 2 = 0) → t.1 c k = s.1 c k
theorem Ot.rf {s : St} : Ot s s := ⟨rfl, fun _ _ _ => rfl⟩
theorem Ot.trans {s t u : St} (h : Ot s t) (g : Ot t u) : Ot s u := ⟨g.1.trans h.1, fun c k q => (g.2 c k q).trans (h.2 c k q)⟩
theorem Ot.put {s t : St} {l k : Nat} {v : Int32} (h : Ot s t) (hl : l < 8) (hk : k = 12 ∨ k = 13) : Ot s (sI t (6 + 2 * l) k v) := ⟨h.1, fun c j q => by
  rw [sI1]
  by_cases e : c = 6 + 2 * l
  · rw [if_pos e, if_neg (by omega)]; exact e ▸ h.2 c j q
  · rw [if_neg e]; exact h.2 c j q⟩
theorem LRel_o {S : Nat → Nat} {l : Nat} {s t : St} (hl : l < 8) (h : Ot s t) (g : LRel s (6 + 2 * l) S l) : LRel t (6 + 2 * l) S l := by
  unfold LRel at g ⊢
  rw [d4r hl] at g ⊢
  obtain ⟨r1, r2, r3, r4, r5, r6, r8, r9, r10, r11⟩ := g
  have e := fun k (hk : k ≠ 12 ∧ k ≠ 13) => h.2 (6 + 2 * l) k (Or.inl hk)
  exact ⟨by rw [e 1 (by decide)]; exact r1, by rw [e 2 (by decide)]; exact r2, by rw [e 3 (by decide)]; exact r3, by rw [e 4 (by decide)]; exact r4, by rw [e 5 (by decide)]; exact r5, by rw [e 6 (by decide)]; exact r6, by rw [e 8 (by decide)]; exact r8, by rw [e 9 (by decide)]; exact r9, by rw [e 10 (by decide)]; exact r10, fun p hp => by rw [h.2 (7 + 2 * l) p (Or.inr (by omega))]; exact r11 p hp⟩
def aP (q : Nat → Nat → Bool) (i j l : Nat) : Nat := if l = i then bset (q i) j else if l < j then bset (q l) (i + 1) else bset (q l) i
theorem aP_s {q : Nat → Nat → Bool} {i j : Nat} (hj : j < i) (hs : q i j = q j i) (l : Nat) : aP q i (j + 1) l = if l = i then aP q i j i + (if q i j = true then 2 ^ j else 0) else if l = j then aP q i j j + (if q i j = true then 2 ^ i else 0) else aP q i j l := by
  unfold aP
  by_cases e : l = i
  · rw [if_pos e, if_pos e, if_pos rfl]
    simp only [bset]
  · rw [if_neg e, if_neg e]
    by_cases e2 : l = j
    · subst e2
      rw [if_pos rfl, if_pos (by omega), if_neg (by omega), if_neg (by omega), hs]
      simp only [bset]
    · rw [if_neg e2, if_neg e]
      by_cases e3 : l < j
      · rw [if_pos e3, if_pos (by omega)]
      · rw [if_neg e3, if_neg (by omega)]
theorem or_b (p : Nat → Bool) {n : Nat} (hn : n < 8) {m : Nat} (hm : m ≤ n) : nI (bset p m) ||| (nI 1 <<< (nI n &&& 31)) = nI (bset p m + 2 ^ n) := (or_set n hn _ (bset_lt8 p (by omega)) (by rw [bset_bit, if_neg (by omega)])).1
theorem aP_i (q : Nat → Nat → Bool) (i j : Nat) : aP q i j i = bset (q i) j := if_pos rfl
theorem aP_j (q : Nat → Nat → Bool) {i j : Nat} (h : j < i) : aP q i j j = bset (q j) i := by
  unfold aP
  rw [if_neg (by omega), if_neg (by omega)]
def alQ (S : Nat → Nat) (l m : Nat) : Bool := decide (l ≠ m) && alkS S l m
theorem alQ_c (S : Nat → Nat) (l m : Nat) : alQ S l m = alQ S m l := by
  unfold alQ
  rw [alk_comm, show decide (l ≠ m) = decide (m ≠ l) from decide_eq_decide.mpr ⟨Ne.symm, Ne.symm⟩]
def AR (S : Nat → Nat) (t : St) (i j : Nat) : Prop := ∀ l, l ≤ i → t.1 (6 + 2 * l) 12 = nI (aP (alQ S) i j l) ∧ t.1 (6 + 2 * l) 13 = nI (aP (conS S) i j l)
theorem tw_k {t : St} {i j f : Nat} {v w : Int32} (l k : Nat) : (sI (sI t (6 + 2 * i) f v) (6 + 2 * j) f w).1 (6 + 2 * l) k = if k = f then (if l = j then w else if l = i then v else t.1 (6 + 2 * l) k) else t.1 (6 + 2 * l) k := by
  rw [sI1]
  by_cases e : l = j
  · rw [if_pos (by omega)]
    by_cases e2 : k = f
    · rw [if_pos e2, if_pos e2, if_pos e]
    · rw [if_neg e2, if_neg e2, sI1]
      by_cases e3 : j = i
      · rw [if_pos (by omega), if_neg e2, e, e3]
      · rw [if_neg (by omega), e]
  · rw [if_neg (by omega), sI1]
    by_cases e3 : l = i
    · rw [if_pos (by omega)]
      by_cases e2 : k = f
      · rw [if_pos e2, if_pos e2, if_neg e, if_pos e3]
      · rw [if_neg e2, if_neg e2, e3]
    · rw [if_neg (by omega)]
      by_cases e2 : k = f
      · rw [if_pos e2, if_neg e, if_neg e3]
      · rw [if_neg e2]
section Cmp
variable {S : Nat → Nat} {N : Nat}
theorem c_pair {t : St} {i j : Nat} (hN : 500 ≤ N) (hi : i < 8) (hj : j < i) (w1 : WFl S i) (w2 : WFl S j) (r1 : LRel t (6 + 2 * i) S i) (r2 : LRel t (6 + 2 * j) S j) (h : AR S t i j) : ∃ t', f_X1_comparePair N 3 (nI i) (nI j) t = some t' ∧ AR S t' i (j + 1) ∧ Ot t t' := by
  have qa := fun l => aP_s hj (alQ_c S i j) l
  have qc := fun l => aP_s hj (con_comm S i j) l
  obtain ⟨i12, i13⟩ := h i (Nat.le_refl _)
  obtain ⟨j12, j13⟩ := h j (by omega)
  rw [aP_i] at i12 i13
  rw [aP_j _ hj] at j12 j13
  have ne : decide (i ≠ j) = true := decide_eq_true (by omega)
  unfold f_X1_comparePair
  rw [ald_q (by omega) (by decide), ald_q (by omega) (by decide), d3.1, d4q hi, d4q (by omega), c_isAlike (by omega) w1 w2 r1 r2, bp_q, if_bI]
  by_cases al : alkS S i j = true
  · have e1 : (sI t (6 + 2 * i) 12 (nI (bset (alQ S i) j + 2 ^ j))).1 (6 + 2 * j) 12 = nI (bset (alQ S j) i) := by
      rw [sI_ne (by omega)]; exact j12
    have ot : Ot t (sI (sI t (6 + 2 * i) 12 (nI (bset (alQ S i) j + 2 ^ j))) (6 + 2 * j) 12 (nI (bset (alQ S j) i + 2 ^ i))) := (Ot.rf.put hi (Or.inl rfl)).put (by omega) (Or.inl rfl)
    have aq : alQ S i j = true := by unfold alQ; rw [ne, al]; rfl
    have f12 : ∀ l, l ≤ i → (sI (sI t (6 + 2 * i) 12 (nI (bset (alQ S i) j + 2 ^ j))) (6 + 2 * j) 12 (nI (bset (alQ S j) i + 2 ^ i))).1 (6 + 2 * l) 12 = nI (aP (alQ S) i (j + 1) l) := fun l hl => by
      rw [tw_k, if_pos rfl, qa, if_pos aq, if_pos aq, aP_i, aP_j _ hj]
      by_cases z : l = i
      · rw [if_neg (by omega), if_pos z, if_pos z]
      · by_cases z2 : l = j
        · rw [if_pos z2, if_neg z, if_pos z2]
        · rw [if_neg z2, if_neg z, if_neg z, if_neg z2]; exact (h l hl).1
    have f13 : ∀ l, l ≤ i → (sI (sI t (6 + 2 * i) 12 (nI (bset (alQ S i) j + 2 ^ j))) (6 + 2 * j) 12 (nI (bset (alQ S j) i + 2 ^ i))).1 (6 + 2 * l) 13 = nI (aP (conS S) i j l) := fun l hl => by
      rw [tw_k, if_neg (by decide)]; exact (h l hl).2
    rw [if_pos al, ald_q (by omega) (by decide), d4q hi, vl_q, i12, vl_q, or_b _ (by omega) (Nat.le_refl _), ald_q (by omega) (by decide), d4q (by omega), vl_q, e1, vl_q, or_b _ hi (Nat.le_refl _)]
    generalize hT : (sI (sI t (6 + 2 * i) 12 (nI (bset (alQ S i) j + 2 ^ j))) (6 + 2 * j) 12 (nI (bset (alQ S j) i + 2 ^ i))) = T at *
    obtain ⟨I12, I13⟩ := And.intro (f12 i (Nat.le_refl _)) (f13 i (Nat.le_refl _))
    have J13 := f13 j (by omega)
    rw [aP_i] at I13
    rw [aP_j _ hj] at J13
    rw [ald_q (by omega) (by decide), ald_q (by omega) (by decide), d4q hi, d4q (by omega), c_isInOneSight hN w1 w2 (LRel_o hi ot r1) (LRel_o (by omega) ot r2), bp_q, if_bI]
    by_cases sg : sgtS S i j = true
    · have cq : conS S i j = true := by unfold conS; rw [ne, al, sg]; rfl
      have e2 : (sI T (6 + 2 * i) 13 (nI (bset (conS S i) j + 2 ^ j))).1 (6 + 2 * j) 13 = nI (bset (conS S j) i) := by
        rw [sI_ne (by omega)]; exact J13
      rw [if_pos sg, ald_q (by omega) (by decide), d4q hi, vl_q, I13, vl_q, or_b _ (by omega) (Nat.le_refl _), ald_q (by omega) (by decide), d4q (by omega), vl_q, e2, vl_q, or_b _ hi (Nat.le_refl _)]
      refine ⟨_, rfl, fun l hl => ⟨?_, ?_⟩, (ot.put hi (Or.inr rfl)).put (by omega) (Or.inr rfl)⟩
      · rw [tw_k, if_neg (by decide)]; exact f12 l hl
      · rw [tw_k, if_pos rfl, qc, if_pos cq, if_pos cq, aP_i, aP_j _ hj]
        by_cases z : l = i
        · rw [if_neg (by omega), if_pos z, if_pos z]
        · by_cases z2 : l = j
          · rw [if_pos z2, if_neg z, if_pos z2]
          · rw [if_neg z2, if_neg z, if_neg z, if_neg z2]; exact f13 l hl
    · have cq : ¬ conS S i j = true := by unfold conS; rw [ne, al, Bool.eq_false_iff.mpr sg]; decide
      rw [if_neg sg]
      refine ⟨T, rfl, fun l hl => ⟨f12 l hl, ?_⟩, ot⟩
      rw [f13 l hl, qc, if_neg cq, if_neg cq, Nat.add_zero, Nat.add_zero]
      by_cases z : l = i
      · rw [if_pos z, z]
      · by_cases z2 : l = j
        · rw [if_neg z, if_pos z2, z2]
        · rw [if_neg z, if_neg z2]
  · have aq : ¬ alQ S i j = true := by unfold alQ; rw [ne, Bool.eq_false_iff.mpr al]; decide
    have cq : ¬ conS S i j = true := by unfold conS; rw [Bool.eq_false_iff.mpr al]; simp
    rw [if_neg al]
    refine ⟨t, rfl, fun l hl => ?_, Ot.rf⟩
    rw [(h l hl).1, (h l hl).2, qa, qc, if_neg cq, if_neg cq, if_neg aq, if_neg aq, Nat.add_zero, Nat.add_zero, Nat.add_zero, Nat.add_zero]
    by_cases z : l = i
    · rw [if_pos z, if_pos z, z]; exact ⟨rfl, rfl⟩
    · by_cases z2 : l = j
      · rw [if_neg z, if_neg z, if_pos z2, if_pos z2, z2]; exact ⟨rfl, rfl⟩
      · rw [if_neg z, if_neg z2, if_neg z, if_neg z2]; exact ⟨rfl, rfl⟩
theorem c_cmpI {s : St} {i m : Nat} {k17 : St → Option St} (hN : 500 ≤ N) (hm : m ≤ 8) (hi : i < m) (w : ∀ l, l < m → WFl S l ∧ LRel s (6 + 2 * l) S l) : ∀ F j (t : St), j ≤ i → i - j < F → Ot s t → AR S t i j → ∃ t', f_X1_compareLights_L32 N 3 (nI i) k17 F (nI j) t = k17 t' ∧ Ot s t' ∧ AR S t' i i := by
  intro F
  induction F with
  | zero => intro j t _ h; omega
  | succ F ih =>
    intro j t hj hF ho h
    rw [f_X1_compareLights_L32, if_leq (by omega) (by omega)]
    by_cases z : i ≤ j
    · rw [if_pos z]
      obtain rfl : j = i := by omega
      exact ⟨t, rfl, ho, h⟩
    · obtain ⟨t1, e, g1, g2⟩ := c_pair hN (by omega) (by omega) (w i hi).1 (w j (by omega)).1 (LRel_o (by omega) ho (w i hi).2) (LRel_o (by omega) ho (w j (by omega)).2) h
      rw [if_neg z, e, bp_q, vl_q, nI_addq]
      exact ih (j + 1) t1 (by omega) (by omega) (ho.trans g2) g1
theorem c_cmpO {s : St} {m : Nat} (hN : 500 ≤ N) (hm : m ≤ 8) (h2 : s.1 3 2 = nI m) (w : ∀ l, l < m → WFl S l ∧ LRel s (6 + 2 * l) S l) : ∀ F i (t : St), i ≤ m → m - i < F → Ot s t → (∀ l, l < i → t.1 (6 + 2 * l) 12 = nI (bset (alQ S l) i) ∧ t.1 (6 + 2 * l) 13 = nI (bset (conS S l) i)) → ∃ t', f_X1_compareLights_L2 N 3 F (nI i) t = some t' ∧ Ot s t' ∧ ∀ l, l < m → t'.1 (6 + 2 * l) 12 = nI (bset (alQ S l) m) ∧ t'.1 (6 + 2 * l) 13 = nI (bset (conS S l) m) := by
  intro F
  induction F with
  | zero => intro i t _ h; omega
  | succ F ih =>
    intro i t hi hF ho h
    rw [f_X1_compareLights_L2, vl_q, ho.2 3 2 (Or.inl (by decide)), h2, if_leq (by omega) (by omega)]
    by_cases z : m ≤ i
    · rw [if_pos z]
      obtain rfl : i = m := by omega
      exact ⟨t, rfl, ho, h⟩
    · rw [if_neg z, ald_q (by omega) (by decide), d3.1, d4q (by omega), vl_q, ald_q (by omega) (by decide), d4q (by omega), vl_q]
      have ho' : Ot s (sI (sI t (6 + 2 * i) 12 (nI 0)) (6 + 2 * i) 13 (nI 0)) := (ho.put (by omega) (Or.inl rfl)).put (by omega) (Or.inr rfl)
      have h0 : AR S (sI (sI t (6 + 2 * i) 12 (nI 0)) (6 + 2 * i) 13 (nI 0)) i 0 := fun l hl => by
        by_cases e : l = i
        · subst e
          rw [aP_i, aP_i, sI1, if_pos rfl, if_neg (by decide), sI1, if_pos rfl, if_pos rfl, sI1, if_pos rfl, if_pos rfl]
          exact ⟨rfl, rfl⟩
        · have := h l (by omega)
          unfold aP
          rw [if_neg e, if_neg e, if_neg (Nat.not_lt_zero _), if_neg (Nat.not_lt_zero _), sI_ne (by omega), sI_ne (by omega)]
          exact this
      obtain ⟨t1, e, g1, g2⟩ := c_cmpI (N := N) (k17 := fun (s23 : St) => vl (nI i + nI 1) fun v24 => f_X1_compareLights_L2 N 3 F v24 s23) hN hm (show i < m by omega) w N 0 _ (Nat.zero_le _) (by omega) ho' h0
      rw [e, vl_q, nI_addq]
      refine ih (i + 1) t1 (by omega) (by omega) g1 (fun l hl => ?_)
      obtain ⟨x1, x2⟩ := g2 l (by omega)
      rw [x1, x2]
      unfold aP
      by_cases q : l = i
      · subst q
        have a0 : alQ S l l = false := by unfold alQ; rw [decide_eq_false (fun w => w rfl)]; rfl
        have c0 : conS S l l = false := by unfold conS; rw [decide_eq_false (fun w => w rfl)]; rfl
        rw [if_pos rfl, if_pos rfl]
        simp [bset, a0, c0]
      · rw [if_neg q, if_neg q, if_pos (by omega), if_pos (by omega)]
        exact ⟨rfl, rfl⟩
theorem c_compare {s : St} (hN : 500 ≤ N) (hC : WFC S) (hM : CRel s 3 4 5 S) : ∃ t, f_X1_compareLights N 3 s = some t ∧ Ot s t ∧ ARel t 4 S := by
  have c1 := hC.1
  obtain ⟨t, e, g1, g2⟩ := c_cmpO (N := N) hN c1 hM.1 (fun l hl => ⟨hC.2.2.2.1 l hl, by rw [← d4q (by omega)]; exact hM.2.2.2.1 l hl⟩) N 0 s (Nat.zero_le _) (by omega) Ot.rf (fun l hl => absurd hl (Nat.not_lt_zero _))
  exact ⟨t, e, g1, fun l hl => by rw [d4q (by omega)]; exact g2 l hl⟩
end Cmp
