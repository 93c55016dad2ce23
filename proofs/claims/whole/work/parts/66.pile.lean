/-! the pile of what is said: sets, and one light's truths -/
def Ht (K : Nat → Nat) : Nat → Nat
  | 0 => 0
  | i + 1 => if K i ≤ 1 then Ht K i - 1 else if K i = 2 then Ht K i else Ht K i + 1
theorem Ht_s (K : Nat → Nat) (i : Nat) : Ht K (i + 1) = if K i ≤ 1 then Ht K i - 1 else if K i = 2 then Ht K i else Ht K i + 1 := rfl
theorem Ht_le (K : Nat → Nat) : ∀ i, Ht K i ≤ i
  | 0 => Nat.le_refl _
  | i + 1 => by
    have := Ht_le K i
    rw [Ht_s]
    split
    · omega
    · split <;> omega
theorem rpn_h {K : Nat → Nat} : ∀ {c h : Nat}, rpn K c h → Ht K c = h ∧ ∀ i, i < c → (K i ≤ 1 → 2 ≤ Ht K i) ∧ (K i = 2 → 1 ≤ Ht K i)
  | 0, h, r => ⟨r.symm, fun i hi => absurd hi (Nat.not_lt_zero _)⟩
  | c + 1, h, r => by
    obtain ⟨r1, r2⟩ := r
    rw [Ht_s]
    by_cases q : K c ≤ 1
    · rw [if_pos q] at r2 ⊢
      obtain ⟨i1, i2⟩ := rpn_h r2
      refine ⟨by omega, fun i hi => ?_⟩
      by_cases y : i = c
      · subst y; exact ⟨fun _ => by omega, fun w => by omega⟩
      · exact i2 i (by omega)
    · rw [if_neg q] at r2 ⊢
      by_cases q2 : K c = 2
      · rw [if_pos q2] at r2 ⊢
        obtain ⟨i1, i2⟩ := rpn_h r2
        refine ⟨i1, fun i hi => ?_⟩
        by_cases y : i = c
        · subst y; exact ⟨fun w => absurd w q, fun w => by omega⟩
        · exact i2 i (by omega)
      · rw [if_neg q2] at r2 ⊢
        obtain ⟨i1, i2⟩ := rpn_h r2
        refine ⟨by omega, fun i hi => ?_⟩
        by_cases y : i = c
        · subst y; exact ⟨fun w => absurd w q, fun w => absurd w q2⟩
        · exact i2 i (by omega)
def evP (S K U V : Nat → Nat) : Nat → Nat → Nat
  | 0 => fun _ => 0
  | i + 1 => if K i = 0 then put (evP S K U V i) (Ht K i - 2) (evP S K U V i (Ht K i - 2) &&& evP S K U V i (Ht K i - 1)) else if K i = 1 then put (evP S K U V i) (Ht K i - 2) (evP S K U V i (Ht K i - 2) ||| evP S K U V i (Ht K i - 1)) else if K i = 2 then put (evP S K U V i) (Ht K i - 1) (2 ^ S 0 - 1 - evP S K U V i (Ht K i - 1)) else put (evP S K U V i) (Ht K i) (bset (lfT S (K i) (U i) (V i)) (S 0))
theorem put_lt {h : Nat → Nat} {j v b : Nat} (hh : ∀ i, h i < b) (hv : v < b) (i : Nat) : put h j v i < b := by
  by_cases q : i = j
  · rw [q, put_eq]; exact hv
  · rw [put_ne q]; exact hh i
theorem evP_lt (S K U V : Nat → Nat) : ∀ i j, evP S K U V i j < 2 ^ S 0
  | 0, _ => Nat.two_pow_pos _
  | i + 1, j => by
    have ih := evP_lt S K U V i
    show (if K i = 0 then put (evP S K U V i) (Ht K i - 2) (evP S K U V i (Ht K i - 2) &&& evP S K U V i (Ht K i - 1)) else if K i = 1 then put (evP S K U V i) (Ht K i - 2) (evP S K U V i (Ht K i - 2) ||| evP S K U V i (Ht K i - 1)) else if K i = 2 then put (evP S K U V i) (Ht K i - 1) (2 ^ S 0 - 1 - evP S K U V i (Ht K i - 1)) else put (evP S K U V i) (Ht K i) (bset (lfT S (K i) (U i) (V i)) (S 0))) j < 2 ^ S 0
    by_cases q0 : K i = 0
    · rw [if_pos q0]; exact put_lt ih (Nat.lt_of_le_of_lt Nat.and_le_left (ih _)) j
    · rw [if_neg q0]
      by_cases q1 : K i = 1
      · rw [if_pos q1]; exact put_lt ih (Nat.or_lt_two_pow (ih _) (ih _)) j
      · rw [if_neg q1]
        by_cases q2 : K i = 2
        · rw [if_pos q2]; exact put_lt ih (by have := Nat.two_pow_pos (S 0); omega) j
        · rw [if_neg q2]; exact put_lt ih (bset_lt _ _) j
theorem not_q : ∀ n, n < 9 → ∀ x, x < 2 ^ n → nI (2 ^ n - 1) &&& (nI x ^^^ (-1)) = nI (2 ^ n - 1 - x) := by decide +kernel
theorem dn1 : ∀ a, 1 ≤ a → a ≤ 100 → nI a + (-1) = nI (a - 1) := by
  have : ∀ a, a < 101 → 1 ≤ a → nI a + (-1) = nI (a - 1) := by decide +kernel
  exact fun a h1 h2 => this a (by omega) h1
theorem d65 : rr 61 5 = 65 := by decide +kernel
theorem ex_eq {α β : Type} {X Y : α} {f : β → α} {P : β → Prop} (e : X = Y) (h : ∃ s, Y = f s ∧ P s) : ∃ s, X = f s ∧ P s := by rw [e]; exact h
section Pile
variable {S : Nat → Nat} {σ : St} {N : Nat}
theorem CRel_65 {s : St} (hM : CRel σ 3 4 5 S) (hA : ARel σ 4 S) (hS : SRel σ 49 S) (hC : WFC S) (ho : ∀ b, b ≠ 65 → s.1 b = σ.1 b) : CRel s 3 4 5 S ∧ ARel s 4 S ∧ SRel s 49 S := by
  have c1 := hC.1
  refine ⟨CRel_w hM c1 hC.2.1 (fun c h1 h2 => ho c (by omega)), fun l hl => ?_, ?_⟩
  · have := hA l hl
    rw [d4q (by omega)] at this ⊢
    rw [ho _ (by omega)]; exact this
  · obtain ⟨q1, q2, q3, q4, q5⟩ := hS
    unfold SRel
    rw [d49.1, d49.2.1, d49.2.2.1, d49.2.2.2.1, d49.2.2.2.2, ho 49 (by decide), ho 50 (by decide), ho 51 (by decide), ho 52 (by decide), ho 53 (by decide), ho 54 (by decide)]
    rw [d49.1, d49.2.1] at q4
    rw [d49.2.2.1, d49.2.2.2.1, d49.2.2.2.2] at q5
    exact ⟨q1, q2, q3, q4, q5⟩
/-- the codes of the speech in the class -/
def CdC (σ : St) (S : Nat → Nat) (c : Nat) (K U V : Nat → Nat) : Prop := ∀ i, i < c → K i ≤ 11 ∧ U i ≤ 999 ∧ V i ≤ 999 ∧ (K i = 6 → V i < S 0) ∧ (K i = 7 → V i < S 1) ∧ (8 ≤ K i → 60 ≤ U i ∧ U i ≤ 62) ∧ σ.1 62 i = nI (K i) ∧ σ.1 63 i = nI (U i) ∧ σ.1 64 i = nI (V i)
theorem c_saidL {c : Nat} {K U V : Nat → Nat} {k6 : Int32 → St → Option (Int32 × St)} (hN : 1000 ≤ N) (hM : CRel σ 3 4 5 S) (hA : ARel σ 4 S) (hS : SRel σ 49 S) (hC : WFC S) (hW : WFW S) (h61 : σ.1 61 1 = nI c) (hc : c ≤ 40) (hQ : CdC σ S c K U V) (hr : rpn K c 1) : ∀ F i (s : St), i ≤ c → c - i < F → (∀ b, b ≠ 65 → s.1 b = σ.1 b) → s.2 = σ.2 → (∀ j, j < Ht K i → s.1 65 j = nI (evP S K U V i j)) → ∃ s', f_X7_saidOf_L4 N 61 49 k6 F (nI (Ht K i)) (nI i) s = k6 (nI (Ht K c)) s' ∧ (∀ b, b ≠ 65 → s'.1 b = σ.1 b) ∧ s'.2 = σ.2 ∧ ∀ j, j < Ht K c → s'.1 65 j = nI (evP S K U V c j) := by
  have c1 := hC.1
  intro F
  induction F with
  | zero => intro i s _ h; omega
  | succ F ih =>
    intro i s hi hF ho h2 hp
    rw [f_X7_saidOf_L4, vl_q, ho 61 (by decide), h61, if_leq (by omega) (by omega)]
    by_cases z : c ≤ i
    · rw [if_pos z]
      obtain rfl : i = c := by omega
      exact ⟨s, rfl, ho, h2, hp⟩
    · obtain ⟨k11, u9, v9, k6', k7', k8', z1, z2, z3⟩ := hQ i (by omega)
      obtain ⟨hh1, hh2⟩ := (rpn_h hr).2 i (by omega)
      have hl := Ht_le K i
      obtain ⟨M1, A1, S1⟩ := CRel_65 hM hA hS hC ho
      -- the next code, with j at place P written
      have nxt : ∀ (P v : Nat), P < 40 → evP S K U V (i + 1) = put (evP S K U V i) P v → (∀ j, j < Ht K (i + 1) → j ≠ P → j < Ht K i) → ∃ s', (vl (nI i + nI 1) fun v16 => f_X7_saidOf_L4 N 61 49 k6 F (nI (Ht K (i + 1))) v16 (sI s 65 P (nI v))) = k6 (nI (Ht K c)) s' ∧ (∀ b, b ≠ 65 → s'.1 b = σ.1 b) ∧ s'.2 = σ.2 ∧ ∀ j, j < Ht K c → s'.1 65 j = nI (evP S K U V c j) := fun P v hP he hm => by
        rw [vl_q, nI_addq]
        refine ih (i + 1) _ (by omega) (by omega) (fun b hb => (sI_ne hb).trans (ho b hb)) h2 (fun j hj => ?_)
        rw [sI1, if_pos rfl, he]
        by_cases y : j = P
        · rw [if_pos y, y, put_eq]
        · rw [if_neg y, put_ne y]; exact hp j (hm j hj y)
      rw [if_neg z, d61.1, d65, ald_q (by omega) (by decide), ho 62 (by decide), z1]
      refine ex_eq ((jn_q _ _).trans (jn_q _ _)) ?_
      rw [if_eqq (a := K i) (b := 2) (by omega) (by decide)]
      by_cases q2 : K i = 2
      · have h1 := hh2 q2
        have el := evP_lt S K U V i (Ht K i - 1)
        have hs : Ht K (i + 1) = Ht K i := by rw [Ht_s, if_neg (by omega), if_pos q2]
        have ep : evP S K U V (i + 1) = put (evP S K U V i) (Ht K i - 1) (2 ^ S 0 - 1 - evP S K U V i (Ht K i - 1)) := by
          show (if K i = 0 then _ else if K i = 1 then _ else if K i = 2 then _ else _) = _
          rw [if_neg (by omega), if_neg (by omega), if_pos q2]
        have := nxt (Ht K i - 1) _ (by omega) ep (fun j _ _ => by omega)
        rw [hs] at this
        unfold f_X1_allLights
        rw [if_pos q2, if_ltq (by omega) (by decide), if_neg (by omega), vl_q, ho 3 (by decide), hM.1, shl_all _ c1, bp_q, nI_sub1 h1 (by omega), ald_q (by omega) (by decide), hp _ (by omega), ald_q (by omega) (by decide), not_q _ (by omega) _ el]
        exact this
      · rw [if_neg q2]
        refine ex_eq (jn_q _ _) ?_
        rw [if_eq0 (a := K i) (by omega)]
        by_cases q0 : K i = 0
        · have h1 := hh1 (by omega)
          have hs : Ht K (i + 1) = Ht K i - 1 := by rw [Ht_s, if_pos (by omega)]
          have ep : evP S K U V (i + 1) = put (evP S K U V i) (Ht K i - 2) (evP S K U V i (Ht K i - 2) &&& evP S K U V i (Ht K i - 1)) := by
            show (if K i = 0 then _ else if K i = 1 then _ else if K i = 2 then _ else _) = _
            rw [if_pos q0]
          have := nxt (Ht K i - 2) _ (by omega) ep (fun j _ _ => by omega)
          rw [hs] at this
          rw [if_pos q0, if_ltq (by omega) (by decide), if_neg (by omega), nI_subq (show 2 ≤ Ht K i by omega), nI_subq (show 1 ≤ Ht K i by omega), ald_q (by omega) (by decide), hp _ (by omega), ald_q (by omega) (by decide), hp _ (by omega), nI_and, ald_q (by omega) (by decide), vl_q, dn1 _ (by omega) (by omega)]
          exact this
        · rw [if_neg q0]
          refine ex_eq (jn_q _ _) ?_
          rw [if_eqq (a := K i) (b := 1) (by omega) (by decide)]
          by_cases q1 : K i = 1
          · have h1 := hh1 (by omega)
            have hs : Ht K (i + 1) = Ht K i - 1 := by rw [Ht_s, if_pos (by omega)]
            have ep : evP S K U V (i + 1) = put (evP S K U V i) (Ht K i - 2) (evP S K U V i (Ht K i - 2) ||| evP S K U V i (Ht K i - 1)) := by
              show (if K i = 0 then _ else if K i = 1 then _ else if K i = 2 then _ else _) = _
              rw [if_neg q0, if_pos q1]
            have := nxt (Ht K i - 2) _ (by omega) ep (fun j _ _ => by omega)
            rw [hs] at this
            rw [if_pos q1, if_ltq (by omega) (by decide), if_neg (by omega), nI_subq (show 2 ≤ Ht K i by omega), nI_subq (show 1 ≤ Ht K i by omega), ald_q (by omega) (by decide), hp _ (by omega), ald_q (by omega) (by decide), hp _ (by omega), nI_or, ald_q (by omega) (by decide), vl_q, dn1 _ (by omega) (by omega)]
            exact this
          · have hs : Ht K (i + 1) = Ht K i + 1 := by rw [Ht_s, if_neg (by omega), if_neg q2]
            have ep : evP S K U V (i + 1) = put (evP S K U V i) (Ht K i) (bset (lfT S (K i) (U i) (V i)) (S 0)) := by
              show (if K i = 0 then _ else if K i = 1 then _ else if K i = 2 then _ else _) = _
              rw [if_neg q0, if_neg q1, if_neg q2]
            have := nxt (Ht K i) _ (by omega) ep (fun j _ _ => by omega)
            rw [hs, nI_addq] at this
            rw [if_neg q1, if_leq (by decide) (by omega), if_neg (by omega), c_leafSet hN M1 A1 S1 hC hW ⟨by omega, k11⟩ v9 k6' k7' k8' (by omega) (by rw [ho 62 (by decide)]; exact z1) (by rw [ho 63 (by decide)]; exact z2) (by rw [ho 64 (by decide)]; exact z3), bp_q, ald_q (by omega) (by decide), vl_q, nI_addq, nI_addq]
            exact this
end Pile
