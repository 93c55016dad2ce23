/-! the class: a chart is copied -/
def ChA (c : Nat) : Prop := (rr c 0 = c + 1 ∧ rr c 1 = c + 2) ∧ (∀ l, l < 8 → rr (c + 1) l = c + 3 + 2 * l ∧ rr (c + 3 + 2 * l) 11 = c + 4 + 2 * l) ∧ ∀ k, k < 4 → rr (c + 2) k = c + 19 + k
theorem ch_3 : ChA 3 := by unfold ChA; decide +kernel
theorem ch_26 : ChA 26 := by unfold ChA; decide +kernel
def tfl (k : Nat) : Prop := (1 ≤ k ∧ k ≤ 10) ∨ k = 12 ∨ k = 13
/-- light x of t is light y of s -/
def LCp (s t : St) (x y : Nat) : Prop := (∀ j, tfl j → t.1 x j = s.1 y j) ∧ t.2 x 0 = s.2 y 0 ∧ ∀ p, p < 160 → t.1 (x + 1) p = s.1 (y + 1) p
def SCp (s t : St) (x y : Nat) : Prop := (∀ j, 1 ≤ j → j ≤ 4 → t.1 x j = s.1 y j) ∧ t.2 x 0 = s.2 y 0
/-- a light's flag and row hold truths -/
def Trs (s : St) (y : Nat) : Prop := (s.1 y 7 = nI 0 ∨ s.1 y 7 = nI 1) ∧ ∀ p, p < 160 → s.1 (y + 1) p = nI 0 ∨ s.1 (y + 1) p = nI 1
theorem c_copyLight {s : St} {x y : Nat} (hx : rr x 11 = x + 1) (hy : rr y 11 = y + 1) (h1 : x + 2 ≤ y ∨ y + 2 ≤ x) (hz : Trs s y) : ∃ t, f_X4_copyFrom x y s = some t ∧ LCp s t x y ∧ (∀ b, b ≠ x → b ≠ x + 1 → t.1 b = s.1 b) ∧ ∀ b, b ≠ x → t.2 b = s.2 b := by
  have r : ∀ (t : St) (k : Nat) (v : Int32), (sI t x k v).1 y = t.1 y := fun t k v => sI_ne (by omega)
  have r' : ∀ (t : St) (k : Nat) (v : Int32), (sI t x k v).1 (y + 1) = t.1 (y + 1) := fun t k v => sI_ne (by omega)
  have rL : ∀ (t : St) (v : Int64), (sL t x 0 v).1 = t.1 := fun t v => rfl
  have al : ∀ (t : St), t.1 (y + 1) = s.1 (y + 1) → (List.range 160).all (fun i => t.1 (y + 1) i == 0 || t.1 (y + 1) i == 1) = true := fun t ht => by
    rw [List.all_eq_true]
    intro i hi
    rw [ht]
    rcases hz.2 i (List.mem_range.mp hi) with e | e
    · rw [e]; rfl
    · rw [e]; rfl
  unfold f_X4_copyFrom
  simp only [vl_q, r, rL]
  have h7 : ∀ (K : Option St), rz (s.1 y 7) K = K := fun K => by
    rcases hz.1 with e | e
    · rw [e, rz_0]
    · rw [e, rz_1]
  rw [h7, hx, hy, cpz, if_neg (by omega), if_pos (al _ (by simp only [r', rL])), sC_ne (by omega)]
  simp only [r, rL]
  refine ⟨_, rfl, ⟨fun j hj => ?_, ?_, fun p hp => ?_⟩, fun b b1 b2 => ?_, fun b b1 => ?_⟩
  · rw [sI1, if_pos rfl, sI1, if_pos rfl, sC_ne (show x ≠ x + 1 by omega), sI1, if_pos rfl, sI1, if_pos rfl, sI1, if_pos rfl, sI1, if_pos rfl, sI1, if_pos rfl, sI1, if_pos rfl, sI1, if_pos rfl, sI1, if_pos rfl, sI1, if_pos rfl, sI1, if_pos rfl]
    have : j = 1 ∨ j = 2 ∨ j = 3 ∨ j = 4 ∨ j = 5 ∨ j = 6 ∨ j = 7 ∨ j = 8 ∨ j = 9 ∨ j = 10 ∨ j = 12 ∨ j = 13 := by unfold tfl at hj; omega
    rcases this with rfl | rfl | rfl | rfl | rfl | rfl | rfl | rfl | rfl | rfl | rfl | rfl <;> rfl
  · show (sL s x 0 (s.2 y 0)).2 x 0 = _
    rw [sL2, if_pos rfl, if_pos rfl]
  · rw [sI_ne (by omega), sI_ne (by omega), sC1, if_pos rfl, if_pos hp]
    simp only [r', rL]
  · rw [sI_ne b1, sI_ne b1, sC_ne b2, sI_ne b1, sI_ne b1, sI_ne b1, sI_ne b1, sI_ne b1, sI_ne b1, sI_ne b1, sI_ne b1, sI_ne b1, sI_ne b1]
    rfl
  · show (sL s x 0 (s.2 y 0)).2 b = _
    exact sL_ne b1
theorem c_copyShip {s : St} {x y : Nat} (h1 : x ≠ y) : ∃ t, f_X8_copyFrom x y s = some t ∧ SCp s t x y ∧ ∀ b, b ≠ x → t.1 b = s.1 b ∧ t.2 b = s.2 b := by
  have r : ∀ (t : St) (k : Nat) (v : Int32), (sI t x k v).1 y = t.1 y := fun t k v => sI_ne (fun e => h1 e.symm)
  have rL : ∀ (t : St) (v : Int64), (sL t x 0 v).1 = t.1 := fun t v => rfl
  unfold f_X8_copyFrom
  simp only [vl_q, r, rL]
  refine ⟨_, rfl, ⟨fun j j1 j4 => ?_, ?_⟩, fun b b1 => ⟨?_, ?_⟩⟩
  · rw [sI1, if_pos rfl, sI1, if_pos rfl, sI1, if_pos rfl, sI1, if_pos rfl]
    have : j = 1 ∨ j = 2 ∨ j = 3 ∨ j = 4 := by omega
    rcases this with rfl | rfl | rfl | rfl <;> rfl
  · show (sL s x 0 (s.2 y 0)).2 x 0 = _
    rw [sL2, if_pos rfl, if_pos rfl]
  · rw [sI_ne b1, sI_ne b1, sI_ne b1, sI_ne b1]; rfl
  · show (sL s x 0 (s.2 y 0)).2 b = _
    exact sL_ne b1
section Cp
variable {s : St} {N a b m q : Nat}
theorem c_cpL {k5 : St → Option St} (ha : ChA a) (hb : ChA b) (hd : a + 23 ≤ b ∨ b + 23 ≤ a) (h2 : s.1 b 2 = nI m) (hm : m ≤ 8) (hz : ∀ l, l < m → Trs s (b + 3 + 2 * l)) : ∀ F i (t : St), i ≤ m → m - i < F → (∀ l, l < i → LCp s t (a + 3 + 2 * l) (b + 3 + 2 * l)) → (∀ c, ¬ (a + 3 ≤ c ∧ c < a + 3 + 2 * m) → t.1 c = s.1 c ∧ t.2 c = s.2 c) → ∃ t', f_X1_copyFrom_L2 N a b k5 F (nI i) t = k5 t' ∧ (∀ l, l < m → LCp s t' (a + 3 + 2 * l) (b + 3 + 2 * l)) ∧ ∀ c, ¬ (a + 3 ≤ c ∧ c < a + 3 + 2 * m) → t'.1 c = s.1 c ∧ t'.2 c = s.2 c := by
  intro F
  induction F with
  | zero => intro i t _ h; omega
  | succ F ih =>
    intro i t hi hF hl ho
    rw [f_X1_copyFrom_L2, vl_q, (ho b (by omega)).1, h2, if_leq (by omega) (by omega)]
    by_cases z : m ≤ i
    · rw [if_pos z]
      obtain rfl : i = m := by omega
      exact ⟨t, rfl, hl, ho⟩
    · obtain ⟨a1, a2⟩ := ha.2.1 i (by omega)
      obtain ⟨b1, b2⟩ := hb.2.1 i (by omega)
      have tz : Trs t (b + 3 + 2 * i) := by
        have := hz i (by omega)
        unfold Trs at this ⊢
        rw [(ho (b + 3 + 2 * i) (by omega)).1, (ho (b + 3 + 2 * i + 1) (by omega)).1]
        exact this
      obtain ⟨t1, e, g1, g2, g3⟩ := c_copyLight (s := t) (x := a + 3 + 2 * i) (y := b + 3 + 2 * i) (a2.trans (by omega)) (b2.trans (by omega)) (by omega) tz
      rw [if_neg z, ald_q (by omega) (by decide), ald_q (by omega) (by decide), ha.1.1, hb.1.1, a1, b1, e, bp_q, vl_q, nI_addq]
      refine ih (i + 1) t1 (by omega) (by omega) (fun l hl' => ?_) (fun c hc => ?_)
      · by_cases w : l = i
        · subst w
          obtain ⟨x1, x2, x3⟩ := g1
          refine ⟨fun j hj => ?_, ?_, fun p hp => ?_⟩
          · rw [x1 j hj, (ho _ (by omega)).1]
          · rw [x2, (ho _ (by omega)).2]
          · rw [x3 p hp, (ho _ (by omega)).1]
        · obtain ⟨x1, x2, x3⟩ := hl l (by omega)
          refine ⟨fun j hj => ?_, ?_, fun p hp => ?_⟩
          · rw [g2 _ (by omega) (by omega)]; exact x1 j hj
          · rw [g3 _ (by omega)]; exact x2
          · rw [g2 _ (by omega) (by omega)]; exact x3 p hp
      · rw [g2 c (by omega) (by omega), g3 c (by omega)]
        exact ho c hc
theorem c_cpS {k21 : St → Option St} (ha : ChA a) (hb : ChA b) (hd : a + 23 ≤ b ∨ b + 23 ≤ a) (h3 : s.1 b 3 = nI q) (hq : q ≤ 4) : ∀ F i (t : St), i ≤ q → q - i < F → (∀ k, k < i → SCp s t (a + 19 + k) (b + 19 + k)) → (∀ c, ¬ (a + 19 ≤ c ∧ c < a + 23) → t.1 c = s.1 c ∧ t.2 c = s.2 c) → ∃ t', f_X1_copyFrom_L33 N a b k21 F (nI i) t = k21 t' ∧ (∀ k, k < q → SCp s t' (a + 19 + k) (b + 19 + k)) ∧ ∀ c, ¬ (a + 19 ≤ c ∧ c < a + 23) → t'.1 c = s.1 c ∧ t'.2 c = s.2 c := by
  intro F
  induction F with
  | zero => intro i t _ h; omega
  | succ F ih =>
    intro i t hi hF hl ho
    rw [f_X1_copyFrom_L33, vl_q, (ho b (by omega)).1, h3, if_leq (by omega) (by omega)]
    by_cases z : q ≤ i
    · rw [if_pos z]
      obtain rfl : i = q := by omega
      exact ⟨t, rfl, hl, ho⟩
    · have a1 := ha.2.2 i (by omega)
      have b1 := hb.2.2 i (by omega)
      obtain ⟨t1, e, g1, g2⟩ := c_copyShip (s := t) (x := a + 19 + i) (y := b + 19 + i) (by omega)
      rw [if_neg z, ald_q (by omega) (by decide), ald_q (by omega) (by decide), ha.1.2, hb.1.2, a1, b1, e, bp_q, vl_q, nI_addq]
      refine ih (i + 1) t1 (by omega) (by omega) (fun l hl' => ?_) (fun c hc => ?_)
      · by_cases w : l = i
        · subst w
          obtain ⟨x1, x2⟩ := g1
          exact ⟨fun j j1 j2 => by rw [x1 j j1 j2, (ho _ (by omega)).1], by rw [x2, (ho _ (by omega)).2]⟩
        · obtain ⟨x1, x2⟩ := hl l (by omega)
          exact ⟨fun j j1 j2 => by rw [(g2 _ (by omega)).1]; exact x1 j j1 j2, by rw [(g2 _ (by omega)).2]; exact x2⟩
      · rw [(g2 c (by omega)).1, (g2 c (by omega)).2]
        exact ho c hc
theorem c_copyChart (hN : 100 ≤ N) (ha : ChA a) (hb : ChA b) (hd : a + 23 ≤ b ∨ b + 23 ≤ a) (h2 : s.1 b 2 = nI m) (hm : m ≤ 8) (h3 : s.1 b 3 = nI q) (hq : q ≤ 4) (hz : ∀ l, l < m → Trs s (b + 3 + 2 * l)) : ∃ t, f_X1_copyFrom N a b s = some t ∧ (∀ l, l < m → LCp s t (a + 3 + 2 * l) (b + 3 + 2 * l)) ∧ (∀ k, k < q → SCp s t (a + 19 + k) (b + 19 + k)) ∧ (∀ j, 2 ≤ j → j ≤ 5 → t.1 a j = s.1 b j) ∧ (∀ j, j < 2 ∨ 5 < j → t.1 a j = s.1 a j) ∧ (∀ c, c ≠ a → ¬ (a + 3 ≤ c ∧ c < a + 3 + 2 * m) → ¬ (a + 19 ≤ c ∧ c < a + 23) → t.1 c = s.1 c ∧ t.2 c = s.2 c) ∧ t.2 a = s.2 a := by
  unfold f_X1_copyFrom
  obtain ⟨t1, e1, g1, o1⟩ := c_cpL (N := N) (k5 := fun s16 => f_X1_copyFrom_L33 N a b (fun (s32 : St) => vl (s32.1 b 2) fun v33 => vl (sI s32 a 2 v33) fun s34 => vl (s34.1 b 3) fun v35 => vl (sI s34 a 3 v35) fun s36 => vl (s36.1 b 4) fun v37 => vl (sI s36 a 4 v37) fun s38 => vl (s38.1 b 5) fun v39 => vl (sI s38 a 5 v39) fun s40 => some s40) N (nI 0) s16) ha hb hd h2 hm hz N 0 s (Nat.zero_le _) (by omega) (fun l hl => absurd hl (Nat.not_lt_zero _)) (fun _ _ => ⟨rfl, rfl⟩)
  rw [e1]
  have h3' : t1.1 b 3 = nI q := by rw [(o1 b (by omega)).1]; exact h3
  obtain ⟨t2, e2, g2, o2⟩ := c_cpS (N := N) (k21 := (fun (s32 : St) => vl (s32.1 b 2) fun v33 => vl (sI s32 a 2 v33) fun s34 => vl (s34.1 b 3) fun v35 => vl (sI s34 a 3 v35) fun s36 => vl (s36.1 b 4) fun v37 => vl (sI s36 a 4 v37) fun s38 => vl (s38.1 b 5) fun v39 => vl (sI s38 a 5 v39) fun s40 => some s40)) ha hb hd h3' hq N 0 t1 (Nat.zero_le _) (by omega) (fun l hl => absurd hl (Nat.not_lt_zero _)) (fun _ _ => ⟨rfl, rfl⟩)
  rw [e2]
  have r : ∀ (t : St) (k : Nat) (v : Int32), (sI t a k v).1 b = t.1 b := fun t k v => sI_ne (by omega)
  simp only [vl_q, r]
  have eb : t2.1 b = s.1 b := by rw [(o2 b (by omega)).1, (o1 b (by omega)).1]
  have ea : t2.1 a = s.1 a := by rw [(o2 a (by omega)).1, (o1 a (by omega)).1]
  have n4 : ∀ c, c ≠ a → (sI (sI (sI (sI t2 a 2 (t2.1 b 2)) a 3 (t2.1 b 3)) a 4 (t2.1 b 4)) a 5 (t2.1 b 5)).1 c = t2.1 c := fun c hc => by rw [sI_ne hc, sI_ne hc, sI_ne hc, sI_ne hc]
  have nA : ∀ j, (sI (sI (sI (sI t2 a 2 (t2.1 b 2)) a 3 (t2.1 b 3)) a 4 (t2.1 b 4)) a 5 (t2.1 b 5)).1 a j = if j = 5 then t2.1 b 5 else if j = 4 then t2.1 b 4 else if j = 3 then t2.1 b 3 else if j = 2 then t2.1 b 2 else t2.1 a j := fun j => by
    rw [sI1, if_pos rfl, sI1, if_pos rfl, sI1, if_pos rfl, sI1, if_pos rfl]
  refine ⟨_, rfl, fun l hl => ?_, fun k hk => ?_, fun j j1 j2 => ?_, fun j hj => ?_, fun c c1 c2 c3 => ?_, ?_⟩
  · obtain ⟨x1, x2, x3⟩ := g1 l hl
    refine ⟨fun j hj => ?_, ?_, fun p hp => ?_⟩
    · rw [n4 _ (by omega), (o2 _ (by omega)).1]; exact x1 j hj
    · show t2.2 _ _ = _
      rw [(o2 _ (by omega)).2]; exact x2
    · rw [n4 _ (by omega), (o2 _ (by omega)).1]; exact x3 p hp
  · obtain ⟨x1, x2⟩ := g2 k hk
    refine ⟨fun j j1 j2 => ?_, ?_⟩
    · rw [n4 _ (by omega), x1 j j1 j2, (o1 _ (by omega)).1]
    · show t2.2 _ _ = _
      rw [x2, (o1 _ (by omega)).2]
  · rw [nA, eb]
    have : j = 2 ∨ j = 3 ∨ j = 4 ∨ j = 5 := by omega
    rcases this with rfl | rfl | rfl | rfl <;> rfl
  · rw [nA, if_neg (by omega), if_neg (by omega), if_neg (by omega), if_neg (by omega), ea]
  · rw [n4 c c1]
    show t2.1 c = _ ∧ t2.2 c = _
    rw [(o2 c (by omega)).1, (o2 c (by omega)).2]
    exact o1 c (by omega)
  · show t2.2 a = _
    rw [(o2 a (by omega)).2, (o1 a (by omega)).2]
end Cp
