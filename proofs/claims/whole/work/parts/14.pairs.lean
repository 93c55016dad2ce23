/-! pairs that are confused, the fewest changed: both sides -/
def cntB (b : Nat) : Nat → Nat
  | 0 => 0
  | n + 1 => cntB b n + b / 2 ^ n % 2
/-- how many bits, of eight -/
def pcN (b : Nat) : Nat := cntB b 8
def cntN (p : Nat → Bool) : Nat → Nat
  | 0 => 0
  | n + 1 => cntN p n + if p n = true then 1 else 0
theorem cntB_bset (p : Nat → Bool) (n : Nat) : ∀ k, n ≤ k → cntB (bset p n) k = cntN p n := by
  have h1 : ∀ k, k ≤ n → cntB (bset p n) k = cntN p k := by
    intro k
    induction k with
    | zero => intro _; rfl
    | succ k ih =>
      intro hk
      simp only [cntB, cntN, ih (by omega), bset_bit]
      by_cases q : p k = true
      · rw [if_pos ⟨by omega, q⟩, if_pos q]
      · rw [if_neg (fun z => q z.2), if_neg q]
  intro k hk
  induction k with
  | zero => obtain rfl : n = 0 := by omega
            rfl
  | succ k ih =>
    rcases Nat.lt_or_ge k n with q | q
    · obtain rfl : n = k + 1 := by omega
      exact h1 _ (Nat.le_refl _)
    · simp only [cntB, ih q, bset_bit]
      rw [if_neg (fun z => by omega), Nat.add_zero]
theorem pcN_bset (p : Nat → Bool) {n : Nat} (h : n ≤ 8) : pcN (bset p n) = cntN p n := cntB_bset p n 8 h
def bc_ (x0 : Int32) : Int32 :=
  let v1 := x0 - ((ush x0 (nI 1)) &&& (1431655765 : Int32))
  let v2 := (v1 &&& (858993459 : Int32)) + ((ush v1 (nI 2)) &&& (858993459 : Int32))
  let v3 := (v2 + (ush v2 (nI 4))) &&& (252645135 : Int32)
  let v4 := v3 + (ush v3 (nI 8))
  let v5 := v4 + (ush v4 (nI 16))
  v5 &&& (nI 63)
theorem bc_q : ∀ b, b < 256 → bc_ (nI b) = nI (pcN b) := by decide +kernel
theorem c_bitCount {b : Nat} (h : b < 256) (σ : St) : f_J6_bitCount_0f7a4 (nI b) σ = some (nI (pcN b)) := congrArg some (bc_q b h)
theorem pc_step : ∀ b, b < 256 → b ≠ 0 → (b &&& (b - 1)) < b ∧ pcN (b &&& (b - 1)) + 1 = pcN b := by decide +kernel
theorem pcN_le (b : Nat) : pcN b ≤ 8 := by
  have h : ∀ k, cntB b k ≤ k := by
    intro k
    induction k with
    | zero => exact Nat.le_refl _
    | succ k ih =>
      have := Nat.mod_lt (b / 2 ^ k) (show 0 < 2 by decide)
      simp only [cntB]; omega
  exact h 8
theorem m_bitsL {τ : St} {N : Nat} : ∀ (n b c : Nat), b < 256 → pcN b < n → c + pcN b < 1000 → f_X12_bits_L4 N τ n (nI c) (nI b) = some (nI (c + pcN b)) := by
  intro n
  induction n with
  | zero => intro b c _ h; omega
  | succ n ih =>
    intro b c hb hn hc
    rw [f_X12_bits_L4, if_eq0 (by omega)]
    by_cases h0 : b = 0
    · rw [if_pos h0, h0]; rfl
    · rw [if_neg h0]
      obtain ⟨h1, h2⟩ := pc_step b hb h0
      simp only [vl_q, nI_addq]
      rw [nI_subq (by omega), nI_and, ih _ (c + 1) (by omega) (by omega) (by omega)]
      congr 2
      omega
theorem m_bits {τ : St} {N b : Nat} (hN : 10 ≤ N) (h : b < 256) : f_X12_bits N (nI b) τ = some (nI (pcN b)) := by
  have := m_bitsL (τ := τ) (N := N) N b 0 h (by have := pcN_le b; omega) (by have := pcN_le b; omega)
  rw [Nat.zero_add] at this
  exact this
theorem bv_sub (x y : BitVec 32) : x &&& (y ^^^ BitVec.allOnes 32) = 0#32 ↔ x &&& y = x := by
  constructor
  · intro h
    apply BitVec.eq_of_getLsbD_eq
    intro i hi
    have := congrArg (fun z => z.getLsbD i) h
    simp only [BitVec.getLsbD_and, BitVec.getLsbD_xor, BitVec.getLsbD_allOnes, BitVec.getLsbD_zero, hi, decide_true] at this ⊢
    revert this
    cases x.getLsbD i <;> cases y.getLsbD i <;> decide
  · intro h
    apply BitVec.eq_of_getLsbD_eq
    intro i hi
    have := congrArg (fun z => z.getLsbD i) h
    simp only [BitVec.getLsbD_and, BitVec.getLsbD_xor, BitVec.getLsbD_allOnes, BitVec.getLsbD_zero, hi, decide_true] at this ⊢
    revert this
    cases x.getLsbD i <;> cases y.getLsbD i <;> decide
theorem sub_q {a s : Nat} (ha : a < 256) (hs : s < 256) : (nI a &&& (nI s ^^^ (-1))) = 0 ↔ ∀ m, m < 8 → a / 2 ^ m % 2 = 1 → s / 2 ^ m % 2 = 1 := by
  have e1 : (nI a &&& (nI s ^^^ (-1))) = 0 ↔ nI a &&& nI s = nI a := by
    rw [← Int32.toBitVec_inj, ← Int32.toBitVec_inj]
    exact bv_sub (nI a).toBitVec (nI s).toBitVec
  have hle : a &&& s < 256 := Nat.lt_of_le_of_lt Nat.and_le_left ha
  rw [e1, nI_and, nI_eq (by omega) (by omega)]
  constructor
  · intro h m _ hm
    have := congrArg (fun z => z.testBit m) h
    simp only [Nat.testBit_and] at this
    rw [Nat.testBit_eq_decide_div_mod_eq, Nat.testBit_eq_decide_div_mod_eq, decide_eq_true hm, Bool.true_and] at this
    exact of_decide_eq_true this
  · intro h
    apply Nat.eq_of_testBit_eq
    intro m
    rw [Nat.testBit_and, Nat.testBit_eq_decide_div_mod_eq, Nat.testBit_eq_decide_div_mod_eq]
    rcases Nat.lt_or_ge m 8 with q | q
    · by_cases z : a / 2 ^ m % 2 = 1
      · rw [decide_eq_true z, decide_eq_true (h m q z)]; rfl
      · rw [decide_eq_false z, Bool.false_and]
    · have : a < 2 ^ m := Nat.lt_of_lt_of_le ha (show 2 ^ 8 ≤ 2 ^ m from Nat.pow_le_pow_right (by decide) q)
      rw [Nat.div_eq_of_lt this]; rfl
/-- l and m are alike and in one sight -/
def conS (S : Nat → Nat) (l m : Nat) : Bool := decide (l ≠ m) && (alkS S l m && sgtS S l m)
theorem alk_sym {S : Nat → Nat} {l m : Nat} (h : alkS S l m = true) : alkS S m l = true := by
  unfold alkS at h ⊢
  simp only [Bool.and_eq_true, decide_eq_true_eq, anyN_iff, allN_iff] at h ⊢
  obtain ⟨h1, h2, f, hf, hk⟩ := h
  have d0 := perS_pos S l
  refine ⟨h1.symm, h2.symm, (perS S l - f) % perS S l, by rw [← h2]; exact Nat.mod_lt _ d0, fun k hk' => ?_⟩
  rw [← h2] at hk'
  have q := hk ((k + perS S l - f) % perS S l) (Nat.mod_lt _ d0)
  unfold eqK at q ⊢
  have e1 : onS S m (f + (k + perS S l - f) % perS S l) = onS S m k := by
    rw [← onS_mod S m (f + _), ← onS_mod S m k, ← h2]
    congr 1
    rw [Nat.add_mod, Nat.mod_mod, ← Nat.add_mod, show f + (k + perS S l - f) = k + perS S l by omega, Nat.add_mod_right]
  have e2 : onS S l ((k + perS S l - f) % perS S l) = onS S l ((perS S l - f) % perS S l + k) := by
    rw [onS_mod, ← onS_mod S l (_ + k), Nat.add_mod, Nat.mod_mod, ← Nat.add_mod, onS_mod]
    congr 1
    omega
  rw [e1, e2] at q
  rw [beq_iff_eq] at q ⊢
  exact q.symm
theorem alk_comm (S : Nat → Nat) (l m : Nat) : alkS S l m = alkS S m l := by
  rcases Bool.eq_false_or_eq_true (alkS S l m) with q | q
  · rw [q, alk_sym q]
  · rcases Bool.eq_false_or_eq_true (alkS S m l) with z | z
    · rw [alk_sym z] at q; cases q
    · rw [q, z]
theorem sgt_comm (S : Nat → Nat) (l m : Nat) : sgtS S l m = sgtS S m l := anyN_cong (fun c _ => Bool.and_comm ..)
theorem con_comm (S : Nat → Nat) (l m : Nat) : conS S l m = conS S m l := by
  unfold conS
  rw [alk_comm, sgt_comm]
  congr 1
  exact decide_eq_decide.mpr ⟨fun h => h.symm, fun h => h.symm⟩
/-- how many pairs -/
def prsS (S : Nat → Nat) : Nat → Nat
  | 0 => 0
  | n + 1 => prsS S n + cntN (conS S n) n
theorem cnt_col (c : Nat → Nat → Bool) (n : Nat) : ∀ k, (Nat.rec 0 (fun l a => a + cntN (c l) (n + 1)) k : Nat) = Nat.rec 0 (fun l a => a + cntN (c l) n) k + cntN (fun l => c l n) k := by
  intro k
  induction k with
  | zero => rfl
  | succ k ih =>
    simp only [cntN] at ih ⊢
    rw [ih]
    omega
theorem cnt_double (S : Nat → Nat) : ∀ n, (Nat.rec 0 (fun l a => a + cntN (conS S l) n) n : Nat) = 2 * prsS S n := by
  intro n
  induction n with
  | zero => rfl
  | succ n ih =>
    have e := cnt_col (conS S) n (n + 1)
    rw [e]
    have e2 : cntN (fun l => conS S l n) (n + 1) = cntN (conS S n) n := by
      have : conS S n n = false := by unfold conS; rw [decide_eq_false (fun z => z rfl), Bool.false_and]
      simp only [cntN, this, Bool.false_eq_true, if_false, Nat.add_zero]
      have : (fun l => conS S l n) = conS S n := funext (fun l => con_comm S l n)
      rw [this]
    rw [e2]
    show (Nat.rec 0 (fun l a => a + cntN (conS S l) n) n : Nat) + cntN (conS S n) n + cntN (conS S n) n = 2 * (prsS S n + cntN (conS S n) n)
    rw [ih]
    omega
theorem cntN_le (p : Nat → Bool) : ∀ n, cntN p n ≤ n
  | 0 => Nat.le_refl _
  | n + 1 => by have := cntN_le p n; simp only [cntN]; split <;> omega
theorem prsS_le (S : Nat → Nat) : ∀ n, n ≤ 8 → prsS S n ≤ 8 * n
  | 0, _ => Nat.le_refl _
  | n + 1, h => by have := prsS_le S n (by omega); have := cntN_le (conS S n) n; simp only [prsS]; omega
/-! stores twice at one place -/
theorem sI_sI (σ : St) (a k : Nat) (v w : Int32) : sI (sI σ a k v) a k w = sI σ a k w := by
  apply Prod.ext
  · funext b j
    by_cases h : b = a
    · by_cases g : j = k
      · simp [sI1, h, g]
      · simp [sI1, h, g]
    · simp [sI1, h]
  · rfl
/-- the model's pairs, laid -/
def sP (S : Nat → Nat) (τ : St) : Nat → St
  | 0 => τ
  | n + 1 => sI (sP S τ n) 215 n (nI (bset (conS S n) n))
theorem sP_o (S : Nat → Nat) (τ : St) {b : Nat} (hb : b ≠ 215) (j : Nat) : ∀ n, (sP S τ n).1 b j = τ.1 b j
  | 0 => rfl
  | n + 1 => by rw [sP, sI1, if_neg hb, sP_o S τ hb j n]
theorem sP_i (S : Nat → Nat) (τ : St) : ∀ n l, l < n → (sP S τ n).1 215 l = nI (bset (conS S l) l)
  | 0, l, h => by omega
  | n + 1, l, h => by
    rw [sP, sI1, if_pos rfl]
    by_cases q : l = n
    · rw [if_pos q, q]
    · rw [if_neg q]; exact sP_i S τ n l (by omega)
theorem RS_o {S : Nat → Nat} {τ τ' : St} (h : RS S τ) (e : ∀ j, τ'.1 208 j = τ.1 208 j) : RS S τ' := fun j hj => by rw [e]; exact h j hj
theorem m_prs23 {S : Nat → Nat} {N l : Nat} {k12 : Int32 → St → Option (Int32 × St)} (hN : 500 ≤ N) (hC : WFC S) (hl : l < S 0) : ∀ n m c (τ : St), m ≤ l → l - m < n → c < 1000 → RS S τ → f_X12_laysPairs_L23 N (nI l) k12 n (nI (c + cntN (conS S l) m)) (nI m) (sI τ 215 l (nI (bset (conS S l) m))) = k12 (nI (c + cntN (conS S l) l)) (sI τ 215 l (nI (bset (conS S l) l))) := by
  have c1 := hC.1
  intro n
  induction n with
  | zero => intro m c τ _ h; omega
  | succ n ih =>
    intro m c τ hm hn hc hR
    have hR' : RS S (sI τ 215 l (nI (bset (conS S l) m))) := RS_o hR (fun j => by rw [sI1, if_neg (by decide)])
    rw [f_X12_laysPairs_L23, if_leq (by omega) (by omega)]
    by_cases hc' : l ≤ m
    · rw [if_pos hc']
      obtain rfl : m = l := by omega
      rfl
    · rw [if_neg hc', m_isAlike (by omega) hR' (by omega) (by omega) (hC.2.2.2.1 l hl) (hC.2.2.2.1 m (by omega)), bp_q]
      have hb := bset_lt (conS S l) m
      have := ih (m + 1) c τ (by omega) (by omega) hc hR
      simp only [jn_q, vl_q, nI_addq, if_bI]
      by_cases z : (decide (l ≠ m) && alkS S l m) = true
      · rw [if_pos z, m_areSeen (by omega) hR' (by omega) (by omega) (hC.2.2.2.1 l hl) (hC.2.2.2.1 m (by omega)), bp_q, if_bI]
        by_cases y : sgtS S l m = true
        · have e : conS S l m = true := by unfold conS; rw [← Bool.and_assoc, z, y]; rfl
          rw [if_pos y, ald_q (by omega) (by decide), ald_q (by omega) (by decide), sI1, if_pos rfl, if_pos rfl, or_bit hb (by omega), sI_sI]
          simp only [cntN, bset, if_pos e] at this
          exact this
        · have e : conS S l m = false := by unfold conS; rw [← Bool.and_assoc, z, Bool.eq_false_iff.mpr y]; rfl
          rw [if_neg y]
          simp only [cntN, bset, e, Bool.false_eq_true, if_false, Nat.add_zero] at this
          exact this
      · have e : conS S l m = false := by unfold conS; rw [← Bool.and_assoc, Bool.eq_false_iff.mpr z]; rfl
        rw [if_neg z]
        simp only [cntN, bset, e, Bool.false_eq_true, if_false, Nat.add_zero] at this
        exact this
theorem m_prs4 {S : Nat → Nat} {τ : St} {N : Nat} (hN : 500 ≤ N) (hC : WFC S) (hR : RS S τ) : ∀ n l, l ≤ S 0 → S 0 - l < n → f_X12_laysPairs_L4 N n (nI (prsS S l)) (nI l) (sP S τ l) = some (nI (prsS S (S 0)), sP S τ (S 0)) := by
  have c1 := hC.1
  intro n
  induction n with
  | zero => intro l _ h; omega
  | succ n ih =>
    intro l hl hn
    have hR' : RS S (sP S τ l) := RS_o hR (fun j => sP_o S τ (by decide) j l)
    rw [f_X12_laysPairs_L4, ald_S hR' (by decide), if_leq (by omega) (by omega)]
    by_cases hc : S 0 ≤ l
    · rw [if_pos hc]
      obtain rfl : l = S 0 := by omega
      rfl
    · rw [if_neg hc, ald_q (by omega) (by decide)]
      have hp := prsS_le S l (by omega)
      have e := m_prs23 (N := N) (k12 := fun v26 s27 => vl (nI l + nI 1) fun v28 => f_X12_laysPairs_L4 N n v26 v28 s27) hN hC (show l < S 0 by omega) N 0 (prsS S l) (sP S τ l) (by omega) (by omega) (by omega) hR'
      simp only [cntN, bset, Nat.add_zero] at e
      rw [e]
      simp only [vl_q, nI_addq]
      exact ih (l + 1) (by omega) (by omega)
theorem m_laysPairs {S : Nat → Nat} {τ : St} {N : Nat} (hN : 500 ≤ N) (hC : WFC S) (hR : RS S τ) : f_X12_laysPairs N τ = some (nI (prsS S (S 0)), sP S τ (S 0)) := by
  have c1 := hC.1
  exact m_prs4 hN hC hR N 0 (by omega) (by omega)
/-! the class's own row of those that are confused with a light -/
def ARel (σ : St) (A : Nat) (S : Nat → Nat) : Prop := ∀ l, l < S 0 → σ.1 (rr A l) 12 = nI (bset (fun m => decide (l ≠ m) && alkS S l m) (S 0)) ∧ σ.1 (rr A l) 13 = nI (bset (conS S l) (S 0))
theorem c_prsL {S : Nat → Nat} {σ : St} {N : Nat} {k4 : Int32 → Option Int32} (h0 : σ.1 3 2 = nI (S 0)) (hn : S 0 ≤ 8) (hA : ARel σ 4 S) : ∀ n l, l ≤ S 0 → S 0 - l < n → f_X1_pairsConfused_L4 N 3 σ k4 n (nI (Nat.rec 0 (fun l a => a + cntN (conS S l) (S 0)) l)) (nI l) = k4 (nI (Nat.rec 0 (fun l a => a + cntN (conS S l) (S 0)) (S 0))) := by
  intro n
  induction n with
  | zero => intro l _ h; omega
  | succ n ih =>
    intro l hl hn'
    rw [f_X1_pairsConfused_L4, vl_q, h0, if_leq (by omega) (by omega)]
    by_cases hc : S 0 ≤ l
    · rw [if_pos hc]
      obtain rfl : l = S 0 := by omega
      rfl
    · rw [if_neg hc, ald_q (by omega) (by decide), show rr 3 0 = 4 from by decide +kernel, vl_q, (hA l (by omega)).2, c_bitCount (bset_lt8 _ hn), bp_q, pcN_bset _ hn]
      simp only [vl_q, nI_addq]
      exact ih (l + 1) (by omega) (by omega)
theorem c_confused {S : Nat → Nat} {σ : St} {N : Nat} (hN : 500 ≤ N) (h0 : σ.1 3 2 = nI (S 0)) (hn : S 0 ≤ 8) (hA : ARel σ 4 S) : f_X1_pairsConfused N 3 σ = some (nI (prsS S (S 0))) := by
  unfold f_X1_pairsConfused
  have hp := prsS_le S (S 0) hn
  have := c_prsL (k4 := fun v15 => dv v15 (nI 2) fun v16 => some v16) (N := N) h0 hn hA N 0 (by omega) (by omega)
  rw [show (nI (Nat.rec 0 (fun l a => a + cntN (conS S l) (S 0)) 0 : Nat)) = nI 0 from rfl] at this
  rw [this, cnt_double, dv_q (by omega) (by decide) (by decide)]
  congr 2
  omega
