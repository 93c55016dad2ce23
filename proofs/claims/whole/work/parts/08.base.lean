/-! plain facts under the pure programs -/
theorem vl_q {α T : Type} (x : α) (K : α → Option T) : vl x K = K x := rfl
theorem jn_q {α T : Type} (c : α) (b : α → Option T) : jn c b = b c := rfl
theorem bp_q {α T : Type} (v : α) (K : α → Option T) : bp (some v) K = K v := rfl
theorem bd_q {α T : Type} (v : α) (s : St) (K : α → St → Option T) : bd (some (v, s)) K = K v s := rfl
theorem ald_q {α T : Type} {f : Nat → α} {n k : Nat} {K : α → Option T} (h : k < n) (hn : n < 2147483648) : ald f n (nI k) K = K (f k) := by
  unfold ald
  rw [if_neg (nI_in h hn), nI_clamp (by omega)]
def bI (b : Bool) : Int32 := if b = true then nI 1 else nI 0
theorem bI_t : bI true = nI 1 := rfl
theorem bI_f : bI false = nI 0 := rfl
theorem nI0_q : nI 0 = 0 := rfl
theorem bI_0 {b : Bool} : (bI b = 0) = (b = false) := by cases b <;> simp [bI] <;> decide
theorem bI_n0 {b : Bool} : (bI b = nI 0) = (b = false) := bI_0
theorem rz_q {T : Type} (b : Bool) (K : Option T) : rz (bI b) K = K := by
  cases b
  · exact if_pos (Or.inl rfl)
  · exact if_pos (Or.inr rfl)
theorem rz_0 {T : Type} (K : Option T) : rz (nI 0) K = K := if_pos (Or.inl rfl)
theorem rz_1 {T : Type} (K : Option T) : rz (nI 1) K = K := if_pos (Or.inr rfl)
theorem nI_addq (a b : Nat) : nI a + nI b = nI (a + b) := nI_add a b
theorem nI_mulq (a b : Nat) : nI a * nI b = nI (a * b) := pk_mul a b
theorem nI_eqq {a b : Nat} (ha : a < 2147483648) (hb : b < 2147483648) : (nI a = nI b) = (a = b) := propext (nI_eq ha hb)
theorem nI_ltq {a b : Nat} (ha : a < 2147483648) (hb : b < 2147483648) : (nI a < nI b) = (a < b) := propext (nI_ltI ha hb)
theorem nI_leq {a b : Nat} (ha : a < 2147483648) (hb : b < 2147483648) : (nI a ≤ nI b) = (a ≤ b) := propext (nI_leI ha hb)
theorem nI_lt0 {a : Nat} (ha : a < 2147483648) : (nI a < 0) = False := eq_false (nI_pos ha)
theorem nI_ge0 {a : Nat} (ha : a < 2147483648) : (0 ≤ nI a) = True := eq_true (nI_pos' ha)
theorem nI_eq0 {a : Nat} (ha : a < 2147483648) : (nI a = 0) = (a = 0) := nI_eqq ha (by decide)
theorem nI_gt0 {a : Nat} (ha : a < 2147483648) : (0 < nI a) = (0 < a) := nI_ltq (by decide) ha
theorem nI_le0 {a : Nat} (ha : a < 2147483648) : (nI a ≤ 0) = (a = 0) := by
  rw [show (0 : Int32) = nI 0 from rfl, nI_leq ha (by decide)]; exact propext ⟨fun h => by omega, fun h => by omega⟩
theorem nI_subq {a b : Nat} (h : b ≤ a) : nI a - nI b = nI (a - b) := pk_sub h
theorem rm_q {T : Type} {a d : Nat} {K : Int32 → Option T} (ha : a < 2147483648) (h0 : 0 < d) (hd : d < 2147483648) : rm_ (nI a) (nI d) K = K (nI (a % d)) := by
  unfold rm_
  rw [if_neg (by rw [nI_eq0 hd]; omega), irm, pk_rem ha h0 hd]
theorem dv_q {T : Type} {a d : Nat} {K : Int32 → Option T} (ha : a < 2147483648) (h0 : 0 < d) (hd : d < 2147483648) : dv (nI a) (nI d) K = K (nI (a / d)) := by
  unfold dv
  rw [if_neg (by rw [nI_eq0 hd]; omega), pk_div ha h0 hd]
/-! the store's places -/
theorem sI1 (σ : St) (a k b j : Nat) (v : Int32) : (sI σ a k v).1 b j = if b = a then (if j = k then v else σ.1 a j) else σ.1 b j := by
  by_cases h : b = a
  · subst h; rw [if_pos rfl, sI_eq]; rfl
  · rw [if_neg h, sI_ne h]
theorem sI2 (σ : St) (a k : Nat) (v : Int32) : (sI σ a k v).2 = σ.2 := rfl
theorem sL1 (σ : St) (a k : Nat) (v : Int64) : (sL σ a k v).1 = σ.1 := rfl
theorem sL2 (σ : St) (a k b j : Nat) (v : Int64) : (sL σ a k v).2 b j = if b = a then (if j = k then v else σ.2 a j) else σ.2 b j := by
  by_cases h : b = a
  · subst h; rw [if_pos rfl, sL_eq]; rfl
  · rw [if_neg h, sL_ne h]
theorem sC1 (σ : St) (a b n c j : Nat) : (sC σ a b n).1 c j = if c = b then (if j < n then σ.1 a j else σ.1 b j) else σ.1 c j := by
  by_cases h : c = b
  · subst h; rw [if_pos rfl, sC_eq]; simp [va_cpy]
  · rw [if_neg h, sC_ne h]
theorem sC2 (σ : St) (a b n : Nat) : (sC σ a b n).2 = σ.2 := rfl
/-! bits -/
/-- the set of those below n of which p holds, as bits -/
def bset (p : Nat → Bool) : Nat → Nat
  | 0 => 0
  | n + 1 => bset p n + (if p n = true then 2 ^ n else 0)
theorem bset_lt (p : Nat → Bool) : ∀ n, bset p n < 2 ^ n
  | 0 => by simp [bset]
  | n + 1 => by have := bset_lt p n; simp only [bset, Nat.pow_succ]; split <;> omega
theorem bset_lt8 (p : Nat → Bool) {n : Nat} (h : n ≤ 8) : bset p n < 256 := Nat.lt_of_lt_of_le (bset_lt p n) (Nat.pow_le_pow_right (by decide) h)
theorem bset_cong {p q : Nat → Bool} : ∀ {n : Nat}, (∀ l, l < n → p l = q l) → bset p n = bset q n
  | 0, _ => rfl
  | n + 1, h => by simp only [bset]; rw [bset_cong (fun l hl => h l (by omega)), h n (by omega)]
theorem bset_bit (p : Nat → Bool) : ∀ (n l : Nat), bset p n / 2 ^ l % 2 = if l < n ∧ p l = true then 1 else 0
  | 0, l => by simp [bset]
  | n + 1, l => by
    simp only [bset]
    rcases Nat.lt_trichotomy l n with h | h | h
    · have ih := bset_bit p n l
      have e : (if p n = true then 2 ^ n else 0) = 2 ^ l * (2 * (if p n = true then 2 ^ (n - l - 1) else 0)) := by
        split
        · rw [← Nat.pow_succ', ← Nat.pow_add]; congr 1; omega
        · simp
      rw [e, Nat.add_mul_div_left _ _ (Nat.two_pow_pos l), Nat.add_mul_mod_self_left, ih]
      simp only [h, true_and]
      by_cases hp : p l = true
      · rw [if_pos hp, if_pos ⟨by omega, hp⟩]
      · rw [if_neg hp, if_neg (fun z => hp z.2)]
    · subst h
      have hl := bset_lt p l
      by_cases hp : p l = true
      · rw [if_pos hp, if_pos ⟨by omega, hp⟩, Nat.add_div_right _ (Nat.two_pow_pos l), Nat.div_eq_of_lt hl]
      · rw [if_neg hp, if_neg (fun z => hp z.2), Nat.add_zero, Nat.div_eq_of_lt hl]
    · have hl := bset_lt p (n + 1)
      simp only [bset] at hl
      rw [Nat.div_eq_of_lt (Nat.lt_of_lt_of_le hl (Nat.pow_le_pow_right (by decide) h)), if_neg (fun z => by omega)]
theorem nI_or (a b : Nat) : nI a ||| nI b = nI (a ||| b) := by
  apply Int32.toBitVec_inj.mp
  simp [nI, BitVec.ofNat_or]
theorem nI_and (a b : Nat) : nI a &&& nI b = nI (a &&& b) := by
  apply Int32.toBitVec_inj.mp
  simp [nI, BitVec.ofNat_and]
theorem nI_xor (a b : Nat) : nI a ^^^ nI b = nI (a ^^^ b) := by
  apply Int32.toBitVec_inj.mp
  simp [nI, BitVec.ofNat_xor]
theorem shl_bit : ∀ l, l < 16 → nI 1 <<< (nI l &&& 31) = nI (2 ^ l) := by decide +kernel
theorem or_bit {b l : Nat} (h : b < 2 ^ l) (hl : l < 16) : nI b ||| (nI 1 <<< (nI l &&& 31)) = nI (b + 2 ^ l) := by
  rw [shl_bit l hl, nI_or]
  congr 1
  have e := Nat.two_pow_add_eq_or_of_lt h 1
  rw [Nat.mul_one] at e
  rw [Nat.or_comm, ← e, Nat.add_comm]
theorem shr_bit : ∀ l, l < 8 → ∀ b, b < 256 → (nI b >>> (nI l &&& 31)) &&& nI 1 = nI (b / 2 ^ l % 2) := by decide +kernel
theorem or_0 (x : Int32) : x ||| nI 0 = x := by
  apply Int32.toBitVec_inj.mp
  simp [nI]
/-! branches on naturals -/
theorem if_iff {T : Type} {c d : Prop} {_i : Decidable c} {_j : Decidable d} {A B : T} (h : c ↔ d) : (if c then A else B) = if d then A else B := by
  by_cases q : c
  · rw [if_pos q, if_pos (h.mp q)]
  · rw [if_neg q, if_neg (fun z => q (h.mpr z))]
theorem if_ltq {T : Type} {a b : Nat} {A B : T} (ha : a < 2147483648) (hb : b < 2147483648) : (if nI a < nI b then A else B) = if a < b then A else B := if_iff (nI_ltI ha hb)
theorem if_leq {T : Type} {a b : Nat} {A B : T} (ha : a < 2147483648) (hb : b < 2147483648) : (if nI a ≤ nI b then A else B) = if a ≤ b then A else B := if_iff (nI_leI ha hb)
theorem if_eqq {T : Type} {a b : Nat} {A B : T} (ha : a < 2147483648) (hb : b < 2147483648) : (if nI a = nI b then A else B) = if a = b then A else B := if_iff (nI_eq ha hb)
theorem if_eq0 {T : Type} {a : Nat} {A B : T} (ha : a < 2147483648) : (if nI a = 0 then A else B) = if a = 0 then A else B := if_iff (by rw [nI_eq0 ha])
theorem if_le0 {T : Type} {a : Nat} {A B : T} (ha : a < 2147483648) : (if nI a ≤ 0 then A else B) = if a = 0 then A else B := if_iff (by rw [nI_le0 ha])
theorem if_lt0 {T : Type} {a : Nat} {A B : T} (ha : a < 2147483648) : (if nI a < 0 then A else B) = B := if_neg (nI_pos ha)
theorem if_ge0 {T : Type} {a : Nat} {A B : T} (ha : a < 2147483648) : (if 0 ≤ nI a then A else B) = A := if_pos (nI_pos' ha)
theorem if_gt0 {T : Type} {a : Nat} {A B : T} (ha : a < 2147483648) : (if 0 < nI a then A else B) = if 0 < a then A else B := if_iff (by rw [nI_gt0 ha])
theorem if_bI {T : Type} {b : Bool} {A B : T} : (if bI b = 0 then A else B) = if b = true then B else A := by cases b <;> rfl
