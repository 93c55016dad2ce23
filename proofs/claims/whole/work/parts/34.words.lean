/-! words: five bits a letter in the class, eight in the model -/
def l64 (n : Nat) : Int64 := Int64.ofNat n
theorem l64_bv (n : Nat) : (l64 n).toBitVec = BitVec.ofNat 64 n := by unfold l64; rw [Int64.toBitVec_ofNat']
theorem l64_inj {a b : Nat} (ha : a < 9223372036854775808) (hb : b < 9223372036854775808) : (l64 a = l64 b) ↔ a = b := by
  constructor
  · intro h
    have := congrArg (fun x => x.toBitVec.toNat) h
    simp only [l64_bv, BitVec.toNat_ofNat] at this
    omega
  · intro h; rw [h]
theorem nI_64 {c : Nat} (h : c < 2147483648) : (nI c).toInt64 = l64 c := by
  apply Int64.toInt_inj.mp
  rw [Int32.toInt_toInt64, nI_toInt h]
  unfold l64
  rw [Int64.toInt_ofNat_of_lt (by omega)]
theorem l64_5 (a b : Nat) : lsl (l64 a) (nI 5) + l64 b = l64 (a * 32 + b) := by
  have e : (lsl (l64 a) (nI 5)).toBitVec = (l64 a).toBitVec <<< 5 := rfl
  apply Int64.toBitVec_inj.mp
  rw [Int64.toBitVec_add, e, l64_bv, l64_bv, l64_bv]
  apply BitVec.eq_of_toNat_eq
  rw [BitVec.toNat_add, BitVec.toNat_shiftLeft, BitVec.toNat_ofNat, BitVec.toNat_ofNat, BitVec.toNat_ofNat, Nat.shiftLeft_eq]
  omega
theorem l64_8 {a b : Nat} (hb : b < 256) : lsl (l64 a) (nI 8) ||| l64 b = l64 (a * 256 + b) := by
  have e : (lsl (l64 a) (nI 8)).toBitVec = (l64 a).toBitVec <<< 8 := rfl
  have e2 : (lsl (l64 a) (nI 8) ||| l64 b).toBitVec = (lsl (l64 a) (nI 8)).toBitVec ||| (l64 b).toBitVec := rfl
  apply Int64.toBitVec_inj.mp
  rw [e2, e, l64_bv, l64_bv, l64_bv]
  apply BitVec.eq_of_toNat_eq
  rw [BitVec.toNat_or, BitVec.toNat_shiftLeft, BitVec.toNat_ofNat, BitVec.toNat_ofNat, BitVec.toNat_ofNat, Nat.shiftLeft_eq]
  have e3 : a % 2 ^ 64 * 2 ^ 8 % 2 ^ 64 = (a % 2 ^ 56) <<< 8 := by rw [Nat.shiftLeft_eq]; omega
  rw [e3, Nat.mod_eq_of_lt (show b < 2 ^ 64 by omega), ← Nat.shiftLeft_add_eq_or_of_lt (show b < 2 ^ 8 by omega), Nat.shiftLeft_eq]
  omega
/-- the letters f (1 to 26), len of them -/
def e5 (f : Nat → Nat) : Nat → Nat
  | 0 => 0
  | i + 1 => e5 f i * 32 + f i
def e8 (f : Nat → Nat) : Nat → Nat
  | 0 => 0
  | i + 1 => e8 f i * 256 + (f i + 96)
def WdP (c d : Nat) : Prop := ∃ (f : Nat → Nat) (len : Nat), (1 ≤ len ∧ len ≤ 7) ∧ (∀ j, j < len → 1 ≤ f j ∧ f j ≤ 26) ∧ c = e5 f len ∧ d = e8 f len
def x58 : Nat → Nat → Nat
  | 0, _ => 0
  | k + 1, c => if c = 0 then 0 else x58 k (c / 32) * 256 + (c % 32 + 96)
def x85 : Nat → Nat → Nat
  | 0, _ => 0
  | k + 1, d => if d = 0 then 0 else x85 k (d / 256) * 32 + (d % 256 - 96)
theorem x58_s (k c : Nat) : x58 (k + 1) c = if c = 0 then 0 else x58 k (c / 32) * 256 + (c % 32 + 96) := rfl
theorem x85_s (k d : Nat) : x85 (k + 1) d = if d = 0 then 0 else x85 k (d / 256) * 32 + (d % 256 - 96) := rfl
theorem e5_s (f : Nat → Nat) (i : Nat) : e5 f (i + 1) = e5 f i * 32 + f i := rfl
theorem e8_s (f : Nat → Nat) (i : Nat) : e8 f (i + 1) = e8 f i * 256 + (f i + 96) := rfl
theorem x58_q {f : Nat → Nat} : ∀ {len k : Nat}, len ≤ k → (∀ j, j < len → 1 ≤ f j ∧ f j ≤ 26) → x58 k (e5 f len) = e8 f len
  | 0, k, _, _ => by cases k <;> simp [x58, e5, e8]
  | len + 1, 0, h, _ => by omega
  | len + 1, k + 1, h, hf => by
    have h1 := hf len (by omega)
    rw [x58_s, e5_s, e8_s, if_neg (by omega), show (e5 f len * 32 + f len) / 32 = e5 f len by omega, show (e5 f len * 32 + f len) % 32 = f len by omega, x58_q (by omega) (fun j hj => hf j (by omega))]
theorem x85_q {f : Nat → Nat} : ∀ {len k : Nat}, len ≤ k → (∀ j, j < len → 1 ≤ f j ∧ f j ≤ 26) → x85 k (e8 f len) = e5 f len
  | 0, k, _, _ => by cases k <;> simp [x85, e5, e8]
  | len + 1, 0, h, _ => by omega
  | len + 1, k + 1, h, hf => by
    have h1 := hf len (by omega)
    rw [x85_s, e5_s, e8_s, if_neg (by omega), show (e8 f len * 256 + (f len + 96)) / 256 = e8 f len by omega, show (e8 f len * 256 + (f len + 96)) % 256 - 96 = f len by omega, x85_q (by omega) (fun j hj => hf j (by omega))]
theorem WdP_eq {c d c' d' : Nat} (h : WdP c d) (h' : WdP c' d') : c = c' ↔ d = d' := by
  obtain ⟨f, n, hn, hf, rfl, rfl⟩ := h
  obtain ⟨g, m, hm, hg, rfl, rfl⟩ := h'
  constructor
  · intro e; rw [← x58_q hn.2 hf, ← x58_q hm.2 hg, e]
  · intro e; rw [← x85_q hn.2 hf, ← x85_q hm.2 hg, e]
theorem e5_lt {f : Nat → Nat} : ∀ {len : Nat}, (∀ j, j < len → 1 ≤ f j ∧ f j ≤ 26) → e5 f len < 32 ^ len
  | 0, _ => by simp [e5]
  | len + 1, hf => by
    have := e5_lt (f := f) (len := len) (fun j hj => hf j (by omega))
    have := hf len (by omega)
    simp only [e5, Nat.pow_succ]; omega
theorem e8_lt {f : Nat → Nat} : ∀ {len : Nat}, (∀ j, j < len → 1 ≤ f j ∧ f j ≤ 26) → e8 f len < 256 ^ len
  | 0, _ => by simp [e8]
  | len + 1, hf => by
    have := e8_lt (f := f) (len := len) (fun j hj => hf j (by omega))
    have := hf len (by omega)
    simp only [e8, Nat.pow_succ]; omega
theorem WdP_lt {c d : Nat} (h : WdP c d) : (0 < c ∧ c < 34359738368) ∧ 0 < d ∧ d < 72057594037927936 := by
  obtain ⟨f, n, hn, hf, rfl, rfl⟩ := h
  have h1 := e5_lt hf
  have h2 := e8_lt hf
  have h3 : 32 ^ n ≤ 32 ^ 7 := Nat.pow_le_pow_right (by decide) hn.2
  have h4 : 256 ^ n ≤ 256 ^ 7 := Nat.pow_le_pow_right (by decide) hn.2
  have e7 : 32 ^ 7 = 34359738368 := by decide
  have e8' : 256 ^ 7 = 72057594037927936 := by decide
  obtain ⟨n, rfl⟩ : ∃ m, n = m + 1 := ⟨n - 1, by omega⟩
  have h5 := hf n (by omega)
  refine ⟨⟨?_, by omega⟩, ?_, by omega⟩
  · simp only [e5]; omega
  · simp only [e8]; omega
/-- the words that no name may be, as both hold them -/
def rvC (i : Nat) : Nat := ([12885268, 6686312, 215533, 132683, 631088, 264005, 24389253, 18596, 7935150, 4707941, 378999173, 206220, 20194516, 20583602, 642891204, 498, 1476, 14836, 16052, 20679435719, 6611108, 402789, 89, 15660, 542713316, 18921701, 492210354] : List Nat).getD i 0
def rvM (i : Nat) : Nat := ([0x6c69676874, 0x666c617368, 0x66726f6d, 0x6461726b, 0x73686970, 0x68617a65, 0x7768697465, 0x726564, 0x677265656e, 0x646f757365, 0x6b696e646c65, 0x66696c6c, 0x7368696674, 0x7374656572, 0x7365636f6e64, 0x6f72, 0x616e64, 0x6e6f74, 0x6f7574, 0x7368696e696e67, 0x6669786564, 0x6c696b65, 0x6279, 0x6f696c, 0x706572696f64, 0x72616e6765, 0x6e756d626572] : List Nat).getD i 0
theorem rv_wc : ∀ i, i < 27 → wc i = l64 (rvC i) := by decide +kernel
/-- the letter of c that lies j from its end -/
theorem rv_ok : ∀ i, i < 27 → WdP (rvC i) (rvM i) := by
  have key : ∀ i, i < 27 → ∃ len, len < 8 ∧ 1 ≤ len ∧ (∀ j, j < len → 1 ≤ rvC i / 32 ^ (len - 1 - j) % 32 ∧ rvC i / 32 ^ (len - 1 - j) % 32 ≤ 26) ∧ rvC i = e5 (fun j => rvC i / 32 ^ (len - 1 - j) % 32) len ∧ rvM i = e8 (fun j => rvC i / 32 ^ (len - 1 - j) % 32) len := by
    intro i hi
    have h : ∀ i, i < 27 → (List.range 8).any (fun len => decide (1 ≤ len ∧ (∀ j, j < len → 1 ≤ rvC i / 32 ^ (len - 1 - j) % 32 ∧ rvC i / 32 ^ (len - 1 - j) % 32 ≤ 26) ∧ rvC i = e5 (fun j => rvC i / 32 ^ (len - 1 - j) % 32) len ∧ rvM i = e8 (fun j => rvC i / 32 ^ (len - 1 - j) % 32) len)) = true := by decide +kernel
    have := h i hi
    rw [List.any_eq_true] at this
    obtain ⟨len, h1, h2⟩ := this
    exact ⟨len, List.mem_range.mp h1, of_decide_eq_true h2⟩
  intro i hi
  obtain ⟨len, h1, h2, h3, h4, h5⟩ := key i hi
  exact ⟨_, len, ⟨h2, by omega⟩, h3, h4, h5⟩
theorem rv_inj {i j : Nat} (hi : i < 27) (hj : j < 27) (h : rvC i = rvC j) : i = j := by
  have : ∀ i, i < 27 → ∀ j, j < 27 → rvC i = rvC j → i = j := by decide +kernel
  exact this i hi j hj h
