/-! tag: both sides -/
def TgC (σ0 : St) (L : List Nat) (σ : St) : Prop := σ.1 0 14 = nI L.length ∧ (∀ j, j < L.length → σ.1 135 j = nI (L.getD j 0)) ∧ (∀ b, b ≠ 0 → b ≠ 135 → σ.1 b = σ0.1 b) ∧ (∀ k, k ≠ 14 → σ.1 0 k = σ0.1 0 k) ∧ σ.2 = σ0.2
def TgM (τ0 : St) (L : List Nat) (τ : St) : Prop := τ.1 206 38 = nI L.length ∧ (∀ j, j < L.length → τ.1 218 j = nI (L.getD j 0)) ∧ (∀ b, b ≠ 206 → b ≠ 218 → τ.1 b = τ0.1 b) ∧ (∀ k, k ≠ 38 → τ.1 206 k = τ0.1 206 k) ∧ τ.2 = τ0.2
theorem getD_app {L : List Nat} {x j : Nat} : (L ++ [x]).getD j 0 = if j = L.length then x else L.getD j 0 := by
  simp only [List.getD_eq_getElem?_getD]
  by_cases h : j = L.length
  · rw [if_pos h, h, List.getElem?_append_right (Nat.le_refl _), Nat.sub_self]; rfl
  · rw [if_neg h]
    rcases Nat.lt_or_ge j L.length with q | q
    · rw [List.getElem?_append_left q]
    · rw [List.getElem?_append_right q, List.getElem?_eq_none (by simp; omega), List.getElem?_eq_none (by omega)]
section Tg
variable {σ0 τ0 σ τ : St} {L : List Nat} {N : Nat}
theorem c_byte {x : Nat} (h : TgC σ0 L σ) (hl : L.length < 32) : ∃ σ', f_X11_tagByte (nI x) σ = some σ' ∧ TgC σ0 (L ++ [x]) σ' := by
  obtain ⟨h1, h2, h3, h4, h5⟩ := h
  have e14 : (sI σ 135 L.length (nI x)).1 0 14 = nI L.length := by rw [sI_ne (by decide)]; exact h1
  unfold f_X11_tagByte
  rw [vl_q, h1, if_leq (by decide) (by omega), if_neg (by omega), vl_q, ald_q hl (by decide), vl_q, e14, vl_q, nI_addq]
  refine ⟨_, rfl, ?_, fun j hj => ?_, fun b b0 b1 => ?_, fun k hk => ?_, ?_⟩
  · rw [sI1, if_pos rfl, if_pos rfl, List.length_append]; rfl
  · rw [List.length_append] at hj
    rw [sI_ne (by decide), sI1, if_pos rfl, getD_app]
    by_cases q : j = L.length
    · rw [if_pos q, if_pos q]
    · rw [if_neg q, if_neg q]; exact h2 j (by simp at hj; omega)
  · rw [sI_ne b0, sI_ne b1]; exact h3 b b0 b1
  · rw [sI1, if_pos rfl, if_neg hk, sI_ne (by decide)]; exact h4 k hk
  · exact h5
theorem b8 : ∀ x, x < 128 → ((nI x).toInt8.toInt32).toInt8.toInt32 = nI x := by decide +kernel
theorem m_lays {x : Nat} (hx : x < 128) (h : TgM τ0 L τ) (hl : L.length < 40) : ∃ τ', f_X12_lays (nI x) τ = some τ' ∧ TgM τ0 (L ++ [x]) τ' := by
  obtain ⟨h1, h2, h3, h4, h5⟩ := h
  have e14 : (sI τ 218 L.length (nI x)).1 206 38 = nI L.length := by rw [sI_ne (by decide)]; exact h1
  unfold f_X12_lays
  rw [vl_q, h1, ald_q hl (by decide), b8 x hx, vl_q, e14, vl_q, nI_addq]
  refine ⟨_, rfl, ?_, fun j hj => ?_, fun b b0 b1 => ?_, fun k hk => ?_, ?_⟩
  · rw [sI1, if_pos rfl, if_pos rfl, List.length_append]; rfl
  · rw [List.length_append] at hj
    rw [sI_ne (by decide), sI1, if_pos rfl, getD_app]
    by_cases q : j = L.length
    · rw [if_pos q, if_pos q]
    · rw [if_neg q, if_neg q]; exact h2 j (by simp at hj; omega)
  · rw [sI_ne b0, sI_ne b1]; exact h3 b b0 b1
  · rw [sI1, if_pos rfl, if_neg hk, sI_ne (by decide)]; exact h4 k hk
  · exact h5
/-- a number's digits -/
def dgs (n : Nat) : List Nat := if n < 10 then [48 + n] else [48 + n / 10, 48 + n % 10]
theorem dgs_le {n : Nat} (h : n < 100) : (dgs n).length ≤ 2 := by unfold dgs; split <;> simp
theorem c_num {n : Nat} (hn : n < 100) (h : TgC σ0 L σ) (hl : L.length + 2 ≤ 32) : ∃ σ', f_X11_tagNumber (nI n) σ = some σ' ∧ TgC σ0 (L ++ dgs n) σ' := by
  unfold f_X11_tagNumber dgs
  refine ex_eq (jn_q _ _) ?_
  dsimp only
  rw [if_ltq (by omega) (by decide)]
  by_cases q : n < 10
  · rw [if_pos q, if_pos q]
    obtain ⟨s, e, r⟩ := c_byte (x := 48 + n) h (by omega)
    rw [rm_q (by omega) (by decide) (by decide), Nat.mod_eq_of_lt q, nI_addq, e, bp_q]
    exact ⟨s, rfl, r⟩
  · rw [if_neg q, if_neg q, dv_q (by omega) (by decide) (by decide), nI_addq]
    obtain ⟨s, e, r⟩ := c_byte (x := 48 + n / 10) h (by omega)
    obtain ⟨s2, e2, r2⟩ := c_byte (x := 48 + n % 10) r (by rw [List.length_append]; simp; omega)
    rw [e, bp_q, rm_q (by omega) (by decide) (by decide), nI_addq, e2, bp_q]
    rw [List.append_assoc] at r2
    exact ⟨s2, rfl, r2⟩
theorem m_two {n : Nat} (hn : n < 100) (h : TgM τ0 L τ) (hl : L.length + 3 ≤ 40) : ∃ τ', f_X12_twoDigits (nI n) τ = some τ' ∧ TgM τ0 (L ++ [32] ++ dgs n) τ' := by
  unfold f_X12_twoDigits dgs
  obtain ⟨s0, e0, r0⟩ := m_lays (x := 32) (by decide) h (by omega)
  have l0 : (L ++ [32]).length = L.length + 1 := by rw [List.length_append]; rfl
  rw [e0, bp_q]
  refine ex_eq (jn_q _ _) ?_
  dsimp only
  rw [if_leq (by omega) (by decide)]
  by_cases q : n < 10
  · rw [if_pos q, if_pos (by omega)]
    obtain ⟨s, e, r⟩ := m_lays (x := 48 + n) (by omega) r0 (by omega)
    rw [rm_q (by omega) (by decide) (by decide), Nat.mod_eq_of_lt q, nI_addq, e, bp_q]
    exact ⟨s, rfl, r⟩
  · rw [if_neg q, if_neg (by omega), dv_q (by omega) (by decide) (by decide), nI_addq]
    obtain ⟨s, e, r⟩ := m_lays (x := 48 + n / 10) (by omega) r0 (by omega)
    obtain ⟨s2, e2, r2⟩ := m_lays (x := 48 + n % 10) (by omega) r (by rw [List.length_append]; simp; omega)
    rw [e, bp_q, rm_q (by omega) (by decide) (by decide), nI_addq, e2, bp_q]
    rw [List.append_assoc] at r2
    exact ⟨s2, rfl, r2⟩
/-! texts -/
def txB (k : Nat) : List Nat := ([[32, 97, 116, 32], [32], [32, 115, 101, 101, 115, 32]] : List (List Nat)).getD k []
theorem tx_ok : ∀ k, k < 3 → slen (2000 + k) = nI (txB k).length ∧ lenS.getD (2000 + k - 2000) 0 = (txB k).length ∧ (txB k).length ≤ 6 ∧ ∀ i, i < (txB k).length → (bytS.getD (2000 + k - 2000) []).getD (nI i).toNatClampNeg 0 = nI ((txB k).getD i 0) := by decide +kernel
theorem c_txL {k : Nat} (hk : k < 3) : ∀ F i (σ : St) (L : List Nat), i ≤ (txB k).length → (txB k).length - i < F → TgC σ0 L σ → L.length + ((txB k).length - i) ≤ 32 → ∃ σ', f_X11_tagText_L2 N (2000 + k) F (nI i) σ = some σ' ∧ TgC σ0 (L ++ (txB k).drop i) σ' := by
  obtain ⟨t1, t2, t3, t4⟩ := tx_ok k hk
  intro F
  induction F with
  | zero => intro i σ L _ h; omega
  | succ F ih =>
    intro i σ L hi hF h hl
    rw [f_X11_tagText_L2, vl_q, t1, if_leq (by omega) (by omega)]
    by_cases q : (txB k).length ≤ i
    · rw [if_pos q]
      refine ⟨σ, rfl, ?_⟩
      rw [List.drop_eq_nil_of_le q, List.append_nil]; exact h
    · obtain ⟨s, e, r⟩ := c_byte (x := (txB k).getD i 0) h (by omega)
      rw [if_neg q]
      unfold scat
      rw [t2, if_pos (by rw [isN_nI (by omega)]; exact decide_eq_true (by omega)), t4 i (by omega)]
      dsimp only
      rw [e, bp_q, vl_q, nI_addq]
      obtain ⟨s', e', r'⟩ := ih (i + 1) s _ (by omega) (by omega) r (by rw [List.length_append]; simp; omega)
      refine ⟨s', e', ?_⟩
      rw [List.append_assoc] at r'
      rw [List.drop_eq_getElem_cons (by omega : i < (txB k).length)]
      rw [List.getD_eq_getElem?_getD, List.getElem?_eq_getElem (by omega : i < (txB k).length)] at r'
      exact r'
theorem c_text {k : Nat} (hk : k < 3) (hN : 100 ≤ N) (h : TgC σ0 L σ) (hl : L.length + 6 ≤ 32) : ∃ σ', f_X11_tagText N (2000 + k) σ = some σ' ∧ TgC σ0 (L ++ txB k) σ' := by
  have t3 := (tx_ok k hk).2.2.1
  exact c_txL (N := N) hk N 0 σ L (Nat.zero_le _) (by omega) h (by omega)
/-! words -/
theorem l64_toNat {n : Nat} (h : n < 9223372036854775808) : (l64 n).toInt = n := by
  unfold l64
  exact Int64.toInt_ofNat_of_lt h
theorem lsr_q {n : Nat} (hn : n < 9223372036854775808) : ∀ k, k < 64 → lsr (l64 n) (nI k) = l64 (n / 2 ^ k) := by
  intro k hk
  have e1 : ∀ k, k < 64 → (((nI k).toInt64 &&& 63).toBitVec.smod 64).toNat = k := by decide +kernel
  apply Int64.toBitVec_inj.mp
  unfold lsr
  rw [Int64.toBitVec_shiftRight, BitVec.sshiftRight', e1 k hk, l64_bv, l64_bv, BitVec.sshiftRight_eq_of_msb_false (BitVec.msb_eq_false_iff_two_mul_lt.mpr (by rw [BitVec.toNat_ofNat, Nat.mod_eq_of_lt (by omega)]; omega))]
  apply BitVec.eq_of_toNat_eq
  have hd := Nat.div_le_self n (2 ^ k)
  rw [BitVec.toNat_ushiftRight, BitVec.toNat_ofNat, BitVec.toNat_ofNat, Nat.shiftRight_eq_div_pow, Nat.mod_eq_of_lt (by omega), Nat.mod_eq_of_lt (by omega)]
theorem low5 (n : Nat) : (l64 n).toInt32 &&& nI 31 = nI (n % 32) := by
  apply Int32.toBitVec_inj.mp
  rw [Int32.toBitVec_and, Int64.toBitVec_toInt32, l64_bv]
  apply BitVec.eq_of_toNat_eq
  show (BitVec.signExtend 32 (BitVec.ofNat 64 n)).toNat &&& (BitVec.ofNat 32 31).toNat = (BitVec.ofNat 32 (n % 32)).toNat
  rw [BitVec.signExtend_eq_setWidth_of_le _ (by decide), BitVec.toNat_setWidth, BitVec.toNat_ofNat, BitVec.toNat_ofNat, BitVec.toNat_ofNat, show 31 % 2 ^ 32 = 2 ^ 5 - 1 from rfl, Nat.and_two_pow_sub_one_eq_mod]
  omega
theorem low8 (n : Nat) : l64 n &&& 255 = l64 (n % 256) := by
  apply Int64.toBitVec_inj.mp
  rw [Int64.toBitVec_and, l64_bv, l64_bv]
  apply BitVec.eq_of_toNat_eq
  show (BitVec.ofNat 64 n).toNat &&& (BitVec.ofNat 64 255).toNat = (BitVec.ofNat 64 (n % 256)).toNat
  rw [BitVec.toNat_ofNat, BitVec.toNat_ofNat, BitVec.toNat_ofNat, show 255 % 2 ^ 64 = 2 ^ 8 - 1 from rfl, Nat.and_two_pow_sub_one_eq_mod]
  omega
theorem l64_32 {n : Nat} (h : n < 256) : (l64 n).toInt32 = nI n := by
  have : ∀ n, n < 256 → (l64 n).toInt32 = nI n := by decide +kernel
  exact this n h
def lgC (c : Nat) : Nat → List Nat
  | 0 => []
  | i + 1 => (if c / 32 ^ i % 32 = 0 then [] else [c / 32 ^ i % 32 + 96]) ++ lgC c i
def lgM (d : Nat) : Nat → List Nat
  | 0 => []
  | i + 1 => (if d / 256 ^ i % 256 = 0 then [] else [d / 256 ^ i % 256]) ++ lgM d i
theorem lgM_le (d : Nat) : ∀ i, (lgM d i).length ≤ i
  | 0 => Nat.le_refl _
  | i + 1 => by
    have := lgM_le d i
    simp only [lgM, List.length_append]
    split <;> simp <;> omega
theorem e5_div {f : Nat → Nat} {len : Nat} (hf : ∀ j, j < len → 1 ≤ f j ∧ f j ≤ 26) : ∀ i, i ≤ len → e5 f len / 32 ^ i = e5 f (len - i)
  | 0, _ => by simp
  | i + 1, h => by
    have ih := e5_div hf i (by omega)
    have := hf (len - (i + 1)) (by omega)
    rw [Nat.pow_succ, ← Nat.div_div_eq_div_mul, ih, show len - i = (len - (i + 1)) + 1 by omega, e5_s]
    omega
theorem e8_div {f : Nat → Nat} {len : Nat} (hf : ∀ j, j < len → 1 ≤ f j ∧ f j ≤ 26) : ∀ i, i ≤ len → e8 f len / 256 ^ i = e8 f (len - i)
  | 0, _ => by simp
  | i + 1, h => by
    have ih := e8_div hf i (by omega)
    have := hf (len - (i + 1)) (by omega)
    rw [Nat.pow_succ, ← Nat.div_div_eq_div_mul, ih, show len - i = (len - (i + 1)) + 1 by omega, e8_s]
    omega
theorem lg_eqq {c d : Nat} (w : WdP c d) : ∀ i, lgC c i = lgM d i := by
  obtain ⟨f, len, hl, hf, rfl, rfl⟩ := w
  intro i
  induction i with
  | zero => rfl
  | succ i ih =>
    simp only [lgC, lgM]
    rw [ih]
    congr 1
    by_cases q : i < len
    · have := hf (len - i - 1) (by omega)
      rw [e5_div hf i (by omega), e8_div hf i (by omega), show len - i = (len - i - 1) + 1 by omega, e5_s, e8_s, show (e5 f (len - i - 1) * 32 + f (len - i - 1)) % 32 = f (len - i - 1) by omega, show (e8 f (len - i - 1) * 256 + (f (len - i - 1) + 96)) % 256 = f (len - i - 1) + 96 by omega, if_neg (by omega), if_neg (by omega)]
    · have h5 := e5_lt hf
      have h8 := e8_lt hf
      have p5 : 32 ^ len ≤ 32 ^ i := Nat.pow_le_pow_right (by decide) (by omega)
      have p8 : 256 ^ len ≤ 256 ^ i := Nat.pow_le_pow_right (by decide) (by omega)
      rw [Nat.div_eq_of_lt (by omega), Nat.div_eq_of_lt (by omega), if_pos rfl, if_pos rfl]
theorem lgM_b {c d : Nat} (w : WdP c d) : ∀ i, d / 256 ^ i % 256 < 128 := by
  obtain ⟨f, len, hl, hf, rfl, rfl⟩ := w
  intro i
  by_cases q : i < len
  · have := hf (len - i - 1) (by omega)
    rw [e8_div hf i (by omega), show len - i = (len - i - 1) + 1 by omega, e8_s]
    omega
  · have h8 := e8_lt hf
    have p8 : 256 ^ len ≤ 256 ^ i := Nat.pow_le_pow_right (by decide) (by omega)
    rw [Nat.div_eq_of_lt (by omega)]
    decide
theorem c_twL {c : Nat} (hc : c < 34359738368) : ∀ F i (σ : St) (L : List Nat), i ≤ 7 → i < F → TgC σ0 L σ → L.length + i ≤ 32 → ∃ σ', f_X11_tagWord_L3 N (l64 c) F (nI i + (-1)) σ = some σ' ∧ TgC σ0 (L ++ lgC c i) σ' := by
  intro F
  induction F with
  | zero => intro i σ L _ h; omega
  | succ F ih =>
    intro i σ L hi hF h hl
    rw [f_X11_tagWord_L3]
    match i, hi, hF, hl with
    | 0, _, _, _ =>
      rw [if_pos (by decide)]
      exact ⟨σ, rfl, by rw [show lgC c 0 = [] from rfl, List.append_nil]; exact h⟩
    | i + 1, hi, hF, hl =>
      have p : 32 ^ i = 2 ^ (i * 5) := by rw [show (32 : Nat) = 2 ^ 5 from rfl, ← Nat.pow_mul, Nat.mul_comm]
      rw [pk_m1, if_lt0 (by omega), vl_q, nI_mulq, lsr_q (by omega) _ (by omega), low5, ← p]
      refine ex_eq (jn_q _ _) ?_
      dsimp only
      have hm := Nat.mod_lt (c / 32 ^ i) (show 0 < 32 by decide)
      rw [if_eq0 (by omega)]
      simp only [lgC]
      by_cases q : c / 32 ^ i % 32 = 0
      · rw [if_pos q, vl_q, if_pos q, List.nil_append]
        exact ih i σ L (by omega) (by omega) h (by omega)
      · obtain ⟨s, e, r⟩ := c_byte (x := c / 32 ^ i % 32 + 96) h (by omega)
        rw [if_neg q, nI_addq, nI_subq (by omega), show 97 + c / 32 ^ i % 32 - 1 = c / 32 ^ i % 32 + 96 by omega, e, bp_q, vl_q, if_neg q]
        obtain ⟨s', e', r'⟩ := ih i s _ (by omega) (by omega) r (by rw [List.length_append]; simp; omega)
        rw [List.append_assoc] at r'
        exact ⟨s', e', r'⟩
theorem m_spL {d : Nat} (hd : d < 72057594037927936) (hb : ∀ i, d / 256 ^ i % 256 < 128) : ∀ F i (τ : St) (L : List Nat), i ≤ 8 → i < F → TgM τ0 L τ → L.length + i ≤ 40 → ∃ τ', f_X12_spells_L3 N (l64 d) F (nI (8 * i) + (-8)) τ = some τ' ∧ TgM τ0 (L ++ lgM d i) τ' := by
  intro F
  induction F with
  | zero => intro i τ L _ h; omega
  | succ F ih =>
    intro i τ L hi hF h hl
    rw [f_X12_spells_L3]
    match i, hi, hF, hl with
    | 0, _, _, _ =>
      rw [if_pos (by decide)]
      exact ⟨τ, rfl, by rw [show lgM d 0 = [] from rfl, List.append_nil]; exact h⟩
    | i + 1, hi, hF, hl =>
      have p : 256 ^ i = 2 ^ (8 * i) := by rw [show (256 : Nat) = 2 ^ 8 from rfl, ← Nat.pow_mul]
      have e8' : nI (8 * (i + 1)) + (-8) = nI (8 * i) := by
        have : ∀ i, i < 8 → nI (8 * (i + 1)) + (-8) = nI (8 * i) := by decide +kernel
        exact this i (by omega)
      have hm := hb i
      rw [e8', if_lt0 (by omega), lsr_q (by omega) _ (by omega), low8, ← p]
      refine ex_eq (jn_q _ _) ?_
      dsimp only
      rw [show (0 : Int64) = l64 0 from rfl, lgq (by omega) (by decide)]
      simp only [lgM]
      by_cases q : d / 256 ^ i % 256 = 0
      · rw [if_pos q, vl_q, if_pos q, List.nil_append]
        exact ih i τ L (by omega) (by omega) h (by omega)
      · obtain ⟨s, e, r⟩ := m_lays (x := d / 256 ^ i % 256) hm h (by omega)
        rw [if_neg q, l64_32 (by omega), e, bp_q, vl_q, if_neg q]
        obtain ⟨s', e', r'⟩ := ih i s _ (by omega) (by omega) r (by rw [List.length_append]; simp; omega)
        rw [List.append_assoc] at r'
        exact ⟨s', e', r'⟩
theorem c_wordT {c : Nat} (hN : 100 ≤ N) (hc : c < 34359738368) (h : TgC σ0 L σ) (hl : L.length + 7 ≤ 32) : ∃ σ', f_X11_tagWord N (l64 c) σ = some σ' ∧ TgC σ0 (L ++ lgC c 7) σ' := by
  have := c_twL (N := N) hc N 7 σ L (by decide) (by omega) h hl
  rw [show nI 7 + (-1) = nI 6 from by decide] at this
  exact this
theorem m_spells {d : Nat} (hN : 100 ≤ N) (hd : d < 72057594037927936) (hb : ∀ i, d / 256 ^ i % 256 < 128) (h : TgM τ0 L τ) (hl : L.length + 8 ≤ 40) : ∃ τ', f_X12_spells N (l64 d) τ = some τ' ∧ TgM τ0 (L ++ lgM d 7) τ' := by
  have := m_spL (N := N) hd hb N 8 τ L (by decide) (by omega) h hl
  rw [show nI (8 * 8) + (-8) = nI 56 from by decide] at this
  obtain ⟨s, e, r⟩ := this
  refine ⟨s, e, ?_⟩
  simp only [lgM] at r ⊢
  rw [Nat.div_eq_of_lt (show d < 256 ^ 7 by omega), if_pos (by decide), List.nil_append] at r
  exact r
theorem TgC_F (h : TgC σ0 L σ) : Fr [0] σ0 σ := fun j hj => ⟨(h.2.2.1 j (fun e => hj (by rw [e]; decide)) (fun e => hj (by rw [e]; decide))).symm, by rw [h.2.2.2.2]⟩
theorem sp_at (hN : 100 ≤ N) (h : TgM τ0 L τ) (hl : L.length + 9 ≤ 40) : ∃ τ', f_X12_says N 24948 τ = some τ' ∧ TgM τ0 (L ++ [32, 97, 116]) τ' := by
  obtain ⟨s, e, r⟩ := m_lays (x := 32) (by decide) h (by omega)
  obtain ⟨s2, e2, r2⟩ := m_spells (d := 24948) hN (by decide) (fun i => by
    by_cases q : i < 2
    · have : i = 0 ∨ i = 1 := by omega
      rcases this with rfl | rfl <;> decide
    · rw [Nat.div_eq_of_lt (Nat.lt_of_lt_of_le (show 24948 < 256 ^ 2 by decide) (Nat.pow_le_pow_right (by decide) (by omega)))]; decide) r (by rw [List.length_append]; simp; omega)
  refine ⟨s2, ?_, ?_⟩
  · unfold f_X12_says
    rw [e, bp_q, show (24948 : Int64) = l64 24948 from rfl, e2, bp_q]
  · rw [List.append_assoc] at r2; exact r2
theorem sp_sees (hN : 100 ≤ N) (h : TgM τ0 L τ) (hl : L.length + 9 ≤ 40) : ∃ τ', f_X12_says N 1936024947 τ = some τ' ∧ TgM τ0 (L ++ [32, 115, 101, 101, 115]) τ' := by
  obtain ⟨s, e, r⟩ := m_lays (x := 32) (by decide) h (by omega)
  obtain ⟨s2, e2, r2⟩ := m_spells (d := 1936024947) hN (by decide) (fun i => by
    by_cases q : i < 4
    · have : i = 0 ∨ i = 1 ∨ i = 2 ∨ i = 3 := by omega
      rcases this with rfl | rfl | rfl | rfl <;> decide
    · rw [Nat.div_eq_of_lt (Nat.lt_of_lt_of_le (show 1936024947 < 256 ^ 4 by decide) (Nat.pow_le_pow_right (by decide) (by omega)))]; decide) r (by rw [List.length_append]; simp; omega)
  refine ⟨s2, ?_, ?_⟩
  · unfold f_X12_says
    rw [e, bp_q, show (1936024947 : Int64) = l64 1936024947 from rfl, e2, bp_q]
  · rw [List.append_assoc] at r2; exact r2
theorem k_tag {S : Nat → Nat} {u top : Nat} {H : Nat → Nat → Nat} (hN : 1000 ≤ N) (hK : KRel σ τ S u top H) (hNm : NmR σ τ 5 8 (S 1)) (x : Int32) : ∃ r σ' τ', f_X11_tag N x σ = some (r, σ') ∧ f_X12_tag N x τ = some (r, τ') ∧ ((σ' = σ ∧ τ' = sI τ 206 0 (nI 0)) ∨ ∃ L, L.length ≤ 32 ∧ TgC σ L σ' ∧ TgM (sI τ 206 0 (nI 0)) L τ') := by
  have hh := hK
  obtain ⟨h1, h2, hW, h4, h5, h6, h7, h8⟩ := hh
  have c1 := h2.1
  have c2 := h2.2.1
  have hK0 := KRel_thr hK (nI 0)
  have hR0 := hK0.1
  unfold f_X11_tag f_X12_tag
  rw [c_isShip c2 h5.2.1 x, bp_q, if_bI, vl_q, vl_q, m_isShip hR0 c2 x, bp_q, if_bI]
  by_cases hx : isN x (S 1) = true
  · obtain ⟨k, hk, rfl⟩ := isN_e hx (by omega)
    obtain ⟨c, d, w, x1, x2⟩ := hNm k hk
    have wl := WdP_lt w
    obtain ⟨w1, w2, w3⟩ := hW.2.2.2.2 k hk
    have sl := sees_lt c1 k
    have pl := pcN_le (seesS S k)
    have Tc : TgC σ [] (sI σ 0 14 (nI 0)) := ⟨by rw [sI1, if_pos rfl, if_pos rfl]; rfl, fun j hj => absurd hj (Nat.not_lt_zero _), fun b b0 _ => sI_ne b0, fun k hk => by rw [sI1, if_pos rfl, if_neg hk], rfl⟩
    have Tm : TgM (sI τ 206 0 (nI 0)) [] (sI (sI τ 206 0 (nI 0)) 206 38 (nI 0)) := ⟨by rw [sI1, if_pos rfl, if_pos rfl]; rfl, fun j hj => absurd hj (Nat.not_lt_zero _), fun b b0 _ => sI_ne b0, fun k hk => by rw [sI1, if_pos rfl, if_neg hk], rfl⟩
    have nm : (sI σ 0 14 (nI 0)).2 (rr 5 k) 0 = l64 c := x1
    have nm2 : (sI (sI τ 206 0 (nI 0)) 206 38 (nI 0)).2 211 (8 + k) = l64 d := x2
    rw [if_pos hx, if_pos hx, ald_q (by omega) (by decide), vl_q, nm, vl_q, nI_addq, ald_q (by omega) (by decide), nm2]
    have RS_T : ∀ {L : List Nat} {t : St}, TgM (sI τ 206 0 (nI 0)) L t → RS S t := fun {L t} h => RS_o hR0 (fun j => by rw [h.2.2.1 208 (by decide) (by decide)])
    have SR_T : ∀ {L : List Nat} {s : St}, TgC σ L s → CRel s 3 4 5 S ∧ SRel s 49 S := fun {L s} h => ⟨CRel_fr (TgC_F h) (by decide) c1 c2 h5, SRel_fr sh49.1 (TgC_F h) (by rw [sh49.2]; decide) h7⟩
    have W7 := lgM_le d 7
    -- the name
    obtain ⟨s1, a1, T1⟩ := c_wordT (N := N) (by omega) wl.1.2 Tc (by decide)
    obtain ⟨t1, b1, M1⟩ := m_spells (N := N) (by omega) wl.2.2 (lgM_b w) Tm (by decide)
    rw [lg_eqq w, List.nil_append] at T1
    rw [List.nil_append] at M1
    -- ' at ', X
    obtain ⟨s2, a2, T2⟩ := c_text (k := 0) (N := N) (by decide) (by omega) T1 (by omega)
    have l2 : (lgM d 7 ++ txB 0).length ≤ 11 := by rw [List.length_append]; have : (txB 0).length = 4 := rfl; omega
    obtain ⟨t2, b2, M2⟩ := sp_at (N := N) (by omega) M1 (by omega)
    have e2 : lgM d 7 ++ [32, 97, 116] ++ [32] = lgM d 7 ++ txB 0 := by rw [List.append_assoc]; rfl
    have g2 : s2.1 52 k = nI (S (166 + k)) := by
      have := ((SR_T T2).2.2.2.2.2 k hk).1
      rw [d49.2.2.1] at this; exact this
    obtain ⟨s3, a3, T3⟩ := c_num (n := S (166 + k)) (by omega) T2 (by omega)
    have d3' := dgs_le (n := S (166 + k)) (by omega)
    have l3 : (lgM d 7 ++ txB 0 ++ dgs (S (166 + k))).length ≤ 13 := by rw [List.length_append]; omega
    obtain ⟨t3, b3, M3⟩ := m_two (n := S (166 + k)) (by omega) M2 (by rw [List.length_append]; simp; omega)
    rw [e2] at M3
    -- ' ', Y
    obtain ⟨s4, a4, T4⟩ := c_text (k := 1) (N := N) (by decide) (by omega) T3 (by omega)
    have l4 : (lgM d 7 ++ txB 0 ++ dgs (S (166 + k)) ++ txB 1).length ≤ 14 := by rw [List.length_append]; have : (txB 1).length = 1 := rfl; omega
    have g4 : s4.1 53 k = nI (S (170 + k)) := by
      have := ((SR_T T4).2.2.2.2.2 k hk).2.1
      rw [d49.2.2.2.1] at this; exact this
    obtain ⟨s5, a5, T5⟩ := c_num (n := S (170 + k)) (by omega) T4 (by omega)
    have d5' := dgs_le (n := S (170 + k)) (by omega)
    have l5 : (lgM d 7 ++ txB 0 ++ dgs (S (166 + k)) ++ txB 1 ++ dgs (S (170 + k))).length ≤ 16 := by rw [List.length_append]; omega
    obtain ⟨t4, b4, M4⟩ := m_two (n := S (170 + k)) (by omega) M3 (by omega)
    -- ' sees ', how many
    obtain ⟨s6, a6, T6⟩ := c_text (k := 2) (N := N) (by decide) (by omega) T5 (by omega)
    have l6 : (lgM d 7 ++ txB 0 ++ dgs (S (166 + k)) ++ txB 1 ++ dgs (S (170 + k)) ++ txB 2).length ≤ 22 := by rw [List.length_append]; have : (txB 2).length = 6 := rfl; omega
    obtain ⟨t5, b5, M5⟩ := sp_sees (N := N) (by omega) M4 (by have : txB 1 = [32] := rfl; rw [← this]; omega)
    obtain ⟨s7, a7, T7⟩ := c_num (n := pcN (seesS S k)) (by omega) T6 (by omega)
    have d7' := dgs_le (n := pcN (seesS S k)) (by omega)
    obtain ⟨t6, b6, M6⟩ := m_two (n := pcN (seesS S k)) (by omega) M5 (by have : txB 1 = [32] := rfl; rw [← this, List.length_append]; show _ + 5 + 3 ≤ 40; omega)
    have e6 : lgM d 7 ++ txB 0 ++ dgs (S (166 + k)) ++ [32] ++ dgs (S (170 + k)) ++ [32, 115, 101, 101, 115] ++ [32] = lgM d 7 ++ txB 0 ++ dgs (S (166 + k)) ++ txB 1 ++ dgs (S (170 + k)) ++ txB 2 := by
      rw [List.append_assoc _ [32, 115, 101, 101, 115] [32]]; rfl
    rw [e6] at M6
    have cs := c_seenBy (N := N) (b := 49) (by omega) h2 hW (SR_T T6).1 (SR_T T6).2 hk
    have ms := m_seenBy (N := N) (by omega) (RS_T M5) h2 hW hk
    have f1 := RS_T M2 (166 + k) (by omega)
    have f2 := RS_T M3 (170 + k) (by omega)
    have z0 : f_X11_tagText N 2000 s1 = some s2 := a2
    have z1 : f_X11_tagText N 2001 s3 = some s4 := a4
    have z2 : f_X11_tagText N 2002 s5 = some s6 := a6
    have len : (lgM d 7 ++ txB 0 ++ dgs (S (166 + k)) ++ txB 1 ++ dgs (S (170 + k)) ++ txB 2 ++ dgs (pcN (seesS S k))).length ≤ 32 := by rw [List.length_append]; omega
    generalize lgM d 7 ++ txB 0 ++ dgs (S (166 + k)) ++ txB 1 ++ dgs (S (170 + k)) ++ txB 2 ++ dgs (pcN (seesS S k)) = Lz at T7 M6 len
    refine ⟨nI Lz.length, s7, t6, ?_, ?_, Or.inr ⟨Lz, len, T7, M6⟩⟩
    · rw [a1, bp_q, z0, bp_q, ald_q (by omega) (by decide), g2, a3, bp_q, z1, bp_q, ald_q (by omega) (by decide), g4, a5, bp_q, z2, bp_q, cs, bp_q, c_bitCount sl, bp_q, a7, bp_q, vl_q, T7.1]
    · rw [b1, bp_q, b2, bp_q, nI_addq, ald_q (by omega) (by decide), f1, b3, bp_q, nI_addq, ald_q (by omega) (by decide), f2, b4, bp_q, b5, bp_q, ms, bp_q, m_bits (by omega) sl, bp_q, b6, bp_q, vl_q, M6.1]
  · rw [if_neg hx, if_neg hx]
    exact ⟨-1, σ, sI τ 206 0 (nI 0), rfl, rfl, Or.inl ⟨rfl, rfl⟩⟩
end Tg
