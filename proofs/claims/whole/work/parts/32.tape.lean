/-! the tape: both sides -/
/-- a byte as the model's row holds it -/
def sbt (b : Nat) : Int32 := (nI b).toInt8.toInt32
theorem sbt_q : ∀ b, b < 256 → sbt b &&& nI 255 = nI b := by decide +kernel
/-- the byte of x that lies s bits up -/
def bN (x : Int32) (s : Nat) : Nat := x.toBitVec.toNat / 2 ^ s % 256
theorem bN_lt (x : Int32) (s : Nat) : bN x s < 256 := Nat.mod_lt _ (by decide)
theorem bN_and {x : Int32} {s : Nat} (hs : s = 24 ∨ s = 16 ∨ s = 8 ∨ s = 0) : (ush x (nI s)) &&& (nI 255) = nI (bN x s) := by
  have e : (ush x (nI s)).toBitVec = x.toBitVec >>> s := by
    rcases hs with rfl | rfl | rfl | rfl <;> rfl
  apply Int32.toBitVec_inj.mp
  apply BitVec.eq_of_toNat_eq
  have e2 : ((ush x (nI s)) &&& (nI 255)).toBitVec = (ush x (nI s)).toBitVec &&& 255#32 := rfl
  rw [e2, e, BitVec.toNat_and, BitVec.toNat_ushiftRight, Nat.shiftRight_eq_div_pow]
  have e3 : (255#32).toNat = 2 ^ 8 - 1 := rfl
  rw [e3, Nat.and_two_pow_sub_one_eq_mod]
  unfold bN nI
  have hb := Nat.mod_lt (x.toBitVec.toNat / 2 ^ s) (show 0 < 256 by decide)
  simp only [Int32.toBitVec_ofNat', BitVec.toNat_ofNat]
  omega
theorem bN_sb {x : Int32} {s : Nat} (hs : s = 24 ∨ s = 16 ∨ s = 8 ∨ s = 0) : ((x >>> (nI s &&& 31)).toInt8.toInt32).toInt8.toInt32 = sbt (bN x s) := by
  have e : (x >>> (nI s &&& 31)).toBitVec = x.toBitVec.sshiftRight s := by
    rcases hs with rfl | rfl | rfl | rfl <;> rfl
  have e8 : (x >>> (nI s &&& 31)).toInt8 = (nI (bN x s)).toInt8 := by
    apply Int8.toBitVec_inj.mp
    rw [Int32.toBitVec_toInt8, Int32.toBitVec_toInt8, e, BitVec.signExtend_eq_setWidth_of_le _ (by decide), BitVec.signExtend_eq_setWidth_of_le _ (by decide)]
    apply BitVec.eq_of_getLsbD_eq
    intro i hi
    rw [BitVec.getLsbD_setWidth, BitVec.getLsbD_setWidth, BitVec.getLsbD_sshiftRight]
    have e4 : (nI (bN x s)).toBitVec.getLsbD i = (x.toBitVec.toNat / 2 ^ s).testBit i := by
      unfold nI
      rw [Int32.toBitVec_ofNat', BitVec.getLsbD_ofNat]
      unfold bN
      rw [show (256 : Nat) = 2 ^ 8 from rfl, Nat.testBit_mod_two_pow]
      simp only [hi, decide_true, Bool.true_and, show i < 32 by omega]
    have e5 : x.toBitVec.getLsbD (s + i) = (x.toBitVec.toNat / 2 ^ s).testBit i := by
      rw [Nat.testBit_div_two_pow, Nat.add_comm]; rfl
    rw [e4, ← e5]
    have : s + i < 32 := by omega
    simp [this, hi, show ¬ 32 ≤ i by omega]
  rw [e8, sbt]
  simp
/-- n bytes B: the class's tape, the model's tape -/
def TC (s : St) (n : Nat) (B : Nat → Nat) : Prop := s.1 1 1 = nI n ∧ ∀ j, j < n → s.1 2 j = nI (B j)
def TM (t : St) (n : Nat) (B : Nat → Nat) : Prop := t.1 206 2 = nI n ∧ ∀ j, j < n → t.1 207 j = sbt (B j)
def TapR (σ τ : St) (n : Nat) (B : Nat → Nat) : Prop := n ≤ 940 ∧ TC σ n B ∧ TM τ n B ∧ ∀ j, j < n → B j < 256
def app (B : Nat → Nat) (n b : Nat) : Nat → Nat := fun j => if j = n then b else B j
theorem TC_app {s : St} {n b : Nat} {B : Nat → Nat} (h : TC s n B) : TC (sI (sI s 2 n (nI b)) 1 1 (nI (n + 1))) (n + 1) (app B n b) := by
  refine ⟨by rw [sI1, if_pos rfl, if_pos rfl], fun j hj => ?_⟩
  rw [sI1, if_neg (by decide), sI1, if_pos rfl]
  unfold app
  by_cases q : j = n
  · rw [if_pos q, if_pos q]
  · rw [if_neg q, if_neg q]; exact h.2 j (by omega)
theorem TM_app {s : St} {n b : Nat} {B : Nat → Nat} (h : TM s n B) : TM (sI (sI s 207 n (sbt b)) 206 2 (nI (n + 1))) (n + 1) (app B n b) := by
  refine ⟨by rw [sI1, if_pos rfl, if_pos rfl], fun j hj => ?_⟩
  rw [sI1, if_neg (by decide), sI1, if_pos rfl]
  unfold app
  by_cases q : j = n
  · rw [if_pos q, if_pos q]
  · rw [if_neg q, if_neg q]; exact h.2 j (by omega)
def ap4 (B : Nat → Nat) (n : Nat) (x : Int32) : Nat → Nat := app (app (app (app B n (bN x 24)) (n + 1) (bN x 16)) (n + 1 + 1) (bN x 8)) (n + 1 + 1 + 1) (bN x 0)
theorem app_lt {B : Nat → Nat} {n b : Nat} (h : ∀ j, j < n → B j < 256) (hb : b < 256) : ∀ j, j < n + 1 → app B n b j < 256 := fun j hj => by
  unfold app
  by_cases q : j = n
  · rw [if_pos q]; exact hb
  · rw [if_neg q]; exact h j (by omega)
theorem ap4_lt {B : Nat → Nat} {n : Nat} {x : Int32} (h : ∀ j, j < n → B j < 256) : ∀ j, j < n + 1 + 1 + 1 + 1 → ap4 B n x j < 256 := app_lt (app_lt (app_lt (app_lt h (bN_lt _ _)) (bN_lt _ _)) (bN_lt _ _)) (bN_lt _ _)
theorem c_put1 {s : St} {N m n f : Nat} {x : Int32} {B : Nat → Nat} (h : TC s n B) (hn : n < 940) (hf : f = 24 ∨ f = 16 ∨ f = 8 ∨ f = 0) : f_X9_put_L3 N x (m + 1) (nI f) s = f_X9_put_L3 N x m (nI f + (-8)) (sI (sI s 2 n (nI (bN x f))) 1 1 (nI (n + 1))) := by
  rw [f_X9_put_L3, if_lt0 (by omega), vl_q, jn_q, h.1, if_leq (by decide) (by omega), if_neg (by omega), vl_q, ald_q hn (by decide), bN_and hf, vl_q, vl_q]
  dsimp only
  rw [vl_q, sI1, if_neg (by decide), h.1, nI_addq]
theorem c_put {s : St} {N n : Nat} {x : Int32} {B : Nat → Nat} (hN : 10 ≤ N) (h : TC s n B) (hn : n + 4 ≤ 940) : ∃ s', f_X9_put N x s = some s' ∧ TC s' (n + 1 + 1 + 1 + 1) (ap4 B n x) := by
  obtain ⟨N, rfl⟩ : ∃ N', N = N' + 5 := ⟨N - 5, by omega⟩
  unfold f_X9_put
  have h1 := TC_app (b := bN x 24) h
  have h2 := TC_app (b := bN x 16) h1
  have h3 := TC_app (b := bN x 8) h2
  have h4 := TC_app (b := bN x 0) h3
  rw [c_put1 h (by omega) (by decide), show nI 24 + (-8) = nI 16 from by decide, c_put1 h1 (by omega) (by decide), show nI 16 + (-8) = nI 8 from by decide, c_put1 h2 (by omega) (by decide), show nI 8 + (-8) = nI 0 from by decide, c_put1 h3 (by omega) (by decide), f_X9_put_L3, if_pos (by decide)]
  exact ⟨_, rfl, h4⟩
theorem m_put1 {s : St} {N m n f : Nat} {x : Int32} {B : Nat → Nat} (h : TM s n B) (hn : n < 940) (hf : f = 24 ∨ f = 16 ∨ f = 8 ∨ f = 0) : f_X12_four_L3 N x (m + 1) (nI f) s = f_X12_four_L3 N x m (nI f + (-8)) (sI (sI s 207 n (sbt (bN x f))) 206 2 (nI (n + 1))) := by
  rw [f_X12_four_L3, if_lt0 (by omega), vl_q, h.1, ald_q hn (by decide), bN_sb hf, vl_q, vl_q, vl_q]
  rw [sI1, if_neg (by decide), h.1, nI_addq]
theorem m_put {s : St} {N n : Nat} {x : Int32} {B : Nat → Nat} (hN : 10 ≤ N) (h : TM s n B) (hn : n + 4 ≤ 940) : ∃ s', f_X12_four N x s = some s' ∧ TM s' (n + 1 + 1 + 1 + 1) (ap4 B n x) := by
  obtain ⟨N, rfl⟩ : ∃ N', N = N' + 5 := ⟨N - 5, by omega⟩
  unfold f_X12_four
  have h1 := TM_app (b := bN x 24) h
  have h2 := TM_app (b := bN x 16) h1
  have h3 := TM_app (b := bN x 8) h2
  have h4 := TM_app (b := bN x 0) h3
  rw [m_put1 h (by omega) (by decide), show nI 24 + (-8) = nI 16 from by decide, m_put1 h1 (by omega) (by decide), show nI 16 + (-8) = nI 8 from by decide, m_put1 h2 (by omega) (by decide), show nI 8 + (-8) = nI 0 from by decide, m_put1 h3 (by omega) (by decide), f_X12_four_L3, if_pos (by decide)]
  exact ⟨_, rfl, h4⟩
theorem TM_thr {τ : St} {n : Nat} {B : Nat → Nat} {v : Int32} (h : TM τ n B) : TM (sI τ 206 0 v) n B := ⟨by rw [sI1, if_pos rfl, if_neg (by decide)]; exact h.1, fun j hj => by rw [sI1, if_neg (by decide)]; exact h.2 j hj⟩
theorem k_feed {σ τ : St} {N n : Nat} {B : Nat → Nat} (hN : 10 ≤ N) (h : TapR σ τ n B) (a b c d e : Int32) : ∃ r σ' τ' n' B', f_X11_feed N a b c d e σ = some (r, σ') ∧ f_X12_feed N a b c d e τ = some (r, τ') ∧ TapR σ' τ' n' B' := by
  obtain ⟨h1, h2, h3, h4⟩ := h
  have h3' := TM_thr (v := nI 0) h3
  unfold f_X11_feed f_X12_feed
  simp only [vl_q]
  rw [h2.1, h3'.1, nI_addq, if_leq (by omega) (by decide), if_leq (by omega) (by decide)]
  by_cases q : n + 20 ≤ 940
  · rw [if_pos q, if_pos q]
    obtain ⟨s1, e1, t1⟩ := c_put (N := N) (x := a) hN h2 (by omega)
    obtain ⟨s2, e2, t2⟩ := c_put (N := N) (x := b) hN t1 (by omega)
    obtain ⟨s3, e3, t3⟩ := c_put (N := N) (x := c) hN t2 (by omega)
    obtain ⟨s4, e4, t4⟩ := c_put (N := N) (x := d) hN t3 (by omega)
    obtain ⟨s5, e5, t5⟩ := c_put (N := N) (x := e) hN t4 (by omega)
    obtain ⟨u1, g1, w1⟩ := m_put (N := N) (x := a) hN h3' (by omega)
    obtain ⟨u2, g2, w2⟩ := m_put (N := N) (x := b) hN w1 (by omega)
    obtain ⟨u3, g3, w3⟩ := m_put (N := N) (x := c) hN w2 (by omega)
    obtain ⟨u4, g4, w4⟩ := m_put (N := N) (x := d) hN w3 (by omega)
    obtain ⟨u5, g5, w5⟩ := m_put (N := N) (x := e) hN w4 (by omega)
    rw [e1, bp_q, e2, bp_q, e3, bp_q, e4, bp_q, e5, bp_q, g1, bp_q, g2, bp_q, g3, bp_q, g4, bp_q, g5, bp_q, t5.1, w5.1]
    exact ⟨_, _, _, _, _, rfl, rfl, by omega, t5, w5, ap4_lt (ap4_lt (ap4_lt (ap4_lt (ap4_lt h4))))⟩
  · rw [if_neg q, if_neg q]
    exact ⟨_, _, _, n, B, rfl, rfl, h1, h2, h3', h4⟩
theorem k_end {σ τ : St} {n : Nat} {B : Nat → Nat} (h : TapR σ τ n B) (x : Int32) : ∃ r σ' τ' n', f_X11_end x σ = some (r, σ') ∧ f_X12_end x τ = some (r, τ') ∧ TapR σ' τ' n' B := by
  obtain ⟨h1, h2, h3, h4⟩ := h
  have h3' := TM_thr (v := nI 0) h3
  unfold f_X11_end f_X12_end
  simp only [vl_q]
  rw [h2.1, h3'.1]
  by_cases z : x < 0
  · rw [if_pos z, if_pos z]
    exact ⟨_, _, _, n, rfl, rfl, h1, h2, h3', h4⟩
  · rw [if_neg z, if_neg z]
    by_cases w : x ≤ nI n
    · have hx : isN x (n + 1) = true := decide_eq_true (by
        have e1 : (0 : Int32).toInt = 0 := rfl
        rw [Int32.lt_iff_toInt_lt] at z
        rw [Int32.le_iff_toInt_le, nI_toInt (by omega)] at w
        omega)
      obtain ⟨k, hk, rfl⟩ := isN_e hx (by omega)
      rw [if_pos w, if_pos w]
      refine ⟨_, _, _, k, rfl, rfl, by omega, ⟨by rw [sI1, if_pos rfl, if_pos rfl], fun j hj => by rw [sI1, if_neg (by decide)]; exact h2.2 j (by omega)⟩, ⟨by rw [sI1, if_pos rfl, if_pos rfl], fun j hj => by rw [sI1, if_neg (by decide)]; exact h3'.2 j (by omega)⟩, fun j hj => h4 j (by omega)⟩
    · rw [if_neg w, if_neg w]
      exact ⟨_, _, _, n, rfl, rfl, h1, h2, h3', h4⟩
theorem k_count {σ τ : St} {S : Nat → Nat} {u top n : Nat} {H : Nat → Nat → Nat} {B : Nat → Nat} (hK : KRel σ τ S u top H) (h : TapR σ τ n B) (x : Int32) : rdE τ (f_X11_count x σ) (f_X12_count x τ) := by
  have hR0 := (KRel_thr hK (nI 0)).1
  obtain ⟨h1, h2, h3, h4⟩ := h
  have h3' := TM_thr (v := nI 0) h3
  have h5 := hK.2.2.2.2.1
  unfold f_X11_count f_X12_count
  simp only [vl_q]
  rw [h2.1, h3'.1, h5.1, h5.2.1, h5.2.2.1, m_isIn, bp_q, if_bI, isN_up (by decide)]
  by_cases e0 : x = nI 0
  · subst e0
    rw [if_pos rfl, if_neg (by decide), if_pos (by decide), ald_S hR0 (by decide)]; exact rd_no _ _
  rw [if_neg e0]
  by_cases e1 : x = nI 1
  · subst e1
    rw [if_pos rfl, if_neg (by decide), if_pos (by decide), ald_S hR0 (by decide)]; exact rd_no _ _
  rw [if_neg e1]
  by_cases e2 : x = nI 2
  · subst e2
    rw [if_pos rfl, if_neg (by decide), if_pos (by decide), ald_S hR0 (by decide)]; exact rd_no _ _
  rw [if_neg e2]
  by_cases e3 : x = nI 3
  · rw [if_pos e3, if_pos e3]; exact rd_no _ _
  rw [if_neg e3, if_neg e3, if_neg (fun z => by
    obtain ⟨k, hk, rfl⟩ := isN_e z (by decide)
    rcases (by omega : k = 0 ∨ k = 1 ∨ k = 2) with w | w | w <;> subst w <;> first | exact e0 rfl | exact e1 rfl | exact e2 rfl)]
  exact rd_no _ _
/-! fix -/
/-- the model's store once the tape is taken -/
def tkS (lim : Int32) (τ : St) : St := sI (sI (sI (sI (sI τ 206 0 (nI 0)) 206 3 (τ.1 206 2)) 206 2 (nI 0)) 206 4 (nI 0)) 206 5 lim
theorem m_taken {τ : St} {lim : Int32} : f_X12_taken lim (sI τ 206 0 (nI 0)) = some (tkS lim τ) := by
  unfold f_X12_taken tkS
  simp only [vl_q]
  rw [t0_n (by decide)]
theorem tk_3 {lim : Int32} {τ : St} : (tkS lim τ).1 206 3 = τ.1 206 2 := by
  unfold tkS
  rw [sI1, if_pos rfl, if_neg (by decide), sI1, if_pos rfl, if_neg (by decide), sI1, if_pos rfl, if_neg (by decide), sI1, if_pos rfl, if_pos rfl]
theorem tk_2 {lim : Int32} {τ : St} : (tkS lim τ).1 206 2 = nI 0 := by
  unfold tkS
  rw [sI1, if_pos rfl, if_neg (by decide), sI1, if_pos rfl, if_neg (by decide), sI1, if_pos rfl, if_pos rfl]
theorem tk_4 {lim : Int32} {τ : St} : (tkS lim τ).1 206 4 = nI 0 := by
  unfold tkS
  rw [sI1, if_pos rfl, if_neg (by decide), sI1, if_pos rfl, if_pos rfl]
theorem tk_5 {lim : Int32} {τ : St} : (tkS lim τ).1 206 5 = lim := by
  unfold tkS
  rw [sI1, if_pos rfl, if_pos rfl]
theorem tk_c {lim : Int32} {τ : St} {b : Nat} (h : b ≠ 206) : (tkS lim τ).1 b = τ.1 b := by
  unfold tkS
  funext j
  rw [sI1, if_neg h, sI1, if_neg h, sI1, if_neg h, sI1, if_neg h, sI1, if_neg h]
theorem tk_L {lim : Int32} {τ : St} : (tkS lim τ).2 = τ.2 := rfl
theorem tk_n {lim : Int32} {τ : St} {k : Nat} (h0 : k ≠ 0) (h2 : k ≠ 2) (h3 : k ≠ 3) (h4 : k ≠ 4) (h5 : k ≠ 5) : (tkS lim τ).1 206 k = τ.1 206 k := by
  unfold tkS
  rw [sI1, if_pos rfl, if_neg h5, sI1, if_pos rfl, if_neg h4, sI1, if_pos rfl, if_neg h2, sI1, if_pos rfl, if_neg h3, sI1, if_pos rfl, if_neg h0]
theorem m_octet {τ : St} {n k : Nat} {B : Nat → Nat} (h : ∀ j, j < n → τ.1 207 j = sbt (B j)) (hB : ∀ j, j < n → B j < 256) (hk : k < n) (hn : n ≤ 940) : f_X12_octet (nI k) τ = some (nI (B k)) := by
  unfold f_X12_octet
  rw [ald_q (by omega) (by decide), h k hk, sbt_q _ (hB k hk)]
/-- light and octant of the tape's pairs, well told -/
def fxOk (S B : Nat → Nat) (m : Nat) : Bool := allN (fun i => decide (B (2 * i) < S 0) && decide (B (2 * i + 1) < 8)) m
def fxIn (S B : Nat → Nat) (m c : Nat) : Bool := allN (fun i => decide (octN (((c % 20 : Nat) : Int) - S (3 + B (2 * i))) (((c / 20 : Nat) : Int) - S (11 + B (2 * i))) = B (2 * i + 1))) m
theorem oI_q {k b : Nat} (hk : k ≤ 8) (hb : b < 8) : (oI k = nI b) ↔ k = b := by
  unfold oI
  by_cases q : k = 8
  · rw [if_pos q]
    exact ⟨fun z => absurd z.symm (nI_nm1 (by omega)), fun z => by omega⟩
  · rw [if_neg q]
    exact nI_eq (by omega) (by omega)
theorem if_oI {T : Type} {k b : Nat} {X Y : T} (hk : k ≤ 8) (hb : b < 8) : (if oI k = nI b then X else Y) = if k = b then X else Y := if_iff (oI_q hk hb)
theorem isN_byte {b n : Nat} (hb : b < 256) : isN (nI b) n = decide (b < n) := isN_nI (by omega)
theorem c_fxL {S B : Nat → Nat} {σ : St} {N m : Nat} (h0 : S 0 ≤ 8) (hM : σ.1 3 2 = nI (S 0)) (hT : ∀ j, j < 2 * m → σ.1 2 j = nI (B j)) (hB : ∀ j, j < 2 * m → B j < 256) (hm : m ≤ 6) : ∀ n i, i ≤ m → m - i < n → fxOk S B i = true → f_X11_isFixTape_L28 N (nI (2 * m)) σ n (nI (2 * i)) = some (bI (fxOk S B m)) := by
  intro n
  induction n with
  | zero => intro i _ h; omega
  | succ n ih =>
    intro i hi hn hok
    rw [f_X11_isFixTape_L28, nI_addq, if_leq (by omega) (by omega)]
    by_cases hc : 2 * m ≤ 2 * i + 1
    · rw [if_pos hc]
      obtain rfl : i = m := by omega
      rw [hok]; rfl
    · have b1 := hB (2 * i) (by omega)
      have b2 := hB (2 * i + 1) (by omega)
      rw [if_neg hc, ald_q (by omega) (by decide), hT _ (by omega), c_isLight h0 hM, bp_q, if_bI, isN_byte b1, ald_q (by omega) (by decide), hT _ (by omega), if_ltq (by omega) (by decide), vl_q, nI_addq]
      have nope : ¬ (B (2 * i) < S 0 ∧ B (2 * i + 1) < 8) → fxOk S B m = false := fun z => allN_f (k := i + 1) (by
        unfold fxOk at hok
        simp only [allN, hok, Bool.true_and]
        by_cases w : B (2 * i) < S 0
        · rw [decide_eq_true w, decide_eq_false (fun y => z ⟨w, y⟩)]; rfl
        · rw [decide_eq_false w]; rfl) (by omega)
      by_cases q : B (2 * i) < S 0
      · rw [if_pos (decide_eq_true q)]
        by_cases z : B (2 * i + 1) < 8
        · rw [if_pos z, show 2 * i + 2 = 2 * (i + 1) by omega]
          exact ih (i + 1) (by omega) (by omega) (by unfold fxOk at hok ⊢; simp only [allN, hok, Bool.true_and, decide_eq_true q, decide_eq_true z])
        · rw [if_neg z, nope (fun w => z w.2)]; rfl
      · rw [if_neg (fun w => q (of_decide_eq_true w)), nope (fun w => q w.1)]; rfl
theorem m_fxL {S B : Nat → Nat} {τ : St} {N m : Nat} {k9 : Option (Int32 × St)} (hR : RS S τ) (h0 : S 0 ≤ 8) (h3 : τ.1 206 3 = nI (2 * m)) (hT : ∀ j, j < 2 * m → τ.1 207 j = sbt (B j)) (hB : ∀ j, j < 2 * m → B j < 256) (hm : m ≤ 6) : ∀ n i, i ≤ m → m - i < n → fxOk S B i = true → f_X12_fix_L39 N τ k9 n (nI (2 * i)) = if fxOk S B m = true then k9 else some (-1, τ) := by
  intro n
  induction n with
  | zero => intro i _ h; omega
  | succ n ih =>
    intro i hi hn hok
    rw [f_X12_fix_L39, vl_q, h3, if_leq (by omega) (by omega)]
    by_cases hc : 2 * m ≤ 2 * i
    · rw [if_pos hc]
      obtain rfl : i = m := by omega
      rw [if_pos hok]
    · have b1 := hB (2 * i) (by omega)
      have b2 := hB (2 * i + 1) (by omega)
      rw [if_neg hc, m_octet hT hB (by omega) (by omega), bp_q, m_isLight hR h0, bp_q, if_bI, isN_byte b1, nI_addq, m_octet hT hB (by omega) (by omega), bp_q, if_leq (by omega) (by decide), vl_q, nI_addq]
      have nope : ¬ (B (2 * i) < S 0 ∧ B (2 * i + 1) < 8) → fxOk S B m = false := fun z => allN_f (k := i + 1) (by
        unfold fxOk at hok
        simp only [allN, hok, Bool.true_and]
        by_cases w : B (2 * i) < S 0
        · rw [decide_eq_true w, decide_eq_false (fun y => z ⟨w, y⟩)]; rfl
        · rw [decide_eq_false w]; rfl) (by omega)
      by_cases q : B (2 * i) < S 0
      · rw [if_pos (decide_eq_true q)]
        by_cases z : B (2 * i + 1) ≤ 7
        · rw [if_pos z, show 2 * i + 2 = 2 * (i + 1) by omega]
          exact ih (i + 1) (by omega) (by omega) (by unfold fxOk at hok ⊢; simp only [allN, hok, Bool.true_and, decide_eq_true q, decide_eq_true (show B (2 * i + 1) < 8 by omega)])
        · rw [if_neg z, nope (fun w => z (by omega)), if_neg (by decide)]
      · rw [if_neg (fun w => q (of_decide_eq_true w)), nope (fun w => q w.1), if_neg (by decide)]
theorem fxOk_at {S B : Nat → Nat} {m i : Nat} (h : fxOk S B m = true) (hi : i < m) : B (2 * i) < S 0 ∧ B (2 * i + 1) < 8 := by
  unfold fxOk at h
  have := allN_iff.mp h i hi
  simp only [Bool.and_eq_true, decide_eq_true_eq] at this
  exact this
theorem sub_t {a b : Nat} (ha : a ≤ 1000) (hb : b ≤ 1000) : (nI a - nI b).toInt = (a : Int) - b := pk_sub_toInt (by omega) (by omega)
theorem c_lieL {S B : Nat → Nat} {σ : St} {N m c : Nat} (hC : WFC S) (hM : CRel σ 3 4 5 S) (h1 : σ.1 1 1 = nI (2 * m)) (hT : ∀ j, j < 2 * m → σ.1 2 j = nI (B j)) (hok : fxOk S B m = true) (hm : m ≤ 6) (hc : c < 400) : ∀ n i, i ≤ m → m - i < n → fxIn S B i c = true → f_X11_liesAsTaped_L2 N (nI (c % 20)) (nI (c / 20)) σ n (nI (2 * i)) = some (bI (fxIn S B m c)) := by
  have c1 := hC.1
  intro n
  induction n with
  | zero => intro i _ h; omega
  | succ n ih =>
    intro i hi hn hin
    rw [f_X11_liesAsTaped_L2, vl_q, h1, nI_addq, if_leq (by omega) (by omega)]
    by_cases hcc : 2 * m ≤ 2 * i + 1
    · rw [if_pos hcc]
      obtain rfl : i = m := by omega
      rw [hin]; rfl
    · obtain ⟨o1, o2⟩ := fxOk_at hok (show i < m by omega)
      obtain ⟨w1, w2, w3⟩ := hC.2.2.2.1 _ o1
      obtain ⟨r1, r2, r3⟩ := hM.2.2.2.1 _ o1
      have t1 := sub_t (a := c % 20) (b := S (3 + B (2 * i))) (by omega) (by omega)
      have t2 := sub_t (a := c / 20) (b := S (11 + B (2 * i))) (by omega) (by omega)
      have ho := octN_le (((c % 20 : Nat) : Int) - S (3 + B (2 * i))) (((c / 20 : Nat) : Int) - S (11 + B (2 * i)))
      rw [if_neg hcc, ald_q (by omega) (by decide), hT _ (by omega), ald_q (by omega) (by decide), vl_q, vl_q, r1, r2, c_octantOf (by rw [t1]; omega) (by rw [t2]; omega), bp_q, t1, t2, ald_q (by omega) (by decide), hT _ (by omega), if_oI ho o2, vl_q, nI_addq]
      by_cases z : octN (((c % 20 : Nat) : Int) - S (3 + B (2 * i))) (((c / 20 : Nat) : Int) - S (11 + B (2 * i))) = B (2 * i + 1)
      · rw [if_pos z, show 2 * i + 2 = 2 * (i + 1) by omega]
        exact ih (i + 1) (by omega) (by omega) (by unfold fxIn at hin ⊢; simp only [allN, hin, Bool.true_and]; exact decide_eq_true z)
      · rw [if_neg z, show fxIn S B m c = false from allN_f (k := i + 1) (by unfold fxIn at hin; simp only [allN, hin, Bool.true_and]; exact decide_eq_false z) (by omega)]; rfl
theorem m_lieL {S B : Nat → Nat} {τ : St} {N m c : Nat} {c26 c27 : Int32} {k32 : Int32 → Option (Int32 × St)} (hR : RS S τ) (hC : WFC S) (h3 : τ.1 206 3 = nI (2 * m)) (hT : ∀ j, j < 2 * m → τ.1 207 j = sbt (B j)) (hB : ∀ j, j < 2 * m → B j < 256) (hok : fxOk S B m = true) (hm : m ≤ 6) (hc : c < 400) : ∀ n i, i ≤ m → m - i < n → f_X12_fix_L97 N c26 c27 (nI c) τ k32 n (bI (fxIn S B i c)) (nI (2 * i)) = k32 (bI (fxIn S B m c)) := by
  have c1 := hC.1
  intro n
  induction n with
  | zero => intro i _ h; omega
  | succ n ih =>
    intro i hi hn
    rw [f_X12_fix_L97, vl_q, h3, if_leq (by omega) (by omega)]
    by_cases hcc : 2 * m ≤ 2 * i
    · rw [if_pos hcc]
      obtain rfl : i = m := by omega
      rfl
    · have ih' := ih (i + 1) (by omega) (by omega)
      rw [show 2 * (i + 1) = 2 * i + 2 by omega] at ih'
      rw [if_neg hcc, jn_q, jn_q, if_bI]
      by_cases q : fxIn S B i c = true
      · obtain ⟨o1, o2⟩ := fxOk_at hok (show i < m by omega)
        obtain ⟨w1, w2, w3⟩ := hC.2.2.2.1 _ o1
        have t1 := sub_t (a := c % 20) (b := S (3 + B (2 * i))) (by omega) (by omega)
        have t2 := sub_t (a := c / 20) (b := S (11 + B (2 * i))) (by omega) (by omega)
        have ho := octN_le (((c % 20 : Nat) : Int) - S (3 + B (2 * i))) (((c / 20 : Nat) : Int) - S (11 + B (2 * i)))
        rw [if_pos q, m_octet hT hB (by omega) (by omega), bp_q, rm_q (by omega) (by decide) (by decide), dv_q (by omega) (by decide) (by decide)]
        unfold f_X12_octantFrom
        rw [nI_addq, nI_addq, ald_S hR (by omega), ald_S hR (by omega), m_octantOf (by rw [t1]; omega) (by rw [t2]; omega), bp_q, bp_q, t1, t2, nI_addq, m_octet hT hB (by omega) (by omega), bp_q, if_oI ho o2]
        simp only [vl_q, nI_addq]
        by_cases z : octN (((c % 20 : Nat) : Int) - S (3 + B (2 * i))) (((c / 20 : Nat) : Int) - S (11 + B (2 * i))) = B (2 * i + 1)
        · rw [if_pos z]
          rw [show fxIn S B (i + 1) c = true from by unfold fxIn at q ⊢; simp only [allN, q, Bool.true_and]; exact decide_eq_true z] at ih'
          exact ih'
        · rw [if_neg z]
          rw [show fxIn S B (i + 1) c = false from by unfold fxIn at q ⊢; simp only [allN, q, Bool.true_and]; exact decide_eq_false z] at ih'
          exact ih'
      · rw [if_neg q]
        simp only [vl_q, nI_addq]
        rw [show fxIn S B (i + 1) c = false from by
          have q' := Bool.eq_false_iff.mpr q
          unfold fxIn at q' ⊢
          simp only [allN, q', Bool.false_and]] at ih'
        exact ih'
theorem c_fixL {S B : Nat → Nat} {σ : St} {N m : Nat} {k9 : Int32 → St → Option (Int32 × St)} (hl : ∀ c, c < 400 → ∀ s, Fr [0] σ s → f_X11_liesAsTaped N (nI (c % 20)) (nI (c / 20)) s = some (bI (fxIn S B m c))) : ∀ n j, j ≤ 400 → 400 - j < n → f_X11_fix_L15 N k9 n (nI (cD (fxIn S B m) j)) (dn j) (spS 19 σ (fxIn S B m) j) = k9 (nI (cD (fxIn S B m) 400)) (spS 19 σ (fxIn S B m) 400) := by
  intro n
  induction n with
  | zero => intro j _ h; omega
  | succ n ih =>
    intro j hj hn
    rw [f_X11_fix_L15]
    by_cases hc : j = 400
    · subst hc; rw [if_pos dn_end]
    · have hj' : j < 400 := by omega
      have := ih (j + 1) (by omega) (by omega)
      rw [dn_lt hj', if_lt0 (by omega), rm_q (by omega) (by decide) (by decide), dv_q (by omega) (by decide) (by decide), hl _ (by omega) _ spS_F, bp_q, jn_q, if_bI]
      simp only [vl_q]
      rw [← dn_lt hj', dn_s hj', dn_lt hj']
      by_cases z : fxIn S B m (399 - j) = true
      · rw [if_pos z, spS_s (k := 19) (p := fxIn S B m) z, nI_addq]
        rw [cD_s _ j, if_pos z] at this
        exact this
      · rw [if_neg z, spS_n (k := 19) (p := fxIn S B m) z]
        rw [cD_s _ j, if_neg z, Nat.add_zero] at this
        exact this
theorem m_fixL {S B : Nat → Nat} {τ : St} {N m : Nat} {k21 : Int32 → Int32 → Option (Int32 × St)} (hl : ∀ c, c < 400 → ∀ c26 c27 k, f_X12_fix_L97 N c26 c27 (nI c) τ k N (nI 1) (nI 0) = k (bI (fxIn S B m c))) : ∀ n j, j ≤ 400 → 400 - j < n → f_X12_fix_L87 N τ k21 n (nI (cD (fxIn S B m) j)) (nI (fD (fxIn S B m) j)) (dn j) = k21 (nI (cD (fxIn S B m) 400)) (nI (fD (fxIn S B m) 400)) := by
  intro n
  induction n with
  | zero => intro j _ h; omega
  | succ n ih =>
    intro j hj hn
    rw [f_X12_fix_L87]
    by_cases hc : j = 400
    · subst hc; rw [if_pos dn_end]
    · have hj' : j < 400 := by omega
      have := ih (j + 1) (by omega) (by omega)
      rw [dn_lt hj', if_lt0 (by omega), hl _ (by omega)]
      rw [jn_q, if_bI]
      simp only [vl_q]
      rw [← dn_lt hj', dn_s hj', dn_lt hj']
      by_cases z : fxIn S B m (399 - j) = true
      · rw [if_pos z, nI_addq]
        rw [cD_s _ j, fD_s _ j, if_pos z, if_pos z] at this
        exact this
      · rw [if_neg z]
        rw [cD_s _ j, fD_s _ j, if_neg z, if_neg z, Nat.add_zero] at this
        exact this
/-- as oneE; the tape is taken -/
def oneT (σ τ : St) (lim : Int32) (k a b : Nat) (x : Option (Int32 × St)) (y : Option (Int32 × St)) : Prop := (∃ r, x = some (r, sI σ 1 1 (nI 0)) ∧ y = some (r, tkS lim τ)) ∨ ∃ r v, x = some (r, sI (sI σ 0 k v) 1 1 (nI 0)) ∧ y = some (r, sI (sI (tkS lim τ) 206 a (nI 1)) 206 b v)
theorem k_fix {σ τ : St} {S : Nat → Nat} {u top N n : Nat} {H : Nat → Nat → Nat} {B : Nat → Nat} (hN : 1000 ≤ N) (hK : KRel σ τ S u top H) (hT : TapR σ τ n B) : oneT σ τ (nI 940) 19 36 34 (f_X11_fix N σ) (f_X12_fix N τ) := by
  have hh := hK
  obtain ⟨h1, h2, hW, h4, h5, h6, h7, h8⟩ := hh
  have c1 := h2.1
  have c2 := h2.2.1
  obtain ⟨t1, t2, t3, t4⟩ := hT
  have hR1 : RS S (tkS (nI 940) τ) := RS_o h1 (fun j => by rw [tk_c (by decide)])
  have e3 : (tkS (nI 940) τ).1 206 3 = nI n := by rw [tk_3]; exact t3.1
  unfold f_X11_fix f_X12_fix f_X11_isFixTape
  rw [vl_q, vl_q, m_taken, bp_q, vl_q, e3, m_isIn, bp_q, t2.1, if_eq0 (by omega), if_ltq (by decide) (by omega), rm_q (by omega) (by decide) (by decide), if_eq0 (by omega), if_bI, vl_q, rm_q (by omega) (by decide) (by decide), if_eqq (by omega) (by decide)]
  have e2 : (nI 2).toInt = 2 := rfl
  have e12 : (nI 12).toInt = 12 := rfl
  rw [e2, e12, nI_toInt (by omega)]
  by_cases q : 2 ≤ n ∧ n ≤ 12 ∧ n % 2 = 0
  · obtain ⟨m, rfl⟩ : ∃ m, n = 2 * m := ⟨n / 2, by omega⟩
    have a1 := c_fxL (σ := σ) (N := N) (m := m) c1 h5.1 t2.2 t4 (by omega) N 0 (by omega) (by omega) rfl
    have a2 := fun k9 => m_fxL (τ := tkS (nI 940) τ) (N := N) (m := m) (k9 := k9) hR1 c1 e3 (fun j hj => by rw [tk_c (by decide)]; exact t3.2 j hj) t4 (by omega) N 0 (by omega) (by omega) rfl
    have hq : decide ((2 : Int) ≤ ((2 * m : Nat) : Int) ∧ ((2 * m : Nat) : Int) ≤ 12) = true := decide_eq_true (by omega)
    rw [if_pos hq, if_neg (show ¬ 2 * m % 2 = 1 by omega), a2, if_neg (show ¬ 2 * m = 0 by omega), if_neg (show ¬ 12 < 2 * m by omega), if_pos (show 2 * m % 2 = 0 by omega), a1, bp_q, jn_q, if_bI]
    by_cases hok : fxOk S B m = true
    · rw [if_pos hok, if_pos hok]
      dsimp only
      have b1 := c_fixL (S := S) (B := B) (σ := σ) (N := N) (m := m) (k9 := fun (v23 : Int32) (s24 : St) => vl (sI s24 1 1 (nI 0)) fun s5 => some (v23, s5)) (fun c hc s hF => by
        have e1 : s.1 1 1 = nI (2 * m) := by rw [fr_row hF (j := 1) (by decide +kernel)]; exact t2.1
        exact c_lieL (σ := s) (N := N) h2 (CRel_fr hF (by decide) c1 c2 h5) e1 (fun j hj => by rw [fr_row hF (j := 2) (by decide +kernel)]; exact t2.2 j hj) hok (by omega) hc N 0 (by omega) (by omega) rfl) N 0 (by omega) (by omega)
      have b2 := m_fixL (S := S) (B := B) (τ := tkS (nI 940) τ) (N := N) (m := m) (k21 := fun (v52 : Int32) (v53 : Int32) => if v52 = 0 then some ((nI 0), tkS (nI 940) τ) else some (v52, sI (sI (tkS (nI 940) τ) 206 36 (nI 1)) 206 34 v53)) (fun c hc c26 c27 k => m_lieL (N := N) (m := m) (c := c) hR1 h2 e3 (fun j hj => by rw [tk_c (by decide)]; exact t3.2 j hj) t4 hok (by omega) hc N 0 (by omega) (by omega)) N 0 (by omega) (by omega)
      rw [show dn 0 = nI 399 from by decide, show spS 19 σ (fxIn S B m) 0 = σ from rfl, show nI (cD (fxIn S B m) 0) = nI 0 from rfl] at b1
      rw [show dn 0 = nI 399 from by decide, show nI (fD (fxIn S B m) 0) = nI 0 from rfl, show nI (cD (fxIn S B m) 0) = nI 0 from rfl] at b2
      have hcl := cD_le (fxIn S B m) 400
      rw [b1]
      refine (congrArg (oneT σ τ (nI 940) 19 36 34 _) b2).mpr ?_
      rw [vl_q, if_eq0 (by omega)]
      unfold spS
      by_cases z : cD (fxIn S B m) 400 = 0
      · rw [if_pos z, if_pos z, z]
        exact Or.inl ⟨_, rfl, rfl⟩
      · rw [if_neg z, if_neg z]
        exact Or.inr ⟨_, _, rfl, rfl⟩
    · rw [if_neg hok, if_neg hok]
      dsimp only
      exact Or.inl ⟨_, rfl, rfl⟩
  · have no : (if n = 0 then some (nI 0) else if 12 < n then some (nI 0) else if n % 2 = 0 then f_X11_isFixTape_L28 N (nI n) σ N (nI 0) else some (nI 0)) = some (nI 0) := by
      by_cases z : n = 0
      · rw [if_pos z]
      · rw [if_neg z]
        by_cases w : 12 < n
        · rw [if_pos w]
        · rw [if_neg w, if_neg (by omega)]
    rw [no, bp_q, jn_q, if_pos (by decide)]
    dsimp only
    rw [vl_q]
    by_cases z : (2 : Int) ≤ n ∧ (n : Int) ≤ 12
    · rw [if_pos (decide_eq_true z), if_pos (by omega)]
      exact Or.inl ⟨_, rfl, rfl⟩
    · rw [if_neg (fun w => z (of_decide_eq_true w))]
      exact Or.inl ⟨_, rfl, rfl⟩
