/-! what a light shows; apart, both: both sides -/
def shwS (S : Nat → Nat) (l p : Nat) : Nat := if onS S l p = true then S (27 + l) else 0
theorem shwS_mod (S : Nat → Nat) (l p : Nat) : shwS S l (p % perS S l) = shwS S l p := by unfold shwS; rw [onS_mod]
theorem shwS_le {S : Nat → Nat} {l : Nat} (h : WFl S l) (p : Nat) : shwS S l p ≤ 3 := by
  have := h.2.2.2.1
  unfold shwS
  split <;> omega
theorem m_showsAt {S : Nat → Nat} {τ : St} {N l p : Nat} (hN : 10 ≤ N) (hR : RS S τ) (hl : l < 8) (h : WFl S l) (hp : p < 2147483648) : f_X12_showsAt N (nI l) (nI p) τ = some (nI (shwS S l p)) := by
  unfold f_X12_showsAt shwS
  rw [m_isOn hN hR hl h hp, bp_q, if_bI, nI_addq]
  split
  · rw [ald_S hR (by omega)]
  · rfl
theorem c_shownAt {S : Nat → Nat} {σ : St} {a l p : Nat} (h : WFl S l) (hL : LRel σ a S l) (hp : p < 2147483648) : f_X4_shownAt a (nI p) σ = some (nI (shwS S l p)) := by
  obtain ⟨r1, r2, r3, r4, r5, r6, r8, r9, r10, r11⟩ := hL
  have hle := perS_le h
  have hm := Nat.mod_lt p (perS_pos S l)
  unfold f_X4_shownAt
  simp only [vl_q]
  rw [r10, c_remainder hp (perS_pos S l) (by omega), bp_q, ald_q (by omega) (by decide), r11 _ hm, onS_mod, if_bI, r4]
  unfold shwS
  split <;> rfl
theorem plS_s (S : Nat → Nat) (l n : Nat) : (if plS S l n + 1 < perS S l then plS S l n + 1 else 0) = plS S l (n + 1) := by
  unfold plS
  rw [mod_step (perS_pos S l)]
  congr 1
  omega
theorem c_behind {S : Nat → Nat} {σ : St} {a l n : Nat} (h : WFl S l) (hL : LRel σ a S l) : f_X4_placeBehind a (nI (plS S l n)) σ = some (nI (plS S l (n + 1))) := by
  have hle := perS_le h
  have hpl := plS_lt S l n
  rw [c_placeBehind (S := S) (l := l) (by omega) hL.2.2.2.2.2.2.2.2.1 hle, plS_s]
/-- how many of the first n hold in a row -/
def ldN (p : Nat → Bool) : Nat → Nat
  | 0 => 0
  | n + 1 => if ldN p n = n ∧ p n = true then n + 1 else ldN p n
theorem ldN_le (p : Nat → Bool) : ∀ n, ldN p n ≤ n
  | 0 => Nat.le_refl _
  | n + 1 => by have := ldN_le p n; simp only [ldN]; split <;> omega
theorem ldN_iff (p : Nat → Bool) : ∀ n j, j ≤ n → (allN p j = true ↔ j ≤ ldN p n)
  | 0, j, hj => by
    obtain rfl : j = 0 := by omega
    simp [allN, ldN]
  | n + 1, j, hj => by
    have hl := ldN_le p n
    have e := ldN_iff p n
    by_cases q : j ≤ n
    · rw [e j q]
      simp only [ldN]
      split
      · omega
      · exact Iff.rfl
    · obtain rfl : j = n + 1 := by omega
      simp only [allN, Bool.and_eq_true, ldN]
      rw [e n (Nat.le_refl _)]
      constructor
      · intro h
        rw [if_pos ⟨by omega, h.2⟩]
        exact Nat.le_refl _
      · intro h
        split at h
        · next z => exact ⟨by omega, z.2⟩
        · omega
theorem ldN_eq {p : Nat → Bool} {n j : Nat} (hj : j < n) (h : allN p j = true) (hp : p j = false) : ldN p n = j := by
  have h1 := (ldN_iff p n j (by omega)).mp h
  have h2 : ¬ j + 1 ≤ ldN p n := fun z => by
    have := (ldN_iff p n (j + 1) (by omega)).mpr z
    simp only [allN, hp, Bool.and_false] at this
    cases this
  omega
/-- in second j l shows what m shows at k + j -/
def eqE (S : Nat → Nat) (l m k j : Nat) : Bool := decide (shwS S l (plS S l j) = shwS S m (k + j))
theorem c_samL {S : Nat → Nat} {σ : St} {N a b l m f : Nat} (h : WFl S l) (h' : WFl S m) (hA : LRel σ a S l) (hB : LRel σ b S m) : ∀ n j, j ≤ 400 → 400 - j < n → allN (eqE S l m f) j = true → f_X4_sameFor_L9 N a b σ n (nI (plS S l j)) (nI ((f + j) % perS S m)) (nI j) = some (nI (ldN (eqE S l m f) 400)) := by
  intro n
  induction n with
  | zero => intro j _ h; omega
  | succ n ih =>
    intro j hj hn ha
    have p1 := perS_le h
    have p2 := perS_le h'
    have hpl := plS_lt S l j
    have pm := perS_pos S m
    have hm := Nat.mod_lt (f + j) pm
    have s1 := shwS_le h (plS S l j)
    have s2 := shwS_le h' (f + j)
    rw [f_X4_sameFor_L9, if_leq (by decide) (by omega)]
    by_cases hc : 400 ≤ j
    · rw [if_pos hc]
      obtain rfl : j = 400 := by omega
      have := (ldN_iff (eqE S l m f) 400 400 (Nat.le_refl _)).mp ha
      have := ldN_le (eqE S l m f) 400
      rw [show ldN (eqE S l m f) 400 = 400 by omega]
    · rw [if_neg hc, c_shownAt h hA (by omega), bp_q, c_shownAt h' hB (by omega), bp_q, shwS_mod, if_eqq (by omega) (by omega)]
      by_cases z : shwS S l (plS S l j) = shwS S m (f + j)
      · rw [if_pos z, c_behind h hA, bp_q, c_placeBehind (S := S) (l := m) (by omega) hB.2.2.2.2.2.2.2.2.1 p2, mod_step pm, bp_q]
        simp only [vl_q, nI_addq]
        exact ih (j + 1) (by omega) (by omega) (by simp only [allN, ha, Bool.true_and]; exact decide_eq_true z)
      · rw [if_neg z, ldN_eq (by omega) ha (decide_eq_false z)]
def mxN (g : Nat → Nat) : Nat → Nat
  | 0 => 0
  | n + 1 => max (mxN g n) (g n)
theorem mxN_iff {g : Nat → Nat} {t : Nat} (ht : 0 < t) : ∀ n, t ≤ mxN g n ↔ ∃ k, k < n ∧ t ≤ g k
  | 0 => by simp only [mxN]; exact ⟨fun h => by omega, fun ⟨k, h, _⟩ => by omega⟩
  | n + 1 => by
    have ih := mxN_iff (g := g) ht n
    simp only [mxN]
    constructor
    · intro h
      by_cases q : t ≤ mxN g n
      · obtain ⟨k, h1, h2⟩ := ih.mp q
        exact ⟨k, by omega, h2⟩
      · exact ⟨n, by omega, by omega⟩
    · rintro ⟨k, h1, h2⟩
      by_cases q : k = n
      · subst q; omega
      · have := ih.mpr ⟨k, by omega, h2⟩
        omega
theorem mxN_le {g : Nat → Nat} {b : Nat} (h : ∀ k, g k ≤ b) : ∀ n, mxN g n ≤ b
  | 0 => Nat.zero_le _
  | n + 1 => by have := mxN_le h n; have := h n; simp only [mxN]; omega
theorem mx_q {a b : Nat} (ha : a < 100000) (hb : b < 100000) : mx (nI a) (nI b) = nI (max a b) := by
  unfold mx
  rw [if_ltq (by omega) (by omega)]
  split
  · rw [Nat.max_eq_right (by omega)]
  · rw [Nat.max_eq_left (by omega)]
def aptS (S : Nat → Nat) (l m : Nat) : Nat := mxN (fun k => ldN (eqE S l m k) 400) (perS S m)
theorem aptS_le (S : Nat → Nat) (l m : Nat) : aptS S l m ≤ 400 := mxN_le (fun k => ldN_le _ _) _
theorem c_apL {S : Nat → Nat} {σ : St} {N l m : Nat} {k7 : Int32 → Option Int32} (hN : 1000 ≤ N) (hC : WFC S) (hW : WFW S) (hM : CRel σ 3 4 5 S) (hS : SRel σ 49 S) (hl : l < S 0) (hm : m < S 0) : ∀ n f, f ≤ perS S m → perS S m - f < n → f_X11_apart_L23 N (nI l) (nI m) σ k7 n (nI (mxN (fun k => ldN (eqE S l m k) 400) f)) (nI f) = k7 (nI (aptS S l m)) := by
  have c1 := hC.1
  have wl := hC.2.2.2.1 l hl
  have wm := hC.2.2.2.1 m hm
  have p2 := perS_le wm
  intro n
  induction n with
  | zero => intro j _ h; omega
  | succ n ih =>
    intro f hf hn
    have hmx := mxN_le (g := fun k => ldN (eqE S l m k) 400) (b := 400) (fun k => ldN_le _ _) f
    have hld := ldN_le (eqE S l m f) 400
    rw [f_X11_apart_L23, ald_q (by omega) (by decide), vl_q, (hM.2.2.2.1 m hm).2.2.2.2.2.2.2.2.1, if_leq (by omega) (by omega)]
    by_cases hc : perS S m ≤ f
    · rw [if_pos hc]
      obtain rfl : f = perS S m := by omega
      rfl
    · rw [if_neg hc, ald_q (by omega) (by decide), c_placeOf hC hW hM hS hl, bp_q, ald_q (by omega) (by decide)]
      have e := c_samL (σ := σ) (N := N) (f := f) wl wm (hM.2.2.2.1 l hl) (hM.2.2.2.1 m hm) N 0 (by omega) (by omega) rfl
      rw [Nat.add_zero, Nat.mod_eq_of_lt (by omega)] at e
      unfold f_X4_sameFor
      rw [e, bp_q]
      simp only [vl_q, nI_addq]
      rw [mx_q (by omega) (by omega)]
      exact ih (f + 1) (by omega) (by omega)
theorem bI_and1 (b : Bool) : bI b &&& 1 = bI b := by cases b <;> decide
theorem m_apL32 {N B : Nat} {c5 c6 : Int32} {k10 : St → Option (Int32 × St)} (hB : B ≤ 160) : ∀ n k (τ : St), k ≤ B → B - k < n → (∀ j, j < k → τ.1 216 j = nI 1) → ∃ τ', f_X12_apart_L32 N c5 c6 (nI B) k10 n (nI k) τ = k10 τ' ∧ (∀ j, j < B → τ'.1 216 j = nI 1) ∧ Fr [216] τ τ' := by
  intro n
  induction n with
  | zero => intro k τ _ h; omega
  | succ n ih =>
    intro k τ hk hn hj
    rw [f_X12_apart_L32, if_leq (by omega) (by omega)]
    by_cases hc : B ≤ k
    · rw [if_pos hc]
      exact ⟨τ, rfl, fun j h => hj j (by omega), Fr.rf⟩
    · rw [if_neg hc, ald_q (by omega) (by decide), vl_q, nI_addq]
      obtain ⟨τ', e, r, f⟩ := ih (k + 1) (sI τ 216 k ((nI 1) &&& 1)) (by omega) (by omega) (fun j h => by
        rw [sI1, if_pos rfl]
        by_cases q : j = k
        · rw [if_pos q]; decide
        · rw [if_neg q]; exact hj j (by omega))
      exact ⟨τ', e, r, (Fr.rf.sI (by decide +kernel)).trans f⟩
theorem m_apL85 {S : Nat → Nat} {N l m B s t : Nat} {c26 : Int32} {k34 : Int32 → St → Option (Int32 × St)} (hN : 10 ≤ N) (hm : m < 8) (h' : WFl S m) (hB : B ≤ 160) (ht : t ≤ 400) (hs : s = shwS S l (plS S l t)) (hs3 : s ≤ 3) : ∀ n k (τ : St), k ≤ B → B - k < n → RS S τ → (∀ j, j < B → τ.1 216 j = bI (if j < k then allN (eqE S l m j) (t + 1) else allN (eqE S l m j) t)) → ∃ τ', f_X12_apart_L85 N c26 (nI m) (nI B) (nI (t + 1)) (nI s) k34 n (bI (anyN (fun j => allN (eqE S l m j) (t + 1)) k)) (nI k) τ = k34 (bI (anyN (fun j => allN (eqE S l m j) (t + 1)) B)) τ' ∧ (∀ j, j < B → τ'.1 216 j = bI (allN (eqE S l m j) (t + 1))) ∧ Fr [216] τ τ' := by
  intro n
  induction n with
  | zero => intro k τ _ h; omega
  | succ n ih =>
    intro k τ hk hn hR hj
    rw [f_X12_apart_L85, if_leq (by omega) (by omega)]
    by_cases hc : B ≤ k
    · rw [if_pos hc]
      obtain rfl : k = B := by omega
      exact ⟨τ, rfl, fun j h => by rw [hj j h, if_pos h], Fr.rf⟩
    · have hk' : k < B := by omega
      rw [if_neg hc, ald_q (by omega) (by decide), hj k hk', if_neg (Nat.lt_irrefl k)]
      have s2 := shwS_le h' (k + t)
      -- what is stored
      have fin : ∀ b : Bool, b = allN (eqE S l m k) (t + 1) → ∃ τ', (ald (fun j => sI τ 216 j (bI b &&& 1)) 160 (nI k) fun s42 =>
          jn (fun (v43 : Int32) => vl (nI k + nI 1) fun v45 => f_X12_apart_L85 N c26 (nI m) (nI B) (nI (t + 1)) (nI s) k34 n v43 v45 s42) fun j44 =>
          jn (j44 (nI 1)) fun j46 =>
          if bI (anyN (fun j => allN (eqE S l m j) (t + 1)) k) = 0 then
            ald (s42.1 216) 160 (nI k) fun v47 => if v47 = 0 then j44 (nI 0) else j46
          else j46) = k34 (bI (anyN (fun j => allN (eqE S l m j) (t + 1)) B)) τ' ∧ (∀ j, j < B → τ'.1 216 j = bI (allN (eqE S l m j) (t + 1))) ∧ Fr [216] τ τ' := by
        intro b hb
        rw [ald_q (by omega) (by decide), bI_and1]
        simp only [jn_q, vl_q]
        rw [ald_q (by omega) (by decide), nI_addq, if_bI, sI1, if_pos rfl, if_pos rfl, if_bI]
        obtain ⟨τ', e, r, f⟩ := ih (k + 1) (sI τ 216 k (bI b)) (by omega) (by omega) (RS_o hR (fun j => by rw [sI1, if_neg (by decide)])) (fun j h => by
          rw [sI1, if_pos rfl]
          by_cases q : j = k
          · rw [if_pos q, if_pos (by omega), q, hb]
          · rw [if_neg q, hj j h]
            by_cases z : j < k
            · rw [if_pos z, if_pos (by omega)]
            · rw [if_neg z, if_neg (by omega)])
        refine ⟨τ', ?_, r, (Fr.rf.sI (by decide +kernel)).trans f⟩
        rw [← e]
        simp only [anyN, ← hb]
        cases anyN (fun j => allN (eqE S l m j) (t + 1)) k <;> cases b <;> rfl
      simp only [jn_q (α := Option (Int32 × St))] at fin ⊢
      rw [jn_q, if_bI]
      rcases Bool.eq_false_or_eq_true (allN (eqE S l m k) t) with q | q
      · rw [if_pos q, nI_addq, nI_subq (by omega), show k + (t + 1) - 1 = k + t by omega, m_showsAt hN hR hm h' (by omega), bp_q, if_eqq (by omega) (by omega)]
        by_cases z : shwS S m (k + t) = s
        · rw [if_pos z]
          have hb : true = allN (eqE S l m k) (t + 1) := by simp only [allN, q, Bool.true_and]; exact (decide_eq_true (by rw [← hs, z])).symm
          have := fin true hb
          rw [bI_t] at this
          exact this
        · rw [if_neg z]
          have hb : false = allN (eqE S l m k) (t + 1) := by simp only [allN, q, Bool.true_and]; exact (decide_eq_false (by rw [← hs]; exact fun w => z w.symm)).symm
          have := fin false hb
          rw [bI_f] at this
          exact this
      · rw [if_neg (by rw [q]; decide)]
        have hb : false = allN (eqE S l m k) (t + 1) := by simp only [allN, q, Bool.false_and]
        have := fin false hb
        rw [bI_f] at this
        exact this
theorem m_apL55 {S : Nat → Nat} {N l m : Nat} (hN : 1000 ≤ N) (hC : WFC S) (hW : WFW S) (hl : l < S 0) (hm : m < S 0) : ∀ n t (τ : St), t ≤ 400 → 400 - t < n → RS S τ → t ≤ aptS S l m → (∀ j, j < perS S m → τ.1 216 j = bI (allN (eqE S l m j) t)) → ∃ τ', f_X12_apart_L55 N (nI l) (nI m) (nI (perS S m)) n (nI (t + 1)) τ = some (if aptS S l m < 400 then nI (aptS S l m + 1) else -1, τ') := by
  have c1 := hC.1
  have wl := hC.2.2.2.1 l hl
  have wm := hC.2.2.2.1 m hm
  have p1 := perS_le wl
  have p2 := perS_le wm
  have ha4 := aptS_le S l m
  intro n
  induction n with
  | zero => intro t τ _ h; omega
  | succ n ih =>
    intro t τ ht hn hR ha hj
    rw [f_X12_apart_L55, if_ltq (by decide) (by omega)]
    by_cases hc : 400 < t + 1
    · rw [if_pos hc, if_neg (by omega)]
      exact ⟨τ, rfl⟩
    · have hpl := plS_lt S l t
      have hsl := shwS_le wl (plS S l t)
      rw [if_neg hc, nI_subq (by omega), show t + 1 - 1 = t by omega, m_placeIn (by omega) hR (by omega) wl hW.1 (hW.2.2.2.1 l hl).2 (by omega), bp_q, m_showsAt (by omega) hR (by omega) wl (by omega), bp_q]
      obtain ⟨τ1, e1, r1, f1⟩ := m_apL85 (N := N) (l := l) (m := m) (B := perS S m) (t := t) (c26 := nI l) (k34 := fun (v50 : Int32) (s51 : St) =>
        if v50 = 0 then some (nI (t + 1), s51) else vl (nI (t + 1) + nI 1) fun v52 => f_X12_apart_L55 N (nI l) (nI m) (nI (perS S m)) n v52 s51) (by omega) (by omega) wm p2 (by omega) rfl hsl N 0 τ (by omega) (by omega) hR (fun j h => by rw [if_neg (by omega)]; exact hj j h)
      rw [show bI (anyN (fun j => allN (eqE S l m j) (t + 1)) 0) = nI 0 from rfl] at e1
      rw [e1, if_bI]
      have key : anyN (fun j => allN (eqE S l m j) (t + 1)) (perS S m) = true ↔ t + 1 ≤ aptS S l m := by
        unfold aptS
        rw [mxN_iff (by omega), anyN_iff]
        constructor
        · rintro ⟨k, h1, h2⟩; exact ⟨k, h1, (ldN_iff _ 400 (t + 1) (by omega)).mp h2⟩
        · rintro ⟨k, h1, h2⟩; exact ⟨k, h1, (ldN_iff _ 400 (t + 1) (by omega)).mpr h2⟩
      by_cases z : t + 1 ≤ aptS S l m
      · rw [if_pos (key.mpr z), vl_q, nI_addq]
        exact ih (t + 1) τ1 (by omega) (by omega) (RS_o hR (fun j => by rw [fr_row f1 (by decide +kernel)])) z r1
      · rw [if_neg (fun w => z (key.mp w)), if_pos (by omega), show aptS S l m = t by omega]
        exact ⟨τ1, rfl⟩
/-- the class reads; the model writes into rows of its own -/
theorem KRel_m {σ τ τ' : St} {S : Nat → Nat} {u top : Nat} {H : Nat → Nat → Nat} (h : KRel σ τ S u top H) (e8 : τ'.1 208 = τ.1 208) (e24 : τ'.1 206 24 = τ.1 206 24) (e13 : τ'.1 213 = τ.1 213) : KRel σ τ' S u top H := by
  obtain ⟨h1, h2, h3, h4, h5, h6, h7, h8⟩ := h
  exact ⟨RS_o h1 (fun j => by rw [e8]), h2, h3, h4, h5, h6, h7, PRel_fr h8 Fr.rf List.not_mem_nil (fun _ _ => List.not_mem_nil) e24 e13⟩
theorem k_apart {σ τ : St} {S : Nat → Nat} {u top N : Nat} {H : Nat → Nat → Nat} (hN : 1000 ≤ N) (hK : KRel σ τ S u top H) (x y : Int32) : ∃ r τ', f_X11_apart N x y σ = some r ∧ f_X12_apart N x y τ = some (r, τ') := by
  have hh := hK
  obtain ⟨h1, h2, hW, h4, h5, h6, h7, h8⟩ := hh
  have c1 := h2.1
  have hR0 := (KRel_thr hK (nI 0)).1
  unfold f_X11_apart f_X12_apart
  rw [c_isLight c1 h5.1 x, bp_q, if_bI, vl_q, m_isLight hR0 c1 x, bp_q, if_bI]
  by_cases hx : isN x (S 0) = true
  · obtain ⟨l, hl, rfl⟩ := isN_e hx (by omega)
    rw [if_pos hx, if_pos hx, c_isLight c1 h5.1 y, bp_q, if_bI, m_isLight hR0 c1 y, bp_q, if_bI]
    by_cases hy : isN y (S 0) = true
    · obtain ⟨m, hm, rfl⟩ := isN_e hy (by omega)
      have wm := h2.2.2.2.1 m hm
      have p2 := perS_le wm
      have ha4 := aptS_le S l m
      rw [if_pos hy, if_pos hy, m_periodOf (by omega) hR0 (by omega) wm, bp_q]
      have ec := c_apL (σ := σ) (N := N) (k7 := fun (v22 : Int32) => if (nI 400) ≤ v22 then some (-1) else some (v22 + (nI 1))) hN h2 hW h5 h7 hl hm N 0 (by omega) (by omega)
      rw [show nI (mxN (fun k => ldN (eqE S l m k) 400) 0) = nI 0 from rfl] at ec
      rw [ec, if_leq (by decide) (by omega), nI_addq]
      obtain ⟨τ1, e1, r1, f1⟩ := m_apL32 (N := N) (B := perS S m) (c5 := nI l) (c6 := nI m) (k10 := fun (s16 : St) => f_X12_apart_L55 N (nI l) (nI m) (nI (perS S m)) N (nI 1) s16) p2 N 0 (sI τ 206 0 (nI 0)) (by omega) (by omega) (fun j h => by omega)
      obtain ⟨τ2, e2⟩ := m_apL55 (N := N) hN h2 hW hl hm N 0 τ1 (by omega) (by omega) (RS_o hR0 (fun j => by rw [fr_row f1 (by decide +kernel)])) (Nat.zero_le _) (fun j h => by rw [r1 j h]; rfl)
      rw [e1, e2]
      refine ⟨_, τ2, ?_, rfl⟩
      by_cases z : aptS S l m < 400
      · rw [if_neg (by omega), if_pos z]
      · rw [if_pos (by omega), if_neg z]
    · rw [if_neg hy, if_neg hy]
      exact ⟨_, _, rfl, rfl⟩
  · rw [if_neg hx, if_neg hx]
    exact ⟨_, _, rfl, rfl⟩
/-! both -/
def botP (S : Nat → Nat) (l m n : Nat) : Bool := onS S l (plS S l n) && onS S m (plS S m n)
/-- the first from n on, of f -/
def fstF (p : Nat → Bool) : Nat → Nat → Int32
  | 0, _ => -1
  | f + 1, n => if p n = true then nI n else fstF p f (n + 1)
theorem fstF_hit {p : Nat → Bool} : ∀ {f n k : Nat}, n ≤ k → k < n + f → p k = true → (∀ j, n ≤ j → j < k → p j = false) → fstF p f n = nI k
  | 0, n, k, h1, h2, _, _ => by omega
  | f + 1, n, k, h1, h2, h3, h4 => by
    simp only [fstF]
    by_cases q : n = k
    · rw [q, if_pos h3]
    · rw [if_neg (by rw [h4 n (Nat.le_refl _) (by omega)]; decide)]
      exact fstF_hit (by omega) (by omega) h3 (fun j a b => h4 j (by omega) b)
theorem fstF_no {p : Nat → Bool} : ∀ {f n : Nat}, (∀ j, n ≤ j → j < n + f → p j = false) → fstF p f n = -1
  | 0, _, _ => rfl
  | f + 1, n, h => by
    simp only [fstF]
    rw [if_neg (by rw [h n (Nat.le_refl _) (by omega)]; decide)]
    exact fstF_no (fun j a b => h j (by omega) (by omega))
theorem plS_per {S : Nat → Nat} {l T : Nat} (h : plS S l T = plS S l 0) : ∀ n, plS S l (n + T) = plS S l n
  | 0 => by rw [Nat.zero_add]; exact h
  | n + 1 => by rw [show n + 1 + T = (n + T) + 1 by omega, ← plS_s, ← plS_s, plS_per h n]
theorem plS_mod {S : Nat → Nat} {l T : Nat} (h0 : 0 < T) (h : plS S l T = plS S l 0) (n : Nat) : plS S l n = plS S l (n % T) := by
  have key : ∀ q r, plS S l (r + T * q) = plS S l r := by
    intro q
    induction q with
    | zero => intro r; rfl
    | succ q ih => intro r; rw [show r + T * (q + 1) = (r + T * q) + T by rw [Nat.mul_succ]; omega, plS_per h, ih]
  have := key (n / T) (n % T)
  rw [Nat.mod_add_div] at this
  exact this
theorem bot_no {S : Nat → Nat} {l m T : Nat} (h0 : 0 < T) (h1 : plS S l T = plS S l 0) (h2 : plS S m T = plS S m 0) (h : ∀ k, k < T → botP S l m k = false) (k : Nat) : botP S l m k = false := by
  have := h (k % T) (Nat.mod_lt _ h0)
  unfold botP at this ⊢
  rw [plS_mod h0 h1 k, plS_mod h0 h2 k]
  exact this
theorem plS_mul {S : Nat → Nat} {l k : Nat} : plS S l (perS S l * k) = plS S l 0 := by
  unfold plS
  rw [show S 147 + perS S l * k + S (158 + l) = S 147 + 0 + S (158 + l) + perS S l * k by omega, Nat.add_mul_mod_self_left]
theorem c_botL {S : Nat → Nat} {σ : St} {N l m : Nat} (hC : WFC S) (hW : WFW S) (hM : CRel σ 3 4 5 S) (hS : SRel σ 49 S) (hl : l < S 0) (hm : m < S 0) : ∀ n t, t ≤ perS S l * perS S m → perS S l * perS S m - t < n → (∀ k, k < t → botP S l m k = false) → f_X11_both_L62 N (nI l) (nI m) (rr 4 l) (rr 4 m) σ n (nI (plS S l t)) (nI (plS S m t)) (nI t) = some (fstF (botP S l m) 25600 0) := by
  have c1 := hC.1
  have wl := hC.2.2.2.1 l hl
  have wm := hC.2.2.2.1 m hm
  have p1 := perS_le wl
  have p2 := perS_le wm
  have q1 := perS_pos S l
  have q2 := perS_pos S m
  have hAB : perS S l * perS S m ≤ 25600 := Nat.le_trans (Nat.mul_le_mul p1 p2) (by decide)
  have hAB0 : 0 < perS S l * perS S m := Nat.mul_pos q1 q2
  have hA := hM.2.2.2.1 l hl
  have hB := hM.2.2.2.1 m hm
  intro n
  induction n with
  | zero => intro t _ h; omega
  | succ n ih =>
    intro t ht hn hk
    have x1 := plS_lt S l t
    have x2 := plS_lt S m t
    have y1 := plS_lt S l (t + 1)
    have y2 := plS_lt S m (t + 1)
    have z1 := plS_lt S l 0
    have z2 := plS_lt S m 0
    rw [f_X11_both_L62]
    simp only [vl_q]
    rw [hA.2.2.2.2.2.2.2.2.1, hB.2.2.2.2.2.2.2.2.1, nI_mulq, if_leq (by omega) (by omega)]
    by_cases hc : perS S l * perS S m ≤ t
    · rw [if_pos hc]
      have := fstF_no (p := botP S l m) (f := 25600) (n := 0) (fun j _ _ => bot_no hAB0 plS_mul (by rw [Nat.mul_comm]; exact plS_mul) (fun k hk' => hk k (by omega)) j)
      rw [this]
    · rw [if_neg hc, ald_q (by omega) (by decide), hA.2.2.2.2.2.2.2.2.2 _ x1]
      have step : (botP S l m t = false) → (bp (f_X4_placeBehind (rr 4 l) (nI (plS S l t)) σ) fun v22 => bp (f_X4_placeBehind (rr 4 m) (nI (plS S m t)) σ) fun v23 => bp (f_X6_placeOf 49 (nI l) σ) fun v24 => jn (f_X11_both_L62 N (nI l) (nI m) (rr 4 l) (rr 4 m) σ n v22 v23 (nI t + nI 1)) fun j25 => if v22 = v24 then bp (f_X6_placeOf 49 (nI m) σ) fun v27 => if v23 = v27 then some (-1) else j25 else j25) = some (fstF (botP S l m) 25600 0) := by
        intro hf
        have hk2 : ∀ k, k < t + 1 → botP S l m k = false := fun k hk' => by
          by_cases e : k = t
          · rw [e]; exact hf
          · exact hk k (by omega)
        have := ih (t + 1) (by omega) (by omega) hk2
        rw [c_behind wl hA, bp_q, c_behind wm hB, bp_q, c_placeOf hC hW hM hS hl, bp_q, jn_q, if_eqq (by omega) (by omega), nI_addq]
        by_cases w : plS S l (t + 1) = plS S l 0
        · rw [if_pos w, c_placeOf hC hW hM hS hm, bp_q, if_eqq (by omega) (by omega)]
          by_cases w' : plS S m (t + 1) = plS S m 0
          · rw [if_pos w', fstF_no (p := botP S l m) (f := 25600) (n := 0) (fun j _ _ => bot_no (by omega) w w' hk2 j)]
          · rw [if_neg w']; exact this
        · rw [if_neg w]; exact this
      rw [jn_q, if_bI]
      rcases Bool.eq_false_or_eq_true (onS S l (plS S l t)) with q | q
      · rw [if_pos q, ald_q (by omega) (by decide), hB.2.2.2.2.2.2.2.2.2 _ x2, if_bI]
        rcases Bool.eq_false_or_eq_true (onS S m (plS S m t)) with z | z
        · rw [if_pos z, fstF_hit (k := t) (Nat.zero_le _) (by omega) (by unfold botP; rw [q, z]; rfl) (fun j _ h => hk j h)]
        · rw [if_neg (by rw [z]; decide)]
          exact step (by unfold botP; rw [z, Bool.and_false])
      · rw [if_neg (by rw [q]; decide)]
        exact step (by unfold botP; rw [q, Bool.false_and])
theorem m_botL {S : Nat → Nat} {τ : St} {N l m : Nat} (hN : 10 ≤ N) (hR : RS S τ) (hC : WFC S) (hW : WFW S) (hl : l < S 0) (hm : m < S 0) : ∀ n t, t ≤ 25600 → 25600 - t < n → f_X12_both_L25 N (nI l) (nI m) τ n (nI t) = some (fstF (botP S l m) (25600 - t) t, τ) := by
  have c1 := hC.1
  have wl := hC.2.2.2.1 l hl
  have wm := hC.2.2.2.1 m hm
  have p1 := perS_le wl
  have p2 := perS_le wm
  intro n
  induction n with
  | zero => intro t _ h; omega
  | succ n ih =>
    intro t ht hn
    have x1 := plS_lt S l t
    have x2 := plS_lt S m t
    rw [f_X12_both_L25, if_leq (by omega) (by omega)]
    by_cases hc : 25600 ≤ t
    · rw [if_pos hc, show 25600 - t = 0 by omega]; rfl
    · have := ih (t + 1) (by omega) (by omega)
      rw [if_neg hc, m_placeIn hN hR (by omega) wl hW.1 (hW.2.2.2.1 l hl).2 (by omega), bp_q, m_isOn hN hR (by omega) wl (by omega), bp_q, jn_q, if_bI, m_placeIn hN hR (by omega) wm hW.1 (hW.2.2.2.1 m hm).2 (by omega), bp_q, m_isOn hN hR (by omega) wm (by omega), bp_q, if_bI, vl_q, nI_addq, this]
      rw [show 25600 - t = (25600 - (t + 1)) + 1 by omega]
      simp only [fstF]
      unfold botP
      rcases Bool.eq_false_or_eq_true (onS S l (plS S l t)) with q | q
      · rw [if_pos q, q, Bool.true_and]
        rcases Bool.eq_false_or_eq_true (onS S m (plS S m t)) with z | z
        · rw [if_pos z, if_pos z]
        · rw [if_neg (by rw [z]; decide), if_neg (by rw [z]; decide)]
      · rw [if_neg (by rw [q]; decide), q, Bool.false_and, if_neg (by decide)]
theorem k_both {σ τ : St} {S : Nat → Nat} {u top N : Nat} {H : Nat → Nat → Nat} (hN : 30000 ≤ N) (hK : KRel σ τ S u top H) (x y : Int32) : rdE τ (f_X11_both N x y σ) (f_X12_both N x y τ) := by
  have hh := hK
  obtain ⟨h1, h2, hW, h4, h5, h6, h7, h8⟩ := hh
  have c1 := h2.1
  have hR0 := (KRel_thr hK (nI 0)).1
  unfold f_X11_both f_X12_both
  rw [c_isLight c1 h5.1 x, bp_q, if_bI, vl_q, m_isLight hR0 c1 x, bp_q, if_bI]
  by_cases hx : isN x (S 0) = true
  · obtain ⟨l, hl, rfl⟩ := isN_e hx (by omega)
    rw [if_pos hx, if_pos hx, c_isLight c1 h5.1 y, bp_q, if_bI, m_isLight hR0 c1 y, bp_q, if_bI]
    by_cases hy : isN y (S 0) = true
    · obtain ⟨m, hm, rfl⟩ := isN_e hy (by omega)
      have hAB : perS S l * perS S m ≤ 25600 := Nat.le_trans (Nat.mul_le_mul (perS_le (h2.2.2.2.1 l hl)) (perS_le (h2.2.2.2.1 m hm))) (by decide)
      rw [if_pos hy, if_pos hy, ald_q (by omega) (by decide), ald_q (by omega) (by decide), c_placeOf h2 hW h5 h7 hl, bp_q, c_placeOf h2 hW h5 h7 hm, bp_q]
      refine rd_of (c_botL (N := N) h2 hW h5 h7 hl hm N 0 (by omega) (by omega) (fun k h => by omega)) ?_
      exact m_botL (N := N) (by omega) hR0 h2 hW hl hm N 0 (by omega) (by omega)
    · rw [if_neg hy, if_neg hy]
      exact rd_no _ _
  · rw [if_neg hx, if_neg hx]
    exact rd_no _ _
