/-! how long the oil lasts: both sides -/
def bcS (S : Nat → Nat) (l : Nat) : Nat → Nat
  | 0 => 0
  | n + 1 => bcS S l n + if onS S l (plS S l n) = true then 1 else 0
theorem bcS_mono (S : Nat → Nat) (l : Nat) {a : Nat} : ∀ {b : Nat}, a ≤ b → bcS S l a ≤ bcS S l b
  | 0, h => by rw [Nat.le_zero.mp h]; exact Nat.le_refl _
  | b + 1, h => by
    by_cases q : a = b + 1
    · rw [q]; exact Nat.le_refl _
    · have := bcS_mono S l (a := a) (b := b) (by omega)
      simp only [bcS]; omega
theorem bcS_le (S : Nat → Nat) (l : Nat) : ∀ n, bcS S l n ≤ n
  | 0 => Nat.le_refl _
  | n + 1 => by have := bcS_le S l n; simp only [bcS]; split <;> omega
/-- the sum of f over n places of a ring of A, from s on -/
def sumR (f : Nat → Nat) (A s : Nat) : Nat → Nat
  | 0 => 0
  | n + 1 => sumR f A s n + f ((s + n) % A)
theorem sumR_front (f : Nat → Nat) (A s : Nat) : ∀ n, sumR f A s (n + 1) = f (s % A) + sumR f A (s + 1) n
  | 0 => by simp only [sumR]; rw [Nat.add_zero]; omega
  | n + 1 => by
    have := sumR_front f A s n
    have e : sumR f A s (n + 1 + 1) = sumR f A s (n + 1) + f ((s + (n + 1)) % A) := rfl
    have e2 : sumR f A (s + 1) (n + 1) = sumR f A (s + 1) n + f ((s + 1 + n) % A) := rfl
    rw [e, this, e2, show s + (n + 1) = s + 1 + n by omega]
    omega
theorem sumR_shift (f : Nat → Nat) (A s : Nat) : sumR f A (s + 1) A = sumR f A s A := by
  have h1 := sumR_front f A s A
  have h2 : sumR f A s (A + 1) = sumR f A s A + f ((s + A) % A) := rfl
  rw [Nat.add_mod_right] at h2
  omega
theorem sumR_0 (f : Nat → Nat) (A : Nat) : ∀ s, sumR f A s A = sumR f A 0 A
  | 0 => rfl
  | s + 1 => by rw [sumR_shift, sumR_0 f A s]
def onB (S : Nat → Nat) (l p : Nat) : Nat := if onS S l p = true then 1 else 0
/-- how many seconds of its row it is on, of the first n -/
def onC (S : Nat → Nat) (l : Nat) : Nat → Nat
  | 0 => 0
  | n + 1 => onC S l n + onB S l n
theorem onC_le (S : Nat → Nat) (l : Nat) : ∀ n, onC S l n ≤ n
  | 0 => Nat.le_refl _
  | n + 1 => by have := onC_le S l n; simp only [onC]; unfold onB; split <;> omega
theorem onC_sum (S : Nat → Nat) (l : Nat) : ∀ n, sumR (onB S l) (perS S l) 0 n = onC S l n
  | 0 => rfl
  | n + 1 => by
    simp only [sumR, onC]
    rw [onC_sum S l n, Nat.zero_add]
    congr 1
    unfold onB
    rw [onS_mod]
theorem bcS_sum (S : Nat → Nat) (l : Nat) : ∀ n, bcS S l n = sumR (onB S l) (perS S l) (S 147 + S (158 + l)) n
  | 0 => rfl
  | n + 1 => by
    simp only [bcS, sumR]
    rw [bcS_sum S l n]
    congr 1
    unfold onB plS
    rw [show S 147 + n + S (158 + l) = S 147 + S (158 + l) + n by omega]
theorem bcS_per (S : Nat → Nat) (l : Nat) : bcS S l (perS S l) = onC S l (perS S l) := by
  rw [bcS_sum, sumR_0, onC_sum]
theorem plS_0 (S : Nat → Nat) (l : Nat) : plS S l (perS S l) = plS S l 0 := by
  have := plS_mul (S := S) (l := l) (k := 1)
  rw [Nat.mul_one] at this
  exact this
theorem bcS_add (S : Nat → Nat) (l : Nat) : ∀ n, bcS S l (n + perS S l) = bcS S l n + onC S l (perS S l)
  | 0 => by rw [Nat.zero_add, bcS_per]; simp only [bcS]; omega
  | n + 1 => by
    have := bcS_add S l n
    rw [show n + 1 + perS S l = (n + perS S l) + 1 by omega]
    simp only [bcS]
    rw [this, plS_per (plS_0 S l) n]
    omega
theorem bcS_rounds (S : Nat → Nat) (l i : Nat) : ∀ r, bcS S l (r * perS S l + i) = r * onC S l (perS S l) + bcS S l i
  | 0 => by simp
  | r + 1 => by
    rw [Nat.succ_mul, show r * perS S l + perS S l + i = (r * perS S l + i) + perS S l by omega, bcS_add, bcS_rounds S l i r, Nat.succ_mul]
    omega
/-- the least n with so many seconds of light -/
theorem bcS_least {S : Nat → Nat} {l t : Nat} : ∀ n, t ≤ bcS S l n → ∃ i, i ≤ n ∧ bcS S l i = t ∧ ∀ k, k < i → bcS S l k < t
  | 0, h => ⟨0, Nat.le_refl _, by simp only [bcS] at h ⊢; omega, fun k hk => by omega⟩
  | n + 1, h => by
    by_cases q : t ≤ bcS S l n
    · obtain ⟨i, h1, h2, h3⟩ := bcS_least n q
      exact ⟨i, by omega, h2, h3⟩
    · refine ⟨n + 1, Nat.le_refl _, ?_, fun k hk => ?_⟩
      · simp only [bcS] at h ⊢
        split at h
        · rw [if_pos (by assumption)]; omega
        · omega
      · have := bcS_mono S l (a := k) (b := n) (by omega)
        omega
theorem onS_0 {S : Nat → Nat} {l : Nat} (h : WFl S l) : onS S l 0 = true := by
  unfold onS
  by_cases q : S (43 + l) = 0
  · rw [if_pos q]
  · rw [if_neg q, Nat.zero_mod]
    have h7 := h.2.2.2.2.2.2.1 0 (by omega)
    rw [Nat.add_zero] at h7
    simp only [onG]
    rw [if_pos (by unfold dS; rw [Nat.add_zero]; omega), Nat.add_zero]
    exact decide_eq_true (by omega)
theorem onC_pos {S : Nat → Nat} {l : Nat} (h : WFl S l) : ∀ n, 0 < n → 0 < onC S l n
  | 0, h0 => by omega
  | n + 1, _ => by
    by_cases q : n = 0
    · subst q
      simp only [onC]
      unfold onB
      rw [if_pos (onS_0 h)]
      decide
    · have := onC_pos h n (by omega)
      simp only [onC]; omega
theorem c_secOn {S : Nat → Nat} {σ : St} {N a l : Nat} (h : WFl S l) (hL : LRel σ a S l) : ∀ n k, k ≤ perS S l → perS S l - k < n → f_X4_secondsOn_L4 N a σ n (nI (onC S l k)) (nI k) = some (nI (onC S l (perS S l))) := by
  have p1 := perS_le h
  intro n
  induction n with
  | zero => intro k _ h; omega
  | succ n ih =>
    intro k hk hn
    have := onC_le S l k
    rw [f_X4_secondsOn_L4, vl_q, hL.2.2.2.2.2.2.2.2.1, if_leq (by omega) (by omega)]
    by_cases hc : perS S l ≤ k
    · rw [if_pos hc]
      obtain rfl : k = perS S l := by omega
      rfl
    · have := ih (k + 1) (by omega) (by omega)
      rw [if_neg hc, ald_q (by omega) (by decide), hL.2.2.2.2.2.2.2.2.2 k (by omega), jn_q, if_bI]
      simp only [vl_q, nI_addq]
      simp only [onC] at this
      unfold onB at this
      by_cases q : onS S l k = true
      · rw [if_pos q]; rw [if_pos q] at this; exact this
      · rw [if_neg q]; rw [if_neg q, Nat.add_zero] at this; exact this
theorem c_burL {S : Nat → Nat} {σ : St} {N a l left i base : Nat} (h : WFl S l) (hL : LRel σ a S l) (h1 : bcS S l i = left) (h2 : ∀ k, k < i → bcS S l k < left) (hi : i ≤ perS S l) (hb : base ≤ 1000000) : ∀ n k, k ≤ i → i - k < n → f_X6_secondsToBurn_L84 N a σ n (nI (left - bcS S l k)) (nI (plS S l k)) (nI (base + k)) (nI k) = some (nI (base + i)) := by
  have p1 := perS_le h
  intro n
  induction n with
  | zero => intro k _ h; omega
  | succ n ih =>
    intro k hk hn
    have b1 := bcS_le S l k
    have b2 := bcS_le S l i
    have x1 := plS_lt S l k
    rw [f_X6_secondsToBurn_L84, vl_q, hL.2.2.2.2.2.2.2.2.1, if_leq (by omega) (by omega), if_le0 (by omega)]
    by_cases q : k = i
    · subst q
      by_cases hc : perS S l ≤ k
      · rw [if_pos hc]
      · rw [if_neg hc, if_pos (by omega)]
    · have hlt := h2 k (by omega)
      have := ih (k + 1) (by omega) (by omega)
      rw [if_neg (by omega), if_neg (by omega), ald_q (by omega) (by decide), hL.2.2.2.2.2.2.2.2.2 _ x1, jn_q, if_bI, c_behind h hL]
      simp only [vl_q, nI_addq, bp_q]
      simp only [bcS] at this
      by_cases z : onS S l (plS S l k) = true
      · rw [if_pos z, show left - bcS S l k = (left - bcS S l k - 1) + 1 by omega, pk_m1, show left - bcS S l k - 1 = left - (bcS S l k + 1) by omega]
        rw [if_pos z] at this
        exact this
      · rw [if_neg z]
        rw [if_neg z, Nat.add_zero] at this
        exact this
theorem m_burL {S : Nat → Nat} {τ : St} {N l t T : Nat} (hN : 10 ≤ N) (hR : RS S τ) (hl : l < 8) (h : WFl S l) (h7 : S 147 ≤ 5000) (h8 : S (158 + l) < 160) (h1 : bcS S l T = t) (h2 : ∀ k, k < T → bcS S l k < t) (hT : T ≤ 200000) : ∀ n k, k ≤ T → T - k < n → f_X12_burn_L49 N (nI l) τ n (nI (t - bcS S l k)) (nI k) = some (nI T, τ) := by
  have p1 := perS_le h
  intro n
  induction n with
  | zero => intro k _ h; omega
  | succ n ih =>
    intro k hk hn
    have b1 := bcS_le S l k
    have b2 := bcS_le S l T
    have x1 := plS_lt S l k
    rw [f_X12_burn_L49, if_le0 (by omega)]
    by_cases q : k = T
    · subst q
      rw [if_pos (by omega)]
    · have hlt := h2 k (by omega)
      have := ih (k + 1) (by omega) (by omega)
      rw [if_neg (by omega), m_placeIn hN hR hl h h7 h8 (by omega), bp_q, m_isOn hN hR hl h (by omega), bp_q, jn_q, if_bI]
      simp only [vl_q, nI_addq]
      simp only [bcS] at this
      by_cases z : onS S l (plS S l k) = true
      · rw [if_pos z, nI_subq (by omega), show t - bcS S l k - 1 = t - (bcS S l k + 1) by omega]
        rw [if_pos z] at this
        exact this
      · rw [if_neg z, nI_subq (by omega), Nat.sub_zero]
        rw [if_neg z, Nat.add_zero] at this
        exact this
theorem k_burn {σ τ : St} {S : Nat → Nat} {u top N : Nat} {H : Nat → Nat → Nat} (hN : 300000 ≤ N) (hK : KRel σ τ S u top H) (x : Int32) : rdE τ (f_X11_burn N x σ) (f_X12_burn N x τ) := by
  have hh := hK
  obtain ⟨h1, h2, hW, h4, h5, h6, h7, h8⟩ := hh
  have c1 := h2.1
  have hR0 := (KRel_thr hK (nI 0)).1
  unfold f_X11_burn f_X12_burn
  rw [c_isLight c1 h5.1 x, bp_q, if_bI, vl_q, m_isLight hR0 c1 x, bp_q, if_bI]
  by_cases hx : isN x (S 0) = true
  · obtain ⟨l, hl, rfl⟩ := isN_e hx (by omega)
    have wl := h2.2.2.2.1 l hl
    have hL := h5.2.2.2.1 l hl
    have ho := (hW.2.2.2.1 l hl).1
    have p1 := perS_le wl
    have p0 := perS_pos S l
    have hon := onC_pos wl _ p0
    have hon2 := onC_le S l (perS S l)
    rw [if_pos hx, if_pos hx]
    unfold f_X6_secondsToBurn
    rw [ald_q (by omega) (by decide)]
    unfold f_X4_secondsOn
    have e1 := c_secOn (σ := σ) (N := N) wl hL N 0 (by omega) (by omega)
    rw [show onC S l 0 = 0 from rfl] at e1
    rw [e1, bp_q, ald_q (by omega) (by decide), (h7.2.2.2.1 l hl).1, if_eq0 (by omega), nI_addq, ald_S hR0 (by omega), jn_q, if_le0 (by omega), ald_S hR0 (by decide), m_bitOf hW.2.1.1 (by omega), bp_q, if_bI, c_isOut hW.2.1.1 h7 (by omega), bp_q, if_bI]
    by_cases q0 : S (150 + l) = 0
    · rw [if_pos q0, if_pos q0, bp_q]
      refine rd_of rfl ?_
      have := m_burL (τ := sI τ 206 0 (nI 0)) (N := N) (l := l) (t := 0) (T := 0) (by omega) hR0 (by omega) wl hW.1 (hW.2.2.2.1 l hl).2 rfl (fun k hk => by omega) (by omega) N 0 (by omega) (by omega)
      rw [Nat.zero_sub] at this
      rw [q0]
      exact this
    · rw [if_neg q0, if_neg q0]
      by_cases z : S 148 / 2 ^ l % 2 = 1
      · rw [if_pos (decide_eq_true z), if_pos (decide_eq_true z), bp_q]
        exact rd_no _ _
      · rw [if_neg (fun w => z (of_decide_eq_true w)), if_neg (fun w => z (of_decide_eq_true w)), if_eq0 (by omega), if_neg (by omega), ald_q (by omega) (by decide), (h7.2.2.2.1 l hl).1, nI_subq (by omega), dv_q (by omega) hon (by omega), ald_q (by omega) (by decide), (h7.2.2.2.1 l hl).1]
        have hdm := Nat.div_add_mod (S (150 + l) - 1) (onC S l (perS S l))
        have hml := Nat.mod_lt (S (150 + l) - 1) hon
        have hdl := Nat.div_le_self (S (150 + l) - 1) (onC S l (perS S l))
        have hcm := Nat.mul_comm (onC S l (perS S l)) ((S (150 + l) - 1) / onC S l (perS S l))
        generalize (S (150 + l) - 1) / onC S l (perS S l) = r at hdm hdl hcm ⊢
        generalize (S (150 + l) - 1) % onC S l (perS S l) = g at hdm hml
        have hrp : r * perS S l ≤ 999 * 160 := Nat.mul_le_mul (by omega) p1
        obtain ⟨i, i1, i2, i3⟩ := bcS_least (S := S) (l := l) (t := g + 1) (perS S l) (by rw [bcS_per]; omega)
        simp only [vl_q, nI_mulq]
        rw [nI_subq (by omega), hL.2.2.2.2.2.2.2.2.1, c_placeOf h2 hW h5 h7 hl, bp_q, nI_mulq, show S (150 + l) - r * onC S l (perS S l) = g + 1 by omega]
        have e2 := c_burL (σ := σ) (N := N) (base := r * perS S l) wl hL i2 i3 i1 (by omega) N 0 (by omega) (by omega)
        rw [show bcS S l 0 = 0 from rfl, Nat.sub_zero, Nat.add_zero (r * perS S l)] at e2
        rw [e2, bp_q]
        refine rd_of rfl ?_
        have hT := bcS_rounds S l i r
        have e3 := m_burL (τ := sI τ 206 0 (nI 0)) (N := N) (l := l) (t := S (150 + l)) (T := r * perS S l + i) (by omega) hR0 (by omega) wl hW.1 (hW.2.2.2.1 l hl).2 (by rw [hT, i2]; omega) (fun k hk => by
          have hi0 : 0 < i := by
            rcases Nat.eq_zero_or_pos i with w | w
            · rw [w] at i2; simp only [bcS] at i2; omega
            · exact w
          have := bcS_mono S l (a := k) (b := r * perS S l + (i - 1)) (by omega)
          have := i3 (i - 1) (by omega)
          rw [bcS_rounds] at *
          omega) (by omega) N 0 (by omega) (by omega)
        rw [show bcS S l 0 = 0 from rfl, Nat.sub_zero] at e3
        exact e3
  · rw [if_neg hx, if_neg hx]
    exact rd_no _ _
/-! waits: both sides -/
theorem sees_lt {S : Nat → Nat} (h : S 0 ≤ 8) (k : Nat) : seesS S k < 256 := Nat.lt_of_le_of_lt Nat.and_le_left (bset_lt8 _ h)
def wtP (S : Nat → Nat) (k n : Nat) : Bool := decide (seesS (secN S n) k ≠ 0)
theorem sh55 : sh 55 = 6 ∧ reg 55 = 5 := by decide +kernel
theorem c_waiL {S : Nat → Nat} {σ : St} {N k : Nat} (hN : 1000 ≤ N) (hC : WFC S) (hW : WFW S) (h3 : S 147 ≤ 3600) (hM : CRel σ 3 4 5 S) (hk : k < S 1) : ∀ n t s, t ≤ 601 → 601 - t < n → SRel s 55 (secN S t) → Fr [5] σ s → ∃ s', f_X11_waits_L23 N (nI k) n (nI t) s = some (fstF (wtP S k) (601 - t) t, s') ∧ Fr [5] σ s' := by
  have c1 := hC.1
  have c2 := hC.2.1
  intro n
  induction n with
  | zero => intro t s _ h; omega
  | succ n ih =>
    intro t s ht hn hS hF
    rw [f_X11_waits_L23, if_ltq (by decide) (by omega)]
    by_cases hc : 600 < t
    · rw [if_pos hc, show 601 - t = 0 by omega]
      exact ⟨s, rfl, hF⟩
    · have hCt := WFC_c (secN_C S t) hC
      have hWt := secN_W hC hW t (by omega)
      have hMt := CRel_c (secN_C S t) hC (CRel_fr hF (by decide) c1 c2 hM)
      have hlt := sees_lt hCt.1 k
      rw [if_neg hc, c_seenBy (by omega) hCt hWt hMt hS (by rw [secN_C S t 1 (by decide)]; exact hk), bp_q, if_eq0 (by omega), show 601 - t = (601 - (t + 1)) + 1 by omega]
      simp only [fstF]
      by_cases z : seesS (secN S t) k = 0
      · obtain ⟨s1, e1, r1⟩ := c_passOne (N := N) (by omega) sh55.1 (by rw [sh55.2]; decide) hCt hWt hMt hS
        rw [if_pos z, e1, bp_q, vl_q, nI_addq, if_neg (by unfold wtP; simp [z])]
        exact ih (t + 1) s1 (by omega) (by omega) r1 (hF.trans (fr_X6_passOne sh55.1 (fun x hx => absurd hx List.not_mem_nil) (by rw [sh55.2]; decide) e1))
      · rw [if_neg z, if_pos (by unfold wtP; simp [z])]
        exact ⟨s, rfl, hF⟩
theorem m_waiL {S : Nat → Nat} {N k : Nat} {k8 : Int32 → St → Option (Int32 × St)} (hN : 1000 ≤ N) (hC : WFC S) (hW : WFW S) (h3 : S 147 ≤ 3600) (hk : k < S 1) : ∀ n t τ, t ≤ 601 → 602 - t < n → RS (secN S t) τ → ∃ m τ', f_X12_waits_L23 N (nI k) k8 n (-1) (nI t) τ = k8 (fstF (wtP S k) (601 - t) t) τ' ∧ RS (secN S m) τ' ∧ Fr [208] τ τ' := by
  have c1 := hC.1
  have c2 := hC.2.1
  intro n
  induction n with
  | zero => intro t s _ h; omega
  | succ n ih =>
    intro t τ ht hn hR
    rw [f_X12_waits_L23, if_ltq (by decide) (by omega)]
    by_cases hc : 600 < t
    · rw [if_pos hc, show 601 - t = 0 by omega]
      exact ⟨t, τ, rfl, hR, Fr.rf⟩
    · have hCt := WFC_c (secN_C S t) hC
      have hWt := secN_W hC hW t (by omega)
      have hlt := sees_lt hCt.1 k
      obtain ⟨τ1, e1, r1⟩ := m_second (N := N) (by omega) hCt hWt hR
      have f1 : Fr [208] τ τ1 := fr_X12_second (fun x hx => hx) e1
      rw [if_neg hc, if_neg (by decide), m_seenBy (by omega) hR hCt hWt (by rw [secN_C S t 1 (by decide)]; exact hk), bp_q, jn_q, if_eq0 (by omega), e1]
      simp only [bp_q, vl_q, nI_addq]
      rw [show 601 - t = (601 - (t + 1)) + 1 by omega]
      simp only [fstF]
      by_cases z : seesS (secN S t) k = 0
      · rw [if_pos z, if_neg (by unfold wtP; simp [z])]
        obtain ⟨m, τ2, e2, r2, f2⟩ := ih (t + 1) τ1 (by omega) (by omega) r1
        exact ⟨m, τ2, e2, r2, f1.trans f2⟩
      · rw [if_neg z, if_pos (by unfold wtP; simp [z])]
        obtain ⟨n, rfl⟩ : ∃ n', n = n' + 1 := ⟨n - 1, by omega⟩
        rw [f_X12_waits_L23]
        refine ⟨t + 1, τ1, ?_, r1, f1⟩
        split
        · rfl
        · rw [if_ge0 (by omega)]
theorem mix_back {S T : Nat → Nat} (h : sameO S T) : mix T (win S) = S := by
  rw [mix_cong (T := S) (fun j hj => h j hj), mix_win]
/-- the class's trial scene is of no account -/
theorem KRel_5 {σ σ' τ : St} {S : Nat → Nat} {u top : Nat} {H : Nat → Nat → Nat} {R : List Nat} (h : KRel σ τ S u top H) (hF : Fr R σ σ') (n2' : 2 ∉ R) (n4 : 4 ∉ R) (n9 : ∀ k, k < 10 → 9 + k ∉ R) : KRel σ' τ S u top H := by
  obtain ⟨h1, h2, h3, h4, h5, h6, h7, h8⟩ := h
  refine ⟨h1, h2, h3, h4, CRel_fr hF n2' h2.1 h2.2.1 h5, ARel_fr hF n2' h2.1 h6, SRel_fr sh49.1 hF (by rw [sh49.2]; exact n4) h7, PRel_fr h8 hF (n9 0 (by decide)) (fun i hi => ?_) rfl rfl⟩
  have := Nat.mod_lt (top + 9 - u + i) (show 0 < 9 by decide)
  have := n9 (pos top u i + 1) (by unfold pos; omega)
  rw [show 9 + (pos top u i + 1) = 10 + pos top u i by omega] at this
  exact this
theorem k_waits {σ τ : St} {S : Nat → Nat} {u top N : Nat} {H : Nat → Nat → Nat} (hN : 1000 ≤ N) (hK : KRel σ τ S u top H) (x : Int32) : ∃ r σ' τ', f_X11_waits N x σ = some (r, σ') ∧ f_X12_waits N x τ = some (r, τ') ∧ KRel σ' τ' S u top H ∧ Fr [5] σ σ' := by
  have hh := hK
  obtain ⟨h1, h2, hW, h4, h5, h6, h7, h8⟩ := hh
  have c1 := h2.1
  have c2 := h2.2.1
  have hK0 := KRel_thr hK (nI 0)
  have hR0 := hK0.1
  unfold f_X11_waits f_X12_waits
  rw [c_isShip c2 h5.2.1 x, bp_q, if_bI, vl_q, m_isShip hR0 c2 x, bp_q, if_bI]
  by_cases hx : isN x (S 1) = true
  · obtain ⟨k, hk, rfl⟩ := isN_e hx (by omega)
    rw [if_pos hx, if_pos hx]
    obtain ⟨σ1, ec, rc⟩ := c_copyScene (a := 55) (b := 49) sh55.1 sh49.1 (by rw [sh55.2, sh49.2]; decide) c1 c2 h7
    have f1 : Fr [5] σ σ1 := fr_X6_copyFrom sh55.1 sh49.1 (fun x hx => absurd hx List.not_mem_nil) (by rw [sh55.2]; decide) ec
    obtain ⟨s', e1, f2⟩ := c_waiL (σ := σ) (N := N) hN h2 hW h4 h5 hk N 0 σ1 (by omega) (by omega) rc f1
    obtain ⟨τ1, e2, r2, f3⟩ := m_tries (N := N) (by omega) hR0
    have hR1 : RS S τ1 := RS_o hR0 (fun j => by rw [fr_row f3 (by decide +kernel)])
    obtain ⟨m, τ2, e3, r3, f4⟩ := m_waiL (N := N) (k := k) (k8 := fun (v18 : Int32) (s19 : St) => bp (f_X12_back N s19) fun s20 => some (v18, s20)) hN h2 hW h4 hk N 0 τ1 (by omega) (by omega) hR1
    obtain ⟨τ3, e4, r4, f5⟩ := m_back (N := N) (w := win S) (by omega) r3 (fun j hj => by rw [fr_row f4 (by decide +kernel)]; exact r2 j hj)
    rw [mix_back (secN_o h2 m)] at r4
    rw [ec, bp_q, e1, e2, bp_q, e3, e4, bp_q]
    have hK1 := KRel_5 hK0 f2 (by decide) (by decide) (fun k hk => by simp only [List.mem_singleton]; omega)
    refine ⟨_, s', τ3, rfl, rfl, ?_, f2⟩
    have hf : Fr [208, 214] (sI τ 206 0 (nI 0)) τ3 := ((f3.mono (by decide)).trans (f4.mono (by decide))).trans (f5.mono (by decide))
    have e6 := fr_row hf (j := 206) (by decide +kernel)
    have e13 := fr_row hf (j := 213) (by decide +kernel)
    obtain ⟨g1, g2, g3, g4, g5, g6, g7, g8⟩ := hK1
    exact ⟨r4, g2, g3, g4, g5, g6, g7, PRel_fr g8 Fr.rf List.not_mem_nil (fun _ _ => List.not_mem_nil) (by rw [e6]) e13⟩
  · rw [if_neg hx, if_neg hx]
    exact ⟨_, σ, _, rfl, rfl, hK0, Fr.rf⟩
