/-! tokens: both sides -/
/-- besides the fields ks of cell c nothing has changed -/
def FK (c : Nat) (ks : List Nat) (s t : St) : Prop := (∀ b, b ≠ c → t.1 b = s.1 b ∧ t.2 b = s.2 b) ∧ ∀ k, k ∉ ks → t.1 c k = s.1 c k ∧ t.2 c k = s.2 c k
theorem FK.rf {c : Nat} {ks : List Nat} {s : St} : FK c ks s s := ⟨fun _ _ => ⟨rfl, rfl⟩, fun _ _ => ⟨rfl, rfl⟩⟩
theorem FK.trans {c : Nat} {ks : List Nat} {s t u : St} (h : FK c ks s t) (g : FK c ks t u) : FK c ks s u := ⟨fun b hb => ⟨(g.1 b hb).1.trans (h.1 b hb).1, (g.1 b hb).2.trans (h.1 b hb).2⟩, fun k hk => ⟨(g.2 k hk).1.trans (h.2 k hk).1, (g.2 k hk).2.trans (h.2 k hk).2⟩⟩
theorem FK.mono {c : Nat} {ks ls : List Nat} {s t : St} (h : FK c ks s t) (g : ∀ x ∈ ks, x ∈ ls) : FK c ls s t := ⟨h.1, fun k hk => h.2 k (fun q => hk (g k q))⟩
theorem FK.sI {c : Nat} {ks : List Nat} {s t : St} {k : Nat} {v : Int32} (h : FK c ks s t) (hk : k ∈ ks) : FK c ks s (sI t c k v) := ⟨fun b hb => ⟨(sI_ne hb).trans (h.1 b hb).1, (h.1 b hb).2⟩, fun j hj => ⟨by rw [sI1, if_pos rfl, if_neg (fun e => hj (by rw [e]; exact hk))]; exact (h.2 j hj).1, (h.2 j hj).2⟩⟩
theorem FK.sL {c : Nat} {ks : List Nat} {s t : St} {k : Nat} {v : Int64} (h : FK c ks s t) (hk : k ∈ ks) : FK c ks s (sL t c k v) := ⟨fun b hb => ⟨(h.1 b hb).1, (sL_ne hb).trans (h.1 b hb).2⟩, fun j hj => ⟨(h.2 j hj).1, by rw [sL2, if_pos rfl, if_neg (fun e => hj (by rw [e]; exact hk))]; exact (h.2 j hj).2⟩⟩
def isBl (b : Nat) : Bool := decide (b = 32) || decide (b = 10)
def isLt (b : Nat) : Bool := decide (97 ≤ b ∧ b ≤ 122)
def isDg (b : Nat) : Bool := decide (48 ≤ b ∧ b ≤ 57)
def isAl (b : Nat) : Bool := isLt b || isDg b
theorem ldN_min (p : Nat → Bool) {m m' : Nat} (h : m' ≤ m) : ldN p m' = min (ldN p m) m' := by
  have h1 := ldN_le p m'
  have h2 := ldN_le p m
  have a := (ldN_iff p m' (ldN p m') h1).mpr (Nat.le_refl _)
  have b := (ldN_iff p m (ldN p m') (by omega)).mp a
  have c := (ldN_iff p m (min (ldN p m) m') (by omega)).mpr (by omega)
  have d := (ldN_iff p m' (min (ldN p m) m') (by omega)).mp c
  omega
theorem ldN_full {p : Nat → Bool} {n : Nat} (h : allN p n = true) : ldN p n = n := by
  have := (ldN_iff p n n (Nat.le_refl _)).mp h
  have := ldN_le p n
  omega
theorem ldN_all (p : Nat → Bool) (n : Nat) : allN p (ldN p n) = true := (ldN_iff p n _ (ldN_le p n)).mpr (Nat.le_refl _)
theorem ldN_next {p : Nat → Bool} {n : Nat} (h : ldN p n < n) : p (ldN p n) = false := by
  rcases Bool.eq_false_or_eq_true (p (ldN p n)) with q | q
  · exfalso
    have := (ldN_iff p n (ldN p n + 1) (by omega)).mp (by simp only [allN, ldN_all p n, q, Bool.and_self])
    omega
  · exact q
section Next
variable {N n st b : Nat} {B : Nat → Nat}
theorem c_skL {s : St} {k4 : Int32 → Option St} (h10 : s.1 1 10 = nI st) (hT : ∀ j, j < n → s.1 2 j = nI (B j)) (hB : ∀ j, j < n → B j < 256) (hst : st ≤ n) (hn : n ≤ 940) (hb : b ≤ n) : ∀ m i, i ≤ st - b → st - b - i < m → allN (fun i => isBl (B (b + i))) i = true → f_X9_next_L5 N s k4 m (nI (b + i)) = k4 (nI (b + ldN (fun i => isBl (B (b + i))) (st - b))) := by
  intro m
  induction m with
  | zero => intro i _ h; omega
  | succ m ih =>
    intro i hi hm ha
    rw [f_X9_next_L5, vl_q, h10, if_leq (by omega) (by omega)]
    by_cases hc : st ≤ b + i
    · rw [if_pos hc]
      obtain rfl : i = st - b := by omega
      rw [ldN_full ha]
    · have h1 := hB (b + i) (by omega)
      rw [if_neg hc, ald_q (by omega) (by decide), hT _ (by omega), jn_q, if_eqq (by omega) (by decide), ald_q (by omega) (by decide), hT _ (by omega), if_eqq (by omega) (by decide), vl_q, nI_addq]
      have go : isBl (B (b + i)) = true → f_X9_next_L5 N s k4 m (nI (b + i + 1)) = k4 (nI (b + ldN (fun i => isBl (B (b + i))) (st - b))) := fun z => ih (i + 1) (by omega) (by omega) (by simp only [allN, ha, z, Bool.and_self])
      by_cases q : B (b + i) = 32
      · rw [if_pos q]; exact go (by unfold isBl; rw [decide_eq_true q]; rfl)
      · rw [if_neg q]
        by_cases z : B (b + i) = 10
        · rw [if_pos z]; exact go (by unfold isBl; rw [decide_eq_true z, Bool.or_true])
        · rw [if_neg z, ldN_eq (by omega) ha (by unfold isBl; rw [decide_eq_false q, decide_eq_false z]; rfl)]
theorem m_peek {s : St} {p : Nat} (h3 : s.1 206 3 = nI n) (hT : ∀ j, j < n → s.1 207 j = sbt (B j)) (hB : ∀ j, j < n → B j < 256) (hn : n ≤ 940) (h4 : s.1 206 4 = nI p) (hp : p ≤ n) : f_X12_peek s = some (if p < n then nI (B p) else -1) := by
  unfold f_X12_peek
  simp only [vl_q]
  rw [h3, h4, if_leq (by omega) (by omega)]
  by_cases q : p < n
  · rw [if_neg (by omega), if_pos q, ald_q (by omega) (by decide), hT p q, sbt_q _ (hB p q)]
  · rw [if_pos (by omega), if_neg q]
theorem sI_id {s : St} {a k : Nat} {v : Int32} (h : s.1 a k = v) : sI s a k v = s := by
  apply Prod.ext
  · funext x j
    rw [sI1]
    by_cases q : x = a
    · rw [if_pos q]
      by_cases z : j = k
      · rw [if_pos z, z, q, h]
      · rw [if_neg z, q]
    · rw [if_neg q]
  · rfl
theorem m_skL {s : St} {k2 : St → Option St} (h3 : s.1 206 3 = nI n) (hT : ∀ j, j < n → s.1 207 j = sbt (B j)) (hB : ∀ j, j < n → B j < 256) (hn : n ≤ 940) (hb : b ≤ n) : ∀ m i, i ≤ n - b → n - b - i < m → allN (fun i => isBl (B (b + i))) i = true → f_X12_next_L0 N k2 m (sI s 206 4 (nI (b + i))) = k2 (sI s 206 4 (nI (b + ldN (fun i => isBl (B (b + i))) (n - b)))) := by
  intro m
  induction m with
  | zero => intro i _ h; omega
  | succ m ih =>
    intro i hi hm ha
    have e3 : (sI s 206 4 (nI (b + i))).1 206 3 = nI n := by rw [sI1, if_pos rfl, if_neg (by decide)]; exact h3
    have e4 : (sI s 206 4 (nI (b + i))).1 206 4 = nI (b + i) := by rw [sI1, if_pos rfl, if_pos rfl]
    have eT : ∀ j, j < n → (sI s 206 4 (nI (b + i))).1 207 j = sbt (B j) := fun j hj => by rw [sI1, if_neg (by decide)]; exact hT j hj
    rw [f_X12_next_L0, m_peek e3 eT hB hn e4 (by omega), bp_q, jn_q, vl_q, e4, vl_q, bp_q, nI_addq, sI_sI]
    by_cases hc : b + i < n
    · have h1 := hB (b + i) hc
      have go : isBl (B (b + i)) = true → f_X12_next_L0 N k2 m (sI s 206 4 (nI (b + i + 1))) = k2 (sI s 206 4 (nI (b + ldN (fun i => isBl (B (b + i))) (n - b)))) := fun z => ih (i + 1) (by omega) (by omega) (by simp only [allN, ha, z, Bool.and_self])
      rw [if_pos hc, if_eqq (by omega) (by decide), if_eqq (by omega) (by decide)]
      by_cases q : B (b + i) = 32
      · rw [if_pos q]; exact go (by unfold isBl; rw [decide_eq_true q]; rfl)
      · rw [if_neg q]
        by_cases z : B (b + i) = 10
        · rw [if_pos z]; exact go (by unfold isBl; rw [decide_eq_true z, Bool.or_true])
        · rw [if_neg z, ldN_eq (by omega) ha (by unfold isBl; rw [decide_eq_false q, decide_eq_false z]; rfl)]
    · rw [if_neg hc, if_neg (by decide), if_neg (by decide)]
      obtain rfl : i = n - b := by omega
      rw [ldN_full ha]
end Next
/-! a run of letters and digits -/
def c5f (B : Nat → Nat) (q : Nat) : Nat → Nat
  | 0 => 0
  | i + 1 => if isLt (B (q + i)) = true then c5f B q i * 32 + (B (q + i) - 97 + 1) else c5f B q i
def vcf (B : Nat → Nat) (q : Nat) : Nat → Nat
  | 0 => 0
  | i + 1 => if isDg (B (q + i)) = true then vcf B q i * 10 + (B (q + i) - 48) else vcf B q i
def w8f (B : Nat → Nat) (q : Nat) : Nat → Nat
  | 0 => 0
  | i + 1 => if i < 7 then w8f B q i * 256 + B (q + i) else w8f B q i
def nmf (B : Nat → Nat) (q : Nat) : Nat → Nat
  | 0 => 0
  | i + 1 => if i < 3 then 10 * nmf B q i + B (q + i) - 48 else nmf B q i
def ltC (B : Nat → Nat) (q i : Nat) : Nat := cntN (fun j => isLt (B (q + j))) i
def dgC (B : Nat → Nat) (q i : Nat) : Nat := cntN (fun j => isDg (B (q + j))) i
theorem ltC_s (B : Nat → Nat) (q i : Nat) : ltC B q (i + 1) = ltC B q i + if isLt (B (q + i)) = true then 1 else 0 := rfl
theorem dgC_s (B : Nat → Nat) (q i : Nat) : dgC B q (i + 1) = dgC B q i + if isDg (B (q + i)) = true then 1 else 0 := rfl
theorem c5f_s (B : Nat → Nat) (q i : Nat) : c5f B q (i + 1) = if isLt (B (q + i)) = true then c5f B q i * 32 + (B (q + i) - 97 + 1) else c5f B q i := rfl
theorem vcf_s (B : Nat → Nat) (q i : Nat) : vcf B q (i + 1) = if isDg (B (q + i)) = true then vcf B q i * 10 + (B (q + i) - 48) else vcf B q i := rfl
def rlN (B : Nat → Nat) (q n : Nat) : Nat := ldN (fun i => isAl (B (q + i))) (n - q)
theorem Lt_i {b : Nat} : isLt b = true ↔ 97 ≤ b ∧ b ≤ 122 := decide_eq_true_iff
theorem Dg_i {b : Nat} : isDg b = true ↔ 48 ≤ b ∧ b ≤ 57 := decide_eq_true_iff
section Run
variable {N n q : Nat} {B : Nat → Nat}
theorem c_runL {s : St} {k6 : Int32 → Int32 → St → Option St} (h1 : s.1 1 1 = nI n) (hT : ∀ j, j < n → s.1 2 j = nI (B j)) (hB : ∀ j, j < n → B j < 256) (hn : n ≤ 940) (hq : q ≤ n) : ∀ m i t, i ≤ n - q → n - q - i < m → allN (fun i => isAl (B (q + i))) i = true → FK 1 [3, 4, 9] s t → t.1 1 9 = nI (q + i) → t.2 1 3 = l64 (c5f B q i) → t.1 1 4 = nI (vcf B q i) → ∃ t', f_X9_readRun_L12 N k6 m (nI (ltC B q i)) (nI (dgC B q i)) t = k6 (nI (ltC B q (rlN B q n))) (nI (dgC B q (rlN B q n))) t' ∧ FK 1 [3, 4, 9] s t' ∧ t'.1 1 9 = nI (q + rlN B q n) ∧ t'.2 1 3 = l64 (c5f B q (rlN B q n)) ∧ t'.1 1 4 = nI (vcf B q (rlN B q n)) := by
  intro m
  induction m with
  | zero => intro i t _ h; omega
  | succ m ih =>
    intro i t hi hm ha hF h9 h3 h4
    have e1 : t.1 1 1 = nI n := by rw [(hF.2 1 (by decide)).1]; exact h1
    have eT : ∀ j, j < n → t.1 2 j = nI (B j) := fun j hj => by rw [(hF.1 2 (by decide)).1]; exact hT j hj
    rw [f_X9_readRun_L12, vl_q, vl_q, h9, e1, if_leq (by omega) (by omega)]
    by_cases hc : n ≤ q + i
    · rw [if_pos hc]
      obtain rfl : i = n - q := by omega
      have : rlN B q n = n - q := ldN_full ha
      rw [this]
      exact ⟨t, rfl, hF, h9, h3, h4⟩
    · have hb := hB (q + i) (by omega)
      rw [if_neg hc, vl_q, ald_q (by omega) (by decide), eT _ (by omega)]
      have stop : isLt (B (q + i)) = false → isDg (B (q + i)) = false → rlN B q n = i := fun z w => ldN_eq (by omega) ha (by unfold isAl; rw [z, w]; rfl)
      have al : isAl (B (q + i)) = true → allN (fun i => isAl (B (q + i))) (i + 1) = true := fun z => by simp only [allN, ha, z, Bool.and_self]
      by_cases zl : isLt (B (q + i)) = true
      · have hl := Lt_i.mp zl
        have hd : ¬ isDg (B (q + i)) = true := fun w => by have := Dg_i.mp w; omega
        obtain ⟨t', e, r⟩ := ih (i + 1) (sI (sL t 1 3 (l64 (c5f B q (i + 1)))) 1 9 (nI (q + (i + 1)))) (by omega) (by omega) (al (by unfold isAl; rw [zl]; rfl)) ((hF.sL (by decide)).sI (by decide)) (by rw [sI1, if_pos rfl, if_pos rfl]) (by rw [sI2, sL2, if_pos rfl, if_pos rfl]) (by rw [sI1, if_pos rfl, if_neg (by decide), sL1, h4, vcf_s, if_neg hd])
        refine ⟨t', ?_, r⟩
        refine (jn_q _ _).trans ?_
        refine (jn_q _ _).trans ?_
        rw [if_ltq (by omega) (by decide), if_neg (by omega), if_ltq (by decide) (by omega), if_neg (by omega), vl_q, vl_q, vl_q, h3, nI_addq, nI_subq (by omega), nI_addq, nI_64 (by omega), l64_5]
        dsimp only
        rw [vl_q, vl_q, sL1, h9, nI_addq]
        rw [ltC_s, if_pos zl, dgC_s, if_neg hd, Nat.add_zero, c5f_s, if_pos zl] at e
        exact e
      · by_cases zd : isDg (B (q + i)) = true
        · have hd := Dg_i.mp zd
          obtain ⟨t', e, r⟩ := ih (i + 1) (sI (sI t 1 4 (nI (vcf B q (i + 1)))) 1 9 (nI (q + (i + 1)))) (by omega) (by omega) (al (by unfold isAl; rw [zd, Bool.or_true])) ((hF.sI (by decide)).sI (by decide)) (by rw [sI1, if_pos rfl, if_pos rfl]) (by rw [sI2, sI2, h3, c5f_s, if_neg zl]) (by rw [sI1, if_pos rfl, if_neg (by decide), sI1, if_pos rfl, if_pos rfl])
          refine ⟨t', ?_, r⟩
          refine (jn_q _ _).trans ?_
          refine (jn_q _ _).trans ?_
          rw [if_ltq (by omega) (by decide), if_pos (by omega), if_ltq (by omega) (by decide), if_neg (by omega), if_ltq (by decide) (by omega), if_neg (by omega), vl_q, vl_q, vl_q, h4, nI_addq, nI_subq (by omega), nI_mulq, nI_addq]
          dsimp only
          rw [vl_q, vl_q, sI1, if_pos rfl, if_neg (by decide), h9, nI_addq]
          rw [ltC_s, if_neg zl, dgC_s, if_pos zd, Nat.add_zero, vcf_s, if_pos zd] at e
          exact e
        · have e := stop (Bool.eq_false_iff.mpr zl) (Bool.eq_false_iff.mpr zd)
          rw [e]
          refine ⟨t, ?_, hF, h9, h3, h4⟩
          refine (jn_q _ _).trans ?_
          refine (jn_q _ _).trans ?_
          rw [if_ltq (by omega) (by decide), if_ltq (by omega) (by decide), if_ltq (by decide) (by omega), if_ltq (by decide) (by omega)]
          by_cases w : B (q + i) < 97
          · rw [if_pos w]
            by_cases w2 : B (q + i) < 48
            · rw [if_pos w2]
            · rw [if_neg w2, if_pos (by
                rcases Nat.lt_or_ge 57 (B (q + i)) with y | y
                · exact y
                · exact absurd (Dg_i.mpr ⟨by omega, y⟩) zd)]
          · rw [if_neg w, if_pos (by
              rcases Nat.lt_or_ge 122 (B (q + i)) with y | y
              · exact y
              · exact absurd (Lt_i.mpr ⟨by omega, y⟩) zl)]
            rw [if_neg (by omega), if_pos (by omega)]
/-- the kind of a run -/
def rkN (B : Nat → Nat) (q len : Nat) : Nat := if dgC B q len = 0 then (if 7 < ltC B q len then 4 else 1) else if ltC B q len = 0 then (if 3 < dgC B q len then 4 else 2) else 4
theorem c_readRun {s : St} (hN : 1000 ≤ N) (h1 : s.1 1 1 = nI n) (hT : ∀ j, j < n → s.1 2 j = nI (B j)) (hB : ∀ j, j < n → B j < 256) (hn : n ≤ 940) (hq : q ≤ n) (h8 : s.1 1 8 = nI q) (h3 : s.2 1 3 = l64 0) (h4 : s.1 1 4 = nI 0) : ∃ t, f_X9_readRun N s = some t ∧ FK 1 [2, 3, 4, 9] s t ∧ t.1 1 2 = nI (rkN B q (rlN B q n)) ∧ t.1 1 9 = nI (q + rlN B q n) ∧ t.2 1 3 = l64 (if rkN B q (rlN B q n) = 1 then c5f B q (rlN B q n) else 0) ∧ t.1 1 4 = nI (vcf B q (rlN B q n)) := by
  have hl1 := cntN_le (fun j => isLt (B (q + j))) (rlN B q n)
  have hl2 := cntN_le (fun j => isDg (B (q + j))) (rlN B q n)
  have hl3 : rlN B q n ≤ n - q := ldN_le _ _
  have hF0 : FK 1 [3, 4, 9] s (sI s 1 9 (nI q)) := FK.rf.sI (by decide)
  unfold f_X9_readRun
  rw [vl_q, h8, vl_q]
  obtain ⟨t, e, f, g9, g3, g4⟩ := c_runL (s := s) (N := N) (k6 := fun (v29 : Int32) (v30 : Int32) (s31 : St) =>
    jn (jn (fun (v33 : Int32) =>
        vl (sI s31 1 2 v33) fun s35 =>
        vl (sL s35 1 3 (0 : Int64)) fun s36 =>
        some s36) fun j34 =>
      jn (j34 (nI 4)) fun j37 =>
      if v29 = 0 then
        if (nI 3) < v30 then
          j37
        else
        j34 (nI 2)
      else
      j37) fun j32 =>
    if v30 = 0 then
      if (nI 7) < v29 then
        j32
      else
      vl (sI s31 1 2 (nI 1)) fun s38 =>
      some s38
    else
    j32) h1 hT hB hn hq N 0 (sI s 1 9 (nI q)) (by omega) (by omega) rfl hF0 (by rw [sI1, if_pos rfl, if_pos rfl]; rfl) h3 (by rw [sI1, if_pos rfl, if_neg (by decide)]; exact h4)
  rw [show nI (ltC B q 0) = nI 0 from rfl, show nI (dgC B q 0) = nI 0 from rfl] at e
  rw [e]
  have hF : FK 1 [2, 3, 4, 9] s t := f.mono (by decide)
  have d1 : ltC B q (rlN B q n) ≤ 940 := by unfold ltC; omega
  have d2 : dgC B q (rlN B q n) ≤ 940 := by unfold dgC; omega
  have bad : ∀ k, k ≠ 1 → k = rkN B q (rlN B q n) → ∃ t', some (sL (sI t 1 2 (nI k)) 1 3 (0 : Int64)) = some t' ∧ FK 1 [2, 3, 4, 9] s t' ∧ t'.1 1 2 = nI (rkN B q (rlN B q n)) ∧ t'.1 1 9 = nI (q + rlN B q n) ∧ t'.2 1 3 = l64 (if rkN B q (rlN B q n) = 1 then c5f B q (rlN B q n) else 0) ∧ t'.1 1 4 = nI (vcf B q (rlN B q n)) := fun k hk e => by
    refine ⟨_, rfl, (hF.sI (by decide)).sL (by decide), by rw [sL1, sI1, if_pos rfl, if_pos rfl, e], by rw [sL1, sI1, if_pos rfl, if_neg (by decide)]; exact g9, ?_, by rw [sL1, sI1, if_pos rfl, if_neg (by decide)]; exact g4⟩
    rw [← e, if_neg hk, sL2, if_pos rfl, if_pos rfl]; rfl
  rw [jn_q, jn_q, jn_q, if_eq0 (by omega), if_eq0 (by omega), if_ltq (by decide) (by omega), if_ltq (by decide) (by omega)]
  simp only [vl_q]
  by_cases z : dgC B q (rlN B q n) = 0
  · rw [if_pos z]
    by_cases w : 7 < ltC B q (rlN B q n)
    · rw [if_pos w, if_neg (by omega)]
      exact bad 4 (by decide) (by unfold rkN; rw [if_pos z, if_pos w])
    · rw [if_neg w]
      have e4 : rkN B q (rlN B q n) = 1 := by unfold rkN; rw [if_pos z, if_neg w]
      refine ⟨_, rfl, hF.sI (by decide), by rw [sI1, if_pos rfl, if_pos rfl, e4], by rw [sI1, if_pos rfl, if_neg (by decide)]; exact g9, by rw [sI2, if_pos e4]; exact g3, by rw [sI1, if_pos rfl, if_neg (by decide)]; exact g4⟩
  · rw [if_neg z]
    by_cases y : ltC B q (rlN B q n) = 0
    · rw [if_pos y]
      by_cases w : 3 < dgC B q (rlN B q n)
      · rw [if_pos w]; exact bad 4 (by decide) (by unfold rkN; rw [if_neg z, if_pos y, if_pos w])
      · rw [if_neg w]; exact bad 2 (by decide) (by unfold rkN; rw [if_neg z, if_pos y, if_neg w])
    · rw [if_neg y]; exact bad 4 (by decide) (by unfold rkN; rw [if_neg z, if_neg y])
/-! the model's run -/
/-- where the model's reading stands, i bytes on -/
def MFr (B : Nat → Nat) (q i : Nat) (s0 s : St) : Prop := FK 206 [4, 13, 14, 17] s0 s ∧ s.1 206 4 = nI (q + i) ∧ s.1 206 13 = nI i ∧ s.2 206 17 = l64 (w8f B q i) ∧ s.1 206 14 = nI (nmf B q i)
theorem w8f_s (B : Nat → Nat) (q i : Nat) : w8f B q (i + 1) = if i < 7 then w8f B q i * 256 + B (q + i) else w8f B q i := rfl
theorem nmf_s (B : Nat → Nat) (q i : Nat) : nmf B q (i + 1) = if i < 3 then 10 * nmf B q i + B (q + i) - 48 else nmf B q i := rfl
theorem m_tail {i : Nat} {s0 s : St} {K : St → Option St} (h3 : s0.1 206 3 = nI n) (hT : ∀ j, j < n → s0.1 207 j = sbt (B j)) (hB : ∀ j, j < n → B j < 256) (hn : n ≤ 940) (hq : q + i < n) (hb : 48 ≤ B (q + i)) (h : MFr B q i s0 s) : ∃ t, (vl (s.1 206 13) fun v37 =>
        jn (fun (s38 : St) =>
          vl (s38.1 206 13) fun v40 =>
          jn (fun (s41 : St) =>
            vl (s41.1 206 13) fun v43 =>
            vl (sI s41 206 13 (v43 + (nI 1))) fun s44 =>
            vl (s44.1 206 4) fun v45 =>
            vl (sI s44 206 4 (v45 + (nI 1))) fun s46 =>
            K s46) fun j42 =>
          if (nI 3) ≤ v40 then
            j42 s38
          else
          vl (s38.1 206 14) fun v47 =>
          bp (f_X12_peek s38) fun v48 =>
          vl (sI s38 206 14 ((((nI 10) * v47) + v48) - (nI 48))) fun s49 =>
          j42 s49) fun j39 =>
        if (nI 7) ≤ v37 then
          j39 s
        else
        vl (s.2 206 17) fun v50 =>
        bp (f_X12_peek s) fun v51 =>
        vl (sL s 206 17 ((lsl v50 (nI 8)) ||| v51.toInt64)) fun s52 =>
        j39 s52) = K t ∧ MFr B q (i + 1) s0 t := by
  obtain ⟨hF, h4, h13, h17, h14⟩ := h
  have hb2 := hB (q + i) hq
  have pk : ∀ u, FK 206 [4, 13, 14, 17] s0 u → u.1 206 4 = nI (q + i) → f_X12_peek u = some (nI (B (q + i))) := fun u hu h4u => by
    rw [m_peek (n := n) (p := q + i) (by rw [(hu.2 3 (by decide)).1]; exact h3) (fun j hj => by rw [(hu.1 207 (by decide)).1]; exact hT j hj) hB hn h4u (by omega), if_pos hq]
  have fin : ∀ u, FK 206 [4, 13, 14, 17] s0 u → u.1 206 4 = nI (q + i) → u.1 206 13 = nI i → u.2 206 17 = l64 (w8f B q (i + 1)) → u.1 206 14 = nI (nmf B q (i + 1)) → (vl (u.1 206 13) fun v43 => vl (sI u 206 13 (v43 + (nI 1))) fun s44 => vl (s44.1 206 4) fun v45 => vl (sI s44 206 4 (v45 + (nI 1))) fun s46 => K s46) = K (sI (sI u 206 13 (nI (i + 1))) 206 4 (nI (q + (i + 1)))) ∧ MFr B q (i + 1) s0 (sI (sI u 206 13 (nI (i + 1))) 206 4 (nI (q + (i + 1)))) := fun u g1 g2 g3 g4 g5 => by
    refine ⟨?_, (g1.sI (by decide)).sI (by decide), by rw [sI1, if_pos rfl, if_pos rfl], by rw [sI1, if_pos rfl, if_neg (by decide), sI1, if_pos rfl, if_pos rfl], g4, by rw [sI1, if_pos rfl, if_neg (by decide), sI1, if_pos rfl, if_neg (by decide)]; exact g5⟩
    rw [vl_q, vl_q, vl_q, vl_q, g3, nI_addq, sI1, if_pos rfl, if_neg (by decide), g2, nI_addq]
    rfl
  have mid : ∀ u, FK 206 [4, 13, 14, 17] s0 u → u.1 206 4 = nI (q + i) → u.1 206 13 = nI i → u.2 206 17 = l64 (w8f B q (i + 1)) → u.1 206 14 = nI (nmf B q i) → ∃ t, (vl (u.1 206 13) fun v40 =>
          jn (fun (s41 : St) =>
            vl (s41.1 206 13) fun v43 =>
            vl (sI s41 206 13 (v43 + (nI 1))) fun s44 =>
            vl (s44.1 206 4) fun v45 =>
            vl (sI s44 206 4 (v45 + (nI 1))) fun s46 =>
            K s46) fun j42 =>
          if (nI 3) ≤ v40 then
            j42 u
          else
          vl (u.1 206 14) fun v47 =>
          bp (f_X12_peek u) fun v48 =>
          vl (sI u 206 14 ((((nI 10) * v47) + v48) - (nI 48))) fun s49 =>
          j42 s49) = K t ∧ MFr B q (i + 1) s0 t := fun u g1 g2 g3 g4 g5 => by
    rw [vl_q, g3, jn_q, if_leq (by decide) (by omega)]
    by_cases z : 3 ≤ i
    · obtain ⟨a, b⟩ := fin u g1 g2 g3 g4 (by rw [nmf_s, if_neg (by omega)]; exact g5)
      rw [if_pos z]
      exact ⟨_, a, b⟩
    · obtain ⟨a, b⟩ := fin (sI u 206 14 (nI (nmf B q (i + 1)))) (g1.sI (by decide)) (by rw [sI1, if_pos rfl, if_neg (by decide)]; exact g2) (by rw [sI1, if_pos rfl, if_neg (by decide)]; exact g3) g4 (by rw [sI1, if_pos rfl, if_pos rfl])
      rw [if_neg z, vl_q, pk u g1 g2, bp_q, vl_q, g5, nI_mulq, nI_addq, nI_subq (by omega)]
      rw [nmf_s, if_pos (by omega)] at a b
      exact ⟨_, a, b⟩
  rw [vl_q, h13, jn_q, if_leq (by decide) (by omega)]
  by_cases z : 7 ≤ i
  · rw [if_pos z]
    exact mid s hF h4 h13 (by rw [w8f_s, if_neg (by omega)]; exact h17) h14
  · rw [if_neg z, vl_q, pk s hF h4, bp_q, vl_q, h17, nI_64 (by omega), l64_8 hb2]
    exact mid (sL s 206 17 (l64 (w8f B q i * 256 + B (q + i)))) (hF.sL (by decide)) h4 h13 (by rw [sL2, if_pos rfl, if_pos rfl, w8f_s, if_pos (by omega)]) h14
theorem bp_h {α T : Type} {x : Option α} {v : α} {K : α → Option T} (h : x = some v) : bp x K = K v := by rw [h]; rfl
theorem bd_h {α T : Type} {x : Option (α × St)} {v : α} {s : St} {K : α → St → Option T} (h : x = some (v, s)) : bd x K = K v s := by rw [h]; rfl
theorem m_isSmall {b : Nat} (h : b < 256) (τ : St) : f_X12_isSmall (nI b) τ = some (bI (isLt b)) := by
  unfold f_X12_isSmall isLt
  rw [jn_q, if_ltq (by omega) (by decide), if_ltq (by decide) (by omega)]
  by_cases z : b < 97
  · rw [if_pos z, decide_eq_false (by omega)]; rfl
  · rw [if_neg z]
    by_cases w : 122 < b
    · rw [if_pos w, decide_eq_false (by omega)]; rfl
    · rw [if_neg w, decide_eq_true (by omega)]; rfl
theorem m_isDigit {b : Nat} (h : b < 256) (τ : St) : f_X12_isDigit (nI b) τ = some (bI (isDg b)) := by
  unfold f_X12_isDigit isDg
  rw [jn_q, if_ltq (by omega) (by decide), if_ltq (by decide) (by omega)]
  by_cases z : b < 48
  · rw [if_pos z, decide_eq_false (by omega)]; rfl
  · rw [if_neg z]
    by_cases w : 57 < b
    · rw [if_pos w, decide_eq_false (by omega)]; rfl
    · rw [if_neg w, decide_eq_true (by omega)]; rfl
/-- all of the first i are small letters, or none is -/
def sameL (B : Nat → Nat) (q : Nat) (sm : Bool) (i : Nat) : Bool := allN (fun j => isLt (B (q + j)) == sm) i
theorem m_runL {s0 : St} {sm : Bool} {k27 : Int32 → St → Option St} (h3 : s0.1 206 3 = nI n) (hT : ∀ j, j < n → s0.1 207 j = sbt (B j)) (hB : ∀ j, j < n → B j < 256) (hn : n ≤ 940) (hq : q ≤ n) : ∀ m i s, i ≤ n - q → n - q - i < m → allN (fun i => isAl (B (q + i))) i = true → MFr B q i s0 s → ∃ t, f_X12_next_L181 N (bI sm) k27 m (bI (sameL B q sm i)) s = k27 (bI (sameL B q sm (rlN B q n))) t ∧ MFr B q (rlN B q n) s0 t := by
  intro m
  induction m with
  | zero => intro i s _ h; omega
  | succ m ih =>
    intro i s hi hm ha hM
    obtain ⟨hF, h4, h13, h17, h14⟩ := id hM
    have pk0 : f_X12_peek s = some (if q + i < n then nI (B (q + i)) else -1) := m_peek (n := n) (p := q + i) (by rw [(hF.2 3 (by decide)).1]; exact h3) (fun j hj => by rw [(hF.1 207 (by decide)).1]; exact hT j hj) hB hn h4 (by omega)
    by_cases hc : q + i < n
    · have hb := hB (q + i) hc
      have pk : f_X12_peek s = some (nI (B (q + i))) := by rw [pk0, if_pos hc]
      have go : isAl (B (q + i)) = true → ∃ t, (jn (fun (v35 : Int32) => vl (s.1 206 13) fun v37 =>
        jn (fun (s38 : St) =>
          vl (s38.1 206 13) fun v40 =>
          jn (fun (s41 : St) =>
            vl (s41.1 206 13) fun v43 =>
            vl (sI s41 206 13 (v43 + (nI 1))) fun s44 =>
            vl (s44.1 206 4) fun v45 =>
            vl (sI s44 206 4 (v45 + (nI 1))) fun s46 =>
            f_X12_next_L181 N (bI sm) k27 m v35 s46) fun j42 =>
          if (nI 3) ≤ v40 then
            j42 s38
          else
          vl (s38.1 206 14) fun v47 =>
          bp (f_X12_peek s38) fun v48 =>
          vl (sI s38 206 14 ((((nI 10) * v47) + v48) - (nI 48))) fun s49 =>
          j42 s49) fun j39 =>
        if (nI 7) ≤ v37 then
          j39 s
        else
        vl (s.2 206 17) fun v50 =>
        bp (f_X12_peek s) fun v51 =>
        vl (sL s 206 17 ((lsl v50 (nI 8)) ||| v51.toInt64)) fun s52 =>
        j39 s52) fun j36 => jn (j36 (nI 0)) fun j53 => if bI (sameL B q sm i) = 0 then j53 else bp (f_X12_peek s) fun v54 => bp (f_X12_isSmall v54 s) fun v55 => if v55 = bI sm then j36 (nI 1) else j53) = k27 (bI (sameL B q sm (rlN B q n))) t ∧ MFr B q (rlN B q n) s0 t := fun z => by
        have hb48 : 48 ≤ B (q + i) := by
          unfold isAl at z
          rcases Bool.or_eq_true_iff.mp z with y | y
          · have := Lt_i.mp y; omega
          · have := Dg_i.mp y; omega
        have tl := fun (v : Int32) => m_tail (i := i) (s0 := s0) (s := s) (K := fun s46 => f_X12_next_L181 N (bI sm) k27 m v s46) h3 hT hB hn hc hb48 hM
        have al : allN (fun i => isAl (B (q + i))) (i + 1) = true := by simp only [allN, ha, z, Bool.and_self]
        have e1 : sameL B q sm (i + 1) = (sameL B q sm i && (isLt (B (q + i)) == sm)) := rfl
        rcases Bool.eq_false_or_eq_true (sameL B q sm i) with y | y
        · by_cases w : isLt (B (q + i)) = sm
          · obtain ⟨t1, g1, g2⟩ := tl (nI 1)
            obtain ⟨t2, g3, g4⟩ := ih (i + 1) t1 (by omega) (by omega) al g2
            rw [e1, y, w, show (true && (sm == sm)) = true from by cases sm <;> rfl, bI_t] at g3
            refine ⟨t2, ?_, g4⟩
            refine (jn_q _ _).trans ?_
            refine (jn_q _ _).trans ?_
            refine if_bI.trans ?_
            refine (if_pos y).trans ?_
            refine (bp_h pk).trans ?_
            refine (bp_h (m_isSmall hb s)).trans ?_
            refine (if_pos (by rw [w])).trans ?_
            exact g1.trans g3
          · obtain ⟨t1, g1, g2⟩ := tl (nI 0)
            obtain ⟨t2, g3, g4⟩ := ih (i + 1) t1 (by omega) (by omega) al g2
            rw [e1, y, show (isLt (B (q + i)) == sm) = false from by simpa using w, Bool.and_false, bI_f] at g3
            refine ⟨t2, ?_, g4⟩
            refine (jn_q _ _).trans ?_
            refine (jn_q _ _).trans ?_
            refine if_bI.trans ?_
            refine (if_pos y).trans ?_
            refine (bp_h pk).trans ?_
            refine (bp_h (m_isSmall hb s)).trans ?_
            refine (if_neg (by revert w; cases isLt (B (q + i)) <;> cases sm <;> decide)).trans ?_
            exact g1.trans g3
        · obtain ⟨t1, g1, g2⟩ := tl (nI 0)
          obtain ⟨t2, g3, g4⟩ := ih (i + 1) t1 (by omega) (by omega) al g2
          rw [e1, y, Bool.false_and, bI_f] at g3
          refine ⟨t2, ?_, g4⟩
          refine (jn_q _ _).trans ?_
          refine (jn_q _ _).trans ?_
          refine if_bI.trans ?_
          refine (if_neg (by rw [y]; decide)).trans ?_
          exact g1.trans g3
      by_cases zl : isLt (B (q + i)) = true
      · obtain ⟨t, e, r⟩ := go (by unfold isAl; rw [zl]; rfl)
        refine ⟨t, ?_, r⟩
        rw [f_X12_next_L181]
        refine (bp_h pk).trans ?_
        refine (bp_h (m_isSmall hb s)).trans ?_
        refine (jn_q _ _).trans ?_
        refine if_bI.trans ?_
        refine (if_pos zl).trans ?_
        exact e
      · by_cases zd : isDg (B (q + i)) = true
        · obtain ⟨t, e, r⟩ := go (by unfold isAl; rw [zd, Bool.or_true])
          refine ⟨t, ?_, r⟩
          rw [f_X12_next_L181]
          refine (bp_h pk).trans ?_
          refine (bp_h (m_isSmall hb s)).trans ?_
          refine (jn_q _ _).trans ?_
          refine if_bI.trans ?_
          refine (if_neg zl).trans ?_
          refine (bp_h pk).trans ?_
          refine (bp_h (m_isDigit hb s)).trans ?_
          refine if_bI.trans ?_
          refine (if_pos zd).trans ?_
          exact e
        · have e : rlN B q n = i := ldN_eq (by omega) ha (by unfold isAl; rw [Bool.eq_false_iff.mpr zl, Bool.eq_false_iff.mpr zd]; rfl)
          rw [e]
          refine ⟨s, ?_, hM⟩
          rw [f_X12_next_L181]
          refine (bp_h pk).trans ?_
          refine (bp_h (m_isSmall hb s)).trans ?_
          refine (jn_q _ _).trans ?_
          refine if_bI.trans ?_
          refine (if_neg zl).trans ?_
          refine (bp_h pk).trans ?_
          refine (bp_h (m_isDigit hb s)).trans ?_
          refine if_bI.trans ?_
          exact if_neg zd
    · have e : rlN B q n = i := by
        obtain rfl : i = n - q := by omega
        exact ldN_full ha
      rw [e]
      refine ⟨s, ?_, hM⟩
      have pk : f_X12_peek s = some (-1) := by rw [pk0, if_neg hc]
      have s1 : f_X12_isSmall (-1) s = some (nI 0) := by unfold f_X12_isSmall; rw [jn_q, if_pos (by decide)]
      have d1 : f_X12_isDigit (-1) s = some (nI 0) := by unfold f_X12_isDigit; rw [jn_q, if_pos (by decide)]
      rw [f_X12_next_L181]
      refine (bp_h pk).trans ?_
      refine (bp_h s1).trans ?_
      refine (jn_q _ _).trans ?_
      refine (if_pos (by decide)).trans ?_
      refine (bp_h pk).trans ?_
      refine (bp_h d1).trans ?_
      exact if_pos (by decide)
end Run
