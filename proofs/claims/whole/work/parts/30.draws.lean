/-! seconds by draws: both sides -/
def uN0 (x : Int32) : Nat := x.toUInt32.toNat / 256
theorem uN0_lt (x : Int32) : uN0 x < 16777216 := by
  have := x.toUInt32.toNat_lt
  unfold uN0
  omega
theorem ush0_q (x : Int32) : ush x (nI 8) = nI (uN0 x) := by
  unfold ush uN0 nI
  apply Int32.toBitVec_inj.mp
  apply BitVec.eq_of_toNat_eq
  have e : ((Int32.ofNat 8).toUInt32 &&& Int32.toUInt32 31) = (8 : UInt32) := by decide
  rw [e]
  have h := x.toUInt32.toNat_lt
  have e2 : (x.toUInt32 >>> (8 : UInt32)).toNat = x.toUInt32.toNat / 256 := by
    rw [UInt32.toNat_shiftRight]
    simp [Nat.shiftRight_eq_div_pow]
  show (x.toUInt32 >>> (8 : UInt32)).toNat = _
  rw [e2]
  simp only [Int32.toBitVec_ofNat', BitVec.toNat_ofNat]
  omega
/-! a draw's number and the next seed, closed to the kernel -/
theorem uN_ex : ∃ u : Int32 → Nat, ∀ x, u x < 16777216 ∧ ush x (nI 8) = nI (u x) := ⟨uN0, fun x => ⟨uN0_lt x, ush0_q x⟩⟩
noncomputable def uN : Int32 → Nat := Classical.choose uN_ex
theorem uN_lt (x : Int32) : uN x < 16777216 := (Classical.choose_spec uN_ex x).1
theorem ush_q (x : Int32) : ush x (nI 8) = nI (uN x) := (Classical.choose_spec uN_ex x).2
theorem stp_ex : ∃ t : Int32 → Int32, ∀ x, x * (1103515245 : Int32) + nI 12345 = t x := ⟨_, fun _ => rfl⟩
noncomputable def stp : Int32 → Int32 := Classical.choose stp_ex
theorem stp_e (x : Int32) : x * (1103515245 : Int32) + nI 12345 = stp x := Classical.choose_spec stp_ex x
theorem c_draw {s : St} {x : Int32} {n : Nat} (h : s.1 131 0 = x) (h0 : 0 < n) (hn : n < 1000) : f_X2_draw (nI n) s = some (nI (uN (stp x) % n), sI s 131 0 (stp x)) := by
  have hu := uN_lt (stp x)
  unfold f_X2_draw
  simp only [vl_q]
  rw [h, stp_e, sI1, if_pos rfl, if_pos rfl, ush_q, c_remainder (by omega) h0 (by omega), bp_q]
theorem m_draw {s : St} {x : Int32} {n : Nat} (h : s.1 206 39 = x) (h0 : 0 < n) (hn : n < 1000) : f_X12_draw (nI n) s = some (nI (uN (stp x) % n), sI s 206 39 (stp x)) := by
  have hu := uN_lt (stp x)
  unfold f_X12_draw
  simp only [vl_q]
  rw [h, stp_e, sI1, if_pos rfl, if_pos rfl, ush_q, rm_q (by omega) h0 (by omega)]
/-- doused, or, if it is out, kindled -/
def dkT (S : Nat → Nat) (l : Nat) : Nat → Nat := if S 148 / 2 ^ l % 2 = 1 then actR (kinW S l) (kinT S l) S else douT S l
/-- a second's draw: w of what, l of lights, k of ships, c of courses, o of oil, h of haze -/
def drwG (w l k c o h : Nat) (x1 x2 x3 : Int32) (S : Nat → Nat) : Int32 × (Nat → Nat) :=
  if w = 0 ∧ 0 < S 0 then (x2, dkT S l)
  else if w = 1 ∧ 0 < S 1 then (x3, steT S k c)
  else if w = 2 ∧ 0 < S 0 then (x3, actR (filW S l (o + 1)) (filT S l (o + 1)) S)
  else if w = 3 then (x2, hazT S (h + 1))
  else (x1, S)
noncomputable def drwS (x : Int32) (S : Nat → Nat) : Int32 × (Nat → Nat) := drwG (uN (stp x) % 6) (uN (stp (stp x)) % S 0) (uN (stp (stp x)) % S 1) (uN (stp (stp (stp x))) % 9) (uN (stp (stp (stp x))) % 20) (uN (stp (stp x)) % 30) (stp x) (stp (stp x)) (stp (stp (stp x))) S
theorem dkT_ok {S : Nat → Nat} {l : Nat} (h0 : S 0 ≤ 8) (hW : WFW S) (hl : l < S 0) : sameO S (dkT S l) ∧ WFW (dkT S l) ∧ dkT S l 147 = S 147 := by
  unfold dkT
  by_cases q : S 148 / 2 ^ l % 2 = 1
  · rw [if_pos q]
    unfold actR
    split
    · exact ⟨(sameO.rf S).put (by decide) (by decide) _, kinT_W hW, put_ne (show 147 ≠ 148 by decide)⟩
    · exact ⟨sameO.rf S, hW, rfl⟩
  · rw [if_neg q]
    exact ⟨(sameO.rf S).put (by decide) (by decide) _, douT_W h0 hW hl (if_neg q), put_ne (show 147 ≠ 148 by decide)⟩
theorem drwG_ok {S : Nat → Nat} {w l k c o h : Nat} (x1 x2 x3 : Int32) (hC : WFC S) (hW : WFW S) (hl : 0 < S 0 → l < S 0) (hk : 0 < S 1 → k < S 1) (hc : c < 9) (hh : h < 30) : sameO S (drwG w l k c o h x1 x2 x3 S).2 ∧ WFW (drwG w l k c o h x1 x2 x3 S).2 ∧ (drwG w l k c o h x1 x2 x3 S).2 147 = S 147 := by
  have c1 := hC.1
  have c2 := hC.2.1
  unfold drwG
  by_cases w0 : w = 0 ∧ 0 < S 0
  · rw [if_pos w0]; exact dkT_ok c1 hW (hl w0.2)
  rw [if_neg w0]
  by_cases w1 : w = 1 ∧ 0 < S 1
  · have := hk w1.2
    rw [if_pos w1]; exact ⟨(sameO.rf S).put (by omega) (by omega) _, steT_W (hk w1.2) c1 c2 hW (by omega), put_ne (show 147 ≠ 174 + k by omega)⟩
  rw [if_neg w1]
  by_cases w2 : w = 2 ∧ 0 < S 0
  · have := hl w2.2
    rw [if_pos w2]
    dsimp only
    unfold actR
    split
    · next q => exact ⟨(sameO.rf S).put (by omega) (by omega) _, filT_W this c1 hW q, put_ne (show 147 ≠ 150 + l by omega)⟩
    · exact ⟨sameO.rf S, hW, rfl⟩
  rw [if_neg w2]
  by_cases w3 : w = 3
  · rw [if_pos w3]
    exact ⟨(sameO.rf S).put (by decide) (by decide) _, hazT_W hW (by omega), put_ne (S := S) (v := h + 1) (show 147 ≠ 149 by decide)⟩
  · rw [if_neg w3]
    exact ⟨sameO.rf S, hW, rfl⟩

theorem drwS_ok {S : Nat → Nat} (x : Int32) (hC : WFC S) (hW : WFW S) : sameO S (drwS x S).2 ∧ WFW (drwS x S).2 ∧ (drwS x S).2 147 = S 147 := by
  have h1 := fun h => Nat.mod_lt (uN (stp (stp x))) (y := S 0) h
  have h2 := fun h => Nat.mod_lt (uN (stp (stp x))) (y := S 1) h
  have h3 := Nat.mod_lt (uN (stp (stp (stp x)))) (y := 9) (by decide)
  have h4 := Nat.mod_lt (uN (stp (stp x))) (y := 30) (by decide)
  have h5 : drwS x S = drwG (uN (stp x) % 6) (uN (stp (stp x)) % S 0) (uN (stp (stp x)) % S 1) (uN (stp (stp (stp x))) % 9) (uN (stp (stp (stp x))) % 20) (uN (stp (stp x)) % 30) (stp x) (stp (stp x)) (stp (stp (stp x))) S := by unfold drwS; rfl
  rw [h5]
  generalize uN (stp x) % 6 = w at *
  generalize uN (stp (stp x)) % S 0 = l at *
  generalize uN (stp (stp x)) % S 1 = k at *
  generalize uN (stp (stp (stp x))) % 9 = c at *
  generalize uN (stp (stp (stp x))) % 20 = o at *
  generalize uN (stp (stp x)) % 30 = h at *
  generalize stp (stp (stp x)) = x3 at *
  generalize stp (stp x) = x2 at *
  generalize stp x = x1 at *
  exact drwG_ok x1 x2 x3 hC hW h1 h2 h3 h4
theorem put_same {S : Nat → Nat} {k v : Nat} (h : S k = v) : put S k v = S := by
  funext j
  unfold put
  split
  · next e => rw [e, h]
  · rfl
theorem steR {S : Nat → Nat} {k c : Nat} : actR (steW S k c) (steT S k c) S = steT S k c := by
  unfold actR steW
  by_cases q : S (174 + k) = c
  · rw [if_pos q, if_neg (by decide)]; exact (put_same q).symm
  · rw [if_neg q, if_pos rfl]
theorem hazR {S : Nat → Nat} {n : Nat} : actR (hazW S n) (hazT S n) S = hazT S n := by
  unfold actR hazW
  by_cases q : S 149 = n
  · rw [if_pos q, if_neg (by decide)]; exact (put_same q).symm
  · rw [if_neg q, if_pos rfl]
theorem r131 : reg 131 = 19 := by decide +kernel
theorem F131 {s : St} {v : Int32} : Fr [19] s (sI s 131 0 v) := Fr.rf.sI (by decide +kernel)
theorem n131 {b : Nat} (hr : reg b ≠ 19) : reg 131 ∉ [reg b] := fun z => by rw [r131] at z; exact hr (List.mem_singleton.mp z).symm
theorem if2_n {T : Type} {w n m : Nat} {J B : T} (hw : w < 1000) (hn : n < 1000) (hm : m < 1000) (h : ¬ (w = n ∧ 0 < m)) : (if nI w = nI n then (if nI m ≤ 0 then J else B) else J) = J := by
  rw [if_eqq (by omega) (by omega), if_le0 (by omega)]
  by_cases q : w = n
  · rw [if_pos q, if_pos (by omega)]
  · rw [if_neg q]
theorem if2_p {T : Type} {w n m : Nat} {J B : T} (hw : w < 1000) (hn : n < 1000) (hm : m < 1000) (h : w = n ∧ 0 < m) : (if nI w = nI n then (if nI m ≤ 0 then J else B) else J) = B := by
  rw [if_eqq (by omega) (by omega), if_le0 (by omega), if_pos h.1, if_neg (by omega)]
theorem if20_n {T : Type} {w m : Nat} {J B : T} (hw : w < 1000) (hm : m < 1000) (h : ¬ (w = 0 ∧ 0 < m)) : (if nI w = 0 then (if nI m ≤ 0 then J else B) else J) = J := if2_n (n := 0) hw (by decide) hm h
theorem if20_p {T : Type} {w m : Nat} {J B : T} (hw : w < 1000) (hm : m < 1000) (h : w = 0 ∧ 0 < m) : (if nI w = 0 then (if nI m ≤ 0 then J else B) else J) = B := if2_p (n := 0) hw (by decide) hm h
theorem ifa_n {T : Type} {S : Nat → Nat} {τ : St} {w n i : Nat} {J B : Option T} (hR : RS S τ) (hi : i < 359) (hw : w < 1000) (hn : n < 1000) (hm : S i < 1000) (h : ¬ (w = n ∧ 0 < S i)) : (if nI w = nI n then (ald (τ.1 208) 359 (nI i) fun v => if v ≤ 0 then J else B) else J) = J := by
  rw [ald_S hR hi]; exact if2_n hw hn hm h
theorem ifa_p {T : Type} {S : Nat → Nat} {τ : St} {w n i : Nat} {J B : Option T} (hR : RS S τ) (hi : i < 359) (hw : w < 1000) (hn : n < 1000) (hm : S i < 1000) (h : w = n ∧ 0 < S i) : (if nI w = nI n then (ald (τ.1 208) 359 (nI i) fun v => if v ≤ 0 then J else B) else J) = B := by
  rw [ald_S hR hi]; exact if2_p hw hn hm h
theorem ifa0_n {T : Type} {S : Nat → Nat} {τ : St} {w i : Nat} {J B : Option T} (hR : RS S τ) (hi : i < 359) (hw : w < 1000) (hm : S i < 1000) (h : ¬ (w = 0 ∧ 0 < S i)) : (if nI w = 0 then (ald (τ.1 208) 359 (nI i) fun v => if v ≤ 0 then J else B) else J) = J := ifa_n (n := 0) hR hi hw (by decide) hm h
theorem ifa0_p {T : Type} {S : Nat → Nat} {τ : St} {w i : Nat} {J B : Option T} (hR : RS S τ) (hi : i < 359) (hw : w < 1000) (hm : S i < 1000) (h : w = 0 ∧ 0 < S i) : (if nI w = 0 then (ald (τ.1 208) 359 (nI i) fun v => if v ≤ 0 then J else B) else J) = B := ifa_p (n := 0) hR hi hw (by decide) hm h
theorem c_actG {S : Nat → Nat} {s : St} {b w l k c o h : Nat} {x1 x2 x3 : Int32} (hb : sh b = 6) (hr9 : reg b ≠ 19) (hC : WFC S) (hW : WFW S) (hM : CRel s 3 4 5 S) (hS : SRel s b S) (hw6 : w < 6) (hd6 : f_X2_draw (nI 6) s = some (nI w, sI s 131 0 x1)) (hdl : 0 < S 0 → f_X2_draw (nI (S 0)) (sI s 131 0 x1) = some (nI l, sI s 131 0 x2) ∧ l < S 0) (hdk : 0 < S 1 → f_X2_draw (nI (S 1)) (sI s 131 0 x1) = some (nI k, sI s 131 0 x2) ∧ k < S 1) (hdh : f_X2_draw (nI 30) (sI s 131 0 x1) = some (nI h, sI s 131 0 x2)) (hh : h < 30) (hd9 : f_X2_draw (nI 9) (sI s 131 0 x2) = some (nI c, sI s 131 0 x3)) (hc : c < 9) (hd20 : f_X2_draw (nI 20) (sI s 131 0 x2) = some (nI o, sI s 131 0 x3)) (ho : o < 20) : ∃ s', f_X2_act b s = some s' ∧ SRel s' b (drwG w l k c o h x1 x2 x3 S).2 ∧ s'.1 131 0 = (drwG w l k c o h x1 x2 x3 S).1 := by
  have c1 := hC.1
  have c2 := hC.2.1
  have n19 : reg b ∉ [19] := fun z => hr9 (List.mem_singleton.mp z)
  have k1 : ∀ v, SRel (sI s 131 0 v) b S ∧ CRel (sI s 131 0 v) 3 4 5 S := fun v => ⟨SRel_fr hb F131 n19 hS, CRel_fr F131 (by decide) c1 c2 hM⟩
  have z1 : ∀ (s : St) v, (sI s 131 0 v).1 131 0 = v := fun s v => by rw [sI1, if_pos rfl, if_pos rfl]
  have sd : ∀ {s1 s2 : St}, Fr [reg b] s1 s2 → s2.1 131 0 = s1.1 131 0 := fun h => by rw [fr_row h (n131 hr9)]
  unfold f_X2_act drwG
  rw [vl_q, vl_q, hM.1, hM.2.1, hd6, bd_q]
  by_cases w0 : w = 0 ∧ 0 < S 0
  · obtain ⟨d1, d2⟩ := hdl w0.2
    have hS2 := (k1 x2).1
    rw [if_pos w0]
    unfold dkT
    by_cases q : S 148 / 2 ^ l % 2 = 1
    · obtain ⟨s3, e3, r3⟩ := c_relight (l := l) hb c1 c2 hW hS2 d2
      rw [if_pos q]
      refine ⟨s3, ?_, r3, by rw [sd (fr_X6_relight hb (fun x hx => absurd hx List.not_mem_nil) (List.mem_singleton.mpr rfl) e3), z1]⟩
      refine (jn_q _ _).trans ?_
      refine (if20_p (by omega) (by omega) w0).trans ?_
      rw [d1, bd_q]
      unfold f_X2_douseOrKindle
      rw [c_isOut hW.2.1.1 hS2 (by omega), bp_q, if_bI, if_pos (decide_eq_true q), e3, bd_q, bp_q]
    · obtain ⟨s3, e3, r3⟩ := c_putOut (l := l) hb c1 c2 hW hS2 d2
      have hw : douW S l = 0 := if_neg q
      rw [hw] at r3
      unfold actR at r3
      rw [if_pos rfl] at r3
      rw [if_neg q]
      refine ⟨s3, ?_, r3, by rw [sd (fr_X6_putOut hb (fun x hx => absurd hx List.not_mem_nil) (List.mem_singleton.mpr rfl) e3), z1]⟩
      refine (jn_q _ _).trans ?_
      refine (if20_p (by omega) (by omega) w0).trans ?_
      rw [d1, bd_q]
      unfold f_X2_douseOrKindle
      rw [c_isOut hW.2.1.1 hS2 (by omega), bp_q, if_bI, if_neg (fun z => q (of_decide_eq_true z)), e3, bd_q, bp_q]
  rw [if_neg w0]
  by_cases w1 : w = 1 ∧ 0 < S 1
  · obtain ⟨d1, d2⟩ := hdk w1.2
    rw [if_pos w1]
    obtain ⟨s3, e3, r3⟩ := c_turn (k := k) (c := c) hb c1 c2 hW (k1 x3).1 d2 (by omega)
    rw [steR] at r3
    refine ⟨s3, ?_, r3, by rw [sd (fr_X6_turn hb (fun x hx => absurd hx List.not_mem_nil) (List.mem_singleton.mpr rfl) e3), z1]⟩
    refine (jn_q _ _).trans ?_
    refine (if20_n (by omega) (by omega) w0).trans ?_
    refine (jn_q _ _).trans ?_
    refine (if2_p (by omega) (by omega) (by omega) w1).trans ?_
    rw [d1, bd_q, hd9, bd_q, e3, bd_q]
  rw [if_neg w1]
  by_cases w2 : w = 2 ∧ 0 < S 0
  · obtain ⟨d1, d2⟩ := hdl w2.2
    rw [if_pos w2]
    obtain ⟨s3, e3, r3⟩ := c_pourInto (l := l) (n := o + 1) hb c1 c2 hW (k1 x3).1 d2 (by omega)
    refine ⟨s3, ?_, r3, by rw [sd (fr_X6_pourInto hb (fun x hx => absurd hx List.not_mem_nil) (List.mem_singleton.mpr rfl) e3), z1]⟩
    refine (jn_q _ _).trans ?_
    refine (if20_n (by omega) (by omega) w0).trans ?_
    refine (jn_q _ _).trans ?_
    refine (if2_n (by omega) (by omega) (by omega) w1).trans ?_
    refine (jn_q _ _).trans ?_
    refine (if2_p (by omega) (by omega) (by omega) w2).trans ?_
    rw [d1, bd_q, hd20, bd_q, nI_addq, e3, bd_q]
  rw [if_neg w2]
  by_cases w3 : w = 3
  · rw [if_pos w3]
    obtain ⟨s3, e3, r3⟩ := c_setHaze (n := h + 1) hb c1 c2 hW (k1 x2).1 (by omega)
    rw [hazR] at r3
    refine ⟨s3, ?_, r3, by rw [sd (fr_X6_setHaze hb (fun x hx => absurd hx List.not_mem_nil) (List.mem_singleton.mpr rfl) e3), z1]⟩
    refine (jn_q _ _).trans ?_
    refine (if20_n (by omega) (by omega) w0).trans ?_
    refine (jn_q _ _).trans ?_
    refine (if2_n (by omega) (by omega) (by omega) w1).trans ?_
    refine (jn_q _ _).trans ?_
    refine (if2_n (by omega) (by omega) (by omega) w2).trans ?_
    rw [if_eqq (by omega) (by decide), if_pos w3, hdh, bd_q, nI_addq, e3, bd_q]
  · rw [if_neg w3]
    refine ⟨_, ?_, (k1 x1).1, z1 _ _⟩
    refine (jn_q _ _).trans ?_
    refine (if20_n (by omega) (by omega) w0).trans ?_
    refine (jn_q _ _).trans ?_
    refine (if2_n (by omega) (by omega) (by omega) w1).trans ?_
    refine (jn_q _ _).trans ?_
    refine (if2_n (by omega) (by omega) (by omega) w2).trans ?_
    rw [if_eqq (by omega) (by decide), if_neg w3]
theorem m_dsG {S : Nat → Nat} {s : St} {w l k c o h : Nat} {x1 x2 x3 : Int32} (hC : WFC S) (hW : WFW S) (hR : RS S s) (hw6 : w < 6) (hd6 : f_X12_draw (nI 6) s = some (nI w, sI s 206 39 x1)) (hdl : 0 < S 0 → f_X12_draw (nI (S 0)) (sI s 206 39 x1) = some (nI l, sI s 206 39 x2) ∧ l < S 0) (hdk : 0 < S 1 → f_X12_draw (nI (S 1)) (sI s 206 39 x1) = some (nI k, sI s 206 39 x2) ∧ k < S 1) (hdh : f_X12_draw (nI 30) (sI s 206 39 x1) = some (nI h, sI s 206 39 x2)) (hh : h < 30) (hd9 : f_X12_draw (nI 9) (sI s 206 39 x2) = some (nI c, sI s 206 39 x3)) (hc : c < 9) (hd20 : f_X12_draw (nI 20) (sI s 206 39 x2) = some (nI o, sI s 206 39 x3)) (ho : o < 20) : ∃ s', f_X12_drawSecond s = some s' ∧ RS (drwG w l k c o h x1 x2 x3 S).2 s' ∧ s'.1 206 39 = (drwG w l k c o h x1 x2 x3 S).1 := by
  have c1 := hC.1
  have c2 := hC.2.1
  have k1 : ∀ v, RS S (sI s 206 39 v) := fun v => RS_o hR (fun j => by rw [sI1, if_neg (by decide)])
  have z1 : ∀ (s : St) v, (sI s 206 39 v).1 206 39 = v := fun s v => by rw [sI1, if_pos rfl, if_pos rfl]
  have z2 : ∀ (s : St) k v, (sI s 208 k v).1 206 39 = s.1 206 39 := fun s k v => by rw [sI1, if_neg (by decide)]
  unfold f_X12_drawSecond drwG
  rw [hd6, bd_q]
  have hR1 := k1 x1
  by_cases w0 : w = 0 ∧ 0 < S 0
  · obtain ⟨d1, hl⟩ := hdl w0.2
    have hR2 := k1 x2
    have ho := (hW.2.2.2.1 l hl).1
    rw [if_pos w0]
    unfold dkT
    by_cases q : S 148 / 2 ^ l % 2 = 1
    · rw [if_pos q]
      unfold actR kinW
      rw [if_neg (by omega : ¬ S 148 / 2 ^ l % 2 = 0)]
      have e : f_X12_whyKindle (nI l) (sI s 206 39 x2) = some (if S (150 + l) = 0 then nI 2 else nI 0) := by
        unfold f_X12_whyKindle
        rw [ald_S hR2 (by decide), m_bitOf hW.2.1.1 (by omega), bp_q, if_bI, if_pos (decide_eq_true q), nI_addq, ald_S hR2 (by omega), if_eq0 (by omega)]
        split <;> rfl
      by_cases z : S (150 + l) = 0
      · rw [if_pos z] at e ⊢
        rw [if_neg (by decide : ¬ (2 : Nat) = 0)]
        refine ⟨_, ?_, hR2, z1 _ _⟩
        refine (jn_q _ _).trans ?_
        refine (ifa0_p hR1 (by decide) (by omega) (by omega) w0).trans ?_
        rw [ald_S hR1 (by decide), d1, bd_q, ald_S hR2 (by decide), m_bitOf hW.2.1.1 (by omega), bp_q, jn_q, if_bI, if_pos (decide_eq_true q), e, bp_q, if_neg (by decide)]
      · rw [if_neg z] at e ⊢
        rw [if_pos rfl]
        refine ⟨_, ?_, RS_put hR2 148 (S 148 - 2 ^ l), by rw [z2, z1]⟩
        refine (jn_q _ _).trans ?_
        refine (ifa0_p hR1 (by decide) (by omega) (by omega) w0).trans ?_
        rw [ald_S hR1 (by decide), d1, bd_q, ald_S hR2 (by decide), m_bitOf hW.2.1.1 (by omega), bp_q, jn_q, if_bI, if_pos (decide_eq_true q), e, bp_q, if_pos (by decide), ald_S hR2 (by decide), and_clr l (by omega) _ hW.2.1.1 q, ald_q (by decide) (by decide)]
    · rw [if_neg q]
      refine ⟨_, ?_, RS_put hR2 148 (S 148 + 2 ^ l), by rw [z2, z1]⟩
      refine (jn_q _ _).trans ?_
      refine (ifa0_p hR1 (by decide) (by omega) (by omega) w0).trans ?_
      rw [ald_S hR1 (by decide), d1, bd_q, ald_S hR2 (by decide), m_bitOf hW.2.1.1 (by omega), bp_q, jn_q, if_bI, if_neg (fun z => q (of_decide_eq_true z)), ald_S hR2 (by decide), (or_set l (by omega) _ hW.2.1.1 (by have := m2 (S 148 / 2 ^ l); omega)).1, ald_q (by decide) (by decide)]
  rw [if_neg w0]
  by_cases w1 : w = 1 ∧ 0 < S 1
  · obtain ⟨d1, hk⟩ := hdk w1.2
    rw [if_pos w1]
    refine ⟨_, ?_, RS_put (k1 x3) (174 + k) c, by rw [z2, z1]⟩
    refine (jn_q _ _).trans ?_
    refine (ifa0_n hR1 (by decide) (by omega) (by omega) w0).trans ?_
    refine (jn_q _ _).trans ?_
    refine (ifa_p hR1 (by decide) (by omega) (by omega) (by omega) w1).trans ?_
    rw [ald_S hR1 (by decide), d1, bd_q, hd9, bd_q, nI_addq, ald_q (by omega) (by decide)]
  rw [if_neg w1]
  by_cases w2 : w = 2 ∧ 0 < S 0
  · obtain ⟨d1, hl⟩ := hdl w2.2
    have hR3 := k1 x3
    have ho' := (hW.2.2.2.1 l hl).1
    rw [if_pos w2]
    have e : f_X12_whyFill (nI l) (nI o + nI 1) (sI s 206 39 x3) = some (if S (150 + l) + (o + 1) ≤ 999 then nI 0 else nI 1) := by
      unfold f_X12_whyFill
      rw [nI_addq, nI_addq, ald_S hR3 (by omega), nI_addq, if_leq (by omega) (by decide)]
      split <;> rfl
    unfold actR filW
    by_cases q : S (150 + l) + (o + 1) ≤ 999
    · rw [if_pos q] at e ⊢
      rw [if_pos rfl]
      refine ⟨_, ?_, RS_put hR3 (150 + l) (S (150 + l) + (o + 1)), by rw [z2, z1]⟩
      refine (jn_q _ _).trans ?_
      refine (ifa0_n hR1 (by decide) (by omega) (by omega) w0).trans ?_
      refine (jn_q _ _).trans ?_
      refine (ifa_n hR1 (by decide) (by omega) (by omega) (by omega) w1).trans ?_
      refine (jn_q _ _).trans ?_
      refine (ifa_p hR1 (by decide) (by omega) (by omega) (by omega) w2).trans ?_
      rw [ald_S hR1 (by decide), d1, bd_q, hd20, bd_q, vl_q, e, bp_q, jn_q, if_pos (by decide), nI_addq, ald_S hR3 (by omega), nI_addq, nI_addq, ald_q (by omega) (by decide)]
    · rw [if_neg q] at e ⊢
      rw [if_neg (by decide : ¬ (1 : Nat) = 0)]
      refine ⟨_, ?_, hR3, z1 _ _⟩
      refine (jn_q _ _).trans ?_
      refine (ifa0_n hR1 (by decide) (by omega) (by omega) w0).trans ?_
      refine (jn_q _ _).trans ?_
      refine (ifa_n hR1 (by decide) (by omega) (by omega) (by omega) w1).trans ?_
      refine (jn_q _ _).trans ?_
      refine (ifa_p hR1 (by decide) (by omega) (by omega) (by omega) w2).trans ?_
      rw [ald_S hR1 (by decide), d1, bd_q, hd20, bd_q, vl_q, e, bp_q, jn_q, if_neg (by decide)]
  rw [if_neg w2]
  by_cases w3 : w = 3
  · rw [if_pos w3]
    refine ⟨_, ?_, RS_put (k1 x2) 149 (h + 1), by rw [z2, z1]⟩
    refine (jn_q _ _).trans ?_
    refine (ifa0_n hR1 (by decide) (by omega) (by omega) w0).trans ?_
    refine (jn_q _ _).trans ?_
    refine (ifa_n hR1 (by decide) (by omega) (by omega) (by omega) w1).trans ?_
    refine (jn_q _ _).trans ?_
    refine (ifa_n hR1 (by decide) (by omega) (by omega) (by omega) w2).trans ?_
    rw [if_eqq (by omega) (by decide), if_pos w3, hdh, bd_q, nI_addq, ald_q (by decide) (by decide)]
  · rw [if_neg w3]
    refine ⟨_, ?_, hR1, z1 _ _⟩
    refine (jn_q _ _).trans ?_
    refine (ifa0_n hR1 (by decide) (by omega) (by omega) w0).trans ?_
    refine (jn_q _ _).trans ?_
    refine (ifa_n hR1 (by decide) (by omega) (by omega) (by omega) w1).trans ?_
    refine (jn_q _ _).trans ?_
    refine (ifa_n hR1 (by decide) (by omega) (by omega) (by omega) w2).trans ?_
    rw [if_eqq (by omega) (by decide), if_neg w3]
theorem c_act {S : Nat → Nat} {s : St} {b : Nat} {x : Int32} (hb : sh b = 6) (hr9 : reg b ≠ 19) (hC : WFC S) (hW : WFW S) (hM : CRel s 3 4 5 S) (hS : SRel s b S) (hx : s.1 131 0 = x) : ∃ s', f_X2_act b s = some s' ∧ SRel s' b (drwS x S).2 ∧ s'.1 131 0 = (drwS x S).1 := by
  have c1 := hC.1
  have c2 := hC.2.1
  have z1 : ∀ (s : St) v, (sI s 131 0 v).1 131 0 = v := fun s v => by rw [sI1, if_pos rfl, if_pos rfl]
  have e2 : ∀ n, 0 < n → n < 1000 → f_X2_draw (nI n) (sI s 131 0 (stp x)) = some (nI (uN (stp (stp x)) % n), sI s 131 0 (stp (stp x))) := fun n h0 hn => by rw [c_draw (z1 _ _) h0 hn, sI_sI]
  have e3 : ∀ n, 0 < n → n < 1000 → f_X2_draw (nI n) (sI s 131 0 (stp (stp x))) = some (nI (uN (stp (stp (stp x))) % n), sI s 131 0 (stp (stp (stp x)))) := fun n h0 hn => by rw [c_draw (z1 _ _) h0 hn, sI_sI]
  have g := c_actG (w := uN (stp x) % 6) (l := uN (stp (stp x)) % S 0) (k := uN (stp (stp x)) % S 1) (c := uN (stp (stp (stp x))) % 9) (o := uN (stp (stp (stp x))) % 20) (h := uN (stp (stp x)) % 30) (x1 := stp x) (x2 := stp (stp x)) (x3 := stp (stp (stp x))) hb hr9 hC hW hM hS (Nat.mod_lt _ (by decide)) (c_draw hx (by decide) (by decide)) (fun h => ⟨e2 _ h (by omega), Nat.mod_lt _ h⟩) (fun h => ⟨e2 _ h (by omega), Nat.mod_lt _ h⟩) (e2 30 (by decide) (by decide)) (Nat.mod_lt _ (by decide)) (e3 9 (by decide) (by decide)) (Nat.mod_lt _ (by decide)) (e3 20 (by decide) (by decide)) (Nat.mod_lt _ (by decide))
  unfold drwS
  exact g
theorem m_drawSecond {S : Nat → Nat} {s : St} {x : Int32} (hC : WFC S) (hW : WFW S) (hR : RS S s) (hx : s.1 206 39 = x) : ∃ s', f_X12_drawSecond s = some s' ∧ RS (drwS x S).2 s' ∧ s'.1 206 39 = (drwS x S).1 := by
  have c1 := hC.1
  have c2 := hC.2.1
  have z1 : ∀ (s : St) v, (sI s 206 39 v).1 206 39 = v := fun s v => by rw [sI1, if_pos rfl, if_pos rfl]
  have e2 : ∀ n, 0 < n → n < 1000 → f_X12_draw (nI n) (sI s 206 39 (stp x)) = some (nI (uN (stp (stp x)) % n), sI s 206 39 (stp (stp x))) := fun n h0 hn => by rw [m_draw (z1 _ _) h0 hn, sI_sI]
  have e3 : ∀ n, 0 < n → n < 1000 → f_X12_draw (nI n) (sI s 206 39 (stp (stp x))) = some (nI (uN (stp (stp (stp x))) % n), sI s 206 39 (stp (stp (stp x)))) := fun n h0 hn => by rw [m_draw (z1 _ _) h0 hn, sI_sI]
  have g := m_dsG (w := uN (stp x) % 6) (l := uN (stp (stp x)) % S 0) (k := uN (stp (stp x)) % S 1) (c := uN (stp (stp (stp x))) % 9) (o := uN (stp (stp (stp x))) % 20) (h := uN (stp (stp x)) % 30) (x1 := stp x) (x2 := stp (stp x)) (x3 := stp (stp (stp x))) hC hW hR (Nat.mod_lt _ (by decide)) (m_draw hx (by decide) (by decide)) (fun h => ⟨e2 _ h (by omega), Nat.mod_lt _ h⟩) (fun h => ⟨e2 _ h (by omega), Nat.mod_lt _ h⟩) (e2 30 (by decide) (by decide)) (Nat.mod_lt _ (by decide)) (e3 9 (by decide) (by decide)) (Nat.mod_lt _ (by decide)) (e3 20 (by decide) (by decide)) (Nat.mod_lt _ (by decide))
  unfold drwS
  exact g
/-- n seconds by draws: the seed, and what is so then -/
noncomputable def dsN (x : Int32) (S : Nat → Nat) : Nat → Int32 × (Nat → Nat)
  | 0 => (x, S)
  | n + 1 => ((drwS (dsN x S n).1 (dsN x S n).2).1, secS (drwS (dsN x S n).1 (dsN x S n).2).2)
theorem secS_o {S : Nat → Nat} (hC : WFC S) : sameO S (secS S) := fun j hj => by
  rcases hj with h | h
  · exact secS_C S j h
  · exact secS_hi h hC.1 hC.2.1
theorem sameO.trans {S T U : Nat → Nat} (h : sameO S T) (g : sameO T U) : sameO S U := fun j hj => (g j hj).trans (h j hj)
theorem dsN_ok {x : Int32} {S : Nat → Nat} (hC : WFC S) (hW : WFW S) : ∀ n, S 147 + n ≤ 5000 → sameO S (dsN x S n).2 ∧ WFW (dsN x S n).2 ∧ (dsN x S n).2 147 = S 147 + n
  | 0, _ => ⟨sameO.rf S, hW, rfl⟩
  | n + 1, hn => by
    obtain ⟨i1, i2, i3⟩ := dsN_ok (x := x) hC hW n (by omega)
    have hC' := WFC_c i1.C hC
    obtain ⟨d1, d2, d3⟩ := drwS_ok (dsN x S n).1 hC' i2
    have hC2 := WFC_c d1.C hC'
    rw [dsN]
    generalize drwS (dsN x S n).1 (dsN x S n).2 = p at d1 d2 d3 hC2 ⊢
    refine ⟨(i1.trans d1).trans (secS_o hC2), secS_W hC2 d2 (by omega), ?_⟩
    show secS p.2 147 = _
    rw [secS_147]
    omega
theorem c_livL {S : Nat → Nat} {σ : St} {N n b : Nat} {x : Int32} (hN : 1000 ≤ N) (hb : sh b = 6) (hr : reg b ≠ 2) (hr9 : reg b ≠ 19) (hC : WFC S) (hW : WFW S) (hM : CRel σ 3 4 5 S) (hn : n ≤ 1000) (h3 : S 147 ≤ 3600) : ∀ m i s, i ≤ wentS S n → wentS S n - i < m → SRel s b (dsN x S i).2 → s.1 131 0 = (dsN x S i).1 → Fr [reg b, 19] σ s → ∃ s', SRel s' b (dsN x S (wentS S n)).2 ∧ Fr [reg b, 19] σ s' ∧ f_X2_liveSeconds_L2 N b (nI n) m (nI i) s = some (nI (wentS S n), s') := by
  intro m
  induction m with
  | zero => intro i τ _ h; omega
  | succ m ih =>
    intro i s hi hm hS hx hF
    have hw : wentS S n ≤ n := Nat.min_le_left ..
    have hw2 : wentS S n ≤ 3600 - S 147 := Nat.min_le_right ..
    obtain ⟨i1, i2, i3⟩ := dsN_ok (x := x) hC hW i (by omega)
    have hC' := WFC_c i1.C hC
    have n2' : 2 ∉ [reg b, 19] := fun z => by simp only [List.mem_cons, List.not_mem_nil, or_false] at z; omega
    rw [f_X2_liveSeconds_L2, if_leq (by omega) (by omega)]
    by_cases hc : n ≤ i
    · rw [if_pos hc]
      obtain rfl : i = wentS S n := by omega
      exact ⟨s, hS, hF, rfl⟩
    · rw [if_neg hc, vl_q, hS.1, i3, if_leq (by decide) (by omega)]
      by_cases hd : 3600 ≤ S 147 + i
      · rw [if_pos hd]
        obtain rfl : i = wentS S n := by unfold wentS at hi ⊢; omega
        exact ⟨s, hS, hF, rfl⟩
      · rw [if_neg hd]
        have hM1 := CRel_c i1.C hC (CRel_fr hF n2' hC.1 hC.2.1 hM)
        obtain ⟨s1, e1, r1, x1⟩ := c_act hb hr9 hC' i2 hM1 hS hx
        obtain ⟨d1, d2, d3⟩ := drwS_ok (dsN x S i).1 hC' i2
        have f1 : Fr [reg b, 19] s s1 := fr_X2_act hb (fun x hx => List.mem_cons_of_mem _ hx) List.mem_cons_self e1
        have hM2 := CRel_c d1.C hC' (CRel_fr f1 n2' hC'.1 hC'.2.1 hM1)
        obtain ⟨s2, e2, r2⟩ := c_passOne (N := N) (by omega) hb hr (WFC_c d1.C hC') d2 hM2 r1
        have f2 : Fr [reg b] s1 s2 := fr_X6_passOne hb (fun x hx => absurd hx List.not_mem_nil) (List.mem_singleton.mpr rfl) e2
        rw [e1, bp_q, e2, bp_q, vl_q, nI_addq]
        have hlt : i < wentS S n := by unfold wentS; omega
        exact ih (i + 1) s2 (by omega) (by omega) r2 (by rw [fr_row f2 (n131 hr9)]; exact x1) ((hF.trans f1).trans (f2.mono (fun x hx => by rw [List.mem_singleton.mp hx]; exact List.mem_cons_self)))
theorem m_drwL {S : Nat → Nat} {τ0 : St} {N n : Nat} {x : Int32} (hN : 1000 ≤ N) (hC : WFC S) (hW : WFW S) (hn : n ≤ 1000) (h3 : S 147 ≤ 3600) : ∀ m i s, i ≤ wentS S n → wentS S n - i < m → RS (dsN x S i).2 s → s.1 206 39 = (dsN x S i).1 → Fr [206, 208] τ0 s → Fm [39] τ0 s → ∃ s', RS (dsN x S (wentS S n)).2 s' ∧ Fr [206, 208] τ0 s' ∧ Fm [39] τ0 s' ∧ f_X12_draws_L7 N (nI n) m (nI i) s = some (nI (wentS S n), s') := by
  intro m
  induction m with
  | zero => intro i τ _ h; omega
  | succ m ih =>
    intro i s hi hm hR hx hF hG
    have hw : wentS S n ≤ n := Nat.min_le_left ..
    have hw2 : wentS S n ≤ 3600 - S 147 := Nat.min_le_right ..
    obtain ⟨i1, i2, i3⟩ := dsN_ok (x := x) hC hW i (by omega)
    have hC' := WFC_c i1.C hC
    rw [f_X12_draws_L7, if_leq (by omega) (by omega)]
    by_cases hc : n ≤ i
    · rw [if_pos hc]
      obtain rfl : i = wentS S n := by omega
      exact ⟨s, hR, hF, hG, rfl⟩
    · rw [if_neg hc, ald_S hR (by decide), i3, if_leq (by decide) (by omega)]
      by_cases hd : 3600 ≤ S 147 + i
      · rw [if_pos hd]
        obtain rfl : i = wentS S n := by unfold wentS at hi ⊢; omega
        exact ⟨s, hR, hF, hG, rfl⟩
      · rw [if_neg hd]
        obtain ⟨s1, e1, r1, x1⟩ := m_drawSecond hC' i2 hR hx
        obtain ⟨d1, d2, d3⟩ := drwS_ok (dsN x S i).1 hC' i2
        have f1 : Fr [206, 208] s s1 := fr_X12_drawSecond (fun x hx => hx) e1
        have g1 : Fm [39] s s1 := fm_X12_drawSecond (fun x hx => hx) e1
        obtain ⟨s2, e2, r2⟩ := m_second (N := N) (by omega) (WFC_c d1.C hC') d2 r1
        have f2 : Fr [208] s1 s2 := fr_X12_second (fun x hx => hx) e2
        obtain ⟨q1, q2, q3⟩ := fr208 f2
        rw [e1, bp_q, e2, bp_q, vl_q, nI_addq]
        have hlt : i < wentS S n := by unfold wentS; omega
        refine ih (i + 1) s2 (by omega) (by omega) r2 (by rw [q1]; exact x1) ((hF.trans f1).trans (f2.mono (by decide))) ((hG.trans g1).trans (fun k _ => ⟨congrFun (f2 206 (by decide +kernel)).1 k, congrFun (f2 206 (by decide +kernel)).2 k⟩))
