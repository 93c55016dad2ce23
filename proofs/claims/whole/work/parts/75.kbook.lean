/-! book: both sides -/
theorem m_bk89 {N : Nat} {x : Int32} {k27 : St → Option (Int32 × St)} : ∀ n i (τ : St), i ≤ 4 → 4 - i < n → (∀ j, j < i → τ.1 219 j = nI 0) → ∃ τ', f_X12_book_L89 N x k27 n (nI i) τ = k27 τ' ∧ (∀ j, j < 4 → τ'.1 219 j = nI 0) ∧ Fr [219] τ τ' := by
  intro n
  induction n with
  | zero => intro i τ _ h; omega
  | succ n ih =>
    intro i τ hi hn hB
    rw [f_X12_book_L89, if_leq (by decide) (by omega)]
    by_cases q : 4 ≤ i
    · rw [if_pos q]
      obtain rfl : i = 4 := by omega
      exact ⟨τ, rfl, hB, Fr.rf⟩
    · rw [if_neg q, ald_q (by omega) (by decide), vl_q, nI_addq]
      obtain ⟨τ', e, r, f⟩ := ih (i + 1) (sI τ 219 i (nI 0)) (by omega) (by omega) (fun j hj => by
        rw [sI1, if_pos rfl]
        by_cases y : j = i
        · rw [if_pos y]
        · rw [if_neg y]; exact hB j (by omega))
      exact ⟨τ', e, r, (Fr.rf.sI (by decide +kernel)).trans f⟩
theorem m_bk240 {N v : Nat} {x y : Int32} {w : Nat → Nat} {k73 : St → Option (Int32 × St)} (hv : 1 ≤ v ∧ v ≤ 8) : ∀ n i (τ : St), i ≤ 31 → 31 - i < n → τ.1 206 24 = nI v → (∀ j, j < 31 → τ.1 214 j = nI (w j)) → (∀ j, j < i → τ.1 213 (31 * (v - 1) + j) = nI (w j)) → ∃ τ', f_X12_book_L240 N x y k73 n (nI i) τ = k73 τ' ∧ (∀ j, j < 31 → τ'.1 213 (31 * (v - 1) + j) = nI (w j)) ∧ (∀ j, j < 31 * (v - 1) → τ'.1 213 j = τ.1 213 j) ∧ Fr [213] τ τ' := by
  intro n
  induction n with
  | zero => intro i τ _ h; omega
  | succ n ih =>
    intro i τ hi hn h24 hw hB
    rw [f_X12_book_L240, if_leq (by decide) (by omega)]
    by_cases q : 31 ≤ i
    · rw [if_pos q]
      obtain rfl : i = 31 := by omega
      exact ⟨τ, rfl, hB, fun _ _ => rfl, Fr.rf⟩
    · rw [if_neg q, vl_q, h24, ald_q (by omega) (by decide), hw i (by omega), nI_subq hv.1, nI_mulq, nI_addq, ald_q (by omega) (by decide), vl_q, nI_addq]
      obtain ⟨τ', e, r1, r2, r3⟩ := ih (i + 1) (sI τ 213 (31 * (v - 1) + i) (nI (w i))) (by omega) (by omega) (by rw [sI_ne (by decide)]; exact h24) (fun j hj => by rw [sI_ne (by decide)]; exact hw j hj) (fun j hj => by
        rw [sI1, if_pos rfl]
        by_cases y : j = i
        · rw [if_pos (by omega), y]
        · rw [if_neg (by omega)]; exact hB j (by omega))
      exact ⟨τ', e, r1, fun j hj => by rw [r2 j hj, sI1, if_pos rfl, if_neg (by omega)], (Fr.rf.sI (by decide +kernel)).trans r3⟩
/-- the class's end of a book -/
def cBk2 (N : Nat) (x1 : Int32) (s4 : St) : Option (Int32 × St) :=
    bp (f_X6_copyFrom 55 49 s4) fun s6 =>
    bp (f_X0_live N 55 s6) fun s7 =>
    vl (s7.1 71 5) fun v8 =>
    ald (fun j => sI s7 134 j v8) 4 (nI 0) fun s9 =>
    vl (s9.1 71 4) fun v10 =>
    ald (fun j => sI s9 134 j v10) 4 (nI 1) fun s11 =>
    vl (s11.1 55 1) fun v12 =>
    ald (fun j => sI s11 134 j v12) 4 (nI 2) fun s13 =>
    bp (f_X6_oilOfAll N 55 s13) fun v14 =>
    ald (fun j => sI s13 134 j v14) 4 (nI 3) fun s15 =>
    jn (fun (s16 : St) =>
      vl (s16.1 71 5) fun v18 =>
      if v18 = 0 then
        some ((-1), s16)
      else
      vl (s16.1 71 4) fun v19 =>
      some (v19, s16)) fun j17 =>
    if x1 = (nI 1) then
      vl (s15.1 71 4) fun v20 =>
      if v20 ≤ 0 then
        j17 s15
      else
      bp (f_X5_mark 49 s15) fun s21 =>
      bp (f_X5_keep s21) fun s22 =>
      bp (f_X6_copyFrom 49 55 s22) fun s23 =>
      j17 s23
    else
    j17 s15
def cBk (N : Nat) (x1 : Int32) (s0 : St) : Option (Int32 × St) :=
  bd (f_X0_read N s0) fun v2 s3 =>
    bp (f_X11_closeText s3) fun s4 =>
    if v2 = 0 then
      vl (s4.1 1 7) fun v5 =>
      some (((-2) - v5), s4)
    else cBk2 N x1 s4
theorem c_book {N : Nat} {x1 : Int32} {s0 : St} : f_X11_book N x1 s0 = if x1 = 0 then cBk N x1 s0 else if x1 = nI 1 then cBk N x1 s0 else some (-1000, s0) := rfl
theorem c_close {s : St} : f_X11_closeText s = some (sI (sI s 0 15 (s.1 1 6)) 1 1 (nI 0)) := rfl
/-- the model, behind the lines -/
def kBl2 (N : Nat) (x1 : Int32) (v57 : Int32) (s58 : St) : Option (Int32 × St) :=
        ald (s58.1 208) 359 (nI 147) fun v59 =>
        ald (fun j => sI s58 219 j v59) 4 (nI 2) fun s60 =>
        bp (f_X12_oilInAll N s60) fun v61 =>
        ald (fun j => sI s60 219 j v61) 4 (nI 3) fun s62 =>
        vl (sI s62 206 42 (nI 1)) fun s63 =>
        jn (fun (s64 : St) =>
          if x1 = 0 then
            bp (f_X12_back N s64) fun s66 =>
            some (v57, s66)
          else
          some (v57, s64)) fun j65 =>
        if x1 = (nI 1) then
          ald (s63.1 219) 4 (nI 1) fun v67 =>
          if v67 ≤ 0 then
            j65 s63
          else
          bp (f_X12_stores N s63) fun s68 =>
          f_X12_book_L240 N x1 v57 (fun (s81 : St) =>
            j65 s81) N (nI 0) s68
        else
        j65 s63
theorem kBk_q {N : Nat} {x1 : Int32} {s22 : St} : kBk N x1 s22 = bp (f_X12_tries N s22) fun s23 => f_X12_book_L89 N x1 (fun (s33 : St) => f_X12_book_L111 N x1 (kBl2 N x1) N (-1) (nI 0) s33) N (nI 0) s23 := rfl
/-- the answer -/
def bkA (w j : Nat) : Int32 := if w = 0 then -1 else nI j
theorem c_j17 {s : St} {w j : Nat} (hw : w < 100) (h5 : s.1 71 5 = nI w) (h4 : s.1 71 4 = nI j) : (vl (s.1 71 5) fun v18 => if v18 = 0 then some ((-1 : Int32), s) else vl (s.1 71 4) fun v19 => some (v19, s)) = some (bkA w j, s) := by
  rw [vl_q, vl_q, h5, h4, if_eq0 (by omega)]
  unfold bkA
  split <;> rfl
def Q4 (s s' : St) : Prop := ∀ b, b = 0 ∨ b = 132 ∨ b = 133 ∨ b = 135 → s'.1 b = s.1 b
theorem Q4.fr {s s' s2 : St} {R : List Nat} (h : Q4 s s') (f : Fr R s' s2) (h0 : 0 ∉ R) : Q4 s s2 := fun b hb => by
  have r : reg b = 0 := by rcases hb with rfl | rfl | rfl | rfl <;> decide +kernel
  rw [fr_row f (by rw [r]; exact h0)]
  exact h b hb
theorem Q4.put {s s' : St} {k : Nat} {v : Int32} (h : Q4 s s') : Q4 s (sI s' 134 k v) := fun b hb => by
  rw [sI_ne (by omega)]
  exact h b hb
section KBook
variable {σ τ : St} {S B : Nat → Nat} {u top N n : Nat} {H : Nat → Nat → Nat} {x : Int32}
theorem cl_F (s : St) : Fr [0, 1] s (sI (sI s 0 15 (s.1 1 6)) 1 1 (nI 0)) := (Fr.rf.sI (by decide +kernel)).sI (by decide +kernel)
theorem cl_k {s s0 : St} (F1 : Fr [1, 8] s0 s) : (∀ k, k ≠ 15 → (sI (sI s 0 15 (s.1 1 6)) 1 1 (nI 0)).1 0 k = s0.1 0 k) ∧ ∀ b, 132 ≤ b → b ≤ 135 → (sI (sI s 0 15 (s.1 1 6)) 1 1 (nI 0)).1 b = s0.1 b := by
  refine ⟨fun k hk => ?_, fun b b1 b2 => ?_⟩
  · rw [sI_ne (by decide), sI1, if_pos rfl, if_neg hk, (F1 0 (by decide)).1]
  · have : b = 132 ∨ b = 133 ∨ b = 134 ∨ b = 135 := by omega
    rw [sI_ne (by omega), sI_ne (by omega)]
    refine ((F1 b ?_).1).symm
    rcases this with rfl | rfl | rfl | rfl <;> decide +kernel
theorem k_bookL (hN : 2000 ≤ N) (hK : KRel σ τ S u top H) (hT : TapR σ τ n B) (hNm : NmR σ τ 4 0 (S 0) ∧ NmR σ τ 5 8 (S 1)) (hR : RvR τ) (hTl : TldR σ τ) (hx : x = nI 0 ∨ x = nI 1) : ∃ r σ' τ' S' u' top' H', f_X11_book N x σ = some (r, σ') ∧ f_X12_book N x τ = some (r, τ') ∧ KRel σ' τ' S' u' top' H' ∧ sameO S S' ∧ TldR σ' τ' ∧ (σ'.1 0 15 = τ'.1 206 15 ∧ σ'.1 1 1 = nI 0 ∧ τ'.1 206 2 = nI 0) ∧ (∀ k, k ≠ 15 → σ'.1 0 k = σ.1 0 k) ∧ σ'.1 132 = σ.1 132 ∧ σ'.1 133 = σ.1 133 ∧ σ'.1 135 = σ.1 135 := by
  have hC : ChN σ τ (S 0) (S 1) := ⟨hK.2.2.2.2.1.1, hK.2.1.1, hK.2.2.2.2.1.2.1, hK.2.1.2.1, hNm.1, hNm.2, hK.1 0 (by decide), hK.1 1 (by decide), hR⟩
  have eC : f_X11_book N x σ = cBk N x σ := by
    rw [c_book]
    rcases hx with rfl | rfl
    · rw [if_pos (show nI 0 = 0 from rfl)]
    · rw [if_neg (by decide), if_pos rfl]
  have hin : f_X12_isIn x (nI 0) (nI 1) (sI τ 206 0 (nI 0)) = some (nI 1) := by
    rcases hx with rfl | rfl
    · exact isIn01 (w := 0) (by decide) _
    · exact isIn01 (w := 1) (by decide) _
  have c1 := hK.2.1.1
  have c2 := hK.2.1.2.1
  rw [eC]
  unfold cBk
  rcases p_readBook (N := N) (x := x) (by omega) hT hC hin with ⟨σ', τ', w, a, e1, e2, ⟨p6, p7, p15, p16, _⟩, fr, fm⟩ | ⟨σr, τr, c, e1, e2, E, fr, fm, y6, y15⟩
  · have F1 : Fr [1, 8] σ σ' := fr_X0_read (by decide) e1
    have F2 : Fr [0, 1, 8] σ (sI (sI σ' 0 15 (σ'.1 1 6)) 1 1 (nI 0)) := (F1.mono (by decide)).trans ((cl_F σ').mono (by decide))
    obtain ⟨k0, kb⟩ := cl_k F1
    have K2 : KRel σ τ' S u top H := KRel_m hK (fr_row fr (by decide +kernel)) (by rw [← (fm 24 (by decide)).1, tk_n (by decide) (by decide) (by decide) (by decide) (by decide)]) (fr_row fr (by decide +kernel))
    have e7 : (sI (sI σ' 0 15 (σ'.1 1 6)) 1 1 (nI 0)).1 1 7 = nI a := by rw [sI1, if_pos rfl, if_neg (by decide), sI_ne (by decide)]; exact p7
    rw [e1, bd_q, c_close, bp_q, if_pos (by decide), vl_q, e7, e2]
    refine ⟨_, _, τ', S, u, top, H, rfl, rfl, KRel_5 K2 F2 (by decide) (by decide) (fun k hk => by simp only [List.mem_cons, List.not_mem_nil, or_false]; omega), sameO.rf S, fun k hk => ?_, ⟨?_, ?_, ?_⟩, k0, kb 132 (by decide) (by decide), kb 133 (by decide) (by decide), kb 135 (by decide) (by decide)⟩
    · rw [kb 134 (by decide) (by decide), ← (fm 42 (by decide)).1, tk_n (by decide) (by decide) (by decide) (by decide) (by decide), fr_row fr (by decide +kernel)]
      exact hTl k hk
    · rw [sI_ne (by decide), sI1, if_pos rfl, if_pos rfl, p6, p15]
    · rw [sI1, if_pos rfl, if_pos rfl]
    · rw [← (fm 2 (by decide)).1, tk_2]
  · have F1 : Fr [1, 8] σ σr := fr_X0_read (by decide) e1
    have F4 : Fr [0, 1, 8] σ (sI (sI σr 0 15 (σr.1 1 6)) 1 1 (nI 0)) := (F1.mono (by decide)).trans ((cl_F σr).mono (by decide))
    obtain ⟨k0, kb⟩ := cl_k F1
    have K2 : KRel σ τr S u top H := KRel_m hK (fr_row fr (by decide +kernel)) (by rw [← (fm 24 (by decide)).1, tk_n (by decide) (by decide) (by decide) (by decide) (by decide)]) (fr_row fr (by decide +kernel))
    have K4 := KRel_5 K2 F4 (by decide) (by decide) (fun k hk => by simp only [List.mem_cons, List.not_mem_nil, or_false]; omega)
    have x15 : (sI (sI σr 0 15 (σr.1 1 6)) 1 1 (nI 0)).1 0 15 = nI 0 := by rw [sI_ne (by decide), sI1, if_pos rfl, if_pos rfl, y6]
    have x11 : (sI (sI σr 0 15 (σr.1 1 6)) 1 1 (nI 0)).1 1 1 = nI 0 := by rw [sI1, if_pos rfl, if_pos rfl]
    have cE : ∀ b, 71 ≤ b → b ≤ 74 → (sI (sI σr 0 15 (σr.1 1 6)) 1 1 (nI 0)).1 b = σr.1 b := fun b b1 b2 => by rw [sI_ne (by omega), sI_ne (by omega)]
    rw [e1, bd_q, c_close, bp_q, if_one, e2, kBk_q]
    generalize sI (sI σr 0 15 (σr.1 1 6)) 1 1 (nI 0) = s4 at *
    obtain ⟨h1, h2, hW, h4, h5, h6, h7, h8⟩ := id K4
    obtain ⟨_, E3, E40, c40, EL⟩ := E
    unfold cBk2
    obtain ⟨s6, e6, r6⟩ := c_copyScene (a := 55) (b := 49) sh55.1 sh49.1 (by rw [sh55.2, sh49.2]; decide) c1 c2 h7
    have f6 : Fr [5] s4 s6 := fr_X6_copyFrom sh55.1 sh49.1 (fun x hx => absurd hx List.not_mem_nil) (by rw [sh55.2]; decide) e6
    have f7 : Fr [5, 8] s4 (sI (sI s6 71 5 (nI 0)) 71 4 (nI 0)) := ((f6.mono (by decide)).sI (by decide +kernel)).sI (by decide +kernel)
    have lv : f_X0_live N 55 s6 = f_X0_live_L10 N 55 N (sI (sI s6 71 5 (nI 0)) 71 4 (nI 0)) := rfl
    have r7 : SRel (sI (sI s6 71 5 (nI 0)) 71 4 (nI 0)) 55 S := SRel_fr sh55.1 ((Fr.rf.sI (R := [8]) (by decide +kernel)).sI (by decide +kernel)) (by rw [sh55.2]; decide) r6
    have c8 : ∀ b, 72 ≤ b → b ≤ 74 → (sI (sI s6 71 5 (nI 0)) 71 4 (nI 0)).1 b = σr.1 b := fun b b1 b2 => by
      have r : reg b = 8 := by
        have : b = 72 ∨ b = 73 ∨ b = 74 := by omega
        rcases this with rfl | rfl | rfl <;> decide +kernel
      rw [sI_ne (by omega), sI_ne (by omega), fr_row f6 (by rw [r]; decide), cE b (by omega) b2]
    have z3 : (sI (sI s6 71 5 (nI 0)) 71 4 (nI 0)).1 71 3 = nI c := by
      rw [sI1, if_pos rfl, if_neg (by decide), sI1, if_pos rfl, if_neg (by decide), fr_row f6 (by decide +kernel), cE 71 (by decide) (by decide)]
      exact E3
    have z4 : (sI (sI s6 71 5 (nI 0)) 71 4 (nI 0)).1 71 4 = nI 0 := by rw [sI1, if_pos rfl, if_pos rfl]
    have z5 : (sI (sI s6 71 5 (nI 0)) 71 4 (nI 0)).1 71 5 = nI 0 := by rw [sI1, if_pos rfl, if_neg (by decide), sI1, if_pos rfl, if_pos rfl]
    rw [e6, bp_q, lv]
    generalize sI (sI s6 71 5 (nI 0)) 71 4 (nI 0) = s7 at *
    obtain ⟨t1, g1, w1, q1⟩ := m_tries (N := N) (by omega) h1
    obtain ⟨t2, g2, w2, q2⟩ := m_bk89 (N := N) (x := x) (k27 := fun (s33 : St) => f_X12_book_L111 N x (kBl2 N x) N (-1) (nI 0) s33) N 0 t1 (by decide) (by omega) (fun j hj => absurd hj (Nat.not_lt_zero _))
    have q12 : Fr [214, 219] τr t2 := (q1.mono (by decide)).trans (q2.mono (by decide))
    have t206 : t2.1 206 = τr.1 206 := fr_row q12 (by decide +kernel)
    have t210 : t2.1 210 = τr.1 210 := fr_row q12 (by decide +kernel)
    have t214 : t2.1 214 = t1.1 214 := fr_row q2 (by decide +kernel)
    obtain ⟨s8, t3, S', j, w, e8, g3, ⟨r8, R8⟩, ⟨o1, o2, o3⟩, ⟨d4, d5, d0, d1⟩, ⟨_, jc, w100⟩, jS, f8, q3⟩ := p_liveL (x := x) (k38 := kBl2 N x) hN c40 N 0 s7 t2 S h2 hW h4 (CRel_fr f7 (by decide) c1 c2 h5) r7 (RS_o h1 (fun j => by rw [fr_row q12 (by decide +kernel)])) z3 (by rw [t206]; exact E40) (fun j hj => BkL_w (EL j hj) (by rw [c8 72 (by decide) (by decide)]) (by rw [c8 73 (by decide) (by decide)]) (by rw [c8 74 (by decide) (by decide)]) (fun k _ => by rw [t210])) z4 z5 (w2 1 (by decide)) (w2 0 (by decide)) (Nat.zero_le _) (by omega)
    have h2' := WFC_c o1.C h2
    have F8 : Fr [5, 8] s4 s8 := f7.trans f8
    have Q8 : Q4 s4 s8 := Q4.fr (fun _ _ => rfl) F8 (by decide)
    have M8 : CRel s8 3 4 5 S' := CRel_c o1.C h2 (CRel_fr F8 (by decide) c1 c2 h5)
    have oi := c_oilOfAll (N := N) (σ := sI (sI (sI s8 134 0 (nI w)) 134 1 (nI j)) 134 2 (nI (S' 147))) (b := 55) (by omega) h2' (CRel_fr (((Fr.rf.sI (R := [0]) (by decide +kernel)).sI (by decide +kernel)).sI (by decide +kernel)) (by decide) h2'.1 h2'.2.1 M8) (SRel_fr sh55.1 (((Fr.rf.sI (R := [0]) (by decide +kernel)).sI (by decide +kernel)).sI (by decide +kernel)) (by rw [sh55.2]; decide) r8)
    have a4 : (sI s8 134 0 (nI w)).1 71 4 = nI j := by rw [sI_ne (by decide)]; exact d4
    have a1 : (sI (sI s8 134 0 (nI w)) 134 1 (nI j)).1 55 1 = nI (S' 147) := by rw [sI_ne (by decide), sI_ne (by decide)]; exact r8.1
    rw [e8, bp_q, vl_q, d5, ald_q (by decide) (by decide), vl_q, a4, ald_q (by decide) (by decide), vl_q, a1, ald_q (by decide) (by decide), oi, bp_q, ald_q (by decide) (by decide), g1, bp_q, g2, g3, jn_q]
    dsimp only
    have b4 : (sI (sI (sI (sI s8 134 0 (nI w)) 134 1 (nI j)) 134 2 (nI (S' 147))) 134 3 (nI (oilS S' (S' 0)))).1 71 4 = nI j := by rw [sI_ne (by decide), sI_ne (by decide), sI_ne (by decide), sI_ne (by decide)]; exact d4
    have b5 : (sI (sI (sI (sI s8 134 0 (nI w)) 134 1 (nI j)) 134 2 (nI (S' 147))) 134 3 (nI (oilS S' (S' 0)))).1 71 5 = nI w := by rw [sI_ne (by decide), sI_ne (by decide), sI_ne (by decide), sI_ne (by decide)]; exact d5
    have b34 : ∀ k, (sI (sI (sI (sI s8 134 0 (nI w)) 134 1 (nI j)) 134 2 (nI (S' 147))) 134 3 (nI (oilS S' (S' 0)))).1 134 k = if k = 3 then nI (oilS S' (S' 0)) else if k = 2 then nI (S' 147) else if k = 1 then nI j else if k = 0 then nI w else s8.1 134 k := fun k => by
      rw [sI1, if_pos rfl, sI1, if_pos rfl, sI1, if_pos rfl, sI1, if_pos rfl]
    have F15 : Fr [0] s8 (sI (sI (sI (sI s8 134 0 (nI w)) 134 1 (nI j)) 134 2 (nI (S' 147))) 134 3 (nI (oilS S' (S' 0)))) := (((Fr.rf.sI (by decide +kernel)).sI (by decide +kernel)).sI (by decide +kernel)).sI (by decide +kernel)
    have Q15 : Q4 s4 (sI (sI (sI (sI s8 134 0 (nI w)) 134 1 (nI j)) 134 2 (nI (S' 147))) 134 3 (nI (oilS S' (S' 0)))) := Q8.put.put.put.put
    generalize sI (sI (sI (sI s8 134 0 (nI w)) 134 1 (nI j)) 134 2 (nI (S' 147))) 134 3 (nI (oilS S' (S' 0))) = s15 at *
    have R3 : RS S' (sI t3 219 2 (nI (S' 147))) := RS_o R8 (fun j => by rw [sI_ne (by decide)])
    have om := m_oilInAll (N := N) (by omega) R3 h2' o2
    have G : kBl2 N x (if w = 0 then -1 else nI j) t3 = (if x = nI 1 then (if j = 0 then (if x = 0 then bp (f_X12_back N (sI (sI (sI t3 219 2 (nI (S' 147))) 219 3 (nI (oilS S' (S' 0)))) 206 42 (nI 1))) fun s66 => some (bkA w j, s66) else some (bkA w j, sI (sI (sI t3 219 2 (nI (S' 147))) 219 3 (nI (oilS S' (S' 0)))) 206 42 (nI 1))) else bp (f_X12_stores N (sI (sI (sI t3 219 2 (nI (S' 147))) 219 3 (nI (oilS S' (S' 0)))) 206 42 (nI 1))) fun s68 => f_X12_book_L240 N x (bkA w j) (fun (s81 : St) => if x = 0 then bp (f_X12_back N s81) fun s66 => some (bkA w j, s66) else some (bkA w j, s81)) N (nI 0) s68) else if x = 0 then bp (f_X12_back N (sI (sI (sI t3 219 2 (nI (S' 147))) 219 3 (nI (oilS S' (S' 0)))) 206 42 (nI 1))) fun s66 => some (bkA w j, s66) else some (bkA w j, sI (sI (sI t3 219 2 (nI (S' 147))) 219 3 (nI (oilS S' (S' 0)))) 206 42 (nI 1))) := by
      have l1 : (sI (sI (sI t3 219 2 (nI (S' 147))) 219 3 (nI (oilS S' (S' 0)))) 206 42 (nI 1)).1 219 1 = nI j := by rw [sI_ne (by decide), sI1, if_pos rfl, if_neg (by decide), sI1, if_pos rfl, if_neg (by decide)]; exact d1
      unfold kBl2
      rw [ald_S R8 (by decide), ald_q (by decide) (by decide), om, bp_q, ald_q (by decide) (by decide), vl_q]
      refine (jn_q _ _).trans ?_
      rw [ald_q (by decide) (by decide), l1, if_le0 (by omega)]
      rfl
    rw [G]
    have l219 : ∀ k, (sI (sI (sI t3 219 2 (nI (S' 147))) 219 3 (nI (oilS S' (S' 0)))) 206 42 (nI 1)).1 219 k = if k = 3 then nI (oilS S' (S' 0)) else if k = 2 then nI (S' 147) else t3.1 219 k := fun k => by
      rw [sI_ne (by decide), sI1, if_pos rfl, sI1, if_pos rfl]
    have l42 : (sI (sI (sI t3 219 2 (nI (S' 147))) 219 3 (nI (oilS S' (S' 0)))) 206 42 (nI 1)).1 206 42 = nI 1 := by rw [sI1, if_pos rfl, if_pos rfl]
    have l206 : ∀ k, k ≠ 42 → (sI (sI (sI t3 219 2 (nI (S' 147))) 219 3 (nI (oilS S' (S' 0)))) 206 42 (nI 1)).1 206 k = τr.1 206 k := fun k hk => by
      rw [sI1, if_pos rfl, if_neg hk, sI_ne (by decide), sI_ne (by decide), fr_row q3 (by decide +kernel), t206]
    have R6 : RS S' (sI (sI (sI t3 219 2 (nI (S' 147))) 219 3 (nI (oilS S' (S' 0)))) 206 42 (nI 1)) := RS_o R3 (fun j => by rw [sI_ne (by decide), sI_ne (by decide)])
    have l14 : ∀ k, k < 31 → (sI (sI (sI t3 219 2 (nI (S' 147))) 219 3 (nI (oilS S' (S' 0)))) 206 42 (nI 1)).1 214 k = nI (win S k) := fun k hk => by
      rw [sI_ne (by decide), sI_ne (by decide), sI_ne (by decide), fr_row q3 (by decide +kernel), t214]
      exact w1 k hk
    have l13 : (sI (sI (sI t3 219 2 (nI (S' 147))) 219 3 (nI (oilS S' (S' 0)))) 206 42 (nI 1)).1 213 = τr.1 213 := by
      rw [sI_ne (by decide), sI_ne (by decide), sI_ne (by decide), fr_row q3 (by decide +kernel), fr_row q12 (by decide +kernel)]
    generalize sI (sI (sI t3 219 2 (nI (S' 147))) 219 3 (nI (oilS S' (S' 0)))) 206 42 (nI 1) = t6 at *
    have told : ∀ (s : St) (t : St), s.1 134 = s15.1 134 → t.1 206 42 = nI 1 → t.1 219 = t6.1 219 → TldR s t := fun s t a1 a2 a3 k hk => by
      rw [a1, a2, if_neg (by decide), a3, b34, l219]
      have : k = 0 ∨ k = 1 ∨ k = 2 ∨ k = 3 := by omega
      rcases this with rfl | rfl | rfl | rfl
      · exact d0.symm
      · exact d1.symm
      · rfl
      · rfl
    have F15' : Fr [0, 5, 8] s4 s15 := (F8.mono (by decide)).trans (F15.mono (by decide))
    have x15' : ∀ s, Q4 s4 s → s.1 0 15 = nI 0 := fun s h => by rw [h 0 (by decide)]; exact x15
    have m15 : t6.1 206 15 = nI 0 := by rw [l206 15 (by decide)]; exact y15
    have m2' : t6.1 206 2 = nI 0 := by rw [l206 2 (by decide), ← (fm 2 (by decide)).1, tk_2]
    have fin : ∀ s, Q4 s4 s → (∀ k, k ≠ 15 → s.1 0 k = σ.1 0 k) ∧ s.1 132 = σ.1 132 ∧ s.1 133 = σ.1 133 ∧ s.1 135 = σ.1 135 := fun s h => ⟨fun k hk => by rw [h 0 (by decide)]; exact k0 k hk, by rw [h 132 (by decide)]; exact kb 132 (by decide) (by decide), by rw [h 133 (by decide)]; exact kb 133 (by decide) (by decide), by rw [h 135 (by decide)]; exact kb 135 (by decide) (by decide)⟩
    have s11 : s15.1 1 1 = nI 0 := by rw [fr_row F15' (by decide +kernel)]; exact x11
    rcases hx with rfl | rfl
    · rw [if_neg (by decide), if_neg (by decide), if_pos (show nI 0 = 0 from rfl), c_j17 w100 b5 b4]
      obtain ⟨t7, g7, R7, q7⟩ := m_back (N := N) (w := win S) (by omega) R6 l14
      rw [mix_back o1] at R7
      rw [g7, bp_q]
      have K15 := KRel_5 K4 F15' (by decide) (by decide) (fun k hk => by simp only [List.mem_cons, List.not_mem_nil, or_false]; omega)
      obtain ⟨v1, v2, v3, v4, v5, v6, v7, v8⟩ := K15
      have e206 : t7.1 206 = t6.1 206 := fr_row q7 (by decide +kernel)
      refine ⟨_, s15, t7, S, u, top, H, rfl, rfl, ⟨R7, v2, v3, v4, v5, v6, v7, PRel_fr v8 Fr.rf List.not_mem_nil (fun _ _ => List.not_mem_nil) (by rw [e206, l206 24 (by decide)]) (by rw [fr_row q7 (by decide +kernel), l13])⟩, sameO.rf S, told s15 t7 rfl (by rw [e206]; exact l42) (fr_row q7 (by decide +kernel)), ⟨?_, s11, ?_⟩, fin s15 Q15⟩
      · rw [x15' s15 Q15, e206, m15]
      · rw [e206, m2']
    · rw [if_pos rfl, if_pos rfl, vl_q, b4, if_le0 (by omega)]
      by_cases j0 : j = 0
      · have cj := c_j17 (s := s15) w100 b5 b4
        rw [b4] at cj
        rw [if_pos j0, if_pos j0, if_neg (show ¬ nI 1 = 0 by decide), cj]
        have eS := jS j0
        rw [eS] at R6
        have K15 := KRel_5 K4 F15' (by decide) (by decide) (fun k hk => by simp only [List.mem_cons, List.not_mem_nil, or_false]; omega)
        obtain ⟨v1, v2, v3, v4, v5, v6, v7, v8⟩ := K15
        exact ⟨_, s15, t6, S, u, top, H, rfl, rfl, ⟨R6, v2, v3, v4, v5, v6, v7, PRel_fr v8 Fr.rf List.not_mem_nil (fun _ _ => List.not_mem_nil) (by rw [l206 24 (by decide)]) l13⟩, sameO.rf S, told s15 t6 rfl l42 rfl, ⟨by rw [x15' s15 Q15, m15], s11, m2'⟩, fin s15 Q15⟩
      · rw [if_neg j0, if_neg j0]
        have K15 := KRel_5 (KRel_m K4 (τ' := τr) rfl rfl rfl) F15' (by decide) (by decide) (fun k hk => by simp only [List.mem_cons, List.not_mem_nil, or_false]; omega)
        obtain ⟨v1, v2, v3, v4, v5, v6, v7, v8⟩ := id K15
        obtain ⟨s21, e21, r21, f21⟩ := c_mark v8.2.1 v8.2.2.1 c1 c2 v7
        have nt : ∀ y, y ≤ 9 → y ∉ [10 + top] := fun y hy z => by have := List.mem_singleton.mp z; omega
        have e75 : s21.1 75 = s15.1 75 := fr_row f21 (by rw [show reg 75 = 9 from by decide +kernel]; exact nt 9 (by decide))
        have ek := c_keep (σ := s21) v8.1 v8.2.1 (by rw [e75]; exact v8.2.2.1) (by rw [e75]; exact v8.2.2.2.1)
        have fk : Fr [9] s21 (sI (sI s21 75 1 (nI ((top + 1) % 9))) 75 2 (nI (min (u + 1) 8))) := (Fr.rf.sI (by decide +kernel)).sI (by decide +kernel)
        have r55 : SRel (sI (sI s21 75 1 (nI ((top + 1) % 9))) 75 2 (nI (min (u + 1) 8))) 55 S' := SRel_fr sh55.1 fk (by rw [sh55.2]; decide) (SRel_fr sh55.1 f21 (by rw [sh55.2]; exact nt 5 (by decide)) (SRel_fr sh55.1 F15 (by rw [sh55.2]; decide) r8))
        obtain ⟨s23, e23, r23⟩ := c_copyScene (a := 49) (b := 55) sh49.1 sh55.1 (by rw [sh55.2, sh49.2]; decide) h2'.1 h2'.2.1 r55
        have f23 : Fr [4] (sI (sI s21 75 1 (nI ((top + 1) % 9))) 75 2 (nI (min (u + 1) 8))) s23 := fr_X6_copyFrom sh49.1 sh55.1 (fun x hx => absurd hx List.not_mem_nil) (by rw [sh49.2]; decide) e23
        have P6 : ∀ i, i < u → ∀ j, j < 31 → t6.1 213 (31 * i + j) = nI (H i j) := fun i hi j hj => by rw [l13]; exact (v8.2.2.2.2.2 i hi).2.2.2 j hj
        obtain ⟨t7, g7, a24, a213, q7, fm7⟩ := m_stores (N := N) (by omega) v8.1 R6 (by rw [l206 24 (by decide)]; exact v8.2.2.2.2.1) P6
        have u1 : 1 ≤ min (u + 1) 8 ∧ min (u + 1) 8 ≤ 8 := by omega
        obtain ⟨t8, g8, a1, a2, q8⟩ := m_bk240 (N := N) (x := nI 1) (y := bkA w j) (w := win S) (k73 := fun (s81 : St) => if nI 1 = 0 then bp (f_X12_back N s81) fun s66 => some (bkA w j, s66) else some (bkA w j, s81)) u1 N 0 t7 (by decide) (by omega) a24 (fun j hj => by rw [fr_row q7 (by decide +kernel)]; exact l14 j hj) (fun j hj => absurd hj (Nat.not_lt_zero _))
        have q78 : Fr [206, 213] t6 t8 := q7.trans (q8.mono (by decide))
        have R8' : RS S' t8 := RS_o R6 (fun j => by rw [fr_row q78 (by decide +kernel)])
        have e206 : t8.1 206 = t7.1 206 := fr_row q8 (by decide +kernel)
        have k206 : ∀ k, k ≠ 24 → t8.1 206 k = t6.1 206 k := fun k hk => by
          rw [e206]
          exact ((fm7 k (fun z => hk (List.mem_singleton.mp z))).1).symm
        have a213' : ∀ i, i < min (u + 1) 8 → ∀ j, j < 31 → t8.1 213 (31 * i + j) = nI (newH u H (win S) i j) := fun i hi j hj => by
          have u9 := v8.1
          by_cases y : i = min (u + 1) 8 - 1
          · rw [y, a1 j hj]
            unfold newH
            by_cases u8 : u = 8
            · rw [if_pos u8, if_neg (by omega)]
            · rw [if_neg u8, if_neg (by omega)]
          · rw [a2 _ (by omega), a213 i hi j hj]
            unfold newH
            by_cases u8 : u = 8
            · rw [if_pos u8, if_pos u8, if_pos (by omega), if_pos (by omega)]
            · rw [if_neg u8, if_neg u8, if_pos (by omega), if_pos (by omega)]
        have hP := PRel_keep (σ := s15) (σ1 := s21) (τ := τr) (τ1 := t8) v8 v3 v4 (f21.mono (fun x hx => List.mem_cons.mpr (Or.inl (List.mem_singleton.mp hx)))) r21 (by rw [e206]; exact a24) a213'
        have hP2 := PRel_fr (τ' := t8) hP f23 (by decide) (fun i hi z => by have := List.mem_singleton.mp z; omega) rfl rfl
        have Fall : Fr [10 + top, 9, 4] s15 s23 := ((f21.mono (fun x hx => List.mem_cons.mpr (Or.inl (List.mem_singleton.mp hx)))).trans (fk.mono (fun x hx => by rw [List.mem_singleton.mp hx]; simp))).trans (f23.mono (fun x hx => by rw [List.mem_singleton.mp hx]; simp))
        have nf : ∀ y, y < 4 → y ∉ [10 + top, 9, 4] := fun y hy z => by simp only [List.mem_cons, List.not_mem_nil, or_false] at z; omega
        have Q23 : Q4 s4 s23 := Q15.fr Fall (nf 0 (by decide))
        have d71 : s23.1 71 = s15.1 71 := fr_row Fall (by
          rw [show reg 71 = 8 from by decide +kernel]
          intro z; simp only [List.mem_cons, List.not_mem_nil, or_false] at z; omega)
        rw [e21, bp_q, ek, bp_q, e23, bp_q, c_j17 w100 (by rw [d71]; exact b5) (by rw [d71]; exact b4), g7, bp_q, g8, if_neg (show ¬ nI 1 = 0 by decide)]
        refine ⟨_, s23, t8, S', min (u + 1) 8, (top + 1) % 9, newH u H (win S), rfl, rfl, ⟨R8', h2', o2, o3, CRel_c o1.C h2 (CRel_fr Fall (nf 2 (by decide)) c1 c2 v5), ARel_c o1.C h2 (ARel_fr Fall (nf 2 (by decide)) c1 v6), r23, PRel_S hP2 (fun j hj => (o1 j hj).symm)⟩, o1, told s23 t8 ?_ (by rw [k206 42 (by decide)]; exact l42) (fr_row q78 (by decide +kernel)), ⟨?_, ?_, ?_⟩, fin s23 Q23⟩
        · exact fr_row Fall (by rw [show reg 134 = 0 from by decide +kernel]; exact nf 0 (by decide))
        · rw [x15' s23 Q23, k206 15 (by decide), m15]
        · rw [fr_row Fall (by rw [show reg 1 = 1 from by decide +kernel]; exact nf 1 (by decide))]; exact s11
        · rw [k206 2 (by decide), m2']
/-- what is the same after a book -/
def BkO (σ τ σ' τ' : St) : Prop := (∀ k, k ≠ 15 → σ'.1 0 k = σ.1 0 k) ∧ (σ'.1 132 = σ.1 132 ∧ σ'.1 133 = σ.1 133 ∧ σ'.1 135 = σ.1 135) ∧ Fr [0, 1, 4, 5, 8, 9, 10, 11, 12, 13, 14, 15, 16, 17, 18] σ σ' ∧ Fr [206, 208, 210, 213, 214, 219] τ τ' ∧ Fm [0, 2, 3, 4, 5, 11, 12, 13, 14, 15, 16, 17, 18, 24, 40, 42] τ τ'
theorem k_book (hN : 2000 ≤ N) (hK : KRel σ τ S u top H) (hT : TapR σ τ n B) (hNm : NmR σ τ 4 0 (S 0) ∧ NmR σ τ 5 8 (S 1)) (hR : RvR τ) (hTl : TldR σ τ) (x : Int32) : ∃ r σ' τ', f_X11_book N x σ = some (r, σ') ∧ f_X12_book N x τ = some (r, τ') ∧ ((σ' = σ ∧ τ' = sI τ 206 0 (nI 0)) ∨ ∃ S' u' top' H', KRel σ' τ' S' u' top' H' ∧ sameO S S' ∧ TldR σ' τ' ∧ (σ'.1 0 15 = τ'.1 206 15 ∧ σ'.1 1 1 = nI 0 ∧ τ'.1 206 2 = nI 0) ∧ BkO σ τ σ' τ') := by
  by_cases hx : x = nI 0 ∨ x = nI 1
  · obtain ⟨r, σ', τ', S', u', top', H', e1, e2, a1, a2, a3, a4, a5, a6⟩ := k_bookL hN hK hT hNm hR hTl hx
    exact ⟨r, σ', τ', e1, e2, Or.inr ⟨S', u', top', H', a1, a2, a3, a4, a5, a6, fr_X11_book (by decide) e1, fr_X12_book (by decide) e2, fm_X12_book (by decide) e2⟩⟩
  · refine ⟨-1000, σ, sI τ 206 0 (nI 0), ?_, ?_, Or.inl ⟨rfl, rfl⟩⟩
    · rw [c_book, if_neg (show ¬ x = 0 from fun h => hx (Or.inl h)), if_neg (fun h => hx (Or.inr h))]
    · unfold f_X12_book
      rw [vl_q, m_isIn, bp_q, decide_eq_false (fun h => hx (by
        obtain ⟨n, n1, n2, rfl⟩ := inR (lo := 0) (hi := 1) (by decide) (by decide) h
        have : n = 0 ∨ n = 1 := by omega
        rcases this with rfl | rfl
        · exact Or.inl rfl
        · exact Or.inr rfl)), if_bI, if_neg (by decide)]
end KBook
