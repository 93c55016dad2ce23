/-! what the Statement gives of the start -/
theorem tl_m {w : Cond} (i : Nat) (h : tables_1[i]? = some w) : w ∈ lw_tbl := List.mem_append_right _ (List.mem_of_getElem? h)
theorem gv_m {b : Nat} {s : State} {w : Cond} (i : Nat) (h : (flatC (Cond.and given_1 narrow_1))[i]? = some w) (hgv : (Cond.and given_1 narrow_1).before #[Value.ref b] s = true) : w.before #[Value.ref b] s = true := flat_of_before _ hgv _ (List.mem_of_getElem? h)
theorem tb_sub {args : Array Value} {s : State} (hts : ∀ w ∈ lw_tbl, w.before args s = true) : ∀ w ∈ tb, w.before args s = true := fun w hw => hts w (List.mem_filter.mp hw).1
def plL : List Nat := [513, 571, 589, 595, 602, 608, 565, 567, 569, 1125, 1128, 1130, 1132, 1134, 1137, 1253, 1251, 1207, 1210, 1212, 1214, 1216, 1218, 1220, 1222, 1224, 1226]
def peL : List Nat := [4, 48, 51, 54, 57, 60, 39, 42, 45, 92, 95, 98, 101, 104, 107, 143, 140, 110, 113, 116, 119, 122, 125, 128, 131, 134, 137]
def pcL : List Nat := [6, 50, 53, 56, 59, 62, 41, 44, 47, 94, 97, 100, 103, 106, 109, 145, 142, 112, 115, 118, 121, 124, 127, 130, 133, 136, 139]
theorem wd_l : ∀ i, i < 27 → tables_1[plL.getD i 0]? = some (Cond.laysStatic "CoastLights$Word" (wnm i) "LCoastLights$Word;") := by decide +kernel
theorem wd_e : ∀ i, i < 27 → (flatC (Cond.and given_1 narrow_1))[peL.getD i 0]? = some (Cond.exactly (.static "CoastLights$Word" (wnm i) "LCoastLights$Word;") "CoastLights$Word") := by decide +kernel
theorem wd_c : ∀ i, i < 27 → (flatC (Cond.and given_1 narrow_1))[pcL.getD i 0]? = some (Cond.eq (.field (.static "CoastLights$Word" (wnm i) "LCoastLights$Word;") "CoastLights$Word" "code" "J") (.long (wc i))) := by decide +kernel
theorem wd_a : ∀ i, i < 27 → (flatC (Cond.and given_1 narrow_1))[12 + i]? = some (Cond.eq (.elem (.static "CoastLights$Word" "ALL" "[LCoastLights$Word;") (.int (Int32.ofNat i))) (.static "CoastLights$Word" (wnm i) "LCoastLights$Word;")) := by decide +kernel
theorem st_x : ∀ i, i < 9 → (flatC (Cond.and given_1 narrow_1))[66 + i]? = some (Cond.eq (.elem (.static "CoastLights" "STEP_X" "[I") (.int (Int32.ofNat i))) (.int (sx i))) := by decide +kernel
theorem st_y : ∀ i, i < 9 → (flatC (Cond.and given_1 narrow_1))[78 + i]? = some (Cond.eq (.elem (.static "CoastLights" "STEP_Y" "[I") (.int (Int32.ofNat i))) (.int (sy i))) := by decide +kernel
def psL : List Nat := [221, 229, 234]
theorem ks_e : ∀ i, i < 3 → (flatC (Cond.and given_1 narrow_1))[psL.getD i 0]? = some (Cond.exactly (.string "CoastLights" (strI i)) "java/lang/String") := by decide +kernel
theorem ks_c : ∀ i, i < 3 → (flatC (Cond.and given_1 narrow_1))[psL.getD i 0 + 1]? = some (Cond.eq (.field (.string "CoastLights" (strI i)) "java/lang/String" "coder" "B") (.int 0)) := by decide +kernel
theorem ks_a : ∀ i, i < 3 → (flatC (Cond.and given_1 narrow_1))[psL.getD i 0 + 2]? = some (Cond.arrayOf (.field (.string "CoastLights" (strI i)) "java/lang/String" "value" "[B") .byte) := by decide +kernel
theorem ks_n : ∀ i, i < 3 → (flatC (Cond.and given_1 narrow_1))[psL.getD i 0 + 3]? = some (Cond.eq (.length (.field (.string "CoastLights" (strI i)) "java/lang/String" "value" "[B")) (.int (Int32.ofNat (lenS.getD i 0)))) := by decide +kernel
theorem ks_b : ∀ i, i < 3 → ∀ j, j < lenS.getD i 0 → (flatC (Cond.and given_1 narrow_1))[psL.getD i 0 + 4 + j]? = some (Cond.eq (.elem (.field (.string "CoastLights" (strI i)) "java/lang/String" "value" "[B") (.int (Int32.ofNat j))) (.int ((bytS.getD i []).getD j 0))) := by decide +kernel
def prL : List Nat := [1008, 1065, 1066]
theorem ks_r : ∀ i, i < 3 → tables_1[prL.getD i 0]? = some (Cond.stringRef "CoastLights" (strI i) (strT i)) := by decide +kernel
theorem ns_p : nestL = ([36, 101, 179, 295, 321, 367, 385, 673, 730, 835, 837, 839, 900, 1093] : List Nat).filterMap (fun i => tables_1[i]?) := by decide +kernel
theorem nb_p : nseB = ([1312, 1314, 1316, 1311] : List Nat).filterMap (fun i => tables_1[i]?) := by decide +kernel
theorem ao_p : aoL.map (fun C => Cond.arrayOver (.object C)) = ([97, 99, 353, 376] : List Nat).filterMap (fun i => tables_1[i]?) := by decide +kernel
theorem ps_in {ws : List Cond} {ps : List Nat} (h : ws = ps.filterMap (fun i => tables_1[i]?)) : ∀ w ∈ ws, w ∈ lw_tbl := fun w hw => by
  rw [h] at hw
  obtain ⟨i, -, hi⟩ := List.mem_filterMap.mp hw
  exact tl_m i hi
theorem nx_at {args : Array Value} {s : State} (hts : ∀ w ∈ lw_tbl, w.before args s = true) : Nx s := fun w hw => va_Nw.of (by rcases nx_kind w hw with ⟨x, rfl⟩ | rfl <;> rfl) (hts w (ps_in nb_p w hw))
theorem ao_at {args : Array Value} {s : State} (hts : ∀ w ∈ lw_tbl, w.before args s = true) : ∀ C ∈ aoL, va_AO C s := fun C hC => va_AO.of (hts _ (ps_in ao_p _ (List.mem_map.mpr ⟨C, hC, rfl⟩)))
theorem vz_at {b : Nat} {s : State} {A : Nat → Prop} (hts : ∀ w ∈ lw_tbl, w.before #[Value.ref b] s = true) (hgv : (Cond.and given_1 narrow_1).before #[Value.ref b] s = true) (hA : ∀ a : Nat, a < s.heap.size → ¬ A a) : VZ A s s.heap :=
  ⟨vx_Zqof (hts _ (tl_m 1336 (by decide +kernel))) (hts _ (tl_m 17 (by decide +kernel))) (gv_m 146 (by decide +kernel) hgv) hA, vx_Zqof (hts _ (tl_m 1338 (by decide +kernel))) (hts _ (tl_m 17 (by decide +kernel))) (gv_m 147 (by decide +kernel) hgv) hA⟩
theorem kc_at {args : Array Value} {s : State} (hts : ∀ w ∈ tb, w.before args s = true) (k : Nat) : ∃ x : ClassId × (Nat → Nat), ∀ q : vw_C, vwCl[k]? = some q → u_Kn s q.1 q.2.1 q.2.2 x.1 x.2 := by
  by_cases q0 : k = 0
  · subst q0
    obtain ⟨cC, iS, h⟩ := u_known (ws := tb) (n := 6) hts cws_0 (hts _ (tb_2 80 (by decide +kernel) (by decide +kernel)))
    exact ⟨(cC, iS), fun q hq => by cases hq; exact h⟩
  by_cases q1 : k = 1
  · subst q1
    obtain ⟨cC, iS, h⟩ := u_known (ws := tb) (n := 7) hts cws_1 (hts _ (tb_1 91 (by decide +kernel) (by decide +kernel)))
    exact ⟨(cC, iS), fun q hq => by cases hq; exact h⟩
  by_cases q2 : k = 2
  · subst q2
    obtain ⟨cC, iS, h⟩ := u_known (ws := tb) (n := 1) hts cws_2 (hts _ (tb_2 126 (by decide +kernel) (by decide +kernel)))
    exact ⟨(cC, iS), fun q hq => by cases hq; exact h⟩
  by_cases q3 : k = 3
  · subst q3
    obtain ⟨cC, iS, h⟩ := u_known (ws := tb) (n := 4) hts cws_3 (hts _ (tb_2 137 (by decide +kernel) (by decide +kernel)))
    exact ⟨(cC, iS), fun q hq => by cases hq; exact h⟩
  by_cases q4 : k = 4
  · subst q4
    obtain ⟨cC, iS, h⟩ := u_known (ws := tb) (n := 14) hts cws_4 (hts _ (tb_1 100 (by decide +kernel) (by decide +kernel)))
    exact ⟨(cC, iS), fun q hq => by cases hq; exact h⟩
  by_cases q5 : k = 5
  · subst q5
    obtain ⟨cC, iS, h⟩ := u_known (ws := tb) (n := 3) hts cws_5 (hts _ (tb_2 107 (by decide +kernel) (by decide +kernel)))
    exact ⟨(cC, iS), fun q hq => by cases hq; exact h⟩
  by_cases q6 : k = 6
  · subst q6
    obtain ⟨cC, iS, h⟩ := u_known (ws := tb) (n := 9) hts cws_6 (hts _ (tb_2 8 (by decide +kernel) (by decide +kernel)))
    exact ⟨(cC, iS), fun q hq => by cases hq; exact h⟩
  by_cases q7 : k = 7
  · subst q7
    obtain ⟨cC, iS, h⟩ := u_known (ws := tb) (n := 6) hts cws_7 (hts _ (tb_2 54 (by decide +kernel) (by decide +kernel)))
    exact ⟨(cC, iS), fun q hq => by cases hq; exact h⟩
  by_cases q8 : k = 8
  · subst q8
    obtain ⟨cC, iS, h⟩ := u_known (ws := tb) (n := 5) hts cws_8 (hts _ (tb_1 178 (by decide +kernel) (by decide +kernel)))
    exact ⟨(cC, iS), fun q hq => by cases hq; exact h⟩
  by_cases q9 : k = 9
  · subst q9
    obtain ⟨cC, iS, h⟩ := u_known (ws := tb) (n := 12) hts cws_9 (hts _ (tb_1 35 (by decide +kernel) (by decide +kernel)))
    exact ⟨(cC, iS), fun q hq => by cases hq; exact h⟩
  by_cases q10 : k = 10
  · subst q10
    obtain ⟨cC, iS, h⟩ := u_known (ws := tb) (n := 20) hts cws_10 (hts _ (tb_1 27 (by decide +kernel) (by decide +kernel)))
    exact ⟨(cC, iS), fun q hq => by cases hq; exact h⟩
  by_cases q11 : k = 11
  · subst q11
    obtain ⟨cC, iS, h⟩ := u_known (ws := tb) (n := 53) hts cws_11 (hts _ (tb_6 190 (by decide +kernel) (by decide +kernel)))
    exact ⟨(cC, iS), fun q hq => by cases hq; exact h⟩
  exact ⟨(0, fun _ => 0), fun q hq => by
    have := (List.getElem?_eq_some_iff.mp hq).1
    have h12 : k < 12 := this
    omega⟩
def tyL : List FieldType := [.int, .boolean, .byte, .long, .object "CoastLights$Light", .object "CoastLights$Ship", .object "CoastLights$Scene", .object "CoastLights$Image"]
theorem ka_at {args : Array Value} {s : State} (hts : ∀ w ∈ lw_tbl, w.before args s = true) (k : Nat) : ∃ c : ClassId, ∀ ty, tyL[k]? = some ty → ArrOfT s c ty ∧ va_RA s c ty := by
  by_cases q0 : k = 0
  · subst q0
    obtain ⟨cA, kA, comp, h1, h2, h3⟩ := Cond.arrayClass_spec (type := .int) (hts _ (tl_m 89 (by decide +kernel)))
    exact ⟨cA, fun ty h => by cases h; exact ⟨fun n z => ⟨fun k h => (by cases h), kA, h2, comp, h3⟩, h1⟩⟩
  by_cases q1 : k = 1
  · subst q1
    obtain ⟨cA, kA, comp, h1, h2, h3⟩ := Cond.arrayClass_spec (type := .boolean) (hts _ (tl_m 177 (by decide +kernel)))
    exact ⟨cA, fun ty h => by cases h; exact ⟨fun n z => ⟨fun k h => (by cases h), kA, h2, comp, h3⟩, h1⟩⟩
  by_cases q2 : k = 2
  · subst q2
    obtain ⟨cA, kA, comp, h1, h2, h3⟩ := Cond.arrayClass_spec (type := .byte) (hts _ (tl_m 1067 (by decide +kernel)))
    exact ⟨cA, fun ty h => by cases h; exact ⟨fun n z => ⟨fun k h => (by cases h), kA, h2, comp, h3⟩, h1⟩⟩
  by_cases q3 : k = 3
  · subst q3
    obtain ⟨cA, kA, comp, h1, h2, h3⟩ := Cond.arrayClass_spec (type := .long) (hts _ (tl_m 1592 (by decide +kernel)))
    exact ⟨cA, fun ty h => by cases h; exact ⟨fun n z => ⟨fun k h => (by cases h), kA, h2, comp, h3⟩, h1⟩⟩
  by_cases q4 : k = 4
  · subst q4
    obtain ⟨comp, cA, kA, h1, h2, h3, h4, h5⟩ := Cond.arrayOver_spec (n := "CoastLights$Light") (hts _ (tl_m 97 (by decide +kernel)))
    exact ⟨cA, fun ty h => by cases h; exact ⟨fun n z => ⟨fun k h => (by cases h), kA, h3, comp, h4⟩, kA, comp, h3, h4, h1, h5⟩⟩
  by_cases q5 : k = 5
  · subst q5
    obtain ⟨comp, cA, kA, h1, h2, h3, h4, h5⟩ := Cond.arrayOver_spec (n := "CoastLights$Ship") (hts _ (tl_m 99 (by decide +kernel)))
    exact ⟨cA, fun ty h => by cases h; exact ⟨fun n z => ⟨fun k h => (by cases h), kA, h3, comp, h4⟩, kA, comp, h3, h4, h1, h5⟩⟩
  by_cases q6 : k = 6
  · subst q6
    obtain ⟨comp, cA, kA, h1, h2, h3, h4, h5⟩ := Cond.arrayOver_spec (n := "CoastLights$Scene") (hts _ (tl_m 353 (by decide +kernel)))
    exact ⟨cA, fun ty h => by cases h; exact ⟨fun n z => ⟨fun k h => (by cases h), kA, h3, comp, h4⟩, kA, comp, h3, h4, h1, h5⟩⟩
  by_cases q7 : k = 7
  · subst q7
    obtain ⟨comp, cA, kA, h1, h2, h3, h4, h5⟩ := Cond.arrayOver_spec (n := "CoastLights$Image") (hts _ (tl_m 376 (by decide +kernel)))
    exact ⟨cA, fun ty h => by cases h; exact ⟨fun n z => ⟨fun k h => (by cases h), kA, h3, comp, h4⟩, kA, comp, h3, h4, h1, h5⟩⟩
  exact ⟨0, fun q hq => by
    have := (List.getElem?_eq_some_iff.mp hq).1
    have h8 : k < 8 := this
    omega⟩
theorem k_at {args : Array Value} {s : State} (hts : ∀ w ∈ lw_tbl, w.before args s = true) : ∃ (D : va_G) (dA : Nat → ClassId), va_K D vwCl (tys dA) s := by
  obtain ⟨f, hf⟩ := Classical.axiomOfChoice (kc_at (tb_sub hts))
  obtain ⟨g, hg⟩ := Classical.axiomOfChoice (ka_at hts)
  refine ⟨(fun k => (f k).1, fun k => (f k).2), fun i => g (i - 20), fun k q hq => hf k q hq, fun k q hq => ?_⟩
  have h8 : k < 8 := (List.getElem?_eq_some_iff.mp hq).1
  have key : ∀ j, j < 8 → ∀ q, (tys fun i => g (i - 20))[j]? = some q → q.1 = g j ∧ tyL[j]? = some q.2 := by
    intro j hj q hq
    rcases (show j = 0 ∨ j = 1 ∨ j = 2 ∨ j = 3 ∨ j = 4 ∨ j = 5 ∨ j = 6 ∨ j = 7 by omega) with rfl | rfl | rfl | rfl | rfl | rfl | rfl | rfl <;> (cases hq; exact ⟨rfl, rfl⟩)
  obtain ⟨e1, e2⟩ := key k h8 q hq
  rw [e1]
  exact hg k q.2 e2
theorem vk_R_at {own tx : String} {k a : Nat} {args : Array Value} {U : State} (h1 : (Cond.stringRef own k tx).before args U = true) (h2 : (Term.string own k).eval args U none [] U = some (.ref a)) : vk_R own k tx a U := vk_R.of h1 h2
/-! the addresses -/
def adr (B : Nat) (w : Nat → Nat) (a27 a28 a29 : Nat) (aK aV : Nat → Nat) (b : Nat) : Nat → Nat := fun i => if i < 226 then B + i else if i < 1027 then w (i - 1000) else if i = 1027 then a27 else if i = 1028 then a28 else if i = 1029 then a29 else if i < 2010 then aK (i - 2000) else if i < 3000 then aV (i - 2010) else b
theorem T_cong {ty : FieldType} {t N : Nat} {f g : Nat → Value} {A : Nat → Prop} {U : State} {H : Heap} (h : va_T ty t N f A U H) (e : ∀ j, j < N → f j = g j) : va_T ty t N g A U H := by
  obtain ⟨cell, h1, h2, h3, h4, h5, h6, h7⟩ := h
  exact ⟨cell, h1, h2, h3, h4, h5, fun j hj => by rw [← e j hj]; exact h6 j hj, h7⟩
theorem strs_at {b : Nat} {s : State} {A : Nat → Prop} (hgv : (Cond.and given_1 narrow_1).before #[Value.ref b] s = true) (hA : ∀ a : Nat, a < s.heap.size → ¬ A a) : ∃ adK adV : Nat → Nat, vk_S 3 lenS bytS adK adV A s s.heap ∧ ∀ i : Nat, i < 3 → (Term.string "CoastLights" (strI i)).eval #[Value.ref b] s none [] s = some (.ref (adK i)) := by
  have h0 : ∀ i : Nat, ∃ q : Nat × Nat, i < 3 → (Term.string "CoastLights" (strI i)).eval #[Value.ref b] s none [] s = some (.ref q.1) ∧ va_O "java/lang/String" q.1 A s s.heap ∧ va_OF "java/lang/String" "coder" "B" (.int 0) q.1 A s s.heap ∧ va_OF "java/lang/String" "value" "[B" (.ref q.2) q.1 A s s.heap ∧ va_T .byte q.2 (lenS.getD i 0) (fun j => .int ((bytS.getD i []).getD j 0)) A s s.heap := by
    intro i
    by_cases hi : i < 3
    · obtain ⟨a, c, cA, kA, q1, q2, q3, q4, q5, q6, -⟩ := Cond.exactly_spec (args := #[Value.ref b]) (first := s) (o := none) (s := s) (idx := []) (t := .string "CoastLights" (strI i)) (cls := "java/lang/String") (gv_m _ (ks_e i hi) hgv)
      have hN : lenS.getD i 0 < 2 ^ 31 := by
        have : ∀ i, i < 3 → lenS.getD i 0 < 2 ^ 31 := by decide
        exact this i hi
      obtain ⟨t, ht, hT⟩ := va_Tof (f := fun j => .int ((bytS.getD i []).getD j 0)) (A := A) hN (gv_m _ (ks_a i hi) hgv) (va_eqt (gv_m _ (ks_n i hi) hgv)) (fun j hj => va_eqt (gv_m _ (ks_b i hi j hj) hgv)) hA
      exact ⟨(a, t), fun _ => ⟨q1, ⟨cA, q3, q5, by rw [q6]; exact q2, hA a (Array.getElem?_eq_some_iff.mp q3).1⟩, vk_OFof q1 (va_eqt (gv_m _ (ks_c i hi) hgv)) hA, vk_OFof q1 ht hA, hT⟩⟩
    · exact ⟨(0, 0), fun h => absurd h hi⟩
  obtain ⟨ad, had⟩ := Classical.axiomOfChoice h0
  refine ⟨fun i => (ad i).1, fun i => (ad i).2, ⟨fun i hi => (had i hi).2, fun i j hi hj e => ?_⟩, fun i hi => (had i hi).1⟩
  obtain ⟨-, -, -, ⟨cf, k, fi, f, cell, f1, f2, f3, f4, f5, f6⟩, ⟨c2, g1, g2, g3, g4, g5, g6, g7⟩⟩ := had i hi
  obtain ⟨-, -, -, ⟨cf', k', fi', f', cell', f1', f2', f3', f4', f5', f6'⟩, ⟨c2', g1', g2', g3', g4', g5', g6', g7'⟩⟩ := had j hj
  cases f1.symm.trans f1'
  have e : (ad i).1 = (ad j).1 := e
  rw [e] at f3
  cases f3.symm.trans f3'
  have ev : (ad i).2 = (ad j).2 := Value.ref.inj (Option.some.inj (f5.symm.trans f5'))
  rw [ev] at g1
  cases g1.symm.trans g1'
  have en := g5.symm.trans g5'
  have key : ∀ i, i < 3 → ∀ j, j < 3 → Int32.ofNat (lenS.getD i 0) = Int32.ofNat (lenS.getD j 0) → i = j := by decide +kernel
  exact key i hi j hj en
theorem world_at {b : Nat} {s : State} {A : Nat → Prop} (B : Nat) (hts : ∀ w ∈ lw_tbl, w.before #[Value.ref b] s = true) (hgv : (Cond.and given_1 narrow_1).before #[Value.ref b] s = true) (hA : ∀ a : Nat, a < s.heap.size → ¬ A a) : ∃ ad : Nat → Nat, (∀ i, i < 226 → ad i = B + i) ∧ ad 3000 = b ∧ Sta (fun i => ad (1000 + i)) A s s.heap ∧ Nst ad s := by
  have hw0 : ∀ i : Nat, ∃ a : Nat, i < 27 → (Term.static "CoastLights$Word" (wnm i) "LCoastLights$Word;").eval #[Value.ref b] s none [] s = some (.ref a) := by
    intro i
    by_cases hi : i < 27
    · obtain ⟨a, c, cA, kA, q1, -⟩ := Cond.exactly_spec (args := #[Value.ref b]) (first := s) (o := none) (s := s) (idx := []) (t := .static "CoastLights$Word" (wnm i) "LCoastLights$Word;") (cls := "CoastLights$Word") (gv_m _ (wd_e i hi) hgv)
      exact ⟨a, fun _ => q1⟩
    · exact ⟨0, fun h => absurd h hi⟩
  obtain ⟨w, hw⟩ := Classical.axiomOfChoice hw0
  obtain ⟨a27, e27, t27⟩ := va_Tof (tm := .static "CoastLights$Word" "ALL" "[LCoastLights$Word;") (ty := .object "CoastLights$Word") (N := 27) (f := fun j => .ref (w j)) (A := A) (by decide) (gv_m 9 (by decide +kernel) hgv) (va_eqt (gv_m 10 (by decide +kernel) hgv)) (fun j hj => va_eqv (gv_m _ (wd_a j hj) hgv) (hw j hj)) hA
  obtain ⟨a28, e28, t28⟩ := va_Tof (tm := .static "CoastLights" "STEP_X" "[I") (ty := .int) (N := 9) (f := fun j => .int (sx j)) (A := A) (by decide) (gv_m 64 (by decide +kernel) hgv) (va_eqt (gv_m 65 (by decide +kernel) hgv)) (fun j hj => va_eqt (gv_m _ (st_x j hj) hgv)) hA
  obtain ⟨a29, e29, t29⟩ := va_Tof (tm := .static "CoastLights" "STEP_Y" "[I") (ty := .int) (N := 9) (f := fun j => .int (sy j)) (A := A) (by decide) (gv_m 76 (by decide +kernel) hgv) (va_eqt (gv_m 77 (by decide +kernel) hgv)) (fun j hj => va_eqt (gv_m _ (st_y j hj) hgv)) hA
  obtain ⟨aK, aV, hS, hK⟩ := strs_at (A := A) hgv hA
  have d1 : ∀ i, i < 27 → adr B w a27 a28 a29 aK aV b (1000 + i) = w i := fun i hi => by
    unfold adr
    rw [if_neg (by omega), if_pos (by omega), Nat.add_sub_cancel_left]
  have d2 : ∀ i, i < 3 → adr B w a27 a28 a29 aK aV b (2000 + i) = aK i := fun i hi => by
    unfold adr
    rw [if_neg (by omega), if_neg (by omega), if_neg (by omega), if_neg (by omega), if_neg (by omega), if_pos (by omega), Nat.add_sub_cancel_left]
  have d3 : ∀ i, i < 3 → adr B w a27 a28 a29 aK aV b (2010 + i) = aV i := fun i hi => by
    unfold adr
    rw [if_neg (by omega), if_neg (by omega), if_neg (by omega), if_neg (by omega), if_neg (by omega), if_neg (by omega), if_pos (by omega), Nat.add_sub_cancel_left]
  refine ⟨adr B w a27 a28 a29 aK aV b, fun i hi => if_pos hi, rfl, ⟨fun i hi => ?_, ?_, ?_, ?_, ?_, ?_, ?_, ?_, ?_, ?_⟩, ?_, ?_⟩
  · show va_Z _ _ _ (.ref (adr B w a27 a28 a29 aK aV b (1000 + i))) A s s.heap ∧ va_OF _ _ _ _ (adr B w a27 a28 a29 aK aV b (1000 + i)) A s s.heap
    rw [d1 i hi]
    exact ⟨va_Zof (hts _ (tl_m _ (wd_l i hi))) (hts _ (tl_m 15 (by decide +kernel))) (hw i hi) hA, vk_OFof (hw i hi) (va_eqtl (gv_m _ (wd_c i hi) hgv)) hA⟩
  · exact va_Zof (hts _ (tl_m 539 (by decide +kernel))) (hts _ (tl_m 15 (by decide +kernel))) e27 hA
  · exact T_cong t27 (fun j hj => by show Value.ref (w j) = .ref (adr B w a27 a28 a29 aK aV b (1000 + j)); rw [d1 j hj])
  · exact va_Zof (hts _ (tl_m 836 (by decide +kernel))) (hts _ (tl_m 1 (by decide +kernel))) e28 hA
  · exact t28
  · exact va_Zof (hts _ (tl_m 838 (by decide +kernel))) (hts _ (tl_m 1 (by decide +kernel))) e29 hA
  · exact t29
  · obtain ⟨h1, h2⟩ := hS
    have f2 : ∀ i, i < 3 → adr B w a27 a28 a29 aK aV b (1000 + (1000 + i)) = aK i := fun i hi => by rw [← d2 i hi, ← Nat.add_assoc]
    have f3 : ∀ i, i < 3 → adr B w a27 a28 a29 aK aV b (1000 + (1010 + i)) = aV i := fun i hi => by rw [← d3 i hi, ← Nat.add_assoc]
    refine ⟨fun i hi => ?_, fun i j hi hj e => ?_⟩
    · show va_O "java/lang/String" (adr B w a27 a28 a29 aK aV b (1000 + (1000 + i))) A s s.heap ∧ va_OF "java/lang/String" "coder" "B" (.int 0) (adr B w a27 a28 a29 aK aV b (1000 + (1000 + i))) A s s.heap ∧ va_OF "java/lang/String" "value" "[B" (.ref (adr B w a27 a28 a29 aK aV b (1000 + (1010 + i)))) (adr B w a27 a28 a29 aK aV b (1000 + (1000 + i))) A s s.heap ∧ va_T .byte (adr B w a27 a28 a29 aK aV b (1000 + (1010 + i))) (lenS.getD i 0) (fun j => .int ((bytS.getD i []).getD j 0)) A s s.heap
      rw [f2 i hi, f3 i hi]
      exact h1 i hi
    · refine h2 i j hi hj ?_
      have e : adr B w a27 a28 a29 aK aV b (1000 + (1000 + i)) = adr B w a27 a28 a29 aK aV b (1000 + (1000 + j)) := e
      rw [f2 i hi, f2 j hj] at e
      exact e
  · exact va_Zof (hts _ (tl_m 1022 (by decide +kernel))) (hts _ (tl_m 22 (by decide +kernel))) (va_eqi (gv_m 87 (by decide +kernel) hgv)) hA
  · exact va_Zqof (hts _ (tl_m 1038 (by decide +kernel))) (hts _ (tl_m 24 (by decide +kernel))) (gv_m 88 (by decide +kernel) hgv) hA
  · exact fun w hw => va_Nw.of (by rcases nest_kind w hw with ⟨a, i, x, h, rfl⟩ | ⟨a, i, b, n, d, h, rfl⟩ <;> rfl) (hts w (ps_in ns_p w hw))
  · intro i hi
    rw [d2 i hi]
    exact vk_R_at (hts _ (tl_m _ (ks_r i hi))) (hK i hi)
