/-! strings: rows, the JDK's own methods of them, the walks of tagText and tag -/
def slen (a : Nat) : Int32 := nI (lenS.getD (a - 2000) 0)
def scat {T : Type} (a : Nat) (i : Int32) (K : Int32 → Option T) : Option T := if isN i (lenS.getD (a - 2000) 0) = true then K ((bytS.getD (a - 2000) []).getD i.toNatClampNeg 0) else none
abbrev mS_len : MI := (yJ0_length_8abf5, cJ0_length_8abf5, 1, (some .int))
theorem mwS_len : Mw mS_len 0 := ⟨tb_5 56 (by decide +kernel) (by decide +kernel), tb_1 22 (by decide +kernel) (by decide +kernel), by decide +kernel, mw_sig (by decide +kernel), by decide⟩
abbrev mS_cod : MI := (yJ0_coder_7d493, cJ0_coder_7d493, 1, (some .byte))
theorem mwS_cod : Mw mS_cod 0 := ⟨tb_5 60 (by decide +kernel) (by decide +kernel), tb_1 22 (by decide +kernel) (by decide +kernel), by decide +kernel, mw_sig (by decide +kernel), by decide⟩
abbrev mS_lat : MI := (yJ0_isLatin1_aae02, cJ0_isLatin1_aae02, 1, (some .boolean))
theorem mwS_lat : Mw mS_lat 0 := ⟨tb_5 70 (by decide +kernel) (by decide +kernel), tb_1 22 (by decide +kernel) (by decide +kernel), by decide +kernel, mw_sig (by decide +kernel), by decide⟩
abbrev mS_chr : MI := (yJ0_charAt_5068e, cJ0_charAt_5068e, 2, (some .char))
theorem mwS_chr : Mw mS_chr 1 := ⟨tb_5 66 (by decide +kernel) (by decide +kernel), tb_1 22 (by decide +kernel) (by decide +kernel), by decide +kernel, mw_sig (by decide +kernel), by decide⟩
abbrev mS_chk : MI := (yJ0_checkIndex_df160, cJ0_checkIndex_df160, 2, none)
theorem mwS_chk : Mw mS_chk 2 := ⟨tb_5 76 (by decide +kernel) (by decide +kernel), tb_1 22 (by decide +kernel) (by decide +kernel), by decide +kernel, mw_sig (by decide +kernel), by decide⟩
abbrev mS_l1c : MI := (yJ1_charAt_3b067, cJ1_charAt_3b067, 2, (some .char))
theorem mwS_l1c : Mw mS_l1c 2 := ⟨tb_5 73 (by decide +kernel) (by decide +kernel), tb_1 23 (by decide +kernel) (by decide +kernel), by decide +kernel, mw_sig (by decide +kernel), by decide⟩
abbrev mS_pre : MI := (yJ3_checkIndex_8e157, cJ3_checkIndex_8e157, 3, (some .int))
theorem mwS_pre : Mw mS_pre 3 := ⟨tb_5 81 (by decide +kernel) (by decide +kernel), tb_1 24 (by decide +kernel) (by decide +kernel), by decide +kernel, mw_sig (by decide +kernel), by decide⟩
section StrL
variable {p : Program} {l : Launch} {e : Env} {R : Room} {s : State} {m : MethodId} {args : Array Value} {below : List Frame} {meth : Method} {c : Code} {H : Heap} {locs : List Loc} {cells slots : Nat} {Q : State → Prop} {cc : ByteArray} {pc : Nat} {ls : Array Slot} {rest : List Value}
/-- ldc_w of a string -/
theorem sq_ldcw {T : State} (X : Stand p l e R s m args below meth c T locs cells slots) (hexec : p.tables.exec = Jvm.exec) {own text : String} {index : Nat} {a : Addr} (hown : s.vm.findClass own = some m.cls) (hconst : (Cond.stringRef own index text).before #[] s = true) (hev : (Term.string own index).eval #[] s none [] s = some (.ref a)) {g : JFrame} (hg : g.method = m) (hdg : decode c.code g.pc = .ok (.ldc_w index, 3)) :
    ∀ target, Steps p.tables e below (T.setTop { g with pc := g.pc + 3, stack := .ref a :: g.stack }) target → Steps p.tables e below (T.setTop g) target := by
  obtain ⟨k, cf, i, a', hk, hcf, hcp, -, hr, hev'⟩ := Cond.stringRef_spec hown hconst
  cases hev.symm.trans hev'
  obtain ⟨k', hk', he⟩ := X.warmed.alike.2.2 _ _ hk
  have hr' : k'.resolved[index]? = some (some (.string a)) := by
    rcases X.warmed.entry hk hk' index with h | ⟨h, -⟩
    · rw [h]; exact hr
    · rw [hr] at h; cases h
  intro target hrest
  subst hg
  jvm_step X.here [hexec, hdg, ldc_w.wp_string (e := e) (s := T) (f := g) X.here.top hk' (by rw [he]; exact hcf) hcp hr']
  exact hrest
theorem sq_ldcS (hexec : p.tables.exec = Jvm.exec) (hb : c.code = cc) {own tx : String} {index q : Nat} (hown : s.vm.findClass own = some m.cls) (hZ : vk_R own index tx q s) (hdg : decode cc pc = .ok (.ldc_w index, 3))
    (k : W p l e R s m args below meth c H locs cells slots Q (F0 m (pc + 3) ls (.ref q :: rest))) : W p l e R s m args below meth c H locs cells slots Q (F0 m pc ls rest) := by
  intro T hT X
  obtain ⟨t, a1, b1⟩ := k T hT X
  exact ⟨t, sq_ldcw X hexec hown (text := tx) (a := q) hZ.1 hZ.2 (g := F0 m pc ls rest) rfl (by rw [hb]; exact hdg) t a1, b1⟩
end StrL
section StrR
variable {μ ν : MI} {d dν n : Nat} {Z : Option Value × St} {pc pc2 : Nat} {lv : List (Option Value)} {st : List Value} {σ σ1 : St}
/-- a method upon a string -/
def Mq (own : String) (idx : Nat) (ν : MI) (n : Nat) : Prop := Mw ν n ∧ Cond.methodLink own idx ν.1 ∈ tb ∧ Cond.instanceMethod ν.1 ∈ tb ∧ Cond.selects ν.1.cls ν.1 ν.1 ∈ tb ∧ ν.1.cls = "java/lang/String"
theorem str_at {i : Nat} (hi : i < 3) {ad : Nat → Nat} : tr ad (.ref (2000 + i)) = .ref (ad (1000 + (1000 + i))) := by rw [show 1000 + (1000 + i) = 2000 + i by omega]; rfl
theorem str_av {i : Nat} {ad : Nat → Nat} : tr ad (.ref (2010 + i)) = .ref (ad (1000 + (1010 + i))) := by rw [show 1000 + (1010 + i) = 2010 + i by omega]; rfl
theorem e_ldcs {idx i : Nat} (hd : Dc μ pc (.ldc_w idx) 3 pc2) (hc : μ.1.cls = "CoastLights") (hi : i < 3) (hx0 : idx = strI i) (k0 : E μ d Z pc2 lv (.ref (2000 + i) :: st) σ) : E μ d Z pc lv st σ := by
  subst hx0
  obtain ⟨hd, rfl⟩ := hd
  intro p l e R s m args below meth c D dA ad Q X F H locs ls hP hS hl
  obtain ⟨hx, hb, hown, hts, hK, hJ, hSt, hN, hml, hlk, hR1, hR2⟩ := id X
  rw [hc] at hown
  exact sq_ldcS hx hb hown (hN.2 i hi) hd (k0 _ _ _ _ _ _ _ _ _ _ _ _ _ _ X F H locs ls hP hS hl)
theorem e_ldcs0 {idx : Nat} (hd : Dc μ pc (.ldc_w idx) 3 pc2) (k0 : E μ d Z pc2 lv (.ref 2000 :: st) σ) (hc : μ.1.cls = "CoastLights" := by rfl) (hx0 : idx = strI 0 := by rfl) : E μ d Z pc lv st σ := e_ldcs (i := 0) hd hc (by decide) hx0 k0
theorem e_ldcs1 {idx : Nat} (hd : Dc μ pc (.ldc_w idx) 3 pc2) (k0 : E μ d Z pc2 lv (.ref 2001 :: st) σ) (hc : μ.1.cls = "CoastLights" := by rfl) (hx0 : idx = strI 1 := by rfl) : E μ d Z pc lv st σ := e_ldcs (i := 1) hd hc (by decide) hx0 k0
theorem e_ldcs2 {idx : Nat} (hd : Dc μ pc (.ldc_w idx) 3 pc2) (k0 : E μ d Z pc2 lv (.ref 2002 :: st) σ) (hc : μ.1.cls = "CoastLights" := by rfl) (hx0 : idx = strI 2 := by rfl) : E μ d Z pc lv st σ := e_ldcs (i := 2) hd hc (by decide) hx0 k0
theorem e_gsCS {idx : Nat} (hd : Dc μ pc (.getstatic idx) 3 pc2) (hw : Cond.fieldLink μ.1.cls idx "java/lang/String" "COMPACT_STRINGS" "Z" ∈ tb) (k0 : E μ d Z pc2 lv (.int 1 :: st) σ) : E μ d Z pc lv st σ := by
  obtain ⟨hd, rfl⟩ := hd
  intro p l e R s m args below meth c D dA ad Q X F H locs ls hP hS hl
  obtain ⟨hx, hb, hown, hts, hK, hJ, hSt, hN, hml, hlk, hR1, hR2⟩ := id X
  exact va_gets hx hb hSt.2.2.2.2.2.2.2.2.1 hS hown (hts _ hw) (fun _ h => h) hd (k0 _ _ _ _ _ _ _ _ _ _ _ _ _ _ X F H locs ls hP hS hl)
theorem e_gscod {idx i : Nat} (hd : Dc μ pc (.getfield idx) 3 pc2) (hi : i < 3) (hw : Cond.fieldLink μ.1.cls idx "java/lang/String" "coder" "B" ∈ tb) (k0 : E μ d Z pc2 lv (.int 0 :: st) σ) : E μ d Z pc lv (.ref (2000 + i) :: st) σ := by
  obtain ⟨hd, rfl⟩ := hd
  intro p l e R s m args below meth c D dA ad Q X F H locs ls hP hS hl
  obtain ⟨hx, hb, hown, hts, hK, hJ, hSt, hN, hml, hlk, hR1, hR2⟩ := id X
  rw [List.map_cons, str_at hi]
  exact vk_getf hx hb (hSt.2.2.2.2.2.2.2.1.1 i hi).2.1 hS hown (hts _ hw) (fun _ h => h) hd (k0 _ _ _ _ _ _ _ _ _ _ _ _ _ _ X F H locs ls hP hS hl)
theorem e_gsval {idx i : Nat} (hd : Dc μ pc (.getfield idx) 3 pc2) (hi : i < 3) (hw : Cond.fieldLink μ.1.cls idx "java/lang/String" "value" "[B" ∈ tb) (k0 : E μ d Z pc2 lv (.ref (2010 + i) :: st) σ) : E μ d Z pc lv (.ref (2000 + i) :: st) σ := by
  obtain ⟨hd, rfl⟩ := hd
  intro p l e R s m args below meth c D dA ad Q X F H locs ls hP hS hl
  obtain ⟨hx, hb, hown, hts, hK, hJ, hSt, hN, hml, hlk, hR1, hR2⟩ := id X
  rw [List.map_cons, str_at hi]
  have k1 := (k0 _ _ _ _ _ _ _ _ _ _ _ _ _ _ X F H locs ls hP hS hl)
  rw [List.map_cons, str_av] at k1
  exact vk_getf hx hb (hSt.2.2.2.2.2.2.2.1.1 i hi).2.2.1 hS hown (hts _ hw) (fun _ h => h) hd k1
theorem e_slenb {i : Nat} (hd : Dc μ pc .arraylength 1 pc2) (hi : i < 3) (k0 : E μ d Z pc2 lv (.int (nI (lenS.getD i 0)) :: st) σ) : E μ d Z pc lv (.ref (2010 + i) :: st) σ := by
  obtain ⟨hd, rfl⟩ := hd
  intro p l e R s m args below meth c D dA ad Q X F H locs ls hP hS hl
  obtain ⟨hx, hb, hown, hts, hK, hJ, hSt, hN, hml, hlk, hR1, hR2⟩ := id X
  rw [List.map_cons, str_av]
  exact va_tlen hx hb (hSt.2.2.2.2.2.2.2.1.1 i hi).2.2.2 hS rfl hd (k0 _ _ _ _ _ _ _ _ _ _ _ _ _ _ X F H locs ls hP hS hl)
theorem e_sbald {i k : Nat} (hd : Dc μ pc .baload 1 pc2) (hi : i < 3) (hk : k < lenS.getD i 0) (k0 : E μ d Z pc2 lv (.int ((bytS.getD i []).getD k 0) :: st) σ) : E μ d Z pc lv (.int (nI k) :: .ref (2010 + i) :: st) σ := by
  have h31 : lenS.getD i 0 < 2 ^ 31 := by
    have : ∀ i, i < 3 → lenS.getD i 0 < 2 ^ 31 := by decide
    exact this i hi
  obtain ⟨hd, rfl⟩ := hd
  intro p l e R s m args below meth c D dA ad Q X F H locs ls hP hS hl
  obtain ⟨hx, hb, hown, hts, hK, hJ, hSt, hN, hml, hlk, hR1, hR2⟩ := id X
  rw [List.map_cons, List.map_cons, str_av]
  exact va_tb hx hb (hSt.2.2.2.2.2.2.2.1.1 i hi).2.2.2 hS (nI_in hk h31) (by rw [nI_clamp (by omega)]; rfl) hd (k0 _ _ _ _ _ _ _ _ _ _ _ _ _ _ X F H locs ls hP hS hl)
theorem e_nret {x : Int32} {ty : FieldType} (hd : Dc μ pc .ireturn 1 pc2) (ht : μ.2.2.2 = some ty) (hn : narrow ty (.int x) = .int x) (hZ : Z = (some (.int x), σ)) : E μ d Z pc lv [.int x] σ := by
  subst hZ
  obtain ⟨hd, rfl⟩ := hd
  intro p l e R s m args below meth c D dA ad Q X F H locs ls hP hS hl
  obtain ⟨hx, hb, hown, hts, hK, hJ, hSt, hN, hml, hlk, hR1, hR2⟩ := id X
  exact F H locs ls pc hP hS hd ⟨ty, ht, hn⟩
theorem e_i2c {x : Int32} (v : Int32) (hd : Dc μ pc .i2c 1 pc2) (hv : (x.toUInt32 % 65536).toInt32 = v) (k0 : E μ d Z pc2 lv (.int v :: st) σ) : E μ d Z pc lv (.int x :: st) σ := by
  obtain ⟨hd, rfl⟩ := hd
  intro p l e R s m args below meth c D dA ad Q X F H locs ls hP hS hl
  obtain ⟨hx, hb, hown, hts, hK, hJ, hSt, hN, hml, hlk, hR1, hR2⟩ := id X
  exact lv_i2c hx hb hd hv (k0 _ _ _ _ _ _ _ _ _ _ _ _ _ _ X F H locs ls hP hS hl)
theorem e_qVi0 {i idx : Nat} {v : Int32} (hd : Dc μ pc (.invokevirtual idx) 3 pc2) (hi : i < 3) (hm : Mq μ.1.cls idx ν 0) (hst : Nat.ble ((st.map Value.category).sum) 8 = true) (hdd : Nat.ble (dν + 1) d = true) (hC : Ct ν dν [.ref (2000 + i)] σ (some (.int v), σ1)) (k0 : E μ d Z pc2 lv (.int v :: st) σ1) : E μ d Z pc lv (.ref (2000 + i) :: st) σ := by
  obtain ⟨hd, rfl⟩ := hd
  intro p l e R s m args below meth c D dA ad Q X F H locs ls hP hS hl
  obtain ⟨hx, hb, hown, hts, hK, hJ, hSt, hN, hml, hlk, hR1, hR2⟩ := id X
  obtain ⟨hm, hlk1, hin1, hse1, hc⟩ := hm
  have hrec := vk_recv (i := i) hSt.2.2.2.2.2.2.2.1 hi hS
  dsimp only at hrec
  rw [← hc, show 1000 + (1000 + i) = 2000 + i by omega] at hrec
  refine W_callQ (va_runV (As := []) (rest := st.map (tr ad)) ⟨hx, hb, hml, hown, hts⟩ (hC l D dA ad) ⟨callB_E hts hm hlk1 hdd hR1 hR2, hts _ hin1, hts _ hse1⟩ ⟨preC_blind, hrec, fun U hU hW => preC_at (av := (.ref (2000 + i) :: [] : List Value).map (tr ad)) hP hK hJ hSt hN hS hU hW⟩ rfl rfl (by show ls.size = _; rw [hl.2.1]) rfl (stc hst) hd ⟨Nat.zero_le _, Nat.zero_le _⟩) hS (fun H1 locs1 hP1 hS1 => ?_)
  exact k0 _ _ _ _ _ _ _ _ _ _ _ _ _ _ X F H1 locs1 ls hP1 hS1 hl
theorem e_qVi1 {i idx : Nat} {a0 : Value} {v : Int32} (hd : Dc μ pc (.invokevirtual idx) 3 pc2) (hi : i < 3) (hm : Mq μ.1.cls idx ν 1) (hst : Nat.ble ((st.map Value.category).sum) 8 = true) (hdd : Nat.ble (dν + 1) d = true) (hC : Ct ν dν [.ref (2000 + i), a0] σ (some (.int v), σ1)) (k0 : E μ d Z pc2 lv (.int v :: st) σ1) : E μ d Z pc lv (a0 :: .ref (2000 + i) :: st) σ := by
  obtain ⟨hd, rfl⟩ := hd
  intro p l e R s m args below meth c D dA ad Q X F H locs ls hP hS hl
  obtain ⟨hx, hb, hown, hts, hK, hJ, hSt, hN, hml, hlk, hR1, hR2⟩ := id X
  obtain ⟨hm, hlk1, hin1, hse1, hc⟩ := hm
  have hrec := vk_recv (i := i) hSt.2.2.2.2.2.2.2.1 hi hS
  dsimp only at hrec
  rw [← hc, show 1000 + (1000 + i) = 2000 + i by omega] at hrec
  refine W_callQ (va_runV (As := [tr ad a0]) (rest := st.map (tr ad)) ⟨hx, hb, hml, hown, hts⟩ (hC l D dA ad) ⟨callB_E hts hm hlk1 hdd hR1 hR2, hts _ hin1, hts _ hse1⟩ ⟨preC_blind, hrec, fun U hU hW => preC_at (av := (.ref (2000 + i) :: [a0] : List Value).map (tr ad)) hP hK hJ hSt hN hS hU hW⟩ rfl rfl (by show ls.size = _; rw [hl.2.1]) rfl (stc hst) hd ⟨Nat.zero_le _, Nat.zero_le _⟩) hS (fun H1 locs1 hP1 hS1 => ?_)
  exact k0 _ _ _ _ _ _ _ _ _ _ _ _ _ _ X F H1 locs1 ls hP1 hS1 hl
end StrR
theorem mq_cod : Mq "java/lang/String" 335 mS_cod 0 := ⟨mwS_cod, tb_5 57 (by decide +kernel) (by decide +kernel), tb_5 58 (by decide +kernel) (by decide +kernel), tb_5 59 (by decide +kernel) (by decide +kernel), rfl⟩
theorem mq_lat : Mq "java/lang/String" 492 mS_lat 0 := ⟨mwS_lat, tb_5 67 (by decide +kernel) (by decide +kernel), tb_5 68 (by decide +kernel) (by decide +kernel), tb_5 69 (by decide +kernel) (by decide +kernel), rfl⟩
theorem mq_len : Mq "CoastLights" 415 mS_len 0 := ⟨mwS_len, tb_5 53 (by decide +kernel) (by decide +kernel), tb_5 54 (by decide +kernel) (by decide +kernel), tb_5 55 (by decide +kernel) (by decide +kernel), rfl⟩
theorem mq_chr : Mq "CoastLights" 419 mS_chr 1 := ⟨mwS_chr, tb_5 63 (by decide +kernel) (by decide +kernel), tb_5 64 (by decide +kernel) (by decide +kernel), tb_5 65 (by decide +kernel) (by decide +kernel), rfl⟩
theorem ms_l1c : Ms "java/lang/String" 495 mS_l1c 2 := ⟨mwS_l1c, tb_5 71 (by decide +kernel) (by decide +kernel), tb_5 72 (by decide +kernel) (by decide +kernel)⟩
theorem ms_chk : Ms "java/lang/StringLatin1" 9 mS_chk 2 := ⟨mwS_chk, tb_5 74 (by decide +kernel) (by decide +kernel), tb_5 75 (by decide +kernel) (by decide +kernel)⟩
theorem ms_pre : Ms "java/lang/String" 1059 mS_pre 3 := ⟨mwS_pre, tb_5 79 (by decide +kernel) (by decide +kernel), tb_5 80 (by decide +kernel) (by decide +kernel)⟩
theorem qS_cod_0 : Dc mS_cod 0 (.getstatic 38) 3 3 := ⟨by decide +kernel, rfl⟩
theorem qS_cod_3 : Dc mS_cod 3 (.ifCond .eq 10) 3 6 := ⟨by decide +kernel, rfl⟩
theorem qS_cod_6 : Dc mS_cod 6 (.aload_n 0) 1 7 := ⟨by decide +kernel, rfl⟩
theorem qS_cod_7 : Dc mS_cod 7 (.getfield 15) 3 10 := ⟨by decide +kernel, rfl⟩
theorem qS_cod_10 : Dc mS_cod 10 (.goto 4) 3 13 := ⟨by decide +kernel, rfl⟩
theorem qS_cod_14 : Dc mS_cod 14 (.ireturn) 1 15 := ⟨by decide +kernel, rfl⟩
theorem qS_lat_0 : Dc mS_lat 0 (.getstatic 38) 3 3 := ⟨by decide +kernel, rfl⟩
theorem qS_lat_3 : Dc mS_lat 3 (.ifCond .eq 14) 3 6 := ⟨by decide +kernel, rfl⟩
theorem qS_lat_6 : Dc mS_lat 6 (.aload_n 0) 1 7 := ⟨by decide +kernel, rfl⟩
theorem qS_lat_7 : Dc mS_lat 7 (.getfield 15) 3 10 := ⟨by decide +kernel, rfl⟩
theorem qS_lat_10 : Dc mS_lat 10 (.ifCond .ne 7) 3 13 := ⟨by decide +kernel, rfl⟩
theorem qS_lat_13 : Dc mS_lat 13 (.iconst 1) 1 14 := ⟨by decide +kernel, rfl⟩
theorem qS_lat_14 : Dc mS_lat 14 (.goto 4) 3 17 := ⟨by decide +kernel, rfl⟩
theorem qS_lat_18 : Dc mS_lat 18 (.ireturn) 1 19 := ⟨by decide +kernel, rfl⟩
theorem qS_len_0 : Dc mS_len 0 (.aload_n 0) 1 1 := ⟨by decide +kernel, rfl⟩
theorem qS_len_1 : Dc mS_len 1 (.getfield 9) 3 4 := ⟨by decide +kernel, rfl⟩
theorem qS_len_4 : Dc mS_len 4 (.arraylength) 1 5 := ⟨by decide +kernel, rfl⟩
theorem qS_len_5 : Dc mS_len 5 (.aload_n 0) 1 6 := ⟨by decide +kernel, rfl⟩
theorem qS_len_6 : Dc mS_len 6 (.invokevirtual 335) 3 9 := ⟨by decide +kernel, rfl⟩
theorem qS_len_9 : Dc mS_len 9 (.ishr) 1 10 := ⟨by decide +kernel, rfl⟩
theorem qS_len_10 : Dc mS_len 10 (.ireturn) 1 11 := ⟨by decide +kernel, rfl⟩
theorem qS_chr_0 : Dc mS_chr 0 (.aload_n 0) 1 1 := ⟨by decide +kernel, rfl⟩
theorem qS_chr_1 : Dc mS_chr 1 (.invokevirtual 492) 3 4 := ⟨by decide +kernel, rfl⟩
theorem qS_chr_4 : Dc mS_chr 4 (.ifCond .eq 12) 3 7 := ⟨by decide +kernel, rfl⟩
theorem qS_chr_7 : Dc mS_chr 7 (.aload_n 0) 1 8 := ⟨by decide +kernel, rfl⟩
theorem qS_chr_8 : Dc mS_chr 8 (.getfield 9) 3 11 := ⟨by decide +kernel, rfl⟩
theorem qS_chr_11 : Dc mS_chr 11 (.iload_n 1) 1 12 := ⟨by decide +kernel, rfl⟩
theorem qS_chr_12 : Dc mS_chr 12 (.invokestatic 495) 3 15 := ⟨by decide +kernel, rfl⟩
theorem qS_chr_15 : Dc mS_chr 15 (.ireturn) 1 16 := ⟨by decide +kernel, rfl⟩
theorem qS_chk_0 : Dc mS_chk 0 (.iload_n 0) 1 1 := ⟨by decide +kernel, rfl⟩
theorem qS_chk_1 : Dc mS_chk 1 (.iload_n 1) 1 2 := ⟨by decide +kernel, rfl⟩
theorem qS_chk_2 : Dc mS_chk 2 (.getstatic 1053) 3 5 := ⟨by decide +kernel, rfl⟩
theorem qS_chk_5 : Dc mS_chk 5 (.invokestatic 1059) 3 8 := ⟨by decide +kernel, rfl⟩
theorem qS_chk_8 : Dc mS_chk 8 (.pop) 1 9 := ⟨by decide +kernel, rfl⟩
theorem qS_chk_9 : Dc mS_chk 9 (.return_) 1 10 := ⟨by decide +kernel, rfl⟩
theorem qS_l1c_0 : Dc mS_l1c 0 (.iload_n 1) 1 1 := ⟨by decide +kernel, rfl⟩
theorem qS_l1c_1 : Dc mS_l1c 1 (.aload_n 0) 1 2 := ⟨by decide +kernel, rfl⟩
theorem qS_l1c_2 : Dc mS_l1c 2 (.arraylength) 1 3 := ⟨by decide +kernel, rfl⟩
theorem qS_l1c_3 : Dc mS_l1c 3 (.invokestatic 9) 3 6 := ⟨by decide +kernel, rfl⟩
theorem qS_l1c_6 : Dc mS_l1c 6 (.aload_n 0) 1 7 := ⟨by decide +kernel, rfl⟩
theorem qS_l1c_7 : Dc mS_l1c 7 (.iload_n 1) 1 8 := ⟨by decide +kernel, rfl⟩
theorem qS_l1c_8 : Dc mS_l1c 8 (.baload) 1 9 := ⟨by decide +kernel, rfl⟩
theorem qS_l1c_9 : Dc mS_l1c 9 (.sipush 255) 3 12 := ⟨by decide +kernel, rfl⟩
theorem qS_l1c_12 : Dc mS_l1c 12 (.iand) 1 13 := ⟨by decide +kernel, rfl⟩
theorem qS_l1c_13 : Dc mS_l1c 13 (.i2c) 1 14 := ⟨by decide +kernel, rfl⟩
theorem qS_l1c_14 : Dc mS_l1c 14 (.ireturn) 1 15 := ⟨by decide +kernel, rfl⟩
theorem qS_pre_0 : Dc mS_pre 0 (.iload_n 0) 1 1 := ⟨by decide +kernel, rfl⟩
theorem qS_pre_1 : Dc mS_pre 1 (.ifCond .lt 8) 3 4 := ⟨by decide +kernel, rfl⟩
theorem qS_pre_4 : Dc mS_pre 4 (.iload_n 0) 1 5 := ⟨by decide +kernel, rfl⟩
theorem qS_pre_5 : Dc mS_pre 5 (.iload_n 1) 1 6 := ⟨by decide +kernel, rfl⟩
theorem qS_pre_6 : Dc mS_pre 6 (.if_icmp .lt 10) 3 9 := ⟨by decide +kernel, rfl⟩
theorem qS_pre_16 : Dc mS_pre 16 (.iload_n 0) 1 17 := ⟨by decide +kernel, rfl⟩
theorem qS_pre_17 : Dc mS_pre 17 (.ireturn) 1 18 := ⟨by decide +kernel, rfl⟩
theorem ifu {c : Prop} [Decidable c] : (if c then some () else some ()) = some () := by split <;> rfl
section StrW
variable {σ : St} {i k : Nat}
theorem w_cod (hi : i < 3) : Ct mS_cod 0 [.ref (2000 + i)] σ (some (.int 0), σ) := by
  refine Ct.ofE (by decide +kernel) rfl ?_
  show E mS_cod 0 (some (.int 0), σ) 0 [some (.ref (2000 + i))] [] σ
  refine e_gsCS qS_cod_0 (tb_5 61 (by decide +kernel) (by decide +kernel)) ?_
  refine e_if_eq (tgt := 13) (r := ()) qS_cod_3 rfl ifu (fun h _ => absurd h (by decide)) (fun _ _ => ?_)
  refine e_aload_n qS_cod_6 rfl ?_
  refine e_gscod qS_cod_7 hi (tb_9 163 (by decide +kernel) (by decide +kernel)) ?_
  refine e_goto (tgt := 14) qS_cod_10 rfl ?_
  exact e_nret (ty := .byte) qS_cod_14 rfl rfl rfl
theorem w_lat (hi : i < 3) : Ct mS_lat 0 [.ref (2000 + i)] σ (some (.int 1), σ) := by
  refine Ct.ofE (by decide +kernel) rfl ?_
  show E mS_lat 0 (some (.int 1), σ) 0 [some (.ref (2000 + i))] [] σ
  refine e_gsCS qS_lat_0 (tb_5 61 (by decide +kernel) (by decide +kernel)) ?_
  refine e_if_eq (tgt := 17) (r := ()) qS_lat_3 rfl ifu (fun h _ => absurd h (by decide)) (fun _ _ => ?_)
  refine e_aload_n qS_lat_6 rfl ?_
  refine e_gscod qS_lat_7 hi (tb_9 163 (by decide +kernel) (by decide +kernel)) ?_
  refine e_if_ne (tgt := 17) (r := ()) qS_lat_10 rfl ifu (fun _ _ => ?_) (fun h _ => absurd rfl h)
  refine e_iconst 1 qS_lat_13 rfl ?_
  refine e_goto (tgt := 18) qS_lat_14 rfl ?_
  exact e_nret (ty := .boolean) qS_lat_18 rfl rfl rfl
theorem w_len (hi : i < 3) : Ct mS_len 1 [.ref (2000 + i)] σ (some (.int (nI (lenS.getD i 0))), σ) := by
  refine Ct.ofE (by decide +kernel) rfl ?_
  show E mS_len 1 (some (.int (nI (lenS.getD i 0))), σ) 0 [some (.ref (2000 + i))] [] σ
  refine e_aload_n qS_len_0 rfl ?_
  refine e_gsval qS_len_1 hi (tb_9 162 (by decide +kernel) (by decide +kernel)) ?_
  refine e_slenb qS_len_4 hi ?_
  refine e_aload_n qS_len_5 rfl ?_
  refine e_qVi0 qS_len_6 hi mq_cod rfl rfl (w_cod hi) ?_
  refine e_ishr qS_len_9 ?_
  have e : nI (lenS.getD i 0) >>> ((0 : Int32) &&& 31) = nI (lenS.getD i 0) := by
    have : ∀ i, i < 3 → nI (lenS.getD i 0) >>> ((0 : Int32) &&& 31) = nI (lenS.getD i 0) := by decide +kernel
    exact this i hi
  rw [e]
  exact e_nret (ty := .int) qS_len_10 rfl rfl rfl
end StrW
theorem w_preR (l : Launch) (D : va_G) (dA : Nat → ClassId) (ad : Nat → Nat) {σ : St} {k n : Nat} (hk : k < n) (hn : n < 2147483648) (v : Value) (hv : lv_has (lg_sl [.int (nI k), .int (nI n), v] ++ List.replicate (3 - (lg_sl [.int (nI k), .int (nI n), v]).length) Slot.unset).toArray 3 [(0, .int (nI k)), (1, .int (nI n)), (2, v)]) : Met l mS_pre.1 (wsM mS_pre) (rm 0) (va_Pc [.int (nI k), .int (nI n), v] (PreC D dA ad σ)) (Qx D dA ad (some (.int (nI k)), σ)) 0 0 (AW ad) := by
  refine Met.ofW (cc := cJ3_checkIndex_8e157) (maxL := 3) (ret := some .int) (by decide +kernel) rfl ?_
  intro p e s m args below meth c s₁ B hml hv9
  obtain ⟨hargs, hP, hK, hJ, hSt, hN⟩ := hv9
  have hx := B.exec
  have hb := B.bytes
  rw [show entryFrame m args 3 = F0 m 0 ((lg_sl [.int (nI k), .int (nI n), v] ++ List.replicate (3 - (lg_sl [.int (nI k), .int (nI n), v]).length) Slot.unset).toArray) [] from by rw [hargs]; exact lg_entry_eq m _ _]
  generalize (lg_sl [.int (nI k), .int (nI n), v] ++ List.replicate (3 - (lg_sl [.int (nI k), .int (nI n), v]).length) Slot.unset).toArray = ls at hv ⊢
  refine lv_iload_n hx hb qS_pre_0.1 rfl (lv_at hv 0 rfl) ?_
  refine lv_if_lt (tgt := 9) hx hb qS_pre_1.1 rfl (fun h => absurd h (nI_pos (by omega))) (fun _ => ?_)
  refine lv_iload_n hx hb qS_pre_4.1 rfl (lv_at hv 0 rfl) ?_
  refine lv_iload_n hx hb qS_pre_5.1 rfl (lv_at hv 1 rfl) ?_
  refine lv_icmp_lt (tgt := 16) hx hb qS_pre_6.1 rfl (fun _ => ?_) (fun h => absurd ((nI_ltI (by omega) (by omega)).mpr hk) h)
  refine lv_iload_n hx hb qS_pre_16.1 rfl (lv_at hv 0 rfl) ?_
  exact W.iret (v := nI k) hx hb B.returns (fun t ht hW => ⟨⟨rfl, by rw [ht]; exact hP⟩, (va_S.rf : va_S (AW ad) s.heap s.heap []).F ht⟩) (fun _ h => absurd h List.not_mem_nil) qS_pre_17.1 B.notSynchronized
theorem W_callI {p : Program} {l : Launch} {e : Env} {R : Room} {s : State} {m : MethodId} {args : Array Value} {below : List Frame} {meth : Method} {c : Code} {H : Heap} {locs : List Loc} {Q : State → Prop} {D : va_G} {dA : Nat → ClassId} {ad : Nat → Nat} {v : Value} {σ1 : St} {pc : Nat} {ls : Array Slot} {st0 rest : List Value} {a : Array Value}
    (hr : va_Run p l e R s m args below meth c H locs 0 0 0 0 (F0 m pc ls st0) rest (Qx D dA ad (some v, σ1) a) (AW ad)) (hS : va_S (AW ad) s.heap H locs)
    (kk : ∀ (H1 : Heap) (locs1 : List Loc), va_P D vwCl (wld ad dA σ1) H1 → va_S (AW ad) s.heap H1 locs1 → W p l e R s m args below meth c H1 locs1 0 0 Q (F0 m (pc + 3) ls (v :: rest))) : W p l e R s m args below meth c H locs 0 0 Q (F0 m pc ls st0) := W_callQ hr hS kk
section StrX
variable {μ : MI} {d : Nat} {Z : Option Value × St} {pc : Nat} {lv : List (Option Value)} {st : List Value} {σ : St}
/-- the reading of the static and the call together -/
theorem e_chk {i1 i2 pc1 pc2 k n : Nat} (hd : Dc μ pc (.getstatic i1) 3 pc1) (hd2 : Dc μ pc1 (.invokestatic i2) 3 pc2) (hw : Cond.fieldLink μ.1.cls i1 "jdk/internal/util/Preconditions" "SIOOBE_FORMATTER" "Ljava/util/function/BiFunction;" ∈ tb) (hm : Ms μ.1.cls i2 mS_pre 3) (hk : k < n) (hn : n < 2147483648) (hst : Nat.ble ((st.map Value.category).sum) 8 = true) (hdd : Nat.ble (0 + 1) d = true) (k0 : E μ d Z pc2 lv (.int (nI k) :: st) σ) : E μ d Z pc lv (.int (nI n) :: .int (nI k) :: st) σ := by
  obtain ⟨hd2, rfl⟩ := hd2
  obtain ⟨hd, rfl⟩ := hd
  intro p l e R s m args below meth c D dA ad Q X F H locs ls hP hS hl
  obtain ⟨hx, hb, hown, hts, hK, hJ, hSt, hN, hml, hlk, hR1, hR2⟩ := id X
  obtain ⟨hm, hlk1, hst1⟩ := hm
  have go : ∀ v : Value, lv_has (lg_sl [.int (nI k), .int (nI n), v] ++ List.replicate (3 - (lg_sl [.int (nI k), .int (nI n), v]).length) Slot.unset).toArray 3 [(0, .int (nI k)), (1, .int (nI n)), (2, v)] → W p l e R s m args below meth c H locs 0 0 Q (F0 m (pc + 3) ls (v :: .int (nI n) :: .int (nI k) :: st.map (tr ad))) := fun v hv => by
    refine W_callI (σ1 := σ) (va_runS (As := [.int (nI k), .int (nI n), v]) (rest := st.map (tr ad)) ⟨hx, hb, hml, hown, hts⟩ (w_preR l D dA ad hk hn v hv) ⟨callB_E hts hm hlk1 hdd hR1 hR2, hts _ hst1⟩ ⟨preC_blind, fun U hU hW => ?_⟩ rfl rfl (by show ls.size = _; rw [hl.2.1]) rfl (stc hst) hd2 ⟨Nat.zero_le _, Nat.zero_le _⟩) hS (fun H1 locs1 hP1 hS1 => ?_)
    · exact ⟨rfl, (preC_at (av := []) hP hK hJ hSt hN hS hU hW).2⟩
    · exact k0 _ _ _ _ _ _ _ _ _ _ _ _ _ _ X F H1 locs1 ls hP1 hS1 hl
  rcases hSt.2.2.2.2.2.2.2.2.2 with hz | ⟨t, hz⟩
  · exact va_gets hx hb hz hS hown (hts _ hw) (fun _ h => h) hd (go .null (lv_entry ([.int (nI k), .int (nI n), .null]) (n := 3) (Nat.le_of_ble_eq_true rfl)))
  · exact va_gets hx hb hz hS hown (hts _ hw) (fun _ h => h) hd (go (.ref t) (lv_entry ([.int (nI k), .int (nI n), .ref t]) (n := 3) (Nat.le_of_ble_eq_true rfl)))
end StrX
section StrW2
variable {σ : St} {i k : Nat}
theorem w_chk {n : Nat} (hk : k < n) (hn : n < 2147483648) : Ct mS_chk 1 [.int (nI k), .int (nI n)] σ (none, σ) := by
  refine Ct.ofE (by decide +kernel) rfl ?_
  show E mS_chk 1 (none, σ) 0 [some (.int (nI k)), some (.int (nI n))] [] σ
  refine e_iload_n qS_chk_0 rfl ?_
  refine e_iload_n qS_chk_1 rfl ?_
  refine e_chk qS_chk_2 qS_chk_5 (tb_5 77 (by decide +kernel) (by decide +kernel)) ms_pre hk hn rfl rfl ?_
  refine e_pop qS_chk_8 rfl ?_
  exact e_vret qS_chk_9 rfl rfl
theorem byt_c : ∀ i, i < 3 → ∀ k, k < lenS.getD i 0 → ((((bytS.getD i []).getD k 0) &&& 255).toUInt32 % 65536).toInt32 = (bytS.getD i []).getD k 0 ∧ narrow .char (.int ((bytS.getD i []).getD k 0)) = .int ((bytS.getD i []).getD k 0) := by decide +kernel
theorem w_l1c (hi : i < 3) (hk : k < lenS.getD i 0) : Ct mS_l1c 2 [.ref (2010 + i), .int (nI k)] σ (some (.int ((bytS.getD i []).getD k 0)), σ) := by
  have h31 : lenS.getD i 0 < 2147483648 := by
    have : ∀ i, i < 3 → lenS.getD i 0 < 2147483648 := by decide
    exact this i hi
  refine Ct.ofE (by decide +kernel) rfl ?_
  show E mS_l1c 2 (some (.int ((bytS.getD i []).getD k 0)), σ) 0 [some (.ref (2010 + i)), some (.int (nI k))] [] σ
  refine e_iload_n qS_l1c_0 rfl ?_
  refine e_aload_n qS_l1c_1 rfl ?_
  refine e_slenb qS_l1c_2 hi ?_
  refine e_cSv2 qS_l1c_3 ms_chk rfl rfl (w_chk hk h31) ?_
  refine e_aload_n qS_l1c_6 rfl ?_
  refine e_iload_n qS_l1c_7 rfl ?_
  refine e_sbald qS_l1c_8 hi hk ?_
  refine e_sipush 255 qS_l1c_9 rfl ?_
  refine e_iand qS_l1c_12 ?_
  refine e_i2c _ qS_l1c_13 (byt_c i hi k hk).1 ?_
  exact e_nret (ty := .char) qS_l1c_14 rfl (byt_c i hi k hk).2 rfl
theorem w_chr (hi : i < 3) (hk : k < lenS.getD i 0) : Ct mS_chr 3 [.ref (2000 + i), .int (nI k)] σ (some (.int ((bytS.getD i []).getD k 0)), σ) := by
  refine Ct.ofE (by decide +kernel) rfl ?_
  show E mS_chr 3 (some (.int ((bytS.getD i []).getD k 0)), σ) 0 [some (.ref (2000 + i)), some (.int (nI k))] [] σ
  refine e_aload_n qS_chr_0 rfl ?_
  refine e_qVi0 qS_chr_1 hi mq_lat rfl rfl (w_lat hi) ?_
  refine e_if_eq (tgt := 16) (r := ()) qS_chr_4 rfl ifu (fun h _ => absurd h (by decide)) (fun _ _ => ?_)
  refine e_aload_n qS_chr_7 rfl ?_
  refine e_gsval qS_chr_8 hi (tb_9 162 (by decide +kernel) (by decide +kernel)) ?_
  refine e_iload_n qS_chr_11 rfl ?_
  refine e_cSi2 qS_chr_12 ms_l1c rfl rfl (w_l1c hi hk) ?_
  exact e_nret (ty := .char) qS_chr_15 rfl (byt_c i hi k hk).2 rfl
end StrW2
section StrZ
variable {μ : MI} {d : Nat} {Z : Option Value × St} {pc pc2 : Nat} {lv : List (Option Value)} {st : List Value} {σ : St} {T : Type} {r : T}
theorem e_slen {a idx : Nat} {K : Int32 → Option T} (ha : 2000 ≤ a ∧ a < 2003) (hd : Dc μ pc (.invokevirtual idx) 3 pc2) (hm : Mq μ.1.cls idx mS_len 0) (hst : Nat.ble ((st.map Value.category).sum) 8 = true) (hdd : Nat.ble (1 + 1) d = true) (h : vl (slen a) K = some r) (k0 : ∀ v, K v = some r → E μ d Z pc2 lv (.int v :: st) σ) : E μ d Z pc lv (.ref a :: st) σ := by
  obtain ⟨i, rfl, hi⟩ : ∃ i, a = 2000 + i ∧ i < 3 := ⟨a - 2000, by omega, by omega⟩
  unfold slen at h
  rw [Nat.add_sub_cancel_left] at h
  exact e_qVi0 hd hi hm hst hdd (w_len hi) (k0 _ h)
theorem e_scat {a idx : Nat} {x : Int32} {K : Int32 → Option T} (ha : 2000 ≤ a ∧ a < 2003) (hd : Dc μ pc (.invokevirtual idx) 3 pc2) (hm : Mq μ.1.cls idx mS_chr 1) (hst : Nat.ble ((st.map Value.category).sum) 8 = true) (hdd : Nat.ble (3 + 1) d = true) (h : scat a x K = some r) (k0 : ∀ v, K v = some r → E μ d Z pc2 lv (.int v :: st) σ) : E μ d Z pc lv (.int x :: .ref a :: st) σ := by
  obtain ⟨i, rfl, hi⟩ : ∃ i, a = 2000 + i ∧ i < 3 := ⟨a - 2000, by omega, by omega⟩
  unfold scat at h
  rw [Nat.add_sub_cancel_left] at h
  have h31 : lenS.getD i 0 < 2147483648 := by
    have : ∀ i, i < 3 → lenS.getD i 0 < 2147483648 := by decide
    exact this i hi
  split at h
  next hin =>
    obtain ⟨k, hk, rfl⟩ := isN_e hin h31
    rw [nI_clamp (by omega)] at h
    exact e_qVi1 hd hi hm hst hdd (w_chr hi hk) (k0 _ h)
  · cases h
end StrZ
abbrev mX11_tag : MI := (yX11_tag, cX11_tag, 2, (some .int))
theorem mw_X11_tag : Mw mX11_tag 1 := ⟨tb_5 39 (by decide +kernel) (by decide +kernel), tb_1 1 (by decide +kernel) (by decide +kernel), by decide +kernel, mw_sig (by decide +kernel), by decide⟩
def f_X11_tagText_L2 (N : Nat) (c1 : Nat) : Nat → Int32 → St → Option (St)
  | 0, _, _ => none
  | n4 + 1, v2, s3 =>
    vl (slen c1) fun v6 =>
    if v6 ≤ v2 then
      some s3
    else
    scat c1 v2 fun v7 =>
    bp (f_X11_tagByte v7 s3) fun s8 =>
    vl (v2 + (nI 1)) fun v9 =>
    f_X11_tagText_L2 N c1 n4 v9 s8

def f_X11_tagText (N : Nat) (a1 : Nat) (s0 : St) : Option (St) :=
  f_X11_tagText_L2 N a1 N (nI 0) s0

theorem qX11_tagText_0 : Dc mX11_tagText 0 (.iconst 0) 1 1 := ⟨by decide +kernel, rfl⟩
theorem qX11_tagText_1 : Dc mX11_tagText 1 (.istore_n 2) 1 2 := ⟨by decide +kernel, rfl⟩
theorem qX11_tagText_2 : Dc mX11_tagText 2 (.iload_n 2) 1 3 := ⟨by decide +kernel, rfl⟩
theorem qX11_tagText_3 : Dc mX11_tagText 3 (.aload_n 1) 1 4 := ⟨by decide +kernel, rfl⟩
theorem qX11_tagText_4 : Dc mX11_tagText 4 (.invokevirtual 415) 3 7 := ⟨by decide +kernel, rfl⟩
theorem qX11_tagText_7 : Dc mX11_tagText 7 (.if_icmp .ge 18) 3 10 := ⟨by decide +kernel, rfl⟩
theorem qX11_tagText_10 : Dc mX11_tagText 10 (.aload_n 0) 1 11 := ⟨by decide +kernel, rfl⟩
theorem qX11_tagText_11 : Dc mX11_tagText 11 (.aload_n 1) 1 12 := ⟨by decide +kernel, rfl⟩
theorem qX11_tagText_12 : Dc mX11_tagText 12 (.iload_n 2) 1 13 := ⟨by decide +kernel, rfl⟩
theorem qX11_tagText_13 : Dc mX11_tagText 13 (.invokevirtual 419) 3 16 := ⟨by decide +kernel, rfl⟩
theorem qX11_tagText_16 : Dc mX11_tagText 16 (.invokevirtual 423) 3 19 := ⟨by decide +kernel, rfl⟩
theorem qX11_tagText_19 : Dc mX11_tagText 19 (.iinc 2 1) 3 22 := ⟨by decide +kernel, rfl⟩
theorem qX11_tagText_22 : Dc mX11_tagText 22 (.goto (-20)) 3 25 := ⟨by decide +kernel, rfl⟩
theorem qX11_tagText_25 : Dc mX11_tagText 25 (.return_) 1 26 := ⟨by decide +kernel, rfl⟩

set_option maxRecDepth 20000 in
set_option maxHeartbeats 4000000 in
theorem w_X11_tagText_L2 {N : Nat} {c1 : Nat}  {sr : St} (hc1 : 2000 ≤ c1 ∧ c1 < 2003)  : ∀ (n4 : Nat) (v2 : Int32) (s3 : St), f_X11_tagText_L2 N c1 n4 v2 s3 = some sr → E mX11_tagText 6 (none, sr) 2 [some (.ref 0), some (.ref c1), some (.int v2)] [] s3 := by
  intro n4
  induction n4 with
  | zero =>
    intro v2 s3 h
    rw [f_X11_tagText_L2] at h; cases h
  | succ n4 ih5 =>
    intro v2 s3 h
    rw [f_X11_tagText_L2] at h
    refine e_iload_n qX11_tagText_2 rfl ?_
    refine e_aload_n qX11_tagText_3 rfl ?_
    refine e_slen hc1 qX11_tagText_4 mq_len rfl rfl h (fun v6 h => ?_)
    refine e_icmp_ge (tgt := 25) qX11_tagText_7 rfl h (fun _ h => ?_) (fun _ h => ?_)
    · exact e_vret qX11_tagText_25 rfl (ret_v h)
    refine e_aload_n qX11_tagText_10 rfl ?_
    refine e_aload_n qX11_tagText_11 rfl ?_
    refine e_iload_n qX11_tagText_12 rfl ?_
    refine e_scat hc1 qX11_tagText_13 mq_chr rfl rfl h (fun v7 h => ?_)
    obtain ⟨s8, hc, h⟩ := bp_e h
    refine e_cVv1 qX11_tagText_16 mv_X11_423 shq_0 rfl rfl (w_X11_tagByte hc) ?_
    refine vl_e h (fun h => ?_)
    obtain ⟨v9, ev9⟩ : ∃ y, v2 + (nI 1) = y := ⟨_, rfl⟩
    rw [ev9] at h
    refine e_iinc (nI 1) v9 (lv2 := [some (.ref 0), some (.ref c1), some (.int v9)]) qX11_tagText_19 rfl rfl rfl ev9 rfl ?_
    refine e_goto (tgt := 2) qX11_tagText_22 rfl ?_
    exact e_weak (ih5 _ _ h) ⟨Or.inr rfl, Or.inr rfl, Or.inr rfl, trivial⟩

set_option maxRecDepth 20000 in
set_option maxHeartbeats 4000000 in
theorem w_X11_tagText {N : Nat} {a1 : Nat} {s0 : St} {sr : St} (ha1 : 2000 ≤ a1 ∧ a1 < 2003) (h : f_X11_tagText N a1 s0 = some sr) : Ct mX11_tagText 6 [.ref 0, .ref a1] s0 (none, sr) := by
  refine Ct.ofE (by decide +kernel) rfl ?_
  show E mX11_tagText 6 (none, sr) 0 [some (.ref 0), some (.ref a1), none] [] s0
  unfold f_X11_tagText at h
  refine e_iconst (nI 0) qX11_tagText_0 rfl ?_
  refine e_istore_n (lv2 := [some (.ref 0), some (.ref a1), some (.int (nI 0))]) qX11_tagText_1 rfl rfl rfl ?_
  exact e_weak (w_X11_tagText_L2 ha1 _ _ _ h) ⟨Or.inr rfl, Or.inr rfl, Or.inr rfl, trivial⟩
def f_X11_tag (N : Nat) (x1 : Int32) (s0 : St) : Option (Int32 × St) :=
  bp (f_X11_isShip x1 s0) fun v1 =>
  if v1 = 0 then
    some ((-1), s0)
  else
  vl (sI s0 0 14 (nI 0)) fun s2 =>
  ald (rr 5) 4 x1 fun v3 =>
  vl (s2.2 v3 0) fun v5 =>
  bp (f_X11_tagWord N v5 s2) fun s6 =>
  bp (f_X11_tagText N 2000 s6) fun s7 =>
  ald (s7.1 52) 4 x1 fun v8 =>
  bp (f_X11_tagNumber v8 s7) fun s9 =>
  bp (f_X11_tagText N 2001 s9) fun s10 =>
  ald (s10.1 53) 4 x1 fun v11 =>
  bp (f_X11_tagNumber v11 s10) fun s12 =>
  bp (f_X11_tagText N 2002 s12) fun s13 =>
  bp (f_X6_seenBy N 49 x1 s13) fun v14 =>
  bp (f_J6_bitCount_0f7a4 v14 s13) fun v15 =>
  bp (f_X11_tagNumber v15 s13) fun s16 =>
  vl (s16.1 0 14) fun v17 =>
  some (v17, s16)

theorem qX11_tag_0 : Dc mX11_tag 0 (.aload_n 0) 1 1 := ⟨by decide +kernel, rfl⟩
theorem qX11_tag_1 : Dc mX11_tag 1 (.iload_n 1) 1 2 := ⟨by decide +kernel, rfl⟩
theorem qX11_tag_2 : Dc mX11_tag 2 (.invokevirtual 186) 3 5 := ⟨by decide +kernel, rfl⟩
theorem qX11_tag_5 : Dc mX11_tag 5 (.ifCond .ne 5) 3 8 := ⟨by decide +kernel, rfl⟩
theorem qX11_tag_8 : Dc mX11_tag 8 (.iconst (-1)) 1 9 := ⟨by decide +kernel, rfl⟩
theorem qX11_tag_9 : Dc mX11_tag 9 (.ireturn) 1 10 := ⟨by decide +kernel, rfl⟩
theorem qX11_tag_10 : Dc mX11_tag 10 (.aload_n 0) 1 11 := ⟨by decide +kernel, rfl⟩
theorem qX11_tag_11 : Dc mX11_tag 11 (.iconst 0) 1 12 := ⟨by decide +kernel, rfl⟩
theorem qX11_tag_12 : Dc mX11_tag 12 (.putfield 325) 3 15 := ⟨by decide +kernel, rfl⟩
theorem qX11_tag_15 : Dc mX11_tag 15 (.aload_n 0) 1 16 := ⟨by decide +kernel, rfl⟩
theorem qX11_tag_16 : Dc mX11_tag 16 (.aload_n 0) 1 17 := ⟨by decide +kernel, rfl⟩
theorem qX11_tag_17 : Dc mX11_tag 17 (.getfield 19) 3 20 := ⟨by decide +kernel, rfl⟩
theorem qX11_tag_20 : Dc mX11_tag 20 (.getfield 198) 3 23 := ⟨by decide +kernel, rfl⟩
theorem qX11_tag_23 : Dc mX11_tag 23 (.iload_n 1) 1 24 := ⟨by decide +kernel, rfl⟩
theorem qX11_tag_24 : Dc mX11_tag 24 (.aaload) 1 25 := ⟨by decide +kernel, rfl⟩
theorem qX11_tag_25 : Dc mX11_tag 25 (.getfield 328) 3 28 := ⟨by decide +kernel, rfl⟩
theorem qX11_tag_28 : Dc mX11_tag 28 (.invokevirtual 332) 3 31 := ⟨by decide +kernel, rfl⟩
theorem qX11_tag_31 : Dc mX11_tag 31 (.aload_n 0) 1 32 := ⟨by decide +kernel, rfl⟩
theorem qX11_tag_32 : Dc mX11_tag 32 (.ldc_w 336) 3 35 := ⟨by decide +kernel, rfl⟩
theorem qX11_tag_35 : Dc mX11_tag 35 (.invokevirtual 338) 3 38 := ⟨by decide +kernel, rfl⟩
theorem qX11_tag_38 : Dc mX11_tag 38 (.aload_n 0) 1 39 := ⟨by decide +kernel, rfl⟩
theorem qX11_tag_39 : Dc mX11_tag 39 (.aload_n 0) 1 40 := ⟨by decide +kernel, rfl⟩
theorem qX11_tag_40 : Dc mX11_tag 40 (.getfield 31) 3 43 := ⟨by decide +kernel, rfl⟩
theorem qX11_tag_43 : Dc mX11_tag 43 (.getfield 189) 3 46 := ⟨by decide +kernel, rfl⟩
theorem qX11_tag_46 : Dc mX11_tag 46 (.iload_n 1) 1 47 := ⟨by decide +kernel, rfl⟩
theorem qX11_tag_47 : Dc mX11_tag 47 (.iaload) 1 48 := ⟨by decide +kernel, rfl⟩
theorem qX11_tag_48 : Dc mX11_tag 48 (.invokevirtual 342) 3 51 := ⟨by decide +kernel, rfl⟩
theorem qX11_tag_51 : Dc mX11_tag 51 (.aload_n 0) 1 52 := ⟨by decide +kernel, rfl⟩
theorem qX11_tag_52 : Dc mX11_tag 52 (.ldc_w 345) 3 55 := ⟨by decide +kernel, rfl⟩
theorem qX11_tag_55 : Dc mX11_tag 55 (.invokevirtual 338) 3 58 := ⟨by decide +kernel, rfl⟩
theorem qX11_tag_58 : Dc mX11_tag 58 (.aload_n 0) 1 59 := ⟨by decide +kernel, rfl⟩
theorem qX11_tag_59 : Dc mX11_tag 59 (.aload_n 0) 1 60 := ⟨by decide +kernel, rfl⟩
theorem qX11_tag_60 : Dc mX11_tag 60 (.getfield 31) 3 63 := ⟨by decide +kernel, rfl⟩
theorem qX11_tag_63 : Dc mX11_tag 63 (.getfield 192) 3 66 := ⟨by decide +kernel, rfl⟩
theorem qX11_tag_66 : Dc mX11_tag 66 (.iload_n 1) 1 67 := ⟨by decide +kernel, rfl⟩
theorem qX11_tag_67 : Dc mX11_tag 67 (.iaload) 1 68 := ⟨by decide +kernel, rfl⟩
theorem qX11_tag_68 : Dc mX11_tag 68 (.invokevirtual 342) 3 71 := ⟨by decide +kernel, rfl⟩
theorem qX11_tag_71 : Dc mX11_tag 71 (.aload_n 0) 1 72 := ⟨by decide +kernel, rfl⟩
theorem qX11_tag_72 : Dc mX11_tag 72 (.ldc_w 347) 3 75 := ⟨by decide +kernel, rfl⟩
theorem qX11_tag_75 : Dc mX11_tag 75 (.invokevirtual 338) 3 78 := ⟨by decide +kernel, rfl⟩
theorem qX11_tag_78 : Dc mX11_tag 78 (.aload_n 0) 1 79 := ⟨by decide +kernel, rfl⟩
theorem qX11_tag_79 : Dc mX11_tag 79 (.aload_n 0) 1 80 := ⟨by decide +kernel, rfl⟩
theorem qX11_tag_80 : Dc mX11_tag 80 (.getfield 31) 3 83 := ⟨by decide +kernel, rfl⟩
theorem qX11_tag_83 : Dc mX11_tag 83 (.iload_n 1) 1 84 := ⟨by decide +kernel, rfl⟩
theorem qX11_tag_84 : Dc mX11_tag 84 (.invokevirtual 211) 3 87 := ⟨by decide +kernel, rfl⟩
theorem qX11_tag_87 : Dc mX11_tag 87 (.invokestatic 278) 3 90 := ⟨by decide +kernel, rfl⟩
theorem qX11_tag_90 : Dc mX11_tag 90 (.invokevirtual 342) 3 93 := ⟨by decide +kernel, rfl⟩
theorem qX11_tag_93 : Dc mX11_tag 93 (.aload_n 0) 1 94 := ⟨by decide +kernel, rfl⟩
theorem qX11_tag_94 : Dc mX11_tag 94 (.getfield 325) 3 97 := ⟨by decide +kernel, rfl⟩
theorem qX11_tag_97 : Dc mX11_tag 97 (.ireturn) 1 98 := ⟨by decide +kernel, rfl⟩

set_option maxRecDepth 20000 in
set_option maxHeartbeats 4000000 in
theorem w_X11_tag {N : Nat} {x1 : Int32} {s0 : St} {r : Int32} {sr : St} (h : f_X11_tag N x1 s0 = some (r, sr)) : Ct mX11_tag 7 [.ref 0, .int x1] s0 (some (.int r), sr) := by
  refine Ct.ofE (by decide +kernel) rfl ?_
  show E mX11_tag 7 (some (.int r), sr) 0 [some (.ref 0), some (.int x1)] [] s0
  unfold f_X11_tag at h
  refine e_aload_n qX11_tag_0 rfl ?_
  refine e_iload_n qX11_tag_1 rfl ?_
  obtain ⟨v1, hc, h⟩ := bp_e h
  refine e_cVi1 qX11_tag_2 mv_X11_186 shq_0 rfl rfl (w_X11_isShip hc) ?_
  refine e_if_ne (tgt := 10) qX11_tag_5 rfl h (fun _ h => ?_) (fun _ h => ?_)
  · refine e_iconst (-1) qX11_tag_8 rfl ?_
    exact e_iret qX11_tag_9 rfl (ret_i h)
  refine e_aload_n qX11_tag_10 rfl ?_
  refine e_iconst (nI 0) qX11_tag_11 rfl ?_
  refine e_puti qX11_tag_12 fp_X11_325 shq_0 kdq_10_14 h (fun s2 h => ?_)
  refine e_aload_n qX11_tag_15 rfl ?_
  refine e_aload_n qX11_tag_16 rfl ?_
  refine e_getr 3 qX11_tag_17 fl_X11_19 shq_0 kdq_10_1 rrq_0_1 ?_
  refine e_getr 5 qX11_tag_20 fl_X11_198 shq_3 kdq_1_1 rrq_3_1 ?_
  refine e_iload_n qX11_tag_23 rfl ?_
  refine e_rald25 qX11_tag_24 shq_5 lnq_5 h (fun i4 hi4 h => ?_)
  refine e_getl qX11_tag_25 fl_X11_328 (we_25 _ shq_5 _ hi4) kdq_8_0 h (fun v5 h => ?_)
  obtain ⟨s6, hc, h⟩ := bp_e h
  refine e_cVv1 qX11_tag_28 mv_X11_332 shq_0 rfl rfl (w_X11_tagWord hc) ?_
  refine e_aload_n qX11_tag_31 rfl ?_
  refine e_ldcs0 qX11_tag_32 ?_
  obtain ⟨s7, hc, h⟩ := bp_e h
  refine e_cVv1 qX11_tag_35 mv_X11_338 shq_0 rfl rfl (w_X11_tagText (by decide) hc) ?_
  refine e_aload_n qX11_tag_38 rfl ?_
  refine e_aload_n qX11_tag_39 rfl ?_
  refine e_getr 49 qX11_tag_40 fl_X11_31 shq_0 kdq_10_3 rrq_0_3 ?_
  refine e_getr 52 qX11_tag_43 fl_X11_189 shq_49 kdq_6_6 rrq_49_6 ?_
  refine e_iload_n qX11_tag_46 rfl ?_
  refine e_iald qX11_tag_47 shq_52 lnq_52 h (fun v8 h => ?_)
  obtain ⟨s9, hc, h⟩ := bp_e h
  refine e_cVv1 qX11_tag_48 mv_X11_342 shq_0 rfl rfl (w_X11_tagNumber hc) ?_
  refine e_aload_n qX11_tag_51 rfl ?_
  refine e_ldcs1 qX11_tag_52 ?_
  obtain ⟨s10, hc, h⟩ := bp_e h
  refine e_cVv1 qX11_tag_55 mv_X11_338 shq_0 rfl rfl (w_X11_tagText (by decide) hc) ?_
  refine e_aload_n qX11_tag_58 rfl ?_
  refine e_aload_n qX11_tag_59 rfl ?_
  refine e_getr 49 qX11_tag_60 fl_X11_31 shq_0 kdq_10_3 rrq_0_3 ?_
  refine e_getr 53 qX11_tag_63 fl_X11_192 shq_49 kdq_6_7 rrq_49_7 ?_
  refine e_iload_n qX11_tag_66 rfl ?_
  refine e_iald qX11_tag_67 shq_53 lnq_53 h (fun v11 h => ?_)
  obtain ⟨s12, hc, h⟩ := bp_e h
  refine e_cVv1 qX11_tag_68 mv_X11_342 shq_0 rfl rfl (w_X11_tagNumber hc) ?_
  refine e_aload_n qX11_tag_71 rfl ?_
  refine e_ldcs2 qX11_tag_72 ?_
  obtain ⟨s13, hc, h⟩ := bp_e h
  refine e_cVv1 qX11_tag_75 mv_X11_338 shq_0 rfl rfl (w_X11_tagText (by decide) hc) ?_
  refine e_aload_n qX11_tag_78 rfl ?_
  refine e_aload_n qX11_tag_79 rfl ?_
  refine e_getr 49 qX11_tag_80 fl_X11_31 shq_0 kdq_10_3 rrq_0_3 ?_
  refine e_iload_n qX11_tag_83 rfl ?_
  obtain ⟨v14, hc, h⟩ := bp_e h
  refine e_cVi1 qX11_tag_84 mv_X11_211 shq_49 rfl rfl (w_X6_seenBy shq_49 hc) ?_
  obtain ⟨v15, hc, h⟩ := bp_e h
  refine e_cSi1 qX11_tag_87 ms_X11_278 rfl rfl (w_J6_bitCount_0f7a4 hc) ?_
  obtain ⟨s16, hc, h⟩ := bp_e h
  refine e_cVv1 qX11_tag_90 mv_X11_342 shq_0 rfl rfl (w_X11_tagNumber hc) ?_
  refine e_aload_n qX11_tag_93 rfl ?_
  refine e_geti qX11_tag_94 fl_X11_325 shq_0 kdq_10_14 h (fun v17 h => ?_)
  exact e_iret qX11_tag_97 rfl (ret_i h)
