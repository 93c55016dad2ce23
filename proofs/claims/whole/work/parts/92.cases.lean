/-! the law: six ints, case by case -/
abbrev mL_law : MI := (yL_law, cL_law, 7, some .boolean)
abbrev lvl (i : Nat) : List (Option Value) := [some (.ref 3000), some (.ref 0), some (.ref 206), some (.ref 225), some (.int (nI i)), none, none]
section RowsG2
variable {E0 : State → (Nat → Nat) → (Nat → Prop) → Prop} {μ ν : MI} {d dν n : Nat} {T : Tg} {pc pc2 : Nat} {lv : List (Option Value)} {st : List Value} {σ σ1 : St}
theorem g_tswo {df lo hi : Int} {offs : Array Int} {len : Nat} {x : Int32} {tgt : Nat} (hd : Dc μ pc (.tableswitch df lo hi offs) len pc2) (h : x.toInt < lo ∨ hi < x.toInt) (ht : (pc : Int) + df = (tgt : Int)) (k : EG E0 μ d T tgt lv st σ) : EG E0 μ d T pc lv (.int x :: st) σ := by
  obtain ⟨hd, rfl⟩ := hd
  intro p l e R s m args below meth c D dA ad A cells slots Q X C9 F H locs ls hP hS hl
  obtain ⟨hx, hb, hown, hts, hK, hJ, hSt, hN, hml, hlk, hR1, hR2, hAA, hE0⟩ := id X
  exact lv_tableOut hx hb hd h ht (k _ _ _ _ _ _ _ _ _ _ _ _ _ _ _ _ _ X C9 F H locs ls hP hS hl)
end RowsG2
theorem qL_law_23 : Dc mL_law 23 (.iload 4) 2 25 := ⟨by decide +kernel, rfl⟩
theorem qL_law_25 : Dc mL_law 25 (.aload_n 0) 1 26 := ⟨by decide +kernel, rfl⟩
theorem qL_law_26 : Dc mL_law 26 (.arraylength) 1 27 := ⟨by decide +kernel, rfl⟩
theorem qL_law_27 : Dc mL_law 27 (.bipush 6) 2 29 := ⟨by decide +kernel, rfl⟩
theorem qL_law_29 : Dc mL_law 29 (.isub) 1 30 := ⟨by decide +kernel, rfl⟩
theorem qL_law_30 : Dc mL_law 30 (.if_icmp .gt 1406) 3 33 := ⟨by decide +kernel, rfl⟩
theorem qL_law_33 : Dc mL_law 33 (.aload_n 0) 1 34 := ⟨by decide +kernel, rfl⟩
theorem qL_law_34 : Dc mL_law 34 (.iload 4) 2 36 := ⟨by decide +kernel, rfl⟩
theorem qL_law_36 : Dc mL_law 36 (.iaload) 1 37 := ⟨by decide +kernel, rfl⟩
theorem qL_law_37 : Dc mL_law 37 (.bipush 63) 2 39 := ⟨by decide +kernel, rfl⟩
theorem qL_law_39 : Dc mL_law 39 (.iand) 1 40 := ⟨by decide +kernel, rfl⟩
theorem qL_law_40 : Dc mL_law 40 (.tableswitch 1390 0 43 #[192, 265, 290, 303, 316, 384, 421, 458, 495, 520, 545, 570, 607, 644, 681, 706, 731, 744, 757, 770, 783, 820, 857, 870, 895, 908, 933, 946, 959, 972, 985, 1010, 1035, 1091, 1116, 1141, 1178, 1227, 1252, 1277, 1290, 1315, 1340, 1365]) 192 232 := ⟨by decide +kernel, rfl⟩
theorem qL_law_1430 : Dc mL_law 1430 (.iinc 4 6) 3 1433 := ⟨by decide +kernel, rfl⟩
theorem qL_law_1433 : Dc mL_law 1433 (.goto (-1410)) 3 1436 := ⟨by decide +kernel, rfl⟩
theorem qL_law_1436 : Dc mL_law 1436 (.iconst 1) 1 1437 := ⟨by decide +kernel, rfl⟩
theorem l_arg {L i kn : Nat} {xs : Nat → Int32} {T : Tg} {σ : St} {lv : List (Option Value)} {st : List Value} {p0 p1 p2 p3 p4 p5 : Nat} {kk : Int} (d0 : Dc mL_law p0 (.aload_n 0) 1 p1) (d1 : Dc mL_law p1 (.iload 4) 2 p2) (d2 : Dc mL_law p2 (.iconst kk) 1 p3) (d3 : Dc mL_law p3 .iadd 1 p4) (d4 : Dc mL_law p4 .iaload 1 p5) (hk : Int32.ofInt kk = nI kn) (h0 : lv[0]? = some (some (.ref 3000))) (h4 : lv[4]? = some (some (.int (nI i)))) (hin : i + kn < L) (hL : L ≤ 3072) (k0 : EG (E0L L xs) mL_law 2000 T p5 lv (.int (xs (i + kn)) :: st) σ) : EG (E0L L xs) mL_law 2000 T p0 lv st σ := by
  refine g_aload_n d0 h0 ?_
  refine g_iload d1 h4 ?_
  refine g_iconst (nI kn) d2 hk ?_
  refine g_iadd d3 ?_
  rw [nI_addq]
  refine g_sld d4 (nI_in hin (by omega)) ?_
  rw [nI_clamp (by omega)]
  exact k0
theorem l_next {L i : Nat} {xs : Nat → Int32} {σ : St} {u5 u6 : Option Value} : EG (E0L L xs) mL_law 2000 (23, lvl (i + 6), [], σ) 1430 [some (.ref 3000), some (.ref 0), some (.ref 206), some (.ref 225), some (.int (nI i)), u5, u6] [] σ := by
  refine g_iinc (nI 6) (nI (i + 6)) (lv2 := [some (.ref 3000), some (.ref 0), some (.ref 206), some (.ref 225), some (.int (nI (i + 6))), u5, u6]) qL_law_1430 rfl rfl (by decide +kernel) (nI_addq i 6) rfl ?_
  refine g_goto (tgt := 23) qL_law_1433 (by decide) ?_
  exact g_weak (g_end rfl) ⟨Or.inr rfl, Or.inr rfl, Or.inr rfl, Or.inr rfl, Or.inr rfl, Or.inl rfl, Or.inl rfl, trivial⟩
theorem l_pre {L i : Nat} {xs : Nat → Int32} {T : Tg} {σ : St} (hi : i + 6 ≤ L) (hL : L ≤ 3072) (k0 : EG (E0L L xs) mL_law 2000 T 40 (lvl i) [.int (xs i &&& nI 63)] σ) : EG (E0L L xs) mL_law 2000 T 23 (lvl i) [] σ := by
  refine g_iload qL_law_23 rfl ?_
  refine g_aload_n qL_law_25 rfl ?_
  refine g_slen qL_law_26 ?_
  refine g_bipush (nI 6) qL_law_27 (by decide +kernel) ?_
  refine g_isub qL_law_29 ?_
  rw [pk_sub (by omega)]
  refine g_icmp_gt (tgt := 1436) qL_law_30 (by decide) (fun z => absurd z (nI_nlt (by omega) (by omega))) (fun _ => ?_)
  refine g_aload_n qL_law_33 rfl ?_
  refine g_iload qL_law_34 rfl ?_
  refine g_sld qL_law_36 (nI_in (by omega) (by omega)) ?_
  rw [nI_clamp (by omega)]
  refine g_bipush (nI 63) qL_law_37 (by decide +kernel) ?_
  exact g_iand qL_law_39 k0
theorem l_exit {L i : Nat} {xs : Nat → Int32} {σ : St} (hi : ¬ i + 6 ≤ L) (hL : L ≤ 3072) (hiL : i ≤ 3072) : EG (E0L L xs) mL_law 2000 (1437, lvl i, [.int (nI 1)], σ) 23 (lvl i) [] σ := by
  refine g_iload qL_law_23 rfl ?_
  refine g_aload_n qL_law_25 rfl ?_
  refine g_slen qL_law_26 ?_
  refine g_bipush (nI 6) qL_law_27 (by decide +kernel) ?_
  refine g_isub qL_law_29 ?_
  have hlt : nI L - nI 6 < nI i := by
    rw [Int32.lt_iff_toInt_lt, pk_sub_toInt (by omega) (by omega), nI_toInt (by omega)]
    omega
  refine g_icmp_gt (tgt := 1436) qL_law_30 (by decide) (fun _ => ?_) (fun z => absurd hlt z)
  exact g_iconst (nI 1) qL_law_1436 (by decide +kernel) (g_end rfl)
theorem qL_law_232 : Dc mL_law 232 (.aload_n 1) 1 233 := ⟨by decide +kernel, rfl⟩
theorem qL_law_233 : Dc mL_law 233 (.aload_n 0) 1 234 := ⟨by decide +kernel, rfl⟩
theorem qL_law_234 : Dc mL_law 234 (.iload 4) 2 236 := ⟨by decide +kernel, rfl⟩
theorem qL_law_236 : Dc mL_law 236 (.iconst 1) 1 237 := ⟨by decide +kernel, rfl⟩
theorem qL_law_237 : Dc mL_law 237 (.iadd) 1 238 := ⟨by decide +kernel, rfl⟩
theorem qL_law_238 : Dc mL_law 238 (.iaload) 1 239 := ⟨by decide +kernel, rfl⟩
theorem qL_law_239 : Dc mL_law 239 (.aload_n 0) 1 240 := ⟨by decide +kernel, rfl⟩
theorem qL_law_240 : Dc mL_law 240 (.iload 4) 2 242 := ⟨by decide +kernel, rfl⟩
theorem qL_law_242 : Dc mL_law 242 (.iconst 2) 1 243 := ⟨by decide +kernel, rfl⟩
theorem qL_law_243 : Dc mL_law 243 (.iadd) 1 244 := ⟨by decide +kernel, rfl⟩
theorem qL_law_244 : Dc mL_law 244 (.iaload) 1 245 := ⟨by decide +kernel, rfl⟩
theorem qL_law_245 : Dc mL_law 245 (.aload_n 0) 1 246 := ⟨by decide +kernel, rfl⟩
theorem qL_law_246 : Dc mL_law 246 (.iload 4) 2 248 := ⟨by decide +kernel, rfl⟩
theorem qL_law_248 : Dc mL_law 248 (.iconst 3) 1 249 := ⟨by decide +kernel, rfl⟩
theorem qL_law_249 : Dc mL_law 249 (.iadd) 1 250 := ⟨by decide +kernel, rfl⟩
theorem qL_law_250 : Dc mL_law 250 (.iaload) 1 251 := ⟨by decide +kernel, rfl⟩
theorem qL_law_251 : Dc mL_law 251 (.aload_n 0) 1 252 := ⟨by decide +kernel, rfl⟩
theorem qL_law_252 : Dc mL_law 252 (.iload 4) 2 254 := ⟨by decide +kernel, rfl⟩
theorem qL_law_254 : Dc mL_law 254 (.iconst 4) 1 255 := ⟨by decide +kernel, rfl⟩
theorem qL_law_255 : Dc mL_law 255 (.iadd) 1 256 := ⟨by decide +kernel, rfl⟩
theorem qL_law_256 : Dc mL_law 256 (.iaload) 1 257 := ⟨by decide +kernel, rfl⟩
theorem qL_law_257 : Dc mL_law 257 (.aload_n 0) 1 258 := ⟨by decide +kernel, rfl⟩
theorem qL_law_258 : Dc mL_law 258 (.iload 4) 2 260 := ⟨by decide +kernel, rfl⟩
theorem qL_law_260 : Dc mL_law 260 (.iconst 5) 1 261 := ⟨by decide +kernel, rfl⟩
theorem qL_law_261 : Dc mL_law 261 (.iadd) 1 262 := ⟨by decide +kernel, rfl⟩
theorem qL_law_262 : Dc mL_law 262 (.iaload) 1 263 := ⟨by decide +kernel, rfl⟩
theorem mv_L_23 : Mv RL 23 mX11_feed 5 10 := ⟨mw_X11_feed, tb_2 229 (by decide +kernel) (by decide +kernel), tb_2 230 (by decide +kernel) (by decide +kernel), tb_2 231 (by decide +kernel) (by decide +kernel), _, _, rfl⟩
theorem qL_law_263 : Dc mL_law 263 (.invokevirtual 23) 3 266 := ⟨by decide +kernel, rfl⟩
theorem qL_law_266 : Dc mL_law 266 (.aload_n 2) 1 267 := ⟨by decide +kernel, rfl⟩
theorem qL_law_267 : Dc mL_law 267 (.aload_n 0) 1 268 := ⟨by decide +kernel, rfl⟩
theorem qL_law_268 : Dc mL_law 268 (.iload 4) 2 270 := ⟨by decide +kernel, rfl⟩
theorem qL_law_270 : Dc mL_law 270 (.iconst 1) 1 271 := ⟨by decide +kernel, rfl⟩
theorem qL_law_271 : Dc mL_law 271 (.iadd) 1 272 := ⟨by decide +kernel, rfl⟩
theorem qL_law_272 : Dc mL_law 272 (.iaload) 1 273 := ⟨by decide +kernel, rfl⟩
theorem qL_law_273 : Dc mL_law 273 (.aload_n 0) 1 274 := ⟨by decide +kernel, rfl⟩
theorem qL_law_274 : Dc mL_law 274 (.iload 4) 2 276 := ⟨by decide +kernel, rfl⟩
theorem qL_law_276 : Dc mL_law 276 (.iconst 2) 1 277 := ⟨by decide +kernel, rfl⟩
theorem qL_law_277 : Dc mL_law 277 (.iadd) 1 278 := ⟨by decide +kernel, rfl⟩
theorem qL_law_278 : Dc mL_law 278 (.iaload) 1 279 := ⟨by decide +kernel, rfl⟩
theorem qL_law_279 : Dc mL_law 279 (.aload_n 0) 1 280 := ⟨by decide +kernel, rfl⟩
theorem qL_law_280 : Dc mL_law 280 (.iload 4) 2 282 := ⟨by decide +kernel, rfl⟩
theorem qL_law_282 : Dc mL_law 282 (.iconst 3) 1 283 := ⟨by decide +kernel, rfl⟩
theorem qL_law_283 : Dc mL_law 283 (.iadd) 1 284 := ⟨by decide +kernel, rfl⟩
theorem qL_law_284 : Dc mL_law 284 (.iaload) 1 285 := ⟨by decide +kernel, rfl⟩
theorem qL_law_285 : Dc mL_law 285 (.aload_n 0) 1 286 := ⟨by decide +kernel, rfl⟩
theorem qL_law_286 : Dc mL_law 286 (.iload 4) 2 288 := ⟨by decide +kernel, rfl⟩
theorem qL_law_288 : Dc mL_law 288 (.iconst 4) 1 289 := ⟨by decide +kernel, rfl⟩
theorem qL_law_289 : Dc mL_law 289 (.iadd) 1 290 := ⟨by decide +kernel, rfl⟩
theorem qL_law_290 : Dc mL_law 290 (.iaload) 1 291 := ⟨by decide +kernel, rfl⟩
theorem qL_law_291 : Dc mL_law 291 (.aload_n 0) 1 292 := ⟨by decide +kernel, rfl⟩
theorem qL_law_292 : Dc mL_law 292 (.iload 4) 2 294 := ⟨by decide +kernel, rfl⟩
theorem qL_law_294 : Dc mL_law 294 (.iconst 5) 1 295 := ⟨by decide +kernel, rfl⟩
theorem qL_law_295 : Dc mL_law 295 (.iadd) 1 296 := ⟨by decide +kernel, rfl⟩
theorem qL_law_296 : Dc mL_law 296 (.iaload) 1 297 := ⟨by decide +kernel, rfl⟩
theorem mv_L_27 : Mv RL 27 mX12_feed 5 11 := ⟨mw_X12_feed, tb_6 183 (by decide +kernel) (by decide +kernel), tb_6 184 (by decide +kernel) (by decide +kernel), tb_6 185 (by decide +kernel) (by decide +kernel), _, _, rfl⟩
theorem qL_law_297 : Dc mL_law 297 (.invokevirtual 27) 3 300 := ⟨by decide +kernel, rfl⟩
theorem qL_law_300 : Dc mL_law 300 (.if_icmp .eq 1130) 3 303 := ⟨by decide +kernel, rfl⟩
theorem seg_0 {L i : Nat} {xs : Nat → Int32} {σ : St} (hi : i + 6 ≤ L) (hL : L ≤ 3072) (hI : Inv σ σ) : ∃ σ2, Inv σ2 σ2 ∧ EG (E0L L xs) mL_law 2000 (23, lvl (i + 6), [], σ2) 40 (lvl i) [.int (nI 0)] σ := by
  obtain ⟨r, ζ1, ζ2, e1, e2, i2⟩ := G_feed (N := 300000) (Nat.le_refl _) (xs (i + 1)) (xs (i + 2)) (xs (i + 3)) (xs (i + 4)) (xs (i + 5)) hI
  refine ⟨ζ2, i2, ?_⟩
  refine g_tswi (off := 192) (tgt := 232) qL_law_40 (by decide) (by decide) (by decide +kernel) (by decide) ?_
  refine g_aload_n qL_law_232 rfl ?_
  refine l_arg (kn := 1) qL_law_233 qL_law_234 qL_law_236 qL_law_237 qL_law_238 (by decide +kernel) rfl rfl (by omega) hL ?_
  refine l_arg (kn := 2) qL_law_239 qL_law_240 qL_law_242 qL_law_243 qL_law_244 (by decide +kernel) rfl rfl (by omega) hL ?_
  refine l_arg (kn := 3) qL_law_245 qL_law_246 qL_law_248 qL_law_249 qL_law_250 (by decide +kernel) rfl rfl (by omega) hL ?_
  refine l_arg (kn := 4) qL_law_251 qL_law_252 qL_law_254 qL_law_255 qL_law_256 (by decide +kernel) rfl rfl (by omega) hL ?_
  refine l_arg (kn := 5) qL_law_257 qL_law_258 qL_law_260 qL_law_261 qL_law_262 (by decide +kernel) rfl rfl (by omega) hL ?_
  refine g_cVi5 qL_law_263 mv_L_23 shq_0 rfl rfl (w_X11_feed e1) ?_
  refine g_aload_n qL_law_266 rfl ?_
  refine l_arg (kn := 1) qL_law_267 qL_law_268 qL_law_270 qL_law_271 qL_law_272 (by decide +kernel) rfl rfl (by omega) hL ?_
  refine l_arg (kn := 2) qL_law_273 qL_law_274 qL_law_276 qL_law_277 qL_law_278 (by decide +kernel) rfl rfl (by omega) hL ?_
  refine l_arg (kn := 3) qL_law_279 qL_law_280 qL_law_282 qL_law_283 qL_law_284 (by decide +kernel) rfl rfl (by omega) hL ?_
  refine l_arg (kn := 4) qL_law_285 qL_law_286 qL_law_288 qL_law_289 qL_law_290 (by decide +kernel) rfl rfl (by omega) hL ?_
  refine l_arg (kn := 5) qL_law_291 qL_law_292 qL_law_294 qL_law_295 qL_law_296 (by decide +kernel) rfl rfl (by omega) hL ?_
  refine g_cVi5 qL_law_297 mv_L_27 shq_206 rfl rfl (w_X12_feed e2) ?_
  exact g_icmp_eq (tgt := 1430) qL_law_300 (by decide) (fun _ => l_next) (fun z => absurd rfl z)
theorem qL_law_305 : Dc mL_law 305 (.aload_n 1) 1 306 := ⟨by decide +kernel, rfl⟩
theorem qL_law_306 : Dc mL_law 306 (.aload_n 0) 1 307 := ⟨by decide +kernel, rfl⟩
theorem qL_law_307 : Dc mL_law 307 (.iload 4) 2 309 := ⟨by decide +kernel, rfl⟩
theorem qL_law_309 : Dc mL_law 309 (.iconst 1) 1 310 := ⟨by decide +kernel, rfl⟩
theorem qL_law_310 : Dc mL_law 310 (.iadd) 1 311 := ⟨by decide +kernel, rfl⟩
theorem qL_law_311 : Dc mL_law 311 (.iaload) 1 312 := ⟨by decide +kernel, rfl⟩
theorem mv_L_28 : Mv RL 28 mX11_end 1 10 := ⟨mw_X11_end, tb_2 237 (by decide +kernel) (by decide +kernel), tb_2 238 (by decide +kernel) (by decide +kernel), tb_2 239 (by decide +kernel) (by decide +kernel), _, _, rfl⟩
theorem qL_law_312 : Dc mL_law 312 (.invokevirtual 28) 3 315 := ⟨by decide +kernel, rfl⟩
theorem qL_law_315 : Dc mL_law 315 (.aload_n 2) 1 316 := ⟨by decide +kernel, rfl⟩
theorem qL_law_316 : Dc mL_law 316 (.aload_n 0) 1 317 := ⟨by decide +kernel, rfl⟩
theorem qL_law_317 : Dc mL_law 317 (.iload 4) 2 319 := ⟨by decide +kernel, rfl⟩
theorem qL_law_319 : Dc mL_law 319 (.iconst 1) 1 320 := ⟨by decide +kernel, rfl⟩
theorem qL_law_320 : Dc mL_law 320 (.iadd) 1 321 := ⟨by decide +kernel, rfl⟩
theorem qL_law_321 : Dc mL_law 321 (.iaload) 1 322 := ⟨by decide +kernel, rfl⟩
theorem mv_L_32 : Mv RL 32 mX12_end 1 11 := ⟨mw_X12_end, tb_6 192 (by decide +kernel) (by decide +kernel), tb_6 193 (by decide +kernel) (by decide +kernel), tb_6 194 (by decide +kernel) (by decide +kernel), _, _, rfl⟩
theorem qL_law_322 : Dc mL_law 322 (.invokevirtual 32) 3 325 := ⟨by decide +kernel, rfl⟩
theorem qL_law_325 : Dc mL_law 325 (.if_icmp .eq 1105) 3 328 := ⟨by decide +kernel, rfl⟩
theorem seg_1 {L i : Nat} {xs : Nat → Int32} {σ : St} (hi : i + 6 ≤ L) (hL : L ≤ 3072) (hI : Inv σ σ) : ∃ σ2, Inv σ2 σ2 ∧ EG (E0L L xs) mL_law 2000 (23, lvl (i + 6), [], σ2) 40 (lvl i) [.int (nI 1)] σ := by
  obtain ⟨r, ζ1, ζ2, e1, e2, i2⟩ := G_end (xs (i + 1)) hI
  refine ⟨ζ2, i2, ?_⟩
  refine g_tswi (off := 265) (tgt := 305) qL_law_40 (by decide) (by decide) (by decide +kernel) (by decide) ?_
  refine g_aload_n qL_law_305 rfl ?_
  refine l_arg (kn := 1) qL_law_306 qL_law_307 qL_law_309 qL_law_310 qL_law_311 (by decide +kernel) rfl rfl (by omega) hL ?_
  refine g_cVi1 qL_law_312 mv_L_28 shq_0 rfl rfl (w_X11_end e1) ?_
  refine g_aload_n qL_law_315 rfl ?_
  refine l_arg (kn := 1) qL_law_316 qL_law_317 qL_law_319 qL_law_320 qL_law_321 (by decide +kernel) rfl rfl (by omega) hL ?_
  refine g_cVi1 qL_law_322 mv_L_32 shq_206 rfl rfl (w_X12_end e2) ?_
  exact g_icmp_eq (tgt := 1430) qL_law_325 (by decide) (fun _ => l_next) (fun z => absurd rfl z)
theorem qL_law_330 : Dc mL_law 330 (.aload_n 1) 1 331 := ⟨by decide +kernel, rfl⟩
theorem mv_L_33 : Mv RL 33 mX11_chart 0 10 := ⟨mw_X11_chart, tb_3 1 (by decide +kernel) (by decide +kernel), tb_3 2 (by decide +kernel) (by decide +kernel), tb_3 3 (by decide +kernel) (by decide +kernel), _, _, rfl⟩
theorem qL_law_331 : Dc mL_law 331 (.invokevirtual 33) 3 334 := ⟨by decide +kernel, rfl⟩
theorem qL_law_334 : Dc mL_law 334 (.aload_n 2) 1 335 := ⟨by decide +kernel, rfl⟩
theorem mv_L_37 : Mv RL 37 mX12_chart 0 11 := ⟨mw_X12_chart, tb_7 153 (by decide +kernel) (by decide +kernel), tb_7 154 (by decide +kernel) (by decide +kernel), tb_7 155 (by decide +kernel) (by decide +kernel), _, _, rfl⟩
theorem qL_law_335 : Dc mL_law 335 (.invokevirtual 37) 3 338 := ⟨by decide +kernel, rfl⟩
theorem qL_law_338 : Dc mL_law 338 (.if_icmp .eq 1092) 3 341 := ⟨by decide +kernel, rfl⟩
theorem seg_2 {L i : Nat} {xs : Nat → Int32} {σ : St} (hi : i + 6 ≤ L) (hL : L ≤ 3072) (hI : Inv σ σ) : ∃ σ2, Inv σ2 σ2 ∧ EG (E0L L xs) mL_law 2000 (23, lvl (i + 6), [], σ2) 40 (lvl i) [.int (nI 2)] σ := by
  obtain ⟨r, ζ1, ζ2, e1, e2, i2⟩ := G_chart (N := 300000) (Nat.le_refl _)  hI
  refine ⟨ζ2, i2, ?_⟩
  refine g_tswi (off := 290) (tgt := 330) qL_law_40 (by decide) (by decide) (by decide +kernel) (by decide) ?_
  refine g_aload_n qL_law_330 rfl ?_
  refine g_cVi0 qL_law_331 mv_L_33 shq_0 rfl rfl (w_X11_chart e1) ?_
  refine g_aload_n qL_law_334 rfl ?_
  refine g_cVi0 qL_law_335 mv_L_37 shq_206 rfl rfl (w_X12_chart e2) ?_
  exact g_icmp_eq (tgt := 1430) qL_law_338 (by decide) (fun _ => l_next) (fun z => absurd rfl z)
theorem qL_law_343 : Dc mL_law 343 (.aload_n 1) 1 344 := ⟨by decide +kernel, rfl⟩
theorem mv_L_38 : Mv RL 38 mX11_fault 0 10 := ⟨mw_X11_fault, tb_3 204 (by decide +kernel) (by decide +kernel), tb_3 205 (by decide +kernel) (by decide +kernel), tb_3 206 (by decide +kernel) (by decide +kernel), _, _, rfl⟩
theorem qL_law_344 : Dc mL_law 344 (.invokevirtual 38) 3 347 := ⟨by decide +kernel, rfl⟩
theorem qL_law_347 : Dc mL_law 347 (.aload_n 2) 1 348 := ⟨by decide +kernel, rfl⟩
theorem mv_L_41 : Mv RL 41 mX12_fault 0 11 := ⟨mw_X12_fault, tb_8 9 (by decide +kernel) (by decide +kernel), tb_8 10 (by decide +kernel) (by decide +kernel), tb_8 11 (by decide +kernel) (by decide +kernel), _, _, rfl⟩
theorem qL_law_348 : Dc mL_law 348 (.invokevirtual 41) 3 351 := ⟨by decide +kernel, rfl⟩
theorem qL_law_351 : Dc mL_law 351 (.if_icmp .eq 1079) 3 354 := ⟨by decide +kernel, rfl⟩
theorem seg_3 {L i : Nat} {xs : Nat → Int32} {σ : St} (hi : i + 6 ≤ L) (hL : L ≤ 3072) (hI : Inv σ σ) : ∃ σ2, Inv σ2 σ2 ∧ EG (E0L L xs) mL_law 2000 (23, lvl (i + 6), [], σ2) 40 (lvl i) [.int (nI 3)] σ := by
  obtain ⟨r, ζ2, e1, e2, i2⟩ := G_fault  hI
  refine ⟨ζ2, i2, ?_⟩
  refine g_tswi (off := 303) (tgt := 343) qL_law_40 (by decide) (by decide) (by decide +kernel) (by decide) ?_
  refine g_aload_n qL_law_343 rfl ?_
  refine g_cVi0 qL_law_344 mv_L_38 shq_0 rfl rfl (w_X11_fault e1) ?_
  refine g_aload_n qL_law_347 rfl ?_
  refine g_cVi0 qL_law_348 mv_L_41 shq_206 rfl rfl (w_X12_fault e2) ?_
  exact g_icmp_eq (tgt := 1430) qL_law_351 (by decide) (fun _ => l_next) (fun z => absurd rfl z)
theorem qL_law_424 : Dc mL_law 424 (.aload_n 1) 1 425 := ⟨by decide +kernel, rfl⟩
theorem qL_law_425 : Dc mL_law 425 (.aload_n 0) 1 426 := ⟨by decide +kernel, rfl⟩
theorem qL_law_426 : Dc mL_law 426 (.iload 4) 2 428 := ⟨by decide +kernel, rfl⟩
theorem qL_law_428 : Dc mL_law 428 (.iconst 1) 1 429 := ⟨by decide +kernel, rfl⟩
theorem qL_law_429 : Dc mL_law 429 (.iadd) 1 430 := ⟨by decide +kernel, rfl⟩
theorem qL_law_430 : Dc mL_law 430 (.iaload) 1 431 := ⟨by decide +kernel, rfl⟩
theorem qL_law_431 : Dc mL_law 431 (.aload_n 0) 1 432 := ⟨by decide +kernel, rfl⟩
theorem qL_law_432 : Dc mL_law 432 (.iload 4) 2 434 := ⟨by decide +kernel, rfl⟩
theorem qL_law_434 : Dc mL_law 434 (.iconst 2) 1 435 := ⟨by decide +kernel, rfl⟩
theorem qL_law_435 : Dc mL_law 435 (.iadd) 1 436 := ⟨by decide +kernel, rfl⟩
theorem qL_law_436 : Dc mL_law 436 (.iaload) 1 437 := ⟨by decide +kernel, rfl⟩
theorem mv_L_51 : Mv RL 51 mX11_character 2 10 := ⟨mw_X11_character, tb_3 208 (by decide +kernel) (by decide +kernel), tb_3 209 (by decide +kernel) (by decide +kernel), tb_3 210 (by decide +kernel) (by decide +kernel), _, _, rfl⟩
theorem qL_law_437 : Dc mL_law 437 (.invokevirtual 51) 3 440 := ⟨by decide +kernel, rfl⟩
theorem qL_law_440 : Dc mL_law 440 (.aload_n 2) 1 441 := ⟨by decide +kernel, rfl⟩
theorem qL_law_441 : Dc mL_law 441 (.aload_n 0) 1 442 := ⟨by decide +kernel, rfl⟩
theorem qL_law_442 : Dc mL_law 442 (.iload 4) 2 444 := ⟨by decide +kernel, rfl⟩
theorem qL_law_444 : Dc mL_law 444 (.iconst 1) 1 445 := ⟨by decide +kernel, rfl⟩
theorem qL_law_445 : Dc mL_law 445 (.iadd) 1 446 := ⟨by decide +kernel, rfl⟩
theorem qL_law_446 : Dc mL_law 446 (.iaload) 1 447 := ⟨by decide +kernel, rfl⟩
theorem qL_law_447 : Dc mL_law 447 (.aload_n 0) 1 448 := ⟨by decide +kernel, rfl⟩
theorem qL_law_448 : Dc mL_law 448 (.iload 4) 2 450 := ⟨by decide +kernel, rfl⟩
theorem qL_law_450 : Dc mL_law 450 (.iconst 2) 1 451 := ⟨by decide +kernel, rfl⟩
theorem qL_law_451 : Dc mL_law 451 (.iadd) 1 452 := ⟨by decide +kernel, rfl⟩
theorem qL_law_452 : Dc mL_law 452 (.iaload) 1 453 := ⟨by decide +kernel, rfl⟩
theorem mv_L_54 : Mv RL 54 mX12_character 2 11 := ⟨mw_X12_character, tb_8 49 (by decide +kernel) (by decide +kernel), tb_8 50 (by decide +kernel) (by decide +kernel), tb_8 51 (by decide +kernel) (by decide +kernel), _, _, rfl⟩
theorem qL_law_453 : Dc mL_law 453 (.invokevirtual 54) 3 456 := ⟨by decide +kernel, rfl⟩
theorem qL_law_456 : Dc mL_law 456 (.if_icmp .eq 974) 3 459 := ⟨by decide +kernel, rfl⟩
theorem seg_5 {L i : Nat} {xs : Nat → Int32} {σ : St} (hi : i + 6 ≤ L) (hL : L ≤ 3072) (hI : Inv σ σ) : ∃ σ2, Inv σ2 σ2 ∧ EG (E0L L xs) mL_law 2000 (23, lvl (i + 6), [], σ2) 40 (lvl i) [.int (nI 5)] σ := by
  obtain ⟨r, ζ2, e1, e2, i2⟩ := G_character (N := 300000) (Nat.le_refl _) (xs (i + 1)) (xs (i + 2)) hI
  refine ⟨ζ2, i2, ?_⟩
  refine g_tswi (off := 384) (tgt := 424) qL_law_40 (by decide) (by decide) (by decide +kernel) (by decide) ?_
  refine g_aload_n qL_law_424 rfl ?_
  refine l_arg (kn := 1) qL_law_425 qL_law_426 qL_law_428 qL_law_429 qL_law_430 (by decide +kernel) rfl rfl (by omega) hL ?_
  refine l_arg (kn := 2) qL_law_431 qL_law_432 qL_law_434 qL_law_435 qL_law_436 (by decide +kernel) rfl rfl (by omega) hL ?_
  refine g_cVi2 qL_law_437 mv_L_51 shq_0 rfl rfl (w_X11_character e1) ?_
  refine g_aload_n qL_law_440 rfl ?_
  refine l_arg (kn := 1) qL_law_441 qL_law_442 qL_law_444 qL_law_445 qL_law_446 (by decide +kernel) rfl rfl (by omega) hL ?_
  refine l_arg (kn := 2) qL_law_447 qL_law_448 qL_law_450 qL_law_451 qL_law_452 (by decide +kernel) rfl rfl (by omega) hL ?_
  refine g_cVi2 qL_law_453 mv_L_54 shq_206 rfl rfl (w_X12_character e2) ?_
  exact g_icmp_eq (tgt := 1430) qL_law_456 (by decide) (fun _ => l_next) (fun z => absurd rfl z)
theorem qL_law_461 : Dc mL_law 461 (.aload_n 1) 1 462 := ⟨by decide +kernel, rfl⟩
theorem qL_law_462 : Dc mL_law 462 (.aload_n 0) 1 463 := ⟨by decide +kernel, rfl⟩
theorem qL_law_463 : Dc mL_law 463 (.iload 4) 2 465 := ⟨by decide +kernel, rfl⟩
theorem qL_law_465 : Dc mL_law 465 (.iconst 1) 1 466 := ⟨by decide +kernel, rfl⟩
theorem qL_law_466 : Dc mL_law 466 (.iadd) 1 467 := ⟨by decide +kernel, rfl⟩
theorem qL_law_467 : Dc mL_law 467 (.iaload) 1 468 := ⟨by decide +kernel, rfl⟩
theorem qL_law_468 : Dc mL_law 468 (.aload_n 0) 1 469 := ⟨by decide +kernel, rfl⟩
theorem qL_law_469 : Dc mL_law 469 (.iload 4) 2 471 := ⟨by decide +kernel, rfl⟩
theorem qL_law_471 : Dc mL_law 471 (.iconst 2) 1 472 := ⟨by decide +kernel, rfl⟩
theorem qL_law_472 : Dc mL_law 472 (.iadd) 1 473 := ⟨by decide +kernel, rfl⟩
theorem qL_law_473 : Dc mL_law 473 (.iaload) 1 474 := ⟨by decide +kernel, rfl⟩
theorem mv_L_55 : Mv RL 55 mX11_ship 2 10 := ⟨mw_X11_ship, tb_3 216 (by decide +kernel) (by decide +kernel), tb_3 217 (by decide +kernel) (by decide +kernel), tb_3 218 (by decide +kernel) (by decide +kernel), _, _, rfl⟩
theorem qL_law_474 : Dc mL_law 474 (.invokevirtual 55) 3 477 := ⟨by decide +kernel, rfl⟩
theorem qL_law_477 : Dc mL_law 477 (.aload_n 2) 1 478 := ⟨by decide +kernel, rfl⟩
theorem qL_law_478 : Dc mL_law 478 (.aload_n 0) 1 479 := ⟨by decide +kernel, rfl⟩
theorem qL_law_479 : Dc mL_law 479 (.iload 4) 2 481 := ⟨by decide +kernel, rfl⟩
theorem qL_law_481 : Dc mL_law 481 (.iconst 1) 1 482 := ⟨by decide +kernel, rfl⟩
theorem qL_law_482 : Dc mL_law 482 (.iadd) 1 483 := ⟨by decide +kernel, rfl⟩
theorem qL_law_483 : Dc mL_law 483 (.iaload) 1 484 := ⟨by decide +kernel, rfl⟩
theorem qL_law_484 : Dc mL_law 484 (.aload_n 0) 1 485 := ⟨by decide +kernel, rfl⟩
theorem qL_law_485 : Dc mL_law 485 (.iload 4) 2 487 := ⟨by decide +kernel, rfl⟩
theorem qL_law_487 : Dc mL_law 487 (.iconst 2) 1 488 := ⟨by decide +kernel, rfl⟩
theorem qL_law_488 : Dc mL_law 488 (.iadd) 1 489 := ⟨by decide +kernel, rfl⟩
theorem qL_law_489 : Dc mL_law 489 (.iaload) 1 490 := ⟨by decide +kernel, rfl⟩
theorem mv_L_58 : Mv RL 58 mX12_ship 2 11 := ⟨mw_X12_ship, tb_8 53 (by decide +kernel) (by decide +kernel), tb_8 54 (by decide +kernel) (by decide +kernel), tb_8 55 (by decide +kernel) (by decide +kernel), _, _, rfl⟩
theorem qL_law_490 : Dc mL_law 490 (.invokevirtual 58) 3 493 := ⟨by decide +kernel, rfl⟩
theorem qL_law_493 : Dc mL_law 493 (.if_icmp .eq 937) 3 496 := ⟨by decide +kernel, rfl⟩
theorem seg_6 {L i : Nat} {xs : Nat → Int32} {σ : St} (hi : i + 6 ≤ L) (hL : L ≤ 3072) (hI : Inv σ σ) : ∃ σ2, Inv σ2 σ2 ∧ EG (E0L L xs) mL_law 2000 (23, lvl (i + 6), [], σ2) 40 (lvl i) [.int (nI 6)] σ := by
  obtain ⟨r, ζ2, e1, e2, i2⟩ := G_ship (N := 300000) (Nat.le_refl _) (xs (i + 1)) (xs (i + 2)) hI
  refine ⟨ζ2, i2, ?_⟩
  refine g_tswi (off := 421) (tgt := 461) qL_law_40 (by decide) (by decide) (by decide +kernel) (by decide) ?_
  refine g_aload_n qL_law_461 rfl ?_
  refine l_arg (kn := 1) qL_law_462 qL_law_463 qL_law_465 qL_law_466 qL_law_467 (by decide +kernel) rfl rfl (by omega) hL ?_
  refine l_arg (kn := 2) qL_law_468 qL_law_469 qL_law_471 qL_law_472 qL_law_473 (by decide +kernel) rfl rfl (by omega) hL ?_
  refine g_cVi2 qL_law_474 mv_L_55 shq_0 rfl rfl (w_X11_ship e1) ?_
  refine g_aload_n qL_law_477 rfl ?_
  refine l_arg (kn := 1) qL_law_478 qL_law_479 qL_law_481 qL_law_482 qL_law_483 (by decide +kernel) rfl rfl (by omega) hL ?_
  refine l_arg (kn := 2) qL_law_484 qL_law_485 qL_law_487 qL_law_488 qL_law_489 (by decide +kernel) rfl rfl (by omega) hL ?_
  refine g_cVi2 qL_law_490 mv_L_58 shq_206 rfl rfl (w_X12_ship e2) ?_
  exact g_icmp_eq (tgt := 1430) qL_law_493 (by decide) (fun _ => l_next) (fun z => absurd rfl z)
theorem qL_law_498 : Dc mL_law 498 (.aload_n 1) 1 499 := ⟨by decide +kernel, rfl⟩
theorem qL_law_499 : Dc mL_law 499 (.aload_n 0) 1 500 := ⟨by decide +kernel, rfl⟩
theorem qL_law_500 : Dc mL_law 500 (.iload 4) 2 502 := ⟨by decide +kernel, rfl⟩
theorem qL_law_502 : Dc mL_law 502 (.iconst 1) 1 503 := ⟨by decide +kernel, rfl⟩
theorem qL_law_503 : Dc mL_law 503 (.iadd) 1 504 := ⟨by decide +kernel, rfl⟩
theorem qL_law_504 : Dc mL_law 504 (.iaload) 1 505 := ⟨by decide +kernel, rfl⟩
theorem qL_law_505 : Dc mL_law 505 (.aload_n 0) 1 506 := ⟨by decide +kernel, rfl⟩
theorem qL_law_506 : Dc mL_law 506 (.iload 4) 2 508 := ⟨by decide +kernel, rfl⟩
theorem qL_law_508 : Dc mL_law 508 (.iconst 2) 1 509 := ⟨by decide +kernel, rfl⟩
theorem qL_law_509 : Dc mL_law 509 (.iadd) 1 510 := ⟨by decide +kernel, rfl⟩
theorem qL_law_510 : Dc mL_law 510 (.iaload) 1 511 := ⟨by decide +kernel, rfl⟩
theorem mv_L_59 : Mv RL 59 mX11_visible 2 10 := ⟨mw_X11_visible, tb_4 13 (by decide +kernel) (by decide +kernel), tb_4 14 (by decide +kernel) (by decide +kernel), tb_4 15 (by decide +kernel) (by decide +kernel), _, _, rfl⟩
theorem qL_law_511 : Dc mL_law 511 (.invokevirtual 59) 3 514 := ⟨by decide +kernel, rfl⟩
theorem qL_law_514 : Dc mL_law 514 (.aload_n 2) 1 515 := ⟨by decide +kernel, rfl⟩
theorem qL_law_515 : Dc mL_law 515 (.aload_n 0) 1 516 := ⟨by decide +kernel, rfl⟩
theorem qL_law_516 : Dc mL_law 516 (.iload 4) 2 518 := ⟨by decide +kernel, rfl⟩
theorem qL_law_518 : Dc mL_law 518 (.iconst 1) 1 519 := ⟨by decide +kernel, rfl⟩
theorem qL_law_519 : Dc mL_law 519 (.iadd) 1 520 := ⟨by decide +kernel, rfl⟩
theorem qL_law_520 : Dc mL_law 520 (.iaload) 1 521 := ⟨by decide +kernel, rfl⟩
theorem qL_law_521 : Dc mL_law 521 (.aload_n 0) 1 522 := ⟨by decide +kernel, rfl⟩
theorem qL_law_522 : Dc mL_law 522 (.iload 4) 2 524 := ⟨by decide +kernel, rfl⟩
theorem qL_law_524 : Dc mL_law 524 (.iconst 2) 1 525 := ⟨by decide +kernel, rfl⟩
theorem qL_law_525 : Dc mL_law 525 (.iadd) 1 526 := ⟨by decide +kernel, rfl⟩
theorem qL_law_526 : Dc mL_law 526 (.iaload) 1 527 := ⟨by decide +kernel, rfl⟩
theorem mv_L_62 : Mv RL 62 mX12_visible 2 11 := ⟨mw_X12_visible, tb_8 83 (by decide +kernel) (by decide +kernel), tb_8 84 (by decide +kernel) (by decide +kernel), tb_8 85 (by decide +kernel) (by decide +kernel), _, _, rfl⟩
theorem qL_law_527 : Dc mL_law 527 (.invokevirtual 62) 3 530 := ⟨by decide +kernel, rfl⟩
theorem qL_law_530 : Dc mL_law 530 (.if_icmp .eq 900) 3 533 := ⟨by decide +kernel, rfl⟩
theorem seg_7 {L i : Nat} {xs : Nat → Int32} {σ : St} (hi : i + 6 ≤ L) (hL : L ≤ 3072) (hI : Inv σ σ) : ∃ σ2, Inv σ2 σ2 ∧ EG (E0L L xs) mL_law 2000 (23, lvl (i + 6), [], σ2) 40 (lvl i) [.int (nI 7)] σ := by
  obtain ⟨r, ζ2, e1, e2, i2⟩ := G_visible (N := 300000) (Nat.le_refl _) (xs (i + 1)) (xs (i + 2)) hI
  refine ⟨ζ2, i2, ?_⟩
  refine g_tswi (off := 458) (tgt := 498) qL_law_40 (by decide) (by decide) (by decide +kernel) (by decide) ?_
  refine g_aload_n qL_law_498 rfl ?_
  refine l_arg (kn := 1) qL_law_499 qL_law_500 qL_law_502 qL_law_503 qL_law_504 (by decide +kernel) rfl rfl (by omega) hL ?_
  refine l_arg (kn := 2) qL_law_505 qL_law_506 qL_law_508 qL_law_509 qL_law_510 (by decide +kernel) rfl rfl (by omega) hL ?_
  refine g_cVi2 qL_law_511 mv_L_59 shq_0 rfl rfl (w_X11_visible e1) ?_
  refine g_aload_n qL_law_514 rfl ?_
  refine l_arg (kn := 1) qL_law_515 qL_law_516 qL_law_518 qL_law_519 qL_law_520 (by decide +kernel) rfl rfl (by omega) hL ?_
  refine l_arg (kn := 2) qL_law_521 qL_law_522 qL_law_524 qL_law_525 qL_law_526 (by decide +kernel) rfl rfl (by omega) hL ?_
  refine g_cVi2 qL_law_527 mv_L_62 shq_206 rfl rfl (w_X12_visible e2) ?_
  exact g_icmp_eq (tgt := 1430) qL_law_530 (by decide) (fun _ => l_next) (fun z => absurd rfl z)
theorem qL_law_535 : Dc mL_law 535 (.aload_n 1) 1 536 := ⟨by decide +kernel, rfl⟩
theorem qL_law_536 : Dc mL_law 536 (.aload_n 0) 1 537 := ⟨by decide +kernel, rfl⟩
theorem qL_law_537 : Dc mL_law 537 (.iload 4) 2 539 := ⟨by decide +kernel, rfl⟩
theorem qL_law_539 : Dc mL_law 539 (.iconst 1) 1 540 := ⟨by decide +kernel, rfl⟩
theorem qL_law_540 : Dc mL_law 540 (.iadd) 1 541 := ⟨by decide +kernel, rfl⟩
theorem qL_law_541 : Dc mL_law 541 (.iaload) 1 542 := ⟨by decide +kernel, rfl⟩
theorem mv_L_63 : Mv RL 63 mX11_now 1 10 := ⟨mw_X11_now, tb_4 20 (by decide +kernel) (by decide +kernel), tb_4 21 (by decide +kernel) (by decide +kernel), tb_4 22 (by decide +kernel) (by decide +kernel), _, _, rfl⟩
theorem qL_law_542 : Dc mL_law 542 (.invokevirtual 63) 3 545 := ⟨by decide +kernel, rfl⟩
theorem qL_law_545 : Dc mL_law 545 (.aload_n 2) 1 546 := ⟨by decide +kernel, rfl⟩
theorem qL_law_546 : Dc mL_law 546 (.aload_n 0) 1 547 := ⟨by decide +kernel, rfl⟩
theorem qL_law_547 : Dc mL_law 547 (.iload 4) 2 549 := ⟨by decide +kernel, rfl⟩
theorem qL_law_549 : Dc mL_law 549 (.iconst 1) 1 550 := ⟨by decide +kernel, rfl⟩
theorem qL_law_550 : Dc mL_law 550 (.iadd) 1 551 := ⟨by decide +kernel, rfl⟩
theorem qL_law_551 : Dc mL_law 551 (.iaload) 1 552 := ⟨by decide +kernel, rfl⟩
theorem mv_L_66 : Mv RL 66 mX12_now 1 11 := ⟨mw_X12_now, tb_8 87 (by decide +kernel) (by decide +kernel), tb_8 88 (by decide +kernel) (by decide +kernel), tb_8 89 (by decide +kernel) (by decide +kernel), _, _, rfl⟩
theorem qL_law_552 : Dc mL_law 552 (.invokevirtual 66) 3 555 := ⟨by decide +kernel, rfl⟩
theorem qL_law_555 : Dc mL_law 555 (.if_icmp .eq 875) 3 558 := ⟨by decide +kernel, rfl⟩
theorem seg_8 {L i : Nat} {xs : Nat → Int32} {σ : St} (hi : i + 6 ≤ L) (hL : L ≤ 3072) (hI : Inv σ σ) : ∃ σ2, Inv σ2 σ2 ∧ EG (E0L L xs) mL_law 2000 (23, lvl (i + 6), [], σ2) 40 (lvl i) [.int (nI 8)] σ := by
  obtain ⟨r, ζ2, e1, e2, i2⟩ := G_now (N := 300000) (Nat.le_refl _) (xs (i + 1)) hI
  refine ⟨ζ2, i2, ?_⟩
  refine g_tswi (off := 495) (tgt := 535) qL_law_40 (by decide) (by decide) (by decide +kernel) (by decide) ?_
  refine g_aload_n qL_law_535 rfl ?_
  refine l_arg (kn := 1) qL_law_536 qL_law_537 qL_law_539 qL_law_540 qL_law_541 (by decide +kernel) rfl rfl (by omega) hL ?_
  refine g_cVi1 qL_law_542 mv_L_63 shq_0 rfl rfl (w_X11_now e1) ?_
  refine g_aload_n qL_law_545 rfl ?_
  refine l_arg (kn := 1) qL_law_546 qL_law_547 qL_law_549 qL_law_550 qL_law_551 (by decide +kernel) rfl rfl (by omega) hL ?_
  refine g_cVi1 qL_law_552 mv_L_66 shq_206 rfl rfl (w_X12_now e2) ?_
  exact g_icmp_eq (tgt := 1430) qL_law_555 (by decide) (fun _ => l_next) (fun z => absurd rfl z)
theorem qL_law_560 : Dc mL_law 560 (.aload_n 1) 1 561 := ⟨by decide +kernel, rfl⟩
theorem qL_law_561 : Dc mL_law 561 (.aload_n 0) 1 562 := ⟨by decide +kernel, rfl⟩
theorem qL_law_562 : Dc mL_law 562 (.iload 4) 2 564 := ⟨by decide +kernel, rfl⟩
theorem qL_law_564 : Dc mL_law 564 (.iconst 1) 1 565 := ⟨by decide +kernel, rfl⟩
theorem qL_law_565 : Dc mL_law 565 (.iadd) 1 566 := ⟨by decide +kernel, rfl⟩
theorem qL_law_566 : Dc mL_law 566 (.iaload) 1 567 := ⟨by decide +kernel, rfl⟩
theorem mv_L_67 : Mv RL 67 mX11_douse 1 10 := ⟨mw_X11_douse, tb_4 33 (by decide +kernel) (by decide +kernel), tb_4 34 (by decide +kernel) (by decide +kernel), tb_4 35 (by decide +kernel) (by decide +kernel), _, _, rfl⟩
theorem qL_law_567 : Dc mL_law 567 (.invokevirtual 67) 3 570 := ⟨by decide +kernel, rfl⟩
theorem qL_law_570 : Dc mL_law 570 (.aload_n 2) 1 571 := ⟨by decide +kernel, rfl⟩
theorem qL_law_571 : Dc mL_law 571 (.aload_n 0) 1 572 := ⟨by decide +kernel, rfl⟩
theorem qL_law_572 : Dc mL_law 572 (.iload 4) 2 574 := ⟨by decide +kernel, rfl⟩
theorem qL_law_574 : Dc mL_law 574 (.iconst 1) 1 575 := ⟨by decide +kernel, rfl⟩
theorem qL_law_575 : Dc mL_law 575 (.iadd) 1 576 := ⟨by decide +kernel, rfl⟩
theorem qL_law_576 : Dc mL_law 576 (.iaload) 1 577 := ⟨by decide +kernel, rfl⟩
theorem mv_L_70 : Mv RL 70 mX12_douse 1 11 := ⟨mw_X12_douse, tb_8 95 (by decide +kernel) (by decide +kernel), tb_8 96 (by decide +kernel) (by decide +kernel), tb_8 97 (by decide +kernel) (by decide +kernel), _, _, rfl⟩
theorem qL_law_577 : Dc mL_law 577 (.invokevirtual 70) 3 580 := ⟨by decide +kernel, rfl⟩
theorem qL_law_580 : Dc mL_law 580 (.if_icmp .eq 850) 3 583 := ⟨by decide +kernel, rfl⟩
theorem seg_9 {L i : Nat} {xs : Nat → Int32} {σ : St} (hi : i + 6 ≤ L) (hL : L ≤ 3072) (hI : Inv σ σ) : ∃ σ2, Inv σ2 σ2 ∧ EG (E0L L xs) mL_law 2000 (23, lvl (i + 6), [], σ2) 40 (lvl i) [.int (nI 9)] σ := by
  obtain ⟨r, ζ1, ζ2, e1, e2, i2⟩ := G_douse (N := 300000) (Nat.le_refl _) (xs (i + 1)) hI
  refine ⟨ζ2, i2, ?_⟩
  refine g_tswi (off := 520) (tgt := 560) qL_law_40 (by decide) (by decide) (by decide +kernel) (by decide) ?_
  refine g_aload_n qL_law_560 rfl ?_
  refine l_arg (kn := 1) qL_law_561 qL_law_562 qL_law_564 qL_law_565 qL_law_566 (by decide +kernel) rfl rfl (by omega) hL ?_
  refine g_cVi1 qL_law_567 mv_L_67 shq_0 rfl rfl (w_X11_douse e1) ?_
  refine g_aload_n qL_law_570 rfl ?_
  refine l_arg (kn := 1) qL_law_571 qL_law_572 qL_law_574 qL_law_575 qL_law_576 (by decide +kernel) rfl rfl (by omega) hL ?_
  refine g_cVi1 qL_law_577 mv_L_70 shq_206 rfl rfl (w_X12_douse e2) ?_
  exact g_icmp_eq (tgt := 1430) qL_law_580 (by decide) (fun _ => l_next) (fun z => absurd rfl z)
theorem qL_law_585 : Dc mL_law 585 (.aload_n 1) 1 586 := ⟨by decide +kernel, rfl⟩
theorem qL_law_586 : Dc mL_law 586 (.aload_n 0) 1 587 := ⟨by decide +kernel, rfl⟩
theorem qL_law_587 : Dc mL_law 587 (.iload 4) 2 589 := ⟨by decide +kernel, rfl⟩
theorem qL_law_589 : Dc mL_law 589 (.iconst 1) 1 590 := ⟨by decide +kernel, rfl⟩
theorem qL_law_590 : Dc mL_law 590 (.iadd) 1 591 := ⟨by decide +kernel, rfl⟩
theorem qL_law_591 : Dc mL_law 591 (.iaload) 1 592 := ⟨by decide +kernel, rfl⟩
theorem mv_L_71 : Mv RL 71 mX11_kindle 1 10 := ⟨mw_X11_kindle, tb_4 59 (by decide +kernel) (by decide +kernel), tb_4 60 (by decide +kernel) (by decide +kernel), tb_4 61 (by decide +kernel) (by decide +kernel), _, _, rfl⟩
theorem qL_law_592 : Dc mL_law 592 (.invokevirtual 71) 3 595 := ⟨by decide +kernel, rfl⟩
theorem qL_law_595 : Dc mL_law 595 (.aload_n 2) 1 596 := ⟨by decide +kernel, rfl⟩
theorem qL_law_596 : Dc mL_law 596 (.aload_n 0) 1 597 := ⟨by decide +kernel, rfl⟩
theorem qL_law_597 : Dc mL_law 597 (.iload 4) 2 599 := ⟨by decide +kernel, rfl⟩
theorem qL_law_599 : Dc mL_law 599 (.iconst 1) 1 600 := ⟨by decide +kernel, rfl⟩
theorem qL_law_600 : Dc mL_law 600 (.iadd) 1 601 := ⟨by decide +kernel, rfl⟩
theorem qL_law_601 : Dc mL_law 601 (.iaload) 1 602 := ⟨by decide +kernel, rfl⟩
theorem mv_L_74 : Mv RL 74 mX12_kindle 1 11 := ⟨mw_X12_kindle, tb_8 103 (by decide +kernel) (by decide +kernel), tb_8 104 (by decide +kernel) (by decide +kernel), tb_8 105 (by decide +kernel) (by decide +kernel), _, _, rfl⟩
theorem qL_law_602 : Dc mL_law 602 (.invokevirtual 74) 3 605 := ⟨by decide +kernel, rfl⟩
theorem qL_law_605 : Dc mL_law 605 (.if_icmp .eq 825) 3 608 := ⟨by decide +kernel, rfl⟩
theorem seg_10 {L i : Nat} {xs : Nat → Int32} {σ : St} (hi : i + 6 ≤ L) (hL : L ≤ 3072) (hI : Inv σ σ) : ∃ σ2, Inv σ2 σ2 ∧ EG (E0L L xs) mL_law 2000 (23, lvl (i + 6), [], σ2) 40 (lvl i) [.int (nI 10)] σ := by
  obtain ⟨r, ζ1, ζ2, e1, e2, i2⟩ := G_kindle (N := 300000) (Nat.le_refl _) (xs (i + 1)) hI
  refine ⟨ζ2, i2, ?_⟩
  refine g_tswi (off := 545) (tgt := 585) qL_law_40 (by decide) (by decide) (by decide +kernel) (by decide) ?_
  refine g_aload_n qL_law_585 rfl ?_
  refine l_arg (kn := 1) qL_law_586 qL_law_587 qL_law_589 qL_law_590 qL_law_591 (by decide +kernel) rfl rfl (by omega) hL ?_
  refine g_cVi1 qL_law_592 mv_L_71 shq_0 rfl rfl (w_X11_kindle e1) ?_
  refine g_aload_n qL_law_595 rfl ?_
  refine l_arg (kn := 1) qL_law_596 qL_law_597 qL_law_599 qL_law_600 qL_law_601 (by decide +kernel) rfl rfl (by omega) hL ?_
  refine g_cVi1 qL_law_602 mv_L_74 shq_206 rfl rfl (w_X12_kindle e2) ?_
  exact g_icmp_eq (tgt := 1430) qL_law_605 (by decide) (fun _ => l_next) (fun z => absurd rfl z)
theorem qL_law_610 : Dc mL_law 610 (.aload_n 1) 1 611 := ⟨by decide +kernel, rfl⟩
theorem qL_law_611 : Dc mL_law 611 (.aload_n 0) 1 612 := ⟨by decide +kernel, rfl⟩
theorem qL_law_612 : Dc mL_law 612 (.iload 4) 2 614 := ⟨by decide +kernel, rfl⟩
theorem qL_law_614 : Dc mL_law 614 (.iconst 1) 1 615 := ⟨by decide +kernel, rfl⟩
theorem qL_law_615 : Dc mL_law 615 (.iadd) 1 616 := ⟨by decide +kernel, rfl⟩
theorem qL_law_616 : Dc mL_law 616 (.iaload) 1 617 := ⟨by decide +kernel, rfl⟩
theorem qL_law_617 : Dc mL_law 617 (.aload_n 0) 1 618 := ⟨by decide +kernel, rfl⟩
theorem qL_law_618 : Dc mL_law 618 (.iload 4) 2 620 := ⟨by decide +kernel, rfl⟩
theorem qL_law_620 : Dc mL_law 620 (.iconst 2) 1 621 := ⟨by decide +kernel, rfl⟩
theorem qL_law_621 : Dc mL_law 621 (.iadd) 1 622 := ⟨by decide +kernel, rfl⟩
theorem qL_law_622 : Dc mL_law 622 (.iaload) 1 623 := ⟨by decide +kernel, rfl⟩
theorem mv_L_75 : Mv RL 75 mX11_fill 2 10 := ⟨mw_X11_fill, tb_4 67 (by decide +kernel) (by decide +kernel), tb_4 68 (by decide +kernel) (by decide +kernel), tb_4 69 (by decide +kernel) (by decide +kernel), _, _, rfl⟩
theorem qL_law_623 : Dc mL_law 623 (.invokevirtual 75) 3 626 := ⟨by decide +kernel, rfl⟩
theorem qL_law_626 : Dc mL_law 626 (.aload_n 2) 1 627 := ⟨by decide +kernel, rfl⟩
theorem qL_law_627 : Dc mL_law 627 (.aload_n 0) 1 628 := ⟨by decide +kernel, rfl⟩
theorem qL_law_628 : Dc mL_law 628 (.iload 4) 2 630 := ⟨by decide +kernel, rfl⟩
theorem qL_law_630 : Dc mL_law 630 (.iconst 1) 1 631 := ⟨by decide +kernel, rfl⟩
theorem qL_law_631 : Dc mL_law 631 (.iadd) 1 632 := ⟨by decide +kernel, rfl⟩
theorem qL_law_632 : Dc mL_law 632 (.iaload) 1 633 := ⟨by decide +kernel, rfl⟩
theorem qL_law_633 : Dc mL_law 633 (.aload_n 0) 1 634 := ⟨by decide +kernel, rfl⟩
theorem qL_law_634 : Dc mL_law 634 (.iload 4) 2 636 := ⟨by decide +kernel, rfl⟩
theorem qL_law_636 : Dc mL_law 636 (.iconst 2) 1 637 := ⟨by decide +kernel, rfl⟩
theorem qL_law_637 : Dc mL_law 637 (.iadd) 1 638 := ⟨by decide +kernel, rfl⟩
theorem qL_law_638 : Dc mL_law 638 (.iaload) 1 639 := ⟨by decide +kernel, rfl⟩
theorem mv_L_78 : Mv RL 78 mX12_fill 2 11 := ⟨mw_X12_fill, tb_8 111 (by decide +kernel) (by decide +kernel), tb_8 112 (by decide +kernel) (by decide +kernel), tb_8 113 (by decide +kernel) (by decide +kernel), _, _, rfl⟩
theorem qL_law_639 : Dc mL_law 639 (.invokevirtual 78) 3 642 := ⟨by decide +kernel, rfl⟩
theorem qL_law_642 : Dc mL_law 642 (.if_icmp .eq 788) 3 645 := ⟨by decide +kernel, rfl⟩
theorem seg_11 {L i : Nat} {xs : Nat → Int32} {σ : St} (hi : i + 6 ≤ L) (hL : L ≤ 3072) (hI : Inv σ σ) : ∃ σ2, Inv σ2 σ2 ∧ EG (E0L L xs) mL_law 2000 (23, lvl (i + 6), [], σ2) 40 (lvl i) [.int (nI 11)] σ := by
  obtain ⟨r, ζ1, ζ2, e1, e2, i2⟩ := G_fill (N := 300000) (Nat.le_refl _) (xs (i + 1)) (xs (i + 2)) hI
  refine ⟨ζ2, i2, ?_⟩
  refine g_tswi (off := 570) (tgt := 610) qL_law_40 (by decide) (by decide) (by decide +kernel) (by decide) ?_
  refine g_aload_n qL_law_610 rfl ?_
  refine l_arg (kn := 1) qL_law_611 qL_law_612 qL_law_614 qL_law_615 qL_law_616 (by decide +kernel) rfl rfl (by omega) hL ?_
  refine l_arg (kn := 2) qL_law_617 qL_law_618 qL_law_620 qL_law_621 qL_law_622 (by decide +kernel) rfl rfl (by omega) hL ?_
  refine g_cVi2 qL_law_623 mv_L_75 shq_0 rfl rfl (w_X11_fill e1) ?_
  refine g_aload_n qL_law_626 rfl ?_
  refine l_arg (kn := 1) qL_law_627 qL_law_628 qL_law_630 qL_law_631 qL_law_632 (by decide +kernel) rfl rfl (by omega) hL ?_
  refine l_arg (kn := 2) qL_law_633 qL_law_634 qL_law_636 qL_law_637 qL_law_638 (by decide +kernel) rfl rfl (by omega) hL ?_
  refine g_cVi2 qL_law_639 mv_L_78 shq_206 rfl rfl (w_X12_fill e2) ?_
  exact g_icmp_eq (tgt := 1430) qL_law_642 (by decide) (fun _ => l_next) (fun z => absurd rfl z)
theorem qL_law_647 : Dc mL_law 647 (.aload_n 1) 1 648 := ⟨by decide +kernel, rfl⟩
theorem qL_law_648 : Dc mL_law 648 (.aload_n 0) 1 649 := ⟨by decide +kernel, rfl⟩
theorem qL_law_649 : Dc mL_law 649 (.iload 4) 2 651 := ⟨by decide +kernel, rfl⟩
theorem qL_law_651 : Dc mL_law 651 (.iconst 1) 1 652 := ⟨by decide +kernel, rfl⟩
theorem qL_law_652 : Dc mL_law 652 (.iadd) 1 653 := ⟨by decide +kernel, rfl⟩
theorem qL_law_653 : Dc mL_law 653 (.iaload) 1 654 := ⟨by decide +kernel, rfl⟩
theorem qL_law_654 : Dc mL_law 654 (.aload_n 0) 1 655 := ⟨by decide +kernel, rfl⟩
theorem qL_law_655 : Dc mL_law 655 (.iload 4) 2 657 := ⟨by decide +kernel, rfl⟩
theorem qL_law_657 : Dc mL_law 657 (.iconst 2) 1 658 := ⟨by decide +kernel, rfl⟩
theorem qL_law_658 : Dc mL_law 658 (.iadd) 1 659 := ⟨by decide +kernel, rfl⟩
theorem qL_law_659 : Dc mL_law 659 (.iaload) 1 660 := ⟨by decide +kernel, rfl⟩
theorem mv_L_79 : Mv RL 79 mX11_shift 2 10 := ⟨mw_X11_shift, tb_4 75 (by decide +kernel) (by decide +kernel), tb_4 76 (by decide +kernel) (by decide +kernel), tb_4 77 (by decide +kernel) (by decide +kernel), _, _, rfl⟩
theorem qL_law_660 : Dc mL_law 660 (.invokevirtual 79) 3 663 := ⟨by decide +kernel, rfl⟩
theorem qL_law_663 : Dc mL_law 663 (.aload_n 2) 1 664 := ⟨by decide +kernel, rfl⟩
theorem qL_law_664 : Dc mL_law 664 (.aload_n 0) 1 665 := ⟨by decide +kernel, rfl⟩
theorem qL_law_665 : Dc mL_law 665 (.iload 4) 2 667 := ⟨by decide +kernel, rfl⟩
theorem qL_law_667 : Dc mL_law 667 (.iconst 1) 1 668 := ⟨by decide +kernel, rfl⟩
theorem qL_law_668 : Dc mL_law 668 (.iadd) 1 669 := ⟨by decide +kernel, rfl⟩
theorem qL_law_669 : Dc mL_law 669 (.iaload) 1 670 := ⟨by decide +kernel, rfl⟩
theorem qL_law_670 : Dc mL_law 670 (.aload_n 0) 1 671 := ⟨by decide +kernel, rfl⟩
theorem qL_law_671 : Dc mL_law 671 (.iload 4) 2 673 := ⟨by decide +kernel, rfl⟩
theorem qL_law_673 : Dc mL_law 673 (.iconst 2) 1 674 := ⟨by decide +kernel, rfl⟩
theorem qL_law_674 : Dc mL_law 674 (.iadd) 1 675 := ⟨by decide +kernel, rfl⟩
theorem qL_law_675 : Dc mL_law 675 (.iaload) 1 676 := ⟨by decide +kernel, rfl⟩
theorem mv_L_82 : Mv RL 82 mX12_shift 2 11 := ⟨mw_X12_shift, tb_8 119 (by decide +kernel) (by decide +kernel), tb_8 120 (by decide +kernel) (by decide +kernel), tb_8 121 (by decide +kernel) (by decide +kernel), _, _, rfl⟩
theorem qL_law_676 : Dc mL_law 676 (.invokevirtual 82) 3 679 := ⟨by decide +kernel, rfl⟩
theorem qL_law_679 : Dc mL_law 679 (.if_icmp .eq 751) 3 682 := ⟨by decide +kernel, rfl⟩
theorem seg_12 {L i : Nat} {xs : Nat → Int32} {σ : St} (hi : i + 6 ≤ L) (hL : L ≤ 3072) (hI : Inv σ σ) : ∃ σ2, Inv σ2 σ2 ∧ EG (E0L L xs) mL_law 2000 (23, lvl (i + 6), [], σ2) 40 (lvl i) [.int (nI 12)] σ := by
  obtain ⟨r, ζ1, ζ2, e1, e2, i2⟩ := G_shift (N := 300000) (Nat.le_refl _) (xs (i + 1)) (xs (i + 2)) hI
  refine ⟨ζ2, i2, ?_⟩
  refine g_tswi (off := 607) (tgt := 647) qL_law_40 (by decide) (by decide) (by decide +kernel) (by decide) ?_
  refine g_aload_n qL_law_647 rfl ?_
  refine l_arg (kn := 1) qL_law_648 qL_law_649 qL_law_651 qL_law_652 qL_law_653 (by decide +kernel) rfl rfl (by omega) hL ?_
  refine l_arg (kn := 2) qL_law_654 qL_law_655 qL_law_657 qL_law_658 qL_law_659 (by decide +kernel) rfl rfl (by omega) hL ?_
  refine g_cVi2 qL_law_660 mv_L_79 shq_0 rfl rfl (w_X11_shift e1) ?_
  refine g_aload_n qL_law_663 rfl ?_
  refine l_arg (kn := 1) qL_law_664 qL_law_665 qL_law_667 qL_law_668 qL_law_669 (by decide +kernel) rfl rfl (by omega) hL ?_
  refine l_arg (kn := 2) qL_law_670 qL_law_671 qL_law_673 qL_law_674 qL_law_675 (by decide +kernel) rfl rfl (by omega) hL ?_
  refine g_cVi2 qL_law_676 mv_L_82 shq_206 rfl rfl (w_X12_shift e2) ?_
  exact g_icmp_eq (tgt := 1430) qL_law_679 (by decide) (fun _ => l_next) (fun z => absurd rfl z)
theorem qL_law_684 : Dc mL_law 684 (.aload_n 1) 1 685 := ⟨by decide +kernel, rfl⟩
theorem qL_law_685 : Dc mL_law 685 (.aload_n 0) 1 686 := ⟨by decide +kernel, rfl⟩
theorem qL_law_686 : Dc mL_law 686 (.iload 4) 2 688 := ⟨by decide +kernel, rfl⟩
theorem qL_law_688 : Dc mL_law 688 (.iconst 1) 1 689 := ⟨by decide +kernel, rfl⟩
theorem qL_law_689 : Dc mL_law 689 (.iadd) 1 690 := ⟨by decide +kernel, rfl⟩
theorem qL_law_690 : Dc mL_law 690 (.iaload) 1 691 := ⟨by decide +kernel, rfl⟩
theorem qL_law_691 : Dc mL_law 691 (.aload_n 0) 1 692 := ⟨by decide +kernel, rfl⟩
theorem qL_law_692 : Dc mL_law 692 (.iload 4) 2 694 := ⟨by decide +kernel, rfl⟩
theorem qL_law_694 : Dc mL_law 694 (.iconst 2) 1 695 := ⟨by decide +kernel, rfl⟩
theorem qL_law_695 : Dc mL_law 695 (.iadd) 1 696 := ⟨by decide +kernel, rfl⟩
theorem qL_law_696 : Dc mL_law 696 (.iaload) 1 697 := ⟨by decide +kernel, rfl⟩
theorem mv_L_83 : Mv RL 83 mX11_steer 2 10 := ⟨mw_X11_steer, tb_4 83 (by decide +kernel) (by decide +kernel), tb_4 84 (by decide +kernel) (by decide +kernel), tb_4 85 (by decide +kernel) (by decide +kernel), _, _, rfl⟩
theorem qL_law_697 : Dc mL_law 697 (.invokevirtual 83) 3 700 := ⟨by decide +kernel, rfl⟩
theorem qL_law_700 : Dc mL_law 700 (.aload_n 2) 1 701 := ⟨by decide +kernel, rfl⟩
theorem qL_law_701 : Dc mL_law 701 (.aload_n 0) 1 702 := ⟨by decide +kernel, rfl⟩
theorem qL_law_702 : Dc mL_law 702 (.iload 4) 2 704 := ⟨by decide +kernel, rfl⟩
theorem qL_law_704 : Dc mL_law 704 (.iconst 1) 1 705 := ⟨by decide +kernel, rfl⟩
theorem qL_law_705 : Dc mL_law 705 (.iadd) 1 706 := ⟨by decide +kernel, rfl⟩
theorem qL_law_706 : Dc mL_law 706 (.iaload) 1 707 := ⟨by decide +kernel, rfl⟩
theorem qL_law_707 : Dc mL_law 707 (.aload_n 0) 1 708 := ⟨by decide +kernel, rfl⟩
theorem qL_law_708 : Dc mL_law 708 (.iload 4) 2 710 := ⟨by decide +kernel, rfl⟩
theorem qL_law_710 : Dc mL_law 710 (.iconst 2) 1 711 := ⟨by decide +kernel, rfl⟩
theorem qL_law_711 : Dc mL_law 711 (.iadd) 1 712 := ⟨by decide +kernel, rfl⟩
theorem qL_law_712 : Dc mL_law 712 (.iaload) 1 713 := ⟨by decide +kernel, rfl⟩
theorem mv_L_86 : Mv RL 86 mX12_steer 2 11 := ⟨mw_X12_steer, tb_8 127 (by decide +kernel) (by decide +kernel), tb_8 128 (by decide +kernel) (by decide +kernel), tb_8 129 (by decide +kernel) (by decide +kernel), _, _, rfl⟩
theorem qL_law_713 : Dc mL_law 713 (.invokevirtual 86) 3 716 := ⟨by decide +kernel, rfl⟩
theorem qL_law_716 : Dc mL_law 716 (.if_icmp .eq 714) 3 719 := ⟨by decide +kernel, rfl⟩
theorem seg_13 {L i : Nat} {xs : Nat → Int32} {σ : St} (hi : i + 6 ≤ L) (hL : L ≤ 3072) (hI : Inv σ σ) : ∃ σ2, Inv σ2 σ2 ∧ EG (E0L L xs) mL_law 2000 (23, lvl (i + 6), [], σ2) 40 (lvl i) [.int (nI 13)] σ := by
  obtain ⟨r, ζ1, ζ2, e1, e2, i2⟩ := G_steer (N := 300000) (Nat.le_refl _) (xs (i + 1)) (xs (i + 2)) hI
  refine ⟨ζ2, i2, ?_⟩
  refine g_tswi (off := 644) (tgt := 684) qL_law_40 (by decide) (by decide) (by decide +kernel) (by decide) ?_
  refine g_aload_n qL_law_684 rfl ?_
  refine l_arg (kn := 1) qL_law_685 qL_law_686 qL_law_688 qL_law_689 qL_law_690 (by decide +kernel) rfl rfl (by omega) hL ?_
  refine l_arg (kn := 2) qL_law_691 qL_law_692 qL_law_694 qL_law_695 qL_law_696 (by decide +kernel) rfl rfl (by omega) hL ?_
  refine g_cVi2 qL_law_697 mv_L_83 shq_0 rfl rfl (w_X11_steer e1) ?_
  refine g_aload_n qL_law_700 rfl ?_
  refine l_arg (kn := 1) qL_law_701 qL_law_702 qL_law_704 qL_law_705 qL_law_706 (by decide +kernel) rfl rfl (by omega) hL ?_
  refine l_arg (kn := 2) qL_law_707 qL_law_708 qL_law_710 qL_law_711 qL_law_712 (by decide +kernel) rfl rfl (by omega) hL ?_
  refine g_cVi2 qL_law_713 mv_L_86 shq_206 rfl rfl (w_X12_steer e2) ?_
  exact g_icmp_eq (tgt := 1430) qL_law_716 (by decide) (fun _ => l_next) (fun z => absurd rfl z)
theorem qL_law_721 : Dc mL_law 721 (.aload_n 1) 1 722 := ⟨by decide +kernel, rfl⟩
theorem qL_law_722 : Dc mL_law 722 (.aload_n 0) 1 723 := ⟨by decide +kernel, rfl⟩
theorem qL_law_723 : Dc mL_law 723 (.iload 4) 2 725 := ⟨by decide +kernel, rfl⟩
theorem qL_law_725 : Dc mL_law 725 (.iconst 1) 1 726 := ⟨by decide +kernel, rfl⟩
theorem qL_law_726 : Dc mL_law 726 (.iadd) 1 727 := ⟨by decide +kernel, rfl⟩
theorem qL_law_727 : Dc mL_law 727 (.iaload) 1 728 := ⟨by decide +kernel, rfl⟩
theorem mv_L_87 : Mv RL 87 mX11_haze 1 10 := ⟨mw_X11_haze, tb_4 91 (by decide +kernel) (by decide +kernel), tb_4 92 (by decide +kernel) (by decide +kernel), tb_4 93 (by decide +kernel) (by decide +kernel), _, _, rfl⟩
theorem qL_law_728 : Dc mL_law 728 (.invokevirtual 87) 3 731 := ⟨by decide +kernel, rfl⟩
theorem qL_law_731 : Dc mL_law 731 (.aload_n 2) 1 732 := ⟨by decide +kernel, rfl⟩
theorem qL_law_732 : Dc mL_law 732 (.aload_n 0) 1 733 := ⟨by decide +kernel, rfl⟩
theorem qL_law_733 : Dc mL_law 733 (.iload 4) 2 735 := ⟨by decide +kernel, rfl⟩
theorem qL_law_735 : Dc mL_law 735 (.iconst 1) 1 736 := ⟨by decide +kernel, rfl⟩
theorem qL_law_736 : Dc mL_law 736 (.iadd) 1 737 := ⟨by decide +kernel, rfl⟩
theorem qL_law_737 : Dc mL_law 737 (.iaload) 1 738 := ⟨by decide +kernel, rfl⟩
theorem mv_L_90 : Mv RL 90 mX12_haze 1 11 := ⟨mw_X12_haze, tb_8 131 (by decide +kernel) (by decide +kernel), tb_8 132 (by decide +kernel) (by decide +kernel), tb_8 133 (by decide +kernel) (by decide +kernel), _, _, rfl⟩
theorem qL_law_738 : Dc mL_law 738 (.invokevirtual 90) 3 741 := ⟨by decide +kernel, rfl⟩
theorem qL_law_741 : Dc mL_law 741 (.if_icmp .eq 689) 3 744 := ⟨by decide +kernel, rfl⟩
theorem seg_14 {L i : Nat} {xs : Nat → Int32} {σ : St} (hi : i + 6 ≤ L) (hL : L ≤ 3072) (hI : Inv σ σ) : ∃ σ2, Inv σ2 σ2 ∧ EG (E0L L xs) mL_law 2000 (23, lvl (i + 6), [], σ2) 40 (lvl i) [.int (nI 14)] σ := by
  obtain ⟨r, ζ1, ζ2, e1, e2, i2⟩ := G_haze (N := 300000) (Nat.le_refl _) (xs (i + 1)) hI
  refine ⟨ζ2, i2, ?_⟩
  refine g_tswi (off := 681) (tgt := 721) qL_law_40 (by decide) (by decide) (by decide +kernel) (by decide) ?_
  refine g_aload_n qL_law_721 rfl ?_
  refine l_arg (kn := 1) qL_law_722 qL_law_723 qL_law_725 qL_law_726 qL_law_727 (by decide +kernel) rfl rfl (by omega) hL ?_
  refine g_cVi1 qL_law_728 mv_L_87 shq_0 rfl rfl (w_X11_haze e1) ?_
  refine g_aload_n qL_law_731 rfl ?_
  refine l_arg (kn := 1) qL_law_732 qL_law_733 qL_law_735 qL_law_736 qL_law_737 (by decide +kernel) rfl rfl (by omega) hL ?_
  refine g_cVi1 qL_law_738 mv_L_90 shq_206 rfl rfl (w_X12_haze e2) ?_
  exact g_icmp_eq (tgt := 1430) qL_law_741 (by decide) (fun _ => l_next) (fun z => absurd rfl z)
theorem qL_law_746 : Dc mL_law 746 (.aload_n 1) 1 747 := ⟨by decide +kernel, rfl⟩
theorem qL_law_747 : Dc mL_law 747 (.aload_n 0) 1 748 := ⟨by decide +kernel, rfl⟩
theorem qL_law_748 : Dc mL_law 748 (.iload 4) 2 750 := ⟨by decide +kernel, rfl⟩
theorem qL_law_750 : Dc mL_law 750 (.iconst 1) 1 751 := ⟨by decide +kernel, rfl⟩
theorem qL_law_751 : Dc mL_law 751 (.iadd) 1 752 := ⟨by decide +kernel, rfl⟩
theorem qL_law_752 : Dc mL_law 752 (.iaload) 1 753 := ⟨by decide +kernel, rfl⟩
theorem mv_L_91 : Mv RL 91 mX11_seconds 1 10 := ⟨mw_X11_seconds, tb_4 99 (by decide +kernel) (by decide +kernel), tb_4 100 (by decide +kernel) (by decide +kernel), tb_4 101 (by decide +kernel) (by decide +kernel), _, _, rfl⟩
theorem qL_law_753 : Dc mL_law 753 (.invokevirtual 91) 3 756 := ⟨by decide +kernel, rfl⟩
theorem qL_law_756 : Dc mL_law 756 (.aload_n 2) 1 757 := ⟨by decide +kernel, rfl⟩
theorem qL_law_757 : Dc mL_law 757 (.aload_n 0) 1 758 := ⟨by decide +kernel, rfl⟩
theorem qL_law_758 : Dc mL_law 758 (.iload 4) 2 760 := ⟨by decide +kernel, rfl⟩
theorem qL_law_760 : Dc mL_law 760 (.iconst 1) 1 761 := ⟨by decide +kernel, rfl⟩
theorem qL_law_761 : Dc mL_law 761 (.iadd) 1 762 := ⟨by decide +kernel, rfl⟩
theorem qL_law_762 : Dc mL_law 762 (.iaload) 1 763 := ⟨by decide +kernel, rfl⟩
theorem mv_L_94 : Mv RL 94 mX12_seconds 1 11 := ⟨mw_X12_seconds, tb_8 135 (by decide +kernel) (by decide +kernel), tb_8 136 (by decide +kernel) (by decide +kernel), tb_8 137 (by decide +kernel) (by decide +kernel), _, _, rfl⟩
theorem qL_law_763 : Dc mL_law 763 (.invokevirtual 94) 3 766 := ⟨by decide +kernel, rfl⟩
theorem qL_law_766 : Dc mL_law 766 (.if_icmp .eq 664) 3 769 := ⟨by decide +kernel, rfl⟩
theorem seg_15 {L i : Nat} {xs : Nat → Int32} {σ : St} (hi : i + 6 ≤ L) (hL : L ≤ 3072) (hI : Inv σ σ) : ∃ σ2, Inv σ2 σ2 ∧ EG (E0L L xs) mL_law 2000 (23, lvl (i + 6), [], σ2) 40 (lvl i) [.int (nI 15)] σ := by
  obtain ⟨r, ζ1, ζ2, e1, e2, i2⟩ := G_seconds (N := 300000) (Nat.le_refl _) (xs (i + 1)) hI
  refine ⟨ζ2, i2, ?_⟩
  refine g_tswi (off := 706) (tgt := 746) qL_law_40 (by decide) (by decide) (by decide +kernel) (by decide) ?_
  refine g_aload_n qL_law_746 rfl ?_
  refine l_arg (kn := 1) qL_law_747 qL_law_748 qL_law_750 qL_law_751 qL_law_752 (by decide +kernel) rfl rfl (by omega) hL ?_
  refine g_cVi1 qL_law_753 mv_L_91 shq_0 rfl rfl (w_X11_seconds e1) ?_
  refine g_aload_n qL_law_756 rfl ?_
  refine l_arg (kn := 1) qL_law_757 qL_law_758 qL_law_760 qL_law_761 qL_law_762 (by decide +kernel) rfl rfl (by omega) hL ?_
  refine g_cVi1 qL_law_763 mv_L_94 shq_206 rfl rfl (w_X12_seconds e2) ?_
  exact g_icmp_eq (tgt := 1430) qL_law_766 (by decide) (fun _ => l_next) (fun z => absurd rfl z)
theorem qL_law_771 : Dc mL_law 771 (.aload_n 1) 1 772 := ⟨by decide +kernel, rfl⟩
theorem mv_L_95 : Mv RL 95 mX11_undo 0 10 := ⟨mw_X11_undo, tb_4 124 (by decide +kernel) (by decide +kernel), tb_4 125 (by decide +kernel) (by decide +kernel), tb_4 126 (by decide +kernel) (by decide +kernel), _, _, rfl⟩
theorem qL_law_772 : Dc mL_law 772 (.invokevirtual 95) 3 775 := ⟨by decide +kernel, rfl⟩
theorem qL_law_775 : Dc mL_law 775 (.aload_n 2) 1 776 := ⟨by decide +kernel, rfl⟩
theorem mv_L_98 : Mv RL 98 mX12_undo 0 11 := ⟨mw_X12_undo, tb_8 157 (by decide +kernel) (by decide +kernel), tb_8 158 (by decide +kernel) (by decide +kernel), tb_8 159 (by decide +kernel) (by decide +kernel), _, _, rfl⟩
theorem qL_law_776 : Dc mL_law 776 (.invokevirtual 98) 3 779 := ⟨by decide +kernel, rfl⟩
theorem qL_law_779 : Dc mL_law 779 (.if_icmp .eq 651) 3 782 := ⟨by decide +kernel, rfl⟩
theorem seg_16 {L i : Nat} {xs : Nat → Int32} {σ : St} (hi : i + 6 ≤ L) (hL : L ≤ 3072) (hI : Inv σ σ) : ∃ σ2, Inv σ2 σ2 ∧ EG (E0L L xs) mL_law 2000 (23, lvl (i + 6), [], σ2) 40 (lvl i) [.int (nI 16)] σ := by
  obtain ⟨r, ζ1, ζ2, e1, e2, i2⟩ := G_undo (N := 300000) (Nat.le_refl _)  hI
  refine ⟨ζ2, i2, ?_⟩
  refine g_tswi (off := 731) (tgt := 771) qL_law_40 (by decide) (by decide) (by decide +kernel) (by decide) ?_
  refine g_aload_n qL_law_771 rfl ?_
  refine g_cVi0 qL_law_772 mv_L_95 shq_0 rfl rfl (w_X11_undo e1) ?_
  refine g_aload_n qL_law_775 rfl ?_
  refine g_cVi0 qL_law_776 mv_L_98 shq_206 rfl rfl (w_X12_undo e2) ?_
  exact g_icmp_eq (tgt := 1430) qL_law_779 (by decide) (fun _ => l_next) (fun z => absurd rfl z)
theorem qL_law_784 : Dc mL_law 784 (.aload_n 1) 1 785 := ⟨by decide +kernel, rfl⟩
theorem mv_L_99 : Mv RL 99 mX11_confused 0 10 := ⟨mw_X11_confused, tb_4 132 (by decide +kernel) (by decide +kernel), tb_4 133 (by decide +kernel) (by decide +kernel), tb_4 134 (by decide +kernel) (by decide +kernel), _, _, rfl⟩
theorem qL_law_785 : Dc mL_law 785 (.invokevirtual 99) 3 788 := ⟨by decide +kernel, rfl⟩
theorem qL_law_788 : Dc mL_law 788 (.aload_n 2) 1 789 := ⟨by decide +kernel, rfl⟩
theorem mv_L_102 : Mv RL 102 mX12_confused 0 11 := ⟨mw_X12_confused, tb_8 161 (by decide +kernel) (by decide +kernel), tb_8 162 (by decide +kernel) (by decide +kernel), tb_8 163 (by decide +kernel) (by decide +kernel), _, _, rfl⟩
theorem qL_law_789 : Dc mL_law 789 (.invokevirtual 102) 3 792 := ⟨by decide +kernel, rfl⟩
theorem qL_law_792 : Dc mL_law 792 (.if_icmp .eq 638) 3 795 := ⟨by decide +kernel, rfl⟩
theorem seg_17 {L i : Nat} {xs : Nat → Int32} {σ : St} (hi : i + 6 ≤ L) (hL : L ≤ 3072) (hI : Inv σ σ) : ∃ σ2, Inv σ2 σ2 ∧ EG (E0L L xs) mL_law 2000 (23, lvl (i + 6), [], σ2) 40 (lvl i) [.int (nI 17)] σ := by
  obtain ⟨r, ζ2, e1, e2, i2⟩ := G_confused (N := 300000) (Nat.le_refl _)  hI
  refine ⟨ζ2, i2, ?_⟩
  refine g_tswi (off := 744) (tgt := 784) qL_law_40 (by decide) (by decide) (by decide +kernel) (by decide) ?_
  refine g_aload_n qL_law_784 rfl ?_
  refine g_cVi0 qL_law_785 mv_L_99 shq_0 rfl rfl (w_X11_confused e1) ?_
  refine g_aload_n qL_law_788 rfl ?_
  refine g_cVi0 qL_law_789 mv_L_102 shq_206 rfl rfl (w_X12_confused e2) ?_
  exact g_icmp_eq (tgt := 1430) qL_law_792 (by decide) (fun _ => l_next) (fun z => absurd rfl z)
theorem qL_law_797 : Dc mL_law 797 (.aload_n 1) 1 798 := ⟨by decide +kernel, rfl⟩
theorem mv_L_103 : Mv RL 103 mX11_change 0 10 := ⟨mw_X11_change, tb_4 146 (by decide +kernel) (by decide +kernel), tb_4 147 (by decide +kernel) (by decide +kernel), tb_4 148 (by decide +kernel) (by decide +kernel), _, _, rfl⟩
theorem qL_law_798 : Dc mL_law 798 (.invokevirtual 103) 3 801 := ⟨by decide +kernel, rfl⟩
theorem qL_law_801 : Dc mL_law 801 (.aload_n 2) 1 802 := ⟨by decide +kernel, rfl⟩
theorem mv_L_106 : Mv RL 106 mX12_change 0 11 := ⟨mw_X12_change, tb_8 173 (by decide +kernel) (by decide +kernel), tb_8 174 (by decide +kernel) (by decide +kernel), tb_8 175 (by decide +kernel) (by decide +kernel), _, _, rfl⟩
theorem qL_law_802 : Dc mL_law 802 (.invokevirtual 106) 3 805 := ⟨by decide +kernel, rfl⟩
theorem qL_law_805 : Dc mL_law 805 (.if_icmp .eq 625) 3 808 := ⟨by decide +kernel, rfl⟩
theorem seg_18 {L i : Nat} {xs : Nat → Int32} {σ : St} (hi : i + 6 ≤ L) (hL : L ≤ 3072) (hI : Inv σ σ) : ∃ σ2, Inv σ2 σ2 ∧ EG (E0L L xs) mL_law 2000 (23, lvl (i + 6), [], σ2) 40 (lvl i) [.int (nI 18)] σ := by
  obtain ⟨r, ζ1, ζ2, e1, e2, i2⟩ := G_change (N := 300000) (Nat.le_refl _)  hI
  refine ⟨ζ2, i2, ?_⟩
  refine g_tswi (off := 757) (tgt := 797) qL_law_40 (by decide) (by decide) (by decide +kernel) (by decide) ?_
  refine g_aload_n qL_law_797 rfl ?_
  refine g_cVi0 qL_law_798 mv_L_103 shq_0 rfl rfl (w_X11_change e1) ?_
  refine g_aload_n qL_law_801 rfl ?_
  refine g_cVi0 qL_law_802 mv_L_106 shq_206 rfl rfl (w_X12_change e2) ?_
  exact g_icmp_eq (tgt := 1430) qL_law_805 (by decide) (fun _ => l_next) (fun z => absurd rfl z)
theorem qL_law_810 : Dc mL_law 810 (.aload_n 1) 1 811 := ⟨by decide +kernel, rfl⟩
theorem mv_L_107 : Mv RL 107 mX11_changes 0 10 := ⟨mw_X11_changes, tb_4 163 (by decide +kernel) (by decide +kernel), tb_4 164 (by decide +kernel) (by decide +kernel), tb_4 165 (by decide +kernel) (by decide +kernel), _, _, rfl⟩
theorem qL_law_811 : Dc mL_law 811 (.invokevirtual 107) 3 814 := ⟨by decide +kernel, rfl⟩
theorem qL_law_814 : Dc mL_law 814 (.aload_n 2) 1 815 := ⟨by decide +kernel, rfl⟩
theorem mv_L_110 : Mv RL 110 mX12_changes 0 11 := ⟨mw_X12_changes, tb_8 180 (by decide +kernel) (by decide +kernel), tb_8 181 (by decide +kernel) (by decide +kernel), tb_8 182 (by decide +kernel) (by decide +kernel), _, _, rfl⟩
theorem qL_law_815 : Dc mL_law 815 (.invokevirtual 110) 3 818 := ⟨by decide +kernel, rfl⟩
theorem qL_law_818 : Dc mL_law 818 (.if_icmp .eq 612) 3 821 := ⟨by decide +kernel, rfl⟩
theorem seg_19 {L i : Nat} {xs : Nat → Int32} {σ : St} (hi : i + 6 ≤ L) (hL : L ≤ 3072) (hI : Inv σ σ) : ∃ σ2, Inv σ2 σ2 ∧ EG (E0L L xs) mL_law 2000 (23, lvl (i + 6), [], σ2) 40 (lvl i) [.int (nI 19)] σ := by
  obtain ⟨r, ζ2, e1, e2, i2⟩ := G_changes  hI
  refine ⟨ζ2, i2, ?_⟩
  refine g_tswi (off := 770) (tgt := 810) qL_law_40 (by decide) (by decide) (by decide +kernel) (by decide) ?_
  refine g_aload_n qL_law_810 rfl ?_
  refine g_cVi0 qL_law_811 mv_L_107 shq_0 rfl rfl (w_X11_changes e1) ?_
  refine g_aload_n qL_law_814 rfl ?_
  refine g_cVi0 qL_law_815 mv_L_110 shq_206 rfl rfl (w_X12_changes e2) ?_
  exact g_icmp_eq (tgt := 1430) qL_law_818 (by decide) (fun _ => l_next) (fun z => absurd rfl z)
theorem qL_law_823 : Dc mL_law 823 (.aload_n 1) 1 824 := ⟨by decide +kernel, rfl⟩
theorem qL_law_824 : Dc mL_law 824 (.aload_n 0) 1 825 := ⟨by decide +kernel, rfl⟩
theorem qL_law_825 : Dc mL_law 825 (.iload 4) 2 827 := ⟨by decide +kernel, rfl⟩
theorem qL_law_827 : Dc mL_law 827 (.iconst 1) 1 828 := ⟨by decide +kernel, rfl⟩
theorem qL_law_828 : Dc mL_law 828 (.iadd) 1 829 := ⟨by decide +kernel, rfl⟩
theorem qL_law_829 : Dc mL_law 829 (.iaload) 1 830 := ⟨by decide +kernel, rfl⟩
theorem qL_law_830 : Dc mL_law 830 (.aload_n 0) 1 831 := ⟨by decide +kernel, rfl⟩
theorem qL_law_831 : Dc mL_law 831 (.iload 4) 2 833 := ⟨by decide +kernel, rfl⟩
theorem qL_law_833 : Dc mL_law 833 (.iconst 2) 1 834 := ⟨by decide +kernel, rfl⟩
theorem qL_law_834 : Dc mL_law 834 (.iadd) 1 835 := ⟨by decide +kernel, rfl⟩
theorem qL_law_835 : Dc mL_law 835 (.iaload) 1 836 := ⟨by decide +kernel, rfl⟩
theorem mv_L_111 : Mv RL 111 mX11_apart 2 10 := ⟨mw_X11_apart, tb_4 167 (by decide +kernel) (by decide +kernel), tb_4 168 (by decide +kernel) (by decide +kernel), tb_4 169 (by decide +kernel) (by decide +kernel), _, _, rfl⟩
theorem qL_law_836 : Dc mL_law 836 (.invokevirtual 111) 3 839 := ⟨by decide +kernel, rfl⟩
theorem qL_law_839 : Dc mL_law 839 (.aload_n 2) 1 840 := ⟨by decide +kernel, rfl⟩
theorem qL_law_840 : Dc mL_law 840 (.aload_n 0) 1 841 := ⟨by decide +kernel, rfl⟩
theorem qL_law_841 : Dc mL_law 841 (.iload 4) 2 843 := ⟨by decide +kernel, rfl⟩
theorem qL_law_843 : Dc mL_law 843 (.iconst 1) 1 844 := ⟨by decide +kernel, rfl⟩
theorem qL_law_844 : Dc mL_law 844 (.iadd) 1 845 := ⟨by decide +kernel, rfl⟩
theorem qL_law_845 : Dc mL_law 845 (.iaload) 1 846 := ⟨by decide +kernel, rfl⟩
theorem qL_law_846 : Dc mL_law 846 (.aload_n 0) 1 847 := ⟨by decide +kernel, rfl⟩
theorem qL_law_847 : Dc mL_law 847 (.iload 4) 2 849 := ⟨by decide +kernel, rfl⟩
theorem qL_law_849 : Dc mL_law 849 (.iconst 2) 1 850 := ⟨by decide +kernel, rfl⟩
theorem qL_law_850 : Dc mL_law 850 (.iadd) 1 851 := ⟨by decide +kernel, rfl⟩
theorem qL_law_851 : Dc mL_law 851 (.iaload) 1 852 := ⟨by decide +kernel, rfl⟩
theorem mv_L_114 : Mv RL 114 mX12_apart 2 11 := ⟨mw_X12_apart, tb_8 184 (by decide +kernel) (by decide +kernel), tb_8 185 (by decide +kernel) (by decide +kernel), tb_8 186 (by decide +kernel) (by decide +kernel), _, _, rfl⟩
theorem qL_law_852 : Dc mL_law 852 (.invokevirtual 114) 3 855 := ⟨by decide +kernel, rfl⟩
theorem qL_law_855 : Dc mL_law 855 (.if_icmp .eq 575) 3 858 := ⟨by decide +kernel, rfl⟩
theorem seg_20 {L i : Nat} {xs : Nat → Int32} {σ : St} (hi : i + 6 ≤ L) (hL : L ≤ 3072) (hI : Inv σ σ) : ∃ σ2, Inv σ2 σ2 ∧ EG (E0L L xs) mL_law 2000 (23, lvl (i + 6), [], σ2) 40 (lvl i) [.int (nI 20)] σ := by
  obtain ⟨r, ζ2, e1, e2, i2⟩ := G_apart (N := 300000) (Nat.le_refl _) (xs (i + 1)) (xs (i + 2)) hI
  refine ⟨ζ2, i2, ?_⟩
  refine g_tswi (off := 783) (tgt := 823) qL_law_40 (by decide) (by decide) (by decide +kernel) (by decide) ?_
  refine g_aload_n qL_law_823 rfl ?_
  refine l_arg (kn := 1) qL_law_824 qL_law_825 qL_law_827 qL_law_828 qL_law_829 (by decide +kernel) rfl rfl (by omega) hL ?_
  refine l_arg (kn := 2) qL_law_830 qL_law_831 qL_law_833 qL_law_834 qL_law_835 (by decide +kernel) rfl rfl (by omega) hL ?_
  refine g_cVi2 qL_law_836 mv_L_111 shq_0 rfl rfl (w_X11_apart e1) ?_
  refine g_aload_n qL_law_839 rfl ?_
  refine l_arg (kn := 1) qL_law_840 qL_law_841 qL_law_843 qL_law_844 qL_law_845 (by decide +kernel) rfl rfl (by omega) hL ?_
  refine l_arg (kn := 2) qL_law_846 qL_law_847 qL_law_849 qL_law_850 qL_law_851 (by decide +kernel) rfl rfl (by omega) hL ?_
  refine g_cVi2 qL_law_852 mv_L_114 shq_206 rfl rfl (w_X12_apart e2) ?_
  exact g_icmp_eq (tgt := 1430) qL_law_855 (by decide) (fun _ => l_next) (fun z => absurd rfl z)
theorem qL_law_860 : Dc mL_law 860 (.aload_n 1) 1 861 := ⟨by decide +kernel, rfl⟩
theorem qL_law_861 : Dc mL_law 861 (.aload_n 0) 1 862 := ⟨by decide +kernel, rfl⟩
theorem qL_law_862 : Dc mL_law 862 (.iload 4) 2 864 := ⟨by decide +kernel, rfl⟩
theorem qL_law_864 : Dc mL_law 864 (.iconst 1) 1 865 := ⟨by decide +kernel, rfl⟩
theorem qL_law_865 : Dc mL_law 865 (.iadd) 1 866 := ⟨by decide +kernel, rfl⟩
theorem qL_law_866 : Dc mL_law 866 (.iaload) 1 867 := ⟨by decide +kernel, rfl⟩
theorem qL_law_867 : Dc mL_law 867 (.aload_n 0) 1 868 := ⟨by decide +kernel, rfl⟩
theorem qL_law_868 : Dc mL_law 868 (.iload 4) 2 870 := ⟨by decide +kernel, rfl⟩
theorem qL_law_870 : Dc mL_law 870 (.iconst 2) 1 871 := ⟨by decide +kernel, rfl⟩
theorem qL_law_871 : Dc mL_law 871 (.iadd) 1 872 := ⟨by decide +kernel, rfl⟩
theorem qL_law_872 : Dc mL_law 872 (.iaload) 1 873 := ⟨by decide +kernel, rfl⟩
theorem mv_L_115 : Mv RL 115 mX11_both 2 10 := ⟨mw_X11_both, tb_4 184 (by decide +kernel) (by decide +kernel), tb_4 185 (by decide +kernel) (by decide +kernel), tb_4 186 (by decide +kernel) (by decide +kernel), _, _, rfl⟩
theorem qL_law_873 : Dc mL_law 873 (.invokevirtual 115) 3 876 := ⟨by decide +kernel, rfl⟩
theorem qL_law_876 : Dc mL_law 876 (.aload_n 2) 1 877 := ⟨by decide +kernel, rfl⟩
theorem qL_law_877 : Dc mL_law 877 (.aload_n 0) 1 878 := ⟨by decide +kernel, rfl⟩
theorem qL_law_878 : Dc mL_law 878 (.iload 4) 2 880 := ⟨by decide +kernel, rfl⟩
theorem qL_law_880 : Dc mL_law 880 (.iconst 1) 1 881 := ⟨by decide +kernel, rfl⟩
theorem qL_law_881 : Dc mL_law 881 (.iadd) 1 882 := ⟨by decide +kernel, rfl⟩
theorem qL_law_882 : Dc mL_law 882 (.iaload) 1 883 := ⟨by decide +kernel, rfl⟩
theorem qL_law_883 : Dc mL_law 883 (.aload_n 0) 1 884 := ⟨by decide +kernel, rfl⟩
theorem qL_law_884 : Dc mL_law 884 (.iload 4) 2 886 := ⟨by decide +kernel, rfl⟩
theorem qL_law_886 : Dc mL_law 886 (.iconst 2) 1 887 := ⟨by decide +kernel, rfl⟩
theorem qL_law_887 : Dc mL_law 887 (.iadd) 1 888 := ⟨by decide +kernel, rfl⟩
theorem qL_law_888 : Dc mL_law 888 (.iaload) 1 889 := ⟨by decide +kernel, rfl⟩
theorem mv_L_118 : Mv RL 118 mX12_both 2 11 := ⟨mw_X12_both, tb_8 192 (by decide +kernel) (by decide +kernel), tb_8 193 (by decide +kernel) (by decide +kernel), tb_8 194 (by decide +kernel) (by decide +kernel), _, _, rfl⟩
theorem qL_law_889 : Dc mL_law 889 (.invokevirtual 118) 3 892 := ⟨by decide +kernel, rfl⟩
theorem qL_law_892 : Dc mL_law 892 (.if_icmp .eq 538) 3 895 := ⟨by decide +kernel, rfl⟩
theorem seg_21 {L i : Nat} {xs : Nat → Int32} {σ : St} (hi : i + 6 ≤ L) (hL : L ≤ 3072) (hI : Inv σ σ) : ∃ σ2, Inv σ2 σ2 ∧ EG (E0L L xs) mL_law 2000 (23, lvl (i + 6), [], σ2) 40 (lvl i) [.int (nI 21)] σ := by
  obtain ⟨r, ζ2, e1, e2, i2⟩ := G_both (N := 300000) (Nat.le_refl _) (xs (i + 1)) (xs (i + 2)) hI
  refine ⟨ζ2, i2, ?_⟩
  refine g_tswi (off := 820) (tgt := 860) qL_law_40 (by decide) (by decide) (by decide +kernel) (by decide) ?_
  refine g_aload_n qL_law_860 rfl ?_
  refine l_arg (kn := 1) qL_law_861 qL_law_862 qL_law_864 qL_law_865 qL_law_866 (by decide +kernel) rfl rfl (by omega) hL ?_
  refine l_arg (kn := 2) qL_law_867 qL_law_868 qL_law_870 qL_law_871 qL_law_872 (by decide +kernel) rfl rfl (by omega) hL ?_
  refine g_cVi2 qL_law_873 mv_L_115 shq_0 rfl rfl (w_X11_both e1) ?_
  refine g_aload_n qL_law_876 rfl ?_
  refine l_arg (kn := 1) qL_law_877 qL_law_878 qL_law_880 qL_law_881 qL_law_882 (by decide +kernel) rfl rfl (by omega) hL ?_
  refine l_arg (kn := 2) qL_law_883 qL_law_884 qL_law_886 qL_law_887 qL_law_888 (by decide +kernel) rfl rfl (by omega) hL ?_
  refine g_cVi2 qL_law_889 mv_L_118 shq_206 rfl rfl (w_X12_both e2) ?_
  exact g_icmp_eq (tgt := 1430) qL_law_892 (by decide) (fun _ => l_next) (fun z => absurd rfl z)
theorem qL_law_897 : Dc mL_law 897 (.aload_n 1) 1 898 := ⟨by decide +kernel, rfl⟩
theorem mv_L_119 : Mv RL 119 mX11_fits 0 10 := ⟨mw_X11_fits, tb_4 189 (by decide +kernel) (by decide +kernel), tb_4 190 (by decide +kernel) (by decide +kernel), tb_4 191 (by decide +kernel) (by decide +kernel), _, _, rfl⟩
theorem qL_law_898 : Dc mL_law 898 (.invokevirtual 119) 3 901 := ⟨by decide +kernel, rfl⟩
theorem qL_law_901 : Dc mL_law 901 (.aload_n 2) 1 902 := ⟨by decide +kernel, rfl⟩
theorem mv_L_122 : Mv RL 122 mX12_fits 0 11 := ⟨mw_X12_fits, tb_8 196 (by decide +kernel) (by decide +kernel), tb_8 197 (by decide +kernel) (by decide +kernel), tb_8 198 (by decide +kernel) (by decide +kernel), _, _, rfl⟩
theorem qL_law_902 : Dc mL_law 902 (.invokevirtual 122) 3 905 := ⟨by decide +kernel, rfl⟩
theorem qL_law_905 : Dc mL_law 905 (.if_icmp .eq 525) 3 908 := ⟨by decide +kernel, rfl⟩
theorem seg_22 {L i : Nat} {xs : Nat → Int32} {σ : St} (hi : i + 6 ≤ L) (hL : L ≤ 3072) (hI : Inv σ σ) : ∃ σ2, Inv σ2 σ2 ∧ EG (E0L L xs) mL_law 2000 (23, lvl (i + 6), [], σ2) 40 (lvl i) [.int (nI 22)] σ := by
  obtain ⟨r, ζ1, ζ2, e1, e2, i2⟩ := G_fits (N := 300000) (Nat.le_refl _)  hI
  refine ⟨ζ2, i2, ?_⟩
  refine g_tswi (off := 857) (tgt := 897) qL_law_40 (by decide) (by decide) (by decide +kernel) (by decide) ?_
  refine g_aload_n qL_law_897 rfl ?_
  refine g_cVi0 qL_law_898 mv_L_119 shq_0 rfl rfl (w_X11_fits e1) ?_
  refine g_aload_n qL_law_901 rfl ?_
  refine g_cVi0 qL_law_902 mv_L_122 shq_206 rfl rfl (w_X12_fits e2) ?_
  exact g_icmp_eq (tgt := 1430) qL_law_905 (by decide) (fun _ => l_next) (fun z => absurd rfl z)
theorem qL_law_910 : Dc mL_law 910 (.aload_n 1) 1 911 := ⟨by decide +kernel, rfl⟩
theorem qL_law_911 : Dc mL_law 911 (.aload_n 0) 1 912 := ⟨by decide +kernel, rfl⟩
theorem qL_law_912 : Dc mL_law 912 (.iload 4) 2 914 := ⟨by decide +kernel, rfl⟩
theorem qL_law_914 : Dc mL_law 914 (.iconst 1) 1 915 := ⟨by decide +kernel, rfl⟩
theorem qL_law_915 : Dc mL_law 915 (.iadd) 1 916 := ⟨by decide +kernel, rfl⟩
theorem qL_law_916 : Dc mL_law 916 (.iaload) 1 917 := ⟨by decide +kernel, rfl⟩
theorem mv_L_123 : Mv RL 123 mX11_fitsAt 1 10 := ⟨mw_X11_fitsAt, tb_4 219 (by decide +kernel) (by decide +kernel), tb_4 220 (by decide +kernel) (by decide +kernel), tb_4 221 (by decide +kernel) (by decide +kernel), _, _, rfl⟩
theorem qL_law_917 : Dc mL_law 917 (.invokevirtual 123) 3 920 := ⟨by decide +kernel, rfl⟩
theorem qL_law_920 : Dc mL_law 920 (.aload_n 2) 1 921 := ⟨by decide +kernel, rfl⟩
theorem qL_law_921 : Dc mL_law 921 (.aload_n 0) 1 922 := ⟨by decide +kernel, rfl⟩
theorem qL_law_922 : Dc mL_law 922 (.iload 4) 2 924 := ⟨by decide +kernel, rfl⟩
theorem qL_law_924 : Dc mL_law 924 (.iconst 1) 1 925 := ⟨by decide +kernel, rfl⟩
theorem qL_law_925 : Dc mL_law 925 (.iadd) 1 926 := ⟨by decide +kernel, rfl⟩
theorem qL_law_926 : Dc mL_law 926 (.iaload) 1 927 := ⟨by decide +kernel, rfl⟩
theorem mv_L_126 : Mv RL 126 mX12_fitsAt 1 11 := ⟨mw_X12_fitsAt, tb_8 215 (by decide +kernel) (by decide +kernel), tb_8 216 (by decide +kernel) (by decide +kernel), tb_8 217 (by decide +kernel) (by decide +kernel), _, _, rfl⟩
theorem qL_law_927 : Dc mL_law 927 (.invokevirtual 126) 3 930 := ⟨by decide +kernel, rfl⟩
theorem qL_law_930 : Dc mL_law 930 (.if_icmp .eq 500) 3 933 := ⟨by decide +kernel, rfl⟩
theorem seg_23 {L i : Nat} {xs : Nat → Int32} {σ : St} (hi : i + 6 ≤ L) (hL : L ≤ 3072) (hI : Inv σ σ) : ∃ σ2, Inv σ2 σ2 ∧ EG (E0L L xs) mL_law 2000 (23, lvl (i + 6), [], σ2) 40 (lvl i) [.int (nI 23)] σ := by
  obtain ⟨r, ζ2, e1, e2, i2⟩ := G_fitsAt (xs (i + 1)) hI
  refine ⟨ζ2, i2, ?_⟩
  refine g_tswi (off := 870) (tgt := 910) qL_law_40 (by decide) (by decide) (by decide +kernel) (by decide) ?_
  refine g_aload_n qL_law_910 rfl ?_
  refine l_arg (kn := 1) qL_law_911 qL_law_912 qL_law_914 qL_law_915 qL_law_916 (by decide +kernel) rfl rfl (by omega) hL ?_
  refine g_cVi1 qL_law_917 mv_L_123 shq_0 rfl rfl (w_X11_fitsAt e1) ?_
  refine g_aload_n qL_law_920 rfl ?_
  refine l_arg (kn := 1) qL_law_921 qL_law_922 qL_law_924 qL_law_925 qL_law_926 (by decide +kernel) rfl rfl (by omega) hL ?_
  refine g_cVi1 qL_law_927 mv_L_126 shq_206 rfl rfl (w_X12_fitsAt e2) ?_
  exact g_icmp_eq (tgt := 1430) qL_law_930 (by decide) (fun _ => l_next) (fun z => absurd rfl z)
theorem qL_law_935 : Dc mL_law 935 (.aload_n 1) 1 936 := ⟨by decide +kernel, rfl⟩
theorem mv_L_127 : Mv RL 127 mX11_ask 0 10 := ⟨mw_X11_ask, tb_4 223 (by decide +kernel) (by decide +kernel), tb_4 224 (by decide +kernel) (by decide +kernel), tb_4 225 (by decide +kernel) (by decide +kernel), _, _, rfl⟩
theorem qL_law_936 : Dc mL_law 936 (.invokevirtual 127) 3 939 := ⟨by decide +kernel, rfl⟩
theorem qL_law_939 : Dc mL_law 939 (.aload_n 2) 1 940 := ⟨by decide +kernel, rfl⟩
theorem mv_L_130 : Mv RL 130 mX12_ask 0 11 := ⟨mw_X12_ask, tb_8 219 (by decide +kernel) (by decide +kernel), tb_8 220 (by decide +kernel) (by decide +kernel), tb_8 221 (by decide +kernel) (by decide +kernel), _, _, rfl⟩
theorem qL_law_940 : Dc mL_law 940 (.invokevirtual 130) 3 943 := ⟨by decide +kernel, rfl⟩
theorem qL_law_943 : Dc mL_law 943 (.if_icmp .eq 487) 3 946 := ⟨by decide +kernel, rfl⟩
theorem seg_24 {L i : Nat} {xs : Nat → Int32} {σ : St} (hi : i + 6 ≤ L) (hL : L ≤ 3072) (hI : Inv σ σ) : ∃ σ2, Inv σ2 σ2 ∧ EG (E0L L xs) mL_law 2000 (23, lvl (i + 6), [], σ2) 40 (lvl i) [.int (nI 24)] σ := by
  obtain ⟨r, ζ2, e1, e2, i2⟩ := G_ask  hI
  refine ⟨ζ2, i2, ?_⟩
  refine g_tswi (off := 895) (tgt := 935) qL_law_40 (by decide) (by decide) (by decide +kernel) (by decide) ?_
  refine g_aload_n qL_law_935 rfl ?_
  refine g_cVi0 qL_law_936 mv_L_127 shq_0 rfl rfl (w_X11_ask e1) ?_
  refine g_aload_n qL_law_939 rfl ?_
  refine g_cVi0 qL_law_940 mv_L_130 shq_206 rfl rfl (w_X12_ask e2) ?_
  exact g_icmp_eq (tgt := 1430) qL_law_943 (by decide) (fun _ => l_next) (fun z => absurd rfl z)
theorem qL_law_948 : Dc mL_law 948 (.aload_n 1) 1 949 := ⟨by decide +kernel, rfl⟩
theorem qL_law_949 : Dc mL_law 949 (.aload_n 0) 1 950 := ⟨by decide +kernel, rfl⟩
theorem qL_law_950 : Dc mL_law 950 (.iload 4) 2 952 := ⟨by decide +kernel, rfl⟩
theorem qL_law_952 : Dc mL_law 952 (.iconst 1) 1 953 := ⟨by decide +kernel, rfl⟩
theorem qL_law_953 : Dc mL_law 953 (.iadd) 1 954 := ⟨by decide +kernel, rfl⟩
theorem qL_law_954 : Dc mL_law 954 (.iaload) 1 955 := ⟨by decide +kernel, rfl⟩
theorem mv_L_131 : Mv RL 131 mX11_spots 1 10 := ⟨mw_X11_spots, tb_4 227 (by decide +kernel) (by decide +kernel), tb_4 228 (by decide +kernel) (by decide +kernel), tb_4 229 (by decide +kernel) (by decide +kernel), _, _, rfl⟩
theorem qL_law_955 : Dc mL_law 955 (.invokevirtual 131) 3 958 := ⟨by decide +kernel, rfl⟩
theorem qL_law_958 : Dc mL_law 958 (.aload_n 2) 1 959 := ⟨by decide +kernel, rfl⟩
theorem qL_law_959 : Dc mL_law 959 (.aload_n 0) 1 960 := ⟨by decide +kernel, rfl⟩
theorem qL_law_960 : Dc mL_law 960 (.iload 4) 2 962 := ⟨by decide +kernel, rfl⟩
theorem qL_law_962 : Dc mL_law 962 (.iconst 1) 1 963 := ⟨by decide +kernel, rfl⟩
theorem qL_law_963 : Dc mL_law 963 (.iadd) 1 964 := ⟨by decide +kernel, rfl⟩
theorem qL_law_964 : Dc mL_law 964 (.iaload) 1 965 := ⟨by decide +kernel, rfl⟩
theorem mv_L_134 : Mv RL 134 mX12_spots 1 11 := ⟨mw_X12_spots, tb_8 223 (by decide +kernel) (by decide +kernel), tb_8 224 (by decide +kernel) (by decide +kernel), tb_8 225 (by decide +kernel) (by decide +kernel), _, _, rfl⟩
theorem qL_law_965 : Dc mL_law 965 (.invokevirtual 134) 3 968 := ⟨by decide +kernel, rfl⟩
theorem qL_law_968 : Dc mL_law 968 (.if_icmp .eq 462) 3 971 := ⟨by decide +kernel, rfl⟩
theorem seg_25 {L i : Nat} {xs : Nat → Int32} {σ : St} (hi : i + 6 ≤ L) (hL : L ≤ 3072) (hI : Inv σ σ) : ∃ σ2, Inv σ2 σ2 ∧ EG (E0L L xs) mL_law 2000 (23, lvl (i + 6), [], σ2) 40 (lvl i) [.int (nI 25)] σ := by
  obtain ⟨r, ζ1, ζ2, e1, e2, i2⟩ := G_spots (N := 300000) (Nat.le_refl _) (xs (i + 1)) hI
  refine ⟨ζ2, i2, ?_⟩
  refine g_tswi (off := 908) (tgt := 948) qL_law_40 (by decide) (by decide) (by decide +kernel) (by decide) ?_
  refine g_aload_n qL_law_948 rfl ?_
  refine l_arg (kn := 1) qL_law_949 qL_law_950 qL_law_952 qL_law_953 qL_law_954 (by decide +kernel) rfl rfl (by omega) hL ?_
  refine g_cVi1 qL_law_955 mv_L_131 shq_0 rfl rfl (w_X11_spots e1) ?_
  refine g_aload_n qL_law_958 rfl ?_
  refine l_arg (kn := 1) qL_law_959 qL_law_960 qL_law_962 qL_law_963 qL_law_964 (by decide +kernel) rfl rfl (by omega) hL ?_
  refine g_cVi1 qL_law_965 mv_L_134 shq_206 rfl rfl (w_X12_spots e2) ?_
  exact g_icmp_eq (tgt := 1430) qL_law_968 (by decide) (fun _ => l_next) (fun z => absurd rfl z)
theorem qL_law_973 : Dc mL_law 973 (.aload_n 1) 1 974 := ⟨by decide +kernel, rfl⟩
theorem mv_L_135 : Mv RL 135 mX11_spotsAt 0 10 := ⟨mw_X11_spotsAt, tb_4 232 (by decide +kernel) (by decide +kernel), tb_4 233 (by decide +kernel) (by decide +kernel), tb_4 234 (by decide +kernel) (by decide +kernel), _, _, rfl⟩
theorem qL_law_974 : Dc mL_law 974 (.invokevirtual 135) 3 977 := ⟨by decide +kernel, rfl⟩
theorem qL_law_977 : Dc mL_law 977 (.aload_n 2) 1 978 := ⟨by decide +kernel, rfl⟩
theorem mv_L_138 : Mv RL 138 mX12_spotsAt 0 11 := ⟨mw_X12_spotsAt, tb_8 227 (by decide +kernel) (by decide +kernel), tb_8 228 (by decide +kernel) (by decide +kernel), tb_8 229 (by decide +kernel) (by decide +kernel), _, _, rfl⟩
theorem qL_law_978 : Dc mL_law 978 (.invokevirtual 138) 3 981 := ⟨by decide +kernel, rfl⟩
theorem qL_law_981 : Dc mL_law 981 (.if_icmp .eq 449) 3 984 := ⟨by decide +kernel, rfl⟩
theorem seg_26 {L i : Nat} {xs : Nat → Int32} {σ : St} (hi : i + 6 ≤ L) (hL : L ≤ 3072) (hI : Inv σ σ) : ∃ σ2, Inv σ2 σ2 ∧ EG (E0L L xs) mL_law 2000 (23, lvl (i + 6), [], σ2) 40 (lvl i) [.int (nI 26)] σ := by
  obtain ⟨r, ζ2, e1, e2, i2⟩ := G_spotsAt  hI
  refine ⟨ζ2, i2, ?_⟩
  refine g_tswi (off := 933) (tgt := 973) qL_law_40 (by decide) (by decide) (by decide +kernel) (by decide) ?_
  refine g_aload_n qL_law_973 rfl ?_
  refine g_cVi0 qL_law_974 mv_L_135 shq_0 rfl rfl (w_X11_spotsAt e1) ?_
  refine g_aload_n qL_law_977 rfl ?_
  refine g_cVi0 qL_law_978 mv_L_138 shq_206 rfl rfl (w_X12_spotsAt e2) ?_
  exact g_icmp_eq (tgt := 1430) qL_law_981 (by decide) (fun _ => l_next) (fun z => absurd rfl z)
theorem qL_law_986 : Dc mL_law 986 (.aload_n 1) 1 987 := ⟨by decide +kernel, rfl⟩
theorem mv_L_139 : Mv RL 139 mX11_fix 0 10 := ⟨mw_X11_fix, tb_4 236 (by decide +kernel) (by decide +kernel), tb_4 237 (by decide +kernel) (by decide +kernel), tb_4 238 (by decide +kernel) (by decide +kernel), _, _, rfl⟩
theorem qL_law_987 : Dc mL_law 987 (.invokevirtual 139) 3 990 := ⟨by decide +kernel, rfl⟩
theorem qL_law_990 : Dc mL_law 990 (.aload_n 2) 1 991 := ⟨by decide +kernel, rfl⟩
theorem mv_L_142 : Mv RL 142 mX12_fix 0 11 := ⟨mw_X12_fix, tb_8 231 (by decide +kernel) (by decide +kernel), tb_8 232 (by decide +kernel) (by decide +kernel), tb_8 233 (by decide +kernel) (by decide +kernel), _, _, rfl⟩
theorem qL_law_991 : Dc mL_law 991 (.invokevirtual 142) 3 994 := ⟨by decide +kernel, rfl⟩
theorem qL_law_994 : Dc mL_law 994 (.if_icmp .eq 436) 3 997 := ⟨by decide +kernel, rfl⟩
theorem seg_27 {L i : Nat} {xs : Nat → Int32} {σ : St} (hi : i + 6 ≤ L) (hL : L ≤ 3072) (hI : Inv σ σ) : ∃ σ2, Inv σ2 σ2 ∧ EG (E0L L xs) mL_law 2000 (23, lvl (i + 6), [], σ2) 40 (lvl i) [.int (nI 27)] σ := by
  obtain ⟨r, ζ1, ζ2, e1, e2, i2⟩ := G_fix (N := 300000) (Nat.le_refl _)  hI
  refine ⟨ζ2, i2, ?_⟩
  refine g_tswi (off := 946) (tgt := 986) qL_law_40 (by decide) (by decide) (by decide +kernel) (by decide) ?_
  refine g_aload_n qL_law_986 rfl ?_
  refine g_cVi0 qL_law_987 mv_L_139 shq_0 rfl rfl (w_X11_fix e1) ?_
  refine g_aload_n qL_law_990 rfl ?_
  refine g_cVi0 qL_law_991 mv_L_142 shq_206 rfl rfl (w_X12_fix e2) ?_
  exact g_icmp_eq (tgt := 1430) qL_law_994 (by decide) (fun _ => l_next) (fun z => absurd rfl z)
theorem qL_law_999 : Dc mL_law 999 (.aload_n 1) 1 1000 := ⟨by decide +kernel, rfl⟩
theorem mv_L_143 : Mv RL 143 mX11_fixAt 0 10 := ⟨mw_X11_fixAt, tb_5 9 (by decide +kernel) (by decide +kernel), tb_5 10 (by decide +kernel) (by decide +kernel), tb_5 11 (by decide +kernel) (by decide +kernel), _, _, rfl⟩
theorem qL_law_1000 : Dc mL_law 1000 (.invokevirtual 143) 3 1003 := ⟨by decide +kernel, rfl⟩
theorem qL_law_1003 : Dc mL_law 1003 (.aload_n 2) 1 1004 := ⟨by decide +kernel, rfl⟩
theorem mv_L_146 : Mv RL 146 mX12_fixAt 0 11 := ⟨mw_X12_fixAt, tb_8 239 (by decide +kernel) (by decide +kernel), tb_9 0 (by decide +kernel) (by decide +kernel), tb_9 1 (by decide +kernel) (by decide +kernel), _, _, rfl⟩
theorem qL_law_1004 : Dc mL_law 1004 (.invokevirtual 146) 3 1007 := ⟨by decide +kernel, rfl⟩
theorem qL_law_1007 : Dc mL_law 1007 (.if_icmp .eq 423) 3 1010 := ⟨by decide +kernel, rfl⟩
theorem seg_28 {L i : Nat} {xs : Nat → Int32} {σ : St} (hi : i + 6 ≤ L) (hL : L ≤ 3072) (hI : Inv σ σ) : ∃ σ2, Inv σ2 σ2 ∧ EG (E0L L xs) mL_law 2000 (23, lvl (i + 6), [], σ2) 40 (lvl i) [.int (nI 28)] σ := by
  obtain ⟨r, ζ2, e1, e2, i2⟩ := G_fixAt  hI
  refine ⟨ζ2, i2, ?_⟩
  refine g_tswi (off := 959) (tgt := 999) qL_law_40 (by decide) (by decide) (by decide +kernel) (by decide) ?_
  refine g_aload_n qL_law_999 rfl ?_
  refine g_cVi0 qL_law_1000 mv_L_143 shq_0 rfl rfl (w_X11_fixAt e1) ?_
  refine g_aload_n qL_law_1003 rfl ?_
  refine g_cVi0 qL_law_1004 mv_L_146 shq_206 rfl rfl (w_X12_fixAt e2) ?_
  exact g_icmp_eq (tgt := 1430) qL_law_1007 (by decide) (fun _ => l_next) (fun z => absurd rfl z)
theorem qL_law_1012 : Dc mL_law 1012 (.aload_n 1) 1 1013 := ⟨by decide +kernel, rfl⟩
theorem mv_L_147 : Mv RL 147 mX11_most 0 10 := ⟨mw_X11_most, tb_5 13 (by decide +kernel) (by decide +kernel), tb_5 14 (by decide +kernel) (by decide +kernel), tb_5 15 (by decide +kernel) (by decide +kernel), _, _, rfl⟩
theorem qL_law_1013 : Dc mL_law 1013 (.invokevirtual 147) 3 1016 := ⟨by decide +kernel, rfl⟩
theorem qL_law_1016 : Dc mL_law 1016 (.aload_n 2) 1 1017 := ⟨by decide +kernel, rfl⟩
theorem mv_L_150 : Mv RL 150 mX12_most 0 11 := ⟨mw_X12_most, tb_9 3 (by decide +kernel) (by decide +kernel), tb_9 4 (by decide +kernel) (by decide +kernel), tb_9 5 (by decide +kernel) (by decide +kernel), _, _, rfl⟩
theorem qL_law_1017 : Dc mL_law 1017 (.invokevirtual 150) 3 1020 := ⟨by decide +kernel, rfl⟩
theorem qL_law_1020 : Dc mL_law 1020 (.if_icmp .eq 410) 3 1023 := ⟨by decide +kernel, rfl⟩
theorem seg_29 {L i : Nat} {xs : Nat → Int32} {σ : St} (hi : i + 6 ≤ L) (hL : L ≤ 3072) (hI : Inv σ σ) : ∃ σ2, Inv σ2 σ2 ∧ EG (E0L L xs) mL_law 2000 (23, lvl (i + 6), [], σ2) 40 (lvl i) [.int (nI 29)] σ := by
  obtain ⟨r, ζ2, e1, e2, i2⟩ := G_most (N := 300000) (Nat.le_refl _)  hI
  refine ⟨ζ2, i2, ?_⟩
  refine g_tswi (off := 972) (tgt := 1012) qL_law_40 (by decide) (by decide) (by decide +kernel) (by decide) ?_
  refine g_aload_n qL_law_1012 rfl ?_
  refine g_cVi0 qL_law_1013 mv_L_147 shq_0 rfl rfl (w_X11_most e1) ?_
  refine g_aload_n qL_law_1016 rfl ?_
  refine g_cVi0 qL_law_1017 mv_L_150 shq_206 rfl rfl (w_X12_most e2) ?_
  exact g_icmp_eq (tgt := 1430) qL_law_1020 (by decide) (fun _ => l_next) (fun z => absurd rfl z)
theorem qL_law_1025 : Dc mL_law 1025 (.aload_n 1) 1 1026 := ⟨by decide +kernel, rfl⟩
theorem qL_law_1026 : Dc mL_law 1026 (.aload_n 0) 1 1027 := ⟨by decide +kernel, rfl⟩
theorem qL_law_1027 : Dc mL_law 1027 (.iload 4) 2 1029 := ⟨by decide +kernel, rfl⟩
theorem qL_law_1029 : Dc mL_law 1029 (.iconst 1) 1 1030 := ⟨by decide +kernel, rfl⟩
theorem qL_law_1030 : Dc mL_law 1030 (.iadd) 1 1031 := ⟨by decide +kernel, rfl⟩
theorem qL_law_1031 : Dc mL_law 1031 (.iaload) 1 1032 := ⟨by decide +kernel, rfl⟩
theorem mv_L_151 : Mv RL 151 mX11_burn 1 10 := ⟨mw_X11_burn, tb_5 17 (by decide +kernel) (by decide +kernel), tb_5 18 (by decide +kernel) (by decide +kernel), tb_5 19 (by decide +kernel) (by decide +kernel), _, _, rfl⟩
theorem qL_law_1032 : Dc mL_law 1032 (.invokevirtual 151) 3 1035 := ⟨by decide +kernel, rfl⟩
theorem qL_law_1035 : Dc mL_law 1035 (.aload_n 2) 1 1036 := ⟨by decide +kernel, rfl⟩
theorem qL_law_1036 : Dc mL_law 1036 (.aload_n 0) 1 1037 := ⟨by decide +kernel, rfl⟩
theorem qL_law_1037 : Dc mL_law 1037 (.iload 4) 2 1039 := ⟨by decide +kernel, rfl⟩
theorem qL_law_1039 : Dc mL_law 1039 (.iconst 1) 1 1040 := ⟨by decide +kernel, rfl⟩
theorem qL_law_1040 : Dc mL_law 1040 (.iadd) 1 1041 := ⟨by decide +kernel, rfl⟩
theorem qL_law_1041 : Dc mL_law 1041 (.iaload) 1 1042 := ⟨by decide +kernel, rfl⟩
theorem mv_L_154 : Mv RL 154 mX12_burn 1 11 := ⟨mw_X12_burn, tb_9 7 (by decide +kernel) (by decide +kernel), tb_9 8 (by decide +kernel) (by decide +kernel), tb_9 9 (by decide +kernel) (by decide +kernel), _, _, rfl⟩
theorem qL_law_1042 : Dc mL_law 1042 (.invokevirtual 154) 3 1045 := ⟨by decide +kernel, rfl⟩
theorem qL_law_1045 : Dc mL_law 1045 (.if_icmp .eq 385) 3 1048 := ⟨by decide +kernel, rfl⟩
theorem seg_30 {L i : Nat} {xs : Nat → Int32} {σ : St} (hi : i + 6 ≤ L) (hL : L ≤ 3072) (hI : Inv σ σ) : ∃ σ2, Inv σ2 σ2 ∧ EG (E0L L xs) mL_law 2000 (23, lvl (i + 6), [], σ2) 40 (lvl i) [.int (nI 30)] σ := by
  obtain ⟨r, ζ2, e1, e2, i2⟩ := G_burn (N := 300000) (Nat.le_refl _) (xs (i + 1)) hI
  refine ⟨ζ2, i2, ?_⟩
  refine g_tswi (off := 985) (tgt := 1025) qL_law_40 (by decide) (by decide) (by decide +kernel) (by decide) ?_
  refine g_aload_n qL_law_1025 rfl ?_
  refine l_arg (kn := 1) qL_law_1026 qL_law_1027 qL_law_1029 qL_law_1030 qL_law_1031 (by decide +kernel) rfl rfl (by omega) hL ?_
  refine g_cVi1 qL_law_1032 mv_L_151 shq_0 rfl rfl (w_X11_burn e1) ?_
  refine g_aload_n qL_law_1035 rfl ?_
  refine l_arg (kn := 1) qL_law_1036 qL_law_1037 qL_law_1039 qL_law_1040 qL_law_1041 (by decide +kernel) rfl rfl (by omega) hL ?_
  refine g_cVi1 qL_law_1042 mv_L_154 shq_206 rfl rfl (w_X12_burn e2) ?_
  exact g_icmp_eq (tgt := 1430) qL_law_1045 (by decide) (fun _ => l_next) (fun z => absurd rfl z)
theorem qL_law_1050 : Dc mL_law 1050 (.aload_n 1) 1 1051 := ⟨by decide +kernel, rfl⟩
theorem qL_law_1051 : Dc mL_law 1051 (.aload_n 0) 1 1052 := ⟨by decide +kernel, rfl⟩
theorem qL_law_1052 : Dc mL_law 1052 (.iload 4) 2 1054 := ⟨by decide +kernel, rfl⟩
theorem qL_law_1054 : Dc mL_law 1054 (.iconst 1) 1 1055 := ⟨by decide +kernel, rfl⟩
theorem qL_law_1055 : Dc mL_law 1055 (.iadd) 1 1056 := ⟨by decide +kernel, rfl⟩
theorem qL_law_1056 : Dc mL_law 1056 (.iaload) 1 1057 := ⟨by decide +kernel, rfl⟩
theorem mv_L_155 : Mv RL 155 mX11_waits 1 10 := ⟨mw_X11_waits, tb_5 30 (by decide +kernel) (by decide +kernel), tb_5 31 (by decide +kernel) (by decide +kernel), tb_5 32 (by decide +kernel) (by decide +kernel), _, _, rfl⟩
theorem qL_law_1057 : Dc mL_law 1057 (.invokevirtual 155) 3 1060 := ⟨by decide +kernel, rfl⟩
theorem qL_law_1060 : Dc mL_law 1060 (.aload_n 2) 1 1061 := ⟨by decide +kernel, rfl⟩
theorem qL_law_1061 : Dc mL_law 1061 (.aload_n 0) 1 1062 := ⟨by decide +kernel, rfl⟩
theorem qL_law_1062 : Dc mL_law 1062 (.iload 4) 2 1064 := ⟨by decide +kernel, rfl⟩
theorem qL_law_1064 : Dc mL_law 1064 (.iconst 1) 1 1065 := ⟨by decide +kernel, rfl⟩
theorem qL_law_1065 : Dc mL_law 1065 (.iadd) 1 1066 := ⟨by decide +kernel, rfl⟩
theorem qL_law_1066 : Dc mL_law 1066 (.iaload) 1 1067 := ⟨by decide +kernel, rfl⟩
theorem mv_L_158 : Mv RL 158 mX12_waits 1 11 := ⟨mw_X12_waits, tb_9 11 (by decide +kernel) (by decide +kernel), tb_9 12 (by decide +kernel) (by decide +kernel), tb_9 13 (by decide +kernel) (by decide +kernel), _, _, rfl⟩
theorem qL_law_1067 : Dc mL_law 1067 (.invokevirtual 158) 3 1070 := ⟨by decide +kernel, rfl⟩
theorem qL_law_1070 : Dc mL_law 1070 (.if_icmp .eq 360) 3 1073 := ⟨by decide +kernel, rfl⟩
theorem seg_31 {L i : Nat} {xs : Nat → Int32} {σ : St} (hi : i + 6 ≤ L) (hL : L ≤ 3072) (hI : Inv σ σ) : ∃ σ2, Inv σ2 σ2 ∧ EG (E0L L xs) mL_law 2000 (23, lvl (i + 6), [], σ2) 40 (lvl i) [.int (nI 31)] σ := by
  obtain ⟨r, ζ1, ζ2, e1, e2, i2⟩ := G_waits (N := 300000) (Nat.le_refl _) (xs (i + 1)) hI
  refine ⟨ζ2, i2, ?_⟩
  refine g_tswi (off := 1010) (tgt := 1050) qL_law_40 (by decide) (by decide) (by decide +kernel) (by decide) ?_
  refine g_aload_n qL_law_1050 rfl ?_
  refine l_arg (kn := 1) qL_law_1051 qL_law_1052 qL_law_1054 qL_law_1055 qL_law_1056 (by decide +kernel) rfl rfl (by omega) hL ?_
  refine g_cVi1 qL_law_1057 mv_L_155 shq_0 rfl rfl (w_X11_waits e1) ?_
  refine g_aload_n qL_law_1060 rfl ?_
  refine l_arg (kn := 1) qL_law_1061 qL_law_1062 qL_law_1064 qL_law_1065 qL_law_1066 (by decide +kernel) rfl rfl (by omega) hL ?_
  refine g_cVi1 qL_law_1067 mv_L_158 shq_206 rfl rfl (w_X12_waits e2) ?_
  exact g_icmp_eq (tgt := 1430) qL_law_1070 (by decide) (fun _ => l_next) (fun z => absurd rfl z)
theorem qL_law_1131 : Dc mL_law 1131 (.aload_n 1) 1 1132 := ⟨by decide +kernel, rfl⟩
theorem qL_law_1132 : Dc mL_law 1132 (.aload_n 0) 1 1133 := ⟨by decide +kernel, rfl⟩
theorem qL_law_1133 : Dc mL_law 1133 (.iload 4) 2 1135 := ⟨by decide +kernel, rfl⟩
theorem qL_law_1135 : Dc mL_law 1135 (.iconst 1) 1 1136 := ⟨by decide +kernel, rfl⟩
theorem qL_law_1136 : Dc mL_law 1136 (.iadd) 1 1137 := ⟨by decide +kernel, rfl⟩
theorem qL_law_1137 : Dc mL_law 1137 (.iaload) 1 1138 := ⟨by decide +kernel, rfl⟩
theorem mv_L_163 : Mv RL 163 mX11_tag 1 10 := ⟨mw_X11_tag, tb_5 36 (by decide +kernel) (by decide +kernel), tb_5 37 (by decide +kernel) (by decide +kernel), tb_5 38 (by decide +kernel) (by decide +kernel), _, _, rfl⟩
theorem qL_law_1138 : Dc mL_law 1138 (.invokevirtual 163) 3 1141 := ⟨by decide +kernel, rfl⟩
theorem qL_law_1141 : Dc mL_law 1141 (.aload_n 2) 1 1142 := ⟨by decide +kernel, rfl⟩
theorem qL_law_1142 : Dc mL_law 1142 (.aload_n 0) 1 1143 := ⟨by decide +kernel, rfl⟩
theorem qL_law_1143 : Dc mL_law 1143 (.iload 4) 2 1145 := ⟨by decide +kernel, rfl⟩
theorem qL_law_1145 : Dc mL_law 1145 (.iconst 1) 1 1146 := ⟨by decide +kernel, rfl⟩
theorem qL_law_1146 : Dc mL_law 1146 (.iadd) 1 1147 := ⟨by decide +kernel, rfl⟩
theorem qL_law_1147 : Dc mL_law 1147 (.iaload) 1 1148 := ⟨by decide +kernel, rfl⟩
theorem mv_L_166 : Mv RL 166 mX12_tag 1 11 := ⟨mw_X12_tag, tb_9 27 (by decide +kernel) (by decide +kernel), tb_9 28 (by decide +kernel) (by decide +kernel), tb_9 29 (by decide +kernel) (by decide +kernel), _, _, rfl⟩
theorem qL_law_1148 : Dc mL_law 1148 (.invokevirtual 166) 3 1151 := ⟨by decide +kernel, rfl⟩
theorem qL_law_1151 : Dc mL_law 1151 (.if_icmp .eq 279) 3 1154 := ⟨by decide +kernel, rfl⟩
theorem seg_33 {L i : Nat} {xs : Nat → Int32} {σ : St} (hi : i + 6 ≤ L) (hL : L ≤ 3072) (hI : Inv σ σ) : ∃ σ2, Inv σ2 σ2 ∧ EG (E0L L xs) mL_law 2000 (23, lvl (i + 6), [], σ2) 40 (lvl i) [.int (nI 33)] σ := by
  obtain ⟨r, ζ1, ζ2, e1, e2, i2⟩ := G_tag (N := 300000) (Nat.le_refl _) (xs (i + 1)) hI
  refine ⟨ζ2, i2, ?_⟩
  refine g_tswi (off := 1091) (tgt := 1131) qL_law_40 (by decide) (by decide) (by decide +kernel) (by decide) ?_
  refine g_aload_n qL_law_1131 rfl ?_
  refine l_arg (kn := 1) qL_law_1132 qL_law_1133 qL_law_1135 qL_law_1136 qL_law_1137 (by decide +kernel) rfl rfl (by omega) hL ?_
  refine g_cVi1 qL_law_1138 mv_L_163 shq_0 rfl rfl (w_X11_tag e1) ?_
  refine g_aload_n qL_law_1141 rfl ?_
  refine l_arg (kn := 1) qL_law_1142 qL_law_1143 qL_law_1145 qL_law_1146 qL_law_1147 (by decide +kernel) rfl rfl (by omega) hL ?_
  refine g_cVi1 qL_law_1148 mv_L_166 shq_206 rfl rfl (w_X12_tag e2) ?_
  exact g_icmp_eq (tgt := 1430) qL_law_1151 (by decide) (fun _ => l_next) (fun z => absurd rfl z)
theorem qL_law_1156 : Dc mL_law 1156 (.aload_n 1) 1 1157 := ⟨by decide +kernel, rfl⟩
theorem qL_law_1157 : Dc mL_law 1157 (.aload_n 0) 1 1158 := ⟨by decide +kernel, rfl⟩
theorem qL_law_1158 : Dc mL_law 1158 (.iload 4) 2 1160 := ⟨by decide +kernel, rfl⟩
theorem qL_law_1160 : Dc mL_law 1160 (.iconst 1) 1 1161 := ⟨by decide +kernel, rfl⟩
theorem qL_law_1161 : Dc mL_law 1161 (.iadd) 1 1162 := ⟨by decide +kernel, rfl⟩
theorem qL_law_1162 : Dc mL_law 1162 (.iaload) 1 1163 := ⟨by decide +kernel, rfl⟩
theorem mv_L_167 : Mv RL 167 mX11_byteAt 1 10 := ⟨mw_X11_byteAt, tb_5 108 (by decide +kernel) (by decide +kernel), tb_5 109 (by decide +kernel) (by decide +kernel), tb_5 110 (by decide +kernel) (by decide +kernel), _, _, rfl⟩
theorem qL_law_1163 : Dc mL_law 1163 (.invokevirtual 167) 3 1166 := ⟨by decide +kernel, rfl⟩
theorem qL_law_1166 : Dc mL_law 1166 (.aload_n 2) 1 1167 := ⟨by decide +kernel, rfl⟩
theorem qL_law_1167 : Dc mL_law 1167 (.aload_n 0) 1 1168 := ⟨by decide +kernel, rfl⟩
theorem qL_law_1168 : Dc mL_law 1168 (.iload 4) 2 1170 := ⟨by decide +kernel, rfl⟩
theorem qL_law_1170 : Dc mL_law 1170 (.iconst 1) 1 1171 := ⟨by decide +kernel, rfl⟩
theorem qL_law_1171 : Dc mL_law 1171 (.iadd) 1 1172 := ⟨by decide +kernel, rfl⟩
theorem qL_law_1172 : Dc mL_law 1172 (.iaload) 1 1173 := ⟨by decide +kernel, rfl⟩
theorem mv_L_170 : Mv RL 170 mX12_byteAt 1 11 := ⟨mw_X12_byteAt, tb_9 50 (by decide +kernel) (by decide +kernel), tb_9 51 (by decide +kernel) (by decide +kernel), tb_9 52 (by decide +kernel) (by decide +kernel), _, _, rfl⟩
theorem qL_law_1173 : Dc mL_law 1173 (.invokevirtual 170) 3 1176 := ⟨by decide +kernel, rfl⟩
theorem qL_law_1176 : Dc mL_law 1176 (.if_icmp .eq 254) 3 1179 := ⟨by decide +kernel, rfl⟩
theorem seg_34 {L i : Nat} {xs : Nat → Int32} {σ : St} (hi : i + 6 ≤ L) (hL : L ≤ 3072) (hI : Inv σ σ) : ∃ σ2, Inv σ2 σ2 ∧ EG (E0L L xs) mL_law 2000 (23, lvl (i + 6), [], σ2) 40 (lvl i) [.int (nI 34)] σ := by
  obtain ⟨r, ζ2, e1, e2, i2⟩ := G_byteAt (xs (i + 1)) hI
  refine ⟨ζ2, i2, ?_⟩
  refine g_tswi (off := 1116) (tgt := 1156) qL_law_40 (by decide) (by decide) (by decide +kernel) (by decide) ?_
  refine g_aload_n qL_law_1156 rfl ?_
  refine l_arg (kn := 1) qL_law_1157 qL_law_1158 qL_law_1160 qL_law_1161 qL_law_1162 (by decide +kernel) rfl rfl (by omega) hL ?_
  refine g_cVi1 qL_law_1163 mv_L_167 shq_0 rfl rfl (w_X11_byteAt e1) ?_
  refine g_aload_n qL_law_1166 rfl ?_
  refine l_arg (kn := 1) qL_law_1167 qL_law_1168 qL_law_1170 qL_law_1171 qL_law_1172 (by decide +kernel) rfl rfl (by omega) hL ?_
  refine g_cVi1 qL_law_1173 mv_L_170 shq_206 rfl rfl (w_X12_byteAt e2) ?_
  exact g_icmp_eq (tgt := 1430) qL_law_1176 (by decide) (fun _ => l_next) (fun z => absurd rfl z)
theorem qL_law_1181 : Dc mL_law 1181 (.aload_n 1) 1 1182 := ⟨by decide +kernel, rfl⟩
theorem qL_law_1182 : Dc mL_law 1182 (.aload_n 0) 1 1183 := ⟨by decide +kernel, rfl⟩
theorem qL_law_1183 : Dc mL_law 1183 (.iload 4) 2 1185 := ⟨by decide +kernel, rfl⟩
theorem qL_law_1185 : Dc mL_law 1185 (.iconst 1) 1 1186 := ⟨by decide +kernel, rfl⟩
theorem qL_law_1186 : Dc mL_law 1186 (.iadd) 1 1187 := ⟨by decide +kernel, rfl⟩
theorem qL_law_1187 : Dc mL_law 1187 (.iaload) 1 1188 := ⟨by decide +kernel, rfl⟩
theorem qL_law_1188 : Dc mL_law 1188 (.aload_n 0) 1 1189 := ⟨by decide +kernel, rfl⟩
theorem qL_law_1189 : Dc mL_law 1189 (.iload 4) 2 1191 := ⟨by decide +kernel, rfl⟩
theorem qL_law_1191 : Dc mL_law 1191 (.iconst 2) 1 1192 := ⟨by decide +kernel, rfl⟩
theorem qL_law_1192 : Dc mL_law 1192 (.iadd) 1 1193 := ⟨by decide +kernel, rfl⟩
theorem qL_law_1193 : Dc mL_law 1193 (.iaload) 1 1194 := ⟨by decide +kernel, rfl⟩
theorem mv_L_171 : Mv RL 171 mX11_drawn 2 10 := ⟨mw_X11_drawn, tb_5 112 (by decide +kernel) (by decide +kernel), tb_5 113 (by decide +kernel) (by decide +kernel), tb_5 114 (by decide +kernel) (by decide +kernel), _, _, rfl⟩
theorem qL_law_1194 : Dc mL_law 1194 (.invokevirtual 171) 3 1197 := ⟨by decide +kernel, rfl⟩
theorem qL_law_1197 : Dc mL_law 1197 (.aload_n 2) 1 1198 := ⟨by decide +kernel, rfl⟩
theorem qL_law_1198 : Dc mL_law 1198 (.aload_n 0) 1 1199 := ⟨by decide +kernel, rfl⟩
theorem qL_law_1199 : Dc mL_law 1199 (.iload 4) 2 1201 := ⟨by decide +kernel, rfl⟩
theorem qL_law_1201 : Dc mL_law 1201 (.iconst 1) 1 1202 := ⟨by decide +kernel, rfl⟩
theorem qL_law_1202 : Dc mL_law 1202 (.iadd) 1 1203 := ⟨by decide +kernel, rfl⟩
theorem qL_law_1203 : Dc mL_law 1203 (.iaload) 1 1204 := ⟨by decide +kernel, rfl⟩
theorem qL_law_1204 : Dc mL_law 1204 (.aload_n 0) 1 1205 := ⟨by decide +kernel, rfl⟩
theorem qL_law_1205 : Dc mL_law 1205 (.iload 4) 2 1207 := ⟨by decide +kernel, rfl⟩
theorem qL_law_1207 : Dc mL_law 1207 (.iconst 2) 1 1208 := ⟨by decide +kernel, rfl⟩
theorem qL_law_1208 : Dc mL_law 1208 (.iadd) 1 1209 := ⟨by decide +kernel, rfl⟩
theorem qL_law_1209 : Dc mL_law 1209 (.iaload) 1 1210 := ⟨by decide +kernel, rfl⟩
theorem mv_L_174 : Mv RL 174 mX12_drawn 2 11 := ⟨mw_X12_drawn, tb_9 54 (by decide +kernel) (by decide +kernel), tb_9 55 (by decide +kernel) (by decide +kernel), tb_9 56 (by decide +kernel) (by decide +kernel), _, _, rfl⟩
theorem qL_law_1210 : Dc mL_law 1210 (.invokevirtual 174) 3 1213 := ⟨by decide +kernel, rfl⟩
theorem qL_law_1213 : Dc mL_law 1213 (.if_icmp .eq 217) 3 1216 := ⟨by decide +kernel, rfl⟩
theorem seg_35 {L i : Nat} {xs : Nat → Int32} {σ : St} (hi : i + 6 ≤ L) (hL : L ≤ 3072) (hI : Inv σ σ) : ∃ σ2, Inv σ2 σ2 ∧ EG (E0L L xs) mL_law 2000 (23, lvl (i + 6), [], σ2) 40 (lvl i) [.int (nI 35)] σ := by
  obtain ⟨r, ζ1, ζ2, e1, e2, i2⟩ := G_drawn (N := 300000) (Nat.le_refl _) (xs (i + 1)) (xs (i + 2)) hI
  refine ⟨ζ2, i2, ?_⟩
  refine g_tswi (off := 1141) (tgt := 1181) qL_law_40 (by decide) (by decide) (by decide +kernel) (by decide) ?_
  refine g_aload_n qL_law_1181 rfl ?_
  refine l_arg (kn := 1) qL_law_1182 qL_law_1183 qL_law_1185 qL_law_1186 qL_law_1187 (by decide +kernel) rfl rfl (by omega) hL ?_
  refine l_arg (kn := 2) qL_law_1188 qL_law_1189 qL_law_1191 qL_law_1192 qL_law_1193 (by decide +kernel) rfl rfl (by omega) hL ?_
  refine g_cVi2 qL_law_1194 mv_L_171 shq_0 rfl rfl (w_X11_drawn e1) ?_
  refine g_aload_n qL_law_1197 rfl ?_
  refine l_arg (kn := 1) qL_law_1198 qL_law_1199 qL_law_1201 qL_law_1202 qL_law_1203 (by decide +kernel) rfl rfl (by omega) hL ?_
  refine l_arg (kn := 2) qL_law_1204 qL_law_1205 qL_law_1207 qL_law_1208 qL_law_1209 (by decide +kernel) rfl rfl (by omega) hL ?_
  refine g_cVi2 qL_law_1210 mv_L_174 shq_206 rfl rfl (w_X12_drawn e2) ?_
  exact g_icmp_eq (tgt := 1430) qL_law_1213 (by decide) (fun _ => l_next) (fun z => absurd rfl z)
theorem qL_law_1218 : Dc mL_law 1218 (.aload_n 1) 1 1219 := ⟨by decide +kernel, rfl⟩
theorem qL_law_1219 : Dc mL_law 1219 (.aload_n 0) 1 1220 := ⟨by decide +kernel, rfl⟩
theorem qL_law_1220 : Dc mL_law 1220 (.iload 4) 2 1222 := ⟨by decide +kernel, rfl⟩
theorem qL_law_1222 : Dc mL_law 1222 (.iconst 1) 1 1223 := ⟨by decide +kernel, rfl⟩
theorem qL_law_1223 : Dc mL_law 1223 (.iadd) 1 1224 := ⟨by decide +kernel, rfl⟩
theorem qL_law_1224 : Dc mL_law 1224 (.iaload) 1 1225 := ⟨by decide +kernel, rfl⟩
theorem qL_law_1225 : Dc mL_law 1225 (.aload_n 0) 1 1226 := ⟨by decide +kernel, rfl⟩
theorem qL_law_1226 : Dc mL_law 1226 (.iload 4) 2 1228 := ⟨by decide +kernel, rfl⟩
theorem qL_law_1228 : Dc mL_law 1228 (.iconst 2) 1 1229 := ⟨by decide +kernel, rfl⟩
theorem qL_law_1229 : Dc mL_law 1229 (.iadd) 1 1230 := ⟨by decide +kernel, rfl⟩
theorem qL_law_1230 : Dc mL_law 1230 (.iaload) 1 1231 := ⟨by decide +kernel, rfl⟩
theorem qL_law_1231 : Dc mL_law 1231 (.aload_n 0) 1 1232 := ⟨by decide +kernel, rfl⟩
theorem qL_law_1232 : Dc mL_law 1232 (.iload 4) 2 1234 := ⟨by decide +kernel, rfl⟩
theorem qL_law_1234 : Dc mL_law 1234 (.iconst 3) 1 1235 := ⟨by decide +kernel, rfl⟩
theorem qL_law_1235 : Dc mL_law 1235 (.iadd) 1 1236 := ⟨by decide +kernel, rfl⟩
theorem qL_law_1236 : Dc mL_law 1236 (.iaload) 1 1237 := ⟨by decide +kernel, rfl⟩
theorem mv_L_175 : Mv RL 175 mX11_odds 3 10 := ⟨mw_X11_odds, tb_5 144 (by decide +kernel) (by decide +kernel), tb_5 145 (by decide +kernel) (by decide +kernel), tb_5 146 (by decide +kernel) (by decide +kernel), _, _, rfl⟩
theorem qL_law_1237 : Dc mL_law 1237 (.invokevirtual 175) 3 1240 := ⟨by decide +kernel, rfl⟩
theorem qL_law_1240 : Dc mL_law 1240 (.aload_n 2) 1 1241 := ⟨by decide +kernel, rfl⟩
theorem qL_law_1241 : Dc mL_law 1241 (.aload_n 0) 1 1242 := ⟨by decide +kernel, rfl⟩
theorem qL_law_1242 : Dc mL_law 1242 (.iload 4) 2 1244 := ⟨by decide +kernel, rfl⟩
theorem qL_law_1244 : Dc mL_law 1244 (.iconst 1) 1 1245 := ⟨by decide +kernel, rfl⟩
theorem qL_law_1245 : Dc mL_law 1245 (.iadd) 1 1246 := ⟨by decide +kernel, rfl⟩
theorem qL_law_1246 : Dc mL_law 1246 (.iaload) 1 1247 := ⟨by decide +kernel, rfl⟩
theorem qL_law_1247 : Dc mL_law 1247 (.aload_n 0) 1 1248 := ⟨by decide +kernel, rfl⟩
theorem qL_law_1248 : Dc mL_law 1248 (.iload 4) 2 1250 := ⟨by decide +kernel, rfl⟩
theorem qL_law_1250 : Dc mL_law 1250 (.iconst 2) 1 1251 := ⟨by decide +kernel, rfl⟩
theorem qL_law_1251 : Dc mL_law 1251 (.iadd) 1 1252 := ⟨by decide +kernel, rfl⟩
theorem qL_law_1252 : Dc mL_law 1252 (.iaload) 1 1253 := ⟨by decide +kernel, rfl⟩
theorem qL_law_1253 : Dc mL_law 1253 (.aload_n 0) 1 1254 := ⟨by decide +kernel, rfl⟩
theorem qL_law_1254 : Dc mL_law 1254 (.iload 4) 2 1256 := ⟨by decide +kernel, rfl⟩
theorem qL_law_1256 : Dc mL_law 1256 (.iconst 3) 1 1257 := ⟨by decide +kernel, rfl⟩
theorem qL_law_1257 : Dc mL_law 1257 (.iadd) 1 1258 := ⟨by decide +kernel, rfl⟩
theorem qL_law_1258 : Dc mL_law 1258 (.iaload) 1 1259 := ⟨by decide +kernel, rfl⟩
theorem mv_L_179 : Mv RL 179 mX12_odds 3 11 := ⟨mw_X12_odds, tb_9 71 (by decide +kernel) (by decide +kernel), tb_9 72 (by decide +kernel) (by decide +kernel), tb_9 73 (by decide +kernel) (by decide +kernel), _, _, rfl⟩
theorem qL_law_1259 : Dc mL_law 1259 (.invokevirtual 179) 3 1262 := ⟨by decide +kernel, rfl⟩
theorem qL_law_1262 : Dc mL_law 1262 (.if_icmp .eq 168) 3 1265 := ⟨by decide +kernel, rfl⟩
theorem seg_36 {L i : Nat} {xs : Nat → Int32} {σ : St} (hi : i + 6 ≤ L) (hL : L ≤ 3072) (hI : Inv σ σ) : ∃ σ2, Inv σ2 σ2 ∧ EG (E0L L xs) mL_law 2000 (23, lvl (i + 6), [], σ2) 40 (lvl i) [.int (nI 36)] σ := by
  obtain ⟨r, ζ1, ζ2, e1, e2, i2⟩ := G_odds (N := 300000) (Nat.le_refl _) (xs (i + 1)) (xs (i + 2)) (xs (i + 3)) hI
  refine ⟨ζ2, i2, ?_⟩
  refine g_tswi (off := 1178) (tgt := 1218) qL_law_40 (by decide) (by decide) (by decide +kernel) (by decide) ?_
  refine g_aload_n qL_law_1218 rfl ?_
  refine l_arg (kn := 1) qL_law_1219 qL_law_1220 qL_law_1222 qL_law_1223 qL_law_1224 (by decide +kernel) rfl rfl (by omega) hL ?_
  refine l_arg (kn := 2) qL_law_1225 qL_law_1226 qL_law_1228 qL_law_1229 qL_law_1230 (by decide +kernel) rfl rfl (by omega) hL ?_
  refine l_arg (kn := 3) qL_law_1231 qL_law_1232 qL_law_1234 qL_law_1235 qL_law_1236 (by decide +kernel) rfl rfl (by omega) hL ?_
  refine g_cVi3 qL_law_1237 mv_L_175 shq_0 rfl rfl (w_X11_odds e1) ?_
  refine g_aload_n qL_law_1240 rfl ?_
  refine l_arg (kn := 1) qL_law_1241 qL_law_1242 qL_law_1244 qL_law_1245 qL_law_1246 (by decide +kernel) rfl rfl (by omega) hL ?_
  refine l_arg (kn := 2) qL_law_1247 qL_law_1248 qL_law_1250 qL_law_1251 qL_law_1252 (by decide +kernel) rfl rfl (by omega) hL ?_
  refine l_arg (kn := 3) qL_law_1253 qL_law_1254 qL_law_1256 qL_law_1257 qL_law_1258 (by decide +kernel) rfl rfl (by omega) hL ?_
  refine g_cVi3 qL_law_1259 mv_L_179 shq_206 rfl rfl (w_X12_odds e2) ?_
  exact g_icmp_eq (tgt := 1430) qL_law_1262 (by decide) (fun _ => l_next) (fun z => absurd rfl z)
theorem qL_law_1267 : Dc mL_law 1267 (.aload_n 1) 1 1268 := ⟨by decide +kernel, rfl⟩
theorem qL_law_1268 : Dc mL_law 1268 (.aload_n 0) 1 1269 := ⟨by decide +kernel, rfl⟩
theorem qL_law_1269 : Dc mL_law 1269 (.iload 4) 2 1271 := ⟨by decide +kernel, rfl⟩
theorem qL_law_1271 : Dc mL_law 1271 (.iconst 1) 1 1272 := ⟨by decide +kernel, rfl⟩
theorem qL_law_1272 : Dc mL_law 1272 (.iadd) 1 1273 := ⟨by decide +kernel, rfl⟩
theorem qL_law_1273 : Dc mL_law 1273 (.iaload) 1 1274 := ⟨by decide +kernel, rfl⟩
theorem mv_L_180 : Mv RL 180 mX11_book 1 10 := ⟨mw_X11_book, tb_5 148 (by decide +kernel) (by decide +kernel), tb_5 149 (by decide +kernel) (by decide +kernel), tb_5 150 (by decide +kernel) (by decide +kernel), _, _, rfl⟩
theorem qL_law_1274 : Dc mL_law 1274 (.invokevirtual 180) 3 1277 := ⟨by decide +kernel, rfl⟩
theorem qL_law_1277 : Dc mL_law 1277 (.aload_n 2) 1 1278 := ⟨by decide +kernel, rfl⟩
theorem qL_law_1278 : Dc mL_law 1278 (.aload_n 0) 1 1279 := ⟨by decide +kernel, rfl⟩
theorem qL_law_1279 : Dc mL_law 1279 (.iload 4) 2 1281 := ⟨by decide +kernel, rfl⟩
theorem qL_law_1281 : Dc mL_law 1281 (.iconst 1) 1 1282 := ⟨by decide +kernel, rfl⟩
theorem qL_law_1282 : Dc mL_law 1282 (.iadd) 1 1283 := ⟨by decide +kernel, rfl⟩
theorem qL_law_1283 : Dc mL_law 1283 (.iaload) 1 1284 := ⟨by decide +kernel, rfl⟩
theorem mv_L_183 : Mv RL 183 mX12_book 1 11 := ⟨mw_X12_book, tb_9 75 (by decide +kernel) (by decide +kernel), tb_9 76 (by decide +kernel) (by decide +kernel), tb_9 77 (by decide +kernel) (by decide +kernel), _, _, rfl⟩
theorem qL_law_1284 : Dc mL_law 1284 (.invokevirtual 183) 3 1287 := ⟨by decide +kernel, rfl⟩
theorem qL_law_1287 : Dc mL_law 1287 (.if_icmp .eq 143) 3 1290 := ⟨by decide +kernel, rfl⟩
theorem seg_37 {L i : Nat} {xs : Nat → Int32} {σ : St} (hi : i + 6 ≤ L) (hL : L ≤ 3072) (hI : Inv σ σ) : ∃ σ2, Inv σ2 σ2 ∧ EG (E0L L xs) mL_law 2000 (23, lvl (i + 6), [], σ2) 40 (lvl i) [.int (nI 37)] σ := by
  obtain ⟨r, ζ1, ζ2, e1, e2, i2⟩ := G_book (N := 300000) (Nat.le_refl _) (xs (i + 1)) hI
  refine ⟨ζ2, i2, ?_⟩
  refine g_tswi (off := 1227) (tgt := 1267) qL_law_40 (by decide) (by decide) (by decide +kernel) (by decide) ?_
  refine g_aload_n qL_law_1267 rfl ?_
  refine l_arg (kn := 1) qL_law_1268 qL_law_1269 qL_law_1271 qL_law_1272 qL_law_1273 (by decide +kernel) rfl rfl (by omega) hL ?_
  refine g_cVi1 qL_law_1274 mv_L_180 shq_0 rfl rfl (w_X11_book e1) ?_
  refine g_aload_n qL_law_1277 rfl ?_
  refine l_arg (kn := 1) qL_law_1278 qL_law_1279 qL_law_1281 qL_law_1282 qL_law_1283 (by decide +kernel) rfl rfl (by omega) hL ?_
  refine g_cVi1 qL_law_1284 mv_L_183 shq_206 rfl rfl (w_X12_book e2) ?_
  exact g_icmp_eq (tgt := 1430) qL_law_1287 (by decide) (fun _ => l_next) (fun z => absurd rfl z)
theorem qL_law_1292 : Dc mL_law 1292 (.aload_n 1) 1 1293 := ⟨by decide +kernel, rfl⟩
theorem qL_law_1293 : Dc mL_law 1293 (.aload_n 0) 1 1294 := ⟨by decide +kernel, rfl⟩
theorem qL_law_1294 : Dc mL_law 1294 (.iload 4) 2 1296 := ⟨by decide +kernel, rfl⟩
theorem qL_law_1296 : Dc mL_law 1296 (.iconst 1) 1 1297 := ⟨by decide +kernel, rfl⟩
theorem qL_law_1297 : Dc mL_law 1297 (.iadd) 1 1298 := ⟨by decide +kernel, rfl⟩
theorem qL_law_1298 : Dc mL_law 1298 (.iaload) 1 1299 := ⟨by decide +kernel, rfl⟩
theorem mv_L_184 : Mv RL 184 mX11_told 1 10 := ⟨mw_X11_told, tb_5 217 (by decide +kernel) (by decide +kernel), tb_5 218 (by decide +kernel) (by decide +kernel), tb_5 219 (by decide +kernel) (by decide +kernel), _, _, rfl⟩
theorem qL_law_1299 : Dc mL_law 1299 (.invokevirtual 184) 3 1302 := ⟨by decide +kernel, rfl⟩
theorem qL_law_1302 : Dc mL_law 1302 (.aload_n 2) 1 1303 := ⟨by decide +kernel, rfl⟩
theorem qL_law_1303 : Dc mL_law 1303 (.aload_n 0) 1 1304 := ⟨by decide +kernel, rfl⟩
theorem qL_law_1304 : Dc mL_law 1304 (.iload 4) 2 1306 := ⟨by decide +kernel, rfl⟩
theorem qL_law_1306 : Dc mL_law 1306 (.iconst 1) 1 1307 := ⟨by decide +kernel, rfl⟩
theorem qL_law_1307 : Dc mL_law 1307 (.iadd) 1 1308 := ⟨by decide +kernel, rfl⟩
theorem qL_law_1308 : Dc mL_law 1308 (.iaload) 1 1309 := ⟨by decide +kernel, rfl⟩
theorem mv_L_187 : Mv RL 187 mX12_told 1 11 := ⟨mw_X12_told, tb_9 87 (by decide +kernel) (by decide +kernel), tb_9 88 (by decide +kernel) (by decide +kernel), tb_9 89 (by decide +kernel) (by decide +kernel), _, _, rfl⟩
theorem qL_law_1309 : Dc mL_law 1309 (.invokevirtual 187) 3 1312 := ⟨by decide +kernel, rfl⟩
theorem qL_law_1312 : Dc mL_law 1312 (.if_icmp .eq 118) 3 1315 := ⟨by decide +kernel, rfl⟩
theorem seg_38 {L i : Nat} {xs : Nat → Int32} {σ : St} (hi : i + 6 ≤ L) (hL : L ≤ 3072) (hI : Inv σ σ) : ∃ σ2, Inv σ2 σ2 ∧ EG (E0L L xs) mL_law 2000 (23, lvl (i + 6), [], σ2) 40 (lvl i) [.int (nI 38)] σ := by
  obtain ⟨r, ζ2, e1, e2, i2⟩ := G_told (xs (i + 1)) hI
  refine ⟨ζ2, i2, ?_⟩
  refine g_tswi (off := 1252) (tgt := 1292) qL_law_40 (by decide) (by decide) (by decide +kernel) (by decide) ?_
  refine g_aload_n qL_law_1292 rfl ?_
  refine l_arg (kn := 1) qL_law_1293 qL_law_1294 qL_law_1296 qL_law_1297 qL_law_1298 (by decide +kernel) rfl rfl (by omega) hL ?_
  refine g_cVi1 qL_law_1299 mv_L_184 shq_0 rfl rfl (w_X11_told e1) ?_
  refine g_aload_n qL_law_1302 rfl ?_
  refine l_arg (kn := 1) qL_law_1303 qL_law_1304 qL_law_1306 qL_law_1307 qL_law_1308 (by decide +kernel) rfl rfl (by omega) hL ?_
  refine g_cVi1 qL_law_1309 mv_L_187 shq_206 rfl rfl (w_X12_told e2) ?_
  exact g_icmp_eq (tgt := 1430) qL_law_1312 (by decide) (fun _ => l_next) (fun z => absurd rfl z)
theorem qL_law_1317 : Dc mL_law 1317 (.aload_n 1) 1 1318 := ⟨by decide +kernel, rfl⟩
theorem mv_L_188 : Mv RL 188 mX11_sentence 0 10 := ⟨mw_X11_sentence, tb_5 221 (by decide +kernel) (by decide +kernel), tb_5 222 (by decide +kernel) (by decide +kernel), tb_5 223 (by decide +kernel) (by decide +kernel), _, _, rfl⟩
theorem qL_law_1318 : Dc mL_law 1318 (.invokevirtual 188) 3 1321 := ⟨by decide +kernel, rfl⟩
theorem qL_law_1321 : Dc mL_law 1321 (.aload_n 2) 1 1322 := ⟨by decide +kernel, rfl⟩
theorem mv_L_191 : Mv RL 191 mX12_sentence 0 11 := ⟨mw_X12_sentence, tb_9 91 (by decide +kernel) (by decide +kernel), tb_9 92 (by decide +kernel) (by decide +kernel), tb_9 93 (by decide +kernel) (by decide +kernel), _, _, rfl⟩
theorem qL_law_1322 : Dc mL_law 1322 (.invokevirtual 191) 3 1325 := ⟨by decide +kernel, rfl⟩
theorem qL_law_1325 : Dc mL_law 1325 (.if_icmp .eq 105) 3 1328 := ⟨by decide +kernel, rfl⟩
theorem seg_39 {L i : Nat} {xs : Nat → Int32} {σ : St} (hi : i + 6 ≤ L) (hL : L ≤ 3072) (hI : Inv σ σ) : ∃ σ2, Inv σ2 σ2 ∧ EG (E0L L xs) mL_law 2000 (23, lvl (i + 6), [], σ2) 40 (lvl i) [.int (nI 39)] σ := by
  obtain ⟨r, ζ1, ζ2, e1, e2, i2⟩ := G_sentence (N := 300000) (Nat.le_refl _)  hI
  refine ⟨ζ2, i2, ?_⟩
  refine g_tswi (off := 1277) (tgt := 1317) qL_law_40 (by decide) (by decide) (by decide +kernel) (by decide) ?_
  refine g_aload_n qL_law_1317 rfl ?_
  refine g_cVi0 qL_law_1318 mv_L_188 shq_0 rfl rfl (w_X11_sentence e1) ?_
  refine g_aload_n qL_law_1321 rfl ?_
  refine g_cVi0 qL_law_1322 mv_L_191 shq_206 rfl rfl (w_X12_sentence e2) ?_
  exact g_icmp_eq (tgt := 1430) qL_law_1325 (by decide) (fun _ => l_next) (fun z => absurd rfl z)
theorem qL_law_1330 : Dc mL_law 1330 (.aload_n 1) 1 1331 := ⟨by decide +kernel, rfl⟩
theorem qL_law_1331 : Dc mL_law 1331 (.aload_n 0) 1 1332 := ⟨by decide +kernel, rfl⟩
theorem qL_law_1332 : Dc mL_law 1332 (.iload 4) 2 1334 := ⟨by decide +kernel, rfl⟩
theorem qL_law_1334 : Dc mL_law 1334 (.iconst 1) 1 1335 := ⟨by decide +kernel, rfl⟩
theorem qL_law_1335 : Dc mL_law 1335 (.iadd) 1 1336 := ⟨by decide +kernel, rfl⟩
theorem qL_law_1336 : Dc mL_law 1336 (.iaload) 1 1337 := ⟨by decide +kernel, rfl⟩
theorem mv_L_192 : Mv RL 192 mX11_said 1 10 := ⟨mw_X11_said, tb_6 60 (by decide +kernel) (by decide +kernel), tb_6 61 (by decide +kernel) (by decide +kernel), tb_6 62 (by decide +kernel) (by decide +kernel), _, _, rfl⟩
theorem qL_law_1337 : Dc mL_law 1337 (.invokevirtual 192) 3 1340 := ⟨by decide +kernel, rfl⟩
theorem qL_law_1340 : Dc mL_law 1340 (.aload_n 2) 1 1341 := ⟨by decide +kernel, rfl⟩
theorem qL_law_1341 : Dc mL_law 1341 (.aload_n 0) 1 1342 := ⟨by decide +kernel, rfl⟩
theorem qL_law_1342 : Dc mL_law 1342 (.iload 4) 2 1344 := ⟨by decide +kernel, rfl⟩
theorem qL_law_1344 : Dc mL_law 1344 (.iconst 1) 1 1345 := ⟨by decide +kernel, rfl⟩
theorem qL_law_1345 : Dc mL_law 1345 (.iadd) 1 1346 := ⟨by decide +kernel, rfl⟩
theorem qL_law_1346 : Dc mL_law 1346 (.iaload) 1 1347 := ⟨by decide +kernel, rfl⟩
theorem mv_L_195 : Mv RL 195 mX12_said 1 11 := ⟨mw_X12_said, tb_9 119 (by decide +kernel) (by decide +kernel), tb_9 120 (by decide +kernel) (by decide +kernel), tb_9 121 (by decide +kernel) (by decide +kernel), _, _, rfl⟩
theorem qL_law_1347 : Dc mL_law 1347 (.invokevirtual 195) 3 1350 := ⟨by decide +kernel, rfl⟩
theorem qL_law_1350 : Dc mL_law 1350 (.if_icmp .eq 80) 3 1353 := ⟨by decide +kernel, rfl⟩
theorem seg_40 {L i : Nat} {xs : Nat → Int32} {σ : St} (hi : i + 6 ≤ L) (hL : L ≤ 3072) (hI : Inv σ σ) : ∃ σ2, Inv σ2 σ2 ∧ EG (E0L L xs) mL_law 2000 (23, lvl (i + 6), [], σ2) 40 (lvl i) [.int (nI 40)] σ := by
  obtain ⟨r, ζ1, ζ2, e1, e2, i2⟩ := G_said (N := 300000) (Nat.le_refl _) (xs (i + 1)) hI
  refine ⟨ζ2, i2, ?_⟩
  refine g_tswi (off := 1290) (tgt := 1330) qL_law_40 (by decide) (by decide) (by decide +kernel) (by decide) ?_
  refine g_aload_n qL_law_1330 rfl ?_
  refine l_arg (kn := 1) qL_law_1331 qL_law_1332 qL_law_1334 qL_law_1335 qL_law_1336 (by decide +kernel) rfl rfl (by omega) hL ?_
  refine g_cVi1 qL_law_1337 mv_L_192 shq_0 rfl rfl (w_X11_said e1) ?_
  refine g_aload_n qL_law_1340 rfl ?_
  refine l_arg (kn := 1) qL_law_1341 qL_law_1342 qL_law_1344 qL_law_1345 qL_law_1346 (by decide +kernel) rfl rfl (by omega) hL ?_
  refine g_cVi1 qL_law_1347 mv_L_195 shq_206 rfl rfl (w_X12_said e2) ?_
  exact g_icmp_eq (tgt := 1430) qL_law_1350 (by decide) (fun _ => l_next) (fun z => absurd rfl z)
theorem qL_law_1355 : Dc mL_law 1355 (.aload_n 1) 1 1356 := ⟨by decide +kernel, rfl⟩
theorem qL_law_1356 : Dc mL_law 1356 (.aload_n 0) 1 1357 := ⟨by decide +kernel, rfl⟩
theorem qL_law_1357 : Dc mL_law 1357 (.iload 4) 2 1359 := ⟨by decide +kernel, rfl⟩
theorem qL_law_1359 : Dc mL_law 1359 (.iconst 1) 1 1360 := ⟨by decide +kernel, rfl⟩
theorem qL_law_1360 : Dc mL_law 1360 (.iadd) 1 1361 := ⟨by decide +kernel, rfl⟩
theorem qL_law_1361 : Dc mL_law 1361 (.iaload) 1 1362 := ⟨by decide +kernel, rfl⟩
theorem mv_L_196 : Mv RL 196 mX11_image 1 10 := ⟨mw_X11_image, tb_6 89 (by decide +kernel) (by decide +kernel), tb_6 90 (by decide +kernel) (by decide +kernel), tb_6 91 (by decide +kernel) (by decide +kernel), _, _, rfl⟩
theorem qL_law_1362 : Dc mL_law 1362 (.invokevirtual 196) 3 1365 := ⟨by decide +kernel, rfl⟩
theorem qL_law_1365 : Dc mL_law 1365 (.aload_n 2) 1 1366 := ⟨by decide +kernel, rfl⟩
theorem qL_law_1366 : Dc mL_law 1366 (.aload_n 0) 1 1367 := ⟨by decide +kernel, rfl⟩
theorem qL_law_1367 : Dc mL_law 1367 (.iload 4) 2 1369 := ⟨by decide +kernel, rfl⟩
theorem qL_law_1369 : Dc mL_law 1369 (.iconst 1) 1 1370 := ⟨by decide +kernel, rfl⟩
theorem qL_law_1370 : Dc mL_law 1370 (.iadd) 1 1371 := ⟨by decide +kernel, rfl⟩
theorem qL_law_1371 : Dc mL_law 1371 (.iaload) 1 1372 := ⟨by decide +kernel, rfl⟩
theorem mv_L_199 : Mv RL 199 mX12_image 1 11 := ⟨mw_X12_image, tb_9 131 (by decide +kernel) (by decide +kernel), tb_9 132 (by decide +kernel) (by decide +kernel), tb_9 133 (by decide +kernel) (by decide +kernel), _, _, rfl⟩
theorem qL_law_1372 : Dc mL_law 1372 (.invokevirtual 199) 3 1375 := ⟨by decide +kernel, rfl⟩
theorem qL_law_1375 : Dc mL_law 1375 (.if_icmp .eq 55) 3 1378 := ⟨by decide +kernel, rfl⟩
theorem seg_41 {L i : Nat} {xs : Nat → Int32} {σ : St} (hi : i + 6 ≤ L) (hL : L ≤ 3072) (hI : Inv σ σ) : ∃ σ2, Inv σ2 σ2 ∧ EG (E0L L xs) mL_law 2000 (23, lvl (i + 6), [], σ2) 40 (lvl i) [.int (nI 41)] σ := by
  obtain ⟨r, ζ1, ζ2, e1, e2, i2⟩ := G_image (N := 300000) (Nat.le_refl _) (xs (i + 1)) hI
  refine ⟨ζ2, i2, ?_⟩
  refine g_tswi (off := 1315) (tgt := 1355) qL_law_40 (by decide) (by decide) (by decide +kernel) (by decide) ?_
  refine g_aload_n qL_law_1355 rfl ?_
  refine l_arg (kn := 1) qL_law_1356 qL_law_1357 qL_law_1359 qL_law_1360 qL_law_1361 (by decide +kernel) rfl rfl (by omega) hL ?_
  refine g_cVi1 qL_law_1362 mv_L_196 shq_0 rfl rfl (w_X11_image e1) ?_
  refine g_aload_n qL_law_1365 rfl ?_
  refine l_arg (kn := 1) qL_law_1366 qL_law_1367 qL_law_1369 qL_law_1370 qL_law_1371 (by decide +kernel) rfl rfl (by omega) hL ?_
  refine g_cVi1 qL_law_1372 mv_L_199 shq_206 rfl rfl (w_X12_image e2) ?_
  exact g_icmp_eq (tgt := 1430) qL_law_1375 (by decide) (fun _ => l_next) (fun z => absurd rfl z)
theorem qL_law_1380 : Dc mL_law 1380 (.aload_n 1) 1 1381 := ⟨by decide +kernel, rfl⟩
theorem qL_law_1381 : Dc mL_law 1381 (.aload_n 0) 1 1382 := ⟨by decide +kernel, rfl⟩
theorem qL_law_1382 : Dc mL_law 1382 (.iload 4) 2 1384 := ⟨by decide +kernel, rfl⟩
theorem qL_law_1384 : Dc mL_law 1384 (.iconst 1) 1 1385 := ⟨by decide +kernel, rfl⟩
theorem qL_law_1385 : Dc mL_law 1385 (.iadd) 1 1386 := ⟨by decide +kernel, rfl⟩
theorem qL_law_1386 : Dc mL_law 1386 (.iaload) 1 1387 := ⟨by decide +kernel, rfl⟩
theorem mv_L_200 : Mv RL 200 mX11_restore 1 10 := ⟨mw_X11_restore, tb_6 93 (by decide +kernel) (by decide +kernel), tb_6 94 (by decide +kernel) (by decide +kernel), tb_6 95 (by decide +kernel) (by decide +kernel), _, _, rfl⟩
theorem qL_law_1387 : Dc mL_law 1387 (.invokevirtual 200) 3 1390 := ⟨by decide +kernel, rfl⟩
theorem qL_law_1390 : Dc mL_law 1390 (.aload_n 2) 1 1391 := ⟨by decide +kernel, rfl⟩
theorem qL_law_1391 : Dc mL_law 1391 (.aload_n 0) 1 1392 := ⟨by decide +kernel, rfl⟩
theorem qL_law_1392 : Dc mL_law 1392 (.iload 4) 2 1394 := ⟨by decide +kernel, rfl⟩
theorem qL_law_1394 : Dc mL_law 1394 (.iconst 1) 1 1395 := ⟨by decide +kernel, rfl⟩
theorem qL_law_1395 : Dc mL_law 1395 (.iadd) 1 1396 := ⟨by decide +kernel, rfl⟩
theorem qL_law_1396 : Dc mL_law 1396 (.iaload) 1 1397 := ⟨by decide +kernel, rfl⟩
theorem mv_L_203 : Mv RL 203 mX12_restore 1 11 := ⟨mw_X12_restore, tb_9 135 (by decide +kernel) (by decide +kernel), tb_9 136 (by decide +kernel) (by decide +kernel), tb_9 137 (by decide +kernel) (by decide +kernel), _, _, rfl⟩
theorem qL_law_1397 : Dc mL_law 1397 (.invokevirtual 203) 3 1400 := ⟨by decide +kernel, rfl⟩
theorem qL_law_1400 : Dc mL_law 1400 (.if_icmp .eq 30) 3 1403 := ⟨by decide +kernel, rfl⟩
theorem seg_42 {L i : Nat} {xs : Nat → Int32} {σ : St} (hi : i + 6 ≤ L) (hL : L ≤ 3072) (hI : Inv σ σ) : ∃ σ2, Inv σ2 σ2 ∧ EG (E0L L xs) mL_law 2000 (23, lvl (i + 6), [], σ2) 40 (lvl i) [.int (nI 42)] σ := by
  obtain ⟨r, ζ1, ζ2, e1, e2, i2⟩ := G_restore (N := 300000) (Nat.le_refl _) (xs (i + 1)) hI
  refine ⟨ζ2, i2, ?_⟩
  refine g_tswi (off := 1340) (tgt := 1380) qL_law_40 (by decide) (by decide) (by decide +kernel) (by decide) ?_
  refine g_aload_n qL_law_1380 rfl ?_
  refine l_arg (kn := 1) qL_law_1381 qL_law_1382 qL_law_1384 qL_law_1385 qL_law_1386 (by decide +kernel) rfl rfl (by omega) hL ?_
  refine g_cVi1 qL_law_1387 mv_L_200 shq_0 rfl rfl (w_X11_restore e1) ?_
  refine g_aload_n qL_law_1390 rfl ?_
  refine l_arg (kn := 1) qL_law_1391 qL_law_1392 qL_law_1394 qL_law_1395 qL_law_1396 (by decide +kernel) rfl rfl (by omega) hL ?_
  refine g_cVi1 qL_law_1397 mv_L_203 shq_206 rfl rfl (w_X12_restore e2) ?_
  exact g_icmp_eq (tgt := 1430) qL_law_1400 (by decide) (fun _ => l_next) (fun z => absurd rfl z)
theorem qL_law_1405 : Dc mL_law 1405 (.aload_n 1) 1 1406 := ⟨by decide +kernel, rfl⟩
theorem qL_law_1406 : Dc mL_law 1406 (.aload_n 0) 1 1407 := ⟨by decide +kernel, rfl⟩
theorem qL_law_1407 : Dc mL_law 1407 (.iload 4) 2 1409 := ⟨by decide +kernel, rfl⟩
theorem qL_law_1409 : Dc mL_law 1409 (.iconst 1) 1 1410 := ⟨by decide +kernel, rfl⟩
theorem qL_law_1410 : Dc mL_law 1410 (.iadd) 1 1411 := ⟨by decide +kernel, rfl⟩
theorem qL_law_1411 : Dc mL_law 1411 (.iaload) 1 1412 := ⟨by decide +kernel, rfl⟩
theorem mv_L_204 : Mv RL 204 mX11_count 1 10 := ⟨mw_X11_count, tb_6 97 (by decide +kernel) (by decide +kernel), tb_6 98 (by decide +kernel) (by decide +kernel), tb_6 99 (by decide +kernel) (by decide +kernel), _, _, rfl⟩
theorem qL_law_1412 : Dc mL_law 1412 (.invokevirtual 204) 3 1415 := ⟨by decide +kernel, rfl⟩
theorem qL_law_1415 : Dc mL_law 1415 (.aload_n 2) 1 1416 := ⟨by decide +kernel, rfl⟩
theorem qL_law_1416 : Dc mL_law 1416 (.aload_n 0) 1 1417 := ⟨by decide +kernel, rfl⟩
theorem qL_law_1417 : Dc mL_law 1417 (.iload 4) 2 1419 := ⟨by decide +kernel, rfl⟩
theorem qL_law_1419 : Dc mL_law 1419 (.iconst 1) 1 1420 := ⟨by decide +kernel, rfl⟩
theorem qL_law_1420 : Dc mL_law 1420 (.iadd) 1 1421 := ⟨by decide +kernel, rfl⟩
theorem qL_law_1421 : Dc mL_law 1421 (.iaload) 1 1422 := ⟨by decide +kernel, rfl⟩
theorem mv_L_207 : Mv RL 207 mX12_count 1 11 := ⟨mw_X12_count, tb_9 139 (by decide +kernel) (by decide +kernel), tb_9 140 (by decide +kernel) (by decide +kernel), tb_9 141 (by decide +kernel) (by decide +kernel), _, _, rfl⟩
theorem qL_law_1422 : Dc mL_law 1422 (.invokevirtual 207) 3 1425 := ⟨by decide +kernel, rfl⟩
theorem qL_law_1425 : Dc mL_law 1425 (.if_icmp .eq 5) 3 1428 := ⟨by decide +kernel, rfl⟩
theorem seg_43 {L i : Nat} {xs : Nat → Int32} {σ : St} (hi : i + 6 ≤ L) (hL : L ≤ 3072) (hI : Inv σ σ) : ∃ σ2, Inv σ2 σ2 ∧ EG (E0L L xs) mL_law 2000 (23, lvl (i + 6), [], σ2) 40 (lvl i) [.int (nI 43)] σ := by
  obtain ⟨r, ζ2, e1, e2, i2⟩ := G_count (xs (i + 1)) hI
  refine ⟨ζ2, i2, ?_⟩
  refine g_tswi (off := 1365) (tgt := 1405) qL_law_40 (by decide) (by decide) (by decide +kernel) (by decide) ?_
  refine g_aload_n qL_law_1405 rfl ?_
  refine l_arg (kn := 1) qL_law_1406 qL_law_1407 qL_law_1409 qL_law_1410 qL_law_1411 (by decide +kernel) rfl rfl (by omega) hL ?_
  refine g_cVi1 qL_law_1412 mv_L_204 shq_0 rfl rfl (w_X11_count e1) ?_
  refine g_aload_n qL_law_1415 rfl ?_
  refine l_arg (kn := 1) qL_law_1416 qL_law_1417 qL_law_1419 qL_law_1420 qL_law_1421 (by decide +kernel) rfl rfl (by omega) hL ?_
  refine g_cVi1 qL_law_1422 mv_L_207 shq_206 rfl rfl (w_X12_count e2) ?_
  exact g_icmp_eq (tgt := 1430) qL_law_1425 (by decide) (fun _ => l_next) (fun z => absurd rfl z)
theorem seg_d {L i j : Nat} {xs : Nat → Int32} {σ : St} (h1 : 44 ≤ j) (h2 : j < 64) (hI : Inv σ σ) : ∃ σ2, Inv σ2 σ2 ∧ EG (E0L L xs) mL_law 2000 (23, lvl (i + 6), [], σ2) 40 (lvl i) [.int (nI j)] σ :=
  ⟨σ, hI, g_tswo (tgt := 1430) qL_law_40 (Or.inr (by rw [nI_toInt (by omega)]; omega)) (by decide) l_next⟩
theorem seg_all {L i : Nat} {xs : Nat → Int32} {σ : St} (hi : i + 6 ≤ L) (hL : L ≤ 3072) (hI : Inv σ σ) : ∀ j, j < 64 → j ≠ 4 → j ≠ 32 → ∃ σ2, Inv σ2 σ2 ∧ EG (E0L L xs) mL_law 2000 (23, lvl (i + 6), [], σ2) 40 (lvl i) [.int (nI j)] σ := by
  intro j hj h4 h32
  by_cases q : 44 ≤ j
  · exact seg_d q hj hI
  by_cases q0 : j = 0
  · subst q0
    exact seg_0 hi hL hI
  by_cases q1 : j = 1
  · subst q1
    exact seg_1 hi hL hI
  by_cases q2 : j = 2
  · subst q2
    exact seg_2 hi hL hI
  by_cases q3 : j = 3
  · subst q3
    exact seg_3 hi hL hI
  by_cases q4 : j = 4
  · subst q4
    exact absurd rfl h4
  by_cases q5 : j = 5
  · subst q5
    exact seg_5 hi hL hI
  by_cases q6 : j = 6
  · subst q6
    exact seg_6 hi hL hI
  by_cases q7 : j = 7
  · subst q7
    exact seg_7 hi hL hI
  by_cases q8 : j = 8
  · subst q8
    exact seg_8 hi hL hI
  by_cases q9 : j = 9
  · subst q9
    exact seg_9 hi hL hI
  by_cases q10 : j = 10
  · subst q10
    exact seg_10 hi hL hI
  by_cases q11 : j = 11
  · subst q11
    exact seg_11 hi hL hI
  by_cases q12 : j = 12
  · subst q12
    exact seg_12 hi hL hI
  by_cases q13 : j = 13
  · subst q13
    exact seg_13 hi hL hI
  by_cases q14 : j = 14
  · subst q14
    exact seg_14 hi hL hI
  by_cases q15 : j = 15
  · subst q15
    exact seg_15 hi hL hI
  by_cases q16 : j = 16
  · subst q16
    exact seg_16 hi hL hI
  by_cases q17 : j = 17
  · subst q17
    exact seg_17 hi hL hI
  by_cases q18 : j = 18
  · subst q18
    exact seg_18 hi hL hI
  by_cases q19 : j = 19
  · subst q19
    exact seg_19 hi hL hI
  by_cases q20 : j = 20
  · subst q20
    exact seg_20 hi hL hI
  by_cases q21 : j = 21
  · subst q21
    exact seg_21 hi hL hI
  by_cases q22 : j = 22
  · subst q22
    exact seg_22 hi hL hI
  by_cases q23 : j = 23
  · subst q23
    exact seg_23 hi hL hI
  by_cases q24 : j = 24
  · subst q24
    exact seg_24 hi hL hI
  by_cases q25 : j = 25
  · subst q25
    exact seg_25 hi hL hI
  by_cases q26 : j = 26
  · subst q26
    exact seg_26 hi hL hI
  by_cases q27 : j = 27
  · subst q27
    exact seg_27 hi hL hI
  by_cases q28 : j = 28
  · subst q28
    exact seg_28 hi hL hI
  by_cases q29 : j = 29
  · subst q29
    exact seg_29 hi hL hI
  by_cases q30 : j = 30
  · subst q30
    exact seg_30 hi hL hI
  by_cases q31 : j = 31
  · subst q31
    exact seg_31 hi hL hI
  by_cases q32 : j = 32
  · subst q32
    exact absurd rfl h32
  by_cases q33 : j = 33
  · subst q33
    exact seg_33 hi hL hI
  by_cases q34 : j = 34
  · subst q34
    exact seg_34 hi hL hI
  by_cases q35 : j = 35
  · subst q35
    exact seg_35 hi hL hI
  by_cases q36 : j = 36
  · subst q36
    exact seg_36 hi hL hI
  by_cases q37 : j = 37
  · subst q37
    exact seg_37 hi hL hI
  by_cases q38 : j = 38
  · subst q38
    exact seg_38 hi hL hI
  by_cases q39 : j = 39
  · subst q39
    exact seg_39 hi hL hI
  by_cases q40 : j = 40
  · subst q40
    exact seg_40 hi hL hI
  by_cases q41 : j = 41
  · subst q41
    exact seg_41 hi hL hI
  by_cases q42 : j = 42
  · subst q42
    exact seg_42 hi hL hI
  by_cases q43 : j = 43
  · subst q43
    exact seg_43 hi hL hI
  exfalso
  omega
theorem lg_cmp_rf (x : Int64) : lg_cmp x x = 0 := by
  unfold lg_cmp
  simp
theorem qL_law_356 : Dc mL_law 356 (.aload_n 1) 1 357 := ⟨by decide +kernel, rfl⟩
theorem qL_law_357 : Dc mL_law 357 (.aload_n 0) 1 358 := ⟨by decide +kernel, rfl⟩
theorem qL_law_358 : Dc mL_law 358 (.iload 4) 2 360 := ⟨by decide +kernel, rfl⟩
theorem qL_law_360 : Dc mL_law 360 (.iconst 1) 1 361 := ⟨by decide +kernel, rfl⟩
theorem qL_law_361 : Dc mL_law 361 (.iadd) 1 362 := ⟨by decide +kernel, rfl⟩
theorem qL_law_362 : Dc mL_law 362 (.iaload) 1 363 := ⟨by decide +kernel, rfl⟩
theorem qL_law_363 : Dc mL_law 363 (.aload_n 0) 1 364 := ⟨by decide +kernel, rfl⟩
theorem qL_law_364 : Dc mL_law 364 (.iload 4) 2 366 := ⟨by decide +kernel, rfl⟩
theorem qL_law_366 : Dc mL_law 366 (.iconst 2) 1 367 := ⟨by decide +kernel, rfl⟩
theorem qL_law_367 : Dc mL_law 367 (.iadd) 1 368 := ⟨by decide +kernel, rfl⟩
theorem qL_law_368 : Dc mL_law 368 (.iaload) 1 369 := ⟨by decide +kernel, rfl⟩
theorem qL_law_369 : Dc mL_law 369 (.aload_n 3) 1 370 := ⟨by decide +kernel, rfl⟩
theorem sA_light {L i : Nat} {xs : Nat → Int32} {σ : St} (hi : i + 6 ≤ L) (hL : L ≤ 3072) : EG (E0L L xs) mL_law 2000 (370, lvl i, [.ref 225, .int (xs (i + 2)), .int (xs (i + 1)), .ref 0], σ) 40 (lvl i) [.int (nI 4)] σ := by
  refine g_tswi (off := 316) (tgt := 356) qL_law_40 (by decide) (by decide) (by decide +kernel) (by decide) ?_
  refine g_aload_n qL_law_356 rfl ?_
  refine l_arg (kn := 1) qL_law_357 qL_law_358 qL_law_360 qL_law_361 qL_law_362 (by decide +kernel) rfl rfl (by omega) hL ?_
  refine l_arg (kn := 2) qL_law_363 qL_law_364 qL_law_366 qL_law_367 qL_law_368 (by decide +kernel) rfl rfl (by omega) hL ?_
  refine g_aload_n qL_law_369 rfl ?_
  exact g_end rfl
theorem qL_law_370 : Dc mL_law 370 (.invokestatic 42) 3 373 := ⟨by decide +kernel, rfl⟩
theorem qL_law_373 : Dc mL_law 373 (.istore 5) 2 375 := ⟨by decide +kernel, rfl⟩
theorem qL_law_375 : Dc mL_law 375 (.aload_n 2) 1 376 := ⟨by decide +kernel, rfl⟩
theorem qL_law_376 : Dc mL_law 376 (.aload_n 0) 1 377 := ⟨by decide +kernel, rfl⟩
theorem qL_law_377 : Dc mL_law 377 (.iload 4) 2 379 := ⟨by decide +kernel, rfl⟩
theorem qL_law_379 : Dc mL_law 379 (.iconst 1) 1 380 := ⟨by decide +kernel, rfl⟩
theorem qL_law_380 : Dc mL_law 380 (.iadd) 1 381 := ⟨by decide +kernel, rfl⟩
theorem qL_law_381 : Dc mL_law 381 (.iaload) 1 382 := ⟨by decide +kernel, rfl⟩
theorem qL_law_382 : Dc mL_law 382 (.aload_n 0) 1 383 := ⟨by decide +kernel, rfl⟩
theorem qL_law_383 : Dc mL_law 383 (.iload 4) 2 385 := ⟨by decide +kernel, rfl⟩
theorem qL_law_385 : Dc mL_law 385 (.iconst 2) 1 386 := ⟨by decide +kernel, rfl⟩
theorem qL_law_386 : Dc mL_law 386 (.iadd) 1 387 := ⟨by decide +kernel, rfl⟩
theorem qL_law_387 : Dc mL_law 387 (.iaload) 1 388 := ⟨by decide +kernel, rfl⟩
theorem mv_L_47 : Mv RL 47 mX12_light 2 11 := ⟨mw_X12_light, tb_8 13 (by decide +kernel) (by decide +kernel), tb_8 14 (by decide +kernel) (by decide +kernel), tb_8 15 (by decide +kernel) (by decide +kernel), _, _, rfl⟩
theorem qL_law_388 : Dc mL_law 388 (.invokevirtual 47) 3 391 := ⟨by decide +kernel, rfl⟩
theorem qL_law_391 : Dc mL_law 391 (.istore 6) 2 393 := ⟨by decide +kernel, rfl⟩
theorem qL_law_393 : Dc mL_law 393 (.aload_n 2) 1 394 := ⟨by decide +kernel, rfl⟩
theorem mv_L_48 : Mv RL 48 mX12_thrown 0 11 := ⟨mw_X12_thrown, tb_6 179 (by decide +kernel) (by decide +kernel), tb_6 180 (by decide +kernel) (by decide +kernel), tb_6 181 (by decide +kernel) (by decide +kernel), _, _, rfl⟩
theorem qL_law_394 : Dc mL_law 394 (.invokevirtual 48) 3 397 := ⟨by decide +kernel, rfl⟩
theorem qL_law_397 : Dc mL_law 397 (.iload 5) 2 399 := ⟨by decide +kernel, rfl⟩
theorem qL_law_399 : Dc mL_law 399 (.if_icmp .eq 5) 3 402 := ⟨by decide +kernel, rfl⟩
theorem qL_law_404 : Dc mL_law 404 (.iload 5) 2 406 := ⟨by decide +kernel, rfl⟩
theorem qL_law_406 : Dc mL_law 406 (.ifCond .ne 15) 3 409 := ⟨by decide +kernel, rfl⟩
theorem qL_law_409 : Dc mL_law 409 (.aload_n 3) 1 410 := ⟨by decide +kernel, rfl⟩
theorem qL_law_410 : Dc mL_law 410 (.iconst 0) 1 411 := ⟨by decide +kernel, rfl⟩
theorem qL_law_411 : Dc mL_law 411 (.laload) 1 412 := ⟨by decide +kernel, rfl⟩
theorem qL_law_412 : Dc mL_law 412 (.iload 6) 2 414 := ⟨by decide +kernel, rfl⟩
theorem qL_law_414 : Dc mL_law 414 (.i2l) 1 415 := ⟨by decide +kernel, rfl⟩
theorem qL_law_415 : Dc mL_law 415 (.lcmp) 1 416 := ⟨by decide +kernel, rfl⟩
theorem qL_law_416 : Dc mL_law 416 (.ifCond .eq 5) 3 419 := ⟨by decide +kernel, rfl⟩
theorem qL_law_421 : Dc mL_law 421 (.goto 1009) 3 424 := ⟨by decide +kernel, rfl⟩
theorem sB_light0 {L i N : Nat} {xs : Nat → Int32} {ζ1 ζ2 : St} {rm : Int32} (hi : i + 6 ≤ L) (hL : L ≤ 3072) (e2 : f_X12_light N (xs (i + 1)) (xs (i + 2)) ζ1 = some (rm, ζ2)) (ht : f_X12_thrown ζ2 = some (nI 0)) (ho : ζ2.2 225 0 = rm.toInt64) : EG (E0L L xs) mL_law 2000 (23, lvl (i + 6), [], ζ2) 373 (lvl i) [.int (nI 0)] ζ1 := by
  refine g_istore (lv2 := [some (.ref 3000), some (.ref 0), some (.ref 206), some (.ref 225), some (.int (nI i)), some (.int (nI 0)), none]) qL_law_373 rfl rfl rfl ?_
  refine g_aload_n qL_law_375 rfl ?_
  refine l_arg (kn := 1) qL_law_376 qL_law_377 qL_law_379 qL_law_380 qL_law_381 (by decide +kernel) rfl rfl (by omega) hL ?_
  refine l_arg (kn := 2) qL_law_382 qL_law_383 qL_law_385 qL_law_386 qL_law_387 (by decide +kernel) rfl rfl (by omega) hL ?_
  refine g_cVi2 qL_law_388 mv_L_47 shq_206 rfl rfl (w_X12_light e2) ?_
  refine g_istore (lv2 := [some (.ref 3000), some (.ref 0), some (.ref 206), some (.ref 225), some (.int (nI i)), some (.int (nI 0)), some (.int rm)]) qL_law_391 rfl rfl rfl ?_
  refine g_aload_n qL_law_393 rfl ?_
  refine g_cVi0 qL_law_394 mv_L_48 shq_206 rfl rfl (w_X12_thrown (show f_X12_thrown ζ2 = some (nI 0) from ht)) ?_
  refine g_iload qL_law_397 rfl ?_
  refine g_icmp_eq (tgt := 404) qL_law_399 (by decide) (fun _ => ?_) (fun z => absurd rfl z)
  refine g_iload qL_law_404 rfl ?_
  refine g_if_ne (tgt := 421) qL_law_406 (by decide) (fun _ => ?_) (fun z => absurd (by decide) z)
  refine g_aload_n qL_law_409 rfl ?_
  refine g_iconst (nI 0) qL_law_410 (by decide +kernel) ?_
  refine g_lald qL_law_411 shq_225 (by rw [lnq_225]; decide) ?_
  refine g_iload qL_law_412 rfl ?_
  refine g_i2l qL_law_414 ?_
  refine g_lcmp qL_law_415 ?_
  rw [show ζ2.2 225 (nI 0).toNatClampNeg = rm.toInt64 from ho, lg_cmp_rf]
  refine g_if_eq (tgt := 421) qL_law_416 (by decide) (fun _ => ?_) (fun z => absurd rfl z)
  refine g_goto (tgt := 1430) qL_law_421 (by decide) ?_
  exact l_next
theorem sB_light1 {L i N : Nat} {xs : Nat → Int32} {ζ1 ζ2 : St} {rm : Int32} (hi : i + 6 ≤ L) (hL : L ≤ 3072) (e2 : f_X12_light N (xs (i + 1)) (xs (i + 2)) ζ1 = some (rm, ζ2)) (ht : f_X12_thrown ζ2 = some (nI 1)) : EG (E0L L xs) mL_law 2000 (23, lvl (i + 6), [], ζ2) 373 (lvl i) [.int (nI 1)] ζ1 := by
  refine g_istore (lv2 := [some (.ref 3000), some (.ref 0), some (.ref 206), some (.ref 225), some (.int (nI i)), some (.int (nI 1)), none]) qL_law_373 rfl rfl rfl ?_
  refine g_aload_n qL_law_375 rfl ?_
  refine l_arg (kn := 1) qL_law_376 qL_law_377 qL_law_379 qL_law_380 qL_law_381 (by decide +kernel) rfl rfl (by omega) hL ?_
  refine l_arg (kn := 2) qL_law_382 qL_law_383 qL_law_385 qL_law_386 qL_law_387 (by decide +kernel) rfl rfl (by omega) hL ?_
  refine g_cVi2 qL_law_388 mv_L_47 shq_206 rfl rfl (w_X12_light e2) ?_
  refine g_istore (lv2 := [some (.ref 3000), some (.ref 0), some (.ref 206), some (.ref 225), some (.int (nI i)), some (.int (nI 1)), some (.int rm)]) qL_law_391 rfl rfl rfl ?_
  refine g_aload_n qL_law_393 rfl ?_
  refine g_cVi0 qL_law_394 mv_L_48 shq_206 rfl rfl (w_X12_thrown (show f_X12_thrown ζ2 = some (nI 1) from ht)) ?_
  refine g_iload qL_law_397 rfl ?_
  refine g_icmp_eq (tgt := 404) qL_law_399 (by decide) (fun _ => ?_) (fun z => absurd rfl z)
  refine g_iload qL_law_404 rfl ?_
  refine g_if_ne (tgt := 421) qL_law_406 (by decide) (fun z => absurd z (by decide)) (fun _ => ?_)
  refine g_goto (tgt := 1430) qL_law_421 (by decide) ?_
  exact l_next
theorem qL_law_1075 : Dc mL_law 1075 (.aload_n 1) 1 1076 := ⟨by decide +kernel, rfl⟩
theorem qL_law_1076 : Dc mL_law 1076 (.aload_n 0) 1 1077 := ⟨by decide +kernel, rfl⟩
theorem qL_law_1077 : Dc mL_law 1077 (.iload 4) 2 1079 := ⟨by decide +kernel, rfl⟩
theorem qL_law_1079 : Dc mL_law 1079 (.iconst 1) 1 1080 := ⟨by decide +kernel, rfl⟩
theorem qL_law_1080 : Dc mL_law 1080 (.iadd) 1 1081 := ⟨by decide +kernel, rfl⟩
theorem qL_law_1081 : Dc mL_law 1081 (.iaload) 1 1082 := ⟨by decide +kernel, rfl⟩
theorem qL_law_1082 : Dc mL_law 1082 (.aload_n 3) 1 1083 := ⟨by decide +kernel, rfl⟩
theorem sA_mean {L i : Nat} {xs : Nat → Int32} {σ : St} (hi : i + 6 ≤ L) (hL : L ≤ 3072) : EG (E0L L xs) mL_law 2000 (1083, lvl i, [.ref 225, .int (xs (i + 1)), .ref 0], σ) 40 (lvl i) [.int (nI 32)] σ := by
  refine g_tswi (off := 1035) (tgt := 1075) qL_law_40 (by decide) (by decide) (by decide +kernel) (by decide) ?_
  refine g_aload_n qL_law_1075 rfl ?_
  refine l_arg (kn := 1) qL_law_1076 qL_law_1077 qL_law_1079 qL_law_1080 qL_law_1081 (by decide +kernel) rfl rfl (by omega) hL ?_
  refine g_aload_n qL_law_1082 rfl ?_
  exact g_end rfl
theorem qL_law_1083 : Dc mL_law 1083 (.invokestatic 159) 3 1086 := ⟨by decide +kernel, rfl⟩
theorem qL_law_1086 : Dc mL_law 1086 (.istore 5) 2 1088 := ⟨by decide +kernel, rfl⟩
theorem qL_law_1088 : Dc mL_law 1088 (.aload_n 2) 1 1089 := ⟨by decide +kernel, rfl⟩
theorem qL_law_1089 : Dc mL_law 1089 (.aload_n 0) 1 1090 := ⟨by decide +kernel, rfl⟩
theorem qL_law_1090 : Dc mL_law 1090 (.iload 4) 2 1092 := ⟨by decide +kernel, rfl⟩
theorem qL_law_1092 : Dc mL_law 1092 (.iconst 1) 1 1093 := ⟨by decide +kernel, rfl⟩
theorem qL_law_1093 : Dc mL_law 1093 (.iadd) 1 1094 := ⟨by decide +kernel, rfl⟩
theorem qL_law_1094 : Dc mL_law 1094 (.iaload) 1 1095 := ⟨by decide +kernel, rfl⟩
theorem mv_L_162 : Mv RL 162 mX12_mean 1 11 := ⟨mw_X12_mean, tb_9 23 (by decide +kernel) (by decide +kernel), tb_9 24 (by decide +kernel) (by decide +kernel), tb_9 25 (by decide +kernel) (by decide +kernel), _, _, rfl⟩
theorem qL_law_1095 : Dc mL_law 1095 (.invokevirtual 162) 3 1098 := ⟨by decide +kernel, rfl⟩
theorem qL_law_1098 : Dc mL_law 1098 (.istore 6) 2 1100 := ⟨by decide +kernel, rfl⟩
theorem qL_law_1100 : Dc mL_law 1100 (.aload_n 2) 1 1101 := ⟨by decide +kernel, rfl⟩
theorem qL_law_1101 : Dc mL_law 1101 (.invokevirtual 48) 3 1104 := ⟨by decide +kernel, rfl⟩
theorem qL_law_1104 : Dc mL_law 1104 (.iload 5) 2 1106 := ⟨by decide +kernel, rfl⟩
theorem qL_law_1106 : Dc mL_law 1106 (.if_icmp .eq 5) 3 1109 := ⟨by decide +kernel, rfl⟩
theorem qL_law_1111 : Dc mL_law 1111 (.iload 5) 2 1113 := ⟨by decide +kernel, rfl⟩
theorem qL_law_1113 : Dc mL_law 1113 (.ifCond .ne 15) 3 1116 := ⟨by decide +kernel, rfl⟩
theorem qL_law_1116 : Dc mL_law 1116 (.aload_n 3) 1 1117 := ⟨by decide +kernel, rfl⟩
theorem qL_law_1117 : Dc mL_law 1117 (.iconst 0) 1 1118 := ⟨by decide +kernel, rfl⟩
theorem qL_law_1118 : Dc mL_law 1118 (.laload) 1 1119 := ⟨by decide +kernel, rfl⟩
theorem qL_law_1119 : Dc mL_law 1119 (.iload 6) 2 1121 := ⟨by decide +kernel, rfl⟩
theorem qL_law_1121 : Dc mL_law 1121 (.i2l) 1 1122 := ⟨by decide +kernel, rfl⟩
theorem qL_law_1122 : Dc mL_law 1122 (.lcmp) 1 1123 := ⟨by decide +kernel, rfl⟩
theorem qL_law_1123 : Dc mL_law 1123 (.ifCond .eq 5) 3 1126 := ⟨by decide +kernel, rfl⟩
theorem qL_law_1128 : Dc mL_law 1128 (.goto 302) 3 1131 := ⟨by decide +kernel, rfl⟩
theorem sB_mean0 {L i N : Nat} {xs : Nat → Int32} {ζ1 ζ2 : St} {rm : Int32} (hi : i + 6 ≤ L) (hL : L ≤ 3072) (e2 : f_X12_mean N (xs (i + 1)) ζ1 = some (rm, ζ2)) (ht : f_X12_thrown ζ2 = some (nI 0)) (ho : ζ2.2 225 0 = rm.toInt64) : EG (E0L L xs) mL_law 2000 (23, lvl (i + 6), [], ζ2) 1086 (lvl i) [.int (nI 0)] ζ1 := by
  refine g_istore (lv2 := [some (.ref 3000), some (.ref 0), some (.ref 206), some (.ref 225), some (.int (nI i)), some (.int (nI 0)), none]) qL_law_1086 rfl rfl rfl ?_
  refine g_aload_n qL_law_1088 rfl ?_
  refine l_arg (kn := 1) qL_law_1089 qL_law_1090 qL_law_1092 qL_law_1093 qL_law_1094 (by decide +kernel) rfl rfl (by omega) hL ?_
  refine g_cVi1 qL_law_1095 mv_L_162 shq_206 rfl rfl (w_X12_mean e2) ?_
  refine g_istore (lv2 := [some (.ref 3000), some (.ref 0), some (.ref 206), some (.ref 225), some (.int (nI i)), some (.int (nI 0)), some (.int rm)]) qL_law_1098 rfl rfl rfl ?_
  refine g_aload_n qL_law_1100 rfl ?_
  refine g_cVi0 qL_law_1101 mv_L_48 shq_206 rfl rfl (w_X12_thrown (show f_X12_thrown ζ2 = some (nI 0) from ht)) ?_
  refine g_iload qL_law_1104 rfl ?_
  refine g_icmp_eq (tgt := 1111) qL_law_1106 (by decide) (fun _ => ?_) (fun z => absurd rfl z)
  refine g_iload qL_law_1111 rfl ?_
  refine g_if_ne (tgt := 1128) qL_law_1113 (by decide) (fun _ => ?_) (fun z => absurd (by decide) z)
  refine g_aload_n qL_law_1116 rfl ?_
  refine g_iconst (nI 0) qL_law_1117 (by decide +kernel) ?_
  refine g_lald qL_law_1118 shq_225 (by rw [lnq_225]; decide) ?_
  refine g_iload qL_law_1119 rfl ?_
  refine g_i2l qL_law_1121 ?_
  refine g_lcmp qL_law_1122 ?_
  rw [show ζ2.2 225 (nI 0).toNatClampNeg = rm.toInt64 from ho, lg_cmp_rf]
  refine g_if_eq (tgt := 1128) qL_law_1123 (by decide) (fun _ => ?_) (fun z => absurd rfl z)
  refine g_goto (tgt := 1430) qL_law_1128 (by decide) ?_
  exact l_next
theorem sB_mean1 {L i N : Nat} {xs : Nat → Int32} {ζ1 ζ2 : St} {rm : Int32} (hi : i + 6 ≤ L) (hL : L ≤ 3072) (e2 : f_X12_mean N (xs (i + 1)) ζ1 = some (rm, ζ2)) (ht : f_X12_thrown ζ2 = some (nI 1)) : EG (E0L L xs) mL_law 2000 (23, lvl (i + 6), [], ζ2) 1086 (lvl i) [.int (nI 1)] ζ1 := by
  refine g_istore (lv2 := [some (.ref 3000), some (.ref 0), some (.ref 206), some (.ref 225), some (.int (nI i)), some (.int (nI 1)), none]) qL_law_1086 rfl rfl rfl ?_
  refine g_aload_n qL_law_1088 rfl ?_
  refine l_arg (kn := 1) qL_law_1089 qL_law_1090 qL_law_1092 qL_law_1093 qL_law_1094 (by decide +kernel) rfl rfl (by omega) hL ?_
  refine g_cVi1 qL_law_1095 mv_L_162 shq_206 rfl rfl (w_X12_mean e2) ?_
  refine g_istore (lv2 := [some (.ref 3000), some (.ref 0), some (.ref 206), some (.ref 225), some (.int (nI i)), some (.int (nI 1)), some (.int rm)]) qL_law_1098 rfl rfl rfl ?_
  refine g_aload_n qL_law_1100 rfl ?_
  refine g_cVi0 qL_law_1101 mv_L_48 shq_206 rfl rfl (w_X12_thrown (show f_X12_thrown ζ2 = some (nI 1) from ht)) ?_
  refine g_iload qL_law_1104 rfl ?_
  refine g_icmp_eq (tgt := 1111) qL_law_1106 (by decide) (fun _ => ?_) (fun z => absurd rfl z)
  refine g_iload qL_law_1111 rfl ?_
  refine g_if_ne (tgt := 1128) qL_law_1113 (by decide) (fun z => absurd z (by decide)) (fun _ => ?_)
  refine g_goto (tgt := 1430) qL_law_1128 (by decide) ?_
  exact l_next
