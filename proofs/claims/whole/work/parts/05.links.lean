theorem mw_sig {d : String} {n : Nat} (h : (parseMethodDescriptor d).map (fun q => q.parameters.length) = some n) : ∀ sig, parseMethodDescriptor d = some sig → n = sig.parameters.length := by
  intro sig e
  rw [e] at h
  exact (Option.some.inj h).symm
theorem cws_0 : ∀ w ∈ u_ws RX0 TX0 6, w ∈ tb := List.forall_mem_cons.mpr ⟨tb_2 93 (by decide +kernel) (by decide +kernel), List.forall_mem_cons.mpr ⟨tb_2 95 (by decide +kernel) (by decide +kernel), List.forall_mem_cons.mpr ⟨tb_2 97 (by decide +kernel) (by decide +kernel), List.forall_mem_cons.mpr ⟨tb_2 99 (by decide +kernel) (by decide +kernel), List.forall_mem_cons.mpr ⟨tb_2 101 (by decide +kernel) (by decide +kernel), List.forall_mem_cons.mpr ⟨tb_2 103 (by decide +kernel) (by decide +kernel), fun _ h => absurd h List.not_mem_nil⟩⟩⟩⟩⟩⟩
theorem cws_1 : ∀ w ∈ u_ws RX1 TX1 7, w ∈ tb := List.forall_mem_cons.mpr ⟨tb_1 232 (by decide +kernel) (by decide +kernel), List.forall_mem_cons.mpr ⟨tb_1 234 (by decide +kernel) (by decide +kernel), List.forall_mem_cons.mpr ⟨tb_1 236 (by decide +kernel) (by decide +kernel), List.forall_mem_cons.mpr ⟨tb_1 238 (by decide +kernel) (by decide +kernel), List.forall_mem_cons.mpr ⟨tb_2 0 (by decide +kernel) (by decide +kernel), List.forall_mem_cons.mpr ⟨tb_2 2 (by decide +kernel) (by decide +kernel), List.forall_mem_cons.mpr ⟨tb_2 4 (by decide +kernel) (by decide +kernel), fun _ h => absurd h List.not_mem_nil⟩⟩⟩⟩⟩⟩⟩
theorem cws_2 : ∀ w ∈ u_ws RX2 TX2 1, w ∈ tb := List.forall_mem_cons.mpr ⟨tb_2 132 (by decide +kernel) (by decide +kernel), fun _ h => absurd h List.not_mem_nil⟩
theorem cws_3 : ∀ w ∈ u_ws RX3 TX3 4, w ∈ tb := List.forall_mem_cons.mpr ⟨tb_2 155 (by decide +kernel) (by decide +kernel), List.forall_mem_cons.mpr ⟨tb_2 157 (by decide +kernel) (by decide +kernel), List.forall_mem_cons.mpr ⟨tb_2 159 (by decide +kernel) (by decide +kernel), List.forall_mem_cons.mpr ⟨tb_2 161 (by decide +kernel) (by decide +kernel), fun _ h => absurd h List.not_mem_nil⟩⟩⟩⟩
theorem cws_4 : ∀ w ∈ u_ws RX4 TX4 14, w ∈ tb := List.forall_mem_cons.mpr ⟨tb_1 148 (by decide +kernel) (by decide +kernel), List.forall_mem_cons.mpr ⟨tb_1 150 (by decide +kernel) (by decide +kernel), List.forall_mem_cons.mpr ⟨tb_1 152 (by decide +kernel) (by decide +kernel), List.forall_mem_cons.mpr ⟨tb_1 154 (by decide +kernel) (by decide +kernel), List.forall_mem_cons.mpr ⟨tb_1 156 (by decide +kernel) (by decide +kernel), List.forall_mem_cons.mpr ⟨tb_1 158 (by decide +kernel) (by decide +kernel), List.forall_mem_cons.mpr ⟨tb_1 160 (by decide +kernel) (by decide +kernel), List.forall_mem_cons.mpr ⟨tb_1 162 (by decide +kernel) (by decide +kernel), List.forall_mem_cons.mpr ⟨tb_1 164 (by decide +kernel) (by decide +kernel), List.forall_mem_cons.mpr ⟨tb_1 166 (by decide +kernel) (by decide +kernel), List.forall_mem_cons.mpr ⟨tb_1 168 (by decide +kernel) (by decide +kernel), List.forall_mem_cons.mpr ⟨tb_1 170 (by decide +kernel) (by decide +kernel), List.forall_mem_cons.mpr ⟨tb_1 172 (by decide +kernel) (by decide +kernel), List.forall_mem_cons.mpr ⟨tb_1 174 (by decide +kernel) (by decide +kernel), fun _ h => absurd h List.not_mem_nil⟩⟩⟩⟩⟩⟩⟩⟩⟩⟩⟩⟩⟩⟩
theorem cws_5 : ∀ w ∈ u_ws RX5 TX5 3, w ∈ tb := List.forall_mem_cons.mpr ⟨tb_2 118 (by decide +kernel) (by decide +kernel), List.forall_mem_cons.mpr ⟨tb_2 120 (by decide +kernel) (by decide +kernel), List.forall_mem_cons.mpr ⟨tb_2 122 (by decide +kernel) (by decide +kernel), fun _ h => absurd h List.not_mem_nil⟩⟩⟩
theorem cws_6 : ∀ w ∈ u_ws RX6 TX6 9, w ∈ tb := List.forall_mem_cons.mpr ⟨tb_2 34 (by decide +kernel) (by decide +kernel), List.forall_mem_cons.mpr ⟨tb_2 36 (by decide +kernel) (by decide +kernel), List.forall_mem_cons.mpr ⟨tb_2 38 (by decide +kernel) (by decide +kernel), List.forall_mem_cons.mpr ⟨tb_2 40 (by decide +kernel) (by decide +kernel), List.forall_mem_cons.mpr ⟨tb_2 42 (by decide +kernel) (by decide +kernel), List.forall_mem_cons.mpr ⟨tb_2 44 (by decide +kernel) (by decide +kernel), List.forall_mem_cons.mpr ⟨tb_2 46 (by decide +kernel) (by decide +kernel), List.forall_mem_cons.mpr ⟨tb_2 48 (by decide +kernel) (by decide +kernel), List.forall_mem_cons.mpr ⟨tb_2 50 (by decide +kernel) (by decide +kernel), fun _ h => absurd h List.not_mem_nil⟩⟩⟩⟩⟩⟩⟩⟩⟩
theorem cws_7 : ∀ w ∈ u_ws RX7 TX7 6, w ∈ tb := List.forall_mem_cons.mpr ⟨tb_2 66 (by decide +kernel) (by decide +kernel), List.forall_mem_cons.mpr ⟨tb_2 68 (by decide +kernel) (by decide +kernel), List.forall_mem_cons.mpr ⟨tb_2 70 (by decide +kernel) (by decide +kernel), List.forall_mem_cons.mpr ⟨tb_2 72 (by decide +kernel) (by decide +kernel), List.forall_mem_cons.mpr ⟨tb_2 74 (by decide +kernel) (by decide +kernel), List.forall_mem_cons.mpr ⟨tb_2 76 (by decide +kernel) (by decide +kernel), fun _ h => absurd h List.not_mem_nil⟩⟩⟩⟩⟩⟩
theorem cws_8 : ∀ w ∈ u_ws RX8 TX8 5, w ∈ tb := List.forall_mem_cons.mpr ⟨tb_1 199 (by decide +kernel) (by decide +kernel), List.forall_mem_cons.mpr ⟨tb_1 201 (by decide +kernel) (by decide +kernel), List.forall_mem_cons.mpr ⟨tb_1 203 (by decide +kernel) (by decide +kernel), List.forall_mem_cons.mpr ⟨tb_1 205 (by decide +kernel) (by decide +kernel), List.forall_mem_cons.mpr ⟨tb_1 207 (by decide +kernel) (by decide +kernel), fun _ h => absurd h List.not_mem_nil⟩⟩⟩⟩⟩
theorem cws_9 : ∀ w ∈ u_ws RX9 TX9 12, w ∈ tb := List.forall_mem_cons.mpr ⟨tb_1 64 (by decide +kernel) (by decide +kernel), List.forall_mem_cons.mpr ⟨tb_1 66 (by decide +kernel) (by decide +kernel), List.forall_mem_cons.mpr ⟨tb_1 68 (by decide +kernel) (by decide +kernel), List.forall_mem_cons.mpr ⟨tb_1 70 (by decide +kernel) (by decide +kernel), List.forall_mem_cons.mpr ⟨tb_1 72 (by decide +kernel) (by decide +kernel), List.forall_mem_cons.mpr ⟨tb_1 74 (by decide +kernel) (by decide +kernel), List.forall_mem_cons.mpr ⟨tb_1 76 (by decide +kernel) (by decide +kernel), List.forall_mem_cons.mpr ⟨tb_1 78 (by decide +kernel) (by decide +kernel), List.forall_mem_cons.mpr ⟨tb_1 80 (by decide +kernel) (by decide +kernel), List.forall_mem_cons.mpr ⟨tb_1 82 (by decide +kernel) (by decide +kernel), List.forall_mem_cons.mpr ⟨tb_1 84 (by decide +kernel) (by decide +kernel), List.forall_mem_cons.mpr ⟨tb_1 86 (by decide +kernel) (by decide +kernel), fun _ h => absurd h List.not_mem_nil⟩⟩⟩⟩⟩⟩⟩⟩⟩⟩⟩⟩
theorem cws_10 : ∀ w ∈ u_ws RX11 TX11 20, w ∈ tb := List.forall_mem_cons.mpr ⟨tb_2 188 (by decide +kernel) (by decide +kernel), List.forall_mem_cons.mpr ⟨tb_2 190 (by decide +kernel) (by decide +kernel), List.forall_mem_cons.mpr ⟨tb_2 192 (by decide +kernel) (by decide +kernel), List.forall_mem_cons.mpr ⟨tb_2 194 (by decide +kernel) (by decide +kernel), List.forall_mem_cons.mpr ⟨tb_2 196 (by decide +kernel) (by decide +kernel), List.forall_mem_cons.mpr ⟨tb_2 198 (by decide +kernel) (by decide +kernel), List.forall_mem_cons.mpr ⟨tb_2 200 (by decide +kernel) (by decide +kernel), List.forall_mem_cons.mpr ⟨tb_2 202 (by decide +kernel) (by decide +kernel), List.forall_mem_cons.mpr ⟨tb_2 204 (by decide +kernel) (by decide +kernel), List.forall_mem_cons.mpr ⟨tb_2 206 (by decide +kernel) (by decide +kernel), List.forall_mem_cons.mpr ⟨tb_2 208 (by decide +kernel) (by decide +kernel), List.forall_mem_cons.mpr ⟨tb_2 210 (by decide +kernel) (by decide +kernel), List.forall_mem_cons.mpr ⟨tb_2 212 (by decide +kernel) (by decide +kernel), List.forall_mem_cons.mpr ⟨tb_2 214 (by decide +kernel) (by decide +kernel), List.forall_mem_cons.mpr ⟨tb_2 216 (by decide +kernel) (by decide +kernel), List.forall_mem_cons.mpr ⟨tb_2 218 (by decide +kernel) (by decide +kernel), List.forall_mem_cons.mpr ⟨tb_2 220 (by decide +kernel) (by decide +kernel), List.forall_mem_cons.mpr ⟨tb_2 222 (by decide +kernel) (by decide +kernel), List.forall_mem_cons.mpr ⟨tb_2 224 (by decide +kernel) (by decide +kernel), List.forall_mem_cons.mpr ⟨tb_2 226 (by decide +kernel) (by decide +kernel), fun _ h => absurd h List.not_mem_nil⟩⟩⟩⟩⟩⟩⟩⟩⟩⟩⟩⟩⟩⟩⟩⟩⟩⟩⟩⟩
theorem cws_11 : ∀ w ∈ u_ws RX12 TX12 53, w ∈ tb := List.forall_mem_cons.mpr ⟨tb_7 45 (by decide +kernel) (by decide +kernel), List.forall_mem_cons.mpr ⟨tb_7 47 (by decide +kernel) (by decide +kernel), List.forall_mem_cons.mpr ⟨tb_7 49 (by decide +kernel) (by decide +kernel), List.forall_mem_cons.mpr ⟨tb_7 51 (by decide +kernel) (by decide +kernel), List.forall_mem_cons.mpr ⟨tb_7 53 (by decide +kernel) (by decide +kernel), List.forall_mem_cons.mpr ⟨tb_7 55 (by decide +kernel) (by decide +kernel), List.forall_mem_cons.mpr ⟨tb_7 57 (by decide +kernel) (by decide +kernel), List.forall_mem_cons.mpr ⟨tb_7 59 (by decide +kernel) (by decide +kernel), List.forall_mem_cons.mpr ⟨tb_7 61 (by decide +kernel) (by decide +kernel), List.forall_mem_cons.mpr ⟨tb_7 63 (by decide +kernel) (by decide +kernel), List.forall_mem_cons.mpr ⟨tb_7 65 (by decide +kernel) (by decide +kernel), List.forall_mem_cons.mpr ⟨tb_7 67 (by decide +kernel) (by decide +kernel), List.forall_mem_cons.mpr ⟨tb_7 69 (by decide +kernel) (by decide +kernel), List.forall_mem_cons.mpr ⟨tb_7 71 (by decide +kernel) (by decide +kernel), List.forall_mem_cons.mpr ⟨tb_7 73 (by decide +kernel) (by decide +kernel), List.forall_mem_cons.mpr ⟨tb_7 75 (by decide +kernel) (by decide +kernel), List.forall_mem_cons.mpr ⟨tb_7 77 (by decide +kernel) (by decide +kernel), List.forall_mem_cons.mpr ⟨tb_7 79 (by decide +kernel) (by decide +kernel), List.forall_mem_cons.mpr ⟨tb_7 81 (by decide +kernel) (by decide +kernel), List.forall_mem_cons.mpr ⟨tb_7 83 (by decide +kernel) (by decide +kernel), List.forall_mem_cons.mpr ⟨tb_7 85 (by decide +kernel) (by decide +kernel), List.forall_mem_cons.mpr ⟨tb_7 87 (by decide +kernel) (by decide +kernel), List.forall_mem_cons.mpr ⟨tb_7 89 (by decide +kernel) (by decide +kernel), List.forall_mem_cons.mpr ⟨tb_7 91 (by decide +kernel) (by decide +kernel), List.forall_mem_cons.mpr ⟨tb_7 93 (by decide +kernel) (by decide +kernel), List.forall_mem_cons.mpr ⟨tb_7 95 (by decide +kernel) (by decide +kernel), List.forall_mem_cons.mpr ⟨tb_7 97 (by decide +kernel) (by decide +kernel), List.forall_mem_cons.mpr ⟨tb_7 99 (by decide +kernel) (by decide +kernel), List.forall_mem_cons.mpr ⟨tb_7 101 (by decide +kernel) (by decide +kernel), List.forall_mem_cons.mpr ⟨tb_7 103 (by decide +kernel) (by decide +kernel), List.forall_mem_cons.mpr ⟨tb_7 105 (by decide +kernel) (by decide +kernel), List.forall_mem_cons.mpr ⟨tb_7 107 (by decide +kernel) (by decide +kernel), List.forall_mem_cons.mpr ⟨tb_7 109 (by decide +kernel) (by decide +kernel), List.forall_mem_cons.mpr ⟨tb_7 111 (by decide +kernel) (by decide +kernel), List.forall_mem_cons.mpr ⟨tb_7 113 (by decide +kernel) (by decide +kernel), List.forall_mem_cons.mpr ⟨tb_7 115 (by decide +kernel) (by decide +kernel), List.forall_mem_cons.mpr ⟨tb_7 117 (by decide +kernel) (by decide +kernel), List.forall_mem_cons.mpr ⟨tb_7 119 (by decide +kernel) (by decide +kernel), List.forall_mem_cons.mpr ⟨tb_7 121 (by decide +kernel) (by decide +kernel), List.forall_mem_cons.mpr ⟨tb_7 123 (by decide +kernel) (by decide +kernel), List.forall_mem_cons.mpr ⟨tb_7 125 (by decide +kernel) (by decide +kernel), List.forall_mem_cons.mpr ⟨tb_7 127 (by decide +kernel) (by decide +kernel), List.forall_mem_cons.mpr ⟨tb_7 129 (by decide +kernel) (by decide +kernel), List.forall_mem_cons.mpr ⟨tb_7 131 (by decide +kernel) (by decide +kernel), List.forall_mem_cons.mpr ⟨tb_7 133 (by decide +kernel) (by decide +kernel), List.forall_mem_cons.mpr ⟨tb_7 135 (by decide +kernel) (by decide +kernel), List.forall_mem_cons.mpr ⟨tb_7 137 (by decide +kernel) (by decide +kernel), List.forall_mem_cons.mpr ⟨tb_7 139 (by decide +kernel) (by decide +kernel), List.forall_mem_cons.mpr ⟨tb_7 141 (by decide +kernel) (by decide +kernel), List.forall_mem_cons.mpr ⟨tb_7 143 (by decide +kernel) (by decide +kernel), List.forall_mem_cons.mpr ⟨tb_7 145 (by decide +kernel) (by decide +kernel), List.forall_mem_cons.mpr ⟨tb_7 147 (by decide +kernel) (by decide +kernel), List.forall_mem_cons.mpr ⟨tb_7 149 (by decide +kernel) (by decide +kernel), fun _ h => absurd h List.not_mem_nil⟩⟩⟩⟩⟩⟩⟩⟩⟩⟩⟩⟩⟩⟩⟩⟩⟩⟩⟩⟩⟩⟩⟩⟩⟩⟩⟩⟩⟩⟩⟩⟩⟩⟩⟩⟩⟩⟩⟩⟩⟩⟩⟩⟩⟩⟩⟩⟩⟩⟩⟩⟩⟩
abbrev mJ6_bitCount_0f7a4 : MI := (yJ6_bitCount_0f7a4, cJ6_bitCount_0f7a4, 1, (some .int))
abbrev mX0_kindAt : MI := (yX0_kindAt, cX0_kindAt, 1, (some .int))
abbrev mX0_live : MI := (yX0_live, cX0_live, 2, none)
abbrev mX0_liveLine : MI := (yX0_liveLine, cX0_liveLine, 5, (some .int))
abbrev mX0_read : MI := (yX0_read, cX0_read, 4, (some .boolean))
abbrev mX0_readAmount : MI := (yX0_readAmount, cX0_readAmount, 4, (some .boolean))
abbrev mX0_readLine : MI := (yX0_readLine, cX0_readLine, 4, (some .boolean))
abbrev mX0_readWhom : MI := (yX0_readWhom, cX0_readWhom, 4, (some .boolean))
abbrev mX0_whyWrong : MI := (yX0_whyWrong, cX0_whyWrong, 2, (some .int))
abbrev mX1_allLights : MI := (yX1_allLights, cX1_allLights, 1, (some .int))
abbrev mX1_atNewName : MI := (yX1_atNewName, cX1_atNewName, 3, (some .boolean))
abbrev mX1_colourAt : MI := (yX1_colourAt, cX1_colourAt, 1, (some .int))
abbrev mX1_compareLights : MI := (yX1_compareLights, cX1_compareLights, 3, none)
abbrev mX1_comparePair : MI := (yX1_comparePair, cX1_comparePair, 3, none)
abbrev mX1_copyFrom : MI := (yX1_copyFrom, cX1_copyFrom, 3, none)
abbrev mX1_endsAllConfusion : MI := (yX1_endsAllConfusion, cX1_endsAllConfusion, 3, (some .boolean))
abbrev mX1_fewestChanged : MI := (yX1_fewestChanged, cX1_fewestChanged, 3, (some .int))
abbrev mX1_fixedLights : MI := (yX1_fixedLights, cX1_fixedLights, 3, (some .int))
abbrev mX1_lightAt : MI := (yX1_lightAt, cX1_lightAt, 3, (some .int))
abbrev mX1_lightNamed : MI := (yX1_lightNamed, cX1_lightNamed, 4, (some .int))
abbrev mX1_pairsConfused : MI := (yX1_pairsConfused, cX1_pairsConfused, 3, (some .int))
abbrev mX1_read : MI := (yX1_read, cX1_read, 2, (some .boolean))
abbrev mX1_readDark : MI := (yX1_readDark, cX1_readDark, 3, (some .boolean))
abbrev mX1_readFlash : MI := (yX1_readFlash, cX1_readFlash, 4, (some .boolean))
abbrev mX1_readFrom : MI := (yX1_readFrom, cX1_readFrom, 3, (some .boolean))
abbrev mX1_readHaze : MI := (yX1_readHaze, cX1_readHaze, 2, (some .boolean))
abbrev mX1_readLight : MI := (yX1_readLight, cX1_readLight, 3, (some .boolean))
abbrev mX1_readLine : MI := (yX1_readLine, cX1_readLine, 2, (some .boolean))
abbrev mX1_readShip : MI := (yX1_readShip, cX1_readShip, 3, (some .boolean))
abbrev mX1_shipAt : MI := (yX1_shipAt, cX1_shipAt, 3, (some .int))
abbrev mX1_shipNamed : MI := (yX1_shipNamed, cX1_shipNamed, 4, (some .int))
abbrev mX2_act : MI := (yX2_act, cX2_act, 6, none)
abbrev mX2_begin : MI := (yX2_begin, cX2_begin, 2, none)
abbrev mX2_douseOrKindle : MI := (yX2_douseOrKindle, cX2_douseOrKindle, 2, none)
abbrev mX2_draw : MI := (yX2_draw, cX2_draw, 2, (some .int))
abbrev mX2_liveSeconds : MI := (yX2_liveSeconds, cX2_liveSeconds, 4, (some .int))
abbrev mX4_addFlash : MI := (yX4_addFlash, cX4_addFlash, 3, none)
abbrev mX4_addSeconds : MI := (yX4_addSeconds, cX4_addSeconds, 4, none)
abbrev mX4_begin : MI := (yX4_begin, cX4_begin, 3, none)
abbrev mX4_copyFrom : MI := (yX4_copyFrom, cX4_copyFrom, 2, none)
abbrev mX4_hasRowFrom : MI := (yX4_hasRowFrom, cX4_hasRowFrom, 5, (some .boolean))
abbrev mX4_isAlike : MI := (yX4_isAlike, cX4_isAlike, 3, (some .boolean))
abbrev mX4_isInOneSight : MI := (yX4_isInOneSight, cX4_isInOneSight, 5, (some .boolean))
abbrev mX4_isVisible : MI := (yX4_isVisible, cX4_isVisible, 8, (some .boolean))
abbrev mX4_placeBehind : MI := (yX4_placeBehind, cX4_placeBehind, 2, (some .int))
abbrev mX4_sameFor : MI := (yX4_sameFor, cX4_sameFor, 7, (some .int))
abbrev mX4_secondsOn : MI := (yX4_secondsOn, cX4_secondsOn, 3, (some .int))
abbrev mX4_shownAt : MI := (yX4_shownAt, cX4_shownAt, 2, (some .int))
abbrev mX5_clear : MI := (yX5_clear, cX5_clear, 1, none)
abbrev mX5_keep : MI := (yX5_keep, cX5_keep, 1, none)
abbrev mX5_mark : MI := (yX5_mark, cX5_mark, 2, none)
abbrev mX5_takeBack : MI := (yX5_takeBack, cX5_takeBack, 2, (some .int))
abbrev mX6_begin : MI := (yX6_begin, cX6_begin, 2, none)
abbrev mX6_copyFrom : MI := (yX6_copyFrom, cX6_copyFrom, 2, none)
abbrev mX6_emptyOnes : MI := (yX6_emptyOnes, cX6_emptyOnes, 3, (some .int))
abbrev mX6_isOut : MI := (yX6_isOut, cX6_isOut, 2, (some .boolean))
abbrev mX6_moveOn : MI := (yX6_moveOn, cX6_moveOn, 3, (some .int))
abbrev mX6_oilOfAll : MI := (yX6_oilOfAll, cX6_oilOfAll, 3, (some .int))
abbrev mX6_pass : MI := (yX6_pass, cX6_pass, 3, (some .int))
abbrev mX6_passAll : MI := (yX6_passAll, cX6_passAll, 3, (some .int))
abbrev mX6_passOne : MI := (yX6_passOne, cX6_passOne, 2, none)
abbrev mX6_placeOf : MI := (yX6_placeOf, cX6_placeOf, 2, (some .int))
abbrev mX6_pourInto : MI := (yX6_pourInto, cX6_pourInto, 3, (some .int))
abbrev mX6_putOut : MI := (yX6_putOut, cX6_putOut, 2, (some .int))
abbrev mX6_relight : MI := (yX6_relight, cX6_relight, 2, (some .int))
abbrev mX6_sail : MI := (yX6_sail, cX6_sail, 4, none)
abbrev mX6_secondsToBurn : MI := (yX6_secondsToBurn, cX6_secondsToBurn, 9, (some .int))
abbrev mX6_seenBy : MI := (yX6_seenBy, cX6_seenBy, 2, (some .int))
abbrev mX6_setHaze : MI := (yX6_setHaze, cX6_setHaze, 2, (some .int))
abbrev mX6_shines : MI := (yX6_shines, cX6_shines, 2, (some .boolean))
abbrev mX6_shiningOnes : MI := (yX6_shiningOnes, cX6_shiningOnes, 3, (some .int))
abbrev mX6_turn : MI := (yX6_turn, cX6_turn, 3, (some .int))
abbrev mX6_visibleFrom : MI := (yX6_visibleFrom, cX6_visibleFrom, 5, (some .int))
abbrev mX7_add : MI := (yX7_add, cX7_add, 4, (some .boolean))
abbrev mX7_clear : MI := (yX7_clear, cX7_clear, 1, none)
abbrev mX7_copyFrom : MI := (yX7_copyFrom, cX7_copyFrom, 2, none)
abbrev mX7_kindAt : MI := (yX7_kindAt, cX7_kindAt, 1, (some .int))
abbrev mX7_measureOf : MI := (yX7_measureOf, cX7_measureOf, 3, (some .int))
abbrev mX7_measuredSet : MI := (yX7_measuredSet, cX7_measuredSet, 7, (some .int))
abbrev mX7_plainSet : MI := (yX7_plainSet, cX7_plainSet, 3, (some .int))
abbrev mX7_read : MI := (yX7_read, cX7_read, 3, (some .boolean))
abbrev mX7_readAll : MI := (yX7_readAll, cX7_readAll, 5, (some .boolean))
abbrev mX7_readCondition : MI := (yX7_readCondition, cX7_readCondition, 5, (some .boolean))
abbrev mX7_readMeasure : MI := (yX7_readMeasure, cX7_readMeasure, 4, (some .boolean))
abbrev mX7_readNamed : MI := (yX7_readNamed, cX7_readNamed, 4, (some .boolean))
abbrev mX7_readOne : MI := (yX7_readOne, cX7_readOne, 6, (some .boolean))
abbrev mX7_readPlain : MI := (yX7_readPlain, cX7_readPlain, 4, (some .boolean))
abbrev mX7_saidOf : MI := (yX7_saidOf, cX7_saidOf, 5, (some .int))
abbrev mX8_copyFrom : MI := (yX8_copyFrom, cX8_copyFrom, 2, none)
abbrev mX9_atEnd : MI := (yX9_atEnd, cX9_atEnd, 1, (some .boolean))
abbrev mX9_atNumber : MI := (yX9_atNumber, cX9_atNumber, 3, (some .boolean))
abbrev mX9_fitsFrom : MI := (yX9_fitsFrom, cX9_fitsFrom, 4, (some .boolean))
abbrev mX9_is : MI := (yX9_is, cX9_is, 2, (some .boolean))
abbrev mX9_isName : MI := (yX9_isName, cX9_isName, 1, (some .boolean))
abbrev mX9_isShownRow : MI := (yX9_isShownRow, cX9_isShownRow, 2, (some .boolean))
abbrev mX9_isSign : MI := (yX9_isSign, cX9_isSign, 2, (some .boolean))
abbrev mX9_leastFit : MI := (yX9_leastFit, cX9_leastFit, 3, (some .int))
abbrev mX9_next : MI := (yX9_next, cX9_next, 2, none)
abbrev mX9_open : MI := (yX9_open, cX9_open, 2, none)
abbrev mX9_put : MI := (yX9_put, cX9_put, 3, none)
abbrev mX9_readRun : MI := (yX9_readRun, cX9_readRun, 4, none)
abbrev mX9_readSign : MI := (yX9_readSign, cX9_readSign, 2, none)
abbrev mX9_refuse : MI := (yX9_refuse, cX9_refuse, 2, (some .boolean))
abbrev mX9_takeNumber : MI := (yX9_takeNumber, cX9_takeNumber, 3, (some .boolean))
abbrev mX9_takeSign : MI := (yX9_takeSign, cX9_takeSign, 2, (some .boolean))
abbrev mX10_isReserved : MI := (yX10_isReserved, cX10_isReserved, 3, (some .boolean))
abbrev mX11_apart : MI := (yX11_apart, cX11_apart, 6, (some .int))
abbrev mX11_ask : MI := (yX11_ask, cX11_ask, 1, (some .int))
abbrev mX11_book : MI := (yX11_book, cX11_book, 3, (some .int))
abbrev mX11_both : MI := (yX11_both, cX11_both, 8, (some .int))
abbrev mX11_burn : MI := (yX11_burn, cX11_burn, 2, (some .int))
abbrev mX11_byteAt : MI := (yX11_byteAt, cX11_byteAt, 2, (some .int))
abbrev mX11_change : MI := (yX11_change, cX11_change, 1, (some .int))
abbrev mX11_changes : MI := (yX11_changes, cX11_changes, 1, (some .int))
abbrev mX11_character : MI := (yX11_character, cX11_character, 3, (some .int))
abbrev mX11_chart : MI := (yX11_chart, cX11_chart, 2, (some .int))
abbrev mX11_closeText : MI := (yX11_closeText, cX11_closeText, 1, none)
abbrev mX11_confused : MI := (yX11_confused, cX11_confused, 1, (some .int))
abbrev mX11_count : MI := (yX11_count, cX11_count, 2, (some .int))
abbrev mX11_douse : MI := (yX11_douse, cX11_douse, 2, (some .int))
abbrev mX11_drawn : MI := (yX11_drawn, cX11_drawn, 3, (some .int))
abbrev mX11_end : MI := (yX11_end, cX11_end, 2, (some .boolean))
abbrev mX11_fault : MI := (yX11_fault, cX11_fault, 1, (some .int))
abbrev mX11_feed : MI := (yX11_feed, cX11_feed, 6, (some .int))
abbrev mX11_fill : MI := (yX11_fill, cX11_fill, 3, (some .int))
abbrev mX11_fits : MI := (yX11_fits, cX11_fits, 2, (some .int))
abbrev mX11_fitsAt : MI := (yX11_fitsAt, cX11_fitsAt, 2, (some .int))
abbrev mX11_fittingLights : MI := (yX11_fittingLights, cX11_fittingLights, 3, (some .int))
abbrev mX11_fix : MI := (yX11_fix, cX11_fix, 3, (some .int))
abbrev mX11_fixAt : MI := (yX11_fixAt, cX11_fixAt, 1, (some .int))
abbrev mX11_haze : MI := (yX11_haze, cX11_haze, 2, (some .int))
abbrev mX11_image : MI := (yX11_image, cX11_image, 2, (some .boolean))
abbrev mX11_isCell : MI := (yX11_isCell, cX11_isCell, 2, (some .boolean))
abbrev mX11_isFixTape : MI := (yX11_isFixTape, cX11_isFixTape, 3, (some .boolean))
abbrev mX11_isLight : MI := (yX11_isLight, cX11_isLight, 2, (some .boolean))
abbrev mX11_isShip : MI := (yX11_isShip, cX11_isShip, 2, (some .boolean))
abbrev mX11_keepFits : MI := (yX11_keepFits, cX11_keepFits, 5, none)
abbrev mX11_keepIfAny : MI := (yX11_keepIfAny, cX11_keepIfAny, 2, (some .int))
abbrev mX11_keepIfDone : MI := (yX11_keepIfDone, cX11_keepIfDone, 2, (some .int))
abbrev mX11_kindle : MI := (yX11_kindle, cX11_kindle, 2, (some .int))
abbrev mX11_liesAsTaped : MI := (yX11_liesAsTaped, cX11_liesAsTaped, 5, (some .boolean))
abbrev mX11_memberAt : MI := (yX11_memberAt, cX11_memberAt, 4, (some .int))
abbrev mX11_most : MI := (yX11_most, cX11_most, 5, (some .int))
abbrev mX11_mostLeft : MI := (yX11_mostLeft, cX11_mostLeft, 7, (some .int))
abbrev mX11_now : MI := (yX11_now, cX11_now, 2, (some .int))
abbrev mX11_octantOf : MI := (yX11_octantOf, cX11_octantOf, 2, (some .int))
abbrev mX11_odds : MI := (yX11_odds, cX11_odds, 6, (some .int))
abbrev mX11_remainder : MI := (yX11_remainder, cX11_remainder, 2, (some .int))
abbrev mX11_restore : MI := (yX11_restore, cX11_restore, 2, (some .boolean))
abbrev mX11_said : MI := (yX11_said, cX11_said, 3, (some .int))
abbrev mX11_seconds : MI := (yX11_seconds, cX11_seconds, 2, (some .int))
abbrev mX11_sentence : MI := (yX11_sentence, cX11_sentence, 2, (some .int))
abbrev mX11_shift : MI := (yX11_shift, cX11_shift, 3, (some .int))
abbrev mX11_ship : MI := (yX11_ship, cX11_ship, 3, (some .int))
abbrev mX11_spots : MI := (yX11_spots, cX11_spots, 4, (some .int))
abbrev mX11_spotsAt : MI := (yX11_spotsAt, cX11_spotsAt, 1, (some .int))
abbrev mX11_steer : MI := (yX11_steer, cX11_steer, 3, (some .int))
abbrev mX11_tagByte : MI := (yX11_tagByte, cX11_tagByte, 2, none)
abbrev mX11_tagNumber : MI := (yX11_tagNumber, cX11_tagNumber, 2, none)
abbrev mX11_tagText : MI := (yX11_tagText, cX11_tagText, 3, none)
abbrev mX11_tagWord : MI := (yX11_tagWord, cX11_tagWord, 5, none)
abbrev mX11_told : MI := (yX11_told, cX11_told, 2, (some .int))
abbrev mX11_undo : MI := (yX11_undo, cX11_undo, 1, (some .int))
abbrev mX11_visible : MI := (yX11_visible, cX11_visible, 3, (some .int))
abbrev mX11_waits : MI := (yX11_waits, cX11_waits, 3, (some .int))
abbrev mX12_alikes : MI := (yX12_alikes, cX12_alikes, 4, (some .int))
abbrev mX12_apart : MI := (yX12_apart, cX12_apart, 8, (some .int))
abbrev mX12_areSeen : MI := (yX12_areSeen, cX12_areSeen, 5, (some .boolean))
abbrev mX12_ask : MI := (yX12_ask, cX12_ask, 1, (some .int))
abbrev mX12_back : MI := (yX12_back, cX12_back, 2, none)
abbrev mX12_bad : MI := (yX12_bad, cX12_bad, 2, (some .boolean))
abbrev mX12_behind : MI := (yX12_behind, cX12_behind, 1, (some .boolean))
abbrev mX12_bitOf : MI := (yX12_bitOf, cX12_bitOf, 2, (some .boolean))
abbrev mX12_bits : MI := (yX12_bits, cX12_bits, 3, (some .int))
abbrev mX12_book : MI := (yX12_book, cX12_book, 4, (some .int))
abbrev mX12_bookLine : MI := (yX12_bookLine, cX12_bookLine, 4, (some .boolean))
abbrev mX12_both : MI := (yX12_both, cX12_both, 4, (some .int))
abbrev mX12_burn : MI := (yX12_burn, cX12_burn, 4, (some .int))
abbrev mX12_byteAt : MI := (yX12_byteAt, cX12_byteAt, 2, (some .int))
abbrev mX12_change : MI := (yX12_change, cX12_change, 5, (some .int))
abbrev mX12_changes : MI := (yX12_changes, cX12_changes, 1, (some .int))
abbrev mX12_character : MI := (yX12_character, cX12_character, 3, (some .int))
abbrev mX12_chart : MI := (yX12_chart, cX12_chart, 2, (some .int))
abbrev mX12_clears : MI := (yX12_clears, cX12_clears, 2, none)
abbrev mX12_code : MI := (yX12_code, cX12_code, 4, none)
abbrev mX12_confused : MI := (yX12_confused, cX12_confused, 1, (some .int))
abbrev mX12_count : MI := (yX12_count, cX12_count, 2, (some .int))
abbrev mX12_does : MI := (yX12_does, cX12_does, 5, (some .int))
abbrev mX12_douse : MI := (yX12_douse, cX12_douse, 2, (some .int))
abbrev mX12_draw : MI := (yX12_draw, cX12_draw, 2, (some .int))
abbrev mX12_drawSecond : MI := (yX12_drawSecond, cX12_drawSecond, 4, none)
abbrev mX12_drawn : MI := (yX12_drawn, cX12_drawn, 3, (some .int))
abbrev mX12_draws : MI := (yX12_draws, cX12_draws, 4, (some .int))
abbrev mX12_end : MI := (yX12_end, cX12_end, 2, (some .boolean))
abbrev mX12_fault : MI := (yX12_fault, cX12_fault, 1, (some .int))
abbrev mX12_feed : MI := (yX12_feed, cX12_feed, 6, (some .int))
abbrev mX12_fill : MI := (yX12_fill, cX12_fill, 3, (some .int))
abbrev mX12_fitOf : MI := (yX12_fitOf, cX12_fitOf, 5, (some .int))
abbrev mX12_fits : MI := (yX12_fits, cX12_fits, 3, (some .int))
abbrev mX12_fitsAt : MI := (yX12_fitsAt, cX12_fitsAt, 2, (some .int))
abbrev mX12_fix : MI := (yX12_fix, cX12_fix, 6, (some .int))
abbrev mX12_fixAt : MI := (yX12_fixAt, cX12_fixAt, 1, (some .int))
abbrev mX12_four : MI := (yX12_four, cX12_four, 3, none)
abbrev mX12_fresh : MI := (yX12_fresh, cX12_fresh, 2, (some .boolean))
abbrev mX12_goesOn : MI := (yX12_goesOn, cX12_goesOn, 3, (some .int))
abbrev mX12_greater : MI := (yX12_greater, cX12_greater, 2, (some .int))
abbrev mX12_haze : MI := (yX12_haze, cX12_haze, 2, (some .int))
abbrev mX12_image : MI := (yX12_image, cX12_image, 3, (some .boolean))
abbrev mX12_isAlike : MI := (yX12_isAlike, cX12_isAlike, 7, (some .boolean))
abbrev mX12_isDigit : MI := (yX12_isDigit, cX12_isDigit, 1, (some .boolean))
abbrev mX12_isIn : MI := (yX12_isIn, cX12_isIn, 3, (some .boolean))
abbrev mX12_isLeaf : MI := (yX12_isLeaf, cX12_isLeaf, 6, (some .boolean))
abbrev mX12_isLight : MI := (yX12_isLight, cX12_isLight, 2, (some .boolean))
abbrev mX12_isName : MI := (yX12_isName, cX12_isName, 3, (some .boolean))
abbrev mX12_isOn : MI := (yX12_isOn, cX12_isOn, 5, (some .boolean))
abbrev mX12_isSaid : MI := (yX12_isSaid, cX12_isSaid, 5, (some .boolean))
abbrev mX12_isShining : MI := (yX12_isShining, cX12_isShining, 2, (some .boolean))
abbrev mX12_isShip : MI := (yX12_isShip, cX12_isShip, 2, (some .boolean))
abbrev mX12_isSign : MI := (yX12_isSign, cX12_isSign, 2, (some .boolean))
abbrev mX12_isSmall : MI := (yX12_isSmall, cX12_isSmall, 1, (some .boolean))
abbrev mX12_isVisibleBy : MI := (yX12_isVisibleBy, cX12_isVisibleBy, 9, (some .boolean))
abbrev mX12_isWord : MI := (yX12_isWord, cX12_isWord, 3, (some .boolean))
abbrev mX12_joins : MI := (yX12_joins, cX12_joins, 2, none)
abbrev mX12_kindle : MI := (yX12_kindle, cX12_kindle, 3, (some .int))
abbrev mX12_lays : MI := (yX12_lays, cX12_lays, 2, none)
abbrev mX12_laysPairs : MI := (yX12_laysPairs, cX12_laysPairs, 4, (some .int))
abbrev mX12_leafOf : MI := (yX12_leafOf, cX12_leafOf, 1, (some .int))
abbrev mX12_leftBy : MI := (yX12_leftBy, cX12_leftBy, 7, (some .int))
abbrev mX12_lesser : MI := (yX12_lesser, cX12_lesser, 2, (some .int))
abbrev mX12_light : MI := (yX12_light, cX12_light, 3, (some .int))
abbrev mX12_looksAt : MI := (yX12_looksAt, cX12_looksAt, 3, (some .boolean))
abbrev mX12_mean : MI := (yX12_mean, cX12_mean, 5, (some .int))
abbrev mX12_most : MI := (yX12_most, cX12_most, 5, (some .int))
abbrev mX12_next : MI := (yX12_next, cX12_next, 4, none)
abbrev mX12_nots : MI := (yX12_nots, cX12_nots, 1, none)
abbrev mX12_now : MI := (yX12_now, cX12_now, 4, (some .int))
abbrev mX12_octantFrom : MI := (yX12_octantFrom, cX12_octantFrom, 4, (some .int))
abbrev mX12_octantOf : MI := (yX12_octantOf, cX12_octantOf, 2, (some .int))
abbrev mX12_octet : MI := (yX12_octet, cX12_octet, 2, (some .int))
abbrev mX12_odds : MI := (yX12_odds, cX12_odds, 6, (some .int))
abbrev mX12_oilInAll : MI := (yX12_oilInAll, cX12_oilInAll, 3, (some .int))
abbrev mX12_operand : MI := (yX12_operand, cX12_operand, 5, (some .boolean))
abbrev mX12_peek : MI := (yX12_peek, cX12_peek, 1, (some .int))
abbrev mX12_periodOf : MI := (yX12_periodOf, cX12_periodOf, 4, (some .int))
abbrev mX12_placeIn : MI := (yX12_placeIn, cX12_placeIn, 3, (some .int))
abbrev mX12_puts : MI := (yX12_puts, cX12_puts, 4, (some .boolean))
abbrev mX12_readDark : MI := (yX12_readDark, cX12_readDark, 2, (some .boolean))
abbrev mX12_readFlash : MI := (yX12_readFlash, cX12_readFlash, 3, (some .boolean))
abbrev mX12_readFrom : MI := (yX12_readFrom, cX12_readFrom, 2, (some .boolean))
abbrev mX12_readLight : MI := (yX12_readLight, cX12_readLight, 3, (some .boolean))
abbrev mX12_readLine : MI := (yX12_readLine, cX12_readLine, 1, (some .boolean))
abbrev mX12_readShip : MI := (yX12_readShip, cX12_readShip, 2, (some .boolean))
abbrev mX12_restore : MI := (yX12_restore, cX12_restore, 3, (some .boolean))
abbrev mX12_said : MI := (yX12_said, cX12_said, 4, (some .int))
abbrev mX12_sails : MI := (yX12_sails, cX12_sails, 4, none)
abbrev mX12_says : MI := (yX12_says, cX12_says, 3, none)
abbrev mX12_second : MI := (yX12_second, cX12_second, 3, none)
abbrev mX12_seconds : MI := (yX12_seconds, cX12_seconds, 2, (some .int))
abbrev mX12_seek : MI := (yX12_seek, cX12_seek, 4, (some .int))
abbrev mX12_seenBy : MI := (yX12_seenBy, cX12_seenBy, 2, (some .int))
abbrev mX12_sentence : MI := (yX12_sentence, cX12_sentence, 3, (some .int))
abbrev mX12_shift : MI := (yX12_shift, cX12_shift, 3, (some .int))
abbrev mX12_shining : MI := (yX12_shining, cX12_shining, 3, (some .int))
abbrev mX12_ship : MI := (yX12_ship, cX12_ship, 3, (some .int))
abbrev mX12_showsAt : MI := (yX12_showsAt, cX12_showsAt, 3, (some .int))
abbrev mX12_sign : MI := (yX12_sign, cX12_sign, 2, (some .boolean))
abbrev mX12_spells : MI := (yX12_spells, cX12_spells, 4, none)
abbrev mX12_spots : MI := (yX12_spots, cX12_spots, 5, (some .int))
abbrev mX12_spotsAt : MI := (yX12_spotsAt, cX12_spotsAt, 1, (some .int))
abbrev mX12_steer : MI := (yX12_steer, cX12_steer, 3, (some .int))
abbrev mX12_stepX : MI := (yX12_stepX, cX12_stepX, 1, (some .int))
abbrev mX12_stepY : MI := (yX12_stepY, cX12_stepY, 1, (some .int))
abbrev mX12_stores : MI := (yX12_stores, cX12_stores, 2, none)
abbrev mX12_tag : MI := (yX12_tag, cX12_tag, 2, (some .int))
abbrev mX12_taken : MI := (yX12_taken, cX12_taken, 2, none)
abbrev mX12_takes : MI := (yX12_takes, cX12_takes, 3, (some .boolean))
abbrev mX12_takesName : MI := (yX12_takesName, cX12_takesName, 3, (some .boolean))
abbrev mX12_thrown : MI := (yX12_thrown, cX12_thrown, 1, (some .int))
abbrev mX12_throwsIf : MI := (yX12_throwsIf, cX12_throwsIf, 2, (some .boolean))
abbrev mX12_told : MI := (yX12_told, cX12_told, 2, (some .int))
abbrev mX12_tries : MI := (yX12_tries, cX12_tries, 2, none)
abbrev mX12_turns : MI := (yX12_turns, cX12_turns, 3, none)
abbrev mX12_twoDigits : MI := (yX12_twoDigits, cX12_twoDigits, 2, none)
abbrev mX12_undo : MI := (yX12_undo, cX12_undo, 2, (some .int))
abbrev mX12_visible : MI := (yX12_visible, cX12_visible, 3, (some .int))
abbrev mX12_visibleFrom : MI := (yX12_visibleFrom, cX12_visibleFrom, 6, (some .int))
abbrev mX12_waits : MI := (yX12_waits, cX12_waits, 4, (some .int))
abbrev mX12_whyFill : MI := (yX12_whyFill, cX12_whyFill, 3, (some .int))
abbrev mX12_whyKindle : MI := (yX12_whyKindle, cX12_whyKindle, 2, (some .int))
theorem ca_X4_51 : Cond.methodLink RX4 51 arraycopyName ∈ tb ∧ Cond.native arraycopyName ∈ tb ∧ Cond.static arraycopyName ∈ tb ∧ Cond.initialized "java/lang/System" ∈ tb := ⟨tb_3 157 (by decide +kernel) (by decide +kernel), tb_3 159 (by decide +kernel) (by decide +kernel), tb_3 158 (by decide +kernel) (by decide +kernel), tb_1 16 (by decide +kernel) (by decide +kernel)⟩
theorem ca_X6_77 : Cond.methodLink RX6 77 arraycopyName ∈ tb ∧ Cond.native arraycopyName ∈ tb ∧ Cond.static arraycopyName ∈ tb ∧ Cond.initialized "java/lang/System" ∈ tb := ⟨tb_4 45 (by decide +kernel) (by decide +kernel), tb_3 159 (by decide +kernel) (by decide +kernel), tb_3 158 (by decide +kernel) (by decide +kernel), tb_1 16 (by decide +kernel) (by decide +kernel)⟩
theorem ca_X7_31 : Cond.methodLink RX7 31 arraycopyName ∈ tb ∧ Cond.native arraycopyName ∈ tb ∧ Cond.static arraycopyName ∈ tb ∧ Cond.initialized "java/lang/System" ∈ tb := ⟨tb_6 59 (by decide +kernel) (by decide +kernel), tb_3 159 (by decide +kernel) (by decide +kernel), tb_3 158 (by decide +kernel) (by decide +kernel), tb_1 16 (by decide +kernel) (by decide +kernel)⟩
theorem cf_X9_63 : Cond.fieldLink RX9 63 "CoastLights$Word" "code" "J" ∈ tb := tb_9 160 (by decide +kernel) (by decide +kernel)
theorem cf_X10_116 : Cond.fieldLink RX10 116 "CoastLights$Word" "code" "J" ∈ tb := tb_9 161 (by decide +kernel) (by decide +kernel)
theorem cg_X0_65 : Cond.fieldLink RX0 65 "CoastLights$Word" "DOUSE" "LCoastLights$Word;" ∈ tb := tb_5 164 (by decide +kernel) (by decide +kernel)
theorem cg_X0_75 : Cond.fieldLink RX0 75 "CoastLights$Word" "KINDLE" "LCoastLights$Word;" ∈ tb := tb_5 167 (by decide +kernel) (by decide +kernel)
theorem cg_X0_78 : Cond.fieldLink RX0 78 "CoastLights$Word" "FILL" "LCoastLights$Word;" ∈ tb := tb_5 169 (by decide +kernel) (by decide +kernel)
theorem cg_X0_81 : Cond.fieldLink RX0 81 "CoastLights$Word" "SHIFT" "LCoastLights$Word;" ∈ tb := tb_5 171 (by decide +kernel) (by decide +kernel)
theorem cg_X0_84 : Cond.fieldLink RX0 84 "CoastLights$Word" "STEER" "LCoastLights$Word;" ∈ tb := tb_5 173 (by decide +kernel) (by decide +kernel)
theorem cg_X0_87 : Cond.fieldLink RX0 87 "CoastLights$Word" "HAZE" "LCoastLights$Word;" ∈ tb := tb_5 175 (by decide +kernel) (by decide +kernel)
theorem cg_X0_90 : Cond.fieldLink RX0 90 "CoastLights$Word" "SECOND" "LCoastLights$Word;" ∈ tb := tb_5 176 (by decide +kernel) (by decide +kernel)
theorem cg_X1_104 : Cond.fieldLink RX1 104 "CoastLights$Word" "LIGHT" "LCoastLights$Word;" ∈ tb := tb_3 32 (by decide +kernel) (by decide +kernel)
theorem cg_X1_117 : Cond.fieldLink RX1 117 "CoastLights$Word" "FLASH" "LCoastLights$Word;" ∈ tb := tb_3 90 (by decide +kernel) (by decide +kernel)
theorem cg_X1_123 : Cond.fieldLink RX1 123 "CoastLights$Word" "FROM" "LCoastLights$Word;" ∈ tb := tb_3 108 (by decide +kernel) (by decide +kernel)
theorem cg_X1_129 : Cond.fieldLink RX1 129 "CoastLights$Word" "DARK" "LCoastLights$Word;" ∈ tb := tb_3 114 (by decide +kernel) (by decide +kernel)
theorem cg_X1_135 : Cond.fieldLink RX1 135 "CoastLights$Word" "SHIP" "LCoastLights$Word;" ∈ tb := tb_3 121 (by decide +kernel) (by decide +kernel)
theorem cg_X1_141 : Cond.fieldLink RX1 141 "CoastLights$Word" "HAZE" "LCoastLights$Word;" ∈ tb := tb_3 127 (by decide +kernel) (by decide +kernel)
theorem cg_X1_190 : Cond.fieldLink RX1 190 "CoastLights$Word" "WHITE" "LCoastLights$Word;" ∈ tb := tb_3 84 (by decide +kernel) (by decide +kernel)
theorem cg_X1_193 : Cond.fieldLink RX1 193 "CoastLights$Word" "RED" "LCoastLights$Word;" ∈ tb := tb_3 86 (by decide +kernel) (by decide +kernel)
theorem cg_X1_196 : Cond.fieldLink RX1 196 "CoastLights$Word" "GREEN" "LCoastLights$Word;" ∈ tb := tb_3 88 (by decide +kernel) (by decide +kernel)
theorem cg_X7_57 : Cond.fieldLink RX7 57 "CoastLights$Word" "OR" "LCoastLights$Word;" ∈ tb := tb_6 52 (by decide +kernel) (by decide +kernel)
theorem cg_X7_77 : Cond.fieldLink RX7 77 "CoastLights$Word" "AND" "LCoastLights$Word;" ∈ tb := tb_6 50 (by decide +kernel) (by decide +kernel)
theorem cg_X7_98 : Cond.fieldLink RX7 98 "CoastLights$Word" "NOT" "LCoastLights$Word;" ∈ tb := tb_6 6 (by decide +kernel) (by decide +kernel)
theorem cg_X7_101 : Cond.fieldLink RX7 101 "CoastLights$Word" "OUT" "LCoastLights$Word;" ∈ tb := tb_6 9 (by decide +kernel) (by decide +kernel)
theorem cg_X7_104 : Cond.fieldLink RX7 104 "CoastLights$Word" "SHINING" "LCoastLights$Word;" ∈ tb := tb_6 11 (by decide +kernel) (by decide +kernel)
theorem cg_X7_107 : Cond.fieldLink RX7 107 "CoastLights$Word" "FIXED" "LCoastLights$Word;" ∈ tb := tb_6 13 (by decide +kernel) (by decide +kernel)
theorem cg_X7_110 : Cond.fieldLink RX7 110 "CoastLights$Word" "LIKE" "LCoastLights$Word;" ∈ tb := tb_6 15 (by decide +kernel) (by decide +kernel)
theorem cg_X7_113 : Cond.fieldLink RX7 113 "CoastLights$Word" "BY" "LCoastLights$Word;" ∈ tb := tb_6 17 (by decide +kernel) (by decide +kernel)
theorem cg_X7_116 : Cond.fieldLink RX7 116 "CoastLights$Word" "OIL" "LCoastLights$Word;" ∈ tb := tb_6 19 (by decide +kernel) (by decide +kernel)
theorem cg_X7_119 : Cond.fieldLink RX7 119 "CoastLights$Word" "PERIOD" "LCoastLights$Word;" ∈ tb := tb_6 21 (by decide +kernel) (by decide +kernel)
theorem cg_X7_122 : Cond.fieldLink RX7 122 "CoastLights$Word" "RANGE" "LCoastLights$Word;" ∈ tb := tb_6 23 (by decide +kernel) (by decide +kernel)
theorem cg_X7_125 : Cond.fieldLink RX7 125 "CoastLights$Word" "NUMBER" "LCoastLights$Word;" ∈ tb := tb_6 25 (by decide +kernel) (by decide +kernel)
theorem cg_X10_120 : Cond.fieldLink RX10 120 "CoastLights$Word" "ALL" "[LCoastLights$Word;" ∈ tb := tb_3 58 (by decide +kernel) (by decide +kernel)
theorem cm_X4_82 : Mth RX4 82 Lib.Math.min.name Lib.Math.min.code := ⟨tb_3 192 (by decide +kernel) (by decide +kernel), tb_3 14 (by decide +kernel) (by decide +kernel), tb_1 13 (by decide +kernel) (by decide +kernel), tb_3 15 (by decide +kernel) (by decide +kernel)⟩
theorem cm_X5_31 : Mth RX5 31 Lib.Math.min.name Lib.Math.min.code := ⟨tb_4 58 (by decide +kernel) (by decide +kernel), tb_3 14 (by decide +kernel) (by decide +kernel), tb_1 13 (by decide +kernel) (by decide +kernel), tb_3 15 (by decide +kernel) (by decide +kernel)⟩
theorem cm_X9_19 : Mth RX9 19 Lib.Math.min.name Lib.Math.min.code := ⟨tb_3 13 (by decide +kernel) (by decide +kernel), tb_3 14 (by decide +kernel) (by decide +kernel), tb_1 13 (by decide +kernel) (by decide +kernel), tb_3 15 (by decide +kernel) (by decide +kernel)⟩
theorem cm_X11_287 : Mth RX11 287 Lib.Math.max.name Lib.Math.max.code := ⟨tb_4 181 (by decide +kernel) (by decide +kernel), tb_4 182 (by decide +kernel) (by decide +kernel), tb_1 13 (by decide +kernel) (by decide +kernel), tb_4 183 (by decide +kernel) (by decide +kernel)⟩
theorem cw_J6_265 : Cond.constant RJ6 265 (1431655765) ∈ tb := tb_4 143 (by decide +kernel) (by decide +kernel)
theorem cw_J6_266 : Cond.constant RJ6 266 (858993459) ∈ tb := tb_4 144 (by decide +kernel) (by decide +kernel)
theorem cw_J6_267 : Cond.constant RJ6 267 (252645135) ∈ tb := tb_4 145 (by decide +kernel) (by decide +kernel)
theorem cw_X2_27 : Cond.constant RX2 27 (1103515245) ∈ tb := tb_5 132 (by decide +kernel) (by decide +kernel)
theorem cw_X12_87 : Cond.constantLong RX12 87 (465624852596) ∈ tb := tb_6 201 (by decide +kernel) (by decide +kernel)
theorem cw_X12_89 : Cond.constantLong RX12 89 (439904990056) ∈ tb := tb_6 202 (by decide +kernel) (by decide +kernel)
theorem cw_X12_91 : Cond.constantLong RX12 91 (1718775661) ∈ tb := tb_6 203 (by decide +kernel) (by decide +kernel)
theorem cw_X12_93 : Cond.constantLong RX12 93 (1684107883) ∈ tb := tb_6 204 (by decide +kernel) (by decide +kernel)
theorem cw_X12_95 : Cond.constantLong RX12 95 (1936222576) ∈ tb := tb_6 205 (by decide +kernel) (by decide +kernel)
theorem cw_X12_97 : Cond.constantLong RX12 97 (1751218789) ∈ tb := tb_6 206 (by decide +kernel) (by decide +kernel)
theorem cw_X12_99 : Cond.constantLong RX12 99 (512852849765) ∈ tb := tb_6 207 (by decide +kernel) (by decide +kernel)
theorem cw_X12_101 : Cond.constantLong RX12 101 (7497060) ∈ tb := tb_6 208 (by decide +kernel) (by decide +kernel)
theorem cw_X12_103 : Cond.constantLong RX12 103 (444300879214) ∈ tb := tb_6 209 (by decide +kernel) (by decide +kernel)
theorem cw_X12_105 : Cond.constantLong RX12 105 (431366697829) ∈ tb := tb_6 210 (by decide +kernel) (by decide +kernel)
theorem cw_X12_107 : Cond.constantLong RX12 107 (118100567813221) ∈ tb := tb_6 211 (by decide +kernel) (by decide +kernel)
theorem cw_X12_109 : Cond.constantLong RX12 109 (1718185068) ∈ tb := tb_6 212 (by decide +kernel) (by decide +kernel)
theorem cw_X12_111 : Cond.constantLong RX12 111 (495672977012) ∈ tb := tb_6 213 (by decide +kernel) (by decide +kernel)
theorem cw_X12_113 : Cond.constantLong RX12 113 (495874041202) ∈ tb := tb_6 214 (by decide +kernel) (by decide +kernel)
theorem cw_X12_115 : Cond.constantLong RX12 115 (126879297138276) ∈ tb := tb_6 215 (by decide +kernel) (by decide +kernel)
theorem cw_X12_117 : Cond.constantLong RX12 117 (28530) ∈ tb := tb_6 216 (by decide +kernel) (by decide +kernel)
theorem cw_X12_119 : Cond.constantLong RX12 119 (6385252) ∈ tb := tb_6 217 (by decide +kernel) (by decide +kernel)
theorem cw_X12_121 : Cond.constantLong RX12 121 (7237492) ∈ tb := tb_6 218 (by decide +kernel) (by decide +kernel)
theorem cw_X12_123 : Cond.constantLong RX12 123 (7304564) ∈ tb := tb_6 219 (by decide +kernel) (by decide +kernel)
theorem cw_X12_125 : Cond.constantLong RX12 125 (32484424354983527) ∈ tb := tb_6 220 (by decide +kernel) (by decide +kernel)
theorem cw_X12_127 : Cond.constantLong RX12 127 (439856162148) ∈ tb := tb_6 221 (by decide +kernel) (by decide +kernel)
theorem cw_X12_129 : Cond.constantLong RX12 129 (1818848101) ∈ tb := tb_6 222 (by decide +kernel) (by decide +kernel)
theorem cw_X12_131 : Cond.constantLong RX12 131 (25209) ∈ tb := tb_6 223 (by decide +kernel) (by decide +kernel)
theorem cw_X12_133 : Cond.constantLong RX12 133 (7301484) ∈ tb := tb_6 224 (by decide +kernel) (by decide +kernel)
theorem cw_X12_135 : Cond.constantLong RX12 135 (123581013520228) ∈ tb := tb_6 225 (by decide +kernel) (by decide +kernel)
theorem cw_X12_137 : Cond.constantLong RX12 137 (491260897125) ∈ tb := tb_6 226 (by decide +kernel) (by decide +kernel)
theorem cw_X12_139 : Cond.constantLong RX12 139 (121450625394034) ∈ tb := tb_6 227 (by decide +kernel) (by decide +kernel)
theorem cw_X12_404 : Cond.constantLong RX12 404 (255) ∈ tb := tb_9 35 (by decide +kernel) (by decide +kernel)
theorem cw_X12_413 : Cond.constantLong RX12 413 (24948) ∈ tb := tb_9 40 (by decide +kernel) (by decide +kernel)
theorem cw_X12_421 : Cond.constantLong RX12 421 (1936024947) ∈ tb := tb_9 49 (by decide +kernel) (by decide +kernel)
theorem cw_X12_426 : Cond.constant RX12 426 (1103515245) ∈ tb := tb_9 70 (by decide +kernel) (by decide +kernel)
theorem kdq_0_0 : kd 0 0 = 2 := by decide +kernel
theorem kdq_0_1 : kd 0 1 = 2 := by decide +kernel
theorem kdq_0_2 : kd 0 2 = 2 := by decide +kernel
theorem kdq_0_3 : kd 0 3 = 0 := by decide +kernel
theorem kdq_0_4 : kd 0 4 = 0 := by decide +kernel
theorem kdq_0_5 : kd 0 5 = 0 := by decide +kernel
theorem kdq_1_0 : kd 1 0 = 2 := by decide +kernel
theorem kdq_1_1 : kd 1 1 = 2 := by decide +kernel
theorem kdq_1_2 : kd 1 2 = 0 := by decide +kernel
theorem kdq_1_3 : kd 1 3 = 0 := by decide +kernel
theorem kdq_1_4 : kd 1 4 = 0 := by decide +kernel
theorem kdq_1_5 : kd 1 5 = 0 := by decide +kernel
theorem kdq_1_6 : kd 1 6 = 0 := by decide +kernel
theorem kdq_2_0 : kd 2 0 = 0 := by decide +kernel
theorem kdq_3_0 : kd 3 0 = 2 := by decide +kernel
theorem kdq_3_1 : kd 3 1 = 2 := by decide +kernel
theorem kdq_3_2 : kd 3 2 = 2 := by decide +kernel
theorem kdq_3_3 : kd 3 3 = 0 := by decide +kernel
theorem kdq_4_0 : kd 4 0 = 1 := by decide +kernel
theorem kdq_4_1 : kd 4 1 = 0 := by decide +kernel
theorem kdq_4_2 : kd 4 2 = 0 := by decide +kernel
theorem kdq_4_3 : kd 4 3 = 0 := by decide +kernel
theorem kdq_4_4 : kd 4 4 = 0 := by decide +kernel
theorem kdq_4_5 : kd 4 5 = 0 := by decide +kernel
theorem kdq_4_6 : kd 4 6 = 0 := by decide +kernel
theorem kdq_4_7 : kd 4 7 = 0 := by decide +kernel
theorem kdq_4_8 : kd 4 8 = 0 := by decide +kernel
theorem kdq_4_9 : kd 4 9 = 0 := by decide +kernel
theorem kdq_4_10 : kd 4 10 = 0 := by decide +kernel
theorem kdq_4_11 : kd 4 11 = 2 := by decide +kernel
theorem kdq_4_12 : kd 4 12 = 0 := by decide +kernel
theorem kdq_4_13 : kd 4 13 = 0 := by decide +kernel
theorem kdq_5_0 : kd 5 0 = 2 := by decide +kernel
theorem kdq_5_1 : kd 5 1 = 0 := by decide +kernel
theorem kdq_5_2 : kd 5 2 = 0 := by decide +kernel
theorem kdq_6_0 : kd 6 0 = 2 := by decide +kernel
theorem kdq_6_1 : kd 6 1 = 0 := by decide +kernel
theorem kdq_6_2 : kd 6 2 = 0 := by decide +kernel
theorem kdq_6_3 : kd 6 3 = 0 := by decide +kernel
theorem kdq_6_4 : kd 6 4 = 2 := by decide +kernel
theorem kdq_6_5 : kd 6 5 = 2 := by decide +kernel
theorem kdq_6_6 : kd 6 6 = 2 := by decide +kernel
theorem kdq_6_7 : kd 6 7 = 2 := by decide +kernel
theorem kdq_6_8 : kd 6 8 = 2 := by decide +kernel
theorem kdq_7_0 : kd 7 0 = 0 := by decide +kernel
theorem kdq_7_1 : kd 7 1 = 0 := by decide +kernel
theorem kdq_7_2 : kd 7 2 = 2 := by decide +kernel
theorem kdq_7_3 : kd 7 3 = 2 := by decide +kernel
theorem kdq_7_4 : kd 7 4 = 2 := by decide +kernel
theorem kdq_7_5 : kd 7 5 = 2 := by decide +kernel
theorem kdq_8_0 : kd 8 0 = 1 := by decide +kernel
theorem kdq_8_1 : kd 8 1 = 0 := by decide +kernel
theorem kdq_8_2 : kd 8 2 = 0 := by decide +kernel
theorem kdq_8_3 : kd 8 3 = 0 := by decide +kernel
theorem kdq_8_4 : kd 8 4 = 0 := by decide +kernel
theorem kdq_9_0 : kd 9 0 = 2 := by decide +kernel
theorem kdq_9_1 : kd 9 1 = 0 := by decide +kernel
theorem kdq_9_2 : kd 9 2 = 0 := by decide +kernel
theorem kdq_9_3 : kd 9 3 = 1 := by decide +kernel
theorem kdq_9_4 : kd 9 4 = 0 := by decide +kernel
theorem kdq_9_5 : kd 9 5 = 0 := by decide +kernel
theorem kdq_9_6 : kd 9 6 = 0 := by decide +kernel
theorem kdq_9_7 : kd 9 7 = 0 := by decide +kernel
theorem kdq_9_8 : kd 9 8 = 0 := by decide +kernel
theorem kdq_9_9 : kd 9 9 = 0 := by decide +kernel
theorem kdq_9_10 : kd 9 10 = 0 := by decide +kernel
theorem kdq_9_11 : kd 9 11 = 0 := by decide +kernel
theorem kdq_10_0 : kd 10 0 = 2 := by decide +kernel
theorem kdq_10_1 : kd 10 1 = 2 := by decide +kernel
theorem kdq_10_2 : kd 10 2 = 2 := by decide +kernel
theorem kdq_10_3 : kd 10 3 = 2 := by decide +kernel
theorem kdq_10_4 : kd 10 4 = 2 := by decide +kernel
theorem kdq_10_5 : kd 10 5 = 2 := by decide +kernel
theorem kdq_10_6 : kd 10 6 = 2 := by decide +kernel
theorem kdq_10_7 : kd 10 7 = 2 := by decide +kernel
theorem kdq_10_8 : kd 10 8 = 2 := by decide +kernel
theorem kdq_10_9 : kd 10 9 = 2 := by decide +kernel
theorem kdq_10_10 : kd 10 10 = 2 := by decide +kernel
theorem kdq_10_11 : kd 10 11 = 2 := by decide +kernel
theorem kdq_10_12 : kd 10 12 = 2 := by decide +kernel
theorem kdq_10_13 : kd 10 13 = 2 := by decide +kernel
theorem kdq_10_14 : kd 10 14 = 0 := by decide +kernel
theorem kdq_10_15 : kd 10 15 = 0 := by decide +kernel
theorem kdq_10_16 : kd 10 16 = 0 := by decide +kernel
theorem kdq_10_17 : kd 10 17 = 0 := by decide +kernel
theorem kdq_10_18 : kd 10 18 = 0 := by decide +kernel
theorem kdq_10_19 : kd 10 19 = 0 := by decide +kernel
theorem kdq_11_0 : kd 11 0 = 0 := by decide +kernel
theorem kdq_11_1 : kd 11 1 = 2 := by decide +kernel
theorem kdq_11_2 : kd 11 2 = 0 := by decide +kernel
theorem kdq_11_3 : kd 11 3 = 0 := by decide +kernel
theorem kdq_11_4 : kd 11 4 = 0 := by decide +kernel
theorem kdq_11_5 : kd 11 5 = 0 := by decide +kernel
theorem kdq_11_6 : kd 11 6 = 2 := by decide +kernel
theorem kdq_11_7 : kd 11 7 = 2 := by decide +kernel
theorem kdq_11_8 : kd 11 8 = 2 := by decide +kernel
theorem kdq_11_9 : kd 11 9 = 2 := by decide +kernel
theorem kdq_11_10 : kd 11 10 = 2 := by decide +kernel
theorem kdq_11_11 : kd 11 11 = 0 := by decide +kernel
theorem kdq_11_12 : kd 11 12 = 0 := by decide +kernel
theorem kdq_11_13 : kd 11 13 = 0 := by decide +kernel
theorem kdq_11_14 : kd 11 14 = 0 := by decide +kernel
theorem kdq_11_15 : kd 11 15 = 0 := by decide +kernel
theorem kdq_11_16 : kd 11 16 = 0 := by decide +kernel
theorem kdq_11_17 : kd 11 17 = 1 := by decide +kernel
theorem kdq_11_18 : kd 11 18 = 0 := by decide +kernel
theorem kdq_11_19 : kd 11 19 = 0 := by decide +kernel
theorem kdq_11_20 : kd 11 20 = 0 := by decide +kernel
theorem kdq_11_21 : kd 11 21 = 0 := by decide +kernel
theorem kdq_11_22 : kd 11 22 = 2 := by decide +kernel
theorem kdq_11_23 : kd 11 23 = 2 := by decide +kernel
theorem kdq_11_24 : kd 11 24 = 0 := by decide +kernel
theorem kdq_11_25 : kd 11 25 = 2 := by decide +kernel
theorem kdq_11_26 : kd 11 26 = 0 := by decide +kernel
theorem kdq_11_27 : kd 11 27 = 0 := by decide +kernel
theorem kdq_11_28 : kd 11 28 = 2 := by decide +kernel
theorem kdq_11_29 : kd 11 29 = 2 := by decide +kernel
theorem kdq_11_30 : kd 11 30 = 0 := by decide +kernel
theorem kdq_11_31 : kd 11 31 = 0 := by decide +kernel
theorem kdq_11_32 : kd 11 32 = 0 := by decide +kernel
theorem kdq_11_33 : kd 11 33 = 0 := by decide +kernel
theorem kdq_11_34 : kd 11 34 = 0 := by decide +kernel
theorem kdq_11_35 : kd 11 35 = 0 := by decide +kernel
theorem kdq_11_36 : kd 11 36 = 0 := by decide +kernel
theorem kdq_11_37 : kd 11 37 = 2 := by decide +kernel
theorem kdq_11_38 : kd 11 38 = 0 := by decide +kernel
theorem kdq_11_39 : kd 11 39 = 0 := by decide +kernel
theorem kdq_11_40 : kd 11 40 = 0 := by decide +kernel
theorem kdq_11_41 : kd 11 41 = 2 := by decide +kernel
theorem kdq_11_42 : kd 11 42 = 0 := by decide +kernel
theorem kdq_11_43 : kd 11 43 = 2 := by decide +kernel
theorem kdq_11_44 : kd 11 44 = 0 := by decide +kernel
theorem kdq_11_45 : kd 11 45 = 0 := by decide +kernel
theorem kdq_11_46 : kd 11 46 = 0 := by decide +kernel
theorem kdq_11_47 : kd 11 47 = 0 := by decide +kernel
theorem kdq_11_48 : kd 11 48 = 0 := by decide +kernel
theorem kdq_11_49 : kd 11 49 = 2 := by decide +kernel
theorem kdq_11_50 : kd 11 50 = 2 := by decide +kernel
theorem kdq_11_51 : kd 11 51 = 2 := by decide +kernel
theorem kdq_11_52 : kd 11 52 = 2 := by decide +kernel
theorem lnq_2 : ln 2 = 940 := by decide +kernel
theorem lnq_4 : ln 4 = 8 := by decide +kernel
theorem lnq_5 : ln 5 = 4 := by decide +kernel
theorem lnq_52 : ln 52 = 4 := by decide +kernel
theorem lnq_53 : ln 53 = 4 := by decide +kernel
theorem lnq_54 : ln 54 = 4 := by decide +kernel
theorem lnq_72 : ln 72 = 40 := by decide +kernel
theorem lnq_73 : ln 73 = 40 := by decide +kernel
theorem lnq_74 : ln 74 = 40 := by decide +kernel
theorem lnq_76 : ln 76 = 9 := by decide +kernel
theorem lnq_132 : ln 132 = 2 := by decide +kernel
theorem lnq_133 : ln 133 = 8 := by decide +kernel
theorem lnq_134 : ln 134 = 4 := by decide +kernel
theorem lnq_135 : ln 135 = 32 := by decide +kernel
theorem lnq_207 : ln 207 = 940 := by decide +kernel
theorem lnq_208 : ln 208 = 359 := by decide +kernel
theorem lnq_209 : ln 209 = 147 := by decide +kernel
theorem lnq_210 : ln 210 = 135 := by decide +kernel
theorem lnq_211 : ln 211 = 24 := by decide +kernel
theorem lnq_212 : ln 212 = 27 := by decide +kernel
theorem lnq_213 : ln 213 = 248 := by decide +kernel
theorem lnq_214 : ln 214 = 31 := by decide +kernel
theorem lnq_215 : ln 215 = 8 := by decide +kernel
theorem lnq_216 : ln 216 = 160 := by decide +kernel
theorem lnq_217 : ln 217 = 8 := by decide +kernel
theorem lnq_218 : ln 218 = 40 := by decide +kernel
theorem lnq_219 : ln 219 = 4 := by decide +kernel
theorem lnq_220 : ln 220 = 45 := by decide +kernel
theorem lnq_221 : ln 221 = 45 := by decide +kernel
theorem lnq_222 : ln 222 = 718 := by decide +kernel
theorem lnq_223 : ln 223 = 24 := by decide +kernel
theorem lnq_224 : ln 224 = 2 := by decide +kernel
theorem mw_J6_bitCount_0f7a4 : Mw mJ6_bitCount_0f7a4 1 := ⟨tb_4 142 (by decide +kernel) (by decide +kernel), tb_1 21 (by decide +kernel) (by decide +kernel), by decide +kernel, mw_sig (by decide +kernel), by decide⟩
theorem mw_X0_kindAt : Mw mX0_kindAt 1 := ⟨tb_5 163 (by decide +kernel) (by decide +kernel), tb_1 8 (by decide +kernel) (by decide +kernel), by decide +kernel, mw_sig (by decide +kernel), by decide⟩
theorem mw_X0_live : Mw mX0_live 1 := ⟨tb_5 199 (by decide +kernel) (by decide +kernel), tb_1 8 (by decide +kernel) (by decide +kernel), by decide +kernel, mw_sig (by decide +kernel), by decide⟩
theorem mw_X0_liveLine : Mw mX0_liveLine 2 := ⟨tb_5 203 (by decide +kernel) (by decide +kernel), tb_1 8 (by decide +kernel) (by decide +kernel), by decide +kernel, mw_sig (by decide +kernel), by decide⟩
theorem mw_X0_read : Mw mX0_read 2 := ⟨tb_5 155 (by decide +kernel) (by decide +kernel), tb_1 8 (by decide +kernel) (by decide +kernel), by decide +kernel, mw_sig (by decide +kernel), by decide⟩
theorem mw_X0_readAmount : Mw mX0_readAmount 2 := ⟨tb_5 192 (by decide +kernel) (by decide +kernel), tb_1 8 (by decide +kernel) (by decide +kernel), by decide +kernel, mw_sig (by decide +kernel), by decide⟩
theorem mw_X0_readLine : Mw mX0_readLine 2 := ⟨tb_5 160 (by decide +kernel) (by decide +kernel), tb_1 8 (by decide +kernel) (by decide +kernel), by decide +kernel, mw_sig (by decide +kernel), by decide⟩
theorem mw_X0_readWhom : Mw mX0_readWhom 3 := ⟨tb_5 183 (by decide +kernel) (by decide +kernel), tb_1 8 (by decide +kernel) (by decide +kernel), by decide +kernel, mw_sig (by decide +kernel), by decide⟩
theorem mw_X0_whyWrong : Mw mX0_whyWrong 2 := ⟨tb_5 207 (by decide +kernel) (by decide +kernel), tb_1 8 (by decide +kernel) (by decide +kernel), by decide +kernel, mw_sig (by decide +kernel), by decide⟩
theorem mw_X1_allLights : Mw mX1_allLights 0 := ⟨tb_4 157 (by decide +kernel) (by decide +kernel), tb_1 3 (by decide +kernel) (by decide +kernel), by decide +kernel, mw_sig (by decide +kernel), by decide⟩
theorem mw_X1_atNewName : Mw mX1_atNewName 1 := ⟨tb_3 50 (by decide +kernel) (by decide +kernel), tb_1 3 (by decide +kernel) (by decide +kernel), by decide +kernel, mw_sig (by decide +kernel), by decide⟩
theorem mw_X1_colourAt : Mw mX1_colourAt 1 := ⟨tb_3 83 (by decide +kernel) (by decide +kernel), tb_1 3 (by decide +kernel) (by decide +kernel), by decide +kernel, mw_sig (by decide +kernel), by decide⟩
theorem mw_X1_compareLights : Mw mX1_compareLights 0 := ⟨tb_3 167 (by decide +kernel) (by decide +kernel), tb_1 3 (by decide +kernel) (by decide +kernel), by decide +kernel, mw_sig (by decide +kernel), by decide⟩
theorem mw_X1_comparePair : Mw mX1_comparePair 2 := ⟨tb_3 171 (by decide +kernel) (by decide +kernel), tb_1 3 (by decide +kernel) (by decide +kernel), by decide +kernel, mw_sig (by decide +kernel), by decide⟩
theorem mw_X1_copyFrom : Mw mX1_copyFrom 1 := ⟨tb_3 152 (by decide +kernel) (by decide +kernel), tb_1 3 (by decide +kernel) (by decide +kernel), by decide +kernel, mw_sig (by decide +kernel), by decide⟩
theorem mw_X1_endsAllConfusion : Mw mX1_endsAllConfusion 1 := ⟨tb_4 161 (by decide +kernel) (by decide +kernel), tb_1 3 (by decide +kernel) (by decide +kernel), by decide +kernel, mw_sig (by decide +kernel), by decide⟩
theorem mw_X1_fewestChanged : Mw mX1_fewestChanged 0 := ⟨tb_4 153 (by decide +kernel) (by decide +kernel), tb_1 3 (by decide +kernel) (by decide +kernel), by decide +kernel, mw_sig (by decide +kernel), by decide⟩
theorem mw_X1_fixedLights : Mw mX1_fixedLights 0 := ⟨tb_6 77 (by decide +kernel) (by decide +kernel), tb_1 3 (by decide +kernel) (by decide +kernel), by decide +kernel, mw_sig (by decide +kernel), by decide⟩
theorem mw_X1_lightAt : Mw mX1_lightAt 1 := ⟨tb_3 99 (by decide +kernel) (by decide +kernel), tb_1 3 (by decide +kernel) (by decide +kernel), by decide +kernel, mw_sig (by decide +kernel), by decide⟩
theorem mw_X1_lightNamed : Mw mX1_lightNamed 1 := ⟨tb_3 63 (by decide +kernel) (by decide +kernel), tb_1 3 (by decide +kernel) (by decide +kernel), by decide +kernel, mw_sig (by decide +kernel), by decide⟩
theorem mw_X1_pairsConfused : Mw mX1_pairsConfused 0 := ⟨tb_4 139 (by decide +kernel) (by decide +kernel), tb_1 3 (by decide +kernel) (by decide +kernel), by decide +kernel, mw_sig (by decide +kernel), by decide⟩
theorem mw_X1_read : Mw mX1_read 1 := ⟨tb_3 8 (by decide +kernel) (by decide +kernel), tb_1 3 (by decide +kernel) (by decide +kernel), by decide +kernel, mw_sig (by decide +kernel), by decide⟩
theorem mw_X1_readDark : Mw mX1_readDark 1 := ⟨tb_3 119 (by decide +kernel) (by decide +kernel), tb_1 3 (by decide +kernel) (by decide +kernel), by decide +kernel, mw_sig (by decide +kernel), by decide⟩
theorem mw_X1_readFlash : Mw mX1_readFlash 1 := ⟨tb_3 95 (by decide +kernel) (by decide +kernel), tb_1 3 (by decide +kernel) (by decide +kernel), by decide +kernel, mw_sig (by decide +kernel), by decide⟩
theorem mw_X1_readFrom : Mw mX1_readFrom 1 := ⟨tb_3 113 (by decide +kernel) (by decide +kernel), tb_1 3 (by decide +kernel) (by decide +kernel), by decide +kernel, mw_sig (by decide +kernel), by decide⟩
theorem mw_X1_readHaze : Mw mX1_readHaze 1 := ⟨tb_3 132 (by decide +kernel) (by decide +kernel), tb_1 3 (by decide +kernel) (by decide +kernel), by decide +kernel, mw_sig (by decide +kernel), by decide⟩
theorem mw_X1_readLight : Mw mX1_readLight 1 := ⟨tb_3 41 (by decide +kernel) (by decide +kernel), tb_1 3 (by decide +kernel) (by decide +kernel), by decide +kernel, mw_sig (by decide +kernel), by decide⟩
theorem mw_X1_readLine : Mw mX1_readLine 1 := ⟨tb_3 31 (by decide +kernel) (by decide +kernel), tb_1 3 (by decide +kernel) (by decide +kernel), by decide +kernel, mw_sig (by decide +kernel), by decide⟩
theorem mw_X1_readShip : Mw mX1_readShip 1 := ⟨tb_3 126 (by decide +kernel) (by decide +kernel), tb_1 3 (by decide +kernel) (by decide +kernel), by decide +kernel, mw_sig (by decide +kernel), by decide⟩
theorem mw_X1_shipAt : Mw mX1_shipAt 1 := ⟨tb_5 187 (by decide +kernel) (by decide +kernel), tb_1 3 (by decide +kernel) (by decide +kernel), by decide +kernel, mw_sig (by decide +kernel), by decide⟩
theorem mw_X1_shipNamed : Mw mX1_shipNamed 1 := ⟨tb_3 67 (by decide +kernel) (by decide +kernel), tb_1 3 (by decide +kernel) (by decide +kernel), by decide +kernel, mw_sig (by decide +kernel), by decide⟩
theorem mw_X2_act : Mw mX2_act 1 := ⟨tb_5 127 (by decide +kernel) (by decide +kernel), tb_1 10 (by decide +kernel) (by decide +kernel), by decide +kernel, mw_sig (by decide +kernel), by decide⟩
theorem mw_X2_begin : Mw mX2_begin 1 := ⟨tb_5 119 (by decide +kernel) (by decide +kernel), tb_1 10 (by decide +kernel) (by decide +kernel), by decide +kernel, mw_sig (by decide +kernel), by decide⟩
theorem mw_X2_douseOrKindle : Mw mX2_douseOrKindle 2 := ⟨tb_5 136 (by decide +kernel) (by decide +kernel), tb_1 10 (by decide +kernel) (by decide +kernel), by decide +kernel, mw_sig (by decide +kernel), by decide⟩
theorem mw_X2_draw : Mw mX2_draw 1 := ⟨tb_5 131 (by decide +kernel) (by decide +kernel), tb_1 10 (by decide +kernel) (by decide +kernel), by decide +kernel, mw_sig (by decide +kernel), by decide⟩
theorem mw_X2_liveSeconds : Mw mX2_liveSeconds 2 := ⟨tb_5 123 (by decide +kernel) (by decide +kernel), tb_1 10 (by decide +kernel) (by decide +kernel), by decide +kernel, mw_sig (by decide +kernel), by decide⟩
theorem mw_X4_addFlash : Mw mX4_addFlash 2 := ⟨tb_3 103 (by decide +kernel) (by decide +kernel), tb_1 4 (by decide +kernel) (by decide +kernel), by decide +kernel, mw_sig (by decide +kernel), by decide⟩
theorem mw_X4_addSeconds : Mw mX4_addSeconds 2 := ⟨tb_3 107 (by decide +kernel) (by decide +kernel), tb_1 4 (by decide +kernel) (by decide +kernel), by decide +kernel, mw_sig (by decide +kernel), by decide⟩
theorem mw_X4_begin : Mw mX4_begin 1 := ⟨tb_3 71 (by decide +kernel) (by decide +kernel), tb_1 4 (by decide +kernel) (by decide +kernel), by decide +kernel, mw_sig (by decide +kernel), by decide⟩
theorem mw_X4_copyFrom : Mw mX4_copyFrom 1 := ⟨tb_3 156 (by decide +kernel) (by decide +kernel), tb_1 4 (by decide +kernel) (by decide +kernel), by decide +kernel, mw_sig (by decide +kernel), by decide⟩
theorem mw_X4_hasRowFrom : Mw mX4_hasRowFrom 2 := ⟨tb_3 179 (by decide +kernel) (by decide +kernel), tb_1 4 (by decide +kernel) (by decide +kernel), by decide +kernel, mw_sig (by decide +kernel), by decide⟩
theorem mw_X4_isAlike : Mw mX4_isAlike 1 := ⟨tb_3 175 (by decide +kernel) (by decide +kernel), tb_1 4 (by decide +kernel) (by decide +kernel), by decide +kernel, mw_sig (by decide +kernel), by decide⟩
theorem mw_X4_isInOneSight : Mw mX4_isInOneSight 1 := ⟨tb_3 187 (by decide +kernel) (by decide +kernel), tb_1 4 (by decide +kernel) (by decide +kernel), by decide +kernel, mw_sig (by decide +kernel), by decide⟩
theorem mw_X4_isVisible : Mw mX4_isVisible 3 := ⟨tb_3 191 (by decide +kernel) (by decide +kernel), tb_1 4 (by decide +kernel) (by decide +kernel), by decide +kernel, mw_sig (by decide +kernel), by decide⟩
theorem mw_X4_placeBehind : Mw mX4_placeBehind 1 := ⟨tb_3 183 (by decide +kernel) (by decide +kernel), tb_1 4 (by decide +kernel) (by decide +kernel), by decide +kernel, mw_sig (by decide +kernel), by decide⟩
theorem mw_X4_sameFor : Mw mX4_sameFor 3 := ⟨tb_4 175 (by decide +kernel) (by decide +kernel), tb_1 4 (by decide +kernel) (by decide +kernel), by decide +kernel, mw_sig (by decide +kernel), by decide⟩
theorem mw_X4_secondsOn : Mw mX4_secondsOn 0 := ⟨tb_5 28 (by decide +kernel) (by decide +kernel), tb_1 4 (by decide +kernel) (by decide +kernel), by decide +kernel, mw_sig (by decide +kernel), by decide⟩
theorem mw_X4_shownAt : Mw mX4_shownAt 1 := ⟨tb_4 179 (by decide +kernel) (by decide +kernel), tb_1 4 (by decide +kernel) (by decide +kernel), by decide +kernel, mw_sig (by decide +kernel), by decide⟩
theorem mw_X5_clear : Mw mX5_clear 0 := ⟨tb_3 203 (by decide +kernel) (by decide +kernel), tb_1 9 (by decide +kernel) (by decide +kernel), by decide +kernel, mw_sig (by decide +kernel), by decide⟩
theorem mw_X5_keep : Mw mX5_keep 0 := ⟨tb_4 57 (by decide +kernel) (by decide +kernel), tb_1 9 (by decide +kernel) (by decide +kernel), by decide +kernel, mw_sig (by decide +kernel), by decide⟩
theorem mw_X5_mark : Mw mX5_mark 1 := ⟨tb_4 40 (by decide +kernel) (by decide +kernel), tb_1 9 (by decide +kernel) (by decide +kernel), by decide +kernel, mw_sig (by decide +kernel), by decide⟩
theorem mw_X5_takeBack : Mw mX5_takeBack 1 := ⟨tb_4 131 (by decide +kernel) (by decide +kernel), tb_1 9 (by decide +kernel) (by decide +kernel), by decide +kernel, mw_sig (by decide +kernel), by decide⟩
theorem mw_X6_begin : Mw mX6_begin 0 := ⟨tb_2 167 (by decide +kernel) (by decide +kernel), tb_1 6 (by decide +kernel) (by decide +kernel), by decide +kernel, mw_sig (by decide +kernel), by decide⟩
theorem mw_X6_copyFrom : Mw mX6_copyFrom 1 := ⟨tb_4 44 (by decide +kernel) (by decide +kernel), tb_1 6 (by decide +kernel) (by decide +kernel), by decide +kernel, mw_sig (by decide +kernel), by decide⟩
theorem mw_X6_emptyOnes : Mw mX6_emptyOnes 0 := ⟨tb_4 28 (by decide +kernel) (by decide +kernel), tb_1 6 (by decide +kernel) (by decide +kernel), by decide +kernel, mw_sig (by decide +kernel), by decide⟩
theorem mw_X6_isOut : Mw mX6_isOut 1 := ⟨tb_4 5 (by decide +kernel) (by decide +kernel), tb_1 6 (by decide +kernel) (by decide +kernel), by decide +kernel, mw_sig (by decide +kernel), by decide⟩
theorem mw_X6_moveOn : Mw mX6_moveOn 2 := ⟨tb_4 82 (by decide +kernel) (by decide +kernel), tb_1 6 (by decide +kernel) (by decide +kernel), by decide +kernel, mw_sig (by decide +kernel), by decide⟩
theorem mw_X6_oilOfAll : Mw mX6_oilOfAll 0 := ⟨tb_4 32 (by decide +kernel) (by decide +kernel), tb_1 6 (by decide +kernel) (by decide +kernel), by decide +kernel, mw_sig (by decide +kernel), by decide⟩
theorem mw_X6_pass : Mw mX6_pass 1 := ⟨tb_4 106 (by decide +kernel) (by decide +kernel), tb_1 6 (by decide +kernel) (by decide +kernel), by decide +kernel, mw_sig (by decide +kernel), by decide⟩
theorem mw_X6_passAll : Mw mX6_passAll 1 := ⟨tb_5 216 (by decide +kernel) (by decide +kernel), tb_1 6 (by decide +kernel) (by decide +kernel), by decide +kernel, mw_sig (by decide +kernel), by decide⟩
theorem mw_X6_passOne : Mw mX6_passOne 0 := ⟨tb_4 110 (by decide +kernel) (by decide +kernel), tb_1 6 (by decide +kernel) (by decide +kernel), by decide +kernel, mw_sig (by decide +kernel), by decide⟩
theorem mw_X6_placeOf : Mw mX6_placeOf 1 := ⟨tb_4 9 (by decide +kernel) (by decide +kernel), tb_1 6 (by decide +kernel) (by decide +kernel), by decide +kernel, mw_sig (by decide +kernel), by decide⟩
theorem mw_X6_pourInto : Mw mX6_pourInto 2 := ⟨tb_4 74 (by decide +kernel) (by decide +kernel), tb_1 6 (by decide +kernel) (by decide +kernel), by decide +kernel, mw_sig (by decide +kernel), by decide⟩
theorem mw_X6_putOut : Mw mX6_putOut 1 := ⟨tb_4 49 (by decide +kernel) (by decide +kernel), tb_1 6 (by decide +kernel) (by decide +kernel), by decide +kernel, mw_sig (by decide +kernel), by decide⟩
theorem mw_X6_relight : Mw mX6_relight 1 := ⟨tb_4 66 (by decide +kernel) (by decide +kernel), tb_1 6 (by decide +kernel) (by decide +kernel), by decide +kernel, mw_sig (by decide +kernel), by decide⟩
theorem mw_X6_sail : Mw mX6_sail 1 := ⟨tb_4 114 (by decide +kernel) (by decide +kernel), tb_1 6 (by decide +kernel) (by decide +kernel), by decide +kernel, mw_sig (by decide +kernel), by decide⟩
theorem mw_X6_secondsToBurn : Mw mX6_secondsToBurn 1 := ⟨tb_5 24 (by decide +kernel) (by decide +kernel), tb_1 6 (by decide +kernel) (by decide +kernel), by decide +kernel, mw_sig (by decide +kernel), by decide⟩
theorem mw_X6_seenBy : Mw mX6_seenBy 1 := ⟨tb_3 232 (by decide +kernel) (by decide +kernel), tb_1 6 (by decide +kernel) (by decide +kernel), by decide +kernel, mw_sig (by decide +kernel), by decide⟩
theorem mw_X6_setHaze : Mw mX6_setHaze 1 := ⟨tb_4 98 (by decide +kernel) (by decide +kernel), tb_1 6 (by decide +kernel) (by decide +kernel), by decide +kernel, mw_sig (by decide +kernel), by decide⟩
theorem mw_X6_shines : Mw mX6_shines 1 := ⟨tb_4 1 (by decide +kernel) (by decide +kernel), tb_1 6 (by decide +kernel) (by decide +kernel), by decide +kernel, mw_sig (by decide +kernel), by decide⟩
theorem mw_X6_shiningOnes : Mw mX6_shiningOnes 0 := ⟨tb_3 237 (by decide +kernel) (by decide +kernel), tb_1 6 (by decide +kernel) (by decide +kernel), by decide +kernel, mw_sig (by decide +kernel), by decide⟩
theorem mw_X6_turn : Mw mX6_turn 2 := ⟨tb_4 90 (by decide +kernel) (by decide +kernel), tb_1 6 (by decide +kernel) (by decide +kernel), by decide +kernel, mw_sig (by decide +kernel), by decide⟩
theorem mw_X6_visibleFrom : Mw mX6_visibleFrom 2 := ⟨tb_3 227 (by decide +kernel) (by decide +kernel), tb_1 6 (by decide +kernel) (by decide +kernel), by decide +kernel, mw_sig (by decide +kernel), by decide⟩
theorem mw_X7_add : Mw mX7_add 3 := ⟨tb_6 34 (by decide +kernel) (by decide +kernel), tb_1 7 (by decide +kernel) (by decide +kernel), by decide +kernel, mw_sig (by decide +kernel), by decide⟩
theorem mw_X7_clear : Mw mX7_clear 0 := ⟨tb_3 199 (by decide +kernel) (by decide +kernel), tb_1 7 (by decide +kernel) (by decide +kernel), by decide +kernel, mw_sig (by decide +kernel), by decide⟩
theorem mw_X7_copyFrom : Mw mX7_copyFrom 1 := ⟨tb_6 58 (by decide +kernel) (by decide +kernel), tb_1 7 (by decide +kernel) (by decide +kernel), by decide +kernel, mw_sig (by decide +kernel), by decide⟩
theorem mw_X7_kindAt : Mw mX7_kindAt 1 := ⟨tb_6 5 (by decide +kernel) (by decide +kernel), tb_1 7 (by decide +kernel) (by decide +kernel), by decide +kernel, mw_sig (by decide +kernel), by decide⟩
theorem mw_X7_measureOf : Mw mX7_measureOf 3 := ⟨tb_6 85 (by decide +kernel) (by decide +kernel), tb_1 7 (by decide +kernel) (by decide +kernel), by decide +kernel, mw_sig (by decide +kernel), by decide⟩
theorem mw_X7_measuredSet : Mw mX7_measuredSet 2 := ⟨tb_6 82 (by decide +kernel) (by decide +kernel), tb_1 7 (by decide +kernel) (by decide +kernel), by decide +kernel, mw_sig (by decide +kernel), by decide⟩
theorem mw_X7_plainSet : Mw mX7_plainSet 2 := ⟨tb_6 72 (by decide +kernel) (by decide +kernel), tb_1 7 (by decide +kernel) (by decide +kernel), by decide +kernel, mw_sig (by decide +kernel), by decide⟩
theorem mw_X7_read : Mw mX7_read 2 := ⟨tb_5 228 (by decide +kernel) (by decide +kernel), tb_1 7 (by decide +kernel) (by decide +kernel), by decide +kernel, mw_sig (by decide +kernel), by decide⟩
theorem mw_X7_readAll : Mw mX7_readAll 3 := ⟨tb_5 238 (by decide +kernel) (by decide +kernel), tb_1 7 (by decide +kernel) (by decide +kernel), by decide +kernel, mw_sig (by decide +kernel), by decide⟩
theorem mw_X7_readCondition : Mw mX7_readCondition 3 := ⟨tb_5 234 (by decide +kernel) (by decide +kernel), tb_1 7 (by decide +kernel) (by decide +kernel), by decide +kernel, mw_sig (by decide +kernel), by decide⟩
theorem mw_X7_readMeasure : Mw mX7_readMeasure 2 := ⟨tb_6 48 (by decide +kernel) (by decide +kernel), tb_1 7 (by decide +kernel) (by decide +kernel), by decide +kernel, mw_sig (by decide +kernel), by decide⟩
theorem mw_X7_readNamed : Mw mX7_readNamed 3 := ⟨tb_6 43 (by decide +kernel) (by decide +kernel), tb_1 7 (by decide +kernel) (by decide +kernel), by decide +kernel, mw_sig (by decide +kernel), by decide⟩
theorem mw_X7_readOne : Mw mX7_readOne 3 := ⟨tb_6 2 (by decide +kernel) (by decide +kernel), tb_1 7 (by decide +kernel) (by decide +kernel), by decide +kernel, mw_sig (by decide +kernel), by decide⟩
theorem mw_X7_readPlain : Mw mX7_readPlain 3 := ⟨tb_6 38 (by decide +kernel) (by decide +kernel), tb_1 7 (by decide +kernel) (by decide +kernel), by decide +kernel, mw_sig (by decide +kernel), by decide⟩
theorem mw_X7_saidOf : Mw mX7_saidOf 1 := ⟨tb_6 67 (by decide +kernel) (by decide +kernel), tb_1 7 (by decide +kernel) (by decide +kernel), by decide +kernel, mw_sig (by decide +kernel), by decide⟩
theorem mw_X8_copyFrom : Mw mX8_copyFrom 1 := ⟨tb_3 163 (by decide +kernel) (by decide +kernel), tb_1 5 (by decide +kernel) (by decide +kernel), by decide +kernel, mw_sig (by decide +kernel), by decide⟩
theorem mw_X9_atEnd : Mw mX9_atEnd 0 := ⟨tb_3 144 (by decide +kernel) (by decide +kernel), tb_1 2 (by decide +kernel) (by decide +kernel), by decide +kernel, mw_sig (by decide +kernel), by decide⟩
theorem mw_X9_atNumber : Mw mX9_atNumber 2 := ⟨tb_3 79 (by decide +kernel) (by decide +kernel), tb_1 2 (by decide +kernel) (by decide +kernel), by decide +kernel, mw_sig (by decide +kernel), by decide⟩
theorem mw_X9_fitsFrom : Mw mX9_fitsFrom 2 := ⟨tb_4 208 (by decide +kernel) (by decide +kernel), tb_1 2 (by decide +kernel) (by decide +kernel), by decide +kernel, mw_sig (by decide +kernel), by decide⟩
theorem mw_X9_is : Mw mX9_is 1 := ⟨tb_3 37 (by decide +kernel) (by decide +kernel), tb_1 2 (by decide +kernel) (by decide +kernel), by decide +kernel, mw_sig (by decide +kernel), by decide⟩
theorem mw_X9_isName : Mw mX9_isName 0 := ⟨tb_3 54 (by decide +kernel) (by decide +kernel), tb_1 2 (by decide +kernel) (by decide +kernel), by decide +kernel, mw_sig (by decide +kernel), by decide⟩
theorem mw_X9_isShownRow : Mw mX9_isShownRow 0 := ⟨tb_4 196 (by decide +kernel) (by decide +kernel), tb_1 2 (by decide +kernel) (by decide +kernel), by decide +kernel, mw_sig (by decide +kernel), by decide⟩
theorem mw_X9_isSign : Mw mX9_isSign 1 := ⟨tb_3 140 (by decide +kernel) (by decide +kernel), tb_1 2 (by decide +kernel) (by decide +kernel), by decide +kernel, mw_sig (by decide +kernel), by decide⟩
theorem mw_X9_leastFit : Mw mX9_leastFit 1 := ⟨tb_4 204 (by decide +kernel) (by decide +kernel), tb_1 2 (by decide +kernel) (by decide +kernel), by decide +kernel, mw_sig (by decide +kernel), by decide⟩
theorem mw_X9_next : Mw mX9_next 0 := ⟨tb_3 19 (by decide +kernel) (by decide +kernel), tb_1 2 (by decide +kernel) (by decide +kernel), by decide +kernel, mw_sig (by decide +kernel), by decide⟩
theorem mw_X9_open : Mw mX9_open 1 := ⟨tb_3 12 (by decide +kernel) (by decide +kernel), tb_1 2 (by decide +kernel) (by decide +kernel), by decide +kernel, mw_sig (by decide +kernel), by decide⟩
theorem mw_X9_put : Mw mX9_put 1 := ⟨tb_2 236 (by decide +kernel) (by decide +kernel), tb_1 2 (by decide +kernel) (by decide +kernel), by decide +kernel, mw_sig (by decide +kernel), by decide⟩
theorem mw_X9_readRun : Mw mX9_readRun 0 := ⟨tb_3 23 (by decide +kernel) (by decide +kernel), tb_1 2 (by decide +kernel) (by decide +kernel), by decide +kernel, mw_sig (by decide +kernel), by decide⟩
theorem mw_X9_readSign : Mw mX9_readSign 0 := ⟨tb_3 27 (by decide +kernel) (by decide +kernel), tb_1 2 (by decide +kernel) (by decide +kernel), by decide +kernel, mw_sig (by decide +kernel), by decide⟩
theorem mw_X9_refuse : Mw mX9_refuse 1 := ⟨tb_3 45 (by decide +kernel) (by decide +kernel), tb_1 2 (by decide +kernel) (by decide +kernel), by decide +kernel, mw_sig (by decide +kernel), by decide⟩
theorem mw_X9_takeNumber : Mw mX9_takeNumber 2 := ⟨tb_3 75 (by decide +kernel) (by decide +kernel), tb_1 2 (by decide +kernel) (by decide +kernel), by decide +kernel, mw_sig (by decide +kernel), by decide⟩
theorem mw_X9_takeSign : Mw mX9_takeSign 1 := ⟨tb_3 136 (by decide +kernel) (by decide +kernel), tb_1 2 (by decide +kernel) (by decide +kernel), by decide +kernel, mw_sig (by decide +kernel), by decide⟩
theorem mw_X10_isReserved : Mw mX10_isReserved 1 := ⟨tb_3 57 (by decide +kernel) (by decide +kernel), tb_1 15 (by decide +kernel) (by decide +kernel), by decide +kernel, mw_sig (by decide +kernel), by decide⟩
theorem mw_X11_apart : Mw mX11_apart 2 := ⟨tb_4 170 (by decide +kernel) (by decide +kernel), tb_1 1 (by decide +kernel) (by decide +kernel), by decide +kernel, mw_sig (by decide +kernel), by decide⟩
theorem mw_X11_ask : Mw mX11_ask 0 := ⟨tb_4 226 (by decide +kernel) (by decide +kernel), tb_1 1 (by decide +kernel) (by decide +kernel), by decide +kernel, mw_sig (by decide +kernel), by decide⟩
theorem mw_X11_book : Mw mX11_book 1 := ⟨tb_5 151 (by decide +kernel) (by decide +kernel), tb_1 1 (by decide +kernel) (by decide +kernel), by decide +kernel, mw_sig (by decide +kernel), by decide⟩
theorem mw_X11_both : Mw mX11_both 2 := ⟨tb_4 187 (by decide +kernel) (by decide +kernel), tb_1 1 (by decide +kernel) (by decide +kernel), by decide +kernel, mw_sig (by decide +kernel), by decide⟩
theorem mw_X11_burn : Mw mX11_burn 1 := ⟨tb_5 20 (by decide +kernel) (by decide +kernel), tb_1 1 (by decide +kernel) (by decide +kernel), by decide +kernel, mw_sig (by decide +kernel), by decide⟩
theorem mw_X11_byteAt : Mw mX11_byteAt 1 := ⟨tb_5 111 (by decide +kernel) (by decide +kernel), tb_1 1 (by decide +kernel) (by decide +kernel), by decide +kernel, mw_sig (by decide +kernel), by decide⟩
theorem mw_X11_change : Mw mX11_change 0 := ⟨tb_4 149 (by decide +kernel) (by decide +kernel), tb_1 1 (by decide +kernel) (by decide +kernel), by decide +kernel, mw_sig (by decide +kernel), by decide⟩
theorem mw_X11_changes : Mw mX11_changes 0 := ⟨tb_4 166 (by decide +kernel) (by decide +kernel), tb_1 1 (by decide +kernel) (by decide +kernel), by decide +kernel, mw_sig (by decide +kernel), by decide⟩
theorem mw_X11_character : Mw mX11_character 2 := ⟨tb_3 211 (by decide +kernel) (by decide +kernel), tb_1 1 (by decide +kernel) (by decide +kernel), by decide +kernel, mw_sig (by decide +kernel), by decide⟩
theorem mw_X11_chart : Mw mX11_chart 0 := ⟨tb_3 4 (by decide +kernel) (by decide +kernel), tb_1 1 (by decide +kernel) (by decide +kernel), by decide +kernel, mw_sig (by decide +kernel), by decide⟩
theorem mw_X11_closeText : Mw mX11_closeText 0 := ⟨tb_3 148 (by decide +kernel) (by decide +kernel), tb_1 1 (by decide +kernel) (by decide +kernel), by decide +kernel, mw_sig (by decide +kernel), by decide⟩
theorem mw_X11_confused : Mw mX11_confused 0 := ⟨tb_4 135 (by decide +kernel) (by decide +kernel), tb_1 1 (by decide +kernel) (by decide +kernel), by decide +kernel, mw_sig (by decide +kernel), by decide⟩
theorem mw_X11_count : Mw mX11_count 1 := ⟨tb_6 100 (by decide +kernel) (by decide +kernel), tb_1 1 (by decide +kernel) (by decide +kernel), by decide +kernel, mw_sig (by decide +kernel), by decide⟩
theorem mw_X11_douse : Mw mX11_douse 1 := ⟨tb_4 36 (by decide +kernel) (by decide +kernel), tb_1 1 (by decide +kernel) (by decide +kernel), by decide +kernel, mw_sig (by decide +kernel), by decide⟩
theorem mw_X11_drawn : Mw mX11_drawn 2 := ⟨tb_5 115 (by decide +kernel) (by decide +kernel), tb_1 1 (by decide +kernel) (by decide +kernel), by decide +kernel, mw_sig (by decide +kernel), by decide⟩
theorem mw_X11_end : Mw mX11_end 1 := ⟨tb_3 0 (by decide +kernel) (by decide +kernel), tb_1 1 (by decide +kernel) (by decide +kernel), by decide +kernel, mw_sig (by decide +kernel), by decide⟩
theorem mw_X11_fault : Mw mX11_fault 0 := ⟨tb_3 207 (by decide +kernel) (by decide +kernel), tb_1 1 (by decide +kernel) (by decide +kernel), by decide +kernel, mw_sig (by decide +kernel), by decide⟩
theorem mw_X11_feed : Mw mX11_feed 5 := ⟨tb_2 232 (by decide +kernel) (by decide +kernel), tb_1 1 (by decide +kernel) (by decide +kernel), by decide +kernel, mw_sig (by decide +kernel), by decide⟩
theorem mw_X11_fill : Mw mX11_fill 2 := ⟨tb_4 70 (by decide +kernel) (by decide +kernel), tb_1 1 (by decide +kernel) (by decide +kernel), by decide +kernel, mw_sig (by decide +kernel), by decide⟩
theorem mw_X11_fits : Mw mX11_fits 0 := ⟨tb_4 192 (by decide +kernel) (by decide +kernel), tb_1 1 (by decide +kernel) (by decide +kernel), by decide +kernel, mw_sig (by decide +kernel), by decide⟩
theorem mw_X11_fitsAt : Mw mX11_fitsAt 1 := ⟨tb_4 222 (by decide +kernel) (by decide +kernel), tb_1 1 (by decide +kernel) (by decide +kernel), by decide +kernel, mw_sig (by decide +kernel), by decide⟩
theorem mw_X11_fittingLights : Mw mX11_fittingLights 0 := ⟨tb_4 200 (by decide +kernel) (by decide +kernel), tb_1 1 (by decide +kernel) (by decide +kernel), by decide +kernel, mw_sig (by decide +kernel), by decide⟩
theorem mw_X11_fix : Mw mX11_fix 0 := ⟨tb_4 239 (by decide +kernel) (by decide +kernel), tb_1 1 (by decide +kernel) (by decide +kernel), by decide +kernel, mw_sig (by decide +kernel), by decide⟩
theorem mw_X11_fixAt : Mw mX11_fixAt 0 := ⟨tb_5 12 (by decide +kernel) (by decide +kernel), tb_1 1 (by decide +kernel) (by decide +kernel), by decide +kernel, mw_sig (by decide +kernel), by decide⟩
theorem mw_X11_haze : Mw mX11_haze 1 := ⟨tb_4 94 (by decide +kernel) (by decide +kernel), tb_1 1 (by decide +kernel) (by decide +kernel), by decide +kernel, mw_sig (by decide +kernel), by decide⟩
theorem mw_X11_image : Mw mX11_image 1 := ⟨tb_6 92 (by decide +kernel) (by decide +kernel), tb_1 1 (by decide +kernel) (by decide +kernel), by decide +kernel, mw_sig (by decide +kernel), by decide⟩
theorem mw_X11_isCell : Mw mX11_isCell 2 := ⟨tb_4 19 (by decide +kernel) (by decide +kernel), tb_1 1 (by decide +kernel) (by decide +kernel), by decide +kernel, mw_sig (by decide +kernel), by decide⟩
theorem mw_X11_isFixTape : Mw mX11_isFixTape 0 := ⟨tb_5 3 (by decide +kernel) (by decide +kernel), tb_1 1 (by decide +kernel) (by decide +kernel), by decide +kernel, mw_sig (by decide +kernel), by decide⟩
theorem mw_X11_isLight : Mw mX11_isLight 1 := ⟨tb_3 215 (by decide +kernel) (by decide +kernel), tb_1 1 (by decide +kernel) (by decide +kernel), by decide +kernel, mw_sig (by decide +kernel), by decide⟩
theorem mw_X11_isShip : Mw mX11_isShip 1 := ⟨tb_3 223 (by decide +kernel) (by decide +kernel), tb_1 1 (by decide +kernel) (by decide +kernel), by decide +kernel, mw_sig (by decide +kernel), by decide⟩
theorem mw_X11_keepFits : Mw mX11_keepFits 1 := ⟨tb_4 213 (by decide +kernel) (by decide +kernel), tb_1 1 (by decide +kernel) (by decide +kernel), by decide +kernel, mw_sig (by decide +kernel), by decide⟩
theorem mw_X11_keepIfAny : Mw mX11_keepIfAny 1 := ⟨tb_4 123 (by decide +kernel) (by decide +kernel), tb_1 1 (by decide +kernel) (by decide +kernel), by decide +kernel, mw_sig (by decide +kernel), by decide⟩
theorem mw_X11_keepIfDone : Mw mX11_keepIfDone 1 := ⟨tb_4 53 (by decide +kernel) (by decide +kernel), tb_1 1 (by decide +kernel) (by decide +kernel), by decide +kernel, mw_sig (by decide +kernel), by decide⟩
theorem mw_X11_kindle : Mw mX11_kindle 1 := ⟨tb_4 62 (by decide +kernel) (by decide +kernel), tb_1 1 (by decide +kernel) (by decide +kernel), by decide +kernel, mw_sig (by decide +kernel), by decide⟩
theorem mw_X11_liesAsTaped : Mw mX11_liesAsTaped 2 := ⟨tb_5 7 (by decide +kernel) (by decide +kernel), tb_1 1 (by decide +kernel) (by decide +kernel), by decide +kernel, mw_sig (by decide +kernel), by decide⟩
theorem mw_X11_memberAt : Mw mX11_memberAt 2 := ⟨tb_6 88 (by decide +kernel) (by decide +kernel), tb_1 1 (by decide +kernel) (by decide +kernel), by decide +kernel, mw_sig (by decide +kernel), by decide⟩
theorem mw_X11_most : Mw mX11_most 0 := ⟨tb_5 16 (by decide +kernel) (by decide +kernel), tb_1 1 (by decide +kernel) (by decide +kernel), by decide +kernel, mw_sig (by decide +kernel), by decide⟩
theorem mw_X11_mostLeft : Mw mX11_mostLeft 1 := ⟨tb_4 217 (by decide +kernel) (by decide +kernel), tb_1 1 (by decide +kernel) (by decide +kernel), by decide +kernel, mw_sig (by decide +kernel), by decide⟩
theorem mw_X11_now : Mw mX11_now 1 := ⟨tb_4 23 (by decide +kernel) (by decide +kernel), tb_1 1 (by decide +kernel) (by decide +kernel), by decide +kernel, mw_sig (by decide +kernel), by decide⟩
theorem mw_X11_octantOf : Mw mX11_octantOf 2 := ⟨tb_3 195 (by decide +kernel) (by decide +kernel), tb_1 1 (by decide +kernel) (by decide +kernel), by decide +kernel, mw_sig (by decide +kernel), by decide⟩
theorem mw_X11_odds : Mw mX11_odds 3 := ⟨tb_5 147 (by decide +kernel) (by decide +kernel), tb_1 1 (by decide +kernel) (by decide +kernel), by decide +kernel, mw_sig (by decide +kernel), by decide⟩
theorem mw_X11_remainder : Mw mX11_remainder 2 := ⟨tb_4 12 (by decide +kernel) (by decide +kernel), tb_1 1 (by decide +kernel) (by decide +kernel), by decide +kernel, mw_sig (by decide +kernel), by decide⟩
theorem mw_X11_restore : Mw mX11_restore 1 := ⟨tb_6 96 (by decide +kernel) (by decide +kernel), tb_1 1 (by decide +kernel) (by decide +kernel), by decide +kernel, mw_sig (by decide +kernel), by decide⟩
theorem mw_X11_said : Mw mX11_said 1 := ⟨tb_6 63 (by decide +kernel) (by decide +kernel), tb_1 1 (by decide +kernel) (by decide +kernel), by decide +kernel, mw_sig (by decide +kernel), by decide⟩
theorem mw_X11_seconds : Mw mX11_seconds 1 := ⟨tb_4 102 (by decide +kernel) (by decide +kernel), tb_1 1 (by decide +kernel) (by decide +kernel), by decide +kernel, mw_sig (by decide +kernel), by decide⟩
theorem mw_X11_sentence : Mw mX11_sentence 0 := ⟨tb_5 224 (by decide +kernel) (by decide +kernel), tb_1 1 (by decide +kernel) (by decide +kernel), by decide +kernel, mw_sig (by decide +kernel), by decide⟩
theorem mw_X11_shift : Mw mX11_shift 2 := ⟨tb_4 78 (by decide +kernel) (by decide +kernel), tb_1 1 (by decide +kernel) (by decide +kernel), by decide +kernel, mw_sig (by decide +kernel), by decide⟩
theorem mw_X11_ship : Mw mX11_ship 2 := ⟨tb_3 219 (by decide +kernel) (by decide +kernel), tb_1 1 (by decide +kernel) (by decide +kernel), by decide +kernel, mw_sig (by decide +kernel), by decide⟩
theorem mw_X11_spots : Mw mX11_spots 1 := ⟨tb_4 230 (by decide +kernel) (by decide +kernel), tb_1 1 (by decide +kernel) (by decide +kernel), by decide +kernel, mw_sig (by decide +kernel), by decide⟩
theorem mw_X11_spotsAt : Mw mX11_spotsAt 0 := ⟨tb_4 235 (by decide +kernel) (by decide +kernel), tb_1 1 (by decide +kernel) (by decide +kernel), by decide +kernel, mw_sig (by decide +kernel), by decide⟩
theorem mw_X11_steer : Mw mX11_steer 2 := ⟨tb_4 86 (by decide +kernel) (by decide +kernel), tb_1 1 (by decide +kernel) (by decide +kernel), by decide +kernel, mw_sig (by decide +kernel), by decide⟩
theorem mw_X11_tagByte : Mw mX11_tagByte 1 := ⟨tb_5 47 (by decide +kernel) (by decide +kernel), tb_1 1 (by decide +kernel) (by decide +kernel), by decide +kernel, mw_sig (by decide +kernel), by decide⟩
theorem mw_X11_tagNumber : Mw mX11_tagNumber 1 := ⟨tb_5 104 (by decide +kernel) (by decide +kernel), tb_1 1 (by decide +kernel) (by decide +kernel), by decide +kernel, mw_sig (by decide +kernel), by decide⟩
theorem mw_X11_tagText : Mw mX11_tagText 1 := ⟨tb_5 52 (by decide +kernel) (by decide +kernel), tb_1 1 (by decide +kernel) (by decide +kernel), by decide +kernel, mw_sig (by decide +kernel), by decide⟩
theorem mw_X11_tagWord : Mw mX11_tagWord 1 := ⟨tb_5 43 (by decide +kernel) (by decide +kernel), tb_1 1 (by decide +kernel) (by decide +kernel), by decide +kernel, mw_sig (by decide +kernel), by decide⟩
theorem mw_X11_told : Mw mX11_told 1 := ⟨tb_5 220 (by decide +kernel) (by decide +kernel), tb_1 1 (by decide +kernel) (by decide +kernel), by decide +kernel, mw_sig (by decide +kernel), by decide⟩
theorem mw_X11_undo : Mw mX11_undo 0 := ⟨tb_4 127 (by decide +kernel) (by decide +kernel), tb_1 1 (by decide +kernel) (by decide +kernel), by decide +kernel, mw_sig (by decide +kernel), by decide⟩
theorem mw_X11_visible : Mw mX11_visible 2 := ⟨tb_4 16 (by decide +kernel) (by decide +kernel), tb_1 1 (by decide +kernel) (by decide +kernel), by decide +kernel, mw_sig (by decide +kernel), by decide⟩
theorem mw_X11_waits : Mw mX11_waits 1 := ⟨tb_5 33 (by decide +kernel) (by decide +kernel), tb_1 1 (by decide +kernel) (by decide +kernel), by decide +kernel, mw_sig (by decide +kernel), by decide⟩
theorem mw_X12_alikes : Mw mX12_alikes 1 := ⟨tb_8 44 (by decide +kernel) (by decide +kernel), tb_1 12 (by decide +kernel) (by decide +kernel), by decide +kernel, mw_sig (by decide +kernel), by decide⟩
theorem mw_X12_apart : Mw mX12_apart 2 := ⟨tb_8 187 (by decide +kernel) (by decide +kernel), tb_1 12 (by decide +kernel) (by decide +kernel), by decide +kernel, mw_sig (by decide +kernel), by decide⟩
theorem mw_X12_areSeen : Mw mX12_areSeen 2 := ⟨tb_8 172 (by decide +kernel) (by decide +kernel), tb_1 12 (by decide +kernel) (by decide +kernel), by decide +kernel, mw_sig (by decide +kernel), by decide⟩
theorem mw_X12_ask : Mw mX12_ask 0 := ⟨tb_8 222 (by decide +kernel) (by decide +kernel), tb_1 12 (by decide +kernel) (by decide +kernel), by decide +kernel, mw_sig (by decide +kernel), by decide⟩
theorem mw_X12_back : Mw mX12_back 0 := ⟨tb_9 22 (by decide +kernel) (by decide +kernel), tb_1 12 (by decide +kernel) (by decide +kernel), by decide +kernel, mw_sig (by decide +kernel), by decide⟩
theorem mw_X12_bad : Mw mX12_bad 1 := ⟨tb_7 190 (by decide +kernel) (by decide +kernel), tb_1 12 (by decide +kernel) (by decide +kernel), by decide +kernel, mw_sig (by decide +kernel), by decide⟩
theorem mw_X12_behind : Mw mX12_behind 0 := ⟨tb_9 110 (by decide +kernel) (by decide +kernel), tb_1 12 (by decide +kernel) (by decide +kernel), by decide +kernel, mw_sig (by decide +kernel), by decide⟩
theorem mw_X12_bitOf : Mw mX12_bitOf 2 := ⟨tb_7 228 (by decide +kernel) (by decide +kernel), tb_1 12 (by decide +kernel) (by decide +kernel), by decide +kernel, mw_sig (by decide +kernel), by decide⟩
theorem mw_X12_bits : Mw mX12_bits 1 := ⟨tb_8 179 (by decide +kernel) (by decide +kernel), tb_1 12 (by decide +kernel) (by decide +kernel), by decide +kernel, mw_sig (by decide +kernel), by decide⟩
theorem mw_X12_book : Mw mX12_book 1 := ⟨tb_9 78 (by decide +kernel) (by decide +kernel), tb_1 12 (by decide +kernel) (by decide +kernel), by decide +kernel, mw_sig (by decide +kernel), by decide⟩
theorem mw_X12_bookLine : Mw mX12_bookLine 0 := ⟨tb_9 82 (by decide +kernel) (by decide +kernel), tb_1 12 (by decide +kernel) (by decide +kernel), by decide +kernel, mw_sig (by decide +kernel), by decide⟩
theorem mw_X12_both : Mw mX12_both 2 := ⟨tb_8 195 (by decide +kernel) (by decide +kernel), tb_1 12 (by decide +kernel) (by decide +kernel), by decide +kernel, mw_sig (by decide +kernel), by decide⟩
theorem mw_X12_burn : Mw mX12_burn 1 := ⟨tb_9 10 (by decide +kernel) (by decide +kernel), tb_1 12 (by decide +kernel) (by decide +kernel), by decide +kernel, mw_sig (by decide +kernel), by decide⟩
theorem mw_X12_byteAt : Mw mX12_byteAt 1 := ⟨tb_9 53 (by decide +kernel) (by decide +kernel), tb_1 12 (by decide +kernel) (by decide +kernel), by decide +kernel, mw_sig (by decide +kernel), by decide⟩
theorem mw_X12_change : Mw mX12_change 0 := ⟨tb_8 176 (by decide +kernel) (by decide +kernel), tb_1 12 (by decide +kernel) (by decide +kernel), by decide +kernel, mw_sig (by decide +kernel), by decide⟩
theorem mw_X12_changes : Mw mX12_changes 0 := ⟨tb_8 183 (by decide +kernel) (by decide +kernel), tb_1 12 (by decide +kernel) (by decide +kernel), by decide +kernel, mw_sig (by decide +kernel), by decide⟩
theorem mw_X12_character : Mw mX12_character 2 := ⟨tb_8 52 (by decide +kernel) (by decide +kernel), tb_1 12 (by decide +kernel) (by decide +kernel), by decide +kernel, mw_sig (by decide +kernel), by decide⟩
theorem mw_X12_chart : Mw mX12_chart 0 := ⟨tb_7 156 (by decide +kernel) (by decide +kernel), tb_1 12 (by decide +kernel) (by decide +kernel), by decide +kernel, mw_sig (by decide +kernel), by decide⟩
theorem mw_X12_clears : Mw mX12_clears 0 := ⟨tb_6 231 (by decide +kernel) (by decide +kernel), tb_1 12 (by decide +kernel) (by decide +kernel), by decide +kernel, mw_sig (by decide +kernel), by decide⟩
theorem mw_X12_code : Mw mX12_code 3 := ⟨tb_9 102 (by decide +kernel) (by decide +kernel), tb_1 12 (by decide +kernel) (by decide +kernel), by decide +kernel, mw_sig (by decide +kernel), by decide⟩
theorem mw_X12_confused : Mw mX12_confused 0 := ⟨tb_8 164 (by decide +kernel) (by decide +kernel), tb_1 12 (by decide +kernel) (by decide +kernel), by decide +kernel, mw_sig (by decide +kernel), by decide⟩
theorem mw_X12_count : Mw mX12_count 1 := ⟨tb_9 142 (by decide +kernel) (by decide +kernel), tb_1 12 (by decide +kernel) (by decide +kernel), by decide +kernel, mw_sig (by decide +kernel), by decide⟩
theorem mw_X12_does : Mw mX12_does 3 := ⟨tb_9 86 (by decide +kernel) (by decide +kernel), tb_1 12 (by decide +kernel) (by decide +kernel), by decide +kernel, mw_sig (by decide +kernel), by decide⟩
theorem mw_X12_douse : Mw mX12_douse 1 := ⟨tb_8 98 (by decide +kernel) (by decide +kernel), tb_1 12 (by decide +kernel) (by decide +kernel), by decide +kernel, mw_sig (by decide +kernel), by decide⟩
theorem mw_X12_draw : Mw mX12_draw 1 := ⟨tb_9 69 (by decide +kernel) (by decide +kernel), tb_1 12 (by decide +kernel) (by decide +kernel), by decide +kernel, mw_sig (by decide +kernel), by decide⟩
theorem mw_X12_drawSecond : Mw mX12_drawSecond 0 := ⟨tb_9 65 (by decide +kernel) (by decide +kernel), tb_1 12 (by decide +kernel) (by decide +kernel), by decide +kernel, mw_sig (by decide +kernel), by decide⟩
theorem mw_X12_drawn : Mw mX12_drawn 2 := ⟨tb_9 57 (by decide +kernel) (by decide +kernel), tb_1 12 (by decide +kernel) (by decide +kernel), by decide +kernel, mw_sig (by decide +kernel), by decide⟩
theorem mw_X12_draws : Mw mX12_draws 2 := ⟨tb_9 61 (by decide +kernel) (by decide +kernel), tb_1 12 (by decide +kernel) (by decide +kernel), by decide +kernel, mw_sig (by decide +kernel), by decide⟩
theorem mw_X12_end : Mw mX12_end 1 := ⟨tb_6 195 (by decide +kernel) (by decide +kernel), tb_1 12 (by decide +kernel) (by decide +kernel), by decide +kernel, mw_sig (by decide +kernel), by decide⟩
theorem mw_X12_fault : Mw mX12_fault 0 := ⟨tb_8 12 (by decide +kernel) (by decide +kernel), tb_1 12 (by decide +kernel) (by decide +kernel), by decide +kernel, mw_sig (by decide +kernel), by decide⟩
theorem mw_X12_feed : Mw mX12_feed 5 := ⟨tb_6 186 (by decide +kernel) (by decide +kernel), tb_1 12 (by decide +kernel) (by decide +kernel), by decide +kernel, mw_sig (by decide +kernel), by decide⟩
theorem mw_X12_fill : Mw mX12_fill 2 := ⟨tb_8 114 (by decide +kernel) (by decide +kernel), tb_1 12 (by decide +kernel) (by decide +kernel), by decide +kernel, mw_sig (by decide +kernel), by decide⟩
theorem mw_X12_fitOf : Mw mX12_fitOf 1 := ⟨tb_8 207 (by decide +kernel) (by decide +kernel), tb_1 12 (by decide +kernel) (by decide +kernel), by decide +kernel, mw_sig (by decide +kernel), by decide⟩
theorem mw_X12_fits : Mw mX12_fits 0 := ⟨tb_8 199 (by decide +kernel) (by decide +kernel), tb_1 12 (by decide +kernel) (by decide +kernel), by decide +kernel, mw_sig (by decide +kernel), by decide⟩
theorem mw_X12_fitsAt : Mw mX12_fitsAt 1 := ⟨tb_8 218 (by decide +kernel) (by decide +kernel), tb_1 12 (by decide +kernel) (by decide +kernel), by decide +kernel, mw_sig (by decide +kernel), by decide⟩
theorem mw_X12_fix : Mw mX12_fix 0 := ⟨tb_8 234 (by decide +kernel) (by decide +kernel), tb_1 12 (by decide +kernel) (by decide +kernel), by decide +kernel, mw_sig (by decide +kernel), by decide⟩
theorem mw_X12_fixAt : Mw mX12_fixAt 0 := ⟨tb_9 2 (by decide +kernel) (by decide +kernel), tb_1 12 (by decide +kernel) (by decide +kernel), by decide +kernel, mw_sig (by decide +kernel), by decide⟩
theorem mw_X12_four : Mw mX12_four 1 := ⟨tb_6 191 (by decide +kernel) (by decide +kernel), tb_1 12 (by decide +kernel) (by decide +kernel), by decide +kernel, mw_sig (by decide +kernel), by decide⟩
theorem mw_X12_fresh : Mw mX12_fresh 1 := ⟨tb_7 194 (by decide +kernel) (by decide +kernel), tb_1 12 (by decide +kernel) (by decide +kernel), by decide +kernel, mw_sig (by decide +kernel), by decide⟩
theorem mw_X12_goesOn : Mw mX12_goesOn 1 := ⟨tb_8 142 (by decide +kernel) (by decide +kernel), tb_1 12 (by decide +kernel) (by decide +kernel), by decide +kernel, mw_sig (by decide +kernel), by decide⟩
theorem mw_X12_greater : Mw mX12_greater 2 := ⟨tb_8 214 (by decide +kernel) (by decide +kernel), tb_1 12 (by decide +kernel) (by decide +kernel), by decide +kernel, mw_sig (by decide +kernel), by decide⟩
theorem mw_X12_haze : Mw mX12_haze 1 := ⟨tb_8 134 (by decide +kernel) (by decide +kernel), tb_1 12 (by decide +kernel) (by decide +kernel), by decide +kernel, mw_sig (by decide +kernel), by decide⟩
theorem mw_X12_image : Mw mX12_image 1 := ⟨tb_9 134 (by decide +kernel) (by decide +kernel), tb_1 12 (by decide +kernel) (by decide +kernel), by decide +kernel, mw_sig (by decide +kernel), by decide⟩
theorem mw_X12_isAlike : Mw mX12_isAlike 2 := ⟨tb_8 48 (by decide +kernel) (by decide +kernel), tb_1 12 (by decide +kernel) (by decide +kernel), by decide +kernel, mw_sig (by decide +kernel), by decide⟩
theorem mw_X12_isDigit : Mw mX12_isDigit 1 := ⟨tb_7 174 (by decide +kernel) (by decide +kernel), tb_1 12 (by decide +kernel) (by decide +kernel), by decide +kernel, mw_sig (by decide +kernel), by decide⟩
theorem mw_X12_isIn : Mw mX12_isIn 3 := ⟨tb_7 213 (by decide +kernel) (by decide +kernel), tb_1 12 (by decide +kernel) (by decide +kernel), by decide +kernel, mw_sig (by decide +kernel), by decide⟩
theorem mw_X12_isLeaf : Mw mX12_isLeaf 4 := ⟨tb_9 130 (by decide +kernel) (by decide +kernel), tb_1 12 (by decide +kernel) (by decide +kernel), by decide +kernel, mw_sig (by decide +kernel), by decide⟩
theorem mw_X12_isLight : Mw mX12_isLight 1 := ⟨tb_8 20 (by decide +kernel) (by decide +kernel), tb_1 12 (by decide +kernel) (by decide +kernel), by decide +kernel, mw_sig (by decide +kernel), by decide⟩
theorem mw_X12_isName : Mw mX12_isName 0 := ⟨tb_7 198 (by decide +kernel) (by decide +kernel), tb_1 12 (by decide +kernel) (by decide +kernel), by decide +kernel, mw_sig (by decide +kernel), by decide⟩
theorem mw_X12_isOn : Mw mX12_isOn 2 := ⟨tb_8 40 (by decide +kernel) (by decide +kernel), tb_1 12 (by decide +kernel) (by decide +kernel), by decide +kernel, mw_sig (by decide +kernel), by decide⟩
theorem mw_X12_isSaid : Mw mX12_isSaid 1 := ⟨tb_9 126 (by decide +kernel) (by decide +kernel), tb_1 12 (by decide +kernel) (by decide +kernel), by decide +kernel, mw_sig (by decide +kernel), by decide⟩
theorem mw_X12_isShining : Mw mX12_isShining 1 := ⟨tb_8 36 (by decide +kernel) (by decide +kernel), tb_1 12 (by decide +kernel) (by decide +kernel), by decide +kernel, mw_sig (by decide +kernel), by decide⟩
theorem mw_X12_isShip : Mw mX12_isShip 1 := ⟨tb_8 60 (by decide +kernel) (by decide +kernel), tb_1 12 (by decide +kernel) (by decide +kernel), by decide +kernel, mw_sig (by decide +kernel), by decide⟩
theorem mw_X12_isSign : Mw mX12_isSign 1 := ⟨tb_8 8 (by decide +kernel) (by decide +kernel), tb_1 12 (by decide +kernel) (by decide +kernel), by decide +kernel, mw_sig (by decide +kernel), by decide⟩
theorem mw_X12_isSmall : Mw mX12_isSmall 1 := ⟨tb_7 171 (by decide +kernel) (by decide +kernel), tb_1 12 (by decide +kernel) (by decide +kernel), by decide +kernel, mw_sig (by decide +kernel), by decide⟩
theorem mw_X12_isVisibleBy : Mw mX12_isVisibleBy 4 := ⟨tb_8 68 (by decide +kernel) (by decide +kernel), tb_1 12 (by decide +kernel) (by decide +kernel), by decide +kernel, mw_sig (by decide +kernel), by decide⟩
theorem mw_X12_isWord : Mw mX12_isWord 1 := ⟨tb_7 182 (by decide +kernel) (by decide +kernel), tb_1 12 (by decide +kernel) (by decide +kernel), by decide +kernel, mw_sig (by decide +kernel), by decide⟩
theorem mw_X12_joins : Mw mX12_joins 1 := ⟨tb_9 106 (by decide +kernel) (by decide +kernel), tb_1 12 (by decide +kernel) (by decide +kernel), by decide +kernel, mw_sig (by decide +kernel), by decide⟩
theorem mw_X12_kindle : Mw mX12_kindle 1 := ⟨tb_8 106 (by decide +kernel) (by decide +kernel), tb_1 12 (by decide +kernel) (by decide +kernel), by decide +kernel, mw_sig (by decide +kernel), by decide⟩
theorem mw_X12_lays : Mw mX12_lays 1 := ⟨tb_9 39 (by decide +kernel) (by decide +kernel), tb_1 12 (by decide +kernel) (by decide +kernel), by decide +kernel, mw_sig (by decide +kernel), by decide⟩
theorem mw_X12_laysPairs : Mw mX12_laysPairs 0 := ⟨tb_8 168 (by decide +kernel) (by decide +kernel), tb_1 12 (by decide +kernel) (by decide +kernel), by decide +kernel, mw_sig (by decide +kernel), by decide⟩
theorem mw_X12_leafOf : Mw mX12_leafOf 0 := ⟨tb_9 118 (by decide +kernel) (by decide +kernel), tb_1 12 (by decide +kernel) (by decide +kernel), by decide +kernel, mw_sig (by decide +kernel), by decide⟩
theorem mw_X12_leftBy : Mw mX12_leftBy 2 := ⟨tb_8 211 (by decide +kernel) (by decide +kernel), tb_1 12 (by decide +kernel) (by decide +kernel), by decide +kernel, mw_sig (by decide +kernel), by decide⟩
theorem mw_X12_lesser : Mw mX12_lesser 2 := ⟨tb_8 71 (by decide +kernel) (by decide +kernel), tb_1 12 (by decide +kernel) (by decide +kernel), by decide +kernel, mw_sig (by decide +kernel), by decide⟩
theorem mw_X12_light : Mw mX12_light 2 := ⟨tb_8 16 (by decide +kernel) (by decide +kernel), tb_1 12 (by decide +kernel) (by decide +kernel), by decide +kernel, mw_sig (by decide +kernel), by decide⟩
theorem mw_X12_looksAt : Mw mX12_looksAt 2 := ⟨tb_7 221 (by decide +kernel) (by decide +kernel), tb_1 12 (by decide +kernel) (by decide +kernel), by decide +kernel, mw_sig (by decide +kernel), by decide⟩
theorem mw_X12_mean : Mw mX12_mean 1 := ⟨tb_9 26 (by decide +kernel) (by decide +kernel), tb_1 12 (by decide +kernel) (by decide +kernel), by decide +kernel, mw_sig (by decide +kernel), by decide⟩
theorem mw_X12_most : Mw mX12_most 0 := ⟨tb_9 6 (by decide +kernel) (by decide +kernel), tb_1 12 (by decide +kernel) (by decide +kernel), by decide +kernel, mw_sig (by decide +kernel), by decide⟩
theorem mw_X12_next : Mw mX12_next 0 := ⟨tb_7 164 (by decide +kernel) (by decide +kernel), tb_1 12 (by decide +kernel) (by decide +kernel), by decide +kernel, mw_sig (by decide +kernel), by decide⟩
theorem mw_X12_nots : Mw mX12_nots 0 := ⟨tb_9 98 (by decide +kernel) (by decide +kernel), tb_1 12 (by decide +kernel) (by decide +kernel), by decide +kernel, mw_sig (by decide +kernel), by decide⟩
theorem mw_X12_now : Mw mX12_now 1 := ⟨tb_8 90 (by decide +kernel) (by decide +kernel), tb_1 12 (by decide +kernel) (by decide +kernel), by decide +kernel, mw_sig (by decide +kernel), by decide⟩
theorem mw_X12_octantFrom : Mw mX12_octantFrom 3 := ⟨tb_8 238 (by decide +kernel) (by decide +kernel), tb_1 12 (by decide +kernel) (by decide +kernel), by decide +kernel, mw_sig (by decide +kernel), by decide⟩
theorem mw_X12_octantOf : Mw mX12_octantOf 2 := ⟨tb_8 74 (by decide +kernel) (by decide +kernel), tb_1 12 (by decide +kernel) (by decide +kernel), by decide +kernel, mw_sig (by decide +kernel), by decide⟩
theorem mw_X12_octet : Mw mX12_octet 1 := ⟨tb_8 203 (by decide +kernel) (by decide +kernel), tb_1 12 (by decide +kernel) (by decide +kernel), by decide +kernel, mw_sig (by decide +kernel), by decide⟩
theorem mw_X12_odds : Mw mX12_odds 3 := ⟨tb_9 74 (by decide +kernel) (by decide +kernel), tb_1 12 (by decide +kernel) (by decide +kernel), by decide +kernel, mw_sig (by decide +kernel), by decide⟩
theorem mw_X12_oilInAll : Mw mX12_oilInAll 0 := ⟨tb_8 94 (by decide +kernel) (by decide +kernel), tb_1 12 (by decide +kernel) (by decide +kernel), by decide +kernel, mw_sig (by decide +kernel), by decide⟩
theorem mw_X12_operand : Mw mX12_operand 0 := ⟨tb_9 114 (by decide +kernel) (by decide +kernel), tb_1 12 (by decide +kernel) (by decide +kernel), by decide +kernel, mw_sig (by decide +kernel), by decide⟩
theorem mw_X12_peek : Mw mX12_peek 0 := ⟨tb_7 168 (by decide +kernel) (by decide +kernel), tb_1 12 (by decide +kernel) (by decide +kernel), by decide +kernel, mw_sig (by decide +kernel), by decide⟩
theorem mw_X12_periodOf : Mw mX12_periodOf 1 := ⟨tb_8 28 (by decide +kernel) (by decide +kernel), tb_1 12 (by decide +kernel) (by decide +kernel), by decide +kernel, mw_sig (by decide +kernel), by decide⟩
theorem mw_X12_placeIn : Mw mX12_placeIn 2 := ⟨tb_8 32 (by decide +kernel) (by decide +kernel), tb_1 12 (by decide +kernel) (by decide +kernel), by decide +kernel, mw_sig (by decide +kernel), by decide⟩
theorem mw_X12_puts : Mw mX12_puts 3 := ⟨tb_7 206 (by decide +kernel) (by decide +kernel), tb_1 12 (by decide +kernel) (by decide +kernel), by decide +kernel, mw_sig (by decide +kernel), by decide⟩
theorem mw_X12_readDark : Mw mX12_readDark 0 := ⟨tb_7 232 (by decide +kernel) (by decide +kernel), tb_1 12 (by decide +kernel) (by decide +kernel), by decide +kernel, mw_sig (by decide +kernel), by decide⟩
theorem mw_X12_readFlash : Mw mX12_readFlash 0 := ⟨tb_7 217 (by decide +kernel) (by decide +kernel), tb_1 12 (by decide +kernel) (by decide +kernel), by decide +kernel, mw_sig (by decide +kernel), by decide⟩
theorem mw_X12_readFrom : Mw mX12_readFrom 0 := ⟨tb_7 225 (by decide +kernel) (by decide +kernel), tb_1 12 (by decide +kernel) (by decide +kernel), by decide +kernel, mw_sig (by decide +kernel), by decide⟩
theorem mw_X12_readLight : Mw mX12_readLight 0 := ⟨tb_7 186 (by decide +kernel) (by decide +kernel), tb_1 12 (by decide +kernel) (by decide +kernel), by decide +kernel, mw_sig (by decide +kernel), by decide⟩
theorem mw_X12_readLine : Mw mX12_readLine 0 := ⟨tb_7 178 (by decide +kernel) (by decide +kernel), tb_1 12 (by decide +kernel) (by decide +kernel), by decide +kernel, mw_sig (by decide +kernel), by decide⟩
theorem mw_X12_readShip : Mw mX12_readShip 0 := ⟨tb_8 0 (by decide +kernel) (by decide +kernel), tb_1 12 (by decide +kernel) (by decide +kernel), by decide +kernel, mw_sig (by decide +kernel), by decide⟩
theorem mw_X12_restore : Mw mX12_restore 1 := ⟨tb_9 138 (by decide +kernel) (by decide +kernel), tb_1 12 (by decide +kernel) (by decide +kernel), by decide +kernel, mw_sig (by decide +kernel), by decide⟩
theorem mw_X12_said : Mw mX12_said 1 := ⟨tb_9 122 (by decide +kernel) (by decide +kernel), tb_1 12 (by decide +kernel) (by decide +kernel), by decide +kernel, mw_sig (by decide +kernel), by decide⟩
theorem mw_X12_sails : Mw mX12_sails 1 := ⟨tb_8 150 (by decide +kernel) (by decide +kernel), tb_1 12 (by decide +kernel) (by decide +kernel), by decide +kernel, mw_sig (by decide +kernel), by decide⟩
theorem mw_X12_says : Mw mX12_says 1 := ⟨tb_9 44 (by decide +kernel) (by decide +kernel), tb_1 12 (by decide +kernel) (by decide +kernel), by decide +kernel, mw_sig (by decide +kernel), by decide⟩
theorem mw_X12_second : Mw mX12_second 0 := ⟨tb_8 146 (by decide +kernel) (by decide +kernel), tb_1 12 (by decide +kernel) (by decide +kernel), by decide +kernel, mw_sig (by decide +kernel), by decide⟩
theorem mw_X12_seconds : Mw mX12_seconds 1 := ⟨tb_8 138 (by decide +kernel) (by decide +kernel), tb_1 12 (by decide +kernel) (by decide +kernel), by decide +kernel, mw_sig (by decide +kernel), by decide⟩
theorem mw_X12_seek : Mw mX12_seek 2 := ⟨tb_7 202 (by decide +kernel) (by decide +kernel), tb_1 12 (by decide +kernel) (by decide +kernel), by decide +kernel, mw_sig (by decide +kernel), by decide⟩
theorem mw_X12_seenBy : Mw mX12_seenBy 1 := ⟨tb_8 78 (by decide +kernel) (by decide +kernel), tb_1 12 (by decide +kernel) (by decide +kernel), by decide +kernel, mw_sig (by decide +kernel), by decide⟩
theorem mw_X12_sentence : Mw mX12_sentence 0 := ⟨tb_9 94 (by decide +kernel) (by decide +kernel), tb_1 12 (by decide +kernel) (by decide +kernel), by decide +kernel, mw_sig (by decide +kernel), by decide⟩
theorem mw_X12_shift : Mw mX12_shift 2 := ⟨tb_8 122 (by decide +kernel) (by decide +kernel), tb_1 12 (by decide +kernel) (by decide +kernel), by decide +kernel, mw_sig (by decide +kernel), by decide⟩
theorem mw_X12_shining : Mw mX12_shining 0 := ⟨tb_8 82 (by decide +kernel) (by decide +kernel), tb_1 12 (by decide +kernel) (by decide +kernel), by decide +kernel, mw_sig (by decide +kernel), by decide⟩
theorem mw_X12_ship : Mw mX12_ship 2 := ⟨tb_8 56 (by decide +kernel) (by decide +kernel), tb_1 12 (by decide +kernel) (by decide +kernel), by decide +kernel, mw_sig (by decide +kernel), by decide⟩
theorem mw_X12_showsAt : Mw mX12_showsAt 2 := ⟨tb_8 191 (by decide +kernel) (by decide +kernel), tb_1 12 (by decide +kernel) (by decide +kernel), by decide +kernel, mw_sig (by decide +kernel), by decide⟩
theorem mw_X12_sign : Mw mX12_sign 1 := ⟨tb_8 4 (by decide +kernel) (by decide +kernel), tb_1 12 (by decide +kernel) (by decide +kernel), by decide +kernel, mw_sig (by decide +kernel), by decide⟩
theorem mw_X12_spells : Mw mX12_spells 1 := ⟨tb_9 34 (by decide +kernel) (by decide +kernel), tb_1 12 (by decide +kernel) (by decide +kernel), by decide +kernel, mw_sig (by decide +kernel), by decide⟩
theorem mw_X12_spots : Mw mX12_spots 1 := ⟨tb_8 226 (by decide +kernel) (by decide +kernel), tb_1 12 (by decide +kernel) (by decide +kernel), by decide +kernel, mw_sig (by decide +kernel), by decide⟩
theorem mw_X12_spotsAt : Mw mX12_spotsAt 0 := ⟨tb_8 230 (by decide +kernel) (by decide +kernel), tb_1 12 (by decide +kernel) (by decide +kernel), by decide +kernel, mw_sig (by decide +kernel), by decide⟩
theorem mw_X12_steer : Mw mX12_steer 2 := ⟨tb_8 130 (by decide +kernel) (by decide +kernel), tb_1 12 (by decide +kernel) (by decide +kernel), by decide +kernel, mw_sig (by decide +kernel), by decide⟩
theorem mw_X12_stepX : Mw mX12_stepX 1 := ⟨tb_8 153 (by decide +kernel) (by decide +kernel), tb_1 12 (by decide +kernel) (by decide +kernel), by decide +kernel, mw_sig (by decide +kernel), by decide⟩
theorem mw_X12_stepY : Mw mX12_stepY 1 := ⟨tb_8 156 (by decide +kernel) (by decide +kernel), tb_1 12 (by decide +kernel) (by decide +kernel), by decide +kernel, mw_sig (by decide +kernel), by decide⟩
theorem mw_X12_stores : Mw mX12_stores 0 := ⟨tb_8 102 (by decide +kernel) (by decide +kernel), tb_1 12 (by decide +kernel) (by decide +kernel), by decide +kernel, mw_sig (by decide +kernel), by decide⟩
theorem mw_X12_tag : Mw mX12_tag 1 := ⟨tb_9 30 (by decide +kernel) (by decide +kernel), tb_1 12 (by decide +kernel) (by decide +kernel), by decide +kernel, mw_sig (by decide +kernel), by decide⟩
theorem mw_X12_taken : Mw mX12_taken 1 := ⟨tb_7 160 (by decide +kernel) (by decide +kernel), tb_1 12 (by decide +kernel) (by decide +kernel), by decide +kernel, mw_sig (by decide +kernel), by decide⟩
theorem mw_X12_takes : Mw mX12_takes 2 := ⟨tb_7 210 (by decide +kernel) (by decide +kernel), tb_1 12 (by decide +kernel) (by decide +kernel), by decide +kernel, mw_sig (by decide +kernel), by decide⟩
theorem mw_X12_takesName : Mw mX12_takesName 2 := ⟨tb_7 236 (by decide +kernel) (by decide +kernel), tb_1 12 (by decide +kernel) (by decide +kernel), by decide +kernel, mw_sig (by decide +kernel), by decide⟩
theorem mw_X12_thrown : Mw mX12_thrown 0 := ⟨tb_6 182 (by decide +kernel) (by decide +kernel), tb_1 12 (by decide +kernel) (by decide +kernel), by decide +kernel, mw_sig (by decide +kernel), by decide⟩
theorem mw_X12_throwsIf : Mw mX12_throwsIf 1 := ⟨tb_8 24 (by decide +kernel) (by decide +kernel), tb_1 12 (by decide +kernel) (by decide +kernel), by decide +kernel, mw_sig (by decide +kernel), by decide⟩
theorem mw_X12_told : Mw mX12_told 1 := ⟨tb_9 90 (by decide +kernel) (by decide +kernel), tb_1 12 (by decide +kernel) (by decide +kernel), by decide +kernel, mw_sig (by decide +kernel), by decide⟩
theorem mw_X12_tries : Mw mX12_tries 0 := ⟨tb_9 18 (by decide +kernel) (by decide +kernel), tb_1 12 (by decide +kernel) (by decide +kernel), by decide +kernel, mw_sig (by decide +kernel), by decide⟩
theorem mw_X12_turns : Mw mX12_turns 2 := ⟨tb_8 126 (by decide +kernel) (by decide +kernel), tb_1 12 (by decide +kernel) (by decide +kernel), by decide +kernel, mw_sig (by decide +kernel), by decide⟩
theorem mw_X12_twoDigits : Mw mX12_twoDigits 1 := ⟨tb_9 48 (by decide +kernel) (by decide +kernel), tb_1 12 (by decide +kernel) (by decide +kernel), by decide +kernel, mw_sig (by decide +kernel), by decide⟩
theorem mw_X12_undo : Mw mX12_undo 0 := ⟨tb_8 160 (by decide +kernel) (by decide +kernel), tb_1 12 (by decide +kernel) (by decide +kernel), by decide +kernel, mw_sig (by decide +kernel), by decide⟩
theorem mw_X12_visible : Mw mX12_visible 2 := ⟨tb_8 86 (by decide +kernel) (by decide +kernel), tb_1 12 (by decide +kernel) (by decide +kernel), by decide +kernel, mw_sig (by decide +kernel), by decide⟩
theorem mw_X12_visibleFrom : Mw mX12_visibleFrom 3 := ⟨tb_8 64 (by decide +kernel) (by decide +kernel), tb_1 12 (by decide +kernel) (by decide +kernel), by decide +kernel, mw_sig (by decide +kernel), by decide⟩
theorem mw_X12_waits : Mw mX12_waits 1 := ⟨tb_9 14 (by decide +kernel) (by decide +kernel), tb_1 12 (by decide +kernel) (by decide +kernel), by decide +kernel, mw_sig (by decide +kernel), by decide⟩
theorem mw_X12_whyFill : Mw mX12_whyFill 2 := ⟨tb_8 118 (by decide +kernel) (by decide +kernel), tb_1 12 (by decide +kernel) (by decide +kernel), by decide +kernel, mw_sig (by decide +kernel), by decide⟩
theorem mw_X12_whyKindle : Mw mX12_whyKindle 1 := ⟨tb_8 110 (by decide +kernel) (by decide +kernel), tb_1 12 (by decide +kernel) (by decide +kernel), by decide +kernel, mw_sig (by decide +kernel), by decide⟩
theorem rrq_0_0 : rr 0 0 = 1 := by decide +kernel
theorem rrq_0_1 : rr 0 1 = 3 := by decide +kernel
theorem rrq_0_2 : rr 0 2 = 26 := by decide +kernel
theorem rrq_0_3 : rr 0 3 = 49 := by decide +kernel
theorem rrq_0_4 : rr 0 4 = 55 := by decide +kernel
theorem rrq_0_5 : rr 0 5 = 61 := by decide +kernel
theorem rrq_0_6 : rr 0 6 = 66 := by decide +kernel
theorem rrq_0_7 : rr 0 7 = 71 := by decide +kernel
theorem rrq_0_8 : rr 0 8 = 75 := by decide +kernel
theorem rrq_0_9 : rr 0 9 = 131 := by decide +kernel
theorem rrq_0_10 : rr 0 10 = 132 := by decide +kernel
theorem rrq_0_11 : rr 0 11 = 133 := by decide +kernel
theorem rrq_0_12 : rr 0 12 = 134 := by decide +kernel
theorem rrq_0_13 : rr 0 13 = 135 := by decide +kernel
theorem rrq_1_0 : rr 1 0 = 2 := by decide +kernel
theorem rrq_3_0 : rr 3 0 = 4 := by decide +kernel
theorem rrq_3_1 : rr 3 1 = 5 := by decide +kernel
theorem rrq_49_6 : rr 49 6 = 52 := by decide +kernel
theorem rrq_49_7 : rr 49 7 = 53 := by decide +kernel
theorem rrq_49_8 : rr 49 8 = 54 := by decide +kernel
theorem rrq_71_0 : rr 71 0 = 72 := by decide +kernel
theorem rrq_71_1 : rr 71 1 = 73 := by decide +kernel
theorem rrq_71_2 : rr 71 2 = 74 := by decide +kernel
theorem rrq_75_0 : rr 75 0 = 76 := by decide +kernel
theorem rrq_206_1 : rr 206 1 = 207 := by decide +kernel
theorem rrq_206_6 : rr 206 6 = 208 := by decide +kernel
theorem rrq_206_7 : rr 206 7 = 209 := by decide +kernel
theorem rrq_206_8 : rr 206 8 = 210 := by decide +kernel
theorem rrq_206_9 : rr 206 9 = 211 := by decide +kernel
theorem rrq_206_10 : rr 206 10 = 212 := by decide +kernel
theorem rrq_206_22 : rr 206 22 = 213 := by decide +kernel
theorem rrq_206_23 : rr 206 23 = 214 := by decide +kernel
theorem rrq_206_25 : rr 206 25 = 215 := by decide +kernel
theorem rrq_206_28 : rr 206 28 = 216 := by decide +kernel
theorem rrq_206_29 : rr 206 29 = 217 := by decide +kernel
theorem rrq_206_37 : rr 206 37 = 218 := by decide +kernel
theorem rrq_206_41 : rr 206 41 = 219 := by decide +kernel
theorem rrq_206_43 : rr 206 43 = 220 := by decide +kernel
theorem rrq_206_49 : rr 206 49 = 221 := by decide +kernel
theorem rrq_206_50 : rr 206 50 = 222 := by decide +kernel
theorem rrq_206_51 : rr 206 51 = 223 := by decide +kernel
theorem rrq_206_52 : rr 206 52 = 224 := by decide +kernel
theorem shq_0 : sh 0 = 10 := by decide +kernel
theorem shq_1 : sh 1 = 9 := by decide +kernel
theorem shq_2 : sh 2 = 20 := by decide +kernel
theorem shq_3 : sh 3 = 1 := by decide +kernel
theorem shq_4 : sh 4 = 24 := by decide +kernel
theorem shq_5 : sh 5 = 25 := by decide +kernel
theorem shq_26 : sh 26 = 1 := by decide +kernel
theorem shq_49 : sh 49 = 6 := by decide +kernel
theorem shq_52 : sh 52 = 20 := by decide +kernel
theorem shq_53 : sh 53 = 20 := by decide +kernel
theorem shq_54 : sh 54 = 20 := by decide +kernel
theorem shq_55 : sh 55 = 6 := by decide +kernel
theorem shq_61 : sh 61 = 7 := by decide +kernel
theorem shq_66 : sh 66 = 7 := by decide +kernel
theorem shq_71 : sh 71 = 0 := by decide +kernel
theorem shq_72 : sh 72 = 20 := by decide +kernel
theorem shq_73 : sh 73 = 20 := by decide +kernel
theorem shq_74 : sh 74 = 20 := by decide +kernel
theorem shq_75 : sh 75 = 5 := by decide +kernel
theorem shq_76 : sh 76 = 26 := by decide +kernel
theorem shq_131 : sh 131 = 2 := by decide +kernel
theorem shq_132 : sh 132 = 27 := by decide +kernel
theorem shq_133 : sh 133 = 20 := by decide +kernel
theorem shq_134 : sh 134 = 20 := by decide +kernel
theorem shq_135 : sh 135 = 20 := by decide +kernel
theorem shq_206 : sh 206 = 11 := by decide +kernel
theorem shq_207 : sh 207 = 22 := by decide +kernel
theorem shq_208 : sh 208 = 20 := by decide +kernel
theorem shq_209 : sh 209 = 20 := by decide +kernel
theorem shq_210 : sh 210 = 20 := by decide +kernel
theorem shq_211 : sh 211 = 23 := by decide +kernel
theorem shq_212 : sh 212 = 23 := by decide +kernel
theorem shq_213 : sh 213 = 20 := by decide +kernel
theorem shq_214 : sh 214 = 20 := by decide +kernel
theorem shq_215 : sh 215 = 20 := by decide +kernel
theorem shq_216 : sh 216 = 21 := by decide +kernel
theorem shq_217 : sh 217 = 20 := by decide +kernel
theorem shq_218 : sh 218 = 22 := by decide +kernel
theorem shq_219 : sh 219 = 20 := by decide +kernel
theorem shq_220 : sh 220 = 20 := by decide +kernel
theorem shq_221 : sh 221 = 21 := by decide +kernel
theorem shq_222 : sh 222 = 20 := by decide +kernel
theorem shq_223 : sh 223 = 23 := by decide +kernel
theorem shq_224 : sh 224 = 21 := by decide +kernel
theorem we_24 (a : Nat) (h : sh a = 24) (k : Nat) (hk : k < 8) : sh (rr a k) = 4 := by
  have key : ∀ a, a < NW → sh a = 24 → ∀ k, k < 8 → sh (rr a k) = 4 := by decide +kernel
  exact key a (sh_lt h (by decide)) h k hk
theorem we_25 (a : Nat) (h : sh a = 25) (k : Nat) (hk : k < 4) : sh (rr a k) = 8 := by
  have key : ∀ a, a < NW → sh a = 25 → ∀ k, k < 4 → sh (rr a k) = 8 := by decide +kernel
  exact key a (sh_lt h (by decide)) h k hk
theorem we_26 (a : Nat) (h : sh a = 26) (k : Nat) (hk : k < 9) : sh (rr a k) = 6 := by
  have key : ∀ a, a < NW → sh a = 26 → ∀ k, k < 9 → sh (rr a k) = 6 := by decide +kernel
  exact key a (sh_lt h (by decide)) h k hk
theorem we_27 (a : Nat) (h : sh a = 27) (k : Nat) (hk : k < 2) : sh (rr a k) = 3 := by
  have key : ∀ a, a < NW → sh a = 27 → ∀ k, k < 2 → sh (rr a k) = 3 := by decide +kernel
  exact key a (sh_lt h (by decide)) h k hk
theorem wq_6_0 (a : Nat) (h : sh a = 6) : rr a 0 = 3 := by
  have key : ∀ a, a < NW → sh a = 6 → rr a 0 = 3 := by decide +kernel
  exact key a (sh_lt h (by decide)) h
theorem wt_1_0 (a : Nat) (h : sh a = 1) : sh (rr a 0) = 24 ∧ ln (rr a 0) = 8 := by
  have key : ∀ a, a < NW → sh a = 1 → sh (rr a 0) = 24 ∧ ln (rr a 0) = 8 := by decide +kernel
  exact key a (sh_lt h (by decide)) h
theorem wt_1_1 (a : Nat) (h : sh a = 1) : sh (rr a 1) = 25 ∧ ln (rr a 1) = 4 := by
  have key : ∀ a, a < NW → sh a = 1 → sh (rr a 1) = 25 ∧ ln (rr a 1) = 4 := by decide +kernel
  exact key a (sh_lt h (by decide)) h
theorem wt_4_11 (a : Nat) (h : sh a = 4) : sh (rr a 11) = 21 ∧ ln (rr a 11) = 160 := by
  have key : ∀ a, a < NW → sh a = 4 → sh (rr a 11) = 21 ∧ ln (rr a 11) = 160 := by decide +kernel
  exact key a (sh_lt h (by decide)) h
theorem wt_6_4 (a : Nat) (h : sh a = 6) : sh (rr a 4) = 20 ∧ ln (rr a 4) = 8 := by
  have key : ∀ a, a < NW → sh a = 6 → sh (rr a 4) = 20 ∧ ln (rr a 4) = 8 := by decide +kernel
  exact key a (sh_lt h (by decide)) h
theorem wt_6_5 (a : Nat) (h : sh a = 6) : sh (rr a 5) = 20 ∧ ln (rr a 5) = 8 := by
  have key : ∀ a, a < NW → sh a = 6 → sh (rr a 5) = 20 ∧ ln (rr a 5) = 8 := by decide +kernel
  exact key a (sh_lt h (by decide)) h
theorem wt_6_6 (a : Nat) (h : sh a = 6) : sh (rr a 6) = 20 ∧ ln (rr a 6) = 4 := by
  have key : ∀ a, a < NW → sh a = 6 → sh (rr a 6) = 20 ∧ ln (rr a 6) = 4 := by decide +kernel
  exact key a (sh_lt h (by decide)) h
theorem wt_6_7 (a : Nat) (h : sh a = 6) : sh (rr a 7) = 20 ∧ ln (rr a 7) = 4 := by
  have key : ∀ a, a < NW → sh a = 6 → sh (rr a 7) = 20 ∧ ln (rr a 7) = 4 := by decide +kernel
  exact key a (sh_lt h (by decide)) h
theorem wt_6_8 (a : Nat) (h : sh a = 6) : sh (rr a 8) = 20 ∧ ln (rr a 8) = 4 := by
  have key : ∀ a, a < NW → sh a = 6 → sh (rr a 8) = 20 ∧ ln (rr a 8) = 4 := by decide +kernel
  exact key a (sh_lt h (by decide)) h
theorem wt_7_2 (a : Nat) (h : sh a = 7) : sh (rr a 2) = 20 ∧ ln (rr a 2) = 40 := by
  have key : ∀ a, a < NW → sh a = 7 → sh (rr a 2) = 20 ∧ ln (rr a 2) = 40 := by decide +kernel
  exact key a (sh_lt h (by decide)) h
theorem wt_7_3 (a : Nat) (h : sh a = 7) : sh (rr a 3) = 20 ∧ ln (rr a 3) = 40 := by
  have key : ∀ a, a < NW → sh a = 7 → sh (rr a 3) = 20 ∧ ln (rr a 3) = 40 := by decide +kernel
  exact key a (sh_lt h (by decide)) h
theorem wt_7_4 (a : Nat) (h : sh a = 7) : sh (rr a 4) = 20 ∧ ln (rr a 4) = 40 := by
  have key : ∀ a, a < NW → sh a = 7 → sh (rr a 4) = 20 ∧ ln (rr a 4) = 40 := by decide +kernel
  exact key a (sh_lt h (by decide)) h
theorem wt_7_5 (a : Nat) (h : sh a = 7) : sh (rr a 5) = 20 ∧ ln (rr a 5) = 40 := by
  have key : ∀ a, a < NW → sh a = 7 → sh (rr a 5) = 20 ∧ ln (rr a 5) = 40 := by decide +kernel
  exact key a (sh_lt h (by decide)) h
theorem wto_3_0 (a : Nat) (h : sh a = 3) : sh (rr a 0) = 1 := by
  have key : ∀ a, a < NW → sh a = 3 → sh (rr a 0) = 1 := by decide +kernel
  exact key a (sh_lt h (by decide)) h
theorem wto_3_1 (a : Nat) (h : sh a = 3) : sh (rr a 1) = 6 := by
  have key : ∀ a, a < NW → sh a = 3 → sh (rr a 1) = 6 := by decide +kernel
  exact key a (sh_lt h (by decide)) h
theorem wto_3_2 (a : Nat) (h : sh a = 3) : sh (rr a 2) = 7 := by
  have key : ∀ a, a < NW → sh a = 3 → sh (rr a 2) = 7 := by decide +kernel
  exact key a (sh_lt h (by decide)) h
theorem fl_X0_9 : Fl RX0 9 0 0 := ⟨_, _, _, rfl, by decide, cws_0, tb_2 85 (by decide +kernel) (by decide +kernel)⟩
theorem fl_X0_15 : Fl RX0 15 0 1 := ⟨_, _, _, rfl, by decide, cws_0, tb_2 86 (by decide +kernel) (by decide +kernel)⟩
theorem fl_X0_18 : Fl RX0 18 0 2 := ⟨_, _, _, rfl, by decide, cws_0, tb_2 87 (by decide +kernel) (by decide +kernel)⟩
theorem fl_X0_27 : Fl RX0 27 0 3 := ⟨_, _, _, rfl, by decide, cws_0, tb_2 88 (by decide +kernel) (by decide +kernel)⟩
theorem fl_X0_31 : Fl RX0 31 9 2 := ⟨_, _, _, rfl, by decide, cws_9, tb_1 44 (by decide +kernel) (by decide +kernel)⟩
theorem fl_X0_101 : Fl RX0 101 9 5 := ⟨_, _, _, rfl, by decide, cws_9, tb_1 52 (by decide +kernel) (by decide +kernel)⟩
theorem fl_X0_108 : Fl RX0 108 0 5 := ⟨_, _, _, rfl, by decide, cws_0, tb_2 91 (by decide +kernel) (by decide +kernel)⟩
theorem fl_X0_111 : Fl RX0 111 0 4 := ⟨_, _, _, rfl, by decide, cws_0, tb_2 89 (by decide +kernel) (by decide +kernel)⟩
theorem fl_X1_11 : Fl RX1 11 1 0 := ⟨_, _, _, rfl, by decide, cws_1, tb_1 210 (by decide +kernel) (by decide +kernel)⟩
theorem fl_X1_19 : Fl RX1 19 1 1 := ⟨_, _, _, rfl, by decide, cws_1, tb_1 214 (by decide +kernel) (by decide +kernel)⟩
theorem fl_X1_23 : Fl RX1 23 1 4 := ⟨_, _, _, rfl, by decide, cws_1, tb_1 226 (by decide +kernel) (by decide +kernel)⟩
theorem fl_X1_29 : Fl RX1 29 1 2 := ⟨_, _, _, rfl, by decide, cws_1, tb_1 217 (by decide +kernel) (by decide +kernel)⟩
theorem fl_X1_36 : Fl RX1 36 1 3 := ⟨_, _, _, rfl, by decide, cws_1, tb_1 222 (by decide +kernel) (by decide +kernel)⟩
theorem fl_X1_42 : Fl RX1 42 1 5 := ⟨_, _, _, rfl, by decide, cws_1, tb_1 229 (by decide +kernel) (by decide +kernel)⟩
theorem fl_X1_45 : Fl RX1 45 4 9 := ⟨_, _, _, rfl, by decide, cws_4, tb_1 132 (by decide +kernel) (by decide +kernel)⟩
theorem fl_X1_48 : Fl RX1 48 4 12 := ⟨_, _, _, rfl, by decide, cws_4, tb_1 143 (by decide +kernel) (by decide +kernel)⟩
theorem fl_X1_51 : Fl RX1 51 4 13 := ⟨_, _, _, rfl, by decide, cws_4, tb_1 147 (by decide +kernel) (by decide +kernel)⟩
theorem fl_X1_79 : Fl RX1 79 1 6 := ⟨_, _, _, rfl, by decide, cws_1, tb_1 231 (by decide +kernel) (by decide +kernel)⟩
theorem fl_X1_89 : Fl RX1 89 9 2 := ⟨_, _, _, rfl, by decide, cws_9, tb_1 46 (by decide +kernel) (by decide +kernel)⟩
theorem fl_X1_156 : Fl RX1 156 9 3 := ⟨_, _, _, rfl, by decide, cws_9, tb_1 48 (by decide +kernel) (by decide +kernel)⟩
theorem fl_X1_168 : Fl RX1 168 9 5 := ⟨_, _, _, rfl, by decide, cws_9, tb_1 55 (by decide +kernel) (by decide +kernel)⟩
theorem fl_X1_184 : Fl RX1 184 4 4 := ⟨_, _, _, rfl, by decide, cws_4, tb_1 119 (by decide +kernel) (by decide +kernel)⟩
theorem fl_X1_205 : Fl RX1 205 4 7 := ⟨_, _, _, rfl, by decide, cws_4, tb_1 127 (by decide +kernel) (by decide +kernel)⟩
theorem fl_X1_214 : Fl RX1 214 4 8 := ⟨_, _, _, rfl, by decide, cws_4, tb_1 130 (by decide +kernel) (by decide +kernel)⟩
theorem fl_X1_217 : Fl RX1 217 9 4 := ⟨_, _, _, rfl, by decide, cws_9, tb_1 51 (by decide +kernel) (by decide +kernel)⟩
theorem fl_X1_220 : Fl RX1 220 8 0 := ⟨_, _, _, rfl, by decide, cws_8, tb_1 184 (by decide +kernel) (by decide +kernel)⟩
theorem fl_X1_241 : Fl RX1 241 4 0 := ⟨_, _, _, rfl, by decide, cws_4, tb_1 106 (by decide +kernel) (by decide +kernel)⟩
theorem fl_X2_9 : Fl RX2 9 2 0 := ⟨_, _, _, rfl, by decide, cws_2, tb_2 131 (by decide +kernel) (by decide +kernel)⟩
theorem fl_X2_15 : Fl RX2 15 6 1 := ⟨_, _, _, rfl, by decide, cws_6, tb_2 17 (by decide +kernel) (by decide +kernel)⟩
theorem fl_X2_32 : Fl RX2 32 6 0 := ⟨_, _, _, rfl, by decide, cws_6, tb_2 14 (by decide +kernel) (by decide +kernel)⟩
theorem fl_X2_36 : Fl RX2 36 1 2 := ⟨_, _, _, rfl, by decide, cws_1, tb_1 219 (by decide +kernel) (by decide +kernel)⟩
theorem fl_X2_41 : Fl RX2 41 1 3 := ⟨_, _, _, rfl, by decide, cws_1, tb_1 224 (by decide +kernel) (by decide +kernel)⟩
theorem fl_X4_9 : Fl RX4 9 4 11 := ⟨_, _, _, rfl, by decide, cws_4, tb_1 139 (by decide +kernel) (by decide +kernel)⟩
theorem fl_X4_15 : Fl RX4 15 4 0 := ⟨_, _, _, rfl, by decide, cws_4, tb_1 105 (by decide +kernel) (by decide +kernel)⟩
theorem fl_X4_19 : Fl RX4 19 4 6 := ⟨_, _, _, rfl, by decide, cws_4, tb_1 123 (by decide +kernel) (by decide +kernel)⟩
theorem fl_X4_23 : Fl RX4 23 4 7 := ⟨_, _, _, rfl, by decide, cws_4, tb_1 126 (by decide +kernel) (by decide +kernel)⟩
theorem fl_X4_27 : Fl RX4 27 4 8 := ⟨_, _, _, rfl, by decide, cws_4, tb_1 128 (by decide +kernel) (by decide +kernel)⟩
theorem fl_X4_30 : Fl RX4 30 4 9 := ⟨_, _, _, rfl, by decide, cws_4, tb_1 131 (by decide +kernel) (by decide +kernel)⟩
theorem fl_X4_33 : Fl RX4 33 4 10 := ⟨_, _, _, rfl, by decide, cws_4, tb_1 134 (by decide +kernel) (by decide +kernel)⟩
theorem fl_X4_36 : Fl RX4 36 4 1 := ⟨_, _, _, rfl, by decide, cws_4, tb_1 107 (by decide +kernel) (by decide +kernel)⟩
theorem fl_X4_39 : Fl RX4 39 4 2 := ⟨_, _, _, rfl, by decide, cws_4, tb_1 110 (by decide +kernel) (by decide +kernel)⟩
theorem fl_X4_42 : Fl RX4 42 4 3 := ⟨_, _, _, rfl, by decide, cws_4, tb_1 113 (by decide +kernel) (by decide +kernel)⟩
theorem fl_X4_45 : Fl RX4 45 4 4 := ⟨_, _, _, rfl, by decide, cws_4, tb_1 117 (by decide +kernel) (by decide +kernel)⟩
theorem fl_X4_48 : Fl RX4 48 4 5 := ⟨_, _, _, rfl, by decide, cws_4, tb_1 121 (by decide +kernel) (by decide +kernel)⟩
theorem fl_X4_57 : Fl RX4 57 4 12 := ⟨_, _, _, rfl, by decide, cws_4, tb_1 142 (by decide +kernel) (by decide +kernel)⟩
theorem fl_X4_60 : Fl RX4 60 4 13 := ⟨_, _, _, rfl, by decide, cws_4, tb_1 146 (by decide +kernel) (by decide +kernel)⟩
theorem fl_X5_13 : Fl RX5 13 5 0 := ⟨_, _, _, rfl, by decide, cws_5, tb_2 115 (by decide +kernel) (by decide +kernel)⟩
theorem fl_X5_20 : Fl RX5 20 5 2 := ⟨_, _, _, rfl, by decide, cws_5, tb_2 117 (by decide +kernel) (by decide +kernel)⟩
theorem fl_X5_24 : Fl RX5 24 5 1 := ⟨_, _, _, rfl, by decide, cws_5, tb_2 116 (by decide +kernel) (by decide +kernel)⟩
theorem fl_X6_9 : Fl RX6 9 6 4 := ⟨_, _, _, rfl, by decide, cws_6, tb_2 24 (by decide +kernel) (by decide +kernel)⟩
theorem fl_X6_15 : Fl RX6 15 6 5 := ⟨_, _, _, rfl, by decide, cws_6, tb_2 27 (by decide +kernel) (by decide +kernel)⟩
theorem fl_X6_18 : Fl RX6 18 6 6 := ⟨_, _, _, rfl, by decide, cws_6, tb_2 28 (by decide +kernel) (by decide +kernel)⟩
theorem fl_X6_21 : Fl RX6 21 6 7 := ⟨_, _, _, rfl, by decide, cws_6, tb_2 30 (by decide +kernel) (by decide +kernel)⟩
theorem fl_X6_24 : Fl RX6 24 6 8 := ⟨_, _, _, rfl, by decide, cws_6, tb_2 32 (by decide +kernel) (by decide +kernel)⟩
theorem fl_X6_27 : Fl RX6 27 6 0 := ⟨_, _, _, rfl, by decide, cws_6, tb_2 13 (by decide +kernel) (by decide +kernel)⟩
theorem fl_X6_31 : Fl RX6 31 6 1 := ⟨_, _, _, rfl, by decide, cws_6, tb_2 16 (by decide +kernel) (by decide +kernel)⟩
theorem fl_X6_35 : Fl RX6 35 1 4 := ⟨_, _, _, rfl, by decide, cws_1, tb_1 227 (by decide +kernel) (by decide +kernel)⟩
theorem fl_X6_40 : Fl RX6 40 6 2 := ⟨_, _, _, rfl, by decide, cws_6, tb_2 19 (by decide +kernel) (by decide +kernel)⟩
theorem fl_X6_43 : Fl RX6 43 6 3 := ⟨_, _, _, rfl, by decide, cws_6, tb_2 21 (by decide +kernel) (by decide +kernel)⟩
theorem fl_X6_46 : Fl RX6 46 1 2 := ⟨_, _, _, rfl, by decide, cws_1, tb_1 218 (by decide +kernel) (by decide +kernel)⟩
theorem fl_X6_49 : Fl RX6 49 1 0 := ⟨_, _, _, rfl, by decide, cws_1, tb_1 211 (by decide +kernel) (by decide +kernel)⟩
theorem fl_X6_53 : Fl RX6 53 4 5 := ⟨_, _, _, rfl, by decide, cws_4, tb_1 120 (by decide +kernel) (by decide +kernel)⟩
theorem fl_X6_57 : Fl RX6 57 4 6 := ⟨_, _, _, rfl, by decide, cws_4, tb_1 124 (by decide +kernel) (by decide +kernel)⟩
theorem fl_X6_60 : Fl RX6 60 1 3 := ⟨_, _, _, rfl, by decide, cws_1, tb_1 223 (by decide +kernel) (by decide +kernel)⟩
theorem fl_X6_63 : Fl RX6 63 1 1 := ⟨_, _, _, rfl, by decide, cws_1, tb_1 215 (by decide +kernel) (by decide +kernel)⟩
theorem fl_X6_67 : Fl RX6 67 8 1 := ⟨_, _, _, rfl, by decide, cws_8, tb_1 187 (by decide +kernel) (by decide +kernel)⟩
theorem fl_X6_72 : Fl RX6 72 8 2 := ⟨_, _, _, rfl, by decide, cws_8, tb_1 190 (by decide +kernel) (by decide +kernel)⟩
theorem fl_X6_75 : Fl RX6 75 8 3 := ⟨_, _, _, rfl, by decide, cws_8, tb_1 193 (by decide +kernel) (by decide +kernel)⟩
theorem fl_X6_83 : Fl RX6 83 4 10 := ⟨_, _, _, rfl, by decide, cws_4, tb_1 135 (by decide +kernel) (by decide +kernel)⟩
theorem fl_X6_94 : Fl RX6 94 4 11 := ⟨_, _, _, rfl, by decide, cws_4, tb_1 140 (by decide +kernel) (by decide +kernel)⟩
theorem fl_X6_116 : Fl RX6 116 4 9 := ⟨_, _, _, rfl, by decide, cws_4, tb_1 133 (by decide +kernel) (by decide +kernel)⟩
theorem fl_X6_122 : Fl RX6 122 8 4 := ⟨_, _, _, rfl, by decide, cws_8, tb_1 198 (by decide +kernel) (by decide +kernel)⟩
theorem fl_X7_11 : Fl RX7 11 7 2 := ⟨_, _, _, rfl, by decide, cws_7, tb_2 62 (by decide +kernel) (by decide +kernel)⟩
theorem fl_X7_15 : Fl RX7 15 7 3 := ⟨_, _, _, rfl, by decide, cws_7, tb_2 63 (by decide +kernel) (by decide +kernel)⟩
theorem fl_X7_18 : Fl RX7 18 7 4 := ⟨_, _, _, rfl, by decide, cws_7, tb_2 64 (by decide +kernel) (by decide +kernel)⟩
theorem fl_X7_21 : Fl RX7 21 7 5 := ⟨_, _, _, rfl, by decide, cws_7, tb_2 65 (by decide +kernel) (by decide +kernel)⟩
theorem fl_X7_24 : Fl RX7 24 7 0 := ⟨_, _, _, rfl, by decide, cws_7, tb_2 59 (by decide +kernel) (by decide +kernel)⟩
theorem fl_X7_28 : Fl RX7 28 7 1 := ⟨_, _, _, rfl, by decide, cws_7, tb_2 61 (by decide +kernel) (by decide +kernel)⟩
theorem fl_X7_144 : Fl RX7 144 9 4 := ⟨_, _, _, rfl, by decide, cws_9, tb_1 50 (by decide +kernel) (by decide +kernel)⟩
theorem fl_X7_151 : Fl RX7 151 9 5 := ⟨_, _, _, rfl, by decide, cws_9, tb_1 54 (by decide +kernel) (by decide +kernel)⟩
theorem fl_X7_154 : Fl RX7 154 6 0 := ⟨_, _, _, rfl, by decide, cws_6, tb_2 15 (by decide +kernel) (by decide +kernel)⟩
theorem fl_X7_168 : Fl RX7 168 6 3 := ⟨_, _, _, rfl, by decide, cws_6, tb_2 23 (by decide +kernel) (by decide +kernel)⟩
theorem fl_X7_177 : Fl RX7 177 1 0 := ⟨_, _, _, rfl, by decide, cws_1, tb_1 213 (by decide +kernel) (by decide +kernel)⟩
theorem fl_X7_181 : Fl RX7 181 4 12 := ⟨_, _, _, rfl, by decide, cws_4, tb_1 145 (by decide +kernel) (by decide +kernel)⟩
theorem fl_X7_193 : Fl RX7 193 1 2 := ⟨_, _, _, rfl, by decide, cws_1, tb_1 220 (by decide +kernel) (by decide +kernel)⟩
theorem fl_X7_200 : Fl RX7 200 6 4 := ⟨_, _, _, rfl, by decide, cws_6, tb_2 26 (by decide +kernel) (by decide +kernel)⟩
theorem fl_X7_203 : Fl RX7 203 4 10 := ⟨_, _, _, rfl, by decide, cws_4, tb_1 138 (by decide +kernel) (by decide +kernel)⟩
theorem fl_X7_206 : Fl RX7 206 4 3 := ⟨_, _, _, rfl, by decide, cws_4, tb_1 116 (by decide +kernel) (by decide +kernel)⟩
theorem fl_X8_7 : Fl RX8 7 8 0 := ⟨_, _, _, rfl, by decide, cws_8, tb_1 183 (by decide +kernel) (by decide +kernel)⟩
theorem fl_X8_13 : Fl RX8 13 8 1 := ⟨_, _, _, rfl, by decide, cws_8, tb_1 186 (by decide +kernel) (by decide +kernel)⟩
theorem fl_X8_17 : Fl RX8 17 8 2 := ⟨_, _, _, rfl, by decide, cws_8, tb_1 189 (by decide +kernel) (by decide +kernel)⟩
theorem fl_X8_20 : Fl RX8 20 8 3 := ⟨_, _, _, rfl, by decide, cws_8, tb_1 192 (by decide +kernel) (by decide +kernel)⟩
theorem fl_X8_23 : Fl RX8 23 8 4 := ⟨_, _, _, rfl, by decide, cws_8, tb_1 195 (by decide +kernel) (by decide +kernel)⟩
theorem fl_X9_9 : Fl RX9 9 9 0 := ⟨_, _, _, rfl, by decide, cws_9, tb_1 40 (by decide +kernel) (by decide +kernel)⟩
theorem fl_X9_15 : Fl RX9 15 9 1 := ⟨_, _, _, rfl, by decide, cws_9, tb_1 43 (by decide +kernel) (by decide +kernel)⟩
theorem fl_X9_25 : Fl RX9 25 9 10 := ⟨_, _, _, rfl, by decide, cws_9, tb_1 62 (by decide +kernel) (by decide +kernel)⟩
theorem fl_X9_28 : Fl RX9 28 9 11 := ⟨_, _, _, rfl, by decide, cws_9, tb_1 63 (by decide +kernel) (by decide +kernel)⟩
theorem fl_X9_32 : Fl RX9 32 9 9 := ⟨_, _, _, rfl, by decide, cws_9, tb_1 61 (by decide +kernel) (by decide +kernel)⟩
theorem fl_X9_44 : Fl RX9 44 9 8 := ⟨_, _, _, rfl, by decide, cws_9, tb_1 60 (by decide +kernel) (by decide +kernel)⟩
theorem fl_X9_47 : Fl RX9 47 9 3 := ⟨_, _, _, rfl, by decide, cws_9, tb_1 47 (by decide +kernel) (by decide +kernel)⟩
theorem fl_X9_51 : Fl RX9 51 9 4 := ⟨_, _, _, rfl, by decide, cws_9, tb_1 49 (by decide +kernel) (by decide +kernel)⟩
theorem fl_X9_54 : Fl RX9 54 9 2 := ⟨_, _, _, rfl, by decide, cws_9, tb_1 45 (by decide +kernel) (by decide +kernel)⟩
theorem fl_X9_85 : Fl RX9 85 4 10 := ⟨_, _, _, rfl, by decide, cws_4, tb_1 137 (by decide +kernel) (by decide +kernel)⟩
theorem fl_X11_12 : Fl RX11 12 10 0 := ⟨_, _, _, rfl, by decide, cws_10, tb_2 168 (by decide +kernel) (by decide +kernel)⟩
theorem fl_X11_19 : Fl RX11 19 10 1 := ⟨_, _, _, rfl, by decide, cws_10, tb_2 169 (by decide +kernel) (by decide +kernel)⟩
theorem fl_X11_23 : Fl RX11 23 10 2 := ⟨_, _, _, rfl, by decide, cws_10, tb_2 170 (by decide +kernel) (by decide +kernel)⟩
theorem fl_X11_31 : Fl RX11 31 10 3 := ⟨_, _, _, rfl, by decide, cws_10, tb_2 171 (by decide +kernel) (by decide +kernel)⟩
theorem fl_X11_35 : Fl RX11 35 10 4 := ⟨_, _, _, rfl, by decide, cws_10, tb_2 172 (by decide +kernel) (by decide +kernel)⟩
theorem fl_X11_41 : Fl RX11 41 10 5 := ⟨_, _, _, rfl, by decide, cws_10, tb_2 173 (by decide +kernel) (by decide +kernel)⟩
theorem fl_X11_45 : Fl RX11 45 10 6 := ⟨_, _, _, rfl, by decide, cws_10, tb_2 174 (by decide +kernel) (by decide +kernel)⟩
theorem fl_X11_51 : Fl RX11 51 10 7 := ⟨_, _, _, rfl, by decide, cws_10, tb_2 175 (by decide +kernel) (by decide +kernel)⟩
theorem fl_X11_58 : Fl RX11 58 10 8 := ⟨_, _, _, rfl, by decide, cws_10, tb_2 176 (by decide +kernel) (by decide +kernel)⟩
theorem fl_X11_65 : Fl RX11 65 10 9 := ⟨_, _, _, rfl, by decide, cws_10, tb_2 177 (by decide +kernel) (by decide +kernel)⟩
theorem fl_X11_71 : Fl RX11 71 10 10 := ⟨_, _, _, rfl, by decide, cws_10, tb_2 178 (by decide +kernel) (by decide +kernel)⟩
theorem fl_X11_75 : Fl RX11 75 10 11 := ⟨_, _, _, rfl, by decide, cws_10, tb_2 179 (by decide +kernel) (by decide +kernel)⟩
theorem fl_X11_79 : Fl RX11 79 10 12 := ⟨_, _, _, rfl, by decide, cws_10, tb_2 180 (by decide +kernel) (by decide +kernel)⟩
theorem fl_X11_82 : Fl RX11 82 10 13 := ⟨_, _, _, rfl, by decide, cws_10, tb_2 181 (by decide +kernel) (by decide +kernel)⟩
theorem fl_X11_85 : Fl RX11 85 10 16 := ⟨_, _, _, rfl, by decide, cws_10, tb_2 184 (by decide +kernel) (by decide +kernel)⟩
theorem fl_X11_89 : Fl RX11 89 10 17 := ⟨_, _, _, rfl, by decide, cws_10, tb_2 185 (by decide +kernel) (by decide +kernel)⟩
theorem fl_X11_92 : Fl RX11 92 10 18 := ⟨_, _, _, rfl, by decide, cws_10, tb_2 186 (by decide +kernel) (by decide +kernel)⟩
theorem fl_X11_95 : Fl RX11 95 10 19 := ⟨_, _, _, rfl, by decide, cws_10, tb_2 187 (by decide +kernel) (by decide +kernel)⟩
theorem fl_X11_102 : Fl RX11 102 9 1 := ⟨_, _, _, rfl, by decide, cws_9, tb_1 42 (by decide +kernel) (by decide +kernel)⟩
theorem fl_X11_116 : Fl RX11 116 9 7 := ⟨_, _, _, rfl, by decide, cws_9, tb_1 59 (by decide +kernel) (by decide +kernel)⟩
theorem fl_X11_129 : Fl RX11 129 1 5 := ⟨_, _, _, rfl, by decide, cws_1, tb_1 230 (by decide +kernel) (by decide +kernel)⟩
theorem fl_X11_132 : Fl RX11 132 10 15 := ⟨_, _, _, rfl, by decide, cws_10, tb_2 183 (by decide +kernel) (by decide +kernel)⟩
theorem fl_X11_142 : Fl RX11 142 1 0 := ⟨_, _, _, rfl, by decide, cws_1, tb_1 212 (by decide +kernel) (by decide +kernel)⟩
theorem fl_X11_146 : Fl RX11 146 4 1 := ⟨_, _, _, rfl, by decide, cws_4, tb_1 108 (by decide +kernel) (by decide +kernel)⟩
theorem fl_X11_151 : Fl RX11 151 4 2 := ⟨_, _, _, rfl, by decide, cws_4, tb_1 111 (by decide +kernel) (by decide +kernel)⟩
theorem fl_X11_163 : Fl RX11 163 4 10 := ⟨_, _, _, rfl, by decide, cws_4, tb_1 136 (by decide +kernel) (by decide +kernel)⟩
theorem fl_X11_182 : Fl RX11 182 4 11 := ⟨_, _, _, rfl, by decide, cws_4, tb_1 141 (by decide +kernel) (by decide +kernel)⟩
theorem fl_X11_189 : Fl RX11 189 6 6 := ⟨_, _, _, rfl, by decide, cws_6, tb_2 29 (by decide +kernel) (by decide +kernel)⟩
theorem fl_X11_192 : Fl RX11 192 6 7 := ⟨_, _, _, rfl, by decide, cws_6, tb_2 31 (by decide +kernel) (by decide +kernel)⟩
theorem fl_X11_195 : Fl RX11 195 6 8 := ⟨_, _, _, rfl, by decide, cws_6, tb_2 33 (by decide +kernel) (by decide +kernel)⟩
theorem fl_X11_198 : Fl RX11 198 1 1 := ⟨_, _, _, rfl, by decide, cws_1, tb_1 216 (by decide +kernel) (by decide +kernel)⟩
theorem fl_X11_202 : Fl RX11 202 8 4 := ⟨_, _, _, rfl, by decide, cws_8, tb_1 196 (by decide +kernel) (by decide +kernel)⟩
theorem fl_X11_218 : Fl RX11 218 6 1 := ⟨_, _, _, rfl, by decide, cws_6, tb_2 18 (by decide +kernel) (by decide +kernel)⟩
theorem fl_X11_225 : Fl RX11 225 6 3 := ⟨_, _, _, rfl, by decide, cws_6, tb_2 22 (by decide +kernel) (by decide +kernel)⟩
theorem fl_X11_231 : Fl RX11 231 6 2 := ⟨_, _, _, rfl, by decide, cws_6, tb_2 20 (by decide +kernel) (by decide +kernel)⟩
theorem fl_X11_314 : Fl RX11 314 1 2 := ⟨_, _, _, rfl, by decide, cws_1, tb_1 221 (by decide +kernel) (by decide +kernel)⟩
theorem fl_X11_325 : Fl RX11 325 10 14 := ⟨_, _, _, rfl, by decide, cws_10, tb_2 182 (by decide +kernel) (by decide +kernel)⟩
theorem fl_X11_328 : Fl RX11 328 8 0 := ⟨_, _, _, rfl, by decide, cws_8, tb_1 185 (by decide +kernel) (by decide +kernel)⟩
theorem fl_X11_361 : Fl RX11 361 0 5 := ⟨_, _, _, rfl, by decide, cws_0, tb_2 92 (by decide +kernel) (by decide +kernel)⟩
theorem fl_X11_364 : Fl RX11 364 0 4 := ⟨_, _, _, rfl, by decide, cws_0, tb_2 90 (by decide +kernel) (by decide +kernel)⟩
theorem fl_X11_374 : Fl RX11 374 7 0 := ⟨_, _, _, rfl, by decide, cws_7, tb_2 60 (by decide +kernel) (by decide +kernel)⟩
theorem fl_X11_383 : Fl RX11 383 3 0 := ⟨_, _, _, rfl, by decide, cws_3, tb_2 149 (by decide +kernel) (by decide +kernel)⟩
theorem fl_X11_384 : Fl RX11 384 3 1 := ⟨_, _, _, rfl, by decide, cws_3, tb_2 151 (by decide +kernel) (by decide +kernel)⟩
theorem fl_X11_385 : Fl RX11 385 3 2 := ⟨_, _, _, rfl, by decide, cws_3, tb_2 153 (by decide +kernel) (by decide +kernel)⟩
theorem fl_X11_386 : Fl RX11 386 3 3 := ⟨_, _, _, rfl, by decide, cws_3, tb_2 154 (by decide +kernel) (by decide +kernel)⟩
theorem fl_X11_390 : Fl RX11 390 1 3 := ⟨_, _, _, rfl, by decide, cws_1, tb_1 225 (by decide +kernel) (by decide +kernel)⟩
theorem fl_X11_393 : Fl RX11 393 1 4 := ⟨_, _, _, rfl, by decide, cws_1, tb_1 228 (by decide +kernel) (by decide +kernel)⟩
theorem fl_X11_396 : Fl RX11 396 9 6 := ⟨_, _, _, rfl, by decide, cws_9, tb_1 57 (by decide +kernel) (by decide +kernel)⟩
theorem fl_X11_409 : Fl RX11 409 9 0 := ⟨_, _, _, rfl, by decide, cws_9, tb_1 41 (by decide +kernel) (by decide +kernel)⟩
theorem fl_X12_1 : Fl RX12 1 11 0 := ⟨_, _, _, rfl, by decide, cws_11, tb_6 232 (by decide +kernel) (by decide +kernel)⟩
theorem fl_X12_7 : Fl RX12 7 11 2 := ⟨_, _, _, rfl, by decide, cws_11, tb_6 234 (by decide +kernel) (by decide +kernel)⟩
theorem fl_X12_14 : Fl RX12 14 11 1 := ⟨_, _, _, rfl, by decide, cws_11, tb_6 233 (by decide +kernel) (by decide +kernel)⟩
theorem fl_X12_18 : Fl RX12 18 11 3 := ⟨_, _, _, rfl, by decide, cws_11, tb_6 235 (by decide +kernel) (by decide +kernel)⟩
theorem fl_X12_21 : Fl RX12 21 11 4 := ⟨_, _, _, rfl, by decide, cws_11, tb_6 236 (by decide +kernel) (by decide +kernel)⟩
theorem fl_X12_24 : Fl RX12 24 11 5 := ⟨_, _, _, rfl, by decide, cws_11, tb_6 237 (by decide +kernel) (by decide +kernel)⟩
theorem fl_X12_33 : Fl RX12 33 11 6 := ⟨_, _, _, rfl, by decide, cws_11, tb_6 238 (by decide +kernel) (by decide +kernel)⟩
theorem fl_X12_37 : Fl RX12 37 11 7 := ⟨_, _, _, rfl, by decide, cws_11, tb_6 239 (by decide +kernel) (by decide +kernel)⟩
theorem fl_X12_40 : Fl RX12 40 11 8 := ⟨_, _, _, rfl, by decide, cws_11, tb_7 0 (by decide +kernel) (by decide +kernel)⟩
theorem fl_X12_43 : Fl RX12 43 11 9 := ⟨_, _, _, rfl, by decide, cws_11, tb_7 1 (by decide +kernel) (by decide +kernel)⟩
theorem fl_X12_47 : Fl RX12 47 11 10 := ⟨_, _, _, rfl, by decide, cws_11, tb_7 2 (by decide +kernel) (by decide +kernel)⟩
theorem fl_X12_50 : Fl RX12 50 11 22 := ⟨_, _, _, rfl, by decide, cws_11, tb_7 14 (by decide +kernel) (by decide +kernel)⟩
theorem fl_X12_53 : Fl RX12 53 11 23 := ⟨_, _, _, rfl, by decide, cws_11, tb_7 15 (by decide +kernel) (by decide +kernel)⟩
theorem fl_X12_56 : Fl RX12 56 11 25 := ⟨_, _, _, rfl, by decide, cws_11, tb_7 17 (by decide +kernel) (by decide +kernel)⟩
theorem fl_X12_59 : Fl RX12 59 11 28 := ⟨_, _, _, rfl, by decide, cws_11, tb_7 20 (by decide +kernel) (by decide +kernel)⟩
theorem fl_X12_63 : Fl RX12 63 11 29 := ⟨_, _, _, rfl, by decide, cws_11, tb_7 21 (by decide +kernel) (by decide +kernel)⟩
theorem fl_X12_66 : Fl RX12 66 11 37 := ⟨_, _, _, rfl, by decide, cws_11, tb_7 29 (by decide +kernel) (by decide +kernel)⟩
theorem fl_X12_69 : Fl RX12 69 11 41 := ⟨_, _, _, rfl, by decide, cws_11, tb_7 33 (by decide +kernel) (by decide +kernel)⟩
theorem fl_X12_72 : Fl RX12 72 11 43 := ⟨_, _, _, rfl, by decide, cws_11, tb_7 35 (by decide +kernel) (by decide +kernel)⟩
theorem fl_X12_75 : Fl RX12 75 11 49 := ⟨_, _, _, rfl, by decide, cws_11, tb_7 41 (by decide +kernel) (by decide +kernel)⟩
theorem fl_X12_78 : Fl RX12 78 11 50 := ⟨_, _, _, rfl, by decide, cws_11, tb_7 42 (by decide +kernel) (by decide +kernel)⟩
theorem fl_X12_81 : Fl RX12 81 11 51 := ⟨_, _, _, rfl, by decide, cws_11, tb_7 43 (by decide +kernel) (by decide +kernel)⟩
theorem fl_X12_84 : Fl RX12 84 11 52 := ⟨_, _, _, rfl, by decide, cws_11, tb_7 44 (by decide +kernel) (by decide +kernel)⟩
theorem fl_X12_148 : Fl RX12 148 11 12 := ⟨_, _, _, rfl, by decide, cws_11, tb_7 4 (by decide +kernel) (by decide +kernel)⟩
theorem fl_X12_151 : Fl RX12 151 11 13 := ⟨_, _, _, rfl, by decide, cws_11, tb_7 5 (by decide +kernel) (by decide +kernel)⟩
theorem fl_X12_154 : Fl RX12 154 11 11 := ⟨_, _, _, rfl, by decide, cws_11, tb_7 3 (by decide +kernel) (by decide +kernel)⟩
theorem fl_X12_164 : Fl RX12 164 11 14 := ⟨_, _, _, rfl, by decide, cws_11, tb_7 6 (by decide +kernel) (by decide +kernel)⟩
theorem fl_X12_167 : Fl RX12 167 11 17 := ⟨_, _, _, rfl, by decide, cws_11, tb_7 9 (by decide +kernel) (by decide +kernel)⟩
theorem fl_X12_171 : Fl RX12 171 11 15 := ⟨_, _, _, rfl, by decide, cws_11, tb_7 7 (by decide +kernel) (by decide +kernel)⟩
theorem fl_X12_174 : Fl RX12 174 11 16 := ⟨_, _, _, rfl, by decide, cws_11, tb_7 8 (by decide +kernel) (by decide +kernel)⟩
theorem fl_X12_190 : Fl RX12 190 11 18 := ⟨_, _, _, rfl, by decide, cws_11, tb_7 10 (by decide +kernel) (by decide +kernel)⟩
theorem fl_X12_227 : Fl RX12 227 11 21 := ⟨_, _, _, rfl, by decide, cws_11, tb_7 13 (by decide +kernel) (by decide +kernel)⟩
theorem fl_X12_237 : Fl RX12 237 11 20 := ⟨_, _, _, rfl, by decide, cws_11, tb_7 12 (by decide +kernel) (by decide +kernel)⟩
theorem fl_X12_249 : Fl RX12 249 11 19 := ⟨_, _, _, rfl, by decide, cws_11, tb_7 11 (by decide +kernel) (by decide +kernel)⟩
theorem fl_X12_258 : Fl RX12 258 11 24 := ⟨_, _, _, rfl, by decide, cws_11, tb_7 16 (by decide +kernel) (by decide +kernel)⟩
theorem fl_X12_350 : Fl RX12 350 11 27 := ⟨_, _, _, rfl, by decide, cws_11, tb_7 19 (by decide +kernel) (by decide +kernel)⟩
theorem fl_X12_353 : Fl RX12 353 11 26 := ⟨_, _, _, rfl, by decide, cws_11, tb_7 18 (by decide +kernel) (by decide +kernel)⟩
theorem fl_X12_368 : Fl RX12 368 11 30 := ⟨_, _, _, rfl, by decide, cws_11, tb_7 22 (by decide +kernel) (by decide +kernel)⟩
theorem fl_X12_371 : Fl RX12 371 11 31 := ⟨_, _, _, rfl, by decide, cws_11, tb_7 23 (by decide +kernel) (by decide +kernel)⟩
theorem fl_X12_374 : Fl RX12 374 11 32 := ⟨_, _, _, rfl, by decide, cws_11, tb_7 24 (by decide +kernel) (by decide +kernel)⟩
theorem fl_X12_380 : Fl RX12 380 11 35 := ⟨_, _, _, rfl, by decide, cws_11, tb_7 27 (by decide +kernel) (by decide +kernel)⟩
theorem fl_X12_383 : Fl RX12 383 11 33 := ⟨_, _, _, rfl, by decide, cws_11, tb_7 25 (by decide +kernel) (by decide +kernel)⟩
theorem fl_X12_389 : Fl RX12 389 11 36 := ⟨_, _, _, rfl, by decide, cws_11, tb_7 28 (by decide +kernel) (by decide +kernel)⟩
theorem fl_X12_392 : Fl RX12 392 11 34 := ⟨_, _, _, rfl, by decide, cws_11, tb_7 26 (by decide +kernel) (by decide +kernel)⟩
theorem fl_X12_401 : Fl RX12 401 11 38 := ⟨_, _, _, rfl, by decide, cws_11, tb_7 30 (by decide +kernel) (by decide +kernel)⟩
theorem fl_X12_423 : Fl RX12 423 11 39 := ⟨_, _, _, rfl, by decide, cws_11, tb_7 31 (by decide +kernel) (by decide +kernel)⟩
theorem fl_X12_436 : Fl RX12 436 11 40 := ⟨_, _, _, rfl, by decide, cws_11, tb_7 32 (by decide +kernel) (by decide +kernel)⟩
theorem fl_X12_445 : Fl RX12 445 11 42 := ⟨_, _, _, rfl, by decide, cws_11, tb_7 34 (by decide +kernel) (by decide +kernel)⟩
theorem fl_X12_448 : Fl RX12 448 11 44 := ⟨_, _, _, rfl, by decide, cws_11, tb_7 36 (by decide +kernel) (by decide +kernel)⟩
theorem fl_X12_451 : Fl RX12 451 11 46 := ⟨_, _, _, rfl, by decide, cws_11, tb_7 38 (by decide +kernel) (by decide +kernel)⟩
theorem fl_X12_458 : Fl RX12 458 11 47 := ⟨_, _, _, rfl, by decide, cws_11, tb_7 39 (by decide +kernel) (by decide +kernel)⟩
theorem fl_X12_464 : Fl RX12 464 11 45 := ⟨_, _, _, rfl, by decide, cws_11, tb_7 37 (by decide +kernel) (by decide +kernel)⟩
theorem fl_X12_467 : Fl RX12 467 11 48 := ⟨_, _, _, rfl, by decide, cws_11, tb_7 40 (by decide +kernel) (by decide +kernel)⟩
theorem fp_X0_27 : Fp RX0 27 0 3 .int := ⟨_, _, _, tyX0, rfl, by decide, cws_0, tb_2 88 (by decide +kernel) (by decide +kernel), tyX0_ok, nmX0, rfl, by decide +kernel, by decide +kernel⟩
theorem fp_X0_101 : Fp RX0 101 9 5 .int := ⟨_, _, _, tyX9, rfl, by decide, cws_9, tb_1 52 (by decide +kernel) (by decide +kernel), tyX9_ok, nmX9, rfl, by decide +kernel, by decide +kernel⟩
theorem fp_X0_108 : Fp RX0 108 0 5 .int := ⟨_, _, _, tyX0, rfl, by decide, cws_0, tb_2 91 (by decide +kernel) (by decide +kernel), tyX0_ok, nmX0, rfl, by decide +kernel, by decide +kernel⟩
theorem fp_X0_111 : Fp RX0 111 0 4 .int := ⟨_, _, _, tyX0, rfl, by decide, cws_0, tb_2 89 (by decide +kernel) (by decide +kernel), tyX0_ok, nmX0, rfl, by decide +kernel, by decide +kernel⟩
theorem fp_X1_23 : Fp RX1 23 1 4 .int := ⟨_, _, _, tyX1, rfl, by decide, cws_1, tb_1 226 (by decide +kernel) (by decide +kernel), tyX1_ok, nmX1, rfl, by decide +kernel, by decide +kernel⟩
theorem fp_X1_29 : Fp RX1 29 1 2 .int := ⟨_, _, _, tyX1, rfl, by decide, cws_1, tb_1 217 (by decide +kernel) (by decide +kernel), tyX1_ok, nmX1, rfl, by decide +kernel, by decide +kernel⟩
theorem fp_X1_36 : Fp RX1 36 1 3 .int := ⟨_, _, _, tyX1, rfl, by decide, cws_1, tb_1 222 (by decide +kernel) (by decide +kernel), tyX1_ok, nmX1, rfl, by decide +kernel, by decide +kernel⟩
theorem fp_X1_42 : Fp RX1 42 1 5 .int := ⟨_, _, _, tyX1, rfl, by decide, cws_1, tb_1 229 (by decide +kernel) (by decide +kernel), tyX1_ok, nmX1, rfl, by decide +kernel, by decide +kernel⟩
theorem fp_X1_48 : Fp RX1 48 4 12 .int := ⟨_, _, _, tyX4, rfl, by decide, cws_4, tb_1 143 (by decide +kernel) (by decide +kernel), tyX4_ok, nmX4, rfl, by decide +kernel, by decide +kernel⟩
theorem fp_X1_51 : Fp RX1 51 4 13 .int := ⟨_, _, _, tyX4, rfl, by decide, cws_4, tb_1 147 (by decide +kernel) (by decide +kernel), tyX4_ok, nmX4, rfl, by decide +kernel, by decide +kernel⟩
theorem fp_X1_79 : Fp RX1 79 1 6 .boolean := ⟨_, _, _, tyX1, rfl, by decide, cws_1, tb_1 231 (by decide +kernel) (by decide +kernel), tyX1_ok, nmX1, rfl, by decide +kernel, by decide +kernel⟩
theorem fp_X1_171 : Fp RX1 171 4 1 .int := ⟨_, _, _, tyX4, rfl, by decide, cws_4, tb_1 109 (by decide +kernel) (by decide +kernel), tyX4_ok, nmX4, rfl, by decide +kernel, by decide +kernel⟩
theorem fp_X1_174 : Fp RX1 174 4 2 .int := ⟨_, _, _, tyX4, rfl, by decide, cws_4, tb_1 112 (by decide +kernel) (by decide +kernel), tyX4_ok, nmX4, rfl, by decide +kernel, by decide +kernel⟩
theorem fp_X1_177 : Fp RX1 177 4 3 .int := ⟨_, _, _, tyX4, rfl, by decide, cws_4, tb_1 115 (by decide +kernel) (by decide +kernel), tyX4_ok, nmX4, rfl, by decide +kernel, by decide +kernel⟩
theorem fp_X1_184 : Fp RX1 184 4 4 .int := ⟨_, _, _, tyX4, rfl, by decide, cws_4, tb_1 119 (by decide +kernel) (by decide +kernel), tyX4_ok, nmX4, rfl, by decide +kernel, by decide +kernel⟩
theorem fp_X1_187 : Fp RX1 187 4 5 .int := ⟨_, _, _, tyX4, rfl, by decide, cws_4, tb_1 122 (by decide +kernel) (by decide +kernel), tyX4_ok, nmX4, rfl, by decide +kernel, by decide +kernel⟩
theorem fp_X1_205 : Fp RX1 205 4 7 .boolean := ⟨_, _, _, tyX4, rfl, by decide, cws_4, tb_1 127 (by decide +kernel) (by decide +kernel), tyX4_ok, nmX4, rfl, by decide +kernel, by decide +kernel⟩
theorem fp_X1_208 : Fp RX1 208 4 6 .int := ⟨_, _, _, tyX4, rfl, by decide, cws_4, tb_1 125 (by decide +kernel) (by decide +kernel), tyX4_ok, nmX4, rfl, by decide +kernel, by decide +kernel⟩
theorem fp_X1_214 : Fp RX1 214 4 8 .int := ⟨_, _, _, tyX4, rfl, by decide, cws_4, tb_1 130 (by decide +kernel) (by decide +kernel), tyX4_ok, nmX4, rfl, by decide +kernel, by decide +kernel⟩
theorem fp_X1_220 : Fp RX1 220 8 0 .long := ⟨_, _, _, tyX8, rfl, by decide, cws_8, tb_1 184 (by decide +kernel) (by decide +kernel), tyX8_ok, nmX8, rfl, by decide +kernel, by decide +kernel⟩
theorem fp_X1_223 : Fp RX1 223 8 1 .int := ⟨_, _, _, tyX8, rfl, by decide, cws_8, tb_1 188 (by decide +kernel) (by decide +kernel), tyX8_ok, nmX8, rfl, by decide +kernel, by decide +kernel⟩
theorem fp_X1_224 : Fp RX1 224 8 2 .int := ⟨_, _, _, tyX8, rfl, by decide, cws_8, tb_1 191 (by decide +kernel) (by decide +kernel), tyX8_ok, nmX8, rfl, by decide +kernel, by decide +kernel⟩
theorem fp_X1_225 : Fp RX1 225 8 3 .int := ⟨_, _, _, tyX8, rfl, by decide, cws_8, tb_1 194 (by decide +kernel) (by decide +kernel), tyX8_ok, nmX8, rfl, by decide +kernel, by decide +kernel⟩
theorem fp_X1_228 : Fp RX1 228 8 4 .int := ⟨_, _, _, tyX8, rfl, by decide, cws_8, tb_1 197 (by decide +kernel) (by decide +kernel), tyX8_ok, nmX8, rfl, by decide +kernel, by decide +kernel⟩
theorem fp_X2_9 : Fp RX2 9 2 0 .int := ⟨_, _, _, tyX2, rfl, by decide, cws_2, tb_2 131 (by decide +kernel) (by decide +kernel), tyX2_ok, nmX2, rfl, by decide +kernel, by decide +kernel⟩
theorem fp_X4_15 : Fp RX4 15 4 0 .long := ⟨_, _, _, tyX4, rfl, by decide, cws_4, tb_1 105 (by decide +kernel) (by decide +kernel), tyX4_ok, nmX4, rfl, by decide +kernel, by decide +kernel⟩
theorem fp_X4_19 : Fp RX4 19 4 6 .int := ⟨_, _, _, tyX4, rfl, by decide, cws_4, tb_1 123 (by decide +kernel) (by decide +kernel), tyX4_ok, nmX4, rfl, by decide +kernel, by decide +kernel⟩
theorem fp_X4_23 : Fp RX4 23 4 7 .boolean := ⟨_, _, _, tyX4, rfl, by decide, cws_4, tb_1 126 (by decide +kernel) (by decide +kernel), tyX4_ok, nmX4, rfl, by decide +kernel, by decide +kernel⟩
theorem fp_X4_27 : Fp RX4 27 4 8 .int := ⟨_, _, _, tyX4, rfl, by decide, cws_4, tb_1 128 (by decide +kernel) (by decide +kernel), tyX4_ok, nmX4, rfl, by decide +kernel, by decide +kernel⟩
theorem fp_X4_30 : Fp RX4 30 4 9 .int := ⟨_, _, _, tyX4, rfl, by decide, cws_4, tb_1 131 (by decide +kernel) (by decide +kernel), tyX4_ok, nmX4, rfl, by decide +kernel, by decide +kernel⟩
theorem fp_X4_33 : Fp RX4 33 4 10 .int := ⟨_, _, _, tyX4, rfl, by decide, cws_4, tb_1 134 (by decide +kernel) (by decide +kernel), tyX4_ok, nmX4, rfl, by decide +kernel, by decide +kernel⟩
theorem fp_X4_36 : Fp RX4 36 4 1 .int := ⟨_, _, _, tyX4, rfl, by decide, cws_4, tb_1 107 (by decide +kernel) (by decide +kernel), tyX4_ok, nmX4, rfl, by decide +kernel, by decide +kernel⟩
theorem fp_X4_39 : Fp RX4 39 4 2 .int := ⟨_, _, _, tyX4, rfl, by decide, cws_4, tb_1 110 (by decide +kernel) (by decide +kernel), tyX4_ok, nmX4, rfl, by decide +kernel, by decide +kernel⟩
theorem fp_X4_42 : Fp RX4 42 4 3 .int := ⟨_, _, _, tyX4, rfl, by decide, cws_4, tb_1 113 (by decide +kernel) (by decide +kernel), tyX4_ok, nmX4, rfl, by decide +kernel, by decide +kernel⟩
theorem fp_X4_45 : Fp RX4 45 4 4 .int := ⟨_, _, _, tyX4, rfl, by decide, cws_4, tb_1 117 (by decide +kernel) (by decide +kernel), tyX4_ok, nmX4, rfl, by decide +kernel, by decide +kernel⟩
theorem fp_X4_48 : Fp RX4 48 4 5 .int := ⟨_, _, _, tyX4, rfl, by decide, cws_4, tb_1 121 (by decide +kernel) (by decide +kernel), tyX4_ok, nmX4, rfl, by decide +kernel, by decide +kernel⟩
theorem fp_X4_57 : Fp RX4 57 4 12 .int := ⟨_, _, _, tyX4, rfl, by decide, cws_4, tb_1 142 (by decide +kernel) (by decide +kernel), tyX4_ok, nmX4, rfl, by decide +kernel, by decide +kernel⟩
theorem fp_X4_60 : Fp RX4 60 4 13 .int := ⟨_, _, _, tyX4, rfl, by decide, cws_4, tb_1 146 (by decide +kernel) (by decide +kernel), tyX4_ok, nmX4, rfl, by decide +kernel, by decide +kernel⟩
theorem fp_X5_20 : Fp RX5 20 5 2 .int := ⟨_, _, _, tyX5, rfl, by decide, cws_5, tb_2 117 (by decide +kernel) (by decide +kernel), tyX5_ok, nmX5, rfl, by decide +kernel, by decide +kernel⟩
theorem fp_X5_24 : Fp RX5 24 5 1 .int := ⟨_, _, _, tyX5, rfl, by decide, cws_5, tb_2 116 (by decide +kernel) (by decide +kernel), tyX5_ok, nmX5, rfl, by decide +kernel, by decide +kernel⟩
theorem fp_X6_31 : Fp RX6 31 6 1 .int := ⟨_, _, _, tyX6, rfl, by decide, cws_6, tb_2 16 (by decide +kernel) (by decide +kernel), tyX6_ok, nmX6, rfl, by decide +kernel, by decide +kernel⟩
theorem fp_X6_40 : Fp RX6 40 6 2 .int := ⟨_, _, _, tyX6, rfl, by decide, cws_6, tb_2 19 (by decide +kernel) (by decide +kernel), tyX6_ok, nmX6, rfl, by decide +kernel, by decide +kernel⟩
theorem fp_X6_43 : Fp RX6 43 6 3 .int := ⟨_, _, _, tyX6, rfl, by decide, cws_6, tb_2 21 (by decide +kernel) (by decide +kernel), tyX6_ok, nmX6, rfl, by decide +kernel, by decide +kernel⟩
theorem fp_X7_24 : Fp RX7 24 7 0 .int := ⟨_, _, _, tyX7, rfl, by decide, cws_7, tb_2 59 (by decide +kernel) (by decide +kernel), tyX7_ok, nmX7, rfl, by decide +kernel, by decide +kernel⟩
theorem fp_X7_28 : Fp RX7 28 7 1 .int := ⟨_, _, _, tyX7, rfl, by decide, cws_7, tb_2 61 (by decide +kernel) (by decide +kernel), tyX7_ok, nmX7, rfl, by decide +kernel, by decide +kernel⟩
theorem fp_X8_7 : Fp RX8 7 8 0 .long := ⟨_, _, _, tyX8, rfl, by decide, cws_8, tb_1 183 (by decide +kernel) (by decide +kernel), tyX8_ok, nmX8, rfl, by decide +kernel, by decide +kernel⟩
theorem fp_X8_13 : Fp RX8 13 8 1 .int := ⟨_, _, _, tyX8, rfl, by decide, cws_8, tb_1 186 (by decide +kernel) (by decide +kernel), tyX8_ok, nmX8, rfl, by decide +kernel, by decide +kernel⟩
theorem fp_X8_17 : Fp RX8 17 8 2 .int := ⟨_, _, _, tyX8, rfl, by decide, cws_8, tb_1 189 (by decide +kernel) (by decide +kernel), tyX8_ok, nmX8, rfl, by decide +kernel, by decide +kernel⟩
theorem fp_X8_20 : Fp RX8 20 8 3 .int := ⟨_, _, _, tyX8, rfl, by decide, cws_8, tb_1 192 (by decide +kernel) (by decide +kernel), tyX8_ok, nmX8, rfl, by decide +kernel, by decide +kernel⟩
theorem fp_X8_23 : Fp RX8 23 8 4 .int := ⟨_, _, _, tyX8, rfl, by decide, cws_8, tb_1 195 (by decide +kernel) (by decide +kernel), tyX8_ok, nmX8, rfl, by decide +kernel, by decide +kernel⟩
theorem fp_X9_15 : Fp RX9 15 9 1 .int := ⟨_, _, _, tyX9, rfl, by decide, cws_9, tb_1 43 (by decide +kernel) (by decide +kernel), tyX9_ok, nmX9, rfl, by decide +kernel, by decide +kernel⟩
theorem fp_X9_25 : Fp RX9 25 9 10 .int := ⟨_, _, _, tyX9, rfl, by decide, cws_9, tb_1 62 (by decide +kernel) (by decide +kernel), tyX9_ok, nmX9, rfl, by decide +kernel, by decide +kernel⟩
theorem fp_X9_28 : Fp RX9 28 9 11 .boolean := ⟨_, _, _, tyX9, rfl, by decide, cws_9, tb_1 63 (by decide +kernel) (by decide +kernel), tyX9_ok, nmX9, rfl, by decide +kernel, by decide +kernel⟩
theorem fp_X9_32 : Fp RX9 32 9 9 .int := ⟨_, _, _, tyX9, rfl, by decide, cws_9, tb_1 61 (by decide +kernel) (by decide +kernel), tyX9_ok, nmX9, rfl, by decide +kernel, by decide +kernel⟩
theorem fp_X9_35 : Fp RX9 35 9 6 .int := ⟨_, _, _, tyX9, rfl, by decide, cws_9, tb_1 56 (by decide +kernel) (by decide +kernel), tyX9_ok, nmX9, rfl, by decide +kernel, by decide +kernel⟩
theorem fp_X9_38 : Fp RX9 38 9 7 .int := ⟨_, _, _, tyX9, rfl, by decide, cws_9, tb_1 58 (by decide +kernel) (by decide +kernel), tyX9_ok, nmX9, rfl, by decide +kernel, by decide +kernel⟩
theorem fp_X9_44 : Fp RX9 44 9 8 .int := ⟨_, _, _, tyX9, rfl, by decide, cws_9, tb_1 60 (by decide +kernel) (by decide +kernel), tyX9_ok, nmX9, rfl, by decide +kernel, by decide +kernel⟩
theorem fp_X9_47 : Fp RX9 47 9 3 .long := ⟨_, _, _, tyX9, rfl, by decide, cws_9, tb_1 47 (by decide +kernel) (by decide +kernel), tyX9_ok, nmX9, rfl, by decide +kernel, by decide +kernel⟩
theorem fp_X9_51 : Fp RX9 51 9 4 .int := ⟨_, _, _, tyX9, rfl, by decide, cws_9, tb_1 49 (by decide +kernel) (by decide +kernel), tyX9_ok, nmX9, rfl, by decide +kernel, by decide +kernel⟩
theorem fp_X9_54 : Fp RX9 54 9 2 .int := ⟨_, _, _, tyX9, rfl, by decide, cws_9, tb_1 45 (by decide +kernel) (by decide +kernel), tyX9_ok, nmX9, rfl, by decide +kernel, by decide +kernel⟩
theorem fp_X9_78 : Fp RX9 78 9 5 .int := ⟨_, _, _, tyX9, rfl, by decide, cws_9, tb_1 53 (by decide +kernel) (by decide +kernel), tyX9_ok, nmX9, rfl, by decide +kernel, by decide +kernel⟩
theorem fp_X11_85 : Fp RX11 85 10 16 .int := ⟨_, _, _, tyX11, rfl, by decide, cws_10, tb_2 184 (by decide +kernel) (by decide +kernel), tyX11_ok, nmX11, rfl, by decide +kernel, by decide +kernel⟩
theorem fp_X11_89 : Fp RX11 89 10 17 .int := ⟨_, _, _, tyX11, rfl, by decide, cws_10, tb_2 185 (by decide +kernel) (by decide +kernel), tyX11_ok, nmX11, rfl, by decide +kernel, by decide +kernel⟩
theorem fp_X11_92 : Fp RX11 92 10 18 .int := ⟨_, _, _, tyX11, rfl, by decide, cws_10, tb_2 186 (by decide +kernel) (by decide +kernel), tyX11_ok, nmX11, rfl, by decide +kernel, by decide +kernel⟩
theorem fp_X11_95 : Fp RX11 95 10 19 .int := ⟨_, _, _, tyX11, rfl, by decide, cws_10, tb_2 187 (by decide +kernel) (by decide +kernel), tyX11_ok, nmX11, rfl, by decide +kernel, by decide +kernel⟩
theorem fp_X11_102 : Fp RX11 102 9 1 .int := ⟨_, _, _, tyX9, rfl, by decide, cws_9, tb_1 42 (by decide +kernel) (by decide +kernel), tyX9_ok, nmX9, rfl, by decide +kernel, by decide +kernel⟩
theorem fp_X11_132 : Fp RX11 132 10 15 .int := ⟨_, _, _, tyX11, rfl, by decide, cws_10, tb_2 183 (by decide +kernel) (by decide +kernel), tyX11_ok, nmX11, rfl, by decide +kernel, by decide +kernel⟩
theorem fp_X11_325 : Fp RX11 325 10 14 .int := ⟨_, _, _, tyX11, rfl, by decide, cws_10, tb_2 182 (by decide +kernel) (by decide +kernel), tyX11_ok, nmX11, rfl, by decide +kernel, by decide +kernel⟩
theorem fp_X11_386 : Fp RX11 386 3 3 .boolean := ⟨_, _, _, tyX3, rfl, by decide, cws_3, tb_2 154 (by decide +kernel) (by decide +kernel), tyX3_ok, nmX3, rfl, by decide +kernel, by decide +kernel⟩
theorem fp_X12_1 : Fp RX12 1 11 0 .int := ⟨_, _, _, tyX12, rfl, by decide, cws_11, tb_6 232 (by decide +kernel) (by decide +kernel), tyX12_ok, nmX12, rfl, by decide +kernel, by decide +kernel⟩
theorem fp_X12_7 : Fp RX12 7 11 2 .int := ⟨_, _, _, tyX12, rfl, by decide, cws_11, tb_6 234 (by decide +kernel) (by decide +kernel), tyX12_ok, nmX12, rfl, by decide +kernel, by decide +kernel⟩
theorem fp_X12_18 : Fp RX12 18 11 3 .int := ⟨_, _, _, tyX12, rfl, by decide, cws_11, tb_6 235 (by decide +kernel) (by decide +kernel), tyX12_ok, nmX12, rfl, by decide +kernel, by decide +kernel⟩
theorem fp_X12_21 : Fp RX12 21 11 4 .int := ⟨_, _, _, tyX12, rfl, by decide, cws_11, tb_6 236 (by decide +kernel) (by decide +kernel), tyX12_ok, nmX12, rfl, by decide +kernel, by decide +kernel⟩
theorem fp_X12_24 : Fp RX12 24 11 5 .int := ⟨_, _, _, tyX12, rfl, by decide, cws_11, tb_6 237 (by decide +kernel) (by decide +kernel), tyX12_ok, nmX12, rfl, by decide +kernel, by decide +kernel⟩
theorem fp_X12_148 : Fp RX12 148 11 12 .int := ⟨_, _, _, tyX12, rfl, by decide, cws_11, tb_7 4 (by decide +kernel) (by decide +kernel), tyX12_ok, nmX12, rfl, by decide +kernel, by decide +kernel⟩
theorem fp_X12_151 : Fp RX12 151 11 13 .int := ⟨_, _, _, tyX12, rfl, by decide, cws_11, tb_7 5 (by decide +kernel) (by decide +kernel), tyX12_ok, nmX12, rfl, by decide +kernel, by decide +kernel⟩
theorem fp_X12_154 : Fp RX12 154 11 11 .int := ⟨_, _, _, tyX12, rfl, by decide, cws_11, tb_7 3 (by decide +kernel) (by decide +kernel), tyX12_ok, nmX12, rfl, by decide +kernel, by decide +kernel⟩
theorem fp_X12_164 : Fp RX12 164 11 14 .int := ⟨_, _, _, tyX12, rfl, by decide, cws_11, tb_7 6 (by decide +kernel) (by decide +kernel), tyX12_ok, nmX12, rfl, by decide +kernel, by decide +kernel⟩
theorem fp_X12_167 : Fp RX12 167 11 17 .long := ⟨_, _, _, tyX12, rfl, by decide, cws_11, tb_7 9 (by decide +kernel) (by decide +kernel), tyX12_ok, nmX12, rfl, by decide +kernel, by decide +kernel⟩
theorem fp_X12_171 : Fp RX12 171 11 15 .int := ⟨_, _, _, tyX12, rfl, by decide, cws_11, tb_7 7 (by decide +kernel) (by decide +kernel), tyX12_ok, nmX12, rfl, by decide +kernel, by decide +kernel⟩
theorem fp_X12_174 : Fp RX12 174 11 16 .int := ⟨_, _, _, tyX12, rfl, by decide, cws_11, tb_7 8 (by decide +kernel) (by decide +kernel), tyX12_ok, nmX12, rfl, by decide +kernel, by decide +kernel⟩
theorem fp_X12_190 : Fp RX12 190 11 18 .int := ⟨_, _, _, tyX12, rfl, by decide, cws_11, tb_7 10 (by decide +kernel) (by decide +kernel), tyX12_ok, nmX12, rfl, by decide +kernel, by decide +kernel⟩
theorem fp_X12_227 : Fp RX12 227 11 21 .boolean := ⟨_, _, _, tyX12, rfl, by decide, cws_11, tb_7 13 (by decide +kernel) (by decide +kernel), tyX12_ok, nmX12, rfl, by decide +kernel, by decide +kernel⟩
theorem fp_X12_237 : Fp RX12 237 11 20 .int := ⟨_, _, _, tyX12, rfl, by decide, cws_11, tb_7 12 (by decide +kernel) (by decide +kernel), tyX12_ok, nmX12, rfl, by decide +kernel, by decide +kernel⟩
theorem fp_X12_249 : Fp RX12 249 11 19 .int := ⟨_, _, _, tyX12, rfl, by decide, cws_11, tb_7 11 (by decide +kernel) (by decide +kernel), tyX12_ok, nmX12, rfl, by decide +kernel, by decide +kernel⟩
theorem fp_X12_258 : Fp RX12 258 11 24 .int := ⟨_, _, _, tyX12, rfl, by decide, cws_11, tb_7 16 (by decide +kernel) (by decide +kernel), tyX12_ok, nmX12, rfl, by decide +kernel, by decide +kernel⟩
theorem fp_X12_350 : Fp RX12 350 11 27 .boolean := ⟨_, _, _, tyX12, rfl, by decide, cws_11, tb_7 19 (by decide +kernel) (by decide +kernel), tyX12_ok, nmX12, rfl, by decide +kernel, by decide +kernel⟩
theorem fp_X12_353 : Fp RX12 353 11 26 .int := ⟨_, _, _, tyX12, rfl, by decide, cws_11, tb_7 18 (by decide +kernel) (by decide +kernel), tyX12_ok, nmX12, rfl, by decide +kernel, by decide +kernel⟩
theorem fp_X12_368 : Fp RX12 368 11 30 .int := ⟨_, _, _, tyX12, rfl, by decide, cws_11, tb_7 22 (by decide +kernel) (by decide +kernel), tyX12_ok, nmX12, rfl, by decide +kernel, by decide +kernel⟩
theorem fp_X12_371 : Fp RX12 371 11 31 .int := ⟨_, _, _, tyX12, rfl, by decide, cws_11, tb_7 23 (by decide +kernel) (by decide +kernel), tyX12_ok, nmX12, rfl, by decide +kernel, by decide +kernel⟩
theorem fp_X12_374 : Fp RX12 374 11 32 .int := ⟨_, _, _, tyX12, rfl, by decide, cws_11, tb_7 24 (by decide +kernel) (by decide +kernel), tyX12_ok, nmX12, rfl, by decide +kernel, by decide +kernel⟩
theorem fp_X12_380 : Fp RX12 380 11 35 .boolean := ⟨_, _, _, tyX12, rfl, by decide, cws_11, tb_7 27 (by decide +kernel) (by decide +kernel), tyX12_ok, nmX12, rfl, by decide +kernel, by decide +kernel⟩
theorem fp_X12_383 : Fp RX12 383 11 33 .int := ⟨_, _, _, tyX12, rfl, by decide, cws_11, tb_7 25 (by decide +kernel) (by decide +kernel), tyX12_ok, nmX12, rfl, by decide +kernel, by decide +kernel⟩
theorem fp_X12_389 : Fp RX12 389 11 36 .boolean := ⟨_, _, _, tyX12, rfl, by decide, cws_11, tb_7 28 (by decide +kernel) (by decide +kernel), tyX12_ok, nmX12, rfl, by decide +kernel, by decide +kernel⟩
theorem fp_X12_392 : Fp RX12 392 11 34 .int := ⟨_, _, _, tyX12, rfl, by decide, cws_11, tb_7 26 (by decide +kernel) (by decide +kernel), tyX12_ok, nmX12, rfl, by decide +kernel, by decide +kernel⟩
theorem fp_X12_401 : Fp RX12 401 11 38 .int := ⟨_, _, _, tyX12, rfl, by decide, cws_11, tb_7 30 (by decide +kernel) (by decide +kernel), tyX12_ok, nmX12, rfl, by decide +kernel, by decide +kernel⟩
theorem fp_X12_423 : Fp RX12 423 11 39 .int := ⟨_, _, _, tyX12, rfl, by decide, cws_11, tb_7 31 (by decide +kernel) (by decide +kernel), tyX12_ok, nmX12, rfl, by decide +kernel, by decide +kernel⟩
theorem fp_X12_436 : Fp RX12 436 11 40 .int := ⟨_, _, _, tyX12, rfl, by decide, cws_11, tb_7 32 (by decide +kernel) (by decide +kernel), tyX12_ok, nmX12, rfl, by decide +kernel, by decide +kernel⟩
theorem fp_X12_445 : Fp RX12 445 11 42 .boolean := ⟨_, _, _, tyX12, rfl, by decide, cws_11, tb_7 34 (by decide +kernel) (by decide +kernel), tyX12_ok, nmX12, rfl, by decide +kernel, by decide +kernel⟩
theorem fp_X12_448 : Fp RX12 448 11 44 .int := ⟨_, _, _, tyX12, rfl, by decide, cws_11, tb_7 36 (by decide +kernel) (by decide +kernel), tyX12_ok, nmX12, rfl, by decide +kernel, by decide +kernel⟩
theorem fp_X12_451 : Fp RX12 451 11 46 .int := ⟨_, _, _, tyX12, rfl, by decide, cws_11, tb_7 38 (by decide +kernel) (by decide +kernel), tyX12_ok, nmX12, rfl, by decide +kernel, by decide +kernel⟩
theorem fp_X12_458 : Fp RX12 458 11 47 .int := ⟨_, _, _, tyX12, rfl, by decide, cws_11, tb_7 39 (by decide +kernel) (by decide +kernel), tyX12_ok, nmX12, rfl, by decide +kernel, by decide +kernel⟩
theorem fp_X12_464 : Fp RX12 464 11 45 .int := ⟨_, _, _, tyX12, rfl, by decide, cws_11, tb_7 37 (by decide +kernel) (by decide +kernel), tyX12_ok, nmX12, rfl, by decide +kernel, by decide +kernel⟩
theorem fp_X12_467 : Fp RX12 467 11 48 .boolean := ⟨_, _, _, tyX12, rfl, by decide, cws_11, tb_7 40 (by decide +kernel) (by decide +kernel), tyX12_ok, nmX12, rfl, by decide +kernel, by decide +kernel⟩
theorem mn_X2_28 : MsN RX2 28 mX11_remainder 2 "CoastLights" := ⟨mw_X11_remainder, by decide +kernel, tb_4 11 (by decide +kernel) (by decide +kernel)⟩
theorem mn_X4_67 : MsN RX4 67 mX11_remainder 2 "CoastLights" := ⟨mw_X11_remainder, by decide +kernel, tb_4 11 (by decide +kernel) (by decide +kernel)⟩
theorem mn_X4_87 : MsN RX4 87 mX11_octantOf 2 "CoastLights" := ⟨mw_X11_octantOf, by decide +kernel, tb_3 194 (by decide +kernel) (by decide +kernel)⟩
theorem mn_X6_86 : MsN RX6 86 mX11_remainder 2 "CoastLights" := ⟨mw_X11_remainder, by decide +kernel, tb_4 11 (by decide +kernel) (by decide +kernel)⟩
theorem mn_X6_135 : MsN RX6 135 mX11_isCell 2 "CoastLights" := ⟨mw_X11_isCell, by decide +kernel, tb_4 18 (by decide +kernel) (by decide +kernel)⟩
theorem ms_X0_46 : Ms RX0 46 mX0_kindAt 1 := ⟨mw_X0_kindAt, tb_5 161 (by decide +kernel) (by decide +kernel), tb_5 162 (by decide +kernel) (by decide +kernel)⟩
theorem ms_X0_124 : Ms RX0 124 mX0_whyWrong 2 := ⟨mw_X0_whyWrong, tb_5 205 (by decide +kernel) (by decide +kernel), tb_5 206 (by decide +kernel) (by decide +kernel)⟩
theorem ms_X1_65 : Ms RX1 65 mJ6_bitCount_0f7a4 1 := ⟨mw_J6_bitCount_0f7a4, tb_4 140 (by decide +kernel) (by decide +kernel), tb_4 141 (by decide +kernel) (by decide +kernel)⟩
theorem ms_X1_180 : Ms RX1 180 mX1_colourAt 1 := ⟨mw_X1_colourAt, tb_3 81 (by decide +kernel) (by decide +kernel), tb_3 82 (by decide +kernel) (by decide +kernel)⟩
theorem ms_X2_48 : Ms RX2 48 mX2_douseOrKindle 2 := ⟨mw_X2_douseOrKindle, tb_5 134 (by decide +kernel) (by decide +kernel), tb_5 135 (by decide +kernel) (by decide +kernel)⟩
theorem ms_X7_80 : Ms RX7 80 mX7_kindAt 1 := ⟨mw_X7_kindAt, tb_6 3 (by decide +kernel) (by decide +kernel), tb_6 4 (by decide +kernel) (by decide +kernel)⟩
theorem ms_X7_196 : Ms RX7 196 mX7_measureOf 3 := ⟨mw_X7_measureOf, tb_6 83 (by decide +kernel) (by decide +kernel), tb_6 84 (by decide +kernel) (by decide +kernel)⟩
theorem ms_X9_66 : Ms RX9 66 mX10_isReserved 1 := ⟨mw_X10_isReserved, tb_3 55 (by decide +kernel) (by decide +kernel), tb_3 56 (by decide +kernel) (by decide +kernel)⟩
theorem ms_X11_214 : Ms RX11 214 mX11_isCell 2 := ⟨mw_X11_isCell, tb_4 17 (by decide +kernel) (by decide +kernel), tb_4 18 (by decide +kernel) (by decide +kernel)⟩
theorem ms_X11_278 : Ms RX11 278 mJ6_bitCount_0f7a4 1 := ⟨mw_J6_bitCount_0f7a4, tb_4 162 (by decide +kernel) (by decide +kernel), tb_4 141 (by decide +kernel) (by decide +kernel)⟩
theorem ms_X11_380 : Ms RX11 380 mX11_memberAt 2 := ⟨mw_X11_memberAt, tb_6 86 (by decide +kernel) (by decide +kernel), tb_6 87 (by decide +kernel) (by decide +kernel)⟩
theorem ms_X11_412 : Ms RX11 412 mX11_octantOf 2 := ⟨mw_X11_octantOf, tb_5 8 (by decide +kernel) (by decide +kernel), tb_3 194 (by decide +kernel) (by decide +kernel)⟩
theorem ms_X12_157 : Ms RX12 157 mX12_isSmall 1 := ⟨mw_X12_isSmall, tb_7 169 (by decide +kernel) (by decide +kernel), tb_7 170 (by decide +kernel) (by decide +kernel)⟩
theorem ms_X12_161 : Ms RX12 161 mX12_isDigit 1 := ⟨mw_X12_isDigit, tb_7 172 (by decide +kernel) (by decide +kernel), tb_7 173 (by decide +kernel) (by decide +kernel)⟩
theorem ms_X12_186 : Ms RX12 186 mX12_isIn 3 := ⟨mw_X12_isIn, tb_7 211 (by decide +kernel) (by decide +kernel), tb_7 212 (by decide +kernel) (by decide +kernel)⟩
theorem ms_X12_240 : Ms RX12 240 mX12_bitOf 2 := ⟨mw_X12_bitOf, tb_7 226 (by decide +kernel) (by decide +kernel), tb_7 227 (by decide +kernel) (by decide +kernel)⟩
theorem ms_X12_274 : Ms RX12 274 mX12_octantOf 2 := ⟨mw_X12_octantOf, tb_8 72 (by decide +kernel) (by decide +kernel), tb_8 73 (by decide +kernel) (by decide +kernel)⟩
theorem ms_X12_277 : Ms RX12 277 mX12_lesser 2 := ⟨mw_X12_lesser, tb_8 69 (by decide +kernel) (by decide +kernel), tb_8 70 (by decide +kernel) (by decide +kernel)⟩
theorem ms_X12_313 : Ms RX12 313 mX12_stepX 1 := ⟨mw_X12_stepX, tb_8 151 (by decide +kernel) (by decide +kernel), tb_8 152 (by decide +kernel) (by decide +kernel)⟩
theorem ms_X12_316 : Ms RX12 316 mX12_stepY 1 := ⟨mw_X12_stepY, tb_8 154 (by decide +kernel) (by decide +kernel), tb_8 155 (by decide +kernel) (by decide +kernel)⟩
theorem ms_X12_347 : Ms RX12 347 mX12_bits 1 := ⟨mw_X12_bits, tb_8 177 (by decide +kernel) (by decide +kernel), tb_8 178 (by decide +kernel) (by decide +kernel)⟩
theorem ms_X12_362 : Ms RX12 362 mX12_greater 2 := ⟨mw_X12_greater, tb_8 212 (by decide +kernel) (by decide +kernel), tb_8 213 (by decide +kernel) (by decide +kernel)⟩
theorem mv_X0_21 : Mv RX0 21 mX9_open 1 9 := ⟨mw_X9_open, tb_5 156 (by decide +kernel) (by decide +kernel), tb_3 10 (by decide +kernel) (by decide +kernel), tb_3 11 (by decide +kernel) (by decide +kernel), _, _, rfl⟩
theorem mv_X0_34 : Mv RX0 34 mX0_readLine 2 0 := ⟨mw_X0_readLine, tb_5 157 (by decide +kernel) (by decide +kernel), tb_5 159 (by decide +kernel) (by decide +kernel), tb_s (q := (⟨"CoastLights$Book", "readLine", "(LCoastLights$Tokens;LCoastLights$Chart;)Z"⟩, 6)) 34 (by decide +kernel) (by decide +kernel), _, _, rfl⟩
theorem mv_X0_38 : Mv RX0 38 mX9_takeSign 1 9 := ⟨mw_X9_takeSign, tb_5 194 (by decide +kernel) (by decide +kernel), tb_3 134 (by decide +kernel) (by decide +kernel), tb_3 135 (by decide +kernel) (by decide +kernel), _, _, rfl⟩
theorem mv_X0_42 : Mv RX0 42 mX9_atEnd 0 9 := ⟨mw_X9_atEnd, tb_5 195 (by decide +kernel) (by decide +kernel), tb_3 142 (by decide +kernel) (by decide +kernel), tb_3 143 (by decide +kernel) (by decide +kernel), _, _, rfl⟩
theorem mv_X0_50 : Mv RX0 50 mX9_refuse 1 9 := ⟨mw_X9_refuse, tb_5 178 (by decide +kernel) (by decide +kernel), tb_3 43 (by decide +kernel) (by decide +kernel), tb_3 44 (by decide +kernel) (by decide +kernel), _, _, rfl⟩
theorem mv_X0_54 : Mv RX0 54 mX9_next 0 9 := ⟨mw_X9_next, tb_5 179 (by decide +kernel) (by decide +kernel), tb_3 17 (by decide +kernel) (by decide +kernel), tb_3 18 (by decide +kernel) (by decide +kernel), _, _, rfl⟩
theorem mv_X0_57 : Mv RX0 57 mX0_readWhom 3 0 := ⟨mw_X0_readWhom, tb_5 180 (by decide +kernel) (by decide +kernel), tb_5 182 (by decide +kernel) (by decide +kernel), tb_s (q := (⟨"CoastLights$Book", "readWhom", "(LCoastLights$Tokens;LCoastLights$Chart;I)Z"⟩, 6)) 35 (by decide +kernel) (by decide +kernel), _, _, rfl⟩
theorem mv_X0_61 : Mv RX0 61 mX0_readAmount 2 0 := ⟨mw_X0_readAmount, tb_5 189 (by decide +kernel) (by decide +kernel), tb_5 191 (by decide +kernel) (by decide +kernel), tb_s (q := (⟨"CoastLights$Book", "readAmount", "(LCoastLights$Tokens;I)Z"⟩, 6)) 36 (by decide +kernel) (by decide +kernel), _, _, rfl⟩
theorem mv_X0_71 : Mv RX0 71 mX9_is 1 9 := ⟨mw_X9_is, tb_5 166 (by decide +kernel) (by decide +kernel), tb_3 35 (by decide +kernel) (by decide +kernel), tb_3 36 (by decide +kernel) (by decide +kernel), _, _, rfl⟩
theorem mv_X0_93 : Mv RX0 93 mX1_shipAt 1 1 := ⟨mw_X1_shipAt, tb_5 184 (by decide +kernel) (by decide +kernel), tb_5 185 (by decide +kernel) (by decide +kernel), tb_5 186 (by decide +kernel) (by decide +kernel), _, _, rfl⟩
theorem mv_X0_98 : Mv RX0 98 mX1_lightAt 1 1 := ⟨mw_X1_lightAt, tb_5 188 (by decide +kernel) (by decide +kernel), tb_3 97 (by decide +kernel) (by decide +kernel), tb_3 98 (by decide +kernel) (by decide +kernel), _, _, rfl⟩
theorem mv_X0_104 : Mv RX0 104 mX9_takeNumber 2 9 := ⟨mw_X9_takeNumber, tb_5 193 (by decide +kernel) (by decide +kernel), tb_3 73 (by decide +kernel) (by decide +kernel), tb_3 74 (by decide +kernel) (by decide +kernel), _, _, rfl⟩
theorem mv_X0_114 : Mv RX0 114 mX0_liveLine 2 0 := ⟨mw_X0_liveLine, tb_5 200 (by decide +kernel) (by decide +kernel), tb_5 202 (by decide +kernel) (by decide +kernel), tb_s (q := (⟨"CoastLights$Book", "liveLine", "(LCoastLights$Scene;I)I"⟩, 6)) 37 (by decide +kernel) (by decide +kernel), _, _, rfl⟩
theorem mv_X0_118 : Mv RX0 118 mX6_putOut 1 6 := ⟨mw_X6_putOut, tb_5 204 (by decide +kernel) (by decide +kernel), tb_4 47 (by decide +kernel) (by decide +kernel), tb_4 48 (by decide +kernel) (by decide +kernel), _, _, rfl⟩
theorem mv_X0_128 : Mv RX0 128 mX6_relight 1 6 := ⟨mw_X6_relight, tb_5 208 (by decide +kernel) (by decide +kernel), tb_4 64 (by decide +kernel) (by decide +kernel), tb_4 65 (by decide +kernel) (by decide +kernel), _, _, rfl⟩
theorem mv_X0_131 : Mv RX0 131 mX6_pourInto 2 6 := ⟨mw_X6_pourInto, tb_5 209 (by decide +kernel) (by decide +kernel), tb_4 72 (by decide +kernel) (by decide +kernel), tb_4 73 (by decide +kernel) (by decide +kernel), _, _, rfl⟩
theorem mv_X0_134 : Mv RX0 134 mX6_moveOn 2 6 := ⟨mw_X6_moveOn, tb_5 210 (by decide +kernel) (by decide +kernel), tb_4 80 (by decide +kernel) (by decide +kernel), tb_4 81 (by decide +kernel) (by decide +kernel), _, _, rfl⟩
theorem mv_X0_137 : Mv RX0 137 mX6_turn 2 6 := ⟨mw_X6_turn, tb_5 211 (by decide +kernel) (by decide +kernel), tb_4 88 (by decide +kernel) (by decide +kernel), tb_4 89 (by decide +kernel) (by decide +kernel), _, _, rfl⟩
theorem mv_X0_140 : Mv RX0 140 mX6_setHaze 1 6 := ⟨mw_X6_setHaze, tb_5 212 (by decide +kernel) (by decide +kernel), tb_4 96 (by decide +kernel) (by decide +kernel), tb_4 97 (by decide +kernel) (by decide +kernel), _, _, rfl⟩
theorem mv_X0_143 : Mv RX0 143 mX6_passAll 1 6 := ⟨mw_X6_passAll, tb_5 213 (by decide +kernel) (by decide +kernel), tb_5 214 (by decide +kernel) (by decide +kernel), tb_5 215 (by decide +kernel) (by decide +kernel), _, _, rfl⟩
theorem mv_X1_32 : Mv RX1 32 mX4_copyFrom 1 4 := ⟨mw_X4_copyFrom, tb_3 153 (by decide +kernel) (by decide +kernel), tb_3 154 (by decide +kernel) (by decide +kernel), tb_3 155 (by decide +kernel) (by decide +kernel), _, _, rfl⟩
theorem mv_X1_39 : Mv RX1 39 mX8_copyFrom 1 8 := ⟨mw_X8_copyFrom, tb_3 160 (by decide +kernel) (by decide +kernel), tb_3 161 (by decide +kernel) (by decide +kernel), tb_3 162 (by decide +kernel) (by decide +kernel), _, _, rfl⟩
theorem mv_X1_54 : Mv RX1 54 mX1_comparePair 2 1 := ⟨mw_X1_comparePair, tb_3 168 (by decide +kernel) (by decide +kernel), tb_3 170 (by decide +kernel) (by decide +kernel), tb_s (q := (⟨"CoastLights$Chart", "comparePair", "(II)V"⟩, 7)) 14 (by decide +kernel) (by decide +kernel), _, _, rfl⟩
theorem mv_X1_58 : Mv RX1 58 mX4_isAlike 1 4 := ⟨mw_X4_isAlike, tb_3 172 (by decide +kernel) (by decide +kernel), tb_3 173 (by decide +kernel) (by decide +kernel), tb_3 174 (by decide +kernel) (by decide +kernel), _, _, rfl⟩
theorem mv_X1_62 : Mv RX1 62 mX4_isInOneSight 1 4 := ⟨mw_X4_isInOneSight, tb_3 184 (by decide +kernel) (by decide +kernel), tb_3 185 (by decide +kernel) (by decide +kernel), tb_3 186 (by decide +kernel) (by decide +kernel), _, _, rfl⟩
theorem mv_X1_71 : Mv RX1 71 mX1_allLights 0 1 := ⟨mw_X1_allLights, tb_4 154 (by decide +kernel) (by decide +kernel), tb_4 155 (by decide +kernel) (by decide +kernel), tb_4 156 (by decide +kernel) (by decide +kernel), _, _, rfl⟩
theorem mv_X1_75 : Mv RX1 75 mX1_endsAllConfusion 1 1 := ⟨mw_X1_endsAllConfusion, tb_4 158 (by decide +kernel) (by decide +kernel), tb_4 160 (by decide +kernel) (by decide +kernel), tb_s (q := (⟨"CoastLights$Chart", "endsAllConfusion", "(I)Z"⟩, 7)) 21 (by decide +kernel) (by decide +kernel), _, _, rfl⟩
theorem mv_X1_83 : Mv RX1 83 mX9_open 1 9 := ⟨mw_X9_open, tb_3 9 (by decide +kernel) (by decide +kernel), tb_3 10 (by decide +kernel) (by decide +kernel), tb_3 11 (by decide +kernel) (by decide +kernel), _, _, rfl⟩
theorem mv_X1_92 : Mv RX1 92 mX1_readLine 1 1 := ⟨mw_X1_readLine, tb_3 28 (by decide +kernel) (by decide +kernel), tb_3 30 (by decide +kernel) (by decide +kernel), tb_s (q := (⟨"CoastLights$Chart", "readLine", "(LCoastLights$Tokens;)Z"⟩, 7)) 2 (by decide +kernel) (by decide +kernel), _, _, rfl⟩
theorem mv_X1_96 : Mv RX1 96 mX9_takeSign 1 9 := ⟨mw_X9_takeSign, tb_3 133 (by decide +kernel) (by decide +kernel), tb_3 134 (by decide +kernel) (by decide +kernel), tb_3 135 (by decide +kernel) (by decide +kernel), _, _, rfl⟩
theorem mv_X1_100 : Mv RX1 100 mX9_atEnd 0 9 := ⟨mw_X9_atEnd, tb_3 141 (by decide +kernel) (by decide +kernel), tb_3 142 (by decide +kernel) (by decide +kernel), tb_3 143 (by decide +kernel) (by decide +kernel), _, _, rfl⟩
theorem mv_X1_110 : Mv RX1 110 mX9_is 1 9 := ⟨mw_X9_is, tb_3 34 (by decide +kernel) (by decide +kernel), tb_3 35 (by decide +kernel) (by decide +kernel), tb_3 36 (by decide +kernel) (by decide +kernel), _, _, rfl⟩
theorem mv_X1_114 : Mv RX1 114 mX1_readLight 1 1 := ⟨mw_X1_readLight, tb_3 38 (by decide +kernel) (by decide +kernel), tb_3 40 (by decide +kernel) (by decide +kernel), tb_s (q := (⟨"CoastLights$Chart", "readLight", "(LCoastLights$Tokens;)Z"⟩, 7)) 3 (by decide +kernel) (by decide +kernel), _, _, rfl⟩
theorem mv_X1_120 : Mv RX1 120 mX1_readFlash 1 1 := ⟨mw_X1_readFlash, tb_3 92 (by decide +kernel) (by decide +kernel), tb_3 94 (by decide +kernel) (by decide +kernel), tb_s (q := (⟨"CoastLights$Chart", "readFlash", "(LCoastLights$Tokens;)Z"⟩, 7)) 7 (by decide +kernel) (by decide +kernel), _, _, rfl⟩
theorem mv_X1_126 : Mv RX1 126 mX1_readFrom 1 1 := ⟨mw_X1_readFrom, tb_3 110 (by decide +kernel) (by decide +kernel), tb_3 112 (by decide +kernel) (by decide +kernel), tb_s (q := (⟨"CoastLights$Chart", "readFrom", "(LCoastLights$Tokens;)Z"⟩, 7)) 9 (by decide +kernel) (by decide +kernel), _, _, rfl⟩
theorem mv_X1_132 : Mv RX1 132 mX1_readDark 1 1 := ⟨mw_X1_readDark, tb_3 116 (by decide +kernel) (by decide +kernel), tb_3 118 (by decide +kernel) (by decide +kernel), tb_s (q := (⟨"CoastLights$Chart", "readDark", "(LCoastLights$Tokens;)Z"⟩, 7)) 10 (by decide +kernel) (by decide +kernel), _, _, rfl⟩
theorem mv_X1_138 : Mv RX1 138 mX1_readShip 1 1 := ⟨mw_X1_readShip, tb_3 123 (by decide +kernel) (by decide +kernel), tb_3 125 (by decide +kernel) (by decide +kernel), tb_s (q := (⟨"CoastLights$Chart", "readShip", "(LCoastLights$Tokens;)Z"⟩, 7)) 11 (by decide +kernel) (by decide +kernel), _, _, rfl⟩
theorem mv_X1_144 : Mv RX1 144 mX1_readHaze 1 1 := ⟨mw_X1_readHaze, tb_3 129 (by decide +kernel) (by decide +kernel), tb_3 131 (by decide +kernel) (by decide +kernel), tb_s (q := (⟨"CoastLights$Chart", "readHaze", "(LCoastLights$Tokens;)Z"⟩, 7)) 12 (by decide +kernel) (by decide +kernel), _, _, rfl⟩
theorem mv_X1_147 : Mv RX1 147 mX9_refuse 1 9 := ⟨mw_X9_refuse, tb_3 42 (by decide +kernel) (by decide +kernel), tb_3 43 (by decide +kernel) (by decide +kernel), tb_3 44 (by decide +kernel) (by decide +kernel), _, _, rfl⟩
theorem mv_X1_150 : Mv RX1 150 mX9_next 0 9 := ⟨mw_X9_next, tb_3 46 (by decide +kernel) (by decide +kernel), tb_3 17 (by decide +kernel) (by decide +kernel), tb_3 18 (by decide +kernel) (by decide +kernel), _, _, rfl⟩
theorem mv_X1_153 : Mv RX1 153 mX1_atNewName 1 1 := ⟨mw_X1_atNewName, tb_3 47 (by decide +kernel) (by decide +kernel), tb_3 49 (by decide +kernel) (by decide +kernel), tb_s (q := (⟨"CoastLights$Chart", "atNewName", "(LCoastLights$Tokens;)Z"⟩, 7)) 4 (by decide +kernel) (by decide +kernel), _, _, rfl⟩
theorem mv_X1_160 : Mv RX1 160 mX4_begin 1 4 := ⟨mw_X4_begin, tb_3 68 (by decide +kernel) (by decide +kernel), tb_3 69 (by decide +kernel) (by decide +kernel), tb_3 70 (by decide +kernel) (by decide +kernel), _, _, rfl⟩
theorem mv_X1_164 : Mv RX1 164 mX9_takeNumber 2 9 := ⟨mw_X9_takeNumber, tb_3 72 (by decide +kernel) (by decide +kernel), tb_3 73 (by decide +kernel) (by decide +kernel), tb_3 74 (by decide +kernel) (by decide +kernel), _, _, rfl⟩
theorem mv_X1_199 : Mv RX1 199 mX1_lightAt 1 1 := ⟨mw_X1_lightAt, tb_3 96 (by decide +kernel) (by decide +kernel), tb_3 97 (by decide +kernel) (by decide +kernel), tb_3 98 (by decide +kernel) (by decide +kernel), _, _, rfl⟩
theorem mv_X1_202 : Mv RX1 202 mX4_addFlash 2 4 := ⟨mw_X4_addFlash, tb_3 100 (by decide +kernel) (by decide +kernel), tb_3 101 (by decide +kernel) (by decide +kernel), tb_3 102 (by decide +kernel) (by decide +kernel), _, _, rfl⟩
theorem mv_X1_211 : Mv RX1 211 mX9_atNumber 2 9 := ⟨mw_X9_atNumber, tb_3 120 (by decide +kernel) (by decide +kernel), tb_3 77 (by decide +kernel) (by decide +kernel), tb_3 78 (by decide +kernel) (by decide +kernel), _, _, rfl⟩
theorem mv_X1_231 : Mv RX1 231 mX9_isName 0 9 := ⟨mw_X9_isName, tb_3 51 (by decide +kernel) (by decide +kernel), tb_3 52 (by decide +kernel) (by decide +kernel), tb_3 53 (by decide +kernel) (by decide +kernel), _, _, rfl⟩
theorem mv_X1_234 : Mv RX1 234 mX1_lightNamed 1 1 := ⟨mw_X1_lightNamed, tb_3 60 (by decide +kernel) (by decide +kernel), tb_3 62 (by decide +kernel) (by decide +kernel), tb_s (q := (⟨"CoastLights$Chart", "lightNamed", "(J)I"⟩, 7)) 5 (by decide +kernel) (by decide +kernel), _, _, rfl⟩
theorem mv_X1_238 : Mv RX1 238 mX1_shipNamed 1 1 := ⟨mw_X1_shipNamed, tb_3 64 (by decide +kernel) (by decide +kernel), tb_3 66 (by decide +kernel) (by decide +kernel), tb_s (q := (⟨"CoastLights$Chart", "shipNamed", "(J)I"⟩, 7)) 6 (by decide +kernel) (by decide +kernel), _, _, rfl⟩
theorem mv_X2_20 : Mv RX2 20 mX2_act 1 2 := ⟨mw_X2_act, tb_5 124 (by decide +kernel) (by decide +kernel), tb_5 126 (by decide +kernel) (by decide +kernel), tb_s (q := (⟨"CoastLights$Draws", "act", "(LCoastLights$Scene;)V"⟩, 1)) 32 (by decide +kernel) (by decide +kernel), _, _, rfl⟩
theorem mv_X2_24 : Mv RX2 24 mX6_passOne 0 6 := ⟨mw_X6_passOne, tb_5 143 (by decide +kernel) (by decide +kernel), tb_4 108 (by decide +kernel) (by decide +kernel), tb_4 109 (by decide +kernel) (by decide +kernel), _, _, rfl⟩
theorem mv_X2_44 : Mv RX2 44 mX2_draw 1 2 := ⟨mw_X2_draw, tb_5 128 (by decide +kernel) (by decide +kernel), tb_5 130 (by decide +kernel) (by decide +kernel), tb_s (q := (⟨"CoastLights$Draws", "draw", "(I)I"⟩, 1)) 33 (by decide +kernel) (by decide +kernel), _, _, rfl⟩
theorem mv_X2_52 : Mv RX2 52 mX6_turn 2 6 := ⟨mw_X6_turn, tb_5 140 (by decide +kernel) (by decide +kernel), tb_4 88 (by decide +kernel) (by decide +kernel), tb_4 89 (by decide +kernel) (by decide +kernel), _, _, rfl⟩
theorem mv_X2_55 : Mv RX2 55 mX6_pourInto 2 6 := ⟨mw_X6_pourInto, tb_5 141 (by decide +kernel) (by decide +kernel), tb_4 72 (by decide +kernel) (by decide +kernel), tb_4 73 (by decide +kernel) (by decide +kernel), _, _, rfl⟩
theorem mv_X2_58 : Mv RX2 58 mX6_setHaze 1 6 := ⟨mw_X6_setHaze, tb_5 142 (by decide +kernel) (by decide +kernel), tb_4 96 (by decide +kernel) (by decide +kernel), tb_4 97 (by decide +kernel) (by decide +kernel), _, _, rfl⟩
theorem mv_X2_61 : Mv RX2 61 mX6_isOut 1 6 := ⟨mw_X6_isOut, tb_5 137 (by decide +kernel) (by decide +kernel), tb_4 3 (by decide +kernel) (by decide +kernel), tb_4 4 (by decide +kernel) (by decide +kernel), _, _, rfl⟩
theorem mv_X2_65 : Mv RX2 65 mX6_relight 1 6 := ⟨mw_X6_relight, tb_5 138 (by decide +kernel) (by decide +kernel), tb_4 64 (by decide +kernel) (by decide +kernel), tb_4 65 (by decide +kernel) (by decide +kernel), _, _, rfl⟩
theorem mv_X2_68 : Mv RX2 68 mX6_putOut 1 6 := ⟨mw_X6_putOut, tb_5 139 (by decide +kernel) (by decide +kernel), tb_4 47 (by decide +kernel) (by decide +kernel), tb_4 48 (by decide +kernel) (by decide +kernel), _, _, rfl⟩
theorem mv_X4_63 : Mv RX4 63 mX4_addSeconds 2 4 := ⟨mw_X4_addSeconds, tb_3 104 (by decide +kernel) (by decide +kernel), tb_3 106 (by decide +kernel) (by decide +kernel), tb_s (q := (⟨"CoastLights$Light", "addSeconds", "(IZ)V"⟩, 14)) 8 (by decide +kernel) (by decide +kernel), _, _, rfl⟩
theorem mv_X4_71 : Mv RX4 71 mX4_shownAt 1 4 := ⟨mw_X4_shownAt, tb_4 176 (by decide +kernel) (by decide +kernel), tb_4 177 (by decide +kernel) (by decide +kernel), tb_4 178 (by decide +kernel) (by decide +kernel), _, _, rfl⟩
theorem mv_X4_75 : Mv RX4 75 mX4_placeBehind 1 4 := ⟨mw_X4_placeBehind, tb_3 180 (by decide +kernel) (by decide +kernel), tb_3 181 (by decide +kernel) (by decide +kernel), tb_3 182 (by decide +kernel) (by decide +kernel), _, _, rfl⟩
theorem mv_X4_78 : Mv RX4 78 mX4_hasRowFrom 2 4 := ⟨mw_X4_hasRowFrom, tb_3 176 (by decide +kernel) (by decide +kernel), tb_3 178 (by decide +kernel) (by decide +kernel), tb_s (q := (⟨"CoastLights$Light", "hasRowFrom", "(LCoastLights$Light;I)Z"⟩, 14)) 15 (by decide +kernel) (by decide +kernel), _, _, rfl⟩
theorem mv_X4_90 : Mv RX4 90 mX4_isVisible 3 4 := ⟨mw_X4_isVisible, tb_3 188 (by decide +kernel) (by decide +kernel), tb_3 189 (by decide +kernel) (by decide +kernel), tb_3 190 (by decide +kernel) (by decide +kernel), _, _, rfl⟩
theorem mv_X5_27 : Mv RX5 27 mX6_copyFrom 1 6 := ⟨mw_X6_copyFrom, tb_4 41 (by decide +kernel) (by decide +kernel), tb_4 42 (by decide +kernel) (by decide +kernel), tb_4 43 (by decide +kernel) (by decide +kernel), _, _, rfl⟩
theorem mv_X6_90 : Mv RX6 90 mX6_isOut 1 6 := ⟨mw_X6_isOut, tb_4 2 (by decide +kernel) (by decide +kernel), tb_4 3 (by decide +kernel) (by decide +kernel), tb_4 4 (by decide +kernel) (by decide +kernel), _, _, rfl⟩
theorem mv_X6_98 : Mv RX6 98 mX6_placeOf 1 6 := ⟨mw_X6_placeOf, tb_4 6 (by decide +kernel) (by decide +kernel), tb_4 7 (by decide +kernel) (by decide +kernel), tb_4 8 (by decide +kernel) (by decide +kernel), _, _, rfl⟩
theorem mv_X6_102 : Mv RX6 102 mX6_shines 1 6 := ⟨mw_X6_shines, tb_3 238 (by decide +kernel) (by decide +kernel), tb_3 239 (by decide +kernel) (by decide +kernel), tb_4 0 (by decide +kernel) (by decide +kernel), _, _, rfl⟩
theorem mv_X6_105 : Mv RX6 105 mX4_isVisible 3 4 := ⟨mw_X4_isVisible, tb_3 228 (by decide +kernel) (by decide +kernel), tb_3 189 (by decide +kernel) (by decide +kernel), tb_3 190 (by decide +kernel) (by decide +kernel), _, _, rfl⟩
theorem mv_X6_109 : Mv RX6 109 mX6_visibleFrom 2 6 := ⟨mw_X6_visibleFrom, tb_3 233 (by decide +kernel) (by decide +kernel), tb_3 225 (by decide +kernel) (by decide +kernel), tb_3 226 (by decide +kernel) (by decide +kernel), _, _, rfl⟩
theorem mv_X6_112 : Mv RX6 112 mX6_shiningOnes 0 6 := ⟨mw_X6_shiningOnes, tb_3 234 (by decide +kernel) (by decide +kernel), tb_3 235 (by decide +kernel) (by decide +kernel), tb_3 236 (by decide +kernel) (by decide +kernel), _, _, rfl⟩
theorem mv_X6_119 : Mv RX6 119 mX6_passOne 0 6 := ⟨mw_X6_passOne, tb_4 107 (by decide +kernel) (by decide +kernel), tb_4 108 (by decide +kernel) (by decide +kernel), tb_4 109 (by decide +kernel) (by decide +kernel), _, _, rfl⟩
theorem mv_X6_125 : Mv RX6 125 mX6_sail 1 6 := ⟨mw_X6_sail, tb_4 111 (by decide +kernel) (by decide +kernel), tb_4 113 (by decide +kernel) (by decide +kernel), tb_s (q := (⟨"CoastLights$Scene", "sail", "(I)V"⟩, 9)) 19 (by decide +kernel) (by decide +kernel), _, _, rfl⟩
theorem mv_X6_139 : Mv RX6 139 mX4_secondsOn 0 4 := ⟨mw_X4_secondsOn, tb_5 25 (by decide +kernel) (by decide +kernel), tb_5 26 (by decide +kernel) (by decide +kernel), tb_5 27 (by decide +kernel) (by decide +kernel), _, _, rfl⟩
theorem mv_X6_142 : Mv RX6 142 mX4_placeBehind 1 4 := ⟨mw_X4_placeBehind, tb_5 29 (by decide +kernel) (by decide +kernel), tb_3 181 (by decide +kernel) (by decide +kernel), tb_3 182 (by decide +kernel) (by decide +kernel), _, _, rfl⟩
theorem mv_X7_37 : Mv RX7 37 mX7_clear 0 7 := ⟨mw_X7_clear, tb_5 229 (by decide +kernel) (by decide +kernel), tb_3 197 (by decide +kernel) (by decide +kernel), tb_3 198 (by decide +kernel) (by decide +kernel), _, _, rfl⟩
theorem mv_X7_40 : Mv RX7 40 mX9_open 1 9 := ⟨mw_X9_open, tb_5 230 (by decide +kernel) (by decide +kernel), tb_3 10 (by decide +kernel) (by decide +kernel), tb_3 11 (by decide +kernel) (by decide +kernel), _, _, rfl⟩
theorem mv_X7_46 : Mv RX7 46 mX7_readCondition 3 7 := ⟨mw_X7_readCondition, tb_5 231 (by decide +kernel) (by decide +kernel), tb_5 233 (by decide +kernel) (by decide +kernel), tb_s (q := (⟨"CoastLights$Sentence", "readCondition", "(LCoastLights$Tokens;LCoastLights$Chart;I)Z"⟩, 6)) 38 (by decide +kernel) (by decide +kernel), _, _, rfl⟩
theorem mv_X7_50 : Mv RX7 50 mX9_atEnd 0 9 := ⟨mw_X9_atEnd, tb_6 54 (by decide +kernel) (by decide +kernel), tb_3 142 (by decide +kernel) (by decide +kernel), tb_3 143 (by decide +kernel) (by decide +kernel), _, _, rfl⟩
theorem mv_X7_54 : Mv RX7 54 mX7_readAll 3 7 := ⟨mw_X7_readAll, tb_5 235 (by decide +kernel) (by decide +kernel), tb_5 237 (by decide +kernel) (by decide +kernel), tb_s (q := (⟨"CoastLights$Sentence", "readAll", "(LCoastLights$Tokens;LCoastLights$Chart;I)Z"⟩, 6)) 39 (by decide +kernel) (by decide +kernel), _, _, rfl⟩
theorem mv_X7_63 : Mv RX7 63 mX9_is 1 9 := ⟨mw_X9_is, tb_6 8 (by decide +kernel) (by decide +kernel), tb_3 35 (by decide +kernel) (by decide +kernel), tb_3 36 (by decide +kernel) (by decide +kernel), _, _, rfl⟩
theorem mv_X7_67 : Mv RX7 67 mX9_next 0 9 := ⟨mw_X9_next, tb_6 29 (by decide +kernel) (by decide +kernel), tb_3 17 (by decide +kernel) (by decide +kernel), tb_3 18 (by decide +kernel) (by decide +kernel), _, _, rfl⟩
theorem mv_X7_70 : Mv RX7 70 mX7_add 3 7 := ⟨mw_X7_add, tb_6 31 (by decide +kernel) (by decide +kernel), tb_6 33 (by decide +kernel) (by decide +kernel), tb_s (q := (⟨"CoastLights$Sentence", "add", "(III)Z"⟩, 6)) 41 (by decide +kernel) (by decide +kernel), _, _, rfl⟩
theorem mv_X7_74 : Mv RX7 74 mX7_readOne 3 7 := ⟨mw_X7_readOne, tb_5 239 (by decide +kernel) (by decide +kernel), tb_6 1 (by decide +kernel) (by decide +kernel), tb_s (q := (⟨"CoastLights$Sentence", "readOne", "(LCoastLights$Tokens;LCoastLights$Chart;I)Z"⟩, 6)) 40 (by decide +kernel) (by decide +kernel), _, _, rfl⟩
theorem mv_X7_84 : Mv RX7 84 mX9_isSign 1 9 := ⟨mw_X9_isSign, tb_6 27 (by decide +kernel) (by decide +kernel), tb_3 138 (by decide +kernel) (by decide +kernel), tb_3 139 (by decide +kernel) (by decide +kernel), _, _, rfl⟩
theorem mv_X7_88 : Mv RX7 88 mX9_refuse 1 9 := ⟨mw_X9_refuse, tb_6 28 (by decide +kernel) (by decide +kernel), tb_3 43 (by decide +kernel) (by decide +kernel), tb_3 44 (by decide +kernel) (by decide +kernel), _, _, rfl⟩
theorem mv_X7_92 : Mv RX7 92 mX9_takeSign 1 9 := ⟨mw_X9_takeSign, tb_6 30 (by decide +kernel) (by decide +kernel), tb_3 134 (by decide +kernel) (by decide +kernel), tb_3 135 (by decide +kernel) (by decide +kernel), _, _, rfl⟩
theorem mv_X7_95 : Mv RX7 95 mX7_readPlain 3 7 := ⟨mw_X7_readPlain, tb_6 35 (by decide +kernel) (by decide +kernel), tb_6 37 (by decide +kernel) (by decide +kernel), tb_s (q := (⟨"CoastLights$Sentence", "readPlain", "(LCoastLights$Tokens;LCoastLights$Chart;I)Z"⟩, 6)) 42 (by decide +kernel) (by decide +kernel), _, _, rfl⟩
theorem mv_X7_128 : Mv RX7 128 mX1_lightAt 1 1 := ⟨mw_X1_lightAt, tb_6 39 (by decide +kernel) (by decide +kernel), tb_3 97 (by decide +kernel) (by decide +kernel), tb_3 98 (by decide +kernel) (by decide +kernel), _, _, rfl⟩
theorem mv_X7_133 : Mv RX7 133 mX7_readNamed 3 7 := ⟨mw_X7_readNamed, tb_6 40 (by decide +kernel) (by decide +kernel), tb_6 42 (by decide +kernel) (by decide +kernel), tb_s (q := (⟨"CoastLights$Sentence", "readNamed", "(LCoastLights$Tokens;II)Z"⟩, 6)) 43 (by decide +kernel) (by decide +kernel), _, _, rfl⟩
theorem mv_X7_137 : Mv RX7 137 mX1_shipAt 1 1 := ⟨mw_X1_shipAt, tb_6 44 (by decide +kernel) (by decide +kernel), tb_5 185 (by decide +kernel) (by decide +kernel), tb_5 186 (by decide +kernel) (by decide +kernel), _, _, rfl⟩
theorem mv_X7_140 : Mv RX7 140 mX7_readMeasure 2 7 := ⟨mw_X7_readMeasure, tb_6 45 (by decide +kernel) (by decide +kernel), tb_6 47 (by decide +kernel) (by decide +kernel), tb_s (q := (⟨"CoastLights$Sentence", "readMeasure", "(LCoastLights$Tokens;I)Z"⟩, 6)) 44 (by decide +kernel) (by decide +kernel), _, _, rfl⟩
theorem mv_X7_147 : Mv RX7 147 mX9_takeNumber 2 9 := ⟨mw_X9_takeNumber, tb_6 49 (by decide +kernel) (by decide +kernel), tb_3 73 (by decide +kernel) (by decide +kernel), tb_3 74 (by decide +kernel) (by decide +kernel), _, _, rfl⟩
theorem mv_X7_160 : Mv RX7 160 mX1_allLights 0 1 := ⟨mw_X1_allLights, tb_6 68 (by decide +kernel) (by decide +kernel), tb_4 155 (by decide +kernel) (by decide +kernel), tb_4 156 (by decide +kernel) (by decide +kernel), _, _, rfl⟩
theorem mv_X7_164 : Mv RX7 164 mX7_plainSet 2 7 := ⟨mw_X7_plainSet, tb_6 69 (by decide +kernel) (by decide +kernel), tb_6 71 (by decide +kernel) (by decide +kernel), tb_s (q := (⟨"CoastLights$Sentence", "plainSet", "(LCoastLights$Scene;I)I"⟩, 6)) 45 (by decide +kernel) (by decide +kernel), _, _, rfl⟩
theorem mv_X7_171 : Mv RX7 171 mX6_shiningOnes 0 6 := ⟨mw_X6_shiningOnes, tb_6 73 (by decide +kernel) (by decide +kernel), tb_3 235 (by decide +kernel) (by decide +kernel), tb_3 236 (by decide +kernel) (by decide +kernel), _, _, rfl⟩
theorem mv_X7_174 : Mv RX7 174 mX1_fixedLights 0 1 := ⟨mw_X1_fixedLights, tb_6 74 (by decide +kernel) (by decide +kernel), tb_6 75 (by decide +kernel) (by decide +kernel), tb_6 76 (by decide +kernel) (by decide +kernel), _, _, rfl⟩
theorem mv_X7_186 : Mv RX7 186 mX6_seenBy 1 6 := ⟨mw_X6_seenBy, tb_6 78 (by decide +kernel) (by decide +kernel), tb_3 230 (by decide +kernel) (by decide +kernel), tb_3 231 (by decide +kernel) (by decide +kernel), _, _, rfl⟩
theorem mv_X7_190 : Mv RX7 190 mX7_measuredSet 2 7 := ⟨mw_X7_measuredSet, tb_6 79 (by decide +kernel) (by decide +kernel), tb_6 81 (by decide +kernel) (by decide +kernel), tb_s (q := (⟨"CoastLights$Sentence", "measuredSet", "(LCoastLights$Scene;I)I"⟩, 6)) 46 (by decide +kernel) (by decide +kernel), _, _, rfl⟩
theorem mv_X9_41 : Mv RX9 41 mX9_next 0 9 := ⟨mw_X9_next, tb_3 16 (by decide +kernel) (by decide +kernel), tb_3 17 (by decide +kernel) (by decide +kernel), tb_3 18 (by decide +kernel) (by decide +kernel), _, _, rfl⟩
theorem mv_X9_57 : Mv RX9 57 mX9_readRun 0 9 := ⟨mw_X9_readRun, tb_3 20 (by decide +kernel) (by decide +kernel), tb_3 22 (by decide +kernel) (by decide +kernel), tb_s (q := (⟨"CoastLights$Tokens", "readRun", "()V"⟩, 12)) 0 (by decide +kernel) (by decide +kernel), _, _, rfl⟩
theorem mv_X9_60 : Mv RX9 60 mX9_readSign 0 9 := ⟨mw_X9_readSign, tb_3 24 (by decide +kernel) (by decide +kernel), tb_3 26 (by decide +kernel) (by decide +kernel), tb_s (q := (⟨"CoastLights$Tokens", "readSign", "()V"⟩, 12)) 1 (by decide +kernel) (by decide +kernel), _, _, rfl⟩
theorem mv_X9_70 : Mv RX9 70 mX9_refuse 1 9 := ⟨mw_X9_refuse, tb_3 80 (by decide +kernel) (by decide +kernel), tb_3 43 (by decide +kernel) (by decide +kernel), tb_3 44 (by decide +kernel) (by decide +kernel), _, _, rfl⟩
theorem mv_X9_74 : Mv RX9 74 mX9_atNumber 2 9 := ⟨mw_X9_atNumber, tb_3 76 (by decide +kernel) (by decide +kernel), tb_3 77 (by decide +kernel) (by decide +kernel), tb_3 78 (by decide +kernel) (by decide +kernel), _, _, rfl⟩
theorem mv_X9_81 : Mv RX9 81 mX9_isSign 1 9 := ⟨mw_X9_isSign, tb_3 137 (by decide +kernel) (by decide +kernel), tb_3 138 (by decide +kernel) (by decide +kernel), tb_3 139 (by decide +kernel) (by decide +kernel), _, _, rfl⟩
theorem mv_X9_90 : Mv RX9 90 mX9_fitsFrom 2 9 := ⟨mw_X9_fitsFrom, tb_4 205 (by decide +kernel) (by decide +kernel), tb_4 207 (by decide +kernel) (by decide +kernel), tb_s (q := (⟨"CoastLights$Tokens", "fitsFrom", "(LCoastLights$Light;I)Z"⟩, 12)) 23 (by decide +kernel) (by decide +kernel), _, _, rfl⟩
theorem mv_X9_94 : Mv RX9 94 mX4_shownAt 1 4 := ⟨mw_X4_shownAt, tb_4 209 (by decide +kernel) (by decide +kernel), tb_4 177 (by decide +kernel) (by decide +kernel), tb_4 178 (by decide +kernel) (by decide +kernel), _, _, rfl⟩
theorem mv_X11_99 : Mv RX11 99 mX6_begin 0 6 := ⟨mw_X6_begin, tb_2 164 (by decide +kernel) (by decide +kernel), tb_2 165 (by decide +kernel) (by decide +kernel), tb_2 166 (by decide +kernel) (by decide +kernel), _, _, rfl⟩
theorem mv_X11_105 : Mv RX11 105 mX9_put 1 9 := ⟨mw_X9_put, tb_2 233 (by decide +kernel) (by decide +kernel), tb_2 234 (by decide +kernel) (by decide +kernel), tb_2 235 (by decide +kernel) (by decide +kernel), _, _, rfl⟩
theorem mv_X11_109 : Mv RX11 109 mX1_read 1 1 := ⟨mw_X1_read, tb_3 5 (by decide +kernel) (by decide +kernel), tb_3 6 (by decide +kernel) (by decide +kernel), tb_3 7 (by decide +kernel) (by decide +kernel), _, _, rfl⟩
theorem mv_X11_113 : Mv RX11 113 mX11_closeText 0 10 := ⟨mw_X11_closeText, tb_3 145 (by decide +kernel) (by decide +kernel), tb_3 147 (by decide +kernel) (by decide +kernel), tb_s (q := (⟨"CoastLights", "closeText", "()V"⟩, 20)) 13 (by decide +kernel) (by decide +kernel), _, _, rfl⟩
theorem mv_X11_119 : Mv RX11 119 mX1_copyFrom 1 1 := ⟨mw_X1_copyFrom, tb_3 149 (by decide +kernel) (by decide +kernel), tb_3 150 (by decide +kernel) (by decide +kernel), tb_3 151 (by decide +kernel) (by decide +kernel), _, _, rfl⟩
theorem mv_X11_122 : Mv RX11 122 mX1_compareLights 0 1 := ⟨mw_X1_compareLights, tb_3 164 (by decide +kernel) (by decide +kernel), tb_3 165 (by decide +kernel) (by decide +kernel), tb_3 166 (by decide +kernel) (by decide +kernel), _, _, rfl⟩
theorem mv_X11_125 : Mv RX11 125 mX7_clear 0 7 := ⟨mw_X7_clear, tb_3 196 (by decide +kernel) (by decide +kernel), tb_3 197 (by decide +kernel) (by decide +kernel), tb_3 198 (by decide +kernel) (by decide +kernel), _, _, rfl⟩
theorem mv_X11_128 : Mv RX11 128 mX5_clear 0 5 := ⟨mw_X5_clear, tb_3 200 (by decide +kernel) (by decide +kernel), tb_3 201 (by decide +kernel) (by decide +kernel), tb_3 202 (by decide +kernel) (by decide +kernel), _, _, rfl⟩
theorem mv_X11_135 : Mv RX11 135 mX11_isLight 1 10 := ⟨mw_X11_isLight, tb_3 212 (by decide +kernel) (by decide +kernel), tb_3 214 (by decide +kernel) (by decide +kernel), tb_s (q := (⟨"CoastLights", "isLight", "(I)Z"⟩, 20)) 16 (by decide +kernel) (by decide +kernel), _, _, rfl⟩
theorem mv_X11_166 : Mv RX11 166 mX6_placeOf 1 6 := ⟨mw_X6_placeOf, tb_4 171 (by decide +kernel) (by decide +kernel), tb_4 7 (by decide +kernel) (by decide +kernel), tb_4 8 (by decide +kernel) (by decide +kernel), _, _, rfl⟩
theorem mv_X11_186 : Mv RX11 186 mX11_isShip 1 10 := ⟨mw_X11_isShip, tb_3 220 (by decide +kernel) (by decide +kernel), tb_3 222 (by decide +kernel) (by decide +kernel), tb_s (q := (⟨"CoastLights", "isShip", "(I)Z"⟩, 20)) 17 (by decide +kernel) (by decide +kernel), _, _, rfl⟩
theorem mv_X11_207 : Mv RX11 207 mX6_visibleFrom 2 6 := ⟨mw_X6_visibleFrom, tb_3 224 (by decide +kernel) (by decide +kernel), tb_3 225 (by decide +kernel) (by decide +kernel), tb_3 226 (by decide +kernel) (by decide +kernel), _, _, rfl⟩
theorem mv_X11_211 : Mv RX11 211 mX6_seenBy 1 6 := ⟨mw_X6_seenBy, tb_3 229 (by decide +kernel) (by decide +kernel), tb_3 230 (by decide +kernel) (by decide +kernel), tb_3 231 (by decide +kernel) (by decide +kernel), _, _, rfl⟩
theorem mv_X11_221 : Mv RX11 221 mX6_shiningOnes 0 6 := ⟨mw_X6_shiningOnes, tb_4 24 (by decide +kernel) (by decide +kernel), tb_3 235 (by decide +kernel) (by decide +kernel), tb_3 236 (by decide +kernel) (by decide +kernel), _, _, rfl⟩
theorem mv_X11_228 : Mv RX11 228 mX6_emptyOnes 0 6 := ⟨mw_X6_emptyOnes, tb_4 25 (by decide +kernel) (by decide +kernel), tb_4 26 (by decide +kernel) (by decide +kernel), tb_4 27 (by decide +kernel) (by decide +kernel), _, _, rfl⟩
theorem mv_X11_234 : Mv RX11 234 mX6_oilOfAll 0 6 := ⟨mw_X6_oilOfAll, tb_4 29 (by decide +kernel) (by decide +kernel), tb_4 30 (by decide +kernel) (by decide +kernel), tb_4 31 (by decide +kernel) (by decide +kernel), _, _, rfl⟩
theorem mv_X11_237 : Mv RX11 237 mX5_mark 1 5 := ⟨mw_X5_mark, tb_4 37 (by decide +kernel) (by decide +kernel), tb_4 38 (by decide +kernel) (by decide +kernel), tb_4 39 (by decide +kernel) (by decide +kernel), _, _, rfl⟩
theorem mv_X11_241 : Mv RX11 241 mX6_putOut 1 6 := ⟨mw_X6_putOut, tb_4 46 (by decide +kernel) (by decide +kernel), tb_4 47 (by decide +kernel) (by decide +kernel), tb_4 48 (by decide +kernel) (by decide +kernel), _, _, rfl⟩
theorem mv_X11_244 : Mv RX11 244 mX11_keepIfDone 1 10 := ⟨mw_X11_keepIfDone, tb_4 50 (by decide +kernel) (by decide +kernel), tb_4 52 (by decide +kernel) (by decide +kernel), tb_s (q := (⟨"CoastLights", "keepIfDone", "(I)I"⟩, 20)) 18 (by decide +kernel) (by decide +kernel), _, _, rfl⟩
theorem mv_X11_247 : Mv RX11 247 mX6_relight 1 6 := ⟨mw_X6_relight, tb_4 63 (by decide +kernel) (by decide +kernel), tb_4 64 (by decide +kernel) (by decide +kernel), tb_4 65 (by decide +kernel) (by decide +kernel), _, _, rfl⟩
theorem mv_X11_250 : Mv RX11 250 mX6_pourInto 2 6 := ⟨mw_X6_pourInto, tb_4 71 (by decide +kernel) (by decide +kernel), tb_4 72 (by decide +kernel) (by decide +kernel), tb_4 73 (by decide +kernel) (by decide +kernel), _, _, rfl⟩
theorem mv_X11_253 : Mv RX11 253 mX6_moveOn 2 6 := ⟨mw_X6_moveOn, tb_4 79 (by decide +kernel) (by decide +kernel), tb_4 80 (by decide +kernel) (by decide +kernel), tb_4 81 (by decide +kernel) (by decide +kernel), _, _, rfl⟩
theorem mv_X11_256 : Mv RX11 256 mX6_turn 2 6 := ⟨mw_X6_turn, tb_4 87 (by decide +kernel) (by decide +kernel), tb_4 88 (by decide +kernel) (by decide +kernel), tb_4 89 (by decide +kernel) (by decide +kernel), _, _, rfl⟩
theorem mv_X11_259 : Mv RX11 259 mX6_setHaze 1 6 := ⟨mw_X6_setHaze, tb_4 95 (by decide +kernel) (by decide +kernel), tb_4 96 (by decide +kernel) (by decide +kernel), tb_4 97 (by decide +kernel) (by decide +kernel), _, _, rfl⟩
theorem mv_X11_262 : Mv RX11 262 mX6_pass 1 6 := ⟨mw_X6_pass, tb_4 103 (by decide +kernel) (by decide +kernel), tb_4 104 (by decide +kernel) (by decide +kernel), tb_4 105 (by decide +kernel) (by decide +kernel), _, _, rfl⟩
theorem mv_X11_265 : Mv RX11 265 mX11_keepIfAny 1 10 := ⟨mw_X11_keepIfAny, tb_4 120 (by decide +kernel) (by decide +kernel), tb_4 122 (by decide +kernel) (by decide +kernel), tb_s (q := (⟨"CoastLights", "keepIfAny", "(I)I"⟩, 20)) 20 (by decide +kernel) (by decide +kernel), _, _, rfl⟩
theorem mv_X11_268 : Mv RX11 268 mX5_takeBack 1 5 := ⟨mw_X5_takeBack, tb_4 128 (by decide +kernel) (by decide +kernel), tb_4 129 (by decide +kernel) (by decide +kernel), tb_4 130 (by decide +kernel) (by decide +kernel), _, _, rfl⟩
theorem mv_X11_272 : Mv RX11 272 mX1_pairsConfused 0 1 := ⟨mw_X1_pairsConfused, tb_4 136 (by decide +kernel) (by decide +kernel), tb_4 137 (by decide +kernel) (by decide +kernel), tb_4 138 (by decide +kernel) (by decide +kernel), _, _, rfl⟩
theorem mv_X11_275 : Mv RX11 275 mX1_fewestChanged 0 1 := ⟨mw_X1_fewestChanged, tb_4 150 (by decide +kernel) (by decide +kernel), tb_4 151 (by decide +kernel) (by decide +kernel), tb_4 152 (by decide +kernel) (by decide +kernel), _, _, rfl⟩
theorem mv_X11_283 : Mv RX11 283 mX4_sameFor 3 4 := ⟨mw_X4_sameFor, tb_4 172 (by decide +kernel) (by decide +kernel), tb_4 173 (by decide +kernel) (by decide +kernel), tb_4 174 (by decide +kernel) (by decide +kernel), _, _, rfl⟩
theorem mv_X11_292 : Mv RX11 292 mX4_placeBehind 1 4 := ⟨mw_X4_placeBehind, tb_4 188 (by decide +kernel) (by decide +kernel), tb_3 181 (by decide +kernel) (by decide +kernel), tb_3 182 (by decide +kernel) (by decide +kernel), _, _, rfl⟩
theorem mv_X11_295 : Mv RX11 295 mX9_isShownRow 0 9 := ⟨mw_X9_isShownRow, tb_4 193 (by decide +kernel) (by decide +kernel), tb_4 194 (by decide +kernel) (by decide +kernel), tb_4 195 (by decide +kernel) (by decide +kernel), _, _, rfl⟩
theorem mv_X11_299 : Mv RX11 299 mX11_fittingLights 0 10 := ⟨mw_X11_fittingLights, tb_4 197 (by decide +kernel) (by decide +kernel), tb_4 199 (by decide +kernel) (by decide +kernel), tb_s (q := (⟨"CoastLights", "fittingLights", "()I"⟩, 20)) 22 (by decide +kernel) (by decide +kernel), _, _, rfl⟩
theorem mv_X11_302 : Mv RX11 302 mX11_keepFits 1 10 := ⟨mw_X11_keepFits, tb_4 210 (by decide +kernel) (by decide +kernel), tb_4 212 (by decide +kernel) (by decide +kernel), tb_s (q := (⟨"CoastLights", "keepFits", "(I)V"⟩, 20)) 24 (by decide +kernel) (by decide +kernel), _, _, rfl⟩
theorem mv_X11_305 : Mv RX11 305 mX1_allLights 0 1 := ⟨mw_X1_allLights, tb_4 231 (by decide +kernel) (by decide +kernel), tb_4 155 (by decide +kernel) (by decide +kernel), tb_4 156 (by decide +kernel) (by decide +kernel), _, _, rfl⟩
theorem mv_X11_308 : Mv RX11 308 mX11_isFixTape 0 10 := ⟨mw_X11_isFixTape, tb_5 0 (by decide +kernel) (by decide +kernel), tb_5 2 (by decide +kernel) (by decide +kernel), tb_s (q := (⟨"CoastLights", "isFixTape", "()Z"⟩, 20)) 26 (by decide +kernel) (by decide +kernel), _, _, rfl⟩
theorem mv_X11_311 : Mv RX11 311 mX11_liesAsTaped 2 10 := ⟨mw_X11_liesAsTaped, tb_5 4 (by decide +kernel) (by decide +kernel), tb_5 6 (by decide +kernel) (by decide +kernel), tb_s (q := (⟨"CoastLights", "liesAsTaped", "(II)Z"⟩, 20)) 27 (by decide +kernel) (by decide +kernel), _, _, rfl⟩
theorem mv_X11_317 : Mv RX11 317 mX6_secondsToBurn 1 6 := ⟨mw_X6_secondsToBurn, tb_5 21 (by decide +kernel) (by decide +kernel), tb_5 22 (by decide +kernel) (by decide +kernel), tb_5 23 (by decide +kernel) (by decide +kernel), _, _, rfl⟩
theorem mv_X11_320 : Mv RX11 320 mX6_copyFrom 1 6 := ⟨mw_X6_copyFrom, tb_5 34 (by decide +kernel) (by decide +kernel), tb_4 42 (by decide +kernel) (by decide +kernel), tb_4 43 (by decide +kernel) (by decide +kernel), _, _, rfl⟩
theorem mv_X11_322 : Mv RX11 322 mX6_passOne 0 6 := ⟨mw_X6_passOne, tb_5 35 (by decide +kernel) (by decide +kernel), tb_4 108 (by decide +kernel) (by decide +kernel), tb_4 109 (by decide +kernel) (by decide +kernel), _, _, rfl⟩
theorem mv_X11_332 : Mv RX11 332 mX11_tagWord 1 10 := ⟨mw_X11_tagWord, tb_5 40 (by decide +kernel) (by decide +kernel), tb_5 42 (by decide +kernel) (by decide +kernel), tb_s (q := (⟨"CoastLights", "tagWord", "(J)V"⟩, 20)) 28 (by decide +kernel) (by decide +kernel), _, _, rfl⟩
theorem mv_X11_338 : Mv RX11 338 mX11_tagText 1 10 := ⟨mw_X11_tagText, tb_5 49 (by decide +kernel) (by decide +kernel), tb_5 51 (by decide +kernel) (by decide +kernel), tb_s (q := (⟨"CoastLights", "tagText", "(Ljava/lang/String;)V"⟩, 20)) 30 (by decide +kernel) (by decide +kernel), _, _, rfl⟩
theorem mv_X11_342 : Mv RX11 342 mX11_tagNumber 1 10 := ⟨mw_X11_tagNumber, tb_5 101 (by decide +kernel) (by decide +kernel), tb_5 103 (by decide +kernel) (by decide +kernel), tb_s (q := (⟨"CoastLights", "tagNumber", "(I)V"⟩, 20)) 31 (by decide +kernel) (by decide +kernel), _, _, rfl⟩
theorem mv_X11_349 : Mv RX11 349 mX2_begin 1 2 := ⟨mw_X2_begin, tb_5 116 (by decide +kernel) (by decide +kernel), tb_5 117 (by decide +kernel) (by decide +kernel), tb_5 118 (by decide +kernel) (by decide +kernel), _, _, rfl⟩
theorem mv_X11_351 : Mv RX11 351 mX2_liveSeconds 2 2 := ⟨mw_X2_liveSeconds, tb_5 120 (by decide +kernel) (by decide +kernel), tb_5 121 (by decide +kernel) (by decide +kernel), tb_5 122 (by decide +kernel) (by decide +kernel), _, _, rfl⟩
theorem mv_X11_355 : Mv RX11 355 mX0_read 2 0 := ⟨mw_X0_read, tb_5 152 (by decide +kernel) (by decide +kernel), tb_5 153 (by decide +kernel) (by decide +kernel), tb_5 154 (by decide +kernel) (by decide +kernel), _, _, rfl⟩
theorem mv_X11_358 : Mv RX11 358 mX0_live 1 0 := ⟨mw_X0_live, tb_5 196 (by decide +kernel) (by decide +kernel), tb_5 197 (by decide +kernel) (by decide +kernel), tb_5 198 (by decide +kernel) (by decide +kernel), _, _, rfl⟩
theorem mv_X11_367 : Mv RX11 367 mX5_keep 0 5 := ⟨mw_X5_keep, tb_4 54 (by decide +kernel) (by decide +kernel), tb_4 55 (by decide +kernel) (by decide +kernel), tb_4 56 (by decide +kernel) (by decide +kernel), _, _, rfl⟩
theorem mv_X11_370 : Mv RX11 370 mX7_read 2 7 := ⟨mw_X7_read, tb_5 225 (by decide +kernel) (by decide +kernel), tb_5 226 (by decide +kernel) (by decide +kernel), tb_5 227 (by decide +kernel) (by decide +kernel), _, _, rfl⟩
theorem mv_X11_371 : Mv RX11 371 mX7_copyFrom 1 7 := ⟨mw_X7_copyFrom, tb_6 55 (by decide +kernel) (by decide +kernel), tb_6 56 (by decide +kernel) (by decide +kernel), tb_6 57 (by decide +kernel) (by decide +kernel), _, _, rfl⟩
theorem mv_X11_377 : Mv RX11 377 mX7_saidOf 1 7 := ⟨mw_X7_saidOf, tb_6 64 (by decide +kernel) (by decide +kernel), tb_6 65 (by decide +kernel) (by decide +kernel), tb_6 66 (by decide +kernel) (by decide +kernel), _, _, rfl⟩
theorem mv_X11_399 : Mv RX11 399 mX9_leastFit 1 9 := ⟨mw_X9_leastFit, tb_4 201 (by decide +kernel) (by decide +kernel), tb_4 202 (by decide +kernel) (by decide +kernel), tb_4 203 (by decide +kernel) (by decide +kernel), _, _, rfl⟩
theorem mv_X11_403 : Mv RX11 403 mX11_mostLeft 1 10 := ⟨mw_X11_mostLeft, tb_4 214 (by decide +kernel) (by decide +kernel), tb_4 216 (by decide +kernel) (by decide +kernel), tb_s (q := (⟨"CoastLights", "mostLeft", "(I)I"⟩, 20)) 25 (by decide +kernel) (by decide +kernel), _, _, rfl⟩
theorem mv_X11_406 : Mv RX11 406 mX4_shownAt 1 4 := ⟨mw_X4_shownAt, tb_4 218 (by decide +kernel) (by decide +kernel), tb_4 177 (by decide +kernel) (by decide +kernel), tb_4 178 (by decide +kernel) (by decide +kernel), _, _, rfl⟩
theorem mv_X11_423 : Mv RX11 423 mX11_tagByte 1 10 := ⟨mw_X11_tagByte, tb_5 44 (by decide +kernel) (by decide +kernel), tb_5 46 (by decide +kernel) (by decide +kernel), tb_s (q := (⟨"CoastLights", "tagByte", "(I)V"⟩, 20)) 29 (by decide +kernel) (by decide +kernel), _, _, rfl⟩
theorem mv_X12_10 : Mv RX12 10 mX12_four 1 11 := ⟨mw_X12_four, tb_6 187 (by decide +kernel) (by decide +kernel), tb_6 189 (by decide +kernel) (by decide +kernel), tb_s (q := (⟨"CoastLightsModel", "four", "(I)V"⟩, 53)) 48 (by decide +kernel) (by decide +kernel), _, _, rfl⟩
theorem mv_X12_141 : Mv RX12 141 mX12_clears 0 11 := ⟨mw_X12_clears, tb_6 228 (by decide +kernel) (by decide +kernel), tb_6 230 (by decide +kernel) (by decide +kernel), tb_s (q := (⟨"CoastLightsModel", "clears", "()V"⟩, 53)) 49 (by decide +kernel) (by decide +kernel), _, _, rfl⟩
theorem mv_X12_144 : Mv RX12 144 mX12_peek 0 11 := ⟨mw_X12_peek, tb_7 165 (by decide +kernel) (by decide +kernel), tb_7 167 (by decide +kernel) (by decide +kernel), tb_s (q := (⟨"CoastLightsModel", "peek", "()I"⟩, 53)) 52 (by decide +kernel) (by decide +kernel), _, _, rfl⟩
theorem mv_X12_177 : Mv RX12 177 mX12_isSign 1 11 := ⟨mw_X12_isSign, tb_8 5 (by decide +kernel) (by decide +kernel), tb_8 7 (by decide +kernel) (by decide +kernel), tb_s (q := (⟨"CoastLightsModel", "isSign", "(I)Z"⟩, 53)) 69 (by decide +kernel) (by decide +kernel), _, _, rfl⟩
theorem mv_X12_180 : Mv RX12 180 mX12_bad 1 11 := ⟨mw_X12_bad, tb_7 187 (by decide +kernel) (by decide +kernel), tb_7 189 (by decide +kernel) (by decide +kernel), tb_s (q := (⟨"CoastLightsModel", "bad", "(I)Z"⟩, 53)) 56 (by decide +kernel) (by decide +kernel), _, _, rfl⟩
theorem mv_X12_183 : Mv RX12 183 mX12_next 0 11 := ⟨mw_X12_next, tb_7 161 (by decide +kernel) (by decide +kernel), tb_7 163 (by decide +kernel) (by decide +kernel), tb_s (q := (⟨"CoastLightsModel", "next", "()V"⟩, 53)) 51 (by decide +kernel) (by decide +kernel), _, _, rfl⟩
theorem mv_X12_193 : Mv RX12 193 mX12_takes 2 11 := ⟨mw_X12_takes, tb_7 207 (by decide +kernel) (by decide +kernel), tb_7 209 (by decide +kernel) (by decide +kernel), tb_s (q := (⟨"CoastLightsModel", "takes", "(II)Z"⟩, 53)) 61 (by decide +kernel) (by decide +kernel), _, _, rfl⟩
theorem mv_X12_197 : Mv RX12 197 mX12_isName 0 11 := ⟨mw_X12_isName, tb_7 195 (by decide +kernel) (by decide +kernel), tb_7 197 (by decide +kernel) (by decide +kernel), tb_s (q := (⟨"CoastLightsModel", "isName", "()Z"⟩, 53)) 58 (by decide +kernel) (by decide +kernel), _, _, rfl⟩
theorem mv_X12_201 : Mv RX12 201 mX12_seek 2 11 := ⟨mw_X12_seek, tb_7 199 (by decide +kernel) (by decide +kernel), tb_7 201 (by decide +kernel) (by decide +kernel), tb_s (q := (⟨"CoastLightsModel", "seek", "(II)I"⟩, 53)) 59 (by decide +kernel) (by decide +kernel), _, _, rfl⟩
theorem mv_X12_205 : Mv RX12 205 mX12_looksAt 2 11 := ⟨mw_X12_looksAt, tb_7 218 (by decide +kernel) (by decide +kernel), tb_7 220 (by decide +kernel) (by decide +kernel), tb_s (q := (⟨"CoastLightsModel", "looksAt", "(II)Z"⟩, 53)) 63 (by decide +kernel) (by decide +kernel), _, _, rfl⟩
theorem mv_X12_208 : Mv RX12 208 mX12_isWord 1 11 := ⟨mw_X12_isWord, tb_7 179 (by decide +kernel) (by decide +kernel), tb_7 181 (by decide +kernel) (by decide +kernel), tb_s (q := (⟨"CoastLightsModel", "isWord", "(J)Z"⟩, 53)) 54 (by decide +kernel) (by decide +kernel), _, _, rfl⟩
theorem mv_X12_212 : Mv RX12 212 mX12_readLight 0 11 := ⟨mw_X12_readLight, tb_7 183 (by decide +kernel) (by decide +kernel), tb_7 185 (by decide +kernel) (by decide +kernel), tb_s (q := (⟨"CoastLightsModel", "readLight", "()Z"⟩, 53)) 55 (by decide +kernel) (by decide +kernel), _, _, rfl⟩
theorem mv_X12_215 : Mv RX12 215 mX12_readFlash 0 11 := ⟨mw_X12_readFlash, tb_7 214 (by decide +kernel) (by decide +kernel), tb_7 216 (by decide +kernel) (by decide +kernel), tb_s (q := (⟨"CoastLightsModel", "readFlash", "()Z"⟩, 53)) 62 (by decide +kernel) (by decide +kernel), _, _, rfl⟩
theorem mv_X12_218 : Mv RX12 218 mX12_readFrom 0 11 := ⟨mw_X12_readFrom, tb_7 222 (by decide +kernel) (by decide +kernel), tb_7 224 (by decide +kernel) (by decide +kernel), tb_s (q := (⟨"CoastLightsModel", "readFrom", "()Z"⟩, 53)) 64 (by decide +kernel) (by decide +kernel), _, _, rfl⟩
theorem mv_X12_221 : Mv RX12 221 mX12_readDark 0 11 := ⟨mw_X12_readDark, tb_7 229 (by decide +kernel) (by decide +kernel), tb_7 231 (by decide +kernel) (by decide +kernel), tb_s (q := (⟨"CoastLightsModel", "readDark", "()Z"⟩, 53)) 65 (by decide +kernel) (by decide +kernel), _, _, rfl⟩
theorem mv_X12_224 : Mv RX12 224 mX12_readShip 0 11 := ⟨mw_X12_readShip, tb_7 237 (by decide +kernel) (by decide +kernel), tb_7 239 (by decide +kernel) (by decide +kernel), tb_s (q := (⟨"CoastLightsModel", "readShip", "()Z"⟩, 53)) 67 (by decide +kernel) (by decide +kernel), _, _, rfl⟩
theorem mv_X12_231 : Mv RX12 231 mX12_puts 3 11 := ⟨mw_X12_puts, tb_7 203 (by decide +kernel) (by decide +kernel), tb_7 205 (by decide +kernel) (by decide +kernel), tb_s (q := (⟨"CoastLightsModel", "puts", "(III)Z"⟩, 53)) 60 (by decide +kernel) (by decide +kernel), _, _, rfl⟩
theorem mv_X12_234 : Mv RX12 234 mX12_fresh 1 11 := ⟨mw_X12_fresh, tb_7 191 (by decide +kernel) (by decide +kernel), tb_7 193 (by decide +kernel) (by decide +kernel), tb_s (q := (⟨"CoastLightsModel", "fresh", "(I)Z"⟩, 53)) 57 (by decide +kernel) (by decide +kernel), _, _, rfl⟩
theorem mv_X12_243 : Mv RX12 243 mX12_takesName 2 11 := ⟨mw_X12_takesName, tb_7 233 (by decide +kernel) (by decide +kernel), tb_7 235 (by decide +kernel) (by decide +kernel), tb_s (q := (⟨"CoastLightsModel", "takesName", "(II)Z"⟩, 53)) 66 (by decide +kernel) (by decide +kernel), _, _, rfl⟩
theorem mv_X12_246 : Mv RX12 246 mX12_taken 1 11 := ⟨mw_X12_taken, tb_7 157 (by decide +kernel) (by decide +kernel), tb_7 159 (by decide +kernel) (by decide +kernel), tb_s (q := (⟨"CoastLightsModel", "taken", "(I)V"⟩, 53)) 50 (by decide +kernel) (by decide +kernel), _, _, rfl⟩
theorem mv_X12_252 : Mv RX12 252 mX12_readLine 0 11 := ⟨mw_X12_readLine, tb_7 175 (by decide +kernel) (by decide +kernel), tb_7 177 (by decide +kernel) (by decide +kernel), tb_s (q := (⟨"CoastLightsModel", "readLine", "()Z"⟩, 53)) 53 (by decide +kernel) (by decide +kernel), _, _, rfl⟩
theorem mv_X12_255 : Mv RX12 255 mX12_sign 1 11 := ⟨mw_X12_sign, tb_8 1 (by decide +kernel) (by decide +kernel), tb_8 3 (by decide +kernel) (by decide +kernel), tb_s (q := (⟨"CoastLightsModel", "sign", "(I)Z"⟩, 53)) 68 (by decide +kernel) (by decide +kernel), _, _, rfl⟩
theorem mv_X12_261 : Mv RX12 261 mX12_periodOf 1 11 := ⟨mw_X12_periodOf, tb_8 25 (by decide +kernel) (by decide +kernel), tb_8 27 (by decide +kernel) (by decide +kernel), tb_s (q := (⟨"CoastLightsModel", "periodOf", "(I)I"⟩, 53)) 72 (by decide +kernel) (by decide +kernel), _, _, rfl⟩
theorem mv_X12_265 : Mv RX12 265 mX12_isOn 2 11 := ⟨mw_X12_isOn, tb_8 37 (by decide +kernel) (by decide +kernel), tb_8 39 (by decide +kernel) (by decide +kernel), tb_s (q := (⟨"CoastLightsModel", "isOn", "(II)Z"⟩, 53)) 75 (by decide +kernel) (by decide +kernel), _, _, rfl⟩
theorem mv_X12_268 : Mv RX12 268 mX12_placeIn 2 11 := ⟨mw_X12_placeIn, tb_8 29 (by decide +kernel) (by decide +kernel), tb_8 31 (by decide +kernel) (by decide +kernel), tb_s (q := (⟨"CoastLightsModel", "placeIn", "(II)I"⟩, 53)) 73 (by decide +kernel) (by decide +kernel), _, _, rfl⟩
theorem mv_X12_271 : Mv RX12 271 mX12_isAlike 2 11 := ⟨mw_X12_isAlike, tb_8 45 (by decide +kernel) (by decide +kernel), tb_8 47 (by decide +kernel) (by decide +kernel), tb_s (q := (⟨"CoastLightsModel", "isAlike", "(II)Z"⟩, 53)) 77 (by decide +kernel) (by decide +kernel), _, _, rfl⟩
theorem mv_X12_280 : Mv RX12 280 mX12_isVisibleBy 4 11 := ⟨mw_X12_isVisibleBy, tb_8 65 (by decide +kernel) (by decide +kernel), tb_8 67 (by decide +kernel) (by decide +kernel), tb_s (q := (⟨"CoastLightsModel", "isVisibleBy", "(IIII)Z"⟩, 53)) 80 (by decide +kernel) (by decide +kernel), _, _, rfl⟩
theorem mv_X12_284 : Mv RX12 284 mX12_isShining 1 11 := ⟨mw_X12_isShining, tb_8 33 (by decide +kernel) (by decide +kernel), tb_8 35 (by decide +kernel) (by decide +kernel), tb_s (q := (⟨"CoastLightsModel", "isShining", "(I)Z"⟩, 53)) 74 (by decide +kernel) (by decide +kernel), _, _, rfl⟩
theorem mv_X12_287 : Mv RX12 287 mX12_visibleFrom 3 11 := ⟨mw_X12_visibleFrom, tb_8 61 (by decide +kernel) (by decide +kernel), tb_8 63 (by decide +kernel) (by decide +kernel), tb_s (q := (⟨"CoastLightsModel", "visibleFrom", "(III)I"⟩, 53)) 79 (by decide +kernel) (by decide +kernel), _, _, rfl⟩
theorem mv_X12_291 : Mv RX12 291 mX12_shining 0 11 := ⟨mw_X12_shining, tb_8 79 (by decide +kernel) (by decide +kernel), tb_8 81 (by decide +kernel) (by decide +kernel), tb_s (q := (⟨"CoastLightsModel", "shining", "()I"⟩, 53)) 82 (by decide +kernel) (by decide +kernel), _, _, rfl⟩
theorem mv_X12_294 : Mv RX12 294 mX12_isLight 1 11 := ⟨mw_X12_isLight, tb_8 17 (by decide +kernel) (by decide +kernel), tb_8 19 (by decide +kernel) (by decide +kernel), tb_s (q := (⟨"CoastLightsModel", "isLight", "(I)Z"⟩, 53)) 70 (by decide +kernel) (by decide +kernel), _, _, rfl⟩
theorem mv_X12_297 : Mv RX12 297 mX12_throwsIf 1 11 := ⟨mw_X12_throwsIf, tb_8 21 (by decide +kernel) (by decide +kernel), tb_8 23 (by decide +kernel) (by decide +kernel), tb_s (q := (⟨"CoastLightsModel", "throwsIf", "(Z)Z"⟩, 53)) 71 (by decide +kernel) (by decide +kernel), _, _, rfl⟩
theorem mv_X12_301 : Mv RX12 301 mX12_alikes 1 11 := ⟨mw_X12_alikes, tb_8 41 (by decide +kernel) (by decide +kernel), tb_8 43 (by decide +kernel) (by decide +kernel), tb_s (q := (⟨"CoastLightsModel", "alikes", "(I)I"⟩, 53)) 76 (by decide +kernel) (by decide +kernel), _, _, rfl⟩
theorem mv_X12_304 : Mv RX12 304 mX12_isShip 1 11 := ⟨mw_X12_isShip, tb_8 57 (by decide +kernel) (by decide +kernel), tb_8 59 (by decide +kernel) (by decide +kernel), tb_s (q := (⟨"CoastLightsModel", "isShip", "(I)Z"⟩, 53)) 78 (by decide +kernel) (by decide +kernel), _, _, rfl⟩
theorem mv_X12_307 : Mv RX12 307 mX12_seenBy 1 11 := ⟨mw_X12_seenBy, tb_8 75 (by decide +kernel) (by decide +kernel), tb_8 77 (by decide +kernel) (by decide +kernel), tb_s (q := (⟨"CoastLightsModel", "seenBy", "(I)I"⟩, 53)) 81 (by decide +kernel) (by decide +kernel), _, _, rfl⟩
theorem mv_X12_310 : Mv RX12 310 mX12_oilInAll 0 11 := ⟨mw_X12_oilInAll, tb_8 91 (by decide +kernel) (by decide +kernel), tb_8 93 (by decide +kernel) (by decide +kernel), tb_s (q := (⟨"CoastLightsModel", "oilInAll", "()I"⟩, 53)) 83 (by decide +kernel) (by decide +kernel), _, _, rfl⟩
theorem mv_X12_319 : Mv RX12 319 mX12_sails 1 11 := ⟨mw_X12_sails, tb_8 147 (by decide +kernel) (by decide +kernel), tb_8 149 (by decide +kernel) (by decide +kernel), tb_s (q := (⟨"CoastLightsModel", "sails", "(I)V"⟩, 53)) 90 (by decide +kernel) (by decide +kernel), _, _, rfl⟩
theorem mv_X12_322 : Mv RX12 322 mX12_second 0 11 := ⟨mw_X12_second, tb_8 143 (by decide +kernel) (by decide +kernel), tb_8 145 (by decide +kernel) (by decide +kernel), tb_s (q := (⟨"CoastLightsModel", "second", "()V"⟩, 53)) 89 (by decide +kernel) (by decide +kernel), _, _, rfl⟩
theorem mv_X12_325 : Mv RX12 325 mX12_stores 0 11 := ⟨mw_X12_stores, tb_8 99 (by decide +kernel) (by decide +kernel), tb_8 101 (by decide +kernel) (by decide +kernel), tb_s (q := (⟨"CoastLightsModel", "stores", "()V"⟩, 53)) 84 (by decide +kernel) (by decide +kernel), _, _, rfl⟩
theorem mv_X12_328 : Mv RX12 328 mX12_whyKindle 1 11 := ⟨mw_X12_whyKindle, tb_8 107 (by decide +kernel) (by decide +kernel), tb_8 109 (by decide +kernel) (by decide +kernel), tb_s (q := (⟨"CoastLightsModel", "whyKindle", "(I)I"⟩, 53)) 85 (by decide +kernel) (by decide +kernel), _, _, rfl⟩
theorem mv_X12_331 : Mv RX12 331 mX12_whyFill 2 11 := ⟨mw_X12_whyFill, tb_8 115 (by decide +kernel) (by decide +kernel), tb_8 117 (by decide +kernel) (by decide +kernel), tb_s (q := (⟨"CoastLightsModel", "whyFill", "(II)I"⟩, 53)) 86 (by decide +kernel) (by decide +kernel), _, _, rfl⟩
theorem mv_X12_334 : Mv RX12 334 mX12_turns 2 11 := ⟨mw_X12_turns, tb_8 123 (by decide +kernel) (by decide +kernel), tb_8 125 (by decide +kernel) (by decide +kernel), tb_s (q := (⟨"CoastLightsModel", "turns", "(II)V"⟩, 53)) 87 (by decide +kernel) (by decide +kernel), _, _, rfl⟩
theorem mv_X12_338 : Mv RX12 338 mX12_goesOn 1 11 := ⟨mw_X12_goesOn, tb_8 139 (by decide +kernel) (by decide +kernel), tb_8 141 (by decide +kernel) (by decide +kernel), tb_s (q := (⟨"CoastLightsModel", "goesOn", "(I)I"⟩, 53)) 88 (by decide +kernel) (by decide +kernel), _, _, rfl⟩
theorem mv_X12_341 : Mv RX12 341 mX12_areSeen 2 11 := ⟨mw_X12_areSeen, tb_8 169 (by decide +kernel) (by decide +kernel), tb_8 171 (by decide +kernel) (by decide +kernel), tb_s (q := (⟨"CoastLightsModel", "areSeen", "(II)Z"⟩, 53)) 92 (by decide +kernel) (by decide +kernel), _, _, rfl⟩
theorem mv_X12_344 : Mv RX12 344 mX12_laysPairs 0 11 := ⟨mw_X12_laysPairs, tb_8 165 (by decide +kernel) (by decide +kernel), tb_8 167 (by decide +kernel) (by decide +kernel), tb_s (q := (⟨"CoastLightsModel", "laysPairs", "()I"⟩, 53)) 91 (by decide +kernel) (by decide +kernel), _, _, rfl⟩
theorem mv_X12_356 : Mv RX12 356 mX12_showsAt 2 11 := ⟨mw_X12_showsAt, tb_8 188 (by decide +kernel) (by decide +kernel), tb_8 190 (by decide +kernel) (by decide +kernel), tb_s (q := (⟨"CoastLightsModel", "showsAt", "(II)I"⟩, 53)) 93 (by decide +kernel) (by decide +kernel), _, _, rfl⟩
theorem mv_X12_359 : Mv RX12 359 mX12_octet 1 11 := ⟨mw_X12_octet, tb_8 200 (by decide +kernel) (by decide +kernel), tb_8 202 (by decide +kernel) (by decide +kernel), tb_s (q := (⟨"CoastLightsModel", "octet", "(I)I"⟩, 53)) 94 (by decide +kernel) (by decide +kernel), _, _, rfl⟩
theorem mv_X12_365 : Mv RX12 365 mX12_fitOf 1 11 := ⟨mw_X12_fitOf, tb_8 204 (by decide +kernel) (by decide +kernel), tb_8 206 (by decide +kernel) (by decide +kernel), tb_s (q := (⟨"CoastLightsModel", "fitOf", "(I)I"⟩, 53)) 95 (by decide +kernel) (by decide +kernel), _, _, rfl⟩
theorem mv_X12_377 : Mv RX12 377 mX12_leftBy 2 11 := ⟨mw_X12_leftBy, tb_8 208 (by decide +kernel) (by decide +kernel), tb_8 210 (by decide +kernel) (by decide +kernel), tb_s (q := (⟨"CoastLightsModel", "leftBy", "(II)I"⟩, 53)) 96 (by decide +kernel) (by decide +kernel), _, _, rfl⟩
theorem mv_X12_386 : Mv RX12 386 mX12_octantFrom 3 11 := ⟨mw_X12_octantFrom, tb_8 235 (by decide +kernel) (by decide +kernel), tb_8 237 (by decide +kernel) (by decide +kernel), tb_s (q := (⟨"CoastLightsModel", "octantFrom", "(III)I"⟩, 53)) 97 (by decide +kernel) (by decide +kernel), _, _, rfl⟩
theorem mv_X12_395 : Mv RX12 395 mX12_tries 0 11 := ⟨mw_X12_tries, tb_9 15 (by decide +kernel) (by decide +kernel), tb_9 17 (by decide +kernel) (by decide +kernel), tb_s (q := (⟨"CoastLightsModel", "tries", "()V"⟩, 53)) 98 (by decide +kernel) (by decide +kernel), _, _, rfl⟩
theorem mv_X12_398 : Mv RX12 398 mX12_back 0 11 := ⟨mw_X12_back, tb_9 19 (by decide +kernel) (by decide +kernel), tb_9 21 (by decide +kernel) (by decide +kernel), tb_s (q := (⟨"CoastLightsModel", "back", "()V"⟩, 53)) 99 (by decide +kernel) (by decide +kernel), _, _, rfl⟩
theorem mv_X12_406 : Mv RX12 406 mX12_lays 1 11 := ⟨mw_X12_lays, tb_9 36 (by decide +kernel) (by decide +kernel), tb_9 38 (by decide +kernel) (by decide +kernel), tb_s (q := (⟨"CoastLightsModel", "lays", "(I)V"⟩, 53)) 101 (by decide +kernel) (by decide +kernel), _, _, rfl⟩
theorem mv_X12_409 : Mv RX12 409 mX12_spells 1 11 := ⟨mw_X12_spells, tb_9 31 (by decide +kernel) (by decide +kernel), tb_9 33 (by decide +kernel) (by decide +kernel), tb_s (q := (⟨"CoastLightsModel", "spells", "(J)V"⟩, 53)) 100 (by decide +kernel) (by decide +kernel), _, _, rfl⟩
theorem mv_X12_415 : Mv RX12 415 mX12_says 1 11 := ⟨mw_X12_says, tb_9 41 (by decide +kernel) (by decide +kernel), tb_9 43 (by decide +kernel) (by decide +kernel), tb_s (q := (⟨"CoastLightsModel", "says", "(J)V"⟩, 53)) 102 (by decide +kernel) (by decide +kernel), _, _, rfl⟩
theorem mv_X12_418 : Mv RX12 418 mX12_twoDigits 1 11 := ⟨mw_X12_twoDigits, tb_9 45 (by decide +kernel) (by decide +kernel), tb_9 47 (by decide +kernel) (by decide +kernel), tb_s (q := (⟨"CoastLightsModel", "twoDigits", "(I)V"⟩, 53)) 103 (by decide +kernel) (by decide +kernel), _, _, rfl⟩
theorem mv_X12_427 : Mv RX12 427 mX12_draw 1 11 := ⟨mw_X12_draw, tb_9 66 (by decide +kernel) (by decide +kernel), tb_9 68 (by decide +kernel) (by decide +kernel), tb_s (q := (⟨"CoastLightsModel", "draw", "(I)I"⟩, 53)) 106 (by decide +kernel) (by decide +kernel), _, _, rfl⟩
theorem mv_X12_430 : Mv RX12 430 mX12_drawSecond 0 11 := ⟨mw_X12_drawSecond, tb_9 62 (by decide +kernel) (by decide +kernel), tb_9 64 (by decide +kernel) (by decide +kernel), tb_s (q := (⟨"CoastLightsModel", "drawSecond", "()V"⟩, 53)) 105 (by decide +kernel) (by decide +kernel), _, _, rfl⟩
theorem mv_X12_433 : Mv RX12 433 mX12_draws 2 11 := ⟨mw_X12_draws, tb_9 58 (by decide +kernel) (by decide +kernel), tb_9 60 (by decide +kernel) (by decide +kernel), tb_s (q := (⟨"CoastLightsModel", "draws", "(II)I"⟩, 53)) 104 (by decide +kernel) (by decide +kernel), _, _, rfl⟩
theorem mv_X12_439 : Mv RX12 439 mX12_bookLine 0 11 := ⟨mw_X12_bookLine, tb_9 79 (by decide +kernel) (by decide +kernel), tb_9 81 (by decide +kernel) (by decide +kernel), tb_s (q := (⟨"CoastLightsModel", "bookLine", "()Z"⟩, 53)) 107 (by decide +kernel) (by decide +kernel), _, _, rfl⟩
theorem mv_X12_442 : Mv RX12 442 mX12_does 3 11 := ⟨mw_X12_does, tb_9 83 (by decide +kernel) (by decide +kernel), tb_9 85 (by decide +kernel) (by decide +kernel), tb_s (q := (⟨"CoastLightsModel", "does", "(III)I"⟩, 53)) 108 (by decide +kernel) (by decide +kernel), _, _, rfl⟩
theorem mv_X12_454 : Mv RX12 454 mX12_code 3 11 := ⟨mw_X12_code, tb_9 99 (by decide +kernel) (by decide +kernel), tb_9 101 (by decide +kernel) (by decide +kernel), tb_s (q := (⟨"CoastLightsModel", "code", "(III)V"⟩, 53)) 110 (by decide +kernel) (by decide +kernel), _, _, rfl⟩
theorem mv_X12_461 : Mv RX12 461 mX12_leafOf 0 11 := ⟨mw_X12_leafOf, tb_9 115 (by decide +kernel) (by decide +kernel), tb_9 117 (by decide +kernel) (by decide +kernel), tb_s (q := (⟨"CoastLightsModel", "leafOf", "()I"⟩, 53)) 114 (by decide +kernel) (by decide +kernel), _, _, rfl⟩
theorem mv_X12_470 : Mv RX12 470 mX12_nots 0 11 := ⟨mw_X12_nots, tb_9 95 (by decide +kernel) (by decide +kernel), tb_9 97 (by decide +kernel) (by decide +kernel), tb_s (q := (⟨"CoastLightsModel", "nots", "()V"⟩, 53)) 109 (by decide +kernel) (by decide +kernel), _, _, rfl⟩
theorem mv_X12_473 : Mv RX12 473 mX12_joins 1 11 := ⟨mw_X12_joins, tb_9 103 (by decide +kernel) (by decide +kernel), tb_9 105 (by decide +kernel) (by decide +kernel), tb_s (q := (⟨"CoastLightsModel", "joins", "(I)V"⟩, 53)) 111 (by decide +kernel) (by decide +kernel), _, _, rfl⟩
theorem mv_X12_476 : Mv RX12 476 mX12_behind 0 11 := ⟨mw_X12_behind, tb_9 107 (by decide +kernel) (by decide +kernel), tb_9 109 (by decide +kernel) (by decide +kernel), tb_s (q := (⟨"CoastLightsModel", "behind", "()Z"⟩, 53)) 112 (by decide +kernel) (by decide +kernel), _, _, rfl⟩
theorem mv_X12_479 : Mv RX12 479 mX12_operand 0 11 := ⟨mw_X12_operand, tb_9 111 (by decide +kernel) (by decide +kernel), tb_9 113 (by decide +kernel) (by decide +kernel), tb_s (q := (⟨"CoastLightsModel", "operand", "()Z"⟩, 53)) 113 (by decide +kernel) (by decide +kernel), _, _, rfl⟩
theorem mv_X12_482 : Mv RX12 482 mX12_isLeaf 4 11 := ⟨mw_X12_isLeaf, tb_9 127 (by decide +kernel) (by decide +kernel), tb_9 129 (by decide +kernel) (by decide +kernel), tb_s (q := (⟨"CoastLightsModel", "isLeaf", "(IIII)Z"⟩, 53)) 116 (by decide +kernel) (by decide +kernel), _, _, rfl⟩
theorem mv_X12_485 : Mv RX12 485 mX12_isSaid 1 11 := ⟨mw_X12_isSaid, tb_9 123 (by decide +kernel) (by decide +kernel), tb_9 125 (by decide +kernel) (by decide +kernel), tb_s (q := (⟨"CoastLightsModel", "isSaid", "(I)Z"⟩, 53)) 115 (by decide +kernel) (by decide +kernel), _, _, rfl⟩
