-- ===== PART A: goes FIRST, ahead of the names: the tables' words, and 'selects' of the private methods out of them =====
/-- a private method of a class that the tables say can be made, by its rows of tables_1 -/
def lw_okq (q : MethodName × Nat) : Prop := (q.1.cls ≠ "java/lang/invoke/MethodHandle" ∧ q.1.cls ≠ "java/lang/invoke/VarHandle") ∧ Cond.instantiable q.1.cls q.2 ∈ tables_1 ∧ Cond.privateMethod q.1 ∈ tables_1 ∧ Cond.instanceMethod q.1 ∈ tables_1
theorem lw_p0 : lw_okq (⟨"CoastLights$Tokens", "readRun", "()V"⟩, 12) := ⟨⟨by decide +kernel, by decide +kernel⟩, List.mem_of_getElem? (i := 35) (by decide +kernel), List.mem_of_getElem? (i := 501) (by decide +kernel), List.mem_of_getElem? (i := 502) (by decide +kernel)⟩
theorem lw_p1 : lw_okq (⟨"CoastLights$Tokens", "readSign", "()V"⟩, 12) := ⟨⟨by decide +kernel, by decide +kernel⟩, List.mem_of_getElem? (i := 35) (by decide +kernel), List.mem_of_getElem? (i := 505) (by decide +kernel), List.mem_of_getElem? (i := 506) (by decide +kernel)⟩
theorem lw_p2 : lw_okq (⟨"CoastLights$Chart", "readLine", "(LCoastLights$Tokens;)Z"⟩, 7) := ⟨⟨by decide +kernel, by decide +kernel⟩, List.mem_of_getElem? (i := 91) (by decide +kernel), List.mem_of_getElem? (i := 509) (by decide +kernel), List.mem_of_getElem? (i := 510) (by decide +kernel)⟩
theorem lw_p3 : lw_okq (⟨"CoastLights$Chart", "readLight", "(LCoastLights$Tokens;)Z"⟩, 7) := ⟨⟨by decide +kernel, by decide +kernel⟩, List.mem_of_getElem? (i := 91) (by decide +kernel), List.mem_of_getElem? (i := 519) (by decide +kernel), List.mem_of_getElem? (i := 520) (by decide +kernel)⟩
theorem lw_p4 : lw_okq (⟨"CoastLights$Chart", "atNewName", "(LCoastLights$Tokens;)Z"⟩, 7) := ⟨⟨by decide +kernel, by decide +kernel⟩, List.mem_of_getElem? (i := 91) (by decide +kernel), List.mem_of_getElem? (i := 528) (by decide +kernel), List.mem_of_getElem? (i := 529) (by decide +kernel)⟩
theorem lw_p5 : lw_okq (⟨"CoastLights$Chart", "lightNamed", "(J)I"⟩, 7) := ⟨⟨by decide +kernel, by decide +kernel⟩, List.mem_of_getElem? (i := 91) (by decide +kernel), List.mem_of_getElem? (i := 541) (by decide +kernel), List.mem_of_getElem? (i := 542) (by decide +kernel)⟩
theorem lw_p6 : lw_okq (⟨"CoastLights$Chart", "shipNamed", "(J)I"⟩, 7) := ⟨⟨by decide +kernel, by decide +kernel⟩, List.mem_of_getElem? (i := 91) (by decide +kernel), List.mem_of_getElem? (i := 545) (by decide +kernel), List.mem_of_getElem? (i := 546) (by decide +kernel)⟩
theorem lw_p7 : lw_okq (⟨"CoastLights$Chart", "readFlash", "(LCoastLights$Tokens;)Z"⟩, 7) := ⟨⟨by decide +kernel, by decide +kernel⟩, List.mem_of_getElem? (i := 91) (by decide +kernel), List.mem_of_getElem? (i := 573) (by decide +kernel), List.mem_of_getElem? (i := 574) (by decide +kernel)⟩
theorem lw_p8 : lw_okq (⟨"CoastLights$Light", "addSeconds", "(IZ)V"⟩, 14) := ⟨⟨by decide +kernel, by decide +kernel⟩, List.mem_of_getElem? (i := 100) (by decide +kernel), List.mem_of_getElem? (i := 585) (by decide +kernel), List.mem_of_getElem? (i := 586) (by decide +kernel)⟩
theorem lw_p9 : lw_okq (⟨"CoastLights$Chart", "readFrom", "(LCoastLights$Tokens;)Z"⟩, 7) := ⟨⟨by decide +kernel, by decide +kernel⟩, List.mem_of_getElem? (i := 91) (by decide +kernel), List.mem_of_getElem? (i := 591) (by decide +kernel), List.mem_of_getElem? (i := 592) (by decide +kernel)⟩
theorem lw_p10 : lw_okq (⟨"CoastLights$Chart", "readDark", "(LCoastLights$Tokens;)Z"⟩, 7) := ⟨⟨by decide +kernel, by decide +kernel⟩, List.mem_of_getElem? (i := 91) (by decide +kernel), List.mem_of_getElem? (i := 597) (by decide +kernel), List.mem_of_getElem? (i := 598) (by decide +kernel)⟩
theorem lw_p11 : lw_okq (⟨"CoastLights$Chart", "readShip", "(LCoastLights$Tokens;)Z"⟩, 7) := ⟨⟨by decide +kernel, by decide +kernel⟩, List.mem_of_getElem? (i := 91) (by decide +kernel), List.mem_of_getElem? (i := 604) (by decide +kernel), List.mem_of_getElem? (i := 605) (by decide +kernel)⟩
theorem lw_p12 : lw_okq (⟨"CoastLights$Chart", "readHaze", "(LCoastLights$Tokens;)Z"⟩, 7) := ⟨⟨by decide +kernel, by decide +kernel⟩, List.mem_of_getElem? (i := 91) (by decide +kernel), List.mem_of_getElem? (i := 610) (by decide +kernel), List.mem_of_getElem? (i := 611) (by decide +kernel)⟩
theorem lw_p13 : lw_okq (⟨"CoastLights", "closeText", "()V"⟩, 20) := ⟨⟨by decide +kernel, by decide +kernel⟩, List.mem_of_getElem? (i := 27) (by decide +kernel), List.mem_of_getElem? (i := 626) (by decide +kernel), List.mem_of_getElem? (i := 627) (by decide +kernel)⟩
theorem lw_p14 : lw_okq (⟨"CoastLights$Chart", "comparePair", "(II)V"⟩, 7) := ⟨⟨by decide +kernel, by decide +kernel⟩, List.mem_of_getElem? (i := 91) (by decide +kernel), List.mem_of_getElem? (i := 649) (by decide +kernel), List.mem_of_getElem? (i := 650) (by decide +kernel)⟩
theorem lw_p15 : lw_okq (⟨"CoastLights$Light", "hasRowFrom", "(LCoastLights$Light;I)Z"⟩, 14) := ⟨⟨by decide +kernel, by decide +kernel⟩, List.mem_of_getElem? (i := 100) (by decide +kernel), List.mem_of_getElem? (i := 657) (by decide +kernel), List.mem_of_getElem? (i := 658) (by decide +kernel)⟩
def lw_privs_1 : List (MethodName × Nat) := [(⟨"CoastLights$Tokens", "readRun", "()V"⟩, 12), (⟨"CoastLights$Tokens", "readSign", "()V"⟩, 12), (⟨"CoastLights$Chart", "readLine", "(LCoastLights$Tokens;)Z"⟩, 7), (⟨"CoastLights$Chart", "readLight", "(LCoastLights$Tokens;)Z"⟩, 7), (⟨"CoastLights$Chart", "atNewName", "(LCoastLights$Tokens;)Z"⟩, 7), (⟨"CoastLights$Chart", "lightNamed", "(J)I"⟩, 7), (⟨"CoastLights$Chart", "shipNamed", "(J)I"⟩, 7), (⟨"CoastLights$Chart", "readFlash", "(LCoastLights$Tokens;)Z"⟩, 7), (⟨"CoastLights$Light", "addSeconds", "(IZ)V"⟩, 14), (⟨"CoastLights$Chart", "readFrom", "(LCoastLights$Tokens;)Z"⟩, 7), (⟨"CoastLights$Chart", "readDark", "(LCoastLights$Tokens;)Z"⟩, 7), (⟨"CoastLights$Chart", "readShip", "(LCoastLights$Tokens;)Z"⟩, 7), (⟨"CoastLights$Chart", "readHaze", "(LCoastLights$Tokens;)Z"⟩, 7), (⟨"CoastLights", "closeText", "()V"⟩, 20), (⟨"CoastLights$Chart", "comparePair", "(II)V"⟩, 7), (⟨"CoastLights$Light", "hasRowFrom", "(LCoastLights$Light;I)Z"⟩, 14)]
theorem lw_r1 : ∀ q ∈ lw_privs_1, lw_okq q := List.forall_mem_cons.mpr ⟨lw_p0, List.forall_mem_cons.mpr ⟨lw_p1, List.forall_mem_cons.mpr ⟨lw_p2, List.forall_mem_cons.mpr ⟨lw_p3, List.forall_mem_cons.mpr ⟨lw_p4, List.forall_mem_cons.mpr ⟨lw_p5, List.forall_mem_cons.mpr ⟨lw_p6, List.forall_mem_cons.mpr ⟨lw_p7, List.forall_mem_cons.mpr ⟨lw_p8, List.forall_mem_cons.mpr ⟨lw_p9, List.forall_mem_cons.mpr ⟨lw_p10, List.forall_mem_cons.mpr ⟨lw_p11, List.forall_mem_cons.mpr ⟨lw_p12, List.forall_mem_cons.mpr ⟨lw_p13, List.forall_mem_cons.mpr ⟨lw_p14, List.forall_mem_cons.mpr ⟨lw_p15, fun _ h => absurd h List.not_mem_nil⟩⟩⟩⟩⟩⟩⟩⟩⟩⟩⟩⟩⟩⟩⟩⟩
theorem lw_p16 : lw_okq (⟨"CoastLights", "isLight", "(I)Z"⟩, 20) := ⟨⟨by decide +kernel, by decide +kernel⟩, List.mem_of_getElem? (i := 27) (by decide +kernel), List.mem_of_getElem? (i := 693) (by decide +kernel), List.mem_of_getElem? (i := 694) (by decide +kernel)⟩
theorem lw_p17 : lw_okq (⟨"CoastLights", "isShip", "(I)Z"⟩, 20) := ⟨⟨by decide +kernel, by decide +kernel⟩, List.mem_of_getElem? (i := 27) (by decide +kernel), List.mem_of_getElem? (i := 701) (by decide +kernel), List.mem_of_getElem? (i := 702) (by decide +kernel)⟩
theorem lw_p18 : lw_okq (⟨"CoastLights", "keepIfDone", "(I)I"⟩, 20) := ⟨⟨by decide +kernel, by decide +kernel⟩, List.mem_of_getElem? (i := 27) (by decide +kernel), List.mem_of_getElem? (i := 771) (by decide +kernel), List.mem_of_getElem? (i := 772) (by decide +kernel)⟩
theorem lw_p19 : lw_okq (⟨"CoastLights$Scene", "sail", "(I)V"⟩, 9) := ⟨⟨by decide +kernel, by decide +kernel⟩, List.mem_of_getElem? (i := 248) (by decide +kernel), List.mem_of_getElem? (i := 832) (by decide +kernel), List.mem_of_getElem? (i := 833) (by decide +kernel)⟩
theorem lw_p20 : lw_okq (⟨"CoastLights", "keepIfAny", "(I)I"⟩, 20) := ⟨⟨by decide +kernel, by decide +kernel⟩, List.mem_of_getElem? (i := 27) (by decide +kernel), List.mem_of_getElem? (i := 841) (by decide +kernel), List.mem_of_getElem? (i := 842) (by decide +kernel)⟩
theorem lw_p21 : lw_okq (⟨"CoastLights$Chart", "endsAllConfusion", "(I)Z"⟩, 7) := ⟨⟨by decide +kernel, by decide +kernel⟩, List.mem_of_getElem? (i := 91) (by decide +kernel), List.mem_of_getElem? (i := 879) (by decide +kernel), List.mem_of_getElem? (i := 880) (by decide +kernel)⟩
theorem lw_p22 : lw_okq (⟨"CoastLights", "fittingLights", "()I"⟩, 20) := ⟨⟨by decide +kernel, by decide +kernel⟩, List.mem_of_getElem? (i := 27) (by decide +kernel), List.mem_of_getElem? (i := 918) (by decide +kernel), List.mem_of_getElem? (i := 919) (by decide +kernel)⟩
theorem lw_p23 : lw_okq (⟨"CoastLights$Tokens", "fitsFrom", "(LCoastLights$Light;I)Z"⟩, 12) := ⟨⟨by decide +kernel, by decide +kernel⟩, List.mem_of_getElem? (i := 35) (by decide +kernel), List.mem_of_getElem? (i := 926) (by decide +kernel), List.mem_of_getElem? (i := 927) (by decide +kernel)⟩
theorem lw_p24 : lw_okq (⟨"CoastLights", "keepFits", "(I)V"⟩, 20) := ⟨⟨by decide +kernel, by decide +kernel⟩, List.mem_of_getElem? (i := 27) (by decide +kernel), List.mem_of_getElem? (i := 931) (by decide +kernel), List.mem_of_getElem? (i := 932) (by decide +kernel)⟩
theorem lw_p25 : lw_okq (⟨"CoastLights", "mostLeft", "(I)I"⟩, 20) := ⟨⟨by decide +kernel, by decide +kernel⟩, List.mem_of_getElem? (i := 27) (by decide +kernel), List.mem_of_getElem? (i := 935) (by decide +kernel), List.mem_of_getElem? (i := 936) (by decide +kernel)⟩
theorem lw_p26 : lw_okq (⟨"CoastLights", "isFixTape", "()Z"⟩, 20) := ⟨⟨by decide +kernel, by decide +kernel⟩, List.mem_of_getElem? (i := 27) (by decide +kernel), List.mem_of_getElem? (i := 961) (by decide +kernel), List.mem_of_getElem? (i := 962) (by decide +kernel)⟩
theorem lw_p27 : lw_okq (⟨"CoastLights", "liesAsTaped", "(II)Z"⟩, 20) := ⟨⟨by decide +kernel, by decide +kernel⟩, List.mem_of_getElem? (i := 27) (by decide +kernel), List.mem_of_getElem? (i := 965) (by decide +kernel), List.mem_of_getElem? (i := 966) (by decide +kernel)⟩
theorem lw_p28 : lw_okq (⟨"CoastLights", "tagWord", "(J)V"⟩, 20) := ⟨⟨by decide +kernel, by decide +kernel⟩, List.mem_of_getElem? (i := 27) (by decide +kernel), List.mem_of_getElem? (i := 1001) (by decide +kernel), List.mem_of_getElem? (i := 1002) (by decide +kernel)⟩
theorem lw_p29 : lw_okq (⟨"CoastLights", "tagByte", "(I)V"⟩, 20) := ⟨⟨by decide +kernel, by decide +kernel⟩, List.mem_of_getElem? (i := 27) (by decide +kernel), List.mem_of_getElem? (i := 1005) (by decide +kernel), List.mem_of_getElem? (i := 1006) (by decide +kernel)⟩
theorem lw_p30 : lw_okq (⟨"CoastLights", "tagText", "(Ljava/lang/String;)V"⟩, 20) := ⟨⟨by decide +kernel, by decide +kernel⟩, List.mem_of_getElem? (i := 27) (by decide +kernel), List.mem_of_getElem? (i := 1010) (by decide +kernel), List.mem_of_getElem? (i := 1011) (by decide +kernel)⟩
theorem lw_p31 : lw_okq (⟨"CoastLights", "tagNumber", "(I)V"⟩, 20) := ⟨⟨by decide +kernel, by decide +kernel⟩, List.mem_of_getElem? (i := 27) (by decide +kernel), List.mem_of_getElem? (i := 1062) (by decide +kernel), List.mem_of_getElem? (i := 1063) (by decide +kernel)⟩
def lw_privs_2 : List (MethodName × Nat) := [(⟨"CoastLights", "isLight", "(I)Z"⟩, 20), (⟨"CoastLights", "isShip", "(I)Z"⟩, 20), (⟨"CoastLights", "keepIfDone", "(I)I"⟩, 20), (⟨"CoastLights$Scene", "sail", "(I)V"⟩, 9), (⟨"CoastLights", "keepIfAny", "(I)I"⟩, 20), (⟨"CoastLights$Chart", "endsAllConfusion", "(I)Z"⟩, 7), (⟨"CoastLights", "fittingLights", "()I"⟩, 20), (⟨"CoastLights$Tokens", "fitsFrom", "(LCoastLights$Light;I)Z"⟩, 12), (⟨"CoastLights", "keepFits", "(I)V"⟩, 20), (⟨"CoastLights", "mostLeft", "(I)I"⟩, 20), (⟨"CoastLights", "isFixTape", "()Z"⟩, 20), (⟨"CoastLights", "liesAsTaped", "(II)Z"⟩, 20), (⟨"CoastLights", "tagWord", "(J)V"⟩, 20), (⟨"CoastLights", "tagByte", "(I)V"⟩, 20), (⟨"CoastLights", "tagText", "(Ljava/lang/String;)V"⟩, 20), (⟨"CoastLights", "tagNumber", "(I)V"⟩, 20)]
theorem lw_r2 : ∀ q ∈ lw_privs_2, lw_okq q := List.forall_mem_cons.mpr ⟨lw_p16, List.forall_mem_cons.mpr ⟨lw_p17, List.forall_mem_cons.mpr ⟨lw_p18, List.forall_mem_cons.mpr ⟨lw_p19, List.forall_mem_cons.mpr ⟨lw_p20, List.forall_mem_cons.mpr ⟨lw_p21, List.forall_mem_cons.mpr ⟨lw_p22, List.forall_mem_cons.mpr ⟨lw_p23, List.forall_mem_cons.mpr ⟨lw_p24, List.forall_mem_cons.mpr ⟨lw_p25, List.forall_mem_cons.mpr ⟨lw_p26, List.forall_mem_cons.mpr ⟨lw_p27, List.forall_mem_cons.mpr ⟨lw_p28, List.forall_mem_cons.mpr ⟨lw_p29, List.forall_mem_cons.mpr ⟨lw_p30, List.forall_mem_cons.mpr ⟨lw_p31, fun _ h => absurd h List.not_mem_nil⟩⟩⟩⟩⟩⟩⟩⟩⟩⟩⟩⟩⟩⟩⟩⟩
theorem lw_p32 : lw_okq (⟨"CoastLights$Draws", "act", "(LCoastLights$Scene;)V"⟩, 1) := ⟨⟨by decide +kernel, by decide +kernel⟩, List.mem_of_getElem? (i := 366) (by decide +kernel), List.mem_of_getElem? (i := 1085) (by decide +kernel), List.mem_of_getElem? (i := 1086) (by decide +kernel)⟩
theorem lw_p33 : lw_okq (⟨"CoastLights$Draws", "draw", "(I)I"⟩, 1) := ⟨⟨by decide +kernel, by decide +kernel⟩, List.mem_of_getElem? (i := 366) (by decide +kernel), List.mem_of_getElem? (i := 1089) (by decide +kernel), List.mem_of_getElem? (i := 1090) (by decide +kernel)⟩
theorem lw_p34 : lw_okq (⟨"CoastLights$Book", "readLine", "(LCoastLights$Tokens;LCoastLights$Chart;)Z"⟩, 6) := ⟨⟨by decide +kernel, by decide +kernel⟩, List.mem_of_getElem? (i := 320) (by decide +kernel), List.mem_of_getElem? (i := 1118) (by decide +kernel), List.mem_of_getElem? (i := 1119) (by decide +kernel)⟩
theorem lw_p35 : lw_okq (⟨"CoastLights$Book", "readWhom", "(LCoastLights$Tokens;LCoastLights$Chart;I)Z"⟩, 6) := ⟨⟨by decide +kernel, by decide +kernel⟩, List.mem_of_getElem? (i := 320) (by decide +kernel), List.mem_of_getElem? (i := 1141) (by decide +kernel), List.mem_of_getElem? (i := 1142) (by decide +kernel)⟩
theorem lw_p36 : lw_okq (⟨"CoastLights$Book", "readAmount", "(LCoastLights$Tokens;I)Z"⟩, 6) := ⟨⟨by decide +kernel, by decide +kernel⟩, List.mem_of_getElem? (i := 320) (by decide +kernel), List.mem_of_getElem? (i := 1150) (by decide +kernel), List.mem_of_getElem? (i := 1151) (by decide +kernel)⟩
theorem lw_p37 : lw_okq (⟨"CoastLights$Book", "liveLine", "(LCoastLights$Scene;I)I"⟩, 6) := ⟨⟨by decide +kernel, by decide +kernel⟩, List.mem_of_getElem? (i := 320) (by decide +kernel), List.mem_of_getElem? (i := 1161) (by decide +kernel), List.mem_of_getElem? (i := 1162) (by decide +kernel)⟩
theorem lw_p38 : lw_okq (⟨"CoastLights$Sentence", "readCondition", "(LCoastLights$Tokens;LCoastLights$Chart;I)Z"⟩, 6) := ⟨⟨by decide +kernel, by decide +kernel⟩, List.mem_of_getElem? (i := 294) (by decide +kernel), List.mem_of_getElem? (i := 1192) (by decide +kernel), List.mem_of_getElem? (i := 1193) (by decide +kernel)⟩
theorem lw_p39 : lw_okq (⟨"CoastLights$Sentence", "readAll", "(LCoastLights$Tokens;LCoastLights$Chart;I)Z"⟩, 6) := ⟨⟨by decide +kernel, by decide +kernel⟩, List.mem_of_getElem? (i := 294) (by decide +kernel), List.mem_of_getElem? (i := 1196) (by decide +kernel), List.mem_of_getElem? (i := 1197) (by decide +kernel)⟩
theorem lw_p40 : lw_okq (⟨"CoastLights$Sentence", "readOne", "(LCoastLights$Tokens;LCoastLights$Chart;I)Z"⟩, 6) := ⟨⟨by decide +kernel, by decide +kernel⟩, List.mem_of_getElem? (i := 294) (by decide +kernel), List.mem_of_getElem? (i := 1200) (by decide +kernel), List.mem_of_getElem? (i := 1201) (by decide +kernel)⟩
theorem lw_p41 : lw_okq (⟨"CoastLights$Sentence", "add", "(III)Z"⟩, 6) := ⟨⟨by decide +kernel, by decide +kernel⟩, List.mem_of_getElem? (i := 294) (by decide +kernel), List.mem_of_getElem? (i := 1232) (by decide +kernel), List.mem_of_getElem? (i := 1233) (by decide +kernel)⟩
theorem lw_p42 : lw_okq (⟨"CoastLights$Sentence", "readPlain", "(LCoastLights$Tokens;LCoastLights$Chart;I)Z"⟩, 6) := ⟨⟨by decide +kernel, by decide +kernel⟩, List.mem_of_getElem? (i := 294) (by decide +kernel), List.mem_of_getElem? (i := 1236) (by decide +kernel), List.mem_of_getElem? (i := 1237) (by decide +kernel)⟩
theorem lw_p43 : lw_okq (⟨"CoastLights$Sentence", "readNamed", "(LCoastLights$Tokens;II)Z"⟩, 6) := ⟨⟨by decide +kernel, by decide +kernel⟩, List.mem_of_getElem? (i := 294) (by decide +kernel), List.mem_of_getElem? (i := 1241) (by decide +kernel), List.mem_of_getElem? (i := 1242) (by decide +kernel)⟩
theorem lw_p44 : lw_okq (⟨"CoastLights$Sentence", "readMeasure", "(LCoastLights$Tokens;I)Z"⟩, 6) := ⟨⟨by decide +kernel, by decide +kernel⟩, List.mem_of_getElem? (i := 294) (by decide +kernel), List.mem_of_getElem? (i := 1246) (by decide +kernel), List.mem_of_getElem? (i := 1247) (by decide +kernel)⟩
theorem lw_p45 : lw_okq (⟨"CoastLights$Sentence", "plainSet", "(LCoastLights$Scene;I)I"⟩, 6) := ⟨⟨by decide +kernel, by decide +kernel⟩, List.mem_of_getElem? (i := 294) (by decide +kernel), List.mem_of_getElem? (i := 1270) (by decide +kernel), List.mem_of_getElem? (i := 1271) (by decide +kernel)⟩
theorem lw_p46 : lw_okq (⟨"CoastLights$Sentence", "measuredSet", "(LCoastLights$Scene;I)I"⟩, 6) := ⟨⟨by decide +kernel, by decide +kernel⟩, List.mem_of_getElem? (i := 294) (by decide +kernel), List.mem_of_getElem? (i := 1280) (by decide +kernel), List.mem_of_getElem? (i := 1281) (by decide +kernel)⟩
theorem lw_p47 : lw_okq (⟨"java/lang/Throwable", "fillInStackTrace", "(I)Ljava/lang/Throwable;"⟩, 6) := ⟨⟨by decide +kernel, by decide +kernel⟩, List.mem_of_getElem? (i := 1346) (by decide +kernel), List.mem_of_getElem? (i := 1344) (by decide +kernel), List.mem_of_getElem? (i := 1345) (by decide +kernel)⟩
def lw_privs_3 : List (MethodName × Nat) := [(⟨"CoastLights$Draws", "act", "(LCoastLights$Scene;)V"⟩, 1), (⟨"CoastLights$Draws", "draw", "(I)I"⟩, 1), (⟨"CoastLights$Book", "readLine", "(LCoastLights$Tokens;LCoastLights$Chart;)Z"⟩, 6), (⟨"CoastLights$Book", "readWhom", "(LCoastLights$Tokens;LCoastLights$Chart;I)Z"⟩, 6), (⟨"CoastLights$Book", "readAmount", "(LCoastLights$Tokens;I)Z"⟩, 6), (⟨"CoastLights$Book", "liveLine", "(LCoastLights$Scene;I)I"⟩, 6), (⟨"CoastLights$Sentence", "readCondition", "(LCoastLights$Tokens;LCoastLights$Chart;I)Z"⟩, 6), (⟨"CoastLights$Sentence", "readAll", "(LCoastLights$Tokens;LCoastLights$Chart;I)Z"⟩, 6), (⟨"CoastLights$Sentence", "readOne", "(LCoastLights$Tokens;LCoastLights$Chart;I)Z"⟩, 6), (⟨"CoastLights$Sentence", "add", "(III)Z"⟩, 6), (⟨"CoastLights$Sentence", "readPlain", "(LCoastLights$Tokens;LCoastLights$Chart;I)Z"⟩, 6), (⟨"CoastLights$Sentence", "readNamed", "(LCoastLights$Tokens;II)Z"⟩, 6), (⟨"CoastLights$Sentence", "readMeasure", "(LCoastLights$Tokens;I)Z"⟩, 6), (⟨"CoastLights$Sentence", "plainSet", "(LCoastLights$Scene;I)I"⟩, 6), (⟨"CoastLights$Sentence", "measuredSet", "(LCoastLights$Scene;I)I"⟩, 6), (⟨"java/lang/Throwable", "fillInStackTrace", "(I)Ljava/lang/Throwable;"⟩, 6)]
theorem lw_r3 : ∀ q ∈ lw_privs_3, lw_okq q := List.forall_mem_cons.mpr ⟨lw_p32, List.forall_mem_cons.mpr ⟨lw_p33, List.forall_mem_cons.mpr ⟨lw_p34, List.forall_mem_cons.mpr ⟨lw_p35, List.forall_mem_cons.mpr ⟨lw_p36, List.forall_mem_cons.mpr ⟨lw_p37, List.forall_mem_cons.mpr ⟨lw_p38, List.forall_mem_cons.mpr ⟨lw_p39, List.forall_mem_cons.mpr ⟨lw_p40, List.forall_mem_cons.mpr ⟨lw_p41, List.forall_mem_cons.mpr ⟨lw_p42, List.forall_mem_cons.mpr ⟨lw_p43, List.forall_mem_cons.mpr ⟨lw_p44, List.forall_mem_cons.mpr ⟨lw_p45, List.forall_mem_cons.mpr ⟨lw_p46, List.forall_mem_cons.mpr ⟨lw_p47, fun _ h => absurd h List.not_mem_nil⟩⟩⟩⟩⟩⟩⟩⟩⟩⟩⟩⟩⟩⟩⟩⟩
theorem lw_p48 : lw_okq (⟨"CoastLightsModel", "four", "(I)V"⟩, 53) := ⟨⟨by decide +kernel, by decide +kernel⟩, List.mem_of_getElem? (i := 1390) (by decide +kernel), List.mem_of_getElem? (i := 1388) (by decide +kernel), List.mem_of_getElem? (i := 1389) (by decide +kernel)⟩
theorem lw_p49 : lw_okq (⟨"CoastLightsModel", "clears", "()V"⟩, 53) := ⟨⟨by decide +kernel, by decide +kernel⟩, List.mem_of_getElem? (i := 1390) (by decide +kernel), List.mem_of_getElem? (i := 1429) (by decide +kernel), List.mem_of_getElem? (i := 1430) (by decide +kernel)⟩
theorem lw_p50 : lw_okq (⟨"CoastLightsModel", "taken", "(I)V"⟩, 53) := ⟨⟨by decide +kernel, by decide +kernel⟩, List.mem_of_getElem? (i := 1390) (by decide +kernel), List.mem_of_getElem? (i := 1598) (by decide +kernel), List.mem_of_getElem? (i := 1599) (by decide +kernel)⟩
theorem lw_p51 : lw_okq (⟨"CoastLightsModel", "next", "()V"⟩, 53) := ⟨⟨by decide +kernel, by decide +kernel⟩, List.mem_of_getElem? (i := 1390) (by decide +kernel), List.mem_of_getElem? (i := 1602) (by decide +kernel), List.mem_of_getElem? (i := 1603) (by decide +kernel)⟩
theorem lw_p52 : lw_okq (⟨"CoastLightsModel", "peek", "()I"⟩, 53) := ⟨⟨by decide +kernel, by decide +kernel⟩, List.mem_of_getElem? (i := 1390) (by decide +kernel), List.mem_of_getElem? (i := 1606) (by decide +kernel), List.mem_of_getElem? (i := 1607) (by decide +kernel)⟩
theorem lw_p53 : lw_okq (⟨"CoastLightsModel", "readLine", "()Z"⟩, 53) := ⟨⟨by decide +kernel, by decide +kernel⟩, List.mem_of_getElem? (i := 1390) (by decide +kernel), List.mem_of_getElem? (i := 1616) (by decide +kernel), List.mem_of_getElem? (i := 1617) (by decide +kernel)⟩
theorem lw_p54 : lw_okq (⟨"CoastLightsModel", "isWord", "(J)Z"⟩, 53) := ⟨⟨by decide +kernel, by decide +kernel⟩, List.mem_of_getElem? (i := 1390) (by decide +kernel), List.mem_of_getElem? (i := 1620) (by decide +kernel), List.mem_of_getElem? (i := 1621) (by decide +kernel)⟩
theorem lw_p55 : lw_okq (⟨"CoastLightsModel", "readLight", "()Z"⟩, 53) := ⟨⟨by decide +kernel, by decide +kernel⟩, List.mem_of_getElem? (i := 1390) (by decide +kernel), List.mem_of_getElem? (i := 1624) (by decide +kernel), List.mem_of_getElem? (i := 1625) (by decide +kernel)⟩
theorem lw_p56 : lw_okq (⟨"CoastLightsModel", "bad", "(I)Z"⟩, 53) := ⟨⟨by decide +kernel, by decide +kernel⟩, List.mem_of_getElem? (i := 1390) (by decide +kernel), List.mem_of_getElem? (i := 1628) (by decide +kernel), List.mem_of_getElem? (i := 1629) (by decide +kernel)⟩
theorem lw_p57 : lw_okq (⟨"CoastLightsModel", "fresh", "(I)Z"⟩, 53) := ⟨⟨by decide +kernel, by decide +kernel⟩, List.mem_of_getElem? (i := 1390) (by decide +kernel), List.mem_of_getElem? (i := 1632) (by decide +kernel), List.mem_of_getElem? (i := 1633) (by decide +kernel)⟩
theorem lw_p58 : lw_okq (⟨"CoastLightsModel", "isName", "()Z"⟩, 53) := ⟨⟨by decide +kernel, by decide +kernel⟩, List.mem_of_getElem? (i := 1390) (by decide +kernel), List.mem_of_getElem? (i := 1636) (by decide +kernel), List.mem_of_getElem? (i := 1637) (by decide +kernel)⟩
theorem lw_p59 : lw_okq (⟨"CoastLightsModel", "seek", "(II)I"⟩, 53) := ⟨⟨by decide +kernel, by decide +kernel⟩, List.mem_of_getElem? (i := 1390) (by decide +kernel), List.mem_of_getElem? (i := 1640) (by decide +kernel), List.mem_of_getElem? (i := 1641) (by decide +kernel)⟩
theorem lw_p60 : lw_okq (⟨"CoastLightsModel", "puts", "(III)Z"⟩, 53) := ⟨⟨by decide +kernel, by decide +kernel⟩, List.mem_of_getElem? (i := 1390) (by decide +kernel), List.mem_of_getElem? (i := 1644) (by decide +kernel), List.mem_of_getElem? (i := 1645) (by decide +kernel)⟩
theorem lw_p61 : lw_okq (⟨"CoastLightsModel", "takes", "(II)Z"⟩, 53) := ⟨⟨by decide +kernel, by decide +kernel⟩, List.mem_of_getElem? (i := 1390) (by decide +kernel), List.mem_of_getElem? (i := 1648) (by decide +kernel), List.mem_of_getElem? (i := 1649) (by decide +kernel)⟩
theorem lw_p62 : lw_okq (⟨"CoastLightsModel", "readFlash", "()Z"⟩, 53) := ⟨⟨by decide +kernel, by decide +kernel⟩, List.mem_of_getElem? (i := 1390) (by decide +kernel), List.mem_of_getElem? (i := 1655) (by decide +kernel), List.mem_of_getElem? (i := 1656) (by decide +kernel)⟩
theorem lw_p63 : lw_okq (⟨"CoastLightsModel", "looksAt", "(II)Z"⟩, 53) := ⟨⟨by decide +kernel, by decide +kernel⟩, List.mem_of_getElem? (i := 1390) (by decide +kernel), List.mem_of_getElem? (i := 1659) (by decide +kernel), List.mem_of_getElem? (i := 1660) (by decide +kernel)⟩
def lw_privs_4 : List (MethodName × Nat) := [(⟨"CoastLightsModel", "four", "(I)V"⟩, 53), (⟨"CoastLightsModel", "clears", "()V"⟩, 53), (⟨"CoastLightsModel", "taken", "(I)V"⟩, 53), (⟨"CoastLightsModel", "next", "()V"⟩, 53), (⟨"CoastLightsModel", "peek", "()I"⟩, 53), (⟨"CoastLightsModel", "readLine", "()Z"⟩, 53), (⟨"CoastLightsModel", "isWord", "(J)Z"⟩, 53), (⟨"CoastLightsModel", "readLight", "()Z"⟩, 53), (⟨"CoastLightsModel", "bad", "(I)Z"⟩, 53), (⟨"CoastLightsModel", "fresh", "(I)Z"⟩, 53), (⟨"CoastLightsModel", "isName", "()Z"⟩, 53), (⟨"CoastLightsModel", "seek", "(II)I"⟩, 53), (⟨"CoastLightsModel", "puts", "(III)Z"⟩, 53), (⟨"CoastLightsModel", "takes", "(II)Z"⟩, 53), (⟨"CoastLightsModel", "readFlash", "()Z"⟩, 53), (⟨"CoastLightsModel", "looksAt", "(II)Z"⟩, 53)]
theorem lw_r4 : ∀ q ∈ lw_privs_4, lw_okq q := List.forall_mem_cons.mpr ⟨lw_p48, List.forall_mem_cons.mpr ⟨lw_p49, List.forall_mem_cons.mpr ⟨lw_p50, List.forall_mem_cons.mpr ⟨lw_p51, List.forall_mem_cons.mpr ⟨lw_p52, List.forall_mem_cons.mpr ⟨lw_p53, List.forall_mem_cons.mpr ⟨lw_p54, List.forall_mem_cons.mpr ⟨lw_p55, List.forall_mem_cons.mpr ⟨lw_p56, List.forall_mem_cons.mpr ⟨lw_p57, List.forall_mem_cons.mpr ⟨lw_p58, List.forall_mem_cons.mpr ⟨lw_p59, List.forall_mem_cons.mpr ⟨lw_p60, List.forall_mem_cons.mpr ⟨lw_p61, List.forall_mem_cons.mpr ⟨lw_p62, List.forall_mem_cons.mpr ⟨lw_p63, fun _ h => absurd h List.not_mem_nil⟩⟩⟩⟩⟩⟩⟩⟩⟩⟩⟩⟩⟩⟩⟩⟩
theorem lw_p64 : lw_okq (⟨"CoastLightsModel", "readFrom", "()Z"⟩, 53) := ⟨⟨by decide +kernel, by decide +kernel⟩, List.mem_of_getElem? (i := 1390) (by decide +kernel), List.mem_of_getElem? (i := 1663) (by decide +kernel), List.mem_of_getElem? (i := 1664) (by decide +kernel)⟩
theorem lw_p65 : lw_okq (⟨"CoastLightsModel", "readDark", "()Z"⟩, 53) := ⟨⟨by decide +kernel, by decide +kernel⟩, List.mem_of_getElem? (i := 1390) (by decide +kernel), List.mem_of_getElem? (i := 1670) (by decide +kernel), List.mem_of_getElem? (i := 1671) (by decide +kernel)⟩
theorem lw_p66 : lw_okq (⟨"CoastLightsModel", "takesName", "(II)Z"⟩, 53) := ⟨⟨by decide +kernel, by decide +kernel⟩, List.mem_of_getElem? (i := 1390) (by decide +kernel), List.mem_of_getElem? (i := 1674) (by decide +kernel), List.mem_of_getElem? (i := 1675) (by decide +kernel)⟩
theorem lw_p67 : lw_okq (⟨"CoastLightsModel", "readShip", "()Z"⟩, 53) := ⟨⟨by decide +kernel, by decide +kernel⟩, List.mem_of_getElem? (i := 1390) (by decide +kernel), List.mem_of_getElem? (i := 1678) (by decide +kernel), List.mem_of_getElem? (i := 1679) (by decide +kernel)⟩
theorem lw_p68 : lw_okq (⟨"CoastLightsModel", "sign", "(I)Z"⟩, 53) := ⟨⟨by decide +kernel, by decide +kernel⟩, List.mem_of_getElem? (i := 1390) (by decide +kernel), List.mem_of_getElem? (i := 1682) (by decide +kernel), List.mem_of_getElem? (i := 1683) (by decide +kernel)⟩
theorem lw_p69 : lw_okq (⟨"CoastLightsModel", "isSign", "(I)Z"⟩, 53) := ⟨⟨by decide +kernel, by decide +kernel⟩, List.mem_of_getElem? (i := 1390) (by decide +kernel), List.mem_of_getElem? (i := 1686) (by decide +kernel), List.mem_of_getElem? (i := 1687) (by decide +kernel)⟩
theorem lw_p70 : lw_okq (⟨"CoastLightsModel", "isLight", "(I)Z"⟩, 53) := ⟨⟨by decide +kernel, by decide +kernel⟩, List.mem_of_getElem? (i := 1390) (by decide +kernel), List.mem_of_getElem? (i := 1698) (by decide +kernel), List.mem_of_getElem? (i := 1699) (by decide +kernel)⟩
theorem lw_p71 : lw_okq (⟨"CoastLightsModel", "throwsIf", "(Z)Z"⟩, 53) := ⟨⟨by decide +kernel, by decide +kernel⟩, List.mem_of_getElem? (i := 1390) (by decide +kernel), List.mem_of_getElem? (i := 1702) (by decide +kernel), List.mem_of_getElem? (i := 1703) (by decide +kernel)⟩
theorem lw_p72 : lw_okq (⟨"CoastLightsModel", "periodOf", "(I)I"⟩, 53) := ⟨⟨by decide +kernel, by decide +kernel⟩, List.mem_of_getElem? (i := 1390) (by decide +kernel), List.mem_of_getElem? (i := 1706) (by decide +kernel), List.mem_of_getElem? (i := 1707) (by decide +kernel)⟩
theorem lw_p73 : lw_okq (⟨"CoastLightsModel", "placeIn", "(II)I"⟩, 53) := ⟨⟨by decide +kernel, by decide +kernel⟩, List.mem_of_getElem? (i := 1390) (by decide +kernel), List.mem_of_getElem? (i := 1710) (by decide +kernel), List.mem_of_getElem? (i := 1711) (by decide +kernel)⟩
theorem lw_p74 : lw_okq (⟨"CoastLightsModel", "isShining", "(I)Z"⟩, 53) := ⟨⟨by decide +kernel, by decide +kernel⟩, List.mem_of_getElem? (i := 1390) (by decide +kernel), List.mem_of_getElem? (i := 1714) (by decide +kernel), List.mem_of_getElem? (i := 1715) (by decide +kernel)⟩
theorem lw_p75 : lw_okq (⟨"CoastLightsModel", "isOn", "(II)Z"⟩, 53) := ⟨⟨by decide +kernel, by decide +kernel⟩, List.mem_of_getElem? (i := 1390) (by decide +kernel), List.mem_of_getElem? (i := 1718) (by decide +kernel), List.mem_of_getElem? (i := 1719) (by decide +kernel)⟩
theorem lw_p76 : lw_okq (⟨"CoastLightsModel", "alikes", "(I)I"⟩, 53) := ⟨⟨by decide +kernel, by decide +kernel⟩, List.mem_of_getElem? (i := 1390) (by decide +kernel), List.mem_of_getElem? (i := 1722) (by decide +kernel), List.mem_of_getElem? (i := 1723) (by decide +kernel)⟩
theorem lw_p77 : lw_okq (⟨"CoastLightsModel", "isAlike", "(II)Z"⟩, 53) := ⟨⟨by decide +kernel, by decide +kernel⟩, List.mem_of_getElem? (i := 1390) (by decide +kernel), List.mem_of_getElem? (i := 1726) (by decide +kernel), List.mem_of_getElem? (i := 1727) (by decide +kernel)⟩
theorem lw_p78 : lw_okq (⟨"CoastLightsModel", "isShip", "(I)Z"⟩, 53) := ⟨⟨by decide +kernel, by decide +kernel⟩, List.mem_of_getElem? (i := 1390) (by decide +kernel), List.mem_of_getElem? (i := 1738) (by decide +kernel), List.mem_of_getElem? (i := 1739) (by decide +kernel)⟩
theorem lw_p79 : lw_okq (⟨"CoastLightsModel", "visibleFrom", "(III)I"⟩, 53) := ⟨⟨by decide +kernel, by decide +kernel⟩, List.mem_of_getElem? (i := 1390) (by decide +kernel), List.mem_of_getElem? (i := 1742) (by decide +kernel), List.mem_of_getElem? (i := 1743) (by decide +kernel)⟩
def lw_privs_5 : List (MethodName × Nat) := [(⟨"CoastLightsModel", "readFrom", "()Z"⟩, 53), (⟨"CoastLightsModel", "readDark", "()Z"⟩, 53), (⟨"CoastLightsModel", "takesName", "(II)Z"⟩, 53), (⟨"CoastLightsModel", "readShip", "()Z"⟩, 53), (⟨"CoastLightsModel", "sign", "(I)Z"⟩, 53), (⟨"CoastLightsModel", "isSign", "(I)Z"⟩, 53), (⟨"CoastLightsModel", "isLight", "(I)Z"⟩, 53), (⟨"CoastLightsModel", "throwsIf", "(Z)Z"⟩, 53), (⟨"CoastLightsModel", "periodOf", "(I)I"⟩, 53), (⟨"CoastLightsModel", "placeIn", "(II)I"⟩, 53), (⟨"CoastLightsModel", "isShining", "(I)Z"⟩, 53), (⟨"CoastLightsModel", "isOn", "(II)Z"⟩, 53), (⟨"CoastLightsModel", "alikes", "(I)I"⟩, 53), (⟨"CoastLightsModel", "isAlike", "(II)Z"⟩, 53), (⟨"CoastLightsModel", "isShip", "(I)Z"⟩, 53), (⟨"CoastLightsModel", "visibleFrom", "(III)I"⟩, 53)]
theorem lw_r5 : ∀ q ∈ lw_privs_5, lw_okq q := List.forall_mem_cons.mpr ⟨lw_p64, List.forall_mem_cons.mpr ⟨lw_p65, List.forall_mem_cons.mpr ⟨lw_p66, List.forall_mem_cons.mpr ⟨lw_p67, List.forall_mem_cons.mpr ⟨lw_p68, List.forall_mem_cons.mpr ⟨lw_p69, List.forall_mem_cons.mpr ⟨lw_p70, List.forall_mem_cons.mpr ⟨lw_p71, List.forall_mem_cons.mpr ⟨lw_p72, List.forall_mem_cons.mpr ⟨lw_p73, List.forall_mem_cons.mpr ⟨lw_p74, List.forall_mem_cons.mpr ⟨lw_p75, List.forall_mem_cons.mpr ⟨lw_p76, List.forall_mem_cons.mpr ⟨lw_p77, List.forall_mem_cons.mpr ⟨lw_p78, List.forall_mem_cons.mpr ⟨lw_p79, fun _ h => absurd h List.not_mem_nil⟩⟩⟩⟩⟩⟩⟩⟩⟩⟩⟩⟩⟩⟩⟩⟩
theorem lw_p80 : lw_okq (⟨"CoastLightsModel", "isVisibleBy", "(IIII)Z"⟩, 53) := ⟨⟨by decide +kernel, by decide +kernel⟩, List.mem_of_getElem? (i := 1390) (by decide +kernel), List.mem_of_getElem? (i := 1746) (by decide +kernel), List.mem_of_getElem? (i := 1747) (by decide +kernel)⟩
theorem lw_p81 : lw_okq (⟨"CoastLightsModel", "seenBy", "(I)I"⟩, 53) := ⟨⟨by decide +kernel, by decide +kernel⟩, List.mem_of_getElem? (i := 1390) (by decide +kernel), List.mem_of_getElem? (i := 1756) (by decide +kernel), List.mem_of_getElem? (i := 1757) (by decide +kernel)⟩
theorem lw_p82 : lw_okq (⟨"CoastLightsModel", "shining", "()I"⟩, 53) := ⟨⟨by decide +kernel, by decide +kernel⟩, List.mem_of_getElem? (i := 1390) (by decide +kernel), List.mem_of_getElem? (i := 1760) (by decide +kernel), List.mem_of_getElem? (i := 1761) (by decide +kernel)⟩
theorem lw_p83 : lw_okq (⟨"CoastLightsModel", "oilInAll", "()I"⟩, 53) := ⟨⟨by decide +kernel, by decide +kernel⟩, List.mem_of_getElem? (i := 1390) (by decide +kernel), List.mem_of_getElem? (i := 1772) (by decide +kernel), List.mem_of_getElem? (i := 1773) (by decide +kernel)⟩
theorem lw_p84 : lw_okq (⟨"CoastLightsModel", "stores", "()V"⟩, 53) := ⟨⟨by decide +kernel, by decide +kernel⟩, List.mem_of_getElem? (i := 1390) (by decide +kernel), List.mem_of_getElem? (i := 1780) (by decide +kernel), List.mem_of_getElem? (i := 1781) (by decide +kernel)⟩
theorem lw_p85 : lw_okq (⟨"CoastLightsModel", "whyKindle", "(I)I"⟩, 53) := ⟨⟨by decide +kernel, by decide +kernel⟩, List.mem_of_getElem? (i := 1390) (by decide +kernel), List.mem_of_getElem? (i := 1788) (by decide +kernel), List.mem_of_getElem? (i := 1789) (by decide +kernel)⟩
theorem lw_p86 : lw_okq (⟨"CoastLightsModel", "whyFill", "(II)I"⟩, 53) := ⟨⟨by decide +kernel, by decide +kernel⟩, List.mem_of_getElem? (i := 1390) (by decide +kernel), List.mem_of_getElem? (i := 1796) (by decide +kernel), List.mem_of_getElem? (i := 1797) (by decide +kernel)⟩
theorem lw_p87 : lw_okq (⟨"CoastLightsModel", "turns", "(II)V"⟩, 53) := ⟨⟨by decide +kernel, by decide +kernel⟩, List.mem_of_getElem? (i := 1390) (by decide +kernel), List.mem_of_getElem? (i := 1804) (by decide +kernel), List.mem_of_getElem? (i := 1805) (by decide +kernel)⟩
theorem lw_p88 : lw_okq (⟨"CoastLightsModel", "goesOn", "(I)I"⟩, 53) := ⟨⟨by decide +kernel, by decide +kernel⟩, List.mem_of_getElem? (i := 1390) (by decide +kernel), List.mem_of_getElem? (i := 1820) (by decide +kernel), List.mem_of_getElem? (i := 1821) (by decide +kernel)⟩
theorem lw_p89 : lw_okq (⟨"CoastLightsModel", "second", "()V"⟩, 53) := ⟨⟨by decide +kernel, by decide +kernel⟩, List.mem_of_getElem? (i := 1390) (by decide +kernel), List.mem_of_getElem? (i := 1824) (by decide +kernel), List.mem_of_getElem? (i := 1825) (by decide +kernel)⟩
theorem lw_p90 : lw_okq (⟨"CoastLightsModel", "sails", "(I)V"⟩, 53) := ⟨⟨by decide +kernel, by decide +kernel⟩, List.mem_of_getElem? (i := 1390) (by decide +kernel), List.mem_of_getElem? (i := 1828) (by decide +kernel), List.mem_of_getElem? (i := 1829) (by decide +kernel)⟩
theorem lw_p91 : lw_okq (⟨"CoastLightsModel", "laysPairs", "()I"⟩, 53) := ⟨⟨by decide +kernel, by decide +kernel⟩, List.mem_of_getElem? (i := 1390) (by decide +kernel), List.mem_of_getElem? (i := 1846) (by decide +kernel), List.mem_of_getElem? (i := 1847) (by decide +kernel)⟩
theorem lw_p92 : lw_okq (⟨"CoastLightsModel", "areSeen", "(II)Z"⟩, 53) := ⟨⟨by decide +kernel, by decide +kernel⟩, List.mem_of_getElem? (i := 1390) (by decide +kernel), List.mem_of_getElem? (i := 1850) (by decide +kernel), List.mem_of_getElem? (i := 1851) (by decide +kernel)⟩
theorem lw_p93 : lw_okq (⟨"CoastLightsModel", "showsAt", "(II)I"⟩, 53) := ⟨⟨by decide +kernel, by decide +kernel⟩, List.mem_of_getElem? (i := 1390) (by decide +kernel), List.mem_of_getElem? (i := 1869) (by decide +kernel), List.mem_of_getElem? (i := 1870) (by decide +kernel)⟩
theorem lw_p94 : lw_okq (⟨"CoastLightsModel", "octet", "(I)I"⟩, 53) := ⟨⟨by decide +kernel, by decide +kernel⟩, List.mem_of_getElem? (i := 1390) (by decide +kernel), List.mem_of_getElem? (i := 1881) (by decide +kernel), List.mem_of_getElem? (i := 1882) (by decide +kernel)⟩
theorem lw_p95 : lw_okq (⟨"CoastLightsModel", "fitOf", "(I)I"⟩, 53) := ⟨⟨by decide +kernel, by decide +kernel⟩, List.mem_of_getElem? (i := 1390) (by decide +kernel), List.mem_of_getElem? (i := 1885) (by decide +kernel), List.mem_of_getElem? (i := 1886) (by decide +kernel)⟩
def lw_privs_6 : List (MethodName × Nat) := [(⟨"CoastLightsModel", "isVisibleBy", "(IIII)Z"⟩, 53), (⟨"CoastLightsModel", "seenBy", "(I)I"⟩, 53), (⟨"CoastLightsModel", "shining", "()I"⟩, 53), (⟨"CoastLightsModel", "oilInAll", "()I"⟩, 53), (⟨"CoastLightsModel", "stores", "()V"⟩, 53), (⟨"CoastLightsModel", "whyKindle", "(I)I"⟩, 53), (⟨"CoastLightsModel", "whyFill", "(II)I"⟩, 53), (⟨"CoastLightsModel", "turns", "(II)V"⟩, 53), (⟨"CoastLightsModel", "goesOn", "(I)I"⟩, 53), (⟨"CoastLightsModel", "second", "()V"⟩, 53), (⟨"CoastLightsModel", "sails", "(I)V"⟩, 53), (⟨"CoastLightsModel", "laysPairs", "()I"⟩, 53), (⟨"CoastLightsModel", "areSeen", "(II)Z"⟩, 53), (⟨"CoastLightsModel", "showsAt", "(II)I"⟩, 53), (⟨"CoastLightsModel", "octet", "(I)I"⟩, 53), (⟨"CoastLightsModel", "fitOf", "(I)I"⟩, 53)]
theorem lw_r6 : ∀ q ∈ lw_privs_6, lw_okq q := List.forall_mem_cons.mpr ⟨lw_p80, List.forall_mem_cons.mpr ⟨lw_p81, List.forall_mem_cons.mpr ⟨lw_p82, List.forall_mem_cons.mpr ⟨lw_p83, List.forall_mem_cons.mpr ⟨lw_p84, List.forall_mem_cons.mpr ⟨lw_p85, List.forall_mem_cons.mpr ⟨lw_p86, List.forall_mem_cons.mpr ⟨lw_p87, List.forall_mem_cons.mpr ⟨lw_p88, List.forall_mem_cons.mpr ⟨lw_p89, List.forall_mem_cons.mpr ⟨lw_p90, List.forall_mem_cons.mpr ⟨lw_p91, List.forall_mem_cons.mpr ⟨lw_p92, List.forall_mem_cons.mpr ⟨lw_p93, List.forall_mem_cons.mpr ⟨lw_p94, List.forall_mem_cons.mpr ⟨lw_p95, fun _ h => absurd h List.not_mem_nil⟩⟩⟩⟩⟩⟩⟩⟩⟩⟩⟩⟩⟩⟩⟩⟩
theorem lw_p96 : lw_okq (⟨"CoastLightsModel", "leftBy", "(II)I"⟩, 53) := ⟨⟨by decide +kernel, by decide +kernel⟩, List.mem_of_getElem? (i := 1390) (by decide +kernel), List.mem_of_getElem? (i := 1889) (by decide +kernel), List.mem_of_getElem? (i := 1890) (by decide +kernel)⟩
theorem lw_p97 : lw_okq (⟨"CoastLightsModel", "octantFrom", "(III)I"⟩, 53) := ⟨⟨by decide +kernel, by decide +kernel⟩, List.mem_of_getElem? (i := 1390) (by decide +kernel), List.mem_of_getElem? (i := 1916) (by decide +kernel), List.mem_of_getElem? (i := 1917) (by decide +kernel)⟩
theorem lw_p98 : lw_okq (⟨"CoastLightsModel", "tries", "()V"⟩, 53) := ⟨⟨by decide +kernel, by decide +kernel⟩, List.mem_of_getElem? (i := 1390) (by decide +kernel), List.mem_of_getElem? (i := 1936) (by decide +kernel), List.mem_of_getElem? (i := 1937) (by decide +kernel)⟩
theorem lw_p99 : lw_okq (⟨"CoastLightsModel", "back", "()V"⟩, 53) := ⟨⟨by decide +kernel, by decide +kernel⟩, List.mem_of_getElem? (i := 1390) (by decide +kernel), List.mem_of_getElem? (i := 1940) (by decide +kernel), List.mem_of_getElem? (i := 1941) (by decide +kernel)⟩
theorem lw_p100 : lw_okq (⟨"CoastLightsModel", "spells", "(J)V"⟩, 53) := ⟨⟨by decide +kernel, by decide +kernel⟩, List.mem_of_getElem? (i := 1390) (by decide +kernel), List.mem_of_getElem? (i := 1952) (by decide +kernel), List.mem_of_getElem? (i := 1953) (by decide +kernel)⟩
theorem lw_p101 : lw_okq (⟨"CoastLightsModel", "lays", "(I)V"⟩, 53) := ⟨⟨by decide +kernel, by decide +kernel⟩, List.mem_of_getElem? (i := 1390) (by decide +kernel), List.mem_of_getElem? (i := 1957) (by decide +kernel), List.mem_of_getElem? (i := 1958) (by decide +kernel)⟩
theorem lw_p102 : lw_okq (⟨"CoastLightsModel", "says", "(J)V"⟩, 53) := ⟨⟨by decide +kernel, by decide +kernel⟩, List.mem_of_getElem? (i := 1390) (by decide +kernel), List.mem_of_getElem? (i := 1962) (by decide +kernel), List.mem_of_getElem? (i := 1963) (by decide +kernel)⟩
theorem lw_p103 : lw_okq (⟨"CoastLightsModel", "twoDigits", "(I)V"⟩, 53) := ⟨⟨by decide +kernel, by decide +kernel⟩, List.mem_of_getElem? (i := 1390) (by decide +kernel), List.mem_of_getElem? (i := 1966) (by decide +kernel), List.mem_of_getElem? (i := 1967) (by decide +kernel)⟩
theorem lw_p104 : lw_okq (⟨"CoastLightsModel", "draws", "(II)I"⟩, 53) := ⟨⟨by decide +kernel, by decide +kernel⟩, List.mem_of_getElem? (i := 1390) (by decide +kernel), List.mem_of_getElem? (i := 1979) (by decide +kernel), List.mem_of_getElem? (i := 1980) (by decide +kernel)⟩
theorem lw_p105 : lw_okq (⟨"CoastLightsModel", "drawSecond", "()V"⟩, 53) := ⟨⟨by decide +kernel, by decide +kernel⟩, List.mem_of_getElem? (i := 1390) (by decide +kernel), List.mem_of_getElem? (i := 1983) (by decide +kernel), List.mem_of_getElem? (i := 1984) (by decide +kernel)⟩
theorem lw_p106 : lw_okq (⟨"CoastLightsModel", "draw", "(I)I"⟩, 53) := ⟨⟨by decide +kernel, by decide +kernel⟩, List.mem_of_getElem? (i := 1390) (by decide +kernel), List.mem_of_getElem? (i := 1987) (by decide +kernel), List.mem_of_getElem? (i := 1988) (by decide +kernel)⟩
theorem lw_p107 : lw_okq (⟨"CoastLightsModel", "bookLine", "()Z"⟩, 53) := ⟨⟨by decide +kernel, by decide +kernel⟩, List.mem_of_getElem? (i := 1390) (by decide +kernel), List.mem_of_getElem? (i := 2000) (by decide +kernel), List.mem_of_getElem? (i := 2001) (by decide +kernel)⟩
theorem lw_p108 : lw_okq (⟨"CoastLightsModel", "does", "(III)I"⟩, 53) := ⟨⟨by decide +kernel, by decide +kernel⟩, List.mem_of_getElem? (i := 1390) (by decide +kernel), List.mem_of_getElem? (i := 2004) (by decide +kernel), List.mem_of_getElem? (i := 2005) (by decide +kernel)⟩
theorem lw_p109 : lw_okq (⟨"CoastLightsModel", "nots", "()V"⟩, 53) := ⟨⟨by decide +kernel, by decide +kernel⟩, List.mem_of_getElem? (i := 1390) (by decide +kernel), List.mem_of_getElem? (i := 2016) (by decide +kernel), List.mem_of_getElem? (i := 2017) (by decide +kernel)⟩
theorem lw_p110 : lw_okq (⟨"CoastLightsModel", "code", "(III)V"⟩, 53) := ⟨⟨by decide +kernel, by decide +kernel⟩, List.mem_of_getElem? (i := 1390) (by decide +kernel), List.mem_of_getElem? (i := 2020) (by decide +kernel), List.mem_of_getElem? (i := 2021) (by decide +kernel)⟩
theorem lw_p111 : lw_okq (⟨"CoastLightsModel", "joins", "(I)V"⟩, 53) := ⟨⟨by decide +kernel, by decide +kernel⟩, List.mem_of_getElem? (i := 1390) (by decide +kernel), List.mem_of_getElem? (i := 2024) (by decide +kernel), List.mem_of_getElem? (i := 2025) (by decide +kernel)⟩
def lw_privs_7 : List (MethodName × Nat) := [(⟨"CoastLightsModel", "leftBy", "(II)I"⟩, 53), (⟨"CoastLightsModel", "octantFrom", "(III)I"⟩, 53), (⟨"CoastLightsModel", "tries", "()V"⟩, 53), (⟨"CoastLightsModel", "back", "()V"⟩, 53), (⟨"CoastLightsModel", "spells", "(J)V"⟩, 53), (⟨"CoastLightsModel", "lays", "(I)V"⟩, 53), (⟨"CoastLightsModel", "says", "(J)V"⟩, 53), (⟨"CoastLightsModel", "twoDigits", "(I)V"⟩, 53), (⟨"CoastLightsModel", "draws", "(II)I"⟩, 53), (⟨"CoastLightsModel", "drawSecond", "()V"⟩, 53), (⟨"CoastLightsModel", "draw", "(I)I"⟩, 53), (⟨"CoastLightsModel", "bookLine", "()Z"⟩, 53), (⟨"CoastLightsModel", "does", "(III)I"⟩, 53), (⟨"CoastLightsModel", "nots", "()V"⟩, 53), (⟨"CoastLightsModel", "code", "(III)V"⟩, 53), (⟨"CoastLightsModel", "joins", "(I)V"⟩, 53)]
theorem lw_r7 : ∀ q ∈ lw_privs_7, lw_okq q := List.forall_mem_cons.mpr ⟨lw_p96, List.forall_mem_cons.mpr ⟨lw_p97, List.forall_mem_cons.mpr ⟨lw_p98, List.forall_mem_cons.mpr ⟨lw_p99, List.forall_mem_cons.mpr ⟨lw_p100, List.forall_mem_cons.mpr ⟨lw_p101, List.forall_mem_cons.mpr ⟨lw_p102, List.forall_mem_cons.mpr ⟨lw_p103, List.forall_mem_cons.mpr ⟨lw_p104, List.forall_mem_cons.mpr ⟨lw_p105, List.forall_mem_cons.mpr ⟨lw_p106, List.forall_mem_cons.mpr ⟨lw_p107, List.forall_mem_cons.mpr ⟨lw_p108, List.forall_mem_cons.mpr ⟨lw_p109, List.forall_mem_cons.mpr ⟨lw_p110, List.forall_mem_cons.mpr ⟨lw_p111, fun _ h => absurd h List.not_mem_nil⟩⟩⟩⟩⟩⟩⟩⟩⟩⟩⟩⟩⟩⟩⟩⟩
theorem lw_p112 : lw_okq (⟨"CoastLightsModel", "behind", "()Z"⟩, 53) := ⟨⟨by decide +kernel, by decide +kernel⟩, List.mem_of_getElem? (i := 1390) (by decide +kernel), List.mem_of_getElem? (i := 2028) (by decide +kernel), List.mem_of_getElem? (i := 2029) (by decide +kernel)⟩
theorem lw_p113 : lw_okq (⟨"CoastLightsModel", "operand", "()Z"⟩, 53) := ⟨⟨by decide +kernel, by decide +kernel⟩, List.mem_of_getElem? (i := 1390) (by decide +kernel), List.mem_of_getElem? (i := 2032) (by decide +kernel), List.mem_of_getElem? (i := 2033) (by decide +kernel)⟩
theorem lw_p114 : lw_okq (⟨"CoastLightsModel", "leafOf", "()I"⟩, 53) := ⟨⟨by decide +kernel, by decide +kernel⟩, List.mem_of_getElem? (i := 1390) (by decide +kernel), List.mem_of_getElem? (i := 2036) (by decide +kernel), List.mem_of_getElem? (i := 2037) (by decide +kernel)⟩
theorem lw_p115 : lw_okq (⟨"CoastLightsModel", "isSaid", "(I)Z"⟩, 53) := ⟨⟨by decide +kernel, by decide +kernel⟩, List.mem_of_getElem? (i := 1390) (by decide +kernel), List.mem_of_getElem? (i := 2044) (by decide +kernel), List.mem_of_getElem? (i := 2045) (by decide +kernel)⟩
theorem lw_p116 : lw_okq (⟨"CoastLightsModel", "isLeaf", "(IIII)Z"⟩, 53) := ⟨⟨by decide +kernel, by decide +kernel⟩, List.mem_of_getElem? (i := 1390) (by decide +kernel), List.mem_of_getElem? (i := 2048) (by decide +kernel), List.mem_of_getElem? (i := 2049) (by decide +kernel)⟩
def lw_privs_8 : List (MethodName × Nat) := [(⟨"CoastLightsModel", "behind", "()Z"⟩, 53), (⟨"CoastLightsModel", "operand", "()Z"⟩, 53), (⟨"CoastLightsModel", "leafOf", "()I"⟩, 53), (⟨"CoastLightsModel", "isSaid", "(I)Z"⟩, 53), (⟨"CoastLightsModel", "isLeaf", "(IIII)Z"⟩, 53)]
theorem lw_r8 : ∀ q ∈ lw_privs_8, lw_okq q := List.forall_mem_cons.mpr ⟨lw_p112, List.forall_mem_cons.mpr ⟨lw_p113, List.forall_mem_cons.mpr ⟨lw_p114, List.forall_mem_cons.mpr ⟨lw_p115, List.forall_mem_cons.mpr ⟨lw_p116, fun _ h => absurd h List.not_mem_nil⟩⟩⟩⟩⟩
def lw_privs : List (MethodName × Nat) := lw_privs_1 ++ (lw_privs_2 ++ (lw_privs_3 ++ (lw_privs_4 ++ (lw_privs_5 ++ (lw_privs_6 ++ (lw_privs_7 ++ (lw_privs_8)))))))
def lw_tbl : List Cond := k2_sels lw_privs ++ tables_1
theorem lw_privs_ok : ∀ q ∈ lw_privs, lw_okq q := by
  show ∀ q ∈ lw_privs_1 ++ (lw_privs_2 ++ (lw_privs_3 ++ (lw_privs_4 ++ (lw_privs_5 ++ (lw_privs_6 ++ (lw_privs_7 ++ (lw_privs_8))))))), lw_okq q
  exact List.forall_mem_append.mpr ⟨lw_r1, List.forall_mem_append.mpr ⟨lw_r2, List.forall_mem_append.mpr ⟨lw_r3, List.forall_mem_append.mpr ⟨lw_r4, List.forall_mem_append.mpr ⟨lw_r5, List.forall_mem_append.mpr ⟨lw_r6, List.forall_mem_append.mpr ⟨lw_r7, lw_r8⟩⟩⟩⟩⟩⟩⟩

def RX0 : String := "CoastLights$Book"
def TX0 : u_T := fun k => match k with
  | 0 => ("CoastLights$Book", "what", "[I", true)
  | 1 => ("CoastLights$Book", "whom", "[I", true)
  | 2 => ("CoastLights$Book", "amount", "[I", true)
  | 3 => ("CoastLights$Book", "lines", "I", false)
  | 4 => ("CoastLights$Book", "lived", "I", false)
  | _ => ("CoastLights$Book", "wrong", "I", false)
def tyX0 : Nat → FieldType := fun k => match k with
  | 0 => .array .int
  | 1 => .array .int
  | 2 => .array .int
  | 3 => .int
  | 4 => .int
  | _ => .int
abbrev wsX00 : List Cond := u_ws RX0 TX0 6
theorem nmX0 : ∀ a, a < 6 → ∀ b, b < 6 → a ≠ b → (TX0 a).2.1 ≠ (TX0 b).2.1 := by decide +kernel
theorem tyX0_ok : ∀ k, k < 6 → parseFieldDescriptor (TX0 k).2.2.1 = some (tyX0 k) := by decide +kernel
abbrev cX0_init : ByteArray := prog_2_method_1_code
def yX0_init : MethodName := ⟨RX0, "<init>", "()V"⟩
abbrev cX0_read : ByteArray := prog_2_method_2_code
def yX0_read : MethodName := ⟨RX0, "read", "(LCoastLights$Tokens;LCoastLights$Chart;)Z"⟩
abbrev cX0_readLine : ByteArray := prog_2_method_3_code
def yX0_readLine : MethodName := ⟨RX0, "readLine", "(LCoastLights$Tokens;LCoastLights$Chart;)Z"⟩
abbrev cX0_kindAt : ByteArray := prog_2_method_4_code
def yX0_kindAt : MethodName := ⟨RX0, "kindAt", "(LCoastLights$Tokens;)I"⟩
abbrev cX0_readWhom : ByteArray := prog_2_method_5_code
def yX0_readWhom : MethodName := ⟨RX0, "readWhom", "(LCoastLights$Tokens;LCoastLights$Chart;I)Z"⟩
abbrev cX0_readAmount : ByteArray := prog_2_method_6_code
def yX0_readAmount : MethodName := ⟨RX0, "readAmount", "(LCoastLights$Tokens;I)Z"⟩
abbrev cX0_live : ByteArray := prog_2_method_7_code
def yX0_live : MethodName := ⟨RX0, "live", "(LCoastLights$Scene;)V"⟩
abbrev cX0_liveLine : ByteArray := prog_2_method_8_code
def yX0_liveLine : MethodName := ⟨RX0, "liveLine", "(LCoastLights$Scene;I)I"⟩
abbrev cX0_whyWrong : ByteArray := prog_2_method_9_code
def yX0_whyWrong : MethodName := ⟨RX0, "whyWrong", "(II)I"⟩
def RX1 : String := "CoastLights$Chart"
def TX1 : u_T := fun k => match k with
  | 0 => ("CoastLights$Chart", "lights", "[LCoastLights$Light;", true)
  | 1 => ("CoastLights$Chart", "ships", "[LCoastLights$Ship;", true)
  | 2 => ("CoastLights$Chart", "lightCount", "I", false)
  | 3 => ("CoastLights$Chart", "shipCount", "I", false)
  | 4 => ("CoastLights$Chart", "hazeTold", "I", false)
  | 5 => ("CoastLights$Chart", "lines", "I", false)
  | _ => ("CoastLights$Chart", "hazeCame", "Z", false)
def tyX1 : Nat → FieldType := fun k => match k with
  | 0 => .array (.object "CoastLights$Light")
  | 1 => .array (.object "CoastLights$Ship")
  | 2 => .int
  | 3 => .int
  | 4 => .int
  | 5 => .int
  | _ => .boolean
abbrev wsX10 : List Cond := u_ws RX1 TX1 7
theorem nmX1 : ∀ a, a < 7 → ∀ b, b < 7 → a ≠ b → (TX1 a).2.1 ≠ (TX1 b).2.1 := by decide +kernel
theorem tyX1_ok : ∀ k, k < 7 → parseFieldDescriptor (TX1 k).2.2.1 = some (tyX1 k) := by decide +kernel
abbrev cX1_init : ByteArray := prog_3_method_1_code
def yX1_init : MethodName := ⟨RX1, "<init>", "()V"⟩
abbrev cX1_copyFrom : ByteArray := prog_3_method_2_code
def yX1_copyFrom : MethodName := ⟨RX1, "copyFrom", "(LCoastLights$Chart;)V"⟩
abbrev cX1_allLights : ByteArray := prog_3_method_3_code
def yX1_allLights : MethodName := ⟨RX1, "allLights", "()I"⟩
abbrev cX1_fixedLights : ByteArray := prog_3_method_4_code
def yX1_fixedLights : MethodName := ⟨RX1, "fixedLights", "()I"⟩
abbrev cX1_compareLights : ByteArray := prog_3_method_5_code
def yX1_compareLights : MethodName := ⟨RX1, "compareLights", "()V"⟩
abbrev cX1_comparePair : ByteArray := prog_3_method_6_code
def yX1_comparePair : MethodName := ⟨RX1, "comparePair", "(II)V"⟩
abbrev cX1_pairsConfused : ByteArray := prog_3_method_7_code
def yX1_pairsConfused : MethodName := ⟨RX1, "pairsConfused", "()I"⟩
abbrev cX1_fewestChanged : ByteArray := prog_3_method_8_code
def yX1_fewestChanged : MethodName := ⟨RX1, "fewestChanged", "()I"⟩
abbrev cX1_endsAllConfusion : ByteArray := prog_3_method_9_code
def yX1_endsAllConfusion : MethodName := ⟨RX1, "endsAllConfusion", "(I)Z"⟩
abbrev cX1_read : ByteArray := prog_3_method_10_code
def yX1_read : MethodName := ⟨RX1, "read", "(LCoastLights$Tokens;)Z"⟩
abbrev cX1_readLine : ByteArray := prog_3_method_11_code
def yX1_readLine : MethodName := ⟨RX1, "readLine", "(LCoastLights$Tokens;)Z"⟩
abbrev cX1_readLight : ByteArray := prog_3_method_12_code
def yX1_readLight : MethodName := ⟨RX1, "readLight", "(LCoastLights$Tokens;)Z"⟩
abbrev cX1_colourAt : ByteArray := prog_3_method_13_code
def yX1_colourAt : MethodName := ⟨RX1, "colourAt", "(LCoastLights$Tokens;)I"⟩
abbrev cX1_readFlash : ByteArray := prog_3_method_14_code
def yX1_readFlash : MethodName := ⟨RX1, "readFlash", "(LCoastLights$Tokens;)Z"⟩
abbrev cX1_readFrom : ByteArray := prog_3_method_15_code
def yX1_readFrom : MethodName := ⟨RX1, "readFrom", "(LCoastLights$Tokens;)Z"⟩
abbrev cX1_readDark : ByteArray := prog_3_method_16_code
def yX1_readDark : MethodName := ⟨RX1, "readDark", "(LCoastLights$Tokens;)Z"⟩
abbrev cX1_readShip : ByteArray := prog_3_method_17_code
def yX1_readShip : MethodName := ⟨RX1, "readShip", "(LCoastLights$Tokens;)Z"⟩
abbrev cX1_readHaze : ByteArray := prog_3_method_18_code
def yX1_readHaze : MethodName := ⟨RX1, "readHaze", "(LCoastLights$Tokens;)Z"⟩
abbrev cX1_atNewName : ByteArray := prog_3_method_19_code
def yX1_atNewName : MethodName := ⟨RX1, "atNewName", "(LCoastLights$Tokens;)Z"⟩
abbrev cX1_lightAt : ByteArray := prog_3_method_20_code
def yX1_lightAt : MethodName := ⟨RX1, "lightAt", "(LCoastLights$Tokens;)I"⟩
abbrev cX1_shipAt : ByteArray := prog_3_method_21_code
def yX1_shipAt : MethodName := ⟨RX1, "shipAt", "(LCoastLights$Tokens;)I"⟩
abbrev cX1_lightNamed : ByteArray := prog_3_method_22_code
def yX1_lightNamed : MethodName := ⟨RX1, "lightNamed", "(J)I"⟩
abbrev cX1_shipNamed : ByteArray := prog_3_method_23_code
def yX1_shipNamed : MethodName := ⟨RX1, "shipNamed", "(J)I"⟩
def RX2 : String := "CoastLights$Draws"
def TX2 : u_T := fun k => match k with
  | _ => ("CoastLights$Draws", "x", "I", false)
def tyX2 : Nat → FieldType := fun k => match k with
  | _ => .int
abbrev wsX20 : List Cond := u_ws RX2 TX2 1
theorem nmX2 : ∀ a, a < 1 → ∀ b, b < 1 → a ≠ b → (TX2 a).2.1 ≠ (TX2 b).2.1 := by decide +kernel
theorem tyX2_ok : ∀ k, k < 1 → parseFieldDescriptor (TX2 k).2.2.1 = some (tyX2 k) := by decide +kernel
abbrev cX2_init : ByteArray := prog_4_method_1_code
def yX2_init : MethodName := ⟨RX2, "<init>", "()V"⟩
abbrev cX2_begin : ByteArray := prog_4_method_2_code
def yX2_begin : MethodName := ⟨RX2, "begin", "(I)V"⟩
abbrev cX2_liveSeconds : ByteArray := prog_4_method_3_code
def yX2_liveSeconds : MethodName := ⟨RX2, "liveSeconds", "(LCoastLights$Scene;I)I"⟩
abbrev cX2_draw : ByteArray := prog_4_method_4_code
def yX2_draw : MethodName := ⟨RX2, "draw", "(I)I"⟩
abbrev cX2_act : ByteArray := prog_4_method_5_code
def yX2_act : MethodName := ⟨RX2, "act", "(LCoastLights$Scene;)V"⟩
abbrev cX2_douseOrKindle : ByteArray := prog_4_method_6_code
def yX2_douseOrKindle : MethodName := ⟨RX2, "douseOrKindle", "(LCoastLights$Scene;I)V"⟩
def RX3 : String := "CoastLights$Image"
def TX3 : u_T := fun k => match k with
  | 0 => ("CoastLights$Image", "map", "LCoastLights$Chart;", true)
  | 1 => ("CoastLights$Image", "scene", "LCoastLights$Scene;", true)
  | 2 => ("CoastLights$Image", "speech", "LCoastLights$Sentence;", true)
  | _ => ("CoastLights$Image", "kept", "Z", false)
def tyX3 : Nat → FieldType := fun k => match k with
  | 0 => .object "CoastLights$Chart"
  | 1 => .object "CoastLights$Scene"
  | 2 => .object "CoastLights$Sentence"
  | _ => .boolean
abbrev wsX30 : List Cond := u_ws RX3 TX3 4
theorem nmX3 : ∀ a, a < 4 → ∀ b, b < 4 → a ≠ b → (TX3 a).2.1 ≠ (TX3 b).2.1 := by decide +kernel
theorem tyX3_ok : ∀ k, k < 4 → parseFieldDescriptor (TX3 k).2.2.1 = some (tyX3 k) := by decide +kernel
abbrev cX3_init : ByteArray := prog_5_method_1_code
def yX3_init : MethodName := ⟨RX3, "<init>", "(LCoastLights$Chart;)V"⟩
def RX4 : String := "CoastLights$Light"
def TX4 : u_T := fun k => match k with
  | 0 => ("CoastLights$Light", "name", "J", false)
  | 1 => ("CoastLights$Light", "x", "I", false)
  | 2 => ("CoastLights$Light", "y", "I", false)
  | 3 => ("CoastLights$Light", "range", "I", false)
  | 4 => ("CoastLights$Light", "colour", "I", false)
  | 5 => ("CoastLights$Light", "oil", "I", false)
  | 6 => ("CoastLights$Light", "shift", "I", false)
  | 7 => ("CoastLights$Light", "shiftTold", "Z", false)
  | 8 => ("CoastLights$Light", "dark", "I", false)
  | 9 => ("CoastLights$Light", "flashes", "I", false)
  | 10 => ("CoastLights$Light", "period", "I", false)
  | 11 => ("CoastLights$Light", "row", "[Z", true)
  | 12 => ("CoastLights$Light", "alike", "I", false)
  | _ => ("CoastLights$Light", "confusing", "I", false)
def tyX4 : Nat → FieldType := fun k => match k with
  | 0 => .long
  | 1 => .int
  | 2 => .int
  | 3 => .int
  | 4 => .int
  | 5 => .int
  | 6 => .int
  | 7 => .boolean
  | 8 => .int
  | 9 => .int
  | 10 => .int
  | 11 => .array .boolean
  | 12 => .int
  | _ => .int
abbrev wsX40 : List Cond := u_ws RX4 TX4 14
theorem nmX4 : ∀ a, a < 14 → ∀ b, b < 14 → a ≠ b → (TX4 a).2.1 ≠ (TX4 b).2.1 := by decide +kernel
theorem tyX4_ok : ∀ k, k < 14 → parseFieldDescriptor (TX4 k).2.2.1 = some (tyX4 k) := by decide +kernel
abbrev cX4_init : ByteArray := prog_6_method_1_code
def yX4_init : MethodName := ⟨RX4, "<init>", "()V"⟩
abbrev cX4_begin : ByteArray := prog_6_method_2_code
def yX4_begin : MethodName := ⟨RX4, "begin", "(J)V"⟩
abbrev cX4_copyFrom : ByteArray := prog_6_method_3_code
def yX4_copyFrom : MethodName := ⟨RX4, "copyFrom", "(LCoastLights$Light;)V"⟩
abbrev cX4_addFlash : ByteArray := prog_6_method_4_code
def yX4_addFlash : MethodName := ⟨RX4, "addFlash", "(II)V"⟩
abbrev cX4_addSeconds : ByteArray := prog_6_method_5_code
def yX4_addSeconds : MethodName := ⟨RX4, "addSeconds", "(IZ)V"⟩
abbrev cX4_placeBehind : ByteArray := prog_6_method_6_code
def yX4_placeBehind : MethodName := ⟨RX4, "placeBehind", "(I)I"⟩
abbrev cX4_shownAt : ByteArray := prog_6_method_7_code
def yX4_shownAt : MethodName := ⟨RX4, "shownAt", "(I)I"⟩
abbrev cX4_secondsOn : ByteArray := prog_6_method_8_code
def yX4_secondsOn : MethodName := ⟨RX4, "secondsOn", "()I"⟩
abbrev cX4_sameFor : ByteArray := prog_6_method_9_code
def yX4_sameFor : MethodName := ⟨RX4, "sameFor", "(ILCoastLights$Light;I)I"⟩
abbrev cX4_isAlike : ByteArray := prog_6_method_10_code
def yX4_isAlike : MethodName := ⟨RX4, "isAlike", "(LCoastLights$Light;)Z"⟩
abbrev cX4_hasRowFrom : ByteArray := prog_6_method_11_code
def yX4_hasRowFrom : MethodName := ⟨RX4, "hasRowFrom", "(LCoastLights$Light;I)Z"⟩
abbrev cX4_isVisible : ByteArray := prog_6_method_12_code
def yX4_isVisible : MethodName := ⟨RX4, "isVisible", "(III)Z"⟩
abbrev cX4_isInOneSight : ByteArray := prog_6_method_13_code
def yX4_isInOneSight : MethodName := ⟨RX4, "isInOneSight", "(LCoastLights$Light;)Z"⟩
def RX5 : String := "CoastLights$Past"
def TX5 : u_T := fun k => match k with
  | 0 => ("CoastLights$Past", "scenes", "[LCoastLights$Scene;", true)
  | 1 => ("CoastLights$Past", "top", "I", false)
  | _ => ("CoastLights$Past", "kept", "I", false)
def tyX5 : Nat → FieldType := fun k => match k with
  | 0 => .array (.object "CoastLights$Scene")
  | 1 => .int
  | _ => .int
abbrev wsX50 : List Cond := u_ws RX5 TX5 3
theorem nmX5 : ∀ a, a < 3 → ∀ b, b < 3 → a ≠ b → (TX5 a).2.1 ≠ (TX5 b).2.1 := by decide +kernel
theorem tyX5_ok : ∀ k, k < 3 → parseFieldDescriptor (TX5 k).2.2.1 = some (tyX5 k) := by decide +kernel
abbrev cX5_init : ByteArray := prog_7_method_1_code
def yX5_init : MethodName := ⟨RX5, "<init>", "(LCoastLights$Chart;)V"⟩
abbrev cX5_clear : ByteArray := prog_7_method_2_code
def yX5_clear : MethodName := ⟨RX5, "clear", "()V"⟩
abbrev cX5_mark : ByteArray := prog_7_method_3_code
def yX5_mark : MethodName := ⟨RX5, "mark", "(LCoastLights$Scene;)V"⟩
abbrev cX5_keep : ByteArray := prog_7_method_4_code
def yX5_keep : MethodName := ⟨RX5, "keep", "()V"⟩
abbrev cX5_takeBack : ByteArray := prog_7_method_5_code
def yX5_takeBack : MethodName := ⟨RX5, "takeBack", "(LCoastLights$Scene;)I"⟩
def RX6 : String := "CoastLights$Scene"
def TX6 : u_T := fun k => match k with
  | 0 => ("CoastLights$Scene", "map", "LCoastLights$Chart;", true)
  | 1 => ("CoastLights$Scene", "second", "I", false)
  | 2 => ("CoastLights$Scene", "hazeNow", "I", false)
  | 3 => ("CoastLights$Scene", "out", "I", false)
  | 4 => ("CoastLights$Scene", "oil", "[I", true)
  | 5 => ("CoastLights$Scene", "shiftNow", "[I", true)
  | 6 => ("CoastLights$Scene", "shipX", "[I", true)
  | 7 => ("CoastLights$Scene", "shipY", "[I", true)
  | _ => ("CoastLights$Scene", "course", "[I", true)
def tyX6 : Nat → FieldType := fun k => match k with
  | 0 => .object "CoastLights$Chart"
  | 1 => .int
  | 2 => .int
  | 3 => .int
  | 4 => .array .int
  | 5 => .array .int
  | 6 => .array .int
  | 7 => .array .int
  | _ => .array .int
abbrev wsX60 : List Cond := u_ws RX6 TX6 9
theorem nmX6 : ∀ a, a < 9 → ∀ b, b < 9 → a ≠ b → (TX6 a).2.1 ≠ (TX6 b).2.1 := by decide +kernel
theorem tyX6_ok : ∀ k, k < 9 → parseFieldDescriptor (TX6 k).2.2.1 = some (tyX6 k) := by decide +kernel
abbrev cX6_init : ByteArray := prog_8_method_1_code
def yX6_init : MethodName := ⟨RX6, "<init>", "(LCoastLights$Chart;)V"⟩
abbrev cX6_begin : ByteArray := prog_8_method_2_code
def yX6_begin : MethodName := ⟨RX6, "begin", "()V"⟩
abbrev cX6_copyFrom : ByteArray := prog_8_method_3_code
def yX6_copyFrom : MethodName := ⟨RX6, "copyFrom", "(LCoastLights$Scene;)V"⟩
abbrev cX6_isOut : ByteArray := prog_8_method_4_code
def yX6_isOut : MethodName := ⟨RX6, "isOut", "(I)Z"⟩
abbrev cX6_placeOf : ByteArray := prog_8_method_5_code
def yX6_placeOf : MethodName := ⟨RX6, "placeOf", "(I)I"⟩
abbrev cX6_shines : ByteArray := prog_8_method_6_code
def yX6_shines : MethodName := ⟨RX6, "shines", "(I)Z"⟩
abbrev cX6_shiningOnes : ByteArray := prog_8_method_7_code
def yX6_shiningOnes : MethodName := ⟨RX6, "shiningOnes", "()I"⟩
abbrev cX6_emptyOnes : ByteArray := prog_8_method_8_code
def yX6_emptyOnes : MethodName := ⟨RX6, "emptyOnes", "()I"⟩
abbrev cX6_oilOfAll : ByteArray := prog_8_method_9_code
def yX6_oilOfAll : MethodName := ⟨RX6, "oilOfAll", "()I"⟩
abbrev cX6_visibleFrom : ByteArray := prog_8_method_10_code
def yX6_visibleFrom : MethodName := ⟨RX6, "visibleFrom", "(II)I"⟩
abbrev cX6_seenBy : ByteArray := prog_8_method_11_code
def yX6_seenBy : MethodName := ⟨RX6, "seenBy", "(I)I"⟩
abbrev cX6_putOut : ByteArray := prog_8_method_12_code
def yX6_putOut : MethodName := ⟨RX6, "putOut", "(I)I"⟩
abbrev cX6_relight : ByteArray := prog_8_method_13_code
def yX6_relight : MethodName := ⟨RX6, "relight", "(I)I"⟩
abbrev cX6_pourInto : ByteArray := prog_8_method_14_code
def yX6_pourInto : MethodName := ⟨RX6, "pourInto", "(II)I"⟩
abbrev cX6_moveOn : ByteArray := prog_8_method_15_code
def yX6_moveOn : MethodName := ⟨RX6, "moveOn", "(II)I"⟩
abbrev cX6_turn : ByteArray := prog_8_method_16_code
def yX6_turn : MethodName := ⟨RX6, "turn", "(II)I"⟩
abbrev cX6_setHaze : ByteArray := prog_8_method_17_code
def yX6_setHaze : MethodName := ⟨RX6, "setHaze", "(I)I"⟩
abbrev cX6_pass : ByteArray := prog_8_method_18_code
def yX6_pass : MethodName := ⟨RX6, "pass", "(I)I"⟩
abbrev cX6_passAll : ByteArray := prog_8_method_19_code
def yX6_passAll : MethodName := ⟨RX6, "passAll", "(I)I"⟩
abbrev cX6_passOne : ByteArray := prog_8_method_20_code
def yX6_passOne : MethodName := ⟨RX6, "passOne", "()V"⟩
abbrev cX6_sail : ByteArray := prog_8_method_21_code
def yX6_sail : MethodName := ⟨RX6, "sail", "(I)V"⟩
abbrev cX6_secondsToBurn : ByteArray := prog_8_method_22_code
def yX6_secondsToBurn : MethodName := ⟨RX6, "secondsToBurn", "(I)I"⟩
def RX7 : String := "CoastLights$Sentence"
def TX7 : u_T := fun k => match k with
  | 0 => ("CoastLights$Sentence", "ones", "I", false)
  | 1 => ("CoastLights$Sentence", "steps", "I", false)
  | 2 => ("CoastLights$Sentence", "step", "[I", true)
  | 3 => ("CoastLights$Sentence", "sign", "[I", true)
  | 4 => ("CoastLights$Sentence", "number", "[I", true)
  | _ => ("CoastLights$Sentence", "pile", "[I", true)
def tyX7 : Nat → FieldType := fun k => match k with
  | 0 => .int
  | 1 => .int
  | 2 => .array .int
  | 3 => .array .int
  | 4 => .array .int
  | _ => .array .int
abbrev wsX70 : List Cond := u_ws RX7 TX7 6
theorem nmX7 : ∀ a, a < 6 → ∀ b, b < 6 → a ≠ b → (TX7 a).2.1 ≠ (TX7 b).2.1 := by decide +kernel
theorem tyX7_ok : ∀ k, k < 6 → parseFieldDescriptor (TX7 k).2.2.1 = some (tyX7 k) := by decide +kernel
abbrev cX7_init : ByteArray := prog_9_method_1_code
def yX7_init : MethodName := ⟨RX7, "<init>", "()V"⟩
abbrev cX7_clear : ByteArray := prog_9_method_2_code
def yX7_clear : MethodName := ⟨RX7, "clear", "()V"⟩
abbrev cX7_copyFrom : ByteArray := prog_9_method_3_code
def yX7_copyFrom : MethodName := ⟨RX7, "copyFrom", "(LCoastLights$Sentence;)V"⟩
abbrev cX7_read : ByteArray := prog_9_method_4_code
def yX7_read : MethodName := ⟨RX7, "read", "(LCoastLights$Tokens;LCoastLights$Chart;)Z"⟩
abbrev cX7_readCondition : ByteArray := prog_9_method_5_code
def yX7_readCondition : MethodName := ⟨RX7, "readCondition", "(LCoastLights$Tokens;LCoastLights$Chart;I)Z"⟩
abbrev cX7_readAll : ByteArray := prog_9_method_6_code
def yX7_readAll : MethodName := ⟨RX7, "readAll", "(LCoastLights$Tokens;LCoastLights$Chart;I)Z"⟩
abbrev cX7_readOne : ByteArray := prog_9_method_7_code
def yX7_readOne : MethodName := ⟨RX7, "readOne", "(LCoastLights$Tokens;LCoastLights$Chart;I)Z"⟩
abbrev cX7_kindAt : ByteArray := prog_9_method_8_code
def yX7_kindAt : MethodName := ⟨RX7, "kindAt", "(LCoastLights$Tokens;)I"⟩
abbrev cX7_readPlain : ByteArray := prog_9_method_9_code
def yX7_readPlain : MethodName := ⟨RX7, "readPlain", "(LCoastLights$Tokens;LCoastLights$Chart;I)Z"⟩
abbrev cX7_readNamed : ByteArray := prog_9_method_10_code
def yX7_readNamed : MethodName := ⟨RX7, "readNamed", "(LCoastLights$Tokens;II)Z"⟩
abbrev cX7_readMeasure : ByteArray := prog_9_method_11_code
def yX7_readMeasure : MethodName := ⟨RX7, "readMeasure", "(LCoastLights$Tokens;I)Z"⟩
abbrev cX7_add : ByteArray := prog_9_method_12_code
def yX7_add : MethodName := ⟨RX7, "add", "(III)Z"⟩
abbrev cX7_saidOf : ByteArray := prog_9_method_13_code
def yX7_saidOf : MethodName := ⟨RX7, "saidOf", "(LCoastLights$Scene;)I"⟩
abbrev cX7_plainSet : ByteArray := prog_9_method_14_code
def yX7_plainSet : MethodName := ⟨RX7, "plainSet", "(LCoastLights$Scene;I)I"⟩
abbrev cX7_measuredSet : ByteArray := prog_9_method_15_code
def yX7_measuredSet : MethodName := ⟨RX7, "measuredSet", "(LCoastLights$Scene;I)I"⟩
abbrev cX7_measureOf : ByteArray := prog_9_method_16_code
def yX7_measureOf : MethodName := ⟨RX7, "measureOf", "(LCoastLights$Scene;II)I"⟩
def RX8 : String := "CoastLights$Ship"
def TX8 : u_T := fun k => match k with
  | 0 => ("CoastLights$Ship", "name", "J", false)
  | 1 => ("CoastLights$Ship", "x", "I", false)
  | 2 => ("CoastLights$Ship", "y", "I", false)
  | 3 => ("CoastLights$Ship", "course", "I", false)
  | _ => ("CoastLights$Ship", "every", "I", false)
def tyX8 : Nat → FieldType := fun k => match k with
  | 0 => .long
  | 1 => .int
  | 2 => .int
  | 3 => .int
  | _ => .int
abbrev wsX80 : List Cond := u_ws RX8 TX8 5
theorem nmX8 : ∀ a, a < 5 → ∀ b, b < 5 → a ≠ b → (TX8 a).2.1 ≠ (TX8 b).2.1 := by decide +kernel
theorem tyX8_ok : ∀ k, k < 5 → parseFieldDescriptor (TX8 k).2.2.1 = some (tyX8 k) := by decide +kernel
abbrev cX8_init : ByteArray := prog_10_method_1_code
def yX8_init : MethodName := ⟨RX8, "<init>", "()V"⟩
abbrev cX8_copyFrom : ByteArray := prog_10_method_2_code
def yX8_copyFrom : MethodName := ⟨RX8, "copyFrom", "(LCoastLights$Ship;)V"⟩
def RX9 : String := "CoastLights$Tokens"
def TX9 : u_T := fun k => match k with
  | 0 => ("CoastLights$Tokens", "tape", "[I", true)
  | 1 => ("CoastLights$Tokens", "length", "I", false)
  | 2 => ("CoastLights$Tokens", "kind", "I", false)
  | 3 => ("CoastLights$Tokens", "code", "J", false)
  | 4 => ("CoastLights$Tokens", "value", "I", false)
  | 5 => ("CoastLights$Tokens", "taken", "I", false)
  | 6 => ("CoastLights$Tokens", "fault", "I", false)
  | 7 => ("CoastLights$Tokens", "faultPlace", "I", false)
  | 8 => ("CoastLights$Tokens", "place", "I", false)
  | 9 => ("CoastLights$Tokens", "behind", "I", false)
  | 10 => ("CoastLights$Tokens", "stop", "I", false)
  | _ => ("CoastLights$Tokens", "tooLong", "Z", false)
def tyX9 : Nat → FieldType := fun k => match k with
  | 0 => .array .int
  | 1 => .int
  | 2 => .int
  | 3 => .long
  | 4 => .int
  | 5 => .int
  | 6 => .int
  | 7 => .int
  | 8 => .int
  | 9 => .int
  | 10 => .int
  | _ => .boolean
abbrev wsX90 : List Cond := u_ws RX9 TX9 12
theorem nmX9 : ∀ a, a < 12 → ∀ b, b < 12 → a ≠ b → (TX9 a).2.1 ≠ (TX9 b).2.1 := by decide +kernel
theorem tyX9_ok : ∀ k, k < 12 → parseFieldDescriptor (TX9 k).2.2.1 = some (tyX9 k) := by decide +kernel
abbrev cX9_init : ByteArray := prog_11_method_1_code
def yX9_init : MethodName := ⟨RX9, "<init>", "()V"⟩
abbrev cX9_put : ByteArray := prog_11_method_2_code
def yX9_put : MethodName := ⟨RX9, "put", "(I)V"⟩
abbrev cX9_open : ByteArray := prog_11_method_3_code
def yX9_open : MethodName := ⟨RX9, "open", "(I)V"⟩
abbrev cX9_next : ByteArray := prog_11_method_4_code
def yX9_next : MethodName := ⟨RX9, "next", "()V"⟩
abbrev cX9_refuse : ByteArray := prog_11_method_5_code
def yX9_refuse : MethodName := ⟨RX9, "refuse", "(I)Z"⟩
abbrev cX9_is : ByteArray := prog_11_method_6_code
def yX9_is : MethodName := ⟨RX9, "is", "(LCoastLights$Word;)Z"⟩
abbrev cX9_isSign : ByteArray := prog_11_method_7_code
def yX9_isSign : MethodName := ⟨RX9, "isSign", "(C)Z"⟩
abbrev cX9_isName : ByteArray := prog_11_method_8_code
def yX9_isName : MethodName := ⟨RX9, "isName", "()Z"⟩
abbrev cX9_atNumber : ByteArray := prog_11_method_9_code
def yX9_atNumber : MethodName := ⟨RX9, "atNumber", "(II)Z"⟩
abbrev cX9_takeNumber : ByteArray := prog_11_method_10_code
def yX9_takeNumber : MethodName := ⟨RX9, "takeNumber", "(II)Z"⟩
abbrev cX9_takeSign : ByteArray := prog_11_method_11_code
def yX9_takeSign : MethodName := ⟨RX9, "takeSign", "(C)Z"⟩
abbrev cX9_atEnd : ByteArray := prog_11_method_12_code
def yX9_atEnd : MethodName := ⟨RX9, "atEnd", "()Z"⟩
abbrev cX9_isShownRow : ByteArray := prog_11_method_13_code
def yX9_isShownRow : MethodName := ⟨RX9, "isShownRow", "()Z"⟩
abbrev cX9_leastFit : ByteArray := prog_11_method_14_code
def yX9_leastFit : MethodName := ⟨RX9, "leastFit", "(LCoastLights$Light;)I"⟩
abbrev cX9_fitsFrom : ByteArray := prog_11_method_15_code
def yX9_fitsFrom : MethodName := ⟨RX9, "fitsFrom", "(LCoastLights$Light;I)Z"⟩
abbrev cX9_readRun : ByteArray := prog_11_method_16_code
def yX9_readRun : MethodName := ⟨RX9, "readRun", "()V"⟩
abbrev cX9_readSign : ByteArray := prog_11_method_17_code
def yX9_readSign : MethodName := ⟨RX9, "readSign", "()V"⟩
def RX10 : String := "CoastLights$Word"
def TX10 : u_T := fun k => match k with
  | _ => ("", "", "", false)
def tyX10 : Nat → FieldType := fun k => match k with
  | _ => .int
abbrev wsX100 : List Cond := u_ws RX10 TX10 0
theorem nmX10 : ∀ a, a < 0 → ∀ b, b < 0 → a ≠ b → (TX10 a).2.1 ≠ (TX10 b).2.1 := by decide +kernel
theorem tyX10_ok : ∀ k, k < 0 → parseFieldDescriptor (TX10 k).2.2.1 = some (tyX10 k) := by decide +kernel
abbrev cX10_isReserved : ByteArray := prog_12_method_4_code
def yX10_isReserved : MethodName := ⟨RX10, "isReserved", "(J)Z"⟩
def RX11 : String := "CoastLights"
def TX11 : u_T := fun k => match k with
  | 0 => ("CoastLights", "tokens", "LCoastLights$Tokens;", true)
  | 1 => ("CoastLights", "map", "LCoastLights$Chart;", true)
  | 2 => ("CoastLights", "mapDraft", "LCoastLights$Chart;", true)
  | 3 => ("CoastLights", "scene", "LCoastLights$Scene;", true)
  | 4 => ("CoastLights", "trial", "LCoastLights$Scene;", true)
  | 5 => ("CoastLights", "speech", "LCoastLights$Sentence;", true)
  | 6 => ("CoastLights", "speechDraft", "LCoastLights$Sentence;", true)
  | 7 => ("CoastLights", "acts", "LCoastLights$Book;", true)
  | 8 => ("CoastLights", "past", "LCoastLights$Past;", true)
  | 9 => ("CoastLights", "draws", "LCoastLights$Draws;", true)
  | 10 => ("CoastLights", "images", "[LCoastLights$Image;", true)
  | 11 => ("CoastLights", "fitPlaces", "[I", true)
  | 12 => ("CoastLights", "toldLast", "[I", true)
  | 13 => ("CoastLights", "tagBytes", "[I", true)
  | 14 => ("CoastLights", "tagLength", "I", false)
  | 15 => ("CoastLights", "faultKind", "I", false)
  | 16 => ("CoastLights", "changeSet", "I", false)
  | 17 => ("CoastLights", "askedSecond", "I", false)
  | 18 => ("CoastLights", "spotsFirst", "I", false)
  | _ => ("CoastLights", "fixFirst", "I", false)
def tyX11 : Nat → FieldType := fun k => match k with
  | 0 => .object "CoastLights$Tokens"
  | 1 => .object "CoastLights$Chart"
  | 2 => .object "CoastLights$Chart"
  | 3 => .object "CoastLights$Scene"
  | 4 => .object "CoastLights$Scene"
  | 5 => .object "CoastLights$Sentence"
  | 6 => .object "CoastLights$Sentence"
  | 7 => .object "CoastLights$Book"
  | 8 => .object "CoastLights$Past"
  | 9 => .object "CoastLights$Draws"
  | 10 => .array (.object "CoastLights$Image")
  | 11 => .array .int
  | 12 => .array .int
  | 13 => .array .int
  | 14 => .int
  | 15 => .int
  | 16 => .int
  | 17 => .int
  | 18 => .int
  | _ => .int
abbrev wsX110 : List Cond := u_ws RX11 TX11 20
theorem nmX11 : ∀ a, a < 20 → ∀ b, b < 20 → a ≠ b → (TX11 a).2.1 ≠ (TX11 b).2.1 := by decide +kernel
theorem tyX11_ok : ∀ k, k < 20 → parseFieldDescriptor (TX11 k).2.2.1 = some (tyX11 k) := by decide +kernel
abbrev cX11_init : ByteArray := prog_1_method_1_code
def yX11_init : MethodName := ⟨RX11, "<init>", "()V"⟩
abbrev cX11_feed : ByteArray := prog_1_method_2_code
def yX11_feed : MethodName := ⟨RX11, "feed", "(IIIII)I"⟩
abbrev cX11_end : ByteArray := prog_1_method_3_code
def yX11_end : MethodName := ⟨RX11, "end", "(I)Z"⟩
abbrev cX11_chart : ByteArray := prog_1_method_4_code
def yX11_chart : MethodName := ⟨RX11, "chart", "()I"⟩
abbrev cX11_fault : ByteArray := prog_1_method_5_code
def yX11_fault : MethodName := ⟨RX11, "fault", "()I"⟩
abbrev cX11_light : ByteArray := prog_1_method_6_code
def yX11_light : MethodName := ⟨RX11, "light", "(II)I"⟩
abbrev cX11_character : ByteArray := prog_1_method_7_code
def yX11_character : MethodName := ⟨RX11, "character", "(II)I"⟩
abbrev cX11_ship : ByteArray := prog_1_method_8_code
def yX11_ship : MethodName := ⟨RX11, "ship", "(II)I"⟩
abbrev cX11_visible : ByteArray := prog_1_method_9_code
def yX11_visible : MethodName := ⟨RX11, "visible", "(II)I"⟩
abbrev cX11_now : ByteArray := prog_1_method_10_code
def yX11_now : MethodName := ⟨RX11, "now", "(I)I"⟩
abbrev cX11_douse : ByteArray := prog_1_method_11_code
def yX11_douse : MethodName := ⟨RX11, "douse", "(I)I"⟩
abbrev cX11_kindle : ByteArray := prog_1_method_12_code
def yX11_kindle : MethodName := ⟨RX11, "kindle", "(I)I"⟩
abbrev cX11_fill : ByteArray := prog_1_method_13_code
def yX11_fill : MethodName := ⟨RX11, "fill", "(II)I"⟩
abbrev cX11_shift : ByteArray := prog_1_method_14_code
def yX11_shift : MethodName := ⟨RX11, "shift", "(II)I"⟩
abbrev cX11_steer : ByteArray := prog_1_method_15_code
def yX11_steer : MethodName := ⟨RX11, "steer", "(II)I"⟩
abbrev cX11_haze : ByteArray := prog_1_method_16_code
def yX11_haze : MethodName := ⟨RX11, "haze", "(I)I"⟩
abbrev cX11_seconds : ByteArray := prog_1_method_17_code
def yX11_seconds : MethodName := ⟨RX11, "seconds", "(I)I"⟩
abbrev cX11_undo : ByteArray := prog_1_method_18_code
def yX11_undo : MethodName := ⟨RX11, "undo", "()I"⟩
abbrev cX11_confused : ByteArray := prog_1_method_19_code
def yX11_confused : MethodName := ⟨RX11, "confused", "()I"⟩
abbrev cX11_change : ByteArray := prog_1_method_20_code
def yX11_change : MethodName := ⟨RX11, "change", "()I"⟩
abbrev cX11_changes : ByteArray := prog_1_method_21_code
def yX11_changes : MethodName := ⟨RX11, "changes", "()I"⟩
abbrev cX11_apart : ByteArray := prog_1_method_22_code
def yX11_apart : MethodName := ⟨RX11, "apart", "(II)I"⟩
abbrev cX11_both : ByteArray := prog_1_method_23_code
def yX11_both : MethodName := ⟨RX11, "both", "(II)I"⟩
abbrev cX11_fits : ByteArray := prog_1_method_24_code
def yX11_fits : MethodName := ⟨RX11, "fits", "()I"⟩
abbrev cX11_fitsAt : ByteArray := prog_1_method_25_code
def yX11_fitsAt : MethodName := ⟨RX11, "fitsAt", "(I)I"⟩
abbrev cX11_ask : ByteArray := prog_1_method_26_code
def yX11_ask : MethodName := ⟨RX11, "ask", "()I"⟩
abbrev cX11_spots : ByteArray := prog_1_method_27_code
def yX11_spots : MethodName := ⟨RX11, "spots", "(I)I"⟩
abbrev cX11_spotsAt : ByteArray := prog_1_method_28_code
def yX11_spotsAt : MethodName := ⟨RX11, "spotsAt", "()I"⟩
abbrev cX11_fix : ByteArray := prog_1_method_29_code
def yX11_fix : MethodName := ⟨RX11, "fix", "()I"⟩
abbrev cX11_fixAt : ByteArray := prog_1_method_30_code
def yX11_fixAt : MethodName := ⟨RX11, "fixAt", "()I"⟩
abbrev cX11_most : ByteArray := prog_1_method_31_code
def yX11_most : MethodName := ⟨RX11, "most", "()I"⟩
abbrev cX11_burn : ByteArray := prog_1_method_32_code
def yX11_burn : MethodName := ⟨RX11, "burn", "(I)I"⟩
abbrev cX11_waits : ByteArray := prog_1_method_33_code
def yX11_waits : MethodName := ⟨RX11, "waits", "(I)I"⟩
abbrev cX11_mean : ByteArray := prog_1_method_34_code
def yX11_mean : MethodName := ⟨RX11, "mean", "(I)I"⟩
abbrev cX11_tag : ByteArray := prog_1_method_35_code
def yX11_tag : MethodName := ⟨RX11, "tag", "(I)I"⟩
abbrev cX11_byteAt : ByteArray := prog_1_method_36_code
def yX11_byteAt : MethodName := ⟨RX11, "byteAt", "(I)I"⟩
abbrev cX11_drawn : ByteArray := prog_1_method_37_code
def yX11_drawn : MethodName := ⟨RX11, "drawn", "(II)I"⟩
abbrev cX11_odds : ByteArray := prog_1_method_38_code
def yX11_odds : MethodName := ⟨RX11, "odds", "(III)I"⟩
abbrev cX11_book : ByteArray := prog_1_method_39_code
def yX11_book : MethodName := ⟨RX11, "book", "(I)I"⟩
abbrev cX11_told : ByteArray := prog_1_method_40_code
def yX11_told : MethodName := ⟨RX11, "told", "(I)I"⟩
abbrev cX11_sentence : ByteArray := prog_1_method_41_code
def yX11_sentence : MethodName := ⟨RX11, "sentence", "()I"⟩
abbrev cX11_said : ByteArray := prog_1_method_42_code
def yX11_said : MethodName := ⟨RX11, "said", "(I)I"⟩
abbrev cX11_image : ByteArray := prog_1_method_43_code
def yX11_image : MethodName := ⟨RX11, "image", "(I)Z"⟩
abbrev cX11_restore : ByteArray := prog_1_method_44_code
def yX11_restore : MethodName := ⟨RX11, "restore", "(I)Z"⟩
abbrev cX11_count : ByteArray := prog_1_method_45_code
def yX11_count : MethodName := ⟨RX11, "count", "(I)I"⟩
abbrev cX11_isLight : ByteArray := prog_1_method_46_code
def yX11_isLight : MethodName := ⟨RX11, "isLight", "(I)Z"⟩
abbrev cX11_isShip : ByteArray := prog_1_method_47_code
def yX11_isShip : MethodName := ⟨RX11, "isShip", "(I)Z"⟩
abbrev cX11_isCell : ByteArray := prog_1_method_48_code
def yX11_isCell : MethodName := ⟨RX11, "isCell", "(II)Z"⟩
abbrev cX11_remainder : ByteArray := prog_1_method_49_code
def yX11_remainder : MethodName := ⟨RX11, "remainder", "(II)I"⟩
abbrev cX11_octantOf : ByteArray := prog_1_method_50_code
def yX11_octantOf : MethodName := ⟨RX11, "octantOf", "(II)I"⟩
abbrev cX11_memberAt : ByteArray := prog_1_method_51_code
def yX11_memberAt : MethodName := ⟨RX11, "memberAt", "(II)I"⟩
abbrev cX11_closeText : ByteArray := prog_1_method_52_code
def yX11_closeText : MethodName := ⟨RX11, "closeText", "()V"⟩
abbrev cX11_keepIfDone : ByteArray := prog_1_method_53_code
def yX11_keepIfDone : MethodName := ⟨RX11, "keepIfDone", "(I)I"⟩
abbrev cX11_keepIfAny : ByteArray := prog_1_method_54_code
def yX11_keepIfAny : MethodName := ⟨RX11, "keepIfAny", "(I)I"⟩
abbrev cX11_fittingLights : ByteArray := prog_1_method_55_code
def yX11_fittingLights : MethodName := ⟨RX11, "fittingLights", "()I"⟩
abbrev cX11_keepFits : ByteArray := prog_1_method_56_code
def yX11_keepFits : MethodName := ⟨RX11, "keepFits", "(I)V"⟩
abbrev cX11_mostLeft : ByteArray := prog_1_method_57_code
def yX11_mostLeft : MethodName := ⟨RX11, "mostLeft", "(I)I"⟩
abbrev cX11_isFixTape : ByteArray := prog_1_method_58_code
def yX11_isFixTape : MethodName := ⟨RX11, "isFixTape", "()Z"⟩
abbrev cX11_liesAsTaped : ByteArray := prog_1_method_59_code
def yX11_liesAsTaped : MethodName := ⟨RX11, "liesAsTaped", "(II)Z"⟩
abbrev cX11_tagByte : ByteArray := prog_1_method_60_code
def yX11_tagByte : MethodName := ⟨RX11, "tagByte", "(I)V"⟩
abbrev cX11_tagText : ByteArray := prog_1_method_61_code
def yX11_tagText : MethodName := ⟨RX11, "tagText", "(Ljava/lang/String;)V"⟩
abbrev cX11_tagWord : ByteArray := prog_1_method_62_code
def yX11_tagWord : MethodName := ⟨RX11, "tagWord", "(J)V"⟩
abbrev cX11_tagNumber : ByteArray := prog_1_method_63_code
def yX11_tagNumber : MethodName := ⟨RX11, "tagNumber", "(I)V"⟩
def RX12 : String := "CoastLightsModel"
def TX12 : u_T := fun k => match k with
  | 0 => ("CoastLightsModel", "thrown", "I", false)
  | 1 => ("CoastLightsModel", "tape", "[B", true)
  | 2 => ("CoastLightsModel", "length", "I", false)
  | 3 => ("CoastLightsModel", "size", "I", false)
  | 4 => ("CoastLightsModel", "p", "I", false)
  | 5 => ("CoastLightsModel", "limit", "I", false)
  | 6 => ("CoastLightsModel", "s", "[I", true)
  | 7 => ("CoastLightsModel", "h", "[I", true)
  | 8 => ("CoastLightsModel", "read", "[I", true)
  | 9 => ("CoastLightsModel", "names", "[J", true)
  | 10 => ("CoastLightsModel", "reserved", "[J", true)
  | 11 => ("CoastLightsModel", "token", "I", false)
  | 12 => ("CoastLightsModel", "at", "I", false)
  | 13 => ("CoastLightsModel", "span", "I", false)
  | 14 => ("CoastLightsModel", "number", "I", false)
  | 15 => ("CoastLightsModel", "fault", "I", false)
  | 16 => ("CoastLightsModel", "faultAt", "I", false)
  | 17 => ("CoastLightsModel", "word", "J", false)
  | 18 => ("CoastLightsModel", "got", "I", false)
  | 19 => ("CoastLightsModel", "lines", "I", false)
  | 20 => ("CoastLightsModel", "began", "I", false)
  | 21 => ("CoastLightsModel", "hasHaze", "Z", false)
  | 22 => ("CoastLightsModel", "undone", "[I", true)
  | 23 => ("CoastLightsModel", "before", "[I", true)
  | 24 => ("CoastLightsModel", "undoMany", "I", false)
  | 25 => ("CoastLightsModel", "pairs", "[I", true)
  | 26 => ("CoastLightsModel", "changeSet", "I", false)
  | 27 => ("CoastLightsModel", "hasChange", "Z", false)
  | 28 => ("CoastLightsModel", "still", "[Z", true)
  | 29 => ("CoastLightsModel", "fitAt", "[I", true)
  | 30 => ("CoastLightsModel", "fitSet", "I", false)
  | 31 => ("CoastLightsModel", "fitLights", "I", false)
  | 32 => ("CoastLightsModel", "askBehind", "I", false)
  | 33 => ("CoastLightsModel", "spotFirst", "I", false)
  | 34 => ("CoastLightsModel", "fixFirst", "I", false)
  | 35 => ("CoastLightsModel", "hasSpot", "Z", false)
  | 36 => ("CoastLightsModel", "hasFix", "Z", false)
  | 37 => ("CoastLightsModel", "text", "[B", true)
  | 38 => ("CoastLightsModel", "textMany", "I", false)
  | 39 => ("CoastLightsModel", "seed", "I", false)
  | 40 => ("CoastLightsModel", "toldMany", "I", false)
  | 41 => ("CoastLightsModel", "toldAt", "[I", true)
  | 42 => ("CoastLightsModel", "hasTold", "Z", false)
  | 43 => ("CoastLightsModel", "stack", "[I", true)
  | 44 => ("CoastLightsModel", "codes", "I", false)
  | 45 => ("CoastLightsModel", "ones", "I", false)
  | 46 => ("CoastLightsModel", "top", "I", false)
  | 47 => ("CoastLightsModel", "deep", "I", false)
  | 48 => ("CoastLightsModel", "isWhole", "Z", false)
  | 49 => ("CoastLightsModel", "truths", "[Z", true)
  | 50 => ("CoastLightsModel", "imaged", "[I", true)
  | 51 => ("CoastLightsModel", "namesKept", "[J", true)
  | _ => ("CoastLightsModel", "areKept", "[Z", true)
def tyX12 : Nat → FieldType := fun k => match k with
  | 0 => .int
  | 1 => .array .byte
  | 2 => .int
  | 3 => .int
  | 4 => .int
  | 5 => .int
  | 6 => .array .int
  | 7 => .array .int
  | 8 => .array .int
  | 9 => .array .long
  | 10 => .array .long
  | 11 => .int
  | 12 => .int
  | 13 => .int
  | 14 => .int
  | 15 => .int
  | 16 => .int
  | 17 => .long
  | 18 => .int
  | 19 => .int
  | 20 => .int
  | 21 => .boolean
  | 22 => .array .int
  | 23 => .array .int
  | 24 => .int
  | 25 => .array .int
  | 26 => .int
  | 27 => .boolean
  | 28 => .array .boolean
  | 29 => .array .int
  | 30 => .int
  | 31 => .int
  | 32 => .int
  | 33 => .int
  | 34 => .int
  | 35 => .boolean
  | 36 => .boolean
  | 37 => .array .byte
  | 38 => .int
  | 39 => .int
  | 40 => .int
  | 41 => .array .int
  | 42 => .boolean
  | 43 => .array .int
  | 44 => .int
  | 45 => .int
  | 46 => .int
  | 47 => .int
  | 48 => .boolean
  | 49 => .array .boolean
  | 50 => .array .int
  | 51 => .array .long
  | _ => .array .boolean
abbrev wsX120 : List Cond := u_ws RX12 TX12 53
theorem nmX12 : ∀ a, a < 53 → ∀ b, b < 53 → a ≠ b → (TX12 a).2.1 ≠ (TX12 b).2.1 := by decide +kernel
theorem tyX12_ok : ∀ k, k < 53 → parseFieldDescriptor (TX12 k).2.2.1 = some (tyX12 k) := by decide +kernel
abbrev cX12_thrown : ByteArray := prog_14_method_1_code
def yX12_thrown : MethodName := ⟨RX12, "thrown", "()I"⟩
abbrev cX12_throwsIf : ByteArray := prog_14_method_2_code
def yX12_throwsIf : MethodName := ⟨RX12, "throwsIf", "(Z)Z"⟩
abbrev cX12_feed : ByteArray := prog_14_method_3_code
def yX12_feed : MethodName := ⟨RX12, "feed", "(IIIII)I"⟩
abbrev cX12_four : ByteArray := prog_14_method_4_code
def yX12_four : MethodName := ⟨RX12, "four", "(I)V"⟩
abbrev cX12_end : ByteArray := prog_14_method_5_code
def yX12_end : MethodName := ⟨RX12, "end", "(I)Z"⟩
abbrev cX12_taken : ByteArray := prog_14_method_6_code
def yX12_taken : MethodName := ⟨RX12, "taken", "(I)V"⟩
abbrev cX12_isIn : ByteArray := prog_14_method_7_code
def yX12_isIn : MethodName := ⟨RX12, "isIn", "(III)Z"⟩
abbrev cX12_bitOf : ByteArray := prog_14_method_8_code
def yX12_bitOf : MethodName := ⟨RX12, "bitOf", "(II)Z"⟩
abbrev cX12_lesser : ByteArray := prog_14_method_9_code
def yX12_lesser : MethodName := ⟨RX12, "lesser", "(II)I"⟩
abbrev cX12_greater : ByteArray := prog_14_method_10_code
def yX12_greater : MethodName := ⟨RX12, "greater", "(II)I"⟩
abbrev cX12_bits : ByteArray := prog_14_method_11_code
def yX12_bits : MethodName := ⟨RX12, "bits", "(I)I"⟩
abbrev cX12_octet : ByteArray := prog_14_method_12_code
def yX12_octet : MethodName := ⟨RX12, "octet", "(I)I"⟩
abbrev cX12_init : ByteArray := prog_14_method_13_code
def yX12_init : MethodName := ⟨RX12, "<init>", "()V"⟩
abbrev cX12_clears : ByteArray := prog_14_method_14_code
def yX12_clears : MethodName := ⟨RX12, "clears", "()V"⟩
abbrev cX12_peek : ByteArray := prog_14_method_15_code
def yX12_peek : MethodName := ⟨RX12, "peek", "()I"⟩
abbrev cX12_isSmall : ByteArray := prog_14_method_16_code
def yX12_isSmall : MethodName := ⟨RX12, "isSmall", "(I)Z"⟩
abbrev cX12_isDigit : ByteArray := prog_14_method_17_code
def yX12_isDigit : MethodName := ⟨RX12, "isDigit", "(I)Z"⟩
abbrev cX12_next : ByteArray := prog_14_method_18_code
def yX12_next : MethodName := ⟨RX12, "next", "()V"⟩
abbrev cX12_bad : ByteArray := prog_14_method_19_code
def yX12_bad : MethodName := ⟨RX12, "bad", "(I)Z"⟩
abbrev cX12_isWord : ByteArray := prog_14_method_20_code
def yX12_isWord : MethodName := ⟨RX12, "isWord", "(J)Z"⟩
abbrev cX12_isSign : ByteArray := prog_14_method_21_code
def yX12_isSign : MethodName := ⟨RX12, "isSign", "(I)Z"⟩
abbrev cX12_sign : ByteArray := prog_14_method_22_code
def yX12_sign : MethodName := ⟨RX12, "sign", "(I)Z"⟩
abbrev cX12_isName : ByteArray := prog_14_method_23_code
def yX12_isName : MethodName := ⟨RX12, "isName", "()Z"⟩
abbrev cX12_takes : ByteArray := prog_14_method_24_code
def yX12_takes : MethodName := ⟨RX12, "takes", "(II)Z"⟩
abbrev cX12_puts : ByteArray := prog_14_method_25_code
def yX12_puts : MethodName := ⟨RX12, "puts", "(III)Z"⟩
abbrev cX12_seek : ByteArray := prog_14_method_26_code
def yX12_seek : MethodName := ⟨RX12, "seek", "(II)I"⟩
abbrev cX12_fresh : ByteArray := prog_14_method_27_code
def yX12_fresh : MethodName := ⟨RX12, "fresh", "(I)Z"⟩
abbrev cX12_looksAt : ByteArray := prog_14_method_28_code
def yX12_looksAt : MethodName := ⟨RX12, "looksAt", "(II)Z"⟩
abbrev cX12_takesName : ByteArray := prog_14_method_29_code
def yX12_takesName : MethodName := ⟨RX12, "takesName", "(II)Z"⟩
abbrev cX12_readLine : ByteArray := prog_14_method_30_code
def yX12_readLine : MethodName := ⟨RX12, "readLine", "()Z"⟩
abbrev cX12_readLight : ByteArray := prog_14_method_31_code
def yX12_readLight : MethodName := ⟨RX12, "readLight", "()Z"⟩
abbrev cX12_readFlash : ByteArray := prog_14_method_32_code
def yX12_readFlash : MethodName := ⟨RX12, "readFlash", "()Z"⟩
abbrev cX12_readFrom : ByteArray := prog_14_method_33_code
def yX12_readFrom : MethodName := ⟨RX12, "readFrom", "()Z"⟩
abbrev cX12_readDark : ByteArray := prog_14_method_34_code
def yX12_readDark : MethodName := ⟨RX12, "readDark", "()Z"⟩
abbrev cX12_readShip : ByteArray := prog_14_method_35_code
def yX12_readShip : MethodName := ⟨RX12, "readShip", "()Z"⟩
abbrev cX12_chart : ByteArray := prog_14_method_36_code
def yX12_chart : MethodName := ⟨RX12, "chart", "()I"⟩
abbrev cX12_fault : ByteArray := prog_14_method_37_code
def yX12_fault : MethodName := ⟨RX12, "fault", "()I"⟩
abbrev cX12_isLight : ByteArray := prog_14_method_38_code
def yX12_isLight : MethodName := ⟨RX12, "isLight", "(I)Z"⟩
abbrev cX12_isShip : ByteArray := prog_14_method_39_code
def yX12_isShip : MethodName := ⟨RX12, "isShip", "(I)Z"⟩
abbrev cX12_periodOf : ByteArray := prog_14_method_40_code
def yX12_periodOf : MethodName := ⟨RX12, "periodOf", "(I)I"⟩
abbrev cX12_isOn : ByteArray := prog_14_method_41_code
def yX12_isOn : MethodName := ⟨RX12, "isOn", "(II)Z"⟩
abbrev cX12_placeIn : ByteArray := prog_14_method_42_code
def yX12_placeIn : MethodName := ⟨RX12, "placeIn", "(II)I"⟩
abbrev cX12_showsAt : ByteArray := prog_14_method_43_code
def yX12_showsAt : MethodName := ⟨RX12, "showsAt", "(II)I"⟩
abbrev cX12_isShining : ByteArray := prog_14_method_44_code
def yX12_isShining : MethodName := ⟨RX12, "isShining", "(I)Z"⟩
abbrev cX12_isAlike : ByteArray := prog_14_method_45_code
def yX12_isAlike : MethodName := ⟨RX12, "isAlike", "(II)Z"⟩
abbrev cX12_alikes : ByteArray := prog_14_method_46_code
def yX12_alikes : MethodName := ⟨RX12, "alikes", "(I)I"⟩
abbrev cX12_octantOf : ByteArray := prog_14_method_47_code
def yX12_octantOf : MethodName := ⟨RX12, "octantOf", "(II)I"⟩
abbrev cX12_octantFrom : ByteArray := prog_14_method_48_code
def yX12_octantFrom : MethodName := ⟨RX12, "octantFrom", "(III)I"⟩
abbrev cX12_isVisibleBy : ByteArray := prog_14_method_49_code
def yX12_isVisibleBy : MethodName := ⟨RX12, "isVisibleBy", "(IIII)Z"⟩
abbrev cX12_visibleFrom : ByteArray := prog_14_method_50_code
def yX12_visibleFrom : MethodName := ⟨RX12, "visibleFrom", "(III)I"⟩
abbrev cX12_shining : ByteArray := prog_14_method_51_code
def yX12_shining : MethodName := ⟨RX12, "shining", "()I"⟩
abbrev cX12_seenBy : ByteArray := prog_14_method_52_code
def yX12_seenBy : MethodName := ⟨RX12, "seenBy", "(I)I"⟩
abbrev cX12_oilInAll : ByteArray := prog_14_method_53_code
def yX12_oilInAll : MethodName := ⟨RX12, "oilInAll", "()I"⟩
abbrev cX12_light : ByteArray := prog_14_method_54_code
def yX12_light : MethodName := ⟨RX12, "light", "(II)I"⟩
abbrev cX12_character : ByteArray := prog_14_method_55_code
def yX12_character : MethodName := ⟨RX12, "character", "(II)I"⟩
abbrev cX12_ship : ByteArray := prog_14_method_56_code
def yX12_ship : MethodName := ⟨RX12, "ship", "(II)I"⟩
abbrev cX12_visible : ByteArray := prog_14_method_57_code
def yX12_visible : MethodName := ⟨RX12, "visible", "(II)I"⟩
abbrev cX12_now : ByteArray := prog_14_method_58_code
def yX12_now : MethodName := ⟨RX12, "now", "(I)I"⟩
abbrev cX12_whyKindle : ByteArray := prog_14_method_59_code
def yX12_whyKindle : MethodName := ⟨RX12, "whyKindle", "(I)I"⟩
abbrev cX12_whyFill : ByteArray := prog_14_method_60_code
def yX12_whyFill : MethodName := ⟨RX12, "whyFill", "(II)I"⟩
abbrev cX12_turns : ByteArray := prog_14_method_61_code
def yX12_turns : MethodName := ⟨RX12, "turns", "(II)V"⟩
abbrev cX12_stepX : ByteArray := prog_14_method_62_code
def yX12_stepX : MethodName := ⟨RX12, "stepX", "(I)I"⟩
abbrev cX12_stepY : ByteArray := prog_14_method_63_code
def yX12_stepY : MethodName := ⟨RX12, "stepY", "(I)I"⟩
abbrev cX12_sails : ByteArray := prog_14_method_64_code
def yX12_sails : MethodName := ⟨RX12, "sails", "(I)V"⟩
abbrev cX12_second : ByteArray := prog_14_method_65_code
def yX12_second : MethodName := ⟨RX12, "second", "()V"⟩
abbrev cX12_goesOn : ByteArray := prog_14_method_66_code
def yX12_goesOn : MethodName := ⟨RX12, "goesOn", "(I)I"⟩
abbrev cX12_douse : ByteArray := prog_14_method_67_code
def yX12_douse : MethodName := ⟨RX12, "douse", "(I)I"⟩
abbrev cX12_kindle : ByteArray := prog_14_method_68_code
def yX12_kindle : MethodName := ⟨RX12, "kindle", "(I)I"⟩
abbrev cX12_fill : ByteArray := prog_14_method_69_code
def yX12_fill : MethodName := ⟨RX12, "fill", "(II)I"⟩
abbrev cX12_shift : ByteArray := prog_14_method_70_code
def yX12_shift : MethodName := ⟨RX12, "shift", "(II)I"⟩
abbrev cX12_steer : ByteArray := prog_14_method_71_code
def yX12_steer : MethodName := ⟨RX12, "steer", "(II)I"⟩
abbrev cX12_haze : ByteArray := prog_14_method_72_code
def yX12_haze : MethodName := ⟨RX12, "haze", "(I)I"⟩
abbrev cX12_seconds : ByteArray := prog_14_method_73_code
def yX12_seconds : MethodName := ⟨RX12, "seconds", "(I)I"⟩
abbrev cX12_stores : ByteArray := prog_14_method_74_code
def yX12_stores : MethodName := ⟨RX12, "stores", "()V"⟩
abbrev cX12_undo : ByteArray := prog_14_method_75_code
def yX12_undo : MethodName := ⟨RX12, "undo", "()I"⟩
abbrev cX12_tries : ByteArray := prog_14_method_76_code
def yX12_tries : MethodName := ⟨RX12, "tries", "()V"⟩
abbrev cX12_back : ByteArray := prog_14_method_77_code
def yX12_back : MethodName := ⟨RX12, "back", "()V"⟩
abbrev cX12_areSeen : ByteArray := prog_14_method_78_code
def yX12_areSeen : MethodName := ⟨RX12, "areSeen", "(II)Z"⟩
abbrev cX12_laysPairs : ByteArray := prog_14_method_79_code
def yX12_laysPairs : MethodName := ⟨RX12, "laysPairs", "()I"⟩
abbrev cX12_confused : ByteArray := prog_14_method_80_code
def yX12_confused : MethodName := ⟨RX12, "confused", "()I"⟩
abbrev cX12_change : ByteArray := prog_14_method_81_code
def yX12_change : MethodName := ⟨RX12, "change", "()I"⟩
abbrev cX12_changes : ByteArray := prog_14_method_82_code
def yX12_changes : MethodName := ⟨RX12, "changes", "()I"⟩
abbrev cX12_apart : ByteArray := prog_14_method_83_code
def yX12_apart : MethodName := ⟨RX12, "apart", "(II)I"⟩
abbrev cX12_both : ByteArray := prog_14_method_84_code
def yX12_both : MethodName := ⟨RX12, "both", "(II)I"⟩
abbrev cX12_fitOf : ByteArray := prog_14_method_85_code
def yX12_fitOf : MethodName := ⟨RX12, "fitOf", "(I)I"⟩
abbrev cX12_leftBy : ByteArray := prog_14_method_86_code
def yX12_leftBy : MethodName := ⟨RX12, "leftBy", "(II)I"⟩
abbrev cX12_fits : ByteArray := prog_14_method_87_code
def yX12_fits : MethodName := ⟨RX12, "fits", "()I"⟩
abbrev cX12_fitsAt : ByteArray := prog_14_method_88_code
def yX12_fitsAt : MethodName := ⟨RX12, "fitsAt", "(I)I"⟩
abbrev cX12_ask : ByteArray := prog_14_method_89_code
def yX12_ask : MethodName := ⟨RX12, "ask", "()I"⟩
abbrev cX12_spots : ByteArray := prog_14_method_90_code
def yX12_spots : MethodName := ⟨RX12, "spots", "(I)I"⟩
abbrev cX12_spotsAt : ByteArray := prog_14_method_91_code
def yX12_spotsAt : MethodName := ⟨RX12, "spotsAt", "()I"⟩
abbrev cX12_fix : ByteArray := prog_14_method_92_code
def yX12_fix : MethodName := ⟨RX12, "fix", "()I"⟩
abbrev cX12_fixAt : ByteArray := prog_14_method_93_code
def yX12_fixAt : MethodName := ⟨RX12, "fixAt", "()I"⟩
abbrev cX12_most : ByteArray := prog_14_method_94_code
def yX12_most : MethodName := ⟨RX12, "most", "()I"⟩
abbrev cX12_burn : ByteArray := prog_14_method_95_code
def yX12_burn : MethodName := ⟨RX12, "burn", "(I)I"⟩
abbrev cX12_waits : ByteArray := prog_14_method_96_code
def yX12_waits : MethodName := ⟨RX12, "waits", "(I)I"⟩
abbrev cX12_mean : ByteArray := prog_14_method_97_code
def yX12_mean : MethodName := ⟨RX12, "mean", "(I)I"⟩
abbrev cX12_lays : ByteArray := prog_14_method_98_code
def yX12_lays : MethodName := ⟨RX12, "lays", "(I)V"⟩
abbrev cX12_spells : ByteArray := prog_14_method_99_code
def yX12_spells : MethodName := ⟨RX12, "spells", "(J)V"⟩
abbrev cX12_says : ByteArray := prog_14_method_100_code
def yX12_says : MethodName := ⟨RX12, "says", "(J)V"⟩
abbrev cX12_twoDigits : ByteArray := prog_14_method_101_code
def yX12_twoDigits : MethodName := ⟨RX12, "twoDigits", "(I)V"⟩
abbrev cX12_tag : ByteArray := prog_14_method_102_code
def yX12_tag : MethodName := ⟨RX12, "tag", "(I)I"⟩
abbrev cX12_byteAt : ByteArray := prog_14_method_103_code
def yX12_byteAt : MethodName := ⟨RX12, "byteAt", "(I)I"⟩
abbrev cX12_draw : ByteArray := prog_14_method_104_code
def yX12_draw : MethodName := ⟨RX12, "draw", "(I)I"⟩
abbrev cX12_drawSecond : ByteArray := prog_14_method_105_code
def yX12_drawSecond : MethodName := ⟨RX12, "drawSecond", "()V"⟩
abbrev cX12_draws : ByteArray := prog_14_method_106_code
def yX12_draws : MethodName := ⟨RX12, "draws", "(II)I"⟩
abbrev cX12_drawn : ByteArray := prog_14_method_107_code
def yX12_drawn : MethodName := ⟨RX12, "drawn", "(II)I"⟩
abbrev cX12_odds : ByteArray := prog_14_method_108_code
def yX12_odds : MethodName := ⟨RX12, "odds", "(III)I"⟩
abbrev cX12_bookLine : ByteArray := prog_14_method_109_code
def yX12_bookLine : MethodName := ⟨RX12, "bookLine", "()Z"⟩
abbrev cX12_does : ByteArray := prog_14_method_110_code
def yX12_does : MethodName := ⟨RX12, "does", "(III)I"⟩
abbrev cX12_book : ByteArray := prog_14_method_111_code
def yX12_book : MethodName := ⟨RX12, "book", "(I)I"⟩
abbrev cX12_told : ByteArray := prog_14_method_112_code
def yX12_told : MethodName := ⟨RX12, "told", "(I)I"⟩
abbrev cX12_code : ByteArray := prog_14_method_113_code
def yX12_code : MethodName := ⟨RX12, "code", "(III)V"⟩
abbrev cX12_joins : ByteArray := prog_14_method_114_code
def yX12_joins : MethodName := ⟨RX12, "joins", "(I)V"⟩
abbrev cX12_nots : ByteArray := prog_14_method_115_code
def yX12_nots : MethodName := ⟨RX12, "nots", "()V"⟩
abbrev cX12_leafOf : ByteArray := prog_14_method_116_code
def yX12_leafOf : MethodName := ⟨RX12, "leafOf", "()I"⟩
abbrev cX12_operand : ByteArray := prog_14_method_117_code
def yX12_operand : MethodName := ⟨RX12, "operand", "()Z"⟩
abbrev cX12_behind : ByteArray := prog_14_method_118_code
def yX12_behind : MethodName := ⟨RX12, "behind", "()Z"⟩
abbrev cX12_sentence : ByteArray := prog_14_method_119_code
def yX12_sentence : MethodName := ⟨RX12, "sentence", "()I"⟩
abbrev cX12_isLeaf : ByteArray := prog_14_method_120_code
def yX12_isLeaf : MethodName := ⟨RX12, "isLeaf", "(IIII)Z"⟩
abbrev cX12_isSaid : ByteArray := prog_14_method_121_code
def yX12_isSaid : MethodName := ⟨RX12, "isSaid", "(I)Z"⟩
abbrev cX12_said : ByteArray := prog_14_method_122_code
def yX12_said : MethodName := ⟨RX12, "said", "(I)I"⟩
abbrev cX12_image : ByteArray := prog_14_method_123_code
def yX12_image : MethodName := ⟨RX12, "image", "(I)Z"⟩
abbrev cX12_restore : ByteArray := prog_14_method_124_code
def yX12_restore : MethodName := ⟨RX12, "restore", "(I)Z"⟩
abbrev cX12_count : ByteArray := prog_14_method_125_code
def yX12_count : MethodName := ⟨RX12, "count", "(I)I"⟩
def RJx145de : String := "java/io/Serializable"
def TJx145de : u_T := fun k => match k with
  | _ => ("", "", "", false)
def tyJx145de : Nat → FieldType := fun k => match k with
  | _ => .int
abbrev wsJx145de0 : List Cond := u_ws RJx145de TJx145de 0
theorem nmJx145de : ∀ a, a < 0 → ∀ b, b < 0 → a ≠ b → (TJx145de a).2.1 ≠ (TJx145de b).2.1 := by decide +kernel
theorem tyJx145de_ok : ∀ k, k < 0 → parseFieldDescriptor (TJx145de k).2.2.1 = some (tyJx145de k) := by decide +kernel
def RJx9f9b0 : String := "java/lang/CharSequence"
def TJx9f9b0 : u_T := fun k => match k with
  | _ => ("", "", "", false)
def tyJx9f9b0 : Nat → FieldType := fun k => match k with
  | _ => .int
abbrev wsJx9f9b00 : List Cond := u_ws RJx9f9b0 TJx9f9b0 0
theorem nmJx9f9b0 : ∀ a, a < 0 → ∀ b, b < 0 → a ≠ b → (TJx9f9b0 a).2.1 ≠ (TJx9f9b0 b).2.1 := by decide +kernel
theorem tyJx9f9b0_ok : ∀ k, k < 0 → parseFieldDescriptor (TJx9f9b0 k).2.2.1 = some (tyJx9f9b0 k) := by decide +kernel
def RJxb160c : String := "java/lang/Comparable"
def TJxb160c : u_T := fun k => match k with
  | _ => ("", "", "", false)
def tyJxb160c : Nat → FieldType := fun k => match k with
  | _ => .int
abbrev wsJxb160c0 : List Cond := u_ws RJxb160c TJxb160c 0
theorem nmJxb160c : ∀ a, a < 0 → ∀ b, b < 0 → a ≠ b → (TJxb160c a).2.1 ≠ (TJxb160c b).2.1 := by decide +kernel
theorem tyJxb160c_ok : ∀ k, k < 0 → parseFieldDescriptor (TJxb160c k).2.2.1 = some (tyJxb160c k) := by decide +kernel
def RJx29ce0 : String := "java/lang/Enum"
def TJx29ce0 : u_T := fun k => match k with
  | _ => ("", "", "", false)
def tyJx29ce0 : Nat → FieldType := fun k => match k with
  | _ => .int
abbrev wsJx29ce00 : List Cond := u_ws RJx29ce0 TJx29ce0 0
theorem nmJx29ce0 : ∀ a, a < 0 → ∀ b, b < 0 → a ≠ b → (TJx29ce0 a).2.1 ≠ (TJx29ce0 b).2.1 := by decide +kernel
theorem tyJx29ce0_ok : ∀ k, k < 0 → parseFieldDescriptor (TJx29ce0 k).2.2.1 = some (tyJx29ce0 k) := by decide +kernel
def RJ6 : String := "java/lang/Integer"
def TJ6 : u_T := fun k => match k with
  | _ => ("", "", "", false)
def tyJ6 : Nat → FieldType := fun k => match k with
  | _ => .int
abbrev wsJ60 : List Cond := u_ws RJ6 TJ6 0
theorem nmJ6 : ∀ a, a < 0 → ∀ b, b < 0 → a ≠ b → (TJ6 a).2.1 ≠ (TJ6 b).2.1 := by decide +kernel
theorem tyJ6_ok : ∀ k, k < 0 → parseFieldDescriptor (TJ6 k).2.2.1 = some (tyJ6 k) := by decide +kernel
abbrev cJ6_bitCount_0f7a4 : ByteArray := prog_20_method_49_code
def yJ6_bitCount_0f7a4 : MethodName := ⟨RJ6, "bitCount", "(I)I"⟩
def RJ9 : String := "java/lang/Math"
def TJ9 : u_T := fun k => match k with
  | _ => ("", "", "", false)
def tyJ9 : Nat → FieldType := fun k => match k with
  | _ => .int
abbrev wsJ90 : List Cond := u_ws RJ9 TJ9 0
theorem nmJ9 : ∀ a, a < 0 → ∀ b, b < 0 → a ≠ b → (TJ9 a).2.1 ≠ (TJ9 b).2.1 := by decide +kernel
theorem tyJ9_ok : ∀ k, k < 0 → parseFieldDescriptor (TJ9 k).2.2.1 = some (tyJ9 k) := by decide +kernel
abbrev cJ9_max_7cf53 : ByteArray := prog_21_method_65_code
def yJ9_max_7cf53 : MethodName := ⟨RJ9, "max", "(II)I"⟩
abbrev cJ9_min_7cf53 : ByteArray := prog_21_method_69_code
def yJ9_min_7cf53 : MethodName := ⟨RJ9, "min", "(II)I"⟩
def RJ0 : String := "java/lang/String"
def TJ0 : u_T := fun k => match k with
  | _ => ("", "", "", false)
def tyJ0 : Nat → FieldType := fun k => match k with
  | _ => .int
abbrev wsJ00 : List Cond := u_ws RJ0 TJ0 0
theorem nmJ0 : ∀ a, a < 0 → ∀ b, b < 0 → a ≠ b → (TJ0 a).2.1 ≠ (TJ0 b).2.1 := by decide +kernel
theorem tyJ0_ok : ∀ k, k < 0 → parseFieldDescriptor (TJ0 k).2.2.1 = some (tyJ0 k) := by decide +kernel
abbrev cJ0_length_8abf5 : ByteArray := prog_23_method_54_code
def yJ0_length_8abf5 : MethodName := ⟨RJ0, "length", "()I"⟩
abbrev cJ0_charAt_5068e : ByteArray := prog_23_method_56_code
def yJ0_charAt_5068e : MethodName := ⟨RJ0, "charAt", "(I)C"⟩
abbrev cJ0_coder_7d493 : ByteArray := prog_23_method_152_code
def yJ0_coder_7d493 : MethodName := ⟨RJ0, "coder", "()B"⟩
abbrev cJ0_isLatin1_aae02 : ByteArray := prog_23_method_154_code
def yJ0_isLatin1_aae02 : MethodName := ⟨RJ0, "isLatin1", "()Z"⟩
abbrev cJ0_checkIndex_df160 : ByteArray := prog_23_method_155_code
def yJ0_checkIndex_df160 : MethodName := ⟨RJ0, "checkIndex", "(II)V"⟩
def RJ1 : String := "java/lang/StringLatin1"
def TJ1 : u_T := fun k => match k with
  | _ => ("", "", "", false)
def tyJ1 : Nat → FieldType := fun k => match k with
  | _ => .int
abbrev wsJ10 : List Cond := u_ws RJ1 TJ1 0
theorem nmJ1 : ∀ a, a < 0 → ∀ b, b < 0 → a ≠ b → (TJ1 a).2.1 ≠ (TJ1 b).2.1 := by decide +kernel
theorem tyJ1_ok : ∀ k, k < 0 → parseFieldDescriptor (TJ1 k).2.2.1 = some (tyJ1 k) := by decide +kernel
abbrev cJ1_charAt_3b067 : ByteArray := prog_24_method_2_code
def yJ1_charAt_3b067 : MethodName := ⟨RJ1, "charAt", "([BI)C"⟩
def RJ2 : String := "java/lang/StringUTF16"
def TJ2 : u_T := fun k => match k with
  | _ => ("", "", "", false)
def tyJ2 : Nat → FieldType := fun k => match k with
  | _ => .int
abbrev wsJ20 : List Cond := u_ws RJ2 TJ2 0
theorem nmJ2 : ∀ a, a < 0 → ∀ b, b < 0 → a ≠ b → (TJ2 a).2.1 ≠ (TJ2 b).2.1 := by decide +kernel
theorem tyJ2_ok : ∀ k, k < 0 → parseFieldDescriptor (TJ2 k).2.2.1 = some (tyJ2 k) := by decide +kernel
abbrev cJ2_getChar_3b067 : ByteArray := prog_25_method_5_code
def yJ2_getChar_3b067 : MethodName := ⟨RJ2, "getChar", "([BI)C"⟩
abbrev cJ2_length_9d52b : ByteArray := prog_25_method_6_code
def yJ2_length_9d52b : MethodName := ⟨RJ2, "length", "([B)I"⟩
abbrev cJ2_charAt_3b067 : ByteArray := prog_25_method_83_code
def yJ2_charAt_3b067 : MethodName := ⟨RJ2, "charAt", "([BI)C"⟩
abbrev cJ2_checkIndex_2214a : ByteArray := prog_25_method_91_code
def yJ2_checkIndex_2214a : MethodName := ⟨RJ2, "checkIndex", "(I[B)V"⟩
def RJ10 : String := "java/lang/System"
def TJ10 : u_T := fun k => match k with
  | _ => ("", "", "", false)
def tyJ10 : Nat → FieldType := fun k => match k with
  | _ => .int
abbrev wsJ100 : List Cond := u_ws RJ10 TJ10 0
theorem nmJ10 : ∀ a, a < 0 → ∀ b, b < 0 → a ≠ b → (TJ10 a).2.1 ≠ (TJ10 b).2.1 := by decide +kernel
theorem tyJ10_ok : ∀ k, k < 0 → parseFieldDescriptor (TJ10 k).2.2.1 = some (tyJ10 k) := by decide +kernel
def RJxfd54e : String := "java/lang/constant/Constable"
def TJxfd54e : u_T := fun k => match k with
  | _ => ("", "", "", false)
def tyJxfd54e : Nat → FieldType := fun k => match k with
  | _ => .int
abbrev wsJxfd54e0 : List Cond := u_ws RJxfd54e TJxfd54e 0
theorem nmJxfd54e : ∀ a, a < 0 → ∀ b, b < 0 → a ≠ b → (TJxfd54e a).2.1 ≠ (TJxfd54e b).2.1 := by decide +kernel
theorem tyJxfd54e_ok : ∀ k, k < 0 → parseFieldDescriptor (TJxfd54e k).2.2.1 = some (tyJxfd54e k) := by decide +kernel
def RJx3cf43 : String := "java/lang/constant/ConstantDesc"
def TJx3cf43 : u_T := fun k => match k with
  | _ => ("", "", "", false)
def tyJx3cf43 : Nat → FieldType := fun k => match k with
  | _ => .int
abbrev wsJx3cf430 : List Cond := u_ws RJx3cf43 TJx3cf43 0
theorem nmJx3cf43 : ∀ a, a < 0 → ∀ b, b < 0 → a ≠ b → (TJx3cf43 a).2.1 ≠ (TJx3cf43 b).2.1 := by decide +kernel
theorem tyJx3cf43_ok : ∀ k, k < 0 → parseFieldDescriptor (TJx3cf43 k).2.2.1 = some (tyJx3cf43 k) := by decide +kernel
def RJ3 : String := "jdk/internal/util/Preconditions"
def TJ3 : u_T := fun k => match k with
  | _ => ("", "", "", false)
def tyJ3 : Nat → FieldType := fun k => match k with
  | _ => .int
abbrev wsJ30 : List Cond := u_ws RJ3 TJ3 0
theorem nmJ3 : ∀ a, a < 0 → ∀ b, b < 0 → a ≠ b → (TJ3 a).2.1 ≠ (TJ3 b).2.1 := by decide +kernel
theorem tyJ3_ok : ∀ k, k < 0 → parseFieldDescriptor (TJ3 k).2.2.1 = some (tyJ3 k) := by decide +kernel
abbrev cJ3_checkIndex_8e157 : ByteArray := prog_31_method_11_code
def yJ3_checkIndex_8e157 : MethodName := ⟨RJ3, "checkIndex", "(IILjava/util/function/BiFunction;)I"⟩
def RL : String := "CoastLightsLaw"
abbrev cL_light : ByteArray := method_3_code
def yL_light : MethodName := ⟨RL, "light", "(LCoastLights;II[J)I"⟩
abbrev cL_mean : ByteArray := method_4_code
def yL_mean : MethodName := ⟨RL, "mean", "(LCoastLights;I[J)I"⟩
abbrev cL_law : ByteArray := code
def yL_law : MethodName := ⟨RL, "law", "([I)Z"⟩
abbrev vwCl : List vw_C := [(RX0, TX0, 6), (RX1, TX1, 7), (RX2, TX2, 1), (RX3, TX3, 4), (RX4, TX4, 14), (RX5, TX5, 3), (RX6, TX6, 9), (RX7, TX7, 6), (RX8, TX8, 5), (RX9, TX9, 12), (RX11, TX11, 20), (RX12, TX12, 53)]
