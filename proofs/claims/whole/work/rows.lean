section
-- ===== PART A: goes FIRST, ahead of the names: the tables' words, and 'selects' of the private methods out of them =====
/-- a private method of a class that the tables say can be made, by its rows of tables_1 -/
def lw_okq (q : MethodName × Nat) : Prop := (q.1.cls ≠ "java/lang/invoke/MethodHandle" ∧ q.1.cls ≠ "java/lang/invoke/VarHandle") ∧ Cond.instantiable q.1.cls q.2 ∈ tables_1 ∧ Cond.privateMethod q.1 ∈ tables_1 ∧ Cond.instanceMethod q.1 ∈ tables_1
theorem lw_p0 : lw_okq (⟨"DrownedLight", "isWithin", "(II)Z"⟩, 12) := ⟨⟨by decide +kernel, by decide +kernel⟩, List.mem_of_getElem? (i := 18) (by decide +kernel), List.mem_of_getElem? (i := 351) (by decide +kernel), List.mem_of_getElem? (i := 352) (by decide +kernel)⟩
theorem lw_p1 : lw_okq (⟨"DrownedLight", "addLost", "(III)I"⟩, 12) := ⟨⟨by decide +kernel, by decide +kernel⟩, List.mem_of_getElem? (i := 18) (by decide +kernel), List.mem_of_getElem? (i := 359) (by decide +kernel), List.mem_of_getElem? (i := 360) (by decide +kernel)⟩
theorem lw_p2 : lw_okq (⟨"DrownedLight", "isShelf", "(I)Z"⟩, 12) := ⟨⟨by decide +kernel, by decide +kernel⟩, List.mem_of_getElem? (i := 18) (by decide +kernel), List.mem_of_getElem? (i := 367) (by decide +kernel), List.mem_of_getElem? (i := 368) (by decide +kernel)⟩
theorem lw_p3 : lw_okq (⟨"DrownedLight", "isLostOne", "(LDrownedLight$Shelf;I)Z"⟩, 12) := ⟨⟨by decide +kernel, by decide +kernel⟩, List.mem_of_getElem? (i := 18) (by decide +kernel), List.mem_of_getElem? (i := 383) (by decide +kernel), List.mem_of_getElem? (i := 384) (by decide +kernel)⟩
theorem lw_p4 : lw_okq (⟨"DrownedLight", "isNumbered", "(II)Z"⟩, 12) := ⟨⟨by decide +kernel, by decide +kernel⟩, List.mem_of_getElem? (i := 18) (by decide +kernel), List.mem_of_getElem? (i := 395) (by decide +kernel), List.mem_of_getElem? (i := 396) (by decide +kernel)⟩
theorem lw_p5 : lw_okq (⟨"DrownedLight", "isLost", "(I)Z"⟩, 12) := ⟨⟨by decide +kernel, by decide +kernel⟩, List.mem_of_getElem? (i := 18) (by decide +kernel), List.mem_of_getElem? (i := 399) (by decide +kernel), List.mem_of_getElem? (i := 400) (by decide +kernel)⟩
theorem lw_p6 : lw_okq (⟨"DrownedLight", "told", "(II)I"⟩, 12) := ⟨⟨by decide +kernel, by decide +kernel⟩, List.mem_of_getElem? (i := 18) (by decide +kernel), List.mem_of_getElem? (i := 403) (by decide +kernel), List.mem_of_getElem? (i := 404) (by decide +kernel)⟩
theorem lw_p7 : lw_okq (⟨"DrownedLight$Changes", "dropOldest", "()V"⟩, 6) := ⟨⟨by decide +kernel, by decide +kernel⟩, List.mem_of_getElem? (i := 229) (by decide +kernel), List.mem_of_getElem? (i := 415) (by decide +kernel), List.mem_of_getElem? (i := 416) (by decide +kernel)⟩
theorem lw_p8 : lw_okq (⟨"DrownedLight", "tell", "(III)V"⟩, 12) := ⟨⟨by decide +kernel, by decide +kernel⟩, List.mem_of_getElem? (i := 18) (by decide +kernel), List.mem_of_getElem? (i := 422) (by decide +kernel), List.mem_of_getElem? (i := 423) (by decide +kernel)⟩
theorem lw_p9 : lw_okq (⟨"DrownedLight$Tape", "readLine", "()Z"⟩, 6) := ⟨⟨by decide +kernel, by decide +kernel⟩, List.mem_of_getElem? (i := 69) (by decide +kernel), List.mem_of_getElem? (i := 450) (by decide +kernel), List.mem_of_getElem? (i := 451) (by decide +kernel)⟩
theorem lw_p10 : lw_okq (⟨"DrownedLight$Tape", "readTier", "(II)Z"⟩, 6) := ⟨⟨by decide +kernel, by decide +kernel⟩, List.mem_of_getElem? (i := 69) (by decide +kernel), List.mem_of_getElem? (i := 454) (by decide +kernel), List.mem_of_getElem? (i := 455) (by decide +kernel)⟩
theorem lw_p11 : lw_okq (⟨"DrownedLight$Tape", "readPart", "(II)Z"⟩, 6) := ⟨⟨by decide +kernel, by decide +kernel⟩, List.mem_of_getElem? (i := 69) (by decide +kernel), List.mem_of_getElem? (i := 458) (by decide +kernel), List.mem_of_getElem? (i := 459) (by decide +kernel)⟩
theorem lw_p12 : lw_okq (⟨"DrownedLight$Tape", "readOperand", "(I)Z"⟩, 6) := ⟨⟨by decide +kernel, by decide +kernel⟩, List.mem_of_getElem? (i := 69) (by decide +kernel), List.mem_of_getElem? (i := 462) (by decide +kernel), List.mem_of_getElem? (i := 463) (by decide +kernel)⟩
theorem lw_p13 : lw_okq (⟨"DrownedLight$Tape", "readNumber", "()V"⟩, 6) := ⟨⟨by decide +kernel, by decide +kernel⟩, List.mem_of_getElem? (i := 69) (by decide +kernel), List.mem_of_getElem? (i := 466) (by decide +kernel), List.mem_of_getElem? (i := 467) (by decide +kernel)⟩
theorem lw_p14 : lw_okq (⟨"DrownedLight$Tape", "write", "(II)V"⟩, 6) := ⟨⟨by decide +kernel, by decide +kernel⟩, List.mem_of_getElem? (i := 69) (by decide +kernel), List.mem_of_getElem? (i := 473) (by decide +kernel), List.mem_of_getElem? (i := 474) (by decide +kernel)⟩
theorem lw_p15 : lw_okq (⟨"DrownedLight$Tape", "nameOf", "(I)I"⟩, 6) := ⟨⟨by decide +kernel, by decide +kernel⟩, List.mem_of_getElem? (i := 69) (by decide +kernel), List.mem_of_getElem? (i := 477) (by decide +kernel), List.mem_of_getElem? (i := 478) (by decide +kernel)⟩
def lw_privs_1 : List (MethodName × Nat) := [(⟨"DrownedLight", "isWithin", "(II)Z"⟩, 12), (⟨"DrownedLight", "addLost", "(III)I"⟩, 12), (⟨"DrownedLight", "isShelf", "(I)Z"⟩, 12), (⟨"DrownedLight", "isLostOne", "(LDrownedLight$Shelf;I)Z"⟩, 12), (⟨"DrownedLight", "isNumbered", "(II)Z"⟩, 12), (⟨"DrownedLight", "isLost", "(I)Z"⟩, 12), (⟨"DrownedLight", "told", "(II)I"⟩, 12), (⟨"DrownedLight$Changes", "dropOldest", "()V"⟩, 6), (⟨"DrownedLight", "tell", "(III)V"⟩, 12), (⟨"DrownedLight$Tape", "readLine", "()Z"⟩, 6), (⟨"DrownedLight$Tape", "readTier", "(II)Z"⟩, 6), (⟨"DrownedLight$Tape", "readPart", "(II)Z"⟩, 6), (⟨"DrownedLight$Tape", "readOperand", "(I)Z"⟩, 6), (⟨"DrownedLight$Tape", "readNumber", "()V"⟩, 6), (⟨"DrownedLight$Tape", "write", "(II)V"⟩, 6), (⟨"DrownedLight$Tape", "nameOf", "(I)I"⟩, 6)]
theorem lw_r1 : ∀ q ∈ lw_privs_1, lw_okq q := List.forall_mem_cons.mpr ⟨lw_p0, List.forall_mem_cons.mpr ⟨lw_p1, List.forall_mem_cons.mpr ⟨lw_p2, List.forall_mem_cons.mpr ⟨lw_p3, List.forall_mem_cons.mpr ⟨lw_p4, List.forall_mem_cons.mpr ⟨lw_p5, List.forall_mem_cons.mpr ⟨lw_p6, List.forall_mem_cons.mpr ⟨lw_p7, List.forall_mem_cons.mpr ⟨lw_p8, List.forall_mem_cons.mpr ⟨lw_p9, List.forall_mem_cons.mpr ⟨lw_p10, List.forall_mem_cons.mpr ⟨lw_p11, List.forall_mem_cons.mpr ⟨lw_p12, List.forall_mem_cons.mpr ⟨lw_p13, List.forall_mem_cons.mpr ⟨lw_p14, List.forall_mem_cons.mpr ⟨lw_p15, fun _ h => absurd h List.not_mem_nil⟩⟩⟩⟩⟩⟩⟩⟩⟩⟩⟩⟩⟩⟩⟩⟩
theorem lw_p16 : lw_okq (⟨"DrownedLight$Tape", "readClosing", "()Z"⟩, 6) := ⟨⟨by decide +kernel, by decide +kernel⟩, List.mem_of_getElem? (i := 69) (by decide +kernel), List.mem_of_getElem? (i := 481) (by decide +kernel), List.mem_of_getElem? (i := 482) (by decide +kernel)⟩
theorem lw_p17 : lw_okq (⟨"DrownedLight$Tape", "isNext", "(I)Z"⟩, 6) := ⟨⟨by decide +kernel, by decide +kernel⟩, List.mem_of_getElem? (i := 69) (by decide +kernel), List.mem_of_getElem? (i := 485) (by decide +kernel), List.mem_of_getElem? (i := 486) (by decide +kernel)⟩
theorem lw_p18 : lw_okq (⟨"DrownedLight$Tape", "tierOf", "(I)I"⟩, 6) := ⟨⟨by decide +kernel, by decide +kernel⟩, List.mem_of_getElem? (i := 69) (by decide +kernel), List.mem_of_getElem? (i := 489) (by decide +kernel), List.mem_of_getElem? (i := 490) (by decide +kernel)⟩
theorem lw_p19 : lw_okq (⟨"DrownedLight$Law", "joined", "(III)I"⟩, 5) := ⟨⟨by decide +kernel, by decide +kernel⟩, List.mem_of_getElem? (i := 99) (by decide +kernel), List.mem_of_getElem? (i := 521) (by decide +kernel), List.mem_of_getElem? (i := 522) (by decide +kernel)⟩
theorem lw_p20 : lw_okq (⟨"DrownedLight", "isWay", "(I)Z"⟩, 12) := ⟨⟨by decide +kernel, by decide +kernel⟩, List.mem_of_getElem? (i := 18) (by decide +kernel), List.mem_of_getElem? (i := 531) (by decide +kernel), List.mem_of_getElem? (i := 532) (by decide +kernel)⟩
theorem lw_p21 : lw_okq (⟨"DrownedLight", "isCountOfNights", "(I)Z"⟩, 12) := ⟨⟨by decide +kernel, by decide +kernel⟩, List.mem_of_getElem? (i := 18) (by decide +kernel), List.mem_of_getElem? (i := 548) (by decide +kernel), List.mem_of_getElem? (i := 549) (by decide +kernel)⟩
theorem lw_p22 : lw_okq (⟨"DrownedLight", "refusalOfBytes", "(I)I"⟩, 12) := ⟨⟨by decide +kernel, by decide +kernel⟩, List.mem_of_getElem? (i := 18) (by decide +kernel), List.mem_of_getElem? (i := 552) (by decide +kernel), List.mem_of_getElem? (i := 553) (by decide +kernel)⟩
theorem lw_p23 : lw_okq (⟨"DrownedLight$Search", "isNight", "(LDrownedLight$Shelf;I)Z"⟩, 7) := ⟨⟨by decide +kernel, by decide +kernel⟩, List.mem_of_getElem? (i := 161) (by decide +kernel), List.mem_of_getElem? (i := 569) (by decide +kernel), List.mem_of_getElem? (i := 570) (by decide +kernel)⟩
theorem lw_p24 : lw_okq (⟨"DrownedLight$Search", "follow", "(II)LDrownedLight$Stand;"⟩, 7) := ⟨⟨by decide +kernel, by decide +kernel⟩, List.mem_of_getElem? (i := 161) (by decide +kernel), List.mem_of_getElem? (i := 618) (by decide +kernel), List.mem_of_getElem? (i := 619) (by decide +kernel)⟩
theorem lw_p25 : lw_okq (⟨"DrownedLight", "readRules", "(I)I"⟩, 12) := ⟨⟨by decide +kernel, by decide +kernel⟩, List.mem_of_getElem? (i := 18) (by decide +kernel), List.mem_of_getElem? (i := 663) (by decide +kernel), List.mem_of_getElem? (i := 664) (by decide +kernel)⟩
theorem lw_p26 : lw_okq (⟨"DrownedLight$Rules", "isLostOne", "(I)Z"⟩, 5) := ⟨⟨by decide +kernel, by decide +kernel⟩, List.mem_of_getElem? (i := 207) (by decide +kernel), List.mem_of_getElem? (i := 672) (by decide +kernel), List.mem_of_getElem? (i := 673) (by decide +kernel)⟩
theorem lw_p27 : lw_okq (⟨"DrownedLight$Rules", "isNext", "(II)Z"⟩, 5) := ⟨⟨by decide +kernel, by decide +kernel⟩, List.mem_of_getElem? (i := 207) (by decide +kernel), List.mem_of_getElem? (i := 680) (by decide +kernel), List.mem_of_getElem? (i := 681) (by decide +kernel)⟩
theorem lw_p28 : lw_okq (⟨"DrownedLight$Rules", "lacking", "(II)I"⟩, 5) := ⟨⟨by decide +kernel, by decide +kernel⟩, List.mem_of_getElem? (i := 207) (by decide +kernel), List.mem_of_getElem? (i := 684) (by decide +kernel), List.mem_of_getElem? (i := 685) (by decide +kernel)⟩
theorem lw_p29 : lw_okq (⟨"DrownedLight$Rules", "ringFrom", "(I)I"⟩, 5) := ⟨⟨by decide +kernel, by decide +kernel⟩, List.mem_of_getElem? (i := 207) (by decide +kernel), List.mem_of_getElem? (i := 696) (by decide +kernel), List.mem_of_getElem? (i := 697) (by decide +kernel)⟩
theorem lw_p30 : lw_okq (⟨"DrownedLight", "commonDivisor", "(II)I"⟩, 12) := ⟨⟨by decide +kernel, by decide +kernel⟩, List.mem_of_getElem? (i := 18) (by decide +kernel), List.mem_of_getElem? (i := 739) (by decide +kernel), List.mem_of_getElem? (i := 740) (by decide +kernel)⟩
theorem lw_p31 : lw_okq (⟨"DrownedLight$Search", "bestOf", "(IZ)I"⟩, 7) := ⟨⟨by decide +kernel, by decide +kernel⟩, List.mem_of_getElem? (i := 161) (by decide +kernel), List.mem_of_getElem? (i := 753) (by decide +kernel), List.mem_of_getElem? (i := 754) (by decide +kernel)⟩
def lw_privs_2 : List (MethodName × Nat) := [(⟨"DrownedLight$Tape", "readClosing", "()Z"⟩, 6), (⟨"DrownedLight$Tape", "isNext", "(I)Z"⟩, 6), (⟨"DrownedLight$Tape", "tierOf", "(I)I"⟩, 6), (⟨"DrownedLight$Law", "joined", "(III)I"⟩, 5), (⟨"DrownedLight", "isWay", "(I)Z"⟩, 12), (⟨"DrownedLight", "isCountOfNights", "(I)Z"⟩, 12), (⟨"DrownedLight", "refusalOfBytes", "(I)I"⟩, 12), (⟨"DrownedLight$Search", "isNight", "(LDrownedLight$Shelf;I)Z"⟩, 7), (⟨"DrownedLight$Search", "follow", "(II)LDrownedLight$Stand;"⟩, 7), (⟨"DrownedLight", "readRules", "(I)I"⟩, 12), (⟨"DrownedLight$Rules", "isLostOne", "(I)Z"⟩, 5), (⟨"DrownedLight$Rules", "isNext", "(II)Z"⟩, 5), (⟨"DrownedLight$Rules", "lacking", "(II)I"⟩, 5), (⟨"DrownedLight$Rules", "ringFrom", "(I)I"⟩, 5), (⟨"DrownedLight", "commonDivisor", "(II)I"⟩, 12), (⟨"DrownedLight$Search", "bestOf", "(IZ)I"⟩, 7)]
theorem lw_r2 : ∀ q ∈ lw_privs_2, lw_okq q := List.forall_mem_cons.mpr ⟨lw_p16, List.forall_mem_cons.mpr ⟨lw_p17, List.forall_mem_cons.mpr ⟨lw_p18, List.forall_mem_cons.mpr ⟨lw_p19, List.forall_mem_cons.mpr ⟨lw_p20, List.forall_mem_cons.mpr ⟨lw_p21, List.forall_mem_cons.mpr ⟨lw_p22, List.forall_mem_cons.mpr ⟨lw_p23, List.forall_mem_cons.mpr ⟨lw_p24, List.forall_mem_cons.mpr ⟨lw_p25, List.forall_mem_cons.mpr ⟨lw_p26, List.forall_mem_cons.mpr ⟨lw_p27, List.forall_mem_cons.mpr ⟨lw_p28, List.forall_mem_cons.mpr ⟨lw_p29, List.forall_mem_cons.mpr ⟨lw_p30, List.forall_mem_cons.mpr ⟨lw_p31, fun _ h => absurd h List.not_mem_nil⟩⟩⟩⟩⟩⟩⟩⟩⟩⟩⟩⟩⟩⟩⟩⟩
theorem lw_p32 : lw_okq (⟨"DrownedLight$Acts", "any", "(IIII)I"⟩, 4) := ⟨⟨by decide +kernel, by decide +kernel⟩, List.mem_of_getElem? (i := 260) (by decide +kernel), List.mem_of_getElem? (i := 834) (by decide +kernel), List.mem_of_getElem? (i := 835) (by decide +kernel)⟩
theorem lw_p33 : lw_okq (⟨"DrownedLight$Acts", "run", "(IIIII)I"⟩, 4) := ⟨⟨by decide +kernel, by decide +kernel⟩, List.mem_of_getElem? (i := 260) (by decide +kernel), List.mem_of_getElem? (i := 838) (by decide +kernel), List.mem_of_getElem? (i := 839) (by decide +kernel)⟩
theorem lw_p34 : lw_okq (⟨"DrownedLight$Acts", "perform", "(IIIII)I"⟩, 4) := ⟨⟨by decide +kernel, by decide +kernel⟩, List.mem_of_getElem? (i := 260) (by decide +kernel), List.mem_of_getElem? (i := 846) (by decide +kernel), List.mem_of_getElem? (i := 847) (by decide +kernel)⟩
theorem lw_p35 : lw_okq (⟨"DrownedLight", "refusalOfPlace", "(II)I"⟩, 12) := ⟨⟨by decide +kernel, by decide +kernel⟩, List.mem_of_getElem? (i := 18) (by decide +kernel), List.mem_of_getElem? (i := 879) (by decide +kernel), List.mem_of_getElem? (i := 880) (by decide +kernel)⟩
theorem lw_p36 : lw_okq (⟨"DrownedLight$Shelf", "lowestBits", "(J)J"⟩, 4) := ⟨⟨by decide +kernel, by decide +kernel⟩, List.mem_of_getElem? (i := 284) (by decide +kernel), List.mem_of_getElem? (i := 891) (by decide +kernel), List.mem_of_getElem? (i := 892) (by decide +kernel)⟩
theorem lw_p37 : lw_okq (⟨"DrownedLightModel", "adds", "(III)V"⟩, 46) := ⟨⟨by decide +kernel, by decide +kernel⟩, List.mem_of_getElem? (i := 917) (by decide +kernel), List.mem_of_getElem? (i := 1086) (by decide +kernel), List.mem_of_getElem? (i := 1087) (by decide +kernel)⟩
theorem lw_p38 : lw_okq (⟨"DrownedLightModel", "placeOf", "(II)I"⟩, 46) := ⟨⟨by decide +kernel, by decide +kernel⟩, List.mem_of_getElem? (i := 917) (by decide +kernel), List.mem_of_getElem? (i := 1103) (by decide +kernel), List.mem_of_getElem? (i := 1104) (by decide +kernel)⟩
theorem lw_p39 : lw_okq (⟨"DrownedLightModel", "isLost", "(J)Z"⟩, 46) := ⟨⟨by decide +kernel, by decide +kernel⟩, List.mem_of_getElem? (i := 917) (by decide +kernel), List.mem_of_getElem? (i := 1107) (by decide +kernel), List.mem_of_getElem? (i := 1108) (by decide +kernel)⟩
theorem lw_p40 : lw_okq (⟨"DrownedLightModel", "becomes", "(II)I"⟩, 46) := ⟨⟨by decide +kernel, by decide +kernel⟩, List.mem_of_getElem? (i := 917) (by decide +kernel), List.mem_of_getElem? (i := 1117) (by decide +kernel), List.mem_of_getElem? (i := 1118) (by decide +kernel)⟩
theorem lw_p41 : lw_okq (⟨"DrownedLightModel", "workOut", "(II)I"⟩, 46) := ⟨⟨by decide +kernel, by decide +kernel⟩, List.mem_of_getElem? (i := 917) (by decide +kernel), List.mem_of_getElem? (i := 1134) (by decide +kernel), List.mem_of_getElem? (i := 1135) (by decide +kernel)⟩
theorem lw_p42 : lw_okq (⟨"DrownedLightModel", "either", "()I"⟩, 46) := ⟨⟨by decide +kernel, by decide +kernel⟩, List.mem_of_getElem? (i := 917) (by decide +kernel), List.mem_of_getElem? (i := 1138) (by decide +kernel), List.mem_of_getElem? (i := 1139) (by decide +kernel)⟩
theorem lw_p43 : lw_okq (⟨"DrownedLightModel", "both", "()I"⟩, 46) := ⟨⟨by decide +kernel, by decide +kernel⟩, List.mem_of_getElem? (i := 917) (by decide +kernel), List.mem_of_getElem? (i := 1142) (by decide +kernel), List.mem_of_getElem? (i := 1143) (by decide +kernel)⟩
theorem lw_p44 : lw_okq (⟨"DrownedLightModel", "compared", "()I"⟩, 46) := ⟨⟨by decide +kernel, by decide +kernel⟩, List.mem_of_getElem? (i := 917) (by decide +kernel), List.mem_of_getElem? (i := 1146) (by decide +kernel), List.mem_of_getElem? (i := 1147) (by decide +kernel)⟩
theorem lw_p45 : lw_okq (⟨"DrownedLightModel", "sums", "()I"⟩, 46) := ⟨⟨by decide +kernel, by decide +kernel⟩, List.mem_of_getElem? (i := 917) (by decide +kernel), List.mem_of_getElem? (i := 1150) (by decide +kernel), List.mem_of_getElem? (i := 1151) (by decide +kernel)⟩
theorem lw_p46 : lw_okq (⟨"DrownedLightModel", "product", "()I"⟩, 46) := ⟨⟨by decide +kernel, by decide +kernel⟩, List.mem_of_getElem? (i := 917) (by decide +kernel), List.mem_of_getElem? (i := 1154) (by decide +kernel), List.mem_of_getElem? (i := 1155) (by decide +kernel)⟩
theorem lw_p47 : lw_okq (⟨"DrownedLightModel", "one", "()I"⟩, 46) := ⟨⟨by decide +kernel, by decide +kernel⟩, List.mem_of_getElem? (i := 917) (by decide +kernel), List.mem_of_getElem? (i := 1158) (by decide +kernel), List.mem_of_getElem? (i := 1159) (by decide +kernel)⟩
def lw_privs_3 : List (MethodName × Nat) := [(⟨"DrownedLight$Acts", "any", "(IIII)I"⟩, 4), (⟨"DrownedLight$Acts", "run", "(IIIII)I"⟩, 4), (⟨"DrownedLight$Acts", "perform", "(IIIII)I"⟩, 4), (⟨"DrownedLight", "refusalOfPlace", "(II)I"⟩, 12), (⟨"DrownedLight$Shelf", "lowestBits", "(J)J"⟩, 4), (⟨"DrownedLightModel", "adds", "(III)V"⟩, 46), (⟨"DrownedLightModel", "placeOf", "(II)I"⟩, 46), (⟨"DrownedLightModel", "isLost", "(J)Z"⟩, 46), (⟨"DrownedLightModel", "becomes", "(II)I"⟩, 46), (⟨"DrownedLightModel", "workOut", "(II)I"⟩, 46), (⟨"DrownedLightModel", "either", "()I"⟩, 46), (⟨"DrownedLightModel", "both", "()I"⟩, 46), (⟨"DrownedLightModel", "compared", "()I"⟩, 46), (⟨"DrownedLightModel", "sums", "()I"⟩, 46), (⟨"DrownedLightModel", "product", "()I"⟩, 46), (⟨"DrownedLightModel", "one", "()I"⟩, 46)]
theorem lw_r3 : ∀ q ∈ lw_privs_3, lw_okq q := List.forall_mem_cons.mpr ⟨lw_p32, List.forall_mem_cons.mpr ⟨lw_p33, List.forall_mem_cons.mpr ⟨lw_p34, List.forall_mem_cons.mpr ⟨lw_p35, List.forall_mem_cons.mpr ⟨lw_p36, List.forall_mem_cons.mpr ⟨lw_p37, List.forall_mem_cons.mpr ⟨lw_p38, List.forall_mem_cons.mpr ⟨lw_p39, List.forall_mem_cons.mpr ⟨lw_p40, List.forall_mem_cons.mpr ⟨lw_p41, List.forall_mem_cons.mpr ⟨lw_p42, List.forall_mem_cons.mpr ⟨lw_p43, List.forall_mem_cons.mpr ⟨lw_p44, List.forall_mem_cons.mpr ⟨lw_p45, List.forall_mem_cons.mpr ⟨lw_p46, List.forall_mem_cons.mpr ⟨lw_p47, fun _ h => absurd h List.not_mem_nil⟩⟩⟩⟩⟩⟩⟩⟩⟩⟩⟩⟩⟩⟩⟩⟩
theorem lw_p48 : lw_okq (⟨"DrownedLightModel", "byteAt", "()I"⟩, 46) := ⟨⟨by decide +kernel, by decide +kernel⟩, List.mem_of_getElem? (i := 917) (by decide +kernel), List.mem_of_getElem? (i := 1162) (by decide +kernel), List.mem_of_getElem? (i := 1163) (by decide +kernel)⟩
theorem lw_p49 : lw_okq (⟨"DrownedLightModel", "wrong", "()I"⟩, 46) := ⟨⟨by decide +kernel, by decide +kernel⟩, List.mem_of_getElem? (i := 917) (by decide +kernel), List.mem_of_getElem? (i := 1166) (by decide +kernel), List.mem_of_getElem? (i := 1167) (by decide +kernel)⟩
theorem lw_p50 : lw_okq (⟨"DrownedLightModel", "takes", "(I)Z"⟩, 46) := ⟨⟨by decide +kernel, by decide +kernel⟩, List.mem_of_getElem? (i := 917) (by decide +kernel), List.mem_of_getElem? (i := 1170) (by decide +kernel), List.mem_of_getElem? (i := 1171) (by decide +kernel)⟩
theorem lw_p51 : lw_okq (⟨"DrownedLightModel", "begins", "()V"⟩, 46) := ⟨⟨by decide +kernel, by decide +kernel⟩, List.mem_of_getElem? (i := 917) (by decide +kernel), List.mem_of_getElem? (i := 1181) (by decide +kernel), List.mem_of_getElem? (i := 1182) (by decide +kernel)⟩
theorem lw_p52 : lw_okq (⟨"DrownedLightModel", "drawsOf", "(I)I"⟩, 46) := ⟨⟨by decide +kernel, by decide +kernel⟩, List.mem_of_getElem? (i := 917) (by decide +kernel), List.mem_of_getElem? (i := 1185) (by decide +kernel), List.mem_of_getElem? (i := 1186) (by decide +kernel)⟩
theorem lw_p53 : lw_okq (⟨"DrownedLightModel", "alongX", "(I)I"⟩, 46) := ⟨⟨by decide +kernel, by decide +kernel⟩, List.mem_of_getElem? (i := 917) (by decide +kernel), List.mem_of_getElem? (i := 1189) (by decide +kernel), List.mem_of_getElem? (i := 1190) (by decide +kernel)⟩
theorem lw_p54 : lw_okq (⟨"DrownedLightModel", "alongY", "(I)I"⟩, 46) := ⟨⟨by decide +kernel, by decide +kernel⟩, List.mem_of_getElem? (i := 917) (by decide +kernel), List.mem_of_getElem? (i := 1196) (by decide +kernel), List.mem_of_getElem? (i := 1197) (by decide +kernel)⟩
theorem lw_p55 : lw_okq (⟨"DrownedLightModel", "isSeen", "(II)Z"⟩, 46) := ⟨⟨by decide +kernel, by decide +kernel⟩, List.mem_of_getElem? (i := 917) (by decide +kernel), List.mem_of_getElem? (i := 1205) (by decide +kernel), List.mem_of_getElem? (i := 1206) (by decide +kernel)⟩
theorem lw_p56 : lw_okq (⟨"DrownedLightModel", "bytesIs", "(I)I"⟩, 46) := ⟨⟨by decide +kernel, by decide +kernel⟩, List.mem_of_getElem? (i := 917) (by decide +kernel), List.mem_of_getElem? (i := 1213) (by decide +kernel), List.mem_of_getElem? (i := 1214) (by decide +kernel)⟩
theorem lw_p57 : lw_okq (⟨"DrownedLightModel", "goesNights", "(II)V"⟩, 46) := ⟨⟨by decide +kernel, by decide +kernel⟩, List.mem_of_getElem? (i := 917) (by decide +kernel), List.mem_of_getElem? (i := 1218) (by decide +kernel), List.mem_of_getElem? (i := 1219) (by decide +kernel)⟩
theorem lw_p58 : lw_okq (⟨"DrownedLightModel", "nightMany", "(I)I"⟩, 46) := ⟨⟨by decide +kernel, by decide +kernel⟩, List.mem_of_getElem? (i := 917) (by decide +kernel), List.mem_of_getElem? (i := 1222) (by decide +kernel), List.mem_of_getElem? (i := 1223) (by decide +kernel)⟩
theorem lw_p59 : lw_okq (⟨"DrownedLightModel", "goesNight", "(I)V"⟩, 46) := ⟨⟨by decide +kernel, by decide +kernel⟩, List.mem_of_getElem? (i := 917) (by decide +kernel), List.mem_of_getElem? (i := 1226) (by decide +kernel), List.mem_of_getElem? (i := 1227) (by decide +kernel)⟩
theorem lw_p60 : lw_okq (⟨"DrownedLightModel", "walksTo", "(I)I"⟩, 46) := ⟨⟨by decide +kernel, by decide +kernel⟩, List.mem_of_getElem? (i := 917) (by decide +kernel), List.mem_of_getElem? (i := 1230) (by decide +kernel), List.mem_of_getElem? (i := 1231) (by decide +kernel)⟩
theorem lw_p61 : lw_okq (⟨"DrownedLightModel", "driftsTo", "(I)I"⟩, 46) := ⟨⟨by decide +kernel, by decide +kernel⟩, List.mem_of_getElem? (i := 917) (by decide +kernel), List.mem_of_getElem? (i := 1234) (by decide +kernel), List.mem_of_getElem? (i := 1235) (by decide +kernel)⟩
theorem lw_p62 : lw_okq (⟨"DrownedLightModel", "homeSet", "()I"⟩, 46) := ⟨⟨by decide +kernel, by decide +kernel⟩, List.mem_of_getElem? (i := 917) (by decide +kernel), List.mem_of_getElem? (i := 1243) (by decide +kernel), List.mem_of_getElem? (i := 1244) (by decide +kernel)⟩
theorem lw_p63 : lw_okq (⟨"DrownedLightModel", "triesWays", "(II)V"⟩, 46) := ⟨⟨by decide +kernel, by decide +kernel⟩, List.mem_of_getElem? (i := 917) (by decide +kernel), List.mem_of_getElem? (i := 1256) (by decide +kernel), List.mem_of_getElem? (i := 1257) (by decide +kernel)⟩
def lw_privs_4 : List (MethodName × Nat) := [(⟨"DrownedLightModel", "byteAt", "()I"⟩, 46), (⟨"DrownedLightModel", "wrong", "()I"⟩, 46), (⟨"DrownedLightModel", "takes", "(I)Z"⟩, 46), (⟨"DrownedLightModel", "begins", "()V"⟩, 46), (⟨"DrownedLightModel", "drawsOf", "(I)I"⟩, 46), (⟨"DrownedLightModel", "alongX", "(I)I"⟩, 46), (⟨"DrownedLightModel", "alongY", "(I)I"⟩, 46), (⟨"DrownedLightModel", "isSeen", "(II)Z"⟩, 46), (⟨"DrownedLightModel", "bytesIs", "(I)I"⟩, 46), (⟨"DrownedLightModel", "goesNights", "(II)V"⟩, 46), (⟨"DrownedLightModel", "nightMany", "(I)I"⟩, 46), (⟨"DrownedLightModel", "goesNight", "(I)V"⟩, 46), (⟨"DrownedLightModel", "walksTo", "(I)I"⟩, 46), (⟨"DrownedLightModel", "driftsTo", "(I)I"⟩, 46), (⟨"DrownedLightModel", "homeSet", "()I"⟩, 46), (⟨"DrownedLightModel", "triesWays", "(II)V"⟩, 46)]
theorem lw_r4 : ∀ q ∈ lw_privs_4, lw_okq q := List.forall_mem_cons.mpr ⟨lw_p48, List.forall_mem_cons.mpr ⟨lw_p49, List.forall_mem_cons.mpr ⟨lw_p50, List.forall_mem_cons.mpr ⟨lw_p51, List.forall_mem_cons.mpr ⟨lw_p52, List.forall_mem_cons.mpr ⟨lw_p53, List.forall_mem_cons.mpr ⟨lw_p54, List.forall_mem_cons.mpr ⟨lw_p55, List.forall_mem_cons.mpr ⟨lw_p56, List.forall_mem_cons.mpr ⟨lw_p57, List.forall_mem_cons.mpr ⟨lw_p58, List.forall_mem_cons.mpr ⟨lw_p59, List.forall_mem_cons.mpr ⟨lw_p60, List.forall_mem_cons.mpr ⟨lw_p61, List.forall_mem_cons.mpr ⟨lw_p62, List.forall_mem_cons.mpr ⟨lw_p63, fun _ h => absurd h List.not_mem_nil⟩⟩⟩⟩⟩⟩⟩⟩⟩⟩⟩⟩⟩⟩⟩⟩
theorem lw_p64 : lw_okq (⟨"DrownedLightModel", "homeMany", "()I"⟩, 46) := ⟨⟨by decide +kernel, by decide +kernel⟩, List.mem_of_getElem? (i := 917) (by decide +kernel), List.mem_of_getElem? (i := 1260) (by decide +kernel), List.mem_of_getElem? (i := 1261) (by decide +kernel)⟩
theorem lw_p65 : lw_okq (⟨"DrownedLightModel", "fetches", "(III)Z"⟩, 46) := ⟨⟨by decide +kernel, by decide +kernel⟩, List.mem_of_getElem? (i := 917) (by decide +kernel), List.mem_of_getElem? (i := 1268) (by decide +kernel), List.mem_of_getElem? (i := 1269) (by decide +kernel)⟩
theorem lw_p66 : lw_okq (⟨"DrownedLightModel", "firstFalse", "(III)I"⟩, 46) := ⟨⟨by decide +kernel, by decide +kernel⟩, List.mem_of_getElem? (i := 917) (by decide +kernel), List.mem_of_getElem? (i := 1282) (by decide +kernel), List.mem_of_getElem? (i := 1283) (by decide +kernel)⟩
theorem lw_p67 : lw_okq (⟨"DrownedLightModel", "takesRules", "(I)V"⟩, 46) := ⟨⟨by decide +kernel, by decide +kernel⟩, List.mem_of_getElem? (i := 917) (by decide +kernel), List.mem_of_getElem? (i := 1291) (by decide +kernel), List.mem_of_getElem? (i := 1292) (by decide +kernel)⟩
theorem lw_p68 : lw_okq (⟨"DrownedLightModel", "mayNow", "(II)Z"⟩, 46) := ⟨⟨by decide +kernel, by decide +kernel⟩, List.mem_of_getElem? (i := 917) (by decide +kernel), List.mem_of_getElem? (i := 1295) (by decide +kernel), List.mem_of_getElem? (i := 1296) (by decide +kernel)⟩
theorem lw_p69 : lw_okq (⟨"DrownedLightModel", "ring", "()I"⟩, 46) := ⟨⟨by decide +kernel, by decide +kernel⟩, List.mem_of_getElem? (i := 917) (by decide +kernel), List.mem_of_getElem? (i := 1306) (by decide +kernel), List.mem_of_getElem? (i := 1307) (by decide +kernel)⟩
theorem lw_p70 : lw_okq (⟨"DrownedLightModel", "drops", "()I"⟩, 46) := ⟨⟨by decide +kernel, by decide +kernel⟩, List.mem_of_getElem? (i := 917) (by decide +kernel), List.mem_of_getElem? (i := 1311) (by decide +kernel), List.mem_of_getElem? (i := 1312) (by decide +kernel)⟩
theorem lw_p71 : lw_okq (⟨"DrownedLightModel", "weightOf", "(I)I"⟩, 46) := ⟨⟨by decide +kernel, by decide +kernel⟩, List.mem_of_getElem? (i := 917) (by decide +kernel), List.mem_of_getElem? (i := 1324) (by decide +kernel), List.mem_of_getElem? (i := 1325) (by decide +kernel)⟩
theorem lw_p72 : lw_okq (⟨"DrownedLightModel", "playsFrom", "(III)I"⟩, 46) := ⟨⟨by decide +kernel, by decide +kernel⟩, List.mem_of_getElem? (i := 917) (by decide +kernel), List.mem_of_getElem? (i := 1337) (by decide +kernel), List.mem_of_getElem? (i := 1338) (by decide +kernel)⟩
theorem lw_p73 : lw_okq (⟨"DrownedLightModel", "worthOf", "(I)I"⟩, 46) := ⟨⟨by decide +kernel, by decide +kernel⟩, List.mem_of_getElem? (i := 917) (by decide +kernel), List.mem_of_getElem? (i := 1341) (by decide +kernel), List.mem_of_getElem? (i := 1342) (by decide +kernel)⟩
theorem lw_p74 : lw_okq (⟨"DrownedLightModel", "isBody", "(I)Z"⟩, 46) := ⟨⟨by decide +kernel, by decide +kernel⟩, List.mem_of_getElem? (i := 917) (by decide +kernel), List.mem_of_getElem? (i := 1380) (by decide +kernel), List.mem_of_getElem? (i := 1381) (by decide +kernel)⟩
theorem lw_p75 : lw_okq (⟨"DrownedLightModel", "turnsAs", "(II)I"⟩, 46) := ⟨⟨by decide +kernel, by decide +kernel⟩, List.mem_of_getElem? (i := 917) (by decide +kernel), List.mem_of_getElem? (i := 1384) (by decide +kernel), List.mem_of_getElem? (i := 1385) (by decide +kernel)⟩
theorem lw_p76 : lw_okq (⟨"DrownedLightModel", "runs", "(I)V"⟩, 46) := ⟨⟨by decide +kernel, by decide +kernel⟩, List.mem_of_getElem? (i := 917) (by decide +kernel), List.mem_of_getElem? (i := 1388) (by decide +kernel), List.mem_of_getElem? (i := 1389) (by decide +kernel)⟩
theorem lw_p77 : lw_okq (⟨"DrownedLightModel", "burnsAs", "(II)I"⟩, 46) := ⟨⟨by decide +kernel, by decide +kernel⟩, List.mem_of_getElem? (i := 917) (by decide +kernel), List.mem_of_getElem? (i := 1392) (by decide +kernel), List.mem_of_getElem? (i := 1393) (by decide +kernel)⟩
theorem lw_p78 : lw_okq (⟨"DrownedLightModel", "warnsAs", "(II)I"⟩, 46) := ⟨⟨by decide +kernel, by decide +kernel⟩, List.mem_of_getElem? (i := 917) (by decide +kernel), List.mem_of_getElem? (i := 1396) (by decide +kernel), List.mem_of_getElem? (i := 1397) (by decide +kernel)⟩
theorem lw_p79 : lw_okq (⟨"DrownedLightModel", "tellsAs", "(II)I"⟩, 46) := ⟨⟨by decide +kernel, by decide +kernel⟩, List.mem_of_getElem? (i := 917) (by decide +kernel), List.mem_of_getElem? (i := 1400) (by decide +kernel), List.mem_of_getElem? (i := 1401) (by decide +kernel)⟩
def lw_privs_5 : List (MethodName × Nat) := [(⟨"DrownedLightModel", "homeMany", "()I"⟩, 46), (⟨"DrownedLightModel", "fetches", "(III)Z"⟩, 46), (⟨"DrownedLightModel", "firstFalse", "(III)I"⟩, 46), (⟨"DrownedLightModel", "takesRules", "(I)V"⟩, 46), (⟨"DrownedLightModel", "mayNow", "(II)Z"⟩, 46), (⟨"DrownedLightModel", "ring", "()I"⟩, 46), (⟨"DrownedLightModel", "drops", "()I"⟩, 46), (⟨"DrownedLightModel", "weightOf", "(I)I"⟩, 46), (⟨"DrownedLightModel", "playsFrom", "(III)I"⟩, 46), (⟨"DrownedLightModel", "worthOf", "(I)I"⟩, 46), (⟨"DrownedLightModel", "isBody", "(I)Z"⟩, 46), (⟨"DrownedLightModel", "turnsAs", "(II)I"⟩, 46), (⟨"DrownedLightModel", "runs", "(I)V"⟩, 46), (⟨"DrownedLightModel", "burnsAs", "(II)I"⟩, 46), (⟨"DrownedLightModel", "warnsAs", "(II)I"⟩, 46), (⟨"DrownedLightModel", "tellsAs", "(II)I"⟩, 46)]
theorem lw_r5 : ∀ q ∈ lw_privs_5, lw_okq q := List.forall_mem_cons.mpr ⟨lw_p64, List.forall_mem_cons.mpr ⟨lw_p65, List.forall_mem_cons.mpr ⟨lw_p66, List.forall_mem_cons.mpr ⟨lw_p67, List.forall_mem_cons.mpr ⟨lw_p68, List.forall_mem_cons.mpr ⟨lw_p69, List.forall_mem_cons.mpr ⟨lw_p70, List.forall_mem_cons.mpr ⟨lw_p71, List.forall_mem_cons.mpr ⟨lw_p72, List.forall_mem_cons.mpr ⟨lw_p73, List.forall_mem_cons.mpr ⟨lw_p74, List.forall_mem_cons.mpr ⟨lw_p75, List.forall_mem_cons.mpr ⟨lw_p76, List.forall_mem_cons.mpr ⟨lw_p77, List.forall_mem_cons.mpr ⟨lw_p78, List.forall_mem_cons.mpr ⟨lw_p79, fun _ h => absurd h List.not_mem_nil⟩⟩⟩⟩⟩⟩⟩⟩⟩⟩⟩⟩⟩⟩⟩⟩
theorem lw_p80 : lw_okq (⟨"DrownedLightModel", "refusal", "(II)I"⟩, 46) := ⟨⟨by decide +kernel, by decide +kernel⟩, List.mem_of_getElem? (i := 917) (by decide +kernel), List.mem_of_getElem? (i := 1420) (by decide +kernel), List.mem_of_getElem? (i := 1421) (by decide +kernel)⟩
theorem lw_p81 : lw_okq (⟨"DrownedLightModel", "kindOf", "(I)I"⟩, 46) := ⟨⟨by decide +kernel, by decide +kernel⟩, List.mem_of_getElem? (i := 917) (by decide +kernel), List.mem_of_getElem? (i := 1439) (by decide +kernel), List.mem_of_getElem? (i := 1440) (by decide +kernel)⟩
theorem lw_p82 : lw_okq (⟨"DrownedLightModel", "manyHome", "()I"⟩, 46) := ⟨⟨by decide +kernel, by decide +kernel⟩, List.mem_of_getElem? (i := 917) (by decide +kernel), List.mem_of_getElem? (i := 1450) (by decide +kernel), List.mem_of_getElem? (i := 1451) (by decide +kernel)⟩
def lw_privs_6 : List (MethodName × Nat) := [(⟨"DrownedLightModel", "refusal", "(II)I"⟩, 46), (⟨"DrownedLightModel", "kindOf", "(I)I"⟩, 46), (⟨"DrownedLightModel", "manyHome", "()I"⟩, 46)]
theorem lw_r6 : ∀ q ∈ lw_privs_6, lw_okq q := List.forall_mem_cons.mpr ⟨lw_p80, List.forall_mem_cons.mpr ⟨lw_p81, List.forall_mem_cons.mpr ⟨lw_p82, fun _ h => absurd h List.not_mem_nil⟩⟩⟩
def lw_privs : List (MethodName × Nat) := lw_privs_1 ++ (lw_privs_2 ++ (lw_privs_3 ++ (lw_privs_4 ++ (lw_privs_5 ++ (lw_privs_6)))))
def lw_tbl : List Cond := k2_sels lw_privs ++ tables_1
theorem lw_privs_ok : ∀ q ∈ lw_privs, lw_okq q := by
  show ∀ q ∈ lw_privs_1 ++ (lw_privs_2 ++ (lw_privs_3 ++ (lw_privs_4 ++ (lw_privs_5 ++ (lw_privs_6))))), lw_okq q
  exact List.forall_mem_append.mpr ⟨lw_r1, List.forall_mem_append.mpr ⟨lw_r2, List.forall_mem_append.mpr ⟨lw_r3, List.forall_mem_append.mpr ⟨lw_r4, List.forall_mem_append.mpr ⟨lw_r5, lw_r6⟩⟩⟩⟩⟩
end
section
def RX0 : String := "DrownedLight$Acts"
def TX0 : u_T := fun k => match k with
  | 0 => ("DrownedLight$Acts", "kinds", "[I", true)
  | 1 => ("DrownedLight$Acts", "bodies", "I", false)
  | 2 => ("DrownedLight$Acts", "traced", "[I", true)
  | _ => ("DrownedLight$Acts", "ran", "I", false)
def tyX0 : Nat → FieldType := fun k => match k with
  | 0 => .array .int
  | 1 => .int
  | 2 => .array .int
  | _ => .int
theorem nmX0 : ∀ a, a < 4 → ∀ b, b < 4 → a ≠ b → (TX0 a).2.1 ≠ (TX0 b).2.1 := by decide +kernel
theorem tyX0_ok : ∀ k, k < 4 → parseFieldDescriptor (TX0 k).2.2.1 = some (tyX0 k) := by decide +kernel
def RX1 : String := "DrownedLight$Changes"
def TX1 : u_T := fun k => match k with
  | 0 => ("DrownedLight$Changes", "number", "[I", true)
  | 1 => ("DrownedLight$Changes", "what", "[I", true)
  | 2 => ("DrownedLight$Changes", "was", "[I", true)
  | 3 => ("DrownedLight$Changes", "became", "[I", true)
  | 4 => ("DrownedLight$Changes", "done", "I", false)
  | _ => ("DrownedLight$Changes", "all", "I", false)
def tyX1 : Nat → FieldType := fun k => match k with
  | 0 => .array .int
  | 1 => .array .int
  | 2 => .array .int
  | 3 => .array .int
  | 4 => .int
  | _ => .int
theorem nmX1 : ∀ a, a < 6 → ∀ b, b < 6 → a ≠ b → (TX1 a).2.1 ≠ (TX1 b).2.1 := by decide +kernel
theorem tyX1_ok : ∀ k, k < 6 → parseFieldDescriptor (TX1 k).2.2.1 = some (tyX1 k) := by decide +kernel
def RX2 : String := "DrownedLight$Drifts"
def TX2 : u_T := fun k => match k with
  | _ => ("DrownedLight$Drifts", "sea", "LDrownedLight$Sea;", true)
def tyX2 : Nat → FieldType := fun k => match k with
  | _ => .object "DrownedLight$Sea"
theorem nmX2 : ∀ a, a < 1 → ∀ b, b < 1 → a ≠ b → (TX2 a).2.1 ≠ (TX2 b).2.1 := by decide +kernel
theorem tyX2_ok : ∀ k, k < 1 → parseFieldDescriptor (TX2 k).2.2.1 = some (tyX2 k) := by decide +kernel
def RX3 : String := "DrownedLight$Law"
def TX3 : u_T := fun k => match k with
  | 0 => ("DrownedLight$Law", "steps", "[I", true)
  | 1 => ("DrownedLight$Law", "args", "[I", true)
  | 2 => ("DrownedLight$Law", "length", "I", false)
  | 3 => ("DrownedLight$Law", "names", "[I", true)
  | _ => ("DrownedLight$Law", "pile", "[I", true)
def tyX3 : Nat → FieldType := fun k => match k with
  | 0 => .array .int
  | 1 => .array .int
  | 2 => .int
  | 3 => .array .int
  | _ => .array .int
theorem nmX3 : ∀ a, a < 5 → ∀ b, b < 5 → a ≠ b → (TX3 a).2.1 ≠ (TX3 b).2.1 := by decide +kernel
theorem tyX3_ok : ∀ k, k < 5 → parseFieldDescriptor (TX3 k).2.2.1 = some (tyX3 k) := by decide +kernel
def RX4 : String := "DrownedLight$Rules"
def TX4 : u_T := fun k => match k with
  | 0 => ("DrownedLight$Rules", "first", "[I", true)
  | 1 => ("DrownedLight$Rules", "then", "[I", true)
  | 2 => ("DrownedLight$Rules", "all", "I", false)
  | 3 => ("DrownedLight$Rules", "lost", "I", false)
  | _ => ("DrownedLight$Rules", "broken", "[I", true)
def tyX4 : Nat → FieldType := fun k => match k with
  | 0 => .array .int
  | 1 => .array .int
  | 2 => .int
  | 3 => .int
  | _ => .array .int
theorem nmX4 : ∀ a, a < 5 → ∀ b, b < 5 → a ≠ b → (TX4 a).2.1 ≠ (TX4 b).2.1 := by decide +kernel
theorem tyX4_ok : ∀ k, k < 5 → parseFieldDescriptor (TX4 k).2.2.1 = some (tyX4 k) := by decide +kernel
def RX5 : String := "DrownedLight$Sea"
def TX5 : u_T := fun k => match k with
  | 0 => ("DrownedLight$Sea", "depth", "[I", true)
  | 1 => ("DrownedLight$Sea", "drift", "[I", true)
  | 2 => ("DrownedLight$Sea", "parish", "[I", true)
  | 3 => ("DrownedLight$Sea", "owed", "[I", true)
  | 4 => ("DrownedLight$Sea", "lamp", "I", false)
  | 5 => ("DrownedLight$Sea", "burns", "I", false)
  | _ => ("DrownedLight$Sea", "walks", "I", false)
def tyX5 : Nat → FieldType := fun k => match k with
  | 0 => .array .int
  | 1 => .array .int
  | 2 => .array .int
  | 3 => .array .int
  | 4 => .int
  | 5 => .int
  | _ => .int
theorem nmX5 : ∀ a, a < 7 → ∀ b, b < 7 → a ≠ b → (TX5 a).2.1 ≠ (TX5 b).2.1 := by decide +kernel
theorem tyX5_ok : ∀ k, k < 7 → parseFieldDescriptor (TX5 k).2.2.1 = some (tyX5 k) := by decide +kernel
def RX6 : String := "DrownedLight$Search"
def TX6 : u_T := fun k => match k with
  | 0 => ("DrownedLight$Search", "stands", "[LDrownedLight$Stand;", true)
  | 1 => ("DrownedLight$Search", "worths", "[I", true)
  | 2 => ("DrownedLight$Search", "chosen", "I", false)
  | 3 => ("DrownedLight$Search", "mostHome", "I", false)
  | 4 => ("DrownedLight$Search", "mostOil", "I", false)
  | 5 => ("DrownedLight$Search", "firstWay", "I", false)
  | _ => ("DrownedLight$Search", "ends", "[I", true)
def tyX6 : Nat → FieldType := fun k => match k with
  | 0 => .array (.object "DrownedLight$Stand")
  | 1 => .array .int
  | 2 => .int
  | 3 => .int
  | 4 => .int
  | 5 => .int
  | _ => .array .int
theorem nmX6 : ∀ a, a < 7 → ∀ b, b < 7 → a ≠ b → (TX6 a).2.1 ≠ (TX6 b).2.1 := by decide +kernel
theorem tyX6_ok : ∀ k, k < 7 → parseFieldDescriptor (TX6 k).2.2.1 = some (tyX6 k) := by decide +kernel
def RX7 : String := "DrownedLight$Shelf"
def TX7 : u_T := fun k => match k with
  | 0 => ("DrownedLight$Shelf", "items", "[J", true)
  | 1 => ("DrownedLight$Shelf", "sort", "I", false)
  | 2 => ("DrownedLight$Shelf", "length", "I", false)
  | _ => ("DrownedLight$Shelf", "body", "I", false)
def tyX7 : Nat → FieldType := fun k => match k with
  | 0 => .array .long
  | 1 => .int
  | 2 => .int
  | _ => .int
theorem nmX7 : ∀ a, a < 4 → ∀ b, b < 4 → a ≠ b → (TX7 a).2.1 ≠ (TX7 b).2.1 := by decide +kernel
theorem tyX7_ok : ∀ k, k < 4 → parseFieldDescriptor (TX7 k).2.2.1 = some (tyX7 k) := by decide +kernel
def RX8 : String := "DrownedLight$Stand"
def TX8 : u_T := fun k => match k with
  | 0 => ("DrownedLight$Stand", "sea", "LDrownedLight$Sea;", true)
  | 1 => ("DrownedLight$Stand", "law", "LDrownedLight$Law;", true)
  | 2 => ("DrownedLight$Stand", "cell", "[I", true)
  | 3 => ("DrownedLight$Stand", "tally", "[I", true)
  | 4 => ("DrownedLight$Stand", "goal", "[I", true)
  | 5 => ("DrownedLight$Stand", "lost", "I", false)
  | 6 => ("DrownedLight$Stand", "home", "I", false)
  | _ => ("DrownedLight$Stand", "oil", "I", false)
def tyX8 : Nat → FieldType := fun k => match k with
  | 0 => .object "DrownedLight$Sea"
  | 1 => .object "DrownedLight$Law"
  | 2 => .array .int
  | 3 => .array .int
  | 4 => .array .int
  | 5 => .int
  | 6 => .int
  | _ => .int
theorem nmX8 : ∀ a, a < 8 → ∀ b, b < 8 → a ≠ b → (TX8 a).2.1 ≠ (TX8 b).2.1 := by decide +kernel
theorem tyX8_ok : ∀ k, k < 8 → parseFieldDescriptor (TX8 k).2.2.1 = some (tyX8 k) := by decide +kernel
def RX9 : String := "DrownedLight$Tape"
def TX9 : u_T := fun k => match k with
  | 0 => ("DrownedLight$Tape", "letters", "[I", true)
  | 1 => ("DrownedLight$Tape", "length", "I", false)
  | 2 => ("DrownedLight$Tape", "at", "I", false)
  | 3 => ("DrownedLight$Tape", "steps", "[I", true)
  | 4 => ("DrownedLight$Tape", "args", "[I", true)
  | _ => ("DrownedLight$Tape", "written", "I", false)
def tyX9 : Nat → FieldType := fun k => match k with
  | 0 => .array .int
  | 1 => .int
  | 2 => .int
  | 3 => .array .int
  | 4 => .array .int
  | _ => .int
theorem nmX9 : ∀ a, a < 6 → ∀ b, b < 6 → a ≠ b → (TX9 a).2.1 ≠ (TX9 b).2.1 := by decide +kernel
theorem tyX9_ok : ∀ k, k < 6 → parseFieldDescriptor (TX9 k).2.2.1 = some (tyX9 k) := by decide +kernel
def RX10 : String := "DrownedLight"
def TX10 : u_T := fun k => match k with
  | 0 => ("DrownedLight", "sea", "LDrownedLight$Sea;", true)
  | 1 => ("DrownedLight", "tape", "LDrownedLight$Tape;", true)
  | 2 => ("DrownedLight", "law", "LDrownedLight$Law;", true)
  | 3 => ("DrownedLight", "now", "LDrownedLight$Stand;", true)
  | 4 => ("DrownedLight", "kept", "LDrownedLight$Stand;", true)
  | 5 => ("DrownedLight", "search", "LDrownedLight$Search;", true)
  | 6 => ("DrownedLight", "drifts", "LDrownedLight$Drifts;", true)
  | 7 => ("DrownedLight", "rules", "LDrownedLight$Rules;", true)
  | 8 => ("DrownedLight", "changes", "LDrownedLight$Changes;", true)
  | 9 => ("DrownedLight", "acts", "LDrownedLight$Acts;", true)
  | 10 => ("DrownedLight", "shelves", "[LDrownedLight$Shelf;", true)
  | _ => ("DrownedLight", "imageKept", "Z", false)
def tyX10 : Nat → FieldType := fun k => match k with
  | 0 => .object "DrownedLight$Sea"
  | 1 => .object "DrownedLight$Tape"
  | 2 => .object "DrownedLight$Law"
  | 3 => .object "DrownedLight$Stand"
  | 4 => .object "DrownedLight$Stand"
  | 5 => .object "DrownedLight$Search"
  | 6 => .object "DrownedLight$Drifts"
  | 7 => .object "DrownedLight$Rules"
  | 8 => .object "DrownedLight$Changes"
  | 9 => .object "DrownedLight$Acts"
  | 10 => .array (.object "DrownedLight$Shelf")
  | _ => .boolean
theorem nmX10 : ∀ a, a < 12 → ∀ b, b < 12 → a ≠ b → (TX10 a).2.1 ≠ (TX10 b).2.1 := by decide +kernel
theorem tyX10_ok : ∀ k, k < 12 → parseFieldDescriptor (TX10 k).2.2.1 = some (tyX10 k) := by decide +kernel
def RX11 : String := "DrownedLightModel"
def TX11 : u_T := fun k => match k with
  | 0 => ("DrownedLightModel", "may", "[I", true)
  | 1 => ("DrownedLightModel", "changeAt", "[I", true)
  | 2 => ("DrownedLightModel", "changeWas", "[I", true)
  | 3 => ("DrownedLightModel", "changeIs", "[I", true)
  | 4 => ("DrownedLightModel", "keptMany", "I", false)
  | 5 => ("DrownedLightModel", "done", "I", false)
  | 6 => ("DrownedLightModel", "lostMany", "I", false)
  | 7 => ("DrownedLightModel", "tape", "[I", true)
  | 8 => ("DrownedLightModel", "tapeMany", "I", false)
  | 9 => ("DrownedLightModel", "text", "[I", true)
  | 10 => ("DrownedLightModel", "textMany", "I", false)
  | 11 => ("DrownedLightModel", "base", "I", false)
  | 12 => ("DrownedLightModel", "at", "I", false)
  | 13 => ("DrownedLightModel", "ends", "I", false)
  | 14 => ("DrownedLightModel", "fault", "I", false)
  | 15 => ("DrownedLightModel", "opened", "I", false)
  | 16 => ("DrownedLightModel", "names", "[I", true)
  | 17 => ("DrownedLightModel", "cell", "[I", true)
  | 18 => ("DrownedLightModel", "isHome", "[I", true)
  | 19 => ("DrownedLightModel", "oilThen", "I", false)
  | 20 => ("DrownedLightModel", "burnt", "Z", false)
  | 21 => ("DrownedLightModel", "walked", "I", false)
  | 22 => ("DrownedLightModel", "came", "I", false)
  | 23 => ("DrownedLightModel", "goesTo", "[I", true)
  | 24 => ("DrownedLightModel", "tried", "[I", true)
  | 25 => ("DrownedLightModel", "bestWays", "[I", true)
  | 26 => ("DrownedLightModel", "mostHome", "I", false)
  | 27 => ("DrownedLightModel", "mostOil", "I", false)
  | 28 => ("DrownedLightModel", "rules", "[I", true)
  | 29 => ("DrownedLightModel", "reach", "[I", true)
  | 30 => ("DrownedLightModel", "fewest", "[I", true)
  | 31 => ("DrownedLightModel", "ledNow", "[I", true)
  | 32 => ("DrownedLightModel", "isKept", "Z", false)
  | 33 => ("DrownedLightModel", "imageMany", "I", false)
  | 34 => ("DrownedLightModel", "imageMay", "[I", true)
  | 35 => ("DrownedLightModel", "imageLed", "[I", true)
  | 36 => ("DrownedLightModel", "bodies", "I", false)
  | 37 => ("DrownedLightModel", "bodyKind", "[I", true)
  | 38 => ("DrownedLightModel", "trace", "[I", true)
  | 39 => ("DrownedLightModel", "ran", "I", false)
  | 40 => ("DrownedLightModel", "ownKind", "I", false)
  | 41 => ("DrownedLightModel", "ownNumber", "I", false)
  | 42 => ("DrownedLightModel", "shelf", "[I", true)
  | 43 => ("DrownedLightModel", "many", "[I", true)
  | 44 => ("DrownedLightModel", "items", "[J", true)
  | _ => ("DrownedLightModel", "carried", "[J", true)
def tyX11 : Nat → FieldType := fun k => match k with
  | 0 => .array .int
  | 1 => .array .int
  | 2 => .array .int
  | 3 => .array .int
  | 4 => .int
  | 5 => .int
  | 6 => .int
  | 7 => .array .int
  | 8 => .int
  | 9 => .array .int
  | 10 => .int
  | 11 => .int
  | 12 => .int
  | 13 => .int
  | 14 => .int
  | 15 => .int
  | 16 => .array .int
  | 17 => .array .int
  | 18 => .array .int
  | 19 => .int
  | 20 => .boolean
  | 21 => .int
  | 22 => .int
  | 23 => .array .int
  | 24 => .array .int
  | 25 => .array .int
  | 26 => .int
  | 27 => .int
  | 28 => .array .int
  | 29 => .array .int
  | 30 => .array .int
  | 31 => .array .int
  | 32 => .boolean
  | 33 => .int
  | 34 => .array .int
  | 35 => .array .int
  | 36 => .int
  | 37 => .array .int
  | 38 => .array .int
  | 39 => .int
  | 40 => .int
  | 41 => .int
  | 42 => .array .int
  | 43 => .array .int
  | 44 => .array .long
  | _ => .array .long
theorem nmX11 : ∀ a, a < 46 → ∀ b, b < 46 → a ≠ b → (TX11 a).2.1 ≠ (TX11 b).2.1 := by decide +kernel
theorem tyX11_ok : ∀ k, k < 46 → parseFieldDescriptor (TX11 k).2.2.1 = some (tyX11 k) := by decide +kernel
def RJ6 : String := "java/lang/Integer"
def RJ13 : String := "java/lang/Long"
def RJ9 : String := "java/lang/Math"
def RJ10 : String := "java/lang/System"
def RL : String := "DrownedLightLaw"
abbrev vwCl : List vw_C := [(RX0, TX0, 4), (RX1, TX1, 6), (RX2, TX2, 1), (RX3, TX3, 5), (RX4, TX4, 5), (RX5, TX5, 7), (RX6, TX6, 7), (RX7, TX7, 4), (RX8, TX8, 8), (RX9, TX9, 6), (RX10, TX10, 12), (RX11, TX11, 46)]
abbrev tyCl : List (Nat → FieldType) := [tyX0, tyX1, tyX2, tyX3, tyX4, tyX5, tyX6, tyX7, tyX8, tyX9, tyX10, tyX11]
/-- a method: its bytes, locals, what it returns, the class it stands in, its name -/
abbrev MD : Type := ByteArray × Nat × Option FieldType × String × MethodName
def yX0_init : MethodName := ⟨RX0, "<init>", "()V"⟩
abbrev mX0_init : MD := (prog_2_method_1_code, 1, none, RX0, yX0_init)
def yX0_isKind : MethodName := ⟨RX0, "isKind", "(I)Z"⟩
abbrev mX0_isKind : MD := (prog_2_method_2_code, 2, (some .boolean), RX0, yX0_isKind)
def yX0_isBody : MethodName := ⟨RX0, "isBody", "(I)Z"⟩
abbrev mX0_isBody : MD := (prog_2_method_3_code, 2, (some .boolean), RX0, yX0_isBody)
def yX0_isFull : MethodName := ⟨RX0, "isFull", "()Z"⟩
abbrev mX0_isFull : MD := (prog_2_method_4_code, 1, (some .boolean), RX0, yX0_isFull)
def yX0_isTraced : MethodName := ⟨RX0, "isTraced", "(I)Z"⟩
abbrev mX0_isTraced : MD := (prog_2_method_5_code, 2, (some .boolean), RX0, yX0_isTraced)
def yX0_add : MethodName := ⟨RX0, "add", "(I)I"⟩
abbrev mX0_add : MD := (prog_2_method_6_code, 2, (some .int), RX0, yX0_add)
def yX0_isUnder : MethodName := ⟨RX0, "isUnder", "(II)Z"⟩
abbrev mX0_isUnder : MD := (prog_2_method_7_code, 5, (some .boolean), RX0, yX0_isUnder)
def yX0_start : MethodName := ⟨RX0, "start", "(III)I"⟩
abbrev mX0_start : MD := (prog_2_method_8_code, 4, (some .int), RX0, yX0_start)
def yX0_any : MethodName := ⟨RX0, "any", "(IIII)I"⟩
abbrev mX0_any : MD := (prog_2_method_9_code, 5, (some .int), RX0, yX0_any)
def yX0_run : MethodName := ⟨RX0, "run", "(IIIII)I"⟩
abbrev mX0_run : MD := (prog_2_method_10_code, 8, (some .int), RX0, yX0_run)
def yX0_perform : MethodName := ⟨RX0, "perform", "(IIIII)I"⟩
abbrev mX0_perform : MD := (prog_2_method_11_code, 6, (some .int), RX0, yX0_perform)
def yX1_init : MethodName := ⟨RX1, "<init>", "()V"⟩
abbrev mX1_init : MD := (prog_3_method_1_code, 1, none, RX1, yX1_init)
def yX1_isKept : MethodName := ⟨RX1, "isKept", "(I)Z"⟩
abbrev mX1_isKept : MD := (prog_3_method_2_code, 2, (some .boolean), RX1, yX1_isKept)
def yX1_add : MethodName := ⟨RX1, "add", "(IIII)V"⟩
abbrev mX1_add : MD := (prog_3_method_3_code, 5, none, RX1, yX1_add)
def yX1_dropOldest : MethodName := ⟨RX1, "dropOldest", "()V"⟩
abbrev mX1_dropOldest : MD := (prog_3_method_4_code, 1, none, RX1, yX1_dropOldest)
def yX2_init : MethodName := ⟨RX2, "<init>", "(LDrownedLight$Sea;)V"⟩
abbrev mX2_init : MD := (prog_4_method_1_code, 2, none, RX2, yX2_init)
def yX2_ago : MethodName := ⟨RX2, "ago", "(II)J"⟩
abbrev mX2_ago : MD := (prog_4_method_2_code, 9, (some .long), RX2, yX2_ago)
def yX2_firstUnlike : MethodName := ⟨RX2, "firstUnlike", "(LDrownedLight$Shelf;IZ)I"⟩
abbrev mX2_firstUnlike : MD := (prog_4_method_3_code, 7, (some .int), RX2, yX2_firstUnlike)
def yX2_from : MethodName := ⟨RX2, "from", "(LDrownedLight$Shelf;ZZ)I"⟩
abbrev mX2_from : MD := (prog_4_method_4_code, 6, (some .int), RX2, yX2_from)
def yX3_init : MethodName := ⟨RX3, "<init>", "()V"⟩
abbrev mX3_init : MD := (prog_5_method_1_code, 1, none, RX3, yX3_init)
def yX3_become : MethodName := ⟨RX3, "become", "(LDrownedLight$Tape;)V"⟩
abbrev mX3_become : MD := (prog_5_method_2_code, 2, none, RX3, yX3_become)
def yX3_workOut : MethodName := ⟨RX3, "workOut", "()I"⟩
abbrev mX3_workOut : MD := (prog_5_method_3_code, 5, (some .int), RX3, yX3_workOut)
def yX3_joined : MethodName := ⟨RX3, "joined", "(III)I"⟩
abbrev mX3_joined : MD := (prog_5_method_4_code, 4, (some .int), RX3, yX3_joined)
def yX4_init : MethodName := ⟨RX4, "<init>", "()V"⟩
abbrev mX4_init : MD := (prog_6_method_1_code, 1, none, RX4, yX4_init)
def yX4_read : MethodName := ⟨RX4, "read", "(LDrownedLight$Shelf;I)V"⟩
abbrev mX4_read : MD := (prog_6_method_2_code, 6, none, RX4, yX4_read)
def yX4_isLostOne : MethodName := ⟨RX4, "isLostOne", "(I)Z"⟩
abbrev mX4_isLostOne : MD := (prog_6_method_3_code, 2, (some .boolean), RX4, yX4_isLostOne)
def yX4_lacking : MethodName := ⟨RX4, "lacking", "(II)I"⟩
abbrev mX4_lacking : MD := (prog_6_method_4_code, 5, (some .int), RX4, yX4_lacking)
def yX4_isNext : MethodName := ⟨RX4, "isNext", "(II)Z"⟩
abbrev mX4_isNext : MD := (prog_6_method_5_code, 3, (some .boolean), RX4, yX4_isNext)
def yX4_next : MethodName := ⟨RX4, "next", "(I)I"⟩
abbrev mX4_next : MD := (prog_6_method_6_code, 4, (some .int), RX4, yX4_next)
def yX4_inOrder : MethodName := ⟨RX4, "inOrder", "(I)I"⟩
abbrev mX4_inOrder : MD := (prog_6_method_7_code, 6, (some .int), RX4, yX4_inOrder)
def yX4_smallestRing : MethodName := ⟨RX4, "smallestRing", "()I"⟩
abbrev mX4_smallestRing : MD := (prog_6_method_8_code, 4, (some .int), RX4, yX4_smallestRing)
def yX4_ringFrom : MethodName := ⟨RX4, "ringFrom", "(I)I"⟩
abbrev mX4_ringFrom : MD := (prog_6_method_9_code, 6, (some .int), RX4, yX4_ringFrom)
def yX4_fewestDropped : MethodName := ⟨RX4, "fewestDropped", "()I"⟩
abbrev mX4_fewestDropped : MD := (prog_6_method_10_code, 6, (some .int), RX4, yX4_fewestDropped)
def yX5_init : MethodName := ⟨RX5, "<init>", "()V"⟩
abbrev mX5_init : MD := (prog_7_method_1_code, 2, none, RX5, yX5_init)
def yX5_far : MethodName := ⟨RX5, "far", "(I)I"⟩
abbrev mX5_far : MD := (prog_7_method_2_code, 2, (some .int), RX5, yX5_far)
def yX5_isLit : MethodName := ⟨RX5, "isLit", "(II)Z"⟩
abbrev mX5_isLit : MD := (prog_7_method_3_code, 9, (some .boolean), RX5, yX5_isLit)
def yX5_lit : MethodName := ⟨RX5, "lit", "(I)J"⟩
abbrev mX5_lit : MD := (prog_7_method_4_code, 5, (some .long), RX5, yX5_lit)
def yX5_flat : MethodName := ⟨RX5, "flat", "()J"⟩
abbrev mX5_flat : MD := (prog_7_method_5_code, 4, (some .long), RX5, yX5_flat)
def yX5_nearer : MethodName := ⟨RX5, "nearer", "(I)I"⟩
abbrev mX5_nearer : MD := (prog_7_method_6_code, 4, (some .int), RX5, yX5_nearer)
def yX5_carried : MethodName := ⟨RX5, "carried", "(I)I"⟩
abbrev mX5_carried : MD := (prog_7_method_7_code, 4, (some .int), RX5, yX5_carried)
def yX6_init : MethodName := ⟨RX6, "<init>", "(LDrownedLight$Sea;LDrownedLight$Law;)V"⟩
abbrev mX6_init : MD := (prog_8_method_1_code, 4, none, RX6, yX6_init)
def yX6_isNight : MethodName := ⟨RX6, "isNight", "(LDrownedLight$Shelf;I)Z"⟩
abbrev mX6_isNight : MD := (prog_8_method_2_code, 3, (some .boolean), RX6, yX6_isNight)
def yX6_behind : MethodName := ⟨RX6, "behind", "(LDrownedLight$Stand;LDrownedLight$Shelf;I)LDrownedLight$Stand;"⟩
abbrev mX6_behind : MD := (prog_8_method_3_code, 6, (some (.object "DrownedLight$Stand")), RX6, yX6_behind)
def yX6_firstHome : MethodName := ⟨RX6, "firstHome", "(LDrownedLight$Stand;LDrownedLight$Shelf;I)I"⟩
abbrev mX6_firstHome : MD := (prog_8_method_4_code, 6, (some .int), RX6, yX6_firstHome)
def yX6_wayOf : MethodName := ⟨RX6, "wayOf", "(III)I"⟩
abbrev mX6_wayOf : MD := (prog_8_method_5_code, 4, (some .int), RX6, yX6_wayOf)
def yX6_follow : MethodName := ⟨RX6, "follow", "(II)LDrownedLight$Stand;"⟩
abbrev mX6_follow : MD := (prog_8_method_6_code, 4, (some (.object "DrownedLight$Stand")), RX6, yX6_follow)
def yX6_findBest : MethodName := ⟨RX6, "findBest", "(LDrownedLight$Stand;I)V"⟩
abbrev mX6_findBest : MD := (prog_8_method_7_code, 6, none, RX6, yX6_findBest)
def yX6_fewest : MethodName := ⟨RX6, "fewest", "(LDrownedLight$Stand;I)I"⟩
abbrev mX6_fewest : MD := (prog_8_method_8_code, 5, (some .int), RX6, yX6_fewest)
def yX6_turnAbout : MethodName := ⟨RX6, "turnAbout", "(LDrownedLight$Stand;II)I"⟩
abbrev mX6_turnAbout : MD := (prog_8_method_9_code, 6, (some .int), RX6, yX6_turnAbout)
def yX6_bestOf : MethodName := ⟨RX6, "bestOf", "(IZ)I"⟩
abbrev mX6_bestOf : MD := (prog_8_method_10_code, 6, (some .int), RX6, yX6_bestOf)
def yX6_draw : MethodName := ⟨RX6, "draw", "(LDrownedLight$Stand;IIII)V"⟩
abbrev mX6_draw : MD := (prog_8_method_11_code, 10, none, RX6, yX6_draw)
def yX6_homeInAll : MethodName := ⟨RX6, "homeInAll", "()I"⟩
abbrev mX6_homeInAll : MD := (prog_8_method_12_code, 3, (some .int), RX6, yX6_homeInAll)
def yX7_init : MethodName := ⟨RX7, "<init>", "()V"⟩
abbrev mX7_init : MD := (prog_9_method_1_code, 1, none, RX7, yX7_init)
def yX7_isEmpty : MethodName := ⟨RX7, "isEmpty", "()Z"⟩
abbrev mX7_isEmpty : MD := (prog_9_method_2_code, 1, (some .boolean), RX7, yX7_isEmpty)
def yX7_isRow : MethodName := ⟨RX7, "isRow", "()Z"⟩
abbrev mX7_isRow : MD := (prog_9_method_3_code, 1, (some .boolean), RX7, yX7_isRow)
def yX7_isRowOfBytes : MethodName := ⟨RX7, "isRowOfBytes", "()Z"⟩
abbrev mX7_isRowOfBytes : MD := (prog_9_method_4_code, 1, (some .boolean), RX7, yX7_isRowOfBytes)
def yX7_hasPlaces : MethodName := ⟨RX7, "hasPlaces", "(II)Z"⟩
abbrev mX7_hasPlaces : MD := (prog_9_method_5_code, 3, (some .boolean), RX7, yX7_hasPlaces)
def yX7_holdBody : MethodName := ⟨RX7, "holdBody", "(I)V"⟩
abbrev mX7_holdBody : MD := (prog_9_method_6_code, 2, none, RX7, yX7_holdBody)
def yX7_holdRow : MethodName := ⟨RX7, "holdRow", "(II)V"⟩
abbrev mX7_holdRow : MD := (prog_9_method_7_code, 4, none, RX7, yX7_holdRow)
def yX7_number : MethodName := ⟨RX7, "number", "(I)I"⟩
abbrev mX7_number : MD := (prog_9_method_8_code, 2, (some .int), RX7, yX7_number)
def yX7_set : MethodName := ⟨RX7, "set", "(IJ)V"⟩
abbrev mX7_set : MD := (prog_9_method_9_code, 4, none, RX7, yX7_set)
def yX7_lowestBits : MethodName := ⟨RX7, "lowestBits", "(J)J"⟩
abbrev mX7_lowestBits : MD := (prog_9_method_10_code, 3, (some .long), RX7, yX7_lowestBits)
def yX8_init : MethodName := ⟨RX8, "<init>", "(LDrownedLight$Sea;LDrownedLight$Law;)V"⟩
abbrev mX8_init : MD := (prog_10_method_1_code, 3, none, RX8, yX8_init)
def yX8_isHome : MethodName := ⟨RX8, "isHome", "(I)Z"⟩
abbrev mX8_isHome : MD := (prog_10_method_2_code, 2, (some .boolean), RX8, yX8_isHome)
def yX8_setHome : MethodName := ⟨RX8, "setHome", "(IZ)V"⟩
abbrev mX8_setHome : MD := (prog_10_method_3_code, 3, none, RX8, yX8_setHome)
def yX8_become : MethodName := ⟨RX8, "become", "(LDrownedLight$Stand;)V"⟩
abbrev mX8_become : MD := (prog_10_method_4_code, 2, none, RX8, yX8_become)
def yX8_layBack : MethodName := ⟨RX8, "layBack", "(LDrownedLight$Stand;)V"⟩
abbrev mX8_layBack : MD := (prog_10_method_5_code, 3, none, RX8, yX8_layBack)
def yX8_pass : MethodName := ⟨RX8, "pass", "(I)I"⟩
abbrev mX8_pass : MD := (prog_10_method_6_code, 5, (some .int), RX8, yX8_pass)
def yX8_pull : MethodName := ⟨RX8, "pull", "(I)I"⟩
abbrev mX8_pull : MD := (prog_10_method_7_code, 5, (some .int), RX8, yX8_pull)
def yX8_awayOf : MethodName := ⟨RX8, "awayOf", "(I)I"⟩
abbrev mX8_awayOf : MD := (prog_10_method_8_code, 4, (some .int), RX8, yX8_awayOf)
def yX8_claim : MethodName := ⟨RX8, "claim", "(I)I"⟩
abbrev mX8_claim : MD := (prog_10_method_9_code, 4, (some .int), RX8, yX8_claim)
def yX9_init : MethodName := ⟨RX9, "<init>", "()V"⟩
abbrev mX9_init : MD := (prog_11_method_1_code, 1, none, RX9, yX9_init)
def yX9_take : MethodName := ⟨RX9, "take", "(I)Z"⟩
abbrev mX9_take : MD := (prog_11_method_2_code, 2, (some .boolean), RX9, yX9_take)
def yX9_read : MethodName := ⟨RX9, "read", "()Z"⟩
abbrev mX9_read : MD := (prog_11_method_3_code, 2, (some .boolean), RX9, yX9_read)
def yX9_isNext : MethodName := ⟨RX9, "isNext", "(I)Z"⟩
abbrev mX9_isNext : MD := (prog_11_method_4_code, 2, (some .boolean), RX9, yX9_isNext)
def yX9_write : MethodName := ⟨RX9, "write", "(II)V"⟩
abbrev mX9_write : MD := (prog_11_method_5_code, 3, none, RX9, yX9_write)
def yX9_readLine : MethodName := ⟨RX9, "readLine", "()Z"⟩
abbrev mX9_readLine : MD := (prog_11_method_6_code, 2, (some .boolean), RX9, yX9_readLine)
def yX9_readTier : MethodName := ⟨RX9, "readTier", "(II)Z"⟩
abbrev mX9_readTier : MD := (prog_11_method_7_code, 5, (some .boolean), RX9, yX9_readTier)
def yX9_readPart : MethodName := ⟨RX9, "readPart", "(II)Z"⟩
abbrev mX9_readPart : MD := (prog_11_method_8_code, 3, (some .boolean), RX9, yX9_readPart)
def yX9_readOperand : MethodName := ⟨RX9, "readOperand", "(I)Z"⟩
abbrev mX9_readOperand : MD := (prog_11_method_9_code, 5, (some .boolean), RX9, yX9_readOperand)
def yX9_readClosing : MethodName := ⟨RX9, "readClosing", "()Z"⟩
abbrev mX9_readClosing : MD := (prog_11_method_10_code, 1, (some .boolean), RX9, yX9_readClosing)
def yX9_readNumber : MethodName := ⟨RX9, "readNumber", "()V"⟩
abbrev mX9_readNumber : MD := (prog_11_method_11_code, 3, none, RX9, yX9_readNumber)
def yX9_tierOf : MethodName := ⟨RX9, "tierOf", "(I)I"⟩
abbrev mX9_tierOf : MD := (prog_11_method_12_code, 2, (some .int), RX9, yX9_tierOf)
def yX9_nameOf : MethodName := ⟨RX9, "nameOf", "(I)I"⟩
abbrev mX9_nameOf : MD := (prog_11_method_13_code, 2, (some .int), RX9, yX9_nameOf)
def yX10_init : MethodName := ⟨RX10, "<init>", "()V"⟩
abbrev mX10_init : MD := (prog_1_method_1_code, 2, none, RX10, yX10_init)
def yX10_lost : MethodName := ⟨RX10, "lost", "(II)I"⟩
abbrev mX10_lost : MD := (prog_1_method_2_code, 3, (some .int), RX10, yX10_lost)
def yX10_losts : MethodName := ⟨RX10, "losts", "(III)I"⟩
abbrev mX10_losts : MD := (prog_1_method_3_code, 7, (some .int), RX10, yX10_losts)
def yX10_mend : MethodName := ⟨RX10, "mend", "(III)I"⟩
abbrev mX10_mend : MD := (prog_1_method_4_code, 5, (some .int), RX10, yX10_mend)
def yX10_of : MethodName := ⟨RX10, "of", "(II)I"⟩
abbrev mX10_of : MD := (prog_1_method_5_code, 3, (some .int), RX10, yX10_of)
def yX10_feed : MethodName := ⟨RX10, "feed", "(I)I"⟩
abbrev mX10_feed : MD := (prog_1_method_6_code, 2, (some .int), RX10, yX10_feed)
def yX10_law : MethodName := ⟨RX10, "law", "()I"⟩
abbrev mX10_law : MD := (prog_1_method_7_code, 3, (some .int), RX10, yX10_law)
def yX10_draws : MethodName := ⟨RX10, "draws", "(I)I"⟩
abbrev mX10_draws : MD := (prog_1_method_8_code, 2, (some .int), RX10, yX10_draws)
def yX10_seen : MethodName := ⟨RX10, "seen", "(I)J"⟩
abbrev mX10_seen : MD := (prog_1_method_9_code, 2, (some .long), RX10, yX10_seen)
def yX10_later : MethodName := ⟨RX10, "later", "(IIII)I"⟩
abbrev mX10_later : MD := (prog_1_method_10_code, 7, (some .int), RX10, yX10_later)
def yX10_home : MethodName := ⟨RX10, "home", "(III)I"⟩
abbrev mX10_home : MD := (prog_1_method_11_code, 6, (some .int), RX10, yX10_home)
def yX10_since : MethodName := ⟨RX10, "since", "(II)I"⟩
abbrev mX10_since : MD := (prog_1_method_12_code, 4, (some .int), RX10, yX10_since)
def yX10_best : MethodName := ⟨RX10, "best", "(II)I"⟩
abbrev mX10_best : MD := (prog_1_method_13_code, 3, (some .int), RX10, yX10_best)
def yX10_fetch : MethodName := ⟨RX10, "fetch", "(II)I"⟩
abbrev mX10_fetch : MD := (prog_1_method_14_code, 4, (some .int), RX10, yX10_fetch)
def yX10_drifted : MethodName := ⟨RX10, "drifted", "(II)J"⟩
abbrev mX10_drifted : MD := (prog_1_method_15_code, 3, (some .long), RX10, yX10_drifted)
def yX10_ashore : MethodName := ⟨RX10, "ashore", "(III)I"⟩
abbrev mX10_ashore : MD := (prog_1_method_16_code, 5, (some .int), RX10, yX10_ashore)
def yX10_order : MethodName := ⟨RX10, "order", "(II)I"⟩
abbrev mX10_order : MD := (prog_1_method_17_code, 4, (some .int), RX10, yX10_order)
def yX10_clash : MethodName := ⟨RX10, "clash", "(II)I"⟩
abbrev mX10_clash : MD := (prog_1_method_18_code, 4, (some .int), RX10, yX10_clash)
def yX10_may : MethodName := ⟨RX10, "may", "(II)I"⟩
abbrev mX10_may : MD := (prog_1_method_19_code, 4, (some .int), RX10, yX10_may)
def yX10_share : MethodName := ⟨RX10, "share", "(II)I"⟩
abbrev mX10_share : MD := (prog_1_method_20_code, 5, (some .int), RX10, yX10_share)
def yX10_heard : MethodName := ⟨RX10, "heard", "(II)J"⟩
abbrev mX10_heard : MD := (prog_1_method_21_code, 7, (some .long), RX10, yX10_heard)
def yX10_byTurns : MethodName := ⟨RX10, "byTurns", "(III)I"⟩
abbrev mX10_byTurns : MD := (prog_1_method_22_code, 5, (some .int), RX10, yX10_byTurns)
def yX10_drawn : MethodName := ⟨RX10, "drawn", "(III)I"⟩
abbrev mX10_drawn : MD := (prog_1_method_23_code, 7, (some .int), RX10, yX10_drawn)
def yX10_night : MethodName := ⟨RX10, "night", "(I)I"⟩
abbrev mX10_night : MD := (prog_1_method_24_code, 2, (some .int), RX10, yX10_night)
def yX10_oil : MethodName := ⟨RX10, "oil", "(I)I"⟩
abbrev mX10_oil : MD := (prog_1_method_25_code, 2, (some .int), RX10, yX10_oil)
def yX10_led : MethodName := ⟨RX10, "led", "(I)I"⟩
abbrev mX10_led : MD := (prog_1_method_26_code, 2, (some .int), RX10, yX10_led)
def yX10_image : MethodName := ⟨RX10, "image", "()I"⟩
abbrev mX10_image : MD := (prog_1_method_27_code, 1, (some .int), RX10, yX10_image)
def yX10_back : MethodName := ⟨RX10, "back", "()I"⟩
abbrev mX10_back : MD := (prog_1_method_28_code, 1, (some .int), RX10, yX10_back)
def yX10_undo : MethodName := ⟨RX10, "undo", "()I"⟩
abbrev mX10_undo : MD := (prog_1_method_29_code, 2, (some .int), RX10, yX10_undo)
def yX10_redo : MethodName := ⟨RX10, "redo", "()I"⟩
abbrev mX10_redo : MD := (prog_1_method_30_code, 2, (some .int), RX10, yX10_redo)
def yX10_body : MethodName := ⟨RX10, "body", "(I)I"⟩
abbrev mX10_body : MD := (prog_1_method_31_code, 2, (some .int), RX10, yX10_body)
def yX10_act : MethodName := ⟨RX10, "act", "(III)I"⟩
abbrev mX10_act : MD := (prog_1_method_32_code, 4, (some .int), RX10, yX10_act)
def yX10_trace : MethodName := ⟨RX10, "trace", "(I)I"⟩
abbrev mX10_trace : MD := (prog_1_method_33_code, 2, (some .int), RX10, yX10_trace)
def yX10_keep : MethodName := ⟨RX10, "keep", "(II)I"⟩
abbrev mX10_keep : MD := (prog_1_method_34_code, 3, (some .int), RX10, yX10_keep)
def yX10_row : MethodName := ⟨RX10, "row", "(III)I"⟩
abbrev mX10_row : MD := (prog_1_method_35_code, 4, (some .int), RX10, yX10_row)
def yX10_put : MethodName := ⟨RX10, "put", "(IIJ)I"⟩
abbrev mX10_put : MD := (prog_1_method_36_code, 6, (some .int), RX10, yX10_put)
def yX10_element : MethodName := ⟨RX10, "element", "(II)J"⟩
abbrev mX10_element : MD := (prog_1_method_37_code, 3, (some .long), RX10, yX10_element)
def yX10_shift : MethodName := ⟨RX10, "shift", "(IIIII)I"⟩
abbrev mX10_shift : MD := (prog_1_method_38_code, 8, (some .int), RX10, yX10_shift)
def yX10_taken : MethodName := ⟨RX10, "taken", "(II)I"⟩
abbrev mX10_taken : MD := (prog_1_method_39_code, 4, (some .int), RX10, yX10_taken)
def yX10_count : MethodName := ⟨RX10, "count", "(I)I"⟩
abbrev mX10_count : MD := (prog_1_method_40_code, 2, (some .int), RX10, yX10_count)
def yX10_isLost : MethodName := ⟨RX10, "isLost", "(I)Z"⟩
abbrev mX10_isLost : MD := (prog_1_method_41_code, 2, (some .boolean), RX10, yX10_isLost)
def yX10_isWay : MethodName := ⟨RX10, "isWay", "(I)Z"⟩
abbrev mX10_isWay : MD := (prog_1_method_42_code, 2, (some .boolean), RX10, yX10_isWay)
def yX10_isShelf : MethodName := ⟨RX10, "isShelf", "(I)Z"⟩
abbrev mX10_isShelf : MD := (prog_1_method_43_code, 2, (some .boolean), RX10, yX10_isShelf)
def yX10_isCountOfNights : MethodName := ⟨RX10, "isCountOfNights", "(I)Z"⟩
abbrev mX10_isCountOfNights : MD := (prog_1_method_44_code, 2, (some .boolean), RX10, yX10_isCountOfNights)
def yX10_isWithin : MethodName := ⟨RX10, "isWithin", "(II)Z"⟩
abbrev mX10_isWithin : MD := (prog_1_method_45_code, 3, (some .boolean), RX10, yX10_isWithin)
def yX10_isLostOne : MethodName := ⟨RX10, "isLostOne", "(LDrownedLight$Shelf;I)Z"⟩
abbrev mX10_isLostOne : MD := (prog_1_method_46_code, 3, (some .boolean), RX10, yX10_isLostOne)
def yX10_isNumbered : MethodName := ⟨RX10, "isNumbered", "(II)Z"⟩
abbrev mX10_isNumbered : MD := (prog_1_method_47_code, 3, (some .boolean), RX10, yX10_isNumbered)
def yX10_addLost : MethodName := ⟨RX10, "addLost", "(III)I"⟩
abbrev mX10_addLost : MD := (prog_1_method_48_code, 5, (some .int), RX10, yX10_addLost)
def yX10_told : MethodName := ⟨RX10, "told", "(II)I"⟩
abbrev mX10_told : MD := (prog_1_method_49_code, 3, (some .int), RX10, yX10_told)
def yX10_tell : MethodName := ⟨RX10, "tell", "(III)V"⟩
abbrev mX10_tell : MD := (prog_1_method_50_code, 4, none, RX10, yX10_tell)
def yX10_refusalOfBytes : MethodName := ⟨RX10, "refusalOfBytes", "(I)I"⟩
abbrev mX10_refusalOfBytes : MD := (prog_1_method_51_code, 2, (some .int), RX10, yX10_refusalOfBytes)
def yX10_refusalOfPlace : MethodName := ⟨RX10, "refusalOfPlace", "(II)I"⟩
abbrev mX10_refusalOfPlace : MD := (prog_1_method_52_code, 3, (some .int), RX10, yX10_refusalOfPlace)
def yX10_readRules : MethodName := ⟨RX10, "readRules", "(I)I"⟩
abbrev mX10_readRules : MD := (prog_1_method_53_code, 3, (some .int), RX10, yX10_readRules)
def yX10_commonDivisor : MethodName := ⟨RX10, "commonDivisor", "(II)I"⟩
abbrev mX10_commonDivisor : MD := (prog_1_method_54_code, 4, (some .int), RX10, yX10_commonDivisor)
def yX11_within : MethodName := ⟨RX11, "within", "(JJJ)Z"⟩
abbrev mX11_within : MD := (prog_13_method_1_code, 6, (some .boolean), RX11, yX11_within)
def yX11_isIn : MethodName := ⟨RX11, "isIn", "(II)Z"⟩
abbrev mX11_isIn : MD := (prog_13_method_2_code, 2, (some .boolean), RX11, yX11_isIn)
def yX11_init : MethodName := ⟨RX11, "<init>", "()V"⟩
abbrev mX11_init : MD := (prog_13_method_3_code, 2, none, RX11, yX11_init)
def yX11_becomes : MethodName := ⟨RX11, "becomes", "(II)I"⟩
abbrev mX11_becomes : MD := (prog_13_method_4_code, 5, (some .int), RX11, yX11_becomes)
def yX11_undo : MethodName := ⟨RX11, "undo", "()I"⟩
abbrev mX11_undo : MD := (prog_13_method_5_code, 1, (some .int), RX11, yX11_undo)
def yX11_redo : MethodName := ⟨RX11, "redo", "()I"⟩
abbrev mX11_redo : MD := (prog_13_method_6_code, 1, (some .int), RX11, yX11_redo)
def yX11_isLost : MethodName := ⟨RX11, "isLost", "(J)Z"⟩
abbrev mX11_isLost : MD := (prog_13_method_7_code, 3, (some .boolean), RX11, yX11_isLost)
def yX11_isCell : MethodName := ⟨RX11, "isCell", "(J)Z"⟩
abbrev mX11_isCell : MD := (prog_13_method_8_code, 2, (some .boolean), RX11, yX11_isCell)
def yX11_mayCome : MethodName := ⟨RX11, "mayCome", "(JJJ)Z"⟩
abbrev mX11_mayCome : MD := (prog_13_method_9_code, 6, (some .boolean), RX11, yX11_mayCome)
def yX11_adds : MethodName := ⟨RX11, "adds", "(III)V"⟩
abbrev mX11_adds : MD := (prog_13_method_10_code, 4, none, RX11, yX11_adds)
def yX11_lost : MethodName := ⟨RX11, "lost", "(II)I"⟩
abbrev mX11_lost : MD := (prog_13_method_11_code, 3, (some .int), RX11, yX11_lost)
def yX11_losts : MethodName := ⟨RX11, "losts", "(III)I"⟩
abbrev mX11_losts : MD := (prog_13_method_12_code, 7, (some .int), RX11, yX11_losts)
def yX11_placeOf : MethodName := ⟨RX11, "placeOf", "(II)I"⟩
abbrev mX11_placeOf : MD := (prog_13_method_13_code, 3, (some .int), RX11, yX11_placeOf)
def yX11_mayBecome : MethodName := ⟨RX11, "mayBecome", "(II)Z"⟩
abbrev mX11_mayBecome : MD := (prog_13_method_14_code, 2, (some .boolean), RX11, yX11_mayBecome)
def yX11_mend : MethodName := ⟨RX11, "mend", "(III)I"⟩
abbrev mX11_mend : MD := (prog_13_method_15_code, 5, (some .int), RX11, yX11_mend)
def yX11_of : MethodName := ⟨RX11, "of", "(II)I"⟩
abbrev mX11_of : MD := (prog_13_method_16_code, 4, (some .int), RX11, yX11_of)
def yX11_feed : MethodName := ⟨RX11, "feed", "(I)I"⟩
abbrev mX11_feed : MD := (prog_13_method_17_code, 2, (some .int), RX11, yX11_feed)
def yX11_byteAt : MethodName := ⟨RX11, "byteAt", "()I"⟩
abbrev mX11_byteAt : MD := (prog_13_method_18_code, 1, (some .int), RX11, yX11_byteAt)
def yX11_wrong : MethodName := ⟨RX11, "wrong", "()I"⟩
abbrev mX11_wrong : MD := (prog_13_method_19_code, 1, (some .int), RX11, yX11_wrong)
def yX11_takes : MethodName := ⟨RX11, "takes", "(I)Z"⟩
abbrev mX11_takes : MD := (prog_13_method_20_code, 2, (some .boolean), RX11, yX11_takes)
def yX11_either : MethodName := ⟨RX11, "either", "()I"⟩
abbrev mX11_either : MD := (prog_13_method_21_code, 3, (some .int), RX11, yX11_either)
def yX11_both : MethodName := ⟨RX11, "both", "()I"⟩
abbrev mX11_both : MD := (prog_13_method_22_code, 3, (some .int), RX11, yX11_both)
def yX11_compared : MethodName := ⟨RX11, "compared", "()I"⟩
abbrev mX11_compared : MD := (prog_13_method_23_code, 4, (some .int), RX11, yX11_compared)
def yX11_sums : MethodName := ⟨RX11, "sums", "()I"⟩
abbrev mX11_sums : MD := (prog_13_method_24_code, 4, (some .int), RX11, yX11_sums)
def yX11_product : MethodName := ⟨RX11, "product", "()I"⟩
abbrev mX11_product : MD := (prog_13_method_25_code, 4, (some .int), RX11, yX11_product)
def yX11_nameOf : MethodName := ⟨RX11, "nameOf", "(I)I"⟩
abbrev mX11_nameOf : MD := (prog_13_method_26_code, 1, (some .int), RX11, yX11_nameOf)
def yX11_one : MethodName := ⟨RX11, "one", "()I"⟩
abbrev mX11_one : MD := (prog_13_method_27_code, 5, (some .int), RX11, yX11_one)
def yX11_workOut : MethodName := ⟨RX11, "workOut", "(II)I"⟩
abbrev mX11_workOut : MD := (prog_13_method_28_code, 8, (some .int), RX11, yX11_workOut)
def yX11_law : MethodName := ⟨RX11, "law", "()I"⟩
abbrev mX11_law : MD := (prog_13_method_29_code, 4, (some .int), RX11, yX11_law)
def yX11_begins : MethodName := ⟨RX11, "begins", "()V"⟩
abbrev mX11_begins : MD := (prog_13_method_30_code, 2, none, RX11, yX11_begins)
def yX11_sizeOf : MethodName := ⟨RX11, "sizeOf", "(I)I"⟩
abbrev mX11_sizeOf : MD := (prog_13_method_31_code, 1, (some .int), RX11, yX11_sizeOf)
def yX11_alongX : MethodName := ⟨RX11, "alongX", "(I)I"⟩
abbrev mX11_alongX : MD := (prog_13_method_32_code, 2, (some .int), RX11, yX11_alongX)
def yX11_alongY : MethodName := ⟨RX11, "alongY", "(I)I"⟩
abbrev mX11_alongY : MD := (prog_13_method_33_code, 2, (some .int), RX11, yX11_alongY)
def yX11_isSeen : MethodName := ⟨RX11, "isSeen", "(II)Z"⟩
abbrev mX11_isSeen : MD := (prog_13_method_34_code, 5, (some .boolean), RX11, yX11_isSeen)
def yX11_drawsOf : MethodName := ⟨RX11, "drawsOf", "(I)I"⟩
abbrev mX11_drawsOf : MD := (prog_13_method_35_code, 6, (some .int), RX11, yX11_drawsOf)
def yX11_driftsTo : MethodName := ⟨RX11, "driftsTo", "(I)I"⟩
abbrev mX11_driftsTo : MD := (prog_13_method_36_code, 5, (some .int), RX11, yX11_driftsTo)
def yX11_walksTo : MethodName := ⟨RX11, "walksTo", "(I)I"⟩
abbrev mX11_walksTo : MD := (prog_13_method_37_code, 4, (some .int), RX11, yX11_walksTo)
def yX11_goesNight : MethodName := ⟨RX11, "goesNight", "(I)V"⟩
abbrev mX11_goesNight : MD := (prog_13_method_38_code, 4, none, RX11, yX11_goesNight)
def yX11_draws : MethodName := ⟨RX11, "draws", "(I)I"⟩
abbrev mX11_draws : MD := (prog_13_method_39_code, 2, (some .int), RX11, yX11_draws)
def yX11_seen : MethodName := ⟨RX11, "seen", "(I)J"⟩
abbrev mX11_seen : MD := (prog_13_method_40_code, 5, (some .long), RX11, yX11_seen)
def yX11_bytesIs : MethodName := ⟨RX11, "bytesIs", "(I)I"⟩
abbrev mX11_bytesIs : MD := (prog_13_method_41_code, 2, (some .int), RX11, yX11_bytesIs)
def yX11_nightMany : MethodName := ⟨RX11, "nightMany", "(I)I"⟩
abbrev mX11_nightMany : MD := (prog_13_method_42_code, 3, (some .int), RX11, yX11_nightMany)
def yX11_goesNights : MethodName := ⟨RX11, "goesNights", "(II)V"⟩
abbrev mX11_goesNights : MD := (prog_13_method_43_code, 5, none, RX11, yX11_goesNights)
def yX11_homeSet : MethodName := ⟨RX11, "homeSet", "()I"⟩
abbrev mX11_homeSet : MD := (prog_13_method_44_code, 3, (some .int), RX11, yX11_homeSet)
def yX11_homeMany : MethodName := ⟨RX11, "homeMany", "()I"⟩
abbrev mX11_homeMany : MD := (prog_13_method_45_code, 3, (some .int), RX11, yX11_homeMany)
def yX11_later : MethodName := ⟨RX11, "later", "(IIII)I"⟩
abbrev mX11_later : MD := (prog_13_method_46_code, 5, (some .int), RX11, yX11_later)
def yX11_home : MethodName := ⟨RX11, "home", "(III)I"⟩
abbrev mX11_home : MD := (prog_13_method_47_code, 4, (some .int), RX11, yX11_home)
def yX11_since : MethodName := ⟨RX11, "since", "(II)I"⟩
abbrev mX11_since : MD := (prog_13_method_48_code, 5, (some .int), RX11, yX11_since)
def yX11_triesWays : MethodName := ⟨RX11, "triesWays", "(II)V"⟩
abbrev mX11_triesWays : MD := (prog_13_method_49_code, 4, none, RX11, yX11_triesWays)
def yX11_best : MethodName := ⟨RX11, "best", "(II)I"⟩
abbrev mX11_best : MD := (prog_13_method_50_code, 3, (some .int), RX11, yX11_best)
def yX11_fetches : MethodName := ⟨RX11, "fetches", "(III)Z"⟩
abbrev mX11_fetches : MD := (prog_13_method_51_code, 5, (some .boolean), RX11, yX11_fetches)
def yX11_fetch : MethodName := ⟨RX11, "fetch", "(II)I"⟩
abbrev mX11_fetch : MD := (prog_13_method_52_code, 4, (some .int), RX11, yX11_fetch)
def yX11_drifted : MethodName := ⟨RX11, "drifted", "(II)J"⟩
abbrev mX11_drifted : MD := (prog_13_method_53_code, 9, (some .long), RX11, yX11_drifted)
def yX11_firstFalse : MethodName := ⟨RX11, "firstFalse", "(III)I"⟩
abbrev mX11_firstFalse : MD := (prog_13_method_54_code, 9, (some .int), RX11, yX11_firstFalse)
def yX11_ashore : MethodName := ⟨RX11, "ashore", "(III)I"⟩
abbrev mX11_ashore : MD := (prog_13_method_55_code, 7, (some .int), RX11, yX11_ashore)
def yX11_takesRules : MethodName := ⟨RX11, "takesRules", "(I)V"⟩
abbrev mX11_takesRules : MD := (prog_13_method_56_code, 7, none, RX11, yX11_takesRules)
def yX11_mayNow : MethodName := ⟨RX11, "mayNow", "(II)Z"⟩
abbrev mX11_mayNow : MD := (prog_13_method_57_code, 4, (some .boolean), RX11, yX11_mayNow)
def yX11_order : MethodName := ⟨RX11, "order", "(II)I"⟩
abbrev mX11_order : MD := (prog_13_method_58_code, 8, (some .int), RX11, yX11_order)
def yX11_ring : MethodName := ⟨RX11, "ring", "()I"⟩
abbrev mX11_ring : MD := (prog_13_method_59_code, 6, (some .int), RX11, yX11_ring)
def yX11_drops : MethodName := ⟨RX11, "drops", "()I"⟩
abbrev mX11_drops : MD := (prog_13_method_60_code, 5, (some .int), RX11, yX11_drops)
def yX11_clash : MethodName := ⟨RX11, "clash", "(II)I"⟩
abbrev mX11_clash : MD := (prog_13_method_61_code, 3, (some .int), RX11, yX11_clash)
def yX11_may : MethodName := ⟨RX11, "may", "(II)I"⟩
abbrev mX11_may : MD := (prog_13_method_62_code, 5, (some .int), RX11, yX11_may)
def yX11_weightOf : MethodName := ⟨RX11, "weightOf", "(I)I"⟩
abbrev mX11_weightOf : MD := (prog_13_method_63_code, 5, (some .int), RX11, yX11_weightOf)
def yX11_share : MethodName := ⟨RX11, "share", "(II)I"⟩
abbrev mX11_share : MD := (prog_13_method_64_code, 5, (some .int), RX11, yX11_share)
def yX11_heard : MethodName := ⟨RX11, "heard", "(II)J"⟩
abbrev mX11_heard : MD := (prog_13_method_65_code, 8, (some .long), RX11, yX11_heard)
def yX11_worthOf : MethodName := ⟨RX11, "worthOf", "(I)I"⟩
abbrev mX11_worthOf : MD := (prog_13_method_66_code, 4, (some .int), RX11, yX11_worthOf)
def yX11_playsFrom : MethodName := ⟨RX11, "playsFrom", "(III)I"⟩
abbrev mX11_playsFrom : MD := (prog_13_method_67_code, 7, (some .int), RX11, yX11_playsFrom)
def yX11_byTurns : MethodName := ⟨RX11, "byTurns", "(III)I"⟩
abbrev mX11_byTurns : MD := (prog_13_method_68_code, 7, (some .int), RX11, yX11_byTurns)
def yX11_drawn : MethodName := ⟨RX11, "drawn", "(III)I"⟩
abbrev mX11_drawn : MD := (prog_13_method_69_code, 9, (some .int), RX11, yX11_drawn)
def yX11_night : MethodName := ⟨RX11, "night", "(I)I"⟩
abbrev mX11_night : MD := (prog_13_method_70_code, 3, (some .int), RX11, yX11_night)
def yX11_oil : MethodName := ⟨RX11, "oil", "(I)I"⟩
abbrev mX11_oil : MD := (prog_13_method_71_code, 2, (some .int), RX11, yX11_oil)
def yX11_led : MethodName := ⟨RX11, "led", "(I)I"⟩
abbrev mX11_led : MD := (prog_13_method_72_code, 2, (some .int), RX11, yX11_led)
def yX11_image : MethodName := ⟨RX11, "image", "()I"⟩
abbrev mX11_image : MD := (prog_13_method_73_code, 2, (some .int), RX11, yX11_image)
def yX11_back : MethodName := ⟨RX11, "back", "()I"⟩
abbrev mX11_back : MD := (prog_13_method_74_code, 2, (some .int), RX11, yX11_back)
def yX11_manyHome : MethodName := ⟨RX11, "manyHome", "()I"⟩
abbrev mX11_manyHome : MD := (prog_13_method_75_code, 1, (some .int), RX11, yX11_manyHome)
def yX11_isBody : MethodName := ⟨RX11, "isBody", "(I)Z"⟩
abbrev mX11_isBody : MD := (prog_13_method_76_code, 2, (some .boolean), RX11, yX11_isBody)
def yX11_kindOf : MethodName := ⟨RX11, "kindOf", "(I)I"⟩
abbrev mX11_kindOf : MD := (prog_13_method_77_code, 2, (some .int), RX11, yX11_kindOf)
def yX11_body : MethodName := ⟨RX11, "body", "(I)I"⟩
abbrev mX11_body : MD := (prog_13_method_78_code, 2, (some .int), RX11, yX11_body)
def yX11_above : MethodName := ⟨RX11, "above", "(I)I"⟩
abbrev mX11_above : MD := (prog_13_method_79_code, 1, (some .int), RX11, yX11_above)
def yX11_runs : MethodName := ⟨RX11, "runs", "(I)V"⟩
abbrev mX11_runs : MD := (prog_13_method_80_code, 2, none, RX11, yX11_runs)
def yX11_turnsAs : MethodName := ⟨RX11, "turnsAs", "(II)I"⟩
abbrev mX11_turnsAs : MD := (prog_13_method_81_code, 3, (some .int), RX11, yX11_turnsAs)
def yX11_burnsAs : MethodName := ⟨RX11, "burnsAs", "(II)I"⟩
abbrev mX11_burnsAs : MD := (prog_13_method_82_code, 4, (some .int), RX11, yX11_burnsAs)
def yX11_warnsAs : MethodName := ⟨RX11, "warnsAs", "(II)I"⟩
abbrev mX11_warnsAs : MD := (prog_13_method_83_code, 4, (some .int), RX11, yX11_warnsAs)
def yX11_tellsAs : MethodName := ⟨RX11, "tellsAs", "(II)I"⟩
abbrev mX11_tellsAs : MD := (prog_13_method_84_code, 4, (some .int), RX11, yX11_tellsAs)
def yX11_act : MethodName := ⟨RX11, "act", "(III)I"⟩
abbrev mX11_act : MD := (prog_13_method_85_code, 4, (some .int), RX11, yX11_act)
def yX11_trace : MethodName := ⟨RX11, "trace", "(I)I"⟩
abbrev mX11_trace : MD := (prog_13_method_86_code, 2, (some .int), RX11, yX11_trace)
def yX11_isShelf : MethodName := ⟨RX11, "isShelf", "(I)Z"⟩
abbrev mX11_isShelf : MD := (prog_13_method_87_code, 1, (some .boolean), RX11, yX11_isShelf)
def yX11_keep : MethodName := ⟨RX11, "keep", "(II)I"⟩
abbrev mX11_keep : MD := (prog_13_method_88_code, 3, (some .int), RX11, yX11_keep)
def yX11_row : MethodName := ⟨RX11, "row", "(III)I"⟩
abbrev mX11_row : MD := (prog_13_method_89_code, 5, (some .int), RX11, yX11_row)
def yX11_refusal : MethodName := ⟨RX11, "refusal", "(II)I"⟩
abbrev mX11_refusal : MD := (prog_13_method_90_code, 3, (some .int), RX11, yX11_refusal)
def yX11_asSort : MethodName := ⟨RX11, "asSort", "(IJ)J"⟩
abbrev mX11_asSort : MD := (prog_13_method_91_code, 3, (some .long), RX11, yX11_asSort)
def yX11_put : MethodName := ⟨RX11, "put", "(IIJ)I"⟩
abbrev mX11_put : MD := (prog_13_method_92_code, 6, (some .int), RX11, yX11_put)
def yX11_element : MethodName := ⟨RX11, "element", "(II)J"⟩
abbrev mX11_element : MD := (prog_13_method_93_code, 3, (some .long), RX11, yX11_element)
def yX11_shift : MethodName := ⟨RX11, "shift", "(IIIII)I"⟩
abbrev mX11_shift : MD := (prog_13_method_94_code, 7, (some .int), RX11, yX11_shift)
def yX11_taken : MethodName := ⟨RX11, "taken", "(II)I"⟩
abbrev mX11_taken : MD := (prog_13_method_95_code, 4, (some .int), RX11, yX11_taken)
def yX11_count : MethodName := ⟨RX11, "count", "(I)I"⟩
abbrev mX11_count : MD := (prog_13_method_96_code, 2, (some .int), RX11, yX11_count)
def yJ6_bitCount_0f7a4 : MethodName := ⟨RJ6, "bitCount", "(I)I"⟩
abbrev mJ6_bitCount_0f7a4 : MD := (prog_14_method_49_code, 1, (some .int), RJ6, yJ6_bitCount_0f7a4)
def yJ13_bitCount_95d88 : MethodName := ⟨RJ13, "bitCount", "(J)I"⟩
abbrev mJ13_bitCount_95d88 : MD := (prog_15_method_50_code, 2, (some .int), RJ13, yJ13_bitCount_95d88)
def yJ9_abs_0f7a4 : MethodName := ⟨RJ9, "abs", "(I)I"⟩
abbrev mJ9_abs_0f7a4 : MD := (prog_16_method_59_code, 1, (some .int), RJ9, yJ9_abs_0f7a4)
def yJ9_max_7cf53 : MethodName := ⟨RJ9, "max", "(II)I"⟩
abbrev mJ9_max_7cf53 : MD := (prog_16_method_65_code, 2, (some .int), RJ9, yJ9_max_7cf53)
def yJ9_min_7cf53 : MethodName := ⟨RJ9, "min", "(II)I"⟩
abbrev mJ9_min_7cf53 : MD := (prog_16_method_69_code, 2, (some .int), RJ9, yJ9_min_7cf53)
def yL_law : MethodName := ⟨RL, "law", "([I)Z"⟩
abbrev mL_law : MD := (code, 4, ret, RL, yL_law)
end
section
/-! ===== the abstract machine's words: heaps with small addresses, a frame's judgement, contracts ===== -/
/-- what may change: int fields, int rows, long rows -/
abbrev aH : Type := (Nat → Nat → Int32) × (Nat → Nat → Int32) × (Nat → Nat → Int64)
/-- the shape: kinds, lengths, fields and rows that are references, how many cells -/
abbrev aS : Type := (Nat → Nat) × (Nat → Nat) × (Nat → Nat → Option Nat) × (Nat → Nat → Option Nat) × Nat
/-- the script: its length, its ints -/
abbrev aZ : Type := Nat × (Nat → Int32)
/-- the machine's own numbers: where our cells begin, where the read-only rows lie, classes, array classes -/
abbrev aG : Type := Nat × (Nat → Nat) × va_G × (Nat → ClassId)
def fi (h : aH) : Nat → Nat → Int32 := h.1
def ri (h : aH) : Nat → Nat → Int32 := h.2.1
def rj (h : aH) : Nat → Nat → Int64 := h.2.2
def kd (S : aS) : Nat → Nat := S.1
def ln (S : aS) : Nat → Nat := S.2.1
def fr (S : aS) : Nat → Nat → Option Nat := S.2.2.1
def rr (S : aS) : Nat → Nat → Option Nat := S.2.2.2.1
def nx (S : aS) : Nat := S.2.2.2.2
def sfi (h : aH) (a k : Nat) (v : Int32) : aH := (va_up h.1 a (va_up (h.1 a) k v), h.2.1, h.2.2)
def sri (h : aH) (a k : Nat) (v : Int32) : aH := (h.1, va_up h.2.1 a (va_up (h.2.1 a) k v), h.2.2)
def srj (h : aH) (a k : Nat) (v : Int64) : aH := (h.1, h.2.1, va_up h.2.2 a (va_up (h.2.2 a) k v))
def srow (h : aH) (a : Nat) (f : Nat → Int32) : aH := (h.1, va_up h.2.1 a f, h.2.2)
def srowj (h : aH) (a : Nat) (f : Nat → Int64) : aH := (h.1, h.2.1, va_up h.2.2 a f)
/-- the five static rows: LOWEST, HIGHEST, LINES, OWN, ABOVE -/
def stL : List (List Int) := [[0, 0, 0, 0, 0, 0, 0, 0, 1, 1], [63, 3, 9, 1, 9, 4, 63, 999, 9, 9], [1, 5, 25, 125, 625], [1, 10, 11, 2, 20, 0, 0, 0, 0, 30, 0, 0, 0, 41, 40, 0, 0, 0, 50, 0, 0, 0, 0, 60, 70, 0, 0, 0, 0, 80, 0, 81], [-1, 0, 0, 2, 1, 3, 0, 4]]
def stT : List (String × String) := [("DrownedLight", "LOWEST"), ("DrownedLight", "HIGHEST"), ("DrownedLight$Search", "LINES"), ("DrownedLight$Acts", "OWN"), ("DrownedLight$Acts", "ABOVE")]
/-- read-only rows: 0 to 4 the static ones, 5 the script -/
def roN (Z : aZ) (i : Nat) : Nat := if i < 5 then (stL.getD i []).length else Z.1
def roC (Z : aZ) (i : Nat) : Nat → Int32 := if i < 5 then (fun j => Int32.ofInt ((stL.getD i []).getD j 0)) else Z.2
def adr (g : aG) (a : Nat) : Nat := if a < 1000 then g.1 + a else g.2.1 (a - 1000)
def tv (g : aG) : Value → Value
  | .ref a => .ref (adr g a)
  | v => v
def isRefTy : FieldType → Bool
  | .object _ => true
  | .array _ => true
  | _ => false
def a_fty (ci k : Nat) : FieldType := (tyCl.getD ci (fun _ => .int)) k
def a_N (ci : Nat) : Nat := (vwCl.getD ci ("", fun _ => ("", "", "", false), 0)).2.2
def a_fv (g : aG) (S : aS) (h : aH) (a k : Nat) : Value := if isRefTy (a_fty (kd S a) k) = true then va_rf ((fr S a k).map (adr g)) else .int (fi h a k)
def a_ent (g : aG) (S : aS) (h : aH) (a : Nat) : va_E :=
  if kd S a < 12 then .inr (kd S a, (List.range (a_N (kd S a))).map (a_fv g S h a))
  else if kd S a = 20 then .inl (g.2.2.2 0, (ln S a, .inl (ri h a)))
  else if kd S a = 21 then .inl (g.2.2.2 1, (ln S a, .inr (.inl (rj h a))))
  else .inl (g.2.2.2 (kd S a - 20), (ln S a, .inr (.inr (.inr (.inr (fun j => (rr S a j).map (adr g)))))))
def a_ws (g : aG) (S : aS) (h : aH) : va_W := (List.range (nx S)).map fun a => (g.1 + a, a_ent g S h a)
def a_A (g : aG) : Nat → Prop := fun q => g.1 ≤ q
def a_tys (g : aG) : List (ClassId × FieldType) := [(g.2.2.2 0, .int), (g.2.2.2 1, .long), (g.2.2.2 2, .object "DrownedLight$Stand"), (g.2.2.2 3, .object "DrownedLight$Shelf")]
/-- our cells as the heap has them -/
def HREL (g : aG) (S : aS) (h : aH) (H : Heap) : Prop := nx S ≤ 1000 ∧ va_P g.2.2.1 vwCl (a_ws g S h) H
/-- words of the nest, and of arrays of objects -/
def nestW : List Cond := [Cond.methodLinkNest RX10 18 yX9_init "DrownedLight", Cond.methodLinkNest RX10 25 yX3_init "DrownedLight", Cond.methodLinkNest RX10 60 yX4_init "DrownedLight", Cond.methodLinkNest RX10 67 yX1_init "DrownedLight", Cond.methodLinkNest RX10 74 yX0_init "DrownedLight", Cond.methodLinkNest RX10 85 yX7_init "DrownedLight"]
/-- what a frame's start knows: classes, read-only rows, statics -/
def KREL (g : aG) (Z : aZ) (U : State) : Prop :=
  va_K g.2.2.1 vwCl (a_tys g) U ∧ (∀ i, i < 6 → roN Z i < 2 ^ 31 ∧ va_T .int (g.2.1 i) (roN Z i) (fun j => .int (roC Z i j)) (a_A g) U U.heap)
  ∧ (∀ i, i < 5 → va_Z (stT.getD i ("", "")).1 (stT.getD i ("", "")).2 "[I" (.ref (g.2.1 i)) (a_A g) U U.heap)
  ∧ (∀ w ∈ nestW, va_Nw w U) ∧ va_AO "DrownedLight$Stand" U ∧ va_AO "DrownedLight$Shelf" U
def TBL : List Cond := lw_tbl.filter goodWord
theorem tb (i : Nat) {w : Cond} (h : lw_tbl[i]? = some w) (hg : goodWord w = true) : w ∈ TBL := List.mem_filter.mpr ⟨List.mem_of_getElem? h, hg⟩
theorem tb_good {w : Cond} (h : w ∈ TBL) : goodWord w = true := (List.mem_filter.mp h).2
theorem tb_in {w : Cond} (h : w ∈ TBL) : w ∈ lw_tbl := (List.mem_filter.mp h).1
def M_ws (M : MD) : List Cond := Cond.code M.2.2.2.2 M.1 M.2.1 M.2.2.1 :: TBL
/-- the method's own words stand among the tables' -/
def MOK (M : MD) : Prop := Cond.code M.2.2.2.2 M.1 M.2.1 M.2.2.1 ∈ TBL ∧ Cond.initialized M.2.2.2.2.cls ∈ TBL ∧ plainName M.2.2.2.2.cls = true ∧ M.2.1 ≤ 21 ∧ M.2.2.2.2.cls = M.2.2.2.1 ∧ (M.2.2.2.2.cls ≠ "java/lang/invoke/MethodHandle" ∧ M.2.2.2.2.cls ≠ "java/lang/invoke/VarHandle")
theorem MOK.good {M : MD} (h : MOK M) : GoodIn TBL (M_ws M) := by
  intro w hw
  rcases List.mem_cons.mp hw with rfl | hw
  · exact ⟨h.1, good_of_word (tb_good h.1)⟩
  · exact ⟨hw, good_of_word (tb_good hw)⟩
/-- locals: what isn't null is held -/
def a_lvl (g : aG) (ls : List Value) : List (Nat × Value) := (ls.zipIdx).filterMap fun q => if q.1 = Value.null then none else some (q.2, tv g q.1)
theorem a_lvl_mem {g : aG} {ls : List Value} {i : Nat} {w : Value} : (i, w) ∈ a_lvl g ls ↔ ∃ v, ls[i]? = some v ∧ v ≠ .null ∧ w = tv g v := by
  unfold a_lvl
  rw [List.mem_filterMap]
  constructor
  · rintro ⟨⟨v, j⟩, h1, h2⟩
    have h3 := List.mem_zipIdx_iff_getElem?.mp h1
    dsimp only at h2 h3
    split at h2
    · cases h2
    · rename_i hne
      cases h2
      exact ⟨v, h3, hne, rfl⟩
  · rintro ⟨v, h1, h2, rfl⟩
    exact ⟨(v, i), List.mem_zipIdx_iff_getElem?.mpr h1, by dsimp only; rw [if_neg h2]⟩
theorem tv_cat (g : aG) (v : Value) : (tv g v).category = v.category := by cases v <;> rfl
def a_kill (ls : List Value) (i : Nat) : List Value := match i with
  | 0 => ls
  | j + 1 => if (ls.getD j .null).category = 2 then ls.set j .null else ls
def st1 (ls : List Value) (i : Nat) (v : Value) : List Value := (a_kill ls i).set i v
def st2 (ls : List Value) (i : Nat) (v : Value) : List Value := ((a_kill ls i).set i v).set (i + 1) .null
end
section
/-! ===== classes by number; links; the judgement; contracts ===== -/
def c_C (ci : Nat) : String := (vwCl.getD ci ("", fun _ => ("", "", "", false), 0)).1
def c_T (ci : Nat) : u_T := (vwCl.getD ci ("", fun _ => ("", "", "", false), 0)).2.1
theorem c_at {ci : Nat} (h : ci < 12) : vwCl[ci]? = some (c_C ci, c_T ci, a_N ci) := by
  rcases (show ci = 0 ∨ ci = 1 ∨ ci = 2 ∨ ci = 3 ∨ ci = 4 ∨ ci = 5 ∨ ci = 6 ∨ ci = 7 ∨ ci = 8 ∨ ci = 9 ∨ ci = 10 ∨ ci = 11 by omega) with rfl | rfl | rfl | rfl | rfl | rfl | rfl | rfl | rfl | rfl | rfl | rfl <;> rfl
theorem c_in {ci : Nat} (h : ci < 12) : ∀ w ∈ u_ws (c_C ci) (c_T ci) (a_N ci), w ∈ TBL := by
  have key : ∀ ci, ci < 12 → (u_ws (c_C ci) (c_T ci) (a_N ci)).all (fun w => decide (w ∈ lw_tbl) && goodWord w) = true := by decide +kernel
  intro w hw
  have h1 := List.all_eq_true.mp (key ci h) w hw
  simp only [Bool.and_eq_true, decide_eq_true_eq] at h1
  exact List.mem_filter.mpr h1
theorem c_ty {ci : Nat} (h : ci < 12) : ∀ k, k < a_N ci → parseFieldDescriptor (c_T ci k).2.2.1 = some (a_fty ci k) := by
  have key : ∀ ci, ci < 12 → ∀ k, k < a_N ci → parseFieldDescriptor (c_T ci k).2.2.1 = some (a_fty ci k) := by decide +kernel
  exact key ci h
theorem c_nm {ci : Nat} (h : ci < 12) : ∀ a, a < a_N ci → ∀ b, b < a_N ci → a ≠ b → (c_T ci a).2.1 ≠ (c_T ci b).2.1 := by
  have key : ∀ ci, ci < 12 → ∀ a, a < a_N ci → ∀ b, b < a_N ci → a ≠ b → (c_T ci a).2.1 ≠ (c_T ci b).2.1 := by decide +kernel
  exact key ci h
theorem c_own {ci : Nat} (h : ci < 12) : ∀ k, k < a_N ci → (c_T ci k).1 = c_C ci := by
  have key : ∀ ci, ci < 12 → ∀ k, k < a_N ci → (c_T ci k).1 = c_C ci := by decide +kernel
  exact key ci h
/-- a field's link -/
def LnkF (own : String) (idx ci k : Nat) : Prop := ci < 12 ∧ k < a_N ci ∧ Cond.fieldLink own idx (c_T ci k).1 (c_T ci k).2.1 (c_T ci k).2.2.1 ∈ TBL
/-- a method's link: of an instance, by the object's class -/
def LnkV (own : String) (idx : Nat) (M2 : MD) (ci n : Nat) : Prop := ci < 12 ∧ Cond.methodLink own idx M2.2.2.2.2 ∈ TBL ∧ Cond.instanceMethod M2.2.2.2.2 ∈ TBL ∧ Cond.selects (c_C ci) M2.2.2.2.2 M2.2.2.2.2 ∈ TBL ∧ M2.2.2.2.2.cls = c_C ci ∧ (parseMethodDescriptor M2.2.2.2.2.desc).map (fun d => d.parameters.length) = some n ∧ MOK M2
def LnkS (own : String) (idx : Nat) (M2 : MD) (n : Nat) : Prop := Cond.methodLink own idx M2.2.2.2.2 ∈ TBL ∧ Cond.static M2.2.2.2.2 ∈ TBL ∧ (parseMethodDescriptor M2.2.2.2.2.desc).map (fun d => d.parameters.length) = some n ∧ MOK M2
def LnkI (own : String) (idx : Nat) (M2 : MD) (n : Nat) : Prop := (Cond.methodLink own idx M2.2.2.2.2 ∈ TBL ∨ (own = RX10 ∧ Cond.methodLinkNest own idx M2.2.2.2.2 "DrownedLight" ∈ nestW)) ∧ Cond.instanceMethod M2.2.2.2.2 ∈ TBL ∧ M2.2.2.2.2.name = "<init>" ∧ M2.2.2.1 = none ∧ (parseMethodDescriptor M2.2.2.2.2.desc).map (fun d => d.parameters.length) = some n ∧ MOK M2
/-! the world as a list -/
theorem ws_get {g : aG} {S : aS} {h : aH} {a : Nat} (ha : a < nx S) : (a_ws g S h)[a]? = some (g.1 + a, a_ent g S h a) := by
  unfold a_ws
  rw [List.getElem?_map, List.getElem?_range ha]
  rfl
theorem ws_put {g : aG} {S : aS} {h h' : aH} {a : Nat} (hne : ∀ b, b ≠ a → a_ent g S h' b = a_ent g S h b) : (a_ws g S h).set a (g.1 + a, a_ent g S h' a) = a_ws g S h' := by
  apply List.ext_getElem?
  intro b
  by_cases hb : b < nx S
  · rw [ws_get hb]
    by_cases hab : b = a
    · subst hab
      rw [List.getElem?_set_self (by unfold a_ws; simpa using hb)]
    · rw [List.getElem?_set_ne (Ne.symm hab), ws_get hb, hne b hab]
  · have h1 : (a_ws g S h').length ≤ b := by unfold a_ws; simpa using hb
    have h2 : ((a_ws g S h).set a (g.1 + a, a_ent g S h' a)).length ≤ b := by rw [List.length_set]; unfold a_ws; simpa using hb
    rw [List.getElem?_eq_none h1, List.getElem?_eq_none h2]
theorem ws_D (g : aG) (S : aS) (h : aH) : va_D (a_A g) (a_ws g S h) := by
  have key : ∀ (i : Nat) (p : Nat × va_E), (a_ws g S h)[i]? = some p → p.1 = g.1 + i := by
    intro i p hp
    have hi : i < nx S := by
      have := (List.getElem?_eq_some_iff.mp hp).1
      unfold a_ws at this
      simpa using this
    rw [ws_get hi] at hp
    cases hp
    rfl
  refine ⟨fun i j p q hp hq e => ?_, fun i p hp => ?_⟩
  · have h1 := key i p hp
    have h2 := key j q hq
    omega
  · show g.1 ≤ p.1
    rw [key i p hp]
    omega
theorem range_map_set {α : Type} (f f' : Nat → α) (N k : Nat) (hne : ∀ j, j < N → j ≠ k → f' j = f j) : ((List.range N).map f).set k (f' k) = (List.range N).map f' := by
  apply List.ext_getElem?
  intro b
  by_cases hb : b < N
  · by_cases hab : b = k
    · subst hab
      rw [List.getElem?_set_self (by simpa using hb), List.getElem?_map, List.getElem?_range hb]
      rfl
    · rw [List.getElem?_set_ne (Ne.symm hab), List.getElem?_map, List.getElem?_map, List.getElem?_range hb]
      show some (f b) = some (f' b)
      rw [hne b hb hab]
  · rw [List.getElem?_eq_none (by simpa using hb), List.getElem?_eq_none (by simpa using hb)]
theorem adr_lt {g : aG} {a : Nat} (h : a < 1000) : adr g a = g.1 + a := by unfold adr; rw [if_pos h]
theorem adr_ro {g : aG} {i : Nat} : adr g (1000 + i) = g.2.1 i := by
  unfold adr
  rw [if_neg (Nat.not_lt.mpr (Nat.le_add_right 1000 i)), Nat.add_sub_cancel_left]
theorem ent_obj {g : aG} {S : aS} {h : aH} {a ci : Nat} (hk : kd S a = ci) (hc : ci < 12) : a_ent g S h a = .inr (ci, (List.range (a_N ci)).map (a_fv g S h a)) := by
  unfold a_ent
  rw [hk, if_pos hc]
theorem ent_i {g : aG} {S : aS} {h : aH} {a : Nat} (hk : kd S a = 20) : a_ent g S h a = .inl (g.2.2.2 0, (ln S a, .inl (ri h a))) := by
  unfold a_ent
  rw [hk]
  rfl
theorem ent_j {g : aG} {S : aS} {h : aH} {a : Nat} (hk : kd S a = 21) : a_ent g S h a = .inl (g.2.2.2 1, (ln S a, .inr (.inl (rj h a)))) := by
  unfold a_ent
  rw [hk]
  rfl
theorem ent_q {g : aG} {S : aS} {h : aH} {a k : Nat} (hk : kd S a = 22 + k) : a_ent g S h a = .inl (g.2.2.2 (2 + k), (ln S a, .inr (.inr (.inr (.inr (fun j => (rr S a j).map (adr g))))))) := by
  unfold a_ent
  rw [hk, if_neg (by omega), if_neg (by omega), if_neg (by omega), show 22 + k - 20 = 2 + k by omega]
/-! what a frame rests on -/
def FR (g : aG) (Z : aZ) (M : MD) (d : Nat) (p : Program) (R : Room) (s : State) (m : MethodId) (args : Array Value) (meth : Method) (c : Code) : Prop :=
  p.tables.exec = Jvm.exec ∧ c.code = M.1 ∧ c.maxLocals = M.2.1 ∧ s.vm.findClass M.2.2.2.1 = some m.cls ∧ (∀ w ∈ TBL, w.before args s = true) ∧ meth.name = M.2.2.2.2.name ∧ KREL g Z s ∧ g.1 ≤ s.heap.size ∧ d + 2 ≤ R.frames ∧ 40 * d + 60 ≤ R.locals
/-- the instruction at pc returns r -/
def RI (M : MD) (pc : Nat) (r : Option Value) : Prop := match r with
  | none => decode M.1 pc = .ok (.return_, 1) ∧ M.2.2.1 = none
  | some (.int v) => decode M.1 pc = .ok (.ireturn, 1) ∧ ∃ ty, M.2.2.1 = some ty ∧ narrow ty (.int v) = .int v
  | some (.long _) => decode M.1 pc = .ok (.lreturn, 1) ∧ M.2.2.1 = some .long
  | some (.ref _) => decode M.1 pc = .ok (.areturn, 1) ∧ ∃ n, M.2.2.1 = some (.object n)
  | _ => False
def RET (g : aG) (M : MD) (Q : Option Value → aS → aH → Prop) (p : Program) (l : Launch) (e : Env) (R : Room) (s : State) (m : MethodId) (args : Array Value) (below : List Frame) (meth : Method) (c : Code) (QF : State → Prop) : Prop :=
  ∀ (r : Option Value) (S : aS) (h : aH) (H : Heap) (locs : List Loc) (cells slots : Nat) (lsA : Array Slot) (pc : Nat), Q r S h → HREL g S h H → va_S (a_A g) s.heap H locs → cells ≤ R.cells → slots ≤ R.slots → RI M pc r → W p l e R s m args below meth c H locs cells slots QF (F0 m pc lsA (r.toList.map (tv g)))
/-- THE JUDGEMENT: a frame of M at pc, with these locals and this stack, comes to its end with Q -/
def TJ (Z : aZ) (M : MD) (d bc bs pc : Nat) (ls st : List Value) (S : aS) (h : aH) (Q : Option Value → aS → aH → Prop) : Prop :=
  ∀ (g : aG) (p : Program) (l : Launch) (e : Env) (R : Room) (s : State) (m : MethodId) (args : Array Value) (below : List Frame) (meth : Method) (c : Code) (QF : State → Prop), FR g Z M d p R s m args meth c → RET g M Q p l e R s m args below meth c QF →
  ∀ (H : Heap) (locs : List Loc) (cells slots : Nat) (lsA : Array Slot), HREL g S h H → va_S (a_A g) s.heap H locs → lv_has lsA M.2.1 (a_lvl g ls) → (cells + bc ≤ R.cells ∧ s.heap.size + cells ≤ g.1 + nx S) → slots + bs ≤ R.slots →
  W p l e R s m args below meth c H locs cells slots QF (F0 m pc lsA (st.map (tv g)))
theorem TJ.mono {Z : aZ} {M : MD} {d d' bc bs pc : Nat} {ls st : List Value} {S : aS} {h : aH} {Q Q' : Option Value → aS → aH → Prop} (k : TJ Z M d bc bs pc ls st S h Q) (hd : d ≤ d') (hQ : ∀ r S h, Q r S h → Q' r S h) : TJ Z M d' bc bs pc ls st S h Q' := by
  intro g p l e R s m args below meth c QF hF hR H locs cells slots lsA
  obtain ⟨f1, f2, f3, f4, f5, f6, f7, f8, f9, f10⟩ := hF
  exact k g p l e R s m args below meth c QF ⟨f1, f2, f3, f4, f5, f6, f7, f8, by omega, by omega⟩ (fun r S h H locs cells slots lsA pc hq => hR r S h H locs cells slots lsA pc (hQ r S h hq)) H locs cells slots lsA
def rmOf (d mc ms : Nat) : Room := { frames := d + 2, cells := mc, slots := ms, locals := 40 * d + 60 }
def cPc (g : aG) (Z : aZ) (S : aS) (h : aH) (args : List Value) : Array Value → State → Prop := fun a U => a = (args.map (tv g)).toArray ∧ KREL g Z U ∧ HREL g S h U.heap ∧ g.1 ≤ U.heap.size ∧ U.heap.size ≤ g.1 + nx S
def cQc (g : aG) (n : Nat) (Q : Option Value → aS → aH → Prop) : Array Value → State → Outcome → State → Prop := fun _ s o t => (∃ (r : Option Value) (S : aS) (h : aH), o = .returned (r.map (tv g)) ∧ (Q r S h ∧ nx S = n) ∧ HREL g S h t.heap) ∧ va_F (a_A g) s t
/-- A CONTRACT -/
def CM (Z : aZ) (M : MD) (d mc ms : Nat) (args : List Value) (S : aS) (h : aH) (Q : Option Value → aS → aH → Prop) : Prop :=
  ∀ (g : aG) (l : Launch), Met l M.2.2.2.2 (M_ws M) (rmOf d mc ms) (cPc g Z S h args) (cQc g (nx S + mc) Q) mc ms (a_A g)
/-! entry -/
def a_exp : List Value → List Value
  | [] => []
  | v :: vs => if v.category = 2 then v :: .null :: a_exp vs else v :: a_exp vs
def a_entry (n : Nat) (args : List Value) : List Value := a_exp args ++ List.replicate (n - (a_exp args).length) .null
theorem exp_len (g : aG) (vs : List Value) : (lg_sl (vs.map (tv g))).length = (a_exp vs).length := by
  induction vs with
  | nil => rfl
  | cons v vs ih =>
    have e : lg_sl ((v :: vs).map (tv g)) = (if (tv g v).category = 2 then [.val (tv g v), .second] else [.val (tv g v)]) ++ lg_sl (vs.map (tv g)) := rfl
    have e2 : a_exp (v :: vs) = if v.category = 2 then v :: .null :: a_exp vs else v :: a_exp vs := rfl
    rw [e, List.length_append, ih, tv_cat, e2]
    split <;> simp <;> omega
theorem exp_args (g : aG) (vs : List Value) : ∀ (i k : Nat) (v : Value), (a_exp vs)[i]? = some v → v ≠ .null → (k + i, tv g v) ∈ lv_args k (vs.map (tv g)) := by
  induction vs with
  | nil => intro i k v h; simp [a_exp] at h
  | cons x vs ih =>
    intro i k v h hv
    show (k + i, tv g v) ∈ (k, tv g x) :: lv_args (if (tv g x).category = 2 then k + 2 else k + 1) (vs.map (tv g))
    rw [tv_cat]
    unfold a_exp at h
    split at h
    · rename_i hc
      rw [if_pos hc]
      match i, h with
      | 0, h => cases h; exact List.mem_cons_self
      | 1, h => cases h; exact absurd rfl hv
      | i + 2, h =>
        have := ih i (k + 2) v (by simpa using h) hv
        rw [show k + (i + 2) = k + 2 + i by omega]
        exact List.mem_cons_of_mem _ this
    · rename_i hc
      rw [if_neg hc]
      match i, h with
      | 0, h => cases h; exact List.mem_cons_self
      | i + 1, h =>
        have := ih i (k + 1) v (by simpa using h) hv
        rw [show k + (i + 1) = k + 1 + i by omega]
        exact List.mem_cons_of_mem _ this
theorem lvh_sub {ls : Array Slot} {n : Nat} {l l' : List (Nat × Value)} (h : lv_has ls n l) (hs : ∀ q ∈ l', q ∈ l) : lv_has ls n l' := ⟨h.1, h.2.1, fun q hq => h.2.2 q (hs q hq)⟩
theorem entry_lv (g : aG) (n : Nat) (args : List Value) (hn : (a_exp args).length ≤ n) : lv_has ((lg_sl (args.map (tv g)) ++ List.replicate (n - (lg_sl (args.map (tv g))).length) Slot.unset).toArray) n (a_lvl g (a_entry n args)) := by
  refine lvh_sub (lv_entry (args.map (tv g)) (n := n) (by rw [exp_len]; exact hn)) ?_
  rintro ⟨i, w⟩ hq
  obtain ⟨v, h1, h2, rfl⟩ := a_lvl_mem.mp hq
  have h3 : (a_exp args)[i]? = some v := by
    unfold a_entry at h1
    by_cases hi : i < (a_exp args).length
    · rwa [List.getElem?_append_left hi] at h1
    · rw [List.getElem?_append_right (by omega)] at h1
      exact absurd (List.eq_of_mem_replicate (List.mem_of_getElem? h1)) h2
  have := exp_args g args i 0 v h3 h2
  rwa [Nat.zero_add] at this
theorem CM.of {Z : aZ} {M : MD} {d mc ms : Nat} {args : List Value} {S : aS} {h : aH} {Q : Option Value → aS → aH → Prop} (hM : MOK M) (hn : (a_exp args).length ≤ M.2.1) (k : TJ Z M d mc ms 0 (a_entry M.2.1 args) [] S h (fun r S' h' => Q r S' h' ∧ nx S' = nx S + mc)) : CM Z M d mc ms args S h Q := by
  intro g l
  refine Met.ofW (cc := M.1) (maxL := M.2.1) (ret := M.2.2.1) hM.2.2.1 rfl ?_
  intro p e s m args' below meth c s₁ B hml hv
  obtain ⟨rfl, hK, hH, hz1, hz2⟩ := hv
  have hts := atoms_spec (ws := M_ws M) B.pre
  rw [lg_entry_eq]
  refine k g p l e _ s m _ below meth c _ ⟨B.exec, B.bytes, hml, ?_, fun w hw => hts w (List.mem_cons_of_mem _ hw), (name_of_methodNamed B.named B.method).1, hK, ?_, Nat.le_refl _, Nat.le_refl _⟩ ?_ s.heap [] 0 0 _ hH va_S.rf (entry_lv g _ args hn) ⟨by show 0 + mc ≤ mc; omega, by show s.heap.size + 0 ≤ _; omega⟩ (by show 0 + ms ≤ ms; omega)
  · have := findClass_of_methodNamed B.named
    rwa [hM.2.2.2.2.1] at this
  · exact hz1
  · intro r S' h' H locs cells slots lsA pc hq hH' hS hc hs hri
    have hlocks := B.notSynchronized
    refine W.widen (k := mc) (n := ms) hc hs ?_
    match r, hri with
    | none, hri =>
      exact W.vret B.exec B.bytes (by rw [B.returns]; exact hri.2) (fun t ht hW => ⟨⟨none, S', h', rfl, hq, by rw [ht]; exact hH'⟩, hS.F ht⟩) hS.2.2 hri.1
    | some (.int v), hri =>
      obtain ⟨hd, ty, hty, hnar⟩ := hri
      exact W.zret B.exec B.bytes (by rw [B.returns]; exact hty) hnar (fun t ht hW => ⟨⟨some (.int v), S', h', rfl, hq, by rw [ht]; exact hH'⟩, hS.F ht⟩) hS.2.2 hd
    | some (.long v), hri =>
      exact W.lret B.exec B.bytes (by rw [B.returns]; exact hri.2) (fun t ht hW => ⟨⟨some (.long v), S', h', rfl, hq, by rw [ht]; exact hH'⟩, hS.F ht⟩) hS.2.2 hri.1
    | some (.ref v), hri =>
      obtain ⟨hd, n, hty⟩ := hri
      exact W.aret B.exec B.bytes (by rw [B.returns]; exact hty) (Or.inl ⟨n, rfl⟩) (Or.inr ⟨_, rfl⟩) (fun t ht hW => ⟨⟨some (.ref v), S', h', rfl, hq, by rw [ht]; exact hH'⟩, hS.F ht⟩) hS.2.2 hd
end
section
/-! ===== the rules: an instruction each ===== -/
def DI (M : MD) (pc : Nat) (i : Instr) (n pc' : Nat) : Prop := decode M.1 pc = .ok (i, n) ∧ pc + n = pc'
def DB (M : MD) (pc : Nat) (i : Instr) (off : Int) (pc' tgt : Nat) : Prop := decode M.1 pc = .ok (i, 3) ∧ pc + 3 = pc' ∧ (pc : Int) + off = (tgt : Int)
def DC (M : MD) (pc : Nat) (v : Int32) (pc' : Nat) : Prop := (∃ n, decode M.1 pc = .ok (.iconst n, 1) ∧ Int32.ofInt n = v ∧ pc + 1 = pc') ∨ (∃ n, decode M.1 pc = .ok (.bipush n, 2) ∧ (Int8.ofInt n).toInt32 = v ∧ pc + 2 = pc') ∨ (∃ n, decode M.1 pc = .ok (.sipush n, 3) ∧ (Int16.ofInt n).toInt32 = v ∧ pc + 3 = pc') ∨ (∃ k, decode M.1 pc = .ok (.ldc k, 2) ∧ Cond.constant M.2.2.2.1 k v ∈ TBL ∧ pc + 2 = pc') ∨ (∃ k, decode M.1 pc = .ok (.ldc_w k, 3) ∧ Cond.constant M.2.2.2.1 k v ∈ TBL ∧ pc + 3 = pc')
def DCL (M : MD) (pc : Nat) (v : Int64) (pc' : Nat) : Prop := (∃ n : Fin 2, decode M.1 pc = .ok (.lconst n, 1) ∧ Int64.ofNat (n : Nat) = v ∧ pc + 1 = pc') ∨ (∃ k, decode M.1 pc = .ok (.ldc2_w k, 3) ∧ Cond.constantLong M.2.2.2.1 k v ∈ TBL ∧ pc + 3 = pc')
def DLi (M : MD) (pc i pc' : Nat) : Prop := (∃ k : Fin 4, decode M.1 pc = .ok (.iload_n k, 1) ∧ (k : Nat) = i ∧ pc + 1 = pc') ∨ (decode M.1 pc = .ok (.iload i, 2) ∧ pc + 2 = pc')
def DLl (M : MD) (pc i pc' : Nat) : Prop := (∃ k : Fin 4, decode M.1 pc = .ok (.lload_n k, 1) ∧ (k : Nat) = i ∧ pc + 1 = pc') ∨ (decode M.1 pc = .ok (.lload i, 2) ∧ pc + 2 = pc')
def DLa (M : MD) (pc i pc' : Nat) : Prop := (∃ k : Fin 4, decode M.1 pc = .ok (.aload_n k, 1) ∧ (k : Nat) = i ∧ pc + 1 = pc') ∨ (decode M.1 pc = .ok (.aload i, 2) ∧ pc + 2 = pc')
def DSi (M : MD) (pc i pc' : Nat) : Prop := i < M.2.1 ∧ ((∃ k : Fin 4, decode M.1 pc = .ok (.istore_n k, 1) ∧ (k : Nat) = i ∧ pc + 1 = pc') ∨ (decode M.1 pc = .ok (.istore i, 2) ∧ pc + 2 = pc'))
def DSl (M : MD) (pc i pc' : Nat) : Prop := i + 1 < M.2.1 ∧ ((∃ k : Fin 4, decode M.1 pc = .ok (.lstore_n k, 1) ∧ (k : Nat) = i ∧ pc + 1 = pc') ∨ (decode M.1 pc = .ok (.lstore i, 2) ∧ pc + 2 = pc'))
def DSa (M : MD) (pc i pc' : Nat) : Prop := i < M.2.1 ∧ ((∃ k : Fin 4, decode M.1 pc = .ok (.astore_n k, 1) ∧ (k : Nat) = i ∧ pc + 1 = pc') ∨ (decode M.1 pc = .ok (.astore i, 2) ∧ pc + 2 = pc'))
def DIN (M : MD) (pc i : Nat) (v : Int32) (pc' : Nat) : Prop := i < M.2.1 ∧ ∃ n, decode M.1 pc = .ok (.iinc i n, 3) ∧ Int32.ofInt n = v ∧ pc + 3 = pc'
def DRi (M : MD) (pc : Nat) : Prop := decode M.1 pc = .ok (.ireturn, 1) ∧ M.2.2.1 = some .int
def DRz (M : MD) (pc : Nat) : Prop := decode M.1 pc = .ok (.ireturn, 1) ∧ M.2.2.1 = some .boolean
def DRl (M : MD) (pc : Nat) : Prop := decode M.1 pc = .ok (.lreturn, 1) ∧ M.2.2.1 = some .long
def DRa (M : MD) (pc : Nat) : Prop := decode M.1 pc = .ok (.areturn, 1) ∧ ∃ n, M.2.2.1 = some (.object n)
def DRv (M : MD) (pc : Nat) : Prop := decode M.1 pc = .ok (.return_, 1) ∧ M.2.2.1 = none
theorem st1_mem {g : aG} {ls : List Value} {i : Nat} {v : Value} (hi : ∀ q ∈ a_lvl g ls, True) : ∀ q ∈ a_lvl g (st1 ls i v), q ∈ (i, tv g v) :: (a_lvl g ls).filter (fun q => !(q.1 == i) && !(q.1 + 1 == i && q.2.category == 2)) := by
  rintro ⟨j, w⟩ hq
  obtain ⟨v', h1, h2, rfl⟩ := a_lvl_mem.mp hq
  unfold st1 at h1
  by_cases hji : i = j
  · subst hji
    have hl := (List.getElem?_eq_some_iff.mp h1).1
    rw [List.getElem?_set_self (by simpa using hl)] at h1
    cases h1
    exact List.mem_cons_self
  · rw [List.getElem?_set_ne hji] at h1
    have h3 : ls[j]? = some v' ∧ ¬ (j + 1 = i ∧ v'.category = 2) := by
      match i, h1, hji with
      | 0, h1, hji => exact ⟨h1, fun z => by omega⟩
      | i + 1, h1, hji =>
        have e : a_kill ls (i + 1) = if (ls.getD i .null).category = 2 then ls.set i .null else ls := rfl
        rw [e] at h1
        split at h1
        · rename_i hc
          by_cases hij : i = j
          · subst hij
            have hl := (List.getElem?_eq_some_iff.mp h1).1
            rw [List.getElem?_set_self (by simpa using hl)] at h1
            cases h1
            exact absurd rfl h2
          · rw [List.getElem?_set_ne hij] at h1
            exact ⟨h1, fun z => by omega⟩
        · rename_i hc
          refine ⟨h1, fun z => ?_⟩
          obtain ⟨z1, z2⟩ := z
          have : j = i := by omega
          subst this
          rw [List.getD_eq_getElem?_getD, h1] at hc
          exact hc z2
    refine List.mem_cons_of_mem _ (List.mem_filter.mpr ⟨a_lvl_mem.mpr ⟨v', h3.1, h2, rfl⟩, ?_⟩)
    simp only [Bool.and_eq_true, Bool.not_eq_true', beq_eq_false_iff_ne, ne_eq, Bool.and_eq_false_imp, beq_iff_eq]
    exact ⟨fun z => hji z.symm, fun z1 z2 => h3.2 ⟨z1, by rw [tv_cat] at z2; exact z2⟩⟩
theorem st2_mem {g : aG} {ls : List Value} {i : Nat} {v : Value} (hi : ∀ q ∈ a_lvl g ls, True) : ∀ q ∈ a_lvl g (st2 ls i v), q ∈ (i, tv g v) :: (a_lvl g ls).filter (fun q => !(q.1 == i) && (!(q.1 == i + 1) && !(q.1 + 1 == i && q.2.category == 2))) := by
  rintro ⟨j, w⟩ hq
  obtain ⟨v', h1, h2, rfl⟩ := a_lvl_mem.mp hq
  have hj : j ≠ i + 1 := by
    rintro rfl
    unfold st2 at h1
    have hl := (List.getElem?_eq_some_iff.mp h1).1
    rw [List.getElem?_set_self (by simpa using hl)] at h1
    cases h1
    exact h2 rfl
  have h4 : (j, tv g v') ∈ a_lvl g (st1 ls i v) := by
    refine a_lvl_mem.mpr ⟨v', ?_, h2, rfl⟩
    unfold st2 at h1
    rwa [List.getElem?_set_ne (Ne.symm hj)] at h1
  rcases List.mem_cons.mp (st1_mem hi _ h4) with h5 | h5
  · rw [h5]; exact List.mem_cons_self
  · obtain ⟨h6, h7⟩ := List.mem_filter.mp h5
    refine List.mem_cons_of_mem _ (List.mem_filter.mpr ⟨h6, ?_⟩)
    simp only [Bool.and_eq_true, Bool.not_eq_true', beq_eq_false_iff_ne, ne_eq] at h7 ⊢
    exact ⟨h7.1, hj, h7.2⟩
section RULES
variable {Z : aZ} {M : MD} {d bc bs pc pc' tgt : Nat} {ls st : List Value} {S : aS} {h : aH} {Q : Option Value → aS → aH → Prop}
abbrev TK (Z : aZ) (M : MD) (d bc bs : Nat) (S : aS) (h : aH) (Q : Option Value → aS → aH → Prop) (pc : Nat) (ls st : List Value) : Prop := TJ Z M d bc bs pc ls st S h Q
theorem T_iadd {x y : Int32} (hd : DI M pc (.iadd) 1 pc') (k : TK Z M d bc bs S h Q pc' ls (.int (x + y) :: st)) : TK Z M d bc bs S h Q pc ls (.int y :: .int x :: st) := by
  intro g p l e R s m args below meth c QF hF hR H locs cells slots lsA hH hS hl hc hs
  obtain ⟨hd, rfl⟩ := hd
  exact lv_iadd hF.1 hF.2.1 hd (k g p l e R s m args below meth c QF hF hR H locs cells slots lsA hH hS hl hc hs)
theorem T_isub {x y : Int32} (hd : DI M pc (.isub) 1 pc') (k : TK Z M d bc bs S h Q pc' ls (.int (x - y) :: st)) : TK Z M d bc bs S h Q pc ls (.int y :: .int x :: st) := by
  intro g p l e R s m args below meth c QF hF hR H locs cells slots lsA hH hS hl hc hs
  obtain ⟨hd, rfl⟩ := hd
  exact lv_isub hF.1 hF.2.1 hd (k g p l e R s m args below meth c QF hF hR H locs cells slots lsA hH hS hl hc hs)
theorem T_imul {x y : Int32} (hd : DI M pc (.imul) 1 pc') (k : TK Z M d bc bs S h Q pc' ls (.int (x * y) :: st)) : TK Z M d bc bs S h Q pc ls (.int y :: .int x :: st) := by
  intro g p l e R s m args below meth c QF hF hR H locs cells slots lsA hH hS hl hc hs
  obtain ⟨hd, rfl⟩ := hd
  exact lv_imul hF.1 hF.2.1 hd (k g p l e R s m args below meth c QF hF hR H locs cells slots lsA hH hS hl hc hs)
theorem T_iand {x y : Int32} (hd : DI M pc (.iand) 1 pc') (k : TK Z M d bc bs S h Q pc' ls (.int (x &&& y) :: st)) : TK Z M d bc bs S h Q pc ls (.int y :: .int x :: st) := by
  intro g p l e R s m args below meth c QF hF hR H locs cells slots lsA hH hS hl hc hs
  obtain ⟨hd, rfl⟩ := hd
  exact lv_iand hF.1 hF.2.1 hd (k g p l e R s m args below meth c QF hF hR H locs cells slots lsA hH hS hl hc hs)
theorem T_ior {x y : Int32} (hd : DI M pc (.ior) 1 pc') (k : TK Z M d bc bs S h Q pc' ls (.int (x ||| y) :: st)) : TK Z M d bc bs S h Q pc ls (.int y :: .int x :: st) := by
  intro g p l e R s m args below meth c QF hF hR H locs cells slots lsA hH hS hl hc hs
  obtain ⟨hd, rfl⟩ := hd
  exact lv_ior hF.1 hF.2.1 hd (k g p l e R s m args below meth c QF hF hR H locs cells slots lsA hH hS hl hc hs)
theorem T_ixor {x y : Int32} (hd : DI M pc (.ixor) 1 pc') (k : TK Z M d bc bs S h Q pc' ls (.int (x ^^^ y) :: st)) : TK Z M d bc bs S h Q pc ls (.int y :: .int x :: st) := by
  intro g p l e R s m args below meth c QF hF hR H locs cells slots lsA hH hS hl hc hs
  obtain ⟨hd, rfl⟩ := hd
  exact lv_ixor hF.1 hF.2.1 hd (k g p l e R s m args below meth c QF hF hR H locs cells slots lsA hH hS hl hc hs)
theorem T_ishl {x y : Int32} (hd : DI M pc (.ishl) 1 pc') (k : TK Z M d bc bs S h Q pc' ls (.int (x <<< (y &&& 31)) :: st)) : TK Z M d bc bs S h Q pc ls (.int y :: .int x :: st) := by
  intro g p l e R s m args below meth c QF hF hR H locs cells slots lsA hH hS hl hc hs
  obtain ⟨hd, rfl⟩ := hd
  exact lv_ishl hF.1 hF.2.1 hd (k g p l e R s m args below meth c QF hF hR H locs cells slots lsA hH hS hl hc hs)
theorem T_ishr {x y : Int32} (hd : DI M pc (.ishr) 1 pc') (k : TK Z M d bc bs S h Q pc' ls (.int (x >>> (y &&& 31)) :: st)) : TK Z M d bc bs S h Q pc ls (.int y :: .int x :: st) := by
  intro g p l e R s m args below meth c QF hF hR H locs cells slots lsA hH hS hl hc hs
  obtain ⟨hd, rfl⟩ := hd
  exact lv_ishr hF.1 hF.2.1 hd (k g p l e R s m args below meth c QF hF hR H locs cells slots lsA hH hS hl hc hs)
theorem T_idiv {x y : Int32} (hd : DI M pc (.idiv) 1 pc') (hne : ¬ y = 0) (k : TK Z M d bc bs S h Q pc' ls (.int (x / y) :: st)) : TK Z M d bc bs S h Q pc ls (.int y :: .int x :: st) := by
  intro g p l e R s m args below meth c QF hF hR H locs cells slots lsA hH hS hl hc hs
  obtain ⟨hd, rfl⟩ := hd
  exact lv_idiv hF.1 hF.2.1 hd hne (k g p l e R s m args below meth c QF hF hR H locs cells slots lsA hH hS hl hc hs)
theorem T_irem {x y : Int32} (hd : DI M pc (.irem) 1 pc') (hne : ¬ y = 0) (k : TK Z M d bc bs S h Q pc' ls (.int (x - x / y * y) :: st)) : TK Z M d bc bs S h Q pc ls (.int y :: .int x :: st) := by
  intro g p l e R s m args below meth c QF hF hR H locs cells slots lsA hH hS hl hc hs
  obtain ⟨hd, rfl⟩ := hd
  exact lv_irem hF.1 hF.2.1 hd hne (k g p l e R s m args below meth c QF hF hR H locs cells slots lsA hH hS hl hc hs)
theorem T_iushr {x y : Int32} (hd : DI M pc (.iushr) 1 pc') (k : TK Z M d bc bs S h Q pc' ls (.int (x.toUInt32 >>> (y.toUInt32 &&& Int32.toUInt32 31)).toInt32 :: st)) : TK Z M d bc bs S h Q pc ls (.int y :: .int x :: st) := by
  intro g p l e R s m args below meth c QF hF hR H locs cells slots lsA hH hS hl hc hs
  obtain ⟨hd, rfl⟩ := hd
  exact lv_iushr hF.1 hF.2.1 hd rfl (k g p l e R s m args below meth c QF hF hR H locs cells slots lsA hH hS hl hc hs)
theorem T_ineg {x : Int32} (hd : DI M pc (.ineg) 1 pc') (k : TK Z M d bc bs S h Q pc' ls (.int (-x) :: st)) : TK Z M d bc bs S h Q pc ls (.int x :: st) := by
  intro g p l e R s m args below meth c QF hF hR H locs cells slots lsA hH hS hl hc hs
  obtain ⟨hd, rfl⟩ := hd
  exact lv_ineg hF.1 hF.2.1 hd (k g p l e R s m args below meth c QF hF hR H locs cells slots lsA hH hS hl hc hs)
theorem T_ladd {x y : Int64} (hd : DI M pc (.ladd) 1 pc') (k : TK Z M d bc bs S h Q pc' ls (.long (x + y) :: st)) : TK Z M d bc bs S h Q pc ls (.long y :: .long x :: st) := by
  intro g p l e R s m args below meth c QF hF hR H locs cells slots lsA hH hS hl hc hs
  obtain ⟨hd, rfl⟩ := hd
  exact lv_ladd hF.1 hF.2.1 hd (k g p l e R s m args below meth c QF hF hR H locs cells slots lsA hH hS hl hc hs)
theorem T_lsub {x y : Int64} (hd : DI M pc (.lsub) 1 pc') (k : TK Z M d bc bs S h Q pc' ls (.long (x - y) :: st)) : TK Z M d bc bs S h Q pc ls (.long y :: .long x :: st) := by
  intro g p l e R s m args below meth c QF hF hR H locs cells slots lsA hH hS hl hc hs
  obtain ⟨hd, rfl⟩ := hd
  exact lv_lsub hF.1 hF.2.1 hd (k g p l e R s m args below meth c QF hF hR H locs cells slots lsA hH hS hl hc hs)
theorem T_lmul {x y : Int64} (hd : DI M pc (.lmul) 1 pc') (k : TK Z M d bc bs S h Q pc' ls (.long (x * y) :: st)) : TK Z M d bc bs S h Q pc ls (.long y :: .long x :: st) := by
  intro g p l e R s m args below meth c QF hF hR H locs cells slots lsA hH hS hl hc hs
  obtain ⟨hd, rfl⟩ := hd
  exact lv_lmul hF.1 hF.2.1 hd (k g p l e R s m args below meth c QF hF hR H locs cells slots lsA hH hS hl hc hs)
theorem T_land {x y : Int64} (hd : DI M pc (.land) 1 pc') (k : TK Z M d bc bs S h Q pc' ls (.long (x &&& y) :: st)) : TK Z M d bc bs S h Q pc ls (.long y :: .long x :: st) := by
  intro g p l e R s m args below meth c QF hF hR H locs cells slots lsA hH hS hl hc hs
  obtain ⟨hd, rfl⟩ := hd
  exact lv_land hF.1 hF.2.1 hd (k g p l e R s m args below meth c QF hF hR H locs cells slots lsA hH hS hl hc hs)
theorem T_lor {x y : Int64} (hd : DI M pc (.lor) 1 pc') (k : TK Z M d bc bs S h Q pc' ls (.long (x ||| y) :: st)) : TK Z M d bc bs S h Q pc ls (.long y :: .long x :: st) := by
  intro g p l e R s m args below meth c QF hF hR H locs cells slots lsA hH hS hl hc hs
  obtain ⟨hd, rfl⟩ := hd
  exact lv_lor hF.1 hF.2.1 hd (k g p l e R s m args below meth c QF hF hR H locs cells slots lsA hH hS hl hc hs)
theorem T_lxor {x y : Int64} (hd : DI M pc (.lxor) 1 pc') (k : TK Z M d bc bs S h Q pc' ls (.long (x ^^^ y) :: st)) : TK Z M d bc bs S h Q pc ls (.long y :: .long x :: st) := by
  intro g p l e R s m args below meth c QF hF hR H locs cells slots lsA hH hS hl hc hs
  obtain ⟨hd, rfl⟩ := hd
  exact lv_lxor hF.1 hF.2.1 hd (k g p l e R s m args below meth c QF hF hR H locs cells slots lsA hH hS hl hc hs)
theorem T_lcmp {x y : Int64} (hd : DI M pc (.lcmp) 1 pc') (k : TK Z M d bc bs S h Q pc' ls (.int (lg_cmp x y) :: st)) : TK Z M d bc bs S h Q pc ls (.long y :: .long x :: st) := by
  intro g p l e R s m args below meth c QF hF hR H locs cells slots lsA hH hS hl hc hs
  obtain ⟨hd, rfl⟩ := hd
  exact W.lcmp hF.1 hF.2.1 hd (k g p l e R s m args below meth c QF hF hR H locs cells slots lsA hH hS hl hc hs)
theorem T_lushr {x : Int64} {y : Int32} (hd : DI M pc (.lushr) 1 pc') (k : TK Z M d bc bs S h Q pc' ls (.long (x.toUInt64 >>> (y.toInt64.toUInt64 &&& Int64.toUInt64 63)).toInt64 :: st)) : TK Z M d bc bs S h Q pc ls (.int y :: .long x :: st) := by
  intro g p l e R s m args below meth c QF hF hR H locs cells slots lsA hH hS hl hc hs
  obtain ⟨hd, rfl⟩ := hd
  exact lv_lushr hF.1 hF.2.1 hd rfl (k g p l e R s m args below meth c QF hF hR H locs cells slots lsA hH hS hl hc hs)
theorem T_lshl {x : Int64} {y : Int32} (hd : DI M pc (.lshl) 1 pc') (k : TK Z M d bc bs S h Q pc' ls (.long (x <<< (y.toInt64 &&& 63)) :: st)) : TK Z M d bc bs S h Q pc ls (.int y :: .long x :: st) := by
  intro g p l e R s m args below meth c QF hF hR H locs cells slots lsA hH hS hl hc hs
  obtain ⟨hd, rfl⟩ := hd
  exact lv_lshl hF.1 hF.2.1 hd rfl (k g p l e R s m args below meth c QF hF hR H locs cells slots lsA hH hS hl hc hs)
theorem T_lshr {x : Int64} {y : Int32} (hd : DI M pc (.lshr) 1 pc') (k : TK Z M d bc bs S h Q pc' ls (.long (x >>> (y.toInt64 &&& 63)) :: st)) : TK Z M d bc bs S h Q pc ls (.int y :: .long x :: st) := by
  intro g p l e R s m args below meth c QF hF hR H locs cells slots lsA hH hS hl hc hs
  obtain ⟨hd, rfl⟩ := hd
  exact lv_lshr hF.1 hF.2.1 hd rfl (k g p l e R s m args below meth c QF hF hR H locs cells slots lsA hH hS hl hc hs)
theorem T_i2l {x : Int32} (hd : DI M pc (.i2l) 1 pc') (k : TK Z M d bc bs S h Q pc' ls (.long x.toInt64 :: st)) : TK Z M d bc bs S h Q pc ls (.int x :: st) := by
  intro g p l e R s m args below meth c QF hF hR H locs cells slots lsA hH hS hl hc hs
  obtain ⟨hd, rfl⟩ := hd
  exact lv_i2l hF.1 hF.2.1 hd rfl (k g p l e R s m args below meth c QF hF hR H locs cells slots lsA hH hS hl hc hs)
theorem T_l2i {x : Int64} (hd : DI M pc (.l2i) 1 pc') (k : TK Z M d bc bs S h Q pc' ls (.int x.toInt32 :: st)) : TK Z M d bc bs S h Q pc ls (.long x :: st) := by
  intro g p l e R s m args below meth c QF hF hR H locs cells slots lsA hH hS hl hc hs
  obtain ⟨hd, rfl⟩ := hd
  exact lv_l2i hF.1 hF.2.1 hd rfl (k g p l e R s m args below meth c QF hF hR H locs cells slots lsA hH hS hl hc hs)
theorem T_i2b {x : Int32} (hd : DI M pc (.i2b) 1 pc') (k : TK Z M d bc bs S h Q pc' ls (.int x.toInt8.toInt32 :: st)) : TK Z M d bc bs S h Q pc ls (.int x :: st) := by
  intro g p l e R s m args below meth c QF hF hR H locs cells slots lsA hH hS hl hc hs
  obtain ⟨hd, rfl⟩ := hd
  exact lv_i2b hF.1 hF.2.1 hd rfl (k g p l e R s m args below meth c QF hF hR H locs cells slots lsA hH hS hl hc hs)
theorem T_i2s {x : Int32} (hd : DI M pc (.i2s) 1 pc') (k : TK Z M d bc bs S h Q pc' ls (.int x.toInt16.toInt32 :: st)) : TK Z M d bc bs S h Q pc ls (.int x :: st) := by
  intro g p l e R s m args below meth c QF hF hR H locs cells slots lsA hH hS hl hc hs
  obtain ⟨hd, rfl⟩ := hd
  exact lv_i2s hF.1 hF.2.1 hd rfl (k g p l e R s m args below meth c QF hF hR H locs cells slots lsA hH hS hl hc hs)
theorem T_dup {v : Value} (hd : DI M pc (.dup) 1 pc') (hv : v.category = 1) (k : TK Z M d bc bs S h Q pc' ls (v :: v :: st)) : TK Z M d bc bs S h Q pc ls (v :: st) := by
  intro g p l e R s m args below meth c QF hF hR H locs cells slots lsA hH hS hl hc hs
  obtain ⟨hd, rfl⟩ := hd
  exact lv_dup hF.1 hF.2.1 hd ((tv_cat g v).trans hv) (k g p l e R s m args below meth c QF hF hR H locs cells slots lsA hH hS hl hc hs)
theorem T_pop {v : Value} (hd : DI M pc (.pop) 1 pc') (hv : v.category = 1) (k : TK Z M d bc bs S h Q pc' ls (st)) : TK Z M d bc bs S h Q pc ls (v :: st) := by
  intro g p l e R s m args below meth c QF hF hR H locs cells slots lsA hH hS hl hc hs
  obtain ⟨hd, rfl⟩ := hd
  exact lv_pop hF.1 hF.2.1 hd ((tv_cat g v).trans hv) (k g p l e R s m args below meth c QF hF hR H locs cells slots lsA hH hS hl hc hs)
theorem T_dup2 {v w : Value} (hd : DI M pc (.dup2) 1 pc') (hv : v.category = 1) (hw : w.category = 1) (k : TK Z M d bc bs S h Q pc' ls (v :: w :: v :: w :: st)) : TK Z M d bc bs S h Q pc ls (v :: w :: st) := by
  intro g p l e R s m args below meth c QF hF hR H locs cells slots lsA hH hS hl hc hs
  obtain ⟨hd, rfl⟩ := hd
  exact lv_dup2_11 hF.1 hF.2.1 hd ((tv_cat g v).trans hv) ((tv_cat g w).trans hw) (k g p l e R s m args below meth c QF hF hR H locs cells slots lsA hH hS hl hc hs)
theorem T_dup_x1 {v w : Value} (hd : DI M pc (.dup_x1) 1 pc') (hv : v.category = 1) (hw : w.category = 1) (k : TK Z M d bc bs S h Q pc' ls (v :: w :: v :: st)) : TK Z M d bc bs S h Q pc ls (v :: w :: st) := by
  intro g p l e R s m args below meth c QF hF hR H locs cells slots lsA hH hS hl hc hs
  obtain ⟨hd, rfl⟩ := hd
  exact lv_dup_x1 hF.1 hF.2.1 hd ((tv_cat g v).trans hv) ((tv_cat g w).trans hw) (k g p l e R s m args below meth c QF hF hR H locs cells slots lsA hH hS hl hc hs)
theorem T_const {v : Int32} (hd : DC M pc v pc') (k : TK Z M d bc bs S h Q pc' ls (.int v :: st)) : TK Z M d bc bs S h Q pc ls st := by
  intro g p l e R s m args below meth c QF hF hR H locs cells slots lsA hH hS hl hc hs
  have kk := k g p l e R s m args below meth c QF hF hR H locs cells slots lsA hH hS hl hc hs
  rcases hd with ⟨n, h1, h2, rfl⟩ | ⟨n, h1, h2, rfl⟩ | ⟨n, h1, h2, rfl⟩ | ⟨n, h1, h2, rfl⟩ | ⟨n, h1, h2, rfl⟩
  · exact lv_iconst hF.1 hF.2.1 h1 h2 kk
  · exact lv_bipush hF.1 hF.2.1 h1 h2 kk
  · exact lv_sipush hF.1 hF.2.1 h1 h2 kk
  · exact lv_ldc hF.1 hF.2.1 hF.2.2.2.1 (hF.2.2.2.2.1 _ h2) h1 kk
  · exact lv_ldcw hF.1 hF.2.1 hF.2.2.2.1 (hF.2.2.2.2.1 _ h2) h1 kk
theorem T_constL {v : Int64} (hd : DCL M pc v pc') (k : TK Z M d bc bs S h Q pc' ls (.long v :: st)) : TK Z M d bc bs S h Q pc ls st := by
  intro g p l e R s m args below meth c QF hF hR H locs cells slots lsA hH hS hl hc hs
  have kk := k g p l e R s m args below meth c QF hF hR H locs cells slots lsA hH hS hl hc hs
  rcases hd with ⟨n, h1, h2, rfl⟩ | ⟨n, h1, h2, rfl⟩
  · exact lv_lconst hF.1 hF.2.1 h1 h2 kk
  · exact lv_ldc2 hF.1 hF.2.1 hF.2.2.2.1 (hF.2.2.2.2.1 _ h2) h1 kk
theorem T_iload {i : Nat} {x : Int32} (hd : DLi M pc i pc') (hx : ls[i]? = some (.int x)) (k : TK Z M d bc bs S h Q pc' ls (.int x :: st)) : TK Z M d bc bs S h Q pc ls st := by
  intro g p l e R s m args below meth c QF hF hR H locs cells slots lsA hH hS hl hc hs
  have kk := k g p l e R s m args below meth c QF hF hR H locs cells slots lsA hH hS hl hc hs
  have hq := hl.2.2 (i, tv g (.int x)) (a_lvl_mem.mpr ⟨_, hx, (fun z => by cases z), rfl⟩)
  rcases hd with ⟨n, h1, h2, rfl⟩ | ⟨h1, rfl⟩
  · exact lv_iload_n hF.1 hF.2.1 h1 h2 hq kk
  · exact lv_iload hF.1 hF.2.1 h1 hq kk
theorem T_istore {i : Nat} {x : Int32} (hd : DSi M pc i pc') (k : TK Z M d bc bs S h Q pc' (st1 ls i (.int x)) st) : TK Z M d bc bs S h Q pc ls (.int x :: st) := by
  intro g p l e R s m args below meth c QF hF hR H locs cells slots lsA hH hS hl hc hs
  obtain ⟨hi, hd⟩ := hd
  rcases hd with ⟨n, h1, h2, rfl⟩ | ⟨h1, rfl⟩
  · exact lv_istore_n hF.1 hF.2.1 h1 h2 hl hi rfl (fun ls' hl' => k g p l e R s m args below meth c QF hF hR H locs cells slots ls' hH hS (lvh_sub hl' (st1_mem (fun _ _ => trivial))) hc hs)
  · exact lv_istore hF.1 hF.2.1 h1 hl hi rfl (fun ls' hl' => k g p l e R s m args below meth c QF hF hR H locs cells slots ls' hH hS (lvh_sub hl' (st1_mem (fun _ _ => trivial))) hc hs)
theorem T_lload {i : Nat} {x : Int64} (hd : DLl M pc i pc') (hx : ls[i]? = some (.long x)) (k : TK Z M d bc bs S h Q pc' ls (.long x :: st)) : TK Z M d bc bs S h Q pc ls st := by
  intro g p l e R s m args below meth c QF hF hR H locs cells slots lsA hH hS hl hc hs
  have kk := k g p l e R s m args below meth c QF hF hR H locs cells slots lsA hH hS hl hc hs
  have hq := hl.2.2 (i, tv g (.long x)) (a_lvl_mem.mpr ⟨_, hx, (fun z => by cases z), rfl⟩)
  rcases hd with ⟨n, h1, h2, rfl⟩ | ⟨h1, rfl⟩
  · exact lv_lload_n hF.1 hF.2.1 h1 h2 hq kk
  · exact lv_lload hF.1 hF.2.1 h1 hq kk
theorem T_lstore {i : Nat} {x : Int64} (hd : DSl M pc i pc') (k : TK Z M d bc bs S h Q pc' (st2 ls i (.long x)) st) : TK Z M d bc bs S h Q pc ls (.long x :: st) := by
  intro g p l e R s m args below meth c QF hF hR H locs cells slots lsA hH hS hl hc hs
  obtain ⟨hi, hd⟩ := hd
  rcases hd with ⟨n, h1, h2, rfl⟩ | ⟨h1, rfl⟩
  · exact lv_lstore_n hF.1 hF.2.1 h1 h2 hl hi rfl (fun ls' hl' => k g p l e R s m args below meth c QF hF hR H locs cells slots ls' hH hS (lvh_sub hl' (st2_mem (fun _ _ => trivial))) hc hs)
  · exact lv_lstore hF.1 hF.2.1 h1 hl hi rfl (fun ls' hl' => k g p l e R s m args below meth c QF hF hR H locs cells slots ls' hH hS (lvh_sub hl' (st2_mem (fun _ _ => trivial))) hc hs)
theorem T_aload {i : Nat} {x : Nat} (hd : DLa M pc i pc') (hx : ls[i]? = some (.ref x)) (k : TK Z M d bc bs S h Q pc' ls (.ref x :: st)) : TK Z M d bc bs S h Q pc ls st := by
  intro g p l e R s m args below meth c QF hF hR H locs cells slots lsA hH hS hl hc hs
  have kk := k g p l e R s m args below meth c QF hF hR H locs cells slots lsA hH hS hl hc hs
  have hq := hl.2.2 (i, tv g (.ref x)) (a_lvl_mem.mpr ⟨_, hx, (fun z => by cases z), rfl⟩)
  rcases hd with ⟨n, h1, h2, rfl⟩ | ⟨h1, rfl⟩
  · exact lv_aload_n hF.1 hF.2.1 h1 h2 hq kk
  · exact lv_aload hF.1 hF.2.1 h1 hq kk
theorem T_astore {i : Nat} {x : Nat} (hd : DSa M pc i pc') (k : TK Z M d bc bs S h Q pc' (st1 ls i (.ref x)) st) : TK Z M d bc bs S h Q pc ls (.ref x :: st) := by
  intro g p l e R s m args below meth c QF hF hR H locs cells slots lsA hH hS hl hc hs
  obtain ⟨hi, hd⟩ := hd
  rcases hd with ⟨n, h1, h2, rfl⟩ | ⟨h1, rfl⟩
  · exact lv_astore_n hF.1 hF.2.1 h1 h2 hl hi rfl (fun ls' hl' => k g p l e R s m args below meth c QF hF hR H locs cells slots ls' hH hS (lvh_sub hl' (st1_mem (fun _ _ => trivial))) hc hs)
  · exact lv_astore hF.1 hF.2.1 h1 hl hi rfl (fun ls' hl' => k g p l e R s m args below meth c QF hF hR H locs cells slots ls' hH hS (lvh_sub hl' (st1_mem (fun _ _ => trivial))) hc hs)
theorem T_iinc {i : Nat} {x v : Int32} (hd : DIN M pc i v pc') (hx : ls[i]? = some (.int x)) (k : TK Z M d bc bs S h Q pc' (st1 ls i (.int (x + v))) st) : TK Z M d bc bs S h Q pc ls st := by
  intro g p l e R s m args below meth c QF hF hR H locs cells slots lsA hH hS hl hc hs
  obtain ⟨hi, n, h1, h2, rfl⟩ := hd
  obtain ⟨j, hj⟩ := List.getElem?_of_mem (a_lvl_mem.mpr ⟨_, hx, (fun z => by cases z), rfl⟩ : (i, tv g (.int x)) ∈ a_lvl g ls)
  subst h2
  exact lv_iinc hF.1 hF.2.1 h1 hl hj rfl hi rfl (fun ls' hl' => k g p l e R s m args below meth c QF hF hR H locs cells slots ls' hH hS (lvh_sub hl' (st1_mem (fun _ _ => trivial))) hc hs)
theorem T_icmp_eq {x y : Int32} {off : Int} (hd : DB M pc (.if_icmp .eq off) off pc' tgt) (kt : x = y → TK Z M d bc bs S h Q tgt ls st) (kf : ¬ (x = y) → TK Z M d bc bs S h Q pc' ls st) : TK Z M d bc bs S h Q pc ls (.int y :: .int x :: st) := by
  intro g p l e R s m args below meth c QF hF hR H locs cells slots lsA hH hS hl hc hs
  obtain ⟨hd, rfl, ht⟩ := hd
  exact lv_icmp_eq hF.1 hF.2.1 hd ht (fun q => kt q g p l e R s m args below meth c QF hF hR H locs cells slots lsA hH hS hl hc hs) (fun q => kf q g p l e R s m args below meth c QF hF hR H locs cells slots lsA hH hS hl hc hs)
theorem T_if_eq {x : Int32} {off : Int} (hd : DB M pc (.ifCond .eq off) off pc' tgt) (kt : x = 0 → TK Z M d bc bs S h Q tgt ls st) (kf : ¬ (x = 0) → TK Z M d bc bs S h Q pc' ls st) : TK Z M d bc bs S h Q pc ls (.int x :: st) := by
  intro g p l e R s m args below meth c QF hF hR H locs cells slots lsA hH hS hl hc hs
  obtain ⟨hd, rfl, ht⟩ := hd
  exact lv_if_eq hF.1 hF.2.1 hd ht (fun q => kt q g p l e R s m args below meth c QF hF hR H locs cells slots lsA hH hS hl hc hs) (fun q => kf q g p l e R s m args below meth c QF hF hR H locs cells slots lsA hH hS hl hc hs)
theorem T_icmp_ne {x y : Int32} {off : Int} (hd : DB M pc (.if_icmp .ne off) off pc' tgt) (kt : ¬ x = y → TK Z M d bc bs S h Q tgt ls st) (kf : x = y → TK Z M d bc bs S h Q pc' ls st) : TK Z M d bc bs S h Q pc ls (.int y :: .int x :: st) := by
  intro g p l e R s m args below meth c QF hF hR H locs cells slots lsA hH hS hl hc hs
  obtain ⟨hd, rfl, ht⟩ := hd
  exact lv_icmp_ne hF.1 hF.2.1 hd ht (fun q => kt q g p l e R s m args below meth c QF hF hR H locs cells slots lsA hH hS hl hc hs) (fun q => kf q g p l e R s m args below meth c QF hF hR H locs cells slots lsA hH hS hl hc hs)
theorem T_if_ne {x : Int32} {off : Int} (hd : DB M pc (.ifCond .ne off) off pc' tgt) (kt : ¬ x = 0 → TK Z M d bc bs S h Q tgt ls st) (kf : x = 0 → TK Z M d bc bs S h Q pc' ls st) : TK Z M d bc bs S h Q pc ls (.int x :: st) := by
  intro g p l e R s m args below meth c QF hF hR H locs cells slots lsA hH hS hl hc hs
  obtain ⟨hd, rfl, ht⟩ := hd
  exact lv_if_ne hF.1 hF.2.1 hd ht (fun q => kt q g p l e R s m args below meth c QF hF hR H locs cells slots lsA hH hS hl hc hs) (fun q => kf q g p l e R s m args below meth c QF hF hR H locs cells slots lsA hH hS hl hc hs)
theorem T_icmp_lt {x y : Int32} {off : Int} (hd : DB M pc (.if_icmp .lt off) off pc' tgt) (kt : x < y → TK Z M d bc bs S h Q tgt ls st) (kf : ¬ (x < y) → TK Z M d bc bs S h Q pc' ls st) : TK Z M d bc bs S h Q pc ls (.int y :: .int x :: st) := by
  intro g p l e R s m args below meth c QF hF hR H locs cells slots lsA hH hS hl hc hs
  obtain ⟨hd, rfl, ht⟩ := hd
  exact lv_icmp_lt hF.1 hF.2.1 hd ht (fun q => kt q g p l e R s m args below meth c QF hF hR H locs cells slots lsA hH hS hl hc hs) (fun q => kf q g p l e R s m args below meth c QF hF hR H locs cells slots lsA hH hS hl hc hs)
theorem T_if_lt {x : Int32} {off : Int} (hd : DB M pc (.ifCond .lt off) off pc' tgt) (kt : x < 0 → TK Z M d bc bs S h Q tgt ls st) (kf : ¬ (x < 0) → TK Z M d bc bs S h Q pc' ls st) : TK Z M d bc bs S h Q pc ls (.int x :: st) := by
  intro g p l e R s m args below meth c QF hF hR H locs cells slots lsA hH hS hl hc hs
  obtain ⟨hd, rfl, ht⟩ := hd
  exact lv_if_lt hF.1 hF.2.1 hd ht (fun q => kt q g p l e R s m args below meth c QF hF hR H locs cells slots lsA hH hS hl hc hs) (fun q => kf q g p l e R s m args below meth c QF hF hR H locs cells slots lsA hH hS hl hc hs)
theorem T_icmp_ge {x y : Int32} {off : Int} (hd : DB M pc (.if_icmp .ge off) off pc' tgt) (kt : y ≤ x → TK Z M d bc bs S h Q tgt ls st) (kf : ¬ (y ≤ x) → TK Z M d bc bs S h Q pc' ls st) : TK Z M d bc bs S h Q pc ls (.int y :: .int x :: st) := by
  intro g p l e R s m args below meth c QF hF hR H locs cells slots lsA hH hS hl hc hs
  obtain ⟨hd, rfl, ht⟩ := hd
  exact lv_icmp_ge hF.1 hF.2.1 hd ht (fun q => kt q g p l e R s m args below meth c QF hF hR H locs cells slots lsA hH hS hl hc hs) (fun q => kf q g p l e R s m args below meth c QF hF hR H locs cells slots lsA hH hS hl hc hs)
theorem T_if_ge {x : Int32} {off : Int} (hd : DB M pc (.ifCond .ge off) off pc' tgt) (kt : 0 ≤ x → TK Z M d bc bs S h Q tgt ls st) (kf : ¬ (0 ≤ x) → TK Z M d bc bs S h Q pc' ls st) : TK Z M d bc bs S h Q pc ls (.int x :: st) := by
  intro g p l e R s m args below meth c QF hF hR H locs cells slots lsA hH hS hl hc hs
  obtain ⟨hd, rfl, ht⟩ := hd
  exact lv_if_ge hF.1 hF.2.1 hd ht (fun q => kt q g p l e R s m args below meth c QF hF hR H locs cells slots lsA hH hS hl hc hs) (fun q => kf q g p l e R s m args below meth c QF hF hR H locs cells slots lsA hH hS hl hc hs)
theorem T_icmp_gt {x y : Int32} {off : Int} (hd : DB M pc (.if_icmp .gt off) off pc' tgt) (kt : y < x → TK Z M d bc bs S h Q tgt ls st) (kf : ¬ (y < x) → TK Z M d bc bs S h Q pc' ls st) : TK Z M d bc bs S h Q pc ls (.int y :: .int x :: st) := by
  intro g p l e R s m args below meth c QF hF hR H locs cells slots lsA hH hS hl hc hs
  obtain ⟨hd, rfl, ht⟩ := hd
  exact lv_icmp_gt hF.1 hF.2.1 hd ht (fun q => kt q g p l e R s m args below meth c QF hF hR H locs cells slots lsA hH hS hl hc hs) (fun q => kf q g p l e R s m args below meth c QF hF hR H locs cells slots lsA hH hS hl hc hs)
theorem T_if_gt {x : Int32} {off : Int} (hd : DB M pc (.ifCond .gt off) off pc' tgt) (kt : 0 < x → TK Z M d bc bs S h Q tgt ls st) (kf : ¬ (0 < x) → TK Z M d bc bs S h Q pc' ls st) : TK Z M d bc bs S h Q pc ls (.int x :: st) := by
  intro g p l e R s m args below meth c QF hF hR H locs cells slots lsA hH hS hl hc hs
  obtain ⟨hd, rfl, ht⟩ := hd
  exact lv_if_gt hF.1 hF.2.1 hd ht (fun q => kt q g p l e R s m args below meth c QF hF hR H locs cells slots lsA hH hS hl hc hs) (fun q => kf q g p l e R s m args below meth c QF hF hR H locs cells slots lsA hH hS hl hc hs)
theorem T_icmp_le {x y : Int32} {off : Int} (hd : DB M pc (.if_icmp .le off) off pc' tgt) (kt : x ≤ y → TK Z M d bc bs S h Q tgt ls st) (kf : ¬ (x ≤ y) → TK Z M d bc bs S h Q pc' ls st) : TK Z M d bc bs S h Q pc ls (.int y :: .int x :: st) := by
  intro g p l e R s m args below meth c QF hF hR H locs cells slots lsA hH hS hl hc hs
  obtain ⟨hd, rfl, ht⟩ := hd
  exact lv_icmp_le hF.1 hF.2.1 hd ht (fun q => kt q g p l e R s m args below meth c QF hF hR H locs cells slots lsA hH hS hl hc hs) (fun q => kf q g p l e R s m args below meth c QF hF hR H locs cells slots lsA hH hS hl hc hs)
theorem T_if_le {x : Int32} {off : Int} (hd : DB M pc (.ifCond .le off) off pc' tgt) (kt : x ≤ 0 → TK Z M d bc bs S h Q tgt ls st) (kf : ¬ (x ≤ 0) → TK Z M d bc bs S h Q pc' ls st) : TK Z M d bc bs S h Q pc ls (.int x :: st) := by
  intro g p l e R s m args below meth c QF hF hR H locs cells slots lsA hH hS hl hc hs
  obtain ⟨hd, rfl, ht⟩ := hd
  exact lv_if_le hF.1 hF.2.1 hd ht (fun q => kt q g p l e R s m args below meth c QF hF hR H locs cells slots lsA hH hS hl hc hs) (fun q => kf q g p l e R s m args below meth c QF hF hR H locs cells slots lsA hH hS hl hc hs)
theorem T_goto {off : Int} (hd : DB M pc (.goto off) off pc' tgt) (k : TK Z M d bc bs S h Q tgt ls st) : TK Z M d bc bs S h Q pc ls st := by
  intro g p l e R s m args below meth c QF hF hR H locs cells slots lsA hH hS hl hc hs
  obtain ⟨hd, rfl, ht⟩ := hd
  exact lv_goto hF.1 hF.2.1 hd ht (k g p l e R s m args below meth c QF hF hR H locs cells slots lsA hH hS hl hc hs)
theorem T_tabOut {x : Int32} {df lo hi : Int} {offs : Array Int} {n : Nat} (hd : decode M.1 pc = .ok (.tableswitch df lo hi offs, n) ∧ (pc : Int) + df = (tgt : Int)) (hx : x.toInt < lo ∨ hi < x.toInt) (k : TK Z M d bc bs S h Q tgt ls st) : TK Z M d bc bs S h Q pc ls (.int x :: st) := by
  intro g p l e R s m args below meth c QF hF hR H locs cells slots lsA hH hS hl hc hs
  exact lv_tableOut hF.1 hF.2.1 hd.1 hx hd.2 (k g p l e R s m args below meth c QF hF hR H locs cells slots lsA hH hS hl hc hs)
theorem T_tabIn {x : Int32} {df lo hi off : Int} {offs : Array Int} {n : Nat} (hd : decode M.1 pc = .ok (.tableswitch df lo hi offs, n)) (h1 : lo ≤ x.toInt) (h2 : x.toInt ≤ hi) (ho : offs[(x.toInt - lo).toNat]? = some off) (ht : (pc : Int) + off = (tgt : Int)) (k : TK Z M d bc bs S h Q tgt ls st) : TK Z M d bc bs S h Q pc ls (.int x :: st) := by
  intro g p l e R s m args below meth c QF hF hR H locs cells slots lsA hH hS hl hc hs
  exact lv_tableIn hF.1 hF.2.1 hd (by omega) (by omega) ho ht (k g p l e R s m args below meth c QF hF hR H locs cells slots lsA hH hS hl hc hs)
theorem T_lookup {x : Int32} {df off : Int} {ps : Array (Int × Int)} {n : Nat} (hd : decode M.1 pc = .ok (.lookupswitch df ps, n)) (hp : (ps.toList.zip (ps.toList.drop 1)).all (fun (a, next) => a.1 < next.1) = true) (ho : Op.lookupswitch.offset ps.toList df x.toInt = off) (ht : (pc : Int) + off = (tgt : Int)) (k : TK Z M d bc bs S h Q tgt ls st) : TK Z M d bc bs S h Q pc ls (.int x :: st) := by
  intro g p l e R s m args below meth c QF hF hR H locs cells slots lsA hH hS hl hc hs
  exact lv_lookup hF.1 hF.2.1 hd hp ho ht (k g p l e R s m args below meth c QF hF hR H locs cells slots lsA hH hS hl hc hs)
theorem T_ireti {v : Int32} (hd : DRi M pc) (hq : Q (some (.int v)) S h) : TK Z M d bc bs S h Q pc ls [.int v] := by
  intro g p l e R s m args below meth c QF hF hR H locs cells slots lsA hH hS hl hc hs
  exact hR (some (.int v)) S h H locs cells slots lsA pc hq hH hS (by omega) (by omega) ⟨hd.1, _, hd.2, rfl⟩
theorem T_iretz {v : Int32} (hd : DRz M pc) (hv : v = 0 ∨ v = 1) (hq : Q (some (.int v)) S h) : TK Z M d bc bs S h Q pc ls [.int v] := by
  intro g p l e R s m args below meth c QF hF hR H locs cells slots lsA hH hS hl hc hs
  exact hR (some (.int v)) S h H locs cells slots lsA pc hq hH hS (by omega) (by omega) ⟨hd.1, _, hd.2, by rcases hv with rfl | rfl <;> rfl⟩
theorem T_lret {v : Int64} (hd : DRl M pc) (hq : Q (some (.long v)) S h) : TK Z M d bc bs S h Q pc ls [.long v] := by
  intro g p l e R s m args below meth c QF hF hR H locs cells slots lsA hH hS hl hc hs
  exact hR (some (.long v)) S h H locs cells slots lsA pc hq hH hS (by omega) (by omega) hd
theorem T_aret {v : Nat} (hd : DRa M pc) (hq : Q (some (.ref v)) S h) : TK Z M d bc bs S h Q pc ls [.ref v] := by
  intro g p l e R s m args below meth c QF hF hR H locs cells slots lsA hH hS hl hc hs
  exact hR (some (.ref v)) S h H locs cells slots lsA pc hq hH hS (by omega) (by omega) hd
theorem T_vret (hd : DRv M pc) (hq : Q none S h) : TK Z M d bc bs S h Q pc ls [] := by
  intro g p l e R s m args below meth c QF hF hR H locs cells slots lsA hH hS hl hc hs
  exact hR none S h H locs cells slots lsA pc hq hH hS (by omega) (by omega) hd
end RULES
end
section
/-! ===== the rules of the heap: fields, rows ===== -/
theorem HREL.lt {g : aG} {S : aS} {h : aH} {H : Heap} (hH : HREL g S h H) {a : Nat} (ha : a < nx S) : a < 1000 := Nat.lt_of_lt_of_le ha hH.1
theorem HREL.to {g : aG} {S : aS} {h h' : aH} {H H1 : Heap} {a : Nat} {e : va_E} (hH : HREL g S h H) (he : a_ent g S h' a = e) (hne : ∀ b, b ≠ a → a_ent g S h' b = a_ent g S h b) (hP : va_P g.2.2.1 vwCl ((a_ws g S h).set a (g.1 + a, e)) H1) : HREL g S h' H1 := by
  refine ⟨hH.1, ?_⟩
  rw [← ws_put hne, he]
  exact hP
theorem a_fv_int {g : aG} {S : aS} {h : aH} {a k : Nat} (ht : isRefTy (a_fty (kd S a) k) = false) : a_fv g S h a k = .int (fi h a k) := by
  unfold a_fv
  rw [ht]
  rfl
theorem a_fv_ref {g : aG} {S : aS} {h : aH} {a k b : Nat} (ht : isRefTy (a_fty (kd S a) k) = true) (hb : fr S a k = some b) : a_fv g S h a k = .ref (adr g b) := by
  unfold a_fv
  rw [if_pos ht, hb]
  rfl
theorem obj_get {g : aG} {S : aS} {h : aH} {a ci k : Nat} (hk : kd S a = ci) (hc : ci < 12) (hkn : k < a_N ci) (ha : a < nx S) : ∃ fs, (a_ws g S h)[a]? = some (g.1 + a, .inr (ci, fs)) ∧ fs[k]? = some (a_fv g S h a k) ∧ fs = (List.range (a_N ci)).map (a_fv g S h a) := by
  refine ⟨_, ?_, ?_, rfl⟩
  · rw [ws_get ha, ent_obj hk hc]
  · rw [List.getElem?_map, List.getElem?_range hkn]; rfl
section HRULES
variable {Z : aZ} {M : MD} {d bc bs pc pc' tgt : Nat} {ls st : List Value} {S : aS} {h : aH} {Q : Option Value → aS → aH → Prop}
theorem T_getf {idx ci k a : Nat} (hd : DI M pc (.getfield idx) 3 pc') (hL : LnkF M.2.2.2.1 idx ci k) (ht : isRefTy (a_fty ci k) = false) (hk : kd S a = ci) (ha : a < nx S) (kk : TK Z M d bc bs S h Q pc' ls (.int (fi h a k) :: st)) : TK Z M d bc bs S h Q pc ls (.ref a :: st) := by
  intro g p l e R s m args below meth c QF hF hR H locs cells slots lsA hH hS hl hc hs
  obtain ⟨hd, rfl⟩ := hd
  obtain ⟨hci, hkn, hln⟩ := hL
  obtain ⟨fs, e1, e2, -⟩ := obj_get (g := g) (h := h) hk hci hkn ha
  subst hk
  rw [a_fv_int ht] at e2
  show W p l e R s m args below meth c H locs cells slots QF (F0 m pc lsA (.ref (adr g a) :: st.map (tv g)))
  rw [adr_lt (hH.lt ha)]
  exact va_get (D := g.2.2.1) (v := .int (fi h a k)) hF.1 hF.2.1 hF.2.2.2.2.1 (c_in hci) hF.2.2.2.1 hF.2.2.2.2.2.2.1.1 hH.2 a e1 (c_at hci) k hkn (hF.2.2.2.2.1 _ hln) (fun _ q => q) e2 hd (kk g p l e R s m args below meth c QF hF hR H locs cells slots lsA hH hS hl hc hs)
theorem T_getr {idx ci k a b : Nat} (hd : DI M pc (.getfield idx) 3 pc') (hL : LnkF M.2.2.2.1 idx ci k) (ht : isRefTy (a_fty ci k) = true) (hk : kd S a = ci) (ha : a < nx S) (hb : fr S a k = some b) (kk : TK Z M d bc bs S h Q pc' ls (.ref b :: st)) : TK Z M d bc bs S h Q pc ls (.ref a :: st) := by
  intro g p l e R s m args below meth c QF hF hR H locs cells slots lsA hH hS hl hc hs
  obtain ⟨hd, rfl⟩ := hd
  obtain ⟨hci, hkn, hln⟩ := hL
  obtain ⟨fs, e1, e2, -⟩ := obj_get (g := g) (h := h) hk hci hkn ha
  subst hk
  rw [a_fv_ref ht hb] at e2
  show W p l e R s m args below meth c H locs cells slots QF (F0 m pc lsA (.ref (adr g a) :: st.map (tv g)))
  rw [adr_lt (hH.lt ha)]
  exact va_get (D := g.2.2.1) (v := .ref (adr g b)) hF.1 hF.2.1 hF.2.2.2.2.1 (c_in hci) hF.2.2.2.1 hF.2.2.2.2.2.2.1.1 hH.2 a e1 (c_at hci) k hkn (hF.2.2.2.2.1 _ hln) (fun _ q => q) e2 hd (kk g p l e R s m args below meth c QF hF hR H locs cells slots lsA hH hS hl hc hs)
/-- what a field keeps: an int as it is; of a boolean 0 and 1 -/
def FOK (ty : FieldType) (v : Int32) : Prop := narrow ty (.int v) = .int v ∧ fits ty (.int v) = true
theorem ent_sfi_ne {g : aG} {S : aS} {h : aH} {a k : Nat} {v : Int32} {b : Nat} (hb : b ≠ a) : a_ent g S (sfi h a k v) b = a_ent g S h b := by
  unfold a_ent a_fv fi ri rj sfi
  simp only [va_up_ne _ _ hb]
theorem ent_sfi {g : aG} {S : aS} {h : aH} {a ci k : Nat} {v : Int32} (hk : kd S a = ci) (hc : ci < 12) (ht : isRefTy (a_fty ci k) = false) : a_ent g S (sfi h a k v) a = .inr (ci, ((List.range (a_N ci)).map (a_fv g S h a)).set k (.int v)) := by
  rw [ent_obj hk hc]
  subst hk
  have e : a_fv g S (sfi h a k v) a k = .int v := by
    rw [a_fv_int ht]
    unfold fi sfi
    simp only [va_up_self]
  rw [← e, range_map_set (a_fv g S h a) (a_fv g S (sfi h a k v) a)]
  intro j _ hj
  unfold a_fv fi sfi
  simp only [va_up_self, va_up_ne _ _ hj]
theorem T_putf {idx ci k a : Nat} {v : Int32} (hd : DI M pc (.putfield idx) 3 pc') (hL : LnkF M.2.2.2.1 idx ci k) (ht : isRefTy (a_fty ci k) = false) (hfin : (c_T ci k).2.2.2 = false) (hk : kd S a = ci) (ha : a < nx S) (hv : FOK (a_fty ci k) v) (kk : TK Z M d bc bs S (sfi h a k v) Q pc' ls st) : TK Z M d bc bs S h Q pc ls (.int v :: .ref a :: st) := by
  intro g p l e R s m args below meth c QF hF hR H locs cells slots lsA hH hS hl hc hs
  obtain ⟨hd, rfl⟩ := hd
  obtain ⟨hci, hkn, hln⟩ := hL
  obtain ⟨fs, e1, e2, e3⟩ := obj_get (g := g) (h := h) hk hci hkn ha
  show W p l e R s m args below meth c H locs cells slots QF (F0 m pc lsA (.int v :: .ref (adr g a) :: st.map (tv g)))
  rw [adr_lt (hH.lt ha)]
  refine va_put (D := g.2.2.1) (A := a_A g) hF.1 hF.2.1 hF.2.2.2.2.1 (c_in hci) (a_fty ci) (c_ty hci) (c_nm hci) hF.2.2.2.1 hF.2.2.2.2.2.2.1.1 hH.2 (ws_D g S h) hS a e1 (c_at hci) k hkn (hF.2.2.2.2.1 _ hln) (fun _ q => q) hfin (c_ty hci k hkn) hv.1 hv.2 (by rw [e3]; simpa using hkn) hd (fun H1 locs1 hP1 hD1 hS1 => ?_)
  exact kk g p l e R s m args below meth c QF hF hR H1 locs1 cells slots lsA (hH.to (ent_sfi hk hci ht) (fun b hb => ent_sfi_ne hb) (by rw [← e3]; exact hP1)) hS1 hl hc hs
end HRULES
end
section
/-! ===== rows of numbers and of references, static rows ===== -/
theorem upd_up (f : Nat → Int32) (k : Nat) (x : Int32) : upd f k x = va_up f k x := rfl
theorem updL_up (f : Nat → Int64) (k : Nat) (x : Int64) : vp_updL f k x = va_up f k x := rfl
theorem ent_sri_ne {g : aG} {S : aS} {h : aH} {a k : Nat} {v : Int32} {b : Nat} (hb : b ≠ a) : a_ent g S (sri h a k v) b = a_ent g S h b := by
  unfold a_ent a_fv fi ri rj sri
  simp only [va_up_ne _ _ hb]
theorem ent_srj_ne {g : aG} {S : aS} {h : aH} {a k : Nat} {v : Int64} {b : Nat} (hb : b ≠ a) : a_ent g S (srj h a k v) b = a_ent g S h b := by
  unfold a_ent a_fv fi ri rj srj
  simp only [va_up_ne _ _ hb]
theorem ri_sri {h : aH} {a k : Nat} {v : Int32} : ri (sri h a k v) a = va_up (ri h a) k v := by unfold ri sri; simp only [va_up_self]
theorem rj_srj {h : aH} {a k : Nat} {v : Int64} : rj (srj h a k v) a = va_up (rj h a) k v := by unfold rj srj; simp only [va_up_self]
theorem tys_i (g : aG) : (a_tys g)[0]? = some (g.2.2.2 0, .int) := rfl
theorem tys_j (g : aG) : (a_tys g)[1]? = some (g.2.2.2 1, .long) := rfl
/-- the classes whose objects rows of references hold -/
def qC (k : Nat) : String := if k = 0 then "DrownedLight$Stand" else "DrownedLight$Shelf"
theorem tys_q (g : aG) {k : Nat} (hk : k < 2) : (a_tys g)[2 + k]? = some (g.2.2.2 (2 + k), .object (qC k)) := by
  rcases (show k = 0 ∨ k = 1 by omega) with rfl | rfl <;> rfl
section RRULES
variable {Z : aZ} {M : MD} {d bc bs pc pc' tgt : Nat} {ls st : List Value} {S : aS} {h : aH} {Q : Option Value → aS → aH → Prop}
theorem T_iald {a : Nat} {i : Int32} (hd : DI M pc .iaload 1 pc') (hk : kd S a = 20) (ha : a < nx S) (hin : vp_in i (ln S a)) (kk : TK Z M d bc bs S h Q pc' ls (.int (ri h a i.toNatClampNeg) :: st)) : TK Z M d bc bs S h Q pc ls (.int i :: .ref a :: st) := by
  intro g p l e R s m args below meth c QF hF hR H locs cells slots lsA hH hS hl hc hs
  obtain ⟨hd, rfl⟩ := hd
  show W p l e R s m args below meth c H locs cells slots QF (F0 m pc lsA (.int i :: .ref (adr g a) :: st.map (tv g)))
  rw [adr_lt (hH.lt ha)]
  exact va_iald (D := g.2.2.1) hF.1 hF.2.1 hF.2.2.2.2.2.2.1.1 hH.2 a 0 (by rw [ws_get ha, ent_i hk]) (tys_i g) hin hd (kk g p l e R s m args below meth c QF hF hR H locs cells slots lsA hH hS hl hc hs)
theorem T_lald {a : Nat} {i : Int32} (hd : DI M pc .laload 1 pc') (hk : kd S a = 21) (ha : a < nx S) (hin : vp_in i (ln S a)) (kk : TK Z M d bc bs S h Q pc' ls (.long (rj h a i.toNatClampNeg) :: st)) : TK Z M d bc bs S h Q pc ls (.int i :: .ref a :: st) := by
  intro g p l e R s m args below meth c QF hF hR H locs cells slots lsA hH hS hl hc hs
  obtain ⟨hd, rfl⟩ := hd
  show W p l e R s m args below meth c H locs cells slots QF (F0 m pc lsA (.int i :: .ref (adr g a) :: st.map (tv g)))
  rw [adr_lt (hH.lt ha)]
  exact va_lald (D := g.2.2.1) hF.1 hF.2.1 hF.2.2.2.2.2.2.1.1 hH.2 a 1 (by rw [ws_get ha, ent_j hk]) (tys_j g) hin hd (kk g p l e R s m args below meth c QF hF hR H locs cells slots lsA hH hS hl hc hs)
theorem T_iast {a : Nat} {i v : Int32} (hd : DI M pc .iastore 1 pc') (hk : kd S a = 20) (ha : a < nx S) (hin : vp_in i (ln S a)) (kk : TK Z M d bc bs S (sri h a i.toNatClampNeg v) Q pc' ls st) : TK Z M d bc bs S h Q pc ls (.int v :: .int i :: .ref a :: st) := by
  intro g p l e R s m args below meth c QF hF hR H locs cells slots lsA hH hS hl hc hs
  obtain ⟨hd, rfl⟩ := hd
  show W p l e R s m args below meth c H locs cells slots QF (F0 m pc lsA (.int v :: .int i :: .ref (adr g a) :: st.map (tv g)))
  rw [adr_lt (hH.lt ha)]
  exact va_iast (D := g.2.2.1) (A := a_A g) hF.1 hF.2.1 hF.2.2.2.2.2.2.1.1 hH.2 (ws_D g S h) hS a 0 (by rw [ws_get ha, ent_i hk]) (tys_i g) hin hd (fun H1 locs1 hP1 _ hS1 => kk g p l e R s m args below meth c QF hF hR H1 locs1 cells slots lsA (hH.to (by rw [ent_i hk, ri_sri]; rfl) (fun b hb => ent_sri_ne hb) hP1) hS1 hl hc hs)
theorem T_last {a : Nat} {i : Int32} {v : Int64} (hd : DI M pc .lastore 1 pc') (hk : kd S a = 21) (ha : a < nx S) (hin : vp_in i (ln S a)) (kk : TK Z M d bc bs S (srj h a i.toNatClampNeg v) Q pc' ls st) : TK Z M d bc bs S h Q pc ls (.long v :: .int i :: .ref a :: st) := by
  intro g p l e R s m args below meth c QF hF hR H locs cells slots lsA hH hS hl hc hs
  obtain ⟨hd, rfl⟩ := hd
  show W p l e R s m args below meth c H locs cells slots QF (F0 m pc lsA (.long v :: .int i :: .ref (adr g a) :: st.map (tv g)))
  rw [adr_lt (hH.lt ha)]
  exact va_last (D := g.2.2.1) (A := a_A g) hF.1 hF.2.1 hF.2.2.2.2.2.2.1.1 hH.2 (ws_D g S h) hS a 1 (by rw [ws_get ha, ent_j hk]) (tys_j g) hin hd (fun H1 locs1 hP1 _ hS1 => kk g p l e R s m args below meth c QF hF hR H1 locs1 cells slots lsA (hH.to (by rw [ent_j hk, rj_srj]; rfl) (fun b hb => ent_srj_ne hb) hP1) hS1 hl hc hs)
theorem T_aald {a k b : Nat} {i : Int32} (hd : DI M pc .aaload 1 pc') (hk : kd S a = 22 + k) (hk2 : k < 2) (ha : a < nx S) (hin : vp_in i (ln S a)) (hb : rr S a i.toNatClampNeg = some b) (kk : TK Z M d bc bs S h Q pc' ls (.ref b :: st)) : TK Z M d bc bs S h Q pc ls (.int i :: .ref a :: st) := by
  intro g p l e R s m args below meth c QF hF hR H locs cells slots lsA hH hS hl hc hs
  obtain ⟨hd, rfl⟩ := hd
  show W p l e R s m args below meth c H locs cells slots QF (F0 m pc lsA (.int i :: .ref (adr g a) :: st.map (tv g)))
  rw [adr_lt (hH.lt ha)]
  refine va_aldq (D := g.2.2.1) hF.1 hF.2.1 hF.2.2.2.2.2.2.1.1 hH.2 a (2 + k) (by rw [ws_get ha, ent_q hk]) (tys_q g hk2) hin hd ?_
  rw [hb]
  exact kk g p l e R s m args below meth c QF hF hR H locs cells slots lsA hH hS hl hc hs
theorem T_ialdS {a : Nat} {i : Int32} (hd : DI M pc .iaload 1 pc') (ha : a < 6) (hin : vp_in i (roN Z a)) (kk : TK Z M d bc bs S h Q pc' ls (.int (roC Z a i.toNatClampNeg) :: st)) : TK Z M d bc bs S h Q pc ls (.int i :: .ref (1000 + a) :: st) := by
  intro g p l e R s m args below meth c QF hF hR H locs cells slots lsA hH hS hl hc hs
  obtain ⟨hd, rfl⟩ := hd
  show W p l e R s m args below meth c H locs cells slots QF (F0 m pc lsA (.int i :: .ref (adr g (1000 + a)) :: st.map (tv g)))
  rw [adr_ro]
  exact va_ti (A := a_A g) hF.1 hF.2.1 (hF.2.2.2.2.2.2.1.2.1 a ha).2 hS hin rfl hd (kk g p l e R s m args below meth c QF hF hR H locs cells slots lsA hH hS hl hc hs)
theorem T_alenS {a : Nat} (hd : DI M pc .arraylength 1 pc') (ha : a < 6) (kk : TK Z M d bc bs S h Q pc' ls (.int (nI (roN Z a)) :: st)) : TK Z M d bc bs S h Q pc ls (.ref (1000 + a) :: st) := by
  intro g p l e R s m args below meth c QF hF hR H locs cells slots lsA hH hS hl hc hs
  obtain ⟨hd, rfl⟩ := hd
  show W p l e R s m args below meth c H locs cells slots QF (F0 m pc lsA (.ref (adr g (1000 + a)) :: st.map (tv g)))
  rw [adr_ro]
  exact va_tlen (A := a_A g) hF.1 hF.2.1 (hF.2.2.2.2.2.2.1.2.1 a ha).2 hS rfl hd (kk g p l e R s m args below meth c QF hF hR H locs cells slots lsA hH hS hl hc hs)
theorem T_alen {a : Nat} (hd : DI M pc .arraylength 1 pc') (hk : kd S a = 20) (ha : a < nx S) (kk : TK Z M d bc bs S h Q pc' ls (.int (nI (ln S a)) :: st)) : TK Z M d bc bs S h Q pc ls (.ref a :: st) := by
  intro g p l e R s m args below meth c QF hF hR H locs cells slots lsA hH hS hl hc hs
  obtain ⟨hd, rfl⟩ := hd
  show W p l e R s m args below meth c H locs cells slots QF (F0 m pc lsA (.ref (adr g a) :: st.map (tv g)))
  rw [adr_lt (hH.lt ha)]
  exact va_alen (D := g.2.2.1) (x := (ln S a, .inl (ri h a))) (v := nI (ln S a)) hF.1 hF.2.1 hF.2.2.2.2.2.2.1.1 hH.2 a 0 (by rw [ws_get ha, ent_i hk]) (tys_i g) rfl hd (kk g p l e R s m args below meth c QF hF hR H locs cells slots lsA hH hS hl hc hs)
def LnkG (own : String) (idx i : Nat) : Prop := i < 5 ∧ Cond.fieldLink own idx (stT.getD i ("", "")).1 (stT.getD i ("", "")).2 "[I" ∈ TBL
theorem T_gets {idx i : Nat} (hd : DI M pc (.getstatic idx) 3 pc') (hL : LnkG M.2.2.2.1 idx i) (kk : TK Z M d bc bs S h Q pc' ls (.ref (1000 + i) :: st)) : TK Z M d bc bs S h Q pc ls st := by
  intro g p l e R s m args below meth c QF hF hR H locs cells slots lsA hH hS hl hc hs
  obtain ⟨hd, rfl⟩ := hd
  have k2 := kk g p l e R s m args below meth c QF hF hR H locs cells slots lsA hH hS hl hc hs
  have e : (Value.ref (1000 + i) :: st).map (tv g) = .ref (g.2.1 i) :: st.map (tv g) := by
    show Value.ref (adr g (1000 + i)) :: _ = _
    rw [adr_ro]
  rw [e] at k2
  exact va_gets (A := a_A g) hF.1 hF.2.1 (hF.2.2.2.2.2.2.1.2.2.1 i hL.1) hS hF.2.2.2.1 (hF.2.2.2.2.1 _ hL.2) (fun _ q => q) hd k2
end RRULES
/-! ===== calls ===== -/
theorem KREL.moved {g : aG} {Z : aZ} {u U : State} (hvm : u.vm.Alike U.vm) (hn : ∀ w ∈ nestW, va_Nw w u → va_Nw w U) (hq : ∀ a : Nat, a < u.heap.size → ¬ a_A g a → U.heap[a]? = u.heap[a]?) (h : KREL g Z u) : KREL g Z U := by
  obtain ⟨h1, h2, h3, h4, h5, h6⟩ := h
  exact ⟨va_K.moved hvm h1, fun i hi => ⟨(h2 i hi).1, va_T.kept (va_T.moved hvm (h2 i hi).2) hq⟩, fun i hi => va_Z.kept (va_Z.moved hvm (h3 i hi)) hq, fun w hw => hn w hw (h4 w hw), va_AO.moved hvm h5, va_AO.moved hvm h6⟩
theorem nest_tab : ∀ w ∈ nestW, w.onTables = true := by decide +kernel
theorem nest_warm {s U : State} (hW : s.WarmedH U.vm) : ∀ w ∈ nestW, va_Nw w s → va_Nw w U := by
  intro w hw h
  unfold nestW at hw
  simp only [List.mem_cons, List.not_mem_nil, or_false] at hw
  rcases hw with rfl | rfl | rfl | rfl | rfl | rfl <;> exact va_Nw.warmM hW h
theorem cPc_blind (g : aG) (Z : aZ) (S : aS) (h : aH) (args : List Value) : FrameBlind (cPc g Z S h args) := by
  intro a U f mk hp
  obtain ⟨h1, h2, h3, h4, h5⟩ := hp
  exact ⟨h1, KREL.moved (u := U) (U := U.calling f mk a) (Vm.Alike.refl U.vm) (fun w hw q => va_Nw.same (u := U) (U := U.calling f mk a) (nest_tab w hw) rfl q) (fun _ _ _ => rfl) h2, h3, h4, h5⟩
theorem cPc_at {g : aG} {Z : aZ} {S : aS} {h : aH} {args : List Value} {s U : State} {H : Heap} {locs : List Loc} (hK : KREL g Z s) (hS : va_S (a_A g) s.heap H locs) (hH : HREL g S h H) (h1 : g.1 ≤ s.heap.size) (h2 : H.size ≤ g.1 + nx S) (hU : U.heap = H) (hW : s.WarmedH U.vm) : cPc g Z S h args (args.map (tv g)).toArray U := by
  refine ⟨rfl, KREL.moved hW.alike (nest_warm hW) (fun a ha hn => by rw [hU]; exact hS.2.1 a ha hn) hK, by rw [hU]; exact hH, ?_, by rw [hU]; exact h2⟩
  rw [hU]
  exact Nat.le_trans h1 hS.1
section CRULES
variable {Z : aZ} {M : MD} {d bc bs pc pc' tgt : Nat} {ls st : List Value} {S : aS} {h : aH} {Q : Option Value → aS → aH → Prop}
/-- behind a call -/
theorem W_ran {g : aG} {p : Program} {l : Launch} {e : Env} {R : Room} {s : State} {m : MethodId} {args : Array Value} {below : List Frame} {meth : Method} {c : Code} {QF : State → Prop} {H : Heap} {locs : List Loc} {cells slots mc ms : Nat} {lsA : Array Slot} {st0 : List Value} {a : Array Value} {Q2 : Option Value → aS → aH → Prop}
    (hr : H.size ≤ s.heap.size + cells → va_Run p l e R s m args below meth c H locs cells slots mc ms (F0 m pc lsA st0) (st.map (tv g)) (cQc g (nx S + mc) Q2 a) (a_A g)) (hF : FR g Z M d p R s m args meth c) (hR : RET g M Q p l e R s m args below meth c QF) (hH : HREL g S h H) (hS : va_S (a_A g) s.heap H locs) (hl : lv_has lsA M.2.1 (a_lvl g ls)) (hc : cells + bc ≤ R.cells ∧ s.heap.size + cells ≤ g.1 + nx S) (hs : slots + bs ≤ R.slots) (hb : mc ≤ bc ∧ ms ≤ bs)
    (k : ∀ r S' h', Q2 r S' h' → TK Z M d (bc - mc) (bs - ms) S' h' Q (pc + 3) ls (r.toList ++ st)) : W p l e R s m args below meth c H locs cells slots QF (F0 m pc lsA st0) := by
  intro T hT X
  obtain ⟨v, st₀, t, T', L, h0, X', hL, e1, e2, ⟨⟨r, S', h', hv, ⟨hq, hn⟩, hH'⟩, hz, hk⟩, stp⟩ := hr (by have := X.heapSize; rw [hT] at this; exact this) T hT X
  cases hv
  rw [h0] at hz hk
  have hS' : va_S (a_A g) s.heap T'.heap (locs ++ L) := ⟨Nat.le_trans hS.1 (by rw [e1]; exact hz), fun q h1 h2 => by rw [e1, hk q (Nat.lt_of_lt_of_le h1 hS.1) h2]; exact hS.2.1 q h1 h2, fun q hq => by
      rcases List.mem_append.mp hq with h | h
      · exact hS.2.2 q h
      · exact hL q h⟩
  have kk := k r S' h' hq g p l e R s m args below meth c QF hF hR T'.heap (locs ++ L) (cells + mc) (slots + ms) lsA (by rw [e1]; exact hH') hS' hl ⟨by omega, by omega⟩ (by omega) T' rfl X'
  obtain ⟨t2, a1, b1⟩ := kk
  refine ⟨t2, stp t2 ?_, b1⟩
  have e3 : (r.toList ++ st).map (tv g) = (r.map (tv g)).toList ++ st.map (tv g) := by
    rw [List.map_append]
    cases r <;> rfl
  rw [e3] at a1
  exact a1
theorem cat_sum (g : aG) (st : List Value) : ((st.map (tv g)).map fun v => v.category).sum = (st.map fun v => v.category).sum := by
  rw [List.map_map]
  congr 1
  exact List.map_congr_left (fun v _ => tv_cat g v)
theorem mok_room {M2 : MD} {d mc ms : Nat} {R : Room} (hM : MOK M2) (h1 : d + 1 + 2 ≤ R.frames) (h2 : 40 * (d + 1) + 60 ≤ R.locals) : (rmOf d mc ms).frames + 1 ≤ R.frames ∧ 8 + (M2.2.1 + 11) + (rmOf d mc ms).locals ≤ R.locals := by
  have := hM.2.2.2.1
  refine ⟨?_, ?_⟩
  · show d + 2 + 1 ≤ _; omega
  · show 8 + (M2.2.1 + 11) + (40 * d + 60) ≤ _; omega
theorem T_callV {idx n ci a mc ms : Nat} {M2 : MD} {As : List Value} {st0 : List Value} {Q2 : Option Value → aS → aH → Prop} (hd : DI M pc (.invokevirtual idx) 3 pc') (hL : LnkV M.2.2.2.1 idx M2 ci n) (hn : As.length = n) (hst : st0 = As.reverse ++ .ref a :: st) (hk : kd S a = ci) (ha : a < nx S) (hr : (st.map fun v => v.category).sum ≤ 8) (hb : mc ≤ bc ∧ ms ≤ bs) (hC : CM Z M2 d mc ms (.ref a :: As) S h Q2) (k : ∀ r S' h', Q2 r S' h' → TK Z M (d + 1) (bc - mc) (bs - ms) S' h' Q pc' ls (r.toList ++ st)) : TK Z M (d + 1) bc bs S h Q pc ls st0 := by
  intro g p l e R s m args below meth c QF hF hR H locs cells slots lsA hH hS hl hc hs
  obtain ⟨hd, rfl⟩ := hd
  subst hst
  obtain ⟨hci, w1, w2, w3, w4, w5, hM⟩ := hL
  obtain ⟨f1, f2, f3, f4, f5, f6, f7, f8, f9, f10⟩ := id hF
  have hrm := mok_room (mc := mc) (ms := ms) hM f9 f10
  obtain ⟨fs, e1, -, -⟩ : ∃ fs, (a_ws g S h)[a]? = some (g.1 + a, .inr (ci, fs)) ∧ True ∧ True := ⟨_, by rw [ws_get ha, ent_obj hk hci], trivial, trivial⟩
  refine W_ran (Q2 := Q2) (mc := mc) (ms := ms) (a := ((Value.ref a :: As).map (tv g)).toArray) (fun hz => ?_) hF hR hH hS hl hc hs hb k
  have hsk : ((As.reverse ++ .ref a :: st).map (tv g)) = (As.map (tv g)).reverse ++ .ref (g.1 + a) :: st.map (tv g) := by
    rw [List.map_append, List.map_reverse]
    show _ ++ Value.ref (adr g a) :: _ = _
    rw [adr_lt (hH.lt ha)]
  have e2 : (Value.ref a :: As).map (tv g) = .ref (g.1 + a) :: As.map (tv g) := by
    show Value.ref (adr g a) :: _ = _
    rw [adr_lt (hH.lt ha)]
  rw [e2]
  exact va_runV (l := l) (below := below) (H := H) (locs := locs) (cells := cells) (slots := slots) (As := As.map (tv g)) (rest := st.map (tv g)) (b := g.1 + a) (g := F0 m pc lsA ((As.reverse ++ .ref a :: st).map (tv g))) (Ts := TBL) (own := M.2.2.2.1) (C := c_C ci) (index := idx) (ws := M_ws M2) (bytes := M2.1) (maxL := M2.2.1) (ret := M2.2.2.1) (y := M2.2.2.2.2) (cc := M.1) (nL := M.2.1) (n := n) (rm := rmOf d mc ms) (mc := mc) (ms := ms)
    ⟨f1, f2, f3, f4, f5⟩ (hC g l) ⟨callB_of n f5 hM.good rfl rfl rfl (f5 _ hM.2.1) (f5 _ w1) ⟨hM.2.2.2.2.2.1, hM.2.2.2.2.2.2, w5⟩ hrm, f5 _ w2, f5 _ w3⟩
    ⟨cPc_blind _ _ _ _ _, va_recv f7.1 hH.2 (c_at hci) e1, fun U hU hW => by
      have := cPc_at (args := .ref a :: As) f7 hS hH f8 (Nat.le_trans hz hc.2) hU hW
      have e2 : (Value.ref a :: As).map (tv g) = .ref (g.1 + a) :: As.map (tv g) := by
        show Value.ref (adr g a) :: _ = _
        rw [adr_lt (hH.lt ha)]
      rwa [e2] at this⟩ rfl (by rw [List.length_map]; exact hn) (hl.1) hsk (lv_room (by rw [cat_sum]; exact hr)) hd ⟨by omega, by omega⟩
theorem T_callS {idx n mc ms : Nat} {M2 : MD} {As : List Value} {st0 : List Value} {Q2 : Option Value → aS → aH → Prop} (hd : DI M pc (.invokestatic idx) 3 pc') (hL : LnkS M.2.2.2.1 idx M2 n) (hn : As.length = n) (hst : st0 = As.reverse ++ st) (hr : (st.map fun v => v.category).sum ≤ 8) (hb : mc ≤ bc ∧ ms ≤ bs) (hC : CM Z M2 d mc ms As S h Q2) (k : ∀ r S' h', Q2 r S' h' → TK Z M (d + 1) (bc - mc) (bs - ms) S' h' Q pc' ls (r.toList ++ st)) : TK Z M (d + 1) bc bs S h Q pc ls st0 := by
  intro g p l e R s m args below meth c QF hF hR H locs cells slots lsA hH hS hl hc hs
  obtain ⟨hd, rfl⟩ := hd
  subst hst
  obtain ⟨w1, w2, w5, hM⟩ := hL
  obtain ⟨f1, f2, f3, f4, f5, f6, f7, f8, f9, f10⟩ := id hF
  have hrm := mok_room (mc := mc) (ms := ms) hM f9 f10
  refine W_ran (Q2 := Q2) (mc := mc) (ms := ms) (a := (As.map (tv g)).toArray) (fun hz => ?_) hF hR hH hS hl hc hs hb k
  exact va_runS (l := l) (below := below) (H := H) (locs := locs) (cells := cells) (slots := slots) (As := As.map (tv g)) (rest := st.map (tv g)) (g := F0 m pc lsA ((As.reverse ++ st).map (tv g))) (Ts := TBL) (own := M.2.2.2.1) (index := idx) (ws := M_ws M2) (bytes := M2.1) (maxL := M2.2.1) (ret := M2.2.2.1) (y := M2.2.2.2.2) (cc := M.1) (nL := M.2.1) (n := n) (rm := rmOf d mc ms) (mc := mc) (ms := ms)
    ⟨f1, f2, f3, f4, f5⟩ (hC g l) ⟨callB_of n f5 hM.good rfl rfl rfl (f5 _ hM.2.1) (f5 _ w1) ⟨hM.2.2.2.2.2.1, hM.2.2.2.2.2.2, w5⟩ hrm, f5 _ w2⟩
    ⟨cPc_blind _ _ _ _ _, fun U hU hW => cPc_at f7 hS hH f8 (Nat.le_trans hz hc.2) hU hW⟩ rfl (by rw [List.length_map]; exact hn) (hl.1) (by rw [List.map_append, List.map_reverse]) (lv_room (by rw [cat_sum]; exact hr)) hd ⟨by omega, by omega⟩
theorem T_callI {idx n a mc ms : Nat} {M2 : MD} {As : List Value} {st0 : List Value} {Q2 : Option Value → aS → aH → Prop} (hd : DI M pc (.invokespecial idx) 3 pc') (hL : LnkI M.2.2.2.1 idx M2 n) (hn : As.length = n) (hst : st0 = As.reverse ++ .ref a :: st) (ha : a < nx S) (hr : (st.map fun v => v.category).sum ≤ 8) (hb : mc ≤ bc ∧ ms ≤ bs) (hC : CM Z M2 d mc ms (.ref a :: As) S h Q2) (k : ∀ r S' h', Q2 r S' h' → TK Z M (d + 1) (bc - mc) (bs - ms) S' h' Q pc' ls (r.toList ++ st)) : TK Z M (d + 1) bc bs S h Q pc ls st0 := by
  intro g p l e R s m args below meth c QF hF hR H locs cells slots lsA hH hS hl hc hs
  obtain ⟨hd, rfl⟩ := hd
  subst hst
  obtain ⟨w1, w2, w3, w4, w5, hM⟩ := hL
  obtain ⟨f1, f2, f3, f4, f5, f6, f7, f8, f9, f10⟩ := id hF
  have hrm := mok_room (mc := mc) (ms := ms) hM f9 f10
  obtain ⟨by2, nL2, ret2, own2, y2⟩ := M2
  dsimp only at w4
  subst w4
  refine W_ran (Q2 := Q2) (mc := mc) (ms := ms) (a := ((Value.ref a :: As).map (tv g)).toArray) (fun hz => ?_) hF hR hH hS hl hc hs hb k
  have hsk : ((As.reverse ++ .ref a :: st).map (tv g)) = (As.map (tv g)).reverse ++ .ref (g.1 + a) :: st.map (tv g) := by
    rw [List.map_append, List.map_reverse]
    show _ ++ Value.ref (adr g a) :: _ = _
    rw [adr_lt (hH.lt ha)]
  have e2 : (Value.ref a :: As).map (tv g) = .ref (g.1 + a) :: As.map (tv g) := by
    show Value.ref (adr g a) :: _ = _
    rw [adr_lt (hH.lt ha)]
  have hp : PreS s H (cPc g Z S h (.ref a :: As)) (.ref (g.1 + a) :: As.map (tv g)) := ⟨cPc_blind _ _ _ _ _, fun U hU hW => by
      have := cPc_at (args := .ref a :: As) f7 hS hH f8 (Nat.le_trans hz hc.2) hU hW
      rwa [e2] at this⟩
  rw [e2]
  rcases w1 with w1 | ⟨ho, w1⟩
  · exact va_runI (l := l) (below := below) (H := H) (locs := locs) (cells := cells) (slots := slots) (As := As.map (tv g)) (rest := st.map (tv g)) (b := g.1 + a) (g := F0 m pc lsA ((As.reverse ++ .ref a :: st).map (tv g))) (Ts := TBL) (own := M.2.2.2.1) (index := idx) (ws := M_ws (by2, nL2, none, own2, y2)) (bytes := by2) (maxL := nL2) (y := y2) (cc := M.1) (nL := M.2.1) (n := n) (rm := rmOf d mc ms) (mc := mc) (ms := ms)
      ⟨f1, f2, f3, f4, f5⟩ (hC g l) ⟨callB_of n f5 hM.good rfl rfl rfl (f5 _ hM.2.1) (f5 _ w1) ⟨hM.2.2.2.2.2.1, hM.2.2.2.2.2.2, w5⟩ hrm, w3, f5 _ w2⟩ hp rfl (by rw [List.length_map]; exact hn) (hl.1) hsk (lv_room (by rw [cat_sum]; exact hr)) hd ⟨by omega, by omega⟩
  · rw [ho] at f4
    exact va_runIN (l := l) (below := below) (H := H) (locs := locs) (cells := cells) (slots := slots) (As := As.map (tv g)) (rest := st.map (tv g)) (b := g.1 + a) (g := F0 m pc lsA ((As.reverse ++ .ref a :: st).map (tv g))) (Ts := TBL) (own := RX10) (host := "DrownedLight") (index := idx) (ws := M_ws (by2, nL2, none, own2, y2)) (bytes := by2) (maxL := nL2) (y := y2) (cc := M.1) (nL := M.2.1) (n := n) (rm := rmOf d mc ms) (mc := mc) (ms := ms)
      ⟨f1, f2, f3, f4, f5⟩ (hC g l) ⟨va_cnB n f5 hM.good rfl rfl rfl (f7.2.2.2.1 _ (by rw [ho] at w1; exact w1)) (f5 _ hM.2.1) ⟨hM.2.2.2.2.2.1, hM.2.2.2.2.2.2, w5⟩ hrm, w3, f5 _ w2⟩ hp rfl (by rw [List.length_map]; exact hn) (hl.1) hsk (lv_room (by rw [cat_sum]; exact hr)) hd ⟨by omega, by omega⟩
end CRULES
end
section
/-! ===== makings, final fields, copies, Math ===== -/
def sNew (S : aS) (ci : Nat) : aS := (va_up S.1 (nx S) ci, S.2.1, va_up S.2.2.1 (nx S) (fun _ => none), S.2.2.2.1, nx S + 1)
def sArr (S : aS) (k n : Nat) : aS := (va_up S.1 (nx S) k, va_up S.2.1 (nx S) n, S.2.2.1, va_up S.2.2.2.1 (nx S) (fun _ => none), nx S + 1)
def hNew (h : aH) (n : Nat) : aH := (va_up h.1 n (fun _ => 0), h.2.1, h.2.2)
def hArr (h : aH) (n : Nat) : aH := (h.1, va_up h.2.1 n (fun _ => 0), va_up h.2.2 n (fun _ => 0))
def sfr (S : aS) (a k b : Nat) : aS := (S.1, S.2.1, va_up S.2.2.1 a (va_up (S.2.2.1 a) k (some b)), S.2.2.2.1, S.2.2.2.2)
def srr (S : aS) (a k b : Nat) : aS := (S.1, S.2.1, S.2.2.1, va_up S.2.2.2.1 a (va_up (S.2.2.2.1 a) k (some b)), S.2.2.2.2)
theorem ws_push {g : aG} {S S' : aS} {h h' : aH} (hn : nx S' = nx S + 1) (hs : ∀ b, b < nx S → a_ent g S' h' b = a_ent g S h b) : a_ws g S' h' = a_ws g S h ++ [(g.1 + nx S, a_ent g S' h' (nx S))] := by
  unfold a_ws
  rw [hn, List.range_succ, List.map_append]
  congr 1
  exact List.map_congr_left (fun b hb => by rw [hs b (List.mem_range.mp hb)])
theorem map_ref {g : aG} {a : Nat} {st : List Value} (h : a < 1000) : (Value.ref a :: st).map (tv g) = .ref (g.1 + a) :: st.map (tv g) := by
  show Value.ref (adr g a) :: _ = _
  rw [adr_lt h]
theorem ws_last {g : aG} {S : aS} {h : aH} {x : Nat × va_E} : (a_ws g S h ++ [x])[nx S]? = some x := by
  have hl : (a_ws g S h).length = nx S := by unfold a_ws; simp
  rw [List.getElem?_append_right (by omega), hl, Nat.sub_self]
  rfl
theorem new_at {g : aG} {S : aS} {h : aH} {A : Nat → Prop} {q n : Nat} {e : va_E} (hA : ∀ q, A q → g.1 ≤ q) (hD : va_D A (a_ws g S h ++ [(q, e)])) (hq : q < n) (hn : n ≤ g.1 + nx S + 1) : q = g.1 + nx S := by
  have hl : (a_ws g S h).length = nx S := by unfold a_ws; simp
  have h1 : (a_ws g S h ++ [(q, e)])[nx S]? = some (q, e) := by rw [List.getElem?_append_right (by omega), hl, Nat.sub_self]; rfl
  have h2 : g.1 ≤ q := hA q (hD.2 _ _ h1)
  rcases Nat.lt_or_ge q (g.1 + nx S) with h3 | h3
  · have h4 : q - g.1 < nx S := by omega
    have h5 : (a_ws g S h ++ [(q, e)])[q - g.1]? = some (g.1 + (q - g.1), a_ent g S h (q - g.1)) := by rw [List.getElem?_append_left (by omega)]; exact ws_get h4
    have h6 := hD.1 _ _ _ _ h5 h1 (by show g.1 + (q - g.1) = q; omega)
    omega
  · omega
theorem c_def {ci : Nat} (h : ci < 12) : ∀ k, k < a_N ci → defaultValue (a_fty ci k) = if isRefTy (a_fty ci k) = true then .null else .int 0 := by
  have key : ∀ ci, ci < 12 → ∀ k, k < a_N ci → defaultValue (a_fty ci k) = if isRefTy (a_fty ci k) = true then .null else .int 0 := by decide +kernel
  exact key ci h
def LnkN (own : String) (idx ci : Nat) : Prop := ci < 12 ∧ Cond.classLink own idx (c_C ci) ∈ TBL ∧ Cond.instantiable (c_C ci) (a_N ci) ∈ TBL ∧ Cond.initialized (c_C ci) ∈ TBL
def LnkO (own : String) (idx : Nat) : Prop := Cond.methodLink own idx objectInit ∈ TBL ∧ Cond.instanceMethod objectInit ∈ TBL ∧ Cond.code objectInit ⟨#[0xb1]⟩ 1 none ∈ TBL
def LnkC (own : String) (idx : Nat) : Prop := Cond.methodLink own idx arraycopyName ∈ TBL ∧ Cond.native arraycopyName ∈ TBL ∧ Cond.static arraycopyName ∈ TBL ∧ Cond.initialized "java/lang/System" ∈ TBL
section MRULES
variable {Z : aZ} {M : MD} {d bc bs pc pc' tgt : Nat} {ls st : List Value} {S : aS} {h : aH} {Q : Option Value → aS → aH → Prop}
theorem T_new {idx ci : Nat} (hd : DI M pc (.new idx) 3 pc') (hL : LnkN M.2.2.2.1 idx ci) (hn : nx S + 1 ≤ 1000) (kk : TK Z M d bc bs (sNew S ci) (hNew h (nx S)) Q pc' ls (.ref (nx S) :: st)) : TK Z M d (bc + 1) (bs + a_N ci) S h Q pc ls st := by
  intro g p l e R s m args below meth c QF hF hR H locs cells slots lsA hH hS hl hc hs
  obtain ⟨hd, rfl⟩ := hd
  obtain ⟨hci, w1, w2, w3⟩ := hL
  have hA : ∀ q, s.heap.size ≤ q → a_A g q := fun q hq => Nat.le_trans hF.2.2.2.2.2.2.2.1 hq
  refine va_new (D := g.2.2.1) (A := a_A g) (ci := ci) (fs := (List.range (a_N ci)).map (fun k => if isRefTy (a_fty ci k) = true then Value.null else .int 0)) hF.1 hF.2.1 hF.2.2.2.2.1 (c_in hci) (a_fty ci) (c_ty hci) hF.2.2.2.1 (hF.2.2.2.2.1 _ w1) (hF.2.2.2.2.1 _ w2) (hF.2.2.2.2.1 _ w3) hF.2.2.2.2.2.2.1.1 hH.2 (ws_D g S h) hS hA (c_at hci) (fun j hj => ?_) (by omega) (by omega) hd (fun q H1 hP hD hS1 => ?_)
  · rw [c_def hci j hj]
    unfold vp_V
    rw [List.getD_eq_getElem?_getD, List.getElem?_map, List.getElem?_range hj]
    rfl
  · intro T hT X
    have hz := X.heapSize
    rw [hT] at hz
    have hq := new_at (g := g) (S := S) (h := h) (A := a_A g) (fun q hq => hq) hD (va_at.lt (hP (nx S) _ ws_last)) (show H1.size ≤ g.1 + nx S + 1 by omega)
    subst hq
    have hkd : ∀ b, b < nx S → a_ent g (sNew S ci) (hNew h (nx S)) b = a_ent g S h b := by
      intro b hb
      have hne : b ≠ nx S := Nat.ne_of_lt hb
      unfold a_ent a_fv kd ln fr rr fi ri rj sNew hNew
      simp only [va_up_ne _ _ hne]
    have hnew : a_ent g (sNew S ci) (hNew h (nx S)) (nx S) = .inr (ci, (List.range (a_N ci)).map (fun k => if isRefTy (a_fty ci k) = true then Value.null else .int 0)) := by
      have hk : kd (sNew S ci) (nx S) = ci := by unfold kd sNew; simp only [va_up_self]
      rw [ent_obj hk hci]
      congr 2
      apply List.map_congr_left
      intro k _
      unfold a_fv
      rw [hk]
      unfold fr fi sNew hNew
      simp only [va_up_self]
      rfl
    have k2 := kk g p l e R s m args below meth c QF hF hR H1 locs (cells + 1) (slots + a_N ci) lsA ⟨hn, by rw [ws_push (S := S) (h := h) rfl hkd, hnew]; exact hP⟩ hS1 hl ⟨by omega, by show s.heap.size + (cells + 1) ≤ g.1 + (nx S + 1); omega⟩ (by omega)
    rw [map_ref (show nx S < 1000 by omega)] at k2
    exact k2 T hT X
  
theorem T_newa {at_ : ArrayType} {n : Int32} {N k : Nat} (hd : DI M pc (.newarray at_) 2 pc') (hat : (at_ = .int ∧ k = 20) ∨ (at_ = .long ∧ k = 21)) (hN : n = nI N) (hNb : N ≤ 2000) (hw : Cond.arrayClass .int ∈ TBL ∧ Cond.arrayClass .long ∈ TBL) (hn : nx S + 1 ≤ 1000) (kk : TK Z M d bc bs (sArr S k N) (hArr h (nx S)) Q pc' ls (.ref (nx S) :: st)) : TK Z M d (bc + 1) (bs + N) S h Q pc ls (.int n :: st) := by
  intro g p l e R s m args below meth c QF hF hR H locs cells slots lsA hH hS hl hc hs
  obtain ⟨hd, rfl⟩ := hd
  subst hN
  have hA : ∀ q, s.heap.size ≤ q → a_A g q := fun q hq => Nat.le_trans hF.2.2.2.2.2.2.2.1 hq
  have hK := hF.2.2.2.2.2.2.1.1
  have hkd : ∀ b, b < nx S → a_ent g (sArr S k N) (hArr h (nx S)) b = a_ent g S h b := by
    intro b hb
    have hne : b ≠ nx S := Nat.ne_of_lt hb
    unfold a_ent a_fv kd ln fr rr fi ri rj sArr hArr
    simp only [va_up_ne _ _ hne]
  have hk : kd (sArr S k N) (nx S) = k := by unfold kd sArr; simp only [va_up_self]
  have hln : ln (sArr S k N) (nx S) = N := by unfold ln sArr; simp only [va_up_self]
  rcases hat with ⟨rfl, rfl⟩ | ⟨rfl, rfl⟩
  · refine va_newa (D := g.2.2.1) (A := a_A g) (atype := .int) (N' := N) (a0 := (N, .inl (fun _ => 0))) (ty := .int) hF.1 hF.2.1 (hF.2.2.2.2.1 _ hw.1) rfl hK hH.2 (ws_D g S h) hS hA (fun cA => rfl) (nI_pos (by omega)) (nI_clamp (by omega)) (by show N * 4 ≤ _; omega) (by omega) (by omega) hd (fun q cA H1 hK1 hP hD hS1 => ?_)
    intro T hT X
    have hz := X.heapSize
    rw [hT] at hz
    have hq := new_at (g := g) (S := S) (h := h) (A := a_A g) (fun q hq => hq) hD (va_at.lt (hP (nx S) _ ws_last)) (show H1.size ≤ g.1 + nx S + 1 by omega)
    subst hq
    have hcA : cA = g.2.2.2 0 := by
      have r1 := (hK1.2 4 (cA, .int) rfl).2
      have r2 := (hK.2 0 _ rfl).2
      exact Option.some.inj (r1.symm.trans r2)
    subst hcA
    have hnew : a_ent g (sArr S 20 N) (hArr h (nx S)) (nx S) = .inl (g.2.2.2 0, (N, .inl (fun _ => 0))) := by
      rw [ent_i hk, hln]
      unfold ri hArr
      simp only [va_up_self]
    have k2 := kk g p l e R s m args below meth c QF hF hR H1 locs (cells + 1) (slots + N) lsA ⟨hn, by rw [ws_push (S := S) (h := h) rfl hkd, hnew]; exact hP⟩ hS1 hl ⟨by omega, by show s.heap.size + (cells + 1) ≤ g.1 + (nx S + 1); omega⟩ (by omega)
    rw [map_ref (show nx S < 1000 by omega)] at k2
    exact k2 T hT X
  · refine va_newa (D := g.2.2.1) (A := a_A g) (atype := .long) (N' := N) (a0 := (N, .inr (.inl (fun _ => 0)))) (ty := .long) hF.1 hF.2.1 (hF.2.2.2.2.1 _ hw.2) rfl hK hH.2 (ws_D g S h) hS hA (fun cA => rfl) (nI_pos (by omega)) (nI_clamp (by omega)) (by show N * 8 ≤ _; omega) (by omega) (by omega) hd (fun q cA H1 hK1 hP hD hS1 => ?_)
    intro T hT X
    have hz := X.heapSize
    rw [hT] at hz
    have hq := new_at (g := g) (S := S) (h := h) (A := a_A g) (fun q hq => hq) hD (va_at.lt (hP (nx S) _ ws_last)) (show H1.size ≤ g.1 + nx S + 1 by omega)
    subst hq
    have hcA : cA = g.2.2.2 1 := by
      have r1 := (hK1.2 4 (cA, .long) rfl).2
      have r2 := (hK.2 1 _ rfl).2
      exact Option.some.inj (r1.symm.trans r2)
    subst hcA
    have hnew : a_ent g (sArr S 21 N) (hArr h (nx S)) (nx S) = .inl (g.2.2.2 1, (N, .inr (.inl (fun _ => 0)))) := by
      rw [ent_j hk, hln]
      unfold rj hArr
      simp only [va_up_self]
    have k2 := kk g p l e R s m args below meth c QF hF hR H1 locs (cells + 1) (slots + N) lsA ⟨hn, by rw [ws_push (S := S) (h := h) rfl hkd, hnew]; exact hP⟩ hS1 hl ⟨by omega, by show s.heap.size + (cells + 1) ≤ g.1 + (nx S + 1); omega⟩ (by omega)
    rw [map_ref (show nx S < 1000 by omega)] at k2
    exact k2 T hT X
theorem T_newq {idx k N : Nat} {n : Int32} (hd : DI M pc (.anewarray idx) 3 pc') (hk2 : k < 2) (hL : Cond.classLink M.2.2.2.1 idx (qC k) ∈ TBL) (hN : n = nI N) (hNb : N ≤ 2000) (hn : nx S + 1 ≤ 1000) (kk : TK Z M d bc bs (sArr S (22 + k) N) (hArr h (nx S)) Q pc' ls (.ref (nx S) :: st)) : TK Z M d (bc + 1) (bs + N) S h Q pc ls (.int n :: st) := by
  intro g p l e R s m args below meth c QF hF hR H locs cells slots lsA hH hS hl hc hs
  obtain ⟨hd, rfl⟩ := hd
  subst hN
  have hA : ∀ q, s.heap.size ≤ q → a_A g q := fun q hq => Nat.le_trans hF.2.2.2.2.2.2.2.1 hq
  have hK := hF.2.2.2.2.2.2.1.1
  have hkd : ∀ b, b < nx S → a_ent g (sArr S (22 + k) N) (hArr h (nx S)) b = a_ent g S h b := by
    intro b hb
    have hne : b ≠ nx S := Nat.ne_of_lt hb
    unfold a_ent a_fv kd ln fr rr fi ri rj sArr hArr
    simp only [va_up_ne _ _ hne]
  have hk : kd (sArr S (22 + k) N) (nx S) = 22 + k := by unfold kd sArr; simp only [va_up_self]
  have hln : ln (sArr S (22 + k) N) (nx S) = N := by unfold ln sArr; simp only [va_up_self]
  have hov : va_AO (qC k) s := by
    rcases (show k = 0 ∨ k = 1 by omega) with rfl | rfl
    · exact hF.2.2.2.2.2.2.1.2.2.2.2.1
    · exact hF.2.2.2.2.2.2.1.2.2.2.2.2
  refine va_newq (D := g.2.2.1) (A := a_A g) (N' := N) hF.1 hF.2.1 hF.2.2.2.1 (hF.2.2.2.2.1 _ hL) hov hK hH.2 (ws_D g S h) hS hA (nI_pos (by omega)) (nI_clamp (by omega)) (by omega) (by omega) (by omega) hd (fun q cA H1 hK1 hP hD hS1 => ?_)
  intro T hT X
  have hz := X.heapSize
  rw [hT] at hz
  have hq := new_at (g := g) (S := S) (h := h) (A := a_A g) (fun q hq => hq) hD (va_at.lt (hP (nx S) _ ws_last)) (show H1.size ≤ g.1 + nx S + 1 by omega)
  subst hq
  have hcA : cA = g.2.2.2 (2 + k) := by
    obtain ⟨_, _, _, _, _, r1⟩ := (hK1.2 4 (cA, .object (qC k)) rfl).2
    obtain ⟨_, _, _, _, _, r2⟩ := (hK.2 (2 + k) _ (tys_q g hk2)).2
    exact Option.some.inj (r1.symm.trans r2)
  subst hcA
  have hnew : a_ent g (sArr S (22 + k) N) (hArr h (nx S)) (nx S) = .inl (g.2.2.2 (2 + k), (N, .inr (.inr (.inr (.inr (fun _ => none)))))) := by
    rw [ent_q hk, hln]
    unfold rr sArr
    simp only [va_up_self]
    rfl
  have k2 := kk g p l e R s m args below meth c QF hF hR H1 locs (cells + 1) (slots + N) lsA ⟨hn, by rw [ws_push (S := S) (h := h) rfl hkd, hnew]; exact hP⟩ hS1 hl ⟨by omega, by show s.heap.size + (cells + 1) ≤ g.1 + (nx S + 1); omega⟩ (by omega)
  rw [map_ref (show nx S < 1000 by omega)] at k2
  exact k2 T hT X
theorem HREL.to2 {g : aG} {S S' : aS} {h : aH} {H H1 : Heap} {a : Nat} {e : va_E} (hn : nx S' = nx S) (hH : HREL g S h H) (he : a_ent g S' h a = e) (hne : ∀ b, b ≠ a → a_ent g S' h b = a_ent g S h b) (hP : va_P g.2.2.1 vwCl ((a_ws g S h).set a (g.1 + a, e)) H1) : HREL g S' h H1 := by
  refine ⟨by rw [hn]; exact hH.1, ?_⟩
  have : (a_ws g S h).set a (g.1 + a, a_ent g S' h a) = a_ws g S' h := by
    apply List.ext_getElem?
    intro b
    by_cases hb : b < nx S
    · rw [ws_get (S := S') (by rw [hn]; exact hb)]
      by_cases hab : b = a
      · subst hab
        rw [List.getElem?_set_self (by unfold a_ws; simpa using hb)]
      · rw [List.getElem?_set_ne (Ne.symm hab), ws_get hb, hne b hab]
    · have h1 : (a_ws g S' h).length ≤ b := by unfold a_ws; rw [hn]; simpa using hb
      have h2 : ((a_ws g S h).set a (g.1 + a, a_ent g S' h a)).length ≤ b := by rw [List.length_set]; unfold a_ws; simpa using hb
      rw [List.getElem?_eq_none h1, List.getElem?_eq_none h2]
  rw [← this, he]
  exact hP
theorem T_putF {idx ci k a b : Nat} (hd : DI M pc (.putfield idx) 3 pc') (hL : LnkF M.2.2.2.1 idx ci k) (ht : isRefTy (a_fty ci k) = true) (hfin : (c_T ci k).2.2.2 = true) (hin : M.2.2.2.2.name = "<init>" ∧ c_C ci = M.2.2.2.1) (hk : kd S a = ci) (ha : a < nx S) (kk : TK Z M d bc bs (sfr S a k b) h Q pc' ls st) : TK Z M d bc bs S h Q pc ls (.ref b :: .ref a :: st) := by
  intro g p l e R s m args below meth c QF hF hR H locs cells slots lsA hH hS hl hc hs
  obtain ⟨hd, rfl⟩ := hd
  obtain ⟨hci, hkn, hln⟩ := hL
  obtain ⟨fs, e1, e2, e3⟩ := obj_get (g := g) (h := h) hk hci hkn ha
  show W p l e R s m args below meth c H locs cells slots QF (F0 m pc lsA (.ref (adr g b) :: .ref (adr g a) :: st.map (tv g)))
  rw [adr_lt (hH.lt ha)]
  have hnf : narrow (a_fty ci k) (.ref (adr g b)) = .ref (adr g b) ∧ fits (a_fty ci k) (.ref (adr g b)) = true := by
    cases hty : a_fty ci k <;> rw [hty] at ht <;> first | (exact ⟨rfl, rfl⟩) | (cases ht)
  refine va_putF (D := g.2.2.1) (A := a_A g) hF.1 hF.2.1 hF.2.2.2.2.1 (c_in hci) (a_fty ci) (c_ty hci) (c_nm hci) hF.2.2.2.1 hF.2.2.2.2.2.2.1.1 hH.2 (ws_D g S h) hS a e1 (c_at hci) k hkn (hF.2.2.2.2.1 _ hln) (fun _ q => q) hfin (by rw [hF.2.2.2.2.2.1]; exact hin.1) ((c_own hci k hkn).trans hin.2) (c_ty hci k hkn) hnf.1 hnf.2 (by rw [e3]; simpa using hkn) hd (fun H1 locs1 hP1 hD1 hS1 => ?_)
  refine kk g p l e R s m args below meth c QF hF hR H1 locs1 cells slots lsA (HREL.to2 (S := S) (S' := sfr S a k b) rfl hH ?_ (fun b2 hb => ?_) hP1) hS1 hl hc hs
  · have hk' : kd (sfr S a k b) a = ci := hk
    rw [ent_obj hk' hci, e3]
    subst hk
    have ev : a_fv g (sfr S a k b) h a k = .ref (adr g b) := by
      refine a_fv_ref ht ?_
      unfold fr sfr
      simp only [va_up_self]
    rw [← ev, range_map_set (a_fv g S h a) (a_fv g (sfr S a k b) h a)]
    intro j _ hj
    unfold a_fv kd fr sfr
    simp only [va_up_self, va_up_ne _ _ hj]
  · unfold a_ent a_fv kd ln fr rr sfr
    simp only [va_up_ne _ _ hb]
theorem T_aast {a b k ci : Nat} {i : Int32} (hd : DI M pc .aastore 1 pc') (hk : kd S a = 22 + k) (hk2 : k < 2) (ha : a < nx S) (hb : b < nx S) (hkb : kd S b = ci) (hci : ci < 12) (hcq : c_C ci = qC k) (hin : vp_in i (ln S a)) (kk : TK Z M d bc bs (srr S a i.toNatClampNeg b) h Q pc' ls st) : TK Z M d bc bs S h Q pc ls (.ref b :: .int i :: .ref a :: st) := by
  intro g p l e R s m args below meth c QF hF hR H locs cells slots lsA hH hS hl hc hs
  obtain ⟨hd, rfl⟩ := hd
  show W p l e R s m args below meth c H locs cells slots QF (F0 m pc lsA (.ref (adr g b) :: .int i :: .ref (adr g a) :: st.map (tv g)))
  rw [adr_lt (hH.lt ha), adr_lt (hH.lt hb)]
  refine va_astq (D := g.2.2.1) (A := a_A g) (r := (c_C ci, c_T ci, a_N ci)) (v := g.1 + b) hF.1 hF.2.1 hF.2.2.2.2.2.2.1.1 hH.2 (ws_D g S h) hS a (2 + k) b ci (by rw [ws_get ha, ent_q hk]) (by rw [tys_q g hk2]; show _ = some (_, FieldType.object (c_C ci)); rw [hcq]) (by rw [ws_get hb, ent_obj hkb hci]) (c_at hci) hin hd (fun H1 locs1 hP1 _ hS1 => ?_)
  refine kk g p l e R s m args below meth c QF hF hR H1 locs1 cells slots lsA (HREL.to2 (S := S) (S' := srr S a i.toNatClampNeg b) rfl hH ?_ (fun b2 hb2 => ?_) hP1) hS1 hl hc hs
  · have hk' : kd (srr S a i.toNatClampNeg b) a = 22 + k := hk
    rw [ent_q hk']
    refine congrArg (fun f => (Sum.inl (g.2.2.2 (2 + k), (ln S a, .inr (.inr (.inr (.inr f))))) : va_E)) ?_
    funext j
    unfold rr srr
    simp only [va_up_self]
    by_cases hj : j = i.toNatClampNeg
    · subst hj
      simp only [va_up_self]
      show some (adr g b) = _
      rw [adr_lt (hH.lt hb)]
    · simp only [va_up_ne _ _ hj]
  · unfold a_ent a_fv kd ln fr rr srr
    simp only [va_up_ne _ _ hb2]
theorem T_objInit {idx a : Nat} (hd : DI M pc (.invokespecial idx) 3 pc') (hL : LnkO M.2.2.2.1 idx) (hr : (st.map fun v => v.category).sum ≤ 8) (kk : TK Z M d bc bs S h Q pc' ls st) : TK Z M d bc bs S h Q pc ls (.ref a :: st) := by
  intro g p l e R s m args below meth c QF hF hR H locs cells slots lsA hH hS hl hc hs
  obtain ⟨hd, rfl⟩ := hd
  have f9 := hF.2.2.2.2.2.2.2.2.1
  have f10 := hF.2.2.2.2.2.2.2.2.2
  exact W.objInit hF.1 hF.2.1 hF.2.2.2.1 (hF.2.2.2.2.1 _ hL.1) (hF.2.2.2.2.1 _ hL.2.1) (hF.2.2.2.2.1 _ hL.2.2) rfl (hl.1.trans hF.2.2.1.symm) rfl hd (by omega) (by have := cat_sum g st; show 2 * 0 + _ + 12 ≤ _; omega) (kk g p l e R s m args below meth c QF hF hR H locs cells slots lsA hH hS hl hc hs)
theorem ent_srow_ne {g : aG} {S : aS} {h : aH} {a : Nat} {f : Nat → Int32} {b : Nat} (hb : b ≠ a) : a_ent g S (srow h a f) b = a_ent g S h b := by
  unfold a_ent a_fv fi ri rj srow
  simp only [va_up_ne _ _ hb]
theorem ent_srowj_ne {g : aG} {S : aS} {h : aH} {a : Nat} {f : Nat → Int64} {b : Nat} (hb : b ≠ a) : a_ent g S (srowj h a f) b = a_ent g S h b := by
  unfold a_ent a_fv fi ri rj srowj
  simp only [va_up_ne _ _ hb]
theorem T_copyi {idx a0 a : Nat} {sp dp n : Int32} (hd : DI M pc (.invokestatic idx) 3 pc') (hL : LnkC M.2.2.2.1 idx) (hk0 : kd S a0 = 20) (ha0 : a0 < nx S) (hk : kd S a = 20) (ha : a < nx S) (h1 : ¬ sp < 0) (h2 : ¬ dp < 0) (h3 : ¬ n < 0) (h4 : sp.toNatClampNeg + n.toNatClampNeg ≤ ln S a0) (h5 : dp.toNatClampNeg + n.toNatClampNeg ≤ ln S a) (hr : (st.map fun v => v.category).sum ≤ 8) (kk : TK Z M d bc bs S (srow h a (va_cpy (ri h a0) (ri h a) sp.toNatClampNeg dp.toNatClampNeg n.toNatClampNeg)) Q pc' ls st) : TK Z M d bc bs S h Q pc ls (.int n :: .int dp :: .ref a :: .int sp :: .ref a0 :: st) := by
  intro g p l e R s m args below meth c QF hF hR H locs cells slots lsA hH hS hl hc hs
  obtain ⟨hd, rfl⟩ := hd
  have f9 := hF.2.2.2.2.2.2.2.2.1
  have f10 := hF.2.2.2.2.2.2.2.2.2
  show W p l e R s m args below meth c H locs cells slots QF (F0 m pc lsA (.int n :: .int dp :: .ref (adr g a) :: .int sp :: .ref (adr g a0) :: st.map (tv g)))
  rw [adr_lt (hH.lt ha), adr_lt (hH.lt ha0)]
  exact va_copyi (D := g.2.2.1) (A := a_A g) (ty := .int) hF.1 hF.2.1 (hF.2.2.1.trans hl.1.symm) hF.2.2.2.1 (hF.2.2.2.2.1 _ hL.1) (hF.2.2.2.2.1 _ hL.2.1) (hF.2.2.2.2.1 _ hL.2.2.1) (hF.2.2.2.2.1 _ hL.2.2.2) hF.2.2.2.2.2.2.1.1 hH.2 (ws_D g S h) hS a0 a 0 0 (by rw [ws_get ha0, ent_i hk0]) (by rw [ws_get ha, ent_i hk]) (tys_i g) (tys_i g) rfl h1 h2 h3 h4 h5 (fun _ _ => rfl) (by omega) (by have := cat_sum g st; show _ + (5 + 2 + 11) ≤ _; omega) hd (fun H1 locs1 hP1 _ hS1 => kk g p l e R s m args below meth c QF hF hR H1 locs1 cells slots lsA (hH.to (by rw [ent_i hk]; unfold ri srow; simp only [va_up_self]) (fun b hb => ent_srow_ne hb) hP1) hS1 hl hc hs)
theorem T_copyl {idx a0 a : Nat} {sp dp n : Int32} (hd : DI M pc (.invokestatic idx) 3 pc') (hL : LnkC M.2.2.2.1 idx) (hk0 : kd S a0 = 21) (ha0 : a0 < nx S) (hk : kd S a = 21) (ha : a < nx S) (h1 : ¬ sp < 0) (h2 : ¬ dp < 0) (h3 : ¬ n < 0) (h4 : sp.toNatClampNeg + n.toNatClampNeg ≤ ln S a0) (h5 : dp.toNatClampNeg + n.toNatClampNeg ≤ ln S a) (hr : (st.map fun v => v.category).sum ≤ 8) (kk : TK Z M d bc bs S (srowj h a (va_cpy (rj h a0) (rj h a) sp.toNatClampNeg dp.toNatClampNeg n.toNatClampNeg)) Q pc' ls st) : TK Z M d bc bs S h Q pc ls (.int n :: .int dp :: .ref a :: .int sp :: .ref a0 :: st) := by
  intro g p l e R s m args below meth c QF hF hR H locs cells slots lsA hH hS hl hc hs
  obtain ⟨hd, rfl⟩ := hd
  have f9 := hF.2.2.2.2.2.2.2.2.1
  have f10 := hF.2.2.2.2.2.2.2.2.2
  show W p l e R s m args below meth c H locs cells slots QF (F0 m pc lsA (.int n :: .int dp :: .ref (adr g a) :: .int sp :: .ref (adr g a0) :: st.map (tv g)))
  rw [adr_lt (hH.lt ha), adr_lt (hH.lt ha0)]
  exact va_copyl (D := g.2.2.1) (A := a_A g) (ty := .long) hF.1 hF.2.1 (hF.2.2.1.trans hl.1.symm) hF.2.2.2.1 (hF.2.2.2.2.1 _ hL.1) (hF.2.2.2.2.1 _ hL.2.1) (hF.2.2.2.2.1 _ hL.2.2.1) (hF.2.2.2.2.1 _ hL.2.2.2) hF.2.2.2.2.2.2.1.1 hH.2 (ws_D g S h) hS a0 a 1 1 (by rw [ws_get ha0, ent_j hk0]) (by rw [ws_get ha, ent_j hk]) (tys_j g) (tys_j g) rfl h1 h2 h3 h4 h5 (fun _ _ => rfl) (by omega) (by have := cat_sum g st; show _ + (5 + 2 + 11) ≤ _; omega) hd (fun H1 locs1 hP1 _ hS1 => kk g p l e R s m args below meth c QF hF hR H1 locs1 cells slots lsA (hH.to (by rw [ent_j hk]; unfold rj srowj; simp only [va_up_self]) (fun b hb => ent_srowj_ne hb) hP1) hS1 hl hc hs)
/-- Math -/
def LnkMx (own : String) (idx : Nat) : Prop := Cond.methodLink own idx Lib.Math.max.name ∈ TBL ∧ Cond.static Lib.Math.max.name ∈ TBL ∧ Cond.initialized "java/lang/Math" ∈ TBL ∧ Cond.code Lib.Math.max.name Lib.Math.max.code 2 (some .int) ∈ TBL
def LnkMn (own : String) (idx : Nat) : Prop := Cond.methodLink own idx Lib.Math.min.name ∈ TBL ∧ Cond.static Lib.Math.min.name ∈ TBL ∧ Cond.initialized "java/lang/Math" ∈ TBL ∧ Cond.code Lib.Math.min.name Lib.Math.min.code 2 (some .int) ∈ TBL
def LnkMa (own : String) (idx : Nat) : Prop := Cond.methodLink own idx Lib.Math.abs.name ∈ TBL ∧ Cond.static Lib.Math.abs.name ∈ TBL ∧ Cond.initialized "java/lang/Math" ∈ TBL ∧ Cond.code Lib.Math.abs.name Lib.Math.abs.code 1 (some .int) ∈ TBL
theorem T_max {idx : Nat} {x y : Int32} (hd : DI M pc (.invokestatic idx) 3 pc') (hL : LnkMx M.2.2.2.1 idx) (hr : (st.map fun v => v.category).sum ≤ 8) (kk : TK Z M d bc bs S h Q pc' ls (.int (if x < y then y else x) :: st)) : TK Z M d bc bs S h Q pc ls (.int y :: .int x :: st) := by
  intro g p l e R s m args below meth c QF hF hR H locs cells slots lsA hH hS hl hc hs
  obtain ⟨hd, rfl⟩ := hd
  have f9 := hF.2.2.2.2.2.2.2.2.1
  have f10 := hF.2.2.2.2.2.2.2.2.2
  exact va_mmax hF.1 hF.2.1 (hF.2.2.1.trans hl.1.symm) hF.2.2.2.1 (hF.2.2.2.2.1 _ hL.1) (hF.2.2.2.2.1 _ hL.2.1) (hF.2.2.2.2.1 _ hL.2.2.1) (hF.2.2.2.2.1 _ hL.2.2.2) (by omega) (by have := cat_sum g st; omega) (by omega) (by omega) hd (kk g p l e R s m args below meth c QF hF hR H locs cells slots lsA hH hS hl hc hs)
theorem T_min {idx : Nat} {x y : Int32} (hd : DI M pc (.invokestatic idx) 3 pc') (hL : LnkMn M.2.2.2.1 idx) (hr : (st.map fun v => v.category).sum ≤ 8) (kk : TK Z M d bc bs S h Q pc' ls (.int (if y < x then y else x) :: st)) : TK Z M d bc bs S h Q pc ls (.int y :: .int x :: st) := by
  intro g p l e R s m args below meth c QF hF hR H locs cells slots lsA hH hS hl hc hs
  obtain ⟨hd, rfl⟩ := hd
  have f9 := hF.2.2.2.2.2.2.2.2.1
  have f10 := hF.2.2.2.2.2.2.2.2.2
  exact va_mmin hF.1 hF.2.1 (hF.2.2.1.trans hl.1.symm) hF.2.2.2.1 (hF.2.2.2.2.1 _ hL.1) (hF.2.2.2.2.1 _ hL.2.1) (hF.2.2.2.2.1 _ hL.2.2.1) (hF.2.2.2.2.1 _ hL.2.2.2) (by omega) (by have := cat_sum g st; omega) (by omega) (by omega) hd (kk g p l e R s m args below meth c QF hF hR H locs cells slots lsA hH hS hl hc hs)
theorem T_abs {idx : Nat} {x : Int32} (hd : DI M pc (.invokestatic idx) 3 pc') (hL : LnkMa M.2.2.2.1 idx) (hr : (st.map fun v => v.category).sum ≤ 8) (kk : TK Z M d bc bs S h Q pc' ls (.int (if 0 ≤ x then x else 0 - x) :: st)) : TK Z M d bc bs S h Q pc ls (.int x :: st) := by
  intro g p l e R s m args below meth c QF hF hR H locs cells slots lsA hH hS hl hc hs
  obtain ⟨hd, rfl⟩ := hd
  have f9 := hF.2.2.2.2.2.2.2.2.1
  have f10 := hF.2.2.2.2.2.2.2.2.2
  exact va_mabs hF.1 hF.2.1 (hF.2.2.1.trans hl.1.symm) hF.2.2.2.1 (hF.2.2.2.2.1 _ hL.1) (hF.2.2.2.2.1 _ hL.2.1) (hF.2.2.2.2.1 _ hL.2.2.1) (hF.2.2.2.2.1 _ hL.2.2.2) (by omega) (by have := cat_sum g st; omega) (by omega) (by omega) hd (kk g p l e R s m args below meth c QF hF hR H locs cells slots lsA hH hS hl hc hs)
end MRULES
end
