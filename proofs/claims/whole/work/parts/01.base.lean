-- ===== PART A: goes FIRST, ahead of the names: the tables' words, and 'selects' of the private methods out of them =====
/-- a private method of a class that the tables say can be made, by its rows of tables_1 -/
def lw_okq (q : MethodName × Nat) : Prop := (q.1.cls ≠ "java/lang/invoke/MethodHandle" ∧ q.1.cls ≠ "java/lang/invoke/VarHandle") ∧ Cond.instantiable q.1.cls q.2 ∈ tables_1 ∧ Cond.privateMethod q.1 ∈ tables_1 ∧ Cond.instanceMethod q.1 ∈ tables_1
theorem lw_p0 : lw_okq (⟨"MarshLights", "newThing", "(IIII)LMarshLights$Thing;"⟩, 19) := ⟨⟨by decide +kernel, by decide +kernel⟩, List.mem_of_getElem? (i := 19) (by decide +kernel), List.mem_of_getElem? (i := 404) (by decide +kernel), List.mem_of_getElem? (i := 405) (by decide +kernel)⟩
theorem lw_p1 : lw_okq (⟨"MarshLights", "isThing", "(I)Z"⟩, 19) := ⟨⟨by decide +kernel, by decide +kernel⟩, List.mem_of_getElem? (i := 19) (by decide +kernel), List.mem_of_getElem? (i := 447) (by decide +kernel), List.mem_of_getElem? (i := 448) (by decide +kernel)⟩
theorem lw_p2 : lw_okq (⟨"MarshLights", "isSeer", "(I)Z"⟩, 19) := ⟨⟨by decide +kernel, by decide +kernel⟩, List.mem_of_getElem? (i := 19) (by decide +kernel), List.mem_of_getElem? (i := 479) (by decide +kernel), List.mem_of_getElem? (i := 480) (by decide +kernel)⟩
theorem lw_p3 : lw_okq (⟨"MarshLights", "isTelling", "(I)Z"⟩, 19) := ⟨⟨by decide +kernel, by decide +kernel⟩, List.mem_of_getElem? (i := 19) (by decide +kernel), List.mem_of_getElem? (i := 552) (by decide +kernel), List.mem_of_getElem? (i := 553) (by decide +kernel)⟩
theorem lw_p4 : lw_okq (⟨"MarshLights", "fittingOf", "(LMarshLights$Telling;)I"⟩, 19) := ⟨⟨by decide +kernel, by decide +kernel⟩, List.mem_of_getElem? (i := 19) (by decide +kernel), List.mem_of_getElem? (i := 564) (by decide +kernel), List.mem_of_getElem? (i := 565) (by decide +kernel)⟩
theorem lw_p5 : lw_okq (⟨"MarshLights", "isLike", "(LMarshLights$Telling;LMarshLights$Thing;)Z"⟩, 19) := ⟨⟨by decide +kernel, by decide +kernel⟩, List.mem_of_getElem? (i := 19) (by decide +kernel), List.mem_of_getElem? (i := 568) (by decide +kernel), List.mem_of_getElem? (i := 569) (by decide +kernel)⟩
theorem lw_p6 : lw_okq (⟨"MarshLights", "isNear", "(II)Z"⟩, 19) := ⟨⟨by decide +kernel, by decide +kernel⟩, List.mem_of_getElem? (i := 19) (by decide +kernel), List.mem_of_getElem? (i := 572) (by decide +kernel), List.mem_of_getElem? (i := 573) (by decide +kernel)⟩
theorem lw_p7 : lw_okq (⟨"MarshLights", "gatherNeeds", "()I"⟩, 19) := ⟨⟨by decide +kernel, by decide +kernel⟩, List.mem_of_getElem? (i := 19) (by decide +kernel), List.mem_of_getElem? (i := 593) (by decide +kernel), List.mem_of_getElem? (i := 594) (by decide +kernel)⟩
theorem lw_p8 : lw_okq (⟨"MarshLights", "meetsAll", "(II)Z"⟩, 19) := ⟨⟨by decide +kernel, by decide +kernel⟩, List.mem_of_getElem? (i := 19) (by decide +kernel), List.mem_of_getElem? (i := 597) (by decide +kernel), List.mem_of_getElem? (i := 598) (by decide +kernel)⟩
theorem lw_p9 : lw_okq (⟨"MarshLights", "pointsAt", "(LMarshLights$Telling;I)Z"⟩, 19) := ⟨⟨by decide +kernel, by decide +kernel⟩, List.mem_of_getElem? (i := 19) (by decide +kernel), List.mem_of_getElem? (i := 613) (by decide +kernel), List.mem_of_getElem? (i := 614) (by decide +kernel)⟩
theorem lw_p10 : lw_okq (⟨"MarshLights", "shareHeight", "(LMarshLights$Telling;LMarshLights$Telling;I)Z"⟩, 19) := ⟨⟨by decide +kernel, by decide +kernel⟩, List.mem_of_getElem? (i := 19) (by decide +kernel), List.mem_of_getElem? (i := 618) (by decide +kernel), List.mem_of_getElem? (i := 619) (by decide +kernel)⟩
theorem lw_p11 : lw_okq (⟨"MarshLights", "leastHeight", "(LMarshLights$Telling;I)I"⟩, 19) := ⟨⟨by decide +kernel, by decide +kernel⟩, List.mem_of_getElem? (i := 19) (by decide +kernel), List.mem_of_getElem? (i := 622) (by decide +kernel), List.mem_of_getElem? (i := 623) (by decide +kernel)⟩
theorem lw_p12 : lw_okq (⟨"MarshLights", "eyeAt", "(I)I"⟩, 19) := ⟨⟨by decide +kernel, by decide +kernel⟩, List.mem_of_getElem? (i := 19) (by decide +kernel), List.mem_of_getElem? (i := 626) (by decide +kernel), List.mem_of_getElem? (i := 627) (by decide +kernel)⟩
theorem lw_p13 : lw_okq (⟨"MarshLights", "greatestHeight", "(LMarshLights$Telling;I)I"⟩, 19) := ⟨⟨by decide +kernel, by decide +kernel⟩, List.mem_of_getElem? (i := 19) (by decide +kernel), List.mem_of_getElem? (i := 636) (by decide +kernel), List.mem_of_getElem? (i := 637) (by decide +kernel)⟩
theorem lw_p14 : lw_okq (⟨"MarshLights", "leastShown", "(II)I"⟩, 19) := ⟨⟨by decide +kernel, by decide +kernel⟩, List.mem_of_getElem? (i := 19) (by decide +kernel), List.mem_of_getElem? (i := 664) (by decide +kernel), List.mem_of_getElem? (i := 665) (by decide +kernel)⟩
theorem lw_p15 : lw_okq (⟨"MarshLights", "weighMinutes", "(LMarshLights$Telling;)V"⟩, 19) := ⟨⟨by decide +kernel, by decide +kernel⟩, List.mem_of_getElem? (i := 19) (by decide +kernel), List.mem_of_getElem? (i := 680) (by decide +kernel), List.mem_of_getElem? (i := 681) (by decide +kernel)⟩
def lw_privs_1 : List (MethodName × Nat) := [(⟨"MarshLights", "newThing", "(IIII)LMarshLights$Thing;"⟩, 19), (⟨"MarshLights", "isThing", "(I)Z"⟩, 19), (⟨"MarshLights", "isSeer", "(I)Z"⟩, 19), (⟨"MarshLights", "isTelling", "(I)Z"⟩, 19), (⟨"MarshLights", "fittingOf", "(LMarshLights$Telling;)I"⟩, 19), (⟨"MarshLights", "isLike", "(LMarshLights$Telling;LMarshLights$Thing;)Z"⟩, 19), (⟨"MarshLights", "isNear", "(II)Z"⟩, 19), (⟨"MarshLights", "gatherNeeds", "()I"⟩, 19), (⟨"MarshLights", "meetsAll", "(II)Z"⟩, 19), (⟨"MarshLights", "pointsAt", "(LMarshLights$Telling;I)Z"⟩, 19), (⟨"MarshLights", "shareHeight", "(LMarshLights$Telling;LMarshLights$Telling;I)Z"⟩, 19), (⟨"MarshLights", "leastHeight", "(LMarshLights$Telling;I)I"⟩, 19), (⟨"MarshLights", "eyeAt", "(I)I"⟩, 19), (⟨"MarshLights", "greatestHeight", "(LMarshLights$Telling;I)I"⟩, 19), (⟨"MarshLights", "leastShown", "(II)I"⟩, 19), (⟨"MarshLights", "weighMinutes", "(LMarshLights$Telling;)V"⟩, 19)]
theorem lw_r1 : ∀ q ∈ lw_privs_1, lw_okq q := List.forall_mem_cons.mpr ⟨lw_p0, List.forall_mem_cons.mpr ⟨lw_p1, List.forall_mem_cons.mpr ⟨lw_p2, List.forall_mem_cons.mpr ⟨lw_p3, List.forall_mem_cons.mpr ⟨lw_p4, List.forall_mem_cons.mpr ⟨lw_p5, List.forall_mem_cons.mpr ⟨lw_p6, List.forall_mem_cons.mpr ⟨lw_p7, List.forall_mem_cons.mpr ⟨lw_p8, List.forall_mem_cons.mpr ⟨lw_p9, List.forall_mem_cons.mpr ⟨lw_p10, List.forall_mem_cons.mpr ⟨lw_p11, List.forall_mem_cons.mpr ⟨lw_p12, List.forall_mem_cons.mpr ⟨lw_p13, List.forall_mem_cons.mpr ⟨lw_p14, List.forall_mem_cons.mpr ⟨lw_p15, fun _ h => absurd h List.not_mem_nil⟩⟩⟩⟩⟩⟩⟩⟩⟩⟩⟩⟩⟩⟩⟩⟩
theorem lw_p16 : lw_okq (⟨"MarshLights", "couplesParted", "(III)I"⟩, 19) := ⟨⟨by decide +kernel, by decide +kernel⟩, List.mem_of_getElem? (i := 19) (by decide +kernel), List.mem_of_getElem? (i := 684) (by decide +kernel), List.mem_of_getElem? (i := 685) (by decide +kernel)⟩
theorem lw_p17 : lw_okq (⟨"MarshLights$Reader", "split", "()V"⟩, 6) := ⟨⟨by decide +kernel, by decide +kernel⟩, List.mem_of_getElem? (i := 120) (by decide +kernel), List.mem_of_getElem? (i := 708) (by decide +kernel), List.mem_of_getElem? (i := 709) (by decide +kernel)⟩
theorem lw_p18 : lw_okq (⟨"MarshLights$Reader", "tokenEnd", "(I)I"⟩, 6) := ⟨⟨by decide +kernel, by decide +kernel⟩, List.mem_of_getElem? (i := 120) (by decide +kernel), List.mem_of_getElem? (i := 712) (by decide +kernel), List.mem_of_getElem? (i := 713) (by decide +kernel)⟩
theorem lw_p19 : lw_okq (⟨"MarshLights$Reader", "tokenOf", "(II)I"⟩, 6) := ⟨⟨by decide +kernel, by decide +kernel⟩, List.mem_of_getElem? (i := 120) (by decide +kernel), List.mem_of_getElem? (i := 722) (by decide +kernel), List.mem_of_getElem? (i := 723) (by decide +kernel)⟩
theorem lw_p20 : lw_okq (⟨"MarshLights$Reader", "wordOf", "(II)I"⟩, 6) := ⟨⟨by decide +kernel, by decide +kernel⟩, List.mem_of_getElem? (i := 120) (by decide +kernel), List.mem_of_getElem? (i := 726) (by decide +kernel), List.mem_of_getElem? (i := 727) (by decide +kernel)⟩
theorem lw_p21 : lw_okq (⟨"MarshLights$Reader", "numberOf", "(II)I"⟩, 6) := ⟨⟨by decide +kernel, by decide +kernel⟩, List.mem_of_getElem? (i := 120) (by decide +kernel), List.mem_of_getElem? (i := 779) (by decide +kernel), List.mem_of_getElem? (i := 780) (by decide +kernel)⟩
theorem lw_p22 : lw_okq (⟨"MarshLights$Reader", "token", "()I"⟩, 6) := ⟨⟨by decide +kernel, by decide +kernel⟩, List.mem_of_getElem? (i := 120) (by decide +kernel), List.mem_of_getElem? (i := 844) (by decide +kernel), List.mem_of_getElem? (i := 845) (by decide +kernel)⟩
theorem lw_p23 : lw_okq (⟨"MarshLights$Reader", "readLine", "(LMarshLights$Rules;)Z"⟩, 6) := ⟨⟨by decide +kernel, by decide +kernel⟩, List.mem_of_getElem? (i := 120) (by decide +kernel), List.mem_of_getElem? (i := 848) (by decide +kernel), List.mem_of_getElem? (i := 849) (by decide +kernel)⟩
theorem lw_p24 : lw_okq (⟨"MarshLights$Reader", "readSum", "(LMarshLights$Rules;I)Z"⟩, 6) := ⟨⟨by decide +kernel, by decide +kernel⟩, List.mem_of_getElem? (i := 120) (by decide +kernel), List.mem_of_getElem? (i := 852) (by decide +kernel), List.mem_of_getElem? (i := 853) (by decide +kernel)⟩
theorem lw_p25 : lw_okq (⟨"MarshLights$Reader", "readProduct", "(LMarshLights$Rules;I)Z"⟩, 6) := ⟨⟨by decide +kernel, by decide +kernel⟩, List.mem_of_getElem? (i := 120) (by decide +kernel), List.mem_of_getElem? (i := 856) (by decide +kernel), List.mem_of_getElem? (i := 857) (by decide +kernel)⟩
theorem lw_p26 : lw_okq (⟨"MarshLights$Reader", "readFactor", "(LMarshLights$Rules;I)Z"⟩, 6) := ⟨⟨by decide +kernel, by decide +kernel⟩, List.mem_of_getElem? (i := 120) (by decide +kernel), List.mem_of_getElem? (i := 860) (by decide +kernel), List.mem_of_getElem? (i := 861) (by decide +kernel)⟩
theorem lw_p27 : lw_okq (⟨"MarshLights$Reader", "take", "(I)Z"⟩, 6) := ⟨⟨by decide +kernel, by decide +kernel⟩, List.mem_of_getElem? (i := 120) (by decide +kernel), List.mem_of_getElem? (i := 868) (by decide +kernel), List.mem_of_getElem? (i := 869) (by decide +kernel)⟩
theorem lw_p28 : lw_okq (⟨"MarshLights$Reader", "readCondition", "(LMarshLights$Rules;)Z"⟩, 6) := ⟨⟨by decide +kernel, by decide +kernel⟩, List.mem_of_getElem? (i := 120) (by decide +kernel), List.mem_of_getElem? (i := 876) (by decide +kernel), List.mem_of_getElem? (i := 877) (by decide +kernel)⟩
theorem lw_p29 : lw_okq (⟨"MarshLights$Reader", "faultPlace", "()I"⟩, 6) := ⟨⟨by decide +kernel, by decide +kernel⟩, List.mem_of_getElem? (i := 120) (by decide +kernel), List.mem_of_getElem? (i := 884) (by decide +kernel), List.mem_of_getElem? (i := 885) (by decide +kernel)⟩
theorem lw_p30 : lw_okq (⟨"MarshLights", "setValues", "(IIII)V"⟩, 19) := ⟨⟨by decide +kernel, by decide +kernel⟩, List.mem_of_getElem? (i := 19) (by decide +kernel), List.mem_of_getElem? (i := 900) (by decide +kernel), List.mem_of_getElem? (i := 901) (by decide +kernel)⟩
theorem lw_p31 : lw_okq (⟨"MarshLights", "isHasty", "(LMarshLights$Telling;I)Z"⟩, 19) := ⟨⟨by decide +kernel, by decide +kernel⟩, List.mem_of_getElem? (i := 19) (by decide +kernel), List.mem_of_getElem? (i := 926) (by decide +kernel), List.mem_of_getElem? (i := 927) (by decide +kernel)⟩
def lw_privs_2 : List (MethodName × Nat) := [(⟨"MarshLights", "couplesParted", "(III)I"⟩, 19), (⟨"MarshLights$Reader", "split", "()V"⟩, 6), (⟨"MarshLights$Reader", "tokenEnd", "(I)I"⟩, 6), (⟨"MarshLights$Reader", "tokenOf", "(II)I"⟩, 6), (⟨"MarshLights$Reader", "wordOf", "(II)I"⟩, 6), (⟨"MarshLights$Reader", "numberOf", "(II)I"⟩, 6), (⟨"MarshLights$Reader", "token", "()I"⟩, 6), (⟨"MarshLights$Reader", "readLine", "(LMarshLights$Rules;)Z"⟩, 6), (⟨"MarshLights$Reader", "readSum", "(LMarshLights$Rules;I)Z"⟩, 6), (⟨"MarshLights$Reader", "readProduct", "(LMarshLights$Rules;I)Z"⟩, 6), (⟨"MarshLights$Reader", "readFactor", "(LMarshLights$Rules;I)Z"⟩, 6), (⟨"MarshLights$Reader", "take", "(I)Z"⟩, 6), (⟨"MarshLights$Reader", "readCondition", "(LMarshLights$Rules;)Z"⟩, 6), (⟨"MarshLights$Reader", "faultPlace", "()I"⟩, 6), (⟨"MarshLights", "setValues", "(IIII)V"⟩, 19), (⟨"MarshLights", "isHasty", "(LMarshLights$Telling;I)Z"⟩, 19)]
theorem lw_r2 : ∀ q ∈ lw_privs_2, lw_okq q := List.forall_mem_cons.mpr ⟨lw_p16, List.forall_mem_cons.mpr ⟨lw_p17, List.forall_mem_cons.mpr ⟨lw_p18, List.forall_mem_cons.mpr ⟨lw_p19, List.forall_mem_cons.mpr ⟨lw_p20, List.forall_mem_cons.mpr ⟨lw_p21, List.forall_mem_cons.mpr ⟨lw_p22, List.forall_mem_cons.mpr ⟨lw_p23, List.forall_mem_cons.mpr ⟨lw_p24, List.forall_mem_cons.mpr ⟨lw_p25, List.forall_mem_cons.mpr ⟨lw_p26, List.forall_mem_cons.mpr ⟨lw_p27, List.forall_mem_cons.mpr ⟨lw_p28, List.forall_mem_cons.mpr ⟨lw_p29, List.forall_mem_cons.mpr ⟨lw_p30, List.forall_mem_cons.mpr ⟨lw_p31, fun _ h => absurd h List.not_mem_nil⟩⟩⟩⟩⟩⟩⟩⟩⟩⟩⟩⟩⟩⟩⟩⟩
theorem lw_p32 : lw_okq (⟨"MarshLights", "growth", "(IIII)I"⟩, 19) := ⟨⟨by decide +kernel, by decide +kernel⟩, List.mem_of_getElem? (i := 19) (by decide +kernel), List.mem_of_getElem? (i := 934) (by decide +kernel), List.mem_of_getElem? (i := 935) (by decide +kernel)⟩
theorem lw_p33 : lw_okq (⟨"MarshLights", "drawTelling", "()Z"⟩, 19) := ⟨⟨by decide +kernel, by decide +kernel⟩, List.mem_of_getElem? (i := 19) (by decide +kernel), List.mem_of_getElem? (i := 948) (by decide +kernel), List.mem_of_getElem? (i := 949) (by decide +kernel)⟩
theorem lw_p34 : lw_okq (⟨"MarshLights", "lotBelow", "(I)I"⟩, 19) := ⟨⟨by decide +kernel, by decide +kernel⟩, List.mem_of_getElem? (i := 19) (by decide +kernel), List.mem_of_getElem? (i := 952) (by decide +kernel), List.mem_of_getElem? (i := 953) (by decide +kernel)⟩
theorem lw_p35 : lw_okq (⟨"MarshLights", "sightedOff", "(II)I"⟩, 19) := ⟨⟨by decide +kernel, by decide +kernel⟩, List.mem_of_getElem? (i := 19) (by decide +kernel), List.mem_of_getElem? (i := 958) (by decide +kernel), List.mem_of_getElem? (i := 959) (by decide +kernel)⟩
theorem lw_p36 : lw_okq (⟨"MarshLightsModel", "groundAt", "(II)I"⟩, 45) := ⟨⟨by decide +kernel, by decide +kernel⟩, List.mem_of_getElem? (i := 968) (by decide +kernel), List.mem_of_getElem? (i := 1147) (by decide +kernel), List.mem_of_getElem? (i := 1148) (by decide +kernel)⟩
theorem lw_p37 : lw_okq (⟨"MarshLightsModel", "hillAt", "(II)I"⟩, 45) := ⟨⟨by decide +kernel, by decide +kernel⟩, List.mem_of_getElem? (i := 968) (by decide +kernel), List.mem_of_getElem? (i := 1151) (by decide +kernel), List.mem_of_getElem? (i := 1152) (by decide +kernel)⟩
theorem lw_p38 : lw_okq (⟨"MarshLightsModel", "adds", "(IIII)I"⟩, 45) := ⟨⟨by decide +kernel, by decide +kernel⟩, List.mem_of_getElem? (i := 968) (by decide +kernel), List.mem_of_getElem? (i := 1167) (by decide +kernel), List.mem_of_getElem? (i := 1168) (by decide +kernel)⟩
theorem lw_p39 : lw_okq (⟨"MarshLightsModel", "isThing", "(I)Z"⟩, 45) := ⟨⟨by decide +kernel, by decide +kernel⟩, List.mem_of_getElem? (i := 968) (by decide +kernel), List.mem_of_getElem? (i := 1197) (by decide +kernel), List.mem_of_getElem? (i := 1198) (by decide +kernel)⟩
theorem lw_p40 : lw_okq (⟨"MarshLightsModel", "isAt", "(II)Z"⟩, 45) := ⟨⟨by decide +kernel, by decide +kernel⟩, List.mem_of_getElem? (i := 968) (by decide +kernel), List.mem_of_getElem? (i := 1203) (by decide +kernel), List.mem_of_getElem? (i := 1204) (by decide +kernel)⟩
theorem lw_p41 : lw_okq (⟨"MarshLightsModel", "isSeer", "(I)Z"⟩, 45) := ⟨⟨by decide +kernel, by decide +kernel⟩, List.mem_of_getElem? (i := 968) (by decide +kernel), List.mem_of_getElem? (i := 1212) (by decide +kernel), List.mem_of_getElem? (i := 1213) (by decide +kernel)⟩
theorem lw_p42 : lw_okq (⟨"MarshLightsModel", "isShown", "(III)Z"⟩, 45) := ⟨⟨by decide +kernel, by decide +kernel⟩, List.mem_of_getElem? (i := 968) (by decide +kernel), List.mem_of_getElem? (i := 1216) (by decide +kernel), List.mem_of_getElem? (i := 1217) (by decide +kernel)⟩
theorem lw_p43 : lw_okq (⟨"MarshLightsModel", "isLit", "(II)Z"⟩, 45) := ⟨⟨by decide +kernel, by decide +kernel⟩, List.mem_of_getElem? (i := 968) (by decide +kernel), List.mem_of_getElem? (i := 1220) (by decide +kernel), List.mem_of_getElem? (i := 1221) (by decide +kernel)⟩
theorem lw_p44 : lw_okq (⟨"MarshLightsModel", "hider", "(IIII)I"⟩, 45) := ⟨⟨by decide +kernel, by decide +kernel⟩, List.mem_of_getElem? (i := 968) (by decide +kernel), List.mem_of_getElem? (i := 1224) (by decide +kernel), List.mem_of_getElem? (i := 1225) (by decide +kernel)⟩
theorem lw_p45 : lw_okq (⟨"MarshLightsModel", "eye", "(I)I"⟩, 45) := ⟨⟨by decide +kernel, by decide +kernel⟩, List.mem_of_getElem? (i := 968) (by decide +kernel), List.mem_of_getElem? (i := 1228) (by decide +kernel), List.mem_of_getElem? (i := 1229) (by decide +kernel)⟩
theorem lw_p46 : lw_okq (⟨"MarshLightsModel", "way", "(III)I"⟩, 45) := ⟨⟨by decide +kernel, by decide +kernel⟩, List.mem_of_getElem? (i := 968) (by decide +kernel), List.mem_of_getElem? (i := 1232) (by decide +kernel), List.mem_of_getElem? (i := 1233) (by decide +kernel)⟩
theorem lw_p47 : lw_okq (⟨"MarshLightsModel", "slope", "(III)I"⟩, 45) := ⟨⟨by decide +kernel, by decide +kernel⟩, List.mem_of_getElem? (i := 968) (by decide +kernel), List.mem_of_getElem? (i := 1241) (by decide +kernel), List.mem_of_getElem? (i := 1242) (by decide +kernel)⟩
def lw_privs_3 : List (MethodName × Nat) := [(⟨"MarshLights", "growth", "(IIII)I"⟩, 19), (⟨"MarshLights", "drawTelling", "()Z"⟩, 19), (⟨"MarshLights", "lotBelow", "(I)I"⟩, 19), (⟨"MarshLights", "sightedOff", "(II)I"⟩, 19), (⟨"MarshLightsModel", "groundAt", "(II)I"⟩, 45), (⟨"MarshLightsModel", "hillAt", "(II)I"⟩, 45), (⟨"MarshLightsModel", "adds", "(IIII)I"⟩, 45), (⟨"MarshLightsModel", "isThing", "(I)Z"⟩, 45), (⟨"MarshLightsModel", "isAt", "(II)Z"⟩, 45), (⟨"MarshLightsModel", "isSeer", "(I)Z"⟩, 45), (⟨"MarshLightsModel", "isShown", "(III)Z"⟩, 45), (⟨"MarshLightsModel", "isLit", "(II)Z"⟩, 45), (⟨"MarshLightsModel", "hider", "(IIII)I"⟩, 45), (⟨"MarshLightsModel", "eye", "(I)I"⟩, 45), (⟨"MarshLightsModel", "way", "(III)I"⟩, 45), (⟨"MarshLightsModel", "slope", "(III)I"⟩, 45)]
theorem lw_r3 : ∀ q ∈ lw_privs_3, lw_okq q := List.forall_mem_cons.mpr ⟨lw_p32, List.forall_mem_cons.mpr ⟨lw_p33, List.forall_mem_cons.mpr ⟨lw_p34, List.forall_mem_cons.mpr ⟨lw_p35, List.forall_mem_cons.mpr ⟨lw_p36, List.forall_mem_cons.mpr ⟨lw_p37, List.forall_mem_cons.mpr ⟨lw_p38, List.forall_mem_cons.mpr ⟨lw_p39, List.forall_mem_cons.mpr ⟨lw_p40, List.forall_mem_cons.mpr ⟨lw_p41, List.forall_mem_cons.mpr ⟨lw_p42, List.forall_mem_cons.mpr ⟨lw_p43, List.forall_mem_cons.mpr ⟨lw_p44, List.forall_mem_cons.mpr ⟨lw_p45, List.forall_mem_cons.mpr ⟨lw_p46, List.forall_mem_cons.mpr ⟨lw_p47, fun _ h => absurd h List.not_mem_nil⟩⟩⟩⟩⟩⟩⟩⟩⟩⟩⟩⟩⟩⟩⟩⟩
theorem lw_p48 : lw_okq (⟨"MarshLightsModel", "isTelling", "(I)Z"⟩, 45) := ⟨⟨by decide +kernel, by decide +kernel⟩, List.mem_of_getElem? (i := 968) (by decide +kernel), List.mem_of_getElem? (i := 1271) (by decide +kernel), List.mem_of_getElem? (i := 1272) (by decide +kernel)⟩
theorem lw_p49 : lw_okq (⟨"MarshLightsModel", "fitting", "(I)I"⟩, 45) := ⟨⟨by decide +kernel, by decide +kernel⟩, List.mem_of_getElem? (i := 968) (by decide +kernel), List.mem_of_getElem? (i := 1280) (by decide +kernel), List.mem_of_getElem? (i := 1281) (by decide +kernel)⟩
theorem lw_p50 : lw_okq (⟨"MarshLightsModel", "isNear", "(I[II)Z"⟩, 45) := ⟨⟨by decide +kernel, by decide +kernel⟩, List.mem_of_getElem? (i := 968) (by decide +kernel), List.mem_of_getElem? (i := 1284) (by decide +kernel), List.mem_of_getElem? (i := 1285) (by decide +kernel)⟩
theorem lw_p51 : lw_okq (⟨"MarshLightsModel", "isCrossed", "([III)Z"⟩, 45) := ⟨⟨by decide +kernel, by decide +kernel⟩, List.mem_of_getElem? (i := 968) (by decide +kernel), List.mem_of_getElem? (i := 1309) (by decide +kernel), List.mem_of_getElem? (i := 1310) (by decide +kernel)⟩
theorem lw_p52 : lw_okq (⟨"MarshLightsModel", "hasHeight", "([I[III)Z"⟩, 45) := ⟨⟨by decide +kernel, by decide +kernel⟩, List.mem_of_getElem? (i := 968) (by decide +kernel), List.mem_of_getElem? (i := 1313) (by decide +kernel), List.mem_of_getElem? (i := 1314) (by decide +kernel)⟩
theorem lw_p53 : lw_okq (⟨"MarshLightsModel", "isSlope", "(IIIII)Z"⟩, 45) := ⟨⟨by decide +kernel, by decide +kernel⟩, List.mem_of_getElem? (i := 968) (by decide +kernel), List.mem_of_getElem? (i := 1317) (by decide +kernel), List.mem_of_getElem? (i := 1318) (by decide +kernel)⟩
theorem lw_p54 : lw_okq (⟨"MarshLightsModel", "isUp", "(IIII)Z"⟩, 45) := ⟨⟨by decide +kernel, by decide +kernel⟩, List.mem_of_getElem? (i := 968) (by decide +kernel), List.mem_of_getElem? (i := 1329) (by decide +kernel), List.mem_of_getElem? (i := 1330) (by decide +kernel)⟩
theorem lw_p55 : lw_okq (⟨"MarshLightsModel", "partedAt", "(III)I"⟩, 45) := ⟨⟨by decide +kernel, by decide +kernel⟩, List.mem_of_getElem? (i := 968) (by decide +kernel), List.mem_of_getElem? (i := 1347) (by decide +kernel), List.mem_of_getElem? (i := 1348) (by decide +kernel)⟩
theorem lw_p56 : lw_okq (⟨"MarshLightsModel", "feeds", "(I)V"⟩, 45) := ⟨⟨by decide +kernel, by decide +kernel⟩, List.mem_of_getElem? (i := 968) (by decide +kernel), List.mem_of_getElem? (i := 1355) (by decide +kernel), List.mem_of_getElem? (i := 1356) (by decide +kernel)⟩
theorem lw_p57 : lw_okq (⟨"MarshLightsModel", "reads", "()V"⟩, 45) := ⟨⟨by decide +kernel, by decide +kernel⟩, List.mem_of_getElem? (i := 968) (by decide +kernel), List.mem_of_getElem? (i := 1367) (by decide +kernel), List.mem_of_getElem? (i := 1368) (by decide +kernel)⟩
theorem lw_p58 : lw_okq (⟨"MarshLightsModel", "next", "()V"⟩, 45) := ⟨⟨by decide +kernel, by decide +kernel⟩, List.mem_of_getElem? (i := 968) (by decide +kernel), List.mem_of_getElem? (i := 1371) (by decide +kernel), List.mem_of_getElem? (i := 1372) (by decide +kernel)⟩
theorem lw_p59 : lw_okq (⟨"MarshLightsModel", "between", "(III)Z"⟩, 45) := ⟨⟨by decide +kernel, by decide +kernel⟩, List.mem_of_getElem? (i := 968) (by decide +kernel), List.mem_of_getElem? (i := 1375) (by decide +kernel), List.mem_of_getElem? (i := 1376) (by decide +kernel)⟩
theorem lw_p60 : lw_okq (⟨"MarshLightsModel", "line", "()Z"⟩, 45) := ⟨⟨by decide +kernel, by decide +kernel⟩, List.mem_of_getElem? (i := 968) (by decide +kernel), List.mem_of_getElem? (i := 1379) (by decide +kernel), List.mem_of_getElem? (i := 1380) (by decide +kernel)⟩
theorem lw_p61 : lw_okq (⟨"MarshLightsModel", "isWord", "(Ljava/lang/String;)Z"⟩, 45) := ⟨⟨by decide +kernel, by decide +kernel⟩, List.mem_of_getElem? (i := 968) (by decide +kernel), List.mem_of_getElem? (i := 1384) (by decide +kernel), List.mem_of_getElem? (i := 1385) (by decide +kernel)⟩
theorem lw_p62 : lw_okq (⟨"MarshLightsModel", "passes", "(Z)Z"⟩, 45) := ⟨⟨by decide +kernel, by decide +kernel⟩, List.mem_of_getElem? (i := 968) (by decide +kernel), List.mem_of_getElem? (i := 1390) (by decide +kernel), List.mem_of_getElem? (i := 1391) (by decide +kernel)⟩
theorem lw_p63 : lw_okq (⟨"MarshLightsModel", "begins", "(I)V"⟩, 45) := ⟨⟨by decide +kernel, by decide +kernel⟩, List.mem_of_getElem? (i := 968) (by decide +kernel), List.mem_of_getElem? (i := 1394) (by decide +kernel), List.mem_of_getElem? (i := 1395) (by decide +kernel)⟩
def lw_privs_4 : List (MethodName × Nat) := [(⟨"MarshLightsModel", "isTelling", "(I)Z"⟩, 45), (⟨"MarshLightsModel", "fitting", "(I)I"⟩, 45), (⟨"MarshLightsModel", "isNear", "(I[II)Z"⟩, 45), (⟨"MarshLightsModel", "isCrossed", "([III)Z"⟩, 45), (⟨"MarshLightsModel", "hasHeight", "([I[III)Z"⟩, 45), (⟨"MarshLightsModel", "isSlope", "(IIIII)Z"⟩, 45), (⟨"MarshLightsModel", "isUp", "(IIII)Z"⟩, 45), (⟨"MarshLightsModel", "partedAt", "(III)I"⟩, 45), (⟨"MarshLightsModel", "feeds", "(I)V"⟩, 45), (⟨"MarshLightsModel", "reads", "()V"⟩, 45), (⟨"MarshLightsModel", "next", "()V"⟩, 45), (⟨"MarshLightsModel", "between", "(III)Z"⟩, 45), (⟨"MarshLightsModel", "line", "()Z"⟩, 45), (⟨"MarshLightsModel", "isWord", "(Ljava/lang/String;)Z"⟩, 45), (⟨"MarshLightsModel", "passes", "(Z)Z"⟩, 45), (⟨"MarshLightsModel", "begins", "(I)V"⟩, 45)]
theorem lw_r4 : ∀ q ∈ lw_privs_4, lw_okq q := List.forall_mem_cons.mpr ⟨lw_p48, List.forall_mem_cons.mpr ⟨lw_p49, List.forall_mem_cons.mpr ⟨lw_p50, List.forall_mem_cons.mpr ⟨lw_p51, List.forall_mem_cons.mpr ⟨lw_p52, List.forall_mem_cons.mpr ⟨lw_p53, List.forall_mem_cons.mpr ⟨lw_p54, List.forall_mem_cons.mpr ⟨lw_p55, List.forall_mem_cons.mpr ⟨lw_p56, List.forall_mem_cons.mpr ⟨lw_p57, List.forall_mem_cons.mpr ⟨lw_p58, List.forall_mem_cons.mpr ⟨lw_p59, List.forall_mem_cons.mpr ⟨lw_p60, List.forall_mem_cons.mpr ⟨lw_p61, List.forall_mem_cons.mpr ⟨lw_p62, List.forall_mem_cons.mpr ⟨lw_p63, fun _ h => absurd h List.not_mem_nil⟩⟩⟩⟩⟩⟩⟩⟩⟩⟩⟩⟩⟩⟩⟩⟩
theorem lw_p64 : lw_okq (⟨"MarshLightsModel", "sum", "(I)Z"⟩, 45) := ⟨⟨by decide +kernel, by decide +kernel⟩, List.mem_of_getElem? (i := 968) (by decide +kernel), List.mem_of_getElem? (i := 1398) (by decide +kernel), List.mem_of_getElem? (i := 1399) (by decide +kernel)⟩
theorem lw_p65 : lw_okq (⟨"MarshLightsModel", "product", "(I)Z"⟩, 45) := ⟨⟨by decide +kernel, by decide +kernel⟩, List.mem_of_getElem? (i := 968) (by decide +kernel), List.mem_of_getElem? (i := 1402) (by decide +kernel), List.mem_of_getElem? (i := 1403) (by decide +kernel)⟩
theorem lw_p66 : lw_okq (⟨"MarshLightsModel", "factor", "(I)Z"⟩, 45) := ⟨⟨by decide +kernel, by decide +kernel⟩, List.mem_of_getElem? (i := 968) (by decide +kernel), List.mem_of_getElem? (i := 1406) (by decide +kernel), List.mem_of_getElem? (i := 1407) (by decide +kernel)⟩
theorem lw_p67 : lw_okq (⟨"MarshLightsModel", "isSign", "(I)Z"⟩, 45) := ⟨⟨by decide +kernel, by decide +kernel⟩, List.mem_of_getElem? (i := 968) (by decide +kernel), List.mem_of_getElem? (i := 1410) (by decide +kernel), List.mem_of_getElem? (i := 1411) (by decide +kernel)⟩
theorem lw_p68 : lw_okq (⟨"MarshLightsModel", "mark", "(I)V"⟩, 45) := ⟨⟨by decide +kernel, by decide +kernel⟩, List.mem_of_getElem? (i := 968) (by decide +kernel), List.mem_of_getElem? (i := 1414) (by decide +kernel), List.mem_of_getElem? (i := 1415) (by decide +kernel)⟩
theorem lw_p69 : lw_okq (⟨"MarshLightsModel", "ends", "(I)Z"⟩, 45) := ⟨⟨by decide +kernel, by decide +kernel⟩, List.mem_of_getElem? (i := 968) (by decide +kernel), List.mem_of_getElem? (i := 1418) (by decide +kernel), List.mem_of_getElem? (i := 1419) (by decide +kernel)⟩
theorem lw_p70 : lw_okq (⟨"MarshLightsModel", "holdsRead", "()Z"⟩, 45) := ⟨⟨by decide +kernel, by decide +kernel⟩, List.mem_of_getElem? (i := 968) (by decide +kernel), List.mem_of_getElem? (i := 1424) (by decide +kernel), List.mem_of_getElem? (i := 1425) (by decide +kernel)⟩
theorem lw_p71 : lw_okq (⟨"MarshLightsModel", "compares", "()Z"⟩, 45) := ⟨⟨by decide +kernel, by decide +kernel⟩, List.mem_of_getElem? (i := 968) (by decide +kernel), List.mem_of_getElem? (i := 1428) (by decide +kernel), List.mem_of_getElem? (i := 1429) (by decide +kernel)⟩
theorem lw_p72 : lw_okq (⟨"MarshLightsModel", "lays", "(IIII)V"⟩, 45) := ⟨⟨by decide +kernel, by decide +kernel⟩, List.mem_of_getElem? (i := 968) (by decide +kernel), List.mem_of_getElem? (i := 1445) (by decide +kernel), List.mem_of_getElem? (i := 1446) (by decide +kernel)⟩
theorem lw_p73 : lw_okq (⟨"MarshLightsModel", "worked", "(I)I"⟩, 45) := ⟨⟨by decide +kernel, by decide +kernel⟩, List.mem_of_getElem? (i := 968) (by decide +kernel), List.mem_of_getElem? (i := 1449) (by decide +kernel), List.mem_of_getElem? (i := 1450) (by decide +kernel)⟩
theorem lw_p74 : lw_okq (⟨"MarshLightsModel", "grownTo", "(IIII)I"⟩, 45) := ⟨⟨by decide +kernel, by decide +kernel⟩, List.mem_of_getElem? (i := 968) (by decide +kernel), List.mem_of_getElem? (i := 1464) (by decide +kernel), List.mem_of_getElem? (i := 1465) (by decide +kernel)⟩
theorem lw_p75 : lw_okq (⟨"MarshLightsModel", "lot", "(I)I"⟩, 45) := ⟨⟨by decide +kernel, by decide +kernel⟩, List.mem_of_getElem? (i := 968) (by decide +kernel), List.mem_of_getElem? (i := 1476) (by decide +kernel), List.mem_of_getElem? (i := 1477) (by decide +kernel)⟩
def lw_privs_5 : List (MethodName × Nat) := [(⟨"MarshLightsModel", "sum", "(I)Z"⟩, 45), (⟨"MarshLightsModel", "product", "(I)Z"⟩, 45), (⟨"MarshLightsModel", "factor", "(I)Z"⟩, 45), (⟨"MarshLightsModel", "isSign", "(I)Z"⟩, 45), (⟨"MarshLightsModel", "mark", "(I)V"⟩, 45), (⟨"MarshLightsModel", "ends", "(I)Z"⟩, 45), (⟨"MarshLightsModel", "holdsRead", "()Z"⟩, 45), (⟨"MarshLightsModel", "compares", "()Z"⟩, 45), (⟨"MarshLightsModel", "lays", "(IIII)V"⟩, 45), (⟨"MarshLightsModel", "worked", "(I)I"⟩, 45), (⟨"MarshLightsModel", "grownTo", "(IIII)I"⟩, 45), (⟨"MarshLightsModel", "lot", "(I)I"⟩, 45)]
theorem lw_r5 : ∀ q ∈ lw_privs_5, lw_okq q := List.forall_mem_cons.mpr ⟨lw_p64, List.forall_mem_cons.mpr ⟨lw_p65, List.forall_mem_cons.mpr ⟨lw_p66, List.forall_mem_cons.mpr ⟨lw_p67, List.forall_mem_cons.mpr ⟨lw_p68, List.forall_mem_cons.mpr ⟨lw_p69, List.forall_mem_cons.mpr ⟨lw_p70, List.forall_mem_cons.mpr ⟨lw_p71, List.forall_mem_cons.mpr ⟨lw_p72, List.forall_mem_cons.mpr ⟨lw_p73, List.forall_mem_cons.mpr ⟨lw_p74, List.forall_mem_cons.mpr ⟨lw_p75, fun _ h => absurd h List.not_mem_nil⟩⟩⟩⟩⟩⟩⟩⟩⟩⟩⟩⟩
def lw_privs : List (MethodName × Nat) := lw_privs_1 ++ (lw_privs_2 ++ (lw_privs_3 ++ (lw_privs_4 ++ (lw_privs_5))))
def lw_tbl : List Cond := k2_sels lw_privs ++ tables_1
theorem lw_privs_ok : ∀ q ∈ lw_privs, lw_okq q := by
  show ∀ q ∈ lw_privs_1 ++ (lw_privs_2 ++ (lw_privs_3 ++ (lw_privs_4 ++ (lw_privs_5)))), lw_okq q
  exact List.forall_mem_append.mpr ⟨lw_r1, List.forall_mem_append.mpr ⟨lw_r2, List.forall_mem_append.mpr ⟨lw_r3, List.forall_mem_append.mpr ⟨lw_r4, lw_r5⟩⟩⟩⟩
-- ===== end of PART A; then your names; then what follows =====

def RX0 : String := "MarshLights$Crossing"
def TX0 : u_T := fun k => match k with
  | 0 => ("MarshLights$Crossing", "places", "I", false)
  | 1 => ("MarshLights$Crossing", "heights", "I", false)
  | 2 => ("MarshLights$Crossing", "leastX", "I", false)
  | 3 => ("MarshLights$Crossing", "greatestX", "I", false)
  | 4 => ("MarshLights$Crossing", "leastY", "I", false)
  | _ => ("MarshLights$Crossing", "greatestY", "I", false)
def tyX0 : Nat → FieldType := fun k => match k with
  | 0 => .int
  | 1 => .int
  | 2 => .int
  | 3 => .int
  | 4 => .int
  | _ => .int
abbrev wsX00 : List Cond := u_ws RX0 TX0 6
theorem nmX0 : ∀ a, a < 6 → ∀ b, b < 6 → a ≠ b → (TX0 a).2.1 ≠ (TX0 b).2.1 := by decide +kernel
theorem tyX0_ok : ∀ k, k < 6 → parseFieldDescriptor (TX0 k).2.2.1 = some (tyX0 k) := by decide +kernel
abbrev cX0_init : ByteArray := prog_2_method_1_code
def yX0_init : MethodName := ⟨RX0, "<init>", "()V"⟩
abbrev cX0_clear : ByteArray := prog_2_method_2_code
def yX0_clear : MethodName := ⟨RX0, "clear", "()V"⟩
abbrev cX0_add : ByteArray := prog_2_method_3_code
def yX0_add : MethodName := ⟨RX0, "add", "(IZ)V"⟩
abbrev cX0_part : ByteArray := prog_2_method_4_code
def yX0_part : MethodName := ⟨RX0, "part", "(I)I"⟩
def RX1 : String := "MarshLights$Land"
def TX1 : u_T := fun k => match k with
  | 0 => ("MarshLights$Land", "grounds", "[I", true)
  | 1 => ("MarshLights$Land", "makers", "[I", true)
  | 2 => ("MarshLights$Land", "highest", "I", false)
  | _ => ("MarshLights$Land", "hills", "I", false)
def tyX1 : Nat → FieldType := fun k => match k with
  | 0 => .array .int
  | 1 => .array .int
  | 2 => .int
  | _ => .int
abbrev wsX10 : List Cond := u_ws RX1 TX1 4
theorem nmX1 : ∀ a, a < 4 → ∀ b, b < 4 → a ≠ b → (TX1 a).2.1 ≠ (TX1 b).2.1 := by decide +kernel
theorem tyX1_ok : ∀ k, k < 4 → parseFieldDescriptor (TX1 k).2.2.1 = some (tyX1 k) := by decide +kernel
abbrev cX1_init : ByteArray := prog_3_method_1_code
def yX1_init : MethodName := ⟨RX1, "<init>", "()V"⟩
abbrev cX1_raise : ByteArray := prog_3_method_2_code
def yX1_raise : MethodName := ⟨RX1, "raise", "(III)I"⟩
abbrev cX1_groundAt : ByteArray := prog_3_method_3_code
def yX1_groundAt : MethodName := ⟨RX1, "groundAt", "(II)I"⟩
abbrev cX1_makerAt : ByteArray := prog_3_method_4_code
def yX1_makerAt : MethodName := ⟨RX1, "makerAt", "(II)I"⟩
def RX2 : String := "MarshLights$Reader"
def TX2 : u_T := fun k => match k with
  | 0 => ("MarshLights$Reader", "text", "[I", true)
  | 1 => ("MarshLights$Reader", "length", "I", false)
  | 2 => ("MarshLights$Reader", "tokens", "[I", true)
  | 3 => ("MarshLights$Reader", "starts", "[I", true)
  | 4 => ("MarshLights$Reader", "tokenCount", "I", false)
  | _ => ("MarshLights$Reader", "next", "I", false)
def tyX2 : Nat → FieldType := fun k => match k with
  | 0 => .array .int
  | 1 => .int
  | 2 => .array .int
  | 3 => .array .int
  | 4 => .int
  | _ => .int
abbrev wsX20 : List Cond := u_ws RX2 TX2 6
theorem nmX2 : ∀ a, a < 6 → ∀ b, b < 6 → a ≠ b → (TX2 a).2.1 ≠ (TX2 b).2.1 := by decide +kernel
theorem tyX2_ok : ∀ k, k < 6 → parseFieldDescriptor (TX2 k).2.2.1 = some (tyX2 k) := by decide +kernel
abbrev cX2_init : ByteArray := prog_4_method_1_code
def yX2_init : MethodName := ⟨RX2, "<init>", "()V"⟩
abbrev cX2_append : ByteArray := prog_4_method_2_code
def yX2_append : MethodName := ⟨RX2, "append", "(I)V"⟩
abbrev cX2_judge : ByteArray := prog_4_method_3_code
def yX2_judge : MethodName := ⟨RX2, "judge", "(LMarshLights$Rules;)I"⟩
abbrev cX2_faultPlace : ByteArray := prog_4_method_4_code
def yX2_faultPlace : MethodName := ⟨RX2, "faultPlace", "()I"⟩
abbrev cX2_split : ByteArray := prog_4_method_5_code
def yX2_split : MethodName := ⟨RX2, "split", "()V"⟩
abbrev cX2_tokenEnd : ByteArray := prog_4_method_6_code
def yX2_tokenEnd : MethodName := ⟨RX2, "tokenEnd", "(I)I"⟩
abbrev cX2_isLetter : ByteArray := prog_4_method_7_code
def yX2_isLetter : MethodName := ⟨RX2, "isLetter", "(I)Z"⟩
abbrev cX2_isDigit : ByteArray := prog_4_method_8_code
def yX2_isDigit : MethodName := ⟨RX2, "isDigit", "(I)Z"⟩
abbrev cX2_tokenOf : ByteArray := prog_4_method_9_code
def yX2_tokenOf : MethodName := ⟨RX2, "tokenOf", "(II)I"⟩
abbrev cX2_numberOf : ByteArray := prog_4_method_10_code
def yX2_numberOf : MethodName := ⟨RX2, "numberOf", "(II)I"⟩
abbrev cX2_wordOf : ByteArray := prog_4_method_11_code
def yX2_wordOf : MethodName := ⟨RX2, "wordOf", "(II)I"⟩
abbrev cX2_token : ByteArray := prog_4_method_12_code
def yX2_token : MethodName := ⟨RX2, "token", "()I"⟩
abbrev cX2_take : ByteArray := prog_4_method_13_code
def yX2_take : MethodName := ⟨RX2, "take", "(I)Z"⟩
abbrev cX2_readLine : ByteArray := prog_4_method_14_code
def yX2_readLine : MethodName := ⟨RX2, "readLine", "(LMarshLights$Rules;)Z"⟩
abbrev cX2_readCondition : ByteArray := prog_4_method_15_code
def yX2_readCondition : MethodName := ⟨RX2, "readCondition", "(LMarshLights$Rules;)Z"⟩
abbrev cX2_readSum : ByteArray := prog_4_method_16_code
def yX2_readSum : MethodName := ⟨RX2, "readSum", "(LMarshLights$Rules;I)Z"⟩
abbrev cX2_readProduct : ByteArray := prog_4_method_17_code
def yX2_readProduct : MethodName := ⟨RX2, "readProduct", "(LMarshLights$Rules;I)Z"⟩
abbrev cX2_readFactor : ByteArray := prog_4_method_18_code
def yX2_readFactor : MethodName := ⟨RX2, "readFactor", "(LMarshLights$Rules;I)Z"⟩
def RX3 : String := "MarshLights$Rules"
def TX3 : u_T := fun k => match k with
  | 0 => ("MarshLights$Rules", "codes", "[I", true)
  | 1 => ("MarshLights$Rules", "codeCount", "I", false)
  | 2 => ("MarshLights$Rules", "hasGrow", "Z", false)
  | 3 => ("MarshLights$Rules", "growFrom", "I", false)
  | 4 => ("MarshLights$Rules", "growTo", "I", false)
  | 5 => ("MarshLights$Rules", "clauses", "I", false)
  | 6 => ("MarshLights$Rules", "clauseKinds", "[I", true)
  | 7 => ("MarshLights$Rules", "clauseFroms", "[I", true)
  | 8 => ("MarshLights$Rules", "clauseTos", "[I", true)
  | _ => ("MarshLights$Rules", "stack", "[I", true)
def tyX3 : Nat → FieldType := fun k => match k with
  | 0 => .array .int
  | 1 => .int
  | 2 => .boolean
  | 3 => .int
  | 4 => .int
  | 5 => .int
  | 6 => .array .int
  | 7 => .array .int
  | 8 => .array .int
  | _ => .array .int
abbrev wsX30 : List Cond := u_ws RX3 TX3 10
theorem nmX3 : ∀ a, a < 10 → ∀ b, b < 10 → a ≠ b → (TX3 a).2.1 ≠ (TX3 b).2.1 := by decide +kernel
theorem tyX3_ok : ∀ k, k < 10 → parseFieldDescriptor (TX3 k).2.2.1 = some (tyX3 k) := by decide +kernel
abbrev cX3_init : ByteArray := prog_5_method_1_code
def yX3_init : MethodName := ⟨RX3, "<init>", "()V"⟩
abbrev cX3_clear : ByteArray := prog_5_method_2_code
def yX3_clear : MethodName := ⟨RX3, "clear", "()V"⟩
abbrev cX3_emit : ByteArray := prog_5_method_3_code
def yX3_emit : MethodName := ⟨RX3, "emit", "(I)V"⟩
abbrev cX3_setGrow : ByteArray := prog_5_method_4_code
def yX3_setGrow : MethodName := ⟨RX3, "setGrow", "(I)V"⟩
abbrev cX3_addClause : ByteArray := prog_5_method_5_code
def yX3_addClause : MethodName := ⟨RX3, "addClause", "(II)V"⟩
abbrev cX3_firstHolding : ByteArray := prog_5_method_6_code
def yX3_firstHolding : MethodName := ⟨RX3, "firstHolding", "([I)I"⟩
abbrev cX3_valueOf : ByteArray := prog_5_method_7_code
def yX3_valueOf : MethodName := ⟨RX3, "valueOf", "(II[I)I"⟩
abbrev cX3_joinedBy : ByteArray := prog_5_method_8_code
def yX3_joinedBy : MethodName := ⟨RX3, "joinedBy", "(III)I"⟩
abbrev cX3_bounded : ByteArray := prog_5_method_9_code
def yX3_bounded : MethodName := ⟨RX3, "bounded", "(J)I"⟩
def RX4 : String := "MarshLights$Sight"
def TX4 : u_T := fun k => match k with
  | 0 => ("MarshLights$Sight", "land", "LMarshLights$Land;", true)
  | 1 => ("MarshLights$Sight", "way", "I", false)
  | 2 => ("MarshLights$Sight", "slope", "I", false)
  | 3 => ("MarshLights$Sight", "atStar", "Z", false)
  | 4 => ("MarshLights$Sight", "fromX", "I", false)
  | 5 => ("MarshLights$Sight", "fromY", "I", false)
  | 6 => ("MarshLights$Sight", "eye", "I", false)
  | 7 => ("MarshLights$Sight", "dx", "I", false)
  | 8 => ("MarshLights$Sight", "dy", "I", false)
  | _ => ("MarshLights$Sight", "rise", "I", false)
def tyX4 : Nat → FieldType := fun k => match k with
  | 0 => .object "MarshLights$Land"
  | 1 => .int
  | 2 => .int
  | 3 => .boolean
  | 4 => .int
  | 5 => .int
  | 6 => .int
  | 7 => .int
  | 8 => .int
  | _ => .int
abbrev wsX40 : List Cond := u_ws RX4 TX4 10
theorem nmX4 : ∀ a, a < 10 → ∀ b, b < 10 → a ≠ b → (TX4 a).2.1 ≠ (TX4 b).2.1 := by decide +kernel
theorem tyX4_ok : ∀ k, k < 10 → parseFieldDescriptor (TX4 k).2.2.1 = some (tyX4 k) := by decide +kernel
abbrev cX4_init : ByteArray := prog_6_method_1_code
def yX4_init : MethodName := ⟨RX4, "<init>", "(LMarshLights$Land;)V"⟩
abbrev cX4_look : ByteArray := prog_6_method_2_code
def yX4_look : MethodName := ⟨RX4, "look", "(LMarshLights$Thing;II)Z"⟩
abbrev cX4_hidingHill : ByteArray := prog_6_method_3_code
def yX4_hidingHill : MethodName := ⟨RX4, "hidingHill", "()I"⟩
abbrev cX4_shows : ByteArray := prog_6_method_4_code
def yX4_shows : MethodName := ⟨RX4, "shows", "(LMarshLights$Thing;II)Z"⟩
def RX5 : String := "MarshLights$Telling"
def TX5 : u_T := fun k => match k with
  | 0 => ("MarshLights$Telling", "seer", "I", false)
  | 1 => ("MarshLights$Telling", "first", "I", false)
  | 2 => ("MarshLights$Telling", "last", "I", false)
  | 3 => ("MarshLights$Telling", "firstWay", "I", false)
  | 4 => ("MarshLights$Telling", "firstSlope", "I", false)
  | 5 => ("MarshLights$Telling", "lastWay", "I", false)
  | 6 => ("MarshLights$Telling", "lastSlope", "I", false)
  | 7 => ("MarshLights$Telling", "lights", "I", false)
  | 8 => ("MarshLights$Telling", "hull", "I", false)
  | 9 => ("MarshLights$Telling", "fitting", "I", false)
  | 10 => ("MarshLights$Telling", "fittingOf", "I", false)
  | 11 => ("MarshLights$Telling", "askCouples", "I", false)
  | 12 => ("MarshLights$Telling", "askMinute", "I", false)
  | _ => ("MarshLights$Telling", "askedOf", "I", false)
def tyX5 : Nat → FieldType := fun k => match k with
  | 0 => .int
  | 1 => .int
  | 2 => .int
  | 3 => .int
  | 4 => .int
  | 5 => .int
  | 6 => .int
  | 7 => .int
  | 8 => .int
  | 9 => .int
  | 10 => .int
  | 11 => .int
  | 12 => .int
  | _ => .int
abbrev wsX50 : List Cond := u_ws RX5 TX5 14
theorem nmX5 : ∀ a, a < 14 → ∀ b, b < 14 → a ≠ b → (TX5 a).2.1 ≠ (TX5 b).2.1 := by decide +kernel
theorem tyX5_ok : ∀ k, k < 14 → parseFieldDescriptor (TX5 k).2.2.1 = some (tyX5 k) := by decide +kernel
abbrev cX5_init : ByteArray := prog_7_method_1_code
def yX5_init : MethodName := ⟨RX5, "<init>", "()V"⟩
abbrev cX5_part : ByteArray := prog_7_method_2_code
def yX5_part : MethodName := ⟨RX5, "part", "(I)I"⟩
def RX6 : String := "MarshLights$Thing"
def TX6 : u_T := fun k => match k with
  | 0 => ("MarshLights$Thing", "kind", "I", false)
  | 1 => ("MarshLights$Thing", "first", "I", false)
  | 2 => ("MarshLights$Thing", "last", "I", false)
  | 3 => ("MarshLights$Thing", "x", "I", false)
  | 4 => ("MarshLights$Thing", "y", "I", false)
  | 5 => ("MarshLights$Thing", "z", "I", false)
  | 6 => ("MarshLights$Thing", "dx", "I", false)
  | 7 => ("MarshLights$Thing", "dy", "I", false)
  | 8 => ("MarshLights$Thing", "divisor", "I", false)
  | 9 => ("MarshLights$Thing", "fall", "I", false)
  | 10 => ("MarshLights$Thing", "period", "I", false)
  | 11 => ("MarshLights$Thing", "rest", "I", false)
  | 12 => ("MarshLights$Thing", "way", "I", false)
  | 13 => ("MarshLights$Thing", "slope", "I", false)
  | _ => ("MarshLights$Thing", "turn", "I", false)
def tyX6 : Nat → FieldType := fun k => match k with
  | 0 => .int
  | 1 => .int
  | 2 => .int
  | 3 => .int
  | 4 => .int
  | 5 => .int
  | 6 => .int
  | 7 => .int
  | 8 => .int
  | 9 => .int
  | 10 => .int
  | 11 => .int
  | 12 => .int
  | 13 => .int
  | _ => .int
abbrev wsX60 : List Cond := u_ws RX6 TX6 15
theorem nmX6 : ∀ a, a < 15 → ∀ b, b < 15 → a ≠ b → (TX6 a).2.1 ≠ (TX6 b).2.1 := by decide +kernel
theorem tyX6_ok : ∀ k, k < 15 → parseFieldDescriptor (TX6 k).2.2.1 = some (tyX6 k) := by decide +kernel
abbrev cX6_init : ByteArray := prog_8_method_1_code
def yX6_init : MethodName := ⟨RX6, "<init>", "()V"⟩
abbrev cX6_isThere : ByteArray := prog_8_method_2_code
def yX6_isThere : MethodName := ⟨RX6, "isThere", "(ILMarshLights$Land;)Z"⟩
abbrev cX6_isLit : ByteArray := prog_8_method_3_code
def yX6_isLit : MethodName := ⟨RX6, "isLit", "(I)Z"⟩
abbrev cX6_xIn : ByteArray := prog_8_method_4_code
def yX6_xIn : MethodName := ⟨RX6, "xIn", "(I)I"⟩
abbrev cX6_yIn : ByteArray := prog_8_method_5_code
def yX6_yIn : MethodName := ⟨RX6, "yIn", "(I)I"⟩
abbrev cX6_zIn : ByteArray := prog_8_method_6_code
def yX6_zIn : MethodName := ⟨RX6, "zIn", "(ILMarshLights$Land;)I"⟩
def RX7 : String := "MarshLights"
def TX7 : u_T := fun k => match k with
  | 0 => ("MarshLights", "land", "LMarshLights$Land;", true)
  | 1 => ("MarshLights", "sight", "LMarshLights$Sight;", true)
  | 2 => ("MarshLights", "seerPlaces", "[I", true)
  | 3 => ("MarshLights", "seerCount", "I", false)
  | 4 => ("MarshLights", "things", "[LMarshLights$Thing;", true)
  | 5 => ("MarshLights", "thingCount", "I", false)
  | 6 => ("MarshLights", "tellings", "[LMarshLights$Telling;", true)
  | 7 => ("MarshLights", "tellingCount", "I", false)
  | 8 => ("MarshLights", "wayOff", "I", false)
  | 9 => ("MarshLights", "slopeOff", "I", false)
  | 10 => ("MarshLights", "changes", "I", false)
  | 11 => ("MarshLights", "rowOfThings", "[I", true)
  | 12 => ("MarshLights", "rowOfTellings", "[I", true)
  | 13 => ("MarshLights", "crossing", "LMarshLights$Crossing;", true)
  | 14 => ("MarshLights", "reader", "LMarshLights$Reader;", true)
  | 15 => ("MarshLights", "rulesNow", "LMarshLights$Rules;", false)
  | 16 => ("MarshLights", "rulesSpare", "LMarshLights$Rules;", false)
  | 17 => ("MarshLights", "values", "[I", true)
  | _ => ("MarshLights", "lotState", "I", false)
def tyX7 : Nat → FieldType := fun k => match k with
  | 0 => .object "MarshLights$Land"
  | 1 => .object "MarshLights$Sight"
  | 2 => .array .int
  | 3 => .int
  | 4 => .array (.object "MarshLights$Thing")
  | 5 => .int
  | 6 => .array (.object "MarshLights$Telling")
  | 7 => .int
  | 8 => .int
  | 9 => .int
  | 10 => .int
  | 11 => .array .int
  | 12 => .array .int
  | 13 => .object "MarshLights$Crossing"
  | 14 => .object "MarshLights$Reader"
  | 15 => .object "MarshLights$Rules"
  | 16 => .object "MarshLights$Rules"
  | 17 => .array .int
  | _ => .int
abbrev wsX70 : List Cond := u_ws RX7 TX7 19
theorem nmX7 : ∀ a, a < 19 → ∀ b, b < 19 → a ≠ b → (TX7 a).2.1 ≠ (TX7 b).2.1 := by decide +kernel
theorem tyX7_ok : ∀ k, k < 19 → parseFieldDescriptor (TX7 k).2.2.1 = some (tyX7 k) := by decide +kernel
abbrev cX7_init : ByteArray := prog_1_method_1_code
def yX7_init : MethodName := ⟨RX7, "<init>", "()V"⟩
abbrev cX7_hill : ByteArray := prog_1_method_2_code
def yX7_hill : MethodName := ⟨RX7, "hill", "(III)I"⟩
abbrev cX7_seer : ByteArray := prog_1_method_3_code
def yX7_seer : MethodName := ⟨RX7, "seer", "(I)I"⟩
abbrev cX7_star : ByteArray := prog_1_method_4_code
def yX7_star : MethodName := ⟨RX7, "star", "(III)I"⟩
abbrev cX7_flies : ByteArray := prog_1_method_5_code
def yX7_flies : MethodName := ⟨RX7, "flies", "(IIIII)I"⟩
abbrev cX7_flare : ByteArray := prog_1_method_6_code
def yX7_flare : MethodName := ⟨RX7, "flare", "(IIII)I"⟩
abbrev cX7_lamp : ByteArray := prog_1_method_7_code
def yX7_lamp : MethodName := ⟨RX7, "lamp", "(IIII)I"⟩
abbrev cX7_ground : ByteArray := prog_1_method_8_code
def yX7_ground : MethodName := ⟨RX7, "ground", "(I)I"⟩
abbrev cX7_at : ByteArray := prog_1_method_9_code
def yX7_at : MethodName := ⟨RX7, "at", "(III)I"⟩
abbrev cX7_seen : ByteArray := prog_1_method_10_code
def yX7_seen : MethodName := ⟨RX7, "seen", "(IIII)I"⟩
abbrev cX7_tell : ByteArray := prog_1_method_11_code
def yX7_tell : MethodName := ⟨RX7, "tell", "(IIIII)I"⟩
abbrev cX7_undo : ByteArray := prog_1_method_12_code
def yX7_undo : MethodName := ⟨RX7, "undo", "()I"⟩
abbrev cX7_off : ByteArray := prog_1_method_13_code
def yX7_off : MethodName := ⟨RX7, "off", "(II)Z"⟩
abbrev cX7_telling : ByteArray := prog_1_method_14_code
def yX7_telling : MethodName := ⟨RX7, "telling", "(II)I"⟩
abbrev cX7_fits : ByteArray := prog_1_method_15_code
def yX7_fits : MethodName := ⟨RX7, "fits", "(II)I"⟩
abbrev cX7_left : ByteArray := prog_1_method_16_code
def yX7_left : MethodName := ⟨RX7, "left", "(I)I"⟩
abbrev cX7_fewest : ByteArray := prog_1_method_17_code
def yX7_fewest : MethodName := ⟨RX7, "fewest", "()I"⟩
abbrev cX7_joined : ByteArray := prog_1_method_18_code
def yX7_joined : MethodName := ⟨RX7, "joined", "(II)I"⟩
abbrev cX7_cross : ByteArray := prog_1_method_19_code
def yX7_cross : MethodName := ⟨RX7, "cross", "(III)I"⟩
abbrev cX7_out : ByteArray := prog_1_method_20_code
def yX7_out : MethodName := ⟨RX7, "out", "(II)I"⟩
abbrev cX7_outs : ByteArray := prog_1_method_21_code
def yX7_outs : MethodName := ⟨RX7, "outs", "(IIII)I"⟩
abbrev cX7_size : ByteArray := prog_1_method_22_code
def yX7_size : MethodName := ⟨RX7, "size", "(IIII)I"⟩
abbrev cX7_hulls : ByteArray := prog_1_method_23_code
def yX7_hulls : MethodName := ⟨RX7, "hulls", "(II)I"⟩
abbrev cX7_ask : ByteArray := prog_1_method_24_code
def yX7_ask : MethodName := ⟨RX7, "ask", "(I)I"⟩
abbrev cX7_feed : ByteArray := prog_1_method_25_code
def yX7_feed : MethodName := ⟨RX7, "feed", "(IIIII)I"⟩
abbrev cX7_end : ByteArray := prog_1_method_26_code
def yX7_end : MethodName := ⟨RX7, "end", "(I)Z"⟩
abbrev cX7_fault : ByteArray := prog_1_method_27_code
def yX7_fault : MethodName := ⟨RX7, "fault", "()I"⟩
abbrev cX7_rules : ByteArray := prog_1_method_28_code
def yX7_rules : MethodName := ⟨RX7, "rules", "()I"⟩
abbrev cX7_office : ByteArray := prog_1_method_29_code
def yX7_office : MethodName := ⟨RX7, "office", "(IIII)I"⟩
abbrev cX7_grown : ByteArray := prog_1_method_30_code
def yX7_grown : MethodName := ⟨RX7, "grown", "(IIII)I"⟩
abbrev cX7_before : ByteArray := prog_1_method_31_code
def yX7_before : MethodName := ⟨RX7, "before", "(IIII)I"⟩
abbrev cX7_draw : ByteArray := prog_1_method_32_code
def yX7_draw : MethodName := ⟨RX7, "draw", "(II)I"⟩
abbrev cX7_count : ByteArray := prog_1_method_33_code
def yX7_count : MethodName := ⟨RX7, "count", "(I)I"⟩
abbrev cX7_isPlace : ByteArray := prog_1_method_34_code
def yX7_isPlace : MethodName := ⟨RX7, "isPlace", "(I)Z"⟩
abbrev cX7_isMinute : ByteArray := prog_1_method_35_code
def yX7_isMinute : MethodName := ⟨RX7, "isMinute", "(I)Z"⟩
abbrev cX7_isSpan : ByteArray := prog_1_method_36_code
def yX7_isSpan : MethodName := ⟨RX7, "isSpan", "(I)Z"⟩
abbrev cX7_isHeight : ByteArray := prog_1_method_37_code
def yX7_isHeight : MethodName := ⟨RX7, "isHeight", "(I)Z"⟩
abbrev cX7_isFall : ByteArray := prog_1_method_38_code
def yX7_isFall : MethodName := ⟨RX7, "isFall", "(I)Z"⟩
abbrev cX7_isSpeed : ByteArray := prog_1_method_39_code
def yX7_isSpeed : MethodName := ⟨RX7, "isSpeed", "(I)Z"⟩
abbrev cX7_isWay : ByteArray := prog_1_method_40_code
def yX7_isWay : MethodName := ⟨RX7, "isWay", "(I)Z"⟩
abbrev cX7_isToldSlope : ByteArray := prog_1_method_41_code
def yX7_isToldSlope : MethodName := ⟨RX7, "isToldSlope", "(I)Z"⟩
abbrev cX7_isDirection : ByteArray := prog_1_method_42_code
def yX7_isDirection : MethodName := ⟨RX7, "isDirection", "(I)Z"⟩
abbrev cX7_isLights : ByteArray := prog_1_method_43_code
def yX7_isLights : MethodName := ⟨RX7, "isLights", "(I)Z"⟩
abbrev cX7_isHull : ByteArray := prog_1_method_44_code
def yX7_isHull : MethodName := ⟨RX7, "isHull", "(I)Z"⟩
abbrev cX7_isLightsAndHull : ByteArray := prog_1_method_45_code
def yX7_isLightsAndHull : MethodName := ⟨RX7, "isLightsAndHull", "(I)Z"⟩
abbrev cX7_isLater : ByteArray := prog_1_method_46_code
def yX7_isLater : MethodName := ⟨RX7, "isLater", "(I)Z"⟩
abbrev cX7_isSeer : ByteArray := prog_1_method_47_code
def yX7_isSeer : MethodName := ⟨RX7, "isSeer", "(I)Z"⟩
abbrev cX7_isThing : ByteArray := prog_1_method_48_code
def yX7_isThing : MethodName := ⟨RX7, "isThing", "(I)Z"⟩
abbrev cX7_isTelling : ByteArray := prog_1_method_49_code
def yX7_isTelling : MethodName := ⟨RX7, "isTelling", "(I)Z"⟩
abbrev cX7_divisorOf : ByteArray := prog_1_method_50_code
def yX7_divisorOf : MethodName := ⟨RX7, "divisorOf", "(I)I"⟩
abbrev cX7_newThing : ByteArray := prog_1_method_51_code
def yX7_newThing : MethodName := ⟨RX7, "newThing", "(IIII)LMarshLights$Thing;"⟩
abbrev cX7_fittingOf : ByteArray := prog_1_method_52_code
def yX7_fittingOf : MethodName := ⟨RX7, "fittingOf", "(LMarshLights$Telling;)I"⟩
abbrev cX7_isLike : ByteArray := prog_1_method_53_code
def yX7_isLike : MethodName := ⟨RX7, "isLike", "(LMarshLights$Telling;LMarshLights$Thing;)Z"⟩
abbrev cX7_isNear : ByteArray := prog_1_method_54_code
def yX7_isNear : MethodName := ⟨RX7, "isNear", "(II)Z"⟩
abbrev cX7_apart : ByteArray := prog_1_method_55_code
def yX7_apart : MethodName := ⟨RX7, "apart", "(II)I"⟩
abbrev cX7_gatherNeeds : ByteArray := prog_1_method_56_code
def yX7_gatherNeeds : MethodName := ⟨RX7, "gatherNeeds", "()I"⟩
abbrev cX7_meetsAll : ByteArray := prog_1_method_57_code
def yX7_meetsAll : MethodName := ⟨RX7, "meetsAll", "(II)Z"⟩
abbrev cX7_weighMinutes : ByteArray := prog_1_method_58_code
def yX7_weighMinutes : MethodName := ⟨RX7, "weighMinutes", "(LMarshLights$Telling;)V"⟩
abbrev cX7_couplesParted : ByteArray := prog_1_method_59_code
def yX7_couplesParted : MethodName := ⟨RX7, "couplesParted", "(III)I"⟩
abbrev cX7_pointsAt : ByteArray := prog_1_method_60_code
def yX7_pointsAt : MethodName := ⟨RX7, "pointsAt", "(LMarshLights$Telling;I)Z"⟩
abbrev cX7_shareHeight : ByteArray := prog_1_method_61_code
def yX7_shareHeight : MethodName := ⟨RX7, "shareHeight", "(LMarshLights$Telling;LMarshLights$Telling;I)Z"⟩
abbrev cX7_leastHeight : ByteArray := prog_1_method_62_code
def yX7_leastHeight : MethodName := ⟨RX7, "leastHeight", "(LMarshLights$Telling;I)I"⟩
abbrev cX7_greatestHeight : ByteArray := prog_1_method_63_code
def yX7_greatestHeight : MethodName := ⟨RX7, "greatestHeight", "(LMarshLights$Telling;I)I"⟩
abbrev cX7_leastShown : ByteArray := prog_1_method_64_code
def yX7_leastShown : MethodName := ⟨RX7, "leastShown", "(II)I"⟩
abbrev cX7_eyeAt : ByteArray := prog_1_method_65_code
def yX7_eyeAt : MethodName := ⟨RX7, "eyeAt", "(I)I"⟩
abbrev cX7_distance : ByteArray := prog_1_method_66_code
def yX7_distance : MethodName := ⟨RX7, "distance", "(II)I"⟩
abbrev cX7_ceilDiv : ByteArray := prog_1_method_67_code
def yX7_ceilDiv : MethodName := ⟨RX7, "ceilDiv", "(II)I"⟩
abbrev cX7_wayOf : ByteArray := prog_1_method_68_code
def yX7_wayOf : MethodName := ⟨RX7, "wayOf", "(II)I"⟩
abbrev cX7_slopeOf : ByteArray := prog_1_method_69_code
def yX7_slopeOf : MethodName := ⟨RX7, "slopeOf", "(II)I"⟩
abbrev cX7_within : ByteArray := prog_1_method_70_code
def yX7_within : MethodName := ⟨RX7, "within", "(III)I"⟩
abbrev cX7_setValues : ByteArray := prog_1_method_71_code
def yX7_setValues : MethodName := ⟨RX7, "setValues", "(IIII)V"⟩
abbrev cX7_isHasty : ByteArray := prog_1_method_72_code
def yX7_isHasty : MethodName := ⟨RX7, "isHasty", "(LMarshLights$Telling;I)Z"⟩
abbrev cX7_growth : ByteArray := prog_1_method_73_code
def yX7_growth : MethodName := ⟨RX7, "growth", "(IIII)I"⟩
abbrev cX7_drawTelling : ByteArray := prog_1_method_74_code
def yX7_drawTelling : MethodName := ⟨RX7, "drawTelling", "()Z"⟩
abbrev cX7_sightedOff : ByteArray := prog_1_method_75_code
def yX7_sightedOff : MethodName := ⟨RX7, "sightedOff", "(II)I"⟩
abbrev cX7_lotBelow : ByteArray := prog_1_method_76_code
def yX7_lotBelow : MethodName := ⟨RX7, "lotBelow", "(I)I"⟩
def RX8 : String := "MarshLightsModel"
def TX8 : u_T := fun k => match k with
  | 0 => ("MarshLightsModel", "hillX", "[I", true)
  | 1 => ("MarshLightsModel", "hillY", "[I", true)
  | 2 => ("MarshLightsModel", "hillToX", "[I", true)
  | 3 => ("MarshLightsModel", "hillToY", "[I", true)
  | 4 => ("MarshLightsModel", "hillHigh", "[I", true)
  | 5 => ("MarshLightsModel", "seerX", "[I", true)
  | 6 => ("MarshLightsModel", "seerY", "[I", true)
  | 7 => ("MarshLightsModel", "kind", "[I", true)
  | 8 => ("MarshLightsModel", "first", "[I", true)
  | 9 => ("MarshLightsModel", "last", "[I", true)
  | 10 => ("MarshLightsModel", "thingX", "[I", true)
  | 11 => ("MarshLightsModel", "thingY", "[I", true)
  | 12 => ("MarshLightsModel", "thingZ", "[I", true)
  | 13 => ("MarshLightsModel", "speedX", "[I", true)
  | 14 => ("MarshLightsModel", "speedY", "[I", true)
  | 15 => ("MarshLightsModel", "period", "[I", true)
  | 16 => ("MarshLightsModel", "lampRest", "[I", true)
  | 17 => ("MarshLightsModel", "hills", "I", false)
  | 18 => ("MarshLightsModel", "seers", "I", false)
  | 19 => ("MarshLightsModel", "things", "I", false)
  | 20 => ("MarshLightsModel", "x0", "I", false)
  | 21 => ("MarshLightsModel", "y0", "I", false)
  | 22 => ("MarshLightsModel", "z0", "I", false)
  | 23 => ("MarshLightsModel", "told", "[[I", true)
  | 24 => ("MarshLightsModel", "tellings", "I", false)
  | 25 => ("MarshLightsModel", "offWay", "I", false)
  | 26 => ("MarshLightsModel", "offSlope", "I", false)
  | 27 => ("MarshLightsModel", "fit", "[I", true)
  | 28 => ("MarshLightsModel", "text", "[B", true)
  | 29 => ("MarshLightsModel", "textMany", "I", false)
  | 30 => ("MarshLightsModel", "at", "I", false)
  | 31 => ("MarshLightsModel", "to", "I", false)
  | 32 => ("MarshLightsModel", "faultAt", "I", false)
  | 33 => ("MarshLightsModel", "marks", "[[I", true)
  | 34 => ("MarshLightsModel", "begin", "[[I", true)
  | 35 => ("MarshLightsModel", "many", "[[I", true)
  | 36 => ("MarshLightsModel", "says", "[[I", true)
  | 37 => ("MarshLightsModel", "clauses", "[I", true)
  | 38 => ("MarshLightsModel", "poolMany", "[I", true)
  | 39 => ("MarshLightsModel", "grows", "[Z", true)
  | 40 => ("MarshLightsModel", "pile", "[I", true)
  | 41 => ("MarshLightsModel", "names", "[I", true)
  | 42 => ("MarshLightsModel", "kinds", "[Ljava/lang/String;", true)
  | 43 => ("MarshLightsModel", "named", "[Ljava/lang/String;", true)
  | _ => ("MarshLightsModel", "lots", "J", false)
def tyX8 : Nat → FieldType := fun k => match k with
  | 0 => .array .int
  | 1 => .array .int
  | 2 => .array .int
  | 3 => .array .int
  | 4 => .array .int
  | 5 => .array .int
  | 6 => .array .int
  | 7 => .array .int
  | 8 => .array .int
  | 9 => .array .int
  | 10 => .array .int
  | 11 => .array .int
  | 12 => .array .int
  | 13 => .array .int
  | 14 => .array .int
  | 15 => .array .int
  | 16 => .array .int
  | 17 => .int
  | 18 => .int
  | 19 => .int
  | 20 => .int
  | 21 => .int
  | 22 => .int
  | 23 => .array (.array .int)
  | 24 => .int
  | 25 => .int
  | 26 => .int
  | 27 => .array .int
  | 28 => .array .byte
  | 29 => .int
  | 30 => .int
  | 31 => .int
  | 32 => .int
  | 33 => .array (.array .int)
  | 34 => .array (.array .int)
  | 35 => .array (.array .int)
  | 36 => .array (.array .int)
  | 37 => .array .int
  | 38 => .array .int
  | 39 => .array .boolean
  | 40 => .array .int
  | 41 => .array .int
  | 42 => .array (.object "java/lang/String")
  | 43 => .array (.object "java/lang/String")
  | _ => .long
abbrev wsX80 : List Cond := u_ws RX8 TX8 45
theorem nmX8 : ∀ a, a < 45 → ∀ b, b < 45 → a ≠ b → (TX8 a).2.1 ≠ (TX8 b).2.1 := by decide +kernel
theorem tyX8_ok : ∀ k, k < 45 → parseFieldDescriptor (TX8 k).2.2.1 = some (tyX8 k) := by decide +kernel
abbrev cX8_init : ByteArray := prog_10_method_1_code
def yX8_init : MethodName := ⟨RX8, "<init>", "()V"⟩
abbrev cX8_in : ByteArray := prog_10_method_2_code
def yX8_in : MethodName := ⟨RX8, "in", "(JJJ)Z"⟩
abbrev cX8_isPlace : ByteArray := prog_10_method_3_code
def yX8_isPlace : MethodName := ⟨RX8, "isPlace", "(I)Z"⟩
abbrev cX8_isMinute : ByteArray := prog_10_method_4_code
def yX8_isMinute : MethodName := ⟨RX8, "isMinute", "(I)Z"⟩
abbrev cX8_areMinutes : ByteArray := prog_10_method_5_code
def yX8_areMinutes : MethodName := ⟨RX8, "areMinutes", "(I)Z"⟩
abbrev cX8_hill : ByteArray := prog_10_method_6_code
def yX8_hill : MethodName := ⟨RX8, "hill", "(III)I"⟩
abbrev cX8_hillAt : ByteArray := prog_10_method_7_code
def yX8_hillAt : MethodName := ⟨RX8, "hillAt", "(II)I"⟩
abbrev cX8_groundAt : ByteArray := prog_10_method_8_code
def yX8_groundAt : MethodName := ⟨RX8, "groundAt", "(II)I"⟩
abbrev cX8_ground : ByteArray := prog_10_method_9_code
def yX8_ground : MethodName := ⟨RX8, "ground", "(I)I"⟩
abbrev cX8_seer : ByteArray := prog_10_method_10_code
def yX8_seer : MethodName := ⟨RX8, "seer", "(I)I"⟩
abbrev cX8_adds : ByteArray := prog_10_method_11_code
def yX8_adds : MethodName := ⟨RX8, "adds", "(IIII)I"⟩
abbrev cX8_star : ByteArray := prog_10_method_12_code
def yX8_star : MethodName := ⟨RX8, "star", "(III)I"⟩
abbrev cX8_flies : ByteArray := prog_10_method_13_code
def yX8_flies : MethodName := ⟨RX8, "flies", "(IIIII)I"⟩
abbrev cX8_flare : ByteArray := prog_10_method_14_code
def yX8_flare : MethodName := ⟨RX8, "flare", "(IIII)I"⟩
abbrev cX8_lamp : ByteArray := prog_10_method_15_code
def yX8_lamp : MethodName := ⟨RX8, "lamp", "(IIII)I"⟩
abbrev cX8_isAt : ByteArray := prog_10_method_16_code
def yX8_isAt : MethodName := ⟨RX8, "isAt", "(II)Z"⟩
abbrev cX8_isThing : ByteArray := prog_10_method_17_code
def yX8_isThing : MethodName := ⟨RX8, "isThing", "(I)Z"⟩
abbrev cX8_isSeer : ByteArray := prog_10_method_18_code
def yX8_isSeer : MethodName := ⟨RX8, "isSeer", "(I)Z"⟩
abbrev cX8_at : ByteArray := prog_10_method_19_code
def yX8_at : MethodName := ⟨RX8, "at", "(III)I"⟩
abbrev cX8_wayOf : ByteArray := prog_10_method_20_code
def yX8_wayOf : MethodName := ⟨RX8, "wayOf", "(II)I"⟩
abbrev cX8_slopeOf : ByteArray := prog_10_method_21_code
def yX8_slopeOf : MethodName := ⟨RX8, "slopeOf", "(III)I"⟩
abbrev cX8_eye : ByteArray := prog_10_method_22_code
def yX8_eye : MethodName := ⟨RX8, "eye", "(I)I"⟩
abbrev cX8_hider : ByteArray := prog_10_method_23_code
def yX8_hider : MethodName := ⟨RX8, "hider", "(IIII)I"⟩
abbrev cX8_isLit : ByteArray := prog_10_method_24_code
def yX8_isLit : MethodName := ⟨RX8, "isLit", "(II)Z"⟩
abbrev cX8_isShown : ByteArray := prog_10_method_25_code
def yX8_isShown : MethodName := ⟨RX8, "isShown", "(III)Z"⟩
abbrev cX8_way : ByteArray := prog_10_method_26_code
def yX8_way : MethodName := ⟨RX8, "way", "(III)I"⟩
abbrev cX8_slope : ByteArray := prog_10_method_27_code
def yX8_slope : MethodName := ⟨RX8, "slope", "(III)I"⟩
abbrev cX8_seen : ByteArray := prog_10_method_28_code
def yX8_seen : MethodName := ⟨RX8, "seen", "(IIII)I"⟩
abbrev cX8_isView : ByteArray := prog_10_method_29_code
def yX8_isView : MethodName := ⟨RX8, "isView", "(I)Z"⟩
abbrev cX8_tell : ByteArray := prog_10_method_30_code
def yX8_tell : MethodName := ⟨RX8, "tell", "(IIIII)I"⟩
abbrev cX8_undo : ByteArray := prog_10_method_31_code
def yX8_undo : MethodName := ⟨RX8, "undo", "()I"⟩
abbrev cX8_off : ByteArray := prog_10_method_32_code
def yX8_off : MethodName := ⟨RX8, "off", "(II)Z"⟩
abbrev cX8_isTelling : ByteArray := prog_10_method_33_code
def yX8_isTelling : MethodName := ⟨RX8, "isTelling", "(I)Z"⟩
abbrev cX8_telling : ByteArray := prog_10_method_34_code
def yX8_telling : MethodName := ⟨RX8, "telling", "(II)I"⟩
abbrev cX8_apart : ByteArray := prog_10_method_35_code
def yX8_apart : MethodName := ⟨RX8, "apart", "(II)I"⟩
abbrev cX8_isNear : ByteArray := prog_10_method_36_code
def yX8_isNear : MethodName := ⟨RX8, "isNear", "(I[II)Z"⟩
abbrev cX8_fitting : ByteArray := prog_10_method_37_code
def yX8_fitting : MethodName := ⟨RX8, "fitting", "(I)I"⟩
abbrev cX8_fits : ByteArray := prog_10_method_38_code
def yX8_fits : MethodName := ⟨RX8, "fits", "(II)I"⟩
abbrev cX8_left : ByteArray := prog_10_method_39_code
def yX8_left : MethodName := ⟨RX8, "left", "(I)I"⟩
abbrev cX8_fewest : ByteArray := prog_10_method_40_code
def yX8_fewest : MethodName := ⟨RX8, "fewest", "()I"⟩
abbrev cX8_joined : ByteArray := prog_10_method_41_code
def yX8_joined : MethodName := ⟨RX8, "joined", "(II)I"⟩
abbrev cX8_isSlope : ByteArray := prog_10_method_42_code
def yX8_isSlope : MethodName := ⟨RX8, "isSlope", "(IIIII)Z"⟩
abbrev cX8_hasHeight : ByteArray := prog_10_method_43_code
def yX8_hasHeight : MethodName := ⟨RX8, "hasHeight", "([I[III)Z"⟩
abbrev cX8_isCrossed : ByteArray := prog_10_method_44_code
def yX8_isCrossed : MethodName := ⟨RX8, "isCrossed", "([III)Z"⟩
abbrev cX8_cross : ByteArray := prog_10_method_45_code
def yX8_cross : MethodName := ⟨RX8, "cross", "(III)I"⟩
abbrev cX8_out : ByteArray := prog_10_method_46_code
def yX8_out : MethodName := ⟨RX8, "out", "(II)I"⟩
abbrev cX8_isUp : ByteArray := prog_10_method_47_code
def yX8_isUp : MethodName := ⟨RX8, "isUp", "(IIII)Z"⟩
abbrev cX8_outs : ByteArray := prog_10_method_48_code
def yX8_outs : MethodName := ⟨RX8, "outs", "(IIII)I"⟩
abbrev cX8_size : ByteArray := prog_10_method_49_code
def yX8_size : MethodName := ⟨RX8, "size", "(IIII)I"⟩
abbrev cX8_hulls : ByteArray := prog_10_method_50_code
def yX8_hulls : MethodName := ⟨RX8, "hulls", "(II)I"⟩
abbrev cX8_partedAt : ByteArray := prog_10_method_51_code
def yX8_partedAt : MethodName := ⟨RX8, "partedAt", "(III)I"⟩
abbrev cX8_ask : ByteArray := prog_10_method_52_code
def yX8_ask : MethodName := ⟨RX8, "ask", "(I)I"⟩
abbrev cX8_feeds : ByteArray := prog_10_method_53_code
def yX8_feeds : MethodName := ⟨RX8, "feeds", "(I)V"⟩
abbrev cX8_feed : ByteArray := prog_10_method_54_code
def yX8_feed : MethodName := ⟨RX8, "feed", "(IIIII)I"⟩
abbrev cX8_end : ByteArray := prog_10_method_55_code
def yX8_end : MethodName := ⟨RX8, "end", "(I)Z"⟩
abbrev cX8_between : ByteArray := prog_10_method_56_code
def yX8_between : MethodName := ⟨RX8, "between", "(III)Z"⟩
abbrev cX8_next : ByteArray := prog_10_method_57_code
def yX8_next : MethodName := ⟨RX8, "next", "()V"⟩
abbrev cX8_passes : ByteArray := prog_10_method_58_code
def yX8_passes : MethodName := ⟨RX8, "passes", "(Z)Z"⟩
abbrev cX8_isWord : ByteArray := prog_10_method_59_code
def yX8_isWord : MethodName := ⟨RX8, "isWord", "(Ljava/lang/String;)Z"⟩
abbrev cX8_isSign : ByteArray := prog_10_method_60_code
def yX8_isSign : MethodName := ⟨RX8, "isSign", "(I)Z"⟩
abbrev cX8_mark : ByteArray := prog_10_method_61_code
def yX8_mark : MethodName := ⟨RX8, "mark", "(I)V"⟩
abbrev cX8_factor : ByteArray := prog_10_method_62_code
def yX8_factor : MethodName := ⟨RX8, "factor", "(I)Z"⟩
abbrev cX8_product : ByteArray := prog_10_method_63_code
def yX8_product : MethodName := ⟨RX8, "product", "(I)Z"⟩
abbrev cX8_sum : ByteArray := prog_10_method_64_code
def yX8_sum : MethodName := ⟨RX8, "sum", "(I)Z"⟩
abbrev cX8_compares : ByteArray := prog_10_method_65_code
def yX8_compares : MethodName := ⟨RX8, "compares", "()Z"⟩
abbrev cX8_holdsRead : ByteArray := prog_10_method_66_code
def yX8_holdsRead : MethodName := ⟨RX8, "holdsRead", "()Z"⟩
abbrev cX8_begins : ByteArray := prog_10_method_67_code
def yX8_begins : MethodName := ⟨RX8, "begins", "(I)V"⟩
abbrev cX8_ends : ByteArray := prog_10_method_68_code
def yX8_ends : MethodName := ⟨RX8, "ends", "(I)Z"⟩
abbrev cX8_line : ByteArray := prog_10_method_69_code
def yX8_line : MethodName := ⟨RX8, "line", "()Z"⟩
abbrev cX8_reads : ByteArray := prog_10_method_70_code
def yX8_reads : MethodName := ⟨RX8, "reads", "()V"⟩
abbrev cX8_fault : ByteArray := prog_10_method_71_code
def yX8_fault : MethodName := ⟨RX8, "fault", "()I"⟩
abbrev cX8_rules : ByteArray := prog_10_method_72_code
def yX8_rules : MethodName := ⟨RX8, "rules", "()I"⟩
abbrev cX8_brought : ByteArray := prog_10_method_73_code
def yX8_brought : MethodName := ⟨RX8, "brought", "(J)I"⟩
abbrev cX8_worked : ByteArray := prog_10_method_74_code
def yX8_worked : MethodName := ⟨RX8, "worked", "(I)I"⟩
abbrev cX8_lays : ByteArray := prog_10_method_75_code
def yX8_lays : MethodName := ⟨RX8, "lays", "(IIII)V"⟩
abbrev cX8_areLater : ByteArray := prog_10_method_76_code
def yX8_areLater : MethodName := ⟨RX8, "areLater", "(II)Z"⟩
abbrev cX8_office : ByteArray := prog_10_method_77_code
def yX8_office : MethodName := ⟨RX8, "office", "(IIII)I"⟩
abbrev cX8_grownTo : ByteArray := prog_10_method_78_code
def yX8_grownTo : MethodName := ⟨RX8, "grownTo", "(IIII)I"⟩
abbrev cX8_grown : ByteArray := prog_10_method_79_code
def yX8_grown : MethodName := ⟨RX8, "grown", "(IIII)I"⟩
abbrev cX8_before : ByteArray := prog_10_method_80_code
def yX8_before : MethodName := ⟨RX8, "before", "(IIII)I"⟩
abbrev cX8_lot : ByteArray := prog_10_method_81_code
def yX8_lot : MethodName := ⟨RX8, "lot", "(I)I"⟩
abbrev cX8_draw : ByteArray := prog_10_method_82_code
def yX8_draw : MethodName := ⟨RX8, "draw", "(II)I"⟩
abbrev cX8_count : ByteArray := prog_10_method_83_code
def yX8_count : MethodName := ⟨RX8, "count", "(I)I"⟩
def RJx145de : String := "java/io/Serializable"
def TJx145de : u_T := fun k => match k with
  | _ => ("", "", "", false)
def tyJx145de : Nat → FieldType := fun k => match k with
  | _ => .int
abbrev wsJx145de0 : List Cond := u_ws RJx145de TJx145de 0
theorem nmJx145de : ∀ a, a < 0 → ∀ b, b < 0 → a ≠ b → (TJx145de a).2.1 ≠ (TJx145de b).2.1 := by decide +kernel
theorem tyJx145de_ok : ∀ k, k < 0 → parseFieldDescriptor (TJx145de k).2.2.1 = some (tyJx145de k) := by decide +kernel
def RJx9f9b0 : String := "java/lang/CharSequence"
def TJx9f9b0 : u_T := fun k => match k with
  | _ => ("", "", "", false)
def tyJx9f9b0 : Nat → FieldType := fun k => match k with
  | _ => .int
abbrev wsJx9f9b00 : List Cond := u_ws RJx9f9b0 TJx9f9b0 0
theorem nmJx9f9b0 : ∀ a, a < 0 → ∀ b, b < 0 → a ≠ b → (TJx9f9b0 a).2.1 ≠ (TJx9f9b0 b).2.1 := by decide +kernel
theorem tyJx9f9b0_ok : ∀ k, k < 0 → parseFieldDescriptor (TJx9f9b0 k).2.2.1 = some (tyJx9f9b0 k) := by decide +kernel
def RJ11 : String := "java/lang/Character"
def TJ11 : u_T := fun k => match k with
  | _ => ("", "", "", false)
def tyJ11 : Nat → FieldType := fun k => match k with
  | _ => .int
abbrev wsJ110 : List Cond := u_ws RJ11 TJ11 0
theorem nmJ11 : ∀ a, a < 0 → ∀ b, b < 0 → a ≠ b → (TJ11 a).2.1 ≠ (TJ11 b).2.1 := by decide +kernel
theorem tyJ11_ok : ∀ k, k < 0 → parseFieldDescriptor (TJ11 k).2.2.1 = some (tyJ11 k) := by decide +kernel
abbrev cJ11_isValidCodePoint_9a6ad : ByteArray := prog_11_method_11_code
def yJ11_isValidCodePoint_9a6ad : MethodName := ⟨RJ11, "isValidCodePoint", "(I)Z"⟩
abbrev cJ11_highSurrogate_5068e : ByteArray := prog_11_method_28_code
def yJ11_highSurrogate_5068e : MethodName := ⟨RJ11, "highSurrogate", "(I)C"⟩
abbrev cJ11_lowSurrogate_5068e : ByteArray := prog_11_method_29_code
def yJ11_lowSurrogate_5068e : MethodName := ⟨RJ11, "lowSurrogate", "(I)C"⟩
def RJxb160c : String := "java/lang/Comparable"
def TJxb160c : u_T := fun k => match k with
  | _ => ("", "", "", false)
def tyJxb160c : Nat → FieldType := fun k => match k with
  | _ => .int
abbrev wsJxb160c0 : List Cond := u_ws RJxb160c TJxb160c 0
theorem nmJxb160c : ∀ a, a < 0 → ∀ b, b < 0 → a ≠ b → (TJxb160c a).2.1 ≠ (TJxb160c b).2.1 := by decide +kernel
theorem tyJxb160c_ok : ∀ k, k < 0 → parseFieldDescriptor (TJxb160c k).2.2.1 = some (tyJxb160c k) := by decide +kernel
def RJ6 : String := "java/lang/Integer"
def TJ6 : u_T := fun k => match k with
  | _ => ("", "", "", false)
def tyJ6 : Nat → FieldType := fun k => match k with
  | _ => .int
abbrev wsJ60 : List Cond := u_ws RJ6 TJ6 0
theorem nmJ6 : ∀ a, a < 0 → ∀ b, b < 0 → a ≠ b → (TJ6 a).2.1 ≠ (TJ6 b).2.1 := by decide +kernel
theorem tyJ6_ok : ∀ k, k < 0 → parseFieldDescriptor (TJ6 k).2.2.1 = some (tyJ6 k) := by decide +kernel
abbrev cJ6_bitCount_0f7a4 : ByteArray := prog_12_method_49_code
def yJ6_bitCount_0f7a4 : MethodName := ⟨RJ6, "bitCount", "(I)I"⟩
def RJ9 : String := "java/lang/Math"
def TJ9 : u_T := fun k => match k with
  | _ => ("", "", "", false)
def tyJ9 : Nat → FieldType := fun k => match k with
  | _ => .int
abbrev wsJ90 : List Cond := u_ws RJ9 TJ9 0
theorem nmJ9 : ∀ a, a < 0 → ∀ b, b < 0 → a ≠ b → (TJ9 a).2.1 ≠ (TJ9 b).2.1 := by decide +kernel
theorem tyJ9_ok : ∀ k, k < 0 → parseFieldDescriptor (TJ9 k).2.2.1 = some (tyJ9 k) := by decide +kernel
abbrev cJ9_floorDiv_7cf53 : ByteArray := prog_13_method_47_code
def yJ9_floorDiv_7cf53 : MethodName := ⟨RJ9, "floorDiv", "(II)I"⟩
abbrev cJ9_floorMod_7cf53 : ByteArray := prog_13_method_50_code
def yJ9_floorMod_7cf53 : MethodName := ⟨RJ9, "floorMod", "(II)I"⟩
abbrev cJ9_abs_0f7a4 : ByteArray := prog_13_method_59_code
def yJ9_abs_0f7a4 : MethodName := ⟨RJ9, "abs", "(I)I"⟩
abbrev cJ9_max_7cf53 : ByteArray := prog_13_method_65_code
def yJ9_max_7cf53 : MethodName := ⟨RJ9, "max", "(II)I"⟩
abbrev cJ9_max_f86c9 : ByteArray := prog_13_method_66_code
def yJ9_max_f86c9 : MethodName := ⟨RJ9, "max", "(JJ)J"⟩
abbrev cJ9_min_7cf53 : ByteArray := prog_13_method_69_code
def yJ9_min_7cf53 : MethodName := ⟨RJ9, "min", "(II)I"⟩
abbrev cJ9_min_f86c9 : ByteArray := prog_13_method_70_code
def yJ9_min_f86c9 : MethodName := ⟨RJ9, "min", "(JJ)J"⟩
def RJ0 : String := "java/lang/String"
def TJ0 : u_T := fun k => match k with
  | _ => ("", "", "", false)
def tyJ0 : Nat → FieldType := fun k => match k with
  | _ => .int
abbrev wsJ00 : List Cond := u_ws RJ0 TJ0 0
theorem nmJ0 : ∀ a, a < 0 → ∀ b, b < 0 → a ≠ b → (TJ0 a).2.1 ≠ (TJ0 b).2.1 := by decide +kernel
theorem tyJ0_ok : ∀ k, k < 0 → parseFieldDescriptor (TJ0 k).2.2.1 = some (tyJ0 k) := by decide +kernel
abbrev cJ0_length_8abf5 : ByteArray := prog_14_method_54_code
def yJ0_length_8abf5 : MethodName := ⟨RJ0, "length", "()I"⟩
abbrev cJ0_charAt_5068e : ByteArray := prog_14_method_56_code
def yJ0_charAt_5068e : MethodName := ⟨RJ0, "charAt", "(I)C"⟩
abbrev cJ0_indexOf_0f7a4 : ByteArray := prog_14_method_79_code
def yJ0_indexOf_0f7a4 : MethodName := ⟨RJ0, "indexOf", "(I)I"⟩
abbrev cJ0_indexOf_7cf53 : ByteArray := prog_14_method_80_code
def yJ0_indexOf_7cf53 : MethodName := ⟨RJ0, "indexOf", "(II)I"⟩
abbrev cJ0_coder_7d493 : ByteArray := prog_14_method_152_code
def yJ0_coder_7d493 : MethodName := ⟨RJ0, "coder", "()B"⟩
abbrev cJ0_isLatin1_aae02 : ByteArray := prog_14_method_154_code
def yJ0_isLatin1_aae02 : MethodName := ⟨RJ0, "isLatin1", "()Z"⟩
abbrev cJ0_checkIndex_df160 : ByteArray := prog_14_method_155_code
def yJ0_checkIndex_df160 : MethodName := ⟨RJ0, "checkIndex", "(II)V"⟩
abbrev cJ0_checkBoundsBeginEnd_23922 : ByteArray := prog_14_method_158_code
def yJ0_checkBoundsBeginEnd_23922 : MethodName := ⟨RJ0, "checkBoundsBeginEnd", "(III)V"⟩
def RJ1 : String := "java/lang/StringLatin1"
def TJ1 : u_T := fun k => match k with
  | _ => ("", "", "", false)
def tyJ1 : Nat → FieldType := fun k => match k with
  | _ => .int
abbrev wsJ10 : List Cond := u_ws RJ1 TJ1 0
theorem nmJ1 : ∀ a, a < 0 → ∀ b, b < 0 → a ≠ b → (TJ1 a).2.1 ≠ (TJ1 b).2.1 := by decide +kernel
theorem tyJ1_ok : ∀ k, k < 0 → parseFieldDescriptor (TJ1 k).2.2.1 = some (tyJ1 k) := by decide +kernel
abbrev cJ1_charAt_3b067 : ByteArray := prog_15_method_2_code
def yJ1_charAt_3b067 : MethodName := ⟨RJ1, "charAt", "([BI)C"⟩
abbrev cJ1_canEncode_9a6ad : ByteArray := prog_15_method_4_code
def yJ1_canEncode_9a6ad : MethodName := ⟨RJ1, "canEncode", "(I)Z"⟩
abbrev cJ1_indexOf_4cfef : ByteArray := prog_15_method_22_code
def yJ1_indexOf_4cfef : MethodName := ⟨RJ1, "indexOf", "([BIII)I"⟩
abbrev cJ1_indexOfChar_4cfef : ByteArray := prog_15_method_23_code
def yJ1_indexOfChar_4cfef : MethodName := ⟨RJ1, "indexOfChar", "([BIII)I"⟩
def RJ2 : String := "java/lang/StringUTF16"
def TJ2 : u_T := fun k => match k with
  | _ => ("", "", "", false)
def tyJ2 : Nat → FieldType := fun k => match k with
  | _ => .int
abbrev wsJ20 : List Cond := u_ws RJ2 TJ2 0
theorem nmJ2 : ∀ a, a < 0 → ∀ b, b < 0 → a ≠ b → (TJ2 a).2.1 ≠ (TJ2 b).2.1 := by decide +kernel
theorem tyJ2_ok : ∀ k, k < 0 → parseFieldDescriptor (TJ2 k).2.2.1 = some (tyJ2 k) := by decide +kernel
abbrev cJ2_getChar_3b067 : ByteArray := prog_16_method_5_code
def yJ2_getChar_3b067 : MethodName := ⟨RJ2, "getChar", "([BI)C"⟩
abbrev cJ2_length_9d52b : ByteArray := prog_16_method_6_code
def yJ2_length_9d52b : MethodName := ⟨RJ2, "length", "([B)I"⟩
abbrev cJ2_indexOf_4cfef : ByteArray := prog_16_method_40_code
def yJ2_indexOf_4cfef : MethodName := ⟨RJ2, "indexOf", "([BIII)I"⟩
abbrev cJ2_indexOfChar_4cfef : ByteArray := prog_16_method_47_code
def yJ2_indexOfChar_4cfef : MethodName := ⟨RJ2, "indexOfChar", "([BIII)I"⟩
abbrev cJ2_indexOfCharUnsafe_4cfef : ByteArray := prog_16_method_48_code
def yJ2_indexOfCharUnsafe_4cfef : MethodName := ⟨RJ2, "indexOfCharUnsafe", "([BIII)I"⟩
abbrev cJ2_indexOfSupplementary_4cfef : ByteArray := prog_16_method_49_code
def yJ2_indexOfSupplementary_4cfef : MethodName := ⟨RJ2, "indexOfSupplementary", "([BIII)I"⟩
abbrev cJ2_charAt_3b067 : ByteArray := prog_16_method_83_code
def yJ2_charAt_3b067 : MethodName := ⟨RJ2, "charAt", "([BI)C"⟩
abbrev cJ2_checkIndex_2214a : ByteArray := prog_16_method_91_code
def yJ2_checkIndex_2214a : MethodName := ⟨RJ2, "checkIndex", "(I[B)V"⟩
abbrev cJ2_checkBoundsBeginEnd_d044e : ByteArray := prog_16_method_93_code
def yJ2_checkBoundsBeginEnd_d044e : MethodName := ⟨RJ2, "checkBoundsBeginEnd", "(II[B)V"⟩
def RJxfd54e : String := "java/lang/constant/Constable"
def TJxfd54e : u_T := fun k => match k with
  | _ => ("", "", "", false)
def tyJxfd54e : Nat → FieldType := fun k => match k with
  | _ => .int
abbrev wsJxfd54e0 : List Cond := u_ws RJxfd54e TJxfd54e 0
theorem nmJxfd54e : ∀ a, a < 0 → ∀ b, b < 0 → a ≠ b → (TJxfd54e a).2.1 ≠ (TJxfd54e b).2.1 := by decide +kernel
theorem tyJxfd54e_ok : ∀ k, k < 0 → parseFieldDescriptor (TJxfd54e k).2.2.1 = some (tyJxfd54e k) := by decide +kernel
def RJx3cf43 : String := "java/lang/constant/ConstantDesc"
def TJx3cf43 : u_T := fun k => match k with
  | _ => ("", "", "", false)
def tyJx3cf43 : Nat → FieldType := fun k => match k with
  | _ => .int
abbrev wsJx3cf430 : List Cond := u_ws RJx3cf43 TJx3cf43 0
theorem nmJx3cf43 : ∀ a, a < 0 → ∀ b, b < 0 → a ≠ b → (TJx3cf43 a).2.1 ≠ (TJx3cf43 b).2.1 := by decide +kernel
theorem tyJx3cf43_ok : ∀ k, k < 0 → parseFieldDescriptor (TJx3cf43 k).2.2.1 = some (tyJx3cf43 k) := by decide +kernel
def RJ7 : String := "java/util/Arrays"
def TJ7 : u_T := fun k => match k with
  | _ => ("", "", "", false)
def tyJ7 : Nat → FieldType := fun k => match k with
  | _ => .int
abbrev wsJ70 : List Cond := u_ws RJ7 TJ7 0
theorem nmJ7 : ∀ a, a < 0 → ∀ b, b < 0 → a ≠ b → (TJ7 a).2.1 ≠ (TJ7 b).2.1 := by decide +kernel
theorem tyJ7_ok : ∀ k, k < 0 → parseFieldDescriptor (TJ7 k).2.2.1 = some (tyJ7 k) := by decide +kernel
abbrev cJ7_fill_53178 : ByteArray := prog_17_method_103_code
def yJ7_fill_53178 : MethodName := ⟨RJ7, "fill", "([II)V"⟩
def RJ3 : String := "jdk/internal/util/Preconditions"
def TJ3 : u_T := fun k => match k with
  | _ => ("", "", "", false)
def tyJ3 : Nat → FieldType := fun k => match k with
  | _ => .int
abbrev wsJ30 : List Cond := u_ws RJ3 TJ3 0
theorem nmJ3 : ∀ a, a < 0 → ∀ b, b < 0 → a ≠ b → (TJ3 a).2.1 ≠ (TJ3 b).2.1 := by decide +kernel
theorem tyJ3_ok : ∀ k, k < 0 → parseFieldDescriptor (TJ3 k).2.2.1 = some (tyJ3 k) := by decide +kernel
abbrev cJ3_checkIndex_8e157 : ByteArray := prog_18_method_11_code
def yJ3_checkIndex_8e157 : MethodName := ⟨RJ3, "checkIndex", "(IILjava/util/function/BiFunction;)I"⟩
abbrev cJ3_checkFromToIndex_8c36e : ByteArray := prog_18_method_12_code
def yJ3_checkFromToIndex_8c36e : MethodName := ⟨RJ3, "checkFromToIndex", "(IIILjava/util/function/BiFunction;)I"⟩
def RL : String := "MarshLightsLaw"
abbrev cL_law : ByteArray := code
def yL_law : MethodName := ⟨RL, "law", "([I)Z"⟩
abbrev vwCl : List vw_C := [(RX0, TX0, 6), (RX1, TX1, 4), (RX2, TX2, 6), (RX3, TX3, 10), (RX4, TX4, 10), (RX5, TX5, 14), (RX6, TX6, 15), (RX7, TX7, 19), (RX8, TX8, 45)]
/-! ===== object numbers: what stands where (64 on: what the law makes, in order) ===== -/
def zk (o : Nat) : Nat := if o < 64 then 0 else if o < 65 then 8 else if o < 66 then 2 else if o < 67 then 20 else if o < 68 then 20 else if o < 69 then 5 else if o < 70 then 20 else if o < 71 then 23 else if o < 72 then 24 else if o < 73 then 20 else if o < 74 then 20 else if o < 75 then 1 else if o < 76 then 3 else if o < 77 then 20 else if o < 78 then 20 else if o < 79 then 20 else if o < 80 then 4 else if o < 81 then 20 else if o < 82 then 20 else if o < 83 then 20 else if o < 84 then 20 else if o < 85 then 20 else if o < 86 then 4 else if o < 87 then 20 else if o < 88 then 20 else if o < 89 then 20 else if o < 90 then 20 else if o < 91 then 20 else if o < 92 then 20 else if o < 104 then 7 else if o < 164 then 6 else if o < 165 then 9 else if o < 166 then 20 else if o < 167 then 20 else if o < 168 then 20 else if o < 169 then 20 else if o < 170 then 20 else if o < 171 then 20 else if o < 172 then 20 else if o < 173 then 20 else if o < 174 then 20 else if o < 175 then 20 else if o < 176 then 20 else if o < 177 then 20 else if o < 178 then 20 else if o < 179 then 20 else if o < 180 then 20 else if o < 181 then 20 else if o < 182 then 20 else if o < 183 then 25 else if o < 243 then 20 else if o < 244 then 20 else if o < 245 then 21 else if o < 246 then 25 else if o < 248 then 20 else if o < 249 then 25 else if o < 251 then 20 else if o < 252 then 25 else if o < 254 then 20 else if o < 255 then 25 else if o < 257 then 20 else if o < 258 then 20 else if o < 259 then 20 else if o < 260 then 22 else if o < 261 then 20 else if o < 262 then 20 else if o < 263 then 26 else if o < 264 then 26 else 0
def zn (o : Nat) : Nat := if o < 64 then 0 else if o < 65 then 0 else if o < 66 then 0 else if o < 67 then 4096 else if o < 68 then 4096 else if o < 69 then 0 else if o < 70 then 20 else if o < 71 then 12 else if o < 72 then 60 else if o < 73 then 12 else if o < 74 then 60 else if o < 75 then 0 else if o < 76 then 0 else if o < 77 then 400 else if o < 78 then 401 else if o < 79 then 401 else if o < 80 then 0 else if o < 81 then 400 else if o < 82 then 12 else if o < 83 then 12 else if o < 84 then 12 else if o < 85 then 24 else if o < 86 then 0 else if o < 87 then 400 else if o < 88 then 12 else if o < 89 then 12 else if o < 90 then 12 else if o < 91 then 24 else if o < 92 then 7 else if o < 104 then 0 else if o < 164 then 0 else if o < 165 then 0 else if o < 166 then 8 else if o < 167 then 8 else if o < 168 then 8 else if o < 169 then 8 else if o < 170 then 8 else if o < 171 then 20 else if o < 172 then 20 else if o < 173 then 12 else if o < 174 then 12 else if o < 175 then 12 else if o < 176 then 12 else if o < 177 then 12 else if o < 178 then 12 else if o < 179 then 12 else if o < 180 then 12 else if o < 181 then 12 else if o < 182 then 12 else if o < 183 then 60 else if o < 243 then 9 else if o < 244 then 60 else if o < 245 then 400 else if o < 246 then 2 else if o < 248 then 420 else if o < 249 then 2 else if o < 251 then 13 else if o < 252 then 2 else if o < 254 then 13 else if o < 255 then 2 else if o < 257 then 13 else if o < 258 then 2 else if o < 259 then 2 else if o < 260 then 2 else if o < 261 then 420 else if o < 262 then 7 else if o < 263 then 7 else if o < 264 then 7 else 0
def zN (c : Nat) : Nat := match c with | 0 => 6 | 1 => 4 | 2 => 6 | 3 => 10 | 4 => 10 | 5 => 14 | 6 => 15 | 7 => 19 | 8 => 45 | _ => 0
def zRn (c : Nat) : String := match c with | 0 => RX0 | 1 => RX1 | 2 => RX2 | 3 => RX3 | 4 => RX4 | 5 => RX5 | 6 => RX6 | 7 => RX7 | _ => RX8
def zT (c : Nat) : u_T := match c with | 0 => TX0 | 1 => TX1 | 2 => TX2 | 3 => TX3 | 4 => TX4 | 5 => TX5 | 6 => TX6 | 7 => TX7 | _ => TX8
def zty (c : Nat) : Nat → FieldType := match c with | 0 => tyX0 | 1 => tyX1 | 2 => tyX2 | 3 => tyX3 | 4 => tyX4 | 5 => tyX5 | 6 => tyX6 | 7 => tyX7 | _ => tyX8
/-- the slots of the first n objects -/
def zsl (o : Nat) : Nat := if zk o < 20 then zN (zk o - 1) else zn o
def zSS : Nat → Nat
  | 0 => 0
  | n + 1 => zSS n + zsl (64 + n)
/-! ===== the words that keep, and those of the nest ===== -/
def zNest : Cond → Bool
  | .fieldLinkNest .. => true
  | .methodLinkNest .. => true
  | _ => false
def lw_g : List Cond := lw_tbl.filter goodWord
def lw_n : List Cond := lw_tbl.filter zNest
theorem lw_g_in : ∀ w ∈ lw_g, w ∈ lw_tbl := fun _ h => (List.mem_filter.mp h).1
theorem lw_n_in : ∀ w ∈ lw_n, w ∈ lw_tbl := fun _ h => (List.mem_filter.mp h).1
theorem lw_g_good : ∀ w ∈ lw_g, goodWord w = true := fun _ h => (List.mem_filter.mp h).2
theorem zin {w : Cond} (i : Nat) (h : tables_1[i]? = some w) (hg : goodWord w = true) : w ∈ lw_g := List.mem_filter.mpr ⟨List.mem_append_right _ (List.mem_of_getElem? h), hg⟩
theorem zinp {w : Cond} (i : Nat) (h : (k2_sels lw_privs)[i]? = some w) (hg : goodWord w = true) : w ∈ lw_g := List.mem_filter.mpr ⟨List.mem_append_left _ (List.mem_of_getElem? h), hg⟩
theorem zinn {w : Cond} (i : Nat) (h : tables_1[i]? = some w) (hg : zNest w = true) : w ∈ lw_n := List.mem_filter.mpr ⟨List.mem_append_right _ (List.mem_of_getElem? h), hg⟩
def zCl (c : Nat) : Prop := vwCl[c]? = some (zRn c, zT c, zN c) ∧ (∀ w ∈ u_ws (zRn c) (zT c) (zN c), w ∈ lw_g) ∧ (∀ k, k < zN c → parseFieldDescriptor (zT c k).2.2.1 = some (zty c k)) ∧ (∀ a, a < zN c → ∀ b, b < zN c → a ≠ b → (zT c a).2.1 ≠ (zT c b).2.1)
theorem zCl0 : zCl 0 := ⟨rfl, by decide +kernel, tyX0_ok, nmX0⟩
theorem zCl1 : zCl 1 := ⟨rfl, by decide +kernel, tyX1_ok, nmX1⟩
theorem zCl2 : zCl 2 := ⟨rfl, by decide +kernel, tyX2_ok, nmX2⟩
theorem zCl3 : zCl 3 := ⟨rfl, by decide +kernel, tyX3_ok, nmX3⟩
theorem zCl4 : zCl 4 := ⟨rfl, by decide +kernel, tyX4_ok, nmX4⟩
theorem zCl5 : zCl 5 := ⟨rfl, by decide +kernel, tyX5_ok, nmX5⟩
theorem zCl6 : zCl 6 := ⟨rfl, by decide +kernel, tyX6_ok, nmX6⟩
theorem zCl7 : zCl 7 := ⟨rfl, by decide +kernel, tyX7_ok, nmX7⟩
theorem zCl8 : zCl 8 := ⟨rfl, by decide +kernel, tyX8_ok, nmX8⟩
/-! ===== the texts that the class and the reference name ===== -/
def zSb : List (List Int32) := [[103, 114, 111, 119, 32, 115, 97, 121, 32, 105, 102, 32, 97, 110, 100, 32, 115, 116, 97, 114, 32, 102, 108, 105, 103, 104, 116, 32, 102, 108, 97, 114, 101, 32, 108, 97, 109, 112, 32, 98, 97, 108, 108, 111, 111, 110, 32, 98, 117, 114, 110, 105, 110, 103, 32, 110, 111, 110, 101, 32, 108, 105, 103, 104, 116, 115, 32, 104, 117, 108, 108, 32, 100, 97, 121, 115, 32, 112, 97, 112, 101, 114, 115, 32, 109, 105, 110, 117, 116, 101, 32, 119, 97, 121, 32, 115, 108, 111, 112, 101, 32], [43, 45, 42, 60, 61, 40, 41, 59], [115, 116, 97, 114], [102, 108, 105, 103, 104, 116], [102, 108, 97, 114, 101], [108, 97, 109, 112], [98, 97, 108, 108, 111, 111, 110], [98, 117, 114, 110, 105, 110, 103], [110, 111, 110, 101], [108, 105, 103, 104, 116, 115], [104, 117, 108, 108], [100, 97, 121, 115], [112, 97, 112, 101, 114, 115], [109, 105, 110, 117, 116, 101], [119, 97, 121], [115, 108, 111, 112, 101], [103, 114, 111, 119], [115, 97, 121], [105, 102], [97, 110, 100]]
def zSl : List Nat := [101, 8, 4, 6, 5, 4, 7, 7, 4, 6, 4, 4, 6, 6, 3, 5, 4, 3, 2, 3]
def zSo (i : Nat) : String × Nat × String := match i with | 0 => (RX2, 83, "grow say if and star flight flare lamp balloon burning none lights hull days papers minute way slope ") | 1 => (RX2, 71, "+-*<=();") | 2 => (RX8, 110, "star") | 3 => (RX8, 112, "flight") | 4 => (RX8, 114, "flare") | 5 => (RX8, 116, "lamp") | 6 => (RX8, 118, "balloon") | 7 => (RX8, 120, "burning") | 8 => (RX8, 122, "none") | 9 => (RX8, 128, "lights") | 10 => (RX8, 130, "hull") | 11 => (RX8, 132, "days") | 12 => (RX8, 134, "papers") | 13 => (RX8, 136, "minute") | 14 => (RX8, 138, "way") | 15 => (RX8, 140, "slope") | 16 => (RX8, 381, "grow") | 17 => (RX8, 389, "say") | 18 => (RX8, 391, "if") | 19 => (RX8, 379, "and") | _ => ("", 0, "")
