section
-- ===== PART A: goes FIRST, ahead of the names: the tables' words, and 'selects' of the private methods out of them =====
/-- a private method of a class that the tables say can be made, by its rows of tables_1 -/
def lw_okq (q : MethodName × Nat) : Prop := (q.1.cls ≠ "java/lang/invoke/MethodHandle" ∧ q.1.cls ≠ "java/lang/invoke/VarHandle") ∧ Cond.instantiable q.1.cls q.2 ∈ tables_1 ∧ Cond.privateMethod q.1 ∈ tables_1 ∧ Cond.instanceMethod q.1 ∈ tables_1
theorem lw_p0 : lw_okq (⟨"MarshLights", "newThing", "(IIII)LMarshLights$Thing;"⟩, 19) := ⟨⟨by decide +kernel, by decide +kernel⟩, List.mem_of_getElem? (i := 19) (by decide +kernel), List.mem_of_getElem? (i := 404) (by decide +kernel), List.mem_of_getElem? (i := 405) (by decide +kernel)⟩
theorem lw_p1 : lw_okq (⟨"MarshLights", "isThing", "(I)Z"⟩, 19) := ⟨⟨by decide +kernel, by decide +kernel⟩, List.mem_of_getElem? (i := 19) (by decide +kernel), List.mem_of_getElem? (i := 447) (by decide +kernel), List.mem_of_getElem? (i := 448) (by decide +kernel)⟩
theorem lw_p2 : lw_okq (⟨"MarshLights", "isSeer", "(I)Z"⟩, 19) := ⟨⟨by decide +kernel, by decide +kernel⟩, List.mem_of_getElem? (i := 19) (by decide +kernel), List.mem_of_getElem? (i := 479) (by decide +kernel), List.mem_of_getElem? (i := 480) (by decide +kernel)⟩
theorem lw_p3 : lw_okq (⟨"MarshLights", "isTelling", "(I)Z"⟩, 19) := ⟨⟨by decide +kernel, by decide +kernel⟩, List.mem_of_getElem? (i := 19) (by decide +kernel), List.mem_of_getElem? (i := 552) (by decide +kernel), List.mem_of_getElem? (i := 553) (by decide +kernel)⟩
theorem lw_p4 : lw_okq (⟨"MarshLights", "fittingOf", "(LMarshLights$Telling;)I"⟩, 19) := ⟨⟨by decide +kernel, by decide +kernel⟩, List.mem_of_getElem? (i := 19) (by decide +kernel), List.mem_of_getElem? (i := 564) (by decide +kernel), List.mem_of_getElem? (i := 565) (by decide +kernel)⟩
theorem lw_p5 : lw_okq (⟨"MarshLights", "isLike", "(LMarshLights$Telling;LMarshLights$Thing;)Z"⟩, 19) := ⟨⟨by decide +kernel, by decide +kernel⟩, List.mem_of_getElem? (i := 19) (by decide +kernel), List.mem_of_getElem? (i := 568) (by decide +kernel), List.mem_of_getElem? (i := 569) (by decide +kernel)⟩
theorem lw_p6 : lw_okq (⟨"MarshLights", "isNear", "(II)Z"⟩, 19) := ⟨⟨by decide +kernel, by decide +kernel⟩, List.mem_of_getElem? (i := 19) (by decide +kernel), List.mem_of_getElem? (i := 572) (by decide +kernel), List.mem_of_getElem? (i := 573) (by decide +kernel)⟩
theorem lw_p7 : lw_okq (⟨"MarshLights", "gatherNeeds", "()I"⟩, 19) := ⟨⟨by decide +kernel, by decide +kernel⟩, List.mem_of_getElem? (i := 19) (by decide +kernel), List.mem_of_getElem? (i := 593) (by decide +kernel), List.mem_of_getElem? (i := 594) (by decide +kernel)⟩
theorem lw_p8 : lw_okq (⟨"MarshLights", "meetsAll", "(II)Z"⟩, 19) := ⟨⟨by decide +kernel, by decide +kernel⟩, List.mem_of_getElem? (i := 19) (by decide +kernel), List.mem_of_getElem? (i := 597) (by decide +kernel), List.mem_of_getElem? (i := 598) (by decide +kernel)⟩
theorem lw_p9 : lw_okq (⟨"MarshLights", "pointsAt", "(LMarshLights$Telling;I)Z"⟩, 19) := ⟨⟨by decide +kernel, by decide +kernel⟩, List.mem_of_getElem? (i := 19) (by decide +kernel), List.mem_of_getElem? (i := 613) (by decide +kernel), List.mem_of_getElem? (i := 614) (by decide +kernel)⟩
theorem lw_p10 : lw_okq (⟨"MarshLights", "shareHeight", "(LMarshLights$Telling;LMarshLights$Telling;I)Z"⟩, 19) := ⟨⟨by decide +kernel, by decide +kernel⟩, List.mem_of_getElem? (i := 19) (by decide +kernel), List.mem_of_getElem? (i := 618) (by decide +kernel), List.mem_of_getElem? (i := 619) (by decide +kernel)⟩
theorem lw_p11 : lw_okq (⟨"MarshLights", "leastHeight", "(LMarshLights$Telling;I)I"⟩, 19) := ⟨⟨by decide +kernel, by decide +kernel⟩, List.mem_of_getElem? (i := 19) (by decide +kernel), List.mem_of_getElem? (i := 622) (by decide +kernel), List.mem_of_getElem? (i := 623) (by decide +kernel)⟩
theorem lw_p12 : lw_okq (⟨"MarshLights", "eyeAt", "(I)I"⟩, 19) := ⟨⟨by decide +kernel, by decide +kernel⟩, List.mem_of_getElem? (i := 19) (by decide +kernel), List.mem_of_getElem? (i := 626) (by decide +kernel), List.mem_of_getElem? (i := 627) (by decide +kernel)⟩
theorem lw_p13 : lw_okq (⟨"MarshLights", "greatestHeight", "(LMarshLights$Telling;I)I"⟩, 19) := ⟨⟨by decide +kernel, by decide +kernel⟩, List.mem_of_getElem? (i := 19) (by decide +kernel), List.mem_of_getElem? (i := 636) (by decide +kernel), List.mem_of_getElem? (i := 637) (by decide +kernel)⟩
theorem lw_p14 : lw_okq (⟨"MarshLights", "leastShown", "(II)I"⟩, 19) := ⟨⟨by decide +kernel, by decide +kernel⟩, List.mem_of_getElem? (i := 19) (by decide +kernel), List.mem_of_getElem? (i := 664) (by decide +kernel), List.mem_of_getElem? (i := 665) (by decide +kernel)⟩
theorem lw_p15 : lw_okq (⟨"MarshLights", "weighMinutes", "(LMarshLights$Telling;)V"⟩, 19) := ⟨⟨by decide +kernel, by decide +kernel⟩, List.mem_of_getElem? (i := 19) (by decide +kernel), List.mem_of_getElem? (i := 680) (by decide +kernel), List.mem_of_getElem? (i := 681) (by decide +kernel)⟩
def lw_privs_1 : List (MethodName × Nat) := [(⟨"MarshLights", "newThing", "(IIII)LMarshLights$Thing;"⟩, 19), (⟨"MarshLights", "isThing", "(I)Z"⟩, 19), (⟨"MarshLights", "isSeer", "(I)Z"⟩, 19), (⟨"MarshLights", "isTelling", "(I)Z"⟩, 19), (⟨"MarshLights", "fittingOf", "(LMarshLights$Telling;)I"⟩, 19), (⟨"MarshLights", "isLike", "(LMarshLights$Telling;LMarshLights$Thing;)Z"⟩, 19), (⟨"MarshLights", "isNear", "(II)Z"⟩, 19), (⟨"MarshLights", "gatherNeeds", "()I"⟩, 19), (⟨"MarshLights", "meetsAll", "(II)Z"⟩, 19), (⟨"MarshLights", "pointsAt", "(LMarshLights$Telling;I)Z"⟩, 19), (⟨"MarshLights", "shareHeight", "(LMarshLights$Telling;LMarshLights$Telling;I)Z"⟩, 19), (⟨"MarshLights", "leastHeight", "(LMarshLights$Telling;I)I"⟩, 19), (⟨"MarshLights", "eyeAt", "(I)I"⟩, 19), (⟨"MarshLights", "greatestHeight", "(LMarshLights$Telling;I)I"⟩, 19), (⟨"MarshLights", "leastShown", "(II)I"⟩, 19), (⟨"MarshLights", "weighMinutes", "(LMarshLights$Telling;)V"⟩, 19)]
theorem lw_r1 : ∀ q ∈ lw_privs_1, lw_okq q := List.forall_mem_cons.mpr ⟨lw_p0, List.forall_mem_cons.mpr ⟨lw_p1, List.forall_mem_cons.mpr ⟨lw_p2, List.forall_mem_cons.mpr ⟨lw_p3, List.forall_mem_cons.mpr ⟨lw_p4, List.forall_mem_cons.mpr ⟨lw_p5, List.forall_mem_cons.mpr ⟨lw_p6, List.forall_mem_cons.mpr ⟨lw_p7, List.forall_mem_cons.mpr ⟨lw_p8, List.forall_mem_cons.mpr ⟨lw_p9, List.forall_mem_cons.mpr ⟨lw_p10, List.forall_mem_cons.mpr ⟨lw_p11, List.forall_mem_cons.mpr ⟨lw_p12, List.forall_mem_cons.mpr ⟨lw_p13, List.forall_mem_cons.mpr ⟨lw_p14, List.forall_mem_cons.mpr ⟨lw_p15, fun _ h => absurd h List.not_mem_nil⟩⟩⟩⟩⟩⟩⟩⟩⟩⟩⟩⟩⟩⟩⟩⟩
theorem lw_p16 : lw_okq (⟨"MarshLights", "couplesParted", "(III)I"⟩, 19) := ⟨⟨by decide +kernel, by decide +kernel⟩, List.mem_of_getElem? (i := 19) (by decide +kernel), List.mem_of_getElem? (i := 684) (by decide +kernel), List.mem_of_getElem? (i := 685) (by decide +kernel)⟩
theorem lw_p17 : lw_okq (⟨"MarshLights$Reader", "split", "()V"⟩, 6) := ⟨⟨by decide +kernel, by decide +kernel⟩, List.mem_of_getElem? (i := 120) (by decide +kernel), List.mem_of_getElem? (i := 708) (by decide +kernel), List.mem_of_getElem? (i := 709) (by decide +kernel)⟩
theorem lw_p18 : lw_okq (⟨"MarshLights$Reader", "tokenEnd", "(I)I"⟩, 6) := ⟨⟨by decide +kernel, by decide +kernel⟩, List.mem_of_getElem? (i := 120) (by decide +kernel), List.mem_of_getElem? (i := 712) (by decide +kernel), List.mem_of_getElem? (i := 713) (by decide +kernel)⟩
theorem lw_p19 : lw_okq (⟨"MarshLights$Reader", "tokenOf", "(II)I"⟩, 6) := ⟨⟨by decide +kernel, by decide +kernel⟩, List.mem_of_getElem? (i := 120) (by decide +kernel), List.mem_of_getElem? (i := 722) (by decide +kernel), List.mem_of_getElem? (i := 723) (by decide +kernel)⟩
theorem lw_p20 : lw_okq (⟨"MarshLights$Reader", "wordOf", "(II)I"⟩, 6) := ⟨⟨by decide +kernel, by decide +kernel⟩, List.mem_of_getElem? (i := 120) (by decide +kernel), List.mem_of_getElem? (i := 726) (by decide +kernel), List.mem_of_getElem? (i := 727) (by decide +kernel)⟩
theorem lw_p21 : lw_okq (⟨"MarshLights$Reader", "numberOf", "(II)I"⟩, 6) := ⟨⟨by decide +kernel, by decide +kernel⟩, List.mem_of_getElem? (i := 120) (by decide +kernel), List.mem_of_getElem? (i := 779) (by decide +kernel), List.mem_of_getElem? (i := 780) (by decide +kernel)⟩
theorem lw_p22 : lw_okq (⟨"MarshLights$Reader", "token", "()I"⟩, 6) := ⟨⟨by decide +kernel, by decide +kernel⟩, List.mem_of_getElem? (i := 120) (by decide +kernel), List.mem_of_getElem? (i := 844) (by decide +kernel), List.mem_of_getElem? (i := 845) (by decide +kernel)⟩
theorem lw_p23 : lw_okq (⟨"MarshLights$Reader", "readLine", "(LMarshLights$Rules;)Z"⟩, 6) := ⟨⟨by decide +kernel, by decide +kernel⟩, List.mem_of_getElem? (i := 120) (by decide +kernel), List.mem_of_getElem? (i := 848) (by decide +kernel), List.mem_of_getElem? (i := 849) (by decide +kernel)⟩
theorem lw_p24 : lw_okq (⟨"MarshLights$Reader", "readSum", "(LMarshLights$Rules;I)Z"⟩, 6) := ⟨⟨by decide +kernel, by decide +kernel⟩, List.mem_of_getElem? (i := 120) (by decide +kernel), List.mem_of_getElem? (i := 852) (by decide +kernel), List.mem_of_getElem? (i := 853) (by decide +kernel)⟩
theorem lw_p25 : lw_okq (⟨"MarshLights$Reader", "readProduct", "(LMarshLights$Rules;I)Z"⟩, 6) := ⟨⟨by decide +kernel, by decide +kernel⟩, List.mem_of_getElem? (i := 120) (by decide +kernel), List.mem_of_getElem? (i := 856) (by decide +kernel), List.mem_of_getElem? (i := 857) (by decide +kernel)⟩
theorem lw_p26 : lw_okq (⟨"MarshLights$Reader", "readFactor", "(LMarshLights$Rules;I)Z"⟩, 6) := ⟨⟨by decide +kernel, by decide +kernel⟩, List.mem_of_getElem? (i := 120) (by decide +kernel), List.mem_of_getElem? (i := 860) (by decide +kernel), List.mem_of_getElem? (i := 861) (by decide +kernel)⟩
theorem lw_p27 : lw_okq (⟨"MarshLights$Reader", "take", "(I)Z"⟩, 6) := ⟨⟨by decide +kernel, by decide +kernel⟩, List.mem_of_getElem? (i := 120) (by decide +kernel), List.mem_of_getElem? (i := 868) (by decide +kernel), List.mem_of_getElem? (i := 869) (by decide +kernel)⟩
theorem lw_p28 : lw_okq (⟨"MarshLights$Reader", "readCondition", "(LMarshLights$Rules;)Z"⟩, 6) := ⟨⟨by decide +kernel, by decide +kernel⟩, List.mem_of_getElem? (i := 120) (by decide +kernel), List.mem_of_getElem? (i := 876) (by decide +kernel), List.mem_of_getElem? (i := 877) (by decide +kernel)⟩
theorem lw_p29 : lw_okq (⟨"MarshLights$Reader", "faultPlace", "()I"⟩, 6) := ⟨⟨by decide +kernel, by decide +kernel⟩, List.mem_of_getElem? (i := 120) (by decide +kernel), List.mem_of_getElem? (i := 884) (by decide +kernel), List.mem_of_getElem? (i := 885) (by decide +kernel)⟩
theorem lw_p30 : lw_okq (⟨"MarshLights", "setValues", "(IIII)V"⟩, 19) := ⟨⟨by decide +kernel, by decide +kernel⟩, List.mem_of_getElem? (i := 19) (by decide +kernel), List.mem_of_getElem? (i := 900) (by decide +kernel), List.mem_of_getElem? (i := 901) (by decide +kernel)⟩
theorem lw_p31 : lw_okq (⟨"MarshLights", "isHasty", "(LMarshLights$Telling;I)Z"⟩, 19) := ⟨⟨by decide +kernel, by decide +kernel⟩, List.mem_of_getElem? (i := 19) (by decide +kernel), List.mem_of_getElem? (i := 926) (by decide +kernel), List.mem_of_getElem? (i := 927) (by decide +kernel)⟩
def lw_privs_2 : List (MethodName × Nat) := [(⟨"MarshLights", "couplesParted", "(III)I"⟩, 19), (⟨"MarshLights$Reader", "split", "()V"⟩, 6), (⟨"MarshLights$Reader", "tokenEnd", "(I)I"⟩, 6), (⟨"MarshLights$Reader", "tokenOf", "(II)I"⟩, 6), (⟨"MarshLights$Reader", "wordOf", "(II)I"⟩, 6), (⟨"MarshLights$Reader", "numberOf", "(II)I"⟩, 6), (⟨"MarshLights$Reader", "token", "()I"⟩, 6), (⟨"MarshLights$Reader", "readLine", "(LMarshLights$Rules;)Z"⟩, 6), (⟨"MarshLights$Reader", "readSum", "(LMarshLights$Rules;I)Z"⟩, 6), (⟨"MarshLights$Reader", "readProduct", "(LMarshLights$Rules;I)Z"⟩, 6), (⟨"MarshLights$Reader", "readFactor", "(LMarshLights$Rules;I)Z"⟩, 6), (⟨"MarshLights$Reader", "take", "(I)Z"⟩, 6), (⟨"MarshLights$Reader", "readCondition", "(LMarshLights$Rules;)Z"⟩, 6), (⟨"MarshLights$Reader", "faultPlace", "()I"⟩, 6), (⟨"MarshLights", "setValues", "(IIII)V"⟩, 19), (⟨"MarshLights", "isHasty", "(LMarshLights$Telling;I)Z"⟩, 19)]
theorem lw_r2 : ∀ q ∈ lw_privs_2, lw_okq q := List.forall_mem_cons.mpr ⟨lw_p16, List.forall_mem_cons.mpr ⟨lw_p17, List.forall_mem_cons.mpr ⟨lw_p18, List.forall_mem_cons.mpr ⟨lw_p19, List.forall_mem_cons.mpr ⟨lw_p20, List.forall_mem_cons.mpr ⟨lw_p21, List.forall_mem_cons.mpr ⟨lw_p22, List.forall_mem_cons.mpr ⟨lw_p23, List.forall_mem_cons.mpr ⟨lw_p24, List.forall_mem_cons.mpr ⟨lw_p25, List.forall_mem_cons.mpr ⟨lw_p26, List.forall_mem_cons.mpr ⟨lw_p27, List.forall_mem_cons.mpr ⟨lw_p28, List.forall_mem_cons.mpr ⟨lw_p29, List.forall_mem_cons.mpr ⟨lw_p30, List.forall_mem_cons.mpr ⟨lw_p31, fun _ h => absurd h List.not_mem_nil⟩⟩⟩⟩⟩⟩⟩⟩⟩⟩⟩⟩⟩⟩⟩⟩
theorem lw_p32 : lw_okq (⟨"MarshLights", "growth", "(IIII)I"⟩, 19) := ⟨⟨by decide +kernel, by decide +kernel⟩, List.mem_of_getElem? (i := 19) (by decide +kernel), List.mem_of_getElem? (i := 934) (by decide +kernel), List.mem_of_getElem? (i := 935) (by decide +kernel)⟩
theorem lw_p33 : lw_okq (⟨"MarshLights", "drawTelling", "()Z"⟩, 19) := ⟨⟨by decide +kernel, by decide +kernel⟩, List.mem_of_getElem? (i := 19) (by decide +kernel), List.mem_of_getElem? (i := 948) (by decide +kernel), List.mem_of_getElem? (i := 949) (by decide +kernel)⟩
theorem lw_p34 : lw_okq (⟨"MarshLights", "lotBelow", "(I)I"⟩, 19) := ⟨⟨by decide +kernel, by decide +kernel⟩, List.mem_of_getElem? (i := 19) (by decide +kernel), List.mem_of_getElem? (i := 952) (by decide +kernel), List.mem_of_getElem? (i := 953) (by decide +kernel)⟩
theorem lw_p35 : lw_okq (⟨"MarshLights", "sightedOff", "(II)I"⟩, 19) := ⟨⟨by decide +kernel, by decide +kernel⟩, List.mem_of_getElem? (i := 19) (by decide +kernel), List.mem_of_getElem? (i := 958) (by decide +kernel), List.mem_of_getElem? (i := 959) (by decide +kernel)⟩
theorem lw_p36 : lw_okq (⟨"MarshLightsModel", "groundAt", "(II)I"⟩, 45) := ⟨⟨by decide +kernel, by decide +kernel⟩, List.mem_of_getElem? (i := 968) (by decide +kernel), List.mem_of_getElem? (i := 1147) (by decide +kernel), List.mem_of_getElem? (i := 1148) (by decide +kernel)⟩
theorem lw_p37 : lw_okq (⟨"MarshLightsModel", "hillAt", "(II)I"⟩, 45) := ⟨⟨by decide +kernel, by decide +kernel⟩, List.mem_of_getElem? (i := 968) (by decide +kernel), List.mem_of_getElem? (i := 1151) (by decide +kernel), List.mem_of_getElem? (i := 1152) (by decide +kernel)⟩
theorem lw_p38 : lw_okq (⟨"MarshLightsModel", "adds", "(IIII)I"⟩, 45) := ⟨⟨by decide +kernel, by decide +kernel⟩, List.mem_of_getElem? (i := 968) (by decide +kernel), List.mem_of_getElem? (i := 1167) (by decide +kernel), List.mem_of_getElem? (i := 1168) (by decide +kernel)⟩
theorem lw_p39 : lw_okq (⟨"MarshLightsModel", "isThing", "(I)Z"⟩, 45) := ⟨⟨by decide +kernel, by decide +kernel⟩, List.mem_of_getElem? (i := 968) (by decide +kernel), List.mem_of_getElem? (i := 1197) (by decide +kernel), List.mem_of_getElem? (i := 1198) (by decide +kernel)⟩
theorem lw_p40 : lw_okq (⟨"MarshLightsModel", "isAt", "(II)Z"⟩, 45) := ⟨⟨by decide +kernel, by decide +kernel⟩, List.mem_of_getElem? (i := 968) (by decide +kernel), List.mem_of_getElem? (i := 1203) (by decide +kernel), List.mem_of_getElem? (i := 1204) (by decide +kernel)⟩
theorem lw_p41 : lw_okq (⟨"MarshLightsModel", "isSeer", "(I)Z"⟩, 45) := ⟨⟨by decide +kernel, by decide +kernel⟩, List.mem_of_getElem? (i := 968) (by decide +kernel), List.mem_of_getElem? (i := 1212) (by decide +kernel), List.mem_of_getElem? (i := 1213) (by decide +kernel)⟩
theorem lw_p42 : lw_okq (⟨"MarshLightsModel", "isShown", "(III)Z"⟩, 45) := ⟨⟨by decide +kernel, by decide +kernel⟩, List.mem_of_getElem? (i := 968) (by decide +kernel), List.mem_of_getElem? (i := 1216) (by decide +kernel), List.mem_of_getElem? (i := 1217) (by decide +kernel)⟩
theorem lw_p43 : lw_okq (⟨"MarshLightsModel", "isLit", "(II)Z"⟩, 45) := ⟨⟨by decide +kernel, by decide +kernel⟩, List.mem_of_getElem? (i := 968) (by decide +kernel), List.mem_of_getElem? (i := 1220) (by decide +kernel), List.mem_of_getElem? (i := 1221) (by decide +kernel)⟩
theorem lw_p44 : lw_okq (⟨"MarshLightsModel", "hider", "(IIII)I"⟩, 45) := ⟨⟨by decide +kernel, by decide +kernel⟩, List.mem_of_getElem? (i := 968) (by decide +kernel), List.mem_of_getElem? (i := 1224) (by decide +kernel), List.mem_of_getElem? (i := 1225) (by decide +kernel)⟩
theorem lw_p45 : lw_okq (⟨"MarshLightsModel", "eye", "(I)I"⟩, 45) := ⟨⟨by decide +kernel, by decide +kernel⟩, List.mem_of_getElem? (i := 968) (by decide +kernel), List.mem_of_getElem? (i := 1228) (by decide +kernel), List.mem_of_getElem? (i := 1229) (by decide +kernel)⟩
theorem lw_p46 : lw_okq (⟨"MarshLightsModel", "way", "(III)I"⟩, 45) := ⟨⟨by decide +kernel, by decide +kernel⟩, List.mem_of_getElem? (i := 968) (by decide +kernel), List.mem_of_getElem? (i := 1232) (by decide +kernel), List.mem_of_getElem? (i := 1233) (by decide +kernel)⟩
theorem lw_p47 : lw_okq (⟨"MarshLightsModel", "slope", "(III)I"⟩, 45) := ⟨⟨by decide +kernel, by decide +kernel⟩, List.mem_of_getElem? (i := 968) (by decide +kernel), List.mem_of_getElem? (i := 1241) (by decide +kernel), List.mem_of_getElem? (i := 1242) (by decide +kernel)⟩
def lw_privs_3 : List (MethodName × Nat) := [(⟨"MarshLights", "growth", "(IIII)I"⟩, 19), (⟨"MarshLights", "drawTelling", "()Z"⟩, 19), (⟨"MarshLights", "lotBelow", "(I)I"⟩, 19), (⟨"MarshLights", "sightedOff", "(II)I"⟩, 19), (⟨"MarshLightsModel", "groundAt", "(II)I"⟩, 45), (⟨"MarshLightsModel", "hillAt", "(II)I"⟩, 45), (⟨"MarshLightsModel", "adds", "(IIII)I"⟩, 45), (⟨"MarshLightsModel", "isThing", "(I)Z"⟩, 45), (⟨"MarshLightsModel", "isAt", "(II)Z"⟩, 45), (⟨"MarshLightsModel", "isSeer", "(I)Z"⟩, 45), (⟨"MarshLightsModel", "isShown", "(III)Z"⟩, 45), (⟨"MarshLightsModel", "isLit", "(II)Z"⟩, 45), (⟨"MarshLightsModel", "hider", "(IIII)I"⟩, 45), (⟨"MarshLightsModel", "eye", "(I)I"⟩, 45), (⟨"MarshLightsModel", "way", "(III)I"⟩, 45), (⟨"MarshLightsModel", "slope", "(III)I"⟩, 45)]
theorem lw_r3 : ∀ q ∈ lw_privs_3, lw_okq q := List.forall_mem_cons.mpr ⟨lw_p32, List.forall_mem_cons.mpr ⟨lw_p33, List.forall_mem_cons.mpr ⟨lw_p34, List.forall_mem_cons.mpr ⟨lw_p35, List.forall_mem_cons.mpr ⟨lw_p36, List.forall_mem_cons.mpr ⟨lw_p37, List.forall_mem_cons.mpr ⟨lw_p38, List.forall_mem_cons.mpr ⟨lw_p39, List.forall_mem_cons.mpr ⟨lw_p40, List.forall_mem_cons.mpr ⟨lw_p41, List.forall_mem_cons.mpr ⟨lw_p42, List.forall_mem_cons.mpr ⟨lw_p43, List.forall_mem_cons.mpr ⟨lw_p44, List.forall_mem_cons.mpr ⟨lw_p45, List.forall_mem_cons.mpr ⟨lw_p46, List.forall_mem_cons.mpr ⟨lw_p47, fun _ h => absurd h List.not_mem_nil⟩⟩⟩⟩⟩⟩⟩⟩⟩⟩⟩⟩⟩⟩⟩⟩
theorem lw_p48 : lw_okq (⟨"MarshLightsModel", "isTelling", "(I)Z"⟩, 45) := ⟨⟨by decide +kernel, by decide +kernel⟩, List.mem_of_getElem? (i := 968) (by decide +kernel), List.mem_of_getElem? (i := 1271) (by decide +kernel), List.mem_of_getElem? (i := 1272) (by decide +kernel)⟩
theorem lw_p49 : lw_okq (⟨"MarshLightsModel", "fitting", "(I)I"⟩, 45) := ⟨⟨by decide +kernel, by decide +kernel⟩, List.mem_of_getElem? (i := 968) (by decide +kernel), List.mem_of_getElem? (i := 1280) (by decide +kernel), List.mem_of_getElem? (i := 1281) (by decide +kernel)⟩
theorem lw_p50 : lw_okq (⟨"MarshLightsModel", "isNear", "(I[II)Z"⟩, 45) := ⟨⟨by decide +kernel, by decide +kernel⟩, List.mem_of_getElem? (i := 968) (by decide +kernel), List.mem_of_getElem? (i := 1284) (by decide +kernel), List.mem_of_getElem? (i := 1285) (by decide +kernel)⟩
theorem lw_p51 : lw_okq (⟨"MarshLightsModel", "isCrossed", "([III)Z"⟩, 45) := ⟨⟨by decide +kernel, by decide +kernel⟩, List.mem_of_getElem? (i := 968) (by decide +kernel), List.mem_of_getElem? (i := 1309) (by decide +kernel), List.mem_of_getElem? (i := 1310) (by decide +kernel)⟩
theorem lw_p52 : lw_okq (⟨"MarshLightsModel", "hasHeight", "([I[III)Z"⟩, 45) := ⟨⟨by decide +kernel, by decide +kernel⟩, List.mem_of_getElem? (i := 968) (by decide +kernel), List.mem_of_getElem? (i := 1313) (by decide +kernel), List.mem_of_getElem? (i := 1314) (by decide +kernel)⟩
theorem lw_p53 : lw_okq (⟨"MarshLightsModel", "isSlope", "(IIIII)Z"⟩, 45) := ⟨⟨by decide +kernel, by decide +kernel⟩, List.mem_of_getElem? (i := 968) (by decide +kernel), List.mem_of_getElem? (i := 1317) (by decide +kernel), List.mem_of_getElem? (i := 1318) (by decide +kernel)⟩
theorem lw_p54 : lw_okq (⟨"MarshLightsModel", "isUp", "(IIII)Z"⟩, 45) := ⟨⟨by decide +kernel, by decide +kernel⟩, List.mem_of_getElem? (i := 968) (by decide +kernel), List.mem_of_getElem? (i := 1329) (by decide +kernel), List.mem_of_getElem? (i := 1330) (by decide +kernel)⟩
theorem lw_p55 : lw_okq (⟨"MarshLightsModel", "partedAt", "(III)I"⟩, 45) := ⟨⟨by decide +kernel, by decide +kernel⟩, List.mem_of_getElem? (i := 968) (by decide +kernel), List.mem_of_getElem? (i := 1347) (by decide +kernel), List.mem_of_getElem? (i := 1348) (by decide +kernel)⟩
theorem lw_p56 : lw_okq (⟨"MarshLightsModel", "feeds", "(I)V"⟩, 45) := ⟨⟨by decide +kernel, by decide +kernel⟩, List.mem_of_getElem? (i := 968) (by decide +kernel), List.mem_of_getElem? (i := 1355) (by decide +kernel), List.mem_of_getElem? (i := 1356) (by decide +kernel)⟩
theorem lw_p57 : lw_okq (⟨"MarshLightsModel", "reads", "()V"⟩, 45) := ⟨⟨by decide +kernel, by decide +kernel⟩, List.mem_of_getElem? (i := 968) (by decide +kernel), List.mem_of_getElem? (i := 1367) (by decide +kernel), List.mem_of_getElem? (i := 1368) (by decide +kernel)⟩
theorem lw_p58 : lw_okq (⟨"MarshLightsModel", "next", "()V"⟩, 45) := ⟨⟨by decide +kernel, by decide +kernel⟩, List.mem_of_getElem? (i := 968) (by decide +kernel), List.mem_of_getElem? (i := 1371) (by decide +kernel), List.mem_of_getElem? (i := 1372) (by decide +kernel)⟩
theorem lw_p59 : lw_okq (⟨"MarshLightsModel", "between", "(III)Z"⟩, 45) := ⟨⟨by decide +kernel, by decide +kernel⟩, List.mem_of_getElem? (i := 968) (by decide +kernel), List.mem_of_getElem? (i := 1375) (by decide +kernel), List.mem_of_getElem? (i := 1376) (by decide +kernel)⟩
theorem lw_p60 : lw_okq (⟨"MarshLightsModel", "line", "()Z"⟩, 45) := ⟨⟨by decide +kernel, by decide +kernel⟩, List.mem_of_getElem? (i := 968) (by decide +kernel), List.mem_of_getElem? (i := 1379) (by decide +kernel), List.mem_of_getElem? (i := 1380) (by decide +kernel)⟩
theorem lw_p61 : lw_okq (⟨"MarshLightsModel", "isWord", "(Ljava/lang/String;)Z"⟩, 45) := ⟨⟨by decide +kernel, by decide +kernel⟩, List.mem_of_getElem? (i := 968) (by decide +kernel), List.mem_of_getElem? (i := 1384) (by decide +kernel), List.mem_of_getElem? (i := 1385) (by decide +kernel)⟩
theorem lw_p62 : lw_okq (⟨"MarshLightsModel", "passes", "(Z)Z"⟩, 45) := ⟨⟨by decide +kernel, by decide +kernel⟩, List.mem_of_getElem? (i := 968) (by decide +kernel), List.mem_of_getElem? (i := 1390) (by decide +kernel), List.mem_of_getElem? (i := 1391) (by decide +kernel)⟩
theorem lw_p63 : lw_okq (⟨"MarshLightsModel", "begins", "(I)V"⟩, 45) := ⟨⟨by decide +kernel, by decide +kernel⟩, List.mem_of_getElem? (i := 968) (by decide +kernel), List.mem_of_getElem? (i := 1394) (by decide +kernel), List.mem_of_getElem? (i := 1395) (by decide +kernel)⟩
def lw_privs_4 : List (MethodName × Nat) := [(⟨"MarshLightsModel", "isTelling", "(I)Z"⟩, 45), (⟨"MarshLightsModel", "fitting", "(I)I"⟩, 45), (⟨"MarshLightsModel", "isNear", "(I[II)Z"⟩, 45), (⟨"MarshLightsModel", "isCrossed", "([III)Z"⟩, 45), (⟨"MarshLightsModel", "hasHeight", "([I[III)Z"⟩, 45), (⟨"MarshLightsModel", "isSlope", "(IIIII)Z"⟩, 45), (⟨"MarshLightsModel", "isUp", "(IIII)Z"⟩, 45), (⟨"MarshLightsModel", "partedAt", "(III)I"⟩, 45), (⟨"MarshLightsModel", "feeds", "(I)V"⟩, 45), (⟨"MarshLightsModel", "reads", "()V"⟩, 45), (⟨"MarshLightsModel", "next", "()V"⟩, 45), (⟨"MarshLightsModel", "between", "(III)Z"⟩, 45), (⟨"MarshLightsModel", "line", "()Z"⟩, 45), (⟨"MarshLightsModel", "isWord", "(Ljava/lang/String;)Z"⟩, 45), (⟨"MarshLightsModel", "passes", "(Z)Z"⟩, 45), (⟨"MarshLightsModel", "begins", "(I)V"⟩, 45)]
theorem lw_r4 : ∀ q ∈ lw_privs_4, lw_okq q := List.forall_mem_cons.mpr ⟨lw_p48, List.forall_mem_cons.mpr ⟨lw_p49, List.forall_mem_cons.mpr ⟨lw_p50, List.forall_mem_cons.mpr ⟨lw_p51, List.forall_mem_cons.mpr ⟨lw_p52, List.forall_mem_cons.mpr ⟨lw_p53, List.forall_mem_cons.mpr ⟨lw_p54, List.forall_mem_cons.mpr ⟨lw_p55, List.forall_mem_cons.mpr ⟨lw_p56, List.forall_mem_cons.mpr ⟨lw_p57, List.forall_mem_cons.mpr ⟨lw_p58, List.forall_mem_cons.mpr ⟨lw_p59, List.forall_mem_cons.mpr ⟨lw_p60, List.forall_mem_cons.mpr ⟨lw_p61, List.forall_mem_cons.mpr ⟨lw_p62, List.forall_mem_cons.mpr ⟨lw_p63, fun _ h => absurd h List.not_mem_nil⟩⟩⟩⟩⟩⟩⟩⟩⟩⟩⟩⟩⟩⟩⟩⟩
theorem lw_p64 : lw_okq (⟨"MarshLightsModel", "sum", "(I)Z"⟩, 45) := ⟨⟨by decide +kernel, by decide +kernel⟩, List.mem_of_getElem? (i := 968) (by decide +kernel), List.mem_of_getElem? (i := 1398) (by decide +kernel), List.mem_of_getElem? (i := 1399) (by decide +kernel)⟩
theorem lw_p65 : lw_okq (⟨"MarshLightsModel", "product", "(I)Z"⟩, 45) := ⟨⟨by decide +kernel, by decide +kernel⟩, List.mem_of_getElem? (i := 968) (by decide +kernel), List.mem_of_getElem? (i := 1402) (by decide +kernel), List.mem_of_getElem? (i := 1403) (by decide +kernel)⟩
theorem lw_p66 : lw_okq (⟨"MarshLightsModel", "factor", "(I)Z"⟩, 45) := ⟨⟨by decide +kernel, by decide +kernel⟩, List.mem_of_getElem? (i := 968) (by decide +kernel), List.mem_of_getElem? (i := 1406) (by decide +kernel), List.mem_of_getElem? (i := 1407) (by decide +kernel)⟩
theorem lw_p67 : lw_okq (⟨"MarshLightsModel", "isSign", "(I)Z"⟩, 45) := ⟨⟨by decide +kernel, by decide +kernel⟩, List.mem_of_getElem? (i := 968) (by decide +kernel), List.mem_of_getElem? (i := 1410) (by decide +kernel), List.mem_of_getElem? (i := 1411) (by decide +kernel)⟩
theorem lw_p68 : lw_okq (⟨"MarshLightsModel", "mark", "(I)V"⟩, 45) := ⟨⟨by decide +kernel, by decide +kernel⟩, List.mem_of_getElem? (i := 968) (by decide +kernel), List.mem_of_getElem? (i := 1414) (by decide +kernel), List.mem_of_getElem? (i := 1415) (by decide +kernel)⟩
theorem lw_p69 : lw_okq (⟨"MarshLightsModel", "ends", "(I)Z"⟩, 45) := ⟨⟨by decide +kernel, by decide +kernel⟩, List.mem_of_getElem? (i := 968) (by decide +kernel), List.mem_of_getElem? (i := 1418) (by decide +kernel), List.mem_of_getElem? (i := 1419) (by decide +kernel)⟩
theorem lw_p70 : lw_okq (⟨"MarshLightsModel", "holdsRead", "()Z"⟩, 45) := ⟨⟨by decide +kernel, by decide +kernel⟩, List.mem_of_getElem? (i := 968) (by decide +kernel), List.mem_of_getElem? (i := 1424) (by decide +kernel), List.mem_of_getElem? (i := 1425) (by decide +kernel)⟩
theorem lw_p71 : lw_okq (⟨"MarshLightsModel", "compares", "()Z"⟩, 45) := ⟨⟨by decide +kernel, by decide +kernel⟩, List.mem_of_getElem? (i := 968) (by decide +kernel), List.mem_of_getElem? (i := 1428) (by decide +kernel), List.mem_of_getElem? (i := 1429) (by decide +kernel)⟩
theorem lw_p72 : lw_okq (⟨"MarshLightsModel", "lays", "(IIII)V"⟩, 45) := ⟨⟨by decide +kernel, by decide +kernel⟩, List.mem_of_getElem? (i := 968) (by decide +kernel), List.mem_of_getElem? (i := 1445) (by decide +kernel), List.mem_of_getElem? (i := 1446) (by decide +kernel)⟩
theorem lw_p73 : lw_okq (⟨"MarshLightsModel", "worked", "(I)I"⟩, 45) := ⟨⟨by decide +kernel, by decide +kernel⟩, List.mem_of_getElem? (i := 968) (by decide +kernel), List.mem_of_getElem? (i := 1449) (by decide +kernel), List.mem_of_getElem? (i := 1450) (by decide +kernel)⟩
theorem lw_p74 : lw_okq (⟨"MarshLightsModel", "grownTo", "(IIII)I"⟩, 45) := ⟨⟨by decide +kernel, by decide +kernel⟩, List.mem_of_getElem? (i := 968) (by decide +kernel), List.mem_of_getElem? (i := 1464) (by decide +kernel), List.mem_of_getElem? (i := 1465) (by decide +kernel)⟩
theorem lw_p75 : lw_okq (⟨"MarshLightsModel", "lot", "(I)I"⟩, 45) := ⟨⟨by decide +kernel, by decide +kernel⟩, List.mem_of_getElem? (i := 968) (by decide +kernel), List.mem_of_getElem? (i := 1476) (by decide +kernel), List.mem_of_getElem? (i := 1477) (by decide +kernel)⟩
def lw_privs_5 : List (MethodName × Nat) := [(⟨"MarshLightsModel", "sum", "(I)Z"⟩, 45), (⟨"MarshLightsModel", "product", "(I)Z"⟩, 45), (⟨"MarshLightsModel", "factor", "(I)Z"⟩, 45), (⟨"MarshLightsModel", "isSign", "(I)Z"⟩, 45), (⟨"MarshLightsModel", "mark", "(I)V"⟩, 45), (⟨"MarshLightsModel", "ends", "(I)Z"⟩, 45), (⟨"MarshLightsModel", "holdsRead", "()Z"⟩, 45), (⟨"MarshLightsModel", "compares", "()Z"⟩, 45), (⟨"MarshLightsModel", "lays", "(IIII)V"⟩, 45), (⟨"MarshLightsModel", "worked", "(I)I"⟩, 45), (⟨"MarshLightsModel", "grownTo", "(IIII)I"⟩, 45), (⟨"MarshLightsModel", "lot", "(I)I"⟩, 45)]
theorem lw_r5 : ∀ q ∈ lw_privs_5, lw_okq q := List.forall_mem_cons.mpr ⟨lw_p64, List.forall_mem_cons.mpr ⟨lw_p65, List.forall_mem_cons.mpr ⟨lw_p66, List.forall_mem_cons.mpr ⟨lw_p67, List.forall_mem_cons.mpr ⟨lw_p68, List.forall_mem_cons.mpr ⟨lw_p69, List.forall_mem_cons.mpr ⟨lw_p70, List.forall_mem_cons.mpr ⟨lw_p71, List.forall_mem_cons.mpr ⟨lw_p72, List.forall_mem_cons.mpr ⟨lw_p73, List.forall_mem_cons.mpr ⟨lw_p74, List.forall_mem_cons.mpr ⟨lw_p75, fun _ h => absurd h List.not_mem_nil⟩⟩⟩⟩⟩⟩⟩⟩⟩⟩⟩⟩
def lw_privs : List (MethodName × Nat) := lw_privs_1 ++ (lw_privs_2 ++ (lw_privs_3 ++ (lw_privs_4 ++ (lw_privs_5))))
def lw_tbl : List Cond := k2_sels lw_privs ++ tables_1
theorem lw_privs_ok : ∀ q ∈ lw_privs, lw_okq q := by
  show ∀ q ∈ lw_privs_1 ++ (lw_privs_2 ++ (lw_privs_3 ++ (lw_privs_4 ++ (lw_privs_5)))), lw_okq q
  exact List.forall_mem_append.mpr ⟨lw_r1, List.forall_mem_append.mpr ⟨lw_r2, List.forall_mem_append.mpr ⟨lw_r3, List.forall_mem_append.mpr ⟨lw_r4, lw_r5⟩⟩⟩⟩
-- ===== end of PART A; then your names; then what follows =====

def RX0 : String := "MarshLights$Crossing"
def TX0 : u_T := fun k => match k with
  | 0 => ("MarshLights$Crossing", "places", "I", false)
  | 1 => ("MarshLights$Crossing", "heights", "I", false)
  | 2 => ("MarshLights$Crossing", "leastX", "I", false)
  | 3 => ("MarshLights$Crossing", "greatestX", "I", false)
  | 4 => ("MarshLights$Crossing", "leastY", "I", false)
  | _ => ("MarshLights$Crossing", "greatestY", "I", false)
def tyX0 : Nat → FieldType := fun k => match k with
  | 0 => .int
  | 1 => .int
  | 2 => .int
  | 3 => .int
  | 4 => .int
  | _ => .int
abbrev wsX00 : List Cond := u_ws RX0 TX0 6
theorem nmX0 : ∀ a, a < 6 → ∀ b, b < 6 → a ≠ b → (TX0 a).2.1 ≠ (TX0 b).2.1 := by decide +kernel
theorem tyX0_ok : ∀ k, k < 6 → parseFieldDescriptor (TX0 k).2.2.1 = some (tyX0 k) := by decide +kernel
abbrev cX0_init : ByteArray := prog_2_method_1_code
def yX0_init : MethodName := ⟨RX0, "<init>", "()V"⟩
abbrev cX0_clear : ByteArray := prog_2_method_2_code
def yX0_clear : MethodName := ⟨RX0, "clear", "()V"⟩
abbrev cX0_add : ByteArray := prog_2_method_3_code
def yX0_add : MethodName := ⟨RX0, "add", "(IZ)V"⟩
abbrev cX0_part : ByteArray := prog_2_method_4_code
def yX0_part : MethodName := ⟨RX0, "part", "(I)I"⟩
def RX1 : String := "MarshLights$Land"
def TX1 : u_T := fun k => match k with
  | 0 => ("MarshLights$Land", "grounds", "[I", true)
  | 1 => ("MarshLights$Land", "makers", "[I", true)
  | 2 => ("MarshLights$Land", "highest", "I", false)
  | _ => ("MarshLights$Land", "hills", "I", false)
def tyX1 : Nat → FieldType := fun k => match k with
  | 0 => .array .int
  | 1 => .array .int
  | 2 => .int
  | _ => .int
abbrev wsX10 : List Cond := u_ws RX1 TX1 4
theorem nmX1 : ∀ a, a < 4 → ∀ b, b < 4 → a ≠ b → (TX1 a).2.1 ≠ (TX1 b).2.1 := by decide +kernel
theorem tyX1_ok : ∀ k, k < 4 → parseFieldDescriptor (TX1 k).2.2.1 = some (tyX1 k) := by decide +kernel
abbrev cX1_init : ByteArray := prog_3_method_1_code
def yX1_init : MethodName := ⟨RX1, "<init>", "()V"⟩
abbrev cX1_raise : ByteArray := prog_3_method_2_code
def yX1_raise : MethodName := ⟨RX1, "raise", "(III)I"⟩
abbrev cX1_groundAt : ByteArray := prog_3_method_3_code
def yX1_groundAt : MethodName := ⟨RX1, "groundAt", "(II)I"⟩
abbrev cX1_makerAt : ByteArray := prog_3_method_4_code
def yX1_makerAt : MethodName := ⟨RX1, "makerAt", "(II)I"⟩
def RX2 : String := "MarshLights$Reader"
def TX2 : u_T := fun k => match k with
  | 0 => ("MarshLights$Reader", "text", "[I", true)
  | 1 => ("MarshLights$Reader", "length", "I", false)
  | 2 => ("MarshLights$Reader", "tokens", "[I", true)
  | 3 => ("MarshLights$Reader", "starts", "[I", true)
  | 4 => ("MarshLights$Reader", "tokenCount", "I", false)
  | _ => ("MarshLights$Reader", "next", "I", false)
def tyX2 : Nat → FieldType := fun k => match k with
  | 0 => .array .int
  | 1 => .int
  | 2 => .array .int
  | 3 => .array .int
  | 4 => .int
  | _ => .int
abbrev wsX20 : List Cond := u_ws RX2 TX2 6
theorem nmX2 : ∀ a, a < 6 → ∀ b, b < 6 → a ≠ b → (TX2 a).2.1 ≠ (TX2 b).2.1 := by decide +kernel
theorem tyX2_ok : ∀ k, k < 6 → parseFieldDescriptor (TX2 k).2.2.1 = some (tyX2 k) := by decide +kernel
abbrev cX2_init : ByteArray := prog_4_method_1_code
def yX2_init : MethodName := ⟨RX2, "<init>", "()V"⟩
abbrev cX2_append : ByteArray := prog_4_method_2_code
def yX2_append : MethodName := ⟨RX2, "append", "(I)V"⟩
abbrev cX2_judge : ByteArray := prog_4_method_3_code
def yX2_judge : MethodName := ⟨RX2, "judge", "(LMarshLights$Rules;)I"⟩
abbrev cX2_faultPlace : ByteArray := prog_4_method_4_code
def yX2_faultPlace : MethodName := ⟨RX2, "faultPlace", "()I"⟩
abbrev cX2_split : ByteArray := prog_4_method_5_code
def yX2_split : MethodName := ⟨RX2, "split", "()V"⟩
abbrev cX2_tokenEnd : ByteArray := prog_4_method_6_code
def yX2_tokenEnd : MethodName := ⟨RX2, "tokenEnd", "(I)I"⟩
abbrev cX2_isLetter : ByteArray := prog_4_method_7_code
def yX2_isLetter : MethodName := ⟨RX2, "isLetter", "(I)Z"⟩
abbrev cX2_isDigit : ByteArray := prog_4_method_8_code
def yX2_isDigit : MethodName := ⟨RX2, "isDigit", "(I)Z"⟩
abbrev cX2_tokenOf : ByteArray := prog_4_method_9_code
def yX2_tokenOf : MethodName := ⟨RX2, "tokenOf", "(II)I"⟩
abbrev cX2_numberOf : ByteArray := prog_4_method_10_code
def yX2_numberOf : MethodName := ⟨RX2, "numberOf", "(II)I"⟩
abbrev cX2_wordOf : ByteArray := prog_4_method_11_code
def yX2_wordOf : MethodName := ⟨RX2, "wordOf", "(II)I"⟩
abbrev cX2_token : ByteArray := prog_4_method_12_code
def yX2_token : MethodName := ⟨RX2, "token", "()I"⟩
abbrev cX2_take : ByteArray := prog_4_method_13_code
def yX2_take : MethodName := ⟨RX2, "take", "(I)Z"⟩
abbrev cX2_readLine : ByteArray := prog_4_method_14_code
def yX2_readLine : MethodName := ⟨RX2, "readLine", "(LMarshLights$Rules;)Z"⟩
abbrev cX2_readCondition : ByteArray := prog_4_method_15_code
def yX2_readCondition : MethodName := ⟨RX2, "readCondition", "(LMarshLights$Rules;)Z"⟩
abbrev cX2_readSum : ByteArray := prog_4_method_16_code
def yX2_readSum : MethodName := ⟨RX2, "readSum", "(LMarshLights$Rules;I)Z"⟩
abbrev cX2_readProduct : ByteArray := prog_4_method_17_code
def yX2_readProduct : MethodName := ⟨RX2, "readProduct", "(LMarshLights$Rules;I)Z"⟩
abbrev cX2_readFactor : ByteArray := prog_4_method_18_code
def yX2_readFactor : MethodName := ⟨RX2, "readFactor", "(LMarshLights$Rules;I)Z"⟩
def RX3 : String := "MarshLights$Rules"
def TX3 : u_T := fun k => match k with
  | 0 => ("MarshLights$Rules", "codes", "[I", true)
  | 1 => ("MarshLights$Rules", "codeCount", "I", false)
  | 2 => ("MarshLights$Rules", "hasGrow", "Z", false)
  | 3 => ("MarshLights$Rules", "growFrom", "I", false)
  | 4 => ("MarshLights$Rules", "growTo", "I", false)
  | 5 => ("MarshLights$Rules", "clauses", "I", false)
  | 6 => ("MarshLights$Rules", "clauseKinds", "[I", true)
  | 7 => ("MarshLights$Rules", "clauseFroms", "[I", true)
  | 8 => ("MarshLights$Rules", "clauseTos", "[I", true)
  | _ => ("MarshLights$Rules", "stack", "[I", true)
def tyX3 : Nat → FieldType := fun k => match k with
  | 0 => .array .int
  | 1 => .int
  | 2 => .boolean
  | 3 => .int
  | 4 => .int
  | 5 => .int
  | 6 => .array .int
  | 7 => .array .int
  | 8 => .array .int
  | _ => .array .int
abbrev wsX30 : List Cond := u_ws RX3 TX3 10
theorem nmX3 : ∀ a, a < 10 → ∀ b, b < 10 → a ≠ b → (TX3 a).2.1 ≠ (TX3 b).2.1 := by decide +kernel
theorem tyX3_ok : ∀ k, k < 10 → parseFieldDescriptor (TX3 k).2.2.1 = some (tyX3 k) := by decide +kernel
abbrev cX3_init : ByteArray := prog_5_method_1_code
def yX3_init : MethodName := ⟨RX3, "<init>", "()V"⟩
abbrev cX3_clear : ByteArray := prog_5_method_2_code
def yX3_clear : MethodName := ⟨RX3, "clear", "()V"⟩
abbrev cX3_emit : ByteArray := prog_5_method_3_code
def yX3_emit : MethodName := ⟨RX3, "emit", "(I)V"⟩
abbrev cX3_setGrow : ByteArray := prog_5_method_4_code
def yX3_setGrow : MethodName := ⟨RX3, "setGrow", "(I)V"⟩
abbrev cX3_addClause : ByteArray := prog_5_method_5_code
def yX3_addClause : MethodName := ⟨RX3, "addClause", "(II)V"⟩
abbrev cX3_firstHolding : ByteArray := prog_5_method_6_code
def yX3_firstHolding : MethodName := ⟨RX3, "firstHolding", "([I)I"⟩
abbrev cX3_valueOf : ByteArray := prog_5_method_7_code
def yX3_valueOf : MethodName := ⟨RX3, "valueOf", "(II[I)I"⟩
abbrev cX3_joinedBy : ByteArray := prog_5_method_8_code
def yX3_joinedBy : MethodName := ⟨RX3, "joinedBy", "(III)I"⟩
abbrev cX3_bounded : ByteArray := prog_5_method_9_code
def yX3_bounded : MethodName := ⟨RX3, "bounded", "(J)I"⟩
def RX4 : String := "MarshLights$Sight"
def TX4 : u_T := fun k => match k with
  | 0 => ("MarshLights$Sight", "land", "LMarshLights$Land;", true)
  | 1 => ("MarshLights$Sight", "way", "I", false)
  | 2 => ("MarshLights$Sight", "slope", "I", false)
  | 3 => ("MarshLights$Sight", "atStar", "Z", false)
  | 4 => ("MarshLights$Sight", "fromX", "I", false)
  | 5 => ("MarshLights$Sight", "fromY", "I", false)
  | 6 => ("MarshLights$Sight", "eye", "I", false)
  | 7 => ("MarshLights$Sight", "dx", "I", false)
  | 8 => ("MarshLights$Sight", "dy", "I", false)
  | _ => ("MarshLights$Sight", "rise", "I", false)
def tyX4 : Nat → FieldType := fun k => match k with
  | 0 => .object "MarshLights$Land"
  | 1 => .int
  | 2 => .int
  | 3 => .boolean
  | 4 => .int
  | 5 => .int
  | 6 => .int
  | 7 => .int
  | 8 => .int
  | _ => .int
abbrev wsX40 : List Cond := u_ws RX4 TX4 10
theorem nmX4 : ∀ a, a < 10 → ∀ b, b < 10 → a ≠ b → (TX4 a).2.1 ≠ (TX4 b).2.1 := by decide +kernel
theorem tyX4_ok : ∀ k, k < 10 → parseFieldDescriptor (TX4 k).2.2.1 = some (tyX4 k) := by decide +kernel
abbrev cX4_init : ByteArray := prog_6_method_1_code
def yX4_init : MethodName := ⟨RX4, "<init>", "(LMarshLights$Land;)V"⟩
abbrev cX4_look : ByteArray := prog_6_method_2_code
def yX4_look : MethodName := ⟨RX4, "look", "(LMarshLights$Thing;II)Z"⟩
abbrev cX4_hidingHill : ByteArray := prog_6_method_3_code
def yX4_hidingHill : MethodName := ⟨RX4, "hidingHill", "()I"⟩
abbrev cX4_shows : ByteArray := prog_6_method_4_code
def yX4_shows : MethodName := ⟨RX4, "shows", "(LMarshLights$Thing;II)Z"⟩
def RX5 : String := "MarshLights$Telling"
def TX5 : u_T := fun k => match k with
  | 0 => ("MarshLights$Telling", "seer", "I", false)
  | 1 => ("MarshLights$Telling", "first", "I", false)
  | 2 => ("MarshLights$Telling", "last", "I", false)
  | 3 => ("MarshLights$Telling", "firstWay", "I", false)
  | 4 => ("MarshLights$Telling", "firstSlope", "I", false)
  | 5 => ("MarshLights$Telling", "lastWay", "I", false)
  | 6 => ("MarshLights$Telling", "lastSlope", "I", false)
  | 7 => ("MarshLights$Telling", "lights", "I", false)
  | 8 => ("MarshLights$Telling", "hull", "I", false)
  | 9 => ("MarshLights$Telling", "fitting", "I", false)
  | 10 => ("MarshLights$Telling", "fittingOf", "I", false)
  | 11 => ("MarshLights$Telling", "askCouples", "I", false)
  | 12 => ("MarshLights$Telling", "askMinute", "I", false)
  | _ => ("MarshLights$Telling", "askedOf", "I", false)
def tyX5 : Nat → FieldType := fun k => match k with
  | 0 => .int
  | 1 => .int
  | 2 => .int
  | 3 => .int
  | 4 => .int
  | 5 => .int
  | 6 => .int
  | 7 => .int
  | 8 => .int
  | 9 => .int
  | 10 => .int
  | 11 => .int
  | 12 => .int
  | _ => .int
abbrev wsX50 : List Cond := u_ws RX5 TX5 14
theorem nmX5 : ∀ a, a < 14 → ∀ b, b < 14 → a ≠ b → (TX5 a).2.1 ≠ (TX5 b).2.1 := by decide +kernel
theorem tyX5_ok : ∀ k, k < 14 → parseFieldDescriptor (TX5 k).2.2.1 = some (tyX5 k) := by decide +kernel
abbrev cX5_init : ByteArray := prog_7_method_1_code
def yX5_init : MethodName := ⟨RX5, "<init>", "()V"⟩
abbrev cX5_part : ByteArray := prog_7_method_2_code
def yX5_part : MethodName := ⟨RX5, "part", "(I)I"⟩
def RX6 : String := "MarshLights$Thing"
def TX6 : u_T := fun k => match k with
  | 0 => ("MarshLights$Thing", "kind", "I", false)
  | 1 => ("MarshLights$Thing", "first", "I", false)
  | 2 => ("MarshLights$Thing", "last", "I", false)
  | 3 => ("MarshLights$Thing", "x", "I", false)
  | 4 => ("MarshLights$Thing", "y", "I", false)
  | 5 => ("MarshLights$Thing", "z", "I", false)
  | 6 => ("MarshLights$Thing", "dx", "I", false)
  | 7 => ("MarshLights$Thing", "dy", "I", false)
  | 8 => ("MarshLights$Thing", "divisor", "I", false)
  | 9 => ("MarshLights$Thing", "fall", "I", false)
  | 10 => ("MarshLights$Thing", "period", "I", false)
  | 11 => ("MarshLights$Thing", "rest", "I", false)
  | 12 => ("MarshLights$Thing", "way", "I", false)
  | 13 => ("MarshLights$Thing", "slope", "I", false)
  | _ => ("MarshLights$Thing", "turn", "I", false)
def tyX6 : Nat → FieldType := fun k => match k with
  | 0 => .int
  | 1 => .int
  | 2 => .int
  | 3 => .int
  | 4 => .int
  | 5 => .int
  | 6 => .int
  | 7 => .int
  | 8 => .int
  | 9 => .int
  | 10 => .int
  | 11 => .int
  | 12 => .int
  | 13 => .int
  | _ => .int
abbrev wsX60 : List Cond := u_ws RX6 TX6 15
theorem nmX6 : ∀ a, a < 15 → ∀ b, b < 15 → a ≠ b → (TX6 a).2.1 ≠ (TX6 b).2.1 := by decide +kernel
theorem tyX6_ok : ∀ k, k < 15 → parseFieldDescriptor (TX6 k).2.2.1 = some (tyX6 k) := by decide +kernel
abbrev cX6_init : ByteArray := prog_8_method_1_code
def yX6_init : MethodName := ⟨RX6, "<init>", "()V"⟩
abbrev cX6_isThere : ByteArray := prog_8_method_2_code
def yX6_isThere : MethodName := ⟨RX6, "isThere", "(ILMarshLights$Land;)Z"⟩
abbrev cX6_isLit : ByteArray := prog_8_method_3_code
def yX6_isLit : MethodName := ⟨RX6, "isLit", "(I)Z"⟩
abbrev cX6_xIn : ByteArray := prog_8_method_4_code
def yX6_xIn : MethodName := ⟨RX6, "xIn", "(I)I"⟩
abbrev cX6_yIn : ByteArray := prog_8_method_5_code
def yX6_yIn : MethodName := ⟨RX6, "yIn", "(I)I"⟩
abbrev cX6_zIn : ByteArray := prog_8_method_6_code
def yX6_zIn : MethodName := ⟨RX6, "zIn", "(ILMarshLights$Land;)I"⟩
def RX7 : String := "MarshLights"
def TX7 : u_T := fun k => match k with
  | 0 => ("MarshLights", "land", "LMarshLights$Land;", true)
  | 1 => ("MarshLights", "sight", "LMarshLights$Sight;", true)
  | 2 => ("MarshLights", "seerPlaces", "[I", true)
  | 3 => ("MarshLights", "seerCount", "I", false)
  | 4 => ("MarshLights", "things", "[LMarshLights$Thing;", true)
  | 5 => ("MarshLights", "thingCount", "I", false)
  | 6 => ("MarshLights", "tellings", "[LMarshLights$Telling;", true)
  | 7 => ("MarshLights", "tellingCount", "I", false)
  | 8 => ("MarshLights", "wayOff", "I", false)
  | 9 => ("MarshLights", "slopeOff", "I", false)
  | 10 => ("MarshLights", "changes", "I", false)
  | 11 => ("MarshLights", "rowOfThings", "[I", true)
  | 12 => ("MarshLights", "rowOfTellings", "[I", true)
  | 13 => ("MarshLights", "crossing", "LMarshLights$Crossing;", true)
  | 14 => ("MarshLights", "reader", "LMarshLights$Reader;", true)
  | 15 => ("MarshLights", "rulesNow", "LMarshLights$Rules;", false)
  | 16 => ("MarshLights", "rulesSpare", "LMarshLights$Rules;", false)
  | 17 => ("MarshLights", "values", "[I", true)
  | _ => ("MarshLights", "lotState", "I", false)
def tyX7 : Nat → FieldType := fun k => match k with
  | 0 => .object "MarshLights$Land"
  | 1 => .object "MarshLights$Sight"
  | 2 => .array .int
  | 3 => .int
  | 4 => .array (.object "MarshLights$Thing")
  | 5 => .int
  | 6 => .array (.object "MarshLights$Telling")
  | 7 => .int
  | 8 => .int
  | 9 => .int
  | 10 => .int
  | 11 => .array .int
  | 12 => .array .int
  | 13 => .object "MarshLights$Crossing"
  | 14 => .object "MarshLights$Reader"
  | 15 => .object "MarshLights$Rules"
  | 16 => .object "MarshLights$Rules"
  | 17 => .array .int
  | _ => .int
abbrev wsX70 : List Cond := u_ws RX7 TX7 19
theorem nmX7 : ∀ a, a < 19 → ∀ b, b < 19 → a ≠ b → (TX7 a).2.1 ≠ (TX7 b).2.1 := by decide +kernel
theorem tyX7_ok : ∀ k, k < 19 → parseFieldDescriptor (TX7 k).2.2.1 = some (tyX7 k) := by decide +kernel
abbrev cX7_init : ByteArray := prog_1_method_1_code
def yX7_init : MethodName := ⟨RX7, "<init>", "()V"⟩
abbrev cX7_hill : ByteArray := prog_1_method_2_code
def yX7_hill : MethodName := ⟨RX7, "hill", "(III)I"⟩
abbrev cX7_seer : ByteArray := prog_1_method_3_code
def yX7_seer : MethodName := ⟨RX7, "seer", "(I)I"⟩
abbrev cX7_star : ByteArray := prog_1_method_4_code
def yX7_star : MethodName := ⟨RX7, "star", "(III)I"⟩
abbrev cX7_flies : ByteArray := prog_1_method_5_code
def yX7_flies : MethodName := ⟨RX7, "flies", "(IIIII)I"⟩
abbrev cX7_flare : ByteArray := prog_1_method_6_code
def yX7_flare : MethodName := ⟨RX7, "flare", "(IIII)I"⟩
abbrev cX7_lamp : ByteArray := prog_1_method_7_code
def yX7_lamp : MethodName := ⟨RX7, "lamp", "(IIII)I"⟩
abbrev cX7_ground : ByteArray := prog_1_method_8_code
def yX7_ground : MethodName := ⟨RX7, "ground", "(I)I"⟩
abbrev cX7_at : ByteArray := prog_1_method_9_code
def yX7_at : MethodName := ⟨RX7, "at", "(III)I"⟩
abbrev cX7_seen : ByteArray := prog_1_method_10_code
def yX7_seen : MethodName := ⟨RX7, "seen", "(IIII)I"⟩
abbrev cX7_tell : ByteArray := prog_1_method_11_code
def yX7_tell : MethodName := ⟨RX7, "tell", "(IIIII)I"⟩
abbrev cX7_undo : ByteArray := prog_1_method_12_code
def yX7_undo : MethodName := ⟨RX7, "undo", "()I"⟩
abbrev cX7_off : ByteArray := prog_1_method_13_code
def yX7_off : MethodName := ⟨RX7, "off", "(II)Z"⟩
abbrev cX7_telling : ByteArray := prog_1_method_14_code
def yX7_telling : MethodName := ⟨RX7, "telling", "(II)I"⟩
abbrev cX7_fits : ByteArray := prog_1_method_15_code
def yX7_fits : MethodName := ⟨RX7, "fits", "(II)I"⟩
abbrev cX7_left : ByteArray := prog_1_method_16_code
def yX7_left : MethodName := ⟨RX7, "left", "(I)I"⟩
abbrev cX7_fewest : ByteArray := prog_1_method_17_code
def yX7_fewest : MethodName := ⟨RX7, "fewest", "()I"⟩
abbrev cX7_joined : ByteArray := prog_1_method_18_code
def yX7_joined : MethodName := ⟨RX7, "joined", "(II)I"⟩
abbrev cX7_cross : ByteArray := prog_1_method_19_code
def yX7_cross : MethodName := ⟨RX7, "cross", "(III)I"⟩
abbrev cX7_out : ByteArray := prog_1_method_20_code
def yX7_out : MethodName := ⟨RX7, "out", "(II)I"⟩
abbrev cX7_outs : ByteArray := prog_1_method_21_code
def yX7_outs : MethodName := ⟨RX7, "outs", "(IIII)I"⟩
abbrev cX7_size : ByteArray := prog_1_method_22_code
def yX7_size : MethodName := ⟨RX7, "size", "(IIII)I"⟩
abbrev cX7_hulls : ByteArray := prog_1_method_23_code
def yX7_hulls : MethodName := ⟨RX7, "hulls", "(II)I"⟩
abbrev cX7_ask : ByteArray := prog_1_method_24_code
def yX7_ask : MethodName := ⟨RX7, "ask", "(I)I"⟩
abbrev cX7_feed : ByteArray := prog_1_method_25_code
def yX7_feed : MethodName := ⟨RX7, "feed", "(IIIII)I"⟩
abbrev cX7_end : ByteArray := prog_1_method_26_code
def yX7_end : MethodName := ⟨RX7, "end", "(I)Z"⟩
abbrev cX7_fault : ByteArray := prog_1_method_27_code
def yX7_fault : MethodName := ⟨RX7, "fault", "()I"⟩
abbrev cX7_rules : ByteArray := prog_1_method_28_code
def yX7_rules : MethodName := ⟨RX7, "rules", "()I"⟩
abbrev cX7_office : ByteArray := prog_1_method_29_code
def yX7_office : MethodName := ⟨RX7, "office", "(IIII)I"⟩
abbrev cX7_grown : ByteArray := prog_1_method_30_code
def yX7_grown : MethodName := ⟨RX7, "grown", "(IIII)I"⟩
abbrev cX7_before : ByteArray := prog_1_method_31_code
def yX7_before : MethodName := ⟨RX7, "before", "(IIII)I"⟩
abbrev cX7_draw : ByteArray := prog_1_method_32_code
def yX7_draw : MethodName := ⟨RX7, "draw", "(II)I"⟩
abbrev cX7_count : ByteArray := prog_1_method_33_code
def yX7_count : MethodName := ⟨RX7, "count", "(I)I"⟩
abbrev cX7_isPlace : ByteArray := prog_1_method_34_code
def yX7_isPlace : MethodName := ⟨RX7, "isPlace", "(I)Z"⟩
abbrev cX7_isMinute : ByteArray := prog_1_method_35_code
def yX7_isMinute : MethodName := ⟨RX7, "isMinute", "(I)Z"⟩
abbrev cX7_isSpan : ByteArray := prog_1_method_36_code
def yX7_isSpan : MethodName := ⟨RX7, "isSpan", "(I)Z"⟩
abbrev cX7_isHeight : ByteArray := prog_1_method_37_code
def yX7_isHeight : MethodName := ⟨RX7, "isHeight", "(I)Z"⟩
abbrev cX7_isFall : ByteArray := prog_1_method_38_code
def yX7_isFall : MethodName := ⟨RX7, "isFall", "(I)Z"⟩
abbrev cX7_isSpeed : ByteArray := prog_1_method_39_code
def yX7_isSpeed : MethodName := ⟨RX7, "isSpeed", "(I)Z"⟩
abbrev cX7_isWay : ByteArray := prog_1_method_40_code
def yX7_isWay : MethodName := ⟨RX7, "isWay", "(I)Z"⟩
abbrev cX7_isToldSlope : ByteArray := prog_1_method_41_code
def yX7_isToldSlope : MethodName := ⟨RX7, "isToldSlope", "(I)Z"⟩
abbrev cX7_isDirection : ByteArray := prog_1_method_42_code
def yX7_isDirection : MethodName := ⟨RX7, "isDirection", "(I)Z"⟩
abbrev cX7_isLights : ByteArray := prog_1_method_43_code
def yX7_isLights : MethodName := ⟨RX7, "isLights", "(I)Z"⟩
abbrev cX7_isHull : ByteArray := prog_1_method_44_code
def yX7_isHull : MethodName := ⟨RX7, "isHull", "(I)Z"⟩
abbrev cX7_isLightsAndHull : ByteArray := prog_1_method_45_code
def yX7_isLightsAndHull : MethodName := ⟨RX7, "isLightsAndHull", "(I)Z"⟩
abbrev cX7_isLater : ByteArray := prog_1_method_46_code
def yX7_isLater : MethodName := ⟨RX7, "isLater", "(I)Z"⟩
abbrev cX7_isSeer : ByteArray := prog_1_method_47_code
def yX7_isSeer : MethodName := ⟨RX7, "isSeer", "(I)Z"⟩
abbrev cX7_isThing : ByteArray := prog_1_method_48_code
def yX7_isThing : MethodName := ⟨RX7, "isThing", "(I)Z"⟩
abbrev cX7_isTelling : ByteArray := prog_1_method_49_code
def yX7_isTelling : MethodName := ⟨RX7, "isTelling", "(I)Z"⟩
abbrev cX7_divisorOf : ByteArray := prog_1_method_50_code
def yX7_divisorOf : MethodName := ⟨RX7, "divisorOf", "(I)I"⟩
abbrev cX7_newThing : ByteArray := prog_1_method_51_code
def yX7_newThing : MethodName := ⟨RX7, "newThing", "(IIII)LMarshLights$Thing;"⟩
abbrev cX7_fittingOf : ByteArray := prog_1_method_52_code
def yX7_fittingOf : MethodName := ⟨RX7, "fittingOf", "(LMarshLights$Telling;)I"⟩
abbrev cX7_isLike : ByteArray := prog_1_method_53_code
def yX7_isLike : MethodName := ⟨RX7, "isLike", "(LMarshLights$Telling;LMarshLights$Thing;)Z"⟩
abbrev cX7_isNear : ByteArray := prog_1_method_54_code
def yX7_isNear : MethodName := ⟨RX7, "isNear", "(II)Z"⟩
abbrev cX7_apart : ByteArray := prog_1_method_55_code
def yX7_apart : MethodName := ⟨RX7, "apart", "(II)I"⟩
abbrev cX7_gatherNeeds : ByteArray := prog_1_method_56_code
def yX7_gatherNeeds : MethodName := ⟨RX7, "gatherNeeds", "()I"⟩
abbrev cX7_meetsAll : ByteArray := prog_1_method_57_code
def yX7_meetsAll : MethodName := ⟨RX7, "meetsAll", "(II)Z"⟩
abbrev cX7_weighMinutes : ByteArray := prog_1_method_58_code
def yX7_weighMinutes : MethodName := ⟨RX7, "weighMinutes", "(LMarshLights$Telling;)V"⟩
abbrev cX7_couplesParted : ByteArray := prog_1_method_59_code
def yX7_couplesParted : MethodName := ⟨RX7, "couplesParted", "(III)I"⟩
abbrev cX7_pointsAt : ByteArray := prog_1_method_60_code
def yX7_pointsAt : MethodName := ⟨RX7, "pointsAt", "(LMarshLights$Telling;I)Z"⟩
abbrev cX7_shareHeight : ByteArray := prog_1_method_61_code
def yX7_shareHeight : MethodName := ⟨RX7, "shareHeight", "(LMarshLights$Telling;LMarshLights$Telling;I)Z"⟩
abbrev cX7_leastHeight : ByteArray := prog_1_method_62_code
def yX7_leastHeight : MethodName := ⟨RX7, "leastHeight", "(LMarshLights$Telling;I)I"⟩
abbrev cX7_greatestHeight : ByteArray := prog_1_method_63_code
def yX7_greatestHeight : MethodName := ⟨RX7, "greatestHeight", "(LMarshLights$Telling;I)I"⟩
abbrev cX7_leastShown : ByteArray := prog_1_method_64_code
def yX7_leastShown : MethodName := ⟨RX7, "leastShown", "(II)I"⟩
abbrev cX7_eyeAt : ByteArray := prog_1_method_65_code
def yX7_eyeAt : MethodName := ⟨RX7, "eyeAt", "(I)I"⟩
abbrev cX7_distance : ByteArray := prog_1_method_66_code
def yX7_distance : MethodName := ⟨RX7, "distance", "(II)I"⟩
abbrev cX7_ceilDiv : ByteArray := prog_1_method_67_code
def yX7_ceilDiv : MethodName := ⟨RX7, "ceilDiv", "(II)I"⟩
abbrev cX7_wayOf : ByteArray := prog_1_method_68_code
def yX7_wayOf : MethodName := ⟨RX7, "wayOf", "(II)I"⟩
abbrev cX7_slopeOf : ByteArray := prog_1_method_69_code
def yX7_slopeOf : MethodName := ⟨RX7, "slopeOf", "(II)I"⟩
abbrev cX7_within : ByteArray := prog_1_method_70_code
def yX7_within : MethodName := ⟨RX7, "within", "(III)I"⟩
abbrev cX7_setValues : ByteArray := prog_1_method_71_code
def yX7_setValues : MethodName := ⟨RX7, "setValues", "(IIII)V"⟩
abbrev cX7_isHasty : ByteArray := prog_1_method_72_code
def yX7_isHasty : MethodName := ⟨RX7, "isHasty", "(LMarshLights$Telling;I)Z"⟩
abbrev cX7_growth : ByteArray := prog_1_method_73_code
def yX7_growth : MethodName := ⟨RX7, "growth", "(IIII)I"⟩
abbrev cX7_drawTelling : ByteArray := prog_1_method_74_code
def yX7_drawTelling : MethodName := ⟨RX7, "drawTelling", "()Z"⟩
abbrev cX7_sightedOff : ByteArray := prog_1_method_75_code
def yX7_sightedOff : MethodName := ⟨RX7, "sightedOff", "(II)I"⟩
abbrev cX7_lotBelow : ByteArray := prog_1_method_76_code
def yX7_lotBelow : MethodName := ⟨RX7, "lotBelow", "(I)I"⟩
def RX8 : String := "MarshLightsModel"
def TX8 : u_T := fun k => match k with
  | 0 => ("MarshLightsModel", "hillX", "[I", true)
  | 1 => ("MarshLightsModel", "hillY", "[I", true)
  | 2 => ("MarshLightsModel", "hillToX", "[I", true)
  | 3 => ("MarshLightsModel", "hillToY", "[I", true)
  | 4 => ("MarshLightsModel", "hillHigh", "[I", true)
  | 5 => ("MarshLightsModel", "seerX", "[I", true)
  | 6 => ("MarshLightsModel", "seerY", "[I", true)
  | 7 => ("MarshLightsModel", "kind", "[I", true)
  | 8 => ("MarshLightsModel", "first", "[I", true)
  | 9 => ("MarshLightsModel", "last", "[I", true)
  | 10 => ("MarshLightsModel", "thingX", "[I", true)
  | 11 => ("MarshLightsModel", "thingY", "[I", true)
  | 12 => ("MarshLightsModel", "thingZ", "[I", true)
  | 13 => ("MarshLightsModel", "speedX", "[I", true)
  | 14 => ("MarshLightsModel", "speedY", "[I", true)
  | 15 => ("MarshLightsModel", "period", "[I", true)
  | 16 => ("MarshLightsModel", "lampRest", "[I", true)
  | 17 => ("MarshLightsModel", "hills", "I", false)
  | 18 => ("MarshLightsModel", "seers", "I", false)
  | 19 => ("MarshLightsModel", "things", "I", false)
  | 20 => ("MarshLightsModel", "x0", "I", false)
  | 21 => ("MarshLightsModel", "y0", "I", false)
  | 22 => ("MarshLightsModel", "z0", "I", false)
  | 23 => ("MarshLightsModel", "told", "[[I", true)
  | 24 => ("MarshLightsModel", "tellings", "I", false)
  | 25 => ("MarshLightsModel", "offWay", "I", false)
  | 26 => ("MarshLightsModel", "offSlope", "I", false)
  | 27 => ("MarshLightsModel", "fit", "[I", true)
  | 28 => ("MarshLightsModel", "text", "[B", true)
  | 29 => ("MarshLightsModel", "textMany", "I", false)
  | 30 => ("MarshLightsModel", "at", "I", false)
  | 31 => ("MarshLightsModel", "to", "I", false)
  | 32 => ("MarshLightsModel", "faultAt", "I", false)
  | 33 => ("MarshLightsModel", "marks", "[[I", true)
  | 34 => ("MarshLightsModel", "begin", "[[I", true)
  | 35 => ("MarshLightsModel", "many", "[[I", true)
  | 36 => ("MarshLightsModel", "says", "[[I", true)
  | 37 => ("MarshLightsModel", "clauses", "[I", true)
  | 38 => ("MarshLightsModel", "poolMany", "[I", true)
  | 39 => ("MarshLightsModel", "grows", "[Z", true)
  | 40 => ("MarshLightsModel", "pile", "[I", true)
  | 41 => ("MarshLightsModel", "names", "[I", true)
  | 42 => ("MarshLightsModel", "kinds", "[Ljava/lang/String;", true)
  | 43 => ("MarshLightsModel", "named", "[Ljava/lang/String;", true)
  | _ => ("MarshLightsModel", "lots", "J", false)
def tyX8 : Nat → FieldType := fun k => match k with
  | 0 => .array .int
  | 1 => .array .int
  | 2 => .array .int
  | 3 => .array .int
  | 4 => .array .int
  | 5 => .array .int
  | 6 => .array .int
  | 7 => .array .int
  | 8 => .array .int
  | 9 => .array .int
  | 10 => .array .int
  | 11 => .array .int
  | 12 => .array .int
  | 13 => .array .int
  | 14 => .array .int
  | 15 => .array .int
  | 16 => .array .int
  | 17 => .int
  | 18 => .int
  | 19 => .int
  | 20 => .int
  | 21 => .int
  | 22 => .int
  | 23 => .array (.array .int)
  | 24 => .int
  | 25 => .int
  | 26 => .int
  | 27 => .array .int
  | 28 => .array .byte
  | 29 => .int
  | 30 => .int
  | 31 => .int
  | 32 => .int
  | 33 => .array (.array .int)
  | 34 => .array (.array .int)
  | 35 => .array (.array .int)
  | 36 => .array (.array .int)
  | 37 => .array .int
  | 38 => .array .int
  | 39 => .array .boolean
  | 40 => .array .int
  | 41 => .array .int
  | 42 => .array (.object "java/lang/String")
  | 43 => .array (.object "java/lang/String")
  | _ => .long
abbrev wsX80 : List Cond := u_ws RX8 TX8 45
theorem nmX8 : ∀ a, a < 45 → ∀ b, b < 45 → a ≠ b → (TX8 a).2.1 ≠ (TX8 b).2.1 := by decide +kernel
theorem tyX8_ok : ∀ k, k < 45 → parseFieldDescriptor (TX8 k).2.2.1 = some (tyX8 k) := by decide +kernel
abbrev cX8_init : ByteArray := prog_10_method_1_code
def yX8_init : MethodName := ⟨RX8, "<init>", "()V"⟩
abbrev cX8_in : ByteArray := prog_10_method_2_code
def yX8_in : MethodName := ⟨RX8, "in", "(JJJ)Z"⟩
abbrev cX8_isPlace : ByteArray := prog_10_method_3_code
def yX8_isPlace : MethodName := ⟨RX8, "isPlace", "(I)Z"⟩
abbrev cX8_isMinute : ByteArray := prog_10_method_4_code
def yX8_isMinute : MethodName := ⟨RX8, "isMinute", "(I)Z"⟩
abbrev cX8_areMinutes : ByteArray := prog_10_method_5_code
def yX8_areMinutes : MethodName := ⟨RX8, "areMinutes", "(I)Z"⟩
abbrev cX8_hill : ByteArray := prog_10_method_6_code
def yX8_hill : MethodName := ⟨RX8, "hill", "(III)I"⟩
abbrev cX8_hillAt : ByteArray := prog_10_method_7_code
def yX8_hillAt : MethodName := ⟨RX8, "hillAt", "(II)I"⟩
abbrev cX8_groundAt : ByteArray := prog_10_method_8_code
def yX8_groundAt : MethodName := ⟨RX8, "groundAt", "(II)I"⟩
abbrev cX8_ground : ByteArray := prog_10_method_9_code
def yX8_ground : MethodName := ⟨RX8, "ground", "(I)I"⟩
abbrev cX8_seer : ByteArray := prog_10_method_10_code
def yX8_seer : MethodName := ⟨RX8, "seer", "(I)I"⟩
abbrev cX8_adds : ByteArray := prog_10_method_11_code
def yX8_adds : MethodName := ⟨RX8, "adds", "(IIII)I"⟩
abbrev cX8_star : ByteArray := prog_10_method_12_code
def yX8_star : MethodName := ⟨RX8, "star", "(III)I"⟩
abbrev cX8_flies : ByteArray := prog_10_method_13_code
def yX8_flies : MethodName := ⟨RX8, "flies", "(IIIII)I"⟩
abbrev cX8_flare : ByteArray := prog_10_method_14_code
def yX8_flare : MethodName := ⟨RX8, "flare", "(IIII)I"⟩
abbrev cX8_lamp : ByteArray := prog_10_method_15_code
def yX8_lamp : MethodName := ⟨RX8, "lamp", "(IIII)I"⟩
abbrev cX8_isAt : ByteArray := prog_10_method_16_code
def yX8_isAt : MethodName := ⟨RX8, "isAt", "(II)Z"⟩
abbrev cX8_isThing : ByteArray := prog_10_method_17_code
def yX8_isThing : MethodName := ⟨RX8, "isThing", "(I)Z"⟩
abbrev cX8_isSeer : ByteArray := prog_10_method_18_code
def yX8_isSeer : MethodName := ⟨RX8, "isSeer", "(I)Z"⟩
abbrev cX8_at : ByteArray := prog_10_method_19_code
def yX8_at : MethodName := ⟨RX8, "at", "(III)I"⟩
abbrev cX8_wayOf : ByteArray := prog_10_method_20_code
def yX8_wayOf : MethodName := ⟨RX8, "wayOf", "(II)I"⟩
abbrev cX8_slopeOf : ByteArray := prog_10_method_21_code
def yX8_slopeOf : MethodName := ⟨RX8, "slopeOf", "(III)I"⟩
abbrev cX8_eye : ByteArray := prog_10_method_22_code
def yX8_eye : MethodName := ⟨RX8, "eye", "(I)I"⟩
abbrev cX8_hider : ByteArray := prog_10_method_23_code
def yX8_hider : MethodName := ⟨RX8, "hider", "(IIII)I"⟩
abbrev cX8_isLit : ByteArray := prog_10_method_24_code
def yX8_isLit : MethodName := ⟨RX8, "isLit", "(II)Z"⟩
abbrev cX8_isShown : ByteArray := prog_10_method_25_code
def yX8_isShown : MethodName := ⟨RX8, "isShown", "(III)Z"⟩
abbrev cX8_way : ByteArray := prog_10_method_26_code
def yX8_way : MethodName := ⟨RX8, "way", "(III)I"⟩
abbrev cX8_slope : ByteArray := prog_10_method_27_code
def yX8_slope : MethodName := ⟨RX8, "slope", "(III)I"⟩
abbrev cX8_seen : ByteArray := prog_10_method_28_code
def yX8_seen : MethodName := ⟨RX8, "seen", "(IIII)I"⟩
abbrev cX8_isView : ByteArray := prog_10_method_29_code
def yX8_isView : MethodName := ⟨RX8, "isView", "(I)Z"⟩
abbrev cX8_tell : ByteArray := prog_10_method_30_code
def yX8_tell : MethodName := ⟨RX8, "tell", "(IIIII)I"⟩
abbrev cX8_undo : ByteArray := prog_10_method_31_code
def yX8_undo : MethodName := ⟨RX8, "undo", "()I"⟩
abbrev cX8_off : ByteArray := prog_10_method_32_code
def yX8_off : MethodName := ⟨RX8, "off", "(II)Z"⟩
abbrev cX8_isTelling : ByteArray := prog_10_method_33_code
def yX8_isTelling : MethodName := ⟨RX8, "isTelling", "(I)Z"⟩
abbrev cX8_telling : ByteArray := prog_10_method_34_code
def yX8_telling : MethodName := ⟨RX8, "telling", "(II)I"⟩
abbrev cX8_apart : ByteArray := prog_10_method_35_code
def yX8_apart : MethodName := ⟨RX8, "apart", "(II)I"⟩
abbrev cX8_isNear : ByteArray := prog_10_method_36_code
def yX8_isNear : MethodName := ⟨RX8, "isNear", "(I[II)Z"⟩
abbrev cX8_fitting : ByteArray := prog_10_method_37_code
def yX8_fitting : MethodName := ⟨RX8, "fitting", "(I)I"⟩
abbrev cX8_fits : ByteArray := prog_10_method_38_code
def yX8_fits : MethodName := ⟨RX8, "fits", "(II)I"⟩
abbrev cX8_left : ByteArray := prog_10_method_39_code
def yX8_left : MethodName := ⟨RX8, "left", "(I)I"⟩
abbrev cX8_fewest : ByteArray := prog_10_method_40_code
def yX8_fewest : MethodName := ⟨RX8, "fewest", "()I"⟩
abbrev cX8_joined : ByteArray := prog_10_method_41_code
def yX8_joined : MethodName := ⟨RX8, "joined", "(II)I"⟩
abbrev cX8_isSlope : ByteArray := prog_10_method_42_code
def yX8_isSlope : MethodName := ⟨RX8, "isSlope", "(IIIII)Z"⟩
abbrev cX8_hasHeight : ByteArray := prog_10_method_43_code
def yX8_hasHeight : MethodName := ⟨RX8, "hasHeight", "([I[III)Z"⟩
abbrev cX8_isCrossed : ByteArray := prog_10_method_44_code
def yX8_isCrossed : MethodName := ⟨RX8, "isCrossed", "([III)Z"⟩
abbrev cX8_cross : ByteArray := prog_10_method_45_code
def yX8_cross : MethodName := ⟨RX8, "cross", "(III)I"⟩
abbrev cX8_out : ByteArray := prog_10_method_46_code
def yX8_out : MethodName := ⟨RX8, "out", "(II)I"⟩
abbrev cX8_isUp : ByteArray := prog_10_method_47_code
def yX8_isUp : MethodName := ⟨RX8, "isUp", "(IIII)Z"⟩
abbrev cX8_outs : ByteArray := prog_10_method_48_code
def yX8_outs : MethodName := ⟨RX8, "outs", "(IIII)I"⟩
abbrev cX8_size : ByteArray := prog_10_method_49_code
def yX8_size : MethodName := ⟨RX8, "size", "(IIII)I"⟩
abbrev cX8_hulls : ByteArray := prog_10_method_50_code
def yX8_hulls : MethodName := ⟨RX8, "hulls", "(II)I"⟩
abbrev cX8_partedAt : ByteArray := prog_10_method_51_code
def yX8_partedAt : MethodName := ⟨RX8, "partedAt", "(III)I"⟩
abbrev cX8_ask : ByteArray := prog_10_method_52_code
def yX8_ask : MethodName := ⟨RX8, "ask", "(I)I"⟩
abbrev cX8_feeds : ByteArray := prog_10_method_53_code
def yX8_feeds : MethodName := ⟨RX8, "feeds", "(I)V"⟩
abbrev cX8_feed : ByteArray := prog_10_method_54_code
def yX8_feed : MethodName := ⟨RX8, "feed", "(IIIII)I"⟩
abbrev cX8_end : ByteArray := prog_10_method_55_code
def yX8_end : MethodName := ⟨RX8, "end", "(I)Z"⟩
abbrev cX8_between : ByteArray := prog_10_method_56_code
def yX8_between : MethodName := ⟨RX8, "between", "(III)Z"⟩
abbrev cX8_next : ByteArray := prog_10_method_57_code
def yX8_next : MethodName := ⟨RX8, "next", "()V"⟩
abbrev cX8_passes : ByteArray := prog_10_method_58_code
def yX8_passes : MethodName := ⟨RX8, "passes", "(Z)Z"⟩
abbrev cX8_isWord : ByteArray := prog_10_method_59_code
def yX8_isWord : MethodName := ⟨RX8, "isWord", "(Ljava/lang/String;)Z"⟩
abbrev cX8_isSign : ByteArray := prog_10_method_60_code
def yX8_isSign : MethodName := ⟨RX8, "isSign", "(I)Z"⟩
abbrev cX8_mark : ByteArray := prog_10_method_61_code
def yX8_mark : MethodName := ⟨RX8, "mark", "(I)V"⟩
abbrev cX8_factor : ByteArray := prog_10_method_62_code
def yX8_factor : MethodName := ⟨RX8, "factor", "(I)Z"⟩
abbrev cX8_product : ByteArray := prog_10_method_63_code
def yX8_product : MethodName := ⟨RX8, "product", "(I)Z"⟩
abbrev cX8_sum : ByteArray := prog_10_method_64_code
def yX8_sum : MethodName := ⟨RX8, "sum", "(I)Z"⟩
abbrev cX8_compares : ByteArray := prog_10_method_65_code
def yX8_compares : MethodName := ⟨RX8, "compares", "()Z"⟩
abbrev cX8_holdsRead : ByteArray := prog_10_method_66_code
def yX8_holdsRead : MethodName := ⟨RX8, "holdsRead", "()Z"⟩
abbrev cX8_begins : ByteArray := prog_10_method_67_code
def yX8_begins : MethodName := ⟨RX8, "begins", "(I)V"⟩
abbrev cX8_ends : ByteArray := prog_10_method_68_code
def yX8_ends : MethodName := ⟨RX8, "ends", "(I)Z"⟩
abbrev cX8_line : ByteArray := prog_10_method_69_code
def yX8_line : MethodName := ⟨RX8, "line", "()Z"⟩
abbrev cX8_reads : ByteArray := prog_10_method_70_code
def yX8_reads : MethodName := ⟨RX8, "reads", "()V"⟩
abbrev cX8_fault : ByteArray := prog_10_method_71_code
def yX8_fault : MethodName := ⟨RX8, "fault", "()I"⟩
abbrev cX8_rules : ByteArray := prog_10_method_72_code
def yX8_rules : MethodName := ⟨RX8, "rules", "()I"⟩
abbrev cX8_brought : ByteArray := prog_10_method_73_code
def yX8_brought : MethodName := ⟨RX8, "brought", "(J)I"⟩
abbrev cX8_worked : ByteArray := prog_10_method_74_code
def yX8_worked : MethodName := ⟨RX8, "worked", "(I)I"⟩
abbrev cX8_lays : ByteArray := prog_10_method_75_code
def yX8_lays : MethodName := ⟨RX8, "lays", "(IIII)V"⟩
abbrev cX8_areLater : ByteArray := prog_10_method_76_code
def yX8_areLater : MethodName := ⟨RX8, "areLater", "(II)Z"⟩
abbrev cX8_office : ByteArray := prog_10_method_77_code
def yX8_office : MethodName := ⟨RX8, "office", "(IIII)I"⟩
abbrev cX8_grownTo : ByteArray := prog_10_method_78_code
def yX8_grownTo : MethodName := ⟨RX8, "grownTo", "(IIII)I"⟩
abbrev cX8_grown : ByteArray := prog_10_method_79_code
def yX8_grown : MethodName := ⟨RX8, "grown", "(IIII)I"⟩
abbrev cX8_before : ByteArray := prog_10_method_80_code
def yX8_before : MethodName := ⟨RX8, "before", "(IIII)I"⟩
abbrev cX8_lot : ByteArray := prog_10_method_81_code
def yX8_lot : MethodName := ⟨RX8, "lot", "(I)I"⟩
abbrev cX8_draw : ByteArray := prog_10_method_82_code
def yX8_draw : MethodName := ⟨RX8, "draw", "(II)I"⟩
abbrev cX8_count : ByteArray := prog_10_method_83_code
def yX8_count : MethodName := ⟨RX8, "count", "(I)I"⟩
def RJx145de : String := "java/io/Serializable"
def TJx145de : u_T := fun k => match k with
  | _ => ("", "", "", false)
def tyJx145de : Nat → FieldType := fun k => match k with
  | _ => .int
abbrev wsJx145de0 : List Cond := u_ws RJx145de TJx145de 0
theorem nmJx145de : ∀ a, a < 0 → ∀ b, b < 0 → a ≠ b → (TJx145de a).2.1 ≠ (TJx145de b).2.1 := by decide +kernel
theorem tyJx145de_ok : ∀ k, k < 0 → parseFieldDescriptor (TJx145de k).2.2.1 = some (tyJx145de k) := by decide +kernel
def RJx9f9b0 : String := "java/lang/CharSequence"
def TJx9f9b0 : u_T := fun k => match k with
  | _ => ("", "", "", false)
def tyJx9f9b0 : Nat → FieldType := fun k => match k with
  | _ => .int
abbrev wsJx9f9b00 : List Cond := u_ws RJx9f9b0 TJx9f9b0 0
theorem nmJx9f9b0 : ∀ a, a < 0 → ∀ b, b < 0 → a ≠ b → (TJx9f9b0 a).2.1 ≠ (TJx9f9b0 b).2.1 := by decide +kernel
theorem tyJx9f9b0_ok : ∀ k, k < 0 → parseFieldDescriptor (TJx9f9b0 k).2.2.1 = some (tyJx9f9b0 k) := by decide +kernel
def RJ11 : String := "java/lang/Character"
def TJ11 : u_T := fun k => match k with
  | _ => ("", "", "", false)
def tyJ11 : Nat → FieldType := fun k => match k with
  | _ => .int
abbrev wsJ110 : List Cond := u_ws RJ11 TJ11 0
theorem nmJ11 : ∀ a, a < 0 → ∀ b, b < 0 → a ≠ b → (TJ11 a).2.1 ≠ (TJ11 b).2.1 := by decide +kernel
theorem tyJ11_ok : ∀ k, k < 0 → parseFieldDescriptor (TJ11 k).2.2.1 = some (tyJ11 k) := by decide +kernel
abbrev cJ11_isValidCodePoint_9a6ad : ByteArray := prog_11_method_11_code
def yJ11_isValidCodePoint_9a6ad : MethodName := ⟨RJ11, "isValidCodePoint", "(I)Z"⟩
abbrev cJ11_highSurrogate_5068e : ByteArray := prog_11_method_28_code
def yJ11_highSurrogate_5068e : MethodName := ⟨RJ11, "highSurrogate", "(I)C"⟩
abbrev cJ11_lowSurrogate_5068e : ByteArray := prog_11_method_29_code
def yJ11_lowSurrogate_5068e : MethodName := ⟨RJ11, "lowSurrogate", "(I)C"⟩
def RJxb160c : String := "java/lang/Comparable"
def TJxb160c : u_T := fun k => match k with
  | _ => ("", "", "", false)
def tyJxb160c : Nat → FieldType := fun k => match k with
  | _ => .int
abbrev wsJxb160c0 : List Cond := u_ws RJxb160c TJxb160c 0
theorem nmJxb160c : ∀ a, a < 0 → ∀ b, b < 0 → a ≠ b → (TJxb160c a).2.1 ≠ (TJxb160c b).2.1 := by decide +kernel
theorem tyJxb160c_ok : ∀ k, k < 0 → parseFieldDescriptor (TJxb160c k).2.2.1 = some (tyJxb160c k) := by decide +kernel
def RJ6 : String := "java/lang/Integer"
def TJ6 : u_T := fun k => match k with
  | _ => ("", "", "", false)
def tyJ6 : Nat → FieldType := fun k => match k with
  | _ => .int
abbrev wsJ60 : List Cond := u_ws RJ6 TJ6 0
theorem nmJ6 : ∀ a, a < 0 → ∀ b, b < 0 → a ≠ b → (TJ6 a).2.1 ≠ (TJ6 b).2.1 := by decide +kernel
theorem tyJ6_ok : ∀ k, k < 0 → parseFieldDescriptor (TJ6 k).2.2.1 = some (tyJ6 k) := by decide +kernel
abbrev cJ6_bitCount_0f7a4 : ByteArray := prog_12_method_49_code
def yJ6_bitCount_0f7a4 : MethodName := ⟨RJ6, "bitCount", "(I)I"⟩
def RJ9 : String := "java/lang/Math"
def TJ9 : u_T := fun k => match k with
  | _ => ("", "", "", false)
def tyJ9 : Nat → FieldType := fun k => match k with
  | _ => .int
abbrev wsJ90 : List Cond := u_ws RJ9 TJ9 0
theorem nmJ9 : ∀ a, a < 0 → ∀ b, b < 0 → a ≠ b → (TJ9 a).2.1 ≠ (TJ9 b).2.1 := by decide +kernel
theorem tyJ9_ok : ∀ k, k < 0 → parseFieldDescriptor (TJ9 k).2.2.1 = some (tyJ9 k) := by decide +kernel
abbrev cJ9_floorDiv_7cf53 : ByteArray := prog_13_method_47_code
def yJ9_floorDiv_7cf53 : MethodName := ⟨RJ9, "floorDiv", "(II)I"⟩
abbrev cJ9_floorMod_7cf53 : ByteArray := prog_13_method_50_code
def yJ9_floorMod_7cf53 : MethodName := ⟨RJ9, "floorMod", "(II)I"⟩
abbrev cJ9_abs_0f7a4 : ByteArray := prog_13_method_59_code
def yJ9_abs_0f7a4 : MethodName := ⟨RJ9, "abs", "(I)I"⟩
abbrev cJ9_max_7cf53 : ByteArray := prog_13_method_65_code
def yJ9_max_7cf53 : MethodName := ⟨RJ9, "max", "(II)I"⟩
abbrev cJ9_max_f86c9 : ByteArray := prog_13_method_66_code
def yJ9_max_f86c9 : MethodName := ⟨RJ9, "max", "(JJ)J"⟩
abbrev cJ9_min_7cf53 : ByteArray := prog_13_method_69_code
def yJ9_min_7cf53 : MethodName := ⟨RJ9, "min", "(II)I"⟩
abbrev cJ9_min_f86c9 : ByteArray := prog_13_method_70_code
def yJ9_min_f86c9 : MethodName := ⟨RJ9, "min", "(JJ)J"⟩
def RJ0 : String := "java/lang/String"
def TJ0 : u_T := fun k => match k with
  | _ => ("", "", "", false)
def tyJ0 : Nat → FieldType := fun k => match k with
  | _ => .int
abbrev wsJ00 : List Cond := u_ws RJ0 TJ0 0
theorem nmJ0 : ∀ a, a < 0 → ∀ b, b < 0 → a ≠ b → (TJ0 a).2.1 ≠ (TJ0 b).2.1 := by decide +kernel
theorem tyJ0_ok : ∀ k, k < 0 → parseFieldDescriptor (TJ0 k).2.2.1 = some (tyJ0 k) := by decide +kernel
abbrev cJ0_length_8abf5 : ByteArray := prog_14_method_54_code
def yJ0_length_8abf5 : MethodName := ⟨RJ0, "length", "()I"⟩
abbrev cJ0_charAt_5068e : ByteArray := prog_14_method_56_code
def yJ0_charAt_5068e : MethodName := ⟨RJ0, "charAt", "(I)C"⟩
abbrev cJ0_indexOf_0f7a4 : ByteArray := prog_14_method_79_code
def yJ0_indexOf_0f7a4 : MethodName := ⟨RJ0, "indexOf", "(I)I"⟩
abbrev cJ0_indexOf_7cf53 : ByteArray := prog_14_method_80_code
def yJ0_indexOf_7cf53 : MethodName := ⟨RJ0, "indexOf", "(II)I"⟩
abbrev cJ0_coder_7d493 : ByteArray := prog_14_method_152_code
def yJ0_coder_7d493 : MethodName := ⟨RJ0, "coder", "()B"⟩
abbrev cJ0_isLatin1_aae02 : ByteArray := prog_14_method_154_code
def yJ0_isLatin1_aae02 : MethodName := ⟨RJ0, "isLatin1", "()Z"⟩
abbrev cJ0_checkIndex_df160 : ByteArray := prog_14_method_155_code
def yJ0_checkIndex_df160 : MethodName := ⟨RJ0, "checkIndex", "(II)V"⟩
abbrev cJ0_checkBoundsBeginEnd_23922 : ByteArray := prog_14_method_158_code
def yJ0_checkBoundsBeginEnd_23922 : MethodName := ⟨RJ0, "checkBoundsBeginEnd", "(III)V"⟩
def RJ1 : String := "java/lang/StringLatin1"
def TJ1 : u_T := fun k => match k with
  | _ => ("", "", "", false)
def tyJ1 : Nat → FieldType := fun k => match k with
  | _ => .int
abbrev wsJ10 : List Cond := u_ws RJ1 TJ1 0
theorem nmJ1 : ∀ a, a < 0 → ∀ b, b < 0 → a ≠ b → (TJ1 a).2.1 ≠ (TJ1 b).2.1 := by decide +kernel
theorem tyJ1_ok : ∀ k, k < 0 → parseFieldDescriptor (TJ1 k).2.2.1 = some (tyJ1 k) := by decide +kernel
abbrev cJ1_charAt_3b067 : ByteArray := prog_15_method_2_code
def yJ1_charAt_3b067 : MethodName := ⟨RJ1, "charAt", "([BI)C"⟩
abbrev cJ1_canEncode_9a6ad : ByteArray := prog_15_method_4_code
def yJ1_canEncode_9a6ad : MethodName := ⟨RJ1, "canEncode", "(I)Z"⟩
abbrev cJ1_indexOf_4cfef : ByteArray := prog_15_method_22_code
def yJ1_indexOf_4cfef : MethodName := ⟨RJ1, "indexOf", "([BIII)I"⟩
abbrev cJ1_indexOfChar_4cfef : ByteArray := prog_15_method_23_code
def yJ1_indexOfChar_4cfef : MethodName := ⟨RJ1, "indexOfChar", "([BIII)I"⟩
def RJ2 : String := "java/lang/StringUTF16"
def TJ2 : u_T := fun k => match k with
  | _ => ("", "", "", false)
def tyJ2 : Nat → FieldType := fun k => match k with
  | _ => .int
abbrev wsJ20 : List Cond := u_ws RJ2 TJ2 0
theorem nmJ2 : ∀ a, a < 0 → ∀ b, b < 0 → a ≠ b → (TJ2 a).2.1 ≠ (TJ2 b).2.1 := by decide +kernel
theorem tyJ2_ok : ∀ k, k < 0 → parseFieldDescriptor (TJ2 k).2.2.1 = some (tyJ2 k) := by decide +kernel
abbrev cJ2_getChar_3b067 : ByteArray := prog_16_method_5_code
def yJ2_getChar_3b067 : MethodName := ⟨RJ2, "getChar", "([BI)C"⟩
abbrev cJ2_length_9d52b : ByteArray := prog_16_method_6_code
def yJ2_length_9d52b : MethodName := ⟨RJ2, "length", "([B)I"⟩
abbrev cJ2_indexOf_4cfef : ByteArray := prog_16_method_40_code
def yJ2_indexOf_4cfef : MethodName := ⟨RJ2, "indexOf", "([BIII)I"⟩
abbrev cJ2_indexOfChar_4cfef : ByteArray := prog_16_method_47_code
def yJ2_indexOfChar_4cfef : MethodName := ⟨RJ2, "indexOfChar", "([BIII)I"⟩
abbrev cJ2_indexOfCharUnsafe_4cfef : ByteArray := prog_16_method_48_code
def yJ2_indexOfCharUnsafe_4cfef : MethodName := ⟨RJ2, "indexOfCharUnsafe", "([BIII)I"⟩
abbrev cJ2_indexOfSupplementary_4cfef : ByteArray := prog_16_method_49_code
def yJ2_indexOfSupplementary_4cfef : MethodName := ⟨RJ2, "indexOfSupplementary", "([BIII)I"⟩
abbrev cJ2_charAt_3b067 : ByteArray := prog_16_method_83_code
def yJ2_charAt_3b067 : MethodName := ⟨RJ2, "charAt", "([BI)C"⟩
abbrev cJ2_checkIndex_2214a : ByteArray := prog_16_method_91_code
def yJ2_checkIndex_2214a : MethodName := ⟨RJ2, "checkIndex", "(I[B)V"⟩
abbrev cJ2_checkBoundsBeginEnd_d044e : ByteArray := prog_16_method_93_code
def yJ2_checkBoundsBeginEnd_d044e : MethodName := ⟨RJ2, "checkBoundsBeginEnd", "(II[B)V"⟩
def RJxfd54e : String := "java/lang/constant/Constable"
def TJxfd54e : u_T := fun k => match k with
  | _ => ("", "", "", false)
def tyJxfd54e : Nat → FieldType := fun k => match k with
  | _ => .int
abbrev wsJxfd54e0 : List Cond := u_ws RJxfd54e TJxfd54e 0
theorem nmJxfd54e : ∀ a, a < 0 → ∀ b, b < 0 → a ≠ b → (TJxfd54e a).2.1 ≠ (TJxfd54e b).2.1 := by decide +kernel
theorem tyJxfd54e_ok : ∀ k, k < 0 → parseFieldDescriptor (TJxfd54e k).2.2.1 = some (tyJxfd54e k) := by decide +kernel
def RJx3cf43 : String := "java/lang/constant/ConstantDesc"
def TJx3cf43 : u_T := fun k => match k with
  | _ => ("", "", "", false)
def tyJx3cf43 : Nat → FieldType := fun k => match k with
  | _ => .int
abbrev wsJx3cf430 : List Cond := u_ws RJx3cf43 TJx3cf43 0
theorem nmJx3cf43 : ∀ a, a < 0 → ∀ b, b < 0 → a ≠ b → (TJx3cf43 a).2.1 ≠ (TJx3cf43 b).2.1 := by decide +kernel
theorem tyJx3cf43_ok : ∀ k, k < 0 → parseFieldDescriptor (TJx3cf43 k).2.2.1 = some (tyJx3cf43 k) := by decide +kernel
def RJ7 : String := "java/util/Arrays"
def TJ7 : u_T := fun k => match k with
  | _ => ("", "", "", false)
def tyJ7 : Nat → FieldType := fun k => match k with
  | _ => .int
abbrev wsJ70 : List Cond := u_ws RJ7 TJ7 0
theorem nmJ7 : ∀ a, a < 0 → ∀ b, b < 0 → a ≠ b → (TJ7 a).2.1 ≠ (TJ7 b).2.1 := by decide +kernel
theorem tyJ7_ok : ∀ k, k < 0 → parseFieldDescriptor (TJ7 k).2.2.1 = some (tyJ7 k) := by decide +kernel
abbrev cJ7_fill_53178 : ByteArray := prog_17_method_103_code
def yJ7_fill_53178 : MethodName := ⟨RJ7, "fill", "([II)V"⟩
def RJ3 : String := "jdk/internal/util/Preconditions"
def TJ3 : u_T := fun k => match k with
  | _ => ("", "", "", false)
def tyJ3 : Nat → FieldType := fun k => match k with
  | _ => .int
abbrev wsJ30 : List Cond := u_ws RJ3 TJ3 0
theorem nmJ3 : ∀ a, a < 0 → ∀ b, b < 0 → a ≠ b → (TJ3 a).2.1 ≠ (TJ3 b).2.1 := by decide +kernel
theorem tyJ3_ok : ∀ k, k < 0 → parseFieldDescriptor (TJ3 k).2.2.1 = some (tyJ3 k) := by decide +kernel
abbrev cJ3_checkIndex_8e157 : ByteArray := prog_18_method_11_code
def yJ3_checkIndex_8e157 : MethodName := ⟨RJ3, "checkIndex", "(IILjava/util/function/BiFunction;)I"⟩
abbrev cJ3_checkFromToIndex_8c36e : ByteArray := prog_18_method_12_code
def yJ3_checkFromToIndex_8c36e : MethodName := ⟨RJ3, "checkFromToIndex", "(IIILjava/util/function/BiFunction;)I"⟩
def RL : String := "MarshLightsLaw"
abbrev cL_law : ByteArray := code
def yL_law : MethodName := ⟨RL, "law", "([I)Z"⟩
abbrev vwCl : List vw_C := [(RX0, TX0, 6), (RX1, TX1, 4), (RX2, TX2, 6), (RX3, TX3, 10), (RX4, TX4, 10), (RX5, TX5, 14), (RX6, TX6, 15), (RX7, TX7, 19), (RX8, TX8, 45)]
/-! ===== object numbers: what stands where (64 on: what the law makes, in order) ===== -/
def zk (o : Nat) : Nat := if o < 64 then 0 else if o < 65 then 8 else if o < 66 then 2 else if o < 67 then 20 else if o < 68 then 20 else if o < 69 then 5 else if o < 70 then 20 else if o < 71 then 23 else if o < 72 then 24 else if o < 73 then 20 else if o < 74 then 20 else if o < 75 then 1 else if o < 76 then 3 else if o < 77 then 20 else if o < 78 then 20 else if o < 79 then 20 else if o < 80 then 4 else if o < 81 then 20 else if o < 82 then 20 else if o < 83 then 20 else if o < 84 then 20 else if o < 85 then 20 else if o < 86 then 4 else if o < 87 then 20 else if o < 88 then 20 else if o < 89 then 20 else if o < 90 then 20 else if o < 91 then 20 else if o < 92 then 20 else if o < 104 then 7 else if o < 164 then 6 else if o < 165 then 9 else if o < 166 then 20 else if o < 167 then 20 else if o < 168 then 20 else if o < 169 then 20 else if o < 170 then 20 else if o < 171 then 20 else if o < 172 then 20 else if o < 173 then 20 else if o < 174 then 20 else if o < 175 then 20 else if o < 176 then 20 else if o < 177 then 20 else if o < 178 then 20 else if o < 179 then 20 else if o < 180 then 20 else if o < 181 then 20 else if o < 182 then 20 else if o < 183 then 25 else if o < 243 then 20 else if o < 244 then 20 else if o < 245 then 21 else if o < 246 then 25 else if o < 248 then 20 else if o < 249 then 25 else if o < 251 then 20 else if o < 252 then 25 else if o < 254 then 20 else if o < 255 then 25 else if o < 257 then 20 else if o < 258 then 20 else if o < 259 then 20 else if o < 260 then 22 else if o < 261 then 20 else if o < 262 then 20 else if o < 263 then 26 else if o < 264 then 26 else 0
def zn (o : Nat) : Nat := if o < 64 then 0 else if o < 65 then 0 else if o < 66 then 0 else if o < 67 then 4096 else if o < 68 then 4096 else if o < 69 then 0 else if o < 70 then 20 else if o < 71 then 12 else if o < 72 then 60 else if o < 73 then 12 else if o < 74 then 60 else if o < 75 then 0 else if o < 76 then 0 else if o < 77 then 400 else if o < 78 then 401 else if o < 79 then 401 else if o < 80 then 0 else if o < 81 then 400 else if o < 82 then 12 else if o < 83 then 12 else if o < 84 then 12 else if o < 85 then 24 else if o < 86 then 0 else if o < 87 then 400 else if o < 88 then 12 else if o < 89 then 12 else if o < 90 then 12 else if o < 91 then 24 else if o < 92 then 7 else if o < 104 then 0 else if o < 164 then 0 else if o < 165 then 0 else if o < 166 then 8 else if o < 167 then 8 else if o < 168 then 8 else if o < 169 then 8 else if o < 170 then 8 else if o < 171 then 20 else if o < 172 then 20 else if o < 173 then 12 else if o < 174 then 12 else if o < 175 then 12 else if o < 176 then 12 else if o < 177 then 12 else if o < 178 then 12 else if o < 179 then 12 else if o < 180 then 12 else if o < 181 then 12 else if o < 182 then 12 else if o < 183 then 60 else if o < 243 then 9 else if o < 244 then 60 else if o < 245 then 400 else if o < 246 then 2 else if o < 248 then 420 else if o < 249 then 2 else if o < 251 then 13 else if o < 252 then 2 else if o < 254 then 13 else if o < 255 then 2 else if o < 257 then 13 else if o < 258 then 2 else if o < 259 then 2 else if o < 260 then 2 else if o < 261 then 420 else if o < 262 then 7 else if o < 263 then 7 else if o < 264 then 7 else 0
def zN (c : Nat) : Nat := match c with | 0 => 6 | 1 => 4 | 2 => 6 | 3 => 10 | 4 => 10 | 5 => 14 | 6 => 15 | 7 => 19 | 8 => 45 | _ => 0
def zRn (c : Nat) : String := match c with | 0 => RX0 | 1 => RX1 | 2 => RX2 | 3 => RX3 | 4 => RX4 | 5 => RX5 | 6 => RX6 | 7 => RX7 | _ => RX8
def zT (c : Nat) : u_T := match c with | 0 => TX0 | 1 => TX1 | 2 => TX2 | 3 => TX3 | 4 => TX4 | 5 => TX5 | 6 => TX6 | 7 => TX7 | _ => TX8
def zty (c : Nat) : Nat → FieldType := match c with | 0 => tyX0 | 1 => tyX1 | 2 => tyX2 | 3 => tyX3 | 4 => tyX4 | 5 => tyX5 | 6 => tyX6 | 7 => tyX7 | _ => tyX8
/-- the slots of the first n objects -/
def zsl (o : Nat) : Nat := if zk o < 20 then zN (zk o - 1) else zn o
def zSS : Nat → Nat
  | 0 => 0
  | n + 1 => zSS n + zsl (64 + n)
/-! ===== the words that keep, and those of the nest ===== -/
def zNest : Cond → Bool
  | .fieldLinkNest .. => true
  | .methodLinkNest .. => true
  | _ => false
def lw_g : List Cond := lw_tbl.filter goodWord
def lw_n : List Cond := lw_tbl.filter zNest
theorem lw_g_in : ∀ w ∈ lw_g, w ∈ lw_tbl := fun _ h => (List.mem_filter.mp h).1
theorem lw_n_in : ∀ w ∈ lw_n, w ∈ lw_tbl := fun _ h => (List.mem_filter.mp h).1
theorem lw_g_good : ∀ w ∈ lw_g, goodWord w = true := fun _ h => (List.mem_filter.mp h).2
theorem zin {w : Cond} (i : Nat) (h : tables_1[i]? = some w) (hg : goodWord w = true) : w ∈ lw_g := List.mem_filter.mpr ⟨List.mem_append_right _ (List.mem_of_getElem? h), hg⟩
theorem zinp {w : Cond} (i : Nat) (h : (k2_sels lw_privs)[i]? = some w) (hg : goodWord w = true) : w ∈ lw_g := List.mem_filter.mpr ⟨List.mem_append_left _ (List.mem_of_getElem? h), hg⟩
theorem zinn {w : Cond} (i : Nat) (h : tables_1[i]? = some w) (hg : zNest w = true) : w ∈ lw_n := List.mem_filter.mpr ⟨List.mem_append_right _ (List.mem_of_getElem? h), hg⟩
def zCl (c : Nat) : Prop := vwCl[c]? = some (zRn c, zT c, zN c) ∧ (∀ w ∈ u_ws (zRn c) (zT c) (zN c), w ∈ lw_g) ∧ (∀ k, k < zN c → parseFieldDescriptor (zT c k).2.2.1 = some (zty c k)) ∧ (∀ a, a < zN c → ∀ b, b < zN c → a ≠ b → (zT c a).2.1 ≠ (zT c b).2.1)
theorem zCl0 : zCl 0 := ⟨rfl, by decide +kernel, tyX0_ok, nmX0⟩
theorem zCl1 : zCl 1 := ⟨rfl, by decide +kernel, tyX1_ok, nmX1⟩
theorem zCl2 : zCl 2 := ⟨rfl, by decide +kernel, tyX2_ok, nmX2⟩
theorem zCl3 : zCl 3 := ⟨rfl, by decide +kernel, tyX3_ok, nmX3⟩
theorem zCl4 : zCl 4 := ⟨rfl, by decide +kernel, tyX4_ok, nmX4⟩
theorem zCl5 : zCl 5 := ⟨rfl, by decide +kernel, tyX5_ok, nmX5⟩
theorem zCl6 : zCl 6 := ⟨rfl, by decide +kernel, tyX6_ok, nmX6⟩
theorem zCl7 : zCl 7 := ⟨rfl, by decide +kernel, tyX7_ok, nmX7⟩
theorem zCl8 : zCl 8 := ⟨rfl, by decide +kernel, tyX8_ok, nmX8⟩
/-! ===== the texts that the class and the reference name ===== -/
def zSb : List (List Int32) := [[103, 114, 111, 119, 32, 115, 97, 121, 32, 105, 102, 32, 97, 110, 100, 32, 115, 116, 97, 114, 32, 102, 108, 105, 103, 104, 116, 32, 102, 108, 97, 114, 101, 32, 108, 97, 109, 112, 32, 98, 97, 108, 108, 111, 111, 110, 32, 98, 117, 114, 110, 105, 110, 103, 32, 110, 111, 110, 101, 32, 108, 105, 103, 104, 116, 115, 32, 104, 117, 108, 108, 32, 100, 97, 121, 115, 32, 112, 97, 112, 101, 114, 115, 32, 109, 105, 110, 117, 116, 101, 32, 119, 97, 121, 32, 115, 108, 111, 112, 101, 32], [43, 45, 42, 60, 61, 40, 41, 59], [115, 116, 97, 114], [102, 108, 105, 103, 104, 116], [102, 108, 97, 114, 101], [108, 97, 109, 112], [98, 97, 108, 108, 111, 111, 110], [98, 117, 114, 110, 105, 110, 103], [110, 111, 110, 101], [108, 105, 103, 104, 116, 115], [104, 117, 108, 108], [100, 97, 121, 115], [112, 97, 112, 101, 114, 115], [109, 105, 110, 117, 116, 101], [119, 97, 121], [115, 108, 111, 112, 101], [103, 114, 111, 119], [115, 97, 121], [105, 102], [97, 110, 100]]
def zSl : List Nat := [101, 8, 4, 6, 5, 4, 7, 7, 4, 6, 4, 4, 6, 6, 3, 5, 4, 3, 2, 3]
def zSo (i : Nat) : String × Nat × String := match i with | 0 => (RX2, 83, "grow say if and star flight flare lamp balloon burning none lights hull days papers minute way slope ") | 1 => (RX2, 71, "+-*<=();") | 2 => (RX8, 110, "star") | 3 => (RX8, 112, "flight") | 4 => (RX8, 114, "flare") | 5 => (RX8, 116, "lamp") | 6 => (RX8, 118, "balloon") | 7 => (RX8, 120, "burning") | 8 => (RX8, 122, "none") | 9 => (RX8, 128, "lights") | 10 => (RX8, 130, "hull") | 11 => (RX8, 132, "days") | 12 => (RX8, 134, "papers") | 13 => (RX8, 136, "minute") | 14 => (RX8, 138, "way") | 15 => (RX8, 140, "slope") | 16 => (RX8, 381, "grow") | 17 => (RX8, 389, "say") | 18 => (RX8, 391, "if") | 19 => (RX8, 379, "and") | _ => ("", 0, "")
end
section
/-! ===== methods ===== -/
abbrev zM : Type := MethodName × ByteArray × Nat × Option FieldType
def zMk (M : zM) (n : Nat) : Prop := Cond.code M.1 M.2.1 M.2.2.1 M.2.2.2 ∈ lw_g ∧ Cond.initialized M.1.cls ∈ lw_g ∧ (M.1.cls ≠ "java/lang/invoke/MethodHandle" ∧ M.1.cls ≠ "java/lang/invoke/VarHandle" ∧ (parseMethodDescriptor M.1.desc).map (fun d => d.parameters.length) = some n) ∧ plainFor M.1 = true ∧ M.2.2.1 ≤ 80
abbrev M_X0_init : zM := (yX0_init, cX0_init, 1, none)
theorem k_X0_init : zMk M_X0_init 0 := ⟨zin 98 (by decide +kernel) (by decide +kernel), zin 5 (by decide +kernel) (by decide +kernel), ⟨by decide +kernel, by decide +kernel, by decide +kernel⟩, by decide +kernel, by decide⟩
abbrev M_X0_clear : zM := (yX0_clear, cX0_clear, 1, none)
theorem k_X0_clear : zMk M_X0_clear 0 := ⟨zin 611 (by decide +kernel) (by decide +kernel), zin 5 (by decide +kernel) (by decide +kernel), ⟨by decide +kernel, by decide +kernel, by decide +kernel⟩, by decide +kernel, by decide⟩
abbrev M_X0_add : zM := (yX0_add, cX0_add, 3, none)
theorem k_X0_add : zMk M_X0_add 2 := ⟨zin 642 (by decide +kernel) (by decide +kernel), zin 5 (by decide +kernel) (by decide +kernel), ⟨by decide +kernel, by decide +kernel, by decide +kernel⟩, by decide +kernel, by decide⟩
abbrev M_X0_part : zM := (yX0_part, cX0_part, 2, some (.int))
theorem k_X0_part : zMk M_X0_part 1 := ⟨zin 648 (by decide +kernel) (by decide +kernel), zin 5 (by decide +kernel) (by decide +kernel), ⟨by decide +kernel, by decide +kernel, by decide +kernel⟩, by decide +kernel, by decide⟩
abbrev M_X1_init : zM := (yX1_init, cX1_init, 1, none)
theorem k_X1_init : zMk M_X1_init 0 := ⟨zin 30 (by decide +kernel) (by decide +kernel), zin 2 (by decide +kernel) (by decide +kernel), ⟨by decide +kernel, by decide +kernel, by decide +kernel⟩, by decide +kernel, by decide⟩
abbrev M_X1_raise : zM := (yX1_raise, cX1_raise, 8, some (.int))
theorem k_X1_raise : zMk M_X1_raise 3 := ⟨zin 382 (by decide +kernel) (by decide +kernel), zin 2 (by decide +kernel) (by decide +kernel), ⟨by decide +kernel, by decide +kernel, by decide +kernel⟩, by decide +kernel, by decide⟩
abbrev M_X1_groundAt : zM := (yX1_groundAt, cX1_groundAt, 3, some (.int))
theorem k_X1_groundAt : zMk M_X1_groundAt 2 := ⟨zin 441 (by decide +kernel) (by decide +kernel), zin 2 (by decide +kernel) (by decide +kernel), ⟨by decide +kernel, by decide +kernel, by decide +kernel⟩, by decide +kernel, by decide⟩
abbrev M_X1_makerAt : zM := (yX1_makerAt, cX1_makerAt, 3, some (.int))
theorem k_X1_makerAt : zMk M_X1_makerAt 2 := ⟨zin 522 (by decide +kernel) (by decide +kernel), zin 2 (by decide +kernel) (by decide +kernel), ⟨by decide +kernel, by decide +kernel, by decide +kernel⟩, by decide +kernel, by decide⟩
abbrev M_X2_init : zM := (yX2_init, cX2_init, 1, none)
theorem k_X2_init : zMk M_X2_init 0 := ⟨zin 123 (by decide +kernel) (by decide +kernel), zin 6 (by decide +kernel) (by decide +kernel), ⟨by decide +kernel, by decide +kernel, by decide +kernel⟩, by decide +kernel, by decide⟩
abbrev M_X2_append : zM := (yX2_append, cX2_append, 3, none)
theorem k_X2_append : zMk M_X2_append 1 := ⟨zin 694 (by decide +kernel) (by decide +kernel), zin 6 (by decide +kernel) (by decide +kernel), ⟨by decide +kernel, by decide +kernel, by decide +kernel⟩, by decide +kernel, by decide⟩
abbrev M_X2_judge : zM := (yX2_judge, cX2_judge, 4, some (.int))
theorem k_X2_judge : zMk M_X2_judge 1 := ⟨zin 706 (by decide +kernel) (by decide +kernel), zin 6 (by decide +kernel) (by decide +kernel), ⟨by decide +kernel, by decide +kernel, by decide +kernel⟩, by decide +kernel, by decide⟩
abbrev M_X2_faultPlace : zM := (yX2_faultPlace, cX2_faultPlace, 1, some (.int))
theorem k_X2_faultPlace : zMk M_X2_faultPlace 0 := ⟨zin 886 (by decide +kernel) (by decide +kernel), zin 6 (by decide +kernel) (by decide +kernel), ⟨by decide +kernel, by decide +kernel, by decide +kernel⟩, by decide +kernel, by decide⟩
abbrev M_X2_split : zM := (yX2_split, cX2_split, 4, none)
theorem k_X2_split : zMk M_X2_split 0 := ⟨zin 710 (by decide +kernel) (by decide +kernel), zin 6 (by decide +kernel) (by decide +kernel), ⟨by decide +kernel, by decide +kernel, by decide +kernel⟩, by decide +kernel, by decide⟩
abbrev M_X2_tokenEnd : zM := (yX2_tokenEnd, cX2_tokenEnd, 4, some (.int))
theorem k_X2_tokenEnd : zMk M_X2_tokenEnd 1 := ⟨zin 714 (by decide +kernel) (by decide +kernel), zin 6 (by decide +kernel) (by decide +kernel), ⟨by decide +kernel, by decide +kernel, by decide +kernel⟩, by decide +kernel, by decide⟩
abbrev M_X2_isLetter : zM := (yX2_isLetter, cX2_isLetter, 1, some (.boolean))
theorem k_X2_isLetter : zMk M_X2_isLetter 1 := ⟨zin 717 (by decide +kernel) (by decide +kernel), zin 6 (by decide +kernel) (by decide +kernel), ⟨by decide +kernel, by decide +kernel, by decide +kernel⟩, by decide +kernel, by decide⟩
abbrev M_X2_isDigit : zM := (yX2_isDigit, cX2_isDigit, 1, some (.boolean))
theorem k_X2_isDigit : zMk M_X2_isDigit 1 := ⟨zin 720 (by decide +kernel) (by decide +kernel), zin 6 (by decide +kernel) (by decide +kernel), ⟨by decide +kernel, by decide +kernel, by decide +kernel⟩, by decide +kernel, by decide⟩
abbrev M_X2_tokenOf : zM := (yX2_tokenOf, cX2_tokenOf, 3, some (.int))
theorem k_X2_tokenOf : zMk M_X2_tokenOf 2 := ⟨zin 724 (by decide +kernel) (by decide +kernel), zin 6 (by decide +kernel) (by decide +kernel), ⟨by decide +kernel, by decide +kernel, by decide +kernel⟩, by decide +kernel, by decide⟩
abbrev M_X2_numberOf : zM := (yX2_numberOf, cX2_numberOf, 5, some (.int))
theorem k_X2_numberOf : zMk M_X2_numberOf 2 := ⟨zin 781 (by decide +kernel) (by decide +kernel), zin 6 (by decide +kernel) (by decide +kernel), ⟨by decide +kernel, by decide +kernel, by decide +kernel⟩, by decide +kernel, by decide⟩
abbrev M_X2_wordOf : zM := (yX2_wordOf, cX2_wordOf, 8, some (.int))
theorem k_X2_wordOf : zMk M_X2_wordOf 2 := ⟨zin 728 (by decide +kernel) (by decide +kernel), zin 6 (by decide +kernel) (by decide +kernel), ⟨by decide +kernel, by decide +kernel, by decide +kernel⟩, by decide +kernel, by decide⟩
abbrev M_X2_token : zM := (yX2_token, cX2_token, 1, some (.int))
theorem k_X2_token : zMk M_X2_token 0 := ⟨zin 846 (by decide +kernel) (by decide +kernel), zin 6 (by decide +kernel) (by decide +kernel), ⟨by decide +kernel, by decide +kernel, by decide +kernel⟩, by decide +kernel, by decide⟩
abbrev M_X2_take : zM := (yX2_take, cX2_take, 2, some (.boolean))
theorem k_X2_take : zMk M_X2_take 1 := ⟨zin 870 (by decide +kernel) (by decide +kernel), zin 6 (by decide +kernel) (by decide +kernel), ⟨by decide +kernel, by decide +kernel, by decide +kernel⟩, by decide +kernel, by decide⟩
abbrev M_X2_readLine : zM := (yX2_readLine, cX2_readLine, 4, some (.boolean))
theorem k_X2_readLine : zMk M_X2_readLine 1 := ⟨zin 850 (by decide +kernel) (by decide +kernel), zin 6 (by decide +kernel) (by decide +kernel), ⟨by decide +kernel, by decide +kernel, by decide +kernel⟩, by decide +kernel, by decide⟩
abbrev M_X2_readCondition : zM := (yX2_readCondition, cX2_readCondition, 4, some (.boolean))
theorem k_X2_readCondition : zMk M_X2_readCondition 1 := ⟨zin 878 (by decide +kernel) (by decide +kernel), zin 6 (by decide +kernel) (by decide +kernel), ⟨by decide +kernel, by decide +kernel, by decide +kernel⟩, by decide +kernel, by decide⟩
abbrev M_X2_readSum : zM := (yX2_readSum, cX2_readSum, 5, some (.boolean))
theorem k_X2_readSum : zMk M_X2_readSum 2 := ⟨zin 854 (by decide +kernel) (by decide +kernel), zin 6 (by decide +kernel) (by decide +kernel), ⟨by decide +kernel, by decide +kernel, by decide +kernel⟩, by decide +kernel, by decide⟩
abbrev M_X2_readProduct : zM := (yX2_readProduct, cX2_readProduct, 4, some (.boolean))
theorem k_X2_readProduct : zMk M_X2_readProduct 2 := ⟨zin 858 (by decide +kernel) (by decide +kernel), zin 6 (by decide +kernel) (by decide +kernel), ⟨by decide +kernel, by decide +kernel, by decide +kernel⟩, by decide +kernel, by decide⟩
abbrev M_X2_readFactor : zM := (yX2_readFactor, cX2_readFactor, 4, some (.boolean))
theorem k_X2_readFactor : zMk M_X2_readFactor 2 := ⟨zin 862 (by decide +kernel) (by decide +kernel), zin 6 (by decide +kernel) (by decide +kernel), ⟨by decide +kernel, by decide +kernel, by decide +kernel⟩, by decide +kernel, by decide⟩
abbrev M_X3_init : zM := (yX3_init, cX3_init, 1, none)
theorem k_X3_init : zMk M_X3_init 0 := ⟨zin 149 (by decide +kernel) (by decide +kernel), zin 7 (by decide +kernel) (by decide +kernel), ⟨by decide +kernel, by decide +kernel, by decide +kernel⟩, by decide +kernel, by decide⟩
abbrev M_X3_clear : zM := (yX3_clear, cX3_clear, 1, none)
theorem k_X3_clear : zMk M_X3_clear 0 := ⟨zin 842 (by decide +kernel) (by decide +kernel), zin 7 (by decide +kernel) (by decide +kernel), ⟨by decide +kernel, by decide +kernel, by decide +kernel⟩, by decide +kernel, by decide⟩
abbrev M_X3_emit : zM := (yX3_emit, cX3_emit, 2, none)
theorem k_X3_emit : zMk M_X3_emit 1 := ⟨zin 866 (by decide +kernel) (by decide +kernel), zin 7 (by decide +kernel) (by decide +kernel), ⟨by decide +kernel, by decide +kernel, by decide +kernel⟩, by decide +kernel, by decide⟩
abbrev M_X3_setGrow : zM := (yX3_setGrow, cX3_setGrow, 2, none)
theorem k_X3_setGrow : zMk M_X3_setGrow 1 := ⟨zin 874 (by decide +kernel) (by decide +kernel), zin 7 (by decide +kernel) (by decide +kernel), ⟨by decide +kernel, by decide +kernel, by decide +kernel⟩, by decide +kernel, by decide⟩
abbrev M_X3_addClause : zM := (yX3_addClause, cX3_addClause, 3, none)
theorem k_X3_addClause : zMk M_X3_addClause 2 := ⟨zin 882 (by decide +kernel) (by decide +kernel), zin 7 (by decide +kernel) (by decide +kernel), ⟨by decide +kernel, by decide +kernel, by decide +kernel⟩, by decide +kernel, by decide⟩
abbrev M_X3_firstHolding : zM := (yX3_firstHolding, cX3_firstHolding, 3, some (.int))
theorem k_X3_firstHolding : zMk M_X3_firstHolding 1 := ⟨zin 906 (by decide +kernel) (by decide +kernel), zin 7 (by decide +kernel) (by decide +kernel), ⟨by decide +kernel, by decide +kernel, by decide +kernel⟩, by decide +kernel, by decide⟩
abbrev M_X3_valueOf : zM := (yX3_valueOf, cX3_valueOf, 8, some (.int))
theorem k_X3_valueOf : zMk M_X3_valueOf 3 := ⟨zin 910 (by decide +kernel) (by decide +kernel), zin 7 (by decide +kernel) (by decide +kernel), ⟨by decide +kernel, by decide +kernel, by decide +kernel⟩, by decide +kernel, by decide⟩
abbrev M_X3_joinedBy : zM := (yX3_joinedBy, cX3_joinedBy, 3, some (.int))
theorem k_X3_joinedBy : zMk M_X3_joinedBy 3 := ⟨zin 913 (by decide +kernel) (by decide +kernel), zin 7 (by decide +kernel) (by decide +kernel), ⟨by decide +kernel, by decide +kernel, by decide +kernel⟩, by decide +kernel, by decide⟩
abbrev M_X3_bounded : zM := (yX3_bounded, cX3_bounded, 2, some (.int))
theorem k_X3_bounded : zMk M_X3_bounded 1 := ⟨zin 916 (by decide +kernel) (by decide +kernel), zin 7 (by decide +kernel) (by decide +kernel), ⟨by decide +kernel, by decide +kernel, by decide +kernel⟩, by decide +kernel, by decide⟩
abbrev M_X4_init : zM := (yX4_init, cX4_init, 2, none)
theorem k_X4_init : zMk M_X4_init 1 := ⟨zin 55 (by decide +kernel) (by decide +kernel), zin 4 (by decide +kernel) (by decide +kernel), ⟨by decide +kernel, by decide +kernel, by decide +kernel⟩, by decide +kernel, by decide⟩
abbrev M_X4_look : zM := (yX4_look, cX4_look, 4, some (.boolean))
theorem k_X4_look : zMk M_X4_look 3 := ⟨zin 485 (by decide +kernel) (by decide +kernel), zin 4 (by decide +kernel) (by decide +kernel), ⟨by decide +kernel, by decide +kernel, by decide +kernel⟩, by decide +kernel, by decide⟩
abbrev M_X4_hidingHill : zM := (yX4_hidingHill, cX4_hidingHill, 6, some (.int))
theorem k_X4_hidingHill : zMk M_X4_hidingHill 0 := ⟨zin 518 (by decide +kernel) (by decide +kernel), zin 4 (by decide +kernel) (by decide +kernel), ⟨by decide +kernel, by decide +kernel, by decide +kernel⟩, by decide +kernel, by decide⟩
abbrev M_X4_shows : zM := (yX4_shows, cX4_shows, 4, some (.boolean))
theorem k_X4_shows : zMk M_X4_shows 3 := ⟨zin 656 (by decide +kernel) (by decide +kernel), zin 4 (by decide +kernel) (by decide +kernel), ⟨by decide +kernel, by decide +kernel, by decide +kernel⟩, by decide +kernel, by decide⟩
abbrev M_X5_init : zM := (yX5_init, cX5_init, 1, none)
theorem k_X5_init : zMk M_X5_init 0 := ⟨zin 260 (by decide +kernel) (by decide +kernel), zin 9 (by decide +kernel) (by decide +kernel), ⟨by decide +kernel, by decide +kernel, by decide +kernel⟩, by decide +kernel, by decide⟩
abbrev M_X5_part : zM := (yX5_part, cX5_part, 2, some (.int))
theorem k_X5_part : zMk M_X5_part 1 := ⟨zin 558 (by decide +kernel) (by decide +kernel), zin 9 (by decide +kernel) (by decide +kernel), ⟨by decide +kernel, by decide +kernel, by decide +kernel⟩, by decide +kernel, by decide⟩
abbrev M_X6_init : zM := (yX6_init, cX6_init, 1, none)
theorem k_X6_init : zMk M_X6_init 0 := ⟨zin 193 (by decide +kernel) (by decide +kernel), zin 8 (by decide +kernel) (by decide +kernel), ⟨by decide +kernel, by decide +kernel, by decide +kernel⟩, by decide +kernel, by decide⟩
abbrev M_X6_isThere : zM := (yX6_isThere, cX6_isThere, 3, some (.boolean))
theorem k_X6_isThere : zMk M_X6_isThere 2 := ⟨zin 457 (by decide +kernel) (by decide +kernel), zin 8 (by decide +kernel) (by decide +kernel), ⟨by decide +kernel, by decide +kernel, by decide +kernel⟩, by decide +kernel, by decide⟩
abbrev M_X6_isLit : zM := (yX6_isLit, cX6_isLit, 2, some (.boolean))
theorem k_X6_isLit : zMk M_X6_isLit 1 := ⟨zin 494 (by decide +kernel) (by decide +kernel), zin 8 (by decide +kernel) (by decide +kernel), ⟨by decide +kernel, by decide +kernel, by decide +kernel⟩, by decide +kernel, by decide⟩
abbrev M_X6_xIn : zM := (yX6_xIn, cX6_xIn, 2, some (.int))
theorem k_X6_xIn : zMk M_X6_xIn 1 := ⟨zin 462 (by decide +kernel) (by decide +kernel), zin 8 (by decide +kernel) (by decide +kernel), ⟨by decide +kernel, by decide +kernel, by decide +kernel⟩, by decide +kernel, by decide⟩
abbrev M_X6_yIn : zM := (yX6_yIn, cX6_yIn, 2, some (.int))
theorem k_X6_yIn : zMk M_X6_yIn 1 := ⟨zin 469 (by decide +kernel) (by decide +kernel), zin 8 (by decide +kernel) (by decide +kernel), ⟨by decide +kernel, by decide +kernel, by decide +kernel⟩, by decide +kernel, by decide⟩
abbrev M_X6_zIn : zM := (yX6_zIn, cX6_zIn, 3, some (.int))
theorem k_X6_zIn : zMk M_X6_zIn 2 := ⟨zin 473 (by decide +kernel) (by decide +kernel), zin 8 (by decide +kernel) (by decide +kernel), ⟨by decide +kernel, by decide +kernel, by decide +kernel⟩, by decide +kernel, by decide⟩
abbrev M_X7_init : zM := (yX7_init, cX7_init, 2, none)
theorem k_X7_init : zMk M_X7_init 0 := ⟨zin 22 (by decide +kernel) (by decide +kernel), zin 1 (by decide +kernel) (by decide +kernel), ⟨by decide +kernel, by decide +kernel, by decide +kernel⟩, by decide +kernel, by decide⟩
abbrev M_X7_hill : zM := (yX7_hill, cX7_hill, 5, some (.int))
theorem k_X7_hill : zMk M_X7_hill 3 := ⟨zin 375 (by decide +kernel) (by decide +kernel), zin 1 (by decide +kernel) (by decide +kernel), ⟨by decide +kernel, by decide +kernel, by decide +kernel⟩, by decide +kernel, by decide⟩
abbrev M_X7_seer : zM := (yX7_seer, cX7_seer, 2, some (.int))
theorem k_X7_seer : zMk M_X7_seer 1 := ⟨zin 392 (by decide +kernel) (by decide +kernel), zin 1 (by decide +kernel) (by decide +kernel), ⟨by decide +kernel, by decide +kernel, by decide +kernel⟩, by decide +kernel, by decide⟩
abbrev M_X7_star : zM := (yX7_star, cX7_star, 5, some (.int))
theorem k_X7_star : zMk M_X7_star 3 := ⟨zin 396 (by decide +kernel) (by decide +kernel), zin 1 (by decide +kernel) (by decide +kernel), ⟨by decide +kernel, by decide +kernel, by decide +kernel⟩, by decide +kernel, by decide⟩
abbrev M_X7_flies : zM := (yX7_flies, cX7_flies, 8, some (.int))
theorem k_X7_flies : zMk M_X7_flies 5 := ⟨zin 410 (by decide +kernel) (by decide +kernel), zin 1 (by decide +kernel) (by decide +kernel), ⟨by decide +kernel, by decide +kernel, by decide +kernel⟩, by decide +kernel, by decide⟩
abbrev M_X7_flare : zM := (yX7_flare, cX7_flare, 6, some (.int))
theorem k_X7_flare : zMk M_X7_flare 4 := ⟨zin 426 (by decide +kernel) (by decide +kernel), zin 1 (by decide +kernel) (by decide +kernel), ⟨by decide +kernel, by decide +kernel, by decide +kernel⟩, by decide +kernel, by decide⟩
abbrev M_X7_lamp : zM := (yX7_lamp, cX7_lamp, 6, some (.int))
theorem k_X7_lamp : zMk M_X7_lamp 4 := ⟨zin 433 (by decide +kernel) (by decide +kernel), zin 1 (by decide +kernel) (by decide +kernel), ⟨by decide +kernel, by decide +kernel, by decide +kernel⟩, by decide +kernel, by decide⟩
abbrev M_X7_ground : zM := (yX7_ground, cX7_ground, 2, some (.int))
theorem k_X7_ground : zMk M_X7_ground 1 := ⟨zin 437 (by decide +kernel) (by decide +kernel), zin 1 (by decide +kernel) (by decide +kernel), ⟨by decide +kernel, by decide +kernel, by decide +kernel⟩, by decide +kernel, by decide⟩
abbrev M_X7_at : zM := (yX7_at, cX7_at, 5, some (.int))
theorem k_X7_at : zMk M_X7_at 3 := ⟨zin 445 (by decide +kernel) (by decide +kernel), zin 1 (by decide +kernel) (by decide +kernel), ⟨by decide +kernel, by decide +kernel, by decide +kernel⟩, by decide +kernel, by decide⟩
abbrev M_X7_seen : zM := (yX7_seen, cX7_seen, 6, some (.int))
theorem k_X7_seen : zMk M_X7_seen 4 := ⟨zin 477 (by decide +kernel) (by decide +kernel), zin 1 (by decide +kernel) (by decide +kernel), ⟨by decide +kernel, by decide +kernel, by decide +kernel⟩, by decide +kernel, by decide⟩
abbrev M_X7_tell : zM := (yX7_tell, cX7_tell, 7, some (.int))
theorem k_X7_tell : zMk M_X7_tell 5 := ⟨zin 526 (by decide +kernel) (by decide +kernel), zin 1 (by decide +kernel) (by decide +kernel), ⟨by decide +kernel, by decide +kernel, by decide +kernel⟩, by decide +kernel, by decide⟩
abbrev M_X7_undo : zM := (yX7_undo, cX7_undo, 1, some (.int))
theorem k_X7_undo : zMk M_X7_undo 0 := ⟨zin 542 (by decide +kernel) (by decide +kernel), zin 1 (by decide +kernel) (by decide +kernel), ⟨by decide +kernel, by decide +kernel, by decide +kernel⟩, by decide +kernel, by decide⟩
abbrev M_X7_off : zM := (yX7_off, cX7_off, 3, some (.boolean))
theorem k_X7_off : zMk M_X7_off 2 := ⟨zin 546 (by decide +kernel) (by decide +kernel), zin 1 (by decide +kernel) (by decide +kernel), ⟨by decide +kernel, by decide +kernel, by decide +kernel⟩, by decide +kernel, by decide⟩
abbrev M_X7_telling : zM := (yX7_telling, cX7_telling, 3, some (.int))
theorem k_X7_telling : zMk M_X7_telling 2 := ⟨zin 550 (by decide +kernel) (by decide +kernel), zin 1 (by decide +kernel) (by decide +kernel), ⟨by decide +kernel, by decide +kernel, by decide +kernel⟩, by decide +kernel, by decide⟩
abbrev M_X7_fits : zM := (yX7_fits, cX7_fits, 6, some (.int))
theorem k_X7_fits : zMk M_X7_fits 2 := ⟨zin 562 (by decide +kernel) (by decide +kernel), zin 1 (by decide +kernel) (by decide +kernel), ⟨by decide +kernel, by decide +kernel, by decide +kernel⟩, by decide +kernel, by decide⟩
abbrev M_X7_left : zM := (yX7_left, cX7_left, 4, some (.int))
theorem k_X7_left : zMk M_X7_left 1 := ⟨zin 587 (by decide +kernel) (by decide +kernel), zin 1 (by decide +kernel) (by decide +kernel), ⟨by decide +kernel, by decide +kernel, by decide +kernel⟩, by decide +kernel, by decide⟩
abbrev M_X7_fewest : zM := (yX7_fewest, cX7_fewest, 6, some (.int))
theorem k_X7_fewest : zMk M_X7_fewest 0 := ⟨zin 591 (by decide +kernel) (by decide +kernel), zin 1 (by decide +kernel) (by decide +kernel), ⟨by decide +kernel, by decide +kernel, by decide +kernel⟩, by decide +kernel, by decide⟩
abbrev M_X7_joined : zM := (yX7_joined, cX7_joined, 7, some (.int))
theorem k_X7_joined : zMk M_X7_joined 2 := ⟨zin 603 (by decide +kernel) (by decide +kernel), zin 1 (by decide +kernel) (by decide +kernel), ⟨by decide +kernel, by decide +kernel, by decide +kernel⟩, by decide +kernel, by decide⟩
abbrev M_X7_cross : zM := (yX7_cross, cX7_cross, 7, some (.int))
theorem k_X7_cross : zMk M_X7_cross 3 := ⟨zin 607 (by decide +kernel) (by decide +kernel), zin 1 (by decide +kernel) (by decide +kernel), ⟨by decide +kernel, by decide +kernel, by decide +kernel⟩, by decide +kernel, by decide⟩
abbrev M_X7_out : zM := (yX7_out, cX7_out, 7, some (.int))
theorem k_X7_out : zMk M_X7_out 2 := ⟨zin 652 (by decide +kernel) (by decide +kernel), zin 1 (by decide +kernel) (by decide +kernel), ⟨by decide +kernel, by decide +kernel, by decide +kernel⟩, by decide +kernel, by decide⟩
abbrev M_X7_outs : zM := (yX7_outs, cX7_outs, 11, some (.int))
theorem k_X7_outs : zMk M_X7_outs 4 := ⟨zin 662 (by decide +kernel) (by decide +kernel), zin 1 (by decide +kernel) (by decide +kernel), ⟨by decide +kernel, by decide +kernel, by decide +kernel⟩, by decide +kernel, by decide⟩
abbrev M_X7_size : zM := (yX7_size, cX7_size, 9, some (.int))
theorem k_X7_size : zMk M_X7_size 4 := ⟨zin 670 (by decide +kernel) (by decide +kernel), zin 1 (by decide +kernel) (by decide +kernel), ⟨by decide +kernel, by decide +kernel, by decide +kernel⟩, by decide +kernel, by decide⟩
abbrev M_X7_hulls : zM := (yX7_hulls, cX7_hulls, 6, some (.int))
theorem k_X7_hulls : zMk M_X7_hulls 2 := ⟨zin 674 (by decide +kernel) (by decide +kernel), zin 1 (by decide +kernel) (by decide +kernel), ⟨by decide +kernel, by decide +kernel, by decide +kernel⟩, by decide +kernel, by decide⟩
abbrev M_X7_ask : zM := (yX7_ask, cX7_ask, 5, some (.int))
theorem k_X7_ask : zMk M_X7_ask 1 := ⟨zin 678 (by decide +kernel) (by decide +kernel), zin 1 (by decide +kernel) (by decide +kernel), ⟨by decide +kernel, by decide +kernel, by decide +kernel⟩, by decide +kernel, by decide⟩
abbrev M_X7_feed : zM := (yX7_feed, cX7_feed, 6, some (.int))
theorem k_X7_feed : zMk M_X7_feed 5 := ⟨zin 690 (by decide +kernel) (by decide +kernel), zin 1 (by decide +kernel) (by decide +kernel), ⟨by decide +kernel, by decide +kernel, by decide +kernel⟩, by decide +kernel, by decide⟩
abbrev M_X7_end : zM := (yX7_end, cX7_end, 2, some (.boolean))
theorem k_X7_end : zMk M_X7_end 1 := ⟨zin 698 (by decide +kernel) (by decide +kernel), zin 1 (by decide +kernel) (by decide +kernel), ⟨by decide +kernel, by decide +kernel, by decide +kernel⟩, by decide +kernel, by decide⟩
abbrev M_X7_fault : zM := (yX7_fault, cX7_fault, 1, some (.int))
theorem k_X7_fault : zMk M_X7_fault 0 := ⟨zin 702 (by decide +kernel) (by decide +kernel), zin 1 (by decide +kernel) (by decide +kernel), ⟨by decide +kernel, by decide +kernel, by decide +kernel⟩, by decide +kernel, by decide⟩
abbrev M_X7_rules : zM := (yX7_rules, cX7_rules, 2, some (.int))
theorem k_X7_rules : zMk M_X7_rules 0 := ⟨zin 891 (by decide +kernel) (by decide +kernel), zin 1 (by decide +kernel) (by decide +kernel), ⟨by decide +kernel, by decide +kernel, by decide +kernel⟩, by decide +kernel, by decide⟩
abbrev M_X7_office : zM := (yX7_office, cX7_office, 8, some (.int))
theorem k_X7_office : zMk M_X7_office 4 := ⟨zin 895 (by decide +kernel) (by decide +kernel), zin 1 (by decide +kernel) (by decide +kernel), ⟨by decide +kernel, by decide +kernel, by decide +kernel⟩, by decide +kernel, by decide⟩
abbrev M_X7_grown : zM := (yX7_grown, cX7_grown, 5, some (.int))
theorem k_X7_grown : zMk M_X7_grown 4 := ⟨zin 932 (by decide +kernel) (by decide +kernel), zin 1 (by decide +kernel) (by decide +kernel), ⟨by decide +kernel, by decide +kernel, by decide +kernel⟩, by decide +kernel, by decide⟩
abbrev M_X7_before : zM := (yX7_before, cX7_before, 7, some (.int))
theorem k_X7_before : zMk M_X7_before 4 := ⟨zin 941 (by decide +kernel) (by decide +kernel), zin 1 (by decide +kernel) (by decide +kernel), ⟨by decide +kernel, by decide +kernel, by decide +kernel⟩, by decide +kernel, by decide⟩
abbrev M_X7_draw : zM := (yX7_draw, cX7_draw, 5, some (.int))
theorem k_X7_draw : zMk M_X7_draw 2 := ⟨zin 945 (by decide +kernel) (by decide +kernel), zin 1 (by decide +kernel) (by decide +kernel), ⟨by decide +kernel, by decide +kernel, by decide +kernel⟩, by decide +kernel, by decide⟩
abbrev M_X7_count : zM := (yX7_count, cX7_count, 2, some (.int))
theorem k_X7_count : zMk M_X7_count 1 := ⟨zin 966 (by decide +kernel) (by decide +kernel), zin 1 (by decide +kernel) (by decide +kernel), ⟨by decide +kernel, by decide +kernel, by decide +kernel⟩, by decide +kernel, by decide⟩
abbrev M_X7_isPlace : zM := (yX7_isPlace, cX7_isPlace, 1, some (.boolean))
theorem k_X7_isPlace : zMk M_X7_isPlace 1 := ⟨zin 378 (by decide +kernel) (by decide +kernel), zin 1 (by decide +kernel) (by decide +kernel), ⟨by decide +kernel, by decide +kernel, by decide +kernel⟩, by decide +kernel, by decide⟩
abbrev M_X7_isMinute : zM := (yX7_isMinute, cX7_isMinute, 1, some (.boolean))
theorem k_X7_isMinute : zMk M_X7_isMinute 1 := ⟨zin 452 (by decide +kernel) (by decide +kernel), zin 1 (by decide +kernel) (by decide +kernel), ⟨by decide +kernel, by decide +kernel, by decide +kernel⟩, by decide +kernel, by decide⟩
abbrev M_X7_isSpan : zM := (yX7_isSpan, cX7_isSpan, 1, some (.boolean))
theorem k_X7_isSpan : zMk M_X7_isSpan 1 := ⟨zin 416 (by decide +kernel) (by decide +kernel), zin 1 (by decide +kernel) (by decide +kernel), ⟨by decide +kernel, by decide +kernel, by decide +kernel⟩, by decide +kernel, by decide⟩
abbrev M_X7_isHeight : zM := (yX7_isHeight, cX7_isHeight, 1, some (.boolean))
theorem k_X7_isHeight : zMk M_X7_isHeight 1 := ⟨zin 419 (by decide +kernel) (by decide +kernel), zin 1 (by decide +kernel) (by decide +kernel), ⟨by decide +kernel, by decide +kernel, by decide +kernel⟩, by decide +kernel, by decide⟩
abbrev M_X7_isFall : zM := (yX7_isFall, cX7_isFall, 1, some (.boolean))
theorem k_X7_isFall : zMk M_X7_isFall 1 := ⟨zin 429 (by decide +kernel) (by decide +kernel), zin 1 (by decide +kernel) (by decide +kernel), ⟨by decide +kernel, by decide +kernel, by decide +kernel⟩, by decide +kernel, by decide⟩
abbrev M_X7_isSpeed : zM := (yX7_isSpeed, cX7_isSpeed, 1, some (.boolean))
theorem k_X7_isSpeed : zMk M_X7_isSpeed 1 := ⟨zin 422 (by decide +kernel) (by decide +kernel), zin 1 (by decide +kernel) (by decide +kernel), ⟨by decide +kernel, by decide +kernel, by decide +kernel⟩, by decide +kernel, by decide⟩
abbrev M_X7_isWay : zM := (yX7_isWay, cX7_isWay, 1, some (.boolean))
theorem k_X7_isWay : zMk M_X7_isWay 1 := ⟨zin 399 (by decide +kernel) (by decide +kernel), zin 1 (by decide +kernel) (by decide +kernel), ⟨by decide +kernel, by decide +kernel, by decide +kernel⟩, by decide +kernel, by decide⟩
abbrev M_X7_isToldSlope : zM := (yX7_isToldSlope, cX7_isToldSlope, 1, some (.boolean))
theorem k_X7_isToldSlope : zMk M_X7_isToldSlope 1 := ⟨zin 402 (by decide +kernel) (by decide +kernel), zin 1 (by decide +kernel) (by decide +kernel), ⟨by decide +kernel, by decide +kernel, by decide +kernel⟩, by decide +kernel, by decide⟩
abbrev M_X7_isDirection : zM := (yX7_isDirection, cX7_isDirection, 1, some (.boolean))
theorem k_X7_isDirection : zMk M_X7_isDirection 1 := ⟨zin 529 (by decide +kernel) (by decide +kernel), zin 1 (by decide +kernel) (by decide +kernel), ⟨by decide +kernel, by decide +kernel, by decide +kernel⟩, by decide +kernel, by decide⟩
abbrev M_X7_isLights : zM := (yX7_isLights, cX7_isLights, 1, some (.boolean))
theorem k_X7_isLights : zMk M_X7_isLights 1 := ⟨zin 535 (by decide +kernel) (by decide +kernel), zin 1 (by decide +kernel) (by decide +kernel), ⟨by decide +kernel, by decide +kernel, by decide +kernel⟩, by decide +kernel, by decide⟩
abbrev M_X7_isHull : zM := (yX7_isHull, cX7_isHull, 1, some (.boolean))
theorem k_X7_isHull : zMk M_X7_isHull 1 := ⟨zin 538 (by decide +kernel) (by decide +kernel), zin 1 (by decide +kernel) (by decide +kernel), ⟨by decide +kernel, by decide +kernel, by decide +kernel⟩, by decide +kernel, by decide⟩
abbrev M_X7_isLightsAndHull : zM := (yX7_isLightsAndHull, cX7_isLightsAndHull, 1, some (.boolean))
theorem k_X7_isLightsAndHull : zMk M_X7_isLightsAndHull 1 := ⟨zin 532 (by decide +kernel) (by decide +kernel), zin 1 (by decide +kernel) (by decide +kernel), ⟨by decide +kernel, by decide +kernel, by decide +kernel⟩, by decide +kernel, by decide⟩
abbrev M_X7_isLater : zM := (yX7_isLater, cX7_isLater, 1, some (.boolean))
theorem k_X7_isLater : zMk M_X7_isLater 1 := ⟨zin 898 (by decide +kernel) (by decide +kernel), zin 1 (by decide +kernel) (by decide +kernel), ⟨by decide +kernel, by decide +kernel, by decide +kernel⟩, by decide +kernel, by decide⟩
abbrev M_X7_isSeer : zM := (yX7_isSeer, cX7_isSeer, 2, some (.boolean))
theorem k_X7_isSeer : zMk M_X7_isSeer 1 := ⟨zin 481 (by decide +kernel) (by decide +kernel), zin 1 (by decide +kernel) (by decide +kernel), ⟨by decide +kernel, by decide +kernel, by decide +kernel⟩, by decide +kernel, by decide⟩
abbrev M_X7_isThing : zM := (yX7_isThing, cX7_isThing, 2, some (.boolean))
theorem k_X7_isThing : zMk M_X7_isThing 1 := ⟨zin 449 (by decide +kernel) (by decide +kernel), zin 1 (by decide +kernel) (by decide +kernel), ⟨by decide +kernel, by decide +kernel, by decide +kernel⟩, by decide +kernel, by decide⟩
abbrev M_X7_isTelling : zM := (yX7_isTelling, cX7_isTelling, 2, some (.boolean))
theorem k_X7_isTelling : zMk M_X7_isTelling 1 := ⟨zin 554 (by decide +kernel) (by decide +kernel), zin 1 (by decide +kernel) (by decide +kernel), ⟨by decide +kernel, by decide +kernel, by decide +kernel⟩, by decide +kernel, by decide⟩
abbrev M_X7_divisorOf : zM := (yX7_divisorOf, cX7_divisorOf, 1, some (.int))
theorem k_X7_divisorOf : zMk M_X7_divisorOf 1 := ⟨zin 413 (by decide +kernel) (by decide +kernel), zin 1 (by decide +kernel) (by decide +kernel), ⟨by decide +kernel, by decide +kernel, by decide +kernel⟩, by decide +kernel, by decide⟩
abbrev M_X7_newThing : zM := (yX7_newThing, cX7_newThing, 6, some ((.object "MarshLights$Thing")))
theorem k_X7_newThing : zMk M_X7_newThing 4 := ⟨zin 406 (by decide +kernel) (by decide +kernel), zin 1 (by decide +kernel) (by decide +kernel), ⟨by decide +kernel, by decide +kernel, by decide +kernel⟩, by decide +kernel, by decide⟩
abbrev M_X7_fittingOf : zM := (yX7_fittingOf, cX7_fittingOf, 4, some (.int))
theorem k_X7_fittingOf : zMk M_X7_fittingOf 1 := ⟨zin 566 (by decide +kernel) (by decide +kernel), zin 1 (by decide +kernel) (by decide +kernel), ⟨by decide +kernel, by decide +kernel, by decide +kernel⟩, by decide +kernel, by decide⟩
abbrev M_X7_isLike : zM := (yX7_isLike, cX7_isLike, 4, some (.boolean))
theorem k_X7_isLike : zMk M_X7_isLike 2 := ⟨zin 570 (by decide +kernel) (by decide +kernel), zin 1 (by decide +kernel) (by decide +kernel), ⟨by decide +kernel, by decide +kernel, by decide +kernel⟩, by decide +kernel, by decide⟩
abbrev M_X7_isNear : zM := (yX7_isNear, cX7_isNear, 3, some (.boolean))
theorem k_X7_isNear : zMk M_X7_isNear 2 := ⟨zin 574 (by decide +kernel) (by decide +kernel), zin 1 (by decide +kernel) (by decide +kernel), ⟨by decide +kernel, by decide +kernel, by decide +kernel⟩, by decide +kernel, by decide⟩
abbrev M_X7_apart : zM := (yX7_apart, cX7_apart, 3, some (.int))
theorem k_X7_apart : zMk M_X7_apart 2 := ⟨zin 577 (by decide +kernel) (by decide +kernel), zin 1 (by decide +kernel) (by decide +kernel), ⟨by decide +kernel, by decide +kernel, by decide +kernel⟩, by decide +kernel, by decide⟩
abbrev M_X7_gatherNeeds : zM := (yX7_gatherNeeds, cX7_gatherNeeds, 6, some (.int))
theorem k_X7_gatherNeeds : zMk M_X7_gatherNeeds 0 := ⟨zin 595 (by decide +kernel) (by decide +kernel), zin 1 (by decide +kernel) (by decide +kernel), ⟨by decide +kernel, by decide +kernel, by decide +kernel⟩, by decide +kernel, by decide⟩
abbrev M_X7_meetsAll : zM := (yX7_meetsAll, cX7_meetsAll, 4, some (.boolean))
theorem k_X7_meetsAll : zMk M_X7_meetsAll 2 := ⟨zin 599 (by decide +kernel) (by decide +kernel), zin 1 (by decide +kernel) (by decide +kernel), ⟨by decide +kernel, by decide +kernel, by decide +kernel⟩, by decide +kernel, by decide⟩
abbrev M_X7_weighMinutes : zM := (yX7_weighMinutes, cX7_weighMinutes, 5, none)
theorem k_X7_weighMinutes : zMk M_X7_weighMinutes 1 := ⟨zin 682 (by decide +kernel) (by decide +kernel), zin 1 (by decide +kernel) (by decide +kernel), ⟨by decide +kernel, by decide +kernel, by decide +kernel⟩, by decide +kernel, by decide⟩
abbrev M_X7_couplesParted : zM := (yX7_couplesParted, cX7_couplesParted, 8, some (.int))
theorem k_X7_couplesParted : zMk M_X7_couplesParted 3 := ⟨zin 686 (by decide +kernel) (by decide +kernel), zin 1 (by decide +kernel) (by decide +kernel), ⟨by decide +kernel, by decide +kernel, by decide +kernel⟩, by decide +kernel, by decide⟩
abbrev M_X7_pointsAt : zM := (yX7_pointsAt, cX7_pointsAt, 5, some (.boolean))
theorem k_X7_pointsAt : zMk M_X7_pointsAt 2 := ⟨zin 615 (by decide +kernel) (by decide +kernel), zin 1 (by decide +kernel) (by decide +kernel), ⟨by decide +kernel, by decide +kernel, by decide +kernel⟩, by decide +kernel, by decide⟩
abbrev M_X7_shareHeight : zM := (yX7_shareHeight, cX7_shareHeight, 6, some (.boolean))
theorem k_X7_shareHeight : zMk M_X7_shareHeight 3 := ⟨zin 620 (by decide +kernel) (by decide +kernel), zin 1 (by decide +kernel) (by decide +kernel), ⟨by decide +kernel, by decide +kernel, by decide +kernel⟩, by decide +kernel, by decide⟩
abbrev M_X7_leastHeight : zM := (yX7_leastHeight, cX7_leastHeight, 5, some (.int))
theorem k_X7_leastHeight : zMk M_X7_leastHeight 2 := ⟨zin 624 (by decide +kernel) (by decide +kernel), zin 1 (by decide +kernel) (by decide +kernel), ⟨by decide +kernel, by decide +kernel, by decide +kernel⟩, by decide +kernel, by decide⟩
abbrev M_X7_greatestHeight : zM := (yX7_greatestHeight, cX7_greatestHeight, 5, some (.int))
theorem k_X7_greatestHeight : zMk M_X7_greatestHeight 2 := ⟨zin 638 (by decide +kernel) (by decide +kernel), zin 1 (by decide +kernel) (by decide +kernel), ⟨by decide +kernel, by decide +kernel, by decide +kernel⟩, by decide +kernel, by decide⟩
abbrev M_X7_leastShown : zM := (yX7_leastShown, cX7_leastShown, 11, some (.int))
theorem k_X7_leastShown : zMk M_X7_leastShown 2 := ⟨zin 666 (by decide +kernel) (by decide +kernel), zin 1 (by decide +kernel) (by decide +kernel), ⟨by decide +kernel, by decide +kernel, by decide +kernel⟩, by decide +kernel, by decide⟩
abbrev M_X7_eyeAt : zM := (yX7_eyeAt, cX7_eyeAt, 2, some (.int))
theorem k_X7_eyeAt : zMk M_X7_eyeAt 1 := ⟨zin 628 (by decide +kernel) (by decide +kernel), zin 1 (by decide +kernel) (by decide +kernel), ⟨by decide +kernel, by decide +kernel, by decide +kernel⟩, by decide +kernel, by decide⟩
abbrev M_X7_distance : zM := (yX7_distance, cX7_distance, 2, some (.int))
theorem k_X7_distance : zMk M_X7_distance 2 := ⟨zin 631 (by decide +kernel) (by decide +kernel), zin 1 (by decide +kernel) (by decide +kernel), ⟨by decide +kernel, by decide +kernel, by decide +kernel⟩, by decide +kernel, by decide⟩
abbrev M_X7_ceilDiv : zM := (yX7_ceilDiv, cX7_ceilDiv, 2, some (.int))
theorem k_X7_ceilDiv : zMk M_X7_ceilDiv 2 := ⟨zin 634 (by decide +kernel) (by decide +kernel), zin 1 (by decide +kernel) (by decide +kernel), ⟨by decide +kernel, by decide +kernel, by decide +kernel⟩, by decide +kernel, by decide⟩
abbrev M_X7_wayOf : zM := (yX7_wayOf, cX7_wayOf, 3, some (.int))
theorem k_X7_wayOf : zMk M_X7_wayOf 2 := ⟨zin 501 (by decide +kernel) (by decide +kernel), zin 1 (by decide +kernel) (by decide +kernel), ⟨by decide +kernel, by decide +kernel, by decide +kernel⟩, by decide +kernel, by decide⟩
abbrev M_X7_slopeOf : zM := (yX7_slopeOf, cX7_slopeOf, 2, some (.int))
theorem k_X7_slopeOf : zMk M_X7_slopeOf 2 := ⟨zin 508 (by decide +kernel) (by decide +kernel), zin 1 (by decide +kernel) (by decide +kernel), ⟨by decide +kernel, by decide +kernel, by decide +kernel⟩, by decide +kernel, by decide⟩
abbrev M_X7_within : zM := (yX7_within, cX7_within, 3, some (.int))
theorem k_X7_within : zMk M_X7_within 3 := ⟨zin 512 (by decide +kernel) (by decide +kernel), zin 1 (by decide +kernel) (by decide +kernel), ⟨by decide +kernel, by decide +kernel, by decide +kernel⟩, by decide +kernel, by decide⟩
abbrev M_X7_setValues : zM := (yX7_setValues, cX7_setValues, 5, none)
theorem k_X7_setValues : zMk M_X7_setValues 4 := ⟨zin 902 (by decide +kernel) (by decide +kernel), zin 1 (by decide +kernel) (by decide +kernel), ⟨by decide +kernel, by decide +kernel, by decide +kernel⟩, by decide +kernel, by decide⟩
abbrev M_X7_isHasty : zM := (yX7_isHasty, cX7_isHasty, 5, some (.boolean))
theorem k_X7_isHasty : zMk M_X7_isHasty 2 := ⟨zin 928 (by decide +kernel) (by decide +kernel), zin 1 (by decide +kernel) (by decide +kernel), ⟨by decide +kernel, by decide +kernel, by decide +kernel⟩, by decide +kernel, by decide⟩
abbrev M_X7_growth : zM := (yX7_growth, cX7_growth, 5, some (.int))
theorem k_X7_growth : zMk M_X7_growth 4 := ⟨zin 936 (by decide +kernel) (by decide +kernel), zin 1 (by decide +kernel) (by decide +kernel), ⟨by decide +kernel, by decide +kernel, by decide +kernel⟩, by decide +kernel, by decide⟩
abbrev M_X7_drawTelling : zM := (yX7_drawTelling, cX7_drawTelling, 11, some (.boolean))
theorem k_X7_drawTelling : zMk M_X7_drawTelling 0 := ⟨zin 950 (by decide +kernel) (by decide +kernel), zin 1 (by decide +kernel) (by decide +kernel), ⟨by decide +kernel, by decide +kernel, by decide +kernel⟩, by decide +kernel, by decide⟩
abbrev M_X7_sightedOff : zM := (yX7_sightedOff, cX7_sightedOff, 3, some (.int))
theorem k_X7_sightedOff : zMk M_X7_sightedOff 2 := ⟨zin 960 (by decide +kernel) (by decide +kernel), zin 1 (by decide +kernel) (by decide +kernel), ⟨by decide +kernel, by decide +kernel, by decide +kernel⟩, by decide +kernel, by decide⟩
abbrev M_X7_lotBelow : zM := (yX7_lotBelow, cX7_lotBelow, 2, some (.int))
theorem k_X7_lotBelow : zMk M_X7_lotBelow 1 := ⟨zin 954 (by decide +kernel) (by decide +kernel), zin 1 (by decide +kernel) (by decide +kernel), ⟨by decide +kernel, by decide +kernel, by decide +kernel⟩, by decide +kernel, by decide⟩
abbrev M_X8_init : zM := (yX8_init, cX8_init, 1, none)
theorem k_X8_init : zMk M_X8_init 0 := ⟨zin 971 (by decide +kernel) (by decide +kernel), zin 10 (by decide +kernel) (by decide +kernel), ⟨by decide +kernel, by decide +kernel, by decide +kernel⟩, by decide +kernel, by decide⟩
abbrev M_X8_in : zM := (yX8_in, cX8_in, 6, some (.boolean))
theorem k_X8_in : zMk M_X8_in 3 := ⟨zin 1138 (by decide +kernel) (by decide +kernel), zin 10 (by decide +kernel) (by decide +kernel), ⟨by decide +kernel, by decide +kernel, by decide +kernel⟩, by decide +kernel, by decide⟩
abbrev M_X8_isPlace : zM := (yX8_isPlace, cX8_isPlace, 1, some (.boolean))
theorem k_X8_isPlace : zMk M_X8_isPlace 1 := ⟨zin 1134 (by decide +kernel) (by decide +kernel), zin 10 (by decide +kernel) (by decide +kernel), ⟨by decide +kernel, by decide +kernel, by decide +kernel⟩, by decide +kernel, by decide⟩
abbrev M_X8_isMinute : zM := (yX8_isMinute, cX8_isMinute, 1, some (.boolean))
theorem k_X8_isMinute : zMk M_X8_isMinute 1 := ⟨zin 1179 (by decide +kernel) (by decide +kernel), zin 10 (by decide +kernel) (by decide +kernel), ⟨by decide +kernel, by decide +kernel, by decide +kernel⟩, by decide +kernel, by decide⟩
abbrev M_X8_areMinutes : zM := (yX8_areMinutes, cX8_areMinutes, 1, some (.boolean))
theorem k_X8_areMinutes : zMk M_X8_areMinutes 1 := ⟨zin 1176 (by decide +kernel) (by decide +kernel), zin 10 (by decide +kernel) (by decide +kernel), ⟨by decide +kernel, by decide +kernel, by decide +kernel⟩, by decide +kernel, by decide⟩
abbrev M_X8_hill : zM := (yX8_hill, cX8_hill, 4, some (.int))
theorem k_X8_hill : zMk M_X8_hill 3 := ⟨zin 1131 (by decide +kernel) (by decide +kernel), zin 10 (by decide +kernel) (by decide +kernel), ⟨by decide +kernel, by decide +kernel, by decide +kernel⟩, by decide +kernel, by decide⟩
abbrev M_X8_hillAt : zM := (yX8_hillAt, cX8_hillAt, 5, some (.int))
theorem k_X8_hillAt : zMk M_X8_hillAt 2 := ⟨zin 1153 (by decide +kernel) (by decide +kernel), zin 10 (by decide +kernel) (by decide +kernel), ⟨by decide +kernel, by decide +kernel, by decide +kernel⟩, by decide +kernel, by decide⟩
abbrev M_X8_groundAt : zM := (yX8_groundAt, cX8_groundAt, 4, some (.int))
theorem k_X8_groundAt : zMk M_X8_groundAt 2 := ⟨zin 1149 (by decide +kernel) (by decide +kernel), zin 10 (by decide +kernel) (by decide +kernel), ⟨by decide +kernel, by decide +kernel, by decide +kernel⟩, by decide +kernel, by decide⟩
abbrev M_X8_ground : zM := (yX8_ground, cX8_ground, 2, some (.int))
theorem k_X8_ground : zMk M_X8_ground 1 := ⟨zin 1145 (by decide +kernel) (by decide +kernel), zin 10 (by decide +kernel) (by decide +kernel), ⟨by decide +kernel, by decide +kernel, by decide +kernel⟩, by decide +kernel, by decide⟩
abbrev M_X8_seer : zM := (yX8_seer, cX8_seer, 2, some (.int))
theorem k_X8_seer : zMk M_X8_seer 1 := ⟨zin 1157 (by decide +kernel) (by decide +kernel), zin 10 (by decide +kernel) (by decide +kernel), ⟨by decide +kernel, by decide +kernel, by decide +kernel⟩, by decide +kernel, by decide⟩
abbrev M_X8_adds : zM := (yX8_adds, cX8_adds, 5, some (.int))
theorem k_X8_adds : zMk M_X8_adds 4 := ⟨zin 1169 (by decide +kernel) (by decide +kernel), zin 10 (by decide +kernel) (by decide +kernel), ⟨by decide +kernel, by decide +kernel, by decide +kernel⟩, by decide +kernel, by decide⟩
abbrev M_X8_star : zM := (yX8_star, cX8_star, 4, some (.int))
theorem k_X8_star : zMk M_X8_star 3 := ⟨zin 1161 (by decide +kernel) (by decide +kernel), zin 10 (by decide +kernel) (by decide +kernel), ⟨by decide +kernel, by decide +kernel, by decide +kernel⟩, by decide +kernel, by decide⟩
abbrev M_X8_flies : zM := (yX8_flies, cX8_flies, 6, some (.int))
theorem k_X8_flies : zMk M_X8_flies 5 := ⟨zin 1173 (by decide +kernel) (by decide +kernel), zin 10 (by decide +kernel) (by decide +kernel), ⟨by decide +kernel, by decide +kernel, by decide +kernel⟩, by decide +kernel, by decide⟩
abbrev M_X8_flare : zM := (yX8_flare, cX8_flare, 5, some (.int))
theorem k_X8_flare : zMk M_X8_flare 4 := ⟨zin 1185 (by decide +kernel) (by decide +kernel), zin 10 (by decide +kernel) (by decide +kernel), ⟨by decide +kernel, by decide +kernel, by decide +kernel⟩, by decide +kernel, by decide⟩
abbrev M_X8_lamp : zM := (yX8_lamp, cX8_lamp, 5, some (.int))
theorem k_X8_lamp : zMk M_X8_lamp 4 := ⟨zin 1190 (by decide +kernel) (by decide +kernel), zin 10 (by decide +kernel) (by decide +kernel), ⟨by decide +kernel, by decide +kernel, by decide +kernel⟩, by decide +kernel, by decide⟩
abbrev M_X8_isAt : zM := (yX8_isAt, cX8_isAt, 5, some (.boolean))
theorem k_X8_isAt : zMk M_X8_isAt 2 := ⟨zin 1205 (by decide +kernel) (by decide +kernel), zin 10 (by decide +kernel) (by decide +kernel), ⟨by decide +kernel, by decide +kernel, by decide +kernel⟩, by decide +kernel, by decide⟩
abbrev M_X8_isThing : zM := (yX8_isThing, cX8_isThing, 2, some (.boolean))
theorem k_X8_isThing : zMk M_X8_isThing 1 := ⟨zin 1199 (by decide +kernel) (by decide +kernel), zin 10 (by decide +kernel) (by decide +kernel), ⟨by decide +kernel, by decide +kernel, by decide +kernel⟩, by decide +kernel, by decide⟩
abbrev M_X8_isSeer : zM := (yX8_isSeer, cX8_isSeer, 2, some (.boolean))
theorem k_X8_isSeer : zMk M_X8_isSeer 1 := ⟨zin 1214 (by decide +kernel) (by decide +kernel), zin 10 (by decide +kernel) (by decide +kernel), ⟨by decide +kernel, by decide +kernel, by decide +kernel⟩, by decide +kernel, by decide⟩
abbrev M_X8_at : zM := (yX8_at, cX8_at, 4, some (.int))
theorem k_X8_at : zMk M_X8_at 3 := ⟨zin 1195 (by decide +kernel) (by decide +kernel), zin 10 (by decide +kernel) (by decide +kernel), ⟨by decide +kernel, by decide +kernel, by decide +kernel⟩, by decide +kernel, by decide⟩
abbrev M_X8_wayOf : zM := (yX8_wayOf, cX8_wayOf, 3, some (.int))
theorem k_X8_wayOf : zMk M_X8_wayOf 2 := ⟨zin 1238 (by decide +kernel) (by decide +kernel), zin 10 (by decide +kernel) (by decide +kernel), ⟨by decide +kernel, by decide +kernel, by decide +kernel⟩, by decide +kernel, by decide⟩
abbrev M_X8_slopeOf : zM := (yX8_slopeOf, cX8_slopeOf, 4, some (.int))
theorem k_X8_slopeOf : zMk M_X8_slopeOf 3 := ⟨zin 1246 (by decide +kernel) (by decide +kernel), zin 10 (by decide +kernel) (by decide +kernel), ⟨by decide +kernel, by decide +kernel, by decide +kernel⟩, by decide +kernel, by decide⟩
abbrev M_X8_eye : zM := (yX8_eye, cX8_eye, 2, some (.int))
theorem k_X8_eye : zMk M_X8_eye 1 := ⟨zin 1230 (by decide +kernel) (by decide +kernel), zin 10 (by decide +kernel) (by decide +kernel), ⟨by decide +kernel, by decide +kernel, by decide +kernel⟩, by decide +kernel, by decide⟩
abbrev M_X8_hider : zM := (yX8_hider, cX8_hider, 11, some (.int))
theorem k_X8_hider : zMk M_X8_hider 4 := ⟨zin 1226 (by decide +kernel) (by decide +kernel), zin 10 (by decide +kernel) (by decide +kernel), ⟨by decide +kernel, by decide +kernel, by decide +kernel⟩, by decide +kernel, by decide⟩
abbrev M_X8_isLit : zM := (yX8_isLit, cX8_isLit, 3, some (.boolean))
theorem k_X8_isLit : zMk M_X8_isLit 2 := ⟨zin 1222 (by decide +kernel) (by decide +kernel), zin 10 (by decide +kernel) (by decide +kernel), ⟨by decide +kernel, by decide +kernel, by decide +kernel⟩, by decide +kernel, by decide⟩
abbrev M_X8_isShown : zM := (yX8_isShown, cX8_isShown, 4, some (.boolean))
theorem k_X8_isShown : zMk M_X8_isShown 3 := ⟨zin 1218 (by decide +kernel) (by decide +kernel), zin 10 (by decide +kernel) (by decide +kernel), ⟨by decide +kernel, by decide +kernel, by decide +kernel⟩, by decide +kernel, by decide⟩
abbrev M_X8_way : zM := (yX8_way, cX8_way, 5, some (.int))
theorem k_X8_way : zMk M_X8_way 3 := ⟨zin 1234 (by decide +kernel) (by decide +kernel), zin 10 (by decide +kernel) (by decide +kernel), ⟨by decide +kernel, by decide +kernel, by decide +kernel⟩, by decide +kernel, by decide⟩
abbrev M_X8_slope : zM := (yX8_slope, cX8_slope, 5, some (.int))
theorem k_X8_slope : zMk M_X8_slope 3 := ⟨zin 1243 (by decide +kernel) (by decide +kernel), zin 10 (by decide +kernel) (by decide +kernel), ⟨by decide +kernel, by decide +kernel, by decide +kernel⟩, by decide +kernel, by decide⟩
abbrev M_X8_seen : zM := (yX8_seen, cX8_seen, 5, some (.int))
theorem k_X8_seen : zMk M_X8_seen 4 := ⟨zin 1210 (by decide +kernel) (by decide +kernel), zin 10 (by decide +kernel) (by decide +kernel), ⟨by decide +kernel, by decide +kernel, by decide +kernel⟩, by decide +kernel, by decide⟩
abbrev M_X8_isView : zM := (yX8_isView, cX8_isView, 1, some (.boolean))
theorem k_X8_isView : zMk M_X8_isView 1 := ⟨zin 1253 (by decide +kernel) (by decide +kernel), zin 10 (by decide +kernel) (by decide +kernel), ⟨by decide +kernel, by decide +kernel, by decide +kernel⟩, by decide +kernel, by decide⟩
abbrev M_X8_tell : zM := (yX8_tell, cX8_tell, 7, some (.int))
theorem k_X8_tell : zMk M_X8_tell 5 := ⟨zin 1250 (by decide +kernel) (by decide +kernel), zin 10 (by decide +kernel) (by decide +kernel), ⟨by decide +kernel, by decide +kernel, by decide +kernel⟩, by decide +kernel, by decide⟩
abbrev M_X8_undo : zM := (yX8_undo, cX8_undo, 1, some (.int))
theorem k_X8_undo : zMk M_X8_undo 0 := ⟨zin 1259 (by decide +kernel) (by decide +kernel), zin 10 (by decide +kernel) (by decide +kernel), ⟨by decide +kernel, by decide +kernel, by decide +kernel⟩, by decide +kernel, by decide⟩
abbrev M_X8_off : zM := (yX8_off, cX8_off, 3, some (.boolean))
theorem k_X8_off : zMk M_X8_off 2 := ⟨zin 1263 (by decide +kernel) (by decide +kernel), zin 10 (by decide +kernel) (by decide +kernel), ⟨by decide +kernel, by decide +kernel, by decide +kernel⟩, by decide +kernel, by decide⟩
abbrev M_X8_isTelling : zM := (yX8_isTelling, cX8_isTelling, 2, some (.boolean))
theorem k_X8_isTelling : zMk M_X8_isTelling 1 := ⟨zin 1273 (by decide +kernel) (by decide +kernel), zin 10 (by decide +kernel) (by decide +kernel), ⟨by decide +kernel, by decide +kernel, by decide +kernel⟩, by decide +kernel, by decide⟩
abbrev M_X8_telling : zM := (yX8_telling, cX8_telling, 3, some (.int))
theorem k_X8_telling : zMk M_X8_telling 2 := ⟨zin 1269 (by decide +kernel) (by decide +kernel), zin 10 (by decide +kernel) (by decide +kernel), ⟨by decide +kernel, by decide +kernel, by decide +kernel⟩, by decide +kernel, by decide⟩
abbrev M_X8_apart : zM := (yX8_apart, cX8_apart, 3, some (.int))
theorem k_X8_apart : zMk M_X8_apart 2 := ⟨zin 1289 (by decide +kernel) (by decide +kernel), zin 10 (by decide +kernel) (by decide +kernel), ⟨by decide +kernel, by decide +kernel, by decide +kernel⟩, by decide +kernel, by decide⟩
abbrev M_X8_isNear : zM := (yX8_isNear, cX8_isNear, 5, some (.boolean))
theorem k_X8_isNear : zMk M_X8_isNear 3 := ⟨zin 1286 (by decide +kernel) (by decide +kernel), zin 10 (by decide +kernel) (by decide +kernel), ⟨by decide +kernel, by decide +kernel, by decide +kernel⟩, by decide +kernel, by decide⟩
abbrev M_X8_fitting : zM := (yX8_fitting, cX8_fitting, 4, some (.int))
theorem k_X8_fitting : zMk M_X8_fitting 1 := ⟨zin 1282 (by decide +kernel) (by decide +kernel), zin 10 (by decide +kernel) (by decide +kernel), ⟨by decide +kernel, by decide +kernel, by decide +kernel⟩, by decide +kernel, by decide⟩
abbrev M_X8_fits : zM := (yX8_fits, cX8_fits, 6, some (.int))
theorem k_X8_fits : zMk M_X8_fits 2 := ⟨zin 1278 (by decide +kernel) (by decide +kernel), zin 10 (by decide +kernel) (by decide +kernel), ⟨by decide +kernel, by decide +kernel, by decide +kernel⟩, by decide +kernel, by decide⟩
abbrev M_X8_left : zM := (yX8_left, cX8_left, 4, some (.int))
theorem k_X8_left : zMk M_X8_left 1 := ⟨zin 1294 (by decide +kernel) (by decide +kernel), zin 10 (by decide +kernel) (by decide +kernel), ⟨by decide +kernel, by decide +kernel, by decide +kernel⟩, by decide +kernel, by decide⟩
abbrev M_X8_fewest : zM := (yX8_fewest, cX8_fewest, 5, some (.int))
theorem k_X8_fewest : zMk M_X8_fewest 0 := ⟨zin 1298 (by decide +kernel) (by decide +kernel), zin 10 (by decide +kernel) (by decide +kernel), ⟨by decide +kernel, by decide +kernel, by decide +kernel⟩, by decide +kernel, by decide⟩
abbrev M_X8_joined : zM := (yX8_joined, cX8_joined, 5, some (.int))
theorem k_X8_joined : zMk M_X8_joined 2 := ⟨zin 1302 (by decide +kernel) (by decide +kernel), zin 10 (by decide +kernel) (by decide +kernel), ⟨by decide +kernel, by decide +kernel, by decide +kernel⟩, by decide +kernel, by decide⟩
abbrev M_X8_isSlope : zM := (yX8_isSlope, cX8_isSlope, 6, some (.boolean))
theorem k_X8_isSlope : zMk M_X8_isSlope 5 := ⟨zin 1319 (by decide +kernel) (by decide +kernel), zin 10 (by decide +kernel) (by decide +kernel), ⟨by decide +kernel, by decide +kernel, by decide +kernel⟩, by decide +kernel, by decide⟩
abbrev M_X8_hasHeight : zM := (yX8_hasHeight, cX8_hasHeight, 6, some (.boolean))
theorem k_X8_hasHeight : zMk M_X8_hasHeight 4 := ⟨zin 1315 (by decide +kernel) (by decide +kernel), zin 10 (by decide +kernel) (by decide +kernel), ⟨by decide +kernel, by decide +kernel, by decide +kernel⟩, by decide +kernel, by decide⟩
abbrev M_X8_isCrossed : zM := (yX8_isCrossed, cX8_isCrossed, 4, some (.boolean))
theorem k_X8_isCrossed : zMk M_X8_isCrossed 3 := ⟨zin 1311 (by decide +kernel) (by decide +kernel), zin 10 (by decide +kernel) (by decide +kernel), ⟨by decide +kernel, by decide +kernel, by decide +kernel⟩, by decide +kernel, by decide⟩
abbrev M_X8_cross : zM := (yX8_cross, cX8_cross, 14, some (.int))
theorem k_X8_cross : zMk M_X8_cross 3 := ⟨zin 1306 (by decide +kernel) (by decide +kernel), zin 10 (by decide +kernel) (by decide +kernel), ⟨by decide +kernel, by decide +kernel, by decide +kernel⟩, by decide +kernel, by decide⟩
abbrev M_X8_out : zM := (yX8_out, cX8_out, 6, some (.int))
theorem k_X8_out : zMk M_X8_out 2 := ⟨zin 1323 (by decide +kernel) (by decide +kernel), zin 10 (by decide +kernel) (by decide +kernel), ⟨by decide +kernel, by decide +kernel, by decide +kernel⟩, by decide +kernel, by decide⟩
abbrev M_X8_isUp : zM := (yX8_isUp, cX8_isUp, 5, some (.boolean))
theorem k_X8_isUp : zMk M_X8_isUp 4 := ⟨zin 1331 (by decide +kernel) (by decide +kernel), zin 10 (by decide +kernel) (by decide +kernel), ⟨by decide +kernel, by decide +kernel, by decide +kernel⟩, by decide +kernel, by decide⟩
abbrev M_X8_outs : zM := (yX8_outs, cX8_outs, 12, some (.int))
theorem k_X8_outs : zMk M_X8_outs 4 := ⟨zin 1327 (by decide +kernel) (by decide +kernel), zin 10 (by decide +kernel) (by decide +kernel), ⟨by decide +kernel, by decide +kernel, by decide +kernel⟩, by decide +kernel, by decide⟩
abbrev M_X8_size : zM := (yX8_size, cX8_size, 6, some (.int))
theorem k_X8_size : zMk M_X8_size 4 := ⟨zin 1335 (by decide +kernel) (by decide +kernel), zin 10 (by decide +kernel) (by decide +kernel), ⟨by decide +kernel, by decide +kernel, by decide +kernel⟩, by decide +kernel, by decide⟩
abbrev M_X8_hulls : zM := (yX8_hulls, cX8_hulls, 5, some (.int))
theorem k_X8_hulls : zMk M_X8_hulls 2 := ⟨zin 1340 (by decide +kernel) (by decide +kernel), zin 10 (by decide +kernel) (by decide +kernel), ⟨by decide +kernel, by decide +kernel, by decide +kernel⟩, by decide +kernel, by decide⟩
abbrev M_X8_partedAt : zM := (yX8_partedAt, cX8_partedAt, 10, some (.int))
theorem k_X8_partedAt : zMk M_X8_partedAt 3 := ⟨zin 1349 (by decide +kernel) (by decide +kernel), zin 10 (by decide +kernel) (by decide +kernel), ⟨by decide +kernel, by decide +kernel, by decide +kernel⟩, by decide +kernel, by decide⟩
abbrev M_X8_ask : zM := (yX8_ask, cX8_ask, 9, some (.int))
theorem k_X8_ask : zMk M_X8_ask 1 := ⟨zin 1344 (by decide +kernel) (by decide +kernel), zin 10 (by decide +kernel) (by decide +kernel), ⟨by decide +kernel, by decide +kernel, by decide +kernel⟩, by decide +kernel, by decide⟩
abbrev M_X8_feeds : zM := (yX8_feeds, cX8_feeds, 3, none)
theorem k_X8_feeds : zMk M_X8_feeds 1 := ⟨zin 1357 (by decide +kernel) (by decide +kernel), zin 10 (by decide +kernel) (by decide +kernel), ⟨by decide +kernel, by decide +kernel, by decide +kernel⟩, by decide +kernel, by decide⟩
abbrev M_X8_feed : zM := (yX8_feed, cX8_feed, 6, some (.int))
theorem k_X8_feed : zMk M_X8_feed 5 := ⟨zin 1353 (by decide +kernel) (by decide +kernel), zin 10 (by decide +kernel) (by decide +kernel), ⟨by decide +kernel, by decide +kernel, by decide +kernel⟩, by decide +kernel, by decide⟩
abbrev M_X8_end : zM := (yX8_end, cX8_end, 2, some (.boolean))
theorem k_X8_end : zMk M_X8_end 1 := ⟨zin 1361 (by decide +kernel) (by decide +kernel), zin 10 (by decide +kernel) (by decide +kernel), ⟨by decide +kernel, by decide +kernel, by decide +kernel⟩, by decide +kernel, by decide⟩
abbrev M_X8_between : zM := (yX8_between, cX8_between, 4, some (.boolean))
theorem k_X8_between : zMk M_X8_between 3 := ⟨zin 1377 (by decide +kernel) (by decide +kernel), zin 10 (by decide +kernel) (by decide +kernel), ⟨by decide +kernel, by decide +kernel, by decide +kernel⟩, by decide +kernel, by decide⟩
abbrev M_X8_next : zM := (yX8_next, cX8_next, 1, none)
theorem k_X8_next : zMk M_X8_next 0 := ⟨zin 1373 (by decide +kernel) (by decide +kernel), zin 10 (by decide +kernel) (by decide +kernel), ⟨by decide +kernel, by decide +kernel, by decide +kernel⟩, by decide +kernel, by decide⟩
abbrev M_X8_passes : zM := (yX8_passes, cX8_passes, 2, some (.boolean))
theorem k_X8_passes : zMk M_X8_passes 1 := ⟨zin 1392 (by decide +kernel) (by decide +kernel), zin 10 (by decide +kernel) (by decide +kernel), ⟨by decide +kernel, by decide +kernel, by decide +kernel⟩, by decide +kernel, by decide⟩
abbrev M_X8_isWord : zM := (yX8_isWord, cX8_isWord, 3, some (.boolean))
theorem k_X8_isWord : zMk M_X8_isWord 1 := ⟨zin 1386 (by decide +kernel) (by decide +kernel), zin 10 (by decide +kernel) (by decide +kernel), ⟨by decide +kernel, by decide +kernel, by decide +kernel⟩, by decide +kernel, by decide⟩
abbrev M_X8_isSign : zM := (yX8_isSign, cX8_isSign, 2, some (.boolean))
theorem k_X8_isSign : zMk M_X8_isSign 1 := ⟨zin 1412 (by decide +kernel) (by decide +kernel), zin 10 (by decide +kernel) (by decide +kernel), ⟨by decide +kernel, by decide +kernel, by decide +kernel⟩, by decide +kernel, by decide⟩
abbrev M_X8_mark : zM := (yX8_mark, cX8_mark, 2, none)
theorem k_X8_mark : zMk M_X8_mark 1 := ⟨zin 1416 (by decide +kernel) (by decide +kernel), zin 10 (by decide +kernel) (by decide +kernel), ⟨by decide +kernel, by decide +kernel, by decide +kernel⟩, by decide +kernel, by decide⟩
abbrev M_X8_factor : zM := (yX8_factor, cX8_factor, 4, some (.boolean))
theorem k_X8_factor : zMk M_X8_factor 1 := ⟨zin 1408 (by decide +kernel) (by decide +kernel), zin 10 (by decide +kernel) (by decide +kernel), ⟨by decide +kernel, by decide +kernel, by decide +kernel⟩, by decide +kernel, by decide⟩
abbrev M_X8_product : zM := (yX8_product, cX8_product, 2, some (.boolean))
theorem k_X8_product : zMk M_X8_product 1 := ⟨zin 1404 (by decide +kernel) (by decide +kernel), zin 10 (by decide +kernel) (by decide +kernel), ⟨by decide +kernel, by decide +kernel, by decide +kernel⟩, by decide +kernel, by decide⟩
abbrev M_X8_sum : zM := (yX8_sum, cX8_sum, 3, some (.boolean))
theorem k_X8_sum : zMk M_X8_sum 1 := ⟨zin 1400 (by decide +kernel) (by decide +kernel), zin 10 (by decide +kernel) (by decide +kernel), ⟨by decide +kernel, by decide +kernel, by decide +kernel⟩, by decide +kernel, by decide⟩
abbrev M_X8_compares : zM := (yX8_compares, cX8_compares, 2, some (.boolean))
theorem k_X8_compares : zMk M_X8_compares 0 := ⟨zin 1430 (by decide +kernel) (by decide +kernel), zin 10 (by decide +kernel) (by decide +kernel), ⟨by decide +kernel, by decide +kernel, by decide +kernel⟩, by decide +kernel, by decide⟩
abbrev M_X8_holdsRead : zM := (yX8_holdsRead, cX8_holdsRead, 1, some (.boolean))
theorem k_X8_holdsRead : zMk M_X8_holdsRead 0 := ⟨zin 1426 (by decide +kernel) (by decide +kernel), zin 10 (by decide +kernel) (by decide +kernel), ⟨by decide +kernel, by decide +kernel, by decide +kernel⟩, by decide +kernel, by decide⟩
abbrev M_X8_begins : zM := (yX8_begins, cX8_begins, 2, none)
theorem k_X8_begins : zMk M_X8_begins 1 := ⟨zin 1396 (by decide +kernel) (by decide +kernel), zin 10 (by decide +kernel) (by decide +kernel), ⟨by decide +kernel, by decide +kernel, by decide +kernel⟩, by decide +kernel, by decide⟩
abbrev M_X8_ends : zM := (yX8_ends, cX8_ends, 2, some (.boolean))
theorem k_X8_ends : zMk M_X8_ends 1 := ⟨zin 1420 (by decide +kernel) (by decide +kernel), zin 10 (by decide +kernel) (by decide +kernel), ⟨by decide +kernel, by decide +kernel, by decide +kernel⟩, by decide +kernel, by decide⟩
abbrev M_X8_line : zM := (yX8_line, cX8_line, 4, some (.boolean))
theorem k_X8_line : zMk M_X8_line 0 := ⟨zin 1381 (by decide +kernel) (by decide +kernel), zin 10 (by decide +kernel) (by decide +kernel), ⟨by decide +kernel, by decide +kernel, by decide +kernel⟩, by decide +kernel, by decide⟩
abbrev M_X8_reads : zM := (yX8_reads, cX8_reads, 2, none)
theorem k_X8_reads : zMk M_X8_reads 0 := ⟨zin 1369 (by decide +kernel) (by decide +kernel), zin 10 (by decide +kernel) (by decide +kernel), ⟨by decide +kernel, by decide +kernel, by decide +kernel⟩, by decide +kernel, by decide⟩
abbrev M_X8_fault : zM := (yX8_fault, cX8_fault, 1, some (.int))
theorem k_X8_fault : zMk M_X8_fault 0 := ⟨zin 1365 (by decide +kernel) (by decide +kernel), zin 10 (by decide +kernel) (by decide +kernel), ⟨by decide +kernel, by decide +kernel, by decide +kernel⟩, by decide +kernel, by decide⟩
abbrev M_X8_rules : zM := (yX8_rules, cX8_rules, 2, some (.int))
theorem k_X8_rules : zMk M_X8_rules 0 := ⟨zin 1435 (by decide +kernel) (by decide +kernel), zin 10 (by decide +kernel) (by decide +kernel), ⟨by decide +kernel, by decide +kernel, by decide +kernel⟩, by decide +kernel, by decide⟩
abbrev M_X8_brought : zM := (yX8_brought, cX8_brought, 2, some (.int))
theorem k_X8_brought : zMk M_X8_brought 1 := ⟨zin 1454 (by decide +kernel) (by decide +kernel), zin 10 (by decide +kernel) (by decide +kernel), ⟨by decide +kernel, by decide +kernel, by decide +kernel⟩, by decide +kernel, by decide⟩
abbrev M_X8_worked : zM := (yX8_worked, cX8_worked, 9, some (.int))
theorem k_X8_worked : zMk M_X8_worked 1 := ⟨zin 1451 (by decide +kernel) (by decide +kernel), zin 10 (by decide +kernel) (by decide +kernel), ⟨by decide +kernel, by decide +kernel, by decide +kernel⟩, by decide +kernel, by decide⟩
abbrev M_X8_lays : zM := (yX8_lays, cX8_lays, 6, none)
theorem k_X8_lays : zMk M_X8_lays 4 := ⟨zin 1447 (by decide +kernel) (by decide +kernel), zin 10 (by decide +kernel) (by decide +kernel), ⟨by decide +kernel, by decide +kernel, by decide +kernel⟩, by decide +kernel, by decide⟩
abbrev M_X8_areLater : zM := (yX8_areLater, cX8_areLater, 2, some (.boolean))
theorem k_X8_areLater : zMk M_X8_areLater 2 := ⟨zin 1442 (by decide +kernel) (by decide +kernel), zin 10 (by decide +kernel) (by decide +kernel), ⟨by decide +kernel, by decide +kernel, by decide +kernel⟩, by decide +kernel, by decide⟩
abbrev M_X8_office : zM := (yX8_office, cX8_office, 10, some (.int))
theorem k_X8_office : zMk M_X8_office 4 := ⟨zin 1439 (by decide +kernel) (by decide +kernel), zin 10 (by decide +kernel) (by decide +kernel), ⟨by decide +kernel, by decide +kernel, by decide +kernel⟩, by decide +kernel, by decide⟩
abbrev M_X8_grownTo : zM := (yX8_grownTo, cX8_grownTo, 5, some (.int))
theorem k_X8_grownTo : zMk M_X8_grownTo 4 := ⟨zin 1466 (by decide +kernel) (by decide +kernel), zin 10 (by decide +kernel) (by decide +kernel), ⟨by decide +kernel, by decide +kernel, by decide +kernel⟩, by decide +kernel, by decide⟩
abbrev M_X8_grown : zM := (yX8_grown, cX8_grown, 5, some (.int))
theorem k_X8_grown : zMk M_X8_grown 4 := ⟨zin 1462 (by decide +kernel) (by decide +kernel), zin 10 (by decide +kernel) (by decide +kernel), ⟨by decide +kernel, by decide +kernel, by decide +kernel⟩, by decide +kernel, by decide⟩
abbrev M_X8_before : zM := (yX8_before, cX8_before, 7, some (.int))
theorem k_X8_before : zMk M_X8_before 4 := ⟨zin 1470 (by decide +kernel) (by decide +kernel), zin 10 (by decide +kernel) (by decide +kernel), ⟨by decide +kernel, by decide +kernel, by decide +kernel⟩, by decide +kernel, by decide⟩
abbrev M_X8_lot : zM := (yX8_lot, cX8_lot, 2, some (.int))
theorem k_X8_lot : zMk M_X8_lot 1 := ⟨zin 1478 (by decide +kernel) (by decide +kernel), zin 10 (by decide +kernel) (by decide +kernel), ⟨by decide +kernel, by decide +kernel, by decide +kernel⟩, by decide +kernel, by decide⟩
abbrev M_X8_draw : zM := (yX8_draw, cX8_draw, 16, some (.int))
theorem k_X8_draw : zMk M_X8_draw 2 := ⟨zin 1474 (by decide +kernel) (by decide +kernel), zin 10 (by decide +kernel) (by decide +kernel), ⟨by decide +kernel, by decide +kernel, by decide +kernel⟩, by decide +kernel, by decide⟩
abbrev M_X8_count : zM := (yX8_count, cX8_count, 2, some (.int))
theorem k_X8_count : zMk M_X8_count 1 := ⟨zin 1487 (by decide +kernel) (by decide +kernel), zin 10 (by decide +kernel) (by decide +kernel), ⟨by decide +kernel, by decide +kernel, by decide +kernel⟩, by decide +kernel, by decide⟩
abbrev M_J6_bitCount_0f7a4 : zM := (yJ6_bitCount_0f7a4, cJ6_bitCount_0f7a4, 1, some (.int))
theorem k_J6_bitCount_0f7a4 : zMk M_J6_bitCount_0f7a4 1 := ⟨zin 580 (by decide +kernel) (by decide +kernel), zin 12 (by decide +kernel) (by decide +kernel), ⟨by decide +kernel, by decide +kernel, by decide +kernel⟩, by decide +kernel, by decide⟩
abbrev M_J9_floorDiv_7cf53 : zM := (yJ9_floorDiv_7cf53, cJ9_floorDiv_7cf53, 3, some (.int))
theorem k_J9_floorDiv_7cf53 : zMk M_J9_floorDiv_7cf53 2 := ⟨zin 465 (by decide +kernel) (by decide +kernel), zin 11 (by decide +kernel) (by decide +kernel), ⟨by decide +kernel, by decide +kernel, by decide +kernel⟩, by decide +kernel, by decide⟩
abbrev M_J9_floorMod_7cf53 : zM := (yJ9_floorMod_7cf53, cJ9_floorMod_7cf53, 3, some (.int))
theorem k_J9_floorMod_7cf53 : zMk M_J9_floorMod_7cf53 2 := ⟨zin 489 (by decide +kernel) (by decide +kernel), zin 11 (by decide +kernel) (by decide +kernel), ⟨by decide +kernel, by decide +kernel, by decide +kernel⟩, by decide +kernel, by decide⟩
abbrev M_J9_abs_0f7a4 : zM := (yJ9_abs_0f7a4, cJ9_abs_0f7a4, 1, some (.int))
theorem k_J9_abs_0f7a4 : zMk M_J9_abs_0f7a4 1 := ⟨zin 504 (by decide +kernel) (by decide +kernel), zin 11 (by decide +kernel) (by decide +kernel), ⟨by decide +kernel, by decide +kernel, by decide +kernel⟩, by decide +kernel, by decide⟩
abbrev M_J9_max_7cf53 : zM := (yJ9_max_7cf53, cJ9_max_7cf53, 2, some (.int))
theorem k_J9_max_7cf53 : zMk M_J9_max_7cf53 2 := ⟨zin 385 (by decide +kernel) (by decide +kernel), zin 11 (by decide +kernel) (by decide +kernel), ⟨by decide +kernel, by decide +kernel, by decide +kernel⟩, by decide +kernel, by decide⟩
abbrev M_J9_max_f86c9 : zM := (yJ9_max_f86c9, cJ9_max_f86c9, 4, some (.long))
theorem k_J9_max_f86c9 : zMk M_J9_max_f86c9 2 := ⟨zin 924 (by decide +kernel) (by decide +kernel), zin 11 (by decide +kernel) (by decide +kernel), ⟨by decide +kernel, by decide +kernel, by decide +kernel⟩, by decide +kernel, by decide⟩
abbrev M_J9_min_7cf53 : zM := (yJ9_min_7cf53, cJ9_min_7cf53, 2, some (.int))
theorem k_J9_min_7cf53 : zMk M_J9_min_7cf53 2 := ⟨zin 388 (by decide +kernel) (by decide +kernel), zin 11 (by decide +kernel) (by decide +kernel), ⟨by decide +kernel, by decide +kernel, by decide +kernel⟩, by decide +kernel, by decide⟩
abbrev M_J9_min_f86c9 : zM := (yJ9_min_f86c9, cJ9_min_f86c9, 4, some (.long))
theorem k_J9_min_f86c9 : zMk M_J9_min_f86c9 2 := ⟨zin 921 (by decide +kernel) (by decide +kernel), zin 11 (by decide +kernel) (by decide +kernel), ⟨by decide +kernel, by decide +kernel, by decide +kernel⟩, by decide +kernel, by decide⟩
abbrev M_J0_length_8abf5 : zM := (yJ0_length_8abf5, cJ0_length_8abf5, 1, some (.int))
theorem k_J0_length_8abf5 : zMk M_J0_length_8abf5 0 := ⟨zin 733 (by decide +kernel) (by decide +kernel), zin 13 (by decide +kernel) (by decide +kernel), ⟨by decide +kernel, by decide +kernel, by decide +kernel⟩, by decide +kernel, by decide⟩
abbrev M_J0_charAt_5068e : zM := (yJ0_charAt_5068e, cJ0_charAt_5068e, 2, some (.char))
theorem k_J0_charAt_5068e : zMk M_J0_charAt_5068e 1 := ⟨zin 743 (by decide +kernel) (by decide +kernel), zin 13 (by decide +kernel) (by decide +kernel), ⟨by decide +kernel, by decide +kernel, by decide +kernel⟩, by decide +kernel, by decide⟩
abbrev M_J0_indexOf_0f7a4 : zM := (yJ0_indexOf_0f7a4, cJ0_indexOf_0f7a4, 2, some (.int))
theorem k_J0_indexOf_0f7a4 : zMk M_J0_indexOf_0f7a4 1 := ⟨zin 787 (by decide +kernel) (by decide +kernel), zin 13 (by decide +kernel) (by decide +kernel), ⟨by decide +kernel, by decide +kernel, by decide +kernel⟩, by decide +kernel, by decide⟩
abbrev M_J0_indexOf_7cf53 : zM := (yJ0_indexOf_7cf53, cJ0_indexOf_7cf53, 3, some (.int))
theorem k_J0_indexOf_7cf53 : zMk M_J0_indexOf_7cf53 2 := ⟨zin 791 (by decide +kernel) (by decide +kernel), zin 13 (by decide +kernel) (by decide +kernel), ⟨by decide +kernel, by decide +kernel, by decide +kernel⟩, by decide +kernel, by decide⟩
abbrev M_J0_coder_7d493 : zM := (yJ0_coder_7d493, cJ0_coder_7d493, 1, some (.byte))
theorem k_J0_coder_7d493 : zMk M_J0_coder_7d493 0 := ⟨zin 737 (by decide +kernel) (by decide +kernel), zin 13 (by decide +kernel) (by decide +kernel), ⟨by decide +kernel, by decide +kernel, by decide +kernel⟩, by decide +kernel, by decide⟩
abbrev M_J0_isLatin1_aae02 : zM := (yJ0_isLatin1_aae02, cJ0_isLatin1_aae02, 1, some (.boolean))
theorem k_J0_isLatin1_aae02 : zMk M_J0_isLatin1_aae02 0 := ⟨zin 747 (by decide +kernel) (by decide +kernel), zin 13 (by decide +kernel) (by decide +kernel), ⟨by decide +kernel, by decide +kernel, by decide +kernel⟩, by decide +kernel, by decide⟩
abbrev M_J0_checkIndex_df160 : zM := (yJ0_checkIndex_df160, cJ0_checkIndex_df160, 2, none)
theorem k_J0_checkIndex_df160 : zMk M_J0_checkIndex_df160 2 := ⟨zin 753 (by decide +kernel) (by decide +kernel), zin 13 (by decide +kernel) (by decide +kernel), ⟨by decide +kernel, by decide +kernel, by decide +kernel⟩, by decide +kernel, by decide⟩
abbrev M_J1_charAt_3b067 : zM := (yJ1_charAt_3b067, cJ1_charAt_3b067, 2, some (.char))
theorem k_J1_charAt_3b067 : zMk M_J1_charAt_3b067 2 := ⟨zin 750 (by decide +kernel) (by decide +kernel), zin 14 (by decide +kernel) (by decide +kernel), ⟨by decide +kernel, by decide +kernel, by decide +kernel⟩, by decide +kernel, by decide⟩
abbrev M_J1_canEncode_9a6ad : zM := (yJ1_canEncode_9a6ad, cJ1_canEncode_9a6ad, 1, some (.boolean))
theorem k_J1_canEncode_9a6ad : zMk M_J1_canEncode_9a6ad 1 := ⟨zin 798 (by decide +kernel) (by decide +kernel), zin 14 (by decide +kernel) (by decide +kernel), ⟨by decide +kernel, by decide +kernel, by decide +kernel⟩, by decide +kernel, by decide⟩
abbrev M_J1_indexOf_4cfef : zM := (yJ1_indexOf_4cfef, cJ1_indexOf_4cfef, 4, some (.int))
theorem k_J1_indexOf_4cfef : zMk M_J1_indexOf_4cfef 4 := ⟨zin 795 (by decide +kernel) (by decide +kernel), zin 14 (by decide +kernel) (by decide +kernel), ⟨by decide +kernel, by decide +kernel, by decide +kernel⟩, by decide +kernel, by decide⟩
abbrev M_J1_indexOfChar_4cfef : zM := (yJ1_indexOfChar_4cfef, cJ1_indexOfChar_4cfef, 6, some (.int))
theorem k_J1_indexOfChar_4cfef : zMk M_J1_indexOfChar_4cfef 4 := ⟨zin 803 (by decide +kernel) (by decide +kernel), zin 14 (by decide +kernel) (by decide +kernel), ⟨by decide +kernel, by decide +kernel, by decide +kernel⟩, by decide +kernel, by decide⟩
abbrev M_J7_fill_53178 : zM := (yJ7_fill_53178, cJ7_fill_53178, 4, none)
theorem k_J7_fill_53178 : zMk M_J7_fill_53178 2 := ⟨zin 34 (by decide +kernel) (by decide +kernel), zin 3 (by decide +kernel) (by decide +kernel), ⟨by decide +kernel, by decide +kernel, by decide +kernel⟩, by decide +kernel, by decide⟩
abbrev M_J3_checkIndex_8e157 : zM := (yJ3_checkIndex_8e157, cJ3_checkIndex_8e157, 3, some (.int))
theorem k_J3_checkIndex_8e157 : zMk M_J3_checkIndex_8e157 3 := ⟨zin 758 (by decide +kernel) (by decide +kernel), zin 15 (by decide +kernel) (by decide +kernel), ⟨by decide +kernel, by decide +kernel, by decide +kernel⟩, by decide +kernel, by decide⟩
abbrev M_J3_checkFromToIndex_8c36e : zM := (yJ3_checkFromToIndex_8c36e, cJ3_checkFromToIndex_8c36e, 4, some (.int))
theorem k_J3_checkFromToIndex_8c36e : zMk M_J3_checkFromToIndex_8c36e 4 := ⟨zin 821 (by decide +kernel) (by decide +kernel), zin 15 (by decide +kernel) (by decide +kernel), ⟨by decide +kernel, by decide +kernel, by decide +kernel⟩, by decide +kernel, by decide⟩
abbrev M_L_law : zM := (⟨RL, "law", "([I)Z"⟩, code, 4, some .boolean)
/-! ===== links: fields and methods by class and index ===== -/
def zFk (own : String) (i c k : Nat) : Prop := k < zN c ∧ (Cond.fieldLink own i (zT c k).1 (zT c k).2.1 (zT c k).2.2.1 ∈ lw_g ∨ ∃ host, Cond.fieldLinkNest own i (zT c k).1 (zT c k).2.1 (zT c k).2.2.1 host ∈ lw_n)
def zLkV (own : String) (i : Nat) (M : zM) : Prop := Cond.methodLink own i M.1 ∈ lw_g ∧ Cond.instanceMethod M.1 ∈ lw_g ∧ Cond.selects M.1.cls M.1 M.1 ∈ lw_g
def zLkS (own : String) (i : Nat) (M : zM) : Prop := Cond.methodLink own i M.1 ∈ lw_g ∧ Cond.static M.1 ∈ lw_g
def zLkI (own : String) (i : Nat) (M : zM) : Prop := Cond.methodLink own i M.1 ∈ lw_g ∧ Cond.instanceMethod M.1 ∈ lw_g ∧ M.1.name = "<init>"
def zLkSN (own : String) (i : Nat) (M : zM) : Prop := ∃ host, Cond.methodLinkNest own i M.1 host ∈ lw_n ∧ Cond.static M.1 ∈ lw_g
def zLkIN (own : String) (i : Nat) (M : zM) : Prop := ∃ host, Cond.methodLinkNest own i M.1 host ∈ lw_n ∧ Cond.instanceMethod M.1 ∈ lw_g ∧ M.1.name = "<init>"
theorem f_X1_9 : zFk RX1 9 1 0 := ⟨by decide, Or.inl (zin 35 (by decide +kernel) (by decide +kernel))⟩
theorem f_X1_15 : zFk RX1 15 1 1 := ⟨by decide, Or.inl (zin 36 (by decide +kernel) (by decide +kernel))⟩
theorem f_X1_37 : zFk RX1 37 1 2 := ⟨by decide, Or.inl (zin 37 (by decide +kernel) (by decide +kernel))⟩
theorem f_X4_96 : zFk RX4 96 1 2 := ⟨by decide, Or.inr ⟨"MarshLights", zinn 38 (by decide +kernel) (by decide +kernel)⟩⟩
theorem f_X1_24 : zFk RX1 24 1 3 := ⟨by decide, Or.inl (zin 39 (by decide +kernel) (by decide +kernel))⟩
theorem f_X7_345 : zFk RX7 345 1 3 := ⟨by decide, Or.inr ⟨"MarshLights", zinn 40 (by decide +kernel) (by decide +kernel)⟩⟩
theorem f_X4_9 : zFk RX4 9 4 0 := ⟨by decide, Or.inl (zin 57 (by decide +kernel) (by decide +kernel))⟩
theorem f_X4_40 : zFk RX4 40 4 1 := ⟨by decide, Or.inl (zin 58 (by decide +kernel) (by decide +kernel))⟩
theorem f_X7_192 : zFk RX7 192 4 1 := ⟨by decide, Or.inr ⟨"MarshLights", zinn 59 (by decide +kernel) (by decide +kernel)⟩⟩
theorem f_X4_44 : zFk RX4 44 4 2 := ⟨by decide, Or.inl (zin 60 (by decide +kernel) (by decide +kernel))⟩
theorem f_X7_193 : zFk RX7 193 4 2 := ⟨by decide, Or.inr ⟨"MarshLights", zinn 61 (by decide +kernel) (by decide +kernel)⟩⟩
theorem f_X4_21 : zFk RX4 21 4 3 := ⟨by decide, Or.inl (zin 62 (by decide +kernel) (by decide +kernel))⟩
theorem f_X4_53 : zFk RX4 53 4 4 := ⟨by decide, Or.inl (zin 63 (by decide +kernel) (by decide +kernel))⟩
theorem f_X4_56 : zFk RX4 56 4 5 := ⟨by decide, Or.inl (zin 64 (by decide +kernel) (by decide +kernel))⟩
theorem f_X4_64 : zFk RX4 64 4 6 := ⟨by decide, Or.inl (zin 65 (by decide +kernel) (by decide +kernel))⟩
theorem f_X4_71 : zFk RX4 71 4 7 := ⟨by decide, Or.inl (zin 66 (by decide +kernel) (by decide +kernel))⟩
theorem f_X4_77 : zFk RX4 77 4 8 := ⟨by decide, Or.inl (zin 67 (by decide +kernel) (by decide +kernel))⟩
theorem f_X4_84 : zFk RX4 84 4 9 := ⟨by decide, Or.inl (zin 68 (by decide +kernel) (by decide +kernel))⟩
theorem f_X0_9 : zFk RX0 9 0 0 := ⟨by decide, Or.inl (zin 100 (by decide +kernel) (by decide +kernel))⟩
theorem f_X0_15 : zFk RX0 15 0 1 := ⟨by decide, Or.inl (zin 101 (by decide +kernel) (by decide +kernel))⟩
theorem f_X0_18 : zFk RX0 18 0 2 := ⟨by decide, Or.inl (zin 102 (by decide +kernel) (by decide +kernel))⟩
theorem f_X0_21 : zFk RX0 21 0 3 := ⟨by decide, Or.inl (zin 103 (by decide +kernel) (by decide +kernel))⟩
theorem f_X0_24 : zFk RX0 24 0 4 := ⟨by decide, Or.inl (zin 104 (by decide +kernel) (by decide +kernel))⟩
theorem f_X0_27 : zFk RX0 27 0 5 := ⟨by decide, Or.inl (zin 105 (by decide +kernel) (by decide +kernel))⟩
theorem f_X2_9 : zFk RX2 9 2 0 := ⟨by decide, Or.inl (zin 125 (by decide +kernel) (by decide +kernel))⟩
theorem f_X2_21 : zFk RX2 21 2 1 := ⟨by decide, Or.inl (zin 126 (by decide +kernel) (by decide +kernel))⟩
theorem f_X7_299 : zFk RX7 299 2 1 := ⟨by decide, Or.inr ⟨"MarshLights", zinn 127 (by decide +kernel) (by decide +kernel)⟩⟩
theorem f_X2_15 : zFk RX2 15 2 2 := ⟨by decide, Or.inl (zin 128 (by decide +kernel) (by decide +kernel))⟩
theorem f_X2_18 : zFk RX2 18 2 3 := ⟨by decide, Or.inl (zin 129 (by decide +kernel) (by decide +kernel))⟩
theorem f_X2_47 : zFk RX2 47 2 4 := ⟨by decide, Or.inl (zin 130 (by decide +kernel) (by decide +kernel))⟩
theorem f_X2_33 : zFk RX2 33 2 5 := ⟨by decide, Or.inl (zin 131 (by decide +kernel) (by decide +kernel))⟩
theorem f_X3_9 : zFk RX3 9 3 0 := ⟨by decide, Or.inl (zin 151 (by decide +kernel) (by decide +kernel))⟩
theorem f_X3_27 : zFk RX3 27 3 1 := ⟨by decide, Or.inl (zin 152 (by decide +kernel) (by decide +kernel))⟩
theorem f_X2_91 : zFk RX2 91 3 1 := ⟨by decide, Or.inr ⟨"MarshLights", zinn 153 (by decide +kernel) (by decide +kernel)⟩⟩
theorem f_X3_31 : zFk RX3 31 3 2 := ⟨by decide, Or.inl (zin 154 (by decide +kernel) (by decide +kernel))⟩
theorem f_X2_94 : zFk RX2 94 3 2 := ⟨by decide, Or.inr ⟨"MarshLights", zinn 155 (by decide +kernel) (by decide +kernel)⟩⟩
theorem f_X7_404 : zFk RX7 404 3 2 := ⟨by decide, Or.inr ⟨"MarshLights", zinn 156 (by decide +kernel) (by decide +kernel)⟩⟩
theorem f_X3_38 : zFk RX3 38 3 3 := ⟨by decide, Or.inl (zin 157 (by decide +kernel) (by decide +kernel))⟩
theorem f_X7_408 : zFk RX7 408 3 3 := ⟨by decide, Or.inr ⟨"MarshLights", zinn 158 (by decide +kernel) (by decide +kernel)⟩⟩
theorem f_X3_41 : zFk RX3 41 3 4 := ⟨by decide, Or.inl (zin 159 (by decide +kernel) (by decide +kernel))⟩
theorem f_X7_411 : zFk RX7 411 3 4 := ⟨by decide, Or.inr ⟨"MarshLights", zinn 160 (by decide +kernel) (by decide +kernel)⟩⟩
theorem f_X3_35 : zFk RX3 35 3 5 := ⟨by decide, Or.inl (zin 161 (by decide +kernel) (by decide +kernel))⟩
theorem f_X2_109 : zFk RX2 109 3 5 := ⟨by decide, Or.inr ⟨"MarshLights", zinn 162 (by decide +kernel) (by decide +kernel)⟩⟩
theorem f_X7_310 : zFk RX7 310 3 5 := ⟨by decide, Or.inr ⟨"MarshLights", zinn 163 (by decide +kernel) (by decide +kernel)⟩⟩
theorem f_X3_15 : zFk RX3 15 3 6 := ⟨by decide, Or.inl (zin 164 (by decide +kernel) (by decide +kernel))⟩
theorem f_X7_324 : zFk RX7 324 3 6 := ⟨by decide, Or.inr ⟨"MarshLights", zinn 165 (by decide +kernel) (by decide +kernel)⟩⟩
theorem f_X3_18 : zFk RX3 18 3 7 := ⟨by decide, Or.inl (zin 166 (by decide +kernel) (by decide +kernel))⟩
theorem f_X3_21 : zFk RX3 21 3 8 := ⟨by decide, Or.inl (zin 167 (by decide +kernel) (by decide +kernel))⟩
theorem f_X3_24 : zFk RX3 24 3 9 := ⟨by decide, Or.inl (zin 168 (by decide +kernel) (by decide +kernel))⟩
theorem f_X6_18 : zFk RX6 18 6 0 := ⟨by decide, Or.inl (zin 195 (by decide +kernel) (by decide +kernel))⟩
theorem f_X4_15 : zFk RX4 15 6 0 := ⟨by decide, Or.inr ⟨"MarshLights", zinn 196 (by decide +kernel) (by decide +kernel)⟩⟩
theorem f_X7_164 : zFk RX7 164 6 0 := ⟨by decide, Or.inr ⟨"MarshLights", zinn 197 (by decide +kernel) (by decide +kernel)⟩⟩
theorem f_X6_21 : zFk RX6 21 6 1 := ⟨by decide, Or.inl (zin 198 (by decide +kernel) (by decide +kernel))⟩
theorem f_X7_273 : zFk RX7 273 6 1 := ⟨by decide, Or.inr ⟨"MarshLights", zinn 199 (by decide +kernel) (by decide +kernel)⟩⟩
theorem f_X6_24 : zFk RX6 24 6 2 := ⟨by decide, Or.inl (zin 200 (by decide +kernel) (by decide +kernel))⟩
theorem f_X7_274 : zFk RX7 274 6 2 := ⟨by decide, Or.inr ⟨"MarshLights", zinn 201 (by decide +kernel) (by decide +kernel)⟩⟩
theorem f_X6_33 : zFk RX6 33 6 3 := ⟨by decide, Or.inl (zin 202 (by decide +kernel) (by decide +kernel))⟩
theorem f_X7_348 : zFk RX7 348 6 3 := ⟨by decide, Or.inr ⟨"MarshLights", zinn 203 (by decide +kernel) (by decide +kernel)⟩⟩
theorem f_X6_36 : zFk RX6 36 6 4 := ⟨by decide, Or.inl (zin 204 (by decide +kernel) (by decide +kernel))⟩
theorem f_X7_351 : zFk RX7 351 6 4 := ⟨by decide, Or.inr ⟨"MarshLights", zinn 205 (by decide +kernel) (by decide +kernel)⟩⟩
theorem f_X6_27 : zFk RX6 27 6 5 := ⟨by decide, Or.inl (zin 206 (by decide +kernel) (by decide +kernel))⟩
theorem f_X7_354 : zFk RX7 354 6 5 := ⟨by decide, Or.inr ⟨"MarshLights", zinn 207 (by decide +kernel) (by decide +kernel)⟩⟩
theorem f_X6_48 : zFk RX6 48 6 6 := ⟨by decide, Or.inl (zin 208 (by decide +kernel) (by decide +kernel))⟩
theorem f_X7_132 : zFk RX7 132 6 6 := ⟨by decide, Or.inr ⟨"MarshLights", zinn 209 (by decide +kernel) (by decide +kernel)⟩⟩
theorem f_X6_56 : zFk RX6 56 6 7 := ⟨by decide, Or.inl (zin 210 (by decide +kernel) (by decide +kernel))⟩
theorem f_X7_135 : zFk RX7 135 6 7 := ⟨by decide, Or.inr ⟨"MarshLights", zinn 211 (by decide +kernel) (by decide +kernel)⟩⟩
theorem f_X6_9 : zFk RX6 9 6 8 := ⟨by decide, Or.inl (zin 212 (by decide +kernel) (by decide +kernel))⟩
theorem f_X7_138 : zFk RX7 138 6 8 := ⟨by decide, Or.inr ⟨"MarshLights", zinn 213 (by decide +kernel) (by decide +kernel)⟩⟩
theorem f_X6_30 : zFk RX6 30 6 9 := ⟨by decide, Or.inl (zin 214 (by decide +kernel) (by decide +kernel))⟩
theorem f_X7_144 : zFk RX7 144 6 9 := ⟨by decide, Or.inr ⟨"MarshLights", zinn 215 (by decide +kernel) (by decide +kernel)⟩⟩
theorem f_X6_15 : zFk RX6 15 6 10 := ⟨by decide, Or.inl (zin 216 (by decide +kernel) (by decide +kernel))⟩
theorem f_X7_147 : zFk RX7 147 6 10 := ⟨by decide, Or.inr ⟨"MarshLights", zinn 217 (by decide +kernel) (by decide +kernel)⟩⟩
theorem f_X6_45 : zFk RX6 45 6 11 := ⟨by decide, Or.inl (zin 218 (by decide +kernel) (by decide +kernel))⟩
theorem f_X7_150 : zFk RX7 150 6 11 := ⟨by decide, Or.inr ⟨"MarshLights", zinn 219 (by decide +kernel) (by decide +kernel)⟩⟩
theorem f_X4_25 : zFk RX4 25 6 12 := ⟨by decide, Or.inr ⟨"MarshLights", zinn 220 (by decide +kernel) (by decide +kernel)⟩⟩
theorem f_X7_110 : zFk RX7 110 6 12 := ⟨by decide, Or.inr ⟨"MarshLights", zinn 221 (by decide +kernel) (by decide +kernel)⟩⟩
theorem f_X4_41 : zFk RX4 41 6 13 := ⟨by decide, Or.inr ⟨"MarshLights", zinn 222 (by decide +kernel) (by decide +kernel)⟩⟩
theorem f_X7_113 : zFk RX7 113 6 13 := ⟨by decide, Or.inr ⟨"MarshLights", zinn 223 (by decide +kernel) (by decide +kernel)⟩⟩
theorem f_X4_28 : zFk RX4 28 6 14 := ⟨by decide, Or.inr ⟨"MarshLights", zinn 224 (by decide +kernel) (by decide +kernel)⟩⟩
theorem f_X7_116 : zFk RX7 116 6 14 := ⟨by decide, Or.inr ⟨"MarshLights", zinn 225 (by decide +kernel) (by decide +kernel)⟩⟩
theorem f_X5_9 : zFk RX5 9 5 0 := ⟨by decide, Or.inl (zin 262 (by decide +kernel) (by decide +kernel))⟩
theorem f_X7_203 : zFk RX7 203 5 0 := ⟨by decide, Or.inr ⟨"MarshLights", zinn 263 (by decide +kernel) (by decide +kernel)⟩⟩
theorem f_X5_15 : zFk RX5 15 5 1 := ⟨by decide, Or.inl (zin 264 (by decide +kernel) (by decide +kernel))⟩
theorem f_X7_206 : zFk RX7 206 5 1 := ⟨by decide, Or.inr ⟨"MarshLights", zinn 265 (by decide +kernel) (by decide +kernel)⟩⟩
theorem f_X5_18 : zFk RX5 18 5 2 := ⟨by decide, Or.inl (zin 266 (by decide +kernel) (by decide +kernel))⟩
theorem f_X7_209 : zFk RX7 209 5 2 := ⟨by decide, Or.inr ⟨"MarshLights", zinn 267 (by decide +kernel) (by decide +kernel)⟩⟩
theorem f_X5_21 : zFk RX5 21 5 3 := ⟨by decide, Or.inl (zin 268 (by decide +kernel) (by decide +kernel))⟩
theorem f_X7_212 : zFk RX7 212 5 3 := ⟨by decide, Or.inr ⟨"MarshLights", zinn 269 (by decide +kernel) (by decide +kernel)⟩⟩
theorem f_X5_24 : zFk RX5 24 5 4 := ⟨by decide, Or.inl (zin 270 (by decide +kernel) (by decide +kernel))⟩
theorem f_X7_215 : zFk RX7 215 5 4 := ⟨by decide, Or.inr ⟨"MarshLights", zinn 271 (by decide +kernel) (by decide +kernel)⟩⟩
theorem f_X5_27 : zFk RX5 27 5 5 := ⟨by decide, Or.inl (zin 272 (by decide +kernel) (by decide +kernel))⟩
theorem f_X7_218 : zFk RX7 218 5 5 := ⟨by decide, Or.inr ⟨"MarshLights", zinn 273 (by decide +kernel) (by decide +kernel)⟩⟩
theorem f_X5_30 : zFk RX5 30 5 6 := ⟨by decide, Or.inl (zin 274 (by decide +kernel) (by decide +kernel))⟩
theorem f_X7_221 : zFk RX7 221 5 6 := ⟨by decide, Or.inr ⟨"MarshLights", zinn 275 (by decide +kernel) (by decide +kernel)⟩⟩
theorem f_X5_33 : zFk RX5 33 5 7 := ⟨by decide, Or.inl (zin 276 (by decide +kernel) (by decide +kernel))⟩
theorem f_X7_224 : zFk RX7 224 5 7 := ⟨by decide, Or.inr ⟨"MarshLights", zinn 277 (by decide +kernel) (by decide +kernel)⟩⟩
theorem f_X5_36 : zFk RX5 36 5 8 := ⟨by decide, Or.inl (zin 278 (by decide +kernel) (by decide +kernel))⟩
theorem f_X7_227 : zFk RX7 227 5 8 := ⟨by decide, Or.inr ⟨"MarshLights", zinn 279 (by decide +kernel) (by decide +kernel)⟩⟩
theorem f_X7_361 : zFk RX7 361 5 9 := ⟨by decide, Or.inr ⟨"MarshLights", zinn 280 (by decide +kernel) (by decide +kernel)⟩⟩
theorem f_X7_230 : zFk RX7 230 5 10 := ⟨by decide, Or.inr ⟨"MarshLights", zinn 281 (by decide +kernel) (by decide +kernel)⟩⟩
theorem f_X7_293 : zFk RX7 293 5 11 := ⟨by decide, Or.inr ⟨"MarshLights", zinn 282 (by decide +kernel) (by decide +kernel)⟩⟩
theorem f_X7_296 : zFk RX7 296 5 12 := ⟨by decide, Or.inr ⟨"MarshLights", zinn 283 (by decide +kernel) (by decide +kernel)⟩⟩
theorem f_X7_233 : zFk RX7 233 5 13 := ⟨by decide, Or.inr ⟨"MarshLights", zinn 284 (by decide +kernel) (by decide +kernel)⟩⟩
theorem f_X7_12 : zFk RX7 12 7 0 := ⟨by decide, Or.inl (zin 314 (by decide +kernel) (by decide +kernel))⟩
theorem f_X7_21 : zFk RX7 21 7 1 := ⟨by decide, Or.inl (zin 315 (by decide +kernel) (by decide +kernel))⟩
theorem f_X7_25 : zFk RX7 25 7 2 := ⟨by decide, Or.inl (zin 316 (by decide +kernel) (by decide +kernel))⟩
theorem f_X7_94 : zFk RX7 94 7 3 := ⟨by decide, Or.inl (zin 317 (by decide +kernel) (by decide +kernel))⟩
theorem f_X7_31 : zFk RX7 31 7 4 := ⟨by decide, Or.inl (zin 318 (by decide +kernel) (by decide +kernel))⟩
theorem f_X7_103 : zFk RX7 103 7 5 := ⟨by decide, Or.inl (zin 319 (by decide +kernel) (by decide +kernel))⟩
theorem f_X7_37 : zFk RX7 37 7 6 := ⟨by decide, Or.inl (zin 320 (by decide +kernel) (by decide +kernel))⟩
theorem f_X7_200 : zFk RX7 200 7 7 := ⟨by decide, Or.inl (zin 321 (by decide +kernel) (by decide +kernel))⟩
theorem f_X7_41 : zFk RX7 41 7 8 := ⟨by decide, Or.inl (zin 322 (by decide +kernel) (by decide +kernel))⟩
theorem f_X7_45 : zFk RX7 45 7 9 := ⟨by decide, Or.inl (zin 323 (by decide +kernel) (by decide +kernel))⟩
theorem f_X7_48 : zFk RX7 48 7 10 := ⟨by decide, Or.inl (zin 324 (by decide +kernel) (by decide +kernel))⟩
theorem f_X7_51 : zFk RX7 51 7 11 := ⟨by decide, Or.inl (zin 325 (by decide +kernel) (by decide +kernel))⟩
theorem f_X7_54 : zFk RX7 54 7 12 := ⟨by decide, Or.inl (zin 326 (by decide +kernel) (by decide +kernel))⟩
theorem f_X7_60 : zFk RX7 60 7 13 := ⟨by decide, Or.inl (zin 327 (by decide +kernel) (by decide +kernel))⟩
theorem f_X7_67 : zFk RX7 67 7 14 := ⟨by decide, Or.inl (zin 328 (by decide +kernel) (by decide +kernel))⟩
theorem f_X7_74 : zFk RX7 74 7 15 := ⟨by decide, Or.inl (zin 329 (by decide +kernel) (by decide +kernel))⟩
theorem f_X7_78 : zFk RX7 78 7 16 := ⟨by decide, Or.inl (zin 330 (by decide +kernel) (by decide +kernel))⟩
theorem f_X7_81 : zFk RX7 81 7 17 := ⟨by decide, Or.inl (zin 331 (by decide +kernel) (by decide +kernel))⟩
theorem f_X7_338 : zFk RX7 338 7 18 := ⟨by decide, Or.inl (zin 332 (by decide +kernel) (by decide +kernel))⟩
theorem f_X8_9 : zFk RX8 9 8 0 := ⟨by decide, Or.inl (zin 991 (by decide +kernel) (by decide +kernel))⟩
theorem f_X8_13 : zFk RX8 13 8 1 := ⟨by decide, Or.inl (zin 992 (by decide +kernel) (by decide +kernel))⟩
theorem f_X8_16 : zFk RX8 16 8 2 := ⟨by decide, Or.inl (zin 993 (by decide +kernel) (by decide +kernel))⟩
theorem f_X8_19 : zFk RX8 19 8 3 := ⟨by decide, Or.inl (zin 994 (by decide +kernel) (by decide +kernel))⟩
theorem f_X8_22 : zFk RX8 22 8 4 := ⟨by decide, Or.inl (zin 995 (by decide +kernel) (by decide +kernel))⟩
theorem f_X8_25 : zFk RX8 25 8 5 := ⟨by decide, Or.inl (zin 996 (by decide +kernel) (by decide +kernel))⟩
theorem f_X8_28 : zFk RX8 28 8 6 := ⟨by decide, Or.inl (zin 997 (by decide +kernel) (by decide +kernel))⟩
theorem f_X8_31 : zFk RX8 31 8 7 := ⟨by decide, Or.inl (zin 998 (by decide +kernel) (by decide +kernel))⟩
theorem f_X8_34 : zFk RX8 34 8 8 := ⟨by decide, Or.inl (zin 999 (by decide +kernel) (by decide +kernel))⟩
theorem f_X8_37 : zFk RX8 37 8 9 := ⟨by decide, Or.inl (zin 1000 (by decide +kernel) (by decide +kernel))⟩
theorem f_X8_40 : zFk RX8 40 8 10 := ⟨by decide, Or.inl (zin 1001 (by decide +kernel) (by decide +kernel))⟩
theorem f_X8_43 : zFk RX8 43 8 11 := ⟨by decide, Or.inl (zin 1002 (by decide +kernel) (by decide +kernel))⟩
theorem f_X8_46 : zFk RX8 46 8 12 := ⟨by decide, Or.inl (zin 1003 (by decide +kernel) (by decide +kernel))⟩
theorem f_X8_49 : zFk RX8 49 8 13 := ⟨by decide, Or.inl (zin 1004 (by decide +kernel) (by decide +kernel))⟩
theorem f_X8_52 : zFk RX8 52 8 14 := ⟨by decide, Or.inl (zin 1005 (by decide +kernel) (by decide +kernel))⟩
theorem f_X8_55 : zFk RX8 55 8 15 := ⟨by decide, Or.inl (zin 1006 (by decide +kernel) (by decide +kernel))⟩
theorem f_X8_58 : zFk RX8 58 8 16 := ⟨by decide, Or.inl (zin 1007 (by decide +kernel) (by decide +kernel))⟩
theorem f_X8_162 : zFk RX8 162 8 17 := ⟨by decide, Or.inl (zin 1008 (by decide +kernel) (by decide +kernel))⟩
theorem f_X8_180 : zFk RX8 180 8 18 := ⟨by decide, Or.inl (zin 1009 (by decide +kernel) (by decide +kernel))⟩
theorem f_X8_183 : zFk RX8 183 8 19 := ⟨by decide, Or.inl (zin 1010 (by decide +kernel) (by decide +kernel))⟩
theorem f_X8_207 : zFk RX8 207 8 20 := ⟨by decide, Or.inl (zin 1011 (by decide +kernel) (by decide +kernel))⟩
theorem f_X8_210 : zFk RX8 210 8 21 := ⟨by decide, Or.inl (zin 1012 (by decide +kernel) (by decide +kernel))⟩
theorem f_X8_213 : zFk RX8 213 8 22 := ⟨by decide, Or.inl (zin 1013 (by decide +kernel) (by decide +kernel))⟩
theorem f_X8_63 : zFk RX8 63 8 23 := ⟨by decide, Or.inl (zin 1014 (by decide +kernel) (by decide +kernel))⟩
theorem f_X8_270 : zFk RX8 270 8 24 := ⟨by decide, Or.inl (zin 1015 (by decide +kernel) (by decide +kernel))⟩
theorem f_X8_66 : zFk RX8 66 8 25 := ⟨by decide, Or.inl (zin 1016 (by decide +kernel) (by decide +kernel))⟩
theorem f_X8_70 : zFk RX8 70 8 26 := ⟨by decide, Or.inl (zin 1017 (by decide +kernel) (by decide +kernel))⟩
theorem f_X8_73 : zFk RX8 73 8 27 := ⟨by decide, Or.inl (zin 1018 (by decide +kernel) (by decide +kernel))⟩
theorem f_X8_76 : zFk RX8 76 8 28 := ⟨by decide, Or.inl (zin 1019 (by decide +kernel) (by decide +kernel))⟩
theorem f_X8_322 : zFk RX8 322 8 29 := ⟨by decide, Or.inl (zin 1020 (by decide +kernel) (by decide +kernel))⟩
theorem f_X8_332 : zFk RX8 332 8 30 := ⟨by decide, Or.inl (zin 1021 (by decide +kernel) (by decide +kernel))⟩
theorem f_X8_329 : zFk RX8 329 8 31 := ⟨by decide, Or.inl (zin 1022 (by decide +kernel) (by decide +kernel))⟩
theorem f_X8_338 : zFk RX8 338 8 32 := ⟨by decide, Or.inl (zin 1023 (by decide +kernel) (by decide +kernel))⟩
theorem f_X8_80 : zFk RX8 80 8 33 := ⟨by decide, Or.inl (zin 1024 (by decide +kernel) (by decide +kernel))⟩
theorem f_X8_83 : zFk RX8 83 8 34 := ⟨by decide, Or.inl (zin 1025 (by decide +kernel) (by decide +kernel))⟩
theorem f_X8_86 : zFk RX8 86 8 35 := ⟨by decide, Or.inl (zin 1026 (by decide +kernel) (by decide +kernel))⟩
theorem f_X8_89 : zFk RX8 89 8 36 := ⟨by decide, Or.inl (zin 1027 (by decide +kernel) (by decide +kernel))⟩
theorem f_X8_92 : zFk RX8 92 8 37 := ⟨by decide, Or.inl (zin 1028 (by decide +kernel) (by decide +kernel))⟩
theorem f_X8_95 : zFk RX8 95 8 38 := ⟨by decide, Or.inl (zin 1029 (by decide +kernel) (by decide +kernel))⟩
theorem f_X8_98 : zFk RX8 98 8 39 := ⟨by decide, Or.inl (zin 1030 (by decide +kernel) (by decide +kernel))⟩
theorem f_X8_102 : zFk RX8 102 8 40 := ⟨by decide, Or.inl (zin 1031 (by decide +kernel) (by decide +kernel))⟩
theorem f_X8_105 : zFk RX8 105 8 41 := ⟨by decide, Or.inl (zin 1032 (by decide +kernel) (by decide +kernel))⟩
theorem f_X8_124 : zFk RX8 124 8 42 := ⟨by decide, Or.inl (zin 1033 (by decide +kernel) (by decide +kernel))⟩
theorem f_X8_142 : zFk RX8 142 8 43 := ⟨by decide, Or.inl (zin 1034 (by decide +kernel) (by decide +kernel))⟩
theorem f_X8_430 : zFk RX8 430 8 44 := ⟨by decide, Or.inl (zin 1035 (by decide +kernel) (by decide +kernel))⟩
theorem m_L_9 : zLkI RL 9 M_X7_init := ⟨zin 20 (by decide +kernel) (by decide +kernel), zin 21 (by decide +kernel) (by decide +kernel), rfl⟩
theorem m_X7_11 : zLkI RX7 11 M_X1_init := ⟨zin 28 (by decide +kernel) (by decide +kernel), zin 29 (by decide +kernel) (by decide +kernel), rfl⟩
theorem m_X1_18 : zLkS RX1 18 M_J7_fill_53178 := ⟨zin 32 (by decide +kernel) (by decide +kernel), zin 33 (by decide +kernel) (by decide +kernel)⟩
theorem m_X7_18 : zLkI RX7 18 M_X4_init := ⟨zin 53 (by decide +kernel) (by decide +kernel), zin 54 (by decide +kernel) (by decide +kernel), rfl⟩
theorem m_X7_59 : zLkIN RX7 59 M_X0_init := ⟨"MarshLights", zinn 96 (by decide +kernel) (by decide +kernel), zin 97 (by decide +kernel) (by decide +kernel), rfl⟩
theorem m_X7_66 : zLkIN RX7 66 M_X2_init := ⟨"MarshLights", zinn 121 (by decide +kernel) (by decide +kernel), zin 122 (by decide +kernel) (by decide +kernel), rfl⟩
theorem m_X7_73 : zLkIN RX7 73 M_X3_init := ⟨"MarshLights", zinn 147 (by decide +kernel) (by decide +kernel), zin 148 (by decide +kernel) (by decide +kernel), rfl⟩
theorem m_X7_84 : zLkIN RX7 84 M_X6_init := ⟨"MarshLights", zinn 191 (by decide +kernel) (by decide +kernel), zin 192 (by decide +kernel) (by decide +kernel), rfl⟩
theorem m_X7_85 : zLkIN RX7 85 M_X5_init := ⟨"MarshLights", zinn 258 (by decide +kernel) (by decide +kernel), zin 259 (by decide +kernel) (by decide +kernel), rfl⟩
theorem m_L_13 : zLkV RL 13 M_X7_hill := ⟨zin 372 (by decide +kernel) (by decide +kernel), zin 373 (by decide +kernel) (by decide +kernel), zin 374 (by decide +kernel) (by decide +kernel)⟩
theorem m_X7_86 : zLkS RX7 86 M_X7_isPlace := ⟨zin 376 (by decide +kernel) (by decide +kernel), zin 377 (by decide +kernel) (by decide +kernel)⟩
theorem m_X7_90 : zLkV RX7 90 M_X1_raise := ⟨zin 379 (by decide +kernel) (by decide +kernel), zin 380 (by decide +kernel) (by decide +kernel), zin 381 (by decide +kernel) (by decide +kernel)⟩
theorem m_X1_28 : zLkS RX1 28 M_J9_max_7cf53 := ⟨zin 383 (by decide +kernel) (by decide +kernel), zin 384 (by decide +kernel) (by decide +kernel)⟩
theorem m_X1_34 : zLkS RX1 34 M_J9_min_7cf53 := ⟨zin 386 (by decide +kernel) (by decide +kernel), zin 387 (by decide +kernel) (by decide +kernel)⟩
theorem m_L_18 : zLkV RL 18 M_X7_seer := ⟨zin 389 (by decide +kernel) (by decide +kernel), zin 390 (by decide +kernel) (by decide +kernel), zin 391 (by decide +kernel) (by decide +kernel)⟩
theorem m_L_23 : zLkV RL 23 M_X7_star := ⟨zin 393 (by decide +kernel) (by decide +kernel), zin 394 (by decide +kernel) (by decide +kernel), zin 395 (by decide +kernel) (by decide +kernel)⟩
theorem m_X7_97 : zLkS RX7 97 M_X7_isWay := ⟨zin 397 (by decide +kernel) (by decide +kernel), zin 398 (by decide +kernel) (by decide +kernel)⟩
theorem m_X7_100 : zLkS RX7 100 M_X7_isToldSlope := ⟨zin 400 (by decide +kernel) (by decide +kernel), zin 401 (by decide +kernel) (by decide +kernel)⟩
theorem m_X7_106 : zLkV RX7 106 M_X7_newThing := ⟨zin 403 (by decide +kernel) (by decide +kernel), zin 405 (by decide +kernel) (by decide +kernel), zinp 0 (by decide +kernel) (by decide +kernel)⟩
theorem m_L_27 : zLkV RL 27 M_X7_flies := ⟨zin 407 (by decide +kernel) (by decide +kernel), zin 408 (by decide +kernel) (by decide +kernel), zin 409 (by decide +kernel) (by decide +kernel)⟩
theorem m_X7_119 : zLkS RX7 119 M_X7_divisorOf := ⟨zin 411 (by decide +kernel) (by decide +kernel), zin 412 (by decide +kernel) (by decide +kernel)⟩
theorem m_X7_123 : zLkS RX7 123 M_X7_isSpan := ⟨zin 414 (by decide +kernel) (by decide +kernel), zin 415 (by decide +kernel) (by decide +kernel)⟩
theorem m_X7_126 : zLkS RX7 126 M_X7_isHeight := ⟨zin 417 (by decide +kernel) (by decide +kernel), zin 418 (by decide +kernel) (by decide +kernel)⟩
theorem m_X7_129 : zLkS RX7 129 M_X7_isSpeed := ⟨zin 420 (by decide +kernel) (by decide +kernel), zin 421 (by decide +kernel) (by decide +kernel)⟩
theorem m_L_32 : zLkV RL 32 M_X7_flare := ⟨zin 423 (by decide +kernel) (by decide +kernel), zin 424 (by decide +kernel) (by decide +kernel), zin 425 (by decide +kernel) (by decide +kernel)⟩
theorem m_X7_141 : zLkS RX7 141 M_X7_isFall := ⟨zin 427 (by decide +kernel) (by decide +kernel), zin 428 (by decide +kernel) (by decide +kernel)⟩
theorem m_L_37 : zLkV RL 37 M_X7_lamp := ⟨zin 430 (by decide +kernel) (by decide +kernel), zin 431 (by decide +kernel) (by decide +kernel), zin 432 (by decide +kernel) (by decide +kernel)⟩
theorem m_L_41 : zLkV RL 41 M_X7_ground := ⟨zin 434 (by decide +kernel) (by decide +kernel), zin 435 (by decide +kernel) (by decide +kernel), zin 436 (by decide +kernel) (by decide +kernel)⟩
theorem m_X7_153 : zLkV RX7 153 M_X1_groundAt := ⟨zin 438 (by decide +kernel) (by decide +kernel), zin 439 (by decide +kernel) (by decide +kernel), zin 440 (by decide +kernel) (by decide +kernel)⟩
theorem m_L_45 : zLkV RL 45 M_X7_at := ⟨zin 442 (by decide +kernel) (by decide +kernel), zin 443 (by decide +kernel) (by decide +kernel), zin 444 (by decide +kernel) (by decide +kernel)⟩
theorem m_X7_157 : zLkV RX7 157 M_X7_isThing := ⟨zin 446 (by decide +kernel) (by decide +kernel), zin 448 (by decide +kernel) (by decide +kernel), zinp 1 (by decide +kernel) (by decide +kernel)⟩
theorem m_X7_160 : zLkS RX7 160 M_X7_isMinute := ⟨zin 450 (by decide +kernel) (by decide +kernel), zin 451 (by decide +kernel) (by decide +kernel)⟩
theorem m_X7_167 : zLkV RX7 167 M_X6_isThere := ⟨zin 454 (by decide +kernel) (by decide +kernel), zin 455 (by decide +kernel) (by decide +kernel), zin 456 (by decide +kernel) (by decide +kernel)⟩
theorem m_X6_39 : zLkV RX6 39 M_X1_groundAt := ⟨zin 458 (by decide +kernel) (by decide +kernel), zin 439 (by decide +kernel) (by decide +kernel), zin 440 (by decide +kernel) (by decide +kernel)⟩
theorem m_X7_171 : zLkV RX7 171 M_X6_xIn := ⟨zin 459 (by decide +kernel) (by decide +kernel), zin 460 (by decide +kernel) (by decide +kernel), zin 461 (by decide +kernel) (by decide +kernel)⟩
theorem m_X6_51 : zLkS RX6 51 M_J9_floorDiv_7cf53 := ⟨zin 463 (by decide +kernel) (by decide +kernel), zin 464 (by decide +kernel) (by decide +kernel)⟩
theorem m_X7_174 : zLkV RX7 174 M_X6_yIn := ⟨zin 466 (by decide +kernel) (by decide +kernel), zin 467 (by decide +kernel) (by decide +kernel), zin 468 (by decide +kernel) (by decide +kernel)⟩
theorem m_X7_177 : zLkV RX7 177 M_X6_zIn := ⟨zin 470 (by decide +kernel) (by decide +kernel), zin 471 (by decide +kernel) (by decide +kernel), zin 472 (by decide +kernel) (by decide +kernel)⟩
theorem m_L_49 : zLkV RL 49 M_X7_seen := ⟨zin 474 (by decide +kernel) (by decide +kernel), zin 475 (by decide +kernel) (by decide +kernel), zin 476 (by decide +kernel) (by decide +kernel)⟩
theorem m_X7_181 : zLkV RX7 181 M_X7_isSeer := ⟨zin 478 (by decide +kernel) (by decide +kernel), zin 480 (by decide +kernel) (by decide +kernel), zinp 2 (by decide +kernel) (by decide +kernel)⟩
theorem m_X7_184 : zLkV RX7 184 M_X4_look := ⟨zin 482 (by decide +kernel) (by decide +kernel), zin 483 (by decide +kernel) (by decide +kernel), zin 484 (by decide +kernel) (by decide +kernel)⟩
theorem m_X4_31 : zLkS RX4 31 M_J9_floorDiv_7cf53 := ⟨zin 486 (by decide +kernel) (by decide +kernel), zin 464 (by decide +kernel) (by decide +kernel)⟩
theorem m_X4_37 : zLkS RX4 37 M_J9_floorMod_7cf53 := ⟨zin 487 (by decide +kernel) (by decide +kernel), zin 488 (by decide +kernel) (by decide +kernel)⟩
theorem m_X4_45 : zLkV RX4 45 M_X6_isThere := ⟨zin 490 (by decide +kernel) (by decide +kernel), zin 455 (by decide +kernel) (by decide +kernel), zin 456 (by decide +kernel) (by decide +kernel)⟩
theorem m_X4_49 : zLkV RX4 49 M_X6_isLit := ⟨zin 491 (by decide +kernel) (by decide +kernel), zin 492 (by decide +kernel) (by decide +kernel), zin 493 (by decide +kernel) (by decide +kernel)⟩
theorem m_X4_59 : zLkV RX4 59 M_X1_groundAt := ⟨zin 495 (by decide +kernel) (by decide +kernel), zin 439 (by decide +kernel) (by decide +kernel), zin 440 (by decide +kernel) (by decide +kernel)⟩
theorem m_X4_67 : zLkV RX4 67 M_X6_xIn := ⟨zin 496 (by decide +kernel) (by decide +kernel), zin 460 (by decide +kernel) (by decide +kernel), zin 461 (by decide +kernel) (by decide +kernel)⟩
theorem m_X4_74 : zLkV RX4 74 M_X6_yIn := ⟨zin 497 (by decide +kernel) (by decide +kernel), zin 467 (by decide +kernel) (by decide +kernel), zin 468 (by decide +kernel) (by decide +kernel)⟩
theorem m_X4_80 : zLkV RX4 80 M_X6_zIn := ⟨zin 498 (by decide +kernel) (by decide +kernel), zin 471 (by decide +kernel) (by decide +kernel), zin 472 (by decide +kernel) (by decide +kernel)⟩
theorem m_X4_87 : zLkSN RX4 87 M_X7_wayOf := ⟨"MarshLights", zinn 499 (by decide +kernel) (by decide +kernel), zin 500 (by decide +kernel) (by decide +kernel)⟩
theorem m_X7_281 : zLkS RX7 281 M_J9_abs_0f7a4 := ⟨zin 502 (by decide +kernel) (by decide +kernel), zin 503 (by decide +kernel) (by decide +kernel)⟩
theorem m_X4_90 : zLkS RX4 90 M_J9_abs_0f7a4 := ⟨zin 505 (by decide +kernel) (by decide +kernel), zin 503 (by decide +kernel) (by decide +kernel)⟩
theorem m_X4_93 : zLkSN RX4 93 M_X7_slopeOf := ⟨"MarshLights", zinn 506 (by decide +kernel) (by decide +kernel), zin 507 (by decide +kernel) (by decide +kernel)⟩
theorem m_X7_398 : zLkS RX7 398 M_J9_floorDiv_7cf53 := ⟨zin 509 (by decide +kernel) (by decide +kernel), zin 464 (by decide +kernel) (by decide +kernel)⟩
theorem m_X7_401 : zLkS RX7 401 M_X7_within := ⟨zin 510 (by decide +kernel) (by decide +kernel), zin 511 (by decide +kernel) (by decide +kernel)⟩
theorem m_X7_370 : zLkS RX7 370 M_J9_min_7cf53 := ⟨zin 513 (by decide +kernel) (by decide +kernel), zin 387 (by decide +kernel) (by decide +kernel)⟩
theorem m_X7_383 : zLkS RX7 383 M_J9_max_7cf53 := ⟨zin 514 (by decide +kernel) (by decide +kernel), zin 384 (by decide +kernel) (by decide +kernel)⟩
theorem m_X7_188 : zLkV RX7 188 M_X4_hidingHill := ⟨zin 515 (by decide +kernel) (by decide +kernel), zin 516 (by decide +kernel) (by decide +kernel), zin 517 (by decide +kernel) (by decide +kernel)⟩
theorem m_X4_99 : zLkV RX4 99 M_X1_makerAt := ⟨zin 519 (by decide +kernel) (by decide +kernel), zin 520 (by decide +kernel) (by decide +kernel), zin 521 (by decide +kernel) (by decide +kernel)⟩
theorem m_L_53 : zLkV RL 53 M_X7_tell := ⟨zin 523 (by decide +kernel) (by decide +kernel), zin 524 (by decide +kernel) (by decide +kernel), zin 525 (by decide +kernel) (by decide +kernel)⟩
theorem m_X7_194 : zLkS RX7 194 M_X7_isDirection := ⟨zin 527 (by decide +kernel) (by decide +kernel), zin 528 (by decide +kernel) (by decide +kernel)⟩
theorem m_X7_197 : zLkS RX7 197 M_X7_isLightsAndHull := ⟨zin 530 (by decide +kernel) (by decide +kernel), zin 531 (by decide +kernel) (by decide +kernel)⟩
theorem m_X7_286 : zLkS RX7 286 M_X7_isLights := ⟨zin 533 (by decide +kernel) (by decide +kernel), zin 534 (by decide +kernel) (by decide +kernel)⟩
theorem m_X7_330 : zLkS RX7 330 M_X7_isHull := ⟨zin 536 (by decide +kernel) (by decide +kernel), zin 537 (by decide +kernel) (by decide +kernel)⟩
theorem m_L_57 : zLkV RL 57 M_X7_undo := ⟨zin 539 (by decide +kernel) (by decide +kernel), zin 540 (by decide +kernel) (by decide +kernel), zin 541 (by decide +kernel) (by decide +kernel)⟩
theorem m_L_62 : zLkV RL 62 M_X7_off := ⟨zin 543 (by decide +kernel) (by decide +kernel), zin 544 (by decide +kernel) (by decide +kernel), zin 545 (by decide +kernel) (by decide +kernel)⟩
theorem m_L_67 : zLkV RL 67 M_X7_telling := ⟨zin 547 (by decide +kernel) (by decide +kernel), zin 548 (by decide +kernel) (by decide +kernel), zin 549 (by decide +kernel) (by decide +kernel)⟩
theorem m_X7_236 : zLkV RX7 236 M_X7_isTelling := ⟨zin 551 (by decide +kernel) (by decide +kernel), zin 553 (by decide +kernel) (by decide +kernel), zinp 3 (by decide +kernel) (by decide +kernel)⟩
theorem m_X7_239 : zLkV RX7 239 M_X5_part := ⟨zin 555 (by decide +kernel) (by decide +kernel), zin 556 (by decide +kernel) (by decide +kernel), zin 557 (by decide +kernel) (by decide +kernel)⟩
theorem m_L_72 : zLkV RL 72 M_X7_fits := ⟨zin 559 (by decide +kernel) (by decide +kernel), zin 560 (by decide +kernel) (by decide +kernel), zin 561 (by decide +kernel) (by decide +kernel)⟩
theorem m_X7_242 : zLkV RX7 242 M_X7_fittingOf := ⟨zin 563 (by decide +kernel) (by decide +kernel), zin 565 (by decide +kernel) (by decide +kernel), zinp 4 (by decide +kernel) (by decide +kernel)⟩
theorem m_X7_357 : zLkV RX7 357 M_X7_isLike := ⟨zin 567 (by decide +kernel) (by decide +kernel), zin 569 (by decide +kernel) (by decide +kernel), zinp 5 (by decide +kernel) (by decide +kernel)⟩
theorem m_X7_364 : zLkV RX7 364 M_X7_isNear := ⟨zin 571 (by decide +kernel) (by decide +kernel), zin 573 (by decide +kernel) (by decide +kernel), zinp 6 (by decide +kernel) (by decide +kernel)⟩
theorem m_X7_367 : zLkS RX7 367 M_X7_apart := ⟨zin 575 (by decide +kernel) (by decide +kernel), zin 576 (by decide +kernel) (by decide +kernel)⟩
theorem m_X7_245 : zLkS RX7 245 M_J6_bitCount_0f7a4 := ⟨zin 578 (by decide +kernel) (by decide +kernel), zin 579 (by decide +kernel) (by decide +kernel)⟩
theorem m_L_76 : zLkV RL 76 M_X7_left := ⟨zin 584 (by decide +kernel) (by decide +kernel), zin 585 (by decide +kernel) (by decide +kernel), zin 586 (by decide +kernel) (by decide +kernel)⟩
theorem m_L_80 : zLkV RL 80 M_X7_fewest := ⟨zin 588 (by decide +kernel) (by decide +kernel), zin 589 (by decide +kernel) (by decide +kernel), zin 590 (by decide +kernel) (by decide +kernel)⟩
theorem m_X7_250 : zLkV RX7 250 M_X7_gatherNeeds := ⟨zin 592 (by decide +kernel) (by decide +kernel), zin 594 (by decide +kernel) (by decide +kernel), zinp 7 (by decide +kernel) (by decide +kernel)⟩
theorem m_X7_253 : zLkV RX7 253 M_X7_meetsAll := ⟨zin 596 (by decide +kernel) (by decide +kernel), zin 598 (by decide +kernel) (by decide +kernel), zinp 8 (by decide +kernel) (by decide +kernel)⟩
theorem m_L_84 : zLkV RL 84 M_X7_joined := ⟨zin 600 (by decide +kernel) (by decide +kernel), zin 601 (by decide +kernel) (by decide +kernel), zin 602 (by decide +kernel) (by decide +kernel)⟩
theorem m_L_88 : zLkV RL 88 M_X7_cross := ⟨zin 604 (by decide +kernel) (by decide +kernel), zin 605 (by decide +kernel) (by decide +kernel), zin 606 (by decide +kernel) (by decide +kernel)⟩
theorem m_X7_257 : zLkV RX7 257 M_X0_clear := ⟨zin 608 (by decide +kernel) (by decide +kernel), zin 609 (by decide +kernel) (by decide +kernel), zin 610 (by decide +kernel) (by decide +kernel)⟩
theorem m_X7_260 : zLkV RX7 260 M_X7_pointsAt := ⟨zin 612 (by decide +kernel) (by decide +kernel), zin 614 (by decide +kernel) (by decide +kernel), zinp 9 (by decide +kernel) (by decide +kernel)⟩
theorem m_X7_376 : zLkS RX7 376 M_X7_wayOf := ⟨zin 616 (by decide +kernel) (by decide +kernel), zin 500 (by decide +kernel) (by decide +kernel)⟩
theorem m_X7_264 : zLkV RX7 264 M_X7_shareHeight := ⟨zin 617 (by decide +kernel) (by decide +kernel), zin 619 (by decide +kernel) (by decide +kernel), zinp 10 (by decide +kernel) (by decide +kernel)⟩
theorem m_X7_379 : zLkV RX7 379 M_X7_leastHeight := ⟨zin 621 (by decide +kernel) (by decide +kernel), zin 623 (by decide +kernel) (by decide +kernel), zinp 11 (by decide +kernel) (by decide +kernel)⟩
theorem m_X7_389 : zLkV RX7 389 M_X7_eyeAt := ⟨zin 625 (by decide +kernel) (by decide +kernel), zin 627 (by decide +kernel) (by decide +kernel), zinp 12 (by decide +kernel) (by decide +kernel)⟩
theorem m_X7_392 : zLkS RX7 392 M_X7_distance := ⟨zin 629 (by decide +kernel) (by decide +kernel), zin 630 (by decide +kernel) (by decide +kernel)⟩
theorem m_X7_395 : zLkS RX7 395 M_X7_ceilDiv := ⟨zin 632 (by decide +kernel) (by decide +kernel), zin 633 (by decide +kernel) (by decide +kernel)⟩
theorem m_X7_386 : zLkV RX7 386 M_X7_greatestHeight := ⟨zin 635 (by decide +kernel) (by decide +kernel), zin 637 (by decide +kernel) (by decide +kernel), zinp 13 (by decide +kernel) (by decide +kernel)⟩
theorem m_X7_268 : zLkV RX7 268 M_X0_add := ⟨zin 639 (by decide +kernel) (by decide +kernel), zin 640 (by decide +kernel) (by decide +kernel), zin 641 (by decide +kernel) (by decide +kernel)⟩
theorem m_X0_30 : zLkS RX0 30 M_J9_min_7cf53 := ⟨zin 643 (by decide +kernel) (by decide +kernel), zin 387 (by decide +kernel) (by decide +kernel)⟩
theorem m_X0_36 : zLkS RX0 36 M_J9_max_7cf53 := ⟨zin 644 (by decide +kernel) (by decide +kernel), zin 384 (by decide +kernel) (by decide +kernel)⟩
theorem m_X7_272 : zLkV RX7 272 M_X0_part := ⟨zin 645 (by decide +kernel) (by decide +kernel), zin 646 (by decide +kernel) (by decide +kernel), zin 647 (by decide +kernel) (by decide +kernel)⟩
theorem m_L_92 : zLkV RL 92 M_X7_out := ⟨zin 649 (by decide +kernel) (by decide +kernel), zin 650 (by decide +kernel) (by decide +kernel), zin 651 (by decide +kernel) (by decide +kernel)⟩
theorem m_X7_275 : zLkV RX7 275 M_X4_shows := ⟨zin 653 (by decide +kernel) (by decide +kernel), zin 654 (by decide +kernel) (by decide +kernel), zin 655 (by decide +kernel) (by decide +kernel)⟩
theorem m_X4_102 : zLkV RX4 102 M_X4_look := ⟨zin 657 (by decide +kernel) (by decide +kernel), zin 483 (by decide +kernel) (by decide +kernel), zin 484 (by decide +kernel) (by decide +kernel)⟩
theorem m_X4_106 : zLkV RX4 106 M_X4_hidingHill := ⟨zin 658 (by decide +kernel) (by decide +kernel), zin 516 (by decide +kernel) (by decide +kernel), zin 517 (by decide +kernel) (by decide +kernel)⟩
theorem m_L_96 : zLkV RL 96 M_X7_outs := ⟨zin 659 (by decide +kernel) (by decide +kernel), zin 660 (by decide +kernel) (by decide +kernel), zin 661 (by decide +kernel) (by decide +kernel)⟩
theorem m_X7_278 : zLkV RX7 278 M_X7_leastShown := ⟨zin 663 (by decide +kernel) (by decide +kernel), zin 665 (by decide +kernel) (by decide +kernel), zinp 14 (by decide +kernel) (by decide +kernel)⟩
theorem m_L_100 : zLkV RL 100 M_X7_size := ⟨zin 667 (by decide +kernel) (by decide +kernel), zin 668 (by decide +kernel) (by decide +kernel), zin 669 (by decide +kernel) (by decide +kernel)⟩
theorem m_L_104 : zLkV RL 104 M_X7_hulls := ⟨zin 671 (by decide +kernel) (by decide +kernel), zin 672 (by decide +kernel) (by decide +kernel), zin 673 (by decide +kernel) (by decide +kernel)⟩
theorem m_L_108 : zLkV RL 108 M_X7_ask := ⟨zin 675 (by decide +kernel) (by decide +kernel), zin 676 (by decide +kernel) (by decide +kernel), zin 677 (by decide +kernel) (by decide +kernel)⟩
theorem m_X7_289 : zLkV RX7 289 M_X7_weighMinutes := ⟨zin 679 (by decide +kernel) (by decide +kernel), zin 681 (by decide +kernel) (by decide +kernel), zinp 15 (by decide +kernel) (by decide +kernel)⟩
theorem m_X7_373 : zLkV RX7 373 M_X7_couplesParted := ⟨zin 683 (by decide +kernel) (by decide +kernel), zin 685 (by decide +kernel) (by decide +kernel), zinp 16 (by decide +kernel) (by decide +kernel)⟩
theorem m_L_112 : zLkV RL 112 M_X7_feed := ⟨zin 687 (by decide +kernel) (by decide +kernel), zin 688 (by decide +kernel) (by decide +kernel), zin 689 (by decide +kernel) (by decide +kernel)⟩
theorem m_X7_302 : zLkV RX7 302 M_X2_append := ⟨zin 691 (by decide +kernel) (by decide +kernel), zin 692 (by decide +kernel) (by decide +kernel), zin 693 (by decide +kernel) (by decide +kernel)⟩
theorem m_L_116 : zLkV RL 116 M_X7_end := ⟨zin 695 (by decide +kernel) (by decide +kernel), zin 696 (by decide +kernel) (by decide +kernel), zin 697 (by decide +kernel) (by decide +kernel)⟩
theorem m_L_121 : zLkV RL 121 M_X7_fault := ⟨zin 699 (by decide +kernel) (by decide +kernel), zin 700 (by decide +kernel) (by decide +kernel), zin 701 (by decide +kernel) (by decide +kernel)⟩
theorem m_X7_306 : zLkV RX7 306 M_X2_judge := ⟨zin 703 (by decide +kernel) (by decide +kernel), zin 704 (by decide +kernel) (by decide +kernel), zin 705 (by decide +kernel) (by decide +kernel)⟩
theorem m_X2_25 : zLkV RX2 25 M_X2_split := ⟨zin 707 (by decide +kernel) (by decide +kernel), zin 709 (by decide +kernel) (by decide +kernel), zinp 17 (by decide +kernel) (by decide +kernel)⟩
theorem m_X2_50 : zLkV RX2 50 M_X2_tokenEnd := ⟨zin 711 (by decide +kernel) (by decide +kernel), zin 713 (by decide +kernel) (by decide +kernel), zinp 18 (by decide +kernel) (by decide +kernel)⟩
theorem m_X2_58 : zLkS RX2 58 M_X2_isLetter := ⟨zin 715 (by decide +kernel) (by decide +kernel), zin 716 (by decide +kernel) (by decide +kernel)⟩
theorem m_X2_62 : zLkS RX2 62 M_X2_isDigit := ⟨zin 718 (by decide +kernel) (by decide +kernel), zin 719 (by decide +kernel) (by decide +kernel)⟩
theorem m_X2_54 : zLkV RX2 54 M_X2_tokenOf := ⟨zin 721 (by decide +kernel) (by decide +kernel), zin 723 (by decide +kernel) (by decide +kernel), zinp 19 (by decide +kernel) (by decide +kernel)⟩
theorem m_X2_65 : zLkV RX2 65 M_X2_wordOf := ⟨zin 725 (by decide +kernel) (by decide +kernel), zin 727 (by decide +kernel) (by decide +kernel), zinp 20 (by decide +kernel) (by decide +kernel)⟩
theorem m_X2_85 : zLkV RX2 85 M_J0_length_8abf5 := ⟨zin 730 (by decide +kernel) (by decide +kernel), zin 731 (by decide +kernel) (by decide +kernel), zin 732 (by decide +kernel) (by decide +kernel)⟩
theorem m_J0_335 : zLkV RJ0 335 M_J0_coder_7d493 := ⟨zin 734 (by decide +kernel) (by decide +kernel), zin 735 (by decide +kernel) (by decide +kernel), zin 736 (by decide +kernel) (by decide +kernel)⟩
theorem m_X2_87 : zLkV RX2 87 M_J0_charAt_5068e := ⟨zin 740 (by decide +kernel) (by decide +kernel), zin 741 (by decide +kernel) (by decide +kernel), zin 742 (by decide +kernel) (by decide +kernel)⟩
theorem m_J0_492 : zLkV RJ0 492 M_J0_isLatin1_aae02 := ⟨zin 744 (by decide +kernel) (by decide +kernel), zin 745 (by decide +kernel) (by decide +kernel), zin 746 (by decide +kernel) (by decide +kernel)⟩
theorem m_J0_495 : zLkS RJ0 495 M_J1_charAt_3b067 := ⟨zin 748 (by decide +kernel) (by decide +kernel), zin 749 (by decide +kernel) (by decide +kernel)⟩
theorem m_J1_9 : zLkS RJ1 9 M_J0_checkIndex_df160 := ⟨zin 751 (by decide +kernel) (by decide +kernel), zin 752 (by decide +kernel) (by decide +kernel)⟩
theorem m_J0_1059 : zLkS RJ0 1059 M_J3_checkIndex_8e157 := ⟨zin 756 (by decide +kernel) (by decide +kernel), zin 757 (by decide +kernel) (by decide +kernel)⟩
theorem m_J2_414 : zLkS RJ2 414 M_J0_checkIndex_df160 := ⟨zin 768 (by decide +kernel) (by decide +kernel), zin 752 (by decide +kernel) (by decide +kernel)⟩
theorem m_X2_68 : zLkV RX2 68 M_X2_numberOf := ⟨zin 778 (by decide +kernel) (by decide +kernel), zin 780 (by decide +kernel) (by decide +kernel), zinp 21 (by decide +kernel) (by decide +kernel)⟩
theorem m_X2_78 : zLkS RX2 78 M_J9_min_7cf53 := ⟨zin 782 (by decide +kernel) (by decide +kernel), zin 387 (by decide +kernel) (by decide +kernel)⟩
theorem m_X2_73 : zLkV RX2 73 M_J0_indexOf_0f7a4 := ⟨zin 784 (by decide +kernel) (by decide +kernel), zin 785 (by decide +kernel) (by decide +kernel), zin 786 (by decide +kernel) (by decide +kernel)⟩
theorem m_J0_633 : zLkV RJ0 633 M_J0_indexOf_7cf53 := ⟨zin 788 (by decide +kernel) (by decide +kernel), zin 789 (by decide +kernel) (by decide +kernel), zin 790 (by decide +kernel) (by decide +kernel)⟩
theorem m_J0_505 : zLkV RJ0 505 M_J0_length_8abf5 := ⟨zin 792 (by decide +kernel) (by decide +kernel), zin 731 (by decide +kernel) (by decide +kernel), zin 732 (by decide +kernel) (by decide +kernel)⟩
theorem m_J0_637 : zLkS RJ0 637 M_J1_indexOf_4cfef := ⟨zin 793 (by decide +kernel) (by decide +kernel), zin 794 (by decide +kernel) (by decide +kernel)⟩
theorem m_J1_88 : zLkS RJ1 88 M_J1_canEncode_9a6ad := ⟨zin 796 (by decide +kernel) (by decide +kernel), zin 797 (by decide +kernel) (by decide +kernel)⟩
theorem m_J1_92 : zLkS RJ1 92 M_J9_max_7cf53 := ⟨zin 799 (by decide +kernel) (by decide +kernel), zin 384 (by decide +kernel) (by decide +kernel)⟩
theorem m_J1_38 : zLkS RJ1 38 M_J9_min_7cf53 := ⟨zin 800 (by decide +kernel) (by decide +kernel), zin 387 (by decide +kernel) (by decide +kernel)⟩
theorem m_J1_95 : zLkS RJ1 95 M_J1_indexOfChar_4cfef := ⟨zin 801 (by decide +kernel) (by decide +kernel), zin 802 (by decide +kernel) (by decide +kernel)⟩
theorem m_J2_224 : zLkS RJ2 224 M_J9_max_7cf53 := ⟨zin 807 (by decide +kernel) (by decide +kernel), zin 384 (by decide +kernel) (by decide +kernel)⟩
theorem m_J2_183 : zLkS RJ2 183 M_J9_min_7cf53 := ⟨zin 808 (by decide +kernel) (by decide +kernel), zin 387 (by decide +kernel) (by decide +kernel)⟩
theorem m_J0_1062 : zLkS RJ0 1062 M_J3_checkFromToIndex_8c36e := ⟨zin 819 (by decide +kernel) (by decide +kernel), zin 820 (by decide +kernel) (by decide +kernel)⟩
theorem m_X2_28 : zLkV RX2 28 M_X3_clear := ⟨zin 839 (by decide +kernel) (by decide +kernel), zin 840 (by decide +kernel) (by decide +kernel), zin 841 (by decide +kernel) (by decide +kernel)⟩
theorem m_X2_36 : zLkV RX2 36 M_X2_token := ⟨zin 843 (by decide +kernel) (by decide +kernel), zin 845 (by decide +kernel) (by decide +kernel), zinp 22 (by decide +kernel) (by decide +kernel)⟩
theorem m_X2_40 : zLkV RX2 40 M_X2_readLine := ⟨zin 847 (by decide +kernel) (by decide +kernel), zin 849 (by decide +kernel) (by decide +kernel), zinp 23 (by decide +kernel) (by decide +kernel)⟩
theorem m_X2_98 : zLkV RX2 98 M_X2_readSum := ⟨zin 851 (by decide +kernel) (by decide +kernel), zin 853 (by decide +kernel) (by decide +kernel), zinp 24 (by decide +kernel) (by decide +kernel)⟩
theorem m_X2_122 : zLkV RX2 122 M_X2_readProduct := ⟨zin 855 (by decide +kernel) (by decide +kernel), zin 857 (by decide +kernel) (by decide +kernel), zinp 25 (by decide +kernel) (by decide +kernel)⟩
theorem m_X2_125 : zLkV RX2 125 M_X2_readFactor := ⟨zin 859 (by decide +kernel) (by decide +kernel), zin 861 (by decide +kernel) (by decide +kernel), zinp 26 (by decide +kernel) (by decide +kernel)⟩
theorem m_X2_119 : zLkV RX2 119 M_X3_emit := ⟨zin 863 (by decide +kernel) (by decide +kernel), zin 864 (by decide +kernel) (by decide +kernel), zin 865 (by decide +kernel) (by decide +kernel)⟩
theorem m_X2_106 : zLkV RX2 106 M_X2_take := ⟨zin 867 (by decide +kernel) (by decide +kernel), zin 869 (by decide +kernel) (by decide +kernel), zinp 27 (by decide +kernel) (by decide +kernel)⟩
theorem m_X2_102 : zLkV RX2 102 M_X3_setGrow := ⟨zin 871 (by decide +kernel) (by decide +kernel), zin 872 (by decide +kernel) (by decide +kernel), zin 873 (by decide +kernel) (by decide +kernel)⟩
theorem m_X2_112 : zLkV RX2 112 M_X2_readCondition := ⟨zin 875 (by decide +kernel) (by decide +kernel), zin 877 (by decide +kernel) (by decide +kernel), zinp 28 (by decide +kernel) (by decide +kernel)⟩
theorem m_X2_115 : zLkV RX2 115 M_X3_addClause := ⟨zin 879 (by decide +kernel) (by decide +kernel), zin 880 (by decide +kernel) (by decide +kernel), zin 881 (by decide +kernel) (by decide +kernel)⟩
theorem m_X2_44 : zLkV RX2 44 M_X2_faultPlace := ⟨zin 883 (by decide +kernel) (by decide +kernel), zin 885 (by decide +kernel) (by decide +kernel), zinp 29 (by decide +kernel) (by decide +kernel)⟩
theorem m_L_125 : zLkV RL 125 M_X7_rules := ⟨zin 888 (by decide +kernel) (by decide +kernel), zin 889 (by decide +kernel) (by decide +kernel), zin 890 (by decide +kernel) (by decide +kernel)⟩
theorem m_L_129 : zLkV RL 129 M_X7_office := ⟨zin 892 (by decide +kernel) (by decide +kernel), zin 893 (by decide +kernel) (by decide +kernel), zin 894 (by decide +kernel) (by decide +kernel)⟩
theorem m_X7_313 : zLkS RX7 313 M_X7_isLater := ⟨zin 896 (by decide +kernel) (by decide +kernel), zin 897 (by decide +kernel) (by decide +kernel)⟩
theorem m_X7_316 : zLkV RX7 316 M_X7_setValues := ⟨zin 899 (by decide +kernel) (by decide +kernel), zin 901 (by decide +kernel) (by decide +kernel), zinp 30 (by decide +kernel) (by decide +kernel)⟩
theorem m_X7_320 : zLkV RX7 320 M_X3_firstHolding := ⟨zin 903 (by decide +kernel) (by decide +kernel), zin 904 (by decide +kernel) (by decide +kernel), zin 905 (by decide +kernel) (by decide +kernel)⟩
theorem m_X3_44 : zLkV RX3 44 M_X3_valueOf := ⟨zin 907 (by decide +kernel) (by decide +kernel), zin 908 (by decide +kernel) (by decide +kernel), zin 909 (by decide +kernel) (by decide +kernel)⟩
theorem m_X3_48 : zLkS RX3 48 M_X3_joinedBy := ⟨zin 911 (by decide +kernel) (by decide +kernel), zin 912 (by decide +kernel) (by decide +kernel)⟩
theorem m_X3_52 : zLkS RX3 52 M_X3_bounded := ⟨zin 914 (by decide +kernel) (by decide +kernel), zin 915 (by decide +kernel) (by decide +kernel)⟩
theorem m_X3_60 : zLkS RX3 60 M_J9_min_f86c9 := ⟨zin 919 (by decide +kernel) (by decide +kernel), zin 920 (by decide +kernel) (by decide +kernel)⟩
theorem m_X3_66 : zLkS RX3 66 M_J9_max_f86c9 := ⟨zin 922 (by decide +kernel) (by decide +kernel), zin 923 (by decide +kernel) (by decide +kernel)⟩
theorem m_X7_327 : zLkV RX7 327 M_X7_isHasty := ⟨zin 925 (by decide +kernel) (by decide +kernel), zin 927 (by decide +kernel) (by decide +kernel), zinp 31 (by decide +kernel) (by decide +kernel)⟩
theorem m_L_133 : zLkV RL 133 M_X7_grown := ⟨zin 929 (by decide +kernel) (by decide +kernel), zin 930 (by decide +kernel) (by decide +kernel), zin 931 (by decide +kernel) (by decide +kernel)⟩
theorem m_X7_333 : zLkV RX7 333 M_X7_growth := ⟨zin 933 (by decide +kernel) (by decide +kernel), zin 935 (by decide +kernel) (by decide +kernel), zinp 32 (by decide +kernel) (by decide +kernel)⟩
theorem m_X7_414 : zLkV RX7 414 M_X3_valueOf := ⟨zin 937 (by decide +kernel) (by decide +kernel), zin 908 (by decide +kernel) (by decide +kernel), zin 909 (by decide +kernel) (by decide +kernel)⟩
theorem m_L_137 : zLkV RL 137 M_X7_before := ⟨zin 938 (by decide +kernel) (by decide +kernel), zin 939 (by decide +kernel) (by decide +kernel), zin 940 (by decide +kernel) (by decide +kernel)⟩
theorem m_L_141 : zLkV RL 141 M_X7_draw := ⟨zin 942 (by decide +kernel) (by decide +kernel), zin 943 (by decide +kernel) (by decide +kernel), zin 944 (by decide +kernel) (by decide +kernel)⟩
theorem m_X7_341 : zLkV RX7 341 M_X7_drawTelling := ⟨zin 947 (by decide +kernel) (by decide +kernel), zin 949 (by decide +kernel) (by decide +kernel), zinp 33 (by decide +kernel) (by decide +kernel)⟩
theorem m_X7_418 : zLkV RX7 418 M_X7_lotBelow := ⟨zin 951 (by decide +kernel) (by decide +kernel), zin 953 (by decide +kernel) (by decide +kernel), zinp 34 (by decide +kernel) (by decide +kernel)⟩
theorem m_X7_421 : zLkV RX7 421 M_X7_sightedOff := ⟨zin 957 (by decide +kernel) (by decide +kernel), zin 959 (by decide +kernel) (by decide +kernel), zinp 35 (by decide +kernel) (by decide +kernel)⟩
theorem m_X7_428 : zLkS RX7 428 M_J9_floorMod_7cf53 := ⟨zin 961 (by decide +kernel) (by decide +kernel), zin 488 (by decide +kernel) (by decide +kernel)⟩
theorem m_X7_424 : zLkV RX7 424 M_X7_tell := ⟨zin 962 (by decide +kernel) (by decide +kernel), zin 524 (by decide +kernel) (by decide +kernel), zin 525 (by decide +kernel) (by decide +kernel)⟩
theorem m_L_145 : zLkV RL 145 M_X7_count := ⟨zin 963 (by decide +kernel) (by decide +kernel), zin 964 (by decide +kernel) (by decide +kernel), zin 965 (by decide +kernel) (by decide +kernel)⟩
theorem m_L_12 : zLkI RL 12 M_X8_init := ⟨zin 969 (by decide +kernel) (by decide +kernel), zin 970 (by decide +kernel) (by decide +kernel), rfl⟩
theorem m_L_17 : zLkV RL 17 M_X8_hill := ⟨zin 1128 (by decide +kernel) (by decide +kernel), zin 1129 (by decide +kernel) (by decide +kernel), zin 1130 (by decide +kernel) (by decide +kernel)⟩
theorem m_X8_157 : zLkS RX8 157 M_X8_isPlace := ⟨zin 1132 (by decide +kernel) (by decide +kernel), zin 1133 (by decide +kernel) (by decide +kernel)⟩
theorem m_X8_147 : zLkS RX8 147 M_X8_in := ⟨zin 1136 (by decide +kernel) (by decide +kernel), zin 1137 (by decide +kernel) (by decide +kernel)⟩
theorem m_X8_165 : zLkS RX8 165 M_J9_min_7cf53 := ⟨zin 1140 (by decide +kernel) (by decide +kernel), zin 387 (by decide +kernel) (by decide +kernel)⟩
theorem m_X8_171 : zLkS RX8 171 M_J9_max_7cf53 := ⟨zin 1141 (by decide +kernel) (by decide +kernel), zin 384 (by decide +kernel) (by decide +kernel)⟩
theorem m_L_44 : zLkV RL 44 M_X8_ground := ⟨zin 1142 (by decide +kernel) (by decide +kernel), zin 1143 (by decide +kernel) (by decide +kernel), zin 1144 (by decide +kernel) (by decide +kernel)⟩
theorem m_X8_177 : zLkV RX8 177 M_X8_groundAt := ⟨zin 1146 (by decide +kernel) (by decide +kernel), zin 1148 (by decide +kernel) (by decide +kernel), zinp 36 (by decide +kernel) (by decide +kernel)⟩
theorem m_X8_174 : zLkV RX8 174 M_X8_hillAt := ⟨zin 1150 (by decide +kernel) (by decide +kernel), zin 1152 (by decide +kernel) (by decide +kernel), zinp 37 (by decide +kernel) (by decide +kernel)⟩
theorem m_L_22 : zLkV RL 22 M_X8_seer := ⟨zin 1154 (by decide +kernel) (by decide +kernel), zin 1155 (by decide +kernel) (by decide +kernel), zin 1156 (by decide +kernel) (by decide +kernel)⟩
theorem m_L_26 : zLkV RL 26 M_X8_star := ⟨zin 1158 (by decide +kernel) (by decide +kernel), zin 1159 (by decide +kernel) (by decide +kernel), zin 1160 (by decide +kernel) (by decide +kernel)⟩
theorem m_X8_194 : zLkV RX8 194 M_X8_adds := ⟨zin 1166 (by decide +kernel) (by decide +kernel), zin 1168 (by decide +kernel) (by decide +kernel), zinp 38 (by decide +kernel) (by decide +kernel)⟩
theorem m_L_31 : zLkV RL 31 M_X8_flies := ⟨zin 1170 (by decide +kernel) (by decide +kernel), zin 1171 (by decide +kernel) (by decide +kernel), zin 1172 (by decide +kernel) (by decide +kernel)⟩
theorem m_X8_198 : zLkS RX8 198 M_X8_areMinutes := ⟨zin 1174 (by decide +kernel) (by decide +kernel), zin 1175 (by decide +kernel) (by decide +kernel)⟩
theorem m_X8_153 : zLkS RX8 153 M_X8_isMinute := ⟨zin 1177 (by decide +kernel) (by decide +kernel), zin 1178 (by decide +kernel) (by decide +kernel)⟩
theorem m_L_36 : zLkV RL 36 M_X8_flare := ⟨zin 1182 (by decide +kernel) (by decide +kernel), zin 1183 (by decide +kernel) (by decide +kernel), zin 1184 (by decide +kernel) (by decide +kernel)⟩
theorem m_L_40 : zLkV RL 40 M_X8_lamp := ⟨zin 1187 (by decide +kernel) (by decide +kernel), zin 1188 (by decide +kernel) (by decide +kernel), zin 1189 (by decide +kernel) (by decide +kernel)⟩
theorem m_L_48 : zLkV RL 48 M_X8_at := ⟨zin 1192 (by decide +kernel) (by decide +kernel), zin 1193 (by decide +kernel) (by decide +kernel), zin 1194 (by decide +kernel) (by decide +kernel)⟩
theorem m_X8_219 : zLkV RX8 219 M_X8_isThing := ⟨zin 1196 (by decide +kernel) (by decide +kernel), zin 1198 (by decide +kernel) (by decide +kernel), zinp 39 (by decide +kernel) (by decide +kernel)⟩
theorem m_X8_225 : zLkV RX8 225 M_X8_isAt := ⟨zin 1202 (by decide +kernel) (by decide +kernel), zin 1204 (by decide +kernel) (by decide +kernel), zinp 40 (by decide +kernel) (by decide +kernel)⟩
theorem m_X8_216 : zLkS RX8 216 M_J9_floorDiv_7cf53 := ⟨zin 1206 (by decide +kernel) (by decide +kernel), zin 464 (by decide +kernel) (by decide +kernel)⟩
theorem m_L_52 : zLkV RL 52 M_X8_seen := ⟨zin 1207 (by decide +kernel) (by decide +kernel), zin 1208 (by decide +kernel) (by decide +kernel), zin 1209 (by decide +kernel) (by decide +kernel)⟩
theorem m_X8_252 : zLkV RX8 252 M_X8_isSeer := ⟨zin 1211 (by decide +kernel) (by decide +kernel), zin 1213 (by decide +kernel) (by decide +kernel), zinp 41 (by decide +kernel) (by decide +kernel)⟩
theorem m_X8_255 : zLkV RX8 255 M_X8_isShown := ⟨zin 1215 (by decide +kernel) (by decide +kernel), zin 1217 (by decide +kernel) (by decide +kernel), zinp 42 (by decide +kernel) (by decide +kernel)⟩
theorem m_X8_236 : zLkV RX8 236 M_X8_isLit := ⟨zin 1219 (by decide +kernel) (by decide +kernel), zin 1221 (by decide +kernel) (by decide +kernel), zinp 43 (by decide +kernel) (by decide +kernel)⟩
theorem m_X8_239 : zLkV RX8 239 M_X8_hider := ⟨zin 1223 (by decide +kernel) (by decide +kernel), zin 1225 (by decide +kernel) (by decide +kernel), zinp 44 (by decide +kernel) (by decide +kernel)⟩
theorem m_X8_233 : zLkV RX8 233 M_X8_eye := ⟨zin 1227 (by decide +kernel) (by decide +kernel), zin 1229 (by decide +kernel) (by decide +kernel), zinp 45 (by decide +kernel) (by decide +kernel)⟩
theorem m_X8_259 : zLkV RX8 259 M_X8_way := ⟨zin 1231 (by decide +kernel) (by decide +kernel), zin 1233 (by decide +kernel) (by decide +kernel), zinp 46 (by decide +kernel) (by decide +kernel)⟩
theorem m_X8_242 : zLkS RX8 242 M_J9_floorMod_7cf53 := ⟨zin 1235 (by decide +kernel) (by decide +kernel), zin 488 (by decide +kernel) (by decide +kernel)⟩
theorem m_X8_245 : zLkS RX8 245 M_X8_wayOf := ⟨zin 1236 (by decide +kernel) (by decide +kernel), zin 1237 (by decide +kernel) (by decide +kernel)⟩
theorem m_X8_229 : zLkS RX8 229 M_J9_abs_0f7a4 := ⟨zin 1239 (by decide +kernel) (by decide +kernel), zin 503 (by decide +kernel) (by decide +kernel)⟩
theorem m_X8_261 : zLkV RX8 261 M_X8_slope := ⟨zin 1240 (by decide +kernel) (by decide +kernel), zin 1242 (by decide +kernel) (by decide +kernel), zinp 47 (by decide +kernel) (by decide +kernel)⟩
theorem m_X8_248 : zLkS RX8 248 M_X8_slopeOf := ⟨zin 1244 (by decide +kernel) (by decide +kernel), zin 1245 (by decide +kernel) (by decide +kernel)⟩
theorem m_L_56 : zLkV RL 56 M_X8_tell := ⟨zin 1247 (by decide +kernel) (by decide +kernel), zin 1248 (by decide +kernel) (by decide +kernel), zin 1249 (by decide +kernel) (by decide +kernel)⟩
theorem m_X8_265 : zLkS RX8 265 M_X8_isView := ⟨zin 1251 (by decide +kernel) (by decide +kernel), zin 1252 (by decide +kernel) (by decide +kernel)⟩
theorem m_L_61 : zLkV RL 61 M_X8_undo := ⟨zin 1256 (by decide +kernel) (by decide +kernel), zin 1257 (by decide +kernel) (by decide +kernel), zin 1258 (by decide +kernel) (by decide +kernel)⟩
theorem m_L_66 : zLkV RL 66 M_X8_off := ⟨zin 1260 (by decide +kernel) (by decide +kernel), zin 1261 (by decide +kernel) (by decide +kernel), zin 1262 (by decide +kernel) (by decide +kernel)⟩
theorem m_L_71 : zLkV RL 71 M_X8_telling := ⟨zin 1266 (by decide +kernel) (by decide +kernel), zin 1267 (by decide +kernel) (by decide +kernel), zin 1268 (by decide +kernel) (by decide +kernel)⟩
theorem m_X8_277 : zLkV RX8 277 M_X8_isTelling := ⟨zin 1270 (by decide +kernel) (by decide +kernel), zin 1272 (by decide +kernel) (by decide +kernel), zinp 48 (by decide +kernel) (by decide +kernel)⟩
theorem m_L_75 : zLkV RL 75 M_X8_fits := ⟨zin 1275 (by decide +kernel) (by decide +kernel), zin 1276 (by decide +kernel) (by decide +kernel), zin 1277 (by decide +kernel) (by decide +kernel)⟩
theorem m_X8_289 : zLkV RX8 289 M_X8_fitting := ⟨zin 1279 (by decide +kernel) (by decide +kernel), zin 1281 (by decide +kernel) (by decide +kernel), zinp 49 (by decide +kernel) (by decide +kernel)⟩
theorem m_X8_285 : zLkV RX8 285 M_X8_isNear := ⟨zin 1283 (by decide +kernel) (by decide +kernel), zin 1285 (by decide +kernel) (by decide +kernel), zinp 50 (by decide +kernel) (by decide +kernel)⟩
theorem m_X8_282 : zLkS RX8 282 M_X8_apart := ⟨zin 1287 (by decide +kernel) (by decide +kernel), zin 1288 (by decide +kernel) (by decide +kernel)⟩
theorem m_X8_292 : zLkS RX8 292 M_J6_bitCount_0f7a4 := ⟨zin 1290 (by decide +kernel) (by decide +kernel), zin 579 (by decide +kernel) (by decide +kernel)⟩
theorem m_L_79 : zLkV RL 79 M_X8_left := ⟨zin 1291 (by decide +kernel) (by decide +kernel), zin 1292 (by decide +kernel) (by decide +kernel), zin 1293 (by decide +kernel) (by decide +kernel)⟩
theorem m_L_83 : zLkV RL 83 M_X8_fewest := ⟨zin 1295 (by decide +kernel) (by decide +kernel), zin 1296 (by decide +kernel) (by decide +kernel), zin 1297 (by decide +kernel) (by decide +kernel)⟩
theorem m_L_87 : zLkV RL 87 M_X8_joined := ⟨zin 1299 (by decide +kernel) (by decide +kernel), zin 1300 (by decide +kernel) (by decide +kernel), zin 1301 (by decide +kernel) (by decide +kernel)⟩
theorem m_L_91 : zLkV RL 91 M_X8_cross := ⟨zin 1303 (by decide +kernel) (by decide +kernel), zin 1304 (by decide +kernel) (by decide +kernel), zin 1305 (by decide +kernel) (by decide +kernel)⟩
theorem m_X8_303 : zLkV RX8 303 M_X8_isCrossed := ⟨zin 1308 (by decide +kernel) (by decide +kernel), zin 1310 (by decide +kernel) (by decide +kernel), zinp 51 (by decide +kernel) (by decide +kernel)⟩
theorem m_X8_307 : zLkV RX8 307 M_X8_hasHeight := ⟨zin 1312 (by decide +kernel) (by decide +kernel), zin 1314 (by decide +kernel) (by decide +kernel), zinp 52 (by decide +kernel) (by decide +kernel)⟩
theorem m_X8_297 : zLkV RX8 297 M_X8_isSlope := ⟨zin 1316 (by decide +kernel) (by decide +kernel), zin 1318 (by decide +kernel) (by decide +kernel), zinp 53 (by decide +kernel) (by decide +kernel)⟩
theorem m_L_95 : zLkV RL 95 M_X8_out := ⟨zin 1320 (by decide +kernel) (by decide +kernel), zin 1321 (by decide +kernel) (by decide +kernel), zin 1322 (by decide +kernel) (by decide +kernel)⟩
theorem m_L_99 : zLkV RL 99 M_X8_outs := ⟨zin 1324 (by decide +kernel) (by decide +kernel), zin 1325 (by decide +kernel) (by decide +kernel), zin 1326 (by decide +kernel) (by decide +kernel)⟩
theorem m_X8_311 : zLkV RX8 311 M_X8_isUp := ⟨zin 1328 (by decide +kernel) (by decide +kernel), zin 1330 (by decide +kernel) (by decide +kernel), zinp 54 (by decide +kernel) (by decide +kernel)⟩
theorem m_L_103 : zLkV RL 103 M_X8_size := ⟨zin 1332 (by decide +kernel) (by decide +kernel), zin 1333 (by decide +kernel) (by decide +kernel), zin 1334 (by decide +kernel) (by decide +kernel)⟩
theorem m_L_107 : zLkV RL 107 M_X8_hulls := ⟨zin 1337 (by decide +kernel) (by decide +kernel), zin 1338 (by decide +kernel) (by decide +kernel), zin 1339 (by decide +kernel) (by decide +kernel)⟩
theorem m_L_111 : zLkV RL 111 M_X8_ask := ⟨zin 1341 (by decide +kernel) (by decide +kernel), zin 1342 (by decide +kernel) (by decide +kernel), zin 1343 (by decide +kernel) (by decide +kernel)⟩
theorem m_X8_319 : zLkV RX8 319 M_X8_partedAt := ⟨zin 1346 (by decide +kernel) (by decide +kernel), zin 1348 (by decide +kernel) (by decide +kernel), zinp 55 (by decide +kernel) (by decide +kernel)⟩
theorem m_L_115 : zLkV RL 115 M_X8_feed := ⟨zin 1350 (by decide +kernel) (by decide +kernel), zin 1351 (by decide +kernel) (by decide +kernel), zin 1352 (by decide +kernel) (by decide +kernel)⟩
theorem m_X8_325 : zLkV RX8 325 M_X8_feeds := ⟨zin 1354 (by decide +kernel) (by decide +kernel), zin 1356 (by decide +kernel) (by decide +kernel), zinp 56 (by decide +kernel) (by decide +kernel)⟩
theorem m_L_120 : zLkV RL 120 M_X8_end := ⟨zin 1358 (by decide +kernel) (by decide +kernel), zin 1359 (by decide +kernel) (by decide +kernel), zin 1360 (by decide +kernel) (by decide +kernel)⟩
theorem m_L_124 : zLkV RL 124 M_X8_fault := ⟨zin 1362 (by decide +kernel) (by decide +kernel), zin 1363 (by decide +kernel) (by decide +kernel), zin 1364 (by decide +kernel) (by decide +kernel)⟩
theorem m_X8_399 : zLkV RX8 399 M_X8_reads := ⟨zin 1366 (by decide +kernel) (by decide +kernel), zin 1368 (by decide +kernel) (by decide +kernel), zinp 57 (by decide +kernel) (by decide +kernel)⟩
theorem m_X8_341 : zLkV RX8 341 M_X8_next := ⟨zin 1370 (by decide +kernel) (by decide +kernel), zin 1372 (by decide +kernel) (by decide +kernel), zinp 58 (by decide +kernel) (by decide +kernel)⟩
theorem m_X8_335 : zLkV RX8 335 M_X8_between := ⟨zin 1374 (by decide +kernel) (by decide +kernel), zin 1376 (by decide +kernel) (by decide +kernel), zinp 59 (by decide +kernel) (by decide +kernel)⟩
theorem m_X8_396 : zLkV RX8 396 M_X8_line := ⟨zin 1378 (by decide +kernel) (by decide +kernel), zin 1380 (by decide +kernel) (by decide +kernel), zinp 60 (by decide +kernel) (by decide +kernel)⟩
theorem m_X8_365 : zLkV RX8 365 M_X8_isWord := ⟨zin 1383 (by decide +kernel) (by decide +kernel), zin 1385 (by decide +kernel) (by decide +kernel), zinp 61 (by decide +kernel) (by decide +kernel)⟩
theorem m_X8_344 : zLkV RX8 344 M_J0_length_8abf5 := ⟨zin 1387 (by decide +kernel) (by decide +kernel), zin 731 (by decide +kernel) (by decide +kernel), zin 732 (by decide +kernel) (by decide +kernel)⟩
theorem m_X8_348 : zLkV RX8 348 M_J0_charAt_5068e := ⟨zin 1388 (by decide +kernel) (by decide +kernel), zin 741 (by decide +kernel) (by decide +kernel), zin 742 (by decide +kernel) (by decide +kernel)⟩
theorem m_X8_355 : zLkV RX8 355 M_X8_passes := ⟨zin 1389 (by decide +kernel) (by decide +kernel), zin 1391 (by decide +kernel) (by decide +kernel), zinp 62 (by decide +kernel) (by decide +kernel)⟩
theorem m_X8_383 : zLkV RX8 383 M_X8_begins := ⟨zin 1393 (by decide +kernel) (by decide +kernel), zin 1395 (by decide +kernel) (by decide +kernel), zinp 63 (by decide +kernel) (by decide +kernel)⟩
theorem m_X8_359 : zLkV RX8 359 M_X8_sum := ⟨zin 1397 (by decide +kernel) (by decide +kernel), zin 1399 (by decide +kernel) (by decide +kernel), zinp 64 (by decide +kernel) (by decide +kernel)⟩
theorem m_X8_372 : zLkV RX8 372 M_X8_product := ⟨zin 1401 (by decide +kernel) (by decide +kernel), zin 1403 (by decide +kernel) (by decide +kernel), zinp 65 (by decide +kernel) (by decide +kernel)⟩
theorem m_X8_369 : zLkV RX8 369 M_X8_factor := ⟨zin 1405 (by decide +kernel) (by decide +kernel), zin 1407 (by decide +kernel) (by decide +kernel), zinp 66 (by decide +kernel) (by decide +kernel)⟩
theorem m_X8_352 : zLkV RX8 352 M_X8_isSign := ⟨zin 1409 (by decide +kernel) (by decide +kernel), zin 1411 (by decide +kernel) (by decide +kernel), zinp 67 (by decide +kernel) (by decide +kernel)⟩
theorem m_X8_362 : zLkV RX8 362 M_X8_mark := ⟨zin 1413 (by decide +kernel) (by decide +kernel), zin 1415 (by decide +kernel) (by decide +kernel), zinp 68 (by decide +kernel) (by decide +kernel)⟩
theorem m_X8_386 : zLkV RX8 386 M_X8_ends := ⟨zin 1417 (by decide +kernel) (by decide +kernel), zin 1419 (by decide +kernel) (by decide +kernel), zinp 69 (by decide +kernel) (by decide +kernel)⟩
theorem m_X8_393 : zLkV RX8 393 M_X8_holdsRead := ⟨zin 1423 (by decide +kernel) (by decide +kernel), zin 1425 (by decide +kernel) (by decide +kernel), zinp 70 (by decide +kernel) (by decide +kernel)⟩
theorem m_X8_375 : zLkV RX8 375 M_X8_compares := ⟨zin 1427 (by decide +kernel) (by decide +kernel), zin 1429 (by decide +kernel) (by decide +kernel), zinp 71 (by decide +kernel) (by decide +kernel)⟩
theorem m_L_128 : zLkV RL 128 M_X8_rules := ⟨zin 1432 (by decide +kernel) (by decide +kernel), zin 1433 (by decide +kernel) (by decide +kernel), zin 1434 (by decide +kernel) (by decide +kernel)⟩
theorem m_L_132 : zLkV RL 132 M_X8_office := ⟨zin 1436 (by decide +kernel) (by decide +kernel), zin 1437 (by decide +kernel) (by decide +kernel), zin 1438 (by decide +kernel) (by decide +kernel)⟩
theorem m_X8_417 : zLkS RX8 417 M_X8_areLater := ⟨zin 1440 (by decide +kernel) (by decide +kernel), zin 1441 (by decide +kernel) (by decide +kernel)⟩
theorem m_X8_420 : zLkV RX8 420 M_X8_lays := ⟨zin 1444 (by decide +kernel) (by decide +kernel), zin 1446 (by decide +kernel) (by decide +kernel), zinp 72 (by decide +kernel) (by decide +kernel)⟩
theorem m_X8_424 : zLkV RX8 424 M_X8_worked := ⟨zin 1448 (by decide +kernel) (by decide +kernel), zin 1450 (by decide +kernel) (by decide +kernel), zinp 73 (by decide +kernel) (by decide +kernel)⟩
theorem m_X8_411 : zLkS RX8 411 M_X8_brought := ⟨zin 1452 (by decide +kernel) (by decide +kernel), zin 1453 (by decide +kernel) (by decide +kernel)⟩
theorem m_X8_406 : zLkS RX8 406 M_J9_min_f86c9 := ⟨zin 1457 (by decide +kernel) (by decide +kernel), zin 920 (by decide +kernel) (by decide +kernel)⟩
theorem m_X8_409 : zLkS RX8 409 M_J9_max_f86c9 := ⟨zin 1458 (by decide +kernel) (by decide +kernel), zin 923 (by decide +kernel) (by decide +kernel)⟩
theorem m_L_136 : zLkV RL 136 M_X8_grown := ⟨zin 1459 (by decide +kernel) (by decide +kernel), zin 1460 (by decide +kernel) (by decide +kernel), zin 1461 (by decide +kernel) (by decide +kernel)⟩
theorem m_X8_427 : zLkV RX8 427 M_X8_grownTo := ⟨zin 1463 (by decide +kernel) (by decide +kernel), zin 1465 (by decide +kernel) (by decide +kernel), zinp 74 (by decide +kernel) (by decide +kernel)⟩
theorem m_L_140 : zLkV RL 140 M_X8_before := ⟨zin 1467 (by decide +kernel) (by decide +kernel), zin 1468 (by decide +kernel) (by decide +kernel), zin 1469 (by decide +kernel) (by decide +kernel)⟩
theorem m_L_144 : zLkV RL 144 M_X8_draw := ⟨zin 1471 (by decide +kernel) (by decide +kernel), zin 1472 (by decide +kernel) (by decide +kernel), zin 1473 (by decide +kernel) (by decide +kernel)⟩
theorem m_X8_442 : zLkV RX8 442 M_X8_lot := ⟨zin 1475 (by decide +kernel) (by decide +kernel), zin 1477 (by decide +kernel) (by decide +kernel), zinp 75 (by decide +kernel) (by decide +kernel)⟩
theorem m_X8_445 : zLkV RX8 445 M_X8_tell := ⟨zin 1483 (by decide +kernel) (by decide +kernel), zin 1248 (by decide +kernel) (by decide +kernel), zin 1249 (by decide +kernel) (by decide +kernel)⟩
theorem m_L_148 : zLkV RL 148 M_X8_count := ⟨zin 1484 (by decide +kernel) (by decide +kernel), zin 1485 (by decide +kernel) (by decide +kernel), zin 1486 (by decide +kernel) (by decide +kernel)⟩
theorem q_X7_163 : Cond.constant RX7 163 (-2147483648) ∈ lw_g := zin 453 (by decide +kernel) (by decide +kernel)
theorem q_J6_265 : Cond.constant RJ6 265 (1431655765) ∈ lw_g := zin 581 (by decide +kernel) (by decide +kernel)
theorem q_J6_266 : Cond.constant RJ6 266 (858993459) ∈ lw_g := zin 582 (by decide +kernel) (by decide +kernel)
theorem q_J6_267 : Cond.constant RJ6 267 (252645135) ∈ lw_g := zin 583 (by decide +kernel) (by decide +kernel)
theorem q_J2_227 : Cond.constant RJ2 227 (65536) ∈ lw_g := zin 809 (by decide +kernel) (by decide +kernel)
theorem q_J11_110 : Cond.constant RJ11 110 (55232) ∈ lw_g := zin 834 (by decide +kernel) (by decide +kernel)
theorem q_J11_76 : Cond.constant RJ11 76 (56320) ∈ lw_g := zin 838 (by decide +kernel) (by decide +kernel)
theorem q_X3_56 : Cond.constantLong RX3 56 (-1000000) ∈ lw_g := zin 917 (by decide +kernel) (by decide +kernel)
theorem q_X3_58 : Cond.constantLong RX3 58 (1000000) ∈ lw_g := zin 918 (by decide +kernel) (by decide +kernel)
theorem q_X7_337 : Cond.constant RX7 337 (1000000) ∈ lw_g := zin 946 (by decide +kernel) (by decide +kernel)
theorem q_X7_431 : Cond.constant RX7 431 (1103515245) ∈ lw_g := zin 955 (by decide +kernel) (by decide +kernel)
theorem q_X7_432 : Cond.constant RX7 432 (2147483647) ∈ lw_g := zin 956 (by decide +kernel) (by decide +kernel)
theorem q_X8_145 : Cond.constantLong RX8 145 (4095) ∈ lw_g := zin 1135 (by decide +kernel) (by decide +kernel)
theorem q_X8_160 : Cond.constantLong RX8 160 (60) ∈ lw_g := zin 1139 (by decide +kernel) (by decide +kernel)
theorem q_X8_186 : Cond.constantLong RX8 186 (255) ∈ lw_g := zin 1162 (by decide +kernel) (by decide +kernel)
theorem q_X8_188 : Cond.constantLong RX8 188 (999) ∈ lw_g := zin 1163 (by decide +kernel) (by decide +kernel)
theorem q_X8_190 : Cond.constantLong RX8 190 (-9) ∈ lw_g := zin 1164 (by decide +kernel) (by decide +kernel)
theorem q_X8_192 : Cond.constantLong RX8 192 (9) ∈ lw_g := zin 1165 (by decide +kernel) (by decide +kernel)
theorem q_X8_151 : Cond.constantLong RX8 151 (239) ∈ lw_g := zin 1180 (by decide +kernel) (by decide +kernel)
theorem q_X8_201 : Cond.constantLong RX8 201 (40) ∈ lw_g := zin 1181 (by decide +kernel) (by decide +kernel)
theorem q_X8_203 : Cond.constantLong RX8 203 (20) ∈ lw_g := zin 1186 (by decide +kernel) (by decide +kernel)
theorem q_X8_205 : Cond.constantLong RX8 205 (30) ∈ lw_g := zin 1191 (by decide +kernel) (by decide +kernel)
theorem q_X8_222 : Cond.constantLong RX8 222 (3) ∈ lw_g := zin 1200 (by decide +kernel) (by decide +kernel)
theorem q_X8_224 : Cond.constant RX8 224 (-2147483648) ∈ lw_g := zin 1201 (by decide +kernel) (by decide +kernel)
theorem q_X8_263 : Cond.constantLong RX8 263 (255999) ∈ lw_g := zin 1254 (by decide +kernel) (by decide +kernel)
theorem q_X8_268 : Cond.constantLong RX8 268 (19) ∈ lw_g := zin 1255 (by decide +kernel) (by decide +kernel)
theorem q_X8_273 : Cond.constantLong RX8 273 (32) ∈ lw_g := zin 1264 (by decide +kernel) (by decide +kernel)
theorem q_X8_275 : Cond.constantLong RX8 275 (200) ∈ lw_g := zin 1265 (by decide +kernel) (by decide +kernel)
theorem q_X8_280 : Cond.constantLong RX8 280 (8) ∈ lw_g := zin 1274 (by decide +kernel) (by decide +kernel)
theorem q_X8_301 : Cond.constantLong RX8 301 (5) ∈ lw_g := zin 1307 (by decide +kernel) (by decide +kernel)
theorem q_X8_315 : Cond.constantLong RX8 315 (10000) ∈ lw_g := zin 1336 (by decide +kernel) (by decide +kernel)
theorem q_X8_317 : Cond.constantLong RX8 317 (2) ∈ lw_g := zin 1345 (by decide +kernel) (by decide +kernel)
theorem q_X8_415 : Cond.constantLong RX8 415 (99) ∈ lw_g := zin 1443 (by decide +kernel) (by decide +kernel)
theorem q_X8_402 : Cond.constantLong RX8 402 (-1000000) ∈ lw_g := zin 1455 (by decide +kernel) (by decide +kernel)
theorem q_X8_404 : Cond.constantLong RX8 404 (1000000) ∈ lw_g := zin 1456 (by decide +kernel) (by decide +kernel)
theorem q_X8_434 : Cond.constantLong RX8 434 (1103515245) ∈ lw_g := zin 1479 (by decide +kernel) (by decide +kernel)
theorem q_X8_436 : Cond.constantLong RX8 436 (12345) ∈ lw_g := zin 1480 (by decide +kernel) (by decide +kernel)
theorem q_X8_438 : Cond.constantLong RX8 438 (2147483647) ∈ lw_g := zin 1481 (by decide +kernel) (by decide +kernel)
theorem q_X8_440 : Cond.constantLong RX8 440 (256) ∈ lw_g := zin 1482 (by decide +kernel) (by decide +kernel)
end
section
/-! ===== the world: contents by object number and place; addresses, cells ===== -/
abbrev zS : Type := (Nat → Nat → Int32) × (Nat → Nat → Int64) × (Nat → Nat → Nat) × Nat
abbrev zG : Type := Nat × va_G × (Nat → ClassId) × (Nat → Nat) × Nat × (Nat → Int32)
def zI (σ : zS) (o k : Nat) (v : Int32) : zS := (fun p q => if p = o ∧ q = k then v else σ.1 p q, σ.2)
def zLg (σ : zS) (o k : Nat) (v : Int64) : zS := (σ.1, fun p q => if p = o ∧ q = k then v else σ.2.1 p q, σ.2.2)
def zRf (σ : zS) (o k : Nat) (v : Nat) : zS := (σ.1, σ.2.1, fun p q => if p = o ∧ q = k then v else σ.2.2.1 p q, σ.2.2.2)
def zNn (σ : zS) (n : Nat) : zS := (σ.1, σ.2.1, σ.2.2.1, n)
def zJ : Value := .float 0
def zisJ : Value → Bool
  | .float _ => true
  | _ => false
def zad (g : zG) (o : Nat) : Nat := if o < 64 then g.2.2.2.1 o else g.1 + (o - 64)
def zmv (g : zG) : Value → Value
  | .ref o => .ref (zad g o)
  | v => v
def zA (g : zG) : Nat → Prop := fun q => g.1 ≤ q
def zro (g : zG) (q : Nat) : Option Nat := if q = 0 then none else some (zad g q)
def ztc (t : FieldType) : Nat := match t with
  | .long => 2
  | .object _ => 3
  | .array _ => 3
  | _ => 0
def zfv (g : zG) (σ : zS) (o : Nat) (t : Nat) (k : Nat) : Value := if t = 2 then .long (σ.2.1 o k) else if t = 3 then va_rf (zro g (σ.2.2.1 o k)) else .int (σ.1 o k)
def zfl (g : zG) (σ : zS) (o c : Nat) : List Value := (List.range (zN c)).map (fun k => zfv g σ o (ztc (zty c k)) k)
def zcell (g : zG) (σ : zS) (o : Nat) : va_E :=
  if zk o < 20 then .inr (zk o - 1, zfl g σ o (zk o - 1))
  else if zk o < 23 then .inl (g.2.2.1 (zk o), zn o, .inl (σ.1 o))
  else .inl (g.2.2.1 (zk o), zn o, .inr (.inr (.inr (.inr (fun j => zro g (σ.2.2.1 o j))))))
def zW (g : zG) (σ : zS) (H : Heap) : Prop := H.size = g.1 + σ.2.2.2 ∧ ∀ o, 64 ≤ o → o < 64 + σ.2.2.2 → va_at g.2.1 vwCl (zad g o, zcell g σ o) H
def ztys (g : zG) : List (ClassId × FieldType) := [(g.2.2.1 20, .int), (g.2.2.1 21, .byte), (g.2.2.1 22, .boolean), (g.2.2.1 23, .object "MarshLights$Thing"), (g.2.2.1 24, .object "MarshLights$Telling"), (g.2.2.1 25, .array .int), (g.2.2.1 26, .object "java/lang/String")]
/-- what the makers of arrays ask of the tables -/
def zO (U : State) : Prop := va_AO "MarshLights$Thing" U ∧ va_AO "MarshLights$Telling" U ∧ va_AO "java/lang/String" U ∧ (Cond.arrayOver (.array .int)).before #[] U = true
theorem zOA_moved {u U : State} (hvm : u.vm.Alike U.vm) (h : (Cond.arrayOver (.array .int)).before #[] u = true) : (Cond.arrayOver (.array .int)).before #[] U = true := by
  have h9 := h
  simp only [Cond.before, Cond.holds, Cond.value, beq_iff_eq] at h9
  cases hc : u.vm.findClass (FieldType.array .int).toString with
  | none => simp [hc] at h9
  | some comp =>
    simp only [hc, Option.bind_some, Option.bind_eq_some_iff, Option.map_eq_some_iff] at h9
    obtain ⟨c, hi, k, hk, hb⟩ := h9
    obtain ⟨k', hk', he⟩ := hvm.2.2 _ _ hk
    have hi2 : (U.vm.classes.findIdx? fun (x : Class) => match x.kind with | .array component _ => component == comp | _ => false) = some c := by
      have a1 := va_idx_bare U.vm comp
      have a2 := va_idx_bare u.vm comp
      have a3 : U.vm.bare = u.vm.bare := by first | exact hvm.bare_eq | exact hvm.bare_eq.symm
      rw [a3] at a1
      exact a1.symm.trans (a2.trans hi)
    have f1 : U.vm.findClass (FieldType.array .int).toString = some comp := by rw [hvm.findClass]; exact hc
    have f2 : U.vm.findClass ("[" ++ (FieldType.array .int).toString) = u.vm.findClass ("[" ++ (FieldType.array .int).toString) := by rw [hvm.findClass]
    have hkind : k'.kind = k.kind := by rw [he]
    unfold Cond.before Cond.holds
    simp only [Cond.value]
    rw [f1, Option.bind_some]
    refine (congrArg (fun o : Option Nat => (o.bind (fun c => (U.vm.classes[c]?).map fun (k : Class) => match k.kind with | .array _ ty => decide (ty = FieldType.array .int) && decide (U.vm.findClass ("[" ++ (FieldType.array .int).toString) = some c) | _ => false) == some true)) hi2).trans ?_
    simp only [Option.bind_some, hk', Option.map_some, hkind, f2]
    have hbb : ∀ b : Bool, b = true → (some b == some true) = true := by rintro _ rfl; rfl
    exact hbb _ hb
theorem zO_moved {u U : State} (hvm : u.vm.Alike U.vm) (h : zO u) : zO U := ⟨va_AO.moved hvm h.1, va_AO.moved hvm h.2.1, va_AO.moved hvm h.2.2.1, zOA_moved hvm h.2.2.2⟩
/-- what stays for the whole run: the tables' classes, the words of the nest, the texts, a static -/
def zK (g : zG) (U : State) : Prop := va_K g.2.1 vwCl (ztys g) U ∧ (∀ w ∈ lw_n, va_Nw w U) ∧ vk_S 20 zSl zSb (fun i => g.2.2.2.1 (2 + i)) (fun i => g.2.2.2.1 (22 + i)) (zA g) U U.heap ∧ (∀ i, i < 20 → vk_R (zSo i).1 (zSo i).2.1 (zSo i).2.2 (g.2.2.2.1 (2 + i)) U) ∧ va_Z "java/lang/String" "COMPACT_STRINGS" "Z" (.int 1) (zA g) U U.heap ∧ (va_Z "jdk/internal/util/Preconditions" "SIOOBE_FORMATTER" "Ljava/util/function/BiFunction;" .null (zA g) U U.heap ∨ va_Z "jdk/internal/util/Preconditions" "SIOOBE_FORMATTER" "Ljava/util/function/BiFunction;" (.ref (g.2.2.2.1 63)) (zA g) U U.heap) ∧ va_X (g.2.2.2.1 1) g.2.2.2.2.1 g.2.2.2.2.2 U U.heap ∧ ¬ zA g (g.2.2.2.1 1) ∧ zO U
theorem zX_lt {b L : Nat} {xs : Nat → Int32} {U : State} {H : Heap} (h : va_X b L xs U H) : b < H.size := by
  obtain ⟨scr, h1, -⟩ := h
  exact (Array.getElem?_eq_some_iff.mp h1).1
theorem zNw_warm {w : Cond} (hw : w ∈ lw_n) {s U : State} (hW : s.WarmedH U.vm) (h : va_Nw w s) : va_Nw w U := by
  have hn : zNest w = true := (List.mem_filter.mp hw).2
  cases w with
  | fieldLinkNest a b c d e f => exact va_Nw.warmF hW h
  | methodLinkNest a b c d => exact va_Nw.warmM hW h
  | _ => simp [zNest] at hn
theorem zNw_same {w : Cond} (hw : w ∈ lw_n) {s U : State} (hW : s.vm = U.vm) (h : va_Nw w s) : va_Nw w U := by
  have hn : zNest w = true := (List.mem_filter.mp hw).2
  cases w with
  | fieldLinkNest a b c d e f => exact va_Nw.same rfl hW h
  | methodLinkNest a b c d => exact va_Nw.same rfl hW h
  | _ => simp [zNest] at hn
theorem zK_moved {g : zG} {s U : State} (hW : s.WarmedH U.vm) (hH : ∀ a : Nat, a < s.heap.size → ¬ zA g a → U.heap[a]? = s.heap[a]?) (h : zK g s) : zK g U :=
  ⟨va_K.moved hW.alike h.1, fun w hw => zNw_warm hw hW (h.2.1 w hw), vk_S.kept (vk_S.moved hW.alike h.2.2.1) hH, fun i hi => vk_R.warm hW (h.2.2.2.1 i hi), va_Z.kept (va_Z.moved hW.alike h.2.2.2.2.1) hH, h.2.2.2.2.2.1.imp (fun q => va_Z.kept (va_Z.moved hW.alike q) hH) (fun q => va_Z.kept (va_Z.moved hW.alike q) hH), (h.2.2.2.2.2.2.1.moved hW.alike).kept (hH _ (zX_lt h.2.2.2.2.2.2.1) h.2.2.2.2.2.2.2.1), h.2.2.2.2.2.2.2.1, zO_moved hW.alike h.2.2.2.2.2.2.2.2⟩
theorem zK_same {g : zG} {s U : State} (hW : s.vm = U.vm) (hH : U.heap = s.heap) (h : zK g s) : zK g U :=
  have ha : s.vm.Alike U.vm := hW ▸ Vm.Alike.refl s.vm
  ⟨va_K.moved ha h.1, fun w hw => zNw_same hw hW (h.2.1 w hw), vk_S.kept (vk_S.moved ha h.2.2.1) (fun a _ _ => by rw [hH]), fun i hi => vk_R.same hW.symm (h.2.2.2.1 i hi), va_Z.kept (va_Z.moved ha h.2.2.2.2.1) (fun a _ _ => by rw [hH]), h.2.2.2.2.2.1.imp (fun q => va_Z.kept (va_Z.moved ha q) (fun a _ _ => by rw [hH])) (fun q => va_Z.kept (va_Z.moved ha q) (fun a _ _ => by rw [hH])), (h.2.2.2.2.2.2.1.moved ha).kept (by rw [hH]), h.2.2.2.2.2.2.2.1, zO_moved ha h.2.2.2.2.2.2.2.2⟩
/-! ===== locals by place ===== -/
def zlv (g : zG) (ls : List Value) : List (Nat × Value) := (List.range ls.length).filterMap (fun i => match ls[i]? with
  | some v => if zisJ v then none else some (i, zmv g v)
  | none => none)
theorem zlv_mem {g : zG} {ls : List Value} {q : Nat × Value} : q ∈ zlv g ls ↔ ∃ v, ls[q.1]? = some v ∧ zisJ v = false ∧ q.2 = zmv g v := by
  unfold zlv
  rw [List.mem_filterMap]
  constructor
  · rintro ⟨i, hi, h⟩
    cases hv : ls[i]? with
    | none => rw [hv] at h; cases h
    | some v =>
      rw [hv] at h
      by_cases hj : zisJ v = true
      · simp [hj] at h
      · simp [hj] at h
        subst h
        exact ⟨v, hv, by simpa using hj, rfl⟩
  · rintro ⟨v, hv, hj, he⟩
    refine ⟨q.1, List.mem_range.mpr (List.getElem?_eq_some_iff.mp hv).1, ?_⟩
    rw [hv]
    simp [hj, ← he]
def zL (g : zG) (n : Nat) (ls : List Value) (m : Array Slot) : Prop := lv_has m n (zlv g ls)
theorem zL_at {g : zG} {n : Nat} {ls : List Value} {m : Array Slot} (h : zL g n ls m) {i : Nat} {v : Value} (hv : ls[i]? = some v) (hj : zisJ v = false) : m[i]? = some (.val (zmv g v)) :=
  h.2.2 (i, zmv g v) (zlv_mem.mpr ⟨v, hv, hj, rfl⟩)
theorem zL_sub {g : zG} {n : Nat} {l : List (Nat × Value)} {ls : List Value} {m : Array Slot} (h : lv_has m n l) (hs : ∀ i v, ls[i]? = some v → zisJ v = false → (i, zmv g v) ∈ l) : zL g n ls m :=
  ⟨h.1, h.2.1, fun q hq => by
    obtain ⟨v, h1, h2, h3⟩ := zlv_mem.mp hq
    have := hs q.1 v h1 h2
    rw [← h3] at this
    exact h.2.2 q this⟩
/-- no long just ahead of place i -/
def zok (ls : List Value) (i : Nat) : Prop := ∀ v, 0 < i → ls[i - 1]? = some v → v.category = 1
theorem zmv_cat (g : zG) (v : Value) : (zmv g v).category = v.category := by cases v <;> rfl
theorem zL_set {g : zG} {n : Nat} {ls : List Value} {m : Array Slot} {i : Nat} {x : Value} (h : lv_has m n ((i, zmv g x) :: (zlv g ls).filter (fun q => !(q.1 == i) && !(q.1 + 1 == i && q.2.category == 2)))) (hk : zok ls i) : zL g n (ls.set i x) m := by
  refine zL_sub h fun j v hv hj => ?_
  by_cases e : j = i
  · subst e
    have hlt := (List.getElem?_eq_some_iff.mp hv).1
    rw [List.getElem?_set_self (by simpa using hlt)] at hv
    cases hv
    exact List.mem_cons_self
  · rw [List.getElem?_set_ne (Ne.symm e)] at hv
    refine List.mem_cons_of_mem _ (List.mem_filter.mpr ⟨zlv_mem.mpr ⟨v, hv, hj, rfl⟩, ?_⟩)
    have h2 : ¬ (j + 1 = i ∧ v.category = 2) := by
      rintro ⟨e1, e2⟩
      have := hk v (by omega) (by rw [show i - 1 = j by omega]; exact hv)
      omega
    simp only [Bool.and_eq_true, Bool.not_eq_true', beq_eq_false_iff_ne, ne_eq, Bool.and_eq_false_iff, zmv_cat]
    refine ⟨e, ?_⟩
    by_cases e1 : j + 1 = i
    · exact Or.inr fun e2 => h2 ⟨e1, e2⟩
    · exact Or.inl e1
theorem zL_setL {g : zG} {n : Nat} {ls : List Value} {m : Array Slot} {i : Nat} {x : Int64} (h : lv_has m n ((i, .long x) :: (zlv g ls).filter (fun q => !(q.1 == i) && (!(q.1 == i + 1) && !(q.1 + 1 == i && q.2.category == 2))))) (hk : zok ls i) : zL g n ((ls.set i (.long x)).set (i + 1) zJ) m := by
  refine zL_sub h fun j v hv hj => ?_
  by_cases e1 : j = i + 1
  · subst e1
    have hlt := (List.getElem?_eq_some_iff.mp hv).1
    rw [List.getElem?_set_self (by simpa using hlt)] at hv
    cases hv
    cases hj
  rw [List.getElem?_set_ne (Ne.symm e1)] at hv
  by_cases e : j = i
  · subst e
    have hlt := (List.getElem?_eq_some_iff.mp hv).1
    rw [List.getElem?_set_self (by simpa using hlt)] at hv
    cases hv
    exact List.mem_cons_self
  · rw [List.getElem?_set_ne (Ne.symm e)] at hv
    refine List.mem_cons_of_mem _ (List.mem_filter.mpr ⟨zlv_mem.mpr ⟨v, hv, hj, rfl⟩, ?_⟩)
    have h2 : ¬ (j + 1 = i ∧ v.category = 2) := by
      rintro ⟨e1, e2⟩
      have := hk v (by omega) (by rw [show i - 1 = j by omega]; exact hv)
      omega
    simp only [Bool.and_eq_true, Bool.not_eq_true', beq_eq_false_iff_ne, ne_eq, Bool.and_eq_false_iff, zmv_cat]
    refine ⟨e, e1, ?_⟩
    by_cases e3 : j + 1 = i
    · exact Or.inr fun e2 => h2 ⟨e3, e2⟩
    · exact Or.inl e3
theorem zok0 {ls : List Value} : zok ls 0 := fun _ h => absurd h (by decide)
def zokB (ls : List Value) (i : Nat) : Bool := match ls[i - 1]? with
  | some v => v.category == 1
  | none => true
theorem zokd {ls : List Value} {i : Nat} (h : zokB ls i = true) : zok ls i := fun v _ hv => by
  unfold zokB at h
  rw [hv] at h
  simpa using h
/-- the same locals, some forgotten -/
def zwk : List Value → List Value → Prop
  | [], [] => True
  | a :: as, b :: bs => (b = zJ ∨ b = a) ∧ zwk as bs
  | _, _ => False
theorem zwk_at : ∀ {ls ls' : List Value}, zwk ls ls' → ∀ (i : Nat) (v : Value), ls'[i]? = some v → zisJ v = false → ls[i]? = some v
  | [], [], _, i, v, h, _ => by simp at h
  | a :: as, b :: bs, h, i, v, hv, hj => by
    cases i with
    | zero =>
      rw [List.getElem?_cons_zero] at hv ⊢
      cases hv
      rcases h.1 with e | e
      · rw [e] at hj; cases hj
      · rw [e]
    | succ i =>
      rw [List.getElem?_cons_succ] at hv ⊢
      exact zwk_at h.2 i v hv hj
  | [], _ :: _, h, _, _, _, _ => h.elim
  | _ :: _, [], h, _, _, _, _ => h.elim
theorem zL_wk {g : zG} {n : Nat} {ls ls' : List Value} {m : Array Slot} (h : zL g n ls m) (hw : zwk ls ls') : zL g n ls' m :=
  zL_sub h fun i v hv hj => zlv_mem.mpr ⟨v, zwk_at hw i v hv hj, hj, rfl⟩
def zent : List Value → List Value
  | [] => []
  | v :: vs => v :: (if v.category = 2 then zJ :: zent vs else zent vs)
theorem zent_args (g : zG) : ∀ (vs : List Value) (k i : Nat) (v : Value), (zent vs)[i]? = some v → zisJ v = false → (k + i, zmv g v) ∈ lv_args k (vs.map (zmv g))
  | [], k, i, v, h, _ => by simp [zent] at h
  | a :: as, k, i, v, h, hj => by
    rw [zent] at h
    show _ ∈ (k, zmv g a) :: lv_args (if (zmv g a).category = 2 then k + 2 else k + 1) (as.map (zmv g))
    rw [zmv_cat]
    by_cases c : a.category = 2
    · rw [if_pos c] at h ⊢
      cases i with
      | zero => rw [List.getElem?_cons_zero] at h; cases h; exact List.mem_cons_self
      | succ i =>
        rw [List.getElem?_cons_succ] at h
        cases i with
        | zero => rw [List.getElem?_cons_zero] at h; cases h; cases hj
        | succ i =>
          rw [List.getElem?_cons_succ] at h
          have := zent_args g as (k + 2) i v h hj
          rw [show k + 2 + i = k + (i + 1 + 1) by omega] at this
          exact List.mem_cons_of_mem _ this
    · rw [if_neg c] at h ⊢
      cases i with
      | zero => rw [List.getElem?_cons_zero] at h; cases h; exact List.mem_cons_self
      | succ i =>
        rw [List.getElem?_cons_succ] at h
        have := zent_args g as (k + 1) i v h hj
        rw [show k + 1 + i = k + (i + 1) by omega] at this
        exact List.mem_cons_of_mem _ this
/-! ===== the judgement: from this place of a method on, it comes back with what K wants ===== -/
def zRet (M : zM) (pc : Nat) (v : Option Value) : Prop :=
  (v = none ∧ M.2.2.2 = none ∧ decode M.2.1 pc = .ok (.return_, 1)) ∨
  (∃ x ty, v = some (.int x) ∧ M.2.2.2 = some ty ∧ narrow ty (.int x) = .int x ∧ decode M.2.1 pc = .ok (.ireturn, 1)) ∨
  (∃ o C, v = some (.ref o) ∧ M.2.2.2 = some (.object C) ∧ decode M.2.1 pc = .ok (.areturn, 1)) ∨
  (∃ x, v = some (.long x) ∧ M.2.2.2 = some .long ∧ decode M.2.1 pc = .ok (.lreturn, 1))
def zC (l : Launch) (g : zG) (d z0 z1 : Nat) (M : zM) (K : Option Value → zS → Prop) (p : Program) (e : Env) (R : Room) (s : State) (m : MethodId) (args : Array Value) (below : List Frame) (meth : Method) (c : Code) (Q : State → Prop) : Prop :=
  p.tables.exec = Jvm.exec ∧ c.code = M.2.1 ∧ c.maxLocals = M.2.2.1 ∧ (∀ w ∈ lw_g, w.before args s = true) ∧ s.vm.findClass M.1.cls = some m.cls ∧ (M.1.name = "<init>" → meth.name = "<init>") ∧ zK g s ∧ (d ≤ R.frames ∧ 100 * d ≤ R.locals ∧ z1 - z0 ≤ R.cells ∧ zSS z1 - zSS z0 ≤ R.slots) ∧ g.1 ≤ s.heap.size ∧
  (∀ (v : Option Value) (σ : zS) (H : Heap) (locs : List Loc) (pc : Nat) (ls : Array Slot), K v σ → zW g σ H → σ.2.2.2 = z1 → va_S (zA g) s.heap H locs → zRet M pc v →
    W p l e R s m args below meth c H locs (z1 - z0) (zSS z1 - zSS z0) Q (F0 m pc ls (v.map (zmv g)).toList))
def zAt (l : Launch) (g : zG) (d z0 z1 : Nat) (M : zM) (pc : Nat) (ls st : List Value) (σ : zS) (K : Option Value → zS → Prop) : Prop :=
  ∀ (p : Program) (e : Env) (R : Room) (s : State) (m : MethodId) (args : Array Value) (below : List Frame) (meth : Method) (c : Code) (Q : State → Prop), zC l g d z0 z1 M K p e R s m args below meth c Q →
  ∀ (H : Heap) (locs : List Loc) (mls : Array Slot), zW g σ H → z0 ≤ σ.2.2.2 → σ.2.2.2 ≤ z1 → va_S (zA g) s.heap H locs → zL g M.2.2.1 ls mls →
  W p l e R s m args below meth c H locs (σ.2.2.2 - z0) (zSS σ.2.2.2 - zSS z0) Q (F0 m pc mls (st.map (zmv g)))
def zRm (d z0 z1 : Nat) : Room := { frames := d, cells := z1 - z0, slots := zSS z1 - zSS z0, locals := 100 * d }
def zws (M : zM) : List Cond := Cond.code M.1 M.2.1 M.2.2.1 M.2.2.2 :: lw_g
def zPc (g : zG) (z0 : Nat) (args : List Value) (σ : zS) : Array Value → State → Prop := fun a U => a = (args.map (zmv g)).toArray ∧ zW g σ U.heap ∧ σ.2.2.2 = z0 ∧ zK g U
def zQc (g : zG) (z1 : Nat) (K : Option Value → zS → Prop) : Array Value → State → Outcome → State → Prop := fun _ st o t => (∃ v σ, o = .returned (v.map (zmv g)) ∧ K v σ ∧ zW g σ t.heap ∧ σ.2.2.2 = z1) ∧ va_F (zA g) st t
/-- method M, called with args in σ, comes back with what K wants, d frames below it at most -/
def zCall (l : Launch) (g : zG) (d z0 z1 : Nat) (M : zM) (args : List Value) (σ : zS) (K : Option Value → zS → Prop) : Prop :=
  Met l M.1 (zws M) (zRm d z0 z1) (zPc g z0 args σ) (zQc g z1 K) (z1 - z0) (zSS z1 - zSS z0) (zA g)
theorem zSS_mono {a b : Nat} (h : a ≤ b) : zSS a ≤ zSS b := by
  induction b with
  | zero => have : a = 0 := by omega
            subst this; exact Nat.le_refl _
  | succ b ih =>
    by_cases e : a = b + 1
    · subst e; exact Nat.le_refl _
    · exact Nat.le_trans (ih (by omega)) (Nat.le_add_right _ _)
theorem zCall_of {l : Launch} {g : zG} {d z0 z1 n : Nat} {M : zM} {args : List Value} {σ : zS} {K : Option Value → zS → Prop} (hk : zMk M n) (hlen : (lg_sl (args.map (zmv g))).length ≤ M.2.2.1) (hz : z0 ≤ z1)
    (h : σ.2.2.2 = z0 → zAt l g d z0 z1 M 0 (zent args ++ List.replicate (M.2.2.1 - (zent args).length) zJ) [] σ K) : zCall l g d z0 z1 M args σ K := by
  refine va_MetF (cc := M.2.1) (maxL := M.2.2.1) (ret := M.2.2.2) hk.2.2.2.1 rfl ?_
  intro p e s m args' below meth c s₁ B hml hv
  obtain ⟨rfl, hW, hN, hK⟩ := hv
  have hts := atoms_spec (ws := zws M) B.pre
  have hl := lv_entry (args.map (zmv g)) (n := M.2.2.1) hlen
  rw [lg_entry_eq]
  have hL : zL g M.2.2.1 (zent args ++ List.replicate (M.2.2.1 - (zent args).length) zJ) _ := zL_sub hl (fun i v hv hj => by
    by_cases hi : i < (zent args).length
    · rw [List.getElem?_append_left hi] at hv
      have := zent_args g args 0 i v hv hj
      rwa [Nat.zero_add] at this
    · rw [List.getElem?_append_right (by omega)] at hv
      have := List.mem_of_getElem? hv
      rw [List.mem_replicate] at this
      rw [this.2] at hj
      cases hj)
  have hgs : g.1 ≤ s.heap.size := by rw [hW.1]; omega
  have := h hN p e (zRm d z0 z1) s m (args.map (zmv g)).toArray below meth c (MQ below (zQc g z1 K) (args.map (zmv g)).toArray s (z1 - z0) (zSS z1 - zSS z0) (zA g)) ⟨B.exec, B.bytes, hml, fun w hw => hts w (List.mem_cons_of_mem _ hw), findClass_of_methodNamed B.named, fun h9 => (name_of_methodNamed B.named B.method).1.trans h9, hK, ⟨Nat.le_refl _, Nat.le_refl _, Nat.le_refl _, Nat.le_refl _⟩, hgs, ?_⟩ s.heap [] _ hW (by rw [hN]; exact Nat.le_refl _) (by rw [hN]; exact hz) va_S.rf hL
  · rw [hN, Nat.sub_self, Nat.sub_self] at this
    exact this
  · intro v σ' H locs pc ls hKv hW' hN' hS hr
    have hpost : ∀ t : State, t.heap = H → s.WarmedH t.vm → zQc g z1 K (args.map (zmv g)).toArray s (.returned (v.map (zmv g))) t := fun t ht _ => ⟨⟨v, σ', rfl, hKv, by rw [ht]; exact hW', hN'⟩, hS.F ht⟩
    rcases hr with ⟨rfl, h2, h3⟩ | ⟨x, ty, rfl, h2, h3, h4⟩ | ⟨o, C, rfl, h2, h3⟩ | ⟨x, rfl, h2, h3⟩
    · exact W.vret B.exec B.bytes (B.returns.trans h2) hpost hS.2.2 h3
    · exact W.zret B.exec B.bytes (B.returns.trans h2) h3 hpost hS.2.2 h4
    · exact W.aret B.exec B.bytes (B.returns.trans h2) (Or.inl ⟨C, rfl⟩) (Or.inr ⟨_, rfl⟩) hpost hS.2.2 h3
    · exact W.lret B.exec B.bytes (B.returns.trans h2) hpost hS.2.2 h3
theorem z_ret {l : Launch} {g : zG} {d z0 z1 : Nat} {M : zM} {pc : Nat} {ls : List Value} {σ : zS} {K : Option Value → zS → Prop} (v : Option Value) (hr : zRet M pc v) (hN : z0 ≤ σ.2.2.2 → σ.2.2.2 ≤ z1 → σ.2.2.2 = z1) (hK : K v σ) : zAt l g d z0 z1 M pc ls v.toList σ K := by
  intro p e R s m args below meth c Q C H locs mls h1 h2 h3 h4 h5
  have e1 := hN h2 h3
  have := C.2.2.2.2.2.2.2.2.2 v σ H locs pc mls hK h1 e1 h4 hr
  rw [e1]
  cases v with
  | none => exact this
  | some v => exact this
theorem z_wk {l : Launch} {g : zG} {d z0 z1 : Nat} {M : zM} {pc : Nat} {ls ls' st : List Value} {σ : zS} {K : Option Value → zS → Prop} (hw : zwk ls ls') (k : zAt l g d z0 z1 M pc ls' st σ K) : zAt l g d z0 z1 M pc ls st σ K :=
  fun p e R s m args below meth c Q C H locs mls h1 h2 h3 h4 h5 => k p e R s m args below meth c Q C H locs mls h1 h2 h3 h4 (zL_wk h5 hw)
/-- what is wanted less is had as well -/
theorem zC_mono {l : Launch} {g : zG} {d z0 z1 : Nat} {M : zM} {K K' : Option Value → zS → Prop} (hm : ∀ v σ, K' v σ → K v σ) {p : Program} {e : Env} {R : Room} {s : State} {m : MethodId} {args : Array Value} {below : List Frame} {meth : Method} {c : Code} {Q : State → Prop} (h : zC l g d z0 z1 M K p e R s m args below meth c Q) : zC l g d z0 z1 M K' p e R s m args below meth c Q :=
  ⟨h.1, h.2.1, h.2.2.1, h.2.2.2.1, h.2.2.2.2.1, h.2.2.2.2.2.1, h.2.2.2.2.2.2.1, h.2.2.2.2.2.2.2.1, h.2.2.2.2.2.2.2.2.1, fun v σ H locs pc ls hk => h.2.2.2.2.2.2.2.2.2 v σ H locs pc ls (hm v σ hk)⟩
theorem zAt_mono {l : Launch} {g : zG} {d z0 z1 : Nat} {M : zM} {pc : Nat} {ls st : List Value} {σ : zS} {K K' : Option Value → zS → Prop} (k : zAt l g d z0 z1 M pc ls st σ K) (hm : ∀ v σ, K v σ → K' v σ) : zAt l g d z0 z1 M pc ls st σ K' :=
  fun p e R s m args below meth c Q C => k p e R s m args below meth c Q (zC_mono hm C)
end
section

def zushr (x y : Int32) : Int32 := (x.toUInt32 >>> (y.toUInt32 &&& Int32.toUInt32 31)).toInt32
theorem zrem_eq (x y : Int32) : x - x / y * y = x % y := by
  apply Int32.toInt_inj.mp
  rw [Int32.toInt_sub, Int32.toInt_mul, Int32.toInt_div, Int32.toInt_mod]
  rw [Int.bmod_mul_bmod, Int.sub_bmod_bmod]
  have h1 : x.toInt - x.toInt.tdiv y.toInt * y.toInt = x.toInt.tmod y.toInt := by
    have := Int.tdiv_mul_add_tmod x.toInt y.toInt
    omega
  rw [h1]
  have h2 := Int32.toInt_lt (x % y)
  have h3 := Int32.le_toInt (x % y)
  rw [Int32.toInt_mod] at h2 h3
  apply Int.bmod_eq_of_le <;> omega
theorem zrem_eqL (x y : Int64) : x - x / y * y = x % y := by
  apply Int64.toInt_inj.mp
  rw [Int64.toInt_sub, Int64.toInt_mul, Int64.toInt_div, Int64.toInt_mod]
  rw [Int.bmod_mul_bmod, Int.sub_bmod_bmod]
  have h1 : x.toInt - x.toInt.tdiv y.toInt * y.toInt = x.toInt.tmod y.toInt := by
    have := Int.tdiv_mul_add_tmod x.toInt y.toInt
    omega
  rw [h1]
  have h2 := Int64.toInt_lt (x % y)
  have h3 := Int64.le_toInt (x % y)
  rw [Int64.toInt_mod] at h2 h3
  apply Int.bmod_eq_of_le <;> omega
theorem z_iconst {l : Launch} {g : zG} {d z0 z1 : Nat} {M : zM} {pc pn : Nat} {ls st : List Value} {σ : zS} {K : Option Value → zS → Prop} {n : Int} {v : Int32} (hd : decode M.2.1 pc = .ok (.iconst n, 1)) (hv : Int32.ofInt n = v) (hn : pc + 1 = pn) (k : zAt l g d z0 z1 M pn ls (.int v :: st) σ K) : zAt l g d z0 z1 M pc ls st σ K := by
  subst hn
  intro p e R s m args below meth c Q C H locs mls h1 h2 h3 h4 h5
  exact lv_iconst C.1 C.2.1 hd hv (k p e R s m args below meth c Q C H locs mls h1 h2 h3 h4 h5)
theorem z_bipush {l : Launch} {g : zG} {d z0 z1 : Nat} {M : zM} {pc pn : Nat} {ls st : List Value} {σ : zS} {K : Option Value → zS → Prop} {n : Int} {v : Int32} (hd : decode M.2.1 pc = .ok (.bipush n, 2)) (hv : (Int8.ofInt n).toInt32 = v) (hn : pc + 2 = pn) (k : zAt l g d z0 z1 M pn ls (.int v :: st) σ K) : zAt l g d z0 z1 M pc ls st σ K := by
  subst hn
  intro p e R s m args below meth c Q C H locs mls h1 h2 h3 h4 h5
  exact lv_bipush C.1 C.2.1 hd hv (k p e R s m args below meth c Q C H locs mls h1 h2 h3 h4 h5)
theorem z_sipush {l : Launch} {g : zG} {d z0 z1 : Nat} {M : zM} {pc pn : Nat} {ls st : List Value} {σ : zS} {K : Option Value → zS → Prop} {n : Int} {v : Int32} (hd : decode M.2.1 pc = .ok (.sipush n, 3)) (hv : (Int16.ofInt n).toInt32 = v) (hn : pc + 3 = pn) (k : zAt l g d z0 z1 M pn ls (.int v :: st) σ K) : zAt l g d z0 z1 M pc ls st σ K := by
  subst hn
  intro p e R s m args below meth c Q C H locs mls h1 h2 h3 h4 h5
  exact lv_sipush C.1 C.2.1 hd hv (k p e R s m args below meth c Q C H locs mls h1 h2 h3 h4 h5)
theorem z_lconst {l : Launch} {g : zG} {d z0 z1 : Nat} {M : zM} {pc pn : Nat} {ls st : List Value} {σ : zS} {K : Option Value → zS → Prop} {n : Fin 2} {v : Int64} (hd : decode M.2.1 pc = .ok (.lconst n, 1)) (hv : Int64.ofNat (n : Nat) = v) (hn : pc + 1 = pn) (k : zAt l g d z0 z1 M pn ls (.long v :: st) σ K) : zAt l g d z0 z1 M pc ls st σ K := by
  subst hn
  intro p e R s m args below meth c Q C H locs mls h1 h2 h3 h4 h5
  exact lv_lconst C.1 C.2.1 hd hv (k p e R s m args below meth c Q C H locs mls h1 h2 h3 h4 h5)
theorem z_iload_n {l : Launch} {g : zG} {d z0 z1 : Nat} {M : zM} {pc pn : Nat} {ls st : List Value} {σ : zS} {K : Option Value → zS → Prop} {j : Fin 4} {i : Nat} {x : Int32} (hd : decode M.2.1 pc = .ok (.iload_n j, 1)) (hi : (j : Nat) = i) (hl : ls[i]? = some (.int x)) (hn : pc + 1 = pn) (k : zAt l g d z0 z1 M pn ls (.int x :: st) σ K) : zAt l g d z0 z1 M pc ls st σ K := by
  subst hn
  intro p e R s m args below meth c Q C H locs mls h1 h2 h3 h4 h5
  exact lv_iload_n C.1 C.2.1 hd hi (zL_at h5 (v := .int x) hl rfl) (k p e R s m args below meth c Q C H locs mls h1 h2 h3 h4 h5)
theorem z_iload {l : Launch} {g : zG} {d z0 z1 : Nat} {M : zM} {pc pn : Nat} {ls st : List Value} {σ : zS} {K : Option Value → zS → Prop} {i : Nat} {x : Int32} (hd : decode M.2.1 pc = .ok (.iload i, 2)) (hl : ls[i]? = some (.int x)) (hn : pc + 2 = pn) (k : zAt l g d z0 z1 M pn ls (.int x :: st) σ K) : zAt l g d z0 z1 M pc ls st σ K := by
  subst hn
  intro p e R s m args below meth c Q C H locs mls h1 h2 h3 h4 h5
  exact lv_iload C.1 C.2.1 hd (zL_at h5 (v := .int x) hl rfl) (k p e R s m args below meth c Q C H locs mls h1 h2 h3 h4 h5)
theorem z_lload_n {l : Launch} {g : zG} {d z0 z1 : Nat} {M : zM} {pc pn : Nat} {ls st : List Value} {σ : zS} {K : Option Value → zS → Prop} {j : Fin 4} {i : Nat} {x : Int64} (hd : decode M.2.1 pc = .ok (.lload_n j, 1)) (hi : (j : Nat) = i) (hl : ls[i]? = some (.long x)) (hn : pc + 1 = pn) (k : zAt l g d z0 z1 M pn ls (.long x :: st) σ K) : zAt l g d z0 z1 M pc ls st σ K := by
  subst hn
  intro p e R s m args below meth c Q C H locs mls h1 h2 h3 h4 h5
  exact lv_lload_n C.1 C.2.1 hd hi (zL_at h5 (v := .long x) hl rfl) (k p e R s m args below meth c Q C H locs mls h1 h2 h3 h4 h5)
theorem z_lload {l : Launch} {g : zG} {d z0 z1 : Nat} {M : zM} {pc pn : Nat} {ls st : List Value} {σ : zS} {K : Option Value → zS → Prop} {i : Nat} {x : Int64} (hd : decode M.2.1 pc = .ok (.lload i, 2)) (hl : ls[i]? = some (.long x)) (hn : pc + 2 = pn) (k : zAt l g d z0 z1 M pn ls (.long x :: st) σ K) : zAt l g d z0 z1 M pc ls st σ K := by
  subst hn
  intro p e R s m args below meth c Q C H locs mls h1 h2 h3 h4 h5
  exact lv_lload C.1 C.2.1 hd (zL_at h5 (v := .long x) hl rfl) (k p e R s m args below meth c Q C H locs mls h1 h2 h3 h4 h5)
theorem z_aload_n {l : Launch} {g : zG} {d z0 z1 : Nat} {M : zM} {pc pn : Nat} {ls st : List Value} {σ : zS} {K : Option Value → zS → Prop} {j : Fin 4} {i : Nat} {x : Nat} (hd : decode M.2.1 pc = .ok (.aload_n j, 1)) (hi : (j : Nat) = i) (hl : ls[i]? = some (.ref x)) (hn : pc + 1 = pn) (k : zAt l g d z0 z1 M pn ls (.ref x :: st) σ K) : zAt l g d z0 z1 M pc ls st σ K := by
  subst hn
  intro p e R s m args below meth c Q C H locs mls h1 h2 h3 h4 h5
  exact lv_aload_n C.1 C.2.1 hd hi (zL_at h5 (v := .ref x) hl rfl) (k p e R s m args below meth c Q C H locs mls h1 h2 h3 h4 h5)
theorem z_aload {l : Launch} {g : zG} {d z0 z1 : Nat} {M : zM} {pc pn : Nat} {ls st : List Value} {σ : zS} {K : Option Value → zS → Prop} {i : Nat} {x : Nat} (hd : decode M.2.1 pc = .ok (.aload i, 2)) (hl : ls[i]? = some (.ref x)) (hn : pc + 2 = pn) (k : zAt l g d z0 z1 M pn ls (.ref x :: st) σ K) : zAt l g d z0 z1 M pc ls st σ K := by
  subst hn
  intro p e R s m args below meth c Q C H locs mls h1 h2 h3 h4 h5
  exact lv_aload C.1 C.2.1 hd (zL_at h5 (v := .ref x) hl rfl) (k p e R s m args below meth c Q C H locs mls h1 h2 h3 h4 h5)
theorem z_istore_n {l : Launch} {g : zG} {d z0 z1 : Nat} {M : zM} {pc pn : Nat} {ls st : List Value} {σ : zS} {K : Option Value → zS → Prop} {j : Fin 4} {i : Nat} {x : Int32} (hd : decode M.2.1 pc = .ok (.istore_n j, 1)) (hi : (j : Nat) = i) (hM : i < M.2.2.1) (hk : zok ls i) (hn : pc + 1 = pn) (k : zAt l g d z0 z1 M pn (ls.set i (.int x)) st σ K) : zAt l g d z0 z1 M pc ls (.int x :: st) σ K := by
  subst hn
  intro p e R s m args below meth c Q C H locs mls h1 h2 h3 h4 h5
  exact lv_istore_n C.1 C.2.1 hd hi h5 hM rfl (fun m9 h9 => k p e R s m args below meth c Q C H locs m9 h1 h2 h3 h4 (zL_set (x := .int x) h9 hk))
theorem z_istore {l : Launch} {g : zG} {d z0 z1 : Nat} {M : zM} {pc pn : Nat} {ls st : List Value} {σ : zS} {K : Option Value → zS → Prop} {i : Nat} {x : Int32} (hd : decode M.2.1 pc = .ok (.istore i, 2)) (hM : i < M.2.2.1) (hk : zok ls i) (hn : pc + 2 = pn) (k : zAt l g d z0 z1 M pn (ls.set i (.int x)) st σ K) : zAt l g d z0 z1 M pc ls (.int x :: st) σ K := by
  subst hn
  intro p e R s m args below meth c Q C H locs mls h1 h2 h3 h4 h5
  exact lv_istore C.1 C.2.1 hd h5 hM rfl (fun m9 h9 => k p e R s m args below meth c Q C H locs m9 h1 h2 h3 h4 (zL_set (x := .int x) h9 hk))
theorem z_astore_n {l : Launch} {g : zG} {d z0 z1 : Nat} {M : zM} {pc pn : Nat} {ls st : List Value} {σ : zS} {K : Option Value → zS → Prop} {j : Fin 4} {i : Nat} {x : Nat} (hd : decode M.2.1 pc = .ok (.astore_n j, 1)) (hi : (j : Nat) = i) (hM : i < M.2.2.1) (hk : zok ls i) (hn : pc + 1 = pn) (k : zAt l g d z0 z1 M pn (ls.set i (.ref x)) st σ K) : zAt l g d z0 z1 M pc ls (.ref x :: st) σ K := by
  subst hn
  intro p e R s m args below meth c Q C H locs mls h1 h2 h3 h4 h5
  exact lv_astore_n C.1 C.2.1 hd hi h5 hM rfl (fun m9 h9 => k p e R s m args below meth c Q C H locs m9 h1 h2 h3 h4 (zL_set (x := .ref x) h9 hk))
theorem z_astore {l : Launch} {g : zG} {d z0 z1 : Nat} {M : zM} {pc pn : Nat} {ls st : List Value} {σ : zS} {K : Option Value → zS → Prop} {i : Nat} {x : Nat} (hd : decode M.2.1 pc = .ok (.astore i, 2)) (hM : i < M.2.2.1) (hk : zok ls i) (hn : pc + 2 = pn) (k : zAt l g d z0 z1 M pn (ls.set i (.ref x)) st σ K) : zAt l g d z0 z1 M pc ls (.ref x :: st) σ K := by
  subst hn
  intro p e R s m args below meth c Q C H locs mls h1 h2 h3 h4 h5
  exact lv_astore C.1 C.2.1 hd h5 hM rfl (fun m9 h9 => k p e R s m args below meth c Q C H locs m9 h1 h2 h3 h4 (zL_set (x := .ref x) h9 hk))
theorem z_lstore_n {l : Launch} {g : zG} {d z0 z1 : Nat} {M : zM} {pc pn : Nat} {ls st : List Value} {σ : zS} {K : Option Value → zS → Prop} {j : Fin 4} {i : Nat} {x : Int64} (hd : decode M.2.1 pc = .ok (.lstore_n j, 1)) (hi : (j : Nat) = i) (hM : i + 1 < M.2.2.1) (hk : zok ls i) (hn : pc + 1 = pn) (k : zAt l g d z0 z1 M pn ((ls.set i (.long x)).set (i + 1) zJ) st σ K) : zAt l g d z0 z1 M pc ls (.long x :: st) σ K := by
  subst hn
  intro p e R s m args below meth c Q C H locs mls h1 h2 h3 h4 h5
  exact lv_lstore_n C.1 C.2.1 hd hi h5 hM rfl (fun m9 h9 => k p e R s m args below meth c Q C H locs m9 h1 h2 h3 h4 (zL_setL h9 hk))
theorem z_lstore {l : Launch} {g : zG} {d z0 z1 : Nat} {M : zM} {pc pn : Nat} {ls st : List Value} {σ : zS} {K : Option Value → zS → Prop} {i : Nat} {x : Int64} (hd : decode M.2.1 pc = .ok (.lstore i, 2)) (hM : i + 1 < M.2.2.1) (hk : zok ls i) (hn : pc + 2 = pn) (k : zAt l g d z0 z1 M pn ((ls.set i (.long x)).set (i + 1) zJ) st σ K) : zAt l g d z0 z1 M pc ls (.long x :: st) σ K := by
  subst hn
  intro p e R s m args below meth c Q C H locs mls h1 h2 h3 h4 h5
  exact lv_lstore C.1 C.2.1 hd h5 hM rfl (fun m9 h9 => k p e R s m args below meth c Q C H locs m9 h1 h2 h3 h4 (zL_setL h9 hk))
theorem z_iinc {l : Launch} {g : zG} {d z0 z1 : Nat} {M : zM} {pc pn : Nat} {ls st : List Value} {σ : zS} {K : Option Value → zS → Prop} {i : Nat} {n : Int} {x v : Int32} (hd : decode M.2.1 pc = .ok (.iinc i n, 3)) (hl : ls[i]? = some (.int x)) (hv : x + Int32.ofInt n = v) (hM : i < M.2.2.1) (hk : zok ls i) (hn : pc + 3 = pn) (k : zAt l g d z0 z1 M pn (ls.set i (.int v)) st σ K) : zAt l g d z0 z1 M pc ls st σ K := by
  subst hn
  intro p e R s m args below meth c Q C H locs mls h1 h2 h3 h4 h5
  obtain ⟨j, hj⟩ := List.getElem?_of_mem (zlv_mem.mpr ⟨.int x, hl, rfl, rfl⟩ : (i, Value.int x) ∈ zlv g ls)
  exact lv_iinc C.1 C.2.1 hd h5 hj hv hM rfl (fun m9 h9 => k p e R s m args below meth c Q C H locs m9 h1 h2 h3 h4 (zL_set (x := .int v) h9 hk))
theorem z_iadd {l : Launch} {g : zG} {d z0 z1 : Nat} {M : zM} {pc pn : Nat} {ls st : List Value} {σ : zS} {K : Option Value → zS → Prop} {x y : Int32} (hd : decode M.2.1 pc = .ok (.iadd, 1)) (hn : pc + 1 = pn) (k : zAt l g d z0 z1 M pn ls (.int (x + y) :: st) σ K) : zAt l g d z0 z1 M pc ls (.int y :: .int x :: st) σ K := by
  subst hn
  intro p e R s m args below meth c Q C H locs mls h1 h2 h3 h4 h5
  exact lv_iadd C.1 C.2.1 hd (k p e R s m args below meth c Q C H locs mls h1 h2 h3 h4 h5)
theorem z_isub {l : Launch} {g : zG} {d z0 z1 : Nat} {M : zM} {pc pn : Nat} {ls st : List Value} {σ : zS} {K : Option Value → zS → Prop} {x y : Int32} (hd : decode M.2.1 pc = .ok (.isub, 1)) (hn : pc + 1 = pn) (k : zAt l g d z0 z1 M pn ls (.int (x - y) :: st) σ K) : zAt l g d z0 z1 M pc ls (.int y :: .int x :: st) σ K := by
  subst hn
  intro p e R s m args below meth c Q C H locs mls h1 h2 h3 h4 h5
  exact lv_isub C.1 C.2.1 hd (k p e R s m args below meth c Q C H locs mls h1 h2 h3 h4 h5)
theorem z_imul {l : Launch} {g : zG} {d z0 z1 : Nat} {M : zM} {pc pn : Nat} {ls st : List Value} {σ : zS} {K : Option Value → zS → Prop} {x y : Int32} (hd : decode M.2.1 pc = .ok (.imul, 1)) (hn : pc + 1 = pn) (k : zAt l g d z0 z1 M pn ls (.int (x * y) :: st) σ K) : zAt l g d z0 z1 M pc ls (.int y :: .int x :: st) σ K := by
  subst hn
  intro p e R s m args below meth c Q C H locs mls h1 h2 h3 h4 h5
  exact lv_imul C.1 C.2.1 hd (k p e R s m args below meth c Q C H locs mls h1 h2 h3 h4 h5)
theorem z_iand {l : Launch} {g : zG} {d z0 z1 : Nat} {M : zM} {pc pn : Nat} {ls st : List Value} {σ : zS} {K : Option Value → zS → Prop} {x y : Int32} (hd : decode M.2.1 pc = .ok (.iand, 1)) (hn : pc + 1 = pn) (k : zAt l g d z0 z1 M pn ls (.int (x &&& y) :: st) σ K) : zAt l g d z0 z1 M pc ls (.int y :: .int x :: st) σ K := by
  subst hn
  intro p e R s m args below meth c Q C H locs mls h1 h2 h3 h4 h5
  exact lv_iand C.1 C.2.1 hd (k p e R s m args below meth c Q C H locs mls h1 h2 h3 h4 h5)
theorem z_ior {l : Launch} {g : zG} {d z0 z1 : Nat} {M : zM} {pc pn : Nat} {ls st : List Value} {σ : zS} {K : Option Value → zS → Prop} {x y : Int32} (hd : decode M.2.1 pc = .ok (.ior, 1)) (hn : pc + 1 = pn) (k : zAt l g d z0 z1 M pn ls (.int (x ||| y) :: st) σ K) : zAt l g d z0 z1 M pc ls (.int y :: .int x :: st) σ K := by
  subst hn
  intro p e R s m args below meth c Q C H locs mls h1 h2 h3 h4 h5
  exact lv_ior C.1 C.2.1 hd (k p e R s m args below meth c Q C H locs mls h1 h2 h3 h4 h5)
theorem z_ixor {l : Launch} {g : zG} {d z0 z1 : Nat} {M : zM} {pc pn : Nat} {ls st : List Value} {σ : zS} {K : Option Value → zS → Prop} {x y : Int32} (hd : decode M.2.1 pc = .ok (.ixor, 1)) (hn : pc + 1 = pn) (k : zAt l g d z0 z1 M pn ls (.int (x ^^^ y) :: st) σ K) : zAt l g d z0 z1 M pc ls (.int y :: .int x :: st) σ K := by
  subst hn
  intro p e R s m args below meth c Q C H locs mls h1 h2 h3 h4 h5
  exact lv_ixor C.1 C.2.1 hd (k p e R s m args below meth c Q C H locs mls h1 h2 h3 h4 h5)
theorem z_idiv {l : Launch} {g : zG} {d z0 z1 : Nat} {M : zM} {pc pn : Nat} {ls st : List Value} {σ : zS} {K : Option Value → zS → Prop} {x y : Int32} (hd : decode M.2.1 pc = .ok (.idiv, 1)) (hne : ¬ y = 0) (hn : pc + 1 = pn) (k : zAt l g d z0 z1 M pn ls (.int (x / y) :: st) σ K) : zAt l g d z0 z1 M pc ls (.int y :: .int x :: st) σ K := by
  subst hn
  intro p e R s m args below meth c Q C H locs mls h1 h2 h3 h4 h5
  exact lv_idiv C.1 C.2.1 hd hne (k p e R s m args below meth c Q C H locs mls h1 h2 h3 h4 h5)
theorem z_irem {l : Launch} {g : zG} {d z0 z1 : Nat} {M : zM} {pc pn : Nat} {ls st : List Value} {σ : zS} {K : Option Value → zS → Prop} {x y : Int32} (hd : decode M.2.1 pc = .ok (.irem, 1)) (hne : ¬ y = 0) (hn : pc + 1 = pn) (k : zAt l g d z0 z1 M pn ls (.int (x % y) :: st) σ K) : zAt l g d z0 z1 M pc ls (.int y :: .int x :: st) σ K := by
  subst hn
  intro p e R s m args below meth c Q C H locs mls h1 h2 h3 h4 h5
  exact lv_irem C.1 C.2.1 hd hne (by rw [zrem_eq]; exact (k p e R s m args below meth c Q C H locs mls h1 h2 h3 h4 h5))
theorem z_ishl {l : Launch} {g : zG} {d z0 z1 : Nat} {M : zM} {pc pn : Nat} {ls st : List Value} {σ : zS} {K : Option Value → zS → Prop} {x y : Int32} (hd : decode M.2.1 pc = .ok (.ishl, 1)) (hn : pc + 1 = pn) (k : zAt l g d z0 z1 M pn ls (.int (x <<< (y &&& 31)) :: st) σ K) : zAt l g d z0 z1 M pc ls (.int y :: .int x :: st) σ K := by
  subst hn
  intro p e R s m args below meth c Q C H locs mls h1 h2 h3 h4 h5
  exact lv_ishl C.1 C.2.1 hd (k p e R s m args below meth c Q C H locs mls h1 h2 h3 h4 h5)
theorem z_ishr {l : Launch} {g : zG} {d z0 z1 : Nat} {M : zM} {pc pn : Nat} {ls st : List Value} {σ : zS} {K : Option Value → zS → Prop} {x y : Int32} (hd : decode M.2.1 pc = .ok (.ishr, 1)) (hn : pc + 1 = pn) (k : zAt l g d z0 z1 M pn ls (.int (x >>> (y &&& 31)) :: st) σ K) : zAt l g d z0 z1 M pc ls (.int y :: .int x :: st) σ K := by
  subst hn
  intro p e R s m args below meth c Q C H locs mls h1 h2 h3 h4 h5
  exact lv_ishr C.1 C.2.1 hd (k p e R s m args below meth c Q C H locs mls h1 h2 h3 h4 h5)
theorem z_iushr {l : Launch} {g : zG} {d z0 z1 : Nat} {M : zM} {pc pn : Nat} {ls st : List Value} {σ : zS} {K : Option Value → zS → Prop} {x y : Int32} (hd : decode M.2.1 pc = .ok (.iushr, 1)) (hn : pc + 1 = pn) (k : zAt l g d z0 z1 M pn ls (.int (zushr x y) :: st) σ K) : zAt l g d z0 z1 M pc ls (.int y :: .int x :: st) σ K := by
  subst hn
  intro p e R s m args below meth c Q C H locs mls h1 h2 h3 h4 h5
  exact lv_iushr C.1 C.2.1 hd rfl (k p e R s m args below meth c Q C H locs mls h1 h2 h3 h4 h5)
theorem z_ineg {l : Launch} {g : zG} {d z0 z1 : Nat} {M : zM} {pc pn : Nat} {ls st : List Value} {σ : zS} {K : Option Value → zS → Prop} {x : Int32} (hd : decode M.2.1 pc = .ok (.ineg, 1)) (hn : pc + 1 = pn) (k : zAt l g d z0 z1 M pn ls (.int (-x) :: st) σ K) : zAt l g d z0 z1 M pc ls (.int x :: st) σ K := by
  subst hn
  intro p e R s m args below meth c Q C H locs mls h1 h2 h3 h4 h5
  exact lv_ineg C.1 C.2.1 hd (k p e R s m args below meth c Q C H locs mls h1 h2 h3 h4 h5)
theorem z_ladd {l : Launch} {g : zG} {d z0 z1 : Nat} {M : zM} {pc pn : Nat} {ls st : List Value} {σ : zS} {K : Option Value → zS → Prop} {x y : Int64} (hd : decode M.2.1 pc = .ok (.ladd, 1)) (hn : pc + 1 = pn) (k : zAt l g d z0 z1 M pn ls (.long (x + y) :: st) σ K) : zAt l g d z0 z1 M pc ls (.long y :: .long x :: st) σ K := by
  subst hn
  intro p e R s m args below meth c Q C H locs mls h1 h2 h3 h4 h5
  exact lv_ladd C.1 C.2.1 hd (k p e R s m args below meth c Q C H locs mls h1 h2 h3 h4 h5)
theorem z_lsub {l : Launch} {g : zG} {d z0 z1 : Nat} {M : zM} {pc pn : Nat} {ls st : List Value} {σ : zS} {K : Option Value → zS → Prop} {x y : Int64} (hd : decode M.2.1 pc = .ok (.lsub, 1)) (hn : pc + 1 = pn) (k : zAt l g d z0 z1 M pn ls (.long (x - y) :: st) σ K) : zAt l g d z0 z1 M pc ls (.long y :: .long x :: st) σ K := by
  subst hn
  intro p e R s m args below meth c Q C H locs mls h1 h2 h3 h4 h5
  exact lv_lsub C.1 C.2.1 hd (k p e R s m args below meth c Q C H locs mls h1 h2 h3 h4 h5)
theorem z_lmul {l : Launch} {g : zG} {d z0 z1 : Nat} {M : zM} {pc pn : Nat} {ls st : List Value} {σ : zS} {K : Option Value → zS → Prop} {x y : Int64} (hd : decode M.2.1 pc = .ok (.lmul, 1)) (hn : pc + 1 = pn) (k : zAt l g d z0 z1 M pn ls (.long (x * y) :: st) σ K) : zAt l g d z0 z1 M pc ls (.long y :: .long x :: st) σ K := by
  subst hn
  intro p e R s m args below meth c Q C H locs mls h1 h2 h3 h4 h5
  exact lv_lmul C.1 C.2.1 hd (k p e R s m args below meth c Q C H locs mls h1 h2 h3 h4 h5)
theorem z_land {l : Launch} {g : zG} {d z0 z1 : Nat} {M : zM} {pc pn : Nat} {ls st : List Value} {σ : zS} {K : Option Value → zS → Prop} {x y : Int64} (hd : decode M.2.1 pc = .ok (.land, 1)) (hn : pc + 1 = pn) (k : zAt l g d z0 z1 M pn ls (.long (x &&& y) :: st) σ K) : zAt l g d z0 z1 M pc ls (.long y :: .long x :: st) σ K := by
  subst hn
  intro p e R s m args below meth c Q C H locs mls h1 h2 h3 h4 h5
  exact lv_land C.1 C.2.1 hd (k p e R s m args below meth c Q C H locs mls h1 h2 h3 h4 h5)
theorem z_ldiv {l : Launch} {g : zG} {d z0 z1 : Nat} {M : zM} {pc pn : Nat} {ls st : List Value} {σ : zS} {K : Option Value → zS → Prop} {x y : Int64} (hd : decode M.2.1 pc = .ok (.ldiv, 1)) (hne : ¬ y = 0) (hn : pc + 1 = pn) (k : zAt l g d z0 z1 M pn ls (.long (x / y) :: st) σ K) : zAt l g d z0 z1 M pc ls (.long y :: .long x :: st) σ K := by
  subst hn
  intro p e R s m args below meth c Q C H locs mls h1 h2 h3 h4 h5
  exact lv_ldiv C.1 C.2.1 hd hne (k p e R s m args below meth c Q C H locs mls h1 h2 h3 h4 h5)
theorem z_lrem {l : Launch} {g : zG} {d z0 z1 : Nat} {M : zM} {pc pn : Nat} {ls st : List Value} {σ : zS} {K : Option Value → zS → Prop} {x y : Int64} (hd : decode M.2.1 pc = .ok (.lrem, 1)) (hne : ¬ y = 0) (hn : pc + 1 = pn) (k : zAt l g d z0 z1 M pn ls (.long (x % y) :: st) σ K) : zAt l g d z0 z1 M pc ls (.long y :: .long x :: st) σ K := by
  subst hn
  intro p e R s m args below meth c Q C H locs mls h1 h2 h3 h4 h5
  exact lv_lrem C.1 C.2.1 hd hne (by rw [zrem_eqL]; exact (k p e R s m args below meth c Q C H locs mls h1 h2 h3 h4 h5))
theorem z_i2l {l : Launch} {g : zG} {d z0 z1 : Nat} {M : zM} {pc pn : Nat} {ls st : List Value} {σ : zS} {K : Option Value → zS → Prop} {x : Int32} (hd : decode M.2.1 pc = .ok (.i2l, 1)) (hn : pc + 1 = pn) (k : zAt l g d z0 z1 M pn ls (.long x.toInt64 :: st) σ K) : zAt l g d z0 z1 M pc ls (.int x :: st) σ K := by
  subst hn
  intro p e R s m args below meth c Q C H locs mls h1 h2 h3 h4 h5
  exact lv_i2l C.1 C.2.1 hd rfl (k p e R s m args below meth c Q C H locs mls h1 h2 h3 h4 h5)
theorem z_l2i {l : Launch} {g : zG} {d z0 z1 : Nat} {M : zM} {pc pn : Nat} {ls st : List Value} {σ : zS} {K : Option Value → zS → Prop} {x : Int64} (hd : decode M.2.1 pc = .ok (.l2i, 1)) (hn : pc + 1 = pn) (k : zAt l g d z0 z1 M pn ls (.int x.toInt32 :: st) σ K) : zAt l g d z0 z1 M pc ls (.long x :: st) σ K := by
  subst hn
  intro p e R s m args below meth c Q C H locs mls h1 h2 h3 h4 h5
  exact lv_l2i C.1 C.2.1 hd rfl (k p e R s m args below meth c Q C H locs mls h1 h2 h3 h4 h5)
theorem z_i2b {l : Launch} {g : zG} {d z0 z1 : Nat} {M : zM} {pc pn : Nat} {ls st : List Value} {σ : zS} {K : Option Value → zS → Prop} {x : Int32} (hd : decode M.2.1 pc = .ok (.i2b, 1)) (hn : pc + 1 = pn) (k : zAt l g d z0 z1 M pn ls (.int x.toInt8.toInt32 :: st) σ K) : zAt l g d z0 z1 M pc ls (.int x :: st) σ K := by
  subst hn
  intro p e R s m args below meth c Q C H locs mls h1 h2 h3 h4 h5
  exact lv_i2b C.1 C.2.1 hd rfl (k p e R s m args below meth c Q C H locs mls h1 h2 h3 h4 h5)
theorem z_i2c {l : Launch} {g : zG} {d z0 z1 : Nat} {M : zM} {pc pn : Nat} {ls st : List Value} {σ : zS} {K : Option Value → zS → Prop} {x : Int32} (hd : decode M.2.1 pc = .ok (.i2c, 1)) (hn : pc + 1 = pn) (k : zAt l g d z0 z1 M pn ls (.int (x.toUInt32 % 65536).toInt32 :: st) σ K) : zAt l g d z0 z1 M pc ls (.int x :: st) σ K := by
  subst hn
  intro p e R s m args below meth c Q C H locs mls h1 h2 h3 h4 h5
  exact lv_i2c C.1 C.2.1 hd rfl (k p e R s m args below meth c Q C H locs mls h1 h2 h3 h4 h5)
theorem z_lcmp {l : Launch} {g : zG} {d z0 z1 : Nat} {M : zM} {pc pn : Nat} {ls st : List Value} {σ : zS} {K : Option Value → zS → Prop} {x y : Int64} (hd : decode M.2.1 pc = .ok (.lcmp, 1)) (hn : pc + 1 = pn) (k : zAt l g d z0 z1 M pn ls (.int (lg_cmp x y) :: st) σ K) : zAt l g d z0 z1 M pc ls (.long y :: .long x :: st) σ K := by
  subst hn
  intro p e R s m args below meth c Q C H locs mls h1 h2 h3 h4 h5
  exact W.lcmp C.1 C.2.1 hd (k p e R s m args below meth c Q C H locs mls h1 h2 h3 h4 h5)
theorem z_dup {l : Launch} {g : zG} {d z0 z1 : Nat} {M : zM} {pc pn : Nat} {ls st : List Value} {σ : zS} {K : Option Value → zS → Prop} {a : Value} (hd : decode M.2.1 pc = .ok (.dup, 1)) (ha : a.category = 1) (hn : pc + 1 = pn) (k : zAt l g d z0 z1 M pn ls (a :: a :: st) σ K) : zAt l g d z0 z1 M pc ls (a :: st) σ K := by
  subst hn
  intro p e R s m args below meth c Q C H locs mls h1 h2 h3 h4 h5
  exact lv_dup C.1 C.2.1 hd ((zmv_cat g a).trans ha) (k p e R s m args below meth c Q C H locs mls h1 h2 h3 h4 h5)
theorem z_dup_x1 {l : Launch} {g : zG} {d z0 z1 : Nat} {M : zM} {pc pn : Nat} {ls st : List Value} {σ : zS} {K : Option Value → zS → Prop} {a b : Value} (hd : decode M.2.1 pc = .ok (.dup_x1, 1)) (ha : a.category = 1) (hb : b.category = 1) (hn : pc + 1 = pn) (k : zAt l g d z0 z1 M pn ls (a :: b :: a :: st) σ K) : zAt l g d z0 z1 M pc ls (a :: b :: st) σ K := by
  subst hn
  intro p e R s m args below meth c Q C H locs mls h1 h2 h3 h4 h5
  exact lv_dup_x1 C.1 C.2.1 hd ((zmv_cat g a).trans ha) ((zmv_cat g b).trans hb) (k p e R s m args below meth c Q C H locs mls h1 h2 h3 h4 h5)
theorem z_dup2 {l : Launch} {g : zG} {d z0 z1 : Nat} {M : zM} {pc pn : Nat} {ls st : List Value} {σ : zS} {K : Option Value → zS → Prop} {a b : Value} (hd : decode M.2.1 pc = .ok (.dup2, 1)) (ha : a.category = 1) (hb : b.category = 1) (hn : pc + 1 = pn) (k : zAt l g d z0 z1 M pn ls (a :: b :: a :: b :: st) σ K) : zAt l g d z0 z1 M pc ls (a :: b :: st) σ K := by
  subst hn
  intro p e R s m args below meth c Q C H locs mls h1 h2 h3 h4 h5
  exact lv_dup2_11 C.1 C.2.1 hd ((zmv_cat g a).trans ha) ((zmv_cat g b).trans hb) (k p e R s m args below meth c Q C H locs mls h1 h2 h3 h4 h5)
theorem z_goto {l : Launch} {g : zG} {d z0 z1 : Nat} {M : zM} {pc pn : Nat} {ls st : List Value} {σ : zS} {K : Option Value → zS → Prop} {off : Int} (hd : decode M.2.1 pc = .ok (.goto off, 3)) (hn : (pc : Int) + off = (pn : Int)) (k : zAt l g d z0 z1 M pn ls st σ K) : zAt l g d z0 z1 M pc ls st σ K := by
  intro p e R s m args below meth c Q C H locs mls h1 h2 h3 h4 h5
  exact lv_goto C.1 C.2.1 hd hn (k p e R s m args below meth c Q C H locs mls h1 h2 h3 h4 h5)
theorem z_if_eq {l : Launch} {g : zG} {d z0 z1 : Nat} {M : zM} {pc pn : Nat} {ls st : List Value} {σ : zS} {K : Option Value → zS → Prop} {x : Int32} {off : Int} {pt : Nat} (hd : decode M.2.1 pc = .ok (.ifCond .eq off, 3)) (ht : (pc : Int) + off = (pt : Int)) (hn : pc + 3 = pn) (kt : x = 0 → zAt l g d z0 z1 M pt ls st σ K) (kf : ¬ (x = 0) → zAt l g d z0 z1 M pn ls st σ K) : zAt l g d z0 z1 M pc ls (.int x :: st) σ K := by
  subst hn
  intro p e R s m args below meth c Q C H locs mls h1 h2 h3 h4 h5
  exact lv_if_eq C.1 C.2.1 hd ht (fun h => kt h p e R s m args below meth c Q C H locs mls h1 h2 h3 h4 h5) (fun h => kf h p e R s m args below meth c Q C H locs mls h1 h2 h3 h4 h5)
theorem z_icmp_eq {l : Launch} {g : zG} {d z0 z1 : Nat} {M : zM} {pc pn : Nat} {ls st : List Value} {σ : zS} {K : Option Value → zS → Prop} {x y : Int32} {off : Int} {pt : Nat} (hd : decode M.2.1 pc = .ok (.if_icmp .eq off, 3)) (ht : (pc : Int) + off = (pt : Int)) (hn : pc + 3 = pn) (kt : x = y → zAt l g d z0 z1 M pt ls st σ K) (kf : ¬ (x = y) → zAt l g d z0 z1 M pn ls st σ K) : zAt l g d z0 z1 M pc ls (.int y :: .int x :: st) σ K := by
  subst hn
  intro p e R s m args below meth c Q C H locs mls h1 h2 h3 h4 h5
  exact lv_icmp_eq C.1 C.2.1 hd ht (fun h => kt h p e R s m args below meth c Q C H locs mls h1 h2 h3 h4 h5) (fun h => kf h p e R s m args below meth c Q C H locs mls h1 h2 h3 h4 h5)
theorem z_if_ne {l : Launch} {g : zG} {d z0 z1 : Nat} {M : zM} {pc pn : Nat} {ls st : List Value} {σ : zS} {K : Option Value → zS → Prop} {x : Int32} {off : Int} {pt : Nat} (hd : decode M.2.1 pc = .ok (.ifCond .ne off, 3)) (ht : (pc : Int) + off = (pt : Int)) (hn : pc + 3 = pn) (kt : ¬ x = 0 → zAt l g d z0 z1 M pt ls st σ K) (kf : x = 0 → zAt l g d z0 z1 M pn ls st σ K) : zAt l g d z0 z1 M pc ls (.int x :: st) σ K := by
  subst hn
  intro p e R s m args below meth c Q C H locs mls h1 h2 h3 h4 h5
  exact lv_if_ne C.1 C.2.1 hd ht (fun h => kt h p e R s m args below meth c Q C H locs mls h1 h2 h3 h4 h5) (fun h => kf h p e R s m args below meth c Q C H locs mls h1 h2 h3 h4 h5)
theorem z_icmp_ne {l : Launch} {g : zG} {d z0 z1 : Nat} {M : zM} {pc pn : Nat} {ls st : List Value} {σ : zS} {K : Option Value → zS → Prop} {x y : Int32} {off : Int} {pt : Nat} (hd : decode M.2.1 pc = .ok (.if_icmp .ne off, 3)) (ht : (pc : Int) + off = (pt : Int)) (hn : pc + 3 = pn) (kt : ¬ x = y → zAt l g d z0 z1 M pt ls st σ K) (kf : x = y → zAt l g d z0 z1 M pn ls st σ K) : zAt l g d z0 z1 M pc ls (.int y :: .int x :: st) σ K := by
  subst hn
  intro p e R s m args below meth c Q C H locs mls h1 h2 h3 h4 h5
  exact lv_icmp_ne C.1 C.2.1 hd ht (fun h => kt h p e R s m args below meth c Q C H locs mls h1 h2 h3 h4 h5) (fun h => kf h p e R s m args below meth c Q C H locs mls h1 h2 h3 h4 h5)
theorem z_if_lt {l : Launch} {g : zG} {d z0 z1 : Nat} {M : zM} {pc pn : Nat} {ls st : List Value} {σ : zS} {K : Option Value → zS → Prop} {x : Int32} {off : Int} {pt : Nat} (hd : decode M.2.1 pc = .ok (.ifCond .lt off, 3)) (ht : (pc : Int) + off = (pt : Int)) (hn : pc + 3 = pn) (kt : x < 0 → zAt l g d z0 z1 M pt ls st σ K) (kf : ¬ (x < 0) → zAt l g d z0 z1 M pn ls st σ K) : zAt l g d z0 z1 M pc ls (.int x :: st) σ K := by
  subst hn
  intro p e R s m args below meth c Q C H locs mls h1 h2 h3 h4 h5
  exact lv_if_lt C.1 C.2.1 hd ht (fun h => kt h p e R s m args below meth c Q C H locs mls h1 h2 h3 h4 h5) (fun h => kf h p e R s m args below meth c Q C H locs mls h1 h2 h3 h4 h5)
theorem z_icmp_lt {l : Launch} {g : zG} {d z0 z1 : Nat} {M : zM} {pc pn : Nat} {ls st : List Value} {σ : zS} {K : Option Value → zS → Prop} {x y : Int32} {off : Int} {pt : Nat} (hd : decode M.2.1 pc = .ok (.if_icmp .lt off, 3)) (ht : (pc : Int) + off = (pt : Int)) (hn : pc + 3 = pn) (kt : x < y → zAt l g d z0 z1 M pt ls st σ K) (kf : ¬ (x < y) → zAt l g d z0 z1 M pn ls st σ K) : zAt l g d z0 z1 M pc ls (.int y :: .int x :: st) σ K := by
  subst hn
  intro p e R s m args below meth c Q C H locs mls h1 h2 h3 h4 h5
  exact lv_icmp_lt C.1 C.2.1 hd ht (fun h => kt h p e R s m args below meth c Q C H locs mls h1 h2 h3 h4 h5) (fun h => kf h p e R s m args below meth c Q C H locs mls h1 h2 h3 h4 h5)
theorem z_if_ge {l : Launch} {g : zG} {d z0 z1 : Nat} {M : zM} {pc pn : Nat} {ls st : List Value} {σ : zS} {K : Option Value → zS → Prop} {x : Int32} {off : Int} {pt : Nat} (hd : decode M.2.1 pc = .ok (.ifCond .ge off, 3)) (ht : (pc : Int) + off = (pt : Int)) (hn : pc + 3 = pn) (kt : 0 ≤ x → zAt l g d z0 z1 M pt ls st σ K) (kf : ¬ (0 ≤ x) → zAt l g d z0 z1 M pn ls st σ K) : zAt l g d z0 z1 M pc ls (.int x :: st) σ K := by
  subst hn
  intro p e R s m args below meth c Q C H locs mls h1 h2 h3 h4 h5
  exact lv_if_ge C.1 C.2.1 hd ht (fun h => kt h p e R s m args below meth c Q C H locs mls h1 h2 h3 h4 h5) (fun h => kf h p e R s m args below meth c Q C H locs mls h1 h2 h3 h4 h5)
theorem z_icmp_ge {l : Launch} {g : zG} {d z0 z1 : Nat} {M : zM} {pc pn : Nat} {ls st : List Value} {σ : zS} {K : Option Value → zS → Prop} {x y : Int32} {off : Int} {pt : Nat} (hd : decode M.2.1 pc = .ok (.if_icmp .ge off, 3)) (ht : (pc : Int) + off = (pt : Int)) (hn : pc + 3 = pn) (kt : y ≤ x → zAt l g d z0 z1 M pt ls st σ K) (kf : ¬ (y ≤ x) → zAt l g d z0 z1 M pn ls st σ K) : zAt l g d z0 z1 M pc ls (.int y :: .int x :: st) σ K := by
  subst hn
  intro p e R s m args below meth c Q C H locs mls h1 h2 h3 h4 h5
  exact lv_icmp_ge C.1 C.2.1 hd ht (fun h => kt h p e R s m args below meth c Q C H locs mls h1 h2 h3 h4 h5) (fun h => kf h p e R s m args below meth c Q C H locs mls h1 h2 h3 h4 h5)
theorem z_if_gt {l : Launch} {g : zG} {d z0 z1 : Nat} {M : zM} {pc pn : Nat} {ls st : List Value} {σ : zS} {K : Option Value → zS → Prop} {x : Int32} {off : Int} {pt : Nat} (hd : decode M.2.1 pc = .ok (.ifCond .gt off, 3)) (ht : (pc : Int) + off = (pt : Int)) (hn : pc + 3 = pn) (kt : 0 < x → zAt l g d z0 z1 M pt ls st σ K) (kf : ¬ (0 < x) → zAt l g d z0 z1 M pn ls st σ K) : zAt l g d z0 z1 M pc ls (.int x :: st) σ K := by
  subst hn
  intro p e R s m args below meth c Q C H locs mls h1 h2 h3 h4 h5
  exact lv_if_gt C.1 C.2.1 hd ht (fun h => kt h p e R s m args below meth c Q C H locs mls h1 h2 h3 h4 h5) (fun h => kf h p e R s m args below meth c Q C H locs mls h1 h2 h3 h4 h5)
theorem z_icmp_gt {l : Launch} {g : zG} {d z0 z1 : Nat} {M : zM} {pc pn : Nat} {ls st : List Value} {σ : zS} {K : Option Value → zS → Prop} {x y : Int32} {off : Int} {pt : Nat} (hd : decode M.2.1 pc = .ok (.if_icmp .gt off, 3)) (ht : (pc : Int) + off = (pt : Int)) (hn : pc + 3 = pn) (kt : y < x → zAt l g d z0 z1 M pt ls st σ K) (kf : ¬ (y < x) → zAt l g d z0 z1 M pn ls st σ K) : zAt l g d z0 z1 M pc ls (.int y :: .int x :: st) σ K := by
  subst hn
  intro p e R s m args below meth c Q C H locs mls h1 h2 h3 h4 h5
  exact lv_icmp_gt C.1 C.2.1 hd ht (fun h => kt h p e R s m args below meth c Q C H locs mls h1 h2 h3 h4 h5) (fun h => kf h p e R s m args below meth c Q C H locs mls h1 h2 h3 h4 h5)
theorem z_if_le {l : Launch} {g : zG} {d z0 z1 : Nat} {M : zM} {pc pn : Nat} {ls st : List Value} {σ : zS} {K : Option Value → zS → Prop} {x : Int32} {off : Int} {pt : Nat} (hd : decode M.2.1 pc = .ok (.ifCond .le off, 3)) (ht : (pc : Int) + off = (pt : Int)) (hn : pc + 3 = pn) (kt : x ≤ 0 → zAt l g d z0 z1 M pt ls st σ K) (kf : ¬ (x ≤ 0) → zAt l g d z0 z1 M pn ls st σ K) : zAt l g d z0 z1 M pc ls (.int x :: st) σ K := by
  subst hn
  intro p e R s m args below meth c Q C H locs mls h1 h2 h3 h4 h5
  exact lv_if_le C.1 C.2.1 hd ht (fun h => kt h p e R s m args below meth c Q C H locs mls h1 h2 h3 h4 h5) (fun h => kf h p e R s m args below meth c Q C H locs mls h1 h2 h3 h4 h5)
theorem z_icmp_le {l : Launch} {g : zG} {d z0 z1 : Nat} {M : zM} {pc pn : Nat} {ls st : List Value} {σ : zS} {K : Option Value → zS → Prop} {x y : Int32} {off : Int} {pt : Nat} (hd : decode M.2.1 pc = .ok (.if_icmp .le off, 3)) (ht : (pc : Int) + off = (pt : Int)) (hn : pc + 3 = pn) (kt : x ≤ y → zAt l g d z0 z1 M pt ls st σ K) (kf : ¬ (x ≤ y) → zAt l g d z0 z1 M pn ls st σ K) : zAt l g d z0 z1 M pc ls (.int y :: .int x :: st) σ K := by
  subst hn
  intro p e R s m args below meth c Q C H locs mls h1 h2 h3 h4 h5
  exact lv_icmp_le C.1 C.2.1 hd ht (fun h => kt h p e R s m args below meth c Q C H locs mls h1 h2 h3 h4 h5) (fun h => kf h p e R s m args below meth c Q C H locs mls h1 h2 h3 h4 h5)
theorem z_ldc {l : Launch} {g : zG} {d z0 z1 : Nat} {M : zM} {pc pn : Nat} {ls st : List Value} {σ : zS} {K : Option Value → zS → Prop} {i : Nat} {v : Int32} (hq : Cond.constant M.1.cls i v ∈ lw_g) (hd : decode M.2.1 pc = .ok (.ldc i, 2)) (hn : pc + 2 = pn) (k : zAt l g d z0 z1 M pn ls (.int v :: st) σ K) : zAt l g d z0 z1 M pc ls st σ K := by
  subst hn
  intro p e R s m args below meth c Q C H locs mls h1 h2 h3 h4 h5
  exact lv_ldc C.1 C.2.1 C.2.2.2.2.1 (C.2.2.2.1 _ hq) hd (k p e R s m args below meth c Q C H locs mls h1 h2 h3 h4 h5)
theorem z_ldc_w {l : Launch} {g : zG} {d z0 z1 : Nat} {M : zM} {pc pn : Nat} {ls st : List Value} {σ : zS} {K : Option Value → zS → Prop} {i : Nat} {v : Int32} (hq : Cond.constant M.1.cls i v ∈ lw_g) (hd : decode M.2.1 pc = .ok (.ldc_w i, 3)) (hn : pc + 3 = pn) (k : zAt l g d z0 z1 M pn ls (.int v :: st) σ K) : zAt l g d z0 z1 M pc ls st σ K := by
  subst hn
  intro p e R s m args below meth c Q C H locs mls h1 h2 h3 h4 h5
  exact lv_ldcw C.1 C.2.1 C.2.2.2.2.1 (C.2.2.2.1 _ hq) hd (k p e R s m args below meth c Q C H locs mls h1 h2 h3 h4 h5)
theorem z_ldc2 {l : Launch} {g : zG} {d z0 z1 : Nat} {M : zM} {pc pn : Nat} {ls st : List Value} {σ : zS} {K : Option Value → zS → Prop} {i : Nat} {v : Int64} (hq : Cond.constantLong M.1.cls i v ∈ lw_g) (hd : decode M.2.1 pc = .ok (.ldc2_w i, 3)) (hn : pc + 3 = pn) (k : zAt l g d z0 z1 M pn ls (.long v :: st) σ K) : zAt l g d z0 z1 M pc ls st σ K := by
  subst hn
  intro p e R s m args below meth c Q C H locs mls h1 h2 h3 h4 h5
  exact lv_ldc2 C.1 C.2.1 C.2.2.2.2.1 (C.2.2.2.1 _ hq) hd (k p e R s m args below meth c Q C H locs mls h1 h2 h3 h4 h5)
theorem z_tableIn {l : Launch} {g : zG} {d z0 z1 : Nat} {M : zM} {pc : Nat} {ls st : List Value} {σ : zS} {K : Option Value → zS → Prop} {df lo hi : Int} {offs : Array Int} {len pt : Nat} {x : Int32} {off : Int} (hd : decode M.2.1 pc = .ok (.tableswitch df lo hi offs, len)) (a1 : ¬ x.toInt < lo) (a2 : ¬ hi < x.toInt) (ho : offs[(x.toInt - lo).toNat]? = some off) (ht : (pc : Int) + off = (pt : Int)) (k : zAt l g d z0 z1 M pt ls st σ K) : zAt l g d z0 z1 M pc ls (.int x :: st) σ K := by
  intro p e R s m args below meth c Q C H locs mls h1 h2 h3 h4 h5
  exact lv_tableIn C.1 C.2.1 hd a1 a2 ho ht (k p e R s m args below meth c Q C H locs mls h1 h2 h3 h4 h5)
theorem z_tableOut {l : Launch} {g : zG} {d z0 z1 : Nat} {M : zM} {pc : Nat} {ls st : List Value} {σ : zS} {K : Option Value → zS → Prop} {df lo hi : Int} {offs : Array Int} {len pt : Nat} {x : Int32} (hd : decode M.2.1 pc = .ok (.tableswitch df lo hi offs, len)) (a1 : x.toInt < lo ∨ hi < x.toInt) (ht : (pc : Int) + df = (pt : Int)) (k : zAt l g d z0 z1 M pt ls st σ K) : zAt l g d z0 z1 M pc ls (.int x :: st) σ K := by
  intro p e R s m args below meth c Q C H locs mls h1 h2 h3 h4 h5
  exact lv_tableOut C.1 C.2.1 hd a1 ht (k p e R s m args below meth c Q C H locs mls h1 h2 h3 h4 h5)
theorem z_lookup {l : Launch} {g : zG} {d z0 z1 : Nat} {M : zM} {pc : Nat} {ls st : List Value} {σ : zS} {K : Option Value → zS → Prop} {df : Int} {ps : Array (Int × Int)} {len pt : Nat} {x : Int32} {off : Int} (hd : decode M.2.1 pc = .ok (.lookupswitch df ps, len)) (hp : (ps.toList.zip (ps.toList.drop 1)).all (fun (a, b) => a.1 < b.1) = true) (ho : Op.lookupswitch.offset ps.toList df x.toInt = off) (ht : (pc : Int) + off = (pt : Int)) (k : zAt l g d z0 z1 M pt ls st σ K) : zAt l g d z0 z1 M pc ls (.int x :: st) σ K := by
  intro p e R s m args below meth c Q C H locs mls h1 h2 h3 h4 h5
  exact lv_lookup C.1 C.2.1 hd hp ho ht (k p e R s m args below meth c Q C H locs mls h1 h2 h3 h4 h5)
end
section
/-! ===== cells: reads ===== -/
section ZD
variable {l : Launch} {g : zG} {d z0 z1 : Nat} {M : zM} {pc pn : Nat} {ls st : List Value} {σ : zS} {K : Option Value → zS → Prop}
def zIs (σ : zS) (z0 c o : Nat) : Prop := zCl c ∧ zk o = c + 1 ∧ 64 ≤ o ∧ (z0 ≤ σ.2.2.2 → o < 64 + σ.2.2.2)
def zAr (σ : zS) (z0 kd n o : Nat) : Prop := zk o = kd ∧ zn o = n ∧ 64 ≤ o ∧ (z0 ≤ σ.2.2.2 → o < 64 + σ.2.2.2)
theorem zCl_lt {c : Nat} (h : zCl c) : c < 9 := (List.getElem?_eq_some_iff.mp h.1).1
theorem zcell_o {c o : Nat} (h : zIs σ z0 c o) : zcell g σ o = .inr (c, zfl g σ o c) := by
  unfold zcell
  have := zCl_lt h.1
  rw [h.2.1, if_pos (by omega), Nat.add_sub_cancel]
theorem zcell_i {kd n o : Nat} (h : zAr σ z0 kd n o) (h1 : 20 ≤ kd) (h2 : kd < 23) : zcell g σ o = .inl (g.2.2.1 kd, n, .inl (σ.1 o)) := by
  unfold zcell
  rw [h.1, h.2.1, if_neg (by omega), if_pos h2]
theorem zcell_r {kd n o : Nat} (h : zAr σ z0 kd n o) (h2 : 23 ≤ kd) : zcell g σ o = .inl (g.2.2.1 kd, n, .inr (.inr (.inr (.inr (fun j => zro g (σ.2.2.1 o j)))))) := by
  unfold zcell
  rw [h.1, h.2.1, if_neg (by omega), if_neg (by omega)]
theorem zP1 {D : va_G} {cl : List vw_C} {q : Nat × va_E} {H : Heap} (h : va_at D cl q H) : va_P D cl [q] H := fun k p hk => by
  cases k with
  | zero => simp at hk; subst hk; exact h
  | succ k => simp at hk
theorem zfl_at (o c k : Nat) (hk : k < zN c) : (zfl g σ o c)[k]? = some (zfv g σ o (ztc (zty c k)) k) := by
  unfold zfl
  rw [List.getElem?_map, List.getElem?_range hk]
  rfl
theorem zfl_len (o c : Nat) : (zfl g σ o c).length = zN c := by simp [zfl]
theorem z_getW {i c k o : Nat} {rest : List Value} {p : Program} {e : Env} {R : Room} {s : State} {m : MethodId} {args : Array Value} {below : List Frame} {meth : Method} {c9 : Code} {Q : State → Prop} (C : zC l g d z0 z1 M K p e R s m args below meth c9 Q) {H : Heap} {locs : List Loc} {mls : Array Slot} {cells slots : Nat}
    (hf : zFk M.1.cls i c k) (hi : zIs σ z0 c o) (hd : decode M.2.1 pc = .ok (.getfield i, 3)) (h1 : zW g σ H) (h2 : z0 ≤ σ.2.2.2)
    (kk : W p l e R s m args below meth c9 H locs cells slots Q (F0 m (pc + 3) mls (zfv g σ o (ztc (zty c k)) k :: rest))) : W p l e R s m args below meth c9 H locs cells slots Q (F0 m pc mls (.ref (zad g o) :: rest)) := by
  have hP := h1.2 o hi.2.2.1 (hi.2.2.2 h2)
  rw [zcell_o hi] at hP
  rcases hf.2 with h | ⟨host, h⟩
  · exact va_get (D := g.2.1) (cl := vwCl) (tys := ztys g) C.1 C.2.1 C.2.2.2.1 hi.1.2.1 C.2.2.2.2.1 C.2.2.2.2.2.2.1.1 (zP1 hP) 0 rfl hi.1.1 k hf.1 (C.2.2.2.1 _ h) (fun _ h9 => h9) (zfl_at o c k hf.1) hd kk
  · have hw : va_Nw (.fieldLinkNest M.1.cls i (zT c k).1 (zT c k).2.1 (zT c k).2.2.1 host) s := C.2.2.2.2.2.2.1.2.1 _ h
    exact va_getN (D := g.2.1) (cl := vwCl) (tys := ztys g) C.1 C.2.1 C.2.2.2.1 hi.1.2.1 C.2.2.2.2.1 C.2.2.2.2.2.2.1.1 (zP1 hP) 0 rfl hi.1.1 k hf.1 (va_Nw.use rfl hw) (fun _ h9 => h9) (zfl_at o c k hf.1) hd kk
theorem z_getI {i c k o : Nat} {x : Int32} (hx : σ.1 o k = x) (hf : zFk M.1.cls i c k) (hi : zIs σ z0 c o) (ht : ztc (zty c k) = 0) (hd : decode M.2.1 pc = .ok (.getfield i, 3)) (hn : pc + 3 = pn) (k9 : zAt l g d z0 z1 M pn ls (.int x :: st) σ K) : zAt l g d z0 z1 M pc ls (.ref o :: st) σ K := by
  subst hn
  subst hx
  intro p e R s m args below meth c9 Q C H locs mls h1 h2 h3 h4 h5
  refine z_getW C hf hi hd h1 h2 ?_
  rw [ht]
  exact k9 p e R s m args below meth c9 Q C H locs mls h1 h2 h3 h4 h5
theorem z_getL {i c k o : Nat} {x : Int64} (hx : σ.2.1 o k = x) (hf : zFk M.1.cls i c k) (hi : zIs σ z0 c o) (ht : ztc (zty c k) = 2) (hd : decode M.2.1 pc = .ok (.getfield i, 3)) (hn : pc + 3 = pn) (k9 : zAt l g d z0 z1 M pn ls (.long x :: st) σ K) : zAt l g d z0 z1 M pc ls (.ref o :: st) σ K := by
  subst hn
  subst hx
  intro p e R s m args below meth c9 Q C H locs mls h1 h2 h3 h4 h5
  refine z_getW C hf hi hd h1 h2 ?_
  rw [ht]
  exact k9 p e R s m args below meth c9 Q C H locs mls h1 h2 h3 h4 h5
theorem z_getR {i c k o q : Nat} (hf : zFk M.1.cls i c k) (hi : zIs σ z0 c o) (ht : ztc (zty c k) = 3) (hq : σ.2.2.1 o k = q) (hq0 : ¬ q = 0) (hd : decode M.2.1 pc = .ok (.getfield i, 3)) (hn : pc + 3 = pn) (k9 : zAt l g d z0 z1 M pn ls (.ref q :: st) σ K) : zAt l g d z0 z1 M pc ls (.ref o :: st) σ K := by
  subst hn
  intro p e R s m args below meth c9 Q C H locs mls h1 h2 h3 h4 h5
  refine z_getW C hf hi hd h1 h2 ?_
  rw [ht]
  have e9 : zfv g σ o 3 k = .ref (zad g q) := by
    unfold zfv
    rw [if_neg (by decide), if_pos rfl, hq]
    unfold zro
    rw [if_neg hq0]
    rfl
  rw [e9]
  exact k9 p e R s m args below meth c9 Q C H locs mls h1 h2 h3 h4 h5
theorem z_iald {n o : Nat} {i x : Int32} (hx : σ.1 o i.toNatClampNeg = x) (ha : zAr σ z0 20 n o) (hin : vp_in i n) (hd : decode M.2.1 pc = .ok (.iaload, 1)) (hn : pc + 1 = pn) (k9 : zAt l g d z0 z1 M pn ls (.int x :: st) σ K) : zAt l g d z0 z1 M pc ls (.int i :: .ref o :: st) σ K := by
  subst hx
  subst hn
  intro p e R s m args below meth c9 Q C H locs mls h1 h2 h3 h4 h5
  have hP := h1.2 o ha.2.2.1 (ha.2.2.2 h2)
  rw [zcell_i ha (by decide) (by decide)] at hP
  exact va_iald (D := g.2.1) (cl := vwCl) (tys := ztys g) C.1 C.2.1 C.2.2.2.2.2.2.1.1 (zP1 hP) 0 0 rfl rfl hin hd (k9 p e R s m args below meth c9 Q C H locs mls h1 h2 h3 h4 h5)
theorem z_bald {n o : Nat} {i x : Int32} (hx : σ.1 o i.toNatClampNeg = x) (ha : zAr σ z0 21 n o) (hin : vp_in i n) (hd : decode M.2.1 pc = .ok (.baload, 1)) (hn : pc + 1 = pn) (k9 : zAt l g d z0 z1 M pn ls (.int x :: st) σ K) : zAt l g d z0 z1 M pc ls (.int i :: .ref o :: st) σ K := by
  subst hx
  subst hn
  intro p e R s m args below meth c9 Q C H locs mls h1 h2 h3 h4 h5
  have hP := h1.2 o ha.2.2.1 (ha.2.2.2 h2)
  rw [zcell_i ha (by decide) (by decide)] at hP
  exact va_bald (D := g.2.1) (cl := vwCl) (tys := ztys g) C.1 C.2.1 C.2.2.2.2.2.2.1.1 (zP1 hP) 0 1 rfl rfl hin hd (k9 p e R s m args below meth c9 Q C H locs mls h1 h2 h3 h4 h5)
theorem z_zald {n o : Nat} {i x : Int32} (hx : σ.1 o i.toNatClampNeg = x) (ha : zAr σ z0 22 n o) (hin : vp_in i n) (hd : decode M.2.1 pc = .ok (.baload, 1)) (hn : pc + 1 = pn) (k9 : zAt l g d z0 z1 M pn ls (.int x :: st) σ K) : zAt l g d z0 z1 M pc ls (.int i :: .ref o :: st) σ K := by
  subst hx
  subst hn
  intro p e R s m args below meth c9 Q C H locs mls h1 h2 h3 h4 h5
  have hP := h1.2 o ha.2.2.1 (ha.2.2.2 h2)
  rw [zcell_i ha (by decide) (by decide)] at hP
  exact va_zald (D := g.2.1) (cl := vwCl) (tys := ztys g) C.1 C.2.1 C.2.2.2.2.2.2.1.1 (zP1 hP) 0 2 rfl rfl hin hd (k9 p e R s m args below meth c9 Q C H locs mls h1 h2 h3 h4 h5)
theorem z_aald {kd n o q : Nat} {i : Int32} (hkd : 23 ≤ kd ∧ kd < 27) (ha : zAr σ z0 kd n o) (hin : vp_in i n) (hq : σ.2.2.1 o i.toNatClampNeg = q) (hq0 : ¬ q = 0) (hd : decode M.2.1 pc = .ok (.aaload, 1)) (hn : pc + 1 = pn) (k9 : zAt l g d z0 z1 M pn ls (.ref q :: st) σ K) : zAt l g d z0 z1 M pc ls (.int i :: .ref o :: st) σ K := by
  subst hn
  intro p e R s m args below meth c9 Q C H locs mls h1 h2 h3 h4 h5
  have hP : H[zad g o]? = some (vp_cell (g.2.2.1 kd) (n, .inr (.inr (.inr (.inr (fun j => zro g (σ.2.2.1 o j))))))) := by
    have := h1.2 o ha.2.2.1 (ha.2.2.2 h2)
    rw [zcell_r ha hkd.1] at this
    exact this
  have hlt : i.toNatClampNeg < n := Nat.not_le.mp fun q => hin (Or.inr q)
  have hty : ∃ ty : FieldType, (ztys g)[kd - 20]? = some (g.2.2.1 kd, ty) ∧ ty.isReference = true := by
    rcases (show kd = 23 ∨ kd = 24 ∨ kd = 25 ∨ kd = 26 by omega) with rfl | rfl | rfl | rfl
    · exact ⟨_, rfl, rfl⟩
    · exact ⟨_, rfl, rfl⟩
    · exact ⟨_, rfl, rfl⟩
    · exact ⟨_, rfl, rfl⟩
  obtain ⟨ty, t1, t2⟩ := hty
  have e9 : va_rf (zro g (σ.2.2.1 o i.toNatClampNeg)) = .ref (zad g q) := by
    rw [hq]
    unfold zro
    rw [if_neg hq0]
    rfl
  have k10 := k9 p e R s m args below meth c9 Q C H locs mls h1 h2 h3 h4 h5
  exact W.aald (v := .ref (zad g q)) (ty := ty) C.1 C.2.1 hP ((C.2.2.2.2.2.2.1.1.2 (kd - 20) _ t1).1 n (fun j => va_rf (zro g (σ.2.2.1 o j)))) t2 (fun q => by cases q) (by show ¬ (i < 0 ∨ (arrV _ _ _).slots.size ≤ _); rw [arrV_size]; exact hin) (by show (arrV _ _ _).slots[_]? = _; rw [arrV_read _ _ hlt, e9]) rfl rfl hd k10
theorem z_alen {kd n o : Nat} {v : Int32} (hkd : 20 ≤ kd ∧ kd < 27) (ha : zAr σ z0 kd n o) (hv : Int32.ofNat n = v) (hd : decode M.2.1 pc = .ok (.arraylength, 1)) (hn : pc + 1 = pn) (k9 : zAt l g d z0 z1 M pn ls (.int v :: st) σ K) : zAt l g d z0 z1 M pc ls (.ref o :: st) σ K := by
  subst hn
  intro p e R s m args below meth c9 Q C H locs mls h1 h2 h3 h4 h5
  have hP := h1.2 o ha.2.2.1 (ha.2.2.2 h2)
  have hty : ∃ ty : FieldType, (ztys g)[kd - 20]? = some (g.2.2.1 kd, ty) := by
    rcases (show kd = 20 ∨ kd = 21 ∨ kd = 22 ∨ kd = 23 ∨ kd = 24 ∨ kd = 25 ∨ kd = 26 by omega) with rfl | rfl | rfl | rfl | rfl | rfl | rfl <;> exact ⟨_, rfl⟩
  obtain ⟨ty, t1⟩ := hty
  by_cases hlt : kd < 23
  · rw [zcell_i ha hkd.1 hlt] at hP
    exact va_alen (D := g.2.1) (cl := vwCl) (tys := ztys g) C.1 C.2.1 C.2.2.2.2.2.2.1.1 (zP1 hP) 0 (kd - 20) rfl t1 hv hd (k9 p e R s m args below meth c9 Q C H locs mls h1 h2 h3 h4 h5)
  · rw [zcell_r ha (by omega)] at hP
    exact va_alen (D := g.2.1) (cl := vwCl) (tys := ztys g) C.1 C.2.1 C.2.2.2.2.2.2.1.1 (zP1 hP) 0 (kd - 20) rfl t1 hv hd (k9 p e R s m args below meth c9 Q C H locs mls h1 h2 h3 h4 h5)
/-! ===== cells: writes ===== -/
theorem zad_inj {a b : Nat} (ha : 64 ≤ a) (hb : 64 ≤ b) (h : zad g a = zad g b) : a = b := by
  unfold zad at h
  rw [if_neg (by omega), if_neg (by omega)] at h
  omega
theorem zW_put {σ' : zS} {H H' : Heap} {o : Nat} (h : zW g σ H) (ho : 64 ≤ o) (hN : σ'.2.2.2 = σ.2.2.2) (hz : H'.size = H.size) (oq : ∀ q : Nat, q ≠ zad g o → H'[q]? = H[q]?) (hc : va_at g.2.1 vwCl (zad g o, zcell g σ' o) H') (he : ∀ p : Nat, p ≠ o → zcell g σ' p = zcell g σ p) : zW g σ' H' := by
  refine ⟨by rw [hz, h.1, hN], fun p h1 h2 => ?_⟩
  by_cases e : p = o
  · subst e; exact hc
  · rw [he p e]
    rw [hN] at h2
    exact (h.2 p h1 h2).kept (oq _ (fun q => e (zad_inj h1 ho q)))
theorem zcell_I {o k : Nat} {v : Int32} {p : Nat} (h : p ≠ o) : zcell g (zI σ o k v) p = zcell g σ p := by
  have e : (zI σ o k v).1 p = σ.1 p := by funext j; simp [zI, h]
  have e2 : ∀ t k2, zfv g (zI σ o k v) p t k2 = zfv g σ p t k2 := by intro t k2; unfold zfv; rw [e]; rfl
  unfold zcell zfl
  rw [e]
  simp only [e2]
  rfl
theorem zcell_L {o k : Nat} {v : Int64} {p : Nat} (h : p ≠ o) : zcell g (zLg σ o k v) p = zcell g σ p := by
  have e : (zLg σ o k v).2.1 p = σ.2.1 p := by funext j; simp [zLg, h]
  have e2 : ∀ t k2, zfv g (zLg σ o k v) p t k2 = zfv g σ p t k2 := by intro t k2; unfold zfv; rw [e]; rfl
  unfold zcell zfl
  simp only [e2]
  rfl
theorem zcell_R {o k : Nat} {v : Nat} {p : Nat} (h : p ≠ o) : zcell g (zRf σ o k v) p = zcell g σ p := by
  have e : (zRf σ o k v).2.2.1 p = σ.2.2.1 p := by funext j; simp [zRf, h]
  have e2 : ∀ t k2, zfv g (zRf σ o k v) p t k2 = zfv g σ p t k2 := by intro t k2; unfold zfv; rw [e]; rfl
  unfold zcell zfl
  simp only [e2]
  rw [e]
  rfl
theorem z_putW {i c k o : Nat} {v : Value} {σ' : zS} {rest : List Value} {p : Program} {e : Env} {R : Room} {s : State} {m : MethodId} {args : Array Value} {below : List Frame} {meth : Method} {c9 : Code} {Q : State → Prop} (C : zC l g d z0 z1 M K p e R s m args below meth c9 Q) {H : Heap} {locs : List Loc} {mls : Array Slot} {cells slots : Nat}
    (hf : zFk M.1.cls i c k) (hi : zIs σ z0 c o) (hfin : (zT c k).2.2.2 = false ∨ ((zT c k).2.2.2 = true ∧ M.1.name = "<init>" ∧ (zT c k).1 = M.1.cls ∧ Cond.fieldLink M.1.cls i (zT c k).1 (zT c k).2.1 (zT c k).2.2.1 ∈ lw_g)) (hnw : narrow (zty c k) v = v) (hft : fits (zty c k) v = true) (hd : decode M.2.1 pc = .ok (.putfield i, 3)) (h1 : zW g σ H) (h2 : z0 ≤ σ.2.2.2) (h4 : va_S (zA g) s.heap H locs)
    (hN : σ'.2.2.2 = σ.2.2.2) (hv : ∀ j, j < zN c → updV (vp_V (zfl g σ o c)) k v j = vp_V (zfl g σ' o c) j) (he : ∀ p : Nat, p ≠ o → zcell g σ' p = zcell g σ p)
    (kk : ∀ (H1 : Heap) (locs1 : List Loc), zW g σ' H1 → va_S (zA g) s.heap H1 locs1 → W p l e R s m args below meth c9 H1 locs1 cells slots Q (F0 m (pc + 3) mls rest)) : W p l e R s m args below meth c9 H locs cells slots Q (F0 m pc mls (v :: .ref (zad g o) :: rest)) := by
  have hP := h1.2 o hi.2.2.1 (hi.2.2.2 h2)
  have hi' : zIs σ' z0 c o := ⟨hi.1, hi.2.1, hi.2.2.1, fun q => by rw [hN] at q ⊢; exact hi.2.2.2 q⟩
  have hA : zA g (zad g o) := by
    unfold zA zad
    rw [if_neg (by have := hi.2.2.1; omega)]
    exact Nat.le_add_right _ _
  rw [zcell_o hi] at hP
  have hK := C.2.2.2.2.2.2.1.1
  have hap := va_apart (own := M.1.cls) C.2.2.2.1 hi.1.2.1 (zty c) hi.1.2.2.1 hi.1.2.2.2 hK hi.1.1
  obtain ⟨r, q0, cell, q1, q2, q3, q4⟩ := hP
  have hr : r = (zRn c, zT c, zN c) := Option.some.inj (q0.symm.trans hi.1.1)
  subst hr
  obtain ⟨hS, hfc, kC, hkC, hkind⟩ := hK.1 c _ hi.1.1
  obtain ⟨cf, kf, fi, f, hi2, hsl⟩ := hS k hf.1
  have hlay := C.2.2.2.1 _ (hi.1.2.1 _ (u_in_lay hf.1))
  have hst := (u_facts hfc hkC (u_lays C.2.2.2.1 hi.1.2.1 hf.1) hi2).1
  have hd2 := hi.1.2.2.1 k hf.1
  have hend : ∀ H' : Heap, H'[zad g o]? = some (cell.setSlot f.slot v) → H'.size = H.size → (∀ q, q ≠ zad g o → H'[q]? = H[q]?) → W p l e R s m args below meth c9 H' (locs ++ [⟨zad g o, f.slot⟩]) cells slots Q (F0 m (pc + 3) mls rest) := by
    intro H' e1 e2 e3
    rw [hsl] at e1
    refine kk H' _ (zW_put h1 hi.2.2.1 hN e2 e3 ?_ he) (h4.put e2 e3 hA)
    rw [zcell_o hi']
    exact ⟨_, hi.1.1, t_OB.to (V := updV (vp_V (zfl g σ o c)) k v) ⟨_, e1, q2, q3, t_set q4 hap hf.1 v⟩ hv⟩
  rcases hfin with hfin | ⟨hfin, hin, hdecl, hlk⟩
  · unfold u_lay at hlay
    rw [if_neg (by rw [hfin]; decide)] at hlay
    have h6 := u_store hfc hkC hkind hlay hi2 hd2 hnw hft
    rcases hf.2 with h | ⟨host, h⟩
    · exact W.putK C.1 C.2.1 (f := f) ⟨C.2.2.2.2.1, C.2.2.2.1 _ h, ⟨_, _, _, hi2⟩, hst⟩ (by rw [q2]; exact h6) q1 q3 (by rw [hsl]; exact k2_hasslot (q4 k hf.1)) rfl rfl hd hend
    · have hw : va_Nw (.fieldLinkNest M.1.cls i (zT c k).1 (zT c k).2.1 (zT c k).2.2.1 host) s := C.2.2.2.2.2.2.1.2.1 _ h
      exact va_WputK C.1 C.2.1 (f := f) C.2.2.2.2.1 (va_Nw.use rfl hw) hi2 hst (by rw [q2]; exact h6) q1 q3 (by rw [hsl]; exact k2_hasslot (q4 k hf.1)) rfl rfl hd hend
  · unfold u_lay at hlay
    rw [if_pos hfin] at hlay
    have hcf : m.cls = cf := by
      obtain ⟨_, _, c', _, _, _, -, -, hf', -, -, -, hown2, -⟩ := Cond.laysFinal_spec hlay
      have e1 : c' = cf := by have := hi2.symm.trans hf'; simp at this; exact this.1.symm
      rw [hdecl] at hown2
      rw [← e1]
      exact Option.some.inj (C.2.2.2.2.1.symm.trans hown2)
    have h6 := u_fits hfc hkC hkind (Or.inr hlay) hi2 hd2 hnw hft
    exact W.putFinK C.1 C.2.1 C.2.2.2.2.1 (C.2.2.2.1 _ hlk) hi2 hst hcf (C.2.2.2.2.2.1 hin) (by rw [q2]; exact h6) q1 q3 (by rw [hsl]; exact k2_hasslot (q4 k hf.1)) rfl rfl hd hend
theorem zfl_V (o c j : Nat) (hj : j < zN c) : vp_V (zfl g σ o c) j = zfv g σ o (ztc (zty c j)) j := by
  unfold vp_V
  rw [List.getD_eq_getElem?_getD, zfl_at o c j hj]
  rfl
theorem z_putI {i c k o : Nat} {x : Int32} (hf : zFk M.1.cls i c k) (hi : zIs σ z0 c o) (ht : ztc (zty c k) = 0) (hfin : (zT c k).2.2.2 = false ∨ ((zT c k).2.2.2 = true ∧ M.1.name = "<init>" ∧ (zT c k).1 = M.1.cls ∧ Cond.fieldLink M.1.cls i (zT c k).1 (zT c k).2.1 (zT c k).2.2.1 ∈ lw_g)) (hnw : narrow (zty c k) (.int x) = .int x) (hft : fits (zty c k) (.int x) = true) (hd : decode M.2.1 pc = .ok (.putfield i, 3)) (hn : pc + 3 = pn) (k9 : zAt l g d z0 z1 M pn ls st (zI σ o k x) K) : zAt l g d z0 z1 M pc ls (.int x :: .ref o :: st) σ K := by
  subst hn
  intro p e R s m args below meth c9 Q C H locs mls h1 h2 h3 h4 h5
  refine z_putW (σ' := zI σ o k x) C hf hi hfin hnw hft hd h1 h2 h4 rfl (fun j hj => ?_) (fun p h => zcell_I h) (fun H1 locs1 w1 w2 => k9 p e R s m args below meth c9 Q C H1 locs1 mls w1 h2 h3 w2 h5)
  rw [zfl_V o c j hj]
  unfold updV
  by_cases e : j = k
  · subst e
    rw [if_pos rfl, ht]
    simp [zfv, zI, zmv]
  · rw [if_neg e, zfl_V o c j hj]
    simp [zfv, zI, e]
theorem z_putL {i c k o : Nat} {x : Int64} (hf : zFk M.1.cls i c k) (hi : zIs σ z0 c o) (ht : ztc (zty c k) = 2) (hfin : (zT c k).2.2.2 = false ∨ ((zT c k).2.2.2 = true ∧ M.1.name = "<init>" ∧ (zT c k).1 = M.1.cls ∧ Cond.fieldLink M.1.cls i (zT c k).1 (zT c k).2.1 (zT c k).2.2.1 ∈ lw_g)) (hnw : narrow (zty c k) (.long x) = .long x) (hft : fits (zty c k) (.long x) = true) (hd : decode M.2.1 pc = .ok (.putfield i, 3)) (hn : pc + 3 = pn) (k9 : zAt l g d z0 z1 M pn ls st (zLg σ o k x) K) : zAt l g d z0 z1 M pc ls (.long x :: .ref o :: st) σ K := by
  subst hn
  intro p e R s m args below meth c9 Q C H locs mls h1 h2 h3 h4 h5
  refine z_putW (σ' := zLg σ o k x) C hf hi hfin hnw hft hd h1 h2 h4 rfl (fun j hj => ?_) (fun p h => zcell_L h) (fun H1 locs1 w1 w2 => k9 p e R s m args below meth c9 Q C H1 locs1 mls w1 h2 h3 w2 h5)
  rw [zfl_V o c j hj]
  unfold updV
  by_cases e : j = k
  · subst e
    rw [if_pos rfl, ht]
    simp [zfv, zLg, zmv]
  · rw [if_neg e, zfl_V o c j hj]
    simp [zfv, zLg, e]
theorem z_putR {i c k o x : Nat} (hf : zFk M.1.cls i c k) (hi : zIs σ z0 c o) (ht : ztc (zty c k) = 3) (hx : ¬ x = 0) (hfin : (zT c k).2.2.2 = false ∨ ((zT c k).2.2.2 = true ∧ M.1.name = "<init>" ∧ (zT c k).1 = M.1.cls ∧ Cond.fieldLink M.1.cls i (zT c k).1 (zT c k).2.1 (zT c k).2.2.1 ∈ lw_g)) (hnw : narrow (zty c k) (.ref (zad g x)) = .ref (zad g x)) (hft : fits (zty c k) (.ref (zad g x)) = true) (hd : decode M.2.1 pc = .ok (.putfield i, 3)) (hn : pc + 3 = pn) (k9 : zAt l g d z0 z1 M pn ls st (zRf σ o k x) K) : zAt l g d z0 z1 M pc ls (.ref x :: .ref o :: st) σ K := by
  subst hn
  intro p e R s m args below meth c9 Q C H locs mls h1 h2 h3 h4 h5
  refine z_putW (σ' := zRf σ o k x) C hf hi hfin hnw hft hd h1 h2 h4 rfl (fun j hj => ?_) (fun p h => zcell_R h) (fun H1 locs1 w1 w2 => k9 p e R s m args below meth c9 Q C H1 locs1 mls w1 h2 h3 w2 h5)
  rw [zfl_V o c j hj]
  unfold updV
  by_cases e : j = k
  · subst e
    rw [if_pos rfl, ht]
    simp [zfv, zRf, zro, hx, va_rf, zmv]
  · rw [if_neg e, zfl_V o c j hj]
    simp [zfv, zRf, e]
theorem zA_ad {o : Nat} (h : 64 ≤ o) : zA g (zad g o) := by
  unfold zA zad
  rw [if_neg (by omega)]
  exact Nat.le_add_right _ _
theorem zI_cell {o j n kd : Nat} {x : Int32} (ha : zAr σ z0 kd n o) (h1 : 20 ≤ kd) (h2 : kd < 23) {H' : Heap} (e : H'[zad g o]? = some ((vp_cell (g.2.2.1 kd) (n, .inl (σ.1 o))).setSlot j (.int x))) : va_at g.2.1 vwCl (zad g o, zcell g (zI σ o j x) o) H' := by
  have ha' : zAr (zI σ o j x) z0 kd n o := ha
  rw [zcell_i ha' h1 h2]
  show H'[zad g o]? = some (vp_cell _ _)
  rw [e, vp_cell_i, vp_cell_i, arrV_store]
  congr 2
  funext q
  by_cases hq : q = j
  · subst hq; simp [updV, zI]
  · simp [updV, zI, hq]
theorem z_iast {n o : Nat} {i x : Int32} (ha : zAr σ z0 20 n o) (hin : vp_in i n) (hd : decode M.2.1 pc = .ok (.iastore, 1)) (hn : pc + 1 = pn) (k9 : zAt l g d z0 z1 M pn ls st (zI σ o i.toNatClampNeg x) K) : zAt l g d z0 z1 M pc ls (.int x :: .int i :: .ref o :: st) σ K := by
  subst hn
  intro p e R s m args below meth c9 Q C H locs mls h1 h2 h3 h4 h5
  have hP := h1.2 o ha.2.2.1 (ha.2.2.2 h2)
  rw [zcell_i ha (by decide) (by decide)] at hP
  refine W.iast C.1 C.2.1 hP ((C.2.2.2.2.2.2.1.1.2 0 _ rfl).1 n (fun j => .int (σ.1 o j))) (fun q => by cases q) (by show ¬ (i < 0 ∨ (arrV _ _ _).slots.size ≤ _); rw [arrV_size]; exact hin) rfl rfl hd fun H1 e1 e2 e3 => ?_
  exact k9 p e R s m args below meth c9 Q C H1 _ mls (zW_put h1 ha.2.2.1 rfl e2 e3 (zI_cell ha (by decide) (by decide) e1) (fun p h => zcell_I h)) h2 h3 (h4.put e2 e3 (zA_ad ha.2.2.1)) h5
theorem z_bast {n o : Nat} {i x y : Int32} (ha : zAr σ z0 21 n o) (hin : vp_in i n) (hy : x.toInt8.toInt32 = y) (hd : decode M.2.1 pc = .ok (.bastore, 1)) (hn : pc + 1 = pn) (k9 : zAt l g d z0 z1 M pn ls st (zI σ o i.toNatClampNeg y) K) : zAt l g d z0 z1 M pc ls (.int x :: .int i :: .ref o :: st) σ K := by
  subst hn
  subst hy
  intro p e R s m args below meth c9 Q C H locs mls h1 h2 h3 h4 h5
  have hP := h1.2 o ha.2.2.1 (ha.2.2.2 h2)
  rw [zcell_i ha (by decide) (by decide)] at hP
  refine W.bast C.1 C.2.1 hP ((C.2.2.2.2.2.2.1.1.2 1 _ rfl).1 n (fun j => .int (σ.1 o j))) (fun q => by cases q) (by show ¬ (i < 0 ∨ (arrV _ _ _).slots.size ≤ _); rw [arrV_size]; exact hin) rfl rfl hd fun H1 e1 e2 e3 => ?_
  exact k9 p e R s m args below meth c9 Q C H1 _ mls (zW_put h1 ha.2.2.1 rfl e2 e3 (zI_cell ha (by decide) (by decide) e1) (fun p h => zcell_I h)) h2 h3 (h4.put e2 e3 (zA_ad ha.2.2.1)) h5
theorem z_zast {n o : Nat} {i x : Int32} (ha : zAr σ z0 22 n o) (hin : vp_in i n) (hy : narrow .boolean (.int x) = .int x) (hd : decode M.2.1 pc = .ok (.bastore, 1)) (hn : pc + 1 = pn) (k9 : zAt l g d z0 z1 M pn ls st (zI σ o i.toNatClampNeg x) K) : zAt l g d z0 z1 M pc ls (.int x :: .int i :: .ref o :: st) σ K := by
  subst hn
  intro p e R s m args below meth c9 Q C H locs mls h1 h2 h3 h4 h5
  have hP := h1.2 o ha.2.2.1 (ha.2.2.2 h2)
  rw [zcell_i ha (by decide) (by decide)] at hP
  refine W.zast C.1 C.2.1 hP ((C.2.2.2.2.2.2.1.1.2 2 _ rfl).1 n (fun j => .int (σ.1 o j))) (fun q => by cases q) (by show ¬ (i < 0 ∨ (arrV _ _ _).slots.size ≤ _); rw [arrV_size]; exact hin) rfl rfl hd fun H1 e1 e2 e3 => ?_
  rw [hy] at e1
  exact k9 p e R s m args below meth c9 Q C H1 _ mls (zW_put h1 ha.2.2.1 rfl e2 e3 (zI_cell ha (by decide) (by decide) e1) (fun p h => zcell_I h)) h2 h3 (h4.put e2 e3 (zA_ad ha.2.2.1)) h5
end ZD
end
section
/-! ===== calls ===== -/
section ZE
variable {l : Launch} {g : zG} {d z0 z1 : Nat} {M : zM} {pc pn : Nat} {ls st : List Value} {σ : zS} {K : Option Value → zS → Prop}
theorem zPc_blind {y0 : Nat} {as : List Value} : FrameBlind (zPc g y0 as σ) := fun _ U gf mk h => ⟨h.1, h.2.1, h.2.2.1, zK_same (s := U) (U := U.calling gf mk _) rfl rfl h.2.2.2⟩
theorem zws_good {M' : zM} {n : Nat} (hk : zMk M' n) : GoodIn lw_g (zws M') := fun w hw => by
  rcases List.mem_cons.mp hw with h | h
  · subst h
    exact ⟨hk.1, good_of_word (lw_g_good _ hk.1)⟩
  · exact ⟨h, good_of_word (lw_g_good w h)⟩
theorem zmv_toList (v : Option Value) (st : List Value) : (v.map (zmv g)).toList ++ st.map (zmv g) = (v.toList ++ st).map (zmv g) := by
  cases v <;> rfl
theorem z_run {y0 y1 : Nat} {K' : Option Value → zS → Prop} {a9 : Array Value} {stk : List Value} {p : Program} {e : Env} {R : Room} {s : State} {m : MethodId} {args : Array Value} {below : List Frame} {meth : Method} {c9 : Code} {Q : State → Prop} (C : zC l g (d + 1) z0 z1 M K p e R s m args below meth c9 Q) {H : Heap} {locs : List Loc} {mls : Array Slot}
    (hrun : va_Run p l e R s m args below meth c9 H locs (σ.2.2.2 - z0) (zSS σ.2.2.2 - zSS z0) (y1 - y0) (zSS y1 - zSS y0) (F0 m pc mls stk) (st.map (zmv g)) (zQc g y1 K' a9) (zA g))
    (hy : σ.2.2.2 = y0) (hz : y0 ≤ y1) (hy1 : y1 ≤ z1) (h2 : z0 ≤ σ.2.2.2) (h4 : va_S (zA g) s.heap H locs) (h5 : zL g M.2.2.1 ls mls)
    (kk : ∀ v σ', K' v σ' → zAt l g (d + 1) z0 z1 M (pc + 3) ls (v.toList ++ st) σ' K) : W p l e R s m args below meth c9 H locs (σ.2.2.2 - z0) (zSS σ.2.2.2 - zSS z0) Q (F0 m pc mls stk) := by
  intro T hT X
  obtain ⟨v9, st₀, t, T', L, g0, X', hL, e1, e2, hq, go⟩ := hrun T hT X
  obtain ⟨⟨v, σ', hv, hK', hW', hN'⟩, hz9, hk9⟩ := hq
  cases hv
  rw [g0] at hz9 hk9
  subst hy
  have hS' : va_S (zA g) s.heap T'.heap (locs ++ L) := ⟨Nat.le_trans h4.1 (by rw [e1]; exact hz9), fun q q1 q2 => by rw [e1, hk9 q (Nat.lt_of_lt_of_le q1 h4.1) q2]; exact h4.2.1 q q1 q2, fun q hq => by
      rcases List.mem_append.mp hq with h | h
      · exact h4.2.2 q h
      · exact hL q h⟩
  have hc1 : σ.2.2.2 - z0 + (y1 - σ.2.2.2) = σ'.2.2.2 - z0 := by omega
  have hc2 : zSS σ.2.2.2 - zSS z0 + (zSS y1 - zSS σ.2.2.2) = zSS σ'.2.2.2 - zSS z0 := by
    have a1 := zSS_mono h2
    have a2 := zSS_mono hz
    rw [hN']
    omega
  rw [hc1, hc2] at X'
  obtain ⟨t2, a1, b1⟩ := kk v σ' hK' p e R s m args below meth c9 Q C T'.heap (locs ++ L) mls (by rw [e1]; exact hW') (by omega) (by omega) hS' h5 T' rfl X'
  have go2 : Goes p e below T (F0 m pc mls stk) T' (F0 m (pc + 3) mls ((v.map (zmv g)).toList ++ st.map (zmv g))) := go
  rw [zmv_toList] at go2
  exact ⟨t2, go2 t2 a1, b1⟩
theorem zK_at {s : State} {H : Heap} {locs : List Loc} (hK : zK g s) (h4 : va_S (zA g) s.heap H locs) (U : State) (hU : U.heap = H) (hW : s.WarmedH U.vm) : zK g U := zK_moved hW (fun a q1 q2 => by rw [hU]; exact h4.2.1 a q1 q2) hK
/-- what is called is an object of class cls -/
def zRec (g : zG) (z0 : Nat) (σ : zS) (b : Nat) (cls : String) : Prop := ∀ (s : State) (H : Heap) (locs : List Loc), zK g s → zW g σ H → z0 ≤ σ.2.2.2 → va_S (zA g) s.heap H locs → ∃ cellB : Cell, H[zad g b]? = some cellB ∧ cellB.vm.isStatics = false ∧ s.vm.findClass cls = some cellB.cls
theorem zRec_of {c b : Nat} (h : zIs σ z0 c b) : zRec g z0 σ b (zRn c) := fun s H locs hK hW hz hS => by
  have hP := hW.2 b h.2.2.1 (h.2.2.2 hz)
  rw [zcell_o h] at hP
  exact va_recv hK.1 (zP1 hP) h.1.1 (q0 := 0) rfl
theorem zcat_map (st : List Value) : ((st.map (zmv g)).map fun v => v.category).sum = (st.map fun v => v.category).sum := by
  rw [List.map_map]
  congr 1
  exact List.map_congr_left fun v _ => zmv_cat g v
theorem z_callV {i n b y0 y1 : Nat} {M' : zM} {as stk : List Value} {K' : Option Value → zS → Prop} (hk : zMk M' n) (hl : zLkV M.1.cls i M') (hrec : zRec g z0 σ b M'.1.cls) (hlen : as.length = n) (hcall : zCall l g d y0 y1 M' (.ref b :: as) σ K') (hs : as.reverse ++ .ref b :: st = stk) (hst : (st.map fun v => v.category).sum ≤ 8) (hd : decode M.2.1 pc = .ok (.invokevirtual i, 3)) (hy : z0 ≤ σ.2.2.2 → σ.2.2.2 ≤ z1 → σ.2.2.2 = y0 ∧ y0 ≤ y1 ∧ y1 ≤ z1) (hn : pc + 3 = pn)
    (kk : ∀ v σ', K' v σ' → zAt l g (d + 1) z0 z1 M pn ls (v.toList ++ st) σ' K) : zAt l g (d + 1) z0 z1 M pc ls stk σ K := by
  subst hn
  subst hs
  intro p e R s m args below meth c9 Q C H locs mls h1 h2 h3 h4 h5
  obtain ⟨g1, g2, g3⟩ := hy h2 h3
  obtain ⟨r1, r2, r3, r4⟩ := C.2.2.2.2.2.2.2.1
  have hts := C.2.2.2.1
  have cb := callB_of (R := R) (s := s) (args := args) (own := M.1.cls) (index := i) (y := M'.1) (bytes := M'.2.1) (maxL := M'.2.2.1) (ret := M'.2.2.2) (ws := zws M') (rm := zRm d y0 y1) (mc := y1 - y0) (ms := zSS y1 - zSS y0) n hts (zws_good hk) rfl rfl rfl (hts _ hk.2.1) (hts _ hl.1) hk.2.2.1 ⟨r1, by have := hk.2.2.2.2; show 8 + (M'.2.2.1 + 11) + 100 * d ≤ R.locals; omega⟩
  have hrun := va_runV (S := ⟨C.1, C.2.1, C.2.2.1, C.2.2.2.2.1, hts⟩) hcall (C := M'.1.cls) (cells := σ.2.2.2 - z0) (slots := zSS σ.2.2.2 - zSS z0) (locs := locs) (e := e) (below := below) (meth := meth) (b := zad g b) (As := as.map (zmv g)) (rest := st.map (zmv g)) (g := F0 m pc mls ((as.reverse ++ .ref b :: st).map (zmv g))) (H := H) ⟨cb, hts _ hl.2.1, hts _ hl.2.2⟩
    ⟨zPc_blind, hrec s H locs C.2.2.2.2.2.2.1 h1 h2 h4, fun U hU hW => ⟨rfl, by rw [hU]; exact h1, g1, zK_at C.2.2.2.2.2.2.1 h4 U hU hW⟩⟩ rfl (by simpa using hlen) h5.1 (by simp [zmv]) (by rw [zcat_map]; exact lv_room hst) hd (by
      have a1 := zSS_mono h2
      have a2 := zSS_mono g2
      have a3 := zSS_mono g3
      rw [← g1] at a2 ⊢
      exact ⟨by omega, by omega⟩)
  exact z_run C hrun g1 g2 g3 h2 h4 h5 kk
theorem z_callS {i n y0 y1 : Nat} {M' : zM} {as stk : List Value} {K' : Option Value → zS → Prop} (hk : zMk M' n) (hl : zLkS M.1.cls i M') (hlen : as.length = n) (hcall : zCall l g d y0 y1 M' as σ K') (hs : as.reverse ++ st = stk) (hst : (st.map fun v => v.category).sum ≤ 8) (hd : decode M.2.1 pc = .ok (.invokestatic i, 3)) (hy : z0 ≤ σ.2.2.2 → σ.2.2.2 ≤ z1 → σ.2.2.2 = y0 ∧ y0 ≤ y1 ∧ y1 ≤ z1) (hn : pc + 3 = pn)
    (kk : ∀ v σ', K' v σ' → zAt l g (d + 1) z0 z1 M pn ls (v.toList ++ st) σ' K) : zAt l g (d + 1) z0 z1 M pc ls stk σ K := by
  subst hn
  subst hs
  intro p e R s m args below meth c9 Q C H locs mls h1 h2 h3 h4 h5
  obtain ⟨g1, g2, g3⟩ := hy h2 h3
  obtain ⟨r1, r2, r3, r4⟩ := C.2.2.2.2.2.2.2.1
  have hts := C.2.2.2.1
  have cb := callB_of (R := R) (s := s) (args := args) (own := M.1.cls) (index := i) (y := M'.1) (bytes := M'.2.1) (maxL := M'.2.2.1) (ret := M'.2.2.2) (ws := zws M') (rm := zRm d y0 y1) (mc := y1 - y0) (ms := zSS y1 - zSS y0) n hts (zws_good hk) rfl rfl rfl (hts _ hk.2.1) (hts _ hl.1) hk.2.2.1 ⟨r1, by have := hk.2.2.2.2; show 8 + (M'.2.2.1 + 11) + 100 * d ≤ R.locals; omega⟩
  have hrun := va_runS (S := ⟨C.1, C.2.1, C.2.2.1, C.2.2.2.2.1, hts⟩) hcall (cells := σ.2.2.2 - z0) (slots := zSS σ.2.2.2 - zSS z0) (locs := locs) (e := e) (below := below) (meth := meth) (As := as.map (zmv g)) (rest := st.map (zmv g)) (g := F0 m pc mls ((as.reverse ++ st).map (zmv g))) (H := H) ⟨cb, hts _ hl.2⟩
    ⟨zPc_blind, fun U hU hW => ⟨rfl, by rw [hU]; exact h1, g1, zK_at C.2.2.2.2.2.2.1 h4 U hU hW⟩⟩ rfl (by simpa using hlen) h5.1 (by simp) (by rw [zcat_map]; exact lv_room hst) hd (by
      have a1 := zSS_mono h2
      have a2 := zSS_mono g2
      have a3 := zSS_mono g3
      rw [← g1] at a2 ⊢
      exact ⟨by omega, by omega⟩)
  exact z_run C hrun g1 g2 g3 h2 h4 h5 kk
theorem z_callSN {i n y0 y1 : Nat} {M' : zM} {as stk : List Value} {K' : Option Value → zS → Prop} (hk : zMk M' n) (hl : zLkSN M.1.cls i M') (hlen : as.length = n) (hcall : zCall l g d y0 y1 M' as σ K') (hs : as.reverse ++ st = stk) (hst : (st.map fun v => v.category).sum ≤ 8) (hd : decode M.2.1 pc = .ok (.invokestatic i, 3)) (hy : z0 ≤ σ.2.2.2 → σ.2.2.2 ≤ z1 → σ.2.2.2 = y0 ∧ y0 ≤ y1 ∧ y1 ≤ z1) (hn : pc + 3 = pn)
    (kk : ∀ v σ', K' v σ' → zAt l g (d + 1) z0 z1 M pn ls (v.toList ++ st) σ' K) : zAt l g (d + 1) z0 z1 M pc ls stk σ K := by
  subst hn
  subst hs
  obtain ⟨host, hl1, hl2⟩ := hl
  intro p e R s m args below meth c9 Q C H locs mls h1 h2 h3 h4 h5
  obtain ⟨g1, g2, g3⟩ := hy h2 h3
  obtain ⟨r1, r2, r3, r4⟩ := C.2.2.2.2.2.2.2.1
  have hts := C.2.2.2.1
  have hw : va_Nw (.methodLinkNest M.1.cls i M'.1 host) s := C.2.2.2.2.2.2.1.2.1 _ hl1
  have cb := va_cnB (R := R) (args := args) (own := M.1.cls) (index := i) (y := M'.1) (bytes := M'.2.1) (maxL := M'.2.2.1) (ret := M'.2.2.2) (ws := zws M') (rm := zRm d y0 y1) (mc := y1 - y0) (ms := zSS y1 - zSS y0) n hts (zws_good hk) rfl rfl rfl hw (hts _ hk.2.1) hk.2.2.1 ⟨r1, by have := hk.2.2.2.2; show 8 + (M'.2.2.1 + 11) + 100 * d ≤ R.locals; omega⟩
  have hrun := va_runSN (S := ⟨C.1, C.2.1, C.2.2.1, C.2.2.2.2.1, hts⟩) hcall (cells := σ.2.2.2 - z0) (slots := zSS σ.2.2.2 - zSS z0) (locs := locs) (e := e) (below := below) (meth := meth) (As := as.map (zmv g)) (rest := st.map (zmv g)) (g := F0 m pc mls ((as.reverse ++ st).map (zmv g))) (H := H) ⟨cb, hts _ hl2, trivial⟩
    ⟨zPc_blind, fun U hU hW => ⟨rfl, by rw [hU]; exact h1, g1, zK_at C.2.2.2.2.2.2.1 h4 U hU hW⟩⟩ rfl (by simpa using hlen) h5.1 (by simp) (by rw [zcat_map]; exact lv_room hst) hd (by
      have a1 := zSS_mono h2
      have a2 := zSS_mono g2
      have a3 := zSS_mono g3
      rw [← g1] at a2 ⊢
      exact ⟨by omega, by omega⟩)
  exact z_run C hrun g1 g2 g3 h2 h4 h5 kk
/-! typed ends: what a method of ints, truth values, references or nothing comes back with -/
def zb (b : Bool) : Int32 := if b = true then 1 else 0
def zKi (K : Int32 → zS → Prop) : Option Value → zS → Prop := fun v σ => ∃ r, v = some (.int r) ∧ K r σ
def zKl (K : Int64 → zS → Prop) : Option Value → zS → Prop := fun v σ => ∃ r, v = some (.long r) ∧ K r σ
def zKz (K : Bool → zS → Prop) : Option Value → zS → Prop := fun v σ => ∃ b, v = some (.int (zb b)) ∧ K b σ
def zKv (K : zS → Prop) : Option Value → zS → Prop := fun v σ => v = none ∧ K σ
def zKr (K : Nat → zS → Prop) : Option Value → zS → Prop := fun v σ => ∃ o, v = some (.ref o) ∧ K o σ
/-- in the run of calls: all objects are there -/
abbrev zc (l : Launch) (g : zG) (d : Nat) (M : zM) (args : List Value) (σ : zS) (K : Option Value → zS → Prop) : Prop := zCall l g d 200 200 M args σ K
abbrev zt (l : Launch) (g : zG) (d : Nat) (M : zM) (pc : Nat) (ls st : List Value) (σ : zS) (K : Option Value → zS → Prop) : Prop := zAt l g d 200 200 M pc ls st σ K
theorem zc_mono {M : zM} {as : List Value} {K K' : Option Value → zS → Prop} (h : zCall l g d z0 z1 M as σ K) (hm : ∀ v σ, K v σ → K' v σ) : zCall l g d z0 z1 M as σ K' := by
  intro p e ha hc hk s m args below hf happ hP hK
  obtain ⟨n, o, h1, h2, h3, ⟨⟨v, σ', q1, q2, q3⟩, q4⟩, q5⟩ := h p e ha hc hk s m args below hf happ hP hK
  exact ⟨n, o, h1, h2, h3, ⟨⟨v, σ', q1, hm v σ' q2, q3⟩, q4⟩, q5⟩
end ZE
end
section
/-! ===== the objects by number: what they are, what they refer to ===== -/
def zR0 (o k : Nat) : Nat := if o = 64 then (if k = 0 then 65 else if k = 1 then 68 else if k = 2 then 69 else if k = 4 then 70 else if k = 6 then 71 else if k = 11 then 72 else if k = 12 then 73 else if k = 13 then 74 else if k = 14 then 75 else if k = 17 then 91 else 0) else if o = 65 then (if k = 0 then 66 else if k = 1 then 67 else 0) else if o = 68 then (if k = 0 then 65 else 0) else if o = 75 then (if k = 0 then 76 else if k = 2 then 77 else if k = 3 then 78 else 0) else if o = 79 then (if k = 0 then 80 else if k = 6 then 81 else if k = 7 then 82 else if k = 8 then 83 else if k = 9 then 84 else 0) else if o = 85 then (if k = 0 then 86 else if k = 6 then 87 else if k = 7 then 88 else if k = 8 then 89 else if k = 9 then 90 else 0) else if o = 164 then (if k = 0 then 165 else if k = 1 then 166 else if k = 2 then 167 else if k = 3 then 168 else if k = 4 then 169 else if k = 5 then 170 else if k = 6 then 171 else if k = 7 then 172 else if k = 8 then 173 else if k = 9 then 174 else if k = 10 then 175 else if k = 11 then 176 else if k = 12 then 177 else if k = 13 then 178 else if k = 14 then 179 else if k = 15 then 180 else if k = 16 then 181 else if k = 23 then 182 else if k = 27 then 243 else if k = 28 then 244 else if k = 33 then 245 else if k = 34 then 248 else if k = 35 then 251 else if k = 36 then 254 else if k = 37 then 257 else if k = 38 then 258 else if k = 39 then 259 else if k = 40 then 260 else if k = 41 then 261 else if k = 42 then 262 else if k = 43 then 263 else 0) else if o = 70 then (if k < 12 then 92 + k else 0) else if o = 71 then (if k < 60 then 104 + k else 0) else if o = 182 then (if k < 60 then 183 + k else 0) else if o = 245 then (if k < 2 then 246 + k else 0) else if o = 248 then (if k < 2 then 249 + k else 0) else if o = 251 then (if k < 2 then 252 + k else 0) else if o = 254 then (if k < 2 then 255 + k else 0) else if o = 262 then (if k < 7 then 4 + k else 0) else if o = 263 then (if k < 7 then 11 + k else 0) else 0
def zRok (s : zS) : Prop := (∀ o k, ¬ zR0 o k = 0 → s.2.2.1 o k = zR0 o k) ∧ ((s.2.2.1 64 15 = 79 ∧ s.2.2.1 64 16 = 85) ∨ (s.2.2.1 64 15 = 85 ∧ s.2.2.1 64 16 = 79))
theorem zRok_of {s s' : zS} (h : s'.2.2.1 = s.2.2.1) (hR : zRok s) : zRok s' := by unfold zRok; rw [h]; exact hR
theorem r_64_0 {s : zS} (h : zRok s) : s.2.2.1 64 0 = 65 := h.1 64 0 (by decide)
theorem r_64_1 {s : zS} (h : zRok s) : s.2.2.1 64 1 = 68 := h.1 64 1 (by decide)
theorem r_64_2 {s : zS} (h : zRok s) : s.2.2.1 64 2 = 69 := h.1 64 2 (by decide)
theorem r_64_4 {s : zS} (h : zRok s) : s.2.2.1 64 4 = 70 := h.1 64 4 (by decide)
theorem r_64_6 {s : zS} (h : zRok s) : s.2.2.1 64 6 = 71 := h.1 64 6 (by decide)
theorem r_64_11 {s : zS} (h : zRok s) : s.2.2.1 64 11 = 72 := h.1 64 11 (by decide)
theorem r_64_12 {s : zS} (h : zRok s) : s.2.2.1 64 12 = 73 := h.1 64 12 (by decide)
theorem r_64_13 {s : zS} (h : zRok s) : s.2.2.1 64 13 = 74 := h.1 64 13 (by decide)
theorem r_64_14 {s : zS} (h : zRok s) : s.2.2.1 64 14 = 75 := h.1 64 14 (by decide)
theorem r_64_17 {s : zS} (h : zRok s) : s.2.2.1 64 17 = 91 := h.1 64 17 (by decide)
theorem r_65_0 {s : zS} (h : zRok s) : s.2.2.1 65 0 = 66 := h.1 65 0 (by decide)
theorem r_65_1 {s : zS} (h : zRok s) : s.2.2.1 65 1 = 67 := h.1 65 1 (by decide)
theorem r_68_0 {s : zS} (h : zRok s) : s.2.2.1 68 0 = 65 := h.1 68 0 (by decide)
theorem r_75_0 {s : zS} (h : zRok s) : s.2.2.1 75 0 = 76 := h.1 75 0 (by decide)
theorem r_75_2 {s : zS} (h : zRok s) : s.2.2.1 75 2 = 77 := h.1 75 2 (by decide)
theorem r_75_3 {s : zS} (h : zRok s) : s.2.2.1 75 3 = 78 := h.1 75 3 (by decide)
theorem r_79_0 {s : zS} (h : zRok s) : s.2.2.1 79 0 = 80 := h.1 79 0 (by decide)
theorem r_79_6 {s : zS} (h : zRok s) : s.2.2.1 79 6 = 81 := h.1 79 6 (by decide)
theorem r_79_7 {s : zS} (h : zRok s) : s.2.2.1 79 7 = 82 := h.1 79 7 (by decide)
theorem r_79_8 {s : zS} (h : zRok s) : s.2.2.1 79 8 = 83 := h.1 79 8 (by decide)
theorem r_79_9 {s : zS} (h : zRok s) : s.2.2.1 79 9 = 84 := h.1 79 9 (by decide)
theorem r_85_0 {s : zS} (h : zRok s) : s.2.2.1 85 0 = 86 := h.1 85 0 (by decide)
theorem r_85_6 {s : zS} (h : zRok s) : s.2.2.1 85 6 = 87 := h.1 85 6 (by decide)
theorem r_85_7 {s : zS} (h : zRok s) : s.2.2.1 85 7 = 88 := h.1 85 7 (by decide)
theorem r_85_8 {s : zS} (h : zRok s) : s.2.2.1 85 8 = 89 := h.1 85 8 (by decide)
theorem r_85_9 {s : zS} (h : zRok s) : s.2.2.1 85 9 = 90 := h.1 85 9 (by decide)
theorem r_164_0 {s : zS} (h : zRok s) : s.2.2.1 164 0 = 165 := h.1 164 0 (by decide)
theorem r_164_1 {s : zS} (h : zRok s) : s.2.2.1 164 1 = 166 := h.1 164 1 (by decide)
theorem r_164_2 {s : zS} (h : zRok s) : s.2.2.1 164 2 = 167 := h.1 164 2 (by decide)
theorem r_164_3 {s : zS} (h : zRok s) : s.2.2.1 164 3 = 168 := h.1 164 3 (by decide)
theorem r_164_4 {s : zS} (h : zRok s) : s.2.2.1 164 4 = 169 := h.1 164 4 (by decide)
theorem r_164_5 {s : zS} (h : zRok s) : s.2.2.1 164 5 = 170 := h.1 164 5 (by decide)
theorem r_164_6 {s : zS} (h : zRok s) : s.2.2.1 164 6 = 171 := h.1 164 6 (by decide)
theorem r_164_7 {s : zS} (h : zRok s) : s.2.2.1 164 7 = 172 := h.1 164 7 (by decide)
theorem r_164_8 {s : zS} (h : zRok s) : s.2.2.1 164 8 = 173 := h.1 164 8 (by decide)
theorem r_164_9 {s : zS} (h : zRok s) : s.2.2.1 164 9 = 174 := h.1 164 9 (by decide)
theorem r_164_10 {s : zS} (h : zRok s) : s.2.2.1 164 10 = 175 := h.1 164 10 (by decide)
theorem r_164_11 {s : zS} (h : zRok s) : s.2.2.1 164 11 = 176 := h.1 164 11 (by decide)
theorem r_164_12 {s : zS} (h : zRok s) : s.2.2.1 164 12 = 177 := h.1 164 12 (by decide)
theorem r_164_13 {s : zS} (h : zRok s) : s.2.2.1 164 13 = 178 := h.1 164 13 (by decide)
theorem r_164_14 {s : zS} (h : zRok s) : s.2.2.1 164 14 = 179 := h.1 164 14 (by decide)
theorem r_164_15 {s : zS} (h : zRok s) : s.2.2.1 164 15 = 180 := h.1 164 15 (by decide)
theorem r_164_16 {s : zS} (h : zRok s) : s.2.2.1 164 16 = 181 := h.1 164 16 (by decide)
theorem r_164_23 {s : zS} (h : zRok s) : s.2.2.1 164 23 = 182 := h.1 164 23 (by decide)
theorem r_164_27 {s : zS} (h : zRok s) : s.2.2.1 164 27 = 243 := h.1 164 27 (by decide)
theorem r_164_28 {s : zS} (h : zRok s) : s.2.2.1 164 28 = 244 := h.1 164 28 (by decide)
theorem r_164_33 {s : zS} (h : zRok s) : s.2.2.1 164 33 = 245 := h.1 164 33 (by decide)
theorem r_164_34 {s : zS} (h : zRok s) : s.2.2.1 164 34 = 248 := h.1 164 34 (by decide)
theorem r_164_35 {s : zS} (h : zRok s) : s.2.2.1 164 35 = 251 := h.1 164 35 (by decide)
theorem r_164_36 {s : zS} (h : zRok s) : s.2.2.1 164 36 = 254 := h.1 164 36 (by decide)
theorem r_164_37 {s : zS} (h : zRok s) : s.2.2.1 164 37 = 257 := h.1 164 37 (by decide)
theorem r_164_38 {s : zS} (h : zRok s) : s.2.2.1 164 38 = 258 := h.1 164 38 (by decide)
theorem r_164_39 {s : zS} (h : zRok s) : s.2.2.1 164 39 = 259 := h.1 164 39 (by decide)
theorem r_164_40 {s : zS} (h : zRok s) : s.2.2.1 164 40 = 260 := h.1 164 40 (by decide)
theorem r_164_41 {s : zS} (h : zRok s) : s.2.2.1 164 41 = 261 := h.1 164 41 (by decide)
theorem r_164_42 {s : zS} (h : zRok s) : s.2.2.1 164 42 = 262 := h.1 164 42 (by decide)
theorem r_164_43 {s : zS} (h : zRok s) : s.2.2.1 164 43 = 263 := h.1 164 43 (by decide)
theorem vin {i : Int32} {n : Nat} (h : vp_in i n) : i.toNatClampNeg < n := Nat.not_le.mp fun q => h (Or.inr q)
theorem r_70 {s : zS} {i : Int32} (h : zRok s) (hin : vp_in i 12) : s.2.2.1 70 i.toNatClampNeg = 92 + i.toNatClampNeg := by
  have hl := vin hin
  have e : zR0 70 i.toNatClampNeg = 92 + i.toNatClampNeg := by
    show (if i.toNatClampNeg < 12 then 92 + i.toNatClampNeg else 0) = _
    rw [if_pos hl]
  have := h.1 70 i.toNatClampNeg (by rw [e]; omega)
  rw [this, e]
theorem p_70 {i : Int32} (hin : vp_in i 12) : 92 ≤ 92 + i.toNatClampNeg ∧ 92 + i.toNatClampNeg < 104 := by have := vin hin; omega
theorem r_71 {s : zS} {i : Int32} (h : zRok s) (hin : vp_in i 60) : s.2.2.1 71 i.toNatClampNeg = 104 + i.toNatClampNeg := by
  have hl := vin hin
  have e : zR0 71 i.toNatClampNeg = 104 + i.toNatClampNeg := by
    show (if i.toNatClampNeg < 60 then 104 + i.toNatClampNeg else 0) = _
    rw [if_pos hl]
  have := h.1 71 i.toNatClampNeg (by rw [e]; omega)
  rw [this, e]
theorem p_71 {i : Int32} (hin : vp_in i 60) : 104 ≤ 104 + i.toNatClampNeg ∧ 104 + i.toNatClampNeg < 164 := by have := vin hin; omega
theorem r_182 {s : zS} {i : Int32} (h : zRok s) (hin : vp_in i 60) : s.2.2.1 182 i.toNatClampNeg = 183 + i.toNatClampNeg := by
  have hl := vin hin
  have e : zR0 182 i.toNatClampNeg = 183 + i.toNatClampNeg := by
    show (if i.toNatClampNeg < 60 then 183 + i.toNatClampNeg else 0) = _
    rw [if_pos hl]
  have := h.1 182 i.toNatClampNeg (by rw [e]; omega)
  rw [this, e]
theorem p_182 {i : Int32} (hin : vp_in i 60) : 183 ≤ 183 + i.toNatClampNeg ∧ 183 + i.toNatClampNeg < 243 := by have := vin hin; omega
theorem r_245 {s : zS} {i : Int32} (h : zRok s) (hin : vp_in i 2) : s.2.2.1 245 i.toNatClampNeg = 246 + i.toNatClampNeg := by
  have hl := vin hin
  have e : zR0 245 i.toNatClampNeg = 246 + i.toNatClampNeg := by
    show (if i.toNatClampNeg < 2 then 246 + i.toNatClampNeg else 0) = _
    rw [if_pos hl]
  have := h.1 245 i.toNatClampNeg (by rw [e]; omega)
  rw [this, e]
theorem p_245 {i : Int32} (hin : vp_in i 2) : 246 ≤ 246 + i.toNatClampNeg ∧ 246 + i.toNatClampNeg < 248 := by have := vin hin; omega
theorem r_248 {s : zS} {i : Int32} (h : zRok s) (hin : vp_in i 2) : s.2.2.1 248 i.toNatClampNeg = 249 + i.toNatClampNeg := by
  have hl := vin hin
  have e : zR0 248 i.toNatClampNeg = 249 + i.toNatClampNeg := by
    show (if i.toNatClampNeg < 2 then 249 + i.toNatClampNeg else 0) = _
    rw [if_pos hl]
  have := h.1 248 i.toNatClampNeg (by rw [e]; omega)
  rw [this, e]
theorem p_248 {i : Int32} (hin : vp_in i 2) : 249 ≤ 249 + i.toNatClampNeg ∧ 249 + i.toNatClampNeg < 251 := by have := vin hin; omega
theorem r_251 {s : zS} {i : Int32} (h : zRok s) (hin : vp_in i 2) : s.2.2.1 251 i.toNatClampNeg = 252 + i.toNatClampNeg := by
  have hl := vin hin
  have e : zR0 251 i.toNatClampNeg = 252 + i.toNatClampNeg := by
    show (if i.toNatClampNeg < 2 then 252 + i.toNatClampNeg else 0) = _
    rw [if_pos hl]
  have := h.1 251 i.toNatClampNeg (by rw [e]; omega)
  rw [this, e]
theorem p_251 {i : Int32} (hin : vp_in i 2) : 252 ≤ 252 + i.toNatClampNeg ∧ 252 + i.toNatClampNeg < 254 := by have := vin hin; omega
theorem r_254 {s : zS} {i : Int32} (h : zRok s) (hin : vp_in i 2) : s.2.2.1 254 i.toNatClampNeg = 255 + i.toNatClampNeg := by
  have hl := vin hin
  have e : zR0 254 i.toNatClampNeg = 255 + i.toNatClampNeg := by
    show (if i.toNatClampNeg < 2 then 255 + i.toNatClampNeg else 0) = _
    rw [if_pos hl]
  have := h.1 254 i.toNatClampNeg (by rw [e]; omega)
  rw [this, e]
theorem p_254 {i : Int32} (hin : vp_in i 2) : 255 ≤ 255 + i.toNatClampNeg ∧ 255 + i.toNatClampNeg < 257 := by have := vin hin; omega
theorem r_262 {s : zS} {i : Int32} (h : zRok s) (hin : vp_in i 7) : s.2.2.1 262 i.toNatClampNeg = 2 + (2 + i.toNatClampNeg) := by
  have hl := vin hin
  have e : zR0 262 i.toNatClampNeg = 4 + i.toNatClampNeg := by
    show (if i.toNatClampNeg < 7 then 4 + i.toNatClampNeg else 0) = _
    rw [if_pos hl]
  have := h.1 262 i.toNatClampNeg (by rw [e]; omega)
  rw [this, e]
  omega
theorem p_262 {i : Int32} (hin : vp_in i 7) : 2 + i.toNatClampNeg < 20 := by have := vin hin; omega
theorem r_263 {s : zS} {i : Int32} (h : zRok s) (hin : vp_in i 7) : s.2.2.1 263 i.toNatClampNeg = 2 + (9 + i.toNatClampNeg) := by
  have hl := vin hin
  have e : zR0 263 i.toNatClampNeg = 11 + i.toNatClampNeg := by
    show (if i.toNatClampNeg < 7 then 11 + i.toNatClampNeg else 0) = _
    rw [if_pos hl]
  have := h.1 263 i.toNatClampNeg (by rw [e]; omega)
  rw [this, e]
  omega
theorem p_263 {i : Int32} (hin : vp_in i 7) : 9 + i.toNatClampNeg < 20 := by have := vin hin; omega
theorem i_64 {σ : zS} : zIs σ 200 7 64 := ⟨zCl7, by decide, by decide, fun h => by omega⟩
theorem i_65 {σ : zS} : zIs σ 200 1 65 := ⟨zCl1, by decide, by decide, fun h => by omega⟩
theorem a_66 {σ : zS} : zAr σ 200 20 4096 66 := ⟨by decide, by decide, by decide, fun h => by omega⟩
theorem a_67 {σ : zS} : zAr σ 200 20 4096 67 := ⟨by decide, by decide, by decide, fun h => by omega⟩
theorem i_68 {σ : zS} : zIs σ 200 4 68 := ⟨zCl4, by decide, by decide, fun h => by omega⟩
theorem a_69 {σ : zS} : zAr σ 200 20 20 69 := ⟨by decide, by decide, by decide, fun h => by omega⟩
theorem a_70 {σ : zS} : zAr σ 200 23 12 70 := ⟨by decide, by decide, by decide, fun h => by omega⟩
theorem a_71 {σ : zS} : zAr σ 200 24 60 71 := ⟨by decide, by decide, by decide, fun h => by omega⟩
theorem a_72 {σ : zS} : zAr σ 200 20 12 72 := ⟨by decide, by decide, by decide, fun h => by omega⟩
theorem a_73 {σ : zS} : zAr σ 200 20 60 73 := ⟨by decide, by decide, by decide, fun h => by omega⟩
theorem i_74 {σ : zS} : zIs σ 200 0 74 := ⟨zCl0, by decide, by decide, fun h => by omega⟩
theorem i_75 {σ : zS} : zIs σ 200 2 75 := ⟨zCl2, by decide, by decide, fun h => by omega⟩
theorem a_76 {σ : zS} : zAr σ 200 20 400 76 := ⟨by decide, by decide, by decide, fun h => by omega⟩
theorem a_77 {σ : zS} : zAr σ 200 20 401 77 := ⟨by decide, by decide, by decide, fun h => by omega⟩
theorem a_78 {σ : zS} : zAr σ 200 20 401 78 := ⟨by decide, by decide, by decide, fun h => by omega⟩
theorem i_79 {σ : zS} : zIs σ 200 3 79 := ⟨zCl3, by decide, by decide, fun h => by omega⟩
theorem a_80 {σ : zS} : zAr σ 200 20 400 80 := ⟨by decide, by decide, by decide, fun h => by omega⟩
theorem a_81 {σ : zS} : zAr σ 200 20 12 81 := ⟨by decide, by decide, by decide, fun h => by omega⟩
theorem a_82 {σ : zS} : zAr σ 200 20 12 82 := ⟨by decide, by decide, by decide, fun h => by omega⟩
theorem a_83 {σ : zS} : zAr σ 200 20 12 83 := ⟨by decide, by decide, by decide, fun h => by omega⟩
theorem a_84 {σ : zS} : zAr σ 200 20 24 84 := ⟨by decide, by decide, by decide, fun h => by omega⟩
theorem i_85 {σ : zS} : zIs σ 200 3 85 := ⟨zCl3, by decide, by decide, fun h => by omega⟩
theorem a_86 {σ : zS} : zAr σ 200 20 400 86 := ⟨by decide, by decide, by decide, fun h => by omega⟩
theorem a_87 {σ : zS} : zAr σ 200 20 12 87 := ⟨by decide, by decide, by decide, fun h => by omega⟩
theorem a_88 {σ : zS} : zAr σ 200 20 12 88 := ⟨by decide, by decide, by decide, fun h => by omega⟩
theorem a_89 {σ : zS} : zAr σ 200 20 12 89 := ⟨by decide, by decide, by decide, fun h => by omega⟩
theorem a_90 {σ : zS} : zAr σ 200 20 24 90 := ⟨by decide, by decide, by decide, fun h => by omega⟩
theorem a_91 {σ : zS} : zAr σ 200 20 7 91 := ⟨by decide, by decide, by decide, fun h => by omega⟩
theorem i_164 {σ : zS} : zIs σ 200 8 164 := ⟨zCl8, by decide, by decide, fun h => by omega⟩
theorem a_165 {σ : zS} : zAr σ 200 20 8 165 := ⟨by decide, by decide, by decide, fun h => by omega⟩
theorem a_166 {σ : zS} : zAr σ 200 20 8 166 := ⟨by decide, by decide, by decide, fun h => by omega⟩
theorem a_167 {σ : zS} : zAr σ 200 20 8 167 := ⟨by decide, by decide, by decide, fun h => by omega⟩
theorem a_168 {σ : zS} : zAr σ 200 20 8 168 := ⟨by decide, by decide, by decide, fun h => by omega⟩
theorem a_169 {σ : zS} : zAr σ 200 20 8 169 := ⟨by decide, by decide, by decide, fun h => by omega⟩
theorem a_170 {σ : zS} : zAr σ 200 20 20 170 := ⟨by decide, by decide, by decide, fun h => by omega⟩
theorem a_171 {σ : zS} : zAr σ 200 20 20 171 := ⟨by decide, by decide, by decide, fun h => by omega⟩
theorem a_172 {σ : zS} : zAr σ 200 20 12 172 := ⟨by decide, by decide, by decide, fun h => by omega⟩
theorem a_173 {σ : zS} : zAr σ 200 20 12 173 := ⟨by decide, by decide, by decide, fun h => by omega⟩
theorem a_174 {σ : zS} : zAr σ 200 20 12 174 := ⟨by decide, by decide, by decide, fun h => by omega⟩
theorem a_175 {σ : zS} : zAr σ 200 20 12 175 := ⟨by decide, by decide, by decide, fun h => by omega⟩
theorem a_176 {σ : zS} : zAr σ 200 20 12 176 := ⟨by decide, by decide, by decide, fun h => by omega⟩
theorem a_177 {σ : zS} : zAr σ 200 20 12 177 := ⟨by decide, by decide, by decide, fun h => by omega⟩
theorem a_178 {σ : zS} : zAr σ 200 20 12 178 := ⟨by decide, by decide, by decide, fun h => by omega⟩
theorem a_179 {σ : zS} : zAr σ 200 20 12 179 := ⟨by decide, by decide, by decide, fun h => by omega⟩
theorem a_180 {σ : zS} : zAr σ 200 20 12 180 := ⟨by decide, by decide, by decide, fun h => by omega⟩
theorem a_181 {σ : zS} : zAr σ 200 20 12 181 := ⟨by decide, by decide, by decide, fun h => by omega⟩
theorem a_182 {σ : zS} : zAr σ 200 25 60 182 := ⟨by decide, by decide, by decide, fun h => by omega⟩
theorem a_243 {σ : zS} : zAr σ 200 20 60 243 := ⟨by decide, by decide, by decide, fun h => by omega⟩
theorem a_244 {σ : zS} : zAr σ 200 21 400 244 := ⟨by decide, by decide, by decide, fun h => by omega⟩
theorem a_245 {σ : zS} : zAr σ 200 25 2 245 := ⟨by decide, by decide, by decide, fun h => by omega⟩
theorem a_246 {σ : zS} : zAr σ 200 20 420 246 := ⟨by decide, by decide, by decide, fun h => by omega⟩
theorem a_247 {σ : zS} : zAr σ 200 20 420 247 := ⟨by decide, by decide, by decide, fun h => by omega⟩
theorem a_248 {σ : zS} : zAr σ 200 25 2 248 := ⟨by decide, by decide, by decide, fun h => by omega⟩
theorem a_249 {σ : zS} : zAr σ 200 20 13 249 := ⟨by decide, by decide, by decide, fun h => by omega⟩
theorem a_250 {σ : zS} : zAr σ 200 20 13 250 := ⟨by decide, by decide, by decide, fun h => by omega⟩
theorem a_251 {σ : zS} : zAr σ 200 25 2 251 := ⟨by decide, by decide, by decide, fun h => by omega⟩
theorem a_252 {σ : zS} : zAr σ 200 20 13 252 := ⟨by decide, by decide, by decide, fun h => by omega⟩
theorem a_253 {σ : zS} : zAr σ 200 20 13 253 := ⟨by decide, by decide, by decide, fun h => by omega⟩
theorem a_254 {σ : zS} : zAr σ 200 25 2 254 := ⟨by decide, by decide, by decide, fun h => by omega⟩
theorem a_255 {σ : zS} : zAr σ 200 20 13 255 := ⟨by decide, by decide, by decide, fun h => by omega⟩
theorem a_256 {σ : zS} : zAr σ 200 20 13 256 := ⟨by decide, by decide, by decide, fun h => by omega⟩
theorem a_257 {σ : zS} : zAr σ 200 20 2 257 := ⟨by decide, by decide, by decide, fun h => by omega⟩
theorem a_258 {σ : zS} : zAr σ 200 20 2 258 := ⟨by decide, by decide, by decide, fun h => by omega⟩
theorem a_259 {σ : zS} : zAr σ 200 22 2 259 := ⟨by decide, by decide, by decide, fun h => by omega⟩
theorem a_260 {σ : zS} : zAr σ 200 20 420 260 := ⟨by decide, by decide, by decide, fun h => by omega⟩
theorem a_261 {σ : zS} : zAr σ 200 20 7 261 := ⟨by decide, by decide, by decide, fun h => by omega⟩
theorem a_262 {σ : zS} : zAr σ 200 26 7 262 := ⟨by decide, by decide, by decide, fun h => by omega⟩
theorem a_263 {σ : zS} : zAr σ 200 26 7 263 := ⟨by decide, by decide, by decide, fun h => by omega⟩
theorem zk_Te : ∀ o, o < 264 → 104 ≤ o → o < 164 → zk o = 6 := by decide +kernel
theorem i_Te {σ : zS} {o : Nat} (h : 104 ≤ o ∧ o < 164) : zIs σ 200 5 o := ⟨zCl5, zk_Te o (by omega) h.1 h.2, by omega, fun q => by omega⟩
theorem zk_Th : ∀ o, o < 264 → 92 ≤ o → o < 104 → zk o = 7 := by decide +kernel
theorem i_Th {σ : zS} {o : Nat} (h : 92 ≤ o ∧ o < 104) : zIs σ 200 6 o := ⟨zCl6, zk_Th o (by omega) h.1 h.2, by omega, fun q => by omega⟩
theorem zk_row : ∀ o, o < 264 → 183 ≤ o → o < 243 → zk o = 20 ∧ zn o = 9 := by decide +kernel
theorem a_row {σ : zS} {o : Nat} (h : 183 ≤ o ∧ o < 243) : zAr σ 200 20 9 o := ⟨(zk_row o (by omega) h.1 h.2).1, (zk_row o (by omega) h.1 h.2).2, by omega, fun q => by omega⟩
theorem zk_mk : ∀ o, o < 264 → 246 ≤ o → o < 248 → zk o = 20 ∧ zn o = 420 := by decide +kernel
theorem a_mk {σ : zS} {o : Nat} (h : 246 ≤ o ∧ o < 248) : zAr σ 200 20 420 o := ⟨(zk_mk o (by omega) h.1 h.2).1, (zk_mk o (by omega) h.1 h.2).2, by omega, fun q => by omega⟩
theorem zk_bg : ∀ o, o < 264 → 249 ≤ o → o < 251 → zk o = 20 ∧ zn o = 13 := by decide +kernel
theorem a_bg {σ : zS} {o : Nat} (h : 249 ≤ o ∧ o < 251) : zAr σ 200 20 13 o := ⟨(zk_bg o (by omega) h.1 h.2).1, (zk_bg o (by omega) h.1 h.2).2, by omega, fun q => by omega⟩
theorem zk_mn : ∀ o, o < 264 → 252 ≤ o → o < 254 → zk o = 20 ∧ zn o = 13 := by decide +kernel
theorem a_mn {σ : zS} {o : Nat} (h : 252 ≤ o ∧ o < 254) : zAr σ 200 20 13 o := ⟨(zk_mn o (by omega) h.1 h.2).1, (zk_mn o (by omega) h.1 h.2).2, by omega, fun q => by omega⟩
theorem zk_sy : ∀ o, o < 264 → 255 ≤ o → o < 257 → zk o = 20 ∧ zn o = 13 := by decide +kernel
theorem a_sy {σ : zS} {o : Nat} (h : 255 ≤ o ∧ o < 257) : zAr σ 200 20 13 o := ⟨(zk_sy o (by omega) h.1 h.2).1, (zk_sy o (by omega) h.1 h.2).2, by omega, fun q => by omega⟩
theorem i_Ru {σ : zS} {o : Nat} (h : o = 79 ∨ o = 85) : zIs σ 200 3 o := by
  rcases h with rfl | rfl
  · exact i_79
  · exact i_85
theorem a_Ru1 {σ : zS} {o : Nat} (h : o = 79 ∨ o = 85) : zAr σ 200 20 400 (o + 1) := by
  rcases h with rfl | rfl
  · exact a_80
  · exact a_86
theorem r_Ru1 {s : zS} {o : Nat} (hR : zRok s) (h : o = 79 ∨ o = 85) : s.2.2.1 o 0 = o + 1 := by
  rcases h with rfl | rfl
  · exact r_79_0 hR
  · exact r_85_0 hR
theorem a_Ru2 {σ : zS} {o : Nat} (h : o = 79 ∨ o = 85) : zAr σ 200 20 12 (o + 2) := by
  rcases h with rfl | rfl
  · exact a_81
  · exact a_87
theorem r_Ru2 {s : zS} {o : Nat} (hR : zRok s) (h : o = 79 ∨ o = 85) : s.2.2.1 o 6 = o + 2 := by
  rcases h with rfl | rfl
  · exact r_79_6 hR
  · exact r_85_6 hR
theorem a_Ru3 {σ : zS} {o : Nat} (h : o = 79 ∨ o = 85) : zAr σ 200 20 12 (o + 3) := by
  rcases h with rfl | rfl
  · exact a_82
  · exact a_88
theorem r_Ru3 {s : zS} {o : Nat} (hR : zRok s) (h : o = 79 ∨ o = 85) : s.2.2.1 o 7 = o + 3 := by
  rcases h with rfl | rfl
  · exact r_79_7 hR
  · exact r_85_7 hR
theorem a_Ru4 {σ : zS} {o : Nat} (h : o = 79 ∨ o = 85) : zAr σ 200 20 12 (o + 4) := by
  rcases h with rfl | rfl
  · exact a_83
  · exact a_89
theorem r_Ru4 {s : zS} {o : Nat} (hR : zRok s) (h : o = 79 ∨ o = 85) : s.2.2.1 o 8 = o + 4 := by
  rcases h with rfl | rfl
  · exact r_79_8 hR
  · exact r_85_8 hR
theorem a_Ru5 {σ : zS} {o : Nat} (h : o = 79 ∨ o = 85) : zAr σ 200 20 24 (o + 5) := by
  rcases h with rfl | rfl
  · exact a_84
  · exact a_90
theorem r_Ru5 {s : zS} {o : Nat} (hR : zRok s) (h : o = 79 ∨ o = 85) : s.2.2.1 o 9 = o + 5 := by
  rcases h with rfl | rfl
  · exact r_79_9 hR
  · exact r_85_9 hR
/-! ===== small rows that the printed runs use ===== -/
theorem zI_eq {σ : zS} {o k : Nat} {v : Int32} : (zI σ o k v).1 o k = v := by simp [zI]
theorem zI_o {σ : zS} {o k p q : Nat} {v : Int32} (h : ¬ p = o) : (zI σ o k v).1 p q = σ.1 p q := by simp [zI, h]
theorem zI_k {σ : zS} {o k p q : Nat} {v : Int32} (h : ¬ q = k) : (zI σ o k v).1 p q = σ.1 p q := by simp [zI, h]
theorem zLg_eq {σ : zS} {o k : Nat} {v : Int64} : (zLg σ o k v).2.1 o k = v := by simp [zLg]
theorem zLg_o {σ : zS} {o k p q : Nat} {v : Int64} (h : ¬ p = o) : (zLg σ o k v).2.1 p q = σ.2.1 p q := by simp [zLg, h]
theorem zLg_k {σ : zS} {o k p q : Nat} {v : Int64} (h : ¬ q = k) : (zLg σ o k v).2.1 p q = σ.2.1 p q := by simp [zLg, h]
theorem zit {c : Prop} [Decidable c] {a b : Prop} (h : if c then a else b) (hc : c) : a := by rwa [if_pos hc] at h
theorem zif {c : Prop} [Decidable c] {a b : Prop} (h : if c then a else b) (hc : ¬ c) : b := by rwa [if_neg hc] at h
theorem zN200 {n : Nat} : 200 ≤ n → n ≤ 200 → n = 200 := fun a b => Nat.le_antisymm b a
theorem zy200 {n : Nat} : 200 ≤ n → n ≤ 200 → n = 200 ∧ 200 ≤ 200 ∧ 200 ≤ 200 := fun a b => ⟨Nat.le_antisymm b a, Nat.le_refl _, Nat.le_refl _⟩
theorem zb_nar (b : Bool) : narrow .boolean (.int (zb b)) = .int (zb b) := by cases b <;> rfl
theorem zb_fits (b : Bool) : fits .boolean (.int (zb b)) = true := by cases b <;> rfl
theorem zb_0 {b : Bool} : zb b = 0 ↔ b = false := by cases b <;> decide
theorem zb_1 {b : Bool} : zb b = 1 ↔ b = true := by cases b <;> decide
section ZF
variable {l : Launch} {g : zG} {d z0 z1 : Nat} {M : zM} {pc pn : Nat} {ls st : List Value} {σ : zS} {K : Option Value → zS → Prop}
theorem z_ifb_eq {b : Bool} {off : Int} {pt : Nat} (hd : decode M.2.1 pc = .ok (.ifCond .eq off, 3)) (ht : (pc : Int) + off = (pt : Int)) (hn : pc + 3 = pn) (kt : b = false → zAt l g d z0 z1 M pt ls st σ K) (kf : b = true → zAt l g d z0 z1 M pn ls st σ K) : zAt l g d z0 z1 M pc ls (.int (zb b) :: st) σ K :=
  z_if_eq hd ht hn (fun h => kt (zb_0.mp h)) (fun h => kf (by cases b with
  | false => exact absurd rfl h
  | true => rfl))
theorem z_ifb_ne {b : Bool} {off : Int} {pt : Nat} (hd : decode M.2.1 pc = .ok (.ifCond .ne off, 3)) (ht : (pc : Int) + off = (pt : Int)) (hn : pc + 3 = pn) (kt : b = true → zAt l g d z0 z1 M pt ls st σ K) (kf : b = false → zAt l g d z0 z1 M pn ls st σ K) : zAt l g d z0 z1 M pc ls (.int (zb b) :: st) σ K :=
  z_if_ne hd ht hn (fun h => kt (by cases b with
  | false => exact absurd rfl h
  | true => rfl)) (fun h => kf (zb_0.mp h))
theorem z_swout {x : Int32} (lo : Int) (n : Nat) (h : ∀ j : Nat, j < n → ¬ x = Int32.ofInt (lo + j)) {hi : Int} (hh : hi = lo + n - 1 := by decide) : x.toInt < lo ∨ hi < x.toInt := by
  by_cases a : x.toInt < lo
  · exact Or.inl a
  · refine Or.inr (Int.not_le.mp fun b => h (x.toInt - lo).toNat (by omega) ?_)
    rw [show lo + ((x.toInt - lo).toNat : Int) = x.toInt by omega, Int32.ofInt_toInt]
theorem z_lkout {x df : Int} : ∀ {ps : List (Int × Int)}, (∀ q ∈ ps, ¬ x = q.1) → Op.lookupswitch.offset ps df x = df
  | [], _ => rfl
  | (a, o) :: r, h => by
    rw [Op.lookupswitch.offset_cons, if_neg (fun e => h (a, o) List.mem_cons_self e.symm)]
    exact z_lkout (fun q hq => h q (List.mem_cons_of_mem _ hq))
theorem zincn {x : Int32} {n : Int} {m : Int32} (h : Int32.ofInt n = -m) : x + Int32.ofInt n = x - m := by rw [h, Int32.sub_eq_add_neg]
theorem z_toInt_ne {x y : Int32} {a : Int} (ha : y.toInt = a) (h : ¬ x = y) : ¬ x.toInt = a := fun e => h (Int32.toInt_inj.mp (e.trans ha.symm))
theorem z_pop {a : Value} (hd : decode M.2.1 pc = .ok (.pop, 1)) (ha : a.category = 1) (hn : pc + 1 = pn) (k : zAt l g d z0 z1 M pn ls st σ K) : zAt l g d z0 z1 M pc ls (a :: st) σ K := by
  subst hn
  intro p e R s m args below meth c Q C H locs mls h1 h2 h3 h4 h5
  exact lv_pop C.1 C.2.1 hd ((zmv_cat g a).trans ha) (k p e R s m args below meth c Q C H locs mls h1 h2 h3 h4 h5)
/-! texts -/
theorem zad_lo {o : Nat} (h : o < 64) : zad g o = g.2.2.2.1 o := if_pos h
theorem z_ldcS {i idx : Nat} (hi : i < 20) (ho : (zSo i).1 = M.1.cls) (hx : (zSo i).2.1 = idx) (hd : decode M.2.1 pc = .ok (.ldc idx, 2)) (hn : pc + 2 = pn) (k : zAt l g d z0 z1 M pn ls (.ref (2 + i) :: st) σ K) : zAt l g d z0 z1 M pc ls st σ K := by
  subst hn
  subst hx
  intro p e R s m args below meth c Q C H locs mls h1 h2 h3 h4 h5
  have hZ := C.2.2.2.2.2.2.1.2.2.2.1 i hi
  rw [ho] at hZ
  have k9 := k p e R s m args below meth c Q C H locs mls h1 h2 h3 h4 h5
  have e9 : zmv g (.ref (2 + i)) = .ref (g.2.2.2.1 (2 + i)) := by show Value.ref _ = _; rw [zad_lo (by omega)]
  rw [List.map_cons, e9] at k9
  exact va_ldcS C.1 C.2.1 C.2.2.2.2.1 hZ hd k9
theorem zz_ldcw {p : Program} {e : Env} {R : Room} {s : State} {m : MethodId} {args : Array Value} {below : List Frame} {meth : Method} {c : Code} {T : State} {locs : List Loc} {cells slots : Nat} (X : Stand p l e R s m args below meth c T locs cells slots) (hexec : p.tables.exec = Jvm.exec) {own text : String} {idx : Nat} {a : Addr} {A : Array Value} {U : State} (hUv : U.vm = s.vm) (hown : s.vm.findClass own = some m.cls)
    (hconst : (Cond.stringRef own idx text).before A s = true) (hev : (Term.string own idx).eval A s none [] s = some (.ref a)) {g9 : JFrame} (hg : g9.method = m) (hdg : decode c.code g9.pc = .ok (.ldc_w idx, 3)) :
    ∀ target, Steps p.tables e below (T.setTop { g9 with pc := g9.pc + 3, stack := .ref a :: g9.stack }) target → Steps p.tables e below (T.setTop g9) target := by
  obtain ⟨k, cf, i, a', hk, hcf, hcp, -, hr, hev'⟩ := Cond.stringRef_spec hown hconst
  cases hev.symm.trans hev'
  obtain ⟨k', hk', he⟩ := X.warmed.alike.2.2 _ _ hk
  have hr' : k'.resolved[idx]? = some (some (.string a)) := by
    rcases X.warmed.entry hk hk' idx with h | ⟨h, -⟩
    · rw [h]; exact hr
    · rw [hr] at h; cases h
  intro target hrest
  subst hg
  jvm_step X.here [hexec, hdg, ldc_w.wp_string (e := e) (s := T) (f := g9) X.here.top hk' (by rw [he]; exact hcf) hcp hr']
  exact hrest
theorem z_ldcSw {i idx : Nat} (hi : i < 20) (ho : (zSo i).1 = M.1.cls) (hx : (zSo i).2.1 = idx) (hd : decode M.2.1 pc = .ok (.ldc_w idx, 3)) (hn : pc + 3 = pn) (k : zAt l g d z0 z1 M pn ls (.ref (2 + i) :: st) σ K) : zAt l g d z0 z1 M pc ls st σ K := by
  subst hn
  subst hx
  intro p e R s m args below meth c Q C H locs mls h1 h2 h3 h4 h5
  have hZ := C.2.2.2.2.2.2.1.2.2.2.1 i hi
  rw [ho] at hZ
  have k9 := k p e R s m args below meth c Q C H locs mls h1 h2 h3 h4 h5
  have e9 : zmv g (.ref (2 + i)) = .ref (g.2.2.2.1 (2 + i)) := by show Value.ref _ = _; rw [zad_lo (by omega)]
  rw [List.map_cons, e9] at k9
  intro T hT X
  obtain ⟨t, a1, b1⟩ := k9 T hT X
  exact ⟨t, zz_ldcw X C.1 (U := s) rfl C.2.2.2.2.1 hZ.1 hZ.2 (g9 := F0 m pc mls (st.map (zmv g))) rfl (by rw [C.2.1]; exact hd) t a1, b1⟩
theorem zRec_s {i : Nat} (hi : i < 20) : zRec g z0 σ (2 + i) "java/lang/String" := fun s H locs hK hW hz hS => by
  rw [zad_lo (by omega)]
  have h9 := vk_recv (i := i) (adK := fun i => g.2.2.2.1 (2 + i)) hK.2.2.1 hi hS
  exact h9
theorem z_sgetV {i idx : Nat} (hi : i < 20) (hl : Cond.fieldLink M.1.cls idx "java/lang/String" "value" "[B" ∈ lw_g) (hd : decode M.2.1 pc = .ok (.getfield idx, 3)) (hn : pc + 3 = pn) (k : zAt l g d z0 z1 M pn ls (.ref (22 + i) :: st) σ K) : zAt l g d z0 z1 M pc ls (.ref (2 + i) :: st) σ K := by
  subst hn
  intro p e R s m args below meth c Q C H locs mls h1 h2 h3 h4 h5
  have k9 := k p e R s m args below meth c Q C H locs mls h1 h2 h3 h4 h5
  have e1 : zmv g (.ref (2 + i)) = .ref (g.2.2.2.1 (2 + i)) := by show Value.ref _ = _; rw [zad_lo (by omega)]
  have e2 : zmv g (.ref (22 + i)) = .ref (g.2.2.2.1 (22 + i)) := by show Value.ref _ = _; rw [zad_lo (by omega)]
  rw [List.map_cons, e2] at k9
  rw [List.map_cons, e1]
  exact vk_getf C.1 C.2.1 (C.2.2.2.2.2.2.1.2.2.1.1 i hi).2.2.1 h4 C.2.2.2.2.1 (C.2.2.2.1 _ hl) (fun _ q => q) hd k9
theorem z_sgetC {i idx : Nat} (hi : i < 20) (hl : Cond.fieldLink M.1.cls idx "java/lang/String" "coder" "B" ∈ lw_g) (hd : decode M.2.1 pc = .ok (.getfield idx, 3)) (hn : pc + 3 = pn) (k : zAt l g d z0 z1 M pn ls (.int 0 :: st) σ K) : zAt l g d z0 z1 M pc ls (.ref (2 + i) :: st) σ K := by
  subst hn
  intro p e R s m args below meth c Q C H locs mls h1 h2 h3 h4 h5
  have k9 := k p e R s m args below meth c Q C H locs mls h1 h2 h3 h4 h5
  have e1 : zmv g (.ref (2 + i)) = .ref (g.2.2.2.1 (2 + i)) := by show Value.ref _ = _; rw [zad_lo (by omega)]
  rw [List.map_cons, e1]
  exact vk_getf C.1 C.2.1 (C.2.2.2.2.2.2.1.2.2.1.1 i hi).2.1 h4 C.2.2.2.2.1 (C.2.2.2.1 _ hl) (fun _ q => q) hd k9
def zslen (i : Nat) : Int32 := Int32.ofNat (zSl.getD i 0)
def zsby (i k : Nat) : Int32 := (zSb.getD i []).getD k 0
theorem z_salen {i : Nat} (hi : i < 20) (hd : decode M.2.1 pc = .ok (.arraylength, 1)) (hn : pc + 1 = pn) (k : zAt l g d z0 z1 M pn ls (.int (zslen i) :: st) σ K) : zAt l g d z0 z1 M pc ls (.ref (22 + i) :: st) σ K := by
  subst hn
  intro p e R s m args below meth c Q C H locs mls h1 h2 h3 h4 h5
  have k9 := k p e R s m args below meth c Q C H locs mls h1 h2 h3 h4 h5
  have e2 : zmv g (.ref (22 + i)) = .ref (g.2.2.2.1 (22 + i)) := by show Value.ref _ = _; rw [zad_lo (by omega)]
  rw [List.map_cons, e2]
  exact va_tlen C.1 C.2.1 (C.2.2.2.2.2.2.1.2.2.1.1 i hi).2.2.2 h4 rfl hd k9
theorem z_sbald {i : Nat} {x : Int32} (hi : i < 20) (hin : vp_in x (zSl.getD i 0)) (hd : decode M.2.1 pc = .ok (.baload, 1)) (hn : pc + 1 = pn) (k : zAt l g d z0 z1 M pn ls (.int (zsby i x.toNatClampNeg) :: st) σ K) : zAt l g d z0 z1 M pc ls (.int x :: .ref (22 + i) :: st) σ K := by
  subst hn
  intro p e R s m args below meth c Q C H locs mls h1 h2 h3 h4 h5
  have k9 := k p e R s m args below meth c Q C H locs mls h1 h2 h3 h4 h5
  have e2 : zmv g (.ref (22 + i)) = .ref (g.2.2.2.1 (22 + i)) := by show Value.ref _ = _; rw [zad_lo (by omega)]
  rw [List.map_cons, List.map_cons, e2]
  exact va_tb C.1 C.2.1 (C.2.2.2.2.2.2.1.2.2.1.1 i hi).2.2.2 h4 hin (v := .int (zsby i x.toNatClampNeg)) rfl hd k9
theorem z_getC {idx : Nat} (hl : Cond.fieldLink M.1.cls idx "java/lang/String" "COMPACT_STRINGS" "Z" ∈ lw_g) (hd : decode M.2.1 pc = .ok (.getstatic idx, 3)) (hn : pc + 3 = pn) (k : zAt l g d z0 z1 M pn ls (.int 1 :: st) σ K) : zAt l g d z0 z1 M pc ls st σ K := by
  subst hn
  intro p e R s m args below meth c Q C H locs mls h1 h2 h3 h4 h5
  exact va_gets C.1 C.2.1 C.2.2.2.2.2.2.1.2.2.2.2.1 h4 C.2.2.2.2.1 (C.2.2.2.1 _ hl) (fun _ q => q) hd (k p e R s m args below meth c Q C H locs mls h1 h2 h3 h4 h5)
theorem z_getF {idx : Nat} (hl : Cond.fieldLink M.1.cls idx "jdk/internal/util/Preconditions" "SIOOBE_FORMATTER" "Ljava/util/function/BiFunction;" ∈ lw_g) (hd : decode M.2.1 pc = .ok (.getstatic idx, 3)) (hn : pc + 3 = pn) (k : ∀ v, v = .null ∨ v = .ref 63 → zAt l g d z0 z1 M pn ls (v :: st) σ K) : zAt l g d z0 z1 M pc ls st σ K := by
  subst hn
  intro p e R s m args below meth c Q C H locs mls h1 h2 h3 h4 h5
  rcases C.2.2.2.2.2.2.1.2.2.2.2.2.1 with h | h
  · exact va_gets C.1 C.2.1 h h4 C.2.2.2.2.1 (C.2.2.2.1 _ hl) (fun _ q => q) hd (k .null (Or.inl rfl) p e R s m args below meth c Q C H locs mls h1 h2 h3 h4 h5)
  · exact va_gets C.1 C.2.1 h h4 C.2.2.2.2.1 (C.2.2.2.1 _ hl) (fun _ q => q) hd (k (.ref 63) (Or.inr rfl) p e R s m args below meth c Q C H locs mls h1 h2 h3 h4 h5)
theorem z_scrl {v : Int32} (hv : Int32.ofNat g.2.2.2.2.1 = v) (hd : decode M.2.1 pc = .ok (.arraylength, 1)) (hn : pc + 1 = pn) (k : zAt l g d z0 z1 M pn ls (.int v :: st) σ K) : zAt l g d z0 z1 M pc ls (.ref 1 :: st) σ K := by
  subst hn
  subst hv
  intro p e R s m args below meth c Q C H locs mls h1 h2 h3 h4 h5
  have hX := C.2.2.2.2.2.2.1.2.2.2.2.2.2
  have k9 := k p e R s m args below meth c Q C H locs mls h1 h2 h3 h4 h5
  have e1 : zmv g (.ref 1) = .ref (g.2.2.2.1 1) := by show Value.ref _ = _; rw [zad_lo (by omega)]
  rw [List.map_cons, e1]
  exact va_slen C.1 C.2.1 hX.1 (zX_lt hX.1) hX.2.1 h4 hd k9
theorem z_scr {i x : Int32} (hx : g.2.2.2.2.2 i.toNatClampNeg = x) (hin : vp_in i g.2.2.2.2.1) (hd : decode M.2.1 pc = .ok (.iaload, 1)) (hn : pc + 1 = pn) (k : zAt l g d z0 z1 M pn ls (.int x :: st) σ K) : zAt l g d z0 z1 M pc ls (.int i :: .ref 1 :: st) σ K := by
  subst hn
  subst hx
  intro p e R s m args below meth c Q C H locs mls h1 h2 h3 h4 h5
  have hX := C.2.2.2.2.2.2.1.2.2.2.2.2.2
  have k9 := k p e R s m args below meth c Q C H locs mls h1 h2 h3 h4 h5
  have e1 : zmv g (.ref 1) = .ref (g.2.2.2.1 1) := by show Value.ref _ = _; rw [zad_lo (by omega)]
  rw [List.map_cons, List.map_cons, e1]
  exact va_sld C.1 C.2.1 hX.1 (zX_lt hX.1) hX.2.1 h4 hin hd k9
end ZF
end
section
/-! ===== the JDK methods that are reached, and in(..) of the reference ===== -/
theorem l_J0_38 : Cond.fieldLink RJ0 38 "java/lang/String" "COMPACT_STRINGS" "Z" ∈ lw_g := zin 738 (by decide +kernel) (by decide +kernel)
theorem l_J0_9 : Cond.fieldLink RJ0 9 "java/lang/String" "value" "[B" ∈ lw_g := zin 1488 (by decide +kernel) (by decide +kernel)
theorem l_J0_15 : Cond.fieldLink RJ0 15 "java/lang/String" "coder" "B" ∈ lw_g := zin 1489 (by decide +kernel) (by decide +kernel)
theorem l_J0_1053 : Cond.fieldLink RJ0 1053 "jdk/internal/util/Preconditions" "SIOOBE_FORMATTER" "Ljava/util/function/BiFunction;" ∈ lw_g := zin 754 (by decide +kernel) (by decide +kernel)
theorem dJ9_max_7cf53_0 : decode cJ9_max_7cf53 0 = .ok (.iload_n 0, 1) := by decide +kernel
theorem dJ9_max_7cf53_1 : decode cJ9_max_7cf53 1 = .ok (.iload_n 1, 1) := by decide +kernel
theorem dJ9_max_7cf53_2 : decode cJ9_max_7cf53 2 = .ok (.if_icmp .lt 7, 3) := by decide +kernel
theorem dJ9_max_7cf53_5 : decode cJ9_max_7cf53 5 = .ok (.iload_n 0, 1) := by decide +kernel
theorem dJ9_max_7cf53_6 : decode cJ9_max_7cf53 6 = .ok (.goto 4, 3) := by decide +kernel
theorem dJ9_max_7cf53_9 : decode cJ9_max_7cf53 9 = .ok (.iload_n 1, 1) := by decide +kernel
theorem dJ9_max_7cf53_10 : decode cJ9_max_7cf53 10 = .ok (.ireturn, 1) := by decide +kernel
set_option maxHeartbeats 4000000 in
set_option maxRecDepth 100000 in
theorem t_J9_max_7cf53 {l : Launch} {g : zG} {d : Nat} {s : zS} {p0 : Int32} {p1 : Int32} {K : Int32 → zS → Prop} (h : (if p0 < p1 then K p1 s else K p0 s)) : zc l g d M_J9_max_7cf53 [.int p0, .int p1] s (zKi K) := by
  refine zCall_of k_J9_max_7cf53 (Nat.le_of_ble_eq_true rfl) (Nat.le_refl _) (fun _ => ?_)
  show zt l g d M_J9_max_7cf53 0 [.int p0, .int p1] [] s (zKi K)
  refine z_iload_n (i := 0) dJ9_max_7cf53_0 rfl rfl rfl ?_
  refine z_iload_n (i := 1) dJ9_max_7cf53_1 rfl rfl rfl ?_
  refine z_icmp_lt (pt := 9) dJ9_max_7cf53_2 (by decide) rfl (fun c => ?_) (fun c => ?_)
  · have h := zit h c
    refine z_iload_n (i := 1) dJ9_max_7cf53_9 rfl rfl rfl ?_
    exact z_ret (some (.int p1)) (Or.inr (Or.inl ⟨_, _, rfl, rfl, rfl, dJ9_max_7cf53_10⟩)) zN200 ⟨_, rfl, h⟩
  · have h := zif h c
    refine z_iload_n (i := 0) dJ9_max_7cf53_5 rfl rfl rfl ?_
    refine z_goto (pn := 10) dJ9_max_7cf53_6 (by decide) ?_
    exact z_ret (some (.int p0)) (Or.inr (Or.inl ⟨_, _, rfl, rfl, rfl, dJ9_max_7cf53_10⟩)) zN200 ⟨_, rfl, h⟩
theorem dJ9_min_7cf53_0 : decode cJ9_min_7cf53 0 = .ok (.iload_n 0, 1) := by decide +kernel
theorem dJ9_min_7cf53_1 : decode cJ9_min_7cf53 1 = .ok (.iload_n 1, 1) := by decide +kernel
theorem dJ9_min_7cf53_2 : decode cJ9_min_7cf53 2 = .ok (.if_icmp .gt 7, 3) := by decide +kernel
theorem dJ9_min_7cf53_5 : decode cJ9_min_7cf53 5 = .ok (.iload_n 0, 1) := by decide +kernel
theorem dJ9_min_7cf53_6 : decode cJ9_min_7cf53 6 = .ok (.goto 4, 3) := by decide +kernel
theorem dJ9_min_7cf53_9 : decode cJ9_min_7cf53 9 = .ok (.iload_n 1, 1) := by decide +kernel
theorem dJ9_min_7cf53_10 : decode cJ9_min_7cf53 10 = .ok (.ireturn, 1) := by decide +kernel
set_option maxHeartbeats 4000000 in
set_option maxRecDepth 100000 in
theorem t_J9_min_7cf53 {l : Launch} {g : zG} {d : Nat} {s : zS} {p0 : Int32} {p1 : Int32} {K : Int32 → zS → Prop} (h : (if p1 < p0 then K p1 s else K p0 s)) : zc l g d M_J9_min_7cf53 [.int p0, .int p1] s (zKi K) := by
  refine zCall_of k_J9_min_7cf53 (Nat.le_of_ble_eq_true rfl) (Nat.le_refl _) (fun _ => ?_)
  show zt l g d M_J9_min_7cf53 0 [.int p0, .int p1] [] s (zKi K)
  refine z_iload_n (i := 0) dJ9_min_7cf53_0 rfl rfl rfl ?_
  refine z_iload_n (i := 1) dJ9_min_7cf53_1 rfl rfl rfl ?_
  refine z_icmp_gt (pt := 9) dJ9_min_7cf53_2 (by decide) rfl (fun c => ?_) (fun c => ?_)
  · have h := zit h c
    refine z_iload_n (i := 1) dJ9_min_7cf53_9 rfl rfl rfl ?_
    exact z_ret (some (.int p1)) (Or.inr (Or.inl ⟨_, _, rfl, rfl, rfl, dJ9_min_7cf53_10⟩)) zN200 ⟨_, rfl, h⟩
  · have h := zif h c
    refine z_iload_n (i := 0) dJ9_min_7cf53_5 rfl rfl rfl ?_
    refine z_goto (pn := 10) dJ9_min_7cf53_6 (by decide) ?_
    exact z_ret (some (.int p0)) (Or.inr (Or.inl ⟨_, _, rfl, rfl, rfl, dJ9_min_7cf53_10⟩)) zN200 ⟨_, rfl, h⟩
theorem dJ9_abs_0f7a4_0 : decode cJ9_abs_0f7a4 0 = .ok (.iload_n 0, 1) := by decide +kernel
theorem dJ9_abs_0f7a4_1 : decode cJ9_abs_0f7a4 1 = .ok (.ifCond .ge 8, 3) := by decide +kernel
theorem dJ9_abs_0f7a4_4 : decode cJ9_abs_0f7a4 4 = .ok (.iload_n 0, 1) := by decide +kernel
theorem dJ9_abs_0f7a4_5 : decode cJ9_abs_0f7a4 5 = .ok (.ineg, 1) := by decide +kernel
theorem dJ9_abs_0f7a4_6 : decode cJ9_abs_0f7a4 6 = .ok (.goto 4, 3) := by decide +kernel
theorem dJ9_abs_0f7a4_9 : decode cJ9_abs_0f7a4 9 = .ok (.iload_n 0, 1) := by decide +kernel
theorem dJ9_abs_0f7a4_10 : decode cJ9_abs_0f7a4 10 = .ok (.ireturn, 1) := by decide +kernel
set_option maxHeartbeats 4000000 in
set_option maxRecDepth 100000 in
theorem t_J9_abs_0f7a4 {l : Launch} {g : zG} {d : Nat} {s : zS} {p0 : Int32} {K : Int32 → zS → Prop} (h : (if 0 ≤ p0 then K p0 s else K (-p0) s)) : zc l g d M_J9_abs_0f7a4 [.int p0] s (zKi K) := by
  refine zCall_of k_J9_abs_0f7a4 (Nat.le_of_ble_eq_true rfl) (Nat.le_refl _) (fun _ => ?_)
  show zt l g d M_J9_abs_0f7a4 0 [.int p0] [] s (zKi K)
  refine z_iload_n (i := 0) dJ9_abs_0f7a4_0 rfl rfl rfl ?_
  refine z_if_ge (pt := 9) dJ9_abs_0f7a4_1 (by decide) rfl (fun c => ?_) (fun c => ?_)
  · have h := zit h c
    refine z_iload_n (i := 0) dJ9_abs_0f7a4_9 rfl rfl rfl ?_
    exact z_ret (some (.int p0)) (Or.inr (Or.inl ⟨_, _, rfl, rfl, rfl, dJ9_abs_0f7a4_10⟩)) zN200 ⟨_, rfl, h⟩
  · have h := zif h c
    refine z_iload_n (i := 0) dJ9_abs_0f7a4_4 rfl rfl rfl ?_
    refine z_ineg dJ9_abs_0f7a4_5 rfl ?_
    refine z_goto (pn := 10) dJ9_abs_0f7a4_6 (by decide) ?_
    exact z_ret (some (.int (-p0))) (Or.inr (Or.inl ⟨_, _, rfl, rfl, rfl, dJ9_abs_0f7a4_10⟩)) zN200 ⟨_, rfl, h⟩
theorem dJ9_floorDiv_7cf53_0 : decode cJ9_floorDiv_7cf53 0 = .ok (.iload_n 0, 1) := by decide +kernel
theorem dJ9_floorDiv_7cf53_1 : decode cJ9_floorDiv_7cf53 1 = .ok (.iload_n 1, 1) := by decide +kernel
theorem dJ9_floorDiv_7cf53_2 : decode cJ9_floorDiv_7cf53 2 = .ok (.idiv, 1) := by decide +kernel
theorem dJ9_floorDiv_7cf53_3 : decode cJ9_floorDiv_7cf53 3 = .ok (.istore_n 2, 1) := by decide +kernel
theorem dJ9_floorDiv_7cf53_4 : decode cJ9_floorDiv_7cf53 4 = .ok (.iload_n 0, 1) := by decide +kernel
theorem dJ9_floorDiv_7cf53_5 : decode cJ9_floorDiv_7cf53 5 = .ok (.iload_n 1, 1) := by decide +kernel
theorem dJ9_floorDiv_7cf53_6 : decode cJ9_floorDiv_7cf53 6 = .ok (.ixor, 1) := by decide +kernel
theorem dJ9_floorDiv_7cf53_7 : decode cJ9_floorDiv_7cf53 7 = .ok (.ifCond .ge 14, 3) := by decide +kernel
theorem dJ9_floorDiv_7cf53_10 : decode cJ9_floorDiv_7cf53 10 = .ok (.iload_n 2, 1) := by decide +kernel
theorem dJ9_floorDiv_7cf53_11 : decode cJ9_floorDiv_7cf53 11 = .ok (.iload_n 1, 1) := by decide +kernel
theorem dJ9_floorDiv_7cf53_12 : decode cJ9_floorDiv_7cf53 12 = .ok (.imul, 1) := by decide +kernel
theorem dJ9_floorDiv_7cf53_13 : decode cJ9_floorDiv_7cf53 13 = .ok (.iload_n 0, 1) := by decide +kernel
theorem dJ9_floorDiv_7cf53_14 : decode cJ9_floorDiv_7cf53 14 = .ok (.if_icmp .eq 7, 3) := by decide +kernel
theorem dJ9_floorDiv_7cf53_17 : decode cJ9_floorDiv_7cf53 17 = .ok (.iload_n 2, 1) := by decide +kernel
theorem dJ9_floorDiv_7cf53_18 : decode cJ9_floorDiv_7cf53 18 = .ok (.iconst 1, 1) := by decide +kernel
theorem dJ9_floorDiv_7cf53_19 : decode cJ9_floorDiv_7cf53 19 = .ok (.isub, 1) := by decide +kernel
theorem dJ9_floorDiv_7cf53_20 : decode cJ9_floorDiv_7cf53 20 = .ok (.ireturn, 1) := by decide +kernel
theorem dJ9_floorDiv_7cf53_21 : decode cJ9_floorDiv_7cf53 21 = .ok (.iload_n 2, 1) := by decide +kernel
theorem dJ9_floorDiv_7cf53_22 : decode cJ9_floorDiv_7cf53 22 = .ok (.ireturn, 1) := by decide +kernel
set_option maxHeartbeats 4000000 in
set_option maxRecDepth 100000 in
theorem t_J9_floorDiv_7cf53 {l : Launch} {g : zG} {d : Nat} {s : zS} {p0 : Int32} {p1 : Int32} {K : Int32 → zS → Prop} (h : (¬ p1 = 0 ∧ (if 0 ≤ (p0 ^^^ p1) then K (p0 / p1) s else (if ((p0 / p1) * p1) = p0 then K (p0 / p1) s else K ((p0 / p1) - (1 : Int32)) s)))) : zc l g d M_J9_floorDiv_7cf53 [.int p0, .int p1] s (zKi K) := by
  refine zCall_of k_J9_floorDiv_7cf53 (Nat.le_of_ble_eq_true rfl) (Nat.le_refl _) (fun _ => ?_)
  show zt l g d M_J9_floorDiv_7cf53 0 [.int p0, .int p1, zJ] [] s (zKi K)
  refine z_iload_n (i := 0) dJ9_floorDiv_7cf53_0 rfl rfl rfl ?_
  refine z_iload_n (i := 1) dJ9_floorDiv_7cf53_1 rfl rfl rfl ?_
  obtain ⟨a1, h⟩ := h
  refine z_idiv dJ9_floorDiv_7cf53_2 a1 rfl ?_
  refine z_istore_n (i := 2) dJ9_floorDiv_7cf53_3 rfl (by decide) (zokd rfl) rfl ?_
  show zt l g d M_J9_floorDiv_7cf53 4 [.int p0, .int p1, .int (p0 / p1)] [] s _
  refine z_iload_n (i := 0) dJ9_floorDiv_7cf53_4 rfl rfl rfl ?_
  refine z_iload_n (i := 1) dJ9_floorDiv_7cf53_5 rfl rfl rfl ?_
  refine z_ixor dJ9_floorDiv_7cf53_6 rfl ?_
  refine z_if_ge (pt := 21) dJ9_floorDiv_7cf53_7 (by decide) rfl (fun c => ?_) (fun c => ?_)
  · have h := zit h c
    refine z_iload_n (i := 2) dJ9_floorDiv_7cf53_21 rfl rfl rfl ?_
    exact z_ret (some (.int (p0 / p1))) (Or.inr (Or.inl ⟨_, _, rfl, rfl, rfl, dJ9_floorDiv_7cf53_22⟩)) zN200 ⟨_, rfl, h⟩
  · have h := zif h c
    refine z_iload_n (i := 2) dJ9_floorDiv_7cf53_10 rfl rfl rfl ?_
    refine z_iload_n (i := 1) dJ9_floorDiv_7cf53_11 rfl rfl rfl ?_
    refine z_imul dJ9_floorDiv_7cf53_12 rfl ?_
    refine z_iload_n (i := 0) dJ9_floorDiv_7cf53_13 rfl rfl rfl ?_
    refine z_icmp_eq (pt := 21) dJ9_floorDiv_7cf53_14 (by decide) rfl (fun c => ?_) (fun c => ?_)
    · have h := zit h c
      refine z_iload_n (i := 2) dJ9_floorDiv_7cf53_21 rfl rfl rfl ?_
      exact z_ret (some (.int (p0 / p1))) (Or.inr (Or.inl ⟨_, _, rfl, rfl, rfl, dJ9_floorDiv_7cf53_22⟩)) zN200 ⟨_, rfl, h⟩
    · have h := zif h c
      refine z_iload_n (i := 2) dJ9_floorDiv_7cf53_17 rfl rfl rfl ?_
      refine z_iconst (v := (1 : Int32)) dJ9_floorDiv_7cf53_18 (by decide) rfl ?_
      refine z_isub dJ9_floorDiv_7cf53_19 rfl ?_
      exact z_ret (some (.int ((p0 / p1) - (1 : Int32)))) (Or.inr (Or.inl ⟨_, _, rfl, rfl, rfl, dJ9_floorDiv_7cf53_20⟩)) zN200 ⟨_, rfl, h⟩
theorem dJ9_floorMod_7cf53_0 : decode cJ9_floorMod_7cf53 0 = .ok (.iload_n 0, 1) := by decide +kernel
theorem dJ9_floorMod_7cf53_1 : decode cJ9_floorMod_7cf53 1 = .ok (.iload_n 1, 1) := by decide +kernel
theorem dJ9_floorMod_7cf53_2 : decode cJ9_floorMod_7cf53 2 = .ok (.irem, 1) := by decide +kernel
theorem dJ9_floorMod_7cf53_3 : decode cJ9_floorMod_7cf53 3 = .ok (.istore_n 2, 1) := by decide +kernel
theorem dJ9_floorMod_7cf53_4 : decode cJ9_floorMod_7cf53 4 = .ok (.iload_n 0, 1) := by decide +kernel
theorem dJ9_floorMod_7cf53_5 : decode cJ9_floorMod_7cf53 5 = .ok (.iload_n 1, 1) := by decide +kernel
theorem dJ9_floorMod_7cf53_6 : decode cJ9_floorMod_7cf53 6 = .ok (.ixor, 1) := by decide +kernel
theorem dJ9_floorMod_7cf53_7 : decode cJ9_floorMod_7cf53 7 = .ok (.ifCond .ge 11, 3) := by decide +kernel
theorem dJ9_floorMod_7cf53_10 : decode cJ9_floorMod_7cf53 10 = .ok (.iload_n 2, 1) := by decide +kernel
theorem dJ9_floorMod_7cf53_11 : decode cJ9_floorMod_7cf53 11 = .ok (.ifCond .eq 7, 3) := by decide +kernel
theorem dJ9_floorMod_7cf53_14 : decode cJ9_floorMod_7cf53 14 = .ok (.iload_n 2, 1) := by decide +kernel
theorem dJ9_floorMod_7cf53_15 : decode cJ9_floorMod_7cf53 15 = .ok (.iload_n 1, 1) := by decide +kernel
theorem dJ9_floorMod_7cf53_16 : decode cJ9_floorMod_7cf53 16 = .ok (.iadd, 1) := by decide +kernel
theorem dJ9_floorMod_7cf53_17 : decode cJ9_floorMod_7cf53 17 = .ok (.ireturn, 1) := by decide +kernel
theorem dJ9_floorMod_7cf53_18 : decode cJ9_floorMod_7cf53 18 = .ok (.iload_n 2, 1) := by decide +kernel
theorem dJ9_floorMod_7cf53_19 : decode cJ9_floorMod_7cf53 19 = .ok (.ireturn, 1) := by decide +kernel
set_option maxHeartbeats 4000000 in
set_option maxRecDepth 100000 in
theorem t_J9_floorMod_7cf53 {l : Launch} {g : zG} {d : Nat} {s : zS} {p0 : Int32} {p1 : Int32} {K : Int32 → zS → Prop} (h : (¬ p1 = 0 ∧ (if 0 ≤ (p0 ^^^ p1) then K (p0 % p1) s else (if (p0 % p1) = 0 then K (p0 % p1) s else K ((p0 % p1) + p1) s)))) : zc l g d M_J9_floorMod_7cf53 [.int p0, .int p1] s (zKi K) := by
  refine zCall_of k_J9_floorMod_7cf53 (Nat.le_of_ble_eq_true rfl) (Nat.le_refl _) (fun _ => ?_)
  show zt l g d M_J9_floorMod_7cf53 0 [.int p0, .int p1, zJ] [] s (zKi K)
  refine z_iload_n (i := 0) dJ9_floorMod_7cf53_0 rfl rfl rfl ?_
  refine z_iload_n (i := 1) dJ9_floorMod_7cf53_1 rfl rfl rfl ?_
  obtain ⟨a1, h⟩ := h
  refine z_irem dJ9_floorMod_7cf53_2 a1 rfl ?_
  refine z_istore_n (i := 2) dJ9_floorMod_7cf53_3 rfl (by decide) (zokd rfl) rfl ?_
  show zt l g d M_J9_floorMod_7cf53 4 [.int p0, .int p1, .int (p0 % p1)] [] s _
  refine z_iload_n (i := 0) dJ9_floorMod_7cf53_4 rfl rfl rfl ?_
  refine z_iload_n (i := 1) dJ9_floorMod_7cf53_5 rfl rfl rfl ?_
  refine z_ixor dJ9_floorMod_7cf53_6 rfl ?_
  refine z_if_ge (pt := 18) dJ9_floorMod_7cf53_7 (by decide) rfl (fun c => ?_) (fun c => ?_)
  · have h := zit h c
    refine z_iload_n (i := 2) dJ9_floorMod_7cf53_18 rfl rfl rfl ?_
    exact z_ret (some (.int (p0 % p1))) (Or.inr (Or.inl ⟨_, _, rfl, rfl, rfl, dJ9_floorMod_7cf53_19⟩)) zN200 ⟨_, rfl, h⟩
  · have h := zif h c
    refine z_iload_n (i := 2) dJ9_floorMod_7cf53_10 rfl rfl rfl ?_
    refine z_if_eq (pt := 18) dJ9_floorMod_7cf53_11 (by decide) rfl (fun c => ?_) (fun c => ?_)
    · have h := zit h c
      refine z_iload_n (i := 2) dJ9_floorMod_7cf53_18 rfl rfl rfl ?_
      exact z_ret (some (.int (p0 % p1))) (Or.inr (Or.inl ⟨_, _, rfl, rfl, rfl, dJ9_floorMod_7cf53_19⟩)) zN200 ⟨_, rfl, h⟩
    · have h := zif h c
      refine z_iload_n (i := 2) dJ9_floorMod_7cf53_14 rfl rfl rfl ?_
      refine z_iload_n (i := 1) dJ9_floorMod_7cf53_15 rfl rfl rfl ?_
      refine z_iadd dJ9_floorMod_7cf53_16 rfl ?_
      exact z_ret (some (.int ((p0 % p1) + p1))) (Or.inr (Or.inl ⟨_, _, rfl, rfl, rfl, dJ9_floorMod_7cf53_17⟩)) zN200 ⟨_, rfl, h⟩
theorem dJ9_max_f86c9_0 : decode cJ9_max_f86c9 0 = .ok (.lload_n 0, 1) := by decide +kernel
theorem dJ9_max_f86c9_1 : decode cJ9_max_f86c9 1 = .ok (.lload_n 2, 1) := by decide +kernel
theorem dJ9_max_f86c9_2 : decode cJ9_max_f86c9 2 = .ok (.lcmp, 1) := by decide +kernel
theorem dJ9_max_f86c9_3 : decode cJ9_max_f86c9 3 = .ok (.ifCond .lt 7, 3) := by decide +kernel
theorem dJ9_max_f86c9_6 : decode cJ9_max_f86c9 6 = .ok (.lload_n 0, 1) := by decide +kernel
theorem dJ9_max_f86c9_7 : decode cJ9_max_f86c9 7 = .ok (.goto 4, 3) := by decide +kernel
theorem dJ9_max_f86c9_10 : decode cJ9_max_f86c9 10 = .ok (.lload_n 2, 1) := by decide +kernel
theorem dJ9_max_f86c9_11 : decode cJ9_max_f86c9 11 = .ok (.lreturn, 1) := by decide +kernel
set_option maxHeartbeats 4000000 in
set_option maxRecDepth 100000 in
theorem t_J9_max_f86c9 {l : Launch} {g : zG} {d : Nat} {s : zS} {p0 : Int64} {p1 : Int64} {K : Int64 → zS → Prop} (h : (if (lg_cmp p0 p1) < 0 then K p1 s else K p0 s)) : zc l g d M_J9_max_f86c9 [.long p0, .long p1] s (zKl K) := by
  refine zCall_of k_J9_max_f86c9 (Nat.le_of_ble_eq_true rfl) (Nat.le_refl _) (fun _ => ?_)
  show zt l g d M_J9_max_f86c9 0 [.long p0, zJ, .long p1, zJ] [] s (zKl K)
  refine z_lload_n (i := 0) dJ9_max_f86c9_0 rfl rfl rfl ?_
  refine z_lload_n (i := 2) dJ9_max_f86c9_1 rfl rfl rfl ?_
  refine z_lcmp dJ9_max_f86c9_2 rfl ?_
  refine z_if_lt (pt := 10) dJ9_max_f86c9_3 (by decide) rfl (fun c => ?_) (fun c => ?_)
  · have h := zit h c
    refine z_lload_n (i := 2) dJ9_max_f86c9_10 rfl rfl rfl ?_
    exact z_ret (some (.long p1)) (Or.inr (Or.inr (Or.inr ⟨_, rfl, rfl, dJ9_max_f86c9_11⟩))) zN200 ⟨_, rfl, h⟩
  · have h := zif h c
    refine z_lload_n (i := 0) dJ9_max_f86c9_6 rfl rfl rfl ?_
    refine z_goto (pn := 11) dJ9_max_f86c9_7 (by decide) ?_
    exact z_ret (some (.long p0)) (Or.inr (Or.inr (Or.inr ⟨_, rfl, rfl, dJ9_max_f86c9_11⟩))) zN200 ⟨_, rfl, h⟩
theorem dJ9_min_f86c9_0 : decode cJ9_min_f86c9 0 = .ok (.lload_n 0, 1) := by decide +kernel
theorem dJ9_min_f86c9_1 : decode cJ9_min_f86c9 1 = .ok (.lload_n 2, 1) := by decide +kernel
theorem dJ9_min_f86c9_2 : decode cJ9_min_f86c9 2 = .ok (.lcmp, 1) := by decide +kernel
theorem dJ9_min_f86c9_3 : decode cJ9_min_f86c9 3 = .ok (.ifCond .gt 7, 3) := by decide +kernel
theorem dJ9_min_f86c9_6 : decode cJ9_min_f86c9 6 = .ok (.lload_n 0, 1) := by decide +kernel
theorem dJ9_min_f86c9_7 : decode cJ9_min_f86c9 7 = .ok (.goto 4, 3) := by decide +kernel
theorem dJ9_min_f86c9_10 : decode cJ9_min_f86c9 10 = .ok (.lload_n 2, 1) := by decide +kernel
theorem dJ9_min_f86c9_11 : decode cJ9_min_f86c9 11 = .ok (.lreturn, 1) := by decide +kernel
set_option maxHeartbeats 4000000 in
set_option maxRecDepth 100000 in
theorem t_J9_min_f86c9 {l : Launch} {g : zG} {d : Nat} {s : zS} {p0 : Int64} {p1 : Int64} {K : Int64 → zS → Prop} (h : (if 0 < (lg_cmp p0 p1) then K p1 s else K p0 s)) : zc l g d M_J9_min_f86c9 [.long p0, .long p1] s (zKl K) := by
  refine zCall_of k_J9_min_f86c9 (Nat.le_of_ble_eq_true rfl) (Nat.le_refl _) (fun _ => ?_)
  show zt l g d M_J9_min_f86c9 0 [.long p0, zJ, .long p1, zJ] [] s (zKl K)
  refine z_lload_n (i := 0) dJ9_min_f86c9_0 rfl rfl rfl ?_
  refine z_lload_n (i := 2) dJ9_min_f86c9_1 rfl rfl rfl ?_
  refine z_lcmp dJ9_min_f86c9_2 rfl ?_
  refine z_if_gt (pt := 10) dJ9_min_f86c9_3 (by decide) rfl (fun c => ?_) (fun c => ?_)
  · have h := zit h c
    refine z_lload_n (i := 2) dJ9_min_f86c9_10 rfl rfl rfl ?_
    exact z_ret (some (.long p1)) (Or.inr (Or.inr (Or.inr ⟨_, rfl, rfl, dJ9_min_f86c9_11⟩))) zN200 ⟨_, rfl, h⟩
  · have h := zif h c
    refine z_lload_n (i := 0) dJ9_min_f86c9_6 rfl rfl rfl ?_
    refine z_goto (pn := 11) dJ9_min_f86c9_7 (by decide) ?_
    exact z_ret (some (.long p0)) (Or.inr (Or.inr (Or.inr ⟨_, rfl, rfl, dJ9_min_f86c9_11⟩))) zN200 ⟨_, rfl, h⟩
theorem dJ6_bitCount_0f7a4_0 : decode cJ6_bitCount_0f7a4 0 = .ok (.iload_n 0, 1) := by decide +kernel
theorem dJ6_bitCount_0f7a4_1 : decode cJ6_bitCount_0f7a4 1 = .ok (.iload_n 0, 1) := by decide +kernel
theorem dJ6_bitCount_0f7a4_2 : decode cJ6_bitCount_0f7a4 2 = .ok (.iconst 1, 1) := by decide +kernel
theorem dJ6_bitCount_0f7a4_3 : decode cJ6_bitCount_0f7a4 3 = .ok (.iushr, 1) := by decide +kernel
theorem dJ6_bitCount_0f7a4_4 : decode cJ6_bitCount_0f7a4 4 = .ok (.ldc_w 265, 3) := by decide +kernel
theorem dJ6_bitCount_0f7a4_7 : decode cJ6_bitCount_0f7a4 7 = .ok (.iand, 1) := by decide +kernel
theorem dJ6_bitCount_0f7a4_8 : decode cJ6_bitCount_0f7a4 8 = .ok (.isub, 1) := by decide +kernel
theorem dJ6_bitCount_0f7a4_9 : decode cJ6_bitCount_0f7a4 9 = .ok (.istore_n 0, 1) := by decide +kernel
theorem dJ6_bitCount_0f7a4_10 : decode cJ6_bitCount_0f7a4 10 = .ok (.iload_n 0, 1) := by decide +kernel
theorem dJ6_bitCount_0f7a4_11 : decode cJ6_bitCount_0f7a4 11 = .ok (.ldc_w 266, 3) := by decide +kernel
theorem dJ6_bitCount_0f7a4_14 : decode cJ6_bitCount_0f7a4 14 = .ok (.iand, 1) := by decide +kernel
theorem dJ6_bitCount_0f7a4_15 : decode cJ6_bitCount_0f7a4 15 = .ok (.iload_n 0, 1) := by decide +kernel
theorem dJ6_bitCount_0f7a4_16 : decode cJ6_bitCount_0f7a4 16 = .ok (.iconst 2, 1) := by decide +kernel
theorem dJ6_bitCount_0f7a4_17 : decode cJ6_bitCount_0f7a4 17 = .ok (.iushr, 1) := by decide +kernel
theorem dJ6_bitCount_0f7a4_18 : decode cJ6_bitCount_0f7a4 18 = .ok (.ldc_w 266, 3) := by decide +kernel
theorem dJ6_bitCount_0f7a4_21 : decode cJ6_bitCount_0f7a4 21 = .ok (.iand, 1) := by decide +kernel
theorem dJ6_bitCount_0f7a4_22 : decode cJ6_bitCount_0f7a4 22 = .ok (.iadd, 1) := by decide +kernel
theorem dJ6_bitCount_0f7a4_23 : decode cJ6_bitCount_0f7a4 23 = .ok (.istore_n 0, 1) := by decide +kernel
theorem dJ6_bitCount_0f7a4_24 : decode cJ6_bitCount_0f7a4 24 = .ok (.iload_n 0, 1) := by decide +kernel
theorem dJ6_bitCount_0f7a4_25 : decode cJ6_bitCount_0f7a4 25 = .ok (.iload_n 0, 1) := by decide +kernel
theorem dJ6_bitCount_0f7a4_26 : decode cJ6_bitCount_0f7a4 26 = .ok (.iconst 4, 1) := by decide +kernel
theorem dJ6_bitCount_0f7a4_27 : decode cJ6_bitCount_0f7a4 27 = .ok (.iushr, 1) := by decide +kernel
theorem dJ6_bitCount_0f7a4_28 : decode cJ6_bitCount_0f7a4 28 = .ok (.iadd, 1) := by decide +kernel
theorem dJ6_bitCount_0f7a4_29 : decode cJ6_bitCount_0f7a4 29 = .ok (.ldc_w 267, 3) := by decide +kernel
theorem dJ6_bitCount_0f7a4_32 : decode cJ6_bitCount_0f7a4 32 = .ok (.iand, 1) := by decide +kernel
theorem dJ6_bitCount_0f7a4_33 : decode cJ6_bitCount_0f7a4 33 = .ok (.istore_n 0, 1) := by decide +kernel
theorem dJ6_bitCount_0f7a4_34 : decode cJ6_bitCount_0f7a4 34 = .ok (.iload_n 0, 1) := by decide +kernel
theorem dJ6_bitCount_0f7a4_35 : decode cJ6_bitCount_0f7a4 35 = .ok (.iload_n 0, 1) := by decide +kernel
theorem dJ6_bitCount_0f7a4_36 : decode cJ6_bitCount_0f7a4 36 = .ok (.bipush 8, 2) := by decide +kernel
theorem dJ6_bitCount_0f7a4_38 : decode cJ6_bitCount_0f7a4 38 = .ok (.iushr, 1) := by decide +kernel
theorem dJ6_bitCount_0f7a4_39 : decode cJ6_bitCount_0f7a4 39 = .ok (.iadd, 1) := by decide +kernel
theorem dJ6_bitCount_0f7a4_40 : decode cJ6_bitCount_0f7a4 40 = .ok (.istore_n 0, 1) := by decide +kernel
theorem dJ6_bitCount_0f7a4_41 : decode cJ6_bitCount_0f7a4 41 = .ok (.iload_n 0, 1) := by decide +kernel
theorem dJ6_bitCount_0f7a4_42 : decode cJ6_bitCount_0f7a4 42 = .ok (.iload_n 0, 1) := by decide +kernel
theorem dJ6_bitCount_0f7a4_43 : decode cJ6_bitCount_0f7a4 43 = .ok (.bipush 16, 2) := by decide +kernel
theorem dJ6_bitCount_0f7a4_45 : decode cJ6_bitCount_0f7a4 45 = .ok (.iushr, 1) := by decide +kernel
theorem dJ6_bitCount_0f7a4_46 : decode cJ6_bitCount_0f7a4 46 = .ok (.iadd, 1) := by decide +kernel
theorem dJ6_bitCount_0f7a4_47 : decode cJ6_bitCount_0f7a4 47 = .ok (.istore_n 0, 1) := by decide +kernel
theorem dJ6_bitCount_0f7a4_48 : decode cJ6_bitCount_0f7a4 48 = .ok (.iload_n 0, 1) := by decide +kernel
theorem dJ6_bitCount_0f7a4_49 : decode cJ6_bitCount_0f7a4 49 = .ok (.bipush 63, 2) := by decide +kernel
theorem dJ6_bitCount_0f7a4_51 : decode cJ6_bitCount_0f7a4 51 = .ok (.iand, 1) := by decide +kernel
theorem dJ6_bitCount_0f7a4_52 : decode cJ6_bitCount_0f7a4 52 = .ok (.ireturn, 1) := by decide +kernel
set_option maxHeartbeats 4000000 in
set_option maxRecDepth 100000 in
theorem t_J6_bitCount_0f7a4 {l : Launch} {g : zG} {d : Nat} {s : zS} {p0 : Int32} {K : Int32 → zS → Prop} (h : (∀ v1 : Int32, v1 = p0 - ((zushr p0 (1 : Int32)) &&& (1431655765 : Int32)) → (∀ v2 : Int32, v2 = (v1 &&& (858993459 : Int32)) + ((zushr v1 (2 : Int32)) &&& (858993459 : Int32)) → (∀ v3 : Int32, v3 = (v2 + (zushr v2 (4 : Int32))) &&& (252645135 : Int32) → (∀ v4 : Int32, v4 = v3 + (zushr v3 (8 : Int32)) → (∀ v5 : Int32, v5 = v4 + (zushr v4 (16 : Int32)) → K (v5 &&& (63 : Int32)) s)))))) : zc l g d M_J6_bitCount_0f7a4 [.int p0] s (zKi K) := by
  refine zCall_of k_J6_bitCount_0f7a4 (Nat.le_of_ble_eq_true rfl) (Nat.le_refl _) (fun _ => ?_)
  show zt l g d M_J6_bitCount_0f7a4 0 [.int p0] [] s (zKi K)
  refine z_iload_n (i := 0) dJ6_bitCount_0f7a4_0 rfl rfl rfl ?_
  refine z_iload_n (i := 0) dJ6_bitCount_0f7a4_1 rfl rfl rfl ?_
  refine z_iconst (v := (1 : Int32)) dJ6_bitCount_0f7a4_2 (by decide) rfl ?_
  refine z_iushr dJ6_bitCount_0f7a4_3 rfl ?_
  refine z_ldc_w (v := (1431655765 : Int32)) q_J6_265 dJ6_bitCount_0f7a4_4 rfl ?_
  refine z_iand dJ6_bitCount_0f7a4_7 rfl ?_
  refine z_isub dJ6_bitCount_0f7a4_8 rfl ?_
  refine z_istore_n (i := 0) dJ6_bitCount_0f7a4_9 rfl (by decide) zok0 rfl ?_
  obtain ⟨v1, ev1⟩ : ∃ x : Int32, x = p0 - ((zushr p0 (1 : Int32)) &&& (1431655765 : Int32)) := ⟨_, rfl⟩
  rw [← ev1]
  have h := h v1 ev1
  show zt l g d M_J6_bitCount_0f7a4 10 [.int v1] [] s _
  refine z_iload_n (i := 0) dJ6_bitCount_0f7a4_10 rfl rfl rfl ?_
  refine z_ldc_w (v := (858993459 : Int32)) q_J6_266 dJ6_bitCount_0f7a4_11 rfl ?_
  refine z_iand dJ6_bitCount_0f7a4_14 rfl ?_
  refine z_iload_n (i := 0) dJ6_bitCount_0f7a4_15 rfl rfl rfl ?_
  refine z_iconst (v := (2 : Int32)) dJ6_bitCount_0f7a4_16 (by decide) rfl ?_
  refine z_iushr dJ6_bitCount_0f7a4_17 rfl ?_
  refine z_ldc_w (v := (858993459 : Int32)) q_J6_266 dJ6_bitCount_0f7a4_18 rfl ?_
  refine z_iand dJ6_bitCount_0f7a4_21 rfl ?_
  refine z_iadd dJ6_bitCount_0f7a4_22 rfl ?_
  refine z_istore_n (i := 0) dJ6_bitCount_0f7a4_23 rfl (by decide) zok0 rfl ?_
  obtain ⟨v2, ev2⟩ : ∃ x : Int32, x = (v1 &&& (858993459 : Int32)) + ((zushr v1 (2 : Int32)) &&& (858993459 : Int32)) := ⟨_, rfl⟩
  rw [← ev2]
  have h := h v2 ev2
  show zt l g d M_J6_bitCount_0f7a4 24 [.int v2] [] s _
  refine z_iload_n (i := 0) dJ6_bitCount_0f7a4_24 rfl rfl rfl ?_
  refine z_iload_n (i := 0) dJ6_bitCount_0f7a4_25 rfl rfl rfl ?_
  refine z_iconst (v := (4 : Int32)) dJ6_bitCount_0f7a4_26 (by decide) rfl ?_
  refine z_iushr dJ6_bitCount_0f7a4_27 rfl ?_
  refine z_iadd dJ6_bitCount_0f7a4_28 rfl ?_
  refine z_ldc_w (v := (252645135 : Int32)) q_J6_267 dJ6_bitCount_0f7a4_29 rfl ?_
  refine z_iand dJ6_bitCount_0f7a4_32 rfl ?_
  refine z_istore_n (i := 0) dJ6_bitCount_0f7a4_33 rfl (by decide) zok0 rfl ?_
  obtain ⟨v3, ev3⟩ : ∃ x : Int32, x = (v2 + (zushr v2 (4 : Int32))) &&& (252645135 : Int32) := ⟨_, rfl⟩
  rw [← ev3]
  have h := h v3 ev3
  show zt l g d M_J6_bitCount_0f7a4 34 [.int v3] [] s _
  refine z_iload_n (i := 0) dJ6_bitCount_0f7a4_34 rfl rfl rfl ?_
  refine z_iload_n (i := 0) dJ6_bitCount_0f7a4_35 rfl rfl rfl ?_
  refine z_bipush (v := (8 : Int32)) dJ6_bitCount_0f7a4_36 (by decide) rfl ?_
  refine z_iushr dJ6_bitCount_0f7a4_38 rfl ?_
  refine z_iadd dJ6_bitCount_0f7a4_39 rfl ?_
  refine z_istore_n (i := 0) dJ6_bitCount_0f7a4_40 rfl (by decide) zok0 rfl ?_
  obtain ⟨v4, ev4⟩ : ∃ x : Int32, x = v3 + (zushr v3 (8 : Int32)) := ⟨_, rfl⟩
  rw [← ev4]
  have h := h v4 ev4
  show zt l g d M_J6_bitCount_0f7a4 41 [.int v4] [] s _
  refine z_iload_n (i := 0) dJ6_bitCount_0f7a4_41 rfl rfl rfl ?_
  refine z_iload_n (i := 0) dJ6_bitCount_0f7a4_42 rfl rfl rfl ?_
  refine z_bipush (v := (16 : Int32)) dJ6_bitCount_0f7a4_43 (by decide) rfl ?_
  refine z_iushr dJ6_bitCount_0f7a4_45 rfl ?_
  refine z_iadd dJ6_bitCount_0f7a4_46 rfl ?_
  refine z_istore_n (i := 0) dJ6_bitCount_0f7a4_47 rfl (by decide) zok0 rfl ?_
  obtain ⟨v5, ev5⟩ : ∃ x : Int32, x = v4 + (zushr v4 (16 : Int32)) := ⟨_, rfl⟩
  rw [← ev5]
  have h := h v5 ev5
  show zt l g d M_J6_bitCount_0f7a4 48 [.int v5] [] s _
  refine z_iload_n (i := 0) dJ6_bitCount_0f7a4_48 rfl rfl rfl ?_
  refine z_bipush (v := (63 : Int32)) dJ6_bitCount_0f7a4_49 (by decide) rfl ?_
  refine z_iand dJ6_bitCount_0f7a4_51 rfl ?_
  exact z_ret (some (.int (v5 &&& (63 : Int32)))) (Or.inr (Or.inl ⟨_, _, rfl, rfl, rfl, dJ6_bitCount_0f7a4_52⟩)) zN200 ⟨_, rfl, h⟩
theorem dX8_in_0 : decode cX8_in 0 = .ok (.lload_n 0, 1) := by decide +kernel
theorem dX8_in_1 : decode cX8_in 1 = .ok (.lload_n 2, 1) := by decide +kernel
theorem dX8_in_2 : decode cX8_in 2 = .ok (.lcmp, 1) := by decide +kernel
theorem dX8_in_3 : decode cX8_in 3 = .ok (.ifCond .lt 14, 3) := by decide +kernel
theorem dX8_in_6 : decode cX8_in 6 = .ok (.lload_n 0, 1) := by decide +kernel
theorem dX8_in_7 : decode cX8_in 7 = .ok (.lload 4, 2) := by decide +kernel
theorem dX8_in_9 : decode cX8_in 9 = .ok (.lcmp, 1) := by decide +kernel
theorem dX8_in_10 : decode cX8_in 10 = .ok (.ifCond .gt 7, 3) := by decide +kernel
theorem dX8_in_13 : decode cX8_in 13 = .ok (.iconst 1, 1) := by decide +kernel
theorem dX8_in_14 : decode cX8_in 14 = .ok (.goto 4, 3) := by decide +kernel
theorem dX8_in_17 : decode cX8_in 17 = .ok (.iconst 0, 1) := by decide +kernel
theorem dX8_in_18 : decode cX8_in 18 = .ok (.ireturn, 1) := by decide +kernel
set_option maxHeartbeats 4000000 in
set_option maxRecDepth 100000 in
theorem t_X8_in {l : Launch} {g : zG} {d : Nat} {s : zS} {p0 : Int64} {p1 : Int64} {p2 : Int64} {K : Bool → zS → Prop} (h : (if (lg_cmp p0 p1) < 0 then K false s else (if 0 < (lg_cmp p0 p2) then K false s else K true s))) : zc l g d M_X8_in [.long p0, .long p1, .long p2] s (zKz K) := by
  refine zCall_of k_X8_in (Nat.le_of_ble_eq_true rfl) (Nat.le_refl _) (fun _ => ?_)
  show zt l g d M_X8_in 0 [.long p0, zJ, .long p1, zJ, .long p2, zJ] [] s (zKz K)
  refine z_lload_n (i := 0) dX8_in_0 rfl rfl rfl ?_
  refine z_lload_n (i := 2) dX8_in_1 rfl rfl rfl ?_
  refine z_lcmp dX8_in_2 rfl ?_
  refine z_if_lt (pt := 17) dX8_in_3 (by decide) rfl (fun c => ?_) (fun c => ?_)
  · have h := zit h c
    refine z_iconst (v := (0 : Int32)) dX8_in_17 (by decide) rfl ?_
    exact z_ret (some (.int (zb false))) (Or.inr (Or.inl ⟨_, _, rfl, rfl, zb_nar _, dX8_in_18⟩)) zN200 ⟨_, rfl, h⟩
  · have h := zif h c
    refine z_lload_n (i := 0) dX8_in_6 rfl rfl rfl ?_
    refine z_lload dX8_in_7 rfl rfl ?_
    refine z_lcmp dX8_in_9 rfl ?_
    refine z_if_gt (pt := 17) dX8_in_10 (by decide) rfl (fun c => ?_) (fun c => ?_)
    · have h := zit h c
      refine z_iconst (v := (0 : Int32)) dX8_in_17 (by decide) rfl ?_
      exact z_ret (some (.int (zb false))) (Or.inr (Or.inl ⟨_, _, rfl, rfl, zb_nar _, dX8_in_18⟩)) zN200 ⟨_, rfl, h⟩
    · have h := zif h c
      refine z_iconst (v := (1 : Int32)) dX8_in_13 (by decide) rfl ?_
      refine z_goto (pn := 18) dX8_in_14 (by decide) ?_
      exact z_ret (some (.int (zb true))) (Or.inr (Or.inl ⟨_, _, rfl, rfl, zb_nar _, dX8_in_18⟩)) zN200 ⟨_, rfl, h⟩
def zmax (x y : Int32) : Int32 := if x < y then y else x
def zmin (x y : Int32) : Int32 := if y < x then y else x
def zabs (x : Int32) : Int32 := if 0 ≤ x then x else -x
def zfd (x y : Int32) : Int32 := if 0 ≤ (x ^^^ y) then x / y else if (x / y) * y = x then x / y else x / y - 1
def zfm (x y : Int32) : Int32 := if 0 ≤ (x ^^^ y) then x % y else if x % y = 0 then x % y else x % y + y
def zmaxL (x y : Int64) : Int64 := if x < y then y else x
def zminL (x y : Int64) : Int64 := if y < x then y else x
def zbc (x : Int32) : Int32 :=
  let a := x - (zushr x 1 &&& 1431655765)
  let b := (a &&& 858993459) + (zushr a 2 &&& 858993459)
  let c := (b + zushr b 4) &&& 252645135
  let e := c + zushr c 8
  (e + zushr e 16) &&& 63
def zinr (x lo hi : Int64) : Bool := decide (lo ≤ x) && decide (x ≤ hi)
section ZH
variable {l : Launch} {g : zG} {d : Nat} {M : zM} {pc pn : Nat} {ls st : List Value} {σ : zS} {K : Option Value → zS → Prop}
theorem zcmp_gt {x y : Int64} : 0 < lg_cmp x y ↔ y < x := by
  unfold lg_cmp
  by_cases h : y < x
  · rw [if_pos h]
    exact ⟨fun _ => h, fun _ => by decide⟩
  · rw [if_neg h]
    refine ⟨fun q => ?_, fun q => absurd q h⟩
    by_cases h2 : x = y
    · rw [if_pos h2] at q
      exact absurd q (by decide)
    · rw [if_neg h2] at q
      exact absurd q (by decide)
theorem zcmp_lt {x y : Int64} : lg_cmp x y < 0 ↔ x < y := by
  unfold lg_cmp
  by_cases h : y < x
  · rw [if_pos h]
    exact ⟨fun q => absurd q (by decide), fun q => absurd h (Int64.lt_asymm q)⟩
  · rw [if_neg h]
    by_cases h2 : x = y
    · rw [if_pos h2]
      exact ⟨fun q => absurd q (by decide), fun q => by subst h2; exact absurd q (Int64.lt_irrefl)⟩
    · rw [if_neg h2]
      exact ⟨fun _ => Int64.lt_of_le_of_ne (Int64.not_lt.mp h) h2, fun _ => by decide⟩

theorem z_mmax {i : Nat} {x y : Int32} (hl : zLkS M.1.cls i M_J9_max_7cf53) (hd : decode M.2.1 pc = .ok (.invokestatic i, 3)) (hst : (st.map fun v => v.category).sum ≤ 8) (hn : pc + 3 = pn) (k : zt l g (d + 1) M pn ls (.int (zmax x y) :: st) σ K) : zt l g (d + 1) M pc ls (.int y :: .int x :: st) σ K :=
  z_callS (as := [.int x, .int y]) (K' := zKi (fun r s => r = zmax x y ∧ s = σ)) k_J9_max_7cf53 hl rfl (t_J9_max_7cf53 (by unfold zmax; split <;> simp_all)) rfl hst hd zy200 hn (by rintro v s ⟨r, rfl, rfl, rfl⟩; exact k)
theorem z_mmin {i : Nat} {x y : Int32} (hl : zLkS M.1.cls i M_J9_min_7cf53) (hd : decode M.2.1 pc = .ok (.invokestatic i, 3)) (hst : (st.map fun v => v.category).sum ≤ 8) (hn : pc + 3 = pn) (k : zt l g (d + 1) M pn ls (.int (zmin x y) :: st) σ K) : zt l g (d + 1) M pc ls (.int y :: .int x :: st) σ K :=
  z_callS (as := [.int x, .int y]) (K' := zKi (fun r s => r = zmin x y ∧ s = σ)) k_J9_min_7cf53 hl rfl (t_J9_min_7cf53 (by unfold zmin; split <;> simp_all)) rfl hst hd zy200 hn (by rintro v s ⟨r, rfl, rfl, rfl⟩; exact k)
theorem z_mabs {i : Nat} {x : Int32} (hl : zLkS M.1.cls i M_J9_abs_0f7a4) (hd : decode M.2.1 pc = .ok (.invokestatic i, 3)) (hst : (st.map fun v => v.category).sum ≤ 8) (hn : pc + 3 = pn) (k : zt l g (d + 1) M pn ls (.int (zabs x) :: st) σ K) : zt l g (d + 1) M pc ls (.int x :: st) σ K :=
  z_callS (as := [.int x]) (K' := zKi (fun r s => r = zabs x ∧ s = σ)) k_J9_abs_0f7a4 hl rfl (t_J9_abs_0f7a4 (by unfold zabs; split <;> simp_all)) rfl hst hd zy200 hn (by rintro v s ⟨r, rfl, rfl, rfl⟩; exact k)
theorem z_fdiv {i : Nat} {x y : Int32} (hl : zLkS M.1.cls i M_J9_floorDiv_7cf53) (hy : ¬ y = 0) (hd : decode M.2.1 pc = .ok (.invokestatic i, 3)) (hst : (st.map fun v => v.category).sum ≤ 8) (hn : pc + 3 = pn) (k : zt l g (d + 1) M pn ls (.int (zfd x y) :: st) σ K) : zt l g (d + 1) M pc ls (.int y :: .int x :: st) σ K :=
  z_callS (as := [.int x, .int y]) (K' := zKi (fun r s => r = zfd x y ∧ s = σ)) k_J9_floorDiv_7cf53 hl rfl (t_J9_floorDiv_7cf53 ⟨hy, by unfold zfd; split <;> (try split) <;> simp_all⟩) rfl hst hd zy200 hn (by rintro v s ⟨r, rfl, rfl, rfl⟩; exact k)
theorem z_fmod {i : Nat} {x y : Int32} (hl : zLkS M.1.cls i M_J9_floorMod_7cf53) (hy : ¬ y = 0) (hd : decode M.2.1 pc = .ok (.invokestatic i, 3)) (hst : (st.map fun v => v.category).sum ≤ 8) (hn : pc + 3 = pn) (k : zt l g (d + 1) M pn ls (.int (zfm x y) :: st) σ K) : zt l g (d + 1) M pc ls (.int y :: .int x :: st) σ K :=
  z_callS (as := [.int x, .int y]) (K' := zKi (fun r s => r = zfm x y ∧ s = σ)) k_J9_floorMod_7cf53 hl rfl (t_J9_floorMod_7cf53 ⟨hy, by unfold zfm; split <;> (try split) <;> simp_all⟩) rfl hst hd zy200 hn (by rintro v s ⟨r, rfl, rfl, rfl⟩; exact k)
theorem z_bitc {i : Nat} {x : Int32} (hl : zLkS M.1.cls i M_J6_bitCount_0f7a4) (hd : decode M.2.1 pc = .ok (.invokestatic i, 3)) (hst : (st.map fun v => v.category).sum ≤ 8) (hn : pc + 3 = pn) (k : zt l g (d + 1) M pn ls (.int (zbc x) :: st) σ K) : zt l g (d + 1) M pc ls (.int x :: st) σ K :=
  z_callS (as := [.int x]) (K' := zKi (fun r s => r = zbc x ∧ s = σ)) k_J6_bitCount_0f7a4 hl rfl (t_J6_bitCount_0f7a4 (by rintro _ rfl _ rfl _ rfl _ rfl _ rfl; exact ⟨rfl, rfl⟩)) rfl hst hd zy200 hn (by rintro v s ⟨r, rfl, rfl, rfl⟩; exact k)
theorem z_mmaxL {i : Nat} {x y : Int64} (hl : zLkS M.1.cls i M_J9_max_f86c9) (hd : decode M.2.1 pc = .ok (.invokestatic i, 3)) (hst : (st.map fun v => v.category).sum ≤ 8) (hn : pc + 3 = pn) (k : zt l g (d + 1) M pn ls (.long (zmaxL x y) :: st) σ K) : zt l g (d + 1) M pc ls (.long y :: .long x :: st) σ K :=
  z_callS (as := [.long x, .long y]) (K' := zKl (fun r s => r = zmaxL x y ∧ s = σ)) k_J9_max_f86c9 hl rfl (t_J9_max_f86c9 (by unfold zmaxL; simp only [zcmp_lt]; split <;> simp_all)) rfl hst hd zy200 hn (by rintro v s ⟨r, rfl, rfl, rfl⟩; exact k)
theorem z_mminL {i : Nat} {x y : Int64} (hl : zLkS M.1.cls i M_J9_min_f86c9) (hd : decode M.2.1 pc = .ok (.invokestatic i, 3)) (hst : (st.map fun v => v.category).sum ≤ 8) (hn : pc + 3 = pn) (k : zt l g (d + 1) M pn ls (.long (zminL x y) :: st) σ K) : zt l g (d + 1) M pc ls (.long y :: .long x :: st) σ K :=
  z_callS (as := [.long x, .long y]) (K' := zKl (fun r s => r = zminL x y ∧ s = σ)) k_J9_min_f86c9 hl rfl (t_J9_min_f86c9 (by unfold zminL; simp only [zcmp_gt]; split <;> simp_all)) rfl hst hd zy200 hn (by rintro v s ⟨r, rfl, rfl, rfl⟩; exact k)
theorem zinr_t (x lo hi : Int64) (σ : zS) : if lg_cmp x lo < 0 then false = zinr x lo hi ∧ σ = σ else if 0 < lg_cmp x hi then false = zinr x lo hi ∧ σ = σ else true = zinr x lo hi ∧ σ = σ := by
  simp only [zcmp_lt, zcmp_gt]
  by_cases h1 : x < lo
  · rw [if_pos h1]; exact ⟨by simp [zinr, Int64.not_le.mpr h1], trivial⟩
  · rw [if_neg h1]
    by_cases h2 : hi < x
    · rw [if_pos h2]; exact ⟨by simp [zinr, Int64.not_le.mpr h2], trivial⟩
    · rw [if_neg h2]; exact ⟨by simp [zinr, Int64.not_lt.mp h1, Int64.not_lt.mp h2], trivial⟩
theorem z_in {i : Nat} {x lo hi : Int64} (hl : zLkS M.1.cls i M_X8_in) (hd : decode M.2.1 pc = .ok (.invokestatic i, 3)) (hst : (st.map fun v => v.category).sum ≤ 8) (hn : pc + 3 = pn) (k : zt l g (d + 1) M pn ls (.int (zb (zinr x lo hi)) :: st) σ K) : zt l g (d + 1) M pc ls (.long hi :: .long lo :: .long x :: st) σ K :=
  z_callS (as := [.long x, .long lo, .long hi]) (K' := zKz (fun r s => r = zinr x lo hi ∧ s = σ)) k_X8_in hl rfl (t_X8_in (zinr_t x lo hi σ)) rfl hst hd zy200 hn (by rintro v s ⟨r, rfl, rfl, rfl⟩; exact k)
end ZH
theorem dJ0_coder_7d493_0 : decode cJ0_coder_7d493 0 = .ok (.getstatic 38, 3) := by decide +kernel
theorem dJ0_coder_7d493_3 : decode cJ0_coder_7d493 3 = .ok (.ifCond .eq 10, 3) := by decide +kernel
theorem dJ0_coder_7d493_6 : decode cJ0_coder_7d493 6 = .ok (.aload_n 0, 1) := by decide +kernel
theorem dJ0_coder_7d493_7 : decode cJ0_coder_7d493 7 = .ok (.getfield 15, 3) := by decide +kernel
theorem dJ0_coder_7d493_10 : decode cJ0_coder_7d493 10 = .ok (.goto 4, 3) := by decide +kernel
theorem dJ0_coder_7d493_13 : decode cJ0_coder_7d493 13 = .ok (.iconst 1, 1) := by decide +kernel
theorem dJ0_coder_7d493_14 : decode cJ0_coder_7d493 14 = .ok (.ireturn, 1) := by decide +kernel
set_option maxHeartbeats 4000000 in
set_option maxRecDepth 100000 in
theorem t_J0_coder_7d493 {l : Launch} {g : zG} {d : Nat} {s : zS} {i : Nat} (hi : i < 20) {K : Int32 → zS → Prop} (h : (narrow .byte (.int (0 : Int32)) = .int (0 : Int32) ∧ K (0 : Int32) s)) : zc l g d M_J0_coder_7d493 [.ref (2 + i)] s (zKi K) := by
  refine zCall_of k_J0_coder_7d493 (Nat.le_of_ble_eq_true rfl) (Nat.le_refl _) (fun _ => ?_)
  show zt l g d M_J0_coder_7d493 0 [.ref (2 + i)] [] s (zKi K)
  refine z_getC l_J0_38 dJ0_coder_7d493_0 rfl ?_
  refine z_if_eq (pt := 13) dJ0_coder_7d493_3 (by decide) rfl (fun c => absurd c (by decide)) (fun _ => ?_)
  refine z_aload_n (i := 0) dJ0_coder_7d493_6 rfl rfl rfl ?_
  refine z_sgetC hi l_J0_15 dJ0_coder_7d493_7 rfl ?_
  refine z_goto (pn := 14) dJ0_coder_7d493_10 (by decide) ?_
  exact z_ret (some (.int (0 : Int32))) (Or.inr (Or.inl ⟨_, _, rfl, rfl, h.1, dJ0_coder_7d493_14⟩)) zN200 ⟨_, rfl, h.2⟩
theorem dJ0_isLatin1_aae02_0 : decode cJ0_isLatin1_aae02 0 = .ok (.getstatic 38, 3) := by decide +kernel
theorem dJ0_isLatin1_aae02_3 : decode cJ0_isLatin1_aae02 3 = .ok (.ifCond .eq 14, 3) := by decide +kernel
theorem dJ0_isLatin1_aae02_6 : decode cJ0_isLatin1_aae02 6 = .ok (.aload_n 0, 1) := by decide +kernel
theorem dJ0_isLatin1_aae02_7 : decode cJ0_isLatin1_aae02 7 = .ok (.getfield 15, 3) := by decide +kernel
theorem dJ0_isLatin1_aae02_10 : decode cJ0_isLatin1_aae02 10 = .ok (.ifCond .ne 7, 3) := by decide +kernel
theorem dJ0_isLatin1_aae02_13 : decode cJ0_isLatin1_aae02 13 = .ok (.iconst 1, 1) := by decide +kernel
theorem dJ0_isLatin1_aae02_14 : decode cJ0_isLatin1_aae02 14 = .ok (.goto 4, 3) := by decide +kernel
theorem dJ0_isLatin1_aae02_17 : decode cJ0_isLatin1_aae02 17 = .ok (.iconst 0, 1) := by decide +kernel
theorem dJ0_isLatin1_aae02_18 : decode cJ0_isLatin1_aae02 18 = .ok (.ireturn, 1) := by decide +kernel
set_option maxHeartbeats 4000000 in
set_option maxRecDepth 100000 in
theorem t_J0_isLatin1_aae02 {l : Launch} {g : zG} {d : Nat} {s : zS} {i : Nat} (hi : i < 20) {K : Bool → zS → Prop} (h : K true s) : zc l g d M_J0_isLatin1_aae02 [.ref (2 + i)] s (zKz K) := by
  refine zCall_of k_J0_isLatin1_aae02 (Nat.le_of_ble_eq_true rfl) (Nat.le_refl _) (fun _ => ?_)
  show zt l g d M_J0_isLatin1_aae02 0 [.ref (2 + i)] [] s (zKz K)
  refine z_getC l_J0_38 dJ0_isLatin1_aae02_0 rfl ?_
  refine z_if_eq (pt := 17) dJ0_isLatin1_aae02_3 (by decide) rfl (fun c => absurd c (by decide)) (fun _ => ?_)
  refine z_aload_n (i := 0) dJ0_isLatin1_aae02_6 rfl rfl rfl ?_
  refine z_sgetC hi l_J0_15 dJ0_isLatin1_aae02_7 rfl ?_
  refine z_if_ne (pt := 17) dJ0_isLatin1_aae02_10 (by decide) rfl (fun c => absurd c (by decide)) (fun _ => ?_)
  refine z_iconst (v := (1 : Int32)) dJ0_isLatin1_aae02_13 (by decide) rfl ?_
  refine z_goto (pn := 18) dJ0_isLatin1_aae02_14 (by decide) ?_
  exact z_ret (some (.int (zb true))) (Or.inr (Or.inl ⟨_, _, rfl, rfl, zb_nar _, dJ0_isLatin1_aae02_18⟩)) zN200 ⟨_, rfl, h⟩
theorem dJ0_length_8abf5_0 : decode cJ0_length_8abf5 0 = .ok (.aload_n 0, 1) := by decide +kernel
theorem dJ0_length_8abf5_1 : decode cJ0_length_8abf5 1 = .ok (.getfield 9, 3) := by decide +kernel
theorem dJ0_length_8abf5_4 : decode cJ0_length_8abf5 4 = .ok (.arraylength, 1) := by decide +kernel
theorem dJ0_length_8abf5_5 : decode cJ0_length_8abf5 5 = .ok (.aload_n 0, 1) := by decide +kernel
theorem dJ0_length_8abf5_6 : decode cJ0_length_8abf5 6 = .ok (.invokevirtual 335, 3) := by decide +kernel
theorem dJ0_length_8abf5_9 : decode cJ0_length_8abf5 9 = .ok (.ishr, 1) := by decide +kernel
theorem dJ0_length_8abf5_10 : decode cJ0_length_8abf5 10 = .ok (.ireturn, 1) := by decide +kernel
set_option maxHeartbeats 4000000 in
set_option maxRecDepth 100000 in
theorem t_J0_length_8abf5 {l : Launch} {g : zG} {d : Nat} {s : zS} {i : Nat} (hi : i < 20) {K : Int32 → zS → Prop} (h : (zc l g d M_J0_coder_7d493 [.ref (2 + i)] s (zKi (fun r2 s1 => s1.2.2.1 = s.2.2.1 ∧ K ((zslen i) >>> (r2 &&& 31)) s1)))) : zc l g (d + 1) M_J0_length_8abf5 [.ref (2 + i)] s (zKi K) := by
  refine zCall_of k_J0_length_8abf5 (Nat.le_of_ble_eq_true rfl) (Nat.le_refl _) (fun _ => ?_)
  show zt l g (d + 1) M_J0_length_8abf5 0 [.ref (2 + i)] [] s (zKi K)
  refine z_aload_n (i := 0) dJ0_length_8abf5_0 rfl rfl rfl ?_
  refine z_sgetV hi l_J0_9 dJ0_length_8abf5_1 rfl ?_
  refine z_salen hi dJ0_length_8abf5_4 rfl ?_
  refine z_aload_n (i := 0) dJ0_length_8abf5_5 rfl rfl rfl ?_
  refine z_callV k_J0_coder_7d493 m_J0_335 (zRec_s hi) rfl h rfl (Nat.le_of_ble_eq_true rfl) dJ0_length_8abf5_6 zy200 rfl ?_
  rintro v s1 ⟨r2, rfl, hRs1, h⟩
  show zt l g (d + 1) M_J0_length_8abf5 9 [.ref (2 + i)] [.int r2, .int (zslen i)] s1 _
  refine z_ishr dJ0_length_8abf5_9 rfl ?_
  exact z_ret (some (.int ((zslen i) >>> (r2 &&& 31)))) (Or.inr (Or.inl ⟨_, _, rfl, rfl, rfl, dJ0_length_8abf5_10⟩)) zN200 ⟨_, rfl, h⟩
theorem dJ1_charAt_3b067_0 : decode cJ1_charAt_3b067 0 = .ok (.iload_n 1, 1) := by decide +kernel
theorem dJ1_charAt_3b067_1 : decode cJ1_charAt_3b067 1 = .ok (.aload_n 0, 1) := by decide +kernel
theorem dJ1_charAt_3b067_2 : decode cJ1_charAt_3b067 2 = .ok (.arraylength, 1) := by decide +kernel
theorem dJ1_charAt_3b067_3 : decode cJ1_charAt_3b067 3 = .ok (.invokestatic 9, 3) := by decide +kernel
theorem dJ1_charAt_3b067_6 : decode cJ1_charAt_3b067 6 = .ok (.aload_n 0, 1) := by decide +kernel
theorem dJ1_charAt_3b067_7 : decode cJ1_charAt_3b067 7 = .ok (.iload_n 1, 1) := by decide +kernel
theorem dJ1_charAt_3b067_8 : decode cJ1_charAt_3b067 8 = .ok (.baload, 1) := by decide +kernel
theorem dJ1_charAt_3b067_9 : decode cJ1_charAt_3b067 9 = .ok (.sipush 255, 3) := by decide +kernel
theorem dJ1_charAt_3b067_12 : decode cJ1_charAt_3b067 12 = .ok (.iand, 1) := by decide +kernel
theorem dJ1_charAt_3b067_13 : decode cJ1_charAt_3b067 13 = .ok (.i2c, 1) := by decide +kernel
theorem dJ1_charAt_3b067_14 : decode cJ1_charAt_3b067 14 = .ok (.ireturn, 1) := by decide +kernel
set_option maxHeartbeats 4000000 in
set_option maxRecDepth 100000 in
theorem t_J1_charAt_3b067 {l : Launch} {g : zG} {d : Nat} {s : zS} {i : Nat} (hi : i < 20) {p1 : Int32} {K : Int32 → zS → Prop} (h : (zc l g d M_J0_checkIndex_df160 [.int p1, .int (zslen i)] s (zKv (fun s1 => s1.2.2.1 = s.2.2.1 ∧ (vp_in p1 (zSl.getD i 0) ∧ (narrow .char (.int ((((zsby i p1.toNatClampNeg) &&& (255 : Int32)).toUInt32 % 65536).toInt32)) = .int ((((zsby i p1.toNatClampNeg) &&& (255 : Int32)).toUInt32 % 65536).toInt32) ∧ K ((((zsby i p1.toNatClampNeg) &&& (255 : Int32)).toUInt32 % 65536).toInt32) s1)))))) : zc l g (d + 1) M_J1_charAt_3b067 [.ref (22 + i), .int p1] s (zKi K) := by
  refine zCall_of k_J1_charAt_3b067 (Nat.le_of_ble_eq_true rfl) (Nat.le_refl _) (fun _ => ?_)
  show zt l g (d + 1) M_J1_charAt_3b067 0 [.ref (22 + i), .int p1] [] s (zKi K)
  refine z_iload_n (i := 1) dJ1_charAt_3b067_0 rfl rfl rfl ?_
  refine z_aload_n (i := 0) dJ1_charAt_3b067_1 rfl rfl rfl ?_
  refine z_salen hi dJ1_charAt_3b067_2 rfl ?_
  refine z_callS (as := [.int p1, .int (zslen i)]) k_J0_checkIndex_df160 m_J1_9 rfl h rfl (Nat.le_of_ble_eq_true rfl) dJ1_charAt_3b067_3 zy200 rfl ?_
  rintro v s1 ⟨rfl, hRs1, h⟩
  show zt l g (d + 1) M_J1_charAt_3b067 6 [.ref (22 + i), .int p1] [] s1 _
  refine z_aload_n (i := 0) dJ1_charAt_3b067_6 rfl rfl rfl ?_
  refine z_iload_n (i := 1) dJ1_charAt_3b067_7 rfl rfl rfl ?_
  obtain ⟨a2, h⟩ := h
  refine z_sbald hi a2 dJ1_charAt_3b067_8 rfl ?_
  refine z_sipush (v := (255 : Int32)) dJ1_charAt_3b067_9 (by decide) rfl ?_
  refine z_iand dJ1_charAt_3b067_12 rfl ?_
  refine z_i2c dJ1_charAt_3b067_13 rfl ?_
  exact z_ret (some (.int ((((zsby i p1.toNatClampNeg) &&& (255 : Int32)).toUInt32 % 65536).toInt32))) (Or.inr (Or.inl ⟨_, _, rfl, rfl, h.1, dJ1_charAt_3b067_14⟩)) zN200 ⟨_, rfl, h.2⟩
theorem dJ0_charAt_5068e_0 : decode cJ0_charAt_5068e 0 = .ok (.aload_n 0, 1) := by decide +kernel
theorem dJ0_charAt_5068e_1 : decode cJ0_charAt_5068e 1 = .ok (.invokevirtual 492, 3) := by decide +kernel
theorem dJ0_charAt_5068e_4 : decode cJ0_charAt_5068e 4 = .ok (.ifCond .eq 12, 3) := by decide +kernel
theorem dJ0_charAt_5068e_7 : decode cJ0_charAt_5068e 7 = .ok (.aload_n 0, 1) := by decide +kernel
theorem dJ0_charAt_5068e_8 : decode cJ0_charAt_5068e 8 = .ok (.getfield 9, 3) := by decide +kernel
theorem dJ0_charAt_5068e_11 : decode cJ0_charAt_5068e 11 = .ok (.iload_n 1, 1) := by decide +kernel
theorem dJ0_charAt_5068e_12 : decode cJ0_charAt_5068e 12 = .ok (.invokestatic 495, 3) := by decide +kernel
theorem dJ0_charAt_5068e_15 : decode cJ0_charAt_5068e 15 = .ok (.ireturn, 1) := by decide +kernel
theorem dJ0_charAt_5068e_16 : decode cJ0_charAt_5068e 16 = .ok (.aload_n 0, 1) := by decide +kernel
theorem dJ0_charAt_5068e_17 : decode cJ0_charAt_5068e 17 = .ok (.getfield 9, 3) := by decide +kernel
theorem dJ0_charAt_5068e_20 : decode cJ0_charAt_5068e 20 = .ok (.iload_n 1, 1) := by decide +kernel
theorem dJ0_charAt_5068e_21 : decode cJ0_charAt_5068e 21 = .ok (.invokestatic 498, 3) := by decide +kernel
theorem dJ0_charAt_5068e_24 : decode cJ0_charAt_5068e 24 = .ok (.ireturn, 1) := by decide +kernel
set_option maxHeartbeats 4000000 in
set_option maxRecDepth 100000 in
theorem t_J0_charAt_5068e {l : Launch} {g : zG} {d : Nat} {s : zS} {i : Nat} (hi : i < 20) {p0 : Int32} {K : Int32 → zS → Prop} (h : (zc l g d M_J0_isLatin1_aae02 [.ref (2 + i)] s (zKz (fun b2 s1 => s1.2.2.1 = s.2.2.1 ∧ (if b2 = true then (zc l g d M_J1_charAt_3b067 [.ref (22 + i), .int p0] s1 (zKi (fun r4 s3 => s3.2.2.1 = s1.2.2.1 ∧ (narrow .char (.int r4) = .int r4 ∧ K r4 s3)))) else False))))) : zc l g (d + 1) M_J0_charAt_5068e [.ref (2 + i), .int p0] s (zKi K) := by
  refine zCall_of k_J0_charAt_5068e (Nat.le_of_ble_eq_true rfl) (Nat.le_refl _) (fun _ => ?_)
  show zt l g (d + 1) M_J0_charAt_5068e 0 [.ref (2 + i), .int p0] [] s (zKi K)
  refine z_aload_n (i := 0) dJ0_charAt_5068e_0 rfl rfl rfl ?_
  refine z_callV k_J0_isLatin1_aae02 m_J0_492 (zRec_s hi) rfl h rfl (Nat.le_of_ble_eq_true rfl) dJ0_charAt_5068e_1 zy200 rfl ?_
  rintro v s1 ⟨b2, rfl, hRs1, h⟩
  show zt l g (d + 1) M_J0_charAt_5068e 4 [.ref (2 + i), .int p0] [.int (zb b2)] s1 _
  refine z_ifb_eq (pt := 16) dJ0_charAt_5068e_4 (by decide) rfl (fun c => ?_) (fun c => ?_)
  · have h := zif h (by rw [c]; exact Bool.false_ne_true)
    refine z_aload_n (i := 0) dJ0_charAt_5068e_16 rfl rfl rfl ?_
    refine z_sgetV hi l_J0_9 dJ0_charAt_5068e_17 rfl ?_
    refine z_iload_n (i := 1) dJ0_charAt_5068e_20 rfl rfl rfl ?_
    exact h.elim
  · have h := zit h c
    refine z_aload_n (i := 0) dJ0_charAt_5068e_7 rfl rfl rfl ?_
    refine z_sgetV hi l_J0_9 dJ0_charAt_5068e_8 rfl ?_
    refine z_iload_n (i := 1) dJ0_charAt_5068e_11 rfl rfl rfl ?_
    refine z_callS (as := [.ref (22 + i), .int p0]) k_J1_charAt_3b067 m_J0_495 rfl h rfl (Nat.le_of_ble_eq_true rfl) dJ0_charAt_5068e_12 zy200 rfl ?_
    rintro v s3 ⟨r4, rfl, hRs3, h⟩
    show zt l g (d + 1) M_J0_charAt_5068e 15 [.ref (2 + i), .int p0] [.int r4] s3 _
    exact z_ret (some (.int r4)) (Or.inr (Or.inl ⟨_, _, rfl, rfl, h.1, dJ0_charAt_5068e_15⟩)) zN200 ⟨_, rfl, h.2⟩
theorem dJ1_canEncode_9a6ad_0 : decode cJ1_canEncode_9a6ad 0 = .ok (.iload_n 0, 1) := by decide +kernel
theorem dJ1_canEncode_9a6ad_1 : decode cJ1_canEncode_9a6ad 1 = .ok (.ifCond .lt 14, 3) := by decide +kernel
theorem dJ1_canEncode_9a6ad_4 : decode cJ1_canEncode_9a6ad 4 = .ok (.iload_n 0, 1) := by decide +kernel
theorem dJ1_canEncode_9a6ad_5 : decode cJ1_canEncode_9a6ad 5 = .ok (.sipush 255, 3) := by decide +kernel
theorem dJ1_canEncode_9a6ad_8 : decode cJ1_canEncode_9a6ad 8 = .ok (.if_icmp .gt 7, 3) := by decide +kernel
theorem dJ1_canEncode_9a6ad_11 : decode cJ1_canEncode_9a6ad 11 = .ok (.iconst 1, 1) := by decide +kernel
theorem dJ1_canEncode_9a6ad_12 : decode cJ1_canEncode_9a6ad 12 = .ok (.goto 4, 3) := by decide +kernel
theorem dJ1_canEncode_9a6ad_15 : decode cJ1_canEncode_9a6ad 15 = .ok (.iconst 0, 1) := by decide +kernel
theorem dJ1_canEncode_9a6ad_16 : decode cJ1_canEncode_9a6ad 16 = .ok (.ireturn, 1) := by decide +kernel
set_option maxHeartbeats 4000000 in
set_option maxRecDepth 100000 in
theorem t_J1_canEncode_9a6ad {l : Launch} {g : zG} {d : Nat} {s : zS} {p0 : Int32} {K : Bool → zS → Prop} (h : (if p0 < 0 then K false s else (if (255 : Int32) < p0 then K false s else K true s))) : zc l g d M_J1_canEncode_9a6ad [.int p0] s (zKz K) := by
  refine zCall_of k_J1_canEncode_9a6ad (Nat.le_of_ble_eq_true rfl) (Nat.le_refl _) (fun _ => ?_)
  show zt l g d M_J1_canEncode_9a6ad 0 [.int p0] [] s (zKz K)
  refine z_iload_n (i := 0) dJ1_canEncode_9a6ad_0 rfl rfl rfl ?_
  refine z_if_lt (pt := 15) dJ1_canEncode_9a6ad_1 (by decide) rfl (fun c => ?_) (fun c => ?_)
  · have h := zit h c
    refine z_iconst (v := (0 : Int32)) dJ1_canEncode_9a6ad_15 (by decide) rfl ?_
    exact z_ret (some (.int (zb false))) (Or.inr (Or.inl ⟨_, _, rfl, rfl, zb_nar _, dJ1_canEncode_9a6ad_16⟩)) zN200 ⟨_, rfl, h⟩
  · have h := zif h c
    refine z_iload_n (i := 0) dJ1_canEncode_9a6ad_4 rfl rfl rfl ?_
    refine z_sipush (v := (255 : Int32)) dJ1_canEncode_9a6ad_5 (by decide) rfl ?_
    refine z_icmp_gt (pt := 15) dJ1_canEncode_9a6ad_8 (by decide) rfl (fun c => ?_) (fun c => ?_)
    · have h := zit h c
      refine z_iconst (v := (0 : Int32)) dJ1_canEncode_9a6ad_15 (by decide) rfl ?_
      exact z_ret (some (.int (zb false))) (Or.inr (Or.inl ⟨_, _, rfl, rfl, zb_nar _, dJ1_canEncode_9a6ad_16⟩)) zN200 ⟨_, rfl, h⟩
    · have h := zif h c
      refine z_iconst (v := (1 : Int32)) dJ1_canEncode_9a6ad_11 (by decide) rfl ?_
      refine z_goto (pn := 16) dJ1_canEncode_9a6ad_12 (by decide) ?_
      exact z_ret (some (.int (zb true))) (Or.inr (Or.inl ⟨_, _, rfl, rfl, zb_nar _, dJ1_canEncode_9a6ad_16⟩)) zN200 ⟨_, rfl, h⟩
theorem dJ1_indexOfChar_4cfef_0 : decode cJ1_indexOfChar_4cfef 0 = .ok (.iload_n 1, 1) := by decide +kernel
theorem dJ1_indexOfChar_4cfef_1 : decode cJ1_indexOfChar_4cfef 1 = .ok (.i2b, 1) := by decide +kernel
theorem dJ1_indexOfChar_4cfef_2 : decode cJ1_indexOfChar_4cfef 2 = .ok (.istore 4, 2) := by decide +kernel
theorem dJ1_indexOfChar_4cfef_4 : decode cJ1_indexOfChar_4cfef 4 = .ok (.iload_n 2, 1) := by decide +kernel
theorem dJ1_indexOfChar_4cfef_5 : decode cJ1_indexOfChar_4cfef 5 = .ok (.istore 5, 2) := by decide +kernel
theorem dJ1_indexOfChar_4cfef_7 : decode cJ1_indexOfChar_4cfef 7 = .ok (.iload 5, 2) := by decide +kernel
theorem dJ1_indexOfChar_4cfef_9 : decode cJ1_indexOfChar_4cfef 9 = .ok (.iload_n 3, 1) := by decide +kernel
theorem dJ1_indexOfChar_4cfef_10 : decode cJ1_indexOfChar_4cfef 10 = .ok (.if_icmp .ge 21, 3) := by decide +kernel
theorem dJ1_indexOfChar_4cfef_13 : decode cJ1_indexOfChar_4cfef 13 = .ok (.aload_n 0, 1) := by decide +kernel
theorem dJ1_indexOfChar_4cfef_14 : decode cJ1_indexOfChar_4cfef 14 = .ok (.iload 5, 2) := by decide +kernel
theorem dJ1_indexOfChar_4cfef_16 : decode cJ1_indexOfChar_4cfef 16 = .ok (.baload, 1) := by decide +kernel
theorem dJ1_indexOfChar_4cfef_17 : decode cJ1_indexOfChar_4cfef 17 = .ok (.iload 4, 2) := by decide +kernel
theorem dJ1_indexOfChar_4cfef_19 : decode cJ1_indexOfChar_4cfef 19 = .ok (.if_icmp .ne 6, 3) := by decide +kernel
theorem dJ1_indexOfChar_4cfef_22 : decode cJ1_indexOfChar_4cfef 22 = .ok (.iload 5, 2) := by decide +kernel
theorem dJ1_indexOfChar_4cfef_24 : decode cJ1_indexOfChar_4cfef 24 = .ok (.ireturn, 1) := by decide +kernel
theorem dJ1_indexOfChar_4cfef_25 : decode cJ1_indexOfChar_4cfef 25 = .ok (.iinc 5 1, 3) := by decide +kernel
theorem dJ1_indexOfChar_4cfef_28 : decode cJ1_indexOfChar_4cfef 28 = .ok (.goto (-21), 3) := by decide +kernel
theorem dJ1_indexOfChar_4cfef_31 : decode cJ1_indexOfChar_4cfef 31 = .ok (.iconst (-1), 1) := by decide +kernel
theorem dJ1_indexOfChar_4cfef_32 : decode cJ1_indexOfChar_4cfef 32 = .ok (.ireturn, 1) := by decide +kernel
set_option maxHeartbeats 4000000 in
set_option maxRecDepth 100000 in
theorem t_J1_indexOfChar_4cfef {l : Launch} {g : zG} {d : Nat} {s : zS} {i : Nat} (hi : i < 20) {p1 : Int32} {p2 : Int32} {p3 : Int32} {K : Int32 → zS → Prop} (h : zt l g d M_J1_indexOfChar_4cfef 7 [.ref (22 + i), zJ, zJ, .int p3, .int p1.toInt8.toInt32, .int p2] [] s (zKi K)) : zc l g d M_J1_indexOfChar_4cfef [.ref (22 + i), .int p1, .int p2, .int p3] s (zKi K) := by
  refine zCall_of k_J1_indexOfChar_4cfef (Nat.le_of_ble_eq_true rfl) (Nat.le_refl _) (fun _ => ?_)
  show zt l g d M_J1_indexOfChar_4cfef 0 [.ref (22 + i), .int p1, .int p2, .int p3, zJ, zJ] [] s (zKi K)
  refine z_iload_n (i := 1) dJ1_indexOfChar_4cfef_0 rfl rfl rfl ?_
  refine z_i2b dJ1_indexOfChar_4cfef_1 rfl ?_
  refine z_istore dJ1_indexOfChar_4cfef_2 (by decide) (zokd rfl) rfl ?_
  show zt l g d M_J1_indexOfChar_4cfef 4 [.ref (22 + i), .int p1, .int p2, .int p3, .int p1.toInt8.toInt32, zJ] [] s _
  refine z_iload_n (i := 2) dJ1_indexOfChar_4cfef_4 rfl rfl rfl ?_
  refine z_istore dJ1_indexOfChar_4cfef_5 (by decide) (zokd rfl) rfl ?_
  show zt l g d M_J1_indexOfChar_4cfef 7 [.ref (22 + i), .int p1, .int p2, .int p3, .int p1.toInt8.toInt32, .int p2] [] s _
  refine z_wk (ls' := [.ref (22 + i), zJ, zJ, .int p3, .int p1.toInt8.toInt32, .int p2]) ⟨Or.inr rfl, Or.inl rfl, Or.inl rfl, Or.inr rfl, Or.inr rfl, Or.inr rfl, trivial⟩ ?_
  exact h
set_option maxHeartbeats 4000000 in
set_option maxRecDepth 100000 in
theorem t_J1_indexOfChar_4cfef_7 {l : Launch} {g : zG} {d : Nat} {s : zS} {i : Nat} (hi : i < 20) {x3 : Int32} {x4 : Int32} {x5 : Int32} {K : Int32 → zS → Prop} (h : (if x3 ≤ x5 then K (-1 : Int32) s else (vp_in x5 (zSl.getD i 0) ∧ (if (zsby i x5.toNatClampNeg) = x4 then K x5 s else zt l g d M_J1_indexOfChar_4cfef 7 [.ref (22 + i), zJ, zJ, .int x3, .int x4, .int (x5 + (1 : Int32))] [] s (zKi K))))) : zt l g d M_J1_indexOfChar_4cfef 7 [.ref (22 + i), zJ, zJ, .int x3, .int x4, .int x5] [] s (zKi K) := by
  refine z_iload dJ1_indexOfChar_4cfef_7 rfl rfl ?_
  refine z_iload_n (i := 3) dJ1_indexOfChar_4cfef_9 rfl rfl rfl ?_
  refine z_icmp_ge (pt := 31) dJ1_indexOfChar_4cfef_10 (by decide) rfl (fun c => ?_) (fun c => ?_)
  · have h := zit h c
    refine z_iconst (v := (-1 : Int32)) dJ1_indexOfChar_4cfef_31 (by decide) rfl ?_
    exact z_ret (some (.int (-1 : Int32))) (Or.inr (Or.inl ⟨_, _, rfl, rfl, rfl, dJ1_indexOfChar_4cfef_32⟩)) zN200 ⟨_, rfl, h⟩
  · have h := zif h c
    refine z_aload_n (i := 0) dJ1_indexOfChar_4cfef_13 rfl rfl rfl ?_
    refine z_iload dJ1_indexOfChar_4cfef_14 rfl rfl ?_
    obtain ⟨a1, h⟩ := h
    refine z_sbald hi a1 dJ1_indexOfChar_4cfef_16 rfl ?_
    refine z_iload dJ1_indexOfChar_4cfef_17 rfl rfl ?_
    refine z_icmp_ne (pt := 25) dJ1_indexOfChar_4cfef_19 (by decide) rfl (fun c => ?_) (fun c => ?_)
    · have h := zif h c
      refine z_iinc (v := x5 + (1 : Int32)) dJ1_indexOfChar_4cfef_25 rfl rfl (by decide) (zokd rfl) rfl ?_
      show zt l g d M_J1_indexOfChar_4cfef 28 [.ref (22 + i), zJ, zJ, .int x3, .int x4, .int (x5 + (1 : Int32))] [] s _
      refine z_goto (pn := 7) dJ1_indexOfChar_4cfef_28 (by decide) ?_
      exact h
    · have h := zit h c
      refine z_iload dJ1_indexOfChar_4cfef_22 rfl rfl ?_
      exact z_ret (some (.int x5)) (Or.inr (Or.inl ⟨_, _, rfl, rfl, rfl, dJ1_indexOfChar_4cfef_24⟩)) zN200 ⟨_, rfl, h⟩
theorem dJ1_indexOf_4cfef_0 : decode cJ1_indexOf_4cfef 0 = .ok (.iload_n 1, 1) := by decide +kernel
theorem dJ1_indexOf_4cfef_1 : decode cJ1_indexOf_4cfef 1 = .ok (.invokestatic 88, 3) := by decide +kernel
theorem dJ1_indexOf_4cfef_4 : decode cJ1_indexOf_4cfef 4 = .ok (.ifCond .ne 5, 3) := by decide +kernel
theorem dJ1_indexOf_4cfef_7 : decode cJ1_indexOf_4cfef 7 = .ok (.iconst (-1), 1) := by decide +kernel
theorem dJ1_indexOf_4cfef_8 : decode cJ1_indexOf_4cfef 8 = .ok (.ireturn, 1) := by decide +kernel
theorem dJ1_indexOf_4cfef_9 : decode cJ1_indexOf_4cfef 9 = .ok (.iload_n 2, 1) := by decide +kernel
theorem dJ1_indexOf_4cfef_10 : decode cJ1_indexOf_4cfef 10 = .ok (.iconst 0, 1) := by decide +kernel
theorem dJ1_indexOf_4cfef_11 : decode cJ1_indexOf_4cfef 11 = .ok (.invokestatic 92, 3) := by decide +kernel
theorem dJ1_indexOf_4cfef_14 : decode cJ1_indexOf_4cfef 14 = .ok (.istore_n 2, 1) := by decide +kernel
theorem dJ1_indexOf_4cfef_15 : decode cJ1_indexOf_4cfef 15 = .ok (.iload_n 3, 1) := by decide +kernel
theorem dJ1_indexOf_4cfef_16 : decode cJ1_indexOf_4cfef 16 = .ok (.aload_n 0, 1) := by decide +kernel
theorem dJ1_indexOf_4cfef_17 : decode cJ1_indexOf_4cfef 17 = .ok (.arraylength, 1) := by decide +kernel
theorem dJ1_indexOf_4cfef_18 : decode cJ1_indexOf_4cfef 18 = .ok (.invokestatic 38, 3) := by decide +kernel
theorem dJ1_indexOf_4cfef_21 : decode cJ1_indexOf_4cfef 21 = .ok (.istore_n 3, 1) := by decide +kernel
theorem dJ1_indexOf_4cfef_22 : decode cJ1_indexOf_4cfef 22 = .ok (.iload_n 2, 1) := by decide +kernel
theorem dJ1_indexOf_4cfef_23 : decode cJ1_indexOf_4cfef 23 = .ok (.iload_n 3, 1) := by decide +kernel
theorem dJ1_indexOf_4cfef_24 : decode cJ1_indexOf_4cfef 24 = .ok (.if_icmp .lt 5, 3) := by decide +kernel
theorem dJ1_indexOf_4cfef_27 : decode cJ1_indexOf_4cfef 27 = .ok (.iconst (-1), 1) := by decide +kernel
theorem dJ1_indexOf_4cfef_28 : decode cJ1_indexOf_4cfef 28 = .ok (.ireturn, 1) := by decide +kernel
theorem dJ1_indexOf_4cfef_29 : decode cJ1_indexOf_4cfef 29 = .ok (.aload_n 0, 1) := by decide +kernel
theorem dJ1_indexOf_4cfef_30 : decode cJ1_indexOf_4cfef 30 = .ok (.iload_n 1, 1) := by decide +kernel
theorem dJ1_indexOf_4cfef_31 : decode cJ1_indexOf_4cfef 31 = .ok (.iload_n 2, 1) := by decide +kernel
theorem dJ1_indexOf_4cfef_32 : decode cJ1_indexOf_4cfef 32 = .ok (.iload_n 3, 1) := by decide +kernel
theorem dJ1_indexOf_4cfef_33 : decode cJ1_indexOf_4cfef 33 = .ok (.invokestatic 95, 3) := by decide +kernel
theorem dJ1_indexOf_4cfef_36 : decode cJ1_indexOf_4cfef 36 = .ok (.ireturn, 1) := by decide +kernel
set_option maxHeartbeats 4000000 in
set_option maxRecDepth 100000 in
theorem t_J1_indexOf_4cfef {l : Launch} {g : zG} {d : Nat} {s : zS} {i : Nat} (hi : i < 20) {p1 : Int32} {p2 : Int32} {p3 : Int32} {K : Int32 → zS → Prop} (h : (zc l g d M_J1_canEncode_9a6ad [.int p1] s (zKz (fun b2 s1 => s1.2.2.1 = s.2.2.1 ∧ (if b2 = true then (if (zmax p2 (0 : Int32)) < (zmin p3 (zslen i)) then (zc l g d M_J1_indexOfChar_4cfef [.ref (22 + i), .int p1, .int (zmax p2 (0 : Int32)), .int (zmin p3 (zslen i))] s1 (zKi (fun r4 s3 => s3.2.2.1 = s1.2.2.1 ∧ K r4 s3))) else K (-1 : Int32) s1) else K (-1 : Int32) s1))))) : zc l g (d + 1) M_J1_indexOf_4cfef [.ref (22 + i), .int p1, .int p2, .int p3] s (zKi K) := by
  refine zCall_of k_J1_indexOf_4cfef (Nat.le_of_ble_eq_true rfl) (Nat.le_refl _) (fun _ => ?_)
  show zt l g (d + 1) M_J1_indexOf_4cfef 0 [.ref (22 + i), .int p1, .int p2, .int p3] [] s (zKi K)
  refine z_iload_n (i := 1) dJ1_indexOf_4cfef_0 rfl rfl rfl ?_
  refine z_callS (as := [.int p1]) k_J1_canEncode_9a6ad m_J1_88 rfl h rfl (Nat.le_of_ble_eq_true rfl) dJ1_indexOf_4cfef_1 zy200 rfl ?_
  rintro v s1 ⟨b2, rfl, hRs1, h⟩
  show zt l g (d + 1) M_J1_indexOf_4cfef 4 [.ref (22 + i), .int p1, .int p2, .int p3] [.int (zb b2)] s1 _
  refine z_ifb_ne (pt := 9) dJ1_indexOf_4cfef_4 (by decide) rfl (fun c => ?_) (fun c => ?_)
  · have h := zit h c
    refine z_iload_n (i := 2) dJ1_indexOf_4cfef_9 rfl rfl rfl ?_
    refine z_iconst (v := (0 : Int32)) dJ1_indexOf_4cfef_10 (by decide) rfl ?_
    refine z_mmax m_J1_92 dJ1_indexOf_4cfef_11 (Nat.le_of_ble_eq_true rfl) rfl ?_
    refine z_istore_n (i := 2) dJ1_indexOf_4cfef_14 rfl (by decide) (zokd rfl) rfl ?_
    show zt l g (d + 1) M_J1_indexOf_4cfef 15 [.ref (22 + i), .int p1, .int (zmax p2 (0 : Int32)), .int p3] [] s1 _
    refine z_iload_n (i := 3) dJ1_indexOf_4cfef_15 rfl rfl rfl ?_
    refine z_aload_n (i := 0) dJ1_indexOf_4cfef_16 rfl rfl rfl ?_
    refine z_salen hi dJ1_indexOf_4cfef_17 rfl ?_
    refine z_mmin m_J1_38 dJ1_indexOf_4cfef_18 (Nat.le_of_ble_eq_true rfl) rfl ?_
    refine z_istore_n (i := 3) dJ1_indexOf_4cfef_21 rfl (by decide) (zokd rfl) rfl ?_
    show zt l g (d + 1) M_J1_indexOf_4cfef 22 [.ref (22 + i), .int p1, .int (zmax p2 (0 : Int32)), .int (zmin p3 (zslen i))] [] s1 _
    refine z_iload_n (i := 2) dJ1_indexOf_4cfef_22 rfl rfl rfl ?_
    refine z_iload_n (i := 3) dJ1_indexOf_4cfef_23 rfl rfl rfl ?_
    refine z_icmp_lt (pt := 29) dJ1_indexOf_4cfef_24 (by decide) rfl (fun c => ?_) (fun c => ?_)
    · have h := zit h c
      refine z_aload_n (i := 0) dJ1_indexOf_4cfef_29 rfl rfl rfl ?_
      refine z_iload_n (i := 1) dJ1_indexOf_4cfef_30 rfl rfl rfl ?_
      refine z_iload_n (i := 2) dJ1_indexOf_4cfef_31 rfl rfl rfl ?_
      refine z_iload_n (i := 3) dJ1_indexOf_4cfef_32 rfl rfl rfl ?_
      refine z_callS (as := [.ref (22 + i), .int p1, .int (zmax p2 (0 : Int32)), .int (zmin p3 (zslen i))]) k_J1_indexOfChar_4cfef m_J1_95 rfl h rfl (Nat.le_of_ble_eq_true rfl) dJ1_indexOf_4cfef_33 zy200 rfl ?_
      rintro v s3 ⟨r4, rfl, hRs3, h⟩
      show zt l g (d + 1) M_J1_indexOf_4cfef 36 [.ref (22 + i), .int p1, .int (zmax p2 (0 : Int32)), .int (zmin p3 (zslen i))] [.int r4] s3 _
      exact z_ret (some (.int r4)) (Or.inr (Or.inl ⟨_, _, rfl, rfl, rfl, dJ1_indexOf_4cfef_36⟩)) zN200 ⟨_, rfl, h⟩
    · have h := zif h c
      refine z_iconst (v := (-1 : Int32)) dJ1_indexOf_4cfef_27 (by decide) rfl ?_
      exact z_ret (some (.int (-1 : Int32))) (Or.inr (Or.inl ⟨_, _, rfl, rfl, rfl, dJ1_indexOf_4cfef_28⟩)) zN200 ⟨_, rfl, h⟩
  · have h := zif h (by rw [c]; exact Bool.false_ne_true)
    refine z_iconst (v := (-1 : Int32)) dJ1_indexOf_4cfef_7 (by decide) rfl ?_
    exact z_ret (some (.int (-1 : Int32))) (Or.inr (Or.inl ⟨_, _, rfl, rfl, rfl, dJ1_indexOf_4cfef_8⟩)) zN200 ⟨_, rfl, h⟩
theorem dJ0_indexOf_7cf53_0 : decode cJ0_indexOf_7cf53 0 = .ok (.aload_n 0, 1) := by decide +kernel
theorem dJ0_indexOf_7cf53_1 : decode cJ0_indexOf_7cf53 1 = .ok (.invokevirtual 492, 3) := by decide +kernel
theorem dJ0_indexOf_7cf53_4 : decode cJ0_indexOf_7cf53 4 = .ok (.ifCond .eq 19, 3) := by decide +kernel
theorem dJ0_indexOf_7cf53_7 : decode cJ0_indexOf_7cf53 7 = .ok (.aload_n 0, 1) := by decide +kernel
theorem dJ0_indexOf_7cf53_8 : decode cJ0_indexOf_7cf53 8 = .ok (.getfield 9, 3) := by decide +kernel
theorem dJ0_indexOf_7cf53_11 : decode cJ0_indexOf_7cf53 11 = .ok (.iload_n 1, 1) := by decide +kernel
theorem dJ0_indexOf_7cf53_12 : decode cJ0_indexOf_7cf53 12 = .ok (.iload_n 2, 1) := by decide +kernel
theorem dJ0_indexOf_7cf53_13 : decode cJ0_indexOf_7cf53 13 = .ok (.aload_n 0, 1) := by decide +kernel
theorem dJ0_indexOf_7cf53_14 : decode cJ0_indexOf_7cf53 14 = .ok (.invokevirtual 505, 3) := by decide +kernel
theorem dJ0_indexOf_7cf53_17 : decode cJ0_indexOf_7cf53 17 = .ok (.invokestatic 637, 3) := by decide +kernel
theorem dJ0_indexOf_7cf53_20 : decode cJ0_indexOf_7cf53 20 = .ok (.goto 16, 3) := by decide +kernel
theorem dJ0_indexOf_7cf53_23 : decode cJ0_indexOf_7cf53 23 = .ok (.aload_n 0, 1) := by decide +kernel
theorem dJ0_indexOf_7cf53_24 : decode cJ0_indexOf_7cf53 24 = .ok (.getfield 9, 3) := by decide +kernel
theorem dJ0_indexOf_7cf53_27 : decode cJ0_indexOf_7cf53 27 = .ok (.iload_n 1, 1) := by decide +kernel
theorem dJ0_indexOf_7cf53_28 : decode cJ0_indexOf_7cf53 28 = .ok (.iload_n 2, 1) := by decide +kernel
theorem dJ0_indexOf_7cf53_29 : decode cJ0_indexOf_7cf53 29 = .ok (.aload_n 0, 1) := by decide +kernel
theorem dJ0_indexOf_7cf53_30 : decode cJ0_indexOf_7cf53 30 = .ok (.invokevirtual 505, 3) := by decide +kernel
theorem dJ0_indexOf_7cf53_33 : decode cJ0_indexOf_7cf53 33 = .ok (.invokestatic 640, 3) := by decide +kernel
theorem dJ0_indexOf_7cf53_36 : decode cJ0_indexOf_7cf53 36 = .ok (.ireturn, 1) := by decide +kernel
set_option maxHeartbeats 4000000 in
set_option maxRecDepth 100000 in
theorem t_J0_indexOf_7cf53 {l : Launch} {g : zG} {d : Nat} {s : zS} {i : Nat} (hi : i < 20) {p0 : Int32} {p1 : Int32} {K : Int32 → zS → Prop} (h : (zc l g d M_J0_isLatin1_aae02 [.ref (2 + i)] s (zKz (fun b2 s1 => s1.2.2.1 = s.2.2.1 ∧ (if b2 = true then (zc l g d M_J0_length_8abf5 [.ref (2 + i)] s1 (zKi (fun r6 s5 => s5.2.2.1 = s1.2.2.1 ∧ (zc l g d M_J1_indexOf_4cfef [.ref (22 + i), .int p0, .int p1, .int r6] s5 (zKi (fun r8 s7 => s7.2.2.1 = s5.2.2.1 ∧ K r8 s7)))))) else (zc l g d M_J0_length_8abf5 [.ref (2 + i)] s1 (zKi (fun r4 s3 => s3.2.2.1 = s1.2.2.1 ∧ False)))))))) : zc l g (d + 1) M_J0_indexOf_7cf53 [.ref (2 + i), .int p0, .int p1] s (zKi K) := by
  refine zCall_of k_J0_indexOf_7cf53 (Nat.le_of_ble_eq_true rfl) (Nat.le_refl _) (fun _ => ?_)
  show zt l g (d + 1) M_J0_indexOf_7cf53 0 [.ref (2 + i), .int p0, .int p1] [] s (zKi K)
  refine z_aload_n (i := 0) dJ0_indexOf_7cf53_0 rfl rfl rfl ?_
  refine z_callV k_J0_isLatin1_aae02 m_J0_492 (zRec_s hi) rfl h rfl (Nat.le_of_ble_eq_true rfl) dJ0_indexOf_7cf53_1 zy200 rfl ?_
  rintro v s1 ⟨b2, rfl, hRs1, h⟩
  show zt l g (d + 1) M_J0_indexOf_7cf53 4 [.ref (2 + i), .int p0, .int p1] [.int (zb b2)] s1 _
  refine z_ifb_eq (pt := 23) dJ0_indexOf_7cf53_4 (by decide) rfl (fun c => ?_) (fun c => ?_)
  · have h := zif h (by rw [c]; exact Bool.false_ne_true)
    refine z_aload_n (i := 0) dJ0_indexOf_7cf53_23 rfl rfl rfl ?_
    refine z_sgetV hi l_J0_9 dJ0_indexOf_7cf53_24 rfl ?_
    refine z_iload_n (i := 1) dJ0_indexOf_7cf53_27 rfl rfl rfl ?_
    refine z_iload_n (i := 2) dJ0_indexOf_7cf53_28 rfl rfl rfl ?_
    refine z_aload_n (i := 0) dJ0_indexOf_7cf53_29 rfl rfl rfl ?_
    refine z_callV k_J0_length_8abf5 m_J0_505 (zRec_s hi) rfl h rfl (Nat.le_of_ble_eq_true rfl) dJ0_indexOf_7cf53_30 zy200 rfl ?_
    rintro v s3 ⟨r4, rfl, hRs3, h⟩
    show zt l g (d + 1) M_J0_indexOf_7cf53 33 [.ref (2 + i), .int p0, .int p1] [.int r4, .int p1, .int p0, .ref (22 + i)] s3 _
    exact h.elim
  · have h := zit h c
    refine z_aload_n (i := 0) dJ0_indexOf_7cf53_7 rfl rfl rfl ?_
    refine z_sgetV hi l_J0_9 dJ0_indexOf_7cf53_8 rfl ?_
    refine z_iload_n (i := 1) dJ0_indexOf_7cf53_11 rfl rfl rfl ?_
    refine z_iload_n (i := 2) dJ0_indexOf_7cf53_12 rfl rfl rfl ?_
    refine z_aload_n (i := 0) dJ0_indexOf_7cf53_13 rfl rfl rfl ?_
    refine z_callV k_J0_length_8abf5 m_J0_505 (zRec_s hi) rfl h rfl (Nat.le_of_ble_eq_true rfl) dJ0_indexOf_7cf53_14 zy200 rfl ?_
    rintro v s5 ⟨r6, rfl, hRs5, h⟩
    show zt l g (d + 1) M_J0_indexOf_7cf53 17 [.ref (2 + i), .int p0, .int p1] [.int r6, .int p1, .int p0, .ref (22 + i)] s5 _
    refine z_callS (as := [.ref (22 + i), .int p0, .int p1, .int r6]) k_J1_indexOf_4cfef m_J0_637 rfl h rfl (Nat.le_of_ble_eq_true rfl) dJ0_indexOf_7cf53_17 zy200 rfl ?_
    rintro v s7 ⟨r8, rfl, hRs7, h⟩
    show zt l g (d + 1) M_J0_indexOf_7cf53 20 [.ref (2 + i), .int p0, .int p1] [.int r8] s7 _
    refine z_goto (pn := 36) dJ0_indexOf_7cf53_20 (by decide) ?_
    exact z_ret (some (.int r8)) (Or.inr (Or.inl ⟨_, _, rfl, rfl, rfl, dJ0_indexOf_7cf53_36⟩)) zN200 ⟨_, rfl, h⟩
theorem dJ0_indexOf_0f7a4_0 : decode cJ0_indexOf_0f7a4 0 = .ok (.aload_n 0, 1) := by decide +kernel
theorem dJ0_indexOf_0f7a4_1 : decode cJ0_indexOf_0f7a4 1 = .ok (.iload_n 1, 1) := by decide +kernel
theorem dJ0_indexOf_0f7a4_2 : decode cJ0_indexOf_0f7a4 2 = .ok (.iconst 0, 1) := by decide +kernel
theorem dJ0_indexOf_0f7a4_3 : decode cJ0_indexOf_0f7a4 3 = .ok (.invokevirtual 633, 3) := by decide +kernel
theorem dJ0_indexOf_0f7a4_6 : decode cJ0_indexOf_0f7a4 6 = .ok (.ireturn, 1) := by decide +kernel
set_option maxHeartbeats 4000000 in
set_option maxRecDepth 100000 in
theorem t_J0_indexOf_0f7a4 {l : Launch} {g : zG} {d : Nat} {s : zS} {i : Nat} (hi : i < 20) {p0 : Int32} {K : Int32 → zS → Prop} (h : (zc l g d M_J0_indexOf_7cf53 [.ref (2 + i), .int p0, .int (0 : Int32)] s (zKi (fun r2 s1 => s1.2.2.1 = s.2.2.1 ∧ K r2 s1)))) : zc l g (d + 1) M_J0_indexOf_0f7a4 [.ref (2 + i), .int p0] s (zKi K) := by
  refine zCall_of k_J0_indexOf_0f7a4 (Nat.le_of_ble_eq_true rfl) (Nat.le_refl _) (fun _ => ?_)
  show zt l g (d + 1) M_J0_indexOf_0f7a4 0 [.ref (2 + i), .int p0] [] s (zKi K)
  refine z_aload_n (i := 0) dJ0_indexOf_0f7a4_0 rfl rfl rfl ?_
  refine z_iload_n (i := 1) dJ0_indexOf_0f7a4_1 rfl rfl rfl ?_
  refine z_iconst (v := (0 : Int32)) dJ0_indexOf_0f7a4_2 (by decide) rfl ?_
  refine z_callV k_J0_indexOf_7cf53 m_J0_633 (zRec_s hi) rfl h rfl (Nat.le_of_ble_eq_true rfl) dJ0_indexOf_0f7a4_3 zy200 rfl ?_
  rintro v s1 ⟨r2, rfl, hRs1, h⟩
  show zt l g (d + 1) M_J0_indexOf_0f7a4 6 [.ref (2 + i), .int p0] [.int r2] s1 _
  exact z_ret (some (.int r2)) (Or.inr (Or.inl ⟨_, _, rfl, rfl, rfl, dJ0_indexOf_0f7a4_6⟩)) zN200 ⟨_, rfl, h⟩
theorem dJ0_checkIndex_df160_0 : decode cJ0_checkIndex_df160 0 = .ok (.iload_n 0, 1) := by decide +kernel
theorem dJ0_checkIndex_df160_1 : decode cJ0_checkIndex_df160 1 = .ok (.iload_n 1, 1) := by decide +kernel
theorem dJ0_checkIndex_df160_2 : decode cJ0_checkIndex_df160 2 = .ok (.getstatic 1053, 3) := by decide +kernel
theorem dJ0_checkIndex_df160_5 : decode cJ0_checkIndex_df160 5 = .ok (.invokestatic 1059, 3) := by decide +kernel
theorem dJ0_checkIndex_df160_8 : decode cJ0_checkIndex_df160 8 = .ok (.pop, 1) := by decide +kernel
theorem dJ0_checkIndex_df160_9 : decode cJ0_checkIndex_df160 9 = .ok (.return_, 1) := by decide +kernel
theorem dJ3_checkIndex_8e157_0 : decode cJ3_checkIndex_8e157 0 = .ok (.iload_n 0, 1) := by decide +kernel
theorem dJ3_checkIndex_8e157_1 : decode cJ3_checkIndex_8e157 1 = .ok (.ifCond .lt 8, 3) := by decide +kernel
theorem dJ3_checkIndex_8e157_4 : decode cJ3_checkIndex_8e157 4 = .ok (.iload_n 0, 1) := by decide +kernel
theorem dJ3_checkIndex_8e157_5 : decode cJ3_checkIndex_8e157 5 = .ok (.iload_n 1, 1) := by decide +kernel
theorem dJ3_checkIndex_8e157_6 : decode cJ3_checkIndex_8e157 6 = .ok (.if_icmp .lt 10, 3) := by decide +kernel
theorem dJ3_checkIndex_8e157_9 : decode cJ3_checkIndex_8e157 9 = .ok (.aload_n 2, 1) := by decide +kernel
theorem dJ3_checkIndex_8e157_10 : decode cJ3_checkIndex_8e157 10 = .ok (.iload_n 0, 1) := by decide +kernel
theorem dJ3_checkIndex_8e157_11 : decode cJ3_checkIndex_8e157 11 = .ok (.iload_n 1, 1) := by decide +kernel
theorem dJ3_checkIndex_8e157_12 : decode cJ3_checkIndex_8e157 12 = .ok (.invokestatic 95, 3) := by decide +kernel
theorem dJ3_checkIndex_8e157_15 : decode cJ3_checkIndex_8e157 15 = .ok (.athrow, 1) := by decide +kernel
theorem dJ3_checkIndex_8e157_16 : decode cJ3_checkIndex_8e157 16 = .ok (.iload_n 0, 1) := by decide +kernel
theorem dJ3_checkIndex_8e157_17 : decode cJ3_checkIndex_8e157 17 = .ok (.ireturn, 1) := by decide +kernel
theorem t_J3_checkIndex {l : Launch} {g : zG} {d : Nat} {s : zS} {v : Value} (hv : v = .null ∨ v = .ref 63) {x n : Int32} (h0 : 0 ≤ x) (h1 : x < n) {K : Int32 → zS → Prop} (h : K x s) : zc l g d M_J3_checkIndex_8e157 [.int x, .int n, v] s (zKi K) := by
  rcases hv with rfl | rfl
  · refine zCall_of k_J3_checkIndex_8e157 (Nat.le_of_ble_eq_true rfl) (Nat.le_refl _) (fun _ => ?_)
    show zt l g d M_J3_checkIndex_8e157 0 [.int x, .int n, .null] [] s (zKi K)
    refine z_iload_n (i := 0) dJ3_checkIndex_8e157_0 rfl rfl rfl ?_
    refine z_if_lt (pt := 9) dJ3_checkIndex_8e157_1 (by decide) rfl (fun c => absurd c (Int32.not_lt.mpr h0)) (fun _ => ?_)
    refine z_iload_n (i := 0) dJ3_checkIndex_8e157_4 rfl rfl rfl ?_
    refine z_iload_n (i := 1) dJ3_checkIndex_8e157_5 rfl rfl rfl ?_
    refine z_icmp_lt (pt := 16) dJ3_checkIndex_8e157_6 (by decide) rfl (fun _ => ?_) (fun c => absurd h1 c)
    refine z_iload_n (i := 0) dJ3_checkIndex_8e157_16 rfl rfl rfl ?_
    exact z_ret (some (.int x)) (Or.inr (Or.inl ⟨_, _, rfl, rfl, rfl, dJ3_checkIndex_8e157_17⟩)) zN200 ⟨_, rfl, h⟩
  · refine zCall_of k_J3_checkIndex_8e157 (Nat.le_of_ble_eq_true rfl) (Nat.le_refl _) (fun _ => ?_)
    show zt l g d M_J3_checkIndex_8e157 0 [.int x, .int n, .ref 63] [] s (zKi K)
    refine z_iload_n (i := 0) dJ3_checkIndex_8e157_0 rfl rfl rfl ?_
    refine z_if_lt (pt := 9) dJ3_checkIndex_8e157_1 (by decide) rfl (fun c => absurd c (Int32.not_lt.mpr h0)) (fun _ => ?_)
    refine z_iload_n (i := 0) dJ3_checkIndex_8e157_4 rfl rfl rfl ?_
    refine z_iload_n (i := 1) dJ3_checkIndex_8e157_5 rfl rfl rfl ?_
    refine z_icmp_lt (pt := 16) dJ3_checkIndex_8e157_6 (by decide) rfl (fun _ => ?_) (fun c => absurd h1 c)
    refine z_iload_n (i := 0) dJ3_checkIndex_8e157_16 rfl rfl rfl ?_
    exact z_ret (some (.int x)) (Or.inr (Or.inl ⟨_, _, rfl, rfl, rfl, dJ3_checkIndex_8e157_17⟩)) zN200 ⟨_, rfl, h⟩
theorem t_J0_checkIndex {l : Launch} {g : zG} {d : Nat} {s : zS} {x n : Int32} (h0 : 0 ≤ x) (h1 : x < n) {K : zS → Prop} (h : K s) : zc l g (d + 1) M_J0_checkIndex_df160 [.int x, .int n] s (zKv K) := by
  refine zCall_of k_J0_checkIndex_df160 (Nat.le_of_ble_eq_true rfl) (Nat.le_refl _) (fun _ => ?_)
  show zt l g (d + 1) M_J0_checkIndex_df160 0 [.int x, .int n] [] s (zKv K)
  refine z_iload_n (i := 0) dJ0_checkIndex_df160_0 rfl rfl rfl ?_
  refine z_iload_n (i := 1) dJ0_checkIndex_df160_1 rfl rfl rfl ?_
  refine z_getF l_J0_1053 dJ0_checkIndex_df160_2 rfl (fun v hv => ?_)
  refine z_callS (as := [.int x, .int n, v]) k_J3_checkIndex_8e157 m_J0_1059 rfl (t_J3_checkIndex hv h0 h1 (K := fun r s1 => r = x ∧ s1 = s) ⟨rfl, rfl⟩) rfl (Nat.le_of_ble_eq_true rfl) dJ0_checkIndex_df160_5 zy200 rfl ?_
  rintro v s ⟨r, rfl, rfl, rfl⟩
  refine z_pop dJ0_checkIndex_df160_8 rfl rfl ?_
  exact z_ret none (Or.inl ⟨rfl, rfl, dJ0_checkIndex_df160_9⟩) zN200 ⟨rfl, h⟩
theorem zSl_lt : ∀ i, i < 20 → zSl.getD i 0 < 2 ^ 31 ∧ 0 < zSl.getD i 0 := by decide
theorem vin_iff {x : Int32} {n : Nat} (hn : n < 2 ^ 31) : vp_in x n ↔ 0 ≤ x ∧ x < Int32.ofNat n := by
  unfold vp_in
  rw [not_or, Nat.not_le, Int32.not_lt]
  constructor
  · rintro ⟨h1, h2⟩
    refine ⟨h1, ?_⟩
    obtain ⟨j, hj, rfl⟩ := nI_of (Int32.not_lt.mpr h1)
    rw [nI_clamp hj] at h2
    exact nI_lt h2 hn
  · rintro ⟨h1, h2⟩
    refine ⟨h1, ?_⟩
    obtain ⟨j, hj, rfl⟩ := nI_of (Int32.not_lt.mpr h1)
    rw [nI_clamp hj]
    exact (nI_ltI hj hn).mp h2
def zsch (i k : Nat) : Int32 := zsby i k &&& 255
theorem s_slen {l : Launch} {g : zG} {d : Nat} {s : zS} {i : Nat} (hi : i < 20) {K : Int32 → zS → Prop} (h : K (zslen i) s) : zc l g (d + 1) M_J0_length_8abf5 [.ref (2 + i)] s (zKi K) := by
  refine t_J0_length_8abf5 hi (t_J0_coder_7d493 hi ⟨rfl, rfl, ?_⟩)
  have e : zslen i >>> ((0 : Int32) &&& 31) = zslen i := sc_shr0 (zSl_lt i hi).1
  rw [e]
  exact h
theorem s_schar {l : Launch} {g : zG} {d : Nat} {s : zS} {i : Nat} (hi : i < 20) {x : Int32} (hin : vp_in x (zSl.getD i 0)) {K : Int32 → zS → Prop} (h : K (zsch i x.toNatClampNeg) s) : zc l g (d + 4) M_J0_charAt_5068e [.ref (2 + i), .int x] s (zKi K) := by
  have e2 : (((zsby i x.toNatClampNeg) &&& (255 : Int32)).toUInt32 % 65536).toInt32 = zsch i x.toNatClampNeg := sc_c2 _
  obtain ⟨h0, h1⟩ := (vin_iff (zSl_lt i hi).1).mp hin
  refine t_J0_charAt_5068e hi (t_J0_isLatin1_aae02 hi ⟨rfl, ?_⟩)
  rw [if_pos rfl]
  refine t_J1_charAt_3b067 hi (t_J0_checkIndex h0 h1 ⟨rfl, hin, ?_⟩)
  rw [e2]
  exact ⟨sc_nar _, rfl, sc_nar _, h⟩
def zsxF (i : Nat) (b : Int32) : Nat → Nat → Int32
  | 0, _ => -1
  | n + 1, k => if zsby i k = b then nI k else zsxF i b n (k + 1)
def zsix (i : Nat) (c : Int32) : Int32 := if c < 0 then -1 else if 255 < c then -1 else zsxF i c.toInt8.toInt32 (zSl.getD i 0) 0
theorem s_sixL {l : Launch} {g : zG} {d : Nat} {s : zS} {i : Nat} (hi : i < 20) {b : Int32} {K : Int32 → zS → Prop} : ∀ n k : Nat, k + n = zSl.getD i 0 → K (zsxF i b n k) s → zt l g d M_J1_indexOfChar_4cfef 7 [.ref (22 + i), zJ, zJ, .int (zslen i), .int b, .int (nI k)] [] s (zKi K) := by
  intro n
  have hL := (zSl_lt i hi).1
  induction n with
  | zero =>
    intro k hk h
    refine t_J1_indexOfChar_4cfef_7 hi ?_
    rw [if_pos (show zslen i ≤ nI k from nI_le (by omega) (by omega))]
    exact h
  | succ n ih =>
    intro k hk h
    refine t_J1_indexOfChar_4cfef_7 hi ?_
    rw [if_neg (show ¬ zslen i ≤ nI k from nI_ge (by omega) hL)]
    refine ⟨vp_in_nI (by omega) hL, ?_⟩
    rw [nI_clamp (by omega)]
    rw [zsxF] at h
    by_cases hc : zsby i k = b
    · rw [if_pos hc] at h ⊢
      exact h
    · rw [if_neg hc] at h ⊢
      rw [← nI_succ]
      exact ih (k + 1) (by omega) h
theorem s_sidx {l : Launch} {g : zG} {d : Nat} {s : zS} {i : Nat} (hi : i < 20) {c : Int32} {K : Int32 → zS → Prop} (h : K (zsix i c) s) : zc l g (d + 4) M_J0_indexOf_0f7a4 [.ref (2 + i), .int c] s (zKi K) := by
  obtain ⟨hL, h0⟩ := zSl_lt i hi
  refine t_J0_indexOf_0f7a4 hi (t_J0_indexOf_7cf53 hi (t_J0_isLatin1_aae02 hi ⟨rfl, ?_⟩))
  rw [if_pos rfl]
  refine s_slen hi ⟨rfl, t_J1_indexOf_4cfef hi (t_J1_canEncode_9a6ad ?_)⟩
  unfold zsix at h
  by_cases c1 : c < 0
  · rw [if_pos c1] at h ⊢
    refine ⟨rfl, ?_⟩
    rw [if_neg (by decide)]
    exact ⟨rfl, rfl, h⟩
  rw [if_neg c1] at h ⊢
  by_cases c2 : 255 < c
  · rw [if_pos c2] at h ⊢
    refine ⟨rfl, ?_⟩
    rw [if_neg (by decide)]
    exact ⟨rfl, rfl, h⟩
  rw [if_neg c2] at h ⊢
  refine ⟨rfl, ?_⟩
  rw [if_pos rfl]
  have e1 : zmax (0 : Int32) 0 = 0 := by decide
  have e2 : zmin (zslen i) (zslen i) = zslen i := by unfold zmin; split <;> rfl
  rw [e1, e2, if_pos (show (0 : Int32) < zslen i from nI_lt (a := 0) h0 hL)]
  refine t_J1_indexOfChar_4cfef hi ?_
  exact s_sixL hi (zSl.getD i 0) 0 (by omega) ⟨rfl, rfl, rfl, h⟩
section ZHS
variable {l : Launch} {g : zG} {d : Nat} {M : zM} {pc pn : Nat} {ls st : List Value} {σ : zS} {K : Option Value → zS → Prop}
theorem z_slen {i j : Nat} (hl : zLkV M.1.cls j M_J0_length_8abf5) (hi : i < 20) (hd : decode M.2.1 pc = .ok (.invokevirtual j, 3)) (hst : (st.map fun v => v.category).sum ≤ 8) (hn : pc + 3 = pn) (k : zt l g (d + 2) M pn ls (.int (zslen i) :: st) σ K) : zt l g (d + 2) M pc ls (.ref (2 + i) :: st) σ K :=
  z_callV (as := []) (K' := zKi (fun r s => r = zslen i ∧ s = σ)) k_J0_length_8abf5 hl (zRec_s hi) rfl (s_slen hi ⟨rfl, rfl⟩) rfl hst hd zy200 hn (by rintro v s ⟨r, rfl, rfl, rfl⟩; exact k)
theorem z_schar {i j : Nat} {x : Int32} (hl : zLkV M.1.cls j M_J0_charAt_5068e) (hi : i < 20) (hin : vp_in x (zSl.getD i 0)) (hd : decode M.2.1 pc = .ok (.invokevirtual j, 3)) (hst : (st.map fun v => v.category).sum ≤ 8) (hn : pc + 3 = pn) (k : zt l g (d + 5) M pn ls (.int (zsch i x.toNatClampNeg) :: st) σ K) : zt l g (d + 5) M pc ls (.int x :: .ref (2 + i) :: st) σ K :=
  z_callV (as := [.int x]) (K' := zKi (fun r s => r = zsch i x.toNatClampNeg ∧ s = σ)) k_J0_charAt_5068e hl (zRec_s hi) rfl (s_schar hi hin ⟨rfl, rfl⟩) rfl hst hd zy200 hn (by rintro v s ⟨r, rfl, rfl, rfl⟩; exact k)
theorem z_sidx {i j : Nat} {c : Int32} (hl : zLkV M.1.cls j M_J0_indexOf_0f7a4) (hi : i < 20) (hd : decode M.2.1 pc = .ok (.invokevirtual j, 3)) (hst : (st.map fun v => v.category).sum ≤ 8) (hn : pc + 3 = pn) (k : zt l g (d + 5) M pn ls (.int (zsix i c) :: st) σ K) : zt l g (d + 5) M pc ls (.int c :: .ref (2 + i) :: st) σ K :=
  z_callV (as := [.int c]) (K' := zKi (fun r s => r = zsix i c ∧ s = σ)) k_J0_indexOf_0f7a4 hl (zRec_s hi) rfl (s_sidx hi ⟨rfl, rfl⟩) rfl hst hd zy200 hn (by rintro v s ⟨r, rfl, rfl, rfl⟩; exact k)
end ZHS
end
section
/-! ===== making: new objects and arrays, in the order of their numbers ===== -/
section ZM
variable {l : Launch} {g : zG} {d z0 z1 : Nat} {M : zM} {pc pn : Nat} {ls st : List Value} {σ : zS} {K : Option Value → zS → Prop}
/-- nothing is written yet where nothing is made -/
def zcln (σ : zS) : Prop := ∀ o k, 64 + σ.2.2.2 ≤ o → σ.1 o k = 0 ∧ σ.2.1 o k = 0 ∧ σ.2.2.1 o k = 0
theorem zcln_I {o k : Nat} {v : Int32} (h : zcln σ) (ho : o < 64 + σ.2.2.2) : zcln (zI σ o k v) := fun p q hp => by
  have hp : 64 + σ.2.2.2 ≤ p := hp
  have hne : ¬ p = o := by omega
  refine ⟨?_, (h p q hp).2.1, (h p q hp).2.2⟩
  show (if p = o ∧ q = k then v else σ.1 p q) = 0
  rw [if_neg (fun e => hne e.1)]
  exact (h p q hp).1
theorem zcln_R {o k : Nat} {v : Nat} (h : zcln σ) (ho : o < 64 + σ.2.2.2) : zcln (zRf σ o k v) := fun p q hp => by
  have hp : 64 + σ.2.2.2 ≤ p := hp
  have hne : ¬ p = o := by omega
  refine ⟨(h p q hp).1, (h p q hp).2.1, ?_⟩
  show (if p = o ∧ q = k then v else σ.2.2.1 p q) = 0
  rw [if_neg (fun e => hne e.1)]
  exact (h p q hp).2.2
theorem zcln_N {n : Nat} (h : zcln σ) (hn : σ.2.2.2 ≤ n) : zcln (zNn σ n) := fun p q hp => h p q (by have hp : 64 + n ≤ p := hp; omega)
def zpl (t : FieldType) : Bool := match t with
  | .float => false
  | .double => false
  | _ => true
theorem zpl_ok : ∀ c, c < 9 → ∀ j, j < zN c → zpl (zty c j) = true := by decide
theorem zdef {t : FieldType} (ht : zpl t = true) {o j : Nat} (h : σ.1 o j = 0 ∧ σ.2.1 o j = 0 ∧ σ.2.2.1 o j = 0) : defaultValue t = zfv g σ o (ztc t) j := by
  unfold zfv
  rw [h.1, h.2.1, h.2.2]
  cases t <;> first | rfl | (simp [zpl] at ht)
theorem zad_n {n q : Nat} (hq : 64 + n = q) : zad g q = g.1 + n := by
  unfold zad
  rw [if_neg (by omega), ← hq]
  congr 1
  omega
theorem zcell_N {n o : Nat} : zcell g (zNn σ n) o = zcell g σ o := rfl
/-- behind a making: one object more -/
theorem zW_new {n q : Nat} {H H1 : Heap} (h : zW g σ H) (hN : σ.2.2.2 = n) (hq : 64 + n = q) (hz : H1.size = H.size + 1) (ho : ∀ x : Nat, x < H.size → H1[x]? = H[x]?) (hc : va_at g.2.1 vwCl (zad g q, zcell g σ q) H1) : zW g (zNn σ (n + 1)) H1 := by
  refine ⟨by rw [hz, h.1, hN]; rfl, fun o h1 h2 => ?_⟩
  have h2 : o < 64 + (n + 1) := h2
  rw [zcell_N]
  by_cases e : o = q
  · subst e; exact hc
  · exact (h.2 o h1 (by omega)).kept (ho _ (h.2 o h1 (by omega)).lt)
theorem zslot (n q : Nat) (hq : 64 + n = q) (hz1 : n < z1) (hz0 : z0 ≤ n) {R : Room} (hr : z1 - z0 ≤ R.cells ∧ zSS z1 - zSS z0 ≤ R.slots) : (n - z0) + 1 ≤ R.cells ∧ (zSS n - zSS z0) + zsl q ≤ R.slots ∧ (n - z0) + 1 = n + 1 - z0 ∧ (zSS n - zSS z0) + zsl q = zSS (n + 1) - zSS z0 := by
  have a1 : zSS (n + 1) = zSS n + zsl q := by rw [← hq]; rfl
  have a2 := zSS_mono hz0
  have a3 : zSS (n + 1) ≤ zSS z1 := zSS_mono hz1
  omega
theorem z_new {idx c n q : Nat} (hc : zCl c) (hl : Cond.classLink M.1.cls idx (zRn c) ∈ lw_g) (hin : Cond.instantiable (zRn c) (zN c) ∈ lw_g) (hini : Cond.initialized (zRn c) ∈ lw_g) (hN : σ.2.2.2 = n) (hq : 64 + n = q) (hkd : zk q = c + 1) (hcl : zcln σ) (hz1 : n < z1) (hd : decode M.2.1 pc = .ok (.new idx, 3)) (hn : pc + 3 = pn)
    (k : zAt l g d z0 z1 M pn ls (.ref q :: st) (zNn σ (n + 1)) K) : zAt l g d z0 z1 M pc ls st σ K := by
  subst hn
  intro p e R s m args below meth c9 Q C H locs mls h1 h2 h3 h4 h5
  have hts := C.2.2.2.1
  have hKn := C.2.2.2.2.2.2.1.1.1 c _ hc.1
  have hc9 := zCl_lt hc
  have hsl : zsl q = zN c := by unfold zsl; rw [hkd, if_pos (by omega), Nat.add_sub_cancel]
  obtain ⟨b1, b2, b3, b4⟩ := zslot (z0 := z0) n q hq hz1 (by omega) ⟨C.2.2.2.2.2.2.2.1.2.2.1, C.2.2.2.2.2.2.2.1.2.2.2⟩
  rw [hsl] at b2 b4
  rw [hN]
  refine W.newcK C.1 C.2.1 C.2.2.2.2.1 (hts _ hl) (hts _ hin) (hts _ hini) rfl hd b1 b2 hKn.2.1 rfl (fun H1 kC hkC e1 zz1 o1 => ?_)
  have hcell : va_at g.2.1 vwCl (zad g q, zcell g σ q) H1 := by
    have hz : zIs (zNn σ (n + 1)) 0 c q := ⟨hc, hkd, by omega, fun _ => by show q < 64 + (n + 1); omega⟩
    have e9 := zcell_o (g := g) hz
    rw [zcell_N] at e9
    rw [e9, zad_n hq]
    have hH : H.size = g.1 + n := by rw [h1.1, hN]
    rw [hH] at e1
    refine ⟨_, hc.1, (u_born (zty c) hts hc.2.1 hKn hkC e1 hc.2.2.1).to (fun j hj => ?_)⟩
    have := zfl_V (g := g) (σ := zNn σ (n + 1)) q c j hj
    rw [this]
    exact zdef (zpl_ok c hc9 j hj) (hcl q j (by omega))
  have k9 := k p e R s m args below meth c9 Q C H1 locs mls (zW_new h1 hN hq zz1 o1 hcell) (by show z0 ≤ n + 1; omega) (by show n + 1 ≤ z1; omega) ⟨Nat.le_trans h4.1 (by omega), fun x x1 x2 => (o1 x (Nat.lt_of_lt_of_le x1 h4.1)).trans (h4.2.1 x x1 x2), h4.2.2⟩ h5
  have e5 : (zNn σ (n + 1)).2.2.2 = n + 1 := rfl
  rw [e5, List.map_cons] at k9
  have e6 : zmv g (.ref q) = .ref H.size := by show Value.ref _ = _; rw [zad_n hq, h1.1, hN]
  rw [e6] at k9
  rw [b3, b4]
  exact k9
theorem z_newa {atype : ArrayType} {kd len n q : Nat} {x : Int32} (ht : (ztys g)[kd - 20]? = some (g.2.2.1 kd, newarray.typeOf atype)) (hra : ∀ (U : State) (cA : ClassId), va_RA U cA (newarray.typeOf atype) → U.vm.findClass ("[" ++ (newarray.typeOf atype).toString) = some cA) (harr : Cond.arrayClass (newarray.typeOf atype) ∈ lw_g) (hkd : 20 ≤ kd ∧ kd < 23) (hkq : zk q = kd) (hlen : zn q = len) (hx0 : ¬ x < 0) (hx : x.toNatClampNeg = len) (hdv : defaultValue (newarray.typeOf atype) = .int 0) (hby : len * componentBytes (newarray.typeOf atype) ≤ 536870912) (hN : σ.2.2.2 = n) (hq : 64 + n = q) (hcl : zcln σ) (hz1 : n < z1) (hd : decode M.2.1 pc = .ok (.newarray atype, 2)) (hn : pc + 2 = pn)
    (k : zAt l g d z0 z1 M pn ls (.ref q :: st) (zNn σ (n + 1)) K) : zAt l g d z0 z1 M pc ls (.int x :: st) σ K := by
  subst hn
  intro p e R s m args below meth c9 Q C H locs mls h1 h2 h3 h4 h5
  have hts := C.2.2.2.1
  have hsl : zsl q = len := by unfold zsl; rw [hkq, if_neg (by omega), hlen]
  obtain ⟨b1, b2, b3, b4⟩ := zslot (z0 := z0) n q hq hz1 (by omega) ⟨C.2.2.2.2.2.2.2.1.2.2.1, C.2.2.2.2.2.2.2.1.2.2.2⟩
  rw [hsl] at b2 b4
  rw [hN]
  have hH : H.size = g.1 + n := by rw [h1.1, hN]
  refine va_newaK C.1 C.2.1 (hts _ harr) rfl hd rfl hx0 hx hby b1 b2 hH (fun H1 cA e1 zz1 o1 hAr hNm => ?_)
  have hcA : cA = g.2.2.1 kd := by
    have := hra s _ (C.2.2.2.2.2.2.1.1.2 _ _ ht).2
    exact Option.some.inj (hNm.symm.trans this)
  subst hcA
  have hcell : va_at g.2.1 vwCl (zad g q, zcell g σ q) H1 := by
    have hz : zAr (zNn σ (n + 1)) 0 kd len q := ⟨hkq, hlen, by omega, fun _ => by show q < 64 + (n + 1); omega⟩
    have e9 := zcell_i (g := g) hz hkd.1 hkd.2
    rw [zcell_N] at e9
    rw [e9, zad_n hq]
    show H1[g.1 + n]? = some (vp_cell _ _)
    rw [e1, vp_cell_i, hdv]
    congr 2
    funext j
    show Value.int 0 = Value.int (σ.1 q j)
    rw [(hcl q j (by omega)).1]
  have k9 := k p e R s m args below meth c9 Q C H1 locs mls (zW_new h1 hN hq (by rw [zz1, hH]) (by rw [hH]; exact o1) hcell) (by show z0 ≤ n + 1; omega) (by show n + 1 ≤ z1; omega) ⟨Nat.le_trans h4.1 (by omega), fun x x1 x2 => (o1 x (by rw [← hH]; exact Nat.lt_of_lt_of_le x1 h4.1)).trans (h4.2.1 x x1 x2), h4.2.2⟩ h5
  have e5 : (zNn σ (n + 1)).2.2.2 = n + 1 := rfl
  rw [e5, List.map_cons] at k9
  have e6 : zmv g (.ref q) = .ref (g.1 + n) := by show Value.ref _ = _; rw [zad_n hq]
  rw [e6] at k9
  rw [b3, b4]
  exact k9
theorem z_anew {cn : String} {idx kd len n q : Nat} {x : Int32} (ht : (ztys g)[kd - 20]? = some (g.2.2.1 kd, .object cn)) (hover : ∀ U, zO U → va_AO cn U) (hl : Cond.classLink M.1.cls idx cn ∈ lw_g) (hkd : 23 ≤ kd) (hkq : zk q = kd) (hlen : zn q = len) (hx0 : ¬ x < 0) (hx : x.toNatClampNeg = len) (hby : len * 4 ≤ 536870912) (hN : σ.2.2.2 = n) (hq : 64 + n = q) (hcl : zcln σ) (hz1 : n < z1) (hd : decode M.2.1 pc = .ok (.anewarray idx, 3)) (hn : pc + 3 = pn)
    (k : zAt l g d z0 z1 M pn ls (.ref q :: st) (zNn σ (n + 1)) K) : zAt l g d z0 z1 M pc ls (.int x :: st) σ K := by
  subst hn
  intro p e R s m args below meth c9 Q C H locs mls h1 h2 h3 h4 h5
  have hts := C.2.2.2.1
  have hsl : zsl q = len := by unfold zsl; rw [hkq, if_neg (by omega), hlen]
  obtain ⟨b1, b2, b3, b4⟩ := zslot (z0 := z0) n q hq hz1 (by omega) ⟨C.2.2.2.2.2.2.2.1.2.2.1, C.2.2.2.2.2.2.2.1.2.2.2⟩
  rw [hsl] at b2 b4
  rw [hN]
  have hH : H.size = g.1 + n := by rw [h1.1, hN]
  subst hx
  refine W.anew C.1 C.2.1 C.2.2.2.2.1 (hts _ hl) (va_AO.use (hover s C.2.2.2.2.2.2.1.2.2.2.2.2.2.2.2)) rfl hd rfl hx0 hby b1 b2 (fun cA kA comp f1 f2 f3 f4 => ?_)
  generalize hH1 : H.push ({ cls := cA, slots := Array.replicate x.toNatClampNeg .null, vm := .none } : Cell) = H1
  have zz1 : H1.size = H.size + 1 := by rw [← hH1, Array.size_push]
  have e1 : H1[H.size]? = some (arrV cA x.toNatClampNeg (fun _ => .null)) := by rw [← hH1, Array.getElem?_push_size, ← arrV_new]
  have o1 : ∀ q : Nat, q < H.size → H1[q]? = H[q]? := fun q hq => by rw [← hH1, Array.getElem?_push, if_neg (Nat.ne_of_lt hq)]
  have hcA : cA = g.2.2.1 kd := by
    obtain ⟨kA', comp', a1, a2, a3, a4⟩ := (C.2.2.2.2.2.2.1.1.2 _ _ ht).2
    exact Option.some.inj (f1.symm.trans a4)
  subst hcA
  have hcell : va_at g.2.1 vwCl (zad g q, zcell g σ q) H1 := by
    have hz : zAr (zNn σ (n + 1)) 0 kd x.toNatClampNeg q := ⟨hkq, hlen, by omega, fun _ => by show q < 64 + (n + 1); omega⟩
    have e9 := zcell_r (g := g) hz hkd
    rw [zcell_N] at e9
    rw [e9, zad_n hq, ← hH]
    show H1[H.size]? = some (vp_cell _ _)
    rw [e1, vp_cell_q]
    congr 2
    funext j
    show Value.null = va_rf (zro g (σ.2.2.1 q j))
    rw [(hcl q j (by omega)).2.2]
    rfl
  have k9 := k p e R s m args below meth c9 Q C H1 locs mls (zW_new h1 hN hq zz1 o1 hcell) (by show z0 ≤ n + 1; omega) (by show n + 1 ≤ z1; omega) ⟨Nat.le_trans h4.1 (by omega), fun x x1 x2 => (o1 x (Nat.lt_of_lt_of_le x1 h4.1)).trans (h4.2.1 x x1 x2), h4.2.2⟩ h5
  have e5 : (zNn σ (n + 1)).2.2.2 = n + 1 := rfl
  rw [e5, List.map_cons] at k9
  have e6 : zmv g (.ref q) = .ref H.size := by show Value.ref _ = _; rw [zad_n hq, hH]
  rw [e6] at k9
  rw [b3, b4]
  exact k9
theorem zasg (vm : Vm) (c : ClassId) : vm.assignable c c = true := by
  show vm.assignableAux (255 + 1) c c = true
  unfold Vm.assignableAux
  simp only [beq_self_eq_true, Bool.true_or]
/-- a reference goes into an array of them -/
theorem z_aastW {kd n o v : Nat} {i : Int32} {cn : String} {rest : List Value} {p : Program} {e : Env} {R : Room} {s : State} {m : MethodId} {args : Array Value} {below : List Frame} {meth : Method} {c9 : Code} {Q : State → Prop} (C : zC l g d z0 z1 M K p e R s m args below meth c9 Q) {H : Heap} {locs : List Loc} {mls : Array Slot} {cells slots : Nat}
    (ht : (ztys g)[kd - 20]? = some (g.2.2.1 kd, .object cn)) (hkd : 23 ≤ kd) (ha : zAr σ z0 kd n o) (hin : vp_in i n) (hv0 : ¬ v = 0) (hrec : ∃ cellB : Cell, H[zad g v]? = some cellB ∧ cellB.vm.isStatics = false ∧ s.vm.findClass cn = some cellB.cls) (hd : decode M.2.1 pc = .ok (.aastore, 1)) (h1 : zW g σ H) (h2 : z0 ≤ σ.2.2.2) (h4 : va_S (zA g) s.heap H locs)
    (kk : ∀ (H1 : Heap) (locs1 : List Loc), zW g (zRf σ o i.toNatClampNeg v) H1 → va_S (zA g) s.heap H1 locs1 → W p l e R s m args below meth c9 H1 locs1 cells slots Q (F0 m (pc + 1) mls rest)) : W p l e R s m args below meth c9 H locs cells slots Q (F0 m pc mls (.ref (zad g v) :: .int i :: .ref (zad g o) :: rest)) := by
  have hP : H[zad g o]? = some (vp_cell (g.2.2.1 kd) (n, .inr (.inr (.inr (.inr (fun j => zro g (σ.2.2.1 o j))))))) := by
    have := h1.2 o ha.2.2.1 (ha.2.2.2 h2)
    rw [zcell_r ha hkd] at this
    exact this
  have hlt : i.toNatClampNeg < n := Nat.not_le.mp fun q => hin (Or.inr q)
  have h0 : ¬ i < 0 := fun q => hin (Or.inl q)
  obtain ⟨cellB, g1, g2, g3⟩ := hrec
  obtain ⟨kA, comp, k1, k2, k3, -⟩ := (C.2.2.2.2.2.2.1.1.2 _ _ ht).2
  have hcomp : comp = cellB.cls := Option.some.inj (k3.symm.trans g3)
  subst hcomp
  obtain ⟨kE, hkE, -⟩ := Vm.findClass_spec k3
  refine W.aast C.1 C.2.1 hP (fun q h => by cases h) (fun h => by cases h) k1 k2 rfl hkE ⟨h0, by show _ < (arrV _ _ _).slots.size; rw [arrV_size]; exact hlt⟩ g1 (fun q h => by rw [h] at g2; cases g2) hkE (zasg _ _) rfl rfl hd fun H1 e1 z1' oq => ?_
  refine kk H1 _ (zW_put h1 ha.2.2.1 rfl z1' oq ?_ (fun p h => zcell_R h)) (h4.put z1' oq (zA_ad ha.2.2.1))
  have ha' : zAr (zRf σ o i.toNatClampNeg v) z0 kd n o := ha
  rw [zcell_r ha' hkd]
  show H1[zad g o]? = some (vp_cell _ _)
  rw [e1, vp_cell_q, vp_cell_q, arrV_store]
  congr 2
  funext q
  by_cases hq : q = i.toNatClampNeg
  · subst hq
    simp [updV, zRf, zro, hv0, va_rf]
  · simp [updV, zRf, hq]
theorem z_aast {kd n o v c : Nat} {i : Int32} (ht : (ztys g)[kd - 20]? = some (g.2.2.1 kd, .object (zRn c))) (hkd : 23 ≤ kd) (ha : zAr σ z0 kd n o) (hin : vp_in i n) (hv0 : ¬ v = 0) (hi : zIs σ z0 c v) (hd : decode M.2.1 pc = .ok (.aastore, 1)) (hn : pc + 1 = pn) (k9 : zAt l g d z0 z1 M pn ls st (zRf σ o i.toNatClampNeg v) K) : zAt l g d z0 z1 M pc ls (.ref v :: .int i :: .ref o :: st) σ K := by
  subst hn
  intro p e R s m args below meth c9 Q C H locs mls h1 h2 h3 h4 h5
  exact z_aastW C ht hkd ha hin hv0 (zRec_of hi s H locs C.2.2.2.2.2.2.1 h1 h2 h4) hd h1 h2 h4 (fun H1 locs1 w1 w2 => k9 p e R s m args below meth c9 Q C H1 locs1 mls w1 h2 h3 w2 h5)
theorem z_aastS {n o v : Nat} {i : Int32} (ha : zAr σ z0 26 n o) (hin : vp_in i n) (hv : v < 20) (hd : decode M.2.1 pc = .ok (.aastore, 1)) (hn : pc + 1 = pn) (k9 : zAt l g d z0 z1 M pn ls st (zRf σ o i.toNatClampNeg (2 + v)) K) : zAt l g d z0 z1 M pc ls (.ref (2 + v) :: .int i :: .ref o :: st) σ K := by
  subst hn
  intro p e R s m args below meth c9 Q C H locs mls h1 h2 h3 h4 h5
  exact z_aastW C (kd := 26) (cn := "java/lang/String") rfl (by decide) ha hin (by omega) (zRec_s hv s H locs C.2.2.2.2.2.2.1 h1 h2 h4) hd h1 h2 h4 (fun H1 locs1 w1 w2 => k9 p e R s m args below meth c9 Q C H1 locs1 mls w1 h2 h3 w2 h5)
theorem z_objInit {idx o : Nat} (hl : Cond.methodLink M.1.cls idx Lib.objectInit ∈ lw_g) (hi : Cond.instanceMethod Lib.objectInit ∈ lw_g) (hc : Cond.code Lib.objectInit ⟨#[0xb1]⟩ 1 none ∈ lw_g) (hd : decode M.2.1 pc = .ok (.invokespecial idx, 3)) (hst : (st.map fun v => v.category).sum ≤ 8) (hn : pc + 3 = pn) (k9 : zAt l g (d + 1) z0 z1 M pn ls st σ K) : zAt l g (d + 1) z0 z1 M pc ls (.ref o :: st) σ K := by
  subst hn
  intro p e R s m args below meth c9 Q C H locs mls h1 h2 h3 h4 h5
  have hts := C.2.2.2.1
  obtain ⟨r1, r2, -, -⟩ := C.2.2.2.2.2.2.2.1
  refine W.objInit C.1 C.2.1 C.2.2.2.2.1 (hts _ hl) (hts _ hi) (hts _ hc) rfl (h5.1.trans C.2.2.1.symm) rfl hd (by omega) ?_ (k9 p e R s m args below meth c9 Q C H locs mls h1 h2 h3 h4 h5)
  show 2 * 0 + ((st.map (zmv g)).map fun v => v.category).sum + 12 ≤ R.locals
  rw [zcat_map]
  omega
theorem z_callI {i n b y0 y1 : Nat} {M' : zM} {as stk : List Value} {K' : Option Value → zS → Prop} (hk : zMk M' n) (hret : M'.2.2.2 = none) (hl : zLkI M.1.cls i M') (hlen : as.length = n) (hcall : zCall l g d y0 y1 M' (.ref b :: as) σ K') (hs : as.reverse ++ .ref b :: st = stk) (hst : (st.map fun v => v.category).sum ≤ 8) (hd : decode M.2.1 pc = .ok (.invokespecial i, 3)) (hy : z0 ≤ σ.2.2.2 → σ.2.2.2 ≤ z1 → σ.2.2.2 = y0 ∧ y0 ≤ y1 ∧ y1 ≤ z1) (hn : pc + 3 = pn)
    (kk : ∀ v σ', K' v σ' → zAt l g (d + 1) z0 z1 M pn ls (v.toList ++ st) σ' K) : zAt l g (d + 1) z0 z1 M pc ls stk σ K := by
  subst hn
  subst hs
  intro p e R s m args below meth c9 Q C H locs mls h1 h2 h3 h4 h5
  obtain ⟨g1, g2, g3⟩ := hy h2 h3
  obtain ⟨r1, r2, r3, r4⟩ := C.2.2.2.2.2.2.2.1
  have hts := C.2.2.2.1
  have hg := zws_good hk
  have hcall' : Met l M'.1 (zws M') (zRm d y0 y1) (zPc g y0 (.ref b :: as) σ) (zQc g y1 K') (y1 - y0) (zSS y1 - zSS y0) (zA g) := hcall
  have hws : zws M' = Cond.code M'.1 M'.2.1 M'.2.2.1 none :: lw_g := by unfold zws; rw [hret]
  have cb := callB_of (R := R) (s := s) (args := args) (own := M.1.cls) (index := i) (y := M'.1) (bytes := M'.2.1) (maxL := M'.2.2.1) (ret := none) (ws := zws M') (rm := zRm d y0 y1) (mc := y1 - y0) (ms := zSS y1 - zSS y0) n hts hg hws rfl rfl (hts _ hk.2.1) (hts _ hl.1) hk.2.2.1 ⟨r1, by have := hk.2.2.2.2; show 8 + (M'.2.2.1 + 11) + 100 * d ≤ R.locals; omega⟩
  have hrun := va_runI (S := ⟨C.1, C.2.1, C.2.2.1, C.2.2.2.2.1, hts⟩) hcall' (cells := σ.2.2.2 - z0) (slots := zSS σ.2.2.2 - zSS z0) (locs := locs) (e := e) (below := below) (meth := meth) (b := zad g b) (As := as.map (zmv g)) (rest := st.map (zmv g)) (g := F0 m pc mls ((as.reverse ++ .ref b :: st).map (zmv g))) (H := H) ⟨cb, hl.2.2, hts _ hl.2.1⟩
    ⟨zPc_blind, fun U hU hW => ⟨rfl, by rw [hU]; exact h1, g1, zK_at C.2.2.2.2.2.2.1 h4 U hU hW⟩⟩ rfl (by simpa using hlen) h5.1 (by simp [zmv]) (by rw [zcat_map]; exact lv_room hst) hd (by
      have a1 := zSS_mono h2
      have a2 := zSS_mono g2
      have a3 := zSS_mono g3
      rw [← g1] at a2 ⊢
      exact ⟨by omega, by omega⟩)
  exact z_run C hrun g1 g2 g3 h2 h4 h5 kk
theorem z_callIN {i n b y0 y1 : Nat} {M' : zM} {as stk : List Value} {K' : Option Value → zS → Prop} (hk : zMk M' n) (hret : M'.2.2.2 = none) (hl : zLkIN M.1.cls i M') (hlen : as.length = n) (hcall : zCall l g d y0 y1 M' (.ref b :: as) σ K') (hs : as.reverse ++ .ref b :: st = stk) (hst : (st.map fun v => v.category).sum ≤ 8) (hd : decode M.2.1 pc = .ok (.invokespecial i, 3)) (hy : z0 ≤ σ.2.2.2 → σ.2.2.2 ≤ z1 → σ.2.2.2 = y0 ∧ y0 ≤ y1 ∧ y1 ≤ z1) (hn : pc + 3 = pn)
    (kk : ∀ v σ', K' v σ' → zAt l g (d + 1) z0 z1 M pn ls (v.toList ++ st) σ' K) : zAt l g (d + 1) z0 z1 M pc ls stk σ K := by
  subst hn
  subst hs
  obtain ⟨host, hl1, hl2, hl3⟩ := hl
  intro p e R s m args below meth c9 Q C H locs mls h1 h2 h3 h4 h5
  obtain ⟨g1, g2, g3⟩ := hy h2 h3
  obtain ⟨r1, r2, r3, r4⟩ := C.2.2.2.2.2.2.2.1
  have hts := C.2.2.2.1
  have hg := zws_good hk
  have hcall' : Met l M'.1 (zws M') (zRm d y0 y1) (zPc g y0 (.ref b :: as) σ) (zQc g y1 K') (y1 - y0) (zSS y1 - zSS y0) (zA g) := hcall
  have hws : zws M' = Cond.code M'.1 M'.2.1 M'.2.2.1 none :: lw_g := by unfold zws; rw [hret]
  have hw : va_Nw (.methodLinkNest M.1.cls i M'.1 host) s := C.2.2.2.2.2.2.1.2.1 _ hl1
  have cb := va_cnB (R := R) (args := args) (own := M.1.cls) (index := i) (y := M'.1) (bytes := M'.2.1) (maxL := M'.2.2.1) (ret := none) (ws := zws M') (rm := zRm d y0 y1) (mc := y1 - y0) (ms := zSS y1 - zSS y0) n hts hg hws rfl rfl hw (hts _ hk.2.1) hk.2.2.1 ⟨r1, by have := hk.2.2.2.2; show 8 + (M'.2.2.1 + 11) + 100 * d ≤ R.locals; omega⟩
  have hrun := va_runIN (S := ⟨C.1, C.2.1, C.2.2.1, C.2.2.2.2.1, hts⟩) hcall' (cells := σ.2.2.2 - z0) (slots := zSS σ.2.2.2 - zSS z0) (locs := locs) (e := e) (below := below) (meth := meth) (b := zad g b) (As := as.map (zmv g)) (rest := st.map (zmv g)) (g := F0 m pc mls ((as.reverse ++ .ref b :: st).map (zmv g))) (H := H) ⟨cb, hl3, hts _ hl2⟩
    ⟨zPc_blind, fun U hU hW => ⟨rfl, by rw [hU]; exact h1, g1, zK_at C.2.2.2.2.2.2.1 h4 U hU hW⟩⟩ rfl (by simpa using hlen) h5.1 (by simp [zmv]) (by rw [zcat_map]; exact lv_room hst) hd (by
      have a1 := zSS_mono h2
      have a2 := zSS_mono g2
      have a3 := zSS_mono g3
      rw [← g1] at a2 ⊢
      exact ⟨by omega, by omega⟩)
  exact z_run C hrun g1 g2 g3 h2 h4 h5 kk
end ZM
end
section
/-! ===== arrays of arrays ===== -/
theorem vr_outer (c : ClassId) (N h0 : Nat) : ∀ i : Nat, Jvm.Free.Multi.outerC c N h0 i = arrV c N (fun j => va_rf (if j < i then some (h0 + 1 + j) else none))
  | 0 => by
    show ({ cls := c, slots := Array.replicate N .null, vm := .none } : Cell) = _
    rw [arrV_new]
    refine congrArg (arrV c N) (funext fun j => ?_)
    simp [va_rf]
  | i + 1 => by
    show (Jvm.Free.Multi.outerC c N h0 i).setSlot i (.ref (h0 + 1 + i)) = _
    rw [vr_outer c N h0 i, arrV_store]
    refine congrArg (arrV c N) (funext fun j => ?_)
    by_cases e : j = i
    · subst e
      simp [updV, va_rf]
    · by_cases h : j < i
      · simp [updV, e, h, Nat.lt_succ_of_lt h]
      · simp [updV, e, h, show ¬ j < i + 1 by omega]
section ZMM
variable {l : Launch} {g : zG} {d z0 z1 : Nat} {M : zM} {pc pn : Nat} {ls st : List Value} {σ : zS} {K : Option Value → zS → Prop}
def zMul (σ : zS) (q a n : Nat) : zS := (σ.1, σ.2.1, fun p k => if p = q ∧ k < a then q + 1 + k else σ.2.2.1 p k, n + 1 + a)
theorem zcell_M {q a n o : Nat} (h : o ≠ q) : zcell g (zMul σ q a n) o = zcell g σ o := by
  have e : (zMul σ q a n).2.2.1 o = σ.2.2.1 o := by funext j; simp [zMul, h]
  have e2 : ∀ t k2, zfv g (zMul σ q a n) o t k2 = zfv g σ o t k2 := by intro t k2; unfold zfv; rw [e]; rfl
  unfold zcell zfl
  simp only [e2]
  rw [e]
  rfl
theorem zSS_rows {n q a b : Nat} (hq : 64 + n = q) (hkq : zk q = 25) (hlen : zn q = a) (hrow : ∀ i, i < a → zk (q + 1 + i) = 20 ∧ zn (q + 1 + i) = b) : ∀ i, i ≤ a → zSS (n + 1 + i) = zSS n + a + i * b
  | 0, _ => by
    show zSS n + zsl (64 + n) = _
    rw [hq]
    unfold zsl
    rw [hkq, if_neg (by omega), hlen]
    omega
  | i + 1, h => by
    show zSS (n + 1 + i) + zsl (64 + (n + 1 + i)) = _
    rw [zSS_rows hq hkq hlen hrow i (by omega), show 64 + (n + 1 + i) = q + 1 + i by omega]
    unfold zsl
    rw [(hrow i (by omega)).1, if_neg (by omega), (hrow i (by omega)).2, Nat.succ_mul]
    omega
theorem z_mna {idx n q a b : Nat} {x y : Int32} (hl : Cond.classLink M.1.cls idx ("[" ++ (FieldType.array .int).toString) ∈ lw_g) (harr : Cond.arrayClass .int ∈ lw_g) (hx0 : ¬ x < 0) (hx : x.toNatClampNeg = a) (hy0 : ¬ y < 0) (hy : y.toNatClampNeg = b) (hb1 : a * 4 ≤ 536870912) (hb2 : b * 4 ≤ 536870912) (hkq : zk q = 25) (hlen : zn q = a) (hrow : ∀ i, i < a → zk (q + 1 + i) = 20 ∧ zn (q + 1 + i) = b) (hN : σ.2.2.2 = n) (hq : 64 + n = q) (hcl : zcln σ) (hz1 : n + a < z1) (hd : decode M.2.1 pc = .ok (.multianewarray idx 2, 4)) (hn : pc + 4 = pn)
    (k : zAt l g d z0 z1 M pn ls (.ref q :: st) (zMul σ q a n) K) : zAt l g d z0 z1 M pc ls (.int y :: .int x :: st) σ K := by
  subst hn
  intro p e R s m args below meth c9 Q C H locs mls h1 h2 h3 h4 h5 T hT Xs
  have hts := C.2.2.2.1
  have hK := C.2.2.2.2.2.2.1
  have hH : H.size = g.1 + n := by rw [h1.1, hN]
  have hrows := zSS_rows hq hkq hlen hrow a (Nat.le_refl _)
  have a2 : zSS z0 ≤ zSS n := zSS_mono (by omega)
  have a3 : zSS (n + 1 + a) ≤ zSS z1 := zSS_mono (by omega)
  have r3 := C.2.2.2.2.2.2.2.1.2.2.1
  have r4 := C.2.2.2.2.2.2.2.1.2.2.2
  rw [hN] at Xs
  obtain ⟨vm₁, cA, comp, hW9, fA, fC, hO, hI, X', step⟩ := Xs.multianewarray2F C.1 C.2.2.2.2.1 (hts _ hl) (hK.2.2.2.2.2.2.2.2.2.2.2) (hts _ harr) (ty := .int) (g := F0 m pc mls (.int y :: .int x :: st.map (zmv g))) rfl (by rw [C.2.1]; exact hd) rfl hx0 hy0 (by rw [hx]; exact hb1) (by rw [hy]; exact hb2) (by rw [hy]; omega) rfl rfl (by rw [hx]; omega) (by rw [hx, hy]; omega)
  rw [hx, hy] at X' step
  have hc25 : cA = g.2.2.1 25 := by
    have : s.vm.findClass ("[" ++ (FieldType.array .int).toString) = some (g.2.2.1 25) := (hK.1.2 5 _ rfl).2
    exact Option.some.inj (fA.symm.trans this)
  have hc20 : comp = g.2.2.1 20 := by
    have : s.vm.findClass ("[" ++ (FieldType.int).toString) = some (g.2.2.1 20) := (hK.1.2 0 _ rfl).2
    have e9 : (FieldType.array .int).toString = "[" ++ (FieldType.int).toString := rfl
    rw [e9] at fC
    exact Option.some.inj (fC.symm.trans this)
  subst hc25
  subst hc20
  generalize hF : Jvm.Free.Multi.fill (T.setVm vm₁) (g.2.2.1 25) (g.2.2.1 20) a b (defaultValue .int) a = F at X' step
  have hTh : (T.setVm vm₁).heap = H := hT
  obtain ⟨f1, f2, -, -⟩ := Jvm.Free.Multi.fill_facts (T.setVm vm₁) (g.2.2.1 25) (g.2.2.1 20) a b (defaultValue .int) a
  rw [hF, hTh] at f1 f2
  have hold : ∀ x : Nat, x < H.size → F.heap[x]? = H[x]? := fun x hx => by
    have := Jvm.Free.Multi.fill_old (T.setVm vm₁) (g.2.2.1 25) (g.2.2.1 20) a b (defaultValue .int) (a := x) (by rw [hTh]; exact hx) a
    rw [hF, hTh] at this
    exact this
  have hin : ∀ j : Nat, j < a → F.heap[H.size + 1 + j]? = some (Jvm.Free.Multi.innerC (g.2.2.1 20) b (defaultValue .int)) := fun j hj => by
    have := Jvm.Free.Multi.fill_inner (T.setVm vm₁) (g.2.2.1 25) (g.2.2.1 20) a b (defaultValue .int) a j hj
    rw [hF, hTh] at this
    exact this
  have hW : zW g (zMul σ q a n) F.heap := by
    refine ⟨by rw [f1, hH]; show _ = g.1 + (n + 1 + a); omega, fun o o1 o2 => ?_⟩
    have o2 : o < 64 + (n + 1 + a) := o2
    by_cases c1 : o < q
    · rw [zcell_M (by omega)]
      exact (h1.2 o o1 (by omega)).kept (hold _ (h1.2 o o1 (by omega)).lt)
    by_cases c2 : o = q
    · subst c2
      have hz : zAr (zMul σ o a n) 0 25 a o := ⟨hkq, hlen, o1, fun _ => o2⟩
      rw [zcell_r hz (by decide), zad_n hq, ← hH]
      show F.heap[H.size]? = some (vp_cell _ _)
      rw [f2, vr_outer, vp_cell_q]
      congr 2
      funext j
      congr 1
      show (if j < a then some (H.size + 1 + j) else none) = zro g (if o = o ∧ j < a then o + 1 + j else σ.2.2.1 o j)
      by_cases c3 : j < a
      · rw [if_pos c3, if_pos ⟨rfl, c3⟩]
        unfold zro zad
        rw [if_neg (by omega), if_neg (by omega)]
        congr 1
        omega
      · rw [if_neg c3, if_neg (fun q => c3 q.2), (hcl o j (by omega)).2.2]
        rfl
    · obtain ⟨i, rfl⟩ : ∃ i, o = q + 1 + i := ⟨o - q - 1, by omega⟩
      have hi : i < a := by omega
      have hz : zAr (zMul σ q a n) 0 20 b (q + 1 + i) := ⟨(hrow i hi).1, (hrow i hi).2, o1, fun _ => o2⟩
      rw [zcell_i hz (by decide) (by decide), zad_n (n := n + 1 + i) (by omega)]
      show F.heap[g.1 + (n + 1 + i)]? = some (vp_cell _ _)
      rw [show g.1 + (n + 1 + i) = H.size + 1 + i by omega, hin i hi, vp_cell_i]
      unfold Jvm.Free.Multi.innerC
      rw [arrV_new]
      congr 2
      funext j
      show Value.int 0 = Value.int (σ.1 (q + 1 + i) j)
      rw [(hcl (q + 1 + i) j (by omega)).1]
  have e1 : n - z0 + 1 + a = (zMul σ q a n).2.2.2 - z0 := by show _ = n + 1 + a - z0; omega
  have e2 : zSS n - zSS z0 + a + a * b = zSS (zMul σ q a n).2.2.2 - zSS z0 := by show _ = zSS (n + 1 + a) - zSS z0; omega
  rw [e1, e2] at X'
  obtain ⟨t, b1, b2⟩ := k p e R s m args below meth c9 Q C F.heap locs mls hW (by show z0 ≤ n + 1 + a; omega) (by show n + 1 + a ≤ z1; omega) ⟨by rw [f1]; have := h4.1; omega, fun x x1 x2 => (hold x (Nat.lt_of_lt_of_le x1 h4.1)).trans (h4.2.1 x x1 x2), h4.2.2⟩ h5 F rfl X'
  refine ⟨t, step t ?_, b2⟩
  have e6 : zmv g (.ref q) = .ref T.heap.size := by show Value.ref _ = _; rw [zad_n hq, hT, hH]
  rw [List.map_cons, e6] at b1
  exact b1
end ZMM
end
section
/-! ===== the makers ===== -/
theorem w_oi : Cond.instanceMethod Lib.objectInit ∈ lw_g := zin 24 (by decide +kernel) (by decide +kernel)
theorem w_oc : Cond.code Lib.objectInit ⟨#[0xb1]⟩ 1 none ∈ lw_g := zin 25 (by decide +kernel) (by decide +kernel)
theorem w_aI : Cond.arrayClass .int ∈ lw_g := zin 50 (by decide +kernel) (by decide +kernel)
theorem w_aB : Cond.arrayClass .byte ∈ lw_g := zin 887 (by decide +kernel) (by decide +kernel)
theorem w_aZ : Cond.arrayClass .boolean ∈ lw_g := zin 1127 (by decide +kernel) (by decide +kernel)
theorem cl_L_7 : Cond.classLink RL 7 (zRn 7) ∈ lw_g := zin 18 (by decide +kernel) (by decide +kernel)
theorem in_7 : Cond.instantiable (zRn 7) (zN 7) ∈ lw_g := zin 19 (by decide +kernel) (by decide +kernel)
theorem ii_7 : Cond.initialized (zRn 7) ∈ lw_g := zin 1 (by decide +kernel) (by decide +kernel)
theorem oi_X7 : Cond.methodLink RX7 3 Lib.objectInit ∈ lw_g := zin 23 (by decide +kernel) (by decide +kernel)
theorem cl_X7_9 : Cond.classLink RX7 9 (zRn 1) ∈ lw_g := zin 26 (by decide +kernel) (by decide +kernel)
theorem in_1 : Cond.instantiable (zRn 1) (zN 1) ∈ lw_g := zin 27 (by decide +kernel) (by decide +kernel)
theorem ii_1 : Cond.initialized (zRn 1) ∈ lw_g := zin 2 (by decide +kernel) (by decide +kernel)
theorem oi_X1 : Cond.methodLink RX1 3 Lib.objectInit ∈ lw_g := zin 31 (by decide +kernel) (by decide +kernel)
theorem cl_X7_16 : Cond.classLink RX7 16 (zRn 4) ∈ lw_g := zin 51 (by decide +kernel) (by decide +kernel)
theorem in_4 : Cond.instantiable (zRn 4) (zN 4) ∈ lw_g := zin 52 (by decide +kernel) (by decide +kernel)
theorem ii_4 : Cond.initialized (zRn 4) ∈ lw_g := zin 4 (by decide +kernel) (by decide +kernel)
theorem oi_X4 : Cond.methodLink RX4 3 Lib.objectInit ∈ lw_g := zin 56 (by decide +kernel) (by decide +kernel)
theorem cl_X7_29 : Cond.classLink RX7 29 (zRn 6) ∈ lw_g := zin 90 (by decide +kernel) (by decide +kernel)
theorem cl_X7_35 : Cond.classLink RX7 35 (zRn 5) ∈ lw_g := zin 92 (by decide +kernel) (by decide +kernel)
theorem cl_X7_57 : Cond.classLink RX7 57 (zRn 0) ∈ lw_g := zin 94 (by decide +kernel) (by decide +kernel)
theorem in_0 : Cond.instantiable (zRn 0) (zN 0) ∈ lw_g := zin 95 (by decide +kernel) (by decide +kernel)
theorem ii_0 : Cond.initialized (zRn 0) ∈ lw_g := zin 5 (by decide +kernel) (by decide +kernel)
theorem oi_X0 : Cond.methodLink RX0 3 Lib.objectInit ∈ lw_g := zin 99 (by decide +kernel) (by decide +kernel)
theorem cl_X7_64 : Cond.classLink RX7 64 (zRn 2) ∈ lw_g := zin 119 (by decide +kernel) (by decide +kernel)
theorem in_2 : Cond.instantiable (zRn 2) (zN 2) ∈ lw_g := zin 120 (by decide +kernel) (by decide +kernel)
theorem ii_2 : Cond.initialized (zRn 2) ∈ lw_g := zin 6 (by decide +kernel) (by decide +kernel)
theorem oi_X2 : Cond.methodLink RX2 3 Lib.objectInit ∈ lw_g := zin 124 (by decide +kernel) (by decide +kernel)
theorem cl_X7_71 : Cond.classLink RX7 71 (zRn 3) ∈ lw_g := zin 145 (by decide +kernel) (by decide +kernel)
theorem in_3 : Cond.instantiable (zRn 3) (zN 3) ∈ lw_g := zin 146 (by decide +kernel) (by decide +kernel)
theorem ii_3 : Cond.initialized (zRn 3) ∈ lw_g := zin 7 (by decide +kernel) (by decide +kernel)
theorem oi_X3 : Cond.methodLink RX3 3 Lib.objectInit ∈ lw_g := zin 150 (by decide +kernel) (by decide +kernel)
theorem in_6 : Cond.instantiable (zRn 6) (zN 6) ∈ lw_g := zin 190 (by decide +kernel) (by decide +kernel)
theorem ii_6 : Cond.initialized (zRn 6) ∈ lw_g := zin 8 (by decide +kernel) (by decide +kernel)
theorem oi_X6 : Cond.methodLink RX6 3 Lib.objectInit ∈ lw_g := zin 194 (by decide +kernel) (by decide +kernel)
theorem in_5 : Cond.instantiable (zRn 5) (zN 5) ∈ lw_g := zin 257 (by decide +kernel) (by decide +kernel)
theorem ii_5 : Cond.initialized (zRn 5) ∈ lw_g := zin 9 (by decide +kernel) (by decide +kernel)
theorem oi_X5 : Cond.methodLink RX5 3 Lib.objectInit ∈ lw_g := zin 261 (by decide +kernel) (by decide +kernel)
theorem cl_L_10 : Cond.classLink RL 10 (zRn 8) ∈ lw_g := zin 967 (by decide +kernel) (by decide +kernel)
theorem in_8 : Cond.instantiable (zRn 8) (zN 8) ∈ lw_g := zin 968 (by decide +kernel) (by decide +kernel)
theorem ii_8 : Cond.initialized (zRn 8) ∈ lw_g := zin 10 (by decide +kernel) (by decide +kernel)
theorem oi_X8 : Cond.methodLink RX8 1 Lib.objectInit ∈ lw_g := zin 972 (by decide +kernel) (by decide +kernel)
theorem cl_X8_61 : Cond.classLink RX8 61 ("[" ++ (FieldType.array .int).toString) ∈ lw_g := zin 973 (by decide +kernel) (by decide +kernel)
theorem cl_X8_108 : Cond.classLink RX8 108 ("java/lang/String") ∈ lw_g := zin 975 (by decide +kernel) (by decide +kernel)
section ZMI
variable {l : Launch} {g : zG} {d : Nat} {σ : zS}
theorem zcln_M {q a n : Nat} (h : zcln σ) (hN : σ.2.2.2 = n) (hq : 64 + n = q) : zcln (zMul σ q a n) := fun p k hp => by
  have hp : 64 + (n + 1 + a) ≤ p := hp
  have := h p k (by omega)
  refine ⟨this.1, this.2.1, ?_⟩
  show (if p = q ∧ k < a then q + 1 + k else σ.2.2.1 p k) = 0
  rw [if_neg (by omega)]
  exact this.2.2
/-- o's first n places hold v -/
def zFill (σ : zS) (o n : Nat) (v : Int32) : zS := (fun p k => if p = o ∧ k < n then v else σ.1 p k, σ.2)
theorem zFill_0 {o : Nat} {v : Int32} : zFill σ o 0 v = σ := by
  unfold zFill
  refine Prod.ext ?_ rfl
  funext p k
  simp
theorem zFill_s {o n : Nat} {v : Int32} : zI (zFill σ o n v) o n v = zFill σ o (n + 1) v := by
  unfold zFill zI
  refine Prod.ext ?_ rfl
  funext p k
  show (if p = o ∧ k = n then v else if p = o ∧ k < n then v else σ.1 p k) = if p = o ∧ k < n + 1 then v else σ.1 p k
  by_cases h1 : p = o ∧ k = n
  · rw [if_pos h1, if_pos (by omega)]
  · rw [if_neg h1]
    by_cases h2 : p = o ∧ k < n
    · rw [if_pos h2, if_pos (by omega)]
    · rw [if_neg h2, if_neg (by omega)]
theorem zcln_F {o n : Nat} {v : Int32} (h : zcln σ) (ho : o < 64 + σ.2.2.2) : zcln (zFill σ o n v) := fun p q hp => by
  have hp : 64 + σ.2.2.2 ≤ p := hp
  refine ⟨?_, (h p q hp).2.1, (h p q hp).2.2⟩
  show (if p = o ∧ q < n then v else σ.1 p q) = 0
  rw [if_neg (by omega)]
  exact (h p q hp).1
theorem dJ7_fill_53178_0 : decode cJ7_fill_53178 0 = .ok (.iconst 0, 1) := by decide +kernel
theorem dJ7_fill_53178_1 : decode cJ7_fill_53178 1 = .ok (.istore_n 2, 1) := by decide +kernel
theorem dJ7_fill_53178_2 : decode cJ7_fill_53178 2 = .ok (.aload_n 0, 1) := by decide +kernel
theorem dJ7_fill_53178_3 : decode cJ7_fill_53178 3 = .ok (.arraylength, 1) := by decide +kernel
theorem dJ7_fill_53178_4 : decode cJ7_fill_53178 4 = .ok (.istore_n 3, 1) := by decide +kernel
theorem dJ7_fill_53178_5 : decode cJ7_fill_53178 5 = .ok (.iload_n 2, 1) := by decide +kernel
theorem dJ7_fill_53178_6 : decode cJ7_fill_53178 6 = .ok (.iload_n 3, 1) := by decide +kernel
theorem dJ7_fill_53178_7 : decode cJ7_fill_53178 7 = .ok (.if_icmp .ge 13, 3) := by decide +kernel
theorem dJ7_fill_53178_10 : decode cJ7_fill_53178 10 = .ok (.aload_n 0, 1) := by decide +kernel
theorem dJ7_fill_53178_11 : decode cJ7_fill_53178 11 = .ok (.iload_n 2, 1) := by decide +kernel
theorem dJ7_fill_53178_12 : decode cJ7_fill_53178 12 = .ok (.iload_n 1, 1) := by decide +kernel
theorem dJ7_fill_53178_13 : decode cJ7_fill_53178 13 = .ok (.iastore, 1) := by decide +kernel
theorem dJ7_fill_53178_14 : decode cJ7_fill_53178 14 = .ok (.iinc 2 1, 3) := by decide +kernel
theorem dJ7_fill_53178_17 : decode cJ7_fill_53178 17 = .ok (.goto (-12), 3) := by decide +kernel
theorem dJ7_fill_53178_20 : decode cJ7_fill_53178 20 = .ok (.return_, 1) := by decide +kernel
theorem fill_loop {z N o : Nat} {v : Int32} {s : zS} {K : zS → Prop} (hN : s.2.2.2 = z) (ho : zk o = 20 ∧ zn o = N ∧ 64 ≤ o ∧ o < 64 + z) (hNb : N < 2 ^ 31) : ∀ n k : Nat, k + n = N → K (zFill s o N v) → zAt l g d z z M_J7_fill_53178 5 [.ref o, .int v, .int (nI k), .int (nI N)] [] (zFill s o k v) (zKv K) := by
  intro n
  have ha : ∀ k, zAr (zFill s o k v) z 20 N o := fun k => ⟨ho.1, ho.2.1, ho.2.2.1, fun _ => by show o < 64 + s.2.2.2; rw [hN]; exact ho.2.2.2⟩
  induction n with
  | zero =>
    intro k hk h
    refine z_iload_n (i := 2) dJ7_fill_53178_5 rfl rfl rfl ?_
    refine z_iload_n (i := 3) dJ7_fill_53178_6 rfl rfl rfl ?_
    refine z_icmp_ge (pt := 20) dJ7_fill_53178_7 (by decide) rfl (fun _ => ?_) (fun c => absurd (nI_le (by omega) (by omega)) c)
    refine z_ret none (Or.inl ⟨rfl, rfl, dJ7_fill_53178_20⟩) (fun _ _ => by show s.2.2.2 = z; exact hN) ⟨rfl, ?_⟩
    rw [show k = N by omega]
    exact h
  | succ n ih =>
    intro k hk h
    refine z_iload_n (i := 2) dJ7_fill_53178_5 rfl rfl rfl ?_
    refine z_iload_n (i := 3) dJ7_fill_53178_6 rfl rfl rfl ?_
    refine z_icmp_ge (pt := 20) dJ7_fill_53178_7 (by decide) rfl (fun c => absurd c (nI_ge (by omega) hNb)) (fun _ => ?_)
    refine z_aload_n (i := 0) dJ7_fill_53178_10 rfl rfl rfl ?_
    refine z_iload_n (i := 2) dJ7_fill_53178_11 rfl rfl rfl ?_
    refine z_iload_n (i := 1) dJ7_fill_53178_12 rfl rfl rfl ?_
    refine z_iast (ha k) (vp_in_nI (by omega) hNb) dJ7_fill_53178_13 rfl ?_
    refine z_iinc (v := nI (k + 1)) dJ7_fill_53178_14 rfl (nI_succ k).symm (by decide) (zokd rfl) rfl ?_
    refine z_goto (pn := 5) dJ7_fill_53178_17 (by decide) ?_
    rw [nI_clamp (by omega), zFill_s]
    exact ih (k + 1) (by omega) h
theorem c_fill {z N o : Nat} {v : Int32} {s : zS} {K : zS → Prop} (hN : s.2.2.2 = z) (ho : zk o = 20 ∧ zn o = N ∧ 64 ≤ o ∧ o < 64 + z) (hNb : N < 2 ^ 31) (h : K (zFill s o N v)) : zCall l g d z z M_J7_fill_53178 [.ref o, .int v] s (zKv K) := by
  refine zCall_of k_J7_fill_53178 (Nat.le_of_ble_eq_true rfl) (Nat.le_refl _) (fun _ => ?_)
  show zAt l g d z z M_J7_fill_53178 0 [.ref o, .int v, zJ, zJ] [] s (zKv K)
  refine z_iconst (v := 0) dJ7_fill_53178_0 (by decide) rfl ?_
  refine z_istore_n (i := 2) dJ7_fill_53178_1 rfl (by decide) (zokd rfl) rfl ?_
  refine z_aload_n (i := 0) dJ7_fill_53178_2 rfl rfl rfl ?_
  refine z_alen (v := nI N) (by decide) ⟨ho.1, ho.2.1, ho.2.2.1, fun _ => by rw [hN]; exact ho.2.2.2⟩ rfl dJ7_fill_53178_3 rfl ?_
  refine z_istore_n (i := 3) dJ7_fill_53178_4 rfl (by decide) (zokd rfl) rfl ?_
  have := fill_loop (l := l) (g := g) (d := d) (v := v) hN ho hNb N 0 (by omega) h
  rw [zFill_0] at this
  exact this
end ZMI
theorem dX1_init_0 : decode cX1_init 0 = .ok (.aload_n 0, 1) := by decide +kernel
theorem dX1_init_1 : decode cX1_init 1 = .ok (.invokespecial 3, 3) := by decide +kernel
theorem dX1_init_4 : decode cX1_init 4 = .ok (.aload_n 0, 1) := by decide +kernel
theorem dX1_init_5 : decode cX1_init 5 = .ok (.sipush 4096, 3) := by decide +kernel
theorem dX1_init_8 : decode cX1_init 8 = .ok (.newarray .int, 2) := by decide +kernel
theorem dX1_init_10 : decode cX1_init 10 = .ok (.putfield 9, 3) := by decide +kernel
theorem dX1_init_13 : decode cX1_init 13 = .ok (.aload_n 0, 1) := by decide +kernel
theorem dX1_init_14 : decode cX1_init 14 = .ok (.sipush 4096, 3) := by decide +kernel
theorem dX1_init_17 : decode cX1_init 17 = .ok (.newarray .int, 2) := by decide +kernel
theorem dX1_init_19 : decode cX1_init 19 = .ok (.putfield 15, 3) := by decide +kernel
theorem dX1_init_22 : decode cX1_init 22 = .ok (.aload_n 0, 1) := by decide +kernel
theorem dX1_init_23 : decode cX1_init 23 = .ok (.getfield 15, 3) := by decide +kernel
theorem dX1_init_26 : decode cX1_init 26 = .ok (.iconst (-1), 1) := by decide +kernel
theorem dX1_init_27 : decode cX1_init 27 = .ok (.invokestatic 18, 3) := by decide +kernel
theorem dX1_init_30 : decode cX1_init 30 = .ok (.return_, 1) := by decide +kernel
def mkLand (s : zS) : zS := zFill (zRf (zNn (zRf (zNn s 3) 65 0 66) 4) 65 1 67) 67 4096 (-1 : Int32)
theorem cl_mkLand {s : zS} (hN : s.2.2.2 = 2) (hC : zcln s) : zcln (mkLand s) := (zcln_F (zcln_R (zcln_N (zcln_R (zcln_N hC (by show s.2.2.2 ≤ 3; rw [hN]; decide)) (by show 65 < 64 + 3; decide)) (by show 3 ≤ 4; decide)) (by show 65 < 64 + 4; decide)) (by show 67 < 64 + 4; decide))
set_option maxRecDepth 100000 in
set_option maxHeartbeats 4000000 in
theorem c_mkLand {l : Launch} {g : zG} {d : Nat} {s : zS} (hN : s.2.2.2 = 2) (hC : zcln s) {K : zS → Prop} (h : K (mkLand s)) : zCall l g (d + 2) 2 4 M_X1_init [.ref 65] s (zKv K) := by
  refine zCall_of k_X1_init (Nat.le_of_ble_eq_true rfl) (by decide) (fun _ => ?_)
  show zAt l g (d + 2) 2 4 M_X1_init 0 [.ref 65] [] s (zKv K)
  refine z_aload_n (i := 0) dX1_init_0 rfl rfl rfl ?_
  refine z_objInit oi_X1 w_oi w_oc dX1_init_1 (Nat.le_of_ble_eq_true rfl) rfl ?_
  refine z_aload_n (i := 0) dX1_init_4 rfl rfl rfl ?_
  refine z_sipush (v := (4096 : Int32)) dX1_init_5 (by decide) rfl ?_
  refine z_newa (atype := .int) (n := 2) (kd := 20) (len := 4096) (q := 66) rfl (fun _ _ h9 => h9) w_aI (by decide) (by decide) (by decide) (by decide) (by decide) rfl (by decide) hN (by decide : 64 + 2 = 66) hC (by decide) dX1_init_8 rfl ?_
  refine z_putR f_X1_9 ⟨zCl1, by decide, by decide, (fun _ => by show 65 < 64 + 3; decide)⟩ rfl (by decide) (Or.inr ⟨rfl, rfl, rfl, zin 35 (by decide +kernel) (by decide +kernel)⟩) rfl rfl dX1_init_10 rfl ?_
  refine z_aload_n (i := 0) dX1_init_13 rfl rfl rfl ?_
  refine z_sipush (v := (4096 : Int32)) dX1_init_14 (by decide) rfl ?_
  refine z_newa (atype := .int) (n := 3) (kd := 20) (len := 4096) (q := 67) rfl (fun _ _ h9 => h9) w_aI (by decide) (by decide) (by decide) (by decide) (by decide) rfl (by decide) rfl (by decide : 64 + 3 = 67) (zcln_R (zcln_N hC (by show s.2.2.2 ≤ 3; rw [hN]; decide)) (by show 65 < 64 + 3; decide)) (by decide) dX1_init_17 rfl ?_
  refine z_putR f_X1_15 ⟨zCl1, by decide, by decide, (fun _ => by show 65 < 64 + 4; decide)⟩ rfl (by decide) (Or.inr ⟨rfl, rfl, rfl, zin 36 (by decide +kernel) (by decide +kernel)⟩) rfl rfl dX1_init_19 rfl ?_
  refine z_aload_n (i := 0) dX1_init_22 rfl rfl rfl ?_
  refine z_getR (q := 67) f_X1_15 ⟨zCl1, by decide, by decide, (fun _ => by show 65 < 64 + 4; decide)⟩ rfl (by rfl) (by decide) dX1_init_23 rfl ?_
  refine z_iconst (v := (-1 : Int32)) dX1_init_26 (by decide) rfl ?_
  refine z_callS (y0 := 4) (y1 := 4) (as := [.ref 67, .int (-1 : Int32)]) k_J7_fill_53178 m_X1_18 rfl (c_fill (N := 4096) rfl (by decide) (by decide) (K := fun s1 => s1 = zFill (zRf (zNn (zRf (zNn s 3) 65 0 66) 4) 65 1 67) 67 4096 (-1 : Int32)) rfl) rfl (Nat.le_of_ble_eq_true rfl) dX1_init_27 (fun _ _ => ⟨rfl, by decide, by decide⟩) rfl ?_
  rintro v _ ⟨rfl, rfl⟩
  exact z_ret none (Or.inl ⟨rfl, rfl, dX1_init_30⟩) (fun _ _ => rfl) ⟨rfl, h⟩
theorem dX4_init_0 : decode cX4_init 0 = .ok (.aload_n 0, 1) := by decide +kernel
theorem dX4_init_1 : decode cX4_init 1 = .ok (.invokespecial 3, 3) := by decide +kernel
theorem dX4_init_4 : decode cX4_init 4 = .ok (.aload_n 0, 1) := by decide +kernel
theorem dX4_init_5 : decode cX4_init 5 = .ok (.aload_n 1, 1) := by decide +kernel
theorem dX4_init_6 : decode cX4_init 6 = .ok (.putfield 9, 3) := by decide +kernel
theorem dX4_init_9 : decode cX4_init 9 = .ok (.return_, 1) := by decide +kernel
def mkSight (s : zS) : zS := zRf s 68 0 65
theorem cl_mkSight {s : zS} (hN : s.2.2.2 = 5) (hC : zcln s) : zcln (mkSight s) := (zcln_R hC (by show 68 < 64 + (s).2.2.2; rw [hN]; decide))
set_option maxRecDepth 100000 in
set_option maxHeartbeats 4000000 in
theorem c_mkSight {l : Launch} {g : zG} {d : Nat} {s : zS} (hN : s.2.2.2 = 5) (hC : zcln s) {K : zS → Prop} (h : K (mkSight s)) : zCall l g (d + 1) 5 5 M_X4_init [.ref 68, .ref 65] s (zKv K) := by
  refine zCall_of k_X4_init (Nat.le_of_ble_eq_true rfl) (by decide) (fun _ => ?_)
  show zAt l g (d + 1) 5 5 M_X4_init 0 [.ref 68, .ref 65] [] s (zKv K)
  refine z_aload_n (i := 0) dX4_init_0 rfl rfl rfl ?_
  refine z_objInit oi_X4 w_oi w_oc dX4_init_1 (Nat.le_of_ble_eq_true rfl) rfl ?_
  refine z_aload_n (i := 0) dX4_init_4 rfl rfl rfl ?_
  refine z_aload_n (i := 1) dX4_init_5 rfl rfl rfl ?_
  refine z_putR f_X4_9 ⟨zCl4, by decide, by decide, (fun _ => by show 68 < 64 + (s).2.2.2; rw [hN]; decide)⟩ rfl (by decide) (Or.inr ⟨rfl, rfl, rfl, zin 57 (by decide +kernel) (by decide +kernel)⟩) rfl rfl dX4_init_6 rfl ?_
  exact z_ret none (Or.inl ⟨rfl, rfl, dX4_init_9⟩) (fun _ _ => hN) ⟨rfl, h⟩
theorem dX0_init_0 : decode cX0_init 0 = .ok (.aload_n 0, 1) := by decide +kernel
theorem dX0_init_1 : decode cX0_init 1 = .ok (.invokespecial 3, 3) := by decide +kernel
theorem dX0_init_4 : decode cX0_init 4 = .ok (.return_, 1) := by decide +kernel
def mkCross (s : zS) : zS := s
theorem cl_mkCross {s : zS} (hN : s.2.2.2 = 11) (hC : zcln s) : zcln (mkCross s) := hC
set_option maxRecDepth 100000 in
set_option maxHeartbeats 4000000 in
theorem c_mkCross {l : Launch} {g : zG} {d : Nat} {s : zS} (hN : s.2.2.2 = 11) (hC : zcln s) {K : zS → Prop} (h : K (mkCross s)) : zCall l g (d + 1) 11 11 M_X0_init [.ref 74] s (zKv K) := by
  refine zCall_of k_X0_init (Nat.le_of_ble_eq_true rfl) (by decide) (fun _ => ?_)
  show zAt l g (d + 1) 11 11 M_X0_init 0 [.ref 74] [] s (zKv K)
  refine z_aload_n (i := 0) dX0_init_0 rfl rfl rfl ?_
  refine z_objInit oi_X0 w_oi w_oc dX0_init_1 (Nat.le_of_ble_eq_true rfl) rfl ?_
  exact z_ret none (Or.inl ⟨rfl, rfl, dX0_init_4⟩) (fun _ _ => hN) ⟨rfl, h⟩
theorem dX2_init_0 : decode cX2_init 0 = .ok (.aload_n 0, 1) := by decide +kernel
theorem dX2_init_1 : decode cX2_init 1 = .ok (.invokespecial 3, 3) := by decide +kernel
theorem dX2_init_4 : decode cX2_init 4 = .ok (.aload_n 0, 1) := by decide +kernel
theorem dX2_init_5 : decode cX2_init 5 = .ok (.sipush 400, 3) := by decide +kernel
theorem dX2_init_8 : decode cX2_init 8 = .ok (.newarray .int, 2) := by decide +kernel
theorem dX2_init_10 : decode cX2_init 10 = .ok (.putfield 9, 3) := by decide +kernel
theorem dX2_init_13 : decode cX2_init 13 = .ok (.aload_n 0, 1) := by decide +kernel
theorem dX2_init_14 : decode cX2_init 14 = .ok (.sipush 401, 3) := by decide +kernel
theorem dX2_init_17 : decode cX2_init 17 = .ok (.newarray .int, 2) := by decide +kernel
theorem dX2_init_19 : decode cX2_init 19 = .ok (.putfield 15, 3) := by decide +kernel
theorem dX2_init_22 : decode cX2_init 22 = .ok (.aload_n 0, 1) := by decide +kernel
theorem dX2_init_23 : decode cX2_init 23 = .ok (.sipush 401, 3) := by decide +kernel
theorem dX2_init_26 : decode cX2_init 26 = .ok (.newarray .int, 2) := by decide +kernel
theorem dX2_init_28 : decode cX2_init 28 = .ok (.putfield 18, 3) := by decide +kernel
theorem dX2_init_31 : decode cX2_init 31 = .ok (.return_, 1) := by decide +kernel
def mkReader (s : zS) : zS := zRf (zNn (zRf (zNn (zRf (zNn s 13) 75 0 76) 14) 75 2 77) 15) 75 3 78
theorem cl_mkReader {s : zS} (hN : s.2.2.2 = 12) (hC : zcln s) : zcln (mkReader s) := (zcln_R (zcln_N (zcln_R (zcln_N (zcln_R (zcln_N hC (by show s.2.2.2 ≤ 13; rw [hN]; decide)) (by show 75 < 64 + 13; decide)) (by show 13 ≤ 14; decide)) (by show 75 < 64 + 14; decide)) (by show 14 ≤ 15; decide)) (by show 75 < 64 + 15; decide))
set_option maxRecDepth 100000 in
set_option maxHeartbeats 4000000 in
theorem c_mkReader {l : Launch} {g : zG} {d : Nat} {s : zS} (hN : s.2.2.2 = 12) (hC : zcln s) {K : zS → Prop} (h : K (mkReader s)) : zCall l g (d + 1) 12 15 M_X2_init [.ref 75] s (zKv K) := by
  refine zCall_of k_X2_init (Nat.le_of_ble_eq_true rfl) (by decide) (fun _ => ?_)
  show zAt l g (d + 1) 12 15 M_X2_init 0 [.ref 75] [] s (zKv K)
  refine z_aload_n (i := 0) dX2_init_0 rfl rfl rfl ?_
  refine z_objInit oi_X2 w_oi w_oc dX2_init_1 (Nat.le_of_ble_eq_true rfl) rfl ?_
  refine z_aload_n (i := 0) dX2_init_4 rfl rfl rfl ?_
  refine z_sipush (v := (400 : Int32)) dX2_init_5 (by decide) rfl ?_
  refine z_newa (atype := .int) (n := 12) (kd := 20) (len := 400) (q := 76) rfl (fun _ _ h9 => h9) w_aI (by decide) (by decide) (by decide) (by decide) (by decide) rfl (by decide) hN (by decide : 64 + 12 = 76) hC (by decide) dX2_init_8 rfl ?_
  refine z_putR f_X2_9 ⟨zCl2, by decide, by decide, (fun _ => by show 75 < 64 + 13; decide)⟩ rfl (by decide) (Or.inr ⟨rfl, rfl, rfl, zin 125 (by decide +kernel) (by decide +kernel)⟩) rfl rfl dX2_init_10 rfl ?_
  refine z_aload_n (i := 0) dX2_init_13 rfl rfl rfl ?_
  refine z_sipush (v := (401 : Int32)) dX2_init_14 (by decide) rfl ?_
  refine z_newa (atype := .int) (n := 13) (kd := 20) (len := 401) (q := 77) rfl (fun _ _ h9 => h9) w_aI (by decide) (by decide) (by decide) (by decide) (by decide) rfl (by decide) rfl (by decide : 64 + 13 = 77) (zcln_R (zcln_N hC (by show s.2.2.2 ≤ 13; rw [hN]; decide)) (by show 75 < 64 + 13; decide)) (by decide) dX2_init_17 rfl ?_
  refine z_putR f_X2_15 ⟨zCl2, by decide, by decide, (fun _ => by show 75 < 64 + 14; decide)⟩ rfl (by decide) (Or.inr ⟨rfl, rfl, rfl, zin 128 (by decide +kernel) (by decide +kernel)⟩) rfl rfl dX2_init_19 rfl ?_
  refine z_aload_n (i := 0) dX2_init_22 rfl rfl rfl ?_
  refine z_sipush (v := (401 : Int32)) dX2_init_23 (by decide) rfl ?_
  refine z_newa (atype := .int) (n := 14) (kd := 20) (len := 401) (q := 78) rfl (fun _ _ h9 => h9) w_aI (by decide) (by decide) (by decide) (by decide) (by decide) rfl (by decide) rfl (by decide : 64 + 14 = 78) (zcln_R (zcln_N (zcln_R (zcln_N hC (by show s.2.2.2 ≤ 13; rw [hN]; decide)) (by show 75 < 64 + 13; decide)) (by show 13 ≤ 14; decide)) (by show 75 < 64 + 14; decide)) (by decide) dX2_init_26 rfl ?_
  refine z_putR f_X2_18 ⟨zCl2, by decide, by decide, (fun _ => by show 75 < 64 + 15; decide)⟩ rfl (by decide) (Or.inr ⟨rfl, rfl, rfl, zin 129 (by decide +kernel) (by decide +kernel)⟩) rfl rfl dX2_init_28 rfl ?_
  exact z_ret none (Or.inl ⟨rfl, rfl, dX2_init_31⟩) (fun _ _ => rfl) ⟨rfl, h⟩
theorem dX3_init_0 : decode cX3_init 0 = .ok (.aload_n 0, 1) := by decide +kernel
theorem dX3_init_1 : decode cX3_init 1 = .ok (.invokespecial 3, 3) := by decide +kernel
theorem dX3_init_4 : decode cX3_init 4 = .ok (.aload_n 0, 1) := by decide +kernel
theorem dX3_init_5 : decode cX3_init 5 = .ok (.sipush 400, 3) := by decide +kernel
theorem dX3_init_8 : decode cX3_init 8 = .ok (.newarray .int, 2) := by decide +kernel
theorem dX3_init_10 : decode cX3_init 10 = .ok (.putfield 9, 3) := by decide +kernel
theorem dX3_init_13 : decode cX3_init 13 = .ok (.aload_n 0, 1) := by decide +kernel
theorem dX3_init_14 : decode cX3_init 14 = .ok (.bipush 12, 2) := by decide +kernel
theorem dX3_init_16 : decode cX3_init 16 = .ok (.newarray .int, 2) := by decide +kernel
theorem dX3_init_18 : decode cX3_init 18 = .ok (.putfield 15, 3) := by decide +kernel
theorem dX3_init_21 : decode cX3_init 21 = .ok (.aload_n 0, 1) := by decide +kernel
theorem dX3_init_22 : decode cX3_init 22 = .ok (.bipush 12, 2) := by decide +kernel
theorem dX3_init_24 : decode cX3_init 24 = .ok (.newarray .int, 2) := by decide +kernel
theorem dX3_init_26 : decode cX3_init 26 = .ok (.putfield 18, 3) := by decide +kernel
theorem dX3_init_29 : decode cX3_init 29 = .ok (.aload_n 0, 1) := by decide +kernel
theorem dX3_init_30 : decode cX3_init 30 = .ok (.bipush 12, 2) := by decide +kernel
theorem dX3_init_32 : decode cX3_init 32 = .ok (.newarray .int, 2) := by decide +kernel
theorem dX3_init_34 : decode cX3_init 34 = .ok (.putfield 21, 3) := by decide +kernel
theorem dX3_init_37 : decode cX3_init 37 = .ok (.aload_n 0, 1) := by decide +kernel
theorem dX3_init_38 : decode cX3_init 38 = .ok (.bipush 24, 2) := by decide +kernel
theorem dX3_init_40 : decode cX3_init 40 = .ok (.newarray .int, 2) := by decide +kernel
theorem dX3_init_42 : decode cX3_init 42 = .ok (.putfield 24, 3) := by decide +kernel
theorem dX3_init_45 : decode cX3_init 45 = .ok (.return_, 1) := by decide +kernel
def mkRules1 (s : zS) : zS := zRf (zNn (zRf (zNn (zRf (zNn (zRf (zNn (zRf (zNn s 17) 79 0 80) 18) 79 6 81) 19) 79 7 82) 20) 79 8 83) 21) 79 9 84
theorem cl_mkRules1 {s : zS} (hN : s.2.2.2 = 16) (hC : zcln s) : zcln (mkRules1 s) := (zcln_R (zcln_N (zcln_R (zcln_N (zcln_R (zcln_N (zcln_R (zcln_N (zcln_R (zcln_N hC (by show s.2.2.2 ≤ 17; rw [hN]; decide)) (by show 79 < 64 + 17; decide)) (by show 17 ≤ 18; decide)) (by show 79 < 64 + 18; decide)) (by show 18 ≤ 19; decide)) (by show 79 < 64 + 19; decide)) (by show 19 ≤ 20; decide)) (by show 79 < 64 + 20; decide)) (by show 20 ≤ 21; decide)) (by show 79 < 64 + 21; decide))
set_option maxRecDepth 100000 in
set_option maxHeartbeats 4000000 in
theorem c_mkRules1 {l : Launch} {g : zG} {d : Nat} {s : zS} (hN : s.2.2.2 = 16) (hC : zcln s) {K : zS → Prop} (h : K (mkRules1 s)) : zCall l g (d + 1) 16 21 M_X3_init [.ref 79] s (zKv K) := by
  refine zCall_of k_X3_init (Nat.le_of_ble_eq_true rfl) (by decide) (fun _ => ?_)
  show zAt l g (d + 1) 16 21 M_X3_init 0 [.ref 79] [] s (zKv K)
  refine z_aload_n (i := 0) dX3_init_0 rfl rfl rfl ?_
  refine z_objInit oi_X3 w_oi w_oc dX3_init_1 (Nat.le_of_ble_eq_true rfl) rfl ?_
  refine z_aload_n (i := 0) dX3_init_4 rfl rfl rfl ?_
  refine z_sipush (v := (400 : Int32)) dX3_init_5 (by decide) rfl ?_
  refine z_newa (atype := .int) (n := 16) (kd := 20) (len := 400) (q := 80) rfl (fun _ _ h9 => h9) w_aI (by decide) (by decide) (by decide) (by decide) (by decide) rfl (by decide) hN (by decide : 64 + 16 = 80) hC (by decide) dX3_init_8 rfl ?_
  refine z_putR f_X3_9 ⟨zCl3, by decide, by decide, (fun _ => by show 79 < 64 + 17; decide)⟩ rfl (by decide) (Or.inr ⟨rfl, rfl, rfl, zin 151 (by decide +kernel) (by decide +kernel)⟩) rfl rfl dX3_init_10 rfl ?_
  refine z_aload_n (i := 0) dX3_init_13 rfl rfl rfl ?_
  refine z_bipush (v := (12 : Int32)) dX3_init_14 (by decide) rfl ?_
  refine z_newa (atype := .int) (n := 17) (kd := 20) (len := 12) (q := 81) rfl (fun _ _ h9 => h9) w_aI (by decide) (by decide) (by decide) (by decide) (by decide) rfl (by decide) rfl (by decide : 64 + 17 = 81) (zcln_R (zcln_N hC (by show s.2.2.2 ≤ 17; rw [hN]; decide)) (by show 79 < 64 + 17; decide)) (by decide) dX3_init_16 rfl ?_
  refine z_putR f_X3_15 ⟨zCl3, by decide, by decide, (fun _ => by show 79 < 64 + 18; decide)⟩ rfl (by decide) (Or.inr ⟨rfl, rfl, rfl, zin 164 (by decide +kernel) (by decide +kernel)⟩) rfl rfl dX3_init_18 rfl ?_
  refine z_aload_n (i := 0) dX3_init_21 rfl rfl rfl ?_
  refine z_bipush (v := (12 : Int32)) dX3_init_22 (by decide) rfl ?_
  refine z_newa (atype := .int) (n := 18) (kd := 20) (len := 12) (q := 82) rfl (fun _ _ h9 => h9) w_aI (by decide) (by decide) (by decide) (by decide) (by decide) rfl (by decide) rfl (by decide : 64 + 18 = 82) (zcln_R (zcln_N (zcln_R (zcln_N hC (by show s.2.2.2 ≤ 17; rw [hN]; decide)) (by show 79 < 64 + 17; decide)) (by show 17 ≤ 18; decide)) (by show 79 < 64 + 18; decide)) (by decide) dX3_init_24 rfl ?_
  refine z_putR f_X3_18 ⟨zCl3, by decide, by decide, (fun _ => by show 79 < 64 + 19; decide)⟩ rfl (by decide) (Or.inr ⟨rfl, rfl, rfl, zin 166 (by decide +kernel) (by decide +kernel)⟩) rfl rfl dX3_init_26 rfl ?_
  refine z_aload_n (i := 0) dX3_init_29 rfl rfl rfl ?_
  refine z_bipush (v := (12 : Int32)) dX3_init_30 (by decide) rfl ?_
  refine z_newa (atype := .int) (n := 19) (kd := 20) (len := 12) (q := 83) rfl (fun _ _ h9 => h9) w_aI (by decide) (by decide) (by decide) (by decide) (by decide) rfl (by decide) rfl (by decide : 64 + 19 = 83) (zcln_R (zcln_N (zcln_R (zcln_N (zcln_R (zcln_N hC (by show s.2.2.2 ≤ 17; rw [hN]; decide)) (by show 79 < 64 + 17; decide)) (by show 17 ≤ 18; decide)) (by show 79 < 64 + 18; decide)) (by show 18 ≤ 19; decide)) (by show 79 < 64 + 19; decide)) (by decide) dX3_init_32 rfl ?_
  refine z_putR f_X3_21 ⟨zCl3, by decide, by decide, (fun _ => by show 79 < 64 + 20; decide)⟩ rfl (by decide) (Or.inr ⟨rfl, rfl, rfl, zin 167 (by decide +kernel) (by decide +kernel)⟩) rfl rfl dX3_init_34 rfl ?_
  refine z_aload_n (i := 0) dX3_init_37 rfl rfl rfl ?_
  refine z_bipush (v := (24 : Int32)) dX3_init_38 (by decide) rfl ?_
  refine z_newa (atype := .int) (n := 20) (kd := 20) (len := 24) (q := 84) rfl (fun _ _ h9 => h9) w_aI (by decide) (by decide) (by decide) (by decide) (by decide) rfl (by decide) rfl (by decide : 64 + 20 = 84) (zcln_R (zcln_N (zcln_R (zcln_N (zcln_R (zcln_N (zcln_R (zcln_N hC (by show s.2.2.2 ≤ 17; rw [hN]; decide)) (by show 79 < 64 + 17; decide)) (by show 17 ≤ 18; decide)) (by show 79 < 64 + 18; decide)) (by show 18 ≤ 19; decide)) (by show 79 < 64 + 19; decide)) (by show 19 ≤ 20; decide)) (by show 79 < 64 + 20; decide)) (by decide) dX3_init_40 rfl ?_
  refine z_putR f_X3_24 ⟨zCl3, by decide, by decide, (fun _ => by show 79 < 64 + 21; decide)⟩ rfl (by decide) (Or.inr ⟨rfl, rfl, rfl, zin 168 (by decide +kernel) (by decide +kernel)⟩) rfl rfl dX3_init_42 rfl ?_
  exact z_ret none (Or.inl ⟨rfl, rfl, dX3_init_45⟩) (fun _ _ => rfl) ⟨rfl, h⟩
def mkRules2 (s : zS) : zS := zRf (zNn (zRf (zNn (zRf (zNn (zRf (zNn (zRf (zNn s 23) 85 0 86) 24) 85 6 87) 25) 85 7 88) 26) 85 8 89) 27) 85 9 90
theorem cl_mkRules2 {s : zS} (hN : s.2.2.2 = 22) (hC : zcln s) : zcln (mkRules2 s) := (zcln_R (zcln_N (zcln_R (zcln_N (zcln_R (zcln_N (zcln_R (zcln_N (zcln_R (zcln_N hC (by show s.2.2.2 ≤ 23; rw [hN]; decide)) (by show 85 < 64 + 23; decide)) (by show 23 ≤ 24; decide)) (by show 85 < 64 + 24; decide)) (by show 24 ≤ 25; decide)) (by show 85 < 64 + 25; decide)) (by show 25 ≤ 26; decide)) (by show 85 < 64 + 26; decide)) (by show 26 ≤ 27; decide)) (by show 85 < 64 + 27; decide))
set_option maxRecDepth 100000 in
set_option maxHeartbeats 4000000 in
theorem c_mkRules2 {l : Launch} {g : zG} {d : Nat} {s : zS} (hN : s.2.2.2 = 22) (hC : zcln s) {K : zS → Prop} (h : K (mkRules2 s)) : zCall l g (d + 1) 22 27 M_X3_init [.ref 85] s (zKv K) := by
  refine zCall_of k_X3_init (Nat.le_of_ble_eq_true rfl) (by decide) (fun _ => ?_)
  show zAt l g (d + 1) 22 27 M_X3_init 0 [.ref 85] [] s (zKv K)
  refine z_aload_n (i := 0) dX3_init_0 rfl rfl rfl ?_
  refine z_objInit oi_X3 w_oi w_oc dX3_init_1 (Nat.le_of_ble_eq_true rfl) rfl ?_
  refine z_aload_n (i := 0) dX3_init_4 rfl rfl rfl ?_
  refine z_sipush (v := (400 : Int32)) dX3_init_5 (by decide) rfl ?_
  refine z_newa (atype := .int) (n := 22) (kd := 20) (len := 400) (q := 86) rfl (fun _ _ h9 => h9) w_aI (by decide) (by decide) (by decide) (by decide) (by decide) rfl (by decide) hN (by decide : 64 + 22 = 86) hC (by decide) dX3_init_8 rfl ?_
  refine z_putR f_X3_9 ⟨zCl3, by decide, by decide, (fun _ => by show 85 < 64 + 23; decide)⟩ rfl (by decide) (Or.inr ⟨rfl, rfl, rfl, zin 151 (by decide +kernel) (by decide +kernel)⟩) rfl rfl dX3_init_10 rfl ?_
  refine z_aload_n (i := 0) dX3_init_13 rfl rfl rfl ?_
  refine z_bipush (v := (12 : Int32)) dX3_init_14 (by decide) rfl ?_
  refine z_newa (atype := .int) (n := 23) (kd := 20) (len := 12) (q := 87) rfl (fun _ _ h9 => h9) w_aI (by decide) (by decide) (by decide) (by decide) (by decide) rfl (by decide) rfl (by decide : 64 + 23 = 87) (zcln_R (zcln_N hC (by show s.2.2.2 ≤ 23; rw [hN]; decide)) (by show 85 < 64 + 23; decide)) (by decide) dX3_init_16 rfl ?_
  refine z_putR f_X3_15 ⟨zCl3, by decide, by decide, (fun _ => by show 85 < 64 + 24; decide)⟩ rfl (by decide) (Or.inr ⟨rfl, rfl, rfl, zin 164 (by decide +kernel) (by decide +kernel)⟩) rfl rfl dX3_init_18 rfl ?_
  refine z_aload_n (i := 0) dX3_init_21 rfl rfl rfl ?_
  refine z_bipush (v := (12 : Int32)) dX3_init_22 (by decide) rfl ?_
  refine z_newa (atype := .int) (n := 24) (kd := 20) (len := 12) (q := 88) rfl (fun _ _ h9 => h9) w_aI (by decide) (by decide) (by decide) (by decide) (by decide) rfl (by decide) rfl (by decide : 64 + 24 = 88) (zcln_R (zcln_N (zcln_R (zcln_N hC (by show s.2.2.2 ≤ 23; rw [hN]; decide)) (by show 85 < 64 + 23; decide)) (by show 23 ≤ 24; decide)) (by show 85 < 64 + 24; decide)) (by decide) dX3_init_24 rfl ?_
  refine z_putR f_X3_18 ⟨zCl3, by decide, by decide, (fun _ => by show 85 < 64 + 25; decide)⟩ rfl (by decide) (Or.inr ⟨rfl, rfl, rfl, zin 166 (by decide +kernel) (by decide +kernel)⟩) rfl rfl dX3_init_26 rfl ?_
  refine z_aload_n (i := 0) dX3_init_29 rfl rfl rfl ?_
  refine z_bipush (v := (12 : Int32)) dX3_init_30 (by decide) rfl ?_
  refine z_newa (atype := .int) (n := 25) (kd := 20) (len := 12) (q := 89) rfl (fun _ _ h9 => h9) w_aI (by decide) (by decide) (by decide) (by decide) (by decide) rfl (by decide) rfl (by decide : 64 + 25 = 89) (zcln_R (zcln_N (zcln_R (zcln_N (zcln_R (zcln_N hC (by show s.2.2.2 ≤ 23; rw [hN]; decide)) (by show 85 < 64 + 23; decide)) (by show 23 ≤ 24; decide)) (by show 85 < 64 + 24; decide)) (by show 24 ≤ 25; decide)) (by show 85 < 64 + 25; decide)) (by decide) dX3_init_32 rfl ?_
  refine z_putR f_X3_21 ⟨zCl3, by decide, by decide, (fun _ => by show 85 < 64 + 26; decide)⟩ rfl (by decide) (Or.inr ⟨rfl, rfl, rfl, zin 167 (by decide +kernel) (by decide +kernel)⟩) rfl rfl dX3_init_34 rfl ?_
  refine z_aload_n (i := 0) dX3_init_37 rfl rfl rfl ?_
  refine z_bipush (v := (24 : Int32)) dX3_init_38 (by decide) rfl ?_
  refine z_newa (atype := .int) (n := 26) (kd := 20) (len := 24) (q := 90) rfl (fun _ _ h9 => h9) w_aI (by decide) (by decide) (by decide) (by decide) (by decide) rfl (by decide) rfl (by decide : 64 + 26 = 90) (zcln_R (zcln_N (zcln_R (zcln_N (zcln_R (zcln_N (zcln_R (zcln_N hC (by show s.2.2.2 ≤ 23; rw [hN]; decide)) (by show 85 < 64 + 23; decide)) (by show 23 ≤ 24; decide)) (by show 85 < 64 + 24; decide)) (by show 24 ≤ 25; decide)) (by show 85 < 64 + 25; decide)) (by show 25 ≤ 26; decide)) (by show 85 < 64 + 26; decide)) (by decide) dX3_init_40 rfl ?_
  refine z_putR f_X3_24 ⟨zCl3, by decide, by decide, (fun _ => by show 85 < 64 + 27; decide)⟩ rfl (by decide) (Or.inr ⟨rfl, rfl, rfl, zin 168 (by decide +kernel) (by decide +kernel)⟩) rfl rfl dX3_init_42 rfl ?_
  exact z_ret none (Or.inl ⟨rfl, rfl, dX3_init_45⟩) (fun _ _ => rfl) ⟨rfl, h⟩
theorem dX6_init_0 : decode cX6_init 0 = .ok (.aload_n 0, 1) := by decide +kernel
theorem dX6_init_1 : decode cX6_init 1 = .ok (.invokespecial 3, 3) := by decide +kernel
theorem dX6_init_4 : decode cX6_init 4 = .ok (.aload_n 0, 1) := by decide +kernel
theorem dX6_init_5 : decode cX6_init 5 = .ok (.iconst 1, 1) := by decide +kernel
theorem dX6_init_6 : decode cX6_init 6 = .ok (.putfield 9, 3) := by decide +kernel
theorem dX6_init_9 : decode cX6_init 9 = .ok (.aload_n 0, 1) := by decide +kernel
theorem dX6_init_10 : decode cX6_init 10 = .ok (.iconst 1, 1) := by decide +kernel
theorem dX6_init_11 : decode cX6_init 11 = .ok (.putfield 15, 3) := by decide +kernel
theorem dX6_init_14 : decode cX6_init 14 = .ok (.return_, 1) := by decide +kernel
theorem dX5_init_0 : decode cX5_init 0 = .ok (.aload_n 0, 1) := by decide +kernel
theorem dX5_init_1 : decode cX5_init 1 = .ok (.invokespecial 3, 3) := by decide +kernel
theorem dX5_init_4 : decode cX5_init 4 = .ok (.return_, 1) := by decide +kernel
def mkThing (o : Nat) (s : zS) : zS := zI (zI s o 8 1) o 10 1
set_option maxRecDepth 100000 in
theorem c_Thing {l : Launch} {g : zG} {d n o : Nat} {s : zS} (hN : s.2.2.2 = n) (ho : zk o = 7 ∧ 64 ≤ o ∧ o < 64 + n) {K : zS → Prop} (h : K (mkThing o s)) : zCall l g (d + 1) n n M_X6_init [.ref o] s (zKv K) := by
  have hi : ∀ s1 : zS, s1.2.2.2 = n → zIs s1 n 6 o := fun s1 h1 => ⟨zCl6, ho.1, ho.2.1, fun _ => by rw [h1]; exact ho.2.2⟩
  refine zCall_of k_X6_init (Nat.le_of_ble_eq_true rfl) (Nat.le_refl _) (fun _ => ?_)
  show zAt l g (d + 1) n n M_X6_init 0 [.ref o] [] s (zKv K)
  refine z_aload_n (i := 0) dX6_init_0 rfl rfl rfl ?_
  refine z_objInit oi_X6 w_oi w_oc dX6_init_1 (Nat.le_of_ble_eq_true rfl) rfl ?_
  refine z_aload_n (i := 0) dX6_init_4 rfl rfl rfl ?_
  refine z_iconst (v := 1) dX6_init_5 (by decide) rfl ?_
  refine z_putI f_X6_9 (hi s hN) rfl (Or.inl rfl) rfl rfl dX6_init_6 rfl ?_
  refine z_aload_n (i := 0) dX6_init_9 rfl rfl rfl ?_
  refine z_iconst (v := 1) dX6_init_10 (by decide) rfl ?_
  refine z_putI f_X6_15 (hi _ hN) rfl (Or.inl rfl) rfl rfl dX6_init_11 rfl ?_
  exact z_ret none (Or.inl ⟨rfl, rfl, dX6_init_14⟩) (fun _ _ => hN) ⟨rfl, h⟩
theorem c_Telling {l : Launch} {g : zG} {d n o : Nat} {s : zS} (hN : s.2.2.2 = n) {K : zS → Prop} (h : K s) : zCall l g (d + 1) n n M_X5_init [.ref o] s (zKv K) := by
  refine zCall_of k_X5_init (Nat.le_of_ble_eq_true rfl) (Nat.le_refl _) (fun _ => ?_)
  show zAt l g (d + 1) n n M_X5_init 0 [.ref o] [] s (zKv K)
  refine z_aload_n (i := 0) dX5_init_0 rfl rfl rfl ?_
  refine z_objInit oi_X5 w_oi w_oc dX5_init_1 (Nat.le_of_ble_eq_true rfl) rfl ?_
  exact z_ret none (Or.inl ⟨rfl, rfl, dX5_init_4⟩) (fun _ _ => hN) ⟨rfl, h⟩
theorem dX7_init_0 : decode cX7_init 0 = .ok (.aload_n 0, 1) := by decide +kernel
theorem dX7_init_1 : decode cX7_init 1 = .ok (.invokespecial 3, 3) := by decide +kernel
theorem dX7_init_4 : decode cX7_init 4 = .ok (.aload_n 0, 1) := by decide +kernel
theorem dX7_init_5 : decode cX7_init 5 = .ok (.new 9, 3) := by decide +kernel
theorem dX7_init_8 : decode cX7_init 8 = .ok (.dup, 1) := by decide +kernel
theorem dX7_init_9 : decode cX7_init 9 = .ok (.invokespecial 11, 3) := by decide +kernel
theorem dX7_init_12 : decode cX7_init 12 = .ok (.putfield 12, 3) := by decide +kernel
theorem dX7_init_15 : decode cX7_init 15 = .ok (.aload_n 0, 1) := by decide +kernel
theorem dX7_init_16 : decode cX7_init 16 = .ok (.new 16, 3) := by decide +kernel
theorem dX7_init_19 : decode cX7_init 19 = .ok (.dup, 1) := by decide +kernel
theorem dX7_init_20 : decode cX7_init 20 = .ok (.aload_n 0, 1) := by decide +kernel
theorem dX7_init_21 : decode cX7_init 21 = .ok (.getfield 12, 3) := by decide +kernel
theorem dX7_init_24 : decode cX7_init 24 = .ok (.invokespecial 18, 3) := by decide +kernel
theorem dX7_init_27 : decode cX7_init 27 = .ok (.putfield 21, 3) := by decide +kernel
theorem dX7_init_30 : decode cX7_init 30 = .ok (.aload_n 0, 1) := by decide +kernel
theorem dX7_init_31 : decode cX7_init 31 = .ok (.bipush 20, 2) := by decide +kernel
theorem dX7_init_33 : decode cX7_init 33 = .ok (.newarray .int, 2) := by decide +kernel
theorem dX7_init_35 : decode cX7_init 35 = .ok (.putfield 25, 3) := by decide +kernel
theorem dX7_init_38 : decode cX7_init 38 = .ok (.aload_n 0, 1) := by decide +kernel
theorem dX7_init_39 : decode cX7_init 39 = .ok (.bipush 12, 2) := by decide +kernel
theorem dX7_init_41 : decode cX7_init 41 = .ok (.anewarray 29, 3) := by decide +kernel
theorem dX7_init_44 : decode cX7_init 44 = .ok (.putfield 31, 3) := by decide +kernel
theorem dX7_init_47 : decode cX7_init 47 = .ok (.aload_n 0, 1) := by decide +kernel
theorem dX7_init_48 : decode cX7_init 48 = .ok (.bipush 60, 2) := by decide +kernel
theorem dX7_init_50 : decode cX7_init 50 = .ok (.anewarray 35, 3) := by decide +kernel
theorem dX7_init_53 : decode cX7_init 53 = .ok (.putfield 37, 3) := by decide +kernel
theorem dX7_init_56 : decode cX7_init 56 = .ok (.aload_n 0, 1) := by decide +kernel
theorem dX7_init_57 : decode cX7_init 57 = .ok (.bipush 8, 2) := by decide +kernel
theorem dX7_init_59 : decode cX7_init 59 = .ok (.putfield 41, 3) := by decide +kernel
theorem dX7_init_62 : decode cX7_init 62 = .ok (.aload_n 0, 1) := by decide +kernel
theorem dX7_init_63 : decode cX7_init 63 = .ok (.bipush 20, 2) := by decide +kernel
theorem dX7_init_65 : decode cX7_init 65 = .ok (.putfield 45, 3) := by decide +kernel
theorem dX7_init_68 : decode cX7_init 68 = .ok (.aload_n 0, 1) := by decide +kernel
theorem dX7_init_69 : decode cX7_init 69 = .ok (.iconst 1, 1) := by decide +kernel
theorem dX7_init_70 : decode cX7_init 70 = .ok (.putfield 48, 3) := by decide +kernel
theorem dX7_init_73 : decode cX7_init 73 = .ok (.aload_n 0, 1) := by decide +kernel
theorem dX7_init_74 : decode cX7_init 74 = .ok (.bipush 12, 2) := by decide +kernel
theorem dX7_init_76 : decode cX7_init 76 = .ok (.newarray .int, 2) := by decide +kernel
theorem dX7_init_78 : decode cX7_init 78 = .ok (.putfield 51, 3) := by decide +kernel
theorem dX7_init_81 : decode cX7_init 81 = .ok (.aload_n 0, 1) := by decide +kernel
theorem dX7_init_82 : decode cX7_init 82 = .ok (.bipush 60, 2) := by decide +kernel
theorem dX7_init_84 : decode cX7_init 84 = .ok (.newarray .int, 2) := by decide +kernel
theorem dX7_init_86 : decode cX7_init 86 = .ok (.putfield 54, 3) := by decide +kernel
theorem dX7_init_89 : decode cX7_init 89 = .ok (.aload_n 0, 1) := by decide +kernel
theorem dX7_init_90 : decode cX7_init 90 = .ok (.new 57, 3) := by decide +kernel
theorem dX7_init_93 : decode cX7_init 93 = .ok (.dup, 1) := by decide +kernel
theorem dX7_init_94 : decode cX7_init 94 = .ok (.invokespecial 59, 3) := by decide +kernel
theorem dX7_init_97 : decode cX7_init 97 = .ok (.putfield 60, 3) := by decide +kernel
theorem dX7_init_100 : decode cX7_init 100 = .ok (.aload_n 0, 1) := by decide +kernel
theorem dX7_init_101 : decode cX7_init 101 = .ok (.new 64, 3) := by decide +kernel
theorem dX7_init_104 : decode cX7_init 104 = .ok (.dup, 1) := by decide +kernel
theorem dX7_init_105 : decode cX7_init 105 = .ok (.invokespecial 66, 3) := by decide +kernel
theorem dX7_init_108 : decode cX7_init 108 = .ok (.putfield 67, 3) := by decide +kernel
theorem dX7_init_111 : decode cX7_init 111 = .ok (.aload_n 0, 1) := by decide +kernel
theorem dX7_init_112 : decode cX7_init 112 = .ok (.new 71, 3) := by decide +kernel
theorem dX7_init_115 : decode cX7_init 115 = .ok (.dup, 1) := by decide +kernel
theorem dX7_init_116 : decode cX7_init 116 = .ok (.invokespecial 73, 3) := by decide +kernel
theorem dX7_init_119 : decode cX7_init 119 = .ok (.putfield 74, 3) := by decide +kernel
theorem dX7_init_122 : decode cX7_init 122 = .ok (.aload_n 0, 1) := by decide +kernel
theorem dX7_init_123 : decode cX7_init 123 = .ok (.new 71, 3) := by decide +kernel
theorem dX7_init_126 : decode cX7_init 126 = .ok (.dup, 1) := by decide +kernel
theorem dX7_init_127 : decode cX7_init 127 = .ok (.invokespecial 73, 3) := by decide +kernel
theorem dX7_init_130 : decode cX7_init 130 = .ok (.putfield 78, 3) := by decide +kernel
theorem dX7_init_133 : decode cX7_init 133 = .ok (.aload_n 0, 1) := by decide +kernel
theorem dX7_init_134 : decode cX7_init 134 = .ok (.bipush 7, 2) := by decide +kernel
theorem dX7_init_136 : decode cX7_init 136 = .ok (.newarray .int, 2) := by decide +kernel
theorem dX7_init_138 : decode cX7_init 138 = .ok (.putfield 81, 3) := by decide +kernel
theorem dX7_init_141 : decode cX7_init 141 = .ok (.iconst 0, 1) := by decide +kernel
theorem dX7_init_142 : decode cX7_init 142 = .ok (.istore_n 1, 1) := by decide +kernel
theorem dX7_init_143 : decode cX7_init 143 = .ok (.iload_n 1, 1) := by decide +kernel
theorem dX7_init_144 : decode cX7_init 144 = .ok (.bipush 12, 2) := by decide +kernel
theorem dX7_init_146 : decode cX7_init 146 = .ok (.if_icmp .ge 22, 3) := by decide +kernel
theorem dX7_init_149 : decode cX7_init 149 = .ok (.aload_n 0, 1) := by decide +kernel
theorem dX7_init_150 : decode cX7_init 150 = .ok (.getfield 31, 3) := by decide +kernel
theorem dX7_init_153 : decode cX7_init 153 = .ok (.iload_n 1, 1) := by decide +kernel
theorem dX7_init_154 : decode cX7_init 154 = .ok (.new 29, 3) := by decide +kernel
theorem dX7_init_157 : decode cX7_init 157 = .ok (.dup, 1) := by decide +kernel
theorem dX7_init_158 : decode cX7_init 158 = .ok (.invokespecial 84, 3) := by decide +kernel
theorem dX7_init_161 : decode cX7_init 161 = .ok (.aastore, 1) := by decide +kernel
theorem dX7_init_162 : decode cX7_init 162 = .ok (.iinc 1 1, 3) := by decide +kernel
theorem dX7_init_165 : decode cX7_init 165 = .ok (.goto (-22), 3) := by decide +kernel
theorem dX7_init_168 : decode cX7_init 168 = .ok (.iconst 0, 1) := by decide +kernel
theorem dX7_init_169 : decode cX7_init 169 = .ok (.istore_n 1, 1) := by decide +kernel
theorem dX7_init_170 : decode cX7_init 170 = .ok (.iload_n 1, 1) := by decide +kernel
theorem dX7_init_171 : decode cX7_init 171 = .ok (.bipush 60, 2) := by decide +kernel
theorem dX7_init_173 : decode cX7_init 173 = .ok (.if_icmp .ge 22, 3) := by decide +kernel
theorem dX7_init_176 : decode cX7_init 176 = .ok (.aload_n 0, 1) := by decide +kernel
theorem dX7_init_177 : decode cX7_init 177 = .ok (.getfield 37, 3) := by decide +kernel
theorem dX7_init_180 : decode cX7_init 180 = .ok (.iload_n 1, 1) := by decide +kernel
theorem dX7_init_181 : decode cX7_init 181 = .ok (.new 35, 3) := by decide +kernel
theorem dX7_init_184 : decode cX7_init 184 = .ok (.dup, 1) := by decide +kernel
theorem dX7_init_185 : decode cX7_init 185 = .ok (.invokespecial 85, 3) := by decide +kernel
theorem dX7_init_188 : decode cX7_init 188 = .ok (.aastore, 1) := by decide +kernel
theorem dX7_init_189 : decode cX7_init 189 = .ok (.iinc 1 1, 3) := by decide +kernel
theorem dX7_init_192 : decode cX7_init 192 = .ok (.goto (-22), 3) := by decide +kernel
theorem dX7_init_195 : decode cX7_init 195 = .ok (.return_, 1) := by decide +kernel
def mkX0 (s : zS) : zS := zRf (zNn (zRf (mkRules2 (zNn (zRf (mkRules1 (zNn (zRf (mkReader (zNn (zRf (mkCross (zNn (zRf (zNn (zRf (zNn (zI (zI (zI (zRf (zNn (zRf (zNn (zRf (zNn (zRf (mkSight (zNn (zRf (mkLand (zNn s 2)) 64 0 65) 5)) 64 1 68) 6) 64 2 69) 7) 64 4 70) 8) 64 6 71) 64 8 (8 : Int32)) 64 9 (20 : Int32)) 64 10 (1 : Int32)) 9) 64 11 72) 10) 64 12 73) 11)) 64 13 74) 12)) 64 14 75) 16)) 64 15 79) 22)) 64 16 85) 28) 64 17 91
theorem cl_mkX0 {s : zS} (hN : s.2.2.2 = 1) (hC : zcln s) : zcln (mkX0 s) := (zcln_R (zcln_N (zcln_R (cl_mkRules2 rfl (zcln_N (zcln_R (cl_mkRules1 rfl (zcln_N (zcln_R (cl_mkReader rfl (zcln_N (zcln_R (cl_mkCross rfl (zcln_N (zcln_R (zcln_N (zcln_R (zcln_N (zcln_I (zcln_I (zcln_I (zcln_R (zcln_N (zcln_R (zcln_N (zcln_R (zcln_N (zcln_R (cl_mkSight rfl (zcln_N (zcln_R (cl_mkLand rfl (zcln_N hC (by show s.2.2.2 ≤ 2; rw [hN]; decide))) (by show 64 < 64 + 4; decide)) (by show 4 ≤ 5; decide))) (by show 64 < 64 + 5; decide)) (by show 5 ≤ 6; decide)) (by show 64 < 64 + 6; decide)) (by show 6 ≤ 7; decide)) (by show 64 < 64 + 7; decide)) (by show 7 ≤ 8; decide)) (by show 64 < 64 + 8; decide)) (by show 64 < 64 + 8; decide)) (by show 64 < 64 + 8; decide)) (by show 64 < 64 + 8; decide)) (by show 8 ≤ 9; decide)) (by show 64 < 64 + 9; decide)) (by show 9 ≤ 10; decide)) (by show 64 < 64 + 10; decide)) (by show 10 ≤ 11; decide))) (by show 64 < 64 + 11; decide)) (by show 11 ≤ 12; decide))) (by show 64 < 64 + 15; decide)) (by show 15 ≤ 16; decide))) (by show 64 < 64 + 21; decide)) (by show 21 ≤ 22; decide))) (by show 64 < 64 + 27; decide)) (by show 27 ≤ 28; decide)) (by show 64 < 64 + 28; decide))
set_option maxRecDepth 100000 in
set_option maxHeartbeats 8000000 in
theorem c_mkX0 {l : Launch} {g : zG} {d : Nat} {s : zS} (hN : s.2.2.2 = 1) (hC : zcln s) {K : Option Value → zS → Prop} (h : zAt l g (d + 3) 1 100 M_X7_init 143 [.ref 64, .int 0] [] (mkX0 s) K) : zAt l g (d + 3) 1 100 M_X7_init 0 [.ref 64, zJ] [] s K := by
  refine z_aload_n (i := 0) dX7_init_0 rfl rfl rfl ?_
  refine z_objInit oi_X7 w_oi w_oc dX7_init_1 (Nat.le_of_ble_eq_true rfl) rfl ?_
  refine z_aload_n (i := 0) dX7_init_4 rfl rfl rfl ?_
  refine z_new (n := 1) (q := 65) (c := 1) zCl1 cl_X7_9 in_1 ii_1 hN (by decide : 64 + 1 = 65) (by decide) hC (by decide) dX7_init_5 rfl ?_
  refine z_dup dX7_init_8 rfl rfl ?_
  refine z_callI (y0 := 2) (y1 := 4) (as := []) k_X1_init rfl m_X7_11 rfl (c_mkLand rfl (zcln_N hC (by show s.2.2.2 ≤ 2; rw [hN]; decide)) (K := fun s1 => s1 = mkLand (zNn s 2)) rfl) rfl (Nat.le_of_ble_eq_true rfl) dX7_init_9 (fun _ _ => ⟨rfl, by decide, by decide⟩) rfl ?_
  rintro v _ ⟨rfl, rfl⟩
  show zAt l g _ 1 100 M_X7_init 12 [.ref 64, zJ] [.ref 65, .ref 64] _ _
  refine z_putR f_X7_12 ⟨zCl7, by decide, by decide, (fun _ => by show 64 < 64 + 4; decide)⟩ rfl (by decide) (Or.inr ⟨rfl, rfl, rfl, zin 314 (by decide +kernel) (by decide +kernel)⟩) rfl rfl dX7_init_12 rfl ?_
  refine z_aload_n (i := 0) dX7_init_15 rfl rfl rfl ?_
  refine z_new (n := 4) (q := 68) (c := 4) zCl4 cl_X7_16 in_4 ii_4 rfl (by decide : 64 + 4 = 68) (by decide) (zcln_R (cl_mkLand rfl (zcln_N hC (by show s.2.2.2 ≤ 2; rw [hN]; decide))) (by show 64 < 64 + 4; decide)) (by decide) dX7_init_16 rfl ?_
  refine z_dup dX7_init_19 rfl rfl ?_
  refine z_aload_n (i := 0) dX7_init_20 rfl rfl rfl ?_
  refine z_getR (q := 65) f_X7_12 ⟨zCl7, by decide, by decide, (fun _ => by show 64 < 64 + 5; decide)⟩ rfl (by rfl) (by decide) dX7_init_21 rfl ?_
  refine z_callI (y0 := 5) (y1 := 5) (as := [.ref 65]) k_X4_init rfl m_X7_18 rfl (c_mkSight rfl (zcln_N (zcln_R (cl_mkLand rfl (zcln_N hC (by show s.2.2.2 ≤ 2; rw [hN]; decide))) (by show 64 < 64 + 4; decide)) (by show 4 ≤ 5; decide)) (K := fun s1 => s1 = mkSight (zNn (zRf (mkLand (zNn s 2)) 64 0 65) 5)) rfl) rfl (Nat.le_of_ble_eq_true rfl) dX7_init_24 (fun _ _ => ⟨rfl, by decide, by decide⟩) rfl ?_
  rintro v _ ⟨rfl, rfl⟩
  show zAt l g _ 1 100 M_X7_init 27 [.ref 64, zJ] [.ref 68, .ref 64] _ _
  refine z_putR f_X7_21 ⟨zCl7, by decide, by decide, (fun _ => by show 64 < 64 + 5; decide)⟩ rfl (by decide) (Or.inr ⟨rfl, rfl, rfl, zin 315 (by decide +kernel) (by decide +kernel)⟩) rfl rfl dX7_init_27 rfl ?_
  refine z_aload_n (i := 0) dX7_init_30 rfl rfl rfl ?_
  refine z_bipush (v := (20 : Int32)) dX7_init_31 (by decide) rfl ?_
  refine z_newa (atype := .int) (n := 5) (kd := 20) (len := 20) (q := 69) rfl (fun _ _ h9 => h9) w_aI (by decide) (by decide) (by decide) (by decide) (by decide) rfl (by decide) rfl (by decide : 64 + 5 = 69) (zcln_R (cl_mkSight rfl (zcln_N (zcln_R (cl_mkLand rfl (zcln_N hC (by show s.2.2.2 ≤ 2; rw [hN]; decide))) (by show 64 < 64 + 4; decide)) (by show 4 ≤ 5; decide))) (by show 64 < 64 + 5; decide)) (by decide) dX7_init_33 rfl ?_
  refine z_putR f_X7_25 ⟨zCl7, by decide, by decide, (fun _ => by show 64 < 64 + 6; decide)⟩ rfl (by decide) (Or.inr ⟨rfl, rfl, rfl, zin 316 (by decide +kernel) (by decide +kernel)⟩) rfl rfl dX7_init_35 rfl ?_
  refine z_aload_n (i := 0) dX7_init_38 rfl rfl rfl ?_
  refine z_bipush (v := (12 : Int32)) dX7_init_39 (by decide) rfl ?_
  refine z_anew (n := 6) (kd := 23) (len := 12) (q := 70) rfl (fun _ h => h.1) cl_X7_29 (by decide) (by decide) (by decide) (by decide) (by decide) (by decide) rfl (by decide : 64 + 6 = 70) (zcln_R (zcln_N (zcln_R (cl_mkSight rfl (zcln_N (zcln_R (cl_mkLand rfl (zcln_N hC (by show s.2.2.2 ≤ 2; rw [hN]; decide))) (by show 64 < 64 + 4; decide)) (by show 4 ≤ 5; decide))) (by show 64 < 64 + 5; decide)) (by show 5 ≤ 6; decide)) (by show 64 < 64 + 6; decide)) (by decide) dX7_init_41 rfl ?_
  refine z_putR f_X7_31 ⟨zCl7, by decide, by decide, (fun _ => by show 64 < 64 + 7; decide)⟩ rfl (by decide) (Or.inr ⟨rfl, rfl, rfl, zin 318 (by decide +kernel) (by decide +kernel)⟩) rfl rfl dX7_init_44 rfl ?_
  refine z_aload_n (i := 0) dX7_init_47 rfl rfl rfl ?_
  refine z_bipush (v := (60 : Int32)) dX7_init_48 (by decide) rfl ?_
  refine z_anew (n := 7) (kd := 24) (len := 60) (q := 71) rfl (fun _ h => h.2.1) cl_X7_35 (by decide) (by decide) (by decide) (by decide) (by decide) (by decide) rfl (by decide : 64 + 7 = 71) (zcln_R (zcln_N (zcln_R (zcln_N (zcln_R (cl_mkSight rfl (zcln_N (zcln_R (cl_mkLand rfl (zcln_N hC (by show s.2.2.2 ≤ 2; rw [hN]; decide))) (by show 64 < 64 + 4; decide)) (by show 4 ≤ 5; decide))) (by show 64 < 64 + 5; decide)) (by show 5 ≤ 6; decide)) (by show 64 < 64 + 6; decide)) (by show 6 ≤ 7; decide)) (by show 64 < 64 + 7; decide)) (by decide) dX7_init_50 rfl ?_
  refine z_putR f_X7_37 ⟨zCl7, by decide, by decide, (fun _ => by show 64 < 64 + 8; decide)⟩ rfl (by decide) (Or.inr ⟨rfl, rfl, rfl, zin 320 (by decide +kernel) (by decide +kernel)⟩) rfl rfl dX7_init_53 rfl ?_
  refine z_aload_n (i := 0) dX7_init_56 rfl rfl rfl ?_
  refine z_bipush (v := (8 : Int32)) dX7_init_57 (by decide) rfl ?_
  refine z_putI f_X7_41 ⟨zCl7, by decide, by decide, (fun _ => by show 64 < 64 + 8; decide)⟩ rfl (Or.inl rfl) rfl rfl dX7_init_59 rfl ?_
  refine z_aload_n (i := 0) dX7_init_62 rfl rfl rfl ?_
  refine z_bipush (v := (20 : Int32)) dX7_init_63 (by decide) rfl ?_
  refine z_putI f_X7_45 ⟨zCl7, by decide, by decide, (fun _ => by show 64 < 64 + 8; decide)⟩ rfl (Or.inl rfl) rfl rfl dX7_init_65 rfl ?_
  refine z_aload_n (i := 0) dX7_init_68 rfl rfl rfl ?_
  refine z_iconst (v := (1 : Int32)) dX7_init_69 (by decide) rfl ?_
  refine z_putI f_X7_48 ⟨zCl7, by decide, by decide, (fun _ => by show 64 < 64 + 8; decide)⟩ rfl (Or.inl rfl) rfl rfl dX7_init_70 rfl ?_
  refine z_aload_n (i := 0) dX7_init_73 rfl rfl rfl ?_
  refine z_bipush (v := (12 : Int32)) dX7_init_74 (by decide) rfl ?_
  refine z_newa (atype := .int) (n := 8) (kd := 20) (len := 12) (q := 72) rfl (fun _ _ h9 => h9) w_aI (by decide) (by decide) (by decide) (by decide) (by decide) rfl (by decide) rfl (by decide : 64 + 8 = 72) (zcln_I (zcln_I (zcln_I (zcln_R (zcln_N (zcln_R (zcln_N (zcln_R (zcln_N (zcln_R (cl_mkSight rfl (zcln_N (zcln_R (cl_mkLand rfl (zcln_N hC (by show s.2.2.2 ≤ 2; rw [hN]; decide))) (by show 64 < 64 + 4; decide)) (by show 4 ≤ 5; decide))) (by show 64 < 64 + 5; decide)) (by show 5 ≤ 6; decide)) (by show 64 < 64 + 6; decide)) (by show 6 ≤ 7; decide)) (by show 64 < 64 + 7; decide)) (by show 7 ≤ 8; decide)) (by show 64 < 64 + 8; decide)) (by show 64 < 64 + 8; decide)) (by show 64 < 64 + 8; decide)) (by show 64 < 64 + 8; decide)) (by decide) dX7_init_76 rfl ?_
  refine z_putR f_X7_51 ⟨zCl7, by decide, by decide, (fun _ => by show 64 < 64 + 9; decide)⟩ rfl (by decide) (Or.inr ⟨rfl, rfl, rfl, zin 325 (by decide +kernel) (by decide +kernel)⟩) rfl rfl dX7_init_78 rfl ?_
  refine z_aload_n (i := 0) dX7_init_81 rfl rfl rfl ?_
  refine z_bipush (v := (60 : Int32)) dX7_init_82 (by decide) rfl ?_
  refine z_newa (atype := .int) (n := 9) (kd := 20) (len := 60) (q := 73) rfl (fun _ _ h9 => h9) w_aI (by decide) (by decide) (by decide) (by decide) (by decide) rfl (by decide) rfl (by decide : 64 + 9 = 73) (zcln_R (zcln_N (zcln_I (zcln_I (zcln_I (zcln_R (zcln_N (zcln_R (zcln_N (zcln_R (zcln_N (zcln_R (cl_mkSight rfl (zcln_N (zcln_R (cl_mkLand rfl (zcln_N hC (by show s.2.2.2 ≤ 2; rw [hN]; decide))) (by show 64 < 64 + 4; decide)) (by show 4 ≤ 5; decide))) (by show 64 < 64 + 5; decide)) (by show 5 ≤ 6; decide)) (by show 64 < 64 + 6; decide)) (by show 6 ≤ 7; decide)) (by show 64 < 64 + 7; decide)) (by show 7 ≤ 8; decide)) (by show 64 < 64 + 8; decide)) (by show 64 < 64 + 8; decide)) (by show 64 < 64 + 8; decide)) (by show 64 < 64 + 8; decide)) (by show 8 ≤ 9; decide)) (by show 64 < 64 + 9; decide)) (by decide) dX7_init_84 rfl ?_
  refine z_putR f_X7_54 ⟨zCl7, by decide, by decide, (fun _ => by show 64 < 64 + 10; decide)⟩ rfl (by decide) (Or.inr ⟨rfl, rfl, rfl, zin 326 (by decide +kernel) (by decide +kernel)⟩) rfl rfl dX7_init_86 rfl ?_
  refine z_aload_n (i := 0) dX7_init_89 rfl rfl rfl ?_
  refine z_new (n := 10) (q := 74) (c := 0) zCl0 cl_X7_57 in_0 ii_0 rfl (by decide : 64 + 10 = 74) (by decide) (zcln_R (zcln_N (zcln_R (zcln_N (zcln_I (zcln_I (zcln_I (zcln_R (zcln_N (zcln_R (zcln_N (zcln_R (zcln_N (zcln_R (cl_mkSight rfl (zcln_N (zcln_R (cl_mkLand rfl (zcln_N hC (by show s.2.2.2 ≤ 2; rw [hN]; decide))) (by show 64 < 64 + 4; decide)) (by show 4 ≤ 5; decide))) (by show 64 < 64 + 5; decide)) (by show 5 ≤ 6; decide)) (by show 64 < 64 + 6; decide)) (by show 6 ≤ 7; decide)) (by show 64 < 64 + 7; decide)) (by show 7 ≤ 8; decide)) (by show 64 < 64 + 8; decide)) (by show 64 < 64 + 8; decide)) (by show 64 < 64 + 8; decide)) (by show 64 < 64 + 8; decide)) (by show 8 ≤ 9; decide)) (by show 64 < 64 + 9; decide)) (by show 9 ≤ 10; decide)) (by show 64 < 64 + 10; decide)) (by decide) dX7_init_90 rfl ?_
  refine z_dup dX7_init_93 rfl rfl ?_
  refine z_callIN (y0 := 11) (y1 := 11) (as := []) k_X0_init rfl m_X7_59 rfl (c_mkCross rfl (zcln_N (zcln_R (zcln_N (zcln_R (zcln_N (zcln_I (zcln_I (zcln_I (zcln_R (zcln_N (zcln_R (zcln_N (zcln_R (zcln_N (zcln_R (cl_mkSight rfl (zcln_N (zcln_R (cl_mkLand rfl (zcln_N hC (by show s.2.2.2 ≤ 2; rw [hN]; decide))) (by show 64 < 64 + 4; decide)) (by show 4 ≤ 5; decide))) (by show 64 < 64 + 5; decide)) (by show 5 ≤ 6; decide)) (by show 64 < 64 + 6; decide)) (by show 6 ≤ 7; decide)) (by show 64 < 64 + 7; decide)) (by show 7 ≤ 8; decide)) (by show 64 < 64 + 8; decide)) (by show 64 < 64 + 8; decide)) (by show 64 < 64 + 8; decide)) (by show 64 < 64 + 8; decide)) (by show 8 ≤ 9; decide)) (by show 64 < 64 + 9; decide)) (by show 9 ≤ 10; decide)) (by show 64 < 64 + 10; decide)) (by show 10 ≤ 11; decide)) (K := fun s1 => s1 = mkCross (zNn (zRf (zNn (zRf (zNn (zI (zI (zI (zRf (zNn (zRf (zNn (zRf (zNn (zRf (mkSight (zNn (zRf (mkLand (zNn s 2)) 64 0 65) 5)) 64 1 68) 6) 64 2 69) 7) 64 4 70) 8) 64 6 71) 64 8 (8 : Int32)) 64 9 (20 : Int32)) 64 10 (1 : Int32)) 9) 64 11 72) 10) 64 12 73) 11)) rfl) rfl (Nat.le_of_ble_eq_true rfl) dX7_init_94 (fun _ _ => ⟨rfl, by decide, by decide⟩) rfl ?_
  rintro v _ ⟨rfl, rfl⟩
  show zAt l g _ 1 100 M_X7_init 97 [.ref 64, zJ] [.ref 74, .ref 64] _ _
  refine z_putR f_X7_60 ⟨zCl7, by decide, by decide, (fun _ => by show 64 < 64 + 11; decide)⟩ rfl (by decide) (Or.inr ⟨rfl, rfl, rfl, zin 327 (by decide +kernel) (by decide +kernel)⟩) rfl rfl dX7_init_97 rfl ?_
  refine z_aload_n (i := 0) dX7_init_100 rfl rfl rfl ?_
  refine z_new (n := 11) (q := 75) (c := 2) zCl2 cl_X7_64 in_2 ii_2 rfl (by decide : 64 + 11 = 75) (by decide) (zcln_R (cl_mkCross rfl (zcln_N (zcln_R (zcln_N (zcln_R (zcln_N (zcln_I (zcln_I (zcln_I (zcln_R (zcln_N (zcln_R (zcln_N (zcln_R (zcln_N (zcln_R (cl_mkSight rfl (zcln_N (zcln_R (cl_mkLand rfl (zcln_N hC (by show s.2.2.2 ≤ 2; rw [hN]; decide))) (by show 64 < 64 + 4; decide)) (by show 4 ≤ 5; decide))) (by show 64 < 64 + 5; decide)) (by show 5 ≤ 6; decide)) (by show 64 < 64 + 6; decide)) (by show 6 ≤ 7; decide)) (by show 64 < 64 + 7; decide)) (by show 7 ≤ 8; decide)) (by show 64 < 64 + 8; decide)) (by show 64 < 64 + 8; decide)) (by show 64 < 64 + 8; decide)) (by show 64 < 64 + 8; decide)) (by show 8 ≤ 9; decide)) (by show 64 < 64 + 9; decide)) (by show 9 ≤ 10; decide)) (by show 64 < 64 + 10; decide)) (by show 10 ≤ 11; decide))) (by show 64 < 64 + 11; decide)) (by decide) dX7_init_101 rfl ?_
  refine z_dup dX7_init_104 rfl rfl ?_
  refine z_callIN (y0 := 12) (y1 := 15) (as := []) k_X2_init rfl m_X7_66 rfl (c_mkReader rfl (zcln_N (zcln_R (cl_mkCross rfl (zcln_N (zcln_R (zcln_N (zcln_R (zcln_N (zcln_I (zcln_I (zcln_I (zcln_R (zcln_N (zcln_R (zcln_N (zcln_R (zcln_N (zcln_R (cl_mkSight rfl (zcln_N (zcln_R (cl_mkLand rfl (zcln_N hC (by show s.2.2.2 ≤ 2; rw [hN]; decide))) (by show 64 < 64 + 4; decide)) (by show 4 ≤ 5; decide))) (by show 64 < 64 + 5; decide)) (by show 5 ≤ 6; decide)) (by show 64 < 64 + 6; decide)) (by show 6 ≤ 7; decide)) (by show 64 < 64 + 7; decide)) (by show 7 ≤ 8; decide)) (by show 64 < 64 + 8; decide)) (by show 64 < 64 + 8; decide)) (by show 64 < 64 + 8; decide)) (by show 64 < 64 + 8; decide)) (by show 8 ≤ 9; decide)) (by show 64 < 64 + 9; decide)) (by show 9 ≤ 10; decide)) (by show 64 < 64 + 10; decide)) (by show 10 ≤ 11; decide))) (by show 64 < 64 + 11; decide)) (by show 11 ≤ 12; decide)) (K := fun s1 => s1 = mkReader (zNn (zRf (mkCross (zNn (zRf (zNn (zRf (zNn (zI (zI (zI (zRf (zNn (zRf (zNn (zRf (zNn (zRf (mkSight (zNn (zRf (mkLand (zNn s 2)) 64 0 65) 5)) 64 1 68) 6) 64 2 69) 7) 64 4 70) 8) 64 6 71) 64 8 (8 : Int32)) 64 9 (20 : Int32)) 64 10 (1 : Int32)) 9) 64 11 72) 10) 64 12 73) 11)) 64 13 74) 12)) rfl) rfl (Nat.le_of_ble_eq_true rfl) dX7_init_105 (fun _ _ => ⟨rfl, by decide, by decide⟩) rfl ?_
  rintro v _ ⟨rfl, rfl⟩
  show zAt l g _ 1 100 M_X7_init 108 [.ref 64, zJ] [.ref 75, .ref 64] _ _
  refine z_putR f_X7_67 ⟨zCl7, by decide, by decide, (fun _ => by show 64 < 64 + 15; decide)⟩ rfl (by decide) (Or.inr ⟨rfl, rfl, rfl, zin 328 (by decide +kernel) (by decide +kernel)⟩) rfl rfl dX7_init_108 rfl ?_
  refine z_aload_n (i := 0) dX7_init_111 rfl rfl rfl ?_
  refine z_new (n := 15) (q := 79) (c := 3) zCl3 cl_X7_71 in_3 ii_3 rfl (by decide : 64 + 15 = 79) (by decide) (zcln_R (cl_mkReader rfl (zcln_N (zcln_R (cl_mkCross rfl (zcln_N (zcln_R (zcln_N (zcln_R (zcln_N (zcln_I (zcln_I (zcln_I (zcln_R (zcln_N (zcln_R (zcln_N (zcln_R (zcln_N (zcln_R (cl_mkSight rfl (zcln_N (zcln_R (cl_mkLand rfl (zcln_N hC (by show s.2.2.2 ≤ 2; rw [hN]; decide))) (by show 64 < 64 + 4; decide)) (by show 4 ≤ 5; decide))) (by show 64 < 64 + 5; decide)) (by show 5 ≤ 6; decide)) (by show 64 < 64 + 6; decide)) (by show 6 ≤ 7; decide)) (by show 64 < 64 + 7; decide)) (by show 7 ≤ 8; decide)) (by show 64 < 64 + 8; decide)) (by show 64 < 64 + 8; decide)) (by show 64 < 64 + 8; decide)) (by show 64 < 64 + 8; decide)) (by show 8 ≤ 9; decide)) (by show 64 < 64 + 9; decide)) (by show 9 ≤ 10; decide)) (by show 64 < 64 + 10; decide)) (by show 10 ≤ 11; decide))) (by show 64 < 64 + 11; decide)) (by show 11 ≤ 12; decide))) (by show 64 < 64 + 15; decide)) (by decide) dX7_init_112 rfl ?_
  refine z_dup dX7_init_115 rfl rfl ?_
  refine z_callIN (y0 := 16) (y1 := 21) (as := []) k_X3_init rfl m_X7_73 rfl (c_mkRules1 rfl (zcln_N (zcln_R (cl_mkReader rfl (zcln_N (zcln_R (cl_mkCross rfl (zcln_N (zcln_R (zcln_N (zcln_R (zcln_N (zcln_I (zcln_I (zcln_I (zcln_R (zcln_N (zcln_R (zcln_N (zcln_R (zcln_N (zcln_R (cl_mkSight rfl (zcln_N (zcln_R (cl_mkLand rfl (zcln_N hC (by show s.2.2.2 ≤ 2; rw [hN]; decide))) (by show 64 < 64 + 4; decide)) (by show 4 ≤ 5; decide))) (by show 64 < 64 + 5; decide)) (by show 5 ≤ 6; decide)) (by show 64 < 64 + 6; decide)) (by show 6 ≤ 7; decide)) (by show 64 < 64 + 7; decide)) (by show 7 ≤ 8; decide)) (by show 64 < 64 + 8; decide)) (by show 64 < 64 + 8; decide)) (by show 64 < 64 + 8; decide)) (by show 64 < 64 + 8; decide)) (by show 8 ≤ 9; decide)) (by show 64 < 64 + 9; decide)) (by show 9 ≤ 10; decide)) (by show 64 < 64 + 10; decide)) (by show 10 ≤ 11; decide))) (by show 64 < 64 + 11; decide)) (by show 11 ≤ 12; decide))) (by show 64 < 64 + 15; decide)) (by show 15 ≤ 16; decide)) (K := fun s1 => s1 = mkRules1 (zNn (zRf (mkReader (zNn (zRf (mkCross (zNn (zRf (zNn (zRf (zNn (zI (zI (zI (zRf (zNn (zRf (zNn (zRf (zNn (zRf (mkSight (zNn (zRf (mkLand (zNn s 2)) 64 0 65) 5)) 64 1 68) 6) 64 2 69) 7) 64 4 70) 8) 64 6 71) 64 8 (8 : Int32)) 64 9 (20 : Int32)) 64 10 (1 : Int32)) 9) 64 11 72) 10) 64 12 73) 11)) 64 13 74) 12)) 64 14 75) 16)) rfl) rfl (Nat.le_of_ble_eq_true rfl) dX7_init_116 (fun _ _ => ⟨rfl, by decide, by decide⟩) rfl ?_
  rintro v _ ⟨rfl, rfl⟩
  show zAt l g _ 1 100 M_X7_init 119 [.ref 64, zJ] [.ref 79, .ref 64] _ _
  refine z_putR f_X7_74 ⟨zCl7, by decide, by decide, (fun _ => by show 64 < 64 + 21; decide)⟩ rfl (by decide) (Or.inl rfl) rfl rfl dX7_init_119 rfl ?_
  refine z_aload_n (i := 0) dX7_init_122 rfl rfl rfl ?_
  refine z_new (n := 21) (q := 85) (c := 3) zCl3 cl_X7_71 in_3 ii_3 rfl (by decide : 64 + 21 = 85) (by decide) (zcln_R (cl_mkRules1 rfl (zcln_N (zcln_R (cl_mkReader rfl (zcln_N (zcln_R (cl_mkCross rfl (zcln_N (zcln_R (zcln_N (zcln_R (zcln_N (zcln_I (zcln_I (zcln_I (zcln_R (zcln_N (zcln_R (zcln_N (zcln_R (zcln_N (zcln_R (cl_mkSight rfl (zcln_N (zcln_R (cl_mkLand rfl (zcln_N hC (by show s.2.2.2 ≤ 2; rw [hN]; decide))) (by show 64 < 64 + 4; decide)) (by show 4 ≤ 5; decide))) (by show 64 < 64 + 5; decide)) (by show 5 ≤ 6; decide)) (by show 64 < 64 + 6; decide)) (by show 6 ≤ 7; decide)) (by show 64 < 64 + 7; decide)) (by show 7 ≤ 8; decide)) (by show 64 < 64 + 8; decide)) (by show 64 < 64 + 8; decide)) (by show 64 < 64 + 8; decide)) (by show 64 < 64 + 8; decide)) (by show 8 ≤ 9; decide)) (by show 64 < 64 + 9; decide)) (by show 9 ≤ 10; decide)) (by show 64 < 64 + 10; decide)) (by show 10 ≤ 11; decide))) (by show 64 < 64 + 11; decide)) (by show 11 ≤ 12; decide))) (by show 64 < 64 + 15; decide)) (by show 15 ≤ 16; decide))) (by show 64 < 64 + 21; decide)) (by decide) dX7_init_123 rfl ?_
  refine z_dup dX7_init_126 rfl rfl ?_
  refine z_callIN (y0 := 22) (y1 := 27) (as := []) k_X3_init rfl m_X7_73 rfl (c_mkRules2 rfl (zcln_N (zcln_R (cl_mkRules1 rfl (zcln_N (zcln_R (cl_mkReader rfl (zcln_N (zcln_R (cl_mkCross rfl (zcln_N (zcln_R (zcln_N (zcln_R (zcln_N (zcln_I (zcln_I (zcln_I (zcln_R (zcln_N (zcln_R (zcln_N (zcln_R (zcln_N (zcln_R (cl_mkSight rfl (zcln_N (zcln_R (cl_mkLand rfl (zcln_N hC (by show s.2.2.2 ≤ 2; rw [hN]; decide))) (by show 64 < 64 + 4; decide)) (by show 4 ≤ 5; decide))) (by show 64 < 64 + 5; decide)) (by show 5 ≤ 6; decide)) (by show 64 < 64 + 6; decide)) (by show 6 ≤ 7; decide)) (by show 64 < 64 + 7; decide)) (by show 7 ≤ 8; decide)) (by show 64 < 64 + 8; decide)) (by show 64 < 64 + 8; decide)) (by show 64 < 64 + 8; decide)) (by show 64 < 64 + 8; decide)) (by show 8 ≤ 9; decide)) (by show 64 < 64 + 9; decide)) (by show 9 ≤ 10; decide)) (by show 64 < 64 + 10; decide)) (by show 10 ≤ 11; decide))) (by show 64 < 64 + 11; decide)) (by show 11 ≤ 12; decide))) (by show 64 < 64 + 15; decide)) (by show 15 ≤ 16; decide))) (by show 64 < 64 + 21; decide)) (by show 21 ≤ 22; decide)) (K := fun s1 => s1 = mkRules2 (zNn (zRf (mkRules1 (zNn (zRf (mkReader (zNn (zRf (mkCross (zNn (zRf (zNn (zRf (zNn (zI (zI (zI (zRf (zNn (zRf (zNn (zRf (zNn (zRf (mkSight (zNn (zRf (mkLand (zNn s 2)) 64 0 65) 5)) 64 1 68) 6) 64 2 69) 7) 64 4 70) 8) 64 6 71) 64 8 (8 : Int32)) 64 9 (20 : Int32)) 64 10 (1 : Int32)) 9) 64 11 72) 10) 64 12 73) 11)) 64 13 74) 12)) 64 14 75) 16)) 64 15 79) 22)) rfl) rfl (Nat.le_of_ble_eq_true rfl) dX7_init_127 (fun _ _ => ⟨rfl, by decide, by decide⟩) rfl ?_
  rintro v _ ⟨rfl, rfl⟩
  show zAt l g _ 1 100 M_X7_init 130 [.ref 64, zJ] [.ref 85, .ref 64] _ _
  refine z_putR f_X7_78 ⟨zCl7, by decide, by decide, (fun _ => by show 64 < 64 + 27; decide)⟩ rfl (by decide) (Or.inl rfl) rfl rfl dX7_init_130 rfl ?_
  refine z_aload_n (i := 0) dX7_init_133 rfl rfl rfl ?_
  refine z_bipush (v := (7 : Int32)) dX7_init_134 (by decide) rfl ?_
  refine z_newa (atype := .int) (n := 27) (kd := 20) (len := 7) (q := 91) rfl (fun _ _ h9 => h9) w_aI (by decide) (by decide) (by decide) (by decide) (by decide) rfl (by decide) rfl (by decide : 64 + 27 = 91) (zcln_R (cl_mkRules2 rfl (zcln_N (zcln_R (cl_mkRules1 rfl (zcln_N (zcln_R (cl_mkReader rfl (zcln_N (zcln_R (cl_mkCross rfl (zcln_N (zcln_R (zcln_N (zcln_R (zcln_N (zcln_I (zcln_I (zcln_I (zcln_R (zcln_N (zcln_R (zcln_N (zcln_R (zcln_N (zcln_R (cl_mkSight rfl (zcln_N (zcln_R (cl_mkLand rfl (zcln_N hC (by show s.2.2.2 ≤ 2; rw [hN]; decide))) (by show 64 < 64 + 4; decide)) (by show 4 ≤ 5; decide))) (by show 64 < 64 + 5; decide)) (by show 5 ≤ 6; decide)) (by show 64 < 64 + 6; decide)) (by show 6 ≤ 7; decide)) (by show 64 < 64 + 7; decide)) (by show 7 ≤ 8; decide)) (by show 64 < 64 + 8; decide)) (by show 64 < 64 + 8; decide)) (by show 64 < 64 + 8; decide)) (by show 64 < 64 + 8; decide)) (by show 8 ≤ 9; decide)) (by show 64 < 64 + 9; decide)) (by show 9 ≤ 10; decide)) (by show 64 < 64 + 10; decide)) (by show 10 ≤ 11; decide))) (by show 64 < 64 + 11; decide)) (by show 11 ≤ 12; decide))) (by show 64 < 64 + 15; decide)) (by show 15 ≤ 16; decide))) (by show 64 < 64 + 21; decide)) (by show 21 ≤ 22; decide))) (by show 64 < 64 + 27; decide)) (by decide) dX7_init_136 rfl ?_
  refine z_putR f_X7_81 ⟨zCl7, by decide, by decide, (fun _ => by show 64 < 64 + 28; decide)⟩ rfl (by decide) (Or.inr ⟨rfl, rfl, rfl, zin 331 (by decide +kernel) (by decide +kernel)⟩) rfl rfl dX7_init_138 rfl ?_
  refine z_iconst (v := (0 : Int32)) dX7_init_141 (by decide) rfl ?_
  refine z_istore_n (i := 1) dX7_init_142 rfl (by decide) (zokd rfl) rfl ?_
  exact h
def thL : Nat → zS → zS
  | 0, s => s
  | i + 1, s => zRf (mkThing (92 + i) (zNn (thL i s) (28 + i + 1))) 70 i (92 + i)
def teL : Nat → zS → zS
  | 0, s => s
  | i + 1, s => zRf (zNn (teL i s) (40 + i + 1)) 71 i (104 + i)
theorem thL_N {s : zS} (h : s.2.2.2 = 28) : ∀ i, (thL i s).2.2.2 = 28 + i
  | 0 => h
  | i + 1 => rfl
theorem teL_N {s : zS} (h : s.2.2.2 = 40) : ∀ i, (teL i s).2.2.2 = 40 + i
  | 0 => h
  | i + 1 => rfl
theorem thL_c {s : zS} (hN : s.2.2.2 = 28) (h : zcln s) : ∀ i, zcln (thL i s)
  | 0 => h
  | i + 1 => zcln_R (zcln_I (zcln_I (zcln_N (thL_c hN h i) (by rw [thL_N hN]; omega)) (by show 92 + i < 64 + (28 + i + 1); omega)) (by show 92 + i < 64 + (28 + i + 1); omega)) (by show 70 < 64 + (28 + i + 1); omega)
theorem teL_c {s : zS} (hN : s.2.2.2 = 40) (h : zcln s) : ∀ i, zcln (teL i s)
  | 0 => h
  | i + 1 => zcln_R (zcln_N (teL_c hN h i) (by rw [teL_N hN]; omega)) (by show 71 < 64 + (40 + i + 1); omega)
theorem thL_R {s : zS} {k q : Nat} (h : s.2.2.1 64 k = q) : ∀ i, (thL i s).2.2.1 64 k = q
  | 0 => h
  | i + 1 => by
    show (if 64 = 70 ∧ k = i then 92 + i else (thL i s).2.2.1 64 k) = q
    rw [if_neg (by omega)]
    exact thL_R h i
theorem teL_R {s : zS} {k q : Nat} (h : s.2.2.1 64 k = q) : ∀ i, (teL i s).2.2.1 64 k = q
  | 0 => h
  | i + 1 => by
    show (if 64 = 71 ∧ k = i then 104 + i else (teL i s).2.2.1 64 k) = q
    rw [if_neg (by omega)]
    exact teL_R h i
set_option maxRecDepth 100000 in
theorem c_loop1 {l : Launch} {g : zG} {d : Nat} {s : zS} (hN : s.2.2.2 = 28) (hC : zcln s) (hT : s.2.2.1 64 4 = 70) {K : Option Value → zS → Prop} (h : zAt l g (d + 3) 1 100 M_X7_init 168 [.ref 64, .int (nI 12)] [] (thL 12 s) K) : ∀ n i : Nat, i + n = 12 → zAt l g (d + 3) 1 100 M_X7_init 143 [.ref 64, .int (nI i)] [] (thL i s) K := by
  intro n
  induction n with
  | zero =>
    intro i hi
    refine z_iload_n (i := 1) dX7_init_143 rfl rfl rfl ?_
    refine z_bipush (v := nI 12) dX7_init_144 (by decide) rfl ?_
    refine z_icmp_ge (pt := 168) dX7_init_146 (by decide) rfl (fun _ => ?_) (fun c => absurd (nI_le (by omega) (by omega)) c)
    rw [show i = 12 by omega]
    exact h
  | succ n ih =>
    intro i hi
    have hN9 := thL_N hN i
    refine z_iload_n (i := 1) dX7_init_143 rfl rfl rfl ?_
    refine z_bipush (v := nI 12) dX7_init_144 (by decide) rfl ?_
    refine z_icmp_ge (pt := 168) dX7_init_146 (by decide) rfl (fun c => absurd c (nI_ge (by omega) (by omega))) (fun _ => ?_)
    refine z_aload_n (i := 0) dX7_init_149 rfl rfl rfl ?_
    refine z_getR (q := 70) f_X7_31 ⟨zCl7, by decide, by decide, fun _ => by rw [hN9]; omega⟩ rfl (thL_R hT i) (by decide) dX7_init_150 rfl ?_
    refine z_iload_n (i := 1) dX7_init_153 rfl rfl rfl ?_
    refine z_new (n := 28 + i) (q := 92 + i) (c := 6) zCl6 cl_X7_29 in_6 ii_6 hN9 (by omega) (zk_Th _ (by omega) (by omega) (by omega)) (thL_c hN hC i) (by omega) dX7_init_154 rfl ?_
    refine z_dup dX7_init_157 rfl rfl ?_
    refine z_callIN (y0 := 28 + i + 1) (y1 := 28 + i + 1) (as := []) k_X6_init rfl m_X7_84 rfl (c_Thing (n := 28 + i + 1) rfl ⟨zk_Th _ (by omega) (by omega) (by omega), by omega, by omega⟩ (K := fun s1 => s1 = mkThing (92 + i) (zNn (thL i s) (28 + i + 1))) rfl) rfl (Nat.le_of_ble_eq_true rfl) dX7_init_158 (fun _ _ => ⟨rfl, by omega, by omega⟩) rfl ?_
    rintro v _ ⟨rfl, rfl⟩
    show zAt l g (d + 3) 1 100 M_X7_init 161 [.ref 64, .int (nI i)] [.ref (92 + i), .int (nI i), .ref 70] _ _
    refine z_aast (kd := 23) (n := 12) (c := 6) rfl (by decide) ⟨by decide, by decide, by decide, fun _ => by show 70 < 64 + (28 + i + 1); omega⟩ (vp_in_nI (by omega) (by omega)) (by omega) ⟨zCl6, zk_Th _ (by omega) (by omega) (by omega), by omega, fun _ => by show 92 + i < 64 + (28 + i + 1); omega⟩ dX7_init_161 rfl ?_
    refine z_iinc (v := nI (i + 1)) dX7_init_162 rfl (nI_succ i).symm (by decide) (zokd rfl) rfl ?_
    refine z_goto (pn := 143) dX7_init_165 (by decide) ?_
    rw [nI_clamp (by omega)]
    exact ih (i + 1) (by omega)
set_option maxRecDepth 100000 in
theorem c_loop2 {l : Launch} {g : zG} {d : Nat} {s : zS} (hN : s.2.2.2 = 40) (hC : zcln s) (hT : s.2.2.1 64 6 = 71) {K : zS → Prop} (h : K (teL 60 s)) : ∀ n i : Nat, i + n = 60 → zAt l g (d + 3) 1 100 M_X7_init 170 [.ref 64, .int (nI i)] [] (teL i s) (zKv K) := by
  intro n
  induction n with
  | zero =>
    intro i hi
    refine z_iload_n (i := 1) dX7_init_170 rfl rfl rfl ?_
    refine z_bipush (v := nI 60) dX7_init_171 (by decide) rfl ?_
    refine z_icmp_ge (pt := 195) dX7_init_173 (by decide) rfl (fun _ => ?_) (fun c => absurd (nI_le (by omega) (by omega)) c)
    have hi : i = 60 := by omega
    subst hi
    exact z_ret none (Or.inl ⟨rfl, rfl, dX7_init_195⟩) (fun _ _ => by rw [teL_N hN]) ⟨rfl, h⟩
  | succ n ih =>
    intro i hi
    have hN9 := teL_N hN i
    refine z_iload_n (i := 1) dX7_init_170 rfl rfl rfl ?_
    refine z_bipush (v := nI 60) dX7_init_171 (by decide) rfl ?_
    refine z_icmp_ge (pt := 195) dX7_init_173 (by decide) rfl (fun c => absurd c (nI_ge (by omega) (by omega))) (fun _ => ?_)
    refine z_aload_n (i := 0) dX7_init_176 rfl rfl rfl ?_
    refine z_getR (q := 71) f_X7_37 ⟨zCl7, by decide, by decide, fun _ => by rw [hN9]; omega⟩ rfl (teL_R hT i) (by decide) dX7_init_177 rfl ?_
    refine z_iload_n (i := 1) dX7_init_180 rfl rfl rfl ?_
    refine z_new (n := 40 + i) (q := 104 + i) (c := 5) zCl5 cl_X7_35 in_5 ii_5 hN9 (by omega) (zk_Te _ (by omega) (by omega) (by omega)) (teL_c hN hC i) (by omega) dX7_init_181 rfl ?_
    refine z_dup dX7_init_184 rfl rfl ?_
    refine z_callIN (y0 := 40 + i + 1) (y1 := 40 + i + 1) (as := []) k_X5_init rfl m_X7_85 rfl (c_Telling (n := 40 + i + 1) rfl (K := fun s1 => s1 = zNn (teL i s) (40 + i + 1)) rfl) rfl (Nat.le_of_ble_eq_true rfl) dX7_init_185 (fun _ _ => ⟨rfl, by omega, by omega⟩) rfl ?_
    rintro v _ ⟨rfl, rfl⟩
    show zAt l g (d + 3) 1 100 M_X7_init 188 [.ref 64, .int (nI i)] [.ref (104 + i), .int (nI i), .ref 71] _ _
    refine z_aast (kd := 24) (n := 60) (c := 5) rfl (by decide) ⟨by decide, by decide, by decide, fun _ => by show 71 < 64 + (40 + i + 1); omega⟩ (vp_in_nI (by omega) (by omega)) (by omega) ⟨zCl5, zk_Te _ (by omega) (by omega) (by omega), by omega, fun _ => by show 104 + i < 64 + (40 + i + 1); omega⟩ dX7_init_188 rfl ?_
    refine z_iinc (v := nI (i + 1)) dX7_init_189 rfl (nI_succ i).symm (by decide) (zokd rfl) rfl ?_
    refine z_goto (pn := 170) dX7_init_192 (by decide) ?_
    rw [nI_clamp (by omega)]
    exact ih (i + 1) (by omega)
def mkX (s : zS) : zS := teL 60 (thL 12 (mkX0 s))
theorem cl_mkX {s : zS} (hN : s.2.2.2 = 1) (hC : zcln s) : zcln (mkX s) := teL_c (thL_N rfl 12) (thL_c rfl (cl_mkX0 hN hC) 12) 60
set_option maxRecDepth 100000 in
theorem c_mkX {l : Launch} {g : zG} {d : Nat} {s : zS} (hN : s.2.2.2 = 1) (hC : zcln s) {K : zS → Prop} (h : K (mkX s)) : zCall l g (d + 3) 1 100 M_X7_init [.ref 64] s (zKv K) := by
  refine zCall_of k_X7_init (Nat.le_of_ble_eq_true rfl) (by decide) (fun _ => ?_)
  show zAt l g (d + 3) 1 100 M_X7_init 0 [.ref 64, zJ] [] s (zKv K)
  refine c_mkX0 hN hC ?_
  refine c_loop1 (s := mkX0 s) rfl (cl_mkX0 hN hC) rfl ?_ 12 0 (by omega)
  refine z_iconst (v := 0) dX7_init_168 (by decide) rfl ?_
  refine z_istore_n (i := 1) dX7_init_169 rfl (by decide) (zokd rfl) rfl ?_
  exact c_loop2 (thL_N rfl 12) (thL_c rfl (cl_mkX0 hN hC) 12) (thL_R rfl 12) h 60 0 (by omega)
theorem dX8_init_0 : decode cX8_init 0 = .ok (.aload_n 0, 1) := by decide +kernel
theorem dX8_init_1 : decode cX8_init 1 = .ok (.invokespecial 1, 3) := by decide +kernel
theorem dX8_init_4 : decode cX8_init 4 = .ok (.aload_n 0, 1) := by decide +kernel
theorem dX8_init_5 : decode cX8_init 5 = .ok (.bipush 8, 2) := by decide +kernel
theorem dX8_init_7 : decode cX8_init 7 = .ok (.newarray .int, 2) := by decide +kernel
theorem dX8_init_9 : decode cX8_init 9 = .ok (.putfield 9, 3) := by decide +kernel
theorem dX8_init_12 : decode cX8_init 12 = .ok (.aload_n 0, 1) := by decide +kernel
theorem dX8_init_13 : decode cX8_init 13 = .ok (.bipush 8, 2) := by decide +kernel
theorem dX8_init_15 : decode cX8_init 15 = .ok (.newarray .int, 2) := by decide +kernel
theorem dX8_init_17 : decode cX8_init 17 = .ok (.putfield 13, 3) := by decide +kernel
theorem dX8_init_20 : decode cX8_init 20 = .ok (.aload_n 0, 1) := by decide +kernel
theorem dX8_init_21 : decode cX8_init 21 = .ok (.bipush 8, 2) := by decide +kernel
theorem dX8_init_23 : decode cX8_init 23 = .ok (.newarray .int, 2) := by decide +kernel
theorem dX8_init_25 : decode cX8_init 25 = .ok (.putfield 16, 3) := by decide +kernel
theorem dX8_init_28 : decode cX8_init 28 = .ok (.aload_n 0, 1) := by decide +kernel
theorem dX8_init_29 : decode cX8_init 29 = .ok (.bipush 8, 2) := by decide +kernel
theorem dX8_init_31 : decode cX8_init 31 = .ok (.newarray .int, 2) := by decide +kernel
theorem dX8_init_33 : decode cX8_init 33 = .ok (.putfield 19, 3) := by decide +kernel
theorem dX8_init_36 : decode cX8_init 36 = .ok (.aload_n 0, 1) := by decide +kernel
theorem dX8_init_37 : decode cX8_init 37 = .ok (.bipush 8, 2) := by decide +kernel
theorem dX8_init_39 : decode cX8_init 39 = .ok (.newarray .int, 2) := by decide +kernel
theorem dX8_init_41 : decode cX8_init 41 = .ok (.putfield 22, 3) := by decide +kernel
theorem dX8_init_44 : decode cX8_init 44 = .ok (.aload_n 0, 1) := by decide +kernel
theorem dX8_init_45 : decode cX8_init 45 = .ok (.bipush 20, 2) := by decide +kernel
theorem dX8_init_47 : decode cX8_init 47 = .ok (.newarray .int, 2) := by decide +kernel
theorem dX8_init_49 : decode cX8_init 49 = .ok (.putfield 25, 3) := by decide +kernel
theorem dX8_init_52 : decode cX8_init 52 = .ok (.aload_n 0, 1) := by decide +kernel
theorem dX8_init_53 : decode cX8_init 53 = .ok (.bipush 20, 2) := by decide +kernel
theorem dX8_init_55 : decode cX8_init 55 = .ok (.newarray .int, 2) := by decide +kernel
theorem dX8_init_57 : decode cX8_init 57 = .ok (.putfield 28, 3) := by decide +kernel
theorem dX8_init_60 : decode cX8_init 60 = .ok (.aload_n 0, 1) := by decide +kernel
theorem dX8_init_61 : decode cX8_init 61 = .ok (.bipush 12, 2) := by decide +kernel
theorem dX8_init_63 : decode cX8_init 63 = .ok (.newarray .int, 2) := by decide +kernel
theorem dX8_init_65 : decode cX8_init 65 = .ok (.putfield 31, 3) := by decide +kernel
theorem dX8_init_68 : decode cX8_init 68 = .ok (.aload_n 0, 1) := by decide +kernel
theorem dX8_init_69 : decode cX8_init 69 = .ok (.bipush 12, 2) := by decide +kernel
theorem dX8_init_71 : decode cX8_init 71 = .ok (.newarray .int, 2) := by decide +kernel
theorem dX8_init_73 : decode cX8_init 73 = .ok (.putfield 34, 3) := by decide +kernel
theorem dX8_init_76 : decode cX8_init 76 = .ok (.aload_n 0, 1) := by decide +kernel
theorem dX8_init_77 : decode cX8_init 77 = .ok (.bipush 12, 2) := by decide +kernel
theorem dX8_init_79 : decode cX8_init 79 = .ok (.newarray .int, 2) := by decide +kernel
theorem dX8_init_81 : decode cX8_init 81 = .ok (.putfield 37, 3) := by decide +kernel
theorem dX8_init_84 : decode cX8_init 84 = .ok (.aload_n 0, 1) := by decide +kernel
theorem dX8_init_85 : decode cX8_init 85 = .ok (.bipush 12, 2) := by decide +kernel
theorem dX8_init_87 : decode cX8_init 87 = .ok (.newarray .int, 2) := by decide +kernel
theorem dX8_init_89 : decode cX8_init 89 = .ok (.putfield 40, 3) := by decide +kernel
theorem dX8_init_92 : decode cX8_init 92 = .ok (.aload_n 0, 1) := by decide +kernel
theorem dX8_init_93 : decode cX8_init 93 = .ok (.bipush 12, 2) := by decide +kernel
theorem dX8_init_95 : decode cX8_init 95 = .ok (.newarray .int, 2) := by decide +kernel
theorem dX8_init_97 : decode cX8_init 97 = .ok (.putfield 43, 3) := by decide +kernel
theorem dX8_init_100 : decode cX8_init 100 = .ok (.aload_n 0, 1) := by decide +kernel
theorem dX8_init_101 : decode cX8_init 101 = .ok (.bipush 12, 2) := by decide +kernel
theorem dX8_init_103 : decode cX8_init 103 = .ok (.newarray .int, 2) := by decide +kernel
theorem dX8_init_105 : decode cX8_init 105 = .ok (.putfield 46, 3) := by decide +kernel
theorem dX8_init_108 : decode cX8_init 108 = .ok (.aload_n 0, 1) := by decide +kernel
theorem dX8_init_109 : decode cX8_init 109 = .ok (.bipush 12, 2) := by decide +kernel
theorem dX8_init_111 : decode cX8_init 111 = .ok (.newarray .int, 2) := by decide +kernel
theorem dX8_init_113 : decode cX8_init 113 = .ok (.putfield 49, 3) := by decide +kernel
theorem dX8_init_116 : decode cX8_init 116 = .ok (.aload_n 0, 1) := by decide +kernel
theorem dX8_init_117 : decode cX8_init 117 = .ok (.bipush 12, 2) := by decide +kernel
theorem dX8_init_119 : decode cX8_init 119 = .ok (.newarray .int, 2) := by decide +kernel
theorem dX8_init_121 : decode cX8_init 121 = .ok (.putfield 52, 3) := by decide +kernel
theorem dX8_init_124 : decode cX8_init 124 = .ok (.aload_n 0, 1) := by decide +kernel
theorem dX8_init_125 : decode cX8_init 125 = .ok (.bipush 12, 2) := by decide +kernel
theorem dX8_init_127 : decode cX8_init 127 = .ok (.newarray .int, 2) := by decide +kernel
theorem dX8_init_129 : decode cX8_init 129 = .ok (.putfield 55, 3) := by decide +kernel
theorem dX8_init_132 : decode cX8_init 132 = .ok (.aload_n 0, 1) := by decide +kernel
theorem dX8_init_133 : decode cX8_init 133 = .ok (.bipush 12, 2) := by decide +kernel
theorem dX8_init_135 : decode cX8_init 135 = .ok (.newarray .int, 2) := by decide +kernel
theorem dX8_init_137 : decode cX8_init 137 = .ok (.putfield 58, 3) := by decide +kernel
theorem dX8_init_140 : decode cX8_init 140 = .ok (.aload_n 0, 1) := by decide +kernel
theorem dX8_init_141 : decode cX8_init 141 = .ok (.bipush 60, 2) := by decide +kernel
theorem dX8_init_143 : decode cX8_init 143 = .ok (.bipush 9, 2) := by decide +kernel
theorem dX8_init_145 : decode cX8_init 145 = .ok (.multianewarray 61 2, 4) := by decide +kernel
theorem dX8_init_149 : decode cX8_init 149 = .ok (.putfield 63, 3) := by decide +kernel
theorem dX8_init_152 : decode cX8_init 152 = .ok (.aload_n 0, 1) := by decide +kernel
theorem dX8_init_153 : decode cX8_init 153 = .ok (.bipush 8, 2) := by decide +kernel
theorem dX8_init_155 : decode cX8_init 155 = .ok (.putfield 66, 3) := by decide +kernel
theorem dX8_init_158 : decode cX8_init 158 = .ok (.aload_n 0, 1) := by decide +kernel
theorem dX8_init_159 : decode cX8_init 159 = .ok (.bipush 20, 2) := by decide +kernel
theorem dX8_init_161 : decode cX8_init 161 = .ok (.putfield 70, 3) := by decide +kernel
theorem dX8_init_164 : decode cX8_init 164 = .ok (.aload_n 0, 1) := by decide +kernel
theorem dX8_init_165 : decode cX8_init 165 = .ok (.bipush 60, 2) := by decide +kernel
theorem dX8_init_167 : decode cX8_init 167 = .ok (.newarray .int, 2) := by decide +kernel
theorem dX8_init_169 : decode cX8_init 169 = .ok (.putfield 73, 3) := by decide +kernel
theorem dX8_init_172 : decode cX8_init 172 = .ok (.aload_n 0, 1) := by decide +kernel
theorem dX8_init_173 : decode cX8_init 173 = .ok (.sipush 400, 3) := by decide +kernel
theorem dX8_init_176 : decode cX8_init 176 = .ok (.newarray .byte, 2) := by decide +kernel
theorem dX8_init_178 : decode cX8_init 178 = .ok (.putfield 76, 3) := by decide +kernel
theorem dX8_init_181 : decode cX8_init 181 = .ok (.aload_n 0, 1) := by decide +kernel
theorem dX8_init_182 : decode cX8_init 182 = .ok (.iconst 2, 1) := by decide +kernel
theorem dX8_init_183 : decode cX8_init 183 = .ok (.sipush 420, 3) := by decide +kernel
theorem dX8_init_186 : decode cX8_init 186 = .ok (.multianewarray 61 2, 4) := by decide +kernel
theorem dX8_init_190 : decode cX8_init 190 = .ok (.putfield 80, 3) := by decide +kernel
theorem dX8_init_193 : decode cX8_init 193 = .ok (.aload_n 0, 1) := by decide +kernel
theorem dX8_init_194 : decode cX8_init 194 = .ok (.iconst 2, 1) := by decide +kernel
theorem dX8_init_195 : decode cX8_init 195 = .ok (.bipush 13, 2) := by decide +kernel
theorem dX8_init_197 : decode cX8_init 197 = .ok (.multianewarray 61 2, 4) := by decide +kernel
theorem dX8_init_201 : decode cX8_init 201 = .ok (.putfield 83, 3) := by decide +kernel
theorem dX8_init_204 : decode cX8_init 204 = .ok (.aload_n 0, 1) := by decide +kernel
theorem dX8_init_205 : decode cX8_init 205 = .ok (.iconst 2, 1) := by decide +kernel
theorem dX8_init_206 : decode cX8_init 206 = .ok (.bipush 13, 2) := by decide +kernel
theorem dX8_init_208 : decode cX8_init 208 = .ok (.multianewarray 61 2, 4) := by decide +kernel
theorem dX8_init_212 : decode cX8_init 212 = .ok (.putfield 86, 3) := by decide +kernel
theorem dX8_init_215 : decode cX8_init 215 = .ok (.aload_n 0, 1) := by decide +kernel
theorem dX8_init_216 : decode cX8_init 216 = .ok (.iconst 2, 1) := by decide +kernel
theorem dX8_init_217 : decode cX8_init 217 = .ok (.bipush 13, 2) := by decide +kernel
theorem dX8_init_219 : decode cX8_init 219 = .ok (.multianewarray 61 2, 4) := by decide +kernel
theorem dX8_init_223 : decode cX8_init 223 = .ok (.putfield 89, 3) := by decide +kernel
theorem dX8_init_226 : decode cX8_init 226 = .ok (.aload_n 0, 1) := by decide +kernel
theorem dX8_init_227 : decode cX8_init 227 = .ok (.iconst 2, 1) := by decide +kernel
theorem dX8_init_228 : decode cX8_init 228 = .ok (.newarray .int, 2) := by decide +kernel
theorem dX8_init_230 : decode cX8_init 230 = .ok (.putfield 92, 3) := by decide +kernel
theorem dX8_init_233 : decode cX8_init 233 = .ok (.aload_n 0, 1) := by decide +kernel
theorem dX8_init_234 : decode cX8_init 234 = .ok (.iconst 2, 1) := by decide +kernel
theorem dX8_init_235 : decode cX8_init 235 = .ok (.newarray .int, 2) := by decide +kernel
theorem dX8_init_237 : decode cX8_init 237 = .ok (.putfield 95, 3) := by decide +kernel
theorem dX8_init_240 : decode cX8_init 240 = .ok (.aload_n 0, 1) := by decide +kernel
theorem dX8_init_241 : decode cX8_init 241 = .ok (.iconst 2, 1) := by decide +kernel
theorem dX8_init_242 : decode cX8_init 242 = .ok (.newarray .boolean, 2) := by decide +kernel
theorem dX8_init_244 : decode cX8_init 244 = .ok (.putfield 98, 3) := by decide +kernel
theorem dX8_init_247 : decode cX8_init 247 = .ok (.aload_n 0, 1) := by decide +kernel
theorem dX8_init_248 : decode cX8_init 248 = .ok (.sipush 420, 3) := by decide +kernel
theorem dX8_init_251 : decode cX8_init 251 = .ok (.newarray .int, 2) := by decide +kernel
theorem dX8_init_253 : decode cX8_init 253 = .ok (.putfield 102, 3) := by decide +kernel
theorem dX8_init_256 : decode cX8_init 256 = .ok (.aload_n 0, 1) := by decide +kernel
theorem dX8_init_257 : decode cX8_init 257 = .ok (.bipush 7, 2) := by decide +kernel
theorem dX8_init_259 : decode cX8_init 259 = .ok (.newarray .int, 2) := by decide +kernel
theorem dX8_init_261 : decode cX8_init 261 = .ok (.putfield 105, 3) := by decide +kernel
theorem dX8_init_264 : decode cX8_init 264 = .ok (.aload_n 0, 1) := by decide +kernel
theorem dX8_init_265 : decode cX8_init 265 = .ok (.bipush 7, 2) := by decide +kernel
theorem dX8_init_267 : decode cX8_init 267 = .ok (.anewarray 108, 3) := by decide +kernel
theorem dX8_init_270 : decode cX8_init 270 = .ok (.dup, 1) := by decide +kernel
theorem dX8_init_271 : decode cX8_init 271 = .ok (.iconst 0, 1) := by decide +kernel
theorem dX8_init_272 : decode cX8_init 272 = .ok (.ldc 110, 2) := by decide +kernel
theorem dX8_init_274 : decode cX8_init 274 = .ok (.aastore, 1) := by decide +kernel
theorem dX8_init_275 : decode cX8_init 275 = .ok (.dup, 1) := by decide +kernel
theorem dX8_init_276 : decode cX8_init 276 = .ok (.iconst 1, 1) := by decide +kernel
theorem dX8_init_277 : decode cX8_init 277 = .ok (.ldc 112, 2) := by decide +kernel
theorem dX8_init_279 : decode cX8_init 279 = .ok (.aastore, 1) := by decide +kernel
theorem dX8_init_280 : decode cX8_init 280 = .ok (.dup, 1) := by decide +kernel
theorem dX8_init_281 : decode cX8_init 281 = .ok (.iconst 2, 1) := by decide +kernel
theorem dX8_init_282 : decode cX8_init 282 = .ok (.ldc 114, 2) := by decide +kernel
theorem dX8_init_284 : decode cX8_init 284 = .ok (.aastore, 1) := by decide +kernel
theorem dX8_init_285 : decode cX8_init 285 = .ok (.dup, 1) := by decide +kernel
theorem dX8_init_286 : decode cX8_init 286 = .ok (.iconst 3, 1) := by decide +kernel
theorem dX8_init_287 : decode cX8_init 287 = .ok (.ldc 116, 2) := by decide +kernel
theorem dX8_init_289 : decode cX8_init 289 = .ok (.aastore, 1) := by decide +kernel
theorem dX8_init_290 : decode cX8_init 290 = .ok (.dup, 1) := by decide +kernel
theorem dX8_init_291 : decode cX8_init 291 = .ok (.iconst 4, 1) := by decide +kernel
theorem dX8_init_292 : decode cX8_init 292 = .ok (.ldc 118, 2) := by decide +kernel
theorem dX8_init_294 : decode cX8_init 294 = .ok (.aastore, 1) := by decide +kernel
theorem dX8_init_295 : decode cX8_init 295 = .ok (.dup, 1) := by decide +kernel
theorem dX8_init_296 : decode cX8_init 296 = .ok (.iconst 5, 1) := by decide +kernel
theorem dX8_init_297 : decode cX8_init 297 = .ok (.ldc 120, 2) := by decide +kernel
theorem dX8_init_299 : decode cX8_init 299 = .ok (.aastore, 1) := by decide +kernel
theorem dX8_init_300 : decode cX8_init 300 = .ok (.dup, 1) := by decide +kernel
theorem dX8_init_301 : decode cX8_init 301 = .ok (.bipush 6, 2) := by decide +kernel
theorem dX8_init_303 : decode cX8_init 303 = .ok (.ldc 122, 2) := by decide +kernel
theorem dX8_init_305 : decode cX8_init 305 = .ok (.aastore, 1) := by decide +kernel
theorem dX8_init_306 : decode cX8_init 306 = .ok (.putfield 124, 3) := by decide +kernel
theorem dX8_init_309 : decode cX8_init 309 = .ok (.aload_n 0, 1) := by decide +kernel
theorem dX8_init_310 : decode cX8_init 310 = .ok (.bipush 7, 2) := by decide +kernel
theorem dX8_init_312 : decode cX8_init 312 = .ok (.anewarray 108, 3) := by decide +kernel
theorem dX8_init_315 : decode cX8_init 315 = .ok (.dup, 1) := by decide +kernel
theorem dX8_init_316 : decode cX8_init 316 = .ok (.iconst 0, 1) := by decide +kernel
theorem dX8_init_317 : decode cX8_init 317 = .ok (.ldc 128, 2) := by decide +kernel
theorem dX8_init_319 : decode cX8_init 319 = .ok (.aastore, 1) := by decide +kernel
theorem dX8_init_320 : decode cX8_init 320 = .ok (.dup, 1) := by decide +kernel
theorem dX8_init_321 : decode cX8_init 321 = .ok (.iconst 1, 1) := by decide +kernel
theorem dX8_init_322 : decode cX8_init 322 = .ok (.ldc 130, 2) := by decide +kernel
theorem dX8_init_324 : decode cX8_init 324 = .ok (.aastore, 1) := by decide +kernel
theorem dX8_init_325 : decode cX8_init 325 = .ok (.dup, 1) := by decide +kernel
theorem dX8_init_326 : decode cX8_init 326 = .ok (.iconst 2, 1) := by decide +kernel
theorem dX8_init_327 : decode cX8_init 327 = .ok (.ldc 132, 2) := by decide +kernel
theorem dX8_init_329 : decode cX8_init 329 = .ok (.aastore, 1) := by decide +kernel
theorem dX8_init_330 : decode cX8_init 330 = .ok (.dup, 1) := by decide +kernel
theorem dX8_init_331 : decode cX8_init 331 = .ok (.iconst 3, 1) := by decide +kernel
theorem dX8_init_332 : decode cX8_init 332 = .ok (.ldc 134, 2) := by decide +kernel
theorem dX8_init_334 : decode cX8_init 334 = .ok (.aastore, 1) := by decide +kernel
theorem dX8_init_335 : decode cX8_init 335 = .ok (.dup, 1) := by decide +kernel
theorem dX8_init_336 : decode cX8_init 336 = .ok (.iconst 4, 1) := by decide +kernel
theorem dX8_init_337 : decode cX8_init 337 = .ok (.ldc 136, 2) := by decide +kernel
theorem dX8_init_339 : decode cX8_init 339 = .ok (.aastore, 1) := by decide +kernel
theorem dX8_init_340 : decode cX8_init 340 = .ok (.dup, 1) := by decide +kernel
theorem dX8_init_341 : decode cX8_init 341 = .ok (.iconst 5, 1) := by decide +kernel
theorem dX8_init_342 : decode cX8_init 342 = .ok (.ldc 138, 2) := by decide +kernel
theorem dX8_init_344 : decode cX8_init 344 = .ok (.aastore, 1) := by decide +kernel
theorem dX8_init_345 : decode cX8_init 345 = .ok (.dup, 1) := by decide +kernel
theorem dX8_init_346 : decode cX8_init 346 = .ok (.bipush 6, 2) := by decide +kernel
theorem dX8_init_348 : decode cX8_init 348 = .ok (.ldc 140, 2) := by decide +kernel
theorem dX8_init_350 : decode cX8_init 350 = .ok (.aastore, 1) := by decide +kernel
theorem dX8_init_351 : decode cX8_init 351 = .ok (.putfield 142, 3) := by decide +kernel
theorem dX8_init_354 : decode cX8_init 354 = .ok (.return_, 1) := by decide +kernel
def mkModel (s : zS) : zS := zRf (zRf (zRf (zRf (zRf (zRf (zRf (zRf (zNn (zRf (zRf (zRf (zRf (zRf (zRf (zRf (zRf (zNn (zRf (zNn (zRf (zNn (zRf (zNn (zRf (zNn (zRf (zNn (zRf (zMul (zRf (zMul (zRf (zMul (zRf (zMul (zRf (zNn (zRf (zNn (zI (zI (zRf (zMul (zRf (zNn (zRf (zNn (zRf (zNn (zRf (zNn (zRf (zNn (zRf (zNn (zRf (zNn (zRf (zNn (zRf (zNn (zRf (zNn (zRf (zNn (zRf (zNn (zRf (zNn (zRf (zNn (zRf (zNn (zRf (zNn (zRf (zNn s 102) 164 0 165) 103) 164 1 166) 104) 164 2 167) 105) 164 3 168) 106) 164 4 169) 107) 164 5 170) 108) 164 6 171) 109) 164 7 172) 110) 164 8 173) 111) 164 9 174) 112) 164 10 175) 113) 164 11 176) 114) 164 12 177) 115) 164 13 178) 116) 164 14 179) 117) 164 15 180) 118) 164 16 181) 182 60 118) 164 23 182) 164 25 (8 : Int32)) 164 26 (20 : Int32)) 180) 164 27 243) 181) 164 28 244) 245 2 181) 164 33 245) 248 2 184) 164 34 248) 251 2 187) 164 35 251) 254 2 190) 164 36 254) 194) 164 37 257) 195) 164 38 258) 196) 164 39 259) 197) 164 40 260) 198) 164 41 261) 199) 262 0 4) 262 1 5) 262 2 6) 262 3 7) 262 4 8) 262 5 9) 262 6 10) 164 42 262) 200) 263 0 11) 263 1 12) 263 2 13) 263 3 14) 263 4 15) 263 5 16) 263 6 17) 164 43 263
theorem cl_mkModel {s : zS} (hN : s.2.2.2 = 101) (hC : zcln s) : zcln (mkModel s) := (zcln_R (zcln_R (zcln_R (zcln_R (zcln_R (zcln_R (zcln_R (zcln_R (zcln_N (zcln_R (zcln_R (zcln_R (zcln_R (zcln_R (zcln_R (zcln_R (zcln_R (zcln_N (zcln_R (zcln_N (zcln_R (zcln_N (zcln_R (zcln_N (zcln_R (zcln_N (zcln_R (zcln_N (zcln_R (zcln_M (zcln_R (zcln_M (zcln_R (zcln_M (zcln_R (zcln_M (zcln_R (zcln_N (zcln_R (zcln_N (zcln_I (zcln_I (zcln_R (zcln_M (zcln_R (zcln_N (zcln_R (zcln_N (zcln_R (zcln_N (zcln_R (zcln_N (zcln_R (zcln_N (zcln_R (zcln_N (zcln_R (zcln_N (zcln_R (zcln_N (zcln_R (zcln_N (zcln_R (zcln_N (zcln_R (zcln_N (zcln_R (zcln_N (zcln_R (zcln_N (zcln_R (zcln_N (zcln_R (zcln_N (zcln_R (zcln_N (zcln_R (zcln_N hC (by show s.2.2.2 ≤ 102; rw [hN]; decide)) (by show 164 < 64 + 102; decide)) (by show 102 ≤ 103; decide)) (by show 164 < 64 + 103; decide)) (by show 103 ≤ 104; decide)) (by show 164 < 64 + 104; decide)) (by show 104 ≤ 105; decide)) (by show 164 < 64 + 105; decide)) (by show 105 ≤ 106; decide)) (by show 164 < 64 + 106; decide)) (by show 106 ≤ 107; decide)) (by show 164 < 64 + 107; decide)) (by show 107 ≤ 108; decide)) (by show 164 < 64 + 108; decide)) (by show 108 ≤ 109; decide)) (by show 164 < 64 + 109; decide)) (by show 109 ≤ 110; decide)) (by show 164 < 64 + 110; decide)) (by show 110 ≤ 111; decide)) (by show 164 < 64 + 111; decide)) (by show 111 ≤ 112; decide)) (by show 164 < 64 + 112; decide)) (by show 112 ≤ 113; decide)) (by show 164 < 64 + 113; decide)) (by show 113 ≤ 114; decide)) (by show 164 < 64 + 114; decide)) (by show 114 ≤ 115; decide)) (by show 164 < 64 + 115; decide)) (by show 115 ≤ 116; decide)) (by show 164 < 64 + 116; decide)) (by show 116 ≤ 117; decide)) (by show 164 < 64 + 117; decide)) (by show 117 ≤ 118; decide)) (by show 164 < 64 + 118; decide)) rfl (by decide)) (by show 164 < 64 + 179; decide)) (by show 164 < 64 + 179; decide)) (by show 164 < 64 + 179; decide)) (by show 179 ≤ 180; decide)) (by show 164 < 64 + 180; decide)) (by show 180 ≤ 181; decide)) (by show 164 < 64 + 181; decide)) rfl (by decide)) (by show 164 < 64 + 184; decide)) rfl (by decide)) (by show 164 < 64 + 187; decide)) rfl (by decide)) (by show 164 < 64 + 190; decide)) rfl (by decide)) (by show 164 < 64 + 193; decide)) (by show 193 ≤ 194; decide)) (by show 164 < 64 + 194; decide)) (by show 194 ≤ 195; decide)) (by show 164 < 64 + 195; decide)) (by show 195 ≤ 196; decide)) (by show 164 < 64 + 196; decide)) (by show 196 ≤ 197; decide)) (by show 164 < 64 + 197; decide)) (by show 197 ≤ 198; decide)) (by show 164 < 64 + 198; decide)) (by show 198 ≤ 199; decide)) (by show 262 < 64 + 199; decide)) (by show 262 < 64 + 199; decide)) (by show 262 < 64 + 199; decide)) (by show 262 < 64 + 199; decide)) (by show 262 < 64 + 199; decide)) (by show 262 < 64 + 199; decide)) (by show 262 < 64 + 199; decide)) (by show 164 < 64 + 199; decide)) (by show 199 ≤ 200; decide)) (by show 263 < 64 + 200; decide)) (by show 263 < 64 + 200; decide)) (by show 263 < 64 + 200; decide)) (by show 263 < 64 + 200; decide)) (by show 263 < 64 + 200; decide)) (by show 263 < 64 + 200; decide)) (by show 263 < 64 + 200; decide)) (by show 164 < 64 + 200; decide))
set_option maxRecDepth 100000 in
set_option maxHeartbeats 4000000 in
theorem c_mkModel {l : Launch} {g : zG} {d : Nat} {s : zS} (hN : s.2.2.2 = 101) (hC : zcln s) {K : zS → Prop} (h : K (mkModel s)) : zCall l g (d + 1) 101 200 M_X8_init [.ref 164] s (zKv K) := by
  refine zCall_of k_X8_init (Nat.le_of_ble_eq_true rfl) (by decide) (fun _ => ?_)
  show zAt l g (d + 1) 101 200 M_X8_init 0 [.ref 164] [] s (zKv K)
  refine z_aload_n (i := 0) dX8_init_0 rfl rfl rfl ?_
  refine z_objInit oi_X8 w_oi w_oc dX8_init_1 (Nat.le_of_ble_eq_true rfl) rfl ?_
  refine z_aload_n (i := 0) dX8_init_4 rfl rfl rfl ?_
  refine z_bipush (v := (8 : Int32)) dX8_init_5 (by decide) rfl ?_
  refine z_newa (atype := .int) (n := 101) (kd := 20) (len := 8) (q := 165) rfl (fun _ _ h9 => h9) w_aI (by decide) (by decide) (by decide) (by decide) (by decide) rfl (by decide) hN (by decide : 64 + 101 = 165) hC (by decide) dX8_init_7 rfl ?_
  refine z_putR f_X8_9 ⟨zCl8, by decide, by decide, (fun _ => by show 164 < 64 + 102; decide)⟩ rfl (by decide) (Or.inr ⟨rfl, rfl, rfl, zin 991 (by decide +kernel) (by decide +kernel)⟩) rfl rfl dX8_init_9 rfl ?_
  refine z_aload_n (i := 0) dX8_init_12 rfl rfl rfl ?_
  refine z_bipush (v := (8 : Int32)) dX8_init_13 (by decide) rfl ?_
  refine z_newa (atype := .int) (n := 102) (kd := 20) (len := 8) (q := 166) rfl (fun _ _ h9 => h9) w_aI (by decide) (by decide) (by decide) (by decide) (by decide) rfl (by decide) rfl (by decide : 64 + 102 = 166) (zcln_R (zcln_N hC (by show s.2.2.2 ≤ 102; rw [hN]; decide)) (by show 164 < 64 + 102; decide)) (by decide) dX8_init_15 rfl ?_
  refine z_putR f_X8_13 ⟨zCl8, by decide, by decide, (fun _ => by show 164 < 64 + 103; decide)⟩ rfl (by decide) (Or.inr ⟨rfl, rfl, rfl, zin 992 (by decide +kernel) (by decide +kernel)⟩) rfl rfl dX8_init_17 rfl ?_
  refine z_aload_n (i := 0) dX8_init_20 rfl rfl rfl ?_
  refine z_bipush (v := (8 : Int32)) dX8_init_21 (by decide) rfl ?_
  refine z_newa (atype := .int) (n := 103) (kd := 20) (len := 8) (q := 167) rfl (fun _ _ h9 => h9) w_aI (by decide) (by decide) (by decide) (by decide) (by decide) rfl (by decide) rfl (by decide : 64 + 103 = 167) (zcln_R (zcln_N (zcln_R (zcln_N hC (by show s.2.2.2 ≤ 102; rw [hN]; decide)) (by show 164 < 64 + 102; decide)) (by show 102 ≤ 103; decide)) (by show 164 < 64 + 103; decide)) (by decide) dX8_init_23 rfl ?_
  refine z_putR f_X8_16 ⟨zCl8, by decide, by decide, (fun _ => by show 164 < 64 + 104; decide)⟩ rfl (by decide) (Or.inr ⟨rfl, rfl, rfl, zin 993 (by decide +kernel) (by decide +kernel)⟩) rfl rfl dX8_init_25 rfl ?_
  refine z_aload_n (i := 0) dX8_init_28 rfl rfl rfl ?_
  refine z_bipush (v := (8 : Int32)) dX8_init_29 (by decide) rfl ?_
  refine z_newa (atype := .int) (n := 104) (kd := 20) (len := 8) (q := 168) rfl (fun _ _ h9 => h9) w_aI (by decide) (by decide) (by decide) (by decide) (by decide) rfl (by decide) rfl (by decide : 64 + 104 = 168) (zcln_R (zcln_N (zcln_R (zcln_N (zcln_R (zcln_N hC (by show s.2.2.2 ≤ 102; rw [hN]; decide)) (by show 164 < 64 + 102; decide)) (by show 102 ≤ 103; decide)) (by show 164 < 64 + 103; decide)) (by show 103 ≤ 104; decide)) (by show 164 < 64 + 104; decide)) (by decide) dX8_init_31 rfl ?_
  refine z_putR f_X8_19 ⟨zCl8, by decide, by decide, (fun _ => by show 164 < 64 + 105; decide)⟩ rfl (by decide) (Or.inr ⟨rfl, rfl, rfl, zin 994 (by decide +kernel) (by decide +kernel)⟩) rfl rfl dX8_init_33 rfl ?_
  refine z_aload_n (i := 0) dX8_init_36 rfl rfl rfl ?_
  refine z_bipush (v := (8 : Int32)) dX8_init_37 (by decide) rfl ?_
  refine z_newa (atype := .int) (n := 105) (kd := 20) (len := 8) (q := 169) rfl (fun _ _ h9 => h9) w_aI (by decide) (by decide) (by decide) (by decide) (by decide) rfl (by decide) rfl (by decide : 64 + 105 = 169) (zcln_R (zcln_N (zcln_R (zcln_N (zcln_R (zcln_N (zcln_R (zcln_N hC (by show s.2.2.2 ≤ 102; rw [hN]; decide)) (by show 164 < 64 + 102; decide)) (by show 102 ≤ 103; decide)) (by show 164 < 64 + 103; decide)) (by show 103 ≤ 104; decide)) (by show 164 < 64 + 104; decide)) (by show 104 ≤ 105; decide)) (by show 164 < 64 + 105; decide)) (by decide) dX8_init_39 rfl ?_
  refine z_putR f_X8_22 ⟨zCl8, by decide, by decide, (fun _ => by show 164 < 64 + 106; decide)⟩ rfl (by decide) (Or.inr ⟨rfl, rfl, rfl, zin 995 (by decide +kernel) (by decide +kernel)⟩) rfl rfl dX8_init_41 rfl ?_
  refine z_aload_n (i := 0) dX8_init_44 rfl rfl rfl ?_
  refine z_bipush (v := (20 : Int32)) dX8_init_45 (by decide) rfl ?_
  refine z_newa (atype := .int) (n := 106) (kd := 20) (len := 20) (q := 170) rfl (fun _ _ h9 => h9) w_aI (by decide) (by decide) (by decide) (by decide) (by decide) rfl (by decide) rfl (by decide : 64 + 106 = 170) (zcln_R (zcln_N (zcln_R (zcln_N (zcln_R (zcln_N (zcln_R (zcln_N (zcln_R (zcln_N hC (by show s.2.2.2 ≤ 102; rw [hN]; decide)) (by show 164 < 64 + 102; decide)) (by show 102 ≤ 103; decide)) (by show 164 < 64 + 103; decide)) (by show 103 ≤ 104; decide)) (by show 164 < 64 + 104; decide)) (by show 104 ≤ 105; decide)) (by show 164 < 64 + 105; decide)) (by show 105 ≤ 106; decide)) (by show 164 < 64 + 106; decide)) (by decide) dX8_init_47 rfl ?_
  refine z_putR f_X8_25 ⟨zCl8, by decide, by decide, (fun _ => by show 164 < 64 + 107; decide)⟩ rfl (by decide) (Or.inr ⟨rfl, rfl, rfl, zin 996 (by decide +kernel) (by decide +kernel)⟩) rfl rfl dX8_init_49 rfl ?_
  refine z_aload_n (i := 0) dX8_init_52 rfl rfl rfl ?_
  refine z_bipush (v := (20 : Int32)) dX8_init_53 (by decide) rfl ?_
  refine z_newa (atype := .int) (n := 107) (kd := 20) (len := 20) (q := 171) rfl (fun _ _ h9 => h9) w_aI (by decide) (by decide) (by decide) (by decide) (by decide) rfl (by decide) rfl (by decide : 64 + 107 = 171) (zcln_R (zcln_N (zcln_R (zcln_N (zcln_R (zcln_N (zcln_R (zcln_N (zcln_R (zcln_N (zcln_R (zcln_N hC (by show s.2.2.2 ≤ 102; rw [hN]; decide)) (by show 164 < 64 + 102; decide)) (by show 102 ≤ 103; decide)) (by show 164 < 64 + 103; decide)) (by show 103 ≤ 104; decide)) (by show 164 < 64 + 104; decide)) (by show 104 ≤ 105; decide)) (by show 164 < 64 + 105; decide)) (by show 105 ≤ 106; decide)) (by show 164 < 64 + 106; decide)) (by show 106 ≤ 107; decide)) (by show 164 < 64 + 107; decide)) (by decide) dX8_init_55 rfl ?_
  refine z_putR f_X8_28 ⟨zCl8, by decide, by decide, (fun _ => by show 164 < 64 + 108; decide)⟩ rfl (by decide) (Or.inr ⟨rfl, rfl, rfl, zin 997 (by decide +kernel) (by decide +kernel)⟩) rfl rfl dX8_init_57 rfl ?_
  refine z_aload_n (i := 0) dX8_init_60 rfl rfl rfl ?_
  refine z_bipush (v := (12 : Int32)) dX8_init_61 (by decide) rfl ?_
  refine z_newa (atype := .int) (n := 108) (kd := 20) (len := 12) (q := 172) rfl (fun _ _ h9 => h9) w_aI (by decide) (by decide) (by decide) (by decide) (by decide) rfl (by decide) rfl (by decide : 64 + 108 = 172) (zcln_R (zcln_N (zcln_R (zcln_N (zcln_R (zcln_N (zcln_R (zcln_N (zcln_R (zcln_N (zcln_R (zcln_N (zcln_R (zcln_N hC (by show s.2.2.2 ≤ 102; rw [hN]; decide)) (by show 164 < 64 + 102; decide)) (by show 102 ≤ 103; decide)) (by show 164 < 64 + 103; decide)) (by show 103 ≤ 104; decide)) (by show 164 < 64 + 104; decide)) (by show 104 ≤ 105; decide)) (by show 164 < 64 + 105; decide)) (by show 105 ≤ 106; decide)) (by show 164 < 64 + 106; decide)) (by show 106 ≤ 107; decide)) (by show 164 < 64 + 107; decide)) (by show 107 ≤ 108; decide)) (by show 164 < 64 + 108; decide)) (by decide) dX8_init_63 rfl ?_
  refine z_putR f_X8_31 ⟨zCl8, by decide, by decide, (fun _ => by show 164 < 64 + 109; decide)⟩ rfl (by decide) (Or.inr ⟨rfl, rfl, rfl, zin 998 (by decide +kernel) (by decide +kernel)⟩) rfl rfl dX8_init_65 rfl ?_
  refine z_aload_n (i := 0) dX8_init_68 rfl rfl rfl ?_
  refine z_bipush (v := (12 : Int32)) dX8_init_69 (by decide) rfl ?_
  refine z_newa (atype := .int) (n := 109) (kd := 20) (len := 12) (q := 173) rfl (fun _ _ h9 => h9) w_aI (by decide) (by decide) (by decide) (by decide) (by decide) rfl (by decide) rfl (by decide : 64 + 109 = 173) (zcln_R (zcln_N (zcln_R (zcln_N (zcln_R (zcln_N (zcln_R (zcln_N (zcln_R (zcln_N (zcln_R (zcln_N (zcln_R (zcln_N (zcln_R (zcln_N hC (by show s.2.2.2 ≤ 102; rw [hN]; decide)) (by show 164 < 64 + 102; decide)) (by show 102 ≤ 103; decide)) (by show 164 < 64 + 103; decide)) (by show 103 ≤ 104; decide)) (by show 164 < 64 + 104; decide)) (by show 104 ≤ 105; decide)) (by show 164 < 64 + 105; decide)) (by show 105 ≤ 106; decide)) (by show 164 < 64 + 106; decide)) (by show 106 ≤ 107; decide)) (by show 164 < 64 + 107; decide)) (by show 107 ≤ 108; decide)) (by show 164 < 64 + 108; decide)) (by show 108 ≤ 109; decide)) (by show 164 < 64 + 109; decide)) (by decide) dX8_init_71 rfl ?_
  refine z_putR f_X8_34 ⟨zCl8, by decide, by decide, (fun _ => by show 164 < 64 + 110; decide)⟩ rfl (by decide) (Or.inr ⟨rfl, rfl, rfl, zin 999 (by decide +kernel) (by decide +kernel)⟩) rfl rfl dX8_init_73 rfl ?_
  refine z_aload_n (i := 0) dX8_init_76 rfl rfl rfl ?_
  refine z_bipush (v := (12 : Int32)) dX8_init_77 (by decide) rfl ?_
  refine z_newa (atype := .int) (n := 110) (kd := 20) (len := 12) (q := 174) rfl (fun _ _ h9 => h9) w_aI (by decide) (by decide) (by decide) (by decide) (by decide) rfl (by decide) rfl (by decide : 64 + 110 = 174) (zcln_R (zcln_N (zcln_R (zcln_N (zcln_R (zcln_N (zcln_R (zcln_N (zcln_R (zcln_N (zcln_R (zcln_N (zcln_R (zcln_N (zcln_R (zcln_N (zcln_R (zcln_N hC (by show s.2.2.2 ≤ 102; rw [hN]; decide)) (by show 164 < 64 + 102; decide)) (by show 102 ≤ 103; decide)) (by show 164 < 64 + 103; decide)) (by show 103 ≤ 104; decide)) (by show 164 < 64 + 104; decide)) (by show 104 ≤ 105; decide)) (by show 164 < 64 + 105; decide)) (by show 105 ≤ 106; decide)) (by show 164 < 64 + 106; decide)) (by show 106 ≤ 107; decide)) (by show 164 < 64 + 107; decide)) (by show 107 ≤ 108; decide)) (by show 164 < 64 + 108; decide)) (by show 108 ≤ 109; decide)) (by show 164 < 64 + 109; decide)) (by show 109 ≤ 110; decide)) (by show 164 < 64 + 110; decide)) (by decide) dX8_init_79 rfl ?_
  refine z_putR f_X8_37 ⟨zCl8, by decide, by decide, (fun _ => by show 164 < 64 + 111; decide)⟩ rfl (by decide) (Or.inr ⟨rfl, rfl, rfl, zin 1000 (by decide +kernel) (by decide +kernel)⟩) rfl rfl dX8_init_81 rfl ?_
  refine z_aload_n (i := 0) dX8_init_84 rfl rfl rfl ?_
  refine z_bipush (v := (12 : Int32)) dX8_init_85 (by decide) rfl ?_
  refine z_newa (atype := .int) (n := 111) (kd := 20) (len := 12) (q := 175) rfl (fun _ _ h9 => h9) w_aI (by decide) (by decide) (by decide) (by decide) (by decide) rfl (by decide) rfl (by decide : 64 + 111 = 175) (zcln_R (zcln_N (zcln_R (zcln_N (zcln_R (zcln_N (zcln_R (zcln_N (zcln_R (zcln_N (zcln_R (zcln_N (zcln_R (zcln_N (zcln_R (zcln_N (zcln_R (zcln_N (zcln_R (zcln_N hC (by show s.2.2.2 ≤ 102; rw [hN]; decide)) (by show 164 < 64 + 102; decide)) (by show 102 ≤ 103; decide)) (by show 164 < 64 + 103; decide)) (by show 103 ≤ 104; decide)) (by show 164 < 64 + 104; decide)) (by show 104 ≤ 105; decide)) (by show 164 < 64 + 105; decide)) (by show 105 ≤ 106; decide)) (by show 164 < 64 + 106; decide)) (by show 106 ≤ 107; decide)) (by show 164 < 64 + 107; decide)) (by show 107 ≤ 108; decide)) (by show 164 < 64 + 108; decide)) (by show 108 ≤ 109; decide)) (by show 164 < 64 + 109; decide)) (by show 109 ≤ 110; decide)) (by show 164 < 64 + 110; decide)) (by show 110 ≤ 111; decide)) (by show 164 < 64 + 111; decide)) (by decide) dX8_init_87 rfl ?_
  refine z_putR f_X8_40 ⟨zCl8, by decide, by decide, (fun _ => by show 164 < 64 + 112; decide)⟩ rfl (by decide) (Or.inr ⟨rfl, rfl, rfl, zin 1001 (by decide +kernel) (by decide +kernel)⟩) rfl rfl dX8_init_89 rfl ?_
  refine z_aload_n (i := 0) dX8_init_92 rfl rfl rfl ?_
  refine z_bipush (v := (12 : Int32)) dX8_init_93 (by decide) rfl ?_
  refine z_newa (atype := .int) (n := 112) (kd := 20) (len := 12) (q := 176) rfl (fun _ _ h9 => h9) w_aI (by decide) (by decide) (by decide) (by decide) (by decide) rfl (by decide) rfl (by decide : 64 + 112 = 176) (zcln_R (zcln_N (zcln_R (zcln_N (zcln_R (zcln_N (zcln_R (zcln_N (zcln_R (zcln_N (zcln_R (zcln_N (zcln_R (zcln_N (zcln_R (zcln_N (zcln_R (zcln_N (zcln_R (zcln_N (zcln_R (zcln_N hC (by show s.2.2.2 ≤ 102; rw [hN]; decide)) (by show 164 < 64 + 102; decide)) (by show 102 ≤ 103; decide)) (by show 164 < 64 + 103; decide)) (by show 103 ≤ 104; decide)) (by show 164 < 64 + 104; decide)) (by show 104 ≤ 105; decide)) (by show 164 < 64 + 105; decide)) (by show 105 ≤ 106; decide)) (by show 164 < 64 + 106; decide)) (by show 106 ≤ 107; decide)) (by show 164 < 64 + 107; decide)) (by show 107 ≤ 108; decide)) (by show 164 < 64 + 108; decide)) (by show 108 ≤ 109; decide)) (by show 164 < 64 + 109; decide)) (by show 109 ≤ 110; decide)) (by show 164 < 64 + 110; decide)) (by show 110 ≤ 111; decide)) (by show 164 < 64 + 111; decide)) (by show 111 ≤ 112; decide)) (by show 164 < 64 + 112; decide)) (by decide) dX8_init_95 rfl ?_
  refine z_putR f_X8_43 ⟨zCl8, by decide, by decide, (fun _ => by show 164 < 64 + 113; decide)⟩ rfl (by decide) (Or.inr ⟨rfl, rfl, rfl, zin 1002 (by decide +kernel) (by decide +kernel)⟩) rfl rfl dX8_init_97 rfl ?_
  refine z_aload_n (i := 0) dX8_init_100 rfl rfl rfl ?_
  refine z_bipush (v := (12 : Int32)) dX8_init_101 (by decide) rfl ?_
  refine z_newa (atype := .int) (n := 113) (kd := 20) (len := 12) (q := 177) rfl (fun _ _ h9 => h9) w_aI (by decide) (by decide) (by decide) (by decide) (by decide) rfl (by decide) rfl (by decide : 64 + 113 = 177) (zcln_R (zcln_N (zcln_R (zcln_N (zcln_R (zcln_N (zcln_R (zcln_N (zcln_R (zcln_N (zcln_R (zcln_N (zcln_R (zcln_N (zcln_R (zcln_N (zcln_R (zcln_N (zcln_R (zcln_N (zcln_R (zcln_N (zcln_R (zcln_N hC (by show s.2.2.2 ≤ 102; rw [hN]; decide)) (by show 164 < 64 + 102; decide)) (by show 102 ≤ 103; decide)) (by show 164 < 64 + 103; decide)) (by show 103 ≤ 104; decide)) (by show 164 < 64 + 104; decide)) (by show 104 ≤ 105; decide)) (by show 164 < 64 + 105; decide)) (by show 105 ≤ 106; decide)) (by show 164 < 64 + 106; decide)) (by show 106 ≤ 107; decide)) (by show 164 < 64 + 107; decide)) (by show 107 ≤ 108; decide)) (by show 164 < 64 + 108; decide)) (by show 108 ≤ 109; decide)) (by show 164 < 64 + 109; decide)) (by show 109 ≤ 110; decide)) (by show 164 < 64 + 110; decide)) (by show 110 ≤ 111; decide)) (by show 164 < 64 + 111; decide)) (by show 111 ≤ 112; decide)) (by show 164 < 64 + 112; decide)) (by show 112 ≤ 113; decide)) (by show 164 < 64 + 113; decide)) (by decide) dX8_init_103 rfl ?_
  refine z_putR f_X8_46 ⟨zCl8, by decide, by decide, (fun _ => by show 164 < 64 + 114; decide)⟩ rfl (by decide) (Or.inr ⟨rfl, rfl, rfl, zin 1003 (by decide +kernel) (by decide +kernel)⟩) rfl rfl dX8_init_105 rfl ?_
  refine z_aload_n (i := 0) dX8_init_108 rfl rfl rfl ?_
  refine z_bipush (v := (12 : Int32)) dX8_init_109 (by decide) rfl ?_
  refine z_newa (atype := .int) (n := 114) (kd := 20) (len := 12) (q := 178) rfl (fun _ _ h9 => h9) w_aI (by decide) (by decide) (by decide) (by decide) (by decide) rfl (by decide) rfl (by decide : 64 + 114 = 178) (zcln_R (zcln_N (zcln_R (zcln_N (zcln_R (zcln_N (zcln_R (zcln_N (zcln_R (zcln_N (zcln_R (zcln_N (zcln_R (zcln_N (zcln_R (zcln_N (zcln_R (zcln_N (zcln_R (zcln_N (zcln_R (zcln_N (zcln_R (zcln_N (zcln_R (zcln_N hC (by show s.2.2.2 ≤ 102; rw [hN]; decide)) (by show 164 < 64 + 102; decide)) (by show 102 ≤ 103; decide)) (by show 164 < 64 + 103; decide)) (by show 103 ≤ 104; decide)) (by show 164 < 64 + 104; decide)) (by show 104 ≤ 105; decide)) (by show 164 < 64 + 105; decide)) (by show 105 ≤ 106; decide)) (by show 164 < 64 + 106; decide)) (by show 106 ≤ 107; decide)) (by show 164 < 64 + 107; decide)) (by show 107 ≤ 108; decide)) (by show 164 < 64 + 108; decide)) (by show 108 ≤ 109; decide)) (by show 164 < 64 + 109; decide)) (by show 109 ≤ 110; decide)) (by show 164 < 64 + 110; decide)) (by show 110 ≤ 111; decide)) (by show 164 < 64 + 111; decide)) (by show 111 ≤ 112; decide)) (by show 164 < 64 + 112; decide)) (by show 112 ≤ 113; decide)) (by show 164 < 64 + 113; decide)) (by show 113 ≤ 114; decide)) (by show 164 < 64 + 114; decide)) (by decide) dX8_init_111 rfl ?_
  refine z_putR f_X8_49 ⟨zCl8, by decide, by decide, (fun _ => by show 164 < 64 + 115; decide)⟩ rfl (by decide) (Or.inr ⟨rfl, rfl, rfl, zin 1004 (by decide +kernel) (by decide +kernel)⟩) rfl rfl dX8_init_113 rfl ?_
  refine z_aload_n (i := 0) dX8_init_116 rfl rfl rfl ?_
  refine z_bipush (v := (12 : Int32)) dX8_init_117 (by decide) rfl ?_
  refine z_newa (atype := .int) (n := 115) (kd := 20) (len := 12) (q := 179) rfl (fun _ _ h9 => h9) w_aI (by decide) (by decide) (by decide) (by decide) (by decide) rfl (by decide) rfl (by decide : 64 + 115 = 179) (zcln_R (zcln_N (zcln_R (zcln_N (zcln_R (zcln_N (zcln_R (zcln_N (zcln_R (zcln_N (zcln_R (zcln_N (zcln_R (zcln_N (zcln_R (zcln_N (zcln_R (zcln_N (zcln_R (zcln_N (zcln_R (zcln_N (zcln_R (zcln_N (zcln_R (zcln_N (zcln_R (zcln_N hC (by show s.2.2.2 ≤ 102; rw [hN]; decide)) (by show 164 < 64 + 102; decide)) (by show 102 ≤ 103; decide)) (by show 164 < 64 + 103; decide)) (by show 103 ≤ 104; decide)) (by show 164 < 64 + 104; decide)) (by show 104 ≤ 105; decide)) (by show 164 < 64 + 105; decide)) (by show 105 ≤ 106; decide)) (by show 164 < 64 + 106; decide)) (by show 106 ≤ 107; decide)) (by show 164 < 64 + 107; decide)) (by show 107 ≤ 108; decide)) (by show 164 < 64 + 108; decide)) (by show 108 ≤ 109; decide)) (by show 164 < 64 + 109; decide)) (by show 109 ≤ 110; decide)) (by show 164 < 64 + 110; decide)) (by show 110 ≤ 111; decide)) (by show 164 < 64 + 111; decide)) (by show 111 ≤ 112; decide)) (by show 164 < 64 + 112; decide)) (by show 112 ≤ 113; decide)) (by show 164 < 64 + 113; decide)) (by show 113 ≤ 114; decide)) (by show 164 < 64 + 114; decide)) (by show 114 ≤ 115; decide)) (by show 164 < 64 + 115; decide)) (by decide) dX8_init_119 rfl ?_
  refine z_putR f_X8_52 ⟨zCl8, by decide, by decide, (fun _ => by show 164 < 64 + 116; decide)⟩ rfl (by decide) (Or.inr ⟨rfl, rfl, rfl, zin 1005 (by decide +kernel) (by decide +kernel)⟩) rfl rfl dX8_init_121 rfl ?_
  refine z_aload_n (i := 0) dX8_init_124 rfl rfl rfl ?_
  refine z_bipush (v := (12 : Int32)) dX8_init_125 (by decide) rfl ?_
  refine z_newa (atype := .int) (n := 116) (kd := 20) (len := 12) (q := 180) rfl (fun _ _ h9 => h9) w_aI (by decide) (by decide) (by decide) (by decide) (by decide) rfl (by decide) rfl (by decide : 64 + 116 = 180) (zcln_R (zcln_N (zcln_R (zcln_N (zcln_R (zcln_N (zcln_R (zcln_N (zcln_R (zcln_N (zcln_R (zcln_N (zcln_R (zcln_N (zcln_R (zcln_N (zcln_R (zcln_N (zcln_R (zcln_N (zcln_R (zcln_N (zcln_R (zcln_N (zcln_R (zcln_N (zcln_R (zcln_N (zcln_R (zcln_N hC (by show s.2.2.2 ≤ 102; rw [hN]; decide)) (by show 164 < 64 + 102; decide)) (by show 102 ≤ 103; decide)) (by show 164 < 64 + 103; decide)) (by show 103 ≤ 104; decide)) (by show 164 < 64 + 104; decide)) (by show 104 ≤ 105; decide)) (by show 164 < 64 + 105; decide)) (by show 105 ≤ 106; decide)) (by show 164 < 64 + 106; decide)) (by show 106 ≤ 107; decide)) (by show 164 < 64 + 107; decide)) (by show 107 ≤ 108; decide)) (by show 164 < 64 + 108; decide)) (by show 108 ≤ 109; decide)) (by show 164 < 64 + 109; decide)) (by show 109 ≤ 110; decide)) (by show 164 < 64 + 110; decide)) (by show 110 ≤ 111; decide)) (by show 164 < 64 + 111; decide)) (by show 111 ≤ 112; decide)) (by show 164 < 64 + 112; decide)) (by show 112 ≤ 113; decide)) (by show 164 < 64 + 113; decide)) (by show 113 ≤ 114; decide)) (by show 164 < 64 + 114; decide)) (by show 114 ≤ 115; decide)) (by show 164 < 64 + 115; decide)) (by show 115 ≤ 116; decide)) (by show 164 < 64 + 116; decide)) (by decide) dX8_init_127 rfl ?_
  refine z_putR f_X8_55 ⟨zCl8, by decide, by decide, (fun _ => by show 164 < 64 + 117; decide)⟩ rfl (by decide) (Or.inr ⟨rfl, rfl, rfl, zin 1006 (by decide +kernel) (by decide +kernel)⟩) rfl rfl dX8_init_129 rfl ?_
  refine z_aload_n (i := 0) dX8_init_132 rfl rfl rfl ?_
  refine z_bipush (v := (12 : Int32)) dX8_init_133 (by decide) rfl ?_
  refine z_newa (atype := .int) (n := 117) (kd := 20) (len := 12) (q := 181) rfl (fun _ _ h9 => h9) w_aI (by decide) (by decide) (by decide) (by decide) (by decide) rfl (by decide) rfl (by decide : 64 + 117 = 181) (zcln_R (zcln_N (zcln_R (zcln_N (zcln_R (zcln_N (zcln_R (zcln_N (zcln_R (zcln_N (zcln_R (zcln_N (zcln_R (zcln_N (zcln_R (zcln_N (zcln_R (zcln_N (zcln_R (zcln_N (zcln_R (zcln_N (zcln_R (zcln_N (zcln_R (zcln_N (zcln_R (zcln_N (zcln_R (zcln_N (zcln_R (zcln_N hC (by show s.2.2.2 ≤ 102; rw [hN]; decide)) (by show 164 < 64 + 102; decide)) (by show 102 ≤ 103; decide)) (by show 164 < 64 + 103; decide)) (by show 103 ≤ 104; decide)) (by show 164 < 64 + 104; decide)) (by show 104 ≤ 105; decide)) (by show 164 < 64 + 105; decide)) (by show 105 ≤ 106; decide)) (by show 164 < 64 + 106; decide)) (by show 106 ≤ 107; decide)) (by show 164 < 64 + 107; decide)) (by show 107 ≤ 108; decide)) (by show 164 < 64 + 108; decide)) (by show 108 ≤ 109; decide)) (by show 164 < 64 + 109; decide)) (by show 109 ≤ 110; decide)) (by show 164 < 64 + 110; decide)) (by show 110 ≤ 111; decide)) (by show 164 < 64 + 111; decide)) (by show 111 ≤ 112; decide)) (by show 164 < 64 + 112; decide)) (by show 112 ≤ 113; decide)) (by show 164 < 64 + 113; decide)) (by show 113 ≤ 114; decide)) (by show 164 < 64 + 114; decide)) (by show 114 ≤ 115; decide)) (by show 164 < 64 + 115; decide)) (by show 115 ≤ 116; decide)) (by show 164 < 64 + 116; decide)) (by show 116 ≤ 117; decide)) (by show 164 < 64 + 117; decide)) (by decide) dX8_init_135 rfl ?_
  refine z_putR f_X8_58 ⟨zCl8, by decide, by decide, (fun _ => by show 164 < 64 + 118; decide)⟩ rfl (by decide) (Or.inr ⟨rfl, rfl, rfl, zin 1007 (by decide +kernel) (by decide +kernel)⟩) rfl rfl dX8_init_137 rfl ?_
  refine z_aload_n (i := 0) dX8_init_140 rfl rfl rfl ?_
  refine z_bipush (v := (60 : Int32)) dX8_init_141 (by decide) rfl ?_
  refine z_bipush (v := (9 : Int32)) dX8_init_143 (by decide) rfl ?_
  refine z_mna (n := 118) (q := 182) (a := 60) (b := 9) cl_X8_61 w_aI (by decide) (by decide) (by decide) (by decide) (by decide) (by decide) (by decide) (by decide) (by decide) rfl (by decide : 64 + 118 = 182) (zcln_R (zcln_N (zcln_R (zcln_N (zcln_R (zcln_N (zcln_R (zcln_N (zcln_R (zcln_N (zcln_R (zcln_N (zcln_R (zcln_N (zcln_R (zcln_N (zcln_R (zcln_N (zcln_R (zcln_N (zcln_R (zcln_N (zcln_R (zcln_N (zcln_R (zcln_N (zcln_R (zcln_N (zcln_R (zcln_N (zcln_R (zcln_N (zcln_R (zcln_N hC (by show s.2.2.2 ≤ 102; rw [hN]; decide)) (by show 164 < 64 + 102; decide)) (by show 102 ≤ 103; decide)) (by show 164 < 64 + 103; decide)) (by show 103 ≤ 104; decide)) (by show 164 < 64 + 104; decide)) (by show 104 ≤ 105; decide)) (by show 164 < 64 + 105; decide)) (by show 105 ≤ 106; decide)) (by show 164 < 64 + 106; decide)) (by show 106 ≤ 107; decide)) (by show 164 < 64 + 107; decide)) (by show 107 ≤ 108; decide)) (by show 164 < 64 + 108; decide)) (by show 108 ≤ 109; decide)) (by show 164 < 64 + 109; decide)) (by show 109 ≤ 110; decide)) (by show 164 < 64 + 110; decide)) (by show 110 ≤ 111; decide)) (by show 164 < 64 + 111; decide)) (by show 111 ≤ 112; decide)) (by show 164 < 64 + 112; decide)) (by show 112 ≤ 113; decide)) (by show 164 < 64 + 113; decide)) (by show 113 ≤ 114; decide)) (by show 164 < 64 + 114; decide)) (by show 114 ≤ 115; decide)) (by show 164 < 64 + 115; decide)) (by show 115 ≤ 116; decide)) (by show 164 < 64 + 116; decide)) (by show 116 ≤ 117; decide)) (by show 164 < 64 + 117; decide)) (by show 117 ≤ 118; decide)) (by show 164 < 64 + 118; decide)) (by decide) dX8_init_145 rfl ?_
  refine z_putR f_X8_63 ⟨zCl8, by decide, by decide, (fun _ => by show 164 < 64 + 179; decide)⟩ rfl (by decide) (Or.inr ⟨rfl, rfl, rfl, zin 1014 (by decide +kernel) (by decide +kernel)⟩) rfl rfl dX8_init_149 rfl ?_
  refine z_aload_n (i := 0) dX8_init_152 rfl rfl rfl ?_
  refine z_bipush (v := (8 : Int32)) dX8_init_153 (by decide) rfl ?_
  refine z_putI f_X8_66 ⟨zCl8, by decide, by decide, (fun _ => by show 164 < 64 + 179; decide)⟩ rfl (Or.inl rfl) rfl rfl dX8_init_155 rfl ?_
  refine z_aload_n (i := 0) dX8_init_158 rfl rfl rfl ?_
  refine z_bipush (v := (20 : Int32)) dX8_init_159 (by decide) rfl ?_
  refine z_putI f_X8_70 ⟨zCl8, by decide, by decide, (fun _ => by show 164 < 64 + 179; decide)⟩ rfl (Or.inl rfl) rfl rfl dX8_init_161 rfl ?_
  refine z_aload_n (i := 0) dX8_init_164 rfl rfl rfl ?_
  refine z_bipush (v := (60 : Int32)) dX8_init_165 (by decide) rfl ?_
  refine z_newa (atype := .int) (n := 179) (kd := 20) (len := 60) (q := 243) rfl (fun _ _ h9 => h9) w_aI (by decide) (by decide) (by decide) (by decide) (by decide) rfl (by decide) rfl (by decide : 64 + 179 = 243) (zcln_I (zcln_I (zcln_R (zcln_M (zcln_R (zcln_N (zcln_R (zcln_N (zcln_R (zcln_N (zcln_R (zcln_N (zcln_R (zcln_N (zcln_R (zcln_N (zcln_R (zcln_N (zcln_R (zcln_N (zcln_R (zcln_N (zcln_R (zcln_N (zcln_R (zcln_N (zcln_R (zcln_N (zcln_R (zcln_N (zcln_R (zcln_N (zcln_R (zcln_N (zcln_R (zcln_N (zcln_R (zcln_N hC (by show s.2.2.2 ≤ 102; rw [hN]; decide)) (by show 164 < 64 + 102; decide)) (by show 102 ≤ 103; decide)) (by show 164 < 64 + 103; decide)) (by show 103 ≤ 104; decide)) (by show 164 < 64 + 104; decide)) (by show 104 ≤ 105; decide)) (by show 164 < 64 + 105; decide)) (by show 105 ≤ 106; decide)) (by show 164 < 64 + 106; decide)) (by show 106 ≤ 107; decide)) (by show 164 < 64 + 107; decide)) (by show 107 ≤ 108; decide)) (by show 164 < 64 + 108; decide)) (by show 108 ≤ 109; decide)) (by show 164 < 64 + 109; decide)) (by show 109 ≤ 110; decide)) (by show 164 < 64 + 110; decide)) (by show 110 ≤ 111; decide)) (by show 164 < 64 + 111; decide)) (by show 111 ≤ 112; decide)) (by show 164 < 64 + 112; decide)) (by show 112 ≤ 113; decide)) (by show 164 < 64 + 113; decide)) (by show 113 ≤ 114; decide)) (by show 164 < 64 + 114; decide)) (by show 114 ≤ 115; decide)) (by show 164 < 64 + 115; decide)) (by show 115 ≤ 116; decide)) (by show 164 < 64 + 116; decide)) (by show 116 ≤ 117; decide)) (by show 164 < 64 + 117; decide)) (by show 117 ≤ 118; decide)) (by show 164 < 64 + 118; decide)) rfl (by decide)) (by show 164 < 64 + 179; decide)) (by show 164 < 64 + 179; decide)) (by show 164 < 64 + 179; decide)) (by decide) dX8_init_167 rfl ?_
  refine z_putR f_X8_73 ⟨zCl8, by decide, by decide, (fun _ => by show 164 < 64 + 180; decide)⟩ rfl (by decide) (Or.inr ⟨rfl, rfl, rfl, zin 1018 (by decide +kernel) (by decide +kernel)⟩) rfl rfl dX8_init_169 rfl ?_
  refine z_aload_n (i := 0) dX8_init_172 rfl rfl rfl ?_
  refine z_sipush (v := (400 : Int32)) dX8_init_173 (by decide) rfl ?_
  refine z_newa (atype := .byte) (n := 180) (kd := 21) (len := 400) (q := 244) rfl (fun _ _ h9 => h9) w_aB (by decide) (by decide) (by decide) (by decide) (by decide) rfl (by decide) rfl (by decide : 64 + 180 = 244) (zcln_R (zcln_N (zcln_I (zcln_I (zcln_R (zcln_M (zcln_R (zcln_N (zcln_R (zcln_N (zcln_R (zcln_N (zcln_R (zcln_N (zcln_R (zcln_N (zcln_R (zcln_N (zcln_R (zcln_N (zcln_R (zcln_N (zcln_R (zcln_N (zcln_R (zcln_N (zcln_R (zcln_N (zcln_R (zcln_N (zcln_R (zcln_N (zcln_R (zcln_N (zcln_R (zcln_N (zcln_R (zcln_N (zcln_R (zcln_N hC (by show s.2.2.2 ≤ 102; rw [hN]; decide)) (by show 164 < 64 + 102; decide)) (by show 102 ≤ 103; decide)) (by show 164 < 64 + 103; decide)) (by show 103 ≤ 104; decide)) (by show 164 < 64 + 104; decide)) (by show 104 ≤ 105; decide)) (by show 164 < 64 + 105; decide)) (by show 105 ≤ 106; decide)) (by show 164 < 64 + 106; decide)) (by show 106 ≤ 107; decide)) (by show 164 < 64 + 107; decide)) (by show 107 ≤ 108; decide)) (by show 164 < 64 + 108; decide)) (by show 108 ≤ 109; decide)) (by show 164 < 64 + 109; decide)) (by show 109 ≤ 110; decide)) (by show 164 < 64 + 110; decide)) (by show 110 ≤ 111; decide)) (by show 164 < 64 + 111; decide)) (by show 111 ≤ 112; decide)) (by show 164 < 64 + 112; decide)) (by show 112 ≤ 113; decide)) (by show 164 < 64 + 113; decide)) (by show 113 ≤ 114; decide)) (by show 164 < 64 + 114; decide)) (by show 114 ≤ 115; decide)) (by show 164 < 64 + 115; decide)) (by show 115 ≤ 116; decide)) (by show 164 < 64 + 116; decide)) (by show 116 ≤ 117; decide)) (by show 164 < 64 + 117; decide)) (by show 117 ≤ 118; decide)) (by show 164 < 64 + 118; decide)) rfl (by decide)) (by show 164 < 64 + 179; decide)) (by show 164 < 64 + 179; decide)) (by show 164 < 64 + 179; decide)) (by show 179 ≤ 180; decide)) (by show 164 < 64 + 180; decide)) (by decide) dX8_init_176 rfl ?_
  refine z_putR f_X8_76 ⟨zCl8, by decide, by decide, (fun _ => by show 164 < 64 + 181; decide)⟩ rfl (by decide) (Or.inr ⟨rfl, rfl, rfl, zin 1019 (by decide +kernel) (by decide +kernel)⟩) rfl rfl dX8_init_178 rfl ?_
  refine z_aload_n (i := 0) dX8_init_181 rfl rfl rfl ?_
  refine z_iconst (v := (2 : Int32)) dX8_init_182 (by decide) rfl ?_
  refine z_sipush (v := (420 : Int32)) dX8_init_183 (by decide) rfl ?_
  refine z_mna (n := 181) (q := 245) (a := 2) (b := 420) cl_X8_61 w_aI (by decide) (by decide) (by decide) (by decide) (by decide) (by decide) (by decide) (by decide) (by decide) rfl (by decide : 64 + 181 = 245) (zcln_R (zcln_N (zcln_R (zcln_N (zcln_I (zcln_I (zcln_R (zcln_M (zcln_R (zcln_N (zcln_R (zcln_N (zcln_R (zcln_N (zcln_R (zcln_N (zcln_R (zcln_N (zcln_R (zcln_N (zcln_R (zcln_N (zcln_R (zcln_N (zcln_R (zcln_N (zcln_R (zcln_N (zcln_R (zcln_N (zcln_R (zcln_N (zcln_R (zcln_N (zcln_R (zcln_N (zcln_R (zcln_N (zcln_R (zcln_N (zcln_R (zcln_N hC (by show s.2.2.2 ≤ 102; rw [hN]; decide)) (by show 164 < 64 + 102; decide)) (by show 102 ≤ 103; decide)) (by show 164 < 64 + 103; decide)) (by show 103 ≤ 104; decide)) (by show 164 < 64 + 104; decide)) (by show 104 ≤ 105; decide)) (by show 164 < 64 + 105; decide)) (by show 105 ≤ 106; decide)) (by show 164 < 64 + 106; decide)) (by show 106 ≤ 107; decide)) (by show 164 < 64 + 107; decide)) (by show 107 ≤ 108; decide)) (by show 164 < 64 + 108; decide)) (by show 108 ≤ 109; decide)) (by show 164 < 64 + 109; decide)) (by show 109 ≤ 110; decide)) (by show 164 < 64 + 110; decide)) (by show 110 ≤ 111; decide)) (by show 164 < 64 + 111; decide)) (by show 111 ≤ 112; decide)) (by show 164 < 64 + 112; decide)) (by show 112 ≤ 113; decide)) (by show 164 < 64 + 113; decide)) (by show 113 ≤ 114; decide)) (by show 164 < 64 + 114; decide)) (by show 114 ≤ 115; decide)) (by show 164 < 64 + 115; decide)) (by show 115 ≤ 116; decide)) (by show 164 < 64 + 116; decide)) (by show 116 ≤ 117; decide)) (by show 164 < 64 + 117; decide)) (by show 117 ≤ 118; decide)) (by show 164 < 64 + 118; decide)) rfl (by decide)) (by show 164 < 64 + 179; decide)) (by show 164 < 64 + 179; decide)) (by show 164 < 64 + 179; decide)) (by show 179 ≤ 180; decide)) (by show 164 < 64 + 180; decide)) (by show 180 ≤ 181; decide)) (by show 164 < 64 + 181; decide)) (by decide) dX8_init_186 rfl ?_
  refine z_putR f_X8_80 ⟨zCl8, by decide, by decide, (fun _ => by show 164 < 64 + 184; decide)⟩ rfl (by decide) (Or.inr ⟨rfl, rfl, rfl, zin 1024 (by decide +kernel) (by decide +kernel)⟩) rfl rfl dX8_init_190 rfl ?_
  refine z_aload_n (i := 0) dX8_init_193 rfl rfl rfl ?_
  refine z_iconst (v := (2 : Int32)) dX8_init_194 (by decide) rfl ?_
  refine z_bipush (v := (13 : Int32)) dX8_init_195 (by decide) rfl ?_
  refine z_mna (n := 184) (q := 248) (a := 2) (b := 13) cl_X8_61 w_aI (by decide) (by decide) (by decide) (by decide) (by decide) (by decide) (by decide) (by decide) (by decide) rfl (by decide : 64 + 184 = 248) (zcln_R (zcln_M (zcln_R (zcln_N (zcln_R (zcln_N (zcln_I (zcln_I (zcln_R (zcln_M (zcln_R (zcln_N (zcln_R (zcln_N (zcln_R (zcln_N (zcln_R (zcln_N (zcln_R (zcln_N (zcln_R (zcln_N (zcln_R (zcln_N (zcln_R (zcln_N (zcln_R (zcln_N (zcln_R (zcln_N (zcln_R (zcln_N (zcln_R (zcln_N (zcln_R (zcln_N (zcln_R (zcln_N (zcln_R (zcln_N (zcln_R (zcln_N (zcln_R (zcln_N hC (by show s.2.2.2 ≤ 102; rw [hN]; decide)) (by show 164 < 64 + 102; decide)) (by show 102 ≤ 103; decide)) (by show 164 < 64 + 103; decide)) (by show 103 ≤ 104; decide)) (by show 164 < 64 + 104; decide)) (by show 104 ≤ 105; decide)) (by show 164 < 64 + 105; decide)) (by show 105 ≤ 106; decide)) (by show 164 < 64 + 106; decide)) (by show 106 ≤ 107; decide)) (by show 164 < 64 + 107; decide)) (by show 107 ≤ 108; decide)) (by show 164 < 64 + 108; decide)) (by show 108 ≤ 109; decide)) (by show 164 < 64 + 109; decide)) (by show 109 ≤ 110; decide)) (by show 164 < 64 + 110; decide)) (by show 110 ≤ 111; decide)) (by show 164 < 64 + 111; decide)) (by show 111 ≤ 112; decide)) (by show 164 < 64 + 112; decide)) (by show 112 ≤ 113; decide)) (by show 164 < 64 + 113; decide)) (by show 113 ≤ 114; decide)) (by show 164 < 64 + 114; decide)) (by show 114 ≤ 115; decide)) (by show 164 < 64 + 115; decide)) (by show 115 ≤ 116; decide)) (by show 164 < 64 + 116; decide)) (by show 116 ≤ 117; decide)) (by show 164 < 64 + 117; decide)) (by show 117 ≤ 118; decide)) (by show 164 < 64 + 118; decide)) rfl (by decide)) (by show 164 < 64 + 179; decide)) (by show 164 < 64 + 179; decide)) (by show 164 < 64 + 179; decide)) (by show 179 ≤ 180; decide)) (by show 164 < 64 + 180; decide)) (by show 180 ≤ 181; decide)) (by show 164 < 64 + 181; decide)) rfl (by decide)) (by show 164 < 64 + 184; decide)) (by decide) dX8_init_197 rfl ?_
  refine z_putR f_X8_83 ⟨zCl8, by decide, by decide, (fun _ => by show 164 < 64 + 187; decide)⟩ rfl (by decide) (Or.inr ⟨rfl, rfl, rfl, zin 1025 (by decide +kernel) (by decide +kernel)⟩) rfl rfl dX8_init_201 rfl ?_
  refine z_aload_n (i := 0) dX8_init_204 rfl rfl rfl ?_
  refine z_iconst (v := (2 : Int32)) dX8_init_205 (by decide) rfl ?_
  refine z_bipush (v := (13 : Int32)) dX8_init_206 (by decide) rfl ?_
  refine z_mna (n := 187) (q := 251) (a := 2) (b := 13) cl_X8_61 w_aI (by decide) (by decide) (by decide) (by decide) (by decide) (by decide) (by decide) (by decide) (by decide) rfl (by decide : 64 + 187 = 251) (zcln_R (zcln_M (zcln_R (zcln_M (zcln_R (zcln_N (zcln_R (zcln_N (zcln_I (zcln_I (zcln_R (zcln_M (zcln_R (zcln_N (zcln_R (zcln_N (zcln_R (zcln_N (zcln_R (zcln_N (zcln_R (zcln_N (zcln_R (zcln_N (zcln_R (zcln_N (zcln_R (zcln_N (zcln_R (zcln_N (zcln_R (zcln_N (zcln_R (zcln_N (zcln_R (zcln_N (zcln_R (zcln_N (zcln_R (zcln_N (zcln_R (zcln_N (zcln_R (zcln_N (zcln_R (zcln_N hC (by show s.2.2.2 ≤ 102; rw [hN]; decide)) (by show 164 < 64 + 102; decide)) (by show 102 ≤ 103; decide)) (by show 164 < 64 + 103; decide)) (by show 103 ≤ 104; decide)) (by show 164 < 64 + 104; decide)) (by show 104 ≤ 105; decide)) (by show 164 < 64 + 105; decide)) (by show 105 ≤ 106; decide)) (by show 164 < 64 + 106; decide)) (by show 106 ≤ 107; decide)) (by show 164 < 64 + 107; decide)) (by show 107 ≤ 108; decide)) (by show 164 < 64 + 108; decide)) (by show 108 ≤ 109; decide)) (by show 164 < 64 + 109; decide)) (by show 109 ≤ 110; decide)) (by show 164 < 64 + 110; decide)) (by show 110 ≤ 111; decide)) (by show 164 < 64 + 111; decide)) (by show 111 ≤ 112; decide)) (by show 164 < 64 + 112; decide)) (by show 112 ≤ 113; decide)) (by show 164 < 64 + 113; decide)) (by show 113 ≤ 114; decide)) (by show 164 < 64 + 114; decide)) (by show 114 ≤ 115; decide)) (by show 164 < 64 + 115; decide)) (by show 115 ≤ 116; decide)) (by show 164 < 64 + 116; decide)) (by show 116 ≤ 117; decide)) (by show 164 < 64 + 117; decide)) (by show 117 ≤ 118; decide)) (by show 164 < 64 + 118; decide)) rfl (by decide)) (by show 164 < 64 + 179; decide)) (by show 164 < 64 + 179; decide)) (by show 164 < 64 + 179; decide)) (by show 179 ≤ 180; decide)) (by show 164 < 64 + 180; decide)) (by show 180 ≤ 181; decide)) (by show 164 < 64 + 181; decide)) rfl (by decide)) (by show 164 < 64 + 184; decide)) rfl (by decide)) (by show 164 < 64 + 187; decide)) (by decide) dX8_init_208 rfl ?_
  refine z_putR f_X8_86 ⟨zCl8, by decide, by decide, (fun _ => by show 164 < 64 + 190; decide)⟩ rfl (by decide) (Or.inr ⟨rfl, rfl, rfl, zin 1026 (by decide +kernel) (by decide +kernel)⟩) rfl rfl dX8_init_212 rfl ?_
  refine z_aload_n (i := 0) dX8_init_215 rfl rfl rfl ?_
  refine z_iconst (v := (2 : Int32)) dX8_init_216 (by decide) rfl ?_
  refine z_bipush (v := (13 : Int32)) dX8_init_217 (by decide) rfl ?_
  refine z_mna (n := 190) (q := 254) (a := 2) (b := 13) cl_X8_61 w_aI (by decide) (by decide) (by decide) (by decide) (by decide) (by decide) (by decide) (by decide) (by decide) rfl (by decide : 64 + 190 = 254) (zcln_R (zcln_M (zcln_R (zcln_M (zcln_R (zcln_M (zcln_R (zcln_N (zcln_R (zcln_N (zcln_I (zcln_I (zcln_R (zcln_M (zcln_R (zcln_N (zcln_R (zcln_N (zcln_R (zcln_N (zcln_R (zcln_N (zcln_R (zcln_N (zcln_R (zcln_N (zcln_R (zcln_N (zcln_R (zcln_N (zcln_R (zcln_N (zcln_R (zcln_N (zcln_R (zcln_N (zcln_R (zcln_N (zcln_R (zcln_N (zcln_R (zcln_N (zcln_R (zcln_N (zcln_R (zcln_N (zcln_R (zcln_N hC (by show s.2.2.2 ≤ 102; rw [hN]; decide)) (by show 164 < 64 + 102; decide)) (by show 102 ≤ 103; decide)) (by show 164 < 64 + 103; decide)) (by show 103 ≤ 104; decide)) (by show 164 < 64 + 104; decide)) (by show 104 ≤ 105; decide)) (by show 164 < 64 + 105; decide)) (by show 105 ≤ 106; decide)) (by show 164 < 64 + 106; decide)) (by show 106 ≤ 107; decide)) (by show 164 < 64 + 107; decide)) (by show 107 ≤ 108; decide)) (by show 164 < 64 + 108; decide)) (by show 108 ≤ 109; decide)) (by show 164 < 64 + 109; decide)) (by show 109 ≤ 110; decide)) (by show 164 < 64 + 110; decide)) (by show 110 ≤ 111; decide)) (by show 164 < 64 + 111; decide)) (by show 111 ≤ 112; decide)) (by show 164 < 64 + 112; decide)) (by show 112 ≤ 113; decide)) (by show 164 < 64 + 113; decide)) (by show 113 ≤ 114; decide)) (by show 164 < 64 + 114; decide)) (by show 114 ≤ 115; decide)) (by show 164 < 64 + 115; decide)) (by show 115 ≤ 116; decide)) (by show 164 < 64 + 116; decide)) (by show 116 ≤ 117; decide)) (by show 164 < 64 + 117; decide)) (by show 117 ≤ 118; decide)) (by show 164 < 64 + 118; decide)) rfl (by decide)) (by show 164 < 64 + 179; decide)) (by show 164 < 64 + 179; decide)) (by show 164 < 64 + 179; decide)) (by show 179 ≤ 180; decide)) (by show 164 < 64 + 180; decide)) (by show 180 ≤ 181; decide)) (by show 164 < 64 + 181; decide)) rfl (by decide)) (by show 164 < 64 + 184; decide)) rfl (by decide)) (by show 164 < 64 + 187; decide)) rfl (by decide)) (by show 164 < 64 + 190; decide)) (by decide) dX8_init_219 rfl ?_
  refine z_putR f_X8_89 ⟨zCl8, by decide, by decide, (fun _ => by show 164 < 64 + 193; decide)⟩ rfl (by decide) (Or.inr ⟨rfl, rfl, rfl, zin 1027 (by decide +kernel) (by decide +kernel)⟩) rfl rfl dX8_init_223 rfl ?_
  refine z_aload_n (i := 0) dX8_init_226 rfl rfl rfl ?_
  refine z_iconst (v := (2 : Int32)) dX8_init_227 (by decide) rfl ?_
  refine z_newa (atype := .int) (n := 193) (kd := 20) (len := 2) (q := 257) rfl (fun _ _ h9 => h9) w_aI (by decide) (by decide) (by decide) (by decide) (by decide) rfl (by decide) rfl (by decide : 64 + 193 = 257) (zcln_R (zcln_M (zcln_R (zcln_M (zcln_R (zcln_M (zcln_R (zcln_M (zcln_R (zcln_N (zcln_R (zcln_N (zcln_I (zcln_I (zcln_R (zcln_M (zcln_R (zcln_N (zcln_R (zcln_N (zcln_R (zcln_N (zcln_R (zcln_N (zcln_R (zcln_N (zcln_R (zcln_N (zcln_R (zcln_N (zcln_R (zcln_N (zcln_R (zcln_N (zcln_R (zcln_N (zcln_R (zcln_N (zcln_R (zcln_N (zcln_R (zcln_N (zcln_R (zcln_N (zcln_R (zcln_N (zcln_R (zcln_N (zcln_R (zcln_N hC (by show s.2.2.2 ≤ 102; rw [hN]; decide)) (by show 164 < 64 + 102; decide)) (by show 102 ≤ 103; decide)) (by show 164 < 64 + 103; decide)) (by show 103 ≤ 104; decide)) (by show 164 < 64 + 104; decide)) (by show 104 ≤ 105; decide)) (by show 164 < 64 + 105; decide)) (by show 105 ≤ 106; decide)) (by show 164 < 64 + 106; decide)) (by show 106 ≤ 107; decide)) (by show 164 < 64 + 107; decide)) (by show 107 ≤ 108; decide)) (by show 164 < 64 + 108; decide)) (by show 108 ≤ 109; decide)) (by show 164 < 64 + 109; decide)) (by show 109 ≤ 110; decide)) (by show 164 < 64 + 110; decide)) (by show 110 ≤ 111; decide)) (by show 164 < 64 + 111; decide)) (by show 111 ≤ 112; decide)) (by show 164 < 64 + 112; decide)) (by show 112 ≤ 113; decide)) (by show 164 < 64 + 113; decide)) (by show 113 ≤ 114; decide)) (by show 164 < 64 + 114; decide)) (by show 114 ≤ 115; decide)) (by show 164 < 64 + 115; decide)) (by show 115 ≤ 116; decide)) (by show 164 < 64 + 116; decide)) (by show 116 ≤ 117; decide)) (by show 164 < 64 + 117; decide)) (by show 117 ≤ 118; decide)) (by show 164 < 64 + 118; decide)) rfl (by decide)) (by show 164 < 64 + 179; decide)) (by show 164 < 64 + 179; decide)) (by show 164 < 64 + 179; decide)) (by show 179 ≤ 180; decide)) (by show 164 < 64 + 180; decide)) (by show 180 ≤ 181; decide)) (by show 164 < 64 + 181; decide)) rfl (by decide)) (by show 164 < 64 + 184; decide)) rfl (by decide)) (by show 164 < 64 + 187; decide)) rfl (by decide)) (by show 164 < 64 + 190; decide)) rfl (by decide)) (by show 164 < 64 + 193; decide)) (by decide) dX8_init_228 rfl ?_
  refine z_putR f_X8_92 ⟨zCl8, by decide, by decide, (fun _ => by show 164 < 64 + 194; decide)⟩ rfl (by decide) (Or.inr ⟨rfl, rfl, rfl, zin 1028 (by decide +kernel) (by decide +kernel)⟩) rfl rfl dX8_init_230 rfl ?_
  refine z_aload_n (i := 0) dX8_init_233 rfl rfl rfl ?_
  refine z_iconst (v := (2 : Int32)) dX8_init_234 (by decide) rfl ?_
  refine z_newa (atype := .int) (n := 194) (kd := 20) (len := 2) (q := 258) rfl (fun _ _ h9 => h9) w_aI (by decide) (by decide) (by decide) (by decide) (by decide) rfl (by decide) rfl (by decide : 64 + 194 = 258) (zcln_R (zcln_N (zcln_R (zcln_M (zcln_R (zcln_M (zcln_R (zcln_M (zcln_R (zcln_M (zcln_R (zcln_N (zcln_R (zcln_N (zcln_I (zcln_I (zcln_R (zcln_M (zcln_R (zcln_N (zcln_R (zcln_N (zcln_R (zcln_N (zcln_R (zcln_N (zcln_R (zcln_N (zcln_R (zcln_N (zcln_R (zcln_N (zcln_R (zcln_N (zcln_R (zcln_N (zcln_R (zcln_N (zcln_R (zcln_N (zcln_R (zcln_N (zcln_R (zcln_N (zcln_R (zcln_N (zcln_R (zcln_N (zcln_R (zcln_N (zcln_R (zcln_N hC (by show s.2.2.2 ≤ 102; rw [hN]; decide)) (by show 164 < 64 + 102; decide)) (by show 102 ≤ 103; decide)) (by show 164 < 64 + 103; decide)) (by show 103 ≤ 104; decide)) (by show 164 < 64 + 104; decide)) (by show 104 ≤ 105; decide)) (by show 164 < 64 + 105; decide)) (by show 105 ≤ 106; decide)) (by show 164 < 64 + 106; decide)) (by show 106 ≤ 107; decide)) (by show 164 < 64 + 107; decide)) (by show 107 ≤ 108; decide)) (by show 164 < 64 + 108; decide)) (by show 108 ≤ 109; decide)) (by show 164 < 64 + 109; decide)) (by show 109 ≤ 110; decide)) (by show 164 < 64 + 110; decide)) (by show 110 ≤ 111; decide)) (by show 164 < 64 + 111; decide)) (by show 111 ≤ 112; decide)) (by show 164 < 64 + 112; decide)) (by show 112 ≤ 113; decide)) (by show 164 < 64 + 113; decide)) (by show 113 ≤ 114; decide)) (by show 164 < 64 + 114; decide)) (by show 114 ≤ 115; decide)) (by show 164 < 64 + 115; decide)) (by show 115 ≤ 116; decide)) (by show 164 < 64 + 116; decide)) (by show 116 ≤ 117; decide)) (by show 164 < 64 + 117; decide)) (by show 117 ≤ 118; decide)) (by show 164 < 64 + 118; decide)) rfl (by decide)) (by show 164 < 64 + 179; decide)) (by show 164 < 64 + 179; decide)) (by show 164 < 64 + 179; decide)) (by show 179 ≤ 180; decide)) (by show 164 < 64 + 180; decide)) (by show 180 ≤ 181; decide)) (by show 164 < 64 + 181; decide)) rfl (by decide)) (by show 164 < 64 + 184; decide)) rfl (by decide)) (by show 164 < 64 + 187; decide)) rfl (by decide)) (by show 164 < 64 + 190; decide)) rfl (by decide)) (by show 164 < 64 + 193; decide)) (by show 193 ≤ 194; decide)) (by show 164 < 64 + 194; decide)) (by decide) dX8_init_235 rfl ?_
  refine z_putR f_X8_95 ⟨zCl8, by decide, by decide, (fun _ => by show 164 < 64 + 195; decide)⟩ rfl (by decide) (Or.inr ⟨rfl, rfl, rfl, zin 1029 (by decide +kernel) (by decide +kernel)⟩) rfl rfl dX8_init_237 rfl ?_
  refine z_aload_n (i := 0) dX8_init_240 rfl rfl rfl ?_
  refine z_iconst (v := (2 : Int32)) dX8_init_241 (by decide) rfl ?_
  refine z_newa (atype := .boolean) (n := 195) (kd := 22) (len := 2) (q := 259) rfl (fun _ _ h9 => h9) w_aZ (by decide) (by decide) (by decide) (by decide) (by decide) rfl (by decide) rfl (by decide : 64 + 195 = 259) (zcln_R (zcln_N (zcln_R (zcln_N (zcln_R (zcln_M (zcln_R (zcln_M (zcln_R (zcln_M (zcln_R (zcln_M (zcln_R (zcln_N (zcln_R (zcln_N (zcln_I (zcln_I (zcln_R (zcln_M (zcln_R (zcln_N (zcln_R (zcln_N (zcln_R (zcln_N (zcln_R (zcln_N (zcln_R (zcln_N (zcln_R (zcln_N (zcln_R (zcln_N (zcln_R (zcln_N (zcln_R (zcln_N (zcln_R (zcln_N (zcln_R (zcln_N (zcln_R (zcln_N (zcln_R (zcln_N (zcln_R (zcln_N (zcln_R (zcln_N (zcln_R (zcln_N (zcln_R (zcln_N hC (by show s.2.2.2 ≤ 102; rw [hN]; decide)) (by show 164 < 64 + 102; decide)) (by show 102 ≤ 103; decide)) (by show 164 < 64 + 103; decide)) (by show 103 ≤ 104; decide)) (by show 164 < 64 + 104; decide)) (by show 104 ≤ 105; decide)) (by show 164 < 64 + 105; decide)) (by show 105 ≤ 106; decide)) (by show 164 < 64 + 106; decide)) (by show 106 ≤ 107; decide)) (by show 164 < 64 + 107; decide)) (by show 107 ≤ 108; decide)) (by show 164 < 64 + 108; decide)) (by show 108 ≤ 109; decide)) (by show 164 < 64 + 109; decide)) (by show 109 ≤ 110; decide)) (by show 164 < 64 + 110; decide)) (by show 110 ≤ 111; decide)) (by show 164 < 64 + 111; decide)) (by show 111 ≤ 112; decide)) (by show 164 < 64 + 112; decide)) (by show 112 ≤ 113; decide)) (by show 164 < 64 + 113; decide)) (by show 113 ≤ 114; decide)) (by show 164 < 64 + 114; decide)) (by show 114 ≤ 115; decide)) (by show 164 < 64 + 115; decide)) (by show 115 ≤ 116; decide)) (by show 164 < 64 + 116; decide)) (by show 116 ≤ 117; decide)) (by show 164 < 64 + 117; decide)) (by show 117 ≤ 118; decide)) (by show 164 < 64 + 118; decide)) rfl (by decide)) (by show 164 < 64 + 179; decide)) (by show 164 < 64 + 179; decide)) (by show 164 < 64 + 179; decide)) (by show 179 ≤ 180; decide)) (by show 164 < 64 + 180; decide)) (by show 180 ≤ 181; decide)) (by show 164 < 64 + 181; decide)) rfl (by decide)) (by show 164 < 64 + 184; decide)) rfl (by decide)) (by show 164 < 64 + 187; decide)) rfl (by decide)) (by show 164 < 64 + 190; decide)) rfl (by decide)) (by show 164 < 64 + 193; decide)) (by show 193 ≤ 194; decide)) (by show 164 < 64 + 194; decide)) (by show 194 ≤ 195; decide)) (by show 164 < 64 + 195; decide)) (by decide) dX8_init_242 rfl ?_
  refine z_putR f_X8_98 ⟨zCl8, by decide, by decide, (fun _ => by show 164 < 64 + 196; decide)⟩ rfl (by decide) (Or.inr ⟨rfl, rfl, rfl, zin 1030 (by decide +kernel) (by decide +kernel)⟩) rfl rfl dX8_init_244 rfl ?_
  refine z_aload_n (i := 0) dX8_init_247 rfl rfl rfl ?_
  refine z_sipush (v := (420 : Int32)) dX8_init_248 (by decide) rfl ?_
  refine z_newa (atype := .int) (n := 196) (kd := 20) (len := 420) (q := 260) rfl (fun _ _ h9 => h9) w_aI (by decide) (by decide) (by decide) (by decide) (by decide) rfl (by decide) rfl (by decide : 64 + 196 = 260) (zcln_R (zcln_N (zcln_R (zcln_N (zcln_R (zcln_N (zcln_R (zcln_M (zcln_R (zcln_M (zcln_R (zcln_M (zcln_R (zcln_M (zcln_R (zcln_N (zcln_R (zcln_N (zcln_I (zcln_I (zcln_R (zcln_M (zcln_R (zcln_N (zcln_R (zcln_N (zcln_R (zcln_N (zcln_R (zcln_N (zcln_R (zcln_N (zcln_R (zcln_N (zcln_R (zcln_N (zcln_R (zcln_N (zcln_R (zcln_N (zcln_R (zcln_N (zcln_R (zcln_N (zcln_R (zcln_N (zcln_R (zcln_N (zcln_R (zcln_N (zcln_R (zcln_N (zcln_R (zcln_N (zcln_R (zcln_N hC (by show s.2.2.2 ≤ 102; rw [hN]; decide)) (by show 164 < 64 + 102; decide)) (by show 102 ≤ 103; decide)) (by show 164 < 64 + 103; decide)) (by show 103 ≤ 104; decide)) (by show 164 < 64 + 104; decide)) (by show 104 ≤ 105; decide)) (by show 164 < 64 + 105; decide)) (by show 105 ≤ 106; decide)) (by show 164 < 64 + 106; decide)) (by show 106 ≤ 107; decide)) (by show 164 < 64 + 107; decide)) (by show 107 ≤ 108; decide)) (by show 164 < 64 + 108; decide)) (by show 108 ≤ 109; decide)) (by show 164 < 64 + 109; decide)) (by show 109 ≤ 110; decide)) (by show 164 < 64 + 110; decide)) (by show 110 ≤ 111; decide)) (by show 164 < 64 + 111; decide)) (by show 111 ≤ 112; decide)) (by show 164 < 64 + 112; decide)) (by show 112 ≤ 113; decide)) (by show 164 < 64 + 113; decide)) (by show 113 ≤ 114; decide)) (by show 164 < 64 + 114; decide)) (by show 114 ≤ 115; decide)) (by show 164 < 64 + 115; decide)) (by show 115 ≤ 116; decide)) (by show 164 < 64 + 116; decide)) (by show 116 ≤ 117; decide)) (by show 164 < 64 + 117; decide)) (by show 117 ≤ 118; decide)) (by show 164 < 64 + 118; decide)) rfl (by decide)) (by show 164 < 64 + 179; decide)) (by show 164 < 64 + 179; decide)) (by show 164 < 64 + 179; decide)) (by show 179 ≤ 180; decide)) (by show 164 < 64 + 180; decide)) (by show 180 ≤ 181; decide)) (by show 164 < 64 + 181; decide)) rfl (by decide)) (by show 164 < 64 + 184; decide)) rfl (by decide)) (by show 164 < 64 + 187; decide)) rfl (by decide)) (by show 164 < 64 + 190; decide)) rfl (by decide)) (by show 164 < 64 + 193; decide)) (by show 193 ≤ 194; decide)) (by show 164 < 64 + 194; decide)) (by show 194 ≤ 195; decide)) (by show 164 < 64 + 195; decide)) (by show 195 ≤ 196; decide)) (by show 164 < 64 + 196; decide)) (by decide) dX8_init_251 rfl ?_
  refine z_putR f_X8_102 ⟨zCl8, by decide, by decide, (fun _ => by show 164 < 64 + 197; decide)⟩ rfl (by decide) (Or.inr ⟨rfl, rfl, rfl, zin 1031 (by decide +kernel) (by decide +kernel)⟩) rfl rfl dX8_init_253 rfl ?_
  refine z_aload_n (i := 0) dX8_init_256 rfl rfl rfl ?_
  refine z_bipush (v := (7 : Int32)) dX8_init_257 (by decide) rfl ?_
  refine z_newa (atype := .int) (n := 197) (kd := 20) (len := 7) (q := 261) rfl (fun _ _ h9 => h9) w_aI (by decide) (by decide) (by decide) (by decide) (by decide) rfl (by decide) rfl (by decide : 64 + 197 = 261) (zcln_R (zcln_N (zcln_R (zcln_N (zcln_R (zcln_N (zcln_R (zcln_N (zcln_R (zcln_M (zcln_R (zcln_M (zcln_R (zcln_M (zcln_R (zcln_M (zcln_R (zcln_N (zcln_R (zcln_N (zcln_I (zcln_I (zcln_R (zcln_M (zcln_R (zcln_N (zcln_R (zcln_N (zcln_R (zcln_N (zcln_R (zcln_N (zcln_R (zcln_N (zcln_R (zcln_N (zcln_R (zcln_N (zcln_R (zcln_N (zcln_R (zcln_N (zcln_R (zcln_N (zcln_R (zcln_N (zcln_R (zcln_N (zcln_R (zcln_N (zcln_R (zcln_N (zcln_R (zcln_N (zcln_R (zcln_N (zcln_R (zcln_N hC (by show s.2.2.2 ≤ 102; rw [hN]; decide)) (by show 164 < 64 + 102; decide)) (by show 102 ≤ 103; decide)) (by show 164 < 64 + 103; decide)) (by show 103 ≤ 104; decide)) (by show 164 < 64 + 104; decide)) (by show 104 ≤ 105; decide)) (by show 164 < 64 + 105; decide)) (by show 105 ≤ 106; decide)) (by show 164 < 64 + 106; decide)) (by show 106 ≤ 107; decide)) (by show 164 < 64 + 107; decide)) (by show 107 ≤ 108; decide)) (by show 164 < 64 + 108; decide)) (by show 108 ≤ 109; decide)) (by show 164 < 64 + 109; decide)) (by show 109 ≤ 110; decide)) (by show 164 < 64 + 110; decide)) (by show 110 ≤ 111; decide)) (by show 164 < 64 + 111; decide)) (by show 111 ≤ 112; decide)) (by show 164 < 64 + 112; decide)) (by show 112 ≤ 113; decide)) (by show 164 < 64 + 113; decide)) (by show 113 ≤ 114; decide)) (by show 164 < 64 + 114; decide)) (by show 114 ≤ 115; decide)) (by show 164 < 64 + 115; decide)) (by show 115 ≤ 116; decide)) (by show 164 < 64 + 116; decide)) (by show 116 ≤ 117; decide)) (by show 164 < 64 + 117; decide)) (by show 117 ≤ 118; decide)) (by show 164 < 64 + 118; decide)) rfl (by decide)) (by show 164 < 64 + 179; decide)) (by show 164 < 64 + 179; decide)) (by show 164 < 64 + 179; decide)) (by show 179 ≤ 180; decide)) (by show 164 < 64 + 180; decide)) (by show 180 ≤ 181; decide)) (by show 164 < 64 + 181; decide)) rfl (by decide)) (by show 164 < 64 + 184; decide)) rfl (by decide)) (by show 164 < 64 + 187; decide)) rfl (by decide)) (by show 164 < 64 + 190; decide)) rfl (by decide)) (by show 164 < 64 + 193; decide)) (by show 193 ≤ 194; decide)) (by show 164 < 64 + 194; decide)) (by show 194 ≤ 195; decide)) (by show 164 < 64 + 195; decide)) (by show 195 ≤ 196; decide)) (by show 164 < 64 + 196; decide)) (by show 196 ≤ 197; decide)) (by show 164 < 64 + 197; decide)) (by decide) dX8_init_259 rfl ?_
  refine z_putR f_X8_105 ⟨zCl8, by decide, by decide, (fun _ => by show 164 < 64 + 198; decide)⟩ rfl (by decide) (Or.inr ⟨rfl, rfl, rfl, zin 1032 (by decide +kernel) (by decide +kernel)⟩) rfl rfl dX8_init_261 rfl ?_
  refine z_aload_n (i := 0) dX8_init_264 rfl rfl rfl ?_
  refine z_bipush (v := (7 : Int32)) dX8_init_265 (by decide) rfl ?_
  refine z_anew (n := 198) (kd := 26) (len := 7) (q := 262) rfl (fun _ h => h.2.2.1) cl_X8_108 (by decide) (by decide) (by decide) (by decide) (by decide) (by decide) rfl (by decide : 64 + 198 = 262) (zcln_R (zcln_N (zcln_R (zcln_N (zcln_R (zcln_N (zcln_R (zcln_N (zcln_R (zcln_N (zcln_R (zcln_M (zcln_R (zcln_M (zcln_R (zcln_M (zcln_R (zcln_M (zcln_R (zcln_N (zcln_R (zcln_N (zcln_I (zcln_I (zcln_R (zcln_M (zcln_R (zcln_N (zcln_R (zcln_N (zcln_R (zcln_N (zcln_R (zcln_N (zcln_R (zcln_N (zcln_R (zcln_N (zcln_R (zcln_N (zcln_R (zcln_N (zcln_R (zcln_N (zcln_R (zcln_N (zcln_R (zcln_N (zcln_R (zcln_N (zcln_R (zcln_N (zcln_R (zcln_N (zcln_R (zcln_N (zcln_R (zcln_N (zcln_R (zcln_N hC (by show s.2.2.2 ≤ 102; rw [hN]; decide)) (by show 164 < 64 + 102; decide)) (by show 102 ≤ 103; decide)) (by show 164 < 64 + 103; decide)) (by show 103 ≤ 104; decide)) (by show 164 < 64 + 104; decide)) (by show 104 ≤ 105; decide)) (by show 164 < 64 + 105; decide)) (by show 105 ≤ 106; decide)) (by show 164 < 64 + 106; decide)) (by show 106 ≤ 107; decide)) (by show 164 < 64 + 107; decide)) (by show 107 ≤ 108; decide)) (by show 164 < 64 + 108; decide)) (by show 108 ≤ 109; decide)) (by show 164 < 64 + 109; decide)) (by show 109 ≤ 110; decide)) (by show 164 < 64 + 110; decide)) (by show 110 ≤ 111; decide)) (by show 164 < 64 + 111; decide)) (by show 111 ≤ 112; decide)) (by show 164 < 64 + 112; decide)) (by show 112 ≤ 113; decide)) (by show 164 < 64 + 113; decide)) (by show 113 ≤ 114; decide)) (by show 164 < 64 + 114; decide)) (by show 114 ≤ 115; decide)) (by show 164 < 64 + 115; decide)) (by show 115 ≤ 116; decide)) (by show 164 < 64 + 116; decide)) (by show 116 ≤ 117; decide)) (by show 164 < 64 + 117; decide)) (by show 117 ≤ 118; decide)) (by show 164 < 64 + 118; decide)) rfl (by decide)) (by show 164 < 64 + 179; decide)) (by show 164 < 64 + 179; decide)) (by show 164 < 64 + 179; decide)) (by show 179 ≤ 180; decide)) (by show 164 < 64 + 180; decide)) (by show 180 ≤ 181; decide)) (by show 164 < 64 + 181; decide)) rfl (by decide)) (by show 164 < 64 + 184; decide)) rfl (by decide)) (by show 164 < 64 + 187; decide)) rfl (by decide)) (by show 164 < 64 + 190; decide)) rfl (by decide)) (by show 164 < 64 + 193; decide)) (by show 193 ≤ 194; decide)) (by show 164 < 64 + 194; decide)) (by show 194 ≤ 195; decide)) (by show 164 < 64 + 195; decide)) (by show 195 ≤ 196; decide)) (by show 164 < 64 + 196; decide)) (by show 196 ≤ 197; decide)) (by show 164 < 64 + 197; decide)) (by show 197 ≤ 198; decide)) (by show 164 < 64 + 198; decide)) (by decide) dX8_init_267 rfl ?_
  refine z_dup dX8_init_270 rfl rfl ?_
  refine z_iconst (v := (0 : Int32)) dX8_init_271 (by decide) rfl ?_
  refine z_ldcS (i := 2) (by decide) rfl rfl dX8_init_272 rfl ?_
  refine z_aastS (n := 7) ⟨by decide, by decide, by decide, (fun _ => by show 262 < 64 + 199; decide)⟩ (by unfold vp_in; decide) (by decide) dX8_init_274 rfl ?_
  refine z_dup dX8_init_275 rfl rfl ?_
  refine z_iconst (v := (1 : Int32)) dX8_init_276 (by decide) rfl ?_
  refine z_ldcS (i := 3) (by decide) rfl rfl dX8_init_277 rfl ?_
  refine z_aastS (n := 7) ⟨by decide, by decide, by decide, (fun _ => by show 262 < 64 + 199; decide)⟩ (by unfold vp_in; decide) (by decide) dX8_init_279 rfl ?_
  refine z_dup dX8_init_280 rfl rfl ?_
  refine z_iconst (v := (2 : Int32)) dX8_init_281 (by decide) rfl ?_
  refine z_ldcS (i := 4) (by decide) rfl rfl dX8_init_282 rfl ?_
  refine z_aastS (n := 7) ⟨by decide, by decide, by decide, (fun _ => by show 262 < 64 + 199; decide)⟩ (by unfold vp_in; decide) (by decide) dX8_init_284 rfl ?_
  refine z_dup dX8_init_285 rfl rfl ?_
  refine z_iconst (v := (3 : Int32)) dX8_init_286 (by decide) rfl ?_
  refine z_ldcS (i := 5) (by decide) rfl rfl dX8_init_287 rfl ?_
  refine z_aastS (n := 7) ⟨by decide, by decide, by decide, (fun _ => by show 262 < 64 + 199; decide)⟩ (by unfold vp_in; decide) (by decide) dX8_init_289 rfl ?_
  refine z_dup dX8_init_290 rfl rfl ?_
  refine z_iconst (v := (4 : Int32)) dX8_init_291 (by decide) rfl ?_
  refine z_ldcS (i := 6) (by decide) rfl rfl dX8_init_292 rfl ?_
  refine z_aastS (n := 7) ⟨by decide, by decide, by decide, (fun _ => by show 262 < 64 + 199; decide)⟩ (by unfold vp_in; decide) (by decide) dX8_init_294 rfl ?_
  refine z_dup dX8_init_295 rfl rfl ?_
  refine z_iconst (v := (5 : Int32)) dX8_init_296 (by decide) rfl ?_
  refine z_ldcS (i := 7) (by decide) rfl rfl dX8_init_297 rfl ?_
  refine z_aastS (n := 7) ⟨by decide, by decide, by decide, (fun _ => by show 262 < 64 + 199; decide)⟩ (by unfold vp_in; decide) (by decide) dX8_init_299 rfl ?_
  refine z_dup dX8_init_300 rfl rfl ?_
  refine z_bipush (v := (6 : Int32)) dX8_init_301 (by decide) rfl ?_
  refine z_ldcS (i := 8) (by decide) rfl rfl dX8_init_303 rfl ?_
  refine z_aastS (n := 7) ⟨by decide, by decide, by decide, (fun _ => by show 262 < 64 + 199; decide)⟩ (by unfold vp_in; decide) (by decide) dX8_init_305 rfl ?_
  refine z_putR f_X8_124 ⟨zCl8, by decide, by decide, (fun _ => by show 164 < 64 + 199; decide)⟩ rfl (by decide) (Or.inr ⟨rfl, rfl, rfl, zin 1033 (by decide +kernel) (by decide +kernel)⟩) rfl rfl dX8_init_306 rfl ?_
  refine z_aload_n (i := 0) dX8_init_309 rfl rfl rfl ?_
  refine z_bipush (v := (7 : Int32)) dX8_init_310 (by decide) rfl ?_
  refine z_anew (n := 199) (kd := 26) (len := 7) (q := 263) rfl (fun _ h => h.2.2.1) cl_X8_108 (by decide) (by decide) (by decide) (by decide) (by decide) (by decide) rfl (by decide : 64 + 199 = 263) (zcln_R (zcln_R (zcln_R (zcln_R (zcln_R (zcln_R (zcln_R (zcln_R (zcln_N (zcln_R (zcln_N (zcln_R (zcln_N (zcln_R (zcln_N (zcln_R (zcln_N (zcln_R (zcln_N (zcln_R (zcln_M (zcln_R (zcln_M (zcln_R (zcln_M (zcln_R (zcln_M (zcln_R (zcln_N (zcln_R (zcln_N (zcln_I (zcln_I (zcln_R (zcln_M (zcln_R (zcln_N (zcln_R (zcln_N (zcln_R (zcln_N (zcln_R (zcln_N (zcln_R (zcln_N (zcln_R (zcln_N (zcln_R (zcln_N (zcln_R (zcln_N (zcln_R (zcln_N (zcln_R (zcln_N (zcln_R (zcln_N (zcln_R (zcln_N (zcln_R (zcln_N (zcln_R (zcln_N (zcln_R (zcln_N (zcln_R (zcln_N (zcln_R (zcln_N hC (by show s.2.2.2 ≤ 102; rw [hN]; decide)) (by show 164 < 64 + 102; decide)) (by show 102 ≤ 103; decide)) (by show 164 < 64 + 103; decide)) (by show 103 ≤ 104; decide)) (by show 164 < 64 + 104; decide)) (by show 104 ≤ 105; decide)) (by show 164 < 64 + 105; decide)) (by show 105 ≤ 106; decide)) (by show 164 < 64 + 106; decide)) (by show 106 ≤ 107; decide)) (by show 164 < 64 + 107; decide)) (by show 107 ≤ 108; decide)) (by show 164 < 64 + 108; decide)) (by show 108 ≤ 109; decide)) (by show 164 < 64 + 109; decide)) (by show 109 ≤ 110; decide)) (by show 164 < 64 + 110; decide)) (by show 110 ≤ 111; decide)) (by show 164 < 64 + 111; decide)) (by show 111 ≤ 112; decide)) (by show 164 < 64 + 112; decide)) (by show 112 ≤ 113; decide)) (by show 164 < 64 + 113; decide)) (by show 113 ≤ 114; decide)) (by show 164 < 64 + 114; decide)) (by show 114 ≤ 115; decide)) (by show 164 < 64 + 115; decide)) (by show 115 ≤ 116; decide)) (by show 164 < 64 + 116; decide)) (by show 116 ≤ 117; decide)) (by show 164 < 64 + 117; decide)) (by show 117 ≤ 118; decide)) (by show 164 < 64 + 118; decide)) rfl (by decide)) (by show 164 < 64 + 179; decide)) (by show 164 < 64 + 179; decide)) (by show 164 < 64 + 179; decide)) (by show 179 ≤ 180; decide)) (by show 164 < 64 + 180; decide)) (by show 180 ≤ 181; decide)) (by show 164 < 64 + 181; decide)) rfl (by decide)) (by show 164 < 64 + 184; decide)) rfl (by decide)) (by show 164 < 64 + 187; decide)) rfl (by decide)) (by show 164 < 64 + 190; decide)) rfl (by decide)) (by show 164 < 64 + 193; decide)) (by show 193 ≤ 194; decide)) (by show 164 < 64 + 194; decide)) (by show 194 ≤ 195; decide)) (by show 164 < 64 + 195; decide)) (by show 195 ≤ 196; decide)) (by show 164 < 64 + 196; decide)) (by show 196 ≤ 197; decide)) (by show 164 < 64 + 197; decide)) (by show 197 ≤ 198; decide)) (by show 164 < 64 + 198; decide)) (by show 198 ≤ 199; decide)) (by show 262 < 64 + 199; decide)) (by show 262 < 64 + 199; decide)) (by show 262 < 64 + 199; decide)) (by show 262 < 64 + 199; decide)) (by show 262 < 64 + 199; decide)) (by show 262 < 64 + 199; decide)) (by show 262 < 64 + 199; decide)) (by show 164 < 64 + 199; decide)) (by decide) dX8_init_312 rfl ?_
  refine z_dup dX8_init_315 rfl rfl ?_
  refine z_iconst (v := (0 : Int32)) dX8_init_316 (by decide) rfl ?_
  refine z_ldcS (i := 9) (by decide) rfl rfl dX8_init_317 rfl ?_
  refine z_aastS (n := 7) ⟨by decide, by decide, by decide, (fun _ => by show 263 < 64 + 200; decide)⟩ (by unfold vp_in; decide) (by decide) dX8_init_319 rfl ?_
  refine z_dup dX8_init_320 rfl rfl ?_
  refine z_iconst (v := (1 : Int32)) dX8_init_321 (by decide) rfl ?_
  refine z_ldcS (i := 10) (by decide) rfl rfl dX8_init_322 rfl ?_
  refine z_aastS (n := 7) ⟨by decide, by decide, by decide, (fun _ => by show 263 < 64 + 200; decide)⟩ (by unfold vp_in; decide) (by decide) dX8_init_324 rfl ?_
  refine z_dup dX8_init_325 rfl rfl ?_
  refine z_iconst (v := (2 : Int32)) dX8_init_326 (by decide) rfl ?_
  refine z_ldcS (i := 11) (by decide) rfl rfl dX8_init_327 rfl ?_
  refine z_aastS (n := 7) ⟨by decide, by decide, by decide, (fun _ => by show 263 < 64 + 200; decide)⟩ (by unfold vp_in; decide) (by decide) dX8_init_329 rfl ?_
  refine z_dup dX8_init_330 rfl rfl ?_
  refine z_iconst (v := (3 : Int32)) dX8_init_331 (by decide) rfl ?_
  refine z_ldcS (i := 12) (by decide) rfl rfl dX8_init_332 rfl ?_
  refine z_aastS (n := 7) ⟨by decide, by decide, by decide, (fun _ => by show 263 < 64 + 200; decide)⟩ (by unfold vp_in; decide) (by decide) dX8_init_334 rfl ?_
  refine z_dup dX8_init_335 rfl rfl ?_
  refine z_iconst (v := (4 : Int32)) dX8_init_336 (by decide) rfl ?_
  refine z_ldcS (i := 13) (by decide) rfl rfl dX8_init_337 rfl ?_
  refine z_aastS (n := 7) ⟨by decide, by decide, by decide, (fun _ => by show 263 < 64 + 200; decide)⟩ (by unfold vp_in; decide) (by decide) dX8_init_339 rfl ?_
  refine z_dup dX8_init_340 rfl rfl ?_
  refine z_iconst (v := (5 : Int32)) dX8_init_341 (by decide) rfl ?_
  refine z_ldcS (i := 14) (by decide) rfl rfl dX8_init_342 rfl ?_
  refine z_aastS (n := 7) ⟨by decide, by decide, by decide, (fun _ => by show 263 < 64 + 200; decide)⟩ (by unfold vp_in; decide) (by decide) dX8_init_344 rfl ?_
  refine z_dup dX8_init_345 rfl rfl ?_
  refine z_bipush (v := (6 : Int32)) dX8_init_346 (by decide) rfl ?_
  refine z_ldcS (i := 15) (by decide) rfl rfl dX8_init_348 rfl ?_
  refine z_aastS (n := 7) ⟨by decide, by decide, by decide, (fun _ => by show 263 < 64 + 200; decide)⟩ (by unfold vp_in; decide) (by decide) dX8_init_350 rfl ?_
  refine z_putR f_X8_142 ⟨zCl8, by decide, by decide, (fun _ => by show 164 < 64 + 200; decide)⟩ rfl (by decide) (Or.inr ⟨rfl, rfl, rfl, zin 1034 (by decide +kernel) (by decide +kernel)⟩) rfl rfl dX8_init_351 rfl ?_
  exact z_ret none (Or.inl ⟨rfl, rfl, dX8_init_354⟩) (fun _ _ => rfl) ⟨rfl, h⟩
theorem dL_law_0 : decode cL_law 0 = .ok (.new 7, 3) := by decide +kernel
theorem dL_law_3 : decode cL_law 3 = .ok (.dup, 1) := by decide +kernel
theorem dL_law_4 : decode cL_law 4 = .ok (.invokespecial 9, 3) := by decide +kernel
theorem dL_law_7 : decode cL_law 7 = .ok (.astore_n 1, 1) := by decide +kernel
theorem dL_law_8 : decode cL_law 8 = .ok (.new 10, 3) := by decide +kernel
theorem dL_law_11 : decode cL_law 11 = .ok (.dup, 1) := by decide +kernel
theorem dL_law_12 : decode cL_law 12 = .ok (.invokespecial 12, 3) := by decide +kernel
theorem dL_law_15 : decode cL_law 15 = .ok (.astore_n 2, 1) := by decide +kernel
theorem dL_law_16 : decode cL_law 16 = .ok (.iconst 0, 1) := by decide +kernel
theorem dL_law_17 : decode cL_law 17 = .ok (.istore_n 3, 1) := by decide +kernel
theorem dL_law_18 : decode cL_law 18 = .ok (.iload_n 3, 1) := by decide +kernel
theorem dL_law_19 : decode cL_law 19 = .ok (.aload_n 0, 1) := by decide +kernel
theorem dL_law_20 : decode cL_law 20 = .ok (.arraylength, 1) := by decide +kernel
theorem dL_law_21 : decode cL_law 21 = .ok (.bipush 6, 2) := by decide +kernel
theorem dL_law_23 : decode cL_law 23 = .ok (.isub, 1) := by decide +kernel
theorem dL_law_24 : decode cL_law 24 = .ok (.if_icmp .gt 1364, 3) := by decide +kernel
theorem dL_law_27 : decode cL_law 27 = .ok (.aload_n 0, 1) := by decide +kernel
theorem dL_law_28 : decode cL_law 28 = .ok (.iload_n 3, 1) := by decide +kernel
theorem dL_law_29 : decode cL_law 29 = .ok (.iaload, 1) := by decide +kernel
theorem dL_law_30 : decode cL_law 30 = .ok (.bipush 31, 2) := by decide +kernel
theorem dL_law_32 : decode cL_law 32 = .ok (.iand, 1) := by decide +kernel
theorem dL_law_33 : decode cL_law 33 = .ok (.tableswitch 1349 0 31 #[143, 186, 209, 252, 315, 368, 421, 444, 487, 540, 603, 616, 649, 682, 715, 738, 751, 784, 827, 860, 913, 966, 999, 1022, 1085, 1108, 1121, 1134, 1187, 1240, 1293, 1326], 143) := by decide +kernel
theorem dL_law_176 : decode cL_law 176 = .ok (.aload_n 1, 1) := by decide +kernel
theorem dL_law_177 : decode cL_law 177 = .ok (.aload_n 0, 1) := by decide +kernel
theorem dL_law_178 : decode cL_law 178 = .ok (.iload_n 3, 1) := by decide +kernel
theorem dL_law_179 : decode cL_law 179 = .ok (.iconst 1, 1) := by decide +kernel
theorem dL_law_180 : decode cL_law 180 = .ok (.iadd, 1) := by decide +kernel
theorem dL_law_181 : decode cL_law 181 = .ok (.iaload, 1) := by decide +kernel
theorem dL_law_182 : decode cL_law 182 = .ok (.aload_n 0, 1) := by decide +kernel
theorem dL_law_183 : decode cL_law 183 = .ok (.iload_n 3, 1) := by decide +kernel
theorem dL_law_184 : decode cL_law 184 = .ok (.iconst 2, 1) := by decide +kernel
theorem dL_law_185 : decode cL_law 185 = .ok (.iadd, 1) := by decide +kernel
theorem dL_law_186 : decode cL_law 186 = .ok (.iaload, 1) := by decide +kernel
theorem dL_law_187 : decode cL_law 187 = .ok (.aload_n 0, 1) := by decide +kernel
theorem dL_law_188 : decode cL_law 188 = .ok (.iload_n 3, 1) := by decide +kernel
theorem dL_law_189 : decode cL_law 189 = .ok (.iconst 3, 1) := by decide +kernel
theorem dL_law_190 : decode cL_law 190 = .ok (.iadd, 1) := by decide +kernel
theorem dL_law_191 : decode cL_law 191 = .ok (.iaload, 1) := by decide +kernel
theorem dL_law_192 : decode cL_law 192 = .ok (.invokevirtual 13, 3) := by decide +kernel
theorem dL_law_195 : decode cL_law 195 = .ok (.aload_n 2, 1) := by decide +kernel
theorem dL_law_196 : decode cL_law 196 = .ok (.aload_n 0, 1) := by decide +kernel
theorem dL_law_197 : decode cL_law 197 = .ok (.iload_n 3, 1) := by decide +kernel
theorem dL_law_198 : decode cL_law 198 = .ok (.iconst 1, 1) := by decide +kernel
theorem dL_law_199 : decode cL_law 199 = .ok (.iadd, 1) := by decide +kernel
theorem dL_law_200 : decode cL_law 200 = .ok (.iaload, 1) := by decide +kernel
theorem dL_law_201 : decode cL_law 201 = .ok (.aload_n 0, 1) := by decide +kernel
theorem dL_law_202 : decode cL_law 202 = .ok (.iload_n 3, 1) := by decide +kernel
theorem dL_law_203 : decode cL_law 203 = .ok (.iconst 2, 1) := by decide +kernel
theorem dL_law_204 : decode cL_law 204 = .ok (.iadd, 1) := by decide +kernel
theorem dL_law_205 : decode cL_law 205 = .ok (.iaload, 1) := by decide +kernel
theorem dL_law_206 : decode cL_law 206 = .ok (.aload_n 0, 1) := by decide +kernel
theorem dL_law_207 : decode cL_law 207 = .ok (.iload_n 3, 1) := by decide +kernel
theorem dL_law_208 : decode cL_law 208 = .ok (.iconst 3, 1) := by decide +kernel
theorem dL_law_209 : decode cL_law 209 = .ok (.iadd, 1) := by decide +kernel
theorem dL_law_210 : decode cL_law 210 = .ok (.iaload, 1) := by decide +kernel
theorem dL_law_211 : decode cL_law 211 = .ok (.invokevirtual 17, 3) := by decide +kernel
theorem dL_law_214 : decode cL_law 214 = .ok (.if_icmp .eq 1168, 3) := by decide +kernel
theorem dL_law_217 : decode cL_law 217 = .ok (.iconst 0, 1) := by decide +kernel
theorem dL_law_218 : decode cL_law 218 = .ok (.ireturn, 1) := by decide +kernel
theorem dL_law_219 : decode cL_law 219 = .ok (.aload_n 1, 1) := by decide +kernel
theorem dL_law_220 : decode cL_law 220 = .ok (.aload_n 0, 1) := by decide +kernel
theorem dL_law_221 : decode cL_law 221 = .ok (.iload_n 3, 1) := by decide +kernel
theorem dL_law_222 : decode cL_law 222 = .ok (.iconst 1, 1) := by decide +kernel
theorem dL_law_223 : decode cL_law 223 = .ok (.iadd, 1) := by decide +kernel
theorem dL_law_224 : decode cL_law 224 = .ok (.iaload, 1) := by decide +kernel
theorem dL_law_225 : decode cL_law 225 = .ok (.invokevirtual 18, 3) := by decide +kernel
theorem dL_law_228 : decode cL_law 228 = .ok (.aload_n 2, 1) := by decide +kernel
theorem dL_law_229 : decode cL_law 229 = .ok (.aload_n 0, 1) := by decide +kernel
theorem dL_law_230 : decode cL_law 230 = .ok (.iload_n 3, 1) := by decide +kernel
theorem dL_law_231 : decode cL_law 231 = .ok (.iconst 1, 1) := by decide +kernel
theorem dL_law_232 : decode cL_law 232 = .ok (.iadd, 1) := by decide +kernel
theorem dL_law_233 : decode cL_law 233 = .ok (.iaload, 1) := by decide +kernel
theorem dL_law_234 : decode cL_law 234 = .ok (.invokevirtual 22, 3) := by decide +kernel
theorem dL_law_237 : decode cL_law 237 = .ok (.if_icmp .eq 1145, 3) := by decide +kernel
theorem dL_law_240 : decode cL_law 240 = .ok (.iconst 0, 1) := by decide +kernel
theorem dL_law_241 : decode cL_law 241 = .ok (.ireturn, 1) := by decide +kernel
theorem dL_law_242 : decode cL_law 242 = .ok (.aload_n 1, 1) := by decide +kernel
theorem dL_law_243 : decode cL_law 243 = .ok (.aload_n 0, 1) := by decide +kernel
theorem dL_law_244 : decode cL_law 244 = .ok (.iload_n 3, 1) := by decide +kernel
theorem dL_law_245 : decode cL_law 245 = .ok (.iconst 1, 1) := by decide +kernel
theorem dL_law_246 : decode cL_law 246 = .ok (.iadd, 1) := by decide +kernel
theorem dL_law_247 : decode cL_law 247 = .ok (.iaload, 1) := by decide +kernel
theorem dL_law_248 : decode cL_law 248 = .ok (.aload_n 0, 1) := by decide +kernel
theorem dL_law_249 : decode cL_law 249 = .ok (.iload_n 3, 1) := by decide +kernel
theorem dL_law_250 : decode cL_law 250 = .ok (.iconst 2, 1) := by decide +kernel
theorem dL_law_251 : decode cL_law 251 = .ok (.iadd, 1) := by decide +kernel
theorem dL_law_252 : decode cL_law 252 = .ok (.iaload, 1) := by decide +kernel
theorem dL_law_253 : decode cL_law 253 = .ok (.aload_n 0, 1) := by decide +kernel
theorem dL_law_254 : decode cL_law 254 = .ok (.iload_n 3, 1) := by decide +kernel
theorem dL_law_255 : decode cL_law 255 = .ok (.iconst 3, 1) := by decide +kernel
theorem dL_law_256 : decode cL_law 256 = .ok (.iadd, 1) := by decide +kernel
theorem dL_law_257 : decode cL_law 257 = .ok (.iaload, 1) := by decide +kernel
theorem dL_law_258 : decode cL_law 258 = .ok (.invokevirtual 23, 3) := by decide +kernel
theorem dL_law_261 : decode cL_law 261 = .ok (.aload_n 2, 1) := by decide +kernel
theorem dL_law_262 : decode cL_law 262 = .ok (.aload_n 0, 1) := by decide +kernel
theorem dL_law_263 : decode cL_law 263 = .ok (.iload_n 3, 1) := by decide +kernel
theorem dL_law_264 : decode cL_law 264 = .ok (.iconst 1, 1) := by decide +kernel
theorem dL_law_265 : decode cL_law 265 = .ok (.iadd, 1) := by decide +kernel
theorem dL_law_266 : decode cL_law 266 = .ok (.iaload, 1) := by decide +kernel
theorem dL_law_267 : decode cL_law 267 = .ok (.aload_n 0, 1) := by decide +kernel
theorem dL_law_268 : decode cL_law 268 = .ok (.iload_n 3, 1) := by decide +kernel
theorem dL_law_269 : decode cL_law 269 = .ok (.iconst 2, 1) := by decide +kernel
theorem dL_law_270 : decode cL_law 270 = .ok (.iadd, 1) := by decide +kernel
theorem dL_law_271 : decode cL_law 271 = .ok (.iaload, 1) := by decide +kernel
theorem dL_law_272 : decode cL_law 272 = .ok (.aload_n 0, 1) := by decide +kernel
theorem dL_law_273 : decode cL_law 273 = .ok (.iload_n 3, 1) := by decide +kernel
theorem dL_law_274 : decode cL_law 274 = .ok (.iconst 3, 1) := by decide +kernel
theorem dL_law_275 : decode cL_law 275 = .ok (.iadd, 1) := by decide +kernel
theorem dL_law_276 : decode cL_law 276 = .ok (.iaload, 1) := by decide +kernel
theorem dL_law_277 : decode cL_law 277 = .ok (.invokevirtual 26, 3) := by decide +kernel
theorem dL_law_280 : decode cL_law 280 = .ok (.if_icmp .eq 1102, 3) := by decide +kernel
theorem dL_law_283 : decode cL_law 283 = .ok (.iconst 0, 1) := by decide +kernel
theorem dL_law_284 : decode cL_law 284 = .ok (.ireturn, 1) := by decide +kernel
theorem dL_law_285 : decode cL_law 285 = .ok (.aload_n 1, 1) := by decide +kernel
theorem dL_law_286 : decode cL_law 286 = .ok (.aload_n 0, 1) := by decide +kernel
theorem dL_law_287 : decode cL_law 287 = .ok (.iload_n 3, 1) := by decide +kernel
theorem dL_law_288 : decode cL_law 288 = .ok (.iconst 1, 1) := by decide +kernel
theorem dL_law_289 : decode cL_law 289 = .ok (.iadd, 1) := by decide +kernel
theorem dL_law_290 : decode cL_law 290 = .ok (.iaload, 1) := by decide +kernel
theorem dL_law_291 : decode cL_law 291 = .ok (.aload_n 0, 1) := by decide +kernel
theorem dL_law_292 : decode cL_law 292 = .ok (.iload_n 3, 1) := by decide +kernel
theorem dL_law_293 : decode cL_law 293 = .ok (.iconst 2, 1) := by decide +kernel
theorem dL_law_294 : decode cL_law 294 = .ok (.iadd, 1) := by decide +kernel
theorem dL_law_295 : decode cL_law 295 = .ok (.iaload, 1) := by decide +kernel
theorem dL_law_296 : decode cL_law 296 = .ok (.aload_n 0, 1) := by decide +kernel
theorem dL_law_297 : decode cL_law 297 = .ok (.iload_n 3, 1) := by decide +kernel
theorem dL_law_298 : decode cL_law 298 = .ok (.iconst 3, 1) := by decide +kernel
theorem dL_law_299 : decode cL_law 299 = .ok (.iadd, 1) := by decide +kernel
theorem dL_law_300 : decode cL_law 300 = .ok (.iaload, 1) := by decide +kernel
theorem dL_law_301 : decode cL_law 301 = .ok (.aload_n 0, 1) := by decide +kernel
theorem dL_law_302 : decode cL_law 302 = .ok (.iload_n 3, 1) := by decide +kernel
theorem dL_law_303 : decode cL_law 303 = .ok (.iconst 4, 1) := by decide +kernel
theorem dL_law_304 : decode cL_law 304 = .ok (.iadd, 1) := by decide +kernel
theorem dL_law_305 : decode cL_law 305 = .ok (.iaload, 1) := by decide +kernel
theorem dL_law_306 : decode cL_law 306 = .ok (.aload_n 0, 1) := by decide +kernel
theorem dL_law_307 : decode cL_law 307 = .ok (.iload_n 3, 1) := by decide +kernel
theorem dL_law_308 : decode cL_law 308 = .ok (.iconst 5, 1) := by decide +kernel
theorem dL_law_309 : decode cL_law 309 = .ok (.iadd, 1) := by decide +kernel
theorem dL_law_310 : decode cL_law 310 = .ok (.iaload, 1) := by decide +kernel
theorem dL_law_311 : decode cL_law 311 = .ok (.invokevirtual 27, 3) := by decide +kernel
theorem dL_law_314 : decode cL_law 314 = .ok (.aload_n 2, 1) := by decide +kernel
theorem dL_law_315 : decode cL_law 315 = .ok (.aload_n 0, 1) := by decide +kernel
theorem dL_law_316 : decode cL_law 316 = .ok (.iload_n 3, 1) := by decide +kernel
theorem dL_law_317 : decode cL_law 317 = .ok (.iconst 1, 1) := by decide +kernel
theorem dL_law_318 : decode cL_law 318 = .ok (.iadd, 1) := by decide +kernel
theorem dL_law_319 : decode cL_law 319 = .ok (.iaload, 1) := by decide +kernel
theorem dL_law_320 : decode cL_law 320 = .ok (.aload_n 0, 1) := by decide +kernel
theorem dL_law_321 : decode cL_law 321 = .ok (.iload_n 3, 1) := by decide +kernel
theorem dL_law_322 : decode cL_law 322 = .ok (.iconst 2, 1) := by decide +kernel
theorem dL_law_323 : decode cL_law 323 = .ok (.iadd, 1) := by decide +kernel
theorem dL_law_324 : decode cL_law 324 = .ok (.iaload, 1) := by decide +kernel
theorem dL_law_325 : decode cL_law 325 = .ok (.aload_n 0, 1) := by decide +kernel
theorem dL_law_326 : decode cL_law 326 = .ok (.iload_n 3, 1) := by decide +kernel
theorem dL_law_327 : decode cL_law 327 = .ok (.iconst 3, 1) := by decide +kernel
theorem dL_law_328 : decode cL_law 328 = .ok (.iadd, 1) := by decide +kernel
theorem dL_law_329 : decode cL_law 329 = .ok (.iaload, 1) := by decide +kernel
theorem dL_law_330 : decode cL_law 330 = .ok (.aload_n 0, 1) := by decide +kernel
theorem dL_law_331 : decode cL_law 331 = .ok (.iload_n 3, 1) := by decide +kernel
theorem dL_law_332 : decode cL_law 332 = .ok (.iconst 4, 1) := by decide +kernel
theorem dL_law_333 : decode cL_law 333 = .ok (.iadd, 1) := by decide +kernel
theorem dL_law_334 : decode cL_law 334 = .ok (.iaload, 1) := by decide +kernel
theorem dL_law_335 : decode cL_law 335 = .ok (.aload_n 0, 1) := by decide +kernel
theorem dL_law_336 : decode cL_law 336 = .ok (.iload_n 3, 1) := by decide +kernel
theorem dL_law_337 : decode cL_law 337 = .ok (.iconst 5, 1) := by decide +kernel
theorem dL_law_338 : decode cL_law 338 = .ok (.iadd, 1) := by decide +kernel
theorem dL_law_339 : decode cL_law 339 = .ok (.iaload, 1) := by decide +kernel
theorem dL_law_340 : decode cL_law 340 = .ok (.invokevirtual 31, 3) := by decide +kernel
theorem dL_law_343 : decode cL_law 343 = .ok (.if_icmp .eq 1039, 3) := by decide +kernel
theorem dL_law_346 : decode cL_law 346 = .ok (.iconst 0, 1) := by decide +kernel
theorem dL_law_347 : decode cL_law 347 = .ok (.ireturn, 1) := by decide +kernel
theorem dL_law_348 : decode cL_law 348 = .ok (.aload_n 1, 1) := by decide +kernel
theorem dL_law_349 : decode cL_law 349 = .ok (.aload_n 0, 1) := by decide +kernel
theorem dL_law_350 : decode cL_law 350 = .ok (.iload_n 3, 1) := by decide +kernel
theorem dL_law_351 : decode cL_law 351 = .ok (.iconst 1, 1) := by decide +kernel
theorem dL_law_352 : decode cL_law 352 = .ok (.iadd, 1) := by decide +kernel
theorem dL_law_353 : decode cL_law 353 = .ok (.iaload, 1) := by decide +kernel
theorem dL_law_354 : decode cL_law 354 = .ok (.aload_n 0, 1) := by decide +kernel
theorem dL_law_355 : decode cL_law 355 = .ok (.iload_n 3, 1) := by decide +kernel
theorem dL_law_356 : decode cL_law 356 = .ok (.iconst 2, 1) := by decide +kernel
theorem dL_law_357 : decode cL_law 357 = .ok (.iadd, 1) := by decide +kernel
theorem dL_law_358 : decode cL_law 358 = .ok (.iaload, 1) := by decide +kernel
theorem dL_law_359 : decode cL_law 359 = .ok (.aload_n 0, 1) := by decide +kernel
theorem dL_law_360 : decode cL_law 360 = .ok (.iload_n 3, 1) := by decide +kernel
theorem dL_law_361 : decode cL_law 361 = .ok (.iconst 3, 1) := by decide +kernel
theorem dL_law_362 : decode cL_law 362 = .ok (.iadd, 1) := by decide +kernel
theorem dL_law_363 : decode cL_law 363 = .ok (.iaload, 1) := by decide +kernel
theorem dL_law_364 : decode cL_law 364 = .ok (.aload_n 0, 1) := by decide +kernel
theorem dL_law_365 : decode cL_law 365 = .ok (.iload_n 3, 1) := by decide +kernel
theorem dL_law_366 : decode cL_law 366 = .ok (.iconst 4, 1) := by decide +kernel
theorem dL_law_367 : decode cL_law 367 = .ok (.iadd, 1) := by decide +kernel
theorem dL_law_368 : decode cL_law 368 = .ok (.iaload, 1) := by decide +kernel
theorem dL_law_369 : decode cL_law 369 = .ok (.invokevirtual 32, 3) := by decide +kernel
theorem dL_law_372 : decode cL_law 372 = .ok (.aload_n 2, 1) := by decide +kernel
theorem dL_law_373 : decode cL_law 373 = .ok (.aload_n 0, 1) := by decide +kernel
theorem dL_law_374 : decode cL_law 374 = .ok (.iload_n 3, 1) := by decide +kernel
theorem dL_law_375 : decode cL_law 375 = .ok (.iconst 1, 1) := by decide +kernel
theorem dL_law_376 : decode cL_law 376 = .ok (.iadd, 1) := by decide +kernel
theorem dL_law_377 : decode cL_law 377 = .ok (.iaload, 1) := by decide +kernel
theorem dL_law_378 : decode cL_law 378 = .ok (.aload_n 0, 1) := by decide +kernel
theorem dL_law_379 : decode cL_law 379 = .ok (.iload_n 3, 1) := by decide +kernel
theorem dL_law_380 : decode cL_law 380 = .ok (.iconst 2, 1) := by decide +kernel
theorem dL_law_381 : decode cL_law 381 = .ok (.iadd, 1) := by decide +kernel
theorem dL_law_382 : decode cL_law 382 = .ok (.iaload, 1) := by decide +kernel
theorem dL_law_383 : decode cL_law 383 = .ok (.aload_n 0, 1) := by decide +kernel
theorem dL_law_384 : decode cL_law 384 = .ok (.iload_n 3, 1) := by decide +kernel
theorem dL_law_385 : decode cL_law 385 = .ok (.iconst 3, 1) := by decide +kernel
theorem dL_law_386 : decode cL_law 386 = .ok (.iadd, 1) := by decide +kernel
theorem dL_law_387 : decode cL_law 387 = .ok (.iaload, 1) := by decide +kernel
theorem dL_law_388 : decode cL_law 388 = .ok (.aload_n 0, 1) := by decide +kernel
theorem dL_law_389 : decode cL_law 389 = .ok (.iload_n 3, 1) := by decide +kernel
theorem dL_law_390 : decode cL_law 390 = .ok (.iconst 4, 1) := by decide +kernel
theorem dL_law_391 : decode cL_law 391 = .ok (.iadd, 1) := by decide +kernel
theorem dL_law_392 : decode cL_law 392 = .ok (.iaload, 1) := by decide +kernel
theorem dL_law_393 : decode cL_law 393 = .ok (.invokevirtual 36, 3) := by decide +kernel
theorem dL_law_396 : decode cL_law 396 = .ok (.if_icmp .eq 986, 3) := by decide +kernel
theorem dL_law_399 : decode cL_law 399 = .ok (.iconst 0, 1) := by decide +kernel
theorem dL_law_400 : decode cL_law 400 = .ok (.ireturn, 1) := by decide +kernel
theorem dL_law_401 : decode cL_law 401 = .ok (.aload_n 1, 1) := by decide +kernel
theorem dL_law_402 : decode cL_law 402 = .ok (.aload_n 0, 1) := by decide +kernel
theorem dL_law_403 : decode cL_law 403 = .ok (.iload_n 3, 1) := by decide +kernel
theorem dL_law_404 : decode cL_law 404 = .ok (.iconst 1, 1) := by decide +kernel
theorem dL_law_405 : decode cL_law 405 = .ok (.iadd, 1) := by decide +kernel
theorem dL_law_406 : decode cL_law 406 = .ok (.iaload, 1) := by decide +kernel
theorem dL_law_407 : decode cL_law 407 = .ok (.aload_n 0, 1) := by decide +kernel
theorem dL_law_408 : decode cL_law 408 = .ok (.iload_n 3, 1) := by decide +kernel
theorem dL_law_409 : decode cL_law 409 = .ok (.iconst 2, 1) := by decide +kernel
theorem dL_law_410 : decode cL_law 410 = .ok (.iadd, 1) := by decide +kernel
theorem dL_law_411 : decode cL_law 411 = .ok (.iaload, 1) := by decide +kernel
theorem dL_law_412 : decode cL_law 412 = .ok (.aload_n 0, 1) := by decide +kernel
theorem dL_law_413 : decode cL_law 413 = .ok (.iload_n 3, 1) := by decide +kernel
theorem dL_law_414 : decode cL_law 414 = .ok (.iconst 3, 1) := by decide +kernel
theorem dL_law_415 : decode cL_law 415 = .ok (.iadd, 1) := by decide +kernel
theorem dL_law_416 : decode cL_law 416 = .ok (.iaload, 1) := by decide +kernel
theorem dL_law_417 : decode cL_law 417 = .ok (.aload_n 0, 1) := by decide +kernel
theorem dL_law_418 : decode cL_law 418 = .ok (.iload_n 3, 1) := by decide +kernel
theorem dL_law_419 : decode cL_law 419 = .ok (.iconst 4, 1) := by decide +kernel
theorem dL_law_420 : decode cL_law 420 = .ok (.iadd, 1) := by decide +kernel
theorem dL_law_421 : decode cL_law 421 = .ok (.iaload, 1) := by decide +kernel
theorem dL_law_422 : decode cL_law 422 = .ok (.invokevirtual 37, 3) := by decide +kernel
theorem dL_law_425 : decode cL_law 425 = .ok (.aload_n 2, 1) := by decide +kernel
theorem dL_law_426 : decode cL_law 426 = .ok (.aload_n 0, 1) := by decide +kernel
theorem dL_law_427 : decode cL_law 427 = .ok (.iload_n 3, 1) := by decide +kernel
theorem dL_law_428 : decode cL_law 428 = .ok (.iconst 1, 1) := by decide +kernel
theorem dL_law_429 : decode cL_law 429 = .ok (.iadd, 1) := by decide +kernel
theorem dL_law_430 : decode cL_law 430 = .ok (.iaload, 1) := by decide +kernel
theorem dL_law_431 : decode cL_law 431 = .ok (.aload_n 0, 1) := by decide +kernel
theorem dL_law_432 : decode cL_law 432 = .ok (.iload_n 3, 1) := by decide +kernel
theorem dL_law_433 : decode cL_law 433 = .ok (.iconst 2, 1) := by decide +kernel
theorem dL_law_434 : decode cL_law 434 = .ok (.iadd, 1) := by decide +kernel
theorem dL_law_435 : decode cL_law 435 = .ok (.iaload, 1) := by decide +kernel
theorem dL_law_436 : decode cL_law 436 = .ok (.aload_n 0, 1) := by decide +kernel
theorem dL_law_437 : decode cL_law 437 = .ok (.iload_n 3, 1) := by decide +kernel
theorem dL_law_438 : decode cL_law 438 = .ok (.iconst 3, 1) := by decide +kernel
theorem dL_law_439 : decode cL_law 439 = .ok (.iadd, 1) := by decide +kernel
theorem dL_law_440 : decode cL_law 440 = .ok (.iaload, 1) := by decide +kernel
theorem dL_law_441 : decode cL_law 441 = .ok (.aload_n 0, 1) := by decide +kernel
theorem dL_law_442 : decode cL_law 442 = .ok (.iload_n 3, 1) := by decide +kernel
theorem dL_law_443 : decode cL_law 443 = .ok (.iconst 4, 1) := by decide +kernel
theorem dL_law_444 : decode cL_law 444 = .ok (.iadd, 1) := by decide +kernel
theorem dL_law_445 : decode cL_law 445 = .ok (.iaload, 1) := by decide +kernel
theorem dL_law_446 : decode cL_law 446 = .ok (.invokevirtual 40, 3) := by decide +kernel
theorem dL_law_449 : decode cL_law 449 = .ok (.if_icmp .eq 933, 3) := by decide +kernel
theorem dL_law_452 : decode cL_law 452 = .ok (.iconst 0, 1) := by decide +kernel
theorem dL_law_453 : decode cL_law 453 = .ok (.ireturn, 1) := by decide +kernel
theorem dL_law_454 : decode cL_law 454 = .ok (.aload_n 1, 1) := by decide +kernel
theorem dL_law_455 : decode cL_law 455 = .ok (.aload_n 0, 1) := by decide +kernel
theorem dL_law_456 : decode cL_law 456 = .ok (.iload_n 3, 1) := by decide +kernel
theorem dL_law_457 : decode cL_law 457 = .ok (.iconst 1, 1) := by decide +kernel
theorem dL_law_458 : decode cL_law 458 = .ok (.iadd, 1) := by decide +kernel
theorem dL_law_459 : decode cL_law 459 = .ok (.iaload, 1) := by decide +kernel
theorem dL_law_460 : decode cL_law 460 = .ok (.invokevirtual 41, 3) := by decide +kernel
theorem dL_law_463 : decode cL_law 463 = .ok (.aload_n 2, 1) := by decide +kernel
theorem dL_law_464 : decode cL_law 464 = .ok (.aload_n 0, 1) := by decide +kernel
theorem dL_law_465 : decode cL_law 465 = .ok (.iload_n 3, 1) := by decide +kernel
theorem dL_law_466 : decode cL_law 466 = .ok (.iconst 1, 1) := by decide +kernel
theorem dL_law_467 : decode cL_law 467 = .ok (.iadd, 1) := by decide +kernel
theorem dL_law_468 : decode cL_law 468 = .ok (.iaload, 1) := by decide +kernel
theorem dL_law_469 : decode cL_law 469 = .ok (.invokevirtual 44, 3) := by decide +kernel
theorem dL_law_472 : decode cL_law 472 = .ok (.if_icmp .eq 910, 3) := by decide +kernel
theorem dL_law_475 : decode cL_law 475 = .ok (.iconst 0, 1) := by decide +kernel
theorem dL_law_476 : decode cL_law 476 = .ok (.ireturn, 1) := by decide +kernel
theorem dL_law_477 : decode cL_law 477 = .ok (.aload_n 1, 1) := by decide +kernel
theorem dL_law_478 : decode cL_law 478 = .ok (.aload_n 0, 1) := by decide +kernel
theorem dL_law_479 : decode cL_law 479 = .ok (.iload_n 3, 1) := by decide +kernel
theorem dL_law_480 : decode cL_law 480 = .ok (.iconst 1, 1) := by decide +kernel
theorem dL_law_481 : decode cL_law 481 = .ok (.iadd, 1) := by decide +kernel
theorem dL_law_482 : decode cL_law 482 = .ok (.iaload, 1) := by decide +kernel
theorem dL_law_483 : decode cL_law 483 = .ok (.aload_n 0, 1) := by decide +kernel
theorem dL_law_484 : decode cL_law 484 = .ok (.iload_n 3, 1) := by decide +kernel
theorem dL_law_485 : decode cL_law 485 = .ok (.iconst 2, 1) := by decide +kernel
theorem dL_law_486 : decode cL_law 486 = .ok (.iadd, 1) := by decide +kernel
theorem dL_law_487 : decode cL_law 487 = .ok (.iaload, 1) := by decide +kernel
theorem dL_law_488 : decode cL_law 488 = .ok (.aload_n 0, 1) := by decide +kernel
theorem dL_law_489 : decode cL_law 489 = .ok (.iload_n 3, 1) := by decide +kernel
theorem dL_law_490 : decode cL_law 490 = .ok (.iconst 3, 1) := by decide +kernel
theorem dL_law_491 : decode cL_law 491 = .ok (.iadd, 1) := by decide +kernel
theorem dL_law_492 : decode cL_law 492 = .ok (.iaload, 1) := by decide +kernel
theorem dL_law_493 : decode cL_law 493 = .ok (.invokevirtual 45, 3) := by decide +kernel
theorem dL_law_496 : decode cL_law 496 = .ok (.aload_n 2, 1) := by decide +kernel
theorem dL_law_497 : decode cL_law 497 = .ok (.aload_n 0, 1) := by decide +kernel
theorem dL_law_498 : decode cL_law 498 = .ok (.iload_n 3, 1) := by decide +kernel
theorem dL_law_499 : decode cL_law 499 = .ok (.iconst 1, 1) := by decide +kernel
theorem dL_law_500 : decode cL_law 500 = .ok (.iadd, 1) := by decide +kernel
theorem dL_law_501 : decode cL_law 501 = .ok (.iaload, 1) := by decide +kernel
theorem dL_law_502 : decode cL_law 502 = .ok (.aload_n 0, 1) := by decide +kernel
theorem dL_law_503 : decode cL_law 503 = .ok (.iload_n 3, 1) := by decide +kernel
theorem dL_law_504 : decode cL_law 504 = .ok (.iconst 2, 1) := by decide +kernel
theorem dL_law_505 : decode cL_law 505 = .ok (.iadd, 1) := by decide +kernel
theorem dL_law_506 : decode cL_law 506 = .ok (.iaload, 1) := by decide +kernel
theorem dL_law_507 : decode cL_law 507 = .ok (.aload_n 0, 1) := by decide +kernel
theorem dL_law_508 : decode cL_law 508 = .ok (.iload_n 3, 1) := by decide +kernel
theorem dL_law_509 : decode cL_law 509 = .ok (.iconst 3, 1) := by decide +kernel
theorem dL_law_510 : decode cL_law 510 = .ok (.iadd, 1) := by decide +kernel
theorem dL_law_511 : decode cL_law 511 = .ok (.iaload, 1) := by decide +kernel
theorem dL_law_512 : decode cL_law 512 = .ok (.invokevirtual 48, 3) := by decide +kernel
theorem dL_law_515 : decode cL_law 515 = .ok (.if_icmp .eq 867, 3) := by decide +kernel
theorem dL_law_518 : decode cL_law 518 = .ok (.iconst 0, 1) := by decide +kernel
theorem dL_law_519 : decode cL_law 519 = .ok (.ireturn, 1) := by decide +kernel
theorem dL_law_520 : decode cL_law 520 = .ok (.aload_n 1, 1) := by decide +kernel
theorem dL_law_521 : decode cL_law 521 = .ok (.aload_n 0, 1) := by decide +kernel
theorem dL_law_522 : decode cL_law 522 = .ok (.iload_n 3, 1) := by decide +kernel
theorem dL_law_523 : decode cL_law 523 = .ok (.iconst 1, 1) := by decide +kernel
theorem dL_law_524 : decode cL_law 524 = .ok (.iadd, 1) := by decide +kernel
theorem dL_law_525 : decode cL_law 525 = .ok (.iaload, 1) := by decide +kernel
theorem dL_law_526 : decode cL_law 526 = .ok (.aload_n 0, 1) := by decide +kernel
theorem dL_law_527 : decode cL_law 527 = .ok (.iload_n 3, 1) := by decide +kernel
theorem dL_law_528 : decode cL_law 528 = .ok (.iconst 2, 1) := by decide +kernel
theorem dL_law_529 : decode cL_law 529 = .ok (.iadd, 1) := by decide +kernel
theorem dL_law_530 : decode cL_law 530 = .ok (.iaload, 1) := by decide +kernel
theorem dL_law_531 : decode cL_law 531 = .ok (.aload_n 0, 1) := by decide +kernel
theorem dL_law_532 : decode cL_law 532 = .ok (.iload_n 3, 1) := by decide +kernel
theorem dL_law_533 : decode cL_law 533 = .ok (.iconst 3, 1) := by decide +kernel
theorem dL_law_534 : decode cL_law 534 = .ok (.iadd, 1) := by decide +kernel
theorem dL_law_535 : decode cL_law 535 = .ok (.iaload, 1) := by decide +kernel
theorem dL_law_536 : decode cL_law 536 = .ok (.aload_n 0, 1) := by decide +kernel
theorem dL_law_537 : decode cL_law 537 = .ok (.iload_n 3, 1) := by decide +kernel
theorem dL_law_538 : decode cL_law 538 = .ok (.iconst 4, 1) := by decide +kernel
theorem dL_law_539 : decode cL_law 539 = .ok (.iadd, 1) := by decide +kernel
theorem dL_law_540 : decode cL_law 540 = .ok (.iaload, 1) := by decide +kernel
theorem dL_law_541 : decode cL_law 541 = .ok (.invokevirtual 49, 3) := by decide +kernel
theorem dL_law_544 : decode cL_law 544 = .ok (.aload_n 2, 1) := by decide +kernel
theorem dL_law_545 : decode cL_law 545 = .ok (.aload_n 0, 1) := by decide +kernel
theorem dL_law_546 : decode cL_law 546 = .ok (.iload_n 3, 1) := by decide +kernel
theorem dL_law_547 : decode cL_law 547 = .ok (.iconst 1, 1) := by decide +kernel
theorem dL_law_548 : decode cL_law 548 = .ok (.iadd, 1) := by decide +kernel
theorem dL_law_549 : decode cL_law 549 = .ok (.iaload, 1) := by decide +kernel
theorem dL_law_550 : decode cL_law 550 = .ok (.aload_n 0, 1) := by decide +kernel
theorem dL_law_551 : decode cL_law 551 = .ok (.iload_n 3, 1) := by decide +kernel
theorem dL_law_552 : decode cL_law 552 = .ok (.iconst 2, 1) := by decide +kernel
theorem dL_law_553 : decode cL_law 553 = .ok (.iadd, 1) := by decide +kernel
theorem dL_law_554 : decode cL_law 554 = .ok (.iaload, 1) := by decide +kernel
theorem dL_law_555 : decode cL_law 555 = .ok (.aload_n 0, 1) := by decide +kernel
theorem dL_law_556 : decode cL_law 556 = .ok (.iload_n 3, 1) := by decide +kernel
theorem dL_law_557 : decode cL_law 557 = .ok (.iconst 3, 1) := by decide +kernel
theorem dL_law_558 : decode cL_law 558 = .ok (.iadd, 1) := by decide +kernel
theorem dL_law_559 : decode cL_law 559 = .ok (.iaload, 1) := by decide +kernel
theorem dL_law_560 : decode cL_law 560 = .ok (.aload_n 0, 1) := by decide +kernel
theorem dL_law_561 : decode cL_law 561 = .ok (.iload_n 3, 1) := by decide +kernel
theorem dL_law_562 : decode cL_law 562 = .ok (.iconst 4, 1) := by decide +kernel
theorem dL_law_563 : decode cL_law 563 = .ok (.iadd, 1) := by decide +kernel
theorem dL_law_564 : decode cL_law 564 = .ok (.iaload, 1) := by decide +kernel
theorem dL_law_565 : decode cL_law 565 = .ok (.invokevirtual 52, 3) := by decide +kernel
theorem dL_law_568 : decode cL_law 568 = .ok (.if_icmp .eq 814, 3) := by decide +kernel
theorem dL_law_571 : decode cL_law 571 = .ok (.iconst 0, 1) := by decide +kernel
theorem dL_law_572 : decode cL_law 572 = .ok (.ireturn, 1) := by decide +kernel
theorem dL_law_573 : decode cL_law 573 = .ok (.aload_n 1, 1) := by decide +kernel
theorem dL_law_574 : decode cL_law 574 = .ok (.aload_n 0, 1) := by decide +kernel
theorem dL_law_575 : decode cL_law 575 = .ok (.iload_n 3, 1) := by decide +kernel
theorem dL_law_576 : decode cL_law 576 = .ok (.iconst 1, 1) := by decide +kernel
theorem dL_law_577 : decode cL_law 577 = .ok (.iadd, 1) := by decide +kernel
theorem dL_law_578 : decode cL_law 578 = .ok (.iaload, 1) := by decide +kernel
theorem dL_law_579 : decode cL_law 579 = .ok (.aload_n 0, 1) := by decide +kernel
theorem dL_law_580 : decode cL_law 580 = .ok (.iload_n 3, 1) := by decide +kernel
theorem dL_law_581 : decode cL_law 581 = .ok (.iconst 2, 1) := by decide +kernel
theorem dL_law_582 : decode cL_law 582 = .ok (.iadd, 1) := by decide +kernel
theorem dL_law_583 : decode cL_law 583 = .ok (.iaload, 1) := by decide +kernel
theorem dL_law_584 : decode cL_law 584 = .ok (.aload_n 0, 1) := by decide +kernel
theorem dL_law_585 : decode cL_law 585 = .ok (.iload_n 3, 1) := by decide +kernel
theorem dL_law_586 : decode cL_law 586 = .ok (.iconst 3, 1) := by decide +kernel
theorem dL_law_587 : decode cL_law 587 = .ok (.iadd, 1) := by decide +kernel
theorem dL_law_588 : decode cL_law 588 = .ok (.iaload, 1) := by decide +kernel
theorem dL_law_589 : decode cL_law 589 = .ok (.aload_n 0, 1) := by decide +kernel
theorem dL_law_590 : decode cL_law 590 = .ok (.iload_n 3, 1) := by decide +kernel
theorem dL_law_591 : decode cL_law 591 = .ok (.iconst 4, 1) := by decide +kernel
theorem dL_law_592 : decode cL_law 592 = .ok (.iadd, 1) := by decide +kernel
theorem dL_law_593 : decode cL_law 593 = .ok (.iaload, 1) := by decide +kernel
theorem dL_law_594 : decode cL_law 594 = .ok (.aload_n 0, 1) := by decide +kernel
theorem dL_law_595 : decode cL_law 595 = .ok (.iload_n 3, 1) := by decide +kernel
theorem dL_law_596 : decode cL_law 596 = .ok (.iconst 5, 1) := by decide +kernel
theorem dL_law_597 : decode cL_law 597 = .ok (.iadd, 1) := by decide +kernel
theorem dL_law_598 : decode cL_law 598 = .ok (.iaload, 1) := by decide +kernel
theorem dL_law_599 : decode cL_law 599 = .ok (.invokevirtual 53, 3) := by decide +kernel
theorem dL_law_602 : decode cL_law 602 = .ok (.aload_n 2, 1) := by decide +kernel
theorem dL_law_603 : decode cL_law 603 = .ok (.aload_n 0, 1) := by decide +kernel
theorem dL_law_604 : decode cL_law 604 = .ok (.iload_n 3, 1) := by decide +kernel
theorem dL_law_605 : decode cL_law 605 = .ok (.iconst 1, 1) := by decide +kernel
theorem dL_law_606 : decode cL_law 606 = .ok (.iadd, 1) := by decide +kernel
theorem dL_law_607 : decode cL_law 607 = .ok (.iaload, 1) := by decide +kernel
theorem dL_law_608 : decode cL_law 608 = .ok (.aload_n 0, 1) := by decide +kernel
theorem dL_law_609 : decode cL_law 609 = .ok (.iload_n 3, 1) := by decide +kernel
theorem dL_law_610 : decode cL_law 610 = .ok (.iconst 2, 1) := by decide +kernel
theorem dL_law_611 : decode cL_law 611 = .ok (.iadd, 1) := by decide +kernel
theorem dL_law_612 : decode cL_law 612 = .ok (.iaload, 1) := by decide +kernel
theorem dL_law_613 : decode cL_law 613 = .ok (.aload_n 0, 1) := by decide +kernel
theorem dL_law_614 : decode cL_law 614 = .ok (.iload_n 3, 1) := by decide +kernel
theorem dL_law_615 : decode cL_law 615 = .ok (.iconst 3, 1) := by decide +kernel
theorem dL_law_616 : decode cL_law 616 = .ok (.iadd, 1) := by decide +kernel
theorem dL_law_617 : decode cL_law 617 = .ok (.iaload, 1) := by decide +kernel
theorem dL_law_618 : decode cL_law 618 = .ok (.aload_n 0, 1) := by decide +kernel
theorem dL_law_619 : decode cL_law 619 = .ok (.iload_n 3, 1) := by decide +kernel
theorem dL_law_620 : decode cL_law 620 = .ok (.iconst 4, 1) := by decide +kernel
theorem dL_law_621 : decode cL_law 621 = .ok (.iadd, 1) := by decide +kernel
theorem dL_law_622 : decode cL_law 622 = .ok (.iaload, 1) := by decide +kernel
theorem dL_law_623 : decode cL_law 623 = .ok (.aload_n 0, 1) := by decide +kernel
theorem dL_law_624 : decode cL_law 624 = .ok (.iload_n 3, 1) := by decide +kernel
theorem dL_law_625 : decode cL_law 625 = .ok (.iconst 5, 1) := by decide +kernel
theorem dL_law_626 : decode cL_law 626 = .ok (.iadd, 1) := by decide +kernel
theorem dL_law_627 : decode cL_law 627 = .ok (.iaload, 1) := by decide +kernel
theorem dL_law_628 : decode cL_law 628 = .ok (.invokevirtual 56, 3) := by decide +kernel
theorem dL_law_631 : decode cL_law 631 = .ok (.if_icmp .eq 751, 3) := by decide +kernel
theorem dL_law_634 : decode cL_law 634 = .ok (.iconst 0, 1) := by decide +kernel
theorem dL_law_635 : decode cL_law 635 = .ok (.ireturn, 1) := by decide +kernel
theorem dL_law_636 : decode cL_law 636 = .ok (.aload_n 1, 1) := by decide +kernel
theorem dL_law_637 : decode cL_law 637 = .ok (.invokevirtual 57, 3) := by decide +kernel
theorem dL_law_640 : decode cL_law 640 = .ok (.aload_n 2, 1) := by decide +kernel
theorem dL_law_641 : decode cL_law 641 = .ok (.invokevirtual 61, 3) := by decide +kernel
theorem dL_law_644 : decode cL_law 644 = .ok (.if_icmp .eq 738, 3) := by decide +kernel
theorem dL_law_647 : decode cL_law 647 = .ok (.iconst 0, 1) := by decide +kernel
theorem dL_law_648 : decode cL_law 648 = .ok (.ireturn, 1) := by decide +kernel
theorem dL_law_649 : decode cL_law 649 = .ok (.aload_n 1, 1) := by decide +kernel
theorem dL_law_650 : decode cL_law 650 = .ok (.aload_n 0, 1) := by decide +kernel
theorem dL_law_651 : decode cL_law 651 = .ok (.iload_n 3, 1) := by decide +kernel
theorem dL_law_652 : decode cL_law 652 = .ok (.iconst 1, 1) := by decide +kernel
theorem dL_law_653 : decode cL_law 653 = .ok (.iadd, 1) := by decide +kernel
theorem dL_law_654 : decode cL_law 654 = .ok (.iaload, 1) := by decide +kernel
theorem dL_law_655 : decode cL_law 655 = .ok (.aload_n 0, 1) := by decide +kernel
theorem dL_law_656 : decode cL_law 656 = .ok (.iload_n 3, 1) := by decide +kernel
theorem dL_law_657 : decode cL_law 657 = .ok (.iconst 2, 1) := by decide +kernel
theorem dL_law_658 : decode cL_law 658 = .ok (.iadd, 1) := by decide +kernel
theorem dL_law_659 : decode cL_law 659 = .ok (.iaload, 1) := by decide +kernel
theorem dL_law_660 : decode cL_law 660 = .ok (.invokevirtual 62, 3) := by decide +kernel
theorem dL_law_663 : decode cL_law 663 = .ok (.aload_n 2, 1) := by decide +kernel
theorem dL_law_664 : decode cL_law 664 = .ok (.aload_n 0, 1) := by decide +kernel
theorem dL_law_665 : decode cL_law 665 = .ok (.iload_n 3, 1) := by decide +kernel
theorem dL_law_666 : decode cL_law 666 = .ok (.iconst 1, 1) := by decide +kernel
theorem dL_law_667 : decode cL_law 667 = .ok (.iadd, 1) := by decide +kernel
theorem dL_law_668 : decode cL_law 668 = .ok (.iaload, 1) := by decide +kernel
theorem dL_law_669 : decode cL_law 669 = .ok (.aload_n 0, 1) := by decide +kernel
theorem dL_law_670 : decode cL_law 670 = .ok (.iload_n 3, 1) := by decide +kernel
theorem dL_law_671 : decode cL_law 671 = .ok (.iconst 2, 1) := by decide +kernel
theorem dL_law_672 : decode cL_law 672 = .ok (.iadd, 1) := by decide +kernel
theorem dL_law_673 : decode cL_law 673 = .ok (.iaload, 1) := by decide +kernel
theorem dL_law_674 : decode cL_law 674 = .ok (.invokevirtual 66, 3) := by decide +kernel
theorem dL_law_677 : decode cL_law 677 = .ok (.if_icmp .eq 705, 3) := by decide +kernel
theorem dL_law_680 : decode cL_law 680 = .ok (.iconst 0, 1) := by decide +kernel
theorem dL_law_681 : decode cL_law 681 = .ok (.ireturn, 1) := by decide +kernel
theorem dL_law_682 : decode cL_law 682 = .ok (.aload_n 1, 1) := by decide +kernel
theorem dL_law_683 : decode cL_law 683 = .ok (.aload_n 0, 1) := by decide +kernel
theorem dL_law_684 : decode cL_law 684 = .ok (.iload_n 3, 1) := by decide +kernel
theorem dL_law_685 : decode cL_law 685 = .ok (.iconst 1, 1) := by decide +kernel
theorem dL_law_686 : decode cL_law 686 = .ok (.iadd, 1) := by decide +kernel
theorem dL_law_687 : decode cL_law 687 = .ok (.iaload, 1) := by decide +kernel
theorem dL_law_688 : decode cL_law 688 = .ok (.aload_n 0, 1) := by decide +kernel
theorem dL_law_689 : decode cL_law 689 = .ok (.iload_n 3, 1) := by decide +kernel
theorem dL_law_690 : decode cL_law 690 = .ok (.iconst 2, 1) := by decide +kernel
theorem dL_law_691 : decode cL_law 691 = .ok (.iadd, 1) := by decide +kernel
theorem dL_law_692 : decode cL_law 692 = .ok (.iaload, 1) := by decide +kernel
theorem dL_law_693 : decode cL_law 693 = .ok (.invokevirtual 67, 3) := by decide +kernel
theorem dL_law_696 : decode cL_law 696 = .ok (.aload_n 2, 1) := by decide +kernel
theorem dL_law_697 : decode cL_law 697 = .ok (.aload_n 0, 1) := by decide +kernel
theorem dL_law_698 : decode cL_law 698 = .ok (.iload_n 3, 1) := by decide +kernel
theorem dL_law_699 : decode cL_law 699 = .ok (.iconst 1, 1) := by decide +kernel
theorem dL_law_700 : decode cL_law 700 = .ok (.iadd, 1) := by decide +kernel
theorem dL_law_701 : decode cL_law 701 = .ok (.iaload, 1) := by decide +kernel
theorem dL_law_702 : decode cL_law 702 = .ok (.aload_n 0, 1) := by decide +kernel
theorem dL_law_703 : decode cL_law 703 = .ok (.iload_n 3, 1) := by decide +kernel
theorem dL_law_704 : decode cL_law 704 = .ok (.iconst 2, 1) := by decide +kernel
theorem dL_law_705 : decode cL_law 705 = .ok (.iadd, 1) := by decide +kernel
theorem dL_law_706 : decode cL_law 706 = .ok (.iaload, 1) := by decide +kernel
theorem dL_law_707 : decode cL_law 707 = .ok (.invokevirtual 71, 3) := by decide +kernel
theorem dL_law_710 : decode cL_law 710 = .ok (.if_icmp .eq 672, 3) := by decide +kernel
theorem dL_law_713 : decode cL_law 713 = .ok (.iconst 0, 1) := by decide +kernel
theorem dL_law_714 : decode cL_law 714 = .ok (.ireturn, 1) := by decide +kernel
theorem dL_law_715 : decode cL_law 715 = .ok (.aload_n 1, 1) := by decide +kernel
theorem dL_law_716 : decode cL_law 716 = .ok (.aload_n 0, 1) := by decide +kernel
theorem dL_law_717 : decode cL_law 717 = .ok (.iload_n 3, 1) := by decide +kernel
theorem dL_law_718 : decode cL_law 718 = .ok (.iconst 1, 1) := by decide +kernel
theorem dL_law_719 : decode cL_law 719 = .ok (.iadd, 1) := by decide +kernel
theorem dL_law_720 : decode cL_law 720 = .ok (.iaload, 1) := by decide +kernel
theorem dL_law_721 : decode cL_law 721 = .ok (.aload_n 0, 1) := by decide +kernel
theorem dL_law_722 : decode cL_law 722 = .ok (.iload_n 3, 1) := by decide +kernel
theorem dL_law_723 : decode cL_law 723 = .ok (.iconst 2, 1) := by decide +kernel
theorem dL_law_724 : decode cL_law 724 = .ok (.iadd, 1) := by decide +kernel
theorem dL_law_725 : decode cL_law 725 = .ok (.iaload, 1) := by decide +kernel
theorem dL_law_726 : decode cL_law 726 = .ok (.invokevirtual 72, 3) := by decide +kernel
theorem dL_law_729 : decode cL_law 729 = .ok (.aload_n 2, 1) := by decide +kernel
theorem dL_law_730 : decode cL_law 730 = .ok (.aload_n 0, 1) := by decide +kernel
theorem dL_law_731 : decode cL_law 731 = .ok (.iload_n 3, 1) := by decide +kernel
theorem dL_law_732 : decode cL_law 732 = .ok (.iconst 1, 1) := by decide +kernel
theorem dL_law_733 : decode cL_law 733 = .ok (.iadd, 1) := by decide +kernel
theorem dL_law_734 : decode cL_law 734 = .ok (.iaload, 1) := by decide +kernel
theorem dL_law_735 : decode cL_law 735 = .ok (.aload_n 0, 1) := by decide +kernel
theorem dL_law_736 : decode cL_law 736 = .ok (.iload_n 3, 1) := by decide +kernel
theorem dL_law_737 : decode cL_law 737 = .ok (.iconst 2, 1) := by decide +kernel
theorem dL_law_738 : decode cL_law 738 = .ok (.iadd, 1) := by decide +kernel
theorem dL_law_739 : decode cL_law 739 = .ok (.iaload, 1) := by decide +kernel
theorem dL_law_740 : decode cL_law 740 = .ok (.invokevirtual 75, 3) := by decide +kernel
theorem dL_law_743 : decode cL_law 743 = .ok (.if_icmp .eq 639, 3) := by decide +kernel
theorem dL_law_746 : decode cL_law 746 = .ok (.iconst 0, 1) := by decide +kernel
theorem dL_law_747 : decode cL_law 747 = .ok (.ireturn, 1) := by decide +kernel
theorem dL_law_748 : decode cL_law 748 = .ok (.aload_n 1, 1) := by decide +kernel
theorem dL_law_749 : decode cL_law 749 = .ok (.aload_n 0, 1) := by decide +kernel
theorem dL_law_750 : decode cL_law 750 = .ok (.iload_n 3, 1) := by decide +kernel
theorem dL_law_751 : decode cL_law 751 = .ok (.iconst 1, 1) := by decide +kernel
theorem dL_law_752 : decode cL_law 752 = .ok (.iadd, 1) := by decide +kernel
theorem dL_law_753 : decode cL_law 753 = .ok (.iaload, 1) := by decide +kernel
theorem dL_law_754 : decode cL_law 754 = .ok (.invokevirtual 76, 3) := by decide +kernel
theorem dL_law_757 : decode cL_law 757 = .ok (.aload_n 2, 1) := by decide +kernel
theorem dL_law_758 : decode cL_law 758 = .ok (.aload_n 0, 1) := by decide +kernel
theorem dL_law_759 : decode cL_law 759 = .ok (.iload_n 3, 1) := by decide +kernel
theorem dL_law_760 : decode cL_law 760 = .ok (.iconst 1, 1) := by decide +kernel
theorem dL_law_761 : decode cL_law 761 = .ok (.iadd, 1) := by decide +kernel
theorem dL_law_762 : decode cL_law 762 = .ok (.iaload, 1) := by decide +kernel
theorem dL_law_763 : decode cL_law 763 = .ok (.invokevirtual 79, 3) := by decide +kernel
theorem dL_law_766 : decode cL_law 766 = .ok (.if_icmp .eq 616, 3) := by decide +kernel
theorem dL_law_769 : decode cL_law 769 = .ok (.iconst 0, 1) := by decide +kernel
theorem dL_law_770 : decode cL_law 770 = .ok (.ireturn, 1) := by decide +kernel
theorem dL_law_771 : decode cL_law 771 = .ok (.aload_n 1, 1) := by decide +kernel
theorem dL_law_772 : decode cL_law 772 = .ok (.invokevirtual 80, 3) := by decide +kernel
theorem dL_law_775 : decode cL_law 775 = .ok (.aload_n 2, 1) := by decide +kernel
theorem dL_law_776 : decode cL_law 776 = .ok (.invokevirtual 83, 3) := by decide +kernel
theorem dL_law_779 : decode cL_law 779 = .ok (.if_icmp .eq 603, 3) := by decide +kernel
theorem dL_law_782 : decode cL_law 782 = .ok (.iconst 0, 1) := by decide +kernel
theorem dL_law_783 : decode cL_law 783 = .ok (.ireturn, 1) := by decide +kernel
theorem dL_law_784 : decode cL_law 784 = .ok (.aload_n 1, 1) := by decide +kernel
theorem dL_law_785 : decode cL_law 785 = .ok (.aload_n 0, 1) := by decide +kernel
theorem dL_law_786 : decode cL_law 786 = .ok (.iload_n 3, 1) := by decide +kernel
theorem dL_law_787 : decode cL_law 787 = .ok (.iconst 1, 1) := by decide +kernel
theorem dL_law_788 : decode cL_law 788 = .ok (.iadd, 1) := by decide +kernel
theorem dL_law_789 : decode cL_law 789 = .ok (.iaload, 1) := by decide +kernel
theorem dL_law_790 : decode cL_law 790 = .ok (.aload_n 0, 1) := by decide +kernel
theorem dL_law_791 : decode cL_law 791 = .ok (.iload_n 3, 1) := by decide +kernel
theorem dL_law_792 : decode cL_law 792 = .ok (.iconst 2, 1) := by decide +kernel
theorem dL_law_793 : decode cL_law 793 = .ok (.iadd, 1) := by decide +kernel
theorem dL_law_794 : decode cL_law 794 = .ok (.iaload, 1) := by decide +kernel
theorem dL_law_795 : decode cL_law 795 = .ok (.invokevirtual 84, 3) := by decide +kernel
theorem dL_law_798 : decode cL_law 798 = .ok (.aload_n 2, 1) := by decide +kernel
theorem dL_law_799 : decode cL_law 799 = .ok (.aload_n 0, 1) := by decide +kernel
theorem dL_law_800 : decode cL_law 800 = .ok (.iload_n 3, 1) := by decide +kernel
theorem dL_law_801 : decode cL_law 801 = .ok (.iconst 1, 1) := by decide +kernel
theorem dL_law_802 : decode cL_law 802 = .ok (.iadd, 1) := by decide +kernel
theorem dL_law_803 : decode cL_law 803 = .ok (.iaload, 1) := by decide +kernel
theorem dL_law_804 : decode cL_law 804 = .ok (.aload_n 0, 1) := by decide +kernel
theorem dL_law_805 : decode cL_law 805 = .ok (.iload_n 3, 1) := by decide +kernel
theorem dL_law_806 : decode cL_law 806 = .ok (.iconst 2, 1) := by decide +kernel
theorem dL_law_807 : decode cL_law 807 = .ok (.iadd, 1) := by decide +kernel
theorem dL_law_808 : decode cL_law 808 = .ok (.iaload, 1) := by decide +kernel
theorem dL_law_809 : decode cL_law 809 = .ok (.invokevirtual 87, 3) := by decide +kernel
theorem dL_law_812 : decode cL_law 812 = .ok (.if_icmp .eq 570, 3) := by decide +kernel
theorem dL_law_815 : decode cL_law 815 = .ok (.iconst 0, 1) := by decide +kernel
theorem dL_law_816 : decode cL_law 816 = .ok (.ireturn, 1) := by decide +kernel
theorem dL_law_817 : decode cL_law 817 = .ok (.aload_n 1, 1) := by decide +kernel
theorem dL_law_818 : decode cL_law 818 = .ok (.aload_n 0, 1) := by decide +kernel
theorem dL_law_819 : decode cL_law 819 = .ok (.iload_n 3, 1) := by decide +kernel
theorem dL_law_820 : decode cL_law 820 = .ok (.iconst 1, 1) := by decide +kernel
theorem dL_law_821 : decode cL_law 821 = .ok (.iadd, 1) := by decide +kernel
theorem dL_law_822 : decode cL_law 822 = .ok (.iaload, 1) := by decide +kernel
theorem dL_law_823 : decode cL_law 823 = .ok (.aload_n 0, 1) := by decide +kernel
theorem dL_law_824 : decode cL_law 824 = .ok (.iload_n 3, 1) := by decide +kernel
theorem dL_law_825 : decode cL_law 825 = .ok (.iconst 2, 1) := by decide +kernel
theorem dL_law_826 : decode cL_law 826 = .ok (.iadd, 1) := by decide +kernel
theorem dL_law_827 : decode cL_law 827 = .ok (.iaload, 1) := by decide +kernel
theorem dL_law_828 : decode cL_law 828 = .ok (.aload_n 0, 1) := by decide +kernel
theorem dL_law_829 : decode cL_law 829 = .ok (.iload_n 3, 1) := by decide +kernel
theorem dL_law_830 : decode cL_law 830 = .ok (.iconst 3, 1) := by decide +kernel
theorem dL_law_831 : decode cL_law 831 = .ok (.iadd, 1) := by decide +kernel
theorem dL_law_832 : decode cL_law 832 = .ok (.iaload, 1) := by decide +kernel
theorem dL_law_833 : decode cL_law 833 = .ok (.invokevirtual 88, 3) := by decide +kernel
theorem dL_law_836 : decode cL_law 836 = .ok (.aload_n 2, 1) := by decide +kernel
theorem dL_law_837 : decode cL_law 837 = .ok (.aload_n 0, 1) := by decide +kernel
theorem dL_law_838 : decode cL_law 838 = .ok (.iload_n 3, 1) := by decide +kernel
theorem dL_law_839 : decode cL_law 839 = .ok (.iconst 1, 1) := by decide +kernel
theorem dL_law_840 : decode cL_law 840 = .ok (.iadd, 1) := by decide +kernel
theorem dL_law_841 : decode cL_law 841 = .ok (.iaload, 1) := by decide +kernel
theorem dL_law_842 : decode cL_law 842 = .ok (.aload_n 0, 1) := by decide +kernel
theorem dL_law_843 : decode cL_law 843 = .ok (.iload_n 3, 1) := by decide +kernel
theorem dL_law_844 : decode cL_law 844 = .ok (.iconst 2, 1) := by decide +kernel
theorem dL_law_845 : decode cL_law 845 = .ok (.iadd, 1) := by decide +kernel
theorem dL_law_846 : decode cL_law 846 = .ok (.iaload, 1) := by decide +kernel
theorem dL_law_847 : decode cL_law 847 = .ok (.aload_n 0, 1) := by decide +kernel
theorem dL_law_848 : decode cL_law 848 = .ok (.iload_n 3, 1) := by decide +kernel
theorem dL_law_849 : decode cL_law 849 = .ok (.iconst 3, 1) := by decide +kernel
theorem dL_law_850 : decode cL_law 850 = .ok (.iadd, 1) := by decide +kernel
theorem dL_law_851 : decode cL_law 851 = .ok (.iaload, 1) := by decide +kernel
theorem dL_law_852 : decode cL_law 852 = .ok (.invokevirtual 91, 3) := by decide +kernel
theorem dL_law_855 : decode cL_law 855 = .ok (.if_icmp .eq 527, 3) := by decide +kernel
theorem dL_law_858 : decode cL_law 858 = .ok (.iconst 0, 1) := by decide +kernel
theorem dL_law_859 : decode cL_law 859 = .ok (.ireturn, 1) := by decide +kernel
theorem dL_law_860 : decode cL_law 860 = .ok (.aload_n 1, 1) := by decide +kernel
theorem dL_law_861 : decode cL_law 861 = .ok (.aload_n 0, 1) := by decide +kernel
theorem dL_law_862 : decode cL_law 862 = .ok (.iload_n 3, 1) := by decide +kernel
theorem dL_law_863 : decode cL_law 863 = .ok (.iconst 1, 1) := by decide +kernel
theorem dL_law_864 : decode cL_law 864 = .ok (.iadd, 1) := by decide +kernel
theorem dL_law_865 : decode cL_law 865 = .ok (.iaload, 1) := by decide +kernel
theorem dL_law_866 : decode cL_law 866 = .ok (.aload_n 0, 1) := by decide +kernel
theorem dL_law_867 : decode cL_law 867 = .ok (.iload_n 3, 1) := by decide +kernel
theorem dL_law_868 : decode cL_law 868 = .ok (.iconst 2, 1) := by decide +kernel
theorem dL_law_869 : decode cL_law 869 = .ok (.iadd, 1) := by decide +kernel
theorem dL_law_870 : decode cL_law 870 = .ok (.iaload, 1) := by decide +kernel
theorem dL_law_871 : decode cL_law 871 = .ok (.invokevirtual 92, 3) := by decide +kernel
theorem dL_law_874 : decode cL_law 874 = .ok (.aload_n 2, 1) := by decide +kernel
theorem dL_law_875 : decode cL_law 875 = .ok (.aload_n 0, 1) := by decide +kernel
theorem dL_law_876 : decode cL_law 876 = .ok (.iload_n 3, 1) := by decide +kernel
theorem dL_law_877 : decode cL_law 877 = .ok (.iconst 1, 1) := by decide +kernel
theorem dL_law_878 : decode cL_law 878 = .ok (.iadd, 1) := by decide +kernel
theorem dL_law_879 : decode cL_law 879 = .ok (.iaload, 1) := by decide +kernel
theorem dL_law_880 : decode cL_law 880 = .ok (.aload_n 0, 1) := by decide +kernel
theorem dL_law_881 : decode cL_law 881 = .ok (.iload_n 3, 1) := by decide +kernel
theorem dL_law_882 : decode cL_law 882 = .ok (.iconst 2, 1) := by decide +kernel
theorem dL_law_883 : decode cL_law 883 = .ok (.iadd, 1) := by decide +kernel
theorem dL_law_884 : decode cL_law 884 = .ok (.iaload, 1) := by decide +kernel
theorem dL_law_885 : decode cL_law 885 = .ok (.invokevirtual 95, 3) := by decide +kernel
theorem dL_law_888 : decode cL_law 888 = .ok (.if_icmp .eq 494, 3) := by decide +kernel
theorem dL_law_891 : decode cL_law 891 = .ok (.iconst 0, 1) := by decide +kernel
theorem dL_law_892 : decode cL_law 892 = .ok (.ireturn, 1) := by decide +kernel
theorem dL_law_893 : decode cL_law 893 = .ok (.aload_n 1, 1) := by decide +kernel
theorem dL_law_894 : decode cL_law 894 = .ok (.aload_n 0, 1) := by decide +kernel
theorem dL_law_895 : decode cL_law 895 = .ok (.iload_n 3, 1) := by decide +kernel
theorem dL_law_896 : decode cL_law 896 = .ok (.iconst 1, 1) := by decide +kernel
theorem dL_law_897 : decode cL_law 897 = .ok (.iadd, 1) := by decide +kernel
theorem dL_law_898 : decode cL_law 898 = .ok (.iaload, 1) := by decide +kernel
theorem dL_law_899 : decode cL_law 899 = .ok (.aload_n 0, 1) := by decide +kernel
theorem dL_law_900 : decode cL_law 900 = .ok (.iload_n 3, 1) := by decide +kernel
theorem dL_law_901 : decode cL_law 901 = .ok (.iconst 2, 1) := by decide +kernel
theorem dL_law_902 : decode cL_law 902 = .ok (.iadd, 1) := by decide +kernel
theorem dL_law_903 : decode cL_law 903 = .ok (.iaload, 1) := by decide +kernel
theorem dL_law_904 : decode cL_law 904 = .ok (.aload_n 0, 1) := by decide +kernel
theorem dL_law_905 : decode cL_law 905 = .ok (.iload_n 3, 1) := by decide +kernel
theorem dL_law_906 : decode cL_law 906 = .ok (.iconst 3, 1) := by decide +kernel
theorem dL_law_907 : decode cL_law 907 = .ok (.iadd, 1) := by decide +kernel
theorem dL_law_908 : decode cL_law 908 = .ok (.iaload, 1) := by decide +kernel
theorem dL_law_909 : decode cL_law 909 = .ok (.aload_n 0, 1) := by decide +kernel
theorem dL_law_910 : decode cL_law 910 = .ok (.iload_n 3, 1) := by decide +kernel
theorem dL_law_911 : decode cL_law 911 = .ok (.iconst 4, 1) := by decide +kernel
theorem dL_law_912 : decode cL_law 912 = .ok (.iadd, 1) := by decide +kernel
theorem dL_law_913 : decode cL_law 913 = .ok (.iaload, 1) := by decide +kernel
theorem dL_law_914 : decode cL_law 914 = .ok (.invokevirtual 96, 3) := by decide +kernel
theorem dL_law_917 : decode cL_law 917 = .ok (.aload_n 2, 1) := by decide +kernel
theorem dL_law_918 : decode cL_law 918 = .ok (.aload_n 0, 1) := by decide +kernel
theorem dL_law_919 : decode cL_law 919 = .ok (.iload_n 3, 1) := by decide +kernel
theorem dL_law_920 : decode cL_law 920 = .ok (.iconst 1, 1) := by decide +kernel
theorem dL_law_921 : decode cL_law 921 = .ok (.iadd, 1) := by decide +kernel
theorem dL_law_922 : decode cL_law 922 = .ok (.iaload, 1) := by decide +kernel
theorem dL_law_923 : decode cL_law 923 = .ok (.aload_n 0, 1) := by decide +kernel
theorem dL_law_924 : decode cL_law 924 = .ok (.iload_n 3, 1) := by decide +kernel
theorem dL_law_925 : decode cL_law 925 = .ok (.iconst 2, 1) := by decide +kernel
theorem dL_law_926 : decode cL_law 926 = .ok (.iadd, 1) := by decide +kernel
theorem dL_law_927 : decode cL_law 927 = .ok (.iaload, 1) := by decide +kernel
theorem dL_law_928 : decode cL_law 928 = .ok (.aload_n 0, 1) := by decide +kernel
theorem dL_law_929 : decode cL_law 929 = .ok (.iload_n 3, 1) := by decide +kernel
theorem dL_law_930 : decode cL_law 930 = .ok (.iconst 3, 1) := by decide +kernel
theorem dL_law_931 : decode cL_law 931 = .ok (.iadd, 1) := by decide +kernel
theorem dL_law_932 : decode cL_law 932 = .ok (.iaload, 1) := by decide +kernel
theorem dL_law_933 : decode cL_law 933 = .ok (.aload_n 0, 1) := by decide +kernel
theorem dL_law_934 : decode cL_law 934 = .ok (.iload_n 3, 1) := by decide +kernel
theorem dL_law_935 : decode cL_law 935 = .ok (.iconst 4, 1) := by decide +kernel
theorem dL_law_936 : decode cL_law 936 = .ok (.iadd, 1) := by decide +kernel
theorem dL_law_937 : decode cL_law 937 = .ok (.iaload, 1) := by decide +kernel
theorem dL_law_938 : decode cL_law 938 = .ok (.invokevirtual 99, 3) := by decide +kernel
theorem dL_law_941 : decode cL_law 941 = .ok (.if_icmp .eq 441, 3) := by decide +kernel
theorem dL_law_944 : decode cL_law 944 = .ok (.iconst 0, 1) := by decide +kernel
theorem dL_law_945 : decode cL_law 945 = .ok (.ireturn, 1) := by decide +kernel
theorem dL_law_946 : decode cL_law 946 = .ok (.aload_n 1, 1) := by decide +kernel
theorem dL_law_947 : decode cL_law 947 = .ok (.aload_n 0, 1) := by decide +kernel
theorem dL_law_948 : decode cL_law 948 = .ok (.iload_n 3, 1) := by decide +kernel
theorem dL_law_949 : decode cL_law 949 = .ok (.iconst 1, 1) := by decide +kernel
theorem dL_law_950 : decode cL_law 950 = .ok (.iadd, 1) := by decide +kernel
theorem dL_law_951 : decode cL_law 951 = .ok (.iaload, 1) := by decide +kernel
theorem dL_law_952 : decode cL_law 952 = .ok (.aload_n 0, 1) := by decide +kernel
theorem dL_law_953 : decode cL_law 953 = .ok (.iload_n 3, 1) := by decide +kernel
theorem dL_law_954 : decode cL_law 954 = .ok (.iconst 2, 1) := by decide +kernel
theorem dL_law_955 : decode cL_law 955 = .ok (.iadd, 1) := by decide +kernel
theorem dL_law_956 : decode cL_law 956 = .ok (.iaload, 1) := by decide +kernel
theorem dL_law_957 : decode cL_law 957 = .ok (.aload_n 0, 1) := by decide +kernel
theorem dL_law_958 : decode cL_law 958 = .ok (.iload_n 3, 1) := by decide +kernel
theorem dL_law_959 : decode cL_law 959 = .ok (.iconst 3, 1) := by decide +kernel
theorem dL_law_960 : decode cL_law 960 = .ok (.iadd, 1) := by decide +kernel
theorem dL_law_961 : decode cL_law 961 = .ok (.iaload, 1) := by decide +kernel
theorem dL_law_962 : decode cL_law 962 = .ok (.aload_n 0, 1) := by decide +kernel
theorem dL_law_963 : decode cL_law 963 = .ok (.iload_n 3, 1) := by decide +kernel
theorem dL_law_964 : decode cL_law 964 = .ok (.iconst 4, 1) := by decide +kernel
theorem dL_law_965 : decode cL_law 965 = .ok (.iadd, 1) := by decide +kernel
theorem dL_law_966 : decode cL_law 966 = .ok (.iaload, 1) := by decide +kernel
theorem dL_law_967 : decode cL_law 967 = .ok (.invokevirtual 100, 3) := by decide +kernel
theorem dL_law_970 : decode cL_law 970 = .ok (.aload_n 2, 1) := by decide +kernel
theorem dL_law_971 : decode cL_law 971 = .ok (.aload_n 0, 1) := by decide +kernel
theorem dL_law_972 : decode cL_law 972 = .ok (.iload_n 3, 1) := by decide +kernel
theorem dL_law_973 : decode cL_law 973 = .ok (.iconst 1, 1) := by decide +kernel
theorem dL_law_974 : decode cL_law 974 = .ok (.iadd, 1) := by decide +kernel
theorem dL_law_975 : decode cL_law 975 = .ok (.iaload, 1) := by decide +kernel
theorem dL_law_976 : decode cL_law 976 = .ok (.aload_n 0, 1) := by decide +kernel
theorem dL_law_977 : decode cL_law 977 = .ok (.iload_n 3, 1) := by decide +kernel
theorem dL_law_978 : decode cL_law 978 = .ok (.iconst 2, 1) := by decide +kernel
theorem dL_law_979 : decode cL_law 979 = .ok (.iadd, 1) := by decide +kernel
theorem dL_law_980 : decode cL_law 980 = .ok (.iaload, 1) := by decide +kernel
theorem dL_law_981 : decode cL_law 981 = .ok (.aload_n 0, 1) := by decide +kernel
theorem dL_law_982 : decode cL_law 982 = .ok (.iload_n 3, 1) := by decide +kernel
theorem dL_law_983 : decode cL_law 983 = .ok (.iconst 3, 1) := by decide +kernel
theorem dL_law_984 : decode cL_law 984 = .ok (.iadd, 1) := by decide +kernel
theorem dL_law_985 : decode cL_law 985 = .ok (.iaload, 1) := by decide +kernel
theorem dL_law_986 : decode cL_law 986 = .ok (.aload_n 0, 1) := by decide +kernel
theorem dL_law_987 : decode cL_law 987 = .ok (.iload_n 3, 1) := by decide +kernel
theorem dL_law_988 : decode cL_law 988 = .ok (.iconst 4, 1) := by decide +kernel
theorem dL_law_989 : decode cL_law 989 = .ok (.iadd, 1) := by decide +kernel
theorem dL_law_990 : decode cL_law 990 = .ok (.iaload, 1) := by decide +kernel
theorem dL_law_991 : decode cL_law 991 = .ok (.invokevirtual 103, 3) := by decide +kernel
theorem dL_law_994 : decode cL_law 994 = .ok (.if_icmp .eq 388, 3) := by decide +kernel
theorem dL_law_997 : decode cL_law 997 = .ok (.iconst 0, 1) := by decide +kernel
theorem dL_law_998 : decode cL_law 998 = .ok (.ireturn, 1) := by decide +kernel
theorem dL_law_999 : decode cL_law 999 = .ok (.aload_n 1, 1) := by decide +kernel
theorem dL_law_1000 : decode cL_law 1000 = .ok (.aload_n 0, 1) := by decide +kernel
theorem dL_law_1001 : decode cL_law 1001 = .ok (.iload_n 3, 1) := by decide +kernel
theorem dL_law_1002 : decode cL_law 1002 = .ok (.iconst 1, 1) := by decide +kernel
theorem dL_law_1003 : decode cL_law 1003 = .ok (.iadd, 1) := by decide +kernel
theorem dL_law_1004 : decode cL_law 1004 = .ok (.iaload, 1) := by decide +kernel
theorem dL_law_1005 : decode cL_law 1005 = .ok (.aload_n 0, 1) := by decide +kernel
theorem dL_law_1006 : decode cL_law 1006 = .ok (.iload_n 3, 1) := by decide +kernel
theorem dL_law_1007 : decode cL_law 1007 = .ok (.iconst 2, 1) := by decide +kernel
theorem dL_law_1008 : decode cL_law 1008 = .ok (.iadd, 1) := by decide +kernel
theorem dL_law_1009 : decode cL_law 1009 = .ok (.iaload, 1) := by decide +kernel
theorem dL_law_1010 : decode cL_law 1010 = .ok (.invokevirtual 104, 3) := by decide +kernel
theorem dL_law_1013 : decode cL_law 1013 = .ok (.aload_n 2, 1) := by decide +kernel
theorem dL_law_1014 : decode cL_law 1014 = .ok (.aload_n 0, 1) := by decide +kernel
theorem dL_law_1015 : decode cL_law 1015 = .ok (.iload_n 3, 1) := by decide +kernel
theorem dL_law_1016 : decode cL_law 1016 = .ok (.iconst 1, 1) := by decide +kernel
theorem dL_law_1017 : decode cL_law 1017 = .ok (.iadd, 1) := by decide +kernel
theorem dL_law_1018 : decode cL_law 1018 = .ok (.iaload, 1) := by decide +kernel
theorem dL_law_1019 : decode cL_law 1019 = .ok (.aload_n 0, 1) := by decide +kernel
theorem dL_law_1020 : decode cL_law 1020 = .ok (.iload_n 3, 1) := by decide +kernel
theorem dL_law_1021 : decode cL_law 1021 = .ok (.iconst 2, 1) := by decide +kernel
theorem dL_law_1022 : decode cL_law 1022 = .ok (.iadd, 1) := by decide +kernel
theorem dL_law_1023 : decode cL_law 1023 = .ok (.iaload, 1) := by decide +kernel
theorem dL_law_1024 : decode cL_law 1024 = .ok (.invokevirtual 107, 3) := by decide +kernel
theorem dL_law_1027 : decode cL_law 1027 = .ok (.if_icmp .eq 355, 3) := by decide +kernel
theorem dL_law_1030 : decode cL_law 1030 = .ok (.iconst 0, 1) := by decide +kernel
theorem dL_law_1031 : decode cL_law 1031 = .ok (.ireturn, 1) := by decide +kernel
theorem dL_law_1032 : decode cL_law 1032 = .ok (.aload_n 1, 1) := by decide +kernel
theorem dL_law_1033 : decode cL_law 1033 = .ok (.aload_n 0, 1) := by decide +kernel
theorem dL_law_1034 : decode cL_law 1034 = .ok (.iload_n 3, 1) := by decide +kernel
theorem dL_law_1035 : decode cL_law 1035 = .ok (.iconst 1, 1) := by decide +kernel
theorem dL_law_1036 : decode cL_law 1036 = .ok (.iadd, 1) := by decide +kernel
theorem dL_law_1037 : decode cL_law 1037 = .ok (.iaload, 1) := by decide +kernel
theorem dL_law_1038 : decode cL_law 1038 = .ok (.invokevirtual 108, 3) := by decide +kernel
theorem dL_law_1041 : decode cL_law 1041 = .ok (.aload_n 2, 1) := by decide +kernel
theorem dL_law_1042 : decode cL_law 1042 = .ok (.aload_n 0, 1) := by decide +kernel
theorem dL_law_1043 : decode cL_law 1043 = .ok (.iload_n 3, 1) := by decide +kernel
theorem dL_law_1044 : decode cL_law 1044 = .ok (.iconst 1, 1) := by decide +kernel
theorem dL_law_1045 : decode cL_law 1045 = .ok (.iadd, 1) := by decide +kernel
theorem dL_law_1046 : decode cL_law 1046 = .ok (.iaload, 1) := by decide +kernel
theorem dL_law_1047 : decode cL_law 1047 = .ok (.invokevirtual 111, 3) := by decide +kernel
theorem dL_law_1050 : decode cL_law 1050 = .ok (.if_icmp .eq 332, 3) := by decide +kernel
theorem dL_law_1053 : decode cL_law 1053 = .ok (.iconst 0, 1) := by decide +kernel
theorem dL_law_1054 : decode cL_law 1054 = .ok (.ireturn, 1) := by decide +kernel
theorem dL_law_1055 : decode cL_law 1055 = .ok (.aload_n 1, 1) := by decide +kernel
theorem dL_law_1056 : decode cL_law 1056 = .ok (.aload_n 0, 1) := by decide +kernel
theorem dL_law_1057 : decode cL_law 1057 = .ok (.iload_n 3, 1) := by decide +kernel
theorem dL_law_1058 : decode cL_law 1058 = .ok (.iconst 1, 1) := by decide +kernel
theorem dL_law_1059 : decode cL_law 1059 = .ok (.iadd, 1) := by decide +kernel
theorem dL_law_1060 : decode cL_law 1060 = .ok (.iaload, 1) := by decide +kernel
theorem dL_law_1061 : decode cL_law 1061 = .ok (.aload_n 0, 1) := by decide +kernel
theorem dL_law_1062 : decode cL_law 1062 = .ok (.iload_n 3, 1) := by decide +kernel
theorem dL_law_1063 : decode cL_law 1063 = .ok (.iconst 2, 1) := by decide +kernel
theorem dL_law_1064 : decode cL_law 1064 = .ok (.iadd, 1) := by decide +kernel
theorem dL_law_1065 : decode cL_law 1065 = .ok (.iaload, 1) := by decide +kernel
theorem dL_law_1066 : decode cL_law 1066 = .ok (.aload_n 0, 1) := by decide +kernel
theorem dL_law_1067 : decode cL_law 1067 = .ok (.iload_n 3, 1) := by decide +kernel
theorem dL_law_1068 : decode cL_law 1068 = .ok (.iconst 3, 1) := by decide +kernel
theorem dL_law_1069 : decode cL_law 1069 = .ok (.iadd, 1) := by decide +kernel
theorem dL_law_1070 : decode cL_law 1070 = .ok (.iaload, 1) := by decide +kernel
theorem dL_law_1071 : decode cL_law 1071 = .ok (.aload_n 0, 1) := by decide +kernel
theorem dL_law_1072 : decode cL_law 1072 = .ok (.iload_n 3, 1) := by decide +kernel
theorem dL_law_1073 : decode cL_law 1073 = .ok (.iconst 4, 1) := by decide +kernel
theorem dL_law_1074 : decode cL_law 1074 = .ok (.iadd, 1) := by decide +kernel
theorem dL_law_1075 : decode cL_law 1075 = .ok (.iaload, 1) := by decide +kernel
theorem dL_law_1076 : decode cL_law 1076 = .ok (.aload_n 0, 1) := by decide +kernel
theorem dL_law_1077 : decode cL_law 1077 = .ok (.iload_n 3, 1) := by decide +kernel
theorem dL_law_1078 : decode cL_law 1078 = .ok (.iconst 5, 1) := by decide +kernel
theorem dL_law_1079 : decode cL_law 1079 = .ok (.iadd, 1) := by decide +kernel
theorem dL_law_1080 : decode cL_law 1080 = .ok (.iaload, 1) := by decide +kernel
theorem dL_law_1081 : decode cL_law 1081 = .ok (.invokevirtual 112, 3) := by decide +kernel
theorem dL_law_1084 : decode cL_law 1084 = .ok (.aload_n 2, 1) := by decide +kernel
theorem dL_law_1085 : decode cL_law 1085 = .ok (.aload_n 0, 1) := by decide +kernel
theorem dL_law_1086 : decode cL_law 1086 = .ok (.iload_n 3, 1) := by decide +kernel
theorem dL_law_1087 : decode cL_law 1087 = .ok (.iconst 1, 1) := by decide +kernel
theorem dL_law_1088 : decode cL_law 1088 = .ok (.iadd, 1) := by decide +kernel
theorem dL_law_1089 : decode cL_law 1089 = .ok (.iaload, 1) := by decide +kernel
theorem dL_law_1090 : decode cL_law 1090 = .ok (.aload_n 0, 1) := by decide +kernel
theorem dL_law_1091 : decode cL_law 1091 = .ok (.iload_n 3, 1) := by decide +kernel
theorem dL_law_1092 : decode cL_law 1092 = .ok (.iconst 2, 1) := by decide +kernel
theorem dL_law_1093 : decode cL_law 1093 = .ok (.iadd, 1) := by decide +kernel
theorem dL_law_1094 : decode cL_law 1094 = .ok (.iaload, 1) := by decide +kernel
theorem dL_law_1095 : decode cL_law 1095 = .ok (.aload_n 0, 1) := by decide +kernel
theorem dL_law_1096 : decode cL_law 1096 = .ok (.iload_n 3, 1) := by decide +kernel
theorem dL_law_1097 : decode cL_law 1097 = .ok (.iconst 3, 1) := by decide +kernel
theorem dL_law_1098 : decode cL_law 1098 = .ok (.iadd, 1) := by decide +kernel
theorem dL_law_1099 : decode cL_law 1099 = .ok (.iaload, 1) := by decide +kernel
theorem dL_law_1100 : decode cL_law 1100 = .ok (.aload_n 0, 1) := by decide +kernel
theorem dL_law_1101 : decode cL_law 1101 = .ok (.iload_n 3, 1) := by decide +kernel
theorem dL_law_1102 : decode cL_law 1102 = .ok (.iconst 4, 1) := by decide +kernel
theorem dL_law_1103 : decode cL_law 1103 = .ok (.iadd, 1) := by decide +kernel
theorem dL_law_1104 : decode cL_law 1104 = .ok (.iaload, 1) := by decide +kernel
theorem dL_law_1105 : decode cL_law 1105 = .ok (.aload_n 0, 1) := by decide +kernel
theorem dL_law_1106 : decode cL_law 1106 = .ok (.iload_n 3, 1) := by decide +kernel
theorem dL_law_1107 : decode cL_law 1107 = .ok (.iconst 5, 1) := by decide +kernel
theorem dL_law_1108 : decode cL_law 1108 = .ok (.iadd, 1) := by decide +kernel
theorem dL_law_1109 : decode cL_law 1109 = .ok (.iaload, 1) := by decide +kernel
theorem dL_law_1110 : decode cL_law 1110 = .ok (.invokevirtual 115, 3) := by decide +kernel
theorem dL_law_1113 : decode cL_law 1113 = .ok (.if_icmp .eq 269, 3) := by decide +kernel
theorem dL_law_1116 : decode cL_law 1116 = .ok (.iconst 0, 1) := by decide +kernel
theorem dL_law_1117 : decode cL_law 1117 = .ok (.ireturn, 1) := by decide +kernel
theorem dL_law_1118 : decode cL_law 1118 = .ok (.aload_n 1, 1) := by decide +kernel
theorem dL_law_1119 : decode cL_law 1119 = .ok (.aload_n 0, 1) := by decide +kernel
theorem dL_law_1120 : decode cL_law 1120 = .ok (.iload_n 3, 1) := by decide +kernel
theorem dL_law_1121 : decode cL_law 1121 = .ok (.iconst 1, 1) := by decide +kernel
theorem dL_law_1122 : decode cL_law 1122 = .ok (.iadd, 1) := by decide +kernel
theorem dL_law_1123 : decode cL_law 1123 = .ok (.iaload, 1) := by decide +kernel
theorem dL_law_1124 : decode cL_law 1124 = .ok (.invokevirtual 116, 3) := by decide +kernel
theorem dL_law_1127 : decode cL_law 1127 = .ok (.aload_n 2, 1) := by decide +kernel
theorem dL_law_1128 : decode cL_law 1128 = .ok (.aload_n 0, 1) := by decide +kernel
theorem dL_law_1129 : decode cL_law 1129 = .ok (.iload_n 3, 1) := by decide +kernel
theorem dL_law_1130 : decode cL_law 1130 = .ok (.iconst 1, 1) := by decide +kernel
theorem dL_law_1131 : decode cL_law 1131 = .ok (.iadd, 1) := by decide +kernel
theorem dL_law_1132 : decode cL_law 1132 = .ok (.iaload, 1) := by decide +kernel
theorem dL_law_1133 : decode cL_law 1133 = .ok (.invokevirtual 120, 3) := by decide +kernel
theorem dL_law_1136 : decode cL_law 1136 = .ok (.if_icmp .eq 246, 3) := by decide +kernel
theorem dL_law_1139 : decode cL_law 1139 = .ok (.iconst 0, 1) := by decide +kernel
theorem dL_law_1140 : decode cL_law 1140 = .ok (.ireturn, 1) := by decide +kernel
theorem dL_law_1141 : decode cL_law 1141 = .ok (.aload_n 1, 1) := by decide +kernel
theorem dL_law_1142 : decode cL_law 1142 = .ok (.invokevirtual 121, 3) := by decide +kernel
theorem dL_law_1145 : decode cL_law 1145 = .ok (.aload_n 2, 1) := by decide +kernel
theorem dL_law_1146 : decode cL_law 1146 = .ok (.invokevirtual 124, 3) := by decide +kernel
theorem dL_law_1149 : decode cL_law 1149 = .ok (.if_icmp .eq 233, 3) := by decide +kernel
theorem dL_law_1152 : decode cL_law 1152 = .ok (.iconst 0, 1) := by decide +kernel
theorem dL_law_1153 : decode cL_law 1153 = .ok (.ireturn, 1) := by decide +kernel
theorem dL_law_1154 : decode cL_law 1154 = .ok (.aload_n 1, 1) := by decide +kernel
theorem dL_law_1155 : decode cL_law 1155 = .ok (.invokevirtual 125, 3) := by decide +kernel
theorem dL_law_1158 : decode cL_law 1158 = .ok (.aload_n 2, 1) := by decide +kernel
theorem dL_law_1159 : decode cL_law 1159 = .ok (.invokevirtual 128, 3) := by decide +kernel
theorem dL_law_1162 : decode cL_law 1162 = .ok (.if_icmp .eq 220, 3) := by decide +kernel
theorem dL_law_1165 : decode cL_law 1165 = .ok (.iconst 0, 1) := by decide +kernel
theorem dL_law_1166 : decode cL_law 1166 = .ok (.ireturn, 1) := by decide +kernel
theorem dL_law_1167 : decode cL_law 1167 = .ok (.aload_n 1, 1) := by decide +kernel
theorem dL_law_1168 : decode cL_law 1168 = .ok (.aload_n 0, 1) := by decide +kernel
theorem dL_law_1169 : decode cL_law 1169 = .ok (.iload_n 3, 1) := by decide +kernel
theorem dL_law_1170 : decode cL_law 1170 = .ok (.iconst 1, 1) := by decide +kernel
theorem dL_law_1171 : decode cL_law 1171 = .ok (.iadd, 1) := by decide +kernel
theorem dL_law_1172 : decode cL_law 1172 = .ok (.iaload, 1) := by decide +kernel
theorem dL_law_1173 : decode cL_law 1173 = .ok (.aload_n 0, 1) := by decide +kernel
theorem dL_law_1174 : decode cL_law 1174 = .ok (.iload_n 3, 1) := by decide +kernel
theorem dL_law_1175 : decode cL_law 1175 = .ok (.iconst 2, 1) := by decide +kernel
theorem dL_law_1176 : decode cL_law 1176 = .ok (.iadd, 1) := by decide +kernel
theorem dL_law_1177 : decode cL_law 1177 = .ok (.iaload, 1) := by decide +kernel
theorem dL_law_1178 : decode cL_law 1178 = .ok (.aload_n 0, 1) := by decide +kernel
theorem dL_law_1179 : decode cL_law 1179 = .ok (.iload_n 3, 1) := by decide +kernel
theorem dL_law_1180 : decode cL_law 1180 = .ok (.iconst 3, 1) := by decide +kernel
theorem dL_law_1181 : decode cL_law 1181 = .ok (.iadd, 1) := by decide +kernel
theorem dL_law_1182 : decode cL_law 1182 = .ok (.iaload, 1) := by decide +kernel
theorem dL_law_1183 : decode cL_law 1183 = .ok (.aload_n 0, 1) := by decide +kernel
theorem dL_law_1184 : decode cL_law 1184 = .ok (.iload_n 3, 1) := by decide +kernel
theorem dL_law_1185 : decode cL_law 1185 = .ok (.iconst 4, 1) := by decide +kernel
theorem dL_law_1186 : decode cL_law 1186 = .ok (.iadd, 1) := by decide +kernel
theorem dL_law_1187 : decode cL_law 1187 = .ok (.iaload, 1) := by decide +kernel
theorem dL_law_1188 : decode cL_law 1188 = .ok (.invokevirtual 129, 3) := by decide +kernel
theorem dL_law_1191 : decode cL_law 1191 = .ok (.aload_n 2, 1) := by decide +kernel
theorem dL_law_1192 : decode cL_law 1192 = .ok (.aload_n 0, 1) := by decide +kernel
theorem dL_law_1193 : decode cL_law 1193 = .ok (.iload_n 3, 1) := by decide +kernel
theorem dL_law_1194 : decode cL_law 1194 = .ok (.iconst 1, 1) := by decide +kernel
theorem dL_law_1195 : decode cL_law 1195 = .ok (.iadd, 1) := by decide +kernel
theorem dL_law_1196 : decode cL_law 1196 = .ok (.iaload, 1) := by decide +kernel
theorem dL_law_1197 : decode cL_law 1197 = .ok (.aload_n 0, 1) := by decide +kernel
theorem dL_law_1198 : decode cL_law 1198 = .ok (.iload_n 3, 1) := by decide +kernel
theorem dL_law_1199 : decode cL_law 1199 = .ok (.iconst 2, 1) := by decide +kernel
theorem dL_law_1200 : decode cL_law 1200 = .ok (.iadd, 1) := by decide +kernel
theorem dL_law_1201 : decode cL_law 1201 = .ok (.iaload, 1) := by decide +kernel
theorem dL_law_1202 : decode cL_law 1202 = .ok (.aload_n 0, 1) := by decide +kernel
theorem dL_law_1203 : decode cL_law 1203 = .ok (.iload_n 3, 1) := by decide +kernel
theorem dL_law_1204 : decode cL_law 1204 = .ok (.iconst 3, 1) := by decide +kernel
theorem dL_law_1205 : decode cL_law 1205 = .ok (.iadd, 1) := by decide +kernel
theorem dL_law_1206 : decode cL_law 1206 = .ok (.iaload, 1) := by decide +kernel
theorem dL_law_1207 : decode cL_law 1207 = .ok (.aload_n 0, 1) := by decide +kernel
theorem dL_law_1208 : decode cL_law 1208 = .ok (.iload_n 3, 1) := by decide +kernel
theorem dL_law_1209 : decode cL_law 1209 = .ok (.iconst 4, 1) := by decide +kernel
theorem dL_law_1210 : decode cL_law 1210 = .ok (.iadd, 1) := by decide +kernel
theorem dL_law_1211 : decode cL_law 1211 = .ok (.iaload, 1) := by decide +kernel
theorem dL_law_1212 : decode cL_law 1212 = .ok (.invokevirtual 132, 3) := by decide +kernel
theorem dL_law_1215 : decode cL_law 1215 = .ok (.if_icmp .eq 167, 3) := by decide +kernel
theorem dL_law_1218 : decode cL_law 1218 = .ok (.iconst 0, 1) := by decide +kernel
theorem dL_law_1219 : decode cL_law 1219 = .ok (.ireturn, 1) := by decide +kernel
theorem dL_law_1220 : decode cL_law 1220 = .ok (.aload_n 1, 1) := by decide +kernel
theorem dL_law_1221 : decode cL_law 1221 = .ok (.aload_n 0, 1) := by decide +kernel
theorem dL_law_1222 : decode cL_law 1222 = .ok (.iload_n 3, 1) := by decide +kernel
theorem dL_law_1223 : decode cL_law 1223 = .ok (.iconst 1, 1) := by decide +kernel
theorem dL_law_1224 : decode cL_law 1224 = .ok (.iadd, 1) := by decide +kernel
theorem dL_law_1225 : decode cL_law 1225 = .ok (.iaload, 1) := by decide +kernel
theorem dL_law_1226 : decode cL_law 1226 = .ok (.aload_n 0, 1) := by decide +kernel
theorem dL_law_1227 : decode cL_law 1227 = .ok (.iload_n 3, 1) := by decide +kernel
theorem dL_law_1228 : decode cL_law 1228 = .ok (.iconst 2, 1) := by decide +kernel
theorem dL_law_1229 : decode cL_law 1229 = .ok (.iadd, 1) := by decide +kernel
theorem dL_law_1230 : decode cL_law 1230 = .ok (.iaload, 1) := by decide +kernel
theorem dL_law_1231 : decode cL_law 1231 = .ok (.aload_n 0, 1) := by decide +kernel
theorem dL_law_1232 : decode cL_law 1232 = .ok (.iload_n 3, 1) := by decide +kernel
theorem dL_law_1233 : decode cL_law 1233 = .ok (.iconst 3, 1) := by decide +kernel
theorem dL_law_1234 : decode cL_law 1234 = .ok (.iadd, 1) := by decide +kernel
theorem dL_law_1235 : decode cL_law 1235 = .ok (.iaload, 1) := by decide +kernel
theorem dL_law_1236 : decode cL_law 1236 = .ok (.aload_n 0, 1) := by decide +kernel
theorem dL_law_1237 : decode cL_law 1237 = .ok (.iload_n 3, 1) := by decide +kernel
theorem dL_law_1238 : decode cL_law 1238 = .ok (.iconst 4, 1) := by decide +kernel
theorem dL_law_1239 : decode cL_law 1239 = .ok (.iadd, 1) := by decide +kernel
theorem dL_law_1240 : decode cL_law 1240 = .ok (.iaload, 1) := by decide +kernel
theorem dL_law_1241 : decode cL_law 1241 = .ok (.invokevirtual 133, 3) := by decide +kernel
theorem dL_law_1244 : decode cL_law 1244 = .ok (.aload_n 2, 1) := by decide +kernel
theorem dL_law_1245 : decode cL_law 1245 = .ok (.aload_n 0, 1) := by decide +kernel
theorem dL_law_1246 : decode cL_law 1246 = .ok (.iload_n 3, 1) := by decide +kernel
theorem dL_law_1247 : decode cL_law 1247 = .ok (.iconst 1, 1) := by decide +kernel
theorem dL_law_1248 : decode cL_law 1248 = .ok (.iadd, 1) := by decide +kernel
theorem dL_law_1249 : decode cL_law 1249 = .ok (.iaload, 1) := by decide +kernel
theorem dL_law_1250 : decode cL_law 1250 = .ok (.aload_n 0, 1) := by decide +kernel
theorem dL_law_1251 : decode cL_law 1251 = .ok (.iload_n 3, 1) := by decide +kernel
theorem dL_law_1252 : decode cL_law 1252 = .ok (.iconst 2, 1) := by decide +kernel
theorem dL_law_1253 : decode cL_law 1253 = .ok (.iadd, 1) := by decide +kernel
theorem dL_law_1254 : decode cL_law 1254 = .ok (.iaload, 1) := by decide +kernel
theorem dL_law_1255 : decode cL_law 1255 = .ok (.aload_n 0, 1) := by decide +kernel
theorem dL_law_1256 : decode cL_law 1256 = .ok (.iload_n 3, 1) := by decide +kernel
theorem dL_law_1257 : decode cL_law 1257 = .ok (.iconst 3, 1) := by decide +kernel
theorem dL_law_1258 : decode cL_law 1258 = .ok (.iadd, 1) := by decide +kernel
theorem dL_law_1259 : decode cL_law 1259 = .ok (.iaload, 1) := by decide +kernel
theorem dL_law_1260 : decode cL_law 1260 = .ok (.aload_n 0, 1) := by decide +kernel
theorem dL_law_1261 : decode cL_law 1261 = .ok (.iload_n 3, 1) := by decide +kernel
theorem dL_law_1262 : decode cL_law 1262 = .ok (.iconst 4, 1) := by decide +kernel
theorem dL_law_1263 : decode cL_law 1263 = .ok (.iadd, 1) := by decide +kernel
theorem dL_law_1264 : decode cL_law 1264 = .ok (.iaload, 1) := by decide +kernel
theorem dL_law_1265 : decode cL_law 1265 = .ok (.invokevirtual 136, 3) := by decide +kernel
theorem dL_law_1268 : decode cL_law 1268 = .ok (.if_icmp .eq 114, 3) := by decide +kernel
theorem dL_law_1271 : decode cL_law 1271 = .ok (.iconst 0, 1) := by decide +kernel
theorem dL_law_1272 : decode cL_law 1272 = .ok (.ireturn, 1) := by decide +kernel
theorem dL_law_1273 : decode cL_law 1273 = .ok (.aload_n 1, 1) := by decide +kernel
theorem dL_law_1274 : decode cL_law 1274 = .ok (.aload_n 0, 1) := by decide +kernel
theorem dL_law_1275 : decode cL_law 1275 = .ok (.iload_n 3, 1) := by decide +kernel
theorem dL_law_1276 : decode cL_law 1276 = .ok (.iconst 1, 1) := by decide +kernel
theorem dL_law_1277 : decode cL_law 1277 = .ok (.iadd, 1) := by decide +kernel
theorem dL_law_1278 : decode cL_law 1278 = .ok (.iaload, 1) := by decide +kernel
theorem dL_law_1279 : decode cL_law 1279 = .ok (.aload_n 0, 1) := by decide +kernel
theorem dL_law_1280 : decode cL_law 1280 = .ok (.iload_n 3, 1) := by decide +kernel
theorem dL_law_1281 : decode cL_law 1281 = .ok (.iconst 2, 1) := by decide +kernel
theorem dL_law_1282 : decode cL_law 1282 = .ok (.iadd, 1) := by decide +kernel
theorem dL_law_1283 : decode cL_law 1283 = .ok (.iaload, 1) := by decide +kernel
theorem dL_law_1284 : decode cL_law 1284 = .ok (.aload_n 0, 1) := by decide +kernel
theorem dL_law_1285 : decode cL_law 1285 = .ok (.iload_n 3, 1) := by decide +kernel
theorem dL_law_1286 : decode cL_law 1286 = .ok (.iconst 3, 1) := by decide +kernel
theorem dL_law_1287 : decode cL_law 1287 = .ok (.iadd, 1) := by decide +kernel
theorem dL_law_1288 : decode cL_law 1288 = .ok (.iaload, 1) := by decide +kernel
theorem dL_law_1289 : decode cL_law 1289 = .ok (.aload_n 0, 1) := by decide +kernel
theorem dL_law_1290 : decode cL_law 1290 = .ok (.iload_n 3, 1) := by decide +kernel
theorem dL_law_1291 : decode cL_law 1291 = .ok (.iconst 4, 1) := by decide +kernel
theorem dL_law_1292 : decode cL_law 1292 = .ok (.iadd, 1) := by decide +kernel
theorem dL_law_1293 : decode cL_law 1293 = .ok (.iaload, 1) := by decide +kernel
theorem dL_law_1294 : decode cL_law 1294 = .ok (.invokevirtual 137, 3) := by decide +kernel
theorem dL_law_1297 : decode cL_law 1297 = .ok (.aload_n 2, 1) := by decide +kernel
theorem dL_law_1298 : decode cL_law 1298 = .ok (.aload_n 0, 1) := by decide +kernel
theorem dL_law_1299 : decode cL_law 1299 = .ok (.iload_n 3, 1) := by decide +kernel
theorem dL_law_1300 : decode cL_law 1300 = .ok (.iconst 1, 1) := by decide +kernel
theorem dL_law_1301 : decode cL_law 1301 = .ok (.iadd, 1) := by decide +kernel
theorem dL_law_1302 : decode cL_law 1302 = .ok (.iaload, 1) := by decide +kernel
theorem dL_law_1303 : decode cL_law 1303 = .ok (.aload_n 0, 1) := by decide +kernel
theorem dL_law_1304 : decode cL_law 1304 = .ok (.iload_n 3, 1) := by decide +kernel
theorem dL_law_1305 : decode cL_law 1305 = .ok (.iconst 2, 1) := by decide +kernel
theorem dL_law_1306 : decode cL_law 1306 = .ok (.iadd, 1) := by decide +kernel
theorem dL_law_1307 : decode cL_law 1307 = .ok (.iaload, 1) := by decide +kernel
theorem dL_law_1308 : decode cL_law 1308 = .ok (.aload_n 0, 1) := by decide +kernel
theorem dL_law_1309 : decode cL_law 1309 = .ok (.iload_n 3, 1) := by decide +kernel
theorem dL_law_1310 : decode cL_law 1310 = .ok (.iconst 3, 1) := by decide +kernel
theorem dL_law_1311 : decode cL_law 1311 = .ok (.iadd, 1) := by decide +kernel
theorem dL_law_1312 : decode cL_law 1312 = .ok (.iaload, 1) := by decide +kernel
theorem dL_law_1313 : decode cL_law 1313 = .ok (.aload_n 0, 1) := by decide +kernel
theorem dL_law_1314 : decode cL_law 1314 = .ok (.iload_n 3, 1) := by decide +kernel
theorem dL_law_1315 : decode cL_law 1315 = .ok (.iconst 4, 1) := by decide +kernel
theorem dL_law_1316 : decode cL_law 1316 = .ok (.iadd, 1) := by decide +kernel
theorem dL_law_1317 : decode cL_law 1317 = .ok (.iaload, 1) := by decide +kernel
theorem dL_law_1318 : decode cL_law 1318 = .ok (.invokevirtual 140, 3) := by decide +kernel
theorem dL_law_1321 : decode cL_law 1321 = .ok (.if_icmp .eq 61, 3) := by decide +kernel
theorem dL_law_1324 : decode cL_law 1324 = .ok (.iconst 0, 1) := by decide +kernel
theorem dL_law_1325 : decode cL_law 1325 = .ok (.ireturn, 1) := by decide +kernel
theorem dL_law_1326 : decode cL_law 1326 = .ok (.aload_n 1, 1) := by decide +kernel
theorem dL_law_1327 : decode cL_law 1327 = .ok (.aload_n 0, 1) := by decide +kernel
theorem dL_law_1328 : decode cL_law 1328 = .ok (.iload_n 3, 1) := by decide +kernel
theorem dL_law_1329 : decode cL_law 1329 = .ok (.iconst 1, 1) := by decide +kernel
theorem dL_law_1330 : decode cL_law 1330 = .ok (.iadd, 1) := by decide +kernel
theorem dL_law_1331 : decode cL_law 1331 = .ok (.iaload, 1) := by decide +kernel
theorem dL_law_1332 : decode cL_law 1332 = .ok (.aload_n 0, 1) := by decide +kernel
theorem dL_law_1333 : decode cL_law 1333 = .ok (.iload_n 3, 1) := by decide +kernel
theorem dL_law_1334 : decode cL_law 1334 = .ok (.iconst 2, 1) := by decide +kernel
theorem dL_law_1335 : decode cL_law 1335 = .ok (.iadd, 1) := by decide +kernel
theorem dL_law_1336 : decode cL_law 1336 = .ok (.iaload, 1) := by decide +kernel
theorem dL_law_1337 : decode cL_law 1337 = .ok (.invokevirtual 141, 3) := by decide +kernel
theorem dL_law_1340 : decode cL_law 1340 = .ok (.aload_n 2, 1) := by decide +kernel
theorem dL_law_1341 : decode cL_law 1341 = .ok (.aload_n 0, 1) := by decide +kernel
theorem dL_law_1342 : decode cL_law 1342 = .ok (.iload_n 3, 1) := by decide +kernel
theorem dL_law_1343 : decode cL_law 1343 = .ok (.iconst 1, 1) := by decide +kernel
theorem dL_law_1344 : decode cL_law 1344 = .ok (.iadd, 1) := by decide +kernel
theorem dL_law_1345 : decode cL_law 1345 = .ok (.iaload, 1) := by decide +kernel
theorem dL_law_1346 : decode cL_law 1346 = .ok (.aload_n 0, 1) := by decide +kernel
theorem dL_law_1347 : decode cL_law 1347 = .ok (.iload_n 3, 1) := by decide +kernel
theorem dL_law_1348 : decode cL_law 1348 = .ok (.iconst 2, 1) := by decide +kernel
theorem dL_law_1349 : decode cL_law 1349 = .ok (.iadd, 1) := by decide +kernel
theorem dL_law_1350 : decode cL_law 1350 = .ok (.iaload, 1) := by decide +kernel
theorem dL_law_1351 : decode cL_law 1351 = .ok (.invokevirtual 144, 3) := by decide +kernel
theorem dL_law_1354 : decode cL_law 1354 = .ok (.if_icmp .eq 28, 3) := by decide +kernel
theorem dL_law_1357 : decode cL_law 1357 = .ok (.iconst 0, 1) := by decide +kernel
theorem dL_law_1358 : decode cL_law 1358 = .ok (.ireturn, 1) := by decide +kernel
theorem dL_law_1359 : decode cL_law 1359 = .ok (.aload_n 1, 1) := by decide +kernel
theorem dL_law_1360 : decode cL_law 1360 = .ok (.aload_n 0, 1) := by decide +kernel
theorem dL_law_1361 : decode cL_law 1361 = .ok (.iload_n 3, 1) := by decide +kernel
theorem dL_law_1362 : decode cL_law 1362 = .ok (.iconst 1, 1) := by decide +kernel
theorem dL_law_1363 : decode cL_law 1363 = .ok (.iadd, 1) := by decide +kernel
theorem dL_law_1364 : decode cL_law 1364 = .ok (.iaload, 1) := by decide +kernel
theorem dL_law_1365 : decode cL_law 1365 = .ok (.invokevirtual 145, 3) := by decide +kernel
theorem dL_law_1368 : decode cL_law 1368 = .ok (.aload_n 2, 1) := by decide +kernel
theorem dL_law_1369 : decode cL_law 1369 = .ok (.aload_n 0, 1) := by decide +kernel
theorem dL_law_1370 : decode cL_law 1370 = .ok (.iload_n 3, 1) := by decide +kernel
theorem dL_law_1371 : decode cL_law 1371 = .ok (.iconst 1, 1) := by decide +kernel
theorem dL_law_1372 : decode cL_law 1372 = .ok (.iadd, 1) := by decide +kernel
theorem dL_law_1373 : decode cL_law 1373 = .ok (.iaload, 1) := by decide +kernel
theorem dL_law_1374 : decode cL_law 1374 = .ok (.invokevirtual 148, 3) := by decide +kernel
theorem dL_law_1377 : decode cL_law 1377 = .ok (.if_icmp .eq 5, 3) := by decide +kernel
theorem dL_law_1380 : decode cL_law 1380 = .ok (.iconst 0, 1) := by decide +kernel
theorem dL_law_1381 : decode cL_law 1381 = .ok (.ireturn, 1) := by decide +kernel
theorem dL_law_1382 : decode cL_law 1382 = .ok (.iinc 3 6, 3) := by decide +kernel
theorem dL_law_1385 : decode cL_law 1385 = .ok (.goto (-1367), 3) := by decide +kernel
theorem dL_law_1388 : decode cL_law 1388 = .ok (.iconst 1, 1) := by decide +kernel
theorem dL_law_1389 : decode cL_law 1389 = .ok (.ireturn, 1) := by decide +kernel
def zS0 : zS := (fun _ _ => 0, fun _ _ => 0, fun _ _ => 0, 0)
def s00 : zS := mkModel (zNn (mkX (zNn zS0 1)) 101)
theorem zcln_0 : zcln zS0 := fun _ _ _ => ⟨rfl, rfl, rfl⟩
theorem cl_00 : zcln (zNn (mkX (zNn zS0 1)) 101) := zcln_N (cl_mkX (s := zNn zS0 1) rfl (zcln_N zcln_0 (by decide))) (by show 100 ≤ 101; decide)
set_option maxRecDepth 100000 in
theorem law_start {l : Launch} {g : zG} {d : Nat} {K : Option Value → zS → Prop} (h : zAt l g (d + 4) 0 200 M_L_law 18 [.ref 1, .ref 64, .ref 164, .int 0] [] s00 K) : zAt l g (d + 4) 0 200 M_L_law 0 [.ref 1, zJ, zJ, zJ] [] zS0 K := by
  refine z_new (n := 0) (q := 64) (c := 7) zCl7 cl_L_7 in_7 ii_7 rfl (by decide) (by decide) zcln_0 (by decide) dL_law_0 rfl ?_
  refine z_dup dL_law_3 rfl rfl ?_
  refine z_callI (y0 := 1) (y1 := 100) (as := []) k_X7_init rfl m_L_9 rfl (c_mkX rfl (zcln_N zcln_0 (by decide)) (K := fun s1 => s1 = mkX (zNn zS0 1)) rfl) rfl (Nat.le_of_ble_eq_true rfl) dL_law_4 (fun _ _ => ⟨rfl, by decide, by decide⟩) rfl ?_
  rintro v _ ⟨rfl, rfl⟩
  show zAt l g (d + 4) 0 200 M_L_law 7 [.ref 1, zJ, zJ, zJ] [.ref 64] _ _
  refine z_astore_n (i := 1) dL_law_7 rfl (by decide) (zokd rfl) rfl ?_
  refine z_new (n := 100) (q := 164) (c := 8) zCl8 cl_L_10 in_8 ii_8 rfl (by decide) (by decide) (cl_mkX (s := zNn zS0 1) rfl (zcln_N zcln_0 (by decide))) (by decide) dL_law_8 rfl ?_
  refine z_dup dL_law_11 rfl rfl ?_
  refine z_callI (y0 := 101) (y1 := 200) (as := []) k_X8_init rfl m_L_12 rfl (c_mkModel rfl cl_00 (K := fun s1 => s1 = s00) rfl) rfl (Nat.le_of_ble_eq_true rfl) dL_law_12 (fun _ _ => ⟨rfl, by decide, by decide⟩) rfl ?_
  rintro v _ ⟨rfl, rfl⟩
  show zAt l g (d + 4) 0 200 M_L_law 15 [.ref 1, .ref 64, zJ, zJ] [.ref 164] _ _
  refine z_astore_n (i := 2) dL_law_15 rfl (by decide) (zokd rfl) rfl ?_
  refine z_iconst (v := 0) dL_law_16 (by decide) rfl ?_
  refine z_istore_n (i := 3) dL_law_17 rfl (by decide) (zokd rfl) rfl ?_
  exact h
theorem zR0_0 {o k : Nat} (h : 264 ≤ o ∨ 61 ≤ k) : zR0 o k = 0 := by
  unfold zR0
  rcases h with h | h
  · repeat rw [if_neg (by omega)]
  · by_cases c : o = 64
    · rw [if_pos c]
      repeat rw [if_neg (by omega)]
    rw [if_neg c]
    clear c
    by_cases c : o = 65
    · rw [if_pos c]
      repeat rw [if_neg (by omega)]
    rw [if_neg c]
    clear c
    by_cases c : o = 68
    · rw [if_pos c]
      repeat rw [if_neg (by omega)]
    rw [if_neg c]
    clear c
    by_cases c : o = 75
    · rw [if_pos c]
      repeat rw [if_neg (by omega)]
    rw [if_neg c]
    clear c
    by_cases c : o = 79
    · rw [if_pos c]
      repeat rw [if_neg (by omega)]
    rw [if_neg c]
    clear c
    by_cases c : o = 85
    · rw [if_pos c]
      repeat rw [if_neg (by omega)]
    rw [if_neg c]
    clear c
    by_cases c : o = 164
    · rw [if_pos c]
      repeat rw [if_neg (by omega)]
    rw [if_neg c]
    clear c
    by_cases c : o = 70
    · rw [if_pos c]
      repeat rw [if_neg (by omega)]
    rw [if_neg c]
    clear c
    by_cases c : o = 71
    · rw [if_pos c]
      repeat rw [if_neg (by omega)]
    rw [if_neg c]
    clear c
    by_cases c : o = 182
    · rw [if_pos c]
      repeat rw [if_neg (by omega)]
    rw [if_neg c]
    clear c
    by_cases c : o = 245
    · rw [if_pos c]
      repeat rw [if_neg (by omega)]
    rw [if_neg c]
    clear c
    by_cases c : o = 248
    · rw [if_pos c]
      repeat rw [if_neg (by omega)]
    rw [if_neg c]
    clear c
    by_cases c : o = 251
    · rw [if_pos c]
      repeat rw [if_neg (by omega)]
    rw [if_neg c]
    clear c
    by_cases c : o = 254
    · rw [if_pos c]
      repeat rw [if_neg (by omega)]
    rw [if_neg c]
    clear c
    by_cases c : o = 262
    · rw [if_pos c]
      repeat rw [if_neg (by omega)]
    rw [if_neg c]
    clear c
    by_cases c : o = 263
    · rw [if_pos c]
      repeat rw [if_neg (by omega)]
    rw [if_neg c]
theorem zR0_b : ∀ o, o < 264 → ∀ k, k < 61 → ¬ zR0 o k = 0 → s00.2.2.1 o k = zR0 o k := by decide +kernel
theorem hR00 : zRok s00 := by
  refine ⟨fun o k h => ?_, Or.inl (by decide +kernel)⟩
  by_cases h1 : o < 264
  · by_cases h2 : k < 61
    · exact zR0_b o h1 k h2 h
    · exact absurd (zR0_0 (Or.inr (by omega))) h
  · exact absurd (zR0_0 (Or.inl (by omega))) h
end
section
/-! THE CLAIM OUT OF ONE WALK OF THE LAW'S BODY. Your part is whole_start (and what it stands on); all else here is the same for every law, but numbers. -/
def R_law : String := "MarshLightsLaw"
def lw_P (b : Addr) (xs : List Int32) (args : Array Value) (s : State) : Prop := args = #[.ref b] ∧ s.IntsAt b xs ∧ xs.length ≤ 3072 ∧ (Jvm.Cond.and given_1 narrow_1).before args s = true
def lw_Q (_ : Array Value) (s : State) (o : Outcome) (t : State) : Prop := o = .returned (some (.int 1)) ∧ Framed s o t [] 600000 7302250
def lw_Z (below : List Frame) (a : Array Value) (s : State) : State → Prop := fun t => ∃ o, t.status = .running ∧ Ended t below o ∧ lw_Q a s o t
/-- the law's own end, with 1 on the stack, nothing written that was there before, its room as the claim has it -/
theorem lw_ret {p : Program} {l : Launch} {e : Env} {s : State} {m : MethodId} {below : List Frame} {meth : Method} {c : Code} {b : Nat} (hx : p.tables.exec = Jvm.exec) (hb : c.code = code) (hr : meth.sig.returnType = ret) (hlocks : meth.locks = false) {pc : Nat} {H : Heap} {ls : Array Slot} (hdg : decode code pc = .ok (.ireturn, 1)) : W p l e room_1 s m #[Value.ref b] below meth c H [] 600000 7302250 (lw_Z below #[Value.ref b] s) (F0 m pc ls [.int 1]) := by
  intro T hT X
  obtain ⟨fs, hret, hrun, hended, hW, hframe⟩ := X.leave (v := some (.int 1)) (hlocks := hlocks) (fun h => by rw [hr] at h; cases h)
  have hmeth' : T.vm.method? m = some meth := X.method'
  refine ⟨T.setFrames fs, ?_, .returned (some (.int 1)), hrun, hended, rfl, ⟨_, rfl⟩, hW, hframe⟩
  jvm_step X.here [X.here.top, hx, hb, hdg, hmeth', hr, ret, narrow_b1]
  (try refine ⟨rfl, ?_⟩); (try refine ⟨rfl, ?_⟩)
  first | (intro acts; rw [hret _ acts rfl rfl rfl]) | rw [hret _ _ rfl rfl rfl]
  exact Steps.refl _
/-- what holds at the law's entry: the machine, the code, the tables' words (any of lw_tbl by 'hts w (by decide +kernel)'), the script of L ints xs at the cell b, what the Statement gives of the start (any of its parts by flat_of_before) -/
def lw_At (p : Program) (s : State) (m : MethodId) (meth : Method) (c : Code) (b L : Nat) (xs : Nat → Int32) : Prop :=
  p.tables.exec = Jvm.exec ∧ c.code = code ∧ meth.sig.returnType = ret ∧ c.maxLocals = 4 ∧ s.vm.findClass R_law = some m.cls ∧ (∀ w ∈ lw_tbl, w.before #[Value.ref b] s = true) ∧ va_X b L xs s s.heap ∧ b < s.heap.size ∧ meth.locks = false ∧ (Jvm.Cond.and given_1 narrow_1).before #[Value.ref b] s = true
end
section
/-! ===== the claim's start: the world is empty, the tables say what stays ===== -/
abbrev lw_fl : List Cond := flatC (Jvm.Cond.and given_1 narrow_1)
def zTm (i : Nat) : Term := Term.string (zSo i).1 (zSo i).2.1
def zTv (i : Nat) : Term := .field (zTm i) "java/lang/String" "value" "[B"
theorem st_ex : ∀ i, i < 20 → Cond.exactly (zTm i) "java/lang/String" ∈ lw_fl := by decide +kernel
theorem st_co : ∀ i, i < 20 → Cond.eq (.field (zTm i) "java/lang/String" "coder" "B") (.int 0) ∈ lw_fl := by decide +kernel
theorem st_ar : ∀ i, i < 20 → Cond.arrayOf (zTv i) .byte ∈ lw_fl := by decide +kernel
theorem st_le : ∀ i, i < 20 → Cond.eq (.length (zTv i)) (.int (Int32.ofNat (zSl.getD i 0))) ∈ lw_fl := by decide +kernel
theorem se_0_0 : Cond.eq (.elem (zTv 0) (.int (Int32.ofNat 0))) (.int 103) ∈ lw_fl := List.mem_of_getElem? (i := 13) (by decide +kernel)
theorem se_0_1 : Cond.eq (.elem (zTv 0) (.int (Int32.ofNat 1))) (.int 114) ∈ lw_fl := List.mem_of_getElem? (i := 14) (by decide +kernel)
theorem se_0_2 : Cond.eq (.elem (zTv 0) (.int (Int32.ofNat 2))) (.int 111) ∈ lw_fl := List.mem_of_getElem? (i := 15) (by decide +kernel)
theorem se_0_3 : Cond.eq (.elem (zTv 0) (.int (Int32.ofNat 3))) (.int 119) ∈ lw_fl := List.mem_of_getElem? (i := 16) (by decide +kernel)
theorem se_0_4 : Cond.eq (.elem (zTv 0) (.int (Int32.ofNat 4))) (.int 32) ∈ lw_fl := List.mem_of_getElem? (i := 17) (by decide +kernel)
theorem se_0_5 : Cond.eq (.elem (zTv 0) (.int (Int32.ofNat 5))) (.int 115) ∈ lw_fl := List.mem_of_getElem? (i := 18) (by decide +kernel)
theorem se_0_6 : Cond.eq (.elem (zTv 0) (.int (Int32.ofNat 6))) (.int 97) ∈ lw_fl := List.mem_of_getElem? (i := 19) (by decide +kernel)
theorem se_0_7 : Cond.eq (.elem (zTv 0) (.int (Int32.ofNat 7))) (.int 121) ∈ lw_fl := List.mem_of_getElem? (i := 20) (by decide +kernel)
theorem se_0_8 : Cond.eq (.elem (zTv 0) (.int (Int32.ofNat 8))) (.int 32) ∈ lw_fl := List.mem_of_getElem? (i := 21) (by decide +kernel)
theorem se_0_9 : Cond.eq (.elem (zTv 0) (.int (Int32.ofNat 9))) (.int 105) ∈ lw_fl := List.mem_of_getElem? (i := 22) (by decide +kernel)
theorem se_0_10 : Cond.eq (.elem (zTv 0) (.int (Int32.ofNat 10))) (.int 102) ∈ lw_fl := List.mem_of_getElem? (i := 23) (by decide +kernel)
theorem se_0_11 : Cond.eq (.elem (zTv 0) (.int (Int32.ofNat 11))) (.int 32) ∈ lw_fl := List.mem_of_getElem? (i := 24) (by decide +kernel)
theorem se_0_12 : Cond.eq (.elem (zTv 0) (.int (Int32.ofNat 12))) (.int 97) ∈ lw_fl := List.mem_of_getElem? (i := 25) (by decide +kernel)
theorem se_0_13 : Cond.eq (.elem (zTv 0) (.int (Int32.ofNat 13))) (.int 110) ∈ lw_fl := List.mem_of_getElem? (i := 26) (by decide +kernel)
theorem se_0_14 : Cond.eq (.elem (zTv 0) (.int (Int32.ofNat 14))) (.int 100) ∈ lw_fl := List.mem_of_getElem? (i := 27) (by decide +kernel)
theorem se_0_15 : Cond.eq (.elem (zTv 0) (.int (Int32.ofNat 15))) (.int 32) ∈ lw_fl := List.mem_of_getElem? (i := 28) (by decide +kernel)
theorem se_0_16 : Cond.eq (.elem (zTv 0) (.int (Int32.ofNat 16))) (.int 115) ∈ lw_fl := List.mem_of_getElem? (i := 29) (by decide +kernel)
theorem se_0_17 : Cond.eq (.elem (zTv 0) (.int (Int32.ofNat 17))) (.int 116) ∈ lw_fl := List.mem_of_getElem? (i := 30) (by decide +kernel)
theorem se_0_18 : Cond.eq (.elem (zTv 0) (.int (Int32.ofNat 18))) (.int 97) ∈ lw_fl := List.mem_of_getElem? (i := 31) (by decide +kernel)
theorem se_0_19 : Cond.eq (.elem (zTv 0) (.int (Int32.ofNat 19))) (.int 114) ∈ lw_fl := List.mem_of_getElem? (i := 32) (by decide +kernel)
theorem se_0_20 : Cond.eq (.elem (zTv 0) (.int (Int32.ofNat 20))) (.int 32) ∈ lw_fl := List.mem_of_getElem? (i := 33) (by decide +kernel)
theorem se_0_21 : Cond.eq (.elem (zTv 0) (.int (Int32.ofNat 21))) (.int 102) ∈ lw_fl := List.mem_of_getElem? (i := 34) (by decide +kernel)
theorem se_0_22 : Cond.eq (.elem (zTv 0) (.int (Int32.ofNat 22))) (.int 108) ∈ lw_fl := List.mem_of_getElem? (i := 35) (by decide +kernel)
theorem se_0_23 : Cond.eq (.elem (zTv 0) (.int (Int32.ofNat 23))) (.int 105) ∈ lw_fl := List.mem_of_getElem? (i := 36) (by decide +kernel)
theorem se_0_24 : Cond.eq (.elem (zTv 0) (.int (Int32.ofNat 24))) (.int 103) ∈ lw_fl := List.mem_of_getElem? (i := 37) (by decide +kernel)
theorem se_0_25 : Cond.eq (.elem (zTv 0) (.int (Int32.ofNat 25))) (.int 104) ∈ lw_fl := List.mem_of_getElem? (i := 38) (by decide +kernel)
theorem se_0_26 : Cond.eq (.elem (zTv 0) (.int (Int32.ofNat 26))) (.int 116) ∈ lw_fl := List.mem_of_getElem? (i := 39) (by decide +kernel)
theorem se_0_27 : Cond.eq (.elem (zTv 0) (.int (Int32.ofNat 27))) (.int 32) ∈ lw_fl := List.mem_of_getElem? (i := 40) (by decide +kernel)
theorem se_0_28 : Cond.eq (.elem (zTv 0) (.int (Int32.ofNat 28))) (.int 102) ∈ lw_fl := List.mem_of_getElem? (i := 41) (by decide +kernel)
theorem se_0_29 : Cond.eq (.elem (zTv 0) (.int (Int32.ofNat 29))) (.int 108) ∈ lw_fl := List.mem_of_getElem? (i := 42) (by decide +kernel)
theorem se_0_30 : Cond.eq (.elem (zTv 0) (.int (Int32.ofNat 30))) (.int 97) ∈ lw_fl := List.mem_of_getElem? (i := 43) (by decide +kernel)
theorem se_0_31 : Cond.eq (.elem (zTv 0) (.int (Int32.ofNat 31))) (.int 114) ∈ lw_fl := List.mem_of_getElem? (i := 44) (by decide +kernel)
theorem se_0_32 : Cond.eq (.elem (zTv 0) (.int (Int32.ofNat 32))) (.int 101) ∈ lw_fl := List.mem_of_getElem? (i := 45) (by decide +kernel)
theorem se_0_33 : Cond.eq (.elem (zTv 0) (.int (Int32.ofNat 33))) (.int 32) ∈ lw_fl := List.mem_of_getElem? (i := 46) (by decide +kernel)
theorem se_0_34 : Cond.eq (.elem (zTv 0) (.int (Int32.ofNat 34))) (.int 108) ∈ lw_fl := List.mem_of_getElem? (i := 47) (by decide +kernel)
theorem se_0_35 : Cond.eq (.elem (zTv 0) (.int (Int32.ofNat 35))) (.int 97) ∈ lw_fl := List.mem_of_getElem? (i := 48) (by decide +kernel)
theorem se_0_36 : Cond.eq (.elem (zTv 0) (.int (Int32.ofNat 36))) (.int 109) ∈ lw_fl := List.mem_of_getElem? (i := 49) (by decide +kernel)
theorem se_0_37 : Cond.eq (.elem (zTv 0) (.int (Int32.ofNat 37))) (.int 112) ∈ lw_fl := List.mem_of_getElem? (i := 50) (by decide +kernel)
theorem se_0_38 : Cond.eq (.elem (zTv 0) (.int (Int32.ofNat 38))) (.int 32) ∈ lw_fl := List.mem_of_getElem? (i := 51) (by decide +kernel)
theorem se_0_39 : Cond.eq (.elem (zTv 0) (.int (Int32.ofNat 39))) (.int 98) ∈ lw_fl := List.mem_of_getElem? (i := 52) (by decide +kernel)
theorem se_0_40 : Cond.eq (.elem (zTv 0) (.int (Int32.ofNat 40))) (.int 97) ∈ lw_fl := List.mem_of_getElem? (i := 53) (by decide +kernel)
theorem se_0_41 : Cond.eq (.elem (zTv 0) (.int (Int32.ofNat 41))) (.int 108) ∈ lw_fl := List.mem_of_getElem? (i := 54) (by decide +kernel)
theorem se_0_42 : Cond.eq (.elem (zTv 0) (.int (Int32.ofNat 42))) (.int 108) ∈ lw_fl := List.mem_of_getElem? (i := 55) (by decide +kernel)
theorem se_0_43 : Cond.eq (.elem (zTv 0) (.int (Int32.ofNat 43))) (.int 111) ∈ lw_fl := List.mem_of_getElem? (i := 56) (by decide +kernel)
theorem se_0_44 : Cond.eq (.elem (zTv 0) (.int (Int32.ofNat 44))) (.int 111) ∈ lw_fl := List.mem_of_getElem? (i := 57) (by decide +kernel)
theorem se_0_45 : Cond.eq (.elem (zTv 0) (.int (Int32.ofNat 45))) (.int 110) ∈ lw_fl := List.mem_of_getElem? (i := 58) (by decide +kernel)
theorem se_0_46 : Cond.eq (.elem (zTv 0) (.int (Int32.ofNat 46))) (.int 32) ∈ lw_fl := List.mem_of_getElem? (i := 59) (by decide +kernel)
theorem se_0_47 : Cond.eq (.elem (zTv 0) (.int (Int32.ofNat 47))) (.int 98) ∈ lw_fl := List.mem_of_getElem? (i := 60) (by decide +kernel)
theorem se_0_48 : Cond.eq (.elem (zTv 0) (.int (Int32.ofNat 48))) (.int 117) ∈ lw_fl := List.mem_of_getElem? (i := 61) (by decide +kernel)
theorem se_0_49 : Cond.eq (.elem (zTv 0) (.int (Int32.ofNat 49))) (.int 114) ∈ lw_fl := List.mem_of_getElem? (i := 62) (by decide +kernel)
theorem se_0_50 : Cond.eq (.elem (zTv 0) (.int (Int32.ofNat 50))) (.int 110) ∈ lw_fl := List.mem_of_getElem? (i := 63) (by decide +kernel)
theorem se_0_51 : Cond.eq (.elem (zTv 0) (.int (Int32.ofNat 51))) (.int 105) ∈ lw_fl := List.mem_of_getElem? (i := 64) (by decide +kernel)
theorem se_0_52 : Cond.eq (.elem (zTv 0) (.int (Int32.ofNat 52))) (.int 110) ∈ lw_fl := List.mem_of_getElem? (i := 65) (by decide +kernel)
theorem se_0_53 : Cond.eq (.elem (zTv 0) (.int (Int32.ofNat 53))) (.int 103) ∈ lw_fl := List.mem_of_getElem? (i := 66) (by decide +kernel)
theorem se_0_54 : Cond.eq (.elem (zTv 0) (.int (Int32.ofNat 54))) (.int 32) ∈ lw_fl := List.mem_of_getElem? (i := 67) (by decide +kernel)
theorem se_0_55 : Cond.eq (.elem (zTv 0) (.int (Int32.ofNat 55))) (.int 110) ∈ lw_fl := List.mem_of_getElem? (i := 68) (by decide +kernel)
theorem se_0_56 : Cond.eq (.elem (zTv 0) (.int (Int32.ofNat 56))) (.int 111) ∈ lw_fl := List.mem_of_getElem? (i := 69) (by decide +kernel)
theorem se_0_57 : Cond.eq (.elem (zTv 0) (.int (Int32.ofNat 57))) (.int 110) ∈ lw_fl := List.mem_of_getElem? (i := 70) (by decide +kernel)
theorem se_0_58 : Cond.eq (.elem (zTv 0) (.int (Int32.ofNat 58))) (.int 101) ∈ lw_fl := List.mem_of_getElem? (i := 71) (by decide +kernel)
theorem se_0_59 : Cond.eq (.elem (zTv 0) (.int (Int32.ofNat 59))) (.int 32) ∈ lw_fl := List.mem_of_getElem? (i := 72) (by decide +kernel)
theorem se_0_60 : Cond.eq (.elem (zTv 0) (.int (Int32.ofNat 60))) (.int 108) ∈ lw_fl := List.mem_of_getElem? (i := 73) (by decide +kernel)
theorem se_0_61 : Cond.eq (.elem (zTv 0) (.int (Int32.ofNat 61))) (.int 105) ∈ lw_fl := List.mem_of_getElem? (i := 74) (by decide +kernel)
theorem se_0_62 : Cond.eq (.elem (zTv 0) (.int (Int32.ofNat 62))) (.int 103) ∈ lw_fl := List.mem_of_getElem? (i := 75) (by decide +kernel)
theorem se_0_63 : Cond.eq (.elem (zTv 0) (.int (Int32.ofNat 63))) (.int 104) ∈ lw_fl := List.mem_of_getElem? (i := 76) (by decide +kernel)
theorem se_0_64 : Cond.eq (.elem (zTv 0) (.int (Int32.ofNat 64))) (.int 116) ∈ lw_fl := List.mem_of_getElem? (i := 77) (by decide +kernel)
theorem se_0_65 : Cond.eq (.elem (zTv 0) (.int (Int32.ofNat 65))) (.int 115) ∈ lw_fl := List.mem_of_getElem? (i := 78) (by decide +kernel)
theorem se_0_66 : Cond.eq (.elem (zTv 0) (.int (Int32.ofNat 66))) (.int 32) ∈ lw_fl := List.mem_of_getElem? (i := 79) (by decide +kernel)
theorem se_0_67 : Cond.eq (.elem (zTv 0) (.int (Int32.ofNat 67))) (.int 104) ∈ lw_fl := List.mem_of_getElem? (i := 80) (by decide +kernel)
theorem se_0_68 : Cond.eq (.elem (zTv 0) (.int (Int32.ofNat 68))) (.int 117) ∈ lw_fl := List.mem_of_getElem? (i := 81) (by decide +kernel)
theorem se_0_69 : Cond.eq (.elem (zTv 0) (.int (Int32.ofNat 69))) (.int 108) ∈ lw_fl := List.mem_of_getElem? (i := 82) (by decide +kernel)
theorem se_0_70 : Cond.eq (.elem (zTv 0) (.int (Int32.ofNat 70))) (.int 108) ∈ lw_fl := List.mem_of_getElem? (i := 83) (by decide +kernel)
theorem se_0_71 : Cond.eq (.elem (zTv 0) (.int (Int32.ofNat 71))) (.int 32) ∈ lw_fl := List.mem_of_getElem? (i := 84) (by decide +kernel)
theorem se_0_72 : Cond.eq (.elem (zTv 0) (.int (Int32.ofNat 72))) (.int 100) ∈ lw_fl := List.mem_of_getElem? (i := 85) (by decide +kernel)
theorem se_0_73 : Cond.eq (.elem (zTv 0) (.int (Int32.ofNat 73))) (.int 97) ∈ lw_fl := List.mem_of_getElem? (i := 86) (by decide +kernel)
theorem se_0_74 : Cond.eq (.elem (zTv 0) (.int (Int32.ofNat 74))) (.int 121) ∈ lw_fl := List.mem_of_getElem? (i := 87) (by decide +kernel)
theorem se_0_75 : Cond.eq (.elem (zTv 0) (.int (Int32.ofNat 75))) (.int 115) ∈ lw_fl := List.mem_of_getElem? (i := 88) (by decide +kernel)
theorem se_0_76 : Cond.eq (.elem (zTv 0) (.int (Int32.ofNat 76))) (.int 32) ∈ lw_fl := List.mem_of_getElem? (i := 89) (by decide +kernel)
theorem se_0_77 : Cond.eq (.elem (zTv 0) (.int (Int32.ofNat 77))) (.int 112) ∈ lw_fl := List.mem_of_getElem? (i := 90) (by decide +kernel)
theorem se_0_78 : Cond.eq (.elem (zTv 0) (.int (Int32.ofNat 78))) (.int 97) ∈ lw_fl := List.mem_of_getElem? (i := 91) (by decide +kernel)
theorem se_0_79 : Cond.eq (.elem (zTv 0) (.int (Int32.ofNat 79))) (.int 112) ∈ lw_fl := List.mem_of_getElem? (i := 92) (by decide +kernel)
theorem se_0_80 : Cond.eq (.elem (zTv 0) (.int (Int32.ofNat 80))) (.int 101) ∈ lw_fl := List.mem_of_getElem? (i := 93) (by decide +kernel)
theorem se_0_81 : Cond.eq (.elem (zTv 0) (.int (Int32.ofNat 81))) (.int 114) ∈ lw_fl := List.mem_of_getElem? (i := 94) (by decide +kernel)
theorem se_0_82 : Cond.eq (.elem (zTv 0) (.int (Int32.ofNat 82))) (.int 115) ∈ lw_fl := List.mem_of_getElem? (i := 95) (by decide +kernel)
theorem se_0_83 : Cond.eq (.elem (zTv 0) (.int (Int32.ofNat 83))) (.int 32) ∈ lw_fl := List.mem_of_getElem? (i := 96) (by decide +kernel)
theorem se_0_84 : Cond.eq (.elem (zTv 0) (.int (Int32.ofNat 84))) (.int 109) ∈ lw_fl := List.mem_of_getElem? (i := 97) (by decide +kernel)
theorem se_0_85 : Cond.eq (.elem (zTv 0) (.int (Int32.ofNat 85))) (.int 105) ∈ lw_fl := List.mem_of_getElem? (i := 98) (by decide +kernel)
theorem se_0_86 : Cond.eq (.elem (zTv 0) (.int (Int32.ofNat 86))) (.int 110) ∈ lw_fl := List.mem_of_getElem? (i := 99) (by decide +kernel)
theorem se_0_87 : Cond.eq (.elem (zTv 0) (.int (Int32.ofNat 87))) (.int 117) ∈ lw_fl := List.mem_of_getElem? (i := 100) (by decide +kernel)
theorem se_0_88 : Cond.eq (.elem (zTv 0) (.int (Int32.ofNat 88))) (.int 116) ∈ lw_fl := List.mem_of_getElem? (i := 101) (by decide +kernel)
theorem se_0_89 : Cond.eq (.elem (zTv 0) (.int (Int32.ofNat 89))) (.int 101) ∈ lw_fl := List.mem_of_getElem? (i := 102) (by decide +kernel)
theorem se_0_90 : Cond.eq (.elem (zTv 0) (.int (Int32.ofNat 90))) (.int 32) ∈ lw_fl := List.mem_of_getElem? (i := 103) (by decide +kernel)
theorem se_0_91 : Cond.eq (.elem (zTv 0) (.int (Int32.ofNat 91))) (.int 119) ∈ lw_fl := List.mem_of_getElem? (i := 104) (by decide +kernel)
theorem se_0_92 : Cond.eq (.elem (zTv 0) (.int (Int32.ofNat 92))) (.int 97) ∈ lw_fl := List.mem_of_getElem? (i := 105) (by decide +kernel)
theorem se_0_93 : Cond.eq (.elem (zTv 0) (.int (Int32.ofNat 93))) (.int 121) ∈ lw_fl := List.mem_of_getElem? (i := 106) (by decide +kernel)
theorem se_0_94 : Cond.eq (.elem (zTv 0) (.int (Int32.ofNat 94))) (.int 32) ∈ lw_fl := List.mem_of_getElem? (i := 107) (by decide +kernel)
theorem se_0_95 : Cond.eq (.elem (zTv 0) (.int (Int32.ofNat 95))) (.int 115) ∈ lw_fl := List.mem_of_getElem? (i := 108) (by decide +kernel)
theorem se_0_96 : Cond.eq (.elem (zTv 0) (.int (Int32.ofNat 96))) (.int 108) ∈ lw_fl := List.mem_of_getElem? (i := 109) (by decide +kernel)
theorem se_0_97 : Cond.eq (.elem (zTv 0) (.int (Int32.ofNat 97))) (.int 111) ∈ lw_fl := List.mem_of_getElem? (i := 110) (by decide +kernel)
theorem se_0_98 : Cond.eq (.elem (zTv 0) (.int (Int32.ofNat 98))) (.int 112) ∈ lw_fl := List.mem_of_getElem? (i := 111) (by decide +kernel)
theorem se_0_99 : Cond.eq (.elem (zTv 0) (.int (Int32.ofNat 99))) (.int 101) ∈ lw_fl := List.mem_of_getElem? (i := 112) (by decide +kernel)
theorem se_0_100 : Cond.eq (.elem (zTv 0) (.int (Int32.ofNat 100))) (.int 32) ∈ lw_fl := List.mem_of_getElem? (i := 113) (by decide +kernel)
theorem se_0 : ∀ j, j < 101 → Cond.eq (.elem (zTv 0) (.int (Int32.ofNat j))) (.int ((zSb.getD 0 []).getD j 0)) ∈ lw_fl := fun j hj => by
  match j, hj with
  | 0, _ => exact se_0_0
  | 1, _ => exact se_0_1
  | 2, _ => exact se_0_2
  | 3, _ => exact se_0_3
  | 4, _ => exact se_0_4
  | 5, _ => exact se_0_5
  | 6, _ => exact se_0_6
  | 7, _ => exact se_0_7
  | 8, _ => exact se_0_8
  | 9, _ => exact se_0_9
  | 10, _ => exact se_0_10
  | 11, _ => exact se_0_11
  | 12, _ => exact se_0_12
  | 13, _ => exact se_0_13
  | 14, _ => exact se_0_14
  | 15, _ => exact se_0_15
  | 16, _ => exact se_0_16
  | 17, _ => exact se_0_17
  | 18, _ => exact se_0_18
  | 19, _ => exact se_0_19
  | 20, _ => exact se_0_20
  | 21, _ => exact se_0_21
  | 22, _ => exact se_0_22
  | 23, _ => exact se_0_23
  | 24, _ => exact se_0_24
  | 25, _ => exact se_0_25
  | 26, _ => exact se_0_26
  | 27, _ => exact se_0_27
  | 28, _ => exact se_0_28
  | 29, _ => exact se_0_29
  | 30, _ => exact se_0_30
  | 31, _ => exact se_0_31
  | 32, _ => exact se_0_32
  | 33, _ => exact se_0_33
  | 34, _ => exact se_0_34
  | 35, _ => exact se_0_35
  | 36, _ => exact se_0_36
  | 37, _ => exact se_0_37
  | 38, _ => exact se_0_38
  | 39, _ => exact se_0_39
  | 40, _ => exact se_0_40
  | 41, _ => exact se_0_41
  | 42, _ => exact se_0_42
  | 43, _ => exact se_0_43
  | 44, _ => exact se_0_44
  | 45, _ => exact se_0_45
  | 46, _ => exact se_0_46
  | 47, _ => exact se_0_47
  | 48, _ => exact se_0_48
  | 49, _ => exact se_0_49
  | 50, _ => exact se_0_50
  | 51, _ => exact se_0_51
  | 52, _ => exact se_0_52
  | 53, _ => exact se_0_53
  | 54, _ => exact se_0_54
  | 55, _ => exact se_0_55
  | 56, _ => exact se_0_56
  | 57, _ => exact se_0_57
  | 58, _ => exact se_0_58
  | 59, _ => exact se_0_59
  | 60, _ => exact se_0_60
  | 61, _ => exact se_0_61
  | 62, _ => exact se_0_62
  | 63, _ => exact se_0_63
  | 64, _ => exact se_0_64
  | 65, _ => exact se_0_65
  | 66, _ => exact se_0_66
  | 67, _ => exact se_0_67
  | 68, _ => exact se_0_68
  | 69, _ => exact se_0_69
  | 70, _ => exact se_0_70
  | 71, _ => exact se_0_71
  | 72, _ => exact se_0_72
  | 73, _ => exact se_0_73
  | 74, _ => exact se_0_74
  | 75, _ => exact se_0_75
  | 76, _ => exact se_0_76
  | 77, _ => exact se_0_77
  | 78, _ => exact se_0_78
  | 79, _ => exact se_0_79
  | 80, _ => exact se_0_80
  | 81, _ => exact se_0_81
  | 82, _ => exact se_0_82
  | 83, _ => exact se_0_83
  | 84, _ => exact se_0_84
  | 85, _ => exact se_0_85
  | 86, _ => exact se_0_86
  | 87, _ => exact se_0_87
  | 88, _ => exact se_0_88
  | 89, _ => exact se_0_89
  | 90, _ => exact se_0_90
  | 91, _ => exact se_0_91
  | 92, _ => exact se_0_92
  | 93, _ => exact se_0_93
  | 94, _ => exact se_0_94
  | 95, _ => exact se_0_95
  | 96, _ => exact se_0_96
  | 97, _ => exact se_0_97
  | 98, _ => exact se_0_98
  | 99, _ => exact se_0_99
  | 100, _ => exact se_0_100
  | j + 101, h => exact absurd h (by omega)
theorem se_1_0 : Cond.eq (.elem (zTv 1) (.int (Int32.ofNat 0))) (.int 43) ∈ lw_fl := List.mem_of_getElem? (i := 118) (by decide +kernel)
theorem se_1_1 : Cond.eq (.elem (zTv 1) (.int (Int32.ofNat 1))) (.int 45) ∈ lw_fl := List.mem_of_getElem? (i := 119) (by decide +kernel)
theorem se_1_2 : Cond.eq (.elem (zTv 1) (.int (Int32.ofNat 2))) (.int 42) ∈ lw_fl := List.mem_of_getElem? (i := 120) (by decide +kernel)
theorem se_1_3 : Cond.eq (.elem (zTv 1) (.int (Int32.ofNat 3))) (.int 60) ∈ lw_fl := List.mem_of_getElem? (i := 121) (by decide +kernel)
theorem se_1_4 : Cond.eq (.elem (zTv 1) (.int (Int32.ofNat 4))) (.int 61) ∈ lw_fl := List.mem_of_getElem? (i := 122) (by decide +kernel)
theorem se_1_5 : Cond.eq (.elem (zTv 1) (.int (Int32.ofNat 5))) (.int 40) ∈ lw_fl := List.mem_of_getElem? (i := 123) (by decide +kernel)
theorem se_1_6 : Cond.eq (.elem (zTv 1) (.int (Int32.ofNat 6))) (.int 41) ∈ lw_fl := List.mem_of_getElem? (i := 124) (by decide +kernel)
theorem se_1_7 : Cond.eq (.elem (zTv 1) (.int (Int32.ofNat 7))) (.int 59) ∈ lw_fl := List.mem_of_getElem? (i := 125) (by decide +kernel)
theorem se_1 : ∀ j, j < 8 → Cond.eq (.elem (zTv 1) (.int (Int32.ofNat j))) (.int ((zSb.getD 1 []).getD j 0)) ∈ lw_fl := fun j hj => by
  match j, hj with
  | 0, _ => exact se_1_0
  | 1, _ => exact se_1_1
  | 2, _ => exact se_1_2
  | 3, _ => exact se_1_3
  | 4, _ => exact se_1_4
  | 5, _ => exact se_1_5
  | 6, _ => exact se_1_6
  | 7, _ => exact se_1_7
  | j + 8, h => exact absurd h (by omega)
theorem se_2_0 : Cond.eq (.elem (zTv 2) (.int (Int32.ofNat 0))) (.int 115) ∈ lw_fl := List.mem_of_getElem? (i := 131) (by decide +kernel)
theorem se_2_1 : Cond.eq (.elem (zTv 2) (.int (Int32.ofNat 1))) (.int 116) ∈ lw_fl := List.mem_of_getElem? (i := 132) (by decide +kernel)
theorem se_2_2 : Cond.eq (.elem (zTv 2) (.int (Int32.ofNat 2))) (.int 97) ∈ lw_fl := List.mem_of_getElem? (i := 133) (by decide +kernel)
theorem se_2_3 : Cond.eq (.elem (zTv 2) (.int (Int32.ofNat 3))) (.int 114) ∈ lw_fl := List.mem_of_getElem? (i := 134) (by decide +kernel)
theorem se_2 : ∀ j, j < 4 → Cond.eq (.elem (zTv 2) (.int (Int32.ofNat j))) (.int ((zSb.getD 2 []).getD j 0)) ∈ lw_fl := fun j hj => by
  match j, hj with
  | 0, _ => exact se_2_0
  | 1, _ => exact se_2_1
  | 2, _ => exact se_2_2
  | 3, _ => exact se_2_3
  | j + 4, h => exact absurd h (by omega)
theorem se_3_0 : Cond.eq (.elem (zTv 3) (.int (Int32.ofNat 0))) (.int 102) ∈ lw_fl := List.mem_of_getElem? (i := 141) (by decide +kernel)
theorem se_3_1 : Cond.eq (.elem (zTv 3) (.int (Int32.ofNat 1))) (.int 108) ∈ lw_fl := List.mem_of_getElem? (i := 142) (by decide +kernel)
theorem se_3_2 : Cond.eq (.elem (zTv 3) (.int (Int32.ofNat 2))) (.int 105) ∈ lw_fl := List.mem_of_getElem? (i := 143) (by decide +kernel)
theorem se_3_3 : Cond.eq (.elem (zTv 3) (.int (Int32.ofNat 3))) (.int 103) ∈ lw_fl := List.mem_of_getElem? (i := 144) (by decide +kernel)
theorem se_3_4 : Cond.eq (.elem (zTv 3) (.int (Int32.ofNat 4))) (.int 104) ∈ lw_fl := List.mem_of_getElem? (i := 145) (by decide +kernel)
theorem se_3_5 : Cond.eq (.elem (zTv 3) (.int (Int32.ofNat 5))) (.int 116) ∈ lw_fl := List.mem_of_getElem? (i := 146) (by decide +kernel)
theorem se_3 : ∀ j, j < 6 → Cond.eq (.elem (zTv 3) (.int (Int32.ofNat j))) (.int ((zSb.getD 3 []).getD j 0)) ∈ lw_fl := fun j hj => by
  match j, hj with
  | 0, _ => exact se_3_0
  | 1, _ => exact se_3_1
  | 2, _ => exact se_3_2
  | 3, _ => exact se_3_3
  | 4, _ => exact se_3_4
  | 5, _ => exact se_3_5
  | j + 6, h => exact absurd h (by omega)
theorem se_4_0 : Cond.eq (.elem (zTv 4) (.int (Int32.ofNat 0))) (.int 102) ∈ lw_fl := List.mem_of_getElem? (i := 154) (by decide +kernel)
theorem se_4_1 : Cond.eq (.elem (zTv 4) (.int (Int32.ofNat 1))) (.int 108) ∈ lw_fl := List.mem_of_getElem? (i := 155) (by decide +kernel)
theorem se_4_2 : Cond.eq (.elem (zTv 4) (.int (Int32.ofNat 2))) (.int 97) ∈ lw_fl := List.mem_of_getElem? (i := 156) (by decide +kernel)
theorem se_4_3 : Cond.eq (.elem (zTv 4) (.int (Int32.ofNat 3))) (.int 114) ∈ lw_fl := List.mem_of_getElem? (i := 157) (by decide +kernel)
theorem se_4_4 : Cond.eq (.elem (zTv 4) (.int (Int32.ofNat 4))) (.int 101) ∈ lw_fl := List.mem_of_getElem? (i := 158) (by decide +kernel)
theorem se_4 : ∀ j, j < 5 → Cond.eq (.elem (zTv 4) (.int (Int32.ofNat j))) (.int ((zSb.getD 4 []).getD j 0)) ∈ lw_fl := fun j hj => by
  match j, hj with
  | 0, _ => exact se_4_0
  | 1, _ => exact se_4_1
  | 2, _ => exact se_4_2
  | 3, _ => exact se_4_3
  | 4, _ => exact se_4_4
  | j + 5, h => exact absurd h (by omega)
theorem se_5_0 : Cond.eq (.elem (zTv 5) (.int (Int32.ofNat 0))) (.int 108) ∈ lw_fl := List.mem_of_getElem? (i := 167) (by decide +kernel)
theorem se_5_1 : Cond.eq (.elem (zTv 5) (.int (Int32.ofNat 1))) (.int 97) ∈ lw_fl := List.mem_of_getElem? (i := 168) (by decide +kernel)
theorem se_5_2 : Cond.eq (.elem (zTv 5) (.int (Int32.ofNat 2))) (.int 109) ∈ lw_fl := List.mem_of_getElem? (i := 169) (by decide +kernel)
theorem se_5_3 : Cond.eq (.elem (zTv 5) (.int (Int32.ofNat 3))) (.int 112) ∈ lw_fl := List.mem_of_getElem? (i := 170) (by decide +kernel)
theorem se_5 : ∀ j, j < 4 → Cond.eq (.elem (zTv 5) (.int (Int32.ofNat j))) (.int ((zSb.getD 5 []).getD j 0)) ∈ lw_fl := fun j hj => by
  match j, hj with
  | 0, _ => exact se_5_0
  | 1, _ => exact se_5_1
  | 2, _ => exact se_5_2
  | 3, _ => exact se_5_3
  | j + 4, h => exact absurd h (by omega)
theorem se_6_0 : Cond.eq (.elem (zTv 6) (.int (Int32.ofNat 0))) (.int 98) ∈ lw_fl := List.mem_of_getElem? (i := 180) (by decide +kernel)
theorem se_6_1 : Cond.eq (.elem (zTv 6) (.int (Int32.ofNat 1))) (.int 97) ∈ lw_fl := List.mem_of_getElem? (i := 181) (by decide +kernel)
theorem se_6_2 : Cond.eq (.elem (zTv 6) (.int (Int32.ofNat 2))) (.int 108) ∈ lw_fl := List.mem_of_getElem? (i := 182) (by decide +kernel)
theorem se_6_3 : Cond.eq (.elem (zTv 6) (.int (Int32.ofNat 3))) (.int 108) ∈ lw_fl := List.mem_of_getElem? (i := 183) (by decide +kernel)
theorem se_6_4 : Cond.eq (.elem (zTv 6) (.int (Int32.ofNat 4))) (.int 111) ∈ lw_fl := List.mem_of_getElem? (i := 184) (by decide +kernel)
theorem se_6_5 : Cond.eq (.elem (zTv 6) (.int (Int32.ofNat 5))) (.int 111) ∈ lw_fl := List.mem_of_getElem? (i := 185) (by decide +kernel)
theorem se_6_6 : Cond.eq (.elem (zTv 6) (.int (Int32.ofNat 6))) (.int 110) ∈ lw_fl := List.mem_of_getElem? (i := 186) (by decide +kernel)
theorem se_6 : ∀ j, j < 7 → Cond.eq (.elem (zTv 6) (.int (Int32.ofNat j))) (.int ((zSb.getD 6 []).getD j 0)) ∈ lw_fl := fun j hj => by
  match j, hj with
  | 0, _ => exact se_6_0
  | 1, _ => exact se_6_1
  | 2, _ => exact se_6_2
  | 3, _ => exact se_6_3
  | 4, _ => exact se_6_4
  | 5, _ => exact se_6_5
  | 6, _ => exact se_6_6
  | j + 7, h => exact absurd h (by omega)
theorem se_7_0 : Cond.eq (.elem (zTv 7) (.int (Int32.ofNat 0))) (.int 98) ∈ lw_fl := List.mem_of_getElem? (i := 197) (by decide +kernel)
theorem se_7_1 : Cond.eq (.elem (zTv 7) (.int (Int32.ofNat 1))) (.int 117) ∈ lw_fl := List.mem_of_getElem? (i := 198) (by decide +kernel)
theorem se_7_2 : Cond.eq (.elem (zTv 7) (.int (Int32.ofNat 2))) (.int 114) ∈ lw_fl := List.mem_of_getElem? (i := 199) (by decide +kernel)
theorem se_7_3 : Cond.eq (.elem (zTv 7) (.int (Int32.ofNat 3))) (.int 110) ∈ lw_fl := List.mem_of_getElem? (i := 200) (by decide +kernel)
theorem se_7_4 : Cond.eq (.elem (zTv 7) (.int (Int32.ofNat 4))) (.int 105) ∈ lw_fl := List.mem_of_getElem? (i := 201) (by decide +kernel)
theorem se_7_5 : Cond.eq (.elem (zTv 7) (.int (Int32.ofNat 5))) (.int 110) ∈ lw_fl := List.mem_of_getElem? (i := 202) (by decide +kernel)
theorem se_7_6 : Cond.eq (.elem (zTv 7) (.int (Int32.ofNat 6))) (.int 103) ∈ lw_fl := List.mem_of_getElem? (i := 203) (by decide +kernel)
theorem se_7 : ∀ j, j < 7 → Cond.eq (.elem (zTv 7) (.int (Int32.ofNat j))) (.int ((zSb.getD 7 []).getD j 0)) ∈ lw_fl := fun j hj => by
  match j, hj with
  | 0, _ => exact se_7_0
  | 1, _ => exact se_7_1
  | 2, _ => exact se_7_2
  | 3, _ => exact se_7_3
  | 4, _ => exact se_7_4
  | 5, _ => exact se_7_5
  | 6, _ => exact se_7_6
  | j + 7, h => exact absurd h (by omega)
theorem se_8_0 : Cond.eq (.elem (zTv 8) (.int (Int32.ofNat 0))) (.int 110) ∈ lw_fl := List.mem_of_getElem? (i := 215) (by decide +kernel)
theorem se_8_1 : Cond.eq (.elem (zTv 8) (.int (Int32.ofNat 1))) (.int 111) ∈ lw_fl := List.mem_of_getElem? (i := 216) (by decide +kernel)
theorem se_8_2 : Cond.eq (.elem (zTv 8) (.int (Int32.ofNat 2))) (.int 110) ∈ lw_fl := List.mem_of_getElem? (i := 217) (by decide +kernel)
theorem se_8_3 : Cond.eq (.elem (zTv 8) (.int (Int32.ofNat 3))) (.int 101) ∈ lw_fl := List.mem_of_getElem? (i := 218) (by decide +kernel)
theorem se_8 : ∀ j, j < 4 → Cond.eq (.elem (zTv 8) (.int (Int32.ofNat j))) (.int ((zSb.getD 8 []).getD j 0)) ∈ lw_fl := fun j hj => by
  match j, hj with
  | 0, _ => exact se_8_0
  | 1, _ => exact se_8_1
  | 2, _ => exact se_8_2
  | 3, _ => exact se_8_3
  | j + 4, h => exact absurd h (by omega)
theorem se_9_0 : Cond.eq (.elem (zTv 9) (.int (Int32.ofNat 0))) (.int 108) ∈ lw_fl := List.mem_of_getElem? (i := 231) (by decide +kernel)
theorem se_9_1 : Cond.eq (.elem (zTv 9) (.int (Int32.ofNat 1))) (.int 105) ∈ lw_fl := List.mem_of_getElem? (i := 232) (by decide +kernel)
theorem se_9_2 : Cond.eq (.elem (zTv 9) (.int (Int32.ofNat 2))) (.int 103) ∈ lw_fl := List.mem_of_getElem? (i := 233) (by decide +kernel)
theorem se_9_3 : Cond.eq (.elem (zTv 9) (.int (Int32.ofNat 3))) (.int 104) ∈ lw_fl := List.mem_of_getElem? (i := 234) (by decide +kernel)
theorem se_9_4 : Cond.eq (.elem (zTv 9) (.int (Int32.ofNat 4))) (.int 116) ∈ lw_fl := List.mem_of_getElem? (i := 235) (by decide +kernel)
theorem se_9_5 : Cond.eq (.elem (zTv 9) (.int (Int32.ofNat 5))) (.int 115) ∈ lw_fl := List.mem_of_getElem? (i := 236) (by decide +kernel)
theorem se_9 : ∀ j, j < 6 → Cond.eq (.elem (zTv 9) (.int (Int32.ofNat j))) (.int ((zSb.getD 9 []).getD j 0)) ∈ lw_fl := fun j hj => by
  match j, hj with
  | 0, _ => exact se_9_0
  | 1, _ => exact se_9_1
  | 2, _ => exact se_9_2
  | 3, _ => exact se_9_3
  | 4, _ => exact se_9_4
  | 5, _ => exact se_9_5
  | j + 6, h => exact absurd h (by omega)
theorem se_10_0 : Cond.eq (.elem (zTv 10) (.int (Int32.ofNat 0))) (.int 104) ∈ lw_fl := List.mem_of_getElem? (i := 250) (by decide +kernel)
theorem se_10_1 : Cond.eq (.elem (zTv 10) (.int (Int32.ofNat 1))) (.int 117) ∈ lw_fl := List.mem_of_getElem? (i := 251) (by decide +kernel)
theorem se_10_2 : Cond.eq (.elem (zTv 10) (.int (Int32.ofNat 2))) (.int 108) ∈ lw_fl := List.mem_of_getElem? (i := 252) (by decide +kernel)
theorem se_10_3 : Cond.eq (.elem (zTv 10) (.int (Int32.ofNat 3))) (.int 108) ∈ lw_fl := List.mem_of_getElem? (i := 253) (by decide +kernel)
theorem se_10 : ∀ j, j < 4 → Cond.eq (.elem (zTv 10) (.int (Int32.ofNat j))) (.int ((zSb.getD 10 []).getD j 0)) ∈ lw_fl := fun j hj => by
  match j, hj with
  | 0, _ => exact se_10_0
  | 1, _ => exact se_10_1
  | 2, _ => exact se_10_2
  | 3, _ => exact se_10_3
  | j + 4, h => exact absurd h (by omega)
theorem se_11_0 : Cond.eq (.elem (zTv 11) (.int (Int32.ofNat 0))) (.int 100) ∈ lw_fl := List.mem_of_getElem? (i := 268) (by decide +kernel)
theorem se_11_1 : Cond.eq (.elem (zTv 11) (.int (Int32.ofNat 1))) (.int 97) ∈ lw_fl := List.mem_of_getElem? (i := 269) (by decide +kernel)
theorem se_11_2 : Cond.eq (.elem (zTv 11) (.int (Int32.ofNat 2))) (.int 121) ∈ lw_fl := List.mem_of_getElem? (i := 270) (by decide +kernel)
theorem se_11_3 : Cond.eq (.elem (zTv 11) (.int (Int32.ofNat 3))) (.int 115) ∈ lw_fl := List.mem_of_getElem? (i := 271) (by decide +kernel)
theorem se_11 : ∀ j, j < 4 → Cond.eq (.elem (zTv 11) (.int (Int32.ofNat j))) (.int ((zSb.getD 11 []).getD j 0)) ∈ lw_fl := fun j hj => by
  match j, hj with
  | 0, _ => exact se_11_0
  | 1, _ => exact se_11_1
  | 2, _ => exact se_11_2
  | 3, _ => exact se_11_3
  | j + 4, h => exact absurd h (by omega)
theorem se_12_0 : Cond.eq (.elem (zTv 12) (.int (Int32.ofNat 0))) (.int 112) ∈ lw_fl := List.mem_of_getElem? (i := 287) (by decide +kernel)
theorem se_12_1 : Cond.eq (.elem (zTv 12) (.int (Int32.ofNat 1))) (.int 97) ∈ lw_fl := List.mem_of_getElem? (i := 288) (by decide +kernel)
theorem se_12_2 : Cond.eq (.elem (zTv 12) (.int (Int32.ofNat 2))) (.int 112) ∈ lw_fl := List.mem_of_getElem? (i := 289) (by decide +kernel)
theorem se_12_3 : Cond.eq (.elem (zTv 12) (.int (Int32.ofNat 3))) (.int 101) ∈ lw_fl := List.mem_of_getElem? (i := 290) (by decide +kernel)
theorem se_12_4 : Cond.eq (.elem (zTv 12) (.int (Int32.ofNat 4))) (.int 114) ∈ lw_fl := List.mem_of_getElem? (i := 291) (by decide +kernel)
theorem se_12_5 : Cond.eq (.elem (zTv 12) (.int (Int32.ofNat 5))) (.int 115) ∈ lw_fl := List.mem_of_getElem? (i := 292) (by decide +kernel)
theorem se_12 : ∀ j, j < 6 → Cond.eq (.elem (zTv 12) (.int (Int32.ofNat j))) (.int ((zSb.getD 12 []).getD j 0)) ∈ lw_fl := fun j hj => by
  match j, hj with
  | 0, _ => exact se_12_0
  | 1, _ => exact se_12_1
  | 2, _ => exact se_12_2
  | 3, _ => exact se_12_3
  | 4, _ => exact se_12_4
  | 5, _ => exact se_12_5
  | j + 6, h => exact absurd h (by omega)
theorem se_13_0 : Cond.eq (.elem (zTv 13) (.int (Int32.ofNat 0))) (.int 109) ∈ lw_fl := List.mem_of_getElem? (i := 309) (by decide +kernel)
theorem se_13_1 : Cond.eq (.elem (zTv 13) (.int (Int32.ofNat 1))) (.int 105) ∈ lw_fl := List.mem_of_getElem? (i := 310) (by decide +kernel)
theorem se_13_2 : Cond.eq (.elem (zTv 13) (.int (Int32.ofNat 2))) (.int 110) ∈ lw_fl := List.mem_of_getElem? (i := 311) (by decide +kernel)
theorem se_13_3 : Cond.eq (.elem (zTv 13) (.int (Int32.ofNat 3))) (.int 117) ∈ lw_fl := List.mem_of_getElem? (i := 312) (by decide +kernel)
theorem se_13_4 : Cond.eq (.elem (zTv 13) (.int (Int32.ofNat 4))) (.int 116) ∈ lw_fl := List.mem_of_getElem? (i := 313) (by decide +kernel)
theorem se_13_5 : Cond.eq (.elem (zTv 13) (.int (Int32.ofNat 5))) (.int 101) ∈ lw_fl := List.mem_of_getElem? (i := 314) (by decide +kernel)
theorem se_13 : ∀ j, j < 6 → Cond.eq (.elem (zTv 13) (.int (Int32.ofNat j))) (.int ((zSb.getD 13 []).getD j 0)) ∈ lw_fl := fun j hj => by
  match j, hj with
  | 0, _ => exact se_13_0
  | 1, _ => exact se_13_1
  | 2, _ => exact se_13_2
  | 3, _ => exact se_13_3
  | 4, _ => exact se_13_4
  | 5, _ => exact se_13_5
  | j + 6, h => exact absurd h (by omega)
theorem se_14_0 : Cond.eq (.elem (zTv 14) (.int (Int32.ofNat 0))) (.int 119) ∈ lw_fl := List.mem_of_getElem? (i := 332) (by decide +kernel)
theorem se_14_1 : Cond.eq (.elem (zTv 14) (.int (Int32.ofNat 1))) (.int 97) ∈ lw_fl := List.mem_of_getElem? (i := 333) (by decide +kernel)
theorem se_14_2 : Cond.eq (.elem (zTv 14) (.int (Int32.ofNat 2))) (.int 121) ∈ lw_fl := List.mem_of_getElem? (i := 334) (by decide +kernel)
theorem se_14 : ∀ j, j < 3 → Cond.eq (.elem (zTv 14) (.int (Int32.ofNat j))) (.int ((zSb.getD 14 []).getD j 0)) ∈ lw_fl := fun j hj => by
  match j, hj with
  | 0, _ => exact se_14_0
  | 1, _ => exact se_14_1
  | 2, _ => exact se_14_2
  | j + 3, h => exact absurd h (by omega)
theorem se_15_0 : Cond.eq (.elem (zTv 15) (.int (Int32.ofNat 0))) (.int 115) ∈ lw_fl := List.mem_of_getElem? (i := 353) (by decide +kernel)
theorem se_15_1 : Cond.eq (.elem (zTv 15) (.int (Int32.ofNat 1))) (.int 108) ∈ lw_fl := List.mem_of_getElem? (i := 354) (by decide +kernel)
theorem se_15_2 : Cond.eq (.elem (zTv 15) (.int (Int32.ofNat 2))) (.int 111) ∈ lw_fl := List.mem_of_getElem? (i := 355) (by decide +kernel)
theorem se_15_3 : Cond.eq (.elem (zTv 15) (.int (Int32.ofNat 3))) (.int 112) ∈ lw_fl := List.mem_of_getElem? (i := 356) (by decide +kernel)
theorem se_15_4 : Cond.eq (.elem (zTv 15) (.int (Int32.ofNat 4))) (.int 101) ∈ lw_fl := List.mem_of_getElem? (i := 357) (by decide +kernel)
theorem se_15 : ∀ j, j < 5 → Cond.eq (.elem (zTv 15) (.int (Int32.ofNat j))) (.int ((zSb.getD 15 []).getD j 0)) ∈ lw_fl := fun j hj => by
  match j, hj with
  | 0, _ => exact se_15_0
  | 1, _ => exact se_15_1
  | 2, _ => exact se_15_2
  | 3, _ => exact se_15_3
  | 4, _ => exact se_15_4
  | j + 5, h => exact absurd h (by omega)
theorem se_16_0 : Cond.eq (.elem (zTv 16) (.int (Int32.ofNat 0))) (.int 103) ∈ lw_fl := List.mem_of_getElem? (i := 377) (by decide +kernel)
theorem se_16_1 : Cond.eq (.elem (zTv 16) (.int (Int32.ofNat 1))) (.int 114) ∈ lw_fl := List.mem_of_getElem? (i := 378) (by decide +kernel)
theorem se_16_2 : Cond.eq (.elem (zTv 16) (.int (Int32.ofNat 2))) (.int 111) ∈ lw_fl := List.mem_of_getElem? (i := 379) (by decide +kernel)
theorem se_16_3 : Cond.eq (.elem (zTv 16) (.int (Int32.ofNat 3))) (.int 119) ∈ lw_fl := List.mem_of_getElem? (i := 380) (by decide +kernel)
theorem se_16 : ∀ j, j < 4 → Cond.eq (.elem (zTv 16) (.int (Int32.ofNat j))) (.int ((zSb.getD 16 []).getD j 0)) ∈ lw_fl := fun j hj => by
  match j, hj with
  | 0, _ => exact se_16_0
  | 1, _ => exact se_16_1
  | 2, _ => exact se_16_2
  | 3, _ => exact se_16_3
  | j + 4, h => exact absurd h (by omega)
theorem se_17_0 : Cond.eq (.elem (zTv 17) (.int (Int32.ofNat 0))) (.int 115) ∈ lw_fl := List.mem_of_getElem? (i := 401) (by decide +kernel)
theorem se_17_1 : Cond.eq (.elem (zTv 17) (.int (Int32.ofNat 1))) (.int 97) ∈ lw_fl := List.mem_of_getElem? (i := 402) (by decide +kernel)
theorem se_17_2 : Cond.eq (.elem (zTv 17) (.int (Int32.ofNat 2))) (.int 121) ∈ lw_fl := List.mem_of_getElem? (i := 403) (by decide +kernel)
theorem se_17 : ∀ j, j < 3 → Cond.eq (.elem (zTv 17) (.int (Int32.ofNat j))) (.int ((zSb.getD 17 []).getD j 0)) ∈ lw_fl := fun j hj => by
  match j, hj with
  | 0, _ => exact se_17_0
  | 1, _ => exact se_17_1
  | 2, _ => exact se_17_2
  | j + 3, h => exact absurd h (by omega)
theorem se_18_0 : Cond.eq (.elem (zTv 18) (.int (Int32.ofNat 0))) (.int 105) ∈ lw_fl := List.mem_of_getElem? (i := 425) (by decide +kernel)
theorem se_18_1 : Cond.eq (.elem (zTv 18) (.int (Int32.ofNat 1))) (.int 102) ∈ lw_fl := List.mem_of_getElem? (i := 426) (by decide +kernel)
theorem se_18 : ∀ j, j < 2 → Cond.eq (.elem (zTv 18) (.int (Int32.ofNat j))) (.int ((zSb.getD 18 []).getD j 0)) ∈ lw_fl := fun j hj => by
  match j, hj with
  | 0, _ => exact se_18_0
  | 1, _ => exact se_18_1
  | j + 2, h => exact absurd h (by omega)
theorem se_19_0 : Cond.eq (.elem (zTv 19) (.int (Int32.ofNat 0))) (.int 97) ∈ lw_fl := List.mem_of_getElem? (i := 449) (by decide +kernel)
theorem se_19_1 : Cond.eq (.elem (zTv 19) (.int (Int32.ofNat 1))) (.int 110) ∈ lw_fl := List.mem_of_getElem? (i := 450) (by decide +kernel)
theorem se_19_2 : Cond.eq (.elem (zTv 19) (.int (Int32.ofNat 2))) (.int 100) ∈ lw_fl := List.mem_of_getElem? (i := 451) (by decide +kernel)
theorem se_19 : ∀ j, j < 3 → Cond.eq (.elem (zTv 19) (.int (Int32.ofNat j))) (.int ((zSb.getD 19 []).getD j 0)) ∈ lw_fl := fun j hj => by
  match j, hj with
  | 0, _ => exact se_19_0
  | 1, _ => exact se_19_1
  | 2, _ => exact se_19_2
  | j + 3, h => exact absurd h (by omega)
theorem st_el : ∀ i, i < 20 → ∀ j, j < zSl.getD i 0 → Cond.eq (.elem (zTv i) (.int (Int32.ofNat j))) (.int ((zSb.getD i []).getD j 0)) ∈ lw_fl := fun i hi => by
  match i, hi with
  | 0, _ => exact se_0
  | 1, _ => exact se_1
  | 2, _ => exact se_2
  | 3, _ => exact se_3
  | 4, _ => exact se_4
  | 5, _ => exact se_5
  | 6, _ => exact se_6
  | 7, _ => exact se_7
  | 8, _ => exact se_8
  | 9, _ => exact se_9
  | 10, _ => exact se_10
  | 11, _ => exact se_11
  | 12, _ => exact se_12
  | 13, _ => exact se_13
  | 14, _ => exact se_14
  | 15, _ => exact se_15
  | 16, _ => exact se_16
  | 17, _ => exact se_17
  | 18, _ => exact se_18
  | 19, _ => exact se_19
  | i + 20, h => exact absurd h (by omega)
theorem sn_0_1 : Cond.not (Cond.eq (zTm 0) (zTm 1)) ∈ lw_fl := List.mem_of_getElem? (i := 126) (by decide +kernel)
theorem sn_0_2 : Cond.not (Cond.eq (zTm 0) (zTm 2)) ∈ lw_fl := List.mem_of_getElem? (i := 135) (by decide +kernel)
theorem sn_0_3 : Cond.not (Cond.eq (zTm 0) (zTm 3)) ∈ lw_fl := List.mem_of_getElem? (i := 147) (by decide +kernel)
theorem sn_0_4 : Cond.not (Cond.eq (zTm 0) (zTm 4)) ∈ lw_fl := List.mem_of_getElem? (i := 159) (by decide +kernel)
theorem sn_0_5 : Cond.not (Cond.eq (zTm 0) (zTm 5)) ∈ lw_fl := List.mem_of_getElem? (i := 171) (by decide +kernel)
theorem sn_0_6 : Cond.not (Cond.eq (zTm 0) (zTm 6)) ∈ lw_fl := List.mem_of_getElem? (i := 187) (by decide +kernel)
theorem sn_0_7 : Cond.not (Cond.eq (zTm 0) (zTm 7)) ∈ lw_fl := List.mem_of_getElem? (i := 204) (by decide +kernel)
theorem sn_0_8 : Cond.not (Cond.eq (zTm 0) (zTm 8)) ∈ lw_fl := List.mem_of_getElem? (i := 219) (by decide +kernel)
theorem sn_0_9 : Cond.not (Cond.eq (zTm 0) (zTm 9)) ∈ lw_fl := List.mem_of_getElem? (i := 237) (by decide +kernel)
theorem sn_0_10 : Cond.not (Cond.eq (zTm 0) (zTm 10)) ∈ lw_fl := List.mem_of_getElem? (i := 254) (by decide +kernel)
theorem sn_0_11 : Cond.not (Cond.eq (zTm 0) (zTm 11)) ∈ lw_fl := List.mem_of_getElem? (i := 272) (by decide +kernel)
theorem sn_0_12 : Cond.not (Cond.eq (zTm 0) (zTm 12)) ∈ lw_fl := List.mem_of_getElem? (i := 293) (by decide +kernel)
theorem sn_0_13 : Cond.not (Cond.eq (zTm 0) (zTm 13)) ∈ lw_fl := List.mem_of_getElem? (i := 315) (by decide +kernel)
theorem sn_0_14 : Cond.not (Cond.eq (zTm 0) (zTm 14)) ∈ lw_fl := List.mem_of_getElem? (i := 335) (by decide +kernel)
theorem sn_0_15 : Cond.not (Cond.eq (zTm 0) (zTm 15)) ∈ lw_fl := List.mem_of_getElem? (i := 358) (by decide +kernel)
theorem sn_0_16 : Cond.not (Cond.eq (zTm 0) (zTm 16)) ∈ lw_fl := List.mem_of_getElem? (i := 381) (by decide +kernel)
theorem sn_0_17 : Cond.not (Cond.eq (zTm 0) (zTm 17)) ∈ lw_fl := List.mem_of_getElem? (i := 404) (by decide +kernel)
theorem sn_0_18 : Cond.not (Cond.eq (zTm 0) (zTm 18)) ∈ lw_fl := List.mem_of_getElem? (i := 427) (by decide +kernel)
theorem sn_0_19 : Cond.not (Cond.eq (zTm 0) (zTm 19)) ∈ lw_fl := List.mem_of_getElem? (i := 452) (by decide +kernel)
theorem sn_1_2 : Cond.not (Cond.eq (zTm 1) (zTm 2)) ∈ lw_fl := List.mem_of_getElem? (i := 136) (by decide +kernel)
theorem sn_1_3 : Cond.not (Cond.eq (zTm 1) (zTm 3)) ∈ lw_fl := List.mem_of_getElem? (i := 148) (by decide +kernel)
theorem sn_1_4 : Cond.not (Cond.eq (zTm 1) (zTm 4)) ∈ lw_fl := List.mem_of_getElem? (i := 160) (by decide +kernel)
theorem sn_1_5 : Cond.not (Cond.eq (zTm 1) (zTm 5)) ∈ lw_fl := List.mem_of_getElem? (i := 172) (by decide +kernel)
theorem sn_1_6 : Cond.not (Cond.eq (zTm 1) (zTm 6)) ∈ lw_fl := List.mem_of_getElem? (i := 188) (by decide +kernel)
theorem sn_1_7 : Cond.not (Cond.eq (zTm 1) (zTm 7)) ∈ lw_fl := List.mem_of_getElem? (i := 205) (by decide +kernel)
theorem sn_1_8 : Cond.not (Cond.eq (zTm 1) (zTm 8)) ∈ lw_fl := List.mem_of_getElem? (i := 220) (by decide +kernel)
theorem sn_1_9 : Cond.not (Cond.eq (zTm 1) (zTm 9)) ∈ lw_fl := List.mem_of_getElem? (i := 238) (by decide +kernel)
theorem sn_1_10 : Cond.not (Cond.eq (zTm 1) (zTm 10)) ∈ lw_fl := List.mem_of_getElem? (i := 255) (by decide +kernel)
theorem sn_1_11 : Cond.not (Cond.eq (zTm 1) (zTm 11)) ∈ lw_fl := List.mem_of_getElem? (i := 273) (by decide +kernel)
theorem sn_1_12 : Cond.not (Cond.eq (zTm 1) (zTm 12)) ∈ lw_fl := List.mem_of_getElem? (i := 294) (by decide +kernel)
theorem sn_1_13 : Cond.not (Cond.eq (zTm 1) (zTm 13)) ∈ lw_fl := List.mem_of_getElem? (i := 316) (by decide +kernel)
theorem sn_1_14 : Cond.not (Cond.eq (zTm 1) (zTm 14)) ∈ lw_fl := List.mem_of_getElem? (i := 336) (by decide +kernel)
theorem sn_1_15 : Cond.not (Cond.eq (zTm 1) (zTm 15)) ∈ lw_fl := List.mem_of_getElem? (i := 359) (by decide +kernel)
theorem sn_1_16 : Cond.not (Cond.eq (zTm 1) (zTm 16)) ∈ lw_fl := List.mem_of_getElem? (i := 382) (by decide +kernel)
theorem sn_1_17 : Cond.not (Cond.eq (zTm 1) (zTm 17)) ∈ lw_fl := List.mem_of_getElem? (i := 405) (by decide +kernel)
theorem sn_1_18 : Cond.not (Cond.eq (zTm 1) (zTm 18)) ∈ lw_fl := List.mem_of_getElem? (i := 428) (by decide +kernel)
theorem sn_1_19 : Cond.not (Cond.eq (zTm 1) (zTm 19)) ∈ lw_fl := List.mem_of_getElem? (i := 453) (by decide +kernel)
theorem sn_2_3 : Cond.not (Cond.eq (zTm 2) (zTm 3)) ∈ lw_fl := List.mem_of_getElem? (i := 149) (by decide +kernel)
theorem sn_2_4 : Cond.not (Cond.eq (zTm 2) (zTm 4)) ∈ lw_fl := List.mem_of_getElem? (i := 161) (by decide +kernel)
theorem sn_2_5 : Cond.not (Cond.eq (zTm 2) (zTm 5)) ∈ lw_fl := List.mem_of_getElem? (i := 173) (by decide +kernel)
theorem sn_2_6 : Cond.not (Cond.eq (zTm 2) (zTm 6)) ∈ lw_fl := List.mem_of_getElem? (i := 189) (by decide +kernel)
theorem sn_2_7 : Cond.not (Cond.eq (zTm 2) (zTm 7)) ∈ lw_fl := List.mem_of_getElem? (i := 206) (by decide +kernel)
theorem sn_2_8 : Cond.not (Cond.eq (zTm 2) (zTm 8)) ∈ lw_fl := List.mem_of_getElem? (i := 221) (by decide +kernel)
theorem sn_2_9 : Cond.not (Cond.eq (zTm 2) (zTm 9)) ∈ lw_fl := List.mem_of_getElem? (i := 239) (by decide +kernel)
theorem sn_2_10 : Cond.not (Cond.eq (zTm 2) (zTm 10)) ∈ lw_fl := List.mem_of_getElem? (i := 256) (by decide +kernel)
theorem sn_2_11 : Cond.not (Cond.eq (zTm 2) (zTm 11)) ∈ lw_fl := List.mem_of_getElem? (i := 274) (by decide +kernel)
theorem sn_2_12 : Cond.not (Cond.eq (zTm 2) (zTm 12)) ∈ lw_fl := List.mem_of_getElem? (i := 295) (by decide +kernel)
theorem sn_2_13 : Cond.not (Cond.eq (zTm 2) (zTm 13)) ∈ lw_fl := List.mem_of_getElem? (i := 317) (by decide +kernel)
theorem sn_2_14 : Cond.not (Cond.eq (zTm 2) (zTm 14)) ∈ lw_fl := List.mem_of_getElem? (i := 337) (by decide +kernel)
theorem sn_2_15 : Cond.not (Cond.eq (zTm 2) (zTm 15)) ∈ lw_fl := List.mem_of_getElem? (i := 360) (by decide +kernel)
theorem sn_2_16 : Cond.not (Cond.eq (zTm 2) (zTm 16)) ∈ lw_fl := List.mem_of_getElem? (i := 383) (by decide +kernel)
theorem sn_2_17 : Cond.not (Cond.eq (zTm 2) (zTm 17)) ∈ lw_fl := List.mem_of_getElem? (i := 406) (by decide +kernel)
theorem sn_2_18 : Cond.not (Cond.eq (zTm 2) (zTm 18)) ∈ lw_fl := List.mem_of_getElem? (i := 429) (by decide +kernel)
theorem sn_2_19 : Cond.not (Cond.eq (zTm 2) (zTm 19)) ∈ lw_fl := List.mem_of_getElem? (i := 454) (by decide +kernel)
theorem sn_3_4 : Cond.not (Cond.eq (zTm 3) (zTm 4)) ∈ lw_fl := List.mem_of_getElem? (i := 162) (by decide +kernel)
theorem sn_3_5 : Cond.not (Cond.eq (zTm 3) (zTm 5)) ∈ lw_fl := List.mem_of_getElem? (i := 174) (by decide +kernel)
theorem sn_3_6 : Cond.not (Cond.eq (zTm 3) (zTm 6)) ∈ lw_fl := List.mem_of_getElem? (i := 190) (by decide +kernel)
theorem sn_3_7 : Cond.not (Cond.eq (zTm 3) (zTm 7)) ∈ lw_fl := List.mem_of_getElem? (i := 207) (by decide +kernel)
theorem sn_3_8 : Cond.not (Cond.eq (zTm 3) (zTm 8)) ∈ lw_fl := List.mem_of_getElem? (i := 222) (by decide +kernel)
theorem sn_3_9 : Cond.not (Cond.eq (zTm 3) (zTm 9)) ∈ lw_fl := List.mem_of_getElem? (i := 240) (by decide +kernel)
theorem sn_3_10 : Cond.not (Cond.eq (zTm 3) (zTm 10)) ∈ lw_fl := List.mem_of_getElem? (i := 257) (by decide +kernel)
theorem sn_3_11 : Cond.not (Cond.eq (zTm 3) (zTm 11)) ∈ lw_fl := List.mem_of_getElem? (i := 275) (by decide +kernel)
theorem sn_3_12 : Cond.not (Cond.eq (zTm 3) (zTm 12)) ∈ lw_fl := List.mem_of_getElem? (i := 296) (by decide +kernel)
theorem sn_3_13 : Cond.not (Cond.eq (zTm 3) (zTm 13)) ∈ lw_fl := List.mem_of_getElem? (i := 318) (by decide +kernel)
theorem sn_3_14 : Cond.not (Cond.eq (zTm 3) (zTm 14)) ∈ lw_fl := List.mem_of_getElem? (i := 338) (by decide +kernel)
theorem sn_3_15 : Cond.not (Cond.eq (zTm 3) (zTm 15)) ∈ lw_fl := List.mem_of_getElem? (i := 361) (by decide +kernel)
theorem sn_3_16 : Cond.not (Cond.eq (zTm 3) (zTm 16)) ∈ lw_fl := List.mem_of_getElem? (i := 384) (by decide +kernel)
theorem sn_3_17 : Cond.not (Cond.eq (zTm 3) (zTm 17)) ∈ lw_fl := List.mem_of_getElem? (i := 407) (by decide +kernel)
theorem sn_3_18 : Cond.not (Cond.eq (zTm 3) (zTm 18)) ∈ lw_fl := List.mem_of_getElem? (i := 430) (by decide +kernel)
theorem sn_3_19 : Cond.not (Cond.eq (zTm 3) (zTm 19)) ∈ lw_fl := List.mem_of_getElem? (i := 455) (by decide +kernel)
theorem sn_4_5 : Cond.not (Cond.eq (zTm 4) (zTm 5)) ∈ lw_fl := List.mem_of_getElem? (i := 175) (by decide +kernel)
theorem sn_4_6 : Cond.not (Cond.eq (zTm 4) (zTm 6)) ∈ lw_fl := List.mem_of_getElem? (i := 191) (by decide +kernel)
theorem sn_4_7 : Cond.not (Cond.eq (zTm 4) (zTm 7)) ∈ lw_fl := List.mem_of_getElem? (i := 208) (by decide +kernel)
theorem sn_4_8 : Cond.not (Cond.eq (zTm 4) (zTm 8)) ∈ lw_fl := List.mem_of_getElem? (i := 223) (by decide +kernel)
theorem sn_4_9 : Cond.not (Cond.eq (zTm 4) (zTm 9)) ∈ lw_fl := List.mem_of_getElem? (i := 241) (by decide +kernel)
theorem sn_4_10 : Cond.not (Cond.eq (zTm 4) (zTm 10)) ∈ lw_fl := List.mem_of_getElem? (i := 258) (by decide +kernel)
theorem sn_4_11 : Cond.not (Cond.eq (zTm 4) (zTm 11)) ∈ lw_fl := List.mem_of_getElem? (i := 276) (by decide +kernel)
theorem sn_4_12 : Cond.not (Cond.eq (zTm 4) (zTm 12)) ∈ lw_fl := List.mem_of_getElem? (i := 297) (by decide +kernel)
theorem sn_4_13 : Cond.not (Cond.eq (zTm 4) (zTm 13)) ∈ lw_fl := List.mem_of_getElem? (i := 319) (by decide +kernel)
theorem sn_4_14 : Cond.not (Cond.eq (zTm 4) (zTm 14)) ∈ lw_fl := List.mem_of_getElem? (i := 339) (by decide +kernel)
theorem sn_4_15 : Cond.not (Cond.eq (zTm 4) (zTm 15)) ∈ lw_fl := List.mem_of_getElem? (i := 362) (by decide +kernel)
theorem sn_4_16 : Cond.not (Cond.eq (zTm 4) (zTm 16)) ∈ lw_fl := List.mem_of_getElem? (i := 385) (by decide +kernel)
theorem sn_4_17 : Cond.not (Cond.eq (zTm 4) (zTm 17)) ∈ lw_fl := List.mem_of_getElem? (i := 408) (by decide +kernel)
theorem sn_4_18 : Cond.not (Cond.eq (zTm 4) (zTm 18)) ∈ lw_fl := List.mem_of_getElem? (i := 431) (by decide +kernel)
theorem sn_4_19 : Cond.not (Cond.eq (zTm 4) (zTm 19)) ∈ lw_fl := List.mem_of_getElem? (i := 456) (by decide +kernel)
theorem sn_5_6 : Cond.not (Cond.eq (zTm 5) (zTm 6)) ∈ lw_fl := List.mem_of_getElem? (i := 192) (by decide +kernel)
theorem sn_5_7 : Cond.not (Cond.eq (zTm 5) (zTm 7)) ∈ lw_fl := List.mem_of_getElem? (i := 209) (by decide +kernel)
theorem sn_5_8 : Cond.not (Cond.eq (zTm 5) (zTm 8)) ∈ lw_fl := List.mem_of_getElem? (i := 224) (by decide +kernel)
theorem sn_5_9 : Cond.not (Cond.eq (zTm 5) (zTm 9)) ∈ lw_fl := List.mem_of_getElem? (i := 242) (by decide +kernel)
theorem sn_5_10 : Cond.not (Cond.eq (zTm 5) (zTm 10)) ∈ lw_fl := List.mem_of_getElem? (i := 259) (by decide +kernel)
theorem sn_5_11 : Cond.not (Cond.eq (zTm 5) (zTm 11)) ∈ lw_fl := List.mem_of_getElem? (i := 277) (by decide +kernel)
theorem sn_5_12 : Cond.not (Cond.eq (zTm 5) (zTm 12)) ∈ lw_fl := List.mem_of_getElem? (i := 298) (by decide +kernel)
theorem sn_5_13 : Cond.not (Cond.eq (zTm 5) (zTm 13)) ∈ lw_fl := List.mem_of_getElem? (i := 320) (by decide +kernel)
theorem sn_5_14 : Cond.not (Cond.eq (zTm 5) (zTm 14)) ∈ lw_fl := List.mem_of_getElem? (i := 340) (by decide +kernel)
theorem sn_5_15 : Cond.not (Cond.eq (zTm 5) (zTm 15)) ∈ lw_fl := List.mem_of_getElem? (i := 363) (by decide +kernel)
theorem sn_5_16 : Cond.not (Cond.eq (zTm 5) (zTm 16)) ∈ lw_fl := List.mem_of_getElem? (i := 386) (by decide +kernel)
theorem sn_5_17 : Cond.not (Cond.eq (zTm 5) (zTm 17)) ∈ lw_fl := List.mem_of_getElem? (i := 409) (by decide +kernel)
theorem sn_5_18 : Cond.not (Cond.eq (zTm 5) (zTm 18)) ∈ lw_fl := List.mem_of_getElem? (i := 432) (by decide +kernel)
theorem sn_5_19 : Cond.not (Cond.eq (zTm 5) (zTm 19)) ∈ lw_fl := List.mem_of_getElem? (i := 457) (by decide +kernel)
theorem sn_6_7 : Cond.not (Cond.eq (zTm 6) (zTm 7)) ∈ lw_fl := List.mem_of_getElem? (i := 210) (by decide +kernel)
theorem sn_6_8 : Cond.not (Cond.eq (zTm 6) (zTm 8)) ∈ lw_fl := List.mem_of_getElem? (i := 225) (by decide +kernel)
theorem sn_6_9 : Cond.not (Cond.eq (zTm 6) (zTm 9)) ∈ lw_fl := List.mem_of_getElem? (i := 243) (by decide +kernel)
theorem sn_6_10 : Cond.not (Cond.eq (zTm 6) (zTm 10)) ∈ lw_fl := List.mem_of_getElem? (i := 260) (by decide +kernel)
theorem sn_6_11 : Cond.not (Cond.eq (zTm 6) (zTm 11)) ∈ lw_fl := List.mem_of_getElem? (i := 278) (by decide +kernel)
theorem sn_6_12 : Cond.not (Cond.eq (zTm 6) (zTm 12)) ∈ lw_fl := List.mem_of_getElem? (i := 299) (by decide +kernel)
theorem sn_6_13 : Cond.not (Cond.eq (zTm 6) (zTm 13)) ∈ lw_fl := List.mem_of_getElem? (i := 321) (by decide +kernel)
theorem sn_6_14 : Cond.not (Cond.eq (zTm 6) (zTm 14)) ∈ lw_fl := List.mem_of_getElem? (i := 341) (by decide +kernel)
theorem sn_6_15 : Cond.not (Cond.eq (zTm 6) (zTm 15)) ∈ lw_fl := List.mem_of_getElem? (i := 364) (by decide +kernel)
theorem sn_6_16 : Cond.not (Cond.eq (zTm 6) (zTm 16)) ∈ lw_fl := List.mem_of_getElem? (i := 387) (by decide +kernel)
theorem sn_6_17 : Cond.not (Cond.eq (zTm 6) (zTm 17)) ∈ lw_fl := List.mem_of_getElem? (i := 410) (by decide +kernel)
theorem sn_6_18 : Cond.not (Cond.eq (zTm 6) (zTm 18)) ∈ lw_fl := List.mem_of_getElem? (i := 433) (by decide +kernel)
theorem sn_6_19 : Cond.not (Cond.eq (zTm 6) (zTm 19)) ∈ lw_fl := List.mem_of_getElem? (i := 458) (by decide +kernel)
theorem sn_7_8 : Cond.not (Cond.eq (zTm 7) (zTm 8)) ∈ lw_fl := List.mem_of_getElem? (i := 226) (by decide +kernel)
theorem sn_7_9 : Cond.not (Cond.eq (zTm 7) (zTm 9)) ∈ lw_fl := List.mem_of_getElem? (i := 244) (by decide +kernel)
theorem sn_7_10 : Cond.not (Cond.eq (zTm 7) (zTm 10)) ∈ lw_fl := List.mem_of_getElem? (i := 261) (by decide +kernel)
theorem sn_7_11 : Cond.not (Cond.eq (zTm 7) (zTm 11)) ∈ lw_fl := List.mem_of_getElem? (i := 279) (by decide +kernel)
theorem sn_7_12 : Cond.not (Cond.eq (zTm 7) (zTm 12)) ∈ lw_fl := List.mem_of_getElem? (i := 300) (by decide +kernel)
theorem sn_7_13 : Cond.not (Cond.eq (zTm 7) (zTm 13)) ∈ lw_fl := List.mem_of_getElem? (i := 322) (by decide +kernel)
theorem sn_7_14 : Cond.not (Cond.eq (zTm 7) (zTm 14)) ∈ lw_fl := List.mem_of_getElem? (i := 342) (by decide +kernel)
theorem sn_7_15 : Cond.not (Cond.eq (zTm 7) (zTm 15)) ∈ lw_fl := List.mem_of_getElem? (i := 365) (by decide +kernel)
theorem sn_7_16 : Cond.not (Cond.eq (zTm 7) (zTm 16)) ∈ lw_fl := List.mem_of_getElem? (i := 388) (by decide +kernel)
theorem sn_7_17 : Cond.not (Cond.eq (zTm 7) (zTm 17)) ∈ lw_fl := List.mem_of_getElem? (i := 411) (by decide +kernel)
theorem sn_7_18 : Cond.not (Cond.eq (zTm 7) (zTm 18)) ∈ lw_fl := List.mem_of_getElem? (i := 434) (by decide +kernel)
theorem sn_7_19 : Cond.not (Cond.eq (zTm 7) (zTm 19)) ∈ lw_fl := List.mem_of_getElem? (i := 459) (by decide +kernel)
theorem sn_8_9 : Cond.not (Cond.eq (zTm 8) (zTm 9)) ∈ lw_fl := List.mem_of_getElem? (i := 245) (by decide +kernel)
theorem sn_8_10 : Cond.not (Cond.eq (zTm 8) (zTm 10)) ∈ lw_fl := List.mem_of_getElem? (i := 262) (by decide +kernel)
theorem sn_8_11 : Cond.not (Cond.eq (zTm 8) (zTm 11)) ∈ lw_fl := List.mem_of_getElem? (i := 280) (by decide +kernel)
theorem sn_8_12 : Cond.not (Cond.eq (zTm 8) (zTm 12)) ∈ lw_fl := List.mem_of_getElem? (i := 301) (by decide +kernel)
theorem sn_8_13 : Cond.not (Cond.eq (zTm 8) (zTm 13)) ∈ lw_fl := List.mem_of_getElem? (i := 323) (by decide +kernel)
theorem sn_8_14 : Cond.not (Cond.eq (zTm 8) (zTm 14)) ∈ lw_fl := List.mem_of_getElem? (i := 343) (by decide +kernel)
theorem sn_8_15 : Cond.not (Cond.eq (zTm 8) (zTm 15)) ∈ lw_fl := List.mem_of_getElem? (i := 366) (by decide +kernel)
theorem sn_8_16 : Cond.not (Cond.eq (zTm 8) (zTm 16)) ∈ lw_fl := List.mem_of_getElem? (i := 389) (by decide +kernel)
theorem sn_8_17 : Cond.not (Cond.eq (zTm 8) (zTm 17)) ∈ lw_fl := List.mem_of_getElem? (i := 412) (by decide +kernel)
theorem sn_8_18 : Cond.not (Cond.eq (zTm 8) (zTm 18)) ∈ lw_fl := List.mem_of_getElem? (i := 435) (by decide +kernel)
theorem sn_8_19 : Cond.not (Cond.eq (zTm 8) (zTm 19)) ∈ lw_fl := List.mem_of_getElem? (i := 460) (by decide +kernel)
theorem sn_9_10 : Cond.not (Cond.eq (zTm 9) (zTm 10)) ∈ lw_fl := List.mem_of_getElem? (i := 263) (by decide +kernel)
theorem sn_9_11 : Cond.not (Cond.eq (zTm 9) (zTm 11)) ∈ lw_fl := List.mem_of_getElem? (i := 281) (by decide +kernel)
theorem sn_9_12 : Cond.not (Cond.eq (zTm 9) (zTm 12)) ∈ lw_fl := List.mem_of_getElem? (i := 302) (by decide +kernel)
theorem sn_9_13 : Cond.not (Cond.eq (zTm 9) (zTm 13)) ∈ lw_fl := List.mem_of_getElem? (i := 324) (by decide +kernel)
theorem sn_9_14 : Cond.not (Cond.eq (zTm 9) (zTm 14)) ∈ lw_fl := List.mem_of_getElem? (i := 344) (by decide +kernel)
theorem sn_9_15 : Cond.not (Cond.eq (zTm 9) (zTm 15)) ∈ lw_fl := List.mem_of_getElem? (i := 367) (by decide +kernel)
theorem sn_9_16 : Cond.not (Cond.eq (zTm 9) (zTm 16)) ∈ lw_fl := List.mem_of_getElem? (i := 390) (by decide +kernel)
theorem sn_9_17 : Cond.not (Cond.eq (zTm 9) (zTm 17)) ∈ lw_fl := List.mem_of_getElem? (i := 413) (by decide +kernel)
theorem sn_9_18 : Cond.not (Cond.eq (zTm 9) (zTm 18)) ∈ lw_fl := List.mem_of_getElem? (i := 436) (by decide +kernel)
theorem sn_9_19 : Cond.not (Cond.eq (zTm 9) (zTm 19)) ∈ lw_fl := List.mem_of_getElem? (i := 461) (by decide +kernel)
theorem sn_10_11 : Cond.not (Cond.eq (zTm 10) (zTm 11)) ∈ lw_fl := List.mem_of_getElem? (i := 282) (by decide +kernel)
theorem sn_10_12 : Cond.not (Cond.eq (zTm 10) (zTm 12)) ∈ lw_fl := List.mem_of_getElem? (i := 303) (by decide +kernel)
theorem sn_10_13 : Cond.not (Cond.eq (zTm 10) (zTm 13)) ∈ lw_fl := List.mem_of_getElem? (i := 325) (by decide +kernel)
theorem sn_10_14 : Cond.not (Cond.eq (zTm 10) (zTm 14)) ∈ lw_fl := List.mem_of_getElem? (i := 345) (by decide +kernel)
theorem sn_10_15 : Cond.not (Cond.eq (zTm 10) (zTm 15)) ∈ lw_fl := List.mem_of_getElem? (i := 368) (by decide +kernel)
theorem sn_10_16 : Cond.not (Cond.eq (zTm 10) (zTm 16)) ∈ lw_fl := List.mem_of_getElem? (i := 391) (by decide +kernel)
theorem sn_10_17 : Cond.not (Cond.eq (zTm 10) (zTm 17)) ∈ lw_fl := List.mem_of_getElem? (i := 414) (by decide +kernel)
theorem sn_10_18 : Cond.not (Cond.eq (zTm 10) (zTm 18)) ∈ lw_fl := List.mem_of_getElem? (i := 437) (by decide +kernel)
theorem sn_10_19 : Cond.not (Cond.eq (zTm 10) (zTm 19)) ∈ lw_fl := List.mem_of_getElem? (i := 462) (by decide +kernel)
theorem sn_11_12 : Cond.not (Cond.eq (zTm 11) (zTm 12)) ∈ lw_fl := List.mem_of_getElem? (i := 304) (by decide +kernel)
theorem sn_11_13 : Cond.not (Cond.eq (zTm 11) (zTm 13)) ∈ lw_fl := List.mem_of_getElem? (i := 326) (by decide +kernel)
theorem sn_11_14 : Cond.not (Cond.eq (zTm 11) (zTm 14)) ∈ lw_fl := List.mem_of_getElem? (i := 346) (by decide +kernel)
theorem sn_11_15 : Cond.not (Cond.eq (zTm 11) (zTm 15)) ∈ lw_fl := List.mem_of_getElem? (i := 369) (by decide +kernel)
theorem sn_11_16 : Cond.not (Cond.eq (zTm 11) (zTm 16)) ∈ lw_fl := List.mem_of_getElem? (i := 392) (by decide +kernel)
theorem sn_11_17 : Cond.not (Cond.eq (zTm 11) (zTm 17)) ∈ lw_fl := List.mem_of_getElem? (i := 415) (by decide +kernel)
theorem sn_11_18 : Cond.not (Cond.eq (zTm 11) (zTm 18)) ∈ lw_fl := List.mem_of_getElem? (i := 438) (by decide +kernel)
theorem sn_11_19 : Cond.not (Cond.eq (zTm 11) (zTm 19)) ∈ lw_fl := List.mem_of_getElem? (i := 463) (by decide +kernel)
theorem sn_12_13 : Cond.not (Cond.eq (zTm 12) (zTm 13)) ∈ lw_fl := List.mem_of_getElem? (i := 327) (by decide +kernel)
theorem sn_12_14 : Cond.not (Cond.eq (zTm 12) (zTm 14)) ∈ lw_fl := List.mem_of_getElem? (i := 347) (by decide +kernel)
theorem sn_12_15 : Cond.not (Cond.eq (zTm 12) (zTm 15)) ∈ lw_fl := List.mem_of_getElem? (i := 370) (by decide +kernel)
theorem sn_12_16 : Cond.not (Cond.eq (zTm 12) (zTm 16)) ∈ lw_fl := List.mem_of_getElem? (i := 393) (by decide +kernel)
theorem sn_12_17 : Cond.not (Cond.eq (zTm 12) (zTm 17)) ∈ lw_fl := List.mem_of_getElem? (i := 416) (by decide +kernel)
theorem sn_12_18 : Cond.not (Cond.eq (zTm 12) (zTm 18)) ∈ lw_fl := List.mem_of_getElem? (i := 439) (by decide +kernel)
theorem sn_12_19 : Cond.not (Cond.eq (zTm 12) (zTm 19)) ∈ lw_fl := List.mem_of_getElem? (i := 464) (by decide +kernel)
theorem sn_13_14 : Cond.not (Cond.eq (zTm 13) (zTm 14)) ∈ lw_fl := List.mem_of_getElem? (i := 348) (by decide +kernel)
theorem sn_13_15 : Cond.not (Cond.eq (zTm 13) (zTm 15)) ∈ lw_fl := List.mem_of_getElem? (i := 371) (by decide +kernel)
theorem sn_13_16 : Cond.not (Cond.eq (zTm 13) (zTm 16)) ∈ lw_fl := List.mem_of_getElem? (i := 394) (by decide +kernel)
theorem sn_13_17 : Cond.not (Cond.eq (zTm 13) (zTm 17)) ∈ lw_fl := List.mem_of_getElem? (i := 417) (by decide +kernel)
theorem sn_13_18 : Cond.not (Cond.eq (zTm 13) (zTm 18)) ∈ lw_fl := List.mem_of_getElem? (i := 440) (by decide +kernel)
theorem sn_13_19 : Cond.not (Cond.eq (zTm 13) (zTm 19)) ∈ lw_fl := List.mem_of_getElem? (i := 465) (by decide +kernel)
theorem sn_14_15 : Cond.not (Cond.eq (zTm 14) (zTm 15)) ∈ lw_fl := List.mem_of_getElem? (i := 372) (by decide +kernel)
theorem sn_14_16 : Cond.not (Cond.eq (zTm 14) (zTm 16)) ∈ lw_fl := List.mem_of_getElem? (i := 395) (by decide +kernel)
theorem sn_14_17 : Cond.not (Cond.eq (zTm 14) (zTm 17)) ∈ lw_fl := List.mem_of_getElem? (i := 418) (by decide +kernel)
theorem sn_14_18 : Cond.not (Cond.eq (zTm 14) (zTm 18)) ∈ lw_fl := List.mem_of_getElem? (i := 441) (by decide +kernel)
theorem sn_14_19 : Cond.not (Cond.eq (zTm 14) (zTm 19)) ∈ lw_fl := List.mem_of_getElem? (i := 466) (by decide +kernel)
theorem sn_15_16 : Cond.not (Cond.eq (zTm 15) (zTm 16)) ∈ lw_fl := List.mem_of_getElem? (i := 396) (by decide +kernel)
theorem sn_15_17 : Cond.not (Cond.eq (zTm 15) (zTm 17)) ∈ lw_fl := List.mem_of_getElem? (i := 419) (by decide +kernel)
theorem sn_15_18 : Cond.not (Cond.eq (zTm 15) (zTm 18)) ∈ lw_fl := List.mem_of_getElem? (i := 442) (by decide +kernel)
theorem sn_15_19 : Cond.not (Cond.eq (zTm 15) (zTm 19)) ∈ lw_fl := List.mem_of_getElem? (i := 467) (by decide +kernel)
theorem sn_16_17 : Cond.not (Cond.eq (zTm 16) (zTm 17)) ∈ lw_fl := List.mem_of_getElem? (i := 420) (by decide +kernel)
theorem sn_16_18 : Cond.not (Cond.eq (zTm 16) (zTm 18)) ∈ lw_fl := List.mem_of_getElem? (i := 443) (by decide +kernel)
theorem sn_16_19 : Cond.not (Cond.eq (zTm 16) (zTm 19)) ∈ lw_fl := List.mem_of_getElem? (i := 468) (by decide +kernel)
theorem sn_17_18 : Cond.not (Cond.eq (zTm 17) (zTm 18)) ∈ lw_fl := List.mem_of_getElem? (i := 444) (by decide +kernel)
theorem sn_17_19 : Cond.not (Cond.eq (zTm 17) (zTm 19)) ∈ lw_fl := List.mem_of_getElem? (i := 469) (by decide +kernel)
theorem sn_18_19 : Cond.not (Cond.eq (zTm 18) (zTm 19)) ∈ lw_fl := List.mem_of_getElem? (i := 470) (by decide +kernel)
theorem sn_0 : ∀ j, j < 20 → ¬ 0 = j → Cond.not (Cond.eq (zTm 0) (zTm j)) ∈ lw_fl ∨ Cond.not (Cond.eq (zTm j) (zTm 0)) ∈ lw_fl := fun j hj hij => by
  match j, hj, hij with
  | 0, _, h => exact absurd rfl h
  | 1, _, _ => exact Or.inl sn_0_1
  | 2, _, _ => exact Or.inl sn_0_2
  | 3, _, _ => exact Or.inl sn_0_3
  | 4, _, _ => exact Or.inl sn_0_4
  | 5, _, _ => exact Or.inl sn_0_5
  | 6, _, _ => exact Or.inl sn_0_6
  | 7, _, _ => exact Or.inl sn_0_7
  | 8, _, _ => exact Or.inl sn_0_8
  | 9, _, _ => exact Or.inl sn_0_9
  | 10, _, _ => exact Or.inl sn_0_10
  | 11, _, _ => exact Or.inl sn_0_11
  | 12, _, _ => exact Or.inl sn_0_12
  | 13, _, _ => exact Or.inl sn_0_13
  | 14, _, _ => exact Or.inl sn_0_14
  | 15, _, _ => exact Or.inl sn_0_15
  | 16, _, _ => exact Or.inl sn_0_16
  | 17, _, _ => exact Or.inl sn_0_17
  | 18, _, _ => exact Or.inl sn_0_18
  | 19, _, _ => exact Or.inl sn_0_19
  | j + 20, h, _ => exact absurd h (by omega)
theorem sn_1 : ∀ j, j < 20 → ¬ 1 = j → Cond.not (Cond.eq (zTm 1) (zTm j)) ∈ lw_fl ∨ Cond.not (Cond.eq (zTm j) (zTm 1)) ∈ lw_fl := fun j hj hij => by
  match j, hj, hij with
  | 0, _, _ => exact Or.inr sn_0_1
  | 1, _, h => exact absurd rfl h
  | 2, _, _ => exact Or.inl sn_1_2
  | 3, _, _ => exact Or.inl sn_1_3
  | 4, _, _ => exact Or.inl sn_1_4
  | 5, _, _ => exact Or.inl sn_1_5
  | 6, _, _ => exact Or.inl sn_1_6
  | 7, _, _ => exact Or.inl sn_1_7
  | 8, _, _ => exact Or.inl sn_1_8
  | 9, _, _ => exact Or.inl sn_1_9
  | 10, _, _ => exact Or.inl sn_1_10
  | 11, _, _ => exact Or.inl sn_1_11
  | 12, _, _ => exact Or.inl sn_1_12
  | 13, _, _ => exact Or.inl sn_1_13
  | 14, _, _ => exact Or.inl sn_1_14
  | 15, _, _ => exact Or.inl sn_1_15
  | 16, _, _ => exact Or.inl sn_1_16
  | 17, _, _ => exact Or.inl sn_1_17
  | 18, _, _ => exact Or.inl sn_1_18
  | 19, _, _ => exact Or.inl sn_1_19
  | j + 20, h, _ => exact absurd h (by omega)
theorem sn_2 : ∀ j, j < 20 → ¬ 2 = j → Cond.not (Cond.eq (zTm 2) (zTm j)) ∈ lw_fl ∨ Cond.not (Cond.eq (zTm j) (zTm 2)) ∈ lw_fl := fun j hj hij => by
  match j, hj, hij with
  | 0, _, _ => exact Or.inr sn_0_2
  | 1, _, _ => exact Or.inr sn_1_2
  | 2, _, h => exact absurd rfl h
  | 3, _, _ => exact Or.inl sn_2_3
  | 4, _, _ => exact Or.inl sn_2_4
  | 5, _, _ => exact Or.inl sn_2_5
  | 6, _, _ => exact Or.inl sn_2_6
  | 7, _, _ => exact Or.inl sn_2_7
  | 8, _, _ => exact Or.inl sn_2_8
  | 9, _, _ => exact Or.inl sn_2_9
  | 10, _, _ => exact Or.inl sn_2_10
  | 11, _, _ => exact Or.inl sn_2_11
  | 12, _, _ => exact Or.inl sn_2_12
  | 13, _, _ => exact Or.inl sn_2_13
  | 14, _, _ => exact Or.inl sn_2_14
  | 15, _, _ => exact Or.inl sn_2_15
  | 16, _, _ => exact Or.inl sn_2_16
  | 17, _, _ => exact Or.inl sn_2_17
  | 18, _, _ => exact Or.inl sn_2_18
  | 19, _, _ => exact Or.inl sn_2_19
  | j + 20, h, _ => exact absurd h (by omega)
theorem sn_3 : ∀ j, j < 20 → ¬ 3 = j → Cond.not (Cond.eq (zTm 3) (zTm j)) ∈ lw_fl ∨ Cond.not (Cond.eq (zTm j) (zTm 3)) ∈ lw_fl := fun j hj hij => by
  match j, hj, hij with
  | 0, _, _ => exact Or.inr sn_0_3
  | 1, _, _ => exact Or.inr sn_1_3
  | 2, _, _ => exact Or.inr sn_2_3
  | 3, _, h => exact absurd rfl h
  | 4, _, _ => exact Or.inl sn_3_4
  | 5, _, _ => exact Or.inl sn_3_5
  | 6, _, _ => exact Or.inl sn_3_6
  | 7, _, _ => exact Or.inl sn_3_7
  | 8, _, _ => exact Or.inl sn_3_8
  | 9, _, _ => exact Or.inl sn_3_9
  | 10, _, _ => exact Or.inl sn_3_10
  | 11, _, _ => exact Or.inl sn_3_11
  | 12, _, _ => exact Or.inl sn_3_12
  | 13, _, _ => exact Or.inl sn_3_13
  | 14, _, _ => exact Or.inl sn_3_14
  | 15, _, _ => exact Or.inl sn_3_15
  | 16, _, _ => exact Or.inl sn_3_16
  | 17, _, _ => exact Or.inl sn_3_17
  | 18, _, _ => exact Or.inl sn_3_18
  | 19, _, _ => exact Or.inl sn_3_19
  | j + 20, h, _ => exact absurd h (by omega)
theorem sn_4 : ∀ j, j < 20 → ¬ 4 = j → Cond.not (Cond.eq (zTm 4) (zTm j)) ∈ lw_fl ∨ Cond.not (Cond.eq (zTm j) (zTm 4)) ∈ lw_fl := fun j hj hij => by
  match j, hj, hij with
  | 0, _, _ => exact Or.inr sn_0_4
  | 1, _, _ => exact Or.inr sn_1_4
  | 2, _, _ => exact Or.inr sn_2_4
  | 3, _, _ => exact Or.inr sn_3_4
  | 4, _, h => exact absurd rfl h
  | 5, _, _ => exact Or.inl sn_4_5
  | 6, _, _ => exact Or.inl sn_4_6
  | 7, _, _ => exact Or.inl sn_4_7
  | 8, _, _ => exact Or.inl sn_4_8
  | 9, _, _ => exact Or.inl sn_4_9
  | 10, _, _ => exact Or.inl sn_4_10
  | 11, _, _ => exact Or.inl sn_4_11
  | 12, _, _ => exact Or.inl sn_4_12
  | 13, _, _ => exact Or.inl sn_4_13
  | 14, _, _ => exact Or.inl sn_4_14
  | 15, _, _ => exact Or.inl sn_4_15
  | 16, _, _ => exact Or.inl sn_4_16
  | 17, _, _ => exact Or.inl sn_4_17
  | 18, _, _ => exact Or.inl sn_4_18
  | 19, _, _ => exact Or.inl sn_4_19
  | j + 20, h, _ => exact absurd h (by omega)
theorem sn_5 : ∀ j, j < 20 → ¬ 5 = j → Cond.not (Cond.eq (zTm 5) (zTm j)) ∈ lw_fl ∨ Cond.not (Cond.eq (zTm j) (zTm 5)) ∈ lw_fl := fun j hj hij => by
  match j, hj, hij with
  | 0, _, _ => exact Or.inr sn_0_5
  | 1, _, _ => exact Or.inr sn_1_5
  | 2, _, _ => exact Or.inr sn_2_5
  | 3, _, _ => exact Or.inr sn_3_5
  | 4, _, _ => exact Or.inr sn_4_5
  | 5, _, h => exact absurd rfl h
  | 6, _, _ => exact Or.inl sn_5_6
  | 7, _, _ => exact Or.inl sn_5_7
  | 8, _, _ => exact Or.inl sn_5_8
  | 9, _, _ => exact Or.inl sn_5_9
  | 10, _, _ => exact Or.inl sn_5_10
  | 11, _, _ => exact Or.inl sn_5_11
  | 12, _, _ => exact Or.inl sn_5_12
  | 13, _, _ => exact Or.inl sn_5_13
  | 14, _, _ => exact Or.inl sn_5_14
  | 15, _, _ => exact Or.inl sn_5_15
  | 16, _, _ => exact Or.inl sn_5_16
  | 17, _, _ => exact Or.inl sn_5_17
  | 18, _, _ => exact Or.inl sn_5_18
  | 19, _, _ => exact Or.inl sn_5_19
  | j + 20, h, _ => exact absurd h (by omega)
theorem sn_6 : ∀ j, j < 20 → ¬ 6 = j → Cond.not (Cond.eq (zTm 6) (zTm j)) ∈ lw_fl ∨ Cond.not (Cond.eq (zTm j) (zTm 6)) ∈ lw_fl := fun j hj hij => by
  match j, hj, hij with
  | 0, _, _ => exact Or.inr sn_0_6
  | 1, _, _ => exact Or.inr sn_1_6
  | 2, _, _ => exact Or.inr sn_2_6
  | 3, _, _ => exact Or.inr sn_3_6
  | 4, _, _ => exact Or.inr sn_4_6
  | 5, _, _ => exact Or.inr sn_5_6
  | 6, _, h => exact absurd rfl h
  | 7, _, _ => exact Or.inl sn_6_7
  | 8, _, _ => exact Or.inl sn_6_8
  | 9, _, _ => exact Or.inl sn_6_9
  | 10, _, _ => exact Or.inl sn_6_10
  | 11, _, _ => exact Or.inl sn_6_11
  | 12, _, _ => exact Or.inl sn_6_12
  | 13, _, _ => exact Or.inl sn_6_13
  | 14, _, _ => exact Or.inl sn_6_14
  | 15, _, _ => exact Or.inl sn_6_15
  | 16, _, _ => exact Or.inl sn_6_16
  | 17, _, _ => exact Or.inl sn_6_17
  | 18, _, _ => exact Or.inl sn_6_18
  | 19, _, _ => exact Or.inl sn_6_19
  | j + 20, h, _ => exact absurd h (by omega)
theorem sn_7 : ∀ j, j < 20 → ¬ 7 = j → Cond.not (Cond.eq (zTm 7) (zTm j)) ∈ lw_fl ∨ Cond.not (Cond.eq (zTm j) (zTm 7)) ∈ lw_fl := fun j hj hij => by
  match j, hj, hij with
  | 0, _, _ => exact Or.inr sn_0_7
  | 1, _, _ => exact Or.inr sn_1_7
  | 2, _, _ => exact Or.inr sn_2_7
  | 3, _, _ => exact Or.inr sn_3_7
  | 4, _, _ => exact Or.inr sn_4_7
  | 5, _, _ => exact Or.inr sn_5_7
  | 6, _, _ => exact Or.inr sn_6_7
  | 7, _, h => exact absurd rfl h
  | 8, _, _ => exact Or.inl sn_7_8
  | 9, _, _ => exact Or.inl sn_7_9
  | 10, _, _ => exact Or.inl sn_7_10
  | 11, _, _ => exact Or.inl sn_7_11
  | 12, _, _ => exact Or.inl sn_7_12
  | 13, _, _ => exact Or.inl sn_7_13
  | 14, _, _ => exact Or.inl sn_7_14
  | 15, _, _ => exact Or.inl sn_7_15
  | 16, _, _ => exact Or.inl sn_7_16
  | 17, _, _ => exact Or.inl sn_7_17
  | 18, _, _ => exact Or.inl sn_7_18
  | 19, _, _ => exact Or.inl sn_7_19
  | j + 20, h, _ => exact absurd h (by omega)
theorem sn_8 : ∀ j, j < 20 → ¬ 8 = j → Cond.not (Cond.eq (zTm 8) (zTm j)) ∈ lw_fl ∨ Cond.not (Cond.eq (zTm j) (zTm 8)) ∈ lw_fl := fun j hj hij => by
  match j, hj, hij with
  | 0, _, _ => exact Or.inr sn_0_8
  | 1, _, _ => exact Or.inr sn_1_8
  | 2, _, _ => exact Or.inr sn_2_8
  | 3, _, _ => exact Or.inr sn_3_8
  | 4, _, _ => exact Or.inr sn_4_8
  | 5, _, _ => exact Or.inr sn_5_8
  | 6, _, _ => exact Or.inr sn_6_8
  | 7, _, _ => exact Or.inr sn_7_8
  | 8, _, h => exact absurd rfl h
  | 9, _, _ => exact Or.inl sn_8_9
  | 10, _, _ => exact Or.inl sn_8_10
  | 11, _, _ => exact Or.inl sn_8_11
  | 12, _, _ => exact Or.inl sn_8_12
  | 13, _, _ => exact Or.inl sn_8_13
  | 14, _, _ => exact Or.inl sn_8_14
  | 15, _, _ => exact Or.inl sn_8_15
  | 16, _, _ => exact Or.inl sn_8_16
  | 17, _, _ => exact Or.inl sn_8_17
  | 18, _, _ => exact Or.inl sn_8_18
  | 19, _, _ => exact Or.inl sn_8_19
  | j + 20, h, _ => exact absurd h (by omega)
theorem sn_9 : ∀ j, j < 20 → ¬ 9 = j → Cond.not (Cond.eq (zTm 9) (zTm j)) ∈ lw_fl ∨ Cond.not (Cond.eq (zTm j) (zTm 9)) ∈ lw_fl := fun j hj hij => by
  match j, hj, hij with
  | 0, _, _ => exact Or.inr sn_0_9
  | 1, _, _ => exact Or.inr sn_1_9
  | 2, _, _ => exact Or.inr sn_2_9
  | 3, _, _ => exact Or.inr sn_3_9
  | 4, _, _ => exact Or.inr sn_4_9
  | 5, _, _ => exact Or.inr sn_5_9
  | 6, _, _ => exact Or.inr sn_6_9
  | 7, _, _ => exact Or.inr sn_7_9
  | 8, _, _ => exact Or.inr sn_8_9
  | 9, _, h => exact absurd rfl h
  | 10, _, _ => exact Or.inl sn_9_10
  | 11, _, _ => exact Or.inl sn_9_11
  | 12, _, _ => exact Or.inl sn_9_12
  | 13, _, _ => exact Or.inl sn_9_13
  | 14, _, _ => exact Or.inl sn_9_14
  | 15, _, _ => exact Or.inl sn_9_15
  | 16, _, _ => exact Or.inl sn_9_16
  | 17, _, _ => exact Or.inl sn_9_17
  | 18, _, _ => exact Or.inl sn_9_18
  | 19, _, _ => exact Or.inl sn_9_19
  | j + 20, h, _ => exact absurd h (by omega)
theorem sn_10 : ∀ j, j < 20 → ¬ 10 = j → Cond.not (Cond.eq (zTm 10) (zTm j)) ∈ lw_fl ∨ Cond.not (Cond.eq (zTm j) (zTm 10)) ∈ lw_fl := fun j hj hij => by
  match j, hj, hij with
  | 0, _, _ => exact Or.inr sn_0_10
  | 1, _, _ => exact Or.inr sn_1_10
  | 2, _, _ => exact Or.inr sn_2_10
  | 3, _, _ => exact Or.inr sn_3_10
  | 4, _, _ => exact Or.inr sn_4_10
  | 5, _, _ => exact Or.inr sn_5_10
  | 6, _, _ => exact Or.inr sn_6_10
  | 7, _, _ => exact Or.inr sn_7_10
  | 8, _, _ => exact Or.inr sn_8_10
  | 9, _, _ => exact Or.inr sn_9_10
  | 10, _, h => exact absurd rfl h
  | 11, _, _ => exact Or.inl sn_10_11
  | 12, _, _ => exact Or.inl sn_10_12
  | 13, _, _ => exact Or.inl sn_10_13
  | 14, _, _ => exact Or.inl sn_10_14
  | 15, _, _ => exact Or.inl sn_10_15
  | 16, _, _ => exact Or.inl sn_10_16
  | 17, _, _ => exact Or.inl sn_10_17
  | 18, _, _ => exact Or.inl sn_10_18
  | 19, _, _ => exact Or.inl sn_10_19
  | j + 20, h, _ => exact absurd h (by omega)
theorem sn_11 : ∀ j, j < 20 → ¬ 11 = j → Cond.not (Cond.eq (zTm 11) (zTm j)) ∈ lw_fl ∨ Cond.not (Cond.eq (zTm j) (zTm 11)) ∈ lw_fl := fun j hj hij => by
  match j, hj, hij with
  | 0, _, _ => exact Or.inr sn_0_11
  | 1, _, _ => exact Or.inr sn_1_11
  | 2, _, _ => exact Or.inr sn_2_11
  | 3, _, _ => exact Or.inr sn_3_11
  | 4, _, _ => exact Or.inr sn_4_11
  | 5, _, _ => exact Or.inr sn_5_11
  | 6, _, _ => exact Or.inr sn_6_11
  | 7, _, _ => exact Or.inr sn_7_11
  | 8, _, _ => exact Or.inr sn_8_11
  | 9, _, _ => exact Or.inr sn_9_11
  | 10, _, _ => exact Or.inr sn_10_11
  | 11, _, h => exact absurd rfl h
  | 12, _, _ => exact Or.inl sn_11_12
  | 13, _, _ => exact Or.inl sn_11_13
  | 14, _, _ => exact Or.inl sn_11_14
  | 15, _, _ => exact Or.inl sn_11_15
  | 16, _, _ => exact Or.inl sn_11_16
  | 17, _, _ => exact Or.inl sn_11_17
  | 18, _, _ => exact Or.inl sn_11_18
  | 19, _, _ => exact Or.inl sn_11_19
  | j + 20, h, _ => exact absurd h (by omega)
theorem sn_12 : ∀ j, j < 20 → ¬ 12 = j → Cond.not (Cond.eq (zTm 12) (zTm j)) ∈ lw_fl ∨ Cond.not (Cond.eq (zTm j) (zTm 12)) ∈ lw_fl := fun j hj hij => by
  match j, hj, hij with
  | 0, _, _ => exact Or.inr sn_0_12
  | 1, _, _ => exact Or.inr sn_1_12
  | 2, _, _ => exact Or.inr sn_2_12
  | 3, _, _ => exact Or.inr sn_3_12
  | 4, _, _ => exact Or.inr sn_4_12
  | 5, _, _ => exact Or.inr sn_5_12
  | 6, _, _ => exact Or.inr sn_6_12
  | 7, _, _ => exact Or.inr sn_7_12
  | 8, _, _ => exact Or.inr sn_8_12
  | 9, _, _ => exact Or.inr sn_9_12
  | 10, _, _ => exact Or.inr sn_10_12
  | 11, _, _ => exact Or.inr sn_11_12
  | 12, _, h => exact absurd rfl h
  | 13, _, _ => exact Or.inl sn_12_13
  | 14, _, _ => exact Or.inl sn_12_14
  | 15, _, _ => exact Or.inl sn_12_15
  | 16, _, _ => exact Or.inl sn_12_16
  | 17, _, _ => exact Or.inl sn_12_17
  | 18, _, _ => exact Or.inl sn_12_18
  | 19, _, _ => exact Or.inl sn_12_19
  | j + 20, h, _ => exact absurd h (by omega)
theorem sn_13 : ∀ j, j < 20 → ¬ 13 = j → Cond.not (Cond.eq (zTm 13) (zTm j)) ∈ lw_fl ∨ Cond.not (Cond.eq (zTm j) (zTm 13)) ∈ lw_fl := fun j hj hij => by
  match j, hj, hij with
  | 0, _, _ => exact Or.inr sn_0_13
  | 1, _, _ => exact Or.inr sn_1_13
  | 2, _, _ => exact Or.inr sn_2_13
  | 3, _, _ => exact Or.inr sn_3_13
  | 4, _, _ => exact Or.inr sn_4_13
  | 5, _, _ => exact Or.inr sn_5_13
  | 6, _, _ => exact Or.inr sn_6_13
  | 7, _, _ => exact Or.inr sn_7_13
  | 8, _, _ => exact Or.inr sn_8_13
  | 9, _, _ => exact Or.inr sn_9_13
  | 10, _, _ => exact Or.inr sn_10_13
  | 11, _, _ => exact Or.inr sn_11_13
  | 12, _, _ => exact Or.inr sn_12_13
  | 13, _, h => exact absurd rfl h
  | 14, _, _ => exact Or.inl sn_13_14
  | 15, _, _ => exact Or.inl sn_13_15
  | 16, _, _ => exact Or.inl sn_13_16
  | 17, _, _ => exact Or.inl sn_13_17
  | 18, _, _ => exact Or.inl sn_13_18
  | 19, _, _ => exact Or.inl sn_13_19
  | j + 20, h, _ => exact absurd h (by omega)
theorem sn_14 : ∀ j, j < 20 → ¬ 14 = j → Cond.not (Cond.eq (zTm 14) (zTm j)) ∈ lw_fl ∨ Cond.not (Cond.eq (zTm j) (zTm 14)) ∈ lw_fl := fun j hj hij => by
  match j, hj, hij with
  | 0, _, _ => exact Or.inr sn_0_14
  | 1, _, _ => exact Or.inr sn_1_14
  | 2, _, _ => exact Or.inr sn_2_14
  | 3, _, _ => exact Or.inr sn_3_14
  | 4, _, _ => exact Or.inr sn_4_14
  | 5, _, _ => exact Or.inr sn_5_14
  | 6, _, _ => exact Or.inr sn_6_14
  | 7, _, _ => exact Or.inr sn_7_14
  | 8, _, _ => exact Or.inr sn_8_14
  | 9, _, _ => exact Or.inr sn_9_14
  | 10, _, _ => exact Or.inr sn_10_14
  | 11, _, _ => exact Or.inr sn_11_14
  | 12, _, _ => exact Or.inr sn_12_14
  | 13, _, _ => exact Or.inr sn_13_14
  | 14, _, h => exact absurd rfl h
  | 15, _, _ => exact Or.inl sn_14_15
  | 16, _, _ => exact Or.inl sn_14_16
  | 17, _, _ => exact Or.inl sn_14_17
  | 18, _, _ => exact Or.inl sn_14_18
  | 19, _, _ => exact Or.inl sn_14_19
  | j + 20, h, _ => exact absurd h (by omega)
theorem sn_15 : ∀ j, j < 20 → ¬ 15 = j → Cond.not (Cond.eq (zTm 15) (zTm j)) ∈ lw_fl ∨ Cond.not (Cond.eq (zTm j) (zTm 15)) ∈ lw_fl := fun j hj hij => by
  match j, hj, hij with
  | 0, _, _ => exact Or.inr sn_0_15
  | 1, _, _ => exact Or.inr sn_1_15
  | 2, _, _ => exact Or.inr sn_2_15
  | 3, _, _ => exact Or.inr sn_3_15
  | 4, _, _ => exact Or.inr sn_4_15
  | 5, _, _ => exact Or.inr sn_5_15
  | 6, _, _ => exact Or.inr sn_6_15
  | 7, _, _ => exact Or.inr sn_7_15
  | 8, _, _ => exact Or.inr sn_8_15
  | 9, _, _ => exact Or.inr sn_9_15
  | 10, _, _ => exact Or.inr sn_10_15
  | 11, _, _ => exact Or.inr sn_11_15
  | 12, _, _ => exact Or.inr sn_12_15
  | 13, _, _ => exact Or.inr sn_13_15
  | 14, _, _ => exact Or.inr sn_14_15
  | 15, _, h => exact absurd rfl h
  | 16, _, _ => exact Or.inl sn_15_16
  | 17, _, _ => exact Or.inl sn_15_17
  | 18, _, _ => exact Or.inl sn_15_18
  | 19, _, _ => exact Or.inl sn_15_19
  | j + 20, h, _ => exact absurd h (by omega)
theorem sn_16 : ∀ j, j < 20 → ¬ 16 = j → Cond.not (Cond.eq (zTm 16) (zTm j)) ∈ lw_fl ∨ Cond.not (Cond.eq (zTm j) (zTm 16)) ∈ lw_fl := fun j hj hij => by
  match j, hj, hij with
  | 0, _, _ => exact Or.inr sn_0_16
  | 1, _, _ => exact Or.inr sn_1_16
  | 2, _, _ => exact Or.inr sn_2_16
  | 3, _, _ => exact Or.inr sn_3_16
  | 4, _, _ => exact Or.inr sn_4_16
  | 5, _, _ => exact Or.inr sn_5_16
  | 6, _, _ => exact Or.inr sn_6_16
  | 7, _, _ => exact Or.inr sn_7_16
  | 8, _, _ => exact Or.inr sn_8_16
  | 9, _, _ => exact Or.inr sn_9_16
  | 10, _, _ => exact Or.inr sn_10_16
  | 11, _, _ => exact Or.inr sn_11_16
  | 12, _, _ => exact Or.inr sn_12_16
  | 13, _, _ => exact Or.inr sn_13_16
  | 14, _, _ => exact Or.inr sn_14_16
  | 15, _, _ => exact Or.inr sn_15_16
  | 16, _, h => exact absurd rfl h
  | 17, _, _ => exact Or.inl sn_16_17
  | 18, _, _ => exact Or.inl sn_16_18
  | 19, _, _ => exact Or.inl sn_16_19
  | j + 20, h, _ => exact absurd h (by omega)
theorem sn_17 : ∀ j, j < 20 → ¬ 17 = j → Cond.not (Cond.eq (zTm 17) (zTm j)) ∈ lw_fl ∨ Cond.not (Cond.eq (zTm j) (zTm 17)) ∈ lw_fl := fun j hj hij => by
  match j, hj, hij with
  | 0, _, _ => exact Or.inr sn_0_17
  | 1, _, _ => exact Or.inr sn_1_17
  | 2, _, _ => exact Or.inr sn_2_17
  | 3, _, _ => exact Or.inr sn_3_17
  | 4, _, _ => exact Or.inr sn_4_17
  | 5, _, _ => exact Or.inr sn_5_17
  | 6, _, _ => exact Or.inr sn_6_17
  | 7, _, _ => exact Or.inr sn_7_17
  | 8, _, _ => exact Or.inr sn_8_17
  | 9, _, _ => exact Or.inr sn_9_17
  | 10, _, _ => exact Or.inr sn_10_17
  | 11, _, _ => exact Or.inr sn_11_17
  | 12, _, _ => exact Or.inr sn_12_17
  | 13, _, _ => exact Or.inr sn_13_17
  | 14, _, _ => exact Or.inr sn_14_17
  | 15, _, _ => exact Or.inr sn_15_17
  | 16, _, _ => exact Or.inr sn_16_17
  | 17, _, h => exact absurd rfl h
  | 18, _, _ => exact Or.inl sn_17_18
  | 19, _, _ => exact Or.inl sn_17_19
  | j + 20, h, _ => exact absurd h (by omega)
theorem sn_18 : ∀ j, j < 20 → ¬ 18 = j → Cond.not (Cond.eq (zTm 18) (zTm j)) ∈ lw_fl ∨ Cond.not (Cond.eq (zTm j) (zTm 18)) ∈ lw_fl := fun j hj hij => by
  match j, hj, hij with
  | 0, _, _ => exact Or.inr sn_0_18
  | 1, _, _ => exact Or.inr sn_1_18
  | 2, _, _ => exact Or.inr sn_2_18
  | 3, _, _ => exact Or.inr sn_3_18
  | 4, _, _ => exact Or.inr sn_4_18
  | 5, _, _ => exact Or.inr sn_5_18
  | 6, _, _ => exact Or.inr sn_6_18
  | 7, _, _ => exact Or.inr sn_7_18
  | 8, _, _ => exact Or.inr sn_8_18
  | 9, _, _ => exact Or.inr sn_9_18
  | 10, _, _ => exact Or.inr sn_10_18
  | 11, _, _ => exact Or.inr sn_11_18
  | 12, _, _ => exact Or.inr sn_12_18
  | 13, _, _ => exact Or.inr sn_13_18
  | 14, _, _ => exact Or.inr sn_14_18
  | 15, _, _ => exact Or.inr sn_15_18
  | 16, _, _ => exact Or.inr sn_16_18
  | 17, _, _ => exact Or.inr sn_17_18
  | 18, _, h => exact absurd rfl h
  | 19, _, _ => exact Or.inl sn_18_19
  | j + 20, h, _ => exact absurd h (by omega)
theorem sn_19 : ∀ j, j < 20 → ¬ 19 = j → Cond.not (Cond.eq (zTm 19) (zTm j)) ∈ lw_fl ∨ Cond.not (Cond.eq (zTm j) (zTm 19)) ∈ lw_fl := fun j hj hij => by
  match j, hj, hij with
  | 0, _, _ => exact Or.inr sn_0_19
  | 1, _, _ => exact Or.inr sn_1_19
  | 2, _, _ => exact Or.inr sn_2_19
  | 3, _, _ => exact Or.inr sn_3_19
  | 4, _, _ => exact Or.inr sn_4_19
  | 5, _, _ => exact Or.inr sn_5_19
  | 6, _, _ => exact Or.inr sn_6_19
  | 7, _, _ => exact Or.inr sn_7_19
  | 8, _, _ => exact Or.inr sn_8_19
  | 9, _, _ => exact Or.inr sn_9_19
  | 10, _, _ => exact Or.inr sn_10_19
  | 11, _, _ => exact Or.inr sn_11_19
  | 12, _, _ => exact Or.inr sn_12_19
  | 13, _, _ => exact Or.inr sn_13_19
  | 14, _, _ => exact Or.inr sn_14_19
  | 15, _, _ => exact Or.inr sn_15_19
  | 16, _, _ => exact Or.inr sn_16_19
  | 17, _, _ => exact Or.inr sn_17_19
  | 18, _, _ => exact Or.inr sn_18_19
  | 19, _, h => exact absurd rfl h
  | j + 20, h, _ => exact absurd h (by omega)
theorem st_ne : ∀ i, i < 20 → ∀ j, j < 20 → ¬ i = j → Cond.not (Cond.eq (zTm i) (zTm j)) ∈ lw_fl ∨ Cond.not (Cond.eq (zTm j) (zTm i)) ∈ lw_fl := fun i hi => by
  match i, hi with
  | 0, _ => exact sn_0
  | 1, _ => exact sn_1
  | 2, _ => exact sn_2
  | 3, _ => exact sn_3
  | 4, _ => exact sn_4
  | 5, _ => exact sn_5
  | 6, _ => exact sn_6
  | 7, _ => exact sn_7
  | 8, _ => exact sn_8
  | 9, _ => exact sn_9
  | 10, _ => exact sn_10
  | 11, _ => exact sn_11
  | 12, _ => exact sn_12
  | 13, _ => exact sn_13
  | 14, _ => exact sn_14
  | 15, _ => exact sn_15
  | 16, _ => exact sn_16
  | 17, _ => exact sn_17
  | 18, _ => exact sn_18
  | 19, _ => exact sn_19
  | i + 20, h => exact absurd h (by omega)
theorem st_cs : Cond.eq (.static "java/lang/String" "COMPACT_STRINGS" "Z") (.int 1) ∈ lw_fl := by decide +kernel
theorem st_si : Cond.isRef (.static "jdk/internal/util/Preconditions" "SIOOBE_FORMATTER" "Ljava/util/function/BiFunction;") ∈ lw_fl := by decide +kernel
theorem st_rf : ∀ i, i < 20 → Cond.stringRef (zSo i).1 (zSo i).2.1 (zSo i).2.2 ∈ lw_tbl := by decide +kernel
theorem st_in : ∀ c, c < 9 → Cond.instantiable (zRn c) (zN c) ∈ lw_tbl := by decide +kernel
theorem st_w1 : Cond.laysStatic "java/lang/String" "COMPACT_STRINGS" "Z" ∈ lw_tbl := by decide +kernel
theorem st_w2 : Cond.initialized "java/lang/String" ∈ lw_tbl := by decide +kernel
theorem st_w3 : Cond.laysStatic "jdk/internal/util/Preconditions" "SIOOBE_FORMATTER" "Ljava/util/function/BiFunction;" ∈ lw_tbl := by decide +kernel
theorem st_w4 : Cond.initialized "jdk/internal/util/Preconditions" ∈ lw_tbl := by decide +kernel
theorem st_a1 : Cond.arrayClass .int ∈ lw_tbl := by decide +kernel
theorem st_a2 : Cond.arrayClass .byte ∈ lw_tbl := by decide +kernel
theorem st_a3 : Cond.arrayClass .boolean ∈ lw_tbl := by decide +kernel
theorem st_o1 : Cond.arrayOver (.object "MarshLights$Thing") ∈ lw_tbl := by decide +kernel
theorem st_o2 : Cond.arrayOver (.object "MarshLights$Telling") ∈ lw_tbl := by decide +kernel
theorem st_o3 : Cond.arrayOver (.array .int) ∈ lw_tbl := by decide +kernel
theorem st_o4 : Cond.arrayOver (.object "java/lang/String") ∈ lw_tbl := by decide +kernel
theorem zCl_all : ∀ c, c < 9 → zCl c := fun c h => by
  rcases (show c = 0 ∨ c = 1 ∨ c = 2 ∨ c = 3 ∨ c = 4 ∨ c = 5 ∨ c = 6 ∨ c = 7 ∨ c = 8 by omega) with rfl | rfl | rfl | rfl | rfl | rfl | rfl | rfl | rfl
  · exact zCl0
  · exact zCl1
  · exact zCl2
  · exact zCl3
  · exact zCl4
  · exact zCl5
  · exact zCl6
  · exact zCl7
  · exact zCl8
theorem st_prim {args : Array Value} {s : State} {ty : FieldType} (h : (Cond.arrayClass ty).before args s = true) (hra : ∀ cA, s.vm.findClass ("[" ++ ty.toString) = some cA → va_RA s cA ty) : ∃ cA, ArrOfT s cA ty ∧ va_RA s cA ty := by
  obtain ⟨c, k, comp, h1, h2, h3⟩ := Cond.arrayClass_spec h
  exact ⟨c, fun n z => ⟨(fun q h => by cases h), k, h2, comp, h3⟩, hra c h1⟩
theorem st_obj {args : Array Value} {s : State} {C : String} (h : (Cond.arrayOver (.object C)).before args s = true) : ∃ cA, ArrOfT s cA (.object C) ∧ va_RA s cA (.object C) := by
  obtain ⟨comp, c, k, h1, h2, h3, h4, h5⟩ := Cond.arrayOver_spec h
  exact ⟨c, fun n z => ⟨(fun q h => by cases h), k, h3, comp, h4⟩, k, comp, h3, h4, h1, h5⟩
theorem st_arr {args : Array Value} {s : State} (h : (Cond.arrayOver (.array .int)).before args s = true) : ∃ cA, ArrOfT s cA (.array .int) ∧ va_RA s cA (.array .int) := by
  simp only [Cond.before, Cond.holds, Cond.value, beq_iff_eq] at h
  cases hc : s.vm.findClass (FieldType.array .int).toString with
  | none => simp [hc] at h
  | some comp =>
    simp only [hc, Option.bind_some, Option.bind_eq_some_iff, Option.map_eq_some_iff] at h
    obtain ⟨c, hi, k, hk, hb⟩ := h
    cases hkind : k.kind with
    | array component ty =>
      rw [hkind] at hb
      simp at hb
      exact ⟨c, fun n z => ⟨(fun q h => by cases h), k, hk, component, by rw [hkind, hb.1]⟩, hb.2⟩
    | _ => rw [hkind] at hb; simp at hb
theorem st_room : zSS 200 ≤ 7302250 := by decide +kernel
theorem st_room2 : zSS 200 - zSS 0 ≤ 7302250 := Nat.le_trans (Nat.sub_le _ _) st_room
end
section
/-- the law's run, out of the judgement on its code -/
theorem whole_of (hlaw : ∀ (l : Launch) (g : zG), g.2.2.2.2.1 ≤ 3072 → zAt l g 400 0 200 M_L_law 0 [.ref 1, zJ, zJ, zJ] [] zS0 (zKz (fun b _ => b = true)))
    {p : Program} {e : Env} {s : State} {m : MethodId} {below : List Frame} {meth : Method} {c : Code} (l : Launch) {b L : Nat} {xs : Nat → Int32} (hL : L ≤ 3072) (C0 : lw_At p s m meth c b L xs) : W p l e room_1 s m #[Value.ref b] below meth c s.heap [] 0 0 (lw_Z below #[Value.ref b] s) (entryFrame m ([Value.ref b] : List Value).toArray 4) := by
  obtain ⟨hx, hc, hret, hml, hown, hts, hX, hbl, hlocks, hgv⟩ := C0
  have hfl := flat_of_before _ hgv
  have h0 : ∀ c : Nat, ∃ q : ClassId × (Nat → Nat), c < 9 → u_Kn s (zRn c) (zT c) (zN c) q.1 q.2 := fun c => by
    by_cases h : c < 9
    · obtain ⟨cC, iS, hK⟩ := u_known (ws := lw_tbl) hts (fun w hw => lw_g_in w ((zCl_all c h).2.1 w hw)) (hts _ (st_in c h))
      exact ⟨(cC, iS), fun _ => hK⟩
    · exact ⟨(0, fun _ => 0), fun q => absurd q h⟩
  obtain ⟨kd, hkd⟩ := Classical.axiomOfChoice h0
  obtain ⟨c20, a20⟩ := st_prim (hts _ st_a1) (fun _ h => h)
  obtain ⟨c21, a21⟩ := st_prim (hts _ st_a2) (fun _ h => h)
  obtain ⟨c22, a22⟩ := st_prim (hts _ st_a3) (fun _ h => h)
  obtain ⟨c23, a23⟩ := st_obj (hts _ st_o1)
  obtain ⟨c24, a24⟩ := st_obj (hts _ st_o2)
  obtain ⟨c25, a25⟩ := st_arr (hts _ st_o3)
  obtain ⟨c26, a26⟩ := st_obj (hts _ st_o4)
  have hA : ∀ a : Nat, a < s.heap.size → ¬ s.heap.size ≤ a := fun a h => by omega
  obtain ⟨adK, adV, hvk, hev⟩ := vk_Sof (args := #[Value.ref b]) (s := s) (N := 20) (tm := zTm) (len := zSl) (byt := zSb) (A := fun q => s.heap.size ≤ q) (fun i hi => (zSl_lt i hi).1) (fun i hi => hfl _ (st_ex i hi)) (fun i hi => hfl _ (st_co i hi)) (fun i hi => hfl _ (st_ar i hi)) (fun i hi => hfl _ (st_le i hi)) (fun i hi j hj => hfl _ (st_el i hi j hj)) (fun i j hi hj hij => (st_ne i hi j hj hij).imp (hfl _) (hfl _)) hA
  have hcs := va_Zof (A := fun q => s.heap.size ≤ q) (hts _ st_w1) (hts _ st_w2) (va_eqt (hfl _ st_cs)) hA
  have hsi := va_Zqof (A := fun q => s.heap.size ≤ q) (hts _ st_w3) (hts _ st_w4) (hfl _ st_si) hA
  obtain ⟨sf, hsf⟩ : ∃ t : Nat, va_Z "jdk/internal/util/Preconditions" "SIOOBE_FORMATTER" "Ljava/util/function/BiFunction;" .null (fun q => s.heap.size ≤ q) s s.heap ∨ va_Z "jdk/internal/util/Preconditions" "SIOOBE_FORMATTER" "Ljava/util/function/BiFunction;" (.ref t) (fun q => s.heap.size ≤ q) s s.heap := by
    rcases hsi with h | ⟨t, h⟩
    · exact ⟨0, Or.inl h⟩
    · exact ⟨t, Or.inr h⟩
  let low : Nat → Nat := fun o => if o = 1 then b else if o = 63 then sf else if o < 22 then adK (o - 2) else adV (o - 22)
  let g : zG := (s.heap.size, (fun c => (kd c).1, fun c => (kd c).2), (fun k => if k = 20 then c20 else if k = 21 then c21 else if k = 22 then c22 else if k = 23 then c23 else if k = 24 then c24 else if k = 25 then c25 else c26), low, L, xs)
  have e2 : ∀ i, i < 20 → low (2 + i) = adK i := fun i hi => by
    show (if 2 + i = 1 then b else if 2 + i = 63 then sf else if 2 + i < 22 then adK (2 + i - 2) else adV (2 + i - 22)) = adK i
    rw [if_neg (by omega), if_neg (by omega), if_pos (by omega), show 2 + i - 2 = i by omega]
  have e22 : ∀ i, i < 20 → low (22 + i) = adV i := fun i hi => by
    show (if 22 + i = 1 then b else if 22 + i = 63 then sf else if 22 + i < 22 then adK (22 + i - 2) else adV (22 + i - 22)) = adV i
    rw [if_neg (by omega), if_neg (by omega), if_neg (by omega), show 22 + i - 22 = i by omega]
  have hK : zK g s := by
    refine ⟨⟨fun c q hq => ?_, fun k q hq => ?_⟩, fun w hw => ?_, ⟨fun i hi => ?_, fun i j hi hj h => ?_⟩, fun i hi => ?_, hcs, hsf, ⟨hX, fun h => absurd h (hA b hbl), va_AO.of (hts _ st_o1), va_AO.of (hts _ st_o2), va_AO.of (hts _ st_o4), (show (Cond.arrayOver (.array .int)).before #[Value.ref b] s = true from hts _ st_o3)⟩⟩
    · have hc9 : c < 9 := (List.getElem?_eq_some_iff.mp hq).1
      have := (zCl_all c hc9).1
      rw [hq] at this
      cases this
      exact hkd c hc9
    · have hk : k < 7 := (List.getElem?_eq_some_iff.mp hq).1
      rcases (show k = 0 ∨ k = 1 ∨ k = 2 ∨ k = 3 ∨ k = 4 ∨ k = 5 ∨ k = 6 by omega) with rfl | rfl | rfl | rfl | rfl | rfl | rfl
      · cases hq; exact a20
      · cases hq; exact a21
      · cases hq; exact a22
      · cases hq; exact a23
      · cases hq; exact a24
      · cases hq; exact a25
      · cases hq; exact a26
    · have hn : zNest w = true := (List.mem_filter.mp hw).2
      have hb := hts w (lw_n_in w hw)
      cases w with
      | fieldLinkNest a b c d e f => exact va_Nw.of rfl hb
      | methodLinkNest a b c d => exact va_Nw.of rfl hb
      | _ => simp [zNest] at hn
    · have := hvk.1 i hi
      show va_O "java/lang/String" (low (2 + i)) _ s s.heap ∧ va_OF "java/lang/String" "coder" "B" (.int 0) (low (2 + i)) _ s s.heap ∧ va_OF "java/lang/String" "value" "[B" (.ref (low (22 + i))) (low (2 + i)) _ s s.heap ∧ va_T .byte (low (22 + i)) (zSl.getD i 0) (fun j => .int ((zSb.getD i []).getD j 0)) _ s s.heap
      rw [e2 i hi, e22 i hi]
      exact this
    · have h : low (2 + i) = low (2 + j) := h
      rw [e2 i hi, e2 j hj] at h
      exact hvk.2 i j hi hj h
    · show vk_R (zSo i).1 (zSo i).2.1 (zSo i).2.2 (low (2 + i)) s
      rw [e2 i hi]
      exact vk_R.of (A := #[Value.ref b]) (hts _ (st_rf i hi)) (hev i hi)
  have hW0 : zW g zS0 s.heap := ⟨rfl, fun o h1 h2 => by have h2 : o < 64 + 0 := h2; omega⟩
  have hl := lv_entry ([.ref b]) (n := 4) (Nat.le_of_ble_eq_true rfl)
  rw [lg_entry_eq]
  have hL9 : zL g 4 [.ref 1, zJ, zJ, zJ] _ := zL_sub hl (fun i v hv hj => by
    rcases (show i = 0 ∨ i = 1 ∨ i = 2 ∨ i = 3 ∨ 4 ≤ i by omega) with rfl | rfl | rfl | rfl | h
    · cases hv
      exact List.mem_cons_self
    · cases hv; cases hj
    · cases hv; cases hj
    · cases hv; cases hj
    · rw [List.getElem?_eq_none (by simpa using h)] at hv
      cases hv)
  have hz : zC l g 400 0 200 M_L_law (zKz (fun b _ => b = true)) p e room_1 s m #[Value.ref b] below meth c (lw_Z below #[Value.ref b] s) := by
    refine ⟨hx, hc, hml, fun w hw => hts w (lw_g_in w hw), hown, fun h => absurd h (by decide), hK, ⟨Nat.le_of_ble_eq_true rfl, Nat.le_of_ble_eq_true rfl, Nat.le_of_ble_eq_true rfl, st_room2⟩, Nat.le_refl _, ?_⟩
    rintro v σ H locs pc ls ⟨bb, rfl, rfl⟩ hW hN hS hr
    have hd : decode code pc = .ok (.ireturn, 1) := by
      rcases hr with ⟨h, -⟩ | ⟨x, ty, h1, h2, h3, h4⟩ | ⟨o, C, h, -⟩ | ⟨x, h, -⟩
      · cases h
      · exact h4
      · cases h
      · cases h
    refine W.widen (k := 600000) (n := 7302250) (Nat.le_of_ble_eq_true rfl) st_room2 ?_
    refine va_forget (fun q hq => hS.2.2 q hq) ?_
    exact lw_ret hx hc hret hlocks hd
  have := hlaw l g hL p e room_1 s m #[Value.ref b] below meth c (lw_Z below #[Value.ref b] s) hz s.heap [] _ hW0 (Nat.le_refl _) (by decide) va_S.rf hL9
  exact this
end
section
theorem zz_last : True := trivial
end
