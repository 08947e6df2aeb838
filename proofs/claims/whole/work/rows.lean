section
-- ===== PART A: goes FIRST, ahead of the names: the tables' words, and 'selects' of the private methods out of them =====
/-- a private method of a class that the tables say can be made, by its rows of tables_1 -/
def lw_okq (q : MethodName × Nat) : Prop := (q.1.cls ≠ "java/lang/invoke/MethodHandle" ∧ q.1.cls ≠ "java/lang/invoke/VarHandle") ∧ Cond.instantiable q.1.cls q.2 ∈ tables_1 ∧ Cond.privateMethod q.1 ∈ tables_1 ∧ Cond.instanceMethod q.1 ∈ tables_1
theorem lw_p0 : lw_okq (⟨"SetsStayTogether$HouseReader", "line", "(LSetsStayTogether$House;)V"⟩, 1) := ⟨⟨by decide +kernel, by decide +kernel⟩, List.mem_of_getElem? (i := 75) (by decide +kernel), List.mem_of_getElem? (i := 454) (by decide +kernel), List.mem_of_getElem? (i := 455) (by decide +kernel)⟩
theorem lw_p1 : lw_okq (⟨"SetsStayTogether$Reader", "counted", "(III)I"⟩, 4) := ⟨⟨by decide +kernel, by decide +kernel⟩, List.mem_of_getElem? (i := 52) (by decide +kernel), List.mem_of_getElem? (i := 471) (by decide +kernel), List.mem_of_getElem? (i := 472) (by decide +kernel)⟩
theorem lw_p2 : lw_okq (⟨"SetsStayTogether$HouseReader", "doorLine", "(LSetsStayTogether$House;)V"⟩, 1) := ⟨⟨by decide +kernel, by decide +kernel⟩, List.mem_of_getElem? (i := 75) (by decide +kernel), List.mem_of_getElem? (i := 487) (by decide +kernel), List.mem_of_getElem? (i := 488) (by decide +kernel)⟩
theorem lw_p3 : lw_okq (⟨"SetsStayTogether$HouseReader", "letters", "(I)I"⟩, 1) := ⟨⟨by decide +kernel, by decide +kernel⟩, List.mem_of_getElem? (i := 75) (by decide +kernel), List.mem_of_getElem? (i := 509) (by decide +kernel), List.mem_of_getElem? (i := 510) (by decide +kernel)⟩
theorem lw_p4 : lw_okq (⟨"SetsStayTogether$HouseReader", "thingLine", "(LSetsStayTogether$House;)V"⟩, 1) := ⟨⟨by decide +kernel, by decide +kernel⟩, List.mem_of_getElem? (i := 75) (by decide +kernel), List.mem_of_getElem? (i := 526) (by decide +kernel), List.mem_of_getElem? (i := 527) (by decide +kernel)⟩
theorem lw_p5 : lw_okq (⟨"SetsStayTogether$House", "hangingOn", "(III)I"⟩, 13) := ⟨⟨by decide +kernel, by decide +kernel⟩, List.mem_of_getElem? (i := 100) (by decide +kernel), List.mem_of_getElem? (i := 553) (by decide +kernel), List.mem_of_getElem? (i := 554) (by decide +kernel)⟩
theorem lw_p6 : lw_okq (⟨"SetsStayTogether$House", "addClump", "(I)V"⟩, 13) := ⟨⟨by decide +kernel, by decide +kernel⟩, List.mem_of_getElem? (i := 100) (by decide +kernel), List.mem_of_getElem? (i := 557) (by decide +kernel), List.mem_of_getElem? (i := 558) (by decide +kernel)⟩
theorem lw_p7 : lw_okq (⟨"SetsStayTogether$Rule", "whole", "(LSetsStayTogether$Reader;)I"⟩, 3) := ⟨⟨by decide +kernel, by decide +kernel⟩, List.mem_of_getElem? (i := 179) (by decide +kernel), List.mem_of_getElem? (i := 574) (by decide +kernel), List.mem_of_getElem? (i := 575) (by decide +kernel)⟩
theorem lw_p8 : lw_okq (⟨"SetsStayTogether$Rule", "compared", "(LSetsStayTogether$Reader;I)I"⟩, 3) := ⟨⟨by decide +kernel, by decide +kernel⟩, List.mem_of_getElem? (i := 179) (by decide +kernel), List.mem_of_getElem? (i := 578) (by decide +kernel), List.mem_of_getElem? (i := 579) (by decide +kernel)⟩
theorem lw_p9 : lw_okq (⟨"SetsStayTogether$Rule", "summed", "(LSetsStayTogether$Reader;I)I"⟩, 3) := ⟨⟨by decide +kernel, by decide +kernel⟩, List.mem_of_getElem? (i := 179) (by decide +kernel), List.mem_of_getElem? (i := 582) (by decide +kernel), List.mem_of_getElem? (i := 583) (by decide +kernel)⟩
theorem lw_p10 : lw_okq (⟨"SetsStayTogether$Rule", "multiplied", "(LSetsStayTogether$Reader;I)I"⟩, 3) := ⟨⟨by decide +kernel, by decide +kernel⟩, List.mem_of_getElem? (i := 179) (by decide +kernel), List.mem_of_getElem? (i := 586) (by decide +kernel), List.mem_of_getElem? (i := 587) (by decide +kernel)⟩
theorem lw_p11 : lw_okq (⟨"SetsStayTogether$Rule", "negated", "(LSetsStayTogether$Reader;I)I"⟩, 3) := ⟨⟨by decide +kernel, by decide +kernel⟩, List.mem_of_getElem? (i := 179) (by decide +kernel), List.mem_of_getElem? (i := 590) (by decide +kernel), List.mem_of_getElem? (i := 591) (by decide +kernel)⟩
theorem lw_p12 : lw_okq (⟨"SetsStayTogether$Rule", "single", "(LSetsStayTogether$Reader;I)I"⟩, 3) := ⟨⟨by decide +kernel, by decide +kernel⟩, List.mem_of_getElem? (i := 179) (by decide +kernel), List.mem_of_getElem? (i := 595) (by decide +kernel), List.mem_of_getElem? (i := 596) (by decide +kernel)⟩
theorem lw_p13 : lw_okq (⟨"SetsStayTogether$Rule", "number", "(LSetsStayTogether$Reader;)I"⟩, 3) := ⟨⟨by decide +kernel, by decide +kernel⟩, List.mem_of_getElem? (i := 179) (by decide +kernel), List.mem_of_getElem? (i := 600) (by decide +kernel), List.mem_of_getElem? (i := 601) (by decide +kernel)⟩
theorem lw_p14 : lw_okq (⟨"SetsStayTogether", "attempt", "(II[II)I"⟩, 18) := ⟨⟨by decide +kernel, by decide +kernel⟩, List.mem_of_getElem? (i := 26) (by decide +kernel), List.mem_of_getElem? (i := 736) (by decide +kernel), List.mem_of_getElem? (i := 737) (by decide +kernel)⟩
theorem lw_p15 : lw_okq (⟨"SetsStayTogether$House", "oneStepFrom", "(II)I"⟩, 13) := ⟨⟨by decide +kernel, by decide +kernel⟩, List.mem_of_getElem? (i := 100) (by decide +kernel), List.mem_of_getElem? (i := 757) (by decide +kernel), List.mem_of_getElem? (i := 758) (by decide +kernel)⟩
def lw_privs_1 : List (MethodName × Nat) := [(⟨"SetsStayTogether$HouseReader", "line", "(LSetsStayTogether$House;)V"⟩, 1), (⟨"SetsStayTogether$Reader", "counted", "(III)I"⟩, 4), (⟨"SetsStayTogether$HouseReader", "doorLine", "(LSetsStayTogether$House;)V"⟩, 1), (⟨"SetsStayTogether$HouseReader", "letters", "(I)I"⟩, 1), (⟨"SetsStayTogether$HouseReader", "thingLine", "(LSetsStayTogether$House;)V"⟩, 1), (⟨"SetsStayTogether$House", "hangingOn", "(III)I"⟩, 13), (⟨"SetsStayTogether$House", "addClump", "(I)V"⟩, 13), (⟨"SetsStayTogether$Rule", "whole", "(LSetsStayTogether$Reader;)I"⟩, 3), (⟨"SetsStayTogether$Rule", "compared", "(LSetsStayTogether$Reader;I)I"⟩, 3), (⟨"SetsStayTogether$Rule", "summed", "(LSetsStayTogether$Reader;I)I"⟩, 3), (⟨"SetsStayTogether$Rule", "multiplied", "(LSetsStayTogether$Reader;I)I"⟩, 3), (⟨"SetsStayTogether$Rule", "negated", "(LSetsStayTogether$Reader;I)I"⟩, 3), (⟨"SetsStayTogether$Rule", "single", "(LSetsStayTogether$Reader;I)I"⟩, 3), (⟨"SetsStayTogether$Rule", "number", "(LSetsStayTogether$Reader;)I"⟩, 3), (⟨"SetsStayTogether", "attempt", "(II[II)I"⟩, 18), (⟨"SetsStayTogether$House", "oneStepFrom", "(II)I"⟩, 13)]
theorem lw_r1 : ∀ q ∈ lw_privs_1, lw_okq q := List.forall_mem_cons.mpr ⟨lw_p0, List.forall_mem_cons.mpr ⟨lw_p1, List.forall_mem_cons.mpr ⟨lw_p2, List.forall_mem_cons.mpr ⟨lw_p3, List.forall_mem_cons.mpr ⟨lw_p4, List.forall_mem_cons.mpr ⟨lw_p5, List.forall_mem_cons.mpr ⟨lw_p6, List.forall_mem_cons.mpr ⟨lw_p7, List.forall_mem_cons.mpr ⟨lw_p8, List.forall_mem_cons.mpr ⟨lw_p9, List.forall_mem_cons.mpr ⟨lw_p10, List.forall_mem_cons.mpr ⟨lw_p11, List.forall_mem_cons.mpr ⟨lw_p12, List.forall_mem_cons.mpr ⟨lw_p13, List.forall_mem_cons.mpr ⟨lw_p14, List.forall_mem_cons.mpr ⟨lw_p15, fun _ h => absurd h List.not_mem_nil⟩⟩⟩⟩⟩⟩⟩⟩⟩⟩⟩⟩⟩⟩⟩⟩
theorem lw_p16 : lw_okq (⟨"SetsStayTogether", "bring", "(III)V"⟩, 18) := ⟨⟨by decide +kernel, by decide +kernel⟩, List.mem_of_getElem? (i := 26) (by decide +kernel), List.mem_of_getElem? (i := 761) (by decide +kernel), List.mem_of_getElem? (i := 762) (by decide +kernel)⟩
theorem lw_p17 : lw_okq (⟨"SetsStayTogether$Past", "dropFirst", "()V"⟩, 4) := ⟨⟨by decide +kernel, by decide +kernel⟩, List.mem_of_getElem? (i := 248) (by decide +kernel), List.mem_of_getElem? (i := 769) (by decide +kernel), List.mem_of_getElem? (i := 770) (by decide +kernel)⟩
theorem lw_p18 : lw_okq (⟨"SetsStayTogether$House", "areInOneRoom", "(I[I)Z"⟩, 13) := ⟨⟨by decide +kernel, by decide +kernel⟩, List.mem_of_getElem? (i := 100) (by decide +kernel), List.mem_of_getElem? (i := 781) (by decide +kernel), List.mem_of_getElem? (i := 782) (by decide +kernel)⟩
theorem lw_p19 : lw_okq (⟨"SetsStayTogether", "sleep", "()I"⟩, 18) := ⟨⟨by decide +kernel, by decide +kernel⟩, List.mem_of_getElem? (i := 26) (by decide +kernel), List.mem_of_getElem? (i := 810) (by decide +kernel), List.mem_of_getElem? (i := 811) (by decide +kernel)⟩
theorem lw_p20 : lw_okq (⟨"SetsStayTogether", "dayFault", "()I"⟩, 18) := ⟨⟨by decide +kernel, by decide +kernel⟩, List.mem_of_getElem? (i := 26) (by decide +kernel), List.mem_of_getElem? (i := 818) (by decide +kernel), List.mem_of_getElem? (i := 819) (by decide +kernel)⟩
theorem lw_p21 : lw_okq (⟨"SetsStayTogether", "readCarrying", "()V"⟩, 18) := ⟨⟨by decide +kernel, by decide +kernel⟩, List.mem_of_getElem? (i := 26) (by decide +kernel), List.mem_of_getElem? (i := 823) (by decide +kernel), List.mem_of_getElem? (i := 824) (by decide +kernel)⟩
theorem lw_p22 : lw_okq (⟨"SetsStayTogether$Walk", "isRoomEnough", "()Z"⟩, 12) := ⟨⟨by decide +kernel, by decide +kernel⟩, List.mem_of_getElem? (i := 200) (by decide +kernel), List.mem_of_getElem? (i := 924) (by decide +kernel), List.mem_of_getElem? (i := 925) (by decide +kernel)⟩
theorem lw_p23 : lw_okq (⟨"SetsStayTogether$Walk", "shift", "(I)Z"⟩, 12) := ⟨⟨by decide +kernel, by decide +kernel⟩, List.mem_of_getElem? (i := 200) (by decide +kernel), List.mem_of_getElem? (i := 928) (by decide +kernel), List.mem_of_getElem? (i := 929) (by decide +kernel)⟩
theorem lw_p24 : lw_okq (⟨"SetsStayTogether$Walk", "sum", "()I"⟩, 12) := ⟨⟨by decide +kernel, by decide +kernel⟩, List.mem_of_getElem? (i := 200) (by decide +kernel), List.mem_of_getElem? (i := 933) (by decide +kernel), List.mem_of_getElem? (i := 934) (by decide +kernel)⟩
theorem lw_p25 : lw_okq (⟨"SetsStayTogether", "tellChosen", "()V"⟩, 18) := ⟨⟨by decide +kernel, by decide +kernel⟩, List.mem_of_getElem? (i := 26) (by decide +kernel), List.mem_of_getElem? (i := 938) (by decide +kernel), List.mem_of_getElem? (i := 939) (by decide +kernel)⟩
theorem lw_p26 : lw_okq (⟨"SetsStayTogether", "nearest", "(II)I"⟩, 18) := ⟨⟨by decide +kernel, by decide +kernel⟩, List.mem_of_getElem? (i := 26) (by decide +kernel), List.mem_of_getElem? (i := 981) (by decide +kernel), List.mem_of_getElem? (i := 982) (by decide +kernel)⟩
theorem lw_p27 : lw_okq (⟨"SetsStayTogether", "chooseByBulk", "(III)Z"⟩, 18) := ⟨⟨by decide +kernel, by decide +kernel⟩, List.mem_of_getElem? (i := 26) (by decide +kernel), List.mem_of_getElem? (i := 998) (by decide +kernel), List.mem_of_getElem? (i := 999) (by decide +kernel)⟩
theorem lw_p28 : lw_okq (⟨"SetsStayTogether", "aimFault", "()I"⟩, 18) := ⟨⟨by decide +kernel, by decide +kernel⟩, List.mem_of_getElem? (i := 26) (by decide +kernel), List.mem_of_getElem? (i := 1099) (by decide +kernel), List.mem_of_getElem? (i := 1100) (by decide +kernel)⟩
theorem lw_p29 : lw_okq (⟨"SetsStayTogether", "hasAim", "()Z"⟩, 18) := ⟨⟨by decide +kernel, by decide +kernel⟩, List.mem_of_getElem? (i := 26) (by decide +kernel), List.mem_of_getElem? (i := 1107) (by decide +kernel), List.mem_of_getElem? (i := 1108) (by decide +kernel)⟩
theorem lw_p30 : lw_okq (⟨"SetsStayTogether$Turns", "isLawful", "(LSetsStayTogether$House;[II)Z"⟩, 4) := ⟨⟨by decide +kernel, by decide +kernel⟩, List.mem_of_getElem? (i := 300) (by decide +kernel), List.mem_of_getElem? (i := 1123) (by decide +kernel), List.mem_of_getElem? (i := 1124) (by decide +kernel)⟩
theorem lw_p31 : lw_okq (⟨"SetsStayTogether$Turns", "firstOpen", "(II)I"⟩, 4) := ⟨⟨by decide +kernel, by decide +kernel⟩, List.mem_of_getElem? (i := 300) (by decide +kernel), List.mem_of_getElem? (i := 1129) (by decide +kernel), List.mem_of_getElem? (i := 1130) (by decide +kernel)⟩
def lw_privs_2 : List (MethodName × Nat) := [(⟨"SetsStayTogether", "bring", "(III)V"⟩, 18), (⟨"SetsStayTogether$Past", "dropFirst", "()V"⟩, 4), (⟨"SetsStayTogether$House", "areInOneRoom", "(I[I)Z"⟩, 13), (⟨"SetsStayTogether", "sleep", "()I"⟩, 18), (⟨"SetsStayTogether", "dayFault", "()I"⟩, 18), (⟨"SetsStayTogether", "readCarrying", "()V"⟩, 18), (⟨"SetsStayTogether$Walk", "isRoomEnough", "()Z"⟩, 12), (⟨"SetsStayTogether$Walk", "shift", "(I)Z"⟩, 12), (⟨"SetsStayTogether$Walk", "sum", "()I"⟩, 12), (⟨"SetsStayTogether", "tellChosen", "()V"⟩, 18), (⟨"SetsStayTogether", "nearest", "(II)I"⟩, 18), (⟨"SetsStayTogether", "chooseByBulk", "(III)Z"⟩, 18), (⟨"SetsStayTogether", "aimFault", "()I"⟩, 18), (⟨"SetsStayTogether", "hasAim", "()Z"⟩, 18), (⟨"SetsStayTogether$Turns", "isLawful", "(LSetsStayTogether$House;[II)Z"⟩, 4), (⟨"SetsStayTogether$Turns", "firstOpen", "(II)I"⟩, 4)]
theorem lw_r2 : ∀ q ∈ lw_privs_2, lw_okq q := List.forall_mem_cons.mpr ⟨lw_p16, List.forall_mem_cons.mpr ⟨lw_p17, List.forall_mem_cons.mpr ⟨lw_p18, List.forall_mem_cons.mpr ⟨lw_p19, List.forall_mem_cons.mpr ⟨lw_p20, List.forall_mem_cons.mpr ⟨lw_p21, List.forall_mem_cons.mpr ⟨lw_p22, List.forall_mem_cons.mpr ⟨lw_p23, List.forall_mem_cons.mpr ⟨lw_p24, List.forall_mem_cons.mpr ⟨lw_p25, List.forall_mem_cons.mpr ⟨lw_p26, List.forall_mem_cons.mpr ⟨lw_p27, List.forall_mem_cons.mpr ⟨lw_p28, List.forall_mem_cons.mpr ⟨lw_p29, List.forall_mem_cons.mpr ⟨lw_p30, List.forall_mem_cons.mpr ⟨lw_p31, fun _ h => absurd h List.not_mem_nil⟩⟩⟩⟩⟩⟩⟩⟩⟩⟩⟩⟩⟩⟩⟩⟩
theorem lw_p32 : lw_okq (⟨"SetsStayTogether", "readyJourney", "()I"⟩, 18) := ⟨⟨by decide +kernel, by decide +kernel⟩, List.mem_of_getElem? (i := 26) (by decide +kernel), List.mem_of_getElem? (i := 1137) (by decide +kernel), List.mem_of_getElem? (i := 1138) (by decide +kernel)⟩
theorem lw_p33 : lw_okq (⟨"SetsStayTogether$Journey", "find", "(LSetsStayTogether$House;[I)I"⟩, 10) := ⟨⟨by decide +kernel, by decide +kernel⟩, List.mem_of_getElem? (i := 322) (by decide +kernel), List.mem_of_getElem? (i := 1158) (by decide +kernel), List.mem_of_getElem? (i := 1159) (by decide +kernel)⟩
theorem lw_p34 : lw_okq (⟨"SetsStayTogether$Journey", "fillCosts", "(LSetsStayTogether$House;)V"⟩, 10) := ⟨⟨by decide +kernel, by decide +kernel⟩, List.mem_of_getElem? (i := 322) (by decide +kernel), List.mem_of_getElem? (i := 1167) (by decide +kernel), List.mem_of_getElem? (i := 1168) (by decide +kernel)⟩
theorem lw_p35 : lw_okq (⟨"SetsStayTogether$Journey", "firstCost", "(LSetsStayTogether$House;I)I"⟩, 10) := ⟨⟨by decide +kernel, by decide +kernel⟩, List.mem_of_getElem? (i := 322) (by decide +kernel), List.mem_of_getElem? (i := 1172) (by decide +kernel), List.mem_of_getElem? (i := 1173) (by decide +kernel)⟩
theorem lw_p36 : lw_okq (⟨"SetsStayTogether$Journey", "firstBefore", "(II)I"⟩, 10) := ⟨⟨by decide +kernel, by decide +kernel⟩, List.mem_of_getElem? (i := 322) (by decide +kernel), List.mem_of_getElem? (i := 1180) (by decide +kernel), List.mem_of_getElem? (i := 1181) (by decide +kernel)⟩
theorem lw_p37 : lw_okq (⟨"SetsStayTogether$Journey", "goBack", "(II)Z"⟩, 10) := ⟨⟨by decide +kernel, by decide +kernel⟩, List.mem_of_getElem? (i := 322) (by decide +kernel), List.mem_of_getElem? (i := 1184) (by decide +kernel), List.mem_of_getElem? (i := 1185) (by decide +kernel)⟩
theorem lw_p38 : lw_okq (⟨"SetsStayTogether$Journey", "leastFrom", "(III)I"⟩, 10) := ⟨⟨by decide +kernel, by decide +kernel⟩, List.mem_of_getElem? (i := 322) (by decide +kernel), List.mem_of_getElem? (i := 1188) (by decide +kernel), List.mem_of_getElem? (i := 1189) (by decide +kernel)⟩
theorem lw_p39 : lw_okq (⟨"SetsStayTogether$Journey", "between", "(II)I"⟩, 10) := ⟨⟨by decide +kernel, by decide +kernel⟩, List.mem_of_getElem? (i := 322) (by decide +kernel), List.mem_of_getElem? (i := 1192) (by decide +kernel), List.mem_of_getElem? (i := 1193) (by decide +kernel)⟩
theorem lw_p40 : lw_okq (⟨"SetsStayTogether$Journey", "easiest", "()I"⟩, 10) := ⟨⟨by decide +kernel, by decide +kernel⟩, List.mem_of_getElem? (i := 322) (by decide +kernel), List.mem_of_getElem? (i := 1206) (by decide +kernel), List.mem_of_getElem? (i := 1207) (by decide +kernel)⟩
theorem lw_p41 : lw_okq (⟨"SetsStayTogether", "keptAt", "(I)LSetsStayTogether$Kept;"⟩, 18) := ⟨⟨by decide +kernel, by decide +kernel⟩, List.mem_of_getElem? (i := 26) (by decide +kernel), List.mem_of_getElem? (i := 1215) (by decide +kernel), List.mem_of_getElem? (i := 1216) (by decide +kernel)⟩
theorem lw_p42 : lw_okq (⟨"java/lang/Throwable", "fillInStackTrace", "(I)Ljava/lang/Throwable;"⟩, 6) := ⟨⟨by decide +kernel, by decide +kernel⟩, List.mem_of_getElem? (i := 1285) (by decide +kernel), List.mem_of_getElem? (i := 1283) (by decide +kernel), List.mem_of_getElem? (i := 1284) (by decide +kernel)⟩
theorem lw_p43 : lw_okq (⟨"SetsStayTogetherModel", "begin", "([BII)V"⟩, 56) := ⟨⟨by decide +kernel, by decide +kernel⟩, List.mem_of_getElem? (i := 1334) (by decide +kernel), List.mem_of_getElem? (i := 1529) (by decide +kernel), List.mem_of_getElem? (i := 1530) (by decide +kernel)⟩
theorem lw_p44 : lw_okq (⟨"SetsStayTogetherModel", "fine", "()Z"⟩, 56) := ⟨⟨by decide +kernel, by decide +kernel⟩, List.mem_of_getElem? (i := 1334) (by decide +kernel), List.mem_of_getElem? (i := 1533) (by decide +kernel), List.mem_of_getElem? (i := 1534) (by decide +kernel)⟩
theorem lw_p45 : lw_okq (⟨"SetsStayTogetherModel", "here", "()I"⟩, 56) := ⟨⟨by decide +kernel, by decide +kernel⟩, List.mem_of_getElem? (i := 1334) (by decide +kernel), List.mem_of_getElem? (i := 1537) (by decide +kernel), List.mem_of_getElem? (i := 1538) (by decide +kernel)⟩
theorem lw_p46 : lw_okq (⟨"SetsStayTogetherModel", "fault", "(I)V"⟩, 56) := ⟨⟨by decide +kernel, by decide +kernel⟩, List.mem_of_getElem? (i := 1334) (by decide +kernel), List.mem_of_getElem? (i := 1541) (by decide +kernel), List.mem_of_getElem? (i := 1542) (by decide +kernel)⟩
theorem lw_p47 : lw_okq (⟨"SetsStayTogetherModel", "number", "(III)I"⟩, 56) := ⟨⟨by decide +kernel, by decide +kernel⟩, List.mem_of_getElem? (i := 1334) (by decide +kernel), List.mem_of_getElem? (i := 1545) (by decide +kernel), List.mem_of_getElem? (i := 1546) (by decide +kernel)⟩
def lw_privs_3 : List (MethodName × Nat) := [(⟨"SetsStayTogether", "readyJourney", "()I"⟩, 18), (⟨"SetsStayTogether$Journey", "find", "(LSetsStayTogether$House;[I)I"⟩, 10), (⟨"SetsStayTogether$Journey", "fillCosts", "(LSetsStayTogether$House;)V"⟩, 10), (⟨"SetsStayTogether$Journey", "firstCost", "(LSetsStayTogether$House;I)I"⟩, 10), (⟨"SetsStayTogether$Journey", "firstBefore", "(II)I"⟩, 10), (⟨"SetsStayTogether$Journey", "goBack", "(II)Z"⟩, 10), (⟨"SetsStayTogether$Journey", "leastFrom", "(III)I"⟩, 10), (⟨"SetsStayTogether$Journey", "between", "(II)I"⟩, 10), (⟨"SetsStayTogether$Journey", "easiest", "()I"⟩, 10), (⟨"SetsStayTogether", "keptAt", "(I)LSetsStayTogether$Kept;"⟩, 18), (⟨"java/lang/Throwable", "fillInStackTrace", "(I)Ljava/lang/Throwable;"⟩, 6), (⟨"SetsStayTogetherModel", "begin", "([BII)V"⟩, 56), (⟨"SetsStayTogetherModel", "fine", "()Z"⟩, 56), (⟨"SetsStayTogetherModel", "here", "()I"⟩, 56), (⟨"SetsStayTogetherModel", "fault", "(I)V"⟩, 56), (⟨"SetsStayTogetherModel", "number", "(III)I"⟩, 56)]
theorem lw_r3 : ∀ q ∈ lw_privs_3, lw_okq q := List.forall_mem_cons.mpr ⟨lw_p32, List.forall_mem_cons.mpr ⟨lw_p33, List.forall_mem_cons.mpr ⟨lw_p34, List.forall_mem_cons.mpr ⟨lw_p35, List.forall_mem_cons.mpr ⟨lw_p36, List.forall_mem_cons.mpr ⟨lw_p37, List.forall_mem_cons.mpr ⟨lw_p38, List.forall_mem_cons.mpr ⟨lw_p39, List.forall_mem_cons.mpr ⟨lw_p40, List.forall_mem_cons.mpr ⟨lw_p41, List.forall_mem_cons.mpr ⟨lw_p42, List.forall_mem_cons.mpr ⟨lw_p43, List.forall_mem_cons.mpr ⟨lw_p44, List.forall_mem_cons.mpr ⟨lw_p45, List.forall_mem_cons.mpr ⟨lw_p46, List.forall_mem_cons.mpr ⟨lw_p47, fun _ h => absurd h List.not_mem_nil⟩⟩⟩⟩⟩⟩⟩⟩⟩⟩⟩⟩⟩⟩⟩⟩
theorem lw_p48 : lw_okq (⟨"SetsStayTogetherModel", "need", "(C)V"⟩, 56) := ⟨⟨by decide +kernel, by decide +kernel⟩, List.mem_of_getElem? (i := 1334) (by decide +kernel), List.mem_of_getElem? (i := 1549) (by decide +kernel), List.mem_of_getElem? (i := 1550) (by decide +kernel)⟩
theorem lw_p49 : lw_okq (⟨"SetsStayTogetherModel", "passes", "(C)Z"⟩, 56) := ⟨⟨by decide +kernel, by decide +kernel⟩, List.mem_of_getElem? (i := 1334) (by decide +kernel), List.mem_of_getElem? (i := 1553) (by decide +kernel), List.mem_of_getElem? (i := 1554) (by decide +kernel)⟩
theorem lw_p50 : lw_okq (⟨"SetsStayTogetherModel", "readSet", "(II)V"⟩, 56) := ⟨⟨by decide +kernel, by decide +kernel⟩, List.mem_of_getElem? (i := 1334) (by decide +kernel), List.mem_of_getElem? (i := 1557) (by decide +kernel), List.mem_of_getElem? (i := 1558) (by decide +kernel)⟩
theorem lw_p51 : lw_okq (⟨"SetsStayTogetherModel", "readThing", "(II)V"⟩, 56) := ⟨⟨by decide +kernel, by decide +kernel⟩, List.mem_of_getElem? (i := 1334) (by decide +kernel), List.mem_of_getElem? (i := 1561) (by decide +kernel), List.mem_of_getElem? (i := 1562) (by decide +kernel)⟩
theorem lw_p52 : lw_okq (⟨"SetsStayTogetherModel", "put", "(III)V"⟩, 56) := ⟨⟨by decide +kernel, by decide +kernel⟩, List.mem_of_getElem? (i := 1334) (by decide +kernel), List.mem_of_getElem? (i := 1565) (by decide +kernel), List.mem_of_getElem? (i := 1566) (by decide +kernel)⟩
theorem lw_p53 : lw_okq (⟨"SetsStayTogetherModel", "held", "(I)I"⟩, 56) := ⟨⟨by decide +kernel, by decide +kernel⟩, List.mem_of_getElem? (i := 1334) (by decide +kernel), List.mem_of_getElem? (i := 1573) (by decide +kernel), List.mem_of_getElem? (i := 1574) (by decide +kernel)⟩
theorem lw_p54 : lw_okq (⟨"SetsStayTogetherModel", "sum", "(I)I"⟩, 56) := ⟨⟨by decide +kernel, by decide +kernel⟩, List.mem_of_getElem? (i := 1334) (by decide +kernel), List.mem_of_getElem? (i := 1577) (by decide +kernel), List.mem_of_getElem? (i := 1578) (by decide +kernel)⟩
theorem lw_p55 : lw_okq (⟨"SetsStayTogetherModel", "product", "(I)I"⟩, 56) := ⟨⟨by decide +kernel, by decide +kernel⟩, List.mem_of_getElem? (i := 1334) (by decide +kernel), List.mem_of_getElem? (i := 1581) (by decide +kernel), List.mem_of_getElem? (i := 1582) (by decide +kernel)⟩
theorem lw_p56 : lw_okq (⟨"SetsStayTogetherModel", "factor", "(I)I"⟩, 56) := ⟨⟨by decide +kernel, by decide +kernel⟩, List.mem_of_getElem? (i := 1334) (by decide +kernel), List.mem_of_getElem? (i := 1585) (by decide +kernel), List.mem_of_getElem? (i := 1586) (by decide +kernel)⟩
theorem lw_p57 : lw_okq (⟨"SetsStayTogetherModel", "letter", "(III)I"⟩, 56) := ⟨⟨by decide +kernel, by decide +kernel⟩, List.mem_of_getElem? (i := 1334) (by decide +kernel), List.mem_of_getElem? (i := 1589) (by decide +kernel), List.mem_of_getElem? (i := 1590) (by decide +kernel)⟩
theorem lw_p58 : lw_okq (⟨"SetsStayTogetherModel", "setsOf", "(I)I"⟩, 56) := ⟨⟨by decide +kernel, by decide +kernel⟩, List.mem_of_getElem? (i := 1334) (by decide +kernel), List.mem_of_getElem? (i := 1593) (by decide +kernel), List.mem_of_getElem? (i := 1594) (by decide +kernel)⟩
theorem lw_p59 : lw_okq (⟨"SetsStayTogetherModel", "besides", "(I)I"⟩, 56) := ⟨⟨by decide +kernel, by decide +kernel⟩, List.mem_of_getElem? (i := 1334) (by decide +kernel), List.mem_of_getElem? (i := 1601) (by decide +kernel), List.mem_of_getElem? (i := 1602) (by decide +kernel)⟩
theorem lw_p60 : lw_okq (⟨"SetsStayTogetherModel", "isRoom", "(I)Z"⟩, 56) := ⟨⟨by decide +kernel, by decide +kernel⟩, List.mem_of_getElem? (i := 1334) (by decide +kernel), List.mem_of_getElem? (i := 1609) (by decide +kernel), List.mem_of_getElem? (i := 1610) (by decide +kernel)⟩
theorem lw_p61 : lw_okq (⟨"SetsStayTogetherModel", "lost", "()I"⟩, 56) := ⟨⟨by decide +kernel, by decide +kernel⟩, List.mem_of_getElem? (i := 1334) (by decide +kernel), List.mem_of_getElem? (i := 1613) (by decide +kernel), List.mem_of_getElem? (i := 1614) (by decide +kernel)⟩
theorem lw_p62 : lw_okq (⟨"SetsStayTogetherModel", "freeIn", "([II)I"⟩, 56) := ⟨⟨by decide +kernel, by decide +kernel⟩, List.mem_of_getElem? (i := 1334) (by decide +kernel), List.mem_of_getElem? (i := 1617) (by decide +kernel), List.mem_of_getElem? (i := 1618) (by decide +kernel)⟩
theorem lw_p63 : lw_okq (⟨"SetsStayTogetherModel", "isThing", "(I)Z"⟩, 56) := ⟨⟨by decide +kernel, by decide +kernel⟩, List.mem_of_getElem? (i := 1334) (by decide +kernel), List.mem_of_getElem? (i := 1625) (by decide +kernel), List.mem_of_getElem? (i := 1626) (by decide +kernel)⟩
def lw_privs_4 : List (MethodName × Nat) := [(⟨"SetsStayTogetherModel", "need", "(C)V"⟩, 56), (⟨"SetsStayTogetherModel", "passes", "(C)Z"⟩, 56), (⟨"SetsStayTogetherModel", "readSet", "(II)V"⟩, 56), (⟨"SetsStayTogetherModel", "readThing", "(II)V"⟩, 56), (⟨"SetsStayTogetherModel", "put", "(III)V"⟩, 56), (⟨"SetsStayTogetherModel", "held", "(I)I"⟩, 56), (⟨"SetsStayTogetherModel", "sum", "(I)I"⟩, 56), (⟨"SetsStayTogetherModel", "product", "(I)I"⟩, 56), (⟨"SetsStayTogetherModel", "factor", "(I)I"⟩, 56), (⟨"SetsStayTogetherModel", "letter", "(III)I"⟩, 56), (⟨"SetsStayTogetherModel", "setsOf", "(I)I"⟩, 56), (⟨"SetsStayTogetherModel", "besides", "(I)I"⟩, 56), (⟨"SetsStayTogetherModel", "isRoom", "(I)Z"⟩, 56), (⟨"SetsStayTogetherModel", "lost", "()I"⟩, 56), (⟨"SetsStayTogetherModel", "freeIn", "([II)I"⟩, 56), (⟨"SetsStayTogetherModel", "isThing", "(I)Z"⟩, 56)]
theorem lw_r4 : ∀ q ∈ lw_privs_4, lw_okq q := List.forall_mem_cons.mpr ⟨lw_p48, List.forall_mem_cons.mpr ⟨lw_p49, List.forall_mem_cons.mpr ⟨lw_p50, List.forall_mem_cons.mpr ⟨lw_p51, List.forall_mem_cons.mpr ⟨lw_p52, List.forall_mem_cons.mpr ⟨lw_p53, List.forall_mem_cons.mpr ⟨lw_p54, List.forall_mem_cons.mpr ⟨lw_p55, List.forall_mem_cons.mpr ⟨lw_p56, List.forall_mem_cons.mpr ⟨lw_p57, List.forall_mem_cons.mpr ⟨lw_p58, List.forall_mem_cons.mpr ⟨lw_p59, List.forall_mem_cons.mpr ⟨lw_p60, List.forall_mem_cons.mpr ⟨lw_p61, List.forall_mem_cons.mpr ⟨lw_p62, List.forall_mem_cons.mpr ⟨lw_p63, fun _ h => absurd h List.not_mem_nil⟩⟩⟩⟩⟩⟩⟩⟩⟩⟩⟩⟩⟩⟩⟩⟩
theorem lw_p64 : lw_okq (⟨"SetsStayTogetherModel", "findClumps", "(II)V"⟩, 56) := ⟨⟨by decide +kernel, by decide +kernel⟩, List.mem_of_getElem? (i := 1334) (by decide +kernel), List.mem_of_getElem? (i := 1629) (by decide +kernel), List.mem_of_getElem? (i := 1630) (by decide +kernel)⟩
theorem lw_p65 : lw_okq (⟨"SetsStayTogetherModel", "worthOf", "(II)I"⟩, 56) := ⟨⟨by decide +kernel, by decide +kernel⟩, List.mem_of_getElem? (i := 1334) (by decide +kernel), List.mem_of_getElem? (i := 1633) (by decide +kernel), List.mem_of_getElem? (i := 1634) (by decide +kernel)⟩
theorem lw_p66 : lw_okq (⟨"SetsStayTogetherModel", "refusal", "(II)I"⟩, 56) := ⟨⟨by decide +kernel, by decide +kernel⟩, List.mem_of_getElem? (i := 1334) (by decide +kernel), List.mem_of_getElem? (i := 1663) (by decide +kernel), List.mem_of_getElem? (i := 1664) (by decide +kernel)⟩
theorem lw_p67 : lw_okq (⟨"SetsStayTogetherModel", "steps", "(III)I"⟩, 56) := ⟨⟨by decide +kernel, by decide +kernel⟩, List.mem_of_getElem? (i := 1334) (by decide +kernel), List.mem_of_getElem? (i := 1667) (by decide +kernel), List.mem_of_getElem? (i := 1668) (by decide +kernel)⟩
theorem lw_p68 : lw_okq (⟨"SetsStayTogetherModel", "findFar", "(II)V"⟩, 56) := ⟨⟨by decide +kernel, by decide +kernel⟩, List.mem_of_getElem? (i := 1334) (by decide +kernel), List.mem_of_getElem? (i := 1671) (by decide +kernel), List.mem_of_getElem? (i := 1672) (by decide +kernel)⟩
theorem lw_p69 : lw_okq (⟨"SetsStayTogetherModel", "remember", "(I)V"⟩, 56) := ⟨⟨by decide +kernel, by decide +kernel⟩, List.mem_of_getElem? (i := 1334) (by decide +kernel), List.mem_of_getElem? (i := 1676) (by decide +kernel), List.mem_of_getElem? (i := 1677) (by decide +kernel)⟩
theorem lw_p70 : lw_okq (⟨"SetsStayTogetherModel", "carries", "(II)I"⟩, 56) := ⟨⟨by decide +kernel, by decide +kernel⟩, List.mem_of_getElem? (i := 1334) (by decide +kernel), List.mem_of_getElem? (i := 1680) (by decide +kernel), List.mem_of_getElem? (i := 1681) (by decide +kernel)⟩
theorem lw_p71 : lw_okq (⟨"SetsStayTogetherModel", "partedSets", "([I)I"⟩, 56) := ⟨⟨by decide +kernel, by decide +kernel⟩, List.mem_of_getElem? (i := 1334) (by decide +kernel), List.mem_of_getElem? (i := 1688) (by decide +kernel), List.mem_of_getElem? (i := 1689) (by decide +kernel)⟩
theorem lw_p72 : lw_okq (⟨"SetsStayTogetherModel", "fullRooms", "([I)I"⟩, 56) := ⟨⟨by decide +kernel, by decide +kernel⟩, List.mem_of_getElem? (i := 1334) (by decide +kernel), List.mem_of_getElem? (i := 1693) (by decide +kernel), List.mem_of_getElem? (i := 1694) (by decide +kernel)⟩
theorem lw_p73 : lw_okq (⟨"SetsStayTogetherModel", "tell", "(I)V"⟩, 56) := ⟨⟨by decide +kernel, by decide +kernel⟩, List.mem_of_getElem? (i := 1334) (by decide +kernel), List.mem_of_getElem? (i := 1697) (by decide +kernel), List.mem_of_getElem? (i := 1698) (by decide +kernel)⟩
theorem lw_p74 : lw_okq (⟨"SetsStayTogetherModel", "goEvening", "()Z"⟩, 56) := ⟨⟨by decide +kernel, by decide +kernel⟩, List.mem_of_getElem? (i := 1334) (by decide +kernel), List.mem_of_getElem? (i := 1701) (by decide +kernel), List.mem_of_getElem? (i := 1702) (by decide +kernel)⟩
theorem lw_p75 : lw_okq (⟨"SetsStayTogetherModel", "isLawful", "([I)Z"⟩, 56) := ⟨⟨by decide +kernel, by decide +kernel⟩, List.mem_of_getElem? (i := 1334) (by decide +kernel), List.mem_of_getElem? (i := 1705) (by decide +kernel), List.mem_of_getElem? (i := 1706) (by decide +kernel)⟩
theorem lw_p76 : lw_okq (⟨"SetsStayTogetherModel", "bulkOf", "(I)I"⟩, 56) := ⟨⟨by decide +kernel, by decide +kernel⟩, List.mem_of_getElem? (i := 1334) (by decide +kernel), List.mem_of_getElem? (i := 1729) (by decide +kernel), List.mem_of_getElem? (i := 1730) (by decide +kernel)⟩
theorem lw_p77 : lw_okq (⟨"SetsStayTogetherModel", "isTooMuch", "()Z"⟩, 56) := ⟨⟨by decide +kernel, by decide +kernel⟩, List.mem_of_getElem? (i := 1334) (by decide +kernel), List.mem_of_getElem? (i := 1749) (by decide +kernel), List.mem_of_getElem? (i := 1750) (by decide +kernel)⟩
theorem lw_p78 : lw_okq (⟨"SetsStayTogetherModel", "beginRows", "()V"⟩, 56) := ⟨⟨by decide +kernel, by decide +kernel⟩, List.mem_of_getElem? (i := 1334) (by decide +kernel), List.mem_of_getElem? (i := 1753) (by decide +kernel), List.mem_of_getElem? (i := 1754) (by decide +kernel)⟩
theorem lw_p79 : lw_okq (⟨"SetsStayTogetherModel", "nextRow", "()Z"⟩, 56) := ⟨⟨by decide +kernel, by decide +kernel⟩, List.mem_of_getElem? (i := 1334) (by decide +kernel), List.mem_of_getElem? (i := 1757) (by decide +kernel), List.mem_of_getElem? (i := 1758) (by decide +kernel)⟩
def lw_privs_5 : List (MethodName × Nat) := [(⟨"SetsStayTogetherModel", "findClumps", "(II)V"⟩, 56), (⟨"SetsStayTogetherModel", "worthOf", "(II)I"⟩, 56), (⟨"SetsStayTogetherModel", "refusal", "(II)I"⟩, 56), (⟨"SetsStayTogetherModel", "steps", "(III)I"⟩, 56), (⟨"SetsStayTogetherModel", "findFar", "(II)V"⟩, 56), (⟨"SetsStayTogetherModel", "remember", "(I)V"⟩, 56), (⟨"SetsStayTogetherModel", "carries", "(II)I"⟩, 56), (⟨"SetsStayTogetherModel", "partedSets", "([I)I"⟩, 56), (⟨"SetsStayTogetherModel", "fullRooms", "([I)I"⟩, 56), (⟨"SetsStayTogetherModel", "tell", "(I)V"⟩, 56), (⟨"SetsStayTogetherModel", "goEvening", "()Z"⟩, 56), (⟨"SetsStayTogetherModel", "isLawful", "([I)Z"⟩, 56), (⟨"SetsStayTogetherModel", "bulkOf", "(I)I"⟩, 56), (⟨"SetsStayTogetherModel", "isTooMuch", "()Z"⟩, 56), (⟨"SetsStayTogetherModel", "beginRows", "()V"⟩, 56), (⟨"SetsStayTogetherModel", "nextRow", "()Z"⟩, 56)]
theorem lw_r5 : ∀ q ∈ lw_privs_5, lw_okq q := List.forall_mem_cons.mpr ⟨lw_p64, List.forall_mem_cons.mpr ⟨lw_p65, List.forall_mem_cons.mpr ⟨lw_p66, List.forall_mem_cons.mpr ⟨lw_p67, List.forall_mem_cons.mpr ⟨lw_p68, List.forall_mem_cons.mpr ⟨lw_p69, List.forall_mem_cons.mpr ⟨lw_p70, List.forall_mem_cons.mpr ⟨lw_p71, List.forall_mem_cons.mpr ⟨lw_p72, List.forall_mem_cons.mpr ⟨lw_p73, List.forall_mem_cons.mpr ⟨lw_p74, List.forall_mem_cons.mpr ⟨lw_p75, List.forall_mem_cons.mpr ⟨lw_p76, List.forall_mem_cons.mpr ⟨lw_p77, List.forall_mem_cons.mpr ⟨lw_p78, List.forall_mem_cons.mpr ⟨lw_p79, fun _ h => absurd h List.not_mem_nil⟩⟩⟩⟩⟩⟩⟩⟩⟩⟩⟩⟩⟩⟩⟩⟩
theorem lw_p80 : lw_okq (⟨"SetsStayTogetherModel", "isFine", "()Z"⟩, 56) := ⟨⟨by decide +kernel, by decide +kernel⟩, List.mem_of_getElem? (i := 1334) (by decide +kernel), List.mem_of_getElem? (i := 1761) (by decide +kernel), List.mem_of_getElem? (i := 1762) (by decide +kernel)⟩
theorem lw_p81 : lw_okq (⟨"SetsStayTogetherModel", "take", "()V"⟩, 56) := ⟨⟨by decide +kernel, by decide +kernel⟩, List.mem_of_getElem? (i := 1334) (by decide +kernel), List.mem_of_getElem? (i := 1765) (by decide +kernel), List.mem_of_getElem? (i := 1766) (by decide +kernel)⟩
theorem lw_p82 : lw_okq (⟨"SetsStayTogetherModel", "tellRow", "([I)V"⟩, 56) := ⟨⟨by decide +kernel, by decide +kernel⟩, List.mem_of_getElem? (i := 1334) (by decide +kernel), List.mem_of_getElem? (i := 1769) (by decide +kernel), List.mem_of_getElem? (i := 1770) (by decide +kernel)⟩
theorem lw_p83 : lw_okq (⟨"SetsStayTogetherModel", "worthAll", "([I)I"⟩, 56) := ⟨⟨by decide +kernel, by decide +kernel⟩, List.mem_of_getElem? (i := 1334) (by decide +kernel), List.mem_of_getElem? (i := 1777) (by decide +kernel), List.mem_of_getElem? (i := 1778) (by decide +kernel)⟩
theorem lw_p84 : lw_okq (⟨"SetsStayTogetherModel", "nearest", "(II)I"⟩, 56) := ⟨⟨by decide +kernel, by decide +kernel⟩, List.mem_of_getElem? (i := 1334) (by decide +kernel), List.mem_of_getElem? (i := 1789) (by decide +kernel), List.mem_of_getElem? (i := 1790) (by decide +kernel)⟩
theorem lw_p85 : lw_okq (⟨"SetsStayTogetherModel", "costOf", "([II[II)I"⟩, 56) := ⟨⟨by decide +kernel, by decide +kernel⟩, List.mem_of_getElem? (i := 1334) (by decide +kernel), List.mem_of_getElem? (i := 1793) (by decide +kernel), List.mem_of_getElem? (i := 1794) (by decide +kernel)⟩
theorem lw_p86 : lw_okq (⟨"SetsStayTogetherModel", "isLess", "(II)Z"⟩, 56) := ⟨⟨by decide +kernel, by decide +kernel⟩, List.mem_of_getElem? (i := 1334) (by decide +kernel), List.mem_of_getElem? (i := 1829) (by decide +kernel), List.mem_of_getElem? (i := 1830) (by decide +kernel)⟩
theorem lw_p87 : lw_okq (⟨"SetsStayTogetherModel", "isEnough", "(II)Z"⟩, 56) := ⟨⟨by decide +kernel, by decide +kernel⟩, List.mem_of_getElem? (i := 1334) (by decide +kernel), List.mem_of_getElem? (i := 1837) (by decide +kernel), List.mem_of_getElem? (i := 1838) (by decide +kernel)⟩
theorem lw_p88 : lw_okq (⟨"SetsStayTogetherModel", "comeTo", "(I)I"⟩, 56) := ⟨⟨by decide +kernel, by decide +kernel⟩, List.mem_of_getElem? (i := 1334) (by decide +kernel), List.mem_of_getElem? (i := 1857) (by decide +kernel), List.mem_of_getElem? (i := 1858) (by decide +kernel)⟩
theorem lw_p89 : lw_okq (⟨"SetsStayTogetherModel", "hasAim", "()Z"⟩, 56) := ⟨⟨by decide +kernel, by decide +kernel⟩, List.mem_of_getElem? (i := 1334) (by decide +kernel), List.mem_of_getElem? (i := 1869) (by decide +kernel), List.mem_of_getElem? (i := 1870) (by decide +kernel)⟩
theorem lw_p90 : lw_okq (⟨"SetsStayTogetherModel", "isLawfulWith", "(I)Z"⟩, 56) := ⟨⟨by decide +kernel, by decide +kernel⟩, List.mem_of_getElem? (i := 1334) (by decide +kernel), List.mem_of_getElem? (i := 1877) (by decide +kernel), List.mem_of_getElem? (i := 1878) (by decide +kernel)⟩
theorem lw_p91 : lw_okq (⟨"SetsStayTogetherModel", "isThere", "()Z"⟩, 56) := ⟨⟨by decide +kernel, by decide +kernel⟩, List.mem_of_getElem? (i := 1334) (by decide +kernel), List.mem_of_getElem? (i := 1885) (by decide +kernel), List.mem_of_getElem? (i := 1886) (by decide +kernel)⟩
theorem lw_p92 : lw_okq (⟨"SetsStayTogetherModel", "findAims", "()Z"⟩, 56) := ⟨⟨by decide +kernel, by decide +kernel⟩, List.mem_of_getElem? (i := 1334) (by decide +kernel), List.mem_of_getElem? (i := 1889) (by decide +kernel), List.mem_of_getElem? (i := 1890) (by decide +kernel)⟩
theorem lw_p93 : lw_okq (⟨"SetsStayTogetherModel", "findEvenings", "(I)V"⟩, 56) := ⟨⟨by decide +kernel, by decide +kernel⟩, List.mem_of_getElem? (i := 1334) (by decide +kernel), List.mem_of_getElem? (i := 1893) (by decide +kernel), List.mem_of_getElem? (i := 1894) (by decide +kernel)⟩
theorem lw_p94 : lw_okq (⟨"SetsStayTogetherModel", "isCost", "(I)Z"⟩, 56) := ⟨⟨by decide +kernel, by decide +kernel⟩, List.mem_of_getElem? (i := 1334) (by decide +kernel), List.mem_of_getElem? (i := 1901) (by decide +kernel), List.mem_of_getElem? (i := 1902) (by decide +kernel)⟩
def lw_privs_6 : List (MethodName × Nat) := [(⟨"SetsStayTogetherModel", "isFine", "()Z"⟩, 56), (⟨"SetsStayTogetherModel", "take", "()V"⟩, 56), (⟨"SetsStayTogetherModel", "tellRow", "([I)V"⟩, 56), (⟨"SetsStayTogetherModel", "worthAll", "([I)I"⟩, 56), (⟨"SetsStayTogetherModel", "nearest", "(II)I"⟩, 56), (⟨"SetsStayTogetherModel", "costOf", "([II[II)I"⟩, 56), (⟨"SetsStayTogetherModel", "isLess", "(II)Z"⟩, 56), (⟨"SetsStayTogetherModel", "isEnough", "(II)Z"⟩, 56), (⟨"SetsStayTogetherModel", "comeTo", "(I)I"⟩, 56), (⟨"SetsStayTogetherModel", "hasAim", "()Z"⟩, 56), (⟨"SetsStayTogetherModel", "isLawfulWith", "(I)Z"⟩, 56), (⟨"SetsStayTogetherModel", "isThere", "()Z"⟩, 56), (⟨"SetsStayTogetherModel", "findAims", "()Z"⟩, 56), (⟨"SetsStayTogetherModel", "findEvenings", "(I)V"⟩, 56), (⟨"SetsStayTogetherModel", "isCost", "(I)Z"⟩, 56)]
theorem lw_r6 : ∀ q ∈ lw_privs_6, lw_okq q := List.forall_mem_cons.mpr ⟨lw_p80, List.forall_mem_cons.mpr ⟨lw_p81, List.forall_mem_cons.mpr ⟨lw_p82, List.forall_mem_cons.mpr ⟨lw_p83, List.forall_mem_cons.mpr ⟨lw_p84, List.forall_mem_cons.mpr ⟨lw_p85, List.forall_mem_cons.mpr ⟨lw_p86, List.forall_mem_cons.mpr ⟨lw_p87, List.forall_mem_cons.mpr ⟨lw_p88, List.forall_mem_cons.mpr ⟨lw_p89, List.forall_mem_cons.mpr ⟨lw_p90, List.forall_mem_cons.mpr ⟨lw_p91, List.forall_mem_cons.mpr ⟨lw_p92, List.forall_mem_cons.mpr ⟨lw_p93, List.forall_mem_cons.mpr ⟨lw_p94, fun _ h => absurd h List.not_mem_nil⟩⟩⟩⟩⟩⟩⟩⟩⟩⟩⟩⟩⟩⟩⟩
def lw_privs : List (MethodName × Nat) := lw_privs_1 ++ (lw_privs_2 ++ (lw_privs_3 ++ (lw_privs_4 ++ (lw_privs_5 ++ (lw_privs_6)))))
def lw_tbl : List Cond := k2_sels lw_privs ++ tables_1
theorem lw_privs_ok : ∀ q ∈ lw_privs, lw_okq q := by
  show ∀ q ∈ lw_privs_1 ++ (lw_privs_2 ++ (lw_privs_3 ++ (lw_privs_4 ++ (lw_privs_5 ++ (lw_privs_6))))), lw_okq q
  exact List.forall_mem_append.mpr ⟨lw_r1, List.forall_mem_append.mpr ⟨lw_r2, List.forall_mem_append.mpr ⟨lw_r3, List.forall_mem_append.mpr ⟨lw_r4, List.forall_mem_append.mpr ⟨lw_r5, lw_r6⟩⟩⟩⟩⟩
-- ===== end of PART A; then your names; then what follows =====
end
section
/-! ===== BEGIN words of one list among another's, by their places ===== -/
theorem goodIn_r {big : List Cond} (ws : List Cond) (ps : List Nat) (hp : ws = ps.filterMap (fun i => big[i]?)) (h : ws.all goodWord = true) : GoodIn big ws := by
  intro w hw
  have h1 := List.all_eq_true.mp h w hw
  rw [hp] at hw
  obtain ⟨i, -, hi⟩ := List.mem_filterMap.mp hw
  have hm : w ∈ big := by first | exact List.mem_of_getElem? hi | exact List.getElem?_mem hi
  exact ⟨hm, good_of_word h1⟩
theorem goodIn_app {big a b : List Cond} (ha : GoodIn big a) (hb : GoodIn big b) : GoodIn big (a ++ b) := fun w h => (List.mem_append.mp h).elim (ha w) (hb w)
theorem goodIn_ca {big a b : List Cond} {c : Cond} (ha : GoodIn big (c :: a)) (hb : GoodIn big b) : GoodIn big (c :: (a ++ b)) := fun w h => (List.mem_cons.mp h).elim (fun e => ha w (List.mem_cons.mpr (Or.inl e))) (fun h => (List.mem_append.mp h).elim (fun h => ha w (List.mem_cons.mpr (Or.inr h))) (hb w))
theorem goodIn_sub {big ws : List Cond} (hm : ∀ w ∈ ws, w ∈ big) (h : ws.all goodWord = true) : GoodIn big ws := fun w hw => ⟨hm w hw, good_of_word (List.all_eq_true.mp h w hw)⟩
/-! ===== END ===== -/

/-! ===== BEGIN exceptions that leave a method, and their catching by the caller (launches without stack traces) ===== -/
section VXA
/-! The laws vx_back, vx_callV, vx_callS, vx_callSW, vx_throw0, vx_throwS follow proofs of the library, with one case more: JvmDerived/Free/Laws.lean (Back.of_free), Shelf42/LK1.lean (callV, callS), Shelf/KitTraced.lean (throwNew0V, throwNewS). -/
/-- where a method has thrown q: the class by its name, the cell, what was written, the world -/
def vx_T (XC : String → State → State → Prop) (st : State) (q : Addr) (t : State) (mc ms : Nat) (free : Addr → Prop) : Prop :=
  ∃ (E : String) (ce : Cell) (L : List Loc), XC E st t ∧ t.heap[q]? = some ce ∧ ce.vm = .none ∧ st.vm.findClass E = some ce.cls ∧ st.WarmedH t.vm ∧ st.sameButNew ({ t with vm := st.vm } : State) L mc ms ∧ ∀ z ∈ L, free z.base
def vx_Q (Qc : Array Value → State → Outcome → State → Prop) (XC : String → State → State → Prop) (mc ms : Nat) (free : Addr → Prop) : Array Value → State → Outcome → State → Prop := fun a st o t =>
  (Qc a st o t ∧ ∃ L, FrameEnd st o t L mc ms ∧ ∀ q ∈ L, free q.base) ∨ ∃ q, o = .threw q ∧ vx_T XC st q t mc ms free
/-- a callee that returns or throws -/
def vx_Met (l : Launch) (y : MethodName) (ws : List Cond) (rm : Room) (Pc : Array Value → State → Prop) (Qc : Array Value → State → Outcome → State → Prop) (XC : String → State → State → Prop) (mc ms : Nat) (free : Addr → Prop) : Prop :=
  MetFree l y (headSpec ws rm) Pc (fun _ _ _ _ _ => True) (vx_Q Qc XC mc ms free)
def vx_Post (XC : String → State → State → Prop) (mc ms : Nat) (free : Addr → Prop) : Pt → Array Value → Addr → Pt → Prop := fun A a q B =>
  ∃ (g : JFrame) (mk : MethodId) (t : State) (L : List Loc) (E : String) (ce : Cell), B.U.heap = t.heap ∧ B.U.vm = t.vm ∧ XC E (A.U.calling g mk a) t ∧ t.heap[q]? = some ce ∧ ce.vm = .none ∧ A.U.vm.findClass E = some ce.cls ∧ B.locs = A.locs ++ L ∧ (∀ z ∈ L, free z.base) ∧ B.cells = A.cells + mc ∧ B.slots = A.slots + ms
def vx_Back (l : Launch) (R : Room) (p : Program) (e : Env) (below : List Frame) (s : State) (sargs : Array Value) (y : MethodName) (len W9 : Nat)
    (Pre : Pt → Array Value → Prop) (Post : Pt → Array Value → Option Value → Pt → Prop) (PostX : Pt → Array Value → Addr → Pt → Prop) : Prop :=
  ∀ (m : MethodId) (meth : Method) (c : Code) (A : Pt) (g : JFrame) (ig : Instr) (mk : MethodId) (a : Array Value),
    Stand p l e R s m sargs below meth c A.U A.locs A.cells A.slots → g.method = m → g.locals.size = c.maxLocals → decode c.code g.pc = .ok (ig, len) →
    2 * g.monitorRoom + (g.stack.map fun v => v.category).sum ≤ W9 → A.U.methodNamed? y = some mk → Pre A a →
    (∃ (v : Option Value) (B : Pt), Stand p l e R s m sargs below meth c B.U B.locs B.cells B.slots ∧ Post A a v B ∧
      Steps p.tables e below (doInvoke e (A.U.setTop g) [] mk a).1 (B.U.setTop { g with pc := g.pc + len, stack := v.toList ++ g.stack })) ∨
    (∃ (q : Addr) (B : Pt), Stand p l e R s m sargs below meth c B.U B.locs B.cells B.slots ∧ PostX A a q B ∧
      Steps p.tables e below (doInvoke e (A.U.setTop g) [] mk a).1 ((B.U.setTop g).pushFrame (.throwing q)))
section Payer
variable {l : Launch} {R : Room} {p : Program} {e : Env} {below : List Frame} {s : State} {sargs : Array Value} {y : MethodName} {len W9 : Nat}
theorem vx_back {ws : List Cond} {rm : Room} {Pc : Array Value → State → Prop} {Qc : Array Value → State → Outcome → State → Prop} {XC : String → State → State → Prop} {mc ms : Nat} {free : Addr → Prop} {bytes : ByteArray} {maxL : Nat} {ret : Option FieldType}
    (hM : vx_Met l y ws rm Pc Qc XC mc ms free) (hblind : FrameBlind Pc) (hrc : rm.cells = mc) (hrs : rm.slots = ms)
    (hframes : rm.frames + 1 ≤ R.frames) (hlocals : W9 + (maxL + 11) + rm.locals ≤ R.locals)
    (hws : ∀ w ∈ ws, ∀ a' U, s.WarmedH U.vm → w.before a' U = true) (hcode : Cond.code y bytes maxL ret ∈ ws) (hinit : ∀ a' U, s.WarmedH U.vm → (Cond.initialized y.cls).before a' U = true) :
    vx_Back l R p e below s sargs y len W9 (PreOf R mc ms Pc) (PostOf Qc mc ms free) (vx_Post XC mc ms free) := by
  intro m meth c A g ig mk a X hg hsize hdg hW hn hp
  have h1 : (headSpec ws rm).pre.before a A.U = true := atoms_intro fun w hw => hws w hw _ _ X.warmed
  have h2 : (Cond.code y bytes maxL ret).before a A.U = true := hws _ hcode _ _ X.warmed
  have h3 : (Cond.initialized y.cls).before a A.U = true := hinit _ _ X.warmed
  have h4 : A.cells + (headSpec ws rm).room.cells ≤ R.cells := by rw [show (headSpec ws rm).room.cells = mc from hrc]; exact hp.1
  have h5 : A.slots + (headSpec ws rm).room.slots ≤ R.slots := by rw [show (headSpec ws rm).room.slots = ms from hrs]; exact hp.2.1
  have hPc : Pc a (A.U.calling g mk a) := hblind _ _ _ _ hp.2.2
  obtain ⟨U, Ls, c0, s0⟩ := A
  dsimp only [Pt.U, Pt.locs, Pt.cells, Pt.slots] at h1 h2 h3 h4 h5 X hn hPc ⊢
  obtain ⟨methY, cY, hmY, hcY, -, hlY, -, -, -, -⟩ := Cond.code_spec hn h2
  obtain ⟨kY, hkY, -⟩ := className_of_methodNamed hn
  have hinitY : kY.init = .initialized := Cond.initialized_spec (findClass_of_methodNamed hn) hkY h3
  have h : At U g.method c below := by rw [hg]; exact X.here
  have hlocals9 : W9 + (maxL + 11) + (headSpec ws rm).room.locals ≤ R.locals := hlocals
  have happ : (headSpec ws rm).appliesLoose y e.platform (U.calling g mk a) = true :=
    Spec.appliesLoose_calling (g := g) h hdg hn hkY hinitY
      (X.room_calling (g := g) (R' := (headSpec ws rm).room) hsize hmY hcY hframes (by rw [hlY]; omega) h4 h5) h1
  obtain ⟨mid, hmid⟩ := h.above
  have hfr : (U.setTop g).frames = (.java g :: mid) ++ below := by rw [State.frames_setTop' g h.top, hmid]; rfl
  obtain ⟨o, s₂, hsteps, -, hend, hq⟩ := Steps.callFree hM p X.admits X.cas X.clock (acts := []) hfr happ hPc trivial
  have hq' : vx_Q Qc XC mc ms free a (U.calling g mk a) o s₂ := hq
  rw [State.frames_setTop' g h.top] at hend
  obtain ⟨g₀, hg0⟩ := Option.isSome_iff_exists.mp h.top
  obtain ⟨r, hr⟩ := State.topJava?_eq_some.mp hg0
  have hr' : (({ U with heap := s₂.heap, slotsUsed := s₂.slotsUsed } : State).setVm s₂.vm).frames = .java g₀ :: r := hr
  rcases hq' with ⟨hqc, L, hfe, hL⟩ | ⟨q, rfl, E, ce, L, hx, hce, hcv, hcl, hW₂, hsm, hL⟩
  · obtain ⟨⟨v, rfl⟩, hW₂, e2, q2, q3, q4, q5, q6⟩ := id hfe
    have e3 : s₂ = ({ (U.calling g mk a).setFrames s₂.frames with heap := s₂.heap, slotsUsed := s₂.slotsUsed } : State).setVm s₂.vm := by
      have : s₂ = ({ s₂ with vm := (U.calling g mk a).vm } : State).setVm s₂.vm := rfl
      rw [e2] at this
      exact this
    obtain ⟨c₂, i₂, len₂, hc₂, hd₂, hf₂⟩ := hend
    have hW' : U.WarmedH s₂.vm := hW₂
    have hcc : c₂ = c := by
      have h1 : s₂.code? g.method = U.code? g.method := by
        rw [State.code?_eq, State.code?_eq, hW'.alike.method?]
      exact Option.some.inj (hc₂.symm.trans (h1.trans h.code))
    subst hcc
    have hlen : len₂ = len := by rw [hdg] at hd₂; cases hd₂; rfl
    subst hlen
    have hs₂ : s₂ = (({ U with heap := s₂.heap, slotsUsed := s₂.slotsUsed } : State).setVm s₂.vm).setTop { g with pc := g.pc + len₂, stack := v.toList ++ g.stack } := by
      refine e3.trans ?_
      rw [hf₂, State.calling_eq h.top, State.setFrames_setFrames, State.setTop_of_frames _ hr', hr]
      rfl
    have hsame : U.sameButNew ({ U with heap := s₂.heap, slotsUsed := s₂.slotsUsed } : State) L mc ms := by
      refine ⟨?_, q2, q3, q4, q5, q6⟩
      obtain ⟨t, ht, -⟩ := State.frames_cons hr
      show ({ U with heap := s₂.heap, slotsUsed := s₂.slotsUsed } : State) = { U.setFrames U.frames with heap := s₂.heap, slotsUsed := s₂.slotsUsed }
      rw [State.setFrames_self ht]
    subst hg
    refine Or.inl ⟨v, ⟨(({ U with heap := s₂.heap, slotsUsed := s₂.slotsUsed } : State).setVm s₂.vm), Ls ++ L, c0 + mc, s0 + ms⟩,
      ⟨X.admits, X.cas, X.clock, X.frames, X.room, X.hears, X.method, X.code, (X.here.setHeapUsed s₂.heap s₂.slotsUsed).setVm hW'.alike, X.tail, State.WarmedH.trans X.warmed hW', X.limits, X.bytes, X.same.trans (hsame.setVm s.vm)⟩,
      ⟨g, mk, s₂, L, rfl, rfl, hqc, rfl, hL, rfl, rfl⟩, ?_⟩
    show Steps p.tables e below _ ((({ U with heap := s₂.heap, slotsUsed := s₂.slotsUsed } : State).setVm s₂.vm).setTop { g with pc := g.pc + len₂, stack := v.toList ++ g.stack })
    rw [← hs₂]
    exact hsteps
  · obtain ⟨e2, q2, q3, q4, q5, q6⟩ := id hsm
    have e3 : s₂ = ({ (U.calling g mk a).setFrames s₂.frames with heap := s₂.heap, slotsUsed := s₂.slotsUsed } : State).setVm s₂.vm := by
      have : s₂ = ({ s₂ with vm := (U.calling g mk a).vm } : State).setVm s₂.vm := rfl
      rw [e2] at this
      exact this
    have hf₂ : s₂.frames = .throwing q :: .java g :: U.frames.tail := hend
    have hW' : U.WarmedH s₂.vm := hW₂
    have hs₂ : s₂ = ((({ U with heap := s₂.heap, slotsUsed := s₂.slotsUsed } : State).setVm s₂.vm).setTop g).pushFrame (.throwing q) := by
      refine e3.trans ?_
      rw [hf₂, State.calling_eq h.top, State.setFrames_setFrames, State.pushFrame, State.frames_setTop _ hr', State.setTop_of_frames _ hr', State.setFrames_setFrames, hr]
      rfl
    have hsame : U.sameButNew ({ U with heap := s₂.heap, slotsUsed := s₂.slotsUsed } : State) L mc ms := by
      refine ⟨?_, q2, q3, q4, q5, q6⟩
      obtain ⟨t, ht, -⟩ := State.frames_cons hr
      show ({ U with heap := s₂.heap, slotsUsed := s₂.slotsUsed } : State) = { U.setFrames U.frames with heap := s₂.heap, slotsUsed := s₂.slotsUsed }
      rw [State.setFrames_self ht]
    subst hg
    refine Or.inr ⟨q, ⟨(({ U with heap := s₂.heap, slotsUsed := s₂.slotsUsed } : State).setVm s₂.vm), Ls ++ L, c0 + mc, s0 + ms⟩,
      ⟨X.admits, X.cas, X.clock, X.frames, X.room, X.hears, X.method, X.code, (X.here.setHeapUsed s₂.heap s₂.slotsUsed).setVm hW'.alike, X.tail, State.WarmedH.trans X.warmed hW', X.limits, X.bytes, X.same.trans (hsame.setVm s.vm)⟩,
      ⟨g, mk, s₂, L, E, ce, rfl, rfl, hx, hce, hcv, hcl, rfl, hL, rfl, rfl⟩, ?_⟩
    show Steps p.tables e below _ (((({ U with heap := s₂.heap, slotsUsed := s₂.slotsUsed } : State).setVm s₂.vm).setTop g).pushFrame (.throwing q))
    rw [← hs₂]
    exact hsteps
end Payer
section Calls
variable {p : Program} {l : Launch} {e : Env} {R : Room} {s : State} {m : MethodId} {args : Array Value} {below : List Frame} {meth : Method} {c : Code} {T : State} {locs : List Loc} {cells slots : Nat}
theorem vx_callV (X : Stand p l e R s m args below meth c T locs cells slots) (hexec : p.tables.exec = Jvm.exec) {own C : String} {index : Nat} {y : MethodName} {bytes : ByteArray} {maxL : Nat} {ret : Option FieldType}
    (hown : s.vm.findClass own = some m.cls) (hlink : (Cond.methodLink own index y).before args s = true) (hinst : (Cond.instanceMethod y).before args s = true) (hsel : (Cond.selects C y y).before args s = true)
    (hcode : (Cond.code y bytes maxL ret).before args s = true) (hy : y.cls ≠ "java/lang/invoke/MethodHandle" ∧ y.cls ≠ "java/lang/invoke/VarHandle")
    {W9 : Nat} {Pre : Pt → Array Value → Prop} {Post : Pt → Array Value → Option Value → Pt → Prop} {PostX : Pt → Array Value → Addr → Pt → Prop} (hK : vx_Back l R p e below s args y 3 W9 Pre Post PostX)
    {b : Addr} {cellB : Cell} (hcell : T.heap[b]? = some cellB) (hobj : cellB.vm.isStatics = false) (hcls : s.vm.findClass C = some cellB.cls)
    {g : JFrame} (hg : g.method = m) (hsize : g.locals.size = c.maxLocals) {argsL rest : List Value} (hlen : ∀ sig, parseMethodDescriptor y.desc = some sig → argsL.length = sig.parameters.length)
    (hstack : g.stack = argsL.reverse ++ .ref b :: rest) (hW : 2 * g.monitorRoom + (rest.map fun v => v.category).sum ≤ W9) (hdg : decode c.code g.pc = .ok (.invokevirtual index, 3))
    (hpre : ∀ vm₁, s.WarmedH vm₁ → Pre ⟨T.setVm vm₁, locs, cells, slots⟩ (Value.ref b :: argsL).toArray) :
    (∃ (v : Option Value) (vm₁ : Vm) (B : Pt), s.WarmedH vm₁ ∧ Stand p l e R s m args below meth c B.U B.locs B.cells B.slots ∧ Post ⟨T.setVm vm₁, locs, cells, slots⟩ (Value.ref b :: argsL).toArray v B ∧
      ∀ target, Steps p.tables e below (B.U.setTop { g with pc := g.pc + 3, stack := v.toList ++ rest }) target → Steps p.tables e below (T.setTop g) target) ∨
    (∃ (q : Addr) (vm₁ : Vm) (B : Pt), s.WarmedH vm₁ ∧ Stand p l e R s m args below meth c B.U B.locs B.cells B.slots ∧ PostX ⟨T.setVm vm₁, locs, cells, slots⟩ (Value.ref b :: argsL).toArray q B ∧
      Steps p.tables e below (T.setTop g) ((B.U.setTop { g with stack := rest }).pushFrame (.throwing q))) := by
  obtain ⟨mk, methM, hnamed, hmethM, hstM, habM⟩ := Cond.instanceMethod_spec hinst
  obtain ⟨methM', cM, hmethM', -, -, -, -, -, -, hsigM⟩ := Cond.code_spec hnamed hcode
  cases hmethM.symm.trans hmethM'
  obtain ⟨c2, r2, m2, q1, q2, q3, q4, kP, hkP, hkPi⟩ := Cond.selects_spec hsel
  cases hcls.symm.trans q1
  cases (State.methodFound?_of_named hnamed hy).symm.trans q2
  cases hnamed.symm.trans q3
  have hselP : selectMethod e.platform s.vm cellB.cls mk = .method mk := by rw [Launch.admits_selectMethod X.admits]; exact q4
  obtain ⟨vm₁, X₁, hstep₁⟩ := X.invokevirtual hexec hown hlink hnamed hmethM hstM hkP hkPi hy (a := b) (cell := cellB) hcell
    (fun z h => by rw [h] at hobj; cases hobj) hselP hmethM habM hkP hkPi (g := g) hg (argsL := argsL) (rest := rest) (hlen _ hsigM) hstack hdg
  rcases hK m meth c ⟨T.setVm vm₁, locs, cells, slots⟩ { g with stack := rest } (.invokevirtual index) mk (Value.ref b :: argsL).toArray X₁ hg hsize hdg hW (X₁.named hnamed) (hpre vm₁ X₁.warmed) with ⟨v, B, X', hpost, hsteps⟩ | ⟨q, B, X', hpost, hsteps⟩
  · exact Or.inl ⟨v, vm₁, B, X₁.warmed, X', hpost, fun target h => hstep₁ _ fun acts => by rw [doInvoke_state]; exact hsteps.trans h⟩
  · exact Or.inr ⟨q, vm₁, B, X₁.warmed, X', hpost, hstep₁ _ fun acts => by rw [doInvoke_state]; exact hsteps⟩
theorem vx_callS (X : Stand p l e R s m args below meth c T locs cells slots) (hexec : p.tables.exec = Jvm.exec) {own : String} {index : Nat} {y : MethodName} {bytes : ByteArray} {maxL : Nat} {ret : Option FieldType}
    (hown : s.vm.findClass own = some m.cls) (hlink : (Cond.methodLink own index y).before args s = true) (hstat : (Cond.static y).before args s = true) (hinit : (Cond.initialized y.cls).before args s = true)
    (hcode : (Cond.code y bytes maxL ret).before args s = true) (hy : y.cls ≠ "java/lang/invoke/MethodHandle" ∧ y.cls ≠ "java/lang/invoke/VarHandle")
    {W9 : Nat} {Pre : Pt → Array Value → Prop} {Post : Pt → Array Value → Option Value → Pt → Prop} {PostX : Pt → Array Value → Addr → Pt → Prop} (hK : vx_Back l R p e below s args y 3 W9 Pre Post PostX)
    {g : JFrame} (hg : g.method = m) (hsize : g.locals.size = c.maxLocals) {argsL rest : List Value} (hlen : ∀ sig, parseMethodDescriptor y.desc = some sig → argsL.length = sig.parameters.length)
    (hstack : g.stack = argsL.reverse ++ rest) (hW : 2 * g.monitorRoom + (rest.map fun v => v.category).sum ≤ W9) (hdg : decode c.code g.pc = .ok (.invokestatic index, 3))
    (hpre : ∀ vm₁, s.WarmedH vm₁ → Pre ⟨T.setVm vm₁, locs, cells, slots⟩ argsL.toArray) :
    (∃ (v : Option Value) (vm₁ : Vm) (B : Pt), s.WarmedH vm₁ ∧ Stand p l e R s m args below meth c B.U B.locs B.cells B.slots ∧ Post ⟨T.setVm vm₁, locs, cells, slots⟩ argsL.toArray v B ∧
      ∀ target, Steps p.tables e below (B.U.setTop { g with pc := g.pc + 3, stack := v.toList ++ rest }) target → Steps p.tables e below (T.setTop g) target) ∨
    (∃ (q : Addr) (vm₁ : Vm) (B : Pt), s.WarmedH vm₁ ∧ Stand p l e R s m args below meth c B.U B.locs B.cells B.slots ∧ PostX ⟨T.setVm vm₁, locs, cells, slots⟩ argsL.toArray q B ∧
      Steps p.tables e below (T.setTop g) ((B.U.setTop { g with stack := rest }).pushFrame (.throwing q))) := by
  obtain ⟨mk, hnamed⟩ := Cond.code_named hcode
  obtain ⟨methM, cM, hmethM, -, -, -, -, -, -, hsigM⟩ := Cond.code_spec hnamed hcode
  have hstatic : methM.isStatic = true := Cond.static_spec hnamed hmethM hstat
  obtain ⟨kP, hkP, -⟩ := className_of_methodNamed hnamed
  have hinitP : kP.init = .initialized := Cond.initialized_spec (findClass_of_methodNamed hnamed) hkP hinit
  obtain ⟨vm₁, X₁, hstep₁⟩ := X.invokestatic hexec hown hlink hnamed hmethM hstatic hkP hinitP hy (g := g) hg (argsL := argsL) (rest := rest) (hlen _ hsigM) hstack hdg
  rcases hK m meth c ⟨T.setVm vm₁, locs, cells, slots⟩ { g with stack := rest } (.invokestatic index) mk argsL.toArray X₁ hg hsize hdg hW (X₁.named hnamed) (hpre vm₁ X₁.warmed) with ⟨v, B, X', hpost, hsteps⟩ | ⟨q, B, X', hpost, hsteps⟩
  · exact Or.inl ⟨v, vm₁, B, X₁.warmed, X', hpost, fun target h => hstep₁ _ fun acts => by rw [doInvoke_state]; exact hsteps.trans h⟩
  · exact Or.inr ⟨q, vm₁, B, X₁.warmed, X', hpost, hstep₁ _ fun acts => by rw [doInvoke_state]; exact hsteps⟩
end Calls
theorem vx_cls {s : State} {T : State} {vm₁ : Vm} {E : String} {k : ClassId} (hW : s.WarmedH vm₁) (h : (T.setVm vm₁).vm.findClass E = some k) : s.vm.findClass E = some k := by
  have h1 : vm₁.findClass E = some k := h
  rw [hW.alike.findClass] at h1
  exact h1
/-- the method's frame g, with q thrown over it -/
def vx_W (p : Program) (l : Launch) (e : Env) (R : Room) (s : State) (m : MethodId) (args : Array Value) (below : List Frame) (meth : Method) (c : Code) (H : Heap) (locs : List Loc) (cells slots : Nat) (Q : State → Prop) (g : JFrame) (q : Addr) : Prop :=
  ∀ T : State, T.heap = H → Stand p l e R s m args below meth c T locs cells slots → ∃ t, Steps p.tables e below ((T.setTop g).pushFrame (.throwing q)) t ∧ Q t
def vx_Run (p : Program) (l : Launch) (e : Env) (R : Room) (s : State) (m : MethodId) (args : Array Value) (below : List Frame) (meth : Method) (c : Code) (H : Heap) (locs : List Loc) (cells slots mc ms : Nat) (g : JFrame) (rest : List Value) (Qa : State → Outcome → State → Prop) (XC : String → State → State → Prop) (free : Addr → Prop) : Prop :=
  ∀ T : State, T.heap = H → Stand p l e R s m args below meth c T locs cells slots →
    (∃ (v : Option Value) (st₀ t T' : State) (L : List Loc), st₀.heap = H ∧ Stand p l e R s m args below meth c T' (locs ++ L) (cells + mc) (slots + ms) ∧ (∀ q ∈ L, free q.base) ∧ T'.heap = t.heap ∧ T'.vm = t.vm ∧ Qa st₀ (.returned v) t ∧
      Goes p e below T g T' { g with pc := g.pc + 3, stack := v.toList ++ rest }) ∨
    (∃ (q : Addr) (st₀ t T' : State) (L : List Loc) (E : String) (ce : Cell), st₀.heap = H ∧ Stand p l e R s m args below meth c T' (locs ++ L) (cells + mc) (slots + ms) ∧ (∀ z ∈ L, free z.base) ∧ T'.heap = t.heap ∧ T'.vm = t.vm ∧ XC E st₀ t ∧ t.heap[q]? = some ce ∧ ce.vm = .none ∧ s.vm.findClass E = some ce.cls ∧
      Steps p.tables e below (T.setTop g) ((T'.setTop { g with stack := rest }).pushFrame (.throwing q)))
def vx_X {S : Type} (px : S → Prop) (B : String → S → State → Prop) (A : Nat → Prop) : String → State → State → Prop := fun E st t => ∃ u : S, px u ∧ B E u t ∧ va_F A st t
section Runs
variable {p : Program} {l : Launch} {e : Env} {R : Room} {s : State} {m : MethodId} {args : Array Value} {below : List Frame} {meth : Method} {c : Code} {H : Heap} {locs : List Loc} {cells slots : Nat}
variable {y : MethodName} {bytes cc : ByteArray} {maxL nL mc ms n index : Nat} {ret : Option FieldType} {ws : List Cond} {rm : Room} {Pc : Array Value → State → Prop} {Qc : Array Value → State → Outcome → State → Prop} {XC : String → State → State → Prop} {free : Addr → Prop} {Ts : List Cond} {own C : String} {b : Addr} {As rest : List Value} {g : JFrame}
theorem vx_callBack (cb : CallB R s args own index y bytes maxL ret ws rm mc ms n) (hM : vx_Met l y ws rm Pc Qc XC mc ms free) (hbl : FrameBlind Pc) : vx_Back l R p e below s args y 3 8 (PreOf R mc ms Pc) (PostOf Qc mc ms free) (vx_Post XC mc ms free) := by
  obtain ⟨hrc, hrs, hfr, hlo, hws, hcw, -, hini, -⟩ := cb
  exact vx_back (bytes := bytes) (maxL := maxL) (ret := ret) hM hbl hrc hrs hfr hlo hws hcw (fun a' U hW => word_at hW (Or.inl (by first | rfl | simp [Cond.onTables, Cond.keeps, Cond.steady])) hini)
theorem vx_runV (S : CallFix p m c cc nL s args Ts own) (hM : vx_Met l y ws rm Pc Qc XC mc ms free) (cw : CallW R s args own C index y bytes maxL ret ws rm mc ms n) (hp : PreV s H C b Pc As)
    (hg : g.method = m) (hn : As.length = n) (hsize : g.locals.size = nL) (hstack : g.stack = As.reverse ++ .ref b :: rest) (hW : 2 * g.monitorRoom + (rest.map fun v => v.category).sum ≤ 8) (hdg : decode cc g.pc = .ok (.invokevirtual index, 3)) (hf : cells + mc ≤ R.cells ∧ slots + ms ≤ R.slots) :
    vx_Run p l e R s m args below meth c H locs cells slots mc ms g rest (Qc (Value.ref b :: As).toArray) XC free := by
  have hK : vx_Back l R p e below s args y 3 8 (PreOf R mc ms Pc) (PostOf Qc mc ms free) (vx_Post XC mc ms free) := vx_callBack cw.1 hM hp.1
  obtain ⟨⟨-, -, -, -, -, -, hcode, -, hy, hlen, hl⟩, hin, hse⟩ := cw
  obtain ⟨hx, hb, hml, ho, -⟩ := S
  obtain ⟨-, ⟨cellB, hcB, hoB, hclB⟩, hPc⟩ := hp
  intro T hT X
  rcases vx_callV X hx (C := C) (bytes := bytes) (maxL := maxL) (ret := ret) ho hl hin hse hcode hy hK (by rw [hT]; exact hcB) hoB hclB hg (hsize.trans hml.symm) (argsL := As) (rest := rest) (fun sig h => hn.trans (hlen sig h)) hstack hW (by rw [hb]; exact hdg)
    (fun vm₁ hW₁ => ⟨hf.1, hf.2, hPc (T.setVm vm₁) hT hW₁⟩) with ⟨v, vm₁, ⟨U', l2, c2, s2⟩, hW₁, X', ⟨g', mk, t, L, e1, e2, hq, h1, hL, h2, h3⟩, st⟩ | ⟨q, vm₁, ⟨U', l2, c2, s2⟩, hW₁, X', ⟨g', mk, t, L, E, ce, e1, e2, hq, hce, hcv, hcl, h1, hL, h2, h3⟩, st⟩
  · dsimp only [Pt.U, Pt.locs, Pt.cells, Pt.slots] at X' e1 e2 h1 h2 h3 st
    subst h1; subst h2; subst h3
    exact Or.inl ⟨v, (T.setVm vm₁).calling g' mk (Value.ref b :: As).toArray, t, U', L, hT, X', hL, e1, e2, hq, st⟩
  · dsimp only [Pt.U, Pt.locs, Pt.cells, Pt.slots] at X' e1 e2 h1 h2 h3 st hcl
    subst h1; subst h2; subst h3
    exact Or.inr ⟨q, (T.setVm vm₁).calling g' mk (Value.ref b :: As).toArray, t, U', L, E, ce, hT, X', hL, e1, e2, hq, hce, hcv, vx_cls hW₁ hcl, st⟩
theorem vx_runS (S : CallFix p m c cc nL s args Ts own) (hM : vx_Met l y ws rm Pc Qc XC mc ms free) (cw : CallB R s args own index y bytes maxL ret ws rm mc ms n ∧ (Cond.static y).before args s = true) (hp : PreS s H Pc As)
    (hg : g.method = m) (hn : As.length = n) (hsize : g.locals.size = nL) (hstack : g.stack = As.reverse ++ rest) (hW : 2 * g.monitorRoom + (rest.map fun v => v.category).sum ≤ 8) (hdg : decode cc g.pc = .ok (.invokestatic index, 3)) (hf : cells + mc ≤ R.cells ∧ slots + ms ≤ R.slots) :
    vx_Run p l e R s m args below meth c H locs cells slots mc ms g rest (Qc As.toArray) XC free := by
  have hK : vx_Back l R p e below s args y 3 8 (PreOf R mc ms Pc) (PostOf Qc mc ms free) (vx_Post XC mc ms free) := vx_callBack cw.1 hM hp.1
  obtain ⟨⟨-, -, -, -, -, -, hcode, hini, hy, hlen, hl⟩, hstt⟩ := cw
  obtain ⟨hx, hb, hml, ho, -⟩ := S
  intro T hT X
  rcases vx_callS X hx (bytes := bytes) (maxL := maxL) (ret := ret) ho hl hstt hini hcode hy hK hg (hsize.trans hml.symm) (argsL := As) (rest := rest) (fun sig h => hn.trans (hlen sig h)) hstack hW (by rw [hb]; exact hdg)
    (fun vm₁ hW₁ => ⟨hf.1, hf.2, hp.2 (T.setVm vm₁) hT hW₁⟩) with ⟨v, vm₁, ⟨U', l2, c2, s2⟩, hW₁, X', ⟨g', mk, t, L, e1, e2, hq, h1, hL, h2, h3⟩, st⟩ | ⟨q, vm₁, ⟨U', l2, c2, s2⟩, hW₁, X', ⟨g', mk, t, L, E, ce, e1, e2, hq, hce, hcv, hcl, h1, hL, h2, h3⟩, st⟩
  · dsimp only [Pt.U, Pt.locs, Pt.cells, Pt.slots] at X' e1 e2 h1 h2 h3 st
    subst h1; subst h2; subst h3
    exact Or.inl ⟨v, (T.setVm vm₁).calling g' mk As.toArray, t, U', L, hT, X', hL, e1, e2, hq, st⟩
  · dsimp only [Pt.U, Pt.locs, Pt.cells, Pt.slots] at X' e1 e2 h1 h2 h3 st hcl
    subst h1; subst h2; subst h3
    exact Or.inr ⟨q, (T.setVm vm₁).calling g' mk As.toArray, t, U', L, E, ce, hT, X', hL, e1, e2, hq, hce, hcv, vx_cls hW₁ hcl, st⟩
end Runs
section Rows
variable {p : Program} {l : Launch} {e : Env} {R : Room} {s : State} {m : MethodId} {args : Array Value} {below : List Frame} {meth : Method} {c : Code} {H : Heap} {locs : List Loc} {cells slots : Nat} {Q : State → Prop}
variable {mc ms : Nat} {free : Addr → Prop} {A0 A1 : Nat → Prop} {H0 : Heap} {a : Array Value} {pc : Nat} {ls : Array Slot} {st0 rest : List Value}
theorem vx_keep {st₀ t T' : State} {L : List Loc} (h0 : st₀.heap = H) (e1 : T'.heap = t.heap) (hS : va_S A0 H0 H locs) (hA : ∀ q, q < H.size → A1 q → A0 q) (hf : ∀ q, free q → A0 q) (hL : ∀ q ∈ L, free q.base) (hF : va_F A1 st₀ t) :
    H.size ≤ T'.heap.size ∧ (∀ q : Nat, q < H.size → ¬ A1 q → T'.heap[q]? = H[q]?) ∧ va_S A0 H0 T'.heap (locs ++ L) := by
  obtain ⟨hz, hk⟩ := hF
  rw [h0] at hz hk
  exact ⟨by rw [e1]; exact hz, fun q h1 h2 => by rw [e1]; exact hk q h1 h2,
    ⟨Nat.le_trans hS.1 (by rw [e1]; exact hz), fun q h1 h2 => by rw [e1, hk q (Nat.lt_of_lt_of_le h1 hS.1) (fun z => h2 (hA q (Nat.lt_of_lt_of_le h1 hS.1) z))]; exact hS.2.1 q h1 h2, fun q hq => by
      rcases List.mem_append.mp hq with h | h
      · exact hS.2.2 q h
      · exact hf _ (hL q h)⟩⟩
theorem vx_calli {S SX : Type} {post : Int32 → S → Prop} {px : SX → Prop} {B : S → State → Prop} {BX : String → SX → State → Prop} {AX : Nat → Prop} (hr : vx_Run p l e R s m args below meth c H locs cells slots mc ms (F0 m pc ls st0) rest (va_Qi post B A1 a) (vx_X px BX AX) free) (hS : va_S A0 H0 H locs) (hA : ∀ q, q < H.size → A1 q → A0 q) (hf : ∀ q, free q → A0 q) (hAX : ∀ q, q < H.size → AX q → A0 q)
    (kx : ∀ (E : String) (ce : Cell) (q9 : Addr) (u : SX) (t : State) (H1 : Heap) (locs1 : List Loc), t.heap = H1 → s.vm.Alike t.vm → px u → BX E u t → H.size ≤ H1.size → (∀ q : Nat, q < H.size → ¬ AX q → H1[q]? = H[q]?) → va_S A0 H0 H1 locs1 → H1[q9]? = some ce → ce.vm = .none → s.vm.findClass E = some ce.cls → vx_W p l e R s m args below meth c H1 locs1 (cells + mc) (slots + ms) Q (F0 m pc ls rest) q9)
    (kk : ∀ (r : Int32) (u : S) (t : State) (H1 : Heap) (locs1 : List Loc), t.heap = H1 → s.vm.Alike t.vm → post r u → B u t → H.size ≤ H1.size → (∀ q : Nat, q < H.size → ¬ A1 q → H1[q]? = H[q]?) → va_S A0 H0 H1 locs1 → W p l e R s m args below meth c H1 locs1 (cells + mc) (slots + ms) Q (F0 m (pc + 3) ls (.int r :: rest))) : W p l e R s m args below meth c H locs cells slots Q (F0 m pc ls st0) := by
  intro T hT X
  rcases hr T hT X with ⟨v, st₀, t, T', L, h0, X', hL, e1, e2, ⟨⟨r, u, hv, hp, hb⟩, hF⟩, st⟩ | ⟨q, st₀, t, T', L, E, ce, h0, X', hL, e1, e2, ⟨u, hp, hb, hF⟩, hce, hcv, hcl, st⟩
  · cases hv
    obtain ⟨k1, k2, k3⟩ := vx_keep h0 e1 hS hA hf hL hF
    obtain ⟨t2, a1, b1⟩ := kk r u t T'.heap (locs ++ L) e1.symm (by rw [← e2]; exact X'.warmed.alike) hp hb k1 k2 k3 T' rfl X'
    exact ⟨t2, st t2 a1, b1⟩
  · obtain ⟨k1, k2, k3⟩ := vx_keep h0 e1 hS hAX hf hL hF
    obtain ⟨t2, a1, b1⟩ := kx E ce q u t T'.heap (locs ++ L) e1.symm (by rw [← e2]; exact X'.warmed.alike) hp hb k1 k2 k3 (by rw [e1]; exact hce) hcv hcl T' rfl X'
    exact ⟨t2, st.trans a1, b1⟩
theorem vx_calll {S SX : Type} {post : Int64 → S → Prop} {px : SX → Prop} {B : S → State → Prop} {BX : String → SX → State → Prop} {AX : Nat → Prop} (hr : vx_Run p l e R s m args below meth c H locs cells slots mc ms (F0 m pc ls st0) rest (va_Ql post B A1 a) (vx_X px BX AX) free) (hS : va_S A0 H0 H locs) (hA : ∀ q, q < H.size → A1 q → A0 q) (hf : ∀ q, free q → A0 q) (hAX : ∀ q, q < H.size → AX q → A0 q)
    (kx : ∀ (E : String) (ce : Cell) (q9 : Addr) (u : SX) (t : State) (H1 : Heap) (locs1 : List Loc), t.heap = H1 → s.vm.Alike t.vm → px u → BX E u t → H.size ≤ H1.size → (∀ q : Nat, q < H.size → ¬ AX q → H1[q]? = H[q]?) → va_S A0 H0 H1 locs1 → H1[q9]? = some ce → ce.vm = .none → s.vm.findClass E = some ce.cls → vx_W p l e R s m args below meth c H1 locs1 (cells + mc) (slots + ms) Q (F0 m pc ls rest) q9)
    (kk : ∀ (r : Int64) (u : S) (t : State) (H1 : Heap) (locs1 : List Loc), t.heap = H1 → s.vm.Alike t.vm → post r u → B u t → H.size ≤ H1.size → (∀ q : Nat, q < H.size → ¬ A1 q → H1[q]? = H[q]?) → va_S A0 H0 H1 locs1 → W p l e R s m args below meth c H1 locs1 (cells + mc) (slots + ms) Q (F0 m (pc + 3) ls (.long r :: rest))) : W p l e R s m args below meth c H locs cells slots Q (F0 m pc ls st0) := by
  intro T hT X
  rcases hr T hT X with ⟨v, st₀, t, T', L, h0, X', hL, e1, e2, ⟨⟨r, u, hv, hp, hb⟩, hF⟩, st⟩ | ⟨q, st₀, t, T', L, E, ce, h0, X', hL, e1, e2, ⟨u, hp, hb, hF⟩, hce, hcv, hcl, st⟩
  · cases hv
    obtain ⟨k1, k2, k3⟩ := vx_keep h0 e1 hS hA hf hL hF
    obtain ⟨t2, a1, b1⟩ := kk r u t T'.heap (locs ++ L) e1.symm (by rw [← e2]; exact X'.warmed.alike) hp hb k1 k2 k3 T' rfl X'
    exact ⟨t2, st t2 a1, b1⟩
  · obtain ⟨k1, k2, k3⟩ := vx_keep h0 e1 hS hAX hf hL hF
    obtain ⟨t2, a1, b1⟩ := kx E ce q u t T'.heap (locs ++ L) e1.symm (by rw [← e2]; exact X'.warmed.alike) hp hb k1 k2 k3 (by rw [e1]; exact hce) hcv hcl T' rfl X'
    exact ⟨t2, st.trans a1, b1⟩
theorem vx_callf {S SX : Type} {post : UInt32 → S → Prop} {px : SX → Prop} {B : S → State → Prop} {BX : String → SX → State → Prop} {AX : Nat → Prop} (hr : vx_Run p l e R s m args below meth c H locs cells slots mc ms (F0 m pc ls st0) rest (va_Qf post B A1 a) (vx_X px BX AX) free) (hS : va_S A0 H0 H locs) (hA : ∀ q, q < H.size → A1 q → A0 q) (hf : ∀ q, free q → A0 q) (hAX : ∀ q, q < H.size → AX q → A0 q)
    (kx : ∀ (E : String) (ce : Cell) (q9 : Addr) (u : SX) (t : State) (H1 : Heap) (locs1 : List Loc), t.heap = H1 → s.vm.Alike t.vm → px u → BX E u t → H.size ≤ H1.size → (∀ q : Nat, q < H.size → ¬ AX q → H1[q]? = H[q]?) → va_S A0 H0 H1 locs1 → H1[q9]? = some ce → ce.vm = .none → s.vm.findClass E = some ce.cls → vx_W p l e R s m args below meth c H1 locs1 (cells + mc) (slots + ms) Q (F0 m pc ls rest) q9)
    (kk : ∀ (r : UInt32) (u : S) (t : State) (H1 : Heap) (locs1 : List Loc), t.heap = H1 → s.vm.Alike t.vm → post r u → B u t → H.size ≤ H1.size → (∀ q : Nat, q < H.size → ¬ A1 q → H1[q]? = H[q]?) → va_S A0 H0 H1 locs1 → W p l e R s m args below meth c H1 locs1 (cells + mc) (slots + ms) Q (F0 m (pc + 3) ls (.float r :: rest))) : W p l e R s m args below meth c H locs cells slots Q (F0 m pc ls st0) := by
  intro T hT X
  rcases hr T hT X with ⟨v, st₀, t, T', L, h0, X', hL, e1, e2, ⟨⟨r, u, hv, hp, hb⟩, hF⟩, st⟩ | ⟨q, st₀, t, T', L, E, ce, h0, X', hL, e1, e2, ⟨u, hp, hb, hF⟩, hce, hcv, hcl, st⟩
  · cases hv
    obtain ⟨k1, k2, k3⟩ := vx_keep h0 e1 hS hA hf hL hF
    obtain ⟨t2, a1, b1⟩ := kk r u t T'.heap (locs ++ L) e1.symm (by rw [← e2]; exact X'.warmed.alike) hp hb k1 k2 k3 T' rfl X'
    exact ⟨t2, st t2 a1, b1⟩
  · obtain ⟨k1, k2, k3⟩ := vx_keep h0 e1 hS hAX hf hL hF
    obtain ⟨t2, a1, b1⟩ := kx E ce q u t T'.heap (locs ++ L) e1.symm (by rw [← e2]; exact X'.warmed.alike) hp hb k1 k2 k3 (by rw [e1]; exact hce) hcv hcl T' rfl X'
    exact ⟨t2, st.trans a1, b1⟩
theorem vx_calld {S SX : Type} {post : UInt64 → S → Prop} {px : SX → Prop} {B : S → State → Prop} {BX : String → SX → State → Prop} {AX : Nat → Prop} (hr : vx_Run p l e R s m args below meth c H locs cells slots mc ms (F0 m pc ls st0) rest (va_Qd post B A1 a) (vx_X px BX AX) free) (hS : va_S A0 H0 H locs) (hA : ∀ q, q < H.size → A1 q → A0 q) (hf : ∀ q, free q → A0 q) (hAX : ∀ q, q < H.size → AX q → A0 q)
    (kx : ∀ (E : String) (ce : Cell) (q9 : Addr) (u : SX) (t : State) (H1 : Heap) (locs1 : List Loc), t.heap = H1 → s.vm.Alike t.vm → px u → BX E u t → H.size ≤ H1.size → (∀ q : Nat, q < H.size → ¬ AX q → H1[q]? = H[q]?) → va_S A0 H0 H1 locs1 → H1[q9]? = some ce → ce.vm = .none → s.vm.findClass E = some ce.cls → vx_W p l e R s m args below meth c H1 locs1 (cells + mc) (slots + ms) Q (F0 m pc ls rest) q9)
    (kk : ∀ (r : UInt64) (u : S) (t : State) (H1 : Heap) (locs1 : List Loc), t.heap = H1 → s.vm.Alike t.vm → post r u → B u t → H.size ≤ H1.size → (∀ q : Nat, q < H.size → ¬ A1 q → H1[q]? = H[q]?) → va_S A0 H0 H1 locs1 → W p l e R s m args below meth c H1 locs1 (cells + mc) (slots + ms) Q (F0 m (pc + 3) ls (.double r :: rest))) : W p l e R s m args below meth c H locs cells slots Q (F0 m pc ls st0) := by
  intro T hT X
  rcases hr T hT X with ⟨v, st₀, t, T', L, h0, X', hL, e1, e2, ⟨⟨r, u, hv, hp, hb⟩, hF⟩, st⟩ | ⟨q, st₀, t, T', L, E, ce, h0, X', hL, e1, e2, ⟨u, hp, hb, hF⟩, hce, hcv, hcl, st⟩
  · cases hv
    obtain ⟨k1, k2, k3⟩ := vx_keep h0 e1 hS hA hf hL hF
    obtain ⟨t2, a1, b1⟩ := kk r u t T'.heap (locs ++ L) e1.symm (by rw [← e2]; exact X'.warmed.alike) hp hb k1 k2 k3 T' rfl X'
    exact ⟨t2, st t2 a1, b1⟩
  · obtain ⟨k1, k2, k3⟩ := vx_keep h0 e1 hS hAX hf hL hF
    obtain ⟨t2, a1, b1⟩ := kx E ce q u t T'.heap (locs ++ L) e1.symm (by rw [← e2]; exact X'.warmed.alike) hp hb k1 k2 k3 (by rw [e1]; exact hce) hcv hcl T' rfl X'
    exact ⟨t2, st.trans a1, b1⟩
theorem vx_callv {S SX : Type} {post : S → Prop} {px : SX → Prop} {B : S → State → Prop} {BX : String → SX → State → Prop} {AX : Nat → Prop} (hr : vx_Run p l e R s m args below meth c H locs cells slots mc ms (F0 m pc ls st0) rest (va_Qv post B A1 a) (vx_X px BX AX) free) (hS : va_S A0 H0 H locs) (hA : ∀ q, q < H.size → A1 q → A0 q) (hf : ∀ q, free q → A0 q) (hAX : ∀ q, q < H.size → AX q → A0 q)
    (kx : ∀ (E : String) (ce : Cell) (q9 : Addr) (u : SX) (t : State) (H1 : Heap) (locs1 : List Loc), t.heap = H1 → s.vm.Alike t.vm → px u → BX E u t → H.size ≤ H1.size → (∀ q : Nat, q < H.size → ¬ AX q → H1[q]? = H[q]?) → va_S A0 H0 H1 locs1 → H1[q9]? = some ce → ce.vm = .none → s.vm.findClass E = some ce.cls → vx_W p l e R s m args below meth c H1 locs1 (cells + mc) (slots + ms) Q (F0 m pc ls rest) q9)
    (kk : ∀ (u : S) (t : State) (H1 : Heap) (locs1 : List Loc), t.heap = H1 → s.vm.Alike t.vm → post u → B u t → H.size ≤ H1.size → (∀ q : Nat, q < H.size → ¬ A1 q → H1[q]? = H[q]?) → va_S A0 H0 H1 locs1 → W p l e R s m args below meth c H1 locs1 (cells + mc) (slots + ms) Q (F0 m (pc + 3) ls (rest))) : W p l e R s m args below meth c H locs cells slots Q (F0 m pc ls st0) := by
  intro T hT X
  rcases hr T hT X with ⟨v, st₀, t, T', L, h0, X', hL, e1, e2, ⟨⟨u, hv, hp, hb⟩, hF⟩, st⟩ | ⟨q, st₀, t, T', L, E, ce, h0, X', hL, e1, e2, ⟨u, hp, hb, hF⟩, hce, hcv, hcl, st⟩
  · cases hv
    obtain ⟨k1, k2, k3⟩ := vx_keep h0 e1 hS hA hf hL hF
    obtain ⟨t2, a1, b1⟩ := kk u t T'.heap (locs ++ L) e1.symm (by rw [← e2]; exact X'.warmed.alike) hp hb k1 k2 k3 T' rfl X'
    exact ⟨t2, st t2 a1, b1⟩
  · obtain ⟨k1, k2, k3⟩ := vx_keep h0 e1 hS hAX hf hL hF
    obtain ⟨t2, a1, b1⟩ := kx E ce q u t T'.heap (locs ++ L) e1.symm (by rw [← e2]; exact X'.warmed.alike) hp hb k1 k2 k3 (by rw [e1]; exact hce) hcv hcl T' rfl X'
    exact ⟨t2, st.trans a1, b1⟩
/-- caught by the row x of this method's table; the rows ahead don't take it -/
theorem vx_catch {own name : String} {E : String} {ce : Cell} {q : Addr} (hown : s.vm.findClass own = some m.cls) (pre : List ExceptionTableEntry) (x : ExceptionTableEntry) (suf : List ExceptionTableEntry) (hsplit : c.exceptionTable.toList = pre ++ x :: suf)
    (hpass : ∀ z ∈ pre, covers z pc = false ∨ (z.catchType ≠ 0 ∧ ∃ nm : String, (Cond.classLink own z.catchType nm).before args s = true ∧ va_Nc E nm s)) (hx : covers x pc = true) (h0 : x.catchType ≠ 0)
    (hlink : (Cond.classLink own x.catchType name).before args s = true) (hcast : (Cond.castable E name).before args s = true) (hcell : H[q]? = some ce) (hv : ce.vm = .none) (hcl : s.vm.findClass E = some ce.cls)
    (kk : W p l e R s m args below meth c H locs cells slots Q (F0 m x.handlerPc ls [.ref q])) : vx_W p l e R s m args below meth c H locs cells slots Q (F0 m pc ls rest) q := by
  intro T hT X
  have hpl : e.platform.magicAccessors = ({} : Platform).magicAccessors := by rw [X.admits.platform]
  obtain ⟨c3, c4, hc3, hc4, hasg⟩ := Cond.castable_spec hcast
  cases Option.some.inj (hc3.symm.trans hcl)
  obtain ⟨c5, hc5, hcl5⟩ := Cond.classLink_spec hown hlink e.platform hpl
  cases Option.some.inj (hc4.symm.trans hc5)
  obtain ⟨vm', X', st⟩ := X.thenCaughtThrough q (g := F0 m pc ls rest) rfl (Steps.refl _) (by rw [hT]; exact hcell) (by rw [hv]; rfl) (by obtain ⟨k9, h9, -⟩ := Vm.findClass_spec hcl; exact ⟨k9, h9⟩) pre x suf hsplit
    (fun z hz => by
      rcases hpass z hz with h | ⟨hz0, nm, hl1, hn1⟩
      · exact Or.inl h
      · obtain ⟨c6, hc6, hcl6⟩ := Cond.classLink_spec hown hl1 e.platform hpl
        obtain ⟨a8, b8, h1, h2, h3⟩ := hn1
        cases Option.some.inj (h1.symm.trans hcl)
        cases Option.some.inj (h2.symm.trans hc6)
        exact Or.inr ⟨hz0, _, hcl6, h3⟩) hx (Or.inr ⟨h0, c4, hcl5, hasg⟩)
  obtain ⟨t, a1, b1⟩ := kk (T.setVm vm') hT X'
  exact ⟨t, st.trans a1, b1⟩
end Rows
section Ends
variable {p : Program} {l : Launch} {e : Env} {R : Room} {s : State} {m : MethodId} {args : Array Value} {below : List Frame} {meth : Method} {c : Code} {H : Heap} {locs : List Loc} {cells slots : Nat} {Q : State → Prop}
variable {mc ms : Nat} {free : Addr → Prop} {A0 A1 : Nat → Prop} {H0 : Heap} {a : Array Value} {ls : Array Slot} {st0 rest : List Value}
variable {Qc : Array Value → State → Outcome → State → Prop} {XC : String → State → State → Prop}
/-- what a body that may throw owes at its end -/
def vx_MQ (below : List Frame) (Qc : Array Value → State → Outcome → State → Prop) (XC : String → State → State → Prop) (a : Array Value) (s : State) (mc ms : Nat) (free : Addr → Prop) : State → Prop := fun t =>
  ∃ o, t.status = .running ∧ Ended t below o ∧ vx_Q Qc XC mc ms free a s o t
theorem vx_ret {g : JFrame} {mc ms : Nat} (k : W p l e R s m args below meth c H locs cells slots (MQ below Qc args s mc ms free) g) : W p l e R s m args below meth c H locs cells slots (vx_MQ below Qc XC args s mc ms free) g := by
  intro T hT X
  obtain ⟨t, a1, o, b1, b2, b3, b4⟩ := k T hT X
  exact ⟨t, a1, o, b1, b2, Or.inl ⟨b3, b4⟩⟩
/-- not caught here: it goes on to the caller -/
theorem vx_widen {g : JFrame} {q : Addr} {k n : Nat} (h1 : cells ≤ k) (h2 : slots ≤ n) (kk : vx_W p l e R s m args below meth c H locs k n Q g q) : vx_W p l e R s m args below meth c H locs cells slots Q g q := fun T hT X => kk T hT (stand_widen X h1 h2)
theorem vx_out {pc : Nat} {E : String} {ce : Cell} {q : Addr} {mc ms : Nat} (hout : ∀ x ∈ c.exceptionTable.toList, covers x pc = false) (hlocks : meth.locks = false) (hcell : H[q]? = some ce) (hv : ce.vm = .none) (hcl : s.vm.findClass E = some ce.cls)
    (hx : ∀ t : State, t.heap = H → s.vm.Alike t.vm → XC E s t) (hf : ∀ z ∈ locs, free z.base) (hc : cells ≤ mc) (hs : slots ≤ ms) :
    vx_W p l e R s m args below meth c H locs cells slots (vx_MQ below Qc XC args s mc ms free) (F0 m pc ls rest) q := by
  intro T hT X
  obtain ⟨st1, hrun, hend, hW, hsm⟩ := X.leaveThrown q (g := F0 m pc ls rest) rfl rfl rfl hout hlocks
  have hcell9 : (T.setFrames (.throwing q :: below)).heap[q]? = some ce := by
    show T.heap[q]? = some ce
    rw [hT]; exact hcell
  exact ⟨_, st1, .threw q, hrun, hend, Or.inr ⟨q, rfl, E, ce, locs, hx _ hT hW.alike, hcell9, hv, hcl, hW, hsm.mono hc hs, hf⟩⟩
theorem vx_frame {U : State} {k n : Nat} (h : s.sameButNew ({ U with vm := s.vm } : State) locs k n) : s.heap.size ≤ U.heap.size ∧ ∀ q : Nat, q < s.heap.size → (∀ z ∈ locs, z.base ≠ q) → U.heap[q]? = s.heap[q]? := by
  obtain ⟨-, h2, -, -, -, h6⟩ := h
  refine ⟨h2, fun q hq hz => ?_⟩
  obtain ⟨c9, e1, e2, e3, e4⟩ := h6 q _ (Array.getElem?_eq_getElem hq)
  have hs : c9.slots = (s.heap[q]).slots := Array.ext_getElem? fun i => e4 i fun hm => hz _ hm rfl
  have h9 : c9 = s.heap[q] := by
    rw [hs] at e2
    exact e2
  have e5 : U.heap[q]? = some c9 := e1
  rw [e5, h9, Array.getElem?_eq_getElem hq]
/-- the words of a throw but the four that speak of the heap -/
def vx_no (w : Cond) : Bool := decide (w ≠ .isRef (.static Bundle.tN "UNASSIGNED_STACK" Bundle.steD)) && decide (w ≠ .isRef (.static Bundle.tN "SUPPRESSED_SENTINEL" Bundle.listD)) && decide (w ≠ .laysStatic Bundle.tN "UNASSIGNED_STACK" Bundle.steD) && decide (w ≠ .laysStatic Bundle.tN "SUPPRESSED_SENTINEL" Bundle.listD)
def vx_at0 (own : String) (ic : Nat) (X : String) (names : List String) : List Cond := (Bundle.ownAtoms0 own ic X names).filter vx_no
def vx_atS (own : String) (ic : Nat) (X : String) (names : List String) : List Cond := (Bundle.ownAtoms own ic X names).filter vx_no
/-- a word that the tables alone decide, or a good one -/
def vx_ot (w : Cond) : Bool := w.onTables || goodWord w
theorem vx_ot_at {args a' : Array Value} {s U : State} {w : Cond} (hW : s.WarmedH U.vm) (hvm : s.vm = U.vm) (hg : vx_ot w = true) (h : w.before args s = true) : w.before a' U = true := by
  simp only [vx_ot, Bool.or_eq_true] at hg
  rcases hg with hg | hg
  · exact va_tabs hg hvm h
  · exact word_at hW (good_of_word hg) h
/-- a list's words: the good ones out of the method's own list, the others by premises of their own -/
theorem vx_hat {args : Array Value} {s : State} {L B : List Cond} (h1 : ∀ w ∈ L.filter goodWord, w.before args s = true) (h2 : ∀ w ∈ L.filter (fun w => !goodWord w), w ∈ B) (h3 : ∀ w ∈ B, w.before args s = true) : ∀ w ∈ L, w.before args s = true := by
  intro w hw
  by_cases g : goodWord w = true
  · exact h1 w (List.mem_filter.mpr ⟨hw, g⟩)
  · refine h3 w (h2 w (List.mem_filter.mpr ⟨hw, ?_⟩))
    show (!goodWord w) = true
    cases hgw : goodWord w
    · rfl
    · exact absurd hgw g
theorem vx_c {args : Array Value} {s : State} {w : Cond} {B : List Cond} (h : w.before args s = true) (t : ∀ w ∈ B, w.before args s = true) : ∀ w' ∈ w :: B, w'.before args s = true := fun w' h' => (List.mem_cons.mp h').elim (fun e => by rw [e]; exact h) (t w')
theorem vx_n {args : Array Value} {s : State} : ∀ w ∈ ([] : List Cond), w.before args s = true := fun _ h => nomatch h
theorem vx_own {args : Array Value} {s : State} {L : List Cond} (h1 : ∀ w ∈ L.filter vx_no, w.before args s = true)
    (hU : (Cond.isRef (.static Bundle.tN "UNASSIGNED_STACK" Bundle.steD)).before args s = true) (hN : (Cond.isRef (.static Bundle.tN "SUPPRESSED_SENTINEL" Bundle.listD)).before args s = true)
    (lU : (Cond.laysStatic Bundle.tN "UNASSIGNED_STACK" Bundle.steD).before args s = true) (lN : (Cond.laysStatic Bundle.tN "SUPPRESSED_SENTINEL" Bundle.listD).before args s = true) : ∀ w ∈ L, w.before args s = true := by
  intro w hw
  by_cases e1 : w = .isRef (.static Bundle.tN "UNASSIGNED_STACK" Bundle.steD)
  · rw [e1]; exact hU
  · by_cases e2 : w = .isRef (.static Bundle.tN "SUPPRESSED_SENTINEL" Bundle.listD)
    · rw [e2]; exact hN
    · by_cases e3 : w = .laysStatic Bundle.tN "UNASSIGNED_STACK" Bundle.steD
      · rw [e3]; exact lU
      · by_cases e4 : w = .laysStatic Bundle.tN "SUPPRESSED_SENTINEL" Bundle.listD
        · rw [e4]; exact lN
        · exact h1 w (List.mem_filter.mpr ⟨hw, by unfold vx_no; rw [decide_eq_true e1, decide_eq_true e2, decide_eq_true e3, decide_eq_true e4]; rfl⟩)
/-- where a static field lies, its class's statics cell in H -/
def vx_L (C n d : String) (A : Nat → Prop) (U : State) (H : Heap) : Prop := ∃ (c : ClassId) (k : Class) (i : Nat) (f : Field) (a : Nat) (cell : Cell), U.vm.findClass C = some c ∧ U.fieldFound? C n d = some (c, k, i, f) ∧ f.isStatic = true ∧ k.statics = some a ∧ H[a]? = some cell ∧ cell.vm.isStatics = true ∧ cell.cls = c ∧ f.slot < cell.slots.size ∧ k.staticTypes[f.slot]? = some f.type ∧ ¬ A a
theorem vx_L.moved {C n d : String} {A : Nat → Prop} {u U : State} {H : Heap} (hvm : u.vm.Alike U.vm) (h : vx_L C n d A u H) : vx_L C n d A U H := by
  obtain ⟨c, k, i, f, a, cell, h1, h2, h3, h4, h5, h6, h7, h8, h9, h10⟩ := h
  obtain ⟨k', hi', he⟩ := State.fieldFound?_setVm hvm h2
  exact ⟨c, k', i, f, a, cell, by rw [hvm.findClass]; exact h1, hi', h3, by rw [he]; exact h4, h5, h6, h7, h8, by rw [he]; exact h9, h10⟩
theorem vx_L.kept {C n d : String} {A : Nat → Prop} {U : State} {H H1 : Heap} (h : vx_L C n d A U H) (hq : ∀ a : Nat, a < H.size → ¬ A a → H1[a]? = H[a]?) : vx_L C n d A U H1 := by
  obtain ⟨c, k, i, f, a, cell, h1, h2, h3, h4, h5, h6, h7, h8, h9, h10⟩ := h
  exact ⟨c, k, i, f, a, cell, h1, h2, h3, h4, by rw [hq a (Array.getElem?_eq_some_iff.mp h5).1 h10]; exact h5, h6, h7, h8, h9, h10⟩
theorem vx_L.narrow {C n d : String} {A B : Nat → Prop} {U : State} {H : Heap} (h : vx_L C n d A U H) (hAB : ∀ q, B q → A q) : vx_L C n d B U H := by
  obtain ⟨c, k, i, f, a, cell, h1, h2, h3, h4, h5, h6, h7, h8, h9, h10⟩ := h
  exact ⟨c, k, i, f, a, cell, h1, h2, h3, h4, h5, h6, h7, h8, h9, fun z => h10 (hAB _ z)⟩
theorem vx_L.word {C n d : String} {A : Nat → Prop} {s : State} {args : Array Value} (h : vx_L C n d A s s.heap) : (Cond.laysStatic C n d).before args s = true := by
  obtain ⟨c, k, i, f, a, cell, h1, h2, h3, h4, h5, h6, h7, h8, h9, -⟩ := h
  show (Cond.laysStatic C n d).holds args s none s [] = true
  exact Cond.laysStatic_of h1 h2 h3 h4 h5 h6 h7 h8 h9
/-- .. and what it holds: null or some reference -/
def vx_Zq (C n d : String) (A : Nat → Prop) (U : State) (H : Heap) : Prop := va_Zq C n d A U H ∧ vx_L C n d A U H
theorem vx_Zq.moved {C n d : String} {A : Nat → Prop} {u U : State} {H : Heap} (hvm : u.vm.Alike U.vm) (h : vx_Zq C n d A u H) : vx_Zq C n d A U H := ⟨va_Zq.moved hvm h.1, vx_L.moved hvm h.2⟩
theorem vx_Zq.kept {C n d : String} {A : Nat → Prop} {U : State} {H H1 : Heap} (h : vx_Zq C n d A U H) (hq : ∀ a : Nat, a < H.size → ¬ A a → H1[a]? = H[a]?) : vx_Zq C n d A U H1 := ⟨va_Zq.kept h.1 hq, vx_L.kept h.2 hq⟩
theorem vx_Zq.narrow {C n d : String} {A B : Nat → Prop} {U : State} {H : Heap} (h : vx_Zq C n d A U H) (hAB : ∀ q, B q → A q) : vx_Zq C n d B U H := ⟨va_Zq.narrow h.1 hAB, vx_L.narrow h.2 hAB⟩
theorem vx_Zqof {args : Array Value} {s : State} {C n d : String} {A : Nat → Prop} (hl : (Cond.laysStatic C n d).before args s = true) (hini : (Cond.initialized C).before args s = true) (h : (Cond.isRef (.static C n d)).before args s = true) (hA : ∀ a : Nat, a < s.heap.size → ¬ A a) : vx_Zq C n d A s s.heap := by
  refine ⟨va_Zqof hl hini h hA, ?_⟩
  obtain ⟨c, k, i, f, a, cell, h1, h2, h3, h4, h5, h6, h7, h8, h9⟩ := Cond.laysStatic_spec hl
  exact ⟨c, k, i, f, a, cell, h1, h2, h3, h4, h5, h6, h7, h8, h9, hA a (Array.getElem?_eq_some_iff.mp h5).1⟩
theorem vx_isRef {C n d : String} {v : Value} {A : Nat → Prop} {s : State} {args : Array Value} (h : va_Z C n d v A s s.heap) (hv : v.isRef = true) : (Cond.isRef (.static C n d)).before args s = true := by
  obtain ⟨cf, kf, fi, f, a, cell, h1, h2, h3, h4, h5, h6, h7, -⟩ := h
  have he : (Term.static C n d).eval args s none [] s = some v := by
    simp [Term.eval, State.fieldNamed?, h1, h2, h4, h5, h6, h7]
  simp only [Cond.before, Cond.holds, Cond.value, he]
  cases v <;> simp_all [Value.isRef]
theorem vx_isRefq {C n d : String} {A : Nat → Prop} {s : State} {args : Array Value} (h : va_Zq C n d A s s.heap) : (Cond.isRef (.static C n d)).before args s = true := by
  rcases h with h | ⟨t, h⟩
  · exact vx_isRef h rfl
  · exact vx_isRef h rfl
/-- the same frame, seen from here: as if the method were called anew in this heap -/
theorem vx_rebase {T : State} (X : Stand p l e R s m args below meth c T locs cells slots) {R' : Room} (hf : R'.frames ≤ R.frames) (hl : R'.locals ≤ R.locals) (hc : cells + R'.cells ≤ R.cells) (hs : slots + R'.slots ≤ R.slots) :
    Stand p l e R' ((T.setVm s.vm).setFrames (.invoking m args :: below)) m args below meth c T [] 0 0 := by
  have htop : (T.setVm s.vm).topJava?.isSome := X.here.top
  have hF : ((T.setVm s.vm).setFrames (.invoking m args :: below)).frames = .invoking m args :: below := State.frames_setFrames _ (State.cur_lt_of_top htop)
  obtain ⟨g₀, hg0⟩ := Option.isSome_iff_exists.mp htop
  obtain ⟨r, hr⟩ := State.topJava?_eq_some.mp hg0
  have hl9 : e.platform.stackLimits (T.setVm s.vm).me = e.platform.stackLimits s.me := X.limits
  have hb9 : (T.setVm s.vm).me.stackBytes = s.me.stackBytes := X.bytes
  refine ⟨X.admits, X.cas, X.clock, hF, ?_, X.hears, X.method, X.code, X.here, X.tail, X.warmed, ?_, ?_, ?_⟩
  · have h := X.room
    have hU : ((T.setVm s.vm).setFrames (.invoking m args :: below)).localsInUse = s.localsInUse := by
      rw [State.localsInUse_invoking hF (meth := meth) (c := c) X.method X.code, State.localsInUse_invoking X.frames X.method X.code]
    simp only [State.hasRoom, Bool.and_eq_true, decide_eq_true_eq] at h ⊢
    obtain ⟨⟨⟨⟨h1, h2, h3, h4, h5, h6⟩, h7⟩, h8⟩, h9⟩ := h
    rw [X.frames, List.length_cons] at h2 h3
    have q1 := X.heapSize
    have q2 := X.used
    simp only [hF, hU, List.length_cons, State.stackLimits_setFrames, State.stackBytes_setFrames, hl9, hb9]
    refine ⟨⟨⟨⟨by omega, by omega, by omega, by omega, by omega, h6⟩, ?_⟩, ?_⟩, X.book⟩
    · show T.heap.size + R'.cells ≤ e.platform.maxCells
      omega
    · show T.slotsUsed + R'.slots ≤ e.platform.maxSlots
      omega
  · rw [State.stackLimits_setFrames]; rfl
  · rw [State.stackBytes_setFrames]; rfl
  · refine ⟨?_, Nat.le_refl _, Nat.le_refl _, ?_, ?_, fun a c9 h9 => ⟨c9, h9, rfl, rfl, fun _ _ => rfl⟩⟩
    · obtain ⟨t, ht, -⟩ := State.frames_cons hr
      show T.setVm s.vm = { ((T.setVm s.vm).setFrames (.invoking m args :: below)).setFrames (T.setVm s.vm).frames with heap := T.heap, slotsUsed := T.slotsUsed }
      rw [State.setFrames_setFrames, State.setFrames_self ht]
      rfl
    · show T.slotsUsed = T.slotsUsed + ((T.heap.toList.drop T.heap.size).map (·.slots.size)).sum
      rw [List.drop_eq_nil_of_le (Nat.le_of_eq Array.length_toList)]
      rfl
    · show ((T.heap.toList.drop T.heap.size).map (·.slots.size)).sum ≤ 0
      rw [List.drop_eq_nil_of_le (Nat.le_of_eq Array.length_toList)]
      exact Nat.le_refl _
/-- 'throw new E()': new; dup; invokespecial; athrow -/
theorem vx_throw0 {cc : ByteArray} {pc : Nat} (hexec : p.tables.exec = Jvm.exec) (hb : c.code = cc) (hl : l.stackTraces = false) {own cls : String} {names : List String} {ik ic mc ms : Nat} {A : Nat → Prop}
    (hown : s.vm.findClass own = some m.cls) (hcls : Bundle.fit cls = true) (hnames : ∀ n ∈ names, Bundle.fit n = true)
    (hk : (Cond.classLink own ik cls).before args s = true) (hini : (Cond.initialized cls).before args s = true) (hat : ∀ w ∈ vx_at0 own ic cls names, w.before args s = true)
    (hgood : ∀ w ∈ Cond.classLink own ik cls :: Cond.initialized cls :: vx_at0 own ic cls names, vx_ot w = true)
    (hU : vx_Zq Bundle.tN "UNASSIGNED_STACK" Bundle.steD A s s.heap) (hN : vx_Zq Bundle.tN "SUPPRESSED_SENTINEL" Bundle.listD A s s.heap) (hS : va_S A s.heap H locs) (hsize : ls.size = c.maxLocals)
    (d0 : decode cc pc = .ok (.new ik, 3)) (d3 : decode cc (pc + 3) = .ok (.dup, 1)) (d4 : decode cc (pc + 4) = .ok (.invokespecial ic, 3)) (d7 : decode cc (pc + 7) = .ok (.athrow, 1))
    (hout : ∀ x ∈ c.exceptionTable.toList, covers x (pc + 7) = false)
    (hRframes : names.length + 3 < R.frames) (hRlocals : (rest.map fun v => v.category).sum + (13 * (names.length + 1) + 42) ≤ R.locals) (hRcells : cells + 1 ≤ R.cells) (hRslots : slots + 6 ≤ R.slots) (hlocks : meth.locks = false)
    (hx : ∀ t : State, s.vm.Alike t.vm → H.size ≤ t.heap.size → (∀ q : Nat, q < H.size → t.heap[q]? = H[q]?) → XC cls s t)
    (hf : ∀ z ∈ locs, free z.base) (hc : cells + 1 ≤ mc) (hs : slots + 6 ≤ ms) :
    W p l e R s m args below meth c H locs cells slots (vx_MQ below Qc XC args s mc ms free) (F0 m pc ls rest) := by
  intro T hT X
  have htr : e.platform.stackTraces = false := (show e.platform.stackTraces = l.stackTraces by rw [X.admits.platform]).trans hl
  have Y := vx_rebase X (R' := { frames := R.frames, locals := R.locals, cells := 1, slots := 6 }) (Nat.le_refl _) (Nat.le_refl _) hRcells hRslots
  obtain ⟨s', hA⟩ : ∃ z, z = (T.setVm s.vm).setFrames (.invoking m args :: below) := ⟨_, rfl⟩
  rw [← hA] at Y
  have hvm : s'.vm = s.vm := by rw [hA]; rfl
  have hhp : s'.heap = H := by rw [hA]; exact hT
  have hW0 : s.WarmedH s'.vm := by rw [hvm]; exact State.WarmedH.refl s
  have hat' : ∀ w ∈ vx_at0 own ic cls names, w.before args s' = true := fun w hw => vx_ot_at hW0 hvm.symm (hgood w (List.mem_cons_of_mem _ (List.mem_cons_of_mem _ hw))) (hat w hw)
  have hk' : (Cond.classLink own ik cls).before args s' = true := vx_ot_at hW0 hvm.symm (hgood _ List.mem_cons_self) hk
  have hini' : (Cond.initialized cls).before args s' = true := vx_ot_at hW0 hvm.symm (hgood _ (List.mem_cons_of_mem _ List.mem_cons_self)) hini
  have hU' : vx_Zq Bundle.tN "UNASSIGNED_STACK" Bundle.steD A s' s'.heap := by rw [hhp]; exact vx_Zq.moved hW0.alike (hU.kept hS.2.1)
  have hN' : vx_Zq Bundle.tN "SUPPRESSED_SENTINEL" Bundle.listD A s' s'.heap := by rw [hhp]; exact vx_Zq.moved hW0.alike (hN.kept hS.2.1)
  have h : ∀ w ∈ Bundle.ownAtoms0 own ic cls names, w.before args s' = true := vx_own hat' (vx_isRefq hU'.1) (vx_isRefq hN'.1) hU'.2.word hN'.2.word
  have hown' : s'.vm.findClass own = some m.cls := by rw [hvm]; exact hown
  have hins : (Cond.instantiable cls 6).before args s' = true := h _ (by simp [Bundle.ownAtoms0])
  obtain ⟨vm₁, cX, kX, hfX, hkX, -, -, X₁, st1⟩ := Y.newCold hexec (own := own) (C := cls) (index := ik) (n := 6) hown' hk' hins hini'
    (g := F0 m pc ls rest) rfl (by rw [hb]; exact d0) (Nat.le_refl _) (Nat.le_refl _)
  generalize hT1 : (T.setVm vm₁).pushCell { cls := cX, slots := kX.instanceTypes.map defaultValue, vm := .none } = T1 at X₁ st1
  have hcat : (Value.ref T.heap.size).category = 1 := rfl
  have hcellA : T1.heap[T.heap.size]? = some (freshCell cX kX) := by rw [← hT1]; exact State.heap_pushCell_size _ _
  have d3' : decode c.code (pc + 3) = .ok (.dup, 1) := by rw [hb]; exact d3
  obtain ⟨U, hsteps, hrun, hend, hW, hsame, ce, hce, hO⟩ := X₁.ctorThrow0 hexec htr (own := own) (cls := cls) (names := names) (ic := ic) hown' hcls hnames h (fun x hx => nomatch hx) hfX hkX hcellA (by rw [hhp, hT]; exact Nat.le_refl _)
    (g := { method := m, pc := pc + 4, locals := ls, stack := .ref T.heap.size :: .ref T.heap.size :: rest, locked := none }) rfl hsize rfl rfl (rest := rest) rfl
    (by rw [hb]; exact d4) (by rw [hb]; exact d7) hout hRframes (by simp only [List.map_cons, List.sum_cons, hcat]; omega) hlocks
  obtain ⟨f1, f2⟩ := vx_frame hsame
  rw [hhp] at f1 f2
  have hWs : s.WarmedH U.vm := State.WarmedH.trans hW0 hW
  have hcl : s.vm.findClass cls = some ce.cls := by
    have h9 := hO.cls
    rw [hvm] at h9
    exact h9
  have hall : s.sameButNew ({ U with vm := s.vm } : State) locs mc ms := by
    subst hA
    obtain ⟨e1, e2⟩ := hsame
    rw [State.setFrames_setFrames] at e1
    have h2 : (T.setVm s.vm).sameButNew ({ U with vm := s.vm } : State) [] (0 + 1) (0 + 6) := ⟨e1, e2⟩
    have h3 := X.same.trans h2
    rw [List.append_nil] at h3
    exact h3.mono hc hs
  refine ⟨U, ?_, .threw T.heap.size, hrun, hend, Or.inr ⟨T.heap.size, rfl, cls, ce, locs, hx U hWs.alike f1 (fun q hq => f2 q hq (fun z hz => nomatch hz)), hce, hO.vm, hcl, hWs, hall, hf⟩⟩
  refine st1 _ ?_
  show Steps p.tables e below (T1.setTop { method := m, pc := pc + 3, locals := ls, stack := .ref T.heap.size :: rest, locked := none }) _
  jvm_step X₁.here [X₁.here.top, hexec, d3', Value.category]
  exact hsteps
/-- 'throw new E("text")': new; dup; ldc; invokespecial; athrow -/
theorem vx_throwS {cc : ByteArray} {pc : Nat} (hexec : p.tables.exec = Jvm.exec) (hb : c.code = cc) (hl : l.stackTraces = false) {own cls text : String} {names : List String} {ik is ic mc ms sa : Nat} {A : Nat → Prop}
    (hown : s.vm.findClass own = some m.cls) (hcls : Bundle.fit cls = true) (hnames : ∀ n ∈ names, Bundle.fit n = true)
    (hk : (Cond.classLink own ik cls).before args s = true) (hini : (Cond.initialized cls).before args s = true) (hstr : vk_R own is text sa s) (hat : ∀ w ∈ vx_atS own ic cls names, w.before args s = true)
    (hgood : ∀ w ∈ Cond.classLink own ik cls :: Cond.initialized cls :: vx_atS own ic cls names, vx_ot w = true)
    (hU : vx_Zq Bundle.tN "UNASSIGNED_STACK" Bundle.steD A s s.heap) (hN : vx_Zq Bundle.tN "SUPPRESSED_SENTINEL" Bundle.listD A s s.heap) (hS : va_S A s.heap H locs) (hsize : ls.size = c.maxLocals)
    (d0 : decode cc pc = .ok (.new ik, 3)) (d3 : decode cc (pc + 3) = .ok (.dup, 1)) (d4 : decode cc (pc + 4) = .ok (.ldc is, 2)) (d6 : decode cc (pc + 6) = .ok (.invokespecial ic, 3)) (d9 : decode cc (pc + 9) = .ok (.athrow, 1))
    (hout : ∀ x ∈ c.exceptionTable.toList, covers x (pc + 9) = false)
    (hRframes : names.length + 3 < R.frames) (hRlocals : (rest.map fun v => v.category).sum + (13 * (names.length + 1) + 43) ≤ R.locals) (hRcells : cells + 1 ≤ R.cells) (hRslots : slots + 6 ≤ R.slots) (hlocks : meth.locks = false)
    (hx : ∀ t : State, s.vm.Alike t.vm → H.size ≤ t.heap.size → (∀ q : Nat, q < H.size → t.heap[q]? = H[q]?) → XC cls s t)
    (hf : ∀ z ∈ locs, free z.base) (hc : cells + 1 ≤ mc) (hs : slots + 6 ≤ ms) :
    W p l e R s m args below meth c H locs cells slots (vx_MQ below Qc XC args s mc ms free) (F0 m pc ls rest) := by
  intro T hT X
  have htr : e.platform.stackTraces = false := (show e.platform.stackTraces = l.stackTraces by rw [X.admits.platform]).trans hl
  have Y := vx_rebase X (R' := { frames := R.frames, locals := R.locals, cells := 1, slots := 6 }) (Nat.le_refl _) (Nat.le_refl _) hRcells hRslots
  obtain ⟨s', hA⟩ : ∃ z, z = (T.setVm s.vm).setFrames (.invoking m args :: below) := ⟨_, rfl⟩
  rw [← hA] at Y
  have hvm : s'.vm = s.vm := by rw [hA]; rfl
  have hhp : s'.heap = H := by rw [hA]; exact hT
  have hW0 : s.WarmedH s'.vm := by rw [hvm]; exact State.WarmedH.refl s
  have hat' : ∀ w ∈ vx_atS own ic cls names, w.before args s' = true := fun w hw => vx_ot_at hW0 hvm.symm (hgood w (List.mem_cons_of_mem _ (List.mem_cons_of_mem _ hw))) (hat w hw)
  have hk' : (Cond.classLink own ik cls).before args s' = true := vx_ot_at hW0 hvm.symm (hgood _ List.mem_cons_self) hk
  have hini' : (Cond.initialized cls).before args s' = true := vx_ot_at hW0 hvm.symm (hgood _ (List.mem_cons_of_mem _ List.mem_cons_self)) hini
  have hU' : vx_Zq Bundle.tN "UNASSIGNED_STACK" Bundle.steD A s' s'.heap := by rw [hhp]; exact vx_Zq.moved hW0.alike (hU.kept hS.2.1)
  have hN' : vx_Zq Bundle.tN "SUPPRESSED_SENTINEL" Bundle.listD A s' s'.heap := by rw [hhp]; exact vx_Zq.moved hW0.alike (hN.kept hS.2.1)
  have h : ∀ w ∈ Bundle.ownAtoms own ic cls names, w.before args s' = true := vx_own hat' (vx_isRefq hU'.1) (vx_isRefq hN'.1) hU'.2.word hN'.2.word
  have hown' : s'.vm.findClass own = some m.cls := by rw [hvm]; exact hown
  have hins : (Cond.instantiable cls 6).before args s' = true := h _ (by simp [Bundle.ownAtoms])
  obtain ⟨vm₁, cX, kX, hfX, hkX, -, -, X₁, st1⟩ := Y.newCold hexec (own := own) (C := cls) (index := ik) (n := 6) hown' hk' hins hini'
    (g := F0 m pc ls rest) rfl (by rw [hb]; exact d0) (Nat.le_refl _) (Nat.le_refl _)
  generalize hT1 : (T.setVm vm₁).pushCell { cls := cX, slots := kX.instanceTypes.map defaultValue, vm := .none } = T1 at X₁ st1
  have hcat : (Value.ref T.heap.size).category = 1 := rfl
  have hcellA : T1.heap[T.heap.size]? = some (freshCell cX kX) := by rw [← hT1]; exact State.heap_pushCell_size _ _
  have d3' : decode c.code (pc + 3) = .ok (.dup, 1) := by rw [hb]; exact d3
  have d4' : decode c.code (pc + 4) = .ok (.ldc is, 2) := by rw [hb]; exact d4
  have hstr' : vk_R own is text sa s' := vk_R.warm hW0 hstr
  obtain ⟨U, hsteps, hrun, hend, hW, hsame, ce, hce, hO⟩ := X₁.ctorThrowS hexec htr (own := own) (cls := cls) (names := names) (ic := ic) hown' hcls hnames h (fun x hx => nomatch hx) hfX hkX hcellA (by rw [hhp, hT]; exact Nat.le_refl _) (msg := .ref sa) rfl
    (g := { method := m, pc := pc + 6, locals := ls, stack := .ref sa :: .ref T.heap.size :: .ref T.heap.size :: rest, locked := none }) rfl hsize rfl rfl (rest := rest) rfl
    (by rw [hb]; exact d6) (by rw [hb]; exact d9) hout hRframes (by simp only [List.map_cons, List.sum_cons, hcat]; omega) hlocks
  obtain ⟨f1, f2⟩ := vx_frame hsame
  rw [hhp] at f1 f2
  have hWs : s.WarmedH U.vm := State.WarmedH.trans hW0 hW
  have hcl : s.vm.findClass cls = some ce.cls := by
    have h9 := hO.cls
    rw [hvm] at h9
    exact h9
  have hall : s.sameButNew ({ U with vm := s.vm } : State) locs mc ms := by
    subst hA
    obtain ⟨e1, e2⟩ := hsame
    rw [State.setFrames_setFrames] at e1
    have h2 : (T.setVm s.vm).sameButNew ({ U with vm := s.vm } : State) [] (0 + 1) (0 + 6) := ⟨e1, e2⟩
    have h3 := X.same.trans h2
    rw [List.append_nil] at h3
    exact h3.mono hc hs
  refine ⟨U, ?_, .threw T.heap.size, hrun, hend, Or.inr ⟨T.heap.size, rfl, cls, ce, locs, hx U hWs.alike f1 (fun q hq => f2 q hq (fun z hz => nomatch hz)), hce, hO.vm, hcl, hWs, hall, hf⟩⟩
  refine st1 _ ?_
  show Steps p.tables e below (T1.setTop { method := m, pc := pc + 3, locals := ls, stack := .ref T.heap.size :: rest, locked := none }) _
  jvm_step X₁.here [X₁.here.top, hexec, d3', Value.category]
  exact X₁.ldcString hexec (own := own) (text := text) (index := is) (a := sa) hown' hstr'.1 hstr'.2
    (g := { method := m, pc := pc + 4, locals := ls, stack := .ref T.heap.size :: .ref T.heap.size :: rest, locked := none }) rfl d4' _ hsteps
/-- 'throw new E("text")', the text by a wide index -/
theorem vx_throwSW {cc : ByteArray} {pc : Nat} (hexec : p.tables.exec = Jvm.exec) (hb : c.code = cc) (hl : l.stackTraces = false) {own cls text : String} {names : List String} {ik is ic mc ms sa : Nat} {A : Nat → Prop}
    (hown : s.vm.findClass own = some m.cls) (hcls : Bundle.fit cls = true) (hnames : ∀ n ∈ names, Bundle.fit n = true)
    (hk : (Cond.classLink own ik cls).before args s = true) (hini : (Cond.initialized cls).before args s = true) (hstr : vk_R own is text sa s) (hat : ∀ w ∈ vx_atS own ic cls names, w.before args s = true)
    (hgood : ∀ w ∈ Cond.classLink own ik cls :: Cond.initialized cls :: vx_atS own ic cls names, vx_ot w = true)
    (hU : vx_Zq Bundle.tN "UNASSIGNED_STACK" Bundle.steD A s s.heap) (hN : vx_Zq Bundle.tN "SUPPRESSED_SENTINEL" Bundle.listD A s s.heap) (hS : va_S A s.heap H locs) (hsize : ls.size = c.maxLocals)
    (d0 : decode cc pc = .ok (.new ik, 3)) (d3 : decode cc (pc + 3) = .ok (.dup, 1)) (d4 : decode cc (pc + 4) = .ok (.ldc_w is, 3)) (d7 : decode cc (pc + 7) = .ok (.invokespecial ic, 3)) (d10 : decode cc (pc + 10) = .ok (.athrow, 1))
    (hout : ∀ x ∈ c.exceptionTable.toList, covers x (pc + 10) = false)
    (hRframes : names.length + 3 < R.frames) (hRlocals : (rest.map fun v => v.category).sum + (13 * (names.length + 1) + 43) ≤ R.locals) (hRcells : cells + 1 ≤ R.cells) (hRslots : slots + 6 ≤ R.slots) (hlocks : meth.locks = false)
    (hx : ∀ t : State, s.vm.Alike t.vm → H.size ≤ t.heap.size → (∀ q : Nat, q < H.size → t.heap[q]? = H[q]?) → XC cls s t)
    (hf : ∀ z ∈ locs, free z.base) (hc : cells + 1 ≤ mc) (hs : slots + 6 ≤ ms) :
    W p l e R s m args below meth c H locs cells slots (vx_MQ below Qc XC args s mc ms free) (F0 m pc ls rest) := by
  intro T hT X
  have htr : e.platform.stackTraces = false := (show e.platform.stackTraces = l.stackTraces by rw [X.admits.platform]).trans hl
  have Y := vx_rebase X (R' := { frames := R.frames, locals := R.locals, cells := 1, slots := 6 }) (Nat.le_refl _) (Nat.le_refl _) hRcells hRslots
  obtain ⟨s', hA⟩ : ∃ z, z = (T.setVm s.vm).setFrames (.invoking m args :: below) := ⟨_, rfl⟩
  rw [← hA] at Y
  have hvm : s'.vm = s.vm := by rw [hA]; rfl
  have hhp : s'.heap = H := by rw [hA]; exact hT
  have hW0 : s.WarmedH s'.vm := by rw [hvm]; exact State.WarmedH.refl s
  have hat' : ∀ w ∈ vx_atS own ic cls names, w.before args s' = true := fun w hw => vx_ot_at hW0 hvm.symm (hgood w (List.mem_cons_of_mem _ (List.mem_cons_of_mem _ hw))) (hat w hw)
  have hk' : (Cond.classLink own ik cls).before args s' = true := vx_ot_at hW0 hvm.symm (hgood _ List.mem_cons_self) hk
  have hini' : (Cond.initialized cls).before args s' = true := vx_ot_at hW0 hvm.symm (hgood _ (List.mem_cons_of_mem _ List.mem_cons_self)) hini
  have hU' : vx_Zq Bundle.tN "UNASSIGNED_STACK" Bundle.steD A s' s'.heap := by rw [hhp]; exact vx_Zq.moved hW0.alike (hU.kept hS.2.1)
  have hN' : vx_Zq Bundle.tN "SUPPRESSED_SENTINEL" Bundle.listD A s' s'.heap := by rw [hhp]; exact vx_Zq.moved hW0.alike (hN.kept hS.2.1)
  have h : ∀ w ∈ Bundle.ownAtoms own ic cls names, w.before args s' = true := vx_own hat' (vx_isRefq hU'.1) (vx_isRefq hN'.1) hU'.2.word hN'.2.word
  have hown' : s'.vm.findClass own = some m.cls := by rw [hvm]; exact hown
  have hins : (Cond.instantiable cls 6).before args s' = true := h _ (by simp [Bundle.ownAtoms])
  obtain ⟨vm₁, cX, kX, hfX, hkX, -, -, X₁, st1⟩ := Y.newCold hexec (own := own) (C := cls) (index := ik) (n := 6) hown' hk' hins hini'
    (g := F0 m pc ls rest) rfl (by rw [hb]; exact d0) (Nat.le_refl _) (Nat.le_refl _)
  generalize hT1 : (T.setVm vm₁).pushCell { cls := cX, slots := kX.instanceTypes.map defaultValue, vm := .none } = T1 at X₁ st1
  have hcat : (Value.ref T.heap.size).category = 1 := rfl
  have hcellA : T1.heap[T.heap.size]? = some (freshCell cX kX) := by rw [← hT1]; exact State.heap_pushCell_size _ _
  have d3' : decode c.code (pc + 3) = .ok (.dup, 1) := by rw [hb]; exact d3
  have d4' : decode c.code (pc + 4) = .ok (.ldc_w is, 3) := by rw [hb]; exact d4
  have hstr' : vk_R own is text sa s' := vk_R.warm hW0 hstr
  obtain ⟨U, hsteps, hrun, hend, hW, hsame, ce, hce, hO⟩ := X₁.ctorThrowS hexec htr (own := own) (cls := cls) (names := names) (ic := ic) hown' hcls hnames h (fun x hx => nomatch hx) hfX hkX hcellA (by rw [hhp, hT]; exact Nat.le_refl _) (msg := .ref sa) rfl
    (g := { method := m, pc := pc + 7, locals := ls, stack := .ref sa :: .ref T.heap.size :: .ref T.heap.size :: rest, locked := none }) rfl hsize rfl rfl (rest := rest) rfl
    (by rw [hb]; exact d7) (by rw [hb]; exact d10) hout hRframes (by simp only [List.map_cons, List.sum_cons, hcat]; omega) hlocks
  obtain ⟨f1, f2⟩ := vx_frame hsame
  rw [hhp] at f1 f2
  have hWs : s.WarmedH U.vm := State.WarmedH.trans hW0 hW
  have hcl : s.vm.findClass cls = some ce.cls := by
    have h9 := hO.cls
    rw [hvm] at h9
    exact h9
  have hall : s.sameButNew ({ U with vm := s.vm } : State) locs mc ms := by
    subst hA
    obtain ⟨e1, e2⟩ := hsame
    rw [State.setFrames_setFrames] at e1
    have h2 : (T.setVm s.vm).sameButNew ({ U with vm := s.vm } : State) [] (0 + 1) (0 + 6) := ⟨e1, e2⟩
    have h3 := X.same.trans h2
    rw [List.append_nil] at h3
    exact h3.mono hc hs
  refine ⟨U, ?_, .threw T.heap.size, hrun, hend, Or.inr ⟨T.heap.size, rfl, cls, ce, locs, hx U hWs.alike f1 (fun q hq => f2 q hq (fun z hz => nomatch hz)), hce, hO.vm, hcl, hWs, hall, hf⟩⟩
  refine st1 _ ?_
  show Steps p.tables e below (T1.setTop { method := m, pc := pc + 3, locals := ls, stack := .ref T.heap.size :: rest, locked := none }) _
  jvm_step X₁.here [X₁.here.top, hexec, d3', Value.category]
  exact X₁.ldcStringW hexec (own := own) (text := text) (index := is) (a := sa) hown' hstr'.1 hstr'.2
    (g := { method := m, pc := pc + 4, locals := ls, stack := .ref T.heap.size :: .ref T.heap.size :: rest, locked := none }) rfl d4' _ hsteps
end Ends
section Bodies
variable {l : Launch}
theorem vx_ofW {y : MethodName} {ws ws' : List Cond} {rm : Room} {Pc : Array Value → State → Prop} {Qc : Array Value → State → Outcome → State → Prop} {XC : String → State → State → Prop} {mc ms : Nat} {free : Addr → Prop} {cc : ByteArray} {maxL : Nat} {ret : Option FieldType}
    (hy : plainName y.cls = true) (hw : ws = Cond.code y cc maxL ret :: ws')
    (body : ∀ p e s m args below meth c s₁, BodyLoose p l y (headSpec ws rm) cc maxL ret e s m args below meth c s₁ → c.maxLocals = maxL → (∀ x ∈ c.exceptionTable.toList, False) → Pc args s →
      W p l e (headSpec ws rm).room s m args below meth c s.heap [] 0 0 (vx_MQ below Qc XC args s mc ms free) (entryFrame m args maxL)) : vx_Met l y ws rm Pc Qc XC mc ms free := by
  refine MetFree.of_bodyS (code := cc) (maxLocals := maxL) (ret := ret) hy ?_ ?_
  · intro args s m h hn
    obtain ⟨meth, c, h1, h2, h3, h4, h5, h6, -, -⟩ := Cond.code_spec hn (atoms_spec (ws := ws) h _ (by rw [hw]; exact List.mem_cons_self))
    exact ⟨meth, c, h1, h2, h3, h4, h5, h6⟩
  · intro p e s m args below meth c s₁ B hml hP _
    have hh0 : s₁.heap = s.heap := by rw [B.state]; rfl
    have ht : ∀ x ∈ c.exceptionTable.toList, False := by
      obtain ⟨meth9, c9, h1, h2, -, -, -, -, h7, -⟩ := Cond.code_spec B.named (atoms_spec (ws := ws) B.pre _ (by rw [hw]; exact List.mem_cons_self))
      cases Option.some.inj (h1.symm.trans B.method)
      cases Option.some.inj (h2.symm.trans (Stand.of_body B).code)
      intro x hx
      rw [Array.isEmpty_iff.mp h7] at hx
      cases hx
    obtain ⟨t, a1, o, b1, b2, b3⟩ := body p e s m args below meth c s₁ B hml ht hP s₁ hh0 (Stand.of_body B)
    exact ⟨t, o, a1, b1, b2, b3⟩
/-- the table of a body with handlers -/
theorem vx_table {p : Program} {x y : MethodName} {S : Spec} {cc bytes : ByteArray} {maxL maxL' : Nat} {ret ret' : Option FieldType} {e : Env} {s s₁ : State} {m : MethodId} {args : Array Value} {below : List Frame} {meth : Method} {c : Code} {hh : List (Nat × Nat × Nat × Nat)}
    (B : BodyLoose p l y S cc maxL ret e s m args below meth c s₁) (h : (Cond.codeWith y bytes maxL' ret' hh).before args s = true) : c.exceptionTable.toList = tableOf hh := by
  obtain ⟨m9, meth9, c9, hn9, h1, h2, -, -, h6, -⟩ := Cond.codeWith_spec h
  cases Option.some.inj (hn9.symm.trans B.named)
  cases Option.some.inj (h1.symm.trans B.method)
  cases Option.some.inj (h2.symm.trans (Stand.of_body B).code)
  rw [← h6, table_eq]
end Bodies
end VXA
/-! ===== END ===== -/
/-! ===== BEGIN a static call of a method with an exception table ===== -/
section VXS
variable {p : Program} {l : Launch} {e : Env} {R : Room} {s : State} {m : MethodId} {args : Array Value} {below : List Frame} {meth : Method} {c : Code} {T : State} {H : Heap} {locs : List Loc} {cells slots : Nat}
abbrev vx_CSW (R : Room) (s : State) (args : Array Value) (own : String) (index : Nat) (y : MethodName) (bytes : ByteArray) (maxL : Nat) (ret : Option FieldType) (hh : List (Nat × Nat × Nat × Nat)) (ws : List Cond) (rm : Room) (mc ms n : Nat) : Prop :=
  (rm.cells = mc ∧ rm.slots = ms ∧ rm.frames + 1 ≤ R.frames ∧ 8 + (maxL + 11) + rm.locals ≤ R.locals ∧ (∀ w ∈ ws, ∀ (a' : Array Value) (U : State), s.WarmedH U.vm → w.before a' U = true) ∧ Cond.codeWith y bytes maxL ret hh ∈ ws) ∧
  (Cond.codeWith y bytes maxL ret hh).before args s = true ∧ (Cond.initialized y.cls).before args s = true ∧ (y.cls ≠ "java/lang/invoke/MethodHandle" ∧ y.cls ≠ "java/lang/invoke/VarHandle") ∧
  (∀ sig, parseMethodDescriptor y.desc = some sig → n = sig.parameters.length) ∧ (Cond.methodLink own index y).before args s = true ∧ (Cond.static y).before args s = true
theorem vx_cwSW {own : String} {index maxL mc ms : Nat} {y : MethodName} {bytes : ByteArray} {ret : Option FieldType} {hh : List (Nat × Nat × Nat × Nat)} {Ts ws ws' : List Cond} {rm : Room} (n : Nat) (ht : ∀ w ∈ Ts, w.before args s = true) (hT : GoodIn Ts (va_wsS own index y ws)) (hw : ws = Cond.codeWith y bytes maxL ret hh :: ws') (hrc : rm.cells = mc) (hrs : rm.slots = ms)
    (hd : y.cls ≠ "java/lang/invoke/MethodHandle" ∧ y.cls ≠ "java/lang/invoke/VarHandle" ∧ (parseMethodDescriptor y.desc).map (fun d => d.parameters.length) = some n) (hR : rm.frames + 1 ≤ R.frames ∧ 8 + (maxL + 11) + rm.locals ≤ R.locals) :
    vx_CSW R s args own index y bytes maxL ret hh ws rm mc ms n := by
  have ok : ∀ w ∈ va_wsS own index y ws, w.before args s = true := fun w h => ht w (hT w h).1
  have hG : GoodIn Ts ws := fun w h => hT w (by unfold va_wsS; exact List.mem_append_right _ h)
  have hc : Cond.codeWith y bytes maxL ret hh ∈ ws := by rw [hw]; exact List.mem_cons_self
  refine ⟨⟨hrc, hrs, hR.1, hR.2, pay_in ht hG, hc⟩, ht _ (hG _ hc).1, ok _ (by simp [va_wsS]), ⟨hd.1, hd.2.1⟩, fun sig h => ?_, ok _ (by simp [va_wsS]), ok _ (by simp [va_wsS])⟩
  have h2 := hd.2.2
  rw [h] at h2
  exact (Option.some.inj h2).symm
theorem vx_callSW (X : Stand p l e R s m args below meth c T locs cells slots) (hexec : p.tables.exec = Jvm.exec) {own : String} {index : Nat} {y : MethodName} {bytes : ByteArray} {maxL : Nat} {ret : Option FieldType} {hh : List (Nat × Nat × Nat × Nat)}
    (hown : s.vm.findClass own = some m.cls) (hlink : (Cond.methodLink own index y).before args s = true) (hstat : (Cond.static y).before args s = true) (hinit : (Cond.initialized y.cls).before args s = true)
    (hcode : (Cond.codeWith y bytes maxL ret hh).before args s = true) (hy : y.cls ≠ "java/lang/invoke/MethodHandle" ∧ y.cls ≠ "java/lang/invoke/VarHandle")
    {W9 : Nat} {Pre : Pt → Array Value → Prop} {Post : Pt → Array Value → Option Value → Pt → Prop} (hK : Back l R p e below s args y 3 W9 Pre Post)
    {g : JFrame} (hg : g.method = m) (hsize : g.locals.size = c.maxLocals) {argsL rest : List Value} (hlen : ∀ sig, parseMethodDescriptor y.desc = some sig → argsL.length = sig.parameters.length)
    (hstack : g.stack = argsL.reverse ++ rest) (hW : 2 * g.monitorRoom + (rest.map fun v => v.category).sum ≤ W9) (hdg : decode c.code g.pc = .ok (.invokestatic index, 3))
    (hpre : ∀ vm₁, s.WarmedH vm₁ → Pre ⟨T.setVm vm₁, locs, cells, slots⟩ argsL.toArray) :
    ∃ (v : Option Value) (vm₁ : Vm) (B : Pt), s.WarmedH vm₁ ∧ Stand p l e R s m args below meth c B.U B.locs B.cells B.slots ∧ Post ⟨T.setVm vm₁, locs, cells, slots⟩ argsL.toArray v B ∧
      ∀ target, Steps p.tables e below (B.U.setTop { g with pc := g.pc + 3, stack := v.toList ++ rest }) target → Steps p.tables e below (T.setTop g) target := by
  obtain ⟨mk, methM, cM, hnamed, hmethM, -, -, -, -, -, -, hsigM⟩ := Cond.codeWith_spec hcode
  have hstatic : methM.isStatic = true := Cond.static_spec hnamed hmethM hstat
  obtain ⟨kP, hkP, -⟩ := className_of_methodNamed hnamed
  have hinitP : kP.init = .initialized := Cond.initialized_spec (findClass_of_methodNamed hnamed) hkP hinit
  obtain ⟨vm₁, X₁, hstep₁⟩ := X.invokestatic hexec hown hlink hnamed hmethM hstatic hkP hinitP hy (g := g) hg (argsL := argsL) (rest := rest) (hlen _ hsigM) hstack hdg
  obtain ⟨v, B, X', hpost, hsteps⟩ := hK m meth c ⟨T.setVm vm₁, locs, cells, slots⟩ { g with stack := rest } (.invokestatic index) mk argsL.toArray X₁ hg hsize hdg hW (X₁.named hnamed) (hpre vm₁ X₁.warmed)
  exact ⟨v, vm₁, B, X₁.warmed, X', hpost, fun target h => hstep₁ _ fun acts => by rw [doInvoke_state]; exact hsteps.trans h⟩
theorem vx_runSW {y : MethodName} {bytes cc : ByteArray} {maxL nL mc ms n index : Nat} {ret : Option FieldType} {hh : List (Nat × Nat × Nat × Nat)} {ws : List Cond} {rm : Room} {Pc : Array Value → State → Prop} {Qc : Array Value → State → Outcome → State → Prop} {free : Addr → Prop} {Ts : List Cond} {own : String} {As rest : List Value} {g : JFrame}
    (S : CallFix p m c cc nL s args Ts own) (hM : Met l y ws rm Pc Qc mc ms free) (cw : vx_CSW R s args own index y bytes maxL ret hh ws rm mc ms n) (hp : PreS s H Pc As)
    (hg : g.method = m) (hn : As.length = n) (hsize : g.locals.size = nL) (hstack : g.stack = As.reverse ++ rest) (hW : 2 * g.monitorRoom + (rest.map fun v => v.category).sum ≤ 8) (hdg : decode cc g.pc = .ok (.invokestatic index, 3)) (hf : cells + mc ≤ R.cells ∧ slots + ms ≤ R.slots) :
    va_Run p l e R s m args below meth c H locs cells slots mc ms g rest (Qc As.toArray) (free) := by
  obtain ⟨⟨hrc, hrs, hfr, hlo, hws, hcw⟩, hcode, hini, hy, hlen, hl, hstt⟩ := cw
  have hK : Back l R p e below s args y 3 8 (PreOf R mc ms Pc) (PostOf Qc mc ms free) := va_backW (hh := hh) (bytes := bytes) (maxL := maxL) (ret := ret) hM hp.1 hrc hrs hfr hlo hws hcw (fun a' U hW => word_at hW (Or.inl (by first | rfl | simp [Cond.onTables, Cond.keeps, Cond.steady])) hini)
  obtain ⟨hx, hb, hml, ho, -⟩ := S
  intro T hT X
  obtain ⟨v, vm₁, ⟨U', l2, c2, s2⟩, hW₁, X', ⟨g', mk, t, L, e1, e2, hq, h1, hL, h2, h3⟩, st⟩ := vx_callSW X hx (hh := hh) (bytes := bytes) (maxL := maxL) (ret := ret) ho hl hstt hini hcode hy hK hg (hsize.trans hml.symm) (argsL := As) (rest := rest) (fun sig h => hn.trans (hlen sig h)) hstack hW (by rw [hb]; exact hdg)
    (fun vm₁ hW₁ => ⟨hf.1, hf.2, hp.2 (T.setVm vm₁) hT hW₁⟩)
  dsimp only [Pt.U, Pt.locs, Pt.cells, Pt.slots] at X' e1 e2 h1 h2 h3 st
  subst h1; subst h2; subst h3
  exact ⟨v, (T.setVm vm₁).calling g' mk As.toArray, t, U', L, hT, X', hL, e1, e2, hq, st⟩
/-- not caught here, past rows that name other classes: it goes on to the caller -/
theorem vx_outP {p : Program} {l : Launch} {e : Env} {R : Room} {s : State} {m : MethodId} {args : Array Value} {below : List Frame} {meth : Method} {c : Code} {H : Heap} {locs : List Loc} {cells slots : Nat} {free : Addr → Prop} {ls : Array Slot} {rest : List Value} {Qc : Array Value → State → Outcome → State → Prop} {XC : String → State → State → Prop}
    {pc : Nat} {own E : String} {ce : Cell} {q : Addr} {mc ms : Nat} (hown : s.vm.findClass own = some m.cls) (hlocks : meth.locks = false)
    (hpass : ∀ z ∈ c.exceptionTable.toList, covers z pc = false ∨ (z.catchType ≠ 0 ∧ ∃ nm : String, (Cond.classLink own z.catchType nm).before args s = true ∧ va_Nc E nm s)) (hcell : H[q]? = some ce) (hv : ce.vm = .none) (hcl : s.vm.findClass E = some ce.cls)
    (hx : ∀ t : State, t.heap = H → s.vm.Alike t.vm → XC E s t) (hf : ∀ z ∈ locs, free z.base) (hc : cells ≤ mc) (hs : slots ≤ ms) :
    vx_W p l e R s m args below meth c H locs cells slots (vx_MQ below Qc XC args s mc ms free) (F0 m pc ls rest) q := by
  intro T hT X
  have hpl : e.platform.magicAccessors = ({} : Platform).magicAccessors := by rw [X.admits.platform]
  obtain ⟨vm', hW', X', st⟩ := X.outThrough hlocks q (g := F0 m pc ls rest) rfl rfl rfl (cell := ce) (by rw [hT]; exact hcell) (by rw [hv]; rfl)
    (by obtain ⟨k9, h9, -⟩ := Vm.findClass_spec hcl; exact ⟨k9, h9⟩) (fun z hz => by
      rcases hpass z hz with h | ⟨hz0, nm, hl1, hn1⟩
      · exact Or.inl h
      · obtain ⟨c6, hc6, hcl6⟩ := Cond.classLink_spec hown hl1 e.platform hpl
        obtain ⟨a8, b8, h1, h2, h3⟩ := hn1
        cases Option.some.inj (h1.symm.trans hcl)
        cases Option.some.inj (h2.symm.trans hc6)
        exact Or.inr ⟨hz0, _, hcl6, h3⟩)
  obtain ⟨g₀, hfr⟩ := X'.frames_eq
  have hcell9 : ((T.setVm vm').setFrames (.throwing q :: below)).heap[q]? = some ce := by
    show T.heap[q]? = some ce
    rw [hT]; exact hcell
  have hend : Ended ((T.setVm vm').setFrames (.throwing q :: below)) below (.threw q) := State.frames_setFrames _ (State.cur_lt_of_frames hfr)
  refine ⟨(T.setVm vm').setFrames (.throwing q :: below), ?_, .threw q, X'.here.running, hend, Or.inr ⟨q, rfl, E, ce, locs, hx _ hT (X'.ends _).1.alike, hcell9, hv, hcl, (X'.ends _).1, (X'.ends _).2.mono hc hs, hf⟩⟩
  rw [X.pushThrowing_eq]
  exact st
/-- a thing of a world lies in the heap -/
theorem vx_lt {D : va_G} {cl : List vw_C} {ws : va_W} {H1 : Heap} (h : va_P D cl ws H1) {k : Nat} {q : Nat × va_E} (hk : ws[k]? = some q) : q.1 < H1.size := (h k q hk).lt
end VXS
/-! ===== END ===== -/
/-! ===== BEGIN methods with a table of their own: called by a name, returning or throwing ===== -/
section VXH
/-! vx_backW, vx_callVX, vx_callSX, vx_callVW, vx_runVW, vx_runVX, vx_runSX, vx_ofWH follow the same proofs as their sisters above (Free/Laws.lean, Shelf42/LK1.lean); vx_outP calls Shelf42/NT130.lean (outThrough). -/
section
variable {l : Launch} {R : Room} {p : Program} {e : Env} {below : List Frame} {s : State} {sargs : Array Value} {y : MethodName} {len W9 : Nat}
theorem vx_backW {ws : List Cond} {rm : Room} {Pc : Array Value → State → Prop} {Qc : Array Value → State → Outcome → State → Prop} {XC : String → State → State → Prop} {mc ms : Nat} {free : Addr → Prop} {bytes : ByteArray} {maxL : Nat} {ret : Option FieldType} {hh : List (Nat × Nat × Nat × Nat)}
    (hM : vx_Met l y ws rm Pc Qc XC mc ms free) (hblind : FrameBlind Pc) (hrc : rm.cells = mc) (hrs : rm.slots = ms)
    (hframes : rm.frames + 1 ≤ R.frames) (hlocals : W9 + (maxL + 11) + rm.locals ≤ R.locals)
    (hws : ∀ w ∈ ws, ∀ a' U, s.WarmedH U.vm → w.before a' U = true) (hcode : Cond.codeWith y bytes maxL ret hh ∈ ws) (hinit : ∀ a' U, s.WarmedH U.vm → (Cond.initialized y.cls).before a' U = true) :
    vx_Back l R p e below s sargs y len W9 (PreOf R mc ms Pc) (PostOf Qc mc ms free) (vx_Post XC mc ms free) := by
  intro m meth c A g ig mk a X hg hsize hdg hW hn hp
  have h1 : (headSpec ws rm).pre.before a A.U = true := atoms_intro fun w hw => hws w hw _ _ X.warmed
  have h2 : (Cond.codeWith y bytes maxL ret hh).before a A.U = true := hws _ hcode _ _ X.warmed
  have h3 : (Cond.initialized y.cls).before a A.U = true := hinit _ _ X.warmed
  have h4 : A.cells + (headSpec ws rm).room.cells ≤ R.cells := by rw [show (headSpec ws rm).room.cells = mc from hrc]; exact hp.1
  have h5 : A.slots + (headSpec ws rm).room.slots ≤ R.slots := by rw [show (headSpec ws rm).room.slots = ms from hrs]; exact hp.2.1
  have hPc : Pc a (A.U.calling g mk a) := hblind _ _ _ _ hp.2.2
  obtain ⟨U, Ls, c0, s0⟩ := A
  dsimp only [Pt.U, Pt.locs, Pt.cells, Pt.slots] at h1 h2 h3 h4 h5 X hn hPc ⊢
  obtain ⟨m9, methY, cY, hn9, hmY, hcY, -, hlY, -⟩ := Cond.codeWith_spec h2
  cases Option.some.inj (hn9.symm.trans hn)
  obtain ⟨kY, hkY, -⟩ := className_of_methodNamed hn
  have hinitY : kY.init = .initialized := Cond.initialized_spec (findClass_of_methodNamed hn) hkY h3
  have h : At U g.method c below := by rw [hg]; exact X.here
  have hlocals9 : W9 + (maxL + 11) + (headSpec ws rm).room.locals ≤ R.locals := hlocals
  have happ : (headSpec ws rm).appliesLoose y e.platform (U.calling g mk a) = true :=
    Spec.appliesLoose_calling (g := g) h hdg hn hkY hinitY
      (X.room_calling (g := g) (R' := (headSpec ws rm).room) hsize hmY hcY hframes (by rw [hlY]; omega) h4 h5) h1
  obtain ⟨mid, hmid⟩ := h.above
  have hfr : (U.setTop g).frames = (.java g :: mid) ++ below := by rw [State.frames_setTop' g h.top, hmid]; rfl
  obtain ⟨o, s₂, hsteps, -, hend, hq⟩ := Steps.callFree hM p X.admits X.cas X.clock (acts := []) hfr happ hPc trivial
  have hq' : vx_Q Qc XC mc ms free a (U.calling g mk a) o s₂ := hq
  rw [State.frames_setTop' g h.top] at hend
  obtain ⟨g₀, hg0⟩ := Option.isSome_iff_exists.mp h.top
  obtain ⟨r, hr⟩ := State.topJava?_eq_some.mp hg0
  have hr' : (({ U with heap := s₂.heap, slotsUsed := s₂.slotsUsed } : State).setVm s₂.vm).frames = .java g₀ :: r := hr
  rcases hq' with ⟨hqc, L, hfe, hL⟩ | ⟨q, rfl, E, ce, L, hx, hce, hcv, hcl, hW₂, hsm, hL⟩
  · obtain ⟨⟨v, rfl⟩, hW₂, e2, q2, q3, q4, q5, q6⟩ := id hfe
    have e3 : s₂ = ({ (U.calling g mk a).setFrames s₂.frames with heap := s₂.heap, slotsUsed := s₂.slotsUsed } : State).setVm s₂.vm := by
      have : s₂ = ({ s₂ with vm := (U.calling g mk a).vm } : State).setVm s₂.vm := rfl
      rw [e2] at this
      exact this
    obtain ⟨c₂, i₂, len₂, hc₂, hd₂, hf₂⟩ := hend
    have hW' : U.WarmedH s₂.vm := hW₂
    have hcc : c₂ = c := by
      have h1 : s₂.code? g.method = U.code? g.method := by
        rw [State.code?_eq, State.code?_eq, hW'.alike.method?]
      exact Option.some.inj (hc₂.symm.trans (h1.trans h.code))
    subst hcc
    have hlen : len₂ = len := by rw [hdg] at hd₂; cases hd₂; rfl
    subst hlen
    have hs₂ : s₂ = (({ U with heap := s₂.heap, slotsUsed := s₂.slotsUsed } : State).setVm s₂.vm).setTop { g with pc := g.pc + len₂, stack := v.toList ++ g.stack } := by
      refine e3.trans ?_
      rw [hf₂, State.calling_eq h.top, State.setFrames_setFrames, State.setTop_of_frames _ hr', hr]
      rfl
    have hsame : U.sameButNew ({ U with heap := s₂.heap, slotsUsed := s₂.slotsUsed } : State) L mc ms := by
      refine ⟨?_, q2, q3, q4, q5, q6⟩
      obtain ⟨t, ht, -⟩ := State.frames_cons hr
      show ({ U with heap := s₂.heap, slotsUsed := s₂.slotsUsed } : State) = { U.setFrames U.frames with heap := s₂.heap, slotsUsed := s₂.slotsUsed }
      rw [State.setFrames_self ht]
    subst hg
    refine Or.inl ⟨v, ⟨(({ U with heap := s₂.heap, slotsUsed := s₂.slotsUsed } : State).setVm s₂.vm), Ls ++ L, c0 + mc, s0 + ms⟩,
      ⟨X.admits, X.cas, X.clock, X.frames, X.room, X.hears, X.method, X.code, (X.here.setHeapUsed s₂.heap s₂.slotsUsed).setVm hW'.alike, X.tail, State.WarmedH.trans X.warmed hW', X.limits, X.bytes, X.same.trans (hsame.setVm s.vm)⟩,
      ⟨g, mk, s₂, L, rfl, rfl, hqc, rfl, hL, rfl, rfl⟩, ?_⟩
    show Steps p.tables e below _ ((({ U with heap := s₂.heap, slotsUsed := s₂.slotsUsed } : State).setVm s₂.vm).setTop { g with pc := g.pc + len₂, stack := v.toList ++ g.stack })
    rw [← hs₂]
    exact hsteps
  · obtain ⟨e2, q2, q3, q4, q5, q6⟩ := id hsm
    have e3 : s₂ = ({ (U.calling g mk a).setFrames s₂.frames with heap := s₂.heap, slotsUsed := s₂.slotsUsed } : State).setVm s₂.vm := by
      have : s₂ = ({ s₂ with vm := (U.calling g mk a).vm } : State).setVm s₂.vm := rfl
      rw [e2] at this
      exact this
    have hf₂ : s₂.frames = .throwing q :: .java g :: U.frames.tail := hend
    have hW' : U.WarmedH s₂.vm := hW₂
    have hs₂ : s₂ = ((({ U with heap := s₂.heap, slotsUsed := s₂.slotsUsed } : State).setVm s₂.vm).setTop g).pushFrame (.throwing q) := by
      refine e3.trans ?_
      rw [hf₂, State.calling_eq h.top, State.setFrames_setFrames, State.pushFrame, State.frames_setTop _ hr', State.setTop_of_frames _ hr', State.setFrames_setFrames, hr]
      rfl
    have hsame : U.sameButNew ({ U with heap := s₂.heap, slotsUsed := s₂.slotsUsed } : State) L mc ms := by
      refine ⟨?_, q2, q3, q4, q5, q6⟩
      obtain ⟨t, ht, -⟩ := State.frames_cons hr
      show ({ U with heap := s₂.heap, slotsUsed := s₂.slotsUsed } : State) = { U.setFrames U.frames with heap := s₂.heap, slotsUsed := s₂.slotsUsed }
      rw [State.setFrames_self ht]
    subst hg
    refine Or.inr ⟨q, ⟨(({ U with heap := s₂.heap, slotsUsed := s₂.slotsUsed } : State).setVm s₂.vm), Ls ++ L, c0 + mc, s0 + ms⟩,
      ⟨X.admits, X.cas, X.clock, X.frames, X.room, X.hears, X.method, X.code, (X.here.setHeapUsed s₂.heap s₂.slotsUsed).setVm hW'.alike, X.tail, State.WarmedH.trans X.warmed hW', X.limits, X.bytes, X.same.trans (hsame.setVm s.vm)⟩,
      ⟨g, mk, s₂, L, E, ce, rfl, rfl, hx, hce, hcv, hcl, rfl, hL, rfl, rfl⟩, ?_⟩
    show Steps p.tables e below _ (((({ U with heap := s₂.heap, slotsUsed := s₂.slotsUsed } : State).setVm s₂.vm).setTop g).pushFrame (.throwing q))
    rw [← hs₂]
    exact hsteps
end
variable {p : Program} {l : Launch} {e : Env} {R : Room} {s : State} {m : MethodId} {args : Array Value} {below : List Frame} {meth : Method} {c : Code} {T : State} {H : Heap} {locs : List Loc} {cells slots : Nat}
theorem vx_callVX (X : Stand p l e R s m args below meth c T locs cells slots) (hexec : p.tables.exec = Jvm.exec) {own C : String} {index : Nat} {y : MethodName} {bytes : ByteArray} {maxL : Nat} {ret : Option FieldType} {hh : List (Nat × Nat × Nat × Nat)}
    (hown : s.vm.findClass own = some m.cls) (hlink : (Cond.methodLink own index y).before args s = true) (hinst : (Cond.instanceMethod y).before args s = true) (hsel : (Cond.selects C y y).before args s = true)
    (hcode : (Cond.codeWith y bytes maxL ret hh).before args s = true) (hy : y.cls ≠ "java/lang/invoke/MethodHandle" ∧ y.cls ≠ "java/lang/invoke/VarHandle")
    {W9 : Nat} {Pre : Pt → Array Value → Prop} {Post : Pt → Array Value → Option Value → Pt → Prop} {PostX : Pt → Array Value → Addr → Pt → Prop} (hK : vx_Back l R p e below s args y 3 W9 Pre Post PostX)
    {b : Addr} {cellB : Cell} (hcell : T.heap[b]? = some cellB) (hobj : cellB.vm.isStatics = false) (hcls : s.vm.findClass C = some cellB.cls)
    {g : JFrame} (hg : g.method = m) (hsize : g.locals.size = c.maxLocals) {argsL rest : List Value} (hlen : ∀ sig, parseMethodDescriptor y.desc = some sig → argsL.length = sig.parameters.length)
    (hstack : g.stack = argsL.reverse ++ .ref b :: rest) (hW : 2 * g.monitorRoom + (rest.map fun v => v.category).sum ≤ W9) (hdg : decode c.code g.pc = .ok (.invokevirtual index, 3))
    (hpre : ∀ vm₁, s.WarmedH vm₁ → Pre ⟨T.setVm vm₁, locs, cells, slots⟩ (Value.ref b :: argsL).toArray) :
    (∃ (v : Option Value) (vm₁ : Vm) (B : Pt), s.WarmedH vm₁ ∧ Stand p l e R s m args below meth c B.U B.locs B.cells B.slots ∧ Post ⟨T.setVm vm₁, locs, cells, slots⟩ (Value.ref b :: argsL).toArray v B ∧
      ∀ target, Steps p.tables e below (B.U.setTop { g with pc := g.pc + 3, stack := v.toList ++ rest }) target → Steps p.tables e below (T.setTop g) target) ∨
    (∃ (q : Addr) (vm₁ : Vm) (B : Pt), s.WarmedH vm₁ ∧ Stand p l e R s m args below meth c B.U B.locs B.cells B.slots ∧ PostX ⟨T.setVm vm₁, locs, cells, slots⟩ (Value.ref b :: argsL).toArray q B ∧
      Steps p.tables e below (T.setTop g) ((B.U.setTop { g with stack := rest }).pushFrame (.throwing q))) := by
  obtain ⟨mk, methM, hnamed, hmethM, hstM, habM⟩ := Cond.instanceMethod_spec hinst
  obtain ⟨m8, methM', cM, hn8, hmethM', -, -, -, -, -, -, hsigM⟩ := Cond.codeWith_spec hcode
  cases Option.some.inj (hn8.symm.trans hnamed)
  cases hmethM.symm.trans hmethM'
  obtain ⟨c2, r2, m2, q1, q2, q3, q4, kP, hkP, hkPi⟩ := Cond.selects_spec hsel
  cases hcls.symm.trans q1
  cases (State.methodFound?_of_named hnamed hy).symm.trans q2
  cases hnamed.symm.trans q3
  have hselP : selectMethod e.platform s.vm cellB.cls mk = .method mk := by rw [Launch.admits_selectMethod X.admits]; exact q4
  obtain ⟨vm₁, X₁, hstep₁⟩ := X.invokevirtual hexec hown hlink hnamed hmethM hstM hkP hkPi hy (a := b) (cell := cellB) hcell
    (fun z h => by rw [h] at hobj; cases hobj) hselP hmethM habM hkP hkPi (g := g) hg (argsL := argsL) (rest := rest) (hlen _ hsigM) hstack hdg
  rcases hK m meth c ⟨T.setVm vm₁, locs, cells, slots⟩ { g with stack := rest } (.invokevirtual index) mk (Value.ref b :: argsL).toArray X₁ hg hsize hdg hW (X₁.named hnamed) (hpre vm₁ X₁.warmed) with ⟨v, B, X', hpost, hsteps⟩ | ⟨q, B, X', hpost, hsteps⟩
  · exact Or.inl ⟨v, vm₁, B, X₁.warmed, X', hpost, fun target h => hstep₁ _ fun acts => by rw [doInvoke_state]; exact hsteps.trans h⟩
  · exact Or.inr ⟨q, vm₁, B, X₁.warmed, X', hpost, hstep₁ _ fun acts => by rw [doInvoke_state]; exact hsteps⟩
theorem vx_callSX (X : Stand p l e R s m args below meth c T locs cells slots) (hexec : p.tables.exec = Jvm.exec) {own : String} {index : Nat} {y : MethodName} {bytes : ByteArray} {maxL : Nat} {ret : Option FieldType} {hh : List (Nat × Nat × Nat × Nat)}
    (hown : s.vm.findClass own = some m.cls) (hlink : (Cond.methodLink own index y).before args s = true) (hstat : (Cond.static y).before args s = true) (hinit : (Cond.initialized y.cls).before args s = true)
    (hcode : (Cond.codeWith y bytes maxL ret hh).before args s = true) (hy : y.cls ≠ "java/lang/invoke/MethodHandle" ∧ y.cls ≠ "java/lang/invoke/VarHandle")
    {W9 : Nat} {Pre : Pt → Array Value → Prop} {Post : Pt → Array Value → Option Value → Pt → Prop} {PostX : Pt → Array Value → Addr → Pt → Prop} (hK : vx_Back l R p e below s args y 3 W9 Pre Post PostX)
    {g : JFrame} (hg : g.method = m) (hsize : g.locals.size = c.maxLocals) {argsL rest : List Value} (hlen : ∀ sig, parseMethodDescriptor y.desc = some sig → argsL.length = sig.parameters.length)
    (hstack : g.stack = argsL.reverse ++ rest) (hW : 2 * g.monitorRoom + (rest.map fun v => v.category).sum ≤ W9) (hdg : decode c.code g.pc = .ok (.invokestatic index, 3))
    (hpre : ∀ vm₁, s.WarmedH vm₁ → Pre ⟨T.setVm vm₁, locs, cells, slots⟩ argsL.toArray) :
    (∃ (v : Option Value) (vm₁ : Vm) (B : Pt), s.WarmedH vm₁ ∧ Stand p l e R s m args below meth c B.U B.locs B.cells B.slots ∧ Post ⟨T.setVm vm₁, locs, cells, slots⟩ argsL.toArray v B ∧
      ∀ target, Steps p.tables e below (B.U.setTop { g with pc := g.pc + 3, stack := v.toList ++ rest }) target → Steps p.tables e below (T.setTop g) target) ∨
    (∃ (q : Addr) (vm₁ : Vm) (B : Pt), s.WarmedH vm₁ ∧ Stand p l e R s m args below meth c B.U B.locs B.cells B.slots ∧ PostX ⟨T.setVm vm₁, locs, cells, slots⟩ argsL.toArray q B ∧
      Steps p.tables e below (T.setTop g) ((B.U.setTop { g with stack := rest }).pushFrame (.throwing q))) := by
  obtain ⟨mk, methM, cM, hnamed, hmethM, -, -, -, -, -, -, hsigM⟩ := Cond.codeWith_spec hcode
  have hstatic : methM.isStatic = true := Cond.static_spec hnamed hmethM hstat
  obtain ⟨kP, hkP, -⟩ := className_of_methodNamed hnamed
  have hinitP : kP.init = .initialized := Cond.initialized_spec (findClass_of_methodNamed hnamed) hkP hinit
  obtain ⟨vm₁, X₁, hstep₁⟩ := X.invokestatic hexec hown hlink hnamed hmethM hstatic hkP hinitP hy (g := g) hg (argsL := argsL) (rest := rest) (hlen _ hsigM) hstack hdg
  rcases hK m meth c ⟨T.setVm vm₁, locs, cells, slots⟩ { g with stack := rest } (.invokestatic index) mk argsL.toArray X₁ hg hsize hdg hW (X₁.named hnamed) (hpre vm₁ X₁.warmed) with ⟨v, B, X', hpost, hsteps⟩ | ⟨q, B, X', hpost, hsteps⟩
  · exact Or.inl ⟨v, vm₁, B, X₁.warmed, X', hpost, fun target h => hstep₁ _ fun acts => by rw [doInvoke_state]; exact hsteps.trans h⟩
  · exact Or.inr ⟨q, vm₁, B, X₁.warmed, X', hpost, hstep₁ _ fun acts => by rw [doInvoke_state]; exact hsteps⟩
theorem vx_callVW (X : Stand p l e R s m args below meth c T locs cells slots) (hexec : p.tables.exec = Jvm.exec) {own C : String} {index : Nat} {y : MethodName} {bytes : ByteArray} {maxL : Nat} {ret : Option FieldType} {hh : List (Nat × Nat × Nat × Nat)}
    (hown : s.vm.findClass own = some m.cls) (hlink : (Cond.methodLink own index y).before args s = true) (hinst : (Cond.instanceMethod y).before args s = true) (hsel : (Cond.selects C y y).before args s = true)
    (hcode : (Cond.codeWith y bytes maxL ret hh).before args s = true) (hy : y.cls ≠ "java/lang/invoke/MethodHandle" ∧ y.cls ≠ "java/lang/invoke/VarHandle")
    {W9 : Nat} {Pre : Pt → Array Value → Prop} {Post : Pt → Array Value → Option Value → Pt → Prop} (hK : Back l R p e below s args y 3 W9 Pre Post)
    {b : Addr} {cellB : Cell} (hcell : T.heap[b]? = some cellB) (hobj : cellB.vm.isStatics = false) (hcls : s.vm.findClass C = some cellB.cls)
    {g : JFrame} (hg : g.method = m) (hsize : g.locals.size = c.maxLocals) {argsL rest : List Value} (hlen : ∀ sig, parseMethodDescriptor y.desc = some sig → argsL.length = sig.parameters.length)
    (hstack : g.stack = argsL.reverse ++ .ref b :: rest) (hW : 2 * g.monitorRoom + (rest.map fun v => v.category).sum ≤ W9) (hdg : decode c.code g.pc = .ok (.invokevirtual index, 3))
    (hpre : ∀ vm₁, s.WarmedH vm₁ → Pre ⟨T.setVm vm₁, locs, cells, slots⟩ (Value.ref b :: argsL).toArray) :
    ∃ (v : Option Value) (vm₁ : Vm) (B : Pt), s.WarmedH vm₁ ∧ Stand p l e R s m args below meth c B.U B.locs B.cells B.slots ∧ Post ⟨T.setVm vm₁, locs, cells, slots⟩ (Value.ref b :: argsL).toArray v B ∧
      ∀ target, Steps p.tables e below (B.U.setTop { g with pc := g.pc + 3, stack := v.toList ++ rest }) target → Steps p.tables e below (T.setTop g) target := by
  obtain ⟨mk, methM, hnamed, hmethM, hstM, habM⟩ := Cond.instanceMethod_spec hinst
  obtain ⟨m8, methM', cM, hn8, hmethM', -, -, -, -, -, -, hsigM⟩ := Cond.codeWith_spec hcode
  cases Option.some.inj (hn8.symm.trans hnamed)
  cases hmethM.symm.trans hmethM'
  obtain ⟨c2, r2, m2, q1, q2, q3, q4, kP, hkP, hkPi⟩ := Cond.selects_spec hsel
  cases hcls.symm.trans q1
  cases (State.methodFound?_of_named hnamed hy).symm.trans q2
  cases hnamed.symm.trans q3
  have hselP : selectMethod e.platform s.vm cellB.cls mk = .method mk := by rw [Launch.admits_selectMethod X.admits]; exact q4
  obtain ⟨vm₁, X₁, hstep₁⟩ := X.invokevirtual hexec hown hlink hnamed hmethM hstM hkP hkPi hy (a := b) (cell := cellB) hcell
    (fun z h => by rw [h] at hobj; cases hobj) hselP hmethM habM hkP hkPi (g := g) hg (argsL := argsL) (rest := rest) (hlen _ hsigM) hstack hdg
  obtain ⟨v, B, X', hpost, hsteps⟩ := hK m meth c ⟨T.setVm vm₁, locs, cells, slots⟩ { g with stack := rest } (.invokevirtual index) mk (Value.ref b :: argsL).toArray X₁ hg hsize hdg hW (X₁.named hnamed) (hpre vm₁ X₁.warmed)
  exact ⟨v, vm₁, B, X₁.warmed, X', hpost, fun target h => hstep₁ _ fun acts => by rw [doInvoke_state]; exact hsteps.trans h⟩
abbrev vx_CVW (R : Room) (s : State) (args : Array Value) (own C : String) (index : Nat) (y : MethodName) (bytes : ByteArray) (maxL : Nat) (ret : Option FieldType) (hh : List (Nat × Nat × Nat × Nat)) (ws : List Cond) (rm : Room) (mc ms n : Nat) : Prop :=
  (rm.cells = mc ∧ rm.slots = ms ∧ rm.frames + 1 ≤ R.frames ∧ 8 + (maxL + 11) + rm.locals ≤ R.locals ∧ (∀ w ∈ ws, ∀ (a' : Array Value) (U : State), s.WarmedH U.vm → w.before a' U = true) ∧ Cond.codeWith y bytes maxL ret hh ∈ ws) ∧
  (Cond.codeWith y bytes maxL ret hh).before args s = true ∧ (Cond.initialized y.cls).before args s = true ∧ (y.cls ≠ "java/lang/invoke/MethodHandle" ∧ y.cls ≠ "java/lang/invoke/VarHandle") ∧
  (∀ sig, parseMethodDescriptor y.desc = some sig → n = sig.parameters.length) ∧ (Cond.methodLink own index y).before args s = true ∧ (Cond.instanceMethod y).before args s = true ∧ (Cond.selects C y y).before args s = true
theorem vx_cwVW {own C : String} {index maxL mc ms : Nat} {y : MethodName} {bytes : ByteArray} {ret : Option FieldType} {hh : List (Nat × Nat × Nat × Nat)} {Ts ws ws' : List Cond} {rm : Room} (n : Nat) (ht : ∀ w ∈ Ts, w.before args s = true) (hT : GoodIn Ts (wsV own index C y ws)) (hw : ws = Cond.codeWith y bytes maxL ret hh :: ws') (hrc : rm.cells = mc) (hrs : rm.slots = ms)
    (hd : y.cls = C ∧ y.cls ≠ "java/lang/invoke/MethodHandle" ∧ y.cls ≠ "java/lang/invoke/VarHandle" ∧ (parseMethodDescriptor y.desc).map (fun d => d.parameters.length) = some n) (hR : rm.frames + 1 ≤ R.frames ∧ 8 + (maxL + 11) + rm.locals ≤ R.locals) :
    vx_CVW R s args own C index y bytes maxL ret hh ws rm mc ms n := by
  obtain ⟨hC, hd⟩ := hd
  subst hC
  have ok : ∀ w ∈ wsV own index y.cls y ws, w.before args s = true := fun w h => ht w (hT w h).1
  have hG : GoodIn Ts ws := fun w h => hT w (by unfold wsV; exact List.mem_append_right _ h)
  have hc : Cond.codeWith y bytes maxL ret hh ∈ ws := by rw [hw]; exact List.mem_cons_self
  refine ⟨⟨hrc, hrs, hR.1, hR.2, pay_in ht hG, hc⟩, ht _ (hG _ hc).1, ok _ (by simp [wsV]), ⟨hd.1, hd.2.1⟩, fun sig h => ?_, ok _ (by simp [wsV]), ok _ (by simp [wsV]), ok _ (by simp [wsV])⟩
  have h2 := hd.2.2
  rw [h] at h2
  exact (Option.some.inj h2).symm
theorem vx_runVW {y : MethodName} {bytes cc : ByteArray} {maxL nL mc ms n index : Nat} {ret : Option FieldType} {hh : List (Nat × Nat × Nat × Nat)} {ws : List Cond} {rm : Room} {Pc : Array Value → State → Prop} {Qc : Array Value → State → Outcome → State → Prop} {free : Addr → Prop} {Ts : List Cond} {own C : String} {b : Addr} {As rest : List Value} {g : JFrame}
    (S : CallFix p m c cc nL s args Ts own) (hM : Met l y ws rm Pc Qc mc ms free) (cw : vx_CVW R s args own C index y bytes maxL ret hh ws rm mc ms n) (hp : PreV s H C b Pc As)
    (hg : g.method = m) (hn : As.length = n) (hsize : g.locals.size = nL) (hstack : g.stack = As.reverse ++ .ref b :: rest) (hW : 2 * g.monitorRoom + (rest.map fun v => v.category).sum ≤ 8) (hdg : decode cc g.pc = .ok (.invokevirtual index, 3)) (hf : cells + mc ≤ R.cells ∧ slots + ms ≤ R.slots) :
    va_Run p l e R s m args below meth c H locs cells slots mc ms g rest (Qc (Value.ref b :: As).toArray) free := by
  obtain ⟨⟨hrc, hrs, hfr, hlo, hws, hcw⟩, hcode, hini, hy, hlen, hl, hin, hse⟩ := cw
  have hK : Back l R p e below s args y 3 8 (PreOf R mc ms Pc) (PostOf Qc mc ms free) := va_backW (hh := hh) (bytes := bytes) (maxL := maxL) (ret := ret) hM hp.1 hrc hrs hfr hlo hws hcw (fun a' U hW => word_at hW (Or.inl (by first | rfl | simp [Cond.onTables, Cond.keeps, Cond.steady])) hini)
  obtain ⟨hx, hb, hml, ho, -⟩ := S
  obtain ⟨-, ⟨cellB, hcB, hoB, hclB⟩, hPc⟩ := hp
  intro T hT X
  obtain ⟨v, vm₁, ⟨U', l2, c2, s2⟩, hW₁, X', ⟨g', mk, t, L, e1, e2, hq, h1, hL, h2, h3⟩, st⟩ := vx_callVW X hx (C := C) (hh := hh) (bytes := bytes) (maxL := maxL) (ret := ret) ho hl hin hse hcode hy hK (by rw [hT]; exact hcB) hoB hclB hg (hsize.trans hml.symm) (argsL := As) (rest := rest) (fun sig h => hn.trans (hlen sig h)) hstack hW (by rw [hb]; exact hdg)
    (fun vm₁ hW₁ => ⟨hf.1, hf.2, hPc (T.setVm vm₁) hT hW₁⟩)
  dsimp only [Pt.U, Pt.locs, Pt.cells, Pt.slots] at X' e1 e2 h1 h2 h3 st
  subst h1; subst h2; subst h3
  exact ⟨v, (T.setVm vm₁).calling g' mk (Value.ref b :: As).toArray, t, U', L, hT, X', hL, e1, e2, hq, st⟩
section
variable {y : MethodName} {bytes cc : ByteArray} {maxL nL mc ms n index : Nat} {ret : Option FieldType} {ws : List Cond} {rm : Room} {Pc : Array Value → State → Prop} {Qc : Array Value → State → Outcome → State → Prop} {XC : String → State → State → Prop} {free : Addr → Prop} {Ts : List Cond} {own C : String} {b : Addr} {As rest : List Value} {g : JFrame}
theorem vx_runVX {hh : List (Nat × Nat × Nat × Nat)} (S : CallFix p m c cc nL s args Ts own) (hM : vx_Met l y ws rm Pc Qc XC mc ms free) (cw : vx_CVW R s args own C index y bytes maxL ret hh ws rm mc ms n) (hp : PreV s H C b Pc As)
    (hg : g.method = m) (hn : As.length = n) (hsize : g.locals.size = nL) (hstack : g.stack = As.reverse ++ .ref b :: rest) (hW : 2 * g.monitorRoom + (rest.map fun v => v.category).sum ≤ 8) (hdg : decode cc g.pc = .ok (.invokevirtual index, 3)) (hf : cells + mc ≤ R.cells ∧ slots + ms ≤ R.slots) :
    vx_Run p l e R s m args below meth c H locs cells slots mc ms g rest (Qc (Value.ref b :: As).toArray) XC free := by
  obtain ⟨⟨hrc, hrs, hfr, hlo, hws, hcw⟩, hcode, hini, hy, hlen, hl, hin, hse⟩ := cw
  have hK : vx_Back l R p e below s args y 3 8 (PreOf R mc ms Pc) (PostOf Qc mc ms free) (vx_Post XC mc ms free) := vx_backW (hh := hh) (bytes := bytes) (maxL := maxL) (ret := ret) hM hp.1 hrc hrs hfr hlo hws hcw (fun a' U hW => word_at hW (Or.inl (by first | rfl | simp [Cond.onTables, Cond.keeps, Cond.steady])) hini)
  obtain ⟨hx, hb, hml, ho, -⟩ := S
  obtain ⟨-, ⟨cellB, hcB, hoB, hclB⟩, hPc⟩ := hp
  intro T hT X
  rcases vx_callVX X hx (C := C) (hh := hh) (bytes := bytes) (maxL := maxL) (ret := ret) ho hl hin hse hcode hy hK (by rw [hT]; exact hcB) hoB hclB hg (hsize.trans hml.symm) (argsL := As) (rest := rest) (fun sig h => hn.trans (hlen sig h)) hstack hW (by rw [hb]; exact hdg)
    (fun vm₁ hW₁ => ⟨hf.1, hf.2, hPc (T.setVm vm₁) hT hW₁⟩) with ⟨v, vm₁, ⟨U', l2, c2, s2⟩, hW₁, X', ⟨g', mk, t, L, e1, e2, hq, h1, hL, h2, h3⟩, st⟩ | ⟨q, vm₁, ⟨U', l2, c2, s2⟩, hW₁, X', ⟨g', mk, t, L, E, ce, e1, e2, hq, hce, hcv, hcl, h1, hL, h2, h3⟩, st⟩
  · dsimp only [Pt.U, Pt.locs, Pt.cells, Pt.slots] at X' e1 e2 h1 h2 h3 st
    subst h1; subst h2; subst h3
    exact Or.inl ⟨v, (T.setVm vm₁).calling g' mk (Value.ref b :: As).toArray, t, U', L, hT, X', hL, e1, e2, hq, st⟩
  · dsimp only [Pt.U, Pt.locs, Pt.cells, Pt.slots] at X' e1 e2 h1 h2 h3 st hcl
    subst h1; subst h2; subst h3
    exact Or.inr ⟨q, (T.setVm vm₁).calling g' mk (Value.ref b :: As).toArray, t, U', L, E, ce, hT, X', hL, e1, e2, hq, hce, hcv, vx_cls hW₁ hcl, st⟩
theorem vx_runSX {hh : List (Nat × Nat × Nat × Nat)} (S : CallFix p m c cc nL s args Ts own) (hM : vx_Met l y ws rm Pc Qc XC mc ms free) (cw : vx_CSW R s args own index y bytes maxL ret hh ws rm mc ms n) (hp : PreS s H Pc As)
    (hg : g.method = m) (hn : As.length = n) (hsize : g.locals.size = nL) (hstack : g.stack = As.reverse ++ rest) (hW : 2 * g.monitorRoom + (rest.map fun v => v.category).sum ≤ 8) (hdg : decode cc g.pc = .ok (.invokestatic index, 3)) (hf : cells + mc ≤ R.cells ∧ slots + ms ≤ R.slots) :
    vx_Run p l e R s m args below meth c H locs cells slots mc ms g rest (Qc As.toArray) XC free := by
  obtain ⟨⟨hrc, hrs, hfr, hlo, hws, hcw⟩, hcode, hini, hy, hlen, hl, hstt⟩ := cw
  have hK : vx_Back l R p e below s args y 3 8 (PreOf R mc ms Pc) (PostOf Qc mc ms free) (vx_Post XC mc ms free) := vx_backW (hh := hh) (bytes := bytes) (maxL := maxL) (ret := ret) hM hp.1 hrc hrs hfr hlo hws hcw (fun a' U hW => word_at hW (Or.inl (by first | rfl | simp [Cond.onTables, Cond.keeps, Cond.steady])) hini)
  obtain ⟨hx, hb, hml, ho, -⟩ := S
  intro T hT X
  rcases vx_callSX X hx (hh := hh) (bytes := bytes) (maxL := maxL) (ret := ret) ho hl hstt hini hcode hy hK hg (hsize.trans hml.symm) (argsL := As) (rest := rest) (fun sig h => hn.trans (hlen sig h)) hstack hW (by rw [hb]; exact hdg)
    (fun vm₁ hW₁ => ⟨hf.1, hf.2, hp.2 (T.setVm vm₁) hT hW₁⟩) with ⟨v, vm₁, ⟨U', l2, c2, s2⟩, hW₁, X', ⟨g', mk, t, L, e1, e2, hq, h1, hL, h2, h3⟩, st⟩ | ⟨q, vm₁, ⟨U', l2, c2, s2⟩, hW₁, X', ⟨g', mk, t, L, E, ce, e1, e2, hq, hce, hcv, hcl, h1, hL, h2, h3⟩, st⟩
  · dsimp only [Pt.U, Pt.locs, Pt.cells, Pt.slots] at X' e1 e2 h1 h2 h3 st
    subst h1; subst h2; subst h3
    exact Or.inl ⟨v, (T.setVm vm₁).calling g' mk As.toArray, t, U', L, hT, X', hL, e1, e2, hq, st⟩
  · dsimp only [Pt.U, Pt.locs, Pt.cells, Pt.slots] at X' e1 e2 h1 h2 h3 st hcl
    subst h1; subst h2; subst h3
    exact Or.inr ⟨q, (T.setVm vm₁).calling g' mk As.toArray, t, U', L, E, ce, hT, X', hL, e1, e2, hq, hce, hcv, vx_cls hW₁ hcl, st⟩
end
end VXH
theorem vx_ofWH {l : Launch} {y : MethodName} {ws ws' : List Cond} {rm : Room} {Pc : Array Value → State → Prop} {Qc : Array Value → State → Outcome → State → Prop} {XC : String → State → State → Prop} {mc ms : Nat} {free : Addr → Prop} {cc : ByteArray} {maxL : Nat} {ret : Option FieldType} {hh : List (Nat × Nat × Nat × Nat)}
    (hy : plainName y.cls = true) (hw : ws = Cond.codeWith y cc maxL ret hh :: ws')
    (body : ∀ p e s m args below meth c s₁, BodyLoose p l y (headSpec ws rm) cc maxL ret e s m args below meth c s₁ → c.maxLocals = maxL → Pc args s →
      W p l e (headSpec ws rm).room s m args below meth c s.heap [] 0 0 (vx_MQ below Qc XC args s mc ms free) (entryFrame m args maxL)) : vx_Met l y ws rm Pc Qc XC mc ms free := by
  refine MetFree.of_bodyS (code := cc) (maxLocals := maxL) (ret := ret) hy ?_ ?_
  · intro args s m h hn
    obtain ⟨m9, meth, c, hn9, h1, h2, h3, h4, -, h5, h6, -⟩ := Cond.codeWith_spec (atoms_spec (ws := ws) h _ (by rw [hw]; exact List.mem_cons_self))
    cases hn.symm.trans hn9
    exact ⟨meth, c, h1, h2, h3, h4, h5, h6⟩
  · intro p e s m args below meth c s₁ B hml hP _
    have hh0 : s₁.heap = s.heap := by rw [B.state]; rfl
    obtain ⟨t, a1, o, b1, b2, b3⟩ := body p e s m args below meth c s₁ B hml hP s₁ hh0 (Stand.of_body B)
    exact ⟨t, o, a1, b1, b2, b3⟩
/-! ===== END ===== -/
end
section
/-! ===== BEGIN printed: names, fields, word lists, decode rows ===== -/
def RX0 : String := "SetsStayTogether$House"
def TX0 : u_T := fun k => match k with
  | 0 => ("SetsStayTogether$House", "size", "[I", true)
  | 1 => ("SetsStayTogether$House", "door", "[I", true)
  | 2 => ("SetsStayTogether$House", "bulk", "[I", true)
  | 3 => ("SetsStayTogether$House", "girth", "[I", true)
  | 4 => ("SetsStayTogether$House", "weight", "[I", true)
  | 5 => ("SetsStayTogether$House", "where", "[I", true)
  | 6 => ("SetsStayTogether$House", "members", "[I", true)
  | 7 => ("SetsStayTogether$House", "clumpThings", "[I", true)
  | 8 => ("SetsStayTogether$House", "clumpOf", "[I", true)
  | 9 => ("SetsStayTogether$House", "rooms", "I", false)
  | 10 => ("SetsStayTogether$House", "things", "I", false)
  | 11 => ("SetsStayTogether$House", "sets", "I", false)
  | _ => ("SetsStayTogether$House", "clumps", "I", false)
def tyX0 : Nat → FieldType := fun k => match k with
  | 0 => .array .int
  | 1 => .array .int
  | 2 => .array .int
  | 3 => .array .int
  | 4 => .array .int
  | 5 => .array .int
  | 6 => .array .int
  | 7 => .array .int
  | 8 => .array .int
  | 9 => .int
  | 10 => .int
  | 11 => .int
  | _ => .int
abbrev wsX00 : List Cond := u_ws RX0 TX0 13
theorem nmX0 : ∀ a, a < 13 → ∀ b, b < 13 → a ≠ b → (TX0 a).2.1 ≠ (TX0 b).2.1 := by decide +kernel
theorem tyX0_ok : ∀ k, k < 13 → parseFieldDescriptor (TX0 k).2.2.1 = some (tyX0 k) := by decide +kernel
abbrev cX0_init : ByteArray := prog_2_method_1_code
def yX0_init : MethodName := ⟨RX0, "<init>", "()V"⟩
abbrev cX0_become : ByteArray := prog_2_method_2_code
def yX0_become : MethodName := ⟨RX0, "become", "(LSetsStayTogether$House;)V"⟩
abbrev cX0_isRoom : ByteArray := prog_2_method_3_code
def yX0_isRoom : MethodName := ⟨RX0, "isRoom", "(I)Z"⟩
abbrev cX0_isThing : ByteArray := prog_2_method_4_code
def yX0_isThing : MethodName := ⟨RX0, "isThing", "(I)Z"⟩
abbrev cX0_areUnlikeRooms : ByteArray := prog_2_method_5_code
def yX0_areUnlikeRooms : MethodName := ⟨RX0, "areUnlikeRooms", "(II)Z"⟩
abbrev cX0_allRooms : ByteArray := prog_2_method_6_code
def yX0_allRooms : MethodName := ⟨RX0, "allRooms", "()I"⟩
abbrev cX0_allThings : ByteArray := prog_2_method_7_code
def yX0_allThings : MethodName := ⟨RX0, "allThings", "()I"⟩
abbrev cX0_allSets : ByteArray := prog_2_method_8_code
def yX0_allSets : MethodName := ⟨RX0, "allSets", "()I"⟩
abbrev cX0_allClumps : ByteArray := prog_2_method_9_code
def yX0_allClumps : MethodName := ⟨RX0, "allClumps", "()I"⟩
abbrev cX0_addRoom : ByteArray := prog_2_method_10_code
def yX0_addRoom : MethodName := ⟨RX0, "addRoom", "(I)V"⟩
abbrev cX0_addThing : ByteArray := prog_2_method_11_code
def yX0_addThing : MethodName := ⟨RX0, "addThing", "(IIII)V"⟩
abbrev cX0_addSet : ByteArray := prog_2_method_12_code
def yX0_addSet : MethodName := ⟨RX0, "addSet", "(I)V"⟩
abbrev cX0_makeDoor : ByteArray := prog_2_method_13_code
def yX0_makeDoor : MethodName := ⟨RX0, "makeDoor", "(III)V"⟩
abbrev cX0_doorWidth : ByteArray := prog_2_method_14_code
def yX0_doorWidth : MethodName := ⟨RX0, "doorWidth", "(II)I"⟩
abbrev cX0_doors : ByteArray := prog_2_method_15_code
def yX0_doors : MethodName := ⟨RX0, "doors", "()I"⟩
abbrev cX0_weigh : ByteArray := prog_2_method_16_code
def yX0_weigh : MethodName := ⟨RX0, "weigh", "(IIII)I"⟩
abbrev cX0_nextTo : ByteArray := prog_2_method_17_code
def yX0_nextTo : MethodName := ⟨RX0, "nextTo", "(II)I"⟩
abbrev cX0_oneStepFrom : ByteArray := prog_2_method_18_code
def yX0_oneStepFrom : MethodName := ⟨RX0, "oneStepFrom", "(II)I"⟩
abbrev cX0_roomsFrom : ByteArray := prog_2_method_19_code
def yX0_roomsFrom : MethodName := ⟨RX0, "roomsFrom", "(II)I"⟩
abbrev cX0_steps : ByteArray := prog_2_method_20_code
def yX0_steps : MethodName := ⟨RX0, "steps", "(III)I"⟩
abbrev cX0_firstNearer : ByteArray := prog_2_method_21_code
def yX0_firstNearer : MethodName := ⟨RX0, "firstNearer", "(IIII)I"⟩
abbrev cX0_cost : ByteArray := prog_2_method_22_code
def yX0_cost : MethodName := ⟨RX0, "cost", "(III)I"⟩
abbrev cX0_carriedTo : ByteArray := prog_2_method_23_code
def yX0_carriedTo : MethodName := ⟨RX0, "carriedTo", "([I)I"⟩
abbrev cX0_comersIfWide : ByteArray := prog_2_method_24_code
def yX0_comersIfWide : MethodName := ⟨RX0, "comersIfWide", "(III)I"⟩
abbrev cX0_isNow : ByteArray := prog_2_method_25_code
def yX0_isNow : MethodName := ⟨RX0, "isNow", "([I)Z"⟩
abbrev cX0_thingsIn : ByteArray := prog_2_method_26_code
def yX0_thingsIn : MethodName := ⟨RX0, "thingsIn", "(I[I)I"⟩
abbrev cX0_load : ByteArray := prog_2_method_27_code
def yX0_load : MethodName := ⟨RX0, "load", "(I[I)I"⟩
abbrev cX0_overfull : ByteArray := prog_2_method_28_code
def yX0_overfull : MethodName := ⟨RX0, "overfull", "([I)I"⟩
abbrev cX0_parted : ByteArray := prog_2_method_29_code
def yX0_parted : MethodName := ⟨RX0, "parted", "([I)I"⟩
abbrev cX0_areInOneRoom : ByteArray := prog_2_method_30_code
def yX0_areInOneRoom : MethodName := ⟨RX0, "areInOneRoom", "(I[I)Z"⟩
abbrev cX0_lawful : ByteArray := prog_2_method_31_code
def yX0_lawful : MethodName := ⟨RX0, "lawful", "([I)Z"⟩
abbrev cX0_tooMany : ByteArray := prog_2_method_32_code
def yX0_tooMany : MethodName := ⟨RX0, "tooMany", "()Z"⟩
abbrev cX0_setsOf : ByteArray := prog_2_method_33_code
def yX0_setsOf : MethodName := ⟨RX0, "setsOf", "(I)I"⟩
abbrev cX0_setsWithNoneOf : ByteArray := prog_2_method_34_code
def yX0_setsWithNoneOf : MethodName := ⟨RX0, "setsWithNoneOf", "(I)I"⟩
abbrev cX0_leaveSets : ByteArray := prog_2_method_35_code
def yX0_leaveSets : MethodName := ⟨RX0, "leaveSets", "(I)V"⟩
abbrev cX0_hangingOn : ByteArray := prog_2_method_36_code
def yX0_hangingOn : MethodName := ⟨RX0, "hangingOn", "(III)I"⟩
abbrev cX0_clumpsBy : ByteArray := prog_2_method_37_code
def yX0_clumpsBy : MethodName := ⟨RX0, "clumpsBy", "(II)I"⟩
abbrev cX0_hang : ByteArray := prog_2_method_38_code
def yX0_hang : MethodName := ⟨RX0, "hang", "()V"⟩
abbrev cX0_addClump : ByteArray := prog_2_method_39_code
def yX0_addClump : MethodName := ⟨RX0, "addClump", "(I)V"⟩
abbrev cX0_leastOf : ByteArray := prog_2_method_40_code
def yX0_leastOf : MethodName := ⟨RX0, "leastOf", "(I)I"⟩
abbrev cX0_clumpBulk : ByteArray := prog_2_method_41_code
def yX0_clumpBulk : MethodName := ⟨RX0, "clumpBulk", "(I)I"⟩
abbrev cX0_bulkOf : ByteArray := prog_2_method_42_code
def yX0_bulkOf : MethodName := ⟨RX0, "bulkOf", "(I)I"⟩
abbrev cX0_roomsFor : ByteArray := prog_2_method_43_code
def yX0_roomsFor : MethodName := ⟨RX0, "roomsFor", "(I)I"⟩
abbrev cX0_thingsOf : ByteArray := prog_2_method_44_code
def yX0_thingsOf : MethodName := ⟨RX0, "thingsOf", "(I)I"⟩
abbrev cX0_clumpsIn : ByteArray := prog_2_method_45_code
def yX0_clumpsIn : MethodName := ⟨RX0, "clumpsIn", "(I)I"⟩
abbrev cX0_isLessToSell : ByteArray := prog_2_method_46_code
def yX0_isLessToSell : MethodName := ⟨RX0, "isLessToSell", "(II)Z"⟩
def RX1 : String := "SetsStayTogether$HouseReader"
def TX1 : u_T := fun k => match k with
  | _ => ("SetsStayTogether$HouseReader", "from", "LSetsStayTogether$Reader;", true)
def tyX1 : Nat → FieldType := fun k => match k with
  | _ => .object "SetsStayTogether$Reader"
abbrev wsX10 : List Cond := u_ws RX1 TX1 1
theorem nmX1 : ∀ a, a < 1 → ∀ b, b < 1 → a ≠ b → (TX1 a).2.1 ≠ (TX1 b).2.1 := by decide +kernel
theorem tyX1_ok : ∀ k, k < 1 → parseFieldDescriptor (TX1 k).2.2.1 = some (tyX1 k) := by decide +kernel
abbrev cX1_init : ByteArray := prog_3_method_1_code
def yX1_init : MethodName := ⟨RX1, "<init>", "(LSetsStayTogether$Reader;)V"⟩
abbrev cX1_read : ByteArray := prog_3_method_2_code
def yX1_read : MethodName := ⟨RX1, "read", "(LSetsStayTogether$House;)I"⟩
abbrev cX1_line : ByteArray := prog_3_method_3_code
def yX1_line : MethodName := ⟨RX1, "line", "(LSetsStayTogether$House;)V"⟩
abbrev cX1_doorLine : ByteArray := prog_3_method_4_code
def yX1_doorLine : MethodName := ⟨RX1, "doorLine", "(LSetsStayTogether$House;)V"⟩
abbrev cX1_thingLine : ByteArray := prog_3_method_5_code
def yX1_thingLine : MethodName := ⟨RX1, "thingLine", "(LSetsStayTogether$House;)V"⟩
abbrev cX1_letters : ByteArray := prog_3_method_6_code
def yX1_letters : MethodName := ⟨RX1, "letters", "(I)I"⟩
def RX2 : String := "SetsStayTogether$Journey"
def TX2 : u_T := fun k => match k with
  | 0 => ("SetsStayTogether$Journey", "list", "[I", true)
  | 1 => ("SetsStayTogether$Journey", "costs", "[I", true)
  | 2 => ("SetsStayTogether$Journey", "first", "[I", true)
  | 3 => ("SetsStayTogether$Journey", "nights", "[I", true)
  | 4 => ("SetsStayTogether$Journey", "total", "[I", true)
  | 5 => ("SetsStayTogether$Journey", "many", "I", false)
  | 6 => ("SetsStayTogether$Journey", "clumps", "I", false)
  | 7 => ("SetsStayTogether$Journey", "target", "I", false)
  | 8 => ("SetsStayTogether$Journey", "least", "I", false)
  | _ => ("SetsStayTogether$Journey", "next", "I", false)
def tyX2 : Nat → FieldType := fun k => match k with
  | 0 => .array .int
  | 1 => .array .int
  | 2 => .array .int
  | 3 => .array .int
  | 4 => .array .int
  | 5 => .int
  | 6 => .int
  | 7 => .int
  | 8 => .int
  | _ => .int
abbrev wsX20 : List Cond := u_ws RX2 TX2 10
theorem nmX2 : ∀ a, a < 10 → ∀ b, b < 10 → a ≠ b → (TX2 a).2.1 ≠ (TX2 b).2.1 := by decide +kernel
theorem tyX2_ok : ∀ k, k < 10 → parseFieldDescriptor (TX2 k).2.2.1 = some (tyX2 k) := by decide +kernel
abbrev cX2_init : ByteArray := prog_4_method_1_code
def yX2_init : MethodName := ⟨RX2, "<init>", "()V"⟩
abbrev cX2_listLawful : ByteArray := prog_4_method_2_code
def yX2_listLawful : MethodName := ⟨RX2, "listLawful", "(LSetsStayTogether$House;LSetsStayTogether$Walk;)Z"⟩
abbrev cX2_prepare : ByteArray := prog_4_method_3_code
def yX2_prepare : MethodName := ⟨RX2, "prepare", "(LSetsStayTogether$House;[I)Z"⟩
abbrev cX2_roomAt : ByteArray := prog_4_method_4_code
def yX2_roomAt : MethodName := ⟨RX2, "roomAt", "(II)I"⟩
abbrev cX2_find : ByteArray := prog_4_method_5_code
def yX2_find : MethodName := ⟨RX2, "find", "(LSetsStayTogether$House;[I)I"⟩
abbrev cX2_fillCosts : ByteArray := prog_4_method_6_code
def yX2_fillCosts : MethodName := ⟨RX2, "fillCosts", "(LSetsStayTogether$House;)V"⟩
abbrev cX2_firstCost : ByteArray := prog_4_method_7_code
def yX2_firstCost : MethodName := ⟨RX2, "firstCost", "(LSetsStayTogether$House;I)I"⟩
abbrev cX2_between : ByteArray := prog_4_method_8_code
def yX2_between : MethodName := ⟨RX2, "between", "(II)I"⟩
abbrev cX2_fewest : ByteArray := prog_4_method_9_code
def yX2_fewest : MethodName := ⟨RX2, "fewest", "(I)I"⟩
abbrev cX2_firstBefore : ByteArray := prog_4_method_10_code
def yX2_firstBefore : MethodName := ⟨RX2, "firstBefore", "(II)I"⟩
abbrev cX2_goBack : ByteArray := prog_4_method_11_code
def yX2_goBack : MethodName := ⟨RX2, "goBack", "(II)Z"⟩
abbrev cX2_leastFrom : ByteArray := prog_4_method_12_code
def yX2_leastFrom : MethodName := ⟨RX2, "leastFrom", "(III)I"⟩
abbrev cX2_narrowest : ByteArray := prog_4_method_13_code
def yX2_narrowest : MethodName := ⟨RX2, "narrowest", "()I"⟩
abbrev cX2_easiest : ByteArray := prog_4_method_14_code
def yX2_easiest : MethodName := ⟨RX2, "easiest", "()I"⟩
def RX3 : String := "SetsStayTogether$Kept"
def TX3 : u_T := fun k => match k with
  | 0 => ("SetsStayTogether$Kept", "where", "[I", true)
  | 1 => ("SetsStayTogether$Kept", "used", "Z", false)
  | 2 => ("SetsStayTogether$Kept", "rooms", "I", false)
  | 3 => ("SetsStayTogether$Kept", "things", "I", false)
  | 4 => ("SetsStayTogether$Kept", "days", "I", false)
  | _ => ("SetsStayTogether$Kept", "carried", "I", false)
def tyX3 : Nat → FieldType := fun k => match k with
  | 0 => .array .int
  | 1 => .boolean
  | 2 => .int
  | 3 => .int
  | 4 => .int
  | _ => .int
abbrev wsX30 : List Cond := u_ws RX3 TX3 6
theorem nmX3 : ∀ a, a < 6 → ∀ b, b < 6 → a ≠ b → (TX3 a).2.1 ≠ (TX3 b).2.1 := by decide +kernel
theorem tyX3_ok : ∀ k, k < 6 → parseFieldDescriptor (TX3 k).2.2.1 = some (tyX3 k) := by decide +kernel
abbrev cX3_init : ByteArray := prog_5_method_1_code
def yX3_init : MethodName := ⟨RX3, "<init>", "()V"⟩
abbrev cX3_store : ByteArray := prog_5_method_2_code
def yX3_store : MethodName := ⟨RX3, "store", "(LSetsStayTogether$House;II)V"⟩
abbrev cX3_suits : ByteArray := prog_5_method_3_code
def yX3_suits : MethodName := ⟨RX3, "suits", "(LSetsStayTogether$House;)Z"⟩
def RX4 : String := "SetsStayTogether$Numbers"
def TX4 : u_T := fun k => match k with
  | 0 => ("SetsStayTogether$Numbers", "numbers", "[I", true)
  | _ => ("SetsStayTogether$Numbers", "many", "I", false)
def tyX4 : Nat → FieldType := fun k => match k with
  | 0 => .array .int
  | _ => .int
abbrev wsX40 : List Cond := u_ws RX4 TX4 2
theorem nmX4 : ∀ a, a < 2 → ∀ b, b < 2 → a ≠ b → (TX4 a).2.1 ≠ (TX4 b).2.1 := by decide +kernel
theorem tyX4_ok : ∀ k, k < 2 → parseFieldDescriptor (TX4 k).2.2.1 = some (tyX4 k) := by decide +kernel
abbrev cX4_init : ByteArray := prog_6_method_1_code
def yX4_init : MethodName := ⟨RX4, "<init>", "()V"⟩
abbrev cX4_start : ByteArray := prog_6_method_2_code
def yX4_start : MethodName := ⟨RX4, "start", "()V"⟩
abbrev cX4_tell : ByteArray := prog_6_method_3_code
def yX4_tell : MethodName := ⟨RX4, "tell", "(I)V"⟩
def RX5 : String := "SetsStayTogether$Past"
def TX5 : u_T := fun k => match k with
  | 0 => ("SetsStayTogether$Past", "thing", "[I", true)
  | 1 => ("SetsStayTogether$Past", "room", "[I", true)
  | 2 => ("SetsStayTogether$Past", "carried", "[I", true)
  | _ => ("SetsStayTogether$Past", "many", "I", false)
def tyX5 : Nat → FieldType := fun k => match k with
  | 0 => .array .int
  | 1 => .array .int
  | 2 => .array .int
  | _ => .int
abbrev wsX50 : List Cond := u_ws RX5 TX5 4
theorem nmX5 : ∀ a, a < 4 → ∀ b, b < 4 → a ≠ b → (TX5 a).2.1 ≠ (TX5 b).2.1 := by decide +kernel
theorem tyX5_ok : ∀ k, k < 4 → parseFieldDescriptor (TX5 k).2.2.1 = some (tyX5 k) := by decide +kernel
abbrev cX5_init : ByteArray := prog_7_method_1_code
def yX5_init : MethodName := ⟨RX5, "<init>", "()V"⟩
abbrev cX5_forget : ByteArray := prog_7_method_2_code
def yX5_forget : MethodName := ⟨RX5, "forget", "()V"⟩
abbrev cX5_add : ByteArray := prog_7_method_3_code
def yX5_add : MethodName := ⟨RX5, "add", "(III)V"⟩
abbrev cX5_dropFirst : ByteArray := prog_7_method_4_code
def yX5_dropFirst : MethodName := ⟨RX5, "dropFirst", "()V"⟩
def RX6 : String := "SetsStayTogether$Reader"
def TX6 : u_T := fun k => match k with
  | 0 => ("SetsStayTogether$Reader", "text", "LSetsStayTogether$Text;", true)
  | 1 => ("SetsStayTogether$Reader", "at", "I", false)
  | 2 => ("SetsStayTogether$Reader", "stop", "I", false)
  | _ => ("SetsStayTogether$Reader", "bad", "I", false)
def tyX6 : Nat → FieldType := fun k => match k with
  | 0 => .object "SetsStayTogether$Text"
  | 1 => .int
  | 2 => .int
  | _ => .int
abbrev wsX60 : List Cond := u_ws RX6 TX6 4
theorem nmX6 : ∀ a, a < 4 → ∀ b, b < 4 → a ≠ b → (TX6 a).2.1 ≠ (TX6 b).2.1 := by decide +kernel
theorem tyX6_ok : ∀ k, k < 4 → parseFieldDescriptor (TX6 k).2.2.1 = some (tyX6 k) := by decide +kernel
abbrev cX6_init : ByteArray := prog_8_method_1_code
def yX6_init : MethodName := ⟨RX6, "<init>", "(LSetsStayTogether$Text;)V"⟩
abbrev cX6_start : ByteArray := prog_8_method_2_code
def yX6_start : MethodName := ⟨RX6, "start", "(I)V"⟩
abbrev cX6_peek : ByteArray := prog_8_method_3_code
def yX6_peek : MethodName := ⟨RX6, "peek", "()I"⟩
abbrev cX6_goesOn : ByteArray := prog_8_method_4_code
def yX6_goesOn : MethodName := ⟨RX6, "goesOn", "()Z"⟩
abbrev cX6_fail : ByteArray := prog_8_method_5_code
def yX6_fail : MethodName := ⟨RX6, "fail", "(I)V"⟩
abbrev cX6_fault : ByteArray := prog_8_method_6_code
def yX6_fault : MethodName := ⟨RX6, "fault", "()I"⟩
abbrev cX6_take : ByteArray := prog_8_method_7_code
def yX6_take : MethodName := ⟨RX6, "take", "(I)V"⟩
abbrev cX6_seesDigit : ByteArray := prog_8_method_8_code
def yX6_seesDigit : MethodName := ⟨RX6, "seesDigit", "()Z"⟩
abbrev cX6_digit : ByteArray := prog_8_method_9_code
def yX6_digit : MethodName := ⟨RX6, "digit", "(II)I"⟩
abbrev cX6_letter : ByteArray := prog_8_method_10_code
def yX6_letter : MethodName := ⟨RX6, "letter", "(II)I"⟩
abbrev cX6_counted : ByteArray := prog_8_method_11_code
def yX6_counted : MethodName := ⟨RX6, "counted", "(III)I"⟩
abbrev cX6_inches : ByteArray := prog_8_method_12_code
def yX6_inches : MethodName := ⟨RX6, "inches", "()I"⟩
def RX7 : String := "SetsStayTogether$Rule"
def TX7 : u_T := fun k => match k with
  | 0 => ("SetsStayTogether$Rule", "signs", "LSetsStayTogether$Text;", true)
  | 1 => ("SetsStayTogether$Rule", "own", "LSetsStayTogether$Reader;", true)
  | _ => ("SetsStayTogether$Rule", "values", "[I", true)
def tyX7 : Nat → FieldType := fun k => match k with
  | 0 => .object "SetsStayTogether$Text"
  | 1 => .object "SetsStayTogether$Reader"
  | _ => .array .int
abbrev wsX70 : List Cond := u_ws RX7 TX7 3
theorem nmX7 : ∀ a, a < 3 → ∀ b, b < 3 → a ≠ b → (TX7 a).2.1 ≠ (TX7 b).2.1 := by decide +kernel
theorem tyX7_ok : ∀ k, k < 3 → parseFieldDescriptor (TX7 k).2.2.1 = some (tyX7 k) := by decide +kernel
abbrev cX7_init : ByteArray := prog_9_method_1_code
def yX7_init : MethodName := ⟨RX7, "<init>", "()V"⟩
abbrev cX7_fault : ByteArray := prog_9_method_2_code
def yX7_fault : MethodName := ⟨RX7, "fault", "(LSetsStayTogether$Reader;)I"⟩
abbrev cX7_value : ByteArray := prog_9_method_3_code
def yX7_value : MethodName := ⟨RX7, "value", "(LSetsStayTogether$House;II)I"⟩
abbrev cX7_whole : ByteArray := prog_9_method_4_code
def yX7_whole : MethodName := ⟨RX7, "whole", "(LSetsStayTogether$Reader;)I"⟩
abbrev cX7_compared : ByteArray := prog_9_method_5_code
def yX7_compared : MethodName := ⟨RX7, "compared", "(LSetsStayTogether$Reader;I)I"⟩
abbrev cX7_summed : ByteArray := prog_9_method_6_code
def yX7_summed : MethodName := ⟨RX7, "summed", "(LSetsStayTogether$Reader;I)I"⟩
abbrev cX7_multiplied : ByteArray := prog_9_method_7_code
def yX7_multiplied : MethodName := ⟨RX7, "multiplied", "(LSetsStayTogether$Reader;I)I"⟩
abbrev cX7_negated : ByteArray := prog_9_method_8_code
def yX7_negated : MethodName := ⟨RX7, "negated", "(LSetsStayTogether$Reader;I)I"⟩
abbrev cX7_single : ByteArray := prog_9_method_9_code
def yX7_single : MethodName := ⟨RX7, "single", "(LSetsStayTogether$Reader;I)I"⟩
abbrev cX7_number : ByteArray := prog_9_method_10_code
def yX7_number : MethodName := ⟨RX7, "number", "(LSetsStayTogether$Reader;)I"⟩
def RX8 : String := "SetsStayTogether$Text"
def TX8 : u_T := fun k => match k with
  | 0 => ("SetsStayTogether$Text", "signs", "[I", true)
  | _ => ("SetsStayTogether$Text", "length", "I", false)
def tyX8 : Nat → FieldType := fun k => match k with
  | 0 => .array .int
  | _ => .int
abbrev wsX80 : List Cond := u_ws RX8 TX8 2
theorem nmX8 : ∀ a, a < 2 → ∀ b, b < 2 → a ≠ b → (TX8 a).2.1 ≠ (TX8 b).2.1 := by decide +kernel
theorem tyX8_ok : ∀ k, k < 2 → parseFieldDescriptor (TX8 k).2.2.1 = some (tyX8 k) := by decide +kernel
abbrev cX8_init : ByteArray := prog_10_method_1_code
def yX8_init : MethodName := ⟨RX8, "<init>", "()V"⟩
abbrev cX8_append : ByteArray := prog_10_method_2_code
def yX8_append : MethodName := ⟨RX8, "append", "(I)Z"⟩
abbrev cX8_cut : ByteArray := prog_10_method_3_code
def yX8_cut : MethodName := ⟨RX8, "cut", "(I)Z"⟩
abbrev cX8_at : ByteArray := prog_10_method_4_code
def yX8_at : MethodName := ⟨RX8, "at", "(I)I"⟩
abbrev cX8_become : ByteArray := prog_10_method_5_code
def yX8_become : MethodName := ⟨RX8, "become", "(LSetsStayTogether$Text;)V"⟩
def RX9 : String := "SetsStayTogether$Turns"
def TX9 : u_T := fun k => match k with
  | 0 => ("SetsStayTogether$Turns", "open", "[Z", true)
  | 1 => ("SetsStayTogether$Turns", "order", "[I", true)
  | 2 => ("SetsStayTogether$Turns", "place", "[I", true)
  | _ => ("SetsStayTogether$Turns", "many", "I", false)
def tyX9 : Nat → FieldType := fun k => match k with
  | 0 => .array .boolean
  | 1 => .array .int
  | 2 => .array .int
  | _ => .int
abbrev wsX90 : List Cond := u_ws RX9 TX9 4
theorem nmX9 : ∀ a, a < 4 → ∀ b, b < 4 → a ≠ b → (TX9 a).2.1 ≠ (TX9 b).2.1 := by decide +kernel
theorem tyX9_ok : ∀ k, k < 4 → parseFieldDescriptor (TX9 k).2.2.1 = some (tyX9 k) := by decide +kernel
abbrev cX9_init : ByteArray := prog_11_method_1_code
def yX9_init : MethodName := ⟨RX9, "<init>", "()V"⟩
abbrev cX9_find : ByteArray := prog_11_method_2_code
def yX9_find : MethodName := ⟨RX9, "find", "(LSetsStayTogether$House;[I)Z"⟩
abbrev cX9_movedClumps : ByteArray := prog_11_method_3_code
def yX9_movedClumps : MethodName := ⟨RX9, "movedClumps", "(LSetsStayTogether$House;[I)I"⟩
abbrev cX9_firstOpen : ByteArray := prog_11_method_4_code
def yX9_firstOpen : MethodName := ⟨RX9, "firstOpen", "(II)I"⟩
abbrev cX9_isLawful : ByteArray := prog_11_method_5_code
def yX9_isLawful : MethodName := ⟨RX9, "isLawful", "(LSetsStayTogether$House;[II)Z"⟩
def RX10 : String := "SetsStayTogether$Walk"
def TX10 : u_T := fun k => match k with
  | 0 => ("SetsStayTogether$Walk", "size", "[I", true)
  | 1 => ("SetsStayTogether$Walk", "load", "[I", true)
  | 2 => ("SetsStayTogether$Walk", "bulk", "[I", true)
  | 3 => ("SetsStayTogether$Walk", "place", "[I", true)
  | 4 => ("SetsStayTogether$Walk", "table", "[I", true)
  | 5 => ("SetsStayTogether$Walk", "chosen", "[I", true)
  | 6 => ("SetsStayTogether$Walk", "rooms", "I", false)
  | 7 => ("SetsStayTogether$Walk", "parts", "I", false)
  | 8 => ("SetsStayTogether$Walk", "begun", "Z", false)
  | 9 => ("SetsStayTogether$Walk", "over", "Z", false)
  | 10 => ("SetsStayTogether$Walk", "value", "I", false)
  | _ => ("SetsStayTogether$Walk", "found", "I", false)
def tyX10 : Nat → FieldType := fun k => match k with
  | 0 => .array .int
  | 1 => .array .int
  | 2 => .array .int
  | 3 => .array .int
  | 4 => .array .int
  | 5 => .array .int
  | 6 => .int
  | 7 => .int
  | 8 => .boolean
  | 9 => .boolean
  | 10 => .int
  | _ => .int
abbrev wsX100 : List Cond := u_ws RX10 TX10 12
theorem nmX10 : ∀ a, a < 12 → ∀ b, b < 12 → a ≠ b → (TX10 a).2.1 ≠ (TX10 b).2.1 := by decide +kernel
theorem tyX10_ok : ∀ k, k < 12 → parseFieldDescriptor (TX10 k).2.2.1 = some (tyX10 k) := by decide +kernel
abbrev cX10_init : ByteArray := prog_12_method_1_code
def yX10_init : MethodName := ⟨RX10, "<init>", "()V"⟩
abbrev cX10_start : ByteArray := prog_12_method_2_code
def yX10_start : MethodName := ⟨RX10, "start", "(LSetsStayTogether$House;I)V"⟩
abbrev cX10_lessen : ByteArray := prog_12_method_3_code
def yX10_lessen : MethodName := ⟨RX10, "lessen", "(II)V"⟩
abbrev cX10_add : ByteArray := prog_12_method_4_code
def yX10_add : MethodName := ⟨RX10, "add", "(III)V"⟩
abbrev cX10_next : ByteArray := prog_12_method_5_code
def yX10_next : MethodName := ⟨RX10, "next", "()Z"⟩
abbrev cX10_isRoomEnough : ByteArray := prog_12_method_6_code
def yX10_isRoomEnough : MethodName := ⟨RX10, "isRoomEnough", "()Z"⟩
abbrev cX10_shift : ByteArray := prog_12_method_7_code
def yX10_shift : MethodName := ⟨RX10, "shift", "(I)Z"⟩
abbrev cX10_sum : ByteArray := prog_12_method_8_code
def yX10_sum : MethodName := ⟨RX10, "sum", "()I"⟩
abbrev cX10_choose : ByteArray := prog_12_method_9_code
def yX10_choose : MethodName := ⟨RX10, "choose", "()Z"⟩
def RX11 : String := "SetsStayTogether"
def TX11 : u_T := fun k => match k with
  | 0 => ("SetsStayTogether", "text", "LSetsStayTogether$Text;", true)
  | 1 => ("SetsStayTogether", "reader", "LSetsStayTogether$Reader;", true)
  | 2 => ("SetsStayTogether", "lines", "LSetsStayTogether$HouseReader;", true)
  | 3 => ("SetsStayTogether", "answer", "LSetsStayTogether$Numbers;", true)
  | 4 => ("SetsStayTogether", "home", "LSetsStayTogether$House;", true)
  | 5 => ("SetsStayTogether", "draft", "LSetsStayTogether$House;", true)
  | 6 => ("SetsStayTogether", "law", "LSetsStayTogether$Rule;", true)
  | 7 => ("SetsStayTogether", "walk", "LSetsStayTogether$Walk;", true)
  | 8 => ("SetsStayTogether", "past", "LSetsStayTogether$Past;", true)
  | 9 => ("SetsStayTogether", "shelf", "[LSetsStayTogether$Kept;", true)
  | 10 => ("SetsStayTogether", "turns", "LSetsStayTogether$Turns;", true)
  | 11 => ("SetsStayTogether", "journey", "LSetsStayTogether$Journey;", true)
  | 12 => ("SetsStayTogether", "goal", "[I", true)
  | 13 => ("SetsStayTogether", "spare", "[I", true)
  | 14 => ("SetsStayTogether", "goalThings", "I", false)
  | 15 => ("SetsStayTogether", "days", "I", false)
  | 16 => ("SetsStayTogether", "carried", "I", false)
  | _ => ("SetsStayTogether", "might", "I", false)
def tyX11 : Nat → FieldType := fun k => match k with
  | 0 => .object "SetsStayTogether$Text"
  | 1 => .object "SetsStayTogether$Reader"
  | 2 => .object "SetsStayTogether$HouseReader"
  | 3 => .object "SetsStayTogether$Numbers"
  | 4 => .object "SetsStayTogether$House"
  | 5 => .object "SetsStayTogether$House"
  | 6 => .object "SetsStayTogether$Rule"
  | 7 => .object "SetsStayTogether$Walk"
  | 8 => .object "SetsStayTogether$Past"
  | 9 => .array (.object "SetsStayTogether$Kept")
  | 10 => .object "SetsStayTogether$Turns"
  | 11 => .object "SetsStayTogether$Journey"
  | 12 => .array .int
  | 13 => .array .int
  | 14 => .int
  | 15 => .int
  | 16 => .int
  | _ => .int
abbrev wsX110 : List Cond := u_ws RX11 TX11 18
theorem nmX11 : ∀ a, a < 18 → ∀ b, b < 18 → a ≠ b → (TX11 a).2.1 ≠ (TX11 b).2.1 := by decide +kernel
theorem tyX11_ok : ∀ k, k < 18 → parseFieldDescriptor (TX11 k).2.2.1 = some (tyX11 k) := by decide +kernel
abbrev cX11_init : ByteArray := prog_1_method_1_code
def yX11_init : MethodName := ⟨RX11, "<init>", "()V"⟩
abbrev cX11_sign : ByteArray := prog_1_method_2_code
def yX11_sign : MethodName := ⟨RX11, "sign", "(I)I"⟩
abbrev cX11_end : ByteArray := prog_1_method_3_code
def yX11_end : MethodName := ⟨RX11, "end", "(I)Z"⟩
abbrev cX11_house : ByteArray := prog_1_method_4_code
def yX11_house : MethodName := ⟨RX11, "house", "()I"⟩
abbrev cX11_rule : ByteArray := prog_1_method_5_code
def yX11_rule : MethodName := ⟨RX11, "rule", "()I"⟩
abbrev cX11_room : ByteArray := prog_1_method_6_code
def yX11_room : MethodName := ⟨RX11, "room", "(II)I"⟩
abbrev cX11_thing : ByteArray := prog_1_method_7_code
def yX11_thing : MethodName := ⟨RX11, "thing", "(II)I"⟩
abbrev cX11_set : ByteArray := prog_1_method_8_code
def yX11_set : MethodName := ⟨RX11, "set", "(I)I"⟩
abbrev cX11_door : ByteArray := prog_1_method_9_code
def yX11_door : MethodName := ⟨RX11, "door", "(II)I"⟩
abbrev cX11_widen : ByteArray := prog_1_method_10_code
def yX11_widen : MethodName := ⟨RX11, "widen", "(III)I"⟩
abbrev cX11_strength : ByteArray := prog_1_method_11_code
def yX11_strength : MethodName := ⟨RX11, "strength", "(I)I"⟩
abbrev cX11_sheet : ByteArray := prog_1_method_12_code
def yX11_sheet : MethodName := ⟨RX11, "sheet", "(IIII)I"⟩
abbrev cX11_carry : ByteArray := prog_1_method_13_code
def yX11_carry : MethodName := ⟨RX11, "carry", "(II)I"⟩
abbrev cX11_evening : ByteArray := prog_1_method_14_code
def yX11_evening : MethodName := ⟨RX11, "evening", "()I"⟩
abbrev cX11_day : ByteArray := prog_1_method_15_code
def yX11_day : MethodName := ⟨RX11, "day", "()I"⟩
abbrev cX11_undo : ByteArray := prog_1_method_16_code
def yX11_undo : MethodName := ⟨RX11, "undo", "()I"⟩
abbrev cX11_judge : ByteArray := prog_1_method_17_code
def yX11_judge : MethodName := ⟨RX11, "judge", "(II)I"⟩
abbrev cX11_clumps : ByteArray := prog_1_method_18_code
def yX11_clumps : MethodName := ⟨RX11, "clumps", "()I"⟩
abbrev cX11_heaviest : ByteArray := prog_1_method_19_code
def yX11_heaviest : MethodName := ⟨RX11, "heaviest", "()I"⟩
abbrev cX11_without : ByteArray := prog_1_method_20_code
def yX11_without : MethodName := ⟨RX11, "without", "(I)I"⟩
abbrev cX11_breaks : ByteArray := prog_1_method_21_code
def yX11_breaks : MethodName := ⟨RX11, "breaks", "(I)I"⟩
abbrev cX11_ties : ByteArray := prog_1_method_22_code
def yX11_ties : MethodName := ⟨RX11, "ties", "()I"⟩
abbrev cX11_fits : ByteArray := prog_1_method_23_code
def yX11_fits : MethodName := ⟨RX11, "fits", "()I"⟩
abbrev cX11_worth : ByteArray := prog_1_method_24_code
def yX11_worth : MethodName := ⟨RX11, "worth", "()I"⟩
abbrev cX11_best : ByteArray := prog_1_method_25_code
def yX11_best : MethodName := ⟨RX11, "best", "()I"⟩
abbrev cX11_near : ByteArray := prog_1_method_26_code
def yX11_near : MethodName := ⟨RX11, "near", "()I"⟩
abbrev cX11_guest : ByteArray := prog_1_method_27_code
def yX11_guest : MethodName := ⟨RX11, "guest", "(II)I"⟩
abbrev cX11_space : ByteArray := prog_1_method_28_code
def yX11_space : MethodName := ⟨RX11, "space", "()I"⟩
abbrev cX11_could : ByteArray := prog_1_method_29_code
def yX11_could : MethodName := ⟨RX11, "could", "(II)I"⟩
abbrev cX11_may : ByteArray := prog_1_method_30_code
def yX11_may : MethodName := ⟨RX11, "may", "(I)I"⟩
abbrev cX11_together : ByteArray := prog_1_method_31_code
def yX11_together : MethodName := ⟨RX11, "together", "(II)I"⟩
abbrev cX11_fullest : ByteArray := prog_1_method_32_code
def yX11_fullest : MethodName := ⟨RX11, "fullest", "(I)I"⟩
abbrev cX11_swap : ByteArray := prog_1_method_33_code
def yX11_swap : MethodName := ⟨RX11, "swap", "(II)I"⟩
abbrev cX11_sell : ByteArray := prog_1_method_34_code
def yX11_sell : MethodName := ⟨RX11, "sell", "()I"⟩
abbrev cX11_build : ByteArray := prog_1_method_35_code
def yX11_build : MethodName := ⟨RX11, "build", "()I"⟩
abbrev cX11_way : ByteArray := prog_1_method_36_code
def yX11_way : MethodName := ⟨RX11, "way", "(II)I"⟩
abbrev cX11_widest : ByteArray := prog_1_method_37_code
def yX11_widest : MethodName := ⟨RX11, "widest", "(II)I"⟩
abbrev cX11_stuck : ByteArray := prog_1_method_38_code
def yX11_stuck : MethodName := ⟨RX11, "stuck", "()I"⟩
abbrev cX11_hinge : ByteArray := prog_1_method_39_code
def yX11_hinge : MethodName := ⟨RX11, "hinge", "(I)I"⟩
abbrev cX11_aim : ByteArray := prog_1_method_40_code
def yX11_aim : MethodName := ⟨RX11, "aim", "()I"⟩
abbrev cX11_apart : ByteArray := prog_1_method_41_code
def yX11_apart : MethodName := ⟨RX11, "apart", "()I"⟩
abbrev cX11_queue : ByteArray := prog_1_method_42_code
def yX11_queue : MethodName := ⟨RX11, "queue", "()I"⟩
abbrev cX11_evenings : ByteArray := prog_1_method_43_code
def yX11_evenings : MethodName := ⟨RX11, "evenings", "()I"⟩
abbrev cX11_weakest : ByteArray := prog_1_method_44_code
def yX11_weakest : MethodName := ⟨RX11, "weakest", "()I"⟩
abbrev cX11_keep : ByteArray := prog_1_method_45_code
def yX11_keep : MethodName := ⟨RX11, "keep", "(I)Z"⟩
abbrev cX11_again : ByteArray := prog_1_method_46_code
def yX11_again : MethodName := ⟨RX11, "again", "(I)Z"⟩
abbrev cX11_count : ByteArray := prog_1_method_47_code
def yX11_count : MethodName := ⟨RX11, "count", "(I)I"⟩
abbrev cX11_row : ByteArray := prog_1_method_48_code
def yX11_row : MethodName := ⟨RX11, "row", "(I)I"⟩
abbrev cX11_numberAt : ByteArray := prog_1_method_49_code
def yX11_numberAt : MethodName := ⟨RX11, "numberAt", "([II)I"⟩
abbrev cX11_copy : ByteArray := prog_1_method_50_code
def yX11_copy : MethodName := ⟨RX11, "copy", "([I[I)V"⟩
abbrev cX11_has : ByteArray := prog_1_method_51_code
def yX11_has : MethodName := ⟨RX11, "has", "(II)Z"⟩
abbrev cX11_keptAt : ByteArray := prog_1_method_52_code
def yX11_keptAt : MethodName := ⟨RX11, "keptAt", "(I)LSetsStayTogether$Kept;"⟩
abbrev cX11_attempt : ByteArray := prog_1_method_53_code
def yX11_attempt : MethodName := ⟨RX11, "attempt", "(II[II)I"⟩
abbrev cX11_bring : ByteArray := prog_1_method_54_code
def yX11_bring : MethodName := ⟨RX11, "bring", "(III)V"⟩
abbrev cX11_sleep : ByteArray := prog_1_method_55_code
def yX11_sleep : MethodName := ⟨RX11, "sleep", "()I"⟩
abbrev cX11_dayFault : ByteArray := prog_1_method_56_code
def yX11_dayFault : MethodName := ⟨RX11, "dayFault", "()I"⟩
abbrev cX11_readCarrying : ByteArray := prog_1_method_57_code
def yX11_readCarrying : MethodName := ⟨RX11, "readCarrying", "()V"⟩
abbrev cX11_aimFault : ByteArray := prog_1_method_58_code
def yX11_aimFault : MethodName := ⟨RX11, "aimFault", "()I"⟩
abbrev cX11_hasAim : ByteArray := prog_1_method_59_code
def yX11_hasAim : MethodName := ⟨RX11, "hasAim", "()Z"⟩
abbrev cX11_tellChosen : ByteArray := prog_1_method_60_code
def yX11_tellChosen : MethodName := ⟨RX11, "tellChosen", "()V"⟩
abbrev cX11_nearest : ByteArray := prog_1_method_61_code
def yX11_nearest : MethodName := ⟨RX11, "nearest", "(II)I"⟩
abbrev cX11_chooseByBulk : ByteArray := prog_1_method_62_code
def yX11_chooseByBulk : MethodName := ⟨RX11, "chooseByBulk", "(III)Z"⟩
abbrev cX11_readyJourney : ByteArray := prog_1_method_63_code
def yX11_readyJourney : MethodName := ⟨RX11, "readyJourney", "()I"⟩
def RX12 : String := "SetsStayTogetherModel"
def TX12 : u_T := fun k => match k with
  | 0 => ("SetsStayTogetherModel", "rooms", "I", false)
  | 1 => ("SetsStayTogetherModel", "size", "[I", true)
  | 2 => ("SetsStayTogetherModel", "door", "[I", true)
  | 3 => ("SetsStayTogetherModel", "things", "I", false)
  | 4 => ("SetsStayTogetherModel", "bulk", "[I", true)
  | 5 => ("SetsStayTogetherModel", "wide", "[I", true)
  | 6 => ("SetsStayTogetherModel", "weight", "[I", true)
  | 7 => ("SetsStayTogetherModel", "is", "[I", true)
  | 8 => ("SetsStayTogetherModel", "sets", "I", false)
  | 9 => ("SetsStayTogetherModel", "setOf", "[I", true)
  | 10 => ("SetsStayTogetherModel", "days", "I", false)
  | 11 => ("SetsStayTogetherModel", "carried", "I", false)
  | 12 => ("SetsStayTogetherModel", "strength", "I", false)
  | 13 => ("SetsStayTogetherModel", "text", "[B", true)
  | 14 => ("SetsStayTogetherModel", "typed", "I", false)
  | 15 => ("SetsStayTogetherModel", "row", "[I", true)
  | 16 => ("SetsStayTogetherModel", "rowMany", "I", false)
  | 17 => ("SetsStayTogetherModel", "thrown", "I", false)
  | 18 => ("SetsStayTogetherModel", "read", "[B", false)
  | 19 => ("SetsStayTogetherModel", "length", "I", false)
  | 20 => ("SetsStayTogetherModel", "top", "I", false)
  | 21 => ("SetsStayTogetherModel", "at", "I", false)
  | 22 => ("SetsStayTogetherModel", "wrong", "I", false)
  | 23 => ("SetsStayTogetherModel", "newDoors", "[I", true)
  | 24 => ("SetsStayTogetherModel", "rule", "[B", true)
  | 25 => ("SetsStayTogetherModel", "ruleSize", "I", false)
  | 26 => ("SetsStayTogetherModel", "askedThing", "I", false)
  | 27 => ("SetsStayTogetherModel", "askedRoom", "I", false)
  | 28 => ("SetsStayTogetherModel", "clumpOf", "[I", true)
  | 29 => ("SetsStayTogetherModel", "inClump", "[I", true)
  | 30 => ("SetsStayTogetherModel", "clumps", "I", false)
  | 31 => ("SetsStayTogetherModel", "far", "[I", true)
  | 32 => ("SetsStayTogetherModel", "undos", "[I", true)
  | 33 => ("SetsStayTogetherModel", "undoMany", "I", false)
  | 34 => ("SetsStayTogetherModel", "told", "[I", true)
  | 35 => ("SetsStayTogetherModel", "was", "[I", true)
  | 36 => ("SetsStayTogetherModel", "tried", "[I", true)
  | 37 => ("SetsStayTogetherModel", "clumpIn", "[I", true)
  | 38 => ("SetsStayTogetherModel", "sold", "I", false)
  | 39 => ("SetsStayTogetherModel", "ways", "I", false)
  | 40 => ("SetsStayTogetherModel", "code", "I", false)
  | 41 => ("SetsStayTogetherModel", "found", "[I", true)
  | 42 => ("SetsStayTogetherModel", "aim", "[I", true)
  | 43 => ("SetsStayTogetherModel", "aimMany", "I", false)
  | 44 => ("SetsStayTogetherModel", "isAimed", "Z", false)
  | 45 => ("SetsStayTogetherModel", "canCome", "[Z", true)
  | 46 => ("SetsStayTogetherModel", "rows", "[I", true)
  | 47 => ("SetsStayTogetherModel", "costs", "[I", true)
  | 48 => ("SetsStayTogetherModel", "rowsMany", "I", false)
  | 49 => ("SetsStayTogetherModel", "aimAt", "I", false)
  | 50 => ("SetsStayTogetherModel", "evenings", "[I", true)
  | 51 => ("SetsStayTogetherModel", "carriedBy", "[I", true)
  | 52 => ("SetsStayTogetherModel", "came", "I", false)
  | 53 => ("SetsStayTogetherModel", "kept", "[I", true)
  | 54 => ("SetsStayTogetherModel", "isKept", "[Z", true)
  | _ => ("SetsStayTogetherModel", "keptCame", "[I", true)
def tyX12 : Nat → FieldType := fun k => match k with
  | 0 => .int
  | 1 => .array .int
  | 2 => .array .int
  | 3 => .int
  | 4 => .array .int
  | 5 => .array .int
  | 6 => .array .int
  | 7 => .array .int
  | 8 => .int
  | 9 => .array .int
  | 10 => .int
  | 11 => .int
  | 12 => .int
  | 13 => .array .byte
  | 14 => .int
  | 15 => .array .int
  | 16 => .int
  | 17 => .int
  | 18 => .array .byte
  | 19 => .int
  | 20 => .int
  | 21 => .int
  | 22 => .int
  | 23 => .array .int
  | 24 => .array .byte
  | 25 => .int
  | 26 => .int
  | 27 => .int
  | 28 => .array .int
  | 29 => .array .int
  | 30 => .int
  | 31 => .array .int
  | 32 => .array .int
  | 33 => .int
  | 34 => .array .int
  | 35 => .array .int
  | 36 => .array .int
  | 37 => .array .int
  | 38 => .int
  | 39 => .int
  | 40 => .int
  | 41 => .array .int
  | 42 => .array .int
  | 43 => .int
  | 44 => .boolean
  | 45 => .array .boolean
  | 46 => .array .int
  | 47 => .array .int
  | 48 => .int
  | 49 => .int
  | 50 => .array .int
  | 51 => .array .int
  | 52 => .int
  | 53 => .array .int
  | 54 => .array .boolean
  | _ => .array .int
abbrev wsX120 : List Cond := u_ws RX12 TX12 56
theorem nmX12 : ∀ a, a < 56 → ∀ b, b < 56 → a ≠ b → (TX12 a).2.1 ≠ (TX12 b).2.1 := by decide +kernel
theorem tyX12_ok : ∀ k, k < 56 → parseFieldDescriptor (TX12 k).2.2.1 = some (tyX12 k) := by decide +kernel
abbrev cX12_init : ByteArray := prog_14_method_1_code
def yX12_init : MethodName := ⟨RX12, "<init>", "()V"⟩
abbrev cX12_thrown : ByteArray := prog_14_method_2_code
def yX12_thrown : MethodName := ⟨RX12, "thrown", "()I"⟩
abbrev cX12_in : ByteArray := prog_14_method_3_code
def yX12_in : MethodName := ⟨RX12, "in", "(III)Z"⟩
abbrev cX12_has : ByteArray := prog_14_method_4_code
def yX12_has : MethodName := ⟨RX12, "has", "(II)Z"⟩
abbrev cX12_lost : ByteArray := prog_14_method_5_code
def yX12_lost : MethodName := ⟨RX12, "lost", "()I"⟩
abbrev cX12_tell : ByteArray := prog_14_method_6_code
def yX12_tell : MethodName := ⟨RX12, "tell", "(I)V"⟩
abbrev cX12_isRoom : ByteArray := prog_14_method_7_code
def yX12_isRoom : MethodName := ⟨RX12, "isRoom", "(I)Z"⟩
abbrev cX12_isThing : ByteArray := prog_14_method_8_code
def yX12_isThing : MethodName := ⟨RX12, "isThing", "(I)Z"⟩
abbrev cX12_sign : ByteArray := prog_14_method_9_code
def yX12_sign : MethodName := ⟨RX12, "sign", "(I)I"⟩
abbrev cX12_end : ByteArray := prog_14_method_10_code
def yX12_end : MethodName := ⟨RX12, "end", "(I)Z"⟩
abbrev cX12_begin : ByteArray := prog_14_method_11_code
def yX12_begin : MethodName := ⟨RX12, "begin", "([BII)V"⟩
abbrev cX12_here : ByteArray := prog_14_method_12_code
def yX12_here : MethodName := ⟨RX12, "here", "()I"⟩
abbrev cX12_fine : ByteArray := prog_14_method_13_code
def yX12_fine : MethodName := ⟨RX12, "fine", "()Z"⟩
abbrev cX12_fault : ByteArray := prog_14_method_14_code
def yX12_fault : MethodName := ⟨RX12, "fault", "(I)V"⟩
abbrev cX12_passes : ByteArray := prog_14_method_15_code
def yX12_passes : MethodName := ⟨RX12, "passes", "(C)Z"⟩
abbrev cX12_need : ByteArray := prog_14_method_16_code
def yX12_need : MethodName := ⟨RX12, "need", "(C)V"⟩
abbrev cX12_number : ByteArray := prog_14_method_17_code
def yX12_number : MethodName := ⟨RX12, "number", "(III)I"⟩
abbrev cX12_house : ByteArray := prog_14_method_18_code
def yX12_house : MethodName := ⟨RX12, "house", "()I"⟩
abbrev cX12_put : ByteArray := prog_14_method_19_code
def yX12_put : MethodName := ⟨RX12, "put", "(III)V"⟩
abbrev cX12_readThing : ByteArray := prog_14_method_20_code
def yX12_readThing : MethodName := ⟨RX12, "readThing", "(II)V"⟩
abbrev cX12_readSet : ByteArray := prog_14_method_21_code
def yX12_readSet : MethodName := ⟨RX12, "readSet", "(II)V"⟩
abbrev cX12_held : ByteArray := prog_14_method_22_code
def yX12_held : MethodName := ⟨RX12, "held", "(I)I"⟩
abbrev cX12_sum : ByteArray := prog_14_method_23_code
def yX12_sum : MethodName := ⟨RX12, "sum", "(I)I"⟩
abbrev cX12_product : ByteArray := prog_14_method_24_code
def yX12_product : MethodName := ⟨RX12, "product", "(I)I"⟩
abbrev cX12_factor : ByteArray := prog_14_method_25_code
def yX12_factor : MethodName := ⟨RX12, "factor", "(I)I"⟩
abbrev cX12_letter : ByteArray := prog_14_method_26_code
def yX12_letter : MethodName := ⟨RX12, "letter", "(III)I"⟩
abbrev cX12_rule : ByteArray := prog_14_method_27_code
def yX12_rule : MethodName := ⟨RX12, "rule", "()I"⟩
abbrev cX12_worthOf : ByteArray := prog_14_method_28_code
def yX12_worthOf : MethodName := ⟨RX12, "worthOf", "(II)I"⟩
abbrev cX12_worthAll : ByteArray := prog_14_method_29_code
def yX12_worthAll : MethodName := ⟨RX12, "worthAll", "([I)I"⟩
abbrev cX12_setsOf : ByteArray := prog_14_method_30_code
def yX12_setsOf : MethodName := ⟨RX12, "setsOf", "(I)I"⟩
abbrev cX12_besides : ByteArray := prog_14_method_31_code
def yX12_besides : MethodName := ⟨RX12, "besides", "(I)I"⟩
abbrev cX12_freeIn : ByteArray := prog_14_method_32_code
def yX12_freeIn : MethodName := ⟨RX12, "freeIn", "([II)I"⟩
abbrev cX12_room : ByteArray := prog_14_method_33_code
def yX12_room : MethodName := ⟨RX12, "room", "(II)I"⟩
abbrev cX12_findClumps : ByteArray := prog_14_method_34_code
def yX12_findClumps : MethodName := ⟨RX12, "findClumps", "(II)V"⟩
abbrev cX12_thing : ByteArray := prog_14_method_35_code
def yX12_thing : MethodName := ⟨RX12, "thing", "(II)I"⟩
abbrev cX12_set : ByteArray := prog_14_method_36_code
def yX12_set : MethodName := ⟨RX12, "set", "(I)I"⟩
abbrev cX12_door : ByteArray := prog_14_method_37_code
def yX12_door : MethodName := ⟨RX12, "door", "(II)I"⟩
abbrev cX12_widen : ByteArray := prog_14_method_38_code
def yX12_widen : MethodName := ⟨RX12, "widen", "(III)I"⟩
abbrev cX12_strength : ByteArray := prog_14_method_39_code
def yX12_strength : MethodName := ⟨RX12, "strength", "(I)I"⟩
abbrev cX12_sheet : ByteArray := prog_14_method_40_code
def yX12_sheet : MethodName := ⟨RX12, "sheet", "(IIII)I"⟩
abbrev cX12_findFar : ByteArray := prog_14_method_41_code
def yX12_findFar : MethodName := ⟨RX12, "findFar", "(II)V"⟩
abbrev cX12_steps : ByteArray := prog_14_method_42_code
def yX12_steps : MethodName := ⟨RX12, "steps", "(III)I"⟩
abbrev cX12_costOf : ByteArray := prog_14_method_43_code
def yX12_costOf : MethodName := ⟨RX12, "costOf", "([II[II)I"⟩
abbrev cX12_partedSets : ByteArray := prog_14_method_44_code
def yX12_partedSets : MethodName := ⟨RX12, "partedSets", "([I)I"⟩
abbrev cX12_fullRooms : ByteArray := prog_14_method_45_code
def yX12_fullRooms : MethodName := ⟨RX12, "fullRooms", "([I)I"⟩
abbrev cX12_isLawful : ByteArray := prog_14_method_46_code
def yX12_isLawful : MethodName := ⟨RX12, "isLawful", "([I)Z"⟩
abbrev cX12_refusal : ByteArray := prog_14_method_47_code
def yX12_refusal : MethodName := ⟨RX12, "refusal", "(II)I"⟩
abbrev cX12_carries : ByteArray := prog_14_method_48_code
def yX12_carries : MethodName := ⟨RX12, "carries", "(II)I"⟩
abbrev cX12_remember : ByteArray := prog_14_method_49_code
def yX12_remember : MethodName := ⟨RX12, "remember", "(I)V"⟩
abbrev cX12_carry : ByteArray := prog_14_method_50_code
def yX12_carry : MethodName := ⟨RX12, "carry", "(II)I"⟩
abbrev cX12_goEvening : ByteArray := prog_14_method_51_code
def yX12_goEvening : MethodName := ⟨RX12, "goEvening", "()Z"⟩
abbrev cX12_evening : ByteArray := prog_14_method_52_code
def yX12_evening : MethodName := ⟨RX12, "evening", "()I"⟩
abbrev cX12_day : ByteArray := prog_14_method_53_code
def yX12_day : MethodName := ⟨RX12, "day", "()I"⟩
abbrev cX12_undo : ByteArray := prog_14_method_54_code
def yX12_undo : MethodName := ⟨RX12, "undo", "()I"⟩
abbrev cX12_judge : ByteArray := prog_14_method_55_code
def yX12_judge : MethodName := ⟨RX12, "judge", "(II)I"⟩
abbrev cX12_clumps : ByteArray := prog_14_method_56_code
def yX12_clumps : MethodName := ⟨RX12, "clumps", "()I"⟩
abbrev cX12_bulkOf : ByteArray := prog_14_method_57_code
def yX12_bulkOf : MethodName := ⟨RX12, "bulkOf", "(I)I"⟩
abbrev cX12_heaviest : ByteArray := prog_14_method_58_code
def yX12_heaviest : MethodName := ⟨RX12, "heaviest", "()I"⟩
abbrev cX12_without : ByteArray := prog_14_method_59_code
def yX12_without : MethodName := ⟨RX12, "without", "(I)I"⟩
abbrev cX12_breaks : ByteArray := prog_14_method_60_code
def yX12_breaks : MethodName := ⟨RX12, "breaks", "(I)I"⟩
abbrev cX12_ties : ByteArray := prog_14_method_61_code
def yX12_ties : MethodName := ⟨RX12, "ties", "()I"⟩
abbrev cX12_isTooMuch : ByteArray := prog_14_method_62_code
def yX12_isTooMuch : MethodName := ⟨RX12, "isTooMuch", "()Z"⟩
abbrev cX12_beginRows : ByteArray := prog_14_method_63_code
def yX12_beginRows : MethodName := ⟨RX12, "beginRows", "()V"⟩
abbrev cX12_nextRow : ByteArray := prog_14_method_64_code
def yX12_nextRow : MethodName := ⟨RX12, "nextRow", "()Z"⟩
abbrev cX12_isFine : ByteArray := prog_14_method_65_code
def yX12_isFine : MethodName := ⟨RX12, "isFine", "()Z"⟩
abbrev cX12_tellRow : ByteArray := prog_14_method_66_code
def yX12_tellRow : MethodName := ⟨RX12, "tellRow", "([I)V"⟩
abbrev cX12_take : ByteArray := prog_14_method_67_code
def yX12_take : MethodName := ⟨RX12, "take", "()V"⟩
abbrev cX12_fits : ByteArray := prog_14_method_68_code
def yX12_fits : MethodName := ⟨RX12, "fits", "()I"⟩
abbrev cX12_worth : ByteArray := prog_14_method_69_code
def yX12_worth : MethodName := ⟨RX12, "worth", "()I"⟩
abbrev cX12_best : ByteArray := prog_14_method_70_code
def yX12_best : MethodName := ⟨RX12, "best", "()I"⟩
abbrev cX12_nearest : ByteArray := prog_14_method_71_code
def yX12_nearest : MethodName := ⟨RX12, "nearest", "(II)I"⟩
abbrev cX12_near : ByteArray := prog_14_method_72_code
def yX12_near : MethodName := ⟨RX12, "near", "()I"⟩
abbrev cX12_guest : ByteArray := prog_14_method_73_code
def yX12_guest : MethodName := ⟨RX12, "guest", "(II)I"⟩
abbrev cX12_space : ByteArray := prog_14_method_74_code
def yX12_space : MethodName := ⟨RX12, "space", "()I"⟩
abbrev cX12_could : ByteArray := prog_14_method_75_code
def yX12_could : MethodName := ⟨RX12, "could", "(II)I"⟩
abbrev cX12_may : ByteArray := prog_14_method_76_code
def yX12_may : MethodName := ⟨RX12, "may", "(I)I"⟩
abbrev cX12_together : ByteArray := prog_14_method_77_code
def yX12_together : MethodName := ⟨RX12, "together", "(II)I"⟩
abbrev cX12_fullest : ByteArray := prog_14_method_78_code
def yX12_fullest : MethodName := ⟨RX12, "fullest", "(I)I"⟩
abbrev cX12_swap : ByteArray := prog_14_method_79_code
def yX12_swap : MethodName := ⟨RX12, "swap", "(II)I"⟩
abbrev cX12_sell : ByteArray := prog_14_method_80_code
def yX12_sell : MethodName := ⟨RX12, "sell", "()I"⟩
abbrev cX12_isLess : ByteArray := prog_14_method_81_code
def yX12_isLess : MethodName := ⟨RX12, "isLess", "(II)Z"⟩
abbrev cX12_build : ByteArray := prog_14_method_82_code
def yX12_build : MethodName := ⟨RX12, "build", "()I"⟩
abbrev cX12_isEnough : ByteArray := prog_14_method_83_code
def yX12_isEnough : MethodName := ⟨RX12, "isEnough", "(II)Z"⟩
abbrev cX12_way : ByteArray := prog_14_method_84_code
def yX12_way : MethodName := ⟨RX12, "way", "(II)I"⟩
abbrev cX12_widest : ByteArray := prog_14_method_85_code
def yX12_widest : MethodName := ⟨RX12, "widest", "(II)I"⟩
abbrev cX12_stuck : ByteArray := prog_14_method_86_code
def yX12_stuck : MethodName := ⟨RX12, "stuck", "()I"⟩
abbrev cX12_comeTo : ByteArray := prog_14_method_87_code
def yX12_comeTo : MethodName := ⟨RX12, "comeTo", "(I)I"⟩
abbrev cX12_hinge : ByteArray := prog_14_method_88_code
def yX12_hinge : MethodName := ⟨RX12, "hinge", "(I)I"⟩
abbrev cX12_aim : ByteArray := prog_14_method_89_code
def yX12_aim : MethodName := ⟨RX12, "aim", "()I"⟩
abbrev cX12_hasAim : ByteArray := prog_14_method_90_code
def yX12_hasAim : MethodName := ⟨RX12, "hasAim", "()Z"⟩
abbrev cX12_apart : ByteArray := prog_14_method_91_code
def yX12_apart : MethodName := ⟨RX12, "apart", "()I"⟩
abbrev cX12_isLawfulWith : ByteArray := prog_14_method_92_code
def yX12_isLawfulWith : MethodName := ⟨RX12, "isLawfulWith", "(I)Z"⟩
abbrev cX12_queue : ByteArray := prog_14_method_93_code
def yX12_queue : MethodName := ⟨RX12, "queue", "()I"⟩
abbrev cX12_findAims : ByteArray := prog_14_method_94_code
def yX12_findAims : MethodName := ⟨RX12, "findAims", "()Z"⟩
abbrev cX12_isThere : ByteArray := prog_14_method_95_code
def yX12_isThere : MethodName := ⟨RX12, "isThere", "()Z"⟩
abbrev cX12_findEvenings : ByteArray := prog_14_method_96_code
def yX12_findEvenings : MethodName := ⟨RX12, "findEvenings", "(I)V"⟩
abbrev cX12_evenings : ByteArray := prog_14_method_97_code
def yX12_evenings : MethodName := ⟨RX12, "evenings", "()I"⟩
abbrev cX12_weakest : ByteArray := prog_14_method_98_code
def yX12_weakest : MethodName := ⟨RX12, "weakest", "()I"⟩
abbrev cX12_isCost : ByteArray := prog_14_method_99_code
def yX12_isCost : MethodName := ⟨RX12, "isCost", "(I)Z"⟩
abbrev cX12_keep : ByteArray := prog_14_method_100_code
def yX12_keep : MethodName := ⟨RX12, "keep", "(I)Z"⟩
abbrev cX12_again : ByteArray := prog_14_method_101_code
def yX12_again : MethodName := ⟨RX12, "again", "(I)Z"⟩
abbrev cX12_count : ByteArray := prog_14_method_102_code
def yX12_count : MethodName := ⟨RX12, "count", "(I)I"⟩
abbrev cX12_row : ByteArray := prog_14_method_103_code
def yX12_row : MethodName := ⟨RX12, "row", "(I)I"⟩
def RJx145de : String := "java/io/Serializable"
def TJx145de : u_T := fun k => match k with
  | _ => ("", "", "", false)
def tyJx145de : Nat → FieldType := fun k => match k with
  | _ => .int
abbrev wsJx145de0 : List Cond := u_ws RJx145de TJx145de 0
theorem nmJx145de : ∀ a, a < 0 → ∀ b, b < 0 → a ≠ b → (TJx145de a).2.1 ≠ (TJx145de b).2.1 := by decide +kernel
theorem tyJx145de_ok : ∀ k, k < 0 → parseFieldDescriptor (TJx145de k).2.2.1 = some (tyJx145de k) := by decide +kernel
def RJx9f9b0 : String := "java/lang/CharSequence"
def TJx9f9b0 : u_T := fun k => match k with
  | _ => ("", "", "", false)
def tyJx9f9b0 : Nat → FieldType := fun k => match k with
  | _ => .int
abbrev wsJx9f9b00 : List Cond := u_ws RJx9f9b0 TJx9f9b0 0
theorem nmJx9f9b0 : ∀ a, a < 0 → ∀ b, b < 0 → a ≠ b → (TJx9f9b0 a).2.1 ≠ (TJx9f9b0 b).2.1 := by decide +kernel
theorem tyJx9f9b0_ok : ∀ k, k < 0 → parseFieldDescriptor (TJx9f9b0 k).2.2.1 = some (tyJx9f9b0 k) := by decide +kernel
def RJ11 : String := "java/lang/Character"
def TJ11 : u_T := fun k => match k with
  | _ => ("", "", "", false)
def tyJ11 : Nat → FieldType := fun k => match k with
  | _ => .int
abbrev wsJ110 : List Cond := u_ws RJ11 TJ11 0
theorem nmJ11 : ∀ a, a < 0 → ∀ b, b < 0 → a ≠ b → (TJ11 a).2.1 ≠ (TJ11 b).2.1 := by decide +kernel
theorem tyJ11_ok : ∀ k, k < 0 → parseFieldDescriptor (TJ11 k).2.2.1 = some (tyJ11 k) := by decide +kernel
abbrev cJ11_isValidCodePoint_9a6ad : ByteArray := prog_17_method_11_code
def yJ11_isValidCodePoint_9a6ad : MethodName := ⟨RJ11, "isValidCodePoint", "(I)Z"⟩
abbrev cJ11_highSurrogate_5068e : ByteArray := prog_17_method_28_code
def yJ11_highSurrogate_5068e : MethodName := ⟨RJ11, "highSurrogate", "(I)C"⟩
abbrev cJ11_lowSurrogate_5068e : ByteArray := prog_17_method_29_code
def yJ11_lowSurrogate_5068e : MethodName := ⟨RJ11, "lowSurrogate", "(I)C"⟩
def RJxb160c : String := "java/lang/Comparable"
def TJxb160c : u_T := fun k => match k with
  | _ => ("", "", "", false)
def tyJxb160c : Nat → FieldType := fun k => match k with
  | _ => .int
abbrev wsJxb160c0 : List Cond := u_ws RJxb160c TJxb160c 0
theorem nmJxb160c : ∀ a, a < 0 → ∀ b, b < 0 → a ≠ b → (TJxb160c a).2.1 ≠ (TJxb160c b).2.1 := by decide +kernel
theorem tyJxb160c_ok : ∀ k, k < 0 → parseFieldDescriptor (TJxb160c k).2.2.1 = some (tyJxb160c k) := by decide +kernel
def RJ6 : String := "java/lang/Integer"
def TJ6 : u_T := fun k => match k with
  | _ => ("", "", "", false)
def tyJ6 : Nat → FieldType := fun k => match k with
  | _ => .int
abbrev wsJ60 : List Cond := u_ws RJ6 TJ6 0
theorem nmJ6 : ∀ a, a < 0 → ∀ b, b < 0 → a ≠ b → (TJ6 a).2.1 ≠ (TJ6 b).2.1 := by decide +kernel
theorem tyJ6_ok : ∀ k, k < 0 → parseFieldDescriptor (TJ6 k).2.2.1 = some (tyJ6 k) := by decide +kernel
abbrev cJ6_numberOfTrailingZeros_0f7a4 : ByteArray := prog_20_method_48_code
def yJ6_numberOfTrailingZeros_0f7a4 : MethodName := ⟨RJ6, "numberOfTrailingZeros", "(I)I"⟩
abbrev cJ6_bitCount_0f7a4 : ByteArray := prog_20_method_49_code
def yJ6_bitCount_0f7a4 : MethodName := ⟨RJ6, "bitCount", "(I)I"⟩
def RJ9 : String := "java/lang/Math"
def TJ9 : u_T := fun k => match k with
  | _ => ("", "", "", false)
def tyJ9 : Nat → FieldType := fun k => match k with
  | _ => .int
abbrev wsJ90 : List Cond := u_ws RJ9 TJ9 0
theorem nmJ9 : ∀ a, a < 0 → ∀ b, b < 0 → a ≠ b → (TJ9 a).2.1 ≠ (TJ9 b).2.1 := by decide +kernel
theorem tyJ9_ok : ∀ k, k < 0 → parseFieldDescriptor (TJ9 k).2.2.1 = some (tyJ9 k) := by decide +kernel
abbrev cJ9_max_7cf53 : ByteArray := prog_21_method_65_code
def yJ9_max_7cf53 : MethodName := ⟨RJ9, "max", "(II)I"⟩
abbrev cJ9_min_7cf53 : ByteArray := prog_21_method_69_code
def yJ9_min_7cf53 : MethodName := ⟨RJ9, "min", "(II)I"⟩
def RJ0 : String := "java/lang/String"
def TJ0 : u_T := fun k => match k with
  | _ => ("", "", "", false)
def tyJ0 : Nat → FieldType := fun k => match k with
  | _ => .int
abbrev wsJ00 : List Cond := u_ws RJ0 TJ0 0
theorem nmJ0 : ∀ a, a < 0 → ∀ b, b < 0 → a ≠ b → (TJ0 a).2.1 ≠ (TJ0 b).2.1 := by decide +kernel
theorem tyJ0_ok : ∀ k, k < 0 → parseFieldDescriptor (TJ0 k).2.2.1 = some (tyJ0 k) := by decide +kernel
abbrev cJ0_length_8abf5 : ByteArray := prog_23_method_54_code
def yJ0_length_8abf5 : MethodName := ⟨RJ0, "length", "()I"⟩
abbrev cJ0_indexOf_0f7a4 : ByteArray := prog_23_method_79_code
def yJ0_indexOf_0f7a4 : MethodName := ⟨RJ0, "indexOf", "(I)I"⟩
abbrev cJ0_indexOf_7cf53 : ByteArray := prog_23_method_80_code
def yJ0_indexOf_7cf53 : MethodName := ⟨RJ0, "indexOf", "(II)I"⟩
abbrev cJ0_coder_7d493 : ByteArray := prog_23_method_152_code
def yJ0_coder_7d493 : MethodName := ⟨RJ0, "coder", "()B"⟩
abbrev cJ0_isLatin1_aae02 : ByteArray := prog_23_method_154_code
def yJ0_isLatin1_aae02 : MethodName := ⟨RJ0, "isLatin1", "()Z"⟩
abbrev cJ0_checkBoundsBeginEnd_23922 : ByteArray := prog_23_method_158_code
def yJ0_checkBoundsBeginEnd_23922 : MethodName := ⟨RJ0, "checkBoundsBeginEnd", "(III)V"⟩
def RJ1 : String := "java/lang/StringLatin1"
def TJ1 : u_T := fun k => match k with
  | _ => ("", "", "", false)
def tyJ1 : Nat → FieldType := fun k => match k with
  | _ => .int
abbrev wsJ10 : List Cond := u_ws RJ1 TJ1 0
theorem nmJ1 : ∀ a, a < 0 → ∀ b, b < 0 → a ≠ b → (TJ1 a).2.1 ≠ (TJ1 b).2.1 := by decide +kernel
theorem tyJ1_ok : ∀ k, k < 0 → parseFieldDescriptor (TJ1 k).2.2.1 = some (tyJ1 k) := by decide +kernel
abbrev cJ1_canEncode_9a6ad : ByteArray := prog_24_method_4_code
def yJ1_canEncode_9a6ad : MethodName := ⟨RJ1, "canEncode", "(I)Z"⟩
abbrev cJ1_indexOf_4cfef : ByteArray := prog_24_method_22_code
def yJ1_indexOf_4cfef : MethodName := ⟨RJ1, "indexOf", "([BIII)I"⟩
abbrev cJ1_indexOfChar_4cfef : ByteArray := prog_24_method_23_code
def yJ1_indexOfChar_4cfef : MethodName := ⟨RJ1, "indexOfChar", "([BIII)I"⟩
def RJ2 : String := "java/lang/StringUTF16"
def TJ2 : u_T := fun k => match k with
  | _ => ("", "", "", false)
def tyJ2 : Nat → FieldType := fun k => match k with
  | _ => .int
abbrev wsJ20 : List Cond := u_ws RJ2 TJ2 0
theorem nmJ2 : ∀ a, a < 0 → ∀ b, b < 0 → a ≠ b → (TJ2 a).2.1 ≠ (TJ2 b).2.1 := by decide +kernel
theorem tyJ2_ok : ∀ k, k < 0 → parseFieldDescriptor (TJ2 k).2.2.1 = some (tyJ2 k) := by decide +kernel
abbrev cJ2_getChar_3b067 : ByteArray := prog_25_method_5_code
def yJ2_getChar_3b067 : MethodName := ⟨RJ2, "getChar", "([BI)C"⟩
abbrev cJ2_length_9d52b : ByteArray := prog_25_method_6_code
def yJ2_length_9d52b : MethodName := ⟨RJ2, "length", "([B)I"⟩
abbrev cJ2_indexOf_4cfef : ByteArray := prog_25_method_40_code
def yJ2_indexOf_4cfef : MethodName := ⟨RJ2, "indexOf", "([BIII)I"⟩
abbrev cJ2_indexOfChar_4cfef : ByteArray := prog_25_method_47_code
def yJ2_indexOfChar_4cfef : MethodName := ⟨RJ2, "indexOfChar", "([BIII)I"⟩
abbrev cJ2_indexOfCharUnsafe_4cfef : ByteArray := prog_25_method_48_code
def yJ2_indexOfCharUnsafe_4cfef : MethodName := ⟨RJ2, "indexOfCharUnsafe", "([BIII)I"⟩
abbrev cJ2_indexOfSupplementary_4cfef : ByteArray := prog_25_method_49_code
def yJ2_indexOfSupplementary_4cfef : MethodName := ⟨RJ2, "indexOfSupplementary", "([BIII)I"⟩
abbrev cJ2_checkBoundsBeginEnd_d044e : ByteArray := prog_25_method_93_code
def yJ2_checkBoundsBeginEnd_d044e : MethodName := ⟨RJ2, "checkBoundsBeginEnd", "(II[B)V"⟩
def RJxfd54e : String := "java/lang/constant/Constable"
def TJxfd54e : u_T := fun k => match k with
  | _ => ("", "", "", false)
def tyJxfd54e : Nat → FieldType := fun k => match k with
  | _ => .int
abbrev wsJxfd54e0 : List Cond := u_ws RJxfd54e TJxfd54e 0
theorem nmJxfd54e : ∀ a, a < 0 → ∀ b, b < 0 → a ≠ b → (TJxfd54e a).2.1 ≠ (TJxfd54e b).2.1 := by decide +kernel
theorem tyJxfd54e_ok : ∀ k, k < 0 → parseFieldDescriptor (TJxfd54e k).2.2.1 = some (tyJxfd54e k) := by decide +kernel
def RJx3cf43 : String := "java/lang/constant/ConstantDesc"
def TJx3cf43 : u_T := fun k => match k with
  | _ => ("", "", "", false)
def tyJx3cf43 : Nat → FieldType := fun k => match k with
  | _ => .int
abbrev wsJx3cf430 : List Cond := u_ws RJx3cf43 TJx3cf43 0
theorem nmJx3cf43 : ∀ a, a < 0 → ∀ b, b < 0 → a ≠ b → (TJx3cf43 a).2.1 ≠ (TJx3cf43 b).2.1 := by decide +kernel
theorem tyJx3cf43_ok : ∀ k, k < 0 → parseFieldDescriptor (TJx3cf43 k).2.2.1 = some (tyJx3cf43 k) := by decide +kernel
def RJ3 : String := "jdk/internal/util/Preconditions"
def TJ3 : u_T := fun k => match k with
  | _ => ("", "", "", false)
def tyJ3 : Nat → FieldType := fun k => match k with
  | _ => .int
abbrev wsJ30 : List Cond := u_ws RJ3 TJ3 0
theorem nmJ3 : ∀ a, a < 0 → ∀ b, b < 0 → a ≠ b → (TJ3 a).2.1 ≠ (TJ3 b).2.1 := by decide +kernel
theorem tyJ3_ok : ∀ k, k < 0 → parseFieldDescriptor (TJ3 k).2.2.1 = some (tyJ3 k) := by decide +kernel
abbrev cJ3_checkFromToIndex_8c36e : ByteArray := prog_30_method_12_code
def yJ3_checkFromToIndex_8c36e : MethodName := ⟨RJ3, "checkFromToIndex", "(IIILjava/util/function/BiFunction;)I"⟩
def RL : String := "SetsStayTogetherLaw"
abbrev cL_room : ByteArray := method_3_code
def yL_room : MethodName := ⟨RL, "room", "(LSetsStayTogether;II[J)I"⟩
abbrev cL_thing : ByteArray := method_4_code
def yL_thing : MethodName := ⟨RL, "thing", "(LSetsStayTogether;II[J)I"⟩
abbrev cL_row : ByteArray := method_5_code
def yL_row : MethodName := ⟨RL, "row", "(LSetsStayTogether;I[J)I"⟩
abbrev cL_law : ByteArray := code
def yL_law : MethodName := ⟨RL, "law", "([I)Z"⟩
end
section
/-! the layout: every object of both systems has a number; what kind it is, how long, to which objects its fixed fields point -/
def pcl : List vw_C := [(RX0, TX0, 13), (RX1, TX1, 1), (RX2, TX2, 10), (RX3, TX3, 6), (RX4, TX4, 2), (RX5, TX5, 4), (RX6, TX6, 4), (RX7, TX7, 3), (RX8, TX8, 2), (RX9, TX9, 4), (RX10, TX10, 12), (RX11, TX11, 18), (RX12, TX12, 56)]
def pOB : List (Nat × Nat × List Nat) := [(11, 18, [1, 3, 4, 5, 7, 17, 27, 32, 39, 43, 48, 52, 58, 59, 0, 0, 0, 0]), (8, 2, [2, 0]), (100, 80, []), (6, 4, [1, 0, 0, 0]), (1, 1, [3]), (4, 2, [6, 0]), (100, 12, []), (0, 13, [8, 9, 10, 11, 12, 13, 14, 15, 16, 0, 0, 0, 0]), (100, 6, []), (100, 36, []), (100, 10, []), (100, 10, []), (100, 10, []), (100, 10, []), (100, 8, []), (100, 10, []), (100, 10, []), (0, 13, [18, 19, 20, 21, 22, 23, 24, 25, 26, 0, 0, 0, 0]), (100, 6, []), (100, 36, []), (100, 10, []), (100, 10, []), (100, 10, []), (100, 10, []), (100, 8, []), (100, 10, []), (100, 10, []), (7, 3, [28, 30, 31]), (8, 2, [29, 0]), (100, 80, []), (6, 4, [28, 0, 0, 0]), (100, 9, []), (10, 12, [33, 34, 35, 36, 37, 38, 0, 0, 0, 0, 0, 0]), (100, 6, []), (100, 6, []), (100, 10, []), (100, 10, []), (100, 60, []), (100, 10, []), (5, 4, [40, 41, 42, 0]), (100, 20, []), (100, 20, []), (100, 20, []), (103, 2, [44, 46]), (3, 6, [45, 0, 0, 0, 0, 0]), (100, 10, []), (3, 6, [47, 0, 0, 0, 0, 0]), (100, 10, []), (9, 4, [49, 50, 51, 0]), (102, 1024, []), (100, 10, []), (100, 10, []), (2, 10, [53, 54, 55, 56, 57, 0, 0, 0, 0, 0]), (100, 300, []), (100, 360, []), (100, 300, []), (100, 300, []), (100, 300, []), (100, 10, []), (100, 10, []), (12, 56, [0, 61, 62, 0, 63, 64, 65, 66, 0, 67, 0, 0, 0, 68, 0, 69, 0, 0, 0, 0, 0, 0, 0, 70, 71, 0, 0, 0, 72, 73, 0, 74, 75, 0, 76, 77, 78, 79, 0, 0, 0, 80, 81, 0, 0, 82, 83, 84, 0, 0, 85, 86, 0, 87, 88, 89]), (100, 6, []), (100, 36, []), (100, 10, []), (100, 10, []), (100, 10, []), (100, 10, []), (100, 8, []), (101, 80, []), (100, 16, []), (100, 240, []), (101, 40, []), (100, 10, []), (100, 10, []), (100, 6, []), (100, 60, []), (100, 80, []), (100, 10, []), (100, 10, []), (100, 10, []), (100, 10, []), (100, 10, []), (102, 1024, []), (100, 3010, []), (100, 90601, []), (100, 301, []), (100, 301, []), (100, 24, []), (102, 2, []), (100, 2, [])]
abbrev pN : Nat := 90
def pK (o : Nat) : Nat := (pOB.getD o (104, 0, [])).1
def pL (o : Nat) : Nat := (pOB.getD o (104, 0, [])).2.1
def pFr (o k : Nat) : Nat := (pOB.getD o (104, 0, [])).2.2.getD k 0
def pFKL : List (List Nat) := [[2, 2, 2, 2, 2, 2, 2, 2, 2, 0, 0, 0, 0], [2], [2, 2, 2, 2, 2, 0, 0, 0, 0, 0], [2, 1, 0, 0, 0, 0], [2, 0], [2, 2, 2, 0], [2, 0, 0, 0], [2, 2, 2], [2, 0], [2, 2, 2, 0], [2, 2, 2, 2, 2, 2, 0, 0, 1, 1, 0, 0], [2, 2, 2, 2, 2, 2, 2, 2, 2, 2, 2, 2, 2, 2, 0, 0, 0, 0], [0, 2, 2, 0, 2, 2, 2, 2, 0, 2, 0, 0, 0, 2, 0, 2, 0, 0, 3, 0, 0, 0, 0, 2, 2, 0, 0, 0, 2, 2, 0, 2, 2, 0, 2, 2, 2, 2, 0, 0, 0, 2, 2, 0, 1, 2, 2, 2, 0, 0, 2, 2, 0, 2, 2, 2]]
def pFk (c k : Nat) : Nat := (pFKL.getD c []).getD k 4
def pArr : List Nat := [2, 6, 8, 9, 10, 11, 12, 13, 14, 15, 16, 18, 19, 20, 21, 22, 23, 24, 25, 26, 29, 31, 33, 34, 35, 36, 37, 38, 40, 41, 42, 43, 45, 47, 49, 50, 51, 53, 54, 55, 56, 57, 58, 59, 61, 62, 63, 64, 65, 66, 67, 68, 69, 70, 71, 72, 73, 74, 75, 76, 77, 78, 79, 80, 81, 82, 83, 84, 85, 86, 87, 88, 89]
def pty (o : Nat) : FieldType := match pK o with | 100 => .int | 101 => .byte | 102 => .boolean | _ => .object "SetsStayTogether$Kept"
theorem pArr_ok : ∀ o, o < pN → 100 ≤ pK o → o ∈ pArr := by decide +kernel
theorem pOB_len : pOB.length = pN := by decide +kernel
/-! the words that frames of the system carry along: those of the tables that are good anywhere -/
def pws : List Cond := lw_tbl.filter goodWord
theorem pmt1 {w : Cond} (j : Nat) (h : tables_1_1[j]? = some w) (g : goodWord w = true) : w ∈ pws := List.mem_filter.mpr ⟨List.mem_append_right _ (show w ∈ tables_1 from List.mem_append_left _ (List.mem_of_getElem? h)), g⟩
theorem pmt2 {w : Cond} (j : Nat) (h : tables_1_2[j]? = some w) (g : goodWord w = true) : w ∈ pws := List.mem_filter.mpr ⟨List.mem_append_right _ (show w ∈ tables_1 from List.mem_append_right _ (List.mem_append_left _ (List.mem_of_getElem? h))), g⟩
theorem pmt3 {w : Cond} (j : Nat) (h : tables_1_3[j]? = some w) (g : goodWord w = true) : w ∈ pws := List.mem_filter.mpr ⟨List.mem_append_right _ (show w ∈ tables_1 from List.mem_append_right _ (List.mem_append_right _ (List.mem_append_left _ (List.mem_of_getElem? h)))), g⟩
theorem pmt4 {w : Cond} (j : Nat) (h : tables_1_4[j]? = some w) (g : goodWord w = true) : w ∈ pws := List.mem_filter.mpr ⟨List.mem_append_right _ (show w ∈ tables_1 from List.mem_append_right _ (List.mem_append_right _ (List.mem_append_right _ (List.mem_append_left _ (List.mem_of_getElem? h))))), g⟩
theorem pmt5 {w : Cond} (j : Nat) (h : tables_1_5[j]? = some w) (g : goodWord w = true) : w ∈ pws := List.mem_filter.mpr ⟨List.mem_append_right _ (show w ∈ tables_1 from List.mem_append_right _ (List.mem_append_right _ (List.mem_append_right _ (List.mem_append_right _ (List.mem_append_left _ (List.mem_of_getElem? h)))))), g⟩
theorem pmt6 {w : Cond} (j : Nat) (h : tables_1_6[j]? = some w) (g : goodWord w = true) : w ∈ pws := List.mem_filter.mpr ⟨List.mem_append_right _ (show w ∈ tables_1 from List.mem_append_right _ (List.mem_append_right _ (List.mem_append_right _ (List.mem_append_right _ (List.mem_append_right _ (List.mem_append_left _ (List.mem_of_getElem? h))))))), g⟩
theorem pmt7 {w : Cond} (j : Nat) (h : tables_1_7[j]? = some w) (g : goodWord w = true) : w ∈ pws := List.mem_filter.mpr ⟨List.mem_append_right _ (show w ∈ tables_1 from List.mem_append_right _ (List.mem_append_right _ (List.mem_append_right _ (List.mem_append_right _ (List.mem_append_right _ (List.mem_append_right _ (List.mem_append_left _ (List.mem_of_getElem? h)))))))), g⟩
theorem pmt8 {w : Cond} (j : Nat) (h : tables_1_8[j]? = some w) (g : goodWord w = true) : w ∈ pws := List.mem_filter.mpr ⟨List.mem_append_right _ (show w ∈ tables_1 from List.mem_append_right _ (List.mem_append_right _ (List.mem_append_right _ (List.mem_append_right _ (List.mem_append_right _ (List.mem_append_right _ (List.mem_append_right _ (List.mem_append_left _ (List.mem_of_getElem? h))))))))), g⟩
theorem pmt9 {w : Cond} (j : Nat) (h : tables_1_9[j]? = some w) (g : goodWord w = true) : w ∈ pws := List.mem_filter.mpr ⟨List.mem_append_right _ (show w ∈ tables_1 from List.mem_append_right _ (List.mem_append_right _ (List.mem_append_right _ (List.mem_append_right _ (List.mem_append_right _ (List.mem_append_right _ (List.mem_append_right _ (List.mem_append_right _ (List.mem_of_getElem? h))))))))), g⟩
theorem pms {q : MethodName × Nat} (j : Nat) (h : lw_privs[j]? = some q) (g : goodWord (Cond.selects q.1.cls q.1 q.1) = true) : Cond.selects q.1.cls q.1 q.1 ∈ pws := List.mem_filter.mpr ⟨List.mem_append_left _ (List.mem_map.mpr ⟨q, List.mem_of_getElem? h, rfl⟩), g⟩
theorem pin0 : ∀ w ∈ u_ws RX0 TX0 13, w ∈ pws := by
  rw [show u_ws RX0 TX0 13 = ([.laysFinal RX0 "SetsStayTogether$House" "size" "[I", .laysFinal RX0 "SetsStayTogether$House" "door" "[I", .laysFinal RX0 "SetsStayTogether$House" "bulk" "[I", .laysFinal RX0 "SetsStayTogether$House" "girth" "[I", .laysFinal RX0 "SetsStayTogether$House" "weight" "[I", .laysFinal RX0 "SetsStayTogether$House" "where" "[I", .laysFinal RX0 "SetsStayTogether$House" "members" "[I", .laysFinal RX0 "SetsStayTogether$House" "clumpThings" "[I", .laysFinal RX0 "SetsStayTogether$House" "clumpOf" "[I", .lays RX0 "SetsStayTogether$House" "rooms" "I", .lays RX0 "SetsStayTogether$House" "things" "I", .lays RX0 "SetsStayTogether$House" "sets" "I", .lays RX0 "SetsStayTogether$House" "clumps" "I"] : List Cond) from rfl]
  exact List.forall_mem_cons.mpr ⟨pmt1 151 rfl rfl, List.forall_mem_cons.mpr ⟨pmt1 153 rfl rfl, List.forall_mem_cons.mpr ⟨pmt1 155 rfl rfl, List.forall_mem_cons.mpr ⟨pmt1 157 rfl rfl, List.forall_mem_cons.mpr ⟨pmt1 159 rfl rfl, List.forall_mem_cons.mpr ⟨pmt1 161 rfl rfl, List.forall_mem_cons.mpr ⟨pmt1 163 rfl rfl, List.forall_mem_cons.mpr ⟨pmt1 165 rfl rfl, List.forall_mem_cons.mpr ⟨pmt1 167 rfl rfl, List.forall_mem_cons.mpr ⟨pmt1 169 rfl rfl, List.forall_mem_cons.mpr ⟨pmt1 171 rfl rfl, List.forall_mem_cons.mpr ⟨pmt1 173 rfl rfl, List.forall_mem_cons.mpr ⟨pmt1 175 rfl rfl, fun _ h => absurd h List.not_mem_nil⟩⟩⟩⟩⟩⟩⟩⟩⟩⟩⟩⟩⟩
theorem pin1 : ∀ w ∈ u_ws RX1 TX1 1, w ∈ pws := by
  rw [show u_ws RX1 TX1 1 = ([.laysFinal RX1 "SetsStayTogether$HouseReader" "from" "LSetsStayTogether$Reader;"] : List Cond) from rfl]
  exact List.forall_mem_cons.mpr ⟨pmt1 81 rfl rfl, fun _ h => absurd h List.not_mem_nil⟩
theorem pin2 : ∀ w ∈ u_ws RX2 TX2 10, w ∈ pws := by
  rw [show u_ws RX2 TX2 10 = ([.laysFinal RX2 "SetsStayTogether$Journey" "list" "[I", .laysFinal RX2 "SetsStayTogether$Journey" "costs" "[I", .laysFinal RX2 "SetsStayTogether$Journey" "first" "[I", .laysFinal RX2 "SetsStayTogether$Journey" "nights" "[I", .laysFinal RX2 "SetsStayTogether$Journey" "total" "[I", .lays RX2 "SetsStayTogether$Journey" "many" "I", .lays RX2 "SetsStayTogether$Journey" "clumps" "I", .lays RX2 "SetsStayTogether$Journey" "target" "I", .lays RX2 "SetsStayTogether$Journey" "least" "I", .lays RX2 "SetsStayTogether$Journey" "next" "I"] : List Cond) from rfl]
  exact List.forall_mem_cons.mpr ⟨pmt2 99 rfl rfl, List.forall_mem_cons.mpr ⟨pmt2 101 rfl rfl, List.forall_mem_cons.mpr ⟨pmt2 103 rfl rfl, List.forall_mem_cons.mpr ⟨pmt2 105 rfl rfl, List.forall_mem_cons.mpr ⟨pmt2 107 rfl rfl, List.forall_mem_cons.mpr ⟨pmt2 109 rfl rfl, List.forall_mem_cons.mpr ⟨pmt2 111 rfl rfl, List.forall_mem_cons.mpr ⟨pmt2 113 rfl rfl, List.forall_mem_cons.mpr ⟨pmt2 115 rfl rfl, List.forall_mem_cons.mpr ⟨pmt2 117 rfl rfl, fun _ h => absurd h List.not_mem_nil⟩⟩⟩⟩⟩⟩⟩⟩⟩⟩
theorem pin3 : ∀ w ∈ u_ws RX3 TX3 6, w ∈ pws := by
  rw [show u_ws RX3 TX3 6 = ([.laysFinal RX3 "SetsStayTogether$Kept" "where" "[I", .lays RX3 "SetsStayTogether$Kept" "used" "Z", .lays RX3 "SetsStayTogether$Kept" "rooms" "I", .lays RX3 "SetsStayTogether$Kept" "things" "I", .lays RX3 "SetsStayTogether$Kept" "days" "I", .lays RX3 "SetsStayTogether$Kept" "carried" "I"] : List Cond) from rfl]
  exact List.forall_mem_cons.mpr ⟨pmt2 46 rfl rfl, List.forall_mem_cons.mpr ⟨pmt2 48 rfl rfl, List.forall_mem_cons.mpr ⟨pmt2 50 rfl rfl, List.forall_mem_cons.mpr ⟨pmt2 52 rfl rfl, List.forall_mem_cons.mpr ⟨pmt2 54 rfl rfl, List.forall_mem_cons.mpr ⟨pmt2 56 rfl rfl, fun _ h => absurd h List.not_mem_nil⟩⟩⟩⟩⟩⟩
theorem pin4 : ∀ w ∈ u_ws RX4 TX4 2, w ∈ pws := by
  rw [show u_ws RX4 TX4 2 = ([.laysFinal RX4 "SetsStayTogether$Numbers" "numbers" "[I", .lays RX4 "SetsStayTogether$Numbers" "many" "I"] : List Cond) from rfl]
  exact List.forall_mem_cons.mpr ⟨pmt1 94 rfl rfl, List.forall_mem_cons.mpr ⟨pmt1 96 rfl rfl, fun _ h => absurd h List.not_mem_nil⟩⟩
theorem pin5 : ∀ w ∈ u_ws RX5 TX5 4, w ∈ pws := by
  rw [show u_ws RX5 TX5 4 = ([.laysFinal RX5 "SetsStayTogether$Past" "thing" "[I", .laysFinal RX5 "SetsStayTogether$Past" "room" "[I", .laysFinal RX5 "SetsStayTogether$Past" "carried" "[I", .lays RX5 "SetsStayTogether$Past" "many" "I"] : List Cond) from rfl]
  exact List.forall_mem_cons.mpr ⟨pmt2 21 rfl rfl, List.forall_mem_cons.mpr ⟨pmt2 23 rfl rfl, List.forall_mem_cons.mpr ⟨pmt2 25 rfl rfl, List.forall_mem_cons.mpr ⟨pmt2 27 rfl rfl, fun _ h => absurd h List.not_mem_nil⟩⟩⟩⟩
theorem pin6 : ∀ w ∈ u_ws RX6 TX6 4, w ∈ pws := by
  rw [show u_ws RX6 TX6 4 = ([.laysFinal RX6 "SetsStayTogether$Reader" "text" "LSetsStayTogether$Text;", .lays RX6 "SetsStayTogether$Reader" "at" "I", .lays RX6 "SetsStayTogether$Reader" "stop" "I", .lays RX6 "SetsStayTogether$Reader" "bad" "I"] : List Cond) from rfl]
  exact List.forall_mem_cons.mpr ⟨pmt1 65 rfl rfl, List.forall_mem_cons.mpr ⟨pmt1 67 rfl rfl, List.forall_mem_cons.mpr ⟨pmt1 69 rfl rfl, List.forall_mem_cons.mpr ⟨pmt1 71 rfl rfl, fun _ h => absurd h List.not_mem_nil⟩⟩⟩⟩
theorem pin7 : ∀ w ∈ u_ws RX7 TX7 3, w ∈ pws := by
  rw [show u_ws RX7 TX7 3 = ([.laysFinal RX7 "SetsStayTogether$Rule" "signs" "LSetsStayTogether$Text;", .laysFinal RX7 "SetsStayTogether$Rule" "own" "LSetsStayTogether$Reader;", .laysFinal RX7 "SetsStayTogether$Rule" "values" "[I"] : List Cond) from rfl]
  exact List.forall_mem_cons.mpr ⟨pmt1 192 rfl rfl, List.forall_mem_cons.mpr ⟨pmt1 194 rfl rfl, List.forall_mem_cons.mpr ⟨pmt1 196 rfl rfl, fun _ h => absurd h List.not_mem_nil⟩⟩⟩
theorem pin8 : ∀ w ∈ u_ws RX8 TX8 2, w ∈ pws := by
  rw [show u_ws RX8 TX8 2 = ([.laysFinal RX8 "SetsStayTogether$Text" "signs" "[I", .lays RX8 "SetsStayTogether$Text" "length" "I"] : List Cond) from rfl]
  exact List.forall_mem_cons.mpr ⟨pmt1 45 rfl rfl, List.forall_mem_cons.mpr ⟨pmt1 47 rfl rfl, fun _ h => absurd h List.not_mem_nil⟩⟩
theorem pin9 : ∀ w ∈ u_ws RX9 TX9 4, w ∈ pws := by
  rw [show u_ws RX9 TX9 4 = ([.laysFinal RX9 "SetsStayTogether$Turns" "open" "[Z", .laysFinal RX9 "SetsStayTogether$Turns" "order" "[I", .laysFinal RX9 "SetsStayTogether$Turns" "place" "[I", .lays RX9 "SetsStayTogether$Turns" "many" "I"] : List Cond) from rfl]
  exact List.forall_mem_cons.mpr ⟨pmt2 71 rfl rfl, List.forall_mem_cons.mpr ⟨pmt2 73 rfl rfl, List.forall_mem_cons.mpr ⟨pmt2 75 rfl rfl, List.forall_mem_cons.mpr ⟨pmt2 77 rfl rfl, fun _ h => absurd h List.not_mem_nil⟩⟩⟩⟩
theorem pin10 : ∀ w ∈ u_ws RX10 TX10 12, w ∈ pws := by
  rw [show u_ws RX10 TX10 12 = ([.laysFinal RX10 "SetsStayTogether$Walk" "size" "[I", .laysFinal RX10 "SetsStayTogether$Walk" "load" "[I", .laysFinal RX10 "SetsStayTogether$Walk" "bulk" "[I", .laysFinal RX10 "SetsStayTogether$Walk" "place" "[I", .laysFinal RX10 "SetsStayTogether$Walk" "table" "[I", .laysFinal RX10 "SetsStayTogether$Walk" "chosen" "[I", .lays RX10 "SetsStayTogether$Walk" "rooms" "I", .lays RX10 "SetsStayTogether$Walk" "parts" "I", .lays RX10 "SetsStayTogether$Walk" "begun" "Z", .lays RX10 "SetsStayTogether$Walk" "over" "Z", .lays RX10 "SetsStayTogether$Walk" "value" "I", .lays RX10 "SetsStayTogether$Walk" "found" "I"] : List Cond) from rfl]
  exact List.forall_mem_cons.mpr ⟨pmt1 222 rfl rfl, List.forall_mem_cons.mpr ⟨pmt1 224 rfl rfl, List.forall_mem_cons.mpr ⟨pmt1 226 rfl rfl, List.forall_mem_cons.mpr ⟨pmt1 228 rfl rfl, List.forall_mem_cons.mpr ⟨pmt1 230 rfl rfl, List.forall_mem_cons.mpr ⟨pmt1 232 rfl rfl, List.forall_mem_cons.mpr ⟨pmt1 234 rfl rfl, List.forall_mem_cons.mpr ⟨pmt1 236 rfl rfl, List.forall_mem_cons.mpr ⟨pmt1 238 rfl rfl, List.forall_mem_cons.mpr ⟨pmt2 0 rfl rfl, List.forall_mem_cons.mpr ⟨pmt2 2 rfl rfl, List.forall_mem_cons.mpr ⟨pmt2 4 rfl rfl, fun _ h => absurd h List.not_mem_nil⟩⟩⟩⟩⟩⟩⟩⟩⟩⟩⟩⟩
theorem pin11 : ∀ w ∈ u_ws RX11 TX11 18, w ∈ pws := by
  rw [show u_ws RX11 TX11 18 = ([.laysFinal RX11 "SetsStayTogether" "text" "LSetsStayTogether$Text;", .laysFinal RX11 "SetsStayTogether" "reader" "LSetsStayTogether$Reader;", .laysFinal RX11 "SetsStayTogether" "lines" "LSetsStayTogether$HouseReader;", .laysFinal RX11 "SetsStayTogether" "answer" "LSetsStayTogether$Numbers;", .laysFinal RX11 "SetsStayTogether" "home" "LSetsStayTogether$House;", .laysFinal RX11 "SetsStayTogether" "draft" "LSetsStayTogether$House;", .laysFinal RX11 "SetsStayTogether" "law" "LSetsStayTogether$Rule;", .laysFinal RX11 "SetsStayTogether" "walk" "LSetsStayTogether$Walk;", .laysFinal RX11 "SetsStayTogether" "past" "LSetsStayTogether$Past;", .laysFinal RX11 "SetsStayTogether" "shelf" "[LSetsStayTogether$Kept;", .laysFinal RX11 "SetsStayTogether" "turns" "LSetsStayTogether$Turns;", .laysFinal RX11 "SetsStayTogether" "journey" "LSetsStayTogether$Journey;", .laysFinal RX11 "SetsStayTogether" "goal" "[I", .laysFinal RX11 "SetsStayTogether" "spare" "[I", .lays RX11 "SetsStayTogether" "goalThings" "I", .lays RX11 "SetsStayTogether" "days" "I", .lays RX11 "SetsStayTogether" "carried" "I", .lays RX11 "SetsStayTogether" "might" "I"] : List Cond) from rfl]
  exact List.forall_mem_cons.mpr ⟨pmt2 138 rfl rfl, List.forall_mem_cons.mpr ⟨pmt2 140 rfl rfl, List.forall_mem_cons.mpr ⟨pmt2 142 rfl rfl, List.forall_mem_cons.mpr ⟨pmt2 144 rfl rfl, List.forall_mem_cons.mpr ⟨pmt2 146 rfl rfl, List.forall_mem_cons.mpr ⟨pmt2 148 rfl rfl, List.forall_mem_cons.mpr ⟨pmt2 150 rfl rfl, List.forall_mem_cons.mpr ⟨pmt2 152 rfl rfl, List.forall_mem_cons.mpr ⟨pmt2 154 rfl rfl, List.forall_mem_cons.mpr ⟨pmt2 156 rfl rfl, List.forall_mem_cons.mpr ⟨pmt2 158 rfl rfl, List.forall_mem_cons.mpr ⟨pmt2 160 rfl rfl, List.forall_mem_cons.mpr ⟨pmt2 162 rfl rfl, List.forall_mem_cons.mpr ⟨pmt2 164 rfl rfl, List.forall_mem_cons.mpr ⟨pmt2 166 rfl rfl, List.forall_mem_cons.mpr ⟨pmt2 168 rfl rfl, List.forall_mem_cons.mpr ⟨pmt2 170 rfl rfl, List.forall_mem_cons.mpr ⟨pmt2 172 rfl rfl, fun _ h => absurd h List.not_mem_nil⟩⟩⟩⟩⟩⟩⟩⟩⟩⟩⟩⟩⟩⟩⟩⟩⟩⟩
theorem pin12 : ∀ w ∈ u_ws RX12 TX12 56, w ∈ pws := by
  rw [show u_ws RX12 TX12 56 = ([.lays RX12 "SetsStayTogetherModel" "rooms" "I", .laysFinal RX12 "SetsStayTogetherModel" "size" "[I", .laysFinal RX12 "SetsStayTogetherModel" "door" "[I", .lays RX12 "SetsStayTogetherModel" "things" "I", .laysFinal RX12 "SetsStayTogetherModel" "bulk" "[I", .laysFinal RX12 "SetsStayTogetherModel" "wide" "[I", .laysFinal RX12 "SetsStayTogetherModel" "weight" "[I", .laysFinal RX12 "SetsStayTogetherModel" "is" "[I", .lays RX12 "SetsStayTogetherModel" "sets" "I", .laysFinal RX12 "SetsStayTogetherModel" "setOf" "[I", .lays RX12 "SetsStayTogetherModel" "days" "I", .lays RX12 "SetsStayTogetherModel" "carried" "I", .lays RX12 "SetsStayTogetherModel" "strength" "I", .laysFinal RX12 "SetsStayTogetherModel" "text" "[B", .lays RX12 "SetsStayTogetherModel" "typed" "I", .laysFinal RX12 "SetsStayTogetherModel" "row" "[I", .lays RX12 "SetsStayTogetherModel" "rowMany" "I", .lays RX12 "SetsStayTogetherModel" "thrown" "I", .lays RX12 "SetsStayTogetherModel" "read" "[B", .lays RX12 "SetsStayTogetherModel" "length" "I", .lays RX12 "SetsStayTogetherModel" "top" "I", .lays RX12 "SetsStayTogetherModel" "at" "I", .lays RX12 "SetsStayTogetherModel" "wrong" "I", .laysFinal RX12 "SetsStayTogetherModel" "newDoors" "[I", .laysFinal RX12 "SetsStayTogetherModel" "rule" "[B", .lays RX12 "SetsStayTogetherModel" "ruleSize" "I", .lays RX12 "SetsStayTogetherModel" "askedThing" "I", .lays RX12 "SetsStayTogetherModel" "askedRoom" "I", .laysFinal RX12 "SetsStayTogetherModel" "clumpOf" "[I", .laysFinal RX12 "SetsStayTogetherModel" "inClump" "[I", .lays RX12 "SetsStayTogetherModel" "clumps" "I", .laysFinal RX12 "SetsStayTogetherModel" "far" "[I", .laysFinal RX12 "SetsStayTogetherModel" "undos" "[I", .lays RX12 "SetsStayTogetherModel" "undoMany" "I", .laysFinal RX12 "SetsStayTogetherModel" "told" "[I", .laysFinal RX12 "SetsStayTogetherModel" "was" "[I", .laysFinal RX12 "SetsStayTogetherModel" "tried" "[I", .laysFinal RX12 "SetsStayTogetherModel" "clumpIn" "[I", .lays RX12 "SetsStayTogetherModel" "sold" "I", .lays RX12 "SetsStayTogetherModel" "ways" "I", .lays RX12 "SetsStayTogetherModel" "code" "I", .laysFinal RX12 "SetsStayTogetherModel" "found" "[I", .laysFinal RX12 "SetsStayTogetherModel" "aim" "[I", .lays RX12 "SetsStayTogetherModel" "aimMany" "I", .lays RX12 "SetsStayTogetherModel" "isAimed" "Z", .laysFinal RX12 "SetsStayTogetherModel" "canCome" "[Z", .laysFinal RX12 "SetsStayTogetherModel" "rows" "[I", .laysFinal RX12 "SetsStayTogetherModel" "costs" "[I", .lays RX12 "SetsStayTogetherModel" "rowsMany" "I", .lays RX12 "SetsStayTogetherModel" "aimAt" "I", .laysFinal RX12 "SetsStayTogetherModel" "evenings" "[I", .laysFinal RX12 "SetsStayTogetherModel" "carriedBy" "[I", .lays RX12 "SetsStayTogetherModel" "came" "I", .laysFinal RX12 "SetsStayTogetherModel" "kept" "[I", .laysFinal RX12 "SetsStayTogetherModel" "isKept" "[Z", .laysFinal RX12 "SetsStayTogetherModel" "keptCame" "[I"] : List Cond) from rfl]
  exact List.forall_mem_cons.mpr ⟨pmt6 196 rfl rfl, List.forall_mem_cons.mpr ⟨pmt6 198 rfl rfl, List.forall_mem_cons.mpr ⟨pmt6 200 rfl rfl, List.forall_mem_cons.mpr ⟨pmt6 202 rfl rfl, List.forall_mem_cons.mpr ⟨pmt6 204 rfl rfl, List.forall_mem_cons.mpr ⟨pmt6 206 rfl rfl, List.forall_mem_cons.mpr ⟨pmt6 208 rfl rfl, List.forall_mem_cons.mpr ⟨pmt6 210 rfl rfl, List.forall_mem_cons.mpr ⟨pmt6 212 rfl rfl, List.forall_mem_cons.mpr ⟨pmt6 214 rfl rfl, List.forall_mem_cons.mpr ⟨pmt6 216 rfl rfl, List.forall_mem_cons.mpr ⟨pmt6 218 rfl rfl, List.forall_mem_cons.mpr ⟨pmt6 220 rfl rfl, List.forall_mem_cons.mpr ⟨pmt6 222 rfl rfl, List.forall_mem_cons.mpr ⟨pmt6 224 rfl rfl, List.forall_mem_cons.mpr ⟨pmt6 226 rfl rfl, List.forall_mem_cons.mpr ⟨pmt6 228 rfl rfl, List.forall_mem_cons.mpr ⟨pmt6 230 rfl rfl, List.forall_mem_cons.mpr ⟨pmt6 232 rfl rfl, List.forall_mem_cons.mpr ⟨pmt6 234 rfl rfl, List.forall_mem_cons.mpr ⟨pmt6 236 rfl rfl, List.forall_mem_cons.mpr ⟨pmt6 238 rfl rfl, List.forall_mem_cons.mpr ⟨pmt7 0 rfl rfl, List.forall_mem_cons.mpr ⟨pmt7 2 rfl rfl, List.forall_mem_cons.mpr ⟨pmt7 4 rfl rfl, List.forall_mem_cons.mpr ⟨pmt7 6 rfl rfl, List.forall_mem_cons.mpr ⟨pmt7 8 rfl rfl, List.forall_mem_cons.mpr ⟨pmt7 10 rfl rfl, List.forall_mem_cons.mpr ⟨pmt7 12 rfl rfl, List.forall_mem_cons.mpr ⟨pmt7 14 rfl rfl, List.forall_mem_cons.mpr ⟨pmt7 16 rfl rfl, List.forall_mem_cons.mpr ⟨pmt7 18 rfl rfl, List.forall_mem_cons.mpr ⟨pmt7 20 rfl rfl, List.forall_mem_cons.mpr ⟨pmt7 22 rfl rfl, List.forall_mem_cons.mpr ⟨pmt7 24 rfl rfl, List.forall_mem_cons.mpr ⟨pmt7 26 rfl rfl, List.forall_mem_cons.mpr ⟨pmt7 28 rfl rfl, List.forall_mem_cons.mpr ⟨pmt7 30 rfl rfl, List.forall_mem_cons.mpr ⟨pmt7 32 rfl rfl, List.forall_mem_cons.mpr ⟨pmt7 34 rfl rfl, List.forall_mem_cons.mpr ⟨pmt7 36 rfl rfl, List.forall_mem_cons.mpr ⟨pmt7 38 rfl rfl, List.forall_mem_cons.mpr ⟨pmt7 40 rfl rfl, List.forall_mem_cons.mpr ⟨pmt7 42 rfl rfl, List.forall_mem_cons.mpr ⟨pmt7 44 rfl rfl, List.forall_mem_cons.mpr ⟨pmt7 46 rfl rfl, List.forall_mem_cons.mpr ⟨pmt7 48 rfl rfl, List.forall_mem_cons.mpr ⟨pmt7 50 rfl rfl, List.forall_mem_cons.mpr ⟨pmt7 52 rfl rfl, List.forall_mem_cons.mpr ⟨pmt7 54 rfl rfl, List.forall_mem_cons.mpr ⟨pmt7 56 rfl rfl, List.forall_mem_cons.mpr ⟨pmt7 58 rfl rfl, List.forall_mem_cons.mpr ⟨pmt7 60 rfl rfl, List.forall_mem_cons.mpr ⟨pmt7 62 rfl rfl, List.forall_mem_cons.mpr ⟨pmt7 64 rfl rfl, List.forall_mem_cons.mpr ⟨pmt7 66 rfl rfl, fun _ h => absurd h List.not_mem_nil⟩⟩⟩⟩⟩⟩⟩⟩⟩⟩⟩⟩⟩⟩⟩⟩⟩⟩⟩⟩⟩⟩⟩⟩⟩⟩⟩⟩⟩⟩⟩⟩⟩⟩⟩⟩⟩⟩⟩⟩⟩⟩⟩⟩⟩⟩⟩⟩⟩⟩⟩⟩⟩⟩⟩⟩
def pnest : List (String × Nat × MethodName × String) := [(RX0, 39, yX11_copy, "SetsStayTogether"), (RX0, 85, yX11_has, "SetsStayTogether"), (RX0, 98, yX11_numberAt, "SetsStayTogether"), (RX2, 84, yX11_numberAt, "SetsStayTogether"), (RX3, 18, yX11_copy, "SetsStayTogether"), (RX8, 19, yX11_numberAt, "SetsStayTogether"), (RX8, 23, yX11_copy, "SetsStayTogether"), (RX9, 46, yX11_numberAt, "SetsStayTogether"), (RX9, 53, yX11_has, "SetsStayTogether"), (RX10, 54, yX11_copy, "SetsStayTogether"), (RX10, 61, yX11_has, "SetsStayTogether"), (RX10, 81, yX11_numberAt, "SetsStayTogether")]
def pNw (U : State) : Prop := ∀ q ∈ pnest, va_Nw (.methodLinkNest q.1 q.2.1 q.2.2.1 q.2.2.2) U
theorem pNw_warm {s U : State} (hW : s.WarmedH U.vm) (h : pNw s) : pNw U := fun q hq => va_Nw.warmM hW (h q hq)
end
section
/-! THE PURE MACHINE: values are .inl z (an int, by any representative), .inr 0 (an unset local), .inr 1 (null), .inr (k + 2) (object number k of the layout); the memory is a function of object and place. -/
abbrev pV : Type := Int ⊕ Nat
abbrev pM : Type := Nat → Nat → Int
abbrev pR : Type := Option pV × pM
abbrev pX : Type := Nat → List pV → List pV → pM → Option pR
abbrev pY : Type := Nat → List pV → pM → Option pR
abbrev pS : Type := pX → pY → List pV → List pV → pM → Option pR
def iI (z : Int) : Int32 := Int32.ofInt z
def pset (M : pM) (o i : Nat) (v : Int) : pM := fun o' i' => if o' = o ∧ i' = i then v else M o' i'
def pfv (o k : Nat) (M : pM) : pV := match pFk (pK o) k with
  | 0 => .inl (M o k)
  | 1 => .inl (M o k)
  | 2 => .inr (pFr o k + 2)
  | _ => .inr (M o k).toNat
abbrev lt32 (x y : Int) : Prop := iI x < iI y
abbrev le32 (x y : Int) : Prop := iI x ≤ iI y
abbrev eq32 (x y : Int) : Prop := iI x = iI y
def b32 (f : Int32 → Int32 → Int32) (x y : Int) : Int := (f (iI x) (iI y)).toInt
theorem iI_b32 (f : Int32 → Int32 → Int32) (x y : Int) : iI (b32 f x y) = f (iI x) (iI y) := Int32.ofInt_toInt _
def jand : Int → Int → Int := b32 fun x y => x &&& y
def jor : Int → Int → Int := b32 fun x y => x ||| y
def jxor : Int → Int → Int := b32 fun x y => x ^^^ y
def jshl : Int → Int → Int := b32 fun x y => x <<< (y &&& 31)
def jshr : Int → Int → Int := b32 fun x y => x >>> (y &&& 31)
def jushr : Int → Int → Int := b32 fun x y => (x.toUInt32 >>> (y.toUInt32 &&& Int32.toUInt32 31)).toInt32
def jdiv : Int → Int → Int := b32 fun x y => x / y
def jrem : Int → Int → Int := b32 fun x y => x - x / y * y
def jmax (x y : Int) : Int := if lt32 x y then y else x
def jmin (x y : Int) : Int := if lt32 y x then y else x
def jb (x : Int) : Int := (iI x).toInt8.toInt32.toInt
def js (x : Int) : Int := (iI x).toInt16.toInt32.toInt
def jc (x : Int) : Int := ((iI x).toUInt32 % 65536).toInt32.toInt
-- the steps
def s_push (v : pV) (nx : Nat) : pS := fun X _ ls st M => X nx ls (v :: st) M
def s_ild (i nx : Nat) : pS := fun X _ ls st M => match ls.getD i (.inr 0) with
  | .inl x => X nx ls (.inl x :: st) M
  | .inr _ => none
def s_ald (i nx : Nat) : pS := fun X _ ls st M => match ls.getD i (.inr 0) with
  | .inr (k + 2) => X nx ls (.inr (k + 2) :: st) M
  | _ => none
def s_ist (i nx : Nat) : pS := fun X _ ls st M => match st with
  | .inl x :: r => X nx (ls.set i (.inl x)) r M
  | _ => none
def s_ast (i nx : Nat) : pS := fun X _ ls st M => match st with
  | .inr (k + 1) :: r => X nx (ls.set i (.inr (k + 1))) r M
  | _ => none
def s_bin (f : Int → Int → Int) (nx : Nat) : pS := fun X _ ls st M => match st with
  | .inl y :: .inl x :: r => X nx ls (.inl (f x y) :: r) M
  | _ => none
def s_div (f : Int → Int → Int) (nx : Nat) : pS := fun X _ ls st M => match st with
  | .inl y :: .inl x :: r => if eq32 y 0 then none else X nx ls (.inl (f x y) :: r) M
  | _ => none
def s_un (f : Int → Int) (nx : Nat) : pS := fun X _ ls st M => match st with
  | .inl x :: r => X nx ls (.inl (f x) :: r) M
  | _ => none
def s_inc (i : Nat) (c : Int) (nx : Nat) : pS := fun X _ ls st M => match ls.getD i (.inr 0) with
  | .inl x => X nx (ls.set i (.inl (x + c))) st M
  | .inr _ => none
def s_if (P : Int → Prop) (dP : DecidablePred P) (tgt nx : Nat) : pS := fun X _ ls st M => match st with
  | .inl x :: r => @ite _ (P x) (dP x) (X tgt ls r M) (X nx ls r M)
  | _ => none
def s_if2 (P : Int → Int → Prop) (dP : ∀ x y, Decidable (P x y)) (tgt nx : Nat) : pS := fun X _ ls st M => match st with
  | .inl y :: .inl x :: r => @ite _ (P x y) (dP x y) (X tgt ls r M) (X nx ls r M)
  | _ => none
def s_goto (tgt : Nat) : pS := fun X _ ls st M => X tgt ls st M
def s_getf (ci k nx : Nat) : pS := fun X _ ls st M => match st with
  | .inr (o + 2) :: r => bif Nat.beq (pK o) ci then X nx ls (pfv o k M :: r) M else none
  | _ => none
def s_puti (ci k nx : Nat) : pS := fun X _ ls st M => match st with
  | .inl v :: .inr (o + 2) :: r => bif Nat.beq (pK o) ci then X nx ls r (pset M o k v) else none
  | _ => none
def s_putz (ci k nx : Nat) : pS := fun X _ ls st M => match st with
  | .inl v :: .inr (o + 2) :: r => bif Nat.beq (pK o) ci then (if v = 0 ∨ v = 1 then X nx ls r (pset M o k v) else none) else none
  | _ => none
def s_putr (ci k tk nx : Nat) : pS := fun X _ ls st M => match st with
  | .inr (j + 2) :: .inr (o + 2) :: r => bif Nat.beq (pK o) ci && Nat.beq (pK j) tk then X nx ls r (pset M o k (Int.ofNat (j + 2))) else none
  | _ => none
def s_get (kd nx : Nat) : pS := fun X _ ls st M => match st with
  | .inl i :: .inr (o + 2) :: r => bif Nat.beq (pK o) kd then (if 0 ≤ i ∧ i < Int.ofNat (pL o) then X nx ls (.inl (M o i.toNat) :: r) M else none) else none
  | _ => none
def s_set (kd : Nat) (f : Int → Int) (nx : Nat) : pS := fun X _ ls st M => match st with
  | .inl v :: .inl i :: .inr (o + 2) :: r => bif Nat.beq (pK o) kd then (if 0 ≤ i ∧ i < Int.ofNat (pL o) then X nx ls r (pset M o i.toNat (f v)) else none) else none
  | _ => none
def s_setz (nx : Nat) : pS := fun X _ ls st M => match st with
  | .inl v :: .inl i :: .inr (o + 2) :: r => bif Nat.beq (pK o) 102 then (if 0 ≤ i ∧ i < Int.ofNat (pL o) then (if v = 0 ∨ v = 1 then X nx ls r (pset M o i.toNat v) else none) else none) else none
  | _ => none
def s_getq (nx : Nat) : pS := fun X _ ls st M => match st with
  | .inl i :: .inr (o + 2) :: r => bif Nat.beq (pK o) 103 then (if 0 ≤ i ∧ i < Int.ofNat (pL o) then X nx ls (.inr (pFr o i.toNat + 2) :: r) M else none) else none
  | _ => none
def s_len (nx : Nat) : pS := fun X _ ls st M => match st with
  | .inr (o + 2) :: r => bif Nat.ble 100 (pK o) && Nat.ble (pK o) 103 then X nx ls (.inl (Int.ofNat (pL o)) :: r) M else none
  | _ => none
def s_dup (nx : Nat) : pS := fun X _ ls st M => match st with
  | a :: r => X nx ls (a :: a :: r) M
  | _ => none
def s_dup2 (nx : Nat) : pS := fun X _ ls st M => match st with
  | a :: b :: r => X nx ls (a :: b :: a :: b :: r) M
  | _ => none
def s_dupx1 (nx : Nat) : pS := fun X _ ls st M => match st with
  | a :: b :: r => X nx ls (a :: b :: a :: r) M
  | _ => none
def s_pop (nx : Nat) : pS := fun X _ ls st M => match st with
  | _ :: r => X nx ls r M
  | _ => none
def s_ifnull (tgt nx : Nat) : pS := fun X _ ls st M => match st with
  | .inr 1 :: r => X tgt ls r M
  | .inr (_ + 2) :: r => X nx ls r M
  | _ => none
def s_sw (ps : List (Int × Nat)) (d : Nat) : pS := fun X _ ls st M => match st with
  | .inl x :: r => ps.foldr (fun q e => if eq32 x q.1 then X q.2 ls r M else e) (X d ls r M)
  | _ => none
def pbN (o : Option pR) (f : pM → Option pR) : Option pR := match o with
  | some (none, M) => f M
  | _ => none
def pbI (o : Option pR) (f : Int → pM → Option pR) : Option pR := match o with
  | some (some (.inl v), M) => f v M
  | _ => none
def pbR (o : Option pR) (f : Nat → pM → Option pR) : Option pR := match o with
  | some (some (.inr (k + 1)), M) => f k M
  | _ => none
def pbk (kd : Nat) (o : Option pR) (X : pX) (nx : Nat) (ls r : List pV) : Option pR := match kd with
  | 0 => pbN o fun M => X nx ls r M
  | 1 => pbI o fun v M => X nx ls (.inl v :: r) M
  | _ => pbR o fun k M => X nx ls (.inr (k + 1) :: r) M
def s_callS (kd k n nx : Nat) : pS := fun X Y ls st M => bif (Nat.ble n st.length && Nat.ble st.length 8) then pbk kd (Y k (st.take n).reverse M) X nx ls (st.drop n) else none
def s_callV (kd ci k n nx : Nat) : pS := fun X Y ls st M => match st.drop n with
  | .inr (o + 2) :: r => bif (Nat.beq (pK o) ci && Nat.ble st.length 8) then pbk kd (Y k (.inr (o + 2) :: (st.take n).reverse) M) X nx ls r else none
  | _ => none
def s_mm (f : Int → Int → Int) (nx : Nat) : pS := fun X _ ls st M => match st with
  | .inl y :: .inl x :: r => bif Nat.ble r.length 8 then X nx ls (.inl (f x y) :: r) M else none
  | _ => none
def s_iret : pS := fun _ _ _ st M => match st with
  | [.inl v] => some (some (.inl v), M)
  | _ => none
def s_zret : pS := fun _ _ _ st M => match st with
  | [.inl v] => if v = 0 ∨ v = 1 then some (some (.inl v), M) else none
  | _ => none
def s_aret : pS := fun _ _ _ st M => match st with
  | [.inr (k + 1)] => some (some (.inr (k + 1)), M)
  | _ => none
def s_vret : pS := fun _ _ _ st M => match st with
  | [] => some (none, M)
  | _ => none
def s_none : pS := fun _ _ _ _ _ => none
/-! how it stands for the real one -/
def ptv (ad : Nat → Nat) : pV → Value
  | .inl v => .int (iI v)
  | .inr 0 => .null
  | .inr 1 => .null
  | .inr (k + 2) => .ref (ad k)
theorem ptv_cat (ad : Nat → Nat) (v : pV) : (ptv ad v).category = 1 := by
  rcases v with v | _ | _ | k <;> rfl
def pEn (ad : Nat → Nat) (cA : Nat → ClassId) (M : pM) (o : Nat) : Nat × va_E := (ad o,
  if pK o < 100 then .inr (pK o, (List.range (pL o)).map fun k => ptv ad (pfv o k M))
  else if pK o = 103 then .inl (cA o, pL o, .inr (.inr (.inr (.inr fun i => some (ad (pFr o i))))))
  else .inl (cA o, pL o, .inl fun i => iI (M o i)))
def pW (ad : Nat → Nat) (cA : Nat → ClassId) (M : pM) : va_W := (List.range pN).map (pEn ad cA M)
def ptys (cA : Nat → ClassId) : List (ClassId × FieldType) := pArr.map fun o => (cA o, pty o)
theorem pK_lt {o : Nat} (h : pK o ≠ 104) : o < pN := by
  rcases Nat.lt_or_ge o pN with q | q
  · exact q
  · exact absurd (show pK o = 104 by unfold pK; rw [List.getD_eq_getElem?_getD, List.getElem?_eq_none (by rw [pOB_len]; exact q)]; rfl) h
theorem pL_le (o : Nat) : pL o ≤ 100000 := by
  rcases Nat.lt_or_ge o pN with q | q
  · exact (show ∀ o, o < pN → pL o ≤ 100000 by decide +kernel) o q
  · unfold pL; rw [List.getD_eq_getElem?_getD, List.getElem?_eq_none (by rw [pOB_len]; exact q)]; exact Nat.zero_le _
theorem pW_at (ad : Nat → Nat) (cA : Nat → ClassId) (M : pM) {o : Nat} (h : o < pN) : (pW ad cA M)[o]? = some (pEn ad cA M o) := by
  unfold pW; rw [List.getElem?_map, List.getElem?_range h]; rfl
theorem pW_len (ad : Nat → Nat) (cA : Nat → ClassId) (M : pM) : (pW ad cA M).length = pN := by unfold pW; simp
theorem pW_ad {ad : Nat → Nat} {cA : Nat → ClassId} {M : pM} {k : Nat} {q : Nat × va_E} (h : (pW ad cA M)[k]? = some q) : k < pN ∧ q = pEn ad cA M k := by
  have hk : k < pN := by rw [← pW_len ad cA M]; exact (List.getElem?_eq_some_iff.mp h).1
  rw [pW_at ad cA M hk] at h
  exact ⟨hk, (Option.some.inj h).symm⟩
theorem pD_of {ad : Nat → Nat} {cA : Nat → ClassId} {M M' : pM} {A : Nat → Prop} (h : va_D A (pW ad cA M)) : va_D A (pW ad cA M') := by
  refine ⟨fun i j p q hi hj e => ?_, fun k q hk => ?_⟩
  · obtain ⟨li, rfl⟩ := pW_ad hi
    obtain ⟨lj, rfl⟩ := pW_ad hj
    exact h.1 i j _ _ (pW_at ad cA M li) (pW_at ad cA M lj) e
  · obtain ⟨lk, rfl⟩ := pW_ad hk
    exact (h.2 k _ (pW_at ad cA M lk) : A (ad k))
theorem pA_of {ad : Nat → Nat} {cA : Nat → ClassId} {M M' : pM} {sz q : Nat} (h : va_A (pW ad cA M) sz q) : va_A (pW ad cA M') sz q := by
  rcases h with ⟨k, e, h⟩ | h
  · obtain ⟨lk, e2⟩ := pW_ad h
    refine Or.inl ⟨k, (pEn ad cA M' k).2, ?_⟩
    rw [pW_at ad cA M' lk]
    have : q = ad k := congrArg Prod.fst e2
    rw [this]; rfl
  · exact Or.inr h
theorem pEn_same {ad : Nat → Nat} {cA : Nat → ClassId} {M M' : pM} {o : Nat} (h : ∀ i, M' o i = M o i) : pEn ad cA M' o = pEn ad cA M o := by
  have h1 : (fun i => iI (M' o i)) = fun i => iI (M o i) := funext fun i => by rw [h i]
  have h2 : (fun k => ptv ad (pfv o k M')) = fun k => ptv ad (pfv o k M) := funext fun k => by unfold pfv; rw [h k]
  unfold pEn; rw [h1, h2]
/-- the memory changes at one object: the world changes at its place -/
theorem pW_set {ad : Nat → Nat} {cA : Nat → ClassId} {M M' : pM} {o : Nat} (hM : ∀ o' i, o' ≠ o → M' o' i = M o' i) {e : Nat × va_E} (he : pEn ad cA M' o = e) : (pW ad cA M).set o e = pW ad cA M' := by
  subst he
  apply List.ext_getElem?
  intro k
  rw [List.getElem?_set, pW_len]
  split
  · rename_i h
    subst h
    split
    · rename_i h2; rw [pW_at ad cA M' h2]
    · rename_i h2; exact (List.getElem?_eq_none (by rw [pW_len]; exact Nat.le_of_not_lt h2)).symm
  · rename_i h
    rcases Nat.lt_or_ge k pN with q | q
    · rw [pW_at ad cA M q, pW_at ad cA M' q, pEn_same (fun i => hM k i (fun e => h e.symm))]
    · rw [List.getElem?_eq_none (by rw [pW_len]; exact q), List.getElem?_eq_none (by rw [pW_len]; exact q)]
theorem pset_ne {M : pM} {o i : Nat} {v : Int} {o' i' : Nat} (h : o' ≠ o) : pset M o i v o' i' = M o' i' := by
  unfold pset; rw [if_neg (fun q => h q.1)]
theorem pset_ne2 {M : pM} {o i : Nat} {v : Int} {i' : Nat} (h : i' ≠ i) : pset M o i v o i' = M o i' := by
  unfold pset; rw [if_neg (fun q => h q.2)]
theorem pset_eq {M : pM} {o i : Nat} {v : Int} : pset M o i v o i = v := by
  unfold pset; rw [if_pos ⟨rfl, rfl⟩]
def nfld (c : Nat) : Nat := (pFKL.getD c []).length
theorem pL_fld {o : Nat} (h : pK o < 100) : pL o = nfld (pK o) := (show ∀ o, o < pN → pK o < 100 → pL o = nfld (pK o) by decide +kernel) o (pK_lt (by omega)) h
def pLs (ad : Nat → Nat) (nL : Nat) (ls : List pV) (arr : Array Slot) : Prop := ls.length = nL ∧ arr.size = nL ∧ lv_wf arr ∧ ∀ (i : Nat) (v : pV), ls[i]? = some v → v ≠ .inr 0 → arr[i]? = some (.val (ptv ad v))
def pprs (ad : Nat → Nat) (ls : List pV) : List (Nat × Value) := (List.range ls.length).filterMap fun i => match ls[i]? with
  | some (Sum.inr 0) => none
  | some v => some (i, ptv ad v)
  | none => none
theorem pprs_mem {ad : Nat → Nat} {ls : List pV} {q : Nat × Value} : q ∈ pprs ad ls ↔ ∃ v, ls[q.1]? = some v ∧ v ≠ .inr 0 ∧ q.2 = ptv ad v := by
  unfold pprs
  rw [List.mem_filterMap]
  constructor
  · rintro ⟨i, hi, h⟩
    cases hv : ls[i]? with
    | none => rw [hv] at h; cases h
    | some v =>
      rw [hv] at h
      rcases v with v | _ | k
      · cases h; exact ⟨_, hv, fun e => (by cases e), rfl⟩
      · cases h
      · cases h; exact ⟨_, hv, fun e => (by cases e), rfl⟩
  · rintro ⟨v, hv, hne, e⟩
    refine ⟨q.1, List.mem_range.mpr (List.getElem?_eq_some_iff.mp hv).1, ?_⟩
    rw [hv]
    rcases v with v | _ | k
    · exact congrArg some (Prod.ext rfl e.symm)
    · exact absurd rfl hne
    · exact congrArg some (Prod.ext rfl e.symm)
theorem pLs_has {ad : Nat → Nat} {nL : Nat} {ls : List pV} {arr : Array Slot} (h : pLs ad nL ls arr) : lv_has arr nL (pprs ad ls) := by
  refine ⟨h.2.1, h.2.2.1, fun q hq => ?_⟩
  obtain ⟨v, h1, h2, h3⟩ := pprs_mem.mp hq
  rw [h3]
  exact h.2.2.2 _ v h1 h2
theorem pLs_st {ad : Nat → Nat} {nL i : Nat} {ls : List pV} {arr arr' : Array Slot} {v : pV} {x : Value} (h : pLs ad nL ls arr) (hx : ptv ad v = x) (h2 : lv_has arr' nL ((i, x) :: (pprs ad ls).filter (fun q => !(q.1 == i) && !(q.1 + 1 == i && q.2.category == 2)))) : pLs ad nL (ls.set i v) arr' := by
  refine ⟨by rw [List.length_set]; exact h.1, h2.1, h2.2.1, fun j u hj hu => ?_⟩
  rw [List.getElem?_set] at hj
  split at hj
  · rename_i e
    subst e
    split at hj
    · cases hj
      have := h2.2.2 (i, x) List.mem_cons_self
      rw [hx]; exact this
    · cases hj
  · rename_i e
    have := h2.2.2 (j, ptv ad u) (List.mem_cons_of_mem _ (List.mem_filter.mpr ⟨pprs_mem.mpr ⟨u, hj, hu, rfl⟩, by
      have e2 : (j == i) = false := by simpa using fun e3 => e e3.symm
      simp [e2, ptv_cat]⟩))
    exact this
theorem pLs_at {ad : Nat → Nat} {nL i : Nat} {ls : List pV} {arr : Array Slot} {v : pV} (h : pLs ad nL ls arr) (hv : ls.getD i (.inr 0) = v) (hne : v ≠ .inr 0) : arr[i]? = some (.val (ptv ad v)) ∧ ls[i]? = some v := by
  have h1 : ls[i]? = some v := by
    rw [List.getD_eq_getElem?_getD] at hv
    cases e : ls[i]? with
    | none => rw [e] at hv; exact absurd hv.symm hne
    | some u => rw [e] at hv; exact congrArg some hv
  exact ⟨h.2.2.2 i v h1 hne, h1⟩
theorem iI_in {i : Int} {n : Nat} (h0 : 0 ≤ i) (h1 : i < Int.ofNat n) (hn : n ≤ 100000) : vp_in (iI i) n ∧ (iI i).toNatClampNeg = i.toNat := by
  have h1 : i < (n : Int) := h1
  have e : (iI i).toInt = i := Int32.toInt_ofInt_of_le (by omega) (by omega)
  refine ⟨vp_in_iff.mpr (by rw [e]; exact ⟨h0, h1⟩), ?_⟩
  show (iI i).toInt.toNat = i.toNat
  rw [e]

/-- what holds in a frame of a method of the system -/
def pCx (p : Program) (R : Room) (s : State) (m : MethodId) (args : Array Value) (meth : Method) (c : Code) (G : va_G) (cA : Nat → ClassId) (own : String) (cc : ByteArray) (nL kc ks : Nat) : Prop :=
  p.tables.exec = Jvm.exec ∧ c.code = cc ∧ c.maxLocals = nL ∧ s.vm.findClass own = some m.cls ∧ (∀ w ∈ pws, w.before args s = true) ∧ pNw s ∧ va_K G pcl (ptys cA) s ∧ kc ≤ R.cells ∧ ks ≤ R.slots ∧ 1 ≤ R.frames ∧ 30 ≤ R.locals
def pWd (G : va_G) (ad : Nat → Nat) (cA : Nat → ClassId) (A : Nat → Prop) (H0 : Heap) (M : pM) (H : Heap) (locs : List Loc) : Prop := va_P G pcl (pW ad cA M) H ∧ va_D A (pW ad cA M) ∧ va_S A H0 H locs
/-- a goal family: the frame, at each place of the method, comes to its end as X says -/
def pGd (p : Program) (l : Launch) (e : Env) (R : Room) (s : State) (m : MethodId) (args : Array Value) (below : List Frame) (meth : Method) (c : Code) (G : va_G) (ad : Nat → Nat) (cA : Nat → ClassId) (A : Nat → Prop) (H0 : Heap) (kc ks : Nat) (Q : pR → State → Prop) (nL : Nat) (pcs : Nat → Nat) (X : pX) : Prop :=
  ∀ i ls st M r, X i ls st M = some r → ∀ H locs arr, pWd G ad cA A H0 M H locs → pLs ad nL ls arr → W p l e R s m args below meth c H locs kc ks (Q r) (F0 m (pcs i) arr (st.map (ptv ad)))
def pPre (G : va_G) (ad : Nat → Nat) (cA : Nat → ClassId) (M : pM) (sz : Nat) (U : State) : Prop := U.heap.size = sz ∧ va_P G pcl (pW ad cA M) U.heap ∧ va_K G pcl (ptys cA) U ∧ va_D (fun _ => True) (pW ad cA M) ∧ pNw U
def pQ (G : va_G) (ad : Nat → Nat) (cA : Nat → ClassId) (A : Nat → Prop) (r : pR) : Array Value → State → Outcome → State → Prop := fun _ st o t => o = .returned (r.1.map (ptv ad)) ∧ va_P G pcl (pW ad cA r.2) t.heap ∧ va_F A st t
/-- the contracts that the calls of a frame with room R may use -/
def pMt (l : Launch) (G : va_G) (ad : Nat → Nat) (cA : Nat → ClassId) (yn : Nat → MethodName) (wk : Nat → List Cond) (R : Room) (Y : pY) : Prop :=
  ∀ k a M r, Y k a M = some r → ∃ rm : Room, rm.cells = 0 ∧ rm.slots = 0 ∧ rm.frames + 1 ≤ R.frames ∧ 80 + rm.locals ≤ R.locals ∧ ∀ sz, Met l (yn k) (wk k) rm (va_Pc (a.map (ptv ad)) (pPre G ad cA M sz)) (pQ G ad cA (va_A (pW ad cA M) sz) r) 0 0 (va_A (pW ad cA M) sz)
/-- how a method of that return type ends -/
def pRt (p : Program) (l : Launch) (e : Env) (R : Room) (s : State) (m : MethodId) (args : Array Value) (below : List Frame) (meth : Method) (c : Code) (G : va_G) (ad : Nat → Nat) (cA : Nat → ClassId) (A : Nat → Prop) (H0 : Heap) (kc ks : Nat) (Q : pR → State → Prop) (cc : ByteArray) (ret : Option FieldType) : Prop :=
  (ret = some .int → ∀ v M H locs arr pc, decode cc pc = .ok (.ireturn, 1) → pWd G ad cA A H0 M H locs → W p l e R s m args below meth c H locs kc ks (Q (some (.inl v), M)) (F0 m pc arr [ptv ad (.inl v)]))
  ∧ (ret = some .boolean → ∀ v M H locs arr pc, (v = 0 ∨ v = 1) → decode cc pc = .ok (.ireturn, 1) → pWd G ad cA A H0 M H locs → W p l e R s m args below meth c H locs kc ks (Q (some (.inl v), M)) (F0 m pc arr [ptv ad (.inl v)]))
  ∧ (ret = none → ∀ M H locs arr pc, decode cc pc = .ok (.return_, 1) → pWd G ad cA A H0 M H locs → W p l e R s m args below meth c H locs kc ks (Q (none, M)) (F0 m pc arr []))
  ∧ ((∃ n, ret = some (.object n)) → ∀ k M H locs arr pc, decode cc pc = .ok (.areturn, 1) → pWd G ad cA A H0 M H locs → W p l e R s m args below meth c H locs kc ks (Q (some (.inr (k + 1)), M)) (F0 m pc arr [ptv ad (.inr (k + 1))]))
/-- a step is sound at a place of a method -/
def pSnd (yn : Nat → MethodName) (wk : Nat → List Cond) (own : String) (cc : ByteArray) (nL : Nat) (ret : Option FieldType) (pcs : Nat → Nat) (bpc : Nat) (f : pS) : Prop :=
  ∀ (p : Program) (l : Launch) (e : Env) (R : Room) (s : State) (m : MethodId) (args : Array Value) (below : List Frame) (meth : Method) (c : Code) (G : va_G) (ad : Nat → Nat) (cA : Nat → ClassId) (A : Nat → Prop) (H0 : Heap) (kc ks : Nat) (Q : pR → State → Prop),
  pCx p R s m args meth c G cA own cc nL kc ks → (∀ q : Nat, H0.size ≤ q → A q) → pRt p l e R s m args below meth c G ad cA A H0 kc ks Q cc ret →
  ∀ (X : pX) (Y : pY), pGd p l e R s m args below meth c G ad cA A H0 kc ks Q nL pcs X → pMt l G ad cA yn wk R Y →
  ∀ ls st M r, f X Y ls st M = some r → ∀ H locs arr, pWd G ad cA A H0 M H locs → pLs ad nL ls arr → W p l e R s m args below meth c H locs kc ks (Q r) (F0 m bpc arr (st.map (ptv ad)))
section SND
variable {yn : Nat → MethodName} {wk : Nat → List Cond} {own : String} {cc : ByteArray} {nL : Nat} {ret : Option FieldType} {pcs : Nat → Nat} {bpc : Nat}

theorem sn_iconst {n : Int} {nx : Nat} (hd : decode cc bpc = .ok (.iconst n, 1)) (hn : pcs nx = bpc + 1) : pSnd yn wk own cc nL ret pcs bpc (s_push (.inl n) nx) := by
  intro p l e R s m args below meth c G ad cA A H0 kc ks Q ⟨hx, hb, hml, hown, hts, hnw, hK, hkc, hks, hfr, hlo⟩ hA hR X Y hX hY ls st M r h H locs arr hW hl
  refine lv_iconst (v := iI n) hx hb hd rfl ?_
  rw [← hn]
  exact hX _ _ _ _ _ h _ _ _ hW hl
theorem sn_bipush {n : Int} {nx : Nat} (hd : decode cc bpc = .ok (.bipush n, 2)) (hv : (Int8.ofInt n).toInt32 = iI n) (hn : pcs nx = bpc + 2) : pSnd yn wk own cc nL ret pcs bpc (s_push (.inl n) nx) := by
  intro p l e R s m args below meth c G ad cA A H0 kc ks Q ⟨hx, hb, hml, hown, hts, hnw, hK, hkc, hks, hfr, hlo⟩ hA hR X Y hX hY ls st M r h H locs arr hW hl
  refine lv_bipush (v := iI n) hx hb hd hv ?_
  rw [← hn]
  exact hX _ _ _ _ _ h _ _ _ hW hl
theorem sn_sipush {n : Int} {nx : Nat} (hd : decode cc bpc = .ok (.sipush n, 3)) (hv : (Int16.ofInt n).toInt32 = iI n) (hn : pcs nx = bpc + 3) : pSnd yn wk own cc nL ret pcs bpc (s_push (.inl n) nx) := by
  intro p l e R s m args below meth c G ad cA A H0 kc ks Q ⟨hx, hb, hml, hown, hts, hnw, hK, hkc, hks, hfr, hlo⟩ hA hR X Y hX hY ls st M r h H locs arr hW hl
  refine lv_sipush (v := iI n) hx hb hd hv ?_
  rw [← hn]
  exact hX _ _ _ _ _ h _ _ _ hW hl
theorem sn_ldc {n : Int} {nx idx : Nat} (hd : decode cc bpc = .ok (.ldc idx, 2)) (hc : Cond.constant own idx (iI n) ∈ pws) (hn : pcs nx = bpc + 2) : pSnd yn wk own cc nL ret pcs bpc (s_push (.inl n) nx) := by
  intro p l e R s m args below meth c G ad cA A H0 kc ks Q ⟨hx, hb, hml, hown, hts, hnw, hK, hkc, hks, hfr, hlo⟩ hA hR X Y hX hY ls st M r h H locs arr hW hl
  refine lv_ldc (v := iI n) hx hb hown (hts _ hc) hd ?_
  rw [← hn]
  exact hX _ _ _ _ _ h _ _ _ hW hl
theorem sn_ldcw {n : Int} {nx idx : Nat} (hd : decode cc bpc = .ok (.ldc_w idx, 3)) (hc : Cond.constant own idx (iI n) ∈ pws) (hn : pcs nx = bpc + 3) : pSnd yn wk own cc nL ret pcs bpc (s_push (.inl n) nx) := by
  intro p l e R s m args below meth c G ad cA A H0 kc ks Q ⟨hx, hb, hml, hown, hts, hnw, hK, hkc, hks, hfr, hlo⟩ hA hR X Y hX hY ls st M r h H locs arr hW hl
  refine lv_ldcw (v := iI n) hx hb hown (hts _ hc) hd ?_
  rw [← hn]
  exact hX _ _ _ _ _ h _ _ _ hW hl
theorem sn_null {nx : Nat} (hd : decode cc bpc = .ok (.aconst_null, 1)) (hn : pcs nx = bpc + 1) : pSnd yn wk own cc nL ret pcs bpc (s_push (.inr 1) nx) := by
  intro p l e R s m args below meth c G ad cA A H0 kc ks Q ⟨hx, hb, hml, hown, hts, hnw, hK, hkc, hks, hfr, hlo⟩ hA hR X Y hX hY ls st M r h H locs arr hW hl
  refine lv_null hx hb hd ?_
  rw [← hn]
  exact hX _ _ _ _ _ h _ _ _ hW hl
theorem sn_iload {i nx : Nat} (hd : decode cc bpc = .ok (.iload i, 2)) (hn : pcs nx = bpc + 2) : pSnd yn wk own cc nL ret pcs bpc (s_ild i nx) := by
  intro p l e R s m args below meth c G ad cA A H0 kc ks Q ⟨hx, hb, hml, hown, hts, hnw, hK, hkc, hks, hfr, hlo⟩ hA hR X Y hX hY ls st M r h H locs arr hW hl
  unfold s_ild at h
  cases hv : ls.getD i (.inr 0) with
  | inr k => rw [hv] at h; cases h
  | inl x =>
    rw [hv] at h
    refine lv_iload hx hb hd (pLs_at hl hv (fun q => by cases q)).1 ?_
    rw [← hn]
    exact hX _ _ _ _ _ h _ _ _ hW hl
theorem sn_iload_n {i nx : Nat} {k : Fin 4} (hd : decode cc bpc = .ok (.iload_n k, 1)) (hk : (k : Nat) = i) (hn : pcs nx = bpc + 1) : pSnd yn wk own cc nL ret pcs bpc (s_ild i nx) := by
  intro p l e R s m args below meth c G ad cA A H0 kc ks Q ⟨hx, hb, hml, hown, hts, hnw, hK, hkc, hks, hfr, hlo⟩ hA hR X Y hX hY ls st M r h H locs arr hW hl
  unfold s_ild at h
  cases hv : ls.getD i (.inr 0) with
  | inr k => rw [hv] at h; cases h
  | inl x =>
    rw [hv] at h
    refine lv_iload_n hx hb hd hk (pLs_at hl hv (fun q => by cases q)).1 ?_
    rw [← hn]
    exact hX _ _ _ _ _ h _ _ _ hW hl
theorem sn_aload {i nx : Nat} (hd : decode cc bpc = .ok (.aload i, 2)) (hn : pcs nx = bpc + 2) : pSnd yn wk own cc nL ret pcs bpc (s_ald i nx) := by
  intro p l e R s m args below meth c G ad cA A H0 kc ks Q ⟨hx, hb, hml, hown, hts, hnw, hK, hkc, hks, hfr, hlo⟩ hA hR X Y hX hY ls st M r h H locs arr hW hl
  unfold s_ald at h
  rcases hv : ls.getD i (.inr 0) with x | _ | _ | k
  · rw [hv] at h; cases h
  · rw [hv] at h; cases h
  · rw [hv] at h; cases h
  · rw [hv] at h
    refine lv_aload hx hb hd (x := ad k) (pLs_at hl hv (fun q => by cases q)).1 ?_
    rw [← hn]
    exact hX _ _ _ _ _ h _ _ _ hW hl
theorem sn_aload_n {i nx : Nat} {k : Fin 4} (hd : decode cc bpc = .ok (.aload_n k, 1)) (hk : (k : Nat) = i) (hn : pcs nx = bpc + 1) : pSnd yn wk own cc nL ret pcs bpc (s_ald i nx) := by
  intro p l e R s m args below meth c G ad cA A H0 kc ks Q ⟨hx, hb, hml, hown, hts, hnw, hK, hkc, hks, hfr, hlo⟩ hA hR X Y hX hY ls st M r h H locs arr hW hl
  unfold s_ald at h
  rcases hv : ls.getD i (.inr 0) with x | _ | _ | k
  · rw [hv] at h; cases h
  · rw [hv] at h; cases h
  · rw [hv] at h; cases h
  · rw [hv] at h
    refine lv_aload_n hx hb hd hk (x := ad k) (pLs_at hl hv (fun q => by cases q)).1 ?_
    rw [← hn]
    exact hX _ _ _ _ _ h _ _ _ hW hl
theorem sn_istore {i nx : Nat} (hd : decode cc bpc = .ok (.istore i, 2)) (hi : i < nL) (hn : pcs nx = bpc + 2) : pSnd yn wk own cc nL ret pcs bpc (s_ist i nx) := by
  intro p l e R s m args below meth c G ad cA A H0 kc ks Q ⟨hx, hb, hml, hown, hts, hnw, hK, hkc, hks, hfr, hlo⟩ hA hR X Y hX hY ls st M r h H locs arr hW hl
  unfold s_ist at h
  rcases st with _ | ⟨x | x, rest⟩
  · cases h
  · refine lv_istore hx hb hd (pLs_has hl) hi rfl (fun ls' hl' => ?_)
    rw [← hn]
    exact hX _ _ _ _ _ h _ _ _ hW (pLs_st (v := .inl x) hl rfl hl')
  · cases h
theorem sn_istore_n {i nx : Nat} {k : Fin 4} (hd : decode cc bpc = .ok (.istore_n k, 1)) (hk : (k : Nat) = i) (hi : i < nL) (hn : pcs nx = bpc + 1) : pSnd yn wk own cc nL ret pcs bpc (s_ist i nx) := by
  intro p l e R s m args below meth c G ad cA A H0 kc ks Q ⟨hx, hb, hml, hown, hts, hnw, hK, hkc, hks, hfr, hlo⟩ hA hR X Y hX hY ls st M r h H locs arr hW hl
  unfold s_ist at h
  rcases st with _ | ⟨x | x, rest⟩
  · cases h
  · refine lv_istore_n hx hb hd hk (pLs_has hl) hi rfl (fun ls' hl' => ?_)
    rw [← hn]
    exact hX _ _ _ _ _ h _ _ _ hW (pLs_st (v := .inl x) hl rfl hl')
  · cases h
theorem sn_astore {i nx : Nat} (hd : decode cc bpc = .ok (.astore i, 2)) (hi : i < nL) (hn : pcs nx = bpc + 2) : pSnd yn wk own cc nL ret pcs bpc (s_ast i nx) := by
  intro p l e R s m args below meth c G ad cA A H0 kc ks Q ⟨hx, hb, hml, hown, hts, hnw, hK, hkc, hks, hfr, hlo⟩ hA hR X Y hX hY ls st M r h H locs arr hW hl
  unfold s_ast at h
  rcases st with _ | ⟨x | _ | _ | k9, rest⟩
  · cases h
  · cases h
  · cases h
  · refine lv_astoreN hx hb hd (pLs_has hl) hi rfl (fun ls' hl' => ?_)
    rw [← hn]
    exact hX _ _ _ _ _ h _ _ _ hW (pLs_st (v := .inr 1) hl rfl hl')
  · refine lv_astore hx hb hd (x := ad k9) (pLs_has hl) hi rfl (fun ls' hl' => ?_)
    rw [← hn]
    exact hX _ _ _ _ _ h _ _ _ hW (pLs_st (v := .inr (k9 + 2)) hl rfl hl')
theorem sn_astore_n {i nx : Nat} {k : Fin 4} (hd : decode cc bpc = .ok (.astore_n k, 1)) (hk : (k : Nat) = i) (hi : i < nL) (hn : pcs nx = bpc + 1) : pSnd yn wk own cc nL ret pcs bpc (s_ast i nx) := by
  intro p l e R s m args below meth c G ad cA A H0 kc ks Q ⟨hx, hb, hml, hown, hts, hnw, hK, hkc, hks, hfr, hlo⟩ hA hR X Y hX hY ls st M r h H locs arr hW hl
  unfold s_ast at h
  rcases st with _ | ⟨x | _ | _ | k9, rest⟩
  · cases h
  · cases h
  · cases h
  · refine lv_astore_nN hx hb hd hk (pLs_has hl) hi rfl (fun ls' hl' => ?_)
    rw [← hn]
    exact hX _ _ _ _ _ h _ _ _ hW (pLs_st (v := .inr 1) hl rfl hl')
  · refine lv_astore_n hx hb hd hk (x := ad k9) (pLs_has hl) hi rfl (fun ls' hl' => ?_)
    rw [← hn]
    exact hX _ _ _ _ _ h _ _ _ hW (pLs_st (v := .inr (k9 + 2)) hl rfl hl')
theorem sn_iadd {nx : Nat} (hd : decode cc bpc = .ok (.iadd, 1)) (hn : pcs nx = bpc + 1) : pSnd yn wk own cc nL ret pcs bpc (s_bin (fun x y => x + y) nx) := by
  intro p l e R s m args below meth c G ad cA A H0 kc ks Q ⟨hx, hb, hml, hown, hts, hnw, hK, hkc, hks, hfr, hlo⟩ hA hR X Y hX hY ls st M r h H locs arr hW hl
  unfold s_bin at h
  rcases st with _ | ⟨y | y, _ | ⟨x | x, rest⟩⟩
  · cases h
  · cases h
  · refine lv_iadd hx hb hd ?_
    rw [← hn]
    have e9 := hX _ _ _ _ _ h _ _ _ hW hl
    rw [List.map_cons, show ptv ad (.inl ((fun x y => x + y) x y)) = Value.int _ from congrArg Value.int (Int32.ofInt_add x y)] at e9
    exact e9
  all_goals cases h
theorem sn_isub {nx : Nat} (hd : decode cc bpc = .ok (.isub, 1)) (hn : pcs nx = bpc + 1) : pSnd yn wk own cc nL ret pcs bpc (s_bin (fun x y => x - y) nx) := by
  intro p l e R s m args below meth c G ad cA A H0 kc ks Q ⟨hx, hb, hml, hown, hts, hnw, hK, hkc, hks, hfr, hlo⟩ hA hR X Y hX hY ls st M r h H locs arr hW hl
  unfold s_bin at h
  rcases st with _ | ⟨y | y, _ | ⟨x | x, rest⟩⟩
  · cases h
  · cases h
  · refine lv_isub hx hb hd ?_
    rw [← hn]
    have e9 := hX _ _ _ _ _ h _ _ _ hW hl
    rw [List.map_cons, show ptv ad (.inl ((fun x y => x - y) x y)) = Value.int _ from congrArg Value.int (Int32.ofInt_sub x y)] at e9
    exact e9
  all_goals cases h
theorem sn_imul {nx : Nat} (hd : decode cc bpc = .ok (.imul, 1)) (hn : pcs nx = bpc + 1) : pSnd yn wk own cc nL ret pcs bpc (s_bin (fun x y => x * y) nx) := by
  intro p l e R s m args below meth c G ad cA A H0 kc ks Q ⟨hx, hb, hml, hown, hts, hnw, hK, hkc, hks, hfr, hlo⟩ hA hR X Y hX hY ls st M r h H locs arr hW hl
  unfold s_bin at h
  rcases st with _ | ⟨y | y, _ | ⟨x | x, rest⟩⟩
  · cases h
  · cases h
  · refine lv_imul hx hb hd ?_
    rw [← hn]
    have e9 := hX _ _ _ _ _ h _ _ _ hW hl
    rw [List.map_cons, show ptv ad (.inl ((fun x y => x * y) x y)) = Value.int _ from congrArg Value.int (Int32.ofInt_mul x y)] at e9
    exact e9
  all_goals cases h
theorem sn_iand {nx : Nat} (hd : decode cc bpc = .ok (.iand, 1)) (hn : pcs nx = bpc + 1) : pSnd yn wk own cc nL ret pcs bpc (s_bin jand nx) := by
  intro p l e R s m args below meth c G ad cA A H0 kc ks Q ⟨hx, hb, hml, hown, hts, hnw, hK, hkc, hks, hfr, hlo⟩ hA hR X Y hX hY ls st M r h H locs arr hW hl
  unfold s_bin at h
  rcases st with _ | ⟨y | y, _ | ⟨x | x, rest⟩⟩
  · cases h
  · cases h
  · refine lv_iand hx hb hd ?_
    rw [← hn]
    have e9 := hX _ _ _ _ _ h _ _ _ hW hl
    rw [List.map_cons, show ptv ad (.inl (jand x y)) = Value.int _ from congrArg Value.int (iI_b32 _ x y)] at e9
    exact e9
  all_goals cases h
theorem sn_ior {nx : Nat} (hd : decode cc bpc = .ok (.ior, 1)) (hn : pcs nx = bpc + 1) : pSnd yn wk own cc nL ret pcs bpc (s_bin jor nx) := by
  intro p l e R s m args below meth c G ad cA A H0 kc ks Q ⟨hx, hb, hml, hown, hts, hnw, hK, hkc, hks, hfr, hlo⟩ hA hR X Y hX hY ls st M r h H locs arr hW hl
  unfold s_bin at h
  rcases st with _ | ⟨y | y, _ | ⟨x | x, rest⟩⟩
  · cases h
  · cases h
  · refine lv_ior hx hb hd ?_
    rw [← hn]
    have e9 := hX _ _ _ _ _ h _ _ _ hW hl
    rw [List.map_cons, show ptv ad (.inl (jor x y)) = Value.int _ from congrArg Value.int (iI_b32 _ x y)] at e9
    exact e9
  all_goals cases h
theorem sn_ixor {nx : Nat} (hd : decode cc bpc = .ok (.ixor, 1)) (hn : pcs nx = bpc + 1) : pSnd yn wk own cc nL ret pcs bpc (s_bin jxor nx) := by
  intro p l e R s m args below meth c G ad cA A H0 kc ks Q ⟨hx, hb, hml, hown, hts, hnw, hK, hkc, hks, hfr, hlo⟩ hA hR X Y hX hY ls st M r h H locs arr hW hl
  unfold s_bin at h
  rcases st with _ | ⟨y | y, _ | ⟨x | x, rest⟩⟩
  · cases h
  · cases h
  · refine lv_ixor hx hb hd ?_
    rw [← hn]
    have e9 := hX _ _ _ _ _ h _ _ _ hW hl
    rw [List.map_cons, show ptv ad (.inl (jxor x y)) = Value.int _ from congrArg Value.int (iI_b32 _ x y)] at e9
    exact e9
  all_goals cases h
theorem sn_ishl {nx : Nat} (hd : decode cc bpc = .ok (.ishl, 1)) (hn : pcs nx = bpc + 1) : pSnd yn wk own cc nL ret pcs bpc (s_bin jshl nx) := by
  intro p l e R s m args below meth c G ad cA A H0 kc ks Q ⟨hx, hb, hml, hown, hts, hnw, hK, hkc, hks, hfr, hlo⟩ hA hR X Y hX hY ls st M r h H locs arr hW hl
  unfold s_bin at h
  rcases st with _ | ⟨y | y, _ | ⟨x | x, rest⟩⟩
  · cases h
  · cases h
  · refine lv_ishl hx hb hd ?_
    rw [← hn]
    have e9 := hX _ _ _ _ _ h _ _ _ hW hl
    rw [List.map_cons, show ptv ad (.inl (jshl x y)) = Value.int _ from congrArg Value.int (iI_b32 _ x y)] at e9
    exact e9
  all_goals cases h
theorem sn_ishr {nx : Nat} (hd : decode cc bpc = .ok (.ishr, 1)) (hn : pcs nx = bpc + 1) : pSnd yn wk own cc nL ret pcs bpc (s_bin jshr nx) := by
  intro p l e R s m args below meth c G ad cA A H0 kc ks Q ⟨hx, hb, hml, hown, hts, hnw, hK, hkc, hks, hfr, hlo⟩ hA hR X Y hX hY ls st M r h H locs arr hW hl
  unfold s_bin at h
  rcases st with _ | ⟨y | y, _ | ⟨x | x, rest⟩⟩
  · cases h
  · cases h
  · refine lv_ishr hx hb hd ?_
    rw [← hn]
    have e9 := hX _ _ _ _ _ h _ _ _ hW hl
    rw [List.map_cons, show ptv ad (.inl (jshr x y)) = Value.int _ from congrArg Value.int (iI_b32 _ x y)] at e9
    exact e9
  all_goals cases h
theorem sn_iushr {nx : Nat} (hd : decode cc bpc = .ok (.iushr, 1)) (hn : pcs nx = bpc + 1) : pSnd yn wk own cc nL ret pcs bpc (s_bin jushr nx) := by
  intro p l e R s m args below meth c G ad cA A H0 kc ks Q ⟨hx, hb, hml, hown, hts, hnw, hK, hkc, hks, hfr, hlo⟩ hA hR X Y hX hY ls st M r h H locs arr hW hl
  unfold s_bin at h
  rcases st with _ | ⟨y | y, _ | ⟨x | x, rest⟩⟩
  · cases h
  · cases h
  · refine lv_iushr hx hb hd rfl ?_
    rw [← hn]
    have e9 := hX _ _ _ _ _ h _ _ _ hW hl
    rw [List.map_cons, show ptv ad (.inl (jushr x y)) = Value.int _ from congrArg Value.int (iI_b32 _ x y)] at e9
    exact e9
  all_goals cases h
theorem sn_idiv {nx : Nat} (hd : decode cc bpc = .ok (.idiv, 1)) (hn : pcs nx = bpc + 1) : pSnd yn wk own cc nL ret pcs bpc (s_div jdiv nx) := by
  intro p l e R s m args below meth c G ad cA A H0 kc ks Q ⟨hx, hb, hml, hown, hts, hnw, hK, hkc, hks, hfr, hlo⟩ hA hR X Y hX hY ls st M r h H locs arr hW hl
  unfold s_div at h
  rcases st with _ | ⟨y | y, _ | ⟨x | x, rest⟩⟩
  · cases h
  · cases h
  · dsimp only at h
    split at h
    · cases h
    · rename_i hne
      refine lv_idiv hx hb hd (fun q => hne q) ?_
      rw [← hn]
      have e9 := hX _ _ _ _ _ h _ _ _ hW hl
      rw [List.map_cons, show ptv ad (.inl (jdiv x y)) = Value.int _ from congrArg Value.int (iI_b32 _ x y)] at e9
      exact e9
  all_goals cases h
theorem sn_irem {nx : Nat} (hd : decode cc bpc = .ok (.irem, 1)) (hn : pcs nx = bpc + 1) : pSnd yn wk own cc nL ret pcs bpc (s_div jrem nx) := by
  intro p l e R s m args below meth c G ad cA A H0 kc ks Q ⟨hx, hb, hml, hown, hts, hnw, hK, hkc, hks, hfr, hlo⟩ hA hR X Y hX hY ls st M r h H locs arr hW hl
  unfold s_div at h
  rcases st with _ | ⟨y | y, _ | ⟨x | x, rest⟩⟩
  · cases h
  · cases h
  · dsimp only at h
    split at h
    · cases h
    · rename_i hne
      refine lv_irem hx hb hd (fun q => hne q) ?_
      rw [← hn]
      have e9 := hX _ _ _ _ _ h _ _ _ hW hl
      rw [List.map_cons, show ptv ad (.inl (jrem x y)) = Value.int _ from congrArg Value.int (iI_b32 _ x y)] at e9
      exact e9
  all_goals cases h
theorem sn_ineg {nx : Nat} (hd : decode cc bpc = .ok (.ineg, 1)) (hn : pcs nx = bpc + 1) : pSnd yn wk own cc nL ret pcs bpc (s_un (fun x => -x) nx) := by
  intro p l e R s m args below meth c G ad cA A H0 kc ks Q ⟨hx, hb, hml, hown, hts, hnw, hK, hkc, hks, hfr, hlo⟩ hA hR X Y hX hY ls st M r h H locs arr hW hl
  unfold s_un at h
  rcases st with _ | ⟨x | x, rest⟩
  · cases h
  · refine lv_ineg hx hb hd ?_
    rw [← hn]
    have e9 := hX _ _ _ _ _ h _ _ _ hW hl
    rw [List.map_cons, show ptv ad (.inl ((fun x => -x) x)) = Value.int _ from congrArg Value.int (Int32.ofInt_neg x)] at e9
    exact e9
  · cases h
theorem sn_i2b {nx : Nat} (hd : decode cc bpc = .ok (.i2b, 1)) (hn : pcs nx = bpc + 1) : pSnd yn wk own cc nL ret pcs bpc (s_un jb nx) := by
  intro p l e R s m args below meth c G ad cA A H0 kc ks Q ⟨hx, hb, hml, hown, hts, hnw, hK, hkc, hks, hfr, hlo⟩ hA hR X Y hX hY ls st M r h H locs arr hW hl
  unfold s_un at h
  rcases st with _ | ⟨x | x, rest⟩
  · cases h
  · refine lv_i2b hx hb hd rfl ?_
    rw [← hn]
    have e9 := hX _ _ _ _ _ h _ _ _ hW hl
    rw [List.map_cons, show ptv ad (.inl (jb x)) = Value.int _ from congrArg Value.int (Int32.ofInt_toInt _)] at e9
    exact e9
  · cases h
theorem sn_i2s {nx : Nat} (hd : decode cc bpc = .ok (.i2s, 1)) (hn : pcs nx = bpc + 1) : pSnd yn wk own cc nL ret pcs bpc (s_un js nx) := by
  intro p l e R s m args below meth c G ad cA A H0 kc ks Q ⟨hx, hb, hml, hown, hts, hnw, hK, hkc, hks, hfr, hlo⟩ hA hR X Y hX hY ls st M r h H locs arr hW hl
  unfold s_un at h
  rcases st with _ | ⟨x | x, rest⟩
  · cases h
  · refine lv_i2s hx hb hd rfl ?_
    rw [← hn]
    have e9 := hX _ _ _ _ _ h _ _ _ hW hl
    rw [List.map_cons, show ptv ad (.inl (js x)) = Value.int _ from congrArg Value.int (Int32.ofInt_toInt _)] at e9
    exact e9
  · cases h
theorem sn_i2c {nx : Nat} (hd : decode cc bpc = .ok (.i2c, 1)) (hn : pcs nx = bpc + 1) : pSnd yn wk own cc nL ret pcs bpc (s_un jc nx) := by
  intro p l e R s m args below meth c G ad cA A H0 kc ks Q ⟨hx, hb, hml, hown, hts, hnw, hK, hkc, hks, hfr, hlo⟩ hA hR X Y hX hY ls st M r h H locs arr hW hl
  unfold s_un at h
  rcases st with _ | ⟨x | x, rest⟩
  · cases h
  · refine lv_i2c hx hb hd rfl ?_
    rw [← hn]
    have e9 := hX _ _ _ _ _ h _ _ _ hW hl
    rw [List.map_cons, show ptv ad (.inl (jc x)) = Value.int _ from congrArg Value.int (Int32.ofInt_toInt _)] at e9
    exact e9
  · cases h
theorem sn_iinc {i nx : Nat} {n : Int} (hd : decode cc bpc = .ok (.iinc i n, 3)) (hi : i < nL) (hn : pcs nx = bpc + 3) : pSnd yn wk own cc nL ret pcs bpc (s_inc i n nx) := by
  intro p l e R s m args below meth c G ad cA A H0 kc ks Q ⟨hx, hb, hml, hown, hts, hnw, hK, hkc, hks, hfr, hlo⟩ hA hR X Y hX hY ls st M r h H locs arr hW hl
  unfold s_inc at h
  cases hv : ls.getD i (.inr 0) with
  | inr k => rw [hv] at h; cases h
  | inl x =>
    rw [hv] at h
    obtain ⟨h1, h2⟩ := pLs_at hl hv (fun q => by cases q)
    obtain ⟨k, hk⟩ := List.mem_iff_getElem?.mp (pprs_mem.mpr ⟨.inl x, h2, (fun q => by cases q), rfl⟩ : (i, ptv ad (.inl x)) ∈ pprs ad ls)
    refine lv_iinc (v := iI (x + n)) hx hb hd (pLs_has hl) hk (Int32.ofInt_add x n).symm hi rfl (fun ls' hl' => ?_)
    rw [← hn]
    exact hX _ _ _ _ _ h _ _ _ hW (pLs_st (v := .inl (x + n)) hl rfl hl')
theorem sn_if_eq {off : Int} {tgt nx : Nat} (hd : decode cc bpc = .ok (.ifCond .eq off, 3)) (ht : (bpc : Int) + off = (pcs tgt : Int)) (hn : pcs nx = bpc + 3) : pSnd yn wk own cc nL ret pcs bpc (s_if (fun x => eq32 x 0) (fun _ => inferInstance) tgt nx) := by
  intro p l e R s m args below meth c G ad cA A H0 kc ks Q ⟨hx, hb, hml, hown, hts, hnw, hK, hkc, hks, hfr, hlo⟩ hA hR X Y hX hY ls st M r h H locs arr hW hl
  unfold s_if at h
  rcases st with _ | ⟨x | x, rest⟩
  · cases h
  · dsimp only at h
    refine lv_if_eq hx hb hd ht (fun q => ?_) (fun q => ?_)
    · rw [if_pos (show eq32 x 0 from q)] at h
      exact hX _ _ _ _ _ h _ _ _ hW hl
    · rw [if_neg (show ¬ (eq32 x 0) from q)] at h
      rw [← hn]
      exact hX _ _ _ _ _ h _ _ _ hW hl
  · cases h
theorem sn_icmp_eq {off : Int} {tgt nx : Nat} (hd : decode cc bpc = .ok (.if_icmp .eq off, 3)) (ht : (bpc : Int) + off = (pcs tgt : Int)) (hn : pcs nx = bpc + 3) : pSnd yn wk own cc nL ret pcs bpc (s_if2 (fun x y => eq32 x y) (fun _ _ => inferInstance) tgt nx) := by
  intro p l e R s m args below meth c G ad cA A H0 kc ks Q ⟨hx, hb, hml, hown, hts, hnw, hK, hkc, hks, hfr, hlo⟩ hA hR X Y hX hY ls st M r h H locs arr hW hl
  unfold s_if2 at h
  rcases st with _ | ⟨y | y, _ | ⟨x | x, rest⟩⟩
  · cases h
  · cases h
  · dsimp only at h
    refine lv_icmp_eq hx hb hd ht (fun q => ?_) (fun q => ?_)
    · rw [if_pos (show eq32 x y from q)] at h
      exact hX _ _ _ _ _ h _ _ _ hW hl
    · rw [if_neg (show ¬ (eq32 x y) from q)] at h
      rw [← hn]
      exact hX _ _ _ _ _ h _ _ _ hW hl
  all_goals cases h
theorem sn_if_ne {off : Int} {tgt nx : Nat} (hd : decode cc bpc = .ok (.ifCond .ne off, 3)) (ht : (bpc : Int) + off = (pcs tgt : Int)) (hn : pcs nx = bpc + 3) : pSnd yn wk own cc nL ret pcs bpc (s_if (fun x => ¬ eq32 x 0) (fun _ => inferInstance) tgt nx) := by
  intro p l e R s m args below meth c G ad cA A H0 kc ks Q ⟨hx, hb, hml, hown, hts, hnw, hK, hkc, hks, hfr, hlo⟩ hA hR X Y hX hY ls st M r h H locs arr hW hl
  unfold s_if at h
  rcases st with _ | ⟨x | x, rest⟩
  · cases h
  · dsimp only at h
    refine lv_if_ne hx hb hd ht (fun q => ?_) (fun q => ?_)
    · rw [if_pos (show ¬ eq32 x 0 from q)] at h
      exact hX _ _ _ _ _ h _ _ _ hW hl
    · rw [if_neg (show ¬ (¬ eq32 x 0) from fun n => n q)] at h
      rw [← hn]
      exact hX _ _ _ _ _ h _ _ _ hW hl
  · cases h
theorem sn_icmp_ne {off : Int} {tgt nx : Nat} (hd : decode cc bpc = .ok (.if_icmp .ne off, 3)) (ht : (bpc : Int) + off = (pcs tgt : Int)) (hn : pcs nx = bpc + 3) : pSnd yn wk own cc nL ret pcs bpc (s_if2 (fun x y => ¬ eq32 x y) (fun _ _ => inferInstance) tgt nx) := by
  intro p l e R s m args below meth c G ad cA A H0 kc ks Q ⟨hx, hb, hml, hown, hts, hnw, hK, hkc, hks, hfr, hlo⟩ hA hR X Y hX hY ls st M r h H locs arr hW hl
  unfold s_if2 at h
  rcases st with _ | ⟨y | y, _ | ⟨x | x, rest⟩⟩
  · cases h
  · cases h
  · dsimp only at h
    refine lv_icmp_ne hx hb hd ht (fun q => ?_) (fun q => ?_)
    · rw [if_pos (show ¬ eq32 x y from q)] at h
      exact hX _ _ _ _ _ h _ _ _ hW hl
    · rw [if_neg (show ¬ (¬ eq32 x y) from fun n => n q)] at h
      rw [← hn]
      exact hX _ _ _ _ _ h _ _ _ hW hl
  all_goals cases h
theorem sn_if_lt {off : Int} {tgt nx : Nat} (hd : decode cc bpc = .ok (.ifCond .lt off, 3)) (ht : (bpc : Int) + off = (pcs tgt : Int)) (hn : pcs nx = bpc + 3) : pSnd yn wk own cc nL ret pcs bpc (s_if (fun x => lt32 x 0) (fun _ => inferInstance) tgt nx) := by
  intro p l e R s m args below meth c G ad cA A H0 kc ks Q ⟨hx, hb, hml, hown, hts, hnw, hK, hkc, hks, hfr, hlo⟩ hA hR X Y hX hY ls st M r h H locs arr hW hl
  unfold s_if at h
  rcases st with _ | ⟨x | x, rest⟩
  · cases h
  · dsimp only at h
    refine lv_if_lt hx hb hd ht (fun q => ?_) (fun q => ?_)
    · rw [if_pos (show lt32 x 0 from q)] at h
      exact hX _ _ _ _ _ h _ _ _ hW hl
    · rw [if_neg (show ¬ (lt32 x 0) from q)] at h
      rw [← hn]
      exact hX _ _ _ _ _ h _ _ _ hW hl
  · cases h
theorem sn_icmp_lt {off : Int} {tgt nx : Nat} (hd : decode cc bpc = .ok (.if_icmp .lt off, 3)) (ht : (bpc : Int) + off = (pcs tgt : Int)) (hn : pcs nx = bpc + 3) : pSnd yn wk own cc nL ret pcs bpc (s_if2 (fun x y => lt32 x y) (fun _ _ => inferInstance) tgt nx) := by
  intro p l e R s m args below meth c G ad cA A H0 kc ks Q ⟨hx, hb, hml, hown, hts, hnw, hK, hkc, hks, hfr, hlo⟩ hA hR X Y hX hY ls st M r h H locs arr hW hl
  unfold s_if2 at h
  rcases st with _ | ⟨y | y, _ | ⟨x | x, rest⟩⟩
  · cases h
  · cases h
  · dsimp only at h
    refine lv_icmp_lt hx hb hd ht (fun q => ?_) (fun q => ?_)
    · rw [if_pos (show lt32 x y from q)] at h
      exact hX _ _ _ _ _ h _ _ _ hW hl
    · rw [if_neg (show ¬ (lt32 x y) from q)] at h
      rw [← hn]
      exact hX _ _ _ _ _ h _ _ _ hW hl
  all_goals cases h
theorem sn_if_ge {off : Int} {tgt nx : Nat} (hd : decode cc bpc = .ok (.ifCond .ge off, 3)) (ht : (bpc : Int) + off = (pcs tgt : Int)) (hn : pcs nx = bpc + 3) : pSnd yn wk own cc nL ret pcs bpc (s_if (fun x => le32 0 x) (fun _ => inferInstance) tgt nx) := by
  intro p l e R s m args below meth c G ad cA A H0 kc ks Q ⟨hx, hb, hml, hown, hts, hnw, hK, hkc, hks, hfr, hlo⟩ hA hR X Y hX hY ls st M r h H locs arr hW hl
  unfold s_if at h
  rcases st with _ | ⟨x | x, rest⟩
  · cases h
  · dsimp only at h
    refine lv_if_ge hx hb hd ht (fun q => ?_) (fun q => ?_)
    · rw [if_pos (show le32 0 x from q)] at h
      exact hX _ _ _ _ _ h _ _ _ hW hl
    · rw [if_neg (show ¬ (le32 0 x) from q)] at h
      rw [← hn]
      exact hX _ _ _ _ _ h _ _ _ hW hl
  · cases h
theorem sn_icmp_ge {off : Int} {tgt nx : Nat} (hd : decode cc bpc = .ok (.if_icmp .ge off, 3)) (ht : (bpc : Int) + off = (pcs tgt : Int)) (hn : pcs nx = bpc + 3) : pSnd yn wk own cc nL ret pcs bpc (s_if2 (fun x y => le32 y x) (fun _ _ => inferInstance) tgt nx) := by
  intro p l e R s m args below meth c G ad cA A H0 kc ks Q ⟨hx, hb, hml, hown, hts, hnw, hK, hkc, hks, hfr, hlo⟩ hA hR X Y hX hY ls st M r h H locs arr hW hl
  unfold s_if2 at h
  rcases st with _ | ⟨y | y, _ | ⟨x | x, rest⟩⟩
  · cases h
  · cases h
  · dsimp only at h
    refine lv_icmp_ge hx hb hd ht (fun q => ?_) (fun q => ?_)
    · rw [if_pos (show le32 y x from q)] at h
      exact hX _ _ _ _ _ h _ _ _ hW hl
    · rw [if_neg (show ¬ (le32 y x) from q)] at h
      rw [← hn]
      exact hX _ _ _ _ _ h _ _ _ hW hl
  all_goals cases h
theorem sn_if_gt {off : Int} {tgt nx : Nat} (hd : decode cc bpc = .ok (.ifCond .gt off, 3)) (ht : (bpc : Int) + off = (pcs tgt : Int)) (hn : pcs nx = bpc + 3) : pSnd yn wk own cc nL ret pcs bpc (s_if (fun x => lt32 0 x) (fun _ => inferInstance) tgt nx) := by
  intro p l e R s m args below meth c G ad cA A H0 kc ks Q ⟨hx, hb, hml, hown, hts, hnw, hK, hkc, hks, hfr, hlo⟩ hA hR X Y hX hY ls st M r h H locs arr hW hl
  unfold s_if at h
  rcases st with _ | ⟨x | x, rest⟩
  · cases h
  · dsimp only at h
    refine lv_if_gt hx hb hd ht (fun q => ?_) (fun q => ?_)
    · rw [if_pos (show lt32 0 x from q)] at h
      exact hX _ _ _ _ _ h _ _ _ hW hl
    · rw [if_neg (show ¬ (lt32 0 x) from q)] at h
      rw [← hn]
      exact hX _ _ _ _ _ h _ _ _ hW hl
  · cases h
theorem sn_icmp_gt {off : Int} {tgt nx : Nat} (hd : decode cc bpc = .ok (.if_icmp .gt off, 3)) (ht : (bpc : Int) + off = (pcs tgt : Int)) (hn : pcs nx = bpc + 3) : pSnd yn wk own cc nL ret pcs bpc (s_if2 (fun x y => lt32 y x) (fun _ _ => inferInstance) tgt nx) := by
  intro p l e R s m args below meth c G ad cA A H0 kc ks Q ⟨hx, hb, hml, hown, hts, hnw, hK, hkc, hks, hfr, hlo⟩ hA hR X Y hX hY ls st M r h H locs arr hW hl
  unfold s_if2 at h
  rcases st with _ | ⟨y | y, _ | ⟨x | x, rest⟩⟩
  · cases h
  · cases h
  · dsimp only at h
    refine lv_icmp_gt hx hb hd ht (fun q => ?_) (fun q => ?_)
    · rw [if_pos (show lt32 y x from q)] at h
      exact hX _ _ _ _ _ h _ _ _ hW hl
    · rw [if_neg (show ¬ (lt32 y x) from q)] at h
      rw [← hn]
      exact hX _ _ _ _ _ h _ _ _ hW hl
  all_goals cases h
theorem sn_if_le {off : Int} {tgt nx : Nat} (hd : decode cc bpc = .ok (.ifCond .le off, 3)) (ht : (bpc : Int) + off = (pcs tgt : Int)) (hn : pcs nx = bpc + 3) : pSnd yn wk own cc nL ret pcs bpc (s_if (fun x => le32 x 0) (fun _ => inferInstance) tgt nx) := by
  intro p l e R s m args below meth c G ad cA A H0 kc ks Q ⟨hx, hb, hml, hown, hts, hnw, hK, hkc, hks, hfr, hlo⟩ hA hR X Y hX hY ls st M r h H locs arr hW hl
  unfold s_if at h
  rcases st with _ | ⟨x | x, rest⟩
  · cases h
  · dsimp only at h
    refine lv_if_le hx hb hd ht (fun q => ?_) (fun q => ?_)
    · rw [if_pos (show le32 x 0 from q)] at h
      exact hX _ _ _ _ _ h _ _ _ hW hl
    · rw [if_neg (show ¬ (le32 x 0) from q)] at h
      rw [← hn]
      exact hX _ _ _ _ _ h _ _ _ hW hl
  · cases h
theorem sn_icmp_le {off : Int} {tgt nx : Nat} (hd : decode cc bpc = .ok (.if_icmp .le off, 3)) (ht : (bpc : Int) + off = (pcs tgt : Int)) (hn : pcs nx = bpc + 3) : pSnd yn wk own cc nL ret pcs bpc (s_if2 (fun x y => le32 x y) (fun _ _ => inferInstance) tgt nx) := by
  intro p l e R s m args below meth c G ad cA A H0 kc ks Q ⟨hx, hb, hml, hown, hts, hnw, hK, hkc, hks, hfr, hlo⟩ hA hR X Y hX hY ls st M r h H locs arr hW hl
  unfold s_if2 at h
  rcases st with _ | ⟨y | y, _ | ⟨x | x, rest⟩⟩
  · cases h
  · cases h
  · dsimp only at h
    refine lv_icmp_le hx hb hd ht (fun q => ?_) (fun q => ?_)
    · rw [if_pos (show le32 x y from q)] at h
      exact hX _ _ _ _ _ h _ _ _ hW hl
    · rw [if_neg (show ¬ (le32 x y) from q)] at h
      rw [← hn]
      exact hX _ _ _ _ _ h _ _ _ hW hl
  all_goals cases h
theorem sn_goto {off : Int} {tgt : Nat} (hd : decode cc bpc = .ok (.goto off, 3)) (ht : (bpc : Int) + off = (pcs tgt : Int)) : pSnd yn wk own cc nL ret pcs bpc (s_goto tgt) := by
  intro p l e R s m args below meth c G ad cA A H0 kc ks Q ⟨hx, hb, hml, hown, hts, hnw, hK, hkc, hks, hfr, hlo⟩ hA hR X Y hX hY ls st M r h H locs arr hW hl
  exact lv_goto hx hb hd ht (hX _ _ _ _ _ h _ _ _ hW hl)
theorem sn_getf {ci k nx idx N : Nat} {C ref : String} {T : u_T} (hc : pcl[ci]? = some (C, T, N)) (hin : ∀ w ∈ u_ws C T N, w ∈ pws) (hci : ci < 100) (hk : k < N) (hnf : nfld ci = N) (hlk : Cond.fieldLink own idx ref (T k).2.1 (T k).2.2.1 ∈ pws) (href : (T k).1 = ref) (hd : decode cc bpc = .ok (.getfield idx, 3)) (hn : pcs nx = bpc + 3) : pSnd yn wk own cc nL ret pcs bpc (s_getf ci k nx) := by
  intro p l e R s m args below meth c G ad cA A H0 kc ks Q ⟨hx, hb, hml, hown, hts, hnw, hK, hkc, hks, hfr, hlo⟩ hA hR X Y hX hY ls st M r h H locs arr hW hl
  unfold s_getf at h
  rcases st with _ | ⟨x | _ | _ | o, rest⟩
  · cases h
  · cases h
  · cases h
  · cases h
  · dsimp only at h
    cases hk9 : Nat.beq (pK o) ci with
    | false => rw [hk9] at h; cases h
    | true =>
      rw [hk9] at h
      have hko : pK o = ci := Nat.eq_of_beq_eq_true hk9
      have ho : o < pN := pK_lt (by omega)
      have hat : (pW ad cA M)[o]? = some (ad o, .inr (ci, (List.range N).map fun k => ptv ad (pfv o k M))) := by
        rw [pW_at ad cA M ho]; unfold pEn
        rw [if_pos (by omega : pK o < 100), pL_fld (by omega), hko, hnf]
      refine va_get (D := G) (cl := pcl) (ci := ci) (v := ptv ad (pfv o k M)) (C := C) (T := T) (N := N) hx hb hts hin hown hK hW.1 o hat hc k hk (hts _ hlk) (fun _ h9 => by rw [← href]; exact h9) (by rw [List.getElem?_map, List.getElem?_range hk]; rfl) hd ?_
      rw [← hn]
      exact hX _ _ _ _ _ h _ _ _ hW hl
theorem p_range_set {α : Type} {f g : Nat → α} {n k : Nat} {x : α} (hk : k < n) (h1 : ∀ j, j ≠ k → g j = f j) (h2 : g k = x) : (List.range n).map g = ((List.range n).map f).set k x := by
  apply List.ext_getElem?
  intro j
  rw [List.getElem?_set, List.length_map, List.length_range, List.getElem?_map, List.getElem?_map]
  by_cases e : k = j
  · subst e
    rw [if_pos rfl, if_pos hk, List.getElem?_range hk]
    exact congrArg some h2
  · rw [if_neg e]
    rcases Nat.lt_or_ge j n with q | q
    · rw [List.getElem?_range q]; exact congrArg some (h1 j (fun z => e z.symm))
    · rw [List.getElem?_eq_none (by rw [List.length_range]; exact q)]; rfl
theorem iI_z {v : Int} (h : v = 0 ∨ v = 1) : narrow .boolean (.int (iI v)) = .int (iI v) ∧ fits .boolean (.int (iI v)) = true ∧ vp_nar .boolean (iI v) = iI v := by
  rcases h with rfl | rfl <;> exact ⟨by decide +kernel, by decide +kernel, by decide +kernel⟩
theorem sn_puti {ci k nx idx N : Nat} {C ref : String} {T : u_T} (hc : pcl[ci]? = some (C, T, N)) (hin : ∀ w ∈ u_ws C T N, w ∈ pws) (hci : ci < 100) (hk : k < N) (hnf : nfld ci = N) (ty0 : Nat → FieldType) (hty : ∀ k, k < N → parseFieldDescriptor (T k).2.2.1 = some (ty0 k)) (hnm : ∀ a, a < N → ∀ b, b < N → a ≠ b → (T a).2.1 ≠ (T b).2.1) (hfin : (T k).2.2.2 = false) (hfk : pFk ci k = 0) (hds : parseFieldDescriptor (T k).2.2.1 = some .int) (hlk : Cond.fieldLink own idx ref (T k).2.1 (T k).2.2.1 ∈ pws) (href : (T k).1 = ref) (hd : decode cc bpc = .ok (.putfield idx, 3)) (hn : pcs nx = bpc + 3) : pSnd yn wk own cc nL ret pcs bpc (s_puti ci k nx) := by
  intro p l e R s m args below meth c G ad cA A H0 kc ks Q ⟨hx, hb, hml, hown, hts, hnw, hK, hkc, hks, hfr, hlo⟩ hA hR X Y hX hY ls st M r h H locs arr hW hl
  unfold s_puti at h
  rcases st with _ | ⟨v | v, _ | ⟨x | _ | _ | o, rest⟩⟩
  · cases h
  · cases h
  · cases h
  · cases h
  · cases h
  · dsimp only at h
    cases hk9 : Nat.beq (pK o) ci with
    | false => rw [hk9] at h; cases h
    | true =>
      rw [hk9] at h
      have hko : pK o = ci := Nat.eq_of_beq_eq_true hk9
      have ho : o < pN := pK_lt (by omega)
      have hat : (pW ad cA M)[o]? = some (ad o, .inr (ci, (List.range N).map fun k => ptv ad (pfv o k M))) := by
        rw [pW_at ad cA M ho]; unfold pEn
        rw [if_pos (by omega : pK o < 100), pL_fld (by omega), hko, hnf]
      have hse : pEn ad cA (pset M o k v) o = (ad o, .inr (ci, ((List.range N).map fun k => ptv ad (pfv o k M)).set k (.int (iI v)))) := by
        unfold pEn
        rw [if_pos (by omega : pK o < 100), pL_fld (by omega), hko, hnf]
        refine congrArg (fun z => (ad o, Sum.inr (ci, z))) (p_range_set hk (fun j hj => ?_) ?_)
        · unfold pfv; rw [pset_ne2 hj]
        · unfold pfv; rw [hko, hfk, pset_eq]; rfl
      refine va_put (D := G) (cl := pcl) (ci := ci) (v := .int (iI v)) (ty := .int) (C := C) (T := T) (N := N) hx hb hts hin ty0 hty hnm hown hK hW.1 hW.2.1 hW.2.2 o hat hc k hk (hts _ hlk) (fun _ h9 => by rw [← href]; exact h9) hfin hds rfl rfl (by rw [List.length_map, List.length_range]; exact hk) hd (fun H1 locs1 hP1 hD1 hS1 => ?_)
      rw [pW_set (M' := pset M o k v) (fun o' i hne => pset_ne hne) hse] at hP1 hD1
      rw [← hn]
      exact hX _ _ _ _ _ h _ _ _ ⟨hP1, hD1, hS1⟩ hl
  all_goals cases h
theorem sn_putz {ci k nx idx N : Nat} {C ref : String} {T : u_T} (hc : pcl[ci]? = some (C, T, N)) (hin : ∀ w ∈ u_ws C T N, w ∈ pws) (hci : ci < 100) (hk : k < N) (hnf : nfld ci = N) (ty0 : Nat → FieldType) (hty : ∀ k, k < N → parseFieldDescriptor (T k).2.2.1 = some (ty0 k)) (hnm : ∀ a, a < N → ∀ b, b < N → a ≠ b → (T a).2.1 ≠ (T b).2.1) (hfin : (T k).2.2.2 = false) (hfk : pFk ci k = 1) (hds : parseFieldDescriptor (T k).2.2.1 = some .boolean) (hlk : Cond.fieldLink own idx ref (T k).2.1 (T k).2.2.1 ∈ pws) (href : (T k).1 = ref) (hd : decode cc bpc = .ok (.putfield idx, 3)) (hn : pcs nx = bpc + 3) : pSnd yn wk own cc nL ret pcs bpc (s_putz ci k nx) := by
  intro p l e R s m args below meth c G ad cA A H0 kc ks Q ⟨hx, hb, hml, hown, hts, hnw, hK, hkc, hks, hfr, hlo⟩ hA hR X Y hX hY ls st M r h H locs arr hW hl
  unfold s_putz at h
  rcases st with _ | ⟨v | v, _ | ⟨x | _ | _ | o, rest⟩⟩
  · cases h
  · cases h
  · cases h
  · cases h
  · cases h
  · dsimp only at h
    cases hk9 : Nat.beq (pK o) ci with
    | false => rw [hk9] at h; cases h
    | true =>
      rw [hk9] at h
      have hv01 : v = 0 ∨ v = 1 := by
        dsimp only [cond_true] at h
        split at h
        · assumption
        · cases h
      rw [cond_true, if_pos hv01] at h
      have hko : pK o = ci := Nat.eq_of_beq_eq_true hk9
      have ho : o < pN := pK_lt (by omega)
      have hat : (pW ad cA M)[o]? = some (ad o, .inr (ci, (List.range N).map fun k => ptv ad (pfv o k M))) := by
        rw [pW_at ad cA M ho]; unfold pEn
        rw [if_pos (by omega : pK o < 100), pL_fld (by omega), hko, hnf]
      have hse : pEn ad cA (pset M o k v) o = (ad o, .inr (ci, ((List.range N).map fun k => ptv ad (pfv o k M)).set k (.int (iI v)))) := by
        unfold pEn
        rw [if_pos (by omega : pK o < 100), pL_fld (by omega), hko, hnf]
        refine congrArg (fun z => (ad o, Sum.inr (ci, z))) (p_range_set hk (fun j hj => ?_) ?_)
        · unfold pfv; rw [pset_ne2 hj]
        · unfold pfv; rw [hko, hfk, pset_eq]; rfl
      refine va_put (D := G) (cl := pcl) (ci := ci) (v := .int (iI v)) (ty := .boolean) (C := C) (T := T) (N := N) hx hb hts hin ty0 hty hnm hown hK hW.1 hW.2.1 hW.2.2 o hat hc k hk (hts _ hlk) (fun _ h9 => by rw [← href]; exact h9) hfin hds (iI_z hv01).1 (iI_z hv01).2.1 (by rw [List.length_map, List.length_range]; exact hk) hd (fun H1 locs1 hP1 hD1 hS1 => ?_)
      rw [pW_set (M' := pset M o k v) (fun o' i hne => pset_ne hne) hse] at hP1 hD1
      rw [← hn]
      exact hX _ _ _ _ _ h _ _ _ ⟨hP1, hD1, hS1⟩ hl
  all_goals cases h
theorem sn_putr {ci k tk nx idx N : Nat} {C ref : String} {T : u_T} {ety : FieldType} (hc : pcl[ci]? = some (C, T, N)) (hin : ∀ w ∈ u_ws C T N, w ∈ pws) (hci : ci < 100) (hk : k < N) (hnf : nfld ci = N) (ty0 : Nat → FieldType) (hty : ∀ k, k < N → parseFieldDescriptor (T k).2.2.1 = some (ty0 k)) (hnm : ∀ a, a < N → ∀ b, b < N → a ≠ b → (T a).2.1 ≠ (T b).2.1) (hfin : (T k).2.2.2 = false) (hfk : pFk ci k = 3) (hds : parseFieldDescriptor (T k).2.2.1 = some (.array ety)) (hlk : Cond.fieldLink own idx ref (T k).2.1 (T k).2.2.1 ∈ pws) (href : (T k).1 = ref) (hd : decode cc bpc = .ok (.putfield idx, 3)) (hn : pcs nx = bpc + 3) : pSnd yn wk own cc nL ret pcs bpc (s_putr ci k tk nx) := by
  intro p l e R s m args below meth c G ad cA A H0 kc ks Q ⟨hx, hb, hml, hown, hts, hnw, hK, hkc, hks, hfr, hlo⟩ hA hR X Y hX hY ls st M r h H locs arr hW hl
  unfold s_putr at h
  rcases st with _ | ⟨v | _ | _ | v, _ | ⟨x | _ | _ | o, rest⟩⟩
  any_goals cases h
  dsimp only at h
  cases hk9 : (Nat.beq (pK o) ci && Nat.beq (pK v) tk) with
  | false => rw [hk9] at h; cases h
  | true =>
    rw [hk9] at h
    have hko : pK o = ci := Nat.eq_of_beq_eq_true (Bool.and_eq_true_iff.mp hk9).1
    have ho : o < pN := pK_lt (by omega)
    have hat : (pW ad cA M)[o]? = some (ad o, .inr (ci, (List.range N).map fun k => ptv ad (pfv o k M))) := by
      rw [pW_at ad cA M ho]; unfold pEn
      rw [if_pos (by omega : pK o < 100), pL_fld (by omega), hko, hnf]
    have hse : pEn ad cA (pset M o k (Int.ofNat (v + 2))) o = (ad o, .inr (ci, ((List.range N).map fun k => ptv ad (pfv o k M)).set k (.ref (ad v)))) := by
      unfold pEn
      rw [if_pos (by omega : pK o < 100), pL_fld (by omega), hko, hnf]
      refine congrArg (fun z => (ad o, Sum.inr (ci, z))) (p_range_set hk (fun j hj => ?_) ?_)
      · unfold pfv; rw [pset_ne2 hj]
      · unfold pfv; rw [hko, hfk, pset_eq]; rfl
    refine va_put (D := G) (cl := pcl) (ci := ci) (v := .ref (ad v)) (ty := .array ety) (C := C) (T := T) (N := N) hx hb hts hin ty0 hty hnm hown hK hW.1 hW.2.1 hW.2.2 o hat hc k hk (hts _ hlk) (fun _ h9 => by rw [← href]; exact h9) hfin hds rfl rfl (by rw [List.length_map, List.length_range]; exact hk) hd (fun H1 locs1 hP1 hD1 hS1 => ?_)
    rw [pW_set (M' := pset M o k (Int.ofNat (v + 2))) (fun o' i hne => pset_ne hne) hse] at hP1 hD1
    rw [← hn]
    exact hX _ _ _ _ _ h _ _ _ ⟨hP1, hD1, hS1⟩ hl
theorem ptys_at (cA : Nat → ClassId) {o : Nat} (h : 100 ≤ pK o) (h2 : pK o ≠ 104) : ∃ t0 : Nat, (ptys cA)[t0]? = some (cA o, pty o) := by
  obtain ⟨t0, ht⟩ := List.mem_iff_getElem?.mp (pArr_ok o (pK_lt h2) h)
  exact ⟨t0, by unfold ptys; rw [List.getElem?_map, ht]; rfl⟩
theorem pW_int {ad : Nat → Nat} {cA : Nat → ClassId} {M : pM} {o kd : Nat} (h : pK o = kd) (h1 : 100 ≤ kd) (h2 : kd < 103) : (pW ad cA M)[o]? = some (ad o, .inl (cA o, pL o, .inl fun i => iI (M o i))) := by
  rw [pW_at ad cA M (pK_lt (by omega))]; unfold pEn
  rw [if_neg (by omega), if_neg (by omega)]
theorem sn_iald {nx : Nat} (hd : decode cc bpc = .ok (.iaload, 1)) (hn : pcs nx = bpc + 1) : pSnd yn wk own cc nL ret pcs bpc (s_get 100 nx) := by
  intro p l e R s m args below meth c G ad cA A H0 kc ks Q ⟨hx, hb, hml, hown, hts, hnw, hK, hkc, hks, hfr, hlo⟩ hA hR X Y hX hY ls st M r h H locs arr hW hl
  unfold s_get at h
  rcases st with _ | ⟨i | i, _ | ⟨x | _ | _ | o, rest⟩⟩
  any_goals cases h
  dsimp only at h
  cases hk9 : Nat.beq (pK o) 100 with
  | false => rw [hk9] at h; cases h
  | true =>
    rw [hk9, cond_true] at h
    have hko : pK o = 100 := Nat.eq_of_beq_eq_true hk9
    obtain ⟨hi, h⟩ : (0 ≤ i ∧ i < Int.ofNat (pL o)) ∧ X nx ls (.inl (M o i.toNat) :: rest) M = some r := by
      split at h
      · exact ⟨by assumption, h⟩
      · cases h
    obtain ⟨hin, hcl⟩ := iI_in hi.1 hi.2 (pL_le o)
    obtain ⟨t0, ht0⟩ := ptys_at cA (o := o) (by omega) (by omega)
    refine va_iald hx hb hK hW.1 o t0 (pW_int hko (by omega) (by omega)) (show (ptys cA)[t0]? = some (cA o, .int) by rw [ht0]; unfold pty; rw [hko]; rfl) hin hd ?_
    rw [hcl, ← hn]
    exact hX _ _ _ _ _ h _ _ _ hW hl
theorem sn_bald {nx : Nat} (hd : decode cc bpc = .ok (.baload, 1)) (hn : pcs nx = bpc + 1) : pSnd yn wk own cc nL ret pcs bpc (s_get 101 nx) := by
  intro p l e R s m args below meth c G ad cA A H0 kc ks Q ⟨hx, hb, hml, hown, hts, hnw, hK, hkc, hks, hfr, hlo⟩ hA hR X Y hX hY ls st M r h H locs arr hW hl
  unfold s_get at h
  rcases st with _ | ⟨i | i, _ | ⟨x | _ | _ | o, rest⟩⟩
  any_goals cases h
  dsimp only at h
  cases hk9 : Nat.beq (pK o) 101 with
  | false => rw [hk9] at h; cases h
  | true =>
    rw [hk9, cond_true] at h
    have hko : pK o = 101 := Nat.eq_of_beq_eq_true hk9
    obtain ⟨hi, h⟩ : (0 ≤ i ∧ i < Int.ofNat (pL o)) ∧ X nx ls (.inl (M o i.toNat) :: rest) M = some r := by
      split at h
      · exact ⟨by assumption, h⟩
      · cases h
    obtain ⟨hin, hcl⟩ := iI_in hi.1 hi.2 (pL_le o)
    obtain ⟨t0, ht0⟩ := ptys_at cA (o := o) (by omega) (by omega)
    refine va_bald hx hb hK hW.1 o t0 (pW_int hko (by omega) (by omega)) (show (ptys cA)[t0]? = some (cA o, .byte) by rw [ht0]; unfold pty; rw [hko]; rfl) hin hd ?_
    rw [hcl, ← hn]
    exact hX _ _ _ _ _ h _ _ _ hW hl
theorem sn_zald {nx : Nat} (hd : decode cc bpc = .ok (.baload, 1)) (hn : pcs nx = bpc + 1) : pSnd yn wk own cc nL ret pcs bpc (s_get 102 nx) := by
  intro p l e R s m args below meth c G ad cA A H0 kc ks Q ⟨hx, hb, hml, hown, hts, hnw, hK, hkc, hks, hfr, hlo⟩ hA hR X Y hX hY ls st M r h H locs arr hW hl
  unfold s_get at h
  rcases st with _ | ⟨i | i, _ | ⟨x | _ | _ | o, rest⟩⟩
  any_goals cases h
  dsimp only at h
  cases hk9 : Nat.beq (pK o) 102 with
  | false => rw [hk9] at h; cases h
  | true =>
    rw [hk9, cond_true] at h
    have hko : pK o = 102 := Nat.eq_of_beq_eq_true hk9
    obtain ⟨hi, h⟩ : (0 ≤ i ∧ i < Int.ofNat (pL o)) ∧ X nx ls (.inl (M o i.toNat) :: rest) M = some r := by
      split at h
      · exact ⟨by assumption, h⟩
      · cases h
    obtain ⟨hin, hcl⟩ := iI_in hi.1 hi.2 (pL_le o)
    obtain ⟨t0, ht0⟩ := ptys_at cA (o := o) (by omega) (by omega)
    refine va_zald hx hb hK hW.1 o t0 (pW_int hko (by omega) (by omega)) (show (ptys cA)[t0]? = some (cA o, .boolean) by rw [ht0]; unfold pty; rw [hko]; rfl) hin hd ?_
    rw [hcl, ← hn]
    exact hX _ _ _ _ _ h _ _ _ hW hl
theorem sn_iast {nx : Nat} (hd : decode cc bpc = .ok (.iastore, 1)) (hn : pcs nx = bpc + 1) : pSnd yn wk own cc nL ret pcs bpc (s_set 100 (fun v => v) nx) := by
  intro p l e R s m args below meth c G ad cA A H0 kc ks Q ⟨hx, hb, hml, hown, hts, hnw, hK, hkc, hks, hfr, hlo⟩ hA hR X Y hX hY ls st M r h H locs arr hW hl
  unfold s_set at h
  rcases st with _ | ⟨v | v, _ | ⟨i | i, _ | ⟨x | _ | _ | o, rest⟩⟩⟩
  any_goals cases h
  dsimp only at h
  cases hk9 : Nat.beq (pK o) 100 with
  | false => rw [hk9] at h; cases h
  | true =>
    rw [hk9, cond_true] at h
    have hko : pK o = 100 := Nat.eq_of_beq_eq_true hk9
    obtain ⟨hi, h⟩ : (0 ≤ i ∧ i < Int.ofNat (pL o)) ∧ X nx ls rest (pset M o i.toNat ((fun v => v) v)) = some r := by
      split at h
      · exact ⟨by assumption, h⟩
      · cases h
    obtain ⟨hin, hcl⟩ := iI_in hi.1 hi.2 (pL_le o)
    obtain ⟨t0, ht0⟩ := ptys_at cA (o := o) (by omega) (by omega)
    refine va_iast hx hb hK hW.1 hW.2.1 hW.2.2 o t0 (pW_int hko (by omega) (by omega)) (show (ptys cA)[t0]? = some (cA o, .int) by rw [ht0]; unfold pty; rw [hko]; rfl) hin hd (fun H1 locs1 hP1 hD1 hS1 => ?_)
    rw [hcl] at hP1 hD1
    have hse : pEn ad cA (pset M o i.toNat ((fun v => v) v)) o = (ad o, .inl (cA o, pL o, .inl (upd (fun i => iI (M o i)) i.toNat (iI v)))) := by
      unfold pEn
      rw [if_neg (by omega), if_neg (by omega)]
      refine congrArg (fun z => (ad o, Sum.inl (cA o, pL o, Sum.inl z))) (funext fun j => ?_)
      unfold upd
      by_cases e : j = i.toNat
      · rw [if_pos e, e, pset_eq]
      · rw [if_neg e, pset_ne2 e]
    rw [pW_set (M' := pset M o i.toNat ((fun v => v) v)) (fun o' i hne => pset_ne hne) hse] at hP1 hD1
    rw [← hn]
    exact hX _ _ _ _ _ h _ _ _ ⟨hP1, hD1, hS1⟩ hl
theorem sn_bast {nx : Nat} (hd : decode cc bpc = .ok (.bastore, 1)) (hn : pcs nx = bpc + 1) : pSnd yn wk own cc nL ret pcs bpc (s_set 101 jb nx) := by
  intro p l e R s m args below meth c G ad cA A H0 kc ks Q ⟨hx, hb, hml, hown, hts, hnw, hK, hkc, hks, hfr, hlo⟩ hA hR X Y hX hY ls st M r h H locs arr hW hl
  unfold s_set at h
  rcases st with _ | ⟨v | v, _ | ⟨i | i, _ | ⟨x | _ | _ | o, rest⟩⟩⟩
  any_goals cases h
  dsimp only at h
  cases hk9 : Nat.beq (pK o) 101 with
  | false => rw [hk9] at h; cases h
  | true =>
    rw [hk9, cond_true] at h
    have hko : pK o = 101 := Nat.eq_of_beq_eq_true hk9
    obtain ⟨hi, h⟩ : (0 ≤ i ∧ i < Int.ofNat (pL o)) ∧ X nx ls rest (pset M o i.toNat (jb v)) = some r := by
      split at h
      · exact ⟨by assumption, h⟩
      · cases h
    obtain ⟨hin, hcl⟩ := iI_in hi.1 hi.2 (pL_le o)
    obtain ⟨t0, ht0⟩ := ptys_at cA (o := o) (by omega) (by omega)
    refine va_bast hx hb hK hW.1 hW.2.1 hW.2.2 o t0 (pW_int hko (by omega) (by omega)) (show (ptys cA)[t0]? = some (cA o, .byte) by rw [ht0]; unfold pty; rw [hko]; rfl) hin hd (fun H1 locs1 hP1 hD1 hS1 => ?_)
    rw [hcl] at hP1 hD1
    have hse : pEn ad cA (pset M o i.toNat (jb v)) o = (ad o, .inl (cA o, pL o, .inl (upd (fun i => iI (M o i)) i.toNat (vp_nar .byte (iI v))))) := by
      unfold pEn
      rw [if_neg (by omega), if_neg (by omega)]
      refine congrArg (fun z => (ad o, Sum.inl (cA o, pL o, Sum.inl z))) (funext fun j => ?_)
      unfold upd
      by_cases e : j = i.toNat
      · rw [if_pos e, e, pset_eq]; exact (Int32.ofInt_toInt _).trans (vp_nar_byte (iI v)).symm
      · rw [if_neg e, pset_ne2 e]
    rw [pW_set (M' := pset M o i.toNat (jb v)) (fun o' i hne => pset_ne hne) hse] at hP1 hD1
    rw [← hn]
    exact hX _ _ _ _ _ h _ _ _ ⟨hP1, hD1, hS1⟩ hl
theorem sn_zast {nx : Nat} (hd : decode cc bpc = .ok (.bastore, 1)) (hn : pcs nx = bpc + 1) : pSnd yn wk own cc nL ret pcs bpc (s_setz nx) := by
  intro p l e R s m args below meth c G ad cA A H0 kc ks Q ⟨hx, hb, hml, hown, hts, hnw, hK, hkc, hks, hfr, hlo⟩ hA hR X Y hX hY ls st M r h H locs arr hW hl
  unfold s_setz at h
  rcases st with _ | ⟨v | v, _ | ⟨i | i, _ | ⟨x | _ | _ | o, rest⟩⟩⟩
  any_goals cases h
  dsimp only at h
  cases hk9 : Nat.beq (pK o) 102 with
  | false => rw [hk9] at h; cases h
  | true =>
    rw [hk9, cond_true] at h
    have hko : pK o = 102 := Nat.eq_of_beq_eq_true hk9
    obtain ⟨hi, hv, h⟩ : (0 ≤ i ∧ i < Int.ofNat (pL o)) ∧ (v = 0 ∨ v = 1) ∧ X nx ls rest (pset M o i.toNat v) = some r := by
      split at h
      · rename_i h1
        split at h
        · rename_i h2; exact ⟨h1, h2, h⟩
        · cases h
      · cases h
    obtain ⟨hin, hcl⟩ := iI_in hi.1 hi.2 (pL_le o)
    obtain ⟨t0, ht0⟩ := ptys_at cA (o := o) (by omega) (by omega)
    refine va_zast hx hb hK hW.1 hW.2.1 hW.2.2 o t0 (pW_int hko (by omega) (by omega)) (show (ptys cA)[t0]? = some (cA o, .boolean) by rw [ht0]; unfold pty; rw [hko]; rfl) hin hd (fun H1 locs1 hP1 hD1 hS1 => ?_)
    rw [hcl, (iI_z hv).2.2] at hP1 hD1
    have hse : pEn ad cA (pset M o i.toNat v) o = (ad o, .inl (cA o, pL o, .inl (upd (fun i => iI (M o i)) i.toNat (iI v)))) := by
      unfold pEn
      rw [if_neg (by omega), if_neg (by omega)]
      refine congrArg (fun z => (ad o, Sum.inl (cA o, pL o, Sum.inl z))) (funext fun j => ?_)
      unfold upd
      by_cases e : j = i.toNat
      · rw [if_pos e, e, pset_eq]
      · rw [if_neg e, pset_ne2 e]
    rw [pW_set (M' := pset M o i.toNat v) (fun o' i hne => pset_ne hne) hse] at hP1 hD1
    rw [← hn]
    exact hX _ _ _ _ _ h _ _ _ ⟨hP1, hD1, hS1⟩ hl
theorem sn_aald {nx : Nat} (hd : decode cc bpc = .ok (.aaload, 1)) (hn : pcs nx = bpc + 1) : pSnd yn wk own cc nL ret pcs bpc (s_getq nx) := by
  intro p l e R s m args below meth c G ad cA A H0 kc ks Q ⟨hx, hb, hml, hown, hts, hnw, hK, hkc, hks, hfr, hlo⟩ hA hR X Y hX hY ls st M r h H locs arr hW hl
  unfold s_getq at h
  rcases st with _ | ⟨i | i, _ | ⟨x | _ | _ | o, rest⟩⟩
  any_goals cases h
  dsimp only at h
  cases hk9 : Nat.beq (pK o) 103 with
  | false => rw [hk9] at h; cases h
  | true =>
    rw [hk9, cond_true] at h
    have hko : pK o = 103 := Nat.eq_of_beq_eq_true hk9
    obtain ⟨hi, h⟩ : (0 ≤ i ∧ i < Int.ofNat (pL o)) ∧ X nx ls (.inr (pFr o i.toNat + 2) :: rest) M = some r := by
      split at h
      · exact ⟨by assumption, h⟩
      · cases h
    obtain ⟨hin, hcl⟩ := iI_in hi.1 hi.2 (pL_le o)
    obtain ⟨t0, ht0⟩ := ptys_at cA (o := o) (by omega) (by omega)
    have hat : (pW ad cA M)[o]? = some (ad o, .inl (cA o, pL o, .inr (.inr (.inr (.inr fun i => some (ad (pFr o i))))))) := by
      rw [pW_at ad cA M (pK_lt (by omega))]; unfold pEn
      rw [if_neg (by omega), if_pos hko]
    refine va_aldq hx hb hK hW.1 o t0 hat (show (ptys cA)[t0]? = some (cA o, .object "SetsStayTogether$Kept") by rw [ht0]; unfold pty; rw [hko]; rfl) hin hd ?_
    rw [hcl, ← hn]
    exact hX _ _ _ _ _ h _ _ _ hW hl
theorem sn_alen {nx : Nat} (hd : decode cc bpc = .ok (.arraylength, 1)) (hn : pcs nx = bpc + 1) : pSnd yn wk own cc nL ret pcs bpc (s_len nx) := by
  intro p l e R s m args below meth c G ad cA A H0 kc ks Q ⟨hx, hb, hml, hown, hts, hnw, hK, hkc, hks, hfr, hlo⟩ hA hR X Y hX hY ls st M r h H locs arr hW hl
  unfold s_len at h
  rcases st with _ | ⟨x | _ | _ | o, rest⟩
  any_goals cases h
  dsimp only at h
  cases hk9 : (Nat.ble 100 (pK o) && Nat.ble (pK o) 103) with
  | false => rw [hk9] at h; cases h
  | true =>
    rw [hk9, cond_true] at h
    have h1 : 100 ≤ pK o := Nat.le_of_ble_eq_true (Bool.and_eq_true_iff.mp hk9).1
    have h2 : pK o ≤ 103 := Nat.le_of_ble_eq_true (Bool.and_eq_true_iff.mp hk9).2
    obtain ⟨t0, ht0⟩ := ptys_at cA (o := o) (by omega) (by omega)
    have hat : ∃ x9 : vp_A, x9.1 = pL o ∧ (pW ad cA M)[o]? = some (ad o, .inl (cA o, x9)) := by
      by_cases e : pK o = 103
      · refine ⟨(pL o, .inr (.inr (.inr (.inr fun i => some (ad (pFr o i)))))), rfl, ?_⟩
        rw [pW_at ad cA M (pK_lt (by omega))]; unfold pEn
        rw [if_neg (by omega), if_pos e]
      · exact ⟨_, rfl, pW_int (kd := pK o) rfl (by omega) (by omega)⟩
    obtain ⟨x9, e9, hat⟩ := hat
    refine va_alen hx hb hK hW.1 o t0 hat ht0 (v := iI (Int.ofNat (pL o))) (by rw [e9]; exact Int32.ofInt_eq_ofNat.symm) hd ?_
    rw [← hn]
    exact hX _ _ _ _ _ h _ _ _ hW hl
theorem sn_dup {nx : Nat} (hd : decode cc bpc = .ok (.dup, 1)) (hn : pcs nx = bpc + 1) : pSnd yn wk own cc nL ret pcs bpc (s_dup nx) := by
  intro p l e R s m args below meth c G ad cA A H0 kc ks Q ⟨hx, hb, hml, hown, hts, hnw, hK, hkc, hks, hfr, hlo⟩ hA hR X Y hX hY ls st M r h H locs arr hW hl
  unfold s_dup at h
  rcases st with _ | ⟨a, rest⟩
  · cases h
  · refine lv_dup hx hb hd (ptv_cat ad a) ?_
    rw [← hn]
    exact hX _ _ _ _ _ h _ _ _ hW hl
theorem sn_dup2 {nx : Nat} (hd : decode cc bpc = .ok (.dup2, 1)) (hn : pcs nx = bpc + 1) : pSnd yn wk own cc nL ret pcs bpc (s_dup2 nx) := by
  intro p l e R s m args below meth c G ad cA A H0 kc ks Q ⟨hx, hb, hml, hown, hts, hnw, hK, hkc, hks, hfr, hlo⟩ hA hR X Y hX hY ls st M r h H locs arr hW hl
  unfold s_dup2 at h
  rcases st with _ | ⟨a, _ | ⟨b, rest⟩⟩
  · cases h
  · cases h
  · refine lv_dup2_11 hx hb hd (ptv_cat ad a) (ptv_cat ad b) ?_
    rw [← hn]
    exact hX _ _ _ _ _ h _ _ _ hW hl
theorem sn_dupx1 {nx : Nat} (hd : decode cc bpc = .ok (.dup_x1, 1)) (hn : pcs nx = bpc + 1) : pSnd yn wk own cc nL ret pcs bpc (s_dupx1 nx) := by
  intro p l e R s m args below meth c G ad cA A H0 kc ks Q ⟨hx, hb, hml, hown, hts, hnw, hK, hkc, hks, hfr, hlo⟩ hA hR X Y hX hY ls st M r h H locs arr hW hl
  unfold s_dupx1 at h
  rcases st with _ | ⟨a, _ | ⟨b, rest⟩⟩
  · cases h
  · cases h
  · refine lv_dup_x1 hx hb hd (ptv_cat ad a) (ptv_cat ad b) ?_
    rw [← hn]
    exact hX _ _ _ _ _ h _ _ _ hW hl
theorem sn_pop {nx : Nat} (hd : decode cc bpc = .ok (.pop, 1)) (hn : pcs nx = bpc + 1) : pSnd yn wk own cc nL ret pcs bpc (s_pop nx) := by
  intro p l e R s m args below meth c G ad cA A H0 kc ks Q ⟨hx, hb, hml, hown, hts, hnw, hK, hkc, hks, hfr, hlo⟩ hA hR X Y hX hY ls st M r h H locs arr hW hl
  unfold s_pop at h
  rcases st with _ | ⟨a, rest⟩
  · cases h
  · refine lv_pop hx hb hd (ptv_cat ad a) ?_
    rw [← hn]
    exact hX _ _ _ _ _ h _ _ _ hW hl
theorem sn_ifnull {off : Int} {tgt nx : Nat} (hd : decode cc bpc = .ok (.ifnull off, 3)) (ht : (bpc : Int) + off = (pcs tgt : Int)) (hn : pcs nx = bpc + 3) : pSnd yn wk own cc nL ret pcs bpc (s_ifnull tgt nx) := by
  intro p l e R s m args below meth c G ad cA A H0 kc ks Q ⟨hx, hb, hml, hown, hts, hnw, hK, hkc, hks, hfr, hlo⟩ hA hR X Y hX hY ls st M r h H locs arr hW hl
  unfold s_ifnull at h
  rcases st with _ | ⟨x | _ | _ | o, rest⟩
  · cases h
  · cases h
  · cases h
  · exact lv_ifnullN hx hb hd ht (hX _ _ _ _ _ h _ _ _ hW hl)
  · refine lv_ifnull hx hb hd ?_
    rw [← hn]
    exact hX _ _ _ _ _ h _ _ _ hW hl
theorem sn_ifnonnull {off : Int} {tgt nx : Nat} (hd : decode cc bpc = .ok (.ifnonnull off, 3)) (ht : (bpc : Int) + off = (pcs tgt : Int)) (hn : pcs nx = bpc + 3) : pSnd yn wk own cc nL ret pcs bpc (s_ifnull nx tgt) := by
  intro p l e R s m args below meth c G ad cA A H0 kc ks Q ⟨hx, hb, hml, hown, hts, hnw, hK, hkc, hks, hfr, hlo⟩ hA hR X Y hX hY ls st M r h H locs arr hW hl
  unfold s_ifnull at h
  rcases st with _ | ⟨x | _ | _ | o, rest⟩
  · cases h
  · cases h
  · cases h
  · refine lv_ifnonnullN hx hb hd ?_
    rw [← hn]
    exact hX _ _ _ _ _ h _ _ _ hW hl
  · exact lv_ifnonnull hx hb hd ht (hX _ _ _ _ _ h _ _ _ hW hl)
theorem sn_iret (hr : ret = some .int) (hd : decode cc bpc = .ok (.ireturn, 1)) : pSnd yn wk own cc nL ret pcs bpc (s_iret) := by
  intro p l e R s m args below meth c G ad cA A H0 kc ks Q ⟨hx, hb, hml, hown, hts, hnw, hK, hkc, hks, hfr, hlo⟩ hA hR X Y hX hY ls st M r h H locs arr hW hl
  unfold s_iret at h
  rcases st with _ | ⟨x | x, _ | ⟨y, rest⟩⟩
  any_goals cases h
  exact hR.1 hr _ _ _ _ _ _ hd hW
theorem sn_zret (hr : ret = some .boolean) (hd : decode cc bpc = .ok (.ireturn, 1)) : pSnd yn wk own cc nL ret pcs bpc (s_zret) := by
  intro p l e R s m args below meth c G ad cA A H0 kc ks Q ⟨hx, hb, hml, hown, hts, hnw, hK, hkc, hks, hfr, hlo⟩ hA hR X Y hX hY ls st M r h H locs arr hW hl
  unfold s_zret at h
  rcases st with _ | ⟨x | x, _ | ⟨y, rest⟩⟩
  any_goals cases h
  dsimp only at h
  split at h
  · rename_i h1
    cases h
    exact hR.2.1 hr _ _ _ _ _ _ h1 hd hW
  · cases h
theorem sn_vret (hr : ret = none) (hd : decode cc bpc = .ok (.return_, 1)) : pSnd yn wk own cc nL ret pcs bpc (s_vret) := by
  intro p l e R s m args below meth c G ad cA A H0 kc ks Q ⟨hx, hb, hml, hown, hts, hnw, hK, hkc, hks, hfr, hlo⟩ hA hR X Y hX hY ls st M r h H locs arr hW hl
  unfold s_vret at h
  rcases st with _ | ⟨y, rest⟩
  · cases h
    exact hR.2.2.1 hr _ _ _ _ _ hd hW
  · cases h
theorem sn_aret (hr : ∃ n, ret = some (.object n)) (hd : decode cc bpc = .ok (.areturn, 1)) : pSnd yn wk own cc nL ret pcs bpc (s_aret) := by
  intro p l e R s m args below meth c G ad cA A H0 kc ks Q ⟨hx, hb, hml, hown, hts, hnw, hK, hkc, hks, hfr, hlo⟩ hA hR X Y hX hY ls st M r h H locs arr hW hl
  unfold s_aret at h
  rcases st with _ | ⟨x | _ | x, _ | ⟨y, rest⟩⟩
  any_goals cases h
  exact hR.2.2.2 hr _ _ _ _ _ _ hd hW
theorem sn_none  : pSnd yn wk own cc nL ret pcs bpc (s_none) := by
  intro p l e R s m args below meth c G ad cA A H0 kc ks Q ⟨hx, hb, hml, hown, hts, hnw, hK, hkc, hks, hfr, hlo⟩ hA hR X Y hX hY ls st M r h H locs arr hW hl
  cases h
theorem sn_sw_aux {X : pX} {ls r : List pV} {M : pM} {q9 : pR} {x : Int} {d : Nat} : ∀ {ps : List (Int × Nat)}, ps.foldr (fun q e => if eq32 x q.1 then X q.2 ls r M else e) (X d ls r M) = some q9 →
    (∃ (j : Nat) (q : Int × Nat), ps[j]? = some q ∧ eq32 x q.1 ∧ X q.2 ls r M = some q9) ∨ ((∀ q : Int × Nat, q ∈ ps → ¬ eq32 x q.1) ∧ X d ls r M = some q9)
  | [], h => Or.inr ⟨fun _ h => absurd h List.not_mem_nil, h⟩
  | q :: ps, h => by
    rw [List.foldr_cons] at h
    split at h
    · rename_i h1; exact Or.inl ⟨0, q, rfl, h1, h⟩
    · rename_i h1
      rcases sn_sw_aux h with ⟨j, q2, h2, h3, h4⟩ | ⟨h2, h3⟩
      · exact Or.inl ⟨j + 1, q2, h2, h3, h4⟩
      · exact Or.inr ⟨List.forall_mem_cons.mpr ⟨h1, h2⟩, h3⟩
theorem sn_sw {ps : List (Int × Nat)} {d len : Nat} {dflt lo hi : Int} {offs : Array Int} (hd : decode cc bpc = .ok (.tableswitch dflt lo hi offs, len)) (hb0 : -1000 ≤ lo ∧ hi ≤ 1000) (h1 : ∀ q ∈ ps, lo ≤ q.1 ∧ q.1 ≤ hi ∧ ∃ off, offs[(q.1 - lo).toNat]? = some off ∧ (bpc : Int) + off = (pcs q.2 : Int)) (h2 : ∀ z : Int, lo ≤ z → z ≤ hi → ∃ q ∈ ps, q.1 = z) (ht : (bpc : Int) + dflt = (pcs d : Int)) : pSnd yn wk own cc nL ret pcs bpc (s_sw ps d) := by
  intro p l e R s m args below meth c G ad cA A H0 kc ks Q ⟨hx, hb, hml, hown, hts, hnw, hK, hkc, hks, hfr, hlo⟩ hA hR X Y hX hY ls st M r h H locs arr hW hl
  unfold s_sw at h
  rcases st with _ | ⟨x | x, rest⟩
  · cases h
  · rcases sn_sw_aux h with ⟨j, q, hq, he, hx9⟩ | ⟨hno, hx9⟩
    · obtain ⟨g1, g2, off, g3, g4⟩ := h1 q (List.mem_of_getElem? hq)
      have e : (iI x).toInt = q.1 := by
        rw [show iI x = iI q.1 from he]
        exact Int32.toInt_ofInt_of_le (by omega) (by omega)
      refine lv_tableIn hx hb hd (by rw [e]; omega) (by rw [e]; omega) (by rw [e]; exact g3) g4 ?_
      exact hX _ _ _ _ _ hx9 _ _ _ hW hl
    · refine lv_tableOut hx hb hd ?_ ht (hX _ _ _ _ _ hx9 _ _ _ hW hl)
      apply Classical.byContradiction
      intro hc
      obtain ⟨q, hq, e⟩ := h2 (iI x).toInt (by omega) (by omega)
      exact hno q hq (show iI x = iI q.1 by rw [e]; exact (Int32.ofInt_toInt _).symm)
  · cases h
theorem pbk_some {kd : Nat} {o : Option pR} {X : pX} {nx : Nat} {ls r : List pV} {q9 : pR} (h : pbk kd o X nx ls r = some q9) : ∃ q, o = some q ∧ X nx ls (q.1.toList ++ r) q.2 = some q9 := by
  rcases o with _ | ⟨_ | v | _ | k, M⟩
  · rcases kd with _ | _ | kd <;> cases h
  · refine ⟨_, rfl, ?_⟩
    rcases kd with _ | _ | kd
    · exact h
    · cases h
    · cases h
  · refine ⟨_, rfl, ?_⟩
    rcases kd with _ | _ | kd
    · cases h
    · exact h
    · cases h
  · rcases kd with _ | _ | kd <;> cases h
  · refine ⟨_, rfl, ?_⟩
    rcases kd with _ | _ | kd
    · cases h
    · cases h
    · exact h
theorem pcall_go {p : Program} {l : Launch} {e : Env} {R : Room} {s : State} {m : MethodId} {args : Array Value} {below : List Frame} {meth : Method} {c : Code} {H : Heap} {locs : List Loc} {kc ks : Nat} {Q : State → Prop} {pc : Nat} {arr : Array Slot} {st0 rest : List Value} {G : va_G} {ad : Nat → Nat} {cA : Nat → ClassId} {A0 : Nat → Prop} {H0 : Heap} {M : pM} {q : pR} {a : Array Value}
    (hA : ∀ q : Nat, H0.size ≤ q → A0 q) (hW : pWd G ad cA A0 H0 M H locs)
    (hr : va_Run p l e R s m args below meth c H locs kc ks 0 0 (F0 m pc arr st0) rest (pQ G ad cA (va_A (pW ad cA M) H.size) q a) (va_A (pW ad cA M) H.size))
    (kk : ∀ (H1 : Heap) (locs1 : List Loc), pWd G ad cA A0 H0 q.2 H1 locs1 → W p l e R s m args below meth c H1 locs1 kc ks Q (F0 m (pc + 3) arr ((q.1.map (ptv ad)).toList ++ rest))) : W p l e R s m args below meth c H locs kc ks Q (F0 m pc arr st0) := by
  intro T hT X
  obtain ⟨v, st₀, t, T', L, h0, X', hL, e1, e2, ⟨hv, hP1, hF⟩, st⟩ := hr T hT X
  cases hv
  have hin : ∀ z, va_A (pW ad cA M) H.size z → A0 z := by
    rintro z (⟨k, e9, h⟩ | h)
    · exact hW.2.1.2 k _ h
    · exact hA z (Nat.le_trans hW.2.2.1 h)
  obtain ⟨hz, hk⟩ := hF
  rw [h0] at hz hk
  obtain ⟨t2, a1, b1⟩ := kk T'.heap (locs ++ L) ⟨by rw [e1]; exact hP1, pD_of hW.2.1, Nat.le_trans hW.2.2.1 (by rw [e1]; exact hz), fun z h1 h2 => by rw [e1, hk z (Nat.lt_of_lt_of_le h1 hW.2.2.1) (fun y => h2 (hin z y))]; exact hW.2.2.2.1 z h1 h2, fun z hz9 => by
      rcases List.mem_append.mp hz9 with h | h
      · exact hW.2.2.2.2 z h
      · exact hin _ (hL z h)⟩ T' rfl X'
  exact ⟨t2, st t2 a1, b1⟩
/-- what is known of a callee -/
def pCal (yn : Nat → MethodName) (wk : Nat → List Cond) (k n mL : Nat) (bytes : ByteArray) (cret : Option FieldType) : Prop := wk k = Cond.code (yn k) bytes mL cret :: pws ∧ Cond.code (yn k) bytes mL cret ∈ pws ∧ mL ≤ 60 ∧ Cond.initialized (yn k).cls ∈ pws ∧ ((yn k).cls ≠ "java/lang/invoke/MethodHandle" ∧ (yn k).cls ≠ "java/lang/invoke/VarHandle" ∧ (parseMethodDescriptor (yn k).desc).map (fun d => d.parameters.length) = some n)
theorem pGood {w : Cond} (h : w ∈ pws) : w ∈ lw_tbl ∧ goodWord w = true := List.mem_filter.mp h
theorem pGoodIn {yn : Nat → MethodName} {wk : Nat → List Cond} {k n mL : Nat} {bytes : ByteArray} {cret : Option FieldType} (hC : pCal yn wk k n mL bytes cret) : GoodIn pws (wk k) := by
  have hm : ∀ w ∈ wk k, w ∈ pws := by
    intro w hw
    rw [hC.1] at hw
    rcases List.mem_cons.mp hw with rfl | hw
    · exact hC.2.1
    · exact hw
  exact fun w hw => ⟨hm w hw, good_of_word (pGood (hm w hw)).2⟩
theorem pCB {yn : Nat → MethodName} {wk : Nat → List Cond} {k n mL idx : Nat} {bytes : ByteArray} {cret : Option FieldType} {own : String} {R rm : Room} {s : State} {args : Array Value} (hC : pCal yn wk k n mL bytes cret) (hts : ∀ w ∈ pws, w.before args s = true) (hl : Cond.methodLink own idx (yn k) ∈ pws) (h1 : rm.cells = 0) (h2 : rm.slots = 0) (h3 : rm.frames + 1 ≤ R.frames) (h4 : 80 + rm.locals ≤ R.locals) :
    CallB R s args own idx (yn k) bytes mL cret (wk k) rm 0 0 n := callB_of n hts (pGoodIn hC) hC.1 h1 h2 (hts _ hC.2.2.2.1) (hts _ hl) hC.2.2.2.2 ⟨h3, by have := hC.2.2.1; omega⟩
theorem pblind {G : va_G} {ad : Nat → Nat} {cA : Nat → ClassId} {M : pM} {sz : Nat} {av : List Value} : FrameBlind (va_Pc av (pPre G ad cA M sz)) := fun a U g mk q => by
  obtain ⟨q0, q1, qP, qK, qD, qN⟩ := q
  exact ⟨q0, q1, qP, va_K.moved (u := U) (U := U.calling g mk a) (Vm.Alike.refl U.vm) qK, qD, fun z hz => va_Nw.same rfl rfl (qN z hz)⟩
theorem ppre {G : va_G} {ad : Nat → Nat} {cA : Nat → ClassId} {M : pM} {s : State} {H : Heap} {locs : List Loc} {A : Nat → Prop} {H0 : Heap} (hW : pWd G ad cA A H0 M H locs) (hK : va_K G pcl (ptys cA) s) (hnw : pNw s) : ∀ U : State, U.heap = H → s.WarmedH U.vm → pPre G ad cA M H.size U := fun U hU hWm => ⟨by rw [hU], by rw [hU]; exact hW.1, va_K.moved hWm.alike hK, hW.2.1.weaken (fun _ _ _ _ => trivial), pNw_warm hWm hnw⟩
theorem p_sum_len {ad : Nat → Nat} : ∀ {r : List pV}, ((r.map (ptv ad)).map fun v => v.category).sum = r.length
  | [] => rfl
  | v :: r => by rw [List.map_cons, List.map_cons, List.sum_cons, p_sum_len, ptv_cat, List.length_cons]; omega
theorem sn_callS {kd k n nx idx mL : Nat} {bytes : ByteArray} {cret : Option FieldType} (hC : pCal yn wk k n mL bytes cret) (hlk : Cond.methodLink own idx (yn k) ∈ pws) (hst : Cond.static (yn k) ∈ pws) (hd : decode cc bpc = .ok (.invokestatic idx, 3)) (hn : pcs nx = bpc + 3) : pSnd yn wk own cc nL ret pcs bpc (s_callS kd k n nx) := by
  intro p l e R s m args below meth c G ad cA A H0 kc ks Q ⟨hx, hb, hml, hown, hts, hnw, hK, hkc, hks, hfr, hlo⟩ hA hR X Y hX hY ls st M r h H locs arr hW hl
  unfold s_callS at h
  cases hk9 : (Nat.ble n st.length && Nat.ble st.length 8) with
  | false => rw [hk9] at h; cases h
  | true =>
    rw [hk9, cond_true] at h
    have hn1 : n ≤ st.length := Nat.le_of_ble_eq_true (Bool.and_eq_true_iff.mp hk9).1
    have hn2 : st.length ≤ 8 := Nat.le_of_ble_eq_true (Bool.and_eq_true_iff.mp hk9).2
    obtain ⟨q, hq, h⟩ := pbk_some h
    obtain ⟨rm, r1, r2, r3, r4, hM⟩ := hY _ _ _ _ hq
    have es : st.map (ptv ad) = (((st.take n).reverse).map (ptv ad)).reverse ++ (st.drop n).map (ptv ad) := by
      rw [← List.map_reverse, List.reverse_reverse, ← List.map_append, List.take_append_drop]
    refine pcall_go hA hW (va_runS (As := ((st.take n).reverse).map (ptv ad)) (rest := (st.drop n).map (ptv ad)) ⟨hx, hb, hml, hown, hts⟩ (hM H.size) ⟨pCB hC hts hlk r1 r2 r3 r4, hts _ hst⟩ ⟨pblind, fun U hU hWm => ⟨rfl, ppre hW hK hnw U hU hWm⟩⟩ rfl (by rw [List.length_map, List.length_reverse, List.length_take]; omega) (hl.2.1) es (lv_room (by rw [p_sum_len, List.length_drop]; omega)) hd ⟨by omega, by omega⟩) (fun H1 locs1 hW1 => ?_)
    have e9 := hX _ _ _ _ _ h _ _ _ hW1 hl
    rw [← hn]
    rw [List.map_append] at e9
    rcases q with ⟨_ | v, M9⟩ <;> exact e9
theorem sn_callSN {kd k n nx idx mL : Nat} {bytes : ByteArray} {cret : Option FieldType} {host : String} (hC : pCal yn wk k n mL bytes cret) (hlk : (own, idx, yn k, host) ∈ pnest) (hst : Cond.static (yn k) ∈ pws) (hd : decode cc bpc = .ok (.invokestatic idx, 3)) (hn : pcs nx = bpc + 3) : pSnd yn wk own cc nL ret pcs bpc (s_callS kd k n nx) := by
  intro p l e R s m args below meth c G ad cA A H0 kc ks Q ⟨hx, hb, hml, hown, hts, hnw, hK, hkc, hks, hfr, hlo⟩ hA hR X Y hX hY ls st M r h H locs arr hW hl
  unfold s_callS at h
  cases hk9 : (Nat.ble n st.length && Nat.ble st.length 8) with
  | false => rw [hk9] at h; cases h
  | true =>
    rw [hk9, cond_true] at h
    have hn1 : n ≤ st.length := Nat.le_of_ble_eq_true (Bool.and_eq_true_iff.mp hk9).1
    have hn2 : st.length ≤ 8 := Nat.le_of_ble_eq_true (Bool.and_eq_true_iff.mp hk9).2
    obtain ⟨q, hq, h⟩ := pbk_some h
    obtain ⟨rm, r1, r2, r3, r4, hM⟩ := hY _ _ _ _ hq
    have es : st.map (ptv ad) = (((st.take n).reverse).map (ptv ad)).reverse ++ (st.drop n).map (ptv ad) := by
      rw [← List.map_reverse, List.reverse_reverse, ← List.map_append, List.take_append_drop]
    refine pcall_go hA hW (va_runSN (As := ((st.take n).reverse).map (ptv ad)) (rest := (st.drop n).map (ptv ad)) ⟨hx, hb, hml, hown, hts⟩ (hM H.size) ⟨va_cnB n hts (pGoodIn hC) hC.1 r1 r2 (hnw _ hlk) (hts _ hC.2.2.2.1) hC.2.2.2.2 ⟨r3, by have := hC.2.2.1; omega⟩, hts _ hst, trivial⟩ ⟨pblind, fun U hU hWm => ⟨rfl, ppre hW hK hnw U hU hWm⟩⟩ rfl (by rw [List.length_map, List.length_reverse, List.length_take]; omega) (hl.2.1) es (lv_room (by rw [p_sum_len, List.length_drop]; omega)) hd ⟨by omega, by omega⟩) (fun H1 locs1 hW1 => ?_)
    have e9 := hX _ _ _ _ _ h _ _ _ hW1 hl
    rw [← hn]
    rw [List.map_append] at e9
    rcases q with ⟨_ | v, M9⟩ <;> exact e9
theorem sn_callV {kd ci k n nx idx mL N : Nat} {bytes : ByteArray} {cret : Option FieldType} {C : String} {T : u_T} (hc : pcl[ci]? = some (C, T, N)) (hci : ci < 100) (hC : pCal yn wk k n mL bytes cret) (hlk : Cond.methodLink own idx (yn k) ∈ pws) (him : Cond.instanceMethod (yn k) ∈ pws) (hse : Cond.selects C (yn k) (yn k) ∈ pws) (hd : decode cc bpc = .ok (.invokevirtual idx, 3)) (hn : pcs nx = bpc + 3) : pSnd yn wk own cc nL ret pcs bpc (s_callV kd ci k n nx) := by
  intro p l e R s m args below meth c G ad cA A H0 kc ks Q ⟨hx, hb, hml, hown, hts, hnw, hK, hkc, hks, hfr, hlo⟩ hA hR X Y hX hY ls st M r h H locs arr hW hl
  unfold s_callV at h
  rcases hsd : st.drop n with _ | ⟨x | _ | _ | o, rest⟩
  any_goals (rw [hsd] at h; cases h)
  rw [hsd] at h
  dsimp only at h
  cases hk9 : (Nat.beq (pK o) ci && Nat.ble st.length 8) with
  | false => rw [hk9] at h; cases h
  | true =>
    rw [hk9, cond_true] at h
    have hko : pK o = ci := Nat.eq_of_beq_eq_true (Bool.and_eq_true_iff.mp hk9).1
    have hn2 : st.length ≤ 8 := Nat.le_of_ble_eq_true (Bool.and_eq_true_iff.mp hk9).2
    have hln : rest.length + 1 + n = st.length := by
      have h9 := congrArg List.length hsd
      rw [List.length_drop, List.length_cons] at h9
      omega
    obtain ⟨q, hq, h⟩ := pbk_some h
    obtain ⟨rm, r1, r2, r3, r4, hM⟩ := hY _ _ _ _ hq
    have es : st.map (ptv ad) = (((st.take n).reverse).map (ptv ad)).reverse ++ .ref (ad o) :: rest.map (ptv ad) := by
      rw [← List.map_reverse, List.reverse_reverse]
      show _ = (st.take n).map (ptv ad) ++ ((.inr (o + 2) :: rest : List pV)).map (ptv ad)
      rw [← hsd, ← List.map_append, List.take_append_drop]
    have hat : (pW ad cA M)[o]? = some (ad o, .inr (ci, (List.range (pL o)).map fun k => ptv ad (pfv o k M))) := by
      rw [pW_at ad cA M (pK_lt (by omega))]; unfold pEn
      rw [if_pos (by omega : pK o < 100), hko]
    refine pcall_go hA hW (va_runV (b := ad o) (C := C) (As := ((st.take n).reverse).map (ptv ad)) (rest := rest.map (ptv ad)) ⟨hx, hb, hml, hown, hts⟩ (hM H.size) ⟨pCB hC hts hlk r1 r2 r3 r4, hts _ him, hts _ hse⟩ ⟨pblind, va_recv hK hW.1 hc hat, fun U hU hWm => ⟨rfl, ppre hW hK hnw U hU hWm⟩⟩ rfl (by rw [List.length_map, List.length_reverse, List.length_take]; omega) (hl.2.1) es (lv_room (by rw [p_sum_len]; omega)) hd ⟨by omega, by omega⟩) (fun H1 locs1 hW1 => ?_)
    have e9 := hX _ _ _ _ _ h _ _ _ hW1 hl
    rw [← hn]
    rw [List.map_append] at e9
    rcases q with ⟨_ | v, M9⟩ <;> exact e9
theorem sn_mmax {nx idx : Nat} (hlk : Cond.methodLink own idx Lib.Math.max.name ∈ pws) (hst : Cond.static Lib.Math.max.name ∈ pws) (hin : Cond.initialized "java/lang/Math" ∈ pws) (hcd : Cond.code Lib.Math.max.name Lib.Math.max.code 2 (some .int) ∈ pws) (hd : decode cc bpc = .ok (.invokestatic idx, 3)) (hn : pcs nx = bpc + 3) : pSnd yn wk own cc nL ret pcs bpc (s_mm jmax nx) := by
  intro p l e R s m args below meth c G ad cA A H0 kc ks Q ⟨hx, hb, hml, hown, hts, hnw, hK, hkc, hks, hfr, hlo⟩ hA hR X Y hX hY ls st M r h H locs arr hW hl
  unfold s_mm at h
  rcases st with _ | ⟨y | y, _ | ⟨x | x, rest⟩⟩
  any_goals cases h
  dsimp only at h
  cases hk9 : Nat.ble rest.length 8 with
  | false => rw [hk9] at h; cases h
  | true =>
    rw [hk9, cond_true] at h
    have hn2 : rest.length ≤ 8 := Nat.le_of_ble_eq_true hk9
    refine va_mmax hx hb (hml.trans hl.2.1.symm) hown (hts _ hlk) (hts _ hst) (hts _ hin) (hts _ hcd) hfr (by rw [p_sum_len]; omega) hkc hks hd ?_
    have e9 := hX _ _ _ _ _ h _ _ _ hW hl
    rw [← hn]
    rw [List.map_cons, show ptv ad (.inl (jmax x y)) = Value.int (if iI x < iI y then iI y else iI x) from by
      unfold jmax
      split <;> rfl] at e9
    exact e9
theorem sn_mmin {nx idx : Nat} (hlk : Cond.methodLink own idx Lib.Math.min.name ∈ pws) (hst : Cond.static Lib.Math.min.name ∈ pws) (hin : Cond.initialized "java/lang/Math" ∈ pws) (hcd : Cond.code Lib.Math.min.name Lib.Math.min.code 2 (some .int) ∈ pws) (hd : decode cc bpc = .ok (.invokestatic idx, 3)) (hn : pcs nx = bpc + 3) : pSnd yn wk own cc nL ret pcs bpc (s_mm jmin nx) := by
  intro p l e R s m args below meth c G ad cA A H0 kc ks Q ⟨hx, hb, hml, hown, hts, hnw, hK, hkc, hks, hfr, hlo⟩ hA hR X Y hX hY ls st M r h H locs arr hW hl
  unfold s_mm at h
  rcases st with _ | ⟨y | y, _ | ⟨x | x, rest⟩⟩
  any_goals cases h
  dsimp only at h
  cases hk9 : Nat.ble rest.length 8 with
  | false => rw [hk9] at h; cases h
  | true =>
    rw [hk9, cond_true] at h
    have hn2 : rest.length ≤ 8 := Nat.le_of_ble_eq_true hk9
    refine va_mmin hx hb (hml.trans hl.2.1.symm) hown (hts _ hlk) (hts _ hst) (hts _ hin) (hts _ hcd) hfr (by rw [p_sum_len]; omega) hkc hks hd ?_
    have e9 := hX _ _ _ _ _ h _ _ _ hW hl
    rw [← hn]
    rw [List.map_cons, show ptv ad (.inl (jmin x y)) = Value.int (if iI y < iI x then iI y else iI x) from by
      unfold jmin
      split <;> rfl] at e9
    exact e9
end SND
end
section
/-! THE RUN: with fuel, its limit, and that the real machine does what the run says -/
section EXEC
variable (prog : Nat → Nat → pS) (nL : Nat → Nat)
def ppad (k : Nat) (a : List pV) : List pV := a ++ List.replicate (nL k - a.length) (.inr 0)
def pexec : Nat → Nat → Nat → pX
  | 0, _, _ => fun _ _ _ _ => none
  | n + 1, d, k => fun i ls st M => prog k i (pexec n d k) (match d with
    | 0 => fun _ _ _ => none
    | d' + 1 => fun k' a M' => bif Nat.ble a.length (nL k') then pexec n d' k' 0 (ppad nL k' a) [] M' else none) ls st M
def pcal (n : Nat) : Nat → pY
  | 0 => fun _ _ _ => none
  | d' + 1 => fun k' a M' => bif Nat.ble a.length (nL k') then pexec prog nL n d' k' 0 (ppad nL k' a) [] M' else none
theorem pexec_s (n d k i : Nat) (ls st : List pV) (M : pM) : pexec prog nL (n + 1) d k i ls st M = prog k i (pexec prog nL n d k) (pcal prog nL n d) ls st M := by
  cases d <;> rfl
/-- what a step may be: an end, a going on, or one call and a going on -/
def pForm (f : pS) : Prop := ∀ ls st M, (∃ q, ∀ X Y, f X Y ls st M = q) ∨ (∃ i ls' st' M', ∀ X Y, f X Y ls st M = X i ls' st' M') ∨ (∃ kd k a M' nx ls' r, ∀ X Y, f X Y ls st M = pbk kd (Y k a M') X nx ls' r)
theorem pbk_of {kd : Nat} {o : Option pR} {X X' : pX} {nx : Nat} {ls r : List pV} {q9 : pR} (hX : ∀ i ls st M r, X i ls st M = some r → X' i ls st M = some r) (h : pbk kd o X nx ls r = some q9) : pbk kd o X' nx ls r = some q9 := by
  rcases o with _ | ⟨_ | v | _ | k, M⟩ <;> rcases kd with _ | _ | kd
  any_goals cases h
  all_goals exact hX _ _ _ _ _ h
theorem pForm.mono {f : pS} (hf : pForm f) {X X' : pX} {Y Y' : pY} (hX : ∀ i ls st M r, X i ls st M = some r → X' i ls st M = some r) (hY : ∀ k a M r, Y k a M = some r → Y' k a M = some r) {ls st : List pV} {M : pM} {r : pR} (h : f X Y ls st M = some r) : f X' Y' ls st M = some r := by
  rcases hf ls st M with ⟨q, e⟩ | ⟨i, ls', st', M', e⟩ | ⟨kd, k, a, M', nx, ls', r', e⟩
  · rw [e] at h ⊢; exact h
  · rw [e] at h ⊢; exact hX _ _ _ _ _ h
  · rw [e] at h ⊢
    obtain ⟨q, hq, -⟩ := pbk_some h
    rw [hY _ _ _ _ hq, ← hq]
    exact pbk_of hX h
theorem pexec_mono1 (hF : ∀ k i, pForm (prog k i)) : ∀ n d k i ls st M r, pexec prog nL n d k i ls st M = some r → pexec prog nL (n + 1) d k i ls st M = some r := by
  intro n
  induction n with
  | zero => intro d k i ls st M r h; cases h
  | succ n ih =>
    intro d k i ls st M r h
    rw [pexec_s] at h ⊢
    refine (hF k i).mono (fun i ls st M r h => ih d k i ls st M r h) (fun k' a M' r h => ?_) h
    cases d with
    | zero => cases h
    | succ d =>
      unfold pcal at h ⊢
      dsimp only at h ⊢
      cases hb : Nat.ble a.length (nL k') with
      | false => rw [hb] at h; cases h
      | true => rw [hb] at h; exact ih d k' _ _ _ _ _ h
theorem pexec_mono (hF : ∀ k i, pForm (prog k i)) {n n' : Nat} (hn : n ≤ n') {d k i : Nat} {ls st : List pV} {M : pM} {r : pR} (h : pexec prog nL n d k i ls st M = some r) : pexec prog nL n' d k i ls st M = some r := by
  induction hn with
  | refl => exact h
  | step _ ih => exact pexec_mono1 prog nL hF _ _ _ _ _ _ _ _ ih
/-- the limit -/
noncomputable def pE (d k : Nat) : pX := fun i ls st M => @dite _ (∃ (n : Nat) (r : pR), pexec prog nL n d k i ls st M = some r) (Classical.propDecidable _) (fun h => some (Classical.choose (Classical.choose_spec h))) (fun _ => none)
noncomputable def pYE : Nat → pY
  | 0 => fun _ _ _ => none
  | d' + 1 => fun k' a M' => bif Nat.ble a.length (nL k') then pE prog nL d' k' 0 (ppad nL k' a) [] M' else none
theorem pE_some (hF : ∀ k i, pForm (prog k i)) {d k i : Nat} {ls st : List pV} {M : pM} {r : pR} : pE prog nL d k i ls st M = some r ↔ ∃ n, pexec prog nL n d k i ls st M = some r := by
  unfold pE
  by_cases h : ∃ (n : Nat) (r : pR), pexec prog nL n d k i ls st M = some r
  · rw [dif_pos h]
    have h1 := Classical.choose_spec (Classical.choose_spec h)
    generalize Classical.choose (Classical.choose_spec h) = r1 at h1 ⊢
    generalize Classical.choose h = n1 at h1
    constructor
    · intro e; cases e; exact ⟨_, h1⟩
    · rintro ⟨n2, h2⟩
      have a1 := pexec_mono prog nL hF (Nat.le_max_left n1 n2) h1
      have a2 := pexec_mono prog nL hF (Nat.le_max_right n1 n2) h2
      rw [a1] at a2
      exact a2
  · rw [dif_neg h]
    constructor
    · intro e; cases e
    · rintro ⟨n, h2⟩; exact absurd ⟨n, _, h2⟩ h
theorem pYE_some (hF : ∀ k i, pForm (prog k i)) {d k : Nat} {a : List pV} {M : pM} {r : pR} : pYE prog nL d k a M = some r ↔ ∃ n, pcal prog nL n d k a M = some r := by
  cases d with
  | zero => exact ⟨fun h => (by cases h), fun ⟨_, h⟩ => (by cases h)⟩
  | succ d =>
    unfold pYE pcal
    dsimp only
    cases hb : Nat.ble a.length (nL k) with
    | false => exact ⟨fun h => (by cases h), fun ⟨_, h⟩ => (by cases h)⟩
    | true => exact pE_some prog nL hF
theorem pcal_mono (hF : ∀ k i, pForm (prog k i)) {n n' : Nat} (hn : n ≤ n') {d k : Nat} {a : List pV} {M : pM} {r : pR} (h : pcal prog nL n d k a M = some r) : pcal prog nL n' d k a M = some r := by
  cases d with
  | zero => cases h
  | succ d =>
    unfold pcal at h ⊢
    dsimp only at h ⊢
    cases hb : Nat.ble a.length (nL k) with
    | false => rw [hb] at h; cases h
    | true => rw [hb] at h; exact pexec_mono prog nL hF hn h
theorem opt_ext {α : Type} {a b : Option α} (h1 : ∀ r, a = some r → b = some r) (h2 : ∀ r, b = some r → a = some r) : a = b := by
  cases a with
  | none => cases b with
    | none => rfl
    | some r => exact h2 r rfl
  | some r => exact (h1 r rfl).symm
theorem pE_eq (hF : ∀ k i, pForm (prog k i)) (d k i : Nat) (ls st : List pV) (M : pM) : pE prog nL d k i ls st M = prog k i (pE prog nL d k) (pYE prog nL d) ls st M := by
  apply opt_ext
  · intro r h
    obtain ⟨n, h⟩ := (pE_some prog nL hF).mp h
    cases n with
    | zero => cases h
    | succ n =>
      rw [pexec_s] at h
      exact (hF k i).mono (fun _ _ _ _ _ h => (pE_some prog nL hF).mpr ⟨n, h⟩) (fun _ _ _ _ h => (pYE_some prog nL hF).mpr ⟨n, h⟩) h
  · intro r h
    rcases hF k i ls st M with ⟨q, e⟩ | ⟨i', ls', st', M', e⟩ | ⟨kd, k', a, M', nx, ls', r', e⟩
    · refine (pE_some prog nL hF).mpr ⟨1, ?_⟩
      rw [pexec_s, e]; rw [e] at h; exact h
    · rw [e] at h
      obtain ⟨n, h⟩ := (pE_some prog nL hF).mp h
      refine (pE_some prog nL hF).mpr ⟨n + 1, ?_⟩
      rw [pexec_s, e]; exact h
    · rw [e] at h
      obtain ⟨q, hq, h2⟩ := pbk_some h
      obtain ⟨n1, hq⟩ := (pYE_some prog nL hF).mp hq
      obtain ⟨n2, h3⟩ := (pE_some prog nL hF).mp h2
      refine (pE_some prog nL hF).mpr ⟨max n1 n2 + 1, ?_⟩
      rw [pexec_s, e, pcal_mono prog nL hF (Nat.le_max_left n1 n2) hq]
      have h4 := pexec_mono prog nL hF (Nat.le_max_right n1 n2) h3
      have e1 := (pYE_some prog nL hF).mpr ⟨n1, hq⟩
      rw [e1] at h
      clear e e1 hq
      rcases q with ⟨_ | v | _ | k9, M9⟩ <;> rcases kd with _ | _ | kd
      any_goals cases h
      all_goals exact h4
/-- many steps at once, up to the places where to stop -/
def prun (code : Nat → pS) (stop : Nat → Bool) (X : pX) (Y : pY) : Nat → pX
  | 0 => X
  | n + 1 => fun i ls st M => code i (fun i' ls' st' M' => bif stop i' then X i' ls' st' M' else prun code stop X Y n i' ls' st' M') Y ls st M
theorem prun_eq (hF : ∀ k i, pForm (prog k i)) (d k : Nat) (stop : Nat → Bool) : ∀ n, prun (prog k) stop (pE prog nL d k) (pYE prog nL d) n = pE prog nL d k := by
  intro n
  induction n with
  | zero => rfl
  | succ n ih =>
    unfold prun
    funext i ls st M
    rw [ih, pE_eq prog nL hF]
    congr 1
    funext i' ls' st' M'
    cases stop i' <;> rfl
end EXEC
section SOUND
variable (prog : Nat → Nat → pS) (nL : Nat → Nat) (yn : Nat → MethodName) (wk : Nat → List Cond) (cc : Nat → ByteArray) (ret : Nat → Option FieldType) (pcs : Nat → Nat → Nat)
def prm (d : Nat) : Room := { frames := d + 1, cells := 0, slots := 0, locals := 80 * (d + 1) }
/-- what the tables say of the methods -/
def pMeth (k : Nat) : Prop := plainName (yn k).cls = true ∧ wk k = Cond.code (yn k) (cc k) (nL k) (ret k) :: pws ∧ pcs k 0 = 0
theorem p_args_len {ad : Nat → Nat} : ∀ {a : List pV}, lg_sl (a.map (ptv ad)) = a.map fun v => Slot.val (ptv ad v)
  | [] => rfl
  | v :: a => by
    have h := p_args_len (ad := ad) (a := a)
    unfold lg_sl at h ⊢
    rw [List.map_cons, List.flatMap_cons, h, if_neg (by rw [ptv_cat]; decide)]
    rfl
theorem p_args_mem {ad : Nat → Nat} : ∀ {a : List pV} {j i : Nat} {v : pV}, a[i]? = some v → (j + i, ptv ad v) ∈ lv_args j (a.map (ptv ad))
  | [], _, _, _, h => by simp at h
  | u :: a, j, 0, v, h => by
    cases h
    exact List.mem_cons_self
  | u :: a, j, i + 1, v, h => by
    refine List.mem_cons_of_mem _ ?_
    rw [if_neg (by rw [ptv_cat]; decide)]
    have := p_args_mem (ad := ad) (a := a) (j := j + 1) (i := i) (v := v) h
    rw [show j + (i + 1) = j + 1 + i by omega]
    exact this
theorem p_entry {ad : Nat → Nat} {a : List pV} {n : Nat} {arr : Array Slot} (h : a.length ≤ n) (hl : lv_has arr n (lv_args 0 (a.map (ptv ad)))) : pLs ad n (a ++ List.replicate (n - a.length) (.inr 0)) arr := by
  refine ⟨by simp; omega, hl.1, hl.2.1, fun i v hv hne => ?_⟩
  rcases Nat.lt_or_ge i a.length with q | q
  · rw [List.getElem?_append_left q] at hv
    have := hl.2.2 _ (p_args_mem (ad := ad) (j := 0) hv)
    rw [Nat.zero_add] at this
    exact this
  · rw [List.getElem?_append_right q, List.getElem?_replicate] at hv
    split at hv
    · cases hv; exact absurd rfl hne
    · cases hv
theorem pexec_sound (hS : ∀ k i, pSnd yn wk (yn k).cls (cc k) (nL k) (ret k) (pcs k) (pcs k i) (prog k i)) (hM : ∀ k, (∀ i, prog k i = s_none) ∨ pMeth nL yn wk cc ret pcs k) :
    ∀ n d, (∀ k (p : Program) (l : Launch) (e : Env) (R : Room) (s : State) (m : MethodId) (args : Array Value) (below : List Frame) (meth : Method) (c : Code) (G : va_G) (ad : Nat → Nat) (cA : Nat → ClassId) (A : Nat → Prop) (H0 : Heap) (kc ks : Nat) (Q : pR → State → Prop),
      pCx p R s m args meth c G cA (yn k).cls (cc k) (nL k) kc ks → d + 1 ≤ R.frames → 80 * (d + 1) ≤ R.locals → (∀ q : Nat, H0.size ≤ q → A q) → pRt p l e R s m args below meth c G ad cA A H0 kc ks Q (cc k) (ret k) →
      pGd p l e R s m args below meth c G ad cA A H0 kc ks Q (nL k) (pcs k) (pexec prog nL n d k))
    ∧ (∀ (l : Launch) (G : va_G) (ad : Nat → Nat) (cA : Nat → ClassId) (R : Room), d + 1 ≤ R.frames → 80 * (d + 1) ≤ R.locals → pMt l G ad cA yn wk R (pcal prog nL n d)) := by
  intro n
  induction n with
  | zero =>
    intro d
    refine ⟨fun k p l e R s m args below meth c G ad cA A H0 kc ks Q _ _ _ _ _ i ls st M r h => (by cases h), fun l G ad cA R _ _ k a M r h => ?_⟩
    cases d with
    | zero => cases h
    | succ d =>
      unfold pcal at h
      dsimp only at h
      cases hb : Nat.ble a.length (nL k) with
      | false => rw [hb] at h; cases h
      | true => rw [hb] at h; cases h
  | succ n ih =>
    intro d
    have hfirst : ∀ k (p : Program) (l : Launch) (e : Env) (R : Room) (s : State) (m : MethodId) (args : Array Value) (below : List Frame) (meth : Method) (c : Code) (G : va_G) (ad : Nat → Nat) (cA : Nat → ClassId) (A : Nat → Prop) (H0 : Heap) (kc ks : Nat) (Q : pR → State → Prop), ∀ d,
      pCx p R s m args meth c G cA (yn k).cls (cc k) (nL k) kc ks → d + 1 ≤ R.frames → 80 * (d + 1) ≤ R.locals → (∀ q : Nat, H0.size ≤ q → A q) → pRt p l e R s m args below meth c G ad cA A H0 kc ks Q (cc k) (ret k) →
      pGd p l e R s m args below meth c G ad cA A H0 kc ks Q (nL k) (pcs k) (pexec prog nL (n + 1) d k) := by
      intro k p l e R s m args below meth c G ad cA A H0 kc ks Q d hC h1 h2 hA hR i ls st M r h H locs arr hW hl
      rw [pexec_s] at h
      exact hS k i p l e R s m args below meth c G ad cA A H0 kc ks Q hC hA hR _ _ ((ih d).1 k p l e R s m args below meth c G ad cA A H0 kc ks Q hC h1 h2 hA hR) ((ih d).2 l G ad cA R h1 h2) ls st M r h H locs arr hW hl
    refine ⟨fun k p l e R s m args below meth c G ad cA A H0 kc ks Q => hfirst k p l e R s m args below meth c G ad cA A H0 kc ks Q d, fun l G ad cA R h1 h2 k a M r h => ?_⟩
    cases d with
    | zero => cases h
    | succ d =>
      unfold pcal at h
      dsimp only at h
      cases hb : Nat.ble a.length (nL k) with
      | false => rw [hb] at h; cases h
      | true =>
        rw [hb, cond_true] at h
        have hlen : a.length ≤ nL k := Nat.le_of_ble_eq_true hb
        rcases hM k with hn | hme
        · rw [pexec_s, hn] at h; cases h
        obtain ⟨m1, m2, m3⟩ := hme
        refine ⟨prm d, rfl, rfl, h1, by show 80 + 80 * (d + 1) ≤ R.locals; omega, fun sz => ?_⟩
        refine Met.ofW (cc := cc k) (maxL := nL k) (ret := ret k) m1 m2 ?_
        intro p e s m args below meth c s₁ B hml hv
        obtain ⟨rfl, hsz, hP, hK, hD0, hN⟩ := hv
        have hx := B.exec
        have hb := B.bytes
        have hr := B.returns
        have hts := atoms_spec (ws := wk k) B.pre
        have hown : s.vm.findClass (yn k).cls = some m.cls := findClass_of_methodNamed B.named
        have hlocks := B.notSynchronized
        subst hsz
        have hD := hD0.self (sz := s.heap.size)
        have hl := lv_entry (a.map (ptv ad)) (n := nL k) (by rw [p_args_len, List.length_map]; exact hlen)
        rw [lg_entry_eq]
        generalize (lg_sl (a.map (ptv ad)) ++ List.replicate (nL k - (lg_sl (a.map (ptv ad))).length) Slot.unset).toArray = arr at hl ⊢
        have hl := p_entry hlen hl
        have hCx : pCx p (headSpec (wk k) (prm d)).room s m (List.map (ptv ad) a).toArray meth c G cA (yn k).cls (cc k) (nL k) 0 0 := ⟨hx, hb, hml, hown, fun w hw => hts w (by rw [m2]; exact List.mem_cons_of_mem _ hw), hN, hK, Nat.zero_le _, Nat.zero_le _, by show 1 ≤ d + 1; omega, by show 30 ≤ 80 * (d + 1); omega⟩
        have hRt : pRt p l e (headSpec (wk k) (prm d)).room s m (List.map (ptv ad) a).toArray below meth c G ad cA (va_A (pW ad cA M) s.heap.size) s.heap 0 0 (fun r => MQ below (pQ G ad cA (va_A (pW ad cA M) s.heap.size) r) (List.map (ptv ad) a).toArray s 0 0 (va_A (pW ad cA M) s.heap.size)) (cc k) (ret k) := by
          refine ⟨fun hr9 v M9 H9 locs9 arr9 pc9 hd9 hW9 => ?_, fun hr9 v M9 H9 locs9 arr9 pc9 hv9 hd9 hW9 => ?_, fun hr9 M9 H9 locs9 arr9 pc9 hd9 hW9 => ?_, fun hr9 k9 M9 H9 locs9 arr9 pc9 hd9 hW9 => ?_⟩
          · exact W.iret (v := iI v) hx hb (hr.trans hr9) (fun t ht hWm => ⟨rfl, by rw [ht]; exact hW9.1, hW9.2.2.F ht⟩) hW9.2.2.2.2 hd9 hlocks
          · exact W.zret (v := iI v) (ty := .boolean) hx hb (hr.trans hr9) (iI_z hv9).1 (fun t ht hWm => ⟨rfl, by rw [ht]; exact hW9.1, hW9.2.2.F ht⟩) hW9.2.2.2.2 hd9 hlocks
          · exact W.vret hx hb (hr.trans hr9) (fun t ht hWm => ⟨rfl, by rw [ht]; exact hW9.1, hW9.2.2.F ht⟩) hW9.2.2.2.2 hd9 hlocks
          · obtain ⟨nm9, hr9⟩ := hr9
            refine W.aret (v := ptv ad (.inr (k9 + 1))) (rt := .object nm9) hx hb (hr.trans hr9) (Or.inl ⟨_, rfl⟩) ?_ (fun t ht hWm => ⟨rfl, by rw [ht]; exact hW9.1, hW9.2.2.F ht⟩) hW9.2.2.2.2 hd9 hlocks
            cases k9 with
            | zero => exact Or.inl rfl
            | succ k9 => exact Or.inr ⟨_, rfl⟩
        have hG := hfirst k p l e (headSpec (wk k) (prm d)).room s m (List.map (ptv ad) a).toArray below meth c G ad cA (va_A (pW ad cA M) s.heap.size) s.heap 0 0 _ d hCx (Nat.le_refl _) (Nat.le_refl _) (fun q hq => Or.inr hq) hRt
        have := hG 0 _ _ _ _ h s.heap [] arr ⟨hP, hD, va_S.rf⟩ hl
        rw [m3] at this
        exact this
end SOUND
end
