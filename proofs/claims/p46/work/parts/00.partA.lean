section
-- ===== PART A: goes FIRST, ahead of the names: the tables' words, and 'selects' of the private methods out of them =====
/-- a private method of a class that the tables say can be made, by its rows of tables_1 -/
def lw_okq (q : MethodName × Nat) : Prop := (q.1.cls ≠ "java/lang/invoke/MethodHandle" ∧ q.1.cls ≠ "java/lang/invoke/VarHandle") ∧ Cond.instantiable q.1.cls q.2 ∈ tables_1 ∧ Cond.privateMethod q.1 ∈ tables_1 ∧ Cond.instanceMethod q.1 ∈ tables_1
theorem lwt1 {w : Cond} (j : Nat) (h : tables_1_1[j]? = some w) : w ∈ tables_1 := List.mem_append_left _ (List.mem_of_getElem? h)
theorem lwt2 {w : Cond} (j : Nat) (h : tables_1_2[j]? = some w) : w ∈ tables_1 := List.mem_append_right _ (List.mem_append_left _ (List.mem_of_getElem? h))
theorem lwt3 {w : Cond} (j : Nat) (h : tables_1_3[j]? = some w) : w ∈ tables_1 := List.mem_append_right _ (List.mem_append_right _ (List.mem_append_left _ (List.mem_of_getElem? h)))
theorem lwt4 {w : Cond} (j : Nat) (h : tables_1_4[j]? = some w) : w ∈ tables_1 := List.mem_append_right _ (List.mem_append_right _ (List.mem_append_right _ (List.mem_append_left _ (List.mem_of_getElem? h))))
theorem lwt5 {w : Cond} (j : Nat) (h : tables_1_5[j]? = some w) : w ∈ tables_1 := List.mem_append_right _ (List.mem_append_right _ (List.mem_append_right _ (List.mem_append_right _ (List.mem_append_left _ (List.mem_of_getElem? h)))))
theorem lwt6 {w : Cond} (j : Nat) (h : tables_1_6[j]? = some w) : w ∈ tables_1 := List.mem_append_right _ (List.mem_append_right _ (List.mem_append_right _ (List.mem_append_right _ (List.mem_append_right _ (List.mem_append_left _ (List.mem_of_getElem? h))))))
theorem lwt7 {w : Cond} (j : Nat) (h : tables_1_7[j]? = some w) : w ∈ tables_1 := List.mem_append_right _ (List.mem_append_right _ (List.mem_append_right _ (List.mem_append_right _ (List.mem_append_right _ (List.mem_append_right _ (List.mem_append_left _ (List.mem_of_getElem? h)))))))
theorem lwt8 {w : Cond} (j : Nat) (h : tables_1_8[j]? = some w) : w ∈ tables_1 := List.mem_append_right _ (List.mem_append_right _ (List.mem_append_right _ (List.mem_append_right _ (List.mem_append_right _ (List.mem_append_right _ (List.mem_append_right _ (List.mem_append_left _ (List.mem_of_getElem? h))))))))
theorem lw_c0 : ("SetsStayTogether$HouseReader" ≠ "java/lang/invoke/MethodHandle" ∧ "SetsStayTogether$HouseReader" ≠ "java/lang/invoke/VarHandle") ∧ Cond.instantiable "SetsStayTogether$HouseReader" 1 ∈ tables_1 := ⟨⟨by decide +kernel, by decide +kernel⟩, lwt1 75 rfl⟩
theorem lw_c1 : ("SetsStayTogether$Reader" ≠ "java/lang/invoke/MethodHandle" ∧ "SetsStayTogether$Reader" ≠ "java/lang/invoke/VarHandle") ∧ Cond.instantiable "SetsStayTogether$Reader" 4 ∈ tables_1 := ⟨⟨by decide +kernel, by decide +kernel⟩, lwt1 52 rfl⟩
theorem lw_c2 : ("SetsStayTogether$House" ≠ "java/lang/invoke/MethodHandle" ∧ "SetsStayTogether$House" ≠ "java/lang/invoke/VarHandle") ∧ Cond.instantiable "SetsStayTogether$House" 13 ∈ tables_1 := ⟨⟨by decide +kernel, by decide +kernel⟩, lwt1 100 rfl⟩
theorem lw_c3 : ("SetsStayTogether$Rule" ≠ "java/lang/invoke/MethodHandle" ∧ "SetsStayTogether$Rule" ≠ "java/lang/invoke/VarHandle") ∧ Cond.instantiable "SetsStayTogether$Rule" 3 ∈ tables_1 := ⟨⟨by decide +kernel, by decide +kernel⟩, lwt1 179 rfl⟩
theorem lw_c4 : ("SetsStayTogether" ≠ "java/lang/invoke/MethodHandle" ∧ "SetsStayTogether" ≠ "java/lang/invoke/VarHandle") ∧ Cond.instantiable "SetsStayTogether" 18 ∈ tables_1 := ⟨⟨by decide +kernel, by decide +kernel⟩, lwt1 26 rfl⟩
theorem lw_c5 : ("SetsStayTogether$Past" ≠ "java/lang/invoke/MethodHandle" ∧ "SetsStayTogether$Past" ≠ "java/lang/invoke/VarHandle") ∧ Cond.instantiable "SetsStayTogether$Past" 4 ∈ tables_1 := ⟨⟨by decide +kernel, by decide +kernel⟩, lwt2 8 rfl⟩
theorem lw_c6 : ("SetsStayTogether$Walk" ≠ "java/lang/invoke/MethodHandle" ∧ "SetsStayTogether$Walk" ≠ "java/lang/invoke/VarHandle") ∧ Cond.instantiable "SetsStayTogether$Walk" 12 ∈ tables_1 := ⟨⟨by decide +kernel, by decide +kernel⟩, lwt1 200 rfl⟩
theorem lw_c7 : ("SetsStayTogether$Turns" ≠ "java/lang/invoke/MethodHandle" ∧ "SetsStayTogether$Turns" ≠ "java/lang/invoke/VarHandle") ∧ Cond.instantiable "SetsStayTogether$Turns" 4 ∈ tables_1 := ⟨⟨by decide +kernel, by decide +kernel⟩, lwt2 60 rfl⟩
theorem lw_c8 : ("SetsStayTogether$Journey" ≠ "java/lang/invoke/MethodHandle" ∧ "SetsStayTogether$Journey" ≠ "java/lang/invoke/VarHandle") ∧ Cond.instantiable "SetsStayTogether$Journey" 10 ∈ tables_1 := ⟨⟨by decide +kernel, by decide +kernel⟩, lwt2 82 rfl⟩
theorem lw_c9 : ("java/lang/Throwable" ≠ "java/lang/invoke/MethodHandle" ∧ "java/lang/Throwable" ≠ "java/lang/invoke/VarHandle") ∧ Cond.instantiable "java/lang/Throwable" 6 ∈ tables_1 := ⟨⟨by decide +kernel, by decide +kernel⟩, lwt6 85 rfl⟩
theorem lw_c10 : ("SetsStayTogetherModel" ≠ "java/lang/invoke/MethodHandle" ∧ "SetsStayTogetherModel" ≠ "java/lang/invoke/VarHandle") ∧ Cond.instantiable "SetsStayTogetherModel" 56 ∈ tables_1 := ⟨⟨by decide +kernel, by decide +kernel⟩, lwt6 134 rfl⟩
theorem lw_p0 : lw_okq (⟨"SetsStayTogether$HouseReader", "line", "(LSetsStayTogether$House;)V"⟩, 1) := ⟨lw_c0.1, lw_c0.2, lwt2 214 rfl, lwt2 215 rfl⟩
theorem lw_p1 : lw_okq (⟨"SetsStayTogether$Reader", "counted", "(III)I"⟩, 4) := ⟨lw_c1.1, lw_c1.2, lwt2 231 rfl, lwt2 232 rfl⟩
theorem lw_p2 : lw_okq (⟨"SetsStayTogether$HouseReader", "doorLine", "(LSetsStayTogether$House;)V"⟩, 1) := ⟨lw_c0.1, lw_c0.2, lwt3 7 rfl, lwt3 8 rfl⟩
theorem lw_p3 : lw_okq (⟨"SetsStayTogether$HouseReader", "letters", "(I)I"⟩, 1) := ⟨lw_c0.1, lw_c0.2, lwt3 29 rfl, lwt3 30 rfl⟩
theorem lw_p4 : lw_okq (⟨"SetsStayTogether$HouseReader", "thingLine", "(LSetsStayTogether$House;)V"⟩, 1) := ⟨lw_c0.1, lw_c0.2, lwt3 46 rfl, lwt3 47 rfl⟩
theorem lw_p5 : lw_okq (⟨"SetsStayTogether$House", "hangingOn", "(III)I"⟩, 13) := ⟨lw_c2.1, lw_c2.2, lwt3 73 rfl, lwt3 74 rfl⟩
theorem lw_p6 : lw_okq (⟨"SetsStayTogether$House", "addClump", "(I)V"⟩, 13) := ⟨lw_c2.1, lw_c2.2, lwt3 77 rfl, lwt3 78 rfl⟩
theorem lw_p7 : lw_okq (⟨"SetsStayTogether$Rule", "whole", "(LSetsStayTogether$Reader;)I"⟩, 3) := ⟨lw_c3.1, lw_c3.2, lwt3 94 rfl, lwt3 95 rfl⟩
theorem lw_p8 : lw_okq (⟨"SetsStayTogether$Rule", "compared", "(LSetsStayTogether$Reader;I)I"⟩, 3) := ⟨lw_c3.1, lw_c3.2, lwt3 98 rfl, lwt3 99 rfl⟩
theorem lw_p9 : lw_okq (⟨"SetsStayTogether$Rule", "summed", "(LSetsStayTogether$Reader;I)I"⟩, 3) := ⟨lw_c3.1, lw_c3.2, lwt3 102 rfl, lwt3 103 rfl⟩
theorem lw_p10 : lw_okq (⟨"SetsStayTogether$Rule", "multiplied", "(LSetsStayTogether$Reader;I)I"⟩, 3) := ⟨lw_c3.1, lw_c3.2, lwt3 106 rfl, lwt3 107 rfl⟩
theorem lw_p11 : lw_okq (⟨"SetsStayTogether$Rule", "negated", "(LSetsStayTogether$Reader;I)I"⟩, 3) := ⟨lw_c3.1, lw_c3.2, lwt3 110 rfl, lwt3 111 rfl⟩
theorem lw_p12 : lw_okq (⟨"SetsStayTogether$Rule", "single", "(LSetsStayTogether$Reader;I)I"⟩, 3) := ⟨lw_c3.1, lw_c3.2, lwt3 115 rfl, lwt3 116 rfl⟩
theorem lw_p13 : lw_okq (⟨"SetsStayTogether$Rule", "number", "(LSetsStayTogether$Reader;)I"⟩, 3) := ⟨lw_c3.1, lw_c3.2, lwt3 120 rfl, lwt3 121 rfl⟩
theorem lw_p14 : lw_okq (⟨"SetsStayTogether", "attempt", "(II[II)I"⟩, 18) := ⟨lw_c4.1, lw_c4.2, lwt4 16 rfl, lwt4 17 rfl⟩
theorem lw_p15 : lw_okq (⟨"SetsStayTogether$House", "oneStepFrom", "(II)I"⟩, 13) := ⟨lw_c2.1, lw_c2.2, lwt4 37 rfl, lwt4 38 rfl⟩
def lw_privs_1 : List (MethodName × Nat) := [(⟨"SetsStayTogether$HouseReader", "line", "(LSetsStayTogether$House;)V"⟩, 1), (⟨"SetsStayTogether$Reader", "counted", "(III)I"⟩, 4), (⟨"SetsStayTogether$HouseReader", "doorLine", "(LSetsStayTogether$House;)V"⟩, 1), (⟨"SetsStayTogether$HouseReader", "letters", "(I)I"⟩, 1), (⟨"SetsStayTogether$HouseReader", "thingLine", "(LSetsStayTogether$House;)V"⟩, 1), (⟨"SetsStayTogether$House", "hangingOn", "(III)I"⟩, 13), (⟨"SetsStayTogether$House", "addClump", "(I)V"⟩, 13), (⟨"SetsStayTogether$Rule", "whole", "(LSetsStayTogether$Reader;)I"⟩, 3), (⟨"SetsStayTogether$Rule", "compared", "(LSetsStayTogether$Reader;I)I"⟩, 3), (⟨"SetsStayTogether$Rule", "summed", "(LSetsStayTogether$Reader;I)I"⟩, 3), (⟨"SetsStayTogether$Rule", "multiplied", "(LSetsStayTogether$Reader;I)I"⟩, 3), (⟨"SetsStayTogether$Rule", "negated", "(LSetsStayTogether$Reader;I)I"⟩, 3), (⟨"SetsStayTogether$Rule", "single", "(LSetsStayTogether$Reader;I)I"⟩, 3), (⟨"SetsStayTogether$Rule", "number", "(LSetsStayTogether$Reader;)I"⟩, 3), (⟨"SetsStayTogether", "attempt", "(II[II)I"⟩, 18), (⟨"SetsStayTogether$House", "oneStepFrom", "(II)I"⟩, 13)]
theorem lw_r1 : ∀ q ∈ lw_privs_1, lw_okq q := List.forall_mem_cons.mpr ⟨lw_p0, List.forall_mem_cons.mpr ⟨lw_p1, List.forall_mem_cons.mpr ⟨lw_p2, List.forall_mem_cons.mpr ⟨lw_p3, List.forall_mem_cons.mpr ⟨lw_p4, List.forall_mem_cons.mpr ⟨lw_p5, List.forall_mem_cons.mpr ⟨lw_p6, List.forall_mem_cons.mpr ⟨lw_p7, List.forall_mem_cons.mpr ⟨lw_p8, List.forall_mem_cons.mpr ⟨lw_p9, List.forall_mem_cons.mpr ⟨lw_p10, List.forall_mem_cons.mpr ⟨lw_p11, List.forall_mem_cons.mpr ⟨lw_p12, List.forall_mem_cons.mpr ⟨lw_p13, List.forall_mem_cons.mpr ⟨lw_p14, List.forall_mem_cons.mpr ⟨lw_p15, fun _ h => absurd h List.not_mem_nil⟩⟩⟩⟩⟩⟩⟩⟩⟩⟩⟩⟩⟩⟩⟩⟩
theorem lw_p16 : lw_okq (⟨"SetsStayTogether", "bring", "(III)V"⟩, 18) := ⟨lw_c4.1, lw_c4.2, lwt4 41 rfl, lwt4 42 rfl⟩
theorem lw_p17 : lw_okq (⟨"SetsStayTogether$Past", "dropFirst", "()V"⟩, 4) := ⟨lw_c5.1, lw_c5.2, lwt4 49 rfl, lwt4 50 rfl⟩
theorem lw_p18 : lw_okq (⟨"SetsStayTogether$House", "areInOneRoom", "(I[I)Z"⟩, 13) := ⟨lw_c2.1, lw_c2.2, lwt4 61 rfl, lwt4 62 rfl⟩
theorem lw_p19 : lw_okq (⟨"SetsStayTogether", "sleep", "()I"⟩, 18) := ⟨lw_c4.1, lw_c4.2, lwt4 90 rfl, lwt4 91 rfl⟩
theorem lw_p20 : lw_okq (⟨"SetsStayTogether", "dayFault", "()I"⟩, 18) := ⟨lw_c4.1, lw_c4.2, lwt4 98 rfl, lwt4 99 rfl⟩
theorem lw_p21 : lw_okq (⟨"SetsStayTogether", "readCarrying", "()V"⟩, 18) := ⟨lw_c4.1, lw_c4.2, lwt4 103 rfl, lwt4 104 rfl⟩
theorem lw_p22 : lw_okq (⟨"SetsStayTogether$Walk", "isRoomEnough", "()Z"⟩, 12) := ⟨lw_c6.1, lw_c6.2, lwt4 204 rfl, lwt4 205 rfl⟩
theorem lw_p23 : lw_okq (⟨"SetsStayTogether$Walk", "shift", "(I)Z"⟩, 12) := ⟨lw_c6.1, lw_c6.2, lwt4 208 rfl, lwt4 209 rfl⟩
theorem lw_p24 : lw_okq (⟨"SetsStayTogether$Walk", "sum", "()I"⟩, 12) := ⟨lw_c6.1, lw_c6.2, lwt4 213 rfl, lwt4 214 rfl⟩
theorem lw_p25 : lw_okq (⟨"SetsStayTogether", "tellChosen", "()V"⟩, 18) := ⟨lw_c4.1, lw_c4.2, lwt4 218 rfl, lwt4 219 rfl⟩
theorem lw_p26 : lw_okq (⟨"SetsStayTogether", "nearest", "(II)I"⟩, 18) := ⟨lw_c4.1, lw_c4.2, lwt5 21 rfl, lwt5 22 rfl⟩
theorem lw_p27 : lw_okq (⟨"SetsStayTogether", "chooseByBulk", "(III)Z"⟩, 18) := ⟨lw_c4.1, lw_c4.2, lwt5 38 rfl, lwt5 39 rfl⟩
theorem lw_p28 : lw_okq (⟨"SetsStayTogether", "aimFault", "()I"⟩, 18) := ⟨lw_c4.1, lw_c4.2, lwt5 139 rfl, lwt5 140 rfl⟩
theorem lw_p29 : lw_okq (⟨"SetsStayTogether", "hasAim", "()Z"⟩, 18) := ⟨lw_c4.1, lw_c4.2, lwt5 147 rfl, lwt5 148 rfl⟩
theorem lw_p30 : lw_okq (⟨"SetsStayTogether$Turns", "isLawful", "(LSetsStayTogether$House;[II)Z"⟩, 4) := ⟨lw_c7.1, lw_c7.2, lwt5 163 rfl, lwt5 164 rfl⟩
theorem lw_p31 : lw_okq (⟨"SetsStayTogether$Turns", "firstOpen", "(II)I"⟩, 4) := ⟨lw_c7.1, lw_c7.2, lwt5 169 rfl, lwt5 170 rfl⟩
def lw_privs_2 : List (MethodName × Nat) := [(⟨"SetsStayTogether", "bring", "(III)V"⟩, 18), (⟨"SetsStayTogether$Past", "dropFirst", "()V"⟩, 4), (⟨"SetsStayTogether$House", "areInOneRoom", "(I[I)Z"⟩, 13), (⟨"SetsStayTogether", "sleep", "()I"⟩, 18), (⟨"SetsStayTogether", "dayFault", "()I"⟩, 18), (⟨"SetsStayTogether", "readCarrying", "()V"⟩, 18), (⟨"SetsStayTogether$Walk", "isRoomEnough", "()Z"⟩, 12), (⟨"SetsStayTogether$Walk", "shift", "(I)Z"⟩, 12), (⟨"SetsStayTogether$Walk", "sum", "()I"⟩, 12), (⟨"SetsStayTogether", "tellChosen", "()V"⟩, 18), (⟨"SetsStayTogether", "nearest", "(II)I"⟩, 18), (⟨"SetsStayTogether", "chooseByBulk", "(III)Z"⟩, 18), (⟨"SetsStayTogether", "aimFault", "()I"⟩, 18), (⟨"SetsStayTogether", "hasAim", "()Z"⟩, 18), (⟨"SetsStayTogether$Turns", "isLawful", "(LSetsStayTogether$House;[II)Z"⟩, 4), (⟨"SetsStayTogether$Turns", "firstOpen", "(II)I"⟩, 4)]
theorem lw_r2 : ∀ q ∈ lw_privs_2, lw_okq q := List.forall_mem_cons.mpr ⟨lw_p16, List.forall_mem_cons.mpr ⟨lw_p17, List.forall_mem_cons.mpr ⟨lw_p18, List.forall_mem_cons.mpr ⟨lw_p19, List.forall_mem_cons.mpr ⟨lw_p20, List.forall_mem_cons.mpr ⟨lw_p21, List.forall_mem_cons.mpr ⟨lw_p22, List.forall_mem_cons.mpr ⟨lw_p23, List.forall_mem_cons.mpr ⟨lw_p24, List.forall_mem_cons.mpr ⟨lw_p25, List.forall_mem_cons.mpr ⟨lw_p26, List.forall_mem_cons.mpr ⟨lw_p27, List.forall_mem_cons.mpr ⟨lw_p28, List.forall_mem_cons.mpr ⟨lw_p29, List.forall_mem_cons.mpr ⟨lw_p30, List.forall_mem_cons.mpr ⟨lw_p31, fun _ h => absurd h List.not_mem_nil⟩⟩⟩⟩⟩⟩⟩⟩⟩⟩⟩⟩⟩⟩⟩⟩
theorem lw_p32 : lw_okq (⟨"SetsStayTogether", "readyJourney", "()I"⟩, 18) := ⟨lw_c4.1, lw_c4.2, lwt5 177 rfl, lwt5 178 rfl⟩
theorem lw_p33 : lw_okq (⟨"SetsStayTogether$Journey", "find", "(LSetsStayTogether$House;[I)I"⟩, 10) := ⟨lw_c8.1, lw_c8.2, lwt5 198 rfl, lwt5 199 rfl⟩
theorem lw_p34 : lw_okq (⟨"SetsStayTogether$Journey", "fillCosts", "(LSetsStayTogether$House;)V"⟩, 10) := ⟨lw_c8.1, lw_c8.2, lwt5 207 rfl, lwt5 208 rfl⟩
theorem lw_p35 : lw_okq (⟨"SetsStayTogether$Journey", "firstCost", "(LSetsStayTogether$House;I)I"⟩, 10) := ⟨lw_c8.1, lw_c8.2, lwt5 212 rfl, lwt5 213 rfl⟩
theorem lw_p36 : lw_okq (⟨"SetsStayTogether$Journey", "firstBefore", "(II)I"⟩, 10) := ⟨lw_c8.1, lw_c8.2, lwt5 220 rfl, lwt5 221 rfl⟩
theorem lw_p37 : lw_okq (⟨"SetsStayTogether$Journey", "goBack", "(II)Z"⟩, 10) := ⟨lw_c8.1, lw_c8.2, lwt5 224 rfl, lwt5 225 rfl⟩
theorem lw_p38 : lw_okq (⟨"SetsStayTogether$Journey", "leastFrom", "(III)I"⟩, 10) := ⟨lw_c8.1, lw_c8.2, lwt5 228 rfl, lwt5 229 rfl⟩
theorem lw_p39 : lw_okq (⟨"SetsStayTogether$Journey", "between", "(II)I"⟩, 10) := ⟨lw_c8.1, lw_c8.2, lwt5 232 rfl, lwt5 233 rfl⟩
theorem lw_p40 : lw_okq (⟨"SetsStayTogether$Journey", "easiest", "()I"⟩, 10) := ⟨lw_c8.1, lw_c8.2, lwt6 6 rfl, lwt6 7 rfl⟩
theorem lw_p41 : lw_okq (⟨"SetsStayTogether", "keptAt", "(I)LSetsStayTogether$Kept;"⟩, 18) := ⟨lw_c4.1, lw_c4.2, lwt6 15 rfl, lwt6 16 rfl⟩
theorem lw_p42 : lw_okq (⟨"java/lang/Throwable", "fillInStackTrace", "(I)Ljava/lang/Throwable;"⟩, 6) := ⟨lw_c9.1, lw_c9.2, lwt6 83 rfl, lwt6 84 rfl⟩
theorem lw_p43 : lw_okq (⟨"SetsStayTogetherModel", "begin", "([BII)V"⟩, 56) := ⟨lw_c10.1, lw_c10.2, lwt7 85 rfl, lwt7 86 rfl⟩
theorem lw_p44 : lw_okq (⟨"SetsStayTogetherModel", "fine", "()Z"⟩, 56) := ⟨lw_c10.1, lw_c10.2, lwt7 89 rfl, lwt7 90 rfl⟩
theorem lw_p45 : lw_okq (⟨"SetsStayTogetherModel", "here", "()I"⟩, 56) := ⟨lw_c10.1, lw_c10.2, lwt7 93 rfl, lwt7 94 rfl⟩
theorem lw_p46 : lw_okq (⟨"SetsStayTogetherModel", "fault", "(I)V"⟩, 56) := ⟨lw_c10.1, lw_c10.2, lwt7 97 rfl, lwt7 98 rfl⟩
theorem lw_p47 : lw_okq (⟨"SetsStayTogetherModel", "number", "(III)I"⟩, 56) := ⟨lw_c10.1, lw_c10.2, lwt7 101 rfl, lwt7 102 rfl⟩
def lw_privs_3 : List (MethodName × Nat) := [(⟨"SetsStayTogether", "readyJourney", "()I"⟩, 18), (⟨"SetsStayTogether$Journey", "find", "(LSetsStayTogether$House;[I)I"⟩, 10), (⟨"SetsStayTogether$Journey", "fillCosts", "(LSetsStayTogether$House;)V"⟩, 10), (⟨"SetsStayTogether$Journey", "firstCost", "(LSetsStayTogether$House;I)I"⟩, 10), (⟨"SetsStayTogether$Journey", "firstBefore", "(II)I"⟩, 10), (⟨"SetsStayTogether$Journey", "goBack", "(II)Z"⟩, 10), (⟨"SetsStayTogether$Journey", "leastFrom", "(III)I"⟩, 10), (⟨"SetsStayTogether$Journey", "between", "(II)I"⟩, 10), (⟨"SetsStayTogether$Journey", "easiest", "()I"⟩, 10), (⟨"SetsStayTogether", "keptAt", "(I)LSetsStayTogether$Kept;"⟩, 18), (⟨"java/lang/Throwable", "fillInStackTrace", "(I)Ljava/lang/Throwable;"⟩, 6), (⟨"SetsStayTogetherModel", "begin", "([BII)V"⟩, 56), (⟨"SetsStayTogetherModel", "fine", "()Z"⟩, 56), (⟨"SetsStayTogetherModel", "here", "()I"⟩, 56), (⟨"SetsStayTogetherModel", "fault", "(I)V"⟩, 56), (⟨"SetsStayTogetherModel", "number", "(III)I"⟩, 56)]
theorem lw_r3 : ∀ q ∈ lw_privs_3, lw_okq q := List.forall_mem_cons.mpr ⟨lw_p32, List.forall_mem_cons.mpr ⟨lw_p33, List.forall_mem_cons.mpr ⟨lw_p34, List.forall_mem_cons.mpr ⟨lw_p35, List.forall_mem_cons.mpr ⟨lw_p36, List.forall_mem_cons.mpr ⟨lw_p37, List.forall_mem_cons.mpr ⟨lw_p38, List.forall_mem_cons.mpr ⟨lw_p39, List.forall_mem_cons.mpr ⟨lw_p40, List.forall_mem_cons.mpr ⟨lw_p41, List.forall_mem_cons.mpr ⟨lw_p42, List.forall_mem_cons.mpr ⟨lw_p43, List.forall_mem_cons.mpr ⟨lw_p44, List.forall_mem_cons.mpr ⟨lw_p45, List.forall_mem_cons.mpr ⟨lw_p46, List.forall_mem_cons.mpr ⟨lw_p47, fun _ h => absurd h List.not_mem_nil⟩⟩⟩⟩⟩⟩⟩⟩⟩⟩⟩⟩⟩⟩⟩⟩
theorem lw_p48 : lw_okq (⟨"SetsStayTogetherModel", "need", "(C)V"⟩, 56) := ⟨lw_c10.1, lw_c10.2, lwt7 105 rfl, lwt7 106 rfl⟩
theorem lw_p49 : lw_okq (⟨"SetsStayTogetherModel", "passes", "(C)Z"⟩, 56) := ⟨lw_c10.1, lw_c10.2, lwt7 109 rfl, lwt7 110 rfl⟩
theorem lw_p50 : lw_okq (⟨"SetsStayTogetherModel", "readSet", "(II)V"⟩, 56) := ⟨lw_c10.1, lw_c10.2, lwt7 113 rfl, lwt7 114 rfl⟩
theorem lw_p51 : lw_okq (⟨"SetsStayTogetherModel", "readThing", "(II)V"⟩, 56) := ⟨lw_c10.1, lw_c10.2, lwt7 117 rfl, lwt7 118 rfl⟩
theorem lw_p52 : lw_okq (⟨"SetsStayTogetherModel", "put", "(III)V"⟩, 56) := ⟨lw_c10.1, lw_c10.2, lwt7 121 rfl, lwt7 122 rfl⟩
theorem lw_p53 : lw_okq (⟨"SetsStayTogetherModel", "held", "(I)I"⟩, 56) := ⟨lw_c10.1, lw_c10.2, lwt7 129 rfl, lwt7 130 rfl⟩
theorem lw_p54 : lw_okq (⟨"SetsStayTogetherModel", "sum", "(I)I"⟩, 56) := ⟨lw_c10.1, lw_c10.2, lwt7 133 rfl, lwt7 134 rfl⟩
theorem lw_p55 : lw_okq (⟨"SetsStayTogetherModel", "product", "(I)I"⟩, 56) := ⟨lw_c10.1, lw_c10.2, lwt7 137 rfl, lwt7 138 rfl⟩
theorem lw_p56 : lw_okq (⟨"SetsStayTogetherModel", "factor", "(I)I"⟩, 56) := ⟨lw_c10.1, lw_c10.2, lwt7 141 rfl, lwt7 142 rfl⟩
theorem lw_p57 : lw_okq (⟨"SetsStayTogetherModel", "letter", "(III)I"⟩, 56) := ⟨lw_c10.1, lw_c10.2, lwt7 145 rfl, lwt7 146 rfl⟩
theorem lw_p58 : lw_okq (⟨"SetsStayTogetherModel", "setsOf", "(I)I"⟩, 56) := ⟨lw_c10.1, lw_c10.2, lwt7 149 rfl, lwt7 150 rfl⟩
theorem lw_p59 : lw_okq (⟨"SetsStayTogetherModel", "besides", "(I)I"⟩, 56) := ⟨lw_c10.1, lw_c10.2, lwt7 157 rfl, lwt7 158 rfl⟩
theorem lw_p60 : lw_okq (⟨"SetsStayTogetherModel", "isRoom", "(I)Z"⟩, 56) := ⟨lw_c10.1, lw_c10.2, lwt7 165 rfl, lwt7 166 rfl⟩
theorem lw_p61 : lw_okq (⟨"SetsStayTogetherModel", "lost", "()I"⟩, 56) := ⟨lw_c10.1, lw_c10.2, lwt7 169 rfl, lwt7 170 rfl⟩
theorem lw_p62 : lw_okq (⟨"SetsStayTogetherModel", "freeIn", "([II)I"⟩, 56) := ⟨lw_c10.1, lw_c10.2, lwt7 173 rfl, lwt7 174 rfl⟩
theorem lw_p63 : lw_okq (⟨"SetsStayTogetherModel", "isThing", "(I)Z"⟩, 56) := ⟨lw_c10.1, lw_c10.2, lwt7 181 rfl, lwt7 182 rfl⟩
def lw_privs_4 : List (MethodName × Nat) := [(⟨"SetsStayTogetherModel", "need", "(C)V"⟩, 56), (⟨"SetsStayTogetherModel", "passes", "(C)Z"⟩, 56), (⟨"SetsStayTogetherModel", "readSet", "(II)V"⟩, 56), (⟨"SetsStayTogetherModel", "readThing", "(II)V"⟩, 56), (⟨"SetsStayTogetherModel", "put", "(III)V"⟩, 56), (⟨"SetsStayTogetherModel", "held", "(I)I"⟩, 56), (⟨"SetsStayTogetherModel", "sum", "(I)I"⟩, 56), (⟨"SetsStayTogetherModel", "product", "(I)I"⟩, 56), (⟨"SetsStayTogetherModel", "factor", "(I)I"⟩, 56), (⟨"SetsStayTogetherModel", "letter", "(III)I"⟩, 56), (⟨"SetsStayTogetherModel", "setsOf", "(I)I"⟩, 56), (⟨"SetsStayTogetherModel", "besides", "(I)I"⟩, 56), (⟨"SetsStayTogetherModel", "isRoom", "(I)Z"⟩, 56), (⟨"SetsStayTogetherModel", "lost", "()I"⟩, 56), (⟨"SetsStayTogetherModel", "freeIn", "([II)I"⟩, 56), (⟨"SetsStayTogetherModel", "isThing", "(I)Z"⟩, 56)]
theorem lw_r4 : ∀ q ∈ lw_privs_4, lw_okq q := List.forall_mem_cons.mpr ⟨lw_p48, List.forall_mem_cons.mpr ⟨lw_p49, List.forall_mem_cons.mpr ⟨lw_p50, List.forall_mem_cons.mpr ⟨lw_p51, List.forall_mem_cons.mpr ⟨lw_p52, List.forall_mem_cons.mpr ⟨lw_p53, List.forall_mem_cons.mpr ⟨lw_p54, List.forall_mem_cons.mpr ⟨lw_p55, List.forall_mem_cons.mpr ⟨lw_p56, List.forall_mem_cons.mpr ⟨lw_p57, List.forall_mem_cons.mpr ⟨lw_p58, List.forall_mem_cons.mpr ⟨lw_p59, List.forall_mem_cons.mpr ⟨lw_p60, List.forall_mem_cons.mpr ⟨lw_p61, List.forall_mem_cons.mpr ⟨lw_p62, List.forall_mem_cons.mpr ⟨lw_p63, fun _ h => absurd h List.not_mem_nil⟩⟩⟩⟩⟩⟩⟩⟩⟩⟩⟩⟩⟩⟩⟩⟩
theorem lw_p64 : lw_okq (⟨"SetsStayTogetherModel", "findClumps", "(II)V"⟩, 56) := ⟨lw_c10.1, lw_c10.2, lwt7 185 rfl, lwt7 186 rfl⟩
theorem lw_p65 : lw_okq (⟨"SetsStayTogetherModel", "worthOf", "(II)I"⟩, 56) := ⟨lw_c10.1, lw_c10.2, lwt7 189 rfl, lwt7 190 rfl⟩
theorem lw_p66 : lw_okq (⟨"SetsStayTogetherModel", "refusal", "(II)I"⟩, 56) := ⟨lw_c10.1, lw_c10.2, lwt7 219 rfl, lwt7 220 rfl⟩
theorem lw_p67 : lw_okq (⟨"SetsStayTogetherModel", "steps", "(III)I"⟩, 56) := ⟨lw_c10.1, lw_c10.2, lwt7 223 rfl, lwt7 224 rfl⟩
theorem lw_p68 : lw_okq (⟨"SetsStayTogetherModel", "findFar", "(II)V"⟩, 56) := ⟨lw_c10.1, lw_c10.2, lwt7 227 rfl, lwt7 228 rfl⟩
theorem lw_p69 : lw_okq (⟨"SetsStayTogetherModel", "remember", "(I)V"⟩, 56) := ⟨lw_c10.1, lw_c10.2, lwt7 232 rfl, lwt7 233 rfl⟩
theorem lw_p70 : lw_okq (⟨"SetsStayTogetherModel", "carries", "(II)I"⟩, 56) := ⟨lw_c10.1, lw_c10.2, lwt7 236 rfl, lwt7 237 rfl⟩
theorem lw_p71 : lw_okq (⟨"SetsStayTogetherModel", "partedSets", "([I)I"⟩, 56) := ⟨lw_c10.1, lw_c10.2, lwt8 4 rfl, lwt8 5 rfl⟩
theorem lw_p72 : lw_okq (⟨"SetsStayTogetherModel", "fullRooms", "([I)I"⟩, 56) := ⟨lw_c10.1, lw_c10.2, lwt8 9 rfl, lwt8 10 rfl⟩
theorem lw_p73 : lw_okq (⟨"SetsStayTogetherModel", "tell", "(I)V"⟩, 56) := ⟨lw_c10.1, lw_c10.2, lwt8 13 rfl, lwt8 14 rfl⟩
theorem lw_p74 : lw_okq (⟨"SetsStayTogetherModel", "goEvening", "()Z"⟩, 56) := ⟨lw_c10.1, lw_c10.2, lwt8 17 rfl, lwt8 18 rfl⟩
theorem lw_p75 : lw_okq (⟨"SetsStayTogetherModel", "isLawful", "([I)Z"⟩, 56) := ⟨lw_c10.1, lw_c10.2, lwt8 21 rfl, lwt8 22 rfl⟩
theorem lw_p76 : lw_okq (⟨"SetsStayTogetherModel", "bulkOf", "(I)I"⟩, 56) := ⟨lw_c10.1, lw_c10.2, lwt8 45 rfl, lwt8 46 rfl⟩
theorem lw_p77 : lw_okq (⟨"SetsStayTogetherModel", "isTooMuch", "()Z"⟩, 56) := ⟨lw_c10.1, lw_c10.2, lwt8 65 rfl, lwt8 66 rfl⟩
theorem lw_p78 : lw_okq (⟨"SetsStayTogetherModel", "beginRows", "()V"⟩, 56) := ⟨lw_c10.1, lw_c10.2, lwt8 69 rfl, lwt8 70 rfl⟩
theorem lw_p79 : lw_okq (⟨"SetsStayTogetherModel", "nextRow", "()Z"⟩, 56) := ⟨lw_c10.1, lw_c10.2, lwt8 73 rfl, lwt8 74 rfl⟩
def lw_privs_5 : List (MethodName × Nat) := [(⟨"SetsStayTogetherModel", "findClumps", "(II)V"⟩, 56), (⟨"SetsStayTogetherModel", "worthOf", "(II)I"⟩, 56), (⟨"SetsStayTogetherModel", "refusal", "(II)I"⟩, 56), (⟨"SetsStayTogetherModel", "steps", "(III)I"⟩, 56), (⟨"SetsStayTogetherModel", "findFar", "(II)V"⟩, 56), (⟨"SetsStayTogetherModel", "remember", "(I)V"⟩, 56), (⟨"SetsStayTogetherModel", "carries", "(II)I"⟩, 56), (⟨"SetsStayTogetherModel", "partedSets", "([I)I"⟩, 56), (⟨"SetsStayTogetherModel", "fullRooms", "([I)I"⟩, 56), (⟨"SetsStayTogetherModel", "tell", "(I)V"⟩, 56), (⟨"SetsStayTogetherModel", "goEvening", "()Z"⟩, 56), (⟨"SetsStayTogetherModel", "isLawful", "([I)Z"⟩, 56), (⟨"SetsStayTogetherModel", "bulkOf", "(I)I"⟩, 56), (⟨"SetsStayTogetherModel", "isTooMuch", "()Z"⟩, 56), (⟨"SetsStayTogetherModel", "beginRows", "()V"⟩, 56), (⟨"SetsStayTogetherModel", "nextRow", "()Z"⟩, 56)]
theorem lw_r5 : ∀ q ∈ lw_privs_5, lw_okq q := List.forall_mem_cons.mpr ⟨lw_p64, List.forall_mem_cons.mpr ⟨lw_p65, List.forall_mem_cons.mpr ⟨lw_p66, List.forall_mem_cons.mpr ⟨lw_p67, List.forall_mem_cons.mpr ⟨lw_p68, List.forall_mem_cons.mpr ⟨lw_p69, List.forall_mem_cons.mpr ⟨lw_p70, List.forall_mem_cons.mpr ⟨lw_p71, List.forall_mem_cons.mpr ⟨lw_p72, List.forall_mem_cons.mpr ⟨lw_p73, List.forall_mem_cons.mpr ⟨lw_p74, List.forall_mem_cons.mpr ⟨lw_p75, List.forall_mem_cons.mpr ⟨lw_p76, List.forall_mem_cons.mpr ⟨lw_p77, List.forall_mem_cons.mpr ⟨lw_p78, List.forall_mem_cons.mpr ⟨lw_p79, fun _ h => absurd h List.not_mem_nil⟩⟩⟩⟩⟩⟩⟩⟩⟩⟩⟩⟩⟩⟩⟩⟩
theorem lw_p80 : lw_okq (⟨"SetsStayTogetherModel", "isFine", "()Z"⟩, 56) := ⟨lw_c10.1, lw_c10.2, lwt8 77 rfl, lwt8 78 rfl⟩
theorem lw_p81 : lw_okq (⟨"SetsStayTogetherModel", "take", "()V"⟩, 56) := ⟨lw_c10.1, lw_c10.2, lwt8 81 rfl, lwt8 82 rfl⟩
theorem lw_p82 : lw_okq (⟨"SetsStayTogetherModel", "tellRow", "([I)V"⟩, 56) := ⟨lw_c10.1, lw_c10.2, lwt8 85 rfl, lwt8 86 rfl⟩
theorem lw_p83 : lw_okq (⟨"SetsStayTogetherModel", "worthAll", "([I)I"⟩, 56) := ⟨lw_c10.1, lw_c10.2, lwt8 93 rfl, lwt8 94 rfl⟩
theorem lw_p84 : lw_okq (⟨"SetsStayTogetherModel", "nearest", "(II)I"⟩, 56) := ⟨lw_c10.1, lw_c10.2, lwt8 105 rfl, lwt8 106 rfl⟩
theorem lw_p85 : lw_okq (⟨"SetsStayTogetherModel", "costOf", "([II[II)I"⟩, 56) := ⟨lw_c10.1, lw_c10.2, lwt8 109 rfl, lwt8 110 rfl⟩
theorem lw_p86 : lw_okq (⟨"SetsStayTogetherModel", "isLess", "(II)Z"⟩, 56) := ⟨lw_c10.1, lw_c10.2, lwt8 145 rfl, lwt8 146 rfl⟩
theorem lw_p87 : lw_okq (⟨"SetsStayTogetherModel", "isEnough", "(II)Z"⟩, 56) := ⟨lw_c10.1, lw_c10.2, lwt8 153 rfl, lwt8 154 rfl⟩
theorem lw_p88 : lw_okq (⟨"SetsStayTogetherModel", "comeTo", "(I)I"⟩, 56) := ⟨lw_c10.1, lw_c10.2, lwt8 173 rfl, lwt8 174 rfl⟩
theorem lw_p89 : lw_okq (⟨"SetsStayTogetherModel", "hasAim", "()Z"⟩, 56) := ⟨lw_c10.1, lw_c10.2, lwt8 185 rfl, lwt8 186 rfl⟩
theorem lw_p90 : lw_okq (⟨"SetsStayTogetherModel", "isLawfulWith", "(I)Z"⟩, 56) := ⟨lw_c10.1, lw_c10.2, lwt8 193 rfl, lwt8 194 rfl⟩
theorem lw_p91 : lw_okq (⟨"SetsStayTogetherModel", "isThere", "()Z"⟩, 56) := ⟨lw_c10.1, lw_c10.2, lwt8 201 rfl, lwt8 202 rfl⟩
theorem lw_p92 : lw_okq (⟨"SetsStayTogetherModel", "findAims", "()Z"⟩, 56) := ⟨lw_c10.1, lw_c10.2, lwt8 205 rfl, lwt8 206 rfl⟩
theorem lw_p93 : lw_okq (⟨"SetsStayTogetherModel", "findEvenings", "(I)V"⟩, 56) := ⟨lw_c10.1, lw_c10.2, lwt8 209 rfl, lwt8 210 rfl⟩
theorem lw_p94 : lw_okq (⟨"SetsStayTogetherModel", "isCost", "(I)Z"⟩, 56) := ⟨lw_c10.1, lw_c10.2, lwt8 217 rfl, lwt8 218 rfl⟩
def lw_privs_6 : List (MethodName × Nat) := [(⟨"SetsStayTogetherModel", "isFine", "()Z"⟩, 56), (⟨"SetsStayTogetherModel", "take", "()V"⟩, 56), (⟨"SetsStayTogetherModel", "tellRow", "([I)V"⟩, 56), (⟨"SetsStayTogetherModel", "worthAll", "([I)I"⟩, 56), (⟨"SetsStayTogetherModel", "nearest", "(II)I"⟩, 56), (⟨"SetsStayTogetherModel", "costOf", "([II[II)I"⟩, 56), (⟨"SetsStayTogetherModel", "isLess", "(II)Z"⟩, 56), (⟨"SetsStayTogetherModel", "isEnough", "(II)Z"⟩, 56), (⟨"SetsStayTogetherModel", "comeTo", "(I)I"⟩, 56), (⟨"SetsStayTogetherModel", "hasAim", "()Z"⟩, 56), (⟨"SetsStayTogetherModel", "isLawfulWith", "(I)Z"⟩, 56), (⟨"SetsStayTogetherModel", "isThere", "()Z"⟩, 56), (⟨"SetsStayTogetherModel", "findAims", "()Z"⟩, 56), (⟨"SetsStayTogetherModel", "findEvenings", "(I)V"⟩, 56), (⟨"SetsStayTogetherModel", "isCost", "(I)Z"⟩, 56)]
theorem lw_r6 : ∀ q ∈ lw_privs_6, lw_okq q := List.forall_mem_cons.mpr ⟨lw_p80, List.forall_mem_cons.mpr ⟨lw_p81, List.forall_mem_cons.mpr ⟨lw_p82, List.forall_mem_cons.mpr ⟨lw_p83, List.forall_mem_cons.mpr ⟨lw_p84, List.forall_mem_cons.mpr ⟨lw_p85, List.forall_mem_cons.mpr ⟨lw_p86, List.forall_mem_cons.mpr ⟨lw_p87, List.forall_mem_cons.mpr ⟨lw_p88, List.forall_mem_cons.mpr ⟨lw_p89, List.forall_mem_cons.mpr ⟨lw_p90, List.forall_mem_cons.mpr ⟨lw_p91, List.forall_mem_cons.mpr ⟨lw_p92, List.forall_mem_cons.mpr ⟨lw_p93, List.forall_mem_cons.mpr ⟨lw_p94, fun _ h => absurd h List.not_mem_nil⟩⟩⟩⟩⟩⟩⟩⟩⟩⟩⟩⟩⟩⟩⟩
def lw_privs : List (MethodName × Nat) := lw_privs_1 ++ (lw_privs_2 ++ (lw_privs_3 ++ (lw_privs_4 ++ (lw_privs_5 ++ (lw_privs_6)))))
def lw_tbl : List Cond := k2_sels lw_privs ++ tables_1
theorem lw_privs_ok : ∀ q ∈ lw_privs, lw_okq q := by
  show ∀ q ∈ lw_privs_1 ++ (lw_privs_2 ++ (lw_privs_3 ++ (lw_privs_4 ++ (lw_privs_5 ++ (lw_privs_6))))), lw_okq q
  exact List.forall_mem_append.mpr ⟨lw_r1, List.forall_mem_append.mpr ⟨lw_r2, List.forall_mem_append.mpr ⟨lw_r3, List.forall_mem_append.mpr ⟨lw_r4, List.forall_mem_append.mpr ⟨lw_r5, lw_r6⟩⟩⟩⟩⟩
-- ===== end of PART A; then your names; then what follows =====
end
section
/-! ===== BEGIN words of one list among another's, by their places ===== -/
/-! ===== END ===== -/

/-! ===== BEGIN exceptions that leave a method, and their catching by the caller (launches without stack traces) ===== -/
section VXA
/-! The laws vx_back, vx_callV, vx_callS, vx_callSW, vx_throw0, vx_throwS follow proofs of the library, with one case more: JvmDerived/Free/Laws.lean (Back.of_free), Shelf42/LK1.lean (callV, callS), Shelf/KitTraced.lean (throwNew0V, throwNewS). -/
/-- where a method has thrown q: the class by its name, the cell, what was written, the world -/
def vx_T (XC : String → State → State → Prop) (st : State) (q : Addr) (t : State) (mc ms : Nat) (free : Addr → Prop) : Prop :=
  ∃ (E : String) (ce : Cell) (L : List Loc), XC E st t ∧ t.heap[q]? = some ce ∧ ce.vm = .none ∧ st.vm.findClass E = some ce.cls ∧ st.WarmedH t.vm ∧ st.sameButNew ({ t with vm := st.vm } : State) L mc ms ∧ ∀ z ∈ L, free z.base
def vx_Q (Qc : Array Value → State → Outcome → State → Prop) (XC : String → State → State → Prop) (mc ms : Nat) (free : Addr → Prop) : Array Value → State → Outcome → State → Prop := fun a st o t =>
  (Qc a st o t ∧ ∃ L, FrameEnd st o t L mc ms ∧ ∀ q ∈ L, free q.base) ∨ ∃ q, o = .threw q ∧ vx_T XC st q t mc ms free
/-- a callee that returns or throws -/
def vx_Met (l : Launch) (y : MethodName) (ws : List Cond) (rm : Room) (Pc : Array Value → State → Prop) (Qc : Array Value → State → Outcome → State → Prop) (XC : String → State → State → Prop) (mc ms : Nat) (free : Addr → Prop) : Prop :=
  MetFree l y (headSpec ws rm) Pc (fun _ _ _ _ _ => True) (vx_Q Qc XC mc ms free)
def vx_Post (XC : String → State → State → Prop) (mc ms : Nat) (free : Addr → Prop) : Pt → Array Value → Addr → Pt → Prop := fun A a q B =>
  ∃ (g : JFrame) (mk : MethodId) (t : State) (L : List Loc) (E : String) (ce : Cell), B.U.heap = t.heap ∧ B.U.vm = t.vm ∧ XC E (A.U.calling g mk a) t ∧ t.heap[q]? = some ce ∧ ce.vm = .none ∧ A.U.vm.findClass E = some ce.cls ∧ B.locs = A.locs ++ L ∧ (∀ z ∈ L, free z.base) ∧ B.cells = A.cells + mc ∧ B.slots = A.slots + ms
def vx_Back (l : Launch) (R : Room) (p : Program) (e : Env) (below : List Frame) (s : State) (sargs : Array Value) (y : MethodName) (len W9 : Nat)
    (Pre : Pt → Array Value → Prop) (Post : Pt → Array Value → Option Value → Pt → Prop) (PostX : Pt → Array Value → Addr → Pt → Prop) : Prop :=
  ∀ (m : MethodId) (meth : Method) (c : Code) (A : Pt) (g : JFrame) (ig : Instr) (mk : MethodId) (a : Array Value),
    Stand p l e R s m sargs below meth c A.U A.locs A.cells A.slots → g.method = m → g.locals.size = c.maxLocals → decode c.code g.pc = .ok (ig, len) →
    2 * g.monitorRoom + (g.stack.map fun v => v.category).sum ≤ W9 → A.U.methodNamed? y = some mk → Pre A a →
    (∃ (v : Option Value) (B : Pt), Stand p l e R s m sargs below meth c B.U B.locs B.cells B.slots ∧ Post A a v B ∧
      Steps p.tables e below (doInvoke e (A.U.setTop g) [] mk a).1 (B.U.setTop { g with pc := g.pc + len, stack := v.toList ++ g.stack })) ∨
    (∃ (q : Addr) (B : Pt), Stand p l e R s m sargs below meth c B.U B.locs B.cells B.slots ∧ PostX A a q B ∧
      Steps p.tables e below (doInvoke e (A.U.setTop g) [] mk a).1 ((B.U.setTop g).pushFrame (.throwing q)))
section Payer
variable {l : Launch} {R : Room} {p : Program} {e : Env} {below : List Frame} {s : State} {sargs : Array Value} {y : MethodName} {len W9 : Nat}
theorem vx_back {ws : List Cond} {rm : Room} {Pc : Array Value → State → Prop} {Qc : Array Value → State → Outcome → State → Prop} {XC : String → State → State → Prop} {mc ms : Nat} {free : Addr → Prop} {bytes : ByteArray} {maxL : Nat} {ret : Option FieldType}
    (hM : vx_Met l y ws rm Pc Qc XC mc ms free) (hblind : FrameBlind Pc) (hrc : rm.cells = mc) (hrs : rm.slots = ms)
    (hframes : rm.frames + 1 ≤ R.frames) (hlocals : W9 + (maxL + 11) + rm.locals ≤ R.locals)
    (hws : ∀ w ∈ ws, ∀ a' U, s.WarmedH U.vm → w.before a' U = true) (hcode : Cond.code y bytes maxL ret ∈ ws) (hinit : ∀ a' U, s.WarmedH U.vm → (Cond.initialized y.cls).before a' U = true) :
    vx_Back l R p e below s sargs y len W9 (PreOf R mc ms Pc) (PostOf Qc mc ms free) (vx_Post XC mc ms free) := by
  intro m meth c A g ig mk a X hg hsize hdg hW hn hp
  have h1 : (headSpec ws rm).pre.before a A.U = true := atoms_intro fun w hw => hws w hw _ _ X.warmed
  have h2 : (Cond.code y bytes maxL ret).before a A.U = true := hws _ hcode _ _ X.warmed
  have h3 : (Cond.initialized y.cls).before a A.U = true := hinit _ _ X.warmed
  have h4 : A.cells + (headSpec ws rm).room.cells ≤ R.cells := by rw [show (headSpec ws rm).room.cells = mc from hrc]; exact hp.1
  have h5 : A.slots + (headSpec ws rm).room.slots ≤ R.slots := by rw [show (headSpec ws rm).room.slots = ms from hrs]; exact hp.2.1
  have hPc : Pc a (A.U.calling g mk a) := hblind _ _ _ _ hp.2.2
  obtain ⟨U, Ls, c0, s0⟩ := A
  dsimp only [Pt.U, Pt.locs, Pt.cells, Pt.slots] at h1 h2 h3 h4 h5 X hn hPc ⊢
  obtain ⟨methY, cY, hmY, hcY, -, hlY, -, -, -, -⟩ := Cond.code_spec hn h2
  obtain ⟨kY, hkY, -⟩ := className_of_methodNamed hn
  have hinitY : kY.init = .initialized := Cond.initialized_spec (findClass_of_methodNamed hn) hkY h3
  have h : At U g.method c below := by rw [hg]; exact X.here
  have hlocals9 : W9 + (maxL + 11) + (headSpec ws rm).room.locals ≤ R.locals := hlocals
  have happ : (headSpec ws rm).appliesLoose y e.platform (U.calling g mk a) = true :=
    Spec.appliesLoose_calling (g := g) h hdg hn hkY hinitY
      (X.room_calling (g := g) (R' := (headSpec ws rm).room) hsize hmY hcY hframes (by rw [hlY]; omega) h4 h5) h1
  obtain ⟨mid, hmid⟩ := h.above
  have hfr : (U.setTop g).frames = (.java g :: mid) ++ below := by rw [State.frames_setTop' g h.top, hmid]; rfl
  obtain ⟨o, s₂, hsteps, -, hend, hq⟩ := Steps.callFree hM p X.admits X.cas X.clock (acts := []) hfr happ hPc trivial
  have hq' : vx_Q Qc XC mc ms free a (U.calling g mk a) o s₂ := hq
  rw [State.frames_setTop' g h.top] at hend
  obtain ⟨g₀, hg0⟩ := Option.isSome_iff_exists.mp h.top
  obtain ⟨r, hr⟩ := State.topJava?_eq_some.mp hg0
  have hr' : (({ U with heap := s₂.heap, slotsUsed := s₂.slotsUsed } : State).setVm s₂.vm).frames = .java g₀ :: r := hr
  rcases hq' with ⟨hqc, L, hfe, hL⟩ | ⟨q, rfl, E, ce, L, hx, hce, hcv, hcl, hW₂, hsm, hL⟩
  · obtain ⟨⟨v, rfl⟩, hW₂, e2, q2, q3, q4, q5, q6⟩ := id hfe
    have e3 : s₂ = ({ (U.calling g mk a).setFrames s₂.frames with heap := s₂.heap, slotsUsed := s₂.slotsUsed } : State).setVm s₂.vm := by
      have : s₂ = ({ s₂ with vm := (U.calling g mk a).vm } : State).setVm s₂.vm := rfl
      rw [e2] at this
      exact this
    obtain ⟨c₂, i₂, len₂, hc₂, hd₂, hf₂⟩ := hend
    have hW' : U.WarmedH s₂.vm := hW₂
    have hcc : c₂ = c := by
      have h1 : s₂.code? g.method = U.code? g.method := by
        rw [State.code?_eq, State.code?_eq, hW'.alike.method?]
      exact Option.some.inj (hc₂.symm.trans (h1.trans h.code))
    subst hcc
    have hlen : len₂ = len := by rw [hdg] at hd₂; cases hd₂; rfl
    subst hlen
    have hs₂ : s₂ = (({ U with heap := s₂.heap, slotsUsed := s₂.slotsUsed } : State).setVm s₂.vm).setTop { g with pc := g.pc + len₂, stack := v.toList ++ g.stack } := by
      refine e3.trans ?_
      rw [hf₂, State.calling_eq h.top, State.setFrames_setFrames, State.setTop_of_frames _ hr', hr]
      rfl
    have hsame : U.sameButNew ({ U with heap := s₂.heap, slotsUsed := s₂.slotsUsed } : State) L mc ms := by
      refine ⟨?_, q2, q3, q4, q5, q6⟩
      obtain ⟨t, ht, -⟩ := State.frames_cons hr
      show ({ U with heap := s₂.heap, slotsUsed := s₂.slotsUsed } : State) = { U.setFrames U.frames with heap := s₂.heap, slotsUsed := s₂.slotsUsed }
      rw [State.setFrames_self ht]
    subst hg
    refine Or.inl ⟨v, ⟨(({ U with heap := s₂.heap, slotsUsed := s₂.slotsUsed } : State).setVm s₂.vm), Ls ++ L, c0 + mc, s0 + ms⟩,
      ⟨X.admits, X.cas, X.clock, X.frames, X.room, X.hears, X.method, X.code, (X.here.setHeapUsed s₂.heap s₂.slotsUsed).setVm hW'.alike, X.tail, State.WarmedH.trans X.warmed hW', X.limits, X.bytes, X.same.trans (hsame.setVm s.vm)⟩,
      ⟨g, mk, s₂, L, rfl, rfl, hqc, rfl, hL, rfl, rfl⟩, ?_⟩
    show Steps p.tables e below _ ((({ U with heap := s₂.heap, slotsUsed := s₂.slotsUsed } : State).setVm s₂.vm).setTop { g with pc := g.pc + len₂, stack := v.toList ++ g.stack })
    rw [← hs₂]
    exact hsteps
  · obtain ⟨e2, q2, q3, q4, q5, q6⟩ := id hsm
    have e3 : s₂ = ({ (U.calling g mk a).setFrames s₂.frames with heap := s₂.heap, slotsUsed := s₂.slotsUsed } : State).setVm s₂.vm := by
      have : s₂ = ({ s₂ with vm := (U.calling g mk a).vm } : State).setVm s₂.vm := rfl
      rw [e2] at this
      exact this
    have hf₂ : s₂.frames = .throwing q :: .java g :: U.frames.tail := hend
    have hW' : U.WarmedH s₂.vm := hW₂
    have hs₂ : s₂ = ((({ U with heap := s₂.heap, slotsUsed := s₂.slotsUsed } : State).setVm s₂.vm).setTop g).pushFrame (.throwing q) := by
      refine e3.trans ?_
      rw [hf₂, State.calling_eq h.top, State.setFrames_setFrames, State.pushFrame, State.frames_setTop _ hr', State.setTop_of_frames _ hr', State.setFrames_setFrames, hr]
      rfl
    have hsame : U.sameButNew ({ U with heap := s₂.heap, slotsUsed := s₂.slotsUsed } : State) L mc ms := by
      refine ⟨?_, q2, q3, q4, q5, q6⟩
      obtain ⟨t, ht, -⟩ := State.frames_cons hr
      show ({ U with heap := s₂.heap, slotsUsed := s₂.slotsUsed } : State) = { U.setFrames U.frames with heap := s₂.heap, slotsUsed := s₂.slotsUsed }
      rw [State.setFrames_self ht]
    subst hg
    refine Or.inr ⟨q, ⟨(({ U with heap := s₂.heap, slotsUsed := s₂.slotsUsed } : State).setVm s₂.vm), Ls ++ L, c0 + mc, s0 + ms⟩,
      ⟨X.admits, X.cas, X.clock, X.frames, X.room, X.hears, X.method, X.code, (X.here.setHeapUsed s₂.heap s₂.slotsUsed).setVm hW'.alike, X.tail, State.WarmedH.trans X.warmed hW', X.limits, X.bytes, X.same.trans (hsame.setVm s.vm)⟩,
      ⟨g, mk, s₂, L, E, ce, rfl, rfl, hx, hce, hcv, hcl, rfl, hL, rfl, rfl⟩, ?_⟩
    show Steps p.tables e below _ (((({ U with heap := s₂.heap, slotsUsed := s₂.slotsUsed } : State).setVm s₂.vm).setTop g).pushFrame (.throwing q))
    rw [← hs₂]
    exact hsteps
end Payer
section Calls
variable {p : Program} {l : Launch} {e : Env} {R : Room} {s : State} {m : MethodId} {args : Array Value} {below : List Frame} {meth : Method} {c : Code} {T : State} {locs : List Loc} {cells slots : Nat}
theorem vx_callV (X : Stand p l e R s m args below meth c T locs cells slots) (hexec : p.tables.exec = Jvm.exec) {own C : String} {index : Nat} {y : MethodName} {bytes : ByteArray} {maxL : Nat} {ret : Option FieldType}
    (hown : s.vm.findClass own = some m.cls) (hlink : (Cond.methodLink own index y).before args s = true) (hinst : (Cond.instanceMethod y).before args s = true) (hsel : (Cond.selects C y y).before args s = true)
    (hcode : (Cond.code y bytes maxL ret).before args s = true) (hy : y.cls ≠ "java/lang/invoke/MethodHandle" ∧ y.cls ≠ "java/lang/invoke/VarHandle")
    {W9 : Nat} {Pre : Pt → Array Value → Prop} {Post : Pt → Array Value → Option Value → Pt → Prop} {PostX : Pt → Array Value → Addr → Pt → Prop} (hK : vx_Back l R p e below s args y 3 W9 Pre Post PostX)
    {b : Addr} {cellB : Cell} (hcell : T.heap[b]? = some cellB) (hobj : cellB.vm.isStatics = false) (hcls : s.vm.findClass C = some cellB.cls)
    {g : JFrame} (hg : g.method = m) (hsize : g.locals.size = c.maxLocals) {argsL rest : List Value} (hlen : ∀ sig, parseMethodDescriptor y.desc = some sig → argsL.length = sig.parameters.length)
    (hstack : g.stack = argsL.reverse ++ .ref b :: rest) (hW : 2 * g.monitorRoom + (rest.map fun v => v.category).sum ≤ W9) (hdg : decode c.code g.pc = .ok (.invokevirtual index, 3))
    (hpre : ∀ vm₁, s.WarmedH vm₁ → Pre ⟨T.setVm vm₁, locs, cells, slots⟩ (Value.ref b :: argsL).toArray) :
    (∃ (v : Option Value) (vm₁ : Vm) (B : Pt), s.WarmedH vm₁ ∧ Stand p l e R s m args below meth c B.U B.locs B.cells B.slots ∧ Post ⟨T.setVm vm₁, locs, cells, slots⟩ (Value.ref b :: argsL).toArray v B ∧
      ∀ target, Steps p.tables e below (B.U.setTop { g with pc := g.pc + 3, stack := v.toList ++ rest }) target → Steps p.tables e below (T.setTop g) target) ∨
    (∃ (q : Addr) (vm₁ : Vm) (B : Pt), s.WarmedH vm₁ ∧ Stand p l e R s m args below meth c B.U B.locs B.cells B.slots ∧ PostX ⟨T.setVm vm₁, locs, cells, slots⟩ (Value.ref b :: argsL).toArray q B ∧
      Steps p.tables e below (T.setTop g) ((B.U.setTop { g with stack := rest }).pushFrame (.throwing q))) := by
  obtain ⟨mk, methM, hnamed, hmethM, hstM, habM⟩ := Cond.instanceMethod_spec hinst
  obtain ⟨methM', cM, hmethM', -, -, -, -, -, -, hsigM⟩ := Cond.code_spec hnamed hcode
  cases hmethM.symm.trans hmethM'
  obtain ⟨c2, r2, m2, q1, q2, q3, q4, kP, hkP, hkPi⟩ := Cond.selects_spec hsel
  cases hcls.symm.trans q1
  cases (State.methodFound?_of_named hnamed hy).symm.trans q2
  cases hnamed.symm.trans q3
  have hselP : selectMethod e.platform s.vm cellB.cls mk = .method mk := by rw [Launch.admits_selectMethod X.admits]; exact q4
  obtain ⟨vm₁, X₁, hstep₁⟩ := X.invokevirtual hexec hown hlink hnamed hmethM hstM hkP hkPi hy (a := b) (cell := cellB) hcell
    (fun z h => by rw [h] at hobj; cases hobj) hselP hmethM habM hkP hkPi (g := g) hg (argsL := argsL) (rest := rest) (hlen _ hsigM) hstack hdg
  rcases hK m meth c ⟨T.setVm vm₁, locs, cells, slots⟩ { g with stack := rest } (.invokevirtual index) mk (Value.ref b :: argsL).toArray X₁ hg hsize hdg hW (X₁.named hnamed) (hpre vm₁ X₁.warmed) with ⟨v, B, X', hpost, hsteps⟩ | ⟨q, B, X', hpost, hsteps⟩
  · exact Or.inl ⟨v, vm₁, B, X₁.warmed, X', hpost, fun target h => hstep₁ _ fun acts => by rw [doInvoke_state]; exact hsteps.trans h⟩
  · exact Or.inr ⟨q, vm₁, B, X₁.warmed, X', hpost, hstep₁ _ fun acts => by rw [doInvoke_state]; exact hsteps⟩
theorem vx_callS (X : Stand p l e R s m args below meth c T locs cells slots) (hexec : p.tables.exec = Jvm.exec) {own : String} {index : Nat} {y : MethodName} {bytes : ByteArray} {maxL : Nat} {ret : Option FieldType}
    (hown : s.vm.findClass own = some m.cls) (hlink : (Cond.methodLink own index y).before args s = true) (hstat : (Cond.static y).before args s = true) (hinit : (Cond.initialized y.cls).before args s = true)
    (hcode : (Cond.code y bytes maxL ret).before args s = true) (hy : y.cls ≠ "java/lang/invoke/MethodHandle" ∧ y.cls ≠ "java/lang/invoke/VarHandle")
    {W9 : Nat} {Pre : Pt → Array Value → Prop} {Post : Pt → Array Value → Option Value → Pt → Prop} {PostX : Pt → Array Value → Addr → Pt → Prop} (hK : vx_Back l R p e below s args y 3 W9 Pre Post PostX)
    {g : JFrame} (hg : g.method = m) (hsize : g.locals.size = c.maxLocals) {argsL rest : List Value} (hlen : ∀ sig, parseMethodDescriptor y.desc = some sig → argsL.length = sig.parameters.length)
    (hstack : g.stack = argsL.reverse ++ rest) (hW : 2 * g.monitorRoom + (rest.map fun v => v.category).sum ≤ W9) (hdg : decode c.code g.pc = .ok (.invokestatic index, 3))
    (hpre : ∀ vm₁, s.WarmedH vm₁ → Pre ⟨T.setVm vm₁, locs, cells, slots⟩ argsL.toArray) :
    (∃ (v : Option Value) (vm₁ : Vm) (B : Pt), s.WarmedH vm₁ ∧ Stand p l e R s m args below meth c B.U B.locs B.cells B.slots ∧ Post ⟨T.setVm vm₁, locs, cells, slots⟩ argsL.toArray v B ∧
      ∀ target, Steps p.tables e below (B.U.setTop { g with pc := g.pc + 3, stack := v.toList ++ rest }) target → Steps p.tables e below (T.setTop g) target) ∨
    (∃ (q : Addr) (vm₁ : Vm) (B : Pt), s.WarmedH vm₁ ∧ Stand p l e R s m args below meth c B.U B.locs B.cells B.slots ∧ PostX ⟨T.setVm vm₁, locs, cells, slots⟩ argsL.toArray q B ∧
      Steps p.tables e below (T.setTop g) ((B.U.setTop { g with stack := rest }).pushFrame (.throwing q))) := by
  obtain ⟨mk, hnamed⟩ := Cond.code_named hcode
  obtain ⟨methM, cM, hmethM, -, -, -, -, -, -, hsigM⟩ := Cond.code_spec hnamed hcode
  have hstatic : methM.isStatic = true := Cond.static_spec hnamed hmethM hstat
  obtain ⟨kP, hkP, -⟩ := className_of_methodNamed hnamed
  have hinitP : kP.init = .initialized := Cond.initialized_spec (findClass_of_methodNamed hnamed) hkP hinit
  obtain ⟨vm₁, X₁, hstep₁⟩ := X.invokestatic hexec hown hlink hnamed hmethM hstatic hkP hinitP hy (g := g) hg (argsL := argsL) (rest := rest) (hlen _ hsigM) hstack hdg
  rcases hK m meth c ⟨T.setVm vm₁, locs, cells, slots⟩ { g with stack := rest } (.invokestatic index) mk argsL.toArray X₁ hg hsize hdg hW (X₁.named hnamed) (hpre vm₁ X₁.warmed) with ⟨v, B, X', hpost, hsteps⟩ | ⟨q, B, X', hpost, hsteps⟩
  · exact Or.inl ⟨v, vm₁, B, X₁.warmed, X', hpost, fun target h => hstep₁ _ fun acts => by rw [doInvoke_state]; exact hsteps.trans h⟩
  · exact Or.inr ⟨q, vm₁, B, X₁.warmed, X', hpost, hstep₁ _ fun acts => by rw [doInvoke_state]; exact hsteps⟩
end Calls
theorem vx_cls {s : State} {T : State} {vm₁ : Vm} {E : String} {k : ClassId} (hW : s.WarmedH vm₁) (h : (T.setVm vm₁).vm.findClass E = some k) : s.vm.findClass E = some k := by
  have h1 : vm₁.findClass E = some k := h
  rw [hW.alike.findClass] at h1
  exact h1
/-- the method's frame g, with q thrown over it -/
def vx_W (p : Program) (l : Launch) (e : Env) (R : Room) (s : State) (m : MethodId) (args : Array Value) (below : List Frame) (meth : Method) (c : Code) (H : Heap) (locs : List Loc) (cells slots : Nat) (Q : State → Prop) (g : JFrame) (q : Addr) : Prop :=
  ∀ T : State, T.heap = H → Stand p l e R s m args below meth c T locs cells slots → ∃ t, Steps p.tables e below ((T.setTop g).pushFrame (.throwing q)) t ∧ Q t
def vx_Run (p : Program) (l : Launch) (e : Env) (R : Room) (s : State) (m : MethodId) (args : Array Value) (below : List Frame) (meth : Method) (c : Code) (H : Heap) (locs : List Loc) (cells slots mc ms : Nat) (g : JFrame) (rest : List Value) (Qa : State → Outcome → State → Prop) (XC : String → State → State → Prop) (free : Addr → Prop) : Prop :=
  ∀ T : State, T.heap = H → Stand p l e R s m args below meth c T locs cells slots →
    (∃ (v : Option Value) (st₀ t T' : State) (L : List Loc), st₀.heap = H ∧ Stand p l e R s m args below meth c T' (locs ++ L) (cells + mc) (slots + ms) ∧ (∀ q ∈ L, free q.base) ∧ T'.heap = t.heap ∧ T'.vm = t.vm ∧ Qa st₀ (.returned v) t ∧
      Goes p e below T g T' { g with pc := g.pc + 3, stack := v.toList ++ rest }) ∨
    (∃ (q : Addr) (st₀ t T' : State) (L : List Loc) (E : String) (ce : Cell), st₀.heap = H ∧ Stand p l e R s m args below meth c T' (locs ++ L) (cells + mc) (slots + ms) ∧ (∀ z ∈ L, free z.base) ∧ T'.heap = t.heap ∧ T'.vm = t.vm ∧ XC E st₀ t ∧ t.heap[q]? = some ce ∧ ce.vm = .none ∧ s.vm.findClass E = some ce.cls ∧
      Steps p.tables e below (T.setTop g) ((T'.setTop { g with stack := rest }).pushFrame (.throwing q)))
def vx_X {S : Type} (px : S → Prop) (B : String → S → State → Prop) (A : Nat → Prop) : String → State → State → Prop := fun E st t => ∃ u : S, px u ∧ B E u t ∧ va_F A st t
section Runs
variable {p : Program} {l : Launch} {e : Env} {R : Room} {s : State} {m : MethodId} {args : Array Value} {below : List Frame} {meth : Method} {c : Code} {H : Heap} {locs : List Loc} {cells slots : Nat}
variable {y : MethodName} {bytes cc : ByteArray} {maxL nL mc ms n index : Nat} {ret : Option FieldType} {ws : List Cond} {rm : Room} {Pc : Array Value → State → Prop} {Qc : Array Value → State → Outcome → State → Prop} {XC : String → State → State → Prop} {free : Addr → Prop} {Ts : List Cond} {own C : String} {b : Addr} {As rest : List Value} {g : JFrame}
theorem vx_callBack (cb : CallB R s args own index y bytes maxL ret ws rm mc ms n) (hM : vx_Met l y ws rm Pc Qc XC mc ms free) (hbl : FrameBlind Pc) : vx_Back l R p e below s args y 3 8 (PreOf R mc ms Pc) (PostOf Qc mc ms free) (vx_Post XC mc ms free) := by
  obtain ⟨hrc, hrs, hfr, hlo, hws, hcw, -, hini, -⟩ := cb
  exact vx_back (bytes := bytes) (maxL := maxL) (ret := ret) hM hbl hrc hrs hfr hlo hws hcw (fun a' U hW => word_at hW (Or.inl (by first | rfl | simp [Cond.onTables, Cond.keeps, Cond.steady])) hini)
theorem vx_runV (S : CallFix p m c cc nL s args Ts own) (hM : vx_Met l y ws rm Pc Qc XC mc ms free) (cw : CallW R s args own C index y bytes maxL ret ws rm mc ms n) (hp : PreV s H C b Pc As)
    (hg : g.method = m) (hn : As.length = n) (hsize : g.locals.size = nL) (hstack : g.stack = As.reverse ++ .ref b :: rest) (hW : 2 * g.monitorRoom + (rest.map fun v => v.category).sum ≤ 8) (hdg : decode cc g.pc = .ok (.invokevirtual index, 3)) (hf : cells + mc ≤ R.cells ∧ slots + ms ≤ R.slots) :
    vx_Run p l e R s m args below meth c H locs cells slots mc ms g rest (Qc (Value.ref b :: As).toArray) XC free := by
  have hK : vx_Back l R p e below s args y 3 8 (PreOf R mc ms Pc) (PostOf Qc mc ms free) (vx_Post XC mc ms free) := vx_callBack cw.1 hM hp.1
  obtain ⟨⟨-, -, -, -, -, -, hcode, -, hy, hlen, hl⟩, hin, hse⟩ := cw
  obtain ⟨hx, hb, hml, ho, -⟩ := S
  obtain ⟨-, ⟨cellB, hcB, hoB, hclB⟩, hPc⟩ := hp
  intro T hT X
  rcases vx_callV X hx (C := C) (bytes := bytes) (maxL := maxL) (ret := ret) ho hl hin hse hcode hy hK (by rw [hT]; exact hcB) hoB hclB hg (hsize.trans hml.symm) (argsL := As) (rest := rest) (fun sig h => hn.trans (hlen sig h)) hstack hW (by rw [hb]; exact hdg)
    (fun vm₁ hW₁ => ⟨hf.1, hf.2, hPc (T.setVm vm₁) hT hW₁⟩) with ⟨v, vm₁, ⟨U', l2, c2, s2⟩, hW₁, X', ⟨g', mk, t, L, e1, e2, hq, h1, hL, h2, h3⟩, st⟩ | ⟨q, vm₁, ⟨U', l2, c2, s2⟩, hW₁, X', ⟨g', mk, t, L, E, ce, e1, e2, hq, hce, hcv, hcl, h1, hL, h2, h3⟩, st⟩
  · dsimp only [Pt.U, Pt.locs, Pt.cells, Pt.slots] at X' e1 e2 h1 h2 h3 st
    subst h1; subst h2; subst h3
    exact Or.inl ⟨v, (T.setVm vm₁).calling g' mk (Value.ref b :: As).toArray, t, U', L, hT, X', hL, e1, e2, hq, st⟩
  · dsimp only [Pt.U, Pt.locs, Pt.cells, Pt.slots] at X' e1 e2 h1 h2 h3 st hcl
    subst h1; subst h2; subst h3
    exact Or.inr ⟨q, (T.setVm vm₁).calling g' mk (Value.ref b :: As).toArray, t, U', L, E, ce, hT, X', hL, e1, e2, hq, hce, hcv, vx_cls hW₁ hcl, st⟩
end Runs
section Rows
variable {p : Program} {l : Launch} {e : Env} {R : Room} {s : State} {m : MethodId} {args : Array Value} {below : List Frame} {meth : Method} {c : Code} {H : Heap} {locs : List Loc} {cells slots : Nat} {Q : State → Prop}
variable {mc ms : Nat} {free : Addr → Prop} {A0 A1 : Nat → Prop} {H0 : Heap} {a : Array Value} {pc : Nat} {ls : Array Slot} {st0 rest : List Value}
theorem vx_keep {st₀ t T' : State} {L : List Loc} (h0 : st₀.heap = H) (e1 : T'.heap = t.heap) (hS : va_S A0 H0 H locs) (hA : ∀ q, q < H.size → A1 q → A0 q) (hf : ∀ q, free q → A0 q) (hL : ∀ q ∈ L, free q.base) (hF : va_F A1 st₀ t) :
    H.size ≤ T'.heap.size ∧ (∀ q : Nat, q < H.size → ¬ A1 q → T'.heap[q]? = H[q]?) ∧ va_S A0 H0 T'.heap (locs ++ L) := by
  obtain ⟨hz, hk⟩ := hF
  rw [h0] at hz hk
  exact ⟨by rw [e1]; exact hz, fun q h1 h2 => by rw [e1]; exact hk q h1 h2,
    ⟨Nat.le_trans hS.1 (by rw [e1]; exact hz), fun q h1 h2 => by rw [e1, hk q (Nat.lt_of_lt_of_le h1 hS.1) (fun z => h2 (hA q (Nat.lt_of_lt_of_le h1 hS.1) z))]; exact hS.2.1 q h1 h2, fun q hq => by
      rcases List.mem_append.mp hq with h | h
      · exact hS.2.2 q h
      · exact hf _ (hL q h)⟩⟩
theorem vx_calli {S SX : Type} {post : Int32 → S → Prop} {px : SX → Prop} {B : S → State → Prop} {BX : String → SX → State → Prop} {AX : Nat → Prop} (hr : vx_Run p l e R s m args below meth c H locs cells slots mc ms (F0 m pc ls st0) rest (va_Qi post B A1 a) (vx_X px BX AX) free) (hS : va_S A0 H0 H locs) (hA : ∀ q, q < H.size → A1 q → A0 q) (hf : ∀ q, free q → A0 q) (hAX : ∀ q, q < H.size → AX q → A0 q)
    (kx : ∀ (E : String) (ce : Cell) (q9 : Addr) (u : SX) (t : State) (H1 : Heap) (locs1 : List Loc), t.heap = H1 → s.vm.Alike t.vm → px u → BX E u t → H.size ≤ H1.size → (∀ q : Nat, q < H.size → ¬ AX q → H1[q]? = H[q]?) → va_S A0 H0 H1 locs1 → H1[q9]? = some ce → ce.vm = .none → s.vm.findClass E = some ce.cls → vx_W p l e R s m args below meth c H1 locs1 (cells + mc) (slots + ms) Q (F0 m pc ls rest) q9)
    (kk : ∀ (r : Int32) (u : S) (t : State) (H1 : Heap) (locs1 : List Loc), t.heap = H1 → s.vm.Alike t.vm → post r u → B u t → H.size ≤ H1.size → (∀ q : Nat, q < H.size → ¬ A1 q → H1[q]? = H[q]?) → va_S A0 H0 H1 locs1 → W p l e R s m args below meth c H1 locs1 (cells + mc) (slots + ms) Q (F0 m (pc + 3) ls (.int r :: rest))) : W p l e R s m args below meth c H locs cells slots Q (F0 m pc ls st0) := by
  intro T hT X
  rcases hr T hT X with ⟨v, st₀, t, T', L, h0, X', hL, e1, e2, ⟨⟨r, u, hv, hp, hb⟩, hF⟩, st⟩ | ⟨q, st₀, t, T', L, E, ce, h0, X', hL, e1, e2, ⟨u, hp, hb, hF⟩, hce, hcv, hcl, st⟩
  · cases hv
    obtain ⟨k1, k2, k3⟩ := vx_keep h0 e1 hS hA hf hL hF
    obtain ⟨t2, a1, b1⟩ := kk r u t T'.heap (locs ++ L) e1.symm (by rw [← e2]; exact X'.warmed.alike) hp hb k1 k2 k3 T' rfl X'
    exact ⟨t2, st t2 a1, b1⟩
  · obtain ⟨k1, k2, k3⟩ := vx_keep h0 e1 hS hAX hf hL hF
    obtain ⟨t2, a1, b1⟩ := kx E ce q u t T'.heap (locs ++ L) e1.symm (by rw [← e2]; exact X'.warmed.alike) hp hb k1 k2 k3 (by rw [e1]; exact hce) hcv hcl T' rfl X'
    exact ⟨t2, st.trans a1, b1⟩
/-- caught by the row x of this method's table; the rows ahead don't take it -/
theorem vx_catch {own name : String} {E : String} {ce : Cell} {q : Addr} (hown : s.vm.findClass own = some m.cls) (pre : List ExceptionTableEntry) (x : ExceptionTableEntry) (suf : List ExceptionTableEntry) (hsplit : c.exceptionTable.toList = pre ++ x :: suf)
    (hpass : ∀ z ∈ pre, covers z pc = false ∨ (z.catchType ≠ 0 ∧ ∃ nm : String, (Cond.classLink own z.catchType nm).before args s = true ∧ va_Nc E nm s)) (hx : covers x pc = true) (h0 : x.catchType ≠ 0)
    (hlink : (Cond.classLink own x.catchType name).before args s = true) (hcast : (Cond.castable E name).before args s = true) (hcell : H[q]? = some ce) (hv : ce.vm = .none) (hcl : s.vm.findClass E = some ce.cls)
    (kk : W p l e R s m args below meth c H locs cells slots Q (F0 m x.handlerPc ls [.ref q])) : vx_W p l e R s m args below meth c H locs cells slots Q (F0 m pc ls rest) q := by
  intro T hT X
  have hpl : e.platform.magicAccessors = ({} : Platform).magicAccessors := by rw [X.admits.platform]
  obtain ⟨c3, c4, hc3, hc4, hasg⟩ := Cond.castable_spec hcast
  cases Option.some.inj (hc3.symm.trans hcl)
  obtain ⟨c5, hc5, hcl5⟩ := Cond.classLink_spec hown hlink e.platform hpl
  cases Option.some.inj (hc4.symm.trans hc5)
  obtain ⟨vm', X', st⟩ := X.thenCaughtThrough q (g := F0 m pc ls rest) rfl (Steps.refl _) (by rw [hT]; exact hcell) (by rw [hv]; rfl) (by obtain ⟨k9, h9, -⟩ := Vm.findClass_spec hcl; exact ⟨k9, h9⟩) pre x suf hsplit
    (fun z hz => by
      rcases hpass z hz with h | ⟨hz0, nm, hl1, hn1⟩
      · exact Or.inl h
      · obtain ⟨c6, hc6, hcl6⟩ := Cond.classLink_spec hown hl1 e.platform hpl
        obtain ⟨a8, b8, h1, h2, h3⟩ := hn1
        cases Option.some.inj (h1.symm.trans hcl)
        cases Option.some.inj (h2.symm.trans hc6)
        exact Or.inr ⟨hz0, _, hcl6, h3⟩) hx (Or.inr ⟨h0, c4, hcl5, hasg⟩)
  obtain ⟨t, a1, b1⟩ := kk (T.setVm vm') hT X'
  exact ⟨t, st.trans a1, b1⟩
end Rows
section Ends
variable {p : Program} {l : Launch} {e : Env} {R : Room} {s : State} {m : MethodId} {args : Array Value} {below : List Frame} {meth : Method} {c : Code} {H : Heap} {locs : List Loc} {cells slots : Nat} {Q : State → Prop}
variable {mc ms : Nat} {free : Addr → Prop} {A0 A1 : Nat → Prop} {H0 : Heap} {a : Array Value} {ls : Array Slot} {st0 rest : List Value}
variable {Qc : Array Value → State → Outcome → State → Prop} {XC : String → State → State → Prop}
/-- what a body that may throw owes at its end -/
def vx_MQ (below : List Frame) (Qc : Array Value → State → Outcome → State → Prop) (XC : String → State → State → Prop) (a : Array Value) (s : State) (mc ms : Nat) (free : Addr → Prop) : State → Prop := fun t =>
  ∃ o, t.status = .running ∧ Ended t below o ∧ vx_Q Qc XC mc ms free a s o t
theorem vx_frame {U : State} {k n : Nat} (h : s.sameButNew ({ U with vm := s.vm } : State) locs k n) : s.heap.size ≤ U.heap.size ∧ ∀ q : Nat, q < s.heap.size → (∀ z ∈ locs, z.base ≠ q) → U.heap[q]? = s.heap[q]? := by
  obtain ⟨-, h2, -, -, -, h6⟩ := h
  refine ⟨h2, fun q hq hz => ?_⟩
  obtain ⟨c9, e1, e2, e3, e4⟩ := h6 q _ (Array.getElem?_eq_getElem hq)
  have hs : c9.slots = (s.heap[q]).slots := Array.ext_getElem? fun i => e4 i fun hm => hz _ hm rfl
  have h9 : c9 = s.heap[q] := by
    rw [hs] at e2
    exact e2
  have e5 : U.heap[q]? = some c9 := e1
  rw [e5, h9, Array.getElem?_eq_getElem hq]
/-- the words of a throw but the four that speak of the heap -/
def vx_no (w : Cond) : Bool := decide (w ≠ .isRef (.static Bundle.tN "UNASSIGNED_STACK" Bundle.steD)) && decide (w ≠ .isRef (.static Bundle.tN "SUPPRESSED_SENTINEL" Bundle.listD)) && decide (w ≠ .laysStatic Bundle.tN "UNASSIGNED_STACK" Bundle.steD) && decide (w ≠ .laysStatic Bundle.tN "SUPPRESSED_SENTINEL" Bundle.listD)
def vx_at0 (own : String) (ic : Nat) (X : String) (names : List String) : List Cond := (Bundle.ownAtoms0 own ic X names).filter vx_no
def vx_atS (own : String) (ic : Nat) (X : String) (names : List String) : List Cond := (Bundle.ownAtoms own ic X names).filter vx_no
/-- a word that the tables alone decide, or a good one -/
def vx_ot (w : Cond) : Bool := w.onTables || goodWord w
theorem vx_ot_at {args a' : Array Value} {s U : State} {w : Cond} (hW : s.WarmedH U.vm) (hvm : s.vm = U.vm) (hg : vx_ot w = true) (h : w.before args s = true) : w.before a' U = true := by
  simp only [vx_ot, Bool.or_eq_true] at hg
  rcases hg with hg | hg
  · exact va_tabs hg hvm h
  · exact word_at hW (good_of_word hg) h
theorem vx_own {args : Array Value} {s : State} {L : List Cond} (h1 : ∀ w ∈ L.filter vx_no, w.before args s = true)
    (hU : (Cond.isRef (.static Bundle.tN "UNASSIGNED_STACK" Bundle.steD)).before args s = true) (hN : (Cond.isRef (.static Bundle.tN "SUPPRESSED_SENTINEL" Bundle.listD)).before args s = true)
    (lU : (Cond.laysStatic Bundle.tN "UNASSIGNED_STACK" Bundle.steD).before args s = true) (lN : (Cond.laysStatic Bundle.tN "SUPPRESSED_SENTINEL" Bundle.listD).before args s = true) : ∀ w ∈ L, w.before args s = true := by
  intro w hw
  by_cases e1 : w = .isRef (.static Bundle.tN "UNASSIGNED_STACK" Bundle.steD)
  · rw [e1]; exact hU
  · by_cases e2 : w = .isRef (.static Bundle.tN "SUPPRESSED_SENTINEL" Bundle.listD)
    · rw [e2]; exact hN
    · by_cases e3 : w = .laysStatic Bundle.tN "UNASSIGNED_STACK" Bundle.steD
      · rw [e3]; exact lU
      · by_cases e4 : w = .laysStatic Bundle.tN "SUPPRESSED_SENTINEL" Bundle.listD
        · rw [e4]; exact lN
        · exact h1 w (List.mem_filter.mpr ⟨hw, by unfold vx_no; rw [decide_eq_true e1, decide_eq_true e2, decide_eq_true e3, decide_eq_true e4]; rfl⟩)
/-- where a static field lies, its class's statics cell in H -/
def vx_L (C n d : String) (A : Nat → Prop) (U : State) (H : Heap) : Prop := ∃ (c : ClassId) (k : Class) (i : Nat) (f : Field) (a : Nat) (cell : Cell), U.vm.findClass C = some c ∧ U.fieldFound? C n d = some (c, k, i, f) ∧ f.isStatic = true ∧ k.statics = some a ∧ H[a]? = some cell ∧ cell.vm.isStatics = true ∧ cell.cls = c ∧ f.slot < cell.slots.size ∧ k.staticTypes[f.slot]? = some f.type ∧ ¬ A a
theorem vx_L.moved {C n d : String} {A : Nat → Prop} {u U : State} {H : Heap} (hvm : u.vm.Alike U.vm) (h : vx_L C n d A u H) : vx_L C n d A U H := by
  obtain ⟨c, k, i, f, a, cell, h1, h2, h3, h4, h5, h6, h7, h8, h9, h10⟩ := h
  obtain ⟨k', hi', he⟩ := State.fieldFound?_setVm hvm h2
  exact ⟨c, k', i, f, a, cell, by rw [hvm.findClass]; exact h1, hi', h3, by rw [he]; exact h4, h5, h6, h7, h8, by rw [he]; exact h9, h10⟩
theorem vx_L.kept {C n d : String} {A : Nat → Prop} {U : State} {H H1 : Heap} (h : vx_L C n d A U H) (hq : ∀ a : Nat, a < H.size → ¬ A a → H1[a]? = H[a]?) : vx_L C n d A U H1 := by
  obtain ⟨c, k, i, f, a, cell, h1, h2, h3, h4, h5, h6, h7, h8, h9, h10⟩ := h
  exact ⟨c, k, i, f, a, cell, h1, h2, h3, h4, by rw [hq a (Array.getElem?_eq_some_iff.mp h5).1 h10]; exact h5, h6, h7, h8, h9, h10⟩
theorem vx_L.narrow {C n d : String} {A B : Nat → Prop} {U : State} {H : Heap} (h : vx_L C n d A U H) (hAB : ∀ q, B q → A q) : vx_L C n d B U H := by
  obtain ⟨c, k, i, f, a, cell, h1, h2, h3, h4, h5, h6, h7, h8, h9, h10⟩ := h
  exact ⟨c, k, i, f, a, cell, h1, h2, h3, h4, h5, h6, h7, h8, h9, fun z => h10 (hAB _ z)⟩
theorem vx_L.word {C n d : String} {A : Nat → Prop} {s : State} {args : Array Value} (h : vx_L C n d A s s.heap) : (Cond.laysStatic C n d).before args s = true := by
  obtain ⟨c, k, i, f, a, cell, h1, h2, h3, h4, h5, h6, h7, h8, h9, -⟩ := h
  show (Cond.laysStatic C n d).holds args s none s [] = true
  exact Cond.laysStatic_of h1 h2 h3 h4 h5 h6 h7 h8 h9
/-- .. and what it holds: null or some reference -/
def vx_Zq (C n d : String) (A : Nat → Prop) (U : State) (H : Heap) : Prop := va_Zq C n d A U H ∧ vx_L C n d A U H
theorem vx_Zq.moved {C n d : String} {A : Nat → Prop} {u U : State} {H : Heap} (hvm : u.vm.Alike U.vm) (h : vx_Zq C n d A u H) : vx_Zq C n d A U H := ⟨va_Zq.moved hvm h.1, vx_L.moved hvm h.2⟩
theorem vx_Zq.kept {C n d : String} {A : Nat → Prop} {U : State} {H H1 : Heap} (h : vx_Zq C n d A U H) (hq : ∀ a : Nat, a < H.size → ¬ A a → H1[a]? = H[a]?) : vx_Zq C n d A U H1 := ⟨va_Zq.kept h.1 hq, vx_L.kept h.2 hq⟩
theorem vx_Zq.narrow {C n d : String} {A B : Nat → Prop} {U : State} {H : Heap} (h : vx_Zq C n d A U H) (hAB : ∀ q, B q → A q) : vx_Zq C n d B U H := ⟨va_Zq.narrow h.1 hAB, vx_L.narrow h.2 hAB⟩
theorem vx_Zqof {args : Array Value} {s : State} {C n d : String} {A : Nat → Prop} (hl : (Cond.laysStatic C n d).before args s = true) (hini : (Cond.initialized C).before args s = true) (h : (Cond.isRef (.static C n d)).before args s = true) (hA : ∀ a : Nat, a < s.heap.size → ¬ A a) : vx_Zq C n d A s s.heap := by
  refine ⟨va_Zqof hl hini h hA, ?_⟩
  obtain ⟨c, k, i, f, a, cell, h1, h2, h3, h4, h5, h6, h7, h8, h9⟩ := Cond.laysStatic_spec hl
  exact ⟨c, k, i, f, a, cell, h1, h2, h3, h4, h5, h6, h7, h8, h9, hA a (Array.getElem?_eq_some_iff.mp h5).1⟩
theorem vx_isRef {C n d : String} {v : Value} {A : Nat → Prop} {s : State} {args : Array Value} (h : va_Z C n d v A s s.heap) (hv : v.isRef = true) : (Cond.isRef (.static C n d)).before args s = true := by
  obtain ⟨cf, kf, fi, f, a, cell, h1, h2, h3, h4, h5, h6, h7, -⟩ := h
  have he : (Term.static C n d).eval args s none [] s = some v := by
    simp [Term.eval, State.fieldNamed?, h1, h2, h4, h5, h6, h7]
  simp only [Cond.before, Cond.holds, Cond.value, he]
  cases v <;> simp_all [Value.isRef]
theorem vx_isRefq {C n d : String} {A : Nat → Prop} {s : State} {args : Array Value} (h : va_Zq C n d A s s.heap) : (Cond.isRef (.static C n d)).before args s = true := by
  rcases h with h | ⟨t, h⟩
  · exact vx_isRef h rfl
  · exact vx_isRef h rfl
/-- the same frame, seen from here: as if the method were called anew in this heap -/
theorem vx_rebase {T : State} (X : Stand p l e R s m args below meth c T locs cells slots) {R' : Room} (hf : R'.frames ≤ R.frames) (hl : R'.locals ≤ R.locals) (hc : cells + R'.cells ≤ R.cells) (hs : slots + R'.slots ≤ R.slots) :
    Stand p l e R' ((T.setVm s.vm).setFrames (.invoking m args :: below)) m args below meth c T [] 0 0 := by
  have htop : (T.setVm s.vm).topJava?.isSome := X.here.top
  have hF : ((T.setVm s.vm).setFrames (.invoking m args :: below)).frames = .invoking m args :: below := State.frames_setFrames _ (State.cur_lt_of_top htop)
  obtain ⟨g₀, hg0⟩ := Option.isSome_iff_exists.mp htop
  obtain ⟨r, hr⟩ := State.topJava?_eq_some.mp hg0
  have hl9 : e.platform.stackLimits (T.setVm s.vm).me = e.platform.stackLimits s.me := X.limits
  have hb9 : (T.setVm s.vm).me.stackBytes = s.me.stackBytes := X.bytes
  refine ⟨X.admits, X.cas, X.clock, hF, ?_, X.hears, X.method, X.code, X.here, X.tail, X.warmed, ?_, ?_, ?_⟩
  · have h := X.room
    have hU : ((T.setVm s.vm).setFrames (.invoking m args :: below)).localsInUse = s.localsInUse := by
      rw [State.localsInUse_invoking hF (meth := meth) (c := c) X.method X.code, State.localsInUse_invoking X.frames X.method X.code]
    simp only [State.hasRoom, Bool.and_eq_true, decide_eq_true_eq] at h ⊢
    obtain ⟨⟨⟨⟨h1, h2, h3, h4, h5, h6⟩, h7⟩, h8⟩, h9⟩ := h
    rw [X.frames, List.length_cons] at h2 h3
    have q1 := X.heapSize
    have q2 := X.used
    simp only [hF, hU, List.length_cons, State.stackLimits_setFrames, State.stackBytes_setFrames, hl9, hb9]
    refine ⟨⟨⟨⟨by omega, by omega, by omega, by omega, by omega, h6⟩, ?_⟩, ?_⟩, X.book⟩
    · show T.heap.size + R'.cells ≤ e.platform.maxCells
      omega
    · show T.slotsUsed + R'.slots ≤ e.platform.maxSlots
      omega
  · rw [State.stackLimits_setFrames]; rfl
  · rw [State.stackBytes_setFrames]; rfl
  · refine ⟨?_, Nat.le_refl _, Nat.le_refl _, ?_, ?_, fun a c9 h9 => ⟨c9, h9, rfl, rfl, fun _ _ => rfl⟩⟩
    · obtain ⟨t, ht, -⟩ := State.frames_cons hr
      show T.setVm s.vm = { ((T.setVm s.vm).setFrames (.invoking m args :: below)).setFrames (T.setVm s.vm).frames with heap := T.heap, slotsUsed := T.slotsUsed }
      rw [State.setFrames_setFrames, State.setFrames_self ht]
      rfl
    · show T.slotsUsed = T.slotsUsed + ((T.heap.toList.drop T.heap.size).map (·.slots.size)).sum
      rw [List.drop_eq_nil_of_le (Nat.le_of_eq Array.length_toList)]
      rfl
    · show ((T.heap.toList.drop T.heap.size).map (·.slots.size)).sum ≤ 0
      rw [List.drop_eq_nil_of_le (Nat.le_of_eq Array.length_toList)]
      exact Nat.le_refl _
/-- 'throw new E()': new; dup; invokespecial; athrow -/
theorem vx_throw0 {cc : ByteArray} {pc : Nat} (hexec : p.tables.exec = Jvm.exec) (hb : c.code = cc) (hl : l.stackTraces = false) {own cls : String} {names : List String} {ik ic mc ms : Nat} {A : Nat → Prop}
    (hown : s.vm.findClass own = some m.cls) (hcls : Bundle.fit cls = true) (hnames : ∀ n ∈ names, Bundle.fit n = true)
    (hk : (Cond.classLink own ik cls).before args s = true) (hini : (Cond.initialized cls).before args s = true) (hat : ∀ w ∈ vx_at0 own ic cls names, w.before args s = true)
    (hgood : ∀ w ∈ Cond.classLink own ik cls :: Cond.initialized cls :: vx_at0 own ic cls names, vx_ot w = true)
    (hU : vx_Zq Bundle.tN "UNASSIGNED_STACK" Bundle.steD A s s.heap) (hN : vx_Zq Bundle.tN "SUPPRESSED_SENTINEL" Bundle.listD A s s.heap) (hS : va_S A s.heap H locs) (hsize : ls.size = c.maxLocals)
    (d0 : decode cc pc = .ok (.new ik, 3)) (d3 : decode cc (pc + 3) = .ok (.dup, 1)) (d4 : decode cc (pc + 4) = .ok (.invokespecial ic, 3)) (d7 : decode cc (pc + 7) = .ok (.athrow, 1))
    (hout : ∀ x ∈ c.exceptionTable.toList, covers x (pc + 7) = false)
    (hRframes : names.length + 3 < R.frames) (hRlocals : (rest.map fun v => v.category).sum + (13 * (names.length + 1) + 42) ≤ R.locals) (hRcells : cells + 1 ≤ R.cells) (hRslots : slots + 6 ≤ R.slots) (hlocks : meth.locks = false)
    (hx : ∀ t : State, s.vm.Alike t.vm → H.size ≤ t.heap.size → (∀ q : Nat, q < H.size → t.heap[q]? = H[q]?) → XC cls s t)
    (hf : ∀ z ∈ locs, free z.base) (hc : cells + 1 ≤ mc) (hs : slots + 6 ≤ ms) :
    W p l e R s m args below meth c H locs cells slots (vx_MQ below Qc XC args s mc ms free) (F0 m pc ls rest) := by
  intro T hT X
  have htr : e.platform.stackTraces = false := (show e.platform.stackTraces = l.stackTraces by rw [X.admits.platform]).trans hl
  have Y := vx_rebase X (R' := { frames := R.frames, locals := R.locals, cells := 1, slots := 6 }) (Nat.le_refl _) (Nat.le_refl _) hRcells hRslots
  obtain ⟨s', hA⟩ : ∃ z, z = (T.setVm s.vm).setFrames (.invoking m args :: below) := ⟨_, rfl⟩
  rw [← hA] at Y
  have hvm : s'.vm = s.vm := by rw [hA]; rfl
  have hhp : s'.heap = H := by rw [hA]; exact hT
  have hW0 : s.WarmedH s'.vm := by rw [hvm]; exact State.WarmedH.refl s
  have hat' : ∀ w ∈ vx_at0 own ic cls names, w.before args s' = true := fun w hw => vx_ot_at hW0 hvm.symm (hgood w (List.mem_cons_of_mem _ (List.mem_cons_of_mem _ hw))) (hat w hw)
  have hk' : (Cond.classLink own ik cls).before args s' = true := vx_ot_at hW0 hvm.symm (hgood _ List.mem_cons_self) hk
  have hini' : (Cond.initialized cls).before args s' = true := vx_ot_at hW0 hvm.symm (hgood _ (List.mem_cons_of_mem _ List.mem_cons_self)) hini
  have hU' : vx_Zq Bundle.tN "UNASSIGNED_STACK" Bundle.steD A s' s'.heap := by rw [hhp]; exact vx_Zq.moved hW0.alike (hU.kept hS.2.1)
  have hN' : vx_Zq Bundle.tN "SUPPRESSED_SENTINEL" Bundle.listD A s' s'.heap := by rw [hhp]; exact vx_Zq.moved hW0.alike (hN.kept hS.2.1)
  have h : ∀ w ∈ Bundle.ownAtoms0 own ic cls names, w.before args s' = true := vx_own hat' (vx_isRefq hU'.1) (vx_isRefq hN'.1) hU'.2.word hN'.2.word
  have hown' : s'.vm.findClass own = some m.cls := by rw [hvm]; exact hown
  have hins : (Cond.instantiable cls 6).before args s' = true := h _ (by simp [Bundle.ownAtoms0])
  obtain ⟨vm₁, cX, kX, hfX, hkX, -, -, X₁, st1⟩ := Y.newCold hexec (own := own) (C := cls) (index := ik) (n := 6) hown' hk' hins hini'
    (g := F0 m pc ls rest) rfl (by rw [hb]; exact d0) (Nat.le_refl _) (Nat.le_refl _)
  generalize hT1 : (T.setVm vm₁).pushCell { cls := cX, slots := kX.instanceTypes.map defaultValue, vm := .none } = T1 at X₁ st1
  have hcat : (Value.ref T.heap.size).category = 1 := rfl
  have hcellA : T1.heap[T.heap.size]? = some (freshCell cX kX) := by rw [← hT1]; exact State.heap_pushCell_size _ _
  have d3' : decode c.code (pc + 3) = .ok (.dup, 1) := by rw [hb]; exact d3
  obtain ⟨U, hsteps, hrun, hend, hW, hsame, ce, hce, hO⟩ := X₁.ctorThrow0 hexec htr (own := own) (cls := cls) (names := names) (ic := ic) hown' hcls hnames h (fun x hx => nomatch hx) hfX hkX hcellA (by rw [hhp, hT]; exact Nat.le_refl _)
    (g := { method := m, pc := pc + 4, locals := ls, stack := .ref T.heap.size :: .ref T.heap.size :: rest, locked := none }) rfl hsize rfl rfl (rest := rest) rfl
    (by rw [hb]; exact d4) (by rw [hb]; exact d7) hout hRframes (by simp only [List.map_cons, List.sum_cons, hcat]; omega) hlocks
  obtain ⟨f1, f2⟩ := vx_frame hsame
  rw [hhp] at f1 f2
  have hWs : s.WarmedH U.vm := State.WarmedH.trans hW0 hW
  have hcl : s.vm.findClass cls = some ce.cls := by
    have h9 := hO.cls
    rw [hvm] at h9
    exact h9
  have hall : s.sameButNew ({ U with vm := s.vm } : State) locs mc ms := by
    subst hA
    obtain ⟨e1, e2⟩ := hsame
    rw [State.setFrames_setFrames] at e1
    have h2 : (T.setVm s.vm).sameButNew ({ U with vm := s.vm } : State) [] (0 + 1) (0 + 6) := ⟨e1, e2⟩
    have h3 := X.same.trans h2
    rw [List.append_nil] at h3
    exact h3.mono hc hs
  refine ⟨U, ?_, .threw T.heap.size, hrun, hend, Or.inr ⟨T.heap.size, rfl, cls, ce, locs, hx U hWs.alike f1 (fun q hq => f2 q hq (fun z hz => nomatch hz)), hce, hO.vm, hcl, hWs, hall, hf⟩⟩
  refine st1 _ ?_
  show Steps p.tables e below (T1.setTop { method := m, pc := pc + 3, locals := ls, stack := .ref T.heap.size :: rest, locked := none }) _
  jvm_step X₁.here [X₁.here.top, hexec, d3', Value.category]
  exact hsteps
/-- 'throw new E("text")': new; dup; ldc; invokespecial; athrow -/
theorem vx_throwS {cc : ByteArray} {pc : Nat} (hexec : p.tables.exec = Jvm.exec) (hb : c.code = cc) (hl : l.stackTraces = false) {own cls text : String} {names : List String} {ik is ic mc ms sa : Nat} {A : Nat → Prop}
    (hown : s.vm.findClass own = some m.cls) (hcls : Bundle.fit cls = true) (hnames : ∀ n ∈ names, Bundle.fit n = true)
    (hk : (Cond.classLink own ik cls).before args s = true) (hini : (Cond.initialized cls).before args s = true) (hstr : vk_R own is text sa s) (hat : ∀ w ∈ vx_atS own ic cls names, w.before args s = true)
    (hgood : ∀ w ∈ Cond.classLink own ik cls :: Cond.initialized cls :: vx_atS own ic cls names, vx_ot w = true)
    (hU : vx_Zq Bundle.tN "UNASSIGNED_STACK" Bundle.steD A s s.heap) (hN : vx_Zq Bundle.tN "SUPPRESSED_SENTINEL" Bundle.listD A s s.heap) (hS : va_S A s.heap H locs) (hsize : ls.size = c.maxLocals)
    (d0 : decode cc pc = .ok (.new ik, 3)) (d3 : decode cc (pc + 3) = .ok (.dup, 1)) (d4 : decode cc (pc + 4) = .ok (.ldc is, 2)) (d6 : decode cc (pc + 6) = .ok (.invokespecial ic, 3)) (d9 : decode cc (pc + 9) = .ok (.athrow, 1))
    (hout : ∀ x ∈ c.exceptionTable.toList, covers x (pc + 9) = false)
    (hRframes : names.length + 3 < R.frames) (hRlocals : (rest.map fun v => v.category).sum + (13 * (names.length + 1) + 43) ≤ R.locals) (hRcells : cells + 1 ≤ R.cells) (hRslots : slots + 6 ≤ R.slots) (hlocks : meth.locks = false)
    (hx : ∀ t : State, s.vm.Alike t.vm → H.size ≤ t.heap.size → (∀ q : Nat, q < H.size → t.heap[q]? = H[q]?) → XC cls s t)
    (hf : ∀ z ∈ locs, free z.base) (hc : cells + 1 ≤ mc) (hs : slots + 6 ≤ ms) :
    W p l e R s m args below meth c H locs cells slots (vx_MQ below Qc XC args s mc ms free) (F0 m pc ls rest) := by
  intro T hT X
  have htr : e.platform.stackTraces = false := (show e.platform.stackTraces = l.stackTraces by rw [X.admits.platform]).trans hl
  have Y := vx_rebase X (R' := { frames := R.frames, locals := R.locals, cells := 1, slots := 6 }) (Nat.le_refl _) (Nat.le_refl _) hRcells hRslots
  obtain ⟨s', hA⟩ : ∃ z, z = (T.setVm s.vm).setFrames (.invoking m args :: below) := ⟨_, rfl⟩
  rw [← hA] at Y
  have hvm : s'.vm = s.vm := by rw [hA]; rfl
  have hhp : s'.heap = H := by rw [hA]; exact hT
  have hW0 : s.WarmedH s'.vm := by rw [hvm]; exact State.WarmedH.refl s
  have hat' : ∀ w ∈ vx_atS own ic cls names, w.before args s' = true := fun w hw => vx_ot_at hW0 hvm.symm (hgood w (List.mem_cons_of_mem _ (List.mem_cons_of_mem _ hw))) (hat w hw)
  have hk' : (Cond.classLink own ik cls).before args s' = true := vx_ot_at hW0 hvm.symm (hgood _ List.mem_cons_self) hk
  have hini' : (Cond.initialized cls).before args s' = true := vx_ot_at hW0 hvm.symm (hgood _ (List.mem_cons_of_mem _ List.mem_cons_self)) hini
  have hU' : vx_Zq Bundle.tN "UNASSIGNED_STACK" Bundle.steD A s' s'.heap := by rw [hhp]; exact vx_Zq.moved hW0.alike (hU.kept hS.2.1)
  have hN' : vx_Zq Bundle.tN "SUPPRESSED_SENTINEL" Bundle.listD A s' s'.heap := by rw [hhp]; exact vx_Zq.moved hW0.alike (hN.kept hS.2.1)
  have h : ∀ w ∈ Bundle.ownAtoms own ic cls names, w.before args s' = true := vx_own hat' (vx_isRefq hU'.1) (vx_isRefq hN'.1) hU'.2.word hN'.2.word
  have hown' : s'.vm.findClass own = some m.cls := by rw [hvm]; exact hown
  have hins : (Cond.instantiable cls 6).before args s' = true := h _ (by simp [Bundle.ownAtoms])
  obtain ⟨vm₁, cX, kX, hfX, hkX, -, -, X₁, st1⟩ := Y.newCold hexec (own := own) (C := cls) (index := ik) (n := 6) hown' hk' hins hini'
    (g := F0 m pc ls rest) rfl (by rw [hb]; exact d0) (Nat.le_refl _) (Nat.le_refl _)
  generalize hT1 : (T.setVm vm₁).pushCell { cls := cX, slots := kX.instanceTypes.map defaultValue, vm := .none } = T1 at X₁ st1
  have hcat : (Value.ref T.heap.size).category = 1 := rfl
  have hcellA : T1.heap[T.heap.size]? = some (freshCell cX kX) := by rw [← hT1]; exact State.heap_pushCell_size _ _
  have d3' : decode c.code (pc + 3) = .ok (.dup, 1) := by rw [hb]; exact d3
  have d4' : decode c.code (pc + 4) = .ok (.ldc is, 2) := by rw [hb]; exact d4
  have hstr' : vk_R own is text sa s' := vk_R.warm hW0 hstr
  obtain ⟨U, hsteps, hrun, hend, hW, hsame, ce, hce, hO⟩ := X₁.ctorThrowS hexec htr (own := own) (cls := cls) (names := names) (ic := ic) hown' hcls hnames h (fun x hx => nomatch hx) hfX hkX hcellA (by rw [hhp, hT]; exact Nat.le_refl _) (msg := .ref sa) rfl
    (g := { method := m, pc := pc + 6, locals := ls, stack := .ref sa :: .ref T.heap.size :: .ref T.heap.size :: rest, locked := none }) rfl hsize rfl rfl (rest := rest) rfl
    (by rw [hb]; exact d6) (by rw [hb]; exact d9) hout hRframes (by simp only [List.map_cons, List.sum_cons, hcat]; omega) hlocks
  obtain ⟨f1, f2⟩ := vx_frame hsame
  rw [hhp] at f1 f2
  have hWs : s.WarmedH U.vm := State.WarmedH.trans hW0 hW
  have hcl : s.vm.findClass cls = some ce.cls := by
    have h9 := hO.cls
    rw [hvm] at h9
    exact h9
  have hall : s.sameButNew ({ U with vm := s.vm } : State) locs mc ms := by
    subst hA
    obtain ⟨e1, e2⟩ := hsame
    rw [State.setFrames_setFrames] at e1
    have h2 : (T.setVm s.vm).sameButNew ({ U with vm := s.vm } : State) [] (0 + 1) (0 + 6) := ⟨e1, e2⟩
    have h3 := X.same.trans h2
    rw [List.append_nil] at h3
    exact h3.mono hc hs
  refine ⟨U, ?_, .threw T.heap.size, hrun, hend, Or.inr ⟨T.heap.size, rfl, cls, ce, locs, hx U hWs.alike f1 (fun q hq => f2 q hq (fun z hz => nomatch hz)), hce, hO.vm, hcl, hWs, hall, hf⟩⟩
  refine st1 _ ?_
  show Steps p.tables e below (T1.setTop { method := m, pc := pc + 3, locals := ls, stack := .ref T.heap.size :: rest, locked := none }) _
  jvm_step X₁.here [X₁.here.top, hexec, d3', Value.category]
  exact X₁.ldcString hexec (own := own) (text := text) (index := is) (a := sa) hown' hstr'.1 hstr'.2
    (g := { method := m, pc := pc + 4, locals := ls, stack := .ref T.heap.size :: .ref T.heap.size :: rest, locked := none }) rfl d4' _ hsteps
end Ends
section Bodies
variable {l : Launch}
theorem vx_ofW {y : MethodName} {ws ws' : List Cond} {rm : Room} {Pc : Array Value → State → Prop} {Qc : Array Value → State → Outcome → State → Prop} {XC : String → State → State → Prop} {mc ms : Nat} {free : Addr → Prop} {cc : ByteArray} {maxL : Nat} {ret : Option FieldType}
    (hy : plainName y.cls = true) (hw : ws = Cond.code y cc maxL ret :: ws')
    (body : ∀ p e s m args below meth c s₁, BodyLoose p l y (headSpec ws rm) cc maxL ret e s m args below meth c s₁ → c.maxLocals = maxL → (∀ x ∈ c.exceptionTable.toList, False) → Pc args s →
      W p l e (headSpec ws rm).room s m args below meth c s.heap [] 0 0 (vx_MQ below Qc XC args s mc ms free) (entryFrame m args maxL)) : vx_Met l y ws rm Pc Qc XC mc ms free := by
  refine MetFree.of_bodyS (code := cc) (maxLocals := maxL) (ret := ret) hy ?_ ?_
  · intro args s m h hn
    obtain ⟨meth, c, h1, h2, h3, h4, h5, h6, -, -⟩ := Cond.code_spec hn (atoms_spec (ws := ws) h _ (by rw [hw]; exact List.mem_cons_self))
    exact ⟨meth, c, h1, h2, h3, h4, h5, h6⟩
  · intro p e s m args below meth c s₁ B hml hP _
    have hh0 : s₁.heap = s.heap := by rw [B.state]; rfl
    have ht : ∀ x ∈ c.exceptionTable.toList, False := by
      obtain ⟨meth9, c9, h1, h2, -, -, -, -, h7, -⟩ := Cond.code_spec B.named (atoms_spec (ws := ws) B.pre _ (by rw [hw]; exact List.mem_cons_self))
      cases Option.some.inj (h1.symm.trans B.method)
      cases Option.some.inj (h2.symm.trans (Stand.of_body B).code)
      intro x hx
      rw [Array.isEmpty_iff.mp h7] at hx
      cases hx
    obtain ⟨t, a1, o, b1, b2, b3⟩ := body p e s m args below meth c s₁ B hml ht hP s₁ hh0 (Stand.of_body B)
    exact ⟨t, o, a1, b1, b2, b3⟩
/-- the table of a body with handlers -/
theorem vx_table {p : Program} {x y : MethodName} {S : Spec} {cc bytes : ByteArray} {maxL maxL' : Nat} {ret ret' : Option FieldType} {e : Env} {s s₁ : State} {m : MethodId} {args : Array Value} {below : List Frame} {meth : Method} {c : Code} {hh : List (Nat × Nat × Nat × Nat)}
    (B : BodyLoose p l y S cc maxL ret e s m args below meth c s₁) (h : (Cond.codeWith y bytes maxL' ret' hh).before args s = true) : c.exceptionTable.toList = tableOf hh := by
  obtain ⟨m9, meth9, c9, hn9, h1, h2, -, -, h6, -⟩ := Cond.codeWith_spec h
  cases Option.some.inj (hn9.symm.trans B.named)
  cases Option.some.inj (h1.symm.trans B.method)
  cases Option.some.inj (h2.symm.trans (Stand.of_body B).code)
  rw [← h6, table_eq]
end Bodies
end VXA
/-! ===== END ===== -/
/-! ===== BEGIN a static call of a method with an exception table ===== -/
section VXS
variable {p : Program} {l : Launch} {e : Env} {R : Room} {s : State} {m : MethodId} {args : Array Value} {below : List Frame} {meth : Method} {c : Code} {T : State} {H : Heap} {locs : List Loc} {cells slots : Nat}
abbrev vx_CSW (R : Room) (s : State) (args : Array Value) (own : String) (index : Nat) (y : MethodName) (bytes : ByteArray) (maxL : Nat) (ret : Option FieldType) (hh : List (Nat × Nat × Nat × Nat)) (ws : List Cond) (rm : Room) (mc ms n : Nat) : Prop :=
  (rm.cells = mc ∧ rm.slots = ms ∧ rm.frames + 1 ≤ R.frames ∧ 8 + (maxL + 11) + rm.locals ≤ R.locals ∧ (∀ w ∈ ws, ∀ (a' : Array Value) (U : State), s.WarmedH U.vm → w.before a' U = true) ∧ Cond.codeWith y bytes maxL ret hh ∈ ws) ∧
  (Cond.codeWith y bytes maxL ret hh).before args s = true ∧ (Cond.initialized y.cls).before args s = true ∧ (y.cls ≠ "java/lang/invoke/MethodHandle" ∧ y.cls ≠ "java/lang/invoke/VarHandle") ∧
  (∀ sig, parseMethodDescriptor y.desc = some sig → n = sig.parameters.length) ∧ (Cond.methodLink own index y).before args s = true ∧ (Cond.static y).before args s = true
theorem vx_callSW (X : Stand p l e R s m args below meth c T locs cells slots) (hexec : p.tables.exec = Jvm.exec) {own : String} {index : Nat} {y : MethodName} {bytes : ByteArray} {maxL : Nat} {ret : Option FieldType} {hh : List (Nat × Nat × Nat × Nat)}
    (hown : s.vm.findClass own = some m.cls) (hlink : (Cond.methodLink own index y).before args s = true) (hstat : (Cond.static y).before args s = true) (hinit : (Cond.initialized y.cls).before args s = true)
    (hcode : (Cond.codeWith y bytes maxL ret hh).before args s = true) (hy : y.cls ≠ "java/lang/invoke/MethodHandle" ∧ y.cls ≠ "java/lang/invoke/VarHandle")
    {W9 : Nat} {Pre : Pt → Array Value → Prop} {Post : Pt → Array Value → Option Value → Pt → Prop} (hK : Back l R p e below s args y 3 W9 Pre Post)
    {g : JFrame} (hg : g.method = m) (hsize : g.locals.size = c.maxLocals) {argsL rest : List Value} (hlen : ∀ sig, parseMethodDescriptor y.desc = some sig → argsL.length = sig.parameters.length)
    (hstack : g.stack = argsL.reverse ++ rest) (hW : 2 * g.monitorRoom + (rest.map fun v => v.category).sum ≤ W9) (hdg : decode c.code g.pc = .ok (.invokestatic index, 3))
    (hpre : ∀ vm₁, s.WarmedH vm₁ → Pre ⟨T.setVm vm₁, locs, cells, slots⟩ argsL.toArray) :
    ∃ (v : Option Value) (vm₁ : Vm) (B : Pt), s.WarmedH vm₁ ∧ Stand p l e R s m args below meth c B.U B.locs B.cells B.slots ∧ Post ⟨T.setVm vm₁, locs, cells, slots⟩ argsL.toArray v B ∧
      ∀ target, Steps p.tables e below (B.U.setTop { g with pc := g.pc + 3, stack := v.toList ++ rest }) target → Steps p.tables e below (T.setTop g) target := by
  obtain ⟨mk, methM, cM, hnamed, hmethM, -, -, -, -, -, -, hsigM⟩ := Cond.codeWith_spec hcode
  have hstatic : methM.isStatic = true := Cond.static_spec hnamed hmethM hstat
  obtain ⟨kP, hkP, -⟩ := className_of_methodNamed hnamed
  have hinitP : kP.init = .initialized := Cond.initialized_spec (findClass_of_methodNamed hnamed) hkP hinit
  obtain ⟨vm₁, X₁, hstep₁⟩ := X.invokestatic hexec hown hlink hnamed hmethM hstatic hkP hinitP hy (g := g) hg (argsL := argsL) (rest := rest) (hlen _ hsigM) hstack hdg
  obtain ⟨v, B, X', hpost, hsteps⟩ := hK m meth c ⟨T.setVm vm₁, locs, cells, slots⟩ { g with stack := rest } (.invokestatic index) mk argsL.toArray X₁ hg hsize hdg hW (X₁.named hnamed) (hpre vm₁ X₁.warmed)
  exact ⟨v, vm₁, B, X₁.warmed, X', hpost, fun target h => hstep₁ _ fun acts => by rw [doInvoke_state]; exact hsteps.trans h⟩
theorem vx_runSW {y : MethodName} {bytes cc : ByteArray} {maxL nL mc ms n index : Nat} {ret : Option FieldType} {hh : List (Nat × Nat × Nat × Nat)} {ws : List Cond} {rm : Room} {Pc : Array Value → State → Prop} {Qc : Array Value → State → Outcome → State → Prop} {free : Addr → Prop} {Ts : List Cond} {own : String} {As rest : List Value} {g : JFrame}
    (S : CallFix p m c cc nL s args Ts own) (hM : Met l y ws rm Pc Qc mc ms free) (cw : vx_CSW R s args own index y bytes maxL ret hh ws rm mc ms n) (hp : PreS s H Pc As)
    (hg : g.method = m) (hn : As.length = n) (hsize : g.locals.size = nL) (hstack : g.stack = As.reverse ++ rest) (hW : 2 * g.monitorRoom + (rest.map fun v => v.category).sum ≤ 8) (hdg : decode cc g.pc = .ok (.invokestatic index, 3)) (hf : cells + mc ≤ R.cells ∧ slots + ms ≤ R.slots) :
    va_Run p l e R s m args below meth c H locs cells slots mc ms g rest (Qc As.toArray) (free) := by
  obtain ⟨⟨hrc, hrs, hfr, hlo, hws, hcw⟩, hcode, hini, hy, hlen, hl, hstt⟩ := cw
  have hK : Back l R p e below s args y 3 8 (PreOf R mc ms Pc) (PostOf Qc mc ms free) := va_backW (hh := hh) (bytes := bytes) (maxL := maxL) (ret := ret) hM hp.1 hrc hrs hfr hlo hws hcw (fun a' U hW => word_at hW (Or.inl (by first | rfl | simp [Cond.onTables, Cond.keeps, Cond.steady])) hini)
  obtain ⟨hx, hb, hml, ho, -⟩ := S
  intro T hT X
  obtain ⟨v, vm₁, ⟨U', l2, c2, s2⟩, hW₁, X', ⟨g', mk, t, L, e1, e2, hq, h1, hL, h2, h3⟩, st⟩ := vx_callSW X hx (hh := hh) (bytes := bytes) (maxL := maxL) (ret := ret) ho hl hstt hini hcode hy hK hg (hsize.trans hml.symm) (argsL := As) (rest := rest) (fun sig h => hn.trans (hlen sig h)) hstack hW (by rw [hb]; exact hdg)
    (fun vm₁ hW₁ => ⟨hf.1, hf.2, hp.2 (T.setVm vm₁) hT hW₁⟩)
  dsimp only [Pt.U, Pt.locs, Pt.cells, Pt.slots] at X' e1 e2 h1 h2 h3 st
  subst h1; subst h2; subst h3
  exact ⟨v, (T.setVm vm₁).calling g' mk As.toArray, t, U', L, hT, X', hL, e1, e2, hq, st⟩
/-- not caught here, past rows that name other classes: it goes on to the caller -/
theorem vx_outP {p : Program} {l : Launch} {e : Env} {R : Room} {s : State} {m : MethodId} {args : Array Value} {below : List Frame} {meth : Method} {c : Code} {H : Heap} {locs : List Loc} {cells slots : Nat} {free : Addr → Prop} {ls : Array Slot} {rest : List Value} {Qc : Array Value → State → Outcome → State → Prop} {XC : String → State → State → Prop}
    {pc : Nat} {own E : String} {ce : Cell} {q : Addr} {mc ms : Nat} (hown : s.vm.findClass own = some m.cls) (hlocks : meth.locks = false)
    (hpass : ∀ z ∈ c.exceptionTable.toList, covers z pc = false ∨ (z.catchType ≠ 0 ∧ ∃ nm : String, (Cond.classLink own z.catchType nm).before args s = true ∧ va_Nc E nm s)) (hcell : H[q]? = some ce) (hv : ce.vm = .none) (hcl : s.vm.findClass E = some ce.cls)
    (hx : ∀ t : State, t.heap = H → s.vm.Alike t.vm → XC E s t) (hf : ∀ z ∈ locs, free z.base) (hc : cells ≤ mc) (hs : slots ≤ ms) :
    vx_W p l e R s m args below meth c H locs cells slots (vx_MQ below Qc XC args s mc ms free) (F0 m pc ls rest) q := by
  intro T hT X
  have hpl : e.platform.magicAccessors = ({} : Platform).magicAccessors := by rw [X.admits.platform]
  obtain ⟨vm', hW', X', st⟩ := X.outThrough hlocks q (g := F0 m pc ls rest) rfl rfl rfl (cell := ce) (by rw [hT]; exact hcell) (by rw [hv]; rfl)
    (by obtain ⟨k9, h9, -⟩ := Vm.findClass_spec hcl; exact ⟨k9, h9⟩) (fun z hz => by
      rcases hpass z hz with h | ⟨hz0, nm, hl1, hn1⟩
      · exact Or.inl h
      · obtain ⟨c6, hc6, hcl6⟩ := Cond.classLink_spec hown hl1 e.platform hpl
        obtain ⟨a8, b8, h1, h2, h3⟩ := hn1
        cases Option.some.inj (h1.symm.trans hcl)
        cases Option.some.inj (h2.symm.trans hc6)
        exact Or.inr ⟨hz0, _, hcl6, h3⟩)
  obtain ⟨g₀, hfr⟩ := X'.frames_eq
  have hcell9 : ((T.setVm vm').setFrames (.throwing q :: below)).heap[q]? = some ce := by
    show T.heap[q]? = some ce
    rw [hT]; exact hcell
  have hend : Ended ((T.setVm vm').setFrames (.throwing q :: below)) below (.threw q) := State.frames_setFrames _ (State.cur_lt_of_frames hfr)
  refine ⟨(T.setVm vm').setFrames (.throwing q :: below), ?_, .threw q, X'.here.running, hend, Or.inr ⟨q, rfl, E, ce, locs, hx _ hT (X'.ends _).1.alike, hcell9, hv, hcl, (X'.ends _).1, (X'.ends _).2.mono hc hs, hf⟩⟩
  rw [X.pushThrowing_eq]
  exact st
end VXS
/-! ===== END ===== -/
/-! ===== BEGIN methods with a table of their own: called by a name, returning or throwing ===== -/
section VXH
/-! vx_backW, vx_callVX, vx_callSX, vx_callVW, vx_runVW, vx_runVX, vx_runSX, vx_ofWH follow the same proofs as their sisters above (Free/Laws.lean, Shelf42/LK1.lean); vx_outP calls Shelf42/NT130.lean (outThrough). -/
section
variable {l : Launch} {R : Room} {p : Program} {e : Env} {below : List Frame} {s : State} {sargs : Array Value} {y : MethodName} {len W9 : Nat}
theorem vx_backW {ws : List Cond} {rm : Room} {Pc : Array Value → State → Prop} {Qc : Array Value → State → Outcome → State → Prop} {XC : String → State → State → Prop} {mc ms : Nat} {free : Addr → Prop} {bytes : ByteArray} {maxL : Nat} {ret : Option FieldType} {hh : List (Nat × Nat × Nat × Nat)}
    (hM : vx_Met l y ws rm Pc Qc XC mc ms free) (hblind : FrameBlind Pc) (hrc : rm.cells = mc) (hrs : rm.slots = ms)
    (hframes : rm.frames + 1 ≤ R.frames) (hlocals : W9 + (maxL + 11) + rm.locals ≤ R.locals)
    (hws : ∀ w ∈ ws, ∀ a' U, s.WarmedH U.vm → w.before a' U = true) (hcode : Cond.codeWith y bytes maxL ret hh ∈ ws) (hinit : ∀ a' U, s.WarmedH U.vm → (Cond.initialized y.cls).before a' U = true) :
    vx_Back l R p e below s sargs y len W9 (PreOf R mc ms Pc) (PostOf Qc mc ms free) (vx_Post XC mc ms free) := by
  intro m meth c A g ig mk a X hg hsize hdg hW hn hp
  have h1 : (headSpec ws rm).pre.before a A.U = true := atoms_intro fun w hw => hws w hw _ _ X.warmed
  have h2 : (Cond.codeWith y bytes maxL ret hh).before a A.U = true := hws _ hcode _ _ X.warmed
  have h3 : (Cond.initialized y.cls).before a A.U = true := hinit _ _ X.warmed
  have h4 : A.cells + (headSpec ws rm).room.cells ≤ R.cells := by rw [show (headSpec ws rm).room.cells = mc from hrc]; exact hp.1
  have h5 : A.slots + (headSpec ws rm).room.slots ≤ R.slots := by rw [show (headSpec ws rm).room.slots = ms from hrs]; exact hp.2.1
  have hPc : Pc a (A.U.calling g mk a) := hblind _ _ _ _ hp.2.2
  obtain ⟨U, Ls, c0, s0⟩ := A
  dsimp only [Pt.U, Pt.locs, Pt.cells, Pt.slots] at h1 h2 h3 h4 h5 X hn hPc ⊢
  obtain ⟨m9, methY, cY, hn9, hmY, hcY, -, hlY, -⟩ := Cond.codeWith_spec h2
  cases Option.some.inj (hn9.symm.trans hn)
  obtain ⟨kY, hkY, -⟩ := className_of_methodNamed hn
  have hinitY : kY.init = .initialized := Cond.initialized_spec (findClass_of_methodNamed hn) hkY h3
  have h : At U g.method c below := by rw [hg]; exact X.here
  have hlocals9 : W9 + (maxL + 11) + (headSpec ws rm).room.locals ≤ R.locals := hlocals
  have happ : (headSpec ws rm).appliesLoose y e.platform (U.calling g mk a) = true :=
    Spec.appliesLoose_calling (g := g) h hdg hn hkY hinitY
      (X.room_calling (g := g) (R' := (headSpec ws rm).room) hsize hmY hcY hframes (by rw [hlY]; omega) h4 h5) h1
  obtain ⟨mid, hmid⟩ := h.above
  have hfr : (U.setTop g).frames = (.java g :: mid) ++ below := by rw [State.frames_setTop' g h.top, hmid]; rfl
  obtain ⟨o, s₂, hsteps, -, hend, hq⟩ := Steps.callFree hM p X.admits X.cas X.clock (acts := []) hfr happ hPc trivial
  have hq' : vx_Q Qc XC mc ms free a (U.calling g mk a) o s₂ := hq
  rw [State.frames_setTop' g h.top] at hend
  obtain ⟨g₀, hg0⟩ := Option.isSome_iff_exists.mp h.top
  obtain ⟨r, hr⟩ := State.topJava?_eq_some.mp hg0
  have hr' : (({ U with heap := s₂.heap, slotsUsed := s₂.slotsUsed } : State).setVm s₂.vm).frames = .java g₀ :: r := hr
  rcases hq' with ⟨hqc, L, hfe, hL⟩ | ⟨q, rfl, E, ce, L, hx, hce, hcv, hcl, hW₂, hsm, hL⟩
  · obtain ⟨⟨v, rfl⟩, hW₂, e2, q2, q3, q4, q5, q6⟩ := id hfe
    have e3 : s₂ = ({ (U.calling g mk a).setFrames s₂.frames with heap := s₂.heap, slotsUsed := s₂.slotsUsed } : State).setVm s₂.vm := by
      have : s₂ = ({ s₂ with vm := (U.calling g mk a).vm } : State).setVm s₂.vm := rfl
      rw [e2] at this
      exact this
    obtain ⟨c₂, i₂, len₂, hc₂, hd₂, hf₂⟩ := hend
    have hW' : U.WarmedH s₂.vm := hW₂
    have hcc : c₂ = c := by
      have h1 : s₂.code? g.method = U.code? g.method := by
        rw [State.code?_eq, State.code?_eq, hW'.alike.method?]
      exact Option.some.inj (hc₂.symm.trans (h1.trans h.code))
    subst hcc
    have hlen : len₂ = len := by rw [hdg] at hd₂; cases hd₂; rfl
    subst hlen
    have hs₂ : s₂ = (({ U with heap := s₂.heap, slotsUsed := s₂.slotsUsed } : State).setVm s₂.vm).setTop { g with pc := g.pc + len₂, stack := v.toList ++ g.stack } := by
      refine e3.trans ?_
      rw [hf₂, State.calling_eq h.top, State.setFrames_setFrames, State.setTop_of_frames _ hr', hr]
      rfl
    have hsame : U.sameButNew ({ U with heap := s₂.heap, slotsUsed := s₂.slotsUsed } : State) L mc ms := by
      refine ⟨?_, q2, q3, q4, q5, q6⟩
      obtain ⟨t, ht, -⟩ := State.frames_cons hr
      show ({ U with heap := s₂.heap, slotsUsed := s₂.slotsUsed } : State) = { U.setFrames U.frames with heap := s₂.heap, slotsUsed := s₂.slotsUsed }
      rw [State.setFrames_self ht]
    subst hg
    refine Or.inl ⟨v, ⟨(({ U with heap := s₂.heap, slotsUsed := s₂.slotsUsed } : State).setVm s₂.vm), Ls ++ L, c0 + mc, s0 + ms⟩,
      ⟨X.admits, X.cas, X.clock, X.frames, X.room, X.hears, X.method, X.code, (X.here.setHeapUsed s₂.heap s₂.slotsUsed).setVm hW'.alike, X.tail, State.WarmedH.trans X.warmed hW', X.limits, X.bytes, X.same.trans (hsame.setVm s.vm)⟩,
      ⟨g, mk, s₂, L, rfl, rfl, hqc, rfl, hL, rfl, rfl⟩, ?_⟩
    show Steps p.tables e below _ ((({ U with heap := s₂.heap, slotsUsed := s₂.slotsUsed } : State).setVm s₂.vm).setTop { g with pc := g.pc + len₂, stack := v.toList ++ g.stack })
    rw [← hs₂]
    exact hsteps
  · obtain ⟨e2, q2, q3, q4, q5, q6⟩ := id hsm
    have e3 : s₂ = ({ (U.calling g mk a).setFrames s₂.frames with heap := s₂.heap, slotsUsed := s₂.slotsUsed } : State).setVm s₂.vm := by
      have : s₂ = ({ s₂ with vm := (U.calling g mk a).vm } : State).setVm s₂.vm := rfl
      rw [e2] at this
      exact this
    have hf₂ : s₂.frames = .throwing q :: .java g :: U.frames.tail := hend
    have hW' : U.WarmedH s₂.vm := hW₂
    have hs₂ : s₂ = ((({ U with heap := s₂.heap, slotsUsed := s₂.slotsUsed } : State).setVm s₂.vm).setTop g).pushFrame (.throwing q) := by
      refine e3.trans ?_
      rw [hf₂, State.calling_eq h.top, State.setFrames_setFrames, State.pushFrame, State.frames_setTop _ hr', State.setTop_of_frames _ hr', State.setFrames_setFrames, hr]
      rfl
    have hsame : U.sameButNew ({ U with heap := s₂.heap, slotsUsed := s₂.slotsUsed } : State) L mc ms := by
      refine ⟨?_, q2, q3, q4, q5, q6⟩
      obtain ⟨t, ht, -⟩ := State.frames_cons hr
      show ({ U with heap := s₂.heap, slotsUsed := s₂.slotsUsed } : State) = { U.setFrames U.frames with heap := s₂.heap, slotsUsed := s₂.slotsUsed }
      rw [State.setFrames_self ht]
    subst hg
    refine Or.inr ⟨q, ⟨(({ U with heap := s₂.heap, slotsUsed := s₂.slotsUsed } : State).setVm s₂.vm), Ls ++ L, c0 + mc, s0 + ms⟩,
      ⟨X.admits, X.cas, X.clock, X.frames, X.room, X.hears, X.method, X.code, (X.here.setHeapUsed s₂.heap s₂.slotsUsed).setVm hW'.alike, X.tail, State.WarmedH.trans X.warmed hW', X.limits, X.bytes, X.same.trans (hsame.setVm s.vm)⟩,
      ⟨g, mk, s₂, L, E, ce, rfl, rfl, hx, hce, hcv, hcl, rfl, hL, rfl, rfl⟩, ?_⟩
    show Steps p.tables e below _ (((({ U with heap := s₂.heap, slotsUsed := s₂.slotsUsed } : State).setVm s₂.vm).setTop g).pushFrame (.throwing q))
    rw [← hs₂]
    exact hsteps
end
variable {p : Program} {l : Launch} {e : Env} {R : Room} {s : State} {m : MethodId} {args : Array Value} {below : List Frame} {meth : Method} {c : Code} {T : State} {H : Heap} {locs : List Loc} {cells slots : Nat}
theorem vx_callVX (X : Stand p l e R s m args below meth c T locs cells slots) (hexec : p.tables.exec = Jvm.exec) {own C : String} {index : Nat} {y : MethodName} {bytes : ByteArray} {maxL : Nat} {ret : Option FieldType} {hh : List (Nat × Nat × Nat × Nat)}
    (hown : s.vm.findClass own = some m.cls) (hlink : (Cond.methodLink own index y).before args s = true) (hinst : (Cond.instanceMethod y).before args s = true) (hsel : (Cond.selects C y y).before args s = true)
    (hcode : (Cond.codeWith y bytes maxL ret hh).before args s = true) (hy : y.cls ≠ "java/lang/invoke/MethodHandle" ∧ y.cls ≠ "java/lang/invoke/VarHandle")
    {W9 : Nat} {Pre : Pt → Array Value → Prop} {Post : Pt → Array Value → Option Value → Pt → Prop} {PostX : Pt → Array Value → Addr → Pt → Prop} (hK : vx_Back l R p e below s args y 3 W9 Pre Post PostX)
    {b : Addr} {cellB : Cell} (hcell : T.heap[b]? = some cellB) (hobj : cellB.vm.isStatics = false) (hcls : s.vm.findClass C = some cellB.cls)
    {g : JFrame} (hg : g.method = m) (hsize : g.locals.size = c.maxLocals) {argsL rest : List Value} (hlen : ∀ sig, parseMethodDescriptor y.desc = some sig → argsL.length = sig.parameters.length)
    (hstack : g.stack = argsL.reverse ++ .ref b :: rest) (hW : 2 * g.monitorRoom + (rest.map fun v => v.category).sum ≤ W9) (hdg : decode c.code g.pc = .ok (.invokevirtual index, 3))
    (hpre : ∀ vm₁, s.WarmedH vm₁ → Pre ⟨T.setVm vm₁, locs, cells, slots⟩ (Value.ref b :: argsL).toArray) :
    (∃ (v : Option Value) (vm₁ : Vm) (B : Pt), s.WarmedH vm₁ ∧ Stand p l e R s m args below meth c B.U B.locs B.cells B.slots ∧ Post ⟨T.setVm vm₁, locs, cells, slots⟩ (Value.ref b :: argsL).toArray v B ∧
      ∀ target, Steps p.tables e below (B.U.setTop { g with pc := g.pc + 3, stack := v.toList ++ rest }) target → Steps p.tables e below (T.setTop g) target) ∨
    (∃ (q : Addr) (vm₁ : Vm) (B : Pt), s.WarmedH vm₁ ∧ Stand p l e R s m args below meth c B.U B.locs B.cells B.slots ∧ PostX ⟨T.setVm vm₁, locs, cells, slots⟩ (Value.ref b :: argsL).toArray q B ∧
      Steps p.tables e below (T.setTop g) ((B.U.setTop { g with stack := rest }).pushFrame (.throwing q))) := by
  obtain ⟨mk, methM, hnamed, hmethM, hstM, habM⟩ := Cond.instanceMethod_spec hinst
  obtain ⟨m8, methM', cM, hn8, hmethM', -, -, -, -, -, -, hsigM⟩ := Cond.codeWith_spec hcode
  cases Option.some.inj (hn8.symm.trans hnamed)
  cases hmethM.symm.trans hmethM'
  obtain ⟨c2, r2, m2, q1, q2, q3, q4, kP, hkP, hkPi⟩ := Cond.selects_spec hsel
  cases hcls.symm.trans q1
  cases (State.methodFound?_of_named hnamed hy).symm.trans q2
  cases hnamed.symm.trans q3
  have hselP : selectMethod e.platform s.vm cellB.cls mk = .method mk := by rw [Launch.admits_selectMethod X.admits]; exact q4
  obtain ⟨vm₁, X₁, hstep₁⟩ := X.invokevirtual hexec hown hlink hnamed hmethM hstM hkP hkPi hy (a := b) (cell := cellB) hcell
    (fun z h => by rw [h] at hobj; cases hobj) hselP hmethM habM hkP hkPi (g := g) hg (argsL := argsL) (rest := rest) (hlen _ hsigM) hstack hdg
  rcases hK m meth c ⟨T.setVm vm₁, locs, cells, slots⟩ { g with stack := rest } (.invokevirtual index) mk (Value.ref b :: argsL).toArray X₁ hg hsize hdg hW (X₁.named hnamed) (hpre vm₁ X₁.warmed) with ⟨v, B, X', hpost, hsteps⟩ | ⟨q, B, X', hpost, hsteps⟩
  · exact Or.inl ⟨v, vm₁, B, X₁.warmed, X', hpost, fun target h => hstep₁ _ fun acts => by rw [doInvoke_state]; exact hsteps.trans h⟩
  · exact Or.inr ⟨q, vm₁, B, X₁.warmed, X', hpost, hstep₁ _ fun acts => by rw [doInvoke_state]; exact hsteps⟩
theorem vx_callSX (X : Stand p l e R s m args below meth c T locs cells slots) (hexec : p.tables.exec = Jvm.exec) {own : String} {index : Nat} {y : MethodName} {bytes : ByteArray} {maxL : Nat} {ret : Option FieldType} {hh : List (Nat × Nat × Nat × Nat)}
    (hown : s.vm.findClass own = some m.cls) (hlink : (Cond.methodLink own index y).before args s = true) (hstat : (Cond.static y).before args s = true) (hinit : (Cond.initialized y.cls).before args s = true)
    (hcode : (Cond.codeWith y bytes maxL ret hh).before args s = true) (hy : y.cls ≠ "java/lang/invoke/MethodHandle" ∧ y.cls ≠ "java/lang/invoke/VarHandle")
    {W9 : Nat} {Pre : Pt → Array Value → Prop} {Post : Pt → Array Value → Option Value → Pt → Prop} {PostX : Pt → Array Value → Addr → Pt → Prop} (hK : vx_Back l R p e below s args y 3 W9 Pre Post PostX)
    {g : JFrame} (hg : g.method = m) (hsize : g.locals.size = c.maxLocals) {argsL rest : List Value} (hlen : ∀ sig, parseMethodDescriptor y.desc = some sig → argsL.length = sig.parameters.length)
    (hstack : g.stack = argsL.reverse ++ rest) (hW : 2 * g.monitorRoom + (rest.map fun v => v.category).sum ≤ W9) (hdg : decode c.code g.pc = .ok (.invokestatic index, 3))
    (hpre : ∀ vm₁, s.WarmedH vm₁ → Pre ⟨T.setVm vm₁, locs, cells, slots⟩ argsL.toArray) :
    (∃ (v : Option Value) (vm₁ : Vm) (B : Pt), s.WarmedH vm₁ ∧ Stand p l e R s m args below meth c B.U B.locs B.cells B.slots ∧ Post ⟨T.setVm vm₁, locs, cells, slots⟩ argsL.toArray v B ∧
      ∀ target, Steps p.tables e below (B.U.setTop { g with pc := g.pc + 3, stack := v.toList ++ rest }) target → Steps p.tables e below (T.setTop g) target) ∨
    (∃ (q : Addr) (vm₁ : Vm) (B : Pt), s.WarmedH vm₁ ∧ Stand p l e R s m args below meth c B.U B.locs B.cells B.slots ∧ PostX ⟨T.setVm vm₁, locs, cells, slots⟩ argsL.toArray q B ∧
      Steps p.tables e below (T.setTop g) ((B.U.setTop { g with stack := rest }).pushFrame (.throwing q))) := by
  obtain ⟨mk, methM, cM, hnamed, hmethM, -, -, -, -, -, -, hsigM⟩ := Cond.codeWith_spec hcode
  have hstatic : methM.isStatic = true := Cond.static_spec hnamed hmethM hstat
  obtain ⟨kP, hkP, -⟩ := className_of_methodNamed hnamed
  have hinitP : kP.init = .initialized := Cond.initialized_spec (findClass_of_methodNamed hnamed) hkP hinit
  obtain ⟨vm₁, X₁, hstep₁⟩ := X.invokestatic hexec hown hlink hnamed hmethM hstatic hkP hinitP hy (g := g) hg (argsL := argsL) (rest := rest) (hlen _ hsigM) hstack hdg
  rcases hK m meth c ⟨T.setVm vm₁, locs, cells, slots⟩ { g with stack := rest } (.invokestatic index) mk argsL.toArray X₁ hg hsize hdg hW (X₁.named hnamed) (hpre vm₁ X₁.warmed) with ⟨v, B, X', hpost, hsteps⟩ | ⟨q, B, X', hpost, hsteps⟩
  · exact Or.inl ⟨v, vm₁, B, X₁.warmed, X', hpost, fun target h => hstep₁ _ fun acts => by rw [doInvoke_state]; exact hsteps.trans h⟩
  · exact Or.inr ⟨q, vm₁, B, X₁.warmed, X', hpost, hstep₁ _ fun acts => by rw [doInvoke_state]; exact hsteps⟩
theorem vx_callVW (X : Stand p l e R s m args below meth c T locs cells slots) (hexec : p.tables.exec = Jvm.exec) {own C : String} {index : Nat} {y : MethodName} {bytes : ByteArray} {maxL : Nat} {ret : Option FieldType} {hh : List (Nat × Nat × Nat × Nat)}
    (hown : s.vm.findClass own = some m.cls) (hlink : (Cond.methodLink own index y).before args s = true) (hinst : (Cond.instanceMethod y).before args s = true) (hsel : (Cond.selects C y y).before args s = true)
    (hcode : (Cond.codeWith y bytes maxL ret hh).before args s = true) (hy : y.cls ≠ "java/lang/invoke/MethodHandle" ∧ y.cls ≠ "java/lang/invoke/VarHandle")
    {W9 : Nat} {Pre : Pt → Array Value → Prop} {Post : Pt → Array Value → Option Value → Pt → Prop} (hK : Back l R p e below s args y 3 W9 Pre Post)
    {b : Addr} {cellB : Cell} (hcell : T.heap[b]? = some cellB) (hobj : cellB.vm.isStatics = false) (hcls : s.vm.findClass C = some cellB.cls)
    {g : JFrame} (hg : g.method = m) (hsize : g.locals.size = c.maxLocals) {argsL rest : List Value} (hlen : ∀ sig, parseMethodDescriptor y.desc = some sig → argsL.length = sig.parameters.length)
    (hstack : g.stack = argsL.reverse ++ .ref b :: rest) (hW : 2 * g.monitorRoom + (rest.map fun v => v.category).sum ≤ W9) (hdg : decode c.code g.pc = .ok (.invokevirtual index, 3))
    (hpre : ∀ vm₁, s.WarmedH vm₁ → Pre ⟨T.setVm vm₁, locs, cells, slots⟩ (Value.ref b :: argsL).toArray) :
    ∃ (v : Option Value) (vm₁ : Vm) (B : Pt), s.WarmedH vm₁ ∧ Stand p l e R s m args below meth c B.U B.locs B.cells B.slots ∧ Post ⟨T.setVm vm₁, locs, cells, slots⟩ (Value.ref b :: argsL).toArray v B ∧
      ∀ target, Steps p.tables e below (B.U.setTop { g with pc := g.pc + 3, stack := v.toList ++ rest }) target → Steps p.tables e below (T.setTop g) target := by
  obtain ⟨mk, methM, hnamed, hmethM, hstM, habM⟩ := Cond.instanceMethod_spec hinst
  obtain ⟨m8, methM', cM, hn8, hmethM', -, -, -, -, -, -, hsigM⟩ := Cond.codeWith_spec hcode
  cases Option.some.inj (hn8.symm.trans hnamed)
  cases hmethM.symm.trans hmethM'
  obtain ⟨c2, r2, m2, q1, q2, q3, q4, kP, hkP, hkPi⟩ := Cond.selects_spec hsel
  cases hcls.symm.trans q1
  cases (State.methodFound?_of_named hnamed hy).symm.trans q2
  cases hnamed.symm.trans q3
  have hselP : selectMethod e.platform s.vm cellB.cls mk = .method mk := by rw [Launch.admits_selectMethod X.admits]; exact q4
  obtain ⟨vm₁, X₁, hstep₁⟩ := X.invokevirtual hexec hown hlink hnamed hmethM hstM hkP hkPi hy (a := b) (cell := cellB) hcell
    (fun z h => by rw [h] at hobj; cases hobj) hselP hmethM habM hkP hkPi (g := g) hg (argsL := argsL) (rest := rest) (hlen _ hsigM) hstack hdg
  obtain ⟨v, B, X', hpost, hsteps⟩ := hK m meth c ⟨T.setVm vm₁, locs, cells, slots⟩ { g with stack := rest } (.invokevirtual index) mk (Value.ref b :: argsL).toArray X₁ hg hsize hdg hW (X₁.named hnamed) (hpre vm₁ X₁.warmed)
  exact ⟨v, vm₁, B, X₁.warmed, X', hpost, fun target h => hstep₁ _ fun acts => by rw [doInvoke_state]; exact hsteps.trans h⟩
abbrev vx_CVW (R : Room) (s : State) (args : Array Value) (own C : String) (index : Nat) (y : MethodName) (bytes : ByteArray) (maxL : Nat) (ret : Option FieldType) (hh : List (Nat × Nat × Nat × Nat)) (ws : List Cond) (rm : Room) (mc ms n : Nat) : Prop :=
  (rm.cells = mc ∧ rm.slots = ms ∧ rm.frames + 1 ≤ R.frames ∧ 8 + (maxL + 11) + rm.locals ≤ R.locals ∧ (∀ w ∈ ws, ∀ (a' : Array Value) (U : State), s.WarmedH U.vm → w.before a' U = true) ∧ Cond.codeWith y bytes maxL ret hh ∈ ws) ∧
  (Cond.codeWith y bytes maxL ret hh).before args s = true ∧ (Cond.initialized y.cls).before args s = true ∧ (y.cls ≠ "java/lang/invoke/MethodHandle" ∧ y.cls ≠ "java/lang/invoke/VarHandle") ∧
  (∀ sig, parseMethodDescriptor y.desc = some sig → n = sig.parameters.length) ∧ (Cond.methodLink own index y).before args s = true ∧ (Cond.instanceMethod y).before args s = true ∧ (Cond.selects C y y).before args s = true
theorem vx_runVW {y : MethodName} {bytes cc : ByteArray} {maxL nL mc ms n index : Nat} {ret : Option FieldType} {hh : List (Nat × Nat × Nat × Nat)} {ws : List Cond} {rm : Room} {Pc : Array Value → State → Prop} {Qc : Array Value → State → Outcome → State → Prop} {free : Addr → Prop} {Ts : List Cond} {own C : String} {b : Addr} {As rest : List Value} {g : JFrame}
    (S : CallFix p m c cc nL s args Ts own) (hM : Met l y ws rm Pc Qc mc ms free) (cw : vx_CVW R s args own C index y bytes maxL ret hh ws rm mc ms n) (hp : PreV s H C b Pc As)
    (hg : g.method = m) (hn : As.length = n) (hsize : g.locals.size = nL) (hstack : g.stack = As.reverse ++ .ref b :: rest) (hW : 2 * g.monitorRoom + (rest.map fun v => v.category).sum ≤ 8) (hdg : decode cc g.pc = .ok (.invokevirtual index, 3)) (hf : cells + mc ≤ R.cells ∧ slots + ms ≤ R.slots) :
    va_Run p l e R s m args below meth c H locs cells slots mc ms g rest (Qc (Value.ref b :: As).toArray) free := by
  obtain ⟨⟨hrc, hrs, hfr, hlo, hws, hcw⟩, hcode, hini, hy, hlen, hl, hin, hse⟩ := cw
  have hK : Back l R p e below s args y 3 8 (PreOf R mc ms Pc) (PostOf Qc mc ms free) := va_backW (hh := hh) (bytes := bytes) (maxL := maxL) (ret := ret) hM hp.1 hrc hrs hfr hlo hws hcw (fun a' U hW => word_at hW (Or.inl (by first | rfl | simp [Cond.onTables, Cond.keeps, Cond.steady])) hini)
  obtain ⟨hx, hb, hml, ho, -⟩ := S
  obtain ⟨-, ⟨cellB, hcB, hoB, hclB⟩, hPc⟩ := hp
  intro T hT X
  obtain ⟨v, vm₁, ⟨U', l2, c2, s2⟩, hW₁, X', ⟨g', mk, t, L, e1, e2, hq, h1, hL, h2, h3⟩, st⟩ := vx_callVW X hx (C := C) (hh := hh) (bytes := bytes) (maxL := maxL) (ret := ret) ho hl hin hse hcode hy hK (by rw [hT]; exact hcB) hoB hclB hg (hsize.trans hml.symm) (argsL := As) (rest := rest) (fun sig h => hn.trans (hlen sig h)) hstack hW (by rw [hb]; exact hdg)
    (fun vm₁ hW₁ => ⟨hf.1, hf.2, hPc (T.setVm vm₁) hT hW₁⟩)
  dsimp only [Pt.U, Pt.locs, Pt.cells, Pt.slots] at X' e1 e2 h1 h2 h3 st
  subst h1; subst h2; subst h3
  exact ⟨v, (T.setVm vm₁).calling g' mk (Value.ref b :: As).toArray, t, U', L, hT, X', hL, e1, e2, hq, st⟩
section
variable {y : MethodName} {bytes cc : ByteArray} {maxL nL mc ms n index : Nat} {ret : Option FieldType} {ws : List Cond} {rm : Room} {Pc : Array Value → State → Prop} {Qc : Array Value → State → Outcome → State → Prop} {XC : String → State → State → Prop} {free : Addr → Prop} {Ts : List Cond} {own C : String} {b : Addr} {As rest : List Value} {g : JFrame}
theorem vx_runVX {hh : List (Nat × Nat × Nat × Nat)} (S : CallFix p m c cc nL s args Ts own) (hM : vx_Met l y ws rm Pc Qc XC mc ms free) (cw : vx_CVW R s args own C index y bytes maxL ret hh ws rm mc ms n) (hp : PreV s H C b Pc As)
    (hg : g.method = m) (hn : As.length = n) (hsize : g.locals.size = nL) (hstack : g.stack = As.reverse ++ .ref b :: rest) (hW : 2 * g.monitorRoom + (rest.map fun v => v.category).sum ≤ 8) (hdg : decode cc g.pc = .ok (.invokevirtual index, 3)) (hf : cells + mc ≤ R.cells ∧ slots + ms ≤ R.slots) :
    vx_Run p l e R s m args below meth c H locs cells slots mc ms g rest (Qc (Value.ref b :: As).toArray) XC free := by
  obtain ⟨⟨hrc, hrs, hfr, hlo, hws, hcw⟩, hcode, hini, hy, hlen, hl, hin, hse⟩ := cw
  have hK : vx_Back l R p e below s args y 3 8 (PreOf R mc ms Pc) (PostOf Qc mc ms free) (vx_Post XC mc ms free) := vx_backW (hh := hh) (bytes := bytes) (maxL := maxL) (ret := ret) hM hp.1 hrc hrs hfr hlo hws hcw (fun a' U hW => word_at hW (Or.inl (by first | rfl | simp [Cond.onTables, Cond.keeps, Cond.steady])) hini)
  obtain ⟨hx, hb, hml, ho, -⟩ := S
  obtain ⟨-, ⟨cellB, hcB, hoB, hclB⟩, hPc⟩ := hp
  intro T hT X
  rcases vx_callVX X hx (C := C) (hh := hh) (bytes := bytes) (maxL := maxL) (ret := ret) ho hl hin hse hcode hy hK (by rw [hT]; exact hcB) hoB hclB hg (hsize.trans hml.symm) (argsL := As) (rest := rest) (fun sig h => hn.trans (hlen sig h)) hstack hW (by rw [hb]; exact hdg)
    (fun vm₁ hW₁ => ⟨hf.1, hf.2, hPc (T.setVm vm₁) hT hW₁⟩) with ⟨v, vm₁, ⟨U', l2, c2, s2⟩, hW₁, X', ⟨g', mk, t, L, e1, e2, hq, h1, hL, h2, h3⟩, st⟩ | ⟨q, vm₁, ⟨U', l2, c2, s2⟩, hW₁, X', ⟨g', mk, t, L, E, ce, e1, e2, hq, hce, hcv, hcl, h1, hL, h2, h3⟩, st⟩
  · dsimp only [Pt.U, Pt.locs, Pt.cells, Pt.slots] at X' e1 e2 h1 h2 h3 st
    subst h1; subst h2; subst h3
    exact Or.inl ⟨v, (T.setVm vm₁).calling g' mk (Value.ref b :: As).toArray, t, U', L, hT, X', hL, e1, e2, hq, st⟩
  · dsimp only [Pt.U, Pt.locs, Pt.cells, Pt.slots] at X' e1 e2 h1 h2 h3 st hcl
    subst h1; subst h2; subst h3
    exact Or.inr ⟨q, (T.setVm vm₁).calling g' mk (Value.ref b :: As).toArray, t, U', L, E, ce, hT, X', hL, e1, e2, hq, hce, hcv, vx_cls hW₁ hcl, st⟩
theorem vx_runSX {hh : List (Nat × Nat × Nat × Nat)} (S : CallFix p m c cc nL s args Ts own) (hM : vx_Met l y ws rm Pc Qc XC mc ms free) (cw : vx_CSW R s args own index y bytes maxL ret hh ws rm mc ms n) (hp : PreS s H Pc As)
    (hg : g.method = m) (hn : As.length = n) (hsize : g.locals.size = nL) (hstack : g.stack = As.reverse ++ rest) (hW : 2 * g.monitorRoom + (rest.map fun v => v.category).sum ≤ 8) (hdg : decode cc g.pc = .ok (.invokestatic index, 3)) (hf : cells + mc ≤ R.cells ∧ slots + ms ≤ R.slots) :
    vx_Run p l e R s m args below meth c H locs cells slots mc ms g rest (Qc As.toArray) XC free := by
  obtain ⟨⟨hrc, hrs, hfr, hlo, hws, hcw⟩, hcode, hini, hy, hlen, hl, hstt⟩ := cw
  have hK : vx_Back l R p e below s args y 3 8 (PreOf R mc ms Pc) (PostOf Qc mc ms free) (vx_Post XC mc ms free) := vx_backW (hh := hh) (bytes := bytes) (maxL := maxL) (ret := ret) hM hp.1 hrc hrs hfr hlo hws hcw (fun a' U hW => word_at hW (Or.inl (by first | rfl | simp [Cond.onTables, Cond.keeps, Cond.steady])) hini)
  obtain ⟨hx, hb, hml, ho, -⟩ := S
  intro T hT X
  rcases vx_callSX X hx (hh := hh) (bytes := bytes) (maxL := maxL) (ret := ret) ho hl hstt hini hcode hy hK hg (hsize.trans hml.symm) (argsL := As) (rest := rest) (fun sig h => hn.trans (hlen sig h)) hstack hW (by rw [hb]; exact hdg)
    (fun vm₁ hW₁ => ⟨hf.1, hf.2, hp.2 (T.setVm vm₁) hT hW₁⟩) with ⟨v, vm₁, ⟨U', l2, c2, s2⟩, hW₁, X', ⟨g', mk, t, L, e1, e2, hq, h1, hL, h2, h3⟩, st⟩ | ⟨q, vm₁, ⟨U', l2, c2, s2⟩, hW₁, X', ⟨g', mk, t, L, E, ce, e1, e2, hq, hce, hcv, hcl, h1, hL, h2, h3⟩, st⟩
  · dsimp only [Pt.U, Pt.locs, Pt.cells, Pt.slots] at X' e1 e2 h1 h2 h3 st
    subst h1; subst h2; subst h3
    exact Or.inl ⟨v, (T.setVm vm₁).calling g' mk As.toArray, t, U', L, hT, X', hL, e1, e2, hq, st⟩
  · dsimp only [Pt.U, Pt.locs, Pt.cells, Pt.slots] at X' e1 e2 h1 h2 h3 st hcl
    subst h1; subst h2; subst h3
    exact Or.inr ⟨q, (T.setVm vm₁).calling g' mk As.toArray, t, U', L, E, ce, hT, X', hL, e1, e2, hq, hce, hcv, vx_cls hW₁ hcl, st⟩
end
end VXH
theorem vx_ofWH {l : Launch} {y : MethodName} {ws ws' : List Cond} {rm : Room} {Pc : Array Value → State → Prop} {Qc : Array Value → State → Outcome → State → Prop} {XC : String → State → State → Prop} {mc ms : Nat} {free : Addr → Prop} {cc : ByteArray} {maxL : Nat} {ret : Option FieldType} {hh : List (Nat × Nat × Nat × Nat)}
    (hy : plainName y.cls = true) (hw : ws = Cond.codeWith y cc maxL ret hh :: ws')
    (body : ∀ p e s m args below meth c s₁, BodyLoose p l y (headSpec ws rm) cc maxL ret e s m args below meth c s₁ → c.maxLocals = maxL → Pc args s →
      W p l e (headSpec ws rm).room s m args below meth c s.heap [] 0 0 (vx_MQ below Qc XC args s mc ms free) (entryFrame m args maxL)) : vx_Met l y ws rm Pc Qc XC mc ms free := by
  refine MetFree.of_bodyS (code := cc) (maxLocals := maxL) (ret := ret) hy ?_ ?_
  · intro args s m h hn
    obtain ⟨m9, meth, c, hn9, h1, h2, h3, h4, -, h5, h6, -⟩ := Cond.codeWith_spec (atoms_spec (ws := ws) h _ (by rw [hw]; exact List.mem_cons_self))
    cases hn.symm.trans hn9
    exact ⟨meth, c, h1, h2, h3, h4, h5, h6⟩
  · intro p e s m args below meth c s₁ B hml hP _
    have hh0 : s₁.heap = s.heap := by rw [B.state]; rfl
    obtain ⟨t, a1, o, b1, b2, b3⟩ := body p e s m args below meth c s₁ B hml hP s₁ hh0 (Stand.of_body B)
    exact ⟨t, o, a1, b1, b2, b3⟩
/-! ===== END ===== -/
end
section
/-! ===== BEGIN printed: names, fields, word lists, decode rows ===== -/
def RX0 : String := "SetsStayTogether$House"
def TX0 : u_T := fun k => match k with
  | 0 => ("SetsStayTogether$House", "size", "[I", true)
  | 1 => ("SetsStayTogether$House", "door", "[I", true)
  | 2 => ("SetsStayTogether$House", "bulk", "[I", true)
  | 3 => ("SetsStayTogether$House", "girth", "[I", true)
  | 4 => ("SetsStayTogether$House", "weight", "[I", true)
  | 5 => ("SetsStayTogether$House", "where", "[I", true)
  | 6 => ("SetsStayTogether$House", "members", "[I", true)
  | 7 => ("SetsStayTogether$House", "clumpThings", "[I", true)
  | 8 => ("SetsStayTogether$House", "clumpOf", "[I", true)
  | 9 => ("SetsStayTogether$House", "rooms", "I", false)
  | 10 => ("SetsStayTogether$House", "things", "I", false)
  | 11 => ("SetsStayTogether$House", "sets", "I", false)
  | _ => ("SetsStayTogether$House", "clumps", "I", false)
def tyX0 : Nat → FieldType := fun k => match k with
  | 0 => .array .int
  | 1 => .array .int
  | 2 => .array .int
  | 3 => .array .int
  | 4 => .array .int
  | 5 => .array .int
  | 6 => .array .int
  | 7 => .array .int
  | 8 => .array .int
  | 9 => .int
  | 10 => .int
  | 11 => .int
  | _ => .int
theorem nmX0 : ∀ a, a < 13 → ∀ b, b < 13 → a ≠ b → (TX0 a).2.1 ≠ (TX0 b).2.1 := by decide +kernel
theorem tyX0_ok : ∀ k, k < 13 → parseFieldDescriptor (TX0 k).2.2.1 = some (tyX0 k) := by decide +kernel
abbrev cX0_init : ByteArray := prog_2_method_1_code
def yX0_init : MethodName := ⟨RX0, "<init>", "()V"⟩
abbrev cX0_become : ByteArray := prog_2_method_2_code
def yX0_become : MethodName := ⟨RX0, "become", "(LSetsStayTogether$House;)V"⟩
abbrev cX0_isRoom : ByteArray := prog_2_method_3_code
def yX0_isRoom : MethodName := ⟨RX0, "isRoom", "(I)Z"⟩
abbrev cX0_isThing : ByteArray := prog_2_method_4_code
def yX0_isThing : MethodName := ⟨RX0, "isThing", "(I)Z"⟩
abbrev cX0_areUnlikeRooms : ByteArray := prog_2_method_5_code
def yX0_areUnlikeRooms : MethodName := ⟨RX0, "areUnlikeRooms", "(II)Z"⟩
abbrev cX0_allRooms : ByteArray := prog_2_method_6_code
def yX0_allRooms : MethodName := ⟨RX0, "allRooms", "()I"⟩
abbrev cX0_allThings : ByteArray := prog_2_method_7_code
def yX0_allThings : MethodName := ⟨RX0, "allThings", "()I"⟩
abbrev cX0_allSets : ByteArray := prog_2_method_8_code
def yX0_allSets : MethodName := ⟨RX0, "allSets", "()I"⟩
abbrev cX0_allClumps : ByteArray := prog_2_method_9_code
def yX0_allClumps : MethodName := ⟨RX0, "allClumps", "()I"⟩
abbrev cX0_addRoom : ByteArray := prog_2_method_10_code
def yX0_addRoom : MethodName := ⟨RX0, "addRoom", "(I)V"⟩
abbrev cX0_addThing : ByteArray := prog_2_method_11_code
def yX0_addThing : MethodName := ⟨RX0, "addThing", "(IIII)V"⟩
abbrev cX0_addSet : ByteArray := prog_2_method_12_code
def yX0_addSet : MethodName := ⟨RX0, "addSet", "(I)V"⟩
abbrev cX0_makeDoor : ByteArray := prog_2_method_13_code
def yX0_makeDoor : MethodName := ⟨RX0, "makeDoor", "(III)V"⟩
abbrev cX0_doorWidth : ByteArray := prog_2_method_14_code
def yX0_doorWidth : MethodName := ⟨RX0, "doorWidth", "(II)I"⟩
abbrev cX0_doors : ByteArray := prog_2_method_15_code
def yX0_doors : MethodName := ⟨RX0, "doors", "()I"⟩
abbrev cX0_weigh : ByteArray := prog_2_method_16_code
def yX0_weigh : MethodName := ⟨RX0, "weigh", "(IIII)I"⟩
abbrev cX0_nextTo : ByteArray := prog_2_method_17_code
def yX0_nextTo : MethodName := ⟨RX0, "nextTo", "(II)I"⟩
abbrev cX0_oneStepFrom : ByteArray := prog_2_method_18_code
def yX0_oneStepFrom : MethodName := ⟨RX0, "oneStepFrom", "(II)I"⟩
abbrev cX0_roomsFrom : ByteArray := prog_2_method_19_code
def yX0_roomsFrom : MethodName := ⟨RX0, "roomsFrom", "(II)I"⟩
abbrev cX0_steps : ByteArray := prog_2_method_20_code
def yX0_steps : MethodName := ⟨RX0, "steps", "(III)I"⟩
abbrev cX0_firstNearer : ByteArray := prog_2_method_21_code
def yX0_firstNearer : MethodName := ⟨RX0, "firstNearer", "(IIII)I"⟩
abbrev cX0_cost : ByteArray := prog_2_method_22_code
def yX0_cost : MethodName := ⟨RX0, "cost", "(III)I"⟩
abbrev cX0_carriedTo : ByteArray := prog_2_method_23_code
def yX0_carriedTo : MethodName := ⟨RX0, "carriedTo", "([I)I"⟩
abbrev cX0_comersIfWide : ByteArray := prog_2_method_24_code
def yX0_comersIfWide : MethodName := ⟨RX0, "comersIfWide", "(III)I"⟩
abbrev cX0_isNow : ByteArray := prog_2_method_25_code
def yX0_isNow : MethodName := ⟨RX0, "isNow", "([I)Z"⟩
abbrev cX0_thingsIn : ByteArray := prog_2_method_26_code
def yX0_thingsIn : MethodName := ⟨RX0, "thingsIn", "(I[I)I"⟩
abbrev cX0_load : ByteArray := prog_2_method_27_code
def yX0_load : MethodName := ⟨RX0, "load", "(I[I)I"⟩
abbrev cX0_overfull : ByteArray := prog_2_method_28_code
def yX0_overfull : MethodName := ⟨RX0, "overfull", "([I)I"⟩
abbrev cX0_parted : ByteArray := prog_2_method_29_code
def yX0_parted : MethodName := ⟨RX0, "parted", "([I)I"⟩
abbrev cX0_areInOneRoom : ByteArray := prog_2_method_30_code
def yX0_areInOneRoom : MethodName := ⟨RX0, "areInOneRoom", "(I[I)Z"⟩
abbrev cX0_lawful : ByteArray := prog_2_method_31_code
def yX0_lawful : MethodName := ⟨RX0, "lawful", "([I)Z"⟩
abbrev cX0_tooMany : ByteArray := prog_2_method_32_code
def yX0_tooMany : MethodName := ⟨RX0, "tooMany", "()Z"⟩
abbrev cX0_setsOf : ByteArray := prog_2_method_33_code
def yX0_setsOf : MethodName := ⟨RX0, "setsOf", "(I)I"⟩
abbrev cX0_setsWithNoneOf : ByteArray := prog_2_method_34_code
def yX0_setsWithNoneOf : MethodName := ⟨RX0, "setsWithNoneOf", "(I)I"⟩
abbrev cX0_leaveSets : ByteArray := prog_2_method_35_code
def yX0_leaveSets : MethodName := ⟨RX0, "leaveSets", "(I)V"⟩
abbrev cX0_hangingOn : ByteArray := prog_2_method_36_code
def yX0_hangingOn : MethodName := ⟨RX0, "hangingOn", "(III)I"⟩
abbrev cX0_clumpsBy : ByteArray := prog_2_method_37_code
def yX0_clumpsBy : MethodName := ⟨RX0, "clumpsBy", "(II)I"⟩
abbrev cX0_hang : ByteArray := prog_2_method_38_code
def yX0_hang : MethodName := ⟨RX0, "hang", "()V"⟩
abbrev cX0_addClump : ByteArray := prog_2_method_39_code
def yX0_addClump : MethodName := ⟨RX0, "addClump", "(I)V"⟩
abbrev cX0_leastOf : ByteArray := prog_2_method_40_code
def yX0_leastOf : MethodName := ⟨RX0, "leastOf", "(I)I"⟩
abbrev cX0_clumpBulk : ByteArray := prog_2_method_41_code
def yX0_clumpBulk : MethodName := ⟨RX0, "clumpBulk", "(I)I"⟩
abbrev cX0_bulkOf : ByteArray := prog_2_method_42_code
def yX0_bulkOf : MethodName := ⟨RX0, "bulkOf", "(I)I"⟩
abbrev cX0_roomsFor : ByteArray := prog_2_method_43_code
def yX0_roomsFor : MethodName := ⟨RX0, "roomsFor", "(I)I"⟩
abbrev cX0_thingsOf : ByteArray := prog_2_method_44_code
def yX0_thingsOf : MethodName := ⟨RX0, "thingsOf", "(I)I"⟩
abbrev cX0_clumpsIn : ByteArray := prog_2_method_45_code
def yX0_clumpsIn : MethodName := ⟨RX0, "clumpsIn", "(I)I"⟩
abbrev cX0_isLessToSell : ByteArray := prog_2_method_46_code
def yX0_isLessToSell : MethodName := ⟨RX0, "isLessToSell", "(II)Z"⟩
def RX1 : String := "SetsStayTogether$HouseReader"
def TX1 : u_T := fun k => match k with
  | _ => ("SetsStayTogether$HouseReader", "from", "LSetsStayTogether$Reader;", true)
def tyX1 : Nat → FieldType := fun k => match k with
  | _ => .object "SetsStayTogether$Reader"
theorem nmX1 : ∀ a, a < 1 → ∀ b, b < 1 → a ≠ b → (TX1 a).2.1 ≠ (TX1 b).2.1 := by decide +kernel
theorem tyX1_ok : ∀ k, k < 1 → parseFieldDescriptor (TX1 k).2.2.1 = some (tyX1 k) := by decide +kernel
abbrev cX1_init : ByteArray := prog_3_method_1_code
def yX1_init : MethodName := ⟨RX1, "<init>", "(LSetsStayTogether$Reader;)V"⟩
abbrev cX1_read : ByteArray := prog_3_method_2_code
def yX1_read : MethodName := ⟨RX1, "read", "(LSetsStayTogether$House;)I"⟩
abbrev cX1_line : ByteArray := prog_3_method_3_code
def yX1_line : MethodName := ⟨RX1, "line", "(LSetsStayTogether$House;)V"⟩
abbrev cX1_doorLine : ByteArray := prog_3_method_4_code
def yX1_doorLine : MethodName := ⟨RX1, "doorLine", "(LSetsStayTogether$House;)V"⟩
abbrev cX1_thingLine : ByteArray := prog_3_method_5_code
def yX1_thingLine : MethodName := ⟨RX1, "thingLine", "(LSetsStayTogether$House;)V"⟩
abbrev cX1_letters : ByteArray := prog_3_method_6_code
def yX1_letters : MethodName := ⟨RX1, "letters", "(I)I"⟩
def RX2 : String := "SetsStayTogether$Journey"
def TX2 : u_T := fun k => match k with
  | 0 => ("SetsStayTogether$Journey", "list", "[I", true)
  | 1 => ("SetsStayTogether$Journey", "costs", "[I", true)
  | 2 => ("SetsStayTogether$Journey", "first", "[I", true)
  | 3 => ("SetsStayTogether$Journey", "nights", "[I", true)
  | 4 => ("SetsStayTogether$Journey", "total", "[I", true)
  | 5 => ("SetsStayTogether$Journey", "many", "I", false)
  | 6 => ("SetsStayTogether$Journey", "clumps", "I", false)
  | 7 => ("SetsStayTogether$Journey", "target", "I", false)
  | 8 => ("SetsStayTogether$Journey", "least", "I", false)
  | _ => ("SetsStayTogether$Journey", "next", "I", false)
def tyX2 : Nat → FieldType := fun k => match k with
  | 0 => .array .int
  | 1 => .array .int
  | 2 => .array .int
  | 3 => .array .int
  | 4 => .array .int
  | 5 => .int
  | 6 => .int
  | 7 => .int
  | 8 => .int
  | _ => .int
theorem nmX2 : ∀ a, a < 10 → ∀ b, b < 10 → a ≠ b → (TX2 a).2.1 ≠ (TX2 b).2.1 := by decide +kernel
theorem tyX2_ok : ∀ k, k < 10 → parseFieldDescriptor (TX2 k).2.2.1 = some (tyX2 k) := by decide +kernel
abbrev cX2_init : ByteArray := prog_4_method_1_code
def yX2_init : MethodName := ⟨RX2, "<init>", "()V"⟩
abbrev cX2_listLawful : ByteArray := prog_4_method_2_code
def yX2_listLawful : MethodName := ⟨RX2, "listLawful", "(LSetsStayTogether$House;LSetsStayTogether$Walk;)Z"⟩
abbrev cX2_prepare : ByteArray := prog_4_method_3_code
def yX2_prepare : MethodName := ⟨RX2, "prepare", "(LSetsStayTogether$House;[I)Z"⟩
abbrev cX2_roomAt : ByteArray := prog_4_method_4_code
def yX2_roomAt : MethodName := ⟨RX2, "roomAt", "(II)I"⟩
abbrev cX2_find : ByteArray := prog_4_method_5_code
def yX2_find : MethodName := ⟨RX2, "find", "(LSetsStayTogether$House;[I)I"⟩
abbrev cX2_fillCosts : ByteArray := prog_4_method_6_code
def yX2_fillCosts : MethodName := ⟨RX2, "fillCosts", "(LSetsStayTogether$House;)V"⟩
abbrev cX2_firstCost : ByteArray := prog_4_method_7_code
def yX2_firstCost : MethodName := ⟨RX2, "firstCost", "(LSetsStayTogether$House;I)I"⟩
abbrev cX2_between : ByteArray := prog_4_method_8_code
def yX2_between : MethodName := ⟨RX2, "between", "(II)I"⟩
abbrev cX2_fewest : ByteArray := prog_4_method_9_code
def yX2_fewest : MethodName := ⟨RX2, "fewest", "(I)I"⟩
abbrev cX2_firstBefore : ByteArray := prog_4_method_10_code
def yX2_firstBefore : MethodName := ⟨RX2, "firstBefore", "(II)I"⟩
abbrev cX2_goBack : ByteArray := prog_4_method_11_code
def yX2_goBack : MethodName := ⟨RX2, "goBack", "(II)Z"⟩
abbrev cX2_leastFrom : ByteArray := prog_4_method_12_code
def yX2_leastFrom : MethodName := ⟨RX2, "leastFrom", "(III)I"⟩
abbrev cX2_narrowest : ByteArray := prog_4_method_13_code
def yX2_narrowest : MethodName := ⟨RX2, "narrowest", "()I"⟩
abbrev cX2_easiest : ByteArray := prog_4_method_14_code
def yX2_easiest : MethodName := ⟨RX2, "easiest", "()I"⟩
def RX3 : String := "SetsStayTogether$Kept"
def TX3 : u_T := fun k => match k with
  | 0 => ("SetsStayTogether$Kept", "where", "[I", true)
  | 1 => ("SetsStayTogether$Kept", "used", "Z", false)
  | 2 => ("SetsStayTogether$Kept", "rooms", "I", false)
  | 3 => ("SetsStayTogether$Kept", "things", "I", false)
  | 4 => ("SetsStayTogether$Kept", "days", "I", false)
  | _ => ("SetsStayTogether$Kept", "carried", "I", false)
def tyX3 : Nat → FieldType := fun k => match k with
  | 0 => .array .int
  | 1 => .boolean
  | 2 => .int
  | 3 => .int
  | 4 => .int
  | _ => .int
theorem nmX3 : ∀ a, a < 6 → ∀ b, b < 6 → a ≠ b → (TX3 a).2.1 ≠ (TX3 b).2.1 := by decide +kernel
theorem tyX3_ok : ∀ k, k < 6 → parseFieldDescriptor (TX3 k).2.2.1 = some (tyX3 k) := by decide +kernel
abbrev cX3_init : ByteArray := prog_5_method_1_code
def yX3_init : MethodName := ⟨RX3, "<init>", "()V"⟩
abbrev cX3_store : ByteArray := prog_5_method_2_code
def yX3_store : MethodName := ⟨RX3, "store", "(LSetsStayTogether$House;II)V"⟩
abbrev cX3_suits : ByteArray := prog_5_method_3_code
def yX3_suits : MethodName := ⟨RX3, "suits", "(LSetsStayTogether$House;)Z"⟩
def RX4 : String := "SetsStayTogether$Numbers"
def TX4 : u_T := fun k => match k with
  | 0 => ("SetsStayTogether$Numbers", "numbers", "[I", true)
  | _ => ("SetsStayTogether$Numbers", "many", "I", false)
def tyX4 : Nat → FieldType := fun k => match k with
  | 0 => .array .int
  | _ => .int
theorem nmX4 : ∀ a, a < 2 → ∀ b, b < 2 → a ≠ b → (TX4 a).2.1 ≠ (TX4 b).2.1 := by decide +kernel
theorem tyX4_ok : ∀ k, k < 2 → parseFieldDescriptor (TX4 k).2.2.1 = some (tyX4 k) := by decide +kernel
abbrev cX4_init : ByteArray := prog_6_method_1_code
def yX4_init : MethodName := ⟨RX4, "<init>", "()V"⟩
abbrev cX4_start : ByteArray := prog_6_method_2_code
def yX4_start : MethodName := ⟨RX4, "start", "()V"⟩
abbrev cX4_tell : ByteArray := prog_6_method_3_code
def yX4_tell : MethodName := ⟨RX4, "tell", "(I)V"⟩
def RX5 : String := "SetsStayTogether$Past"
def TX5 : u_T := fun k => match k with
  | 0 => ("SetsStayTogether$Past", "thing", "[I", true)
  | 1 => ("SetsStayTogether$Past", "room", "[I", true)
  | 2 => ("SetsStayTogether$Past", "carried", "[I", true)
  | _ => ("SetsStayTogether$Past", "many", "I", false)
def tyX5 : Nat → FieldType := fun k => match k with
  | 0 => .array .int
  | 1 => .array .int
  | 2 => .array .int
  | _ => .int
theorem nmX5 : ∀ a, a < 4 → ∀ b, b < 4 → a ≠ b → (TX5 a).2.1 ≠ (TX5 b).2.1 := by decide +kernel
theorem tyX5_ok : ∀ k, k < 4 → parseFieldDescriptor (TX5 k).2.2.1 = some (tyX5 k) := by decide +kernel
abbrev cX5_init : ByteArray := prog_7_method_1_code
def yX5_init : MethodName := ⟨RX5, "<init>", "()V"⟩
abbrev cX5_forget : ByteArray := prog_7_method_2_code
def yX5_forget : MethodName := ⟨RX5, "forget", "()V"⟩
abbrev cX5_add : ByteArray := prog_7_method_3_code
def yX5_add : MethodName := ⟨RX5, "add", "(III)V"⟩
abbrev cX5_dropFirst : ByteArray := prog_7_method_4_code
def yX5_dropFirst : MethodName := ⟨RX5, "dropFirst", "()V"⟩
def RX6 : String := "SetsStayTogether$Reader"
def TX6 : u_T := fun k => match k with
  | 0 => ("SetsStayTogether$Reader", "text", "LSetsStayTogether$Text;", true)
  | 1 => ("SetsStayTogether$Reader", "at", "I", false)
  | 2 => ("SetsStayTogether$Reader", "stop", "I", false)
  | _ => ("SetsStayTogether$Reader", "bad", "I", false)
def tyX6 : Nat → FieldType := fun k => match k with
  | 0 => .object "SetsStayTogether$Text"
  | 1 => .int
  | 2 => .int
  | _ => .int
theorem nmX6 : ∀ a, a < 4 → ∀ b, b < 4 → a ≠ b → (TX6 a).2.1 ≠ (TX6 b).2.1 := by decide +kernel
theorem tyX6_ok : ∀ k, k < 4 → parseFieldDescriptor (TX6 k).2.2.1 = some (tyX6 k) := by decide +kernel
abbrev cX6_init : ByteArray := prog_8_method_1_code
def yX6_init : MethodName := ⟨RX6, "<init>", "(LSetsStayTogether$Text;)V"⟩
abbrev cX6_start : ByteArray := prog_8_method_2_code
def yX6_start : MethodName := ⟨RX6, "start", "(I)V"⟩
abbrev cX6_peek : ByteArray := prog_8_method_3_code
def yX6_peek : MethodName := ⟨RX6, "peek", "()I"⟩
abbrev cX6_goesOn : ByteArray := prog_8_method_4_code
def yX6_goesOn : MethodName := ⟨RX6, "goesOn", "()Z"⟩
abbrev cX6_fail : ByteArray := prog_8_method_5_code
def yX6_fail : MethodName := ⟨RX6, "fail", "(I)V"⟩
abbrev cX6_fault : ByteArray := prog_8_method_6_code
def yX6_fault : MethodName := ⟨RX6, "fault", "()I"⟩
abbrev cX6_take : ByteArray := prog_8_method_7_code
def yX6_take : MethodName := ⟨RX6, "take", "(I)V"⟩
abbrev cX6_seesDigit : ByteArray := prog_8_method_8_code
def yX6_seesDigit : MethodName := ⟨RX6, "seesDigit", "()Z"⟩
abbrev cX6_digit : ByteArray := prog_8_method_9_code
def yX6_digit : MethodName := ⟨RX6, "digit", "(II)I"⟩
abbrev cX6_letter : ByteArray := prog_8_method_10_code
def yX6_letter : MethodName := ⟨RX6, "letter", "(II)I"⟩
abbrev cX6_counted : ByteArray := prog_8_method_11_code
def yX6_counted : MethodName := ⟨RX6, "counted", "(III)I"⟩
abbrev cX6_inches : ByteArray := prog_8_method_12_code
def yX6_inches : MethodName := ⟨RX6, "inches", "()I"⟩
def RX7 : String := "SetsStayTogether$Rule"
def TX7 : u_T := fun k => match k with
  | 0 => ("SetsStayTogether$Rule", "signs", "LSetsStayTogether$Text;", true)
  | 1 => ("SetsStayTogether$Rule", "own", "LSetsStayTogether$Reader;", true)
  | _ => ("SetsStayTogether$Rule", "values", "[I", true)
def tyX7 : Nat → FieldType := fun k => match k with
  | 0 => .object "SetsStayTogether$Text"
  | 1 => .object "SetsStayTogether$Reader"
  | _ => .array .int
theorem nmX7 : ∀ a, a < 3 → ∀ b, b < 3 → a ≠ b → (TX7 a).2.1 ≠ (TX7 b).2.1 := by decide +kernel
theorem tyX7_ok : ∀ k, k < 3 → parseFieldDescriptor (TX7 k).2.2.1 = some (tyX7 k) := by decide +kernel
abbrev cX7_init : ByteArray := prog_9_method_1_code
def yX7_init : MethodName := ⟨RX7, "<init>", "()V"⟩
abbrev cX7_fault : ByteArray := prog_9_method_2_code
def yX7_fault : MethodName := ⟨RX7, "fault", "(LSetsStayTogether$Reader;)I"⟩
abbrev cX7_value : ByteArray := prog_9_method_3_code
def yX7_value : MethodName := ⟨RX7, "value", "(LSetsStayTogether$House;II)I"⟩
abbrev cX7_whole : ByteArray := prog_9_method_4_code
def yX7_whole : MethodName := ⟨RX7, "whole", "(LSetsStayTogether$Reader;)I"⟩
abbrev cX7_compared : ByteArray := prog_9_method_5_code
def yX7_compared : MethodName := ⟨RX7, "compared", "(LSetsStayTogether$Reader;I)I"⟩
abbrev cX7_summed : ByteArray := prog_9_method_6_code
def yX7_summed : MethodName := ⟨RX7, "summed", "(LSetsStayTogether$Reader;I)I"⟩
abbrev cX7_multiplied : ByteArray := prog_9_method_7_code
def yX7_multiplied : MethodName := ⟨RX7, "multiplied", "(LSetsStayTogether$Reader;I)I"⟩
abbrev cX7_negated : ByteArray := prog_9_method_8_code
def yX7_negated : MethodName := ⟨RX7, "negated", "(LSetsStayTogether$Reader;I)I"⟩
abbrev cX7_single : ByteArray := prog_9_method_9_code
def yX7_single : MethodName := ⟨RX7, "single", "(LSetsStayTogether$Reader;I)I"⟩
abbrev cX7_number : ByteArray := prog_9_method_10_code
def yX7_number : MethodName := ⟨RX7, "number", "(LSetsStayTogether$Reader;)I"⟩
def RX8 : String := "SetsStayTogether$Text"
def TX8 : u_T := fun k => match k with
  | 0 => ("SetsStayTogether$Text", "signs", "[I", true)
  | _ => ("SetsStayTogether$Text", "length", "I", false)
def tyX8 : Nat → FieldType := fun k => match k with
  | 0 => .array .int
  | _ => .int
theorem nmX8 : ∀ a, a < 2 → ∀ b, b < 2 → a ≠ b → (TX8 a).2.1 ≠ (TX8 b).2.1 := by decide +kernel
theorem tyX8_ok : ∀ k, k < 2 → parseFieldDescriptor (TX8 k).2.2.1 = some (tyX8 k) := by decide +kernel
abbrev cX8_init : ByteArray := prog_10_method_1_code
def yX8_init : MethodName := ⟨RX8, "<init>", "()V"⟩
abbrev cX8_append : ByteArray := prog_10_method_2_code
def yX8_append : MethodName := ⟨RX8, "append", "(I)Z"⟩
abbrev cX8_cut : ByteArray := prog_10_method_3_code
def yX8_cut : MethodName := ⟨RX8, "cut", "(I)Z"⟩
abbrev cX8_at : ByteArray := prog_10_method_4_code
def yX8_at : MethodName := ⟨RX8, "at", "(I)I"⟩
abbrev cX8_become : ByteArray := prog_10_method_5_code
def yX8_become : MethodName := ⟨RX8, "become", "(LSetsStayTogether$Text;)V"⟩
def RX9 : String := "SetsStayTogether$Turns"
def TX9 : u_T := fun k => match k with
  | 0 => ("SetsStayTogether$Turns", "open", "[Z", true)
  | 1 => ("SetsStayTogether$Turns", "order", "[I", true)
  | 2 => ("SetsStayTogether$Turns", "place", "[I", true)
  | _ => ("SetsStayTogether$Turns", "many", "I", false)
def tyX9 : Nat → FieldType := fun k => match k with
  | 0 => .array .boolean
  | 1 => .array .int
  | 2 => .array .int
  | _ => .int
theorem nmX9 : ∀ a, a < 4 → ∀ b, b < 4 → a ≠ b → (TX9 a).2.1 ≠ (TX9 b).2.1 := by decide +kernel
theorem tyX9_ok : ∀ k, k < 4 → parseFieldDescriptor (TX9 k).2.2.1 = some (tyX9 k) := by decide +kernel
abbrev cX9_init : ByteArray := prog_11_method_1_code
def yX9_init : MethodName := ⟨RX9, "<init>", "()V"⟩
abbrev cX9_find : ByteArray := prog_11_method_2_code
def yX9_find : MethodName := ⟨RX9, "find", "(LSetsStayTogether$House;[I)Z"⟩
abbrev cX9_movedClumps : ByteArray := prog_11_method_3_code
def yX9_movedClumps : MethodName := ⟨RX9, "movedClumps", "(LSetsStayTogether$House;[I)I"⟩
abbrev cX9_firstOpen : ByteArray := prog_11_method_4_code
def yX9_firstOpen : MethodName := ⟨RX9, "firstOpen", "(II)I"⟩
abbrev cX9_isLawful : ByteArray := prog_11_method_5_code
def yX9_isLawful : MethodName := ⟨RX9, "isLawful", "(LSetsStayTogether$House;[II)Z"⟩
def RX10 : String := "SetsStayTogether$Walk"
def TX10 : u_T := fun k => match k with
  | 0 => ("SetsStayTogether$Walk", "size", "[I", true)
  | 1 => ("SetsStayTogether$Walk", "load", "[I", true)
  | 2 => ("SetsStayTogether$Walk", "bulk", "[I", true)
  | 3 => ("SetsStayTogether$Walk", "place", "[I", true)
  | 4 => ("SetsStayTogether$Walk", "table", "[I", true)
  | 5 => ("SetsStayTogether$Walk", "chosen", "[I", true)
  | 6 => ("SetsStayTogether$Walk", "rooms", "I", false)
  | 7 => ("SetsStayTogether$Walk", "parts", "I", false)
  | 8 => ("SetsStayTogether$Walk", "begun", "Z", false)
  | 9 => ("SetsStayTogether$Walk", "over", "Z", false)
  | 10 => ("SetsStayTogether$Walk", "value", "I", false)
  | _ => ("SetsStayTogether$Walk", "found", "I", false)
def tyX10 : Nat → FieldType := fun k => match k with
  | 0 => .array .int
  | 1 => .array .int
  | 2 => .array .int
  | 3 => .array .int
  | 4 => .array .int
  | 5 => .array .int
  | 6 => .int
  | 7 => .int
  | 8 => .boolean
  | 9 => .boolean
  | 10 => .int
  | _ => .int
theorem nmX10 : ∀ a, a < 12 → ∀ b, b < 12 → a ≠ b → (TX10 a).2.1 ≠ (TX10 b).2.1 := by decide +kernel
theorem tyX10_ok : ∀ k, k < 12 → parseFieldDescriptor (TX10 k).2.2.1 = some (tyX10 k) := by decide +kernel
abbrev cX10_init : ByteArray := prog_12_method_1_code
def yX10_init : MethodName := ⟨RX10, "<init>", "()V"⟩
abbrev cX10_start : ByteArray := prog_12_method_2_code
def yX10_start : MethodName := ⟨RX10, "start", "(LSetsStayTogether$House;I)V"⟩
abbrev cX10_lessen : ByteArray := prog_12_method_3_code
def yX10_lessen : MethodName := ⟨RX10, "lessen", "(II)V"⟩
abbrev cX10_add : ByteArray := prog_12_method_4_code
def yX10_add : MethodName := ⟨RX10, "add", "(III)V"⟩
abbrev cX10_next : ByteArray := prog_12_method_5_code
def yX10_next : MethodName := ⟨RX10, "next", "()Z"⟩
abbrev cX10_isRoomEnough : ByteArray := prog_12_method_6_code
def yX10_isRoomEnough : MethodName := ⟨RX10, "isRoomEnough", "()Z"⟩
abbrev cX10_shift : ByteArray := prog_12_method_7_code
def yX10_shift : MethodName := ⟨RX10, "shift", "(I)Z"⟩
abbrev cX10_sum : ByteArray := prog_12_method_8_code
def yX10_sum : MethodName := ⟨RX10, "sum", "()I"⟩
abbrev cX10_choose : ByteArray := prog_12_method_9_code
def yX10_choose : MethodName := ⟨RX10, "choose", "()Z"⟩
def RX11 : String := "SetsStayTogether"
def TX11 : u_T := fun k => match k with
  | 0 => ("SetsStayTogether", "text", "LSetsStayTogether$Text;", true)
  | 1 => ("SetsStayTogether", "reader", "LSetsStayTogether$Reader;", true)
  | 2 => ("SetsStayTogether", "lines", "LSetsStayTogether$HouseReader;", true)
  | 3 => ("SetsStayTogether", "answer", "LSetsStayTogether$Numbers;", true)
  | 4 => ("SetsStayTogether", "home", "LSetsStayTogether$House;", true)
  | 5 => ("SetsStayTogether", "draft", "LSetsStayTogether$House;", true)
  | 6 => ("SetsStayTogether", "law", "LSetsStayTogether$Rule;", true)
  | 7 => ("SetsStayTogether", "walk", "LSetsStayTogether$Walk;", true)
  | 8 => ("SetsStayTogether", "past", "LSetsStayTogether$Past;", true)
  | 9 => ("SetsStayTogether", "shelf", "[LSetsStayTogether$Kept;", true)
  | 10 => ("SetsStayTogether", "turns", "LSetsStayTogether$Turns;", true)
  | 11 => ("SetsStayTogether", "journey", "LSetsStayTogether$Journey;", true)
  | 12 => ("SetsStayTogether", "goal", "[I", true)
  | 13 => ("SetsStayTogether", "spare", "[I", true)
  | 14 => ("SetsStayTogether", "goalThings", "I", false)
  | 15 => ("SetsStayTogether", "days", "I", false)
  | 16 => ("SetsStayTogether", "carried", "I", false)
  | _ => ("SetsStayTogether", "might", "I", false)
def tyX11 : Nat → FieldType := fun k => match k with
  | 0 => .object "SetsStayTogether$Text"
  | 1 => .object "SetsStayTogether$Reader"
  | 2 => .object "SetsStayTogether$HouseReader"
  | 3 => .object "SetsStayTogether$Numbers"
  | 4 => .object "SetsStayTogether$House"
  | 5 => .object "SetsStayTogether$House"
  | 6 => .object "SetsStayTogether$Rule"
  | 7 => .object "SetsStayTogether$Walk"
  | 8 => .object "SetsStayTogether$Past"
  | 9 => .array (.object "SetsStayTogether$Kept")
  | 10 => .object "SetsStayTogether$Turns"
  | 11 => .object "SetsStayTogether$Journey"
  | 12 => .array .int
  | 13 => .array .int
  | 14 => .int
  | 15 => .int
  | 16 => .int
  | _ => .int
theorem nmX11 : ∀ a, a < 18 → ∀ b, b < 18 → a ≠ b → (TX11 a).2.1 ≠ (TX11 b).2.1 := by decide +kernel
theorem tyX11_ok : ∀ k, k < 18 → parseFieldDescriptor (TX11 k).2.2.1 = some (tyX11 k) := by decide +kernel
abbrev cX11_init : ByteArray := prog_1_method_1_code
def yX11_init : MethodName := ⟨RX11, "<init>", "()V"⟩
abbrev cX11_sign : ByteArray := prog_1_method_2_code
def yX11_sign : MethodName := ⟨RX11, "sign", "(I)I"⟩
abbrev cX11_end : ByteArray := prog_1_method_3_code
def yX11_end : MethodName := ⟨RX11, "end", "(I)Z"⟩
abbrev cX11_house : ByteArray := prog_1_method_4_code
def yX11_house : MethodName := ⟨RX11, "house", "()I"⟩
abbrev cX11_rule : ByteArray := prog_1_method_5_code
def yX11_rule : MethodName := ⟨RX11, "rule", "()I"⟩
abbrev cX11_room : ByteArray := prog_1_method_6_code
def yX11_room : MethodName := ⟨RX11, "room", "(II)I"⟩
abbrev cX11_thing : ByteArray := prog_1_method_7_code
def yX11_thing : MethodName := ⟨RX11, "thing", "(II)I"⟩
abbrev cX11_set : ByteArray := prog_1_method_8_code
def yX11_set : MethodName := ⟨RX11, "set", "(I)I"⟩
abbrev cX11_door : ByteArray := prog_1_method_9_code
def yX11_door : MethodName := ⟨RX11, "door", "(II)I"⟩
abbrev cX11_widen : ByteArray := prog_1_method_10_code
def yX11_widen : MethodName := ⟨RX11, "widen", "(III)I"⟩
abbrev cX11_strength : ByteArray := prog_1_method_11_code
def yX11_strength : MethodName := ⟨RX11, "strength", "(I)I"⟩
abbrev cX11_sheet : ByteArray := prog_1_method_12_code
def yX11_sheet : MethodName := ⟨RX11, "sheet", "(IIII)I"⟩
abbrev cX11_carry : ByteArray := prog_1_method_13_code
def yX11_carry : MethodName := ⟨RX11, "carry", "(II)I"⟩
abbrev cX11_evening : ByteArray := prog_1_method_14_code
def yX11_evening : MethodName := ⟨RX11, "evening", "()I"⟩
abbrev cX11_day : ByteArray := prog_1_method_15_code
def yX11_day : MethodName := ⟨RX11, "day", "()I"⟩
abbrev cX11_undo : ByteArray := prog_1_method_16_code
def yX11_undo : MethodName := ⟨RX11, "undo", "()I"⟩
abbrev cX11_judge : ByteArray := prog_1_method_17_code
def yX11_judge : MethodName := ⟨RX11, "judge", "(II)I"⟩
abbrev cX11_clumps : ByteArray := prog_1_method_18_code
def yX11_clumps : MethodName := ⟨RX11, "clumps", "()I"⟩
abbrev cX11_heaviest : ByteArray := prog_1_method_19_code
def yX11_heaviest : MethodName := ⟨RX11, "heaviest", "()I"⟩
abbrev cX11_without : ByteArray := prog_1_method_20_code
def yX11_without : MethodName := ⟨RX11, "without", "(I)I"⟩
abbrev cX11_breaks : ByteArray := prog_1_method_21_code
def yX11_breaks : MethodName := ⟨RX11, "breaks", "(I)I"⟩
abbrev cX11_ties : ByteArray := prog_1_method_22_code
def yX11_ties : MethodName := ⟨RX11, "ties", "()I"⟩
abbrev cX11_fits : ByteArray := prog_1_method_23_code
def yX11_fits : MethodName := ⟨RX11, "fits", "()I"⟩
abbrev cX11_worth : ByteArray := prog_1_method_24_code
def yX11_worth : MethodName := ⟨RX11, "worth", "()I"⟩
abbrev cX11_best : ByteArray := prog_1_method_25_code
def yX11_best : MethodName := ⟨RX11, "best", "()I"⟩
abbrev cX11_near : ByteArray := prog_1_method_26_code
def yX11_near : MethodName := ⟨RX11, "near", "()I"⟩
abbrev cX11_guest : ByteArray := prog_1_method_27_code
def yX11_guest : MethodName := ⟨RX11, "guest", "(II)I"⟩
abbrev cX11_space : ByteArray := prog_1_method_28_code
def yX11_space : MethodName := ⟨RX11, "space", "()I"⟩
abbrev cX11_could : ByteArray := prog_1_method_29_code
def yX11_could : MethodName := ⟨RX11, "could", "(II)I"⟩
abbrev cX11_may : ByteArray := prog_1_method_30_code
def yX11_may : MethodName := ⟨RX11, "may", "(I)I"⟩
abbrev cX11_together : ByteArray := prog_1_method_31_code
def yX11_together : MethodName := ⟨RX11, "together", "(II)I"⟩
abbrev cX11_fullest : ByteArray := prog_1_method_32_code
def yX11_fullest : MethodName := ⟨RX11, "fullest", "(I)I"⟩
abbrev cX11_swap : ByteArray := prog_1_method_33_code
def yX11_swap : MethodName := ⟨RX11, "swap", "(II)I"⟩
abbrev cX11_sell : ByteArray := prog_1_method_34_code
def yX11_sell : MethodName := ⟨RX11, "sell", "()I"⟩
abbrev cX11_build : ByteArray := prog_1_method_35_code
def yX11_build : MethodName := ⟨RX11, "build", "()I"⟩
abbrev cX11_way : ByteArray := prog_1_method_36_code
def yX11_way : MethodName := ⟨RX11, "way", "(II)I"⟩
abbrev cX11_widest : ByteArray := prog_1_method_37_code
def yX11_widest : MethodName := ⟨RX11, "widest", "(II)I"⟩
abbrev cX11_stuck : ByteArray := prog_1_method_38_code
def yX11_stuck : MethodName := ⟨RX11, "stuck", "()I"⟩
abbrev cX11_hinge : ByteArray := prog_1_method_39_code
def yX11_hinge : MethodName := ⟨RX11, "hinge", "(I)I"⟩
abbrev cX11_aim : ByteArray := prog_1_method_40_code
def yX11_aim : MethodName := ⟨RX11, "aim", "()I"⟩
abbrev cX11_apart : ByteArray := prog_1_method_41_code
def yX11_apart : MethodName := ⟨RX11, "apart", "()I"⟩
abbrev cX11_queue : ByteArray := prog_1_method_42_code
def yX11_queue : MethodName := ⟨RX11, "queue", "()I"⟩
abbrev cX11_evenings : ByteArray := prog_1_method_43_code
def yX11_evenings : MethodName := ⟨RX11, "evenings", "()I"⟩
abbrev cX11_weakest : ByteArray := prog_1_method_44_code
def yX11_weakest : MethodName := ⟨RX11, "weakest", "()I"⟩
abbrev cX11_keep : ByteArray := prog_1_method_45_code
def yX11_keep : MethodName := ⟨RX11, "keep", "(I)Z"⟩
abbrev cX11_again : ByteArray := prog_1_method_46_code
def yX11_again : MethodName := ⟨RX11, "again", "(I)Z"⟩
abbrev cX11_count : ByteArray := prog_1_method_47_code
def yX11_count : MethodName := ⟨RX11, "count", "(I)I"⟩
abbrev cX11_row : ByteArray := prog_1_method_48_code
def yX11_row : MethodName := ⟨RX11, "row", "(I)I"⟩
abbrev cX11_numberAt : ByteArray := prog_1_method_49_code
def yX11_numberAt : MethodName := ⟨RX11, "numberAt", "([II)I"⟩
abbrev cX11_copy : ByteArray := prog_1_method_50_code
def yX11_copy : MethodName := ⟨RX11, "copy", "([I[I)V"⟩
abbrev cX11_has : ByteArray := prog_1_method_51_code
def yX11_has : MethodName := ⟨RX11, "has", "(II)Z"⟩
abbrev cX11_keptAt : ByteArray := prog_1_method_52_code
def yX11_keptAt : MethodName := ⟨RX11, "keptAt", "(I)LSetsStayTogether$Kept;"⟩
abbrev cX11_attempt : ByteArray := prog_1_method_53_code
def yX11_attempt : MethodName := ⟨RX11, "attempt", "(II[II)I"⟩
abbrev cX11_bring : ByteArray := prog_1_method_54_code
def yX11_bring : MethodName := ⟨RX11, "bring", "(III)V"⟩
abbrev cX11_sleep : ByteArray := prog_1_method_55_code
def yX11_sleep : MethodName := ⟨RX11, "sleep", "()I"⟩
abbrev cX11_dayFault : ByteArray := prog_1_method_56_code
def yX11_dayFault : MethodName := ⟨RX11, "dayFault", "()I"⟩
abbrev cX11_readCarrying : ByteArray := prog_1_method_57_code
def yX11_readCarrying : MethodName := ⟨RX11, "readCarrying", "()V"⟩
abbrev cX11_aimFault : ByteArray := prog_1_method_58_code
def yX11_aimFault : MethodName := ⟨RX11, "aimFault", "()I"⟩
abbrev cX11_hasAim : ByteArray := prog_1_method_59_code
def yX11_hasAim : MethodName := ⟨RX11, "hasAim", "()Z"⟩
abbrev cX11_tellChosen : ByteArray := prog_1_method_60_code
def yX11_tellChosen : MethodName := ⟨RX11, "tellChosen", "()V"⟩
abbrev cX11_nearest : ByteArray := prog_1_method_61_code
def yX11_nearest : MethodName := ⟨RX11, "nearest", "(II)I"⟩
abbrev cX11_chooseByBulk : ByteArray := prog_1_method_62_code
def yX11_chooseByBulk : MethodName := ⟨RX11, "chooseByBulk", "(III)Z"⟩
abbrev cX11_readyJourney : ByteArray := prog_1_method_63_code
def yX11_readyJourney : MethodName := ⟨RX11, "readyJourney", "()I"⟩
def RX12 : String := "SetsStayTogetherModel"
def TX12 : u_T := fun k => match k with
  | 0 => ("SetsStayTogetherModel", "rooms", "I", false)
  | 1 => ("SetsStayTogetherModel", "size", "[I", true)
  | 2 => ("SetsStayTogetherModel", "door", "[I", true)
  | 3 => ("SetsStayTogetherModel", "things", "I", false)
  | 4 => ("SetsStayTogetherModel", "bulk", "[I", true)
  | 5 => ("SetsStayTogetherModel", "wide", "[I", true)
  | 6 => ("SetsStayTogetherModel", "weight", "[I", true)
  | 7 => ("SetsStayTogetherModel", "is", "[I", true)
  | 8 => ("SetsStayTogetherModel", "sets", "I", false)
  | 9 => ("SetsStayTogetherModel", "setOf", "[I", true)
  | 10 => ("SetsStayTogetherModel", "days", "I", false)
  | 11 => ("SetsStayTogetherModel", "carried", "I", false)
  | 12 => ("SetsStayTogetherModel", "strength", "I", false)
  | 13 => ("SetsStayTogetherModel", "text", "[B", true)
  | 14 => ("SetsStayTogetherModel", "typed", "I", false)
  | 15 => ("SetsStayTogetherModel", "row", "[I", true)
  | 16 => ("SetsStayTogetherModel", "rowMany", "I", false)
  | 17 => ("SetsStayTogetherModel", "thrown", "I", false)
  | 18 => ("SetsStayTogetherModel", "read", "[B", false)
  | 19 => ("SetsStayTogetherModel", "length", "I", false)
  | 20 => ("SetsStayTogetherModel", "top", "I", false)
  | 21 => ("SetsStayTogetherModel", "at", "I", false)
  | 22 => ("SetsStayTogetherModel", "wrong", "I", false)
  | 23 => ("SetsStayTogetherModel", "newDoors", "[I", true)
  | 24 => ("SetsStayTogetherModel", "rule", "[B", true)
  | 25 => ("SetsStayTogetherModel", "ruleSize", "I", false)
  | 26 => ("SetsStayTogetherModel", "askedThing", "I", false)
  | 27 => ("SetsStayTogetherModel", "askedRoom", "I", false)
  | 28 => ("SetsStayTogetherModel", "clumpOf", "[I", true)
  | 29 => ("SetsStayTogetherModel", "inClump", "[I", true)
  | 30 => ("SetsStayTogetherModel", "clumps", "I", false)
  | 31 => ("SetsStayTogetherModel", "far", "[I", true)
  | 32 => ("SetsStayTogetherModel", "undos", "[I", true)
  | 33 => ("SetsStayTogetherModel", "undoMany", "I", false)
  | 34 => ("SetsStayTogetherModel", "told", "[I", true)
  | 35 => ("SetsStayTogetherModel", "was", "[I", true)
  | 36 => ("SetsStayTogetherModel", "tried", "[I", true)
  | 37 => ("SetsStayTogetherModel", "clumpIn", "[I", true)
  | 38 => ("SetsStayTogetherModel", "sold", "I", false)
  | 39 => ("SetsStayTogetherModel", "ways", "I", false)
  | 40 => ("SetsStayTogetherModel", "code", "I", false)
  | 41 => ("SetsStayTogetherModel", "found", "[I", true)
  | 42 => ("SetsStayTogetherModel", "aim", "[I", true)
  | 43 => ("SetsStayTogetherModel", "aimMany", "I", false)
  | 44 => ("SetsStayTogetherModel", "isAimed", "Z", false)
  | 45 => ("SetsStayTogetherModel", "canCome", "[Z", true)
  | 46 => ("SetsStayTogetherModel", "rows", "[I", true)
  | 47 => ("SetsStayTogetherModel", "costs", "[I", true)
  | 48 => ("SetsStayTogetherModel", "rowsMany", "I", false)
  | 49 => ("SetsStayTogetherModel", "aimAt", "I", false)
  | 50 => ("SetsStayTogetherModel", "evenings", "[I", true)
  | 51 => ("SetsStayTogetherModel", "carriedBy", "[I", true)
  | 52 => ("SetsStayTogetherModel", "came", "I", false)
  | 53 => ("SetsStayTogetherModel", "kept", "[I", true)
  | 54 => ("SetsStayTogetherModel", "isKept", "[Z", true)
  | _ => ("SetsStayTogetherModel", "keptCame", "[I", true)
def tyX12 : Nat → FieldType := fun k => match k with
  | 0 => .int
  | 1 => .array .int
  | 2 => .array .int
  | 3 => .int
  | 4 => .array .int
  | 5 => .array .int
  | 6 => .array .int
  | 7 => .array .int
  | 8 => .int
  | 9 => .array .int
  | 10 => .int
  | 11 => .int
  | 12 => .int
  | 13 => .array .byte
  | 14 => .int
  | 15 => .array .int
  | 16 => .int
  | 17 => .int
  | 18 => .array .byte
  | 19 => .int
  | 20 => .int
  | 21 => .int
  | 22 => .int
  | 23 => .array .int
  | 24 => .array .byte
  | 25 => .int
  | 26 => .int
  | 27 => .int
  | 28 => .array .int
  | 29 => .array .int
  | 30 => .int
  | 31 => .array .int
  | 32 => .array .int
  | 33 => .int
  | 34 => .array .int
  | 35 => .array .int
  | 36 => .array .int
  | 37 => .array .int
  | 38 => .int
  | 39 => .int
  | 40 => .int
  | 41 => .array .int
  | 42 => .array .int
  | 43 => .int
  | 44 => .boolean
  | 45 => .array .boolean
  | 46 => .array .int
  | 47 => .array .int
  | 48 => .int
  | 49 => .int
  | 50 => .array .int
  | 51 => .array .int
  | 52 => .int
  | 53 => .array .int
  | 54 => .array .boolean
  | _ => .array .int
theorem nmX12 : ∀ a, a < 56 → ∀ b, b < 56 → a ≠ b → (TX12 a).2.1 ≠ (TX12 b).2.1 := by decide +kernel
theorem tyX12_ok : ∀ k, k < 56 → parseFieldDescriptor (TX12 k).2.2.1 = some (tyX12 k) := by decide +kernel
abbrev cX12_init : ByteArray := prog_14_method_1_code
def yX12_init : MethodName := ⟨RX12, "<init>", "()V"⟩
abbrev cX12_in : ByteArray := prog_14_method_3_code
def yX12_in : MethodName := ⟨RX12, "in", "(III)Z"⟩
abbrev cX12_has : ByteArray := prog_14_method_4_code
def yX12_has : MethodName := ⟨RX12, "has", "(II)Z"⟩
abbrev cX12_lost : ByteArray := prog_14_method_5_code
def yX12_lost : MethodName := ⟨RX12, "lost", "()I"⟩
abbrev cX12_tell : ByteArray := prog_14_method_6_code
def yX12_tell : MethodName := ⟨RX12, "tell", "(I)V"⟩
abbrev cX12_isRoom : ByteArray := prog_14_method_7_code
def yX12_isRoom : MethodName := ⟨RX12, "isRoom", "(I)Z"⟩
abbrev cX12_isThing : ByteArray := prog_14_method_8_code
def yX12_isThing : MethodName := ⟨RX12, "isThing", "(I)Z"⟩
abbrev cX12_sign : ByteArray := prog_14_method_9_code
def yX12_sign : MethodName := ⟨RX12, "sign", "(I)I"⟩
abbrev cX12_end : ByteArray := prog_14_method_10_code
def yX12_end : MethodName := ⟨RX12, "end", "(I)Z"⟩
abbrev cX12_begin : ByteArray := prog_14_method_11_code
def yX12_begin : MethodName := ⟨RX12, "begin", "([BII)V"⟩
abbrev cX12_here : ByteArray := prog_14_method_12_code
def yX12_here : MethodName := ⟨RX12, "here", "()I"⟩
abbrev cX12_fine : ByteArray := prog_14_method_13_code
def yX12_fine : MethodName := ⟨RX12, "fine", "()Z"⟩
abbrev cX12_fault : ByteArray := prog_14_method_14_code
def yX12_fault : MethodName := ⟨RX12, "fault", "(I)V"⟩
abbrev cX12_passes : ByteArray := prog_14_method_15_code
def yX12_passes : MethodName := ⟨RX12, "passes", "(C)Z"⟩
abbrev cX12_need : ByteArray := prog_14_method_16_code
def yX12_need : MethodName := ⟨RX12, "need", "(C)V"⟩
abbrev cX12_number : ByteArray := prog_14_method_17_code
def yX12_number : MethodName := ⟨RX12, "number", "(III)I"⟩
abbrev cX12_house : ByteArray := prog_14_method_18_code
def yX12_house : MethodName := ⟨RX12, "house", "()I"⟩
abbrev cX12_put : ByteArray := prog_14_method_19_code
def yX12_put : MethodName := ⟨RX12, "put", "(III)V"⟩
abbrev cX12_readThing : ByteArray := prog_14_method_20_code
def yX12_readThing : MethodName := ⟨RX12, "readThing", "(II)V"⟩
abbrev cX12_readSet : ByteArray := prog_14_method_21_code
def yX12_readSet : MethodName := ⟨RX12, "readSet", "(II)V"⟩
abbrev cX12_held : ByteArray := prog_14_method_22_code
def yX12_held : MethodName := ⟨RX12, "held", "(I)I"⟩
abbrev cX12_sum : ByteArray := prog_14_method_23_code
def yX12_sum : MethodName := ⟨RX12, "sum", "(I)I"⟩
abbrev cX12_product : ByteArray := prog_14_method_24_code
def yX12_product : MethodName := ⟨RX12, "product", "(I)I"⟩
abbrev cX12_factor : ByteArray := prog_14_method_25_code
def yX12_factor : MethodName := ⟨RX12, "factor", "(I)I"⟩
abbrev cX12_letter : ByteArray := prog_14_method_26_code
def yX12_letter : MethodName := ⟨RX12, "letter", "(III)I"⟩
abbrev cX12_rule : ByteArray := prog_14_method_27_code
def yX12_rule : MethodName := ⟨RX12, "rule", "()I"⟩
abbrev cX12_worthOf : ByteArray := prog_14_method_28_code
def yX12_worthOf : MethodName := ⟨RX12, "worthOf", "(II)I"⟩
abbrev cX12_worthAll : ByteArray := prog_14_method_29_code
def yX12_worthAll : MethodName := ⟨RX12, "worthAll", "([I)I"⟩
abbrev cX12_setsOf : ByteArray := prog_14_method_30_code
def yX12_setsOf : MethodName := ⟨RX12, "setsOf", "(I)I"⟩
abbrev cX12_besides : ByteArray := prog_14_method_31_code
def yX12_besides : MethodName := ⟨RX12, "besides", "(I)I"⟩
abbrev cX12_freeIn : ByteArray := prog_14_method_32_code
def yX12_freeIn : MethodName := ⟨RX12, "freeIn", "([II)I"⟩
abbrev cX12_room : ByteArray := prog_14_method_33_code
def yX12_room : MethodName := ⟨RX12, "room", "(II)I"⟩
abbrev cX12_findClumps : ByteArray := prog_14_method_34_code
def yX12_findClumps : MethodName := ⟨RX12, "findClumps", "(II)V"⟩
abbrev cX12_thing : ByteArray := prog_14_method_35_code
def yX12_thing : MethodName := ⟨RX12, "thing", "(II)I"⟩
abbrev cX12_set : ByteArray := prog_14_method_36_code
def yX12_set : MethodName := ⟨RX12, "set", "(I)I"⟩
abbrev cX12_door : ByteArray := prog_14_method_37_code
def yX12_door : MethodName := ⟨RX12, "door", "(II)I"⟩
abbrev cX12_widen : ByteArray := prog_14_method_38_code
def yX12_widen : MethodName := ⟨RX12, "widen", "(III)I"⟩
abbrev cX12_strength : ByteArray := prog_14_method_39_code
def yX12_strength : MethodName := ⟨RX12, "strength", "(I)I"⟩
abbrev cX12_sheet : ByteArray := prog_14_method_40_code
def yX12_sheet : MethodName := ⟨RX12, "sheet", "(IIII)I"⟩
abbrev cX12_findFar : ByteArray := prog_14_method_41_code
def yX12_findFar : MethodName := ⟨RX12, "findFar", "(II)V"⟩
abbrev cX12_steps : ByteArray := prog_14_method_42_code
def yX12_steps : MethodName := ⟨RX12, "steps", "(III)I"⟩
abbrev cX12_costOf : ByteArray := prog_14_method_43_code
def yX12_costOf : MethodName := ⟨RX12, "costOf", "([II[II)I"⟩
abbrev cX12_partedSets : ByteArray := prog_14_method_44_code
def yX12_partedSets : MethodName := ⟨RX12, "partedSets", "([I)I"⟩
abbrev cX12_fullRooms : ByteArray := prog_14_method_45_code
def yX12_fullRooms : MethodName := ⟨RX12, "fullRooms", "([I)I"⟩
abbrev cX12_isLawful : ByteArray := prog_14_method_46_code
def yX12_isLawful : MethodName := ⟨RX12, "isLawful", "([I)Z"⟩
abbrev cX12_refusal : ByteArray := prog_14_method_47_code
def yX12_refusal : MethodName := ⟨RX12, "refusal", "(II)I"⟩
abbrev cX12_carries : ByteArray := prog_14_method_48_code
def yX12_carries : MethodName := ⟨RX12, "carries", "(II)I"⟩
abbrev cX12_remember : ByteArray := prog_14_method_49_code
def yX12_remember : MethodName := ⟨RX12, "remember", "(I)V"⟩
abbrev cX12_carry : ByteArray := prog_14_method_50_code
def yX12_carry : MethodName := ⟨RX12, "carry", "(II)I"⟩
abbrev cX12_goEvening : ByteArray := prog_14_method_51_code
def yX12_goEvening : MethodName := ⟨RX12, "goEvening", "()Z"⟩
abbrev cX12_evening : ByteArray := prog_14_method_52_code
def yX12_evening : MethodName := ⟨RX12, "evening", "()I"⟩
abbrev cX12_day : ByteArray := prog_14_method_53_code
def yX12_day : MethodName := ⟨RX12, "day", "()I"⟩
abbrev cX12_undo : ByteArray := prog_14_method_54_code
def yX12_undo : MethodName := ⟨RX12, "undo", "()I"⟩
abbrev cX12_judge : ByteArray := prog_14_method_55_code
def yX12_judge : MethodName := ⟨RX12, "judge", "(II)I"⟩
abbrev cX12_clumps : ByteArray := prog_14_method_56_code
def yX12_clumps : MethodName := ⟨RX12, "clumps", "()I"⟩
abbrev cX12_bulkOf : ByteArray := prog_14_method_57_code
def yX12_bulkOf : MethodName := ⟨RX12, "bulkOf", "(I)I"⟩
abbrev cX12_heaviest : ByteArray := prog_14_method_58_code
def yX12_heaviest : MethodName := ⟨RX12, "heaviest", "()I"⟩
abbrev cX12_without : ByteArray := prog_14_method_59_code
def yX12_without : MethodName := ⟨RX12, "without", "(I)I"⟩
abbrev cX12_breaks : ByteArray := prog_14_method_60_code
def yX12_breaks : MethodName := ⟨RX12, "breaks", "(I)I"⟩
abbrev cX12_ties : ByteArray := prog_14_method_61_code
def yX12_ties : MethodName := ⟨RX12, "ties", "()I"⟩
abbrev cX12_isTooMuch : ByteArray := prog_14_method_62_code
def yX12_isTooMuch : MethodName := ⟨RX12, "isTooMuch", "()Z"⟩
abbrev cX12_beginRows : ByteArray := prog_14_method_63_code
def yX12_beginRows : MethodName := ⟨RX12, "beginRows", "()V"⟩
abbrev cX12_nextRow : ByteArray := prog_14_method_64_code
def yX12_nextRow : MethodName := ⟨RX12, "nextRow", "()Z"⟩
abbrev cX12_isFine : ByteArray := prog_14_method_65_code
def yX12_isFine : MethodName := ⟨RX12, "isFine", "()Z"⟩
abbrev cX12_tellRow : ByteArray := prog_14_method_66_code
def yX12_tellRow : MethodName := ⟨RX12, "tellRow", "([I)V"⟩
abbrev cX12_take : ByteArray := prog_14_method_67_code
def yX12_take : MethodName := ⟨RX12, "take", "()V"⟩
abbrev cX12_fits : ByteArray := prog_14_method_68_code
def yX12_fits : MethodName := ⟨RX12, "fits", "()I"⟩
abbrev cX12_worth : ByteArray := prog_14_method_69_code
def yX12_worth : MethodName := ⟨RX12, "worth", "()I"⟩
abbrev cX12_best : ByteArray := prog_14_method_70_code
def yX12_best : MethodName := ⟨RX12, "best", "()I"⟩
abbrev cX12_nearest : ByteArray := prog_14_method_71_code
def yX12_nearest : MethodName := ⟨RX12, "nearest", "(II)I"⟩
abbrev cX12_near : ByteArray := prog_14_method_72_code
def yX12_near : MethodName := ⟨RX12, "near", "()I"⟩
abbrev cX12_guest : ByteArray := prog_14_method_73_code
def yX12_guest : MethodName := ⟨RX12, "guest", "(II)I"⟩
abbrev cX12_space : ByteArray := prog_14_method_74_code
def yX12_space : MethodName := ⟨RX12, "space", "()I"⟩
abbrev cX12_could : ByteArray := prog_14_method_75_code
def yX12_could : MethodName := ⟨RX12, "could", "(II)I"⟩
abbrev cX12_may : ByteArray := prog_14_method_76_code
def yX12_may : MethodName := ⟨RX12, "may", "(I)I"⟩
abbrev cX12_together : ByteArray := prog_14_method_77_code
def yX12_together : MethodName := ⟨RX12, "together", "(II)I"⟩
abbrev cX12_fullest : ByteArray := prog_14_method_78_code
def yX12_fullest : MethodName := ⟨RX12, "fullest", "(I)I"⟩
abbrev cX12_swap : ByteArray := prog_14_method_79_code
def yX12_swap : MethodName := ⟨RX12, "swap", "(II)I"⟩
abbrev cX12_sell : ByteArray := prog_14_method_80_code
def yX12_sell : MethodName := ⟨RX12, "sell", "()I"⟩
abbrev cX12_isLess : ByteArray := prog_14_method_81_code
def yX12_isLess : MethodName := ⟨RX12, "isLess", "(II)Z"⟩
abbrev cX12_build : ByteArray := prog_14_method_82_code
def yX12_build : MethodName := ⟨RX12, "build", "()I"⟩
abbrev cX12_isEnough : ByteArray := prog_14_method_83_code
def yX12_isEnough : MethodName := ⟨RX12, "isEnough", "(II)Z"⟩
abbrev cX12_way : ByteArray := prog_14_method_84_code
def yX12_way : MethodName := ⟨RX12, "way", "(II)I"⟩
abbrev cX12_widest : ByteArray := prog_14_method_85_code
def yX12_widest : MethodName := ⟨RX12, "widest", "(II)I"⟩
abbrev cX12_stuck : ByteArray := prog_14_method_86_code
def yX12_stuck : MethodName := ⟨RX12, "stuck", "()I"⟩
abbrev cX12_comeTo : ByteArray := prog_14_method_87_code
def yX12_comeTo : MethodName := ⟨RX12, "comeTo", "(I)I"⟩
abbrev cX12_hinge : ByteArray := prog_14_method_88_code
def yX12_hinge : MethodName := ⟨RX12, "hinge", "(I)I"⟩
abbrev cX12_aim : ByteArray := prog_14_method_89_code
def yX12_aim : MethodName := ⟨RX12, "aim", "()I"⟩
abbrev cX12_hasAim : ByteArray := prog_14_method_90_code
def yX12_hasAim : MethodName := ⟨RX12, "hasAim", "()Z"⟩
abbrev cX12_apart : ByteArray := prog_14_method_91_code
def yX12_apart : MethodName := ⟨RX12, "apart", "()I"⟩
abbrev cX12_isLawfulWith : ByteArray := prog_14_method_92_code
def yX12_isLawfulWith : MethodName := ⟨RX12, "isLawfulWith", "(I)Z"⟩
abbrev cX12_queue : ByteArray := prog_14_method_93_code
def yX12_queue : MethodName := ⟨RX12, "queue", "()I"⟩
abbrev cX12_findAims : ByteArray := prog_14_method_94_code
def yX12_findAims : MethodName := ⟨RX12, "findAims", "()Z"⟩
abbrev cX12_isThere : ByteArray := prog_14_method_95_code
def yX12_isThere : MethodName := ⟨RX12, "isThere", "()Z"⟩
abbrev cX12_findEvenings : ByteArray := prog_14_method_96_code
def yX12_findEvenings : MethodName := ⟨RX12, "findEvenings", "(I)V"⟩
abbrev cX12_evenings : ByteArray := prog_14_method_97_code
def yX12_evenings : MethodName := ⟨RX12, "evenings", "()I"⟩
abbrev cX12_weakest : ByteArray := prog_14_method_98_code
def yX12_weakest : MethodName := ⟨RX12, "weakest", "()I"⟩
abbrev cX12_isCost : ByteArray := prog_14_method_99_code
def yX12_isCost : MethodName := ⟨RX12, "isCost", "(I)Z"⟩
abbrev cX12_keep : ByteArray := prog_14_method_100_code
def yX12_keep : MethodName := ⟨RX12, "keep", "(I)Z"⟩
abbrev cX12_again : ByteArray := prog_14_method_101_code
def yX12_again : MethodName := ⟨RX12, "again", "(I)Z"⟩
abbrev cX12_count : ByteArray := prog_14_method_102_code
def yX12_count : MethodName := ⟨RX12, "count", "(I)I"⟩
abbrev cX12_row : ByteArray := prog_14_method_103_code
def yX12_row : MethodName := ⟨RX12, "row", "(I)I"⟩
def RJ6 : String := "java/lang/Integer"
abbrev cJ6_numberOfTrailingZeros_0f7a4 : ByteArray := prog_20_method_48_code
def yJ6_numberOfTrailingZeros_0f7a4 : MethodName := ⟨RJ6, "numberOfTrailingZeros", "(I)I"⟩
abbrev cJ6_bitCount_0f7a4 : ByteArray := prog_20_method_49_code
def yJ6_bitCount_0f7a4 : MethodName := ⟨RJ6, "bitCount", "(I)I"⟩
def RJ0 : String := "java/lang/String"
abbrev cJ0_length_8abf5 : ByteArray := prog_23_method_54_code
def yJ0_length_8abf5 : MethodName := ⟨RJ0, "length", "()I"⟩
abbrev cJ0_indexOf_0f7a4 : ByteArray := prog_23_method_79_code
def yJ0_indexOf_0f7a4 : MethodName := ⟨RJ0, "indexOf", "(I)I"⟩
abbrev cJ0_indexOf_7cf53 : ByteArray := prog_23_method_80_code
def yJ0_indexOf_7cf53 : MethodName := ⟨RJ0, "indexOf", "(II)I"⟩
abbrev cJ0_coder_7d493 : ByteArray := prog_23_method_152_code
def yJ0_coder_7d493 : MethodName := ⟨RJ0, "coder", "()B"⟩
abbrev cJ0_isLatin1_aae02 : ByteArray := prog_23_method_154_code
def yJ0_isLatin1_aae02 : MethodName := ⟨RJ0, "isLatin1", "()Z"⟩
def RJ1 : String := "java/lang/StringLatin1"
abbrev cJ1_canEncode_9a6ad : ByteArray := prog_24_method_4_code
def yJ1_canEncode_9a6ad : MethodName := ⟨RJ1, "canEncode", "(I)Z"⟩
abbrev cJ1_indexOf_4cfef : ByteArray := prog_24_method_22_code
def yJ1_indexOf_4cfef : MethodName := ⟨RJ1, "indexOf", "([BIII)I"⟩
abbrev cJ1_indexOfChar_4cfef : ByteArray := prog_24_method_23_code
def yJ1_indexOfChar_4cfef : MethodName := ⟨RJ1, "indexOfChar", "([BIII)I"⟩
def RL : String := "SetsStayTogetherLaw"
abbrev cL_room : ByteArray := method_3_code
def yL_room : MethodName := ⟨RL, "room", "(LSetsStayTogether;II[J)I"⟩
abbrev cL_thing : ByteArray := method_4_code
def yL_thing : MethodName := ⟨RL, "thing", "(LSetsStayTogether;II[J)I"⟩
abbrev cL_row : ByteArray := method_5_code
def yL_row : MethodName := ⟨RL, "row", "(LSetsStayTogether;I[J)I"⟩
end
