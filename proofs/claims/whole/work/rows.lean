section
-- ===== PART A: goes FIRST, ahead of the names: the tables' words, and 'selects' of the private methods out of them =====
/-- a private method of a class that the tables say can be made, by its rows of tables_1 -/
def lw_okq (q : MethodName × Nat) : Prop := (q.1.cls ≠ "java/lang/invoke/MethodHandle" ∧ q.1.cls ≠ "java/lang/invoke/VarHandle") ∧ Cond.instantiable q.1.cls q.2 ∈ tables_1 ∧ Cond.privateMethod q.1 ∈ tables_1 ∧ Cond.instanceMethod q.1 ∈ tables_1
theorem lw_p0 : lw_okq (⟨"FoundLast", "refuseBad", "()I"⟩, 17) := ⟨⟨by decide +kernel, by decide +kernel⟩, List.mem_of_getElem? (i := 18) (by decide +kernel), List.mem_of_getElem? (i := 321) (by decide +kernel), List.mem_of_getElem? (i := 322) (by decide +kernel)⟩
theorem lw_p1 : lw_okq (⟨"FoundLast", "refuseFull", "()I"⟩, 17) := ⟨⟨by decide +kernel, by decide +kernel⟩, List.mem_of_getElem? (i := 18) (by decide +kernel), List.mem_of_getElem? (i := 349) (by decide +kernel), List.mem_of_getElem? (i := 350) (by decide +kernel)⟩
theorem lw_p2 : lw_okq (⟨"FoundLast$TextReader", "advance", "()V"⟩, 8) := ⟨⟨by decide +kernel, by decide +kernel⟩, List.mem_of_getElem? (i := 230) (by decide +kernel), List.mem_of_getElem? (i := 392) (by decide +kernel), List.mem_of_getElem? (i := 393) (by decide +kernel)⟩
theorem lw_p3 : lw_okq (⟨"FoundLast$TextReader", "goesOn", "()Z"⟩, 8) := ⟨⟨by decide +kernel, by decide +kernel⟩, List.mem_of_getElem? (i := 230) (by decide +kernel), List.mem_of_getElem? (i := 402) (by decide +kernel), List.mem_of_getElem? (i := 403) (by decide +kernel)⟩
theorem lw_p4 : lw_okq (⟨"FoundLast$TextReader", "takeItem", "(LFoundLast$House;)V"⟩, 8) := ⟨⟨by decide +kernel, by decide +kernel⟩, List.mem_of_getElem? (i := 230) (by decide +kernel), List.mem_of_getElem? (i := 406) (by decide +kernel), List.mem_of_getElem? (i := 407) (by decide +kernel)⟩
theorem lw_p5 : lw_okq (⟨"FoundLast$TextReader", "takeHouse", "(LFoundLast$House;)V"⟩, 8) := ⟨⟨by decide +kernel, by decide +kernel⟩, List.mem_of_getElem? (i := 230) (by decide +kernel), List.mem_of_getElem? (i := 410) (by decide +kernel), List.mem_of_getElem? (i := 411) (by decide +kernel)⟩
theorem lw_p6 : lw_okq (⟨"FoundLast$TextReader", "isWord", "(Ljava/lang/String;)Z"⟩, 8) := ⟨⟨by decide +kernel, by decide +kernel⟩, List.mem_of_getElem? (i := 230) (by decide +kernel), List.mem_of_getElem? (i := 415) (by decide +kernel), List.mem_of_getElem? (i := 416) (by decide +kernel)⟩
theorem lw_p7 : lw_okq (⟨"FoundLast$TextReader", "number", "(II)I"⟩, 8) := ⟨⟨by decide +kernel, by decide +kernel⟩, List.mem_of_getElem? (i := 230) (by decide +kernel), List.mem_of_getElem? (i := 467) (by decide +kernel), List.mem_of_getElem? (i := 468) (by decide +kernel)⟩
theorem lw_p8 : lw_okq (⟨"FoundLast$TextReader", "takeRoom", "(LFoundLast$House;)V"⟩, 8) := ⟨⟨by decide +kernel, by decide +kernel⟩, List.mem_of_getElem? (i := 230) (by decide +kernel), List.mem_of_getElem? (i := 474) (by decide +kernel), List.mem_of_getElem? (i := 475) (by decide +kernel)⟩
theorem lw_p9 : lw_okq (⟨"FoundLast$TextReader", "takeDoor", "(LFoundLast$House;)V"⟩, 8) := ⟨⟨by decide +kernel, by decide +kernel⟩, List.mem_of_getElem? (i := 230) (by decide +kernel), List.mem_of_getElem? (i := 479) (by decide +kernel), List.mem_of_getElem? (i := 480) (by decide +kernel)⟩
theorem lw_p10 : lw_okq (⟨"FoundLast$TextReader", "takeList", "(LFoundLast$House;)V"⟩, 8) := ⟨⟨by decide +kernel, by decide +kernel⟩, List.mem_of_getElem? (i := 230) (by decide +kernel), List.mem_of_getElem? (i := 485) (by decide +kernel), List.mem_of_getElem? (i := 486) (by decide +kernel)⟩
theorem lw_p11 : lw_okq (⟨"FoundLast$TextReader", "takeHeir", "(LFoundLast$House;)V"⟩, 8) := ⟨⟨by decide +kernel, by decide +kernel⟩, List.mem_of_getElem? (i := 230) (by decide +kernel), List.mem_of_getElem? (i := 490) (by decide +kernel), List.mem_of_getElem? (i := 491) (by decide +kernel)⟩
theorem lw_p12 : lw_okq (⟨"FoundLast$TextReader", "takeStop", "()V"⟩, 8) := ⟨⟨by decide +kernel, by decide +kernel⟩, List.mem_of_getElem? (i := 230) (by decide +kernel), List.mem_of_getElem? (i := 495) (by decide +kernel), List.mem_of_getElem? (i := 496) (by decide +kernel)⟩
theorem lw_p13 : lw_okq (⟨"FoundLast", "isHeir", "(I)Z"⟩, 17) := ⟨⟨by decide +kernel, by decide +kernel⟩, List.mem_of_getElem? (i := 18) (by decide +kernel), List.mem_of_getElem? (i := 515) (by decide +kernel), List.mem_of_getElem? (i := 516) (by decide +kernel)⟩
theorem lw_p14 : lw_okq (⟨"FoundLast", "refuseNo", "()I"⟩, 17) := ⟨⟨by decide +kernel, by decide +kernel⟩, List.mem_of_getElem? (i := 18) (by decide +kernel), List.mem_of_getElem? (i := 519) (by decide +kernel), List.mem_of_getElem? (i := 520) (by decide +kernel)⟩
theorem lw_p15 : lw_okq (⟨"FoundLast$Past", "dropOldest", "()V"⟩, 2) := ⟨⟨by decide +kernel, by decide +kernel⟩, List.mem_of_getElem? (i := 148) (by decide +kernel), List.mem_of_getElem? (i := 527) (by decide +kernel), List.mem_of_getElem? (i := 528) (by decide +kernel)⟩
def lw_privs_1 : List (MethodName × Nat) := [(⟨"FoundLast", "refuseBad", "()I"⟩, 17), (⟨"FoundLast", "refuseFull", "()I"⟩, 17), (⟨"FoundLast$TextReader", "advance", "()V"⟩, 8), (⟨"FoundLast$TextReader", "goesOn", "()Z"⟩, 8), (⟨"FoundLast$TextReader", "takeItem", "(LFoundLast$House;)V"⟩, 8), (⟨"FoundLast$TextReader", "takeHouse", "(LFoundLast$House;)V"⟩, 8), (⟨"FoundLast$TextReader", "isWord", "(Ljava/lang/String;)Z"⟩, 8), (⟨"FoundLast$TextReader", "number", "(II)I"⟩, 8), (⟨"FoundLast$TextReader", "takeRoom", "(LFoundLast$House;)V"⟩, 8), (⟨"FoundLast$TextReader", "takeDoor", "(LFoundLast$House;)V"⟩, 8), (⟨"FoundLast$TextReader", "takeList", "(LFoundLast$House;)V"⟩, 8), (⟨"FoundLast$TextReader", "takeHeir", "(LFoundLast$House;)V"⟩, 8), (⟨"FoundLast$TextReader", "takeStop", "()V"⟩, 8), (⟨"FoundLast", "isHeir", "(I)Z"⟩, 17), (⟨"FoundLast", "refuseNo", "()I"⟩, 17), (⟨"FoundLast$Past", "dropOldest", "()V"⟩, 2)]
theorem lw_r1 : ∀ q ∈ lw_privs_1, lw_okq q := List.forall_mem_cons.mpr ⟨lw_p0, List.forall_mem_cons.mpr ⟨lw_p1, List.forall_mem_cons.mpr ⟨lw_p2, List.forall_mem_cons.mpr ⟨lw_p3, List.forall_mem_cons.mpr ⟨lw_p4, List.forall_mem_cons.mpr ⟨lw_p5, List.forall_mem_cons.mpr ⟨lw_p6, List.forall_mem_cons.mpr ⟨lw_p7, List.forall_mem_cons.mpr ⟨lw_p8, List.forall_mem_cons.mpr ⟨lw_p9, List.forall_mem_cons.mpr ⟨lw_p10, List.forall_mem_cons.mpr ⟨lw_p11, List.forall_mem_cons.mpr ⟨lw_p12, List.forall_mem_cons.mpr ⟨lw_p13, List.forall_mem_cons.mpr ⟨lw_p14, List.forall_mem_cons.mpr ⟨lw_p15, fun _ h => absurd h List.not_mem_nil⟩⟩⟩⟩⟩⟩⟩⟩⟩⟩⟩⟩⟩⟩⟩⟩
theorem lw_p16 : lw_okq (⟨"FoundLast$House", "hasCompany", "(LFoundLast$Scene;I)Z"⟩, 14) := ⟨⟨by decide +kernel, by decide +kernel⟩, List.mem_of_getElem? (i := 26) (by decide +kernel), List.mem_of_getElem? (i := 556) (by decide +kernel), List.mem_of_getElem? (i := 557) (by decide +kernel)⟩
theorem lw_p17 : lw_okq (⟨"FoundLast$Scene", "leave", "(II)V"⟩, 6) := ⟨⟨by decide +kernel, by decide +kernel⟩, List.mem_of_getElem? (i := 32) (by decide +kernel), List.mem_of_getElem? (i := 576) (by decide +kernel), List.mem_of_getElem? (i := 577) (by decide +kernel)⟩
theorem lw_p18 : lw_okq (⟨"FoundLast", "isIn", "(I)Z"⟩, 17) := ⟨⟨by decide +kernel, by decide +kernel⟩, List.mem_of_getElem? (i := 18) (by decide +kernel), List.mem_of_getElem? (i := 627) (by decide +kernel), List.mem_of_getElem? (i := 628) (by decide +kernel)⟩
theorem lw_p19 : lw_okq (⟨"FoundLast$Forecast", "runUntilNoMoreIn", "(LFoundLast$House;II)V"⟩, 2) := ⟨⟨by decide +kernel, by decide +kernel⟩, List.mem_of_getElem? (i := 167) (by decide +kernel), List.mem_of_getElem? (i := 636) (by decide +kernel), List.mem_of_getElem? (i := 637) (by decide +kernel)⟩
theorem lw_p20 : lw_okq (⟨"FoundLast$Forecast", "foundNight", "(I)I"⟩, 2) := ⟨⟨by decide +kernel, by decide +kernel⟩, List.mem_of_getElem? (i := 167) (by decide +kernel), List.mem_of_getElem? (i := 640) (by decide +kernel), List.mem_of_getElem? (i := 641) (by decide +kernel)⟩
theorem lw_p21 : lw_okq (⟨"FoundLast$WayFinder", "spread", "(LFoundLast$House;Z)V"⟩, 5) := ⟨⟨by decide +kernel, by decide +kernel⟩, List.mem_of_getElem? (i := 184) (by decide +kernel), List.mem_of_getElem? (i := 661) (by decide +kernel), List.mem_of_getElem? (i := 662) (by decide +kernel)⟩
theorem lw_p22 : lw_okq (⟨"FoundLast$WayFinder", "spreadFrom", "(LFoundLast$House;II)V"⟩, 5) := ⟨⟨by decide +kernel, by decide +kernel⟩, List.mem_of_getElem? (i := 184) (by decide +kernel), List.mem_of_getElem? (i := 666) (by decide +kernel), List.mem_of_getElem? (i := 667) (by decide +kernel)⟩
theorem lw_p23 : lw_okq (⟨"FoundLast$WayFinder", "passNight", "(LFoundLast$House;I)V"⟩, 5) := ⟨⟨by decide +kernel, by decide +kernel⟩, List.mem_of_getElem? (i := 184) (by decide +kernel), List.mem_of_getElem? (i := 671) (by decide +kernel), List.mem_of_getElem? (i := 672) (by decide +kernel)⟩
theorem lw_p24 : lw_okq (⟨"FoundLast$Forecast", "begin", "(LFoundLast$House;II)V"⟩, 2) := ⟨⟨by decide +kernel, by decide +kernel⟩, List.mem_of_getElem? (i := 167) (by decide +kernel), List.mem_of_getElem? (i := 685) (by decide +kernel), List.mem_of_getElem? (i := 686) (by decide +kernel)⟩
theorem lw_p25 : lw_okq (⟨"FoundLast$Forecast", "goThroughLeastDoor", "(LFoundLast$House;I)V"⟩, 2) := ⟨⟨by decide +kernel, by decide +kernel⟩, List.mem_of_getElem? (i := 167) (by decide +kernel), List.mem_of_getElem? (i := 689) (by decide +kernel), List.mem_of_getElem? (i := 690) (by decide +kernel)⟩
theorem lw_p26 : lw_okq (⟨"FoundLast$Forecast", "leastHidden", "(LFoundLast$House;I)I"⟩, 2) := ⟨⟨by decide +kernel, by decide +kernel⟩, List.mem_of_getElem? (i := 167) (by decide +kernel), List.mem_of_getElem? (i := 710) (by decide +kernel), List.mem_of_getElem? (i := 711) (by decide +kernel)⟩
theorem lw_p27 : lw_okq (⟨"FoundLast$Walks", "extend", "(LFoundLast$House;I[J)V"⟩, 4) := ⟨⟨by decide +kernel, by decide +kernel⟩, List.mem_of_getElem? (i := 210) (by decide +kernel), List.mem_of_getElem? (i := 745) (by decide +kernel), List.mem_of_getElem? (i := 746) (by decide +kernel)⟩
theorem lw_p28 : lw_okq (⟨"FoundLast$Walks", "arriving", "(LFoundLast$House;I)J"⟩, 4) := ⟨⟨by decide +kernel, by decide +kernel⟩, List.mem_of_getElem? (i := 210) (by decide +kernel), List.mem_of_getElem? (i := 750) (by decide +kernel), List.mem_of_getElem? (i := 751) (by decide +kernel)⟩
theorem lw_p29 : lw_okq (⟨"FoundLast$Forecast", "moveBySeed", "(LFoundLast$House;J)J"⟩, 2) := ⟨⟨by decide +kernel, by decide +kernel⟩, List.mem_of_getElem? (i := 167) (by decide +kernel), List.mem_of_getElem? (i := 788) (by decide +kernel), List.mem_of_getElem? (i := 789) (by decide +kernel)⟩
theorem lw_p30 : lw_okq (⟨"FoundLast", "counted", "(I)I"⟩, 17) := ⟨⟨by decide +kernel, by decide +kernel⟩, List.mem_of_getElem? (i := 18) (by decide +kernel), List.mem_of_getElem? (i := 825) (by decide +kernel), List.mem_of_getElem? (i := 826) (by decide +kernel)⟩
theorem lw_p31 : lw_okq (⟨"FoundLastModel", "bad", "(I)I"⟩, 27) := ⟨⟨by decide +kernel, by decide +kernel⟩, List.mem_of_getElem? (i := 850) (by decide +kernel), List.mem_of_getElem? (i := 949) (by decide +kernel), List.mem_of_getElem? (i := 950) (by decide +kernel)⟩
def lw_privs_2 : List (MethodName × Nat) := [(⟨"FoundLast$House", "hasCompany", "(LFoundLast$Scene;I)Z"⟩, 14), (⟨"FoundLast$Scene", "leave", "(II)V"⟩, 6), (⟨"FoundLast", "isIn", "(I)Z"⟩, 17), (⟨"FoundLast$Forecast", "runUntilNoMoreIn", "(LFoundLast$House;II)V"⟩, 2), (⟨"FoundLast$Forecast", "foundNight", "(I)I"⟩, 2), (⟨"FoundLast$WayFinder", "spread", "(LFoundLast$House;Z)V"⟩, 5), (⟨"FoundLast$WayFinder", "spreadFrom", "(LFoundLast$House;II)V"⟩, 5), (⟨"FoundLast$WayFinder", "passNight", "(LFoundLast$House;I)V"⟩, 5), (⟨"FoundLast$Forecast", "begin", "(LFoundLast$House;II)V"⟩, 2), (⟨"FoundLast$Forecast", "goThroughLeastDoor", "(LFoundLast$House;I)V"⟩, 2), (⟨"FoundLast$Forecast", "leastHidden", "(LFoundLast$House;I)I"⟩, 2), (⟨"FoundLast$Walks", "extend", "(LFoundLast$House;I[J)V"⟩, 4), (⟨"FoundLast$Walks", "arriving", "(LFoundLast$House;I)J"⟩, 4), (⟨"FoundLast$Forecast", "moveBySeed", "(LFoundLast$House;J)J"⟩, 2), (⟨"FoundLast", "counted", "(I)I"⟩, 17), (⟨"FoundLastModel", "bad", "(I)I"⟩, 27)]
theorem lw_r2 : ∀ q ∈ lw_privs_2, lw_okq q := List.forall_mem_cons.mpr ⟨lw_p16, List.forall_mem_cons.mpr ⟨lw_p17, List.forall_mem_cons.mpr ⟨lw_p18, List.forall_mem_cons.mpr ⟨lw_p19, List.forall_mem_cons.mpr ⟨lw_p20, List.forall_mem_cons.mpr ⟨lw_p21, List.forall_mem_cons.mpr ⟨lw_p22, List.forall_mem_cons.mpr ⟨lw_p23, List.forall_mem_cons.mpr ⟨lw_p24, List.forall_mem_cons.mpr ⟨lw_p25, List.forall_mem_cons.mpr ⟨lw_p26, List.forall_mem_cons.mpr ⟨lw_p27, List.forall_mem_cons.mpr ⟨lw_p28, List.forall_mem_cons.mpr ⟨lw_p29, List.forall_mem_cons.mpr ⟨lw_p30, List.forall_mem_cons.mpr ⟨lw_p31, fun _ h => absurd h List.not_mem_nil⟩⟩⟩⟩⟩⟩⟩⟩⟩⟩⟩⟩⟩⟩⟩⟩
theorem lw_p32 : lw_okq (⟨"FoundLastModel", "heirs", "()I"⟩, 27) := ⟨⟨by decide +kernel, by decide +kernel⟩, List.mem_of_getElem? (i := 850) (by decide +kernel), List.mem_of_getElem? (i := 953) (by decide +kernel), List.mem_of_getElem? (i := 954) (by decide +kernel)⟩
theorem lw_p33 : lw_okq (⟨"FoundLastModel", "creaks", "(II)I"⟩, 27) := ⟨⟨by decide +kernel, by decide +kernel⟩, List.mem_of_getElem? (i := 850) (by decide +kernel), List.mem_of_getElem? (i := 970) (by decide +kernel), List.mem_of_getElem? (i := 971) (by decide +kernel)⟩
theorem lw_p34 : lw_okq (⟨"FoundLastModel", "full", "()I"⟩, 27) := ⟨⟨by decide +kernel, by decide +kernel⟩, List.mem_of_getElem? (i := 850) (by decide +kernel), List.mem_of_getElem? (i := 981) (by decide +kernel), List.mem_of_getElem? (i := 982) (by decide +kernel)⟩
theorem lw_p35 : lw_okq (⟨"FoundLastModel", "isHeir", "(I)Z"⟩, 27) := ⟨⟨by decide +kernel, by decide +kernel⟩, List.mem_of_getElem? (i := 850) (by decide +kernel), List.mem_of_getElem? (i := 1005) (by decide +kernel), List.mem_of_getElem? (i := 1006) (by decide +kernel)⟩
theorem lw_p36 : lw_okq (⟨"FoundLastModel", "get", "(II)I"⟩, 27) := ⟨⟨by decide +kernel, by decide +kernel⟩, List.mem_of_getElem? (i := 850) (by decide +kernel), List.mem_of_getElem? (i := 1009) (by decide +kernel), List.mem_of_getElem? (i := 1010) (by decide +kernel)⟩
theorem lw_p37 : lw_okq (⟨"FoundLastModel", "no", "()I"⟩, 27) := ⟨⟨by decide +kernel, by decide +kernel⟩, List.mem_of_getElem? (i := 850) (by decide +kernel), List.mem_of_getElem? (i := 1013) (by decide +kernel), List.mem_of_getElem? (i := 1014) (by decide +kernel)⟩
theorem lw_p38 : lw_okq (⟨"FoundLastModel", "keep", "()V"⟩, 27) := ⟨⟨by decide +kernel, by decide +kernel⟩, List.mem_of_getElem? (i := 850) (by decide +kernel), List.mem_of_getElem? (i := 1017) (by decide +kernel), List.mem_of_getElem? (i := 1018) (by decide +kernel)⟩
theorem lw_p39 : lw_okq (⟨"FoundLastModel", "set", "(III)V"⟩, 27) := ⟨⟨by decide +kernel, by decide +kernel⟩, List.mem_of_getElem? (i := 850) (by decide +kernel), List.mem_of_getElem? (i := 1021) (by decide +kernel), List.mem_of_getElem? (i := 1022) (by decide +kernel)⟩
theorem lw_p40 : lw_okq (⟨"FoundLastModel", "layHand", "()V"⟩, 27) := ⟨⟨by decide +kernel, by decide +kernel⟩, List.mem_of_getElem? (i := 850) (by decide +kernel), List.mem_of_getElem? (i := 1029) (by decide +kernel), List.mem_of_getElem? (i := 1030) (by decide +kernel)⟩
theorem lw_p41 : lw_okq (⟨"FoundLastModel", "goNight", "()I"⟩, 27) := ⟨⟨by decide +kernel, by decide +kernel⟩, List.mem_of_getElem? (i := 850) (by decide +kernel), List.mem_of_getElem? (i := 1033) (by decide +kernel), List.mem_of_getElem? (i := 1034) (by decide +kernel)⟩
theorem lw_p42 : lw_okq (⟨"FoundLastModel", "looksIn", "(I)I"⟩, 27) := ⟨⟨by decide +kernel, by decide +kernel⟩, List.mem_of_getElem? (i := 850) (by decide +kernel), List.mem_of_getElem? (i := 1037) (by decide +kernel), List.mem_of_getElem? (i := 1038) (by decide +kernel)⟩
theorem lw_p43 : lw_okq (⟨"FoundLastModel", "hiddenOf", "(I)I"⟩, 27) := ⟨⟨by decide +kernel, by decide +kernel⟩, List.mem_of_getElem? (i := 850) (by decide +kernel), List.mem_of_getElem? (i := 1041) (by decide +kernel), List.mem_of_getElem? (i := 1042) (by decide +kernel)⟩
theorem lw_p44 : lw_okq (⟨"FoundLastModel", "isOther", "(I)Z"⟩, 27) := ⟨⟨by decide +kernel, by decide +kernel⟩, List.mem_of_getElem? (i := 850) (by decide +kernel), List.mem_of_getElem? (i := 1051) (by decide +kernel), List.mem_of_getElem? (i := 1052) (by decide +kernel)⟩
theorem lw_p45 : lw_okq (⟨"FoundLastModel", "goTill", "()I"⟩, 27) := ⟨⟨by decide +kernel, by decide +kernel⟩, List.mem_of_getElem? (i := 850) (by decide +kernel), List.mem_of_getElem? (i := 1078) (by decide +kernel), List.mem_of_getElem? (i := 1079) (by decide +kernel)⟩
theorem lw_p46 : lw_okq (⟨"FoundLastModel", "foundIn", "(I)I"⟩, 27) := ⟨⟨by decide +kernel, by decide +kernel⟩, List.mem_of_getElem? (i := 850) (by decide +kernel), List.mem_of_getElem? (i := 1091) (by decide +kernel), List.mem_of_getElem? (i := 1092) (by decide +kernel)⟩
theorem lw_p47 : lw_okq (⟨"FoundLastModel", "moveAll", "()V"⟩, 27) := ⟨⟨by decide +kernel, by decide +kernel⟩, List.mem_of_getElem? (i := 850) (by decide +kernel), List.mem_of_getElem? (i := 1099) (by decide +kernel), List.mem_of_getElem? (i := 1100) (by decide +kernel)⟩
def lw_privs_3 : List (MethodName × Nat) := [(⟨"FoundLastModel", "heirs", "()I"⟩, 27), (⟨"FoundLastModel", "creaks", "(II)I"⟩, 27), (⟨"FoundLastModel", "full", "()I"⟩, 27), (⟨"FoundLastModel", "isHeir", "(I)Z"⟩, 27), (⟨"FoundLastModel", "get", "(II)I"⟩, 27), (⟨"FoundLastModel", "no", "()I"⟩, 27), (⟨"FoundLastModel", "keep", "()V"⟩, 27), (⟨"FoundLastModel", "set", "(III)V"⟩, 27), (⟨"FoundLastModel", "layHand", "()V"⟩, 27), (⟨"FoundLastModel", "goNight", "()I"⟩, 27), (⟨"FoundLastModel", "looksIn", "(I)I"⟩, 27), (⟨"FoundLastModel", "hiddenOf", "(I)I"⟩, 27), (⟨"FoundLastModel", "isOther", "(I)Z"⟩, 27), (⟨"FoundLastModel", "goTill", "()I"⟩, 27), (⟨"FoundLastModel", "foundIn", "(I)I"⟩, 27), (⟨"FoundLastModel", "moveAll", "()V"⟩, 27)]
theorem lw_r3 : ∀ q ∈ lw_privs_3, lw_okq q := List.forall_mem_cons.mpr ⟨lw_p32, List.forall_mem_cons.mpr ⟨lw_p33, List.forall_mem_cons.mpr ⟨lw_p34, List.forall_mem_cons.mpr ⟨lw_p35, List.forall_mem_cons.mpr ⟨lw_p36, List.forall_mem_cons.mpr ⟨lw_p37, List.forall_mem_cons.mpr ⟨lw_p38, List.forall_mem_cons.mpr ⟨lw_p39, List.forall_mem_cons.mpr ⟨lw_p40, List.forall_mem_cons.mpr ⟨lw_p41, List.forall_mem_cons.mpr ⟨lw_p42, List.forall_mem_cons.mpr ⟨lw_p43, List.forall_mem_cons.mpr ⟨lw_p44, List.forall_mem_cons.mpr ⟨lw_p45, List.forall_mem_cons.mpr ⟨lw_p46, List.forall_mem_cons.mpr ⟨lw_p47, fun _ h => absurd h List.not_mem_nil⟩⟩⟩⟩⟩⟩⟩⟩⟩⟩⟩⟩⟩⟩⟩⟩
theorem lw_p48 : lw_okq (⟨"FoundLastModel", "nightOfOne", "(II)I"⟩, 27) := ⟨⟨by decide +kernel, by decide +kernel⟩, List.mem_of_getElem? (i := 850) (by decide +kernel), List.mem_of_getElem? (i := 1103) (by decide +kernel), List.mem_of_getElem? (i := 1104) (by decide +kernel)⟩
theorem lw_p49 : lw_okq (⟨"FoundLastModel", "layHas", "(II)V"⟩, 27) := ⟨⟨by decide +kernel, by decide +kernel⟩, List.mem_of_getElem? (i := 850) (by decide +kernel), List.mem_of_getElem? (i := 1111) (by decide +kernel), List.mem_of_getElem? (i := 1112) (by decide +kernel)⟩
theorem lw_p50 : lw_okq (⟨"FoundLastModel", "goAside", "(I)V"⟩, 27) := ⟨⟨by decide +kernel, by decide +kernel⟩, List.mem_of_getElem? (i := 850) (by decide +kernel), List.mem_of_getElem? (i := 1115) (by decide +kernel), List.mem_of_getElem? (i := 1116) (by decide +kernel)⟩
theorem lw_p51 : lw_okq (⟨"FoundLastModel", "fraction", "(II)V"⟩, 27) := ⟨⟨by decide +kernel, by decide +kernel⟩, List.mem_of_getElem? (i := 850) (by decide +kernel), List.mem_of_getElem? (i := 1123) (by decide +kernel), List.mem_of_getElem? (i := 1124) (by decide +kernel)⟩
theorem lw_p52 : lw_okq (⟨"FoundLastModel", "layWays", "()V"⟩, 27) := ⟨⟨by decide +kernel, by decide +kernel⟩, List.mem_of_getElem? (i := 850) (by decide +kernel), List.mem_of_getElem? (i := 1140) (by decide +kernel), List.mem_of_getElem? (i := 1141) (by decide +kernel)⟩
theorem lw_p53 : lw_okq (⟨"FoundLastModel", "isStep", "(II)Z"⟩, 27) := ⟨⟨by decide +kernel, by decide +kernel⟩, List.mem_of_getElem? (i := 850) (by decide +kernel), List.mem_of_getElem? (i := 1144) (by decide +kernel), List.mem_of_getElem? (i := 1145) (by decide +kernel)⟩
theorem lw_p54 : lw_okq (⟨"FoundLastModel", "mayBe", "(II)Z"⟩, 27) := ⟨⟨by decide +kernel, by decide +kernel⟩, List.mem_of_getElem? (i := 850) (by decide +kernel), List.mem_of_getElem? (i := 1148) (by decide +kernel), List.mem_of_getElem? (i := 1149) (by decide +kernel)⟩
theorem lw_p55 : lw_okq (⟨"FoundLastModel", "waysBy", "(II)J"⟩, 27) := ⟨⟨by decide +kernel, by decide +kernel⟩, List.mem_of_getElem? (i := 850) (by decide +kernel), List.mem_of_getElem? (i := 1152) (by decide +kernel), List.mem_of_getElem? (i := 1153) (by decide +kernel)⟩
theorem lw_p56 : lw_okq (⟨"FoundLastModel", "allWays", "()J"⟩, 27) := ⟨⟨by decide +kernel, by decide +kernel⟩, List.mem_of_getElem? (i := 850) (by decide +kernel), List.mem_of_getElem? (i := 1160) (by decide +kernel), List.mem_of_getElem? (i := 1161) (by decide +kernel)⟩
theorem lw_p57 : lw_okq (⟨"FoundLastModel", "lookAt", "(I)V"⟩, 27) := ⟨⟨by decide +kernel, by decide +kernel⟩, List.mem_of_getElem? (i := 850) (by decide +kernel), List.mem_of_getElem? (i := 1192) (by decide +kernel), List.mem_of_getElem? (i := 1193) (by decide +kernel)⟩
theorem lw_p58 : lw_okq (⟨"FoundLastModel", "takesFirst", "()Z"⟩, 27) := ⟨⟨by decide +kernel, by decide +kernel⟩, List.mem_of_getElem? (i := 850) (by decide +kernel), List.mem_of_getElem? (i := 1206) (by decide +kernel), List.mem_of_getElem? (i := 1207) (by decide +kernel)⟩
theorem lw_p59 : lw_okq (⟨"FoundLastModel", "isWord", "(IIIIII)Z"⟩, 27) := ⟨⟨by decide +kernel, by decide +kernel⟩, List.mem_of_getElem? (i := 850) (by decide +kernel), List.mem_of_getElem? (i := 1210) (by decide +kernel), List.mem_of_getElem? (i := 1211) (by decide +kernel)⟩
theorem lw_p60 : lw_okq (⟨"FoundLastModel", "goBehind", "()V"⟩, 27) := ⟨⟨by decide +kernel, by decide +kernel⟩, List.mem_of_getElem? (i := 850) (by decide +kernel), List.mem_of_getElem? (i := 1214) (by decide +kernel), List.mem_of_getElem? (i := 1215) (by decide +kernel)⟩
theorem lw_p61 : lw_okq (⟨"FoundLastModel", "takes", "(III)Z"⟩, 27) := ⟨⟨by decide +kernel, by decide +kernel⟩, List.mem_of_getElem? (i := 850) (by decide +kernel), List.mem_of_getElem? (i := 1218) (by decide +kernel), List.mem_of_getElem? (i := 1219) (by decide +kernel)⟩
theorem lw_p62 : lw_okq (⟨"FoundLastModel", "takesItem", "()Z"⟩, 27) := ⟨⟨by decide +kernel, by decide +kernel⟩, List.mem_of_getElem? (i := 850) (by decide +kernel), List.mem_of_getElem? (i := 1222) (by decide +kernel), List.mem_of_getElem? (i := 1223) (by decide +kernel)⟩
theorem lw_p63 : lw_okq (⟨"FoundLastModel", "takesRoom", "()Z"⟩, 27) := ⟨⟨by decide +kernel, by decide +kernel⟩, List.mem_of_getElem? (i := 850) (by decide +kernel), List.mem_of_getElem? (i := 1226) (by decide +kernel), List.mem_of_getElem? (i := 1227) (by decide +kernel)⟩
def lw_privs_4 : List (MethodName × Nat) := [(⟨"FoundLastModel", "nightOfOne", "(II)I"⟩, 27), (⟨"FoundLastModel", "layHas", "(II)V"⟩, 27), (⟨"FoundLastModel", "goAside", "(I)V"⟩, 27), (⟨"FoundLastModel", "fraction", "(II)V"⟩, 27), (⟨"FoundLastModel", "layWays", "()V"⟩, 27), (⟨"FoundLastModel", "isStep", "(II)Z"⟩, 27), (⟨"FoundLastModel", "mayBe", "(II)Z"⟩, 27), (⟨"FoundLastModel", "waysBy", "(II)J"⟩, 27), (⟨"FoundLastModel", "allWays", "()J"⟩, 27), (⟨"FoundLastModel", "lookAt", "(I)V"⟩, 27), (⟨"FoundLastModel", "takesFirst", "()Z"⟩, 27), (⟨"FoundLastModel", "isWord", "(IIIIII)Z"⟩, 27), (⟨"FoundLastModel", "goBehind", "()V"⟩, 27), (⟨"FoundLastModel", "takes", "(III)Z"⟩, 27), (⟨"FoundLastModel", "takesItem", "()Z"⟩, 27), (⟨"FoundLastModel", "takesRoom", "()Z"⟩, 27)]
theorem lw_r4 : ∀ q ∈ lw_privs_4, lw_okq q := List.forall_mem_cons.mpr ⟨lw_p48, List.forall_mem_cons.mpr ⟨lw_p49, List.forall_mem_cons.mpr ⟨lw_p50, List.forall_mem_cons.mpr ⟨lw_p51, List.forall_mem_cons.mpr ⟨lw_p52, List.forall_mem_cons.mpr ⟨lw_p53, List.forall_mem_cons.mpr ⟨lw_p54, List.forall_mem_cons.mpr ⟨lw_p55, List.forall_mem_cons.mpr ⟨lw_p56, List.forall_mem_cons.mpr ⟨lw_p57, List.forall_mem_cons.mpr ⟨lw_p58, List.forall_mem_cons.mpr ⟨lw_p59, List.forall_mem_cons.mpr ⟨lw_p60, List.forall_mem_cons.mpr ⟨lw_p61, List.forall_mem_cons.mpr ⟨lw_p62, List.forall_mem_cons.mpr ⟨lw_p63, fun _ h => absurd h List.not_mem_nil⟩⟩⟩⟩⟩⟩⟩⟩⟩⟩⟩⟩⟩⟩⟩⟩
theorem lw_p64 : lw_okq (⟨"FoundLastModel", "takesDoor", "()Z"⟩, 27) := ⟨⟨by decide +kernel, by decide +kernel⟩, List.mem_of_getElem? (i := 850) (by decide +kernel), List.mem_of_getElem? (i := 1230) (by decide +kernel), List.mem_of_getElem? (i := 1231) (by decide +kernel)⟩
theorem lw_p65 : lw_okq (⟨"FoundLastModel", "takesList", "()Z"⟩, 27) := ⟨⟨by decide +kernel, by decide +kernel⟩, List.mem_of_getElem? (i := 850) (by decide +kernel), List.mem_of_getElem? (i := 1234) (by decide +kernel), List.mem_of_getElem? (i := 1235) (by decide +kernel)⟩
theorem lw_p66 : lw_okq (⟨"FoundLastModel", "takesHeir", "()Z"⟩, 27) := ⟨⟨by decide +kernel, by decide +kernel⟩, List.mem_of_getElem? (i := 850) (by decide +kernel), List.mem_of_getElem? (i := 1238) (by decide +kernel), List.mem_of_getElem? (i := 1239) (by decide +kernel)⟩
theorem lw_p67 : lw_okq (⟨"FoundLastModel", "counted", "(I)I"⟩, 27) := ⟨⟨by decide +kernel, by decide +kernel⟩, List.mem_of_getElem? (i := 850) (by decide +kernel), List.mem_of_getElem? (i := 1263) (by decide +kernel), List.mem_of_getElem? (i := 1264) (by decide +kernel)⟩
theorem lw_p68 : lw_okq (⟨"FoundLastModel", "manyIn", "()I"⟩, 27) := ⟨⟨by decide +kernel, by decide +kernel⟩, List.mem_of_getElem? (i := 850) (by decide +kernel), List.mem_of_getElem? (i := 1267) (by decide +kernel), List.mem_of_getElem? (i := 1268) (by decide +kernel)⟩
theorem lw_p69 : lw_okq (⟨"FoundLastModel", "sums", "(JII)J"⟩, 27) := ⟨⟨by decide +kernel, by decide +kernel⟩, List.mem_of_getElem? (i := 850) (by decide +kernel), List.mem_of_getElem? (i := 1277) (by decide +kernel), List.mem_of_getElem? (i := 1278) (by decide +kernel)⟩
def lw_privs_5 : List (MethodName × Nat) := [(⟨"FoundLastModel", "takesDoor", "()Z"⟩, 27), (⟨"FoundLastModel", "takesList", "()Z"⟩, 27), (⟨"FoundLastModel", "takesHeir", "()Z"⟩, 27), (⟨"FoundLastModel", "counted", "(I)I"⟩, 27), (⟨"FoundLastModel", "manyIn", "()I"⟩, 27), (⟨"FoundLastModel", "sums", "(JII)J"⟩, 27)]
theorem lw_r5 : ∀ q ∈ lw_privs_5, lw_okq q := List.forall_mem_cons.mpr ⟨lw_p64, List.forall_mem_cons.mpr ⟨lw_p65, List.forall_mem_cons.mpr ⟨lw_p66, List.forall_mem_cons.mpr ⟨lw_p67, List.forall_mem_cons.mpr ⟨lw_p68, List.forall_mem_cons.mpr ⟨lw_p69, fun _ h => absurd h List.not_mem_nil⟩⟩⟩⟩⟩⟩
def lw_privs : List (MethodName × Nat) := lw_privs_1 ++ (lw_privs_2 ++ (lw_privs_3 ++ (lw_privs_4 ++ (lw_privs_5))))
def lw_tbl : List Cond := k2_sels lw_privs ++ tables_1
theorem lw_privs_ok : ∀ q ∈ lw_privs, lw_okq q := by
  show ∀ q ∈ lw_privs_1 ++ (lw_privs_2 ++ (lw_privs_3 ++ (lw_privs_4 ++ (lw_privs_5)))), lw_okq q
  exact List.forall_mem_append.mpr ⟨lw_r1, List.forall_mem_append.mpr ⟨lw_r2, List.forall_mem_append.mpr ⟨lw_r3, List.forall_mem_append.mpr ⟨lw_r4, lw_r5⟩⟩⟩⟩
end
section
def RX0 : String := "FoundLast$Forecast"
def TX0 : u_T := fun k => match k with
  | 0 => ("FoundLast$Forecast", "scene", "LFoundLast$Scene;", true)
  | _ => ("FoundLast$Forecast", "points", "[I", true)
def tyX0 : Nat → FieldType := fun k => match k with
  | 0 => .object "FoundLast$Scene"
  | _ => .array .int
abbrev wsX00 : List Cond := u_ws RX0 TX0 2
theorem nmX0 : ∀ a, a < 2 → ∀ b, b < 2 → a ≠ b → (TX0 a).2.1 ≠ (TX0 b).2.1 := by decide +kernel
theorem tyX0_ok : ∀ k, k < 2 → parseFieldDescriptor (TX0 k).2.2.1 = some (tyX0 k) := by decide +kernel
abbrev cX0_init : ByteArray := prog_2_method_1_code
def yX0_init : MethodName := ⟨RX0, "<init>", "()V"⟩
abbrev cX0_after : ByteArray := prog_2_method_2_code
def yX0_after : MethodName := ⟨RX0, "after", "(LFoundLast$House;I)LFoundLast$Scene;"⟩
abbrev cX0_firstFound : ByteArray := prog_2_method_3_code
def yX0_firstFound : MethodName := ⟨RX0, "firstFound", "(LFoundLast$House;)I"⟩
abbrev cX0_bestRoom : ByteArray := prog_2_method_4_code
def yX0_bestRoom : MethodName := ⟨RX0, "bestRoom", "(LFoundLast$House;I)I"⟩
abbrev cX0_runUntilNoMoreIn : ByteArray := prog_2_method_5_code
def yX0_runUntilNoMoreIn : MethodName := ⟨RX0, "runUntilNoMoreIn", "(LFoundLast$House;II)V"⟩
abbrev cX0_foundNight : ByteArray := prog_2_method_6_code
def yX0_foundNight : MethodName := ⟨RX0, "foundNight", "(I)I"⟩
abbrev cX0_restingPairs : ByteArray := prog_2_method_7_code
def yX0_restingPairs : MethodName := ⟨RX0, "restingPairs", "(LFoundLast$House;II)I"⟩
abbrev cX0_begin : ByteArray := prog_2_method_8_code
def yX0_begin : MethodName := ⟨RX0, "begin", "(LFoundLast$House;II)V"⟩
abbrev cX0_goThroughLeastDoor : ByteArray := prog_2_method_9_code
def yX0_goThroughLeastDoor : MethodName := ⟨RX0, "goThroughLeastDoor", "(LFoundLast$House;I)V"⟩
abbrev cX0_luckyEyes : ByteArray := prog_2_method_10_code
def yX0_luckyEyes : MethodName := ⟨RX0, "luckyEyes", "(LFoundLast$House;I)I"⟩
abbrev cX0_leastHidden : ByteArray := prog_2_method_11_code
def yX0_leastHidden : MethodName := ⟨RX0, "leastHidden", "(LFoundLast$House;I)I"⟩
abbrev cX0_foundBySeed : ByteArray := prog_2_method_12_code
def yX0_foundBySeed : MethodName := ⟨RX0, "foundBySeed", "(LFoundLast$House;II)I"⟩
abbrev cX0_moveBySeed : ByteArray := prog_2_method_13_code
def yX0_moveBySeed : MethodName := ⟨RX0, "moveBySeed", "(LFoundLast$House;J)J"⟩
def RX1 : String := "FoundLast$House"
def TX1 : u_T := fun k => match k with
  | 0 => ("FoundLast$House", "eyes", "I", false)
  | 1 => ("FoundLast$House", "rule", "I", false)
  | 2 => ("FoundLast$House", "hides", "[I", true)
  | 3 => ("FoundLast$House", "creaks", "[I", true)
  | 4 => ("FoundLast$House", "row", "[I", true)
  | 5 => ("FoundLast$House", "rowSize", "I", false)
  | 6 => ("FoundLast$House", "heirs", "I", false)
  | 7 => ("FoundLast$House", "kind", "[I", true)
  | 8 => ("FoundLast$House", "poise", "[I", true)
  | 9 => ("FoundLast$House", "now", "LFoundLast$Scene;", true)
  | 10 => ("FoundLast$House", "seens", "I", false)
  | 11 => ("FoundLast$House", "seenRoom", "[I", true)
  | 12 => ("FoundLast$House", "seenStep", "[I", true)
  | _ => ("FoundLast$House", "seenThere", "[I", true)
def tyX1 : Nat → FieldType := fun k => match k with
  | 0 => .int
  | 1 => .int
  | 2 => .array .int
  | 3 => .array .int
  | 4 => .array .int
  | 5 => .int
  | 6 => .int
  | 7 => .array .int
  | 8 => .array .int
  | 9 => .object "FoundLast$Scene"
  | 10 => .int
  | 11 => .array .int
  | 12 => .array .int
  | _ => .array .int
abbrev wsX10 : List Cond := u_ws RX1 TX1 14
theorem nmX1 : ∀ a, a < 14 → ∀ b, b < 14 → a ≠ b → (TX1 a).2.1 ≠ (TX1 b).2.1 := by decide +kernel
theorem tyX1_ok : ∀ k, k < 14 → parseFieldDescriptor (TX1 k).2.2.1 = some (tyX1 k) := by decide +kernel
abbrev cX1_init : ByteArray := prog_3_method_1_code
def yX1_init : MethodName := ⟨RX1, "<init>", "()V"⟩
abbrev cX1_restart : ByteArray := prog_3_method_2_code
def yX1_restart : MethodName := ⟨RX1, "restart", "(II)V"⟩
abbrev cX1_take : ByteArray := prog_3_method_3_code
def yX1_take : MethodName := ⟨RX1, "take", "(LFoundLast$House;)V"⟩
abbrev cX1_creaksBetween : ByteArray := prog_3_method_4_code
def yX1_creaksBetween : MethodName := ⟨RX1, "creaksBetween", "(II)I"⟩
abbrev cX1_hang : ByteArray := prog_3_method_5_code
def yX1_hang : MethodName := ⟨RX1, "hang", "(III)V"⟩
abbrev cX1_bring : ByteArray := prog_3_method_6_code
def yX1_bring : MethodName := ⟨RX1, "bring", "(III)I"⟩
abbrev cX1_witness : ByteArray := prog_3_method_7_code
def yX1_witness : MethodName := ⟨RX1, "witness", "(III)I"⟩
abbrev cX1_lookedInto : ByteArray := prog_3_method_8_code
def yX1_lookedInto : MethodName := ⟨RX1, "lookedInto", "(I)I"⟩
abbrev cX1_hidden : ByteArray := prog_3_method_9_code
def yX1_hidden : MethodName := ⟨RX1, "hidden", "(LFoundLast$Scene;I)I"⟩
abbrev cX1_hasCompany : ByteArray := prog_3_method_10_code
def yX1_hasCompany : MethodName := ⟨RX1, "hasCompany", "(LFoundLast$Scene;I)Z"⟩
abbrev cX1_heirsThat : ByteArray := prog_3_method_11_code
def yX1_heirsThat : MethodName := ⟨RX1, "heirsThat", "(LFoundLast$Scene;I)I"⟩
abbrev cX1_goingOut : ByteArray := prog_3_method_12_code
def yX1_goingOut : MethodName := ⟨RX1, "goingOut", "(LFoundLast$Scene;)I"⟩
abbrev cX1_inSight : ByteArray := prog_3_method_13_code
def yX1_inSight : MethodName := ⟨RX1, "inSight", "(LFoundLast$Scene;I)I"⟩
abbrev cX1_beingFound : ByteArray := prog_3_method_14_code
def yX1_beingFound : MethodName := ⟨RX1, "beingFound", "(LFoundLast$Scene;II)I"⟩
abbrev cX1_runNight : ByteArray := prog_3_method_15_code
def yX1_runNight : MethodName := ⟨RX1, "runNight", "(LFoundLast$Scene;I)I"⟩
abbrev cX1_digestRooms : ByteArray := prog_3_method_16_code
def yX1_digestRooms : MethodName := ⟨RX1, "digestRooms", "(J)J"⟩
abbrev cX1_digestHeirs : ByteArray := prog_3_method_17_code
def yX1_digestHeirs : MethodName := ⟨RX1, "digestHeirs", "(J)J"⟩
abbrev cX1_digestSeen : ByteArray := prog_3_method_18_code
def yX1_digestSeen : MethodName := ⟨RX1, "digestSeen", "(J)J"⟩
def RX2 : String := "FoundLast$Past"
def TX2 : u_T := fun k => match k with
  | 0 => ("FoundLast$Past", "scenes", "[LFoundLast$Scene;", true)
  | _ => ("FoundLast$Past", "size", "I", false)
def tyX2 : Nat → FieldType := fun k => match k with
  | 0 => .array (.object "FoundLast$Scene")
  | _ => .int
abbrev wsX20 : List Cond := u_ws RX2 TX2 2
theorem nmX2 : ∀ a, a < 2 → ∀ b, b < 2 → a ≠ b → (TX2 a).2.1 ≠ (TX2 b).2.1 := by decide +kernel
theorem tyX2_ok : ∀ k, k < 2 → parseFieldDescriptor (TX2 k).2.2.1 = some (tyX2 k) := by decide +kernel
abbrev cX2_init : ByteArray := prog_4_method_1_code
def yX2_init : MethodName := ⟨RX2, "<init>", "()V"⟩
abbrev cX2_keep : ByteArray := prog_4_method_2_code
def yX2_keep : MethodName := ⟨RX2, "keep", "(LFoundLast$Scene;)V"⟩
abbrev cX2_dropOldest : ByteArray := prog_4_method_3_code
def yX2_dropOldest : MethodName := ⟨RX2, "dropOldest", "()V"⟩
abbrev cX2_bringBack : ByteArray := prog_4_method_4_code
def yX2_bringBack : MethodName := ⟨RX2, "bringBack", "(LFoundLast$Scene;)V"⟩
abbrev cX2_take : ByteArray := prog_4_method_5_code
def yX2_take : MethodName := ⟨RX2, "take", "(LFoundLast$Past;)V"⟩
def RX3 : String := "FoundLast$Scene"
def TX3 : u_T := fun k => match k with
  | 0 => ("FoundLast$Scene", "night", "I", false)
  | 1 => ("FoundLast$Scene", "room", "[I", true)
  | 2 => ("FoundLast$Scene", "stayed", "[I", true)
  | 3 => ("FoundLast$Scene", "how", "[I", true)
  | 4 => ("FoundLast$Scene", "since", "[I", true)
  | _ => ("FoundLast$Scene", "moved", "[I", true)
def tyX3 : Nat → FieldType := fun k => match k with
  | 0 => .int
  | 1 => .array .int
  | 2 => .array .int
  | 3 => .array .int
  | 4 => .array .int
  | _ => .array .int
abbrev wsX30 : List Cond := u_ws RX3 TX3 6
theorem nmX3 : ∀ a, a < 6 → ∀ b, b < 6 → a ≠ b → (TX3 a).2.1 ≠ (TX3 b).2.1 := by decide +kernel
theorem tyX3_ok : ∀ k, k < 6 → parseFieldDescriptor (TX3 k).2.2.1 = some (tyX3 k) := by decide +kernel
abbrev cX3_init : ByteArray := prog_5_method_1_code
def yX3_init : MethodName := ⟨RX3, "<init>", "()V"⟩
abbrev cX3_place : ByteArray := prog_5_method_2_code
def yX3_place : MethodName := ⟨RX3, "place", "(II)V"⟩
abbrev cX3_go : ByteArray := prog_5_method_3_code
def yX3_go : MethodName := ⟨RX3, "go", "(II)V"⟩
abbrev cX3_close : ByteArray := prog_5_method_4_code
def yX3_close : MethodName := ⟨RX3, "close", "(III)V"⟩
abbrev cX3_leave : ByteArray := prog_5_method_5_code
def yX3_leave : MethodName := ⟨RX3, "leave", "(II)V"⟩
abbrev cX3_take : ByteArray := prog_5_method_6_code
def yX3_take : MethodName := ⟨RX3, "take", "(LFoundLast$Scene;)V"⟩
def RX4 : String := "FoundLast$TextReader"
def TX4 : u_T := fun k => match k with
  | 0 => ("FoundLast$TextReader", "bytes", "[B", false)
  | 1 => ("FoundLast$TextReader", "size", "I", false)
  | 2 => ("FoundLast$TextReader", "at", "I", false)
  | 3 => ("FoundLast$TextReader", "start", "I", false)
  | 4 => ("FoundLast$TextReader", "token", "I", false)
  | 5 => ("FoundLast$TextReader", "value", "I", false)
  | 6 => ("FoundLast$TextReader", "fault", "I", false)
  | _ => ("FoundLast$TextReader", "items", "I", false)
def tyX4 : Nat → FieldType := fun k => match k with
  | 0 => .array .byte
  | 1 => .int
  | 2 => .int
  | 3 => .int
  | 4 => .int
  | 5 => .int
  | 6 => .int
  | _ => .int
abbrev wsX40 : List Cond := u_ws RX4 TX4 8
theorem nmX4 : ∀ a, a < 8 → ∀ b, b < 8 → a ≠ b → (TX4 a).2.1 ≠ (TX4 b).2.1 := by decide +kernel
theorem tyX4_ok : ∀ k, k < 8 → parseFieldDescriptor (TX4 k).2.2.1 = some (tyX4 k) := by decide +kernel
abbrev cX4_init : ByteArray := prog_6_method_1_code
def yX4_init : MethodName := ⟨RX4, "<init>", "()V"⟩
abbrev cX4_readInto : ByteArray := prog_6_method_2_code
def yX4_readInto : MethodName := ⟨RX4, "readInto", "(LFoundLast$House;[BI)I"⟩
abbrev cX4_goesOn : ByteArray := prog_6_method_3_code
def yX4_goesOn : MethodName := ⟨RX4, "goesOn", "()Z"⟩
abbrev cX4_takeItem : ByteArray := prog_6_method_4_code
def yX4_takeItem : MethodName := ⟨RX4, "takeItem", "(LFoundLast$House;)V"⟩
abbrev cX4_takeHouse : ByteArray := prog_6_method_5_code
def yX4_takeHouse : MethodName := ⟨RX4, "takeHouse", "(LFoundLast$House;)V"⟩
abbrev cX4_takeRoom : ByteArray := prog_6_method_6_code
def yX4_takeRoom : MethodName := ⟨RX4, "takeRoom", "(LFoundLast$House;)V"⟩
abbrev cX4_takeDoor : ByteArray := prog_6_method_7_code
def yX4_takeDoor : MethodName := ⟨RX4, "takeDoor", "(LFoundLast$House;)V"⟩
abbrev cX4_takeList : ByteArray := prog_6_method_8_code
def yX4_takeList : MethodName := ⟨RX4, "takeList", "(LFoundLast$House;)V"⟩
abbrev cX4_takeHeir : ByteArray := prog_6_method_9_code
def yX4_takeHeir : MethodName := ⟨RX4, "takeHeir", "(LFoundLast$House;)V"⟩
abbrev cX4_takeStop : ByteArray := prog_6_method_10_code
def yX4_takeStop : MethodName := ⟨RX4, "takeStop", "()V"⟩
abbrev cX4_number : ByteArray := prog_6_method_11_code
def yX4_number : MethodName := ⟨RX4, "number", "(II)I"⟩
abbrev cX4_isWord : ByteArray := prog_6_method_12_code
def yX4_isWord : MethodName := ⟨RX4, "isWord", "(Ljava/lang/String;)Z"⟩
abbrev cX4_advance : ByteArray := prog_6_method_13_code
def yX4_advance : MethodName := ⟨RX4, "advance", "()V"⟩
abbrev cX4_isLetter : ByteArray := prog_6_method_14_code
def yX4_isLetter : MethodName := ⟨RX4, "isLetter", "(I)Z"⟩
abbrev cX4_isFigure : ByteArray := prog_6_method_15_code
def yX4_isFigure : MethodName := ⟨RX4, "isFigure", "(I)Z"⟩
def RX5 : String := "FoundLast$Walks"
def TX5 : u_T := fun k => match k with
  | 0 => ("FoundLast$Walks", "through", "[J", true)
  | 1 => ("FoundLast$Walks", "before", "[J", true)
  | 2 => ("FoundLast$Walks", "after", "[J", true)
  | _ => ("FoundLast$Walks", "last", "[J", true)
def tyX5 : Nat → FieldType := fun k => match k with
  | 0 => .array .long
  | 1 => .array .long
  | 2 => .array .long
  | _ => .array .long
abbrev wsX50 : List Cond := u_ws RX5 TX5 4
theorem nmX5 : ∀ a, a < 4 → ∀ b, b < 4 → a ≠ b → (TX5 a).2.1 ≠ (TX5 b).2.1 := by decide +kernel
theorem tyX5_ok : ∀ k, k < 4 → parseFieldDescriptor (TX5 k).2.2.1 = some (tyX5 k) := by decide +kernel
abbrev cX5_init : ByteArray := prog_7_method_1_code
def yX5_init : MethodName := ⟨RX5, "<init>", "()V"⟩
abbrev cX5_countThrough : ByteArray := prog_7_method_2_code
def yX5_countThrough : MethodName := ⟨RX5, "countThrough", "(LFoundLast$House;I)V"⟩
abbrev cX5_begin : ByteArray := prog_7_method_3_code
def yX5_begin : MethodName := ⟨RX5, "begin", "(LFoundLast$House;I[J)V"⟩
abbrev cX5_extend : ByteArray := prog_7_method_4_code
def yX5_extend : MethodName := ⟨RX5, "extend", "(LFoundLast$House;I[J)V"⟩
abbrev cX5_arriving : ByteArray := prog_7_method_5_code
def yX5_arriving : MethodName := ⟨RX5, "arriving", "(LFoundLast$House;I)J"⟩
abbrev cX5_fits : ByteArray := prog_7_method_6_code
def yX5_fits : MethodName := ⟨RX5, "fits", "(LFoundLast$House;II)Z"⟩
abbrev cX5_total : ByteArray := prog_7_method_7_code
def yX5_total : MethodName := ⟨RX5, "total", "()J"⟩
abbrev cX5_roomsPossible : ByteArray := prog_7_method_8_code
def yX5_roomsPossible : MethodName := ⟨RX5, "roomsPossible", "()I"⟩
abbrev cX5_roomThatTells : ByteArray := prog_7_method_9_code
def yX5_roomThatTells : MethodName := ⟨RX5, "roomThatTells", "()I"⟩
def RX6 : String := "FoundLast$WayFinder"
def TX6 : u_T := fun k => match k with
  | 0 => ("FoundLast$WayFinder", "foundIn", "I", false)
  | 1 => ("FoundLast$WayFinder", "fewest", "I", false)
  | 2 => ("FoundLast$WayFinder", "scene", "LFoundLast$Scene;", true)
  | 3 => ("FoundLast$WayFinder", "ahead", "[I", true)
  | _ => ("FoundLast$WayFinder", "moved", "[I", true)
def tyX6 : Nat → FieldType := fun k => match k with
  | 0 => .int
  | 1 => .int
  | 2 => .object "FoundLast$Scene"
  | 3 => .array .int
  | _ => .array .int
abbrev wsX60 : List Cond := u_ws RX6 TX6 5
theorem nmX6 : ∀ a, a < 5 → ∀ b, b < 5 → a ≠ b → (TX6 a).2.1 ≠ (TX6 b).2.1 := by decide +kernel
theorem tyX6_ok : ∀ k, k < 5 → parseFieldDescriptor (TX6 k).2.2.1 = some (tyX6 k) := by decide +kernel
abbrev cX6_init : ByteArray := prog_8_method_1_code
def yX6_init : MethodName := ⟨RX6, "<init>", "()V"⟩
abbrev cX6_search : ByteArray := prog_8_method_2_code
def yX6_search : MethodName := ⟨RX6, "search", "(LFoundLast$House;I)V"⟩
abbrev cX6_empty : ByteArray := prog_8_method_3_code
def yX6_empty : MethodName := ⟨RX6, "empty", "([I)V"⟩
abbrev cX6_lower : ByteArray := prog_8_method_4_code
def yX6_lower : MethodName := ⟨RX6, "lower", "([IIII)V"⟩
abbrev cX6_spread : ByteArray := prog_8_method_5_code
def yX6_spread : MethodName := ⟨RX6, "spread", "(LFoundLast$House;Z)V"⟩
abbrev cX6_spreadFrom : ByteArray := prog_8_method_6_code
def yX6_spreadFrom : MethodName := ⟨RX6, "spreadFrom", "(LFoundLast$House;II)V"⟩
abbrev cX6_passNight : ByteArray := prog_8_method_7_code
def yX6_passNight : MethodName := ⟨RX6, "passNight", "(LFoundLast$House;I)V"⟩
def RX7 : String := "FoundLast"
def TX7 : u_T := fun k => match k with
  | 0 => ("FoundLast", "house", "LFoundLast$House;", true)
  | 1 => ("FoundLast", "past", "LFoundLast$Past;", true)
  | 2 => ("FoundLast", "draft", "LFoundLast$House;", true)
  | 3 => ("FoundLast", "keptHouses", "[LFoundLast$House;", true)
  | 4 => ("FoundLast", "keptPasts", "[LFoundLast$Past;", true)
  | 5 => ("FoundLast", "kept", "[Z", true)
  | 6 => ("FoundLast", "forecast", "LFoundLast$Forecast;", true)
  | 7 => ("FoundLast", "wayFinder", "LFoundLast$WayFinder;", true)
  | 8 => ("FoundLast", "walks", "LFoundLast$Walks;", true)
  | 9 => ("FoundLast", "reader", "LFoundLast$TextReader;", true)
  | 10 => ("FoundLast", "text", "[B", true)
  | 11 => ("FoundLast", "textSize", "I", false)
  | 12 => ("FoundLast", "above", "J", false)
  | 13 => ("FoundLast", "below", "J", false)
  | 14 => ("FoundLast", "bads", "I", false)
  | 15 => ("FoundLast", "nos", "I", false)
  | _ => ("FoundLast", "fulls", "I", false)
def tyX7 : Nat → FieldType := fun k => match k with
  | 0 => .object "FoundLast$House"
  | 1 => .object "FoundLast$Past"
  | 2 => .object "FoundLast$House"
  | 3 => .array (.object "FoundLast$House")
  | 4 => .array (.object "FoundLast$Past")
  | 5 => .array .boolean
  | 6 => .object "FoundLast$Forecast"
  | 7 => .object "FoundLast$WayFinder"
  | 8 => .object "FoundLast$Walks"
  | 9 => .object "FoundLast$TextReader"
  | 10 => .array .byte
  | 11 => .int
  | 12 => .long
  | 13 => .long
  | 14 => .int
  | 15 => .int
  | _ => .int
abbrev wsX70 : List Cond := u_ws RX7 TX7 17
theorem nmX7 : ∀ a, a < 17 → ∀ b, b < 17 → a ≠ b → (TX7 a).2.1 ≠ (TX7 b).2.1 := by decide +kernel
theorem tyX7_ok : ∀ k, k < 17 → parseFieldDescriptor (TX7 k).2.2.1 = some (tyX7 k) := by decide +kernel
abbrev cX7_init : ByteArray := prog_1_method_1_code
def yX7_init : MethodName := ⟨RX7, "<init>", "()V"⟩
abbrev cX7_house : ByteArray := prog_1_method_2_code
def yX7_house : MethodName := ⟨RX7, "house", "(II)I"⟩
abbrev cX7_room : ByteArray := prog_1_method_3_code
def yX7_room : MethodName := ⟨RX7, "room", "(II)I"⟩
abbrev cX7_door : ByteArray := prog_1_method_4_code
def yX7_door : MethodName := ⟨RX7, "door", "(III)I"⟩
abbrev cX7_list : ByteArray := prog_1_method_5_code
def yX7_list : MethodName := ⟨RX7, "list", "(I)I"⟩
abbrev cX7_only : ByteArray := prog_1_method_6_code
def yX7_only : MethodName := ⟨RX7, "only", "(I)I"⟩
abbrev cX7_eyes : ByteArray := prog_1_method_7_code
def yX7_eyes : MethodName := ⟨RX7, "eyes", "(I)I"⟩
abbrev cX7_heir : ByteArray := prog_1_method_8_code
def yX7_heir : MethodName := ⟨RX7, "heir", "(III)I"⟩
abbrev cX7_type : ByteArray := prog_1_method_9_code
def yX7_type : MethodName := ⟨RX7, "type", "(I)I"⟩
abbrev cX7_clear : ByteArray := prog_1_method_10_code
def yX7_clear : MethodName := ⟨RX7, "clear", "()I"⟩
abbrev cX7_read : ByteArray := prog_1_method_11_code
def yX7_read : MethodName := ⟨RX7, "read", "()I"⟩
abbrev cX7_move : ByteArray := prog_1_method_12_code
def yX7_move : MethodName := ⟨RX7, "move", "(II)I"⟩
abbrev cX7_night : ByteArray := prog_1_method_13_code
def yX7_night : MethodName := ⟨RX7, "night", "()I"⟩
abbrev cX7_undo : ByteArray := prog_1_method_14_code
def yX7_undo : MethodName := ⟨RX7, "undo", "()I"⟩
abbrev cX7_of : ByteArray := prog_1_method_15_code
def yX7_of : MethodName := ⟨RX7, "of", "(II)I"⟩
abbrev cX7_looks : ByteArray := prog_1_method_16_code
def yX7_looks : MethodName := ⟨RX7, "looks", "(I)I"⟩
abbrev cX7_byThen : ByteArray := prog_1_method_17_code
def yX7_byThen : MethodName := ⟨RX7, "byThen", "(III)I"⟩
abbrev cX7_first : ByteArray := prog_1_method_18_code
def yX7_first : MethodName := ⟨RX7, "first", "(I)I"⟩
abbrev cX7_passed : ByteArray := prog_1_method_19_code
def yX7_passed : MethodName := ⟨RX7, "passed", "()I"⟩
abbrev cX7_hide : ByteArray := prog_1_method_20_code
def yX7_hide : MethodName := ⟨RX7, "hide", "(I)I"⟩
abbrev cX7_way : ByteArray := prog_1_method_21_code
def yX7_way : MethodName := ⟨RX7, "way", "(II)I"⟩
abbrev cX7_choose : ByteArray := prog_1_method_22_code
def yX7_choose : MethodName := ⟨RX7, "choose", "(II)I"⟩
abbrev cX7_odds : ByteArray := prog_1_method_23_code
def yX7_odds : MethodName := ⟨RX7, "odds", "(I)I"⟩
abbrev cX7_seen : ByteArray := prog_1_method_24_code
def yX7_seen : MethodName := ⟨RX7, "seen", "(III)I"⟩
abbrev cX7_forget : ByteArray := prog_1_method_25_code
def yX7_forget : MethodName := ⟨RX7, "forget", "()I"⟩
abbrev cX7_may : ByteArray := prog_1_method_26_code
def yX7_may : MethodName := ⟨RX7, "may", "(I)I"⟩
abbrev cX7_ways : ByteArray := prog_1_method_27_code
def yX7_ways : MethodName := ⟨RX7, "ways", "()J"⟩
abbrev cX7_peek : ByteArray := prog_1_method_28_code
def yX7_peek : MethodName := ⟨RX7, "peek", "(I)I"⟩
abbrev cX7_nights : ByteArray := prog_1_method_29_code
def yX7_nights : MethodName := ⟨RX7, "nights", "(II)I"⟩
abbrev cX7_part : ByteArray := prog_1_method_30_code
def yX7_part : MethodName := ⟨RX7, "part", "(I)J"⟩
abbrev cX7_image : ByteArray := prog_1_method_31_code
def yX7_image : MethodName := ⟨RX7, "image", "(I)I"⟩
abbrev cX7_from : ByteArray := prog_1_method_32_code
def yX7_from : MethodName := ⟨RX7, "from", "(I)I"⟩
abbrev cX7_status : ByteArray := prog_1_method_33_code
def yX7_status : MethodName := ⟨RX7, "status", "(I)I"⟩
abbrev cX7_count : ByteArray := prog_1_method_34_code
def yX7_count : MethodName := ⟨RX7, "count", "(I)I"⟩
abbrev cX7_digest : ByteArray := prog_1_method_35_code
def yX7_digest : MethodName := ⟨RX7, "digest", "()J"⟩
abbrev cX7_counted : ByteArray := prog_1_method_36_code
def yX7_counted : MethodName := ⟨RX7, "counted", "(I)I"⟩
abbrev cX7_isHeir : ByteArray := prog_1_method_37_code
def yX7_isHeir : MethodName := ⟨RX7, "isHeir", "(I)Z"⟩
abbrev cX7_isIn : ByteArray := prog_1_method_38_code
def yX7_isIn : MethodName := ⟨RX7, "isIn", "(I)Z"⟩
abbrev cX7_isRoom : ByteArray := prog_1_method_39_code
def yX7_isRoom : MethodName := ⟨RX7, "isRoom", "(I)Z"⟩
abbrev cX7_within : ByteArray := prog_1_method_40_code
def yX7_within : MethodName := ⟨RX7, "within", "(III)Z"⟩
abbrev cX7_refuseBad : ByteArray := prog_1_method_41_code
def yX7_refuseBad : MethodName := ⟨RX7, "refuseBad", "()I"⟩
abbrev cX7_refuseNo : ByteArray := prog_1_method_42_code
def yX7_refuseNo : MethodName := ⟨RX7, "refuseNo", "()I"⟩
abbrev cX7_refuseFull : ByteArray := prog_1_method_43_code
def yX7_refuseFull : MethodName := ⟨RX7, "refuseFull", "()I"⟩
abbrev cX7_greatestShared : ByteArray := prog_1_method_44_code
def yX7_greatestShared : MethodName := ⟨RX7, "greatestShared", "(II)I"⟩
def RX8 : String := "FoundLastModel"
def TX8 : u_T := fun k => match k with
  | 0 => ("FoundLastModel", "now", "[I", true)
  | 1 => ("FoundLastModel", "kept", "[I", true)
  | 2 => ("FoundLastModel", "isKept", "[Z", true)
  | 3 => ("FoundLastModel", "refused", "[I", true)
  | 4 => ("FoundLastModel", "above", "J", false)
  | 5 => ("FoundLastModel", "below", "J", false)
  | 6 => ("FoundLastModel", "handNight", "I", false)
  | 7 => ("FoundLastModel", "handEyes", "I", false)
  | 8 => ("FoundLastModel", "where", "[I", true)
  | 9 => ("FoundLastModel", "stayed", "[I", true)
  | 10 => ("FoundLastModel", "how", "[I", true)
  | 11 => ("FoundLastModel", "since", "[I", true)
  | 12 => ("FoundLastModel", "hidden", "[I", true)
  | 13 => ("FoundLastModel", "few", "[I", true)
  | 14 => ("FoundLastModel", "fewThen", "[I", true)
  | 15 => ("FoundLastModel", "hasOne", "[I", true)
  | 16 => ("FoundLastModel", "hasOther", "[I", true)
  | 17 => ("FoundLastModel", "comes", "[J", true)
  | 18 => ("FoundLastModel", "goes", "[J", true)
  | 19 => ("FoundLastModel", "bytes", "[I", true)
  | 20 => ("FoundLastModel", "bytesLong", "I", false)
  | 21 => ("FoundLastModel", "tokenAt", "I", false)
  | 22 => ("FoundLastModel", "tokenLong", "I", false)
  | 23 => ("FoundLastModel", "token", "I", false)
  | 24 => ("FoundLastModel", "value", "I", false)
  | 25 => ("FoundLastModel", "anew", "[I", true)
  | _ => ("FoundLastModel", "values", "[I", true)
def tyX8 : Nat → FieldType := fun k => match k with
  | 0 => .array .int
  | 1 => .array .int
  | 2 => .array .boolean
  | 3 => .array .int
  | 4 => .long
  | 5 => .long
  | 6 => .int
  | 7 => .int
  | 8 => .array .int
  | 9 => .array .int
  | 10 => .array .int
  | 11 => .array .int
  | 12 => .array .int
  | 13 => .array .int
  | 14 => .array .int
  | 15 => .array .int
  | 16 => .array .int
  | 17 => .array .long
  | 18 => .array .long
  | 19 => .array .int
  | 20 => .int
  | 21 => .int
  | 22 => .int
  | 23 => .int
  | 24 => .int
  | 25 => .array .int
  | _ => .array .int
abbrev wsX80 : List Cond := u_ws RX8 TX8 27
theorem nmX8 : ∀ a, a < 27 → ∀ b, b < 27 → a ≠ b → (TX8 a).2.1 ≠ (TX8 b).2.1 := by decide +kernel
theorem tyX8_ok : ∀ k, k < 27 → parseFieldDescriptor (TX8 k).2.2.1 = some (tyX8 k) := by decide +kernel
abbrev cX8_init : ByteArray := prog_10_method_1_code
def yX8_init : MethodName := ⟨RX8, "<init>", "()V"⟩
abbrev cX8_in : ByteArray := prog_10_method_3_code
def yX8_in : MethodName := ⟨RX8, "in", "(JJJ)Z"⟩
abbrev cX8_bad : ByteArray := prog_10_method_4_code
def yX8_bad : MethodName := ⟨RX8, "bad", "(I)I"⟩
abbrev cX8_no : ByteArray := prog_10_method_5_code
def yX8_no : MethodName := ⟨RX8, "no", "()I"⟩
abbrev cX8_full : ByteArray := prog_10_method_6_code
def yX8_full : MethodName := ⟨RX8, "full", "()I"⟩
abbrev cX8_begin : ByteArray := prog_10_method_7_code
def yX8_begin : MethodName := ⟨RX8, "begin", "([III)V"⟩
abbrev cX8_heirs : ByteArray := prog_10_method_8_code
def yX8_heirs : MethodName := ⟨RX8, "heirs", "()I"⟩
abbrev cX8_isHeir : ByteArray := prog_10_method_9_code
def yX8_isHeir : MethodName := ⟨RX8, "isHeir", "(I)Z"⟩
abbrev cX8_isRoom : ByteArray := prog_10_method_10_code
def yX8_isRoom : MethodName := ⟨RX8, "isRoom", "(I)Z"⟩
abbrev cX8_get : ByteArray := prog_10_method_11_code
def yX8_get : MethodName := ⟨RX8, "get", "(II)I"⟩
abbrev cX8_set : ByteArray := prog_10_method_12_code
def yX8_set : MethodName := ⟨RX8, "set", "(III)V"⟩
abbrev cX8_creaks : ByteArray := prog_10_method_13_code
def yX8_creaks : MethodName := ⟨RX8, "creaks", "(II)I"⟩
abbrev cX8_house : ByteArray := prog_10_method_14_code
def yX8_house : MethodName := ⟨RX8, "house", "(II)I"⟩
abbrev cX8_room : ByteArray := prog_10_method_15_code
def yX8_room : MethodName := ⟨RX8, "room", "(II)I"⟩
abbrev cX8_layDoor : ByteArray := prog_10_method_16_code
def yX8_layDoor : MethodName := ⟨RX8, "layDoor", "([IIII)V"⟩
abbrev cX8_door : ByteArray := prog_10_method_17_code
def yX8_door : MethodName := ⟨RX8, "door", "(III)I"⟩
abbrev cX8_list : ByteArray := prog_10_method_18_code
def yX8_list : MethodName := ⟨RX8, "list", "(I)I"⟩
abbrev cX8_only : ByteArray := prog_10_method_19_code
def yX8_only : MethodName := ⟨RX8, "only", "(I)I"⟩
abbrev cX8_eyes : ByteArray := prog_10_method_20_code
def yX8_eyes : MethodName := ⟨RX8, "eyes", "(I)I"⟩
abbrev cX8_layHeir : ByteArray := prog_10_method_21_code
def yX8_layHeir : MethodName := ⟨RX8, "layHeir", "([IIII)V"⟩
abbrev cX8_heir : ByteArray := prog_10_method_22_code
def yX8_heir : MethodName := ⟨RX8, "heir", "(III)I"⟩
abbrev cX8_layHand : ByteArray := prog_10_method_23_code
def yX8_layHand : MethodName := ⟨RX8, "layHand", "()V"⟩
abbrev cX8_isOther : ByteArray := prog_10_method_24_code
def yX8_isOther : MethodName := ⟨RX8, "isOther", "(I)Z"⟩
abbrev cX8_least : ByteArray := prog_10_method_25_code
def yX8_least : MethodName := ⟨RX8, "least", "(II)I"⟩
abbrev cX8_most : ByteArray := prog_10_method_26_code
def yX8_most : MethodName := ⟨RX8, "most", "(II)I"⟩
abbrev cX8_hiddenOf : ByteArray := prog_10_method_27_code
def yX8_hiddenOf : MethodName := ⟨RX8, "hiddenOf", "(I)I"⟩
abbrev cX8_looksIn : ByteArray := prog_10_method_28_code
def yX8_looksIn : MethodName := ⟨RX8, "looksIn", "(I)I"⟩
abbrev cX8_goNight : ByteArray := prog_10_method_29_code
def yX8_goNight : MethodName := ⟨RX8, "goNight", "()I"⟩
abbrev cX8_keep : ByteArray := prog_10_method_30_code
def yX8_keep : MethodName := ⟨RX8, "keep", "()V"⟩
abbrev cX8_move : ByteArray := prog_10_method_31_code
def yX8_move : MethodName := ⟨RX8, "move", "(II)I"⟩
abbrev cX8_night : ByteArray := prog_10_method_32_code
def yX8_night : MethodName := ⟨RX8, "night", "()I"⟩
abbrev cX8_undo : ByteArray := prog_10_method_33_code
def yX8_undo : MethodName := ⟨RX8, "undo", "()I"⟩
abbrev cX8_of : ByteArray := prog_10_method_34_code
def yX8_of : MethodName := ⟨RX8, "of", "(II)I"⟩
abbrev cX8_looks : ByteArray := prog_10_method_35_code
def yX8_looks : MethodName := ⟨RX8, "looks", "(I)I"⟩
abbrev cX8_byThen : ByteArray := prog_10_method_36_code
def yX8_byThen : MethodName := ⟨RX8, "byThen", "(III)I"⟩
abbrev cX8_goTill : ByteArray := prog_10_method_37_code
def yX8_goTill : MethodName := ⟨RX8, "goTill", "()I"⟩
abbrev cX8_first : ByteArray := prog_10_method_38_code
def yX8_first : MethodName := ⟨RX8, "first", "(I)I"⟩
abbrev cX8_passed : ByteArray := prog_10_method_39_code
def yX8_passed : MethodName := ⟨RX8, "passed", "()I"⟩
abbrev cX8_foundIn : ByteArray := prog_10_method_40_code
def yX8_foundIn : MethodName := ⟨RX8, "foundIn", "(I)I"⟩
abbrev cX8_hide : ByteArray := prog_10_method_41_code
def yX8_hide : MethodName := ⟨RX8, "hide", "(I)I"⟩
abbrev cX8_moveAll : ByteArray := prog_10_method_42_code
def yX8_moveAll : MethodName := ⟨RX8, "moveAll", "()V"⟩
abbrev cX8_nightOfOne : ByteArray := prog_10_method_43_code
def yX8_nightOfOne : MethodName := ⟨RX8, "nightOfOne", "(II)I"⟩
abbrev cX8_way : ByteArray := prog_10_method_44_code
def yX8_way : MethodName := ⟨RX8, "way", "(II)I"⟩
abbrev cX8_goAside : ByteArray := prog_10_method_45_code
def yX8_goAside : MethodName := ⟨RX8, "goAside", "(I)V"⟩
abbrev cX8_layHas : ByteArray := prog_10_method_46_code
def yX8_layHas : MethodName := ⟨RX8, "layHas", "(II)V"⟩
abbrev cX8_choose : ByteArray := prog_10_method_47_code
def yX8_choose : MethodName := ⟨RX8, "choose", "(II)I"⟩
abbrev cX8_fraction : ByteArray := prog_10_method_48_code
def yX8_fraction : MethodName := ⟨RX8, "fraction", "(II)V"⟩
abbrev cX8_odds : ByteArray := prog_10_method_49_code
def yX8_odds : MethodName := ⟨RX8, "odds", "(I)I"⟩
abbrev cX8_seen : ByteArray := prog_10_method_50_code
def yX8_seen : MethodName := ⟨RX8, "seen", "(III)I"⟩
abbrev cX8_forget : ByteArray := prog_10_method_51_code
def yX8_forget : MethodName := ⟨RX8, "forget", "()I"⟩
abbrev cX8_mayBe : ByteArray := prog_10_method_52_code
def yX8_mayBe : MethodName := ⟨RX8, "mayBe", "(II)Z"⟩
abbrev cX8_isStep : ByteArray := prog_10_method_53_code
def yX8_isStep : MethodName := ⟨RX8, "isStep", "(II)Z"⟩
abbrev cX8_layWays : ByteArray := prog_10_method_54_code
def yX8_layWays : MethodName := ⟨RX8, "layWays", "()V"⟩
abbrev cX8_waysBy : ByteArray := prog_10_method_55_code
def yX8_waysBy : MethodName := ⟨RX8, "waysBy", "(II)J"⟩
abbrev cX8_allWays : ByteArray := prog_10_method_56_code
def yX8_allWays : MethodName := ⟨RX8, "allWays", "()J"⟩
abbrev cX8_may : ByteArray := prog_10_method_57_code
def yX8_may : MethodName := ⟨RX8, "may", "(I)I"⟩
abbrev cX8_ways : ByteArray := prog_10_method_58_code
def yX8_ways : MethodName := ⟨RX8, "ways", "()J"⟩
abbrev cX8_peek : ByteArray := prog_10_method_59_code
def yX8_peek : MethodName := ⟨RX8, "peek", "(I)I"⟩
abbrev cX8_nights : ByteArray := prog_10_method_60_code
def yX8_nights : MethodName := ⟨RX8, "nights", "(II)I"⟩
abbrev cX8_type : ByteArray := prog_10_method_61_code
def yX8_type : MethodName := ⟨RX8, "type", "(I)I"⟩
abbrev cX8_clear : ByteArray := prog_10_method_62_code
def yX8_clear : MethodName := ⟨RX8, "clear", "()I"⟩
abbrev cX8_isSmall : ByteArray := prog_10_method_63_code
def yX8_isSmall : MethodName := ⟨RX8, "isSmall", "(I)Z"⟩
abbrev cX8_isFigure : ByteArray := prog_10_method_64_code
def yX8_isFigure : MethodName := ⟨RX8, "isFigure", "(I)Z"⟩
abbrev cX8_lookAt : ByteArray := prog_10_method_65_code
def yX8_lookAt : MethodName := ⟨RX8, "lookAt", "(I)V"⟩
abbrev cX8_goBehind : ByteArray := prog_10_method_66_code
def yX8_goBehind : MethodName := ⟨RX8, "goBehind", "()V"⟩
abbrev cX8_isWord : ByteArray := prog_10_method_67_code
def yX8_isWord : MethodName := ⟨RX8, "isWord", "(IIIIII)Z"⟩
abbrev cX8_takes : ByteArray := prog_10_method_68_code
def yX8_takes : MethodName := ⟨RX8, "takes", "(III)Z"⟩
abbrev cX8_takesFirst : ByteArray := prog_10_method_69_code
def yX8_takesFirst : MethodName := ⟨RX8, "takesFirst", "()Z"⟩
abbrev cX8_takesRoom : ByteArray := prog_10_method_70_code
def yX8_takesRoom : MethodName := ⟨RX8, "takesRoom", "()Z"⟩
abbrev cX8_takesDoor : ByteArray := prog_10_method_71_code
def yX8_takesDoor : MethodName := ⟨RX8, "takesDoor", "()Z"⟩
abbrev cX8_takesList : ByteArray := prog_10_method_72_code
def yX8_takesList : MethodName := ⟨RX8, "takesList", "()Z"⟩
abbrev cX8_takesHeir : ByteArray := prog_10_method_73_code
def yX8_takesHeir : MethodName := ⟨RX8, "takesHeir", "()Z"⟩
abbrev cX8_takesItem : ByteArray := prog_10_method_74_code
def yX8_takesItem : MethodName := ⟨RX8, "takesItem", "()Z"⟩
abbrev cX8_read : ByteArray := prog_10_method_75_code
def yX8_read : MethodName := ⟨RX8, "read", "()I"⟩
abbrev cX8_part : ByteArray := prog_10_method_76_code
def yX8_part : MethodName := ⟨RX8, "part", "(I)J"⟩
abbrev cX8_image : ByteArray := prog_10_method_77_code
def yX8_image : MethodName := ⟨RX8, "image", "(I)I"⟩
abbrev cX8_from : ByteArray := prog_10_method_78_code
def yX8_from : MethodName := ⟨RX8, "from", "(I)I"⟩
abbrev cX8_status : ByteArray := prog_10_method_79_code
def yX8_status : MethodName := ⟨RX8, "status", "(I)I"⟩
abbrev cX8_manyIn : ByteArray := prog_10_method_80_code
def yX8_manyIn : MethodName := ⟨RX8, "manyIn", "()I"⟩
abbrev cX8_counted : ByteArray := prog_10_method_81_code
def yX8_counted : MethodName := ⟨RX8, "counted", "(I)I"⟩
abbrev cX8_count : ByteArray := prog_10_method_82_code
def yX8_count : MethodName := ⟨RX8, "count", "(I)I"⟩
abbrev cX8_sums : ByteArray := prog_10_method_83_code
def yX8_sums : MethodName := ⟨RX8, "sums", "(JII)J"⟩
abbrev cX8_digest : ByteArray := prog_10_method_84_code
def yX8_digest : MethodName := ⟨RX8, "digest", "()J"⟩
def RJ6 : String := "java/lang/Integer"
def TJ6 : u_T := fun k => match k with
  | _ => ("", "", "", false)
def tyJ6 : Nat → FieldType := fun k => match k with
  | _ => .int
abbrev cJ6_compare_7cf53 : ByteArray := prog_11_method_40_code
def yJ6_compare_7cf53 : MethodName := ⟨RJ6, "compare", "(II)I"⟩
def RJ9 : String := "java/lang/Math"
def TJ9 : u_T := fun k => match k with
  | _ => ("", "", "", false)
def tyJ9 : Nat → FieldType := fun k => match k with
  | _ => .int
abbrev cJ9_max_7cf53 : ByteArray := prog_12_method_65_code
def yJ9_max_7cf53 : MethodName := ⟨RJ9, "max", "(II)I"⟩
abbrev cJ9_max_f86c9 : ByteArray := prog_12_method_66_code
def yJ9_max_f86c9 : MethodName := ⟨RJ9, "max", "(JJ)J"⟩
abbrev cJ9_min_7cf53 : ByteArray := prog_12_method_69_code
def yJ9_min_7cf53 : MethodName := ⟨RJ9, "min", "(II)I"⟩
def RJ0 : String := "java/lang/String"
def TJ0 : u_T := fun k => match k with
  | _ => ("", "", "", false)
def tyJ0 : Nat → FieldType := fun k => match k with
  | _ => .int
abbrev cJ0_length_8abf5 : ByteArray := prog_13_method_54_code
def yJ0_length_8abf5 : MethodName := ⟨RJ0, "length", "()I"⟩
abbrev cJ0_charAt_5068e : ByteArray := prog_13_method_56_code
def yJ0_charAt_5068e : MethodName := ⟨RJ0, "charAt", "(I)C"⟩
abbrev cJ0_coder_7d493 : ByteArray := prog_13_method_152_code
def yJ0_coder_7d493 : MethodName := ⟨RJ0, "coder", "()B"⟩
abbrev cJ0_isLatin1_aae02 : ByteArray := prog_13_method_154_code
def yJ0_isLatin1_aae02 : MethodName := ⟨RJ0, "isLatin1", "()Z"⟩
abbrev cJ0_checkIndex_df160 : ByteArray := prog_13_method_155_code
def yJ0_checkIndex_df160 : MethodName := ⟨RJ0, "checkIndex", "(II)V"⟩
def RJ1 : String := "java/lang/StringLatin1"
def TJ1 : u_T := fun k => match k with
  | _ => ("", "", "", false)
def tyJ1 : Nat → FieldType := fun k => match k with
  | _ => .int
abbrev cJ1_charAt_3b067 : ByteArray := prog_14_method_2_code
def yJ1_charAt_3b067 : MethodName := ⟨RJ1, "charAt", "([BI)C"⟩
def RJ2 : String := "java/lang/StringUTF16"
def TJ2 : u_T := fun k => match k with
  | _ => ("", "", "", false)
def tyJ2 : Nat → FieldType := fun k => match k with
  | _ => .int
abbrev cJ2_getChar_3b067 : ByteArray := prog_15_method_5_code
def yJ2_getChar_3b067 : MethodName := ⟨RJ2, "getChar", "([BI)C"⟩
abbrev cJ2_length_9d52b : ByteArray := prog_15_method_6_code
def yJ2_length_9d52b : MethodName := ⟨RJ2, "length", "([B)I"⟩
abbrev cJ2_charAt_3b067 : ByteArray := prog_15_method_83_code
def yJ2_charAt_3b067 : MethodName := ⟨RJ2, "charAt", "([BI)C"⟩
abbrev cJ2_checkIndex_2214a : ByteArray := prog_15_method_91_code
def yJ2_checkIndex_2214a : MethodName := ⟨RJ2, "checkIndex", "(I[B)V"⟩
def RJ10 : String := "java/lang/System"
def TJ10 : u_T := fun k => match k with
  | _ => ("", "", "", false)
def tyJ10 : Nat → FieldType := fun k => match k with
  | _ => .int
def RJ3 : String := "jdk/internal/util/Preconditions"
def TJ3 : u_T := fun k => match k with
  | _ => ("", "", "", false)
def tyJ3 : Nat → FieldType := fun k => match k with
  | _ => .int
abbrev cJ3_checkIndex_8e157 : ByteArray := prog_17_method_11_code
def yJ3_checkIndex_8e157 : MethodName := ⟨RJ3, "checkIndex", "(IILjava/util/function/BiFunction;)I"⟩
def RL : String := "FoundLastLaw"
abbrev cL_law : ByteArray := code
def yL_law : MethodName := ⟨RL, "law", "([I)Z"⟩
abbrev vwCl : List vw_C := [(RX0, TX0, 2), (RX1, TX1, 14), (RX2, TX2, 2), (RX3, TX3, 6), (RX4, TX4, 8), (RX5, TX5, 4), (RX6, TX6, 5), (RX7, TX7, 17), (RX8, TX8, 27)]
end
section
/-! ===== the abstract heap and its functions (no machine in here) ===== -/
/-- what a cell holds: an array (its kind: 0 int, 1 byte, 2 boolean, 3 long, 4 House, 5 Past, 6 Scene), or an object (its class's number, its fields) -/
abbrev Cel : Type := (Nat × vp_A) ⊕ (Nat × List Value)
/-- the next free address, and what lies where -/
abbrev Hea : Type := Nat × (Nat → Option Cel)
def hup (h : Hea) (a : Nat) (c : Cel) : Hea := (h.1, fun q => if q = a then some c else h.2 q)
def hnew (h : Hea) (c : Cel) : Hea := (h.1 + 1, fun q => if q = h.1 then some c else h.2 q)
/-- a row of ints (bytes, booleans), of longs, of references -/
abbrev cI (k n : Nat) (f : Nat → Int32) : Cel := .inl (k, n, .inl f)
abbrev cJ (n : Nat) (f : Nat → Int64) : Cel := .inl (3, n, .inr (.inl f))
abbrev cR (k n : Nat) (f : Nat → Option Nat) : Cel := .inl (k, n, .inr (.inr (.inr (.inr f))))
abbrev cO (ci : Nat) (fs : List Value) : Cel := .inr (ci, fs)
/-- an object of the class ci? -/
def isO (h : Hea) (a ci : Nat) : Option Unit := match h.2 a with
  | some (.inr (c, _)) => if c = ci then some () else none
  | _ => none
def gV (h : Hea) (a ci k : Nat) : Option Value := match h.2 a with
  | some (.inr (c, fs)) => if c = ci then fs[k]? else none
  | _ => none
def gI (h : Hea) (a ci k : Nat) : Option Int32 := match gV h a ci k with
  | some (.int x) => some x
  | _ => none
def gJ (h : Hea) (a ci k : Nat) : Option Int64 := match gV h a ci k with
  | some (.long x) => some x
  | _ => none
def gR (h : Hea) (a ci k : Nat) : Option Nat := match gV h a ci k with
  | some (.ref x) => some x
  | _ => none
def pV (h : Hea) (a ci k : Nat) (v : Value) : Option Hea := match h.2 a with
  | some (.inr (c, fs)) => if c = ci ∧ k < fs.length then some (hup h a (cO c (fs.set k v))) else none
  | _ => none
abbrev pI (h : Hea) (a ci k : Nat) (x : Int32) : Option Hea := pV h a ci k (.int x)
abbrev pJ (h : Hea) (a ci k : Nat) (x : Int64) : Option Hea := pV h a ci k (.long x)
abbrev pR (h : Hea) (a ci k : Nat) (x : Nat) : Option Hea := pV h a ci k (.ref x)
/-- is the place in the row? -/
def inR (i : Int32) (n : Nat) : Bool := decide (0 ≤ i) && decide (i.toNatClampNeg < n)
def ldI (h : Hea) (kd a : Nat) (i : Int32) : Option Int32 := match h.2 a with
  | some (.inl (k, n, .inl f)) => if k = kd ∧ inR i n = true then some (f i.toNatClampNeg) else none
  | _ => none
def ldJ (h : Hea) (a : Nat) (i : Int32) : Option Int64 := match h.2 a with
  | some (.inl (k, n, .inr (.inl f))) => if k = 3 ∧ inR i n = true then some (f i.toNatClampNeg) else none
  | _ => none
def ldR (h : Hea) (kd a : Nat) (i : Int32) : Option Nat := match h.2 a with
  | some (.inl (k, n, .inr (.inr (.inr (.inr f))))) => if k = kd ∧ inR i n = true then f i.toNatClampNeg else none
  | _ => none
def stI (h : Hea) (kd a : Nat) (i x : Int32) : Option Hea := match h.2 a with
  | some (.inl (k, n, .inl f)) => if k = kd ∧ inR i n = true then some (hup h a (cI k n (upd f i.toNatClampNeg x))) else none
  | _ => none
def stB (h : Hea) (a : Nat) (i x : Int32) : Option Hea := match h.2 a with
  | some (.inl (k, n, .inl f)) => if k = 1 ∧ inR i n = true then some (hup h a (cI k n (upd f i.toNatClampNeg (vp_nar .byte x)))) else none
  | _ => none
def stZ (h : Hea) (a : Nat) (i x : Int32) : Option Hea := match h.2 a with
  | some (.inl (k, n, .inl f)) => if k = 2 ∧ inR i n = true then some (hup h a (cI k n (upd f i.toNatClampNeg (vp_nar .boolean x)))) else none
  | _ => none
def stJ (h : Hea) (a : Nat) (i : Int32) (x : Int64) : Option Hea := match h.2 a with
  | some (.inl (k, n, .inr (.inl f))) => if k = 3 ∧ inR i n = true then some (hup h a (cJ n (vp_updL f i.toNatClampNeg x))) else none
  | _ => none
def stR (h : Hea) (kd ci a : Nat) (i : Int32) (x : Nat) : Option Hea := match h.2 a, h.2 x with
  | some (.inl (k, n, .inr (.inr (.inr (.inr f))))), some (.inr (c, _)) => if k = kd ∧ c = ci ∧ inR i n = true then some (hup h a (cR k n (va_up f i.toNatClampNeg (some x)))) else none
  | _, _ => none
def alen (h : Hea) (kd a : Nat) : Option Int32 := match h.2 a with
  | some (.inl (k, n, _)) => if k = kd ∧ n < 2147483648 then some (Int32.ofNat n) else none
  | _ => none
/-- System.arraycopy of whole starts: from place 0 to place 0, n of them -/
def cpI (h : Hea) (a b : Nat) (n : Int32) : Option Hea := match h.2 a, h.2 b with
  | some (.inl (k, n0, .inl f)), some (.inl (k1, n1, .inl g)) => if k = 0 ∧ k1 = 0 ∧ 0 ≤ n ∧ n.toNatClampNeg ≤ n0 ∧ n.toNatClampNeg ≤ n1 then some (hup h b (cI 0 n1 (va_cpy f g 0 0 n.toNatClampNeg))) else none
  | _, _ => none
def cpJ (h : Hea) (a b : Nat) (n : Int32) : Option Hea := match h.2 a, h.2 b with
  | some (.inl (k, n0, .inr (.inl f))), some (.inl (k1, n1, .inr (.inl g))) => if k = 3 ∧ k1 = 3 ∧ 0 ≤ n ∧ n.toNatClampNeg ≤ n0 ∧ n.toNatClampNeg ≤ n1 then some (hup h b (cJ n1 (va_cpy f g 0 0 n.toNatClampNeg))) else none
  | _, _ => none
def nz (y : Int32) : Option Unit := if y = 0 then none else some ()
def nzJ (y : Int64) : Option Unit := if y = 0 then none else some ()
/-- how often a loop may turn: far above what any needs -/
def lots : Nat := 1000
theorem itp {α β : Type} {c : Prop} [Decidable c] {A B : Option α} {K : α → Option β} {o : β} (hc : c) (hf : (if c then A else B).bind K = some o) : A.bind K = some o := by rwa [if_pos hc] at hf
theorem itn {α β : Type} {c : Prop} [Decidable c] {A B : Option α} {K : α → Option β} {o : β} (hc : ¬ c) (hf : (if c then A else B).bind K = some o) : B.bind K = some o := by rwa [if_neg hc] at hf
theorem itp0 {α : Type} {c : Prop} [Decidable c] {A B : Option α} {o : α} (hc : c) (hf : (if c then A else B) = some o) : A = some o := by rwa [if_pos hc] at hf
theorem itn0 {α : Type} {c : Prop} [Decidable c] {A B : Option α} {o : α} (hc : ¬ c) (hf : (if c then A else B) = some o) : B = some o := by rwa [if_neg hc] at hf
end
section
/-! ===== the machine under the abstract heap: AW, and a row for each instruction ===== -/
/-- the words of the tables that hold in every callee too -/
def tb : List Cond := lw_tbl.filter goodWord
theorem tb_good : ∀ w ∈ tb, (w.onTables && w.keeps) = true ∨ ∃ ty, w = .arrayClass ty := fun w h => good_of_word (List.mem_filter.mp h).2
theorem tb_of {w : Cond} (i : Nat) (h : tables_1[i]? = some w) (hg : goodWord w = true) : w ∈ tb := List.mem_filter.mpr ⟨List.mem_append_right _ (List.mem_of_getElem? h), hg⟩
theorem tb_sel {w : Cond} (i : Nat) (h : (k2_sels lw_privs)[i]? = some w) (hg : goodWord w = true) : w ∈ tb := List.mem_filter.mpr ⟨List.mem_append_left _ (List.mem_of_getElem? h), hg⟩
def tysOf (cy : Nat → ClassId) : List (ClassId × FieldType) := [(cy 0, .int), (cy 1, .byte), (cy 2, .boolean), (cy 3, .long), (cy 4, .object RX1), (cy 5, .object RX2), (cy 6, .object RX3)]
def ce (cy : Nat → ClassId) (c : Cel) : va_E := match c with
  | .inl (k, a) => .inl (cy k, a)
  | .inr o => .inr o
/-- the run's constants: the classes' numbers and slots; the array classes; where the String constants and their bytes lie; from where on the run's own cells lie -/
abbrev Gx : Type := va_G × (Nat → ClassId) × (Nat → Nat) × (Nat → Nat) × Nat
abbrev gD (g : Gx) : va_G := g.1
abbrev gY (g : Gx) : Nat → ClassId := g.2.1
abbrev gB (g : Gx) : Nat := g.2.2.2.2
def gA (g : Gx) : Nat → Prop := fun q => gB g ≤ q
def lenS : List Nat := [4, 4, 4, 4, 5]
def bytS : List (List Int32) := [[114, 111, 111, 109], [100, 111, 111, 114], [108, 105, 115, 116], [104, 101, 105, 114], [104, 111, 117, 115, 101]]
/-- what is known of the tables at a method's entry -/
def nstW : List (String × Nat × MethodName) := [(RX1, 29, yX3_init), (RX2, 21, yX3_init), (RX7, 40, yX0_init), (RX0, 11, yX3_init), (RX7, 47, yX6_init), (RX6, 13, yX3_init), (RX7, 54, yX5_init), (RX7, 61, yX4_init), (RX4, 116, yX7_within)]
def Kn (g : Gx) (U : State) : Prop := va_K (gD g) vwCl (tysOf (gY g)) U ∧ va_AO RX1 U ∧ va_AO RX2 U ∧ va_AO RX3 U ∧ (∀ q ∈ nstW, va_Nw (.methodLinkNest q.1 q.2.1 q.2.2 "FoundLast") U) ∧
  vk_S 5 lenS bytS g.2.2.1 g.2.2.2.1 (gA g) U U.heap ∧ vk_R RX4 57 "room" (g.2.2.1 0) U ∧ vk_R RX4 66 "door" (g.2.2.1 1) U ∧ vk_R RX4 71 "list" (g.2.2.1 2) U ∧ vk_R RX4 76 "heir" (g.2.2.1 3) U ∧ vk_R RX4 89 "house" (g.2.2.1 4) U ∧
  va_Z "java/lang/String" "COMPACT_STRINGS" "Z" (.int 1) (gA g) U U.heap
def Hp (g : Gx) (h : Hea) (H : Heap) : Prop := H.size = h.1 ∧ ∀ a c, h.2 a = some c → gB g ≤ a ∧ va_at (gD g) vwCl (a, ce (gY g) c) H
def rmk (d k n : Nat) : Room := { frames := d, cells := k, slots := n, locals := 36 * d }
def wsM (y : MethodName) (cc : ByteArray) (mL : Nat) (ret : Option FieldType) : List Cond := .code y cc mL ret :: tb
def MPc (g : Gx) (vs : List Value) (h : Hea) : Array Value → State → Prop := va_Pc vs (fun U => Hp g h U.heap ∧ Kn g U)
def MQc (g : Gx) (r : Option Value) (h' : Hea) : Array Value → State → Outcome → State → Prop := fun _ st oc t => oc = .returned r ∧ Hp g h' t.heap ∧ va_F (gA g) st t
/-- y's contract: from the abstract heap h with the arguments vs it returns res.1, and the heap is res.2; it makes k cells of n slots, and calls d deep -/
def MC (g : Gx) (y : MethodName) (cc : ByteArray) (mL : Nat) (ret : Option FieldType) (d k n : Nat) (vs : List Value) (h : Hea) (res : Option Value × Hea) : Prop :=
  ∀ l : Launch, Met l y (wsM y cc mL ret) (rmk d k n) (MPc g vs h) (MQc g res.1 res.2) k n (gA g)
/-- what stays during a method: Y is (maxLocals, what it returns, its name, how deep it calls, the cells and slots that it makes) -/
abbrev Ym : Type := Nat × Option FieldType × String × Nat × Nat × Nat
def Cx (g : Gx) (own : String) (cc : ByteArray) (Y : Ym) (p : Program) (s : State) (m : MethodId) (args : Array Value) (meth : Method) (c : Code) : Prop :=
  p.tables.exec = Jvm.exec ∧ c.code = cc ∧ c.maxLocals = Y.1 ∧ meth.sig.returnType = Y.2.1 ∧ meth.locks = false ∧ meth.name = Y.2.2.1 ∧ s.vm.findClass own = some m.cls ∧ (∀ w ∈ tb, w.before args s = true) ∧ Kn g s
abbrev Yr (Y : Ym) : Room := rmk Y.2.2.2.1 Y.2.2.2.2.1 Y.2.2.2.2.2
def AW (g : Gx) (own : String) (cc : ByteArray) (Y : Ym) (res : Option Value × Hea) (pc : Nat) (L : List (Nat × Value)) (st : List Value) (h : Hea) (ck cn : Nat) : Prop :=
  ∀ (l : Launch) (p : Program) (e : Env) (s : State) (m : MethodId) (args : Array Value) (below : List Frame) (meth : Method) (c : Code), Cx g own cc Y p s m args meth c →
    ∀ (H : Heap) (locs : List Loc) (ls : Array Slot), Hp g h H → va_S (gA g) s.heap H locs → lv_has ls Y.1 L →
      W p l e (Yr Y) s m args below meth c H locs ck cn (MQ below (MQc g res.1 res.2) args s Y.2.2.2.2.1 Y.2.2.2.2.2 (gA g)) (F0 m pc ls st)
section
variable {g : Gx} {own : String} {cc : ByteArray} {Y : Ym} {res : Option Value × Hea} {pc : Nat} {L : List (Nat × Value)} {st : List Value} {h : Hea} {ck cn : Nat}
theorem aw_pick (ks : List Nat) {L' : List (Nat × Value)} (hp : lv_pick L ks = L') (kk : AW g own cc Y res pc L' st h ck cn) : AW g own cc Y res pc L st h ck cn :=
  fun l p e s m args below meth c C H locs ls hP hS hl => kk l p e s m args below meth c C H locs ls hP hS (lv_sub hl ks hp)
theorem aw_iconst {n : Int} {v : Int32} (hd : decode cc pc = .ok (.iconst n, 1)) (hv : Int32.ofInt n = v) (kk : AW g own cc Y res (pc + 1) L (.int v :: st) h ck cn) : AW g own cc Y res pc L st h ck cn :=
  fun l p e s m args below meth c C H locs ls hP hS hl => lv_iconst C.1 C.2.1 hd hv (kk l p e s m args below meth c C H locs ls hP hS hl)
theorem aw_bipush {n : Int} {v : Int32} (hd : decode cc pc = .ok (.bipush n, 2)) (hv : (Int8.ofInt n).toInt32 = v) (kk : AW g own cc Y res (pc + 2) L (.int v :: st) h ck cn) : AW g own cc Y res pc L st h ck cn :=
  fun l p e s m args below meth c C H locs ls hP hS hl => lv_bipush C.1 C.2.1 hd hv (kk l p e s m args below meth c C H locs ls hP hS hl)
theorem aw_sipush {n : Int} {v : Int32} (hd : decode cc pc = .ok (.sipush n, 3)) (hv : (Int16.ofInt n).toInt32 = v) (kk : AW g own cc Y res (pc + 3) L (.int v :: st) h ck cn) : AW g own cc Y res pc L st h ck cn :=
  fun l p e s m args below meth c C H locs ls hP hS hl => lv_sipush C.1 C.2.1 hd hv (kk l p e s m args below meth c C H locs ls hP hS hl)
theorem aw_lconst {n : Fin 2} {v : Int64} (hd : decode cc pc = .ok (.lconst n, 1)) (hv : Int64.ofNat (n : Nat) = v) (kk : AW g own cc Y res (pc + 1) L (.long v :: st) h ck cn) : AW g own cc Y res pc L st h ck cn :=
  fun l p e s m args below meth c C H locs ls hP hS hl => lv_lconst C.1 C.2.1 hd hv (kk l p e s m args below meth c C H locs ls hP hS hl)
theorem aw_ldc {i : Nat} {v : Int32} (hw : Cond.constant own i v ∈ tb) (hd : decode cc pc = .ok (.ldc i, 2)) (kk : AW g own cc Y res (pc + 2) L (.int v :: st) h ck cn) : AW g own cc Y res pc L st h ck cn :=
  fun l p e s m args below meth c C H locs ls hP hS hl => lv_ldc C.1 C.2.1 C.2.2.2.2.2.2.1 (C.2.2.2.2.2.2.2.1 _ hw) hd (kk l p e s m args below meth c C H locs ls hP hS hl)
theorem aw_ldc2 {i : Nat} {v : Int64} (hw : Cond.constantLong own i v ∈ tb) (hd : decode cc pc = .ok (.ldc2_w i, 3)) (kk : AW g own cc Y res (pc + 3) L (.long v :: st) h ck cn) : AW g own cc Y res pc L st h ck cn :=
  fun l p e s m args below meth c C H locs ls hP hS hl => lv_ldc2 C.1 C.2.1 C.2.2.2.2.2.2.1 (C.2.2.2.2.2.2.2.1 _ hw) hd (kk l p e s m args below meth c C H locs ls hP hS hl)
theorem aw_iload_n {k : Fin 4} {x : Int32} (q : Nat) (hd : decode cc pc = .ok (.iload_n k, 1)) (hq : L[q]? = some ((k : Nat), .int x)) (kk : AW g own cc Y res (pc + 1) L (.int x :: st) h ck cn) : AW g own cc Y res pc L st h ck cn :=
  fun l p e s m args below meth c C H locs ls hP hS hl => lv_iload_n C.1 C.2.1 hd rfl (lv_at hl q hq) (kk l p e s m args below meth c C H locs ls hP hS hl)
theorem aw_iload {k : Nat} {x : Int32} (q : Nat) (hd : decode cc pc = .ok (.iload k, 2)) (hq : L[q]? = some (k, .int x)) (kk : AW g own cc Y res (pc + 2) L (.int x :: st) h ck cn) : AW g own cc Y res pc L st h ck cn :=
  fun l p e s m args below meth c C H locs ls hP hS hl => lv_iload C.1 C.2.1 hd (lv_at hl q hq) (kk l p e s m args below meth c C H locs ls hP hS hl)
theorem aw_lload_n {k : Fin 4} {x : Int64} (q : Nat) (hd : decode cc pc = .ok (.lload_n k, 1)) (hq : L[q]? = some ((k : Nat), .long x)) (kk : AW g own cc Y res (pc + 1) L (.long x :: st) h ck cn) : AW g own cc Y res pc L st h ck cn :=
  fun l p e s m args below meth c C H locs ls hP hS hl => lv_lload_n C.1 C.2.1 hd rfl (lv_at hl q hq) (kk l p e s m args below meth c C H locs ls hP hS hl)
theorem aw_lload {k : Nat} {x : Int64} (q : Nat) (hd : decode cc pc = .ok (.lload k, 2)) (hq : L[q]? = some (k, .long x)) (kk : AW g own cc Y res (pc + 2) L (.long x :: st) h ck cn) : AW g own cc Y res pc L st h ck cn :=
  fun l p e s m args below meth c C H locs ls hP hS hl => lv_lload C.1 C.2.1 hd (lv_at hl q hq) (kk l p e s m args below meth c C H locs ls hP hS hl)
theorem aw_aload_n {k : Fin 4} {x : Nat} (q : Nat) (hd : decode cc pc = .ok (.aload_n k, 1)) (hq : L[q]? = some ((k : Nat), .ref x)) (kk : AW g own cc Y res (pc + 1) L (.ref x :: st) h ck cn) : AW g own cc Y res pc L st h ck cn :=
  fun l p e s m args below meth c C H locs ls hP hS hl => lv_aload_n C.1 C.2.1 hd rfl (lv_at hl q hq) (kk l p e s m args below meth c C H locs ls hP hS hl)
theorem aw_aload {k : Nat} {x : Nat} (q : Nat) (hd : decode cc pc = .ok (.aload k, 2)) (hq : L[q]? = some (k, .ref x)) (kk : AW g own cc Y res (pc + 2) L (.ref x :: st) h ck cn) : AW g own cc Y res pc L st h ck cn :=
  fun l p e s m args below meth c C H locs ls hP hS hl => lv_aload C.1 C.2.1 hd (lv_at hl q hq) (kk l p e s m args below meth c C H locs ls hP hS hl)
/-- the list of known locals behind a store of one word, of two -/
def sto1 (i : Nat) (v : Value) (L : List (Nat × Value)) : List (Nat × Value) := (i, v) :: L.filter (fun q => !(q.1 == i) && !(q.1 + 1 == i && q.2.category == 2))
def sto2 (i : Nat) (v : Value) (L : List (Nat × Value)) : List (Nat × Value) := (i, v) :: L.filter (fun q => !(q.1 == i) && (!(q.1 == i + 1) && !(q.1 + 1 == i && q.2.category == 2)))
theorem aw_istore_n {k : Fin 4} {x : Int32} (L' : List (Nat × Value)) (hd : decode cc pc = .ok (.istore_n k, 1)) (hn : (k : Nat) < Y.1) (hL : sto1 k (.int x) L = L') (kk : AW g own cc Y res (pc + 1) L' st h ck cn) : AW g own cc Y res pc L (.int x :: st) h ck cn :=
  fun l p e s m args below meth c C H locs ls hP hS hl => lv_istore_n C.1 C.2.1 hd rfl hl hn hL (fun ls' hl' => kk l p e s m args below meth c C H locs ls' hP hS hl')
theorem aw_istore {k : Nat} {x : Int32} (L' : List (Nat × Value)) (hd : decode cc pc = .ok (.istore k, 2)) (hn : k < Y.1) (hL : sto1 k (.int x) L = L') (kk : AW g own cc Y res (pc + 2) L' st h ck cn) : AW g own cc Y res pc L (.int x :: st) h ck cn :=
  fun l p e s m args below meth c C H locs ls hP hS hl => lv_istore C.1 C.2.1 hd hl hn hL (fun ls' hl' => kk l p e s m args below meth c C H locs ls' hP hS hl')
theorem aw_lstore_n {k : Fin 4} {x : Int64} (L' : List (Nat × Value)) (hd : decode cc pc = .ok (.lstore_n k, 1)) (hn : (k : Nat) + 1 < Y.1) (hL : sto2 k (.long x) L = L') (kk : AW g own cc Y res (pc + 1) L' st h ck cn) : AW g own cc Y res pc L (.long x :: st) h ck cn :=
  fun l p e s m args below meth c C H locs ls hP hS hl => lv_lstore_n C.1 C.2.1 hd rfl hl hn hL (fun ls' hl' => kk l p e s m args below meth c C H locs ls' hP hS hl')
theorem aw_lstore {k : Nat} {x : Int64} (L' : List (Nat × Value)) (hd : decode cc pc = .ok (.lstore k, 2)) (hn : k + 1 < Y.1) (hL : sto2 k (.long x) L = L') (kk : AW g own cc Y res (pc + 2) L' st h ck cn) : AW g own cc Y res pc L (.long x :: st) h ck cn :=
  fun l p e s m args below meth c C H locs ls hP hS hl => lv_lstore C.1 C.2.1 hd hl hn hL (fun ls' hl' => kk l p e s m args below meth c C H locs ls' hP hS hl')
theorem aw_astore_n {k : Fin 4} {x : Nat} (L' : List (Nat × Value)) (hd : decode cc pc = .ok (.astore_n k, 1)) (hn : (k : Nat) < Y.1) (hL : sto1 k (.ref x) L = L') (kk : AW g own cc Y res (pc + 1) L' st h ck cn) : AW g own cc Y res pc L (.ref x :: st) h ck cn :=
  fun l p e s m args below meth c C H locs ls hP hS hl => lv_astore_n C.1 C.2.1 hd rfl hl hn hL (fun ls' hl' => kk l p e s m args below meth c C H locs ls' hP hS hl')
theorem aw_astore {k : Nat} {x : Nat} (L' : List (Nat × Value)) (hd : decode cc pc = .ok (.astore k, 2)) (hn : k < Y.1) (hL : sto1 k (.ref x) L = L') (kk : AW g own cc Y res (pc + 2) L' st h ck cn) : AW g own cc Y res pc L (.ref x :: st) h ck cn :=
  fun l p e s m args below meth c C H locs ls hP hS hl => lv_astore C.1 C.2.1 hd hl hn hL (fun ls' hl' => kk l p e s m args below meth c C H locs ls' hP hS hl')
theorem aw_iinc {k : Nat} {n : Int} {x : Int32} (v : Int32) (L' : List (Nat × Value)) (q : Nat) (hd : decode cc pc = .ok (.iinc k n, 3)) (hq : L[q]? = some (k, .int x)) (hv : x + Int32.ofInt n = v) (hn : k < Y.1) (hL : sto1 k (.int v) L = L') (kk : AW g own cc Y res (pc + 3) L' st h ck cn) : AW g own cc Y res pc L st h ck cn :=
  fun l p e s m args below meth c C H locs ls hP hS hl => lv_iinc C.1 C.2.1 hd hl hq hv hn hL (fun ls' hl' => kk l p e s m args below meth c C H locs ls' hP hS hl')
theorem aw_iadd {x y : Int32} (hd : decode cc pc = .ok (.iadd, 1)) (kk : AW g own cc Y res (pc + 1) L (.int (x + y) :: st) h ck cn) : AW g own cc Y res pc L (.int y :: .int x :: st) h ck cn :=
  fun l p e s m args below meth c C H locs ls hP hS hl => lv_iadd C.1 C.2.1 hd (kk l p e s m args below meth c C H locs ls hP hS hl)
theorem aw_isub {x y : Int32} (hd : decode cc pc = .ok (.isub, 1)) (kk : AW g own cc Y res (pc + 1) L (.int (x - y) :: st) h ck cn) : AW g own cc Y res pc L (.int y :: .int x :: st) h ck cn :=
  fun l p e s m args below meth c C H locs ls hP hS hl => lv_isub C.1 C.2.1 hd (kk l p e s m args below meth c C H locs ls hP hS hl)
theorem aw_imul {x y : Int32} (hd : decode cc pc = .ok (.imul, 1)) (kk : AW g own cc Y res (pc + 1) L (.int (x * y) :: st) h ck cn) : AW g own cc Y res pc L (.int y :: .int x :: st) h ck cn :=
  fun l p e s m args below meth c C H locs ls hP hS hl => lv_imul C.1 C.2.1 hd (kk l p e s m args below meth c C H locs ls hP hS hl)
theorem aw_iand {x y : Int32} (hd : decode cc pc = .ok (.iand, 1)) (kk : AW g own cc Y res (pc + 1) L (.int (x &&& y) :: st) h ck cn) : AW g own cc Y res pc L (.int y :: .int x :: st) h ck cn :=
  fun l p e s m args below meth c C H locs ls hP hS hl => lv_iand C.1 C.2.1 hd (kk l p e s m args below meth c C H locs ls hP hS hl)
theorem aw_ior {x y : Int32} (hd : decode cc pc = .ok (.ior, 1)) (kk : AW g own cc Y res (pc + 1) L (.int (x ||| y) :: st) h ck cn) : AW g own cc Y res pc L (.int y :: .int x :: st) h ck cn :=
  fun l p e s m args below meth c C H locs ls hP hS hl => lv_ior C.1 C.2.1 hd (kk l p e s m args below meth c C H locs ls hP hS hl)
theorem aw_ixor {x y : Int32} (hd : decode cc pc = .ok (.ixor, 1)) (kk : AW g own cc Y res (pc + 1) L (.int (x ^^^ y) :: st) h ck cn) : AW g own cc Y res pc L (.int y :: .int x :: st) h ck cn :=
  fun l p e s m args below meth c C H locs ls hP hS hl => lv_ixor C.1 C.2.1 hd (kk l p e s m args below meth c C H locs ls hP hS hl)
theorem aw_ishl {x y : Int32} (hd : decode cc pc = .ok (.ishl, 1)) (kk : AW g own cc Y res (pc + 1) L (.int (x <<< (y &&& 31)) :: st) h ck cn) : AW g own cc Y res pc L (.int y :: .int x :: st) h ck cn :=
  fun l p e s m args below meth c C H locs ls hP hS hl => lv_ishl C.1 C.2.1 hd (kk l p e s m args below meth c C H locs ls hP hS hl)
theorem aw_ishr {x y : Int32} (hd : decode cc pc = .ok (.ishr, 1)) (kk : AW g own cc Y res (pc + 1) L (.int (x >>> (y &&& 31)) :: st) h ck cn) : AW g own cc Y res pc L (.int y :: .int x :: st) h ck cn :=
  fun l p e s m args below meth c C H locs ls hP hS hl => lv_ishr C.1 C.2.1 hd (kk l p e s m args below meth c C H locs ls hP hS hl)
theorem aw_ladd {x y : Int64} (hd : decode cc pc = .ok (.ladd, 1)) (kk : AW g own cc Y res (pc + 1) L (.long (x + y) :: st) h ck cn) : AW g own cc Y res pc L (.long y :: .long x :: st) h ck cn :=
  fun l p e s m args below meth c C H locs ls hP hS hl => lv_ladd C.1 C.2.1 hd (kk l p e s m args below meth c C H locs ls hP hS hl)
theorem aw_lsub {x y : Int64} (hd : decode cc pc = .ok (.lsub, 1)) (kk : AW g own cc Y res (pc + 1) L (.long (x - y) :: st) h ck cn) : AW g own cc Y res pc L (.long y :: .long x :: st) h ck cn :=
  fun l p e s m args below meth c C H locs ls hP hS hl => lv_lsub C.1 C.2.1 hd (kk l p e s m args below meth c C H locs ls hP hS hl)
theorem aw_lmul {x y : Int64} (hd : decode cc pc = .ok (.lmul, 1)) (kk : AW g own cc Y res (pc + 1) L (.long (x * y) :: st) h ck cn) : AW g own cc Y res pc L (.long y :: .long x :: st) h ck cn :=
  fun l p e s m args below meth c C H locs ls hP hS hl => lv_lmul C.1 C.2.1 hd (kk l p e s m args below meth c C H locs ls hP hS hl)
theorem aw_idiv0 {x y : Int32} (hd : decode cc pc = .ok (.idiv, 1)) (hne : ¬ y = 0) (kk : AW g own cc Y res (pc + 1) L (.int (x / y) :: st) h ck cn) : AW g own cc Y res pc L (.int y :: .int x :: st) h ck cn :=
  fun l p e s m args below meth c C H locs ls hP hS hl => lv_idiv C.1 C.2.1 hd hne (kk l p e s m args below meth c C H locs ls hP hS hl)
theorem aw_idiv {x y : Int32} {ρ : Type} {K : Unit → Option ρ} {o : ρ} (hd : decode cc pc = .ok (.idiv, 1)) (hf : (nz y).bind K = some o) (kk : K () = some o → AW g own cc Y res (pc + 1) L (.int (x / y) :: st) h ck cn) : AW g own cc Y res pc L (.int y :: .int x :: st) h ck cn := by
  by_cases hy : y = 0
  · rw [nz, if_pos hy] at hf
    cases hf
  · rw [nz, if_neg hy] at hf
    exact aw_idiv0 hd hy (kk hf)
theorem aw_irem0 {x y : Int32} (hd : decode cc pc = .ok (.irem, 1)) (hne : ¬ y = 0) (kk : AW g own cc Y res (pc + 1) L (.int (x - x / y * y) :: st) h ck cn) : AW g own cc Y res pc L (.int y :: .int x :: st) h ck cn :=
  fun l p e s m args below meth c C H locs ls hP hS hl => lv_irem C.1 C.2.1 hd hne (kk l p e s m args below meth c C H locs ls hP hS hl)
theorem aw_irem {x y : Int32} {ρ : Type} {K : Unit → Option ρ} {o : ρ} (hd : decode cc pc = .ok (.irem, 1)) (hf : (nz y).bind K = some o) (kk : K () = some o → AW g own cc Y res (pc + 1) L (.int (x - x / y * y) :: st) h ck cn) : AW g own cc Y res pc L (.int y :: .int x :: st) h ck cn := by
  by_cases hy : y = 0
  · rw [nz, if_pos hy] at hf
    cases hf
  · rw [nz, if_neg hy] at hf
    exact aw_irem0 hd hy (kk hf)
theorem aw_ldiv0 {x y : Int64} (hd : decode cc pc = .ok (.ldiv, 1)) (hne : ¬ y = 0) (kk : AW g own cc Y res (pc + 1) L (.long (x / y) :: st) h ck cn) : AW g own cc Y res pc L (.long y :: .long x :: st) h ck cn :=
  fun l p e s m args below meth c C H locs ls hP hS hl => lv_ldiv C.1 C.2.1 hd hne (kk l p e s m args below meth c C H locs ls hP hS hl)
theorem aw_ldiv {x y : Int64} {ρ : Type} {K : Unit → Option ρ} {o : ρ} (hd : decode cc pc = .ok (.ldiv, 1)) (hf : (nzJ y).bind K = some o) (kk : K () = some o → AW g own cc Y res (pc + 1) L (.long (x / y) :: st) h ck cn) : AW g own cc Y res pc L (.long y :: .long x :: st) h ck cn := by
  by_cases hy : y = 0
  · rw [nzJ, if_pos hy] at hf
    cases hf
  · rw [nzJ, if_neg hy] at hf
    exact aw_ldiv0 hd hy (kk hf)
theorem aw_lrem0 {x y : Int64} (hd : decode cc pc = .ok (.lrem, 1)) (hne : ¬ y = 0) (kk : AW g own cc Y res (pc + 1) L (.long (x - x / y * y) :: st) h ck cn) : AW g own cc Y res pc L (.long y :: .long x :: st) h ck cn :=
  fun l p e s m args below meth c C H locs ls hP hS hl => lv_lrem C.1 C.2.1 hd hne (kk l p e s m args below meth c C H locs ls hP hS hl)
theorem aw_lrem {x y : Int64} {ρ : Type} {K : Unit → Option ρ} {o : ρ} (hd : decode cc pc = .ok (.lrem, 1)) (hf : (nzJ y).bind K = some o) (kk : K () = some o → AW g own cc Y res (pc + 1) L (.long (x - x / y * y) :: st) h ck cn) : AW g own cc Y res pc L (.long y :: .long x :: st) h ck cn := by
  by_cases hy : y = 0
  · rw [nzJ, if_pos hy] at hf
    cases hf
  · rw [nzJ, if_neg hy] at hf
    exact aw_lrem0 hd hy (kk hf)
theorem aw_i2l {x : Int32} (hd : decode cc pc = .ok (.i2l, 1)) (kk : AW g own cc Y res (pc + 1) L (.long x.toInt64 :: st) h ck cn) : AW g own cc Y res pc L (.int x :: st) h ck cn :=
  fun l p e s m args below meth c C H locs ls hP hS hl => lv_i2l C.1 C.2.1 hd rfl (kk l p e s m args below meth c C H locs ls hP hS hl)
theorem aw_l2i {x : Int64} (hd : decode cc pc = .ok (.l2i, 1)) (kk : AW g own cc Y res (pc + 1) L (.int x.toInt32 :: st) h ck cn) : AW g own cc Y res pc L (.long x :: st) h ck cn :=
  fun l p e s m args below meth c C H locs ls hP hS hl => lv_l2i C.1 C.2.1 hd rfl (kk l p e s m args below meth c C H locs ls hP hS hl)
theorem aw_i2b {x : Int32} (hd : decode cc pc = .ok (.i2b, 1)) (kk : AW g own cc Y res (pc + 1) L (.int x.toInt8.toInt32 :: st) h ck cn) : AW g own cc Y res pc L (.int x :: st) h ck cn :=
  fun l p e s m args below meth c C H locs ls hP hS hl => lv_i2b C.1 C.2.1 hd rfl (kk l p e s m args below meth c C H locs ls hP hS hl)
theorem aw_lcmp {x y : Int64} (hd : decode cc pc = .ok (.lcmp, 1)) (kk : AW g own cc Y res (pc + 1) L (.int (lg_cmp x y) :: st) h ck cn) : AW g own cc Y res pc L (.long y :: .long x :: st) h ck cn :=
  fun l p e s m args below meth c C H locs ls hP hS hl => W.lcmp C.1 C.2.1 hd (kk l p e s m args below meth c C H locs ls hP hS hl)
theorem aw_dup {v : Value} (hd : decode cc pc = .ok (.dup, 1)) (hv : v.category = 1) (kk : AW g own cc Y res (pc + 1) L (v :: v :: st) h ck cn) : AW g own cc Y res pc L (v :: st) h ck cn :=
  fun l p e s m args below meth c C H locs ls hP hS hl => lv_dup C.1 C.2.1 hd hv (kk l p e s m args below meth c C H locs ls hP hS hl)
theorem aw_pop {v : Value} (hd : decode cc pc = .ok (.pop, 1)) (hv : v.category = 1) (kk : AW g own cc Y res (pc + 1) L st h ck cn) : AW g own cc Y res pc L (v :: st) h ck cn :=
  fun l p e s m args below meth c C H locs ls hP hS hl => lv_pop C.1 C.2.1 hd hv (kk l p e s m args below meth c C H locs ls hP hS hl)
theorem aw_dup2 {va vb : Value} (hd : decode cc pc = .ok (.dup2, 1)) (hva : va.category = 1) (hvb : vb.category = 1) (kk : AW g own cc Y res (pc + 1) L (va :: vb :: va :: vb :: st) h ck cn) : AW g own cc Y res pc L (va :: vb :: st) h ck cn :=
  fun l p e s m args below meth c C H locs ls hP hS hl => lv_dup2_11 C.1 C.2.1 hd hva hvb (kk l p e s m args below meth c C H locs ls hP hS hl)
theorem aw_goto {off : Int} {tgt : Nat} (hd : decode cc pc = .ok (.goto off, 3)) (ht : (pc : Int) + off = (tgt : Int)) (kk : AW g own cc Y res tgt L st h ck cn) : AW g own cc Y res pc L st h ck cn :=
  fun l p e s m args below meth c C H locs ls hP hS hl => lv_goto C.1 C.2.1 hd ht (kk l p e s m args below meth c C H locs ls hP hS hl)
theorem aw_if_eq {x : Int32} {off : Int} {tgt : Nat} (hd : decode cc pc = .ok (.ifCond .eq off, 3)) (ht : (pc : Int) + off = (tgt : Int)) (kt : x = 0 → AW g own cc Y res tgt L st h ck cn) (kf : ¬ x = 0 → AW g own cc Y res (pc + 3) L st h ck cn) : AW g own cc Y res pc L (.int x :: st) h ck cn :=
  fun l p e s m args below meth c C H locs ls hP hS hl => lv_if_eq C.1 C.2.1 hd ht (fun hc => kt hc l p e s m args below meth c C H locs ls hP hS hl) (fun hc => kf hc l p e s m args below meth c C H locs ls hP hS hl)
theorem aw_if_ne {x : Int32} {off : Int} {tgt : Nat} (hd : decode cc pc = .ok (.ifCond .ne off, 3)) (ht : (pc : Int) + off = (tgt : Int)) (kt : ¬ x = 0 → AW g own cc Y res tgt L st h ck cn) (kf : x = 0 → AW g own cc Y res (pc + 3) L st h ck cn) : AW g own cc Y res pc L (.int x :: st) h ck cn :=
  fun l p e s m args below meth c C H locs ls hP hS hl => lv_if_ne C.1 C.2.1 hd ht (fun hc => kt hc l p e s m args below meth c C H locs ls hP hS hl) (fun hc => kf hc l p e s m args below meth c C H locs ls hP hS hl)
theorem aw_if_lt {x : Int32} {off : Int} {tgt : Nat} (hd : decode cc pc = .ok (.ifCond .lt off, 3)) (ht : (pc : Int) + off = (tgt : Int)) (kt : x < 0 → AW g own cc Y res tgt L st h ck cn) (kf : ¬ x < 0 → AW g own cc Y res (pc + 3) L st h ck cn) : AW g own cc Y res pc L (.int x :: st) h ck cn :=
  fun l p e s m args below meth c C H locs ls hP hS hl => lv_if_lt C.1 C.2.1 hd ht (fun hc => kt hc l p e s m args below meth c C H locs ls hP hS hl) (fun hc => kf hc l p e s m args below meth c C H locs ls hP hS hl)
theorem aw_if_ge {x : Int32} {off : Int} {tgt : Nat} (hd : decode cc pc = .ok (.ifCond .ge off, 3)) (ht : (pc : Int) + off = (tgt : Int)) (kt : 0 ≤ x → AW g own cc Y res tgt L st h ck cn) (kf : ¬ 0 ≤ x → AW g own cc Y res (pc + 3) L st h ck cn) : AW g own cc Y res pc L (.int x :: st) h ck cn :=
  fun l p e s m args below meth c C H locs ls hP hS hl => lv_if_ge C.1 C.2.1 hd ht (fun hc => kt hc l p e s m args below meth c C H locs ls hP hS hl) (fun hc => kf hc l p e s m args below meth c C H locs ls hP hS hl)
theorem aw_if_gt {x : Int32} {off : Int} {tgt : Nat} (hd : decode cc pc = .ok (.ifCond .gt off, 3)) (ht : (pc : Int) + off = (tgt : Int)) (kt : 0 < x → AW g own cc Y res tgt L st h ck cn) (kf : ¬ 0 < x → AW g own cc Y res (pc + 3) L st h ck cn) : AW g own cc Y res pc L (.int x :: st) h ck cn :=
  fun l p e s m args below meth c C H locs ls hP hS hl => lv_if_gt C.1 C.2.1 hd ht (fun hc => kt hc l p e s m args below meth c C H locs ls hP hS hl) (fun hc => kf hc l p e s m args below meth c C H locs ls hP hS hl)
theorem aw_if_le {x : Int32} {off : Int} {tgt : Nat} (hd : decode cc pc = .ok (.ifCond .le off, 3)) (ht : (pc : Int) + off = (tgt : Int)) (kt : x ≤ 0 → AW g own cc Y res tgt L st h ck cn) (kf : ¬ x ≤ 0 → AW g own cc Y res (pc + 3) L st h ck cn) : AW g own cc Y res pc L (.int x :: st) h ck cn :=
  fun l p e s m args below meth c C H locs ls hP hS hl => lv_if_le C.1 C.2.1 hd ht (fun hc => kt hc l p e s m args below meth c C H locs ls hP hS hl) (fun hc => kf hc l p e s m args below meth c C H locs ls hP hS hl)
theorem aw_icmp_eq {x y : Int32} {off : Int} {tgt : Nat} (hd : decode cc pc = .ok (.if_icmp .eq off, 3)) (ht : (pc : Int) + off = (tgt : Int)) (kt : x = y → AW g own cc Y res tgt L st h ck cn) (kf : ¬ x = y → AW g own cc Y res (pc + 3) L st h ck cn) : AW g own cc Y res pc L (.int y :: .int x :: st) h ck cn :=
  fun l p e s m args below meth c C H locs ls hP hS hl => lv_icmp_eq C.1 C.2.1 hd ht (fun hc => kt hc l p e s m args below meth c C H locs ls hP hS hl) (fun hc => kf hc l p e s m args below meth c C H locs ls hP hS hl)
theorem aw_icmp_ne {x y : Int32} {off : Int} {tgt : Nat} (hd : decode cc pc = .ok (.if_icmp .ne off, 3)) (ht : (pc : Int) + off = (tgt : Int)) (kt : ¬ x = y → AW g own cc Y res tgt L st h ck cn) (kf : x = y → AW g own cc Y res (pc + 3) L st h ck cn) : AW g own cc Y res pc L (.int y :: .int x :: st) h ck cn :=
  fun l p e s m args below meth c C H locs ls hP hS hl => lv_icmp_ne C.1 C.2.1 hd ht (fun hc => kt hc l p e s m args below meth c C H locs ls hP hS hl) (fun hc => kf hc l p e s m args below meth c C H locs ls hP hS hl)
theorem aw_icmp_lt {x y : Int32} {off : Int} {tgt : Nat} (hd : decode cc pc = .ok (.if_icmp .lt off, 3)) (ht : (pc : Int) + off = (tgt : Int)) (kt : x < y → AW g own cc Y res tgt L st h ck cn) (kf : ¬ x < y → AW g own cc Y res (pc + 3) L st h ck cn) : AW g own cc Y res pc L (.int y :: .int x :: st) h ck cn :=
  fun l p e s m args below meth c C H locs ls hP hS hl => lv_icmp_lt C.1 C.2.1 hd ht (fun hc => kt hc l p e s m args below meth c C H locs ls hP hS hl) (fun hc => kf hc l p e s m args below meth c C H locs ls hP hS hl)
theorem aw_icmp_ge {x y : Int32} {off : Int} {tgt : Nat} (hd : decode cc pc = .ok (.if_icmp .ge off, 3)) (ht : (pc : Int) + off = (tgt : Int)) (kt : y ≤ x → AW g own cc Y res tgt L st h ck cn) (kf : ¬ y ≤ x → AW g own cc Y res (pc + 3) L st h ck cn) : AW g own cc Y res pc L (.int y :: .int x :: st) h ck cn :=
  fun l p e s m args below meth c C H locs ls hP hS hl => lv_icmp_ge C.1 C.2.1 hd ht (fun hc => kt hc l p e s m args below meth c C H locs ls hP hS hl) (fun hc => kf hc l p e s m args below meth c C H locs ls hP hS hl)
theorem aw_icmp_gt {x y : Int32} {off : Int} {tgt : Nat} (hd : decode cc pc = .ok (.if_icmp .gt off, 3)) (ht : (pc : Int) + off = (tgt : Int)) (kt : y < x → AW g own cc Y res tgt L st h ck cn) (kf : ¬ y < x → AW g own cc Y res (pc + 3) L st h ck cn) : AW g own cc Y res pc L (.int y :: .int x :: st) h ck cn :=
  fun l p e s m args below meth c C H locs ls hP hS hl => lv_icmp_gt C.1 C.2.1 hd ht (fun hc => kt hc l p e s m args below meth c C H locs ls hP hS hl) (fun hc => kf hc l p e s m args below meth c C H locs ls hP hS hl)
theorem aw_icmp_le {x y : Int32} {off : Int} {tgt : Nat} (hd : decode cc pc = .ok (.if_icmp .le off, 3)) (ht : (pc : Int) + off = (tgt : Int)) (kt : x ≤ y → AW g own cc Y res tgt L st h ck cn) (kf : ¬ x ≤ y → AW g own cc Y res (pc + 3) L st h ck cn) : AW g own cc Y res pc L (.int y :: .int x :: st) h ck cn :=
  fun l p e s m args below meth c C H locs ls hP hS hl => lv_icmp_le C.1 C.2.1 hd ht (fun hc => kt hc l p e s m args below meth c C H locs ls hP hS hl) (fun hc => kf hc l p e s m args below meth c C H locs ls hP hS hl)
theorem aw_tsIn {dflt lo hi : Int} {offs : Array Int} {len : Nat} {x : Int32} {off : Int} {tgt : Nat} (hd : decode cc pc = .ok (.tableswitch dflt lo hi offs, len)) (h1 : ¬ x.toInt < lo) (h2 : ¬ hi < x.toInt) (ho : offs[(x.toInt - lo).toNat]? = some off) (ht : (pc : Int) + off = (tgt : Int)) (kk : AW g own cc Y res tgt L st h ck cn) : AW g own cc Y res pc L (.int x :: st) h ck cn :=
  fun l p e s m args below meth c C H locs ls hP hS hl => lv_tableIn C.1 C.2.1 hd h1 h2 ho ht (kk l p e s m args below meth c C H locs ls hP hS hl)
theorem aw_tsOut {dflt lo hi : Int} {offs : Array Int} {len : Nat} {x : Int32} {tgt : Nat} (hd : decode cc pc = .ok (.tableswitch dflt lo hi offs, len)) (ho : x.toInt < lo ∨ hi < x.toInt) (ht : (pc : Int) + dflt = (tgt : Int)) (kk : AW g own cc Y res tgt L st h ck cn) : AW g own cc Y res pc L (.int x :: st) h ck cn :=
  fun l p e s m args below meth c C H locs ls hP hS hl => lv_tableOut C.1 C.2.1 hd ho ht (kk l p e s m args below meth c C H locs ls hP hS hl)
end
end
section
/-! ===== rows that read and write the heap ===== -/
theorem Kn.to {g : Gx} {s U : State} {H : Heap} {locs : List Loc} (hK : Kn g s) (hS : va_S (gA g) s.heap H locs) (hU : U.heap = H) (hW : s.WarmedH U.vm) : Kn g U := by
  obtain ⟨h1, h2, h3, h4, h5, h6, r1, r2, r3, r4, r5, h8⟩ := hK
  refine ⟨va_K.moved hW.alike h1, va_AO.moved hW.alike h2, va_AO.moved hW.alike h3, va_AO.moved hW.alike h4, fun q hq => va_Nw.warmM hW (h5 q hq), ?_, vk_R.warm hW r1, vk_R.warm hW r2, vk_R.warm hW r3, vk_R.warm hW r4, vk_R.warm hW r5, ?_⟩
  · rw [hU]
    exact vk_S.moved hW.alike (h6.kept hS.2.1)
  · rw [hU]
    exact va_Z.moved hW.alike (h8.kept hS.2.1)
theorem one_P {D : va_G} {cl : List vw_C} {q : Nat × va_E} {H : Heap} (h : va_at D cl q H) : va_P D cl [q] H := fun k x hx => by
  have hz : k < 1 := (List.getElem?_eq_some_iff.mp hx).1
  rw [show k = 0 by omega] at hx
  cases hx
  exact h
theorem Hp.put {g : Gx} {h : Hea} {H H1 : Heap} {a : Nat} {c : Cel} (hP : Hp g h H) (ha : gB g ≤ a) (hat : va_at (gD g) vwCl (a, ce (gY g) c) H1) (hz : H1.size = H.size) (ho : ∀ q : Nat, q ≠ a → H1[q]? = H[q]?) : Hp g (hup h a c) H1 := by
  refine ⟨hz.trans hP.1, fun b d hb => ?_⟩
  by_cases e : b = a
  · subst e
    simp [hup] at hb
    subst hb
    exact ⟨ha, hat⟩
  · simp [hup, e] at hb
    obtain ⟨h1, h2⟩ := hP.2 b d hb
    exact ⟨h1, h2.kept (ho b e)⟩
theorem Hp.new {g : Gx} {h : Hea} {H H1 : Heap} {c : Cel} (hP : Hp g h H) (ha : gB g ≤ h.1) (hat : va_at (gD g) vwCl (h.1, ce (gY g) c) H1) (hz : H1.size = h.1 + 1) (ho : ∀ q : Nat, q < h.1 → H1[q]? = H[q]?) : Hp g (hnew h c) H1 := by
  refine ⟨hz, fun b d hb => ?_⟩
  by_cases e : b = h.1
  · subst e
    simp [hnew] at hb
    subst hb
    exact ⟨ha, hat⟩
  · simp [hnew, e] at hb
    obtain ⟨h1, h2⟩ := hP.2 b d hb
    have hl : b < H.size := h2.lt
    rw [hP.1] at hl
    exact ⟨h1, h2.kept (ho b hl)⟩
theorem inR_in {i : Int32} {n : Nat} (h : inR i n = true) : vp_in i n := by
  simp only [inR, Bool.and_eq_true, decide_eq_true_eq] at h
  intro q
  rcases q with q | q
  · exact absurd h.1 (Int32.not_le.mpr q)
  · omega
def CKd (ci : Nat) (C : String) (T : u_T) (N : Nat) (ty : Nat → FieldType) : Prop := vwCl[ci]? = some (C, T, N) ∧ (∀ w ∈ u_ws C T N, w ∈ tb) ∧ (∀ k, k < N → parseFieldDescriptor (T k).2.2.1 = some (ty k)) ∧ (∀ a, a < N → ∀ b, b < N → a ≠ b → (T a).2.1 ≠ (T b).2.1)
/-- a field that the pool's entry idx of the class own names: the k-th of class ci -/
def FL (own : String) (idx ci k : Nat) : Prop := ∃ C T N ty, CKd ci C T N ty ∧ k < N ∧ Cond.fieldLink own idx (T k).1 (T k).2.1 (T k).2.2.1 ∈ tb
/-- the same, for a store: not final, or (fin) final and the class's own -/
def FP (own : String) (idx ci k : Nat) (fin : Bool) (ft : FieldType) : Prop := ∃ C T N ty, CKd ci C T N ty ∧ k < N ∧ Cond.fieldLink own idx (T k).1 (T k).2.1 (T k).2.2.1 ∈ tb ∧ (T k).2.2.2 = fin ∧ (fin = true → (T k).1 = own) ∧ parseFieldDescriptor (T k).2.2.1 = some ft
theorem gV_some {h : Hea} {a ci k : Nat} {v : Value} (e : gV h a ci k = some v) : ∃ fs, h.2 a = some (cO ci fs) ∧ fs[k]? = some v := by
  unfold gV at e
  split at e
  · next c fs hc =>
    split at e
    · next hci => subst hci; exact ⟨fs, hc, e⟩
    · cases e
  · cases e
theorem gI_some {h : Hea} {a ci k : Nat} {x : Int32} (e : gI h a ci k = some x) : gV h a ci k = some (.int x) := by
  unfold gI at e
  split at e
  · next y hy => cases e; exact hy
  · cases e
theorem gJ_some {h : Hea} {a ci k : Nat} {x : Int64} (e : gJ h a ci k = some x) : gV h a ci k = some (.long x) := by
  unfold gJ at e
  split at e
  · next y hy => cases e; exact hy
  · cases e
theorem gR_some {h : Hea} {a ci k : Nat} {x : Nat} (e : gR h a ci k = some x) : gV h a ci k = some (.ref x) := by
  unfold gR at e
  split at e
  · next y hy => cases e; exact hy
  · cases e
theorem pV_some {h h' : Hea} {a ci k : Nat} {v : Value} (e : pV h a ci k v = some h') : ∃ fs, h.2 a = some (cO ci fs) ∧ k < fs.length ∧ h' = hup h a (cO ci (fs.set k v)) := by
  unfold pV at e
  split at e
  · next c fs hc =>
    split at e
    · next hci => obtain ⟨rfl, hk⟩ := hci; cases e; exact ⟨fs, hc, hk, rfl⟩
    · cases e
  · cases e
theorem isO_some {h : Hea} {a ci : Nat} {u : Unit} (e : isO h a ci = some u) : ∃ fs, h.2 a = some (cO ci fs) := by
  unfold isO at e
  split at e
  · next c fs hc =>
    split at e
    · next hci => subst hci; exact ⟨fs, hc⟩
    · cases e
  · cases e
theorem ldI_some {h : Hea} {kd a : Nat} {i x : Int32} (e : ldI h kd a i = some x) : ∃ n f, h.2 a = some (cI kd n f) ∧ inR i n = true ∧ x = f i.toNatClampNeg := by
  unfold ldI at e
  split at e
  · next k n f hc =>
    split at e
    · next hci => obtain ⟨rfl, hk⟩ := hci; cases e; exact ⟨n, f, hc, hk, rfl⟩
    · cases e
  · cases e
theorem ldJ_some {h : Hea} {a : Nat} {i : Int32} {x : Int64} (e : ldJ h a i = some x) : ∃ n f, h.2 a = some (cJ n f) ∧ inR i n = true ∧ x = f i.toNatClampNeg := by
  unfold ldJ at e
  split at e
  · next k n f hc =>
    split at e
    · next hci => obtain ⟨rfl, hk⟩ := hci; cases e; exact ⟨n, f, hc, hk, rfl⟩
    · cases e
  · cases e
theorem ldR_some {h : Hea} {kd a : Nat} {i : Int32} {x : Nat} (e : ldR h kd a i = some x) : ∃ n f, h.2 a = some (cR kd n f) ∧ inR i n = true ∧ f i.toNatClampNeg = some x := by
  unfold ldR at e
  split at e
  · next k n f hc =>
    split at e
    · next hci => obtain ⟨rfl, hk⟩ := hci; exact ⟨n, f, hc, hk, e⟩
    · cases e
  · cases e
theorem stI_some {h h' : Hea} {kd a : Nat} {i x : Int32} (e : stI h kd a i x = some h') : ∃ n f, h.2 a = some (cI kd n f) ∧ inR i n = true ∧ h' = hup h a (cI kd n (upd f i.toNatClampNeg x)) := by
  unfold stI at e
  split at e
  · next k n f hc =>
    split at e
    · next hci => obtain ⟨rfl, hk⟩ := hci; cases e; exact ⟨n, f, hc, hk, rfl⟩
    · cases e
  · cases e
theorem stB_some {h h' : Hea} {a : Nat} {i x : Int32} (e : stB h a i x = some h') : ∃ n f, h.2 a = some (cI 1 n f) ∧ inR i n = true ∧ h' = hup h a (cI 1 n (upd f i.toNatClampNeg (vp_nar .byte x))) := by
  unfold stB at e
  split at e
  · next k n f hc =>
    split at e
    · next hci => obtain ⟨rfl, hk⟩ := hci; cases e; exact ⟨n, f, hc, hk, rfl⟩
    · cases e
  · cases e
theorem stZ_some {h h' : Hea} {a : Nat} {i x : Int32} (e : stZ h a i x = some h') : ∃ n f, h.2 a = some (cI 2 n f) ∧ inR i n = true ∧ h' = hup h a (cI 2 n (upd f i.toNatClampNeg (vp_nar .boolean x))) := by
  unfold stZ at e
  split at e
  · next k n f hc =>
    split at e
    · next hci => obtain ⟨rfl, hk⟩ := hci; cases e; exact ⟨n, f, hc, hk, rfl⟩
    · cases e
  · cases e
theorem stJ_some {h h' : Hea} {a : Nat} {i : Int32} {x : Int64} (e : stJ h a i x = some h') : ∃ n f, h.2 a = some (cJ n f) ∧ inR i n = true ∧ h' = hup h a (cJ n (vp_updL f i.toNatClampNeg x)) := by
  unfold stJ at e
  split at e
  · next k n f hc =>
    split at e
    · next hci => obtain ⟨rfl, hk⟩ := hci; cases e; exact ⟨n, f, hc, hk, rfl⟩
    · cases e
  · cases e
theorem stR_some {h h' : Hea} {kd ci a x : Nat} {i : Int32} (e : stR h kd ci a i x = some h') : ∃ n f fs, h.2 a = some (cR kd n f) ∧ h.2 x = some (cO ci fs) ∧ inR i n = true ∧ h' = hup h a (cR kd n (va_up f i.toNatClampNeg (some x))) := by
  unfold stR at e
  split at e
  · next k n f c fs hc hx =>
    split at e
    · next hci => obtain ⟨rfl, rfl, hk⟩ := hci; cases e; exact ⟨n, f, fs, hc, hx, hk, rfl⟩
    · cases e
  · cases e
theorem cpI_some {h h' : Hea} {a b : Nat} {n : Int32} (e : cpI h a b n = some h') : ∃ n0 n1 f g, h.2 a = some (cI 0 n0 f) ∧ h.2 b = some (cI 0 n1 g) ∧ 0 ≤ n ∧ n.toNatClampNeg ≤ n0 ∧ n.toNatClampNeg ≤ n1 ∧ h' = hup h b (cI 0 n1 (va_cpy f g 0 0 n.toNatClampNeg)) := by
  unfold cpI at e
  split at e
  · next k n0 f k1 n1 g hc hx =>
    split at e
    · next hci => obtain ⟨rfl, rfl, h1, h2, h3⟩ := hci; cases e; exact ⟨n0, n1, f, g, hc, hx, h1, h2, h3, rfl⟩
    · cases e
  · cases e
theorem cpJ_some {h h' : Hea} {a b : Nat} {n : Int32} (e : cpJ h a b n = some h') : ∃ n0 n1 f g, h.2 a = some (cJ n0 f) ∧ h.2 b = some (cJ n1 g) ∧ 0 ≤ n ∧ n.toNatClampNeg ≤ n0 ∧ n.toNatClampNeg ≤ n1 ∧ h' = hup h b (cJ n1 (va_cpy f g 0 0 n.toNatClampNeg)) := by
  unfold cpJ at e
  split at e
  · next k n0 f k1 n1 g hc hx =>
    split at e
    · next hci => obtain ⟨rfl, rfl, h1, h2, h3⟩ := hci; cases e; exact ⟨n0, n1, f, g, hc, hx, h1, h2, h3, rfl⟩
    · cases e
  · cases e
theorem alen_some {h : Hea} {kd a : Nat} {x : Int32} (e : alen h kd a = some x) : ∃ n q, h.2 a = some (.inl (kd, n, q)) ∧ n < 2147483648 ∧ x = Int32.ofNat n := by
  unfold alen at e
  split at e
  · next k n q hc =>
    split at e
    · next hci => obtain ⟨rfl, hk⟩ := hci; cases e; exact ⟨n, q, hc, hk, rfl⟩
    · cases e
  · cases e
theorem bnd {α β : Type} {A : Option α} {K : α → Option β} {o : β} (hf : A.bind K = some o) : ∃ x, A = some x ∧ K x = some o := Option.bind_eq_some_iff.mp hf
section
variable {g : Gx} {own : String} {cc : ByteArray} {Y : Ym} {res : Option Value × Hea} {pc : Nat} {L : List (Nat × Value)} {st : List Value} {h : Hea} {ck cn : Nat} {ρ : Type} {o : ρ}
theorem aw_gV {ci k idx a : Nat} {v : Value} (hF : FL own idx ci k) (hd : decode cc pc = .ok (.getfield idx, 3)) (hv : gV h a ci k = some v) (kk : AW g own cc Y res (pc + 3) L (v :: st) h ck cn) : AW g own cc Y res pc L (.ref a :: st) h ck cn := by
  intro l p e s m args below meth c C H locs ls hP hS hl
  obtain ⟨C', T, N, ty, ⟨h1, h2, h3, h4⟩, hk, hw⟩ := hF
  obtain ⟨fs, hc, hfs⟩ := gV_some hv
  exact va_get (ws := [(a, .inr (ci, fs))]) C.1 C.2.1 C.2.2.2.2.2.2.2.1 h2 C.2.2.2.2.2.2.1 C.2.2.2.2.2.2.2.2.1 (one_P (hP.2 a _ hc).2) 0 rfl h1 k hk (C.2.2.2.2.2.2.2.1 _ hw) (fun _ q => q) hfs hd (kk l p e s m args below meth c C H locs ls hP hS hl)
theorem aw_gI {ci k idx a : Nat} {K : Int32 → Option ρ} (hF : FL own idx ci k) (hd : decode cc pc = .ok (.getfield idx, 3)) (hf : (gI h a ci k).bind K = some o) (kk : ∀ x, K x = some o → AW g own cc Y res (pc + 3) L (.int x :: st) h ck cn) : AW g own cc Y res pc L (.ref a :: st) h ck cn := by
  obtain ⟨x, h1, h2⟩ := bnd hf
  exact aw_gV hF hd (gI_some h1) (kk x h2)
theorem aw_gJ {ci k idx a : Nat} {K : Int64 → Option ρ} (hF : FL own idx ci k) (hd : decode cc pc = .ok (.getfield idx, 3)) (hf : (gJ h a ci k).bind K = some o) (kk : ∀ x, K x = some o → AW g own cc Y res (pc + 3) L (.long x :: st) h ck cn) : AW g own cc Y res pc L (.ref a :: st) h ck cn := by
  obtain ⟨x, h1, h2⟩ := bnd hf
  exact aw_gV hF hd (gJ_some h1) (kk x h2)
theorem aw_gR {ci k idx a : Nat} {K : Nat → Option ρ} (hF : FL own idx ci k) (hd : decode cc pc = .ok (.getfield idx, 3)) (hf : (gR h a ci k).bind K = some o) (kk : ∀ x, K x = some o → AW g own cc Y res (pc + 3) L (.ref x :: st) h ck cn) : AW g own cc Y res pc L (.ref a :: st) h ck cn := by
  obtain ⟨x, h1, h2⟩ := bnd hf
  exact aw_gV hF hd (gR_some h1) (kk x h2)
theorem aw_pV {ci k idx a : Nat} {fin : Bool} {ft : FieldType} {v : Value} {h' : Hea} (hF : FP own idx ci k fin ft) (hd : decode cc pc = .ok (.putfield idx, 3)) (hn : narrow ft v = v) (hfit : fits ft v = true) (hi0 : fin = true → Y.2.2.1 = "<init>") (hv : pV h a ci k v = some h') (kk : AW g own cc Y res (pc + 3) L st h' ck cn) : AW g own cc Y res pc L (v :: .ref a :: st) h ck cn := by
  intro l p e s m args below meth c C H locs ls hP hS hl
  obtain ⟨C', T, N, ty, ⟨hc1, hin, hty, hnm⟩, hk, hw, hfin, hown2, hdd⟩ := hF
  obtain ⟨fs, hc, hlen, rfl⟩ := pV_some hv
  have hts := C.2.2.2.2.2.2.2.1
  have hK := C.2.2.2.2.2.2.2.2.1
  have hap := va_apart (own := own) hts hin ty hty hnm hK hc1
  obtain ⟨hB, r, h1, cell, q1, q2, q3, q4⟩ := hP.2 a _ hc
  have hr : r = (C', T, N) := Option.some.inj (h1.symm.trans hc1)
  subst hr
  obtain ⟨hSl, hfc, kC, hkC, hkind⟩ := hK.1 ci _ hc1
  obtain ⟨cf, kf, fi, f, hi, hsl⟩ := hSl k hk
  have hlay := hts _ (hin _ (u_in_lay hk))
  unfold u_lay at hlay
  have hst := (u_facts hfc hkC (u_lays hts hin hk) hi).1
  have fin2 : ∀ H' : Heap, H'[a]? = some (cell.setSlot f.slot v) → H'.size = H.size → (∀ q, q ≠ a → H'[q]? = H[q]?) → W p l e (Yr Y) s m args below meth c H' (locs ++ [⟨a, f.slot⟩]) ck cn (MQ below (MQc g res.1 res.2) args s Y.2.2.2.2.1 Y.2.2.2.2.2 (gA g)) (F0 m (pc + 3) ls st) := by
    intro H' e1 e2 e3
    refine kk l p e s m args below meth c C H' _ ls (hP.put hB ⟨_, hc1, t_OB.to (V := updV (vp_V fs) k v) ⟨_, e1, q2, q3, ?_⟩ (fun j _ => vp_updV_set hlen v j)⟩ e2 e3) (hS.put e2 e3 hB) hl
    rw [hsl]
    exact t_set q4 hap hk v
  cases fin with
  | false =>
    rw [if_neg (by rw [hfin]; decide)] at hlay
    have h6 := u_store hfc hkC hkind hlay hi hdd hn hfit
    exact W.putK C.1 C.2.1 (f := f) ⟨C.2.2.2.2.2.2.1, hts _ hw, ⟨_, _, _, hi⟩, hst⟩ (by rw [q2]; exact h6) q1 q3 (by rw [hsl]; exact k2_hasslot (q4 k hk)) rfl rfl hd fin2
  | true =>
    rw [if_pos hfin] at hlay
    have hcf : m.cls = cf := by
      obtain ⟨_, _, c', _, _, _, -, -, hf', -, -, -, hown3, -⟩ := Cond.laysFinal_spec hlay
      have e1 : c' = cf := by have := hi.symm.trans hf'; simp at this; exact this.1.symm
      rw [hown2 rfl] at hown3
      rw [← e1]; exact Option.some.inj (C.2.2.2.2.2.2.1.symm.trans hown3)
    have h6 := u_fits hfc hkC hkind (Or.inr hlay) hi hdd hn hfit
    exact W.putFinK C.1 C.2.1 C.2.2.2.2.2.2.1 (hts _ hw) hi hst hcf (C.2.2.2.2.2.1.trans (hi0 rfl)) (by rw [q2]; exact h6) q1 q3 (by rw [hsl]; exact k2_hasslot (q4 k hk)) rfl rfl hd fin2
theorem aw_pI {ci k idx a : Nat} {x : Int32} {K : Hea → Option ρ} (hF : FP own idx ci k false .int) (hd : decode cc pc = .ok (.putfield idx, 3)) (hf : (pI h a ci k x).bind K = some o) (kk : ∀ h', K h' = some o → AW g own cc Y res (pc + 3) L st h' ck cn) : AW g own cc Y res pc L (.int x :: .ref a :: st) h ck cn := by
  obtain ⟨h', h1, h2⟩ := bnd hf
  exact aw_pV hF hd rfl rfl (fun q => by cases q) h1 (kk h' h2)
theorem aw_pJ {ci k idx a : Nat} {x : Int64} {K : Hea → Option ρ} (hF : FP own idx ci k false .long) (hd : decode cc pc = .ok (.putfield idx, 3)) (hf : (pJ h a ci k x).bind K = some o) (kk : ∀ h', K h' = some o → AW g own cc Y res (pc + 3) L st h' ck cn) : AW g own cc Y res pc L (.long x :: .ref a :: st) h ck cn := by
  obtain ⟨h', h1, h2⟩ := bnd hf
  exact aw_pV hF hd rfl rfl (fun q => by cases q) h1 (kk h' h2)
theorem aw_pR {ci k idx a x : Nat} {fin : Bool} {ft : FieldType} {K : Hea → Option ρ} (hF : FP own idx ci k fin ft) (hd : decode cc pc = .ok (.putfield idx, 3)) (hn : narrow ft (.ref x) = .ref x) (hfit : fits ft (.ref x) = true) (hi0 : fin = true → Y.2.2.1 = "<init>") (hf : (pR h a ci k x).bind K = some o) (kk : ∀ h', K h' = some o → AW g own cc Y res (pc + 3) L st h' ck cn) : AW g own cc Y res pc L (.ref x :: .ref a :: st) h ck cn := by
  obtain ⟨h', h1, h2⟩ := bnd hf
  exact aw_pV hF hd hn hfit hi0 h1 (kk h' h2)
theorem aw_ldI {a : Nat} {i : Int32} {K : Int32 → Option ρ} (hd : decode cc pc = .ok (.iaload, 1)) (hf : (ldI h 0 a i).bind K = some o) (kk : ∀ x, K x = some o → AW g own cc Y res (pc + 1) L (.int x :: st) h ck cn) : AW g own cc Y res pc L (.int i :: .ref a :: st) h ck cn := by
  obtain ⟨x, h1, h2⟩ := bnd hf
  obtain ⟨n, f, hc, hin, rfl⟩ := ldI_some h1
  intro l p e s m args below meth c C H locs ls hP hS hl
  exact va_iald (ws := [(a, .inl (gY g 0, n, .inl f))]) C.1 C.2.1 C.2.2.2.2.2.2.2.2.1 (one_P (hP.2 a _ hc).2) 0 0 rfl rfl (inR_in hin) hd (kk _ h2 l p e s m args below meth c C H locs ls hP hS hl)
theorem aw_ldB {a : Nat} {i : Int32} {K : Int32 → Option ρ} (hd : decode cc pc = .ok (.baload, 1)) (hf : (ldI h 1 a i).bind K = some o) (kk : ∀ x, K x = some o → AW g own cc Y res (pc + 1) L (.int x :: st) h ck cn) : AW g own cc Y res pc L (.int i :: .ref a :: st) h ck cn := by
  obtain ⟨x, h1, h2⟩ := bnd hf
  obtain ⟨n, f, hc, hin, rfl⟩ := ldI_some h1
  intro l p e s m args below meth c C H locs ls hP hS hl
  exact va_bald (ws := [(a, .inl (gY g 1, n, .inl f))]) C.1 C.2.1 C.2.2.2.2.2.2.2.2.1 (one_P (hP.2 a _ hc).2) 0 1 rfl rfl (inR_in hin) hd (kk _ h2 l p e s m args below meth c C H locs ls hP hS hl)
theorem aw_ldZ {a : Nat} {i : Int32} {K : Int32 → Option ρ} (hd : decode cc pc = .ok (.baload, 1)) (hf : (ldI h 2 a i).bind K = some o) (kk : ∀ x, K x = some o → AW g own cc Y res (pc + 1) L (.int x :: st) h ck cn) : AW g own cc Y res pc L (.int i :: .ref a :: st) h ck cn := by
  obtain ⟨x, h1, h2⟩ := bnd hf
  obtain ⟨n, f, hc, hin, rfl⟩ := ldI_some h1
  intro l p e s m args below meth c C H locs ls hP hS hl
  exact va_zald (ws := [(a, .inl (gY g 2, n, .inl f))]) C.1 C.2.1 C.2.2.2.2.2.2.2.2.1 (one_P (hP.2 a _ hc).2) 0 2 rfl rfl (inR_in hin) hd (kk _ h2 l p e s m args below meth c C H locs ls hP hS hl)
theorem aw_ldJ {a : Nat} {i : Int32} {K : Int64 → Option ρ} (hd : decode cc pc = .ok (.laload, 1)) (hf : (ldJ h a i).bind K = some o) (kk : ∀ x, K x = some o → AW g own cc Y res (pc + 1) L (.long x :: st) h ck cn) : AW g own cc Y res pc L (.int i :: .ref a :: st) h ck cn := by
  obtain ⟨x, h1, h2⟩ := bnd hf
  obtain ⟨n, f, hc, hin, rfl⟩ := ldJ_some h1
  intro l p e s m args below meth c C H locs ls hP hS hl
  exact va_lald (ws := [(a, .inl (gY g 3, n, .inr (.inl f)))]) C.1 C.2.1 C.2.2.2.2.2.2.2.2.1 (one_P (hP.2 a _ hc).2) 0 3 rfl rfl (inR_in hin) hd (kk _ h2 l p e s m args below meth c C H locs ls hP hS hl)
theorem aw_ldR {kd a : Nat} {i : Int32} {E : String} {K : Nat → Option ρ} (ht : ∀ cy : Nat → ClassId, (tysOf cy)[kd]? = some (cy kd, .object E)) (hd : decode cc pc = .ok (.aaload, 1)) (hf : (ldR h kd a i).bind K = some o) (kk : ∀ x, K x = some o → AW g own cc Y res (pc + 1) L (.ref x :: st) h ck cn) : AW g own cc Y res pc L (.int i :: .ref a :: st) h ck cn := by
  obtain ⟨x, h1, h2⟩ := bnd hf
  obtain ⟨n, f, hc, hin, hx⟩ := ldR_some h1
  intro l p e s m args below meth c C H locs ls hP hS hl
  refine va_aldq (ws := [(a, .inl (gY g kd, n, .inr (.inr (.inr (.inr f)))))]) C.1 C.2.1 C.2.2.2.2.2.2.2.2.1 (one_P (hP.2 a _ hc).2) 0 kd rfl (ht _) (inR_in hin) hd ?_
  rw [hx]
  exact kk _ h2 l p e s m args below meth c C H locs ls hP hS hl
theorem aw_stI {a : Nat} {i x : Int32} {K : Hea → Option ρ} (hd : decode cc pc = .ok (.iastore, 1)) (hf : (stI h 0 a i x).bind K = some o) (kk : ∀ h', K h' = some o → AW g own cc Y res (pc + 1) L st h' ck cn) : AW g own cc Y res pc L (.int x :: .int i :: .ref a :: st) h ck cn := by
  obtain ⟨h', h1, h2⟩ := bnd hf
  obtain ⟨n, f, hc, hin, rfl⟩ := stI_some h1
  intro l p e s m args below meth c C H locs ls hP hS hl
  have hB := (hP.2 a _ hc).1
  refine W.iast C.1 C.2.1 (hP.2 a _ hc).2 ((C.2.2.2.2.2.2.2.2.1.2 0 _ rfl).1 n (fun j => .int (f j))) (fun q => by cases q) (by show ¬ (i < 0 ∨ (arrV _ _ _).slots.size ≤ _); rw [arrV_size]; exact inR_in hin) rfl rfl hd fun H1 e1 z oq => ?_
  refine kk _ h2 l p e s m args below meth c C H1 _ ls (hP.put hB ?_ z oq) (hS.put z oq hB) hl
  show H1[a]? = some (vp_cell _ _)
  rw [e1, vp_cell_i, vp_cell_i, arrV_store]
  congr 2
  funext q
  by_cases hq : q = i.toNatClampNeg
  · subst hq
    simp [updV, upd]
  · simp [updV, upd, hq]
theorem aw_stB {a : Nat} {i x : Int32} {K : Hea → Option ρ} (hd : decode cc pc = .ok (.bastore, 1)) (hf : (stB h a i x).bind K = some o) (kk : ∀ h', K h' = some o → AW g own cc Y res (pc + 1) L st h' ck cn) : AW g own cc Y res pc L (.int x :: .int i :: .ref a :: st) h ck cn := by
  obtain ⟨h', h1, h2⟩ := bnd hf
  obtain ⟨n, f, hc, hin, rfl⟩ := stB_some h1
  intro l p e s m args below meth c C H locs ls hP hS hl
  have hB := (hP.2 a _ hc).1
  refine W.bast C.1 C.2.1 (hP.2 a _ hc).2 ((C.2.2.2.2.2.2.2.2.1.2 1 _ rfl).1 n (fun j => .int (f j))) (fun q => by cases q) (by show ¬ (i < 0 ∨ (arrV _ _ _).slots.size ≤ _); rw [arrV_size]; exact inR_in hin) rfl rfl hd fun H1 e1 z oq => ?_
  refine kk _ h2 l p e s m args below meth c C H1 _ ls (hP.put hB ?_ z oq) (hS.put z oq hB) hl
  show H1[a]? = some (vp_cell _ _)
  rw [e1, vp_cell_i, vp_cell_i, arrV_store]
  congr 2
  funext q
  by_cases hq : q = i.toNatClampNeg
  · subst hq
    simp [updV, upd, vp_nar]
    try rfl
  · simp [updV, upd, hq]
theorem aw_stZ {a : Nat} {i x : Int32} {K : Hea → Option ρ} (hd : decode cc pc = .ok (.bastore, 1)) (hf : (stZ h a i x).bind K = some o) (kk : ∀ h', K h' = some o → AW g own cc Y res (pc + 1) L st h' ck cn) : AW g own cc Y res pc L (.int x :: .int i :: .ref a :: st) h ck cn := by
  obtain ⟨h', h1, h2⟩ := bnd hf
  obtain ⟨n, f, hc, hin, rfl⟩ := stZ_some h1
  intro l p e s m args below meth c C H locs ls hP hS hl
  have hB := (hP.2 a _ hc).1
  refine W.zast C.1 C.2.1 (hP.2 a _ hc).2 ((C.2.2.2.2.2.2.2.2.1.2 2 _ rfl).1 n (fun j => .int (f j))) (fun q => by cases q) (by show ¬ (i < 0 ∨ (arrV _ _ _).slots.size ≤ _); rw [arrV_size]; exact inR_in hin) rfl rfl hd fun H1 e1 z oq => ?_
  refine kk _ h2 l p e s m args below meth c C H1 _ ls (hP.put hB ?_ z oq) (hS.put z oq hB) hl
  show H1[a]? = some (vp_cell _ _)
  rw [e1, vp_cell_i, vp_cell_i, arrV_store]
  congr 2
  funext q
  by_cases hq : q = i.toNatClampNeg
  · subst hq
    simp [updV, upd, vp_nar]
    try rfl
  · simp [updV, upd, hq]
theorem aw_stJ {a : Nat} {i : Int32} {x : Int64} {K : Hea → Option ρ} (hd : decode cc pc = .ok (.lastore, 1)) (hf : (stJ h a i x).bind K = some o) (kk : ∀ h', K h' = some o → AW g own cc Y res (pc + 1) L st h' ck cn) : AW g own cc Y res pc L (.long x :: .int i :: .ref a :: st) h ck cn := by
  obtain ⟨h', h1, h2⟩ := bnd hf
  obtain ⟨n, f, hc, hin, rfl⟩ := stJ_some h1
  intro l p e s m args below meth c C H locs ls hP hS hl
  have hB := (hP.2 a _ hc).1
  refine W.last C.1 C.2.1 (hP.2 a _ hc).2 ((C.2.2.2.2.2.2.2.2.1.2 3 _ rfl).1 n (fun j => .long (f j))) (fun q => by cases q) (by show ¬ (i < 0 ∨ (arrV _ _ _).slots.size ≤ _); rw [arrV_size]; exact inR_in hin) rfl rfl hd fun H1 e1 z oq => ?_
  refine kk _ h2 l p e s m args below meth c C H1 _ ls (hP.put hB ?_ z oq) (hS.put z oq hB) hl
  show H1[a]? = some (vp_cell _ _)
  rw [e1, vp_cell_l, vp_cell_l, arrV_store]
  congr 2
  funext q
  by_cases hq : q = i.toNatClampNeg
  · subst hq
    simp [updV, vp_updL]
  · simp [updV, vp_updL, hq]
theorem aw_stR {kd ci a x : Nat} {i : Int32} {E : String} {T : u_T} {N : Nat} {K : Hea → Option ρ} (ht : ∀ cy : Nat → ClassId, (tysOf cy)[kd]? = some (cy kd, .object E)) (hE : vwCl[ci]? = some (E, T, N)) (hd : decode cc pc = .ok (.aastore, 1)) (hf : (stR h kd ci a i x).bind K = some o) (kk : ∀ h', K h' = some o → AW g own cc Y res (pc + 1) L st h' ck cn) : AW g own cc Y res pc L (.ref x :: .int i :: .ref a :: st) h ck cn := by
  obtain ⟨h', h1, h2⟩ := bnd hf
  obtain ⟨n, f, fs, hc, hx, hin, rfl⟩ := stR_some h1
  intro l p e s m args below meth c C H locs ls hP hS hl
  have hB := (hP.2 a _ hc).1
  have hK := C.2.2.2.2.2.2.2.2.1
  have hin2 := inR_in hin
  have hlt : i.toNatClampNeg < n := Nat.not_le.mp fun q => hin2 (Or.inr q)
  have h0 : ¬ i < 0 := fun q => hin2 (Or.inl q)
  obtain ⟨r', hr', cellV, g1, g2, g3, -⟩ := (hP.2 x _ hx).2
  have hcls := (hK.1 ci _ hE).2
  obtain ⟨kA, comp, k1, k2, k3, -⟩ := (hK.2 kd _ (ht _)).2
  have hcomp : comp = (gD g).1 ci := Option.some.inj (k3.symm.trans hcls.1)
  subst hcomp
  obtain ⟨kC, hkC, -⟩ := hcls.2
  refine W.aast C.1 C.2.1 (hP.2 a _ hc).2 (fun q h => by cases h) (fun h => by cases h) k1 k2 rfl hkC ⟨h0, by show _ < (arrV _ _ _).slots.size; rw [arrV_size]; exact hlt⟩ g1 (fun q h => by rw [g3] at h; cases h) (by rw [g2]; exact hkC) (by rw [g2]; exact va_assign hcls) rfl rfl hd fun H1 e1 z oq => ?_
  refine kk _ h2 l p e s m args below meth c C H1 _ ls (hP.put hB ?_ z oq) (hS.put z oq hB) hl
  show H1[a]? = some (vp_cell _ _)
  rw [e1, vp_cell_q, vp_cell_q, arrV_store]
  congr 2
  funext q
  by_cases hq : q = i.toNatClampNeg
  · subst hq
    simp [updV, va_up, va_rf]
  · simp [updV, va_up, hq]
end
end
section
/-! ===== entry, returns, calls ===== -/
theorem Kn.same {g : Gx} {u U : State} (hv : U.vm = u.vm) (hh : U.heap = u.heap) (hK : Kn g u) : Kn g U := by
  obtain ⟨h1, h2, h3, h4, h5, h6, r1, r2, r3, r4, r5, h8⟩ := hK
  have al : u.vm.Alike U.vm := by rw [hv]; exact Vm.Alike.refl u.vm
  refine ⟨va_K.moved al h1, va_AO.moved al h2, va_AO.moved al h3, va_AO.moved al h4, fun q hq => va_Nw.same rfl hv.symm (h5 q hq), ?_, vk_R.same hv r1, vk_R.same hv r2, vk_R.same hv r3, vk_R.same hv r4, vk_R.same hv r5, ?_⟩
  · rw [hh]; exact vk_S.moved al h6
  · rw [hh]; exact va_Z.moved al h8
theorem MPc_blind (g : Gx) (vs : List Value) (h : Hea) : FrameBlind (MPc g vs h) := fun a U f mk q => ⟨q.1, q.2.1, Kn.same (u := U) rfl rfl q.2.2⟩
theorem MC_of {g : Gx} {y : MethodName} {cc : ByteArray} {mL : Nat} {ret : Option FieldType} {d k n : Nat} {vs : List Value} {h : Hea} {res : Option Value × Hea} (L : List (Nat × Value)) (hy : plainName y.cls = true) (hlen : (lg_sl vs).length ≤ mL) (hL : lv_args 0 vs = L) (kk : AW g y.cls cc (mL, ret, y.name, d, k, n) res 0 L [] h 0 0) : MC g y cc mL ret d k n vs h res := by
  intro l
  refine Met.ofW (cc := cc) (maxL := mL) (ret := ret) hy rfl ?_
  intro p e s m args below meth c s₁ B hml hv
  obtain ⟨rfl, hP, hK⟩ := hv
  have hts := atoms_spec (ws := wsM y cc mL ret) B.pre
  have hown : s.vm.findClass y.cls = some m.cls := findClass_of_methodNamed B.named
  have hl := lv_entry vs (n := mL) hlen
  rw [hL] at hl
  rw [lg_entry_eq]
  exact kk l p e s m vs.toArray below meth c ⟨B.exec, B.bytes, hml, B.returns, B.notSynchronized, (name_of_methodNamed B.named B.method).1, hown, fun w hw => hts w (List.mem_cons_of_mem _ hw), hK⟩ s.heap [] _ hP va_S.rf hl
section
variable {g : Gx} {own : String} {cc : ByteArray} {Y : Ym} {res : Option Value × Hea} {pc : Nat} {L : List (Nat × Value)} {st : List Value} {h : Hea} {ck cn : Nat} {ρ : Type} {o : ρ}
theorem aw_widen {k n : Nat} (h1 : ck ≤ k) (h2 : cn ≤ n) (kk : AW g own cc Y res pc L st h k n) : AW g own cc Y res pc L st h ck cn :=
  fun l p e s m args below meth c C H locs ls hP hS hl => W.widen h1 h2 (kk l p e s m args below meth c C H locs ls hP hS hl)
theorem aw_iret {x : Int32} (hd : decode cc pc = .ok (.ireturn, 1)) (hr : Y.2.1 = some .int) (hres : res = (some (.int x), h)) : AW g own cc Y res pc L [.int x] h Y.2.2.2.2.1 Y.2.2.2.2.2 := by
  intro l p e s m args below meth c C H locs ls hP hS hl
  subst hres
  exact W.iret C.1 C.2.1 (C.2.2.2.1.trans hr) (fun t ht _ => ⟨rfl, by rw [ht]; exact hP, hS.F ht⟩) hS.2.2 hd C.2.2.2.2.1
theorem aw_zret {x : Int32} {ty : FieldType} (hd : decode cc pc = .ok (.ireturn, 1)) (hr : Y.2.1 = some ty) (hn : narrow ty (.int x) = .int x) (hres : res = (some (.int x), h)) : AW g own cc Y res pc L [.int x] h Y.2.2.2.2.1 Y.2.2.2.2.2 := by
  intro l p e s m args below meth c C H locs ls hP hS hl
  subst hres
  exact W.zret C.1 C.2.1 (C.2.2.2.1.trans hr) hn (fun t ht _ => ⟨rfl, by rw [ht]; exact hP, hS.F ht⟩) hS.2.2 hd C.2.2.2.2.1
theorem aw_lret {x : Int64} (hd : decode cc pc = .ok (.lreturn, 1)) (hr : Y.2.1 = some .long) (hres : res = (some (.long x), h)) : AW g own cc Y res pc L [.long x] h Y.2.2.2.2.1 Y.2.2.2.2.2 := by
  intro l p e s m args below meth c C H locs ls hP hS hl
  subst hres
  exact W.lret C.1 C.2.1 (C.2.2.2.1.trans hr) (fun t ht _ => ⟨rfl, by rw [ht]; exact hP, hS.F ht⟩) hS.2.2 hd C.2.2.2.2.1
theorem aw_aret {x : Nat} {ct : String} (hd : decode cc pc = .ok (.areturn, 1)) (hr : Y.2.1 = some (.object ct)) (hres : res = (some (.ref x), h)) : AW g own cc Y res pc L [.ref x] h Y.2.2.2.2.1 Y.2.2.2.2.2 := by
  intro l p e s m args below meth c C H locs ls hP hS hl
  subst hres
  exact W.aret C.1 C.2.1 (C.2.2.2.1.trans hr) (Or.inl ⟨_, rfl⟩) (Or.inr ⟨_, rfl⟩) (fun t ht _ => ⟨rfl, by rw [ht]; exact hP, hS.F ht⟩) hS.2.2 hd C.2.2.2.2.1
theorem aw_vret (hd : decode cc pc = .ok (.return_, 1)) (hr : Y.2.1 = none) (hres : res = (none, h)) : AW g own cc Y res pc L [] h Y.2.2.2.2.1 Y.2.2.2.2.2 := by
  intro l p e s m args below meth c C H locs ls hP hS hl
  subst hres
  exact W.vret C.1 C.2.1 (C.2.2.2.1.trans hr) (fun t ht _ => ⟨rfl, by rw [ht]; exact hP, hS.F ht⟩) hS.2.2 hd C.2.2.2.2.1
/-- the words of a call -/
def WB (own : String) (idx : Nat) (y : MethodName) (cb : ByteArray) (mL : Nat) (ret : Option FieldType) (na : Nat) : Prop := Cond.methodLink own idx y ∈ tb ∧ Cond.initialized y.cls ∈ tb ∧ Cond.code y cb mL ret ∈ tb ∧ (y.cls ≠ "java/lang/invoke/MethodHandle" ∧ y.cls ≠ "java/lang/invoke/VarHandle" ∧ (parseMethodDescriptor y.desc).map (fun d => d.parameters.length) = some na) ∧ mL ≤ 17
def WV (own : String) (idx : Nat) (y : MethodName) (cb : ByteArray) (mL : Nat) (ret : Option FieldType) (na : Nat) : Prop := WB own idx y cb mL ret na ∧ Cond.instanceMethod y ∈ tb ∧ Cond.selects y.cls y y ∈ tb
def WS (own : String) (idx : Nat) (y : MethodName) (cb : ByteArray) (mL : Nat) (ret : Option FieldType) (na : Nat) : Prop := WB own idx y cb mL ret na ∧ Cond.static y ∈ tb
def WI (own : String) (idx : Nat) (y : MethodName) (cb : ByteArray) (mL : Nat) (na : Nat) : Prop := WB own idx y cb mL none na ∧ Cond.instanceMethod y ∈ tb ∧ y.name = "<init>"
def WN (own : String) (idx : Nat) (y : MethodName) (cb : ByteArray) (mL : Nat) (ret : Option FieldType) (na : Nat) : Prop := (own, idx, y) ∈ nstW ∧ Cond.initialized y.cls ∈ tb ∧ Cond.code y cb mL ret ∈ tb ∧ (y.cls ≠ "java/lang/invoke/MethodHandle" ∧ y.cls ≠ "java/lang/invoke/VarHandle" ∧ (parseMethodDescriptor y.desc).map (fun d => d.parameters.length) = some na) ∧ mL ≤ 17
theorem gin {y : MethodName} {cb : ByteArray} {mL : Nat} {ret : Option FieldType} (hc : Cond.code y cb mL ret ∈ tb) : GoodIn tb (wsM y cb mL ret) := fun w hw => by
  have hm : w ∈ tb := by
    rcases List.mem_cons.mp hw with e | e
    · rw [e]; exact hc
    · exact e
  exact ⟨hm, tb_good w hm⟩
theorem room_ok {d : Nat} {k n : Nat} {mL : Nat} (hd : d + 1 ≤ Y.2.2.2.1) (hm : mL ≤ 17) : (rmk d k n).frames + 1 ≤ (Yr Y).frames ∧ 8 + (mL + 11) + (rmk d k n).locals ≤ (Yr Y).locals := by
  refine ⟨hd, ?_⟩
  show 8 + (mL + 11) + 36 * d ≤ 36 * Y.2.2.2.1
  omega
theorem aw_run {st0 : List Value} {r : Option Value} {h' : Hea} {mc ms : Nat} {a : Array Value} (kk : AW g own cc Y res (pc + 3) L (r.toList ++ st) h' (ck + mc) (cn + ms))
    {l : Launch} {p : Program} {e : Env} {s : State} {m : MethodId} {args : Array Value} {below : List Frame} {meth : Method} {c : Code} (C : Cx g own cc Y p s m args meth c) {H : Heap} {locs : List Loc} {ls : Array Slot} (hS : va_S (gA g) s.heap H locs) (hl : lv_has ls Y.1 L)
    (hr : va_Run p l e (Yr Y) s m args below meth c H locs ck cn mc ms (F0 m pc ls st0) st (MQc g r h' a) (gA g)) :
    W p l e (Yr Y) s m args below meth c H locs ck cn (MQ below (MQc g res.1 res.2) args s Y.2.2.2.2.1 Y.2.2.2.2.2 (gA g)) (F0 m pc ls st0) := by
  intro T hT X
  obtain ⟨v, st₀, t, T', L', h0, X', hL, e1, e2, ⟨hv, hP', hz, hk⟩, stp⟩ := hr T hT X
  cases hv
  rw [h0] at hz hk
  obtain ⟨t2, a1, b1⟩ := kk l p e s m args below meth c C T'.heap (locs ++ L') ls (by rw [e1]; exact hP')
    ⟨Nat.le_trans hS.1 (by rw [e1]; exact hz), fun q h1 h2 => by rw [e1, hk q (Nat.lt_of_lt_of_le h1 hS.1) h2]; exact hS.2.1 q h1 h2, fun q hq => by
      rcases List.mem_append.mp hq with h | h
      · exact hS.2.2 q h
      · exact hL q h⟩ hl T' rfl X'
  exact ⟨t2, stp t2 a1, b1⟩
theorem aw_callV {y : MethodName} {cb : ByteArray} {mL' : Nat} {ret' : Option FieldType} {d' k' n' idx a ci na : Nat} {T : u_T} {N : Nat} {As : List Value} {st0 : List Value} {r : Option Value} {h' : Hea} {fs : List Value}
    (hw : WV own idx y cb mL' ret' na) (hM : MC g y cb mL' ret' d' k' n' (.ref a :: As) h (r, h')) (hci : vwCl[ci]? = some (y.cls, T, N)) (hrv : h.2 a = some (cO ci fs)) (hd : decode cc pc = .ok (.invokevirtual idx, 3)) (hn : As.length = na) (hst : st0 = As.reverse ++ .ref a :: st) (hcat : (st.map fun v => v.category).sum ≤ 8) (hdd : d' + 1 ≤ Y.2.2.2.1) (hk1 : ck + k' ≤ Y.2.2.2.2.1) (hk2 : cn + n' ≤ Y.2.2.2.2.2)
    (kk : AW g own cc Y res (pc + 3) L (r.toList ++ st) h' (ck + k') (cn + n')) : AW g own cc Y res pc L st0 h ck cn := by
  intro l p e s m args below meth c C H locs ls hP hS hl
  obtain ⟨⟨w1, w2, w3, w4, w5⟩, w6, w7⟩ := hw
  have hts := C.2.2.2.2.2.2.2.1
  have hG : GoodIn tb (wsV own idx y.cls y (wsM y cb mL' ret')) := fun w hw => by
    unfold wsV at hw
    rcases List.mem_append.mp hw with q | q
    · have : w ∈ tb := by
        simp only [List.mem_cons, List.not_mem_nil, or_false] at q
        rcases q with rfl | rfl | rfl | rfl
        · exact w1
        · exact w6
        · exact w7
        · exact w2
      exact ⟨this, tb_good w this⟩
    · exact gin w3 w q
  refine aw_run kk C hS hl (va_runV (As := As) (rest := st) ⟨C.1, C.2.1, C.2.2.1, C.2.2.2.2.2.2.1, hts⟩ (hM l) (cwV na hts hG rfl rfl rfl ⟨rfl, w4⟩ (room_ok hdd w5)) ⟨MPc_blind _ _ _, va_recv C.2.2.2.2.2.2.2.2.1 (one_P (hP.2 a _ hrv).2) hci (q0 := 0) rfl, fun U hU hW => ⟨rfl, by rw [hU]; exact hP, C.2.2.2.2.2.2.2.2.to hS hU hW⟩⟩ rfl hn hl.1 hst (lv_room hcat) hd ⟨hk1, hk2⟩)
theorem aw_callS {y : MethodName} {cb : ByteArray} {mL' : Nat} {ret' : Option FieldType} {d' k' n' idx na : Nat} {As : List Value} {st0 : List Value} {r : Option Value} {h' : Hea}
    (hw : WS own idx y cb mL' ret' na) (hM : MC g y cb mL' ret' d' k' n' As h (r, h')) (hd : decode cc pc = .ok (.invokestatic idx, 3)) (hn : As.length = na) (hst : st0 = As.reverse ++ st) (hcat : (st.map fun v => v.category).sum ≤ 8) (hdd : d' + 1 ≤ Y.2.2.2.1) (hk1 : ck + k' ≤ Y.2.2.2.2.1) (hk2 : cn + n' ≤ Y.2.2.2.2.2)
    (kk : AW g own cc Y res (pc + 3) L (r.toList ++ st) h' (ck + k') (cn + n')) : AW g own cc Y res pc L st0 h ck cn := by
  intro l p e s m args below meth c C H locs ls hP hS hl
  obtain ⟨⟨w1, w2, w3, w4, w5⟩, w6⟩ := hw
  have hts := C.2.2.2.2.2.2.2.1
  refine aw_run kk C hS hl (va_runS (As := As) (rest := st) ⟨C.1, C.2.1, C.2.2.1, C.2.2.2.2.2.2.1, hts⟩ (hM l) ⟨callB_of na hts (gin w3) rfl rfl rfl (hts _ w2) (hts _ w1) w4 (room_ok hdd w5), hts _ w6⟩ ⟨MPc_blind _ _ _, fun U hU hW => ⟨rfl, by rw [hU]; exact hP, C.2.2.2.2.2.2.2.2.to hS hU hW⟩⟩ rfl hn hl.1 hst (lv_room hcat) hd ⟨hk1, hk2⟩)
theorem aw_callI {y : MethodName} {cb : ByteArray} {mL' : Nat} {d' k' n' idx a na : Nat} {As : List Value} {st0 : List Value} {r : Option Value} {h' : Hea}
    (hw : WI own idx y cb mL' na) (hM : MC g y cb mL' none d' k' n' (.ref a :: As) h (r, h')) (hd : decode cc pc = .ok (.invokespecial idx, 3)) (hn : As.length = na) (hst : st0 = As.reverse ++ .ref a :: st) (hcat : (st.map fun v => v.category).sum ≤ 8) (hdd : d' + 1 ≤ Y.2.2.2.1) (hk1 : ck + k' ≤ Y.2.2.2.2.1) (hk2 : cn + n' ≤ Y.2.2.2.2.2)
    (kk : AW g own cc Y res (pc + 3) L (r.toList ++ st) h' (ck + k') (cn + n')) : AW g own cc Y res pc L st0 h ck cn := by
  intro l p e s m args below meth c C H locs ls hP hS hl
  obtain ⟨⟨w1, w2, w3, w4, w5⟩, w6, w7⟩ := hw
  have hts := C.2.2.2.2.2.2.2.1
  refine aw_run kk C hS hl (va_runI (As := As) (rest := st) ⟨C.1, C.2.1, C.2.2.1, C.2.2.2.2.2.2.1, hts⟩ (hM l) ⟨callB_of na hts (gin w3) rfl rfl rfl (hts _ w2) (hts _ w1) w4 (room_ok hdd w5), w7, hts _ w6⟩ ⟨MPc_blind _ _ _, fun U hU hW => ⟨rfl, by rw [hU]; exact hP, C.2.2.2.2.2.2.2.2.to hS hU hW⟩⟩ rfl hn hl.1 hst (lv_room hcat) hd ⟨hk1, hk2⟩)
theorem aw_callIN {y : MethodName} {cb : ByteArray} {mL' : Nat} {d' k' n' idx a na : Nat} {As : List Value} {st0 : List Value} {r : Option Value} {h' : Hea}
    (hw : WN own idx y cb mL' none na) (hin : Cond.instanceMethod y ∈ tb) (hnm : y.name = "<init>") (hM : MC g y cb mL' none d' k' n' (.ref a :: As) h (r, h')) (hd : decode cc pc = .ok (.invokespecial idx, 3)) (hn : As.length = na) (hst : st0 = As.reverse ++ .ref a :: st) (hcat : (st.map fun v => v.category).sum ≤ 8) (hdd : d' + 1 ≤ Y.2.2.2.1) (hk1 : ck + k' ≤ Y.2.2.2.2.1) (hk2 : cn + n' ≤ Y.2.2.2.2.2)
    (kk : AW g own cc Y res (pc + 3) L (r.toList ++ st) h' (ck + k') (cn + n')) : AW g own cc Y res pc L st0 h ck cn := by
  intro l p e s m args below meth c C H locs ls hP hS hl
  obtain ⟨w1, w2, w3, w4, w5⟩ := hw
  have hts := C.2.2.2.2.2.2.2.1
  refine aw_run kk C hS hl (va_runIN (As := As) (rest := st) ⟨C.1, C.2.1, C.2.2.1, C.2.2.2.2.2.2.1, hts⟩ (hM l) ⟨va_cnB na hts (gin w3) rfl rfl rfl (C.2.2.2.2.2.2.2.2.2.2.2.2.1 _ w1) (hts _ w2) w4 (room_ok hdd w5), hnm, hts _ hin⟩ ⟨MPc_blind _ _ _, fun U hU hW => ⟨rfl, by rw [hU]; exact hP, C.2.2.2.2.2.2.2.2.to hS hU hW⟩⟩ rfl hn hl.1 hst (lv_room hcat) hd ⟨hk1, hk2⟩)
theorem aw_callSN {y : MethodName} {cb : ByteArray} {mL' : Nat} {ret' : Option FieldType} {d' k' n' idx na : Nat} {As : List Value} {st0 : List Value} {r : Option Value} {h' : Hea}
    (hw : WN own idx y cb mL' ret' na) (hsta : Cond.static y ∈ tb) (hM : MC g y cb mL' ret' d' k' n' As h (r, h')) (hd : decode cc pc = .ok (.invokestatic idx, 3)) (hn : As.length = na) (hst : st0 = As.reverse ++ st) (hcat : (st.map fun v => v.category).sum ≤ 8) (hdd : d' + 1 ≤ Y.2.2.2.1) (hk1 : ck + k' ≤ Y.2.2.2.2.1) (hk2 : cn + n' ≤ Y.2.2.2.2.2)
    (kk : AW g own cc Y res (pc + 3) L (r.toList ++ st) h' (ck + k') (cn + n')) : AW g own cc Y res pc L st0 h ck cn := by
  intro l p e s m args below meth c C H locs ls hP hS hl
  obtain ⟨w1, w2, w3, w4, w5⟩ := hw
  have hts := C.2.2.2.2.2.2.2.1
  refine aw_run kk C hS hl (va_runSN (As := As) (rest := st) ⟨C.1, C.2.1, C.2.2.1, C.2.2.2.2.2.2.1, hts⟩ (hM l) ⟨va_cnB na hts (gin w3) rfl rfl rfl (C.2.2.2.2.2.2.2.2.2.2.2.2.1 _ w1) (hts _ w2) w4 (room_ok hdd w5), hts _ hsta, trivial⟩ ⟨MPc_blind _ _ _, fun U hU hW => ⟨rfl, by rw [hU]; exact hP, C.2.2.2.2.2.2.2.2.to hS hU hW⟩⟩ rfl hn hl.1 hst (lv_room hcat) hd ⟨hk1, hk2⟩)
end
end
section
/-! ===== arraycopy, lengths, Math, new cells ===== -/
section
variable {g : Gx} {own : String} {cc : ByteArray} {Y : Ym} {res : Option Value × Hea} {pc : Nat} {L : List (Nat × Value)} {st : List Value} {h : Hea} {ck cn : Nat} {ρ : Type} {o : ρ}
/-- the words of System.arraycopy -/
def WC (own : String) (idx : Nat) : Prop := Cond.methodLink own idx arraycopyName ∈ tb ∧ Cond.native arraycopyName ∈ tb ∧ Cond.static arraycopyName ∈ tb ∧ Cond.initialized "java/lang/System" ∈ tb
theorem nn0 {z : Int32} (hz : ¬ z < 0) : z.toInt = (z.toNatClampNeg : Int) := by
  have hz0 : (0 : Int) ≤ z.toInt := by
    have := Int32.not_lt.mp hz
    simpa using Int32.le_iff_toInt_le.mp this
  show z.toInt = ((z.toInt.toNat : Nat) : Int)
  omega
theorem aw_cpI {idx a b : Nat} {n : Int32} {K : Hea → Option ρ} (hw : WC own idx) (hd : decode cc pc = .ok (.invokestatic idx, 3)) (hdd : 1 ≤ Y.2.2.2.1) (hcat : (st.map fun v => v.category).sum ≤ 8) (hf : (cpI h a b n).bind K = some o) (kk : ∀ h', K h' = some o → AW g own cc Y res (pc + 3) L st h' ck cn) :
    AW g own cc Y res pc L (.int n :: .int 0 :: .ref b :: .int 0 :: .ref a :: st) h ck cn := by
  obtain ⟨h', h1, h2⟩ := bnd hf
  obtain ⟨n0, n1, f, gg, ha, hb, hn0, hn1, hn2, rfl⟩ := cpI_some h1
  intro l p e s m args below meth c C H locs ls hP hS hl
  have hts := C.2.2.2.2.2.2.2.1
  have hn : ¬ n < 0 := Int32.not_lt.mpr hn0
  have hK := C.2.2.2.2.2.2.2.2.1
  have hc0 : H[a]? = some (vp_cell (gY g 0) (n0, .inl f)) := (hP.2 a _ ha).2
  have hc1 : H[b]? = some (vp_cell (gY g 0) (n1, .inl gg)) := (hP.2 b _ hb).2
  have hB := (hP.2 b _ hb).1
  obtain ⟨-, k0, hk0, cm0, hkk0⟩ := (hK.2 0 _ rfl).1 n0 (fun j => .int (f j))
  obtain ⟨-, k1, hk1, cm1, hkk1⟩ := (hK.2 0 _ rfl).1 n1 (fun j => .int (gg j))
  intro T hT X
  obtain ⟨vm', X', step⟩ := X.arraycopy C.1 C.2.2.2.2.2.2.1 (hts _ hw.1) (hts _ hw.2.1) (hts _ hw.2.2.1) (hts _ hw.2.2.2) (src := a) (dst := b) (cs := vp_cell (gY g 0) (n0, .inl f)) (cd := vp_cell (gY g 0) (n1, .inl gg)) (srcPos := 0) (destPos := 0) (n := n) (by rw [hT]; exact hc0) (by rw [hT]; exact hc1)
    (fun _ h => by cases h) (fun _ h => by cases h) (fun h => by cases h) (fun h => by cases h) hk0 hk1 hkk0 hkk1 (by simp [refKind]) (by decide) (by decide) hn
    (by rw [nn0 hn]; show ¬ _ > ((arrV (gY g 0) n0 (fun j => .int (f j))).slots.size : Int); rw [arrV_size]; simp; omega)
    (by rw [nn0 hn]; show ¬ _ > ((arrV (gY g 0) n1 (fun j => .int (gg j))).slots.size : Int); rw [arrV_size]; simp; omega)
    (fun vm₁ _ i hi => by
      have e : (vp_cell (gY g 0) (n0, .inl f)).slots.getD ((0 : Int32).toNatClampNeg + i) .null = .int (f ((0 : Int32).toNatClampNeg + i)) := by
        show (arrV (gY g 0) n0 (fun j => .int (f j))).slots.getD _ _ = _
        rw [Array.getD_eq_getD_getElem?, arrV_read _ _ (by rw [sb_cl0]; omega)]
        rfl
      refine ⟨?_, ?_⟩
      · rw [e]; rfl
      · rw [e]
        exact trivial)
    (g := F0 m pc ls (.int n :: .int 0 :: .ref b :: .int 0 :: .ref a :: st)) rfl (by rw [C.2.2.1]; exact hl.1) (rest := st) rfl (by rw [C.2.1]; exact hd) hdd (by
      show 2 * 0 + (st.map fun v => v.category).sum + _ ≤ 36 * Y.2.2.2.1
      have : nativeFrameWords "java/lang/System" "arraycopy" 5 + 11 ≤ 28 := by decide
      omega)
  have e1 : copied (vp_cell (gY g 0) (n0, .inl f)) (vp_cell (gY g 0) (n1, .inl gg)) 0 0 n = vp_cell (gY g 0) (n1, .inl (va_cpy f gg (0 : Int32).toNatClampNeg (0 : Int32).toNatClampNeg n.toNatClampNeg)) := va_copied (fun z => .int z) (gY g 0) (gY g 0) f gg (by rw [sb_cl0]; omega)
  rw [e1, sb_cl0] at X' step
  have hlt : b < H.size := (Array.getElem?_eq_some_iff.mp hc1).1
  have hheap : ((T.setVm vm').setCell b (vp_cell (gY g 0) (n1, .inl (va_cpy f gg 0 0 n.toNatClampNeg)))).heap = H.setIfInBounds b (vp_cell (gY g 0) (n1, .inl (va_cpy f gg 0 0 n.toNatClampNeg))) := by rw [← hT]; rfl
  have oq : ∀ q : Nat, q ≠ b → (H.setIfInBounds b (vp_cell (gY g 0) (n1, .inl (va_cpy f gg 0 0 n.toNatClampNeg))))[q]? = H[q]? := fun q hq => by simp [Array.getElem?_setIfInBounds, Ne.symm hq]
  obtain ⟨t, a1, b1⟩ := kk _ h2 l p e s m args below meth c C _ _ ls (hP.put hB (show (H.setIfInBounds b _)[b]? = some _ by simp [Array.getElem?_setIfInBounds, hlt]) (by simp) oq) ⟨by simp; exact hS.1, fun q g1 g2 => by
      rw [oq q (fun e => g2 (by rw [e]; exact hB))]
      exact hS.2.1 q g1 g2, fun q hq => by
      rcases List.mem_append.mp hq with h | h
      · exact hS.2.2 q h
      · obtain ⟨z, -, hz⟩ := List.mem_map.mp h
        rw [← hz]
        exact hB⟩ hl _ hheap X'
  exact ⟨t, step t a1, b1⟩
theorem aw_cpJ {idx a b : Nat} {n : Int32} {K : Hea → Option ρ} (hw : WC own idx) (hd : decode cc pc = .ok (.invokestatic idx, 3)) (hdd : 1 ≤ Y.2.2.2.1) (hcat : (st.map fun v => v.category).sum ≤ 8) (hf : (cpJ h a b n).bind K = some o) (kk : ∀ h', K h' = some o → AW g own cc Y res (pc + 3) L st h' ck cn) :
    AW g own cc Y res pc L (.int n :: .int 0 :: .ref b :: .int 0 :: .ref a :: st) h ck cn := by
  obtain ⟨h', h1, h2⟩ := bnd hf
  obtain ⟨n0, n1, f, gg, ha, hb, hn0, hn1, hn2, rfl⟩ := cpJ_some h1
  intro l p e s m args below meth c C H locs ls hP hS hl
  have hts := C.2.2.2.2.2.2.2.1
  have hn : ¬ n < 0 := Int32.not_lt.mpr hn0
  have hK := C.2.2.2.2.2.2.2.2.1
  have hc0 : H[a]? = some (vp_cell (gY g 3) (n0, .inr (.inl f))) := (hP.2 a _ ha).2
  have hc1 : H[b]? = some (vp_cell (gY g 3) (n1, .inr (.inl gg))) := (hP.2 b _ hb).2
  have hB := (hP.2 b _ hb).1
  obtain ⟨-, k0, hk0, cm0, hkk0⟩ := (hK.2 3 _ rfl).1 n0 (fun j => .long (f j))
  obtain ⟨-, k1, hk1, cm1, hkk1⟩ := (hK.2 3 _ rfl).1 n1 (fun j => .long (gg j))
  intro T hT X
  obtain ⟨vm', X', step⟩ := X.arraycopy C.1 C.2.2.2.2.2.2.1 (hts _ hw.1) (hts _ hw.2.1) (hts _ hw.2.2.1) (hts _ hw.2.2.2) (src := a) (dst := b) (cs := vp_cell (gY g 3) (n0, .inr (.inl f))) (cd := vp_cell (gY g 3) (n1, .inr (.inl gg))) (srcPos := 0) (destPos := 0) (n := n) (by rw [hT]; exact hc0) (by rw [hT]; exact hc1)
    (fun _ h => by cases h) (fun _ h => by cases h) (fun h => by cases h) (fun h => by cases h) hk0 hk1 hkk0 hkk1 (by simp [refKind]) (by decide) (by decide) hn
    (by rw [nn0 hn]; show ¬ _ > ((arrV (gY g 3) n0 (fun j => .long (f j))).slots.size : Int); rw [arrV_size]; simp; omega)
    (by rw [nn0 hn]; show ¬ _ > ((arrV (gY g 3) n1 (fun j => .long (gg j))).slots.size : Int); rw [arrV_size]; simp; omega)
    (fun vm₁ _ i hi => by
      have e : (vp_cell (gY g 3) (n0, .inr (.inl f))).slots.getD ((0 : Int32).toNatClampNeg + i) .null = .long (f ((0 : Int32).toNatClampNeg + i)) := by
        show (arrV (gY g 3) n0 (fun j => .long (f j))).slots.getD _ _ = _
        rw [Array.getD_eq_getD_getElem?, arrV_read _ _ (by rw [sb_cl0]; omega)]
        rfl
      refine ⟨?_, ?_⟩
      · rw [e]; rfl
      · rw [e]
        exact trivial)
    (g := F0 m pc ls (.int n :: .int 0 :: .ref b :: .int 0 :: .ref a :: st)) rfl (by rw [C.2.2.1]; exact hl.1) (rest := st) rfl (by rw [C.2.1]; exact hd) hdd (by
      show 2 * 0 + (st.map fun v => v.category).sum + _ ≤ 36 * Y.2.2.2.1
      have : nativeFrameWords "java/lang/System" "arraycopy" 5 + 11 ≤ 28 := by decide
      omega)
  have e1 : copied (vp_cell (gY g 3) (n0, .inr (.inl f))) (vp_cell (gY g 3) (n1, .inr (.inl gg))) 0 0 n = vp_cell (gY g 3) (n1, .inr (.inl (va_cpy f gg (0 : Int32).toNatClampNeg (0 : Int32).toNatClampNeg n.toNatClampNeg))) := va_copied (fun z => .long z) (gY g 3) (gY g 3) f gg (by rw [sb_cl0]; omega)
  rw [e1, sb_cl0] at X' step
  have hlt : b < H.size := (Array.getElem?_eq_some_iff.mp hc1).1
  have hheap : ((T.setVm vm').setCell b (vp_cell (gY g 3) (n1, .inr (.inl (va_cpy f gg 0 0 n.toNatClampNeg))))).heap = H.setIfInBounds b (vp_cell (gY g 3) (n1, .inr (.inl (va_cpy f gg 0 0 n.toNatClampNeg)))) := by rw [← hT]; rfl
  have oq : ∀ q : Nat, q ≠ b → (H.setIfInBounds b (vp_cell (gY g 3) (n1, .inr (.inl (va_cpy f gg 0 0 n.toNatClampNeg)))))[q]? = H[q]? := fun q hq => by simp [Array.getElem?_setIfInBounds, Ne.symm hq]
  obtain ⟨t, a1, b1⟩ := kk _ h2 l p e s m args below meth c C _ _ ls (hP.put hB (show (H.setIfInBounds b _)[b]? = some _ by simp [Array.getElem?_setIfInBounds, hlt]) (by simp) oq) ⟨by simp; exact hS.1, fun q g1 g2 => by
      rw [oq q (fun e => g2 (by rw [e]; exact hB))]
      exact hS.2.1 q g1 g2, fun q hq => by
      rcases List.mem_append.mp hq with h | h
      · exact hS.2.2 q h
      · obtain ⟨z, -, hz⟩ := List.mem_map.mp h
        rw [← hz]
        exact hB⟩ hl _ hheap X'
  exact ⟨t, step t a1, b1⟩
theorem aw_alen {kd a : Nat} {ty : FieldType} {K : Int32 → Option ρ} (ht : ∀ cy : Nat → ClassId, (tysOf cy)[kd]? = some (cy kd, ty)) (hd : decode cc pc = .ok (.arraylength, 1)) (hf : (alen h kd a).bind K = some o) (kk : ∀ x, K x = some o → AW g own cc Y res (pc + 1) L (.int x :: st) h ck cn) : AW g own cc Y res pc L (.ref a :: st) h ck cn := by
  obtain ⟨x, h1, h2⟩ := bnd hf
  obtain ⟨n, q, hc, hn, rfl⟩ := alen_some h1
  intro l p e s m args below meth c C H locs ls hP hS hl
  exact va_alen (ws := [(a, .inl (gY g kd, n, q))]) C.1 C.2.1 C.2.2.2.2.2.2.2.2.1 (one_P (hP.2 a _ hc).2) 0 kd rfl (ht _) rfl hd (kk _ h2 l p e s m args below meth c C H locs ls hP hS hl)
/-- the words of Math.max, min of ints, max of longs -/
def WM (own : String) (idx : Nat) (y : MethodName) (cb : ByteArray) (mL : Nat) (ret : Option FieldType) : Prop := Cond.methodLink own idx y ∈ tb ∧ Cond.static y ∈ tb ∧ Cond.initialized "java/lang/Math" ∈ tb ∧ Cond.code y cb mL ret ∈ tb
theorem aw_mmax {idx : Nat} {x y : Int32} (hw : WM own idx Lib.Math.max.name Lib.Math.max.code 2 (some .int)) (hd : decode cc pc = .ok (.invokestatic idx, 3)) (hdd : 1 ≤ Y.2.2.2.1) (hcat : (st.map fun v => v.category).sum ≤ 8) (hc : ck ≤ Y.2.2.2.2.1) (hn : cn ≤ Y.2.2.2.2.2) (kk : AW g own cc Y res (pc + 3) L (.int (if x < y then y else x) :: st) h ck cn) : AW g own cc Y res pc L (.int y :: .int x :: st) h ck cn :=
  fun l p e s m args below meth c C H locs ls hP hS hl => va_mmax C.1 C.2.1 (C.2.2.1.trans hl.1.symm) C.2.2.2.2.2.2.1 (C.2.2.2.2.2.2.2.1 _ hw.1) (C.2.2.2.2.2.2.2.1 _ hw.2.1) (C.2.2.2.2.2.2.2.1 _ hw.2.2.1) (C.2.2.2.2.2.2.2.1 _ hw.2.2.2) hdd (by show _ + 13 ≤ 36 * Y.2.2.2.1; omega) hc hn hd (kk l p e s m args below meth c C H locs ls hP hS hl)
theorem aw_mmin {idx : Nat} {x y : Int32} (hw : WM own idx Lib.Math.min.name Lib.Math.min.code 2 (some .int)) (hd : decode cc pc = .ok (.invokestatic idx, 3)) (hdd : 1 ≤ Y.2.2.2.1) (hcat : (st.map fun v => v.category).sum ≤ 8) (hc : ck ≤ Y.2.2.2.2.1) (hn : cn ≤ Y.2.2.2.2.2) (kk : AW g own cc Y res (pc + 3) L (.int (if y < x then y else x) :: st) h ck cn) : AW g own cc Y res pc L (.int y :: .int x :: st) h ck cn :=
  fun l p e s m args below meth c C H locs ls hP hS hl => va_mmin C.1 C.2.1 (C.2.2.1.trans hl.1.symm) C.2.2.2.2.2.2.1 (C.2.2.2.2.2.2.2.1 _ hw.1) (C.2.2.2.2.2.2.2.1 _ hw.2.1) (C.2.2.2.2.2.2.2.1 _ hw.2.2.1) (C.2.2.2.2.2.2.2.1 _ hw.2.2.2) hdd (by show _ + 13 ≤ 36 * Y.2.2.2.1; omega) hc hn hd (kk l p e s m args below meth c C H locs ls hP hS hl)
theorem aw_mmaxJ {idx : Nat} {x y : Int64} (hw : WM own idx Lib.MathLoose.max_long.x Lib.MathLoose.max_long.code 4 (some .long)) (hd : decode cc pc = .ok (.invokestatic idx, 3)) (hdd : 1 ≤ Y.2.2.2.1) (hcat : (st.map fun v => v.category).sum ≤ 8) (hc : ck ≤ Y.2.2.2.2.1) (hn : cn ≤ Y.2.2.2.2.2) (kk : AW g own cc Y res (pc + 3) L (.long (if y < x then x else y) :: st) h ck cn) : AW g own cc Y res pc L (.long y :: .long x :: st) h ck cn :=
  fun l p e s m args below meth c C H locs ls hP hS hl => va_mmax_long C.1 C.2.1 (C.2.2.1.trans hl.1.symm) C.2.2.2.2.2.2.1 (C.2.2.2.2.2.2.2.1 _ hw.1) (C.2.2.2.2.2.2.2.1 _ hw.2.1) (C.2.2.2.2.2.2.2.1 _ hw.2.2.1) (C.2.2.2.2.2.2.2.1 _ hw.2.2.2) hdd (by show _ + 15 ≤ 36 * Y.2.2.2.1; omega) hc hn hd (kk l p e s m args below meth c C H locs ls hP hS hl)
/-- Object.<init> -/
theorem aw_obj {idx a : Nat} (hw : Cond.methodLink own idx Lib.objectInit ∈ tb ∧ Cond.instanceMethod Lib.objectInit ∈ tb ∧ Cond.code Lib.objectInit ⟨#[0xb1]⟩ 1 none ∈ tb) (hd : decode cc pc = .ok (.invokespecial idx, 3)) (hdd : 1 ≤ Y.2.2.2.1) (hcat : (st.map fun v => v.category).sum ≤ 8) (kk : AW g own cc Y res (pc + 3) L st h ck cn) : AW g own cc Y res pc L (.ref a :: st) h ck cn :=
  fun l p e s m args below meth c C H locs ls hP hS hl => W.objInit C.1 C.2.1 C.2.2.2.2.2.2.1 (C.2.2.2.2.2.2.2.1 _ hw.1) (C.2.2.2.2.2.2.2.1 _ hw.2.1) (C.2.2.2.2.2.2.2.1 _ hw.2.2) (g := F0 m pc ls (.ref a :: st)) rfl (hl.1.trans C.2.2.1.symm) rfl hd hdd (by show 2 * 0 + _ + 12 ≤ 36 * Y.2.2.2.1; omega) (kk l p e s m args below meth c C H locs ls hP hS hl)
theorem aw_new {idx ci N : Nat} {C' : String} {T : u_T} {ty : Nat → FieldType} {fs : List Value} (hck : CKd ci C' T N ty) (hw : Cond.classLink own idx C' ∈ tb ∧ Cond.instantiable C' N ∈ tb ∧ Cond.initialized C' ∈ tb) (hfs : ∀ j, j < N → defaultValue (ty j) = vp_V fs j) (hB : gB g ≤ h.1) (hd : decode cc pc = .ok (.new idx, 3)) (hk1 : ck + 1 ≤ Y.2.2.2.2.1) (hk2 : cn + N ≤ Y.2.2.2.2.2) (kk : AW g own cc Y res (pc + 3) L (.ref h.1 :: st) (hnew h (cO ci fs)) (ck + 1) (cn + N)) : AW g own cc Y res pc L st h ck cn := by
  intro l p e s m args below meth c C H locs ls hP hS hl
  have hts := C.2.2.2.2.2.2.2.1
  have hKn := C.2.2.2.2.2.2.2.2.1.1 ci _ hck.1
  refine W.newcK C.1 C.2.1 C.2.2.2.2.2.2.1 (hts _ hw.1) (hts _ hw.2.1) (hts _ hw.2.2) rfl hd hk1 hk2 hKn.2.1 hP.1 fun H1 kC hkC e1 z1 o1 => ?_
  refine kk l p e s m args below meth c C H1 locs ls (hP.new hB ⟨_, hck.1, (u_born ty hts hck.2.1 hKn hkC e1 hck.2.2.1).to hfs⟩ z1 o1) ⟨Nat.le_trans hS.1 (by rw [hP.1]; omega), fun x h1 h2 => (o1 x (by rw [← hP.1]; exact Nat.lt_of_lt_of_le h1 hS.1)).trans (hS.2.1 x h1 h2), hS.2.2⟩ hl
theorem aw_newa {kd N : Nat} {n : Int32} {atype : ArrayType} {a0 : vp_A} (hw : Cond.arrayClass (newarray.typeOf atype) ∈ tb) (ht : ∀ cy : Nat → ClassId, (tysOf cy)[kd]? = some (cy kd, newarray.typeOf atype)) (hra : ∀ (U : State) (cA : ClassId), va_RA U cA (newarray.typeOf atype) → U.vm.findClass ("[" ++ (newarray.typeOf atype).toString) = some cA) (ha : ∀ cA : ClassId, vp_cell cA a0 = arrV cA N (fun _ => defaultValue (newarray.typeOf atype))) (hn : ¬ n < 0) (hN : n.toNatClampNeg = N) (hbytes : N * componentBytes (newarray.typeOf atype) ≤ 536870912) (hB : gB g ≤ h.1) (hd : decode cc pc = .ok (.newarray atype, 2)) (hk1 : ck + 1 ≤ Y.2.2.2.2.1) (hk2 : cn + N ≤ Y.2.2.2.2.2) (kk : AW g own cc Y res (pc + 2) L (.ref h.1 :: st) (hnew h (.inl (kd, a0))) (ck + 1) (cn + N)) : AW g own cc Y res pc L (.int n :: st) h ck cn := by
  intro l p e s m args below meth c C H locs ls hP hS hl
  have hts := C.2.2.2.2.2.2.2.1
  have hK := C.2.2.2.2.2.2.2.2.1
  refine va_newaK C.1 C.2.1 (hts _ hw) rfl hd rfl hn hN hbytes hk1 hk2 hP.1 fun H1 cA e1 z1 o1 hAr hNm => ?_
  have hcy : cA = gY g kd := Option.some.inj (hNm.symm.trans (hra _ _ (hK.2 kd _ (ht _)).2))
  subst hcy
  refine kk l p e s m args below meth c C H1 locs ls (hP.new hB (show H1[h.1]? = some (vp_cell _ _) by rw [ha]; exact e1) z1 o1) ⟨Nat.le_trans hS.1 (by rw [hP.1]; omega), fun x h1 h2 => (o1 x (by rw [← hP.1]; exact Nat.lt_of_lt_of_le h1 hS.1)).trans (hS.2.1 x h1 h2), hS.2.2⟩ hl
theorem aw_anew {idx kd N : Nat} {n : Int32} {E : String} (hw : Cond.classLink own idx E ∈ tb) (ho : ∀ U, Kn g U → va_AO E U) (ht : ∀ cy : Nat → ClassId, (tysOf cy)[kd]? = some (cy kd, .object E)) (hn : ¬ n < 0) (hN : n.toNatClampNeg = N) (hbytes : N * 4 ≤ 536870912) (hB : gB g ≤ h.1) (hd : decode cc pc = .ok (.anewarray idx, 3)) (hk1 : ck + 1 ≤ Y.2.2.2.2.1) (hk2 : cn + N ≤ Y.2.2.2.2.2) (kk : AW g own cc Y res (pc + 3) L (.ref h.1 :: st) (hnew h (cR kd N (fun _ => none))) (ck + 1) (cn + N)) : AW g own cc Y res pc L (.int n :: st) h ck cn := by
  intro l p e s m args below meth c C H locs ls hP hS hl
  have hts := C.2.2.2.2.2.2.2.1
  have hK := C.2.2.2.2.2.2.2.2.1
  subst hN
  refine W.anew C.1 C.2.1 C.2.2.2.2.2.2.1 (hts _ hw) (va_AO.use (ho _ C.2.2.2.2.2.2.2.2)) rfl hd rfl hn hbytes hk1 hk2 fun cA kA comp f1 f2 f3 f4 => ?_
  generalize hH1 : H.push ({ cls := cA, slots := Array.replicate n.toNatClampNeg .null, vm := .none } : Cell) = H1
  have z1 : H1.size = h.1 + 1 := by rw [← hH1, Array.size_push, hP.1]
  have e1 : H1[h.1]? = some (arrV cA n.toNatClampNeg (fun _ => .null)) := by rw [← hP.1, ← hH1, Array.getElem?_push_size, ← arrV_new]
  have o1 : ∀ q : Nat, q < h.1 → H1[q]? = H[q]? := fun q hq => by rw [← hH1, Array.getElem?_push, if_neg (by rw [hP.1]; exact Nat.ne_of_lt hq)]
  obtain ⟨kB, compB, b1, b2, b3, b4⟩ := (hK.2 kd _ (ht _)).2
  have hcy : cA = gY g kd := Option.some.inj (f1.symm.trans b4)
  subst hcy
  rw [show H.size = h.1 from hP.1]
  refine kk l p e s m args below meth c C H1 locs ls (hP.new hB (show H1[h.1]? = some (vp_cell _ _) by rw [vp_cell_q]; exact e1) z1 o1) ⟨Nat.le_trans hS.1 (by rw [z1, hP.1]; omega), fun x h1 h2 => (o1 x (by rw [← hP.1]; exact Nat.lt_of_lt_of_le h1 hS.1)).trans (hS.2.1 x h1 h2), hS.2.2⟩ hl
end
end
