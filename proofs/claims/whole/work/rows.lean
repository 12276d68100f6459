section
/-- a private method of a class that the tables say can be made, by its rows of tables_1 -/
def lw_okq (q : MethodName × Nat) : Prop := (q.1.cls ≠ "java/lang/invoke/MethodHandle" ∧ q.1.cls ≠ "java/lang/invoke/VarHandle") ∧ Cond.instantiable q.1.cls q.2 ∈ tables_1 ∧ Cond.privateMethod q.1 ∈ tables_1 ∧ Cond.instanceMethod q.1 ∈ tables_1
theorem lw_p0 : lw_okq (⟨"BellBalance", "anew", "(LBellBalance$Row;II)I"⟩, 15) := ⟨⟨by decide +kernel, by decide +kernel⟩, List.mem_of_getElem? (i := 16) (by decide +kernel), List.mem_of_getElem? (i := 248) (by decide +kernel), List.mem_of_getElem? (i := 249) (by decide +kernel)⟩
theorem lw_p1 : lw_okq (⟨"BellBalance", "find", "(I)I"⟩, 15) := ⟨⟨by decide +kernel, by decide +kernel⟩, List.mem_of_getElem? (i := 16) (by decide +kernel), List.mem_of_getElem? (i := 252) (by decide +kernel), List.mem_of_getElem? (i := 253) (by decide +kernel)⟩
theorem lw_p2 : lw_okq (⟨"BellBalance", "refusePlace", "(II)I"⟩, 15) := ⟨⟨by decide +kernel, by decide +kernel⟩, List.mem_of_getElem? (i := 16) (by decide +kernel), List.mem_of_getElem? (i := 273) (by decide +kernel), List.mem_of_getElem? (i := 274) (by decide +kernel)⟩
theorem lw_p3 : lw_okq (⟨"BellBalance", "scan", "(LBellBalance$Row;)I"⟩, 15) := ⟨⟨by decide +kernel, by decide +kernel⟩, List.mem_of_getElem? (i := 16) (by decide +kernel), List.mem_of_getElem? (i := 319) (by decide +kernel), List.mem_of_getElem? (i := 320) (by decide +kernel)⟩
theorem lw_p4 : lw_okq (⟨"BellBalance", "greatestWhole", "(LBellBalance$Bell;)I"⟩, 15) := ⟨⟨by decide +kernel, by decide +kernel⟩, List.mem_of_getElem? (i := 16) (by decide +kernel), List.mem_of_getElem? (i := 397) (by decide +kernel), List.mem_of_getElem? (i := 398) (by decide +kernel)⟩
theorem lw_p5 : lw_okq (⟨"BellBalance", "othersAsHeavy", "(I)I"⟩, 15) := ⟨⟨by decide +kernel, by decide +kernel⟩, List.mem_of_getElem? (i := 16) (by decide +kernel), List.mem_of_getElem? (i := 417) (by decide +kernel), List.mem_of_getElem? (i := 418) (by decide +kernel)⟩
theorem lw_p6 : lw_okq (⟨"BellBalance", "othersSooner", "(I)I"⟩, 15) := ⟨⟨by decide +kernel, by decide +kernel⟩, List.mem_of_getElem? (i := 16) (by decide +kernel), List.mem_of_getElem? (i := 421) (by decide +kernel), List.mem_of_getElem? (i := 422) (by decide +kernel)⟩
theorem lw_p7 : lw_okq (⟨"BellBalance", "refuseBell", "(I)I"⟩, 15) := ⟨⟨by decide +kernel, by decide +kernel⟩, List.mem_of_getElem? (i := 16) (by decide +kernel), List.mem_of_getElem? (i := 436) (by decide +kernel), List.mem_of_getElem? (i := 437) (by decide +kernel)⟩
theorem lw_p8 : lw_okq (⟨"BellBalance$Tower", "perform", "(I)V"⟩, 5) := ⟨⟨by decide +kernel, by decide +kernel⟩, List.mem_of_getElem? (i := 27) (by decide +kernel), List.mem_of_getElem? (i := 451) (by decide +kernel), List.mem_of_getElem? (i := 452) (by decide +kernel)⟩
theorem lw_p9 : lw_okq (⟨"BellBalance", "refuseRound", "(I)I"⟩, 15) := ⟨⟨by decide +kernel, by decide +kernel⟩, List.mem_of_getElem? (i := 16) (by decide +kernel), List.mem_of_getElem? (i := 468) (by decide +kernel), List.mem_of_getElem? (i := 469) (by decide +kernel)⟩
theorem lw_p10 : lw_okq (⟨"BellBalance", "listen", "(LBellBalance$Row;)V"⟩, 15) := ⟨⟨by decide +kernel, by decide +kernel⟩, List.mem_of_getElem? (i := 16) (by decide +kernel), List.mem_of_getElem? (i := 477) (by decide +kernel), List.mem_of_getElem? (i := 478) (by decide +kernel)⟩
theorem lw_p11 : lw_okq (⟨"BellBalance$Hearing", "isBehind", "(III)Z"⟩, 3) := ⟨⟨by decide +kernel, by decide +kernel⟩, List.mem_of_getElem? (i := 93) (by decide +kernel), List.mem_of_getElem? (i := 489) (by decide +kernel), List.mem_of_getElem? (i := 490) (by decide +kernel)⟩
theorem lw_p12 : lw_okq (⟨"BellBalance$Paths", "pullToward", "(III)I"⟩, 2) := ⟨⟨by decide +kernel, by decide +kernel⟩, List.mem_of_getElem? (i := 129) (by decide +kernel), List.mem_of_getElem? (i := 545) (by decide +kernel), List.mem_of_getElem? (i := 546) (by decide +kernel)⟩
theorem lw_p13 : lw_okq (⟨"BellBalance", "tellParts", "(JJ)I"⟩, 15) := ⟨⟨by decide +kernel, by decide +kernel⟩, List.mem_of_getElem? (i := 16) (by decide +kernel), List.mem_of_getElem? (i := 585) (by decide +kernel), List.mem_of_getElem? (i := 586) (by decide +kernel)⟩
theorem lw_p14 : lw_okq (⟨"BellBalance$Paths", "lightestPull", "(III)I"⟩, 2) := ⟨⟨by decide +kernel, by decide +kernel⟩, List.mem_of_getElem? (i := 129) (by decide +kernel), List.mem_of_getElem? (i := 600) (by decide +kernel), List.mem_of_getElem? (i := 601) (by decide +kernel)⟩
theorem lw_p15 : lw_okq (⟨"BellBalance$Paths", "sumBy", "(IIII)I"⟩, 2) := ⟨⟨by decide +kernel, by decide +kernel⟩, List.mem_of_getElem? (i := 129) (by decide +kernel), List.mem_of_getElem? (i := 604) (by decide +kernel), List.mem_of_getElem? (i := 605) (by decide +kernel)⟩
def lw_privs_1 : List (MethodName × Nat) := [(⟨"BellBalance", "anew", "(LBellBalance$Row;II)I"⟩, 15), (⟨"BellBalance", "find", "(I)I"⟩, 15), (⟨"BellBalance", "refusePlace", "(II)I"⟩, 15), (⟨"BellBalance", "scan", "(LBellBalance$Row;)I"⟩, 15), (⟨"BellBalance", "greatestWhole", "(LBellBalance$Bell;)I"⟩, 15), (⟨"BellBalance", "othersAsHeavy", "(I)I"⟩, 15), (⟨"BellBalance", "othersSooner", "(I)I"⟩, 15), (⟨"BellBalance", "refuseBell", "(I)I"⟩, 15), (⟨"BellBalance$Tower", "perform", "(I)V"⟩, 5), (⟨"BellBalance", "refuseRound", "(I)I"⟩, 15), (⟨"BellBalance", "listen", "(LBellBalance$Row;)V"⟩, 15), (⟨"BellBalance$Hearing", "isBehind", "(III)Z"⟩, 3), (⟨"BellBalance$Paths", "pullToward", "(III)I"⟩, 2), (⟨"BellBalance", "tellParts", "(JJ)I"⟩, 15), (⟨"BellBalance$Paths", "lightestPull", "(III)I"⟩, 2), (⟨"BellBalance$Paths", "sumBy", "(IIII)I"⟩, 2)]
theorem lw_r1 : ∀ q ∈ lw_privs_1, lw_okq q := List.forall_mem_cons.mpr ⟨lw_p0, List.forall_mem_cons.mpr ⟨lw_p1, List.forall_mem_cons.mpr ⟨lw_p2, List.forall_mem_cons.mpr ⟨lw_p3, List.forall_mem_cons.mpr ⟨lw_p4, List.forall_mem_cons.mpr ⟨lw_p5, List.forall_mem_cons.mpr ⟨lw_p6, List.forall_mem_cons.mpr ⟨lw_p7, List.forall_mem_cons.mpr ⟨lw_p8, List.forall_mem_cons.mpr ⟨lw_p9, List.forall_mem_cons.mpr ⟨lw_p10, List.forall_mem_cons.mpr ⟨lw_p11, List.forall_mem_cons.mpr ⟨lw_p12, List.forall_mem_cons.mpr ⟨lw_p13, List.forall_mem_cons.mpr ⟨lw_p14, List.forall_mem_cons.mpr ⟨lw_p15, fun _ h => absurd h List.not_mem_nil⟩⟩⟩⟩⟩⟩⟩⟩⟩⟩⟩⟩⟩⟩⟩⟩
theorem lw_p16 : lw_okq (⟨"BellBalance$Evening", "seek", "(LBellBalance$Tower;LBellBalance$Hearing;I)V"⟩, 3) := ⟨⟨by decide +kernel, by decide +kernel⟩, List.mem_of_getElem? (i := 112) (by decide +kernel), List.mem_of_getElem? (i := 653) (by decide +kernel), List.mem_of_getElem? (i := 654) (by decide +kernel)⟩
theorem lw_p17 : lw_okq (⟨"BellBalance$Evening", "take", "(I)V"⟩, 3) := ⟨⟨by decide +kernel, by decide +kernel⟩, List.mem_of_getElem? (i := 112) (by decide +kernel), List.mem_of_getElem? (i := 658) (by decide +kernel), List.mem_of_getElem? (i := 659) (by decide +kernel)⟩
theorem lw_p18 : lw_okq (⟨"BellBalance", "ringOrder", "(LBellBalance$Row;LBellBalance$Row;)I"⟩, 15) := ⟨⟨by decide +kernel, by decide +kernel⟩, List.mem_of_getElem? (i := 16) (by decide +kernel), List.mem_of_getElem? (i := 698) (by decide +kernel), List.mem_of_getElem? (i := 699) (by decide +kernel)⟩
theorem lw_p19 : lw_okq (⟨"BellBalance$Tower", "ordersBehind", "(III)I"⟩, 5) := ⟨⟨by decide +kernel, by decide +kernel⟩, List.mem_of_getElem? (i := 27) (by decide +kernel), List.mem_of_getElem? (i := 721) (by decide +kernel), List.mem_of_getElem? (i := 722) (by decide +kernel)⟩
theorem lw_p20 : lw_okq (⟨"BellBalance$Play", "winsAgainstAll", "(II)Z"⟩, 2) := ⟨⟨by decide +kernel, by decide +kernel⟩, List.mem_of_getElem? (i := 157) (by decide +kernel), List.mem_of_getElem? (i := 739) (by decide +kernel), List.mem_of_getElem? (i := 740) (by decide +kernel)⟩
theorem lw_p21 : lw_okq (⟨"BellBalance", "refuseTold", "(II)I"⟩, 15) := ⟨⟨by decide +kernel, by decide +kernel⟩, List.mem_of_getElem? (i := 16) (by decide +kernel), List.mem_of_getElem? (i := 757) (by decide +kernel), List.mem_of_getElem? (i := 758) (by decide +kernel)⟩
theorem lw_p22 : lw_okq (⟨"BellBalance", "refuseSlips", "(IIII)I"⟩, 15) := ⟨⟨by decide +kernel, by decide +kernel⟩, List.mem_of_getElem? (i := 16) (by decide +kernel), List.mem_of_getElem? (i := 781) (by decide +kernel), List.mem_of_getElem? (i := 782) (by decide +kernel)⟩
theorem lw_p23 : lw_okq (⟨"BellBalance", "slip", "(LBellBalance$Bell;III)J"⟩, 15) := ⟨⟨by decide +kernel, by decide +kernel⟩, List.mem_of_getElem? (i := 16) (by decide +kernel), List.mem_of_getElem? (i := 785) (by decide +kernel), List.mem_of_getElem? (i := 786) (by decide +kernel)⟩
theorem lw_p24 : lw_okq (⟨"BellBalance", "keptTowers", "()I"⟩, 15) := ⟨⟨by decide +kernel, by decide +kernel⟩, List.mem_of_getElem? (i := 16) (by decide +kernel), List.mem_of_getElem? (i := 832) (by decide +kernel), List.mem_of_getElem? (i := 833) (by decide +kernel)⟩
theorem lw_p25 : lw_okq (⟨"BellBalanceModel", "found", "(I)I"⟩, 28) := ⟨⟨by decide +kernel, by decide +kernel⟩, List.mem_of_getElem? (i := 856) (by decide +kernel), List.mem_of_getElem? (i := 959) (by decide +kernel), List.mem_of_getElem? (i := 960) (by decide +kernel)⟩
theorem lw_p26 : lw_okq (⟨"BellBalanceModel", "anew", "(II)V"⟩, 28) := ⟨⟨by decide +kernel, by decide +kernel⟩, List.mem_of_getElem? (i := 856) (by decide +kernel), List.mem_of_getElem? (i := 963) (by decide +kernel), List.mem_of_getElem? (i := 964) (by decide +kernel)⟩
theorem lw_p27 : lw_okq (⟨"BellBalanceModel", "tells", "(II)I"⟩, 28) := ⟨⟨by decide +kernel, by decide +kernel⟩, List.mem_of_getElem? (i := 856) (by decide +kernel), List.mem_of_getElem? (i := 975) (by decide +kernel), List.mem_of_getElem? (i := 976) (by decide +kernel)⟩
theorem lw_p28 : lw_okq (⟨"BellBalanceModel", "faultOf", "(I)I"⟩, 28) := ⟨⟨by decide +kernel, by decide +kernel⟩, List.mem_of_getElem? (i := 856) (by decide +kernel), List.mem_of_getElem? (i := 1011) (by decide +kernel), List.mem_of_getElem? (i := 1012) (by decide +kernel)⟩
theorem lw_p29 : lw_okq (⟨"BellBalanceModel", "blanks", "(I)V"⟩, 28) := ⟨⟨by decide +kernel, by decide +kernel⟩, List.mem_of_getElem? (i := 856) (by decide +kernel), List.mem_of_getElem? (i := 1015) (by decide +kernel), List.mem_of_getElem? (i := 1016) (by decide +kernel)⟩
theorem lw_p30 : lw_okq (⟨"BellBalanceModel", "byteAt", "(II)I"⟩, 28) := ⟨⟨by decide +kernel, by decide +kernel⟩, List.mem_of_getElem? (i := 856) (by decide +kernel), List.mem_of_getElem? (i := 1019) (by decide +kernel), List.mem_of_getElem? (i := 1020) (by decide +kernel)⟩
theorem lw_p31 : lw_okq (⟨"BellBalanceModel", "figure", "(III)I"⟩, 28) := ⟨⟨by decide +kernel, by decide +kernel⟩, List.mem_of_getElem? (i := 856) (by decide +kernel), List.mem_of_getElem? (i := 1023) (by decide +kernel), List.mem_of_getElem? (i := 1024) (by decide +kernel)⟩
def lw_privs_2 : List (MethodName × Nat) := [(⟨"BellBalance$Evening", "seek", "(LBellBalance$Tower;LBellBalance$Hearing;I)V"⟩, 3), (⟨"BellBalance$Evening", "take", "(I)V"⟩, 3), (⟨"BellBalance", "ringOrder", "(LBellBalance$Row;LBellBalance$Row;)I"⟩, 15), (⟨"BellBalance$Tower", "ordersBehind", "(III)I"⟩, 5), (⟨"BellBalance$Play", "winsAgainstAll", "(II)Z"⟩, 2), (⟨"BellBalance", "refuseTold", "(II)I"⟩, 15), (⟨"BellBalance", "refuseSlips", "(IIII)I"⟩, 15), (⟨"BellBalance", "slip", "(LBellBalance$Bell;III)J"⟩, 15), (⟨"BellBalance", "keptTowers", "()I"⟩, 15), (⟨"BellBalanceModel", "found", "(I)I"⟩, 28), (⟨"BellBalanceModel", "anew", "(II)V"⟩, 28), (⟨"BellBalanceModel", "tells", "(II)I"⟩, 28), (⟨"BellBalanceModel", "faultOf", "(I)I"⟩, 28), (⟨"BellBalanceModel", "blanks", "(I)V"⟩, 28), (⟨"BellBalanceModel", "byteAt", "(II)I"⟩, 28), (⟨"BellBalanceModel", "figure", "(III)I"⟩, 28)]
theorem lw_r2 : ∀ q ∈ lw_privs_2, lw_okq q := List.forall_mem_cons.mpr ⟨lw_p16, List.forall_mem_cons.mpr ⟨lw_p17, List.forall_mem_cons.mpr ⟨lw_p18, List.forall_mem_cons.mpr ⟨lw_p19, List.forall_mem_cons.mpr ⟨lw_p20, List.forall_mem_cons.mpr ⟨lw_p21, List.forall_mem_cons.mpr ⟨lw_p22, List.forall_mem_cons.mpr ⟨lw_p23, List.forall_mem_cons.mpr ⟨lw_p24, List.forall_mem_cons.mpr ⟨lw_p25, List.forall_mem_cons.mpr ⟨lw_p26, List.forall_mem_cons.mpr ⟨lw_p27, List.forall_mem_cons.mpr ⟨lw_p28, List.forall_mem_cons.mpr ⟨lw_p29, List.forall_mem_cons.mpr ⟨lw_p30, List.forall_mem_cons.mpr ⟨lw_p31, fun _ h => absurd h List.not_mem_nil⟩⟩⟩⟩⟩⟩⟩⟩⟩⟩⟩⟩⟩⟩⟩⟩
theorem lw_p32 : lw_okq (⟨"BellBalanceModel", "takesBell", "(I)Z"⟩, 28) := ⟨⟨by decide +kernel, by decide +kernel⟩, List.mem_of_getElem? (i := 856) (by decide +kernel), List.mem_of_getElem? (i := 1027) (by decide +kernel), List.mem_of_getElem? (i := 1028) (by decide +kernel)⟩
theorem lw_p33 : lw_okq (⟨"BellBalanceModel", "copyAll", "(III)V"⟩, 28) := ⟨⟨by decide +kernel, by decide +kernel⟩, List.mem_of_getElem? (i := 856) (by decide +kernel), List.mem_of_getElem? (i := 1038) (by decide +kernel), List.mem_of_getElem? (i := 1039) (by decide +kernel)⟩
theorem lw_p34 : lw_okq (⟨"BellBalanceModel", "isBell", "(I)Z"⟩, 28) := ⟨⟨by decide +kernel, by decide +kernel⟩, List.mem_of_getElem? (i := 856) (by decide +kernel), List.mem_of_getElem? (i := 1046) (by decide +kernel), List.mem_of_getElem? (i := 1047) (by decide +kernel)⟩
theorem lw_p35 : lw_okq (⟨"BellBalanceModel", "bellTells", "(II)I"⟩, 28) := ⟨⟨by decide +kernel, by decide +kernel⟩, List.mem_of_getElem? (i := 856) (by decide +kernel), List.mem_of_getElem? (i := 1050) (by decide +kernel), List.mem_of_getElem? (i := 1051) (by decide +kernel)⟩
theorem lw_p36 : lw_okq (⟨"BellBalanceModel", "markOf", "(II)I"⟩, 28) := ⟨⟨by decide +kernel, by decide +kernel⟩, List.mem_of_getElem? (i := 856) (by decide +kernel), List.mem_of_getElem? (i := 1058) (by decide +kernel), List.mem_of_getElem? (i := 1059) (by decide +kernel)⟩
theorem lw_p37 : lw_okq (⟨"BellBalanceModel", "strikesBy", "(III)I"⟩, 28) := ⟨⟨by decide +kernel, by decide +kernel⟩, List.mem_of_getElem? (i := 856) (by decide +kernel), List.mem_of_getElem? (i := 1071) (by decide +kernel), List.mem_of_getElem? (i := 1072) (by decide +kernel)⟩
theorem lw_p38 : lw_okq (⟨"BellBalanceModel", "isOver", "(I)Z"⟩, 28) := ⟨⟨by decide +kernel, by decide +kernel⟩, List.mem_of_getElem? (i := 856) (by decide +kernel), List.mem_of_getElem? (i := 1090) (by decide +kernel), List.mem_of_getElem? (i := 1091) (by decide +kernel)⟩
theorem lw_p39 : lw_okq (⟨"BellBalanceModel", "minds", "()V"⟩, 28) := ⟨⟨by decide +kernel, by decide +kernel⟩, List.mem_of_getElem? (i := 856) (by decide +kernel), List.mem_of_getElem? (i := 1094) (by decide +kernel), List.mem_of_getElem? (i := 1095) (by decide +kernel)⟩
theorem lw_p40 : lw_okq (⟨"BellBalanceModel", "strokes", "(II)V"⟩, 28) := ⟨⟨by decide +kernel, by decide +kernel⟩, List.mem_of_getElem? (i := 856) (by decide +kernel), List.mem_of_getElem? (i := 1098) (by decide +kernel), List.mem_of_getElem? (i := 1099) (by decide +kernel)⟩
theorem lw_p41 : lw_okq (⟨"BellBalanceModel", "against", "(I)I"⟩, 28) := ⟨⟨by decide +kernel, by decide +kernel⟩, List.mem_of_getElem? (i := 856) (by decide +kernel), List.mem_of_getElem? (i := 1106) (by decide +kernel), List.mem_of_getElem? (i := 1107) (by decide +kernel)⟩
theorem lw_p42 : lw_okq (⟨"BellBalanceModel", "laysPulls", "(I)V"⟩, 28) := ⟨⟨by decide +kernel, by decide +kernel⟩, List.mem_of_getElem? (i := 856) (by decide +kernel), List.mem_of_getElem? (i := 1110) (by decide +kernel), List.mem_of_getElem? (i := 1111) (by decide +kernel)⟩
theorem lw_p43 : lw_okq (⟨"BellBalanceModel", "rings", "()V"⟩, 28) := ⟨⟨by decide +kernel, by decide +kernel⟩, List.mem_of_getElem? (i := 856) (by decide +kernel), List.mem_of_getElem? (i := 1114) (by decide +kernel), List.mem_of_getElem? (i := 1115) (by decide +kernel)⟩
theorem lw_p44 : lw_okq (⟨"BellBalanceModel", "heardSet", "()I"⟩, 28) := ⟨⟨by decide +kernel, by decide +kernel⟩, List.mem_of_getElem? (i := 856) (by decide +kernel), List.mem_of_getElem? (i := 1118) (by decide +kernel), List.mem_of_getElem? (i := 1119) (by decide +kernel)⟩
theorem lw_p45 : lw_okq (⟨"BellBalanceModel", "layStands", "(I)V"⟩, 28) := ⟨⟨by decide +kernel, by decide +kernel⟩, List.mem_of_getElem? (i := 856) (by decide +kernel), List.mem_of_getElem? (i := 1151) (by decide +kernel), List.mem_of_getElem? (i := 1152) (by decide +kernel)⟩
theorem lw_p46 : lw_okq (⟨"BellBalanceModel", "errorNow", "()I"⟩, 28) := ⟨⟨by decide +kernel, by decide +kernel⟩, List.mem_of_getElem? (i := 856) (by decide +kernel), List.mem_of_getElem? (i := 1183) (by decide +kernel), List.mem_of_getElem? (i := 1184) (by decide +kernel)⟩
theorem lw_p47 : lw_okq (⟨"BellBalanceModel", "gap", "(I)I"⟩, 28) := ⟨⟨by decide +kernel, by decide +kernel⟩, List.mem_of_getElem? (i := 856) (by decide +kernel), List.mem_of_getElem? (i := 1187) (by decide +kernel), List.mem_of_getElem? (i := 1188) (by decide +kernel)⟩
def lw_privs_3 : List (MethodName × Nat) := [(⟨"BellBalanceModel", "takesBell", "(I)Z"⟩, 28), (⟨"BellBalanceModel", "copyAll", "(III)V"⟩, 28), (⟨"BellBalanceModel", "isBell", "(I)Z"⟩, 28), (⟨"BellBalanceModel", "bellTells", "(II)I"⟩, 28), (⟨"BellBalanceModel", "markOf", "(II)I"⟩, 28), (⟨"BellBalanceModel", "strikesBy", "(III)I"⟩, 28), (⟨"BellBalanceModel", "isOver", "(I)Z"⟩, 28), (⟨"BellBalanceModel", "minds", "()V"⟩, 28), (⟨"BellBalanceModel", "strokes", "(II)V"⟩, 28), (⟨"BellBalanceModel", "against", "(I)I"⟩, 28), (⟨"BellBalanceModel", "laysPulls", "(I)V"⟩, 28), (⟨"BellBalanceModel", "rings", "()V"⟩, 28), (⟨"BellBalanceModel", "heardSet", "()I"⟩, 28), (⟨"BellBalanceModel", "layStands", "(I)V"⟩, 28), (⟨"BellBalanceModel", "errorNow", "()I"⟩, 28), (⟨"BellBalanceModel", "gap", "(I)I"⟩, 28)]
theorem lw_r3 : ∀ q ∈ lw_privs_3, lw_okq q := List.forall_mem_cons.mpr ⟨lw_p32, List.forall_mem_cons.mpr ⟨lw_p33, List.forall_mem_cons.mpr ⟨lw_p34, List.forall_mem_cons.mpr ⟨lw_p35, List.forall_mem_cons.mpr ⟨lw_p36, List.forall_mem_cons.mpr ⟨lw_p37, List.forall_mem_cons.mpr ⟨lw_p38, List.forall_mem_cons.mpr ⟨lw_p39, List.forall_mem_cons.mpr ⟨lw_p40, List.forall_mem_cons.mpr ⟨lw_p41, List.forall_mem_cons.mpr ⟨lw_p42, List.forall_mem_cons.mpr ⟨lw_p43, List.forall_mem_cons.mpr ⟨lw_p44, List.forall_mem_cons.mpr ⟨lw_p45, List.forall_mem_cons.mpr ⟨lw_p46, List.forall_mem_cons.mpr ⟨lw_p47, fun _ h => absurd h List.not_mem_nil⟩⟩⟩⟩⟩⟩⟩⟩⟩⟩⟩⟩⟩⟩⟩⟩
theorem lw_p48 : lw_okq (⟨"BellBalanceModel", "begins", "()V"⟩, 28) := ⟨⟨by decide +kernel, by decide +kernel⟩, List.mem_of_getElem? (i := 856) (by decide +kernel), List.mem_of_getElem? (i := 1199) (by decide +kernel), List.mem_of_getElem? (i := 1200) (by decide +kernel)⟩
theorem lw_p49 : lw_okq (⟨"BellBalanceModel", "isAll", "()Z"⟩, 28) := ⟨⟨by decide +kernel, by decide +kernel⟩, List.mem_of_getElem? (i := 856) (by decide +kernel), List.mem_of_getElem? (i := 1203) (by decide +kernel), List.mem_of_getElem? (i := 1204) (by decide +kernel)⟩
theorem lw_p50 : lw_okq (⟨"BellBalanceModel", "sounds", "()I"⟩, 28) := ⟨⟨by decide +kernel, by decide +kernel⟩, List.mem_of_getElem? (i := 856) (by decide +kernel), List.mem_of_getElem? (i := 1207) (by decide +kernel), List.mem_of_getElem? (i := 1208) (by decide +kernel)⟩
theorem lw_p51 : lw_okq (⟨"BellBalanceModel", "keepsBest", "()V"⟩, 28) := ⟨⟨by decide +kernel, by decide +kernel⟩, List.mem_of_getElem? (i := 856) (by decide +kernel), List.mem_of_getElem? (i := 1211) (by decide +kernel), List.mem_of_getElem? (i := 1212) (by decide +kernel)⟩
theorem lw_p52 : lw_okq (⟨"BellBalanceModel", "isNext", "()Z"⟩, 28) := ⟨⟨by decide +kernel, by decide +kernel⟩, List.mem_of_getElem? (i := 856) (by decide +kernel), List.mem_of_getElem? (i := 1215) (by decide +kernel), List.mem_of_getElem? (i := 1216) (by decide +kernel)⟩
theorem lw_p53 : lw_okq (⟨"BellBalanceModel", "tellsBest", "(I)V"⟩, 28) := ⟨⟨by decide +kernel, by decide +kernel⟩, List.mem_of_getElem? (i := 856) (by decide +kernel), List.mem_of_getElem? (i := 1219) (by decide +kernel), List.mem_of_getElem? (i := 1220) (by decide +kernel)⟩
theorem lw_p54 : lw_okq (⟨"BellBalanceModel", "layGame", "(II)V"⟩, 28) := ⟨⟨by decide +kernel, by decide +kernel⟩, List.mem_of_getElem? (i := 856) (by decide +kernel), List.mem_of_getElem? (i := 1242) (by decide +kernel), List.mem_of_getElem? (i := 1243) (by decide +kernel)⟩
theorem lw_p55 : lw_okq (⟨"BellBalanceModel", "againstPairs", "(II)I"⟩, 28) := ⟨⟨by decide +kernel, by decide +kernel⟩, List.mem_of_getElem? (i := 856) (by decide +kernel), List.mem_of_getElem? (i := 1254) (by decide +kernel), List.mem_of_getElem? (i := 1255) (by decide +kernel)⟩
theorem lw_p56 : lw_okq (⟨"BellBalanceModel", "isSo", "(IIIII)Z"⟩, 28) := ⟨⟨by decide +kernel, by decide +kernel⟩, List.mem_of_getElem? (i := 856) (by decide +kernel), List.mem_of_getElem? (i := 1258) (by decide +kernel), List.mem_of_getElem? (i := 1259) (by decide +kernel)⟩
theorem lw_p57 : lw_okq (⟨"BellBalanceModel", "againstSlips", "(IIII)I"⟩, 28) := ⟨⟨by decide +kernel, by decide +kernel⟩, List.mem_of_getElem? (i := 856) (by decide +kernel), List.mem_of_getElem? (i := 1278) (by decide +kernel), List.mem_of_getElem? (i := 1279) (by decide +kernel)⟩
theorem lw_p58 : lw_okq (⟨"BellBalanceModel", "laySlips", "(IIII)J"⟩, 28) := ⟨⟨by decide +kernel, by decide +kernel⟩, List.mem_of_getElem? (i := 856) (by decide +kernel), List.mem_of_getElem? (i := 1283) (by decide +kernel), List.mem_of_getElem? (i := 1284) (by decide +kernel)⟩
theorem lw_p59 : lw_okq (⟨"BellBalanceModel", "chance", "(JJ)I"⟩, 28) := ⟨⟨by decide +kernel, by decide +kernel⟩, List.mem_of_getElem? (i := 856) (by decide +kernel), List.mem_of_getElem? (i := 1287) (by decide +kernel), List.mem_of_getElem? (i := 1288) (by decide +kernel)⟩
theorem lw_p60 : lw_okq (⟨"BellBalanceModel", "standing", "()I"⟩, 28) := ⟨⟨by decide +kernel, by decide +kernel⟩, List.mem_of_getElem? (i := 856) (by decide +kernel), List.mem_of_getElem? (i := 1320) (by decide +kernel), List.mem_of_getElem? (i := 1321) (by decide +kernel)⟩
theorem lw_p61 : lw_okq (⟨"BellBalanceModel", "heavies", "()I"⟩, 28) := ⟨⟨by decide +kernel, by decide +kernel⟩, List.mem_of_getElem? (i := 856) (by decide +kernel), List.mem_of_getElem? (i := 1324) (by decide +kernel), List.mem_of_getElem? (i := 1325) (by decide +kernel)⟩
theorem lw_p62 : lw_okq (⟨"BellBalanceModel", "mix", "(J)V"⟩, 28) := ⟨⟨by decide +kernel, by decide +kernel⟩, List.mem_of_getElem? (i := 856) (by decide +kernel), List.mem_of_getElem? (i := 1345) (by decide +kernel), List.mem_of_getElem? (i := 1346) (by decide +kernel)⟩
def lw_privs_4 : List (MethodName × Nat) := [(⟨"BellBalanceModel", "begins", "()V"⟩, 28), (⟨"BellBalanceModel", "isAll", "()Z"⟩, 28), (⟨"BellBalanceModel", "sounds", "()I"⟩, 28), (⟨"BellBalanceModel", "keepsBest", "()V"⟩, 28), (⟨"BellBalanceModel", "isNext", "()Z"⟩, 28), (⟨"BellBalanceModel", "tellsBest", "(I)V"⟩, 28), (⟨"BellBalanceModel", "layGame", "(II)V"⟩, 28), (⟨"BellBalanceModel", "againstPairs", "(II)I"⟩, 28), (⟨"BellBalanceModel", "isSo", "(IIIII)Z"⟩, 28), (⟨"BellBalanceModel", "againstSlips", "(IIII)I"⟩, 28), (⟨"BellBalanceModel", "laySlips", "(IIII)J"⟩, 28), (⟨"BellBalanceModel", "chance", "(JJ)I"⟩, 28), (⟨"BellBalanceModel", "standing", "()I"⟩, 28), (⟨"BellBalanceModel", "heavies", "()I"⟩, 28), (⟨"BellBalanceModel", "mix", "(J)V"⟩, 28)]
theorem lw_r4 : ∀ q ∈ lw_privs_4, lw_okq q := List.forall_mem_cons.mpr ⟨lw_p48, List.forall_mem_cons.mpr ⟨lw_p49, List.forall_mem_cons.mpr ⟨lw_p50, List.forall_mem_cons.mpr ⟨lw_p51, List.forall_mem_cons.mpr ⟨lw_p52, List.forall_mem_cons.mpr ⟨lw_p53, List.forall_mem_cons.mpr ⟨lw_p54, List.forall_mem_cons.mpr ⟨lw_p55, List.forall_mem_cons.mpr ⟨lw_p56, List.forall_mem_cons.mpr ⟨lw_p57, List.forall_mem_cons.mpr ⟨lw_p58, List.forall_mem_cons.mpr ⟨lw_p59, List.forall_mem_cons.mpr ⟨lw_p60, List.forall_mem_cons.mpr ⟨lw_p61, List.forall_mem_cons.mpr ⟨lw_p62, fun _ h => absurd h List.not_mem_nil⟩⟩⟩⟩⟩⟩⟩⟩⟩⟩⟩⟩⟩⟩⟩
def lw_privs : List (MethodName × Nat) := lw_privs_1 ++ (lw_privs_2 ++ (lw_privs_3 ++ (lw_privs_4)))
def lw_tbl : List Cond := k2_sels lw_privs ++ tables_1
theorem lw_privs_ok : ∀ q ∈ lw_privs, lw_okq q := by
  show ∀ q ∈ lw_privs_1 ++ (lw_privs_2 ++ (lw_privs_3 ++ (lw_privs_4))), lw_okq q
  exact List.forall_mem_append.mpr ⟨lw_r1, List.forall_mem_append.mpr ⟨lw_r2, List.forall_mem_append.mpr ⟨lw_r3, lw_r4⟩⟩⟩
end
section
def RX0 : String := "BellBalance$Bell"
def TX0 : u_T := fun k => match k with
  | 0 => ("BellBalance$Bell", "kind", "I", false)
  | 1 => ("BellBalance$Bell", "weight", "I", false)
  | 2 => ("BellBalance$Bell", "start", "I", false)
  | 3 => ("BellBalance$Bell", "height", "I", false)
  | 4 => ("BellBalance$Bell", "strokes", "I", false)
  | _ => ("BellBalance$Bell", "over", "Z", false)
def tyX0 : Nat → FieldType := fun k => match k with
  | 0 => .int
  | 1 => .int
  | 2 => .int
  | 3 => .int
  | 4 => .int
  | _ => .boolean
theorem nmX0 : ∀ a, a < 6 → ∀ b, b < 6 → a ≠ b → (TX0 a).2.1 ≠ (TX0 b).2.1 := by decide +kernel
theorem tyX0_ok : ∀ k, k < 6 → parseFieldDescriptor (TX0 k).2.2.1 = some (tyX0 k) := by decide +kernel
abbrev cX0_init : ByteArray := prog_2_method_1_code
def yX0_init : MethodName := ⟨RX0, "<init>", "()V"⟩
abbrev cX0_begin : ByteArray := prog_2_method_2_code
def yX0_begin : MethodName := ⟨RX0, "begin", "(III)V"⟩
abbrev cX0_become : ByteArray := prog_2_method_3_code
def yX0_become : MethodName := ⟨RX0, "become", "(LBellBalance$Bell;)V"⟩
abbrev cX0_rewind : ByteArray := prog_2_method_4_code
def yX0_rewind : MethodName := ⟨RX0, "rewind", "()V"⟩
abbrev cX0_swing : ByteArray := prog_2_method_5_code
def yX0_swing : MethodName := ⟨RX0, "swing", "(I)V"⟩
abbrev cX0_renewStay : ByteArray := prog_2_method_6_code
def yX0_renewStay : MethodName := ⟨RX0, "renewStay", "()V"⟩
abbrev cX0_tell : ByteArray := prog_2_method_7_code
def yX0_tell : MethodName := ⟨RX0, "tell", "(I)I"⟩
def RX1 : String := "BellBalance$Evening"
def TX1 : u_T := fun k => match k with
  | 0 => ("BellBalance$Evening", "trial", "[I", true)
  | 1 => ("BellBalance$Evening", "best", "[I", true)
  | _ => ("BellBalance$Evening", "least", "I", false)
def tyX1 : Nat → FieldType := fun k => match k with
  | 0 => .array .int
  | 1 => .array .int
  | _ => .int
theorem nmX1 : ∀ a, a < 3 → ∀ b, b < 3 → a ≠ b → (TX1 a).2.1 ≠ (TX1 b).2.1 := by decide +kernel
theorem tyX1_ok : ∀ k, k < 3 → parseFieldDescriptor (TX1 k).2.2.1 = some (tyX1 k) := by decide +kernel
abbrev cX1_init : ByteArray := prog_3_method_1_code
def yX1_init : MethodName := ⟨RX1, "<init>", "()V"⟩
abbrev cX1_begin : ByteArray := prog_3_method_2_code
def yX1_begin : MethodName := ⟨RX1, "begin", "()V"⟩
abbrev cX1_setBest : ByteArray := prog_3_method_3_code
def yX1_setBest : MethodName := ⟨RX1, "setBest", "(II)V"⟩
abbrev cX1_layBest : ByteArray := prog_3_method_4_code
def yX1_layBest : MethodName := ⟨RX1, "layBest", "(ILBellBalance$Row;)V"⟩
abbrev cX1_seek : ByteArray := prog_3_method_5_code
def yX1_seek : MethodName := ⟨RX1, "seek", "(LBellBalance$Tower;LBellBalance$Hearing;I)V"⟩
abbrev cX1_take : ByteArray := prog_3_method_6_code
def yX1_take : MethodName := ⟨RX1, "take", "(I)V"⟩
def RX2 : String := "BellBalance$Flow"
def TX2 : u_T := fun k => match k with
  | 0 => ("BellBalance$Flow", "here", "[J", true)
  | _ => ("BellBalance$Flow", "there", "[J", true)
def tyX2 : Nat → FieldType := fun k => match k with
  | 0 => .array .long
  | _ => .array .long
theorem nmX2 : ∀ a, a < 2 → ∀ b, b < 2 → a ≠ b → (TX2 a).2.1 ≠ (TX2 b).2.1 := by decide +kernel
theorem tyX2_ok : ∀ k, k < 2 → parseFieldDescriptor (TX2 k).2.2.1 = some (tyX2 k) := by decide +kernel
abbrev cX2_init : ByteArray := prog_4_method_1_code
def yX2_init : MethodName := ⟨RX2, "<init>", "()V"⟩
abbrev cX2_begin : ByteArray := prog_4_method_2_code
def yX2_begin : MethodName := ⟨RX2, "begin", "(I)V"⟩
abbrev cX2_spread : ByteArray := prog_4_method_3_code
def yX2_spread : MethodName := ⟨RX2, "spread", "(IIJ)V"⟩
abbrev cX2_turn : ByteArray := prog_4_method_4_code
def yX2_turn : MethodName := ⟨RX2, "turn", "()V"⟩
def RX3 : String := "BellBalance$Hearing"
def TX3 : u_T := fun k => match k with
  | 0 => ("BellBalance$Hearing", "who", "[I", true)
  | 1 => ("BellBalance$Hearing", "when", "[I", true)
  | _ => ("BellBalance$Hearing", "size", "I", false)
def tyX3 : Nat → FieldType := fun k => match k with
  | 0 => .array .int
  | 1 => .array .int
  | _ => .int
theorem nmX3 : ∀ a, a < 3 → ∀ b, b < 3 → a ≠ b → (TX3 a).2.1 ≠ (TX3 b).2.1 := by decide +kernel
theorem tyX3_ok : ∀ k, k < 3 → parseFieldDescriptor (TX3 k).2.2.1 = some (tyX3 k) := by decide +kernel
abbrev cX3_init : ByteArray := prog_5_method_1_code
def yX3_init : MethodName := ⟨RX3, "<init>", "()V"⟩
abbrev cX3_clear : ByteArray := prog_5_method_2_code
def yX3_clear : MethodName := ⟨RX3, "clear", "()V"⟩
abbrev cX3_enter : ByteArray := prog_5_method_3_code
def yX3_enter : MethodName := ⟨RX3, "enter", "(II)V"⟩
abbrev cX3_isBehind : ByteArray := prog_5_method_4_code
def yX3_isBehind : MethodName := ⟨RX3, "isBehind", "(III)Z"⟩
abbrev cX3_leave : ByteArray := prog_5_method_5_code
def yX3_leave : MethodName := ⟨RX3, "leave", "(I)V"⟩
abbrev cX3_bits : ByteArray := prog_5_method_6_code
def yX3_bits : MethodName := ⟨RX3, "bits", "()I"⟩
abbrev cX3_unevenness : ByteArray := prog_5_method_7_code
def yX3_unevenness : MethodName := ⟨RX3, "unevenness", "()I"⟩
def RX4 : String := "BellBalance$Paths"
def TX4 : u_T := fun k => match k with
  | 0 => ("BellBalance$Paths", "strokes", "[I", true)
  | _ => ("BellBalance$Paths", "sums", "[I", true)
def tyX4 : Nat → FieldType := fun k => match k with
  | 0 => .array .int
  | _ => .array .int
theorem nmX4 : ∀ a, a < 2 → ∀ b, b < 2 → a ≠ b → (TX4 a).2.1 ≠ (TX4 b).2.1 := by decide +kernel
theorem tyX4_ok : ∀ k, k < 2 → parseFieldDescriptor (TX4 k).2.2.1 = some (tyX4 k) := by decide +kernel
abbrev cX4_init : ByteArray := prog_6_method_1_code
def yX4_init : MethodName := ⟨RX4, "<init>", "()V"⟩
abbrev cX4_measure : ByteArray := prog_6_method_2_code
def yX4_measure : MethodName := ⟨RX4, "measure", "(II)V"⟩
abbrev cX4_strokesFrom : ByteArray := prog_6_method_3_code
def yX4_strokesFrom : MethodName := ⟨RX4, "strokesFrom", "(I)I"⟩
abbrev cX4_pullToward : ByteArray := prog_6_method_4_code
def yX4_pullToward : MethodName := ⟨RX4, "pullToward", "(III)I"⟩
abbrev cX4_layFewest : ByteArray := prog_6_method_5_code
def yX4_layFewest : MethodName := ⟨RX4, "layFewest", "(LBellBalance$Bell;ILBellBalance$Row;)V"⟩
abbrev cX4_weigh : ByteArray := prog_6_method_6_code
def yX4_weigh : MethodName := ⟨RX4, "weigh", "(III)V"⟩
abbrev cX4_armsFrom : ByteArray := prog_6_method_7_code
def yX4_armsFrom : MethodName := ⟨RX4, "armsFrom", "(II)I"⟩
abbrev cX4_sumBy : ByteArray := prog_6_method_8_code
def yX4_sumBy : MethodName := ⟨RX4, "sumBy", "(IIII)I"⟩
abbrev cX4_lightestPull : ByteArray := prog_6_method_9_code
def yX4_lightestPull : MethodName := ⟨RX4, "lightestPull", "(III)I"⟩
abbrev cX4_layLightest : ByteArray := prog_6_method_10_code
def yX4_layLightest : MethodName := ⟨RX4, "layLightest", "(LBellBalance$Bell;ILBellBalance$Row;)V"⟩
def RX5 : String := "BellBalance$Play"
def TX5 : u_T := fun k => match k with
  | 0 => ("BellBalance$Play", "wins", "[Z", true)
  | _ => ("BellBalance$Play", "winsBehind", "[Z", true)
def tyX5 : Nat → FieldType := fun k => match k with
  | 0 => .array .boolean
  | _ => .array .boolean
theorem nmX5 : ∀ a, a < 2 → ∀ b, b < 2 → a ≠ b → (TX5 a).2.1 ≠ (TX5 b).2.1 := by decide +kernel
theorem tyX5_ok : ∀ k, k < 2 → parseFieldDescriptor (TX5 k).2.2.1 = some (tyX5 k) := by decide +kernel
abbrev cX5_init : ByteArray := prog_7_method_1_code
def yX5_init : MethodName := ⟨RX5, "<init>", "()V"⟩
abbrev cX5_reckon : ByteArray := prog_7_method_2_code
def yX5_reckon : MethodName := ⟨RX5, "reckon", "(II)V"⟩
abbrev cX5_winsAgainstAll : ByteArray := prog_7_method_3_code
def yX5_winsAgainstAll : MethodName := ⟨RX5, "winsAgainstAll", "(II)Z"⟩
abbrev cX5_winningPull : ByteArray := prog_7_method_4_code
def yX5_winningPull : MethodName := ⟨RX5, "winningPull", "(II)I"⟩
def RX6 : String := "BellBalance$Row"
def TX6 : u_T := fun k => match k with
  | 0 => ("BellBalance$Row", "cells", "[I", true)
  | 1 => ("BellBalance$Row", "there", "Z", false)
  | _ => ("BellBalance$Row", "size", "I", false)
def tyX6 : Nat → FieldType := fun k => match k with
  | 0 => .array .int
  | 1 => .boolean
  | _ => .int
theorem nmX6 : ∀ a, a < 3 → ∀ b, b < 3 → a ≠ b → (TX6 a).2.1 ≠ (TX6 b).2.1 := by decide +kernel
theorem tyX6_ok : ∀ k, k < 3 → parseFieldDescriptor (TX6 k).2.2.1 = some (tyX6 k) := by decide +kernel
abbrev cX6_init : ByteArray := prog_8_method_1_code
def yX6_init : MethodName := ⟨RX6, "<init>", "(I)V"⟩
abbrev cX6_begin : ByteArray := prog_8_method_2_code
def yX6_begin : MethodName := ⟨RX6, "begin", "(II)V"⟩
abbrev cX6_has : ByteArray := prog_8_method_3_code
def yX6_has : MethodName := ⟨RX6, "has", "(I)Z"⟩
abbrev cX6_spans : ByteArray := prog_8_method_4_code
def yX6_spans : MethodName := ⟨RX6, "spans", "(II)Z"⟩
abbrev cX6_hasPulls : ByteArray := prog_8_method_5_code
def yX6_hasPulls : MethodName := ⟨RX6, "hasPulls", "(I)Z"⟩
abbrev cX6_set : ByteArray := prog_8_method_6_code
def yX6_set : MethodName := ⟨RX6, "set", "(II)V"⟩
abbrev cX6_sign : ByteArray := prog_8_method_7_code
def yX6_sign : MethodName := ⟨RX6, "sign", "(I)I"⟩
abbrev cX6_figure : ByteArray := prog_8_method_8_code
def yX6_figure : MethodName := ⟨RX6, "figure", "(I)I"⟩
abbrev cX6_isFigure : ByteArray := prog_8_method_9_code
def yX6_isFigure : MethodName := ⟨RX6, "isFigure", "(III)Z"⟩
abbrev cX6_pastBlanks : ByteArray := prog_8_method_10_code
def yX6_pastBlanks : MethodName := ⟨RX6, "pastBlanks", "(I)I"⟩
abbrev cX6_digestOn : ByteArray := prog_8_method_11_code
def yX6_digestOn : MethodName := ⟨RX6, "digestOn", "(J)J"⟩
def RX7 : String := "BellBalance$Tower"
def TX7 : u_T := fun k => match k with
  | 0 => ("BellBalance$Tower", "bells", "[LBellBalance$Bell;", true)
  | 1 => ("BellBalance$Tower", "deeds", "[I", true)
  | 2 => ("BellBalance$Tower", "size", "I", false)
  | 3 => ("BellBalance$Tower", "dampness", "I", false)
  | _ => ("BellBalance$Tower", "deedCount", "I", false)
def tyX7 : Nat → FieldType := fun k => match k with
  | 0 => .array (.object "BellBalance$Bell")
  | 1 => .array .int
  | 2 => .int
  | 3 => .int
  | _ => .int
theorem nmX7 : ∀ a, a < 5 → ∀ b, b < 5 → a ≠ b → (TX7 a).2.1 ≠ (TX7 b).2.1 := by decide +kernel
theorem tyX7_ok : ∀ k, k < 5 → parseFieldDescriptor (TX7 k).2.2.1 = some (tyX7 k) := by decide +kernel
abbrev cX7_init : ByteArray := prog_9_method_1_code
def yX7_init : MethodName := ⟨RX7, "<init>", "()V"⟩
abbrev cX7_strokeDeed : ByteArray := prog_9_method_2_code
def yX7_strokeDeed : MethodName := ⟨RX7, "strokeDeed", "(II)I"⟩
abbrev cX7_mendDeed : ByteArray := prog_9_method_3_code
def yX7_mendDeed : MethodName := ⟨RX7, "mendDeed", "(I)I"⟩
abbrev cX7_roundDeed : ByteArray := prog_9_method_4_code
def yX7_roundDeed : MethodName := ⟨RX7, "roundDeed", "(LBellBalance$Row;)I"⟩
abbrev cX7_has : ByteArray := prog_9_method_5_code
def yX7_has : MethodName := ⟨RX7, "has", "(I)Z"⟩
abbrev cX7_roomLeft : ByteArray := prog_9_method_6_code
def yX7_roomLeft : MethodName := ⟨RX7, "roomLeft", "()I"⟩
abbrev cX7_clear : ByteArray := prog_9_method_7_code
def yX7_clear : MethodName := ⟨RX7, "clear", "()V"⟩
abbrev cX7_addBell : ByteArray := prog_9_method_8_code
def yX7_addBell : MethodName := ⟨RX7, "addBell", "(III)V"⟩
abbrev cX7_become : ByteArray := prog_9_method_9_code
def yX7_become : MethodName := ⟨RX7, "become", "(LBellBalance$Tower;)V"⟩
abbrev cX7_act : ByteArray := prog_9_method_10_code
def yX7_act : MethodName := ⟨RX7, "act", "(I)V"⟩
abbrev cX7_rewindTo : ByteArray := prog_9_method_11_code
def yX7_rewindTo : MethodName := ⟨RX7, "rewindTo", "(I)V"⟩
abbrev cX7_perform : ByteArray := prog_9_method_12_code
def yX7_perform : MethodName := ⟨RX7, "perform", "(I)V"⟩
abbrev cX7_tenthsBy : ByteArray := prog_9_method_13_code
def yX7_tenthsBy : MethodName := ⟨RX7, "tenthsBy", "(II)I"⟩
abbrev cX7_ringing : ByteArray := prog_9_method_14_code
def yX7_ringing : MethodName := ⟨RX7, "ringing", "()I"⟩
abbrev cX7_overBits : ByteArray := prog_9_method_15_code
def yX7_overBits : MethodName := ⟨RX7, "overBits", "()I"⟩
abbrev cX7_standing : ByteArray := prog_9_method_16_code
def yX7_standing : MethodName := ⟨RX7, "standing", "()I"⟩
abbrev cX7_heavyOnes : ByteArray := prog_9_method_17_code
def yX7_heavyOnes : MethodName := ⟨RX7, "heavyOnes", "()I"⟩
abbrev cX7_isOrder : ByteArray := prog_9_method_18_code
def yX7_isOrder : MethodName := ⟨RX7, "isOrder", "(LBellBalance$Row;)Z"⟩
abbrev cX7_rankBy : ByteArray := prog_9_method_19_code
def yX7_rankBy : MethodName := ⟨RX7, "rankBy", "(II)I"⟩
abbrev cX7_soonestPull : ByteArray := prog_9_method_20_code
def yX7_soonestPull : MethodName := ⟨RX7, "soonestPull", "(II)I"⟩
abbrev cX7_ordersBehind : ByteArray := prog_9_method_21_code
def yX7_ordersBehind : MethodName := ⟨RX7, "ordersBehind", "(III)I"⟩
def RX8 : String := "BellBalance"
def TX8 : u_T := fun k => match k with
  | 0 => ("BellBalance", "rows", "[LBellBalance$Row;", true)
  | 1 => ("BellBalance", "texts", "[LBellBalance$Row;", true)
  | 2 => ("BellBalance", "kept", "[LBellBalance$Tower;", true)
  | 3 => ("BellBalance", "now", "LBellBalance$Tower;", true)
  | 4 => ("BellBalance", "draft", "LBellBalance$Tower;", true)
  | 5 => ("BellBalance", "hearing", "LBellBalance$Hearing;", true)
  | 6 => ("BellBalance", "evening", "LBellBalance$Evening;", true)
  | 7 => ("BellBalance", "paths", "LBellBalance$Paths;", true)
  | 8 => ("BellBalance", "flow", "LBellBalance$Flow;", true)
  | 9 => ("BellBalance", "play", "LBellBalance$Play;", true)
  | 10 => ("BellBalance", "found", "[I", true)
  | 11 => ("BellBalance", "latestFound", "I", false)
  | 12 => ("BellBalance", "told", "I", false)
  | 13 => ("BellBalance", "toldUpper", "J", false)
  | _ => ("BellBalance", "toldLower", "J", false)
def tyX8 : Nat → FieldType := fun k => match k with
  | 0 => .array (.object "BellBalance$Row")
  | 1 => .array (.object "BellBalance$Row")
  | 2 => .array (.object "BellBalance$Tower")
  | 3 => .object "BellBalance$Tower"
  | 4 => .object "BellBalance$Tower"
  | 5 => .object "BellBalance$Hearing"
  | 6 => .object "BellBalance$Evening"
  | 7 => .object "BellBalance$Paths"
  | 8 => .object "BellBalance$Flow"
  | 9 => .object "BellBalance$Play"
  | 10 => .array .int
  | 11 => .int
  | 12 => .int
  | 13 => .long
  | _ => .long
theorem nmX8 : ∀ a, a < 15 → ∀ b, b < 15 → a ≠ b → (TX8 a).2.1 ≠ (TX8 b).2.1 := by decide +kernel
theorem tyX8_ok : ∀ k, k < 15 → parseFieldDescriptor (TX8 k).2.2.1 = some (tyX8 k) := by decide +kernel
abbrev cX8_init : ByteArray := prog_1_method_1_code
def yX8_init : MethodName := ⟨RX8, "<init>", "()V"⟩
abbrev cX8_row : ByteArray := prog_1_method_2_code
def yX8_row : MethodName := ⟨RX8, "row", "(II)I"⟩
abbrev cX8_lay : ByteArray := prog_1_method_3_code
def yX8_lay : MethodName := ⟨RX8, "lay", "(III)I"⟩
abbrev cX8_at : ByteArray := prog_1_method_4_code
def yX8_at : MethodName := ⟨RX8, "at", "(II)I"⟩
abbrev cX8_tear : ByteArray := prog_1_method_5_code
def yX8_tear : MethodName := ⟨RX8, "tear", "(I)I"⟩
abbrev cX8_copy : ByteArray := prog_1_method_6_code
def yX8_copy : MethodName := ⟨RX8, "copy", "(IIIII)I"⟩
abbrev cX8_mean : ByteArray := prog_1_method_7_code
def yX8_mean : MethodName := ⟨RX8, "mean", "(I)I"⟩
abbrev cX8_text : ByteArray := prog_1_method_8_code
def yX8_text : MethodName := ⟨RX8, "text", "(II)I"⟩
abbrev cX8_put : ByteArray := prog_1_method_9_code
def yX8_put : MethodName := ⟨RX8, "put", "(III)I"⟩
abbrev cX8_fault : ByteArray := prog_1_method_10_code
def yX8_fault : MethodName := ⟨RX8, "fault", "(I)I"⟩
abbrev cX8_tower : ByteArray := prog_1_method_11_code
def yX8_tower : MethodName := ⟨RX8, "tower", "(I)I"⟩
abbrev cX8_bell : ByteArray := prog_1_method_12_code
def yX8_bell : MethodName := ⟨RX8, "bell", "(II)I"⟩
abbrev cX8_mark : ByteArray := prog_1_method_13_code
def yX8_mark : MethodName := ⟨RX8, "mark", "(II)I"⟩
abbrev cX8_damp : ByteArray := prog_1_method_14_code
def yX8_damp : MethodName := ⟨RX8, "damp", "(I)I"⟩
abbrev cX8_stroke : ByteArray := prog_1_method_15_code
def yX8_stroke : MethodName := ⟨RX8, "stroke", "(II)I"⟩
abbrev cX8_round : ByteArray := prog_1_method_16_code
def yX8_round : MethodName := ⟨RX8, "round", "(I)I"⟩
abbrev cX8_mend : ByteArray := prog_1_method_17_code
def yX8_mend : MethodName := ⟨RX8, "mend", "(I)I"⟩
abbrev cX8_undo : ByteArray := prog_1_method_18_code
def yX8_undo : MethodName := ⟨RX8, "undo", "(I)I"⟩
abbrev cX8_keep : ByteArray := prog_1_method_19_code
def yX8_keep : MethodName := ⟨RX8, "keep", "(I)I"⟩
abbrev cX8_on : ByteArray := prog_1_method_20_code
def yX8_on : MethodName := ⟨RX8, "on", "(I)I"⟩
abbrev cX8_strikes : ByteArray := prog_1_method_21_code
def yX8_strikes : MethodName := ⟨RX8, "strikes", "(II)I"⟩
abbrev cX8_stands : ByteArray := prog_1_method_22_code
def yX8_stands : MethodName := ⟨RX8, "stands", "(I)I"⟩
abbrev cX8_raise : ByteArray := prog_1_method_23_code
def yX8_raise : MethodName := ⟨RX8, "raise", "(II)I"⟩
abbrev cX8_ways : ByteArray := prog_1_method_24_code
def yX8_ways : MethodName := ⟨RX8, "ways", "(II)I"⟩
abbrev cX8_arms : ByteArray := prog_1_method_25_code
def yX8_arms : MethodName := ⟨RX8, "arms", "(IIII)I"⟩
abbrev cX8_hold : ByteArray := prog_1_method_26_code
def yX8_hold : MethodName := ⟨RX8, "hold", "(II)I"⟩
abbrev cX8_drops : ByteArray := prog_1_method_27_code
def yX8_drops : MethodName := ⟨RX8, "drops", "(I)I"⟩
abbrev cX8_back : ByteArray := prog_1_method_28_code
def yX8_back : MethodName := ⟨RX8, "back", "(I)I"⟩
abbrev cX8_error : ByteArray := prog_1_method_29_code
def yX8_error : MethodName := ⟨RX8, "error", "(I)I"⟩
abbrev cX8_heard : ByteArray := prog_1_method_30_code
def yX8_heard : MethodName := ⟨RX8, "heard", "(II)I"⟩
abbrev cX8_even : ByteArray := prog_1_method_31_code
def yX8_even : MethodName := ⟨RX8, "even", "(I)I"⟩
abbrev cX8_change : ByteArray := prog_1_method_32_code
def yX8_change : MethodName := ⟨RX8, "change", "(II)I"⟩
abbrev cX8_orders : ByteArray := prog_1_method_33_code
def yX8_orders : MethodName := ⟨RX8, "orders", "()I"⟩
abbrev cX8_late : ByteArray := prog_1_method_34_code
def yX8_late : MethodName := ⟨RX8, "late", "(I)I"⟩
abbrev cX8_game : ByteArray := prog_1_method_35_code
def yX8_game : MethodName := ⟨RX8, "game", "(II)I"⟩
abbrev cX8_first : ByteArray := prog_1_method_36_code
def yX8_first : MethodName := ⟨RX8, "first", "(II)I"⟩
abbrev cX8_kinds : ByteArray := prog_1_method_37_code
def yX8_kinds : MethodName := ⟨RX8, "kinds", "(II)I"⟩
abbrev cX8_damps : ByteArray := prog_1_method_38_code
def yX8_damps : MethodName := ⟨RX8, "damps", "(II)I"⟩
abbrev cX8_heights : ByteArray := prog_1_method_39_code
def yX8_heights : MethodName := ⟨RX8, "heights", "(II)I"⟩
abbrev cX8_broke : ByteArray := prog_1_method_40_code
def yX8_broke : MethodName := ⟨RX8, "broke", "(II)I"⟩
abbrev cX8_odds : ByteArray := prog_1_method_41_code
def yX8_odds : MethodName := ⟨RX8, "odds", "(IIII)I"⟩
abbrev cX8_mid : ByteArray := prog_1_method_42_code
def yX8_mid : MethodName := ⟨RX8, "mid", "(IIII)I"⟩
abbrev cX8_lots : ByteArray := prog_1_method_43_code
def yX8_lots : MethodName := ⟨RX8, "lots", "(II)I"⟩
abbrev cX8_asked : ByteArray := prog_1_method_44_code
def yX8_asked : MethodName := ⟨RX8, "asked", "()I"⟩
abbrev cX8_upper : ByteArray := prog_1_method_45_code
def yX8_upper : MethodName := ⟨RX8, "upper", "()J"⟩
abbrev cX8_lower : ByteArray := prog_1_method_46_code
def yX8_lower : MethodName := ⟨RX8, "lower", "()J"⟩
abbrev cX8_count : ByteArray := prog_1_method_47_code
def yX8_count : MethodName := ⟨RX8, "count", "(I)I"⟩
abbrev cX8_finding : ByteArray := prog_1_method_48_code
def yX8_finding : MethodName := ⟨RX8, "finding", "()I"⟩
abbrev cX8_findings : ByteArray := prog_1_method_49_code
def yX8_findings : MethodName := ⟨RX8, "findings", "(I)I"⟩
abbrev cX8_digest : ByteArray := prog_1_method_50_code
def yX8_digest : MethodName := ⟨RX8, "digest", "()J"⟩
abbrev cX8_find : ByteArray := prog_1_method_51_code
def yX8_find : MethodName := ⟨RX8, "find", "(I)I"⟩
abbrev cX8_refusePlace : ByteArray := prog_1_method_52_code
def yX8_refusePlace : MethodName := ⟨RX8, "refusePlace", "(II)I"⟩
abbrev cX8_refuseBell : ByteArray := prog_1_method_53_code
def yX8_refuseBell : MethodName := ⟨RX8, "refuseBell", "(I)I"⟩
abbrev cX8_refuseRound : ByteArray := prog_1_method_54_code
def yX8_refuseRound : MethodName := ⟨RX8, "refuseRound", "(I)I"⟩
abbrev cX8_refuseTold : ByteArray := prog_1_method_55_code
def yX8_refuseTold : MethodName := ⟨RX8, "refuseTold", "(II)I"⟩
abbrev cX8_refuseSlips : ByteArray := prog_1_method_56_code
def yX8_refuseSlips : MethodName := ⟨RX8, "refuseSlips", "(IIII)I"⟩
abbrev cX8_isRow : ByteArray := prog_1_method_57_code
def yX8_isRow : MethodName := ⟨RX8, "isRow", "(I)Z"⟩
abbrev cX8_isText : ByteArray := prog_1_method_58_code
def yX8_isText : MethodName := ⟨RX8, "isText", "(I)Z"⟩
abbrev cX8_isKept : ByteArray := prog_1_method_59_code
def yX8_isKept : MethodName := ⟨RX8, "isKept", "(I)Z"⟩
abbrev cX8_isPull : ByteArray := prog_1_method_60_code
def yX8_isPull : MethodName := ⟨RX8, "isPull", "(I)Z"⟩
abbrev cX8_anew : ByteArray := prog_1_method_61_code
def yX8_anew : MethodName := ⟨RX8, "anew", "(LBellBalance$Row;II)I"⟩
abbrev cX8_tellParts : ByteArray := prog_1_method_62_code
def yX8_tellParts : MethodName := ⟨RX8, "tellParts", "(JJ)I"⟩
abbrev cX8_commonDivisor : ByteArray := prog_1_method_63_code
def yX8_commonDivisor : MethodName := ⟨RX8, "commonDivisor", "(JJ)J"⟩
abbrev cX8_greatestWhole : ByteArray := prog_1_method_64_code
def yX8_greatestWhole : MethodName := ⟨RX8, "greatestWhole", "(LBellBalance$Bell;)I"⟩
abbrev cX8_othersAsHeavy : ByteArray := prog_1_method_65_code
def yX8_othersAsHeavy : MethodName := ⟨RX8, "othersAsHeavy", "(I)I"⟩
abbrev cX8_othersSooner : ByteArray := prog_1_method_66_code
def yX8_othersSooner : MethodName := ⟨RX8, "othersSooner", "(I)I"⟩
abbrev cX8_listen : ByteArray := prog_1_method_67_code
def yX8_listen : MethodName := ⟨RX8, "listen", "(LBellBalance$Row;)V"⟩
abbrev cX8_ringOrder : ByteArray := prog_1_method_68_code
def yX8_ringOrder : MethodName := ⟨RX8, "ringOrder", "(LBellBalance$Row;LBellBalance$Row;)I"⟩
abbrev cX8_slip : ByteArray := prog_1_method_69_code
def yX8_slip : MethodName := ⟨RX8, "slip", "(LBellBalance$Bell;III)J"⟩
abbrev cX8_fits : ByteArray := prog_1_method_70_code
def yX8_fits : MethodName := ⟨RX8, "fits", "(LBellBalance$Row;IIII)Z"⟩
abbrev cX8_thereOf : ByteArray := prog_1_method_71_code
def yX8_thereOf : MethodName := ⟨RX8, "thereOf", "([LBellBalance$Row;)I"⟩
abbrev cX8_keptTowers : ByteArray := prog_1_method_72_code
def yX8_keptTowers : MethodName := ⟨RX8, "keptTowers", "()I"⟩
abbrev cX8_scan : ByteArray := prog_1_method_73_code
def yX8_scan : MethodName := ⟨RX8, "scan", "(LBellBalance$Row;)I"⟩
abbrev cX8_itemSigns : ByteArray := prog_1_method_74_code
def yX8_itemSigns : MethodName := ⟨RX8, "itemSigns", "(LBellBalance$Row;I)I"⟩
abbrev cX8_kindOf : ByteArray := prog_1_method_75_code
def yX8_kindOf : MethodName := ⟨RX8, "kindOf", "(I)I"⟩
abbrev cX8_isOf : ByteArray := prog_1_method_76_code
def yX8_isOf : MethodName := ⟨RX8, "isOf", "(II)Z"⟩
abbrev cX8_after : ByteArray := prog_1_method_77_code
def yX8_after : MethodName := ⟨RX8, "after", "(III)I"⟩
abbrev cX8_tenths : ByteArray := prog_1_method_78_code
def yX8_tenths : MethodName := ⟨RX8, "tenths", "(IIII)I"⟩
abbrev cX8_lag : ByteArray := prog_1_method_79_code
def yX8_lag : MethodName := ⟨RX8, "lag", "(I)I"⟩
def RX9 : String := "BellBalanceModel"
def TX9 : u_T := fun k => match k with
  | 0 => ("BellBalanceModel", "w", "[I", true)
  | 1 => ("BellBalanceModel", "deeds", "I", false)
  | 2 => ("BellBalanceModel", "keptDeeds", "[I", true)
  | 3 => ("BellBalanceModel", "rows", "[I", true)
  | 4 => ("BellBalanceModel", "rowSize", "[I", true)
  | 5 => ("BellBalanceModel", "texts", "[I", true)
  | 6 => ("BellBalanceModel", "textSize", "[I", true)
  | 7 => ("BellBalanceModel", "held", "[I", true)
  | 8 => ("BellBalanceModel", "finding", "I", false)
  | 9 => ("BellBalanceModel", "findings", "[I", true)
  | 10 => ("BellBalanceModel", "asked", "I", false)
  | 11 => ("BellBalanceModel", "upper", "J", false)
  | 12 => ("BellBalanceModel", "lower", "J", false)
  | 13 => ("BellBalanceModel", "position", "I", false)
  | 14 => ("BellBalanceModel", "pulls", "[I", true)
  | 15 => ("BellBalanceModel", "when", "[I", true)
  | 16 => ("BellBalanceModel", "order", "[I", true)
  | 17 => ("BellBalanceModel", "breaks", "Z", false)
  | 18 => ("BellBalanceModel", "heards", "I", false)
  | 19 => ("BellBalanceModel", "can", "[Z", true)
  | 20 => ("BellBalanceModel", "sums", "[I", true)
  | 21 => ("BellBalanceModel", "ways", "[J", true)
  | 22 => ("BellBalanceModel", "best", "[I", true)
  | 23 => ("BellBalanceModel", "met", "[Z", true)
  | 24 => ("BellBalanceModel", "wins", "[Z", true)
  | 25 => ("BellBalanceModel", "parts", "[J", true)
  | 26 => ("BellBalanceModel", "next", "[J", true)
  | _ => ("BellBalanceModel", "h", "J", false)
def tyX9 : Nat → FieldType := fun k => match k with
  | 0 => .array .int
  | 1 => .int
  | 2 => .array .int
  | 3 => .array .int
  | 4 => .array .int
  | 5 => .array .int
  | 6 => .array .int
  | 7 => .array .int
  | 8 => .int
  | 9 => .array .int
  | 10 => .int
  | 11 => .long
  | 12 => .long
  | 13 => .int
  | 14 => .array .int
  | 15 => .array .int
  | 16 => .array .int
  | 17 => .boolean
  | 18 => .int
  | 19 => .array .boolean
  | 20 => .array .int
  | 21 => .array .long
  | 22 => .array .int
  | 23 => .array .boolean
  | 24 => .array .boolean
  | 25 => .array .long
  | 26 => .array .long
  | _ => .long
theorem nmX9 : ∀ a, a < 28 → ∀ b, b < 28 → a ≠ b → (TX9 a).2.1 ≠ (TX9 b).2.1 := by decide +kernel
theorem tyX9_ok : ∀ k, k < 28 → parseFieldDescriptor (TX9 k).2.2.1 = some (tyX9 k) := by decide +kernel
abbrev cX9_init : ByteArray := prog_11_method_1_code
def yX9_init : MethodName := ⟨RX9, "<init>", "()V"⟩
abbrev cX9_in : ByteArray := prog_11_method_3_code
def yX9_in : MethodName := ⟨RX9, "in", "(JJJ)Z"⟩
abbrev cX9_has : ByteArray := prog_11_method_4_code
def yX9_has : MethodName := ⟨RX9, "has", "(II)Z"⟩
abbrev cX9_found : ByteArray := prog_11_method_5_code
def yX9_found : MethodName := ⟨RX9, "found", "(I)I"⟩
abbrev cX9_tells : ByteArray := prog_11_method_6_code
def yX9_tells : MethodName := ⟨RX9, "tells", "(II)I"⟩
abbrev cX9_copyAll : ByteArray := prog_11_method_7_code
def yX9_copyAll : MethodName := ⟨RX9, "copyAll", "(III)V"⟩
abbrev cX9_isRow : ByteArray := prog_11_method_8_code
def yX9_isRow : MethodName := ⟨RX9, "isRow", "(I)Z"⟩
abbrev cX9_isText : ByteArray := prog_11_method_9_code
def yX9_isText : MethodName := ⟨RX9, "isText", "(I)Z"⟩
abbrev cX9_anew : ByteArray := prog_11_method_10_code
def yX9_anew : MethodName := ⟨RX9, "anew", "(II)V"⟩
abbrev cX9_row : ByteArray := prog_11_method_11_code
def yX9_row : MethodName := ⟨RX9, "row", "(II)I"⟩
abbrev cX9_lay : ByteArray := prog_11_method_12_code
def yX9_lay : MethodName := ⟨RX9, "lay", "(III)I"⟩
abbrev cX9_at : ByteArray := prog_11_method_13_code
def yX9_at : MethodName := ⟨RX9, "at", "(II)I"⟩
abbrev cX9_tear : ByteArray := prog_11_method_14_code
def yX9_tear : MethodName := ⟨RX9, "tear", "(I)I"⟩
abbrev cX9_fits : ByteArray := prog_11_method_15_code
def yX9_fits : MethodName := ⟨RX9, "fits", "(III)Z"⟩
abbrev cX9_copy : ByteArray := prog_11_method_16_code
def yX9_copy : MethodName := ⟨RX9, "copy", "(IIIII)I"⟩
abbrev cX9_mean : ByteArray := prog_11_method_17_code
def yX9_mean : MethodName := ⟨RX9, "mean", "(I)I"⟩
abbrev cX9_text : ByteArray := prog_11_method_18_code
def yX9_text : MethodName := ⟨RX9, "text", "(II)I"⟩
abbrev cX9_put : ByteArray := prog_11_method_19_code
def yX9_put : MethodName := ⟨RX9, "put", "(III)I"⟩
abbrev cX9_kindOf : ByteArray := prog_11_method_20_code
def yX9_kindOf : MethodName := ⟨RX9, "kindOf", "(I)I"⟩
abbrev cX9_byteAt : ByteArray := prog_11_method_21_code
def yX9_byteAt : MethodName := ⟨RX9, "byteAt", "(II)I"⟩
abbrev cX9_blanks : ByteArray := prog_11_method_22_code
def yX9_blanks : MethodName := ⟨RX9, "blanks", "(I)V"⟩
abbrev cX9_figure : ByteArray := prog_11_method_23_code
def yX9_figure : MethodName := ⟨RX9, "figure", "(III)I"⟩
abbrev cX9_takesBell : ByteArray := prog_11_method_24_code
def yX9_takesBell : MethodName := ⟨RX9, "takesBell", "(I)Z"⟩
abbrev cX9_faultOf : ByteArray := prog_11_method_25_code
def yX9_faultOf : MethodName := ⟨RX9, "faultOf", "(I)I"⟩
abbrev cX9_fault : ByteArray := prog_11_method_26_code
def yX9_fault : MethodName := ⟨RX9, "fault", "(I)I"⟩
abbrev cX9_tower : ByteArray := prog_11_method_27_code
def yX9_tower : MethodName := ⟨RX9, "tower", "(I)I"⟩
abbrev cX9_isBell : ByteArray := prog_11_method_28_code
def yX9_isBell : MethodName := ⟨RX9, "isBell", "(I)Z"⟩
abbrev cX9_isOver : ByteArray := prog_11_method_29_code
def yX9_isOver : MethodName := ⟨RX9, "isOver", "(I)Z"⟩
abbrev cX9_bell : ByteArray := prog_11_method_30_code
def yX9_bell : MethodName := ⟨RX9, "bell", "(II)I"⟩
abbrev cX9_bellTells : ByteArray := prog_11_method_31_code
def yX9_bellTells : MethodName := ⟨RX9, "bellTells", "(II)I"⟩
abbrev cX9_isHeavy : ByteArray := prog_11_method_32_code
def yX9_isHeavy : MethodName := ⟨RX9, "isHeavy", "(I)Z"⟩
abbrev cX9_isQuick : ByteArray := prog_11_method_33_code
def yX9_isQuick : MethodName := ⟨RX9, "isQuick", "(I)Z"⟩
abbrev cX9_after : ByteArray := prog_11_method_34_code
def yX9_after : MethodName := ⟨RX9, "after", "(III)I"⟩
abbrev cX9_tenthsOf : ByteArray := prog_11_method_35_code
def yX9_tenthsOf : MethodName := ⟨RX9, "tenthsOf", "(IIII)I"⟩
abbrev cX9_strikesBy : ByteArray := prog_11_method_36_code
def yX9_strikesBy : MethodName := ⟨RX9, "strikesBy", "(III)I"⟩
abbrev cX9_markOf : ByteArray := prog_11_method_37_code
def yX9_markOf : MethodName := ⟨RX9, "markOf", "(II)I"⟩
abbrev cX9_mark : ByteArray := prog_11_method_38_code
def yX9_mark : MethodName := ⟨RX9, "mark", "(II)I"⟩
abbrev cX9_damp : ByteArray := prog_11_method_39_code
def yX9_damp : MethodName := ⟨RX9, "damp", "(I)I"⟩
abbrev cX9_minds : ByteArray := prog_11_method_40_code
def yX9_minds : MethodName := ⟨RX9, "minds", "()V"⟩
abbrev cX9_strokes : ByteArray := prog_11_method_41_code
def yX9_strokes : MethodName := ⟨RX9, "strokes", "(II)V"⟩
abbrev cX9_isPull : ByteArray := prog_11_method_42_code
def yX9_isPull : MethodName := ⟨RX9, "isPull", "(I)Z"⟩
abbrev cX9_stroke : ByteArray := prog_11_method_43_code
def yX9_stroke : MethodName := ⟨RX9, "stroke", "(II)I"⟩
abbrev cX9_against : ByteArray := prog_11_method_44_code
def yX9_against : MethodName := ⟨RX9, "against", "(I)I"⟩
abbrev cX9_rings : ByteArray := prog_11_method_45_code
def yX9_rings : MethodName := ⟨RX9, "rings", "()V"⟩
abbrev cX9_laysPulls : ByteArray := prog_11_method_46_code
def yX9_laysPulls : MethodName := ⟨RX9, "laysPulls", "(I)V"⟩
abbrev cX9_heardSet : ByteArray := prog_11_method_47_code
def yX9_heardSet : MethodName := ⟨RX9, "heardSet", "()I"⟩
abbrev cX9_gap : ByteArray := prog_11_method_48_code
def yX9_gap : MethodName := ⟨RX9, "gap", "(I)I"⟩
abbrev cX9_errorNow : ByteArray := prog_11_method_49_code
def yX9_errorNow : MethodName := ⟨RX9, "errorNow", "()I"⟩
abbrev cX9_round : ByteArray := prog_11_method_50_code
def yX9_round : MethodName := ⟨RX9, "round", "(I)I"⟩
abbrev cX9_mend : ByteArray := prog_11_method_51_code
def yX9_mend : MethodName := ⟨RX9, "mend", "(I)I"⟩
abbrev cX9_undo : ByteArray := prog_11_method_52_code
def yX9_undo : MethodName := ⟨RX9, "undo", "(I)I"⟩
abbrev cX9_keep : ByteArray := prog_11_method_53_code
def yX9_keep : MethodName := ⟨RX9, "keep", "(I)I"⟩
abbrev cX9_on : ByteArray := prog_11_method_54_code
def yX9_on : MethodName := ⟨RX9, "on", "(I)I"⟩
abbrev cX9_strikes : ByteArray := prog_11_method_55_code
def yX9_strikes : MethodName := ⟨RX9, "strikes", "(II)I"⟩
abbrev cX9_stands : ByteArray := prog_11_method_56_code
def yX9_stands : MethodName := ⟨RX9, "stands", "(I)I"⟩
abbrev cX9_layStands : ByteArray := prog_11_method_57_code
def yX9_layStands : MethodName := ⟨RX9, "layStands", "(I)V"⟩
abbrev cX9_raise : ByteArray := prog_11_method_58_code
def yX9_raise : MethodName := ⟨RX9, "raise", "(II)I"⟩
abbrev cX9_ways : ByteArray := prog_11_method_59_code
def yX9_ways : MethodName := ⟨RX9, "ways", "(II)I"⟩
abbrev cX9_arms : ByteArray := prog_11_method_60_code
def yX9_arms : MethodName := ⟨RX9, "arms", "(IIII)I"⟩
abbrev cX9_hold : ByteArray := prog_11_method_61_code
def yX9_hold : MethodName := ⟨RX9, "hold", "(II)I"⟩
abbrev cX9_drops : ByteArray := prog_11_method_62_code
def yX9_drops : MethodName := ⟨RX9, "drops", "(I)I"⟩
abbrev cX9_back : ByteArray := prog_11_method_63_code
def yX9_back : MethodName := ⟨RX9, "back", "(I)I"⟩
abbrev cX9_error : ByteArray := prog_11_method_64_code
def yX9_error : MethodName := ⟨RX9, "error", "(I)I"⟩
abbrev cX9_heard : ByteArray := prog_11_method_65_code
def yX9_heard : MethodName := ⟨RX9, "heard", "(II)I"⟩
abbrev cX9_sounds : ByteArray := prog_11_method_66_code
def yX9_sounds : MethodName := ⟨RX9, "sounds", "()I"⟩
abbrev cX9_isNext : ByteArray := prog_11_method_67_code
def yX9_isNext : MethodName := ⟨RX9, "isNext", "()Z"⟩
abbrev cX9_begins : ByteArray := prog_11_method_68_code
def yX9_begins : MethodName := ⟨RX9, "begins", "()V"⟩
abbrev cX9_isAll : ByteArray := prog_11_method_69_code
def yX9_isAll : MethodName := ⟨RX9, "isAll", "()Z"⟩
abbrev cX9_keepsBest : ByteArray := prog_11_method_70_code
def yX9_keepsBest : MethodName := ⟨RX9, "keepsBest", "()V"⟩
abbrev cX9_tellsBest : ByteArray := prog_11_method_71_code
def yX9_tellsBest : MethodName := ⟨RX9, "tellsBest", "(I)V"⟩
abbrev cX9_even : ByteArray := prog_11_method_72_code
def yX9_even : MethodName := ⟨RX9, "even", "(I)I"⟩
abbrev cX9_change : ByteArray := prog_11_method_73_code
def yX9_change : MethodName := ⟨RX9, "change", "(II)I"⟩
abbrev cX9_orders : ByteArray := prog_11_method_74_code
def yX9_orders : MethodName := ⟨RX9, "orders", "()I"⟩
abbrev cX9_late : ByteArray := prog_11_method_75_code
def yX9_late : MethodName := ⟨RX9, "late", "(I)I"⟩
abbrev cX9_layGame : ByteArray := prog_11_method_76_code
def yX9_layGame : MethodName := ⟨RX9, "layGame", "(II)V"⟩
abbrev cX9_game : ByteArray := prog_11_method_77_code
def yX9_game : MethodName := ⟨RX9, "game", "(II)I"⟩
abbrev cX9_first : ByteArray := prog_11_method_78_code
def yX9_first : MethodName := ⟨RX9, "first", "(II)I"⟩
abbrev cX9_againstPairs : ByteArray := prog_11_method_79_code
def yX9_againstPairs : MethodName := ⟨RX9, "againstPairs", "(II)I"⟩
abbrev cX9_isSo : ByteArray := prog_11_method_80_code
def yX9_isSo : MethodName := ⟨RX9, "isSo", "(IIIII)Z"⟩
abbrev cX9_kinds : ByteArray := prog_11_method_81_code
def yX9_kinds : MethodName := ⟨RX9, "kinds", "(II)I"⟩
abbrev cX9_damps : ByteArray := prog_11_method_82_code
def yX9_damps : MethodName := ⟨RX9, "damps", "(II)I"⟩
abbrev cX9_heights : ByteArray := prog_11_method_83_code
def yX9_heights : MethodName := ⟨RX9, "heights", "(II)I"⟩
abbrev cX9_broke : ByteArray := prog_11_method_84_code
def yX9_broke : MethodName := ⟨RX9, "broke", "(II)I"⟩
abbrev cX9_laySlips : ByteArray := prog_11_method_85_code
def yX9_laySlips : MethodName := ⟨RX9, "laySlips", "(IIII)J"⟩
abbrev cX9_chance : ByteArray := prog_11_method_86_code
def yX9_chance : MethodName := ⟨RX9, "chance", "(JJ)I"⟩
abbrev cX9_againstSlips : ByteArray := prog_11_method_87_code
def yX9_againstSlips : MethodName := ⟨RX9, "againstSlips", "(IIII)I"⟩
abbrev cX9_odds : ByteArray := prog_11_method_88_code
def yX9_odds : MethodName := ⟨RX9, "odds", "(IIII)I"⟩
abbrev cX9_mid : ByteArray := prog_11_method_89_code
def yX9_mid : MethodName := ⟨RX9, "mid", "(IIII)I"⟩
abbrev cX9_lots : ByteArray := prog_11_method_90_code
def yX9_lots : MethodName := ⟨RX9, "lots", "(II)I"⟩
abbrev cX9_asked : ByteArray := prog_11_method_91_code
def yX9_asked : MethodName := ⟨RX9, "asked", "()I"⟩
abbrev cX9_upper : ByteArray := prog_11_method_92_code
def yX9_upper : MethodName := ⟨RX9, "upper", "()J"⟩
abbrev cX9_lower : ByteArray := prog_11_method_93_code
def yX9_lower : MethodName := ⟨RX9, "lower", "()J"⟩
abbrev cX9_thereOf : ByteArray := prog_11_method_94_code
def yX9_thereOf : MethodName := ⟨RX9, "thereOf", "([II)I"⟩
abbrev cX9_heavies : ByteArray := prog_11_method_95_code
def yX9_heavies : MethodName := ⟨RX9, "heavies", "()I"⟩
abbrev cX9_standing : ByteArray := prog_11_method_96_code
def yX9_standing : MethodName := ⟨RX9, "standing", "()I"⟩
abbrev cX9_count : ByteArray := prog_11_method_97_code
def yX9_count : MethodName := ⟨RX9, "count", "(I)I"⟩
abbrev cX9_finding : ByteArray := prog_11_method_98_code
def yX9_finding : MethodName := ⟨RX9, "finding", "()I"⟩
abbrev cX9_findings : ByteArray := prog_11_method_99_code
def yX9_findings : MethodName := ⟨RX9, "findings", "(I)I"⟩
abbrev cX9_mix : ByteArray := prog_11_method_100_code
def yX9_mix : MethodName := ⟨RX9, "mix", "(J)V"⟩
abbrev cX9_digest : ByteArray := prog_11_method_101_code
def yX9_digest : MethodName := ⟨RX9, "digest", "()J"⟩
def RJ6 : String := "java/lang/Integer"
abbrev cJ6_bitCount_0f7a4 : ByteArray := prog_12_method_49_code
def yJ6_bitCount_0f7a4 : MethodName := ⟨RJ6, "bitCount", "(I)I"⟩
def RJ9 : String := "java/lang/Math"
abbrev cJ9_abs_0f7a4 : ByteArray := prog_13_method_59_code
def yJ9_abs_0f7a4 : MethodName := ⟨RJ9, "abs", "(I)I"⟩
abbrev cJ9_max_7cf53 : ByteArray := prog_13_method_65_code
def yJ9_max_7cf53 : MethodName := ⟨RJ9, "max", "(II)I"⟩
abbrev cJ9_min_7cf53 : ByteArray := prog_13_method_69_code
def yJ9_min_7cf53 : MethodName := ⟨RJ9, "min", "(II)I"⟩
def RJ10 : String := "java/lang/System"
def RJ7 : String := "java/util/Arrays"
abbrev cJ7_rangeCheck_23922 : ByteArray := prog_15_method_30_code
def yJ7_rangeCheck_23922 : MethodName := ⟨RJ7, "rangeCheck", "(III)V"⟩
abbrev cJ7_fill_d0a16 : ByteArray := prog_15_method_101_code
def yJ7_fill_d0a16 : MethodName := ⟨RJ7, "fill", "([JJ)V"⟩
abbrev cJ7_fill_fda19 : ByteArray := prog_15_method_104_code
def yJ7_fill_fda19 : MethodName := ⟨RJ7, "fill", "([IIII)V"⟩
def RL : String := "BellBalanceLaw"
abbrev cL_law : ByteArray := code
def yL_law : MethodName := ⟨RL, "law", "([I)Z"⟩
abbrev vwCl : List vw_C := [(RX0, TX0, 6), (RX1, TX1, 3), (RX2, TX2, 2), (RX3, TX3, 3), (RX4, TX4, 2), (RX5, TX5, 2), (RX6, TX6, 3), (RX7, TX7, 5), (RX8, TX8, 15), (RX9, TX9, 28)]
end
section
theorem dX0_init_0 : decode cX0_init 0 = .ok (.aload_n 0, 1) := by decide +kernel
theorem dX0_init_1 : decode cX0_init 1 = .ok (.invokespecial 3, 3) := by decide +kernel
theorem dX0_init_4 : decode cX0_init 4 = .ok (.return_, 1) := by decide +kernel
theorem dX0_begin_0 : decode cX0_begin 0 = .ok (.aload_n 0, 1) := by decide +kernel
theorem dX0_begin_1 : decode cX0_begin 1 = .ok (.iload_n 1, 1) := by decide +kernel
theorem dX0_begin_2 : decode cX0_begin 2 = .ok (.putfield 9, 3) := by decide +kernel
theorem dX0_begin_5 : decode cX0_begin 5 = .ok (.aload_n 0, 1) := by decide +kernel
theorem dX0_begin_6 : decode cX0_begin 6 = .ok (.iload_n 2, 1) := by decide +kernel
theorem dX0_begin_7 : decode cX0_begin 7 = .ok (.putfield 15, 3) := by decide +kernel
theorem dX0_begin_10 : decode cX0_begin 10 = .ok (.aload_n 0, 1) := by decide +kernel
theorem dX0_begin_11 : decode cX0_begin 11 = .ok (.iload_n 3, 1) := by decide +kernel
theorem dX0_begin_12 : decode cX0_begin 12 = .ok (.putfield 18, 3) := by decide +kernel
theorem dX0_begin_15 : decode cX0_begin 15 = .ok (.aload_n 0, 1) := by decide +kernel
theorem dX0_begin_16 : decode cX0_begin 16 = .ok (.invokevirtual 21, 3) := by decide +kernel
theorem dX0_begin_19 : decode cX0_begin 19 = .ok (.return_, 1) := by decide +kernel
theorem dX0_become_0 : decode cX0_become 0 = .ok (.aload_n 0, 1) := by decide +kernel
theorem dX0_become_1 : decode cX0_become 1 = .ok (.aload_n 1, 1) := by decide +kernel
theorem dX0_become_2 : decode cX0_become 2 = .ok (.getfield 9, 3) := by decide +kernel
theorem dX0_become_5 : decode cX0_become 5 = .ok (.aload_n 1, 1) := by decide +kernel
theorem dX0_become_6 : decode cX0_become 6 = .ok (.getfield 15, 3) := by decide +kernel
theorem dX0_become_9 : decode cX0_become 9 = .ok (.aload_n 1, 1) := by decide +kernel
theorem dX0_become_10 : decode cX0_become 10 = .ok (.getfield 18, 3) := by decide +kernel
theorem dX0_become_13 : decode cX0_become 13 = .ok (.invokevirtual 24, 3) := by decide +kernel
theorem dX0_become_16 : decode cX0_become 16 = .ok (.aload_n 0, 1) := by decide +kernel
theorem dX0_become_17 : decode cX0_become 17 = .ok (.aload_n 1, 1) := by decide +kernel
theorem dX0_become_18 : decode cX0_become 18 = .ok (.getfield 28, 3) := by decide +kernel
theorem dX0_become_21 : decode cX0_become 21 = .ok (.putfield 28, 3) := by decide +kernel
theorem dX0_become_24 : decode cX0_become 24 = .ok (.aload_n 0, 1) := by decide +kernel
theorem dX0_become_25 : decode cX0_become 25 = .ok (.aload_n 1, 1) := by decide +kernel
theorem dX0_become_26 : decode cX0_become 26 = .ok (.getfield 31, 3) := by decide +kernel
theorem dX0_become_29 : decode cX0_become 29 = .ok (.putfield 31, 3) := by decide +kernel
theorem dX0_become_32 : decode cX0_become 32 = .ok (.aload_n 0, 1) := by decide +kernel
theorem dX0_become_33 : decode cX0_become 33 = .ok (.aload_n 1, 1) := by decide +kernel
theorem dX0_become_34 : decode cX0_become 34 = .ok (.getfield 34, 3) := by decide +kernel
theorem dX0_become_37 : decode cX0_become 37 = .ok (.putfield 34, 3) := by decide +kernel
theorem dX0_become_40 : decode cX0_become 40 = .ok (.return_, 1) := by decide +kernel
theorem dX0_rewind_0 : decode cX0_rewind 0 = .ok (.aload_n 0, 1) := by decide +kernel
theorem dX0_rewind_1 : decode cX0_rewind 1 = .ok (.aload_n 0, 1) := by decide +kernel
theorem dX0_rewind_2 : decode cX0_rewind 2 = .ok (.getfield 18, 3) := by decide +kernel
theorem dX0_rewind_5 : decode cX0_rewind 5 = .ok (.putfield 28, 3) := by decide +kernel
theorem dX0_rewind_8 : decode cX0_rewind 8 = .ok (.aload_n 0, 1) := by decide +kernel
theorem dX0_rewind_9 : decode cX0_rewind 9 = .ok (.iconst 0, 1) := by decide +kernel
theorem dX0_rewind_10 : decode cX0_rewind 10 = .ok (.putfield 31, 3) := by decide +kernel
theorem dX0_rewind_13 : decode cX0_rewind 13 = .ok (.aload_n 0, 1) := by decide +kernel
theorem dX0_rewind_14 : decode cX0_rewind 14 = .ok (.iconst 0, 1) := by decide +kernel
theorem dX0_rewind_15 : decode cX0_rewind 15 = .ok (.putfield 34, 3) := by decide +kernel
theorem dX0_rewind_18 : decode cX0_rewind 18 = .ok (.return_, 1) := by decide +kernel
theorem dX0_swing_0 : decode cX0_swing 0 = .ok (.aload_n 0, 1) := by decide +kernel
theorem dX0_swing_1 : decode cX0_swing 1 = .ok (.getfield 34, 3) := by decide +kernel
theorem dX0_swing_4 : decode cX0_swing 4 = .ok (.ifCond .eq 4, 3) := by decide +kernel
theorem dX0_swing_7 : decode cX0_swing 7 = .ok (.return_, 1) := by decide +kernel
theorem dX0_swing_8 : decode cX0_swing 8 = .ok (.aload_n 0, 1) := by decide +kernel
theorem dX0_swing_9 : decode cX0_swing 9 = .ok (.getfield 9, 3) := by decide +kernel
theorem dX0_swing_12 : decode cX0_swing 12 = .ok (.aload_n 0, 1) := by decide +kernel
theorem dX0_swing_13 : decode cX0_swing 13 = .ok (.getfield 28, 3) := by decide +kernel
theorem dX0_swing_16 : decode cX0_swing 16 = .ok (.iload_n 1, 1) := by decide +kernel
theorem dX0_swing_17 : decode cX0_swing 17 = .ok (.invokestatic 38, 3) := by decide +kernel
theorem dX0_swing_20 : decode cX0_swing 20 = .ok (.istore_n 2, 1) := by decide +kernel
theorem dX0_swing_21 : decode cX0_swing 21 = .ok (.aload_n 0, 1) := by decide +kernel
theorem dX0_swing_22 : decode cX0_swing 22 = .ok (.iload_n 2, 1) := by decide +kernel
theorem dX0_swing_23 : decode cX0_swing 23 = .ok (.iconst (-1), 1) := by decide +kernel
theorem dX0_swing_24 : decode cX0_swing 24 = .ok (.if_icmp .ne 7, 3) := by decide +kernel
theorem dX0_swing_27 : decode cX0_swing 27 = .ok (.iconst 1, 1) := by decide +kernel
theorem dX0_swing_28 : decode cX0_swing 28 = .ok (.goto 4, 3) := by decide +kernel
theorem dX0_swing_31 : decode cX0_swing 31 = .ok (.iconst 0, 1) := by decide +kernel
theorem dX0_swing_32 : decode cX0_swing 32 = .ok (.putfield 34, 3) := by decide +kernel
theorem dX0_swing_35 : decode cX0_swing 35 = .ok (.aload_n 0, 1) := by decide +kernel
theorem dX0_swing_36 : decode cX0_swing 36 = .ok (.aload_n 0, 1) := by decide +kernel
theorem dX0_swing_37 : decode cX0_swing 37 = .ok (.getfield 34, 3) := by decide +kernel
theorem dX0_swing_40 : decode cX0_swing 40 = .ok (.ifCond .eq 7, 3) := by decide +kernel
theorem dX0_swing_43 : decode cX0_swing 43 = .ok (.iconst 0, 1) := by decide +kernel
theorem dX0_swing_44 : decode cX0_swing 44 = .ok (.goto 4, 3) := by decide +kernel
theorem dX0_swing_47 : decode cX0_swing 47 = .ok (.iload_n 2, 1) := by decide +kernel
theorem dX0_swing_48 : decode cX0_swing 48 = .ok (.putfield 28, 3) := by decide +kernel
theorem dX0_swing_51 : decode cX0_swing 51 = .ok (.aload_n 0, 1) := by decide +kernel
theorem dX0_swing_52 : decode cX0_swing 52 = .ok (.dup, 1) := by decide +kernel
theorem dX0_swing_53 : decode cX0_swing 53 = .ok (.getfield 31, 3) := by decide +kernel
theorem dX0_swing_56 : decode cX0_swing 56 = .ok (.iconst 1, 1) := by decide +kernel
theorem dX0_swing_57 : decode cX0_swing 57 = .ok (.iadd, 1) := by decide +kernel
theorem dX0_swing_58 : decode cX0_swing 58 = .ok (.putfield 31, 3) := by decide +kernel
theorem dX0_swing_61 : decode cX0_swing 61 = .ok (.return_, 1) := by decide +kernel
theorem dX0_renewStay_0 : decode cX0_renewStay 0 = .ok (.aload_n 0, 1) := by decide +kernel
theorem dX0_renewStay_1 : decode cX0_renewStay 1 = .ok (.iconst 0, 1) := by decide +kernel
theorem dX0_renewStay_2 : decode cX0_renewStay 2 = .ok (.putfield 34, 3) := by decide +kernel
theorem dX0_renewStay_5 : decode cX0_renewStay 5 = .ok (.aload_n 0, 1) := by decide +kernel
theorem dX0_renewStay_6 : decode cX0_renewStay 6 = .ok (.iconst 0, 1) := by decide +kernel
theorem dX0_renewStay_7 : decode cX0_renewStay 7 = .ok (.putfield 28, 3) := by decide +kernel
theorem dX0_renewStay_10 : decode cX0_renewStay 10 = .ok (.return_, 1) := by decide +kernel
theorem dX0_tell_0 : decode cX0_tell 0 = .ok (.iload_n 1, 1) := by decide +kernel
theorem dX0_tell_1 : decode cX0_tell 1 = .ok (.tableswitch 78 0 4 #[35, 40, 45, 50, 63], 35) := by decide +kernel
theorem dX0_tell_36 : decode cX0_tell 36 = .ok (.aload_n 0, 1) := by decide +kernel
theorem dX0_tell_37 : decode cX0_tell 37 = .ok (.getfield 9, 3) := by decide +kernel
theorem dX0_tell_40 : decode cX0_tell 40 = .ok (.ireturn, 1) := by decide +kernel
theorem dX0_tell_41 : decode cX0_tell 41 = .ok (.aload_n 0, 1) := by decide +kernel
theorem dX0_tell_42 : decode cX0_tell 42 = .ok (.getfield 15, 3) := by decide +kernel
theorem dX0_tell_45 : decode cX0_tell 45 = .ok (.ireturn, 1) := by decide +kernel
theorem dX0_tell_46 : decode cX0_tell 46 = .ok (.aload_n 0, 1) := by decide +kernel
theorem dX0_tell_47 : decode cX0_tell 47 = .ok (.getfield 28, 3) := by decide +kernel
theorem dX0_tell_50 : decode cX0_tell 50 = .ok (.ireturn, 1) := by decide +kernel
theorem dX0_tell_51 : decode cX0_tell 51 = .ok (.aload_n 0, 1) := by decide +kernel
theorem dX0_tell_52 : decode cX0_tell 52 = .ok (.getfield 34, 3) := by decide +kernel
theorem dX0_tell_55 : decode cX0_tell 55 = .ok (.ifCond .eq 7, 3) := by decide +kernel
theorem dX0_tell_58 : decode cX0_tell 58 = .ok (.iconst 1, 1) := by decide +kernel
theorem dX0_tell_59 : decode cX0_tell 59 = .ok (.goto 4, 3) := by decide +kernel
theorem dX0_tell_62 : decode cX0_tell 62 = .ok (.iconst 0, 1) := by decide +kernel
theorem dX0_tell_63 : decode cX0_tell 63 = .ok (.ireturn, 1) := by decide +kernel
theorem dX0_tell_64 : decode cX0_tell 64 = .ok (.aload_n 0, 1) := by decide +kernel
theorem dX0_tell_65 : decode cX0_tell 65 = .ok (.getfield 28, 3) := by decide +kernel
theorem dX0_tell_68 : decode cX0_tell 68 = .ok (.bipush 20, 2) := by decide +kernel
theorem dX0_tell_70 : decode cX0_tell 70 = .ok (.if_icmp .ne 7, 3) := by decide +kernel
theorem dX0_tell_73 : decode cX0_tell 73 = .ok (.iconst 1, 1) := by decide +kernel
theorem dX0_tell_74 : decode cX0_tell 74 = .ok (.goto 4, 3) := by decide +kernel
theorem dX0_tell_77 : decode cX0_tell 77 = .ok (.iconst 0, 1) := by decide +kernel
theorem dX0_tell_78 : decode cX0_tell 78 = .ok (.ireturn, 1) := by decide +kernel
theorem dX0_tell_79 : decode cX0_tell 79 = .ok (.aload_n 0, 1) := by decide +kernel
theorem dX0_tell_80 : decode cX0_tell 80 = .ok (.getfield 31, 3) := by decide +kernel
theorem dX0_tell_83 : decode cX0_tell 83 = .ok (.ireturn, 1) := by decide +kernel
theorem dX1_init_0 : decode cX1_init 0 = .ok (.aload_n 0, 1) := by decide +kernel
theorem dX1_init_1 : decode cX1_init 1 = .ok (.invokespecial 3, 3) := by decide +kernel
theorem dX1_init_4 : decode cX1_init 4 = .ok (.aload_n 0, 1) := by decide +kernel
theorem dX1_init_5 : decode cX1_init 5 = .ok (.bipush 6, 2) := by decide +kernel
theorem dX1_init_7 : decode cX1_init 7 = .ok (.newarray .int, 2) := by decide +kernel
theorem dX1_init_9 : decode cX1_init 9 = .ok (.putfield 9, 3) := by decide +kernel
theorem dX1_init_12 : decode cX1_init 12 = .ok (.aload_n 0, 1) := by decide +kernel
theorem dX1_init_13 : decode cX1_init 13 = .ok (.bipush 6, 2) := by decide +kernel
theorem dX1_init_15 : decode cX1_init 15 = .ok (.newarray .int, 2) := by decide +kernel
theorem dX1_init_17 : decode cX1_init 17 = .ok (.putfield 15, 3) := by decide +kernel
theorem dX1_init_20 : decode cX1_init 20 = .ok (.aload_n 0, 1) := by decide +kernel
theorem dX1_init_21 : decode cX1_init 21 = .ok (.bipush (-9), 2) := by decide +kernel
theorem dX1_init_23 : decode cX1_init 23 = .ok (.putfield 18, 3) := by decide +kernel
theorem dX1_init_26 : decode cX1_init 26 = .ok (.return_, 1) := by decide +kernel
theorem dX1_begin_0 : decode cX1_begin 0 = .ok (.aload_n 0, 1) := by decide +kernel
theorem dX1_begin_1 : decode cX1_begin 1 = .ok (.bipush (-9), 2) := by decide +kernel
theorem dX1_begin_3 : decode cX1_begin 3 = .ok (.putfield 18, 3) := by decide +kernel
theorem dX1_begin_6 : decode cX1_begin 6 = .ok (.return_, 1) := by decide +kernel
theorem dX1_setBest_0 : decode cX1_setBest 0 = .ok (.iload_n 1, 1) := by decide +kernel
theorem dX1_setBest_1 : decode cX1_setBest 1 = .ok (.ifCond .lt 16, 3) := by decide +kernel
theorem dX1_setBest_4 : decode cX1_setBest 4 = .ok (.iload_n 1, 1) := by decide +kernel
theorem dX1_setBest_5 : decode cX1_setBest 5 = .ok (.bipush 6, 2) := by decide +kernel
theorem dX1_setBest_7 : decode cX1_setBest 7 = .ok (.if_icmp .ge 10, 3) := by decide +kernel
theorem dX1_setBest_10 : decode cX1_setBest 10 = .ok (.aload_n 0, 1) := by decide +kernel
theorem dX1_setBest_11 : decode cX1_setBest 11 = .ok (.getfield 15, 3) := by decide +kernel
theorem dX1_setBest_14 : decode cX1_setBest 14 = .ok (.iload_n 1, 1) := by decide +kernel
theorem dX1_setBest_15 : decode cX1_setBest 15 = .ok (.iload_n 2, 1) := by decide +kernel
theorem dX1_setBest_16 : decode cX1_setBest 16 = .ok (.iastore, 1) := by decide +kernel
theorem dX1_setBest_17 : decode cX1_setBest 17 = .ok (.return_, 1) := by decide +kernel
theorem dX1_layBest_0 : decode cX1_layBest 0 = .ok (.aload_n 2, 1) := by decide +kernel
theorem dX1_layBest_1 : decode cX1_layBest 1 = .ok (.iload_n 1, 1) := by decide +kernel
theorem dX1_layBest_2 : decode cX1_layBest 2 = .ok (.iconst 0, 1) := by decide +kernel
theorem dX1_layBest_3 : decode cX1_layBest 3 = .ok (.invokevirtual 22, 3) := by decide +kernel
theorem dX1_layBest_6 : decode cX1_layBest 6 = .ok (.iconst 0, 1) := by decide +kernel
theorem dX1_layBest_7 : decode cX1_layBest 7 = .ok (.istore_n 3, 1) := by decide +kernel
theorem dX1_layBest_8 : decode cX1_layBest 8 = .ok (.iload_n 3, 1) := by decide +kernel
theorem dX1_layBest_9 : decode cX1_layBest 9 = .ok (.iload_n 1, 1) := by decide +kernel
theorem dX1_layBest_10 : decode cX1_layBest 10 = .ok (.if_icmp .ge 26, 3) := by decide +kernel
theorem dX1_layBest_13 : decode cX1_layBest 13 = .ok (.iload_n 3, 1) := by decide +kernel
theorem dX1_layBest_14 : decode cX1_layBest 14 = .ok (.bipush 6, 2) := by decide +kernel
theorem dX1_layBest_16 : decode cX1_layBest 16 = .ok (.if_icmp .ge 20, 3) := by decide +kernel
theorem dX1_layBest_19 : decode cX1_layBest 19 = .ok (.aload_n 2, 1) := by decide +kernel
theorem dX1_layBest_20 : decode cX1_layBest 20 = .ok (.iload_n 3, 1) := by decide +kernel
theorem dX1_layBest_21 : decode cX1_layBest 21 = .ok (.aload_n 0, 1) := by decide +kernel
theorem dX1_layBest_22 : decode cX1_layBest 22 = .ok (.getfield 15, 3) := by decide +kernel
theorem dX1_layBest_25 : decode cX1_layBest 25 = .ok (.iload_n 3, 1) := by decide +kernel
theorem dX1_layBest_26 : decode cX1_layBest 26 = .ok (.iaload, 1) := by decide +kernel
theorem dX1_layBest_27 : decode cX1_layBest 27 = .ok (.invokevirtual 28, 3) := by decide +kernel
theorem dX1_layBest_30 : decode cX1_layBest 30 = .ok (.iinc 3 1, 3) := by decide +kernel
theorem dX1_layBest_33 : decode cX1_layBest 33 = .ok (.goto (-25), 3) := by decide +kernel
theorem dX1_layBest_36 : decode cX1_layBest 36 = .ok (.return_, 1) := by decide +kernel
theorem dX1_seek_0 : decode cX1_seek 0 = .ok (.iload_n 3, 1) := by decide +kernel
theorem dX1_seek_1 : decode cX1_seek 1 = .ok (.aload_n 1, 1) := by decide +kernel
theorem dX1_seek_2 : decode cX1_seek 2 = .ok (.getfield 31, 3) := by decide +kernel
theorem dX1_seek_5 : decode cX1_seek 5 = .ok (.if_icmp .ge 9, 3) := by decide +kernel
theorem dX1_seek_8 : decode cX1_seek 8 = .ok (.iload_n 3, 1) := by decide +kernel
theorem dX1_seek_9 : decode cX1_seek 9 = .ok (.bipush 6, 2) := by decide +kernel
theorem dX1_seek_11 : decode cX1_seek 11 = .ok (.if_icmp .lt 12, 3) := by decide +kernel
theorem dX1_seek_14 : decode cX1_seek 14 = .ok (.aload_n 0, 1) := by decide +kernel
theorem dX1_seek_15 : decode cX1_seek 15 = .ok (.aload_n 2, 1) := by decide +kernel
theorem dX1_seek_16 : decode cX1_seek 16 = .ok (.invokevirtual 36, 3) := by decide +kernel
theorem dX1_seek_19 : decode cX1_seek 19 = .ok (.invokevirtual 42, 3) := by decide +kernel
theorem dX1_seek_22 : decode cX1_seek 22 = .ok (.return_, 1) := by decide +kernel
theorem dX1_seek_23 : decode cX1_seek 23 = .ok (.aload_n 1, 1) := by decide +kernel
theorem dX1_seek_24 : decode cX1_seek 24 = .ok (.getfield 46, 3) := by decide +kernel
theorem dX1_seek_27 : decode cX1_seek 27 = .ok (.iload_n 3, 1) := by decide +kernel
theorem dX1_seek_28 : decode cX1_seek 28 = .ok (.aaload, 1) := by decide +kernel
theorem dX1_seek_29 : decode cX1_seek 29 = .ok (.getfield 50, 3) := by decide +kernel
theorem dX1_seek_32 : decode cX1_seek 32 = .ok (.ifCond .eq 20, 3) := by decide +kernel
theorem dX1_seek_35 : decode cX1_seek 35 = .ok (.aload_n 0, 1) := by decide +kernel
theorem dX1_seek_36 : decode cX1_seek 36 = .ok (.getfield 9, 3) := by decide +kernel
theorem dX1_seek_39 : decode cX1_seek 39 = .ok (.iload_n 3, 1) := by decide +kernel
theorem dX1_seek_40 : decode cX1_seek 40 = .ok (.iconst 0, 1) := by decide +kernel
theorem dX1_seek_41 : decode cX1_seek 41 = .ok (.iastore, 1) := by decide +kernel
theorem dX1_seek_42 : decode cX1_seek 42 = .ok (.aload_n 0, 1) := by decide +kernel
theorem dX1_seek_43 : decode cX1_seek 43 = .ok (.aload_n 1, 1) := by decide +kernel
theorem dX1_seek_44 : decode cX1_seek 44 = .ok (.aload_n 2, 1) := by decide +kernel
theorem dX1_seek_45 : decode cX1_seek 45 = .ok (.iload_n 3, 1) := by decide +kernel
theorem dX1_seek_46 : decode cX1_seek 46 = .ok (.iconst 1, 1) := by decide +kernel
theorem dX1_seek_47 : decode cX1_seek 47 = .ok (.iadd, 1) := by decide +kernel
theorem dX1_seek_48 : decode cX1_seek 48 = .ok (.invokevirtual 56, 3) := by decide +kernel
theorem dX1_seek_51 : decode cX1_seek 51 = .ok (.return_, 1) := by decide +kernel
theorem dX1_seek_52 : decode cX1_seek 52 = .ok (.bipush (-9), 2) := by decide +kernel
theorem dX1_seek_54 : decode cX1_seek 54 = .ok (.istore 4, 2) := by decide +kernel
theorem dX1_seek_56 : decode cX1_seek 56 = .ok (.iconst 0, 1) := by decide +kernel
theorem dX1_seek_57 : decode cX1_seek 57 = .ok (.istore 5, 2) := by decide +kernel
theorem dX1_seek_59 : decode cX1_seek 59 = .ok (.iload 5, 2) := by decide +kernel
theorem dX1_seek_61 : decode cX1_seek 61 = .ok (.bipush 7, 2) := by decide +kernel
theorem dX1_seek_63 : decode cX1_seek 63 = .ok (.if_icmp .ge 69, 3) := by decide +kernel
theorem dX1_seek_66 : decode cX1_seek 66 = .ok (.aload_n 1, 1) := by decide +kernel
theorem dX1_seek_67 : decode cX1_seek 67 = .ok (.iload_n 3, 1) := by decide +kernel
theorem dX1_seek_68 : decode cX1_seek 68 = .ok (.iload 5, 2) := by decide +kernel
theorem dX1_seek_70 : decode cX1_seek 70 = .ok (.invokevirtual 60, 3) := by decide +kernel
theorem dX1_seek_73 : decode cX1_seek 73 = .ok (.istore 6, 2) := by decide +kernel
theorem dX1_seek_75 : decode cX1_seek 75 = .ok (.iload 6, 2) := by decide +kernel
theorem dX1_seek_77 : decode cX1_seek 77 = .ok (.bipush (-9), 2) := by decide +kernel
theorem dX1_seek_79 : decode cX1_seek 79 = .ok (.if_icmp .eq 47, 3) := by decide +kernel
theorem dX1_seek_82 : decode cX1_seek 82 = .ok (.iload 6, 2) := by decide +kernel
theorem dX1_seek_84 : decode cX1_seek 84 = .ok (.iload 4, 2) := by decide +kernel
theorem dX1_seek_86 : decode cX1_seek 86 = .ok (.if_icmp .eq 40, 3) := by decide +kernel
theorem dX1_seek_89 : decode cX1_seek 89 = .ok (.iload 6, 2) := by decide +kernel
theorem dX1_seek_91 : decode cX1_seek 91 = .ok (.istore 4, 2) := by decide +kernel
theorem dX1_seek_93 : decode cX1_seek 93 = .ok (.aload_n 0, 1) := by decide +kernel
theorem dX1_seek_94 : decode cX1_seek 94 = .ok (.getfield 9, 3) := by decide +kernel
theorem dX1_seek_97 : decode cX1_seek 97 = .ok (.iload_n 3, 1) := by decide +kernel
theorem dX1_seek_98 : decode cX1_seek 98 = .ok (.iload 5, 2) := by decide +kernel
theorem dX1_seek_100 : decode cX1_seek 100 = .ok (.iastore, 1) := by decide +kernel
theorem dX1_seek_101 : decode cX1_seek 101 = .ok (.aload_n 2, 1) := by decide +kernel
theorem dX1_seek_102 : decode cX1_seek 102 = .ok (.iload_n 3, 1) := by decide +kernel
theorem dX1_seek_103 : decode cX1_seek 103 = .ok (.iconst 2, 1) := by decide +kernel
theorem dX1_seek_104 : decode cX1_seek 104 = .ok (.iload_n 3, 1) := by decide +kernel
theorem dX1_seek_105 : decode cX1_seek 105 = .ok (.imul, 1) := by decide +kernel
theorem dX1_seek_106 : decode cX1_seek 106 = .ok (.iload 6, 2) := by decide +kernel
theorem dX1_seek_108 : decode cX1_seek 108 = .ok (.iadd, 1) := by decide +kernel
theorem dX1_seek_109 : decode cX1_seek 109 = .ok (.invokevirtual 64, 3) := by decide +kernel
theorem dX1_seek_112 : decode cX1_seek 112 = .ok (.aload_n 0, 1) := by decide +kernel
theorem dX1_seek_113 : decode cX1_seek 113 = .ok (.aload_n 1, 1) := by decide +kernel
theorem dX1_seek_114 : decode cX1_seek 114 = .ok (.aload_n 2, 1) := by decide +kernel
theorem dX1_seek_115 : decode cX1_seek 115 = .ok (.iload_n 3, 1) := by decide +kernel
theorem dX1_seek_116 : decode cX1_seek 116 = .ok (.iconst 1, 1) := by decide +kernel
theorem dX1_seek_117 : decode cX1_seek 117 = .ok (.iadd, 1) := by decide +kernel
theorem dX1_seek_118 : decode cX1_seek 118 = .ok (.invokevirtual 56, 3) := by decide +kernel
theorem dX1_seek_121 : decode cX1_seek 121 = .ok (.aload_n 2, 1) := by decide +kernel
theorem dX1_seek_122 : decode cX1_seek 122 = .ok (.iload_n 3, 1) := by decide +kernel
theorem dX1_seek_123 : decode cX1_seek 123 = .ok (.invokevirtual 67, 3) := by decide +kernel
theorem dX1_seek_126 : decode cX1_seek 126 = .ok (.iinc 5 1, 3) := by decide +kernel
theorem dX1_seek_129 : decode cX1_seek 129 = .ok (.goto (-70), 3) := by decide +kernel
theorem dX1_seek_132 : decode cX1_seek 132 = .ok (.return_, 1) := by decide +kernel
theorem dX1_take_0 : decode cX1_take 0 = .ok (.aload_n 0, 1) := by decide +kernel
theorem dX1_take_1 : decode cX1_take 1 = .ok (.getfield 18, 3) := by decide +kernel
theorem dX1_take_4 : decode cX1_take 4 = .ok (.bipush (-9), 2) := by decide +kernel
theorem dX1_take_6 : decode cX1_take 6 = .ok (.if_icmp .eq 11, 3) := by decide +kernel
theorem dX1_take_9 : decode cX1_take 9 = .ok (.iload_n 1, 1) := by decide +kernel
theorem dX1_take_10 : decode cX1_take 10 = .ok (.aload_n 0, 1) := by decide +kernel
theorem dX1_take_11 : decode cX1_take 11 = .ok (.getfield 18, 3) := by decide +kernel
theorem dX1_take_14 : decode cX1_take 14 = .ok (.if_icmp .ge 23, 3) := by decide +kernel
theorem dX1_take_17 : decode cX1_take 17 = .ok (.aload_n 0, 1) := by decide +kernel
theorem dX1_take_18 : decode cX1_take 18 = .ok (.iload_n 1, 1) := by decide +kernel
theorem dX1_take_19 : decode cX1_take 19 = .ok (.putfield 18, 3) := by decide +kernel
theorem dX1_take_22 : decode cX1_take 22 = .ok (.aload_n 0, 1) := by decide +kernel
theorem dX1_take_23 : decode cX1_take 23 = .ok (.getfield 9, 3) := by decide +kernel
theorem dX1_take_26 : decode cX1_take 26 = .ok (.iconst 0, 1) := by decide +kernel
theorem dX1_take_27 : decode cX1_take 27 = .ok (.aload_n 0, 1) := by decide +kernel
theorem dX1_take_28 : decode cX1_take 28 = .ok (.getfield 15, 3) := by decide +kernel
theorem dX1_take_31 : decode cX1_take 31 = .ok (.iconst 0, 1) := by decide +kernel
theorem dX1_take_32 : decode cX1_take 32 = .ok (.bipush 6, 2) := by decide +kernel
theorem dX1_take_34 : decode cX1_take 34 = .ok (.invokestatic 70, 3) := by decide +kernel
theorem dX1_take_37 : decode cX1_take 37 = .ok (.return_, 1) := by decide +kernel
theorem dX2_init_0 : decode cX2_init 0 = .ok (.aload_n 0, 1) := by decide +kernel
theorem dX2_init_1 : decode cX2_init 1 = .ok (.invokespecial 3, 3) := by decide +kernel
theorem dX2_init_4 : decode cX2_init 4 = .ok (.aload_n 0, 1) := by decide +kernel
theorem dX2_init_5 : decode cX2_init 5 = .ok (.bipush 21, 2) := by decide +kernel
theorem dX2_init_7 : decode cX2_init 7 = .ok (.newarray .long, 2) := by decide +kernel
theorem dX2_init_9 : decode cX2_init 9 = .ok (.putfield 9, 3) := by decide +kernel
theorem dX2_init_12 : decode cX2_init 12 = .ok (.aload_n 0, 1) := by decide +kernel
theorem dX2_init_13 : decode cX2_init 13 = .ok (.bipush 21, 2) := by decide +kernel
theorem dX2_init_15 : decode cX2_init 15 = .ok (.newarray .long, 2) := by decide +kernel
theorem dX2_init_17 : decode cX2_init 17 = .ok (.putfield 15, 3) := by decide +kernel
theorem dX2_init_20 : decode cX2_init 20 = .ok (.return_, 1) := by decide +kernel
theorem dX2_begin_0 : decode cX2_begin 0 = .ok (.aload_n 0, 1) := by decide +kernel
theorem dX2_begin_1 : decode cX2_begin 1 = .ok (.getfield 9, 3) := by decide +kernel
theorem dX2_begin_4 : decode cX2_begin 4 = .ok (.lconst 0, 1) := by decide +kernel
theorem dX2_begin_5 : decode cX2_begin 5 = .ok (.invokestatic 18, 3) := by decide +kernel
theorem dX2_begin_8 : decode cX2_begin 8 = .ok (.aload_n 0, 1) := by decide +kernel
theorem dX2_begin_9 : decode cX2_begin 9 = .ok (.getfield 15, 3) := by decide +kernel
theorem dX2_begin_12 : decode cX2_begin 12 = .ok (.lconst 0, 1) := by decide +kernel
theorem dX2_begin_13 : decode cX2_begin 13 = .ok (.invokestatic 18, 3) := by decide +kernel
theorem dX2_begin_16 : decode cX2_begin 16 = .ok (.iload_n 1, 1) := by decide +kernel
theorem dX2_begin_17 : decode cX2_begin 17 = .ok (.ifCond .lt 16, 3) := by decide +kernel
theorem dX2_begin_20 : decode cX2_begin 20 = .ok (.iload_n 1, 1) := by decide +kernel
theorem dX2_begin_21 : decode cX2_begin 21 = .ok (.bipush 21, 2) := by decide +kernel
theorem dX2_begin_23 : decode cX2_begin 23 = .ok (.if_icmp .ge 10, 3) := by decide +kernel
theorem dX2_begin_26 : decode cX2_begin 26 = .ok (.aload_n 0, 1) := by decide +kernel
theorem dX2_begin_27 : decode cX2_begin 27 = .ok (.getfield 9, 3) := by decide +kernel
theorem dX2_begin_30 : decode cX2_begin 30 = .ok (.iload_n 1, 1) := by decide +kernel
theorem dX2_begin_31 : decode cX2_begin 31 = .ok (.lconst 1, 1) := by decide +kernel
theorem dX2_begin_32 : decode cX2_begin 32 = .ok (.lastore, 1) := by decide +kernel
theorem dX2_begin_33 : decode cX2_begin 33 = .ok (.return_, 1) := by decide +kernel
theorem dX2_spread_0 : decode cX2_spread 0 = .ok (.iconst 0, 1) := by decide +kernel
theorem dX2_spread_1 : decode cX2_spread 1 = .ok (.istore 5, 2) := by decide +kernel
theorem dX2_spread_3 : decode cX2_spread 3 = .ok (.iload 5, 2) := by decide +kernel
theorem dX2_spread_5 : decode cX2_spread 5 = .ok (.bipush 21, 2) := by decide +kernel
theorem dX2_spread_7 : decode cX2_spread 7 = .ok (.if_icmp .ge 43, 3) := by decide +kernel
theorem dX2_spread_10 : decode cX2_spread 10 = .ok (.iload_n 1, 1) := by decide +kernel
theorem dX2_spread_11 : decode cX2_spread 11 = .ok (.iload 5, 2) := by decide +kernel
theorem dX2_spread_13 : decode cX2_spread 13 = .ok (.iload_n 2, 1) := by decide +kernel
theorem dX2_spread_14 : decode cX2_spread 14 = .ok (.invokestatic 24, 3) := by decide +kernel
theorem dX2_spread_17 : decode cX2_spread 17 = .ok (.istore 6, 2) := by decide +kernel
theorem dX2_spread_19 : decode cX2_spread 19 = .ok (.iload 6, 2) := by decide +kernel
theorem dX2_spread_21 : decode cX2_spread 21 = .ok (.iconst (-1), 1) := by decide +kernel
theorem dX2_spread_22 : decode cX2_spread 22 = .ok (.if_icmp .eq 22, 3) := by decide +kernel
theorem dX2_spread_25 : decode cX2_spread 25 = .ok (.aload_n 0, 1) := by decide +kernel
theorem dX2_spread_26 : decode cX2_spread 26 = .ok (.getfield 15, 3) := by decide +kernel
theorem dX2_spread_29 : decode cX2_spread 29 = .ok (.iload 6, 2) := by decide +kernel
theorem dX2_spread_31 : decode cX2_spread 31 = .ok (.dup2, 1) := by decide +kernel
theorem dX2_spread_32 : decode cX2_spread 32 = .ok (.laload, 1) := by decide +kernel
theorem dX2_spread_33 : decode cX2_spread 33 = .ok (.aload_n 0, 1) := by decide +kernel
theorem dX2_spread_34 : decode cX2_spread 34 = .ok (.getfield 9, 3) := by decide +kernel
theorem dX2_spread_37 : decode cX2_spread 37 = .ok (.iload 5, 2) := by decide +kernel
theorem dX2_spread_39 : decode cX2_spread 39 = .ok (.laload, 1) := by decide +kernel
theorem dX2_spread_40 : decode cX2_spread 40 = .ok (.lload_n 3, 1) := by decide +kernel
theorem dX2_spread_41 : decode cX2_spread 41 = .ok (.lmul, 1) := by decide +kernel
theorem dX2_spread_42 : decode cX2_spread 42 = .ok (.ladd, 1) := by decide +kernel
theorem dX2_spread_43 : decode cX2_spread 43 = .ok (.lastore, 1) := by decide +kernel
theorem dX2_spread_44 : decode cX2_spread 44 = .ok (.iinc 5 1, 3) := by decide +kernel
theorem dX2_spread_47 : decode cX2_spread 47 = .ok (.goto (-44), 3) := by decide +kernel
theorem dX2_spread_50 : decode cX2_spread 50 = .ok (.return_, 1) := by decide +kernel
theorem dX2_turn_0 : decode cX2_turn 0 = .ok (.aload_n 0, 1) := by decide +kernel
theorem dX2_turn_1 : decode cX2_turn 1 = .ok (.getfield 15, 3) := by decide +kernel
theorem dX2_turn_4 : decode cX2_turn 4 = .ok (.iconst 0, 1) := by decide +kernel
theorem dX2_turn_5 : decode cX2_turn 5 = .ok (.aload_n 0, 1) := by decide +kernel
theorem dX2_turn_6 : decode cX2_turn 6 = .ok (.getfield 9, 3) := by decide +kernel
theorem dX2_turn_9 : decode cX2_turn 9 = .ok (.iconst 0, 1) := by decide +kernel
theorem dX2_turn_10 : decode cX2_turn 10 = .ok (.bipush 21, 2) := by decide +kernel
theorem dX2_turn_12 : decode cX2_turn 12 = .ok (.invokestatic 28, 3) := by decide +kernel
theorem dX2_turn_15 : decode cX2_turn 15 = .ok (.aload_n 0, 1) := by decide +kernel
theorem dX2_turn_16 : decode cX2_turn 16 = .ok (.getfield 15, 3) := by decide +kernel
theorem dX2_turn_19 : decode cX2_turn 19 = .ok (.lconst 0, 1) := by decide +kernel
theorem dX2_turn_20 : decode cX2_turn 20 = .ok (.invokestatic 18, 3) := by decide +kernel
theorem dX2_turn_23 : decode cX2_turn 23 = .ok (.return_, 1) := by decide +kernel
theorem dX3_init_0 : decode cX3_init 0 = .ok (.aload_n 0, 1) := by decide +kernel
theorem dX3_init_1 : decode cX3_init 1 = .ok (.invokespecial 3, 3) := by decide +kernel
theorem dX3_init_4 : decode cX3_init 4 = .ok (.aload_n 0, 1) := by decide +kernel
theorem dX3_init_5 : decode cX3_init 5 = .ok (.bipush 6, 2) := by decide +kernel
theorem dX3_init_7 : decode cX3_init 7 = .ok (.newarray .int, 2) := by decide +kernel
theorem dX3_init_9 : decode cX3_init 9 = .ok (.putfield 9, 3) := by decide +kernel
theorem dX3_init_12 : decode cX3_init 12 = .ok (.aload_n 0, 1) := by decide +kernel
theorem dX3_init_13 : decode cX3_init 13 = .ok (.bipush 6, 2) := by decide +kernel
theorem dX3_init_15 : decode cX3_init 15 = .ok (.newarray .int, 2) := by decide +kernel
theorem dX3_init_17 : decode cX3_init 17 = .ok (.putfield 15, 3) := by decide +kernel
theorem dX3_init_20 : decode cX3_init 20 = .ok (.return_, 1) := by decide +kernel
theorem dX3_clear_0 : decode cX3_clear 0 = .ok (.aload_n 0, 1) := by decide +kernel
theorem dX3_clear_1 : decode cX3_clear 1 = .ok (.iconst 0, 1) := by decide +kernel
theorem dX3_clear_2 : decode cX3_clear 2 = .ok (.putfield 18, 3) := by decide +kernel
theorem dX3_clear_5 : decode cX3_clear 5 = .ok (.return_, 1) := by decide +kernel
theorem dX3_enter_0 : decode cX3_enter 0 = .ok (.aload_n 0, 1) := by decide +kernel
theorem dX3_enter_1 : decode cX3_enter 1 = .ok (.getfield 18, 3) := by decide +kernel
theorem dX3_enter_4 : decode cX3_enter 4 = .ok (.bipush 6, 2) := by decide +kernel
theorem dX3_enter_6 : decode cX3_enter 6 = .ok (.if_icmp .lt 4, 3) := by decide +kernel
theorem dX3_enter_9 : decode cX3_enter 9 = .ok (.return_, 1) := by decide +kernel
theorem dX3_enter_10 : decode cX3_enter 10 = .ok (.aload_n 0, 1) := by decide +kernel
theorem dX3_enter_11 : decode cX3_enter 11 = .ok (.getfield 18, 3) := by decide +kernel
theorem dX3_enter_14 : decode cX3_enter 14 = .ok (.istore_n 3, 1) := by decide +kernel
theorem dX3_enter_15 : decode cX3_enter 15 = .ok (.iload_n 3, 1) := by decide +kernel
theorem dX3_enter_16 : decode cX3_enter 16 = .ok (.ifCond .le 49, 3) := by decide +kernel
theorem dX3_enter_19 : decode cX3_enter 19 = .ok (.aload_n 0, 1) := by decide +kernel
theorem dX3_enter_20 : decode cX3_enter 20 = .ok (.iload_n 3, 1) := by decide +kernel
theorem dX3_enter_21 : decode cX3_enter 21 = .ok (.iconst 1, 1) := by decide +kernel
theorem dX3_enter_22 : decode cX3_enter 22 = .ok (.isub, 1) := by decide +kernel
theorem dX3_enter_23 : decode cX3_enter 23 = .ok (.iload_n 1, 1) := by decide +kernel
theorem dX3_enter_24 : decode cX3_enter 24 = .ok (.iload_n 2, 1) := by decide +kernel
theorem dX3_enter_25 : decode cX3_enter 25 = .ok (.invokevirtual 22, 3) := by decide +kernel
theorem dX3_enter_28 : decode cX3_enter 28 = .ok (.ifCond .eq 37, 3) := by decide +kernel
theorem dX3_enter_31 : decode cX3_enter 31 = .ok (.aload_n 0, 1) := by decide +kernel
theorem dX3_enter_32 : decode cX3_enter 32 = .ok (.getfield 9, 3) := by decide +kernel
theorem dX3_enter_35 : decode cX3_enter 35 = .ok (.iload_n 3, 1) := by decide +kernel
theorem dX3_enter_36 : decode cX3_enter 36 = .ok (.aload_n 0, 1) := by decide +kernel
theorem dX3_enter_37 : decode cX3_enter 37 = .ok (.getfield 9, 3) := by decide +kernel
theorem dX3_enter_40 : decode cX3_enter 40 = .ok (.iload_n 3, 1) := by decide +kernel
theorem dX3_enter_41 : decode cX3_enter 41 = .ok (.iconst 1, 1) := by decide +kernel
theorem dX3_enter_42 : decode cX3_enter 42 = .ok (.isub, 1) := by decide +kernel
theorem dX3_enter_43 : decode cX3_enter 43 = .ok (.iaload, 1) := by decide +kernel
theorem dX3_enter_44 : decode cX3_enter 44 = .ok (.iastore, 1) := by decide +kernel
theorem dX3_enter_45 : decode cX3_enter 45 = .ok (.aload_n 0, 1) := by decide +kernel
theorem dX3_enter_46 : decode cX3_enter 46 = .ok (.getfield 15, 3) := by decide +kernel
theorem dX3_enter_49 : decode cX3_enter 49 = .ok (.iload_n 3, 1) := by decide +kernel
theorem dX3_enter_50 : decode cX3_enter 50 = .ok (.aload_n 0, 1) := by decide +kernel
theorem dX3_enter_51 : decode cX3_enter 51 = .ok (.getfield 15, 3) := by decide +kernel
theorem dX3_enter_54 : decode cX3_enter 54 = .ok (.iload_n 3, 1) := by decide +kernel
theorem dX3_enter_55 : decode cX3_enter 55 = .ok (.iconst 1, 1) := by decide +kernel
theorem dX3_enter_56 : decode cX3_enter 56 = .ok (.isub, 1) := by decide +kernel
theorem dX3_enter_57 : decode cX3_enter 57 = .ok (.iaload, 1) := by decide +kernel
theorem dX3_enter_58 : decode cX3_enter 58 = .ok (.iastore, 1) := by decide +kernel
theorem dX3_enter_59 : decode cX3_enter 59 = .ok (.iinc 3 (-1), 3) := by decide +kernel
theorem dX3_enter_62 : decode cX3_enter 62 = .ok (.goto (-47), 3) := by decide +kernel
theorem dX3_enter_65 : decode cX3_enter 65 = .ok (.aload_n 0, 1) := by decide +kernel
theorem dX3_enter_66 : decode cX3_enter 66 = .ok (.getfield 9, 3) := by decide +kernel
theorem dX3_enter_69 : decode cX3_enter 69 = .ok (.iload_n 3, 1) := by decide +kernel
theorem dX3_enter_70 : decode cX3_enter 70 = .ok (.iload_n 1, 1) := by decide +kernel
theorem dX3_enter_71 : decode cX3_enter 71 = .ok (.iastore, 1) := by decide +kernel
theorem dX3_enter_72 : decode cX3_enter 72 = .ok (.aload_n 0, 1) := by decide +kernel
theorem dX3_enter_73 : decode cX3_enter 73 = .ok (.getfield 15, 3) := by decide +kernel
theorem dX3_enter_76 : decode cX3_enter 76 = .ok (.iload_n 3, 1) := by decide +kernel
theorem dX3_enter_77 : decode cX3_enter 77 = .ok (.iload_n 2, 1) := by decide +kernel
theorem dX3_enter_78 : decode cX3_enter 78 = .ok (.iastore, 1) := by decide +kernel
theorem dX3_enter_79 : decode cX3_enter 79 = .ok (.aload_n 0, 1) := by decide +kernel
theorem dX3_enter_80 : decode cX3_enter 80 = .ok (.dup, 1) := by decide +kernel
theorem dX3_enter_81 : decode cX3_enter 81 = .ok (.getfield 18, 3) := by decide +kernel
theorem dX3_enter_84 : decode cX3_enter 84 = .ok (.iconst 1, 1) := by decide +kernel
theorem dX3_enter_85 : decode cX3_enter 85 = .ok (.iadd, 1) := by decide +kernel
theorem dX3_enter_86 : decode cX3_enter 86 = .ok (.putfield 18, 3) := by decide +kernel
theorem dX3_enter_89 : decode cX3_enter 89 = .ok (.return_, 1) := by decide +kernel
theorem dX3_isBehind_0 : decode cX3_isBehind 0 = .ok (.aload_n 0, 1) := by decide +kernel
theorem dX3_isBehind_1 : decode cX3_isBehind 1 = .ok (.getfield 15, 3) := by decide +kernel
theorem dX3_isBehind_4 : decode cX3_isBehind 4 = .ok (.iload_n 1, 1) := by decide +kernel
theorem dX3_isBehind_5 : decode cX3_isBehind 5 = .ok (.iaload, 1) := by decide +kernel
theorem dX3_isBehind_6 : decode cX3_isBehind 6 = .ok (.iload_n 3, 1) := by decide +kernel
theorem dX3_isBehind_7 : decode cX3_isBehind 7 = .ok (.if_icmp .gt 23, 3) := by decide +kernel
theorem dX3_isBehind_10 : decode cX3_isBehind 10 = .ok (.aload_n 0, 1) := by decide +kernel
theorem dX3_isBehind_11 : decode cX3_isBehind 11 = .ok (.getfield 15, 3) := by decide +kernel
theorem dX3_isBehind_14 : decode cX3_isBehind 14 = .ok (.iload_n 1, 1) := by decide +kernel
theorem dX3_isBehind_15 : decode cX3_isBehind 15 = .ok (.iaload, 1) := by decide +kernel
theorem dX3_isBehind_16 : decode cX3_isBehind 16 = .ok (.iload_n 3, 1) := by decide +kernel
theorem dX3_isBehind_17 : decode cX3_isBehind 17 = .ok (.if_icmp .ne 17, 3) := by decide +kernel
theorem dX3_isBehind_20 : decode cX3_isBehind 20 = .ok (.aload_n 0, 1) := by decide +kernel
theorem dX3_isBehind_21 : decode cX3_isBehind 21 = .ok (.getfield 9, 3) := by decide +kernel
theorem dX3_isBehind_24 : decode cX3_isBehind 24 = .ok (.iload_n 1, 1) := by decide +kernel
theorem dX3_isBehind_25 : decode cX3_isBehind 25 = .ok (.iaload, 1) := by decide +kernel
theorem dX3_isBehind_26 : decode cX3_isBehind 26 = .ok (.iload_n 2, 1) := by decide +kernel
theorem dX3_isBehind_27 : decode cX3_isBehind 27 = .ok (.if_icmp .le 7, 3) := by decide +kernel
theorem dX3_isBehind_30 : decode cX3_isBehind 30 = .ok (.iconst 1, 1) := by decide +kernel
theorem dX3_isBehind_31 : decode cX3_isBehind 31 = .ok (.goto 4, 3) := by decide +kernel
theorem dX3_isBehind_34 : decode cX3_isBehind 34 = .ok (.iconst 0, 1) := by decide +kernel
theorem dX3_isBehind_35 : decode cX3_isBehind 35 = .ok (.ireturn, 1) := by decide +kernel
theorem dX3_leave_0 : decode cX3_leave 0 = .ok (.iconst 0, 1) := by decide +kernel
theorem dX3_leave_1 : decode cX3_leave 1 = .ok (.istore_n 2, 1) := by decide +kernel
theorem dX3_leave_2 : decode cX3_leave 2 = .ok (.iconst 0, 1) := by decide +kernel
theorem dX3_leave_3 : decode cX3_leave 3 = .ok (.istore_n 3, 1) := by decide +kernel
theorem dX3_leave_4 : decode cX3_leave 4 = .ok (.iload_n 3, 1) := by decide +kernel
theorem dX3_leave_5 : decode cX3_leave 5 = .ok (.aload_n 0, 1) := by decide +kernel
theorem dX3_leave_6 : decode cX3_leave 6 = .ok (.getfield 18, 3) := by decide +kernel
theorem dX3_leave_9 : decode cX3_leave 9 = .ok (.if_icmp .ge 46, 3) := by decide +kernel
theorem dX3_leave_12 : decode cX3_leave 12 = .ok (.aload_n 0, 1) := by decide +kernel
theorem dX3_leave_13 : decode cX3_leave 13 = .ok (.getfield 9, 3) := by decide +kernel
theorem dX3_leave_16 : decode cX3_leave 16 = .ok (.iload_n 3, 1) := by decide +kernel
theorem dX3_leave_17 : decode cX3_leave 17 = .ok (.iaload, 1) := by decide +kernel
theorem dX3_leave_18 : decode cX3_leave 18 = .ok (.iload_n 1, 1) := by decide +kernel
theorem dX3_leave_19 : decode cX3_leave 19 = .ok (.if_icmp .eq 30, 3) := by decide +kernel
theorem dX3_leave_22 : decode cX3_leave 22 = .ok (.aload_n 0, 1) := by decide +kernel
theorem dX3_leave_23 : decode cX3_leave 23 = .ok (.getfield 9, 3) := by decide +kernel
theorem dX3_leave_26 : decode cX3_leave 26 = .ok (.iload_n 2, 1) := by decide +kernel
theorem dX3_leave_27 : decode cX3_leave 27 = .ok (.aload_n 0, 1) := by decide +kernel
theorem dX3_leave_28 : decode cX3_leave 28 = .ok (.getfield 9, 3) := by decide +kernel
theorem dX3_leave_31 : decode cX3_leave 31 = .ok (.iload_n 3, 1) := by decide +kernel
theorem dX3_leave_32 : decode cX3_leave 32 = .ok (.iaload, 1) := by decide +kernel
theorem dX3_leave_33 : decode cX3_leave 33 = .ok (.iastore, 1) := by decide +kernel
theorem dX3_leave_34 : decode cX3_leave 34 = .ok (.aload_n 0, 1) := by decide +kernel
theorem dX3_leave_35 : decode cX3_leave 35 = .ok (.getfield 15, 3) := by decide +kernel
theorem dX3_leave_38 : decode cX3_leave 38 = .ok (.iload_n 2, 1) := by decide +kernel
theorem dX3_leave_39 : decode cX3_leave 39 = .ok (.aload_n 0, 1) := by decide +kernel
theorem dX3_leave_40 : decode cX3_leave 40 = .ok (.getfield 15, 3) := by decide +kernel
theorem dX3_leave_43 : decode cX3_leave 43 = .ok (.iload_n 3, 1) := by decide +kernel
theorem dX3_leave_44 : decode cX3_leave 44 = .ok (.iaload, 1) := by decide +kernel
theorem dX3_leave_45 : decode cX3_leave 45 = .ok (.iastore, 1) := by decide +kernel
theorem dX3_leave_46 : decode cX3_leave 46 = .ok (.iinc 2 1, 3) := by decide +kernel
theorem dX3_leave_49 : decode cX3_leave 49 = .ok (.iinc 3 1, 3) := by decide +kernel
theorem dX3_leave_52 : decode cX3_leave 52 = .ok (.goto (-48), 3) := by decide +kernel
theorem dX3_leave_55 : decode cX3_leave 55 = .ok (.aload_n 0, 1) := by decide +kernel
theorem dX3_leave_56 : decode cX3_leave 56 = .ok (.iload_n 2, 1) := by decide +kernel
theorem dX3_leave_57 : decode cX3_leave 57 = .ok (.putfield 18, 3) := by decide +kernel
theorem dX3_leave_60 : decode cX3_leave 60 = .ok (.return_, 1) := by decide +kernel
theorem dX3_bits_0 : decode cX3_bits 0 = .ok (.iconst 0, 1) := by decide +kernel
theorem dX3_bits_1 : decode cX3_bits 1 = .ok (.istore_n 1, 1) := by decide +kernel
theorem dX3_bits_2 : decode cX3_bits 2 = .ok (.iconst 0, 1) := by decide +kernel
theorem dX3_bits_3 : decode cX3_bits 3 = .ok (.istore_n 2, 1) := by decide +kernel
theorem dX3_bits_4 : decode cX3_bits 4 = .ok (.iload_n 2, 1) := by decide +kernel
theorem dX3_bits_5 : decode cX3_bits 5 = .ok (.aload_n 0, 1) := by decide +kernel
theorem dX3_bits_6 : decode cX3_bits 6 = .ok (.getfield 18, 3) := by decide +kernel
theorem dX3_bits_9 : decode cX3_bits 9 = .ok (.if_icmp .ge 20, 3) := by decide +kernel
theorem dX3_bits_12 : decode cX3_bits 12 = .ok (.iload_n 1, 1) := by decide +kernel
theorem dX3_bits_13 : decode cX3_bits 13 = .ok (.iconst 1, 1) := by decide +kernel
theorem dX3_bits_14 : decode cX3_bits 14 = .ok (.aload_n 0, 1) := by decide +kernel
theorem dX3_bits_15 : decode cX3_bits 15 = .ok (.getfield 9, 3) := by decide +kernel
theorem dX3_bits_18 : decode cX3_bits 18 = .ok (.iload_n 2, 1) := by decide +kernel
theorem dX3_bits_19 : decode cX3_bits 19 = .ok (.iaload, 1) := by decide +kernel
theorem dX3_bits_20 : decode cX3_bits 20 = .ok (.ishl, 1) := by decide +kernel
theorem dX3_bits_21 : decode cX3_bits 21 = .ok (.ior, 1) := by decide +kernel
theorem dX3_bits_22 : decode cX3_bits 22 = .ok (.istore_n 1, 1) := by decide +kernel
theorem dX3_bits_23 : decode cX3_bits 23 = .ok (.iinc 2 1, 3) := by decide +kernel
theorem dX3_bits_26 : decode cX3_bits 26 = .ok (.goto (-22), 3) := by decide +kernel
theorem dX3_bits_29 : decode cX3_bits 29 = .ok (.iload_n 1, 1) := by decide +kernel
theorem dX3_bits_30 : decode cX3_bits 30 = .ok (.ireturn, 1) := by decide +kernel
theorem dX3_unevenness_0 : decode cX3_unevenness 0 = .ok (.iconst 0, 1) := by decide +kernel
theorem dX3_unevenness_1 : decode cX3_unevenness 1 = .ok (.istore_n 1, 1) := by decide +kernel
theorem dX3_unevenness_2 : decode cX3_unevenness 2 = .ok (.iconst 1, 1) := by decide +kernel
theorem dX3_unevenness_3 : decode cX3_unevenness 3 = .ok (.istore_n 2, 1) := by decide +kernel
theorem dX3_unevenness_4 : decode cX3_unevenness 4 = .ok (.iload_n 2, 1) := by decide +kernel
theorem dX3_unevenness_5 : decode cX3_unevenness 5 = .ok (.aload_n 0, 1) := by decide +kernel
theorem dX3_unevenness_6 : decode cX3_unevenness 6 = .ok (.getfield 18, 3) := by decide +kernel
theorem dX3_unevenness_9 : decode cX3_unevenness 9 = .ok (.if_icmp .ge 32, 3) := by decide +kernel
theorem dX3_unevenness_12 : decode cX3_unevenness 12 = .ok (.iload_n 1, 1) := by decide +kernel
theorem dX3_unevenness_13 : decode cX3_unevenness 13 = .ok (.aload_n 0, 1) := by decide +kernel
theorem dX3_unevenness_14 : decode cX3_unevenness 14 = .ok (.getfield 15, 3) := by decide +kernel
theorem dX3_unevenness_17 : decode cX3_unevenness 17 = .ok (.iload_n 2, 1) := by decide +kernel
theorem dX3_unevenness_18 : decode cX3_unevenness 18 = .ok (.iaload, 1) := by decide +kernel
theorem dX3_unevenness_19 : decode cX3_unevenness 19 = .ok (.aload_n 0, 1) := by decide +kernel
theorem dX3_unevenness_20 : decode cX3_unevenness 20 = .ok (.getfield 15, 3) := by decide +kernel
theorem dX3_unevenness_23 : decode cX3_unevenness 23 = .ok (.iload_n 2, 1) := by decide +kernel
theorem dX3_unevenness_24 : decode cX3_unevenness 24 = .ok (.iconst 1, 1) := by decide +kernel
theorem dX3_unevenness_25 : decode cX3_unevenness 25 = .ok (.isub, 1) := by decide +kernel
theorem dX3_unevenness_26 : decode cX3_unevenness 26 = .ok (.iaload, 1) := by decide +kernel
theorem dX3_unevenness_27 : decode cX3_unevenness 27 = .ok (.isub, 1) := by decide +kernel
theorem dX3_unevenness_28 : decode cX3_unevenness 28 = .ok (.iconst 2, 1) := by decide +kernel
theorem dX3_unevenness_29 : decode cX3_unevenness 29 = .ok (.isub, 1) := by decide +kernel
theorem dX3_unevenness_30 : decode cX3_unevenness 30 = .ok (.invokestatic 26, 3) := by decide +kernel
theorem dX3_unevenness_33 : decode cX3_unevenness 33 = .ok (.iadd, 1) := by decide +kernel
theorem dX3_unevenness_34 : decode cX3_unevenness 34 = .ok (.istore_n 1, 1) := by decide +kernel
theorem dX3_unevenness_35 : decode cX3_unevenness 35 = .ok (.iinc 2 1, 3) := by decide +kernel
theorem dX3_unevenness_38 : decode cX3_unevenness 38 = .ok (.goto (-34), 3) := by decide +kernel
theorem dX3_unevenness_41 : decode cX3_unevenness 41 = .ok (.iload_n 1, 1) := by decide +kernel
theorem dX3_unevenness_42 : decode cX3_unevenness 42 = .ok (.ireturn, 1) := by decide +kernel
theorem dX4_init_0 : decode cX4_init 0 = .ok (.aload_n 0, 1) := by decide +kernel
theorem dX4_init_1 : decode cX4_init 1 = .ok (.invokespecial 3, 3) := by decide +kernel
theorem dX4_init_4 : decode cX4_init 4 = .ok (.aload_n 0, 1) := by decide +kernel
theorem dX4_init_5 : decode cX4_init 5 = .ok (.bipush 21, 2) := by decide +kernel
theorem dX4_init_7 : decode cX4_init 7 = .ok (.newarray .int, 2) := by decide +kernel
theorem dX4_init_9 : decode cX4_init 9 = .ok (.putfield 9, 3) := by decide +kernel
theorem dX4_init_12 : decode cX4_init 12 = .ok (.aload_n 0, 1) := by decide +kernel
theorem dX4_init_13 : decode cX4_init 13 = .ok (.sipush 273, 3) := by decide +kernel
theorem dX4_init_16 : decode cX4_init 16 = .ok (.newarray .int, 2) := by decide +kernel
theorem dX4_init_18 : decode cX4_init 18 = .ok (.putfield 15, 3) := by decide +kernel
theorem dX4_init_21 : decode cX4_init 21 = .ok (.return_, 1) := by decide +kernel
theorem dX4_measure_0 : decode cX4_measure 0 = .ok (.iconst 0, 1) := by decide +kernel
theorem dX4_measure_1 : decode cX4_measure 1 = .ok (.istore_n 3, 1) := by decide +kernel
theorem dX4_measure_2 : decode cX4_measure 2 = .ok (.iload_n 3, 1) := by decide +kernel
theorem dX4_measure_3 : decode cX4_measure 3 = .ok (.bipush 21, 2) := by decide +kernel
theorem dX4_measure_5 : decode cX4_measure 5 = .ok (.if_icmp .ge 26, 3) := by decide +kernel
theorem dX4_measure_8 : decode cX4_measure 8 = .ok (.aload_n 0, 1) := by decide +kernel
theorem dX4_measure_9 : decode cX4_measure 9 = .ok (.getfield 9, 3) := by decide +kernel
theorem dX4_measure_12 : decode cX4_measure 12 = .ok (.iload_n 3, 1) := by decide +kernel
theorem dX4_measure_13 : decode cX4_measure 13 = .ok (.iload_n 3, 1) := by decide +kernel
theorem dX4_measure_14 : decode cX4_measure 14 = .ok (.iload_n 2, 1) := by decide +kernel
theorem dX4_measure_15 : decode cX4_measure 15 = .ok (.if_icmp .lt 7, 3) := by decide +kernel
theorem dX4_measure_18 : decode cX4_measure 18 = .ok (.iconst 0, 1) := by decide +kernel
theorem dX4_measure_19 : decode cX4_measure 19 = .ok (.goto 5, 3) := by decide +kernel
theorem dX4_measure_22 : decode cX4_measure 22 = .ok (.bipush (-9), 2) := by decide +kernel
theorem dX4_measure_24 : decode cX4_measure 24 = .ok (.iastore, 1) := by decide +kernel
theorem dX4_measure_25 : decode cX4_measure 25 = .ok (.iinc 3 1, 3) := by decide +kernel
theorem dX4_measure_28 : decode cX4_measure 28 = .ok (.goto (-26), 3) := by decide +kernel
theorem dX4_measure_31 : decode cX4_measure 31 = .ok (.iconst 1, 1) := by decide +kernel
theorem dX4_measure_32 : decode cX4_measure 32 = .ok (.istore_n 3, 1) := by decide +kernel
theorem dX4_measure_33 : decode cX4_measure 33 = .ok (.iload_n 3, 1) := by decide +kernel
theorem dX4_measure_34 : decode cX4_measure 34 = .ok (.bipush 30, 2) := by decide +kernel
theorem dX4_measure_36 : decode cX4_measure 36 = .ok (.if_icmp .gt 60, 3) := by decide +kernel
theorem dX4_measure_39 : decode cX4_measure 39 = .ok (.iconst 0, 1) := by decide +kernel
theorem dX4_measure_40 : decode cX4_measure 40 = .ok (.istore 4, 2) := by decide +kernel
theorem dX4_measure_42 : decode cX4_measure 42 = .ok (.iload 4, 2) := by decide +kernel
theorem dX4_measure_44 : decode cX4_measure 44 = .ok (.bipush 21, 2) := by decide +kernel
theorem dX4_measure_46 : decode cX4_measure 46 = .ok (.if_icmp .ge 44, 3) := by decide +kernel
theorem dX4_measure_49 : decode cX4_measure 49 = .ok (.aload_n 0, 1) := by decide +kernel
theorem dX4_measure_50 : decode cX4_measure 50 = .ok (.getfield 9, 3) := by decide +kernel
theorem dX4_measure_53 : decode cX4_measure 53 = .ok (.iload 4, 2) := by decide +kernel
theorem dX4_measure_55 : decode cX4_measure 55 = .ok (.iaload, 1) := by decide +kernel
theorem dX4_measure_56 : decode cX4_measure 56 = .ok (.bipush (-9), 2) := by decide +kernel
theorem dX4_measure_58 : decode cX4_measure 58 = .ok (.if_icmp .ne 26, 3) := by decide +kernel
theorem dX4_measure_61 : decode cX4_measure 61 = .ok (.aload_n 0, 1) := by decide +kernel
theorem dX4_measure_62 : decode cX4_measure 62 = .ok (.iload_n 1, 1) := by decide +kernel
theorem dX4_measure_63 : decode cX4_measure 63 = .ok (.iload 4, 2) := by decide +kernel
theorem dX4_measure_65 : decode cX4_measure 65 = .ok (.iload_n 3, 1) := by decide +kernel
theorem dX4_measure_66 : decode cX4_measure 66 = .ok (.iconst 1, 1) := by decide +kernel
theorem dX4_measure_67 : decode cX4_measure 67 = .ok (.isub, 1) := by decide +kernel
theorem dX4_measure_68 : decode cX4_measure 68 = .ok (.invokevirtual 18, 3) := by decide +kernel
theorem dX4_measure_71 : decode cX4_measure 71 = .ok (.bipush (-9), 2) := by decide +kernel
theorem dX4_measure_73 : decode cX4_measure 73 = .ok (.if_icmp .eq 11, 3) := by decide +kernel
theorem dX4_measure_76 : decode cX4_measure 76 = .ok (.aload_n 0, 1) := by decide +kernel
theorem dX4_measure_77 : decode cX4_measure 77 = .ok (.getfield 9, 3) := by decide +kernel
theorem dX4_measure_80 : decode cX4_measure 80 = .ok (.iload 4, 2) := by decide +kernel
theorem dX4_measure_82 : decode cX4_measure 82 = .ok (.iload_n 3, 1) := by decide +kernel
theorem dX4_measure_83 : decode cX4_measure 83 = .ok (.iastore, 1) := by decide +kernel
theorem dX4_measure_84 : decode cX4_measure 84 = .ok (.iinc 4 1, 3) := by decide +kernel
theorem dX4_measure_87 : decode cX4_measure 87 = .ok (.goto (-45), 3) := by decide +kernel
theorem dX4_measure_90 : decode cX4_measure 90 = .ok (.iinc 3 1, 3) := by decide +kernel
theorem dX4_measure_93 : decode cX4_measure 93 = .ok (.goto (-60), 3) := by decide +kernel
theorem dX4_measure_96 : decode cX4_measure 96 = .ok (.return_, 1) := by decide +kernel
theorem dX4_strokesFrom_0 : decode cX4_strokesFrom 0 = .ok (.iload_n 1, 1) := by decide +kernel
theorem dX4_strokesFrom_1 : decode cX4_strokesFrom 1 = .ok (.ifCond .lt 18, 3) := by decide +kernel
theorem dX4_strokesFrom_4 : decode cX4_strokesFrom 4 = .ok (.iload_n 1, 1) := by decide +kernel
theorem dX4_strokesFrom_5 : decode cX4_strokesFrom 5 = .ok (.bipush 21, 2) := by decide +kernel
theorem dX4_strokesFrom_7 : decode cX4_strokesFrom 7 = .ok (.if_icmp .ge 12, 3) := by decide +kernel
theorem dX4_strokesFrom_10 : decode cX4_strokesFrom 10 = .ok (.aload_n 0, 1) := by decide +kernel
theorem dX4_strokesFrom_11 : decode cX4_strokesFrom 11 = .ok (.getfield 9, 3) := by decide +kernel
theorem dX4_strokesFrom_14 : decode cX4_strokesFrom 14 = .ok (.iload_n 1, 1) := by decide +kernel
theorem dX4_strokesFrom_15 : decode cX4_strokesFrom 15 = .ok (.iaload, 1) := by decide +kernel
theorem dX4_strokesFrom_16 : decode cX4_strokesFrom 16 = .ok (.goto 5, 3) := by decide +kernel
theorem dX4_strokesFrom_19 : decode cX4_strokesFrom 19 = .ok (.bipush (-9), 2) := by decide +kernel
theorem dX4_strokesFrom_21 : decode cX4_strokesFrom 21 = .ok (.ireturn, 1) := by decide +kernel
theorem dX4_pullToward_0 : decode cX4_pullToward 0 = .ok (.iconst 0, 1) := by decide +kernel
theorem dX4_pullToward_1 : decode cX4_pullToward 1 = .ok (.istore 4, 2) := by decide +kernel
theorem dX4_pullToward_3 : decode cX4_pullToward 3 = .ok (.iload 4, 2) := by decide +kernel
theorem dX4_pullToward_5 : decode cX4_pullToward 5 = .ok (.bipush 7, 2) := by decide +kernel
theorem dX4_pullToward_7 : decode cX4_pullToward 7 = .ok (.if_icmp .ge 37, 3) := by decide +kernel
theorem dX4_pullToward_10 : decode cX4_pullToward 10 = .ok (.iload_n 1, 1) := by decide +kernel
theorem dX4_pullToward_11 : decode cX4_pullToward 11 = .ok (.iload_n 2, 1) := by decide +kernel
theorem dX4_pullToward_12 : decode cX4_pullToward 12 = .ok (.iload 4, 2) := by decide +kernel
theorem dX4_pullToward_14 : decode cX4_pullToward 14 = .ok (.invokestatic 22, 3) := by decide +kernel
theorem dX4_pullToward_17 : decode cX4_pullToward 17 = .ok (.istore 5, 2) := by decide +kernel
theorem dX4_pullToward_19 : decode cX4_pullToward 19 = .ok (.iload 5, 2) := by decide +kernel
theorem dX4_pullToward_21 : decode cX4_pullToward 21 = .ok (.iconst (-1), 1) := by decide +kernel
theorem dX4_pullToward_22 : decode cX4_pullToward 22 = .ok (.if_icmp .eq 16, 3) := by decide +kernel
theorem dX4_pullToward_25 : decode cX4_pullToward 25 = .ok (.aload_n 0, 1) := by decide +kernel
theorem dX4_pullToward_26 : decode cX4_pullToward 26 = .ok (.iload 5, 2) := by decide +kernel
theorem dX4_pullToward_28 : decode cX4_pullToward 28 = .ok (.invokevirtual 25, 3) := by decide +kernel
theorem dX4_pullToward_31 : decode cX4_pullToward 31 = .ok (.iload_n 3, 1) := by decide +kernel
theorem dX4_pullToward_32 : decode cX4_pullToward 32 = .ok (.if_icmp .ne 6, 3) := by decide +kernel
theorem dX4_pullToward_35 : decode cX4_pullToward 35 = .ok (.iload 4, 2) := by decide +kernel
theorem dX4_pullToward_37 : decode cX4_pullToward 37 = .ok (.ireturn, 1) := by decide +kernel
theorem dX4_pullToward_38 : decode cX4_pullToward 38 = .ok (.iinc 4 1, 3) := by decide +kernel
theorem dX4_pullToward_41 : decode cX4_pullToward 41 = .ok (.goto (-38), 3) := by decide +kernel
theorem dX4_pullToward_44 : decode cX4_pullToward 44 = .ok (.bipush (-9), 2) := by decide +kernel
theorem dX4_pullToward_46 : decode cX4_pullToward 46 = .ok (.ireturn, 1) := by decide +kernel
theorem dX4_layFewest_0 : decode cX4_layFewest 0 = .ok (.aload_n 3, 1) := by decide +kernel
theorem dX4_layFewest_1 : decode cX4_layFewest 1 = .ok (.iload_n 2, 1) := by decide +kernel
theorem dX4_layFewest_2 : decode cX4_layFewest 2 = .ok (.iconst 0, 1) := by decide +kernel
theorem dX4_layFewest_3 : decode cX4_layFewest 3 = .ok (.invokevirtual 29, 3) := by decide +kernel
theorem dX4_layFewest_6 : decode cX4_layFewest 6 = .ok (.aload_n 1, 1) := by decide +kernel
theorem dX4_layFewest_7 : decode cX4_layFewest 7 = .ok (.getfield 35, 3) := by decide +kernel
theorem dX4_layFewest_10 : decode cX4_layFewest 10 = .ok (.istore 4, 2) := by decide +kernel
theorem dX4_layFewest_12 : decode cX4_layFewest 12 = .ok (.iconst 0, 1) := by decide +kernel
theorem dX4_layFewest_13 : decode cX4_layFewest 13 = .ok (.istore 5, 2) := by decide +kernel
theorem dX4_layFewest_15 : decode cX4_layFewest 15 = .ok (.iload 5, 2) := by decide +kernel
theorem dX4_layFewest_17 : decode cX4_layFewest 17 = .ok (.iload_n 2, 1) := by decide +kernel
theorem dX4_layFewest_18 : decode cX4_layFewest 18 = .ok (.if_icmp .ge 48, 3) := by decide +kernel
theorem dX4_layFewest_21 : decode cX4_layFewest 21 = .ok (.aload_n 0, 1) := by decide +kernel
theorem dX4_layFewest_22 : decode cX4_layFewest 22 = .ok (.aload_n 1, 1) := by decide +kernel
theorem dX4_layFewest_23 : decode cX4_layFewest 23 = .ok (.getfield 41, 3) := by decide +kernel
theorem dX4_layFewest_26 : decode cX4_layFewest 26 = .ok (.iload 4, 2) := by decide +kernel
theorem dX4_layFewest_28 : decode cX4_layFewest 28 = .ok (.iload_n 2, 1) := by decide +kernel
theorem dX4_layFewest_29 : decode cX4_layFewest 29 = .ok (.iconst 1, 1) := by decide +kernel
theorem dX4_layFewest_30 : decode cX4_layFewest 30 = .ok (.isub, 1) := by decide +kernel
theorem dX4_layFewest_31 : decode cX4_layFewest 31 = .ok (.iload 5, 2) := by decide +kernel
theorem dX4_layFewest_33 : decode cX4_layFewest 33 = .ok (.isub, 1) := by decide +kernel
theorem dX4_layFewest_34 : decode cX4_layFewest 34 = .ok (.invokevirtual 18, 3) := by decide +kernel
theorem dX4_layFewest_37 : decode cX4_layFewest 37 = .ok (.istore 6, 2) := by decide +kernel
theorem dX4_layFewest_39 : decode cX4_layFewest 39 = .ok (.aload_n 3, 1) := by decide +kernel
theorem dX4_layFewest_40 : decode cX4_layFewest 40 = .ok (.iload 5, 2) := by decide +kernel
theorem dX4_layFewest_42 : decode cX4_layFewest 42 = .ok (.iload 6, 2) := by decide +kernel
theorem dX4_layFewest_44 : decode cX4_layFewest 44 = .ok (.invokevirtual 44, 3) := by decide +kernel
theorem dX4_layFewest_47 : decode cX4_layFewest 47 = .ok (.aload_n 1, 1) := by decide +kernel
theorem dX4_layFewest_48 : decode cX4_layFewest 48 = .ok (.getfield 41, 3) := by decide +kernel
theorem dX4_layFewest_51 : decode cX4_layFewest 51 = .ok (.iload 4, 2) := by decide +kernel
theorem dX4_layFewest_53 : decode cX4_layFewest 53 = .ok (.iload 6, 2) := by decide +kernel
theorem dX4_layFewest_55 : decode cX4_layFewest 55 = .ok (.invokestatic 22, 3) := by decide +kernel
theorem dX4_layFewest_58 : decode cX4_layFewest 58 = .ok (.istore 4, 2) := by decide +kernel
theorem dX4_layFewest_60 : decode cX4_layFewest 60 = .ok (.iinc 5 1, 3) := by decide +kernel
theorem dX4_layFewest_63 : decode cX4_layFewest 63 = .ok (.goto (-48), 3) := by decide +kernel
theorem dX4_layFewest_66 : decode cX4_layFewest 66 = .ok (.return_, 1) := by decide +kernel
theorem dX4_weigh_0 : decode cX4_weigh 0 = .ok (.iconst 0, 1) := by decide +kernel
theorem dX4_weigh_1 : decode cX4_weigh 1 = .ok (.istore 4, 2) := by decide +kernel
theorem dX4_weigh_3 : decode cX4_weigh 3 = .ok (.iload 4, 2) := by decide +kernel
theorem dX4_weigh_5 : decode cX4_weigh 5 = .ok (.bipush 21, 2) := by decide +kernel
theorem dX4_weigh_7 : decode cX4_weigh 7 = .ok (.if_icmp .ge 28, 3) := by decide +kernel
theorem dX4_weigh_10 : decode cX4_weigh 10 = .ok (.aload_n 0, 1) := by decide +kernel
theorem dX4_weigh_11 : decode cX4_weigh 11 = .ok (.getfield 15, 3) := by decide +kernel
theorem dX4_weigh_14 : decode cX4_weigh 14 = .ok (.iload 4, 2) := by decide +kernel
theorem dX4_weigh_16 : decode cX4_weigh 16 = .ok (.iload 4, 2) := by decide +kernel
theorem dX4_weigh_18 : decode cX4_weigh 18 = .ok (.iload_n 3, 1) := by decide +kernel
theorem dX4_weigh_19 : decode cX4_weigh 19 = .ok (.if_icmp .ne 7, 3) := by decide +kernel
theorem dX4_weigh_22 : decode cX4_weigh 22 = .ok (.iconst 0, 1) := by decide +kernel
theorem dX4_weigh_23 : decode cX4_weigh 23 = .ok (.goto 5, 3) := by decide +kernel
theorem dX4_weigh_26 : decode cX4_weigh 26 = .ok (.bipush (-9), 2) := by decide +kernel
theorem dX4_weigh_28 : decode cX4_weigh 28 = .ok (.iastore, 1) := by decide +kernel
theorem dX4_weigh_29 : decode cX4_weigh 29 = .ok (.iinc 4 1, 3) := by decide +kernel
theorem dX4_weigh_32 : decode cX4_weigh 32 = .ok (.goto (-29), 3) := by decide +kernel
theorem dX4_weigh_35 : decode cX4_weigh 35 = .ok (.iconst 1, 1) := by decide +kernel
theorem dX4_weigh_36 : decode cX4_weigh 36 = .ok (.istore 4, 2) := by decide +kernel
theorem dX4_weigh_38 : decode cX4_weigh 38 = .ok (.iload 4, 2) := by decide +kernel
theorem dX4_weigh_40 : decode cX4_weigh 40 = .ok (.iload_n 2, 1) := by decide +kernel
theorem dX4_weigh_41 : decode cX4_weigh 41 = .ok (.if_icmp .gt 79, 3) := by decide +kernel
theorem dX4_weigh_44 : decode cX4_weigh 44 = .ok (.iload 4, 2) := by decide +kernel
theorem dX4_weigh_46 : decode cX4_weigh 46 = .ok (.bipush 12, 2) := by decide +kernel
theorem dX4_weigh_48 : decode cX4_weigh 48 = .ok (.if_icmp .gt 72, 3) := by decide +kernel
theorem dX4_weigh_51 : decode cX4_weigh 51 = .ok (.iconst 0, 1) := by decide +kernel
theorem dX4_weigh_52 : decode cX4_weigh 52 = .ok (.istore 5, 2) := by decide +kernel
theorem dX4_weigh_54 : decode cX4_weigh 54 = .ok (.iload 5, 2) := by decide +kernel
theorem dX4_weigh_56 : decode cX4_weigh 56 = .ok (.bipush 21, 2) := by decide +kernel
theorem dX4_weigh_58 : decode cX4_weigh 58 = .ok (.if_icmp .ge 56, 3) := by decide +kernel
theorem dX4_weigh_61 : decode cX4_weigh 61 = .ok (.aload_n 0, 1) := by decide +kernel
theorem dX4_weigh_62 : decode cX4_weigh 62 = .ok (.iload_n 1, 1) := by decide +kernel
theorem dX4_weigh_63 : decode cX4_weigh 63 = .ok (.iload 4, 2) := by decide +kernel
theorem dX4_weigh_65 : decode cX4_weigh 65 = .ok (.iload 5, 2) := by decide +kernel
theorem dX4_weigh_67 : decode cX4_weigh 67 = .ok (.invokevirtual 47, 3) := by decide +kernel
theorem dX4_weigh_70 : decode cX4_weigh 70 = .ok (.istore 6, 2) := by decide +kernel
theorem dX4_weigh_72 : decode cX4_weigh 72 = .ok (.aload_n 0, 1) := by decide +kernel
theorem dX4_weigh_73 : decode cX4_weigh 73 = .ok (.getfield 15, 3) := by decide +kernel
theorem dX4_weigh_76 : decode cX4_weigh 76 = .ok (.iload 4, 2) := by decide +kernel
theorem dX4_weigh_78 : decode cX4_weigh 78 = .ok (.bipush 21, 2) := by decide +kernel
theorem dX4_weigh_80 : decode cX4_weigh 80 = .ok (.imul, 1) := by decide +kernel
theorem dX4_weigh_81 : decode cX4_weigh 81 = .ok (.iload 5, 2) := by decide +kernel
theorem dX4_weigh_83 : decode cX4_weigh 83 = .ok (.iadd, 1) := by decide +kernel
theorem dX4_weigh_84 : decode cX4_weigh 84 = .ok (.iload 6, 2) := by decide +kernel
theorem dX4_weigh_86 : decode cX4_weigh 86 = .ok (.bipush (-9), 2) := by decide +kernel
theorem dX4_weigh_88 : decode cX4_weigh 88 = .ok (.if_icmp .ne 8, 3) := by decide +kernel
theorem dX4_weigh_91 : decode cX4_weigh 91 = .ok (.bipush (-9), 2) := by decide +kernel
theorem dX4_weigh_93 : decode cX4_weigh 93 = .ok (.goto 14, 3) := by decide +kernel
theorem dX4_weigh_96 : decode cX4_weigh 96 = .ok (.aload_n 0, 1) := by decide +kernel
theorem dX4_weigh_97 : decode cX4_weigh 97 = .ok (.iload_n 1, 1) := by decide +kernel
theorem dX4_weigh_98 : decode cX4_weigh 98 = .ok (.iload 4, 2) := by decide +kernel
theorem dX4_weigh_100 : decode cX4_weigh 100 = .ok (.iload 5, 2) := by decide +kernel
theorem dX4_weigh_102 : decode cX4_weigh 102 = .ok (.iload 6, 2) := by decide +kernel
theorem dX4_weigh_104 : decode cX4_weigh 104 = .ok (.invokevirtual 50, 3) := by decide +kernel
theorem dX4_weigh_107 : decode cX4_weigh 107 = .ok (.iastore, 1) := by decide +kernel
theorem dX4_weigh_108 : decode cX4_weigh 108 = .ok (.iinc 5 1, 3) := by decide +kernel
theorem dX4_weigh_111 : decode cX4_weigh 111 = .ok (.goto (-57), 3) := by decide +kernel
theorem dX4_weigh_114 : decode cX4_weigh 114 = .ok (.iinc 4 1, 3) := by decide +kernel
theorem dX4_weigh_117 : decode cX4_weigh 117 = .ok (.goto (-79), 3) := by decide +kernel
theorem dX4_weigh_120 : decode cX4_weigh 120 = .ok (.return_, 1) := by decide +kernel
theorem dX4_armsFrom_0 : decode cX4_armsFrom 0 = .ok (.iload_n 1, 1) := by decide +kernel
theorem dX4_armsFrom_1 : decode cX4_armsFrom 1 = .ok (.ifCond .lt 19, 3) := by decide +kernel
theorem dX4_armsFrom_4 : decode cX4_armsFrom 4 = .ok (.iload_n 1, 1) := by decide +kernel
theorem dX4_armsFrom_5 : decode cX4_armsFrom 5 = .ok (.bipush 12, 2) := by decide +kernel
theorem dX4_armsFrom_7 : decode cX4_armsFrom 7 = .ok (.if_icmp .gt 13, 3) := by decide +kernel
theorem dX4_armsFrom_10 : decode cX4_armsFrom 10 = .ok (.iload_n 2, 1) := by decide +kernel
theorem dX4_armsFrom_11 : decode cX4_armsFrom 11 = .ok (.ifCond .lt 9, 3) := by decide +kernel
theorem dX4_armsFrom_14 : decode cX4_armsFrom 14 = .ok (.iload_n 2, 1) := by decide +kernel
theorem dX4_armsFrom_15 : decode cX4_armsFrom 15 = .ok (.bipush 21, 2) := by decide +kernel
theorem dX4_armsFrom_17 : decode cX4_armsFrom 17 = .ok (.if_icmp .lt 6, 3) := by decide +kernel
theorem dX4_armsFrom_20 : decode cX4_armsFrom 20 = .ok (.bipush (-9), 2) := by decide +kernel
theorem dX4_armsFrom_22 : decode cX4_armsFrom 22 = .ok (.ireturn, 1) := by decide +kernel
theorem dX4_armsFrom_23 : decode cX4_armsFrom 23 = .ok (.aload_n 0, 1) := by decide +kernel
theorem dX4_armsFrom_24 : decode cX4_armsFrom 24 = .ok (.getfield 15, 3) := by decide +kernel
theorem dX4_armsFrom_27 : decode cX4_armsFrom 27 = .ok (.iload_n 1, 1) := by decide +kernel
theorem dX4_armsFrom_28 : decode cX4_armsFrom 28 = .ok (.bipush 21, 2) := by decide +kernel
theorem dX4_armsFrom_30 : decode cX4_armsFrom 30 = .ok (.imul, 1) := by decide +kernel
theorem dX4_armsFrom_31 : decode cX4_armsFrom 31 = .ok (.iload_n 2, 1) := by decide +kernel
theorem dX4_armsFrom_32 : decode cX4_armsFrom 32 = .ok (.iadd, 1) := by decide +kernel
theorem dX4_armsFrom_33 : decode cX4_armsFrom 33 = .ok (.iaload, 1) := by decide +kernel
theorem dX4_armsFrom_34 : decode cX4_armsFrom 34 = .ok (.ireturn, 1) := by decide +kernel
theorem dX4_sumBy_0 : decode cX4_sumBy 0 = .ok (.iload_n 1, 1) := by decide +kernel
theorem dX4_sumBy_1 : decode cX4_sumBy 1 = .ok (.iload_n 3, 1) := by decide +kernel
theorem dX4_sumBy_2 : decode cX4_sumBy 2 = .ok (.iload 4, 2) := by decide +kernel
theorem dX4_sumBy_4 : decode cX4_sumBy 4 = .ok (.invokestatic 22, 3) := by decide +kernel
theorem dX4_sumBy_7 : decode cX4_sumBy 7 = .ok (.istore 5, 2) := by decide +kernel
theorem dX4_sumBy_9 : decode cX4_sumBy 9 = .ok (.iload 5, 2) := by decide +kernel
theorem dX4_sumBy_11 : decode cX4_sumBy 11 = .ok (.iconst (-1), 1) := by decide +kernel
theorem dX4_sumBy_12 : decode cX4_sumBy 12 = .ok (.if_icmp .ne 8, 3) := by decide +kernel
theorem dX4_sumBy_15 : decode cX4_sumBy 15 = .ok (.bipush (-9), 2) := by decide +kernel
theorem dX4_sumBy_17 : decode cX4_sumBy 17 = .ok (.goto 12, 3) := by decide +kernel
theorem dX4_sumBy_20 : decode cX4_sumBy 20 = .ok (.aload_n 0, 1) := by decide +kernel
theorem dX4_sumBy_21 : decode cX4_sumBy 21 = .ok (.iload_n 2, 1) := by decide +kernel
theorem dX4_sumBy_22 : decode cX4_sumBy 22 = .ok (.iconst 1, 1) := by decide +kernel
theorem dX4_sumBy_23 : decode cX4_sumBy 23 = .ok (.isub, 1) := by decide +kernel
theorem dX4_sumBy_24 : decode cX4_sumBy 24 = .ok (.iload 5, 2) := by decide +kernel
theorem dX4_sumBy_26 : decode cX4_sumBy 26 = .ok (.invokevirtual 54, 3) := by decide +kernel
theorem dX4_sumBy_29 : decode cX4_sumBy 29 = .ok (.istore 6, 2) := by decide +kernel
theorem dX4_sumBy_31 : decode cX4_sumBy 31 = .ok (.iload 6, 2) := by decide +kernel
theorem dX4_sumBy_33 : decode cX4_sumBy 33 = .ok (.bipush (-9), 2) := by decide +kernel
theorem dX4_sumBy_35 : decode cX4_sumBy 35 = .ok (.if_icmp .ne 8, 3) := by decide +kernel
theorem dX4_sumBy_38 : decode cX4_sumBy 38 = .ok (.bipush (-9), 2) := by decide +kernel
theorem dX4_sumBy_40 : decode cX4_sumBy 40 = .ok (.goto 8, 3) := by decide +kernel
theorem dX4_sumBy_43 : decode cX4_sumBy 43 = .ok (.iload 4, 2) := by decide +kernel
theorem dX4_sumBy_45 : decode cX4_sumBy 45 = .ok (.iload 6, 2) := by decide +kernel
theorem dX4_sumBy_47 : decode cX4_sumBy 47 = .ok (.iadd, 1) := by decide +kernel
theorem dX4_sumBy_48 : decode cX4_sumBy 48 = .ok (.ireturn, 1) := by decide +kernel
theorem dX4_lightestPull_0 : decode cX4_lightestPull 0 = .ok (.bipush (-9), 2) := by decide +kernel
theorem dX4_lightestPull_2 : decode cX4_lightestPull 2 = .ok (.istore 4, 2) := by decide +kernel
theorem dX4_lightestPull_4 : decode cX4_lightestPull 4 = .ok (.sipush 1000, 3) := by decide +kernel
theorem dX4_lightestPull_7 : decode cX4_lightestPull 7 = .ok (.istore 5, 2) := by decide +kernel
theorem dX4_lightestPull_9 : decode cX4_lightestPull 9 = .ok (.iconst 0, 1) := by decide +kernel
theorem dX4_lightestPull_10 : decode cX4_lightestPull 10 = .ok (.istore 6, 2) := by decide +kernel
theorem dX4_lightestPull_12 : decode cX4_lightestPull 12 = .ok (.iload 6, 2) := by decide +kernel
theorem dX4_lightestPull_14 : decode cX4_lightestPull 14 = .ok (.bipush 7, 2) := by decide +kernel
theorem dX4_lightestPull_16 : decode cX4_lightestPull 16 = .ok (.if_icmp .ge 42, 3) := by decide +kernel
theorem dX4_lightestPull_19 : decode cX4_lightestPull 19 = .ok (.aload_n 0, 1) := by decide +kernel
theorem dX4_lightestPull_20 : decode cX4_lightestPull 20 = .ok (.iload_n 1, 1) := by decide +kernel
theorem dX4_lightestPull_21 : decode cX4_lightestPull 21 = .ok (.iload_n 2, 1) := by decide +kernel
theorem dX4_lightestPull_22 : decode cX4_lightestPull 22 = .ok (.iload_n 3, 1) := by decide +kernel
theorem dX4_lightestPull_23 : decode cX4_lightestPull 23 = .ok (.iload 6, 2) := by decide +kernel
theorem dX4_lightestPull_25 : decode cX4_lightestPull 25 = .ok (.invokevirtual 50, 3) := by decide +kernel
theorem dX4_lightestPull_28 : decode cX4_lightestPull 28 = .ok (.istore 7, 2) := by decide +kernel
theorem dX4_lightestPull_30 : decode cX4_lightestPull 30 = .ok (.iload 7, 2) := by decide +kernel
theorem dX4_lightestPull_32 : decode cX4_lightestPull 32 = .ok (.bipush (-9), 2) := by decide +kernel
theorem dX4_lightestPull_34 : decode cX4_lightestPull 34 = .ok (.if_icmp .eq 18, 3) := by decide +kernel
theorem dX4_lightestPull_37 : decode cX4_lightestPull 37 = .ok (.iload 7, 2) := by decide +kernel
theorem dX4_lightestPull_39 : decode cX4_lightestPull 39 = .ok (.iload 5, 2) := by decide +kernel
theorem dX4_lightestPull_41 : decode cX4_lightestPull 41 = .ok (.if_icmp .ge 11, 3) := by decide +kernel
theorem dX4_lightestPull_44 : decode cX4_lightestPull 44 = .ok (.iload 7, 2) := by decide +kernel
theorem dX4_lightestPull_46 : decode cX4_lightestPull 46 = .ok (.istore 5, 2) := by decide +kernel
theorem dX4_lightestPull_48 : decode cX4_lightestPull 48 = .ok (.iload 6, 2) := by decide +kernel
theorem dX4_lightestPull_50 : decode cX4_lightestPull 50 = .ok (.istore 4, 2) := by decide +kernel
theorem dX4_lightestPull_52 : decode cX4_lightestPull 52 = .ok (.iinc 6 1, 3) := by decide +kernel
theorem dX4_lightestPull_55 : decode cX4_lightestPull 55 = .ok (.goto (-43), 3) := by decide +kernel
theorem dX4_lightestPull_58 : decode cX4_lightestPull 58 = .ok (.iload 4, 2) := by decide +kernel
theorem dX4_lightestPull_60 : decode cX4_lightestPull 60 = .ok (.ireturn, 1) := by decide +kernel
theorem dX4_layLightest_0 : decode cX4_layLightest 0 = .ok (.aload_n 3, 1) := by decide +kernel
theorem dX4_layLightest_1 : decode cX4_layLightest 1 = .ok (.iload_n 2, 1) := by decide +kernel
theorem dX4_layLightest_2 : decode cX4_layLightest 2 = .ok (.iconst 0, 1) := by decide +kernel
theorem dX4_layLightest_3 : decode cX4_layLightest 3 = .ok (.invokevirtual 29, 3) := by decide +kernel
theorem dX4_layLightest_6 : decode cX4_layLightest 6 = .ok (.aload_n 1, 1) := by decide +kernel
theorem dX4_layLightest_7 : decode cX4_layLightest 7 = .ok (.getfield 35, 3) := by decide +kernel
theorem dX4_layLightest_10 : decode cX4_layLightest 10 = .ok (.istore 4, 2) := by decide +kernel
theorem dX4_layLightest_12 : decode cX4_layLightest 12 = .ok (.iconst 0, 1) := by decide +kernel
theorem dX4_layLightest_13 : decode cX4_layLightest 13 = .ok (.istore 5, 2) := by decide +kernel
theorem dX4_layLightest_15 : decode cX4_layLightest 15 = .ok (.iload 5, 2) := by decide +kernel
theorem dX4_layLightest_17 : decode cX4_layLightest 17 = .ok (.iload_n 2, 1) := by decide +kernel
theorem dX4_layLightest_18 : decode cX4_layLightest 18 = .ok (.if_icmp .ge 46, 3) := by decide +kernel
theorem dX4_layLightest_21 : decode cX4_layLightest 21 = .ok (.aload_n 0, 1) := by decide +kernel
theorem dX4_layLightest_22 : decode cX4_layLightest 22 = .ok (.aload_n 1, 1) := by decide +kernel
theorem dX4_layLightest_23 : decode cX4_layLightest 23 = .ok (.getfield 41, 3) := by decide +kernel
theorem dX4_layLightest_26 : decode cX4_layLightest 26 = .ok (.iload_n 2, 1) := by decide +kernel
theorem dX4_layLightest_27 : decode cX4_layLightest 27 = .ok (.iload 5, 2) := by decide +kernel
theorem dX4_layLightest_29 : decode cX4_layLightest 29 = .ok (.isub, 1) := by decide +kernel
theorem dX4_layLightest_30 : decode cX4_layLightest 30 = .ok (.iload 4, 2) := by decide +kernel
theorem dX4_layLightest_32 : decode cX4_layLightest 32 = .ok (.invokevirtual 47, 3) := by decide +kernel
theorem dX4_layLightest_35 : decode cX4_layLightest 35 = .ok (.istore 6, 2) := by decide +kernel
theorem dX4_layLightest_37 : decode cX4_layLightest 37 = .ok (.aload_n 3, 1) := by decide +kernel
theorem dX4_layLightest_38 : decode cX4_layLightest 38 = .ok (.iload 5, 2) := by decide +kernel
theorem dX4_layLightest_40 : decode cX4_layLightest 40 = .ok (.iload 6, 2) := by decide +kernel
theorem dX4_layLightest_42 : decode cX4_layLightest 42 = .ok (.invokevirtual 44, 3) := by decide +kernel
theorem dX4_layLightest_45 : decode cX4_layLightest 45 = .ok (.aload_n 1, 1) := by decide +kernel
theorem dX4_layLightest_46 : decode cX4_layLightest 46 = .ok (.getfield 41, 3) := by decide +kernel
theorem dX4_layLightest_49 : decode cX4_layLightest 49 = .ok (.iload 4, 2) := by decide +kernel
theorem dX4_layLightest_51 : decode cX4_layLightest 51 = .ok (.iload 6, 2) := by decide +kernel
theorem dX4_layLightest_53 : decode cX4_layLightest 53 = .ok (.invokestatic 22, 3) := by decide +kernel
theorem dX4_layLightest_56 : decode cX4_layLightest 56 = .ok (.istore 4, 2) := by decide +kernel
theorem dX4_layLightest_58 : decode cX4_layLightest 58 = .ok (.iinc 5 1, 3) := by decide +kernel
theorem dX4_layLightest_61 : decode cX4_layLightest 61 = .ok (.goto (-46), 3) := by decide +kernel
theorem dX4_layLightest_64 : decode cX4_layLightest 64 = .ok (.return_, 1) := by decide +kernel
theorem dX5_init_0 : decode cX5_init 0 = .ok (.aload_n 0, 1) := by decide +kernel
theorem dX5_init_1 : decode cX5_init 1 = .ok (.invokespecial 3, 3) := by decide +kernel
theorem dX5_init_4 : decode cX5_init 4 = .ok (.aload_n 0, 1) := by decide +kernel
theorem dX5_init_5 : decode cX5_init 5 = .ok (.bipush 21, 2) := by decide +kernel
theorem dX5_init_7 : decode cX5_init 7 = .ok (.newarray .boolean, 2) := by decide +kernel
theorem dX5_init_9 : decode cX5_init 9 = .ok (.putfield 9, 3) := by decide +kernel
theorem dX5_init_12 : decode cX5_init 12 = .ok (.aload_n 0, 1) := by decide +kernel
theorem dX5_init_13 : decode cX5_init 13 = .ok (.bipush 21, 2) := by decide +kernel
theorem dX5_init_15 : decode cX5_init 15 = .ok (.newarray .boolean, 2) := by decide +kernel
theorem dX5_init_17 : decode cX5_init 17 = .ok (.putfield 15, 3) := by decide +kernel
theorem dX5_init_20 : decode cX5_init 20 = .ok (.return_, 1) := by decide +kernel
theorem dX5_reckon_0 : decode cX5_reckon 0 = .ok (.iconst 0, 1) := by decide +kernel
theorem dX5_reckon_1 : decode cX5_reckon 1 = .ok (.istore_n 3, 1) := by decide +kernel
theorem dX5_reckon_2 : decode cX5_reckon 2 = .ok (.iload_n 3, 1) := by decide +kernel
theorem dX5_reckon_3 : decode cX5_reckon 3 = .ok (.bipush 21, 2) := by decide +kernel
theorem dX5_reckon_5 : decode cX5_reckon 5 = .ok (.if_icmp .ge 26, 3) := by decide +kernel
theorem dX5_reckon_8 : decode cX5_reckon 8 = .ok (.aload_n 0, 1) := by decide +kernel
theorem dX5_reckon_9 : decode cX5_reckon 9 = .ok (.getfield 9, 3) := by decide +kernel
theorem dX5_reckon_12 : decode cX5_reckon 12 = .ok (.iload_n 3, 1) := by decide +kernel
theorem dX5_reckon_13 : decode cX5_reckon 13 = .ok (.iload_n 3, 1) := by decide +kernel
theorem dX5_reckon_14 : decode cX5_reckon 14 = .ok (.bipush 20, 2) := by decide +kernel
theorem dX5_reckon_16 : decode cX5_reckon 16 = .ok (.if_icmp .ne 7, 3) := by decide +kernel
theorem dX5_reckon_19 : decode cX5_reckon 19 = .ok (.iconst 1, 1) := by decide +kernel
theorem dX5_reckon_20 : decode cX5_reckon 20 = .ok (.goto 4, 3) := by decide +kernel
theorem dX5_reckon_23 : decode cX5_reckon 23 = .ok (.iconst 0, 1) := by decide +kernel
theorem dX5_reckon_24 : decode cX5_reckon 24 = .ok (.bastore, 1) := by decide +kernel
theorem dX5_reckon_25 : decode cX5_reckon 25 = .ok (.iinc 3 1, 3) := by decide +kernel
theorem dX5_reckon_28 : decode cX5_reckon 28 = .ok (.goto (-26), 3) := by decide +kernel
theorem dX5_reckon_31 : decode cX5_reckon 31 = .ok (.iconst 0, 1) := by decide +kernel
theorem dX5_reckon_32 : decode cX5_reckon 32 = .ok (.istore_n 3, 1) := by decide +kernel
theorem dX5_reckon_33 : decode cX5_reckon 33 = .ok (.iload_n 3, 1) := by decide +kernel
theorem dX5_reckon_34 : decode cX5_reckon 34 = .ok (.iload_n 2, 1) := by decide +kernel
theorem dX5_reckon_35 : decode cX5_reckon 35 = .ok (.if_icmp .ge 79, 3) := by decide +kernel
theorem dX5_reckon_38 : decode cX5_reckon 38 = .ok (.iconst 0, 1) := by decide +kernel
theorem dX5_reckon_39 : decode cX5_reckon 39 = .ok (.istore 4, 2) := by decide +kernel
theorem dX5_reckon_41 : decode cX5_reckon 41 = .ok (.iload 4, 2) := by decide +kernel
theorem dX5_reckon_43 : decode cX5_reckon 43 = .ok (.bipush 21, 2) := by decide +kernel
theorem dX5_reckon_45 : decode cX5_reckon 45 = .ok (.if_icmp .ge 23, 3) := by decide +kernel
theorem dX5_reckon_48 : decode cX5_reckon 48 = .ok (.aload_n 0, 1) := by decide +kernel
theorem dX5_reckon_49 : decode cX5_reckon 49 = .ok (.getfield 15, 3) := by decide +kernel
theorem dX5_reckon_52 : decode cX5_reckon 52 = .ok (.iload 4, 2) := by decide +kernel
theorem dX5_reckon_54 : decode cX5_reckon 54 = .ok (.aload_n 0, 1) := by decide +kernel
theorem dX5_reckon_55 : decode cX5_reckon 55 = .ok (.iload_n 1, 1) := by decide +kernel
theorem dX5_reckon_56 : decode cX5_reckon 56 = .ok (.iload 4, 2) := by decide +kernel
theorem dX5_reckon_58 : decode cX5_reckon 58 = .ok (.invokevirtual 18, 3) := by decide +kernel
theorem dX5_reckon_61 : decode cX5_reckon 61 = .ok (.bastore, 1) := by decide +kernel
theorem dX5_reckon_62 : decode cX5_reckon 62 = .ok (.iinc 4 1, 3) := by decide +kernel
theorem dX5_reckon_65 : decode cX5_reckon 65 = .ok (.goto (-24), 3) := by decide +kernel
theorem dX5_reckon_68 : decode cX5_reckon 68 = .ok (.iconst 0, 1) := by decide +kernel
theorem dX5_reckon_69 : decode cX5_reckon 69 = .ok (.istore 4, 2) := by decide +kernel
theorem dX5_reckon_71 : decode cX5_reckon 71 = .ok (.iload 4, 2) := by decide +kernel
theorem dX5_reckon_73 : decode cX5_reckon 73 = .ok (.bipush 21, 2) := by decide +kernel
theorem dX5_reckon_75 : decode cX5_reckon 75 = .ok (.if_icmp .ge 33, 3) := by decide +kernel
theorem dX5_reckon_78 : decode cX5_reckon 78 = .ok (.aload_n 0, 1) := by decide +kernel
theorem dX5_reckon_79 : decode cX5_reckon 79 = .ok (.getfield 9, 3) := by decide +kernel
theorem dX5_reckon_82 : decode cX5_reckon 82 = .ok (.iload 4, 2) := by decide +kernel
theorem dX5_reckon_84 : decode cX5_reckon 84 = .ok (.aload_n 0, 1) := by decide +kernel
theorem dX5_reckon_85 : decode cX5_reckon 85 = .ok (.iload_n 1, 1) := by decide +kernel
theorem dX5_reckon_86 : decode cX5_reckon 86 = .ok (.iload 4, 2) := by decide +kernel
theorem dX5_reckon_88 : decode cX5_reckon 88 = .ok (.invokevirtual 22, 3) := by decide +kernel
theorem dX5_reckon_91 : decode cX5_reckon 91 = .ok (.bipush (-9), 2) := by decide +kernel
theorem dX5_reckon_93 : decode cX5_reckon 93 = .ok (.if_icmp .eq 7, 3) := by decide +kernel
theorem dX5_reckon_96 : decode cX5_reckon 96 = .ok (.iconst 1, 1) := by decide +kernel
theorem dX5_reckon_97 : decode cX5_reckon 97 = .ok (.goto 4, 3) := by decide +kernel
theorem dX5_reckon_100 : decode cX5_reckon 100 = .ok (.iconst 0, 1) := by decide +kernel
theorem dX5_reckon_101 : decode cX5_reckon 101 = .ok (.bastore, 1) := by decide +kernel
theorem dX5_reckon_102 : decode cX5_reckon 102 = .ok (.iinc 4 1, 3) := by decide +kernel
theorem dX5_reckon_105 : decode cX5_reckon 105 = .ok (.goto (-34), 3) := by decide +kernel
theorem dX5_reckon_108 : decode cX5_reckon 108 = .ok (.iinc 3 1, 3) := by decide +kernel
theorem dX5_reckon_111 : decode cX5_reckon 111 = .ok (.goto (-78), 3) := by decide +kernel
theorem dX5_reckon_114 : decode cX5_reckon 114 = .ok (.return_, 1) := by decide +kernel
theorem dX5_winsAgainstAll_0 : decode cX5_winsAgainstAll 0 = .ok (.iconst 0, 1) := by decide +kernel
theorem dX5_winsAgainstAll_1 : decode cX5_winsAgainstAll 1 = .ok (.istore_n 3, 1) := by decide +kernel
theorem dX5_winsAgainstAll_2 : decode cX5_winsAgainstAll 2 = .ok (.iload_n 3, 1) := by decide +kernel
theorem dX5_winsAgainstAll_3 : decode cX5_winsAgainstAll 3 = .ok (.iconst 4, 1) := by decide +kernel
theorem dX5_winsAgainstAll_4 : decode cX5_winsAgainstAll 4 = .ok (.if_icmp .ge 35, 3) := by decide +kernel
theorem dX5_winsAgainstAll_7 : decode cX5_winsAgainstAll 7 = .ok (.iload_n 1, 1) := by decide +kernel
theorem dX5_winsAgainstAll_8 : decode cX5_winsAgainstAll 8 = .ok (.iload_n 2, 1) := by decide +kernel
theorem dX5_winsAgainstAll_9 : decode cX5_winsAgainstAll 9 = .ok (.iload_n 3, 1) := by decide +kernel
theorem dX5_winsAgainstAll_10 : decode cX5_winsAgainstAll 10 = .ok (.invokestatic 26, 3) := by decide +kernel
theorem dX5_winsAgainstAll_13 : decode cX5_winsAgainstAll 13 = .ok (.istore 4, 2) := by decide +kernel
theorem dX5_winsAgainstAll_15 : decode cX5_winsAgainstAll 15 = .ok (.iload 4, 2) := by decide +kernel
theorem dX5_winsAgainstAll_17 : decode cX5_winsAgainstAll 17 = .ok (.iconst (-1), 1) := by decide +kernel
theorem dX5_winsAgainstAll_18 : decode cX5_winsAgainstAll 18 = .ok (.if_icmp .eq 15, 3) := by decide +kernel
theorem dX5_winsAgainstAll_21 : decode cX5_winsAgainstAll 21 = .ok (.aload_n 0, 1) := by decide +kernel
theorem dX5_winsAgainstAll_22 : decode cX5_winsAgainstAll 22 = .ok (.getfield 9, 3) := by decide +kernel
theorem dX5_winsAgainstAll_25 : decode cX5_winsAgainstAll 25 = .ok (.iload 4, 2) := by decide +kernel
theorem dX5_winsAgainstAll_27 : decode cX5_winsAgainstAll 27 = .ok (.baload, 1) := by decide +kernel
theorem dX5_winsAgainstAll_28 : decode cX5_winsAgainstAll 28 = .ok (.ifCond .ne 5, 3) := by decide +kernel
theorem dX5_winsAgainstAll_31 : decode cX5_winsAgainstAll 31 = .ok (.iconst 0, 1) := by decide +kernel
theorem dX5_winsAgainstAll_32 : decode cX5_winsAgainstAll 32 = .ok (.ireturn, 1) := by decide +kernel
theorem dX5_winsAgainstAll_33 : decode cX5_winsAgainstAll 33 = .ok (.iinc 3 1, 3) := by decide +kernel
theorem dX5_winsAgainstAll_36 : decode cX5_winsAgainstAll 36 = .ok (.goto (-34), 3) := by decide +kernel
theorem dX5_winsAgainstAll_39 : decode cX5_winsAgainstAll 39 = .ok (.iconst 1, 1) := by decide +kernel
theorem dX5_winsAgainstAll_40 : decode cX5_winsAgainstAll 40 = .ok (.ireturn, 1) := by decide +kernel
theorem dX5_winningPull_0 : decode cX5_winningPull 0 = .ok (.iconst 0, 1) := by decide +kernel
theorem dX5_winningPull_1 : decode cX5_winningPull 1 = .ok (.istore_n 3, 1) := by decide +kernel
theorem dX5_winningPull_2 : decode cX5_winningPull 2 = .ok (.iload_n 3, 1) := by decide +kernel
theorem dX5_winningPull_3 : decode cX5_winningPull 3 = .ok (.bipush 7, 2) := by decide +kernel
theorem dX5_winningPull_5 : decode cX5_winningPull 5 = .ok (.if_icmp .ge 35, 3) := by decide +kernel
theorem dX5_winningPull_8 : decode cX5_winningPull 8 = .ok (.iload_n 1, 1) := by decide +kernel
theorem dX5_winningPull_9 : decode cX5_winningPull 9 = .ok (.iload_n 2, 1) := by decide +kernel
theorem dX5_winningPull_10 : decode cX5_winningPull 10 = .ok (.iload_n 3, 1) := by decide +kernel
theorem dX5_winningPull_11 : decode cX5_winningPull 11 = .ok (.invokestatic 26, 3) := by decide +kernel
theorem dX5_winningPull_14 : decode cX5_winningPull 14 = .ok (.istore 4, 2) := by decide +kernel
theorem dX5_winningPull_16 : decode cX5_winningPull 16 = .ok (.iload 4, 2) := by decide +kernel
theorem dX5_winningPull_18 : decode cX5_winningPull 18 = .ok (.iconst (-1), 1) := by decide +kernel
theorem dX5_winningPull_19 : decode cX5_winningPull 19 = .ok (.if_icmp .eq 15, 3) := by decide +kernel
theorem dX5_winningPull_22 : decode cX5_winningPull 22 = .ok (.aload_n 0, 1) := by decide +kernel
theorem dX5_winningPull_23 : decode cX5_winningPull 23 = .ok (.getfield 15, 3) := by decide +kernel
theorem dX5_winningPull_26 : decode cX5_winningPull 26 = .ok (.iload 4, 2) := by decide +kernel
theorem dX5_winningPull_28 : decode cX5_winningPull 28 = .ok (.baload, 1) := by decide +kernel
theorem dX5_winningPull_29 : decode cX5_winningPull 29 = .ok (.ifCond .eq 5, 3) := by decide +kernel
theorem dX5_winningPull_32 : decode cX5_winningPull 32 = .ok (.iload_n 3, 1) := by decide +kernel
theorem dX5_winningPull_33 : decode cX5_winningPull 33 = .ok (.ireturn, 1) := by decide +kernel
theorem dX5_winningPull_34 : decode cX5_winningPull 34 = .ok (.iinc 3 1, 3) := by decide +kernel
theorem dX5_winningPull_37 : decode cX5_winningPull 37 = .ok (.goto (-35), 3) := by decide +kernel
theorem dX5_winningPull_40 : decode cX5_winningPull 40 = .ok (.bipush (-9), 2) := by decide +kernel
theorem dX5_winningPull_42 : decode cX5_winningPull 42 = .ok (.ireturn, 1) := by decide +kernel
theorem dX6_init_0 : decode cX6_init 0 = .ok (.aload_n 0, 1) := by decide +kernel
theorem dX6_init_1 : decode cX6_init 1 = .ok (.invokespecial 3, 3) := by decide +kernel
theorem dX6_init_4 : decode cX6_init 4 = .ok (.aload_n 0, 1) := by decide +kernel
theorem dX6_init_5 : decode cX6_init 5 = .ok (.iconst 0, 1) := by decide +kernel
theorem dX6_init_6 : decode cX6_init 6 = .ok (.iload_n 1, 1) := by decide +kernel
theorem dX6_init_7 : decode cX6_init 7 = .ok (.invokestatic 9, 3) := by decide +kernel
theorem dX6_init_10 : decode cX6_init 10 = .ok (.newarray .int, 2) := by decide +kernel
theorem dX6_init_12 : decode cX6_init 12 = .ok (.putfield 15, 3) := by decide +kernel
theorem dX6_init_15 : decode cX6_init 15 = .ok (.return_, 1) := by decide +kernel
theorem dX6_begin_0 : decode cX6_begin 0 = .ok (.aload_n 0, 1) := by decide +kernel
theorem dX6_begin_1 : decode cX6_begin 1 = .ok (.iconst 1, 1) := by decide +kernel
theorem dX6_begin_2 : decode cX6_begin 2 = .ok (.putfield 21, 3) := by decide +kernel
theorem dX6_begin_5 : decode cX6_begin 5 = .ok (.aload_n 0, 1) := by decide +kernel
theorem dX6_begin_6 : decode cX6_begin 6 = .ok (.iconst 0, 1) := by decide +kernel
theorem dX6_begin_7 : decode cX6_begin 7 = .ok (.iload_n 1, 1) := by decide +kernel
theorem dX6_begin_8 : decode cX6_begin 8 = .ok (.aload_n 0, 1) := by decide +kernel
theorem dX6_begin_9 : decode cX6_begin 9 = .ok (.getfield 15, 3) := by decide +kernel
theorem dX6_begin_12 : decode cX6_begin 12 = .ok (.arraylength, 1) := by decide +kernel
theorem dX6_begin_13 : decode cX6_begin 13 = .ok (.invokestatic 25, 3) := by decide +kernel
theorem dX6_begin_16 : decode cX6_begin 16 = .ok (.invokestatic 9, 3) := by decide +kernel
theorem dX6_begin_19 : decode cX6_begin 19 = .ok (.putfield 28, 3) := by decide +kernel
theorem dX6_begin_22 : decode cX6_begin 22 = .ok (.aload_n 0, 1) := by decide +kernel
theorem dX6_begin_23 : decode cX6_begin 23 = .ok (.getfield 15, 3) := by decide +kernel
theorem dX6_begin_26 : decode cX6_begin 26 = .ok (.iconst 0, 1) := by decide +kernel
theorem dX6_begin_27 : decode cX6_begin 27 = .ok (.aload_n 0, 1) := by decide +kernel
theorem dX6_begin_28 : decode cX6_begin 28 = .ok (.getfield 28, 3) := by decide +kernel
theorem dX6_begin_31 : decode cX6_begin 31 = .ok (.iload_n 2, 1) := by decide +kernel
theorem dX6_begin_32 : decode cX6_begin 32 = .ok (.invokestatic 32, 3) := by decide +kernel
theorem dX6_begin_35 : decode cX6_begin 35 = .ok (.return_, 1) := by decide +kernel
theorem dX6_has_0 : decode cX6_has 0 = .ok (.iload_n 1, 1) := by decide +kernel
theorem dX6_has_1 : decode cX6_has 1 = .ok (.ifCond .lt 15, 3) := by decide +kernel
theorem dX6_has_4 : decode cX6_has 4 = .ok (.iload_n 1, 1) := by decide +kernel
theorem dX6_has_5 : decode cX6_has 5 = .ok (.aload_n 0, 1) := by decide +kernel
theorem dX6_has_6 : decode cX6_has 6 = .ok (.getfield 28, 3) := by decide +kernel
theorem dX6_has_9 : decode cX6_has 9 = .ok (.if_icmp .ge 7, 3) := by decide +kernel
theorem dX6_has_12 : decode cX6_has 12 = .ok (.iconst 1, 1) := by decide +kernel
theorem dX6_has_13 : decode cX6_has 13 = .ok (.goto 4, 3) := by decide +kernel
theorem dX6_has_16 : decode cX6_has 16 = .ok (.iconst 0, 1) := by decide +kernel
theorem dX6_has_17 : decode cX6_has 17 = .ok (.ireturn, 1) := by decide +kernel
theorem dX6_spans_0 : decode cX6_spans 0 = .ok (.iload_n 1, 1) := by decide +kernel
theorem dX6_spans_1 : decode cX6_spans 1 = .ok (.ifCond .lt 25, 3) := by decide +kernel
theorem dX6_spans_4 : decode cX6_spans 4 = .ok (.iload_n 1, 1) := by decide +kernel
theorem dX6_spans_5 : decode cX6_spans 5 = .ok (.aload_n 0, 1) := by decide +kernel
theorem dX6_spans_6 : decode cX6_spans 6 = .ok (.getfield 28, 3) := by decide +kernel
theorem dX6_spans_9 : decode cX6_spans 9 = .ok (.if_icmp .gt 17, 3) := by decide +kernel
theorem dX6_spans_12 : decode cX6_spans 12 = .ok (.iload_n 2, 1) := by decide +kernel
theorem dX6_spans_13 : decode cX6_spans 13 = .ok (.aload_n 0, 1) := by decide +kernel
theorem dX6_spans_14 : decode cX6_spans 14 = .ok (.getfield 28, 3) := by decide +kernel
theorem dX6_spans_17 : decode cX6_spans 17 = .ok (.iload_n 1, 1) := by decide +kernel
theorem dX6_spans_18 : decode cX6_spans 18 = .ok (.isub, 1) := by decide +kernel
theorem dX6_spans_19 : decode cX6_spans 19 = .ok (.if_icmp .gt 7, 3) := by decide +kernel
theorem dX6_spans_22 : decode cX6_spans 22 = .ok (.iconst 1, 1) := by decide +kernel
theorem dX6_spans_23 : decode cX6_spans 23 = .ok (.goto 4, 3) := by decide +kernel
theorem dX6_spans_26 : decode cX6_spans 26 = .ok (.iconst 0, 1) := by decide +kernel
theorem dX6_spans_27 : decode cX6_spans 27 = .ok (.ireturn, 1) := by decide +kernel
theorem dX6_hasPulls_0 : decode cX6_hasPulls 0 = .ok (.iconst 0, 1) := by decide +kernel
theorem dX6_hasPulls_1 : decode cX6_hasPulls 1 = .ok (.istore_n 2, 1) := by decide +kernel
theorem dX6_hasPulls_2 : decode cX6_hasPulls 2 = .ok (.iload_n 2, 1) := by decide +kernel
theorem dX6_hasPulls_3 : decode cX6_hasPulls 3 = .ok (.aload_n 0, 1) := by decide +kernel
theorem dX6_hasPulls_4 : decode cX6_hasPulls 4 = .ok (.getfield 28, 3) := by decide +kernel
theorem dX6_hasPulls_7 : decode cX6_hasPulls 7 = .ok (.if_icmp .ge 28, 3) := by decide +kernel
theorem dX6_hasPulls_10 : decode cX6_hasPulls 10 = .ok (.aload_n 0, 1) := by decide +kernel
theorem dX6_hasPulls_11 : decode cX6_hasPulls 11 = .ok (.getfield 15, 3) := by decide +kernel
theorem dX6_hasPulls_14 : decode cX6_hasPulls 14 = .ok (.iload_n 2, 1) := by decide +kernel
theorem dX6_hasPulls_15 : decode cX6_hasPulls 15 = .ok (.iaload, 1) := by decide +kernel
theorem dX6_hasPulls_16 : decode cX6_hasPulls 16 = .ok (.invokestatic 38, 3) := by decide +kernel
theorem dX6_hasPulls_19 : decode cX6_hasPulls 19 = .ok (.ifCond .ne 5, 3) := by decide +kernel
theorem dX6_hasPulls_22 : decode cX6_hasPulls 22 = .ok (.iconst 0, 1) := by decide +kernel
theorem dX6_hasPulls_23 : decode cX6_hasPulls 23 = .ok (.ireturn, 1) := by decide +kernel
theorem dX6_hasPulls_24 : decode cX6_hasPulls 24 = .ok (.iload_n 2, 1) := by decide +kernel
theorem dX6_hasPulls_25 : decode cX6_hasPulls 25 = .ok (.iconst 1, 1) := by decide +kernel
theorem dX6_hasPulls_26 : decode cX6_hasPulls 26 = .ok (.iload_n 1, 1) := by decide +kernel
theorem dX6_hasPulls_27 : decode cX6_hasPulls 27 = .ok (.invokestatic 9, 3) := by decide +kernel
theorem dX6_hasPulls_30 : decode cX6_hasPulls 30 = .ok (.iadd, 1) := by decide +kernel
theorem dX6_hasPulls_31 : decode cX6_hasPulls 31 = .ok (.istore_n 2, 1) := by decide +kernel
theorem dX6_hasPulls_32 : decode cX6_hasPulls 32 = .ok (.goto (-30), 3) := by decide +kernel
theorem dX6_hasPulls_35 : decode cX6_hasPulls 35 = .ok (.iconst 1, 1) := by decide +kernel
theorem dX6_hasPulls_36 : decode cX6_hasPulls 36 = .ok (.ireturn, 1) := by decide +kernel
theorem dX6_set_0 : decode cX6_set 0 = .ok (.aload_n 0, 1) := by decide +kernel
theorem dX6_set_1 : decode cX6_set 1 = .ok (.iload_n 1, 1) := by decide +kernel
theorem dX6_set_2 : decode cX6_set 2 = .ok (.invokevirtual 42, 3) := by decide +kernel
theorem dX6_set_5 : decode cX6_set 5 = .ok (.ifCond .eq 10, 3) := by decide +kernel
theorem dX6_set_8 : decode cX6_set 8 = .ok (.aload_n 0, 1) := by decide +kernel
theorem dX6_set_9 : decode cX6_set 9 = .ok (.getfield 15, 3) := by decide +kernel
theorem dX6_set_12 : decode cX6_set 12 = .ok (.iload_n 1, 1) := by decide +kernel
theorem dX6_set_13 : decode cX6_set 13 = .ok (.iload_n 2, 1) := by decide +kernel
theorem dX6_set_14 : decode cX6_set 14 = .ok (.iastore, 1) := by decide +kernel
theorem dX6_set_15 : decode cX6_set 15 = .ok (.return_, 1) := by decide +kernel
theorem dX6_sign_0 : decode cX6_sign 0 = .ok (.aload_n 0, 1) := by decide +kernel
theorem dX6_sign_1 : decode cX6_sign 1 = .ok (.iload_n 1, 1) := by decide +kernel
theorem dX6_sign_2 : decode cX6_sign 2 = .ok (.invokevirtual 42, 3) := by decide +kernel
theorem dX6_sign_5 : decode cX6_sign 5 = .ok (.ifCond .eq 12, 3) := by decide +kernel
theorem dX6_sign_8 : decode cX6_sign 8 = .ok (.aload_n 0, 1) := by decide +kernel
theorem dX6_sign_9 : decode cX6_sign 9 = .ok (.getfield 15, 3) := by decide +kernel
theorem dX6_sign_12 : decode cX6_sign 12 = .ok (.iload_n 1, 1) := by decide +kernel
theorem dX6_sign_13 : decode cX6_sign 13 = .ok (.iaload, 1) := by decide +kernel
theorem dX6_sign_14 : decode cX6_sign 14 = .ok (.goto 6, 3) := by decide +kernel
theorem dX6_sign_17 : decode cX6_sign 17 = .ok (.sipush 1000, 3) := by decide +kernel
theorem dX6_sign_20 : decode cX6_sign 20 = .ok (.ireturn, 1) := by decide +kernel
theorem dX6_figure_0 : decode cX6_figure 0 = .ok (.aload_n 0, 1) := by decide +kernel
theorem dX6_figure_1 : decode cX6_figure 1 = .ok (.iload_n 1, 1) := by decide +kernel
theorem dX6_figure_2 : decode cX6_figure 2 = .ok (.invokevirtual 45, 3) := by decide +kernel
theorem dX6_figure_5 : decode cX6_figure 5 = .ok (.bipush 48, 2) := by decide +kernel
theorem dX6_figure_7 : decode cX6_figure 7 = .ok (.isub, 1) := by decide +kernel
theorem dX6_figure_8 : decode cX6_figure 8 = .ok (.ireturn, 1) := by decide +kernel
theorem dX6_isFigure_0 : decode cX6_isFigure 0 = .ok (.aload_n 0, 1) := by decide +kernel
theorem dX6_isFigure_1 : decode cX6_isFigure 1 = .ok (.iload_n 1, 1) := by decide +kernel
theorem dX6_isFigure_2 : decode cX6_isFigure 2 = .ok (.invokevirtual 49, 3) := by decide +kernel
theorem dX6_isFigure_5 : decode cX6_isFigure 5 = .ok (.iload_n 2, 1) := by decide +kernel
theorem dX6_isFigure_6 : decode cX6_isFigure 6 = .ok (.if_icmp .lt 16, 3) := by decide +kernel
theorem dX6_isFigure_9 : decode cX6_isFigure 9 = .ok (.aload_n 0, 1) := by decide +kernel
theorem dX6_isFigure_10 : decode cX6_isFigure 10 = .ok (.iload_n 1, 1) := by decide +kernel
theorem dX6_isFigure_11 : decode cX6_isFigure 11 = .ok (.invokevirtual 49, 3) := by decide +kernel
theorem dX6_isFigure_14 : decode cX6_isFigure 14 = .ok (.iload_n 3, 1) := by decide +kernel
theorem dX6_isFigure_15 : decode cX6_isFigure 15 = .ok (.if_icmp .gt 7, 3) := by decide +kernel
theorem dX6_isFigure_18 : decode cX6_isFigure 18 = .ok (.iconst 1, 1) := by decide +kernel
theorem dX6_isFigure_19 : decode cX6_isFigure 19 = .ok (.goto 4, 3) := by decide +kernel
theorem dX6_isFigure_22 : decode cX6_isFigure 22 = .ok (.iconst 0, 1) := by decide +kernel
theorem dX6_isFigure_23 : decode cX6_isFigure 23 = .ok (.ireturn, 1) := by decide +kernel
theorem dX6_pastBlanks_0 : decode cX6_pastBlanks 0 = .ok (.iload_n 1, 1) := by decide +kernel
theorem dX6_pastBlanks_1 : decode cX6_pastBlanks 1 = .ok (.istore_n 2, 1) := by decide +kernel
theorem dX6_pastBlanks_2 : decode cX6_pastBlanks 2 = .ok (.iload_n 2, 1) := by decide +kernel
theorem dX6_pastBlanks_3 : decode cX6_pastBlanks 3 = .ok (.aload_n 0, 1) := by decide +kernel
theorem dX6_pastBlanks_4 : decode cX6_pastBlanks 4 = .ok (.getfield 28, 3) := by decide +kernel
theorem dX6_pastBlanks_7 : decode cX6_pastBlanks 7 = .ok (.if_icmp .ge 19, 3) := by decide +kernel
theorem dX6_pastBlanks_10 : decode cX6_pastBlanks 10 = .ok (.aload_n 0, 1) := by decide +kernel
theorem dX6_pastBlanks_11 : decode cX6_pastBlanks 11 = .ok (.iload_n 2, 1) := by decide +kernel
theorem dX6_pastBlanks_12 : decode cX6_pastBlanks 12 = .ok (.invokevirtual 45, 3) := by decide +kernel
theorem dX6_pastBlanks_15 : decode cX6_pastBlanks 15 = .ok (.bipush 32, 2) := by decide +kernel
theorem dX6_pastBlanks_17 : decode cX6_pastBlanks 17 = .ok (.if_icmp .ne 9, 3) := by decide +kernel
theorem dX6_pastBlanks_20 : decode cX6_pastBlanks 20 = .ok (.iinc 2 1, 3) := by decide +kernel
theorem dX6_pastBlanks_23 : decode cX6_pastBlanks 23 = .ok (.goto (-21), 3) := by decide +kernel
theorem dX6_pastBlanks_26 : decode cX6_pastBlanks 26 = .ok (.iload_n 2, 1) := by decide +kernel
theorem dX6_pastBlanks_27 : decode cX6_pastBlanks 27 = .ok (.ireturn, 1) := by decide +kernel
theorem dX6_digestOn_0 : decode cX6_digestOn 0 = .ok (.ldc2_w 52, 3) := by decide +kernel
theorem dX6_digestOn_3 : decode cX6_digestOn 3 = .ok (.lload_n 1, 1) := by decide +kernel
theorem dX6_digestOn_4 : decode cX6_digestOn 4 = .ok (.lmul, 1) := by decide +kernel
theorem dX6_digestOn_5 : decode cX6_digestOn 5 = .ok (.aload_n 0, 1) := by decide +kernel
theorem dX6_digestOn_6 : decode cX6_digestOn 6 = .ok (.getfield 21, 3) := by decide +kernel
theorem dX6_digestOn_9 : decode cX6_digestOn 9 = .ok (.ifCond .eq 10, 3) := by decide +kernel
theorem dX6_digestOn_12 : decode cX6_digestOn 12 = .ok (.aload_n 0, 1) := by decide +kernel
theorem dX6_digestOn_13 : decode cX6_digestOn 13 = .ok (.getfield 28, 3) := by decide +kernel
theorem dX6_digestOn_16 : decode cX6_digestOn 16 = .ok (.goto 4, 3) := by decide +kernel
theorem dX6_digestOn_19 : decode cX6_digestOn 19 = .ok (.iconst (-1), 1) := by decide +kernel
theorem dX6_digestOn_20 : decode cX6_digestOn 20 = .ok (.i2l, 1) := by decide +kernel
theorem dX6_digestOn_21 : decode cX6_digestOn 21 = .ok (.ladd, 1) := by decide +kernel
theorem dX6_digestOn_22 : decode cX6_digestOn 22 = .ok (.lstore_n 3, 1) := by decide +kernel
theorem dX6_digestOn_23 : decode cX6_digestOn 23 = .ok (.iconst 0, 1) := by decide +kernel
theorem dX6_digestOn_24 : decode cX6_digestOn 24 = .ok (.istore 5, 2) := by decide +kernel
theorem dX6_digestOn_26 : decode cX6_digestOn 26 = .ok (.iload 5, 2) := by decide +kernel
theorem dX6_digestOn_28 : decode cX6_digestOn 28 = .ok (.aload_n 0, 1) := by decide +kernel
theorem dX6_digestOn_29 : decode cX6_digestOn 29 = .ok (.getfield 28, 3) := by decide +kernel
theorem dX6_digestOn_32 : decode cX6_digestOn 32 = .ok (.if_icmp .ge 24, 3) := by decide +kernel
theorem dX6_digestOn_35 : decode cX6_digestOn 35 = .ok (.ldc2_w 52, 3) := by decide +kernel
theorem dX6_digestOn_38 : decode cX6_digestOn 38 = .ok (.lload_n 3, 1) := by decide +kernel
theorem dX6_digestOn_39 : decode cX6_digestOn 39 = .ok (.lmul, 1) := by decide +kernel
theorem dX6_digestOn_40 : decode cX6_digestOn 40 = .ok (.aload_n 0, 1) := by decide +kernel
theorem dX6_digestOn_41 : decode cX6_digestOn 41 = .ok (.getfield 15, 3) := by decide +kernel
theorem dX6_digestOn_44 : decode cX6_digestOn 44 = .ok (.iload 5, 2) := by decide +kernel
theorem dX6_digestOn_46 : decode cX6_digestOn 46 = .ok (.iaload, 1) := by decide +kernel
theorem dX6_digestOn_47 : decode cX6_digestOn 47 = .ok (.i2l, 1) := by decide +kernel
theorem dX6_digestOn_48 : decode cX6_digestOn 48 = .ok (.ladd, 1) := by decide +kernel
theorem dX6_digestOn_49 : decode cX6_digestOn 49 = .ok (.lstore_n 3, 1) := by decide +kernel
theorem dX6_digestOn_50 : decode cX6_digestOn 50 = .ok (.iinc 5 1, 3) := by decide +kernel
theorem dX6_digestOn_53 : decode cX6_digestOn 53 = .ok (.goto (-27), 3) := by decide +kernel
theorem dX6_digestOn_56 : decode cX6_digestOn 56 = .ok (.lload_n 3, 1) := by decide +kernel
theorem dX6_digestOn_57 : decode cX6_digestOn 57 = .ok (.lreturn, 1) := by decide +kernel
theorem dX7_init_0 : decode cX7_init 0 = .ok (.aload_n 0, 1) := by decide +kernel
theorem dX7_init_1 : decode cX7_init 1 = .ok (.invokespecial 5, 3) := by decide +kernel
theorem dX7_init_4 : decode cX7_init 4 = .ok (.aload_n 0, 1) := by decide +kernel
theorem dX7_init_5 : decode cX7_init 5 = .ok (.bipush 6, 2) := by decide +kernel
theorem dX7_init_7 : decode cX7_init 7 = .ok (.anewarray 11, 3) := by decide +kernel
theorem dX7_init_10 : decode cX7_init 10 = .ok (.putfield 13, 3) := by decide +kernel
theorem dX7_init_13 : decode cX7_init 13 = .ok (.aload_n 0, 1) := by decide +kernel
theorem dX7_init_14 : decode cX7_init 14 = .ok (.bipush 40, 2) := by decide +kernel
theorem dX7_init_16 : decode cX7_init 16 = .ok (.newarray .int, 2) := by decide +kernel
theorem dX7_init_18 : decode cX7_init 18 = .ok (.putfield 17, 3) := by decide +kernel
theorem dX7_init_21 : decode cX7_init 21 = .ok (.iconst 0, 1) := by decide +kernel
theorem dX7_init_22 : decode cX7_init 22 = .ok (.istore_n 1, 1) := by decide +kernel
theorem dX7_init_23 : decode cX7_init 23 = .ok (.iload_n 1, 1) := by decide +kernel
theorem dX7_init_24 : decode cX7_init 24 = .ok (.bipush 6, 2) := by decide +kernel
theorem dX7_init_26 : decode cX7_init 26 = .ok (.if_icmp .ge 22, 3) := by decide +kernel
theorem dX7_init_29 : decode cX7_init 29 = .ok (.aload_n 0, 1) := by decide +kernel
theorem dX7_init_30 : decode cX7_init 30 = .ok (.getfield 13, 3) := by decide +kernel
theorem dX7_init_33 : decode cX7_init 33 = .ok (.iload_n 1, 1) := by decide +kernel
theorem dX7_init_34 : decode cX7_init 34 = .ok (.new 11, 3) := by decide +kernel
theorem dX7_init_37 : decode cX7_init 37 = .ok (.dup, 1) := by decide +kernel
theorem dX7_init_38 : decode cX7_init 38 = .ok (.invokespecial 21, 3) := by decide +kernel
theorem dX7_init_41 : decode cX7_init 41 = .ok (.aastore, 1) := by decide +kernel
theorem dX7_init_42 : decode cX7_init 42 = .ok (.iinc 1 1, 3) := by decide +kernel
theorem dX7_init_45 : decode cX7_init 45 = .ok (.goto (-22), 3) := by decide +kernel
theorem dX7_init_48 : decode cX7_init 48 = .ok (.return_, 1) := by decide +kernel
theorem dX7_strokeDeed_0 : decode cX7_strokeDeed 0 = .ok (.iload_n 0, 1) := by decide +kernel
theorem dX7_strokeDeed_1 : decode cX7_strokeDeed 1 = .ok (.bipush 7, 2) := by decide +kernel
theorem dX7_strokeDeed_3 : decode cX7_strokeDeed 3 = .ok (.imul, 1) := by decide +kernel
theorem dX7_strokeDeed_4 : decode cX7_strokeDeed 4 = .ok (.iload_n 1, 1) := by decide +kernel
theorem dX7_strokeDeed_5 : decode cX7_strokeDeed 5 = .ok (.iadd, 1) := by decide +kernel
theorem dX7_strokeDeed_6 : decode cX7_strokeDeed 6 = .ok (.ireturn, 1) := by decide +kernel
theorem dX7_mendDeed_0 : decode cX7_mendDeed 0 = .ok (.bipush 42, 2) := by decide +kernel
theorem dX7_mendDeed_2 : decode cX7_mendDeed 2 = .ok (.iload_n 0, 1) := by decide +kernel
theorem dX7_mendDeed_3 : decode cX7_mendDeed 3 = .ok (.iadd, 1) := by decide +kernel
theorem dX7_mendDeed_4 : decode cX7_mendDeed 4 = .ok (.ireturn, 1) := by decide +kernel
theorem dX7_roundDeed_0 : decode cX7_roundDeed 0 = .ok (.iconst 0, 1) := by decide +kernel
theorem dX7_roundDeed_1 : decode cX7_roundDeed 1 = .ok (.istore_n 1, 1) := by decide +kernel
theorem dX7_roundDeed_2 : decode cX7_roundDeed 2 = .ok (.aload_n 0, 1) := by decide +kernel
theorem dX7_roundDeed_3 : decode cX7_roundDeed 3 = .ok (.getfield 22, 3) := by decide +kernel
theorem dX7_roundDeed_6 : decode cX7_roundDeed 6 = .ok (.iconst 1, 1) := by decide +kernel
theorem dX7_roundDeed_7 : decode cX7_roundDeed 7 = .ok (.isub, 1) := by decide +kernel
theorem dX7_roundDeed_8 : decode cX7_roundDeed 8 = .ok (.istore_n 2, 1) := by decide +kernel
theorem dX7_roundDeed_9 : decode cX7_roundDeed 9 = .ok (.iload_n 2, 1) := by decide +kernel
theorem dX7_roundDeed_10 : decode cX7_roundDeed 10 = .ok (.ifCond .lt 21, 3) := by decide +kernel
theorem dX7_roundDeed_13 : decode cX7_roundDeed 13 = .ok (.iload_n 1, 1) := by decide +kernel
theorem dX7_roundDeed_14 : decode cX7_roundDeed 14 = .ok (.bipush 7, 2) := by decide +kernel
theorem dX7_roundDeed_16 : decode cX7_roundDeed 16 = .ok (.imul, 1) := by decide +kernel
theorem dX7_roundDeed_17 : decode cX7_roundDeed 17 = .ok (.aload_n 0, 1) := by decide +kernel
theorem dX7_roundDeed_18 : decode cX7_roundDeed 18 = .ok (.getfield 28, 3) := by decide +kernel
theorem dX7_roundDeed_21 : decode cX7_roundDeed 21 = .ok (.iload_n 2, 1) := by decide +kernel
theorem dX7_roundDeed_22 : decode cX7_roundDeed 22 = .ok (.iaload, 1) := by decide +kernel
theorem dX7_roundDeed_23 : decode cX7_roundDeed 23 = .ok (.iadd, 1) := by decide +kernel
theorem dX7_roundDeed_24 : decode cX7_roundDeed 24 = .ok (.istore_n 1, 1) := by decide +kernel
theorem dX7_roundDeed_25 : decode cX7_roundDeed 25 = .ok (.iinc 2 (-1), 3) := by decide +kernel
theorem dX7_roundDeed_28 : decode cX7_roundDeed 28 = .ok (.goto (-19), 3) := by decide +kernel
theorem dX7_roundDeed_31 : decode cX7_roundDeed 31 = .ok (.bipush 48, 2) := by decide +kernel
theorem dX7_roundDeed_33 : decode cX7_roundDeed 33 = .ok (.iload_n 1, 1) := by decide +kernel
theorem dX7_roundDeed_34 : decode cX7_roundDeed 34 = .ok (.iadd, 1) := by decide +kernel
theorem dX7_roundDeed_35 : decode cX7_roundDeed 35 = .ok (.ireturn, 1) := by decide +kernel
theorem dX7_has_0 : decode cX7_has 0 = .ok (.iload_n 1, 1) := by decide +kernel
theorem dX7_has_1 : decode cX7_has 1 = .ok (.ifCond .lt 15, 3) := by decide +kernel
theorem dX7_has_4 : decode cX7_has 4 = .ok (.iload_n 1, 1) := by decide +kernel
theorem dX7_has_5 : decode cX7_has 5 = .ok (.aload_n 0, 1) := by decide +kernel
theorem dX7_has_6 : decode cX7_has 6 = .ok (.getfield 31, 3) := by decide +kernel
theorem dX7_has_9 : decode cX7_has 9 = .ok (.if_icmp .ge 7, 3) := by decide +kernel
theorem dX7_has_12 : decode cX7_has 12 = .ok (.iconst 1, 1) := by decide +kernel
theorem dX7_has_13 : decode cX7_has 13 = .ok (.goto 4, 3) := by decide +kernel
theorem dX7_has_16 : decode cX7_has 16 = .ok (.iconst 0, 1) := by decide +kernel
theorem dX7_has_17 : decode cX7_has 17 = .ok (.ireturn, 1) := by decide +kernel
theorem dX7_roomLeft_0 : decode cX7_roomLeft 0 = .ok (.bipush 40, 2) := by decide +kernel
theorem dX7_roomLeft_2 : decode cX7_roomLeft 2 = .ok (.aload_n 0, 1) := by decide +kernel
theorem dX7_roomLeft_3 : decode cX7_roomLeft 3 = .ok (.getfield 32, 3) := by decide +kernel
theorem dX7_roomLeft_6 : decode cX7_roomLeft 6 = .ok (.isub, 1) := by decide +kernel
theorem dX7_roomLeft_7 : decode cX7_roomLeft 7 = .ok (.ireturn, 1) := by decide +kernel
theorem dX7_clear_0 : decode cX7_clear 0 = .ok (.aload_n 0, 1) := by decide +kernel
theorem dX7_clear_1 : decode cX7_clear 1 = .ok (.iconst 0, 1) := by decide +kernel
theorem dX7_clear_2 : decode cX7_clear 2 = .ok (.putfield 31, 3) := by decide +kernel
theorem dX7_clear_5 : decode cX7_clear 5 = .ok (.aload_n 0, 1) := by decide +kernel
theorem dX7_clear_6 : decode cX7_clear 6 = .ok (.iconst 0, 1) := by decide +kernel
theorem dX7_clear_7 : decode cX7_clear 7 = .ok (.putfield 35, 3) := by decide +kernel
theorem dX7_clear_10 : decode cX7_clear 10 = .ok (.aload_n 0, 1) := by decide +kernel
theorem dX7_clear_11 : decode cX7_clear 11 = .ok (.iconst 0, 1) := by decide +kernel
theorem dX7_clear_12 : decode cX7_clear 12 = .ok (.putfield 32, 3) := by decide +kernel
theorem dX7_clear_15 : decode cX7_clear 15 = .ok (.return_, 1) := by decide +kernel
theorem dX7_addBell_0 : decode cX7_addBell 0 = .ok (.aload_n 0, 1) := by decide +kernel
theorem dX7_addBell_1 : decode cX7_addBell 1 = .ok (.getfield 31, 3) := by decide +kernel
theorem dX7_addBell_4 : decode cX7_addBell 4 = .ok (.bipush 6, 2) := by decide +kernel
theorem dX7_addBell_6 : decode cX7_addBell 6 = .ok (.if_icmp .ge 28, 3) := by decide +kernel
theorem dX7_addBell_9 : decode cX7_addBell 9 = .ok (.aload_n 0, 1) := by decide +kernel
theorem dX7_addBell_10 : decode cX7_addBell 10 = .ok (.getfield 13, 3) := by decide +kernel
theorem dX7_addBell_13 : decode cX7_addBell 13 = .ok (.aload_n 0, 1) := by decide +kernel
theorem dX7_addBell_14 : decode cX7_addBell 14 = .ok (.getfield 31, 3) := by decide +kernel
theorem dX7_addBell_17 : decode cX7_addBell 17 = .ok (.aaload, 1) := by decide +kernel
theorem dX7_addBell_18 : decode cX7_addBell 18 = .ok (.iload_n 1, 1) := by decide +kernel
theorem dX7_addBell_19 : decode cX7_addBell 19 = .ok (.iload_n 2, 1) := by decide +kernel
theorem dX7_addBell_20 : decode cX7_addBell 20 = .ok (.iload_n 3, 1) := by decide +kernel
theorem dX7_addBell_21 : decode cX7_addBell 21 = .ok (.invokevirtual 38, 3) := by decide +kernel
theorem dX7_addBell_24 : decode cX7_addBell 24 = .ok (.aload_n 0, 1) := by decide +kernel
theorem dX7_addBell_25 : decode cX7_addBell 25 = .ok (.dup, 1) := by decide +kernel
theorem dX7_addBell_26 : decode cX7_addBell 26 = .ok (.getfield 31, 3) := by decide +kernel
theorem dX7_addBell_29 : decode cX7_addBell 29 = .ok (.iconst 1, 1) := by decide +kernel
theorem dX7_addBell_30 : decode cX7_addBell 30 = .ok (.iadd, 1) := by decide +kernel
theorem dX7_addBell_31 : decode cX7_addBell 31 = .ok (.putfield 31, 3) := by decide +kernel
theorem dX7_addBell_34 : decode cX7_addBell 34 = .ok (.return_, 1) := by decide +kernel
theorem dX7_become_0 : decode cX7_become 0 = .ok (.aload_n 0, 1) := by decide +kernel
theorem dX7_become_1 : decode cX7_become 1 = .ok (.aload_n 1, 1) := by decide +kernel
theorem dX7_become_2 : decode cX7_become 2 = .ok (.getfield 31, 3) := by decide +kernel
theorem dX7_become_5 : decode cX7_become 5 = .ok (.putfield 31, 3) := by decide +kernel
theorem dX7_become_8 : decode cX7_become 8 = .ok (.aload_n 0, 1) := by decide +kernel
theorem dX7_become_9 : decode cX7_become 9 = .ok (.aload_n 1, 1) := by decide +kernel
theorem dX7_become_10 : decode cX7_become 10 = .ok (.getfield 35, 3) := by decide +kernel
theorem dX7_become_13 : decode cX7_become 13 = .ok (.putfield 35, 3) := by decide +kernel
theorem dX7_become_16 : decode cX7_become 16 = .ok (.aload_n 0, 1) := by decide +kernel
theorem dX7_become_17 : decode cX7_become 17 = .ok (.aload_n 1, 1) := by decide +kernel
theorem dX7_become_18 : decode cX7_become 18 = .ok (.getfield 32, 3) := by decide +kernel
theorem dX7_become_21 : decode cX7_become 21 = .ok (.putfield 32, 3) := by decide +kernel
theorem dX7_become_24 : decode cX7_become 24 = .ok (.iconst 0, 1) := by decide +kernel
theorem dX7_become_25 : decode cX7_become 25 = .ok (.istore_n 2, 1) := by decide +kernel
theorem dX7_become_26 : decode cX7_become 26 = .ok (.iload_n 2, 1) := by decide +kernel
theorem dX7_become_27 : decode cX7_become 27 = .ok (.aload_n 0, 1) := by decide +kernel
theorem dX7_become_28 : decode cX7_become 28 = .ok (.getfield 31, 3) := by decide +kernel
theorem dX7_become_31 : decode cX7_become 31 = .ok (.if_icmp .ge 24, 3) := by decide +kernel
theorem dX7_become_34 : decode cX7_become 34 = .ok (.aload_n 0, 1) := by decide +kernel
theorem dX7_become_35 : decode cX7_become 35 = .ok (.getfield 13, 3) := by decide +kernel
theorem dX7_become_38 : decode cX7_become 38 = .ok (.iload_n 2, 1) := by decide +kernel
theorem dX7_become_39 : decode cX7_become 39 = .ok (.aaload, 1) := by decide +kernel
theorem dX7_become_40 : decode cX7_become 40 = .ok (.aload_n 1, 1) := by decide +kernel
theorem dX7_become_41 : decode cX7_become 41 = .ok (.getfield 13, 3) := by decide +kernel
theorem dX7_become_44 : decode cX7_become 44 = .ok (.iload_n 2, 1) := by decide +kernel
theorem dX7_become_45 : decode cX7_become 45 = .ok (.aaload, 1) := by decide +kernel
theorem dX7_become_46 : decode cX7_become 46 = .ok (.invokevirtual 42, 3) := by decide +kernel
theorem dX7_become_49 : decode cX7_become 49 = .ok (.iinc 2 1, 3) := by decide +kernel
theorem dX7_become_52 : decode cX7_become 52 = .ok (.goto (-26), 3) := by decide +kernel
theorem dX7_become_55 : decode cX7_become 55 = .ok (.iconst 0, 1) := by decide +kernel
theorem dX7_become_56 : decode cX7_become 56 = .ok (.istore_n 2, 1) := by decide +kernel
theorem dX7_become_57 : decode cX7_become 57 = .ok (.iload_n 2, 1) := by decide +kernel
theorem dX7_become_58 : decode cX7_become 58 = .ok (.aload_n 0, 1) := by decide +kernel
theorem dX7_become_59 : decode cX7_become 59 = .ok (.getfield 32, 3) := by decide +kernel
theorem dX7_become_62 : decode cX7_become 62 = .ok (.if_icmp .ge 21, 3) := by decide +kernel
theorem dX7_become_65 : decode cX7_become 65 = .ok (.aload_n 0, 1) := by decide +kernel
theorem dX7_become_66 : decode cX7_become 66 = .ok (.getfield 17, 3) := by decide +kernel
theorem dX7_become_69 : decode cX7_become 69 = .ok (.iload_n 2, 1) := by decide +kernel
theorem dX7_become_70 : decode cX7_become 70 = .ok (.aload_n 1, 1) := by decide +kernel
theorem dX7_become_71 : decode cX7_become 71 = .ok (.getfield 17, 3) := by decide +kernel
theorem dX7_become_74 : decode cX7_become 74 = .ok (.iload_n 2, 1) := by decide +kernel
theorem dX7_become_75 : decode cX7_become 75 = .ok (.iaload, 1) := by decide +kernel
theorem dX7_become_76 : decode cX7_become 76 = .ok (.iastore, 1) := by decide +kernel
theorem dX7_become_77 : decode cX7_become 77 = .ok (.iinc 2 1, 3) := by decide +kernel
theorem dX7_become_80 : decode cX7_become 80 = .ok (.goto (-23), 3) := by decide +kernel
theorem dX7_become_83 : decode cX7_become 83 = .ok (.return_, 1) := by decide +kernel
theorem dX7_act_0 : decode cX7_act 0 = .ok (.aload_n 0, 1) := by decide +kernel
theorem dX7_act_1 : decode cX7_act 1 = .ok (.getfield 32, 3) := by decide +kernel
theorem dX7_act_4 : decode cX7_act 4 = .ok (.bipush 40, 2) := by decide +kernel
theorem dX7_act_6 : decode cX7_act 6 = .ok (.if_icmp .ge 28, 3) := by decide +kernel
theorem dX7_act_9 : decode cX7_act 9 = .ok (.aload_n 0, 1) := by decide +kernel
theorem dX7_act_10 : decode cX7_act 10 = .ok (.getfield 17, 3) := by decide +kernel
theorem dX7_act_13 : decode cX7_act 13 = .ok (.aload_n 0, 1) := by decide +kernel
theorem dX7_act_14 : decode cX7_act 14 = .ok (.getfield 32, 3) := by decide +kernel
theorem dX7_act_17 : decode cX7_act 17 = .ok (.iload_n 1, 1) := by decide +kernel
theorem dX7_act_18 : decode cX7_act 18 = .ok (.iastore, 1) := by decide +kernel
theorem dX7_act_19 : decode cX7_act 19 = .ok (.aload_n 0, 1) := by decide +kernel
theorem dX7_act_20 : decode cX7_act 20 = .ok (.dup, 1) := by decide +kernel
theorem dX7_act_21 : decode cX7_act 21 = .ok (.getfield 32, 3) := by decide +kernel
theorem dX7_act_24 : decode cX7_act 24 = .ok (.iconst 1, 1) := by decide +kernel
theorem dX7_act_25 : decode cX7_act 25 = .ok (.iadd, 1) := by decide +kernel
theorem dX7_act_26 : decode cX7_act 26 = .ok (.putfield 32, 3) := by decide +kernel
theorem dX7_act_29 : decode cX7_act 29 = .ok (.aload_n 0, 1) := by decide +kernel
theorem dX7_act_30 : decode cX7_act 30 = .ok (.iload_n 1, 1) := by decide +kernel
theorem dX7_act_31 : decode cX7_act 31 = .ok (.invokevirtual 46, 3) := by decide +kernel
theorem dX7_act_34 : decode cX7_act 34 = .ok (.return_, 1) := by decide +kernel
theorem dX7_rewindTo_0 : decode cX7_rewindTo 0 = .ok (.iconst 0, 1) := by decide +kernel
theorem dX7_rewindTo_1 : decode cX7_rewindTo 1 = .ok (.istore_n 2, 1) := by decide +kernel
theorem dX7_rewindTo_2 : decode cX7_rewindTo 2 = .ok (.iload_n 2, 1) := by decide +kernel
theorem dX7_rewindTo_3 : decode cX7_rewindTo 3 = .ok (.aload_n 0, 1) := by decide +kernel
theorem dX7_rewindTo_4 : decode cX7_rewindTo 4 = .ok (.getfield 31, 3) := by decide +kernel
theorem dX7_rewindTo_7 : decode cX7_rewindTo 7 = .ok (.if_icmp .ge 18, 3) := by decide +kernel
theorem dX7_rewindTo_10 : decode cX7_rewindTo 10 = .ok (.aload_n 0, 1) := by decide +kernel
theorem dX7_rewindTo_11 : decode cX7_rewindTo 11 = .ok (.getfield 13, 3) := by decide +kernel
theorem dX7_rewindTo_14 : decode cX7_rewindTo 14 = .ok (.iload_n 2, 1) := by decide +kernel
theorem dX7_rewindTo_15 : decode cX7_rewindTo 15 = .ok (.aaload, 1) := by decide +kernel
theorem dX7_rewindTo_16 : decode cX7_rewindTo 16 = .ok (.invokevirtual 50, 3) := by decide +kernel
theorem dX7_rewindTo_19 : decode cX7_rewindTo 19 = .ok (.iinc 2 1, 3) := by decide +kernel
theorem dX7_rewindTo_22 : decode cX7_rewindTo 22 = .ok (.goto (-20), 3) := by decide +kernel
theorem dX7_rewindTo_25 : decode cX7_rewindTo 25 = .ok (.aload_n 0, 1) := by decide +kernel
theorem dX7_rewindTo_26 : decode cX7_rewindTo 26 = .ok (.iconst 0, 1) := by decide +kernel
theorem dX7_rewindTo_27 : decode cX7_rewindTo 27 = .ok (.iload_n 1, 1) := by decide +kernel
theorem dX7_rewindTo_28 : decode cX7_rewindTo 28 = .ok (.aload_n 0, 1) := by decide +kernel
theorem dX7_rewindTo_29 : decode cX7_rewindTo 29 = .ok (.getfield 32, 3) := by decide +kernel
theorem dX7_rewindTo_32 : decode cX7_rewindTo 32 = .ok (.invokestatic 53, 3) := by decide +kernel
theorem dX7_rewindTo_35 : decode cX7_rewindTo 35 = .ok (.invokestatic 59, 3) := by decide +kernel
theorem dX7_rewindTo_38 : decode cX7_rewindTo 38 = .ok (.putfield 32, 3) := by decide +kernel
theorem dX7_rewindTo_41 : decode cX7_rewindTo 41 = .ok (.iconst 0, 1) := by decide +kernel
theorem dX7_rewindTo_42 : decode cX7_rewindTo 42 = .ok (.istore_n 2, 1) := by decide +kernel
theorem dX7_rewindTo_43 : decode cX7_rewindTo 43 = .ok (.iload_n 2, 1) := by decide +kernel
theorem dX7_rewindTo_44 : decode cX7_rewindTo 44 = .ok (.aload_n 0, 1) := by decide +kernel
theorem dX7_rewindTo_45 : decode cX7_rewindTo 45 = .ok (.getfield 32, 3) := by decide +kernel
theorem dX7_rewindTo_48 : decode cX7_rewindTo 48 = .ok (.if_icmp .ge 19, 3) := by decide +kernel
theorem dX7_rewindTo_51 : decode cX7_rewindTo 51 = .ok (.aload_n 0, 1) := by decide +kernel
theorem dX7_rewindTo_52 : decode cX7_rewindTo 52 = .ok (.aload_n 0, 1) := by decide +kernel
theorem dX7_rewindTo_53 : decode cX7_rewindTo 53 = .ok (.getfield 17, 3) := by decide +kernel
theorem dX7_rewindTo_56 : decode cX7_rewindTo 56 = .ok (.iload_n 2, 1) := by decide +kernel
theorem dX7_rewindTo_57 : decode cX7_rewindTo 57 = .ok (.iaload, 1) := by decide +kernel
theorem dX7_rewindTo_58 : decode cX7_rewindTo 58 = .ok (.invokevirtual 46, 3) := by decide +kernel
theorem dX7_rewindTo_61 : decode cX7_rewindTo 61 = .ok (.iinc 2 1, 3) := by decide +kernel
theorem dX7_rewindTo_64 : decode cX7_rewindTo 64 = .ok (.goto (-21), 3) := by decide +kernel
theorem dX7_rewindTo_67 : decode cX7_rewindTo 67 = .ok (.return_, 1) := by decide +kernel
theorem dX7_perform_0 : decode cX7_perform 0 = .ok (.iload_n 1, 1) := by decide +kernel
theorem dX7_perform_1 : decode cX7_perform 1 = .ok (.bipush 48, 2) := by decide +kernel
theorem dX7_perform_3 : decode cX7_perform 3 = .ok (.if_icmp .lt 45, 3) := by decide +kernel
theorem dX7_perform_6 : decode cX7_perform 6 = .ok (.iload_n 1, 1) := by decide +kernel
theorem dX7_perform_7 : decode cX7_perform 7 = .ok (.bipush 48, 2) := by decide +kernel
theorem dX7_perform_9 : decode cX7_perform 9 = .ok (.isub, 1) := by decide +kernel
theorem dX7_perform_10 : decode cX7_perform 10 = .ok (.istore_n 2, 1) := by decide +kernel
theorem dX7_perform_11 : decode cX7_perform 11 = .ok (.iconst 0, 1) := by decide +kernel
theorem dX7_perform_12 : decode cX7_perform 12 = .ok (.istore_n 3, 1) := by decide +kernel
theorem dX7_perform_13 : decode cX7_perform 13 = .ok (.iload_n 3, 1) := by decide +kernel
theorem dX7_perform_14 : decode cX7_perform 14 = .ok (.aload_n 0, 1) := by decide +kernel
theorem dX7_perform_15 : decode cX7_perform 15 = .ok (.getfield 31, 3) := by decide +kernel
theorem dX7_perform_18 : decode cX7_perform 18 = .ok (.if_icmp .ge 27, 3) := by decide +kernel
theorem dX7_perform_21 : decode cX7_perform 21 = .ok (.aload_n 0, 1) := by decide +kernel
theorem dX7_perform_22 : decode cX7_perform 22 = .ok (.getfield 13, 3) := by decide +kernel
theorem dX7_perform_25 : decode cX7_perform 25 = .ok (.iload_n 3, 1) := by decide +kernel
theorem dX7_perform_26 : decode cX7_perform 26 = .ok (.aaload, 1) := by decide +kernel
theorem dX7_perform_27 : decode cX7_perform 27 = .ok (.iload_n 2, 1) := by decide +kernel
theorem dX7_perform_28 : decode cX7_perform 28 = .ok (.bipush 7, 2) := by decide +kernel
theorem dX7_perform_30 : decode cX7_perform 30 = .ok (.irem, 1) := by decide +kernel
theorem dX7_perform_31 : decode cX7_perform 31 = .ok (.invokevirtual 62, 3) := by decide +kernel
theorem dX7_perform_34 : decode cX7_perform 34 = .ok (.iload_n 2, 1) := by decide +kernel
theorem dX7_perform_35 : decode cX7_perform 35 = .ok (.bipush 7, 2) := by decide +kernel
theorem dX7_perform_37 : decode cX7_perform 37 = .ok (.idiv, 1) := by decide +kernel
theorem dX7_perform_38 : decode cX7_perform 38 = .ok (.istore_n 2, 1) := by decide +kernel
theorem dX7_perform_39 : decode cX7_perform 39 = .ok (.iinc 3 1, 3) := by decide +kernel
theorem dX7_perform_42 : decode cX7_perform 42 = .ok (.goto (-29), 3) := by decide +kernel
theorem dX7_perform_45 : decode cX7_perform 45 = .ok (.goto 62, 3) := by decide +kernel
theorem dX7_perform_48 : decode cX7_perform 48 = .ok (.iload_n 1, 1) := by decide +kernel
theorem dX7_perform_49 : decode cX7_perform 49 = .ok (.bipush 42, 2) := by decide +kernel
theorem dX7_perform_51 : decode cX7_perform 51 = .ok (.if_icmp .lt 29, 3) := by decide +kernel
theorem dX7_perform_54 : decode cX7_perform 54 = .ok (.aload_n 0, 1) := by decide +kernel
theorem dX7_perform_55 : decode cX7_perform 55 = .ok (.iload_n 1, 1) := by decide +kernel
theorem dX7_perform_56 : decode cX7_perform 56 = .ok (.bipush 42, 2) := by decide +kernel
theorem dX7_perform_58 : decode cX7_perform 58 = .ok (.isub, 1) := by decide +kernel
theorem dX7_perform_59 : decode cX7_perform 59 = .ok (.invokevirtual 65, 3) := by decide +kernel
theorem dX7_perform_62 : decode cX7_perform 62 = .ok (.ifCond .eq 45, 3) := by decide +kernel
theorem dX7_perform_65 : decode cX7_perform 65 = .ok (.aload_n 0, 1) := by decide +kernel
theorem dX7_perform_66 : decode cX7_perform 66 = .ok (.getfield 13, 3) := by decide +kernel
theorem dX7_perform_69 : decode cX7_perform 69 = .ok (.iload_n 1, 1) := by decide +kernel
theorem dX7_perform_70 : decode cX7_perform 70 = .ok (.bipush 42, 2) := by decide +kernel
theorem dX7_perform_72 : decode cX7_perform 72 = .ok (.isub, 1) := by decide +kernel
theorem dX7_perform_73 : decode cX7_perform 73 = .ok (.aaload, 1) := by decide +kernel
theorem dX7_perform_74 : decode cX7_perform 74 = .ok (.invokevirtual 69, 3) := by decide +kernel
theorem dX7_perform_77 : decode cX7_perform 77 = .ok (.goto 30, 3) := by decide +kernel
theorem dX7_perform_80 : decode cX7_perform 80 = .ok (.aload_n 0, 1) := by decide +kernel
theorem dX7_perform_81 : decode cX7_perform 81 = .ok (.iload_n 1, 1) := by decide +kernel
theorem dX7_perform_82 : decode cX7_perform 82 = .ok (.bipush 7, 2) := by decide +kernel
theorem dX7_perform_84 : decode cX7_perform 84 = .ok (.idiv, 1) := by decide +kernel
theorem dX7_perform_85 : decode cX7_perform 85 = .ok (.invokevirtual 65, 3) := by decide +kernel
theorem dX7_perform_88 : decode cX7_perform 88 = .ok (.ifCond .eq 19, 3) := by decide +kernel
theorem dX7_perform_91 : decode cX7_perform 91 = .ok (.aload_n 0, 1) := by decide +kernel
theorem dX7_perform_92 : decode cX7_perform 92 = .ok (.getfield 13, 3) := by decide +kernel
theorem dX7_perform_95 : decode cX7_perform 95 = .ok (.iload_n 1, 1) := by decide +kernel
theorem dX7_perform_96 : decode cX7_perform 96 = .ok (.bipush 7, 2) := by decide +kernel
theorem dX7_perform_98 : decode cX7_perform 98 = .ok (.idiv, 1) := by decide +kernel
theorem dX7_perform_99 : decode cX7_perform 99 = .ok (.aaload, 1) := by decide +kernel
theorem dX7_perform_100 : decode cX7_perform 100 = .ok (.iload_n 1, 1) := by decide +kernel
theorem dX7_perform_101 : decode cX7_perform 101 = .ok (.bipush 7, 2) := by decide +kernel
theorem dX7_perform_103 : decode cX7_perform 103 = .ok (.irem, 1) := by decide +kernel
theorem dX7_perform_104 : decode cX7_perform 104 = .ok (.invokevirtual 62, 3) := by decide +kernel
theorem dX7_perform_107 : decode cX7_perform 107 = .ok (.return_, 1) := by decide +kernel
theorem dX7_tenthsBy_0 : decode cX7_tenthsBy 0 = .ok (.aload_n 0, 1) := by decide +kernel
theorem dX7_tenthsBy_1 : decode cX7_tenthsBy 1 = .ok (.iload_n 1, 1) := by decide +kernel
theorem dX7_tenthsBy_2 : decode cX7_tenthsBy 2 = .ok (.invokevirtual 65, 3) := by decide +kernel
theorem dX7_tenthsBy_5 : decode cX7_tenthsBy 5 = .ok (.ifCond .ne 6, 3) := by decide +kernel
theorem dX7_tenthsBy_8 : decode cX7_tenthsBy 8 = .ok (.bipush (-9), 2) := by decide +kernel
theorem dX7_tenthsBy_10 : decode cX7_tenthsBy 10 = .ok (.ireturn, 1) := by decide +kernel
theorem dX7_tenthsBy_11 : decode cX7_tenthsBy 11 = .ok (.aload_n 0, 1) := by decide +kernel
theorem dX7_tenthsBy_12 : decode cX7_tenthsBy 12 = .ok (.getfield 13, 3) := by decide +kernel
theorem dX7_tenthsBy_15 : decode cX7_tenthsBy 15 = .ok (.iload_n 1, 1) := by decide +kernel
theorem dX7_tenthsBy_16 : decode cX7_tenthsBy 16 = .ok (.aaload, 1) := by decide +kernel
theorem dX7_tenthsBy_17 : decode cX7_tenthsBy 17 = .ok (.astore_n 3, 1) := by decide +kernel
theorem dX7_tenthsBy_18 : decode cX7_tenthsBy 18 = .ok (.aload_n 3, 1) := by decide +kernel
theorem dX7_tenthsBy_19 : decode cX7_tenthsBy 19 = .ok (.getfield 72, 3) := by decide +kernel
theorem dX7_tenthsBy_22 : decode cX7_tenthsBy 22 = .ok (.aload_n 3, 1) := by decide +kernel
theorem dX7_tenthsBy_23 : decode cX7_tenthsBy 23 = .ok (.getfield 75, 3) := by decide +kernel
theorem dX7_tenthsBy_26 : decode cX7_tenthsBy 26 = .ok (.aload_n 0, 1) := by decide +kernel
theorem dX7_tenthsBy_27 : decode cX7_tenthsBy 27 = .ok (.getfield 35, 3) := by decide +kernel
theorem dX7_tenthsBy_30 : decode cX7_tenthsBy 30 = .ok (.aload_n 3, 1) := by decide +kernel
theorem dX7_tenthsBy_31 : decode cX7_tenthsBy 31 = .ok (.getfield 72, 3) := by decide +kernel
theorem dX7_tenthsBy_34 : decode cX7_tenthsBy 34 = .ok (.aload_n 3, 1) := by decide +kernel
theorem dX7_tenthsBy_35 : decode cX7_tenthsBy 35 = .ok (.getfield 78, 3) := by decide +kernel
theorem dX7_tenthsBy_38 : decode cX7_tenthsBy 38 = .ok (.iload_n 2, 1) := by decide +kernel
theorem dX7_tenthsBy_39 : decode cX7_tenthsBy 39 = .ok (.invokestatic 81, 3) := by decide +kernel
theorem dX7_tenthsBy_42 : decode cX7_tenthsBy 42 = .ok (.invokestatic 85, 3) := by decide +kernel
theorem dX7_tenthsBy_45 : decode cX7_tenthsBy 45 = .ok (.ireturn, 1) := by decide +kernel
theorem dX7_ringing_0 : decode cX7_ringing 0 = .ok (.aload_n 0, 1) := by decide +kernel
theorem dX7_ringing_1 : decode cX7_ringing 1 = .ok (.getfield 31, 3) := by decide +kernel
theorem dX7_ringing_4 : decode cX7_ringing 4 = .ok (.aload_n 0, 1) := by decide +kernel
theorem dX7_ringing_5 : decode cX7_ringing 5 = .ok (.invokevirtual 89, 3) := by decide +kernel
theorem dX7_ringing_8 : decode cX7_ringing 8 = .ok (.invokestatic 93, 3) := by decide +kernel
theorem dX7_ringing_11 : decode cX7_ringing 11 = .ok (.isub, 1) := by decide +kernel
theorem dX7_ringing_12 : decode cX7_ringing 12 = .ok (.ireturn, 1) := by decide +kernel
theorem dX7_overBits_0 : decode cX7_overBits 0 = .ok (.iconst 0, 1) := by decide +kernel
theorem dX7_overBits_1 : decode cX7_overBits 1 = .ok (.istore_n 1, 1) := by decide +kernel
theorem dX7_overBits_2 : decode cX7_overBits 2 = .ok (.iconst 0, 1) := by decide +kernel
theorem dX7_overBits_3 : decode cX7_overBits 3 = .ok (.istore_n 2, 1) := by decide +kernel
theorem dX7_overBits_4 : decode cX7_overBits 4 = .ok (.iload_n 2, 1) := by decide +kernel
theorem dX7_overBits_5 : decode cX7_overBits 5 = .ok (.aload_n 0, 1) := by decide +kernel
theorem dX7_overBits_6 : decode cX7_overBits 6 = .ok (.getfield 31, 3) := by decide +kernel
theorem dX7_overBits_9 : decode cX7_overBits 9 = .ok (.if_icmp .ge 27, 3) := by decide +kernel
theorem dX7_overBits_12 : decode cX7_overBits 12 = .ok (.aload_n 0, 1) := by decide +kernel
theorem dX7_overBits_13 : decode cX7_overBits 13 = .ok (.getfield 13, 3) := by decide +kernel
theorem dX7_overBits_16 : decode cX7_overBits 16 = .ok (.iload_n 2, 1) := by decide +kernel
theorem dX7_overBits_17 : decode cX7_overBits 17 = .ok (.aaload, 1) := by decide +kernel
theorem dX7_overBits_18 : decode cX7_overBits 18 = .ok (.getfield 99, 3) := by decide +kernel
theorem dX7_overBits_21 : decode cX7_overBits 21 = .ok (.ifCond .eq 9, 3) := by decide +kernel
theorem dX7_overBits_24 : decode cX7_overBits 24 = .ok (.iload_n 1, 1) := by decide +kernel
theorem dX7_overBits_25 : decode cX7_overBits 25 = .ok (.iconst 1, 1) := by decide +kernel
theorem dX7_overBits_26 : decode cX7_overBits 26 = .ok (.iload_n 2, 1) := by decide +kernel
theorem dX7_overBits_27 : decode cX7_overBits 27 = .ok (.ishl, 1) := by decide +kernel
theorem dX7_overBits_28 : decode cX7_overBits 28 = .ok (.ior, 1) := by decide +kernel
theorem dX7_overBits_29 : decode cX7_overBits 29 = .ok (.istore_n 1, 1) := by decide +kernel
theorem dX7_overBits_30 : decode cX7_overBits 30 = .ok (.iinc 2 1, 3) := by decide +kernel
theorem dX7_overBits_33 : decode cX7_overBits 33 = .ok (.goto (-29), 3) := by decide +kernel
theorem dX7_overBits_36 : decode cX7_overBits 36 = .ok (.iload_n 1, 1) := by decide +kernel
theorem dX7_overBits_37 : decode cX7_overBits 37 = .ok (.ireturn, 1) := by decide +kernel
theorem dX7_standing_0 : decode cX7_standing 0 = .ok (.iconst 0, 1) := by decide +kernel
theorem dX7_standing_1 : decode cX7_standing 1 = .ok (.istore_n 1, 1) := by decide +kernel
theorem dX7_standing_2 : decode cX7_standing 2 = .ok (.iconst 0, 1) := by decide +kernel
theorem dX7_standing_3 : decode cX7_standing 3 = .ok (.istore_n 2, 1) := by decide +kernel
theorem dX7_standing_4 : decode cX7_standing 4 = .ok (.iload_n 2, 1) := by decide +kernel
theorem dX7_standing_5 : decode cX7_standing 5 = .ok (.aload_n 0, 1) := by decide +kernel
theorem dX7_standing_6 : decode cX7_standing 6 = .ok (.getfield 31, 3) := by decide +kernel
theorem dX7_standing_9 : decode cX7_standing 9 = .ok (.if_icmp .ge 22, 3) := by decide +kernel
theorem dX7_standing_12 : decode cX7_standing 12 = .ok (.iload_n 1, 1) := by decide +kernel
theorem dX7_standing_13 : decode cX7_standing 13 = .ok (.aload_n 0, 1) := by decide +kernel
theorem dX7_standing_14 : decode cX7_standing 14 = .ok (.getfield 13, 3) := by decide +kernel
theorem dX7_standing_17 : decode cX7_standing 17 = .ok (.iload_n 2, 1) := by decide +kernel
theorem dX7_standing_18 : decode cX7_standing 18 = .ok (.aaload, 1) := by decide +kernel
theorem dX7_standing_19 : decode cX7_standing 19 = .ok (.iconst 4, 1) := by decide +kernel
theorem dX7_standing_20 : decode cX7_standing 20 = .ok (.invokevirtual 103, 3) := by decide +kernel
theorem dX7_standing_23 : decode cX7_standing 23 = .ok (.iadd, 1) := by decide +kernel
theorem dX7_standing_24 : decode cX7_standing 24 = .ok (.istore_n 1, 1) := by decide +kernel
theorem dX7_standing_25 : decode cX7_standing 25 = .ok (.iinc 2 1, 3) := by decide +kernel
theorem dX7_standing_28 : decode cX7_standing 28 = .ok (.goto (-24), 3) := by decide +kernel
theorem dX7_standing_31 : decode cX7_standing 31 = .ok (.iload_n 1, 1) := by decide +kernel
theorem dX7_standing_32 : decode cX7_standing 32 = .ok (.ireturn, 1) := by decide +kernel
theorem dX7_heavyOnes_0 : decode cX7_heavyOnes 0 = .ok (.iconst 0, 1) := by decide +kernel
theorem dX7_heavyOnes_1 : decode cX7_heavyOnes 1 = .ok (.istore_n 1, 1) := by decide +kernel
theorem dX7_heavyOnes_2 : decode cX7_heavyOnes 2 = .ok (.iconst 0, 1) := by decide +kernel
theorem dX7_heavyOnes_3 : decode cX7_heavyOnes 3 = .ok (.istore_n 2, 1) := by decide +kernel
theorem dX7_heavyOnes_4 : decode cX7_heavyOnes 4 = .ok (.iload_n 2, 1) := by decide +kernel
theorem dX7_heavyOnes_5 : decode cX7_heavyOnes 5 = .ok (.aload_n 0, 1) := by decide +kernel
theorem dX7_heavyOnes_6 : decode cX7_heavyOnes 6 = .ok (.getfield 31, 3) := by decide +kernel
theorem dX7_heavyOnes_9 : decode cX7_heavyOnes 9 = .ok (.if_icmp .ge 28, 3) := by decide +kernel
theorem dX7_heavyOnes_12 : decode cX7_heavyOnes 12 = .ok (.aload_n 0, 1) := by decide +kernel
theorem dX7_heavyOnes_13 : decode cX7_heavyOnes 13 = .ok (.getfield 13, 3) := by decide +kernel
theorem dX7_heavyOnes_16 : decode cX7_heavyOnes 16 = .ok (.iload_n 2, 1) := by decide +kernel
theorem dX7_heavyOnes_17 : decode cX7_heavyOnes 17 = .ok (.aaload, 1) := by decide +kernel
theorem dX7_heavyOnes_18 : decode cX7_heavyOnes 18 = .ok (.getfield 72, 3) := by decide +kernel
theorem dX7_heavyOnes_21 : decode cX7_heavyOnes 21 = .ok (.iconst 1, 1) := by decide +kernel
theorem dX7_heavyOnes_22 : decode cX7_heavyOnes 22 = .ok (.invokestatic 106, 3) := by decide +kernel
theorem dX7_heavyOnes_25 : decode cX7_heavyOnes 25 = .ok (.ifCond .eq 6, 3) := by decide +kernel
theorem dX7_heavyOnes_28 : decode cX7_heavyOnes 28 = .ok (.iinc 1 1, 3) := by decide +kernel
theorem dX7_heavyOnes_31 : decode cX7_heavyOnes 31 = .ok (.iinc 2 1, 3) := by decide +kernel
theorem dX7_heavyOnes_34 : decode cX7_heavyOnes 34 = .ok (.goto (-30), 3) := by decide +kernel
theorem dX7_heavyOnes_37 : decode cX7_heavyOnes 37 = .ok (.iload_n 1, 1) := by decide +kernel
theorem dX7_heavyOnes_38 : decode cX7_heavyOnes 38 = .ok (.ireturn, 1) := by decide +kernel
theorem dX7_isOrder_0 : decode cX7_isOrder 0 = .ok (.aload_n 0, 1) := by decide +kernel
theorem dX7_isOrder_1 : decode cX7_isOrder 1 = .ok (.invokevirtual 89, 3) := by decide +kernel
theorem dX7_isOrder_4 : decode cX7_isOrder 4 = .ok (.istore_n 2, 1) := by decide +kernel
theorem dX7_isOrder_5 : decode cX7_isOrder 5 = .ok (.iconst 0, 1) := by decide +kernel
theorem dX7_isOrder_6 : decode cX7_isOrder 6 = .ok (.istore_n 3, 1) := by decide +kernel
theorem dX7_isOrder_7 : decode cX7_isOrder 7 = .ok (.iload_n 3, 1) := by decide +kernel
theorem dX7_isOrder_8 : decode cX7_isOrder 8 = .ok (.aload_n 1, 1) := by decide +kernel
theorem dX7_isOrder_9 : decode cX7_isOrder 9 = .ok (.getfield 22, 3) := by decide +kernel
theorem dX7_isOrder_12 : decode cX7_isOrder 12 = .ok (.if_icmp .ge 44, 3) := by decide +kernel
theorem dX7_isOrder_15 : decode cX7_isOrder 15 = .ok (.aload_n 1, 1) := by decide +kernel
theorem dX7_isOrder_16 : decode cX7_isOrder 16 = .ok (.getfield 28, 3) := by decide +kernel
theorem dX7_isOrder_19 : decode cX7_isOrder 19 = .ok (.iload_n 3, 1) := by decide +kernel
theorem dX7_isOrder_20 : decode cX7_isOrder 20 = .ok (.iaload, 1) := by decide +kernel
theorem dX7_isOrder_21 : decode cX7_isOrder 21 = .ok (.istore 4, 2) := by decide +kernel
theorem dX7_isOrder_23 : decode cX7_isOrder 23 = .ok (.aload_n 0, 1) := by decide +kernel
theorem dX7_isOrder_24 : decode cX7_isOrder 24 = .ok (.iload 4, 2) := by decide +kernel
theorem dX7_isOrder_26 : decode cX7_isOrder 26 = .ok (.invokevirtual 65, 3) := by decide +kernel
theorem dX7_isOrder_29 : decode cX7_isOrder 29 = .ok (.ifCond .eq 12, 3) := by decide +kernel
theorem dX7_isOrder_32 : decode cX7_isOrder 32 = .ok (.iload_n 2, 1) := by decide +kernel
theorem dX7_isOrder_33 : decode cX7_isOrder 33 = .ok (.iload 4, 2) := by decide +kernel
theorem dX7_isOrder_35 : decode cX7_isOrder 35 = .ok (.ishr, 1) := by decide +kernel
theorem dX7_isOrder_36 : decode cX7_isOrder 36 = .ok (.iconst 1, 1) := by decide +kernel
theorem dX7_isOrder_37 : decode cX7_isOrder 37 = .ok (.iand, 1) := by decide +kernel
theorem dX7_isOrder_38 : decode cX7_isOrder 38 = .ok (.ifCond .eq 5, 3) := by decide +kernel
theorem dX7_isOrder_41 : decode cX7_isOrder 41 = .ok (.iconst 0, 1) := by decide +kernel
theorem dX7_isOrder_42 : decode cX7_isOrder 42 = .ok (.ireturn, 1) := by decide +kernel
theorem dX7_isOrder_43 : decode cX7_isOrder 43 = .ok (.iload_n 2, 1) := by decide +kernel
theorem dX7_isOrder_44 : decode cX7_isOrder 44 = .ok (.iconst 1, 1) := by decide +kernel
theorem dX7_isOrder_45 : decode cX7_isOrder 45 = .ok (.iload 4, 2) := by decide +kernel
theorem dX7_isOrder_47 : decode cX7_isOrder 47 = .ok (.ishl, 1) := by decide +kernel
theorem dX7_isOrder_48 : decode cX7_isOrder 48 = .ok (.ior, 1) := by decide +kernel
theorem dX7_isOrder_49 : decode cX7_isOrder 49 = .ok (.istore_n 2, 1) := by decide +kernel
theorem dX7_isOrder_50 : decode cX7_isOrder 50 = .ok (.iinc 3 1, 3) := by decide +kernel
theorem dX7_isOrder_53 : decode cX7_isOrder 53 = .ok (.goto (-46), 3) := by decide +kernel
theorem dX7_isOrder_56 : decode cX7_isOrder 56 = .ok (.iconst 1, 1) := by decide +kernel
theorem dX7_isOrder_57 : decode cX7_isOrder 57 = .ok (.ireturn, 1) := by decide +kernel
theorem dX7_rankBy_0 : decode cX7_rankBy 0 = .ok (.aload_n 0, 1) := by decide +kernel
theorem dX7_rankBy_1 : decode cX7_rankBy 1 = .ok (.iload_n 1, 1) := by decide +kernel
theorem dX7_rankBy_2 : decode cX7_rankBy 2 = .ok (.iload_n 2, 1) := by decide +kernel
theorem dX7_rankBy_3 : decode cX7_rankBy 3 = .ok (.invokevirtual 110, 3) := by decide +kernel
theorem dX7_rankBy_6 : decode cX7_rankBy 6 = .ok (.istore_n 3, 1) := by decide +kernel
theorem dX7_rankBy_7 : decode cX7_rankBy 7 = .ok (.iload_n 3, 1) := by decide +kernel
theorem dX7_rankBy_8 : decode cX7_rankBy 8 = .ok (.bipush (-9), 2) := by decide +kernel
theorem dX7_rankBy_10 : decode cX7_rankBy 10 = .ok (.if_icmp .ne 8, 3) := by decide +kernel
theorem dX7_rankBy_13 : decode cX7_rankBy 13 = .ok (.bipush (-9), 2) := by decide +kernel
theorem dX7_rankBy_15 : decode cX7_rankBy 15 = .ok (.goto 13, 3) := by decide +kernel
theorem dX7_rankBy_18 : decode cX7_rankBy 18 = .ok (.iconst 2, 1) := by decide +kernel
theorem dX7_rankBy_19 : decode cX7_rankBy 19 = .ok (.iload_n 1, 1) := by decide +kernel
theorem dX7_rankBy_20 : decode cX7_rankBy 20 = .ok (.imul, 1) := by decide +kernel
theorem dX7_rankBy_21 : decode cX7_rankBy 21 = .ok (.iload_n 3, 1) := by decide +kernel
theorem dX7_rankBy_22 : decode cX7_rankBy 22 = .ok (.iadd, 1) := by decide +kernel
theorem dX7_rankBy_23 : decode cX7_rankBy 23 = .ok (.bipush 6, 2) := by decide +kernel
theorem dX7_rankBy_25 : decode cX7_rankBy 25 = .ok (.imul, 1) := by decide +kernel
theorem dX7_rankBy_26 : decode cX7_rankBy 26 = .ok (.iload_n 1, 1) := by decide +kernel
theorem dX7_rankBy_27 : decode cX7_rankBy 27 = .ok (.iadd, 1) := by decide +kernel
theorem dX7_rankBy_28 : decode cX7_rankBy 28 = .ok (.ireturn, 1) := by decide +kernel
theorem dX7_soonestPull_0 : decode cX7_soonestPull 0 = .ok (.iconst 0, 1) := by decide +kernel
theorem dX7_soonestPull_1 : decode cX7_soonestPull 1 = .ok (.istore_n 3, 1) := by decide +kernel
theorem dX7_soonestPull_2 : decode cX7_soonestPull 2 = .ok (.iload_n 3, 1) := by decide +kernel
theorem dX7_soonestPull_3 : decode cX7_soonestPull 3 = .ok (.bipush 7, 2) := by decide +kernel
theorem dX7_soonestPull_5 : decode cX7_soonestPull 5 = .ok (.if_icmp .ge 21, 3) := by decide +kernel
theorem dX7_soonestPull_8 : decode cX7_soonestPull 8 = .ok (.aload_n 0, 1) := by decide +kernel
theorem dX7_soonestPull_9 : decode cX7_soonestPull 9 = .ok (.iload_n 1, 1) := by decide +kernel
theorem dX7_soonestPull_10 : decode cX7_soonestPull 10 = .ok (.iload_n 3, 1) := by decide +kernel
theorem dX7_soonestPull_11 : decode cX7_soonestPull 11 = .ok (.invokevirtual 113, 3) := by decide +kernel
theorem dX7_soonestPull_14 : decode cX7_soonestPull 14 = .ok (.iload_n 2, 1) := by decide +kernel
theorem dX7_soonestPull_15 : decode cX7_soonestPull 15 = .ok (.if_icmp .le 5, 3) := by decide +kernel
theorem dX7_soonestPull_18 : decode cX7_soonestPull 18 = .ok (.iload_n 3, 1) := by decide +kernel
theorem dX7_soonestPull_19 : decode cX7_soonestPull 19 = .ok (.ireturn, 1) := by decide +kernel
theorem dX7_soonestPull_20 : decode cX7_soonestPull 20 = .ok (.iinc 3 1, 3) := by decide +kernel
theorem dX7_soonestPull_23 : decode cX7_soonestPull 23 = .ok (.goto (-21), 3) := by decide +kernel
theorem dX7_soonestPull_26 : decode cX7_soonestPull 26 = .ok (.bipush (-9), 2) := by decide +kernel
theorem dX7_soonestPull_28 : decode cX7_soonestPull 28 = .ok (.ireturn, 1) := by decide +kernel
theorem dX7_ordersBehind_0 : decode cX7_ordersBehind 0 = .ok (.iload_n 1, 1) := by decide +kernel
theorem dX7_ordersBehind_1 : decode cX7_ordersBehind 1 = .ok (.iconst 1, 1) := by decide +kernel
theorem dX7_ordersBehind_2 : decode cX7_ordersBehind 2 = .ok (.aload_n 0, 1) := by decide +kernel
theorem dX7_ordersBehind_3 : decode cX7_ordersBehind 3 = .ok (.getfield 31, 3) := by decide +kernel
theorem dX7_ordersBehind_6 : decode cX7_ordersBehind 6 = .ok (.ishl, 1) := by decide +kernel
theorem dX7_ordersBehind_7 : decode cX7_ordersBehind 7 = .ok (.iconst 1, 1) := by decide +kernel
theorem dX7_ordersBehind_8 : decode cX7_ordersBehind 8 = .ok (.isub, 1) := by decide +kernel
theorem dX7_ordersBehind_9 : decode cX7_ordersBehind 9 = .ok (.if_icmp .eq 9, 3) := by decide +kernel
theorem dX7_ordersBehind_12 : decode cX7_ordersBehind 12 = .ok (.iload_n 3, 1) := by decide +kernel
theorem dX7_ordersBehind_13 : decode cX7_ordersBehind 13 = .ok (.bipush 6, 2) := by decide +kernel
theorem dX7_ordersBehind_15 : decode cX7_ordersBehind 15 = .ok (.if_icmp .le 5, 3) := by decide +kernel
theorem dX7_ordersBehind_18 : decode cX7_ordersBehind 18 = .ok (.iconst 1, 1) := by decide +kernel
theorem dX7_ordersBehind_19 : decode cX7_ordersBehind 19 = .ok (.ireturn, 1) := by decide +kernel
theorem dX7_ordersBehind_20 : decode cX7_ordersBehind 20 = .ok (.iconst 0, 1) := by decide +kernel
theorem dX7_ordersBehind_21 : decode cX7_ordersBehind 21 = .ok (.istore 4, 2) := by decide +kernel
theorem dX7_ordersBehind_23 : decode cX7_ordersBehind 23 = .ok (.iconst 0, 1) := by decide +kernel
theorem dX7_ordersBehind_24 : decode cX7_ordersBehind 24 = .ok (.istore 5, 2) := by decide +kernel
theorem dX7_ordersBehind_26 : decode cX7_ordersBehind 26 = .ok (.iload 5, 2) := by decide +kernel
theorem dX7_ordersBehind_28 : decode cX7_ordersBehind 28 = .ok (.aload_n 0, 1) := by decide +kernel
theorem dX7_ordersBehind_29 : decode cX7_ordersBehind 29 = .ok (.getfield 31, 3) := by decide +kernel
theorem dX7_ordersBehind_32 : decode cX7_ordersBehind 32 = .ok (.if_icmp .ge 65, 3) := by decide +kernel
theorem dX7_ordersBehind_35 : decode cX7_ordersBehind 35 = .ok (.iload_n 1, 1) := by decide +kernel
theorem dX7_ordersBehind_36 : decode cX7_ordersBehind 36 = .ok (.iload 5, 2) := by decide +kernel
theorem dX7_ordersBehind_38 : decode cX7_ordersBehind 38 = .ok (.ishr, 1) := by decide +kernel
theorem dX7_ordersBehind_39 : decode cX7_ordersBehind 39 = .ok (.iconst 1, 1) := by decide +kernel
theorem dX7_ordersBehind_40 : decode cX7_ordersBehind 40 = .ok (.iand, 1) := by decide +kernel
theorem dX7_ordersBehind_41 : decode cX7_ordersBehind 41 = .ok (.ifCond .ne 13, 3) := by decide +kernel
theorem dX7_ordersBehind_44 : decode cX7_ordersBehind 44 = .ok (.aload_n 0, 1) := by decide +kernel
theorem dX7_ordersBehind_45 : decode cX7_ordersBehind 45 = .ok (.iload 5, 2) := by decide +kernel
theorem dX7_ordersBehind_47 : decode cX7_ordersBehind 47 = .ok (.iload_n 2, 1) := by decide +kernel
theorem dX7_ordersBehind_48 : decode cX7_ordersBehind 48 = .ok (.invokevirtual 116, 3) := by decide +kernel
theorem dX7_ordersBehind_51 : decode cX7_ordersBehind 51 = .ok (.goto 5, 3) := by decide +kernel
theorem dX7_ordersBehind_54 : decode cX7_ordersBehind 54 = .ok (.bipush (-9), 2) := by decide +kernel
theorem dX7_ordersBehind_56 : decode cX7_ordersBehind 56 = .ok (.istore 6, 2) := by decide +kernel
theorem dX7_ordersBehind_58 : decode cX7_ordersBehind 58 = .ok (.iload 6, 2) := by decide +kernel
theorem dX7_ordersBehind_60 : decode cX7_ordersBehind 60 = .ok (.bipush (-9), 2) := by decide +kernel
theorem dX7_ordersBehind_62 : decode cX7_ordersBehind 62 = .ok (.if_icmp .eq 29, 3) := by decide +kernel
theorem dX7_ordersBehind_65 : decode cX7_ordersBehind 65 = .ok (.iload 4, 2) := by decide +kernel
theorem dX7_ordersBehind_67 : decode cX7_ordersBehind 67 = .ok (.aload_n 0, 1) := by decide +kernel
theorem dX7_ordersBehind_68 : decode cX7_ordersBehind 68 = .ok (.iload_n 1, 1) := by decide +kernel
theorem dX7_ordersBehind_69 : decode cX7_ordersBehind 69 = .ok (.iconst 1, 1) := by decide +kernel
theorem dX7_ordersBehind_70 : decode cX7_ordersBehind 70 = .ok (.iload 5, 2) := by decide +kernel
theorem dX7_ordersBehind_72 : decode cX7_ordersBehind 72 = .ok (.ishl, 1) := by decide +kernel
theorem dX7_ordersBehind_73 : decode cX7_ordersBehind 73 = .ok (.ior, 1) := by decide +kernel
theorem dX7_ordersBehind_74 : decode cX7_ordersBehind 74 = .ok (.aload_n 0, 1) := by decide +kernel
theorem dX7_ordersBehind_75 : decode cX7_ordersBehind 75 = .ok (.iload 5, 2) := by decide +kernel
theorem dX7_ordersBehind_77 : decode cX7_ordersBehind 77 = .ok (.iload 6, 2) := by decide +kernel
theorem dX7_ordersBehind_79 : decode cX7_ordersBehind 79 = .ok (.invokevirtual 113, 3) := by decide +kernel
theorem dX7_ordersBehind_82 : decode cX7_ordersBehind 82 = .ok (.iload_n 3, 1) := by decide +kernel
theorem dX7_ordersBehind_83 : decode cX7_ordersBehind 83 = .ok (.iconst 1, 1) := by decide +kernel
theorem dX7_ordersBehind_84 : decode cX7_ordersBehind 84 = .ok (.iadd, 1) := by decide +kernel
theorem dX7_ordersBehind_85 : decode cX7_ordersBehind 85 = .ok (.invokevirtual 119, 3) := by decide +kernel
theorem dX7_ordersBehind_88 : decode cX7_ordersBehind 88 = .ok (.iadd, 1) := by decide +kernel
theorem dX7_ordersBehind_89 : decode cX7_ordersBehind 89 = .ok (.istore 4, 2) := by decide +kernel
theorem dX7_ordersBehind_91 : decode cX7_ordersBehind 91 = .ok (.iinc 5 1, 3) := by decide +kernel
theorem dX7_ordersBehind_94 : decode cX7_ordersBehind 94 = .ok (.goto (-68), 3) := by decide +kernel
theorem dX7_ordersBehind_97 : decode cX7_ordersBehind 97 = .ok (.iload 4, 2) := by decide +kernel
theorem dX7_ordersBehind_99 : decode cX7_ordersBehind 99 = .ok (.ireturn, 1) := by decide +kernel
theorem dX8_init_0 : decode cX8_init 0 = .ok (.aload_n 0, 1) := by decide +kernel
theorem dX8_init_1 : decode cX8_init 1 = .ok (.invokespecial 1, 3) := by decide +kernel
theorem dX8_init_4 : decode cX8_init 4 = .ok (.aload_n 0, 1) := by decide +kernel
theorem dX8_init_5 : decode cX8_init 5 = .ok (.bipush 6, 2) := by decide +kernel
theorem dX8_init_7 : decode cX8_init 7 = .ok (.anewarray 9, 3) := by decide +kernel
theorem dX8_init_10 : decode cX8_init 10 = .ok (.putfield 11, 3) := by decide +kernel
theorem dX8_init_13 : decode cX8_init 13 = .ok (.aload_n 0, 1) := by decide +kernel
theorem dX8_init_14 : decode cX8_init 14 = .ok (.iconst 4, 1) := by decide +kernel
theorem dX8_init_15 : decode cX8_init 15 = .ok (.anewarray 9, 3) := by decide +kernel
theorem dX8_init_18 : decode cX8_init 18 = .ok (.putfield 15, 3) := by decide +kernel
theorem dX8_init_21 : decode cX8_init 21 = .ok (.aload_n 0, 1) := by decide +kernel
theorem dX8_init_22 : decode cX8_init 22 = .ok (.iconst 3, 1) := by decide +kernel
theorem dX8_init_23 : decode cX8_init 23 = .ok (.anewarray 18, 3) := by decide +kernel
theorem dX8_init_26 : decode cX8_init 26 = .ok (.putfield 20, 3) := by decide +kernel
theorem dX8_init_29 : decode cX8_init 29 = .ok (.aload_n 0, 1) := by decide +kernel
theorem dX8_init_30 : decode cX8_init 30 = .ok (.new 18, 3) := by decide +kernel
theorem dX8_init_33 : decode cX8_init 33 = .ok (.dup, 1) := by decide +kernel
theorem dX8_init_34 : decode cX8_init 34 = .ok (.invokespecial 24, 3) := by decide +kernel
theorem dX8_init_37 : decode cX8_init 37 = .ok (.putfield 25, 3) := by decide +kernel
theorem dX8_init_40 : decode cX8_init 40 = .ok (.aload_n 0, 1) := by decide +kernel
theorem dX8_init_41 : decode cX8_init 41 = .ok (.new 18, 3) := by decide +kernel
theorem dX8_init_44 : decode cX8_init 44 = .ok (.dup, 1) := by decide +kernel
theorem dX8_init_45 : decode cX8_init 45 = .ok (.invokespecial 24, 3) := by decide +kernel
theorem dX8_init_48 : decode cX8_init 48 = .ok (.putfield 29, 3) := by decide +kernel
theorem dX8_init_51 : decode cX8_init 51 = .ok (.aload_n 0, 1) := by decide +kernel
theorem dX8_init_52 : decode cX8_init 52 = .ok (.new 32, 3) := by decide +kernel
theorem dX8_init_55 : decode cX8_init 55 = .ok (.dup, 1) := by decide +kernel
theorem dX8_init_56 : decode cX8_init 56 = .ok (.invokespecial 34, 3) := by decide +kernel
theorem dX8_init_59 : decode cX8_init 59 = .ok (.putfield 35, 3) := by decide +kernel
theorem dX8_init_62 : decode cX8_init 62 = .ok (.aload_n 0, 1) := by decide +kernel
theorem dX8_init_63 : decode cX8_init 63 = .ok (.new 39, 3) := by decide +kernel
theorem dX8_init_66 : decode cX8_init 66 = .ok (.dup, 1) := by decide +kernel
theorem dX8_init_67 : decode cX8_init 67 = .ok (.invokespecial 41, 3) := by decide +kernel
theorem dX8_init_70 : decode cX8_init 70 = .ok (.putfield 42, 3) := by decide +kernel
theorem dX8_init_73 : decode cX8_init 73 = .ok (.aload_n 0, 1) := by decide +kernel
theorem dX8_init_74 : decode cX8_init 74 = .ok (.new 46, 3) := by decide +kernel
theorem dX8_init_77 : decode cX8_init 77 = .ok (.dup, 1) := by decide +kernel
theorem dX8_init_78 : decode cX8_init 78 = .ok (.invokespecial 48, 3) := by decide +kernel
theorem dX8_init_81 : decode cX8_init 81 = .ok (.putfield 49, 3) := by decide +kernel
theorem dX8_init_84 : decode cX8_init 84 = .ok (.aload_n 0, 1) := by decide +kernel
theorem dX8_init_85 : decode cX8_init 85 = .ok (.new 53, 3) := by decide +kernel
theorem dX8_init_88 : decode cX8_init 88 = .ok (.dup, 1) := by decide +kernel
theorem dX8_init_89 : decode cX8_init 89 = .ok (.invokespecial 55, 3) := by decide +kernel
theorem dX8_init_92 : decode cX8_init 92 = .ok (.putfield 56, 3) := by decide +kernel
theorem dX8_init_95 : decode cX8_init 95 = .ok (.aload_n 0, 1) := by decide +kernel
theorem dX8_init_96 : decode cX8_init 96 = .ok (.new 60, 3) := by decide +kernel
theorem dX8_init_99 : decode cX8_init 99 = .ok (.dup, 1) := by decide +kernel
theorem dX8_init_100 : decode cX8_init 100 = .ok (.invokespecial 62, 3) := by decide +kernel
theorem dX8_init_103 : decode cX8_init 103 = .ok (.putfield 63, 3) := by decide +kernel
theorem dX8_init_106 : decode cX8_init 106 = .ok (.aload_n 0, 1) := by decide +kernel
theorem dX8_init_107 : decode cX8_init 107 = .ok (.bipush 6, 2) := by decide +kernel
theorem dX8_init_109 : decode cX8_init 109 = .ok (.newarray .int, 2) := by decide +kernel
theorem dX8_init_111 : decode cX8_init 111 = .ok (.putfield 67, 3) := by decide +kernel
theorem dX8_init_114 : decode cX8_init 114 = .ok (.aload_n 0, 1) := by decide +kernel
theorem dX8_init_115 : decode cX8_init 115 = .ok (.lconst 1, 1) := by decide +kernel
theorem dX8_init_116 : decode cX8_init 116 = .ok (.putfield 71, 3) := by decide +kernel
theorem dX8_init_119 : decode cX8_init 119 = .ok (.iconst 0, 1) := by decide +kernel
theorem dX8_init_120 : decode cX8_init 120 = .ok (.istore_n 1, 1) := by decide +kernel
theorem dX8_init_121 : decode cX8_init 121 = .ok (.iload_n 1, 1) := by decide +kernel
theorem dX8_init_122 : decode cX8_init 122 = .ok (.bipush 6, 2) := by decide +kernel
theorem dX8_init_124 : decode cX8_init 124 = .ok (.if_icmp .ge 24, 3) := by decide +kernel
theorem dX8_init_127 : decode cX8_init 127 = .ok (.aload_n 0, 1) := by decide +kernel
theorem dX8_init_128 : decode cX8_init 128 = .ok (.getfield 11, 3) := by decide +kernel
theorem dX8_init_131 : decode cX8_init 131 = .ok (.iload_n 1, 1) := by decide +kernel
theorem dX8_init_132 : decode cX8_init 132 = .ok (.new 9, 3) := by decide +kernel
theorem dX8_init_135 : decode cX8_init 135 = .ok (.dup, 1) := by decide +kernel
theorem dX8_init_136 : decode cX8_init 136 = .ok (.bipush 40, 2) := by decide +kernel
theorem dX8_init_138 : decode cX8_init 138 = .ok (.invokespecial 75, 3) := by decide +kernel
theorem dX8_init_141 : decode cX8_init 141 = .ok (.aastore, 1) := by decide +kernel
theorem dX8_init_142 : decode cX8_init 142 = .ok (.iinc 1 1, 3) := by decide +kernel
theorem dX8_init_145 : decode cX8_init 145 = .ok (.goto (-24), 3) := by decide +kernel
theorem dX8_init_148 : decode cX8_init 148 = .ok (.iconst 0, 1) := by decide +kernel
theorem dX8_init_149 : decode cX8_init 149 = .ok (.istore_n 1, 1) := by decide +kernel
theorem dX8_init_150 : decode cX8_init 150 = .ok (.iload_n 1, 1) := by decide +kernel
theorem dX8_init_151 : decode cX8_init 151 = .ok (.iconst 4, 1) := by decide +kernel
theorem dX8_init_152 : decode cX8_init 152 = .ok (.if_icmp .ge 24, 3) := by decide +kernel
theorem dX8_init_155 : decode cX8_init 155 = .ok (.aload_n 0, 1) := by decide +kernel
theorem dX8_init_156 : decode cX8_init 156 = .ok (.getfield 15, 3) := by decide +kernel
theorem dX8_init_159 : decode cX8_init 159 = .ok (.iload_n 1, 1) := by decide +kernel
theorem dX8_init_160 : decode cX8_init 160 = .ok (.new 9, 3) := by decide +kernel
theorem dX8_init_163 : decode cX8_init 163 = .ok (.dup, 1) := by decide +kernel
theorem dX8_init_164 : decode cX8_init 164 = .ok (.bipush 60, 2) := by decide +kernel
theorem dX8_init_166 : decode cX8_init 166 = .ok (.invokespecial 75, 3) := by decide +kernel
theorem dX8_init_169 : decode cX8_init 169 = .ok (.aastore, 1) := by decide +kernel
theorem dX8_init_170 : decode cX8_init 170 = .ok (.iinc 1 1, 3) := by decide +kernel
theorem dX8_init_173 : decode cX8_init 173 = .ok (.goto (-23), 3) := by decide +kernel
theorem dX8_init_176 : decode cX8_init 176 = .ok (.iconst 0, 1) := by decide +kernel
theorem dX8_init_177 : decode cX8_init 177 = .ok (.istore_n 1, 1) := by decide +kernel
theorem dX8_init_178 : decode cX8_init 178 = .ok (.iload_n 1, 1) := by decide +kernel
theorem dX8_init_179 : decode cX8_init 179 = .ok (.iconst 3, 1) := by decide +kernel
theorem dX8_init_180 : decode cX8_init 180 = .ok (.if_icmp .ge 22, 3) := by decide +kernel
theorem dX8_init_183 : decode cX8_init 183 = .ok (.aload_n 0, 1) := by decide +kernel
theorem dX8_init_184 : decode cX8_init 184 = .ok (.getfield 20, 3) := by decide +kernel
theorem dX8_init_187 : decode cX8_init 187 = .ok (.iload_n 1, 1) := by decide +kernel
theorem dX8_init_188 : decode cX8_init 188 = .ok (.new 18, 3) := by decide +kernel
theorem dX8_init_191 : decode cX8_init 191 = .ok (.dup, 1) := by decide +kernel
theorem dX8_init_192 : decode cX8_init 192 = .ok (.invokespecial 24, 3) := by decide +kernel
theorem dX8_init_195 : decode cX8_init 195 = .ok (.aastore, 1) := by decide +kernel
theorem dX8_init_196 : decode cX8_init 196 = .ok (.iinc 1 1, 3) := by decide +kernel
theorem dX8_init_199 : decode cX8_init 199 = .ok (.goto (-21), 3) := by decide +kernel
theorem dX8_init_202 : decode cX8_init 202 = .ok (.return_, 1) := by decide +kernel
theorem dX8_row_0 : decode cX8_row 0 = .ok (.iload_n 1, 1) := by decide +kernel
theorem dX8_row_1 : decode cX8_row 1 = .ok (.invokestatic 78, 3) := by decide +kernel
theorem dX8_row_4 : decode cX8_row 4 = .ok (.ifCond .eq 18, 3) := by decide +kernel
theorem dX8_row_7 : decode cX8_row 7 = .ok (.aload_n 0, 1) := by decide +kernel
theorem dX8_row_8 : decode cX8_row 8 = .ok (.aload_n 0, 1) := by decide +kernel
theorem dX8_row_9 : decode cX8_row 9 = .ok (.getfield 11, 3) := by decide +kernel
theorem dX8_row_12 : decode cX8_row 12 = .ok (.iload_n 1, 1) := by decide +kernel
theorem dX8_row_13 : decode cX8_row 13 = .ok (.aaload, 1) := by decide +kernel
theorem dX8_row_14 : decode cX8_row 14 = .ok (.iload_n 2, 1) := by decide +kernel
theorem dX8_row_15 : decode cX8_row 15 = .ok (.iconst 0, 1) := by decide +kernel
theorem dX8_row_16 : decode cX8_row 16 = .ok (.invokevirtual 82, 3) := by decide +kernel
theorem dX8_row_19 : decode cX8_row 19 = .ok (.goto 4, 3) := by decide +kernel
theorem dX8_row_22 : decode cX8_row 22 = .ok (.iconst (-1), 1) := by decide +kernel
theorem dX8_row_23 : decode cX8_row 23 = .ok (.ireturn, 1) := by decide +kernel
theorem dX8_lay_0 : decode cX8_lay 0 = .ok (.aload_n 0, 1) := by decide +kernel
theorem dX8_lay_1 : decode cX8_lay 1 = .ok (.iload_n 1, 1) := by decide +kernel
theorem dX8_lay_2 : decode cX8_lay 2 = .ok (.iload_n 2, 1) := by decide +kernel
theorem dX8_lay_3 : decode cX8_lay 3 = .ok (.invokevirtual 86, 3) := by decide +kernel
theorem dX8_lay_6 : decode cX8_lay 6 = .ok (.istore 4, 2) := by decide +kernel
theorem dX8_lay_8 : decode cX8_lay 8 = .ok (.iload 4, 2) := by decide +kernel
theorem dX8_lay_10 : decode cX8_lay 10 = .ok (.ifCond .eq 6, 3) := by decide +kernel
theorem dX8_lay_13 : decode cX8_lay 13 = .ok (.iload 4, 2) := by decide +kernel
theorem dX8_lay_15 : decode cX8_lay 15 = .ok (.ireturn, 1) := by decide +kernel
theorem dX8_lay_16 : decode cX8_lay 16 = .ok (.aload_n 0, 1) := by decide +kernel
theorem dX8_lay_17 : decode cX8_lay 17 = .ok (.aload_n 0, 1) := by decide +kernel
theorem dX8_lay_18 : decode cX8_lay 18 = .ok (.getfield 11, 3) := by decide +kernel
theorem dX8_lay_21 : decode cX8_lay 21 = .ok (.iload_n 1, 1) := by decide +kernel
theorem dX8_lay_22 : decode cX8_lay 22 = .ok (.aaload, 1) := by decide +kernel
theorem dX8_lay_23 : decode cX8_lay 23 = .ok (.getfield 90, 3) := by decide +kernel
theorem dX8_lay_26 : decode cX8_lay 26 = .ok (.iload_n 2, 1) := by decide +kernel
theorem dX8_lay_27 : decode cX8_lay 27 = .ok (.iaload, 1) := by decide +kernel
theorem dX8_lay_28 : decode cX8_lay 28 = .ok (.putfield 93, 3) := by decide +kernel
theorem dX8_lay_31 : decode cX8_lay 31 = .ok (.aload_n 0, 1) := by decide +kernel
theorem dX8_lay_32 : decode cX8_lay 32 = .ok (.getfield 11, 3) := by decide +kernel
theorem dX8_lay_35 : decode cX8_lay 35 = .ok (.iload_n 1, 1) := by decide +kernel
theorem dX8_lay_36 : decode cX8_lay 36 = .ok (.aaload, 1) := by decide +kernel
theorem dX8_lay_37 : decode cX8_lay 37 = .ok (.getfield 90, 3) := by decide +kernel
theorem dX8_lay_40 : decode cX8_lay 40 = .ok (.iload_n 2, 1) := by decide +kernel
theorem dX8_lay_41 : decode cX8_lay 41 = .ok (.iload_n 3, 1) := by decide +kernel
theorem dX8_lay_42 : decode cX8_lay 42 = .ok (.iastore, 1) := by decide +kernel
theorem dX8_lay_43 : decode cX8_lay 43 = .ok (.iconst 1, 1) := by decide +kernel
theorem dX8_lay_44 : decode cX8_lay 44 = .ok (.ireturn, 1) := by decide +kernel
theorem dX8_at_0 : decode cX8_at 0 = .ok (.aload_n 0, 1) := by decide +kernel
theorem dX8_at_1 : decode cX8_at 1 = .ok (.iload_n 1, 1) := by decide +kernel
theorem dX8_at_2 : decode cX8_at 2 = .ok (.iload_n 2, 1) := by decide +kernel
theorem dX8_at_3 : decode cX8_at 3 = .ok (.invokevirtual 86, 3) := by decide +kernel
theorem dX8_at_6 : decode cX8_at 6 = .ok (.istore_n 3, 1) := by decide +kernel
theorem dX8_at_7 : decode cX8_at 7 = .ok (.iload_n 3, 1) := by decide +kernel
theorem dX8_at_8 : decode cX8_at 8 = .ok (.ifCond .eq 5, 3) := by decide +kernel
theorem dX8_at_11 : decode cX8_at 11 = .ok (.iload_n 3, 1) := by decide +kernel
theorem dX8_at_12 : decode cX8_at 12 = .ok (.ireturn, 1) := by decide +kernel
theorem dX8_at_13 : decode cX8_at 13 = .ok (.aload_n 0, 1) := by decide +kernel
theorem dX8_at_14 : decode cX8_at 14 = .ok (.aload_n 0, 1) := by decide +kernel
theorem dX8_at_15 : decode cX8_at 15 = .ok (.getfield 11, 3) := by decide +kernel
theorem dX8_at_18 : decode cX8_at 18 = .ok (.iload_n 1, 1) := by decide +kernel
theorem dX8_at_19 : decode cX8_at 19 = .ok (.aaload, 1) := by decide +kernel
theorem dX8_at_20 : decode cX8_at 20 = .ok (.getfield 90, 3) := by decide +kernel
theorem dX8_at_23 : decode cX8_at 23 = .ok (.iload_n 2, 1) := by decide +kernel
theorem dX8_at_24 : decode cX8_at 24 = .ok (.iaload, 1) := by decide +kernel
theorem dX8_at_25 : decode cX8_at 25 = .ok (.putfield 93, 3) := by decide +kernel
theorem dX8_at_28 : decode cX8_at 28 = .ok (.iconst 1, 1) := by decide +kernel
theorem dX8_at_29 : decode cX8_at 29 = .ok (.ireturn, 1) := by decide +kernel
theorem dX8_tear_0 : decode cX8_tear 0 = .ok (.iload_n 1, 1) := by decide +kernel
theorem dX8_tear_1 : decode cX8_tear 1 = .ok (.invokestatic 78, 3) := by decide +kernel
theorem dX8_tear_4 : decode cX8_tear 4 = .ok (.ifCond .ne 5, 3) := by decide +kernel
theorem dX8_tear_7 : decode cX8_tear 7 = .ok (.iconst (-1), 1) := by decide +kernel
theorem dX8_tear_8 : decode cX8_tear 8 = .ok (.ireturn, 1) := by decide +kernel
theorem dX8_tear_9 : decode cX8_tear 9 = .ok (.aload_n 0, 1) := by decide +kernel
theorem dX8_tear_10 : decode cX8_tear 10 = .ok (.getfield 11, 3) := by decide +kernel
theorem dX8_tear_13 : decode cX8_tear 13 = .ok (.iload_n 1, 1) := by decide +kernel
theorem dX8_tear_14 : decode cX8_tear 14 = .ok (.aaload, 1) := by decide +kernel
theorem dX8_tear_15 : decode cX8_tear 15 = .ok (.getfield 97, 3) := by decide +kernel
theorem dX8_tear_18 : decode cX8_tear 18 = .ok (.ifCond .ne 9, 3) := by decide +kernel
theorem dX8_tear_21 : decode cX8_tear 21 = .ok (.aload_n 0, 1) := by decide +kernel
theorem dX8_tear_22 : decode cX8_tear 22 = .ok (.iconst 1, 1) := by decide +kernel
theorem dX8_tear_23 : decode cX8_tear 23 = .ok (.invokevirtual 101, 3) := by decide +kernel
theorem dX8_tear_26 : decode cX8_tear 26 = .ok (.ireturn, 1) := by decide +kernel
theorem dX8_tear_27 : decode cX8_tear 27 = .ok (.aload_n 0, 1) := by decide +kernel
theorem dX8_tear_28 : decode cX8_tear 28 = .ok (.getfield 11, 3) := by decide +kernel
theorem dX8_tear_31 : decode cX8_tear 31 = .ok (.iload_n 1, 1) := by decide +kernel
theorem dX8_tear_32 : decode cX8_tear 32 = .ok (.aaload, 1) := by decide +kernel
theorem dX8_tear_33 : decode cX8_tear 33 = .ok (.iconst 0, 1) := by decide +kernel
theorem dX8_tear_34 : decode cX8_tear 34 = .ok (.putfield 97, 3) := by decide +kernel
theorem dX8_tear_37 : decode cX8_tear 37 = .ok (.aload_n 0, 1) := by decide +kernel
theorem dX8_tear_38 : decode cX8_tear 38 = .ok (.getfield 11, 3) := by decide +kernel
theorem dX8_tear_41 : decode cX8_tear 41 = .ok (.iload_n 1, 1) := by decide +kernel
theorem dX8_tear_42 : decode cX8_tear 42 = .ok (.aaload, 1) := by decide +kernel
theorem dX8_tear_43 : decode cX8_tear 43 = .ok (.iconst 0, 1) := by decide +kernel
theorem dX8_tear_44 : decode cX8_tear 44 = .ok (.putfield 105, 3) := by decide +kernel
theorem dX8_tear_47 : decode cX8_tear 47 = .ok (.iconst 1, 1) := by decide +kernel
theorem dX8_tear_48 : decode cX8_tear 48 = .ok (.ireturn, 1) := by decide +kernel
theorem dX8_copy_0 : decode cX8_copy 0 = .ok (.iload_n 1, 1) := by decide +kernel
theorem dX8_copy_1 : decode cX8_copy 1 = .ok (.invokestatic 78, 3) := by decide +kernel
theorem dX8_copy_4 : decode cX8_copy 4 = .ok (.ifCond .eq 10, 3) := by decide +kernel
theorem dX8_copy_7 : decode cX8_copy 7 = .ok (.iload_n 3, 1) := by decide +kernel
theorem dX8_copy_8 : decode cX8_copy 8 = .ok (.invokestatic 78, 3) := by decide +kernel
theorem dX8_copy_11 : decode cX8_copy 11 = .ok (.ifCond .ne 5, 3) := by decide +kernel
theorem dX8_copy_14 : decode cX8_copy 14 = .ok (.iconst (-1), 1) := by decide +kernel
theorem dX8_copy_15 : decode cX8_copy 15 = .ok (.ireturn, 1) := by decide +kernel
theorem dX8_copy_16 : decode cX8_copy 16 = .ok (.iload 5, 2) := by decide +kernel
theorem dX8_copy_18 : decode cX8_copy 18 = .ok (.ifCond .ge 9, 3) := by decide +kernel
theorem dX8_copy_21 : decode cX8_copy 21 = .ok (.aload_n 0, 1) := by decide +kernel
theorem dX8_copy_22 : decode cX8_copy 22 = .ok (.iconst 5, 1) := by decide +kernel
theorem dX8_copy_23 : decode cX8_copy 23 = .ok (.invokevirtual 101, 3) := by decide +kernel
theorem dX8_copy_26 : decode cX8_copy 26 = .ok (.ireturn, 1) := by decide +kernel
theorem dX8_copy_27 : decode cX8_copy 27 = .ok (.aload_n 0, 1) := by decide +kernel
theorem dX8_copy_28 : decode cX8_copy 28 = .ok (.getfield 11, 3) := by decide +kernel
theorem dX8_copy_31 : decode cX8_copy 31 = .ok (.iload_n 1, 1) := by decide +kernel
theorem dX8_copy_32 : decode cX8_copy 32 = .ok (.aaload, 1) := by decide +kernel
theorem dX8_copy_33 : decode cX8_copy 33 = .ok (.astore 6, 2) := by decide +kernel
theorem dX8_copy_35 : decode cX8_copy 35 = .ok (.aload_n 0, 1) := by decide +kernel
theorem dX8_copy_36 : decode cX8_copy 36 = .ok (.getfield 11, 3) := by decide +kernel
theorem dX8_copy_39 : decode cX8_copy 39 = .ok (.iload_n 3, 1) := by decide +kernel
theorem dX8_copy_40 : decode cX8_copy 40 = .ok (.aaload, 1) := by decide +kernel
theorem dX8_copy_41 : decode cX8_copy 41 = .ok (.astore 7, 2) := by decide +kernel
theorem dX8_copy_43 : decode cX8_copy 43 = .ok (.aload 6, 2) := by decide +kernel
theorem dX8_copy_45 : decode cX8_copy 45 = .ok (.getfield 97, 3) := by decide +kernel
theorem dX8_copy_48 : decode cX8_copy 48 = .ok (.ifCond .eq 11, 3) := by decide +kernel
theorem dX8_copy_51 : decode cX8_copy 51 = .ok (.aload 7, 2) := by decide +kernel
theorem dX8_copy_53 : decode cX8_copy 53 = .ok (.getfield 97, 3) := by decide +kernel
theorem dX8_copy_56 : decode cX8_copy 56 = .ok (.ifCond .ne 9, 3) := by decide +kernel
theorem dX8_copy_59 : decode cX8_copy 59 = .ok (.aload_n 0, 1) := by decide +kernel
theorem dX8_copy_60 : decode cX8_copy 60 = .ok (.iconst 1, 1) := by decide +kernel
theorem dX8_copy_61 : decode cX8_copy 61 = .ok (.invokevirtual 101, 3) := by decide +kernel
theorem dX8_copy_64 : decode cX8_copy 64 = .ok (.ireturn, 1) := by decide +kernel
theorem dX8_copy_65 : decode cX8_copy 65 = .ok (.aload 6, 2) := by decide +kernel
theorem dX8_copy_67 : decode cX8_copy 67 = .ok (.iload_n 2, 1) := by decide +kernel
theorem dX8_copy_68 : decode cX8_copy 68 = .ok (.iload 5, 2) := by decide +kernel
theorem dX8_copy_70 : decode cX8_copy 70 = .ok (.invokevirtual 108, 3) := by decide +kernel
theorem dX8_copy_73 : decode cX8_copy 73 = .ok (.ifCond .eq 15, 3) := by decide +kernel
theorem dX8_copy_76 : decode cX8_copy 76 = .ok (.aload 7, 2) := by decide +kernel
theorem dX8_copy_78 : decode cX8_copy 78 = .ok (.iload 4, 2) := by decide +kernel
theorem dX8_copy_80 : decode cX8_copy 80 = .ok (.iload 5, 2) := by decide +kernel
theorem dX8_copy_82 : decode cX8_copy 82 = .ok (.invokevirtual 108, 3) := by decide +kernel
theorem dX8_copy_85 : decode cX8_copy 85 = .ok (.ifCond .ne 9, 3) := by decide +kernel
theorem dX8_copy_88 : decode cX8_copy 88 = .ok (.aload_n 0, 1) := by decide +kernel
theorem dX8_copy_89 : decode cX8_copy 89 = .ok (.iconst 2, 1) := by decide +kernel
theorem dX8_copy_90 : decode cX8_copy 90 = .ok (.invokevirtual 101, 3) := by decide +kernel
theorem dX8_copy_93 : decode cX8_copy 93 = .ok (.ireturn, 1) := by decide +kernel
theorem dX8_copy_94 : decode cX8_copy 94 = .ok (.aload 6, 2) := by decide +kernel
theorem dX8_copy_96 : decode cX8_copy 96 = .ok (.getfield 90, 3) := by decide +kernel
theorem dX8_copy_99 : decode cX8_copy 99 = .ok (.iload_n 2, 1) := by decide +kernel
theorem dX8_copy_100 : decode cX8_copy 100 = .ok (.aload 7, 2) := by decide +kernel
theorem dX8_copy_102 : decode cX8_copy 102 = .ok (.getfield 90, 3) := by decide +kernel
theorem dX8_copy_105 : decode cX8_copy 105 = .ok (.iload 4, 2) := by decide +kernel
theorem dX8_copy_107 : decode cX8_copy 107 = .ok (.iload 5, 2) := by decide +kernel
theorem dX8_copy_109 : decode cX8_copy 109 = .ok (.invokestatic 112, 3) := by decide +kernel
theorem dX8_copy_112 : decode cX8_copy 112 = .ok (.iconst 1, 1) := by decide +kernel
theorem dX8_copy_113 : decode cX8_copy 113 = .ok (.ireturn, 1) := by decide +kernel
theorem dX8_mean_0 : decode cX8_mean 0 = .ok (.iload_n 1, 1) := by decide +kernel
theorem dX8_mean_1 : decode cX8_mean 1 = .ok (.invokestatic 78, 3) := by decide +kernel
theorem dX8_mean_4 : decode cX8_mean 4 = .ok (.ifCond .ne 5, 3) := by decide +kernel
theorem dX8_mean_7 : decode cX8_mean 7 = .ok (.iconst (-1), 1) := by decide +kernel
theorem dX8_mean_8 : decode cX8_mean 8 = .ok (.ireturn, 1) := by decide +kernel
theorem dX8_mean_9 : decode cX8_mean 9 = .ok (.aload_n 0, 1) := by decide +kernel
theorem dX8_mean_10 : decode cX8_mean 10 = .ok (.getfield 11, 3) := by decide +kernel
theorem dX8_mean_13 : decode cX8_mean 13 = .ok (.iload_n 1, 1) := by decide +kernel
theorem dX8_mean_14 : decode cX8_mean 14 = .ok (.aaload, 1) := by decide +kernel
theorem dX8_mean_15 : decode cX8_mean 15 = .ok (.astore_n 2, 1) := by decide +kernel
theorem dX8_mean_16 : decode cX8_mean 16 = .ok (.aload_n 2, 1) := by decide +kernel
theorem dX8_mean_17 : decode cX8_mean 17 = .ok (.getfield 97, 3) := by decide +kernel
theorem dX8_mean_20 : decode cX8_mean 20 = .ok (.ifCond .ne 9, 3) := by decide +kernel
theorem dX8_mean_23 : decode cX8_mean 23 = .ok (.aload_n 0, 1) := by decide +kernel
theorem dX8_mean_24 : decode cX8_mean 24 = .ok (.iconst 1, 1) := by decide +kernel
theorem dX8_mean_25 : decode cX8_mean 25 = .ok (.invokevirtual 101, 3) := by decide +kernel
theorem dX8_mean_28 : decode cX8_mean 28 = .ok (.ireturn, 1) := by decide +kernel
theorem dX8_mean_29 : decode cX8_mean 29 = .ok (.aload_n 2, 1) := by decide +kernel
theorem dX8_mean_30 : decode cX8_mean 30 = .ok (.getfield 105, 3) := by decide +kernel
theorem dX8_mean_33 : decode cX8_mean 33 = .ok (.ifCond .ne 9, 3) := by decide +kernel
theorem dX8_mean_36 : decode cX8_mean 36 = .ok (.aload_n 0, 1) := by decide +kernel
theorem dX8_mean_37 : decode cX8_mean 37 = .ok (.iconst 4, 1) := by decide +kernel
theorem dX8_mean_38 : decode cX8_mean 38 = .ok (.invokevirtual 101, 3) := by decide +kernel
theorem dX8_mean_41 : decode cX8_mean 41 = .ok (.ireturn, 1) := by decide +kernel
theorem dX8_mean_42 : decode cX8_mean 42 = .ok (.lconst 0, 1) := by decide +kernel
theorem dX8_mean_43 : decode cX8_mean 43 = .ok (.lstore_n 3, 1) := by decide +kernel
theorem dX8_mean_44 : decode cX8_mean 44 = .ok (.iconst 0, 1) := by decide +kernel
theorem dX8_mean_45 : decode cX8_mean 45 = .ok (.istore 5, 2) := by decide +kernel
theorem dX8_mean_47 : decode cX8_mean 47 = .ok (.iload 5, 2) := by decide +kernel
theorem dX8_mean_49 : decode cX8_mean 49 = .ok (.aload_n 2, 1) := by decide +kernel
theorem dX8_mean_50 : decode cX8_mean 50 = .ok (.getfield 105, 3) := by decide +kernel
theorem dX8_mean_53 : decode cX8_mean 53 = .ok (.if_icmp .ge 20, 3) := by decide +kernel
theorem dX8_mean_56 : decode cX8_mean 56 = .ok (.lload_n 3, 1) := by decide +kernel
theorem dX8_mean_57 : decode cX8_mean 57 = .ok (.aload_n 2, 1) := by decide +kernel
theorem dX8_mean_58 : decode cX8_mean 58 = .ok (.getfield 90, 3) := by decide +kernel
theorem dX8_mean_61 : decode cX8_mean 61 = .ok (.iload 5, 2) := by decide +kernel
theorem dX8_mean_63 : decode cX8_mean 63 = .ok (.iaload, 1) := by decide +kernel
theorem dX8_mean_64 : decode cX8_mean 64 = .ok (.i2l, 1) := by decide +kernel
theorem dX8_mean_65 : decode cX8_mean 65 = .ok (.ladd, 1) := by decide +kernel
theorem dX8_mean_66 : decode cX8_mean 66 = .ok (.lstore_n 3, 1) := by decide +kernel
theorem dX8_mean_67 : decode cX8_mean 67 = .ok (.iinc 5 1, 3) := by decide +kernel
theorem dX8_mean_70 : decode cX8_mean 70 = .ok (.goto (-23), 3) := by decide +kernel
theorem dX8_mean_73 : decode cX8_mean 73 = .ok (.aload_n 0, 1) := by decide +kernel
theorem dX8_mean_74 : decode cX8_mean 74 = .ok (.lload_n 3, 1) := by decide +kernel
theorem dX8_mean_75 : decode cX8_mean 75 = .ok (.aload_n 2, 1) := by decide +kernel
theorem dX8_mean_76 : decode cX8_mean 76 = .ok (.getfield 105, 3) := by decide +kernel
theorem dX8_mean_79 : decode cX8_mean 79 = .ok (.i2l, 1) := by decide +kernel
theorem dX8_mean_80 : decode cX8_mean 80 = .ok (.ldiv, 1) := by decide +kernel
theorem dX8_mean_81 : decode cX8_mean 81 = .ok (.l2i, 1) := by decide +kernel
theorem dX8_mean_82 : decode cX8_mean 82 = .ok (.putfield 93, 3) := by decide +kernel
theorem dX8_mean_85 : decode cX8_mean 85 = .ok (.iconst 1, 1) := by decide +kernel
theorem dX8_mean_86 : decode cX8_mean 86 = .ok (.ireturn, 1) := by decide +kernel
theorem dX8_text_0 : decode cX8_text 0 = .ok (.iload_n 1, 1) := by decide +kernel
theorem dX8_text_1 : decode cX8_text 1 = .ok (.invokestatic 118, 3) := by decide +kernel
theorem dX8_text_4 : decode cX8_text 4 = .ok (.ifCond .eq 19, 3) := by decide +kernel
theorem dX8_text_7 : decode cX8_text 7 = .ok (.aload_n 0, 1) := by decide +kernel
theorem dX8_text_8 : decode cX8_text 8 = .ok (.aload_n 0, 1) := by decide +kernel
theorem dX8_text_9 : decode cX8_text 9 = .ok (.getfield 15, 3) := by decide +kernel
theorem dX8_text_12 : decode cX8_text 12 = .ok (.iload_n 1, 1) := by decide +kernel
theorem dX8_text_13 : decode cX8_text 13 = .ok (.aaload, 1) := by decide +kernel
theorem dX8_text_14 : decode cX8_text 14 = .ok (.iload_n 2, 1) := by decide +kernel
theorem dX8_text_15 : decode cX8_text 15 = .ok (.bipush 32, 2) := by decide +kernel
theorem dX8_text_17 : decode cX8_text 17 = .ok (.invokevirtual 82, 3) := by decide +kernel
theorem dX8_text_20 : decode cX8_text 20 = .ok (.goto 4, 3) := by decide +kernel
theorem dX8_text_23 : decode cX8_text 23 = .ok (.iconst (-1), 1) := by decide +kernel
theorem dX8_text_24 : decode cX8_text 24 = .ok (.ireturn, 1) := by decide +kernel
theorem dX8_put_0 : decode cX8_put 0 = .ok (.iload_n 1, 1) := by decide +kernel
theorem dX8_put_1 : decode cX8_put 1 = .ok (.invokestatic 118, 3) := by decide +kernel
theorem dX8_put_4 : decode cX8_put 4 = .ok (.ifCond .ne 5, 3) := by decide +kernel
theorem dX8_put_7 : decode cX8_put 7 = .ok (.iconst (-1), 1) := by decide +kernel
theorem dX8_put_8 : decode cX8_put 8 = .ok (.ireturn, 1) := by decide +kernel
theorem dX8_put_9 : decode cX8_put 9 = .ok (.aload_n 0, 1) := by decide +kernel
theorem dX8_put_10 : decode cX8_put 10 = .ok (.getfield 15, 3) := by decide +kernel
theorem dX8_put_13 : decode cX8_put 13 = .ok (.iload_n 1, 1) := by decide +kernel
theorem dX8_put_14 : decode cX8_put 14 = .ok (.aaload, 1) := by decide +kernel
theorem dX8_put_15 : decode cX8_put 15 = .ok (.astore 4, 2) := by decide +kernel
theorem dX8_put_17 : decode cX8_put 17 = .ok (.aload 4, 2) := by decide +kernel
theorem dX8_put_19 : decode cX8_put 19 = .ok (.getfield 97, 3) := by decide +kernel
theorem dX8_put_22 : decode cX8_put 22 = .ok (.ifCond .ne 9, 3) := by decide +kernel
theorem dX8_put_25 : decode cX8_put 25 = .ok (.aload_n 0, 1) := by decide +kernel
theorem dX8_put_26 : decode cX8_put 26 = .ok (.iconst 1, 1) := by decide +kernel
theorem dX8_put_27 : decode cX8_put 27 = .ok (.invokevirtual 101, 3) := by decide +kernel
theorem dX8_put_30 : decode cX8_put 30 = .ok (.ireturn, 1) := by decide +kernel
theorem dX8_put_31 : decode cX8_put 31 = .ok (.aload 4, 2) := by decide +kernel
theorem dX8_put_33 : decode cX8_put 33 = .ok (.iload_n 2, 1) := by decide +kernel
theorem dX8_put_34 : decode cX8_put 34 = .ok (.invokevirtual 121, 3) := by decide +kernel
theorem dX8_put_37 : decode cX8_put 37 = .ok (.ifCond .ne 9, 3) := by decide +kernel
theorem dX8_put_40 : decode cX8_put 40 = .ok (.aload_n 0, 1) := by decide +kernel
theorem dX8_put_41 : decode cX8_put 41 = .ok (.iconst 2, 1) := by decide +kernel
theorem dX8_put_42 : decode cX8_put 42 = .ok (.invokevirtual 101, 3) := by decide +kernel
theorem dX8_put_45 : decode cX8_put 45 = .ok (.ireturn, 1) := by decide +kernel
theorem dX8_put_46 : decode cX8_put 46 = .ok (.aload 4, 2) := by decide +kernel
theorem dX8_put_48 : decode cX8_put 48 = .ok (.getfield 90, 3) := by decide +kernel
theorem dX8_put_51 : decode cX8_put 51 = .ok (.iload_n 2, 1) := by decide +kernel
theorem dX8_put_52 : decode cX8_put 52 = .ok (.iaload, 1) := by decide +kernel
theorem dX8_put_53 : decode cX8_put 53 = .ok (.istore 5, 2) := by decide +kernel
theorem dX8_put_55 : decode cX8_put 55 = .ok (.aload 4, 2) := by decide +kernel
theorem dX8_put_57 : decode cX8_put 57 = .ok (.getfield 90, 3) := by decide +kernel
theorem dX8_put_60 : decode cX8_put 60 = .ok (.iload_n 2, 1) := by decide +kernel
theorem dX8_put_61 : decode cX8_put 61 = .ok (.iload_n 3, 1) := by decide +kernel
theorem dX8_put_62 : decode cX8_put 62 = .ok (.i2b, 1) := by decide +kernel
theorem dX8_put_63 : decode cX8_put 63 = .ok (.iastore, 1) := by decide +kernel
theorem dX8_put_64 : decode cX8_put 64 = .ok (.iload 5, 2) := by decide +kernel
theorem dX8_put_66 : decode cX8_put 66 = .ok (.sipush 1000, 3) := by decide +kernel
theorem dX8_put_69 : decode cX8_put 69 = .ok (.iadd, 1) := by decide +kernel
theorem dX8_put_70 : decode cX8_put 70 = .ok (.ireturn, 1) := by decide +kernel
theorem dX8_fault_0 : decode cX8_fault 0 = .ok (.iload_n 1, 1) := by decide +kernel
theorem dX8_fault_1 : decode cX8_fault 1 = .ok (.invokestatic 118, 3) := by decide +kernel
theorem dX8_fault_4 : decode cX8_fault 4 = .ok (.ifCond .ne 5, 3) := by decide +kernel
theorem dX8_fault_7 : decode cX8_fault 7 = .ok (.iconst (-1), 1) := by decide +kernel
theorem dX8_fault_8 : decode cX8_fault 8 = .ok (.ireturn, 1) := by decide +kernel
theorem dX8_fault_9 : decode cX8_fault 9 = .ok (.aload_n 0, 1) := by decide +kernel
theorem dX8_fault_10 : decode cX8_fault 10 = .ok (.getfield 15, 3) := by decide +kernel
theorem dX8_fault_13 : decode cX8_fault 13 = .ok (.iload_n 1, 1) := by decide +kernel
theorem dX8_fault_14 : decode cX8_fault 14 = .ok (.aaload, 1) := by decide +kernel
theorem dX8_fault_15 : decode cX8_fault 15 = .ok (.getfield 97, 3) := by decide +kernel
theorem dX8_fault_18 : decode cX8_fault 18 = .ok (.ifCond .eq 16, 3) := by decide +kernel
theorem dX8_fault_21 : decode cX8_fault 21 = .ok (.aload_n 0, 1) := by decide +kernel
theorem dX8_fault_22 : decode cX8_fault 22 = .ok (.aload_n 0, 1) := by decide +kernel
theorem dX8_fault_23 : decode cX8_fault 23 = .ok (.getfield 15, 3) := by decide +kernel
theorem dX8_fault_26 : decode cX8_fault 26 = .ok (.iload_n 1, 1) := by decide +kernel
theorem dX8_fault_27 : decode cX8_fault 27 = .ok (.aaload, 1) := by decide +kernel
theorem dX8_fault_28 : decode cX8_fault 28 = .ok (.invokevirtual 124, 3) := by decide +kernel
theorem dX8_fault_31 : decode cX8_fault 31 = .ok (.goto 8, 3) := by decide +kernel
theorem dX8_fault_34 : decode cX8_fault 34 = .ok (.aload_n 0, 1) := by decide +kernel
theorem dX8_fault_35 : decode cX8_fault 35 = .ok (.iconst 1, 1) := by decide +kernel
theorem dX8_fault_36 : decode cX8_fault 36 = .ok (.invokevirtual 101, 3) := by decide +kernel
theorem dX8_fault_39 : decode cX8_fault 39 = .ok (.ireturn, 1) := by decide +kernel
theorem dX8_tower_0 : decode cX8_tower 0 = .ok (.iload_n 1, 1) := by decide +kernel
theorem dX8_tower_1 : decode cX8_tower 1 = .ok (.invokestatic 118, 3) := by decide +kernel
theorem dX8_tower_4 : decode cX8_tower 4 = .ok (.ifCond .ne 5, 3) := by decide +kernel
theorem dX8_tower_7 : decode cX8_tower 7 = .ok (.iconst (-1), 1) := by decide +kernel
theorem dX8_tower_8 : decode cX8_tower 8 = .ok (.ireturn, 1) := by decide +kernel
theorem dX8_tower_9 : decode cX8_tower 9 = .ok (.aload_n 0, 1) := by decide +kernel
theorem dX8_tower_10 : decode cX8_tower 10 = .ok (.getfield 15, 3) := by decide +kernel
theorem dX8_tower_13 : decode cX8_tower 13 = .ok (.iload_n 1, 1) := by decide +kernel
theorem dX8_tower_14 : decode cX8_tower 14 = .ok (.aaload, 1) := by decide +kernel
theorem dX8_tower_15 : decode cX8_tower 15 = .ok (.getfield 97, 3) := by decide +kernel
theorem dX8_tower_18 : decode cX8_tower 18 = .ok (.ifCond .ne 9, 3) := by decide +kernel
theorem dX8_tower_21 : decode cX8_tower 21 = .ok (.aload_n 0, 1) := by decide +kernel
theorem dX8_tower_22 : decode cX8_tower 22 = .ok (.iconst 1, 1) := by decide +kernel
theorem dX8_tower_23 : decode cX8_tower 23 = .ok (.invokevirtual 101, 3) := by decide +kernel
theorem dX8_tower_26 : decode cX8_tower 26 = .ok (.ireturn, 1) := by decide +kernel
theorem dX8_tower_27 : decode cX8_tower 27 = .ok (.aload_n 0, 1) := by decide +kernel
theorem dX8_tower_28 : decode cX8_tower 28 = .ok (.aload_n 0, 1) := by decide +kernel
theorem dX8_tower_29 : decode cX8_tower 29 = .ok (.getfield 15, 3) := by decide +kernel
theorem dX8_tower_32 : decode cX8_tower 32 = .ok (.iload_n 1, 1) := by decide +kernel
theorem dX8_tower_33 : decode cX8_tower 33 = .ok (.aaload, 1) := by decide +kernel
theorem dX8_tower_34 : decode cX8_tower 34 = .ok (.invokevirtual 124, 3) := by decide +kernel
theorem dX8_tower_37 : decode cX8_tower 37 = .ok (.bipush (-9), 2) := by decide +kernel
theorem dX8_tower_39 : decode cX8_tower 39 = .ok (.if_icmp .eq 6, 3) := by decide +kernel
theorem dX8_tower_42 : decode cX8_tower 42 = .ok (.bipush (-4), 2) := by decide +kernel
theorem dX8_tower_44 : decode cX8_tower 44 = .ok (.ireturn, 1) := by decide +kernel
theorem dX8_tower_45 : decode cX8_tower 45 = .ok (.aload_n 0, 1) := by decide +kernel
theorem dX8_tower_46 : decode cX8_tower 46 = .ok (.getfield 25, 3) := by decide +kernel
theorem dX8_tower_49 : decode cX8_tower 49 = .ok (.aload_n 0, 1) := by decide +kernel
theorem dX8_tower_50 : decode cX8_tower 50 = .ok (.getfield 29, 3) := by decide +kernel
theorem dX8_tower_53 : decode cX8_tower 53 = .ok (.invokevirtual 128, 3) := by decide +kernel
theorem dX8_tower_56 : decode cX8_tower 56 = .ok (.iconst 0, 1) := by decide +kernel
theorem dX8_tower_57 : decode cX8_tower 57 = .ok (.istore_n 2, 1) := by decide +kernel
theorem dX8_tower_58 : decode cX8_tower 58 = .ok (.iload_n 2, 1) := by decide +kernel
theorem dX8_tower_59 : decode cX8_tower 59 = .ok (.iconst 3, 1) := by decide +kernel
theorem dX8_tower_60 : decode cX8_tower 60 = .ok (.if_icmp .ge 18, 3) := by decide +kernel
theorem dX8_tower_63 : decode cX8_tower 63 = .ok (.aload_n 0, 1) := by decide +kernel
theorem dX8_tower_64 : decode cX8_tower 64 = .ok (.getfield 20, 3) := by decide +kernel
theorem dX8_tower_67 : decode cX8_tower 67 = .ok (.iload_n 2, 1) := by decide +kernel
theorem dX8_tower_68 : decode cX8_tower 68 = .ok (.aaload, 1) := by decide +kernel
theorem dX8_tower_69 : decode cX8_tower 69 = .ok (.invokevirtual 132, 3) := by decide +kernel
theorem dX8_tower_72 : decode cX8_tower 72 = .ok (.iinc 2 1, 3) := by decide +kernel
theorem dX8_tower_75 : decode cX8_tower 75 = .ok (.goto (-17), 3) := by decide +kernel
theorem dX8_tower_78 : decode cX8_tower 78 = .ok (.aload_n 0, 1) := by decide +kernel
theorem dX8_tower_79 : decode cX8_tower 79 = .ok (.getfield 25, 3) := by decide +kernel
theorem dX8_tower_82 : decode cX8_tower 82 = .ok (.getfield 135, 3) := by decide +kernel
theorem dX8_tower_85 : decode cX8_tower 85 = .ok (.ireturn, 1) := by decide +kernel
theorem dX8_bell_0 : decode cX8_bell 0 = .ok (.aload_n 0, 1) := by decide +kernel
theorem dX8_bell_1 : decode cX8_bell 1 = .ok (.getfield 25, 3) := by decide +kernel
theorem dX8_bell_4 : decode cX8_bell 4 = .ok (.iload_n 1, 1) := by decide +kernel
theorem dX8_bell_5 : decode cX8_bell 5 = .ok (.invokevirtual 136, 3) := by decide +kernel
theorem dX8_bell_8 : decode cX8_bell 8 = .ok (.ifCond .eq 13, 3) := by decide +kernel
theorem dX8_bell_11 : decode cX8_bell 11 = .ok (.iload_n 2, 1) := by decide +kernel
theorem dX8_bell_12 : decode cX8_bell 12 = .ok (.ifCond .lt 9, 3) := by decide +kernel
theorem dX8_bell_15 : decode cX8_bell 15 = .ok (.iload_n 2, 1) := by decide +kernel
theorem dX8_bell_16 : decode cX8_bell 16 = .ok (.bipush 6, 2) := by decide +kernel
theorem dX8_bell_18 : decode cX8_bell 18 = .ok (.if_icmp .lt 5, 3) := by decide +kernel
theorem dX8_bell_21 : decode cX8_bell 21 = .ok (.iconst (-1), 1) := by decide +kernel
theorem dX8_bell_22 : decode cX8_bell 22 = .ok (.ireturn, 1) := by decide +kernel
theorem dX8_bell_23 : decode cX8_bell 23 = .ok (.aload_n 0, 1) := by decide +kernel
theorem dX8_bell_24 : decode cX8_bell 24 = .ok (.aload_n 0, 1) := by decide +kernel
theorem dX8_bell_25 : decode cX8_bell 25 = .ok (.getfield 25, 3) := by decide +kernel
theorem dX8_bell_28 : decode cX8_bell 28 = .ok (.getfield 137, 3) := by decide +kernel
theorem dX8_bell_31 : decode cX8_bell 31 = .ok (.iload_n 1, 1) := by decide +kernel
theorem dX8_bell_32 : decode cX8_bell 32 = .ok (.aaload, 1) := by decide +kernel
theorem dX8_bell_33 : decode cX8_bell 33 = .ok (.iload_n 2, 1) := by decide +kernel
theorem dX8_bell_34 : decode cX8_bell 34 = .ok (.invokevirtual 141, 3) := by decide +kernel
theorem dX8_bell_37 : decode cX8_bell 37 = .ok (.putfield 93, 3) := by decide +kernel
theorem dX8_bell_40 : decode cX8_bell 40 = .ok (.iconst 1, 1) := by decide +kernel
theorem dX8_bell_41 : decode cX8_bell 41 = .ok (.ireturn, 1) := by decide +kernel
theorem dX8_mark_0 : decode cX8_mark 0 = .ok (.aload_n 0, 1) := by decide +kernel
theorem dX8_mark_1 : decode cX8_mark 1 = .ok (.getfield 25, 3) := by decide +kernel
theorem dX8_mark_4 : decode cX8_mark 4 = .ok (.iload_n 1, 1) := by decide +kernel
theorem dX8_mark_5 : decode cX8_mark 5 = .ok (.invokevirtual 136, 3) := by decide +kernel
theorem dX8_mark_8 : decode cX8_mark 8 = .ok (.ifCond .eq 13, 3) := by decide +kernel
theorem dX8_mark_11 : decode cX8_mark 11 = .ok (.iload_n 2, 1) := by decide +kernel
theorem dX8_mark_12 : decode cX8_mark 12 = .ok (.ifCond .le 9, 3) := by decide +kernel
theorem dX8_mark_15 : decode cX8_mark 15 = .ok (.iload_n 2, 1) := by decide +kernel
theorem dX8_mark_16 : decode cX8_mark 16 = .ok (.bipush 6, 2) := by decide +kernel
theorem dX8_mark_18 : decode cX8_mark 18 = .ok (.if_icmp .lt 5, 3) := by decide +kernel
theorem dX8_mark_21 : decode cX8_mark 21 = .ok (.iconst (-1), 1) := by decide +kernel
theorem dX8_mark_22 : decode cX8_mark 22 = .ok (.ireturn, 1) := by decide +kernel
theorem dX8_mark_23 : decode cX8_mark 23 = .ok (.aload_n 0, 1) := by decide +kernel
theorem dX8_mark_24 : decode cX8_mark 24 = .ok (.getfield 25, 3) := by decide +kernel
theorem dX8_mark_27 : decode cX8_mark 27 = .ok (.getfield 137, 3) := by decide +kernel
theorem dX8_mark_30 : decode cX8_mark 30 = .ok (.iload_n 1, 1) := by decide +kernel
theorem dX8_mark_31 : decode cX8_mark 31 = .ok (.aaload, 1) := by decide +kernel
theorem dX8_mark_32 : decode cX8_mark 32 = .ok (.astore_n 3, 1) := by decide +kernel
theorem dX8_mark_33 : decode cX8_mark 33 = .ok (.aload_n 3, 1) := by decide +kernel
theorem dX8_mark_34 : decode cX8_mark 34 = .ok (.getfield 146, 3) := by decide +kernel
theorem dX8_mark_37 : decode cX8_mark 37 = .ok (.iload_n 2, 1) := by decide +kernel
theorem dX8_mark_38 : decode cX8_mark 38 = .ok (.invokestatic 149, 3) := by decide +kernel
theorem dX8_mark_41 : decode cX8_mark 41 = .ok (.ifCond .ne 9, 3) := by decide +kernel
theorem dX8_mark_44 : decode cX8_mark 44 = .ok (.aload_n 0, 1) := by decide +kernel
theorem dX8_mark_45 : decode cX8_mark 45 = .ok (.iconst 3, 1) := by decide +kernel
theorem dX8_mark_46 : decode cX8_mark 46 = .ok (.invokevirtual 101, 3) := by decide +kernel
theorem dX8_mark_49 : decode cX8_mark 49 = .ok (.ireturn, 1) := by decide +kernel
theorem dX8_mark_50 : decode cX8_mark 50 = .ok (.iload_n 2, 1) := by decide +kernel
theorem dX8_mark_51 : decode cX8_mark 51 = .ok (.tableswitch 59 1 4 #[29, 35, 43, 53], 29) := by decide +kernel
theorem dX8_mark_80 : decode cX8_mark 80 = .ok (.aload_n 0, 1) := by decide +kernel
theorem dX8_mark_81 : decode cX8_mark 81 = .ok (.aload_n 3, 1) := by decide +kernel
theorem dX8_mark_82 : decode cX8_mark 82 = .ok (.invokevirtual 152, 3) := by decide +kernel
theorem dX8_mark_85 : decode cX8_mark 85 = .ok (.ireturn, 1) := by decide +kernel
theorem dX8_mark_86 : decode cX8_mark 86 = .ok (.bipush 20, 2) := by decide +kernel
theorem dX8_mark_88 : decode cX8_mark 88 = .ok (.aload_n 3, 1) := by decide +kernel
theorem dX8_mark_89 : decode cX8_mark 89 = .ok (.getfield 156, 3) := by decide +kernel
theorem dX8_mark_92 : decode cX8_mark 92 = .ok (.isub, 1) := by decide +kernel
theorem dX8_mark_93 : decode cX8_mark 93 = .ok (.ireturn, 1) := by decide +kernel
theorem dX8_mark_94 : decode cX8_mark 94 = .ok (.aload_n 0, 1) := by decide +kernel
theorem dX8_mark_95 : decode cX8_mark 95 = .ok (.getfield 25, 3) := by decide +kernel
theorem dX8_mark_98 : decode cX8_mark 98 = .ok (.iload_n 1, 1) := by decide +kernel
theorem dX8_mark_99 : decode cX8_mark 99 = .ok (.iconst 1, 1) := by decide +kernel
theorem dX8_mark_100 : decode cX8_mark 100 = .ok (.invokevirtual 159, 3) := by decide +kernel
theorem dX8_mark_103 : decode cX8_mark 103 = .ok (.ireturn, 1) := by decide +kernel
theorem dX8_mark_104 : decode cX8_mark 104 = .ok (.aload_n 0, 1) := by decide +kernel
theorem dX8_mark_105 : decode cX8_mark 105 = .ok (.iload_n 1, 1) := by decide +kernel
theorem dX8_mark_106 : decode cX8_mark 106 = .ok (.invokevirtual 162, 3) := by decide +kernel
theorem dX8_mark_109 : decode cX8_mark 109 = .ok (.ireturn, 1) := by decide +kernel
theorem dX8_mark_110 : decode cX8_mark 110 = .ok (.aload_n 0, 1) := by decide +kernel
theorem dX8_mark_111 : decode cX8_mark 111 = .ok (.iload_n 1, 1) := by decide +kernel
theorem dX8_mark_112 : decode cX8_mark 112 = .ok (.invokevirtual 165, 3) := by decide +kernel
theorem dX8_mark_115 : decode cX8_mark 115 = .ok (.ireturn, 1) := by decide +kernel
theorem dX8_damp_0 : decode cX8_damp 0 = .ok (.iload_n 1, 1) := by decide +kernel
theorem dX8_damp_1 : decode cX8_damp 1 = .ok (.ifCond .lt 8, 3) := by decide +kernel
theorem dX8_damp_4 : decode cX8_damp 4 = .ok (.iload_n 1, 1) := by decide +kernel
theorem dX8_damp_5 : decode cX8_damp 5 = .ok (.iconst 3, 1) := by decide +kernel
theorem dX8_damp_6 : decode cX8_damp 6 = .ok (.if_icmp .le 5, 3) := by decide +kernel
theorem dX8_damp_9 : decode cX8_damp 9 = .ok (.iconst (-1), 1) := by decide +kernel
theorem dX8_damp_10 : decode cX8_damp 10 = .ok (.ireturn, 1) := by decide +kernel
theorem dX8_damp_11 : decode cX8_damp 11 = .ok (.aload_n 0, 1) := by decide +kernel
theorem dX8_damp_12 : decode cX8_damp 12 = .ok (.getfield 25, 3) := by decide +kernel
theorem dX8_damp_15 : decode cX8_damp 15 = .ok (.getfield 135, 3) := by decide +kernel
theorem dX8_damp_18 : decode cX8_damp 18 = .ok (.ifCond .ne 6, 3) := by decide +kernel
theorem dX8_damp_21 : decode cX8_damp 21 = .ok (.bipush (-4), 2) := by decide +kernel
theorem dX8_damp_23 : decode cX8_damp 23 = .ok (.ireturn, 1) := by decide +kernel
theorem dX8_damp_24 : decode cX8_damp 24 = .ok (.aload_n 0, 1) := by decide +kernel
theorem dX8_damp_25 : decode cX8_damp 25 = .ok (.getfield 25, 3) := by decide +kernel
theorem dX8_damp_28 : decode cX8_damp 28 = .ok (.getfield 168, 3) := by decide +kernel
theorem dX8_damp_31 : decode cX8_damp 31 = .ok (.istore_n 2, 1) := by decide +kernel
theorem dX8_damp_32 : decode cX8_damp 32 = .ok (.aload_n 0, 1) := by decide +kernel
theorem dX8_damp_33 : decode cX8_damp 33 = .ok (.getfield 25, 3) := by decide +kernel
theorem dX8_damp_36 : decode cX8_damp 36 = .ok (.iload_n 1, 1) := by decide +kernel
theorem dX8_damp_37 : decode cX8_damp 37 = .ok (.putfield 168, 3) := by decide +kernel
theorem dX8_damp_40 : decode cX8_damp 40 = .ok (.iload_n 2, 1) := by decide +kernel
theorem dX8_damp_41 : decode cX8_damp 41 = .ok (.ireturn, 1) := by decide +kernel
theorem dX8_stroke_0 : decode cX8_stroke 0 = .ok (.iload_n 2, 1) := by decide +kernel
theorem dX8_stroke_1 : decode cX8_stroke 1 = .ok (.invokestatic 171, 3) := by decide +kernel
theorem dX8_stroke_4 : decode cX8_stroke 4 = .ok (.ifCond .ne 5, 3) := by decide +kernel
theorem dX8_stroke_7 : decode cX8_stroke 7 = .ok (.iconst (-1), 1) := by decide +kernel
theorem dX8_stroke_8 : decode cX8_stroke 8 = .ok (.ireturn, 1) := by decide +kernel
theorem dX8_stroke_9 : decode cX8_stroke 9 = .ok (.aload_n 0, 1) := by decide +kernel
theorem dX8_stroke_10 : decode cX8_stroke 10 = .ok (.iload_n 1, 1) := by decide +kernel
theorem dX8_stroke_11 : decode cX8_stroke 11 = .ok (.invokevirtual 174, 3) := by decide +kernel
theorem dX8_stroke_14 : decode cX8_stroke 14 = .ok (.istore_n 3, 1) := by decide +kernel
theorem dX8_stroke_15 : decode cX8_stroke 15 = .ok (.iload_n 3, 1) := by decide +kernel
theorem dX8_stroke_16 : decode cX8_stroke 16 = .ok (.ifCond .eq 5, 3) := by decide +kernel
theorem dX8_stroke_19 : decode cX8_stroke 19 = .ok (.iload_n 3, 1) := by decide +kernel
theorem dX8_stroke_20 : decode cX8_stroke 20 = .ok (.ireturn, 1) := by decide +kernel
theorem dX8_stroke_21 : decode cX8_stroke 21 = .ok (.aload_n 0, 1) := by decide +kernel
theorem dX8_stroke_22 : decode cX8_stroke 22 = .ok (.getfield 25, 3) := by decide +kernel
theorem dX8_stroke_25 : decode cX8_stroke 25 = .ok (.invokevirtual 177, 3) := by decide +kernel
theorem dX8_stroke_28 : decode cX8_stroke 28 = .ok (.iconst 1, 1) := by decide +kernel
theorem dX8_stroke_29 : decode cX8_stroke 29 = .ok (.if_icmp .ge 6, 3) := by decide +kernel
theorem dX8_stroke_32 : decode cX8_stroke 32 = .ok (.bipush (-2), 2) := by decide +kernel
theorem dX8_stroke_34 : decode cX8_stroke 34 = .ok (.ireturn, 1) := by decide +kernel
theorem dX8_stroke_35 : decode cX8_stroke 35 = .ok (.aload_n 0, 1) := by decide +kernel
theorem dX8_stroke_36 : decode cX8_stroke 36 = .ok (.getfield 25, 3) := by decide +kernel
theorem dX8_stroke_39 : decode cX8_stroke 39 = .ok (.iload_n 1, 1) := by decide +kernel
theorem dX8_stroke_40 : decode cX8_stroke 40 = .ok (.iload_n 2, 1) := by decide +kernel
theorem dX8_stroke_41 : decode cX8_stroke 41 = .ok (.invokestatic 181, 3) := by decide +kernel
theorem dX8_stroke_44 : decode cX8_stroke 44 = .ok (.invokevirtual 184, 3) := by decide +kernel
theorem dX8_stroke_47 : decode cX8_stroke 47 = .ok (.aload_n 0, 1) := by decide +kernel
theorem dX8_stroke_48 : decode cX8_stroke 48 = .ok (.getfield 25, 3) := by decide +kernel
theorem dX8_stroke_51 : decode cX8_stroke 51 = .ok (.getfield 137, 3) := by decide +kernel
theorem dX8_stroke_54 : decode cX8_stroke 54 = .ok (.iload_n 1, 1) := by decide +kernel
theorem dX8_stroke_55 : decode cX8_stroke 55 = .ok (.aaload, 1) := by decide +kernel
theorem dX8_stroke_56 : decode cX8_stroke 56 = .ok (.getfield 156, 3) := by decide +kernel
theorem dX8_stroke_59 : decode cX8_stroke 59 = .ok (.ireturn, 1) := by decide +kernel
theorem dX8_round_0 : decode cX8_round 0 = .ok (.aload_n 0, 1) := by decide +kernel
theorem dX8_round_1 : decode cX8_round 1 = .ok (.iload_n 1, 1) := by decide +kernel
theorem dX8_round_2 : decode cX8_round 2 = .ok (.invokevirtual 187, 3) := by decide +kernel
theorem dX8_round_5 : decode cX8_round 5 = .ok (.istore_n 2, 1) := by decide +kernel
theorem dX8_round_6 : decode cX8_round 6 = .ok (.iload_n 2, 1) := by decide +kernel
theorem dX8_round_7 : decode cX8_round 7 = .ok (.ifCond .eq 5, 3) := by decide +kernel
theorem dX8_round_10 : decode cX8_round 10 = .ok (.iload_n 2, 1) := by decide +kernel
theorem dX8_round_11 : decode cX8_round 11 = .ok (.ireturn, 1) := by decide +kernel
theorem dX8_round_12 : decode cX8_round 12 = .ok (.aload_n 0, 1) := by decide +kernel
theorem dX8_round_13 : decode cX8_round 13 = .ok (.getfield 25, 3) := by decide +kernel
theorem dX8_round_16 : decode cX8_round 16 = .ok (.invokevirtual 177, 3) := by decide +kernel
theorem dX8_round_19 : decode cX8_round 19 = .ok (.iconst 1, 1) := by decide +kernel
theorem dX8_round_20 : decode cX8_round 20 = .ok (.if_icmp .ge 6, 3) := by decide +kernel
theorem dX8_round_23 : decode cX8_round 23 = .ok (.bipush (-2), 2) := by decide +kernel
theorem dX8_round_25 : decode cX8_round 25 = .ok (.ireturn, 1) := by decide +kernel
theorem dX8_round_26 : decode cX8_round 26 = .ok (.aload_n 0, 1) := by decide +kernel
theorem dX8_round_27 : decode cX8_round 27 = .ok (.aload_n 0, 1) := by decide +kernel
theorem dX8_round_28 : decode cX8_round 28 = .ok (.getfield 11, 3) := by decide +kernel
theorem dX8_round_31 : decode cX8_round 31 = .ok (.iload_n 1, 1) := by decide +kernel
theorem dX8_round_32 : decode cX8_round 32 = .ok (.aaload, 1) := by decide +kernel
theorem dX8_round_33 : decode cX8_round 33 = .ok (.invokevirtual 190, 3) := by decide +kernel
theorem dX8_round_36 : decode cX8_round 36 = .ok (.aload_n 0, 1) := by decide +kernel
theorem dX8_round_37 : decode cX8_round 37 = .ok (.getfield 25, 3) := by decide +kernel
theorem dX8_round_40 : decode cX8_round 40 = .ok (.aload_n 0, 1) := by decide +kernel
theorem dX8_round_41 : decode cX8_round 41 = .ok (.getfield 11, 3) := by decide +kernel
theorem dX8_round_44 : decode cX8_round 44 = .ok (.iload_n 1, 1) := by decide +kernel
theorem dX8_round_45 : decode cX8_round 45 = .ok (.aaload, 1) := by decide +kernel
theorem dX8_round_46 : decode cX8_round 46 = .ok (.invokestatic 194, 3) := by decide +kernel
theorem dX8_round_49 : decode cX8_round 49 = .ok (.invokevirtual 184, 3) := by decide +kernel
theorem dX8_round_52 : decode cX8_round 52 = .ok (.aload_n 0, 1) := by decide +kernel
theorem dX8_round_53 : decode cX8_round 53 = .ok (.getfield 35, 3) := by decide +kernel
theorem dX8_round_56 : decode cX8_round 56 = .ok (.invokevirtual 197, 3) := by decide +kernel
theorem dX8_round_59 : decode cX8_round 59 = .ok (.ireturn, 1) := by decide +kernel
theorem dX8_mend_0 : decode cX8_mend 0 = .ok (.aload_n 0, 1) := by decide +kernel
theorem dX8_mend_1 : decode cX8_mend 1 = .ok (.getfield 25, 3) := by decide +kernel
theorem dX8_mend_4 : decode cX8_mend 4 = .ok (.iload_n 1, 1) := by decide +kernel
theorem dX8_mend_5 : decode cX8_mend 5 = .ok (.invokevirtual 136, 3) := by decide +kernel
theorem dX8_mend_8 : decode cX8_mend 8 = .ok (.ifCond .ne 5, 3) := by decide +kernel
theorem dX8_mend_11 : decode cX8_mend 11 = .ok (.iconst (-1), 1) := by decide +kernel
theorem dX8_mend_12 : decode cX8_mend 12 = .ok (.ireturn, 1) := by decide +kernel
theorem dX8_mend_13 : decode cX8_mend 13 = .ok (.aload_n 0, 1) := by decide +kernel
theorem dX8_mend_14 : decode cX8_mend 14 = .ok (.getfield 25, 3) := by decide +kernel
theorem dX8_mend_17 : decode cX8_mend 17 = .ok (.getfield 137, 3) := by decide +kernel
theorem dX8_mend_20 : decode cX8_mend 20 = .ok (.iload_n 1, 1) := by decide +kernel
theorem dX8_mend_21 : decode cX8_mend 21 = .ok (.aaload, 1) := by decide +kernel
theorem dX8_mend_22 : decode cX8_mend 22 = .ok (.getfield 200, 3) := by decide +kernel
theorem dX8_mend_25 : decode cX8_mend 25 = .ok (.ifCond .ne 6, 3) := by decide +kernel
theorem dX8_mend_28 : decode cX8_mend 28 = .ok (.bipush (-4), 2) := by decide +kernel
theorem dX8_mend_30 : decode cX8_mend 30 = .ok (.ireturn, 1) := by decide +kernel
theorem dX8_mend_31 : decode cX8_mend 31 = .ok (.aload_n 0, 1) := by decide +kernel
theorem dX8_mend_32 : decode cX8_mend 32 = .ok (.getfield 25, 3) := by decide +kernel
theorem dX8_mend_35 : decode cX8_mend 35 = .ok (.invokevirtual 177, 3) := by decide +kernel
theorem dX8_mend_38 : decode cX8_mend 38 = .ok (.iconst 1, 1) := by decide +kernel
theorem dX8_mend_39 : decode cX8_mend 39 = .ok (.if_icmp .ge 6, 3) := by decide +kernel
theorem dX8_mend_42 : decode cX8_mend 42 = .ok (.bipush (-2), 2) := by decide +kernel
theorem dX8_mend_44 : decode cX8_mend 44 = .ok (.ireturn, 1) := by decide +kernel
theorem dX8_mend_45 : decode cX8_mend 45 = .ok (.aload_n 0, 1) := by decide +kernel
theorem dX8_mend_46 : decode cX8_mend 46 = .ok (.getfield 25, 3) := by decide +kernel
theorem dX8_mend_49 : decode cX8_mend 49 = .ok (.iload_n 1, 1) := by decide +kernel
theorem dX8_mend_50 : decode cX8_mend 50 = .ok (.invokestatic 203, 3) := by decide +kernel
theorem dX8_mend_53 : decode cX8_mend 53 = .ok (.invokevirtual 184, 3) := by decide +kernel
theorem dX8_mend_56 : decode cX8_mend 56 = .ok (.iconst 1, 1) := by decide +kernel
theorem dX8_mend_57 : decode cX8_mend 57 = .ok (.ireturn, 1) := by decide +kernel
theorem dX8_undo_0 : decode cX8_undo 0 = .ok (.iload_n 1, 1) := by decide +kernel
theorem dX8_undo_1 : decode cX8_undo 1 = .ok (.ifCond .lt 14, 3) := by decide +kernel
theorem dX8_undo_4 : decode cX8_undo 4 = .ok (.iload_n 1, 1) := by decide +kernel
theorem dX8_undo_5 : decode cX8_undo 5 = .ok (.aload_n 0, 1) := by decide +kernel
theorem dX8_undo_6 : decode cX8_undo 6 = .ok (.getfield 25, 3) := by decide +kernel
theorem dX8_undo_9 : decode cX8_undo 9 = .ok (.getfield 206, 3) := by decide +kernel
theorem dX8_undo_12 : decode cX8_undo 12 = .ok (.if_icmp .le 5, 3) := by decide +kernel
theorem dX8_undo_15 : decode cX8_undo 15 = .ok (.iconst (-1), 1) := by decide +kernel
theorem dX8_undo_16 : decode cX8_undo 16 = .ok (.ireturn, 1) := by decide +kernel
theorem dX8_undo_17 : decode cX8_undo 17 = .ok (.aload_n 0, 1) := by decide +kernel
theorem dX8_undo_18 : decode cX8_undo 18 = .ok (.getfield 25, 3) := by decide +kernel
theorem dX8_undo_21 : decode cX8_undo 21 = .ok (.getfield 206, 3) := by decide +kernel
theorem dX8_undo_24 : decode cX8_undo 24 = .ok (.iload_n 1, 1) := by decide +kernel
theorem dX8_undo_25 : decode cX8_undo 25 = .ok (.isub, 1) := by decide +kernel
theorem dX8_undo_26 : decode cX8_undo 26 = .ok (.istore_n 2, 1) := by decide +kernel
theorem dX8_undo_27 : decode cX8_undo 27 = .ok (.aload_n 0, 1) := by decide +kernel
theorem dX8_undo_28 : decode cX8_undo 28 = .ok (.getfield 25, 3) := by decide +kernel
theorem dX8_undo_31 : decode cX8_undo 31 = .ok (.iload_n 1, 1) := by decide +kernel
theorem dX8_undo_32 : decode cX8_undo 32 = .ok (.invokevirtual 209, 3) := by decide +kernel
theorem dX8_undo_35 : decode cX8_undo 35 = .ok (.iload_n 2, 1) := by decide +kernel
theorem dX8_undo_36 : decode cX8_undo 36 = .ok (.ireturn, 1) := by decide +kernel
theorem dX8_keep_0 : decode cX8_keep 0 = .ok (.iload_n 1, 1) := by decide +kernel
theorem dX8_keep_1 : decode cX8_keep 1 = .ok (.invokestatic 212, 3) := by decide +kernel
theorem dX8_keep_4 : decode cX8_keep 4 = .ok (.ifCond .ne 5, 3) := by decide +kernel
theorem dX8_keep_7 : decode cX8_keep 7 = .ok (.iconst (-1), 1) := by decide +kernel
theorem dX8_keep_8 : decode cX8_keep 8 = .ok (.ireturn, 1) := by decide +kernel
theorem dX8_keep_9 : decode cX8_keep 9 = .ok (.aload_n 0, 1) := by decide +kernel
theorem dX8_keep_10 : decode cX8_keep 10 = .ok (.getfield 25, 3) := by decide +kernel
theorem dX8_keep_13 : decode cX8_keep 13 = .ok (.getfield 135, 3) := by decide +kernel
theorem dX8_keep_16 : decode cX8_keep 16 = .ok (.ifCond .ne 6, 3) := by decide +kernel
theorem dX8_keep_19 : decode cX8_keep 19 = .ok (.bipush (-4), 2) := by decide +kernel
theorem dX8_keep_21 : decode cX8_keep 21 = .ok (.ireturn, 1) := by decide +kernel
theorem dX8_keep_22 : decode cX8_keep 22 = .ok (.aload_n 0, 1) := by decide +kernel
theorem dX8_keep_23 : decode cX8_keep 23 = .ok (.getfield 20, 3) := by decide +kernel
theorem dX8_keep_26 : decode cX8_keep 26 = .ok (.iload_n 1, 1) := by decide +kernel
theorem dX8_keep_27 : decode cX8_keep 27 = .ok (.aaload, 1) := by decide +kernel
theorem dX8_keep_28 : decode cX8_keep 28 = .ok (.aload_n 0, 1) := by decide +kernel
theorem dX8_keep_29 : decode cX8_keep 29 = .ok (.getfield 25, 3) := by decide +kernel
theorem dX8_keep_32 : decode cX8_keep 32 = .ok (.invokevirtual 128, 3) := by decide +kernel
theorem dX8_keep_35 : decode cX8_keep 35 = .ok (.aload_n 0, 1) := by decide +kernel
theorem dX8_keep_36 : decode cX8_keep 36 = .ok (.getfield 25, 3) := by decide +kernel
theorem dX8_keep_39 : decode cX8_keep 39 = .ok (.getfield 206, 3) := by decide +kernel
theorem dX8_keep_42 : decode cX8_keep 42 = .ok (.ireturn, 1) := by decide +kernel
theorem dX8_on_0 : decode cX8_on 0 = .ok (.iload_n 1, 1) := by decide +kernel
theorem dX8_on_1 : decode cX8_on 1 = .ok (.invokestatic 212, 3) := by decide +kernel
theorem dX8_on_4 : decode cX8_on 4 = .ok (.ifCond .ne 5, 3) := by decide +kernel
theorem dX8_on_7 : decode cX8_on 7 = .ok (.iconst (-1), 1) := by decide +kernel
theorem dX8_on_8 : decode cX8_on 8 = .ok (.ireturn, 1) := by decide +kernel
theorem dX8_on_9 : decode cX8_on 9 = .ok (.aload_n 0, 1) := by decide +kernel
theorem dX8_on_10 : decode cX8_on 10 = .ok (.getfield 20, 3) := by decide +kernel
theorem dX8_on_13 : decode cX8_on 13 = .ok (.iload_n 1, 1) := by decide +kernel
theorem dX8_on_14 : decode cX8_on 14 = .ok (.aaload, 1) := by decide +kernel
theorem dX8_on_15 : decode cX8_on 15 = .ok (.getfield 135, 3) := by decide +kernel
theorem dX8_on_18 : decode cX8_on 18 = .ok (.ifCond .ne 9, 3) := by decide +kernel
theorem dX8_on_21 : decode cX8_on 21 = .ok (.aload_n 0, 1) := by decide +kernel
theorem dX8_on_22 : decode cX8_on 22 = .ok (.iconst 1, 1) := by decide +kernel
theorem dX8_on_23 : decode cX8_on 23 = .ok (.invokevirtual 101, 3) := by decide +kernel
theorem dX8_on_26 : decode cX8_on 26 = .ok (.ireturn, 1) := by decide +kernel
theorem dX8_on_27 : decode cX8_on 27 = .ok (.aload_n 0, 1) := by decide +kernel
theorem dX8_on_28 : decode cX8_on 28 = .ok (.getfield 25, 3) := by decide +kernel
theorem dX8_on_31 : decode cX8_on 31 = .ok (.aload_n 0, 1) := by decide +kernel
theorem dX8_on_32 : decode cX8_on 32 = .ok (.getfield 20, 3) := by decide +kernel
theorem dX8_on_35 : decode cX8_on 35 = .ok (.iload_n 1, 1) := by decide +kernel
theorem dX8_on_36 : decode cX8_on 36 = .ok (.aaload, 1) := by decide +kernel
theorem dX8_on_37 : decode cX8_on 37 = .ok (.invokevirtual 128, 3) := by decide +kernel
theorem dX8_on_40 : decode cX8_on 40 = .ok (.aload_n 0, 1) := by decide +kernel
theorem dX8_on_41 : decode cX8_on 41 = .ok (.getfield 25, 3) := by decide +kernel
theorem dX8_on_44 : decode cX8_on 44 = .ok (.getfield 206, 3) := by decide +kernel
theorem dX8_on_47 : decode cX8_on 47 = .ok (.ireturn, 1) := by decide +kernel
theorem dX8_strikes_0 : decode cX8_strikes 0 = .ok (.iload_n 2, 1) := by decide +kernel
theorem dX8_strikes_1 : decode cX8_strikes 1 = .ok (.invokestatic 171, 3) := by decide +kernel
theorem dX8_strikes_4 : decode cX8_strikes 4 = .ok (.ifCond .ne 5, 3) := by decide +kernel
theorem dX8_strikes_7 : decode cX8_strikes 7 = .ok (.iconst (-1), 1) := by decide +kernel
theorem dX8_strikes_8 : decode cX8_strikes 8 = .ok (.ireturn, 1) := by decide +kernel
theorem dX8_strikes_9 : decode cX8_strikes 9 = .ok (.aload_n 0, 1) := by decide +kernel
theorem dX8_strikes_10 : decode cX8_strikes 10 = .ok (.iload_n 1, 1) := by decide +kernel
theorem dX8_strikes_11 : decode cX8_strikes 11 = .ok (.invokevirtual 174, 3) := by decide +kernel
theorem dX8_strikes_14 : decode cX8_strikes 14 = .ok (.istore_n 3, 1) := by decide +kernel
theorem dX8_strikes_15 : decode cX8_strikes 15 = .ok (.iload_n 3, 1) := by decide +kernel
theorem dX8_strikes_16 : decode cX8_strikes 16 = .ok (.ifCond .eq 7, 3) := by decide +kernel
theorem dX8_strikes_19 : decode cX8_strikes 19 = .ok (.iload_n 3, 1) := by decide +kernel
theorem dX8_strikes_20 : decode cX8_strikes 20 = .ok (.goto 12, 3) := by decide +kernel
theorem dX8_strikes_23 : decode cX8_strikes 23 = .ok (.aload_n 0, 1) := by decide +kernel
theorem dX8_strikes_24 : decode cX8_strikes 24 = .ok (.getfield 25, 3) := by decide +kernel
theorem dX8_strikes_27 : decode cX8_strikes 27 = .ok (.iload_n 1, 1) := by decide +kernel
theorem dX8_strikes_28 : decode cX8_strikes 28 = .ok (.iload_n 2, 1) := by decide +kernel
theorem dX8_strikes_29 : decode cX8_strikes 29 = .ok (.invokevirtual 159, 3) := by decide +kernel
theorem dX8_strikes_32 : decode cX8_strikes 32 = .ok (.ireturn, 1) := by decide +kernel
theorem dX8_stands_0 : decode cX8_stands 0 = .ok (.aload_n 0, 1) := by decide +kernel
theorem dX8_stands_1 : decode cX8_stands 1 = .ok (.iload_n 1, 1) := by decide +kernel
theorem dX8_stands_2 : decode cX8_stands 2 = .ok (.invokevirtual 174, 3) := by decide +kernel
theorem dX8_stands_5 : decode cX8_stands 5 = .ok (.istore_n 2, 1) := by decide +kernel
theorem dX8_stands_6 : decode cX8_stands 6 = .ok (.iload_n 2, 1) := by decide +kernel
theorem dX8_stands_7 : decode cX8_stands 7 = .ok (.ifCond .eq 5, 3) := by decide +kernel
theorem dX8_stands_10 : decode cX8_stands 10 = .ok (.iload_n 2, 1) := by decide +kernel
theorem dX8_stands_11 : decode cX8_stands 11 = .ok (.ireturn, 1) := by decide +kernel
theorem dX8_stands_12 : decode cX8_stands 12 = .ok (.aload_n 0, 1) := by decide +kernel
theorem dX8_stands_13 : decode cX8_stands 13 = .ok (.getfield 25, 3) := by decide +kernel
theorem dX8_stands_16 : decode cX8_stands 16 = .ok (.getfield 137, 3) := by decide +kernel
theorem dX8_stands_19 : decode cX8_stands 19 = .ok (.iload_n 1, 1) := by decide +kernel
theorem dX8_stands_20 : decode cX8_stands 20 = .ok (.aaload, 1) := by decide +kernel
theorem dX8_stands_21 : decode cX8_stands 21 = .ok (.astore_n 3, 1) := by decide +kernel
theorem dX8_stands_22 : decode cX8_stands 22 = .ok (.iconst 0, 1) := by decide +kernel
theorem dX8_stands_23 : decode cX8_stands 23 = .ok (.istore 4, 2) := by decide +kernel
theorem dX8_stands_25 : decode cX8_stands 25 = .ok (.iconst 0, 1) := by decide +kernel
theorem dX8_stands_26 : decode cX8_stands 26 = .ok (.istore 5, 2) := by decide +kernel
theorem dX8_stands_28 : decode cX8_stands 28 = .ok (.iconst 0, 1) := by decide +kernel
theorem dX8_stands_29 : decode cX8_stands 29 = .ok (.istore 6, 2) := by decide +kernel
theorem dX8_stands_31 : decode cX8_stands 31 = .ok (.iload 6, 2) := by decide +kernel
theorem dX8_stands_33 : decode cX8_stands 33 = .ok (.bipush 7, 2) := by decide +kernel
theorem dX8_stands_35 : decode cX8_stands 35 = .ok (.if_icmp .ge 58, 3) := by decide +kernel
theorem dX8_stands_38 : decode cX8_stands 38 = .ok (.aload_n 3, 1) := by decide +kernel
theorem dX8_stands_39 : decode cX8_stands 39 = .ok (.getfield 146, 3) := by decide +kernel
theorem dX8_stands_42 : decode cX8_stands 42 = .ok (.aload_n 3, 1) := by decide +kernel
theorem dX8_stands_43 : decode cX8_stands 43 = .ok (.getfield 156, 3) := by decide +kernel
theorem dX8_stands_46 : decode cX8_stands 46 = .ok (.iload 6, 2) := by decide +kernel
theorem dX8_stands_48 : decode cX8_stands 48 = .ok (.invokestatic 215, 3) := by decide +kernel
theorem dX8_stands_51 : decode cX8_stands 51 = .ok (.istore 7, 2) := by decide +kernel
theorem dX8_stands_53 : decode cX8_stands 53 = .ok (.iload 7, 2) := by decide +kernel
theorem dX8_stands_55 : decode cX8_stands 55 = .ok (.bipush 20, 2) := by decide +kernel
theorem dX8_stands_57 : decode cX8_stands 57 = .ok (.if_icmp .ne 15, 3) := by decide +kernel
theorem dX8_stands_60 : decode cX8_stands 60 = .ok (.iload 4, 2) := by decide +kernel
theorem dX8_stands_62 : decode cX8_stands 62 = .ok (.iconst 1, 1) := by decide +kernel
theorem dX8_stands_63 : decode cX8_stands 63 = .ok (.iload 6, 2) := by decide +kernel
theorem dX8_stands_65 : decode cX8_stands 65 = .ok (.ishl, 1) := by decide +kernel
theorem dX8_stands_66 : decode cX8_stands 66 = .ok (.ior, 1) := by decide +kernel
theorem dX8_stands_67 : decode cX8_stands 67 = .ok (.istore 4, 2) := by decide +kernel
theorem dX8_stands_69 : decode cX8_stands 69 = .ok (.goto 18, 3) := by decide +kernel
theorem dX8_stands_72 : decode cX8_stands 72 = .ok (.iload 7, 2) := by decide +kernel
theorem dX8_stands_74 : decode cX8_stands 74 = .ok (.iconst (-1), 1) := by decide +kernel
theorem dX8_stands_75 : decode cX8_stands 75 = .ok (.if_icmp .ne 12, 3) := by decide +kernel
theorem dX8_stands_78 : decode cX8_stands 78 = .ok (.iload 5, 2) := by decide +kernel
theorem dX8_stands_80 : decode cX8_stands 80 = .ok (.iconst 1, 1) := by decide +kernel
theorem dX8_stands_81 : decode cX8_stands 81 = .ok (.iload 6, 2) := by decide +kernel
theorem dX8_stands_83 : decode cX8_stands 83 = .ok (.ishl, 1) := by decide +kernel
theorem dX8_stands_84 : decode cX8_stands 84 = .ok (.ior, 1) := by decide +kernel
theorem dX8_stands_85 : decode cX8_stands 85 = .ok (.istore 5, 2) := by decide +kernel
theorem dX8_stands_87 : decode cX8_stands 87 = .ok (.iinc 6 1, 3) := by decide +kernel
theorem dX8_stands_90 : decode cX8_stands 90 = .ok (.goto (-59), 3) := by decide +kernel
theorem dX8_stands_93 : decode cX8_stands 93 = .ok (.aload_n 0, 1) := by decide +kernel
theorem dX8_stands_94 : decode cX8_stands 94 = .ok (.iload 5, 2) := by decide +kernel
theorem dX8_stands_96 : decode cX8_stands 96 = .ok (.putfield 93, 3) := by decide +kernel
theorem dX8_stands_99 : decode cX8_stands 99 = .ok (.iload 4, 2) := by decide +kernel
theorem dX8_stands_101 : decode cX8_stands 101 = .ok (.ireturn, 1) := by decide +kernel
theorem dX8_raise_0 : decode cX8_raise 0 = .ok (.iload_n 2, 1) := by decide +kernel
theorem dX8_raise_1 : decode cX8_raise 1 = .ok (.invokestatic 78, 3) := by decide +kernel
theorem dX8_raise_4 : decode cX8_raise 4 = .ok (.ifCond .eq 11, 3) := by decide +kernel
theorem dX8_raise_7 : decode cX8_raise 7 = .ok (.aload_n 0, 1) := by decide +kernel
theorem dX8_raise_8 : decode cX8_raise 8 = .ok (.iload_n 1, 1) := by decide +kernel
theorem dX8_raise_9 : decode cX8_raise 9 = .ok (.invokevirtual 174, 3) := by decide +kernel
theorem dX8_raise_12 : decode cX8_raise 12 = .ok (.goto 4, 3) := by decide +kernel
theorem dX8_raise_15 : decode cX8_raise 15 = .ok (.iconst (-1), 1) := by decide +kernel
theorem dX8_raise_16 : decode cX8_raise 16 = .ok (.istore_n 3, 1) := by decide +kernel
theorem dX8_raise_17 : decode cX8_raise 17 = .ok (.iload_n 3, 1) := by decide +kernel
theorem dX8_raise_18 : decode cX8_raise 18 = .ok (.ifCond .eq 5, 3) := by decide +kernel
theorem dX8_raise_21 : decode cX8_raise 21 = .ok (.iload_n 3, 1) := by decide +kernel
theorem dX8_raise_22 : decode cX8_raise 22 = .ok (.ireturn, 1) := by decide +kernel
theorem dX8_raise_23 : decode cX8_raise 23 = .ok (.aload_n 0, 1) := by decide +kernel
theorem dX8_raise_24 : decode cX8_raise 24 = .ok (.getfield 25, 3) := by decide +kernel
theorem dX8_raise_27 : decode cX8_raise 27 = .ok (.getfield 137, 3) := by decide +kernel
theorem dX8_raise_30 : decode cX8_raise 30 = .ok (.iload_n 1, 1) := by decide +kernel
theorem dX8_raise_31 : decode cX8_raise 31 = .ok (.aaload, 1) := by decide +kernel
theorem dX8_raise_32 : decode cX8_raise 32 = .ok (.astore 4, 2) := by decide +kernel
theorem dX8_raise_34 : decode cX8_raise 34 = .ok (.aload_n 0, 1) := by decide +kernel
theorem dX8_raise_35 : decode cX8_raise 35 = .ok (.getfield 49, 3) := by decide +kernel
theorem dX8_raise_38 : decode cX8_raise 38 = .ok (.aload 4, 2) := by decide +kernel
theorem dX8_raise_40 : decode cX8_raise 40 = .ok (.getfield 146, 3) := by decide +kernel
theorem dX8_raise_43 : decode cX8_raise 43 = .ok (.bipush 20, 2) := by decide +kernel
theorem dX8_raise_45 : decode cX8_raise 45 = .ok (.invokevirtual 219, 3) := by decide +kernel
theorem dX8_raise_48 : decode cX8_raise 48 = .ok (.aload_n 0, 1) := by decide +kernel
theorem dX8_raise_49 : decode cX8_raise 49 = .ok (.getfield 49, 3) := by decide +kernel
theorem dX8_raise_52 : decode cX8_raise 52 = .ok (.aload 4, 2) := by decide +kernel
theorem dX8_raise_54 : decode cX8_raise 54 = .ok (.getfield 156, 3) := by decide +kernel
theorem dX8_raise_57 : decode cX8_raise 57 = .ok (.invokevirtual 223, 3) := by decide +kernel
theorem dX8_raise_60 : decode cX8_raise 60 = .ok (.istore 5, 2) := by decide +kernel
theorem dX8_raise_62 : decode cX8_raise 62 = .ok (.iload 5, 2) := by decide +kernel
theorem dX8_raise_64 : decode cX8_raise 64 = .ok (.bipush (-9), 2) := by decide +kernel
theorem dX8_raise_66 : decode cX8_raise 66 = .ok (.if_icmp .eq 20, 3) := by decide +kernel
theorem dX8_raise_69 : decode cX8_raise 69 = .ok (.aload_n 0, 1) := by decide +kernel
theorem dX8_raise_70 : decode cX8_raise 70 = .ok (.getfield 49, 3) := by decide +kernel
theorem dX8_raise_73 : decode cX8_raise 73 = .ok (.aload 4, 2) := by decide +kernel
theorem dX8_raise_75 : decode cX8_raise 75 = .ok (.iload 5, 2) := by decide +kernel
theorem dX8_raise_77 : decode cX8_raise 77 = .ok (.aload_n 0, 1) := by decide +kernel
theorem dX8_raise_78 : decode cX8_raise 78 = .ok (.getfield 11, 3) := by decide +kernel
theorem dX8_raise_81 : decode cX8_raise 81 = .ok (.iload_n 2, 1) := by decide +kernel
theorem dX8_raise_82 : decode cX8_raise 82 = .ok (.aaload, 1) := by decide +kernel
theorem dX8_raise_83 : decode cX8_raise 83 = .ok (.invokevirtual 226, 3) := by decide +kernel
theorem dX8_raise_86 : decode cX8_raise 86 = .ok (.iload 5, 2) := by decide +kernel
theorem dX8_raise_88 : decode cX8_raise 88 = .ok (.ireturn, 1) := by decide +kernel
theorem dX8_ways_0 : decode cX8_ways 0 = .ok (.iload_n 2, 1) := by decide +kernel
theorem dX8_ways_1 : decode cX8_ways 1 = .ok (.ifCond .lt 9, 3) := by decide +kernel
theorem dX8_ways_4 : decode cX8_ways 4 = .ok (.iload_n 2, 1) := by decide +kernel
theorem dX8_ways_5 : decode cX8_ways 5 = .ok (.bipush 12, 2) := by decide +kernel
theorem dX8_ways_7 : decode cX8_ways 7 = .ok (.if_icmp .le 5, 3) := by decide +kernel
theorem dX8_ways_10 : decode cX8_ways 10 = .ok (.iconst (-1), 1) := by decide +kernel
theorem dX8_ways_11 : decode cX8_ways 11 = .ok (.ireturn, 1) := by decide +kernel
theorem dX8_ways_12 : decode cX8_ways 12 = .ok (.aload_n 0, 1) := by decide +kernel
theorem dX8_ways_13 : decode cX8_ways 13 = .ok (.iload_n 1, 1) := by decide +kernel
theorem dX8_ways_14 : decode cX8_ways 14 = .ok (.invokevirtual 174, 3) := by decide +kernel
theorem dX8_ways_17 : decode cX8_ways 17 = .ok (.istore_n 3, 1) := by decide +kernel
theorem dX8_ways_18 : decode cX8_ways 18 = .ok (.iload_n 3, 1) := by decide +kernel
theorem dX8_ways_19 : decode cX8_ways 19 = .ok (.ifCond .eq 5, 3) := by decide +kernel
theorem dX8_ways_22 : decode cX8_ways 22 = .ok (.iload_n 3, 1) := by decide +kernel
theorem dX8_ways_23 : decode cX8_ways 23 = .ok (.ireturn, 1) := by decide +kernel
theorem dX8_ways_24 : decode cX8_ways 24 = .ok (.aload_n 0, 1) := by decide +kernel
theorem dX8_ways_25 : decode cX8_ways 25 = .ok (.getfield 25, 3) := by decide +kernel
theorem dX8_ways_28 : decode cX8_ways 28 = .ok (.getfield 137, 3) := by decide +kernel
theorem dX8_ways_31 : decode cX8_ways 31 = .ok (.iload_n 1, 1) := by decide +kernel
theorem dX8_ways_32 : decode cX8_ways 32 = .ok (.aaload, 1) := by decide +kernel
theorem dX8_ways_33 : decode cX8_ways 33 = .ok (.astore 4, 2) := by decide +kernel
theorem dX8_ways_35 : decode cX8_ways 35 = .ok (.aload_n 0, 1) := by decide +kernel
theorem dX8_ways_36 : decode cX8_ways 36 = .ok (.getfield 56, 3) := by decide +kernel
theorem dX8_ways_39 : decode cX8_ways 39 = .ok (.aload 4, 2) := by decide +kernel
theorem dX8_ways_41 : decode cX8_ways 41 = .ok (.getfield 156, 3) := by decide +kernel
theorem dX8_ways_44 : decode cX8_ways 44 = .ok (.invokevirtual 230, 3) := by decide +kernel
theorem dX8_ways_47 : decode cX8_ways 47 = .ok (.iconst 0, 1) := by decide +kernel
theorem dX8_ways_48 : decode cX8_ways 48 = .ok (.istore 5, 2) := by decide +kernel
theorem dX8_ways_50 : decode cX8_ways 50 = .ok (.iload 5, 2) := by decide +kernel
theorem dX8_ways_52 : decode cX8_ways 52 = .ok (.iload_n 2, 1) := by decide +kernel
theorem dX8_ways_53 : decode cX8_ways 53 = .ok (.if_icmp .ge 47, 3) := by decide +kernel
theorem dX8_ways_56 : decode cX8_ways 56 = .ok (.iconst 0, 1) := by decide +kernel
theorem dX8_ways_57 : decode cX8_ways 57 = .ok (.istore 6, 2) := by decide +kernel
theorem dX8_ways_59 : decode cX8_ways 59 = .ok (.iload 6, 2) := by decide +kernel
theorem dX8_ways_61 : decode cX8_ways 61 = .ok (.bipush 7, 2) := by decide +kernel
theorem dX8_ways_63 : decode cX8_ways 63 = .ok (.if_icmp .ge 24, 3) := by decide +kernel
theorem dX8_ways_66 : decode cX8_ways 66 = .ok (.aload_n 0, 1) := by decide +kernel
theorem dX8_ways_67 : decode cX8_ways 67 = .ok (.getfield 56, 3) := by decide +kernel
theorem dX8_ways_70 : decode cX8_ways 70 = .ok (.aload 4, 2) := by decide +kernel
theorem dX8_ways_72 : decode cX8_ways 72 = .ok (.getfield 146, 3) := by decide +kernel
theorem dX8_ways_75 : decode cX8_ways 75 = .ok (.iload 6, 2) := by decide +kernel
theorem dX8_ways_77 : decode cX8_ways 77 = .ok (.lconst 1, 1) := by decide +kernel
theorem dX8_ways_78 : decode cX8_ways 78 = .ok (.invokevirtual 233, 3) := by decide +kernel
theorem dX8_ways_81 : decode cX8_ways 81 = .ok (.iinc 6 1, 3) := by decide +kernel
theorem dX8_ways_84 : decode cX8_ways 84 = .ok (.goto (-25), 3) := by decide +kernel
theorem dX8_ways_87 : decode cX8_ways 87 = .ok (.aload_n 0, 1) := by decide +kernel
theorem dX8_ways_88 : decode cX8_ways 88 = .ok (.getfield 56, 3) := by decide +kernel
theorem dX8_ways_91 : decode cX8_ways 91 = .ok (.invokevirtual 237, 3) := by decide +kernel
theorem dX8_ways_94 : decode cX8_ways 94 = .ok (.iinc 5 1, 3) := by decide +kernel
theorem dX8_ways_97 : decode cX8_ways 97 = .ok (.goto (-47), 3) := by decide +kernel
theorem dX8_ways_100 : decode cX8_ways 100 = .ok (.aload_n 0, 1) := by decide +kernel
theorem dX8_ways_101 : decode cX8_ways 101 = .ok (.aload_n 0, 1) := by decide +kernel
theorem dX8_ways_102 : decode cX8_ways 102 = .ok (.getfield 56, 3) := by decide +kernel
theorem dX8_ways_105 : decode cX8_ways 105 = .ok (.getfield 240, 3) := by decide +kernel
theorem dX8_ways_108 : decode cX8_ways 108 = .ok (.bipush 20, 2) := by decide +kernel
theorem dX8_ways_110 : decode cX8_ways 110 = .ok (.laload, 1) := by decide +kernel
theorem dX8_ways_111 : decode cX8_ways 111 = .ok (.lconst 1, 1) := by decide +kernel
theorem dX8_ways_112 : decode cX8_ways 112 = .ok (.invokevirtual 244, 3) := by decide +kernel
theorem dX8_ways_115 : decode cX8_ways 115 = .ok (.ireturn, 1) := by decide +kernel
theorem dX8_arms_0 : decode cX8_arms 0 = .ok (.iload_n 2, 1) := by decide +kernel
theorem dX8_arms_1 : decode cX8_arms 1 = .ok (.ifCond .lt 27, 3) := by decide +kernel
theorem dX8_arms_4 : decode cX8_arms 4 = .ok (.iload_n 2, 1) := by decide +kernel
theorem dX8_arms_5 : decode cX8_arms 5 = .ok (.bipush 12, 2) := by decide +kernel
theorem dX8_arms_7 : decode cX8_arms 7 = .ok (.if_icmp .gt 21, 3) := by decide +kernel
theorem dX8_arms_10 : decode cX8_arms 10 = .ok (.iload_n 3, 1) := by decide +kernel
theorem dX8_arms_11 : decode cX8_arms 11 = .ok (.ifCond .lt 17, 3) := by decide +kernel
theorem dX8_arms_14 : decode cX8_arms 14 = .ok (.iload_n 3, 1) := by decide +kernel
theorem dX8_arms_15 : decode cX8_arms 15 = .ok (.bipush 20, 2) := by decide +kernel
theorem dX8_arms_17 : decode cX8_arms 17 = .ok (.if_icmp .gt 11, 3) := by decide +kernel
theorem dX8_arms_20 : decode cX8_arms 20 = .ok (.iload 4, 2) := by decide +kernel
theorem dX8_arms_22 : decode cX8_arms 22 = .ok (.invokestatic 78, 3) := by decide +kernel
theorem dX8_arms_25 : decode cX8_arms 25 = .ok (.ifCond .ne 5, 3) := by decide +kernel
theorem dX8_arms_28 : decode cX8_arms 28 = .ok (.iconst (-1), 1) := by decide +kernel
theorem dX8_arms_29 : decode cX8_arms 29 = .ok (.ireturn, 1) := by decide +kernel
theorem dX8_arms_30 : decode cX8_arms 30 = .ok (.aload_n 0, 1) := by decide +kernel
theorem dX8_arms_31 : decode cX8_arms 31 = .ok (.iload_n 1, 1) := by decide +kernel
theorem dX8_arms_32 : decode cX8_arms 32 = .ok (.invokevirtual 174, 3) := by decide +kernel
theorem dX8_arms_35 : decode cX8_arms 35 = .ok (.istore 5, 2) := by decide +kernel
theorem dX8_arms_37 : decode cX8_arms 37 = .ok (.iload 5, 2) := by decide +kernel
theorem dX8_arms_39 : decode cX8_arms 39 = .ok (.ifCond .eq 6, 3) := by decide +kernel
theorem dX8_arms_42 : decode cX8_arms 42 = .ok (.iload 5, 2) := by decide +kernel
theorem dX8_arms_44 : decode cX8_arms 44 = .ok (.ireturn, 1) := by decide +kernel
theorem dX8_arms_45 : decode cX8_arms 45 = .ok (.aload_n 0, 1) := by decide +kernel
theorem dX8_arms_46 : decode cX8_arms 46 = .ok (.getfield 25, 3) := by decide +kernel
theorem dX8_arms_49 : decode cX8_arms 49 = .ok (.getfield 137, 3) := by decide +kernel
theorem dX8_arms_52 : decode cX8_arms 52 = .ok (.iload_n 1, 1) := by decide +kernel
theorem dX8_arms_53 : decode cX8_arms 53 = .ok (.aaload, 1) := by decide +kernel
theorem dX8_arms_54 : decode cX8_arms 54 = .ok (.astore 6, 2) := by decide +kernel
theorem dX8_arms_56 : decode cX8_arms 56 = .ok (.aload_n 0, 1) := by decide +kernel
theorem dX8_arms_57 : decode cX8_arms 57 = .ok (.getfield 49, 3) := by decide +kernel
theorem dX8_arms_60 : decode cX8_arms 60 = .ok (.aload 6, 2) := by decide +kernel
theorem dX8_arms_62 : decode cX8_arms 62 = .ok (.getfield 146, 3) := by decide +kernel
theorem dX8_arms_65 : decode cX8_arms 65 = .ok (.iload_n 2, 1) := by decide +kernel
theorem dX8_arms_66 : decode cX8_arms 66 = .ok (.iload_n 3, 1) := by decide +kernel
theorem dX8_arms_67 : decode cX8_arms 67 = .ok (.invokevirtual 248, 3) := by decide +kernel
theorem dX8_arms_70 : decode cX8_arms 70 = .ok (.aload_n 0, 1) := by decide +kernel
theorem dX8_arms_71 : decode cX8_arms 71 = .ok (.getfield 49, 3) := by decide +kernel
theorem dX8_arms_74 : decode cX8_arms 74 = .ok (.iload_n 2, 1) := by decide +kernel
theorem dX8_arms_75 : decode cX8_arms 75 = .ok (.aload 6, 2) := by decide +kernel
theorem dX8_arms_77 : decode cX8_arms 77 = .ok (.getfield 156, 3) := by decide +kernel
theorem dX8_arms_80 : decode cX8_arms 80 = .ok (.invokevirtual 252, 3) := by decide +kernel
theorem dX8_arms_83 : decode cX8_arms 83 = .ok (.istore 7, 2) := by decide +kernel
theorem dX8_arms_85 : decode cX8_arms 85 = .ok (.iload 7, 2) := by decide +kernel
theorem dX8_arms_87 : decode cX8_arms 87 = .ok (.bipush (-9), 2) := by decide +kernel
theorem dX8_arms_89 : decode cX8_arms 89 = .ok (.if_icmp .eq 20, 3) := by decide +kernel
theorem dX8_arms_92 : decode cX8_arms 92 = .ok (.aload_n 0, 1) := by decide +kernel
theorem dX8_arms_93 : decode cX8_arms 93 = .ok (.getfield 49, 3) := by decide +kernel
theorem dX8_arms_96 : decode cX8_arms 96 = .ok (.aload 6, 2) := by decide +kernel
theorem dX8_arms_98 : decode cX8_arms 98 = .ok (.iload_n 2, 1) := by decide +kernel
theorem dX8_arms_99 : decode cX8_arms 99 = .ok (.aload_n 0, 1) := by decide +kernel
theorem dX8_arms_100 : decode cX8_arms 100 = .ok (.getfield 11, 3) := by decide +kernel
theorem dX8_arms_103 : decode cX8_arms 103 = .ok (.iload 4, 2) := by decide +kernel
theorem dX8_arms_105 : decode cX8_arms 105 = .ok (.aaload, 1) := by decide +kernel
theorem dX8_arms_106 : decode cX8_arms 106 = .ok (.invokevirtual 255, 3) := by decide +kernel
theorem dX8_arms_109 : decode cX8_arms 109 = .ok (.iload 7, 2) := by decide +kernel
theorem dX8_arms_111 : decode cX8_arms 111 = .ok (.ireturn, 1) := by decide +kernel
theorem dX8_hold_0 : decode cX8_hold 0 = .ok (.iload_n 2, 1) := by decide +kernel
theorem dX8_hold_1 : decode cX8_hold 1 = .ok (.ifCond .lt 9, 3) := by decide +kernel
theorem dX8_hold_4 : decode cX8_hold 4 = .ok (.iload_n 2, 1) := by decide +kernel
theorem dX8_hold_5 : decode cX8_hold 5 = .ok (.bipush 40, 2) := by decide +kernel
theorem dX8_hold_7 : decode cX8_hold 7 = .ok (.if_icmp .le 5, 3) := by decide +kernel
theorem dX8_hold_10 : decode cX8_hold 10 = .ok (.iconst (-1), 1) := by decide +kernel
theorem dX8_hold_11 : decode cX8_hold 11 = .ok (.ireturn, 1) := by decide +kernel
theorem dX8_hold_12 : decode cX8_hold 12 = .ok (.aload_n 0, 1) := by decide +kernel
theorem dX8_hold_13 : decode cX8_hold 13 = .ok (.iload_n 1, 1) := by decide +kernel
theorem dX8_hold_14 : decode cX8_hold 14 = .ok (.invokevirtual 174, 3) := by decide +kernel
theorem dX8_hold_17 : decode cX8_hold 17 = .ok (.istore_n 3, 1) := by decide +kernel
theorem dX8_hold_18 : decode cX8_hold 18 = .ok (.iload_n 3, 1) := by decide +kernel
theorem dX8_hold_19 : decode cX8_hold 19 = .ok (.ifCond .eq 5, 3) := by decide +kernel
theorem dX8_hold_22 : decode cX8_hold 22 = .ok (.iload_n 3, 1) := by decide +kernel
theorem dX8_hold_23 : decode cX8_hold 23 = .ok (.ireturn, 1) := by decide +kernel
theorem dX8_hold_24 : decode cX8_hold 24 = .ok (.bipush (-9), 2) := by decide +kernel
theorem dX8_hold_26 : decode cX8_hold 26 = .ok (.istore 4, 2) := by decide +kernel
theorem dX8_hold_28 : decode cX8_hold 28 = .ok (.sipush 1000, 3) := by decide +kernel
theorem dX8_hold_31 : decode cX8_hold 31 = .ok (.istore 5, 2) := by decide +kernel
theorem dX8_hold_33 : decode cX8_hold 33 = .ok (.iconst 0, 1) := by decide +kernel
theorem dX8_hold_34 : decode cX8_hold 34 = .ok (.istore 6, 2) := by decide +kernel
theorem dX8_hold_36 : decode cX8_hold 36 = .ok (.iload 6, 2) := by decide +kernel
theorem dX8_hold_38 : decode cX8_hold 38 = .ok (.bipush 7, 2) := by decide +kernel
theorem dX8_hold_40 : decode cX8_hold 40 = .ok (.if_icmp .ge 52, 3) := by decide +kernel
theorem dX8_hold_43 : decode cX8_hold 43 = .ok (.aload_n 0, 1) := by decide +kernel
theorem dX8_hold_44 : decode cX8_hold 44 = .ok (.getfield 25, 3) := by decide +kernel
theorem dX8_hold_47 : decode cX8_hold 47 = .ok (.iload_n 1, 1) := by decide +kernel
theorem dX8_hold_48 : decode cX8_hold 48 = .ok (.iload 6, 2) := by decide +kernel
theorem dX8_hold_50 : decode cX8_hold 50 = .ok (.invokevirtual 159, 3) := by decide +kernel
theorem dX8_hold_53 : decode cX8_hold 53 = .ok (.istore 7, 2) := by decide +kernel
theorem dX8_hold_55 : decode cX8_hold 55 = .ok (.iload 7, 2) := by decide +kernel
theorem dX8_hold_57 : decode cX8_hold 57 = .ok (.iload_n 2, 1) := by decide +kernel
theorem dX8_hold_58 : decode cX8_hold 58 = .ok (.isub, 1) := by decide +kernel
theorem dX8_hold_59 : decode cX8_hold 59 = .ok (.invokestatic 258, 3) := by decide +kernel
theorem dX8_hold_62 : decode cX8_hold 62 = .ok (.istore 8, 2) := by decide +kernel
theorem dX8_hold_64 : decode cX8_hold 64 = .ok (.iload 7, 2) := by decide +kernel
theorem dX8_hold_66 : decode cX8_hold 66 = .ok (.bipush (-9), 2) := by decide +kernel
theorem dX8_hold_68 : decode cX8_hold 68 = .ok (.if_icmp .eq 18, 3) := by decide +kernel
theorem dX8_hold_71 : decode cX8_hold 71 = .ok (.iload 8, 2) := by decide +kernel
theorem dX8_hold_73 : decode cX8_hold 73 = .ok (.iload 5, 2) := by decide +kernel
theorem dX8_hold_75 : decode cX8_hold 75 = .ok (.if_icmp .ge 11, 3) := by decide +kernel
theorem dX8_hold_78 : decode cX8_hold 78 = .ok (.iload 6, 2) := by decide +kernel
theorem dX8_hold_80 : decode cX8_hold 80 = .ok (.istore 4, 2) := by decide +kernel
theorem dX8_hold_82 : decode cX8_hold 82 = .ok (.iload 8, 2) := by decide +kernel
theorem dX8_hold_84 : decode cX8_hold 84 = .ok (.istore 5, 2) := by decide +kernel
theorem dX8_hold_86 : decode cX8_hold 86 = .ok (.iinc 6 1, 3) := by decide +kernel
theorem dX8_hold_89 : decode cX8_hold 89 = .ok (.goto (-53), 3) := by decide +kernel
theorem dX8_hold_92 : decode cX8_hold 92 = .ok (.iload 4, 2) := by decide +kernel
theorem dX8_hold_94 : decode cX8_hold 94 = .ok (.bipush (-9), 2) := by decide +kernel
theorem dX8_hold_96 : decode cX8_hold 96 = .ok (.if_icmp .eq 9, 3) := by decide +kernel
theorem dX8_hold_99 : decode cX8_hold 99 = .ok (.aload_n 0, 1) := by decide +kernel
theorem dX8_hold_100 : decode cX8_hold 100 = .ok (.iload 5, 2) := by decide +kernel
theorem dX8_hold_102 : decode cX8_hold 102 = .ok (.putfield 93, 3) := by decide +kernel
theorem dX8_hold_105 : decode cX8_hold 105 = .ok (.iload 4, 2) := by decide +kernel
theorem dX8_hold_107 : decode cX8_hold 107 = .ok (.ireturn, 1) := by decide +kernel
theorem dX8_drops_0 : decode cX8_drops 0 = .ok (.aload_n 0, 1) := by decide +kernel
theorem dX8_drops_1 : decode cX8_drops 1 = .ok (.iload_n 1, 1) := by decide +kernel
theorem dX8_drops_2 : decode cX8_drops 2 = .ok (.invokevirtual 174, 3) := by decide +kernel
theorem dX8_drops_5 : decode cX8_drops 5 = .ok (.istore_n 2, 1) := by decide +kernel
theorem dX8_drops_6 : decode cX8_drops 6 = .ok (.iload_n 2, 1) := by decide +kernel
theorem dX8_drops_7 : decode cX8_drops 7 = .ok (.ifCond .eq 5, 3) := by decide +kernel
theorem dX8_drops_10 : decode cX8_drops 10 = .ok (.iload_n 2, 1) := by decide +kernel
theorem dX8_drops_11 : decode cX8_drops 11 = .ok (.ireturn, 1) := by decide +kernel
theorem dX8_drops_12 : decode cX8_drops 12 = .ok (.aload_n 0, 1) := by decide +kernel
theorem dX8_drops_13 : decode cX8_drops 13 = .ok (.getfield 25, 3) := by decide +kernel
theorem dX8_drops_16 : decode cX8_drops 16 = .ok (.getfield 137, 3) := by decide +kernel
theorem dX8_drops_19 : decode cX8_drops 19 = .ok (.iload_n 1, 1) := by decide +kernel
theorem dX8_drops_20 : decode cX8_drops 20 = .ok (.aaload, 1) := by decide +kernel
theorem dX8_drops_21 : decode cX8_drops 21 = .ok (.astore_n 3, 1) := by decide +kernel
theorem dX8_drops_22 : decode cX8_drops 22 = .ok (.aload_n 3, 1) := by decide +kernel
end
section
theorem dX8_drops_23 : decode cX8_drops 23 = .ok (.getfield 156, 3) := by decide +kernel
theorem dX8_drops_26 : decode cX8_drops 26 = .ok (.istore 4, 2) := by decide +kernel
theorem dX8_drops_28 : decode cX8_drops 28 = .ok (.iconst 0, 1) := by decide +kernel
theorem dX8_drops_29 : decode cX8_drops 29 = .ok (.istore 5, 2) := by decide +kernel
theorem dX8_drops_31 : decode cX8_drops 31 = .ok (.iload 5, 2) := by decide +kernel
theorem dX8_drops_33 : decode cX8_drops 33 = .ok (.bipush 30, 2) := by decide +kernel
theorem dX8_drops_35 : decode cX8_drops 35 = .ok (.if_icmp .gt 30, 3) := by decide +kernel
theorem dX8_drops_38 : decode cX8_drops 38 = .ok (.iload 4, 2) := by decide +kernel
theorem dX8_drops_40 : decode cX8_drops 40 = .ok (.iconst 5, 1) := by decide +kernel
theorem dX8_drops_41 : decode cX8_drops 41 = .ok (.if_icmp .ge 6, 3) := by decide +kernel
theorem dX8_drops_44 : decode cX8_drops 44 = .ok (.iload 5, 2) := by decide +kernel
theorem dX8_drops_46 : decode cX8_drops 46 = .ok (.ireturn, 1) := by decide +kernel
theorem dX8_drops_47 : decode cX8_drops 47 = .ok (.aload_n 3, 1) := by decide +kernel
theorem dX8_drops_48 : decode cX8_drops 48 = .ok (.getfield 146, 3) := by decide +kernel
theorem dX8_drops_51 : decode cX8_drops 51 = .ok (.iload 4, 2) := by decide +kernel
theorem dX8_drops_53 : decode cX8_drops 53 = .ok (.iconst 0, 1) := by decide +kernel
theorem dX8_drops_54 : decode cX8_drops 54 = .ok (.invokestatic 215, 3) := by decide +kernel
theorem dX8_drops_57 : decode cX8_drops 57 = .ok (.istore 4, 2) := by decide +kernel
theorem dX8_drops_59 : decode cX8_drops 59 = .ok (.iinc 5 1, 3) := by decide +kernel
theorem dX8_drops_62 : decode cX8_drops 62 = .ok (.goto (-31), 3) := by decide +kernel
theorem dX8_drops_65 : decode cX8_drops 65 = .ok (.bipush (-9), 2) := by decide +kernel
theorem dX8_drops_67 : decode cX8_drops 67 = .ok (.ireturn, 1) := by decide +kernel
theorem dX8_back_0 : decode cX8_back 0 = .ok (.aload_n 0, 1) := by decide +kernel
theorem dX8_back_1 : decode cX8_back 1 = .ok (.iload_n 1, 1) := by decide +kernel
theorem dX8_back_2 : decode cX8_back 2 = .ok (.invokevirtual 174, 3) := by decide +kernel
theorem dX8_back_5 : decode cX8_back 5 = .ok (.istore_n 2, 1) := by decide +kernel
theorem dX8_back_6 : decode cX8_back 6 = .ok (.iload_n 2, 1) := by decide +kernel
theorem dX8_back_7 : decode cX8_back 7 = .ok (.ifCond .eq 5, 3) := by decide +kernel
theorem dX8_back_10 : decode cX8_back 10 = .ok (.iload_n 2, 1) := by decide +kernel
theorem dX8_back_11 : decode cX8_back 11 = .ok (.ireturn, 1) := by decide +kernel
theorem dX8_back_12 : decode cX8_back 12 = .ok (.aload_n 0, 1) := by decide +kernel
theorem dX8_back_13 : decode cX8_back 13 = .ok (.getfield 49, 3) := by decide +kernel
theorem dX8_back_16 : decode cX8_back 16 = .ok (.aload_n 0, 1) := by decide +kernel
theorem dX8_back_17 : decode cX8_back 17 = .ok (.getfield 25, 3) := by decide +kernel
theorem dX8_back_20 : decode cX8_back 20 = .ok (.getfield 137, 3) := by decide +kernel
theorem dX8_back_23 : decode cX8_back 23 = .ok (.iload_n 1, 1) := by decide +kernel
theorem dX8_back_24 : decode cX8_back 24 = .ok (.aaload, 1) := by decide +kernel
theorem dX8_back_25 : decode cX8_back 25 = .ok (.getfield 146, 3) := by decide +kernel
theorem dX8_back_28 : decode cX8_back 28 = .ok (.iconst 5, 1) := by decide +kernel
theorem dX8_back_29 : decode cX8_back 29 = .ok (.invokevirtual 219, 3) := by decide +kernel
theorem dX8_back_32 : decode cX8_back 32 = .ok (.aload_n 0, 1) := by decide +kernel
theorem dX8_back_33 : decode cX8_back 33 = .ok (.getfield 49, 3) := by decide +kernel
theorem dX8_back_36 : decode cX8_back 36 = .ok (.aload_n 0, 1) := by decide +kernel
theorem dX8_back_37 : decode cX8_back 37 = .ok (.getfield 25, 3) := by decide +kernel
theorem dX8_back_40 : decode cX8_back 40 = .ok (.getfield 137, 3) := by decide +kernel
theorem dX8_back_43 : decode cX8_back 43 = .ok (.iload_n 1, 1) := by decide +kernel
theorem dX8_back_44 : decode cX8_back 44 = .ok (.aaload, 1) := by decide +kernel
theorem dX8_back_45 : decode cX8_back 45 = .ok (.getfield 156, 3) := by decide +kernel
theorem dX8_back_48 : decode cX8_back 48 = .ok (.invokevirtual 223, 3) := by decide +kernel
theorem dX8_back_51 : decode cX8_back 51 = .ok (.ireturn, 1) := by decide +kernel
theorem dX8_error_0 : decode cX8_error 0 = .ok (.aload_n 0, 1) := by decide +kernel
theorem dX8_error_1 : decode cX8_error 1 = .ok (.iload_n 1, 1) := by decide +kernel
theorem dX8_error_2 : decode cX8_error 2 = .ok (.invokevirtual 187, 3) := by decide +kernel
theorem dX8_error_5 : decode cX8_error 5 = .ok (.istore_n 2, 1) := by decide +kernel
theorem dX8_error_6 : decode cX8_error 6 = .ok (.iload_n 2, 1) := by decide +kernel
theorem dX8_error_7 : decode cX8_error 7 = .ok (.ifCond .eq 5, 3) := by decide +kernel
theorem dX8_error_10 : decode cX8_error 10 = .ok (.iload_n 2, 1) := by decide +kernel
theorem dX8_error_11 : decode cX8_error 11 = .ok (.ireturn, 1) := by decide +kernel
theorem dX8_error_12 : decode cX8_error 12 = .ok (.aload_n 0, 1) := by decide +kernel
theorem dX8_error_13 : decode cX8_error 13 = .ok (.aload_n 0, 1) := by decide +kernel
theorem dX8_error_14 : decode cX8_error 14 = .ok (.getfield 11, 3) := by decide +kernel
theorem dX8_error_17 : decode cX8_error 17 = .ok (.iload_n 1, 1) := by decide +kernel
theorem dX8_error_18 : decode cX8_error 18 = .ok (.aaload, 1) := by decide +kernel
theorem dX8_error_19 : decode cX8_error 19 = .ok (.invokevirtual 190, 3) := by decide +kernel
theorem dX8_error_22 : decode cX8_error 22 = .ok (.aload_n 0, 1) := by decide +kernel
theorem dX8_error_23 : decode cX8_error 23 = .ok (.aload_n 0, 1) := by decide +kernel
theorem dX8_error_24 : decode cX8_error 24 = .ok (.getfield 35, 3) := by decide +kernel
theorem dX8_error_27 : decode cX8_error 27 = .ok (.invokevirtual 197, 3) := by decide +kernel
theorem dX8_error_30 : decode cX8_error 30 = .ok (.putfield 93, 3) := by decide +kernel
theorem dX8_error_33 : decode cX8_error 33 = .ok (.aload_n 0, 1) := by decide +kernel
theorem dX8_error_34 : decode cX8_error 34 = .ok (.getfield 35, 3) := by decide +kernel
theorem dX8_error_37 : decode cX8_error 37 = .ok (.invokevirtual 263, 3) := by decide +kernel
theorem dX8_error_40 : decode cX8_error 40 = .ok (.ireturn, 1) := by decide +kernel
theorem dX8_heard_0 : decode cX8_heard 0 = .ok (.iload_n 2, 1) := by decide +kernel
theorem dX8_heard_1 : decode cX8_heard 1 = .ok (.ifCond .lt 9, 3) := by decide +kernel
theorem dX8_heard_4 : decode cX8_heard 4 = .ok (.iload_n 2, 1) := by decide +kernel
theorem dX8_heard_5 : decode cX8_heard 5 = .ok (.bipush 6, 2) := by decide +kernel
theorem dX8_heard_7 : decode cX8_heard 7 = .ok (.if_icmp .lt 5, 3) := by decide +kernel
theorem dX8_heard_10 : decode cX8_heard 10 = .ok (.iconst (-1), 1) := by decide +kernel
theorem dX8_heard_11 : decode cX8_heard 11 = .ok (.ireturn, 1) := by decide +kernel
theorem dX8_heard_12 : decode cX8_heard 12 = .ok (.aload_n 0, 1) := by decide +kernel
theorem dX8_heard_13 : decode cX8_heard 13 = .ok (.iload_n 1, 1) := by decide +kernel
theorem dX8_heard_14 : decode cX8_heard 14 = .ok (.invokevirtual 187, 3) := by decide +kernel
theorem dX8_heard_17 : decode cX8_heard 17 = .ok (.istore_n 3, 1) := by decide +kernel
theorem dX8_heard_18 : decode cX8_heard 18 = .ok (.iload_n 3, 1) := by decide +kernel
theorem dX8_heard_19 : decode cX8_heard 19 = .ok (.ifCond .eq 5, 3) := by decide +kernel
theorem dX8_heard_22 : decode cX8_heard 22 = .ok (.iload_n 3, 1) := by decide +kernel
theorem dX8_heard_23 : decode cX8_heard 23 = .ok (.ireturn, 1) := by decide +kernel
theorem dX8_heard_24 : decode cX8_heard 24 = .ok (.aload_n 0, 1) := by decide +kernel
theorem dX8_heard_25 : decode cX8_heard 25 = .ok (.aload_n 0, 1) := by decide +kernel
theorem dX8_heard_26 : decode cX8_heard 26 = .ok (.getfield 11, 3) := by decide +kernel
theorem dX8_heard_29 : decode cX8_heard 29 = .ok (.iload_n 1, 1) := by decide +kernel
theorem dX8_heard_30 : decode cX8_heard 30 = .ok (.aaload, 1) := by decide +kernel
theorem dX8_heard_31 : decode cX8_heard 31 = .ok (.invokevirtual 190, 3) := by decide +kernel
theorem dX8_heard_34 : decode cX8_heard 34 = .ok (.iload_n 2, 1) := by decide +kernel
theorem dX8_heard_35 : decode cX8_heard 35 = .ok (.aload_n 0, 1) := by decide +kernel
theorem dX8_heard_36 : decode cX8_heard 36 = .ok (.getfield 35, 3) := by decide +kernel
theorem dX8_heard_39 : decode cX8_heard 39 = .ok (.getfield 266, 3) := by decide +kernel
theorem dX8_heard_42 : decode cX8_heard 42 = .ok (.if_icmp .lt 6, 3) := by decide +kernel
theorem dX8_heard_45 : decode cX8_heard 45 = .ok (.bipush (-9), 2) := by decide +kernel
theorem dX8_heard_47 : decode cX8_heard 47 = .ok (.ireturn, 1) := by decide +kernel
theorem dX8_heard_48 : decode cX8_heard 48 = .ok (.aload_n 0, 1) := by decide +kernel
theorem dX8_heard_49 : decode cX8_heard 49 = .ok (.aload_n 0, 1) := by decide +kernel
theorem dX8_heard_50 : decode cX8_heard 50 = .ok (.getfield 35, 3) := by decide +kernel
theorem dX8_heard_53 : decode cX8_heard 53 = .ok (.getfield 267, 3) := by decide +kernel
theorem dX8_heard_56 : decode cX8_heard 56 = .ok (.iload_n 2, 1) := by decide +kernel
theorem dX8_heard_57 : decode cX8_heard 57 = .ok (.iaload, 1) := by decide +kernel
theorem dX8_heard_58 : decode cX8_heard 58 = .ok (.putfield 93, 3) := by decide +kernel
theorem dX8_heard_61 : decode cX8_heard 61 = .ok (.aload_n 0, 1) := by decide +kernel
theorem dX8_heard_62 : decode cX8_heard 62 = .ok (.getfield 35, 3) := by decide +kernel
theorem dX8_heard_65 : decode cX8_heard 65 = .ok (.getfield 270, 3) := by decide +kernel
theorem dX8_heard_68 : decode cX8_heard 68 = .ok (.iload_n 2, 1) := by decide +kernel
theorem dX8_heard_69 : decode cX8_heard 69 = .ok (.iaload, 1) := by decide +kernel
theorem dX8_heard_70 : decode cX8_heard 70 = .ok (.ireturn, 1) := by decide +kernel
theorem dX8_even_0 : decode cX8_even 0 = .ok (.iload_n 1, 1) := by decide +kernel
theorem dX8_even_1 : decode cX8_even 1 = .ok (.invokestatic 78, 3) := by decide +kernel
theorem dX8_even_4 : decode cX8_even 4 = .ok (.ifCond .ne 5, 3) := by decide +kernel
theorem dX8_even_7 : decode cX8_even 7 = .ok (.iconst (-1), 1) := by decide +kernel
theorem dX8_even_8 : decode cX8_even 8 = .ok (.ireturn, 1) := by decide +kernel
theorem dX8_even_9 : decode cX8_even 9 = .ok (.aload_n 0, 1) := by decide +kernel
theorem dX8_even_10 : decode cX8_even 10 = .ok (.getfield 25, 3) := by decide +kernel
theorem dX8_even_13 : decode cX8_even 13 = .ok (.getfield 135, 3) := by decide +kernel
theorem dX8_even_16 : decode cX8_even 16 = .ok (.ifCond .ne 6, 3) := by decide +kernel
theorem dX8_even_19 : decode cX8_even 19 = .ok (.bipush (-4), 2) := by decide +kernel
theorem dX8_even_21 : decode cX8_even 21 = .ok (.ireturn, 1) := by decide +kernel
theorem dX8_even_22 : decode cX8_even 22 = .ok (.aload_n 0, 1) := by decide +kernel
theorem dX8_even_23 : decode cX8_even 23 = .ok (.getfield 42, 3) := by decide +kernel
theorem dX8_even_26 : decode cX8_even 26 = .ok (.invokevirtual 273, 3) := by decide +kernel
theorem dX8_even_29 : decode cX8_even 29 = .ok (.aload_n 0, 1) := by decide +kernel
theorem dX8_even_30 : decode cX8_even 30 = .ok (.getfield 35, 3) := by decide +kernel
theorem dX8_even_33 : decode cX8_even 33 = .ok (.invokevirtual 275, 3) := by decide +kernel
theorem dX8_even_36 : decode cX8_even 36 = .ok (.aload_n 0, 1) := by decide +kernel
theorem dX8_even_37 : decode cX8_even 37 = .ok (.getfield 42, 3) := by decide +kernel
theorem dX8_even_40 : decode cX8_even 40 = .ok (.aload_n 0, 1) := by decide +kernel
theorem dX8_even_41 : decode cX8_even 41 = .ok (.getfield 25, 3) := by decide +kernel
theorem dX8_even_44 : decode cX8_even 44 = .ok (.aload_n 0, 1) := by decide +kernel
theorem dX8_even_45 : decode cX8_even 45 = .ok (.getfield 35, 3) := by decide +kernel
theorem dX8_even_48 : decode cX8_even 48 = .ok (.iconst 0, 1) := by decide +kernel
theorem dX8_even_49 : decode cX8_even 49 = .ok (.invokevirtual 276, 3) := by decide +kernel
theorem dX8_even_52 : decode cX8_even 52 = .ok (.aload_n 0, 1) := by decide +kernel
theorem dX8_even_53 : decode cX8_even 53 = .ok (.getfield 42, 3) := by decide +kernel
theorem dX8_even_56 : decode cX8_even 56 = .ok (.getfield 280, 3) := by decide +kernel
theorem dX8_even_59 : decode cX8_even 59 = .ok (.bipush (-9), 2) := by decide +kernel
theorem dX8_even_61 : decode cX8_even 61 = .ok (.if_icmp .eq 23, 3) := by decide +kernel
theorem dX8_even_64 : decode cX8_even 64 = .ok (.aload_n 0, 1) := by decide +kernel
theorem dX8_even_65 : decode cX8_even 65 = .ok (.getfield 42, 3) := by decide +kernel
theorem dX8_even_68 : decode cX8_even 68 = .ok (.aload_n 0, 1) := by decide +kernel
theorem dX8_even_69 : decode cX8_even 69 = .ok (.getfield 25, 3) := by decide +kernel
theorem dX8_even_72 : decode cX8_even 72 = .ok (.getfield 135, 3) := by decide +kernel
theorem dX8_even_75 : decode cX8_even 75 = .ok (.aload_n 0, 1) := by decide +kernel
theorem dX8_even_76 : decode cX8_even 76 = .ok (.getfield 11, 3) := by decide +kernel
theorem dX8_even_79 : decode cX8_even 79 = .ok (.iload_n 1, 1) := by decide +kernel
theorem dX8_even_80 : decode cX8_even 80 = .ok (.aaload, 1) := by decide +kernel
theorem dX8_even_81 : decode cX8_even 81 = .ok (.invokevirtual 283, 3) := by decide +kernel
theorem dX8_even_84 : decode cX8_even 84 = .ok (.aload_n 0, 1) := by decide +kernel
theorem dX8_even_85 : decode cX8_even 85 = .ok (.getfield 42, 3) := by decide +kernel
theorem dX8_even_88 : decode cX8_even 88 = .ok (.getfield 280, 3) := by decide +kernel
theorem dX8_even_91 : decode cX8_even 91 = .ok (.ireturn, 1) := by decide +kernel
theorem dX8_change_0 : decode cX8_change 0 = .ok (.iload_n 1, 1) := by decide +kernel
theorem dX8_change_1 : decode cX8_change 1 = .ok (.invokestatic 78, 3) := by decide +kernel
theorem dX8_change_4 : decode cX8_change 4 = .ok (.ifCond .eq 10, 3) := by decide +kernel
theorem dX8_change_7 : decode cX8_change 7 = .ok (.iload_n 2, 1) := by decide +kernel
theorem dX8_change_8 : decode cX8_change 8 = .ok (.invokestatic 78, 3) := by decide +kernel
theorem dX8_change_11 : decode cX8_change 11 = .ok (.ifCond .ne 5, 3) := by decide +kernel
theorem dX8_change_14 : decode cX8_change 14 = .ok (.iconst (-1), 1) := by decide +kernel
theorem dX8_change_15 : decode cX8_change 15 = .ok (.ireturn, 1) := by decide +kernel
theorem dX8_change_16 : decode cX8_change 16 = .ok (.aload_n 0, 1) := by decide +kernel
theorem dX8_change_17 : decode cX8_change 17 = .ok (.getfield 25, 3) := by decide +kernel
theorem dX8_change_20 : decode cX8_change 20 = .ok (.getfield 135, 3) := by decide +kernel
theorem dX8_change_23 : decode cX8_change 23 = .ok (.ifCond .ne 6, 3) := by decide +kernel
theorem dX8_change_26 : decode cX8_change 26 = .ok (.bipush (-4), 2) := by decide +kernel
theorem dX8_change_28 : decode cX8_change 28 = .ok (.ireturn, 1) := by decide +kernel
theorem dX8_change_29 : decode cX8_change 29 = .ok (.aload_n 0, 1) := by decide +kernel
theorem dX8_change_30 : decode cX8_change 30 = .ok (.getfield 11, 3) := by decide +kernel
theorem dX8_change_33 : decode cX8_change 33 = .ok (.iload_n 1, 1) := by decide +kernel
theorem dX8_change_34 : decode cX8_change 34 = .ok (.aaload, 1) := by decide +kernel
theorem dX8_change_35 : decode cX8_change 35 = .ok (.astore_n 3, 1) := by decide +kernel
theorem dX8_change_36 : decode cX8_change 36 = .ok (.aload_n 3, 1) := by decide +kernel
theorem dX8_change_37 : decode cX8_change 37 = .ok (.getfield 97, 3) := by decide +kernel
theorem dX8_change_40 : decode cX8_change 40 = .ok (.ifCond .ne 9, 3) := by decide +kernel
theorem dX8_change_43 : decode cX8_change 43 = .ok (.aload_n 0, 1) := by decide +kernel
theorem dX8_change_44 : decode cX8_change 44 = .ok (.iconst 1, 1) := by decide +kernel
theorem dX8_change_45 : decode cX8_change 45 = .ok (.invokevirtual 101, 3) := by decide +kernel
theorem dX8_change_48 : decode cX8_change 48 = .ok (.ireturn, 1) := by decide +kernel
theorem dX8_change_49 : decode cX8_change 49 = .ok (.aload_n 3, 1) := by decide +kernel
theorem dX8_change_50 : decode cX8_change 50 = .ok (.getfield 105, 3) := by decide +kernel
theorem dX8_change_53 : decode cX8_change 53 = .ok (.aload_n 0, 1) := by decide +kernel
theorem dX8_change_54 : decode cX8_change 54 = .ok (.getfield 25, 3) := by decide +kernel
theorem dX8_change_57 : decode cX8_change 57 = .ok (.invokevirtual 287, 3) := by decide +kernel
theorem dX8_change_60 : decode cX8_change 60 = .ok (.if_icmp .eq 9, 3) := by decide +kernel
theorem dX8_change_63 : decode cX8_change 63 = .ok (.aload_n 0, 1) := by decide +kernel
theorem dX8_change_64 : decode cX8_change 64 = .ok (.iconst 5, 1) := by decide +kernel
theorem dX8_change_65 : decode cX8_change 65 = .ok (.invokevirtual 101, 3) := by decide +kernel
theorem dX8_change_68 : decode cX8_change 68 = .ok (.ireturn, 1) := by decide +kernel
theorem dX8_change_69 : decode cX8_change 69 = .ok (.aload_n 0, 1) := by decide +kernel
theorem dX8_change_70 : decode cX8_change 70 = .ok (.getfield 25, 3) := by decide +kernel
theorem dX8_change_73 : decode cX8_change 73 = .ok (.aload_n 3, 1) := by decide +kernel
theorem dX8_change_74 : decode cX8_change 74 = .ok (.invokevirtual 290, 3) := by decide +kernel
theorem dX8_change_77 : decode cX8_change 77 = .ok (.ifCond .ne 9, 3) := by decide +kernel
theorem dX8_change_80 : decode cX8_change 80 = .ok (.aload_n 0, 1) := by decide +kernel
theorem dX8_change_81 : decode cX8_change 81 = .ok (.iconst 3, 1) := by decide +kernel
theorem dX8_change_82 : decode cX8_change 82 = .ok (.invokevirtual 101, 3) := by decide +kernel
theorem dX8_change_85 : decode cX8_change 85 = .ok (.ireturn, 1) := by decide +kernel
theorem dX8_change_86 : decode cX8_change 86 = .ok (.aload_n 0, 1) := by decide +kernel
theorem dX8_change_87 : decode cX8_change 87 = .ok (.aload_n 3, 1) := by decide +kernel
theorem dX8_change_88 : decode cX8_change 88 = .ok (.aload_n 0, 1) := by decide +kernel
theorem dX8_change_89 : decode cX8_change 89 = .ok (.getfield 11, 3) := by decide +kernel
theorem dX8_change_92 : decode cX8_change 92 = .ok (.iload_n 2, 1) := by decide +kernel
theorem dX8_change_93 : decode cX8_change 93 = .ok (.aaload, 1) := by decide +kernel
theorem dX8_change_94 : decode cX8_change 94 = .ok (.invokevirtual 294, 3) := by decide +kernel
theorem dX8_change_97 : decode cX8_change 97 = .ok (.ireturn, 1) := by decide +kernel
theorem dX8_orders_0 : decode cX8_orders 0 = .ok (.aload_n 0, 1) := by decide +kernel
theorem dX8_orders_1 : decode cX8_orders 1 = .ok (.getfield 25, 3) := by decide +kernel
theorem dX8_orders_4 : decode cX8_orders 4 = .ok (.getfield 135, 3) := by decide +kernel
theorem dX8_orders_7 : decode cX8_orders 7 = .ok (.ifCond .ne 8, 3) := by decide +kernel
theorem dX8_orders_10 : decode cX8_orders 10 = .ok (.bipush (-4), 2) := by decide +kernel
theorem dX8_orders_12 : decode cX8_orders 12 = .ok (.goto 20, 3) := by decide +kernel
theorem dX8_orders_15 : decode cX8_orders 15 = .ok (.aload_n 0, 1) := by decide +kernel
theorem dX8_orders_16 : decode cX8_orders 16 = .ok (.getfield 25, 3) := by decide +kernel
theorem dX8_orders_19 : decode cX8_orders 19 = .ok (.aload_n 0, 1) := by decide +kernel
theorem dX8_orders_20 : decode cX8_orders 20 = .ok (.getfield 25, 3) := by decide +kernel
theorem dX8_orders_23 : decode cX8_orders 23 = .ok (.invokevirtual 298, 3) := by decide +kernel
theorem dX8_orders_26 : decode cX8_orders 26 = .ok (.bipush (-9), 2) := by decide +kernel
theorem dX8_orders_28 : decode cX8_orders 28 = .ok (.iconst 0, 1) := by decide +kernel
theorem dX8_orders_29 : decode cX8_orders 29 = .ok (.invokevirtual 301, 3) := by decide +kernel
theorem dX8_orders_32 : decode cX8_orders 32 = .ok (.ireturn, 1) := by decide +kernel
theorem dX8_late_0 : decode cX8_late 0 = .ok (.aload_n 0, 1) := by decide +kernel
theorem dX8_late_1 : decode cX8_late 1 = .ok (.iload_n 1, 1) := by decide +kernel
theorem dX8_late_2 : decode cX8_late 2 = .ok (.invokevirtual 187, 3) := by decide +kernel
theorem dX8_late_5 : decode cX8_late 5 = .ok (.istore_n 2, 1) := by decide +kernel
theorem dX8_late_6 : decode cX8_late 6 = .ok (.iload_n 2, 1) := by decide +kernel
theorem dX8_late_7 : decode cX8_late 7 = .ok (.ifCond .eq 5, 3) := by decide +kernel
theorem dX8_late_10 : decode cX8_late 10 = .ok (.iload_n 2, 1) := by decide +kernel
theorem dX8_late_11 : decode cX8_late 11 = .ok (.ireturn, 1) := by decide +kernel
theorem dX8_late_12 : decode cX8_late 12 = .ok (.aload_n 0, 1) := by decide +kernel
theorem dX8_late_13 : decode cX8_late 13 = .ok (.aload_n 0, 1) := by decide +kernel
theorem dX8_late_14 : decode cX8_late 14 = .ok (.getfield 11, 3) := by decide +kernel
theorem dX8_late_17 : decode cX8_late 17 = .ok (.iload_n 1, 1) := by decide +kernel
theorem dX8_late_18 : decode cX8_late 18 = .ok (.aaload, 1) := by decide +kernel
theorem dX8_late_19 : decode cX8_late 19 = .ok (.invokevirtual 190, 3) := by decide +kernel
theorem dX8_late_22 : decode cX8_late 22 = .ok (.bipush (-9), 2) := by decide +kernel
theorem dX8_late_24 : decode cX8_late 24 = .ok (.istore_n 3, 1) := by decide +kernel
theorem dX8_late_25 : decode cX8_late 25 = .ok (.iconst (-1), 1) := by decide +kernel
theorem dX8_late_26 : decode cX8_late 26 = .ok (.istore 4, 2) := by decide +kernel
theorem dX8_late_28 : decode cX8_late 28 = .ok (.iconst 1, 1) := by decide +kernel
theorem dX8_late_29 : decode cX8_late 29 = .ok (.istore 5, 2) := by decide +kernel
theorem dX8_late_31 : decode cX8_late 31 = .ok (.iload 5, 2) := by decide +kernel
theorem dX8_late_33 : decode cX8_late 33 = .ok (.aload_n 0, 1) := by decide +kernel
theorem dX8_late_34 : decode cX8_late 34 = .ok (.getfield 35, 3) := by decide +kernel
theorem dX8_late_37 : decode cX8_late 37 = .ok (.getfield 266, 3) := by decide +kernel
theorem dX8_late_40 : decode cX8_late 40 = .ok (.if_icmp .ge 56, 3) := by decide +kernel
theorem dX8_late_43 : decode cX8_late 43 = .ok (.aload_n 0, 1) := by decide +kernel
theorem dX8_late_44 : decode cX8_late 44 = .ok (.getfield 35, 3) := by decide +kernel
theorem dX8_late_47 : decode cX8_late 47 = .ok (.getfield 267, 3) := by decide +kernel
theorem dX8_late_50 : decode cX8_late 50 = .ok (.iload 5, 2) := by decide +kernel
theorem dX8_late_52 : decode cX8_late 52 = .ok (.iaload, 1) := by decide +kernel
theorem dX8_late_53 : decode cX8_late 53 = .ok (.aload_n 0, 1) := by decide +kernel
theorem dX8_late_54 : decode cX8_late 54 = .ok (.getfield 35, 3) := by decide +kernel
theorem dX8_late_57 : decode cX8_late 57 = .ok (.getfield 267, 3) := by decide +kernel
theorem dX8_late_60 : decode cX8_late 60 = .ok (.iload 5, 2) := by decide +kernel
theorem dX8_late_62 : decode cX8_late 62 = .ok (.iconst 1, 1) := by decide +kernel
theorem dX8_late_63 : decode cX8_late 63 = .ok (.isub, 1) := by decide +kernel
theorem dX8_late_64 : decode cX8_late 64 = .ok (.iaload, 1) := by decide +kernel
theorem dX8_late_65 : decode cX8_late 65 = .ok (.isub, 1) := by decide +kernel
theorem dX8_late_66 : decode cX8_late 66 = .ok (.istore 6, 2) := by decide +kernel
theorem dX8_late_68 : decode cX8_late 68 = .ok (.iload 6, 2) := by decide +kernel
theorem dX8_late_70 : decode cX8_late 70 = .ok (.iload 4, 2) := by decide +kernel
theorem dX8_late_72 : decode cX8_late 72 = .ok (.if_icmp .le 18, 3) := by decide +kernel
theorem dX8_late_75 : decode cX8_late 75 = .ok (.iload 6, 2) := by decide +kernel
theorem dX8_late_77 : decode cX8_late 77 = .ok (.istore 4, 2) := by decide +kernel
theorem dX8_late_79 : decode cX8_late 79 = .ok (.aload_n 0, 1) := by decide +kernel
theorem dX8_late_80 : decode cX8_late 80 = .ok (.getfield 35, 3) := by decide +kernel
theorem dX8_late_83 : decode cX8_late 83 = .ok (.getfield 270, 3) := by decide +kernel
theorem dX8_late_86 : decode cX8_late 86 = .ok (.iload 5, 2) := by decide +kernel
theorem dX8_late_88 : decode cX8_late 88 = .ok (.iaload, 1) := by decide +kernel
theorem dX8_late_89 : decode cX8_late 89 = .ok (.istore_n 3, 1) := by decide +kernel
theorem dX8_late_90 : decode cX8_late 90 = .ok (.iinc 5 1, 3) := by decide +kernel
theorem dX8_late_93 : decode cX8_late 93 = .ok (.goto (-62), 3) := by decide +kernel
theorem dX8_late_96 : decode cX8_late 96 = .ok (.iload_n 3, 1) := by decide +kernel
theorem dX8_late_97 : decode cX8_late 97 = .ok (.bipush (-9), 2) := by decide +kernel
theorem dX8_late_99 : decode cX8_late 99 = .ok (.if_icmp .eq 9, 3) := by decide +kernel
theorem dX8_late_102 : decode cX8_late 102 = .ok (.aload_n 0, 1) := by decide +kernel
theorem dX8_late_103 : decode cX8_late 103 = .ok (.iload 4, 2) := by decide +kernel
theorem dX8_late_105 : decode cX8_late 105 = .ok (.putfield 93, 3) := by decide +kernel
theorem dX8_late_108 : decode cX8_late 108 = .ok (.iload_n 3, 1) := by decide +kernel
theorem dX8_late_109 : decode cX8_late 109 = .ok (.ireturn, 1) := by decide +kernel
theorem dX8_game_0 : decode cX8_game 0 = .ok (.iload_n 2, 1) := by decide +kernel
theorem dX8_game_1 : decode cX8_game 1 = .ok (.ifCond .lt 8, 3) := by decide +kernel
theorem dX8_game_4 : decode cX8_game 4 = .ok (.iload_n 2, 1) := by decide +kernel
theorem dX8_game_5 : decode cX8_game 5 = .ok (.iconst 3, 1) := by decide +kernel
theorem dX8_game_6 : decode cX8_game 6 = .ok (.if_icmp .le 5, 3) := by decide +kernel
theorem dX8_game_9 : decode cX8_game 9 = .ok (.iconst (-1), 1) := by decide +kernel
theorem dX8_game_10 : decode cX8_game 10 = .ok (.ireturn, 1) := by decide +kernel
theorem dX8_game_11 : decode cX8_game 11 = .ok (.aload_n 0, 1) := by decide +kernel
theorem dX8_game_12 : decode cX8_game 12 = .ok (.iload_n 1, 1) := by decide +kernel
theorem dX8_game_13 : decode cX8_game 13 = .ok (.invokevirtual 174, 3) := by decide +kernel
theorem dX8_game_16 : decode cX8_game 16 = .ok (.istore_n 3, 1) := by decide +kernel
theorem dX8_game_17 : decode cX8_game 17 = .ok (.iload_n 3, 1) := by decide +kernel
theorem dX8_game_18 : decode cX8_game 18 = .ok (.ifCond .eq 5, 3) := by decide +kernel
theorem dX8_game_21 : decode cX8_game 21 = .ok (.iload_n 3, 1) := by decide +kernel
theorem dX8_game_22 : decode cX8_game 22 = .ok (.ireturn, 1) := by decide +kernel
theorem dX8_game_23 : decode cX8_game 23 = .ok (.aload_n 0, 1) := by decide +kernel
theorem dX8_game_24 : decode cX8_game 24 = .ok (.getfield 63, 3) := by decide +kernel
theorem dX8_game_27 : decode cX8_game 27 = .ok (.aload_n 0, 1) := by decide +kernel
theorem dX8_game_28 : decode cX8_game 28 = .ok (.getfield 25, 3) := by decide +kernel
theorem dX8_game_31 : decode cX8_game 31 = .ok (.getfield 137, 3) := by decide +kernel
theorem dX8_game_34 : decode cX8_game 34 = .ok (.iload_n 1, 1) := by decide +kernel
theorem dX8_game_35 : decode cX8_game 35 = .ok (.aaload, 1) := by decide +kernel
theorem dX8_game_36 : decode cX8_game 36 = .ok (.getfield 146, 3) := by decide +kernel
theorem dX8_game_39 : decode cX8_game 39 = .ok (.iload_n 2, 1) := by decide +kernel
theorem dX8_game_40 : decode cX8_game 40 = .ok (.invokevirtual 304, 3) := by decide +kernel
theorem dX8_game_43 : decode cX8_game 43 = .ok (.aload_n 0, 1) := by decide +kernel
theorem dX8_game_44 : decode cX8_game 44 = .ok (.getfield 63, 3) := by decide +kernel
theorem dX8_game_47 : decode cX8_game 47 = .ok (.getfield 307, 3) := by decide +kernel
theorem dX8_game_50 : decode cX8_game 50 = .ok (.aload_n 0, 1) := by decide +kernel
theorem dX8_game_51 : decode cX8_game 51 = .ok (.getfield 25, 3) := by decide +kernel
theorem dX8_game_54 : decode cX8_game 54 = .ok (.getfield 137, 3) := by decide +kernel
theorem dX8_game_57 : decode cX8_game 57 = .ok (.iload_n 1, 1) := by decide +kernel
theorem dX8_game_58 : decode cX8_game 58 = .ok (.aaload, 1) := by decide +kernel
theorem dX8_game_59 : decode cX8_game 59 = .ok (.getfield 156, 3) := by decide +kernel
theorem dX8_game_62 : decode cX8_game 62 = .ok (.baload, 1) := by decide +kernel
theorem dX8_game_63 : decode cX8_game 63 = .ok (.ifCond .eq 7, 3) := by decide +kernel
theorem dX8_game_66 : decode cX8_game 66 = .ok (.iconst 1, 1) := by decide +kernel
theorem dX8_game_67 : decode cX8_game 67 = .ok (.goto 4, 3) := by decide +kernel
theorem dX8_game_70 : decode cX8_game 70 = .ok (.iconst 0, 1) := by decide +kernel
theorem dX8_game_71 : decode cX8_game 71 = .ok (.ireturn, 1) := by decide +kernel
theorem dX8_first_0 : decode cX8_first 0 = .ok (.iload_n 2, 1) := by decide +kernel
theorem dX8_first_1 : decode cX8_first 1 = .ok (.iconst 1, 1) := by decide +kernel
theorem dX8_first_2 : decode cX8_first 2 = .ok (.if_icmp .lt 8, 3) := by decide +kernel
theorem dX8_first_5 : decode cX8_first 5 = .ok (.iload_n 2, 1) := by decide +kernel
theorem dX8_first_6 : decode cX8_first 6 = .ok (.iconst 3, 1) := by decide +kernel
theorem dX8_first_7 : decode cX8_first 7 = .ok (.if_icmp .le 5, 3) := by decide +kernel
theorem dX8_first_10 : decode cX8_first 10 = .ok (.iconst (-1), 1) := by decide +kernel
theorem dX8_first_11 : decode cX8_first 11 = .ok (.ireturn, 1) := by decide +kernel
theorem dX8_first_12 : decode cX8_first 12 = .ok (.aload_n 0, 1) := by decide +kernel
theorem dX8_first_13 : decode cX8_first 13 = .ok (.iload_n 1, 1) := by decide +kernel
theorem dX8_first_14 : decode cX8_first 14 = .ok (.invokevirtual 174, 3) := by decide +kernel
theorem dX8_first_17 : decode cX8_first 17 = .ok (.istore_n 3, 1) := by decide +kernel
theorem dX8_first_18 : decode cX8_first 18 = .ok (.iload_n 3, 1) := by decide +kernel
theorem dX8_first_19 : decode cX8_first 19 = .ok (.ifCond .eq 5, 3) := by decide +kernel
theorem dX8_first_22 : decode cX8_first 22 = .ok (.iload_n 3, 1) := by decide +kernel
theorem dX8_first_23 : decode cX8_first 23 = .ok (.ireturn, 1) := by decide +kernel
theorem dX8_first_24 : decode cX8_first 24 = .ok (.aload_n 0, 1) := by decide +kernel
theorem dX8_first_25 : decode cX8_first 25 = .ok (.getfield 63, 3) := by decide +kernel
theorem dX8_first_28 : decode cX8_first 28 = .ok (.aload_n 0, 1) := by decide +kernel
theorem dX8_first_29 : decode cX8_first 29 = .ok (.getfield 25, 3) := by decide +kernel
theorem dX8_first_32 : decode cX8_first 32 = .ok (.getfield 137, 3) := by decide +kernel
theorem dX8_first_35 : decode cX8_first 35 = .ok (.iload_n 1, 1) := by decide +kernel
theorem dX8_first_36 : decode cX8_first 36 = .ok (.aaload, 1) := by decide +kernel
theorem dX8_first_37 : decode cX8_first 37 = .ok (.getfield 146, 3) := by decide +kernel
theorem dX8_first_40 : decode cX8_first 40 = .ok (.iload_n 2, 1) := by decide +kernel
theorem dX8_first_41 : decode cX8_first 41 = .ok (.invokevirtual 304, 3) := by decide +kernel
theorem dX8_first_44 : decode cX8_first 44 = .ok (.aload_n 0, 1) := by decide +kernel
theorem dX8_first_45 : decode cX8_first 45 = .ok (.getfield 63, 3) := by decide +kernel
theorem dX8_first_48 : decode cX8_first 48 = .ok (.aload_n 0, 1) := by decide +kernel
theorem dX8_first_49 : decode cX8_first 49 = .ok (.getfield 25, 3) := by decide +kernel
theorem dX8_first_52 : decode cX8_first 52 = .ok (.getfield 137, 3) := by decide +kernel
theorem dX8_first_55 : decode cX8_first 55 = .ok (.iload_n 1, 1) := by decide +kernel
theorem dX8_first_56 : decode cX8_first 56 = .ok (.aaload, 1) := by decide +kernel
theorem dX8_first_57 : decode cX8_first 57 = .ok (.getfield 146, 3) := by decide +kernel
theorem dX8_first_60 : decode cX8_first 60 = .ok (.aload_n 0, 1) := by decide +kernel
theorem dX8_first_61 : decode cX8_first 61 = .ok (.getfield 25, 3) := by decide +kernel
theorem dX8_first_64 : decode cX8_first 64 = .ok (.getfield 137, 3) := by decide +kernel
theorem dX8_first_67 : decode cX8_first 67 = .ok (.iload_n 1, 1) := by decide +kernel
theorem dX8_first_68 : decode cX8_first 68 = .ok (.aaload, 1) := by decide +kernel
theorem dX8_first_69 : decode cX8_first 69 = .ok (.getfield 156, 3) := by decide +kernel
theorem dX8_first_72 : decode cX8_first 72 = .ok (.invokevirtual 311, 3) := by decide +kernel
theorem dX8_first_75 : decode cX8_first 75 = .ok (.ireturn, 1) := by decide +kernel
theorem dX8_kinds_0 : decode cX8_kinds 0 = .ok (.aload_n 0, 1) := by decide +kernel
theorem dX8_kinds_1 : decode cX8_kinds 1 = .ok (.iload_n 1, 1) := by decide +kernel
theorem dX8_kinds_2 : decode cX8_kinds 2 = .ok (.iload_n 2, 1) := by decide +kernel
theorem dX8_kinds_3 : decode cX8_kinds 3 = .ok (.invokevirtual 314, 3) := by decide +kernel
theorem dX8_kinds_6 : decode cX8_kinds 6 = .ok (.istore_n 3, 1) := by decide +kernel
theorem dX8_kinds_7 : decode cX8_kinds 7 = .ok (.iload_n 3, 1) := by decide +kernel
theorem dX8_kinds_8 : decode cX8_kinds 8 = .ok (.ifCond .eq 5, 3) := by decide +kernel
theorem dX8_kinds_11 : decode cX8_kinds 11 = .ok (.iload_n 3, 1) := by decide +kernel
theorem dX8_kinds_12 : decode cX8_kinds 12 = .ok (.ireturn, 1) := by decide +kernel
theorem dX8_kinds_13 : decode cX8_kinds 13 = .ok (.aload_n 0, 1) := by decide +kernel
theorem dX8_kinds_14 : decode cX8_kinds 14 = .ok (.getfield 25, 3) := by decide +kernel
theorem dX8_kinds_17 : decode cX8_kinds 17 = .ok (.getfield 137, 3) := by decide +kernel
theorem dX8_kinds_20 : decode cX8_kinds 20 = .ok (.iload_n 1, 1) := by decide +kernel
theorem dX8_kinds_21 : decode cX8_kinds 21 = .ok (.aaload, 1) := by decide +kernel
theorem dX8_kinds_22 : decode cX8_kinds 22 = .ok (.astore 4, 2) := by decide +kernel
theorem dX8_kinds_24 : decode cX8_kinds 24 = .ok (.iconst 0, 1) := by decide +kernel
theorem dX8_kinds_25 : decode cX8_kinds 25 = .ok (.istore 5, 2) := by decide +kernel
theorem dX8_kinds_27 : decode cX8_kinds 27 = .ok (.iconst 0, 1) := by decide +kernel
theorem dX8_kinds_28 : decode cX8_kinds 28 = .ok (.istore 6, 2) := by decide +kernel
theorem dX8_kinds_30 : decode cX8_kinds 30 = .ok (.iload 6, 2) := by decide +kernel
theorem dX8_kinds_32 : decode cX8_kinds 32 = .ok (.bipush 6, 2) := by decide +kernel
theorem dX8_kinds_34 : decode cX8_kinds 34 = .ok (.if_icmp .ge 49, 3) := by decide +kernel
theorem dX8_kinds_37 : decode cX8_kinds 37 = .ok (.aload_n 0, 1) := by decide +kernel
theorem dX8_kinds_38 : decode cX8_kinds 38 = .ok (.getfield 11, 3) := by decide +kernel
theorem dX8_kinds_41 : decode cX8_kinds 41 = .ok (.iload_n 2, 1) := by decide +kernel
theorem dX8_kinds_42 : decode cX8_kinds 42 = .ok (.aaload, 1) := by decide +kernel
theorem dX8_kinds_43 : decode cX8_kinds 43 = .ok (.iload 6, 2) := by decide +kernel
theorem dX8_kinds_45 : decode cX8_kinds 45 = .ok (.aload 4, 2) := by decide +kernel
theorem dX8_kinds_47 : decode cX8_kinds 47 = .ok (.getfield 317, 3) := by decide +kernel
theorem dX8_kinds_50 : decode cX8_kinds 50 = .ok (.aload_n 0, 1) := by decide +kernel
theorem dX8_kinds_51 : decode cX8_kinds 51 = .ok (.getfield 25, 3) := by decide +kernel
theorem dX8_kinds_54 : decode cX8_kinds 54 = .ok (.getfield 168, 3) := by decide +kernel
theorem dX8_kinds_57 : decode cX8_kinds 57 = .ok (.aload 4, 2) := by decide +kernel
theorem dX8_kinds_59 : decode cX8_kinds 59 = .ok (.getfield 156, 3) := by decide +kernel
theorem dX8_kinds_62 : decode cX8_kinds 62 = .ok (.invokestatic 320, 3) := by decide +kernel
theorem dX8_kinds_65 : decode cX8_kinds 65 = .ok (.ifCond .eq 12, 3) := by decide +kernel
theorem dX8_kinds_68 : decode cX8_kinds 68 = .ok (.iload 5, 2) := by decide +kernel
theorem dX8_kinds_70 : decode cX8_kinds 70 = .ok (.iconst 1, 1) := by decide +kernel
theorem dX8_kinds_71 : decode cX8_kinds 71 = .ok (.iload 6, 2) := by decide +kernel
theorem dX8_kinds_73 : decode cX8_kinds 73 = .ok (.ishl, 1) := by decide +kernel
theorem dX8_kinds_74 : decode cX8_kinds 74 = .ok (.ior, 1) := by decide +kernel
theorem dX8_kinds_75 : decode cX8_kinds 75 = .ok (.istore 5, 2) := by decide +kernel
theorem dX8_kinds_77 : decode cX8_kinds 77 = .ok (.iinc 6 1, 3) := by decide +kernel
theorem dX8_kinds_80 : decode cX8_kinds 80 = .ok (.goto (-50), 3) := by decide +kernel
theorem dX8_kinds_83 : decode cX8_kinds 83 = .ok (.iload 5, 2) := by decide +kernel
theorem dX8_kinds_85 : decode cX8_kinds 85 = .ok (.ireturn, 1) := by decide +kernel
theorem dX8_damps_0 : decode cX8_damps 0 = .ok (.aload_n 0, 1) := by decide +kernel
theorem dX8_damps_1 : decode cX8_damps 1 = .ok (.iload_n 1, 1) := by decide +kernel
theorem dX8_damps_2 : decode cX8_damps 2 = .ok (.iload_n 2, 1) := by decide +kernel
theorem dX8_damps_3 : decode cX8_damps 3 = .ok (.invokevirtual 314, 3) := by decide +kernel
theorem dX8_damps_6 : decode cX8_damps 6 = .ok (.istore_n 3, 1) := by decide +kernel
theorem dX8_damps_7 : decode cX8_damps 7 = .ok (.iload_n 3, 1) := by decide +kernel
theorem dX8_damps_8 : decode cX8_damps 8 = .ok (.ifCond .eq 5, 3) := by decide +kernel
theorem dX8_damps_11 : decode cX8_damps 11 = .ok (.iload_n 3, 1) := by decide +kernel
theorem dX8_damps_12 : decode cX8_damps 12 = .ok (.ireturn, 1) := by decide +kernel
theorem dX8_damps_13 : decode cX8_damps 13 = .ok (.aload_n 0, 1) := by decide +kernel
theorem dX8_damps_14 : decode cX8_damps 14 = .ok (.getfield 25, 3) := by decide +kernel
theorem dX8_damps_17 : decode cX8_damps 17 = .ok (.getfield 137, 3) := by decide +kernel
theorem dX8_damps_20 : decode cX8_damps 20 = .ok (.iload_n 1, 1) := by decide +kernel
theorem dX8_damps_21 : decode cX8_damps 21 = .ok (.aaload, 1) := by decide +kernel
theorem dX8_damps_22 : decode cX8_damps 22 = .ok (.astore 4, 2) := by decide +kernel
theorem dX8_damps_24 : decode cX8_damps 24 = .ok (.iconst 0, 1) := by decide +kernel
theorem dX8_damps_25 : decode cX8_damps 25 = .ok (.istore 5, 2) := by decide +kernel
theorem dX8_damps_27 : decode cX8_damps 27 = .ok (.iconst 0, 1) := by decide +kernel
theorem dX8_damps_28 : decode cX8_damps 28 = .ok (.istore 6, 2) := by decide +kernel
theorem dX8_damps_30 : decode cX8_damps 30 = .ok (.iload 6, 2) := by decide +kernel
theorem dX8_damps_32 : decode cX8_damps 32 = .ok (.iconst 3, 1) := by decide +kernel
theorem dX8_damps_33 : decode cX8_damps 33 = .ok (.if_icmp .gt 47, 3) := by decide +kernel
theorem dX8_damps_36 : decode cX8_damps 36 = .ok (.aload_n 0, 1) := by decide +kernel
theorem dX8_damps_37 : decode cX8_damps 37 = .ok (.getfield 11, 3) := by decide +kernel
theorem dX8_damps_40 : decode cX8_damps 40 = .ok (.iload_n 2, 1) := by decide +kernel
theorem dX8_damps_41 : decode cX8_damps 41 = .ok (.aaload, 1) := by decide +kernel
theorem dX8_damps_42 : decode cX8_damps 42 = .ok (.aload 4, 2) := by decide +kernel
theorem dX8_damps_44 : decode cX8_damps 44 = .ok (.getfield 146, 3) := by decide +kernel
theorem dX8_damps_47 : decode cX8_damps 47 = .ok (.aload 4, 2) := by decide +kernel
theorem dX8_damps_49 : decode cX8_damps 49 = .ok (.getfield 317, 3) := by decide +kernel
theorem dX8_damps_52 : decode cX8_damps 52 = .ok (.iload 6, 2) := by decide +kernel
theorem dX8_damps_54 : decode cX8_damps 54 = .ok (.aload 4, 2) := by decide +kernel
theorem dX8_damps_56 : decode cX8_damps 56 = .ok (.getfield 156, 3) := by decide +kernel
theorem dX8_damps_59 : decode cX8_damps 59 = .ok (.invokestatic 320, 3) := by decide +kernel
theorem dX8_damps_62 : decode cX8_damps 62 = .ok (.ifCond .eq 12, 3) := by decide +kernel
theorem dX8_damps_65 : decode cX8_damps 65 = .ok (.iload 5, 2) := by decide +kernel
theorem dX8_damps_67 : decode cX8_damps 67 = .ok (.iconst 1, 1) := by decide +kernel
theorem dX8_damps_68 : decode cX8_damps 68 = .ok (.iload 6, 2) := by decide +kernel
theorem dX8_damps_70 : decode cX8_damps 70 = .ok (.ishl, 1) := by decide +kernel
theorem dX8_damps_71 : decode cX8_damps 71 = .ok (.ior, 1) := by decide +kernel
theorem dX8_damps_72 : decode cX8_damps 72 = .ok (.istore 5, 2) := by decide +kernel
theorem dX8_damps_74 : decode cX8_damps 74 = .ok (.iinc 6 1, 3) := by decide +kernel
theorem dX8_damps_77 : decode cX8_damps 77 = .ok (.goto (-47), 3) := by decide +kernel
theorem dX8_damps_80 : decode cX8_damps 80 = .ok (.iload 5, 2) := by decide +kernel
theorem dX8_damps_82 : decode cX8_damps 82 = .ok (.ireturn, 1) := by decide +kernel
theorem dX8_heights_0 : decode cX8_heights 0 = .ok (.aload_n 0, 1) := by decide +kernel
theorem dX8_heights_1 : decode cX8_heights 1 = .ok (.iload_n 1, 1) := by decide +kernel
theorem dX8_heights_2 : decode cX8_heights 2 = .ok (.iload_n 2, 1) := by decide +kernel
theorem dX8_heights_3 : decode cX8_heights 3 = .ok (.invokevirtual 314, 3) := by decide +kernel
theorem dX8_heights_6 : decode cX8_heights 6 = .ok (.istore_n 3, 1) := by decide +kernel
theorem dX8_heights_7 : decode cX8_heights 7 = .ok (.iload_n 3, 1) := by decide +kernel
theorem dX8_heights_8 : decode cX8_heights 8 = .ok (.ifCond .eq 5, 3) := by decide +kernel
theorem dX8_heights_11 : decode cX8_heights 11 = .ok (.iload_n 3, 1) := by decide +kernel
theorem dX8_heights_12 : decode cX8_heights 12 = .ok (.ireturn, 1) := by decide +kernel
theorem dX8_heights_13 : decode cX8_heights 13 = .ok (.aload_n 0, 1) := by decide +kernel
theorem dX8_heights_14 : decode cX8_heights 14 = .ok (.getfield 25, 3) := by decide +kernel
theorem dX8_heights_17 : decode cX8_heights 17 = .ok (.getfield 137, 3) := by decide +kernel
theorem dX8_heights_20 : decode cX8_heights 20 = .ok (.iload_n 1, 1) := by decide +kernel
theorem dX8_heights_21 : decode cX8_heights 21 = .ok (.aaload, 1) := by decide +kernel
theorem dX8_heights_22 : decode cX8_heights 22 = .ok (.astore 4, 2) := by decide +kernel
theorem dX8_heights_24 : decode cX8_heights 24 = .ok (.iconst 0, 1) := by decide +kernel
theorem dX8_heights_25 : decode cX8_heights 25 = .ok (.istore 5, 2) := by decide +kernel
theorem dX8_heights_27 : decode cX8_heights 27 = .ok (.iconst 0, 1) := by decide +kernel
theorem dX8_heights_28 : decode cX8_heights 28 = .ok (.istore 6, 2) := by decide +kernel
theorem dX8_heights_30 : decode cX8_heights 30 = .ok (.iload 6, 2) := by decide +kernel
theorem dX8_heights_32 : decode cX8_heights 32 = .ok (.bipush 21, 2) := by decide +kernel
theorem dX8_heights_34 : decode cX8_heights 34 = .ok (.if_icmp .ge 49, 3) := by decide +kernel
theorem dX8_heights_37 : decode cX8_heights 37 = .ok (.aload_n 0, 1) := by decide +kernel
theorem dX8_heights_38 : decode cX8_heights 38 = .ok (.getfield 11, 3) := by decide +kernel
theorem dX8_heights_41 : decode cX8_heights 41 = .ok (.iload_n 2, 1) := by decide +kernel
theorem dX8_heights_42 : decode cX8_heights 42 = .ok (.aaload, 1) := by decide +kernel
theorem dX8_heights_43 : decode cX8_heights 43 = .ok (.aload 4, 2) := by decide +kernel
theorem dX8_heights_45 : decode cX8_heights 45 = .ok (.getfield 146, 3) := by decide +kernel
theorem dX8_heights_48 : decode cX8_heights 48 = .ok (.aload 4, 2) := by decide +kernel
theorem dX8_heights_50 : decode cX8_heights 50 = .ok (.getfield 317, 3) := by decide +kernel
theorem dX8_heights_53 : decode cX8_heights 53 = .ok (.aload_n 0, 1) := by decide +kernel
theorem dX8_heights_54 : decode cX8_heights 54 = .ok (.getfield 25, 3) := by decide +kernel
theorem dX8_heights_57 : decode cX8_heights 57 = .ok (.getfield 168, 3) := by decide +kernel
theorem dX8_heights_60 : decode cX8_heights 60 = .ok (.iload 6, 2) := by decide +kernel
theorem dX8_heights_62 : decode cX8_heights 62 = .ok (.invokestatic 320, 3) := by decide +kernel
theorem dX8_heights_65 : decode cX8_heights 65 = .ok (.ifCond .eq 12, 3) := by decide +kernel
theorem dX8_heights_68 : decode cX8_heights 68 = .ok (.iload 5, 2) := by decide +kernel
theorem dX8_heights_70 : decode cX8_heights 70 = .ok (.iconst 1, 1) := by decide +kernel
theorem dX8_heights_71 : decode cX8_heights 71 = .ok (.iload 6, 2) := by decide +kernel
theorem dX8_heights_73 : decode cX8_heights 73 = .ok (.ishl, 1) := by decide +kernel
theorem dX8_heights_74 : decode cX8_heights 74 = .ok (.ior, 1) := by decide +kernel
theorem dX8_heights_75 : decode cX8_heights 75 = .ok (.istore 5, 2) := by decide +kernel
theorem dX8_heights_77 : decode cX8_heights 77 = .ok (.iinc 6 1, 3) := by decide +kernel
theorem dX8_heights_80 : decode cX8_heights 80 = .ok (.goto (-50), 3) := by decide +kernel
theorem dX8_heights_83 : decode cX8_heights 83 = .ok (.iload 5, 2) := by decide +kernel
theorem dX8_heights_85 : decode cX8_heights 85 = .ok (.ireturn, 1) := by decide +kernel
theorem dX8_broke_0 : decode cX8_broke 0 = .ok (.iload_n 2, 1) := by decide +kernel
theorem dX8_broke_1 : decode cX8_broke 1 = .ok (.invokestatic 78, 3) := by decide +kernel
theorem dX8_broke_4 : decode cX8_broke 4 = .ok (.ifCond .eq 11, 3) := by decide +kernel
theorem dX8_broke_7 : decode cX8_broke 7 = .ok (.aload_n 0, 1) := by decide +kernel
theorem dX8_broke_8 : decode cX8_broke 8 = .ok (.iload_n 1, 1) := by decide +kernel
theorem dX8_broke_9 : decode cX8_broke 9 = .ok (.invokevirtual 174, 3) := by decide +kernel
theorem dX8_broke_12 : decode cX8_broke 12 = .ok (.goto 4, 3) := by decide +kernel
theorem dX8_broke_15 : decode cX8_broke 15 = .ok (.iconst (-1), 1) := by decide +kernel
theorem dX8_broke_16 : decode cX8_broke 16 = .ok (.istore_n 3, 1) := by decide +kernel
theorem dX8_broke_17 : decode cX8_broke 17 = .ok (.iload_n 3, 1) := by decide +kernel
theorem dX8_broke_18 : decode cX8_broke 18 = .ok (.ifCond .eq 5, 3) := by decide +kernel
theorem dX8_broke_21 : decode cX8_broke 21 = .ok (.iload_n 3, 1) := by decide +kernel
theorem dX8_broke_22 : decode cX8_broke 22 = .ok (.ireturn, 1) := by decide +kernel
theorem dX8_broke_23 : decode cX8_broke 23 = .ok (.aload_n 0, 1) := by decide +kernel
theorem dX8_broke_24 : decode cX8_broke 24 = .ok (.getfield 11, 3) := by decide +kernel
theorem dX8_broke_27 : decode cX8_broke 27 = .ok (.iload_n 2, 1) := by decide +kernel
theorem dX8_broke_28 : decode cX8_broke 28 = .ok (.aaload, 1) := by decide +kernel
theorem dX8_broke_29 : decode cX8_broke 29 = .ok (.astore 4, 2) := by decide +kernel
theorem dX8_broke_31 : decode cX8_broke 31 = .ok (.aload 4, 2) := by decide +kernel
theorem dX8_broke_33 : decode cX8_broke 33 = .ok (.getfield 97, 3) := by decide +kernel
theorem dX8_broke_36 : decode cX8_broke 36 = .ok (.ifCond .ne 9, 3) := by decide +kernel
theorem dX8_broke_39 : decode cX8_broke 39 = .ok (.aload_n 0, 1) := by decide +kernel
theorem dX8_broke_40 : decode cX8_broke 40 = .ok (.iconst 1, 1) := by decide +kernel
theorem dX8_broke_41 : decode cX8_broke 41 = .ok (.invokevirtual 101, 3) := by decide +kernel
theorem dX8_broke_44 : decode cX8_broke 44 = .ok (.ireturn, 1) := by decide +kernel
theorem dX8_broke_45 : decode cX8_broke 45 = .ok (.aload 4, 2) := by decide +kernel
theorem dX8_broke_47 : decode cX8_broke 47 = .ok (.iconst 1, 1) := by decide +kernel
theorem dX8_broke_48 : decode cX8_broke 48 = .ok (.invokevirtual 324, 3) := by decide +kernel
theorem dX8_broke_51 : decode cX8_broke 51 = .ok (.ifCond .ne 9, 3) := by decide +kernel
theorem dX8_broke_54 : decode cX8_broke 54 = .ok (.aload_n 0, 1) := by decide +kernel
theorem dX8_broke_55 : decode cX8_broke 55 = .ok (.iconst 3, 1) := by decide +kernel
theorem dX8_broke_56 : decode cX8_broke 56 = .ok (.invokevirtual 101, 3) := by decide +kernel
theorem dX8_broke_59 : decode cX8_broke 59 = .ok (.ireturn, 1) := by decide +kernel
theorem dX8_broke_60 : decode cX8_broke 60 = .ok (.aload_n 0, 1) := by decide +kernel
theorem dX8_broke_61 : decode cX8_broke 61 = .ok (.getfield 25, 3) := by decide +kernel
theorem dX8_broke_64 : decode cX8_broke 64 = .ok (.getfield 137, 3) := by decide +kernel
theorem dX8_broke_67 : decode cX8_broke 67 = .ok (.iload_n 1, 1) := by decide +kernel
theorem dX8_broke_68 : decode cX8_broke 68 = .ok (.aaload, 1) := by decide +kernel
theorem dX8_broke_69 : decode cX8_broke 69 = .ok (.getfield 156, 3) := by decide +kernel
theorem dX8_broke_72 : decode cX8_broke 72 = .ok (.istore 5, 2) := by decide +kernel
theorem dX8_broke_74 : decode cX8_broke 74 = .ok (.iconst 0, 1) := by decide +kernel
theorem dX8_broke_75 : decode cX8_broke 75 = .ok (.istore 6, 2) := by decide +kernel
theorem dX8_broke_77 : decode cX8_broke 77 = .ok (.iload 6, 2) := by decide +kernel
theorem dX8_broke_79 : decode cX8_broke 79 = .ok (.aload 4, 2) := by decide +kernel
theorem dX8_broke_81 : decode cX8_broke 81 = .ok (.getfield 105, 3) := by decide +kernel
theorem dX8_broke_84 : decode cX8_broke 84 = .ok (.if_icmp .ge 53, 3) := by decide +kernel
theorem dX8_broke_87 : decode cX8_broke 87 = .ok (.aload_n 0, 1) := by decide +kernel
theorem dX8_broke_88 : decode cX8_broke 88 = .ok (.getfield 25, 3) := by decide +kernel
theorem dX8_broke_91 : decode cX8_broke 91 = .ok (.getfield 137, 3) := by decide +kernel
theorem dX8_broke_94 : decode cX8_broke 94 = .ok (.iload_n 1, 1) := by decide +kernel
theorem dX8_broke_95 : decode cX8_broke 95 = .ok (.aaload, 1) := by decide +kernel
theorem dX8_broke_96 : decode cX8_broke 96 = .ok (.getfield 146, 3) := by decide +kernel
theorem dX8_broke_99 : decode cX8_broke 99 = .ok (.iload 5, 2) := by decide +kernel
theorem dX8_broke_101 : decode cX8_broke 101 = .ok (.aload 4, 2) := by decide +kernel
theorem dX8_broke_103 : decode cX8_broke 103 = .ok (.getfield 90, 3) := by decide +kernel
theorem dX8_broke_106 : decode cX8_broke 106 = .ok (.iload 6, 2) := by decide +kernel
theorem dX8_broke_108 : decode cX8_broke 108 = .ok (.iaload, 1) := by decide +kernel
theorem dX8_broke_109 : decode cX8_broke 109 = .ok (.invokestatic 215, 3) := by decide +kernel
theorem dX8_broke_112 : decode cX8_broke 112 = .ok (.istore 5, 2) := by decide +kernel
theorem dX8_broke_114 : decode cX8_broke 114 = .ok (.iload 5, 2) := by decide +kernel
theorem dX8_broke_116 : decode cX8_broke 116 = .ok (.iconst (-1), 1) := by decide +kernel
theorem dX8_broke_117 : decode cX8_broke 117 = .ok (.if_icmp .ne 14, 3) := by decide +kernel
theorem dX8_broke_120 : decode cX8_broke 120 = .ok (.aload_n 0, 1) := by decide +kernel
theorem dX8_broke_121 : decode cX8_broke 121 = .ok (.iload 6, 2) := by decide +kernel
theorem dX8_broke_123 : decode cX8_broke 123 = .ok (.iconst 2, 1) := by decide +kernel
theorem dX8_broke_124 : decode cX8_broke 124 = .ok (.irem, 1) := by decide +kernel
theorem dX8_broke_125 : decode cX8_broke 125 = .ok (.putfield 93, 3) := by decide +kernel
theorem dX8_broke_128 : decode cX8_broke 128 = .ok (.iload 6, 2) := by decide +kernel
theorem dX8_broke_130 : decode cX8_broke 130 = .ok (.ireturn, 1) := by decide +kernel
theorem dX8_broke_131 : decode cX8_broke 131 = .ok (.iinc 6 1, 3) := by decide +kernel
theorem dX8_broke_134 : decode cX8_broke 134 = .ok (.goto (-57), 3) := by decide +kernel
theorem dX8_broke_137 : decode cX8_broke 137 = .ok (.bipush (-9), 2) := by decide +kernel
theorem dX8_broke_139 : decode cX8_broke 139 = .ok (.ireturn, 1) := by decide +kernel
theorem dX8_odds_0 : decode cX8_odds 0 = .ok (.aload_n 0, 1) := by decide +kernel
theorem dX8_odds_1 : decode cX8_odds 1 = .ok (.iload_n 1, 1) := by decide +kernel
theorem dX8_odds_2 : decode cX8_odds 2 = .ok (.iload_n 2, 1) := by decide +kernel
theorem dX8_odds_3 : decode cX8_odds 3 = .ok (.iload_n 3, 1) := by decide +kernel
theorem dX8_odds_4 : decode cX8_odds 4 = .ok (.iload 4, 2) := by decide +kernel
theorem dX8_odds_6 : decode cX8_odds 6 = .ok (.invokevirtual 327, 3) := by decide +kernel
theorem dX8_odds_9 : decode cX8_odds 9 = .ok (.istore 5, 2) := by decide +kernel
theorem dX8_odds_11 : decode cX8_odds 11 = .ok (.iload 5, 2) := by decide +kernel
theorem dX8_odds_13 : decode cX8_odds 13 = .ok (.ifCond .eq 6, 3) := by decide +kernel
theorem dX8_odds_16 : decode cX8_odds 16 = .ok (.iload 5, 2) := by decide +kernel
theorem dX8_odds_18 : decode cX8_odds 18 = .ok (.ireturn, 1) := by decide +kernel
theorem dX8_odds_19 : decode cX8_odds 19 = .ok (.aload_n 0, 1) := by decide +kernel
theorem dX8_odds_20 : decode cX8_odds 20 = .ok (.aload_n 0, 1) := by decide +kernel
theorem dX8_odds_21 : decode cX8_odds 21 = .ok (.getfield 25, 3) := by decide +kernel
theorem dX8_odds_24 : decode cX8_odds 24 = .ok (.getfield 137, 3) := by decide +kernel
theorem dX8_odds_27 : decode cX8_odds 27 = .ok (.iload_n 1, 1) := by decide +kernel
theorem dX8_odds_28 : decode cX8_odds 28 = .ok (.aaload, 1) := by decide +kernel
theorem dX8_odds_29 : decode cX8_odds 29 = .ok (.iload_n 2, 1) := by decide +kernel
theorem dX8_odds_30 : decode cX8_odds 30 = .ok (.iload_n 3, 1) := by decide +kernel
theorem dX8_odds_31 : decode cX8_odds 31 = .ok (.iload 4, 2) := by decide +kernel
theorem dX8_odds_33 : decode cX8_odds 33 = .ok (.invokevirtual 331, 3) := by decide +kernel
theorem dX8_odds_36 : decode cX8_odds 36 = .ok (.lstore 6, 2) := by decide +kernel
theorem dX8_odds_38 : decode cX8_odds 38 = .ok (.lconst 0, 1) := by decide +kernel
theorem dX8_odds_39 : decode cX8_odds 39 = .ok (.lstore 8, 2) := by decide +kernel
theorem dX8_odds_41 : decode cX8_odds 41 = .ok (.iconst 0, 1) := by decide +kernel
theorem dX8_odds_42 : decode cX8_odds 42 = .ok (.istore 10, 2) := by decide +kernel
theorem dX8_odds_44 : decode cX8_odds 44 = .ok (.iload 10, 2) := by decide +kernel
theorem dX8_odds_46 : decode cX8_odds 46 = .ok (.bipush 21, 2) := by decide +kernel
theorem dX8_odds_48 : decode cX8_odds 48 = .ok (.if_icmp .ge 24, 3) := by decide +kernel
theorem dX8_odds_51 : decode cX8_odds 51 = .ok (.lload 8, 2) := by decide +kernel
theorem dX8_odds_53 : decode cX8_odds 53 = .ok (.aload_n 0, 1) := by decide +kernel
theorem dX8_odds_54 : decode cX8_odds 54 = .ok (.getfield 56, 3) := by decide +kernel
theorem dX8_odds_57 : decode cX8_odds 57 = .ok (.getfield 240, 3) := by decide +kernel
theorem dX8_odds_60 : decode cX8_odds 60 = .ok (.iload 10, 2) := by decide +kernel
theorem dX8_odds_62 : decode cX8_odds 62 = .ok (.laload, 1) := by decide +kernel
theorem dX8_odds_63 : decode cX8_odds 63 = .ok (.ladd, 1) := by decide +kernel
theorem dX8_odds_64 : decode cX8_odds 64 = .ok (.lstore 8, 2) := by decide +kernel
theorem dX8_odds_66 : decode cX8_odds 66 = .ok (.iinc 10 1, 3) := by decide +kernel
theorem dX8_odds_69 : decode cX8_odds 69 = .ok (.goto (-25), 3) := by decide +kernel
theorem dX8_odds_72 : decode cX8_odds 72 = .ok (.aload_n 0, 1) := by decide +kernel
theorem dX8_odds_73 : decode cX8_odds 73 = .ok (.lload 8, 2) := by decide +kernel
theorem dX8_odds_75 : decode cX8_odds 75 = .ok (.lload 6, 2) := by decide +kernel
theorem dX8_odds_77 : decode cX8_odds 77 = .ok (.invokevirtual 244, 3) := by decide +kernel
theorem dX8_odds_80 : decode cX8_odds 80 = .ok (.ireturn, 1) := by decide +kernel
theorem dX8_mid_0 : decode cX8_mid 0 = .ok (.aload_n 0, 1) := by decide +kernel
theorem dX8_mid_1 : decode cX8_mid 1 = .ok (.iload_n 1, 1) := by decide +kernel
theorem dX8_mid_2 : decode cX8_mid 2 = .ok (.iload_n 2, 1) := by decide +kernel
theorem dX8_mid_3 : decode cX8_mid 3 = .ok (.iload_n 3, 1) := by decide +kernel
theorem dX8_mid_4 : decode cX8_mid 4 = .ok (.iload 4, 2) := by decide +kernel
theorem dX8_mid_6 : decode cX8_mid 6 = .ok (.invokevirtual 327, 3) := by decide +kernel
theorem dX8_mid_9 : decode cX8_mid 9 = .ok (.istore 5, 2) := by decide +kernel
theorem dX8_mid_11 : decode cX8_mid 11 = .ok (.iload 5, 2) := by decide +kernel
theorem dX8_mid_13 : decode cX8_mid 13 = .ok (.ifCond .eq 6, 3) := by decide +kernel
theorem dX8_mid_16 : decode cX8_mid 16 = .ok (.iload 5, 2) := by decide +kernel
theorem dX8_mid_18 : decode cX8_mid 18 = .ok (.ireturn, 1) := by decide +kernel
theorem dX8_mid_19 : decode cX8_mid 19 = .ok (.aload_n 0, 1) := by decide +kernel
theorem dX8_mid_20 : decode cX8_mid 20 = .ok (.aload_n 0, 1) := by decide +kernel
theorem dX8_mid_21 : decode cX8_mid 21 = .ok (.getfield 25, 3) := by decide +kernel
theorem dX8_mid_24 : decode cX8_mid 24 = .ok (.getfield 137, 3) := by decide +kernel
theorem dX8_mid_27 : decode cX8_mid 27 = .ok (.iload_n 1, 1) := by decide +kernel
theorem dX8_mid_28 : decode cX8_mid 28 = .ok (.aaload, 1) := by decide +kernel
theorem dX8_mid_29 : decode cX8_mid 29 = .ok (.iload_n 2, 1) := by decide +kernel
theorem dX8_mid_30 : decode cX8_mid 30 = .ok (.iload_n 3, 1) := by decide +kernel
theorem dX8_mid_31 : decode cX8_mid 31 = .ok (.iload 4, 2) := by decide +kernel
theorem dX8_mid_33 : decode cX8_mid 33 = .ok (.invokevirtual 331, 3) := by decide +kernel
theorem dX8_mid_36 : decode cX8_mid 36 = .ok (.lstore 6, 2) := by decide +kernel
theorem dX8_mid_38 : decode cX8_mid 38 = .ok (.lconst 0, 1) := by decide +kernel
theorem dX8_mid_39 : decode cX8_mid 39 = .ok (.lstore 8, 2) := by decide +kernel
theorem dX8_mid_41 : decode cX8_mid 41 = .ok (.iconst 0, 1) := by decide +kernel
theorem dX8_mid_42 : decode cX8_mid 42 = .ok (.istore 10, 2) := by decide +kernel
theorem dX8_mid_44 : decode cX8_mid 44 = .ok (.iload 10, 2) := by decide +kernel
theorem dX8_mid_46 : decode cX8_mid 46 = .ok (.bipush 21, 2) := by decide +kernel
theorem dX8_mid_48 : decode cX8_mid 48 = .ok (.if_icmp .ge 28, 3) := by decide +kernel
theorem dX8_mid_51 : decode cX8_mid 51 = .ok (.lload 8, 2) := by decide +kernel
theorem dX8_mid_53 : decode cX8_mid 53 = .ok (.aload_n 0, 1) := by decide +kernel
theorem dX8_mid_54 : decode cX8_mid 54 = .ok (.getfield 56, 3) := by decide +kernel
theorem dX8_mid_57 : decode cX8_mid 57 = .ok (.getfield 240, 3) := by decide +kernel
theorem dX8_mid_60 : decode cX8_mid 60 = .ok (.iload 10, 2) := by decide +kernel
theorem dX8_mid_62 : decode cX8_mid 62 = .ok (.laload, 1) := by decide +kernel
theorem dX8_mid_63 : decode cX8_mid 63 = .ok (.iload 10, 2) := by decide +kernel
theorem dX8_mid_65 : decode cX8_mid 65 = .ok (.i2l, 1) := by decide +kernel
theorem dX8_mid_66 : decode cX8_mid 66 = .ok (.lmul, 1) := by decide +kernel
theorem dX8_mid_67 : decode cX8_mid 67 = .ok (.ladd, 1) := by decide +kernel
theorem dX8_mid_68 : decode cX8_mid 68 = .ok (.lstore 8, 2) := by decide +kernel
theorem dX8_mid_70 : decode cX8_mid 70 = .ok (.iinc 10 1, 3) := by decide +kernel
theorem dX8_mid_73 : decode cX8_mid 73 = .ok (.goto (-29), 3) := by decide +kernel
theorem dX8_mid_76 : decode cX8_mid 76 = .ok (.aload_n 0, 1) := by decide +kernel
theorem dX8_mid_77 : decode cX8_mid 77 = .ok (.lload 8, 2) := by decide +kernel
theorem dX8_mid_79 : decode cX8_mid 79 = .ok (.lload 6, 2) := by decide +kernel
theorem dX8_mid_81 : decode cX8_mid 81 = .ok (.invokevirtual 244, 3) := by decide +kernel
theorem dX8_mid_84 : decode cX8_mid 84 = .ok (.ireturn, 1) := by decide +kernel
theorem dX8_lots_0 : decode cX8_lots 0 = .ok (.iload_n 1, 1) := by decide +kernel
theorem dX8_lots_1 : decode cX8_lots 1 = .ok (.iconst 1, 1) := by decide +kernel
theorem dX8_lots_2 : decode cX8_lots 2 = .ok (.if_icmp .lt 21, 3) := by decide +kernel
theorem dX8_lots_5 : decode cX8_lots 5 = .ok (.iload_n 1, 1) := by decide +kernel
theorem dX8_lots_6 : decode cX8_lots 6 = .ok (.bipush 20, 2) := by decide +kernel
theorem dX8_lots_8 : decode cX8_lots 8 = .ok (.if_icmp .gt 15, 3) := by decide +kernel
theorem dX8_lots_11 : decode cX8_lots 11 = .ok (.iload_n 2, 1) := by decide +kernel
theorem dX8_lots_12 : decode cX8_lots 12 = .ok (.iconst 1, 1) := by decide +kernel
theorem dX8_lots_13 : decode cX8_lots 13 = .ok (.if_icmp .lt 10, 3) := by decide +kernel
theorem dX8_lots_16 : decode cX8_lots 16 = .ok (.iload_n 2, 1) := by decide +kernel
theorem dX8_lots_17 : decode cX8_lots 17 = .ok (.ldc_w 335, 3) := by decide +kernel
theorem dX8_lots_20 : decode cX8_lots 20 = .ok (.if_icmp .le 5, 3) := by decide +kernel
theorem dX8_lots_23 : decode cX8_lots 23 = .ok (.iconst (-1), 1) := by decide +kernel
theorem dX8_lots_24 : decode cX8_lots 24 = .ok (.ireturn, 1) := by decide +kernel
theorem dX8_lots_25 : decode cX8_lots 25 = .ok (.aload_n 0, 1) := by decide +kernel
theorem dX8_lots_26 : decode cX8_lots 26 = .ok (.getfield 25, 3) := by decide +kernel
theorem dX8_lots_29 : decode cX8_lots 29 = .ok (.getfield 135, 3) := by decide +kernel
theorem dX8_lots_32 : decode cX8_lots 32 = .ok (.ifCond .ne 6, 3) := by decide +kernel
theorem dX8_lots_35 : decode cX8_lots 35 = .ok (.bipush (-4), 2) := by decide +kernel
theorem dX8_lots_37 : decode cX8_lots 37 = .ok (.ireturn, 1) := by decide +kernel
theorem dX8_lots_38 : decode cX8_lots 38 = .ok (.aload_n 0, 1) := by decide +kernel
theorem dX8_lots_39 : decode cX8_lots 39 = .ok (.getfield 25, 3) := by decide +kernel
theorem dX8_lots_42 : decode cX8_lots 42 = .ok (.invokevirtual 177, 3) := by decide +kernel
theorem dX8_lots_45 : decode cX8_lots 45 = .ok (.iload_n 1, 1) := by decide +kernel
theorem dX8_lots_46 : decode cX8_lots 46 = .ok (.if_icmp .ge 6, 3) := by decide +kernel
theorem dX8_lots_49 : decode cX8_lots 49 = .ok (.bipush (-2), 2) := by decide +kernel
theorem dX8_lots_51 : decode cX8_lots 51 = .ok (.ireturn, 1) := by decide +kernel
theorem dX8_lots_52 : decode cX8_lots 52 = .ok (.iload_n 2, 1) := by decide +kernel
theorem dX8_lots_53 : decode cX8_lots 53 = .ok (.i2l, 1) := by decide +kernel
theorem dX8_lots_54 : decode cX8_lots 54 = .ok (.lstore_n 3, 1) := by decide +kernel
theorem dX8_lots_55 : decode cX8_lots 55 = .ok (.iconst 0, 1) := by decide +kernel
theorem dX8_lots_56 : decode cX8_lots 56 = .ok (.istore 5, 2) := by decide +kernel
theorem dX8_lots_58 : decode cX8_lots 58 = .ok (.iload 5, 2) := by decide +kernel
theorem dX8_lots_60 : decode cX8_lots 60 = .ok (.iload_n 1, 1) := by decide +kernel
theorem dX8_lots_61 : decode cX8_lots 61 = .ok (.if_icmp .ge 97, 3) := by decide +kernel
theorem dX8_lots_64 : decode cX8_lots 64 = .ok (.bipush 48, 2) := by decide +kernel
theorem dX8_lots_66 : decode cX8_lots 66 = .ok (.istore 6, 2) := by decide +kernel
theorem dX8_lots_68 : decode cX8_lots 68 = .ok (.iconst 1, 1) := by decide +kernel
theorem dX8_lots_69 : decode cX8_lots 69 = .ok (.istore 7, 2) := by decide +kernel
theorem dX8_lots_71 : decode cX8_lots 71 = .ok (.iconst 0, 1) := by decide +kernel
theorem dX8_lots_72 : decode cX8_lots 72 = .ok (.istore 8, 2) := by decide +kernel
theorem dX8_lots_74 : decode cX8_lots 74 = .ok (.iload 8, 2) := by decide +kernel
theorem dX8_lots_76 : decode cX8_lots 76 = .ok (.aload_n 0, 1) := by decide +kernel
theorem dX8_lots_77 : decode cX8_lots 77 = .ok (.getfield 25, 3) := by decide +kernel
theorem dX8_lots_80 : decode cX8_lots 80 = .ok (.getfield 135, 3) := by decide +kernel
theorem dX8_lots_83 : decode cX8_lots 83 = .ok (.if_icmp .ge 60, 3) := by decide +kernel
theorem dX8_lots_86 : decode cX8_lots 86 = .ok (.aload_n 0, 1) := by decide +kernel
theorem dX8_lots_87 : decode cX8_lots 87 = .ok (.getfield 25, 3) := by decide +kernel
theorem dX8_lots_90 : decode cX8_lots 90 = .ok (.getfield 137, 3) := by decide +kernel
theorem dX8_lots_93 : decode cX8_lots 93 = .ok (.iload 8, 2) := by decide +kernel
theorem dX8_lots_95 : decode cX8_lots 95 = .ok (.aaload, 1) := by decide +kernel
theorem dX8_lots_96 : decode cX8_lots 96 = .ok (.getfield 200, 3) := by decide +kernel
theorem dX8_lots_99 : decode cX8_lots 99 = .ok (.ifCond .ne 31, 3) := by decide +kernel
theorem dX8_lots_102 : decode cX8_lots 102 = .ok (.lload_n 3, 1) := by decide +kernel
theorem dX8_lots_103 : decode cX8_lots 103 = .ok (.ldc2_w 336, 3) := by decide +kernel
theorem dX8_lots_106 : decode cX8_lots 106 = .ok (.lmul, 1) := by decide +kernel
theorem dX8_lots_107 : decode cX8_lots 107 = .ok (.ldc2_w 338, 3) := by decide +kernel
theorem dX8_lots_110 : decode cX8_lots 110 = .ok (.lrem, 1) := by decide +kernel
theorem dX8_lots_111 : decode cX8_lots 111 = .ok (.lstore_n 3, 1) := by decide +kernel
theorem dX8_lots_112 : decode cX8_lots 112 = .ok (.iload 6, 2) := by decide +kernel
theorem dX8_lots_114 : decode cX8_lots 114 = .ok (.lload_n 3, 1) := by decide +kernel
theorem dX8_lots_115 : decode cX8_lots 115 = .ok (.ldc2_w 340, 3) := by decide +kernel
theorem dX8_lots_118 : decode cX8_lots 118 = .ok (.ldiv, 1) := by decide +kernel
theorem dX8_lots_119 : decode cX8_lots 119 = .ok (.ldc2_w 342, 3) := by decide +kernel
theorem dX8_lots_122 : decode cX8_lots 122 = .ok (.lrem, 1) := by decide +kernel
theorem dX8_lots_123 : decode cX8_lots 123 = .ok (.l2i, 1) := by decide +kernel
theorem dX8_lots_124 : decode cX8_lots 124 = .ok (.iload 7, 2) := by decide +kernel
theorem dX8_lots_126 : decode cX8_lots 126 = .ok (.imul, 1) := by decide +kernel
theorem dX8_lots_127 : decode cX8_lots 127 = .ok (.iadd, 1) := by decide +kernel
theorem dX8_lots_128 : decode cX8_lots 128 = .ok (.istore 6, 2) := by decide +kernel
theorem dX8_lots_130 : decode cX8_lots 130 = .ok (.iload 7, 2) := by decide +kernel
theorem dX8_lots_132 : decode cX8_lots 132 = .ok (.bipush 7, 2) := by decide +kernel
theorem dX8_lots_134 : decode cX8_lots 134 = .ok (.imul, 1) := by decide +kernel
theorem dX8_lots_135 : decode cX8_lots 135 = .ok (.istore 7, 2) := by decide +kernel
theorem dX8_lots_137 : decode cX8_lots 137 = .ok (.iinc 8 1, 3) := by decide +kernel
theorem dX8_lots_140 : decode cX8_lots 140 = .ok (.goto (-66), 3) := by decide +kernel
theorem dX8_lots_143 : decode cX8_lots 143 = .ok (.aload_n 0, 1) := by decide +kernel
theorem dX8_lots_144 : decode cX8_lots 144 = .ok (.getfield 25, 3) := by decide +kernel
theorem dX8_lots_147 : decode cX8_lots 147 = .ok (.iload 6, 2) := by decide +kernel
theorem dX8_lots_149 : decode cX8_lots 149 = .ok (.invokevirtual 184, 3) := by decide +kernel
theorem dX8_lots_152 : decode cX8_lots 152 = .ok (.iinc 5 1, 3) := by decide +kernel
theorem dX8_lots_155 : decode cX8_lots 155 = .ok (.goto (-97), 3) := by decide +kernel
theorem dX8_lots_158 : decode cX8_lots 158 = .ok (.aload_n 0, 1) := by decide +kernel
theorem dX8_lots_159 : decode cX8_lots 159 = .ok (.getfield 25, 3) := by decide +kernel
theorem dX8_lots_162 : decode cX8_lots 162 = .ok (.invokevirtual 287, 3) := by decide +kernel
theorem dX8_lots_165 : decode cX8_lots 165 = .ok (.ireturn, 1) := by decide +kernel
theorem dX8_asked_0 : decode cX8_asked 0 = .ok (.aload_n 0, 1) := by decide +kernel
theorem dX8_asked_1 : decode cX8_asked 1 = .ok (.getfield 93, 3) := by decide +kernel
theorem dX8_asked_4 : decode cX8_asked 4 = .ok (.ireturn, 1) := by decide +kernel
theorem dX8_upper_0 : decode cX8_upper 0 = .ok (.aload_n 0, 1) := by decide +kernel
theorem dX8_upper_1 : decode cX8_upper 1 = .ok (.getfield 344, 3) := by decide +kernel
theorem dX8_upper_4 : decode cX8_upper 4 = .ok (.lreturn, 1) := by decide +kernel
theorem dX8_lower_0 : decode cX8_lower 0 = .ok (.aload_n 0, 1) := by decide +kernel
theorem dX8_lower_1 : decode cX8_lower 1 = .ok (.getfield 71, 3) := by decide +kernel
theorem dX8_lower_4 : decode cX8_lower 4 = .ok (.lreturn, 1) := by decide +kernel
theorem dX8_count_0 : decode cX8_count 0 = .ok (.iload_n 1, 1) := by decide +kernel
theorem dX8_count_1 : decode cX8_count 1 = .ok (.tableswitch 128 0 8 #[51, 59, 67, 75, 91, 99, 107, 115, 123], 51) := by decide +kernel
theorem dX8_count_52 : decode cX8_count 52 = .ok (.aload_n 0, 1) := by decide +kernel
theorem dX8_count_53 : decode cX8_count 53 = .ok (.getfield 25, 3) := by decide +kernel
theorem dX8_count_56 : decode cX8_count 56 = .ok (.getfield 135, 3) := by decide +kernel
theorem dX8_count_59 : decode cX8_count 59 = .ok (.ireturn, 1) := by decide +kernel
theorem dX8_count_60 : decode cX8_count 60 = .ok (.aload_n 0, 1) := by decide +kernel
theorem dX8_count_61 : decode cX8_count 61 = .ok (.getfield 25, 3) := by decide +kernel
theorem dX8_count_64 : decode cX8_count 64 = .ok (.getfield 168, 3) := by decide +kernel
theorem dX8_count_67 : decode cX8_count 67 = .ok (.ireturn, 1) := by decide +kernel
theorem dX8_count_68 : decode cX8_count 68 = .ok (.aload_n 0, 1) := by decide +kernel
theorem dX8_count_69 : decode cX8_count 69 = .ok (.getfield 25, 3) := by decide +kernel
theorem dX8_count_72 : decode cX8_count 72 = .ok (.getfield 206, 3) := by decide +kernel
theorem dX8_count_75 : decode cX8_count 75 = .ok (.ireturn, 1) := by decide +kernel
theorem dX8_count_76 : decode cX8_count 76 = .ok (.aload_n 0, 1) := by decide +kernel
theorem dX8_count_77 : decode cX8_count 77 = .ok (.getfield 25, 3) := by decide +kernel
theorem dX8_count_80 : decode cX8_count 80 = .ok (.getfield 135, 3) := by decide +kernel
theorem dX8_count_83 : decode cX8_count 83 = .ok (.aload_n 0, 1) := by decide +kernel
theorem dX8_count_84 : decode cX8_count 84 = .ok (.getfield 25, 3) := by decide +kernel
theorem dX8_count_87 : decode cX8_count 87 = .ok (.invokevirtual 287, 3) := by decide +kernel
theorem dX8_count_90 : decode cX8_count 90 = .ok (.isub, 1) := by decide +kernel
theorem dX8_count_91 : decode cX8_count 91 = .ok (.ireturn, 1) := by decide +kernel
theorem dX8_count_92 : decode cX8_count 92 = .ok (.aload_n 0, 1) := by decide +kernel
theorem dX8_count_93 : decode cX8_count 93 = .ok (.getfield 25, 3) := by decide +kernel
theorem dX8_count_96 : decode cX8_count 96 = .ok (.invokevirtual 347, 3) := by decide +kernel
theorem dX8_count_99 : decode cX8_count 99 = .ok (.ireturn, 1) := by decide +kernel
theorem dX8_count_100 : decode cX8_count 100 = .ok (.aload_n 0, 1) := by decide +kernel
theorem dX8_count_101 : decode cX8_count 101 = .ok (.getfield 25, 3) := by decide +kernel
theorem dX8_count_104 : decode cX8_count 104 = .ok (.invokevirtual 350, 3) := by decide +kernel
theorem dX8_count_107 : decode cX8_count 107 = .ok (.ireturn, 1) := by decide +kernel
theorem dX8_count_108 : decode cX8_count 108 = .ok (.aload_n 0, 1) := by decide +kernel
theorem dX8_count_109 : decode cX8_count 109 = .ok (.getfield 11, 3) := by decide +kernel
theorem dX8_count_112 : decode cX8_count 112 = .ok (.invokestatic 353, 3) := by decide +kernel
theorem dX8_count_115 : decode cX8_count 115 = .ok (.ireturn, 1) := by decide +kernel
theorem dX8_count_116 : decode cX8_count 116 = .ok (.aload_n 0, 1) := by decide +kernel
theorem dX8_count_117 : decode cX8_count 117 = .ok (.getfield 15, 3) := by decide +kernel
theorem dX8_count_120 : decode cX8_count 120 = .ok (.invokestatic 353, 3) := by decide +kernel
theorem dX8_count_123 : decode cX8_count 123 = .ok (.ireturn, 1) := by decide +kernel
theorem dX8_count_124 : decode cX8_count 124 = .ok (.aload_n 0, 1) := by decide +kernel
theorem dX8_count_125 : decode cX8_count 125 = .ok (.invokevirtual 357, 3) := by decide +kernel
theorem dX8_count_128 : decode cX8_count 128 = .ok (.ireturn, 1) := by decide +kernel
theorem dX8_count_129 : decode cX8_count 129 = .ok (.iconst (-1), 1) := by decide +kernel
theorem dX8_count_130 : decode cX8_count 130 = .ok (.ireturn, 1) := by decide +kernel
theorem dX8_finding_0 : decode cX8_finding 0 = .ok (.aload_n 0, 1) := by decide +kernel
theorem dX8_finding_1 : decode cX8_finding 1 = .ok (.getfield 360, 3) := by decide +kernel
theorem dX8_finding_4 : decode cX8_finding 4 = .ok (.ireturn, 1) := by decide +kernel
theorem dX8_findings_0 : decode cX8_findings 0 = .ok (.iload_n 1, 1) := by decide +kernel
theorem dX8_findings_1 : decode cX8_findings 1 = .ok (.iconst 1, 1) := by decide +kernel
theorem dX8_findings_2 : decode cX8_findings 2 = .ok (.if_icmp .lt 17, 3) := by decide +kernel
theorem dX8_findings_5 : decode cX8_findings 5 = .ok (.iload_n 1, 1) := by decide +kernel
theorem dX8_findings_6 : decode cX8_findings 6 = .ok (.iconst 5, 1) := by decide +kernel
theorem dX8_findings_7 : decode cX8_findings 7 = .ok (.if_icmp .gt 12, 3) := by decide +kernel
theorem dX8_findings_10 : decode cX8_findings 10 = .ok (.aload_n 0, 1) := by decide +kernel
theorem dX8_findings_11 : decode cX8_findings 11 = .ok (.getfield 67, 3) := by decide +kernel
theorem dX8_findings_14 : decode cX8_findings 14 = .ok (.iload_n 1, 1) := by decide +kernel
theorem dX8_findings_15 : decode cX8_findings 15 = .ok (.iaload, 1) := by decide +kernel
theorem dX8_findings_16 : decode cX8_findings 16 = .ok (.goto 4, 3) := by decide +kernel
theorem dX8_findings_19 : decode cX8_findings 19 = .ok (.iconst (-1), 1) := by decide +kernel
theorem dX8_findings_20 : decode cX8_findings 20 = .ok (.ireturn, 1) := by decide +kernel
theorem dX8_digest_0 : decode cX8_digest 0 = .ok (.ldc2_w 363, 3) := by decide +kernel
theorem dX8_digest_3 : decode cX8_digest 3 = .ok (.lstore_n 1, 1) := by decide +kernel
theorem dX8_digest_4 : decode cX8_digest 4 = .ok (.iconst 0, 1) := by decide +kernel
theorem dX8_digest_5 : decode cX8_digest 5 = .ok (.istore_n 3, 1) := by decide +kernel
theorem dX8_digest_6 : decode cX8_digest 6 = .ok (.iload_n 3, 1) := by decide +kernel
theorem dX8_digest_7 : decode cX8_digest 7 = .ok (.bipush 9, 2) := by decide +kernel
theorem dX8_digest_9 : decode cX8_digest 9 = .ok (.if_icmp .ge 22, 3) := by decide +kernel
theorem dX8_digest_12 : decode cX8_digest 12 = .ok (.ldc2_w 365, 3) := by decide +kernel
theorem dX8_digest_15 : decode cX8_digest 15 = .ok (.lload_n 1, 1) := by decide +kernel
theorem dX8_digest_16 : decode cX8_digest 16 = .ok (.lmul, 1) := by decide +kernel
theorem dX8_digest_17 : decode cX8_digest 17 = .ok (.aload_n 0, 1) := by decide +kernel
theorem dX8_digest_18 : decode cX8_digest 18 = .ok (.iload_n 3, 1) := by decide +kernel
theorem dX8_digest_19 : decode cX8_digest 19 = .ok (.invokevirtual 367, 3) := by decide +kernel
theorem dX8_digest_22 : decode cX8_digest 22 = .ok (.i2l, 1) := by decide +kernel
theorem dX8_digest_23 : decode cX8_digest 23 = .ok (.ladd, 1) := by decide +kernel
theorem dX8_digest_24 : decode cX8_digest 24 = .ok (.lstore_n 1, 1) := by decide +kernel
theorem dX8_digest_25 : decode cX8_digest 25 = .ok (.iinc 3 1, 3) := by decide +kernel
theorem dX8_digest_28 : decode cX8_digest 28 = .ok (.goto (-22), 3) := by decide +kernel
theorem dX8_digest_31 : decode cX8_digest 31 = .ok (.iconst 0, 1) := by decide +kernel
theorem dX8_digest_32 : decode cX8_digest 32 = .ok (.istore_n 3, 1) := by decide +kernel
theorem dX8_digest_33 : decode cX8_digest 33 = .ok (.iload_n 3, 1) := by decide +kernel
theorem dX8_digest_34 : decode cX8_digest 34 = .ok (.aload_n 0, 1) := by decide +kernel
theorem dX8_digest_35 : decode cX8_digest 35 = .ok (.getfield 25, 3) := by decide +kernel
theorem dX8_digest_38 : decode cX8_digest 38 = .ok (.getfield 135, 3) := by decide +kernel
theorem dX8_digest_41 : decode cX8_digest 41 = .ok (.if_icmp .ge 47, 3) := by decide +kernel
theorem dX8_digest_44 : decode cX8_digest 44 = .ok (.iconst 0, 1) := by decide +kernel
theorem dX8_digest_45 : decode cX8_digest 45 = .ok (.istore 4, 2) := by decide +kernel
theorem dX8_digest_47 : decode cX8_digest 47 = .ok (.iload 4, 2) := by decide +kernel
theorem dX8_digest_49 : decode cX8_digest 49 = .ok (.bipush 6, 2) := by decide +kernel
theorem dX8_digest_51 : decode cX8_digest 51 = .ok (.if_icmp .ge 31, 3) := by decide +kernel
theorem dX8_digest_54 : decode cX8_digest 54 = .ok (.ldc2_w 365, 3) := by decide +kernel
theorem dX8_digest_57 : decode cX8_digest 57 = .ok (.lload_n 1, 1) := by decide +kernel
theorem dX8_digest_58 : decode cX8_digest 58 = .ok (.lmul, 1) := by decide +kernel
theorem dX8_digest_59 : decode cX8_digest 59 = .ok (.aload_n 0, 1) := by decide +kernel
theorem dX8_digest_60 : decode cX8_digest 60 = .ok (.getfield 25, 3) := by decide +kernel
theorem dX8_digest_63 : decode cX8_digest 63 = .ok (.getfield 137, 3) := by decide +kernel
theorem dX8_digest_66 : decode cX8_digest 66 = .ok (.iload_n 3, 1) := by decide +kernel
theorem dX8_digest_67 : decode cX8_digest 67 = .ok (.aaload, 1) := by decide +kernel
theorem dX8_digest_68 : decode cX8_digest 68 = .ok (.iload 4, 2) := by decide +kernel
theorem dX8_digest_70 : decode cX8_digest 70 = .ok (.invokevirtual 141, 3) := by decide +kernel
theorem dX8_digest_73 : decode cX8_digest 73 = .ok (.i2l, 1) := by decide +kernel
theorem dX8_digest_74 : decode cX8_digest 74 = .ok (.ladd, 1) := by decide +kernel
theorem dX8_digest_75 : decode cX8_digest 75 = .ok (.lstore_n 1, 1) := by decide +kernel
theorem dX8_digest_76 : decode cX8_digest 76 = .ok (.iinc 4 1, 3) := by decide +kernel
theorem dX8_digest_79 : decode cX8_digest 79 = .ok (.goto (-32), 3) := by decide +kernel
theorem dX8_digest_82 : decode cX8_digest 82 = .ok (.iinc 3 1, 3) := by decide +kernel
theorem dX8_digest_85 : decode cX8_digest 85 = .ok (.goto (-52), 3) := by decide +kernel
theorem dX8_digest_88 : decode cX8_digest 88 = .ok (.iconst 0, 1) := by decide +kernel
theorem dX8_digest_89 : decode cX8_digest 89 = .ok (.istore_n 3, 1) := by decide +kernel
theorem dX8_digest_90 : decode cX8_digest 90 = .ok (.iload_n 3, 1) := by decide +kernel
theorem dX8_digest_91 : decode cX8_digest 91 = .ok (.iconst 3, 1) := by decide +kernel
theorem dX8_digest_92 : decode cX8_digest 92 = .ok (.if_icmp .ge 42, 3) := by decide +kernel
theorem dX8_digest_95 : decode cX8_digest 95 = .ok (.ldc2_w 365, 3) := by decide +kernel
theorem dX8_digest_98 : decode cX8_digest 98 = .ok (.lload_n 1, 1) := by decide +kernel
theorem dX8_digest_99 : decode cX8_digest 99 = .ok (.lmul, 1) := by decide +kernel
theorem dX8_digest_100 : decode cX8_digest 100 = .ok (.aload_n 0, 1) := by decide +kernel
theorem dX8_digest_101 : decode cX8_digest 101 = .ok (.getfield 20, 3) := by decide +kernel
theorem dX8_digest_104 : decode cX8_digest 104 = .ok (.iload_n 3, 1) := by decide +kernel
theorem dX8_digest_105 : decode cX8_digest 105 = .ok (.aaload, 1) := by decide +kernel
theorem dX8_digest_106 : decode cX8_digest 106 = .ok (.getfield 135, 3) := by decide +kernel
theorem dX8_digest_109 : decode cX8_digest 109 = .ok (.ifCond .ne 7, 3) := by decide +kernel
theorem dX8_digest_112 : decode cX8_digest 112 = .ok (.iconst (-1), 1) := by decide +kernel
theorem dX8_digest_113 : decode cX8_digest 113 = .ok (.goto 12, 3) := by decide +kernel
theorem dX8_digest_116 : decode cX8_digest 116 = .ok (.aload_n 0, 1) := by decide +kernel
theorem dX8_digest_117 : decode cX8_digest 117 = .ok (.getfield 20, 3) := by decide +kernel
theorem dX8_digest_120 : decode cX8_digest 120 = .ok (.iload_n 3, 1) := by decide +kernel
theorem dX8_digest_121 : decode cX8_digest 121 = .ok (.aaload, 1) := by decide +kernel
theorem dX8_digest_122 : decode cX8_digest 122 = .ok (.getfield 206, 3) := by decide +kernel
theorem dX8_digest_125 : decode cX8_digest 125 = .ok (.i2l, 1) := by decide +kernel
theorem dX8_digest_126 : decode cX8_digest 126 = .ok (.ladd, 1) := by decide +kernel
theorem dX8_digest_127 : decode cX8_digest 127 = .ok (.lstore_n 1, 1) := by decide +kernel
theorem dX8_digest_128 : decode cX8_digest 128 = .ok (.iinc 3 1, 3) := by decide +kernel
theorem dX8_digest_131 : decode cX8_digest 131 = .ok (.goto (-41), 3) := by decide +kernel
theorem dX8_digest_134 : decode cX8_digest 134 = .ok (.iconst 0, 1) := by decide +kernel
theorem dX8_digest_135 : decode cX8_digest 135 = .ok (.istore_n 3, 1) := by decide +kernel
theorem dX8_digest_136 : decode cX8_digest 136 = .ok (.iload_n 3, 1) := by decide +kernel
theorem dX8_digest_137 : decode cX8_digest 137 = .ok (.bipush 6, 2) := by decide +kernel
theorem dX8_digest_139 : decode cX8_digest 139 = .ok (.if_icmp .ge 20, 3) := by decide +kernel
theorem dX8_digest_142 : decode cX8_digest 142 = .ok (.aload_n 0, 1) := by decide +kernel
theorem dX8_digest_143 : decode cX8_digest 143 = .ok (.getfield 11, 3) := by decide +kernel
theorem dX8_digest_146 : decode cX8_digest 146 = .ok (.iload_n 3, 1) := by decide +kernel
theorem dX8_digest_147 : decode cX8_digest 147 = .ok (.aaload, 1) := by decide +kernel
theorem dX8_digest_148 : decode cX8_digest 148 = .ok (.lload_n 1, 1) := by decide +kernel
theorem dX8_digest_149 : decode cX8_digest 149 = .ok (.invokevirtual 370, 3) := by decide +kernel
theorem dX8_digest_152 : decode cX8_digest 152 = .ok (.lstore_n 1, 1) := by decide +kernel
theorem dX8_digest_153 : decode cX8_digest 153 = .ok (.iinc 3 1, 3) := by decide +kernel
theorem dX8_digest_156 : decode cX8_digest 156 = .ok (.goto (-20), 3) := by decide +kernel
theorem dX8_digest_159 : decode cX8_digest 159 = .ok (.iconst 0, 1) := by decide +kernel
theorem dX8_digest_160 : decode cX8_digest 160 = .ok (.istore_n 3, 1) := by decide +kernel
theorem dX8_digest_161 : decode cX8_digest 161 = .ok (.iload_n 3, 1) := by decide +kernel
theorem dX8_digest_162 : decode cX8_digest 162 = .ok (.iconst 4, 1) := by decide +kernel
theorem dX8_digest_163 : decode cX8_digest 163 = .ok (.if_icmp .ge 20, 3) := by decide +kernel
theorem dX8_digest_166 : decode cX8_digest 166 = .ok (.aload_n 0, 1) := by decide +kernel
theorem dX8_digest_167 : decode cX8_digest 167 = .ok (.getfield 15, 3) := by decide +kernel
theorem dX8_digest_170 : decode cX8_digest 170 = .ok (.iload_n 3, 1) := by decide +kernel
theorem dX8_digest_171 : decode cX8_digest 171 = .ok (.aaload, 1) := by decide +kernel
theorem dX8_digest_172 : decode cX8_digest 172 = .ok (.lload_n 1, 1) := by decide +kernel
theorem dX8_digest_173 : decode cX8_digest 173 = .ok (.invokevirtual 370, 3) := by decide +kernel
theorem dX8_digest_176 : decode cX8_digest 176 = .ok (.lstore_n 1, 1) := by decide +kernel
theorem dX8_digest_177 : decode cX8_digest 177 = .ok (.iinc 3 1, 3) := by decide +kernel
theorem dX8_digest_180 : decode cX8_digest 180 = .ok (.goto (-19), 3) := by decide +kernel
theorem dX8_digest_183 : decode cX8_digest 183 = .ok (.lload_n 1, 1) := by decide +kernel
theorem dX8_digest_184 : decode cX8_digest 184 = .ok (.lreturn, 1) := by decide +kernel
theorem dX8_find_0 : decode cX8_find 0 = .ok (.aload_n 0, 1) := by decide +kernel
theorem dX8_find_1 : decode cX8_find 1 = .ok (.iload_n 1, 1) := by decide +kernel
theorem dX8_find_2 : decode cX8_find 2 = .ok (.putfield 360, 3) := by decide +kernel
theorem dX8_find_5 : decode cX8_find 5 = .ok (.iload_n 1, 1) := by decide +kernel
theorem dX8_find_6 : decode cX8_find 6 = .ok (.ifCond .lt 22, 3) := by decide +kernel
theorem dX8_find_9 : decode cX8_find 9 = .ok (.iload_n 1, 1) := by decide +kernel
theorem dX8_find_10 : decode cX8_find 10 = .ok (.aload_n 0, 1) := by decide +kernel
theorem dX8_find_11 : decode cX8_find 11 = .ok (.getfield 67, 3) := by decide +kernel
theorem dX8_find_14 : decode cX8_find 14 = .ok (.arraylength, 1) := by decide +kernel
theorem dX8_find_15 : decode cX8_find 15 = .ok (.if_icmp .ge 13, 3) := by decide +kernel
theorem dX8_find_18 : decode cX8_find 18 = .ok (.aload_n 0, 1) := by decide +kernel
theorem dX8_find_19 : decode cX8_find 19 = .ok (.getfield 67, 3) := by decide +kernel
theorem dX8_find_22 : decode cX8_find 22 = .ok (.iload_n 1, 1) := by decide +kernel
theorem dX8_find_23 : decode cX8_find 23 = .ok (.dup2, 1) := by decide +kernel
theorem dX8_find_24 : decode cX8_find 24 = .ok (.iaload, 1) := by decide +kernel
theorem dX8_find_25 : decode cX8_find 25 = .ok (.iconst 1, 1) := by decide +kernel
theorem dX8_find_26 : decode cX8_find 26 = .ok (.iadd, 1) := by decide +kernel
theorem dX8_find_27 : decode cX8_find 27 = .ok (.iastore, 1) := by decide +kernel
theorem dX8_find_28 : decode cX8_find 28 = .ok (.bipush (-3), 2) := by decide +kernel
theorem dX8_find_30 : decode cX8_find 30 = .ok (.ireturn, 1) := by decide +kernel
theorem dX8_refusePlace_0 : decode cX8_refusePlace 0 = .ok (.iload_n 1, 1) := by decide +kernel
theorem dX8_refusePlace_1 : decode cX8_refusePlace 1 = .ok (.invokestatic 78, 3) := by decide +kernel
theorem dX8_refusePlace_4 : decode cX8_refusePlace 4 = .ok (.ifCond .ne 5, 3) := by decide +kernel
theorem dX8_refusePlace_7 : decode cX8_refusePlace 7 = .ok (.iconst (-1), 1) := by decide +kernel
theorem dX8_refusePlace_8 : decode cX8_refusePlace 8 = .ok (.ireturn, 1) := by decide +kernel
theorem dX8_refusePlace_9 : decode cX8_refusePlace 9 = .ok (.aload_n 0, 1) := by decide +kernel
theorem dX8_refusePlace_10 : decode cX8_refusePlace 10 = .ok (.getfield 11, 3) := by decide +kernel
theorem dX8_refusePlace_13 : decode cX8_refusePlace 13 = .ok (.iload_n 1, 1) := by decide +kernel
theorem dX8_refusePlace_14 : decode cX8_refusePlace 14 = .ok (.aaload, 1) := by decide +kernel
theorem dX8_refusePlace_15 : decode cX8_refusePlace 15 = .ok (.getfield 97, 3) := by decide +kernel
theorem dX8_refusePlace_18 : decode cX8_refusePlace 18 = .ok (.ifCond .ne 9, 3) := by decide +kernel
theorem dX8_refusePlace_21 : decode cX8_refusePlace 21 = .ok (.aload_n 0, 1) := by decide +kernel
theorem dX8_refusePlace_22 : decode cX8_refusePlace 22 = .ok (.iconst 1, 1) := by decide +kernel
theorem dX8_refusePlace_23 : decode cX8_refusePlace 23 = .ok (.invokevirtual 101, 3) := by decide +kernel
theorem dX8_refusePlace_26 : decode cX8_refusePlace 26 = .ok (.ireturn, 1) := by decide +kernel
theorem dX8_refusePlace_27 : decode cX8_refusePlace 27 = .ok (.aload_n 0, 1) := by decide +kernel
theorem dX8_refusePlace_28 : decode cX8_refusePlace 28 = .ok (.getfield 11, 3) := by decide +kernel
theorem dX8_refusePlace_31 : decode cX8_refusePlace 31 = .ok (.iload_n 1, 1) := by decide +kernel
theorem dX8_refusePlace_32 : decode cX8_refusePlace 32 = .ok (.aaload, 1) := by decide +kernel
theorem dX8_refusePlace_33 : decode cX8_refusePlace 33 = .ok (.iload_n 2, 1) := by decide +kernel
theorem dX8_refusePlace_34 : decode cX8_refusePlace 34 = .ok (.invokevirtual 121, 3) := by decide +kernel
theorem dX8_refusePlace_37 : decode cX8_refusePlace 37 = .ok (.ifCond .eq 7, 3) := by decide +kernel
theorem dX8_refusePlace_40 : decode cX8_refusePlace 40 = .ok (.iconst 0, 1) := by decide +kernel
theorem dX8_refusePlace_41 : decode cX8_refusePlace 41 = .ok (.goto 8, 3) := by decide +kernel
theorem dX8_refusePlace_44 : decode cX8_refusePlace 44 = .ok (.aload_n 0, 1) := by decide +kernel
theorem dX8_refusePlace_45 : decode cX8_refusePlace 45 = .ok (.iconst 2, 1) := by decide +kernel
theorem dX8_refusePlace_46 : decode cX8_refusePlace 46 = .ok (.invokevirtual 101, 3) := by decide +kernel
theorem dX8_refusePlace_49 : decode cX8_refusePlace 49 = .ok (.ireturn, 1) := by decide +kernel
theorem dX8_refuseBell_0 : decode cX8_refuseBell 0 = .ok (.aload_n 0, 1) := by decide +kernel
theorem dX8_refuseBell_1 : decode cX8_refuseBell 1 = .ok (.getfield 25, 3) := by decide +kernel
theorem dX8_refuseBell_4 : decode cX8_refuseBell 4 = .ok (.iload_n 1, 1) := by decide +kernel
theorem dX8_refuseBell_5 : decode cX8_refuseBell 5 = .ok (.invokevirtual 136, 3) := by decide +kernel
theorem dX8_refuseBell_8 : decode cX8_refuseBell 8 = .ok (.ifCond .ne 5, 3) := by decide +kernel
theorem dX8_refuseBell_11 : decode cX8_refuseBell 11 = .ok (.iconst (-1), 1) := by decide +kernel
theorem dX8_refuseBell_12 : decode cX8_refuseBell 12 = .ok (.ireturn, 1) := by decide +kernel
theorem dX8_refuseBell_13 : decode cX8_refuseBell 13 = .ok (.aload_n 0, 1) := by decide +kernel
theorem dX8_refuseBell_14 : decode cX8_refuseBell 14 = .ok (.getfield 25, 3) := by decide +kernel
theorem dX8_refuseBell_17 : decode cX8_refuseBell 17 = .ok (.getfield 137, 3) := by decide +kernel
theorem dX8_refuseBell_20 : decode cX8_refuseBell 20 = .ok (.iload_n 1, 1) := by decide +kernel
theorem dX8_refuseBell_21 : decode cX8_refuseBell 21 = .ok (.aaload, 1) := by decide +kernel
theorem dX8_refuseBell_22 : decode cX8_refuseBell 22 = .ok (.getfield 200, 3) := by decide +kernel
theorem dX8_refuseBell_25 : decode cX8_refuseBell 25 = .ok (.ifCond .eq 8, 3) := by decide +kernel
theorem dX8_refuseBell_28 : decode cX8_refuseBell 28 = .ok (.bipush (-4), 2) := by decide +kernel
theorem dX8_refuseBell_30 : decode cX8_refuseBell 30 = .ok (.goto 4, 3) := by decide +kernel
theorem dX8_refuseBell_33 : decode cX8_refuseBell 33 = .ok (.iconst 0, 1) := by decide +kernel
theorem dX8_refuseBell_34 : decode cX8_refuseBell 34 = .ok (.ireturn, 1) := by decide +kernel
theorem dX8_refuseRound_0 : decode cX8_refuseRound 0 = .ok (.iload_n 1, 1) := by decide +kernel
theorem dX8_refuseRound_1 : decode cX8_refuseRound 1 = .ok (.invokestatic 78, 3) := by decide +kernel
theorem dX8_refuseRound_4 : decode cX8_refuseRound 4 = .ok (.ifCond .ne 5, 3) := by decide +kernel
theorem dX8_refuseRound_7 : decode cX8_refuseRound 7 = .ok (.iconst (-1), 1) := by decide +kernel
theorem dX8_refuseRound_8 : decode cX8_refuseRound 8 = .ok (.ireturn, 1) := by decide +kernel
theorem dX8_refuseRound_9 : decode cX8_refuseRound 9 = .ok (.aload_n 0, 1) := by decide +kernel
theorem dX8_refuseRound_10 : decode cX8_refuseRound 10 = .ok (.getfield 25, 3) := by decide +kernel
theorem dX8_refuseRound_13 : decode cX8_refuseRound 13 = .ok (.getfield 135, 3) := by decide +kernel
theorem dX8_refuseRound_16 : decode cX8_refuseRound 16 = .ok (.ifCond .ne 6, 3) := by decide +kernel
theorem dX8_refuseRound_19 : decode cX8_refuseRound 19 = .ok (.bipush (-4), 2) := by decide +kernel
theorem dX8_refuseRound_21 : decode cX8_refuseRound 21 = .ok (.ireturn, 1) := by decide +kernel
theorem dX8_refuseRound_22 : decode cX8_refuseRound 22 = .ok (.aload_n 0, 1) := by decide +kernel
theorem dX8_refuseRound_23 : decode cX8_refuseRound 23 = .ok (.getfield 11, 3) := by decide +kernel
theorem dX8_refuseRound_26 : decode cX8_refuseRound 26 = .ok (.iload_n 1, 1) := by decide +kernel
theorem dX8_refuseRound_27 : decode cX8_refuseRound 27 = .ok (.aaload, 1) := by decide +kernel
theorem dX8_refuseRound_28 : decode cX8_refuseRound 28 = .ok (.getfield 97, 3) := by decide +kernel
theorem dX8_refuseRound_31 : decode cX8_refuseRound 31 = .ok (.ifCond .ne 9, 3) := by decide +kernel
theorem dX8_refuseRound_34 : decode cX8_refuseRound 34 = .ok (.aload_n 0, 1) := by decide +kernel
theorem dX8_refuseRound_35 : decode cX8_refuseRound 35 = .ok (.iconst 1, 1) := by decide +kernel
theorem dX8_refuseRound_36 : decode cX8_refuseRound 36 = .ok (.invokevirtual 101, 3) := by decide +kernel
theorem dX8_refuseRound_39 : decode cX8_refuseRound 39 = .ok (.ireturn, 1) := by decide +kernel
theorem dX8_refuseRound_40 : decode cX8_refuseRound 40 = .ok (.aload_n 0, 1) := by decide +kernel
theorem dX8_refuseRound_41 : decode cX8_refuseRound 41 = .ok (.getfield 11, 3) := by decide +kernel
theorem dX8_refuseRound_44 : decode cX8_refuseRound 44 = .ok (.iload_n 1, 1) := by decide +kernel
theorem dX8_refuseRound_45 : decode cX8_refuseRound 45 = .ok (.aaload, 1) := by decide +kernel
theorem dX8_refuseRound_46 : decode cX8_refuseRound 46 = .ok (.getfield 105, 3) := by decide +kernel
theorem dX8_refuseRound_49 : decode cX8_refuseRound 49 = .ok (.aload_n 0, 1) := by decide +kernel
theorem dX8_refuseRound_50 : decode cX8_refuseRound 50 = .ok (.getfield 25, 3) := by decide +kernel
theorem dX8_refuseRound_53 : decode cX8_refuseRound 53 = .ok (.getfield 135, 3) := by decide +kernel
theorem dX8_refuseRound_56 : decode cX8_refuseRound 56 = .ok (.if_icmp .eq 9, 3) := by decide +kernel
theorem dX8_refuseRound_59 : decode cX8_refuseRound 59 = .ok (.aload_n 0, 1) := by decide +kernel
theorem dX8_refuseRound_60 : decode cX8_refuseRound 60 = .ok (.iconst 5, 1) := by decide +kernel
theorem dX8_refuseRound_61 : decode cX8_refuseRound 61 = .ok (.invokevirtual 101, 3) := by decide +kernel
theorem dX8_refuseRound_64 : decode cX8_refuseRound 64 = .ok (.ireturn, 1) := by decide +kernel
theorem dX8_refuseRound_65 : decode cX8_refuseRound 65 = .ok (.aload_n 0, 1) := by decide +kernel
theorem dX8_refuseRound_66 : decode cX8_refuseRound 66 = .ok (.getfield 11, 3) := by decide +kernel
theorem dX8_refuseRound_69 : decode cX8_refuseRound 69 = .ok (.iload_n 1, 1) := by decide +kernel
theorem dX8_refuseRound_70 : decode cX8_refuseRound 70 = .ok (.aaload, 1) := by decide +kernel
theorem dX8_refuseRound_71 : decode cX8_refuseRound 71 = .ok (.iconst 1, 1) := by decide +kernel
theorem dX8_refuseRound_72 : decode cX8_refuseRound 72 = .ok (.invokevirtual 324, 3) := by decide +kernel
theorem dX8_refuseRound_75 : decode cX8_refuseRound 75 = .ok (.ifCond .eq 7, 3) := by decide +kernel
theorem dX8_refuseRound_78 : decode cX8_refuseRound 78 = .ok (.iconst 0, 1) := by decide +kernel
theorem dX8_refuseRound_79 : decode cX8_refuseRound 79 = .ok (.goto 8, 3) := by decide +kernel
theorem dX8_refuseRound_82 : decode cX8_refuseRound 82 = .ok (.aload_n 0, 1) := by decide +kernel
theorem dX8_refuseRound_83 : decode cX8_refuseRound 83 = .ok (.iconst 3, 1) := by decide +kernel
theorem dX8_refuseRound_84 : decode cX8_refuseRound 84 = .ok (.invokevirtual 101, 3) := by decide +kernel
theorem dX8_refuseRound_87 : decode cX8_refuseRound 87 = .ok (.ireturn, 1) := by decide +kernel
theorem dX8_refuseTold_0 : decode cX8_refuseTold 0 = .ok (.iload_n 2, 1) := by decide +kernel
theorem dX8_refuseTold_1 : decode cX8_refuseTold 1 = .ok (.invokestatic 78, 3) := by decide +kernel
theorem dX8_refuseTold_4 : decode cX8_refuseTold 4 = .ok (.ifCond .eq 11, 3) := by decide +kernel
theorem dX8_refuseTold_7 : decode cX8_refuseTold 7 = .ok (.aload_n 0, 1) := by decide +kernel
theorem dX8_refuseTold_8 : decode cX8_refuseTold 8 = .ok (.iload_n 1, 1) := by decide +kernel
theorem dX8_refuseTold_9 : decode cX8_refuseTold 9 = .ok (.invokevirtual 174, 3) := by decide +kernel
theorem dX8_refuseTold_12 : decode cX8_refuseTold 12 = .ok (.goto 4, 3) := by decide +kernel
theorem dX8_refuseTold_15 : decode cX8_refuseTold 15 = .ok (.iconst (-1), 1) := by decide +kernel
theorem dX8_refuseTold_16 : decode cX8_refuseTold 16 = .ok (.istore_n 3, 1) := by decide +kernel
theorem dX8_refuseTold_17 : decode cX8_refuseTold 17 = .ok (.iload_n 3, 1) := by decide +kernel
theorem dX8_refuseTold_18 : decode cX8_refuseTold 18 = .ok (.ifCond .eq 5, 3) := by decide +kernel
theorem dX8_refuseTold_21 : decode cX8_refuseTold 21 = .ok (.iload_n 3, 1) := by decide +kernel
theorem dX8_refuseTold_22 : decode cX8_refuseTold 22 = .ok (.ireturn, 1) := by decide +kernel
theorem dX8_refuseTold_23 : decode cX8_refuseTold 23 = .ok (.aload_n 0, 1) := by decide +kernel
theorem dX8_refuseTold_24 : decode cX8_refuseTold 24 = .ok (.getfield 11, 3) := by decide +kernel
theorem dX8_refuseTold_27 : decode cX8_refuseTold 27 = .ok (.iload_n 2, 1) := by decide +kernel
theorem dX8_refuseTold_28 : decode cX8_refuseTold 28 = .ok (.aaload, 1) := by decide +kernel
theorem dX8_refuseTold_29 : decode cX8_refuseTold 29 = .ok (.getfield 97, 3) := by decide +kernel
theorem dX8_refuseTold_32 : decode cX8_refuseTold 32 = .ok (.ifCond .ne 9, 3) := by decide +kernel
theorem dX8_refuseTold_35 : decode cX8_refuseTold 35 = .ok (.aload_n 0, 1) := by decide +kernel
theorem dX8_refuseTold_36 : decode cX8_refuseTold 36 = .ok (.iconst 1, 1) := by decide +kernel
theorem dX8_refuseTold_37 : decode cX8_refuseTold 37 = .ok (.invokevirtual 101, 3) := by decide +kernel
theorem dX8_refuseTold_40 : decode cX8_refuseTold 40 = .ok (.ireturn, 1) := by decide +kernel
theorem dX8_refuseTold_41 : decode cX8_refuseTold 41 = .ok (.aload_n 0, 1) := by decide +kernel
theorem dX8_refuseTold_42 : decode cX8_refuseTold 42 = .ok (.getfield 11, 3) := by decide +kernel
theorem dX8_refuseTold_45 : decode cX8_refuseTold 45 = .ok (.iload_n 2, 1) := by decide +kernel
theorem dX8_refuseTold_46 : decode cX8_refuseTold 46 = .ok (.aaload, 1) := by decide +kernel
theorem dX8_refuseTold_47 : decode cX8_refuseTold 47 = .ok (.getfield 105, 3) := by decide +kernel
theorem dX8_refuseTold_50 : decode cX8_refuseTold 50 = .ok (.iconst 2, 1) := by decide +kernel
theorem dX8_refuseTold_51 : decode cX8_refuseTold 51 = .ok (.irem, 1) := by decide +kernel
theorem dX8_refuseTold_52 : decode cX8_refuseTold 52 = .ok (.ifCond .eq 9, 3) := by decide +kernel
theorem dX8_refuseTold_55 : decode cX8_refuseTold 55 = .ok (.aload_n 0, 1) := by decide +kernel
theorem dX8_refuseTold_56 : decode cX8_refuseTold 56 = .ok (.iconst 5, 1) := by decide +kernel
theorem dX8_refuseTold_57 : decode cX8_refuseTold 57 = .ok (.invokevirtual 101, 3) := by decide +kernel
theorem dX8_refuseTold_60 : decode cX8_refuseTold 60 = .ok (.ireturn, 1) := by decide +kernel
theorem dX8_refuseTold_61 : decode cX8_refuseTold 61 = .ok (.aload_n 0, 1) := by decide +kernel
theorem dX8_refuseTold_62 : decode cX8_refuseTold 62 = .ok (.getfield 11, 3) := by decide +kernel
theorem dX8_refuseTold_65 : decode cX8_refuseTold 65 = .ok (.iload_n 2, 1) := by decide +kernel
theorem dX8_refuseTold_66 : decode cX8_refuseTold 66 = .ok (.aaload, 1) := by decide +kernel
theorem dX8_refuseTold_67 : decode cX8_refuseTold 67 = .ok (.iconst 2, 1) := by decide +kernel
theorem dX8_refuseTold_68 : decode cX8_refuseTold 68 = .ok (.invokevirtual 324, 3) := by decide +kernel
theorem dX8_refuseTold_71 : decode cX8_refuseTold 71 = .ok (.ifCond .eq 7, 3) := by decide +kernel
theorem dX8_refuseTold_74 : decode cX8_refuseTold 74 = .ok (.iconst 0, 1) := by decide +kernel
theorem dX8_refuseTold_75 : decode cX8_refuseTold 75 = .ok (.goto 8, 3) := by decide +kernel
theorem dX8_refuseTold_78 : decode cX8_refuseTold 78 = .ok (.aload_n 0, 1) := by decide +kernel
theorem dX8_refuseTold_79 : decode cX8_refuseTold 79 = .ok (.iconst 3, 1) := by decide +kernel
theorem dX8_refuseTold_80 : decode cX8_refuseTold 80 = .ok (.invokevirtual 101, 3) := by decide +kernel
theorem dX8_refuseTold_83 : decode cX8_refuseTold 83 = .ok (.ireturn, 1) := by decide +kernel
theorem dX8_refuseSlips_0 : decode cX8_refuseSlips 0 = .ok (.iload_n 2, 1) := by decide +kernel
theorem dX8_refuseSlips_1 : decode cX8_refuseSlips 1 = .ok (.invokestatic 171, 3) := by decide +kernel
theorem dX8_refuseSlips_4 : decode cX8_refuseSlips 4 = .ok (.ifCond .eq 25, 3) := by decide +kernel
theorem dX8_refuseSlips_7 : decode cX8_refuseSlips 7 = .ok (.iload_n 3, 1) := by decide +kernel
theorem dX8_refuseSlips_8 : decode cX8_refuseSlips 8 = .ok (.ifCond .lt 21, 3) := by decide +kernel
theorem dX8_refuseSlips_11 : decode cX8_refuseSlips 11 = .ok (.iload_n 3, 1) := by decide +kernel
theorem dX8_refuseSlips_12 : decode cX8_refuseSlips 12 = .ok (.bipush 8, 2) := by decide +kernel
theorem dX8_refuseSlips_14 : decode cX8_refuseSlips 14 = .ok (.if_icmp .gt 15, 3) := by decide +kernel
theorem dX8_refuseSlips_17 : decode cX8_refuseSlips 17 = .ok (.iload 4, 2) := by decide +kernel
theorem dX8_refuseSlips_19 : decode cX8_refuseSlips 19 = .ok (.ifCond .lt 10, 3) := by decide +kernel
theorem dX8_refuseSlips_22 : decode cX8_refuseSlips 22 = .ok (.iload 4, 2) := by decide +kernel
theorem dX8_refuseSlips_24 : decode cX8_refuseSlips 24 = .ok (.bipush 12, 2) := by decide +kernel
theorem dX8_refuseSlips_26 : decode cX8_refuseSlips 26 = .ok (.if_icmp .le 5, 3) := by decide +kernel
theorem dX8_refuseSlips_29 : decode cX8_refuseSlips 29 = .ok (.iconst (-1), 1) := by decide +kernel
theorem dX8_refuseSlips_30 : decode cX8_refuseSlips 30 = .ok (.ireturn, 1) := by decide +kernel
theorem dX8_refuseSlips_31 : decode cX8_refuseSlips 31 = .ok (.aload_n 0, 1) := by decide +kernel
theorem dX8_refuseSlips_32 : decode cX8_refuseSlips 32 = .ok (.iload_n 1, 1) := by decide +kernel
theorem dX8_refuseSlips_33 : decode cX8_refuseSlips 33 = .ok (.invokevirtual 174, 3) := by decide +kernel
theorem dX8_refuseSlips_36 : decode cX8_refuseSlips 36 = .ok (.ireturn, 1) := by decide +kernel
theorem dX8_isRow_0 : decode cX8_isRow 0 = .ok (.iload_n 0, 1) := by decide +kernel
theorem dX8_isRow_1 : decode cX8_isRow 1 = .ok (.ifCond .lt 13, 3) := by decide +kernel
theorem dX8_isRow_4 : decode cX8_isRow 4 = .ok (.iload_n 0, 1) := by decide +kernel
theorem dX8_isRow_5 : decode cX8_isRow 5 = .ok (.bipush 6, 2) := by decide +kernel
theorem dX8_isRow_7 : decode cX8_isRow 7 = .ok (.if_icmp .ge 7, 3) := by decide +kernel
theorem dX8_isRow_10 : decode cX8_isRow 10 = .ok (.iconst 1, 1) := by decide +kernel
theorem dX8_isRow_11 : decode cX8_isRow 11 = .ok (.goto 4, 3) := by decide +kernel
theorem dX8_isRow_14 : decode cX8_isRow 14 = .ok (.iconst 0, 1) := by decide +kernel
theorem dX8_isRow_15 : decode cX8_isRow 15 = .ok (.ireturn, 1) := by decide +kernel
theorem dX8_isText_0 : decode cX8_isText 0 = .ok (.iload_n 0, 1) := by decide +kernel
theorem dX8_isText_1 : decode cX8_isText 1 = .ok (.ifCond .lt 12, 3) := by decide +kernel
theorem dX8_isText_4 : decode cX8_isText 4 = .ok (.iload_n 0, 1) := by decide +kernel
theorem dX8_isText_5 : decode cX8_isText 5 = .ok (.iconst 4, 1) := by decide +kernel
theorem dX8_isText_6 : decode cX8_isText 6 = .ok (.if_icmp .ge 7, 3) := by decide +kernel
theorem dX8_isText_9 : decode cX8_isText 9 = .ok (.iconst 1, 1) := by decide +kernel
theorem dX8_isText_10 : decode cX8_isText 10 = .ok (.goto 4, 3) := by decide +kernel
theorem dX8_isText_13 : decode cX8_isText 13 = .ok (.iconst 0, 1) := by decide +kernel
theorem dX8_isText_14 : decode cX8_isText 14 = .ok (.ireturn, 1) := by decide +kernel
theorem dX8_isKept_0 : decode cX8_isKept 0 = .ok (.iload_n 0, 1) := by decide +kernel
theorem dX8_isKept_1 : decode cX8_isKept 1 = .ok (.ifCond .lt 12, 3) := by decide +kernel
theorem dX8_isKept_4 : decode cX8_isKept 4 = .ok (.iload_n 0, 1) := by decide +kernel
theorem dX8_isKept_5 : decode cX8_isKept 5 = .ok (.iconst 3, 1) := by decide +kernel
theorem dX8_isKept_6 : decode cX8_isKept 6 = .ok (.if_icmp .ge 7, 3) := by decide +kernel
theorem dX8_isKept_9 : decode cX8_isKept 9 = .ok (.iconst 1, 1) := by decide +kernel
theorem dX8_isKept_10 : decode cX8_isKept 10 = .ok (.goto 4, 3) := by decide +kernel
theorem dX8_isKept_13 : decode cX8_isKept 13 = .ok (.iconst 0, 1) := by decide +kernel
theorem dX8_isKept_14 : decode cX8_isKept 14 = .ok (.ireturn, 1) := by decide +kernel
theorem dX8_isPull_0 : decode cX8_isPull 0 = .ok (.iload_n 0, 1) := by decide +kernel
theorem dX8_isPull_1 : decode cX8_isPull 1 = .ok (.ifCond .lt 13, 3) := by decide +kernel
theorem dX8_isPull_4 : decode cX8_isPull 4 = .ok (.iload_n 0, 1) := by decide +kernel
theorem dX8_isPull_5 : decode cX8_isPull 5 = .ok (.bipush 7, 2) := by decide +kernel
theorem dX8_isPull_7 : decode cX8_isPull 7 = .ok (.if_icmp .ge 7, 3) := by decide +kernel
theorem dX8_isPull_10 : decode cX8_isPull 10 = .ok (.iconst 1, 1) := by decide +kernel
theorem dX8_isPull_11 : decode cX8_isPull 11 = .ok (.goto 4, 3) := by decide +kernel
theorem dX8_isPull_14 : decode cX8_isPull 14 = .ok (.iconst 0, 1) := by decide +kernel
theorem dX8_isPull_15 : decode cX8_isPull 15 = .ok (.ireturn, 1) := by decide +kernel
theorem dX8_anew_0 : decode cX8_anew 0 = .ok (.iload_n 2, 1) := by decide +kernel
theorem dX8_anew_1 : decode cX8_anew 1 = .ok (.aload_n 1, 1) := by decide +kernel
theorem dX8_anew_2 : decode cX8_anew 2 = .ok (.getfield 90, 3) := by decide +kernel
theorem dX8_anew_5 : decode cX8_anew 5 = .ok (.arraylength, 1) := by decide +kernel
theorem dX8_anew_6 : decode cX8_anew 6 = .ok (.if_icmp .le 5, 3) := by decide +kernel
theorem dX8_anew_9 : decode cX8_anew 9 = .ok (.iconst (-1), 1) := by decide +kernel
theorem dX8_anew_10 : decode cX8_anew 10 = .ok (.ireturn, 1) := by decide +kernel
theorem dX8_anew_11 : decode cX8_anew 11 = .ok (.iload_n 2, 1) := by decide +kernel
theorem dX8_anew_12 : decode cX8_anew 12 = .ok (.ifCond .ge 9, 3) := by decide +kernel
theorem dX8_anew_15 : decode cX8_anew 15 = .ok (.aload_n 0, 1) := by decide +kernel
theorem dX8_anew_16 : decode cX8_anew 16 = .ok (.iconst 5, 1) := by decide +kernel
theorem dX8_anew_17 : decode cX8_anew 17 = .ok (.invokevirtual 101, 3) := by decide +kernel
theorem dX8_anew_20 : decode cX8_anew 20 = .ok (.ireturn, 1) := by decide +kernel
theorem dX8_anew_21 : decode cX8_anew 21 = .ok (.aload_n 1, 1) := by decide +kernel
theorem dX8_anew_22 : decode cX8_anew 22 = .ok (.iload_n 2, 1) := by decide +kernel
theorem dX8_anew_23 : decode cX8_anew 23 = .ok (.iload_n 3, 1) := by decide +kernel
theorem dX8_anew_24 : decode cX8_anew 24 = .ok (.invokevirtual 374, 3) := by decide +kernel
theorem dX8_anew_27 : decode cX8_anew 27 = .ok (.iload_n 2, 1) := by decide +kernel
theorem dX8_anew_28 : decode cX8_anew 28 = .ok (.ireturn, 1) := by decide +kernel
theorem dX8_tellParts_0 : decode cX8_tellParts 0 = .ok (.lload_n 1, 1) := by decide +kernel
theorem dX8_tellParts_1 : decode cX8_tellParts 1 = .ok (.lload_n 3, 1) := by decide +kernel
theorem dX8_tellParts_2 : decode cX8_tellParts 2 = .ok (.invokestatic 376, 3) := by decide +kernel
theorem dX8_tellParts_5 : decode cX8_tellParts 5 = .ok (.lstore 5, 2) := by decide +kernel
theorem dX8_tellParts_7 : decode cX8_tellParts 7 = .ok (.lload 5, 2) := by decide +kernel
theorem dX8_tellParts_9 : decode cX8_tellParts 9 = .ok (.lconst 0, 1) := by decide +kernel
theorem dX8_tellParts_10 : decode cX8_tellParts 10 = .ok (.lcmp, 1) := by decide +kernel
theorem dX8_tellParts_11 : decode cX8_tellParts 11 = .ok (.ifCond .eq 19, 3) := by decide +kernel
theorem dX8_tellParts_14 : decode cX8_tellParts 14 = .ok (.aload_n 0, 1) := by decide +kernel
theorem dX8_tellParts_15 : decode cX8_tellParts 15 = .ok (.lload_n 1, 1) := by decide +kernel
theorem dX8_tellParts_16 : decode cX8_tellParts 16 = .ok (.lload 5, 2) := by decide +kernel
theorem dX8_tellParts_18 : decode cX8_tellParts 18 = .ok (.ldiv, 1) := by decide +kernel
theorem dX8_tellParts_19 : decode cX8_tellParts 19 = .ok (.putfield 344, 3) := by decide +kernel
theorem dX8_tellParts_22 : decode cX8_tellParts 22 = .ok (.aload_n 0, 1) := by decide +kernel
theorem dX8_tellParts_23 : decode cX8_tellParts 23 = .ok (.lload_n 3, 1) := by decide +kernel
theorem dX8_tellParts_24 : decode cX8_tellParts 24 = .ok (.lload 5, 2) := by decide +kernel
theorem dX8_tellParts_26 : decode cX8_tellParts 26 = .ok (.ldiv, 1) := by decide +kernel
theorem dX8_tellParts_27 : decode cX8_tellParts 27 = .ok (.putfield 71, 3) := by decide +kernel
theorem dX8_tellParts_30 : decode cX8_tellParts 30 = .ok (.iconst 1, 1) := by decide +kernel
theorem dX8_tellParts_31 : decode cX8_tellParts 31 = .ok (.ireturn, 1) := by decide +kernel
theorem dX8_commonDivisor_0 : decode cX8_commonDivisor 0 = .ok (.lload_n 0, 1) := by decide +kernel
theorem dX8_commonDivisor_1 : decode cX8_commonDivisor 1 = .ok (.lstore 4, 2) := by decide +kernel
theorem dX8_commonDivisor_3 : decode cX8_commonDivisor 3 = .ok (.lload_n 2, 1) := by decide +kernel
theorem dX8_commonDivisor_4 : decode cX8_commonDivisor 4 = .ok (.lstore 6, 2) := by decide +kernel
theorem dX8_commonDivisor_6 : decode cX8_commonDivisor 6 = .ok (.iconst 0, 1) := by decide +kernel
theorem dX8_commonDivisor_7 : decode cX8_commonDivisor 7 = .ok (.istore 8, 2) := by decide +kernel
theorem dX8_commonDivisor_9 : decode cX8_commonDivisor 9 = .ok (.iload 8, 2) := by decide +kernel
theorem dX8_commonDivisor_11 : decode cX8_commonDivisor 11 = .ok (.sipush 200, 3) := by decide +kernel
theorem dX8_commonDivisor_14 : decode cX8_commonDivisor 14 = .ok (.if_icmp .ge 31, 3) := by decide +kernel
theorem dX8_commonDivisor_17 : decode cX8_commonDivisor 17 = .ok (.lload 6, 2) := by decide +kernel
theorem dX8_commonDivisor_19 : decode cX8_commonDivisor 19 = .ok (.lconst 0, 1) := by decide +kernel
theorem dX8_commonDivisor_20 : decode cX8_commonDivisor 20 = .ok (.lcmp, 1) := by decide +kernel
theorem dX8_commonDivisor_21 : decode cX8_commonDivisor 21 = .ok (.ifCond .eq 24, 3) := by decide +kernel
theorem dX8_commonDivisor_24 : decode cX8_commonDivisor 24 = .ok (.lload 4, 2) := by decide +kernel
theorem dX8_commonDivisor_26 : decode cX8_commonDivisor 26 = .ok (.lload 6, 2) := by decide +kernel
theorem dX8_commonDivisor_28 : decode cX8_commonDivisor 28 = .ok (.lrem, 1) := by decide +kernel
theorem dX8_commonDivisor_29 : decode cX8_commonDivisor 29 = .ok (.lstore 9, 2) := by decide +kernel
theorem dX8_commonDivisor_31 : decode cX8_commonDivisor 31 = .ok (.lload 6, 2) := by decide +kernel
theorem dX8_commonDivisor_33 : decode cX8_commonDivisor 33 = .ok (.lstore 4, 2) := by decide +kernel
theorem dX8_commonDivisor_35 : decode cX8_commonDivisor 35 = .ok (.lload 9, 2) := by decide +kernel
theorem dX8_commonDivisor_37 : decode cX8_commonDivisor 37 = .ok (.lstore 6, 2) := by decide +kernel
theorem dX8_commonDivisor_39 : decode cX8_commonDivisor 39 = .ok (.iinc 8 1, 3) := by decide +kernel
theorem dX8_commonDivisor_42 : decode cX8_commonDivisor 42 = .ok (.goto (-33), 3) := by decide +kernel
theorem dX8_commonDivisor_45 : decode cX8_commonDivisor 45 = .ok (.lload 4, 2) := by decide +kernel
theorem dX8_commonDivisor_47 : decode cX8_commonDivisor 47 = .ok (.lreturn, 1) := by decide +kernel
theorem dX8_greatestWhole_0 : decode cX8_greatestWhole 0 = .ok (.bipush 6, 2) := by decide +kernel
theorem dX8_greatestWhole_2 : decode cX8_greatestWhole 2 = .ok (.istore_n 2, 1) := by decide +kernel
theorem dX8_greatestWhole_3 : decode cX8_greatestWhole 3 = .ok (.iload_n 2, 1) := by decide +kernel
theorem dX8_greatestWhole_4 : decode cX8_greatestWhole 4 = .ok (.ifCond .le 27, 3) := by decide +kernel
theorem dX8_greatestWhole_7 : decode cX8_greatestWhole 7 = .ok (.aload_n 1, 1) := by decide +kernel
theorem dX8_greatestWhole_8 : decode cX8_greatestWhole 8 = .ok (.getfield 146, 3) := by decide +kernel
theorem dX8_greatestWhole_11 : decode cX8_greatestWhole 11 = .ok (.aload_n 1, 1) := by decide +kernel
theorem dX8_greatestWhole_12 : decode cX8_greatestWhole 12 = .ok (.getfield 156, 3) := by decide +kernel
theorem dX8_greatestWhole_15 : decode cX8_greatestWhole 15 = .ok (.iload_n 2, 1) := by decide +kernel
theorem dX8_greatestWhole_16 : decode cX8_greatestWhole 16 = .ok (.invokestatic 215, 3) := by decide +kernel
theorem dX8_greatestWhole_19 : decode cX8_greatestWhole 19 = .ok (.iconst (-1), 1) := by decide +kernel
theorem dX8_greatestWhole_20 : decode cX8_greatestWhole 20 = .ok (.if_icmp .eq 5, 3) := by decide +kernel
theorem dX8_greatestWhole_23 : decode cX8_greatestWhole 23 = .ok (.iload_n 2, 1) := by decide +kernel
theorem dX8_greatestWhole_24 : decode cX8_greatestWhole 24 = .ok (.ireturn, 1) := by decide +kernel
theorem dX8_greatestWhole_25 : decode cX8_greatestWhole 25 = .ok (.iinc 2 (-1), 3) := by decide +kernel
theorem dX8_greatestWhole_28 : decode cX8_greatestWhole 28 = .ok (.goto (-25), 3) := by decide +kernel
theorem dX8_greatestWhole_31 : decode cX8_greatestWhole 31 = .ok (.iconst 0, 1) := by decide +kernel
theorem dX8_greatestWhole_32 : decode cX8_greatestWhole 32 = .ok (.ireturn, 1) := by decide +kernel
theorem dX8_othersAsHeavy_0 : decode cX8_othersAsHeavy 0 = .ok (.iconst 0, 1) := by decide +kernel
theorem dX8_othersAsHeavy_1 : decode cX8_othersAsHeavy 1 = .ok (.istore_n 2, 1) := by decide +kernel
theorem dX8_othersAsHeavy_2 : decode cX8_othersAsHeavy 2 = .ok (.iconst 0, 1) := by decide +kernel
theorem dX8_othersAsHeavy_3 : decode cX8_othersAsHeavy 3 = .ok (.istore_n 3, 1) := by decide +kernel
theorem dX8_othersAsHeavy_4 : decode cX8_othersAsHeavy 4 = .ok (.iload_n 3, 1) := by decide +kernel
theorem dX8_othersAsHeavy_5 : decode cX8_othersAsHeavy 5 = .ok (.aload_n 0, 1) := by decide +kernel
theorem dX8_othersAsHeavy_6 : decode cX8_othersAsHeavy 6 = .ok (.getfield 25, 3) := by decide +kernel
theorem dX8_othersAsHeavy_9 : decode cX8_othersAsHeavy 9 = .ok (.getfield 135, 3) := by decide +kernel
theorem dX8_othersAsHeavy_12 : decode cX8_othersAsHeavy 12 = .ok (.if_icmp .ge 44, 3) := by decide +kernel
theorem dX8_othersAsHeavy_15 : decode cX8_othersAsHeavy 15 = .ok (.iload_n 3, 1) := by decide +kernel
theorem dX8_othersAsHeavy_16 : decode cX8_othersAsHeavy 16 = .ok (.iload_n 1, 1) := by decide +kernel
theorem dX8_othersAsHeavy_17 : decode cX8_othersAsHeavy 17 = .ok (.if_icmp .eq 33, 3) := by decide +kernel
theorem dX8_othersAsHeavy_20 : decode cX8_othersAsHeavy 20 = .ok (.aload_n 0, 1) := by decide +kernel
theorem dX8_othersAsHeavy_21 : decode cX8_othersAsHeavy 21 = .ok (.getfield 25, 3) := by decide +kernel
theorem dX8_othersAsHeavy_24 : decode cX8_othersAsHeavy 24 = .ok (.getfield 137, 3) := by decide +kernel
theorem dX8_othersAsHeavy_27 : decode cX8_othersAsHeavy 27 = .ok (.iload_n 3, 1) := by decide +kernel
theorem dX8_othersAsHeavy_28 : decode cX8_othersAsHeavy 28 = .ok (.aaload, 1) := by decide +kernel
theorem dX8_othersAsHeavy_29 : decode cX8_othersAsHeavy 29 = .ok (.getfield 317, 3) := by decide +kernel
theorem dX8_othersAsHeavy_32 : decode cX8_othersAsHeavy 32 = .ok (.aload_n 0, 1) := by decide +kernel
theorem dX8_othersAsHeavy_33 : decode cX8_othersAsHeavy 33 = .ok (.getfield 25, 3) := by decide +kernel
theorem dX8_othersAsHeavy_36 : decode cX8_othersAsHeavy 36 = .ok (.getfield 137, 3) := by decide +kernel
theorem dX8_othersAsHeavy_39 : decode cX8_othersAsHeavy 39 = .ok (.iload_n 1, 1) := by decide +kernel
theorem dX8_othersAsHeavy_40 : decode cX8_othersAsHeavy 40 = .ok (.aaload, 1) := by decide +kernel
theorem dX8_othersAsHeavy_41 : decode cX8_othersAsHeavy 41 = .ok (.getfield 317, 3) := by decide +kernel
theorem dX8_othersAsHeavy_44 : decode cX8_othersAsHeavy 44 = .ok (.if_icmp .lt 6, 3) := by decide +kernel
theorem dX8_othersAsHeavy_47 : decode cX8_othersAsHeavy 47 = .ok (.iinc 2 1, 3) := by decide +kernel
theorem dX8_othersAsHeavy_50 : decode cX8_othersAsHeavy 50 = .ok (.iinc 3 1, 3) := by decide +kernel
theorem dX8_othersAsHeavy_53 : decode cX8_othersAsHeavy 53 = .ok (.goto (-49), 3) := by decide +kernel
theorem dX8_othersAsHeavy_56 : decode cX8_othersAsHeavy 56 = .ok (.iload_n 2, 1) := by decide +kernel
theorem dX8_othersAsHeavy_57 : decode cX8_othersAsHeavy 57 = .ok (.ireturn, 1) := by decide +kernel
theorem dX8_othersSooner_0 : decode cX8_othersSooner 0 = .ok (.aload_n 0, 1) := by decide +kernel
theorem dX8_othersSooner_1 : decode cX8_othersSooner 1 = .ok (.getfield 25, 3) := by decide +kernel
theorem dX8_othersSooner_4 : decode cX8_othersSooner 4 = .ok (.iload_n 1, 1) := by decide +kernel
theorem dX8_othersSooner_5 : decode cX8_othersSooner 5 = .ok (.iconst 1, 1) := by decide +kernel
theorem dX8_othersSooner_6 : decode cX8_othersSooner 6 = .ok (.invokevirtual 159, 3) := by decide +kernel
theorem dX8_othersSooner_9 : decode cX8_othersSooner 9 = .ok (.istore_n 2, 1) := by decide +kernel
theorem dX8_othersSooner_10 : decode cX8_othersSooner 10 = .ok (.iload_n 2, 1) := by decide +kernel
theorem dX8_othersSooner_11 : decode cX8_othersSooner 11 = .ok (.bipush (-9), 2) := by decide +kernel
theorem dX8_othersSooner_13 : decode cX8_othersSooner 13 = .ok (.if_icmp .ne 6, 3) := by decide +kernel
theorem dX8_othersSooner_16 : decode cX8_othersSooner 16 = .ok (.bipush (-9), 2) := by decide +kernel
theorem dX8_othersSooner_18 : decode cX8_othersSooner 18 = .ok (.ireturn, 1) := by decide +kernel
theorem dX8_othersSooner_19 : decode cX8_othersSooner 19 = .ok (.iconst 0, 1) := by decide +kernel
theorem dX8_othersSooner_20 : decode cX8_othersSooner 20 = .ok (.istore_n 3, 1) := by decide +kernel
theorem dX8_othersSooner_21 : decode cX8_othersSooner 21 = .ok (.iconst 0, 1) := by decide +kernel
theorem dX8_othersSooner_22 : decode cX8_othersSooner 22 = .ok (.istore 4, 2) := by decide +kernel
theorem dX8_othersSooner_24 : decode cX8_othersSooner 24 = .ok (.iload 4, 2) := by decide +kernel
theorem dX8_othersSooner_26 : decode cX8_othersSooner 26 = .ok (.aload_n 0, 1) := by decide +kernel
theorem dX8_othersSooner_27 : decode cX8_othersSooner 27 = .ok (.getfield 25, 3) := by decide +kernel
theorem dX8_othersSooner_30 : decode cX8_othersSooner 30 = .ok (.getfield 135, 3) := by decide +kernel
theorem dX8_othersSooner_33 : decode cX8_othersSooner 33 = .ok (.if_icmp .ge 37, 3) := by decide +kernel
theorem dX8_othersSooner_36 : decode cX8_othersSooner 36 = .ok (.aload_n 0, 1) := by decide +kernel
theorem dX8_othersSooner_37 : decode cX8_othersSooner 37 = .ok (.getfield 25, 3) := by decide +kernel
theorem dX8_othersSooner_40 : decode cX8_othersSooner 40 = .ok (.iload 4, 2) := by decide +kernel
theorem dX8_othersSooner_42 : decode cX8_othersSooner 42 = .ok (.iconst 1, 1) := by decide +kernel
theorem dX8_othersSooner_43 : decode cX8_othersSooner 43 = .ok (.invokevirtual 159, 3) := by decide +kernel
theorem dX8_othersSooner_46 : decode cX8_othersSooner 46 = .ok (.istore 5, 2) := by decide +kernel
theorem dX8_othersSooner_48 : decode cX8_othersSooner 48 = .ok (.iload 5, 2) := by decide +kernel
theorem dX8_othersSooner_50 : decode cX8_othersSooner 50 = .ok (.bipush (-9), 2) := by decide +kernel
theorem dX8_othersSooner_52 : decode cX8_othersSooner 52 = .ok (.if_icmp .eq 12, 3) := by decide +kernel
theorem dX8_othersSooner_55 : decode cX8_othersSooner 55 = .ok (.iload 5, 2) := by decide +kernel
theorem dX8_othersSooner_57 : decode cX8_othersSooner 57 = .ok (.iload_n 2, 1) := by decide +kernel
theorem dX8_othersSooner_58 : decode cX8_othersSooner 58 = .ok (.if_icmp .ge 6, 3) := by decide +kernel
theorem dX8_othersSooner_61 : decode cX8_othersSooner 61 = .ok (.iinc 3 1, 3) := by decide +kernel
theorem dX8_othersSooner_64 : decode cX8_othersSooner 64 = .ok (.iinc 4 1, 3) := by decide +kernel
theorem dX8_othersSooner_67 : decode cX8_othersSooner 67 = .ok (.goto (-43), 3) := by decide +kernel
theorem dX8_othersSooner_70 : decode cX8_othersSooner 70 = .ok (.iload_n 3, 1) := by decide +kernel
theorem dX8_othersSooner_71 : decode cX8_othersSooner 71 = .ok (.ireturn, 1) := by decide +kernel
theorem dX8_listen_0 : decode cX8_listen 0 = .ok (.aload_n 0, 1) := by decide +kernel
theorem dX8_listen_1 : decode cX8_listen 1 = .ok (.getfield 35, 3) := by decide +kernel
theorem dX8_listen_4 : decode cX8_listen 4 = .ok (.invokevirtual 275, 3) := by decide +kernel
theorem dX8_listen_7 : decode cX8_listen 7 = .ok (.iconst 0, 1) := by decide +kernel
theorem dX8_listen_8 : decode cX8_listen 8 = .ok (.istore_n 2, 1) := by decide +kernel
theorem dX8_listen_9 : decode cX8_listen 9 = .ok (.iload_n 2, 1) := by decide +kernel
theorem dX8_listen_10 : decode cX8_listen 10 = .ok (.aload_n 0, 1) := by decide +kernel
theorem dX8_listen_11 : decode cX8_listen 11 = .ok (.getfield 25, 3) := by decide +kernel
theorem dX8_listen_14 : decode cX8_listen 14 = .ok (.getfield 135, 3) := by decide +kernel
theorem dX8_listen_17 : decode cX8_listen 17 = .ok (.if_icmp .ge 71, 3) := by decide +kernel
theorem dX8_listen_20 : decode cX8_listen 20 = .ok (.iload_n 2, 1) := by decide +kernel
theorem dX8_listen_21 : decode cX8_listen 21 = .ok (.aload_n 1, 1) := by decide +kernel
theorem dX8_listen_22 : decode cX8_listen 22 = .ok (.getfield 105, 3) := by decide +kernel
theorem dX8_listen_25 : decode cX8_listen 25 = .ok (.if_icmp .ge 63, 3) := by decide +kernel
theorem dX8_listen_28 : decode cX8_listen 28 = .ok (.aload_n 0, 1) := by decide +kernel
theorem dX8_listen_29 : decode cX8_listen 29 = .ok (.getfield 25, 3) := by decide +kernel
theorem dX8_listen_32 : decode cX8_listen 32 = .ok (.getfield 137, 3) := by decide +kernel
theorem dX8_listen_35 : decode cX8_listen 35 = .ok (.iload_n 2, 1) := by decide +kernel
theorem dX8_listen_36 : decode cX8_listen 36 = .ok (.aaload, 1) := by decide +kernel
theorem dX8_listen_37 : decode cX8_listen 37 = .ok (.getfield 200, 3) := by decide +kernel
theorem dX8_listen_40 : decode cX8_listen 40 = .ok (.ifCond .eq 8, 3) := by decide +kernel
theorem dX8_listen_43 : decode cX8_listen 43 = .ok (.bipush (-9), 2) := by decide +kernel
theorem dX8_listen_45 : decode cX8_listen 45 = .ok (.goto 17, 3) := by decide +kernel
theorem dX8_listen_48 : decode cX8_listen 48 = .ok (.aload_n 0, 1) := by decide +kernel
theorem dX8_listen_49 : decode cX8_listen 49 = .ok (.getfield 25, 3) := by decide +kernel
theorem dX8_listen_52 : decode cX8_listen 52 = .ok (.iload_n 2, 1) := by decide +kernel
theorem dX8_listen_53 : decode cX8_listen 53 = .ok (.aload_n 1, 1) := by decide +kernel
theorem dX8_listen_54 : decode cX8_listen 54 = .ok (.getfield 90, 3) := by decide +kernel
theorem dX8_listen_57 : decode cX8_listen 57 = .ok (.iload_n 2, 1) := by decide +kernel
theorem dX8_listen_58 : decode cX8_listen 58 = .ok (.iaload, 1) := by decide +kernel
theorem dX8_listen_59 : decode cX8_listen 59 = .ok (.invokevirtual 159, 3) := by decide +kernel
theorem dX8_listen_62 : decode cX8_listen 62 = .ok (.istore_n 3, 1) := by decide +kernel
theorem dX8_listen_63 : decode cX8_listen 63 = .ok (.iload_n 3, 1) := by decide +kernel
theorem dX8_listen_64 : decode cX8_listen 64 = .ok (.bipush (-9), 2) := by decide +kernel
theorem dX8_listen_66 : decode cX8_listen 66 = .ok (.if_icmp .eq 16, 3) := by decide +kernel
theorem dX8_listen_69 : decode cX8_listen 69 = .ok (.aload_n 0, 1) := by decide +kernel
theorem dX8_listen_70 : decode cX8_listen 70 = .ok (.getfield 35, 3) := by decide +kernel
theorem dX8_listen_73 : decode cX8_listen 73 = .ok (.iload_n 2, 1) := by decide +kernel
theorem dX8_listen_74 : decode cX8_listen 74 = .ok (.iconst 2, 1) := by decide +kernel
theorem dX8_listen_75 : decode cX8_listen 75 = .ok (.iload_n 2, 1) := by decide +kernel
theorem dX8_listen_76 : decode cX8_listen 76 = .ok (.imul, 1) := by decide +kernel
theorem dX8_listen_77 : decode cX8_listen 77 = .ok (.iload_n 3, 1) := by decide +kernel
theorem dX8_listen_78 : decode cX8_listen 78 = .ok (.iadd, 1) := by decide +kernel
theorem dX8_listen_79 : decode cX8_listen 79 = .ok (.invokevirtual 380, 3) := by decide +kernel
theorem dX8_listen_82 : decode cX8_listen 82 = .ok (.iinc 2 1, 3) := by decide +kernel
theorem dX8_listen_85 : decode cX8_listen 85 = .ok (.goto (-76), 3) := by decide +kernel
theorem dX8_listen_88 : decode cX8_listen 88 = .ok (.return_, 1) := by decide +kernel
theorem dX8_ringOrder_0 : decode cX8_ringOrder 0 = .ok (.aload_n 0, 1) := by decide +kernel
theorem dX8_ringOrder_1 : decode cX8_ringOrder 1 = .ok (.getfield 35, 3) := by decide +kernel
theorem dX8_ringOrder_4 : decode cX8_ringOrder 4 = .ok (.invokevirtual 275, 3) := by decide +kernel
theorem dX8_ringOrder_7 : decode cX8_ringOrder 7 = .ok (.bipush (-9), 2) := by decide +kernel
theorem dX8_ringOrder_9 : decode cX8_ringOrder 9 = .ok (.istore_n 3, 1) := by decide +kernel
theorem dX8_ringOrder_10 : decode cX8_ringOrder 10 = .ok (.iconst 0, 1) := by decide +kernel
theorem dX8_ringOrder_11 : decode cX8_ringOrder 11 = .ok (.istore 4, 2) := by decide +kernel
theorem dX8_ringOrder_13 : decode cX8_ringOrder 13 = .ok (.iload 4, 2) := by decide +kernel
theorem dX8_ringOrder_15 : decode cX8_ringOrder 15 = .ok (.aload_n 1, 1) := by decide +kernel
theorem dX8_ringOrder_16 : decode cX8_ringOrder 16 = .ok (.getfield 105, 3) := by decide +kernel
theorem dX8_ringOrder_19 : decode cX8_ringOrder 19 = .ok (.if_icmp .ge 88, 3) := by decide +kernel
theorem dX8_ringOrder_22 : decode cX8_ringOrder 22 = .ok (.aload_n 1, 1) := by decide +kernel
theorem dX8_ringOrder_23 : decode cX8_ringOrder 23 = .ok (.getfield 90, 3) := by decide +kernel
theorem dX8_ringOrder_26 : decode cX8_ringOrder 26 = .ok (.iload 4, 2) := by decide +kernel
theorem dX8_ringOrder_28 : decode cX8_ringOrder 28 = .ok (.iaload, 1) := by decide +kernel
theorem dX8_ringOrder_29 : decode cX8_ringOrder 29 = .ok (.istore 5, 2) := by decide +kernel
theorem dX8_ringOrder_31 : decode cX8_ringOrder 31 = .ok (.aload_n 0, 1) := by decide +kernel
theorem dX8_ringOrder_32 : decode cX8_ringOrder 32 = .ok (.getfield 25, 3) := by decide +kernel
theorem dX8_ringOrder_35 : decode cX8_ringOrder 35 = .ok (.iload 5, 2) := by decide +kernel
theorem dX8_ringOrder_37 : decode cX8_ringOrder 37 = .ok (.iload_n 3, 1) := by decide +kernel
theorem dX8_ringOrder_38 : decode cX8_ringOrder 38 = .ok (.invokevirtual 383, 3) := by decide +kernel
theorem dX8_ringOrder_41 : decode cX8_ringOrder 41 = .ok (.istore 6, 2) := by decide +kernel
theorem dX8_ringOrder_43 : decode cX8_ringOrder 43 = .ok (.iload 6, 2) := by decide +kernel
theorem dX8_ringOrder_45 : decode cX8_ringOrder 45 = .ok (.bipush (-9), 2) := by decide +kernel
theorem dX8_ringOrder_47 : decode cX8_ringOrder 47 = .ok (.if_icmp .ne 6, 3) := by decide +kernel
theorem dX8_ringOrder_50 : decode cX8_ringOrder 50 = .ok (.bipush (-9), 2) := by decide +kernel
theorem dX8_ringOrder_52 : decode cX8_ringOrder 52 = .ok (.ireturn, 1) := by decide +kernel
theorem dX8_ringOrder_53 : decode cX8_ringOrder 53 = .ok (.aload_n 0, 1) := by decide +kernel
theorem dX8_ringOrder_54 : decode cX8_ringOrder 54 = .ok (.getfield 25, 3) := by decide +kernel
theorem dX8_ringOrder_57 : decode cX8_ringOrder 57 = .ok (.iload 5, 2) := by decide +kernel
theorem dX8_ringOrder_59 : decode cX8_ringOrder 59 = .ok (.iload 6, 2) := by decide +kernel
theorem dX8_ringOrder_61 : decode cX8_ringOrder 61 = .ok (.invokevirtual 386, 3) := by decide +kernel
theorem dX8_ringOrder_64 : decode cX8_ringOrder 64 = .ok (.istore_n 3, 1) := by decide +kernel
theorem dX8_ringOrder_65 : decode cX8_ringOrder 65 = .ok (.aload_n 0, 1) := by decide +kernel
theorem dX8_ringOrder_66 : decode cX8_ringOrder 66 = .ok (.getfield 35, 3) := by decide +kernel
theorem dX8_ringOrder_69 : decode cX8_ringOrder 69 = .ok (.iload 5, 2) := by decide +kernel
theorem dX8_ringOrder_71 : decode cX8_ringOrder 71 = .ok (.iconst 2, 1) := by decide +kernel
theorem dX8_ringOrder_72 : decode cX8_ringOrder 72 = .ok (.iload 5, 2) := by decide +kernel
theorem dX8_ringOrder_74 : decode cX8_ringOrder 74 = .ok (.imul, 1) := by decide +kernel
theorem dX8_ringOrder_75 : decode cX8_ringOrder 75 = .ok (.aload_n 0, 1) := by decide +kernel
theorem dX8_ringOrder_76 : decode cX8_ringOrder 76 = .ok (.getfield 25, 3) := by decide +kernel
theorem dX8_ringOrder_79 : decode cX8_ringOrder 79 = .ok (.iload 5, 2) := by decide +kernel
theorem dX8_ringOrder_81 : decode cX8_ringOrder 81 = .ok (.iload 6, 2) := by decide +kernel
theorem dX8_ringOrder_83 : decode cX8_ringOrder 83 = .ok (.invokevirtual 159, 3) := by decide +kernel
theorem dX8_ringOrder_86 : decode cX8_ringOrder 86 = .ok (.iadd, 1) := by decide +kernel
theorem dX8_ringOrder_87 : decode cX8_ringOrder 87 = .ok (.invokevirtual 380, 3) := by decide +kernel
theorem dX8_ringOrder_90 : decode cX8_ringOrder 90 = .ok (.aload_n 0, 1) := by decide +kernel
theorem dX8_ringOrder_91 : decode cX8_ringOrder 91 = .ok (.getfield 42, 3) := by decide +kernel
theorem dX8_ringOrder_94 : decode cX8_ringOrder 94 = .ok (.iload 5, 2) := by decide +kernel
theorem dX8_ringOrder_96 : decode cX8_ringOrder 96 = .ok (.iload 6, 2) := by decide +kernel
theorem dX8_ringOrder_98 : decode cX8_ringOrder 98 = .ok (.invokevirtual 389, 3) := by decide +kernel
theorem dX8_ringOrder_101 : decode cX8_ringOrder 101 = .ok (.iinc 4 1, 3) := by decide +kernel
theorem dX8_ringOrder_104 : decode cX8_ringOrder 104 = .ok (.goto (-91), 3) := by decide +kernel
theorem dX8_ringOrder_107 : decode cX8_ringOrder 107 = .ok (.iconst 0, 1) := by decide +kernel
theorem dX8_ringOrder_108 : decode cX8_ringOrder 108 = .ok (.istore 4, 2) := by decide +kernel
theorem dX8_ringOrder_110 : decode cX8_ringOrder 110 = .ok (.iload 4, 2) := by decide +kernel
theorem dX8_ringOrder_112 : decode cX8_ringOrder 112 = .ok (.aload_n 0, 1) := by decide +kernel
theorem dX8_ringOrder_113 : decode cX8_ringOrder 113 = .ok (.getfield 25, 3) := by decide +kernel
theorem dX8_ringOrder_116 : decode cX8_ringOrder 116 = .ok (.getfield 135, 3) := by decide +kernel
theorem dX8_ringOrder_119 : decode cX8_ringOrder 119 = .ok (.if_icmp .ge 35, 3) := by decide +kernel
theorem dX8_ringOrder_122 : decode cX8_ringOrder 122 = .ok (.aload_n 0, 1) := by decide +kernel
theorem dX8_ringOrder_123 : decode cX8_ringOrder 123 = .ok (.getfield 25, 3) := by decide +kernel
theorem dX8_ringOrder_126 : decode cX8_ringOrder 126 = .ok (.getfield 137, 3) := by decide +kernel
theorem dX8_ringOrder_129 : decode cX8_ringOrder 129 = .ok (.iload 4, 2) := by decide +kernel
theorem dX8_ringOrder_131 : decode cX8_ringOrder 131 = .ok (.aaload, 1) := by decide +kernel
theorem dX8_ringOrder_132 : decode cX8_ringOrder 132 = .ok (.getfield 200, 3) := by decide +kernel
theorem dX8_ringOrder_135 : decode cX8_ringOrder 135 = .ok (.ifCond .eq 13, 3) := by decide +kernel
theorem dX8_ringOrder_138 : decode cX8_ringOrder 138 = .ok (.aload_n 0, 1) := by decide +kernel
theorem dX8_ringOrder_139 : decode cX8_ringOrder 139 = .ok (.getfield 42, 3) := by decide +kernel
theorem dX8_ringOrder_142 : decode cX8_ringOrder 142 = .ok (.iload 4, 2) := by decide +kernel
theorem dX8_ringOrder_144 : decode cX8_ringOrder 144 = .ok (.iconst 0, 1) := by decide +kernel
theorem dX8_ringOrder_145 : decode cX8_ringOrder 145 = .ok (.invokevirtual 389, 3) := by decide +kernel
theorem dX8_ringOrder_148 : decode cX8_ringOrder 148 = .ok (.iinc 4 1, 3) := by decide +kernel
theorem dX8_ringOrder_151 : decode cX8_ringOrder 151 = .ok (.goto (-41), 3) := by decide +kernel
theorem dX8_ringOrder_154 : decode cX8_ringOrder 154 = .ok (.aload_n 0, 1) := by decide +kernel
theorem dX8_ringOrder_155 : decode cX8_ringOrder 155 = .ok (.getfield 42, 3) := by decide +kernel
theorem dX8_ringOrder_158 : decode cX8_ringOrder 158 = .ok (.aload_n 0, 1) := by decide +kernel
theorem dX8_ringOrder_159 : decode cX8_ringOrder 159 = .ok (.getfield 25, 3) := by decide +kernel
theorem dX8_ringOrder_162 : decode cX8_ringOrder 162 = .ok (.getfield 135, 3) := by decide +kernel
theorem dX8_ringOrder_165 : decode cX8_ringOrder 165 = .ok (.aload_n 2, 1) := by decide +kernel
theorem dX8_ringOrder_166 : decode cX8_ringOrder 166 = .ok (.invokevirtual 283, 3) := by decide +kernel
theorem dX8_ringOrder_169 : decode cX8_ringOrder 169 = .ok (.aload_n 0, 1) := by decide +kernel
theorem dX8_ringOrder_170 : decode cX8_ringOrder 170 = .ok (.getfield 35, 3) := by decide +kernel
theorem dX8_ringOrder_173 : decode cX8_ringOrder 173 = .ok (.invokevirtual 263, 3) := by decide +kernel
theorem dX8_ringOrder_176 : decode cX8_ringOrder 176 = .ok (.ireturn, 1) := by decide +kernel
theorem dX8_slip_0 : decode cX8_slip 0 = .ok (.aload_n 0, 1) := by decide +kernel
theorem dX8_slip_1 : decode cX8_slip 1 = .ok (.getfield 56, 3) := by decide +kernel
theorem dX8_slip_4 : decode cX8_slip 4 = .ok (.aload_n 1, 1) := by decide +kernel
theorem dX8_slip_5 : decode cX8_slip 5 = .ok (.getfield 156, 3) := by decide +kernel
theorem dX8_slip_8 : decode cX8_slip 8 = .ok (.invokevirtual 230, 3) := by decide +kernel
theorem dX8_slip_11 : decode cX8_slip 11 = .ok (.lconst 1, 1) := by decide +kernel
theorem dX8_slip_12 : decode cX8_slip 12 = .ok (.lstore 5, 2) := by decide +kernel
theorem dX8_slip_14 : decode cX8_slip 14 = .ok (.iconst 0, 1) := by decide +kernel
theorem dX8_slip_15 : decode cX8_slip 15 = .ok (.istore 7, 2) := by decide +kernel
theorem dX8_slip_17 : decode cX8_slip 17 = .ok (.iload 7, 2) := by decide +kernel
theorem dX8_slip_19 : decode cX8_slip 19 = .ok (.iload_n 3, 1) := by decide +kernel
theorem dX8_slip_20 : decode cX8_slip 20 = .ok (.if_icmp .ge 59, 3) := by decide +kernel
theorem dX8_slip_23 : decode cX8_slip 23 = .ok (.aload_n 0, 1) := by decide +kernel
theorem dX8_slip_24 : decode cX8_slip 24 = .ok (.getfield 56, 3) := by decide +kernel
theorem dX8_slip_27 : decode cX8_slip 27 = .ok (.aload_n 1, 1) := by decide +kernel
theorem dX8_slip_28 : decode cX8_slip 28 = .ok (.getfield 146, 3) := by decide +kernel
theorem dX8_slip_31 : decode cX8_slip 31 = .ok (.iload_n 2, 1) := by decide +kernel
theorem dX8_slip_32 : decode cX8_slip 32 = .ok (.bipush 12, 2) := by decide +kernel
theorem dX8_slip_34 : decode cX8_slip 34 = .ok (.iload 4, 2) := by decide +kernel
theorem dX8_slip_36 : decode cX8_slip 36 = .ok (.isub, 1) := by decide +kernel
theorem dX8_slip_37 : decode cX8_slip 37 = .ok (.i2l, 1) := by decide +kernel
theorem dX8_slip_38 : decode cX8_slip 38 = .ok (.invokevirtual 233, 3) := by decide +kernel
theorem dX8_slip_41 : decode cX8_slip 41 = .ok (.aload_n 0, 1) := by decide +kernel
theorem dX8_slip_42 : decode cX8_slip 42 = .ok (.getfield 56, 3) := by decide +kernel
theorem dX8_slip_45 : decode cX8_slip 45 = .ok (.aload_n 1, 1) := by decide +kernel
theorem dX8_slip_46 : decode cX8_slip 46 = .ok (.getfield 146, 3) := by decide +kernel
theorem dX8_slip_49 : decode cX8_slip 49 = .ok (.iload_n 2, 1) := by decide +kernel
theorem dX8_slip_50 : decode cX8_slip 50 = .ok (.iconst 1, 1) := by decide +kernel
theorem dX8_slip_51 : decode cX8_slip 51 = .ok (.iadd, 1) := by decide +kernel
theorem dX8_slip_52 : decode cX8_slip 52 = .ok (.iload 4, 2) := by decide +kernel
theorem dX8_slip_54 : decode cX8_slip 54 = .ok (.i2l, 1) := by decide +kernel
theorem dX8_slip_55 : decode cX8_slip 55 = .ok (.invokevirtual 233, 3) := by decide +kernel
theorem dX8_slip_58 : decode cX8_slip 58 = .ok (.aload_n 0, 1) := by decide +kernel
theorem dX8_slip_59 : decode cX8_slip 59 = .ok (.getfield 56, 3) := by decide +kernel
theorem dX8_slip_62 : decode cX8_slip 62 = .ok (.invokevirtual 237, 3) := by decide +kernel
theorem dX8_slip_65 : decode cX8_slip 65 = .ok (.lload 5, 2) := by decide +kernel
theorem dX8_slip_67 : decode cX8_slip 67 = .ok (.ldc2_w 392, 3) := by decide +kernel
theorem dX8_slip_70 : decode cX8_slip 70 = .ok (.lmul, 1) := by decide +kernel
theorem dX8_slip_71 : decode cX8_slip 71 = .ok (.lstore 5, 2) := by decide +kernel
theorem dX8_slip_73 : decode cX8_slip 73 = .ok (.iinc 7 1, 3) := by decide +kernel
theorem dX8_slip_76 : decode cX8_slip 76 = .ok (.goto (-59), 3) := by decide +kernel
theorem dX8_slip_79 : decode cX8_slip 79 = .ok (.lload 5, 2) := by decide +kernel
theorem dX8_slip_81 : decode cX8_slip 81 = .ok (.lreturn, 1) := by decide +kernel
theorem dX8_fits_0 : decode cX8_fits 0 = .ok (.iload 4, 2) := by decide +kernel
theorem dX8_fits_2 : decode cX8_fits 2 = .ok (.istore 5, 2) := by decide +kernel
theorem dX8_fits_4 : decode cX8_fits 4 = .ok (.iconst 0, 1) := by decide +kernel
theorem dX8_fits_5 : decode cX8_fits 5 = .ok (.istore 6, 2) := by decide +kernel
theorem dX8_fits_7 : decode cX8_fits 7 = .ok (.iload 6, 2) := by decide +kernel
theorem dX8_fits_9 : decode cX8_fits 9 = .ok (.iconst 1, 1) := by decide +kernel
theorem dX8_fits_10 : decode cX8_fits 10 = .ok (.iadd, 1) := by decide +kernel
theorem dX8_fits_11 : decode cX8_fits 11 = .ok (.aload_n 0, 1) := by decide +kernel
theorem dX8_fits_12 : decode cX8_fits 12 = .ok (.getfield 105, 3) := by decide +kernel
theorem dX8_fits_15 : decode cX8_fits 15 = .ok (.if_icmp .ge 52, 3) := by decide +kernel
theorem dX8_fits_18 : decode cX8_fits 18 = .ok (.iload 5, 2) := by decide +kernel
theorem dX8_fits_20 : decode cX8_fits 20 = .ok (.iconst (-1), 1) := by decide +kernel
theorem dX8_fits_21 : decode cX8_fits 21 = .ok (.if_icmp .eq 18, 3) := by decide +kernel
theorem dX8_fits_24 : decode cX8_fits 24 = .ok (.iload_n 1, 1) := by decide +kernel
theorem dX8_fits_25 : decode cX8_fits 25 = .ok (.iload 5, 2) := by decide +kernel
theorem dX8_fits_27 : decode cX8_fits 27 = .ok (.aload_n 0, 1) := by decide +kernel
theorem dX8_fits_28 : decode cX8_fits 28 = .ok (.getfield 90, 3) := by decide +kernel
theorem dX8_fits_31 : decode cX8_fits 31 = .ok (.iload 6, 2) := by decide +kernel
theorem dX8_fits_33 : decode cX8_fits 33 = .ok (.iaload, 1) := by decide +kernel
theorem dX8_fits_34 : decode cX8_fits 34 = .ok (.invokestatic 215, 3) := by decide +kernel
theorem dX8_fits_37 : decode cX8_fits 37 = .ok (.istore 5, 2) := by decide +kernel
theorem dX8_fits_39 : decode cX8_fits 39 = .ok (.iload_n 1, 1) := by decide +kernel
theorem dX8_fits_40 : decode cX8_fits 40 = .ok (.iload_n 2, 1) := by decide +kernel
theorem dX8_fits_41 : decode cX8_fits 41 = .ok (.iload_n 3, 1) := by decide +kernel
theorem dX8_fits_42 : decode cX8_fits 42 = .ok (.iload 5, 2) := by decide +kernel
theorem dX8_fits_44 : decode cX8_fits 44 = .ok (.invokestatic 394, 3) := by decide +kernel
theorem dX8_fits_47 : decode cX8_fits 47 = .ok (.aload_n 0, 1) := by decide +kernel
theorem dX8_fits_48 : decode cX8_fits 48 = .ok (.getfield 90, 3) := by decide +kernel
theorem dX8_fits_51 : decode cX8_fits 51 = .ok (.iload 6, 2) := by decide +kernel
theorem dX8_fits_53 : decode cX8_fits 53 = .ok (.iconst 1, 1) := by decide +kernel
theorem dX8_fits_54 : decode cX8_fits 54 = .ok (.iadd, 1) := by decide +kernel
theorem dX8_fits_55 : decode cX8_fits 55 = .ok (.iaload, 1) := by decide +kernel
theorem dX8_fits_56 : decode cX8_fits 56 = .ok (.if_icmp .eq 5, 3) := by decide +kernel
theorem dX8_fits_59 : decode cX8_fits 59 = .ok (.iconst 0, 1) := by decide +kernel
theorem dX8_fits_60 : decode cX8_fits 60 = .ok (.ireturn, 1) := by decide +kernel
theorem dX8_fits_61 : decode cX8_fits 61 = .ok (.iinc 6 2, 3) := by decide +kernel
theorem dX8_fits_64 : decode cX8_fits 64 = .ok (.goto (-57), 3) := by decide +kernel
theorem dX8_fits_67 : decode cX8_fits 67 = .ok (.iconst 1, 1) := by decide +kernel
theorem dX8_fits_68 : decode cX8_fits 68 = .ok (.ireturn, 1) := by decide +kernel
theorem dX8_thereOf_0 : decode cX8_thereOf 0 = .ok (.iconst 0, 1) := by decide +kernel
theorem dX8_thereOf_1 : decode cX8_thereOf 1 = .ok (.istore_n 1, 1) := by decide +kernel
theorem dX8_thereOf_2 : decode cX8_thereOf 2 = .ok (.iconst 0, 1) := by decide +kernel
theorem dX8_thereOf_3 : decode cX8_thereOf 3 = .ok (.istore_n 2, 1) := by decide +kernel
theorem dX8_thereOf_4 : decode cX8_thereOf 4 = .ok (.iload_n 2, 1) := by decide +kernel
theorem dX8_thereOf_5 : decode cX8_thereOf 5 = .ok (.aload_n 0, 1) := by decide +kernel
theorem dX8_thereOf_6 : decode cX8_thereOf 6 = .ok (.arraylength, 1) := by decide +kernel
theorem dX8_thereOf_7 : decode cX8_thereOf 7 = .ok (.if_icmp .ge 27, 3) := by decide +kernel
theorem dX8_thereOf_10 : decode cX8_thereOf 10 = .ok (.aload_n 0, 1) := by decide +kernel
theorem dX8_thereOf_11 : decode cX8_thereOf 11 = .ok (.iload_n 2, 1) := by decide +kernel
theorem dX8_thereOf_12 : decode cX8_thereOf 12 = .ok (.aaload, 1) := by decide +kernel
theorem dX8_thereOf_13 : decode cX8_thereOf 13 = .ok (.ifnull 15, 3) := by decide +kernel
theorem dX8_thereOf_16 : decode cX8_thereOf 16 = .ok (.aload_n 0, 1) := by decide +kernel
theorem dX8_thereOf_17 : decode cX8_thereOf 17 = .ok (.iload_n 2, 1) := by decide +kernel
theorem dX8_thereOf_18 : decode cX8_thereOf 18 = .ok (.aaload, 1) := by decide +kernel
theorem dX8_thereOf_19 : decode cX8_thereOf 19 = .ok (.getfield 97, 3) := by decide +kernel
theorem dX8_thereOf_22 : decode cX8_thereOf 22 = .ok (.ifCond .eq 6, 3) := by decide +kernel
theorem dX8_thereOf_25 : decode cX8_thereOf 25 = .ok (.iinc 1 1, 3) := by decide +kernel
theorem dX8_thereOf_28 : decode cX8_thereOf 28 = .ok (.iinc 2 1, 3) := by decide +kernel
theorem dX8_thereOf_31 : decode cX8_thereOf 31 = .ok (.goto (-27), 3) := by decide +kernel
theorem dX8_thereOf_34 : decode cX8_thereOf 34 = .ok (.iload_n 1, 1) := by decide +kernel
theorem dX8_thereOf_35 : decode cX8_thereOf 35 = .ok (.ireturn, 1) := by decide +kernel
theorem dX8_keptTowers_0 : decode cX8_keptTowers 0 = .ok (.iconst 0, 1) := by decide +kernel
theorem dX8_keptTowers_1 : decode cX8_keptTowers 1 = .ok (.istore_n 1, 1) := by decide +kernel
theorem dX8_keptTowers_2 : decode cX8_keptTowers 2 = .ok (.iconst 0, 1) := by decide +kernel
theorem dX8_keptTowers_3 : decode cX8_keptTowers 3 = .ok (.istore_n 2, 1) := by decide +kernel
theorem dX8_keptTowers_4 : decode cX8_keptTowers 4 = .ok (.iload_n 2, 1) := by decide +kernel
theorem dX8_keptTowers_5 : decode cX8_keptTowers 5 = .ok (.iconst 3, 1) := by decide +kernel
theorem dX8_keptTowers_6 : decode cX8_keptTowers 6 = .ok (.if_icmp .ge 24, 3) := by decide +kernel
theorem dX8_keptTowers_9 : decode cX8_keptTowers 9 = .ok (.aload_n 0, 1) := by decide +kernel
theorem dX8_keptTowers_10 : decode cX8_keptTowers 10 = .ok (.getfield 20, 3) := by decide +kernel
theorem dX8_keptTowers_13 : decode cX8_keptTowers 13 = .ok (.iload_n 2, 1) := by decide +kernel
theorem dX8_keptTowers_14 : decode cX8_keptTowers 14 = .ok (.aaload, 1) := by decide +kernel
theorem dX8_keptTowers_15 : decode cX8_keptTowers 15 = .ok (.getfield 135, 3) := by decide +kernel
theorem dX8_keptTowers_18 : decode cX8_keptTowers 18 = .ok (.ifCond .le 6, 3) := by decide +kernel
theorem dX8_keptTowers_21 : decode cX8_keptTowers 21 = .ok (.iinc 1 1, 3) := by decide +kernel
theorem dX8_keptTowers_24 : decode cX8_keptTowers 24 = .ok (.iinc 2 1, 3) := by decide +kernel
theorem dX8_keptTowers_27 : decode cX8_keptTowers 27 = .ok (.goto (-23), 3) := by decide +kernel
theorem dX8_keptTowers_30 : decode cX8_keptTowers 30 = .ok (.iload_n 1, 1) := by decide +kernel
theorem dX8_keptTowers_31 : decode cX8_keptTowers 31 = .ok (.ireturn, 1) := by decide +kernel
theorem dX8_scan_0 : decode cX8_scan 0 = .ok (.aload_n 0, 1) := by decide +kernel
theorem dX8_scan_1 : decode cX8_scan 1 = .ok (.getfield 29, 3) := by decide +kernel
theorem dX8_scan_4 : decode cX8_scan 4 = .ok (.invokevirtual 132, 3) := by decide +kernel
theorem dX8_scan_7 : decode cX8_scan 7 = .ok (.aload_n 1, 1) := by decide +kernel
theorem dX8_scan_8 : decode cX8_scan 8 = .ok (.iconst 0, 1) := by decide +kernel
theorem dX8_scan_9 : decode cX8_scan 9 = .ok (.invokevirtual 397, 3) := by decide +kernel
theorem dX8_scan_12 : decode cX8_scan 12 = .ok (.istore_n 2, 1) := by decide +kernel
theorem dX8_scan_13 : decode cX8_scan 13 = .ok (.aload_n 1, 1) := by decide +kernel
theorem dX8_scan_14 : decode cX8_scan 14 = .ok (.iload_n 2, 1) := by decide +kernel
theorem dX8_scan_15 : decode cX8_scan 15 = .ok (.invokevirtual 400, 3) := by decide +kernel
theorem dX8_scan_18 : decode cX8_scan 18 = .ok (.bipush 100, 2) := by decide +kernel
theorem dX8_scan_20 : decode cX8_scan 20 = .ok (.if_icmp .eq 5, 3) := by decide +kernel
theorem dX8_scan_23 : decode cX8_scan 23 = .ok (.iload_n 2, 1) := by decide +kernel
theorem dX8_scan_24 : decode cX8_scan 24 = .ok (.ireturn, 1) := by decide +kernel
theorem dX8_scan_25 : decode cX8_scan 25 = .ok (.aload_n 1, 1) := by decide +kernel
theorem dX8_scan_26 : decode cX8_scan 26 = .ok (.iload_n 2, 1) := by decide +kernel
theorem dX8_scan_27 : decode cX8_scan 27 = .ok (.iconst 1, 1) := by decide +kernel
theorem dX8_scan_28 : decode cX8_scan 28 = .ok (.iadd, 1) := by decide +kernel
theorem dX8_scan_29 : decode cX8_scan 29 = .ok (.iconst 0, 1) := by decide +kernel
theorem dX8_scan_30 : decode cX8_scan 30 = .ok (.iconst 3, 1) := by decide +kernel
theorem dX8_scan_31 : decode cX8_scan 31 = .ok (.invokevirtual 403, 3) := by decide +kernel
theorem dX8_scan_34 : decode cX8_scan 34 = .ok (.ifCond .ne 7, 3) := by decide +kernel
theorem dX8_scan_37 : decode cX8_scan 37 = .ok (.iload_n 2, 1) := by decide +kernel
theorem dX8_scan_38 : decode cX8_scan 38 = .ok (.iconst 1, 1) := by decide +kernel
theorem dX8_scan_39 : decode cX8_scan 39 = .ok (.iadd, 1) := by decide +kernel
theorem dX8_scan_40 : decode cX8_scan 40 = .ok (.ireturn, 1) := by decide +kernel
theorem dX8_scan_41 : decode cX8_scan 41 = .ok (.aload_n 0, 1) := by decide +kernel
theorem dX8_scan_42 : decode cX8_scan 42 = .ok (.getfield 29, 3) := by decide +kernel
theorem dX8_scan_45 : decode cX8_scan 45 = .ok (.aload_n 1, 1) := by decide +kernel
theorem dX8_scan_46 : decode cX8_scan 46 = .ok (.iload_n 2, 1) := by decide +kernel
theorem dX8_scan_47 : decode cX8_scan 47 = .ok (.iconst 1, 1) := by decide +kernel
theorem dX8_scan_48 : decode cX8_scan 48 = .ok (.iadd, 1) := by decide +kernel
theorem dX8_scan_49 : decode cX8_scan 49 = .ok (.invokevirtual 407, 3) := by decide +kernel
theorem dX8_scan_52 : decode cX8_scan 52 = .ok (.putfield 168, 3) := by decide +kernel
theorem dX8_scan_55 : decode cX8_scan 55 = .ok (.aload_n 1, 1) := by decide +kernel
theorem dX8_scan_56 : decode cX8_scan 56 = .ok (.iload_n 2, 1) := by decide +kernel
theorem dX8_scan_57 : decode cX8_scan 57 = .ok (.iconst 2, 1) := by decide +kernel
theorem dX8_scan_58 : decode cX8_scan 58 = .ok (.iadd, 1) := by decide +kernel
theorem dX8_scan_59 : decode cX8_scan 59 = .ok (.invokevirtual 397, 3) := by decide +kernel
theorem dX8_scan_62 : decode cX8_scan 62 = .ok (.istore_n 2, 1) := by decide +kernel
theorem dX8_scan_63 : decode cX8_scan 63 = .ok (.iconst 0, 1) := by decide +kernel
theorem dX8_scan_64 : decode cX8_scan 64 = .ok (.istore_n 3, 1) := by decide +kernel
theorem dX8_scan_65 : decode cX8_scan 65 = .ok (.iload_n 3, 1) := by decide +kernel
theorem dX8_scan_66 : decode cX8_scan 66 = .ok (.bipush 6, 2) := by decide +kernel
theorem dX8_scan_68 : decode cX8_scan 68 = .ok (.if_icmp .gt 104, 3) := by decide +kernel
theorem dX8_scan_71 : decode cX8_scan 71 = .ok (.iload_n 3, 1) := by decide +kernel
theorem dX8_scan_72 : decode cX8_scan 72 = .ok (.ifCond .le 14, 3) := by decide +kernel
theorem dX8_scan_75 : decode cX8_scan 75 = .ok (.iload_n 2, 1) := by decide +kernel
theorem dX8_scan_76 : decode cX8_scan 76 = .ok (.aload_n 1, 1) := by decide +kernel
theorem dX8_scan_77 : decode cX8_scan 77 = .ok (.getfield 105, 3) := by decide +kernel
theorem dX8_scan_80 : decode cX8_scan 80 = .ok (.if_icmp .lt 6, 3) := by decide +kernel
theorem dX8_scan_83 : decode cX8_scan 83 = .ok (.bipush (-9), 2) := by decide +kernel
theorem dX8_scan_85 : decode cX8_scan 85 = .ok (.ireturn, 1) := by decide +kernel
theorem dX8_scan_86 : decode cX8_scan 86 = .ok (.iload_n 3, 1) := by decide +kernel
theorem dX8_scan_87 : decode cX8_scan 87 = .ok (.bipush 6, 2) := by decide +kernel
theorem dX8_scan_89 : decode cX8_scan 89 = .ok (.if_icmp .ge 11, 3) := by decide +kernel
theorem dX8_scan_92 : decode cX8_scan 92 = .ok (.aload_n 1, 1) := by decide +kernel
theorem dX8_scan_93 : decode cX8_scan 93 = .ok (.iload_n 2, 1) := by decide +kernel
theorem dX8_scan_94 : decode cX8_scan 94 = .ok (.invokestatic 410, 3) := by decide +kernel
theorem dX8_scan_97 : decode cX8_scan 97 = .ok (.goto 4, 3) := by decide +kernel
theorem dX8_scan_100 : decode cX8_scan 100 = .ok (.iconst 0, 1) := by decide +kernel
theorem dX8_scan_101 : decode cX8_scan 101 = .ok (.istore 4, 2) := by decide +kernel
theorem dX8_scan_103 : decode cX8_scan 103 = .ok (.iload 4, 2) := by decide +kernel
theorem dX8_scan_105 : decode cX8_scan 105 = .ok (.iconst 4, 1) := by decide +kernel
theorem dX8_scan_106 : decode cX8_scan 106 = .ok (.if_icmp .ge 8, 3) := by decide +kernel
theorem dX8_scan_109 : decode cX8_scan 109 = .ok (.iload_n 2, 1) := by decide +kernel
theorem dX8_scan_110 : decode cX8_scan 110 = .ok (.iload 4, 2) := by decide +kernel
theorem dX8_scan_112 : decode cX8_scan 112 = .ok (.iadd, 1) := by decide +kernel
theorem dX8_scan_113 : decode cX8_scan 113 = .ok (.ireturn, 1) := by decide +kernel
theorem dX8_scan_114 : decode cX8_scan 114 = .ok (.bipush 10, 2) := by decide +kernel
theorem dX8_scan_116 : decode cX8_scan 116 = .ok (.aload_n 1, 1) := by decide +kernel
theorem dX8_scan_117 : decode cX8_scan 117 = .ok (.iload_n 2, 1) := by decide +kernel
theorem dX8_scan_118 : decode cX8_scan 118 = .ok (.iconst 2, 1) := by decide +kernel
theorem dX8_scan_119 : decode cX8_scan 119 = .ok (.iadd, 1) := by decide +kernel
theorem dX8_scan_120 : decode cX8_scan 120 = .ok (.invokevirtual 407, 3) := by decide +kernel
theorem dX8_scan_123 : decode cX8_scan 123 = .ok (.imul, 1) := by decide +kernel
theorem dX8_scan_124 : decode cX8_scan 124 = .ok (.aload_n 1, 1) := by decide +kernel
theorem dX8_scan_125 : decode cX8_scan 125 = .ok (.iload_n 2, 1) := by decide +kernel
theorem dX8_scan_126 : decode cX8_scan 126 = .ok (.iconst 3, 1) := by decide +kernel
theorem dX8_scan_127 : decode cX8_scan 127 = .ok (.iadd, 1) := by decide +kernel
theorem dX8_scan_128 : decode cX8_scan 128 = .ok (.invokevirtual 407, 3) := by decide +kernel
theorem dX8_scan_131 : decode cX8_scan 131 = .ok (.iadd, 1) := by decide +kernel
theorem dX8_scan_132 : decode cX8_scan 132 = .ok (.istore 5, 2) := by decide +kernel
theorem dX8_scan_134 : decode cX8_scan 134 = .ok (.aload_n 0, 1) := by decide +kernel
theorem dX8_scan_135 : decode cX8_scan 135 = .ok (.getfield 29, 3) := by decide +kernel
theorem dX8_scan_138 : decode cX8_scan 138 = .ok (.aload_n 1, 1) := by decide +kernel
theorem dX8_scan_139 : decode cX8_scan 139 = .ok (.iload_n 2, 1) := by decide +kernel
theorem dX8_scan_140 : decode cX8_scan 140 = .ok (.invokevirtual 400, 3) := by decide +kernel
theorem dX8_scan_143 : decode cX8_scan 143 = .ok (.invokestatic 414, 3) := by decide +kernel
theorem dX8_scan_146 : decode cX8_scan 146 = .ok (.aload_n 1, 1) := by decide +kernel
theorem dX8_scan_147 : decode cX8_scan 147 = .ok (.iload_n 2, 1) := by decide +kernel
theorem dX8_scan_148 : decode cX8_scan 148 = .ok (.iconst 1, 1) := by decide +kernel
theorem dX8_scan_149 : decode cX8_scan 149 = .ok (.iadd, 1) := by decide +kernel
theorem dX8_scan_150 : decode cX8_scan 150 = .ok (.invokevirtual 407, 3) := by decide +kernel
theorem dX8_scan_153 : decode cX8_scan 153 = .ok (.iload 5, 2) := by decide +kernel
theorem dX8_scan_155 : decode cX8_scan 155 = .ok (.invokevirtual 417, 3) := by decide +kernel
theorem dX8_scan_158 : decode cX8_scan 158 = .ok (.aload_n 1, 1) := by decide +kernel
theorem dX8_scan_159 : decode cX8_scan 159 = .ok (.iload_n 2, 1) := by decide +kernel
theorem dX8_scan_160 : decode cX8_scan 160 = .ok (.iconst 4, 1) := by decide +kernel
theorem dX8_scan_161 : decode cX8_scan 161 = .ok (.iadd, 1) := by decide +kernel
theorem dX8_scan_162 : decode cX8_scan 162 = .ok (.invokevirtual 397, 3) := by decide +kernel
theorem dX8_scan_165 : decode cX8_scan 165 = .ok (.istore_n 2, 1) := by decide +kernel
theorem dX8_scan_166 : decode cX8_scan 166 = .ok (.iinc 3 1, 3) := by decide +kernel
theorem dX8_scan_169 : decode cX8_scan 169 = .ok (.goto (-104), 3) := by decide +kernel
theorem dX8_scan_172 : decode cX8_scan 172 = .ok (.iload_n 2, 1) := by decide +kernel
theorem dX8_scan_173 : decode cX8_scan 173 = .ok (.ireturn, 1) := by decide +kernel
theorem dX8_itemSigns_0 : decode cX8_itemSigns 0 = .ok (.aload_n 0, 1) := by decide +kernel
theorem dX8_itemSigns_1 : decode cX8_itemSigns 1 = .ok (.iload_n 1, 1) := by decide +kernel
theorem dX8_itemSigns_2 : decode cX8_itemSigns 2 = .ok (.invokevirtual 400, 3) := by decide +kernel
theorem dX8_itemSigns_5 : decode cX8_itemSigns 5 = .ok (.invokestatic 414, 3) := by decide +kernel
theorem dX8_itemSigns_8 : decode cX8_itemSigns 8 = .ok (.bipush (-9), 2) := by decide +kernel
theorem dX8_itemSigns_10 : decode cX8_itemSigns 10 = .ok (.if_icmp .ne 5, 3) := by decide +kernel
theorem dX8_itemSigns_13 : decode cX8_itemSigns 13 = .ok (.iconst 0, 1) := by decide +kernel
theorem dX8_itemSigns_14 : decode cX8_itemSigns 14 = .ok (.ireturn, 1) := by decide +kernel
theorem dX8_itemSigns_15 : decode cX8_itemSigns 15 = .ok (.aload_n 0, 1) := by decide +kernel
theorem dX8_itemSigns_16 : decode cX8_itemSigns 16 = .ok (.iload_n 1, 1) := by decide +kernel
theorem dX8_itemSigns_17 : decode cX8_itemSigns 17 = .ok (.iconst 1, 1) := by decide +kernel
theorem dX8_itemSigns_18 : decode cX8_itemSigns 18 = .ok (.iadd, 1) := by decide +kernel
theorem dX8_itemSigns_19 : decode cX8_itemSigns 19 = .ok (.iconst 1, 1) := by decide +kernel
theorem dX8_itemSigns_20 : decode cX8_itemSigns 20 = .ok (.bipush 9, 2) := by decide +kernel
theorem dX8_itemSigns_22 : decode cX8_itemSigns 22 = .ok (.invokevirtual 403, 3) := by decide +kernel
theorem dX8_itemSigns_25 : decode cX8_itemSigns 25 = .ok (.ifCond .ne 5, 3) := by decide +kernel
theorem dX8_itemSigns_28 : decode cX8_itemSigns 28 = .ok (.iconst 1, 1) := by decide +kernel
theorem dX8_itemSigns_29 : decode cX8_itemSigns 29 = .ok (.ireturn, 1) := by decide +kernel
theorem dX8_itemSigns_30 : decode cX8_itemSigns 30 = .ok (.aload_n 0, 1) := by decide +kernel
theorem dX8_itemSigns_31 : decode cX8_itemSigns 31 = .ok (.iload_n 1, 1) := by decide +kernel
theorem dX8_itemSigns_32 : decode cX8_itemSigns 32 = .ok (.iconst 2, 1) := by decide +kernel
theorem dX8_itemSigns_33 : decode cX8_itemSigns 33 = .ok (.iadd, 1) := by decide +kernel
theorem dX8_itemSigns_34 : decode cX8_itemSigns 34 = .ok (.iconst 0, 1) := by decide +kernel
theorem dX8_itemSigns_35 : decode cX8_itemSigns 35 = .ok (.iconst 2, 1) := by decide +kernel
theorem dX8_itemSigns_36 : decode cX8_itemSigns 36 = .ok (.invokevirtual 403, 3) := by decide +kernel
theorem dX8_itemSigns_39 : decode cX8_itemSigns 39 = .ok (.ifCond .ne 5, 3) := by decide +kernel
theorem dX8_itemSigns_42 : decode cX8_itemSigns 42 = .ok (.iconst 2, 1) := by decide +kernel
theorem dX8_itemSigns_43 : decode cX8_itemSigns 43 = .ok (.ireturn, 1) := by decide +kernel
theorem dX8_itemSigns_44 : decode cX8_itemSigns 44 = .ok (.aload_n 0, 1) := by decide +kernel
theorem dX8_itemSigns_45 : decode cX8_itemSigns 45 = .ok (.iload_n 1, 1) := by decide +kernel
theorem dX8_itemSigns_46 : decode cX8_itemSigns 46 = .ok (.iconst 3, 1) := by decide +kernel
theorem dX8_itemSigns_47 : decode cX8_itemSigns 47 = .ok (.iadd, 1) := by decide +kernel
theorem dX8_itemSigns_48 : decode cX8_itemSigns 48 = .ok (.iconst 0, 1) := by decide +kernel
theorem dX8_itemSigns_49 : decode cX8_itemSigns 49 = .ok (.bipush 9, 2) := by decide +kernel
theorem dX8_itemSigns_51 : decode cX8_itemSigns 51 = .ok (.bipush 20, 2) := by decide +kernel
theorem dX8_itemSigns_53 : decode cX8_itemSigns 53 = .ok (.bipush 10, 2) := by decide +kernel
theorem dX8_itemSigns_55 : decode cX8_itemSigns 55 = .ok (.aload_n 0, 1) := by decide +kernel
theorem dX8_itemSigns_56 : decode cX8_itemSigns 56 = .ok (.iload_n 1, 1) := by decide +kernel
theorem dX8_itemSigns_57 : decode cX8_itemSigns 57 = .ok (.iconst 2, 1) := by decide +kernel
theorem dX8_itemSigns_58 : decode cX8_itemSigns 58 = .ok (.iadd, 1) := by decide +kernel
theorem dX8_itemSigns_59 : decode cX8_itemSigns 59 = .ok (.invokevirtual 407, 3) := by decide +kernel
theorem dX8_itemSigns_62 : decode cX8_itemSigns 62 = .ok (.imul, 1) := by decide +kernel
theorem dX8_itemSigns_63 : decode cX8_itemSigns 63 = .ok (.isub, 1) := by decide +kernel
theorem dX8_itemSigns_64 : decode cX8_itemSigns 64 = .ok (.invokestatic 420, 3) := by decide +kernel
theorem dX8_itemSigns_67 : decode cX8_itemSigns 67 = .ok (.invokevirtual 403, 3) := by decide +kernel
theorem dX8_itemSigns_70 : decode cX8_itemSigns 70 = .ok (.ifCond .eq 7, 3) := by decide +kernel
theorem dX8_itemSigns_73 : decode cX8_itemSigns 73 = .ok (.iconst 4, 1) := by decide +kernel
theorem dX8_itemSigns_74 : decode cX8_itemSigns 74 = .ok (.goto 4, 3) := by decide +kernel
theorem dX8_itemSigns_77 : decode cX8_itemSigns 77 = .ok (.iconst 3, 1) := by decide +kernel
theorem dX8_itemSigns_78 : decode cX8_itemSigns 78 = .ok (.ireturn, 1) := by decide +kernel
theorem dX8_kindOf_0 : decode cX8_kindOf 0 = .ok (.iload_n 0, 1) := by decide +kernel
theorem dX8_kindOf_1 : decode cX8_kindOf 1 = .ok (.tableswitch 103 98 116 #[91, 103, 103, 103, 103, 99, 93, 103, 103, 103, 103, 103, 97, 103, 103, 95, 103, 103, 101], 91) := by decide +kernel
theorem dX8_kindOf_92 : decode cX8_kindOf 92 = .ok (.iconst 0, 1) := by decide +kernel
theorem dX8_kindOf_93 : decode cX8_kindOf 93 = .ok (.ireturn, 1) := by decide +kernel
theorem dX8_kindOf_94 : decode cX8_kindOf 94 = .ok (.iconst 1, 1) := by decide +kernel
theorem dX8_kindOf_95 : decode cX8_kindOf 95 = .ok (.ireturn, 1) := by decide +kernel
theorem dX8_kindOf_96 : decode cX8_kindOf 96 = .ok (.iconst 2, 1) := by decide +kernel
theorem dX8_kindOf_97 : decode cX8_kindOf 97 = .ok (.ireturn, 1) := by decide +kernel
theorem dX8_kindOf_98 : decode cX8_kindOf 98 = .ok (.iconst 3, 1) := by decide +kernel
theorem dX8_kindOf_99 : decode cX8_kindOf 99 = .ok (.ireturn, 1) := by decide +kernel
theorem dX8_kindOf_100 : decode cX8_kindOf 100 = .ok (.iconst 4, 1) := by decide +kernel
theorem dX8_kindOf_101 : decode cX8_kindOf 101 = .ok (.ireturn, 1) := by decide +kernel
theorem dX8_kindOf_102 : decode cX8_kindOf 102 = .ok (.iconst 5, 1) := by decide +kernel
theorem dX8_kindOf_103 : decode cX8_kindOf 103 = .ok (.ireturn, 1) := by decide +kernel
theorem dX8_kindOf_104 : decode cX8_kindOf 104 = .ok (.bipush (-9), 2) := by decide +kernel
theorem dX8_kindOf_106 : decode cX8_kindOf 106 = .ok (.ireturn, 1) := by decide +kernel
theorem dX8_isOf_0 : decode cX8_isOf 0 = .ok (.iload_n 0, 1) := by decide +kernel
theorem dX8_isOf_1 : decode cX8_isOf 1 = .ok (.iload_n 1, 1) := by decide +kernel
theorem dX8_isOf_2 : decode cX8_isOf 2 = .ok (.if_icmp .eq 27, 3) := by decide +kernel
theorem dX8_isOf_5 : decode cX8_isOf 5 = .ok (.iload_n 1, 1) := by decide +kernel
theorem dX8_isOf_6 : decode cX8_isOf 6 = .ok (.ifCond .eq 23, 3) := by decide +kernel
theorem dX8_isOf_9 : decode cX8_isOf 9 = .ok (.iload_n 0, 1) := by decide +kernel
theorem dX8_isOf_10 : decode cX8_isOf 10 = .ok (.iconst 4, 1) := by decide +kernel
theorem dX8_isOf_11 : decode cX8_isOf 11 = .ok (.if_icmp .ne 8, 3) := by decide +kernel
theorem dX8_isOf_14 : decode cX8_isOf 14 = .ok (.iload_n 1, 1) := by decide +kernel
theorem dX8_isOf_15 : decode cX8_isOf 15 = .ok (.iconst 1, 1) := by decide +kernel
theorem dX8_isOf_16 : decode cX8_isOf 16 = .ok (.if_icmp .eq 13, 3) := by decide +kernel
theorem dX8_isOf_19 : decode cX8_isOf 19 = .ok (.iload_n 0, 1) := by decide +kernel
theorem dX8_isOf_20 : decode cX8_isOf 20 = .ok (.iconst 5, 1) := by decide +kernel
theorem dX8_isOf_21 : decode cX8_isOf 21 = .ok (.if_icmp .ne 12, 3) := by decide +kernel
theorem dX8_isOf_24 : decode cX8_isOf 24 = .ok (.iload_n 1, 1) := by decide +kernel
theorem dX8_isOf_25 : decode cX8_isOf 25 = .ok (.iconst 2, 1) := by decide +kernel
theorem dX8_isOf_26 : decode cX8_isOf 26 = .ok (.if_icmp .ne 7, 3) := by decide +kernel
theorem dX8_isOf_29 : decode cX8_isOf 29 = .ok (.iconst 1, 1) := by decide +kernel
theorem dX8_isOf_30 : decode cX8_isOf 30 = .ok (.goto 4, 3) := by decide +kernel
theorem dX8_isOf_33 : decode cX8_isOf 33 = .ok (.iconst 0, 1) := by decide +kernel
theorem dX8_isOf_34 : decode cX8_isOf 34 = .ok (.ireturn, 1) := by decide +kernel
theorem dX8_after_0 : decode cX8_after 0 = .ok (.iload_n 0, 1) := by decide +kernel
theorem dX8_after_1 : decode cX8_after 1 = .ok (.iconst 1, 1) := by decide +kernel
theorem dX8_after_2 : decode cX8_after 2 = .ok (.invokestatic 149, 3) := by decide +kernel
theorem dX8_after_5 : decode cX8_after 5 = .ok (.ifCond .eq 9, 3) := by decide +kernel
theorem dX8_after_8 : decode cX8_after 8 = .ok (.iload_n 2, 1) := by decide +kernel
theorem dX8_after_9 : decode cX8_after 9 = .ok (.iconst 2, 1) := by decide +kernel
theorem dX8_after_10 : decode cX8_after 10 = .ok (.idiv, 1) := by decide +kernel
theorem dX8_after_11 : decode cX8_after 11 = .ok (.goto 4, 3) := by decide +kernel
theorem dX8_after_14 : decode cX8_after 14 = .ok (.iload_n 2, 1) := by decide +kernel
theorem dX8_after_15 : decode cX8_after 15 = .ok (.istore_n 3, 1) := by decide +kernel
theorem dX8_after_16 : decode cX8_after 16 = .ok (.iload_n 0, 1) := by decide +kernel
theorem dX8_after_17 : decode cX8_after 17 = .ok (.iconst 2, 1) := by decide +kernel
theorem dX8_after_18 : decode cX8_after 18 = .ok (.invokestatic 149, 3) := by decide +kernel
theorem dX8_after_21 : decode cX8_after 21 = .ok (.ifCond .eq 7, 3) := by decide +kernel
theorem dX8_after_24 : decode cX8_after 24 = .ok (.iconst 0, 1) := by decide +kernel
theorem dX8_after_25 : decode cX8_after 25 = .ok (.goto 4, 3) := by decide +kernel
theorem dX8_after_28 : decode cX8_after 28 = .ok (.iconst 1, 1) := by decide +kernel
theorem dX8_after_29 : decode cX8_after 29 = .ok (.istore 4, 2) := by decide +kernel
theorem dX8_after_31 : decode cX8_after 31 = .ok (.iconst 0, 1) := by decide +kernel
theorem dX8_after_32 : decode cX8_after 32 = .ok (.iload_n 1, 1) := by decide +kernel
theorem dX8_after_33 : decode cX8_after 33 = .ok (.iload_n 3, 1) := by decide +kernel
theorem dX8_after_34 : decode cX8_after 34 = .ok (.iadd, 1) := by decide +kernel
theorem dX8_after_35 : decode cX8_after 35 = .ok (.iload 4, 2) := by decide +kernel
theorem dX8_after_37 : decode cX8_after 37 = .ok (.isub, 1) := by decide +kernel
theorem dX8_after_38 : decode cX8_after 38 = .ok (.invokestatic 423, 3) := by decide +kernel
theorem dX8_after_41 : decode cX8_after 41 = .ok (.istore 5, 2) := by decide +kernel
theorem dX8_after_43 : decode cX8_after 43 = .ok (.iload 5, 2) := by decide +kernel
theorem dX8_after_45 : decode cX8_after 45 = .ok (.bipush 22, 2) := by decide +kernel
theorem dX8_after_47 : decode cX8_after 47 = .ok (.if_icmp .lt 7, 3) := by decide +kernel
theorem dX8_after_50 : decode cX8_after 50 = .ok (.iconst (-1), 1) := by decide +kernel
theorem dX8_after_51 : decode cX8_after 51 = .ok (.goto 10, 3) := by decide +kernel
theorem dX8_after_54 : decode cX8_after 54 = .ok (.iload 5, 2) := by decide +kernel
theorem dX8_after_56 : decode cX8_after 56 = .ok (.bipush 20, 2) := by decide +kernel
theorem dX8_after_58 : decode cX8_after 58 = .ok (.invokestatic 420, 3) := by decide +kernel
theorem dX8_after_61 : decode cX8_after 61 = .ok (.ireturn, 1) := by decide +kernel
theorem dX8_tenths_0 : decode cX8_tenths 0 = .ok (.iload_n 3, 1) := by decide +kernel
theorem dX8_tenths_1 : decode cX8_tenths 1 = .ok (.iconst 5, 1) := by decide +kernel
theorem dX8_tenths_2 : decode cX8_tenths 2 = .ok (.if_icmp .ge 6, 3) := by decide +kernel
theorem dX8_tenths_5 : decode cX8_tenths 5 = .ok (.bipush (-9), 2) := by decide +kernel
theorem dX8_tenths_7 : decode cX8_tenths 7 = .ok (.ireturn, 1) := by decide +kernel
theorem dX8_tenths_8 : decode cX8_tenths 8 = .ok (.bipush 10, 2) := by decide +kernel
theorem dX8_tenths_10 : decode cX8_tenths 10 = .ok (.iload_n 3, 1) := by decide +kernel
theorem dX8_tenths_11 : decode cX8_tenths 11 = .ok (.iconst 2, 1) := by decide +kernel
theorem dX8_tenths_12 : decode cX8_tenths 12 = .ok (.idiv, 1) := by decide +kernel
theorem dX8_tenths_13 : decode cX8_tenths 13 = .ok (.iadd, 1) := by decide +kernel
theorem dX8_tenths_14 : decode cX8_tenths 14 = .ok (.iload_n 1, 1) := by decide +kernel
theorem dX8_tenths_15 : decode cX8_tenths 15 = .ok (.iconst 3, 1) := by decide +kernel
theorem dX8_tenths_16 : decode cX8_tenths 16 = .ok (.idiv, 1) := by decide +kernel
theorem dX8_tenths_17 : decode cX8_tenths 17 = .ok (.iadd, 1) := by decide +kernel
theorem dX8_tenths_18 : decode cX8_tenths 18 = .ok (.iload_n 2, 1) := by decide +kernel
theorem dX8_tenths_19 : decode cX8_tenths 19 = .ok (.isub, 1) := by decide +kernel
theorem dX8_tenths_20 : decode cX8_tenths 20 = .ok (.iload_n 0, 1) := by decide +kernel
theorem dX8_tenths_21 : decode cX8_tenths 21 = .ok (.invokestatic 426, 3) := by decide +kernel
theorem dX8_tenths_24 : decode cX8_tenths 24 = .ok (.iadd, 1) := by decide +kernel
theorem dX8_tenths_25 : decode cX8_tenths 25 = .ok (.ireturn, 1) := by decide +kernel
theorem dX8_lag_0 : decode cX8_lag 0 = .ok (.iload_n 0, 1) := by decide +kernel
theorem dX8_lag_1 : decode cX8_lag 1 = .ok (.tableswitch 33 3 5 #[27, 29, 31], 27) := by decide +kernel
theorem dX8_lag_28 : decode cX8_lag 28 = .ok (.iconst 1, 1) := by decide +kernel
theorem dX8_lag_29 : decode cX8_lag 29 = .ok (.ireturn, 1) := by decide +kernel
theorem dX8_lag_30 : decode cX8_lag 30 = .ok (.iconst 2, 1) := by decide +kernel
theorem dX8_lag_31 : decode cX8_lag 31 = .ok (.ireturn, 1) := by decide +kernel
theorem dX8_lag_32 : decode cX8_lag 32 = .ok (.iconst (-1), 1) := by decide +kernel
theorem dX8_lag_33 : decode cX8_lag 33 = .ok (.ireturn, 1) := by decide +kernel
theorem dX8_lag_34 : decode cX8_lag 34 = .ok (.iconst 0, 1) := by decide +kernel
theorem dX8_lag_35 : decode cX8_lag 35 = .ok (.ireturn, 1) := by decide +kernel
theorem dX9_init_0 : decode cX9_init 0 = .ok (.aload_n 0, 1) := by decide +kernel
theorem dX9_init_1 : decode cX9_init 1 = .ok (.invokespecial 1, 3) := by decide +kernel
theorem dX9_init_4 : decode cX9_init 4 = .ok (.aload_n 0, 1) := by decide +kernel
theorem dX9_init_5 : decode cX9_init 5 = .ok (.sipush 5280, 3) := by decide +kernel
theorem dX9_init_8 : decode cX9_init 8 = .ok (.newarray .int, 2) := by decide +kernel
theorem dX9_init_10 : decode cX9_init 10 = .ok (.putfield 7, 3) := by decide +kernel
theorem dX9_init_13 : decode cX9_init 13 = .ok (.aload_n 0, 1) := by decide +kernel
theorem dX9_init_14 : decode cX9_init 14 = .ok (.iconst 3, 1) := by decide +kernel
theorem dX9_init_15 : decode cX9_init 15 = .ok (.newarray .int, 2) := by decide +kernel
theorem dX9_init_17 : decode cX9_init 17 = .ok (.putfield 13, 3) := by decide +kernel
theorem dX9_init_20 : decode cX9_init 20 = .ok (.aload_n 0, 1) := by decide +kernel
theorem dX9_init_21 : decode cX9_init 21 = .ok (.sipush 240, 3) := by decide +kernel
theorem dX9_init_24 : decode cX9_init 24 = .ok (.newarray .int, 2) := by decide +kernel
theorem dX9_init_26 : decode cX9_init 26 = .ok (.putfield 16, 3) := by decide +kernel
theorem dX9_init_29 : decode cX9_init 29 = .ok (.aload_n 0, 1) := by decide +kernel
theorem dX9_init_30 : decode cX9_init 30 = .ok (.bipush 6, 2) := by decide +kernel
theorem dX9_init_32 : decode cX9_init 32 = .ok (.newarray .int, 2) := by decide +kernel
theorem dX9_init_34 : decode cX9_init 34 = .ok (.putfield 19, 3) := by decide +kernel
theorem dX9_init_37 : decode cX9_init 37 = .ok (.aload_n 0, 1) := by decide +kernel
theorem dX9_init_38 : decode cX9_init 38 = .ok (.sipush 240, 3) := by decide +kernel
theorem dX9_init_41 : decode cX9_init 41 = .ok (.newarray .int, 2) := by decide +kernel
theorem dX9_init_43 : decode cX9_init 43 = .ok (.putfield 22, 3) := by decide +kernel
theorem dX9_init_46 : decode cX9_init 46 = .ok (.aload_n 0, 1) := by decide +kernel
theorem dX9_init_47 : decode cX9_init 47 = .ok (.iconst 4, 1) := by decide +kernel
theorem dX9_init_48 : decode cX9_init 48 = .ok (.newarray .int, 2) := by decide +kernel
theorem dX9_init_50 : decode cX9_init 50 = .ok (.putfield 25, 3) := by decide +kernel
theorem dX9_init_53 : decode cX9_init 53 = .ok (.aload_n 0, 1) := by decide +kernel
theorem dX9_init_54 : decode cX9_init 54 = .ok (.bipush 40, 2) := by decide +kernel
theorem dX9_init_56 : decode cX9_init 56 = .ok (.newarray .int, 2) := by decide +kernel
theorem dX9_init_58 : decode cX9_init 58 = .ok (.putfield 28, 3) := by decide +kernel
theorem dX9_init_61 : decode cX9_init 61 = .ok (.aload_n 0, 1) := by decide +kernel
theorem dX9_init_62 : decode cX9_init 62 = .ok (.bipush 6, 2) := by decide +kernel
theorem dX9_init_64 : decode cX9_init 64 = .ok (.newarray .int, 2) := by decide +kernel
theorem dX9_init_66 : decode cX9_init 66 = .ok (.putfield 31, 3) := by decide +kernel
theorem dX9_init_69 : decode cX9_init 69 = .ok (.aload_n 0, 1) := by decide +kernel
theorem dX9_init_70 : decode cX9_init 70 = .ok (.lconst 1, 1) := by decide +kernel
theorem dX9_init_71 : decode cX9_init 71 = .ok (.putfield 34, 3) := by decide +kernel
theorem dX9_init_74 : decode cX9_init 74 = .ok (.aload_n 0, 1) := by decide +kernel
theorem dX9_init_75 : decode cX9_init 75 = .ok (.bipush 6, 2) := by decide +kernel
theorem dX9_init_77 : decode cX9_init 77 = .ok (.newarray .int, 2) := by decide +kernel
theorem dX9_init_79 : decode cX9_init 79 = .ok (.putfield 38, 3) := by decide +kernel
theorem dX9_init_82 : decode cX9_init 82 = .ok (.aload_n 0, 1) := by decide +kernel
theorem dX9_init_83 : decode cX9_init 83 = .ok (.bipush 6, 2) := by decide +kernel
theorem dX9_init_85 : decode cX9_init 85 = .ok (.newarray .int, 2) := by decide +kernel
theorem dX9_init_87 : decode cX9_init 87 = .ok (.putfield 41, 3) := by decide +kernel
theorem dX9_init_90 : decode cX9_init 90 = .ok (.aload_n 0, 1) := by decide +kernel
theorem dX9_init_91 : decode cX9_init 91 = .ok (.bipush 6, 2) := by decide +kernel
theorem dX9_init_93 : decode cX9_init 93 = .ok (.newarray .int, 2) := by decide +kernel
theorem dX9_init_95 : decode cX9_init 95 = .ok (.putfield 44, 3) := by decide +kernel
theorem dX9_init_98 : decode cX9_init 98 = .ok (.aload_n 0, 1) := by decide +kernel
theorem dX9_init_99 : decode cX9_init 99 = .ok (.sipush 651, 3) := by decide +kernel
theorem dX9_init_102 : decode cX9_init 102 = .ok (.newarray .boolean, 2) := by decide +kernel
theorem dX9_init_104 : decode cX9_init 104 = .ok (.putfield 47, 3) := by decide +kernel
theorem dX9_init_107 : decode cX9_init 107 = .ok (.aload_n 0, 1) := by decide +kernel
theorem dX9_init_108 : decode cX9_init 108 = .ok (.sipush 273, 3) := by decide +kernel
theorem dX9_init_111 : decode cX9_init 111 = .ok (.newarray .int, 2) := by decide +kernel
theorem dX9_init_113 : decode cX9_init 113 = .ok (.putfield 51, 3) := by decide +kernel
theorem dX9_init_116 : decode cX9_init 116 = .ok (.aload_n 0, 1) := by decide +kernel
theorem dX9_init_117 : decode cX9_init 117 = .ok (.sipush 273, 3) := by decide +kernel
theorem dX9_init_120 : decode cX9_init 120 = .ok (.newarray .long, 2) := by decide +kernel
theorem dX9_init_122 : decode cX9_init 122 = .ok (.putfield 54, 3) := by decide +kernel
theorem dX9_init_125 : decode cX9_init 125 = .ok (.aload_n 0, 1) := by decide +kernel
theorem dX9_init_126 : decode cX9_init 126 = .ok (.bipush 6, 2) := by decide +kernel
theorem dX9_init_128 : decode cX9_init 128 = .ok (.newarray .int, 2) := by decide +kernel
theorem dX9_init_130 : decode cX9_init 130 = .ok (.putfield 58, 3) := by decide +kernel
theorem dX9_init_133 : decode cX9_init 133 = .ok (.aload_n 0, 1) := by decide +kernel
theorem dX9_init_134 : decode cX9_init 134 = .ok (.ldc 61, 2) := by decide +kernel
theorem dX9_init_136 : decode cX9_init 136 = .ok (.newarray .boolean, 2) := by decide +kernel
theorem dX9_init_138 : decode cX9_init 138 = .ok (.putfield 62, 3) := by decide +kernel
theorem dX9_init_141 : decode cX9_init 141 = .ok (.aload_n 0, 1) := by decide +kernel
theorem dX9_init_142 : decode cX9_init 142 = .ok (.sipush 147, 3) := by decide +kernel
theorem dX9_init_145 : decode cX9_init 145 = .ok (.newarray .boolean, 2) := by decide +kernel
theorem dX9_init_147 : decode cX9_init 147 = .ok (.putfield 65, 3) := by decide +kernel
theorem dX9_init_150 : decode cX9_init 150 = .ok (.aload_n 0, 1) := by decide +kernel
theorem dX9_init_151 : decode cX9_init 151 = .ok (.bipush 21, 2) := by decide +kernel
theorem dX9_init_153 : decode cX9_init 153 = .ok (.newarray .long, 2) := by decide +kernel
theorem dX9_init_155 : decode cX9_init 155 = .ok (.putfield 68, 3) := by decide +kernel
theorem dX9_init_158 : decode cX9_init 158 = .ok (.aload_n 0, 1) := by decide +kernel
theorem dX9_init_159 : decode cX9_init 159 = .ok (.bipush 21, 2) := by decide +kernel
theorem dX9_init_161 : decode cX9_init 161 = .ok (.newarray .long, 2) := by decide +kernel
theorem dX9_init_163 : decode cX9_init 163 = .ok (.putfield 71, 3) := by decide +kernel
theorem dX9_init_166 : decode cX9_init 166 = .ok (.iconst 0, 1) := by decide +kernel
theorem dX9_init_167 : decode cX9_init 167 = .ok (.istore_n 1, 1) := by decide +kernel
theorem dX9_init_168 : decode cX9_init 168 = .ok (.iload_n 1, 1) := by decide +kernel
theorem dX9_init_169 : decode cX9_init 169 = .ok (.bipush 6, 2) := by decide +kernel
theorem dX9_init_171 : decode cX9_init 171 = .ok (.if_icmp .ge 16, 3) := by decide +kernel
theorem dX9_init_174 : decode cX9_init 174 = .ok (.aload_n 0, 1) := by decide +kernel
theorem dX9_init_175 : decode cX9_init 175 = .ok (.getfield 19, 3) := by decide +kernel
theorem dX9_init_178 : decode cX9_init 178 = .ok (.iload_n 1, 1) := by decide +kernel
theorem dX9_init_179 : decode cX9_init 179 = .ok (.iconst (-1), 1) := by decide +kernel
theorem dX9_init_180 : decode cX9_init 180 = .ok (.iastore, 1) := by decide +kernel
theorem dX9_init_181 : decode cX9_init 181 = .ok (.iinc 1 1, 3) := by decide +kernel
theorem dX9_init_184 : decode cX9_init 184 = .ok (.goto (-16), 3) := by decide +kernel
theorem dX9_init_187 : decode cX9_init 187 = .ok (.iconst 0, 1) := by decide +kernel
theorem dX9_init_188 : decode cX9_init 188 = .ok (.istore_n 1, 1) := by decide +kernel
theorem dX9_init_189 : decode cX9_init 189 = .ok (.iload_n 1, 1) := by decide +kernel
theorem dX9_init_190 : decode cX9_init 190 = .ok (.iconst 4, 1) := by decide +kernel
theorem dX9_init_191 : decode cX9_init 191 = .ok (.if_icmp .ge 16, 3) := by decide +kernel
theorem dX9_init_194 : decode cX9_init 194 = .ok (.aload_n 0, 1) := by decide +kernel
theorem dX9_init_195 : decode cX9_init 195 = .ok (.getfield 25, 3) := by decide +kernel
theorem dX9_init_198 : decode cX9_init 198 = .ok (.iload_n 1, 1) := by decide +kernel
theorem dX9_init_199 : decode cX9_init 199 = .ok (.iconst (-1), 1) := by decide +kernel
theorem dX9_init_200 : decode cX9_init 200 = .ok (.iastore, 1) := by decide +kernel
theorem dX9_init_201 : decode cX9_init 201 = .ok (.iinc 1 1, 3) := by decide +kernel
theorem dX9_init_204 : decode cX9_init 204 = .ok (.goto (-15), 3) := by decide +kernel
theorem dX9_init_207 : decode cX9_init 207 = .ok (.iconst 0, 1) := by decide +kernel
theorem dX9_init_208 : decode cX9_init 208 = .ok (.istore_n 1, 1) := by decide +kernel
theorem dX9_init_209 : decode cX9_init 209 = .ok (.iload_n 1, 1) := by decide +kernel
theorem dX9_init_210 : decode cX9_init 210 = .ok (.iconst 3, 1) := by decide +kernel
theorem dX9_init_211 : decode cX9_init 211 = .ok (.if_icmp .ge 16, 3) := by decide +kernel
theorem dX9_init_214 : decode cX9_init 214 = .ok (.aload_n 0, 1) := by decide +kernel
theorem dX9_init_215 : decode cX9_init 215 = .ok (.getfield 13, 3) := by decide +kernel
theorem dX9_init_218 : decode cX9_init 218 = .ok (.iload_n 1, 1) := by decide +kernel
theorem dX9_init_219 : decode cX9_init 219 = .ok (.iconst (-1), 1) := by decide +kernel
theorem dX9_init_220 : decode cX9_init 220 = .ok (.iastore, 1) := by decide +kernel
theorem dX9_init_221 : decode cX9_init 221 = .ok (.iinc 1 1, 3) := by decide +kernel
theorem dX9_init_224 : decode cX9_init 224 = .ok (.goto (-15), 3) := by decide +kernel
theorem dX9_init_227 : decode cX9_init 227 = .ok (.return_, 1) := by decide +kernel
theorem dX9_in_0 : decode cX9_in 0 = .ok (.lload_n 0, 1) := by decide +kernel
theorem dX9_in_1 : decode cX9_in 1 = .ok (.lload_n 2, 1) := by decide +kernel
theorem dX9_in_2 : decode cX9_in 2 = .ok (.lcmp, 1) := by decide +kernel
theorem dX9_in_3 : decode cX9_in 3 = .ok (.ifCond .lt 14, 3) := by decide +kernel
theorem dX9_in_6 : decode cX9_in 6 = .ok (.lload_n 0, 1) := by decide +kernel
theorem dX9_in_7 : decode cX9_in 7 = .ok (.lload 4, 2) := by decide +kernel
theorem dX9_in_9 : decode cX9_in 9 = .ok (.lcmp, 1) := by decide +kernel
theorem dX9_in_10 : decode cX9_in 10 = .ok (.ifCond .gt 7, 3) := by decide +kernel
theorem dX9_in_13 : decode cX9_in 13 = .ok (.iconst 1, 1) := by decide +kernel
theorem dX9_in_14 : decode cX9_in 14 = .ok (.goto 4, 3) := by decide +kernel
theorem dX9_in_17 : decode cX9_in 17 = .ok (.iconst 0, 1) := by decide +kernel
theorem dX9_in_18 : decode cX9_in 18 = .ok (.ireturn, 1) := by decide +kernel
theorem dX9_has_0 : decode cX9_has 0 = .ok (.iload_n 0, 1) := by decide +kernel
theorem dX9_has_1 : decode cX9_has 1 = .ok (.iload_n 1, 1) := by decide +kernel
theorem dX9_has_2 : decode cX9_has 2 = .ok (.ishr, 1) := by decide +kernel
theorem dX9_has_3 : decode cX9_has 3 = .ok (.iconst 1, 1) := by decide +kernel
theorem dX9_has_4 : decode cX9_has 4 = .ok (.iand, 1) := by decide +kernel
theorem dX9_has_5 : decode cX9_has 5 = .ok (.iconst 1, 1) := by decide +kernel
theorem dX9_has_6 : decode cX9_has 6 = .ok (.if_icmp .ne 7, 3) := by decide +kernel
theorem dX9_has_9 : decode cX9_has 9 = .ok (.iconst 1, 1) := by decide +kernel
theorem dX9_has_10 : decode cX9_has 10 = .ok (.goto 4, 3) := by decide +kernel
theorem dX9_has_13 : decode cX9_has 13 = .ok (.iconst 0, 1) := by decide +kernel
theorem dX9_has_14 : decode cX9_has 14 = .ok (.ireturn, 1) := by decide +kernel
theorem dX9_found_0 : decode cX9_found 0 = .ok (.aload_n 0, 1) := by decide +kernel
theorem dX9_found_1 : decode cX9_found 1 = .ok (.iload_n 1, 1) := by decide +kernel
theorem dX9_found_2 : decode cX9_found 2 = .ok (.putfield 74, 3) := by decide +kernel
theorem dX9_found_5 : decode cX9_found 5 = .ok (.aload_n 0, 1) := by decide +kernel
theorem dX9_found_6 : decode cX9_found 6 = .ok (.getfield 31, 3) := by decide +kernel
theorem dX9_found_9 : decode cX9_found 9 = .ok (.iload_n 1, 1) := by decide +kernel
theorem dX9_found_10 : decode cX9_found 10 = .ok (.dup2, 1) := by decide +kernel
theorem dX9_found_11 : decode cX9_found 11 = .ok (.iaload, 1) := by decide +kernel
theorem dX9_found_12 : decode cX9_found 12 = .ok (.iconst 1, 1) := by decide +kernel
theorem dX9_found_13 : decode cX9_found 13 = .ok (.iadd, 1) := by decide +kernel
theorem dX9_found_14 : decode cX9_found 14 = .ok (.iastore, 1) := by decide +kernel
theorem dX9_found_15 : decode cX9_found 15 = .ok (.bipush (-3), 2) := by decide +kernel
theorem dX9_found_17 : decode cX9_found 17 = .ok (.ireturn, 1) := by decide +kernel
theorem dX9_tells_0 : decode cX9_tells 0 = .ok (.aload_n 0, 1) := by decide +kernel
theorem dX9_tells_1 : decode cX9_tells 1 = .ok (.iload_n 1, 1) := by decide +kernel
theorem dX9_tells_2 : decode cX9_tells 2 = .ok (.putfield 78, 3) := by decide +kernel
theorem dX9_tells_5 : decode cX9_tells 5 = .ok (.iload_n 2, 1) := by decide +kernel
theorem dX9_tells_6 : decode cX9_tells 6 = .ok (.ireturn, 1) := by decide +kernel
theorem dX9_copyAll_0 : decode cX9_copyAll 0 = .ok (.iconst 0, 1) := by decide +kernel
theorem dX9_copyAll_1 : decode cX9_copyAll 1 = .ok (.istore 4, 2) := by decide +kernel
theorem dX9_copyAll_3 : decode cX9_copyAll 3 = .ok (.iload 4, 2) := by decide +kernel
theorem dX9_copyAll_5 : decode cX9_copyAll 5 = .ok (.iload_n 3, 1) := by decide +kernel
theorem dX9_copyAll_6 : decode cX9_copyAll 6 = .ok (.if_icmp .ge 27, 3) := by decide +kernel
theorem dX9_copyAll_9 : decode cX9_copyAll 9 = .ok (.aload_n 0, 1) := by decide +kernel
theorem dX9_copyAll_10 : decode cX9_copyAll 10 = .ok (.getfield 7, 3) := by decide +kernel
theorem dX9_copyAll_13 : decode cX9_copyAll 13 = .ok (.iload_n 2, 1) := by decide +kernel
theorem dX9_copyAll_14 : decode cX9_copyAll 14 = .ok (.iload 4, 2) := by decide +kernel
theorem dX9_copyAll_16 : decode cX9_copyAll 16 = .ok (.iadd, 1) := by decide +kernel
theorem dX9_copyAll_17 : decode cX9_copyAll 17 = .ok (.aload_n 0, 1) := by decide +kernel
theorem dX9_copyAll_18 : decode cX9_copyAll 18 = .ok (.getfield 7, 3) := by decide +kernel
theorem dX9_copyAll_21 : decode cX9_copyAll 21 = .ok (.iload_n 1, 1) := by decide +kernel
theorem dX9_copyAll_22 : decode cX9_copyAll 22 = .ok (.iload 4, 2) := by decide +kernel
theorem dX9_copyAll_24 : decode cX9_copyAll 24 = .ok (.iadd, 1) := by decide +kernel
theorem dX9_copyAll_25 : decode cX9_copyAll 25 = .ok (.iaload, 1) := by decide +kernel
theorem dX9_copyAll_26 : decode cX9_copyAll 26 = .ok (.iastore, 1) := by decide +kernel
theorem dX9_copyAll_27 : decode cX9_copyAll 27 = .ok (.iinc 4 1, 3) := by decide +kernel
theorem dX9_copyAll_30 : decode cX9_copyAll 30 = .ok (.goto (-27), 3) := by decide +kernel
theorem dX9_copyAll_33 : decode cX9_copyAll 33 = .ok (.return_, 1) := by decide +kernel
theorem dX9_isRow_0 : decode cX9_isRow 0 = .ok (.iload_n 0, 1) := by decide +kernel
theorem dX9_isRow_1 : decode cX9_isRow 1 = .ok (.i2l, 1) := by decide +kernel
theorem dX9_isRow_2 : decode cX9_isRow 2 = .ok (.lconst 0, 1) := by decide +kernel
theorem dX9_isRow_3 : decode cX9_isRow 3 = .ok (.ldc2_w 81, 3) := by decide +kernel
theorem dX9_isRow_6 : decode cX9_isRow 6 = .ok (.invokestatic 83, 3) := by decide +kernel
theorem dX9_isRow_9 : decode cX9_isRow 9 = .ok (.ireturn, 1) := by decide +kernel
theorem dX9_isText_0 : decode cX9_isText 0 = .ok (.iload_n 0, 1) := by decide +kernel
theorem dX9_isText_1 : decode cX9_isText 1 = .ok (.i2l, 1) := by decide +kernel
theorem dX9_isText_2 : decode cX9_isText 2 = .ok (.lconst 0, 1) := by decide +kernel
theorem dX9_isText_3 : decode cX9_isText 3 = .ok (.ldc2_w 87, 3) := by decide +kernel
theorem dX9_isText_6 : decode cX9_isText 6 = .ok (.invokestatic 83, 3) := by decide +kernel
theorem dX9_isText_9 : decode cX9_isText 9 = .ok (.ireturn, 1) := by decide +kernel
theorem dX9_anew_0 : decode cX9_anew 0 = .ok (.aload_n 0, 1) := by decide +kernel
theorem dX9_anew_1 : decode cX9_anew 1 = .ok (.getfield 19, 3) := by decide +kernel
theorem dX9_anew_4 : decode cX9_anew 4 = .ok (.iload_n 1, 1) := by decide +kernel
theorem dX9_anew_5 : decode cX9_anew 5 = .ok (.iload_n 2, 1) := by decide +kernel
theorem dX9_anew_6 : decode cX9_anew 6 = .ok (.iastore, 1) := by decide +kernel
theorem dX9_anew_7 : decode cX9_anew 7 = .ok (.iconst 0, 1) := by decide +kernel
theorem dX9_anew_8 : decode cX9_anew 8 = .ok (.istore_n 3, 1) := by decide +kernel
theorem dX9_anew_9 : decode cX9_anew 9 = .ok (.iload_n 3, 1) := by decide +kernel
theorem dX9_anew_10 : decode cX9_anew 10 = .ok (.bipush 40, 2) := by decide +kernel
theorem dX9_anew_12 : decode cX9_anew 12 = .ok (.if_icmp .ge 21, 3) := by decide +kernel
theorem dX9_anew_15 : decode cX9_anew 15 = .ok (.aload_n 0, 1) := by decide +kernel
theorem dX9_anew_16 : decode cX9_anew 16 = .ok (.getfield 16, 3) := by decide +kernel
theorem dX9_anew_19 : decode cX9_anew 19 = .ok (.bipush 40, 2) := by decide +kernel
theorem dX9_anew_21 : decode cX9_anew 21 = .ok (.iload_n 1, 1) := by decide +kernel
theorem dX9_anew_22 : decode cX9_anew 22 = .ok (.imul, 1) := by decide +kernel
theorem dX9_anew_23 : decode cX9_anew 23 = .ok (.iload_n 3, 1) := by decide +kernel
theorem dX9_anew_24 : decode cX9_anew 24 = .ok (.iadd, 1) := by decide +kernel
theorem dX9_anew_25 : decode cX9_anew 25 = .ok (.iconst 0, 1) := by decide +kernel
theorem dX9_anew_26 : decode cX9_anew 26 = .ok (.iastore, 1) := by decide +kernel
theorem dX9_anew_27 : decode cX9_anew 27 = .ok (.iinc 3 1, 3) := by decide +kernel
theorem dX9_anew_30 : decode cX9_anew 30 = .ok (.goto (-21), 3) := by decide +kernel
theorem dX9_anew_33 : decode cX9_anew 33 = .ok (.return_, 1) := by decide +kernel
theorem dX9_row_0 : decode cX9_row 0 = .ok (.iload_n 1, 1) := by decide +kernel
theorem dX9_row_1 : decode cX9_row 1 = .ok (.invokestatic 89, 3) := by decide +kernel
theorem dX9_row_4 : decode cX9_row 4 = .ok (.ifCond .eq 9, 3) := by decide +kernel
theorem dX9_row_7 : decode cX9_row 7 = .ok (.iload_n 2, 1) := by decide +kernel
theorem dX9_row_8 : decode cX9_row 8 = .ok (.bipush 40, 2) := by decide +kernel
theorem dX9_row_10 : decode cX9_row 10 = .ok (.if_icmp .le 5, 3) := by decide +kernel
theorem dX9_row_13 : decode cX9_row 13 = .ok (.iconst (-1), 1) := by decide +kernel
theorem dX9_row_14 : decode cX9_row 14 = .ok (.ireturn, 1) := by decide +kernel
theorem dX9_row_15 : decode cX9_row 15 = .ok (.iload_n 2, 1) := by decide +kernel
theorem dX9_row_16 : decode cX9_row 16 = .ok (.ifCond .ge 9, 3) := by decide +kernel
theorem dX9_row_19 : decode cX9_row 19 = .ok (.aload_n 0, 1) := by decide +kernel
theorem dX9_row_20 : decode cX9_row 20 = .ok (.iconst 5, 1) := by decide +kernel
theorem dX9_row_21 : decode cX9_row 21 = .ok (.invokevirtual 93, 3) := by decide +kernel
theorem dX9_row_24 : decode cX9_row 24 = .ok (.ireturn, 1) := by decide +kernel
theorem dX9_row_25 : decode cX9_row 25 = .ok (.aload_n 0, 1) := by decide +kernel
theorem dX9_row_26 : decode cX9_row 26 = .ok (.iload_n 1, 1) := by decide +kernel
theorem dX9_row_27 : decode cX9_row 27 = .ok (.iload_n 2, 1) := by decide +kernel
theorem dX9_row_28 : decode cX9_row 28 = .ok (.invokevirtual 97, 3) := by decide +kernel
theorem dX9_row_31 : decode cX9_row 31 = .ok (.iload_n 2, 1) := by decide +kernel
theorem dX9_row_32 : decode cX9_row 32 = .ok (.ireturn, 1) := by decide +kernel
theorem dX9_lay_0 : decode cX9_lay 0 = .ok (.aload_n 0, 1) := by decide +kernel
theorem dX9_lay_1 : decode cX9_lay 1 = .ok (.iload_n 1, 1) := by decide +kernel
theorem dX9_lay_2 : decode cX9_lay 2 = .ok (.iload_n 2, 1) := by decide +kernel
theorem dX9_lay_3 : decode cX9_lay 3 = .ok (.invokevirtual 101, 3) := by decide +kernel
theorem dX9_lay_6 : decode cX9_lay 6 = .ok (.istore 4, 2) := by decide +kernel
theorem dX9_lay_8 : decode cX9_lay 8 = .ok (.iload 4, 2) := by decide +kernel
theorem dX9_lay_10 : decode cX9_lay 10 = .ok (.iconst 1, 1) := by decide +kernel
theorem dX9_lay_11 : decode cX9_lay 11 = .ok (.if_icmp .ne 15, 3) := by decide +kernel
theorem dX9_lay_14 : decode cX9_lay 14 = .ok (.aload_n 0, 1) := by decide +kernel
theorem dX9_lay_15 : decode cX9_lay 15 = .ok (.getfield 16, 3) := by decide +kernel
theorem dX9_lay_18 : decode cX9_lay 18 = .ok (.bipush 40, 2) := by decide +kernel
theorem dX9_lay_20 : decode cX9_lay 20 = .ok (.iload_n 1, 1) := by decide +kernel
theorem dX9_lay_21 : decode cX9_lay 21 = .ok (.imul, 1) := by decide +kernel
theorem dX9_lay_22 : decode cX9_lay 22 = .ok (.iload_n 2, 1) := by decide +kernel
theorem dX9_lay_23 : decode cX9_lay 23 = .ok (.iadd, 1) := by decide +kernel
theorem dX9_lay_24 : decode cX9_lay 24 = .ok (.iload_n 3, 1) := by decide +kernel
theorem dX9_lay_25 : decode cX9_lay 25 = .ok (.iastore, 1) := by decide +kernel
theorem dX9_lay_26 : decode cX9_lay 26 = .ok (.iload 4, 2) := by decide +kernel
theorem dX9_lay_28 : decode cX9_lay 28 = .ok (.ireturn, 1) := by decide +kernel
theorem dX9_at_0 : decode cX9_at 0 = .ok (.iload_n 1, 1) := by decide +kernel
theorem dX9_at_1 : decode cX9_at 1 = .ok (.invokestatic 89, 3) := by decide +kernel
theorem dX9_at_4 : decode cX9_at 4 = .ok (.ifCond .ne 5, 3) := by decide +kernel
theorem dX9_at_7 : decode cX9_at 7 = .ok (.iconst (-1), 1) := by decide +kernel
theorem dX9_at_8 : decode cX9_at 8 = .ok (.ireturn, 1) := by decide +kernel
theorem dX9_at_9 : decode cX9_at 9 = .ok (.aload_n 0, 1) := by decide +kernel
theorem dX9_at_10 : decode cX9_at 10 = .ok (.getfield 19, 3) := by decide +kernel
theorem dX9_at_13 : decode cX9_at 13 = .ok (.iload_n 1, 1) := by decide +kernel
theorem dX9_at_14 : decode cX9_at 14 = .ok (.iaload, 1) := by decide +kernel
theorem dX9_at_15 : decode cX9_at 15 = .ok (.ifCond .ge 9, 3) := by decide +kernel
theorem dX9_at_18 : decode cX9_at 18 = .ok (.aload_n 0, 1) := by decide +kernel
theorem dX9_at_19 : decode cX9_at 19 = .ok (.iconst 1, 1) := by decide +kernel
theorem dX9_at_20 : decode cX9_at 20 = .ok (.invokevirtual 93, 3) := by decide +kernel
theorem dX9_at_23 : decode cX9_at 23 = .ok (.ireturn, 1) := by decide +kernel
theorem dX9_at_24 : decode cX9_at 24 = .ok (.iload_n 2, 1) := by decide +kernel
theorem dX9_at_25 : decode cX9_at 25 = .ok (.i2l, 1) := by decide +kernel
theorem dX9_at_26 : decode cX9_at 26 = .ok (.lconst 0, 1) := by decide +kernel
theorem dX9_at_27 : decode cX9_at 27 = .ok (.aload_n 0, 1) := by decide +kernel
theorem dX9_at_28 : decode cX9_at 28 = .ok (.getfield 19, 3) := by decide +kernel
theorem dX9_at_31 : decode cX9_at 31 = .ok (.iload_n 1, 1) := by decide +kernel
theorem dX9_at_32 : decode cX9_at 32 = .ok (.iaload, 1) := by decide +kernel
theorem dX9_at_33 : decode cX9_at 33 = .ok (.iconst 1, 1) := by decide +kernel
theorem dX9_at_34 : decode cX9_at 34 = .ok (.isub, 1) := by decide +kernel
theorem dX9_at_35 : decode cX9_at 35 = .ok (.i2l, 1) := by decide +kernel
theorem dX9_at_36 : decode cX9_at 36 = .ok (.invokestatic 83, 3) := by decide +kernel
theorem dX9_at_39 : decode cX9_at 39 = .ok (.ifCond .eq 22, 3) := by decide +kernel
theorem dX9_at_42 : decode cX9_at 42 = .ok (.aload_n 0, 1) := by decide +kernel
theorem dX9_at_43 : decode cX9_at 43 = .ok (.aload_n 0, 1) := by decide +kernel
theorem dX9_at_44 : decode cX9_at 44 = .ok (.getfield 16, 3) := by decide +kernel
theorem dX9_at_47 : decode cX9_at 47 = .ok (.bipush 40, 2) := by decide +kernel
theorem dX9_at_49 : decode cX9_at 49 = .ok (.iload_n 1, 1) := by decide +kernel
theorem dX9_at_50 : decode cX9_at 50 = .ok (.imul, 1) := by decide +kernel
theorem dX9_at_51 : decode cX9_at 51 = .ok (.iload_n 2, 1) := by decide +kernel
theorem dX9_at_52 : decode cX9_at 52 = .ok (.iadd, 1) := by decide +kernel
theorem dX9_at_53 : decode cX9_at 53 = .ok (.iaload, 1) := by decide +kernel
theorem dX9_at_54 : decode cX9_at 54 = .ok (.iconst 1, 1) := by decide +kernel
theorem dX9_at_55 : decode cX9_at 55 = .ok (.invokevirtual 105, 3) := by decide +kernel
theorem dX9_at_58 : decode cX9_at 58 = .ok (.goto 8, 3) := by decide +kernel
theorem dX9_at_61 : decode cX9_at 61 = .ok (.aload_n 0, 1) := by decide +kernel
theorem dX9_at_62 : decode cX9_at 62 = .ok (.iconst 2, 1) := by decide +kernel
theorem dX9_at_63 : decode cX9_at 63 = .ok (.invokevirtual 93, 3) := by decide +kernel
theorem dX9_at_66 : decode cX9_at 66 = .ok (.ireturn, 1) := by decide +kernel
theorem dX9_tear_0 : decode cX9_tear 0 = .ok (.iload_n 1, 1) := by decide +kernel
theorem dX9_tear_1 : decode cX9_tear 1 = .ok (.invokestatic 89, 3) := by decide +kernel
theorem dX9_tear_4 : decode cX9_tear 4 = .ok (.ifCond .ne 5, 3) := by decide +kernel
theorem dX9_tear_7 : decode cX9_tear 7 = .ok (.iconst (-1), 1) := by decide +kernel
theorem dX9_tear_8 : decode cX9_tear 8 = .ok (.ireturn, 1) := by decide +kernel
theorem dX9_tear_9 : decode cX9_tear 9 = .ok (.aload_n 0, 1) := by decide +kernel
theorem dX9_tear_10 : decode cX9_tear 10 = .ok (.getfield 19, 3) := by decide +kernel
theorem dX9_tear_13 : decode cX9_tear 13 = .ok (.iload_n 1, 1) := by decide +kernel
theorem dX9_tear_14 : decode cX9_tear 14 = .ok (.iaload, 1) := by decide +kernel
theorem dX9_tear_15 : decode cX9_tear 15 = .ok (.ifCond .ge 9, 3) := by decide +kernel
theorem dX9_tear_18 : decode cX9_tear 18 = .ok (.aload_n 0, 1) := by decide +kernel
theorem dX9_tear_19 : decode cX9_tear 19 = .ok (.iconst 1, 1) := by decide +kernel
theorem dX9_tear_20 : decode cX9_tear 20 = .ok (.invokevirtual 93, 3) := by decide +kernel
theorem dX9_tear_23 : decode cX9_tear 23 = .ok (.ireturn, 1) := by decide +kernel
theorem dX9_tear_24 : decode cX9_tear 24 = .ok (.aload_n 0, 1) := by decide +kernel
theorem dX9_tear_25 : decode cX9_tear 25 = .ok (.getfield 19, 3) := by decide +kernel
theorem dX9_tear_28 : decode cX9_tear 28 = .ok (.iload_n 1, 1) := by decide +kernel
theorem dX9_tear_29 : decode cX9_tear 29 = .ok (.iconst (-1), 1) := by decide +kernel
theorem dX9_tear_30 : decode cX9_tear 30 = .ok (.iastore, 1) := by decide +kernel
theorem dX9_tear_31 : decode cX9_tear 31 = .ok (.iconst 1, 1) := by decide +kernel
theorem dX9_tear_32 : decode cX9_tear 32 = .ok (.ireturn, 1) := by decide +kernel
theorem dX9_fits_0 : decode cX9_fits 0 = .ok (.iload_n 0, 1) := by decide +kernel
theorem dX9_fits_1 : decode cX9_fits 1 = .ok (.ifCond .lt 18, 3) := by decide +kernel
theorem dX9_fits_4 : decode cX9_fits 4 = .ok (.iload_n 0, 1) := by decide +kernel
theorem dX9_fits_5 : decode cX9_fits 5 = .ok (.i2l, 1) := by decide +kernel
theorem dX9_fits_6 : decode cX9_fits 6 = .ok (.iload_n 1, 1) := by decide +kernel
theorem dX9_fits_7 : decode cX9_fits 7 = .ok (.i2l, 1) := by decide +kernel
theorem dX9_fits_8 : decode cX9_fits 8 = .ok (.ladd, 1) := by decide +kernel
theorem dX9_fits_9 : decode cX9_fits 9 = .ok (.iload_n 2, 1) := by decide +kernel
theorem dX9_fits_10 : decode cX9_fits 10 = .ok (.i2l, 1) := by decide +kernel
theorem dX9_fits_11 : decode cX9_fits 11 = .ok (.lcmp, 1) := by decide +kernel
theorem dX9_fits_12 : decode cX9_fits 12 = .ok (.ifCond .gt 7, 3) := by decide +kernel
theorem dX9_fits_15 : decode cX9_fits 15 = .ok (.iconst 1, 1) := by decide +kernel
theorem dX9_fits_16 : decode cX9_fits 16 = .ok (.goto 4, 3) := by decide +kernel
theorem dX9_fits_19 : decode cX9_fits 19 = .ok (.iconst 0, 1) := by decide +kernel
theorem dX9_fits_20 : decode cX9_fits 20 = .ok (.ireturn, 1) := by decide +kernel
theorem dX9_copy_0 : decode cX9_copy 0 = .ok (.iload_n 1, 1) := by decide +kernel
theorem dX9_copy_1 : decode cX9_copy 1 = .ok (.invokestatic 89, 3) := by decide +kernel
theorem dX9_copy_4 : decode cX9_copy 4 = .ok (.ifCond .eq 10, 3) := by decide +kernel
theorem dX9_copy_7 : decode cX9_copy 7 = .ok (.iload_n 3, 1) := by decide +kernel
theorem dX9_copy_8 : decode cX9_copy 8 = .ok (.invokestatic 89, 3) := by decide +kernel
theorem dX9_copy_11 : decode cX9_copy 11 = .ok (.ifCond .ne 5, 3) := by decide +kernel
theorem dX9_copy_14 : decode cX9_copy 14 = .ok (.iconst (-1), 1) := by decide +kernel
theorem dX9_copy_15 : decode cX9_copy 15 = .ok (.ireturn, 1) := by decide +kernel
theorem dX9_copy_16 : decode cX9_copy 16 = .ok (.iload 5, 2) := by decide +kernel
theorem dX9_copy_18 : decode cX9_copy 18 = .ok (.ifCond .ge 9, 3) := by decide +kernel
theorem dX9_copy_21 : decode cX9_copy 21 = .ok (.aload_n 0, 1) := by decide +kernel
theorem dX9_copy_22 : decode cX9_copy 22 = .ok (.iconst 5, 1) := by decide +kernel
theorem dX9_copy_23 : decode cX9_copy 23 = .ok (.invokevirtual 93, 3) := by decide +kernel
theorem dX9_copy_26 : decode cX9_copy 26 = .ok (.ireturn, 1) := by decide +kernel
theorem dX9_copy_27 : decode cX9_copy 27 = .ok (.aload_n 0, 1) := by decide +kernel
theorem dX9_copy_28 : decode cX9_copy 28 = .ok (.getfield 19, 3) := by decide +kernel
theorem dX9_copy_31 : decode cX9_copy 31 = .ok (.iload_n 1, 1) := by decide +kernel
theorem dX9_copy_32 : decode cX9_copy 32 = .ok (.iaload, 1) := by decide +kernel
theorem dX9_copy_33 : decode cX9_copy 33 = .ok (.ifCond .lt 12, 3) := by decide +kernel
theorem dX9_copy_36 : decode cX9_copy 36 = .ok (.aload_n 0, 1) := by decide +kernel
theorem dX9_copy_37 : decode cX9_copy 37 = .ok (.getfield 19, 3) := by decide +kernel
theorem dX9_copy_40 : decode cX9_copy 40 = .ok (.iload_n 3, 1) := by decide +kernel
theorem dX9_copy_41 : decode cX9_copy 41 = .ok (.iaload, 1) := by decide +kernel
theorem dX9_copy_42 : decode cX9_copy 42 = .ok (.ifCond .ge 9, 3) := by decide +kernel
theorem dX9_copy_45 : decode cX9_copy 45 = .ok (.aload_n 0, 1) := by decide +kernel
theorem dX9_copy_46 : decode cX9_copy 46 = .ok (.iconst 1, 1) := by decide +kernel
theorem dX9_copy_47 : decode cX9_copy 47 = .ok (.invokevirtual 93, 3) := by decide +kernel
theorem dX9_copy_50 : decode cX9_copy 50 = .ok (.ireturn, 1) := by decide +kernel
theorem dX9_copy_51 : decode cX9_copy 51 = .ok (.iload_n 2, 1) := by decide +kernel
theorem dX9_copy_52 : decode cX9_copy 52 = .ok (.iload 5, 2) := by decide +kernel
theorem dX9_copy_54 : decode cX9_copy 54 = .ok (.aload_n 0, 1) := by decide +kernel
theorem dX9_copy_55 : decode cX9_copy 55 = .ok (.getfield 19, 3) := by decide +kernel
theorem dX9_copy_58 : decode cX9_copy 58 = .ok (.iload_n 1, 1) := by decide +kernel
theorem dX9_copy_59 : decode cX9_copy 59 = .ok (.iaload, 1) := by decide +kernel
theorem dX9_copy_60 : decode cX9_copy 60 = .ok (.invokestatic 108, 3) := by decide +kernel
theorem dX9_copy_63 : decode cX9_copy 63 = .ok (.ifCond .eq 19, 3) := by decide +kernel
theorem dX9_copy_66 : decode cX9_copy 66 = .ok (.iload 4, 2) := by decide +kernel
theorem dX9_copy_68 : decode cX9_copy 68 = .ok (.iload 5, 2) := by decide +kernel
theorem dX9_copy_70 : decode cX9_copy 70 = .ok (.aload_n 0, 1) := by decide +kernel
theorem dX9_copy_71 : decode cX9_copy 71 = .ok (.getfield 19, 3) := by decide +kernel
theorem dX9_copy_74 : decode cX9_copy 74 = .ok (.iload_n 3, 1) := by decide +kernel
theorem dX9_copy_75 : decode cX9_copy 75 = .ok (.iaload, 1) := by decide +kernel
theorem dX9_copy_76 : decode cX9_copy 76 = .ok (.invokestatic 108, 3) := by decide +kernel
theorem dX9_copy_79 : decode cX9_copy 79 = .ok (.ifCond .ne 9, 3) := by decide +kernel
theorem dX9_copy_82 : decode cX9_copy 82 = .ok (.aload_n 0, 1) := by decide +kernel
theorem dX9_copy_83 : decode cX9_copy 83 = .ok (.iconst 2, 1) := by decide +kernel
theorem dX9_copy_84 : decode cX9_copy 84 = .ok (.invokevirtual 93, 3) := by decide +kernel
theorem dX9_copy_87 : decode cX9_copy 87 = .ok (.ireturn, 1) := by decide +kernel
theorem dX9_copy_88 : decode cX9_copy 88 = .ok (.iconst 0, 1) := by decide +kernel
theorem dX9_copy_89 : decode cX9_copy 89 = .ok (.istore 6, 2) := by decide +kernel
theorem dX9_copy_91 : decode cX9_copy 91 = .ok (.iload 6, 2) := by decide +kernel
theorem dX9_copy_93 : decode cX9_copy 93 = .ok (.iload 5, 2) := by decide +kernel
theorem dX9_copy_95 : decode cX9_copy 95 = .ok (.if_icmp .ge 30, 3) := by decide +kernel
theorem dX9_copy_98 : decode cX9_copy 98 = .ok (.aload_n 0, 1) := by decide +kernel
theorem dX9_copy_99 : decode cX9_copy 99 = .ok (.getfield 28, 3) := by decide +kernel
theorem dX9_copy_102 : decode cX9_copy 102 = .ok (.iload 6, 2) := by decide +kernel
theorem dX9_copy_104 : decode cX9_copy 104 = .ok (.aload_n 0, 1) := by decide +kernel
theorem dX9_copy_105 : decode cX9_copy 105 = .ok (.getfield 16, 3) := by decide +kernel
theorem dX9_copy_108 : decode cX9_copy 108 = .ok (.bipush 40, 2) := by decide +kernel
theorem dX9_copy_110 : decode cX9_copy 110 = .ok (.iload_n 1, 1) := by decide +kernel
theorem dX9_copy_111 : decode cX9_copy 111 = .ok (.imul, 1) := by decide +kernel
theorem dX9_copy_112 : decode cX9_copy 112 = .ok (.iload_n 2, 1) := by decide +kernel
theorem dX9_copy_113 : decode cX9_copy 113 = .ok (.iadd, 1) := by decide +kernel
theorem dX9_copy_114 : decode cX9_copy 114 = .ok (.iload 6, 2) := by decide +kernel
theorem dX9_copy_116 : decode cX9_copy 116 = .ok (.iadd, 1) := by decide +kernel
theorem dX9_copy_117 : decode cX9_copy 117 = .ok (.iaload, 1) := by decide +kernel
theorem dX9_copy_118 : decode cX9_copy 118 = .ok (.iastore, 1) := by decide +kernel
theorem dX9_copy_119 : decode cX9_copy 119 = .ok (.iinc 6 1, 3) := by decide +kernel
theorem dX9_copy_122 : decode cX9_copy 122 = .ok (.goto (-31), 3) := by decide +kernel
theorem dX9_copy_125 : decode cX9_copy 125 = .ok (.iconst 0, 1) := by decide +kernel
theorem dX9_copy_126 : decode cX9_copy 126 = .ok (.istore 6, 2) := by decide +kernel
theorem dX9_copy_128 : decode cX9_copy 128 = .ok (.iload 6, 2) := by decide +kernel
theorem dX9_copy_130 : decode cX9_copy 130 = .ok (.iload 5, 2) := by decide +kernel
theorem dX9_copy_132 : decode cX9_copy 132 = .ok (.if_icmp .ge 31, 3) := by decide +kernel
theorem dX9_copy_135 : decode cX9_copy 135 = .ok (.aload_n 0, 1) := by decide +kernel
theorem dX9_copy_136 : decode cX9_copy 136 = .ok (.getfield 16, 3) := by decide +kernel
theorem dX9_copy_139 : decode cX9_copy 139 = .ok (.bipush 40, 2) := by decide +kernel
theorem dX9_copy_141 : decode cX9_copy 141 = .ok (.iload_n 3, 1) := by decide +kernel
theorem dX9_copy_142 : decode cX9_copy 142 = .ok (.imul, 1) := by decide +kernel
theorem dX9_copy_143 : decode cX9_copy 143 = .ok (.iload 4, 2) := by decide +kernel
theorem dX9_copy_145 : decode cX9_copy 145 = .ok (.iadd, 1) := by decide +kernel
theorem dX9_copy_146 : decode cX9_copy 146 = .ok (.iload 6, 2) := by decide +kernel
theorem dX9_copy_148 : decode cX9_copy 148 = .ok (.iadd, 1) := by decide +kernel
theorem dX9_copy_149 : decode cX9_copy 149 = .ok (.aload_n 0, 1) := by decide +kernel
theorem dX9_copy_150 : decode cX9_copy 150 = .ok (.getfield 28, 3) := by decide +kernel
theorem dX9_copy_153 : decode cX9_copy 153 = .ok (.iload 6, 2) := by decide +kernel
theorem dX9_copy_155 : decode cX9_copy 155 = .ok (.iaload, 1) := by decide +kernel
theorem dX9_copy_156 : decode cX9_copy 156 = .ok (.iastore, 1) := by decide +kernel
theorem dX9_copy_157 : decode cX9_copy 157 = .ok (.iinc 6 1, 3) := by decide +kernel
theorem dX9_copy_160 : decode cX9_copy 160 = .ok (.goto (-32), 3) := by decide +kernel
theorem dX9_copy_163 : decode cX9_copy 163 = .ok (.iconst 1, 1) := by decide +kernel
theorem dX9_copy_164 : decode cX9_copy 164 = .ok (.ireturn, 1) := by decide +kernel
theorem dX9_mean_0 : decode cX9_mean 0 = .ok (.iload_n 1, 1) := by decide +kernel
theorem dX9_mean_1 : decode cX9_mean 1 = .ok (.invokestatic 89, 3) := by decide +kernel
theorem dX9_mean_4 : decode cX9_mean 4 = .ok (.ifCond .ne 5, 3) := by decide +kernel
theorem dX9_mean_7 : decode cX9_mean 7 = .ok (.iconst (-1), 1) := by decide +kernel
theorem dX9_mean_8 : decode cX9_mean 8 = .ok (.ireturn, 1) := by decide +kernel
theorem dX9_mean_9 : decode cX9_mean 9 = .ok (.aload_n 0, 1) := by decide +kernel
theorem dX9_mean_10 : decode cX9_mean 10 = .ok (.getfield 19, 3) := by decide +kernel
theorem dX9_mean_13 : decode cX9_mean 13 = .ok (.iload_n 1, 1) := by decide +kernel
theorem dX9_mean_14 : decode cX9_mean 14 = .ok (.iaload, 1) := by decide +kernel
theorem dX9_mean_15 : decode cX9_mean 15 = .ok (.ifCond .ge 9, 3) := by decide +kernel
theorem dX9_mean_18 : decode cX9_mean 18 = .ok (.aload_n 0, 1) := by decide +kernel
theorem dX9_mean_19 : decode cX9_mean 19 = .ok (.iconst 1, 1) := by decide +kernel
theorem dX9_mean_20 : decode cX9_mean 20 = .ok (.invokevirtual 93, 3) := by decide +kernel
theorem dX9_mean_23 : decode cX9_mean 23 = .ok (.ireturn, 1) := by decide +kernel
theorem dX9_mean_24 : decode cX9_mean 24 = .ok (.aload_n 0, 1) := by decide +kernel
theorem dX9_mean_25 : decode cX9_mean 25 = .ok (.getfield 19, 3) := by decide +kernel
theorem dX9_mean_28 : decode cX9_mean 28 = .ok (.iload_n 1, 1) := by decide +kernel
theorem dX9_mean_29 : decode cX9_mean 29 = .ok (.iaload, 1) := by decide +kernel
theorem dX9_mean_30 : decode cX9_mean 30 = .ok (.ifCond .ne 9, 3) := by decide +kernel
theorem dX9_mean_33 : decode cX9_mean 33 = .ok (.aload_n 0, 1) := by decide +kernel
theorem dX9_mean_34 : decode cX9_mean 34 = .ok (.iconst 4, 1) := by decide +kernel
theorem dX9_mean_35 : decode cX9_mean 35 = .ok (.invokevirtual 93, 3) := by decide +kernel
theorem dX9_mean_38 : decode cX9_mean 38 = .ok (.ireturn, 1) := by decide +kernel
theorem dX9_mean_39 : decode cX9_mean 39 = .ok (.lconst 0, 1) := by decide +kernel
theorem dX9_mean_40 : decode cX9_mean 40 = .ok (.lstore_n 2, 1) := by decide +kernel
theorem dX9_mean_41 : decode cX9_mean 41 = .ok (.iconst 0, 1) := by decide +kernel
theorem dX9_mean_42 : decode cX9_mean 42 = .ok (.istore 4, 2) := by decide +kernel
theorem dX9_mean_44 : decode cX9_mean 44 = .ok (.iload 4, 2) := by decide +kernel
theorem dX9_mean_46 : decode cX9_mean 46 = .ok (.aload_n 0, 1) := by decide +kernel
theorem dX9_mean_47 : decode cX9_mean 47 = .ok (.getfield 19, 3) := by decide +kernel
theorem dX9_mean_50 : decode cX9_mean 50 = .ok (.iload_n 1, 1) := by decide +kernel
theorem dX9_mean_51 : decode cX9_mean 51 = .ok (.iaload, 1) := by decide +kernel
theorem dX9_mean_52 : decode cX9_mean 52 = .ok (.if_icmp .ge 25, 3) := by decide +kernel
theorem dX9_mean_55 : decode cX9_mean 55 = .ok (.lload_n 2, 1) := by decide +kernel
theorem dX9_mean_56 : decode cX9_mean 56 = .ok (.aload_n 0, 1) := by decide +kernel
theorem dX9_mean_57 : decode cX9_mean 57 = .ok (.getfield 16, 3) := by decide +kernel
theorem dX9_mean_60 : decode cX9_mean 60 = .ok (.bipush 40, 2) := by decide +kernel
theorem dX9_mean_62 : decode cX9_mean 62 = .ok (.iload_n 1, 1) := by decide +kernel
theorem dX9_mean_63 : decode cX9_mean 63 = .ok (.imul, 1) := by decide +kernel
theorem dX9_mean_64 : decode cX9_mean 64 = .ok (.iload 4, 2) := by decide +kernel
theorem dX9_mean_66 : decode cX9_mean 66 = .ok (.iadd, 1) := by decide +kernel
theorem dX9_mean_67 : decode cX9_mean 67 = .ok (.iaload, 1) := by decide +kernel
theorem dX9_mean_68 : decode cX9_mean 68 = .ok (.i2l, 1) := by decide +kernel
theorem dX9_mean_69 : decode cX9_mean 69 = .ok (.ladd, 1) := by decide +kernel
theorem dX9_mean_70 : decode cX9_mean 70 = .ok (.lstore_n 2, 1) := by decide +kernel
theorem dX9_mean_71 : decode cX9_mean 71 = .ok (.iinc 4 1, 3) := by decide +kernel
theorem dX9_mean_74 : decode cX9_mean 74 = .ok (.goto (-30), 3) := by decide +kernel
theorem dX9_mean_77 : decode cX9_mean 77 = .ok (.aload_n 0, 1) := by decide +kernel
theorem dX9_mean_78 : decode cX9_mean 78 = .ok (.lload_n 2, 1) := by decide +kernel
theorem dX9_mean_79 : decode cX9_mean 79 = .ok (.aload_n 0, 1) := by decide +kernel
theorem dX9_mean_80 : decode cX9_mean 80 = .ok (.getfield 19, 3) := by decide +kernel
theorem dX9_mean_83 : decode cX9_mean 83 = .ok (.iload_n 1, 1) := by decide +kernel
theorem dX9_mean_84 : decode cX9_mean 84 = .ok (.iaload, 1) := by decide +kernel
theorem dX9_mean_85 : decode cX9_mean 85 = .ok (.i2l, 1) := by decide +kernel
theorem dX9_mean_86 : decode cX9_mean 86 = .ok (.ldiv, 1) := by decide +kernel
theorem dX9_mean_87 : decode cX9_mean 87 = .ok (.l2i, 1) := by decide +kernel
theorem dX9_mean_88 : decode cX9_mean 88 = .ok (.iconst 1, 1) := by decide +kernel
theorem dX9_mean_89 : decode cX9_mean 89 = .ok (.invokevirtual 105, 3) := by decide +kernel
theorem dX9_mean_92 : decode cX9_mean 92 = .ok (.ireturn, 1) := by decide +kernel
theorem dX9_text_0 : decode cX9_text 0 = .ok (.iload_n 1, 1) := by decide +kernel
theorem dX9_text_1 : decode cX9_text 1 = .ok (.invokestatic 112, 3) := by decide +kernel
theorem dX9_text_4 : decode cX9_text 4 = .ok (.ifCond .eq 9, 3) := by decide +kernel
theorem dX9_text_7 : decode cX9_text 7 = .ok (.iload_n 2, 1) := by decide +kernel
theorem dX9_text_8 : decode cX9_text 8 = .ok (.bipush 60, 2) := by decide +kernel
theorem dX9_text_10 : decode cX9_text 10 = .ok (.if_icmp .le 5, 3) := by decide +kernel
theorem dX9_text_13 : decode cX9_text 13 = .ok (.iconst (-1), 1) := by decide +kernel
theorem dX9_text_14 : decode cX9_text 14 = .ok (.ireturn, 1) := by decide +kernel
theorem dX9_text_15 : decode cX9_text 15 = .ok (.iload_n 2, 1) := by decide +kernel
theorem dX9_text_16 : decode cX9_text 16 = .ok (.ifCond .ge 9, 3) := by decide +kernel
theorem dX9_text_19 : decode cX9_text 19 = .ok (.aload_n 0, 1) := by decide +kernel
theorem dX9_text_20 : decode cX9_text 20 = .ok (.iconst 5, 1) := by decide +kernel
theorem dX9_text_21 : decode cX9_text 21 = .ok (.invokevirtual 93, 3) := by decide +kernel
theorem dX9_text_24 : decode cX9_text 24 = .ok (.ireturn, 1) := by decide +kernel
theorem dX9_text_25 : decode cX9_text 25 = .ok (.aload_n 0, 1) := by decide +kernel
theorem dX9_text_26 : decode cX9_text 26 = .ok (.getfield 25, 3) := by decide +kernel
theorem dX9_text_29 : decode cX9_text 29 = .ok (.iload_n 1, 1) := by decide +kernel
theorem dX9_text_30 : decode cX9_text 30 = .ok (.iload_n 2, 1) := by decide +kernel
theorem dX9_text_31 : decode cX9_text 31 = .ok (.iastore, 1) := by decide +kernel
theorem dX9_text_32 : decode cX9_text 32 = .ok (.iconst 0, 1) := by decide +kernel
theorem dX9_text_33 : decode cX9_text 33 = .ok (.istore_n 3, 1) := by decide +kernel
theorem dX9_text_34 : decode cX9_text 34 = .ok (.iload_n 3, 1) := by decide +kernel
theorem dX9_text_35 : decode cX9_text 35 = .ok (.bipush 60, 2) := by decide +kernel
theorem dX9_text_37 : decode cX9_text 37 = .ok (.if_icmp .ge 22, 3) := by decide +kernel
theorem dX9_text_40 : decode cX9_text 40 = .ok (.aload_n 0, 1) := by decide +kernel
theorem dX9_text_41 : decode cX9_text 41 = .ok (.getfield 22, 3) := by decide +kernel
theorem dX9_text_44 : decode cX9_text 44 = .ok (.bipush 60, 2) := by decide +kernel
theorem dX9_text_46 : decode cX9_text 46 = .ok (.iload_n 1, 1) := by decide +kernel
theorem dX9_text_47 : decode cX9_text 47 = .ok (.imul, 1) := by decide +kernel
theorem dX9_text_48 : decode cX9_text 48 = .ok (.iload_n 3, 1) := by decide +kernel
theorem dX9_text_49 : decode cX9_text 49 = .ok (.iadd, 1) := by decide +kernel
theorem dX9_text_50 : decode cX9_text 50 = .ok (.bipush 32, 2) := by decide +kernel
theorem dX9_text_52 : decode cX9_text 52 = .ok (.iastore, 1) := by decide +kernel
theorem dX9_text_53 : decode cX9_text 53 = .ok (.iinc 3 1, 3) := by decide +kernel
theorem dX9_text_56 : decode cX9_text 56 = .ok (.goto (-22), 3) := by decide +kernel
theorem dX9_text_59 : decode cX9_text 59 = .ok (.iload_n 2, 1) := by decide +kernel
theorem dX9_text_60 : decode cX9_text 60 = .ok (.ireturn, 1) := by decide +kernel
theorem dX9_put_0 : decode cX9_put 0 = .ok (.iload_n 1, 1) := by decide +kernel
theorem dX9_put_1 : decode cX9_put 1 = .ok (.invokestatic 112, 3) := by decide +kernel
theorem dX9_put_4 : decode cX9_put 4 = .ok (.ifCond .ne 5, 3) := by decide +kernel
theorem dX9_put_7 : decode cX9_put 7 = .ok (.iconst (-1), 1) := by decide +kernel
theorem dX9_put_8 : decode cX9_put 8 = .ok (.ireturn, 1) := by decide +kernel
theorem dX9_put_9 : decode cX9_put 9 = .ok (.aload_n 0, 1) := by decide +kernel
theorem dX9_put_10 : decode cX9_put 10 = .ok (.getfield 25, 3) := by decide +kernel
theorem dX9_put_13 : decode cX9_put 13 = .ok (.iload_n 1, 1) := by decide +kernel
theorem dX9_put_14 : decode cX9_put 14 = .ok (.iaload, 1) := by decide +kernel
theorem dX9_put_15 : decode cX9_put 15 = .ok (.ifCond .ge 9, 3) := by decide +kernel
theorem dX9_put_18 : decode cX9_put 18 = .ok (.aload_n 0, 1) := by decide +kernel
theorem dX9_put_19 : decode cX9_put 19 = .ok (.iconst 1, 1) := by decide +kernel
theorem dX9_put_20 : decode cX9_put 20 = .ok (.invokevirtual 93, 3) := by decide +kernel
theorem dX9_put_23 : decode cX9_put 23 = .ok (.ireturn, 1) := by decide +kernel
theorem dX9_put_24 : decode cX9_put 24 = .ok (.iload_n 2, 1) := by decide +kernel
theorem dX9_put_25 : decode cX9_put 25 = .ok (.i2l, 1) := by decide +kernel
theorem dX9_put_26 : decode cX9_put 26 = .ok (.lconst 0, 1) := by decide +kernel
theorem dX9_put_27 : decode cX9_put 27 = .ok (.aload_n 0, 1) := by decide +kernel
theorem dX9_put_28 : decode cX9_put 28 = .ok (.getfield 25, 3) := by decide +kernel
theorem dX9_put_31 : decode cX9_put 31 = .ok (.iload_n 1, 1) := by decide +kernel
theorem dX9_put_32 : decode cX9_put 32 = .ok (.iaload, 1) := by decide +kernel
theorem dX9_put_33 : decode cX9_put 33 = .ok (.iconst 1, 1) := by decide +kernel
theorem dX9_put_34 : decode cX9_put 34 = .ok (.isub, 1) := by decide +kernel
theorem dX9_put_35 : decode cX9_put 35 = .ok (.i2l, 1) := by decide +kernel
theorem dX9_put_36 : decode cX9_put 36 = .ok (.invokestatic 83, 3) := by decide +kernel
theorem dX9_put_39 : decode cX9_put 39 = .ok (.ifCond .ne 9, 3) := by decide +kernel
theorem dX9_put_42 : decode cX9_put 42 = .ok (.aload_n 0, 1) := by decide +kernel
theorem dX9_put_43 : decode cX9_put 43 = .ok (.iconst 2, 1) := by decide +kernel
theorem dX9_put_44 : decode cX9_put 44 = .ok (.invokevirtual 93, 3) := by decide +kernel
theorem dX9_put_47 : decode cX9_put 47 = .ok (.ireturn, 1) := by decide +kernel
theorem dX9_put_48 : decode cX9_put 48 = .ok (.aload_n 0, 1) := by decide +kernel
theorem dX9_put_49 : decode cX9_put 49 = .ok (.getfield 22, 3) := by decide +kernel
theorem dX9_put_52 : decode cX9_put 52 = .ok (.bipush 60, 2) := by decide +kernel
theorem dX9_put_54 : decode cX9_put 54 = .ok (.iload_n 1, 1) := by decide +kernel
theorem dX9_put_55 : decode cX9_put 55 = .ok (.imul, 1) := by decide +kernel
theorem dX9_put_56 : decode cX9_put 56 = .ok (.iload_n 2, 1) := by decide +kernel
theorem dX9_put_57 : decode cX9_put 57 = .ok (.iadd, 1) := by decide +kernel
theorem dX9_put_58 : decode cX9_put 58 = .ok (.iaload, 1) := by decide +kernel
theorem dX9_put_59 : decode cX9_put 59 = .ok (.istore 4, 2) := by decide +kernel
theorem dX9_put_61 : decode cX9_put 61 = .ok (.aload_n 0, 1) := by decide +kernel
theorem dX9_put_62 : decode cX9_put 62 = .ok (.getfield 22, 3) := by decide +kernel
theorem dX9_put_65 : decode cX9_put 65 = .ok (.bipush 60, 2) := by decide +kernel
theorem dX9_put_67 : decode cX9_put 67 = .ok (.iload_n 1, 1) := by decide +kernel
theorem dX9_put_68 : decode cX9_put 68 = .ok (.imul, 1) := by decide +kernel
theorem dX9_put_69 : decode cX9_put 69 = .ok (.iload_n 2, 1) := by decide +kernel
theorem dX9_put_70 : decode cX9_put 70 = .ok (.iadd, 1) := by decide +kernel
theorem dX9_put_71 : decode cX9_put 71 = .ok (.iload_n 3, 1) := by decide +kernel
theorem dX9_put_72 : decode cX9_put 72 = .ok (.i2b, 1) := by decide +kernel
theorem dX9_put_73 : decode cX9_put 73 = .ok (.iastore, 1) := by decide +kernel
theorem dX9_put_74 : decode cX9_put 74 = .ok (.iload 4, 2) := by decide +kernel
theorem dX9_put_76 : decode cX9_put 76 = .ok (.sipush 1000, 3) := by decide +kernel
theorem dX9_put_79 : decode cX9_put 79 = .ok (.iadd, 1) := by decide +kernel
theorem dX9_put_80 : decode cX9_put 80 = .ok (.ireturn, 1) := by decide +kernel
theorem dX9_kindOf_0 : decode cX9_kindOf 0 = .ok (.iload_n 0, 1) := by decide +kernel
theorem dX9_kindOf_1 : decode cX9_kindOf 1 = .ok (.bipush 98, 2) := by decide +kernel
theorem dX9_kindOf_3 : decode cX9_kindOf 3 = .ok (.if_icmp .ne 7, 3) := by decide +kernel
theorem dX9_kindOf_6 : decode cX9_kindOf 6 = .ok (.iconst 0, 1) := by decide +kernel
theorem dX9_kindOf_7 : decode cX9_kindOf 7 = .ok (.goto 54, 3) := by decide +kernel
theorem dX9_kindOf_10 : decode cX9_kindOf 10 = .ok (.iload_n 0, 1) := by decide +kernel
theorem dX9_kindOf_11 : decode cX9_kindOf 11 = .ok (.bipush 104, 2) := by decide +kernel
theorem dX9_kindOf_13 : decode cX9_kindOf 13 = .ok (.if_icmp .ne 7, 3) := by decide +kernel
theorem dX9_kindOf_16 : decode cX9_kindOf 16 = .ok (.iconst 1, 1) := by decide +kernel
theorem dX9_kindOf_17 : decode cX9_kindOf 17 = .ok (.goto 44, 3) := by decide +kernel
theorem dX9_kindOf_20 : decode cX9_kindOf 20 = .ok (.iload_n 0, 1) := by decide +kernel
theorem dX9_kindOf_21 : decode cX9_kindOf 21 = .ok (.bipush 113, 2) := by decide +kernel
theorem dX9_kindOf_23 : decode cX9_kindOf 23 = .ok (.if_icmp .ne 7, 3) := by decide +kernel
theorem dX9_kindOf_26 : decode cX9_kindOf 26 = .ok (.iconst 2, 1) := by decide +kernel
theorem dX9_kindOf_27 : decode cX9_kindOf 27 = .ok (.goto 34, 3) := by decide +kernel
theorem dX9_kindOf_30 : decode cX9_kindOf 30 = .ok (.iload_n 0, 1) := by decide +kernel
theorem dX9_kindOf_31 : decode cX9_kindOf 31 = .ok (.bipush 110, 2) := by decide +kernel
theorem dX9_kindOf_33 : decode cX9_kindOf 33 = .ok (.if_icmp .ne 7, 3) := by decide +kernel
theorem dX9_kindOf_36 : decode cX9_kindOf 36 = .ok (.iconst 3, 1) := by decide +kernel
theorem dX9_kindOf_37 : decode cX9_kindOf 37 = .ok (.goto 24, 3) := by decide +kernel
theorem dX9_kindOf_40 : decode cX9_kindOf 40 = .ok (.iload_n 0, 1) := by decide +kernel
theorem dX9_kindOf_41 : decode cX9_kindOf 41 = .ok (.bipush 103, 2) := by decide +kernel
theorem dX9_kindOf_43 : decode cX9_kindOf 43 = .ok (.if_icmp .ne 7, 3) := by decide +kernel
theorem dX9_kindOf_46 : decode cX9_kindOf 46 = .ok (.iconst 4, 1) := by decide +kernel
theorem dX9_kindOf_47 : decode cX9_kindOf 47 = .ok (.goto 14, 3) := by decide +kernel
theorem dX9_kindOf_50 : decode cX9_kindOf 50 = .ok (.iload_n 0, 1) := by decide +kernel
theorem dX9_kindOf_51 : decode cX9_kindOf 51 = .ok (.bipush 116, 2) := by decide +kernel
theorem dX9_kindOf_53 : decode cX9_kindOf 53 = .ok (.if_icmp .ne 7, 3) := by decide +kernel
theorem dX9_kindOf_56 : decode cX9_kindOf 56 = .ok (.iconst 5, 1) := by decide +kernel
theorem dX9_kindOf_57 : decode cX9_kindOf 57 = .ok (.goto 4, 3) := by decide +kernel
theorem dX9_kindOf_60 : decode cX9_kindOf 60 = .ok (.iconst (-1), 1) := by decide +kernel
theorem dX9_kindOf_61 : decode cX9_kindOf 61 = .ok (.ireturn, 1) := by decide +kernel
theorem dX9_byteAt_0 : decode cX9_byteAt 0 = .ok (.iload_n 2, 1) := by decide +kernel
theorem dX9_byteAt_1 : decode cX9_byteAt 1 = .ok (.aload_n 0, 1) := by decide +kernel
theorem dX9_byteAt_2 : decode cX9_byteAt 2 = .ok (.getfield 25, 3) := by decide +kernel
theorem dX9_byteAt_5 : decode cX9_byteAt 5 = .ok (.iload_n 1, 1) := by decide +kernel
theorem dX9_byteAt_6 : decode cX9_byteAt 6 = .ok (.iaload, 1) := by decide +kernel
theorem dX9_byteAt_7 : decode cX9_byteAt 7 = .ok (.if_icmp .ge 17, 3) := by decide +kernel
theorem dX9_byteAt_10 : decode cX9_byteAt 10 = .ok (.aload_n 0, 1) := by decide +kernel
theorem dX9_byteAt_11 : decode cX9_byteAt 11 = .ok (.getfield 22, 3) := by decide +kernel
theorem dX9_byteAt_14 : decode cX9_byteAt 14 = .ok (.bipush 60, 2) := by decide +kernel
theorem dX9_byteAt_16 : decode cX9_byteAt 16 = .ok (.iload_n 1, 1) := by decide +kernel
theorem dX9_byteAt_17 : decode cX9_byteAt 17 = .ok (.imul, 1) := by decide +kernel
theorem dX9_byteAt_18 : decode cX9_byteAt 18 = .ok (.iload_n 2, 1) := by decide +kernel
theorem dX9_byteAt_19 : decode cX9_byteAt 19 = .ok (.iadd, 1) := by decide +kernel
theorem dX9_byteAt_20 : decode cX9_byteAt 20 = .ok (.iaload, 1) := by decide +kernel
theorem dX9_byteAt_21 : decode cX9_byteAt 21 = .ok (.goto 6, 3) := by decide +kernel
theorem dX9_byteAt_24 : decode cX9_byteAt 24 = .ok (.sipush (-1000), 3) := by decide +kernel
theorem dX9_byteAt_27 : decode cX9_byteAt 27 = .ok (.ireturn, 1) := by decide +kernel
theorem dX9_blanks_0 : decode cX9_blanks 0 = .ok (.aload_n 0, 1) := by decide +kernel
theorem dX9_blanks_1 : decode cX9_blanks 1 = .ok (.iload_n 1, 1) := by decide +kernel
theorem dX9_blanks_2 : decode cX9_blanks 2 = .ok (.aload_n 0, 1) := by decide +kernel
theorem dX9_blanks_3 : decode cX9_blanks 3 = .ok (.getfield 115, 3) := by decide +kernel
theorem dX9_blanks_6 : decode cX9_blanks 6 = .ok (.invokevirtual 118, 3) := by decide +kernel
theorem dX9_blanks_9 : decode cX9_blanks 9 = .ok (.bipush 32, 2) := by decide +kernel
theorem dX9_blanks_11 : decode cX9_blanks 11 = .ok (.if_icmp .ne 16, 3) := by decide +kernel
theorem dX9_blanks_14 : decode cX9_blanks 14 = .ok (.aload_n 0, 1) := by decide +kernel
theorem dX9_blanks_15 : decode cX9_blanks 15 = .ok (.dup, 1) := by decide +kernel
theorem dX9_blanks_16 : decode cX9_blanks 16 = .ok (.getfield 115, 3) := by decide +kernel
theorem dX9_blanks_19 : decode cX9_blanks 19 = .ok (.iconst 1, 1) := by decide +kernel
theorem dX9_blanks_20 : decode cX9_blanks 20 = .ok (.iadd, 1) := by decide +kernel
theorem dX9_blanks_21 : decode cX9_blanks 21 = .ok (.putfield 115, 3) := by decide +kernel
theorem dX9_blanks_24 : decode cX9_blanks 24 = .ok (.goto (-24), 3) := by decide +kernel
theorem dX9_blanks_27 : decode cX9_blanks 27 = .ok (.return_, 1) := by decide +kernel
theorem dX9_figure_0 : decode cX9_figure 0 = .ok (.aload_n 0, 1) := by decide +kernel
theorem dX9_figure_1 : decode cX9_figure 1 = .ok (.iload_n 1, 1) := by decide +kernel
theorem dX9_figure_2 : decode cX9_figure 2 = .ok (.aload_n 0, 1) := by decide +kernel
theorem dX9_figure_3 : decode cX9_figure 3 = .ok (.getfield 115, 3) := by decide +kernel
theorem dX9_figure_6 : decode cX9_figure 6 = .ok (.invokevirtual 118, 3) := by decide +kernel
theorem dX9_figure_9 : decode cX9_figure 9 = .ok (.bipush 48, 2) := by decide +kernel
theorem dX9_figure_11 : decode cX9_figure 11 = .ok (.isub, 1) := by decide +kernel
theorem dX9_figure_12 : decode cX9_figure 12 = .ok (.istore 4, 2) := by decide +kernel
theorem dX9_figure_14 : decode cX9_figure 14 = .ok (.iload 4, 2) := by decide +kernel
theorem dX9_figure_16 : decode cX9_figure 16 = .ok (.i2l, 1) := by decide +kernel
theorem dX9_figure_17 : decode cX9_figure 17 = .ok (.iload_n 2, 1) := by decide +kernel
theorem dX9_figure_18 : decode cX9_figure 18 = .ok (.i2l, 1) := by decide +kernel
theorem dX9_figure_19 : decode cX9_figure 19 = .ok (.iload_n 3, 1) := by decide +kernel
theorem dX9_figure_20 : decode cX9_figure 20 = .ok (.i2l, 1) := by decide +kernel
theorem dX9_figure_21 : decode cX9_figure 21 = .ok (.invokestatic 83, 3) := by decide +kernel
theorem dX9_figure_24 : decode cX9_figure 24 = .ok (.ifCond .ne 5, 3) := by decide +kernel
theorem dX9_figure_27 : decode cX9_figure 27 = .ok (.iconst (-1), 1) := by decide +kernel
theorem dX9_figure_28 : decode cX9_figure 28 = .ok (.ireturn, 1) := by decide +kernel
theorem dX9_figure_29 : decode cX9_figure 29 = .ok (.aload_n 0, 1) := by decide +kernel
theorem dX9_figure_30 : decode cX9_figure 30 = .ok (.dup, 1) := by decide +kernel
theorem dX9_figure_31 : decode cX9_figure 31 = .ok (.getfield 115, 3) := by decide +kernel
theorem dX9_figure_34 : decode cX9_figure 34 = .ok (.iconst 1, 1) := by decide +kernel
theorem dX9_figure_35 : decode cX9_figure 35 = .ok (.iadd, 1) := by decide +kernel
theorem dX9_figure_36 : decode cX9_figure 36 = .ok (.putfield 115, 3) := by decide +kernel
theorem dX9_figure_39 : decode cX9_figure 39 = .ok (.iload 4, 2) := by decide +kernel
theorem dX9_figure_41 : decode cX9_figure 41 = .ok (.ireturn, 1) := by decide +kernel
theorem dX9_takesBell_0 : decode cX9_takesBell 0 = .ok (.aload_n 0, 1) := by decide +kernel
theorem dX9_takesBell_1 : decode cX9_takesBell 1 = .ok (.iload_n 1, 1) := by decide +kernel
theorem dX9_takesBell_2 : decode cX9_takesBell 2 = .ok (.aload_n 0, 1) := by decide +kernel
theorem dX9_takesBell_3 : decode cX9_takesBell 3 = .ok (.getfield 115, 3) := by decide +kernel
theorem dX9_takesBell_6 : decode cX9_takesBell 6 = .ok (.invokevirtual 118, 3) := by decide +kernel
theorem dX9_takesBell_9 : decode cX9_takesBell 9 = .ok (.invokestatic 121, 3) := by decide +kernel
theorem dX9_takesBell_12 : decode cX9_takesBell 12 = .ok (.istore_n 2, 1) := by decide +kernel
theorem dX9_takesBell_13 : decode cX9_takesBell 13 = .ok (.aload_n 0, 1) := by decide +kernel
theorem dX9_takesBell_14 : decode cX9_takesBell 14 = .ok (.getfield 7, 3) := by decide +kernel
theorem dX9_takesBell_17 : decode cX9_takesBell 17 = .ok (.sipush 5248, 3) := by decide +kernel
theorem dX9_takesBell_20 : decode cX9_takesBell 20 = .ok (.iaload, 1) := by decide +kernel
theorem dX9_takesBell_21 : decode cX9_takesBell 21 = .ok (.istore_n 3, 1) := by decide +kernel
theorem dX9_takesBell_22 : decode cX9_takesBell 22 = .ok (.iload_n 2, 1) := by decide +kernel
theorem dX9_takesBell_23 : decode cX9_takesBell 23 = .ok (.ifCond .lt 9, 3) := by decide +kernel
theorem dX9_takesBell_26 : decode cX9_takesBell 26 = .ok (.iload_n 3, 1) := by decide +kernel
theorem dX9_takesBell_27 : decode cX9_takesBell 27 = .ok (.bipush 6, 2) := by decide +kernel
theorem dX9_takesBell_29 : decode cX9_takesBell 29 = .ok (.if_icmp .ne 5, 3) := by decide +kernel
theorem dX9_takesBell_32 : decode cX9_takesBell 32 = .ok (.iconst 0, 1) := by decide +kernel
theorem dX9_takesBell_33 : decode cX9_takesBell 33 = .ok (.ireturn, 1) := by decide +kernel
theorem dX9_takesBell_34 : decode cX9_takesBell 34 = .ok (.aload_n 0, 1) := by decide +kernel
theorem dX9_takesBell_35 : decode cX9_takesBell 35 = .ok (.dup, 1) := by decide +kernel
theorem dX9_takesBell_36 : decode cX9_takesBell 36 = .ok (.getfield 115, 3) := by decide +kernel
theorem dX9_takesBell_39 : decode cX9_takesBell 39 = .ok (.iconst 1, 1) := by decide +kernel
theorem dX9_takesBell_40 : decode cX9_takesBell 40 = .ok (.iadd, 1) := by decide +kernel
theorem dX9_takesBell_41 : decode cX9_takesBell 41 = .ok (.putfield 115, 3) := by decide +kernel
theorem dX9_takesBell_44 : decode cX9_takesBell 44 = .ok (.aload_n 0, 1) := by decide +kernel
theorem dX9_takesBell_45 : decode cX9_takesBell 45 = .ok (.iload_n 1, 1) := by decide +kernel
theorem dX9_takesBell_46 : decode cX9_takesBell 46 = .ok (.iconst 1, 1) := by decide +kernel
theorem dX9_takesBell_47 : decode cX9_takesBell 47 = .ok (.bipush 9, 2) := by decide +kernel
theorem dX9_takesBell_49 : decode cX9_takesBell 49 = .ok (.invokevirtual 124, 3) := by decide +kernel
theorem dX9_takesBell_52 : decode cX9_takesBell 52 = .ok (.istore 4, 2) := by decide +kernel
theorem dX9_takesBell_54 : decode cX9_takesBell 54 = .ok (.iload 4, 2) := by decide +kernel
theorem dX9_takesBell_56 : decode cX9_takesBell 56 = .ok (.ifCond .ge 7, 3) := by decide +kernel
theorem dX9_takesBell_59 : decode cX9_takesBell 59 = .ok (.iconst (-1), 1) := by decide +kernel
theorem dX9_takesBell_60 : decode cX9_takesBell 60 = .ok (.goto 10, 3) := by decide +kernel
theorem dX9_takesBell_63 : decode cX9_takesBell 63 = .ok (.aload_n 0, 1) := by decide +kernel
theorem dX9_takesBell_64 : decode cX9_takesBell 64 = .ok (.iload_n 1, 1) := by decide +kernel
theorem dX9_takesBell_65 : decode cX9_takesBell 65 = .ok (.iconst 0, 1) := by decide +kernel
theorem dX9_takesBell_66 : decode cX9_takesBell 66 = .ok (.iconst 2, 1) := by decide +kernel
theorem dX9_takesBell_67 : decode cX9_takesBell 67 = .ok (.invokevirtual 124, 3) := by decide +kernel
theorem dX9_takesBell_70 : decode cX9_takesBell 70 = .ok (.istore 5, 2) := by decide +kernel
theorem dX9_takesBell_72 : decode cX9_takesBell 72 = .ok (.iload 5, 2) := by decide +kernel
theorem dX9_takesBell_74 : decode cX9_takesBell 74 = .ok (.ifCond .ge 7, 3) := by decide +kernel
theorem dX9_takesBell_77 : decode cX9_takesBell 77 = .ok (.iconst (-1), 1) := by decide +kernel
theorem dX9_takesBell_78 : decode cX9_takesBell 78 = .ok (.goto 21, 3) := by decide +kernel
theorem dX9_takesBell_81 : decode cX9_takesBell 81 = .ok (.aload_n 0, 1) := by decide +kernel
theorem dX9_takesBell_82 : decode cX9_takesBell 82 = .ok (.iload_n 1, 1) := by decide +kernel
theorem dX9_takesBell_83 : decode cX9_takesBell 83 = .ok (.iconst 0, 1) := by decide +kernel
theorem dX9_takesBell_84 : decode cX9_takesBell 84 = .ok (.iload 5, 2) := by decide +kernel
theorem dX9_takesBell_86 : decode cX9_takesBell 86 = .ok (.iconst 2, 1) := by decide +kernel
theorem dX9_takesBell_87 : decode cX9_takesBell 87 = .ok (.if_icmp .ne 7, 3) := by decide +kernel
theorem dX9_takesBell_90 : decode cX9_takesBell 90 = .ok (.iconst 0, 1) := by decide +kernel
theorem dX9_takesBell_91 : decode cX9_takesBell 91 = .ok (.goto 5, 3) := by decide +kernel
theorem dX9_takesBell_94 : decode cX9_takesBell 94 = .ok (.bipush 9, 2) := by decide +kernel
theorem dX9_takesBell_96 : decode cX9_takesBell 96 = .ok (.invokevirtual 124, 3) := by decide +kernel
theorem dX9_takesBell_99 : decode cX9_takesBell 99 = .ok (.istore 6, 2) := by decide +kernel
theorem dX9_takesBell_101 : decode cX9_takesBell 101 = .ok (.iload 6, 2) := by decide +kernel
theorem dX9_takesBell_103 : decode cX9_takesBell 103 = .ok (.ifCond .ge 5, 3) := by decide +kernel
theorem dX9_takesBell_106 : decode cX9_takesBell 106 = .ok (.iconst 0, 1) := by decide +kernel
theorem dX9_takesBell_107 : decode cX9_takesBell 107 = .ok (.ireturn, 1) := by decide +kernel
theorem dX9_takesBell_108 : decode cX9_takesBell 108 = .ok (.aload_n 0, 1) := by decide +kernel
theorem dX9_takesBell_109 : decode cX9_takesBell 109 = .ok (.getfield 7, 3) := by decide +kernel
theorem dX9_takesBell_112 : decode cX9_takesBell 112 = .ok (.sipush 5250, 3) := by decide +kernel
theorem dX9_takesBell_115 : decode cX9_takesBell 115 = .ok (.iload_n 3, 1) := by decide +kernel
theorem dX9_takesBell_116 : decode cX9_takesBell 116 = .ok (.iadd, 1) := by decide +kernel
theorem dX9_takesBell_117 : decode cX9_takesBell 117 = .ok (.iload_n 2, 1) := by decide +kernel
theorem dX9_takesBell_118 : decode cX9_takesBell 118 = .ok (.iastore, 1) := by decide +kernel
theorem dX9_takesBell_119 : decode cX9_takesBell 119 = .ok (.aload_n 0, 1) := by decide +kernel
theorem dX9_takesBell_120 : decode cX9_takesBell 120 = .ok (.getfield 7, 3) := by decide +kernel
theorem dX9_takesBell_123 : decode cX9_takesBell 123 = .ok (.sipush 5256, 3) := by decide +kernel
theorem dX9_takesBell_126 : decode cX9_takesBell 126 = .ok (.iload_n 3, 1) := by decide +kernel
theorem dX9_takesBell_127 : decode cX9_takesBell 127 = .ok (.iadd, 1) := by decide +kernel
theorem dX9_takesBell_128 : decode cX9_takesBell 128 = .ok (.iload 4, 2) := by decide +kernel
theorem dX9_takesBell_130 : decode cX9_takesBell 130 = .ok (.iastore, 1) := by decide +kernel
theorem dX9_takesBell_131 : decode cX9_takesBell 131 = .ok (.aload_n 0, 1) := by decide +kernel
theorem dX9_takesBell_132 : decode cX9_takesBell 132 = .ok (.getfield 7, 3) := by decide +kernel
theorem dX9_takesBell_135 : decode cX9_takesBell 135 = .ok (.sipush 5262, 3) := by decide +kernel
theorem dX9_takesBell_138 : decode cX9_takesBell 138 = .ok (.iload_n 3, 1) := by decide +kernel
theorem dX9_takesBell_139 : decode cX9_takesBell 139 = .ok (.iadd, 1) := by decide +kernel
theorem dX9_takesBell_140 : decode cX9_takesBell 140 = .ok (.bipush 10, 2) := by decide +kernel
theorem dX9_takesBell_142 : decode cX9_takesBell 142 = .ok (.iload 5, 2) := by decide +kernel
theorem dX9_takesBell_144 : decode cX9_takesBell 144 = .ok (.imul, 1) := by decide +kernel
theorem dX9_takesBell_145 : decode cX9_takesBell 145 = .ok (.iload 6, 2) := by decide +kernel
theorem dX9_takesBell_147 : decode cX9_takesBell 147 = .ok (.iadd, 1) := by decide +kernel
theorem dX9_takesBell_148 : decode cX9_takesBell 148 = .ok (.iastore, 1) := by decide +kernel
theorem dX9_takesBell_149 : decode cX9_takesBell 149 = .ok (.aload_n 0, 1) := by decide +kernel
theorem dX9_takesBell_150 : decode cX9_takesBell 150 = .ok (.getfield 7, 3) := by decide +kernel
theorem dX9_takesBell_153 : decode cX9_takesBell 153 = .ok (.sipush 5248, 3) := by decide +kernel
theorem dX9_takesBell_156 : decode cX9_takesBell 156 = .ok (.dup2, 1) := by decide +kernel
theorem dX9_takesBell_157 : decode cX9_takesBell 157 = .ok (.iaload, 1) := by decide +kernel
theorem dX9_takesBell_158 : decode cX9_takesBell 158 = .ok (.iconst 1, 1) := by decide +kernel
theorem dX9_takesBell_159 : decode cX9_takesBell 159 = .ok (.iadd, 1) := by decide +kernel
theorem dX9_takesBell_160 : decode cX9_takesBell 160 = .ok (.iastore, 1) := by decide +kernel
theorem dX9_takesBell_161 : decode cX9_takesBell 161 = .ok (.iconst 1, 1) := by decide +kernel
theorem dX9_takesBell_162 : decode cX9_takesBell 162 = .ok (.ireturn, 1) := by decide +kernel
theorem dX9_faultOf_0 : decode cX9_faultOf 0 = .ok (.iconst 0, 1) := by decide +kernel
theorem dX9_faultOf_1 : decode cX9_faultOf 1 = .ok (.istore_n 2, 1) := by decide +kernel
theorem dX9_faultOf_2 : decode cX9_faultOf 2 = .ok (.iload_n 2, 1) := by decide +kernel
theorem dX9_faultOf_3 : decode cX9_faultOf 3 = .ok (.bipush 32, 2) := by decide +kernel
theorem dX9_faultOf_5 : decode cX9_faultOf 5 = .ok (.if_icmp .ge 20, 3) := by decide +kernel
theorem dX9_faultOf_8 : decode cX9_faultOf 8 = .ok (.aload_n 0, 1) := by decide +kernel
theorem dX9_faultOf_9 : decode cX9_faultOf 9 = .ok (.getfield 7, 3) := by decide +kernel
theorem dX9_faultOf_12 : decode cX9_faultOf 12 = .ok (.sipush 5248, 3) := by decide +kernel
theorem dX9_faultOf_15 : decode cX9_faultOf 15 = .ok (.iload_n 2, 1) := by decide +kernel
theorem dX9_faultOf_16 : decode cX9_faultOf 16 = .ok (.iadd, 1) := by decide +kernel
theorem dX9_faultOf_17 : decode cX9_faultOf 17 = .ok (.iconst 0, 1) := by decide +kernel
theorem dX9_faultOf_18 : decode cX9_faultOf 18 = .ok (.iastore, 1) := by decide +kernel
theorem dX9_faultOf_19 : decode cX9_faultOf 19 = .ok (.iinc 2 1, 3) := by decide +kernel
theorem dX9_faultOf_22 : decode cX9_faultOf 22 = .ok (.goto (-20), 3) := by decide +kernel
theorem dX9_faultOf_25 : decode cX9_faultOf 25 = .ok (.aload_n 0, 1) := by decide +kernel
theorem dX9_faultOf_26 : decode cX9_faultOf 26 = .ok (.iconst 0, 1) := by decide +kernel
theorem dX9_faultOf_27 : decode cX9_faultOf 27 = .ok (.putfield 115, 3) := by decide +kernel
theorem dX9_faultOf_30 : decode cX9_faultOf 30 = .ok (.aload_n 0, 1) := by decide +kernel
theorem dX9_faultOf_31 : decode cX9_faultOf 31 = .ok (.iload_n 1, 1) := by decide +kernel
theorem dX9_faultOf_32 : decode cX9_faultOf 32 = .ok (.invokevirtual 128, 3) := by decide +kernel
theorem dX9_faultOf_35 : decode cX9_faultOf 35 = .ok (.aload_n 0, 1) := by decide +kernel
theorem dX9_faultOf_36 : decode cX9_faultOf 36 = .ok (.iload_n 1, 1) := by decide +kernel
theorem dX9_faultOf_37 : decode cX9_faultOf 37 = .ok (.aload_n 0, 1) := by decide +kernel
theorem dX9_faultOf_38 : decode cX9_faultOf 38 = .ok (.getfield 115, 3) := by decide +kernel
theorem dX9_faultOf_41 : decode cX9_faultOf 41 = .ok (.invokevirtual 118, 3) := by decide +kernel
theorem dX9_faultOf_44 : decode cX9_faultOf 44 = .ok (.bipush 100, 2) := by decide +kernel
theorem dX9_faultOf_46 : decode cX9_faultOf 46 = .ok (.if_icmp .eq 8, 3) := by decide +kernel
theorem dX9_faultOf_49 : decode cX9_faultOf 49 = .ok (.aload_n 0, 1) := by decide +kernel
theorem dX9_faultOf_50 : decode cX9_faultOf 50 = .ok (.getfield 115, 3) := by decide +kernel
theorem dX9_faultOf_53 : decode cX9_faultOf 53 = .ok (.ireturn, 1) := by decide +kernel
theorem dX9_faultOf_54 : decode cX9_faultOf 54 = .ok (.aload_n 0, 1) := by decide +kernel
theorem dX9_faultOf_55 : decode cX9_faultOf 55 = .ok (.dup, 1) := by decide +kernel
theorem dX9_faultOf_56 : decode cX9_faultOf 56 = .ok (.getfield 115, 3) := by decide +kernel
theorem dX9_faultOf_59 : decode cX9_faultOf 59 = .ok (.iconst 1, 1) := by decide +kernel
theorem dX9_faultOf_60 : decode cX9_faultOf 60 = .ok (.iadd, 1) := by decide +kernel
theorem dX9_faultOf_61 : decode cX9_faultOf 61 = .ok (.putfield 115, 3) := by decide +kernel
theorem dX9_faultOf_64 : decode cX9_faultOf 64 = .ok (.aload_n 0, 1) := by decide +kernel
theorem dX9_faultOf_65 : decode cX9_faultOf 65 = .ok (.iload_n 1, 1) := by decide +kernel
theorem dX9_faultOf_66 : decode cX9_faultOf 66 = .ok (.iconst 0, 1) := by decide +kernel
theorem dX9_faultOf_67 : decode cX9_faultOf 67 = .ok (.iconst 3, 1) := by decide +kernel
theorem dX9_faultOf_68 : decode cX9_faultOf 68 = .ok (.invokevirtual 124, 3) := by decide +kernel
end
section
theorem dX9_faultOf_71 : decode cX9_faultOf 71 = .ok (.istore_n 2, 1) := by decide +kernel
theorem dX9_faultOf_72 : decode cX9_faultOf 72 = .ok (.iload_n 2, 1) := by decide +kernel
theorem dX9_faultOf_73 : decode cX9_faultOf 73 = .ok (.ifCond .ge 8, 3) := by decide +kernel
theorem dX9_faultOf_76 : decode cX9_faultOf 76 = .ok (.aload_n 0, 1) := by decide +kernel
theorem dX9_faultOf_77 : decode cX9_faultOf 77 = .ok (.getfield 115, 3) := by decide +kernel
theorem dX9_faultOf_80 : decode cX9_faultOf 80 = .ok (.ireturn, 1) := by decide +kernel
theorem dX9_faultOf_81 : decode cX9_faultOf 81 = .ok (.aload_n 0, 1) := by decide +kernel
theorem dX9_faultOf_82 : decode cX9_faultOf 82 = .ok (.getfield 7, 3) := by decide +kernel
theorem dX9_faultOf_85 : decode cX9_faultOf 85 = .ok (.sipush 5249, 3) := by decide +kernel
theorem dX9_faultOf_88 : decode cX9_faultOf 88 = .ok (.iload_n 2, 1) := by decide +kernel
theorem dX9_faultOf_89 : decode cX9_faultOf 89 = .ok (.iastore, 1) := by decide +kernel
theorem dX9_faultOf_90 : decode cX9_faultOf 90 = .ok (.aload_n 0, 1) := by decide +kernel
theorem dX9_faultOf_91 : decode cX9_faultOf 91 = .ok (.iload_n 1, 1) := by decide +kernel
theorem dX9_faultOf_92 : decode cX9_faultOf 92 = .ok (.invokevirtual 128, 3) := by decide +kernel
theorem dX9_faultOf_95 : decode cX9_faultOf 95 = .ok (.aload_n 0, 1) := by decide +kernel
theorem dX9_faultOf_96 : decode cX9_faultOf 96 = .ok (.getfield 115, 3) := by decide +kernel
theorem dX9_faultOf_99 : decode cX9_faultOf 99 = .ok (.aload_n 0, 1) := by decide +kernel
theorem dX9_faultOf_100 : decode cX9_faultOf 100 = .ok (.getfield 25, 3) := by decide +kernel
theorem dX9_faultOf_103 : decode cX9_faultOf 103 = .ok (.iload_n 1, 1) := by decide +kernel
theorem dX9_faultOf_104 : decode cX9_faultOf 104 = .ok (.iaload, 1) := by decide +kernel
theorem dX9_faultOf_105 : decode cX9_faultOf 105 = .ok (.if_icmp .lt 14, 3) := by decide +kernel
theorem dX9_faultOf_108 : decode cX9_faultOf 108 = .ok (.aload_n 0, 1) := by decide +kernel
theorem dX9_faultOf_109 : decode cX9_faultOf 109 = .ok (.getfield 7, 3) := by decide +kernel
theorem dX9_faultOf_112 : decode cX9_faultOf 112 = .ok (.sipush 5248, 3) := by decide +kernel
theorem dX9_faultOf_115 : decode cX9_faultOf 115 = .ok (.iaload, 1) := by decide +kernel
theorem dX9_faultOf_116 : decode cX9_faultOf 116 = .ok (.ifCond .ne 24, 3) := by decide +kernel
theorem dX9_faultOf_119 : decode cX9_faultOf 119 = .ok (.aload_n 0, 1) := by decide +kernel
theorem dX9_faultOf_120 : decode cX9_faultOf 120 = .ok (.iload_n 1, 1) := by decide +kernel
theorem dX9_faultOf_121 : decode cX9_faultOf 121 = .ok (.invokevirtual 132, 3) := by decide +kernel
theorem dX9_faultOf_124 : decode cX9_faultOf 124 = .ok (.ifCond .ne 8, 3) := by decide +kernel
theorem dX9_faultOf_127 : decode cX9_faultOf 127 = .ok (.aload_n 0, 1) := by decide +kernel
theorem dX9_faultOf_128 : decode cX9_faultOf 128 = .ok (.getfield 115, 3) := by decide +kernel
theorem dX9_faultOf_131 : decode cX9_faultOf 131 = .ok (.ireturn, 1) := by decide +kernel
theorem dX9_faultOf_132 : decode cX9_faultOf 132 = .ok (.aload_n 0, 1) := by decide +kernel
theorem dX9_faultOf_133 : decode cX9_faultOf 133 = .ok (.iload_n 1, 1) := by decide +kernel
theorem dX9_faultOf_134 : decode cX9_faultOf 134 = .ok (.invokevirtual 128, 3) := by decide +kernel
theorem dX9_faultOf_137 : decode cX9_faultOf 137 = .ok (.goto (-42), 3) := by decide +kernel
theorem dX9_faultOf_140 : decode cX9_faultOf 140 = .ok (.bipush (-9), 2) := by decide +kernel
theorem dX9_faultOf_142 : decode cX9_faultOf 142 = .ok (.ireturn, 1) := by decide +kernel
theorem dX9_fault_0 : decode cX9_fault 0 = .ok (.iload_n 1, 1) := by decide +kernel
theorem dX9_fault_1 : decode cX9_fault 1 = .ok (.invokestatic 112, 3) := by decide +kernel
theorem dX9_fault_4 : decode cX9_fault 4 = .ok (.ifCond .ne 5, 3) := by decide +kernel
theorem dX9_fault_7 : decode cX9_fault 7 = .ok (.iconst (-1), 1) := by decide +kernel
theorem dX9_fault_8 : decode cX9_fault 8 = .ok (.ireturn, 1) := by decide +kernel
theorem dX9_fault_9 : decode cX9_fault 9 = .ok (.aload_n 0, 1) := by decide +kernel
theorem dX9_fault_10 : decode cX9_fault 10 = .ok (.getfield 25, 3) := by decide +kernel
theorem dX9_fault_13 : decode cX9_fault 13 = .ok (.iload_n 1, 1) := by decide +kernel
theorem dX9_fault_14 : decode cX9_fault 14 = .ok (.iaload, 1) := by decide +kernel
theorem dX9_fault_15 : decode cX9_fault 15 = .ok (.ifCond .ge 11, 3) := by decide +kernel
theorem dX9_fault_18 : decode cX9_fault 18 = .ok (.aload_n 0, 1) := by decide +kernel
theorem dX9_fault_19 : decode cX9_fault 19 = .ok (.iconst 1, 1) := by decide +kernel
theorem dX9_fault_20 : decode cX9_fault 20 = .ok (.invokevirtual 93, 3) := by decide +kernel
theorem dX9_fault_23 : decode cX9_fault 23 = .ok (.goto 8, 3) := by decide +kernel
theorem dX9_fault_26 : decode cX9_fault 26 = .ok (.aload_n 0, 1) := by decide +kernel
theorem dX9_fault_27 : decode cX9_fault 27 = .ok (.iload_n 1, 1) := by decide +kernel
theorem dX9_fault_28 : decode cX9_fault 28 = .ok (.invokevirtual 135, 3) := by decide +kernel
theorem dX9_fault_31 : decode cX9_fault 31 = .ok (.ireturn, 1) := by decide +kernel
theorem dX9_tower_0 : decode cX9_tower 0 = .ok (.iload_n 1, 1) := by decide +kernel
theorem dX9_tower_1 : decode cX9_tower 1 = .ok (.invokestatic 112, 3) := by decide +kernel
theorem dX9_tower_4 : decode cX9_tower 4 = .ok (.ifCond .ne 5, 3) := by decide +kernel
theorem dX9_tower_7 : decode cX9_tower 7 = .ok (.iconst (-1), 1) := by decide +kernel
theorem dX9_tower_8 : decode cX9_tower 8 = .ok (.ireturn, 1) := by decide +kernel
theorem dX9_tower_9 : decode cX9_tower 9 = .ok (.aload_n 0, 1) := by decide +kernel
theorem dX9_tower_10 : decode cX9_tower 10 = .ok (.getfield 25, 3) := by decide +kernel
theorem dX9_tower_13 : decode cX9_tower 13 = .ok (.iload_n 1, 1) := by decide +kernel
theorem dX9_tower_14 : decode cX9_tower 14 = .ok (.iaload, 1) := by decide +kernel
theorem dX9_tower_15 : decode cX9_tower 15 = .ok (.ifCond .ge 9, 3) := by decide +kernel
theorem dX9_tower_18 : decode cX9_tower 18 = .ok (.aload_n 0, 1) := by decide +kernel
theorem dX9_tower_19 : decode cX9_tower 19 = .ok (.iconst 1, 1) := by decide +kernel
theorem dX9_tower_20 : decode cX9_tower 20 = .ok (.invokevirtual 93, 3) := by decide +kernel
theorem dX9_tower_23 : decode cX9_tower 23 = .ok (.ireturn, 1) := by decide +kernel
theorem dX9_tower_24 : decode cX9_tower 24 = .ok (.aload_n 0, 1) := by decide +kernel
theorem dX9_tower_25 : decode cX9_tower 25 = .ok (.iload_n 1, 1) := by decide +kernel
theorem dX9_tower_26 : decode cX9_tower 26 = .ok (.invokevirtual 135, 3) := by decide +kernel
theorem dX9_tower_29 : decode cX9_tower 29 = .ok (.bipush (-9), 2) := by decide +kernel
theorem dX9_tower_31 : decode cX9_tower 31 = .ok (.if_icmp .eq 6, 3) := by decide +kernel
theorem dX9_tower_34 : decode cX9_tower 34 = .ok (.bipush (-4), 2) := by decide +kernel
theorem dX9_tower_36 : decode cX9_tower 36 = .ok (.ireturn, 1) := by decide +kernel
theorem dX9_tower_37 : decode cX9_tower 37 = .ok (.aload_n 0, 1) := by decide +kernel
theorem dX9_tower_38 : decode cX9_tower 38 = .ok (.sipush 5248, 3) := by decide +kernel
theorem dX9_tower_41 : decode cX9_tower 41 = .ok (.iconst 0, 1) := by decide +kernel
theorem dX9_tower_42 : decode cX9_tower 42 = .ok (.bipush 32, 2) := by decide +kernel
theorem dX9_tower_44 : decode cX9_tower 44 = .ok (.invokevirtual 138, 3) := by decide +kernel
theorem dX9_tower_47 : decode cX9_tower 47 = .ok (.aload_n 0, 1) := by decide +kernel
theorem dX9_tower_48 : decode cX9_tower 48 = .ok (.iconst 0, 1) := by decide +kernel
theorem dX9_tower_49 : decode cX9_tower 49 = .ok (.putfield 142, 3) := by decide +kernel
theorem dX9_tower_52 : decode cX9_tower 52 = .ok (.iconst 0, 1) := by decide +kernel
theorem dX9_tower_53 : decode cX9_tower 53 = .ok (.istore_n 2, 1) := by decide +kernel
theorem dX9_tower_54 : decode cX9_tower 54 = .ok (.iload_n 2, 1) := by decide +kernel
theorem dX9_tower_55 : decode cX9_tower 55 = .ok (.iconst 3, 1) := by decide +kernel
theorem dX9_tower_56 : decode cX9_tower 56 = .ok (.if_icmp .ge 16, 3) := by decide +kernel
theorem dX9_tower_59 : decode cX9_tower 59 = .ok (.aload_n 0, 1) := by decide +kernel
theorem dX9_tower_60 : decode cX9_tower 60 = .ok (.getfield 13, 3) := by decide +kernel
theorem dX9_tower_63 : decode cX9_tower 63 = .ok (.iload_n 2, 1) := by decide +kernel
theorem dX9_tower_64 : decode cX9_tower 64 = .ok (.iconst (-1), 1) := by decide +kernel
theorem dX9_tower_65 : decode cX9_tower 65 = .ok (.iastore, 1) := by decide +kernel
theorem dX9_tower_66 : decode cX9_tower 66 = .ok (.iinc 2 1, 3) := by decide +kernel
theorem dX9_tower_69 : decode cX9_tower 69 = .ok (.goto (-15), 3) := by decide +kernel
theorem dX9_tower_72 : decode cX9_tower 72 = .ok (.aload_n 0, 1) := by decide +kernel
theorem dX9_tower_73 : decode cX9_tower 73 = .ok (.getfield 7, 3) := by decide +kernel
theorem dX9_tower_76 : decode cX9_tower 76 = .ok (.iconst 0, 1) := by decide +kernel
theorem dX9_tower_77 : decode cX9_tower 77 = .ok (.iaload, 1) := by decide +kernel
theorem dX9_tower_78 : decode cX9_tower 78 = .ok (.ireturn, 1) := by decide +kernel
theorem dX9_isBell_0 : decode cX9_isBell 0 = .ok (.iload_n 1, 1) := by decide +kernel
theorem dX9_isBell_1 : decode cX9_isBell 1 = .ok (.i2l, 1) := by decide +kernel
theorem dX9_isBell_2 : decode cX9_isBell 2 = .ok (.lconst 0, 1) := by decide +kernel
theorem dX9_isBell_3 : decode cX9_isBell 3 = .ok (.aload_n 0, 1) := by decide +kernel
theorem dX9_isBell_4 : decode cX9_isBell 4 = .ok (.getfield 7, 3) := by decide +kernel
theorem dX9_isBell_7 : decode cX9_isBell 7 = .ok (.iconst 0, 1) := by decide +kernel
theorem dX9_isBell_8 : decode cX9_isBell 8 = .ok (.iaload, 1) := by decide +kernel
theorem dX9_isBell_9 : decode cX9_isBell 9 = .ok (.iconst 1, 1) := by decide +kernel
theorem dX9_isBell_10 : decode cX9_isBell 10 = .ok (.isub, 1) := by decide +kernel
theorem dX9_isBell_11 : decode cX9_isBell 11 = .ok (.i2l, 1) := by decide +kernel
theorem dX9_isBell_12 : decode cX9_isBell 12 = .ok (.invokestatic 83, 3) := by decide +kernel
theorem dX9_isBell_15 : decode cX9_isBell 15 = .ok (.ireturn, 1) := by decide +kernel
theorem dX9_isOver_0 : decode cX9_isOver 0 = .ok (.aload_n 0, 1) := by decide +kernel
theorem dX9_isOver_1 : decode cX9_isOver 1 = .ok (.getfield 7, 3) := by decide +kernel
theorem dX9_isOver_4 : decode cX9_isOver 4 = .ok (.bipush 20, 2) := by decide +kernel
theorem dX9_isOver_6 : decode cX9_isOver 6 = .ok (.iload_n 1, 1) := by decide +kernel
theorem dX9_isOver_7 : decode cX9_isOver 7 = .ok (.iadd, 1) := by decide +kernel
theorem dX9_isOver_8 : decode cX9_isOver 8 = .ok (.iaload, 1) := by decide +kernel
theorem dX9_isOver_9 : decode cX9_isOver 9 = .ok (.iconst 1, 1) := by decide +kernel
theorem dX9_isOver_10 : decode cX9_isOver 10 = .ok (.if_icmp .ne 7, 3) := by decide +kernel
theorem dX9_isOver_13 : decode cX9_isOver 13 = .ok (.iconst 1, 1) := by decide +kernel
theorem dX9_isOver_14 : decode cX9_isOver 14 = .ok (.goto 4, 3) := by decide +kernel
theorem dX9_isOver_17 : decode cX9_isOver 17 = .ok (.iconst 0, 1) := by decide +kernel
theorem dX9_isOver_18 : decode cX9_isOver 18 = .ok (.ireturn, 1) := by decide +kernel
theorem dX9_bell_0 : decode cX9_bell 0 = .ok (.aload_n 0, 1) := by decide +kernel
theorem dX9_bell_1 : decode cX9_bell 1 = .ok (.iload_n 1, 1) := by decide +kernel
theorem dX9_bell_2 : decode cX9_bell 2 = .ok (.invokevirtual 145, 3) := by decide +kernel
theorem dX9_bell_5 : decode cX9_bell 5 = .ok (.ifCond .eq 15, 3) := by decide +kernel
theorem dX9_bell_8 : decode cX9_bell 8 = .ok (.iload_n 2, 1) := by decide +kernel
theorem dX9_bell_9 : decode cX9_bell 9 = .ok (.i2l, 1) := by decide +kernel
theorem dX9_bell_10 : decode cX9_bell 10 = .ok (.lconst 0, 1) := by decide +kernel
theorem dX9_bell_11 : decode cX9_bell 11 = .ok (.ldc2_w 81, 3) := by decide +kernel
theorem dX9_bell_14 : decode cX9_bell 14 = .ok (.invokestatic 83, 3) := by decide +kernel
theorem dX9_bell_17 : decode cX9_bell 17 = .ok (.ifCond .ne 5, 3) := by decide +kernel
theorem dX9_bell_20 : decode cX9_bell 20 = .ok (.iconst (-1), 1) := by decide +kernel
theorem dX9_bell_21 : decode cX9_bell 21 = .ok (.ireturn, 1) := by decide +kernel
theorem dX9_bell_22 : decode cX9_bell 22 = .ok (.aload_n 0, 1) := by decide +kernel
theorem dX9_bell_23 : decode cX9_bell 23 = .ok (.aload_n 0, 1) := by decide +kernel
theorem dX9_bell_24 : decode cX9_bell 24 = .ok (.iload_n 1, 1) := by decide +kernel
theorem dX9_bell_25 : decode cX9_bell 25 = .ok (.iload_n 2, 1) := by decide +kernel
theorem dX9_bell_26 : decode cX9_bell 26 = .ok (.invokevirtual 148, 3) := by decide +kernel
theorem dX9_bell_29 : decode cX9_bell 29 = .ok (.iconst 1, 1) := by decide +kernel
theorem dX9_bell_30 : decode cX9_bell 30 = .ok (.invokevirtual 105, 3) := by decide +kernel
theorem dX9_bell_33 : decode cX9_bell 33 = .ok (.ireturn, 1) := by decide +kernel
theorem dX9_bellTells_0 : decode cX9_bellTells 0 = .ok (.iload_n 2, 1) := by decide +kernel
theorem dX9_bellTells_1 : decode cX9_bellTells 1 = .ok (.tableswitch 94 0 4 #[35, 44, 54, 64, 74], 35) := by decide +kernel
theorem dX9_bellTells_36 : decode cX9_bellTells 36 = .ok (.aload_n 0, 1) := by decide +kernel
theorem dX9_bellTells_37 : decode cX9_bellTells 37 = .ok (.getfield 7, 3) := by decide +kernel
theorem dX9_bellTells_40 : decode cX9_bellTells 40 = .ok (.iconst 2, 1) := by decide +kernel
theorem dX9_bellTells_41 : decode cX9_bellTells 41 = .ok (.iload_n 1, 1) := by decide +kernel
theorem dX9_bellTells_42 : decode cX9_bellTells 42 = .ok (.iadd, 1) := by decide +kernel
theorem dX9_bellTells_43 : decode cX9_bellTells 43 = .ok (.iaload, 1) := by decide +kernel
theorem dX9_bellTells_44 : decode cX9_bellTells 44 = .ok (.ireturn, 1) := by decide +kernel
theorem dX9_bellTells_45 : decode cX9_bellTells 45 = .ok (.aload_n 0, 1) := by decide +kernel
theorem dX9_bellTells_46 : decode cX9_bellTells 46 = .ok (.getfield 7, 3) := by decide +kernel
theorem dX9_bellTells_49 : decode cX9_bellTells 49 = .ok (.bipush 8, 2) := by decide +kernel
theorem dX9_bellTells_51 : decode cX9_bellTells 51 = .ok (.iload_n 1, 1) := by decide +kernel
theorem dX9_bellTells_52 : decode cX9_bellTells 52 = .ok (.iadd, 1) := by decide +kernel
theorem dX9_bellTells_53 : decode cX9_bellTells 53 = .ok (.iaload, 1) := by decide +kernel
theorem dX9_bellTells_54 : decode cX9_bellTells 54 = .ok (.ireturn, 1) := by decide +kernel
theorem dX9_bellTells_55 : decode cX9_bellTells 55 = .ok (.aload_n 0, 1) := by decide +kernel
theorem dX9_bellTells_56 : decode cX9_bellTells 56 = .ok (.getfield 7, 3) := by decide +kernel
theorem dX9_bellTells_59 : decode cX9_bellTells 59 = .ok (.bipush 14, 2) := by decide +kernel
theorem dX9_bellTells_61 : decode cX9_bellTells 61 = .ok (.iload_n 1, 1) := by decide +kernel
theorem dX9_bellTells_62 : decode cX9_bellTells 62 = .ok (.iadd, 1) := by decide +kernel
theorem dX9_bellTells_63 : decode cX9_bellTells 63 = .ok (.iaload, 1) := by decide +kernel
theorem dX9_bellTells_64 : decode cX9_bellTells 64 = .ok (.ireturn, 1) := by decide +kernel
theorem dX9_bellTells_65 : decode cX9_bellTells 65 = .ok (.aload_n 0, 1) := by decide +kernel
theorem dX9_bellTells_66 : decode cX9_bellTells 66 = .ok (.getfield 7, 3) := by decide +kernel
theorem dX9_bellTells_69 : decode cX9_bellTells 69 = .ok (.bipush 20, 2) := by decide +kernel
theorem dX9_bellTells_71 : decode cX9_bellTells 71 = .ok (.iload_n 1, 1) := by decide +kernel
theorem dX9_bellTells_72 : decode cX9_bellTells 72 = .ok (.iadd, 1) := by decide +kernel
theorem dX9_bellTells_73 : decode cX9_bellTells 73 = .ok (.iaload, 1) := by decide +kernel
theorem dX9_bellTells_74 : decode cX9_bellTells 74 = .ok (.ireturn, 1) := by decide +kernel
theorem dX9_bellTells_75 : decode cX9_bellTells 75 = .ok (.aload_n 0, 1) := by decide +kernel
theorem dX9_bellTells_76 : decode cX9_bellTells 76 = .ok (.getfield 7, 3) := by decide +kernel
theorem dX9_bellTells_79 : decode cX9_bellTells 79 = .ok (.bipush 14, 2) := by decide +kernel
theorem dX9_bellTells_81 : decode cX9_bellTells 81 = .ok (.iload_n 1, 1) := by decide +kernel
theorem dX9_bellTells_82 : decode cX9_bellTells 82 = .ok (.iadd, 1) := by decide +kernel
theorem dX9_bellTells_83 : decode cX9_bellTells 83 = .ok (.iaload, 1) := by decide +kernel
theorem dX9_bellTells_84 : decode cX9_bellTells 84 = .ok (.bipush 20, 2) := by decide +kernel
theorem dX9_bellTells_86 : decode cX9_bellTells 86 = .ok (.if_icmp .ne 7, 3) := by decide +kernel
theorem dX9_bellTells_89 : decode cX9_bellTells 89 = .ok (.iconst 1, 1) := by decide +kernel
theorem dX9_bellTells_90 : decode cX9_bellTells 90 = .ok (.goto 4, 3) := by decide +kernel
theorem dX9_bellTells_93 : decode cX9_bellTells 93 = .ok (.iconst 0, 1) := by decide +kernel
theorem dX9_bellTells_94 : decode cX9_bellTells 94 = .ok (.ireturn, 1) := by decide +kernel
theorem dX9_bellTells_95 : decode cX9_bellTells 95 = .ok (.aload_n 0, 1) := by decide +kernel
theorem dX9_bellTells_96 : decode cX9_bellTells 96 = .ok (.getfield 7, 3) := by decide +kernel
theorem dX9_bellTells_99 : decode cX9_bellTells 99 = .ok (.bipush 26, 2) := by decide +kernel
theorem dX9_bellTells_101 : decode cX9_bellTells 101 = .ok (.iload_n 1, 1) := by decide +kernel
theorem dX9_bellTells_102 : decode cX9_bellTells 102 = .ok (.iadd, 1) := by decide +kernel
theorem dX9_bellTells_103 : decode cX9_bellTells 103 = .ok (.iaload, 1) := by decide +kernel
theorem dX9_bellTells_104 : decode cX9_bellTells 104 = .ok (.ireturn, 1) := by decide +kernel
theorem dX9_isHeavy_0 : decode cX9_isHeavy 0 = .ok (.iload_n 0, 1) := by decide +kernel
theorem dX9_isHeavy_1 : decode cX9_isHeavy 1 = .ok (.iconst 1, 1) := by decide +kernel
theorem dX9_isHeavy_2 : decode cX9_isHeavy 2 = .ok (.if_icmp .eq 8, 3) := by decide +kernel
theorem dX9_isHeavy_5 : decode cX9_isHeavy 5 = .ok (.iload_n 0, 1) := by decide +kernel
theorem dX9_isHeavy_6 : decode cX9_isHeavy 6 = .ok (.iconst 4, 1) := by decide +kernel
theorem dX9_isHeavy_7 : decode cX9_isHeavy 7 = .ok (.if_icmp .ne 7, 3) := by decide +kernel
theorem dX9_isHeavy_10 : decode cX9_isHeavy 10 = .ok (.iconst 1, 1) := by decide +kernel
theorem dX9_isHeavy_11 : decode cX9_isHeavy 11 = .ok (.goto 4, 3) := by decide +kernel
theorem dX9_isHeavy_14 : decode cX9_isHeavy 14 = .ok (.iconst 0, 1) := by decide +kernel
theorem dX9_isHeavy_15 : decode cX9_isHeavy 15 = .ok (.ireturn, 1) := by decide +kernel
theorem dX9_isQuick_0 : decode cX9_isQuick 0 = .ok (.iload_n 0, 1) := by decide +kernel
theorem dX9_isQuick_1 : decode cX9_isQuick 1 = .ok (.iconst 2, 1) := by decide +kernel
theorem dX9_isQuick_2 : decode cX9_isQuick 2 = .ok (.if_icmp .eq 8, 3) := by decide +kernel
theorem dX9_isQuick_5 : decode cX9_isQuick 5 = .ok (.iload_n 0, 1) := by decide +kernel
theorem dX9_isQuick_6 : decode cX9_isQuick 6 = .ok (.iconst 5, 1) := by decide +kernel
theorem dX9_isQuick_7 : decode cX9_isQuick 7 = .ok (.if_icmp .ne 7, 3) := by decide +kernel
theorem dX9_isQuick_10 : decode cX9_isQuick 10 = .ok (.iconst 1, 1) := by decide +kernel
theorem dX9_isQuick_11 : decode cX9_isQuick 11 = .ok (.goto 4, 3) := by decide +kernel
theorem dX9_isQuick_14 : decode cX9_isQuick 14 = .ok (.iconst 0, 1) := by decide +kernel
theorem dX9_isQuick_15 : decode cX9_isQuick 15 = .ok (.ireturn, 1) := by decide +kernel
theorem dX9_after_0 : decode cX9_after 0 = .ok (.iload_n 1, 1) := by decide +kernel
theorem dX9_after_1 : decode cX9_after 1 = .ok (.iload_n 0, 1) := by decide +kernel
theorem dX9_after_2 : decode cX9_after 2 = .ok (.invokestatic 151, 3) := by decide +kernel
theorem dX9_after_5 : decode cX9_after 5 = .ok (.ifCond .eq 9, 3) := by decide +kernel
theorem dX9_after_8 : decode cX9_after 8 = .ok (.iload_n 2, 1) := by decide +kernel
theorem dX9_after_9 : decode cX9_after 9 = .ok (.iconst 2, 1) := by decide +kernel
theorem dX9_after_10 : decode cX9_after 10 = .ok (.idiv, 1) := by decide +kernel
theorem dX9_after_11 : decode cX9_after 11 = .ok (.goto 4, 3) := by decide +kernel
theorem dX9_after_14 : decode cX9_after 14 = .ok (.iload_n 2, 1) := by decide +kernel
theorem dX9_after_15 : decode cX9_after 15 = .ok (.iadd, 1) := by decide +kernel
theorem dX9_after_16 : decode cX9_after 16 = .ok (.iload_n 0, 1) := by decide +kernel
theorem dX9_after_17 : decode cX9_after 17 = .ok (.invokestatic 154, 3) := by decide +kernel
theorem dX9_after_20 : decode cX9_after 20 = .ok (.ifCond .eq 7, 3) := by decide +kernel
theorem dX9_after_23 : decode cX9_after 23 = .ok (.iconst 0, 1) := by decide +kernel
theorem dX9_after_24 : decode cX9_after 24 = .ok (.goto 4, 3) := by decide +kernel
theorem dX9_after_27 : decode cX9_after 27 = .ok (.iconst 1, 1) := by decide +kernel
theorem dX9_after_28 : decode cX9_after 28 = .ok (.isub, 1) := by decide +kernel
theorem dX9_after_29 : decode cX9_after 29 = .ok (.istore_n 3, 1) := by decide +kernel
theorem dX9_after_30 : decode cX9_after 30 = .ok (.iload_n 3, 1) := by decide +kernel
theorem dX9_after_31 : decode cX9_after 31 = .ok (.ifCond .ge 7, 3) := by decide +kernel
theorem dX9_after_34 : decode cX9_after 34 = .ok (.iconst 0, 1) := by decide +kernel
theorem dX9_after_35 : decode cX9_after 35 = .ok (.goto 25, 3) := by decide +kernel
theorem dX9_after_38 : decode cX9_after 38 = .ok (.iload_n 3, 1) := by decide +kernel
theorem dX9_after_39 : decode cX9_after 39 = .ok (.bipush 21, 2) := by decide +kernel
theorem dX9_after_41 : decode cX9_after 41 = .ok (.if_icmp .le 7, 3) := by decide +kernel
theorem dX9_after_44 : decode cX9_after 44 = .ok (.iconst (-1), 1) := by decide +kernel
theorem dX9_after_45 : decode cX9_after 45 = .ok (.goto 15, 3) := by decide +kernel
theorem dX9_after_48 : decode cX9_after 48 = .ok (.iload_n 3, 1) := by decide +kernel
theorem dX9_after_49 : decode cX9_after 49 = .ok (.bipush 20, 2) := by decide +kernel
theorem dX9_after_51 : decode cX9_after 51 = .ok (.if_icmp .le 8, 3) := by decide +kernel
theorem dX9_after_54 : decode cX9_after 54 = .ok (.bipush 20, 2) := by decide +kernel
theorem dX9_after_56 : decode cX9_after 56 = .ok (.goto 4, 3) := by decide +kernel
theorem dX9_after_59 : decode cX9_after 59 = .ok (.iload_n 3, 1) := by decide +kernel
theorem dX9_after_60 : decode cX9_after 60 = .ok (.ireturn, 1) := by decide +kernel
theorem dX9_tenthsOf_0 : decode cX9_tenthsOf 0 = .ok (.iload_n 0, 1) := by decide +kernel
theorem dX9_tenthsOf_1 : decode cX9_tenthsOf 1 = .ok (.iconst 3, 1) := by decide +kernel
theorem dX9_tenthsOf_2 : decode cX9_tenthsOf 2 = .ok (.if_icmp .ne 7, 3) := by decide +kernel
theorem dX9_tenthsOf_5 : decode cX9_tenthsOf 5 = .ok (.iconst 1, 1) := by decide +kernel
theorem dX9_tenthsOf_6 : decode cX9_tenthsOf 6 = .ok (.goto 22, 3) := by decide +kernel
theorem dX9_tenthsOf_9 : decode cX9_tenthsOf 9 = .ok (.iload_n 0, 1) := by decide +kernel
theorem dX9_tenthsOf_10 : decode cX9_tenthsOf 10 = .ok (.iconst 4, 1) := by decide +kernel
theorem dX9_tenthsOf_11 : decode cX9_tenthsOf 11 = .ok (.if_icmp .ne 7, 3) := by decide +kernel
theorem dX9_tenthsOf_14 : decode cX9_tenthsOf 14 = .ok (.iconst 2, 1) := by decide +kernel
theorem dX9_tenthsOf_15 : decode cX9_tenthsOf 15 = .ok (.goto 13, 3) := by decide +kernel
theorem dX9_tenthsOf_18 : decode cX9_tenthsOf 18 = .ok (.iload_n 0, 1) := by decide +kernel
theorem dX9_tenthsOf_19 : decode cX9_tenthsOf 19 = .ok (.iconst 5, 1) := by decide +kernel
theorem dX9_tenthsOf_20 : decode cX9_tenthsOf 20 = .ok (.if_icmp .ne 7, 3) := by decide +kernel
theorem dX9_tenthsOf_23 : decode cX9_tenthsOf 23 = .ok (.iconst (-1), 1) := by decide +kernel
theorem dX9_tenthsOf_24 : decode cX9_tenthsOf 24 = .ok (.goto 4, 3) := by decide +kernel
theorem dX9_tenthsOf_27 : decode cX9_tenthsOf 27 = .ok (.iconst 0, 1) := by decide +kernel
theorem dX9_tenthsOf_28 : decode cX9_tenthsOf 28 = .ok (.istore 4, 2) := by decide +kernel
theorem dX9_tenthsOf_30 : decode cX9_tenthsOf 30 = .ok (.iload_n 2, 1) := by decide +kernel
theorem dX9_tenthsOf_31 : decode cX9_tenthsOf 31 = .ok (.iconst 5, 1) := by decide +kernel
theorem dX9_tenthsOf_32 : decode cX9_tenthsOf 32 = .ok (.if_icmp .ge 8, 3) := by decide +kernel
theorem dX9_tenthsOf_35 : decode cX9_tenthsOf 35 = .ok (.bipush (-9), 2) := by decide +kernel
theorem dX9_tenthsOf_37 : decode cX9_tenthsOf 37 = .ok (.goto 18, 3) := by decide +kernel
theorem dX9_tenthsOf_40 : decode cX9_tenthsOf 40 = .ok (.bipush 10, 2) := by decide +kernel
theorem dX9_tenthsOf_42 : decode cX9_tenthsOf 42 = .ok (.iload_n 2, 1) := by decide +kernel
theorem dX9_tenthsOf_43 : decode cX9_tenthsOf 43 = .ok (.iconst 2, 1) := by decide +kernel
theorem dX9_tenthsOf_44 : decode cX9_tenthsOf 44 = .ok (.idiv, 1) := by decide +kernel
theorem dX9_tenthsOf_45 : decode cX9_tenthsOf 45 = .ok (.iadd, 1) := by decide +kernel
theorem dX9_tenthsOf_46 : decode cX9_tenthsOf 46 = .ok (.iload_n 1, 1) := by decide +kernel
theorem dX9_tenthsOf_47 : decode cX9_tenthsOf 47 = .ok (.iconst 3, 1) := by decide +kernel
theorem dX9_tenthsOf_48 : decode cX9_tenthsOf 48 = .ok (.idiv, 1) := by decide +kernel
theorem dX9_tenthsOf_49 : decode cX9_tenthsOf 49 = .ok (.iadd, 1) := by decide +kernel
theorem dX9_tenthsOf_50 : decode cX9_tenthsOf 50 = .ok (.iload_n 3, 1) := by decide +kernel
theorem dX9_tenthsOf_51 : decode cX9_tenthsOf 51 = .ok (.isub, 1) := by decide +kernel
theorem dX9_tenthsOf_52 : decode cX9_tenthsOf 52 = .ok (.iload 4, 2) := by decide +kernel
theorem dX9_tenthsOf_54 : decode cX9_tenthsOf 54 = .ok (.iadd, 1) := by decide +kernel
theorem dX9_tenthsOf_55 : decode cX9_tenthsOf 55 = .ok (.ireturn, 1) := by decide +kernel
theorem dX9_strikesBy_0 : decode cX9_strikesBy 0 = .ok (.aload_n 0, 1) := by decide +kernel
theorem dX9_strikesBy_1 : decode cX9_strikesBy 1 = .ok (.getfield 7, 3) := by decide +kernel
theorem dX9_strikesBy_4 : decode cX9_strikesBy 4 = .ok (.iconst 2, 1) := by decide +kernel
theorem dX9_strikesBy_5 : decode cX9_strikesBy 5 = .ok (.iload_n 1, 1) := by decide +kernel
theorem dX9_strikesBy_6 : decode cX9_strikesBy 6 = .ok (.iadd, 1) := by decide +kernel
theorem dX9_strikesBy_7 : decode cX9_strikesBy 7 = .ok (.iaload, 1) := by decide +kernel
theorem dX9_strikesBy_8 : decode cX9_strikesBy 8 = .ok (.iload_n 2, 1) := by decide +kernel
theorem dX9_strikesBy_9 : decode cX9_strikesBy 9 = .ok (.iload_n 3, 1) := by decide +kernel
theorem dX9_strikesBy_10 : decode cX9_strikesBy 10 = .ok (.invokestatic 157, 3) := by decide +kernel
theorem dX9_strikesBy_13 : decode cX9_strikesBy 13 = .ok (.istore 4, 2) := by decide +kernel
theorem dX9_strikesBy_15 : decode cX9_strikesBy 15 = .ok (.aload_n 0, 1) := by decide +kernel
theorem dX9_strikesBy_16 : decode cX9_strikesBy 16 = .ok (.getfield 7, 3) := by decide +kernel
theorem dX9_strikesBy_19 : decode cX9_strikesBy 19 = .ok (.iconst 2, 1) := by decide +kernel
theorem dX9_strikesBy_20 : decode cX9_strikesBy 20 = .ok (.iload_n 1, 1) := by decide +kernel
theorem dX9_strikesBy_21 : decode cX9_strikesBy 21 = .ok (.iadd, 1) := by decide +kernel
theorem dX9_strikesBy_22 : decode cX9_strikesBy 22 = .ok (.iaload, 1) := by decide +kernel
theorem dX9_strikesBy_23 : decode cX9_strikesBy 23 = .ok (.aload_n 0, 1) := by decide +kernel
theorem dX9_strikesBy_24 : decode cX9_strikesBy 24 = .ok (.getfield 7, 3) := by decide +kernel
theorem dX9_strikesBy_27 : decode cX9_strikesBy 27 = .ok (.bipush 8, 2) := by decide +kernel
theorem dX9_strikesBy_29 : decode cX9_strikesBy 29 = .ok (.iload_n 1, 1) := by decide +kernel
theorem dX9_strikesBy_30 : decode cX9_strikesBy 30 = .ok (.iadd, 1) := by decide +kernel
theorem dX9_strikesBy_31 : decode cX9_strikesBy 31 = .ok (.iaload, 1) := by decide +kernel
theorem dX9_strikesBy_32 : decode cX9_strikesBy 32 = .ok (.iload 4, 2) := by decide +kernel
theorem dX9_strikesBy_34 : decode cX9_strikesBy 34 = .ok (.aload_n 0, 1) := by decide +kernel
theorem dX9_strikesBy_35 : decode cX9_strikesBy 35 = .ok (.getfield 7, 3) := by decide +kernel
theorem dX9_strikesBy_38 : decode cX9_strikesBy 38 = .ok (.iconst 1, 1) := by decide +kernel
theorem dX9_strikesBy_39 : decode cX9_strikesBy 39 = .ok (.iaload, 1) := by decide +kernel
theorem dX9_strikesBy_40 : decode cX9_strikesBy 40 = .ok (.invokestatic 160, 3) := by decide +kernel
theorem dX9_strikesBy_43 : decode cX9_strikesBy 43 = .ok (.ireturn, 1) := by decide +kernel
theorem dX9_markOf_0 : decode cX9_markOf 0 = .ok (.aload_n 0, 1) := by decide +kernel
theorem dX9_markOf_1 : decode cX9_markOf 1 = .ok (.getfield 7, 3) := by decide +kernel
theorem dX9_markOf_4 : decode cX9_markOf 4 = .ok (.bipush 14, 2) := by decide +kernel
theorem dX9_markOf_6 : decode cX9_markOf 6 = .ok (.iload_n 1, 1) := by decide +kernel
theorem dX9_markOf_7 : decode cX9_markOf 7 = .ok (.iadd, 1) := by decide +kernel
theorem dX9_markOf_8 : decode cX9_markOf 8 = .ok (.iaload, 1) := by decide +kernel
theorem dX9_markOf_9 : decode cX9_markOf 9 = .ok (.istore_n 3, 1) := by decide +kernel
theorem dX9_markOf_10 : decode cX9_markOf 10 = .ok (.iconst 0, 1) := by decide +kernel
theorem dX9_markOf_11 : decode cX9_markOf 11 = .ok (.istore 4, 2) := by decide +kernel
theorem dX9_markOf_13 : decode cX9_markOf 13 = .ok (.iload_n 2, 1) := by decide +kernel
theorem dX9_markOf_14 : decode cX9_markOf 14 = .ok (.tableswitch 150 1 4 #[30, 76, 81, 89], 30) := by decide +kernel
theorem dX9_markOf_44 : decode cX9_markOf 44 = .ok (.iconst 0, 1) := by decide +kernel
theorem dX9_markOf_45 : decode cX9_markOf 45 = .ok (.istore 5, 2) := by decide +kernel
theorem dX9_markOf_47 : decode cX9_markOf 47 = .ok (.iload 5, 2) := by decide +kernel
theorem dX9_markOf_49 : decode cX9_markOf 49 = .ok (.bipush 7, 2) := by decide +kernel
theorem dX9_markOf_51 : decode cX9_markOf 51 = .ok (.if_icmp .ge 36, 3) := by decide +kernel
theorem dX9_markOf_54 : decode cX9_markOf 54 = .ok (.aload_n 0, 1) := by decide +kernel
theorem dX9_markOf_55 : decode cX9_markOf 55 = .ok (.getfield 7, 3) := by decide +kernel
theorem dX9_markOf_58 : decode cX9_markOf 58 = .ok (.iconst 2, 1) := by decide +kernel
theorem dX9_markOf_59 : decode cX9_markOf 59 = .ok (.iload_n 1, 1) := by decide +kernel
theorem dX9_markOf_60 : decode cX9_markOf 60 = .ok (.iadd, 1) := by decide +kernel
theorem dX9_markOf_61 : decode cX9_markOf 61 = .ok (.iaload, 1) := by decide +kernel
theorem dX9_markOf_62 : decode cX9_markOf 62 = .ok (.iload_n 3, 1) := by decide +kernel
theorem dX9_markOf_63 : decode cX9_markOf 63 = .ok (.iload 5, 2) := by decide +kernel
theorem dX9_markOf_65 : decode cX9_markOf 65 = .ok (.invokestatic 157, 3) := by decide +kernel
theorem dX9_markOf_68 : decode cX9_markOf 68 = .ok (.iconst (-1), 1) := by decide +kernel
theorem dX9_markOf_69 : decode cX9_markOf 69 = .ok (.if_icmp .ne 8, 3) := by decide +kernel
theorem dX9_markOf_72 : decode cX9_markOf 72 = .ok (.iload 4, 2) := by decide +kernel
theorem dX9_markOf_74 : decode cX9_markOf 74 = .ok (.goto 5, 3) := by decide +kernel
theorem dX9_markOf_77 : decode cX9_markOf 77 = .ok (.iload 5, 2) := by decide +kernel
theorem dX9_markOf_79 : decode cX9_markOf 79 = .ok (.istore 4, 2) := by decide +kernel
theorem dX9_markOf_81 : decode cX9_markOf 81 = .ok (.iinc 5 1, 3) := by decide +kernel
theorem dX9_markOf_84 : decode cX9_markOf 84 = .ok (.goto (-37), 3) := by decide +kernel
theorem dX9_markOf_87 : decode cX9_markOf 87 = .ok (.iload 4, 2) := by decide +kernel
theorem dX9_markOf_89 : decode cX9_markOf 89 = .ok (.ireturn, 1) := by decide +kernel
theorem dX9_markOf_90 : decode cX9_markOf 90 = .ok (.bipush 20, 2) := by decide +kernel
theorem dX9_markOf_92 : decode cX9_markOf 92 = .ok (.iload_n 3, 1) := by decide +kernel
theorem dX9_markOf_93 : decode cX9_markOf 93 = .ok (.isub, 1) := by decide +kernel
theorem dX9_markOf_94 : decode cX9_markOf 94 = .ok (.ireturn, 1) := by decide +kernel
theorem dX9_markOf_95 : decode cX9_markOf 95 = .ok (.aload_n 0, 1) := by decide +kernel
theorem dX9_markOf_96 : decode cX9_markOf 96 = .ok (.iload_n 1, 1) := by decide +kernel
theorem dX9_markOf_97 : decode cX9_markOf 97 = .ok (.iload_n 3, 1) := by decide +kernel
theorem dX9_markOf_98 : decode cX9_markOf 98 = .ok (.iconst 1, 1) := by decide +kernel
theorem dX9_markOf_99 : decode cX9_markOf 99 = .ok (.invokevirtual 164, 3) := by decide +kernel
theorem dX9_markOf_102 : decode cX9_markOf 102 = .ok (.ireturn, 1) := by decide +kernel
theorem dX9_markOf_103 : decode cX9_markOf 103 = .ok (.iconst 0, 1) := by decide +kernel
theorem dX9_markOf_104 : decode cX9_markOf 104 = .ok (.istore 5, 2) := by decide +kernel
theorem dX9_markOf_106 : decode cX9_markOf 106 = .ok (.iload 5, 2) := by decide +kernel
theorem dX9_markOf_108 : decode cX9_markOf 108 = .ok (.aload_n 0, 1) := by decide +kernel
theorem dX9_markOf_109 : decode cX9_markOf 109 = .ok (.getfield 7, 3) := by decide +kernel
theorem dX9_markOf_112 : decode cX9_markOf 112 = .ok (.iconst 0, 1) := by decide +kernel
theorem dX9_markOf_113 : decode cX9_markOf 113 = .ok (.iaload, 1) := by decide +kernel
theorem dX9_markOf_114 : decode cX9_markOf 114 = .ok (.if_icmp .ge 47, 3) := by decide +kernel
theorem dX9_markOf_117 : decode cX9_markOf 117 = .ok (.iload 4, 2) := by decide +kernel
theorem dX9_markOf_119 : decode cX9_markOf 119 = .ok (.iload 5, 2) := by decide +kernel
theorem dX9_markOf_121 : decode cX9_markOf 121 = .ok (.iload_n 1, 1) := by decide +kernel
theorem dX9_markOf_122 : decode cX9_markOf 122 = .ok (.if_icmp .eq 29, 3) := by decide +kernel
theorem dX9_markOf_125 : decode cX9_markOf 125 = .ok (.aload_n 0, 1) := by decide +kernel
theorem dX9_markOf_126 : decode cX9_markOf 126 = .ok (.getfield 7, 3) := by decide +kernel
theorem dX9_markOf_129 : decode cX9_markOf 129 = .ok (.bipush 8, 2) := by decide +kernel
theorem dX9_markOf_131 : decode cX9_markOf 131 = .ok (.iload 5, 2) := by decide +kernel
theorem dX9_markOf_133 : decode cX9_markOf 133 = .ok (.iadd, 1) := by decide +kernel
theorem dX9_markOf_134 : decode cX9_markOf 134 = .ok (.iaload, 1) := by decide +kernel
theorem dX9_markOf_135 : decode cX9_markOf 135 = .ok (.aload_n 0, 1) := by decide +kernel
theorem dX9_markOf_136 : decode cX9_markOf 136 = .ok (.getfield 7, 3) := by decide +kernel
theorem dX9_markOf_139 : decode cX9_markOf 139 = .ok (.bipush 8, 2) := by decide +kernel
theorem dX9_markOf_141 : decode cX9_markOf 141 = .ok (.iload_n 1, 1) := by decide +kernel
theorem dX9_markOf_142 : decode cX9_markOf 142 = .ok (.iadd, 1) := by decide +kernel
theorem dX9_markOf_143 : decode cX9_markOf 143 = .ok (.iaload, 1) := by decide +kernel
theorem dX9_markOf_144 : decode cX9_markOf 144 = .ok (.if_icmp .lt 7, 3) := by decide +kernel
theorem dX9_markOf_147 : decode cX9_markOf 147 = .ok (.iconst 1, 1) := by decide +kernel
theorem dX9_markOf_148 : decode cX9_markOf 148 = .ok (.goto 4, 3) := by decide +kernel
theorem dX9_markOf_151 : decode cX9_markOf 151 = .ok (.iconst 0, 1) := by decide +kernel
theorem dX9_markOf_152 : decode cX9_markOf 152 = .ok (.iadd, 1) := by decide +kernel
theorem dX9_markOf_153 : decode cX9_markOf 153 = .ok (.istore 4, 2) := by decide +kernel
theorem dX9_markOf_155 : decode cX9_markOf 155 = .ok (.iinc 5 1, 3) := by decide +kernel
theorem dX9_markOf_158 : decode cX9_markOf 158 = .ok (.goto (-52), 3) := by decide +kernel
theorem dX9_markOf_161 : decode cX9_markOf 161 = .ok (.iload 4, 2) := by decide +kernel
theorem dX9_markOf_163 : decode cX9_markOf 163 = .ok (.ireturn, 1) := by decide +kernel
theorem dX9_markOf_164 : decode cX9_markOf 164 = .ok (.aload_n 0, 1) := by decide +kernel
theorem dX9_markOf_165 : decode cX9_markOf 165 = .ok (.iload_n 1, 1) := by decide +kernel
theorem dX9_markOf_166 : decode cX9_markOf 166 = .ok (.iload_n 3, 1) := by decide +kernel
theorem dX9_markOf_167 : decode cX9_markOf 167 = .ok (.iconst 1, 1) := by decide +kernel
theorem dX9_markOf_168 : decode cX9_markOf 168 = .ok (.invokevirtual 164, 3) := by decide +kernel
theorem dX9_markOf_171 : decode cX9_markOf 171 = .ok (.istore 5, 2) := by decide +kernel
theorem dX9_markOf_173 : decode cX9_markOf 173 = .ok (.iconst 0, 1) := by decide +kernel
theorem dX9_markOf_174 : decode cX9_markOf 174 = .ok (.istore 6, 2) := by decide +kernel
theorem dX9_markOf_176 : decode cX9_markOf 176 = .ok (.iload 6, 2) := by decide +kernel
theorem dX9_markOf_178 : decode cX9_markOf 178 = .ok (.aload_n 0, 1) := by decide +kernel
theorem dX9_markOf_179 : decode cX9_markOf 179 = .ok (.getfield 7, 3) := by decide +kernel
theorem dX9_markOf_182 : decode cX9_markOf 182 = .ok (.iconst 0, 1) := by decide +kernel
theorem dX9_markOf_183 : decode cX9_markOf 183 = .ok (.iaload, 1) := by decide +kernel
theorem dX9_markOf_184 : decode cX9_markOf 184 = .ok (.if_icmp .ge 58, 3) := by decide +kernel
theorem dX9_markOf_187 : decode cX9_markOf 187 = .ok (.aload_n 0, 1) := by decide +kernel
theorem dX9_markOf_188 : decode cX9_markOf 188 = .ok (.iload 6, 2) := by decide +kernel
theorem dX9_markOf_190 : decode cX9_markOf 190 = .ok (.aload_n 0, 1) := by decide +kernel
theorem dX9_markOf_191 : decode cX9_markOf 191 = .ok (.getfield 7, 3) := by decide +kernel
theorem dX9_markOf_194 : decode cX9_markOf 194 = .ok (.bipush 14, 2) := by decide +kernel
theorem dX9_markOf_196 : decode cX9_markOf 196 = .ok (.iload 6, 2) := by decide +kernel
theorem dX9_markOf_198 : decode cX9_markOf 198 = .ok (.iadd, 1) := by decide +kernel
theorem dX9_markOf_199 : decode cX9_markOf 199 = .ok (.iaload, 1) := by decide +kernel
theorem dX9_markOf_200 : decode cX9_markOf 200 = .ok (.iconst 1, 1) := by decide +kernel
theorem dX9_markOf_201 : decode cX9_markOf 201 = .ok (.invokevirtual 164, 3) := by decide +kernel
theorem dX9_markOf_204 : decode cX9_markOf 204 = .ok (.istore 7, 2) := by decide +kernel
theorem dX9_markOf_206 : decode cX9_markOf 206 = .ok (.iload 4, 2) := by decide +kernel
theorem dX9_markOf_208 : decode cX9_markOf 208 = .ok (.iload 6, 2) := by decide +kernel
theorem dX9_markOf_210 : decode cX9_markOf 210 = .ok (.iload_n 1, 1) := by decide +kernel
theorem dX9_markOf_211 : decode cX9_markOf 211 = .ok (.if_icmp .eq 21, 3) := by decide +kernel
theorem dX9_markOf_214 : decode cX9_markOf 214 = .ok (.iload 7, 2) := by decide +kernel
theorem dX9_markOf_216 : decode cX9_markOf 216 = .ok (.bipush (-9), 2) := by decide +kernel
theorem dX9_markOf_218 : decode cX9_markOf 218 = .ok (.if_icmp .eq 14, 3) := by decide +kernel
theorem dX9_markOf_221 : decode cX9_markOf 221 = .ok (.iload 7, 2) := by decide +kernel
theorem dX9_markOf_223 : decode cX9_markOf 223 = .ok (.iload 5, 2) := by decide +kernel
theorem dX9_markOf_225 : decode cX9_markOf 225 = .ok (.if_icmp .ge 7, 3) := by decide +kernel
theorem dX9_markOf_228 : decode cX9_markOf 228 = .ok (.iconst 1, 1) := by decide +kernel
theorem dX9_markOf_229 : decode cX9_markOf 229 = .ok (.goto 4, 3) := by decide +kernel
theorem dX9_markOf_232 : decode cX9_markOf 232 = .ok (.iconst 0, 1) := by decide +kernel
theorem dX9_markOf_233 : decode cX9_markOf 233 = .ok (.iadd, 1) := by decide +kernel
theorem dX9_markOf_234 : decode cX9_markOf 234 = .ok (.istore 4, 2) := by decide +kernel
theorem dX9_markOf_236 : decode cX9_markOf 236 = .ok (.iinc 6 1, 3) := by decide +kernel
theorem dX9_markOf_239 : decode cX9_markOf 239 = .ok (.goto (-63), 3) := by decide +kernel
theorem dX9_markOf_242 : decode cX9_markOf 242 = .ok (.iload 5, 2) := by decide +kernel
theorem dX9_markOf_244 : decode cX9_markOf 244 = .ok (.bipush (-9), 2) := by decide +kernel
theorem dX9_markOf_246 : decode cX9_markOf 246 = .ok (.if_icmp .ne 8, 3) := by decide +kernel
theorem dX9_markOf_249 : decode cX9_markOf 249 = .ok (.bipush (-9), 2) := by decide +kernel
theorem dX9_markOf_251 : decode cX9_markOf 251 = .ok (.goto 5, 3) := by decide +kernel
theorem dX9_markOf_254 : decode cX9_markOf 254 = .ok (.iload 4, 2) := by decide +kernel
theorem dX9_markOf_256 : decode cX9_markOf 256 = .ok (.ireturn, 1) := by decide +kernel
theorem dX9_mark_0 : decode cX9_mark 0 = .ok (.aload_n 0, 1) := by decide +kernel
theorem dX9_mark_1 : decode cX9_mark 1 = .ok (.iload_n 1, 1) := by decide +kernel
theorem dX9_mark_2 : decode cX9_mark 2 = .ok (.invokevirtual 145, 3) := by decide +kernel
theorem dX9_mark_5 : decode cX9_mark 5 = .ok (.ifCond .eq 15, 3) := by decide +kernel
theorem dX9_mark_8 : decode cX9_mark 8 = .ok (.iload_n 2, 1) := by decide +kernel
theorem dX9_mark_9 : decode cX9_mark 9 = .ok (.i2l, 1) := by decide +kernel
theorem dX9_mark_10 : decode cX9_mark 10 = .ok (.lconst 1, 1) := by decide +kernel
theorem dX9_mark_11 : decode cX9_mark 11 = .ok (.ldc2_w 81, 3) := by decide +kernel
theorem dX9_mark_14 : decode cX9_mark 14 = .ok (.invokestatic 83, 3) := by decide +kernel
theorem dX9_mark_17 : decode cX9_mark 17 = .ok (.ifCond .ne 5, 3) := by decide +kernel
theorem dX9_mark_20 : decode cX9_mark 20 = .ok (.iconst (-1), 1) := by decide +kernel
theorem dX9_mark_21 : decode cX9_mark 21 = .ok (.ireturn, 1) := by decide +kernel
theorem dX9_mark_22 : decode cX9_mark 22 = .ok (.aload_n 0, 1) := by decide +kernel
theorem dX9_mark_23 : decode cX9_mark 23 = .ok (.getfield 7, 3) := by decide +kernel
theorem dX9_mark_26 : decode cX9_mark 26 = .ok (.iconst 2, 1) := by decide +kernel
theorem dX9_mark_27 : decode cX9_mark 27 = .ok (.iload_n 1, 1) := by decide +kernel
theorem dX9_mark_28 : decode cX9_mark 28 = .ok (.iadd, 1) := by decide +kernel
theorem dX9_mark_29 : decode cX9_mark 29 = .ok (.iaload, 1) := by decide +kernel
theorem dX9_mark_30 : decode cX9_mark 30 = .ok (.istore_n 3, 1) := by decide +kernel
theorem dX9_mark_31 : decode cX9_mark 31 = .ok (.iload_n 3, 1) := by decide +kernel
theorem dX9_mark_32 : decode cX9_mark 32 = .ok (.iload_n 2, 1) := by decide +kernel
theorem dX9_mark_33 : decode cX9_mark 33 = .ok (.if_icmp .eq 23, 3) := by decide +kernel
theorem dX9_mark_36 : decode cX9_mark 36 = .ok (.iload_n 2, 1) := by decide +kernel
theorem dX9_mark_37 : decode cX9_mark 37 = .ok (.iconst 1, 1) := by decide +kernel
theorem dX9_mark_38 : decode cX9_mark 38 = .ok (.if_icmp .ne 8, 3) := by decide +kernel
theorem dX9_mark_41 : decode cX9_mark 41 = .ok (.iload_n 3, 1) := by decide +kernel
theorem dX9_mark_42 : decode cX9_mark 42 = .ok (.iconst 4, 1) := by decide +kernel
theorem dX9_mark_43 : decode cX9_mark 43 = .ok (.if_icmp .eq 13, 3) := by decide +kernel
theorem dX9_mark_46 : decode cX9_mark 46 = .ok (.iload_n 2, 1) := by decide +kernel
theorem dX9_mark_47 : decode cX9_mark 47 = .ok (.iconst 2, 1) := by decide +kernel
theorem dX9_mark_48 : decode cX9_mark 48 = .ok (.if_icmp .ne 12, 3) := by decide +kernel
theorem dX9_mark_51 : decode cX9_mark 51 = .ok (.iload_n 3, 1) := by decide +kernel
theorem dX9_mark_52 : decode cX9_mark 52 = .ok (.iconst 5, 1) := by decide +kernel
theorem dX9_mark_53 : decode cX9_mark 53 = .ok (.if_icmp .ne 7, 3) := by decide +kernel
theorem dX9_mark_56 : decode cX9_mark 56 = .ok (.iconst 1, 1) := by decide +kernel
theorem dX9_mark_57 : decode cX9_mark 57 = .ok (.goto 4, 3) := by decide +kernel
theorem dX9_mark_60 : decode cX9_mark 60 = .ok (.iconst 0, 1) := by decide +kernel
theorem dX9_mark_61 : decode cX9_mark 61 = .ok (.istore 4, 2) := by decide +kernel
theorem dX9_mark_63 : decode cX9_mark 63 = .ok (.iload 4, 2) := by decide +kernel
theorem dX9_mark_65 : decode cX9_mark 65 = .ok (.ifCond .eq 12, 3) := by decide +kernel
theorem dX9_mark_68 : decode cX9_mark 68 = .ok (.aload_n 0, 1) := by decide +kernel
theorem dX9_mark_69 : decode cX9_mark 69 = .ok (.iload_n 1, 1) := by decide +kernel
theorem dX9_mark_70 : decode cX9_mark 70 = .ok (.iload_n 2, 1) := by decide +kernel
theorem dX9_mark_71 : decode cX9_mark 71 = .ok (.invokevirtual 167, 3) := by decide +kernel
theorem dX9_mark_74 : decode cX9_mark 74 = .ok (.goto 8, 3) := by decide +kernel
theorem dX9_mark_77 : decode cX9_mark 77 = .ok (.aload_n 0, 1) := by decide +kernel
theorem dX9_mark_78 : decode cX9_mark 78 = .ok (.iconst 3, 1) := by decide +kernel
theorem dX9_mark_79 : decode cX9_mark 79 = .ok (.invokevirtual 93, 3) := by decide +kernel
theorem dX9_mark_82 : decode cX9_mark 82 = .ok (.ireturn, 1) := by decide +kernel
theorem dX9_damp_0 : decode cX9_damp 0 = .ok (.iload_n 1, 1) := by decide +kernel
theorem dX9_damp_1 : decode cX9_damp 1 = .ok (.i2l, 1) := by decide +kernel
theorem dX9_damp_2 : decode cX9_damp 2 = .ok (.lconst 0, 1) := by decide +kernel
theorem dX9_damp_3 : decode cX9_damp 3 = .ok (.ldc2_w 87, 3) := by decide +kernel
theorem dX9_damp_6 : decode cX9_damp 6 = .ok (.invokestatic 83, 3) := by decide +kernel
theorem dX9_damp_9 : decode cX9_damp 9 = .ok (.ifCond .ne 5, 3) := by decide +kernel
theorem dX9_damp_12 : decode cX9_damp 12 = .ok (.iconst (-1), 1) := by decide +kernel
theorem dX9_damp_13 : decode cX9_damp 13 = .ok (.ireturn, 1) := by decide +kernel
theorem dX9_damp_14 : decode cX9_damp 14 = .ok (.aload_n 0, 1) := by decide +kernel
theorem dX9_damp_15 : decode cX9_damp 15 = .ok (.getfield 7, 3) := by decide +kernel
theorem dX9_damp_18 : decode cX9_damp 18 = .ok (.iconst 0, 1) := by decide +kernel
theorem dX9_damp_19 : decode cX9_damp 19 = .ok (.iaload, 1) := by decide +kernel
theorem dX9_damp_20 : decode cX9_damp 20 = .ok (.ifCond .ne 6, 3) := by decide +kernel
theorem dX9_damp_23 : decode cX9_damp 23 = .ok (.bipush (-4), 2) := by decide +kernel
theorem dX9_damp_25 : decode cX9_damp 25 = .ok (.ireturn, 1) := by decide +kernel
theorem dX9_damp_26 : decode cX9_damp 26 = .ok (.aload_n 0, 1) := by decide +kernel
theorem dX9_damp_27 : decode cX9_damp 27 = .ok (.getfield 7, 3) := by decide +kernel
theorem dX9_damp_30 : decode cX9_damp 30 = .ok (.iconst 1, 1) := by decide +kernel
theorem dX9_damp_31 : decode cX9_damp 31 = .ok (.iaload, 1) := by decide +kernel
theorem dX9_damp_32 : decode cX9_damp 32 = .ok (.istore_n 2, 1) := by decide +kernel
theorem dX9_damp_33 : decode cX9_damp 33 = .ok (.aload_n 0, 1) := by decide +kernel
theorem dX9_damp_34 : decode cX9_damp 34 = .ok (.getfield 7, 3) := by decide +kernel
theorem dX9_damp_37 : decode cX9_damp 37 = .ok (.iconst 1, 1) := by decide +kernel
theorem dX9_damp_38 : decode cX9_damp 38 = .ok (.iload_n 1, 1) := by decide +kernel
theorem dX9_damp_39 : decode cX9_damp 39 = .ok (.iastore, 1) := by decide +kernel
theorem dX9_damp_40 : decode cX9_damp 40 = .ok (.iload_n 2, 1) := by decide +kernel
theorem dX9_damp_41 : decode cX9_damp 41 = .ok (.ireturn, 1) := by decide +kernel
theorem dX9_minds_0 : decode cX9_minds 0 = .ok (.aload_n 0, 1) := by decide +kernel
theorem dX9_minds_1 : decode cX9_minds 1 = .ok (.iconst 0, 1) := by decide +kernel
theorem dX9_minds_2 : decode cX9_minds 2 = .ok (.bipush 32, 2) := by decide +kernel
theorem dX9_minds_4 : decode cX9_minds 4 = .ok (.aload_n 0, 1) := by decide +kernel
theorem dX9_minds_5 : decode cX9_minds 5 = .ok (.getfield 142, 3) := by decide +kernel
theorem dX9_minds_8 : decode cX9_minds 8 = .ok (.iconst 1, 1) := by decide +kernel
theorem dX9_minds_9 : decode cX9_minds 9 = .ok (.iadd, 1) := by decide +kernel
theorem dX9_minds_10 : decode cX9_minds 10 = .ok (.imul, 1) := by decide +kernel
theorem dX9_minds_11 : decode cX9_minds 11 = .ok (.bipush 32, 2) := by decide +kernel
theorem dX9_minds_13 : decode cX9_minds 13 = .ok (.invokevirtual 138, 3) := by decide +kernel
theorem dX9_minds_16 : decode cX9_minds 16 = .ok (.aload_n 0, 1) := by decide +kernel
theorem dX9_minds_17 : decode cX9_minds 17 = .ok (.dup, 1) := by decide +kernel
theorem dX9_minds_18 : decode cX9_minds 18 = .ok (.getfield 142, 3) := by decide +kernel
theorem dX9_minds_21 : decode cX9_minds 21 = .ok (.iconst 1, 1) := by decide +kernel
theorem dX9_minds_22 : decode cX9_minds 22 = .ok (.iadd, 1) := by decide +kernel
theorem dX9_minds_23 : decode cX9_minds 23 = .ok (.putfield 142, 3) := by decide +kernel
theorem dX9_minds_26 : decode cX9_minds 26 = .ok (.return_, 1) := by decide +kernel
theorem dX9_strokes_0 : decode cX9_strokes 0 = .ok (.aload_n 0, 1) := by decide +kernel
theorem dX9_strokes_1 : decode cX9_strokes 1 = .ok (.getfield 7, 3) := by decide +kernel
theorem dX9_strokes_4 : decode cX9_strokes 4 = .ok (.iconst 2, 1) := by decide +kernel
theorem dX9_strokes_5 : decode cX9_strokes 5 = .ok (.iload_n 1, 1) := by decide +kernel
theorem dX9_strokes_6 : decode cX9_strokes 6 = .ok (.iadd, 1) := by decide +kernel
theorem dX9_strokes_7 : decode cX9_strokes 7 = .ok (.iaload, 1) := by decide +kernel
theorem dX9_strokes_8 : decode cX9_strokes 8 = .ok (.aload_n 0, 1) := by decide +kernel
theorem dX9_strokes_9 : decode cX9_strokes 9 = .ok (.getfield 7, 3) := by decide +kernel
theorem dX9_strokes_12 : decode cX9_strokes 12 = .ok (.bipush 14, 2) := by decide +kernel
theorem dX9_strokes_14 : decode cX9_strokes 14 = .ok (.iload_n 1, 1) := by decide +kernel
theorem dX9_strokes_15 : decode cX9_strokes 15 = .ok (.iadd, 1) := by decide +kernel
theorem dX9_strokes_16 : decode cX9_strokes 16 = .ok (.iaload, 1) := by decide +kernel
theorem dX9_strokes_17 : decode cX9_strokes 17 = .ok (.iload_n 2, 1) := by decide +kernel
theorem dX9_strokes_18 : decode cX9_strokes 18 = .ok (.invokestatic 157, 3) := by decide +kernel
theorem dX9_strokes_21 : decode cX9_strokes 21 = .ok (.istore_n 3, 1) := by decide +kernel
theorem dX9_strokes_22 : decode cX9_strokes 22 = .ok (.aload_n 0, 1) := by decide +kernel
theorem dX9_strokes_23 : decode cX9_strokes 23 = .ok (.getfield 7, 3) := by decide +kernel
theorem dX9_strokes_26 : decode cX9_strokes 26 = .ok (.bipush 14, 2) := by decide +kernel
theorem dX9_strokes_28 : decode cX9_strokes 28 = .ok (.iload_n 1, 1) := by decide +kernel
theorem dX9_strokes_29 : decode cX9_strokes 29 = .ok (.iadd, 1) := by decide +kernel
theorem dX9_strokes_30 : decode cX9_strokes 30 = .ok (.iload_n 3, 1) := by decide +kernel
theorem dX9_strokes_31 : decode cX9_strokes 31 = .ok (.iconst (-1), 1) := by decide +kernel
theorem dX9_strokes_32 : decode cX9_strokes 32 = .ok (.if_icmp .ne 7, 3) := by decide +kernel
theorem dX9_strokes_35 : decode cX9_strokes 35 = .ok (.iconst 0, 1) := by decide +kernel
theorem dX9_strokes_36 : decode cX9_strokes 36 = .ok (.goto 4, 3) := by decide +kernel
theorem dX9_strokes_39 : decode cX9_strokes 39 = .ok (.iload_n 3, 1) := by decide +kernel
theorem dX9_strokes_40 : decode cX9_strokes 40 = .ok (.iastore, 1) := by decide +kernel
theorem dX9_strokes_41 : decode cX9_strokes 41 = .ok (.aload_n 0, 1) := by decide +kernel
theorem dX9_strokes_42 : decode cX9_strokes 42 = .ok (.getfield 7, 3) := by decide +kernel
theorem dX9_strokes_45 : decode cX9_strokes 45 = .ok (.bipush 20, 2) := by decide +kernel
theorem dX9_strokes_47 : decode cX9_strokes 47 = .ok (.iload_n 1, 1) := by decide +kernel
theorem dX9_strokes_48 : decode cX9_strokes 48 = .ok (.iadd, 1) := by decide +kernel
theorem dX9_strokes_49 : decode cX9_strokes 49 = .ok (.iload_n 3, 1) := by decide +kernel
theorem dX9_strokes_50 : decode cX9_strokes 50 = .ok (.iconst (-1), 1) := by decide +kernel
theorem dX9_strokes_51 : decode cX9_strokes 51 = .ok (.if_icmp .ne 7, 3) := by decide +kernel
theorem dX9_strokes_54 : decode cX9_strokes 54 = .ok (.iconst 1, 1) := by decide +kernel
theorem dX9_strokes_55 : decode cX9_strokes 55 = .ok (.goto 4, 3) := by decide +kernel
theorem dX9_strokes_58 : decode cX9_strokes 58 = .ok (.iconst 0, 1) := by decide +kernel
theorem dX9_strokes_59 : decode cX9_strokes 59 = .ok (.iastore, 1) := by decide +kernel
theorem dX9_strokes_60 : decode cX9_strokes 60 = .ok (.aload_n 0, 1) := by decide +kernel
theorem dX9_strokes_61 : decode cX9_strokes 61 = .ok (.getfield 7, 3) := by decide +kernel
theorem dX9_strokes_64 : decode cX9_strokes 64 = .ok (.bipush 26, 2) := by decide +kernel
theorem dX9_strokes_66 : decode cX9_strokes 66 = .ok (.iload_n 1, 1) := by decide +kernel
theorem dX9_strokes_67 : decode cX9_strokes 67 = .ok (.iadd, 1) := by decide +kernel
theorem dX9_strokes_68 : decode cX9_strokes 68 = .ok (.dup2, 1) := by decide +kernel
theorem dX9_strokes_69 : decode cX9_strokes 69 = .ok (.iaload, 1) := by decide +kernel
theorem dX9_strokes_70 : decode cX9_strokes 70 = .ok (.iconst 1, 1) := by decide +kernel
theorem dX9_strokes_71 : decode cX9_strokes 71 = .ok (.iadd, 1) := by decide +kernel
theorem dX9_strokes_72 : decode cX9_strokes 72 = .ok (.iastore, 1) := by decide +kernel
theorem dX9_strokes_73 : decode cX9_strokes 73 = .ok (.return_, 1) := by decide +kernel
theorem dX9_isPull_0 : decode cX9_isPull 0 = .ok (.iload_n 0, 1) := by decide +kernel
theorem dX9_isPull_1 : decode cX9_isPull 1 = .ok (.i2l, 1) := by decide +kernel
theorem dX9_isPull_2 : decode cX9_isPull 2 = .ok (.lconst 0, 1) := by decide +kernel
theorem dX9_isPull_3 : decode cX9_isPull 3 = .ok (.ldc2_w 170, 3) := by decide +kernel
theorem dX9_isPull_6 : decode cX9_isPull 6 = .ok (.invokestatic 83, 3) := by decide +kernel
theorem dX9_isPull_9 : decode cX9_isPull 9 = .ok (.ireturn, 1) := by decide +kernel
theorem dX9_stroke_0 : decode cX9_stroke 0 = .ok (.aload_n 0, 1) := by decide +kernel
theorem dX9_stroke_1 : decode cX9_stroke 1 = .ok (.iload_n 1, 1) := by decide +kernel
theorem dX9_stroke_2 : decode cX9_stroke 2 = .ok (.invokevirtual 145, 3) := by decide +kernel
theorem dX9_stroke_5 : decode cX9_stroke 5 = .ok (.ifCond .eq 10, 3) := by decide +kernel
theorem dX9_stroke_8 : decode cX9_stroke 8 = .ok (.iload_n 2, 1) := by decide +kernel
theorem dX9_stroke_9 : decode cX9_stroke 9 = .ok (.invokestatic 172, 3) := by decide +kernel
theorem dX9_stroke_12 : decode cX9_stroke 12 = .ok (.ifCond .ne 5, 3) := by decide +kernel
theorem dX9_stroke_15 : decode cX9_stroke 15 = .ok (.iconst (-1), 1) := by decide +kernel
theorem dX9_stroke_16 : decode cX9_stroke 16 = .ok (.ireturn, 1) := by decide +kernel
theorem dX9_stroke_17 : decode cX9_stroke 17 = .ok (.aload_n 0, 1) := by decide +kernel
theorem dX9_stroke_18 : decode cX9_stroke 18 = .ok (.iload_n 1, 1) := by decide +kernel
theorem dX9_stroke_19 : decode cX9_stroke 19 = .ok (.invokevirtual 175, 3) := by decide +kernel
theorem dX9_stroke_22 : decode cX9_stroke 22 = .ok (.ifCond .eq 6, 3) := by decide +kernel
theorem dX9_stroke_25 : decode cX9_stroke 25 = .ok (.bipush (-4), 2) := by decide +kernel
theorem dX9_stroke_27 : decode cX9_stroke 27 = .ok (.ireturn, 1) := by decide +kernel
theorem dX9_stroke_28 : decode cX9_stroke 28 = .ok (.aload_n 0, 1) := by decide +kernel
theorem dX9_stroke_29 : decode cX9_stroke 29 = .ok (.getfield 142, 3) := by decide +kernel
theorem dX9_stroke_32 : decode cX9_stroke 32 = .ok (.bipush 40, 2) := by decide +kernel
theorem dX9_stroke_34 : decode cX9_stroke 34 = .ok (.if_icmp .ne 6, 3) := by decide +kernel
theorem dX9_stroke_37 : decode cX9_stroke 37 = .ok (.bipush (-2), 2) := by decide +kernel
theorem dX9_stroke_39 : decode cX9_stroke 39 = .ok (.ireturn, 1) := by decide +kernel
theorem dX9_stroke_40 : decode cX9_stroke 40 = .ok (.aload_n 0, 1) := by decide +kernel
theorem dX9_stroke_41 : decode cX9_stroke 41 = .ok (.invokevirtual 178, 3) := by decide +kernel
theorem dX9_stroke_44 : decode cX9_stroke 44 = .ok (.aload_n 0, 1) := by decide +kernel
theorem dX9_stroke_45 : decode cX9_stroke 45 = .ok (.iload_n 1, 1) := by decide +kernel
theorem dX9_stroke_46 : decode cX9_stroke 46 = .ok (.iload_n 2, 1) := by decide +kernel
theorem dX9_stroke_47 : decode cX9_stroke 47 = .ok (.invokevirtual 181, 3) := by decide +kernel
theorem dX9_stroke_50 : decode cX9_stroke 50 = .ok (.aload_n 0, 1) := by decide +kernel
theorem dX9_stroke_51 : decode cX9_stroke 51 = .ok (.getfield 7, 3) := by decide +kernel
theorem dX9_stroke_54 : decode cX9_stroke 54 = .ok (.bipush 14, 2) := by decide +kernel
theorem dX9_stroke_56 : decode cX9_stroke 56 = .ok (.iload_n 1, 1) := by decide +kernel
theorem dX9_stroke_57 : decode cX9_stroke 57 = .ok (.iadd, 1) := by decide +kernel
theorem dX9_stroke_58 : decode cX9_stroke 58 = .ok (.iaload, 1) := by decide +kernel
theorem dX9_stroke_59 : decode cX9_stroke 59 = .ok (.ireturn, 1) := by decide +kernel
theorem dX9_against_0 : decode cX9_against 0 = .ok (.iload_n 1, 1) := by decide +kernel
theorem dX9_against_1 : decode cX9_against 1 = .ok (.invokestatic 89, 3) := by decide +kernel
theorem dX9_against_4 : decode cX9_against 4 = .ok (.ifCond .ne 5, 3) := by decide +kernel
theorem dX9_against_7 : decode cX9_against 7 = .ok (.iconst (-1), 1) := by decide +kernel
theorem dX9_against_8 : decode cX9_against 8 = .ok (.ireturn, 1) := by decide +kernel
theorem dX9_against_9 : decode cX9_against 9 = .ok (.aload_n 0, 1) := by decide +kernel
theorem dX9_against_10 : decode cX9_against 10 = .ok (.getfield 7, 3) := by decide +kernel
theorem dX9_against_13 : decode cX9_against 13 = .ok (.iconst 0, 1) := by decide +kernel
theorem dX9_against_14 : decode cX9_against 14 = .ok (.iaload, 1) := by decide +kernel
theorem dX9_against_15 : decode cX9_against 15 = .ok (.ifCond .ne 6, 3) := by decide +kernel
theorem dX9_against_18 : decode cX9_against 18 = .ok (.bipush (-4), 2) := by decide +kernel
theorem dX9_against_20 : decode cX9_against 20 = .ok (.ireturn, 1) := by decide +kernel
theorem dX9_against_21 : decode cX9_against 21 = .ok (.aload_n 0, 1) := by decide +kernel
theorem dX9_against_22 : decode cX9_against 22 = .ok (.getfield 19, 3) := by decide +kernel
theorem dX9_against_25 : decode cX9_against 25 = .ok (.iload_n 1, 1) := by decide +kernel
theorem dX9_against_26 : decode cX9_against 26 = .ok (.iaload, 1) := by decide +kernel
theorem dX9_against_27 : decode cX9_against 27 = .ok (.ifCond .ge 9, 3) := by decide +kernel
theorem dX9_against_30 : decode cX9_against 30 = .ok (.aload_n 0, 1) := by decide +kernel
theorem dX9_against_31 : decode cX9_against 31 = .ok (.iconst 1, 1) := by decide +kernel
theorem dX9_against_32 : decode cX9_against 32 = .ok (.invokevirtual 93, 3) := by decide +kernel
theorem dX9_against_35 : decode cX9_against 35 = .ok (.ireturn, 1) := by decide +kernel
theorem dX9_against_36 : decode cX9_against 36 = .ok (.aload_n 0, 1) := by decide +kernel
theorem dX9_against_37 : decode cX9_against 37 = .ok (.getfield 19, 3) := by decide +kernel
theorem dX9_against_40 : decode cX9_against 40 = .ok (.iload_n 1, 1) := by decide +kernel
theorem dX9_against_41 : decode cX9_against 41 = .ok (.iaload, 1) := by decide +kernel
theorem dX9_against_42 : decode cX9_against 42 = .ok (.aload_n 0, 1) := by decide +kernel
theorem dX9_against_43 : decode cX9_against 43 = .ok (.getfield 7, 3) := by decide +kernel
theorem dX9_against_46 : decode cX9_against 46 = .ok (.iconst 0, 1) := by decide +kernel
theorem dX9_against_47 : decode cX9_against 47 = .ok (.iaload, 1) := by decide +kernel
theorem dX9_against_48 : decode cX9_against 48 = .ok (.if_icmp .eq 9, 3) := by decide +kernel
theorem dX9_against_51 : decode cX9_against 51 = .ok (.aload_n 0, 1) := by decide +kernel
theorem dX9_against_52 : decode cX9_against 52 = .ok (.iconst 5, 1) := by decide +kernel
theorem dX9_against_53 : decode cX9_against 53 = .ok (.invokevirtual 93, 3) := by decide +kernel
theorem dX9_against_56 : decode cX9_against 56 = .ok (.ireturn, 1) := by decide +kernel
theorem dX9_against_57 : decode cX9_against 57 = .ok (.iconst 0, 1) := by decide +kernel
theorem dX9_against_58 : decode cX9_against 58 = .ok (.istore_n 2, 1) := by decide +kernel
theorem dX9_against_59 : decode cX9_against 59 = .ok (.iload_n 2, 1) := by decide +kernel
theorem dX9_against_60 : decode cX9_against 60 = .ok (.aload_n 0, 1) := by decide +kernel
theorem dX9_against_61 : decode cX9_against 61 = .ok (.getfield 7, 3) := by decide +kernel
theorem dX9_against_64 : decode cX9_against 64 = .ok (.iconst 0, 1) := by decide +kernel
theorem dX9_against_65 : decode cX9_against 65 = .ok (.iaload, 1) := by decide +kernel
theorem dX9_against_66 : decode cX9_against 66 = .ok (.if_icmp .ge 32, 3) := by decide +kernel
theorem dX9_against_69 : decode cX9_against 69 = .ok (.aload_n 0, 1) := by decide +kernel
theorem dX9_against_70 : decode cX9_against 70 = .ok (.getfield 16, 3) := by decide +kernel
theorem dX9_against_73 : decode cX9_against 73 = .ok (.bipush 40, 2) := by decide +kernel
theorem dX9_against_75 : decode cX9_against 75 = .ok (.iload_n 1, 1) := by decide +kernel
theorem dX9_against_76 : decode cX9_against 76 = .ok (.imul, 1) := by decide +kernel
theorem dX9_against_77 : decode cX9_against 77 = .ok (.iload_n 2, 1) := by decide +kernel
theorem dX9_against_78 : decode cX9_against 78 = .ok (.iadd, 1) := by decide +kernel
theorem dX9_against_79 : decode cX9_against 79 = .ok (.iaload, 1) := by decide +kernel
theorem dX9_against_80 : decode cX9_against 80 = .ok (.invokestatic 172, 3) := by decide +kernel
theorem dX9_against_83 : decode cX9_against 83 = .ok (.ifCond .ne 9, 3) := by decide +kernel
theorem dX9_against_86 : decode cX9_against 86 = .ok (.aload_n 0, 1) := by decide +kernel
theorem dX9_against_87 : decode cX9_against 87 = .ok (.iconst 3, 1) := by decide +kernel
theorem dX9_against_88 : decode cX9_against 88 = .ok (.invokevirtual 93, 3) := by decide +kernel
theorem dX9_against_91 : decode cX9_against 91 = .ok (.ireturn, 1) := by decide +kernel
theorem dX9_against_92 : decode cX9_against 92 = .ok (.iinc 2 1, 3) := by decide +kernel
theorem dX9_against_95 : decode cX9_against 95 = .ok (.goto (-36), 3) := by decide +kernel
theorem dX9_against_98 : decode cX9_against 98 = .ok (.iconst 0, 1) := by decide +kernel
theorem dX9_against_99 : decode cX9_against 99 = .ok (.ireturn, 1) := by decide +kernel
theorem dX9_rings_0 : decode cX9_rings 0 = .ok (.aload_n 0, 1) := by decide +kernel
theorem dX9_rings_1 : decode cX9_rings 1 = .ok (.iconst 0, 1) := by decide +kernel
theorem dX9_rings_2 : decode cX9_rings 2 = .ok (.putfield 184, 3) := by decide +kernel
theorem dX9_rings_5 : decode cX9_rings 5 = .ok (.aload_n 0, 1) := by decide +kernel
theorem dX9_rings_6 : decode cX9_rings 6 = .ok (.iconst 0, 1) := by decide +kernel
theorem dX9_rings_7 : decode cX9_rings 7 = .ok (.putfield 188, 3) := by decide +kernel
theorem dX9_rings_10 : decode cX9_rings 10 = .ok (.iconst 0, 1) := by decide +kernel
theorem dX9_rings_11 : decode cX9_rings 11 = .ok (.istore_n 1, 1) := by decide +kernel
theorem dX9_rings_12 : decode cX9_rings 12 = .ok (.iload_n 1, 1) := by decide +kernel
theorem dX9_rings_13 : decode cX9_rings 13 = .ok (.aload_n 0, 1) := by decide +kernel
theorem dX9_rings_14 : decode cX9_rings 14 = .ok (.getfield 7, 3) := by decide +kernel
theorem dX9_rings_17 : decode cX9_rings 17 = .ok (.iconst 0, 1) := by decide +kernel
theorem dX9_rings_18 : decode cX9_rings 18 = .ok (.iaload, 1) := by decide +kernel
theorem dX9_rings_19 : decode cX9_rings 19 = .ok (.if_icmp .ge 212, 3) := by decide +kernel
theorem dX9_rings_22 : decode cX9_rings 22 = .ok (.aload_n 0, 1) := by decide +kernel
theorem dX9_rings_23 : decode cX9_rings 23 = .ok (.iload_n 1, 1) := by decide +kernel
theorem dX9_rings_24 : decode cX9_rings 24 = .ok (.invokevirtual 175, 3) := by decide +kernel
theorem dX9_rings_27 : decode cX9_rings 27 = .ok (.ifCond .eq 7, 3) := by decide +kernel
theorem dX9_rings_30 : decode cX9_rings 30 = .ok (.iconst 0, 1) := by decide +kernel
theorem dX9_rings_31 : decode cX9_rings 31 = .ok (.goto 29, 3) := by decide +kernel
theorem dX9_rings_34 : decode cX9_rings 34 = .ok (.aload_n 0, 1) := by decide +kernel
theorem dX9_rings_35 : decode cX9_rings 35 = .ok (.getfield 7, 3) := by decide +kernel
theorem dX9_rings_38 : decode cX9_rings 38 = .ok (.iconst 2, 1) := by decide +kernel
theorem dX9_rings_39 : decode cX9_rings 39 = .ok (.iload_n 1, 1) := by decide +kernel
theorem dX9_rings_40 : decode cX9_rings 40 = .ok (.iadd, 1) := by decide +kernel
theorem dX9_rings_41 : decode cX9_rings 41 = .ok (.iaload, 1) := by decide +kernel
theorem dX9_rings_42 : decode cX9_rings 42 = .ok (.aload_n 0, 1) := by decide +kernel
theorem dX9_rings_43 : decode cX9_rings 43 = .ok (.getfield 7, 3) := by decide +kernel
theorem dX9_rings_46 : decode cX9_rings 46 = .ok (.bipush 14, 2) := by decide +kernel
theorem dX9_rings_48 : decode cX9_rings 48 = .ok (.iload_n 1, 1) := by decide +kernel
theorem dX9_rings_49 : decode cX9_rings 49 = .ok (.iadd, 1) := by decide +kernel
theorem dX9_rings_50 : decode cX9_rings 50 = .ok (.iaload, 1) := by decide +kernel
theorem dX9_rings_51 : decode cX9_rings 51 = .ok (.aload_n 0, 1) := by decide +kernel
theorem dX9_rings_52 : decode cX9_rings 52 = .ok (.getfield 38, 3) := by decide +kernel
theorem dX9_rings_55 : decode cX9_rings 55 = .ok (.iload_n 1, 1) := by decide +kernel
theorem dX9_rings_56 : decode cX9_rings 56 = .ok (.iaload, 1) := by decide +kernel
theorem dX9_rings_57 : decode cX9_rings 57 = .ok (.invokestatic 157, 3) := by decide +kernel
theorem dX9_rings_60 : decode cX9_rings 60 = .ok (.istore_n 2, 1) := by decide +kernel
theorem dX9_rings_61 : decode cX9_rings 61 = .ok (.aload_n 0, 1) := by decide +kernel
theorem dX9_rings_62 : decode cX9_rings 62 = .ok (.aload_n 0, 1) := by decide +kernel
theorem dX9_rings_63 : decode cX9_rings 63 = .ok (.getfield 184, 3) := by decide +kernel
theorem dX9_rings_66 : decode cX9_rings 66 = .ok (.ifCond .ne 8, 3) := by decide +kernel
theorem dX9_rings_69 : decode cX9_rings 69 = .ok (.iload_n 2, 1) := by decide +kernel
theorem dX9_rings_70 : decode cX9_rings 70 = .ok (.iconst (-1), 1) := by decide +kernel
theorem dX9_rings_71 : decode cX9_rings 71 = .ok (.if_icmp .ne 7, 3) := by decide +kernel
theorem dX9_rings_74 : decode cX9_rings 74 = .ok (.iconst 1, 1) := by decide +kernel
theorem dX9_rings_75 : decode cX9_rings 75 = .ok (.goto 4, 3) := by decide +kernel
theorem dX9_rings_78 : decode cX9_rings 78 = .ok (.iconst 0, 1) := by decide +kernel
theorem dX9_rings_79 : decode cX9_rings 79 = .ok (.putfield 184, 3) := by decide +kernel
theorem dX9_rings_82 : decode cX9_rings 82 = .ok (.aload_n 0, 1) := by decide +kernel
theorem dX9_rings_83 : decode cX9_rings 83 = .ok (.iload_n 1, 1) := by decide +kernel
theorem dX9_rings_84 : decode cX9_rings 84 = .ok (.invokevirtual 175, 3) := by decide +kernel
theorem dX9_rings_87 : decode cX9_rings 87 = .ok (.ifCond .eq 8, 3) := by decide +kernel
theorem dX9_rings_90 : decode cX9_rings 90 = .ok (.bipush (-9), 2) := by decide +kernel
theorem dX9_rings_92 : decode cX9_rings 92 = .ok (.goto 30, 3) := by decide +kernel
theorem dX9_rings_95 : decode cX9_rings 95 = .ok (.aload_n 0, 1) := by decide +kernel
theorem dX9_rings_96 : decode cX9_rings 96 = .ok (.getfield 7, 3) := by decide +kernel
theorem dX9_rings_99 : decode cX9_rings 99 = .ok (.iconst 2, 1) := by decide +kernel
theorem dX9_rings_100 : decode cX9_rings 100 = .ok (.iload_n 1, 1) := by decide +kernel
theorem dX9_rings_101 : decode cX9_rings 101 = .ok (.iadd, 1) := by decide +kernel
theorem dX9_rings_102 : decode cX9_rings 102 = .ok (.iaload, 1) := by decide +kernel
theorem dX9_rings_103 : decode cX9_rings 103 = .ok (.aload_n 0, 1) := by decide +kernel
theorem dX9_rings_104 : decode cX9_rings 104 = .ok (.getfield 7, 3) := by decide +kernel
theorem dX9_rings_107 : decode cX9_rings 107 = .ok (.bipush 8, 2) := by decide +kernel
theorem dX9_rings_109 : decode cX9_rings 109 = .ok (.iload_n 1, 1) := by decide +kernel
theorem dX9_rings_110 : decode cX9_rings 110 = .ok (.iadd, 1) := by decide +kernel
theorem dX9_rings_111 : decode cX9_rings 111 = .ok (.iaload, 1) := by decide +kernel
theorem dX9_rings_112 : decode cX9_rings 112 = .ok (.iload_n 2, 1) := by decide +kernel
theorem dX9_rings_113 : decode cX9_rings 113 = .ok (.aload_n 0, 1) := by decide +kernel
theorem dX9_rings_114 : decode cX9_rings 114 = .ok (.getfield 7, 3) := by decide +kernel
theorem dX9_rings_117 : decode cX9_rings 117 = .ok (.iconst 1, 1) := by decide +kernel
theorem dX9_rings_118 : decode cX9_rings 118 = .ok (.iaload, 1) := by decide +kernel
theorem dX9_rings_119 : decode cX9_rings 119 = .ok (.invokestatic 160, 3) := by decide +kernel
theorem dX9_rings_122 : decode cX9_rings 122 = .ok (.istore_n 3, 1) := by decide +kernel
theorem dX9_rings_123 : decode cX9_rings 123 = .ok (.aload_n 0, 1) := by decide +kernel
theorem dX9_rings_124 : decode cX9_rings 124 = .ok (.getfield 41, 3) := by decide +kernel
theorem dX9_rings_127 : decode cX9_rings 127 = .ok (.iload_n 1, 1) := by decide +kernel
theorem dX9_rings_128 : decode cX9_rings 128 = .ok (.iload_n 3, 1) := by decide +kernel
theorem dX9_rings_129 : decode cX9_rings 129 = .ok (.bipush (-9), 2) := by decide +kernel
theorem dX9_rings_131 : decode cX9_rings 131 = .ok (.if_icmp .ne 8, 3) := by decide +kernel
theorem dX9_rings_134 : decode cX9_rings 134 = .ok (.bipush (-9), 2) := by decide +kernel
theorem dX9_rings_136 : decode cX9_rings 136 = .ok (.goto 8, 3) := by decide +kernel
theorem dX9_rings_139 : decode cX9_rings 139 = .ok (.iconst 2, 1) := by decide +kernel
theorem dX9_rings_140 : decode cX9_rings 140 = .ok (.iload_n 1, 1) := by decide +kernel
theorem dX9_rings_141 : decode cX9_rings 141 = .ok (.imul, 1) := by decide +kernel
theorem dX9_rings_142 : decode cX9_rings 142 = .ok (.iload_n 3, 1) := by decide +kernel
theorem dX9_rings_143 : decode cX9_rings 143 = .ok (.iadd, 1) := by decide +kernel
theorem dX9_rings_144 : decode cX9_rings 144 = .ok (.iastore, 1) := by decide +kernel
theorem dX9_rings_145 : decode cX9_rings 145 = .ok (.iload_n 3, 1) := by decide +kernel
theorem dX9_rings_146 : decode cX9_rings 146 = .ok (.bipush (-9), 2) := by decide +kernel
theorem dX9_rings_148 : decode cX9_rings 148 = .ok (.if_icmp .eq 77, 3) := by decide +kernel
theorem dX9_rings_151 : decode cX9_rings 151 = .ok (.aload_n 0, 1) := by decide +kernel
theorem dX9_rings_152 : decode cX9_rings 152 = .ok (.getfield 188, 3) := by decide +kernel
theorem dX9_rings_155 : decode cX9_rings 155 = .ok (.istore 4, 2) := by decide +kernel
theorem dX9_rings_157 : decode cX9_rings 157 = .ok (.iload 4, 2) := by decide +kernel
theorem dX9_rings_159 : decode cX9_rings 159 = .ok (.ifCond .le 48, 3) := by decide +kernel
theorem dX9_rings_162 : decode cX9_rings 162 = .ok (.aload_n 0, 1) := by decide +kernel
theorem dX9_rings_163 : decode cX9_rings 163 = .ok (.getfield 41, 3) := by decide +kernel
theorem dX9_rings_166 : decode cX9_rings 166 = .ok (.aload_n 0, 1) := by decide +kernel
theorem dX9_rings_167 : decode cX9_rings 167 = .ok (.getfield 44, 3) := by decide +kernel
theorem dX9_rings_170 : decode cX9_rings 170 = .ok (.iload 4, 2) := by decide +kernel
theorem dX9_rings_172 : decode cX9_rings 172 = .ok (.iconst 1, 1) := by decide +kernel
theorem dX9_rings_173 : decode cX9_rings 173 = .ok (.isub, 1) := by decide +kernel
theorem dX9_rings_174 : decode cX9_rings 174 = .ok (.iaload, 1) := by decide +kernel
theorem dX9_rings_175 : decode cX9_rings 175 = .ok (.iaload, 1) := by decide +kernel
theorem dX9_rings_176 : decode cX9_rings 176 = .ok (.aload_n 0, 1) := by decide +kernel
theorem dX9_rings_177 : decode cX9_rings 177 = .ok (.getfield 41, 3) := by decide +kernel
theorem dX9_rings_180 : decode cX9_rings 180 = .ok (.iload_n 1, 1) := by decide +kernel
theorem dX9_rings_181 : decode cX9_rings 181 = .ok (.iaload, 1) := by decide +kernel
theorem dX9_rings_182 : decode cX9_rings 182 = .ok (.if_icmp .le 25, 3) := by decide +kernel
theorem dX9_rings_185 : decode cX9_rings 185 = .ok (.aload_n 0, 1) := by decide +kernel
theorem dX9_rings_186 : decode cX9_rings 186 = .ok (.getfield 44, 3) := by decide +kernel
theorem dX9_rings_189 : decode cX9_rings 189 = .ok (.iload 4, 2) := by decide +kernel
theorem dX9_rings_191 : decode cX9_rings 191 = .ok (.aload_n 0, 1) := by decide +kernel
theorem dX9_rings_192 : decode cX9_rings 192 = .ok (.getfield 44, 3) := by decide +kernel
theorem dX9_rings_195 : decode cX9_rings 195 = .ok (.iload 4, 2) := by decide +kernel
theorem dX9_rings_197 : decode cX9_rings 197 = .ok (.iconst 1, 1) := by decide +kernel
theorem dX9_rings_198 : decode cX9_rings 198 = .ok (.isub, 1) := by decide +kernel
theorem dX9_rings_199 : decode cX9_rings 199 = .ok (.iaload, 1) := by decide +kernel
theorem dX9_rings_200 : decode cX9_rings 200 = .ok (.iastore, 1) := by decide +kernel
theorem dX9_rings_201 : decode cX9_rings 201 = .ok (.iinc 4 (-1), 3) := by decide +kernel
theorem dX9_rings_204 : decode cX9_rings 204 = .ok (.goto (-47), 3) := by decide +kernel
theorem dX9_rings_207 : decode cX9_rings 207 = .ok (.aload_n 0, 1) := by decide +kernel
theorem dX9_rings_208 : decode cX9_rings 208 = .ok (.getfield 44, 3) := by decide +kernel
theorem dX9_rings_211 : decode cX9_rings 211 = .ok (.iload 4, 2) := by decide +kernel
theorem dX9_rings_213 : decode cX9_rings 213 = .ok (.iload_n 1, 1) := by decide +kernel
theorem dX9_rings_214 : decode cX9_rings 214 = .ok (.iastore, 1) := by decide +kernel
theorem dX9_rings_215 : decode cX9_rings 215 = .ok (.aload_n 0, 1) := by decide +kernel
theorem dX9_rings_216 : decode cX9_rings 216 = .ok (.dup, 1) := by decide +kernel
theorem dX9_rings_217 : decode cX9_rings 217 = .ok (.getfield 188, 3) := by decide +kernel
theorem dX9_rings_220 : decode cX9_rings 220 = .ok (.iconst 1, 1) := by decide +kernel
theorem dX9_rings_221 : decode cX9_rings 221 = .ok (.iadd, 1) := by decide +kernel
theorem dX9_rings_222 : decode cX9_rings 222 = .ok (.putfield 188, 3) := by decide +kernel
theorem dX9_rings_225 : decode cX9_rings 225 = .ok (.iinc 1 1, 3) := by decide +kernel
theorem dX9_rings_228 : decode cX9_rings 228 = .ok (.goto (-216), 3) := by decide +kernel
theorem dX9_rings_231 : decode cX9_rings 231 = .ok (.return_, 1) := by decide +kernel
theorem dX9_laysPulls_0 : decode cX9_laysPulls 0 = .ok (.iconst 0, 1) := by decide +kernel
theorem dX9_laysPulls_1 : decode cX9_laysPulls 1 = .ok (.istore_n 2, 1) := by decide +kernel
theorem dX9_laysPulls_2 : decode cX9_laysPulls 2 = .ok (.iload_n 2, 1) := by decide +kernel
theorem dX9_laysPulls_3 : decode cX9_laysPulls 3 = .ok (.aload_n 0, 1) := by decide +kernel
theorem dX9_laysPulls_4 : decode cX9_laysPulls 4 = .ok (.getfield 7, 3) := by decide +kernel
theorem dX9_laysPulls_7 : decode cX9_laysPulls 7 = .ok (.iconst 0, 1) := by decide +kernel
theorem dX9_laysPulls_8 : decode cX9_laysPulls 8 = .ok (.iaload, 1) := by decide +kernel
theorem dX9_laysPulls_9 : decode cX9_laysPulls 9 = .ok (.if_icmp .ge 26, 3) := by decide +kernel
theorem dX9_laysPulls_12 : decode cX9_laysPulls 12 = .ok (.aload_n 0, 1) := by decide +kernel
theorem dX9_laysPulls_13 : decode cX9_laysPulls 13 = .ok (.getfield 38, 3) := by decide +kernel
theorem dX9_laysPulls_16 : decode cX9_laysPulls 16 = .ok (.iload_n 2, 1) := by decide +kernel
theorem dX9_laysPulls_17 : decode cX9_laysPulls 17 = .ok (.aload_n 0, 1) := by decide +kernel
theorem dX9_laysPulls_18 : decode cX9_laysPulls 18 = .ok (.getfield 16, 3) := by decide +kernel
theorem dX9_laysPulls_21 : decode cX9_laysPulls 21 = .ok (.bipush 40, 2) := by decide +kernel
theorem dX9_laysPulls_23 : decode cX9_laysPulls 23 = .ok (.iload_n 1, 1) := by decide +kernel
theorem dX9_laysPulls_24 : decode cX9_laysPulls 24 = .ok (.imul, 1) := by decide +kernel
theorem dX9_laysPulls_25 : decode cX9_laysPulls 25 = .ok (.iload_n 2, 1) := by decide +kernel
theorem dX9_laysPulls_26 : decode cX9_laysPulls 26 = .ok (.iadd, 1) := by decide +kernel
theorem dX9_laysPulls_27 : decode cX9_laysPulls 27 = .ok (.iaload, 1) := by decide +kernel
theorem dX9_laysPulls_28 : decode cX9_laysPulls 28 = .ok (.iastore, 1) := by decide +kernel
theorem dX9_laysPulls_29 : decode cX9_laysPulls 29 = .ok (.iinc 2 1, 3) := by decide +kernel
theorem dX9_laysPulls_32 : decode cX9_laysPulls 32 = .ok (.goto (-30), 3) := by decide +kernel
theorem dX9_laysPulls_35 : decode cX9_laysPulls 35 = .ok (.aload_n 0, 1) := by decide +kernel
theorem dX9_laysPulls_36 : decode cX9_laysPulls 36 = .ok (.invokevirtual 191, 3) := by decide +kernel
theorem dX9_laysPulls_39 : decode cX9_laysPulls 39 = .ok (.return_, 1) := by decide +kernel
theorem dX9_heardSet_0 : decode cX9_heardSet 0 = .ok (.iconst 0, 1) := by decide +kernel
theorem dX9_heardSet_1 : decode cX9_heardSet 1 = .ok (.istore_n 1, 1) := by decide +kernel
theorem dX9_heardSet_2 : decode cX9_heardSet 2 = .ok (.iconst 0, 1) := by decide +kernel
theorem dX9_heardSet_3 : decode cX9_heardSet 3 = .ok (.istore_n 2, 1) := by decide +kernel
theorem dX9_heardSet_4 : decode cX9_heardSet 4 = .ok (.iload_n 2, 1) := by decide +kernel
theorem dX9_heardSet_5 : decode cX9_heardSet 5 = .ok (.aload_n 0, 1) := by decide +kernel
theorem dX9_heardSet_6 : decode cX9_heardSet 6 = .ok (.getfield 188, 3) := by decide +kernel
theorem dX9_heardSet_9 : decode cX9_heardSet 9 = .ok (.if_icmp .ge 20, 3) := by decide +kernel
theorem dX9_heardSet_12 : decode cX9_heardSet 12 = .ok (.iload_n 1, 1) := by decide +kernel
theorem dX9_heardSet_13 : decode cX9_heardSet 13 = .ok (.iconst 1, 1) := by decide +kernel
theorem dX9_heardSet_14 : decode cX9_heardSet 14 = .ok (.aload_n 0, 1) := by decide +kernel
theorem dX9_heardSet_15 : decode cX9_heardSet 15 = .ok (.getfield 44, 3) := by decide +kernel
theorem dX9_heardSet_18 : decode cX9_heardSet 18 = .ok (.iload_n 2, 1) := by decide +kernel
theorem dX9_heardSet_19 : decode cX9_heardSet 19 = .ok (.iaload, 1) := by decide +kernel
theorem dX9_heardSet_20 : decode cX9_heardSet 20 = .ok (.ishl, 1) := by decide +kernel
theorem dX9_heardSet_21 : decode cX9_heardSet 21 = .ok (.ior, 1) := by decide +kernel
theorem dX9_heardSet_22 : decode cX9_heardSet 22 = .ok (.istore_n 1, 1) := by decide +kernel
theorem dX9_heardSet_23 : decode cX9_heardSet 23 = .ok (.iinc 2 1, 3) := by decide +kernel
theorem dX9_heardSet_26 : decode cX9_heardSet 26 = .ok (.goto (-22), 3) := by decide +kernel
theorem dX9_heardSet_29 : decode cX9_heardSet 29 = .ok (.iload_n 1, 1) := by decide +kernel
theorem dX9_heardSet_30 : decode cX9_heardSet 30 = .ok (.ireturn, 1) := by decide +kernel
theorem dX9_gap_0 : decode cX9_gap 0 = .ok (.aload_n 0, 1) := by decide +kernel
theorem dX9_gap_1 : decode cX9_gap 1 = .ok (.getfield 41, 3) := by decide +kernel
theorem dX9_gap_4 : decode cX9_gap 4 = .ok (.aload_n 0, 1) := by decide +kernel
theorem dX9_gap_5 : decode cX9_gap 5 = .ok (.getfield 44, 3) := by decide +kernel
theorem dX9_gap_8 : decode cX9_gap 8 = .ok (.iload_n 1, 1) := by decide +kernel
theorem dX9_gap_9 : decode cX9_gap 9 = .ok (.iaload, 1) := by decide +kernel
theorem dX9_gap_10 : decode cX9_gap 10 = .ok (.iaload, 1) := by decide +kernel
theorem dX9_gap_11 : decode cX9_gap 11 = .ok (.aload_n 0, 1) := by decide +kernel
theorem dX9_gap_12 : decode cX9_gap 12 = .ok (.getfield 41, 3) := by decide +kernel
theorem dX9_gap_15 : decode cX9_gap 15 = .ok (.aload_n 0, 1) := by decide +kernel
theorem dX9_gap_16 : decode cX9_gap 16 = .ok (.getfield 44, 3) := by decide +kernel
theorem dX9_gap_19 : decode cX9_gap 19 = .ok (.iload_n 1, 1) := by decide +kernel
theorem dX9_gap_20 : decode cX9_gap 20 = .ok (.iconst 1, 1) := by decide +kernel
theorem dX9_gap_21 : decode cX9_gap 21 = .ok (.isub, 1) := by decide +kernel
theorem dX9_gap_22 : decode cX9_gap 22 = .ok (.iaload, 1) := by decide +kernel
theorem dX9_gap_23 : decode cX9_gap 23 = .ok (.iaload, 1) := by decide +kernel
theorem dX9_gap_24 : decode cX9_gap 24 = .ok (.isub, 1) := by decide +kernel
theorem dX9_gap_25 : decode cX9_gap 25 = .ok (.ireturn, 1) := by decide +kernel
theorem dX9_errorNow_0 : decode cX9_errorNow 0 = .ok (.iconst 0, 1) := by decide +kernel
theorem dX9_errorNow_1 : decode cX9_errorNow 1 = .ok (.istore_n 1, 1) := by decide +kernel
theorem dX9_errorNow_2 : decode cX9_errorNow 2 = .ok (.iconst 1, 1) := by decide +kernel
theorem dX9_errorNow_3 : decode cX9_errorNow 3 = .ok (.istore_n 2, 1) := by decide +kernel
theorem dX9_errorNow_4 : decode cX9_errorNow 4 = .ok (.iload_n 2, 1) := by decide +kernel
theorem dX9_errorNow_5 : decode cX9_errorNow 5 = .ok (.aload_n 0, 1) := by decide +kernel
theorem dX9_errorNow_6 : decode cX9_errorNow 6 = .ok (.getfield 188, 3) := by decide +kernel
theorem dX9_errorNow_9 : decode cX9_errorNow 9 = .ok (.if_icmp .ge 38, 3) := by decide +kernel
theorem dX9_errorNow_12 : decode cX9_errorNow 12 = .ok (.iload_n 1, 1) := by decide +kernel
theorem dX9_errorNow_13 : decode cX9_errorNow 13 = .ok (.aload_n 0, 1) := by decide +kernel
theorem dX9_errorNow_14 : decode cX9_errorNow 14 = .ok (.iload_n 2, 1) := by decide +kernel
theorem dX9_errorNow_15 : decode cX9_errorNow 15 = .ok (.invokevirtual 194, 3) := by decide +kernel
theorem dX9_errorNow_18 : decode cX9_errorNow 18 = .ok (.iconst 2, 1) := by decide +kernel
theorem dX9_errorNow_19 : decode cX9_errorNow 19 = .ok (.if_icmp .le 13, 3) := by decide +kernel
theorem dX9_errorNow_22 : decode cX9_errorNow 22 = .ok (.aload_n 0, 1) := by decide +kernel
theorem dX9_errorNow_23 : decode cX9_errorNow 23 = .ok (.iload_n 2, 1) := by decide +kernel
theorem dX9_errorNow_24 : decode cX9_errorNow 24 = .ok (.invokevirtual 194, 3) := by decide +kernel
theorem dX9_errorNow_27 : decode cX9_errorNow 27 = .ok (.iconst 2, 1) := by decide +kernel
theorem dX9_errorNow_28 : decode cX9_errorNow 28 = .ok (.isub, 1) := by decide +kernel
theorem dX9_errorNow_29 : decode cX9_errorNow 29 = .ok (.goto 10, 3) := by decide +kernel
theorem dX9_errorNow_32 : decode cX9_errorNow 32 = .ok (.iconst 2, 1) := by decide +kernel
theorem dX9_errorNow_33 : decode cX9_errorNow 33 = .ok (.aload_n 0, 1) := by decide +kernel
theorem dX9_errorNow_34 : decode cX9_errorNow 34 = .ok (.iload_n 2, 1) := by decide +kernel
theorem dX9_errorNow_35 : decode cX9_errorNow 35 = .ok (.invokevirtual 194, 3) := by decide +kernel
theorem dX9_errorNow_38 : decode cX9_errorNow 38 = .ok (.isub, 1) := by decide +kernel
theorem dX9_errorNow_39 : decode cX9_errorNow 39 = .ok (.iadd, 1) := by decide +kernel
theorem dX9_errorNow_40 : decode cX9_errorNow 40 = .ok (.istore_n 1, 1) := by decide +kernel
theorem dX9_errorNow_41 : decode cX9_errorNow 41 = .ok (.iinc 2 1, 3) := by decide +kernel
theorem dX9_errorNow_44 : decode cX9_errorNow 44 = .ok (.goto (-40), 3) := by decide +kernel
theorem dX9_errorNow_47 : decode cX9_errorNow 47 = .ok (.iload_n 1, 1) := by decide +kernel
theorem dX9_errorNow_48 : decode cX9_errorNow 48 = .ok (.ireturn, 1) := by decide +kernel
theorem dX9_round_0 : decode cX9_round 0 = .ok (.aload_n 0, 1) := by decide +kernel
theorem dX9_round_1 : decode cX9_round 1 = .ok (.iload_n 1, 1) := by decide +kernel
theorem dX9_round_2 : decode cX9_round 2 = .ok (.invokevirtual 197, 3) := by decide +kernel
theorem dX9_round_5 : decode cX9_round 5 = .ok (.istore_n 2, 1) := by decide +kernel
theorem dX9_round_6 : decode cX9_round 6 = .ok (.iload_n 2, 1) := by decide +kernel
theorem dX9_round_7 : decode cX9_round 7 = .ok (.ifCond .ge 5, 3) := by decide +kernel
theorem dX9_round_10 : decode cX9_round 10 = .ok (.iload_n 2, 1) := by decide +kernel
theorem dX9_round_11 : decode cX9_round 11 = .ok (.ireturn, 1) := by decide +kernel
theorem dX9_round_12 : decode cX9_round 12 = .ok (.aload_n 0, 1) := by decide +kernel
theorem dX9_round_13 : decode cX9_round 13 = .ok (.getfield 142, 3) := by decide +kernel
theorem dX9_round_16 : decode cX9_round 16 = .ok (.bipush 40, 2) := by decide +kernel
theorem dX9_round_18 : decode cX9_round 18 = .ok (.if_icmp .ne 6, 3) := by decide +kernel
theorem dX9_round_21 : decode cX9_round 21 = .ok (.bipush (-2), 2) := by decide +kernel
theorem dX9_round_23 : decode cX9_round 23 = .ok (.ireturn, 1) := by decide +kernel
theorem dX9_round_24 : decode cX9_round 24 = .ok (.aload_n 0, 1) := by decide +kernel
theorem dX9_round_25 : decode cX9_round 25 = .ok (.iload_n 1, 1) := by decide +kernel
theorem dX9_round_26 : decode cX9_round 26 = .ok (.invokevirtual 200, 3) := by decide +kernel
theorem dX9_round_29 : decode cX9_round 29 = .ok (.aload_n 0, 1) := by decide +kernel
theorem dX9_round_30 : decode cX9_round 30 = .ok (.invokevirtual 178, 3) := by decide +kernel
theorem dX9_round_33 : decode cX9_round 33 = .ok (.iconst 0, 1) := by decide +kernel
theorem dX9_round_34 : decode cX9_round 34 = .ok (.istore_n 3, 1) := by decide +kernel
theorem dX9_round_35 : decode cX9_round 35 = .ok (.iload_n 3, 1) := by decide +kernel
theorem dX9_round_36 : decode cX9_round 36 = .ok (.aload_n 0, 1) := by decide +kernel
theorem dX9_round_37 : decode cX9_round 37 = .ok (.getfield 7, 3) := by decide +kernel
theorem dX9_round_40 : decode cX9_round 40 = .ok (.iconst 0, 1) := by decide +kernel
theorem dX9_round_41 : decode cX9_round 41 = .ok (.iaload, 1) := by decide +kernel
theorem dX9_round_42 : decode cX9_round 42 = .ok (.if_icmp .ge 28, 3) := by decide +kernel
theorem dX9_round_45 : decode cX9_round 45 = .ok (.aload_n 0, 1) := by decide +kernel
theorem dX9_round_46 : decode cX9_round 46 = .ok (.iload_n 3, 1) := by decide +kernel
theorem dX9_round_47 : decode cX9_round 47 = .ok (.invokevirtual 175, 3) := by decide +kernel
theorem dX9_round_50 : decode cX9_round 50 = .ok (.ifCond .ne 14, 3) := by decide +kernel
theorem dX9_round_53 : decode cX9_round 53 = .ok (.aload_n 0, 1) := by decide +kernel
theorem dX9_round_54 : decode cX9_round 54 = .ok (.iload_n 3, 1) := by decide +kernel
theorem dX9_round_55 : decode cX9_round 55 = .ok (.aload_n 0, 1) := by decide +kernel
theorem dX9_round_56 : decode cX9_round 56 = .ok (.getfield 38, 3) := by decide +kernel
theorem dX9_round_59 : decode cX9_round 59 = .ok (.iload_n 3, 1) := by decide +kernel
theorem dX9_round_60 : decode cX9_round 60 = .ok (.iaload, 1) := by decide +kernel
theorem dX9_round_61 : decode cX9_round 61 = .ok (.invokevirtual 181, 3) := by decide +kernel
theorem dX9_round_64 : decode cX9_round 64 = .ok (.iinc 3 1, 3) := by decide +kernel
theorem dX9_round_67 : decode cX9_round 67 = .ok (.goto (-32), 3) := by decide +kernel
theorem dX9_round_70 : decode cX9_round 70 = .ok (.aload_n 0, 1) := by decide +kernel
theorem dX9_round_71 : decode cX9_round 71 = .ok (.invokevirtual 203, 3) := by decide +kernel
theorem dX9_round_74 : decode cX9_round 74 = .ok (.ireturn, 1) := by decide +kernel
theorem dX9_mend_0 : decode cX9_mend 0 = .ok (.aload_n 0, 1) := by decide +kernel
theorem dX9_mend_1 : decode cX9_mend 1 = .ok (.iload_n 1, 1) := by decide +kernel
theorem dX9_mend_2 : decode cX9_mend 2 = .ok (.invokevirtual 145, 3) := by decide +kernel
theorem dX9_mend_5 : decode cX9_mend 5 = .ok (.ifCond .ne 5, 3) := by decide +kernel
theorem dX9_mend_8 : decode cX9_mend 8 = .ok (.iconst (-1), 1) := by decide +kernel
theorem dX9_mend_9 : decode cX9_mend 9 = .ok (.ireturn, 1) := by decide +kernel
theorem dX9_mend_10 : decode cX9_mend 10 = .ok (.aload_n 0, 1) := by decide +kernel
theorem dX9_mend_11 : decode cX9_mend 11 = .ok (.iload_n 1, 1) := by decide +kernel
theorem dX9_mend_12 : decode cX9_mend 12 = .ok (.invokevirtual 175, 3) := by decide +kernel
theorem dX9_mend_15 : decode cX9_mend 15 = .ok (.ifCond .ne 6, 3) := by decide +kernel
theorem dX9_mend_18 : decode cX9_mend 18 = .ok (.bipush (-4), 2) := by decide +kernel
theorem dX9_mend_20 : decode cX9_mend 20 = .ok (.ireturn, 1) := by decide +kernel
theorem dX9_mend_21 : decode cX9_mend 21 = .ok (.aload_n 0, 1) := by decide +kernel
theorem dX9_mend_22 : decode cX9_mend 22 = .ok (.getfield 142, 3) := by decide +kernel
theorem dX9_mend_25 : decode cX9_mend 25 = .ok (.bipush 40, 2) := by decide +kernel
theorem dX9_mend_27 : decode cX9_mend 27 = .ok (.if_icmp .ne 6, 3) := by decide +kernel
theorem dX9_mend_30 : decode cX9_mend 30 = .ok (.bipush (-2), 2) := by decide +kernel
theorem dX9_mend_32 : decode cX9_mend 32 = .ok (.ireturn, 1) := by decide +kernel
theorem dX9_mend_33 : decode cX9_mend 33 = .ok (.aload_n 0, 1) := by decide +kernel
theorem dX9_mend_34 : decode cX9_mend 34 = .ok (.invokevirtual 178, 3) := by decide +kernel
theorem dX9_mend_37 : decode cX9_mend 37 = .ok (.aload_n 0, 1) := by decide +kernel
theorem dX9_mend_38 : decode cX9_mend 38 = .ok (.getfield 7, 3) := by decide +kernel
theorem dX9_mend_41 : decode cX9_mend 41 = .ok (.bipush 20, 2) := by decide +kernel
theorem dX9_mend_43 : decode cX9_mend 43 = .ok (.iload_n 1, 1) := by decide +kernel
theorem dX9_mend_44 : decode cX9_mend 44 = .ok (.iadd, 1) := by decide +kernel
theorem dX9_mend_45 : decode cX9_mend 45 = .ok (.iconst 0, 1) := by decide +kernel
theorem dX9_mend_46 : decode cX9_mend 46 = .ok (.iastore, 1) := by decide +kernel
theorem dX9_mend_47 : decode cX9_mend 47 = .ok (.iconst 1, 1) := by decide +kernel
theorem dX9_mend_48 : decode cX9_mend 48 = .ok (.ireturn, 1) := by decide +kernel
theorem dX9_undo_0 : decode cX9_undo 0 = .ok (.iload_n 1, 1) := by decide +kernel
theorem dX9_undo_1 : decode cX9_undo 1 = .ok (.i2l, 1) := by decide +kernel
theorem dX9_undo_2 : decode cX9_undo 2 = .ok (.lconst 0, 1) := by decide +kernel
theorem dX9_undo_3 : decode cX9_undo 3 = .ok (.aload_n 0, 1) := by decide +kernel
theorem dX9_undo_4 : decode cX9_undo 4 = .ok (.getfield 142, 3) := by decide +kernel
theorem dX9_undo_7 : decode cX9_undo 7 = .ok (.i2l, 1) := by decide +kernel
theorem dX9_undo_8 : decode cX9_undo 8 = .ok (.invokestatic 83, 3) := by decide +kernel
theorem dX9_undo_11 : decode cX9_undo 11 = .ok (.ifCond .ne 5, 3) := by decide +kernel
theorem dX9_undo_14 : decode cX9_undo 14 = .ok (.iconst (-1), 1) := by decide +kernel
theorem dX9_undo_15 : decode cX9_undo 15 = .ok (.ireturn, 1) := by decide +kernel
theorem dX9_undo_16 : decode cX9_undo 16 = .ok (.aload_n 0, 1) := by decide +kernel
theorem dX9_undo_17 : decode cX9_undo 17 = .ok (.getfield 142, 3) := by decide +kernel
theorem dX9_undo_20 : decode cX9_undo 20 = .ok (.iload_n 1, 1) := by decide +kernel
theorem dX9_undo_21 : decode cX9_undo 21 = .ok (.isub, 1) := by decide +kernel
theorem dX9_undo_22 : decode cX9_undo 22 = .ok (.istore_n 2, 1) := by decide +kernel
theorem dX9_undo_23 : decode cX9_undo 23 = .ok (.iload_n 2, 1) := by decide +kernel
theorem dX9_undo_24 : decode cX9_undo 24 = .ok (.ifCond .le 35, 3) := by decide +kernel
theorem dX9_undo_27 : decode cX9_undo 27 = .ok (.aload_n 0, 1) := by decide +kernel
theorem dX9_undo_28 : decode cX9_undo 28 = .ok (.getfield 7, 3) := by decide +kernel
theorem dX9_undo_31 : decode cX9_undo 31 = .ok (.iconst 1, 1) := by decide +kernel
theorem dX9_undo_32 : decode cX9_undo 32 = .ok (.iaload, 1) := by decide +kernel
theorem dX9_undo_33 : decode cX9_undo 33 = .ok (.istore_n 3, 1) := by decide +kernel
theorem dX9_undo_34 : decode cX9_undo 34 = .ok (.aload_n 0, 1) := by decide +kernel
theorem dX9_undo_35 : decode cX9_undo 35 = .ok (.bipush 32, 2) := by decide +kernel
theorem dX9_undo_37 : decode cX9_undo 37 = .ok (.iload_n 1, 1) := by decide +kernel
theorem dX9_undo_38 : decode cX9_undo 38 = .ok (.iconst 1, 1) := by decide +kernel
theorem dX9_undo_39 : decode cX9_undo 39 = .ok (.iadd, 1) := by decide +kernel
theorem dX9_undo_40 : decode cX9_undo 40 = .ok (.imul, 1) := by decide +kernel
theorem dX9_undo_41 : decode cX9_undo 41 = .ok (.iconst 0, 1) := by decide +kernel
theorem dX9_undo_42 : decode cX9_undo 42 = .ok (.bipush 32, 2) := by decide +kernel
theorem dX9_undo_44 : decode cX9_undo 44 = .ok (.invokevirtual 138, 3) := by decide +kernel
theorem dX9_undo_47 : decode cX9_undo 47 = .ok (.aload_n 0, 1) := by decide +kernel
theorem dX9_undo_48 : decode cX9_undo 48 = .ok (.getfield 7, 3) := by decide +kernel
theorem dX9_undo_51 : decode cX9_undo 51 = .ok (.iconst 1, 1) := by decide +kernel
theorem dX9_undo_52 : decode cX9_undo 52 = .ok (.iload_n 3, 1) := by decide +kernel
theorem dX9_undo_53 : decode cX9_undo 53 = .ok (.iastore, 1) := by decide +kernel
theorem dX9_undo_54 : decode cX9_undo 54 = .ok (.aload_n 0, 1) := by decide +kernel
theorem dX9_undo_55 : decode cX9_undo 55 = .ok (.iload_n 1, 1) := by decide +kernel
theorem dX9_undo_56 : decode cX9_undo 56 = .ok (.putfield 142, 3) := by decide +kernel
theorem dX9_undo_59 : decode cX9_undo 59 = .ok (.iload_n 2, 1) := by decide +kernel
theorem dX9_undo_60 : decode cX9_undo 60 = .ok (.ireturn, 1) := by decide +kernel
theorem dX9_keep_0 : decode cX9_keep 0 = .ok (.iload_n 1, 1) := by decide +kernel
theorem dX9_keep_1 : decode cX9_keep 1 = .ok (.i2l, 1) := by decide +kernel
theorem dX9_keep_2 : decode cX9_keep 2 = .ok (.lconst 0, 1) := by decide +kernel
theorem dX9_keep_3 : decode cX9_keep 3 = .ok (.ldc2_w 207, 3) := by decide +kernel
theorem dX9_keep_6 : decode cX9_keep 6 = .ok (.invokestatic 83, 3) := by decide +kernel
theorem dX9_keep_9 : decode cX9_keep 9 = .ok (.ifCond .ne 5, 3) := by decide +kernel
theorem dX9_keep_12 : decode cX9_keep 12 = .ok (.iconst (-1), 1) := by decide +kernel
theorem dX9_keep_13 : decode cX9_keep 13 = .ok (.ireturn, 1) := by decide +kernel
theorem dX9_keep_14 : decode cX9_keep 14 = .ok (.aload_n 0, 1) := by decide +kernel
theorem dX9_keep_15 : decode cX9_keep 15 = .ok (.getfield 7, 3) := by decide +kernel
theorem dX9_keep_18 : decode cX9_keep 18 = .ok (.iconst 0, 1) := by decide +kernel
theorem dX9_keep_19 : decode cX9_keep 19 = .ok (.iaload, 1) := by decide +kernel
theorem dX9_keep_20 : decode cX9_keep 20 = .ok (.ifCond .ne 6, 3) := by decide +kernel
theorem dX9_keep_23 : decode cX9_keep 23 = .ok (.bipush (-4), 2) := by decide +kernel
theorem dX9_keep_25 : decode cX9_keep 25 = .ok (.ireturn, 1) := by decide +kernel
theorem dX9_keep_26 : decode cX9_keep 26 = .ok (.aload_n 0, 1) := by decide +kernel
theorem dX9_keep_27 : decode cX9_keep 27 = .ok (.iconst 0, 1) := by decide +kernel
theorem dX9_keep_28 : decode cX9_keep 28 = .ok (.sipush 1312, 3) := by decide +kernel
theorem dX9_keep_31 : decode cX9_keep 31 = .ok (.iload_n 1, 1) := by decide +kernel
theorem dX9_keep_32 : decode cX9_keep 32 = .ok (.iconst 1, 1) := by decide +kernel
theorem dX9_keep_33 : decode cX9_keep 33 = .ok (.iadd, 1) := by decide +kernel
theorem dX9_keep_34 : decode cX9_keep 34 = .ok (.imul, 1) := by decide +kernel
theorem dX9_keep_35 : decode cX9_keep 35 = .ok (.sipush 1312, 3) := by decide +kernel
theorem dX9_keep_38 : decode cX9_keep 38 = .ok (.invokevirtual 138, 3) := by decide +kernel
theorem dX9_keep_41 : decode cX9_keep 41 = .ok (.aload_n 0, 1) := by decide +kernel
theorem dX9_keep_42 : decode cX9_keep 42 = .ok (.getfield 13, 3) := by decide +kernel
theorem dX9_keep_45 : decode cX9_keep 45 = .ok (.iload_n 1, 1) := by decide +kernel
theorem dX9_keep_46 : decode cX9_keep 46 = .ok (.aload_n 0, 1) := by decide +kernel
theorem dX9_keep_47 : decode cX9_keep 47 = .ok (.getfield 142, 3) := by decide +kernel
theorem dX9_keep_50 : decode cX9_keep 50 = .ok (.iastore, 1) := by decide +kernel
theorem dX9_keep_51 : decode cX9_keep 51 = .ok (.aload_n 0, 1) := by decide +kernel
theorem dX9_keep_52 : decode cX9_keep 52 = .ok (.getfield 142, 3) := by decide +kernel
theorem dX9_keep_55 : decode cX9_keep 55 = .ok (.ireturn, 1) := by decide +kernel
theorem dX9_on_0 : decode cX9_on 0 = .ok (.iload_n 1, 1) := by decide +kernel
theorem dX9_on_1 : decode cX9_on 1 = .ok (.i2l, 1) := by decide +kernel
theorem dX9_on_2 : decode cX9_on 2 = .ok (.lconst 0, 1) := by decide +kernel
theorem dX9_on_3 : decode cX9_on 3 = .ok (.ldc2_w 207, 3) := by decide +kernel
theorem dX9_on_6 : decode cX9_on 6 = .ok (.invokestatic 83, 3) := by decide +kernel
theorem dX9_on_9 : decode cX9_on 9 = .ok (.ifCond .ne 5, 3) := by decide +kernel
theorem dX9_on_12 : decode cX9_on 12 = .ok (.iconst (-1), 1) := by decide +kernel
theorem dX9_on_13 : decode cX9_on 13 = .ok (.ireturn, 1) := by decide +kernel
theorem dX9_on_14 : decode cX9_on 14 = .ok (.aload_n 0, 1) := by decide +kernel
theorem dX9_on_15 : decode cX9_on 15 = .ok (.getfield 13, 3) := by decide +kernel
theorem dX9_on_18 : decode cX9_on 18 = .ok (.iload_n 1, 1) := by decide +kernel
theorem dX9_on_19 : decode cX9_on 19 = .ok (.iaload, 1) := by decide +kernel
theorem dX9_on_20 : decode cX9_on 20 = .ok (.ifCond .ge 9, 3) := by decide +kernel
theorem dX9_on_23 : decode cX9_on 23 = .ok (.aload_n 0, 1) := by decide +kernel
theorem dX9_on_24 : decode cX9_on 24 = .ok (.iconst 1, 1) := by decide +kernel
theorem dX9_on_25 : decode cX9_on 25 = .ok (.invokevirtual 93, 3) := by decide +kernel
theorem dX9_on_28 : decode cX9_on 28 = .ok (.ireturn, 1) := by decide +kernel
theorem dX9_on_29 : decode cX9_on 29 = .ok (.aload_n 0, 1) := by decide +kernel
theorem dX9_on_30 : decode cX9_on 30 = .ok (.sipush 1312, 3) := by decide +kernel
theorem dX9_on_33 : decode cX9_on 33 = .ok (.iload_n 1, 1) := by decide +kernel
theorem dX9_on_34 : decode cX9_on 34 = .ok (.iconst 1, 1) := by decide +kernel
theorem dX9_on_35 : decode cX9_on 35 = .ok (.iadd, 1) := by decide +kernel
theorem dX9_on_36 : decode cX9_on 36 = .ok (.imul, 1) := by decide +kernel
theorem dX9_on_37 : decode cX9_on 37 = .ok (.iconst 0, 1) := by decide +kernel
theorem dX9_on_38 : decode cX9_on 38 = .ok (.sipush 1312, 3) := by decide +kernel
theorem dX9_on_41 : decode cX9_on 41 = .ok (.invokevirtual 138, 3) := by decide +kernel
theorem dX9_on_44 : decode cX9_on 44 = .ok (.aload_n 0, 1) := by decide +kernel
theorem dX9_on_45 : decode cX9_on 45 = .ok (.aload_n 0, 1) := by decide +kernel
theorem dX9_on_46 : decode cX9_on 46 = .ok (.getfield 13, 3) := by decide +kernel
theorem dX9_on_49 : decode cX9_on 49 = .ok (.iload_n 1, 1) := by decide +kernel
theorem dX9_on_50 : decode cX9_on 50 = .ok (.iaload, 1) := by decide +kernel
theorem dX9_on_51 : decode cX9_on 51 = .ok (.putfield 142, 3) := by decide +kernel
theorem dX9_on_54 : decode cX9_on 54 = .ok (.aload_n 0, 1) := by decide +kernel
theorem dX9_on_55 : decode cX9_on 55 = .ok (.getfield 142, 3) := by decide +kernel
theorem dX9_on_58 : decode cX9_on 58 = .ok (.ireturn, 1) := by decide +kernel
theorem dX9_strikes_0 : decode cX9_strikes 0 = .ok (.aload_n 0, 1) := by decide +kernel
theorem dX9_strikes_1 : decode cX9_strikes 1 = .ok (.iload_n 1, 1) := by decide +kernel
theorem dX9_strikes_2 : decode cX9_strikes 2 = .ok (.invokevirtual 145, 3) := by decide +kernel
theorem dX9_strikes_5 : decode cX9_strikes 5 = .ok (.ifCond .eq 10, 3) := by decide +kernel
theorem dX9_strikes_8 : decode cX9_strikes 8 = .ok (.iload_n 2, 1) := by decide +kernel
theorem dX9_strikes_9 : decode cX9_strikes 9 = .ok (.invokestatic 172, 3) := by decide +kernel
theorem dX9_strikes_12 : decode cX9_strikes 12 = .ok (.ifCond .ne 5, 3) := by decide +kernel
theorem dX9_strikes_15 : decode cX9_strikes 15 = .ok (.iconst (-1), 1) := by decide +kernel
theorem dX9_strikes_16 : decode cX9_strikes 16 = .ok (.ireturn, 1) := by decide +kernel
theorem dX9_strikes_17 : decode cX9_strikes 17 = .ok (.aload_n 0, 1) := by decide +kernel
theorem dX9_strikes_18 : decode cX9_strikes 18 = .ok (.iload_n 1, 1) := by decide +kernel
theorem dX9_strikes_19 : decode cX9_strikes 19 = .ok (.invokevirtual 175, 3) := by decide +kernel
theorem dX9_strikes_22 : decode cX9_strikes 22 = .ok (.ifCond .eq 8, 3) := by decide +kernel
theorem dX9_strikes_25 : decode cX9_strikes 25 = .ok (.bipush (-4), 2) := by decide +kernel
theorem dX9_strikes_27 : decode cX9_strikes 27 = .ok (.goto 18, 3) := by decide +kernel
theorem dX9_strikes_30 : decode cX9_strikes 30 = .ok (.aload_n 0, 1) := by decide +kernel
theorem dX9_strikes_31 : decode cX9_strikes 31 = .ok (.iload_n 1, 1) := by decide +kernel
theorem dX9_strikes_32 : decode cX9_strikes 32 = .ok (.aload_n 0, 1) := by decide +kernel
theorem dX9_strikes_33 : decode cX9_strikes 33 = .ok (.getfield 7, 3) := by decide +kernel
theorem dX9_strikes_36 : decode cX9_strikes 36 = .ok (.bipush 14, 2) := by decide +kernel
theorem dX9_strikes_38 : decode cX9_strikes 38 = .ok (.iload_n 1, 1) := by decide +kernel
theorem dX9_strikes_39 : decode cX9_strikes 39 = .ok (.iadd, 1) := by decide +kernel
theorem dX9_strikes_40 : decode cX9_strikes 40 = .ok (.iaload, 1) := by decide +kernel
theorem dX9_strikes_41 : decode cX9_strikes 41 = .ok (.iload_n 2, 1) := by decide +kernel
theorem dX9_strikes_42 : decode cX9_strikes 42 = .ok (.invokevirtual 164, 3) := by decide +kernel
theorem dX9_strikes_45 : decode cX9_strikes 45 = .ok (.ireturn, 1) := by decide +kernel
theorem dX9_stands_0 : decode cX9_stands 0 = .ok (.aload_n 0, 1) := by decide +kernel
theorem dX9_stands_1 : decode cX9_stands 1 = .ok (.iload_n 1, 1) := by decide +kernel
theorem dX9_stands_2 : decode cX9_stands 2 = .ok (.invokevirtual 145, 3) := by decide +kernel
theorem dX9_stands_5 : decode cX9_stands 5 = .ok (.ifCond .ne 5, 3) := by decide +kernel
theorem dX9_stands_8 : decode cX9_stands 8 = .ok (.iconst (-1), 1) := by decide +kernel
theorem dX9_stands_9 : decode cX9_stands 9 = .ok (.ireturn, 1) := by decide +kernel
theorem dX9_stands_10 : decode cX9_stands 10 = .ok (.aload_n 0, 1) := by decide +kernel
theorem dX9_stands_11 : decode cX9_stands 11 = .ok (.iload_n 1, 1) := by decide +kernel
theorem dX9_stands_12 : decode cX9_stands 12 = .ok (.invokevirtual 175, 3) := by decide +kernel
theorem dX9_stands_15 : decode cX9_stands 15 = .ok (.ifCond .eq 6, 3) := by decide +kernel
theorem dX9_stands_18 : decode cX9_stands 18 = .ok (.bipush (-4), 2) := by decide +kernel
theorem dX9_stands_20 : decode cX9_stands 20 = .ok (.ireturn, 1) := by decide +kernel
theorem dX9_stands_21 : decode cX9_stands 21 = .ok (.iconst 0, 1) := by decide +kernel
theorem dX9_stands_22 : decode cX9_stands 22 = .ok (.istore_n 2, 1) := by decide +kernel
theorem dX9_stands_23 : decode cX9_stands 23 = .ok (.iconst 0, 1) := by decide +kernel
theorem dX9_stands_24 : decode cX9_stands 24 = .ok (.istore_n 3, 1) := by decide +kernel
theorem dX9_stands_25 : decode cX9_stands 25 = .ok (.iconst 0, 1) := by decide +kernel
theorem dX9_stands_26 : decode cX9_stands 26 = .ok (.istore 4, 2) := by decide +kernel
theorem dX9_stands_28 : decode cX9_stands 28 = .ok (.iload 4, 2) := by decide +kernel
theorem dX9_stands_30 : decode cX9_stands 30 = .ok (.bipush 7, 2) := by decide +kernel
theorem dX9_stands_32 : decode cX9_stands 32 = .ok (.if_icmp .ge 68, 3) := by decide +kernel
theorem dX9_stands_35 : decode cX9_stands 35 = .ok (.aload_n 0, 1) := by decide +kernel
theorem dX9_stands_36 : decode cX9_stands 36 = .ok (.getfield 7, 3) := by decide +kernel
theorem dX9_stands_39 : decode cX9_stands 39 = .ok (.iconst 2, 1) := by decide +kernel
theorem dX9_stands_40 : decode cX9_stands 40 = .ok (.iload_n 1, 1) := by decide +kernel
theorem dX9_stands_41 : decode cX9_stands 41 = .ok (.iadd, 1) := by decide +kernel
theorem dX9_stands_42 : decode cX9_stands 42 = .ok (.iaload, 1) := by decide +kernel
theorem dX9_stands_43 : decode cX9_stands 43 = .ok (.aload_n 0, 1) := by decide +kernel
theorem dX9_stands_44 : decode cX9_stands 44 = .ok (.getfield 7, 3) := by decide +kernel
theorem dX9_stands_47 : decode cX9_stands 47 = .ok (.bipush 14, 2) := by decide +kernel
theorem dX9_stands_49 : decode cX9_stands 49 = .ok (.iload_n 1, 1) := by decide +kernel
theorem dX9_stands_50 : decode cX9_stands 50 = .ok (.iadd, 1) := by decide +kernel
theorem dX9_stands_51 : decode cX9_stands 51 = .ok (.iaload, 1) := by decide +kernel
theorem dX9_stands_52 : decode cX9_stands 52 = .ok (.iload 4, 2) := by decide +kernel
theorem dX9_stands_54 : decode cX9_stands 54 = .ok (.invokestatic 157, 3) := by decide +kernel
theorem dX9_stands_57 : decode cX9_stands 57 = .ok (.istore 5, 2) := by decide +kernel
theorem dX9_stands_59 : decode cX9_stands 59 = .ok (.iload_n 2, 1) := by decide +kernel
theorem dX9_stands_60 : decode cX9_stands 60 = .ok (.iload 5, 2) := by decide +kernel
theorem dX9_stands_62 : decode cX9_stands 62 = .ok (.bipush 20, 2) := by decide +kernel
theorem dX9_stands_64 : decode cX9_stands 64 = .ok (.if_icmp .ne 10, 3) := by decide +kernel
theorem dX9_stands_67 : decode cX9_stands 67 = .ok (.iconst 1, 1) := by decide +kernel
theorem dX9_stands_68 : decode cX9_stands 68 = .ok (.iload 4, 2) := by decide +kernel
theorem dX9_stands_70 : decode cX9_stands 70 = .ok (.ishl, 1) := by decide +kernel
theorem dX9_stands_71 : decode cX9_stands 71 = .ok (.goto 4, 3) := by decide +kernel
theorem dX9_stands_74 : decode cX9_stands 74 = .ok (.iconst 0, 1) := by decide +kernel
theorem dX9_stands_75 : decode cX9_stands 75 = .ok (.ior, 1) := by decide +kernel
theorem dX9_stands_76 : decode cX9_stands 76 = .ok (.istore_n 2, 1) := by decide +kernel
theorem dX9_stands_77 : decode cX9_stands 77 = .ok (.iload_n 3, 1) := by decide +kernel
theorem dX9_stands_78 : decode cX9_stands 78 = .ok (.iload 5, 2) := by decide +kernel
theorem dX9_stands_80 : decode cX9_stands 80 = .ok (.iconst (-1), 1) := by decide +kernel
theorem dX9_stands_81 : decode cX9_stands 81 = .ok (.if_icmp .ne 10, 3) := by decide +kernel
theorem dX9_stands_84 : decode cX9_stands 84 = .ok (.iconst 1, 1) := by decide +kernel
theorem dX9_stands_85 : decode cX9_stands 85 = .ok (.iload 4, 2) := by decide +kernel
theorem dX9_stands_87 : decode cX9_stands 87 = .ok (.ishl, 1) := by decide +kernel
theorem dX9_stands_88 : decode cX9_stands 88 = .ok (.goto 4, 3) := by decide +kernel
theorem dX9_stands_91 : decode cX9_stands 91 = .ok (.iconst 0, 1) := by decide +kernel
theorem dX9_stands_92 : decode cX9_stands 92 = .ok (.ior, 1) := by decide +kernel
theorem dX9_stands_93 : decode cX9_stands 93 = .ok (.istore_n 3, 1) := by decide +kernel
theorem dX9_stands_94 : decode cX9_stands 94 = .ok (.iinc 4 1, 3) := by decide +kernel
theorem dX9_stands_97 : decode cX9_stands 97 = .ok (.goto (-69), 3) := by decide +kernel
theorem dX9_stands_100 : decode cX9_stands 100 = .ok (.aload_n 0, 1) := by decide +kernel
theorem dX9_stands_101 : decode cX9_stands 101 = .ok (.iload_n 3, 1) := by decide +kernel
theorem dX9_stands_102 : decode cX9_stands 102 = .ok (.iload_n 2, 1) := by decide +kernel
theorem dX9_stands_103 : decode cX9_stands 103 = .ok (.invokevirtual 105, 3) := by decide +kernel
theorem dX9_stands_106 : decode cX9_stands 106 = .ok (.ireturn, 1) := by decide +kernel
theorem dX9_layStands_0 : decode cX9_layStands 0 = .ok (.iconst 0, 1) := by decide +kernel
theorem dX9_layStands_1 : decode cX9_layStands 1 = .ok (.istore_n 2, 1) := by decide +kernel
theorem dX9_layStands_2 : decode cX9_layStands 2 = .ok (.iload_n 2, 1) := by decide +kernel
theorem dX9_layStands_3 : decode cX9_layStands 3 = .ok (.bipush 30, 2) := by decide +kernel
theorem dX9_layStands_5 : decode cX9_layStands 5 = .ok (.if_icmp .gt 117, 3) := by decide +kernel
theorem dX9_layStands_8 : decode cX9_layStands 8 = .ok (.iconst 0, 1) := by decide +kernel
theorem dX9_layStands_9 : decode cX9_layStands 9 = .ok (.istore_n 3, 1) := by decide +kernel
theorem dX9_layStands_10 : decode cX9_layStands 10 = .ok (.iload_n 3, 1) := by decide +kernel
theorem dX9_layStands_11 : decode cX9_layStands 11 = .ok (.bipush 20, 2) := by decide +kernel
theorem dX9_layStands_13 : decode cX9_layStands 13 = .ok (.if_icmp .gt 103, 3) := by decide +kernel
theorem dX9_layStands_16 : decode cX9_layStands 16 = .ok (.iload_n 2, 1) := by decide +kernel
theorem dX9_layStands_17 : decode cX9_layStands 17 = .ok (.ifCond .ne 13, 3) := by decide +kernel
theorem dX9_layStands_20 : decode cX9_layStands 20 = .ok (.iload_n 3, 1) := by decide +kernel
theorem dX9_layStands_21 : decode cX9_layStands 21 = .ok (.bipush 20, 2) := by decide +kernel
theorem dX9_layStands_23 : decode cX9_layStands 23 = .ok (.if_icmp .ne 7, 3) := by decide +kernel
theorem dX9_layStands_26 : decode cX9_layStands 26 = .ok (.iconst 1, 1) := by decide +kernel
theorem dX9_layStands_27 : decode cX9_layStands 27 = .ok (.goto 4, 3) := by decide +kernel
theorem dX9_layStands_30 : decode cX9_layStands 30 = .ok (.iconst 0, 1) := by decide +kernel
theorem dX9_layStands_31 : decode cX9_layStands 31 = .ok (.istore 4, 2) := by decide +kernel
theorem dX9_layStands_33 : decode cX9_layStands 33 = .ok (.iconst 0, 1) := by decide +kernel
theorem dX9_layStands_34 : decode cX9_layStands 34 = .ok (.istore 5, 2) := by decide +kernel
theorem dX9_layStands_36 : decode cX9_layStands 36 = .ok (.iload 5, 2) := by decide +kernel
theorem dX9_layStands_38 : decode cX9_layStands 38 = .ok (.bipush 7, 2) := by decide +kernel
theorem dX9_layStands_40 : decode cX9_layStands 40 = .ok (.if_icmp .ge 57, 3) := by decide +kernel
theorem dX9_layStands_43 : decode cX9_layStands 43 = .ok (.iload_n 2, 1) := by decide +kernel
theorem dX9_layStands_44 : decode cX9_layStands 44 = .ok (.ifCond .le 53, 3) := by decide +kernel
theorem dX9_layStands_47 : decode cX9_layStands 47 = .ok (.iload_n 1, 1) := by decide +kernel
theorem dX9_layStands_48 : decode cX9_layStands 48 = .ok (.iload_n 3, 1) := by decide +kernel
theorem dX9_layStands_49 : decode cX9_layStands 49 = .ok (.iload 5, 2) := by decide +kernel
theorem dX9_layStands_51 : decode cX9_layStands 51 = .ok (.invokestatic 157, 3) := by decide +kernel
theorem dX9_layStands_54 : decode cX9_layStands 54 = .ok (.istore 6, 2) := by decide +kernel
theorem dX9_layStands_56 : decode cX9_layStands 56 = .ok (.iload 4, 2) := by decide +kernel
theorem dX9_layStands_58 : decode cX9_layStands 58 = .ok (.ifCond .ne 26, 3) := by decide +kernel
theorem dX9_layStands_61 : decode cX9_layStands 61 = .ok (.iload 6, 2) := by decide +kernel
theorem dX9_layStands_63 : decode cX9_layStands 63 = .ok (.iconst (-1), 1) := by decide +kernel
theorem dX9_layStands_64 : decode cX9_layStands 64 = .ok (.if_icmp .eq 24, 3) := by decide +kernel
theorem dX9_layStands_67 : decode cX9_layStands 67 = .ok (.aload_n 0, 1) := by decide +kernel
theorem dX9_layStands_68 : decode cX9_layStands 68 = .ok (.getfield 47, 3) := by decide +kernel
theorem dX9_layStands_71 : decode cX9_layStands 71 = .ok (.bipush 21, 2) := by decide +kernel
theorem dX9_layStands_73 : decode cX9_layStands 73 = .ok (.iload_n 2, 1) := by decide +kernel
theorem dX9_layStands_74 : decode cX9_layStands 74 = .ok (.iconst 1, 1) := by decide +kernel
theorem dX9_layStands_75 : decode cX9_layStands 75 = .ok (.isub, 1) := by decide +kernel
theorem dX9_layStands_76 : decode cX9_layStands 76 = .ok (.imul, 1) := by decide +kernel
theorem dX9_layStands_77 : decode cX9_layStands 77 = .ok (.iload 6, 2) := by decide +kernel
theorem dX9_layStands_79 : decode cX9_layStands 79 = .ok (.iadd, 1) := by decide +kernel
theorem dX9_layStands_80 : decode cX9_layStands 80 = .ok (.baload, 1) := by decide +kernel
theorem dX9_layStands_81 : decode cX9_layStands 81 = .ok (.ifCond .eq 7, 3) := by decide +kernel
theorem dX9_layStands_84 : decode cX9_layStands 84 = .ok (.iconst 1, 1) := by decide +kernel
theorem dX9_layStands_85 : decode cX9_layStands 85 = .ok (.goto 4, 3) := by decide +kernel
theorem dX9_layStands_88 : decode cX9_layStands 88 = .ok (.iconst 0, 1) := by decide +kernel
theorem dX9_layStands_89 : decode cX9_layStands 89 = .ok (.istore 4, 2) := by decide +kernel
theorem dX9_layStands_91 : decode cX9_layStands 91 = .ok (.iinc 5 1, 3) := by decide +kernel
theorem dX9_layStands_94 : decode cX9_layStands 94 = .ok (.goto (-58), 3) := by decide +kernel
theorem dX9_layStands_97 : decode cX9_layStands 97 = .ok (.aload_n 0, 1) := by decide +kernel
theorem dX9_layStands_98 : decode cX9_layStands 98 = .ok (.getfield 47, 3) := by decide +kernel
theorem dX9_layStands_101 : decode cX9_layStands 101 = .ok (.bipush 21, 2) := by decide +kernel
theorem dX9_layStands_103 : decode cX9_layStands 103 = .ok (.iload_n 2, 1) := by decide +kernel
theorem dX9_layStands_104 : decode cX9_layStands 104 = .ok (.imul, 1) := by decide +kernel
theorem dX9_layStands_105 : decode cX9_layStands 105 = .ok (.iload_n 3, 1) := by decide +kernel
theorem dX9_layStands_106 : decode cX9_layStands 106 = .ok (.iadd, 1) := by decide +kernel
theorem dX9_layStands_107 : decode cX9_layStands 107 = .ok (.iload 4, 2) := by decide +kernel
theorem dX9_layStands_109 : decode cX9_layStands 109 = .ok (.bastore, 1) := by decide +kernel
theorem dX9_layStands_110 : decode cX9_layStands 110 = .ok (.iinc 3 1, 3) := by decide +kernel
theorem dX9_layStands_113 : decode cX9_layStands 113 = .ok (.goto (-103), 3) := by decide +kernel
theorem dX9_layStands_116 : decode cX9_layStands 116 = .ok (.iinc 2 1, 3) := by decide +kernel
theorem dX9_layStands_119 : decode cX9_layStands 119 = .ok (.goto (-117), 3) := by decide +kernel
theorem dX9_layStands_122 : decode cX9_layStands 122 = .ok (.return_, 1) := by decide +kernel
theorem dX9_raise_0 : decode cX9_raise 0 = .ok (.aload_n 0, 1) := by decide +kernel
theorem dX9_raise_1 : decode cX9_raise 1 = .ok (.iload_n 1, 1) := by decide +kernel
theorem dX9_raise_2 : decode cX9_raise 2 = .ok (.invokevirtual 145, 3) := by decide +kernel
theorem dX9_raise_5 : decode cX9_raise 5 = .ok (.ifCond .eq 10, 3) := by decide +kernel
theorem dX9_raise_8 : decode cX9_raise 8 = .ok (.iload_n 2, 1) := by decide +kernel
theorem dX9_raise_9 : decode cX9_raise 9 = .ok (.invokestatic 89, 3) := by decide +kernel
theorem dX9_raise_12 : decode cX9_raise 12 = .ok (.ifCond .ne 5, 3) := by decide +kernel
theorem dX9_raise_15 : decode cX9_raise 15 = .ok (.iconst (-1), 1) := by decide +kernel
theorem dX9_raise_16 : decode cX9_raise 16 = .ok (.ireturn, 1) := by decide +kernel
theorem dX9_raise_17 : decode cX9_raise 17 = .ok (.aload_n 0, 1) := by decide +kernel
theorem dX9_raise_18 : decode cX9_raise 18 = .ok (.iload_n 1, 1) := by decide +kernel
theorem dX9_raise_19 : decode cX9_raise 19 = .ok (.invokevirtual 175, 3) := by decide +kernel
theorem dX9_raise_22 : decode cX9_raise 22 = .ok (.ifCond .eq 6, 3) := by decide +kernel
theorem dX9_raise_25 : decode cX9_raise 25 = .ok (.bipush (-4), 2) := by decide +kernel
theorem dX9_raise_27 : decode cX9_raise 27 = .ok (.ireturn, 1) := by decide +kernel
theorem dX9_raise_28 : decode cX9_raise 28 = .ok (.aload_n 0, 1) := by decide +kernel
theorem dX9_raise_29 : decode cX9_raise 29 = .ok (.getfield 7, 3) := by decide +kernel
theorem dX9_raise_32 : decode cX9_raise 32 = .ok (.iconst 2, 1) := by decide +kernel
theorem dX9_raise_33 : decode cX9_raise 33 = .ok (.iload_n 1, 1) := by decide +kernel
theorem dX9_raise_34 : decode cX9_raise 34 = .ok (.iadd, 1) := by decide +kernel
theorem dX9_raise_35 : decode cX9_raise 35 = .ok (.iaload, 1) := by decide +kernel
theorem dX9_raise_36 : decode cX9_raise 36 = .ok (.istore_n 3, 1) := by decide +kernel
theorem dX9_raise_37 : decode cX9_raise 37 = .ok (.aload_n 0, 1) := by decide +kernel
theorem dX9_raise_38 : decode cX9_raise 38 = .ok (.iload_n 3, 1) := by decide +kernel
theorem dX9_raise_39 : decode cX9_raise 39 = .ok (.invokevirtual 209, 3) := by decide +kernel
theorem dX9_raise_42 : decode cX9_raise 42 = .ok (.aload_n 0, 1) := by decide +kernel
theorem dX9_raise_43 : decode cX9_raise 43 = .ok (.getfield 7, 3) := by decide +kernel
theorem dX9_raise_46 : decode cX9_raise 46 = .ok (.bipush 14, 2) := by decide +kernel
theorem dX9_raise_48 : decode cX9_raise 48 = .ok (.iload_n 1, 1) := by decide +kernel
theorem dX9_raise_49 : decode cX9_raise 49 = .ok (.iadd, 1) := by decide +kernel
theorem dX9_raise_50 : decode cX9_raise 50 = .ok (.iaload, 1) := by decide +kernel
theorem dX9_raise_51 : decode cX9_raise 51 = .ok (.istore 4, 2) := by decide +kernel
theorem dX9_raise_53 : decode cX9_raise 53 = .ok (.iconst 0, 1) := by decide +kernel
theorem dX9_raise_54 : decode cX9_raise 54 = .ok (.istore 5, 2) := by decide +kernel
theorem dX9_raise_56 : decode cX9_raise 56 = .ok (.iload 5, 2) := by decide +kernel
theorem dX9_raise_58 : decode cX9_raise 58 = .ok (.bipush 30, 2) := by decide +kernel
theorem dX9_raise_60 : decode cX9_raise 60 = .ok (.if_icmp .gt 25, 3) := by decide +kernel
theorem dX9_raise_63 : decode cX9_raise 63 = .ok (.aload_n 0, 1) := by decide +kernel
theorem dX9_raise_64 : decode cX9_raise 64 = .ok (.getfield 47, 3) := by decide +kernel
theorem dX9_raise_67 : decode cX9_raise 67 = .ok (.bipush 21, 2) := by decide +kernel
theorem dX9_raise_69 : decode cX9_raise 69 = .ok (.iload 5, 2) := by decide +kernel
theorem dX9_raise_71 : decode cX9_raise 71 = .ok (.imul, 1) := by decide +kernel
theorem dX9_raise_72 : decode cX9_raise 72 = .ok (.iload 4, 2) := by decide +kernel
theorem dX9_raise_74 : decode cX9_raise 74 = .ok (.iadd, 1) := by decide +kernel
theorem dX9_raise_75 : decode cX9_raise 75 = .ok (.baload, 1) := by decide +kernel
theorem dX9_raise_76 : decode cX9_raise 76 = .ok (.ifCond .ne 9, 3) := by decide +kernel
theorem dX9_raise_79 : decode cX9_raise 79 = .ok (.iinc 5 1, 3) := by decide +kernel
theorem dX9_raise_82 : decode cX9_raise 82 = .ok (.goto (-26), 3) := by decide +kernel
theorem dX9_raise_85 : decode cX9_raise 85 = .ok (.iload 5, 2) := by decide +kernel
theorem dX9_raise_87 : decode cX9_raise 87 = .ok (.bipush 30, 2) := by decide +kernel
theorem dX9_raise_89 : decode cX9_raise 89 = .ok (.if_icmp .le 6, 3) := by decide +kernel
theorem dX9_raise_92 : decode cX9_raise 92 = .ok (.bipush (-9), 2) := by decide +kernel
theorem dX9_raise_94 : decode cX9_raise 94 = .ok (.ireturn, 1) := by decide +kernel
theorem dX9_raise_95 : decode cX9_raise 95 = .ok (.aload_n 0, 1) := by decide +kernel
theorem dX9_raise_96 : decode cX9_raise 96 = .ok (.iload_n 2, 1) := by decide +kernel
theorem dX9_raise_97 : decode cX9_raise 97 = .ok (.iload 5, 2) := by decide +kernel
theorem dX9_raise_99 : decode cX9_raise 99 = .ok (.invokevirtual 97, 3) := by decide +kernel
theorem dX9_raise_102 : decode cX9_raise 102 = .ok (.iconst 0, 1) := by decide +kernel
theorem dX9_raise_103 : decode cX9_raise 103 = .ok (.istore 6, 2) := by decide +kernel
theorem dX9_raise_105 : decode cX9_raise 105 = .ok (.iload 6, 2) := by decide +kernel
theorem dX9_raise_107 : decode cX9_raise 107 = .ok (.iload 5, 2) := by decide +kernel
theorem dX9_raise_109 : decode cX9_raise 109 = .ok (.if_icmp .ge 82, 3) := by decide +kernel
theorem dX9_raise_112 : decode cX9_raise 112 = .ok (.iconst 0, 1) := by decide +kernel
theorem dX9_raise_113 : decode cX9_raise 113 = .ok (.istore 7, 2) := by decide +kernel
theorem dX9_raise_115 : decode cX9_raise 115 = .ok (.iload_n 3, 1) := by decide +kernel
theorem dX9_raise_116 : decode cX9_raise 116 = .ok (.iload 4, 2) := by decide +kernel
theorem dX9_raise_118 : decode cX9_raise 118 = .ok (.iconst 0, 1) := by decide +kernel
theorem dX9_raise_119 : decode cX9_raise 119 = .ok (.invokestatic 157, 3) := by decide +kernel
theorem dX9_raise_122 : decode cX9_raise 122 = .ok (.istore 8, 2) := by decide +kernel
theorem dX9_raise_124 : decode cX9_raise 124 = .ok (.iload 8, 2) := by decide +kernel
theorem dX9_raise_126 : decode cX9_raise 126 = .ok (.iconst (-1), 1) := by decide +kernel
theorem dX9_raise_127 : decode cX9_raise 127 = .ok (.if_icmp .eq 24, 3) := by decide +kernel
theorem dX9_raise_130 : decode cX9_raise 130 = .ok (.aload_n 0, 1) := by decide +kernel
theorem dX9_raise_131 : decode cX9_raise 131 = .ok (.getfield 47, 3) := by decide +kernel
theorem dX9_raise_134 : decode cX9_raise 134 = .ok (.bipush 21, 2) := by decide +kernel
theorem dX9_raise_136 : decode cX9_raise 136 = .ok (.iload 5, 2) := by decide +kernel
theorem dX9_raise_138 : decode cX9_raise 138 = .ok (.iload 6, 2) := by decide +kernel
theorem dX9_raise_140 : decode cX9_raise 140 = .ok (.isub, 1) := by decide +kernel
theorem dX9_raise_141 : decode cX9_raise 141 = .ok (.iconst 1, 1) := by decide +kernel
theorem dX9_raise_142 : decode cX9_raise 142 = .ok (.isub, 1) := by decide +kernel
theorem dX9_raise_143 : decode cX9_raise 143 = .ok (.imul, 1) := by decide +kernel
theorem dX9_raise_144 : decode cX9_raise 144 = .ok (.iload 8, 2) := by decide +kernel
theorem dX9_raise_146 : decode cX9_raise 146 = .ok (.iadd, 1) := by decide +kernel
theorem dX9_raise_147 : decode cX9_raise 147 = .ok (.baload, 1) := by decide +kernel
theorem dX9_raise_148 : decode cX9_raise 148 = .ok (.ifCond .ne 19, 3) := by decide +kernel
theorem dX9_raise_151 : decode cX9_raise 151 = .ok (.iinc 7 1, 3) := by decide +kernel
theorem dX9_raise_154 : decode cX9_raise 154 = .ok (.iload_n 3, 1) := by decide +kernel
theorem dX9_raise_155 : decode cX9_raise 155 = .ok (.iload 4, 2) := by decide +kernel
theorem dX9_raise_157 : decode cX9_raise 157 = .ok (.iload 7, 2) := by decide +kernel
theorem dX9_raise_159 : decode cX9_raise 159 = .ok (.invokestatic 157, 3) := by decide +kernel
theorem dX9_raise_162 : decode cX9_raise 162 = .ok (.istore 8, 2) := by decide +kernel
theorem dX9_raise_164 : decode cX9_raise 164 = .ok (.goto (-40), 3) := by decide +kernel
theorem dX9_raise_167 : decode cX9_raise 167 = .ok (.aload_n 0, 1) := by decide +kernel
theorem dX9_raise_168 : decode cX9_raise 168 = .ok (.getfield 16, 3) := by decide +kernel
theorem dX9_raise_171 : decode cX9_raise 171 = .ok (.bipush 40, 2) := by decide +kernel
theorem dX9_raise_173 : decode cX9_raise 173 = .ok (.iload_n 2, 1) := by decide +kernel
theorem dX9_raise_174 : decode cX9_raise 174 = .ok (.imul, 1) := by decide +kernel
theorem dX9_raise_175 : decode cX9_raise 175 = .ok (.iload 6, 2) := by decide +kernel
theorem dX9_raise_177 : decode cX9_raise 177 = .ok (.iadd, 1) := by decide +kernel
theorem dX9_raise_178 : decode cX9_raise 178 = .ok (.iload 7, 2) := by decide +kernel
theorem dX9_raise_180 : decode cX9_raise 180 = .ok (.iastore, 1) := by decide +kernel
theorem dX9_raise_181 : decode cX9_raise 181 = .ok (.iload 8, 2) := by decide +kernel
theorem dX9_raise_183 : decode cX9_raise 183 = .ok (.istore 4, 2) := by decide +kernel
theorem dX9_raise_185 : decode cX9_raise 185 = .ok (.iinc 6 1, 3) := by decide +kernel
theorem dX9_raise_188 : decode cX9_raise 188 = .ok (.goto (-83), 3) := by decide +kernel
theorem dX9_raise_191 : decode cX9_raise 191 = .ok (.iload 5, 2) := by decide +kernel
theorem dX9_raise_193 : decode cX9_raise 193 = .ok (.ireturn, 1) := by decide +kernel
theorem dX9_ways_0 : decode cX9_ways 0 = .ok (.aload_n 0, 1) := by decide +kernel
theorem dX9_ways_1 : decode cX9_ways 1 = .ok (.iload_n 1, 1) := by decide +kernel
theorem dX9_ways_2 : decode cX9_ways 2 = .ok (.invokevirtual 145, 3) := by decide +kernel
theorem dX9_ways_5 : decode cX9_ways 5 = .ok (.ifCond .eq 15, 3) := by decide +kernel
theorem dX9_ways_8 : decode cX9_ways 8 = .ok (.iload_n 2, 1) := by decide +kernel
theorem dX9_ways_9 : decode cX9_ways 9 = .ok (.i2l, 1) := by decide +kernel
theorem dX9_ways_10 : decode cX9_ways 10 = .ok (.lconst 0, 1) := by decide +kernel
theorem dX9_ways_11 : decode cX9_ways 11 = .ok (.ldc2_w 212, 3) := by decide +kernel
theorem dX9_ways_14 : decode cX9_ways 14 = .ok (.invokestatic 83, 3) := by decide +kernel
theorem dX9_ways_17 : decode cX9_ways 17 = .ok (.ifCond .ne 5, 3) := by decide +kernel
theorem dX9_ways_20 : decode cX9_ways 20 = .ok (.iconst (-1), 1) := by decide +kernel
theorem dX9_ways_21 : decode cX9_ways 21 = .ok (.ireturn, 1) := by decide +kernel
theorem dX9_ways_22 : decode cX9_ways 22 = .ok (.aload_n 0, 1) := by decide +kernel
theorem dX9_ways_23 : decode cX9_ways 23 = .ok (.iload_n 1, 1) := by decide +kernel
theorem dX9_ways_24 : decode cX9_ways 24 = .ok (.invokevirtual 175, 3) := by decide +kernel
theorem dX9_ways_27 : decode cX9_ways 27 = .ok (.ifCond .eq 6, 3) := by decide +kernel
theorem dX9_ways_30 : decode cX9_ways 30 = .ok (.bipush (-4), 2) := by decide +kernel
theorem dX9_ways_32 : decode cX9_ways 32 = .ok (.ireturn, 1) := by decide +kernel
theorem dX9_ways_33 : decode cX9_ways 33 = .ok (.iconst 0, 1) := by decide +kernel
theorem dX9_ways_34 : decode cX9_ways 34 = .ok (.istore_n 3, 1) := by decide +kernel
theorem dX9_ways_35 : decode cX9_ways 35 = .ok (.iload_n 3, 1) := by decide +kernel
theorem dX9_ways_36 : decode cX9_ways 36 = .ok (.iload_n 2, 1) := by decide +kernel
theorem dX9_ways_37 : decode cX9_ways 37 = .ok (.if_icmp .gt 123, 3) := by decide +kernel
theorem dX9_ways_40 : decode cX9_ways 40 = .ok (.iconst 0, 1) := by decide +kernel
theorem dX9_ways_41 : decode cX9_ways 41 = .ok (.istore 4, 2) := by decide +kernel
theorem dX9_ways_43 : decode cX9_ways 43 = .ok (.iload 4, 2) := by decide +kernel
theorem dX9_ways_45 : decode cX9_ways 45 = .ok (.bipush 20, 2) := by decide +kernel
theorem dX9_ways_47 : decode cX9_ways 47 = .ok (.if_icmp .gt 107, 3) := by decide +kernel
theorem dX9_ways_50 : decode cX9_ways 50 = .ok (.iload_n 3, 1) := by decide +kernel
theorem dX9_ways_51 : decode cX9_ways 51 = .ok (.ifCond .ne 14, 3) := by decide +kernel
theorem dX9_ways_54 : decode cX9_ways 54 = .ok (.iload 4, 2) := by decide +kernel
theorem dX9_ways_56 : decode cX9_ways 56 = .ok (.bipush 20, 2) := by decide +kernel
theorem dX9_ways_58 : decode cX9_ways 58 = .ok (.if_icmp .ne 7, 3) := by decide +kernel
theorem dX9_ways_61 : decode cX9_ways 61 = .ok (.lconst 1, 1) := by decide +kernel
theorem dX9_ways_62 : decode cX9_ways 62 = .ok (.goto 4, 3) := by decide +kernel
theorem dX9_ways_65 : decode cX9_ways 65 = .ok (.lconst 0, 1) := by decide +kernel
theorem dX9_ways_66 : decode cX9_ways 66 = .ok (.lstore 5, 2) := by decide +kernel
theorem dX9_ways_68 : decode cX9_ways 68 = .ok (.iconst 0, 1) := by decide +kernel
theorem dX9_ways_69 : decode cX9_ways 69 = .ok (.istore 7, 2) := by decide +kernel
theorem dX9_ways_71 : decode cX9_ways 71 = .ok (.iload 7, 2) := by decide +kernel
theorem dX9_ways_73 : decode cX9_ways 73 = .ok (.bipush 7, 2) := by decide +kernel
theorem dX9_ways_75 : decode cX9_ways 75 = .ok (.if_icmp .ge 59, 3) := by decide +kernel
theorem dX9_ways_78 : decode cX9_ways 78 = .ok (.iload_n 3, 1) := by decide +kernel
theorem dX9_ways_79 : decode cX9_ways 79 = .ok (.ifCond .le 55, 3) := by decide +kernel
theorem dX9_ways_82 : decode cX9_ways 82 = .ok (.aload_n 0, 1) := by decide +kernel
theorem dX9_ways_83 : decode cX9_ways 83 = .ok (.getfield 7, 3) := by decide +kernel
theorem dX9_ways_86 : decode cX9_ways 86 = .ok (.iconst 2, 1) := by decide +kernel
theorem dX9_ways_87 : decode cX9_ways 87 = .ok (.iload_n 1, 1) := by decide +kernel
theorem dX9_ways_88 : decode cX9_ways 88 = .ok (.iadd, 1) := by decide +kernel
theorem dX9_ways_89 : decode cX9_ways 89 = .ok (.iaload, 1) := by decide +kernel
theorem dX9_ways_90 : decode cX9_ways 90 = .ok (.iload 4, 2) := by decide +kernel
theorem dX9_ways_92 : decode cX9_ways 92 = .ok (.iload 7, 2) := by decide +kernel
theorem dX9_ways_94 : decode cX9_ways 94 = .ok (.invokestatic 157, 3) := by decide +kernel
theorem dX9_ways_97 : decode cX9_ways 97 = .ok (.istore 8, 2) := by decide +kernel
theorem dX9_ways_99 : decode cX9_ways 99 = .ok (.lload 5, 2) := by decide +kernel
theorem dX9_ways_101 : decode cX9_ways 101 = .ok (.iload 8, 2) := by decide +kernel
theorem dX9_ways_103 : decode cX9_ways 103 = .ok (.iconst (-1), 1) := by decide +kernel
theorem dX9_ways_104 : decode cX9_ways 104 = .ok (.if_icmp .ne 7, 3) := by decide +kernel
theorem dX9_ways_107 : decode cX9_ways 107 = .ok (.lconst 0, 1) := by decide +kernel
theorem dX9_ways_108 : decode cX9_ways 108 = .ok (.goto 17, 3) := by decide +kernel
theorem dX9_ways_111 : decode cX9_ways 111 = .ok (.aload_n 0, 1) := by decide +kernel
theorem dX9_ways_112 : decode cX9_ways 112 = .ok (.getfield 54, 3) := by decide +kernel
theorem dX9_ways_115 : decode cX9_ways 115 = .ok (.bipush 21, 2) := by decide +kernel
theorem dX9_ways_117 : decode cX9_ways 117 = .ok (.iload_n 3, 1) := by decide +kernel
theorem dX9_ways_118 : decode cX9_ways 118 = .ok (.iconst 1, 1) := by decide +kernel
theorem dX9_ways_119 : decode cX9_ways 119 = .ok (.isub, 1) := by decide +kernel
theorem dX9_ways_120 : decode cX9_ways 120 = .ok (.imul, 1) := by decide +kernel
theorem dX9_ways_121 : decode cX9_ways 121 = .ok (.iload 8, 2) := by decide +kernel
theorem dX9_ways_123 : decode cX9_ways 123 = .ok (.iadd, 1) := by decide +kernel
theorem dX9_ways_124 : decode cX9_ways 124 = .ok (.laload, 1) := by decide +kernel
theorem dX9_ways_125 : decode cX9_ways 125 = .ok (.ladd, 1) := by decide +kernel
theorem dX9_ways_126 : decode cX9_ways 126 = .ok (.lstore 5, 2) := by decide +kernel
theorem dX9_ways_128 : decode cX9_ways 128 = .ok (.iinc 7 1, 3) := by decide +kernel
theorem dX9_ways_131 : decode cX9_ways 131 = .ok (.goto (-60), 3) := by decide +kernel
theorem dX9_ways_134 : decode cX9_ways 134 = .ok (.aload_n 0, 1) := by decide +kernel
theorem dX9_ways_135 : decode cX9_ways 135 = .ok (.getfield 54, 3) := by decide +kernel
theorem dX9_ways_138 : decode cX9_ways 138 = .ok (.bipush 21, 2) := by decide +kernel
theorem dX9_ways_140 : decode cX9_ways 140 = .ok (.iload_n 3, 1) := by decide +kernel
theorem dX9_ways_141 : decode cX9_ways 141 = .ok (.imul, 1) := by decide +kernel
theorem dX9_ways_142 : decode cX9_ways 142 = .ok (.iload 4, 2) := by decide +kernel
theorem dX9_ways_144 : decode cX9_ways 144 = .ok (.iadd, 1) := by decide +kernel
theorem dX9_ways_145 : decode cX9_ways 145 = .ok (.lload 5, 2) := by decide +kernel
theorem dX9_ways_147 : decode cX9_ways 147 = .ok (.lastore, 1) := by decide +kernel
theorem dX9_ways_148 : decode cX9_ways 148 = .ok (.iinc 4 1, 3) := by decide +kernel
theorem dX9_ways_151 : decode cX9_ways 151 = .ok (.goto (-108), 3) := by decide +kernel
theorem dX9_ways_154 : decode cX9_ways 154 = .ok (.iinc 3 1, 3) := by decide +kernel
theorem dX9_ways_157 : decode cX9_ways 157 = .ok (.goto (-122), 3) := by decide +kernel
theorem dX9_ways_160 : decode cX9_ways 160 = .ok (.aload_n 0, 1) := by decide +kernel
theorem dX9_ways_161 : decode cX9_ways 161 = .ok (.aload_n 0, 1) := by decide +kernel
theorem dX9_ways_162 : decode cX9_ways 162 = .ok (.getfield 54, 3) := by decide +kernel
theorem dX9_ways_165 : decode cX9_ways 165 = .ok (.bipush 21, 2) := by decide +kernel
theorem dX9_ways_167 : decode cX9_ways 167 = .ok (.iload_n 2, 1) := by decide +kernel
theorem dX9_ways_168 : decode cX9_ways 168 = .ok (.imul, 1) := by decide +kernel
theorem dX9_ways_169 : decode cX9_ways 169 = .ok (.aload_n 0, 1) := by decide +kernel
theorem dX9_ways_170 : decode cX9_ways 170 = .ok (.getfield 7, 3) := by decide +kernel
theorem dX9_ways_173 : decode cX9_ways 173 = .ok (.bipush 14, 2) := by decide +kernel
theorem dX9_ways_175 : decode cX9_ways 175 = .ok (.iload_n 1, 1) := by decide +kernel
theorem dX9_ways_176 : decode cX9_ways 176 = .ok (.iadd, 1) := by decide +kernel
theorem dX9_ways_177 : decode cX9_ways 177 = .ok (.iaload, 1) := by decide +kernel
theorem dX9_ways_178 : decode cX9_ways 178 = .ok (.iadd, 1) := by decide +kernel
theorem dX9_ways_179 : decode cX9_ways 179 = .ok (.laload, 1) := by decide +kernel
theorem dX9_ways_180 : decode cX9_ways 180 = .ok (.putfield 214, 3) := by decide +kernel
theorem dX9_ways_183 : decode cX9_ways 183 = .ok (.aload_n 0, 1) := by decide +kernel
theorem dX9_ways_184 : decode cX9_ways 184 = .ok (.lconst 1, 1) := by decide +kernel
theorem dX9_ways_185 : decode cX9_ways 185 = .ok (.putfield 34, 3) := by decide +kernel
theorem dX9_ways_188 : decode cX9_ways 188 = .ok (.iconst 1, 1) := by decide +kernel
theorem dX9_ways_189 : decode cX9_ways 189 = .ok (.ireturn, 1) := by decide +kernel
theorem dX9_arms_0 : decode cX9_arms 0 = .ok (.aload_n 0, 1) := by decide +kernel
theorem dX9_arms_1 : decode cX9_arms 1 = .ok (.iload_n 1, 1) := by decide +kernel
theorem dX9_arms_2 : decode cX9_arms 2 = .ok (.invokevirtual 145, 3) := by decide +kernel
theorem dX9_arms_5 : decode cX9_arms 5 = .ok (.ifCond .eq 35, 3) := by decide +kernel
theorem dX9_arms_8 : decode cX9_arms 8 = .ok (.iload_n 2, 1) := by decide +kernel
theorem dX9_arms_9 : decode cX9_arms 9 = .ok (.i2l, 1) := by decide +kernel
theorem dX9_arms_10 : decode cX9_arms 10 = .ok (.lconst 0, 1) := by decide +kernel
theorem dX9_arms_11 : decode cX9_arms 11 = .ok (.ldc2_w 212, 3) := by decide +kernel
theorem dX9_arms_14 : decode cX9_arms 14 = .ok (.invokestatic 83, 3) := by decide +kernel
theorem dX9_arms_17 : decode cX9_arms 17 = .ok (.ifCond .eq 23, 3) := by decide +kernel
theorem dX9_arms_20 : decode cX9_arms 20 = .ok (.iload_n 3, 1) := by decide +kernel
theorem dX9_arms_21 : decode cX9_arms 21 = .ok (.i2l, 1) := by decide +kernel
theorem dX9_arms_22 : decode cX9_arms 22 = .ok (.lconst 0, 1) := by decide +kernel
theorem dX9_arms_23 : decode cX9_arms 23 = .ok (.ldc2_w 217, 3) := by decide +kernel
theorem dX9_arms_26 : decode cX9_arms 26 = .ok (.invokestatic 83, 3) := by decide +kernel
theorem dX9_arms_29 : decode cX9_arms 29 = .ok (.ifCond .eq 11, 3) := by decide +kernel
theorem dX9_arms_32 : decode cX9_arms 32 = .ok (.iload 4, 2) := by decide +kernel
theorem dX9_arms_34 : decode cX9_arms 34 = .ok (.invokestatic 89, 3) := by decide +kernel
theorem dX9_arms_37 : decode cX9_arms 37 = .ok (.ifCond .ne 5, 3) := by decide +kernel
theorem dX9_arms_40 : decode cX9_arms 40 = .ok (.iconst (-1), 1) := by decide +kernel
theorem dX9_arms_41 : decode cX9_arms 41 = .ok (.ireturn, 1) := by decide +kernel
theorem dX9_arms_42 : decode cX9_arms 42 = .ok (.aload_n 0, 1) := by decide +kernel
theorem dX9_arms_43 : decode cX9_arms 43 = .ok (.iload_n 1, 1) := by decide +kernel
theorem dX9_arms_44 : decode cX9_arms 44 = .ok (.invokevirtual 175, 3) := by decide +kernel
theorem dX9_arms_47 : decode cX9_arms 47 = .ok (.ifCond .eq 6, 3) := by decide +kernel
theorem dX9_arms_50 : decode cX9_arms 50 = .ok (.bipush (-4), 2) := by decide +kernel
theorem dX9_arms_52 : decode cX9_arms 52 = .ok (.ireturn, 1) := by decide +kernel
theorem dX9_arms_53 : decode cX9_arms 53 = .ok (.aload_n 0, 1) := by decide +kernel
theorem dX9_arms_54 : decode cX9_arms 54 = .ok (.getfield 7, 3) := by decide +kernel
theorem dX9_arms_57 : decode cX9_arms 57 = .ok (.iconst 2, 1) := by decide +kernel
theorem dX9_arms_58 : decode cX9_arms 58 = .ok (.iload_n 1, 1) := by decide +kernel
theorem dX9_arms_59 : decode cX9_arms 59 = .ok (.iadd, 1) := by decide +kernel
theorem dX9_arms_60 : decode cX9_arms 60 = .ok (.iaload, 1) := by decide +kernel
theorem dX9_arms_61 : decode cX9_arms 61 = .ok (.istore 5, 2) := by decide +kernel
theorem dX9_arms_63 : decode cX9_arms 63 = .ok (.iconst 0, 1) := by decide +kernel
theorem dX9_arms_64 : decode cX9_arms 64 = .ok (.istore 6, 2) := by decide +kernel
theorem dX9_arms_66 : decode cX9_arms 66 = .ok (.iload 6, 2) := by decide +kernel
theorem dX9_arms_68 : decode cX9_arms 68 = .ok (.iload_n 2, 1) := by decide +kernel
theorem dX9_arms_69 : decode cX9_arms 69 = .ok (.if_icmp .gt 138, 3) := by decide +kernel
theorem dX9_arms_72 : decode cX9_arms 72 = .ok (.iconst 0, 1) := by decide +kernel
theorem dX9_arms_73 : decode cX9_arms 73 = .ok (.istore 7, 2) := by decide +kernel
theorem dX9_arms_75 : decode cX9_arms 75 = .ok (.iload 7, 2) := by decide +kernel
theorem dX9_arms_77 : decode cX9_arms 77 = .ok (.bipush 20, 2) := by decide +kernel
theorem dX9_arms_79 : decode cX9_arms 79 = .ok (.if_icmp .gt 122, 3) := by decide +kernel
theorem dX9_arms_82 : decode cX9_arms 82 = .ok (.iload 6, 2) := by decide +kernel
theorem dX9_arms_84 : decode cX9_arms 84 = .ok (.ifCond .ne 13, 3) := by decide +kernel
theorem dX9_arms_87 : decode cX9_arms 87 = .ok (.iload 7, 2) := by decide +kernel
theorem dX9_arms_89 : decode cX9_arms 89 = .ok (.iload_n 3, 1) := by decide +kernel
theorem dX9_arms_90 : decode cX9_arms 90 = .ok (.if_icmp .ne 7, 3) := by decide +kernel
theorem dX9_arms_93 : decode cX9_arms 93 = .ok (.iconst 0, 1) := by decide +kernel
theorem dX9_arms_94 : decode cX9_arms 94 = .ok (.goto 5, 3) := by decide +kernel
theorem dX9_arms_97 : decode cX9_arms 97 = .ok (.ldc 219, 2) := by decide +kernel
theorem dX9_arms_99 : decode cX9_arms 99 = .ok (.istore 8, 2) := by decide +kernel
theorem dX9_arms_101 : decode cX9_arms 101 = .ok (.iconst 0, 1) := by decide +kernel
theorem dX9_arms_102 : decode cX9_arms 102 = .ok (.istore 9, 2) := by decide +kernel
theorem dX9_arms_104 : decode cX9_arms 104 = .ok (.iload 9, 2) := by decide +kernel
theorem dX9_arms_106 : decode cX9_arms 106 = .ok (.bipush 7, 2) := by decide +kernel
theorem dX9_arms_108 : decode cX9_arms 108 = .ok (.if_icmp .ge 72, 3) := by decide +kernel
theorem dX9_arms_111 : decode cX9_arms 111 = .ok (.iload 6, 2) := by decide +kernel
theorem dX9_arms_113 : decode cX9_arms 113 = .ok (.ifCond .le 67, 3) := by decide +kernel
theorem dX9_arms_116 : decode cX9_arms 116 = .ok (.iload 5, 2) := by decide +kernel
theorem dX9_arms_118 : decode cX9_arms 118 = .ok (.iload 7, 2) := by decide +kernel
theorem dX9_arms_120 : decode cX9_arms 120 = .ok (.iload 9, 2) := by decide +kernel
theorem dX9_arms_122 : decode cX9_arms 122 = .ok (.invokestatic 157, 3) := by decide +kernel
theorem dX9_arms_125 : decode cX9_arms 125 = .ok (.istore 10, 2) := by decide +kernel
theorem dX9_arms_127 : decode cX9_arms 127 = .ok (.iload 10, 2) := by decide +kernel
theorem dX9_arms_129 : decode cX9_arms 129 = .ok (.iconst (-1), 1) := by decide +kernel
theorem dX9_arms_130 : decode cX9_arms 130 = .ok (.if_icmp .ne 8, 3) := by decide +kernel
theorem dX9_arms_133 : decode cX9_arms 133 = .ok (.ldc 219, 2) := by decide +kernel
theorem dX9_arms_135 : decode cX9_arms 135 = .ok (.goto 21, 3) := by decide +kernel
theorem dX9_arms_138 : decode cX9_arms 138 = .ok (.iload 9, 2) := by decide +kernel
theorem dX9_arms_140 : decode cX9_arms 140 = .ok (.aload_n 0, 1) := by decide +kernel
theorem dX9_arms_141 : decode cX9_arms 141 = .ok (.getfield 51, 3) := by decide +kernel
theorem dX9_arms_144 : decode cX9_arms 144 = .ok (.bipush 21, 2) := by decide +kernel
theorem dX9_arms_146 : decode cX9_arms 146 = .ok (.iload 6, 2) := by decide +kernel
theorem dX9_arms_148 : decode cX9_arms 148 = .ok (.iconst 1, 1) := by decide +kernel
theorem dX9_arms_149 : decode cX9_arms 149 = .ok (.isub, 1) := by decide +kernel
theorem dX9_arms_150 : decode cX9_arms 150 = .ok (.imul, 1) := by decide +kernel
theorem dX9_arms_151 : decode cX9_arms 151 = .ok (.iload 10, 2) := by decide +kernel
theorem dX9_arms_153 : decode cX9_arms 153 = .ok (.iadd, 1) := by decide +kernel
theorem dX9_arms_154 : decode cX9_arms 154 = .ok (.iaload, 1) := by decide +kernel
theorem dX9_arms_155 : decode cX9_arms 155 = .ok (.iadd, 1) := by decide +kernel
theorem dX9_arms_156 : decode cX9_arms 156 = .ok (.istore 11, 2) := by decide +kernel
theorem dX9_arms_158 : decode cX9_arms 158 = .ok (.iload 11, 2) := by decide +kernel
theorem dX9_arms_160 : decode cX9_arms 160 = .ok (.iload 8, 2) := by decide +kernel
theorem dX9_arms_162 : decode cX9_arms 162 = .ok (.if_icmp .ge 8, 3) := by decide +kernel
theorem dX9_arms_165 : decode cX9_arms 165 = .ok (.iload 11, 2) := by decide +kernel
theorem dX9_arms_167 : decode cX9_arms 167 = .ok (.goto 5, 3) := by decide +kernel
theorem dX9_arms_170 : decode cX9_arms 170 = .ok (.iload 8, 2) := by decide +kernel
theorem dX9_arms_172 : decode cX9_arms 172 = .ok (.istore 8, 2) := by decide +kernel
theorem dX9_arms_174 : decode cX9_arms 174 = .ok (.iinc 9 1, 3) := by decide +kernel
theorem dX9_arms_177 : decode cX9_arms 177 = .ok (.goto (-73), 3) := by decide +kernel
theorem dX9_arms_180 : decode cX9_arms 180 = .ok (.aload_n 0, 1) := by decide +kernel
theorem dX9_arms_181 : decode cX9_arms 181 = .ok (.getfield 51, 3) := by decide +kernel
theorem dX9_arms_184 : decode cX9_arms 184 = .ok (.bipush 21, 2) := by decide +kernel
theorem dX9_arms_186 : decode cX9_arms 186 = .ok (.iload 6, 2) := by decide +kernel
theorem dX9_arms_188 : decode cX9_arms 188 = .ok (.imul, 1) := by decide +kernel
theorem dX9_arms_189 : decode cX9_arms 189 = .ok (.iload 7, 2) := by decide +kernel
theorem dX9_arms_191 : decode cX9_arms 191 = .ok (.iadd, 1) := by decide +kernel
theorem dX9_arms_192 : decode cX9_arms 192 = .ok (.iload 8, 2) := by decide +kernel
theorem dX9_arms_194 : decode cX9_arms 194 = .ok (.iastore, 1) := by decide +kernel
theorem dX9_arms_195 : decode cX9_arms 195 = .ok (.iinc 7 1, 3) := by decide +kernel
theorem dX9_arms_198 : decode cX9_arms 198 = .ok (.goto (-123), 3) := by decide +kernel
theorem dX9_arms_201 : decode cX9_arms 201 = .ok (.iinc 6 1, 3) := by decide +kernel
theorem dX9_arms_204 : decode cX9_arms 204 = .ok (.goto (-138), 3) := by decide +kernel
theorem dX9_arms_207 : decode cX9_arms 207 = .ok (.aload_n 0, 1) := by decide +kernel
theorem dX9_arms_208 : decode cX9_arms 208 = .ok (.getfield 7, 3) := by decide +kernel
theorem dX9_arms_211 : decode cX9_arms 211 = .ok (.bipush 14, 2) := by decide +kernel
theorem dX9_arms_213 : decode cX9_arms 213 = .ok (.iload_n 1, 1) := by decide +kernel
theorem dX9_arms_214 : decode cX9_arms 214 = .ok (.iadd, 1) := by decide +kernel
theorem dX9_arms_215 : decode cX9_arms 215 = .ok (.iaload, 1) := by decide +kernel
theorem dX9_arms_216 : decode cX9_arms 216 = .ok (.istore 6, 2) := by decide +kernel
theorem dX9_arms_218 : decode cX9_arms 218 = .ok (.aload_n 0, 1) := by decide +kernel
theorem dX9_arms_219 : decode cX9_arms 219 = .ok (.getfield 51, 3) := by decide +kernel
theorem dX9_arms_222 : decode cX9_arms 222 = .ok (.bipush 21, 2) := by decide +kernel
theorem dX9_arms_224 : decode cX9_arms 224 = .ok (.iload_n 2, 1) := by decide +kernel
theorem dX9_arms_225 : decode cX9_arms 225 = .ok (.imul, 1) := by decide +kernel
theorem dX9_arms_226 : decode cX9_arms 226 = .ok (.iload 6, 2) := by decide +kernel
theorem dX9_arms_228 : decode cX9_arms 228 = .ok (.iadd, 1) := by decide +kernel
theorem dX9_arms_229 : decode cX9_arms 229 = .ok (.iaload, 1) := by decide +kernel
theorem dX9_arms_230 : decode cX9_arms 230 = .ok (.istore 7, 2) := by decide +kernel
theorem dX9_arms_232 : decode cX9_arms 232 = .ok (.iload 7, 2) := by decide +kernel
theorem dX9_arms_234 : decode cX9_arms 234 = .ok (.ldc 219, 2) := by decide +kernel
theorem dX9_arms_236 : decode cX9_arms 236 = .ok (.if_icmp .lt 6, 3) := by decide +kernel
theorem dX9_arms_239 : decode cX9_arms 239 = .ok (.bipush (-9), 2) := by decide +kernel
theorem dX9_arms_241 : decode cX9_arms 241 = .ok (.ireturn, 1) := by decide +kernel
theorem dX9_arms_242 : decode cX9_arms 242 = .ok (.aload_n 0, 1) := by decide +kernel
theorem dX9_arms_243 : decode cX9_arms 243 = .ok (.iload 4, 2) := by decide +kernel
theorem dX9_arms_245 : decode cX9_arms 245 = .ok (.iload_n 2, 1) := by decide +kernel
theorem dX9_arms_246 : decode cX9_arms 246 = .ok (.invokevirtual 97, 3) := by decide +kernel
theorem dX9_arms_249 : decode cX9_arms 249 = .ok (.iconst 0, 1) := by decide +kernel
theorem dX9_arms_250 : decode cX9_arms 250 = .ok (.istore 8, 2) := by decide +kernel
theorem dX9_arms_252 : decode cX9_arms 252 = .ok (.iload 8, 2) := by decide +kernel
theorem dX9_arms_254 : decode cX9_arms 254 = .ok (.iload_n 2, 1) := by decide +kernel
theorem dX9_arms_255 : decode cX9_arms 255 = .ok (.if_icmp .ge 102, 3) := by decide +kernel
theorem dX9_arms_258 : decode cX9_arms 258 = .ok (.iconst 0, 1) := by decide +kernel
theorem dX9_arms_259 : decode cX9_arms 259 = .ok (.istore 9, 2) := by decide +kernel
theorem dX9_arms_261 : decode cX9_arms 261 = .ok (.iload 5, 2) := by decide +kernel
theorem dX9_arms_263 : decode cX9_arms 263 = .ok (.iload 6, 2) := by decide +kernel
theorem dX9_arms_265 : decode cX9_arms 265 = .ok (.iconst 0, 1) := by decide +kernel
theorem dX9_arms_266 : decode cX9_arms 266 = .ok (.invokestatic 157, 3) := by decide +kernel
theorem dX9_arms_269 : decode cX9_arms 269 = .ok (.istore 10, 2) := by decide +kernel
theorem dX9_arms_271 : decode cX9_arms 271 = .ok (.iload 10, 2) := by decide +kernel
theorem dX9_arms_273 : decode cX9_arms 273 = .ok (.iconst (-1), 1) := by decide +kernel
theorem dX9_arms_274 : decode cX9_arms 274 = .ok (.if_icmp .eq 41, 3) := by decide +kernel
theorem dX9_arms_277 : decode cX9_arms 277 = .ok (.iload 9, 2) := by decide +kernel
theorem dX9_arms_279 : decode cX9_arms 279 = .ok (.aload_n 0, 1) := by decide +kernel
theorem dX9_arms_280 : decode cX9_arms 280 = .ok (.getfield 51, 3) := by decide +kernel
theorem dX9_arms_283 : decode cX9_arms 283 = .ok (.bipush 21, 2) := by decide +kernel
theorem dX9_arms_285 : decode cX9_arms 285 = .ok (.iload_n 2, 1) := by decide +kernel
theorem dX9_arms_286 : decode cX9_arms 286 = .ok (.iload 8, 2) := by decide +kernel
theorem dX9_arms_288 : decode cX9_arms 288 = .ok (.isub, 1) := by decide +kernel
theorem dX9_arms_289 : decode cX9_arms 289 = .ok (.iconst 1, 1) := by decide +kernel
theorem dX9_arms_290 : decode cX9_arms 290 = .ok (.isub, 1) := by decide +kernel
theorem dX9_arms_291 : decode cX9_arms 291 = .ok (.imul, 1) := by decide +kernel
theorem dX9_arms_292 : decode cX9_arms 292 = .ok (.iload 10, 2) := by decide +kernel
theorem dX9_arms_294 : decode cX9_arms 294 = .ok (.iadd, 1) := by decide +kernel
theorem dX9_arms_295 : decode cX9_arms 295 = .ok (.iaload, 1) := by decide +kernel
theorem dX9_arms_296 : decode cX9_arms 296 = .ok (.iadd, 1) := by decide +kernel
theorem dX9_arms_297 : decode cX9_arms 297 = .ok (.aload_n 0, 1) := by decide +kernel
theorem dX9_arms_298 : decode cX9_arms 298 = .ok (.getfield 51, 3) := by decide +kernel
theorem dX9_arms_301 : decode cX9_arms 301 = .ok (.bipush 21, 2) := by decide +kernel
theorem dX9_arms_303 : decode cX9_arms 303 = .ok (.iload_n 2, 1) := by decide +kernel
theorem dX9_arms_304 : decode cX9_arms 304 = .ok (.iload 8, 2) := by decide +kernel
theorem dX9_arms_306 : decode cX9_arms 306 = .ok (.isub, 1) := by decide +kernel
theorem dX9_arms_307 : decode cX9_arms 307 = .ok (.imul, 1) := by decide +kernel
theorem dX9_arms_308 : decode cX9_arms 308 = .ok (.iload 6, 2) := by decide +kernel
theorem dX9_arms_310 : decode cX9_arms 310 = .ok (.iadd, 1) := by decide +kernel
theorem dX9_arms_311 : decode cX9_arms 311 = .ok (.iaload, 1) := by decide +kernel
theorem dX9_arms_312 : decode cX9_arms 312 = .ok (.if_icmp .eq 20, 3) := by decide +kernel
theorem dX9_arms_315 : decode cX9_arms 315 = .ok (.iinc 9 1, 3) := by decide +kernel
theorem dX9_arms_318 : decode cX9_arms 318 = .ok (.iload 5, 2) := by decide +kernel
theorem dX9_arms_320 : decode cX9_arms 320 = .ok (.iload 6, 2) := by decide +kernel
theorem dX9_arms_322 : decode cX9_arms 322 = .ok (.iload 9, 2) := by decide +kernel
theorem dX9_arms_324 : decode cX9_arms 324 = .ok (.invokestatic 157, 3) := by decide +kernel
theorem dX9_arms_327 : decode cX9_arms 327 = .ok (.istore 10, 2) := by decide +kernel
theorem dX9_arms_329 : decode cX9_arms 329 = .ok (.goto (-58), 3) := by decide +kernel
theorem dX9_arms_332 : decode cX9_arms 332 = .ok (.aload_n 0, 1) := by decide +kernel
theorem dX9_arms_333 : decode cX9_arms 333 = .ok (.getfield 16, 3) := by decide +kernel
theorem dX9_arms_336 : decode cX9_arms 336 = .ok (.bipush 40, 2) := by decide +kernel
theorem dX9_arms_338 : decode cX9_arms 338 = .ok (.iload 4, 2) := by decide +kernel
theorem dX9_arms_340 : decode cX9_arms 340 = .ok (.imul, 1) := by decide +kernel
theorem dX9_arms_341 : decode cX9_arms 341 = .ok (.iload 8, 2) := by decide +kernel
theorem dX9_arms_343 : decode cX9_arms 343 = .ok (.iadd, 1) := by decide +kernel
theorem dX9_arms_344 : decode cX9_arms 344 = .ok (.iload 9, 2) := by decide +kernel
theorem dX9_arms_346 : decode cX9_arms 346 = .ok (.iastore, 1) := by decide +kernel
theorem dX9_arms_347 : decode cX9_arms 347 = .ok (.iload 10, 2) := by decide +kernel
theorem dX9_arms_349 : decode cX9_arms 349 = .ok (.istore 6, 2) := by decide +kernel
theorem dX9_arms_351 : decode cX9_arms 351 = .ok (.iinc 8 1, 3) := by decide +kernel
theorem dX9_arms_354 : decode cX9_arms 354 = .ok (.goto (-102), 3) := by decide +kernel
theorem dX9_arms_357 : decode cX9_arms 357 = .ok (.iload 7, 2) := by decide +kernel
theorem dX9_arms_359 : decode cX9_arms 359 = .ok (.ireturn, 1) := by decide +kernel
theorem dX9_hold_0 : decode cX9_hold 0 = .ok (.aload_n 0, 1) := by decide +kernel
theorem dX9_hold_1 : decode cX9_hold 1 = .ok (.iload_n 1, 1) := by decide +kernel
theorem dX9_hold_2 : decode cX9_hold 2 = .ok (.invokevirtual 145, 3) := by decide +kernel
theorem dX9_hold_5 : decode cX9_hold 5 = .ok (.ifCond .eq 15, 3) := by decide +kernel
theorem dX9_hold_8 : decode cX9_hold 8 = .ok (.iload_n 2, 1) := by decide +kernel
theorem dX9_hold_9 : decode cX9_hold 9 = .ok (.i2l, 1) := by decide +kernel
theorem dX9_hold_10 : decode cX9_hold 10 = .ok (.lconst 0, 1) := by decide +kernel
theorem dX9_hold_11 : decode cX9_hold 11 = .ok (.ldc2_w 220, 3) := by decide +kernel
theorem dX9_hold_14 : decode cX9_hold 14 = .ok (.invokestatic 83, 3) := by decide +kernel
theorem dX9_hold_17 : decode cX9_hold 17 = .ok (.ifCond .ne 5, 3) := by decide +kernel
theorem dX9_hold_20 : decode cX9_hold 20 = .ok (.iconst (-1), 1) := by decide +kernel
theorem dX9_hold_21 : decode cX9_hold 21 = .ok (.ireturn, 1) := by decide +kernel
theorem dX9_hold_22 : decode cX9_hold 22 = .ok (.aload_n 0, 1) := by decide +kernel
theorem dX9_hold_23 : decode cX9_hold 23 = .ok (.iload_n 1, 1) := by decide +kernel
theorem dX9_hold_24 : decode cX9_hold 24 = .ok (.invokevirtual 175, 3) := by decide +kernel
theorem dX9_hold_27 : decode cX9_hold 27 = .ok (.ifCond .eq 6, 3) := by decide +kernel
theorem dX9_hold_30 : decode cX9_hold 30 = .ok (.bipush (-4), 2) := by decide +kernel
theorem dX9_hold_32 : decode cX9_hold 32 = .ok (.ireturn, 1) := by decide +kernel
theorem dX9_hold_33 : decode cX9_hold 33 = .ok (.bipush (-9), 2) := by decide +kernel
theorem dX9_hold_35 : decode cX9_hold 35 = .ok (.istore_n 3, 1) := by decide +kernel
theorem dX9_hold_36 : decode cX9_hold 36 = .ok (.ldc 219, 2) := by decide +kernel
theorem dX9_hold_38 : decode cX9_hold 38 = .ok (.istore 4, 2) := by decide +kernel
theorem dX9_hold_40 : decode cX9_hold 40 = .ok (.iconst 0, 1) := by decide +kernel
theorem dX9_hold_41 : decode cX9_hold 41 = .ok (.istore 5, 2) := by decide +kernel
theorem dX9_hold_43 : decode cX9_hold 43 = .ok (.iload 5, 2) := by decide +kernel
theorem dX9_hold_45 : decode cX9_hold 45 = .ok (.bipush 7, 2) := by decide +kernel
theorem dX9_hold_47 : decode cX9_hold 47 = .ok (.if_icmp .ge 88, 3) := by decide +kernel
theorem dX9_hold_50 : decode cX9_hold 50 = .ok (.aload_n 0, 1) := by decide +kernel
theorem dX9_hold_51 : decode cX9_hold 51 = .ok (.iload_n 1, 1) := by decide +kernel
theorem dX9_hold_52 : decode cX9_hold 52 = .ok (.aload_n 0, 1) := by decide +kernel
theorem dX9_hold_53 : decode cX9_hold 53 = .ok (.getfield 7, 3) := by decide +kernel
theorem dX9_hold_56 : decode cX9_hold 56 = .ok (.bipush 14, 2) := by decide +kernel
theorem dX9_hold_58 : decode cX9_hold 58 = .ok (.iload_n 1, 1) := by decide +kernel
theorem dX9_hold_59 : decode cX9_hold 59 = .ok (.iadd, 1) := by decide +kernel
theorem dX9_hold_60 : decode cX9_hold 60 = .ok (.iaload, 1) := by decide +kernel
theorem dX9_hold_61 : decode cX9_hold 61 = .ok (.iload 5, 2) := by decide +kernel
theorem dX9_hold_63 : decode cX9_hold 63 = .ok (.invokevirtual 164, 3) := by decide +kernel
theorem dX9_hold_66 : decode cX9_hold 66 = .ok (.istore 6, 2) := by decide +kernel
theorem dX9_hold_68 : decode cX9_hold 68 = .ok (.iload 6, 2) := by decide +kernel
theorem dX9_hold_70 : decode cX9_hold 70 = .ok (.bipush (-9), 2) := by decide +kernel
theorem dX9_hold_72 : decode cX9_hold 72 = .ok (.if_icmp .ne 8, 3) := by decide +kernel
theorem dX9_hold_75 : decode cX9_hold 75 = .ok (.ldc 219, 2) := by decide +kernel
theorem dX9_hold_77 : decode cX9_hold 77 = .ok (.goto 20, 3) := by decide +kernel
theorem dX9_hold_80 : decode cX9_hold 80 = .ok (.iload 6, 2) := by decide +kernel
theorem dX9_hold_82 : decode cX9_hold 82 = .ok (.iload_n 2, 1) := by decide +kernel
theorem dX9_hold_83 : decode cX9_hold 83 = .ok (.if_icmp .le 10, 3) := by decide +kernel
theorem dX9_hold_86 : decode cX9_hold 86 = .ok (.iload 6, 2) := by decide +kernel
theorem dX9_hold_88 : decode cX9_hold 88 = .ok (.iload_n 2, 1) := by decide +kernel
theorem dX9_hold_89 : decode cX9_hold 89 = .ok (.isub, 1) := by decide +kernel
theorem dX9_hold_90 : decode cX9_hold 90 = .ok (.goto 7, 3) := by decide +kernel
theorem dX9_hold_93 : decode cX9_hold 93 = .ok (.iload_n 2, 1) := by decide +kernel
theorem dX9_hold_94 : decode cX9_hold 94 = .ok (.iload 6, 2) := by decide +kernel
theorem dX9_hold_96 : decode cX9_hold 96 = .ok (.isub, 1) := by decide +kernel
theorem dX9_hold_97 : decode cX9_hold 97 = .ok (.istore 7, 2) := by decide +kernel
theorem dX9_hold_99 : decode cX9_hold 99 = .ok (.iload 7, 2) := by decide +kernel
theorem dX9_hold_101 : decode cX9_hold 101 = .ok (.iload 4, 2) := by decide +kernel
theorem dX9_hold_103 : decode cX9_hold 103 = .ok (.if_icmp .ge 8, 3) := by decide +kernel
theorem dX9_hold_106 : decode cX9_hold 106 = .ok (.iload 5, 2) := by decide +kernel
theorem dX9_hold_108 : decode cX9_hold 108 = .ok (.goto 4, 3) := by decide +kernel
theorem dX9_hold_111 : decode cX9_hold 111 = .ok (.iload_n 3, 1) := by decide +kernel
theorem dX9_hold_112 : decode cX9_hold 112 = .ok (.istore_n 3, 1) := by decide +kernel
theorem dX9_hold_113 : decode cX9_hold 113 = .ok (.iload 7, 2) := by decide +kernel
theorem dX9_hold_115 : decode cX9_hold 115 = .ok (.iload 4, 2) := by decide +kernel
theorem dX9_hold_117 : decode cX9_hold 117 = .ok (.if_icmp .ge 8, 3) := by decide +kernel
theorem dX9_hold_120 : decode cX9_hold 120 = .ok (.iload 7, 2) := by decide +kernel
theorem dX9_hold_122 : decode cX9_hold 122 = .ok (.goto 5, 3) := by decide +kernel
theorem dX9_hold_125 : decode cX9_hold 125 = .ok (.iload 4, 2) := by decide +kernel
theorem dX9_hold_127 : decode cX9_hold 127 = .ok (.istore 4, 2) := by decide +kernel
theorem dX9_hold_129 : decode cX9_hold 129 = .ok (.iinc 5 1, 3) := by decide +kernel
theorem dX9_hold_132 : decode cX9_hold 132 = .ok (.goto (-89), 3) := by decide +kernel
theorem dX9_hold_135 : decode cX9_hold 135 = .ok (.iload_n 3, 1) := by decide +kernel
theorem dX9_hold_136 : decode cX9_hold 136 = .ok (.bipush (-9), 2) := by decide +kernel
theorem dX9_hold_138 : decode cX9_hold 138 = .ok (.if_icmp .ne 8, 3) := by decide +kernel
theorem dX9_hold_141 : decode cX9_hold 141 = .ok (.bipush (-9), 2) := by decide +kernel
theorem dX9_hold_143 : decode cX9_hold 143 = .ok (.goto 10, 3) := by decide +kernel
theorem dX9_hold_146 : decode cX9_hold 146 = .ok (.aload_n 0, 1) := by decide +kernel
theorem dX9_hold_147 : decode cX9_hold 147 = .ok (.iload 4, 2) := by decide +kernel
theorem dX9_hold_149 : decode cX9_hold 149 = .ok (.iload_n 3, 1) := by decide +kernel
theorem dX9_hold_150 : decode cX9_hold 150 = .ok (.invokevirtual 105, 3) := by decide +kernel
theorem dX9_hold_153 : decode cX9_hold 153 = .ok (.ireturn, 1) := by decide +kernel
theorem dX9_drops_0 : decode cX9_drops 0 = .ok (.aload_n 0, 1) := by decide +kernel
theorem dX9_drops_1 : decode cX9_drops 1 = .ok (.iload_n 1, 1) := by decide +kernel
theorem dX9_drops_2 : decode cX9_drops 2 = .ok (.invokevirtual 145, 3) := by decide +kernel
theorem dX9_drops_5 : decode cX9_drops 5 = .ok (.ifCond .ne 5, 3) := by decide +kernel
theorem dX9_drops_8 : decode cX9_drops 8 = .ok (.iconst (-1), 1) := by decide +kernel
theorem dX9_drops_9 : decode cX9_drops 9 = .ok (.ireturn, 1) := by decide +kernel
theorem dX9_drops_10 : decode cX9_drops 10 = .ok (.aload_n 0, 1) := by decide +kernel
theorem dX9_drops_11 : decode cX9_drops 11 = .ok (.iload_n 1, 1) := by decide +kernel
theorem dX9_drops_12 : decode cX9_drops 12 = .ok (.invokevirtual 175, 3) := by decide +kernel
theorem dX9_drops_15 : decode cX9_drops 15 = .ok (.ifCond .eq 6, 3) := by decide +kernel
theorem dX9_drops_18 : decode cX9_drops 18 = .ok (.bipush (-4), 2) := by decide +kernel
theorem dX9_drops_20 : decode cX9_drops 20 = .ok (.ireturn, 1) := by decide +kernel
theorem dX9_drops_21 : decode cX9_drops 21 = .ok (.aload_n 0, 1) := by decide +kernel
theorem dX9_drops_22 : decode cX9_drops 22 = .ok (.getfield 7, 3) := by decide +kernel
theorem dX9_drops_25 : decode cX9_drops 25 = .ok (.bipush 14, 2) := by decide +kernel
theorem dX9_drops_27 : decode cX9_drops 27 = .ok (.iload_n 1, 1) := by decide +kernel
theorem dX9_drops_28 : decode cX9_drops 28 = .ok (.iadd, 1) := by decide +kernel
theorem dX9_drops_29 : decode cX9_drops 29 = .ok (.iaload, 1) := by decide +kernel
theorem dX9_drops_30 : decode cX9_drops 30 = .ok (.istore_n 2, 1) := by decide +kernel
theorem dX9_drops_31 : decode cX9_drops 31 = .ok (.iconst 0, 1) := by decide +kernel
theorem dX9_drops_32 : decode cX9_drops 32 = .ok (.istore_n 3, 1) := by decide +kernel
theorem dX9_drops_33 : decode cX9_drops 33 = .ok (.iload_n 2, 1) := by decide +kernel
theorem dX9_drops_34 : decode cX9_drops 34 = .ok (.iconst 5, 1) := by decide +kernel
theorem dX9_drops_35 : decode cX9_drops 35 = .ok (.if_icmp .lt 29, 3) := by decide +kernel
theorem dX9_drops_38 : decode cX9_drops 38 = .ok (.iload_n 3, 1) := by decide +kernel
theorem dX9_drops_39 : decode cX9_drops 39 = .ok (.bipush 30, 2) := by decide +kernel
theorem dX9_drops_41 : decode cX9_drops 41 = .ok (.if_icmp .gt 23, 3) := by decide +kernel
theorem dX9_drops_44 : decode cX9_drops 44 = .ok (.aload_n 0, 1) := by decide +kernel
theorem dX9_drops_45 : decode cX9_drops 45 = .ok (.getfield 7, 3) := by decide +kernel
theorem dX9_drops_48 : decode cX9_drops 48 = .ok (.iconst 2, 1) := by decide +kernel
theorem dX9_drops_49 : decode cX9_drops 49 = .ok (.iload_n 1, 1) := by decide +kernel
theorem dX9_drops_50 : decode cX9_drops 50 = .ok (.iadd, 1) := by decide +kernel
theorem dX9_drops_51 : decode cX9_drops 51 = .ok (.iaload, 1) := by decide +kernel
theorem dX9_drops_52 : decode cX9_drops 52 = .ok (.iload_n 2, 1) := by decide +kernel
theorem dX9_drops_53 : decode cX9_drops 53 = .ok (.iconst 0, 1) := by decide +kernel
theorem dX9_drops_54 : decode cX9_drops 54 = .ok (.invokestatic 157, 3) := by decide +kernel
theorem dX9_drops_57 : decode cX9_drops 57 = .ok (.istore_n 2, 1) := by decide +kernel
theorem dX9_drops_58 : decode cX9_drops 58 = .ok (.iinc 3 1, 3) := by decide +kernel
theorem dX9_drops_61 : decode cX9_drops 61 = .ok (.goto (-28), 3) := by decide +kernel
theorem dX9_drops_64 : decode cX9_drops 64 = .ok (.iload_n 3, 1) := by decide +kernel
theorem dX9_drops_65 : decode cX9_drops 65 = .ok (.bipush 30, 2) := by decide +kernel
theorem dX9_drops_67 : decode cX9_drops 67 = .ok (.if_icmp .le 8, 3) := by decide +kernel
theorem dX9_drops_70 : decode cX9_drops 70 = .ok (.bipush (-9), 2) := by decide +kernel
theorem dX9_drops_72 : decode cX9_drops 72 = .ok (.goto 4, 3) := by decide +kernel
theorem dX9_drops_75 : decode cX9_drops 75 = .ok (.iload_n 3, 1) := by decide +kernel
theorem dX9_drops_76 : decode cX9_drops 76 = .ok (.ireturn, 1) := by decide +kernel
theorem dX9_back_0 : decode cX9_back 0 = .ok (.aload_n 0, 1) := by decide +kernel
theorem dX9_back_1 : decode cX9_back 1 = .ok (.iload_n 1, 1) := by decide +kernel
theorem dX9_back_2 : decode cX9_back 2 = .ok (.invokevirtual 145, 3) := by decide +kernel
theorem dX9_back_5 : decode cX9_back 5 = .ok (.ifCond .ne 5, 3) := by decide +kernel
theorem dX9_back_8 : decode cX9_back 8 = .ok (.iconst (-1), 1) := by decide +kernel
theorem dX9_back_9 : decode cX9_back 9 = .ok (.ireturn, 1) := by decide +kernel
theorem dX9_back_10 : decode cX9_back 10 = .ok (.aload_n 0, 1) := by decide +kernel
theorem dX9_back_11 : decode cX9_back 11 = .ok (.iload_n 1, 1) := by decide +kernel
theorem dX9_back_12 : decode cX9_back 12 = .ok (.invokevirtual 175, 3) := by decide +kernel
theorem dX9_back_15 : decode cX9_back 15 = .ok (.ifCond .eq 6, 3) := by decide +kernel
theorem dX9_back_18 : decode cX9_back 18 = .ok (.bipush (-4), 2) := by decide +kernel
theorem dX9_back_20 : decode cX9_back 20 = .ok (.ireturn, 1) := by decide +kernel
theorem dX9_back_21 : decode cX9_back 21 = .ok (.aload_n 0, 1) := by decide +kernel
theorem dX9_back_22 : decode cX9_back 22 = .ok (.getfield 7, 3) := by decide +kernel
theorem dX9_back_25 : decode cX9_back 25 = .ok (.bipush 14, 2) := by decide +kernel
theorem dX9_back_27 : decode cX9_back 27 = .ok (.iload_n 1, 1) := by decide +kernel
theorem dX9_back_28 : decode cX9_back 28 = .ok (.iadd, 1) := by decide +kernel
theorem dX9_back_29 : decode cX9_back 29 = .ok (.iaload, 1) := by decide +kernel
theorem dX9_back_30 : decode cX9_back 30 = .ok (.istore_n 2, 1) := by decide +kernel
theorem dX9_back_31 : decode cX9_back 31 = .ok (.iconst 0, 1) := by decide +kernel
theorem dX9_back_32 : decode cX9_back 32 = .ok (.istore_n 3, 1) := by decide +kernel
theorem dX9_back_33 : decode cX9_back 33 = .ok (.iload_n 2, 1) := by decide +kernel
theorem dX9_back_34 : decode cX9_back 34 = .ok (.iconst 5, 1) := by decide +kernel
theorem dX9_back_35 : decode cX9_back 35 = .ok (.if_icmp .ge 30, 3) := by decide +kernel
theorem dX9_back_38 : decode cX9_back 38 = .ok (.iload_n 3, 1) := by decide +kernel
theorem dX9_back_39 : decode cX9_back 39 = .ok (.bipush 30, 2) := by decide +kernel
theorem dX9_back_41 : decode cX9_back 41 = .ok (.if_icmp .gt 24, 3) := by decide +kernel
theorem dX9_back_44 : decode cX9_back 44 = .ok (.aload_n 0, 1) := by decide +kernel
theorem dX9_back_45 : decode cX9_back 45 = .ok (.getfield 7, 3) := by decide +kernel
theorem dX9_back_48 : decode cX9_back 48 = .ok (.iconst 2, 1) := by decide +kernel
theorem dX9_back_49 : decode cX9_back 49 = .ok (.iload_n 1, 1) := by decide +kernel
theorem dX9_back_50 : decode cX9_back 50 = .ok (.iadd, 1) := by decide +kernel
theorem dX9_back_51 : decode cX9_back 51 = .ok (.iaload, 1) := by decide +kernel
theorem dX9_back_52 : decode cX9_back 52 = .ok (.iload_n 2, 1) := by decide +kernel
theorem dX9_back_53 : decode cX9_back 53 = .ok (.bipush 6, 2) := by decide +kernel
theorem dX9_back_55 : decode cX9_back 55 = .ok (.invokestatic 157, 3) := by decide +kernel
theorem dX9_back_58 : decode cX9_back 58 = .ok (.istore_n 2, 1) := by decide +kernel
theorem dX9_back_59 : decode cX9_back 59 = .ok (.iinc 3 1, 3) := by decide +kernel
theorem dX9_back_62 : decode cX9_back 62 = .ok (.goto (-29), 3) := by decide +kernel
theorem dX9_back_65 : decode cX9_back 65 = .ok (.iload_n 3, 1) := by decide +kernel
theorem dX9_back_66 : decode cX9_back 66 = .ok (.bipush 30, 2) := by decide +kernel
theorem dX9_back_68 : decode cX9_back 68 = .ok (.if_icmp .le 8, 3) := by decide +kernel
theorem dX9_back_71 : decode cX9_back 71 = .ok (.bipush (-9), 2) := by decide +kernel
theorem dX9_back_73 : decode cX9_back 73 = .ok (.goto 4, 3) := by decide +kernel
theorem dX9_back_76 : decode cX9_back 76 = .ok (.iload_n 3, 1) := by decide +kernel
theorem dX9_back_77 : decode cX9_back 77 = .ok (.ireturn, 1) := by decide +kernel
theorem dX9_error_0 : decode cX9_error 0 = .ok (.aload_n 0, 1) := by decide +kernel
theorem dX9_error_1 : decode cX9_error 1 = .ok (.iload_n 1, 1) := by decide +kernel
theorem dX9_error_2 : decode cX9_error 2 = .ok (.invokevirtual 197, 3) := by decide +kernel
theorem dX9_error_5 : decode cX9_error 5 = .ok (.istore_n 2, 1) := by decide +kernel
theorem dX9_error_6 : decode cX9_error 6 = .ok (.iload_n 2, 1) := by decide +kernel
theorem dX9_error_7 : decode cX9_error 7 = .ok (.ifCond .ge 5, 3) := by decide +kernel
theorem dX9_error_10 : decode cX9_error 10 = .ok (.iload_n 2, 1) := by decide +kernel
theorem dX9_error_11 : decode cX9_error 11 = .ok (.ireturn, 1) := by decide +kernel
theorem dX9_error_12 : decode cX9_error 12 = .ok (.aload_n 0, 1) := by decide +kernel
theorem dX9_error_13 : decode cX9_error 13 = .ok (.iload_n 1, 1) := by decide +kernel
theorem dX9_error_14 : decode cX9_error 14 = .ok (.invokevirtual 200, 3) := by decide +kernel
theorem dX9_error_17 : decode cX9_error 17 = .ok (.aload_n 0, 1) := by decide +kernel
theorem dX9_error_18 : decode cX9_error 18 = .ok (.aload_n 0, 1) := by decide +kernel
theorem dX9_error_19 : decode cX9_error 19 = .ok (.invokevirtual 203, 3) := by decide +kernel
theorem dX9_error_22 : decode cX9_error 22 = .ok (.aload_n 0, 1) := by decide +kernel
theorem dX9_error_23 : decode cX9_error 23 = .ok (.invokevirtual 222, 3) := by decide +kernel
theorem dX9_error_26 : decode cX9_error 26 = .ok (.invokevirtual 105, 3) := by decide +kernel
theorem dX9_error_29 : decode cX9_error 29 = .ok (.ireturn, 1) := by decide +kernel
theorem dX9_heard_0 : decode cX9_heard 0 = .ok (.iload_n 2, 1) := by decide +kernel
theorem dX9_heard_1 : decode cX9_heard 1 = .ok (.i2l, 1) := by decide +kernel
theorem dX9_heard_2 : decode cX9_heard 2 = .ok (.lconst 0, 1) := by decide +kernel
theorem dX9_heard_3 : decode cX9_heard 3 = .ok (.ldc2_w 81, 3) := by decide +kernel
theorem dX9_heard_6 : decode cX9_heard 6 = .ok (.invokestatic 83, 3) := by decide +kernel
theorem dX9_heard_9 : decode cX9_heard 9 = .ok (.ifCond .ne 5, 3) := by decide +kernel
theorem dX9_heard_12 : decode cX9_heard 12 = .ok (.iconst (-1), 1) := by decide +kernel
theorem dX9_heard_13 : decode cX9_heard 13 = .ok (.ireturn, 1) := by decide +kernel
theorem dX9_heard_14 : decode cX9_heard 14 = .ok (.aload_n 0, 1) := by decide +kernel
theorem dX9_heard_15 : decode cX9_heard 15 = .ok (.iload_n 1, 1) := by decide +kernel
theorem dX9_heard_16 : decode cX9_heard 16 = .ok (.invokevirtual 197, 3) := by decide +kernel
theorem dX9_heard_19 : decode cX9_heard 19 = .ok (.istore_n 3, 1) := by decide +kernel
theorem dX9_heard_20 : decode cX9_heard 20 = .ok (.iload_n 3, 1) := by decide +kernel
theorem dX9_heard_21 : decode cX9_heard 21 = .ok (.ifCond .ge 5, 3) := by decide +kernel
theorem dX9_heard_24 : decode cX9_heard 24 = .ok (.iload_n 3, 1) := by decide +kernel
theorem dX9_heard_25 : decode cX9_heard 25 = .ok (.ireturn, 1) := by decide +kernel
theorem dX9_heard_26 : decode cX9_heard 26 = .ok (.aload_n 0, 1) := by decide +kernel
theorem dX9_heard_27 : decode cX9_heard 27 = .ok (.iload_n 1, 1) := by decide +kernel
theorem dX9_heard_28 : decode cX9_heard 28 = .ok (.invokevirtual 200, 3) := by decide +kernel
theorem dX9_heard_31 : decode cX9_heard 31 = .ok (.iload_n 2, 1) := by decide +kernel
theorem dX9_heard_32 : decode cX9_heard 32 = .ok (.aload_n 0, 1) := by decide +kernel
theorem dX9_heard_33 : decode cX9_heard 33 = .ok (.getfield 188, 3) := by decide +kernel
theorem dX9_heard_36 : decode cX9_heard 36 = .ok (.if_icmp .ge 27, 3) := by decide +kernel
theorem dX9_heard_39 : decode cX9_heard 39 = .ok (.aload_n 0, 1) := by decide +kernel
theorem dX9_heard_40 : decode cX9_heard 40 = .ok (.aload_n 0, 1) := by decide +kernel
theorem dX9_heard_41 : decode cX9_heard 41 = .ok (.getfield 41, 3) := by decide +kernel
theorem dX9_heard_44 : decode cX9_heard 44 = .ok (.aload_n 0, 1) := by decide +kernel
theorem dX9_heard_45 : decode cX9_heard 45 = .ok (.getfield 44, 3) := by decide +kernel
theorem dX9_heard_48 : decode cX9_heard 48 = .ok (.iload_n 2, 1) := by decide +kernel
theorem dX9_heard_49 : decode cX9_heard 49 = .ok (.iaload, 1) := by decide +kernel
theorem dX9_heard_50 : decode cX9_heard 50 = .ok (.iaload, 1) := by decide +kernel
theorem dX9_heard_51 : decode cX9_heard 51 = .ok (.aload_n 0, 1) := by decide +kernel
theorem dX9_heard_52 : decode cX9_heard 52 = .ok (.getfield 44, 3) := by decide +kernel
theorem dX9_heard_55 : decode cX9_heard 55 = .ok (.iload_n 2, 1) := by decide +kernel
theorem dX9_heard_56 : decode cX9_heard 56 = .ok (.iaload, 1) := by decide +kernel
theorem dX9_heard_57 : decode cX9_heard 57 = .ok (.invokevirtual 105, 3) := by decide +kernel
theorem dX9_heard_60 : decode cX9_heard 60 = .ok (.goto 5, 3) := by decide +kernel
theorem dX9_heard_63 : decode cX9_heard 63 = .ok (.bipush (-9), 2) := by decide +kernel
theorem dX9_heard_65 : decode cX9_heard 65 = .ok (.ireturn, 1) := by decide +kernel
theorem dX9_sounds_0 : decode cX9_sounds 0 = .ok (.iconst 0, 1) := by decide +kernel
theorem dX9_sounds_1 : decode cX9_sounds 1 = .ok (.istore_n 1, 1) := by decide +kernel
theorem dX9_sounds_2 : decode cX9_sounds 2 = .ok (.iconst 0, 1) := by decide +kernel
theorem dX9_sounds_3 : decode cX9_sounds 3 = .ok (.istore_n 2, 1) := by decide +kernel
theorem dX9_sounds_4 : decode cX9_sounds 4 = .ok (.iload_n 2, 1) := by decide +kernel
theorem dX9_sounds_5 : decode cX9_sounds 5 = .ok (.aload_n 0, 1) := by decide +kernel
theorem dX9_sounds_6 : decode cX9_sounds 6 = .ok (.getfield 7, 3) := by decide +kernel
theorem dX9_sounds_9 : decode cX9_sounds 9 = .ok (.iconst 0, 1) := by decide +kernel
theorem dX9_sounds_10 : decode cX9_sounds 10 = .ok (.iaload, 1) := by decide +kernel
theorem dX9_sounds_11 : decode cX9_sounds 11 = .ok (.if_icmp .ge 25, 3) := by decide +kernel
theorem dX9_sounds_14 : decode cX9_sounds 14 = .ok (.iload_n 1, 1) := by decide +kernel
theorem dX9_sounds_15 : decode cX9_sounds 15 = .ok (.aload_n 0, 1) := by decide +kernel
theorem dX9_sounds_16 : decode cX9_sounds 16 = .ok (.iload_n 2, 1) := by decide +kernel
theorem dX9_sounds_17 : decode cX9_sounds 17 = .ok (.invokevirtual 175, 3) := by decide +kernel
theorem dX9_sounds_20 : decode cX9_sounds 20 = .ok (.ifCond .eq 7, 3) := by decide +kernel
theorem dX9_sounds_23 : decode cX9_sounds 23 = .ok (.iconst 0, 1) := by decide +kernel
theorem dX9_sounds_24 : decode cX9_sounds 24 = .ok (.goto 4, 3) := by decide +kernel
theorem dX9_sounds_27 : decode cX9_sounds 27 = .ok (.iconst 1, 1) := by decide +kernel
theorem dX9_sounds_28 : decode cX9_sounds 28 = .ok (.iadd, 1) := by decide +kernel
theorem dX9_sounds_29 : decode cX9_sounds 29 = .ok (.istore_n 1, 1) := by decide +kernel
theorem dX9_sounds_30 : decode cX9_sounds 30 = .ok (.iinc 2 1, 3) := by decide +kernel
theorem dX9_sounds_33 : decode cX9_sounds 33 = .ok (.goto (-29), 3) := by decide +kernel
theorem dX9_sounds_36 : decode cX9_sounds 36 = .ok (.iload_n 1, 1) := by decide +kernel
theorem dX9_sounds_37 : decode cX9_sounds 37 = .ok (.ireturn, 1) := by decide +kernel
theorem dX9_isNext_0 : decode cX9_isNext 0 = .ok (.aload_n 0, 1) := by decide +kernel
theorem dX9_isNext_1 : decode cX9_isNext 1 = .ok (.getfield 7, 3) := by decide +kernel
theorem dX9_isNext_4 : decode cX9_isNext 4 = .ok (.iconst 0, 1) := by decide +kernel
theorem dX9_isNext_5 : decode cX9_isNext 5 = .ok (.iaload, 1) := by decide +kernel
theorem dX9_isNext_6 : decode cX9_isNext 6 = .ok (.iconst 1, 1) := by decide +kernel
theorem dX9_isNext_7 : decode cX9_isNext 7 = .ok (.isub, 1) := by decide +kernel
theorem dX9_isNext_8 : decode cX9_isNext 8 = .ok (.istore_n 1, 1) := by decide +kernel
theorem dX9_isNext_9 : decode cX9_isNext 9 = .ok (.iload_n 1, 1) := by decide +kernel
theorem dX9_isNext_10 : decode cX9_isNext 10 = .ok (.ifCond .lt 35, 3) := by decide +kernel
theorem dX9_isNext_13 : decode cX9_isNext 13 = .ok (.aload_n 0, 1) := by decide +kernel
theorem dX9_isNext_14 : decode cX9_isNext 14 = .ok (.iload_n 1, 1) := by decide +kernel
theorem dX9_isNext_15 : decode cX9_isNext 15 = .ok (.invokevirtual 175, 3) := by decide +kernel
theorem dX9_isNext_18 : decode cX9_isNext 18 = .ok (.ifCond .ne 14, 3) := by decide +kernel
theorem dX9_isNext_21 : decode cX9_isNext 21 = .ok (.aload_n 0, 1) := by decide +kernel
theorem dX9_isNext_22 : decode cX9_isNext 22 = .ok (.getfield 38, 3) := by decide +kernel
theorem dX9_isNext_25 : decode cX9_isNext 25 = .ok (.iload_n 1, 1) := by decide +kernel
theorem dX9_isNext_26 : decode cX9_isNext 26 = .ok (.iaload, 1) := by decide +kernel
theorem dX9_isNext_27 : decode cX9_isNext 27 = .ok (.bipush 6, 2) := by decide +kernel
theorem dX9_isNext_29 : decode cX9_isNext 29 = .ok (.if_icmp .ne 16, 3) := by decide +kernel
theorem dX9_isNext_32 : decode cX9_isNext 32 = .ok (.aload_n 0, 1) := by decide +kernel
theorem dX9_isNext_33 : decode cX9_isNext 33 = .ok (.getfield 38, 3) := by decide +kernel
theorem dX9_isNext_36 : decode cX9_isNext 36 = .ok (.iload_n 1, 1) := by decide +kernel
theorem dX9_isNext_37 : decode cX9_isNext 37 = .ok (.iconst 0, 1) := by decide +kernel
theorem dX9_isNext_38 : decode cX9_isNext 38 = .ok (.iastore, 1) := by decide +kernel
theorem dX9_isNext_39 : decode cX9_isNext 39 = .ok (.iinc 1 (-1), 3) := by decide +kernel
theorem dX9_isNext_42 : decode cX9_isNext 42 = .ok (.goto (-33), 3) := by decide +kernel
theorem dX9_isNext_45 : decode cX9_isNext 45 = .ok (.iload_n 1, 1) := by decide +kernel
theorem dX9_isNext_46 : decode cX9_isNext 46 = .ok (.ifCond .ge 5, 3) := by decide +kernel
theorem dX9_isNext_49 : decode cX9_isNext 49 = .ok (.iconst 0, 1) := by decide +kernel
theorem dX9_isNext_50 : decode cX9_isNext 50 = .ok (.ireturn, 1) := by decide +kernel
theorem dX9_isNext_51 : decode cX9_isNext 51 = .ok (.aload_n 0, 1) := by decide +kernel
theorem dX9_isNext_52 : decode cX9_isNext 52 = .ok (.getfield 38, 3) := by decide +kernel
theorem dX9_isNext_55 : decode cX9_isNext 55 = .ok (.iload_n 1, 1) := by decide +kernel
theorem dX9_isNext_56 : decode cX9_isNext 56 = .ok (.dup2, 1) := by decide +kernel
theorem dX9_isNext_57 : decode cX9_isNext 57 = .ok (.iaload, 1) := by decide +kernel
theorem dX9_isNext_58 : decode cX9_isNext 58 = .ok (.iconst 1, 1) := by decide +kernel
theorem dX9_isNext_59 : decode cX9_isNext 59 = .ok (.iadd, 1) := by decide +kernel
theorem dX9_isNext_60 : decode cX9_isNext 60 = .ok (.iastore, 1) := by decide +kernel
theorem dX9_isNext_61 : decode cX9_isNext 61 = .ok (.iconst 1, 1) := by decide +kernel
theorem dX9_isNext_62 : decode cX9_isNext 62 = .ok (.ireturn, 1) := by decide +kernel
theorem dX9_begins_0 : decode cX9_begins 0 = .ok (.iconst 0, 1) := by decide +kernel
theorem dX9_begins_1 : decode cX9_begins 1 = .ok (.istore_n 1, 1) := by decide +kernel
theorem dX9_begins_2 : decode cX9_begins 2 = .ok (.iload_n 1, 1) := by decide +kernel
theorem dX9_begins_3 : decode cX9_begins 3 = .ok (.bipush 6, 2) := by decide +kernel
theorem dX9_begins_5 : decode cX9_begins 5 = .ok (.if_icmp .ge 16, 3) := by decide +kernel
theorem dX9_begins_8 : decode cX9_begins 8 = .ok (.aload_n 0, 1) := by decide +kernel
theorem dX9_begins_9 : decode cX9_begins 9 = .ok (.getfield 38, 3) := by decide +kernel
theorem dX9_begins_12 : decode cX9_begins 12 = .ok (.iload_n 1, 1) := by decide +kernel
theorem dX9_begins_13 : decode cX9_begins 13 = .ok (.iconst 0, 1) := by decide +kernel
theorem dX9_begins_14 : decode cX9_begins 14 = .ok (.iastore, 1) := by decide +kernel
theorem dX9_begins_15 : decode cX9_begins 15 = .ok (.iinc 1 1, 3) := by decide +kernel
theorem dX9_begins_18 : decode cX9_begins 18 = .ok (.goto (-16), 3) := by decide +kernel
theorem dX9_begins_21 : decode cX9_begins 21 = .ok (.return_, 1) := by decide +kernel
theorem dX9_isAll_0 : decode cX9_isAll 0 = .ok (.aload_n 0, 1) := by decide +kernel
theorem dX9_isAll_1 : decode cX9_isAll 1 = .ok (.invokevirtual 191, 3) := by decide +kernel
theorem dX9_isAll_4 : decode cX9_isAll 4 = .ok (.aload_n 0, 1) := by decide +kernel
theorem dX9_isAll_5 : decode cX9_isAll 5 = .ok (.getfield 184, 3) := by decide +kernel
theorem dX9_isAll_8 : decode cX9_isAll 8 = .ok (.ifCond .ne 18, 3) := by decide +kernel
theorem dX9_isAll_11 : decode cX9_isAll 11 = .ok (.aload_n 0, 1) := by decide +kernel
theorem dX9_isAll_12 : decode cX9_isAll 12 = .ok (.getfield 188, 3) := by decide +kernel
theorem dX9_isAll_15 : decode cX9_isAll 15 = .ok (.aload_n 0, 1) := by decide +kernel
theorem dX9_isAll_16 : decode cX9_isAll 16 = .ok (.invokevirtual 225, 3) := by decide +kernel
theorem dX9_isAll_19 : decode cX9_isAll 19 = .ok (.if_icmp .ne 7, 3) := by decide +kernel
theorem dX9_isAll_22 : decode cX9_isAll 22 = .ok (.iconst 1, 1) := by decide +kernel
theorem dX9_isAll_23 : decode cX9_isAll 23 = .ok (.goto 4, 3) := by decide +kernel
theorem dX9_isAll_26 : decode cX9_isAll 26 = .ok (.iconst 0, 1) := by decide +kernel
theorem dX9_isAll_27 : decode cX9_isAll 27 = .ok (.ireturn, 1) := by decide +kernel
theorem dX9_keepsBest_0 : decode cX9_keepsBest 0 = .ok (.iconst 0, 1) := by decide +kernel
theorem dX9_keepsBest_1 : decode cX9_keepsBest 1 = .ok (.istore_n 1, 1) := by decide +kernel
theorem dX9_keepsBest_2 : decode cX9_keepsBest 2 = .ok (.iload_n 1, 1) := by decide +kernel
theorem dX9_keepsBest_3 : decode cX9_keepsBest 3 = .ok (.bipush 6, 2) := by decide +kernel
theorem dX9_keepsBest_5 : decode cX9_keepsBest 5 = .ok (.if_icmp .ge 21, 3) := by decide +kernel
theorem dX9_keepsBest_8 : decode cX9_keepsBest 8 = .ok (.aload_n 0, 1) := by decide +kernel
theorem dX9_keepsBest_9 : decode cX9_keepsBest 9 = .ok (.getfield 58, 3) := by decide +kernel
theorem dX9_keepsBest_12 : decode cX9_keepsBest 12 = .ok (.iload_n 1, 1) := by decide +kernel
theorem dX9_keepsBest_13 : decode cX9_keepsBest 13 = .ok (.aload_n 0, 1) := by decide +kernel
theorem dX9_keepsBest_14 : decode cX9_keepsBest 14 = .ok (.getfield 38, 3) := by decide +kernel
theorem dX9_keepsBest_17 : decode cX9_keepsBest 17 = .ok (.iload_n 1, 1) := by decide +kernel
theorem dX9_keepsBest_18 : decode cX9_keepsBest 18 = .ok (.iaload, 1) := by decide +kernel
theorem dX9_keepsBest_19 : decode cX9_keepsBest 19 = .ok (.iastore, 1) := by decide +kernel
theorem dX9_keepsBest_20 : decode cX9_keepsBest 20 = .ok (.iinc 1 1, 3) := by decide +kernel
theorem dX9_keepsBest_23 : decode cX9_keepsBest 23 = .ok (.goto (-21), 3) := by decide +kernel
theorem dX9_keepsBest_26 : decode cX9_keepsBest 26 = .ok (.return_, 1) := by decide +kernel
theorem dX9_tellsBest_0 : decode cX9_tellsBest 0 = .ok (.aload_n 0, 1) := by decide +kernel
theorem dX9_tellsBest_1 : decode cX9_tellsBest 1 = .ok (.iload_n 1, 1) := by decide +kernel
theorem dX9_tellsBest_2 : decode cX9_tellsBest 2 = .ok (.aload_n 0, 1) := by decide +kernel
theorem dX9_tellsBest_3 : decode cX9_tellsBest 3 = .ok (.getfield 7, 3) := by decide +kernel
theorem dX9_tellsBest_6 : decode cX9_tellsBest 6 = .ok (.iconst 0, 1) := by decide +kernel
theorem dX9_tellsBest_7 : decode cX9_tellsBest 7 = .ok (.iaload, 1) := by decide +kernel
theorem dX9_tellsBest_8 : decode cX9_tellsBest 8 = .ok (.invokevirtual 97, 3) := by decide +kernel
theorem dX9_tellsBest_11 : decode cX9_tellsBest 11 = .ok (.iconst 0, 1) := by decide +kernel
theorem dX9_tellsBest_12 : decode cX9_tellsBest 12 = .ok (.istore_n 2, 1) := by decide +kernel
theorem dX9_tellsBest_13 : decode cX9_tellsBest 13 = .ok (.iload_n 2, 1) := by decide +kernel
theorem dX9_tellsBest_14 : decode cX9_tellsBest 14 = .ok (.aload_n 0, 1) := by decide +kernel
theorem dX9_tellsBest_15 : decode cX9_tellsBest 15 = .ok (.getfield 7, 3) := by decide +kernel
theorem dX9_tellsBest_18 : decode cX9_tellsBest 18 = .ok (.iconst 0, 1) := by decide +kernel
theorem dX9_tellsBest_19 : decode cX9_tellsBest 19 = .ok (.iaload, 1) := by decide +kernel
theorem dX9_tellsBest_20 : decode cX9_tellsBest 20 = .ok (.if_icmp .ge 26, 3) := by decide +kernel
theorem dX9_tellsBest_23 : decode cX9_tellsBest 23 = .ok (.aload_n 0, 1) := by decide +kernel
theorem dX9_tellsBest_24 : decode cX9_tellsBest 24 = .ok (.getfield 16, 3) := by decide +kernel
theorem dX9_tellsBest_27 : decode cX9_tellsBest 27 = .ok (.bipush 40, 2) := by decide +kernel
theorem dX9_tellsBest_29 : decode cX9_tellsBest 29 = .ok (.iload_n 1, 1) := by decide +kernel
theorem dX9_tellsBest_30 : decode cX9_tellsBest 30 = .ok (.imul, 1) := by decide +kernel
theorem dX9_tellsBest_31 : decode cX9_tellsBest 31 = .ok (.iload_n 2, 1) := by decide +kernel
theorem dX9_tellsBest_32 : decode cX9_tellsBest 32 = .ok (.iadd, 1) := by decide +kernel
theorem dX9_tellsBest_33 : decode cX9_tellsBest 33 = .ok (.aload_n 0, 1) := by decide +kernel
theorem dX9_tellsBest_34 : decode cX9_tellsBest 34 = .ok (.getfield 58, 3) := by decide +kernel
theorem dX9_tellsBest_37 : decode cX9_tellsBest 37 = .ok (.iload_n 2, 1) := by decide +kernel
theorem dX9_tellsBest_38 : decode cX9_tellsBest 38 = .ok (.iaload, 1) := by decide +kernel
theorem dX9_tellsBest_39 : decode cX9_tellsBest 39 = .ok (.iastore, 1) := by decide +kernel
theorem dX9_tellsBest_40 : decode cX9_tellsBest 40 = .ok (.iinc 2 1, 3) := by decide +kernel
theorem dX9_tellsBest_43 : decode cX9_tellsBest 43 = .ok (.goto (-30), 3) := by decide +kernel
theorem dX9_tellsBest_46 : decode cX9_tellsBest 46 = .ok (.return_, 1) := by decide +kernel
theorem dX9_even_0 : decode cX9_even 0 = .ok (.iload_n 1, 1) := by decide +kernel
theorem dX9_even_1 : decode cX9_even 1 = .ok (.invokestatic 89, 3) := by decide +kernel
theorem dX9_even_4 : decode cX9_even 4 = .ok (.ifCond .ne 5, 3) := by decide +kernel
theorem dX9_even_7 : decode cX9_even 7 = .ok (.iconst (-1), 1) := by decide +kernel
theorem dX9_even_8 : decode cX9_even 8 = .ok (.ireturn, 1) := by decide +kernel
theorem dX9_even_9 : decode cX9_even 9 = .ok (.aload_n 0, 1) := by decide +kernel
theorem dX9_even_10 : decode cX9_even 10 = .ok (.getfield 7, 3) := by decide +kernel
theorem dX9_even_13 : decode cX9_even 13 = .ok (.iconst 0, 1) := by decide +kernel
theorem dX9_even_14 : decode cX9_even 14 = .ok (.iaload, 1) := by decide +kernel
theorem dX9_even_15 : decode cX9_even 15 = .ok (.ifCond .ne 6, 3) := by decide +kernel
theorem dX9_even_18 : decode cX9_even 18 = .ok (.bipush (-4), 2) := by decide +kernel
theorem dX9_even_20 : decode cX9_even 20 = .ok (.ireturn, 1) := by decide +kernel
theorem dX9_even_21 : decode cX9_even 21 = .ok (.ldc 219, 2) := by decide +kernel
theorem dX9_even_23 : decode cX9_even 23 = .ok (.istore_n 2, 1) := by decide +kernel
theorem dX9_even_24 : decode cX9_even 24 = .ok (.aload_n 0, 1) := by decide +kernel
theorem dX9_even_25 : decode cX9_even 25 = .ok (.invokevirtual 228, 3) := by decide +kernel
theorem dX9_even_28 : decode cX9_even 28 = .ok (.iconst 1, 1) := by decide +kernel
theorem dX9_even_29 : decode cX9_even 29 = .ok (.istore_n 3, 1) := by decide +kernel
theorem dX9_even_30 : decode cX9_even 30 = .ok (.iload_n 3, 1) := by decide +kernel
theorem dX9_even_31 : decode cX9_even 31 = .ok (.ifCond .eq 35, 3) := by decide +kernel
theorem dX9_even_34 : decode cX9_even 34 = .ok (.aload_n 0, 1) := by decide +kernel
theorem dX9_even_35 : decode cX9_even 35 = .ok (.invokevirtual 231, 3) := by decide +kernel
theorem dX9_even_38 : decode cX9_even 38 = .ok (.ifCond .eq 20, 3) := by decide +kernel
theorem dX9_even_41 : decode cX9_even 41 = .ok (.aload_n 0, 1) := by decide +kernel
theorem dX9_even_42 : decode cX9_even 42 = .ok (.invokevirtual 222, 3) := by decide +kernel
theorem dX9_even_45 : decode cX9_even 45 = .ok (.iload_n 2, 1) := by decide +kernel
theorem dX9_even_46 : decode cX9_even 46 = .ok (.if_icmp .ge 12, 3) := by decide +kernel
theorem dX9_even_49 : decode cX9_even 49 = .ok (.aload_n 0, 1) := by decide +kernel
theorem dX9_even_50 : decode cX9_even 50 = .ok (.invokevirtual 222, 3) := by decide +kernel
theorem dX9_even_53 : decode cX9_even 53 = .ok (.istore_n 2, 1) := by decide +kernel
theorem dX9_even_54 : decode cX9_even 54 = .ok (.aload_n 0, 1) := by decide +kernel
theorem dX9_even_55 : decode cX9_even 55 = .ok (.invokevirtual 235, 3) := by decide +kernel
theorem dX9_even_58 : decode cX9_even 58 = .ok (.aload_n 0, 1) := by decide +kernel
theorem dX9_even_59 : decode cX9_even 59 = .ok (.invokevirtual 238, 3) := by decide +kernel
theorem dX9_even_62 : decode cX9_even 62 = .ok (.istore_n 3, 1) := by decide +kernel
theorem dX9_even_63 : decode cX9_even 63 = .ok (.goto (-33), 3) := by decide +kernel
theorem dX9_even_66 : decode cX9_even 66 = .ok (.iload_n 2, 1) := by decide +kernel
theorem dX9_even_67 : decode cX9_even 67 = .ok (.ldc 219, 2) := by decide +kernel
theorem dX9_even_69 : decode cX9_even 69 = .ok (.if_icmp .ne 6, 3) := by decide +kernel
theorem dX9_even_72 : decode cX9_even 72 = .ok (.bipush (-9), 2) := by decide +kernel
theorem dX9_even_74 : decode cX9_even 74 = .ok (.ireturn, 1) := by decide +kernel
theorem dX9_even_75 : decode cX9_even 75 = .ok (.aload_n 0, 1) := by decide +kernel
theorem dX9_even_76 : decode cX9_even 76 = .ok (.iload_n 1, 1) := by decide +kernel
theorem dX9_even_77 : decode cX9_even 77 = .ok (.invokevirtual 241, 3) := by decide +kernel
theorem dX9_even_80 : decode cX9_even 80 = .ok (.iload_n 2, 1) := by decide +kernel
theorem dX9_even_81 : decode cX9_even 81 = .ok (.ireturn, 1) := by decide +kernel
theorem dX9_change_0 : decode cX9_change 0 = .ok (.iload_n 1, 1) := by decide +kernel
theorem dX9_change_1 : decode cX9_change 1 = .ok (.invokestatic 89, 3) := by decide +kernel
theorem dX9_change_4 : decode cX9_change 4 = .ok (.ifCond .eq 10, 3) := by decide +kernel
theorem dX9_change_7 : decode cX9_change 7 = .ok (.iload_n 2, 1) := by decide +kernel
theorem dX9_change_8 : decode cX9_change 8 = .ok (.invokestatic 89, 3) := by decide +kernel
theorem dX9_change_11 : decode cX9_change 11 = .ok (.ifCond .ne 5, 3) := by decide +kernel
theorem dX9_change_14 : decode cX9_change 14 = .ok (.iconst (-1), 1) := by decide +kernel
theorem dX9_change_15 : decode cX9_change 15 = .ok (.ireturn, 1) := by decide +kernel
theorem dX9_change_16 : decode cX9_change 16 = .ok (.aload_n 0, 1) := by decide +kernel
theorem dX9_change_17 : decode cX9_change 17 = .ok (.getfield 7, 3) := by decide +kernel
theorem dX9_change_20 : decode cX9_change 20 = .ok (.iconst 0, 1) := by decide +kernel
theorem dX9_change_21 : decode cX9_change 21 = .ok (.iaload, 1) := by decide +kernel
theorem dX9_change_22 : decode cX9_change 22 = .ok (.ifCond .ne 6, 3) := by decide +kernel
theorem dX9_change_25 : decode cX9_change 25 = .ok (.bipush (-4), 2) := by decide +kernel
theorem dX9_change_27 : decode cX9_change 27 = .ok (.ireturn, 1) := by decide +kernel
theorem dX9_change_28 : decode cX9_change 28 = .ok (.aload_n 0, 1) := by decide +kernel
theorem dX9_change_29 : decode cX9_change 29 = .ok (.getfield 19, 3) := by decide +kernel
theorem dX9_change_32 : decode cX9_change 32 = .ok (.iload_n 1, 1) := by decide +kernel
theorem dX9_change_33 : decode cX9_change 33 = .ok (.iaload, 1) := by decide +kernel
theorem dX9_change_34 : decode cX9_change 34 = .ok (.ifCond .ge 9, 3) := by decide +kernel
theorem dX9_change_37 : decode cX9_change 37 = .ok (.aload_n 0, 1) := by decide +kernel
theorem dX9_change_38 : decode cX9_change 38 = .ok (.iconst 1, 1) := by decide +kernel
theorem dX9_change_39 : decode cX9_change 39 = .ok (.invokevirtual 93, 3) := by decide +kernel
theorem dX9_change_42 : decode cX9_change 42 = .ok (.ireturn, 1) := by decide +kernel
theorem dX9_change_43 : decode cX9_change 43 = .ok (.aload_n 0, 1) := by decide +kernel
theorem dX9_change_44 : decode cX9_change 44 = .ok (.invokevirtual 225, 3) := by decide +kernel
theorem dX9_change_47 : decode cX9_change 47 = .ok (.istore_n 3, 1) := by decide +kernel
theorem dX9_change_48 : decode cX9_change 48 = .ok (.aload_n 0, 1) := by decide +kernel
theorem dX9_change_49 : decode cX9_change 49 = .ok (.getfield 19, 3) := by decide +kernel
theorem dX9_change_52 : decode cX9_change 52 = .ok (.iload_n 1, 1) := by decide +kernel
theorem dX9_change_53 : decode cX9_change 53 = .ok (.iaload, 1) := by decide +kernel
theorem dX9_change_54 : decode cX9_change 54 = .ok (.iload_n 3, 1) := by decide +kernel
theorem dX9_change_55 : decode cX9_change 55 = .ok (.if_icmp .eq 9, 3) := by decide +kernel
theorem dX9_change_58 : decode cX9_change 58 = .ok (.aload_n 0, 1) := by decide +kernel
theorem dX9_change_59 : decode cX9_change 59 = .ok (.iconst 5, 1) := by decide +kernel
theorem dX9_change_60 : decode cX9_change 60 = .ok (.invokevirtual 93, 3) := by decide +kernel
theorem dX9_change_63 : decode cX9_change 63 = .ok (.ireturn, 1) := by decide +kernel
theorem dX9_change_64 : decode cX9_change 64 = .ok (.iconst 0, 1) := by decide +kernel
theorem dX9_change_65 : decode cX9_change 65 = .ok (.istore 4, 2) := by decide +kernel
theorem dX9_change_67 : decode cX9_change 67 = .ok (.iconst 0, 1) := by decide +kernel
theorem dX9_change_68 : decode cX9_change 68 = .ok (.istore 5, 2) := by decide +kernel
theorem dX9_change_70 : decode cX9_change 70 = .ok (.iload 5, 2) := by decide +kernel
theorem dX9_change_72 : decode cX9_change 72 = .ok (.iload_n 3, 1) := by decide +kernel
theorem dX9_change_73 : decode cX9_change 73 = .ok (.if_icmp .ge 66, 3) := by decide +kernel
theorem dX9_change_76 : decode cX9_change 76 = .ok (.aload_n 0, 1) := by decide +kernel
theorem dX9_change_77 : decode cX9_change 77 = .ok (.getfield 16, 3) := by decide +kernel
theorem dX9_change_80 : decode cX9_change 80 = .ok (.bipush 40, 2) := by decide +kernel
theorem dX9_change_82 : decode cX9_change 82 = .ok (.iload_n 1, 1) := by decide +kernel
theorem dX9_change_83 : decode cX9_change 83 = .ok (.imul, 1) := by decide +kernel
theorem dX9_change_84 : decode cX9_change 84 = .ok (.iload 5, 2) := by decide +kernel
theorem dX9_change_86 : decode cX9_change 86 = .ok (.iadd, 1) := by decide +kernel
theorem dX9_change_87 : decode cX9_change 87 = .ok (.iaload, 1) := by decide +kernel
theorem dX9_change_88 : decode cX9_change 88 = .ok (.istore 6, 2) := by decide +kernel
theorem dX9_change_90 : decode cX9_change 90 = .ok (.aload_n 0, 1) := by decide +kernel
theorem dX9_change_91 : decode cX9_change 91 = .ok (.iload 6, 2) := by decide +kernel
theorem dX9_change_93 : decode cX9_change 93 = .ok (.invokevirtual 145, 3) := by decide +kernel
theorem dX9_change_96 : decode cX9_change 96 = .ok (.ifCond .eq 22, 3) := by decide +kernel
theorem dX9_change_99 : decode cX9_change 99 = .ok (.aload_n 0, 1) := by decide +kernel
theorem dX9_change_100 : decode cX9_change 100 = .ok (.iload 6, 2) := by decide +kernel
theorem dX9_change_102 : decode cX9_change 102 = .ok (.invokevirtual 175, 3) := by decide +kernel
theorem dX9_change_105 : decode cX9_change 105 = .ok (.ifCond .ne 13, 3) := by decide +kernel
theorem dX9_change_108 : decode cX9_change 108 = .ok (.iload 4, 2) := by decide +kernel
theorem dX9_change_110 : decode cX9_change 110 = .ok (.iload 6, 2) := by decide +kernel
theorem dX9_change_112 : decode cX9_change 112 = .ok (.invokestatic 244, 3) := by decide +kernel
theorem dX9_change_115 : decode cX9_change 115 = .ok (.ifCond .eq 9, 3) := by decide +kernel
theorem dX9_change_118 : decode cX9_change 118 = .ok (.aload_n 0, 1) := by decide +kernel
theorem dX9_change_119 : decode cX9_change 119 = .ok (.iconst 3, 1) := by decide +kernel
theorem dX9_change_120 : decode cX9_change 120 = .ok (.invokevirtual 93, 3) := by decide +kernel
theorem dX9_change_123 : decode cX9_change 123 = .ok (.ireturn, 1) := by decide +kernel
theorem dX9_change_124 : decode cX9_change 124 = .ok (.iload 4, 2) := by decide +kernel
theorem dX9_change_126 : decode cX9_change 126 = .ok (.iconst 1, 1) := by decide +kernel
theorem dX9_change_127 : decode cX9_change 127 = .ok (.iload 6, 2) := by decide +kernel
theorem dX9_change_129 : decode cX9_change 129 = .ok (.ishl, 1) := by decide +kernel
theorem dX9_change_130 : decode cX9_change 130 = .ok (.ior, 1) := by decide +kernel
theorem dX9_change_131 : decode cX9_change 131 = .ok (.istore 4, 2) := by decide +kernel
theorem dX9_change_133 : decode cX9_change 133 = .ok (.iinc 5 1, 3) := by decide +kernel
theorem dX9_change_136 : decode cX9_change 136 = .ok (.goto (-66), 3) := by decide +kernel
theorem dX9_change_139 : decode cX9_change 139 = .ok (.aload_n 0, 1) := by decide +kernel
theorem dX9_change_140 : decode cX9_change 140 = .ok (.invokevirtual 228, 3) := by decide +kernel
theorem dX9_change_143 : decode cX9_change 143 = .ok (.iconst 1, 1) := by decide +kernel
theorem dX9_change_144 : decode cX9_change 144 = .ok (.istore 5, 2) := by decide +kernel
theorem dX9_change_146 : decode cX9_change 146 = .ok (.iload 5, 2) := by decide +kernel
theorem dX9_change_148 : decode cX9_change 148 = .ok (.ifCond .eq 90, 3) := by decide +kernel
theorem dX9_change_151 : decode cX9_change 151 = .ok (.aload_n 0, 1) := by decide +kernel
theorem dX9_change_152 : decode cX9_change 152 = .ok (.invokevirtual 231, 3) := by decide +kernel
theorem dX9_change_155 : decode cX9_change 155 = .ok (.istore 6, 2) := by decide +kernel
theorem dX9_change_157 : decode cX9_change 157 = .ok (.iconst 0, 1) := by decide +kernel
theorem dX9_change_158 : decode cX9_change 158 = .ok (.istore 7, 2) := by decide +kernel
theorem dX9_change_160 : decode cX9_change 160 = .ok (.iload 7, 2) := by decide +kernel
theorem dX9_change_162 : decode cX9_change 162 = .ok (.iload_n 3, 1) := by decide +kernel
theorem dX9_change_163 : decode cX9_change 163 = .ok (.if_icmp .ge 43, 3) := by decide +kernel
theorem dX9_change_166 : decode cX9_change 166 = .ok (.iload 6, 2) := by decide +kernel
theorem dX9_change_168 : decode cX9_change 168 = .ok (.ifCond .eq 38, 3) := by decide +kernel
theorem dX9_change_171 : decode cX9_change 171 = .ok (.aload_n 0, 1) := by decide +kernel
theorem dX9_change_172 : decode cX9_change 172 = .ok (.getfield 44, 3) := by decide +kernel
theorem dX9_change_175 : decode cX9_change 175 = .ok (.iload 7, 2) := by decide +kernel
theorem dX9_change_177 : decode cX9_change 177 = .ok (.iaload, 1) := by decide +kernel
theorem dX9_change_178 : decode cX9_change 178 = .ok (.aload_n 0, 1) := by decide +kernel
theorem dX9_change_179 : decode cX9_change 179 = .ok (.getfield 16, 3) := by decide +kernel
theorem dX9_change_182 : decode cX9_change 182 = .ok (.bipush 40, 2) := by decide +kernel
theorem dX9_change_184 : decode cX9_change 184 = .ok (.iload_n 1, 1) := by decide +kernel
theorem dX9_change_185 : decode cX9_change 185 = .ok (.imul, 1) := by decide +kernel
theorem dX9_change_186 : decode cX9_change 186 = .ok (.iload 7, 2) := by decide +kernel
theorem dX9_change_188 : decode cX9_change 188 = .ok (.iadd, 1) := by decide +kernel
theorem dX9_change_189 : decode cX9_change 189 = .ok (.iaload, 1) := by decide +kernel
theorem dX9_change_190 : decode cX9_change 190 = .ok (.if_icmp .ne 7, 3) := by decide +kernel
theorem dX9_change_193 : decode cX9_change 193 = .ok (.iconst 1, 1) := by decide +kernel
theorem dX9_change_194 : decode cX9_change 194 = .ok (.goto 4, 3) := by decide +kernel
theorem dX9_change_197 : decode cX9_change 197 = .ok (.iconst 0, 1) := by decide +kernel
theorem dX9_change_198 : decode cX9_change 198 = .ok (.istore 6, 2) := by decide +kernel
theorem dX9_change_200 : decode cX9_change 200 = .ok (.iinc 7 1, 3) := by decide +kernel
theorem dX9_change_203 : decode cX9_change 203 = .ok (.goto (-43), 3) := by decide +kernel
theorem dX9_change_206 : decode cX9_change 206 = .ok (.iload 6, 2) := by decide +kernel
theorem dX9_change_208 : decode cX9_change 208 = .ok (.ifCond .eq 21, 3) := by decide +kernel
theorem dX9_change_211 : decode cX9_change 211 = .ok (.aload_n 0, 1) := by decide +kernel
theorem dX9_change_212 : decode cX9_change 212 = .ok (.invokevirtual 222, 3) := by decide +kernel
theorem dX9_change_215 : decode cX9_change 215 = .ok (.istore 7, 2) := by decide +kernel
theorem dX9_change_217 : decode cX9_change 217 = .ok (.aload_n 0, 1) := by decide +kernel
theorem dX9_change_218 : decode cX9_change 218 = .ok (.invokevirtual 235, 3) := by decide +kernel
theorem dX9_change_221 : decode cX9_change 221 = .ok (.aload_n 0, 1) := by decide +kernel
theorem dX9_change_222 : decode cX9_change 222 = .ok (.iload_n 2, 1) := by decide +kernel
theorem dX9_change_223 : decode cX9_change 223 = .ok (.invokevirtual 241, 3) := by decide +kernel
theorem dX9_change_226 : decode cX9_change 226 = .ok (.iload 7, 2) := by decide +kernel
theorem dX9_change_228 : decode cX9_change 228 = .ok (.ireturn, 1) := by decide +kernel
theorem dX9_change_229 : decode cX9_change 229 = .ok (.aload_n 0, 1) := by decide +kernel
theorem dX9_change_230 : decode cX9_change 230 = .ok (.invokevirtual 238, 3) := by decide +kernel
theorem dX9_change_233 : decode cX9_change 233 = .ok (.istore 5, 2) := by decide +kernel
theorem dX9_change_235 : decode cX9_change 235 = .ok (.goto (-89), 3) := by decide +kernel
theorem dX9_change_238 : decode cX9_change 238 = .ok (.bipush (-9), 2) := by decide +kernel
theorem dX9_change_240 : decode cX9_change 240 = .ok (.ireturn, 1) := by decide +kernel
theorem dX9_orders_0 : decode cX9_orders 0 = .ok (.aload_n 0, 1) := by decide +kernel
theorem dX9_orders_1 : decode cX9_orders 1 = .ok (.getfield 7, 3) := by decide +kernel
theorem dX9_orders_4 : decode cX9_orders 4 = .ok (.iconst 0, 1) := by decide +kernel
theorem dX9_orders_5 : decode cX9_orders 5 = .ok (.iaload, 1) := by decide +kernel
theorem dX9_orders_6 : decode cX9_orders 6 = .ok (.ifCond .ne 6, 3) := by decide +kernel
theorem dX9_orders_9 : decode cX9_orders 9 = .ok (.bipush (-4), 2) := by decide +kernel
theorem dX9_orders_11 : decode cX9_orders 11 = .ok (.ireturn, 1) := by decide +kernel
theorem dX9_orders_12 : decode cX9_orders 12 = .ok (.iconst 0, 1) := by decide +kernel
theorem dX9_orders_13 : decode cX9_orders 13 = .ok (.istore_n 1, 1) := by decide +kernel
theorem dX9_orders_14 : decode cX9_orders 14 = .ok (.iload_n 1, 1) := by decide +kernel
theorem dX9_orders_15 : decode cX9_orders 15 = .ok (.ldc 61, 2) := by decide +kernel
theorem dX9_orders_17 : decode cX9_orders 17 = .ok (.if_icmp .ge 16, 3) := by decide +kernel
theorem dX9_orders_20 : decode cX9_orders 20 = .ok (.aload_n 0, 1) := by decide +kernel
theorem dX9_orders_21 : decode cX9_orders 21 = .ok (.getfield 62, 3) := by decide +kernel
theorem dX9_orders_24 : decode cX9_orders 24 = .ok (.iload_n 1, 1) := by decide +kernel
theorem dX9_orders_25 : decode cX9_orders 25 = .ok (.iconst 0, 1) := by decide +kernel
theorem dX9_orders_26 : decode cX9_orders 26 = .ok (.bastore, 1) := by decide +kernel
theorem dX9_orders_27 : decode cX9_orders 27 = .ok (.iinc 1 1, 3) := by decide +kernel
theorem dX9_orders_30 : decode cX9_orders 30 = .ok (.goto (-16), 3) := by decide +kernel
theorem dX9_orders_33 : decode cX9_orders 33 = .ok (.iconst 0, 1) := by decide +kernel
theorem dX9_orders_34 : decode cX9_orders 34 = .ok (.istore_n 1, 1) := by decide +kernel
theorem dX9_orders_35 : decode cX9_orders 35 = .ok (.aload_n 0, 1) := by decide +kernel
theorem dX9_orders_36 : decode cX9_orders 36 = .ok (.invokevirtual 228, 3) := by decide +kernel
theorem dX9_orders_39 : decode cX9_orders 39 = .ok (.iconst 1, 1) := by decide +kernel
theorem dX9_orders_40 : decode cX9_orders 40 = .ok (.istore_n 2, 1) := by decide +kernel
theorem dX9_orders_41 : decode cX9_orders 41 = .ok (.iload_n 2, 1) := by decide +kernel
theorem dX9_orders_42 : decode cX9_orders 42 = .ok (.ifCond .eq 75, 3) := by decide +kernel
theorem dX9_orders_45 : decode cX9_orders 45 = .ok (.aload_n 0, 1) := by decide +kernel
theorem dX9_orders_46 : decode cX9_orders 46 = .ok (.invokevirtual 231, 3) := by decide +kernel
theorem dX9_orders_49 : decode cX9_orders 49 = .ok (.ifCond .eq 60, 3) := by decide +kernel
theorem dX9_orders_52 : decode cX9_orders 52 = .ok (.iconst 0, 1) := by decide +kernel
theorem dX9_orders_53 : decode cX9_orders 53 = .ok (.istore_n 3, 1) := by decide +kernel
theorem dX9_orders_54 : decode cX9_orders 54 = .ok (.iconst 0, 1) := by decide +kernel
theorem dX9_orders_55 : decode cX9_orders 55 = .ok (.istore 4, 2) := by decide +kernel
theorem dX9_orders_57 : decode cX9_orders 57 = .ok (.iload 4, 2) := by decide +kernel
theorem dX9_orders_59 : decode cX9_orders 59 = .ok (.aload_n 0, 1) := by decide +kernel
theorem dX9_orders_60 : decode cX9_orders 60 = .ok (.getfield 188, 3) := by decide +kernel
theorem dX9_orders_63 : decode cX9_orders 63 = .ok (.if_icmp .ge 22, 3) := by decide +kernel
theorem dX9_orders_66 : decode cX9_orders 66 = .ok (.bipush 6, 2) := by decide +kernel
theorem dX9_orders_68 : decode cX9_orders 68 = .ok (.iload_n 3, 1) := by decide +kernel
theorem dX9_orders_69 : decode cX9_orders 69 = .ok (.imul, 1) := by decide +kernel
theorem dX9_orders_70 : decode cX9_orders 70 = .ok (.aload_n 0, 1) := by decide +kernel
theorem dX9_orders_71 : decode cX9_orders 71 = .ok (.getfield 44, 3) := by decide +kernel
theorem dX9_orders_74 : decode cX9_orders 74 = .ok (.iload 4, 2) := by decide +kernel
theorem dX9_orders_76 : decode cX9_orders 76 = .ok (.iaload, 1) := by decide +kernel
theorem dX9_orders_77 : decode cX9_orders 77 = .ok (.iadd, 1) := by decide +kernel
theorem dX9_orders_78 : decode cX9_orders 78 = .ok (.istore_n 3, 1) := by decide +kernel
theorem dX9_orders_79 : decode cX9_orders 79 = .ok (.iinc 4 1, 3) := by decide +kernel
theorem dX9_orders_82 : decode cX9_orders 82 = .ok (.goto (-25), 3) := by decide +kernel
theorem dX9_orders_85 : decode cX9_orders 85 = .ok (.iload_n 1, 1) := by decide +kernel
theorem dX9_orders_86 : decode cX9_orders 86 = .ok (.aload_n 0, 1) := by decide +kernel
theorem dX9_orders_87 : decode cX9_orders 87 = .ok (.getfield 62, 3) := by decide +kernel
theorem dX9_orders_90 : decode cX9_orders 90 = .ok (.iload_n 3, 1) := by decide +kernel
theorem dX9_orders_91 : decode cX9_orders 91 = .ok (.baload, 1) := by decide +kernel
theorem dX9_orders_92 : decode cX9_orders 92 = .ok (.ifCond .eq 7, 3) := by decide +kernel
theorem dX9_orders_95 : decode cX9_orders 95 = .ok (.iconst 0, 1) := by decide +kernel
theorem dX9_orders_96 : decode cX9_orders 96 = .ok (.goto 4, 3) := by decide +kernel
theorem dX9_orders_99 : decode cX9_orders 99 = .ok (.iconst 1, 1) := by decide +kernel
theorem dX9_orders_100 : decode cX9_orders 100 = .ok (.iadd, 1) := by decide +kernel
theorem dX9_orders_101 : decode cX9_orders 101 = .ok (.istore_n 1, 1) := by decide +kernel
theorem dX9_orders_102 : decode cX9_orders 102 = .ok (.aload_n 0, 1) := by decide +kernel
theorem dX9_orders_103 : decode cX9_orders 103 = .ok (.getfield 62, 3) := by decide +kernel
theorem dX9_orders_106 : decode cX9_orders 106 = .ok (.iload_n 3, 1) := by decide +kernel
theorem dX9_orders_107 : decode cX9_orders 107 = .ok (.iconst 1, 1) := by decide +kernel
theorem dX9_orders_108 : decode cX9_orders 108 = .ok (.bastore, 1) := by decide +kernel
theorem dX9_orders_109 : decode cX9_orders 109 = .ok (.aload_n 0, 1) := by decide +kernel
theorem dX9_orders_110 : decode cX9_orders 110 = .ok (.invokevirtual 238, 3) := by decide +kernel
theorem dX9_orders_113 : decode cX9_orders 113 = .ok (.istore_n 2, 1) := by decide +kernel
theorem dX9_orders_114 : decode cX9_orders 114 = .ok (.goto (-73), 3) := by decide +kernel
theorem dX9_orders_117 : decode cX9_orders 117 = .ok (.iload_n 1, 1) := by decide +kernel
theorem dX9_orders_118 : decode cX9_orders 118 = .ok (.ireturn, 1) := by decide +kernel
theorem dX9_late_0 : decode cX9_late 0 = .ok (.aload_n 0, 1) := by decide +kernel
theorem dX9_late_1 : decode cX9_late 1 = .ok (.iload_n 1, 1) := by decide +kernel
theorem dX9_late_2 : decode cX9_late 2 = .ok (.invokevirtual 197, 3) := by decide +kernel
theorem dX9_late_5 : decode cX9_late 5 = .ok (.istore_n 2, 1) := by decide +kernel
theorem dX9_late_6 : decode cX9_late 6 = .ok (.iload_n 2, 1) := by decide +kernel
theorem dX9_late_7 : decode cX9_late 7 = .ok (.ifCond .ge 5, 3) := by decide +kernel
theorem dX9_late_10 : decode cX9_late 10 = .ok (.iload_n 2, 1) := by decide +kernel
theorem dX9_late_11 : decode cX9_late 11 = .ok (.ireturn, 1) := by decide +kernel
theorem dX9_late_12 : decode cX9_late 12 = .ok (.aload_n 0, 1) := by decide +kernel
theorem dX9_late_13 : decode cX9_late 13 = .ok (.iload_n 1, 1) := by decide +kernel
theorem dX9_late_14 : decode cX9_late 14 = .ok (.invokevirtual 200, 3) := by decide +kernel
theorem dX9_late_17 : decode cX9_late 17 = .ok (.aload_n 0, 1) := by decide +kernel
theorem dX9_late_18 : decode cX9_late 18 = .ok (.getfield 188, 3) := by decide +kernel
theorem dX9_late_21 : decode cX9_late 21 = .ok (.iconst 2, 1) := by decide +kernel
theorem dX9_late_22 : decode cX9_late 22 = .ok (.if_icmp .ge 6, 3) := by decide +kernel
theorem dX9_late_25 : decode cX9_late 25 = .ok (.bipush (-9), 2) := by decide +kernel
theorem dX9_late_27 : decode cX9_late 27 = .ok (.ireturn, 1) := by decide +kernel
theorem dX9_late_28 : decode cX9_late 28 = .ok (.iconst 1, 1) := by decide +kernel
theorem dX9_late_29 : decode cX9_late 29 = .ok (.istore_n 3, 1) := by decide +kernel
theorem dX9_late_30 : decode cX9_late 30 = .ok (.iconst 2, 1) := by decide +kernel
theorem dX9_late_31 : decode cX9_late 31 = .ok (.istore 4, 2) := by decide +kernel
theorem dX9_late_33 : decode cX9_late 33 = .ok (.iload 4, 2) := by decide +kernel
theorem dX9_late_35 : decode cX9_late 35 = .ok (.aload_n 0, 1) := by decide +kernel
theorem dX9_late_36 : decode cX9_late 36 = .ok (.getfield 188, 3) := by decide +kernel
theorem dX9_late_39 : decode cX9_late 39 = .ok (.if_icmp .ge 30, 3) := by decide +kernel
theorem dX9_late_42 : decode cX9_late 42 = .ok (.aload_n 0, 1) := by decide +kernel
theorem dX9_late_43 : decode cX9_late 43 = .ok (.iload 4, 2) := by decide +kernel
theorem dX9_late_45 : decode cX9_late 45 = .ok (.invokevirtual 194, 3) := by decide +kernel
theorem dX9_late_48 : decode cX9_late 48 = .ok (.aload_n 0, 1) := by decide +kernel
theorem dX9_late_49 : decode cX9_late 49 = .ok (.iload_n 3, 1) := by decide +kernel
theorem dX9_late_50 : decode cX9_late 50 = .ok (.invokevirtual 194, 3) := by decide +kernel
theorem dX9_late_53 : decode cX9_late 53 = .ok (.if_icmp .le 8, 3) := by decide +kernel
theorem dX9_late_56 : decode cX9_late 56 = .ok (.iload 4, 2) := by decide +kernel
theorem dX9_late_58 : decode cX9_late 58 = .ok (.goto 4, 3) := by decide +kernel
theorem dX9_late_61 : decode cX9_late 61 = .ok (.iload_n 3, 1) := by decide +kernel
theorem dX9_late_62 : decode cX9_late 62 = .ok (.istore_n 3, 1) := by decide +kernel
theorem dX9_late_63 : decode cX9_late 63 = .ok (.iinc 4 1, 3) := by decide +kernel
theorem dX9_late_66 : decode cX9_late 66 = .ok (.goto (-33), 3) := by decide +kernel
theorem dX9_late_69 : decode cX9_late 69 = .ok (.aload_n 0, 1) := by decide +kernel
theorem dX9_late_70 : decode cX9_late 70 = .ok (.aload_n 0, 1) := by decide +kernel
theorem dX9_late_71 : decode cX9_late 71 = .ok (.iload_n 3, 1) := by decide +kernel
theorem dX9_late_72 : decode cX9_late 72 = .ok (.invokevirtual 194, 3) := by decide +kernel
theorem dX9_late_75 : decode cX9_late 75 = .ok (.aload_n 0, 1) := by decide +kernel
theorem dX9_late_76 : decode cX9_late 76 = .ok (.getfield 44, 3) := by decide +kernel
theorem dX9_late_79 : decode cX9_late 79 = .ok (.iload_n 3, 1) := by decide +kernel
theorem dX9_late_80 : decode cX9_late 80 = .ok (.iaload, 1) := by decide +kernel
theorem dX9_late_81 : decode cX9_late 81 = .ok (.invokevirtual 105, 3) := by decide +kernel
theorem dX9_late_84 : decode cX9_late 84 = .ok (.ireturn, 1) := by decide +kernel
theorem dX9_layGame_0 : decode cX9_layGame 0 = .ok (.iconst 0, 1) := by decide +kernel
theorem dX9_layGame_1 : decode cX9_layGame 1 = .ok (.istore_n 3, 1) := by decide +kernel
theorem dX9_layGame_2 : decode cX9_layGame 2 = .ok (.iload_n 3, 1) := by decide +kernel
theorem dX9_layGame_3 : decode cX9_layGame 3 = .ok (.iconst 2, 1) := by decide +kernel
theorem dX9_layGame_4 : decode cX9_layGame 4 = .ok (.iload_n 2, 1) := by decide +kernel
theorem dX9_layGame_5 : decode cX9_layGame 5 = .ok (.imul, 1) := by decide +kernel
theorem dX9_layGame_6 : decode cX9_layGame 6 = .ok (.if_icmp .gt 197, 3) := by decide +kernel
theorem dX9_layGame_9 : decode cX9_layGame 9 = .ok (.iconst 0, 1) := by decide +kernel
theorem dX9_layGame_10 : decode cX9_layGame 10 = .ok (.istore 4, 2) := by decide +kernel
theorem dX9_layGame_12 : decode cX9_layGame 12 = .ok (.iload 4, 2) := by decide +kernel
theorem dX9_layGame_14 : decode cX9_layGame 14 = .ok (.bipush 20, 2) := by decide +kernel
theorem dX9_layGame_16 : decode cX9_layGame 16 = .ok (.if_icmp .gt 181, 3) := by decide +kernel
theorem dX9_layGame_19 : decode cX9_layGame 19 = .ok (.iload_n 3, 1) := by decide +kernel
theorem dX9_layGame_20 : decode cX9_layGame 20 = .ok (.iconst 2, 1) := by decide +kernel
theorem dX9_layGame_21 : decode cX9_layGame 21 = .ok (.irem, 1) := by decide +kernel
theorem dX9_layGame_22 : decode cX9_layGame 22 = .ok (.ifCond .ne 7, 3) := by decide +kernel
theorem dX9_layGame_25 : decode cX9_layGame 25 = .ok (.iconst 1, 1) := by decide +kernel
theorem dX9_layGame_26 : decode cX9_layGame 26 = .ok (.goto 4, 3) := by decide +kernel
theorem dX9_layGame_29 : decode cX9_layGame 29 = .ok (.iconst 0, 1) := by decide +kernel
theorem dX9_layGame_30 : decode cX9_layGame 30 = .ok (.istore 5, 2) := by decide +kernel
theorem dX9_layGame_32 : decode cX9_layGame 32 = .ok (.iload_n 3, 1) := by decide +kernel
theorem dX9_layGame_33 : decode cX9_layGame 33 = .ok (.ifCond .ne 18, 3) := by decide +kernel
theorem dX9_layGame_36 : decode cX9_layGame 36 = .ok (.iload 4, 2) := by decide +kernel
theorem dX9_layGame_38 : decode cX9_layGame 38 = .ok (.bipush 20, 2) := by decide +kernel
theorem dX9_layGame_40 : decode cX9_layGame 40 = .ok (.if_icmp .ne 7, 3) := by decide +kernel
theorem dX9_layGame_43 : decode cX9_layGame 43 = .ok (.iconst 1, 1) := by decide +kernel
theorem dX9_layGame_44 : decode cX9_layGame 44 = .ok (.goto 17, 3) := by decide +kernel
theorem dX9_layGame_47 : decode cX9_layGame 47 = .ok (.iconst 0, 1) := by decide +kernel
theorem dX9_layGame_48 : decode cX9_layGame 48 = .ok (.goto 13, 3) := by decide +kernel
theorem dX9_layGame_51 : decode cX9_layGame 51 = .ok (.iload 5, 2) := by decide +kernel
theorem dX9_layGame_53 : decode cX9_layGame 53 = .ok (.ifCond .ne 7, 3) := by decide +kernel
theorem dX9_layGame_56 : decode cX9_layGame 56 = .ok (.iconst 1, 1) := by decide +kernel
theorem dX9_layGame_57 : decode cX9_layGame 57 = .ok (.goto 4, 3) := by decide +kernel
theorem dX9_layGame_60 : decode cX9_layGame 60 = .ok (.iconst 0, 1) := by decide +kernel
theorem dX9_layGame_61 : decode cX9_layGame 61 = .ok (.istore 6, 2) := by decide +kernel
theorem dX9_layGame_63 : decode cX9_layGame 63 = .ok (.iconst 0, 1) := by decide +kernel
theorem dX9_layGame_64 : decode cX9_layGame 64 = .ok (.istore 7, 2) := by decide +kernel
theorem dX9_layGame_66 : decode cX9_layGame 66 = .ok (.iload 7, 2) := by decide +kernel
theorem dX9_layGame_68 : decode cX9_layGame 68 = .ok (.iload 5, 2) := by decide +kernel
theorem dX9_layGame_70 : decode cX9_layGame 70 = .ok (.ifCond .eq 8, 3) := by decide +kernel
theorem dX9_layGame_73 : decode cX9_layGame 73 = .ok (.bipush 7, 2) := by decide +kernel
theorem dX9_layGame_75 : decode cX9_layGame 75 = .ok (.goto 4, 3) := by decide +kernel
theorem dX9_layGame_78 : decode cX9_layGame 78 = .ok (.iconst 4, 1) := by decide +kernel
theorem dX9_layGame_79 : decode cX9_layGame 79 = .ok (.if_icmp .ge 98, 3) := by decide +kernel
theorem dX9_layGame_82 : decode cX9_layGame 82 = .ok (.iload_n 3, 1) := by decide +kernel
theorem dX9_layGame_83 : decode cX9_layGame 83 = .ok (.ifCond .le 94, 3) := by decide +kernel
theorem dX9_layGame_86 : decode cX9_layGame 86 = .ok (.iload_n 1, 1) := by decide +kernel
theorem dX9_layGame_87 : decode cX9_layGame 87 = .ok (.iload 4, 2) := by decide +kernel
theorem dX9_layGame_89 : decode cX9_layGame 89 = .ok (.iload 7, 2) := by decide +kernel
theorem dX9_layGame_91 : decode cX9_layGame 91 = .ok (.invokestatic 157, 3) := by decide +kernel
theorem dX9_layGame_94 : decode cX9_layGame 94 = .ok (.istore 8, 2) := by decide +kernel
theorem dX9_layGame_96 : decode cX9_layGame 96 = .ok (.iload 8, 2) := by decide +kernel
theorem dX9_layGame_98 : decode cX9_layGame 98 = .ok (.iconst (-1), 1) := by decide +kernel
theorem dX9_layGame_99 : decode cX9_layGame 99 = .ok (.if_icmp .ne 16, 3) := by decide +kernel
theorem dX9_layGame_102 : decode cX9_layGame 102 = .ok (.iload 5, 2) := by decide +kernel
theorem dX9_layGame_104 : decode cX9_layGame 104 = .ok (.ifCond .ne 7, 3) := by decide +kernel
theorem dX9_layGame_107 : decode cX9_layGame 107 = .ok (.iconst 1, 1) := by decide +kernel
theorem dX9_layGame_108 : decode cX9_layGame 108 = .ok (.goto 21, 3) := by decide +kernel
theorem dX9_layGame_111 : decode cX9_layGame 111 = .ok (.iconst 0, 1) := by decide +kernel
theorem dX9_layGame_112 : decode cX9_layGame 112 = .ok (.goto 17, 3) := by decide +kernel
theorem dX9_layGame_115 : decode cX9_layGame 115 = .ok (.aload_n 0, 1) := by decide +kernel
theorem dX9_layGame_116 : decode cX9_layGame 116 = .ok (.getfield 65, 3) := by decide +kernel
theorem dX9_layGame_119 : decode cX9_layGame 119 = .ok (.bipush 21, 2) := by decide +kernel
theorem dX9_layGame_121 : decode cX9_layGame 121 = .ok (.iload_n 3, 1) := by decide +kernel
theorem dX9_layGame_122 : decode cX9_layGame 122 = .ok (.iconst 1, 1) := by decide +kernel
theorem dX9_layGame_123 : decode cX9_layGame 123 = .ok (.isub, 1) := by decide +kernel
theorem dX9_layGame_124 : decode cX9_layGame 124 = .ok (.imul, 1) := by decide +kernel
theorem dX9_layGame_125 : decode cX9_layGame 125 = .ok (.iload 8, 2) := by decide +kernel
theorem dX9_layGame_127 : decode cX9_layGame 127 = .ok (.iadd, 1) := by decide +kernel
theorem dX9_layGame_128 : decode cX9_layGame 128 = .ok (.baload, 1) := by decide +kernel
theorem dX9_layGame_129 : decode cX9_layGame 129 = .ok (.istore 9, 2) := by decide +kernel
theorem dX9_layGame_131 : decode cX9_layGame 131 = .ok (.iload 5, 2) := by decide +kernel
theorem dX9_layGame_133 : decode cX9_layGame 133 = .ok (.ifCond .eq 21, 3) := by decide +kernel
theorem dX9_layGame_136 : decode cX9_layGame 136 = .ok (.iload 6, 2) := by decide +kernel
theorem dX9_layGame_138 : decode cX9_layGame 138 = .ok (.ifCond .ne 8, 3) := by decide +kernel
theorem dX9_layGame_141 : decode cX9_layGame 141 = .ok (.iload 9, 2) := by decide +kernel
theorem dX9_layGame_143 : decode cX9_layGame 143 = .ok (.ifCond .eq 7, 3) := by decide +kernel
theorem dX9_layGame_146 : decode cX9_layGame 146 = .ok (.iconst 1, 1) := by decide +kernel
theorem dX9_layGame_147 : decode cX9_layGame 147 = .ok (.goto 22, 3) := by decide +kernel
theorem dX9_layGame_150 : decode cX9_layGame 150 = .ok (.iconst 0, 1) := by decide +kernel
theorem dX9_layGame_151 : decode cX9_layGame 151 = .ok (.goto 18, 3) := by decide +kernel
theorem dX9_layGame_154 : decode cX9_layGame 154 = .ok (.iload 6, 2) := by decide +kernel
theorem dX9_layGame_156 : decode cX9_layGame 156 = .ok (.ifCond .eq 12, 3) := by decide +kernel
theorem dX9_layGame_159 : decode cX9_layGame 159 = .ok (.iload 9, 2) := by decide +kernel
theorem dX9_layGame_161 : decode cX9_layGame 161 = .ok (.ifCond .eq 7, 3) := by decide +kernel
theorem dX9_layGame_164 : decode cX9_layGame 164 = .ok (.iconst 1, 1) := by decide +kernel
theorem dX9_layGame_165 : decode cX9_layGame 165 = .ok (.goto 4, 3) := by decide +kernel
theorem dX9_layGame_168 : decode cX9_layGame 168 = .ok (.iconst 0, 1) := by decide +kernel
theorem dX9_layGame_169 : decode cX9_layGame 169 = .ok (.istore 6, 2) := by decide +kernel
theorem dX9_layGame_171 : decode cX9_layGame 171 = .ok (.iinc 7 1, 3) := by decide +kernel
theorem dX9_layGame_174 : decode cX9_layGame 174 = .ok (.goto (-108), 3) := by decide +kernel
theorem dX9_layGame_177 : decode cX9_layGame 177 = .ok (.aload_n 0, 1) := by decide +kernel
theorem dX9_layGame_178 : decode cX9_layGame 178 = .ok (.getfield 65, 3) := by decide +kernel
theorem dX9_layGame_181 : decode cX9_layGame 181 = .ok (.bipush 21, 2) := by decide +kernel
theorem dX9_layGame_183 : decode cX9_layGame 183 = .ok (.iload_n 3, 1) := by decide +kernel
theorem dX9_layGame_184 : decode cX9_layGame 184 = .ok (.imul, 1) := by decide +kernel
theorem dX9_layGame_185 : decode cX9_layGame 185 = .ok (.iload 4, 2) := by decide +kernel
theorem dX9_layGame_187 : decode cX9_layGame 187 = .ok (.iadd, 1) := by decide +kernel
theorem dX9_layGame_188 : decode cX9_layGame 188 = .ok (.iload 6, 2) := by decide +kernel
theorem dX9_layGame_190 : decode cX9_layGame 190 = .ok (.bastore, 1) := by decide +kernel
theorem dX9_layGame_191 : decode cX9_layGame 191 = .ok (.iinc 4 1, 3) := by decide +kernel
theorem dX9_layGame_194 : decode cX9_layGame 194 = .ok (.goto (-182), 3) := by decide +kernel
theorem dX9_layGame_197 : decode cX9_layGame 197 = .ok (.iinc 3 1, 3) := by decide +kernel
theorem dX9_layGame_200 : decode cX9_layGame 200 = .ok (.goto (-198), 3) := by decide +kernel
theorem dX9_layGame_203 : decode cX9_layGame 203 = .ok (.return_, 1) := by decide +kernel
theorem dX9_game_0 : decode cX9_game 0 = .ok (.aload_n 0, 1) := by decide +kernel
theorem dX9_game_1 : decode cX9_game 1 = .ok (.iload_n 1, 1) := by decide +kernel
theorem dX9_game_2 : decode cX9_game 2 = .ok (.invokevirtual 145, 3) := by decide +kernel
theorem dX9_game_5 : decode cX9_game 5 = .ok (.ifCond .eq 15, 3) := by decide +kernel
theorem dX9_game_8 : decode cX9_game 8 = .ok (.iload_n 2, 1) := by decide +kernel
theorem dX9_game_9 : decode cX9_game 9 = .ok (.i2l, 1) := by decide +kernel
theorem dX9_game_10 : decode cX9_game 10 = .ok (.lconst 0, 1) := by decide +kernel
theorem dX9_game_11 : decode cX9_game 11 = .ok (.ldc2_w 87, 3) := by decide +kernel
theorem dX9_game_14 : decode cX9_game 14 = .ok (.invokestatic 83, 3) := by decide +kernel
theorem dX9_game_17 : decode cX9_game 17 = .ok (.ifCond .ne 5, 3) := by decide +kernel
theorem dX9_game_20 : decode cX9_game 20 = .ok (.iconst (-1), 1) := by decide +kernel
theorem dX9_game_21 : decode cX9_game 21 = .ok (.ireturn, 1) := by decide +kernel
theorem dX9_game_22 : decode cX9_game 22 = .ok (.aload_n 0, 1) := by decide +kernel
theorem dX9_game_23 : decode cX9_game 23 = .ok (.iload_n 1, 1) := by decide +kernel
theorem dX9_game_24 : decode cX9_game 24 = .ok (.invokevirtual 175, 3) := by decide +kernel
theorem dX9_game_27 : decode cX9_game 27 = .ok (.ifCond .eq 6, 3) := by decide +kernel
theorem dX9_game_30 : decode cX9_game 30 = .ok (.bipush (-4), 2) := by decide +kernel
theorem dX9_game_32 : decode cX9_game 32 = .ok (.ireturn, 1) := by decide +kernel
theorem dX9_game_33 : decode cX9_game 33 = .ok (.aload_n 0, 1) := by decide +kernel
theorem dX9_game_34 : decode cX9_game 34 = .ok (.aload_n 0, 1) := by decide +kernel
theorem dX9_game_35 : decode cX9_game 35 = .ok (.getfield 7, 3) := by decide +kernel
theorem dX9_game_38 : decode cX9_game 38 = .ok (.iconst 2, 1) := by decide +kernel
theorem dX9_game_39 : decode cX9_game 39 = .ok (.iload_n 1, 1) := by decide +kernel
theorem dX9_game_40 : decode cX9_game 40 = .ok (.iadd, 1) := by decide +kernel
theorem dX9_game_41 : decode cX9_game 41 = .ok (.iaload, 1) := by decide +kernel
theorem dX9_game_42 : decode cX9_game 42 = .ok (.iload_n 2, 1) := by decide +kernel
theorem dX9_game_43 : decode cX9_game 43 = .ok (.invokevirtual 248, 3) := by decide +kernel
theorem dX9_game_46 : decode cX9_game 46 = .ok (.aload_n 0, 1) := by decide +kernel
theorem dX9_game_47 : decode cX9_game 47 = .ok (.getfield 65, 3) := by decide +kernel
theorem dX9_game_50 : decode cX9_game 50 = .ok (.bipush 42, 2) := by decide +kernel
theorem dX9_game_52 : decode cX9_game 52 = .ok (.iload_n 2, 1) := by decide +kernel
theorem dX9_game_53 : decode cX9_game 53 = .ok (.imul, 1) := by decide +kernel
theorem dX9_game_54 : decode cX9_game 54 = .ok (.aload_n 0, 1) := by decide +kernel
theorem dX9_game_55 : decode cX9_game 55 = .ok (.getfield 7, 3) := by decide +kernel
theorem dX9_game_58 : decode cX9_game 58 = .ok (.bipush 14, 2) := by decide +kernel
theorem dX9_game_60 : decode cX9_game 60 = .ok (.iload_n 1, 1) := by decide +kernel
theorem dX9_game_61 : decode cX9_game 61 = .ok (.iadd, 1) := by decide +kernel
theorem dX9_game_62 : decode cX9_game 62 = .ok (.iaload, 1) := by decide +kernel
theorem dX9_game_63 : decode cX9_game 63 = .ok (.iadd, 1) := by decide +kernel
theorem dX9_game_64 : decode cX9_game 64 = .ok (.baload, 1) := by decide +kernel
theorem dX9_game_65 : decode cX9_game 65 = .ok (.ifCond .eq 7, 3) := by decide +kernel
theorem dX9_game_68 : decode cX9_game 68 = .ok (.iconst 1, 1) := by decide +kernel
theorem dX9_game_69 : decode cX9_game 69 = .ok (.goto 4, 3) := by decide +kernel
theorem dX9_game_72 : decode cX9_game 72 = .ok (.iconst 0, 1) := by decide +kernel
theorem dX9_game_73 : decode cX9_game 73 = .ok (.ireturn, 1) := by decide +kernel
theorem dX9_first_0 : decode cX9_first 0 = .ok (.aload_n 0, 1) := by decide +kernel
theorem dX9_first_1 : decode cX9_first 1 = .ok (.iload_n 1, 1) := by decide +kernel
theorem dX9_first_2 : decode cX9_first 2 = .ok (.invokevirtual 145, 3) := by decide +kernel
theorem dX9_first_5 : decode cX9_first 5 = .ok (.ifCond .eq 15, 3) := by decide +kernel
theorem dX9_first_8 : decode cX9_first 8 = .ok (.iload_n 2, 1) := by decide +kernel
theorem dX9_first_9 : decode cX9_first 9 = .ok (.i2l, 1) := by decide +kernel
theorem dX9_first_10 : decode cX9_first 10 = .ok (.lconst 1, 1) := by decide +kernel
theorem dX9_first_11 : decode cX9_first 11 = .ok (.ldc2_w 87, 3) := by decide +kernel
theorem dX9_first_14 : decode cX9_first 14 = .ok (.invokestatic 83, 3) := by decide +kernel
theorem dX9_first_17 : decode cX9_first 17 = .ok (.ifCond .ne 5, 3) := by decide +kernel
theorem dX9_first_20 : decode cX9_first 20 = .ok (.iconst (-1), 1) := by decide +kernel
theorem dX9_first_21 : decode cX9_first 21 = .ok (.ireturn, 1) := by decide +kernel
theorem dX9_first_22 : decode cX9_first 22 = .ok (.aload_n 0, 1) := by decide +kernel
theorem dX9_first_23 : decode cX9_first 23 = .ok (.iload_n 1, 1) := by decide +kernel
theorem dX9_first_24 : decode cX9_first 24 = .ok (.invokevirtual 175, 3) := by decide +kernel
theorem dX9_first_27 : decode cX9_first 27 = .ok (.ifCond .eq 6, 3) := by decide +kernel
theorem dX9_first_30 : decode cX9_first 30 = .ok (.bipush (-4), 2) := by decide +kernel
theorem dX9_first_32 : decode cX9_first 32 = .ok (.ireturn, 1) := by decide +kernel
theorem dX9_first_33 : decode cX9_first 33 = .ok (.aload_n 0, 1) := by decide +kernel
theorem dX9_first_34 : decode cX9_first 34 = .ok (.aload_n 0, 1) := by decide +kernel
theorem dX9_first_35 : decode cX9_first 35 = .ok (.getfield 7, 3) := by decide +kernel
theorem dX9_first_38 : decode cX9_first 38 = .ok (.iconst 2, 1) := by decide +kernel
theorem dX9_first_39 : decode cX9_first 39 = .ok (.iload_n 1, 1) := by decide +kernel
theorem dX9_first_40 : decode cX9_first 40 = .ok (.iadd, 1) := by decide +kernel
theorem dX9_first_41 : decode cX9_first 41 = .ok (.iaload, 1) := by decide +kernel
theorem dX9_first_42 : decode cX9_first 42 = .ok (.iload_n 2, 1) := by decide +kernel
theorem dX9_first_43 : decode cX9_first 43 = .ok (.invokevirtual 248, 3) := by decide +kernel
theorem dX9_first_46 : decode cX9_first 46 = .ok (.iconst 0, 1) := by decide +kernel
theorem dX9_first_47 : decode cX9_first 47 = .ok (.istore_n 3, 1) := by decide +kernel
theorem dX9_first_48 : decode cX9_first 48 = .ok (.iload_n 3, 1) := by decide +kernel
theorem dX9_first_49 : decode cX9_first 49 = .ok (.bipush 7, 2) := by decide +kernel
theorem dX9_first_51 : decode cX9_first 51 = .ok (.if_icmp .ge 59, 3) := by decide +kernel
theorem dX9_first_54 : decode cX9_first 54 = .ok (.aload_n 0, 1) := by decide +kernel
theorem dX9_first_55 : decode cX9_first 55 = .ok (.getfield 7, 3) := by decide +kernel
theorem dX9_first_58 : decode cX9_first 58 = .ok (.iconst 2, 1) := by decide +kernel
theorem dX9_first_59 : decode cX9_first 59 = .ok (.iload_n 1, 1) := by decide +kernel
theorem dX9_first_60 : decode cX9_first 60 = .ok (.iadd, 1) := by decide +kernel
theorem dX9_first_61 : decode cX9_first 61 = .ok (.iaload, 1) := by decide +kernel
theorem dX9_first_62 : decode cX9_first 62 = .ok (.aload_n 0, 1) := by decide +kernel
theorem dX9_first_63 : decode cX9_first 63 = .ok (.getfield 7, 3) := by decide +kernel
theorem dX9_first_66 : decode cX9_first 66 = .ok (.bipush 14, 2) := by decide +kernel
theorem dX9_first_68 : decode cX9_first 68 = .ok (.iload_n 1, 1) := by decide +kernel
theorem dX9_first_69 : decode cX9_first 69 = .ok (.iadd, 1) := by decide +kernel
theorem dX9_first_70 : decode cX9_first 70 = .ok (.iaload, 1) := by decide +kernel
theorem dX9_first_71 : decode cX9_first 71 = .ok (.iload_n 3, 1) := by decide +kernel
theorem dX9_first_72 : decode cX9_first 72 = .ok (.invokestatic 157, 3) := by decide +kernel
theorem dX9_first_75 : decode cX9_first 75 = .ok (.istore 4, 2) := by decide +kernel
theorem dX9_first_77 : decode cX9_first 77 = .ok (.iload 4, 2) := by decide +kernel
theorem dX9_first_79 : decode cX9_first 79 = .ok (.iconst (-1), 1) := by decide +kernel
theorem dX9_first_80 : decode cX9_first 80 = .ok (.if_icmp .eq 24, 3) := by decide +kernel
theorem dX9_first_83 : decode cX9_first 83 = .ok (.aload_n 0, 1) := by decide +kernel
theorem dX9_first_84 : decode cX9_first 84 = .ok (.getfield 65, 3) := by decide +kernel
theorem dX9_first_87 : decode cX9_first 87 = .ok (.bipush 21, 2) := by decide +kernel
theorem dX9_first_89 : decode cX9_first 89 = .ok (.iconst 2, 1) := by decide +kernel
theorem dX9_first_90 : decode cX9_first 90 = .ok (.iload_n 2, 1) := by decide +kernel
theorem dX9_first_91 : decode cX9_first 91 = .ok (.imul, 1) := by decide +kernel
theorem dX9_first_92 : decode cX9_first 92 = .ok (.iconst 1, 1) := by decide +kernel
theorem dX9_first_93 : decode cX9_first 93 = .ok (.isub, 1) := by decide +kernel
theorem dX9_first_94 : decode cX9_first 94 = .ok (.imul, 1) := by decide +kernel
theorem dX9_first_95 : decode cX9_first 95 = .ok (.iload 4, 2) := by decide +kernel
theorem dX9_first_97 : decode cX9_first 97 = .ok (.iadd, 1) := by decide +kernel
theorem dX9_first_98 : decode cX9_first 98 = .ok (.baload, 1) := by decide +kernel
theorem dX9_first_99 : decode cX9_first 99 = .ok (.ifCond .eq 5, 3) := by decide +kernel
theorem dX9_first_102 : decode cX9_first 102 = .ok (.iload_n 3, 1) := by decide +kernel
theorem dX9_first_103 : decode cX9_first 103 = .ok (.ireturn, 1) := by decide +kernel
theorem dX9_first_104 : decode cX9_first 104 = .ok (.iinc 3 1, 3) := by decide +kernel
theorem dX9_first_107 : decode cX9_first 107 = .ok (.goto (-59), 3) := by decide +kernel
theorem dX9_first_110 : decode cX9_first 110 = .ok (.bipush (-9), 2) := by decide +kernel
theorem dX9_first_112 : decode cX9_first 112 = .ok (.ireturn, 1) := by decide +kernel
theorem dX9_againstPairs_0 : decode cX9_againstPairs 0 = .ok (.aload_n 0, 1) := by decide +kernel
theorem dX9_againstPairs_1 : decode cX9_againstPairs 1 = .ok (.iload_n 1, 1) := by decide +kernel
theorem dX9_againstPairs_2 : decode cX9_againstPairs 2 = .ok (.invokevirtual 145, 3) := by decide +kernel
theorem dX9_againstPairs_5 : decode cX9_againstPairs 5 = .ok (.ifCond .eq 10, 3) := by decide +kernel
theorem dX9_againstPairs_8 : decode cX9_againstPairs 8 = .ok (.iload_n 2, 1) := by decide +kernel
theorem dX9_againstPairs_9 : decode cX9_againstPairs 9 = .ok (.invokestatic 89, 3) := by decide +kernel
theorem dX9_againstPairs_12 : decode cX9_againstPairs 12 = .ok (.ifCond .ne 5, 3) := by decide +kernel
theorem dX9_againstPairs_15 : decode cX9_againstPairs 15 = .ok (.iconst (-1), 1) := by decide +kernel
theorem dX9_againstPairs_16 : decode cX9_againstPairs 16 = .ok (.ireturn, 1) := by decide +kernel
theorem dX9_againstPairs_17 : decode cX9_againstPairs 17 = .ok (.aload_n 0, 1) := by decide +kernel
theorem dX9_againstPairs_18 : decode cX9_againstPairs 18 = .ok (.iload_n 1, 1) := by decide +kernel
theorem dX9_againstPairs_19 : decode cX9_againstPairs 19 = .ok (.invokevirtual 175, 3) := by decide +kernel
theorem dX9_againstPairs_22 : decode cX9_againstPairs 22 = .ok (.ifCond .eq 6, 3) := by decide +kernel
theorem dX9_againstPairs_25 : decode cX9_againstPairs 25 = .ok (.bipush (-4), 2) := by decide +kernel
theorem dX9_againstPairs_27 : decode cX9_againstPairs 27 = .ok (.ireturn, 1) := by decide +kernel
theorem dX9_againstPairs_28 : decode cX9_againstPairs 28 = .ok (.aload_n 0, 1) := by decide +kernel
theorem dX9_againstPairs_29 : decode cX9_againstPairs 29 = .ok (.getfield 19, 3) := by decide +kernel
theorem dX9_againstPairs_32 : decode cX9_againstPairs 32 = .ok (.iload_n 2, 1) := by decide +kernel
theorem dX9_againstPairs_33 : decode cX9_againstPairs 33 = .ok (.iaload, 1) := by decide +kernel
theorem dX9_againstPairs_34 : decode cX9_againstPairs 34 = .ok (.ifCond .ge 9, 3) := by decide +kernel
theorem dX9_againstPairs_37 : decode cX9_againstPairs 37 = .ok (.aload_n 0, 1) := by decide +kernel
theorem dX9_againstPairs_38 : decode cX9_againstPairs 38 = .ok (.iconst 1, 1) := by decide +kernel
theorem dX9_againstPairs_39 : decode cX9_againstPairs 39 = .ok (.invokevirtual 93, 3) := by decide +kernel
theorem dX9_againstPairs_42 : decode cX9_againstPairs 42 = .ok (.ireturn, 1) := by decide +kernel
theorem dX9_againstPairs_43 : decode cX9_againstPairs 43 = .ok (.aload_n 0, 1) := by decide +kernel
theorem dX9_againstPairs_44 : decode cX9_againstPairs 44 = .ok (.getfield 19, 3) := by decide +kernel
theorem dX9_againstPairs_47 : decode cX9_againstPairs 47 = .ok (.iload_n 2, 1) := by decide +kernel
theorem dX9_againstPairs_48 : decode cX9_againstPairs 48 = .ok (.iaload, 1) := by decide +kernel
theorem dX9_againstPairs_49 : decode cX9_againstPairs 49 = .ok (.iconst 2, 1) := by decide +kernel
theorem dX9_againstPairs_50 : decode cX9_againstPairs 50 = .ok (.irem, 1) := by decide +kernel
theorem dX9_againstPairs_51 : decode cX9_againstPairs 51 = .ok (.ifCond .eq 9, 3) := by decide +kernel
theorem dX9_againstPairs_54 : decode cX9_againstPairs 54 = .ok (.aload_n 0, 1) := by decide +kernel
theorem dX9_againstPairs_55 : decode cX9_againstPairs 55 = .ok (.iconst 5, 1) := by decide +kernel
theorem dX9_againstPairs_56 : decode cX9_againstPairs 56 = .ok (.invokevirtual 93, 3) := by decide +kernel
theorem dX9_againstPairs_59 : decode cX9_againstPairs 59 = .ok (.ireturn, 1) := by decide +kernel
theorem dX9_againstPairs_60 : decode cX9_againstPairs 60 = .ok (.iconst 0, 1) := by decide +kernel
theorem dX9_againstPairs_61 : decode cX9_againstPairs 61 = .ok (.istore_n 3, 1) := by decide +kernel
theorem dX9_againstPairs_62 : decode cX9_againstPairs 62 = .ok (.iload_n 3, 1) := by decide +kernel
theorem dX9_againstPairs_63 : decode cX9_againstPairs 63 = .ok (.aload_n 0, 1) := by decide +kernel
theorem dX9_againstPairs_64 : decode cX9_againstPairs 64 = .ok (.getfield 19, 3) := by decide +kernel
theorem dX9_againstPairs_67 : decode cX9_againstPairs 67 = .ok (.iload_n 2, 1) := by decide +kernel
theorem dX9_againstPairs_68 : decode cX9_againstPairs 68 = .ok (.iaload, 1) := by decide +kernel
theorem dX9_againstPairs_69 : decode cX9_againstPairs 69 = .ok (.if_icmp .ge 32, 3) := by decide +kernel
theorem dX9_againstPairs_72 : decode cX9_againstPairs 72 = .ok (.aload_n 0, 1) := by decide +kernel
theorem dX9_againstPairs_73 : decode cX9_againstPairs 73 = .ok (.getfield 16, 3) := by decide +kernel
theorem dX9_againstPairs_76 : decode cX9_againstPairs 76 = .ok (.bipush 40, 2) := by decide +kernel
theorem dX9_againstPairs_78 : decode cX9_againstPairs 78 = .ok (.iload_n 2, 1) := by decide +kernel
theorem dX9_againstPairs_79 : decode cX9_againstPairs 79 = .ok (.imul, 1) := by decide +kernel
theorem dX9_againstPairs_80 : decode cX9_againstPairs 80 = .ok (.iload_n 3, 1) := by decide +kernel
theorem dX9_againstPairs_81 : decode cX9_againstPairs 81 = .ok (.iadd, 1) := by decide +kernel
theorem dX9_againstPairs_82 : decode cX9_againstPairs 82 = .ok (.iaload, 1) := by decide +kernel
theorem dX9_againstPairs_83 : decode cX9_againstPairs 83 = .ok (.invokestatic 172, 3) := by decide +kernel
theorem dX9_againstPairs_86 : decode cX9_againstPairs 86 = .ok (.ifCond .ne 9, 3) := by decide +kernel
theorem dX9_againstPairs_89 : decode cX9_againstPairs 89 = .ok (.aload_n 0, 1) := by decide +kernel
theorem dX9_againstPairs_90 : decode cX9_againstPairs 90 = .ok (.iconst 3, 1) := by decide +kernel
theorem dX9_againstPairs_91 : decode cX9_againstPairs 91 = .ok (.invokevirtual 93, 3) := by decide +kernel
theorem dX9_againstPairs_94 : decode cX9_againstPairs 94 = .ok (.ireturn, 1) := by decide +kernel
theorem dX9_againstPairs_95 : decode cX9_againstPairs 95 = .ok (.iinc 3 2, 3) := by decide +kernel
end
section
theorem dX9_againstPairs_98 : decode cX9_againstPairs 98 = .ok (.goto (-36), 3) := by decide +kernel
theorem dX9_againstPairs_101 : decode cX9_againstPairs 101 = .ok (.iconst 0, 1) := by decide +kernel
theorem dX9_againstPairs_102 : decode cX9_againstPairs 102 = .ok (.ireturn, 1) := by decide +kernel
theorem dX9_isSo_0 : decode cX9_isSo 0 = .ok (.iconst 1, 1) := by decide +kernel
theorem dX9_isSo_1 : decode cX9_isSo 1 = .ok (.istore 6, 2) := by decide +kernel
theorem dX9_isSo_3 : decode cX9_isSo 3 = .ok (.iload 4, 2) := by decide +kernel
theorem dX9_isSo_5 : decode cX9_isSo 5 = .ok (.istore 7, 2) := by decide +kernel
theorem dX9_isSo_7 : decode cX9_isSo 7 = .ok (.iconst 0, 1) := by decide +kernel
theorem dX9_isSo_8 : decode cX9_isSo 8 = .ok (.istore 8, 2) := by decide +kernel
theorem dX9_isSo_10 : decode cX9_isSo 10 = .ok (.iload 8, 2) := by decide +kernel
theorem dX9_isSo_12 : decode cX9_isSo 12 = .ok (.aload_n 0, 1) := by decide +kernel
theorem dX9_isSo_13 : decode cX9_isSo 13 = .ok (.getfield 19, 3) := by decide +kernel
theorem dX9_isSo_16 : decode cX9_isSo 16 = .ok (.iload_n 1, 1) := by decide +kernel
theorem dX9_isSo_17 : decode cX9_isSo 17 = .ok (.iaload, 1) := by decide +kernel
theorem dX9_isSo_18 : decode cX9_isSo 18 = .ok (.if_icmp .ge 77, 3) := by decide +kernel
theorem dX9_isSo_21 : decode cX9_isSo 21 = .ok (.iload 7, 2) := by decide +kernel
theorem dX9_isSo_23 : decode cX9_isSo 23 = .ok (.iconst (-1), 1) := by decide +kernel
theorem dX9_isSo_24 : decode cX9_isSo 24 = .ok (.if_icmp .ne 7, 3) := by decide +kernel
theorem dX9_isSo_27 : decode cX9_isSo 27 = .ok (.iconst (-1), 1) := by decide +kernel
theorem dX9_isSo_28 : decode cX9_isSo 28 = .ok (.goto 21, 3) := by decide +kernel
theorem dX9_isSo_31 : decode cX9_isSo 31 = .ok (.iload_n 2, 1) := by decide +kernel
theorem dX9_isSo_32 : decode cX9_isSo 32 = .ok (.iload 7, 2) := by decide +kernel
theorem dX9_isSo_34 : decode cX9_isSo 34 = .ok (.aload_n 0, 1) := by decide +kernel
theorem dX9_isSo_35 : decode cX9_isSo 35 = .ok (.getfield 16, 3) := by decide +kernel
theorem dX9_isSo_38 : decode cX9_isSo 38 = .ok (.bipush 40, 2) := by decide +kernel
theorem dX9_isSo_40 : decode cX9_isSo 40 = .ok (.iload_n 1, 1) := by decide +kernel
theorem dX9_isSo_41 : decode cX9_isSo 41 = .ok (.imul, 1) := by decide +kernel
theorem dX9_isSo_42 : decode cX9_isSo 42 = .ok (.iload 8, 2) := by decide +kernel
theorem dX9_isSo_44 : decode cX9_isSo 44 = .ok (.iadd, 1) := by decide +kernel
theorem dX9_isSo_45 : decode cX9_isSo 45 = .ok (.iaload, 1) := by decide +kernel
theorem dX9_isSo_46 : decode cX9_isSo 46 = .ok (.invokestatic 157, 3) := by decide +kernel
theorem dX9_isSo_49 : decode cX9_isSo 49 = .ok (.istore 7, 2) := by decide +kernel
theorem dX9_isSo_51 : decode cX9_isSo 51 = .ok (.iload 6, 2) := by decide +kernel
theorem dX9_isSo_53 : decode cX9_isSo 53 = .ok (.ifCond .eq 33, 3) := by decide +kernel
theorem dX9_isSo_56 : decode cX9_isSo 56 = .ok (.iload_n 2, 1) := by decide +kernel
theorem dX9_isSo_57 : decode cX9_isSo 57 = .ok (.iload_n 3, 1) := by decide +kernel
theorem dX9_isSo_58 : decode cX9_isSo 58 = .ok (.iload 7, 2) := by decide +kernel
theorem dX9_isSo_60 : decode cX9_isSo 60 = .ok (.iload 5, 2) := by decide +kernel
theorem dX9_isSo_62 : decode cX9_isSo 62 = .ok (.invokestatic 160, 3) := by decide +kernel
theorem dX9_isSo_65 : decode cX9_isSo 65 = .ok (.aload_n 0, 1) := by decide +kernel
theorem dX9_isSo_66 : decode cX9_isSo 66 = .ok (.getfield 16, 3) := by decide +kernel
theorem dX9_isSo_69 : decode cX9_isSo 69 = .ok (.bipush 40, 2) := by decide +kernel
theorem dX9_isSo_71 : decode cX9_isSo 71 = .ok (.iload_n 1, 1) := by decide +kernel
theorem dX9_isSo_72 : decode cX9_isSo 72 = .ok (.imul, 1) := by decide +kernel
theorem dX9_isSo_73 : decode cX9_isSo 73 = .ok (.iload 8, 2) := by decide +kernel
theorem dX9_isSo_75 : decode cX9_isSo 75 = .ok (.iadd, 1) := by decide +kernel
theorem dX9_isSo_76 : decode cX9_isSo 76 = .ok (.iconst 1, 1) := by decide +kernel
theorem dX9_isSo_77 : decode cX9_isSo 77 = .ok (.iadd, 1) := by decide +kernel
theorem dX9_isSo_78 : decode cX9_isSo 78 = .ok (.iaload, 1) := by decide +kernel
theorem dX9_isSo_79 : decode cX9_isSo 79 = .ok (.if_icmp .ne 7, 3) := by decide +kernel
theorem dX9_isSo_82 : decode cX9_isSo 82 = .ok (.iconst 1, 1) := by decide +kernel
theorem dX9_isSo_83 : decode cX9_isSo 83 = .ok (.goto 4, 3) := by decide +kernel
theorem dX9_isSo_86 : decode cX9_isSo 86 = .ok (.iconst 0, 1) := by decide +kernel
theorem dX9_isSo_87 : decode cX9_isSo 87 = .ok (.istore 6, 2) := by decide +kernel
theorem dX9_isSo_89 : decode cX9_isSo 89 = .ok (.iinc 8 2, 3) := by decide +kernel
theorem dX9_isSo_92 : decode cX9_isSo 92 = .ok (.goto (-82), 3) := by decide +kernel
theorem dX9_isSo_95 : decode cX9_isSo 95 = .ok (.iload 6, 2) := by decide +kernel
theorem dX9_isSo_97 : decode cX9_isSo 97 = .ok (.ireturn, 1) := by decide +kernel
theorem dX9_kinds_0 : decode cX9_kinds 0 = .ok (.aload_n 0, 1) := by decide +kernel
theorem dX9_kinds_1 : decode cX9_kinds 1 = .ok (.iload_n 1, 1) := by decide +kernel
theorem dX9_kinds_2 : decode cX9_kinds 2 = .ok (.iload_n 2, 1) := by decide +kernel
theorem dX9_kinds_3 : decode cX9_kinds 3 = .ok (.invokevirtual 251, 3) := by decide +kernel
theorem dX9_kinds_6 : decode cX9_kinds 6 = .ok (.istore_n 3, 1) := by decide +kernel
theorem dX9_kinds_7 : decode cX9_kinds 7 = .ok (.iload_n 3, 1) := by decide +kernel
theorem dX9_kinds_8 : decode cX9_kinds 8 = .ok (.ifCond .ge 5, 3) := by decide +kernel
theorem dX9_kinds_11 : decode cX9_kinds 11 = .ok (.iload_n 3, 1) := by decide +kernel
theorem dX9_kinds_12 : decode cX9_kinds 12 = .ok (.ireturn, 1) := by decide +kernel
theorem dX9_kinds_13 : decode cX9_kinds 13 = .ok (.iconst 0, 1) := by decide +kernel
theorem dX9_kinds_14 : decode cX9_kinds 14 = .ok (.istore 4, 2) := by decide +kernel
theorem dX9_kinds_16 : decode cX9_kinds 16 = .ok (.iconst 0, 1) := by decide +kernel
theorem dX9_kinds_17 : decode cX9_kinds 17 = .ok (.istore 5, 2) := by decide +kernel
theorem dX9_kinds_19 : decode cX9_kinds 19 = .ok (.iload 5, 2) := by decide +kernel
theorem dX9_kinds_21 : decode cX9_kinds 21 = .ok (.bipush 6, 2) := by decide +kernel
theorem dX9_kinds_23 : decode cX9_kinds 23 = .ok (.if_icmp .ge 56, 3) := by decide +kernel
theorem dX9_kinds_26 : decode cX9_kinds 26 = .ok (.iload 4, 2) := by decide +kernel
theorem dX9_kinds_28 : decode cX9_kinds 28 = .ok (.aload_n 0, 1) := by decide +kernel
theorem dX9_kinds_29 : decode cX9_kinds 29 = .ok (.iload_n 2, 1) := by decide +kernel
theorem dX9_kinds_30 : decode cX9_kinds 30 = .ok (.iload 5, 2) := by decide +kernel
theorem dX9_kinds_32 : decode cX9_kinds 32 = .ok (.aload_n 0, 1) := by decide +kernel
theorem dX9_kinds_33 : decode cX9_kinds 33 = .ok (.getfield 7, 3) := by decide +kernel
theorem dX9_kinds_36 : decode cX9_kinds 36 = .ok (.bipush 8, 2) := by decide +kernel
theorem dX9_kinds_38 : decode cX9_kinds 38 = .ok (.iload_n 1, 1) := by decide +kernel
theorem dX9_kinds_39 : decode cX9_kinds 39 = .ok (.iadd, 1) := by decide +kernel
theorem dX9_kinds_40 : decode cX9_kinds 40 = .ok (.iaload, 1) := by decide +kernel
theorem dX9_kinds_41 : decode cX9_kinds 41 = .ok (.aload_n 0, 1) := by decide +kernel
theorem dX9_kinds_42 : decode cX9_kinds 42 = .ok (.getfield 7, 3) := by decide +kernel
theorem dX9_kinds_45 : decode cX9_kinds 45 = .ok (.bipush 14, 2) := by decide +kernel
theorem dX9_kinds_47 : decode cX9_kinds 47 = .ok (.iload_n 1, 1) := by decide +kernel
theorem dX9_kinds_48 : decode cX9_kinds 48 = .ok (.iadd, 1) := by decide +kernel
theorem dX9_kinds_49 : decode cX9_kinds 49 = .ok (.iaload, 1) := by decide +kernel
theorem dX9_kinds_50 : decode cX9_kinds 50 = .ok (.aload_n 0, 1) := by decide +kernel
theorem dX9_kinds_51 : decode cX9_kinds 51 = .ok (.getfield 7, 3) := by decide +kernel
theorem dX9_kinds_54 : decode cX9_kinds 54 = .ok (.iconst 1, 1) := by decide +kernel
theorem dX9_kinds_55 : decode cX9_kinds 55 = .ok (.iaload, 1) := by decide +kernel
theorem dX9_kinds_56 : decode cX9_kinds 56 = .ok (.invokevirtual 254, 3) := by decide +kernel
theorem dX9_kinds_59 : decode cX9_kinds 59 = .ok (.ifCond .eq 10, 3) := by decide +kernel
theorem dX9_kinds_62 : decode cX9_kinds 62 = .ok (.iconst 1, 1) := by decide +kernel
theorem dX9_kinds_63 : decode cX9_kinds 63 = .ok (.iload 5, 2) := by decide +kernel
theorem dX9_kinds_65 : decode cX9_kinds 65 = .ok (.ishl, 1) := by decide +kernel
theorem dX9_kinds_66 : decode cX9_kinds 66 = .ok (.goto 4, 3) := by decide +kernel
theorem dX9_kinds_69 : decode cX9_kinds 69 = .ok (.iconst 0, 1) := by decide +kernel
theorem dX9_kinds_70 : decode cX9_kinds 70 = .ok (.ior, 1) := by decide +kernel
theorem dX9_kinds_71 : decode cX9_kinds 71 = .ok (.istore 4, 2) := by decide +kernel
theorem dX9_kinds_73 : decode cX9_kinds 73 = .ok (.iinc 5 1, 3) := by decide +kernel
theorem dX9_kinds_76 : decode cX9_kinds 76 = .ok (.goto (-57), 3) := by decide +kernel
theorem dX9_kinds_79 : decode cX9_kinds 79 = .ok (.iload 4, 2) := by decide +kernel
theorem dX9_kinds_81 : decode cX9_kinds 81 = .ok (.ireturn, 1) := by decide +kernel
theorem dX9_damps_0 : decode cX9_damps 0 = .ok (.aload_n 0, 1) := by decide +kernel
theorem dX9_damps_1 : decode cX9_damps 1 = .ok (.iload_n 1, 1) := by decide +kernel
theorem dX9_damps_2 : decode cX9_damps 2 = .ok (.iload_n 2, 1) := by decide +kernel
theorem dX9_damps_3 : decode cX9_damps 3 = .ok (.invokevirtual 251, 3) := by decide +kernel
theorem dX9_damps_6 : decode cX9_damps 6 = .ok (.istore_n 3, 1) := by decide +kernel
theorem dX9_damps_7 : decode cX9_damps 7 = .ok (.iload_n 3, 1) := by decide +kernel
theorem dX9_damps_8 : decode cX9_damps 8 = .ok (.ifCond .ge 5, 3) := by decide +kernel
theorem dX9_damps_11 : decode cX9_damps 11 = .ok (.iload_n 3, 1) := by decide +kernel
theorem dX9_damps_12 : decode cX9_damps 12 = .ok (.ireturn, 1) := by decide +kernel
theorem dX9_damps_13 : decode cX9_damps 13 = .ok (.iconst 0, 1) := by decide +kernel
theorem dX9_damps_14 : decode cX9_damps 14 = .ok (.istore 4, 2) := by decide +kernel
theorem dX9_damps_16 : decode cX9_damps 16 = .ok (.iconst 0, 1) := by decide +kernel
theorem dX9_damps_17 : decode cX9_damps 17 = .ok (.istore 5, 2) := by decide +kernel
theorem dX9_damps_19 : decode cX9_damps 19 = .ok (.iload 5, 2) := by decide +kernel
theorem dX9_damps_21 : decode cX9_damps 21 = .ok (.iconst 4, 1) := by decide +kernel
theorem dX9_damps_22 : decode cX9_damps 22 = .ok (.if_icmp .ge 58, 3) := by decide +kernel
theorem dX9_damps_25 : decode cX9_damps 25 = .ok (.iload 4, 2) := by decide +kernel
theorem dX9_damps_27 : decode cX9_damps 27 = .ok (.aload_n 0, 1) := by decide +kernel
theorem dX9_damps_28 : decode cX9_damps 28 = .ok (.iload_n 2, 1) := by decide +kernel
theorem dX9_damps_29 : decode cX9_damps 29 = .ok (.aload_n 0, 1) := by decide +kernel
theorem dX9_damps_30 : decode cX9_damps 30 = .ok (.getfield 7, 3) := by decide +kernel
theorem dX9_damps_33 : decode cX9_damps 33 = .ok (.iconst 2, 1) := by decide +kernel
theorem dX9_damps_34 : decode cX9_damps 34 = .ok (.iload_n 1, 1) := by decide +kernel
theorem dX9_damps_35 : decode cX9_damps 35 = .ok (.iadd, 1) := by decide +kernel
theorem dX9_damps_36 : decode cX9_damps 36 = .ok (.iaload, 1) := by decide +kernel
theorem dX9_damps_37 : decode cX9_damps 37 = .ok (.aload_n 0, 1) := by decide +kernel
theorem dX9_damps_38 : decode cX9_damps 38 = .ok (.getfield 7, 3) := by decide +kernel
theorem dX9_damps_41 : decode cX9_damps 41 = .ok (.bipush 8, 2) := by decide +kernel
theorem dX9_damps_43 : decode cX9_damps 43 = .ok (.iload_n 1, 1) := by decide +kernel
theorem dX9_damps_44 : decode cX9_damps 44 = .ok (.iadd, 1) := by decide +kernel
theorem dX9_damps_45 : decode cX9_damps 45 = .ok (.iaload, 1) := by decide +kernel
theorem dX9_damps_46 : decode cX9_damps 46 = .ok (.aload_n 0, 1) := by decide +kernel
theorem dX9_damps_47 : decode cX9_damps 47 = .ok (.getfield 7, 3) := by decide +kernel
theorem dX9_damps_50 : decode cX9_damps 50 = .ok (.bipush 14, 2) := by decide +kernel
theorem dX9_damps_52 : decode cX9_damps 52 = .ok (.iload_n 1, 1) := by decide +kernel
theorem dX9_damps_53 : decode cX9_damps 53 = .ok (.iadd, 1) := by decide +kernel
theorem dX9_damps_54 : decode cX9_damps 54 = .ok (.iaload, 1) := by decide +kernel
theorem dX9_damps_55 : decode cX9_damps 55 = .ok (.iload 5, 2) := by decide +kernel
theorem dX9_damps_57 : decode cX9_damps 57 = .ok (.invokevirtual 254, 3) := by decide +kernel
theorem dX9_damps_60 : decode cX9_damps 60 = .ok (.ifCond .eq 10, 3) := by decide +kernel
theorem dX9_damps_63 : decode cX9_damps 63 = .ok (.iconst 1, 1) := by decide +kernel
theorem dX9_damps_64 : decode cX9_damps 64 = .ok (.iload 5, 2) := by decide +kernel
theorem dX9_damps_66 : decode cX9_damps 66 = .ok (.ishl, 1) := by decide +kernel
theorem dX9_damps_67 : decode cX9_damps 67 = .ok (.goto 4, 3) := by decide +kernel
theorem dX9_damps_70 : decode cX9_damps 70 = .ok (.iconst 0, 1) := by decide +kernel
theorem dX9_damps_71 : decode cX9_damps 71 = .ok (.ior, 1) := by decide +kernel
theorem dX9_damps_72 : decode cX9_damps 72 = .ok (.istore 4, 2) := by decide +kernel
theorem dX9_damps_74 : decode cX9_damps 74 = .ok (.iinc 5 1, 3) := by decide +kernel
theorem dX9_damps_77 : decode cX9_damps 77 = .ok (.goto (-58), 3) := by decide +kernel
theorem dX9_damps_80 : decode cX9_damps 80 = .ok (.iload 4, 2) := by decide +kernel
theorem dX9_damps_82 : decode cX9_damps 82 = .ok (.ireturn, 1) := by decide +kernel
theorem dX9_heights_0 : decode cX9_heights 0 = .ok (.aload_n 0, 1) := by decide +kernel
theorem dX9_heights_1 : decode cX9_heights 1 = .ok (.iload_n 1, 1) := by decide +kernel
theorem dX9_heights_2 : decode cX9_heights 2 = .ok (.iload_n 2, 1) := by decide +kernel
theorem dX9_heights_3 : decode cX9_heights 3 = .ok (.invokevirtual 251, 3) := by decide +kernel
theorem dX9_heights_6 : decode cX9_heights 6 = .ok (.istore_n 3, 1) := by decide +kernel
theorem dX9_heights_7 : decode cX9_heights 7 = .ok (.iload_n 3, 1) := by decide +kernel
theorem dX9_heights_8 : decode cX9_heights 8 = .ok (.ifCond .ge 5, 3) := by decide +kernel
theorem dX9_heights_11 : decode cX9_heights 11 = .ok (.iload_n 3, 1) := by decide +kernel
theorem dX9_heights_12 : decode cX9_heights 12 = .ok (.ireturn, 1) := by decide +kernel
theorem dX9_heights_13 : decode cX9_heights 13 = .ok (.iconst 0, 1) := by decide +kernel
theorem dX9_heights_14 : decode cX9_heights 14 = .ok (.istore 4, 2) := by decide +kernel
theorem dX9_heights_16 : decode cX9_heights 16 = .ok (.iconst 0, 1) := by decide +kernel
theorem dX9_heights_17 : decode cX9_heights 17 = .ok (.istore 5, 2) := by decide +kernel
theorem dX9_heights_19 : decode cX9_heights 19 = .ok (.iload 5, 2) := by decide +kernel
theorem dX9_heights_21 : decode cX9_heights 21 = .ok (.bipush 20, 2) := by decide +kernel
theorem dX9_heights_23 : decode cX9_heights 23 = .ok (.if_icmp .gt 55, 3) := by decide +kernel
theorem dX9_heights_26 : decode cX9_heights 26 = .ok (.iload 4, 2) := by decide +kernel
theorem dX9_heights_28 : decode cX9_heights 28 = .ok (.aload_n 0, 1) := by decide +kernel
theorem dX9_heights_29 : decode cX9_heights 29 = .ok (.iload_n 2, 1) := by decide +kernel
theorem dX9_heights_30 : decode cX9_heights 30 = .ok (.aload_n 0, 1) := by decide +kernel
theorem dX9_heights_31 : decode cX9_heights 31 = .ok (.getfield 7, 3) := by decide +kernel
theorem dX9_heights_34 : decode cX9_heights 34 = .ok (.iconst 2, 1) := by decide +kernel
theorem dX9_heights_35 : decode cX9_heights 35 = .ok (.iload_n 1, 1) := by decide +kernel
theorem dX9_heights_36 : decode cX9_heights 36 = .ok (.iadd, 1) := by decide +kernel
theorem dX9_heights_37 : decode cX9_heights 37 = .ok (.iaload, 1) := by decide +kernel
theorem dX9_heights_38 : decode cX9_heights 38 = .ok (.aload_n 0, 1) := by decide +kernel
theorem dX9_heights_39 : decode cX9_heights 39 = .ok (.getfield 7, 3) := by decide +kernel
theorem dX9_heights_42 : decode cX9_heights 42 = .ok (.bipush 8, 2) := by decide +kernel
theorem dX9_heights_44 : decode cX9_heights 44 = .ok (.iload_n 1, 1) := by decide +kernel
theorem dX9_heights_45 : decode cX9_heights 45 = .ok (.iadd, 1) := by decide +kernel
theorem dX9_heights_46 : decode cX9_heights 46 = .ok (.iaload, 1) := by decide +kernel
theorem dX9_heights_47 : decode cX9_heights 47 = .ok (.iload 5, 2) := by decide +kernel
theorem dX9_heights_49 : decode cX9_heights 49 = .ok (.aload_n 0, 1) := by decide +kernel
theorem dX9_heights_50 : decode cX9_heights 50 = .ok (.getfield 7, 3) := by decide +kernel
theorem dX9_heights_53 : decode cX9_heights 53 = .ok (.iconst 1, 1) := by decide +kernel
theorem dX9_heights_54 : decode cX9_heights 54 = .ok (.iaload, 1) := by decide +kernel
theorem dX9_heights_55 : decode cX9_heights 55 = .ok (.invokevirtual 254, 3) := by decide +kernel
theorem dX9_heights_58 : decode cX9_heights 58 = .ok (.ifCond .eq 10, 3) := by decide +kernel
theorem dX9_heights_61 : decode cX9_heights 61 = .ok (.iconst 1, 1) := by decide +kernel
theorem dX9_heights_62 : decode cX9_heights 62 = .ok (.iload 5, 2) := by decide +kernel
theorem dX9_heights_64 : decode cX9_heights 64 = .ok (.ishl, 1) := by decide +kernel
theorem dX9_heights_65 : decode cX9_heights 65 = .ok (.goto 4, 3) := by decide +kernel
theorem dX9_heights_68 : decode cX9_heights 68 = .ok (.iconst 0, 1) := by decide +kernel
theorem dX9_heights_69 : decode cX9_heights 69 = .ok (.ior, 1) := by decide +kernel
theorem dX9_heights_70 : decode cX9_heights 70 = .ok (.istore 4, 2) := by decide +kernel
theorem dX9_heights_72 : decode cX9_heights 72 = .ok (.iinc 5 1, 3) := by decide +kernel
theorem dX9_heights_75 : decode cX9_heights 75 = .ok (.goto (-56), 3) := by decide +kernel
theorem dX9_heights_78 : decode cX9_heights 78 = .ok (.iload 4, 2) := by decide +kernel
theorem dX9_heights_80 : decode cX9_heights 80 = .ok (.ireturn, 1) := by decide +kernel
theorem dX9_broke_0 : decode cX9_broke 0 = .ok (.aload_n 0, 1) := by decide +kernel
theorem dX9_broke_1 : decode cX9_broke 1 = .ok (.iload_n 1, 1) := by decide +kernel
theorem dX9_broke_2 : decode cX9_broke 2 = .ok (.invokevirtual 145, 3) := by decide +kernel
theorem dX9_broke_5 : decode cX9_broke 5 = .ok (.ifCond .eq 10, 3) := by decide +kernel
theorem dX9_broke_8 : decode cX9_broke 8 = .ok (.iload_n 2, 1) := by decide +kernel
theorem dX9_broke_9 : decode cX9_broke 9 = .ok (.invokestatic 89, 3) := by decide +kernel
theorem dX9_broke_12 : decode cX9_broke 12 = .ok (.ifCond .ne 5, 3) := by decide +kernel
theorem dX9_broke_15 : decode cX9_broke 15 = .ok (.iconst (-1), 1) := by decide +kernel
theorem dX9_broke_16 : decode cX9_broke 16 = .ok (.ireturn, 1) := by decide +kernel
theorem dX9_broke_17 : decode cX9_broke 17 = .ok (.aload_n 0, 1) := by decide +kernel
theorem dX9_broke_18 : decode cX9_broke 18 = .ok (.iload_n 1, 1) := by decide +kernel
theorem dX9_broke_19 : decode cX9_broke 19 = .ok (.invokevirtual 175, 3) := by decide +kernel
theorem dX9_broke_22 : decode cX9_broke 22 = .ok (.ifCond .eq 6, 3) := by decide +kernel
theorem dX9_broke_25 : decode cX9_broke 25 = .ok (.bipush (-4), 2) := by decide +kernel
theorem dX9_broke_27 : decode cX9_broke 27 = .ok (.ireturn, 1) := by decide +kernel
theorem dX9_broke_28 : decode cX9_broke 28 = .ok (.aload_n 0, 1) := by decide +kernel
theorem dX9_broke_29 : decode cX9_broke 29 = .ok (.getfield 19, 3) := by decide +kernel
theorem dX9_broke_32 : decode cX9_broke 32 = .ok (.iload_n 2, 1) := by decide +kernel
theorem dX9_broke_33 : decode cX9_broke 33 = .ok (.iaload, 1) := by decide +kernel
theorem dX9_broke_34 : decode cX9_broke 34 = .ok (.ifCond .ge 9, 3) := by decide +kernel
theorem dX9_broke_37 : decode cX9_broke 37 = .ok (.aload_n 0, 1) := by decide +kernel
theorem dX9_broke_38 : decode cX9_broke 38 = .ok (.iconst 1, 1) := by decide +kernel
theorem dX9_broke_39 : decode cX9_broke 39 = .ok (.invokevirtual 93, 3) := by decide +kernel
theorem dX9_broke_42 : decode cX9_broke 42 = .ok (.ireturn, 1) := by decide +kernel
theorem dX9_broke_43 : decode cX9_broke 43 = .ok (.iconst 0, 1) := by decide +kernel
theorem dX9_broke_44 : decode cX9_broke 44 = .ok (.istore_n 3, 1) := by decide +kernel
theorem dX9_broke_45 : decode cX9_broke 45 = .ok (.iload_n 3, 1) := by decide +kernel
theorem dX9_broke_46 : decode cX9_broke 46 = .ok (.aload_n 0, 1) := by decide +kernel
theorem dX9_broke_47 : decode cX9_broke 47 = .ok (.getfield 19, 3) := by decide +kernel
theorem dX9_broke_50 : decode cX9_broke 50 = .ok (.iload_n 2, 1) := by decide +kernel
theorem dX9_broke_51 : decode cX9_broke 51 = .ok (.iaload, 1) := by decide +kernel
theorem dX9_broke_52 : decode cX9_broke 52 = .ok (.if_icmp .ge 32, 3) := by decide +kernel
theorem dX9_broke_55 : decode cX9_broke 55 = .ok (.aload_n 0, 1) := by decide +kernel
theorem dX9_broke_56 : decode cX9_broke 56 = .ok (.getfield 16, 3) := by decide +kernel
theorem dX9_broke_59 : decode cX9_broke 59 = .ok (.bipush 40, 2) := by decide +kernel
theorem dX9_broke_61 : decode cX9_broke 61 = .ok (.iload_n 2, 1) := by decide +kernel
theorem dX9_broke_62 : decode cX9_broke 62 = .ok (.imul, 1) := by decide +kernel
theorem dX9_broke_63 : decode cX9_broke 63 = .ok (.iload_n 3, 1) := by decide +kernel
theorem dX9_broke_64 : decode cX9_broke 64 = .ok (.iadd, 1) := by decide +kernel
theorem dX9_broke_65 : decode cX9_broke 65 = .ok (.iaload, 1) := by decide +kernel
theorem dX9_broke_66 : decode cX9_broke 66 = .ok (.invokestatic 172, 3) := by decide +kernel
theorem dX9_broke_69 : decode cX9_broke 69 = .ok (.ifCond .ne 9, 3) := by decide +kernel
theorem dX9_broke_72 : decode cX9_broke 72 = .ok (.aload_n 0, 1) := by decide +kernel
theorem dX9_broke_73 : decode cX9_broke 73 = .ok (.iconst 3, 1) := by decide +kernel
theorem dX9_broke_74 : decode cX9_broke 74 = .ok (.invokevirtual 93, 3) := by decide +kernel
theorem dX9_broke_77 : decode cX9_broke 77 = .ok (.ireturn, 1) := by decide +kernel
theorem dX9_broke_78 : decode cX9_broke 78 = .ok (.iinc 3 1, 3) := by decide +kernel
theorem dX9_broke_81 : decode cX9_broke 81 = .ok (.goto (-36), 3) := by decide +kernel
theorem dX9_broke_84 : decode cX9_broke 84 = .ok (.aload_n 0, 1) := by decide +kernel
theorem dX9_broke_85 : decode cX9_broke 85 = .ok (.getfield 7, 3) := by decide +kernel
theorem dX9_broke_88 : decode cX9_broke 88 = .ok (.bipush 14, 2) := by decide +kernel
theorem dX9_broke_90 : decode cX9_broke 90 = .ok (.iload_n 1, 1) := by decide +kernel
theorem dX9_broke_91 : decode cX9_broke 91 = .ok (.iadd, 1) := by decide +kernel
theorem dX9_broke_92 : decode cX9_broke 92 = .ok (.iaload, 1) := by decide +kernel
theorem dX9_broke_93 : decode cX9_broke 93 = .ok (.istore_n 3, 1) := by decide +kernel
theorem dX9_broke_94 : decode cX9_broke 94 = .ok (.iconst 0, 1) := by decide +kernel
theorem dX9_broke_95 : decode cX9_broke 95 = .ok (.istore 4, 2) := by decide +kernel
theorem dX9_broke_97 : decode cX9_broke 97 = .ok (.iload 4, 2) := by decide +kernel
theorem dX9_broke_99 : decode cX9_broke 99 = .ok (.aload_n 0, 1) := by decide +kernel
theorem dX9_broke_100 : decode cX9_broke 100 = .ok (.getfield 19, 3) := by decide +kernel
theorem dX9_broke_103 : decode cX9_broke 103 = .ok (.iload_n 2, 1) := by decide +kernel
theorem dX9_broke_104 : decode cX9_broke 104 = .ok (.iaload, 1) := by decide +kernel
theorem dX9_broke_105 : decode cX9_broke 105 = .ok (.if_icmp .ge 50, 3) := by decide +kernel
theorem dX9_broke_108 : decode cX9_broke 108 = .ok (.aload_n 0, 1) := by decide +kernel
theorem dX9_broke_109 : decode cX9_broke 109 = .ok (.getfield 7, 3) := by decide +kernel
theorem dX9_broke_112 : decode cX9_broke 112 = .ok (.iconst 2, 1) := by decide +kernel
theorem dX9_broke_113 : decode cX9_broke 113 = .ok (.iload_n 1, 1) := by decide +kernel
theorem dX9_broke_114 : decode cX9_broke 114 = .ok (.iadd, 1) := by decide +kernel
theorem dX9_broke_115 : decode cX9_broke 115 = .ok (.iaload, 1) := by decide +kernel
theorem dX9_broke_116 : decode cX9_broke 116 = .ok (.iload_n 3, 1) := by decide +kernel
theorem dX9_broke_117 : decode cX9_broke 117 = .ok (.aload_n 0, 1) := by decide +kernel
theorem dX9_broke_118 : decode cX9_broke 118 = .ok (.getfield 16, 3) := by decide +kernel
theorem dX9_broke_121 : decode cX9_broke 121 = .ok (.bipush 40, 2) := by decide +kernel
theorem dX9_broke_123 : decode cX9_broke 123 = .ok (.iload_n 2, 1) := by decide +kernel
theorem dX9_broke_124 : decode cX9_broke 124 = .ok (.imul, 1) := by decide +kernel
theorem dX9_broke_125 : decode cX9_broke 125 = .ok (.iload 4, 2) := by decide +kernel
theorem dX9_broke_127 : decode cX9_broke 127 = .ok (.iadd, 1) := by decide +kernel
theorem dX9_broke_128 : decode cX9_broke 128 = .ok (.iaload, 1) := by decide +kernel
theorem dX9_broke_129 : decode cX9_broke 129 = .ok (.invokestatic 157, 3) := by decide +kernel
theorem dX9_broke_132 : decode cX9_broke 132 = .ok (.istore_n 3, 1) := by decide +kernel
theorem dX9_broke_133 : decode cX9_broke 133 = .ok (.iload_n 3, 1) := by decide +kernel
theorem dX9_broke_134 : decode cX9_broke 134 = .ok (.iconst (-1), 1) := by decide +kernel
theorem dX9_broke_135 : decode cX9_broke 135 = .ok (.if_icmp .ne 14, 3) := by decide +kernel
theorem dX9_broke_138 : decode cX9_broke 138 = .ok (.aload_n 0, 1) := by decide +kernel
theorem dX9_broke_139 : decode cX9_broke 139 = .ok (.iload 4, 2) := by decide +kernel
theorem dX9_broke_141 : decode cX9_broke 141 = .ok (.iconst 2, 1) := by decide +kernel
theorem dX9_broke_142 : decode cX9_broke 142 = .ok (.irem, 1) := by decide +kernel
theorem dX9_broke_143 : decode cX9_broke 143 = .ok (.iload 4, 2) := by decide +kernel
theorem dX9_broke_145 : decode cX9_broke 145 = .ok (.invokevirtual 105, 3) := by decide +kernel
theorem dX9_broke_148 : decode cX9_broke 148 = .ok (.ireturn, 1) := by decide +kernel
theorem dX9_broke_149 : decode cX9_broke 149 = .ok (.iinc 4 1, 3) := by decide +kernel
theorem dX9_broke_152 : decode cX9_broke 152 = .ok (.goto (-55), 3) := by decide +kernel
theorem dX9_broke_155 : decode cX9_broke 155 = .ok (.bipush (-9), 2) := by decide +kernel
theorem dX9_broke_157 : decode cX9_broke 157 = .ok (.ireturn, 1) := by decide +kernel
theorem dX9_laySlips_0 : decode cX9_laySlips 0 = .ok (.lconst 1, 1) := by decide +kernel
theorem dX9_laySlips_1 : decode cX9_laySlips 1 = .ok (.lstore 5, 2) := by decide +kernel
theorem dX9_laySlips_3 : decode cX9_laySlips 3 = .ok (.iconst 0, 1) := by decide +kernel
theorem dX9_laySlips_4 : decode cX9_laySlips 4 = .ok (.istore 7, 2) := by decide +kernel
theorem dX9_laySlips_6 : decode cX9_laySlips 6 = .ok (.iload 7, 2) := by decide +kernel
theorem dX9_laySlips_8 : decode cX9_laySlips 8 = .ok (.bipush 20, 2) := by decide +kernel
theorem dX9_laySlips_10 : decode cX9_laySlips 10 = .ok (.if_icmp .gt 35, 3) := by decide +kernel
theorem dX9_laySlips_13 : decode cX9_laySlips 13 = .ok (.aload_n 0, 1) := by decide +kernel
theorem dX9_laySlips_14 : decode cX9_laySlips 14 = .ok (.getfield 68, 3) := by decide +kernel
theorem dX9_laySlips_17 : decode cX9_laySlips 17 = .ok (.iload 7, 2) := by decide +kernel
theorem dX9_laySlips_19 : decode cX9_laySlips 19 = .ok (.iload 7, 2) := by decide +kernel
theorem dX9_laySlips_21 : decode cX9_laySlips 21 = .ok (.aload_n 0, 1) := by decide +kernel
theorem dX9_laySlips_22 : decode cX9_laySlips 22 = .ok (.getfield 7, 3) := by decide +kernel
theorem dX9_laySlips_25 : decode cX9_laySlips 25 = .ok (.bipush 14, 2) := by decide +kernel
theorem dX9_laySlips_27 : decode cX9_laySlips 27 = .ok (.iload_n 1, 1) := by decide +kernel
theorem dX9_laySlips_28 : decode cX9_laySlips 28 = .ok (.iadd, 1) := by decide +kernel
theorem dX9_laySlips_29 : decode cX9_laySlips 29 = .ok (.iaload, 1) := by decide +kernel
theorem dX9_laySlips_30 : decode cX9_laySlips 30 = .ok (.if_icmp .ne 7, 3) := by decide +kernel
theorem dX9_laySlips_33 : decode cX9_laySlips 33 = .ok (.lconst 1, 1) := by decide +kernel
theorem dX9_laySlips_34 : decode cX9_laySlips 34 = .ok (.goto 4, 3) := by decide +kernel
theorem dX9_laySlips_37 : decode cX9_laySlips 37 = .ok (.lconst 0, 1) := by decide +kernel
theorem dX9_laySlips_38 : decode cX9_laySlips 38 = .ok (.lastore, 1) := by decide +kernel
theorem dX9_laySlips_39 : decode cX9_laySlips 39 = .ok (.iinc 7 1, 3) := by decide +kernel
theorem dX9_laySlips_42 : decode cX9_laySlips 42 = .ok (.goto (-36), 3) := by decide +kernel
theorem dX9_laySlips_45 : decode cX9_laySlips 45 = .ok (.iconst 0, 1) := by decide +kernel
theorem dX9_laySlips_46 : decode cX9_laySlips 46 = .ok (.istore 7, 2) := by decide +kernel
theorem dX9_laySlips_48 : decode cX9_laySlips 48 = .ok (.iload 7, 2) := by decide +kernel
theorem dX9_laySlips_50 : decode cX9_laySlips 50 = .ok (.iload_n 3, 1) := by decide +kernel
theorem dX9_laySlips_51 : decode cX9_laySlips 51 = .ok (.if_icmp .ge 206, 3) := by decide +kernel
theorem dX9_laySlips_54 : decode cX9_laySlips 54 = .ok (.lload 5, 2) := by decide +kernel
theorem dX9_laySlips_56 : decode cX9_laySlips 56 = .ok (.ldc2_w 212, 3) := by decide +kernel
theorem dX9_laySlips_59 : decode cX9_laySlips 59 = .ok (.lmul, 1) := by decide +kernel
theorem dX9_laySlips_60 : decode cX9_laySlips 60 = .ok (.lstore 5, 2) := by decide +kernel
theorem dX9_laySlips_62 : decode cX9_laySlips 62 = .ok (.iconst 0, 1) := by decide +kernel
theorem dX9_laySlips_63 : decode cX9_laySlips 63 = .ok (.istore 8, 2) := by decide +kernel
theorem dX9_laySlips_65 : decode cX9_laySlips 65 = .ok (.iload 8, 2) := by decide +kernel
theorem dX9_laySlips_67 : decode cX9_laySlips 67 = .ok (.bipush 20, 2) := by decide +kernel
theorem dX9_laySlips_69 : decode cX9_laySlips 69 = .ok (.if_icmp .gt 17, 3) := by decide +kernel
theorem dX9_laySlips_72 : decode cX9_laySlips 72 = .ok (.aload_n 0, 1) := by decide +kernel
theorem dX9_laySlips_73 : decode cX9_laySlips 73 = .ok (.getfield 71, 3) := by decide +kernel
theorem dX9_laySlips_76 : decode cX9_laySlips 76 = .ok (.iload 8, 2) := by decide +kernel
theorem dX9_laySlips_78 : decode cX9_laySlips 78 = .ok (.lconst 0, 1) := by decide +kernel
theorem dX9_laySlips_79 : decode cX9_laySlips 79 = .ok (.lastore, 1) := by decide +kernel
theorem dX9_laySlips_80 : decode cX9_laySlips 80 = .ok (.iinc 8 1, 3) := by decide +kernel
theorem dX9_laySlips_83 : decode cX9_laySlips 83 = .ok (.goto (-18), 3) := by decide +kernel
theorem dX9_laySlips_86 : decode cX9_laySlips 86 = .ok (.iconst 0, 1) := by decide +kernel
theorem dX9_laySlips_87 : decode cX9_laySlips 87 = .ok (.istore 8, 2) := by decide +kernel
theorem dX9_laySlips_89 : decode cX9_laySlips 89 = .ok (.iload 8, 2) := by decide +kernel
theorem dX9_laySlips_91 : decode cX9_laySlips 91 = .ok (.bipush 20, 2) := by decide +kernel
theorem dX9_laySlips_93 : decode cX9_laySlips 93 = .ok (.if_icmp .gt 128, 3) := by decide +kernel
theorem dX9_laySlips_96 : decode cX9_laySlips 96 = .ok (.aload_n 0, 1) := by decide +kernel
theorem dX9_laySlips_97 : decode cX9_laySlips 97 = .ok (.getfield 7, 3) := by decide +kernel
theorem dX9_laySlips_100 : decode cX9_laySlips 100 = .ok (.iconst 2, 1) := by decide +kernel
theorem dX9_laySlips_101 : decode cX9_laySlips 101 = .ok (.iload_n 1, 1) := by decide +kernel
theorem dX9_laySlips_102 : decode cX9_laySlips 102 = .ok (.iadd, 1) := by decide +kernel
theorem dX9_laySlips_103 : decode cX9_laySlips 103 = .ok (.iaload, 1) := by decide +kernel
theorem dX9_laySlips_104 : decode cX9_laySlips 104 = .ok (.iload 8, 2) := by decide +kernel
theorem dX9_laySlips_106 : decode cX9_laySlips 106 = .ok (.iload_n 2, 1) := by decide +kernel
theorem dX9_laySlips_107 : decode cX9_laySlips 107 = .ok (.invokestatic 157, 3) := by decide +kernel
theorem dX9_laySlips_110 : decode cX9_laySlips 110 = .ok (.istore 9, 2) := by decide +kernel
theorem dX9_laySlips_112 : decode cX9_laySlips 112 = .ok (.aload_n 0, 1) := by decide +kernel
theorem dX9_laySlips_113 : decode cX9_laySlips 113 = .ok (.getfield 7, 3) := by decide +kernel
theorem dX9_laySlips_116 : decode cX9_laySlips 116 = .ok (.iconst 2, 1) := by decide +kernel
theorem dX9_laySlips_117 : decode cX9_laySlips 117 = .ok (.iload_n 1, 1) := by decide +kernel
theorem dX9_laySlips_118 : decode cX9_laySlips 118 = .ok (.iadd, 1) := by decide +kernel
theorem dX9_laySlips_119 : decode cX9_laySlips 119 = .ok (.iaload, 1) := by decide +kernel
theorem dX9_laySlips_120 : decode cX9_laySlips 120 = .ok (.iload 8, 2) := by decide +kernel
theorem dX9_laySlips_122 : decode cX9_laySlips 122 = .ok (.iload_n 2, 1) := by decide +kernel
theorem dX9_laySlips_123 : decode cX9_laySlips 123 = .ok (.iconst 1, 1) := by decide +kernel
theorem dX9_laySlips_124 : decode cX9_laySlips 124 = .ok (.iadd, 1) := by decide +kernel
theorem dX9_laySlips_125 : decode cX9_laySlips 125 = .ok (.invokestatic 157, 3) := by decide +kernel
theorem dX9_laySlips_128 : decode cX9_laySlips 128 = .ok (.istore 10, 2) := by decide +kernel
theorem dX9_laySlips_130 : decode cX9_laySlips 130 = .ok (.aload_n 0, 1) := by decide +kernel
theorem dX9_laySlips_131 : decode cX9_laySlips 131 = .ok (.getfield 71, 3) := by decide +kernel
theorem dX9_laySlips_134 : decode cX9_laySlips 134 = .ok (.iload 9, 2) := by decide +kernel
theorem dX9_laySlips_136 : decode cX9_laySlips 136 = .ok (.iconst (-1), 1) := by decide +kernel
theorem dX9_laySlips_137 : decode cX9_laySlips 137 = .ok (.if_icmp .ne 7, 3) := by decide +kernel
theorem dX9_laySlips_140 : decode cX9_laySlips 140 = .ok (.iconst 0, 1) := by decide +kernel
theorem dX9_laySlips_141 : decode cX9_laySlips 141 = .ok (.goto 5, 3) := by decide +kernel
theorem dX9_laySlips_144 : decode cX9_laySlips 144 = .ok (.iload 9, 2) := by decide +kernel
theorem dX9_laySlips_146 : decode cX9_laySlips 146 = .ok (.dup2, 1) := by decide +kernel
theorem dX9_laySlips_147 : decode cX9_laySlips 147 = .ok (.laload, 1) := by decide +kernel
theorem dX9_laySlips_148 : decode cX9_laySlips 148 = .ok (.iload 9, 2) := by decide +kernel
theorem dX9_laySlips_150 : decode cX9_laySlips 150 = .ok (.iconst (-1), 1) := by decide +kernel
theorem dX9_laySlips_151 : decode cX9_laySlips 151 = .ok (.if_icmp .ne 7, 3) := by decide +kernel
theorem dX9_laySlips_154 : decode cX9_laySlips 154 = .ok (.lconst 0, 1) := by decide +kernel
theorem dX9_laySlips_155 : decode cX9_laySlips 155 = .ok (.goto 17, 3) := by decide +kernel
theorem dX9_laySlips_158 : decode cX9_laySlips 158 = .ok (.aload_n 0, 1) := by decide +kernel
theorem dX9_laySlips_159 : decode cX9_laySlips 159 = .ok (.getfield 68, 3) := by decide +kernel
theorem dX9_laySlips_162 : decode cX9_laySlips 162 = .ok (.iload 8, 2) := by decide +kernel
theorem dX9_laySlips_164 : decode cX9_laySlips 164 = .ok (.laload, 1) := by decide +kernel
theorem dX9_laySlips_165 : decode cX9_laySlips 165 = .ok (.bipush 12, 2) := by decide +kernel
theorem dX9_laySlips_167 : decode cX9_laySlips 167 = .ok (.iload 4, 2) := by decide +kernel
theorem dX9_laySlips_169 : decode cX9_laySlips 169 = .ok (.isub, 1) := by decide +kernel
theorem dX9_laySlips_170 : decode cX9_laySlips 170 = .ok (.i2l, 1) := by decide +kernel
theorem dX9_laySlips_171 : decode cX9_laySlips 171 = .ok (.lmul, 1) := by decide +kernel
theorem dX9_laySlips_172 : decode cX9_laySlips 172 = .ok (.ladd, 1) := by decide +kernel
theorem dX9_laySlips_173 : decode cX9_laySlips 173 = .ok (.lastore, 1) := by decide +kernel
theorem dX9_laySlips_174 : decode cX9_laySlips 174 = .ok (.aload_n 0, 1) := by decide +kernel
theorem dX9_laySlips_175 : decode cX9_laySlips 175 = .ok (.getfield 71, 3) := by decide +kernel
theorem dX9_laySlips_178 : decode cX9_laySlips 178 = .ok (.iload 10, 2) := by decide +kernel
theorem dX9_laySlips_180 : decode cX9_laySlips 180 = .ok (.iconst (-1), 1) := by decide +kernel
theorem dX9_laySlips_181 : decode cX9_laySlips 181 = .ok (.if_icmp .ne 7, 3) := by decide +kernel
theorem dX9_laySlips_184 : decode cX9_laySlips 184 = .ok (.iconst 0, 1) := by decide +kernel
theorem dX9_laySlips_185 : decode cX9_laySlips 185 = .ok (.goto 5, 3) := by decide +kernel
theorem dX9_laySlips_188 : decode cX9_laySlips 188 = .ok (.iload 10, 2) := by decide +kernel
theorem dX9_laySlips_190 : decode cX9_laySlips 190 = .ok (.dup2, 1) := by decide +kernel
theorem dX9_laySlips_191 : decode cX9_laySlips 191 = .ok (.laload, 1) := by decide +kernel
theorem dX9_laySlips_192 : decode cX9_laySlips 192 = .ok (.iload 10, 2) := by decide +kernel
theorem dX9_laySlips_194 : decode cX9_laySlips 194 = .ok (.iconst (-1), 1) := by decide +kernel
theorem dX9_laySlips_195 : decode cX9_laySlips 195 = .ok (.if_icmp .ne 7, 3) := by decide +kernel
theorem dX9_laySlips_198 : decode cX9_laySlips 198 = .ok (.lconst 0, 1) := by decide +kernel
theorem dX9_laySlips_199 : decode cX9_laySlips 199 = .ok (.goto 14, 3) := by decide +kernel
theorem dX9_laySlips_202 : decode cX9_laySlips 202 = .ok (.aload_n 0, 1) := by decide +kernel
theorem dX9_laySlips_203 : decode cX9_laySlips 203 = .ok (.getfield 68, 3) := by decide +kernel
theorem dX9_laySlips_206 : decode cX9_laySlips 206 = .ok (.iload 8, 2) := by decide +kernel
theorem dX9_laySlips_208 : decode cX9_laySlips 208 = .ok (.laload, 1) := by decide +kernel
theorem dX9_laySlips_209 : decode cX9_laySlips 209 = .ok (.iload 4, 2) := by decide +kernel
theorem dX9_laySlips_211 : decode cX9_laySlips 211 = .ok (.i2l, 1) := by decide +kernel
theorem dX9_laySlips_212 : decode cX9_laySlips 212 = .ok (.lmul, 1) := by decide +kernel
theorem dX9_laySlips_213 : decode cX9_laySlips 213 = .ok (.ladd, 1) := by decide +kernel
theorem dX9_laySlips_214 : decode cX9_laySlips 214 = .ok (.lastore, 1) := by decide +kernel
theorem dX9_laySlips_215 : decode cX9_laySlips 215 = .ok (.iinc 8 1, 3) := by decide +kernel
theorem dX9_laySlips_218 : decode cX9_laySlips 218 = .ok (.goto (-129), 3) := by decide +kernel
theorem dX9_laySlips_221 : decode cX9_laySlips 221 = .ok (.iconst 0, 1) := by decide +kernel
theorem dX9_laySlips_222 : decode cX9_laySlips 222 = .ok (.istore 8, 2) := by decide +kernel
theorem dX9_laySlips_224 : decode cX9_laySlips 224 = .ok (.iload 8, 2) := by decide +kernel
theorem dX9_laySlips_226 : decode cX9_laySlips 226 = .ok (.bipush 20, 2) := by decide +kernel
theorem dX9_laySlips_228 : decode cX9_laySlips 228 = .ok (.if_icmp .gt 23, 3) := by decide +kernel
theorem dX9_laySlips_231 : decode cX9_laySlips 231 = .ok (.aload_n 0, 1) := by decide +kernel
theorem dX9_laySlips_232 : decode cX9_laySlips 232 = .ok (.getfield 68, 3) := by decide +kernel
theorem dX9_laySlips_235 : decode cX9_laySlips 235 = .ok (.iload 8, 2) := by decide +kernel
theorem dX9_laySlips_237 : decode cX9_laySlips 237 = .ok (.aload_n 0, 1) := by decide +kernel
theorem dX9_laySlips_238 : decode cX9_laySlips 238 = .ok (.getfield 71, 3) := by decide +kernel
theorem dX9_laySlips_241 : decode cX9_laySlips 241 = .ok (.iload 8, 2) := by decide +kernel
theorem dX9_laySlips_243 : decode cX9_laySlips 243 = .ok (.laload, 1) := by decide +kernel
theorem dX9_laySlips_244 : decode cX9_laySlips 244 = .ok (.lastore, 1) := by decide +kernel
theorem dX9_laySlips_245 : decode cX9_laySlips 245 = .ok (.iinc 8 1, 3) := by decide +kernel
theorem dX9_laySlips_248 : decode cX9_laySlips 248 = .ok (.goto (-24), 3) := by decide +kernel
theorem dX9_laySlips_251 : decode cX9_laySlips 251 = .ok (.iinc 7 1, 3) := by decide +kernel
theorem dX9_laySlips_254 : decode cX9_laySlips 254 = .ok (.goto (-206), 3) := by decide +kernel
theorem dX9_laySlips_257 : decode cX9_laySlips 257 = .ok (.lload 5, 2) := by decide +kernel
theorem dX9_laySlips_259 : decode cX9_laySlips 259 = .ok (.lreturn, 1) := by decide +kernel
theorem dX9_chance_0 : decode cX9_chance 0 = .ok (.lload_n 1, 1) := by decide +kernel
theorem dX9_chance_1 : decode cX9_chance 1 = .ok (.lstore 5, 2) := by decide +kernel
theorem dX9_chance_3 : decode cX9_chance 3 = .ok (.lload_n 3, 1) := by decide +kernel
theorem dX9_chance_4 : decode cX9_chance 4 = .ok (.lstore 7, 2) := by decide +kernel
theorem dX9_chance_6 : decode cX9_chance 6 = .ok (.lload 7, 2) := by decide +kernel
theorem dX9_chance_8 : decode cX9_chance 8 = .ok (.lconst 0, 1) := by decide +kernel
theorem dX9_chance_9 : decode cX9_chance 9 = .ok (.lcmp, 1) := by decide +kernel
theorem dX9_chance_10 : decode cX9_chance 10 = .ok (.ifCond .eq 21, 3) := by decide +kernel
theorem dX9_chance_13 : decode cX9_chance 13 = .ok (.lload 5, 2) := by decide +kernel
theorem dX9_chance_15 : decode cX9_chance 15 = .ok (.lload 7, 2) := by decide +kernel
theorem dX9_chance_17 : decode cX9_chance 17 = .ok (.lrem, 1) := by decide +kernel
theorem dX9_chance_18 : decode cX9_chance 18 = .ok (.lstore 9, 2) := by decide +kernel
theorem dX9_chance_20 : decode cX9_chance 20 = .ok (.lload 7, 2) := by decide +kernel
theorem dX9_chance_22 : decode cX9_chance 22 = .ok (.lstore 5, 2) := by decide +kernel
theorem dX9_chance_24 : decode cX9_chance 24 = .ok (.lload 9, 2) := by decide +kernel
theorem dX9_chance_26 : decode cX9_chance 26 = .ok (.lstore 7, 2) := by decide +kernel
theorem dX9_chance_28 : decode cX9_chance 28 = .ok (.goto (-22), 3) := by decide +kernel
theorem dX9_chance_31 : decode cX9_chance 31 = .ok (.aload_n 0, 1) := by decide +kernel
theorem dX9_chance_32 : decode cX9_chance 32 = .ok (.lload_n 1, 1) := by decide +kernel
theorem dX9_chance_33 : decode cX9_chance 33 = .ok (.lload 5, 2) := by decide +kernel
theorem dX9_chance_35 : decode cX9_chance 35 = .ok (.ldiv, 1) := by decide +kernel
theorem dX9_chance_36 : decode cX9_chance 36 = .ok (.putfield 214, 3) := by decide +kernel
theorem dX9_chance_39 : decode cX9_chance 39 = .ok (.aload_n 0, 1) := by decide +kernel
theorem dX9_chance_40 : decode cX9_chance 40 = .ok (.lload_n 3, 1) := by decide +kernel
theorem dX9_chance_41 : decode cX9_chance 41 = .ok (.lload 5, 2) := by decide +kernel
theorem dX9_chance_43 : decode cX9_chance 43 = .ok (.ldiv, 1) := by decide +kernel
theorem dX9_chance_44 : decode cX9_chance 44 = .ok (.putfield 34, 3) := by decide +kernel
theorem dX9_chance_47 : decode cX9_chance 47 = .ok (.iconst 1, 1) := by decide +kernel
theorem dX9_chance_48 : decode cX9_chance 48 = .ok (.ireturn, 1) := by decide +kernel
theorem dX9_againstSlips_0 : decode cX9_againstSlips 0 = .ok (.aload_n 0, 1) := by decide +kernel
theorem dX9_againstSlips_1 : decode cX9_againstSlips 1 = .ok (.iload_n 1, 1) := by decide +kernel
theorem dX9_againstSlips_2 : decode cX9_againstSlips 2 = .ok (.invokevirtual 145, 3) := by decide +kernel
theorem dX9_againstSlips_5 : decode cX9_againstSlips 5 = .ok (.ifCond .eq 35, 3) := by decide +kernel
theorem dX9_againstSlips_8 : decode cX9_againstSlips 8 = .ok (.iload_n 2, 1) := by decide +kernel
theorem dX9_againstSlips_9 : decode cX9_againstSlips 9 = .ok (.invokestatic 172, 3) := by decide +kernel
theorem dX9_againstSlips_12 : decode cX9_againstSlips 12 = .ok (.ifCond .eq 28, 3) := by decide +kernel
theorem dX9_againstSlips_15 : decode cX9_againstSlips 15 = .ok (.iload_n 3, 1) := by decide +kernel
theorem dX9_againstSlips_16 : decode cX9_againstSlips 16 = .ok (.i2l, 1) := by decide +kernel
theorem dX9_againstSlips_17 : decode cX9_againstSlips 17 = .ok (.lconst 0, 1) := by decide +kernel
theorem dX9_againstSlips_18 : decode cX9_againstSlips 18 = .ok (.ldc2_w 258, 3) := by decide +kernel
theorem dX9_againstSlips_21 : decode cX9_againstSlips 21 = .ok (.invokestatic 83, 3) := by decide +kernel
theorem dX9_againstSlips_24 : decode cX9_againstSlips 24 = .ok (.ifCond .eq 16, 3) := by decide +kernel
theorem dX9_againstSlips_27 : decode cX9_againstSlips 27 = .ok (.iload 4, 2) := by decide +kernel
theorem dX9_againstSlips_29 : decode cX9_againstSlips 29 = .ok (.i2l, 1) := by decide +kernel
theorem dX9_againstSlips_30 : decode cX9_againstSlips 30 = .ok (.lconst 0, 1) := by decide +kernel
theorem dX9_againstSlips_31 : decode cX9_againstSlips 31 = .ok (.ldc2_w 212, 3) := by decide +kernel
theorem dX9_againstSlips_34 : decode cX9_againstSlips 34 = .ok (.invokestatic 83, 3) := by decide +kernel
theorem dX9_againstSlips_37 : decode cX9_againstSlips 37 = .ok (.ifCond .ne 5, 3) := by decide +kernel
theorem dX9_againstSlips_40 : decode cX9_againstSlips 40 = .ok (.iconst (-1), 1) := by decide +kernel
theorem dX9_againstSlips_41 : decode cX9_againstSlips 41 = .ok (.ireturn, 1) := by decide +kernel
theorem dX9_againstSlips_42 : decode cX9_againstSlips 42 = .ok (.aload_n 0, 1) := by decide +kernel
theorem dX9_againstSlips_43 : decode cX9_againstSlips 43 = .ok (.iload_n 1, 1) := by decide +kernel
theorem dX9_againstSlips_44 : decode cX9_againstSlips 44 = .ok (.invokevirtual 175, 3) := by decide +kernel
theorem dX9_againstSlips_47 : decode cX9_againstSlips 47 = .ok (.ifCond .eq 8, 3) := by decide +kernel
theorem dX9_againstSlips_50 : decode cX9_againstSlips 50 = .ok (.bipush (-4), 2) := by decide +kernel
theorem dX9_againstSlips_52 : decode cX9_againstSlips 52 = .ok (.goto 4, 3) := by decide +kernel
theorem dX9_againstSlips_55 : decode cX9_againstSlips 55 = .ok (.iconst 0, 1) := by decide +kernel
theorem dX9_againstSlips_56 : decode cX9_againstSlips 56 = .ok (.ireturn, 1) := by decide +kernel
theorem dX9_odds_0 : decode cX9_odds 0 = .ok (.aload_n 0, 1) := by decide +kernel
theorem dX9_odds_1 : decode cX9_odds 1 = .ok (.iload_n 1, 1) := by decide +kernel
theorem dX9_odds_2 : decode cX9_odds 2 = .ok (.iload_n 2, 1) := by decide +kernel
theorem dX9_odds_3 : decode cX9_odds 3 = .ok (.iload_n 3, 1) := by decide +kernel
theorem dX9_odds_4 : decode cX9_odds 4 = .ok (.iload 4, 2) := by decide +kernel
theorem dX9_odds_6 : decode cX9_odds 6 = .ok (.invokevirtual 260, 3) := by decide +kernel
theorem dX9_odds_9 : decode cX9_odds 9 = .ok (.istore 5, 2) := by decide +kernel
theorem dX9_odds_11 : decode cX9_odds 11 = .ok (.iload 5, 2) := by decide +kernel
theorem dX9_odds_13 : decode cX9_odds 13 = .ok (.ifCond .ge 6, 3) := by decide +kernel
theorem dX9_odds_16 : decode cX9_odds 16 = .ok (.iload 5, 2) := by decide +kernel
theorem dX9_odds_18 : decode cX9_odds 18 = .ok (.ireturn, 1) := by decide +kernel
theorem dX9_odds_19 : decode cX9_odds 19 = .ok (.aload_n 0, 1) := by decide +kernel
theorem dX9_odds_20 : decode cX9_odds 20 = .ok (.iload_n 1, 1) := by decide +kernel
theorem dX9_odds_21 : decode cX9_odds 21 = .ok (.iload_n 2, 1) := by decide +kernel
theorem dX9_odds_22 : decode cX9_odds 22 = .ok (.iload_n 3, 1) := by decide +kernel
theorem dX9_odds_23 : decode cX9_odds 23 = .ok (.iload 4, 2) := by decide +kernel
theorem dX9_odds_25 : decode cX9_odds 25 = .ok (.invokevirtual 263, 3) := by decide +kernel
theorem dX9_odds_28 : decode cX9_odds 28 = .ok (.lstore 6, 2) := by decide +kernel
theorem dX9_odds_30 : decode cX9_odds 30 = .ok (.lconst 0, 1) := by decide +kernel
theorem dX9_odds_31 : decode cX9_odds 31 = .ok (.lstore 8, 2) := by decide +kernel
theorem dX9_odds_33 : decode cX9_odds 33 = .ok (.iconst 0, 1) := by decide +kernel
theorem dX9_odds_34 : decode cX9_odds 34 = .ok (.istore 10, 2) := by decide +kernel
theorem dX9_odds_36 : decode cX9_odds 36 = .ok (.iload 10, 2) := by decide +kernel
theorem dX9_odds_38 : decode cX9_odds 38 = .ok (.bipush 20, 2) := by decide +kernel
theorem dX9_odds_40 : decode cX9_odds 40 = .ok (.if_icmp .gt 21, 3) := by decide +kernel
theorem dX9_odds_43 : decode cX9_odds 43 = .ok (.lload 8, 2) := by decide +kernel
theorem dX9_odds_45 : decode cX9_odds 45 = .ok (.aload_n 0, 1) := by decide +kernel
theorem dX9_odds_46 : decode cX9_odds 46 = .ok (.getfield 68, 3) := by decide +kernel
theorem dX9_odds_49 : decode cX9_odds 49 = .ok (.iload 10, 2) := by decide +kernel
theorem dX9_odds_51 : decode cX9_odds 51 = .ok (.laload, 1) := by decide +kernel
theorem dX9_odds_52 : decode cX9_odds 52 = .ok (.ladd, 1) := by decide +kernel
theorem dX9_odds_53 : decode cX9_odds 53 = .ok (.lstore 8, 2) := by decide +kernel
theorem dX9_odds_55 : decode cX9_odds 55 = .ok (.iinc 10 1, 3) := by decide +kernel
theorem dX9_odds_58 : decode cX9_odds 58 = .ok (.goto (-22), 3) := by decide +kernel
theorem dX9_odds_61 : decode cX9_odds 61 = .ok (.aload_n 0, 1) := by decide +kernel
theorem dX9_odds_62 : decode cX9_odds 62 = .ok (.lload 8, 2) := by decide +kernel
theorem dX9_odds_64 : decode cX9_odds 64 = .ok (.lload 6, 2) := by decide +kernel
theorem dX9_odds_66 : decode cX9_odds 66 = .ok (.invokevirtual 267, 3) := by decide +kernel
theorem dX9_odds_69 : decode cX9_odds 69 = .ok (.ireturn, 1) := by decide +kernel
theorem dX9_mid_0 : decode cX9_mid 0 = .ok (.aload_n 0, 1) := by decide +kernel
theorem dX9_mid_1 : decode cX9_mid 1 = .ok (.iload_n 1, 1) := by decide +kernel
theorem dX9_mid_2 : decode cX9_mid 2 = .ok (.iload_n 2, 1) := by decide +kernel
theorem dX9_mid_3 : decode cX9_mid 3 = .ok (.iload_n 3, 1) := by decide +kernel
theorem dX9_mid_4 : decode cX9_mid 4 = .ok (.iload 4, 2) := by decide +kernel
theorem dX9_mid_6 : decode cX9_mid 6 = .ok (.invokevirtual 260, 3) := by decide +kernel
theorem dX9_mid_9 : decode cX9_mid 9 = .ok (.istore 5, 2) := by decide +kernel
theorem dX9_mid_11 : decode cX9_mid 11 = .ok (.iload 5, 2) := by decide +kernel
theorem dX9_mid_13 : decode cX9_mid 13 = .ok (.ifCond .ge 6, 3) := by decide +kernel
theorem dX9_mid_16 : decode cX9_mid 16 = .ok (.iload 5, 2) := by decide +kernel
theorem dX9_mid_18 : decode cX9_mid 18 = .ok (.ireturn, 1) := by decide +kernel
theorem dX9_mid_19 : decode cX9_mid 19 = .ok (.aload_n 0, 1) := by decide +kernel
theorem dX9_mid_20 : decode cX9_mid 20 = .ok (.iload_n 1, 1) := by decide +kernel
theorem dX9_mid_21 : decode cX9_mid 21 = .ok (.iload_n 2, 1) := by decide +kernel
theorem dX9_mid_22 : decode cX9_mid 22 = .ok (.iload_n 3, 1) := by decide +kernel
theorem dX9_mid_23 : decode cX9_mid 23 = .ok (.iload 4, 2) := by decide +kernel
theorem dX9_mid_25 : decode cX9_mid 25 = .ok (.invokevirtual 263, 3) := by decide +kernel
theorem dX9_mid_28 : decode cX9_mid 28 = .ok (.lstore 6, 2) := by decide +kernel
theorem dX9_mid_30 : decode cX9_mid 30 = .ok (.lconst 0, 1) := by decide +kernel
theorem dX9_mid_31 : decode cX9_mid 31 = .ok (.lstore 8, 2) := by decide +kernel
theorem dX9_mid_33 : decode cX9_mid 33 = .ok (.iconst 0, 1) := by decide +kernel
theorem dX9_mid_34 : decode cX9_mid 34 = .ok (.istore 10, 2) := by decide +kernel
theorem dX9_mid_36 : decode cX9_mid 36 = .ok (.iload 10, 2) := by decide +kernel
theorem dX9_mid_38 : decode cX9_mid 38 = .ok (.bipush 20, 2) := by decide +kernel
theorem dX9_mid_40 : decode cX9_mid 40 = .ok (.if_icmp .gt 25, 3) := by decide +kernel
theorem dX9_mid_43 : decode cX9_mid 43 = .ok (.lload 8, 2) := by decide +kernel
theorem dX9_mid_45 : decode cX9_mid 45 = .ok (.iload 10, 2) := by decide +kernel
theorem dX9_mid_47 : decode cX9_mid 47 = .ok (.i2l, 1) := by decide +kernel
theorem dX9_mid_48 : decode cX9_mid 48 = .ok (.aload_n 0, 1) := by decide +kernel
theorem dX9_mid_49 : decode cX9_mid 49 = .ok (.getfield 68, 3) := by decide +kernel
theorem dX9_mid_52 : decode cX9_mid 52 = .ok (.iload 10, 2) := by decide +kernel
theorem dX9_mid_54 : decode cX9_mid 54 = .ok (.laload, 1) := by decide +kernel
theorem dX9_mid_55 : decode cX9_mid 55 = .ok (.lmul, 1) := by decide +kernel
theorem dX9_mid_56 : decode cX9_mid 56 = .ok (.ladd, 1) := by decide +kernel
theorem dX9_mid_57 : decode cX9_mid 57 = .ok (.lstore 8, 2) := by decide +kernel
theorem dX9_mid_59 : decode cX9_mid 59 = .ok (.iinc 10 1, 3) := by decide +kernel
theorem dX9_mid_62 : decode cX9_mid 62 = .ok (.goto (-26), 3) := by decide +kernel
theorem dX9_mid_65 : decode cX9_mid 65 = .ok (.aload_n 0, 1) := by decide +kernel
theorem dX9_mid_66 : decode cX9_mid 66 = .ok (.lload 8, 2) := by decide +kernel
theorem dX9_mid_68 : decode cX9_mid 68 = .ok (.lload 6, 2) := by decide +kernel
theorem dX9_mid_70 : decode cX9_mid 70 = .ok (.invokevirtual 267, 3) := by decide +kernel
theorem dX9_mid_73 : decode cX9_mid 73 = .ok (.ireturn, 1) := by decide +kernel
theorem dX9_lots_0 : decode cX9_lots 0 = .ok (.iload_n 1, 1) := by decide +kernel
theorem dX9_lots_1 : decode cX9_lots 1 = .ok (.i2l, 1) := by decide +kernel
theorem dX9_lots_2 : decode cX9_lots 2 = .ok (.lconst 1, 1) := by decide +kernel
theorem dX9_lots_3 : decode cX9_lots 3 = .ok (.ldc2_w 217, 3) := by decide +kernel
theorem dX9_lots_6 : decode cX9_lots 6 = .ok (.invokestatic 83, 3) := by decide +kernel
theorem dX9_lots_9 : decode cX9_lots 9 = .ok (.ifCond .eq 15, 3) := by decide +kernel
theorem dX9_lots_12 : decode cX9_lots 12 = .ok (.iload_n 2, 1) := by decide +kernel
theorem dX9_lots_13 : decode cX9_lots 13 = .ok (.i2l, 1) := by decide +kernel
theorem dX9_lots_14 : decode cX9_lots 14 = .ok (.lconst 1, 1) := by decide +kernel
theorem dX9_lots_15 : decode cX9_lots 15 = .ok (.ldc2_w 271, 3) := by decide +kernel
theorem dX9_lots_18 : decode cX9_lots 18 = .ok (.invokestatic 83, 3) := by decide +kernel
theorem dX9_lots_21 : decode cX9_lots 21 = .ok (.ifCond .ne 5, 3) := by decide +kernel
theorem dX9_lots_24 : decode cX9_lots 24 = .ok (.iconst (-1), 1) := by decide +kernel
theorem dX9_lots_25 : decode cX9_lots 25 = .ok (.ireturn, 1) := by decide +kernel
theorem dX9_lots_26 : decode cX9_lots 26 = .ok (.aload_n 0, 1) := by decide +kernel
theorem dX9_lots_27 : decode cX9_lots 27 = .ok (.getfield 7, 3) := by decide +kernel
theorem dX9_lots_30 : decode cX9_lots 30 = .ok (.iconst 0, 1) := by decide +kernel
theorem dX9_lots_31 : decode cX9_lots 31 = .ok (.iaload, 1) := by decide +kernel
theorem dX9_lots_32 : decode cX9_lots 32 = .ok (.ifCond .ne 6, 3) := by decide +kernel
theorem dX9_lots_35 : decode cX9_lots 35 = .ok (.bipush (-4), 2) := by decide +kernel
theorem dX9_lots_37 : decode cX9_lots 37 = .ok (.ireturn, 1) := by decide +kernel
theorem dX9_lots_38 : decode cX9_lots 38 = .ok (.aload_n 0, 1) := by decide +kernel
theorem dX9_lots_39 : decode cX9_lots 39 = .ok (.getfield 142, 3) := by decide +kernel
theorem dX9_lots_42 : decode cX9_lots 42 = .ok (.iload_n 1, 1) := by decide +kernel
theorem dX9_lots_43 : decode cX9_lots 43 = .ok (.iadd, 1) := by decide +kernel
theorem dX9_lots_44 : decode cX9_lots 44 = .ok (.bipush 40, 2) := by decide +kernel
theorem dX9_lots_46 : decode cX9_lots 46 = .ok (.if_icmp .le 6, 3) := by decide +kernel
theorem dX9_lots_49 : decode cX9_lots 49 = .ok (.bipush (-2), 2) := by decide +kernel
theorem dX9_lots_51 : decode cX9_lots 51 = .ok (.ireturn, 1) := by decide +kernel
theorem dX9_lots_52 : decode cX9_lots 52 = .ok (.iload_n 2, 1) := by decide +kernel
theorem dX9_lots_53 : decode cX9_lots 53 = .ok (.i2l, 1) := by decide +kernel
theorem dX9_lots_54 : decode cX9_lots 54 = .ok (.lstore_n 3, 1) := by decide +kernel
theorem dX9_lots_55 : decode cX9_lots 55 = .ok (.iconst 0, 1) := by decide +kernel
theorem dX9_lots_56 : decode cX9_lots 56 = .ok (.istore 5, 2) := by decide +kernel
theorem dX9_lots_58 : decode cX9_lots 58 = .ok (.iload 5, 2) := by decide +kernel
theorem dX9_lots_60 : decode cX9_lots 60 = .ok (.iload_n 1, 1) := by decide +kernel
theorem dX9_lots_61 : decode cX9_lots 61 = .ok (.if_icmp .ge 68, 3) := by decide +kernel
theorem dX9_lots_64 : decode cX9_lots 64 = .ok (.aload_n 0, 1) := by decide +kernel
theorem dX9_lots_65 : decode cX9_lots 65 = .ok (.invokevirtual 178, 3) := by decide +kernel
theorem dX9_lots_68 : decode cX9_lots 68 = .ok (.iconst 0, 1) := by decide +kernel
theorem dX9_lots_69 : decode cX9_lots 69 = .ok (.istore 6, 2) := by decide +kernel
theorem dX9_lots_71 : decode cX9_lots 71 = .ok (.iload 6, 2) := by decide +kernel
theorem dX9_lots_73 : decode cX9_lots 73 = .ok (.aload_n 0, 1) := by decide +kernel
theorem dX9_lots_74 : decode cX9_lots 74 = .ok (.getfield 7, 3) := by decide +kernel
theorem dX9_lots_77 : decode cX9_lots 77 = .ok (.iconst 0, 1) := by decide +kernel
theorem dX9_lots_78 : decode cX9_lots 78 = .ok (.iaload, 1) := by decide +kernel
theorem dX9_lots_79 : decode cX9_lots 79 = .ok (.if_icmp .ge 44, 3) := by decide +kernel
theorem dX9_lots_82 : decode cX9_lots 82 = .ok (.aload_n 0, 1) := by decide +kernel
theorem dX9_lots_83 : decode cX9_lots 83 = .ok (.iload 6, 2) := by decide +kernel
theorem dX9_lots_85 : decode cX9_lots 85 = .ok (.invokevirtual 175, 3) := by decide +kernel
theorem dX9_lots_88 : decode cX9_lots 88 = .ok (.ifCond .ne 29, 3) := by decide +kernel
theorem dX9_lots_91 : decode cX9_lots 91 = .ok (.lload_n 3, 1) := by decide +kernel
theorem dX9_lots_92 : decode cX9_lots 92 = .ok (.ldc2_w 273, 3) := by decide +kernel
theorem dX9_lots_95 : decode cX9_lots 95 = .ok (.lmul, 1) := by decide +kernel
theorem dX9_lots_96 : decode cX9_lots 96 = .ok (.ldc2_w 275, 3) := by decide +kernel
theorem dX9_lots_99 : decode cX9_lots 99 = .ok (.lrem, 1) := by decide +kernel
theorem dX9_lots_100 : decode cX9_lots 100 = .ok (.lstore_n 3, 1) := by decide +kernel
theorem dX9_lots_101 : decode cX9_lots 101 = .ok (.aload_n 0, 1) := by decide +kernel
theorem dX9_lots_102 : decode cX9_lots 102 = .ok (.iload 6, 2) := by decide +kernel
theorem dX9_lots_104 : decode cX9_lots 104 = .ok (.lload_n 3, 1) := by decide +kernel
theorem dX9_lots_105 : decode cX9_lots 105 = .ok (.ldc2_w 277, 3) := by decide +kernel
theorem dX9_lots_108 : decode cX9_lots 108 = .ok (.ldiv, 1) := by decide +kernel
theorem dX9_lots_109 : decode cX9_lots 109 = .ok (.ldc2_w 279, 3) := by decide +kernel
theorem dX9_lots_112 : decode cX9_lots 112 = .ok (.lrem, 1) := by decide +kernel
theorem dX9_lots_113 : decode cX9_lots 113 = .ok (.l2i, 1) := by decide +kernel
theorem dX9_lots_114 : decode cX9_lots 114 = .ok (.invokevirtual 181, 3) := by decide +kernel
theorem dX9_lots_117 : decode cX9_lots 117 = .ok (.iinc 6 1, 3) := by decide +kernel
theorem dX9_lots_120 : decode cX9_lots 120 = .ok (.goto (-49), 3) := by decide +kernel
theorem dX9_lots_123 : decode cX9_lots 123 = .ok (.iinc 5 1, 3) := by decide +kernel
theorem dX9_lots_126 : decode cX9_lots 126 = .ok (.goto (-68), 3) := by decide +kernel
theorem dX9_lots_129 : decode cX9_lots 129 = .ok (.aload_n 0, 1) := by decide +kernel
theorem dX9_lots_130 : decode cX9_lots 130 = .ok (.invokevirtual 225, 3) := by decide +kernel
theorem dX9_lots_133 : decode cX9_lots 133 = .ok (.ireturn, 1) := by decide +kernel
theorem dX9_asked_0 : decode cX9_asked 0 = .ok (.aload_n 0, 1) := by decide +kernel
theorem dX9_asked_1 : decode cX9_asked 1 = .ok (.getfield 78, 3) := by decide +kernel
theorem dX9_asked_4 : decode cX9_asked 4 = .ok (.ireturn, 1) := by decide +kernel
theorem dX9_upper_0 : decode cX9_upper 0 = .ok (.aload_n 0, 1) := by decide +kernel
theorem dX9_upper_1 : decode cX9_upper 1 = .ok (.getfield 214, 3) := by decide +kernel
theorem dX9_upper_4 : decode cX9_upper 4 = .ok (.lreturn, 1) := by decide +kernel
theorem dX9_lower_0 : decode cX9_lower 0 = .ok (.aload_n 0, 1) := by decide +kernel
theorem dX9_lower_1 : decode cX9_lower 1 = .ok (.getfield 34, 3) := by decide +kernel
theorem dX9_lower_4 : decode cX9_lower 4 = .ok (.lreturn, 1) := by decide +kernel
theorem dX9_thereOf_0 : decode cX9_thereOf 0 = .ok (.iconst 0, 1) := by decide +kernel
theorem dX9_thereOf_1 : decode cX9_thereOf 1 = .ok (.istore_n 2, 1) := by decide +kernel
theorem dX9_thereOf_2 : decode cX9_thereOf 2 = .ok (.iconst 0, 1) := by decide +kernel
theorem dX9_thereOf_3 : decode cX9_thereOf 3 = .ok (.istore_n 3, 1) := by decide +kernel
theorem dX9_thereOf_4 : decode cX9_thereOf 4 = .ok (.iload_n 3, 1) := by decide +kernel
theorem dX9_thereOf_5 : decode cX9_thereOf 5 = .ok (.iload_n 1, 1) := by decide +kernel
theorem dX9_thereOf_6 : decode cX9_thereOf 6 = .ok (.if_icmp .ge 23, 3) := by decide +kernel
theorem dX9_thereOf_9 : decode cX9_thereOf 9 = .ok (.iload_n 2, 1) := by decide +kernel
theorem dX9_thereOf_10 : decode cX9_thereOf 10 = .ok (.aload_n 0, 1) := by decide +kernel
theorem dX9_thereOf_11 : decode cX9_thereOf 11 = .ok (.iload_n 3, 1) := by decide +kernel
theorem dX9_thereOf_12 : decode cX9_thereOf 12 = .ok (.iaload, 1) := by decide +kernel
theorem dX9_thereOf_13 : decode cX9_thereOf 13 = .ok (.ifCond .ge 7, 3) := by decide +kernel
theorem dX9_thereOf_16 : decode cX9_thereOf 16 = .ok (.iconst 0, 1) := by decide +kernel
theorem dX9_thereOf_17 : decode cX9_thereOf 17 = .ok (.goto 4, 3) := by decide +kernel
theorem dX9_thereOf_20 : decode cX9_thereOf 20 = .ok (.iconst 1, 1) := by decide +kernel
theorem dX9_thereOf_21 : decode cX9_thereOf 21 = .ok (.iadd, 1) := by decide +kernel
theorem dX9_thereOf_22 : decode cX9_thereOf 22 = .ok (.istore_n 2, 1) := by decide +kernel
theorem dX9_thereOf_23 : decode cX9_thereOf 23 = .ok (.iinc 3 1, 3) := by decide +kernel
theorem dX9_thereOf_26 : decode cX9_thereOf 26 = .ok (.goto (-22), 3) := by decide +kernel
theorem dX9_thereOf_29 : decode cX9_thereOf 29 = .ok (.iload_n 2, 1) := by decide +kernel
theorem dX9_thereOf_30 : decode cX9_thereOf 30 = .ok (.ireturn, 1) := by decide +kernel
theorem dX9_heavies_0 : decode cX9_heavies 0 = .ok (.iconst 0, 1) := by decide +kernel
theorem dX9_heavies_1 : decode cX9_heavies 1 = .ok (.istore_n 1, 1) := by decide +kernel
theorem dX9_heavies_2 : decode cX9_heavies 2 = .ok (.iconst 0, 1) := by decide +kernel
theorem dX9_heavies_3 : decode cX9_heavies 3 = .ok (.istore_n 2, 1) := by decide +kernel
theorem dX9_heavies_4 : decode cX9_heavies 4 = .ok (.iload_n 2, 1) := by decide +kernel
theorem dX9_heavies_5 : decode cX9_heavies 5 = .ok (.aload_n 0, 1) := by decide +kernel
theorem dX9_heavies_6 : decode cX9_heavies 6 = .ok (.getfield 7, 3) := by decide +kernel
theorem dX9_heavies_9 : decode cX9_heavies 9 = .ok (.iconst 0, 1) := by decide +kernel
theorem dX9_heavies_10 : decode cX9_heavies 10 = .ok (.iaload, 1) := by decide +kernel
theorem dX9_heavies_11 : decode cX9_heavies 11 = .ok (.if_icmp .ge 31, 3) := by decide +kernel
theorem dX9_heavies_14 : decode cX9_heavies 14 = .ok (.iload_n 1, 1) := by decide +kernel
theorem dX9_heavies_15 : decode cX9_heavies 15 = .ok (.aload_n 0, 1) := by decide +kernel
theorem dX9_heavies_16 : decode cX9_heavies 16 = .ok (.getfield 7, 3) := by decide +kernel
theorem dX9_heavies_19 : decode cX9_heavies 19 = .ok (.iconst 2, 1) := by decide +kernel
theorem dX9_heavies_20 : decode cX9_heavies 20 = .ok (.iload_n 2, 1) := by decide +kernel
theorem dX9_heavies_21 : decode cX9_heavies 21 = .ok (.iadd, 1) := by decide +kernel
theorem dX9_heavies_22 : decode cX9_heavies 22 = .ok (.iaload, 1) := by decide +kernel
theorem dX9_heavies_23 : decode cX9_heavies 23 = .ok (.invokestatic 151, 3) := by decide +kernel
theorem dX9_heavies_26 : decode cX9_heavies 26 = .ok (.ifCond .eq 7, 3) := by decide +kernel
theorem dX9_heavies_29 : decode cX9_heavies 29 = .ok (.iconst 1, 1) := by decide +kernel
theorem dX9_heavies_30 : decode cX9_heavies 30 = .ok (.goto 4, 3) := by decide +kernel
theorem dX9_heavies_33 : decode cX9_heavies 33 = .ok (.iconst 0, 1) := by decide +kernel
theorem dX9_heavies_34 : decode cX9_heavies 34 = .ok (.iadd, 1) := by decide +kernel
theorem dX9_heavies_35 : decode cX9_heavies 35 = .ok (.istore_n 1, 1) := by decide +kernel
theorem dX9_heavies_36 : decode cX9_heavies 36 = .ok (.iinc 2 1, 3) := by decide +kernel
theorem dX9_heavies_39 : decode cX9_heavies 39 = .ok (.goto (-35), 3) := by decide +kernel
theorem dX9_heavies_42 : decode cX9_heavies 42 = .ok (.iload_n 1, 1) := by decide +kernel
theorem dX9_heavies_43 : decode cX9_heavies 43 = .ok (.ireturn, 1) := by decide +kernel
theorem dX9_standing_0 : decode cX9_standing 0 = .ok (.iconst 0, 1) := by decide +kernel
theorem dX9_standing_1 : decode cX9_standing 1 = .ok (.istore_n 1, 1) := by decide +kernel
theorem dX9_standing_2 : decode cX9_standing 2 = .ok (.iconst 0, 1) := by decide +kernel
theorem dX9_standing_3 : decode cX9_standing 3 = .ok (.istore_n 2, 1) := by decide +kernel
theorem dX9_standing_4 : decode cX9_standing 4 = .ok (.iload_n 2, 1) := by decide +kernel
theorem dX9_standing_5 : decode cX9_standing 5 = .ok (.aload_n 0, 1) := by decide +kernel
theorem dX9_standing_6 : decode cX9_standing 6 = .ok (.getfield 7, 3) := by decide +kernel
theorem dX9_standing_9 : decode cX9_standing 9 = .ok (.iconst 0, 1) := by decide +kernel
theorem dX9_standing_10 : decode cX9_standing 10 = .ok (.iaload, 1) := by decide +kernel
theorem dX9_standing_11 : decode cX9_standing 11 = .ok (.if_icmp .ge 31, 3) := by decide +kernel
theorem dX9_standing_14 : decode cX9_standing 14 = .ok (.iload_n 1, 1) := by decide +kernel
theorem dX9_standing_15 : decode cX9_standing 15 = .ok (.aload_n 0, 1) := by decide +kernel
theorem dX9_standing_16 : decode cX9_standing 16 = .ok (.getfield 7, 3) := by decide +kernel
theorem dX9_standing_19 : decode cX9_standing 19 = .ok (.bipush 14, 2) := by decide +kernel
theorem dX9_standing_21 : decode cX9_standing 21 = .ok (.iload_n 2, 1) := by decide +kernel
theorem dX9_standing_22 : decode cX9_standing 22 = .ok (.iadd, 1) := by decide +kernel
theorem dX9_standing_23 : decode cX9_standing 23 = .ok (.iaload, 1) := by decide +kernel
theorem dX9_standing_24 : decode cX9_standing 24 = .ok (.bipush 20, 2) := by decide +kernel
theorem dX9_standing_26 : decode cX9_standing 26 = .ok (.if_icmp .ne 7, 3) := by decide +kernel
theorem dX9_standing_29 : decode cX9_standing 29 = .ok (.iconst 1, 1) := by decide +kernel
theorem dX9_standing_30 : decode cX9_standing 30 = .ok (.goto 4, 3) := by decide +kernel
theorem dX9_standing_33 : decode cX9_standing 33 = .ok (.iconst 0, 1) := by decide +kernel
theorem dX9_standing_34 : decode cX9_standing 34 = .ok (.iadd, 1) := by decide +kernel
theorem dX9_standing_35 : decode cX9_standing 35 = .ok (.istore_n 1, 1) := by decide +kernel
theorem dX9_standing_36 : decode cX9_standing 36 = .ok (.iinc 2 1, 3) := by decide +kernel
theorem dX9_standing_39 : decode cX9_standing 39 = .ok (.goto (-35), 3) := by decide +kernel
theorem dX9_standing_42 : decode cX9_standing 42 = .ok (.iload_n 1, 1) := by decide +kernel
theorem dX9_standing_43 : decode cX9_standing 43 = .ok (.ireturn, 1) := by decide +kernel
theorem dX9_count_0 : decode cX9_count 0 = .ok (.iload_n 1, 1) := by decide +kernel
theorem dX9_count_1 : decode cX9_count 1 = .ok (.tableswitch 120 0 8 #[51, 58, 65, 70, 82, 87, 92, 102, 111], 51) := by decide +kernel
theorem dX9_count_52 : decode cX9_count 52 = .ok (.aload_n 0, 1) := by decide +kernel
theorem dX9_count_53 : decode cX9_count 53 = .ok (.getfield 7, 3) := by decide +kernel
theorem dX9_count_56 : decode cX9_count 56 = .ok (.iconst 0, 1) := by decide +kernel
theorem dX9_count_57 : decode cX9_count 57 = .ok (.iaload, 1) := by decide +kernel
theorem dX9_count_58 : decode cX9_count 58 = .ok (.ireturn, 1) := by decide +kernel
theorem dX9_count_59 : decode cX9_count 59 = .ok (.aload_n 0, 1) := by decide +kernel
theorem dX9_count_60 : decode cX9_count 60 = .ok (.getfield 7, 3) := by decide +kernel
theorem dX9_count_63 : decode cX9_count 63 = .ok (.iconst 1, 1) := by decide +kernel
theorem dX9_count_64 : decode cX9_count 64 = .ok (.iaload, 1) := by decide +kernel
theorem dX9_count_65 : decode cX9_count 65 = .ok (.ireturn, 1) := by decide +kernel
theorem dX9_count_66 : decode cX9_count 66 = .ok (.aload_n 0, 1) := by decide +kernel
theorem dX9_count_67 : decode cX9_count 67 = .ok (.getfield 142, 3) := by decide +kernel
theorem dX9_count_70 : decode cX9_count 70 = .ok (.ireturn, 1) := by decide +kernel
theorem dX9_count_71 : decode cX9_count 71 = .ok (.aload_n 0, 1) := by decide +kernel
theorem dX9_count_72 : decode cX9_count 72 = .ok (.getfield 7, 3) := by decide +kernel
theorem dX9_count_75 : decode cX9_count 75 = .ok (.iconst 0, 1) := by decide +kernel
theorem dX9_count_76 : decode cX9_count 76 = .ok (.iaload, 1) := by decide +kernel
theorem dX9_count_77 : decode cX9_count 77 = .ok (.aload_n 0, 1) := by decide +kernel
theorem dX9_count_78 : decode cX9_count 78 = .ok (.invokevirtual 225, 3) := by decide +kernel
theorem dX9_count_81 : decode cX9_count 81 = .ok (.isub, 1) := by decide +kernel
theorem dX9_count_82 : decode cX9_count 82 = .ok (.ireturn, 1) := by decide +kernel
theorem dX9_count_83 : decode cX9_count 83 = .ok (.aload_n 0, 1) := by decide +kernel
theorem dX9_count_84 : decode cX9_count 84 = .ok (.invokevirtual 281, 3) := by decide +kernel
theorem dX9_count_87 : decode cX9_count 87 = .ok (.ireturn, 1) := by decide +kernel
theorem dX9_count_88 : decode cX9_count 88 = .ok (.aload_n 0, 1) := by decide +kernel
theorem dX9_count_89 : decode cX9_count 89 = .ok (.invokevirtual 284, 3) := by decide +kernel
theorem dX9_count_92 : decode cX9_count 92 = .ok (.ireturn, 1) := by decide +kernel
theorem dX9_count_93 : decode cX9_count 93 = .ok (.aload_n 0, 1) := by decide +kernel
theorem dX9_count_94 : decode cX9_count 94 = .ok (.getfield 19, 3) := by decide +kernel
theorem dX9_count_97 : decode cX9_count 97 = .ok (.bipush 6, 2) := by decide +kernel
theorem dX9_count_99 : decode cX9_count 99 = .ok (.invokestatic 287, 3) := by decide +kernel
theorem dX9_count_102 : decode cX9_count 102 = .ok (.ireturn, 1) := by decide +kernel
theorem dX9_count_103 : decode cX9_count 103 = .ok (.aload_n 0, 1) := by decide +kernel
theorem dX9_count_104 : decode cX9_count 104 = .ok (.getfield 25, 3) := by decide +kernel
theorem dX9_count_107 : decode cX9_count 107 = .ok (.iconst 4, 1) := by decide +kernel
theorem dX9_count_108 : decode cX9_count 108 = .ok (.invokestatic 287, 3) := by decide +kernel
theorem dX9_count_111 : decode cX9_count 111 = .ok (.ireturn, 1) := by decide +kernel
theorem dX9_count_112 : decode cX9_count 112 = .ok (.aload_n 0, 1) := by decide +kernel
theorem dX9_count_113 : decode cX9_count 113 = .ok (.getfield 13, 3) := by decide +kernel
theorem dX9_count_116 : decode cX9_count 116 = .ok (.iconst 3, 1) := by decide +kernel
theorem dX9_count_117 : decode cX9_count 117 = .ok (.invokestatic 287, 3) := by decide +kernel
theorem dX9_count_120 : decode cX9_count 120 = .ok (.ireturn, 1) := by decide +kernel
theorem dX9_count_121 : decode cX9_count 121 = .ok (.iconst (-1), 1) := by decide +kernel
theorem dX9_count_122 : decode cX9_count 122 = .ok (.ireturn, 1) := by decide +kernel
theorem dX9_finding_0 : decode cX9_finding 0 = .ok (.aload_n 0, 1) := by decide +kernel
theorem dX9_finding_1 : decode cX9_finding 1 = .ok (.getfield 74, 3) := by decide +kernel
theorem dX9_finding_4 : decode cX9_finding 4 = .ok (.ireturn, 1) := by decide +kernel
theorem dX9_findings_0 : decode cX9_findings 0 = .ok (.iload_n 1, 1) := by decide +kernel
theorem dX9_findings_1 : decode cX9_findings 1 = .ok (.i2l, 1) := by decide +kernel
theorem dX9_findings_2 : decode cX9_findings 2 = .ok (.lconst 1, 1) := by decide +kernel
theorem dX9_findings_3 : decode cX9_findings 3 = .ok (.ldc2_w 81, 3) := by decide +kernel
theorem dX9_findings_6 : decode cX9_findings 6 = .ok (.invokestatic 83, 3) := by decide +kernel
theorem dX9_findings_9 : decode cX9_findings 9 = .ok (.ifCond .eq 12, 3) := by decide +kernel
theorem dX9_findings_12 : decode cX9_findings 12 = .ok (.aload_n 0, 1) := by decide +kernel
theorem dX9_findings_13 : decode cX9_findings 13 = .ok (.getfield 31, 3) := by decide +kernel
theorem dX9_findings_16 : decode cX9_findings 16 = .ok (.iload_n 1, 1) := by decide +kernel
theorem dX9_findings_17 : decode cX9_findings 17 = .ok (.iaload, 1) := by decide +kernel
theorem dX9_findings_18 : decode cX9_findings 18 = .ok (.goto 4, 3) := by decide +kernel
theorem dX9_findings_21 : decode cX9_findings 21 = .ok (.iconst (-1), 1) := by decide +kernel
theorem dX9_findings_22 : decode cX9_findings 22 = .ok (.ireturn, 1) := by decide +kernel
theorem dX9_mix_0 : decode cX9_mix 0 = .ok (.aload_n 0, 1) := by decide +kernel
theorem dX9_mix_1 : decode cX9_mix 1 = .ok (.ldc2_w 291, 3) := by decide +kernel
theorem dX9_mix_4 : decode cX9_mix 4 = .ok (.aload_n 0, 1) := by decide +kernel
theorem dX9_mix_5 : decode cX9_mix 5 = .ok (.getfield 293, 3) := by decide +kernel
theorem dX9_mix_8 : decode cX9_mix 8 = .ok (.lmul, 1) := by decide +kernel
theorem dX9_mix_9 : decode cX9_mix 9 = .ok (.lload_n 1, 1) := by decide +kernel
theorem dX9_mix_10 : decode cX9_mix 10 = .ok (.ladd, 1) := by decide +kernel
theorem dX9_mix_11 : decode cX9_mix 11 = .ok (.putfield 293, 3) := by decide +kernel
theorem dX9_mix_14 : decode cX9_mix 14 = .ok (.return_, 1) := by decide +kernel
theorem dX9_digest_0 : decode cX9_digest 0 = .ok (.aload_n 0, 1) := by decide +kernel
theorem dX9_digest_1 : decode cX9_digest 1 = .ok (.ldc2_w 296, 3) := by decide +kernel
theorem dX9_digest_4 : decode cX9_digest 4 = .ok (.putfield 293, 3) := by decide +kernel
theorem dX9_digest_7 : decode cX9_digest 7 = .ok (.iconst 0, 1) := by decide +kernel
theorem dX9_digest_8 : decode cX9_digest 8 = .ok (.istore_n 1, 1) := by decide +kernel
theorem dX9_digest_9 : decode cX9_digest 9 = .ok (.iload_n 1, 1) := by decide +kernel
theorem dX9_digest_10 : decode cX9_digest 10 = .ok (.bipush 9, 2) := by decide +kernel
theorem dX9_digest_12 : decode cX9_digest 12 = .ok (.if_icmp .ge 19, 3) := by decide +kernel
theorem dX9_digest_15 : decode cX9_digest 15 = .ok (.aload_n 0, 1) := by decide +kernel
theorem dX9_digest_16 : decode cX9_digest 16 = .ok (.aload_n 0, 1) := by decide +kernel
theorem dX9_digest_17 : decode cX9_digest 17 = .ok (.iload_n 1, 1) := by decide +kernel
theorem dX9_digest_18 : decode cX9_digest 18 = .ok (.invokevirtual 298, 3) := by decide +kernel
theorem dX9_digest_21 : decode cX9_digest 21 = .ok (.i2l, 1) := by decide +kernel
theorem dX9_digest_22 : decode cX9_digest 22 = .ok (.invokevirtual 301, 3) := by decide +kernel
theorem dX9_digest_25 : decode cX9_digest 25 = .ok (.iinc 1 1, 3) := by decide +kernel
theorem dX9_digest_28 : decode cX9_digest 28 = .ok (.goto (-19), 3) := by decide +kernel
theorem dX9_digest_31 : decode cX9_digest 31 = .ok (.iconst 0, 1) := by decide +kernel
theorem dX9_digest_32 : decode cX9_digest 32 = .ok (.istore_n 1, 1) := by decide +kernel
theorem dX9_digest_33 : decode cX9_digest 33 = .ok (.iload_n 1, 1) := by decide +kernel
theorem dX9_digest_34 : decode cX9_digest 34 = .ok (.aload_n 0, 1) := by decide +kernel
theorem dX9_digest_35 : decode cX9_digest 35 = .ok (.getfield 7, 3) := by decide +kernel
theorem dX9_digest_38 : decode cX9_digest 38 = .ok (.iconst 0, 1) := by decide +kernel
theorem dX9_digest_39 : decode cX9_digest 39 = .ok (.iaload, 1) := by decide +kernel
theorem dX9_digest_40 : decode cX9_digest 40 = .ok (.if_icmp .ge 34, 3) := by decide +kernel
theorem dX9_digest_43 : decode cX9_digest 43 = .ok (.iconst 0, 1) := by decide +kernel
theorem dX9_digest_44 : decode cX9_digest 44 = .ok (.istore_n 2, 1) := by decide +kernel
theorem dX9_digest_45 : decode cX9_digest 45 = .ok (.iload_n 2, 1) := by decide +kernel
theorem dX9_digest_46 : decode cX9_digest 46 = .ok (.bipush 6, 2) := by decide +kernel
theorem dX9_digest_48 : decode cX9_digest 48 = .ok (.if_icmp .ge 20, 3) := by decide +kernel
theorem dX9_digest_51 : decode cX9_digest 51 = .ok (.aload_n 0, 1) := by decide +kernel
theorem dX9_digest_52 : decode cX9_digest 52 = .ok (.aload_n 0, 1) := by decide +kernel
theorem dX9_digest_53 : decode cX9_digest 53 = .ok (.iload_n 1, 1) := by decide +kernel
theorem dX9_digest_54 : decode cX9_digest 54 = .ok (.iload_n 2, 1) := by decide +kernel
theorem dX9_digest_55 : decode cX9_digest 55 = .ok (.invokevirtual 148, 3) := by decide +kernel
theorem dX9_digest_58 : decode cX9_digest 58 = .ok (.i2l, 1) := by decide +kernel
theorem dX9_digest_59 : decode cX9_digest 59 = .ok (.invokevirtual 301, 3) := by decide +kernel
theorem dX9_digest_62 : decode cX9_digest 62 = .ok (.iinc 2 1, 3) := by decide +kernel
theorem dX9_digest_65 : decode cX9_digest 65 = .ok (.goto (-20), 3) := by decide +kernel
theorem dX9_digest_68 : decode cX9_digest 68 = .ok (.iinc 1 1, 3) := by decide +kernel
theorem dX9_digest_71 : decode cX9_digest 71 = .ok (.goto (-38), 3) := by decide +kernel
theorem dX9_digest_74 : decode cX9_digest 74 = .ok (.iconst 0, 1) := by decide +kernel
theorem dX9_digest_75 : decode cX9_digest 75 = .ok (.istore_n 1, 1) := by decide +kernel
theorem dX9_digest_76 : decode cX9_digest 76 = .ok (.iload_n 1, 1) := by decide +kernel
theorem dX9_digest_77 : decode cX9_digest 77 = .ok (.iconst 3, 1) := by decide +kernel
theorem dX9_digest_78 : decode cX9_digest 78 = .ok (.if_icmp .ge 20, 3) := by decide +kernel
theorem dX9_digest_81 : decode cX9_digest 81 = .ok (.aload_n 0, 1) := by decide +kernel
theorem dX9_digest_82 : decode cX9_digest 82 = .ok (.aload_n 0, 1) := by decide +kernel
theorem dX9_digest_83 : decode cX9_digest 83 = .ok (.getfield 13, 3) := by decide +kernel
theorem dX9_digest_86 : decode cX9_digest 86 = .ok (.iload_n 1, 1) := by decide +kernel
theorem dX9_digest_87 : decode cX9_digest 87 = .ok (.iaload, 1) := by decide +kernel
theorem dX9_digest_88 : decode cX9_digest 88 = .ok (.i2l, 1) := by decide +kernel
theorem dX9_digest_89 : decode cX9_digest 89 = .ok (.invokevirtual 301, 3) := by decide +kernel
theorem dX9_digest_92 : decode cX9_digest 92 = .ok (.iinc 1 1, 3) := by decide +kernel
theorem dX9_digest_95 : decode cX9_digest 95 = .ok (.goto (-19), 3) := by decide +kernel
theorem dX9_digest_98 : decode cX9_digest 98 = .ok (.iconst 0, 1) := by decide +kernel
theorem dX9_digest_99 : decode cX9_digest 99 = .ok (.istore_n 1, 1) := by decide +kernel
theorem dX9_digest_100 : decode cX9_digest 100 = .ok (.iload_n 1, 1) := by decide +kernel
theorem dX9_digest_101 : decode cX9_digest 101 = .ok (.bipush 6, 2) := by decide +kernel
theorem dX9_digest_103 : decode cX9_digest 103 = .ok (.if_icmp .ge 54, 3) := by decide +kernel
theorem dX9_digest_106 : decode cX9_digest 106 = .ok (.aload_n 0, 1) := by decide +kernel
theorem dX9_digest_107 : decode cX9_digest 107 = .ok (.aload_n 0, 1) := by decide +kernel
theorem dX9_digest_108 : decode cX9_digest 108 = .ok (.getfield 19, 3) := by decide +kernel
theorem dX9_digest_111 : decode cX9_digest 111 = .ok (.iload_n 1, 1) := by decide +kernel
theorem dX9_digest_112 : decode cX9_digest 112 = .ok (.iaload, 1) := by decide +kernel
theorem dX9_digest_113 : decode cX9_digest 113 = .ok (.i2l, 1) := by decide +kernel
theorem dX9_digest_114 : decode cX9_digest 114 = .ok (.invokevirtual 301, 3) := by decide +kernel
theorem dX9_digest_117 : decode cX9_digest 117 = .ok (.iconst 0, 1) := by decide +kernel
theorem dX9_digest_118 : decode cX9_digest 118 = .ok (.istore_n 2, 1) := by decide +kernel
theorem dX9_digest_119 : decode cX9_digest 119 = .ok (.iload_n 2, 1) := by decide +kernel
theorem dX9_digest_120 : decode cX9_digest 120 = .ok (.aload_n 0, 1) := by decide +kernel
theorem dX9_digest_121 : decode cX9_digest 121 = .ok (.getfield 19, 3) := by decide +kernel
theorem dX9_digest_124 : decode cX9_digest 124 = .ok (.iload_n 1, 1) := by decide +kernel
theorem dX9_digest_125 : decode cX9_digest 125 = .ok (.iaload, 1) := by decide +kernel
theorem dX9_digest_126 : decode cX9_digest 126 = .ok (.if_icmp .ge 25, 3) := by decide +kernel
theorem dX9_digest_129 : decode cX9_digest 129 = .ok (.aload_n 0, 1) := by decide +kernel
theorem dX9_digest_130 : decode cX9_digest 130 = .ok (.aload_n 0, 1) := by decide +kernel
theorem dX9_digest_131 : decode cX9_digest 131 = .ok (.getfield 16, 3) := by decide +kernel
theorem dX9_digest_134 : decode cX9_digest 134 = .ok (.bipush 40, 2) := by decide +kernel
theorem dX9_digest_136 : decode cX9_digest 136 = .ok (.iload_n 1, 1) := by decide +kernel
theorem dX9_digest_137 : decode cX9_digest 137 = .ok (.imul, 1) := by decide +kernel
theorem dX9_digest_138 : decode cX9_digest 138 = .ok (.iload_n 2, 1) := by decide +kernel
theorem dX9_digest_139 : decode cX9_digest 139 = .ok (.iadd, 1) := by decide +kernel
theorem dX9_digest_140 : decode cX9_digest 140 = .ok (.iaload, 1) := by decide +kernel
theorem dX9_digest_141 : decode cX9_digest 141 = .ok (.i2l, 1) := by decide +kernel
theorem dX9_digest_142 : decode cX9_digest 142 = .ok (.invokevirtual 301, 3) := by decide +kernel
theorem dX9_digest_145 : decode cX9_digest 145 = .ok (.iinc 2 1, 3) := by decide +kernel
theorem dX9_digest_148 : decode cX9_digest 148 = .ok (.goto (-29), 3) := by decide +kernel
theorem dX9_digest_151 : decode cX9_digest 151 = .ok (.iinc 1 1, 3) := by decide +kernel
theorem dX9_digest_154 : decode cX9_digest 154 = .ok (.goto (-54), 3) := by decide +kernel
theorem dX9_digest_157 : decode cX9_digest 157 = .ok (.iconst 0, 1) := by decide +kernel
theorem dX9_digest_158 : decode cX9_digest 158 = .ok (.istore_n 1, 1) := by decide +kernel
theorem dX9_digest_159 : decode cX9_digest 159 = .ok (.iload_n 1, 1) := by decide +kernel
theorem dX9_digest_160 : decode cX9_digest 160 = .ok (.iconst 4, 1) := by decide +kernel
theorem dX9_digest_161 : decode cX9_digest 161 = .ok (.if_icmp .ge 54, 3) := by decide +kernel
theorem dX9_digest_164 : decode cX9_digest 164 = .ok (.aload_n 0, 1) := by decide +kernel
theorem dX9_digest_165 : decode cX9_digest 165 = .ok (.aload_n 0, 1) := by decide +kernel
theorem dX9_digest_166 : decode cX9_digest 166 = .ok (.getfield 25, 3) := by decide +kernel
theorem dX9_digest_169 : decode cX9_digest 169 = .ok (.iload_n 1, 1) := by decide +kernel
theorem dX9_digest_170 : decode cX9_digest 170 = .ok (.iaload, 1) := by decide +kernel
theorem dX9_digest_171 : decode cX9_digest 171 = .ok (.i2l, 1) := by decide +kernel
theorem dX9_digest_172 : decode cX9_digest 172 = .ok (.invokevirtual 301, 3) := by decide +kernel
theorem dX9_digest_175 : decode cX9_digest 175 = .ok (.iconst 0, 1) := by decide +kernel
theorem dX9_digest_176 : decode cX9_digest 176 = .ok (.istore_n 2, 1) := by decide +kernel
theorem dX9_digest_177 : decode cX9_digest 177 = .ok (.iload_n 2, 1) := by decide +kernel
theorem dX9_digest_178 : decode cX9_digest 178 = .ok (.aload_n 0, 1) := by decide +kernel
theorem dX9_digest_179 : decode cX9_digest 179 = .ok (.getfield 25, 3) := by decide +kernel
theorem dX9_digest_182 : decode cX9_digest 182 = .ok (.iload_n 1, 1) := by decide +kernel
theorem dX9_digest_183 : decode cX9_digest 183 = .ok (.iaload, 1) := by decide +kernel
theorem dX9_digest_184 : decode cX9_digest 184 = .ok (.if_icmp .ge 25, 3) := by decide +kernel
theorem dX9_digest_187 : decode cX9_digest 187 = .ok (.aload_n 0, 1) := by decide +kernel
theorem dX9_digest_188 : decode cX9_digest 188 = .ok (.aload_n 0, 1) := by decide +kernel
theorem dX9_digest_189 : decode cX9_digest 189 = .ok (.getfield 22, 3) := by decide +kernel
theorem dX9_digest_192 : decode cX9_digest 192 = .ok (.bipush 60, 2) := by decide +kernel
theorem dX9_digest_194 : decode cX9_digest 194 = .ok (.iload_n 1, 1) := by decide +kernel
theorem dX9_digest_195 : decode cX9_digest 195 = .ok (.imul, 1) := by decide +kernel
theorem dX9_digest_196 : decode cX9_digest 196 = .ok (.iload_n 2, 1) := by decide +kernel
theorem dX9_digest_197 : decode cX9_digest 197 = .ok (.iadd, 1) := by decide +kernel
theorem dX9_digest_198 : decode cX9_digest 198 = .ok (.iaload, 1) := by decide +kernel
theorem dX9_digest_199 : decode cX9_digest 199 = .ok (.i2l, 1) := by decide +kernel
theorem dX9_digest_200 : decode cX9_digest 200 = .ok (.invokevirtual 301, 3) := by decide +kernel
theorem dX9_digest_203 : decode cX9_digest 203 = .ok (.iinc 2 1, 3) := by decide +kernel
theorem dX9_digest_206 : decode cX9_digest 206 = .ok (.goto (-29), 3) := by decide +kernel
theorem dX9_digest_209 : decode cX9_digest 209 = .ok (.iinc 1 1, 3) := by decide +kernel
theorem dX9_digest_212 : decode cX9_digest 212 = .ok (.goto (-53), 3) := by decide +kernel
theorem dX9_digest_215 : decode cX9_digest 215 = .ok (.aload_n 0, 1) := by decide +kernel
theorem dX9_digest_216 : decode cX9_digest 216 = .ok (.getfield 293, 3) := by decide +kernel
theorem dX9_digest_219 : decode cX9_digest 219 = .ok (.lreturn, 1) := by decide +kernel
theorem dJ6_bitCount_0f7a4_0 : decode cJ6_bitCount_0f7a4 0 = .ok (.iload_n 0, 1) := by decide +kernel
theorem dJ6_bitCount_0f7a4_1 : decode cJ6_bitCount_0f7a4 1 = .ok (.iload_n 0, 1) := by decide +kernel
theorem dJ6_bitCount_0f7a4_2 : decode cJ6_bitCount_0f7a4 2 = .ok (.iconst 1, 1) := by decide +kernel
theorem dJ6_bitCount_0f7a4_3 : decode cJ6_bitCount_0f7a4 3 = .ok (.iushr, 1) := by decide +kernel
theorem dJ6_bitCount_0f7a4_4 : decode cJ6_bitCount_0f7a4 4 = .ok (.ldc_w 265, 3) := by decide +kernel
theorem dJ6_bitCount_0f7a4_7 : decode cJ6_bitCount_0f7a4 7 = .ok (.iand, 1) := by decide +kernel
theorem dJ6_bitCount_0f7a4_8 : decode cJ6_bitCount_0f7a4 8 = .ok (.isub, 1) := by decide +kernel
theorem dJ6_bitCount_0f7a4_9 : decode cJ6_bitCount_0f7a4 9 = .ok (.istore_n 0, 1) := by decide +kernel
theorem dJ6_bitCount_0f7a4_10 : decode cJ6_bitCount_0f7a4 10 = .ok (.iload_n 0, 1) := by decide +kernel
theorem dJ6_bitCount_0f7a4_11 : decode cJ6_bitCount_0f7a4 11 = .ok (.ldc_w 266, 3) := by decide +kernel
theorem dJ6_bitCount_0f7a4_14 : decode cJ6_bitCount_0f7a4 14 = .ok (.iand, 1) := by decide +kernel
theorem dJ6_bitCount_0f7a4_15 : decode cJ6_bitCount_0f7a4 15 = .ok (.iload_n 0, 1) := by decide +kernel
theorem dJ6_bitCount_0f7a4_16 : decode cJ6_bitCount_0f7a4 16 = .ok (.iconst 2, 1) := by decide +kernel
theorem dJ6_bitCount_0f7a4_17 : decode cJ6_bitCount_0f7a4 17 = .ok (.iushr, 1) := by decide +kernel
theorem dJ6_bitCount_0f7a4_18 : decode cJ6_bitCount_0f7a4 18 = .ok (.ldc_w 266, 3) := by decide +kernel
theorem dJ6_bitCount_0f7a4_21 : decode cJ6_bitCount_0f7a4 21 = .ok (.iand, 1) := by decide +kernel
theorem dJ6_bitCount_0f7a4_22 : decode cJ6_bitCount_0f7a4 22 = .ok (.iadd, 1) := by decide +kernel
theorem dJ6_bitCount_0f7a4_23 : decode cJ6_bitCount_0f7a4 23 = .ok (.istore_n 0, 1) := by decide +kernel
theorem dJ6_bitCount_0f7a4_24 : decode cJ6_bitCount_0f7a4 24 = .ok (.iload_n 0, 1) := by decide +kernel
theorem dJ6_bitCount_0f7a4_25 : decode cJ6_bitCount_0f7a4 25 = .ok (.iload_n 0, 1) := by decide +kernel
theorem dJ6_bitCount_0f7a4_26 : decode cJ6_bitCount_0f7a4 26 = .ok (.iconst 4, 1) := by decide +kernel
theorem dJ6_bitCount_0f7a4_27 : decode cJ6_bitCount_0f7a4 27 = .ok (.iushr, 1) := by decide +kernel
theorem dJ6_bitCount_0f7a4_28 : decode cJ6_bitCount_0f7a4 28 = .ok (.iadd, 1) := by decide +kernel
theorem dJ6_bitCount_0f7a4_29 : decode cJ6_bitCount_0f7a4 29 = .ok (.ldc_w 267, 3) := by decide +kernel
theorem dJ6_bitCount_0f7a4_32 : decode cJ6_bitCount_0f7a4 32 = .ok (.iand, 1) := by decide +kernel
theorem dJ6_bitCount_0f7a4_33 : decode cJ6_bitCount_0f7a4 33 = .ok (.istore_n 0, 1) := by decide +kernel
theorem dJ6_bitCount_0f7a4_34 : decode cJ6_bitCount_0f7a4 34 = .ok (.iload_n 0, 1) := by decide +kernel
theorem dJ6_bitCount_0f7a4_35 : decode cJ6_bitCount_0f7a4 35 = .ok (.iload_n 0, 1) := by decide +kernel
theorem dJ6_bitCount_0f7a4_36 : decode cJ6_bitCount_0f7a4 36 = .ok (.bipush 8, 2) := by decide +kernel
theorem dJ6_bitCount_0f7a4_38 : decode cJ6_bitCount_0f7a4 38 = .ok (.iushr, 1) := by decide +kernel
theorem dJ6_bitCount_0f7a4_39 : decode cJ6_bitCount_0f7a4 39 = .ok (.iadd, 1) := by decide +kernel
theorem dJ6_bitCount_0f7a4_40 : decode cJ6_bitCount_0f7a4 40 = .ok (.istore_n 0, 1) := by decide +kernel
theorem dJ6_bitCount_0f7a4_41 : decode cJ6_bitCount_0f7a4 41 = .ok (.iload_n 0, 1) := by decide +kernel
theorem dJ6_bitCount_0f7a4_42 : decode cJ6_bitCount_0f7a4 42 = .ok (.iload_n 0, 1) := by decide +kernel
theorem dJ6_bitCount_0f7a4_43 : decode cJ6_bitCount_0f7a4 43 = .ok (.bipush 16, 2) := by decide +kernel
theorem dJ6_bitCount_0f7a4_45 : decode cJ6_bitCount_0f7a4 45 = .ok (.iushr, 1) := by decide +kernel
theorem dJ6_bitCount_0f7a4_46 : decode cJ6_bitCount_0f7a4 46 = .ok (.iadd, 1) := by decide +kernel
theorem dJ6_bitCount_0f7a4_47 : decode cJ6_bitCount_0f7a4 47 = .ok (.istore_n 0, 1) := by decide +kernel
theorem dJ6_bitCount_0f7a4_48 : decode cJ6_bitCount_0f7a4 48 = .ok (.iload_n 0, 1) := by decide +kernel
theorem dJ6_bitCount_0f7a4_49 : decode cJ6_bitCount_0f7a4 49 = .ok (.bipush 63, 2) := by decide +kernel
theorem dJ6_bitCount_0f7a4_51 : decode cJ6_bitCount_0f7a4 51 = .ok (.iand, 1) := by decide +kernel
theorem dJ6_bitCount_0f7a4_52 : decode cJ6_bitCount_0f7a4 52 = .ok (.ireturn, 1) := by decide +kernel
theorem dJ9_abs_0f7a4_0 : decode cJ9_abs_0f7a4 0 = .ok (.iload_n 0, 1) := by decide +kernel
theorem dJ9_abs_0f7a4_1 : decode cJ9_abs_0f7a4 1 = .ok (.ifCond .ge 8, 3) := by decide +kernel
theorem dJ9_abs_0f7a4_4 : decode cJ9_abs_0f7a4 4 = .ok (.iload_n 0, 1) := by decide +kernel
theorem dJ9_abs_0f7a4_5 : decode cJ9_abs_0f7a4 5 = .ok (.ineg, 1) := by decide +kernel
theorem dJ9_abs_0f7a4_6 : decode cJ9_abs_0f7a4 6 = .ok (.goto 4, 3) := by decide +kernel
theorem dJ9_abs_0f7a4_9 : decode cJ9_abs_0f7a4 9 = .ok (.iload_n 0, 1) := by decide +kernel
theorem dJ9_abs_0f7a4_10 : decode cJ9_abs_0f7a4 10 = .ok (.ireturn, 1) := by decide +kernel
theorem dJ9_max_7cf53_0 : decode cJ9_max_7cf53 0 = .ok (.iload_n 0, 1) := by decide +kernel
theorem dJ9_max_7cf53_1 : decode cJ9_max_7cf53 1 = .ok (.iload_n 1, 1) := by decide +kernel
theorem dJ9_max_7cf53_2 : decode cJ9_max_7cf53 2 = .ok (.if_icmp .lt 7, 3) := by decide +kernel
theorem dJ9_max_7cf53_5 : decode cJ9_max_7cf53 5 = .ok (.iload_n 0, 1) := by decide +kernel
theorem dJ9_max_7cf53_6 : decode cJ9_max_7cf53 6 = .ok (.goto 4, 3) := by decide +kernel
theorem dJ9_max_7cf53_9 : decode cJ9_max_7cf53 9 = .ok (.iload_n 1, 1) := by decide +kernel
theorem dJ9_max_7cf53_10 : decode cJ9_max_7cf53 10 = .ok (.ireturn, 1) := by decide +kernel
theorem dJ9_min_7cf53_0 : decode cJ9_min_7cf53 0 = .ok (.iload_n 0, 1) := by decide +kernel
theorem dJ9_min_7cf53_1 : decode cJ9_min_7cf53 1 = .ok (.iload_n 1, 1) := by decide +kernel
theorem dJ9_min_7cf53_2 : decode cJ9_min_7cf53 2 = .ok (.if_icmp .gt 7, 3) := by decide +kernel
theorem dJ9_min_7cf53_5 : decode cJ9_min_7cf53 5 = .ok (.iload_n 0, 1) := by decide +kernel
theorem dJ9_min_7cf53_6 : decode cJ9_min_7cf53 6 = .ok (.goto 4, 3) := by decide +kernel
theorem dJ9_min_7cf53_9 : decode cJ9_min_7cf53 9 = .ok (.iload_n 1, 1) := by decide +kernel
theorem dJ9_min_7cf53_10 : decode cJ9_min_7cf53 10 = .ok (.ireturn, 1) := by decide +kernel
theorem dJ7_rangeCheck_23922_0 : decode cJ7_rangeCheck_23922 0 = .ok (.iload_n 1, 1) := by decide +kernel
theorem dJ7_rangeCheck_23922_1 : decode cJ7_rangeCheck_23922 1 = .ok (.iload_n 2, 1) := by decide +kernel
theorem dJ7_rangeCheck_23922_2 : decode cJ7_rangeCheck_23922 2 = .ok (.if_icmp .le 44, 3) := by decide +kernel
theorem dJ7_rangeCheck_23922_5 : decode cJ7_rangeCheck_23922 5 = .ok (.new 43, 3) := by decide +kernel
theorem dJ7_rangeCheck_23922_8 : decode cJ7_rangeCheck_23922 8 = .ok (.dup, 1) := by decide +kernel
theorem dJ7_rangeCheck_23922_9 : decode cJ7_rangeCheck_23922 9 = .ok (.new 45, 3) := by decide +kernel
theorem dJ7_rangeCheck_23922_12 : decode cJ7_rangeCheck_23922 12 = .ok (.dup, 1) := by decide +kernel
theorem dJ7_rangeCheck_23922_13 : decode cJ7_rangeCheck_23922 13 = .ok (.invokespecial 47, 3) := by decide +kernel
theorem dJ7_rangeCheck_23922_16 : decode cJ7_rangeCheck_23922 16 = .ok (.ldc 48, 2) := by decide +kernel
theorem dJ7_rangeCheck_23922_18 : decode cJ7_rangeCheck_23922 18 = .ok (.invokevirtual 50, 3) := by decide +kernel
theorem dJ7_rangeCheck_23922_21 : decode cJ7_rangeCheck_23922 21 = .ok (.iload_n 1, 1) := by decide +kernel
theorem dJ7_rangeCheck_23922_22 : decode cJ7_rangeCheck_23922 22 = .ok (.invokevirtual 54, 3) := by decide +kernel
theorem dJ7_rangeCheck_23922_25 : decode cJ7_rangeCheck_23922 25 = .ok (.ldc 57, 2) := by decide +kernel
theorem dJ7_rangeCheck_23922_27 : decode cJ7_rangeCheck_23922 27 = .ok (.invokevirtual 50, 3) := by decide +kernel
theorem dJ7_rangeCheck_23922_30 : decode cJ7_rangeCheck_23922 30 = .ok (.iload_n 2, 1) := by decide +kernel
theorem dJ7_rangeCheck_23922_31 : decode cJ7_rangeCheck_23922 31 = .ok (.invokevirtual 54, 3) := by decide +kernel
theorem dJ7_rangeCheck_23922_34 : decode cJ7_rangeCheck_23922 34 = .ok (.ldc 59, 2) := by decide +kernel
theorem dJ7_rangeCheck_23922_36 : decode cJ7_rangeCheck_23922 36 = .ok (.invokevirtual 50, 3) := by decide +kernel
theorem dJ7_rangeCheck_23922_39 : decode cJ7_rangeCheck_23922 39 = .ok (.invokevirtual 61, 3) := by decide +kernel
theorem dJ7_rangeCheck_23922_42 : decode cJ7_rangeCheck_23922 42 = .ok (.invokespecial 65, 3) := by decide +kernel
theorem dJ7_rangeCheck_23922_45 : decode cJ7_rangeCheck_23922 45 = .ok (.athrow, 1) := by decide +kernel
theorem dJ7_rangeCheck_23922_46 : decode cJ7_rangeCheck_23922 46 = .ok (.iload_n 1, 1) := by decide +kernel
theorem dJ7_rangeCheck_23922_47 : decode cJ7_rangeCheck_23922 47 = .ok (.ifCond .ge 12, 3) := by decide +kernel
theorem dJ7_rangeCheck_23922_50 : decode cJ7_rangeCheck_23922 50 = .ok (.new 68, 3) := by decide +kernel
theorem dJ7_rangeCheck_23922_53 : decode cJ7_rangeCheck_23922 53 = .ok (.dup, 1) := by decide +kernel
theorem dJ7_rangeCheck_23922_54 : decode cJ7_rangeCheck_23922 54 = .ok (.iload_n 1, 1) := by decide +kernel
theorem dJ7_rangeCheck_23922_55 : decode cJ7_rangeCheck_23922 55 = .ok (.invokespecial 70, 3) := by decide +kernel
theorem dJ7_rangeCheck_23922_58 : decode cJ7_rangeCheck_23922 58 = .ok (.athrow, 1) := by decide +kernel
theorem dJ7_rangeCheck_23922_59 : decode cJ7_rangeCheck_23922 59 = .ok (.iload_n 2, 1) := by decide +kernel
theorem dJ7_rangeCheck_23922_60 : decode cJ7_rangeCheck_23922 60 = .ok (.iload_n 0, 1) := by decide +kernel
theorem dJ7_rangeCheck_23922_61 : decode cJ7_rangeCheck_23922 61 = .ok (.if_icmp .le 12, 3) := by decide +kernel
theorem dJ7_rangeCheck_23922_64 : decode cJ7_rangeCheck_23922 64 = .ok (.new 68, 3) := by decide +kernel
theorem dJ7_rangeCheck_23922_67 : decode cJ7_rangeCheck_23922 67 = .ok (.dup, 1) := by decide +kernel
theorem dJ7_rangeCheck_23922_68 : decode cJ7_rangeCheck_23922 68 = .ok (.iload_n 2, 1) := by decide +kernel
theorem dJ7_rangeCheck_23922_69 : decode cJ7_rangeCheck_23922 69 = .ok (.invokespecial 70, 3) := by decide +kernel
theorem dJ7_rangeCheck_23922_72 : decode cJ7_rangeCheck_23922 72 = .ok (.athrow, 1) := by decide +kernel
theorem dJ7_rangeCheck_23922_73 : decode cJ7_rangeCheck_23922 73 = .ok (.return_, 1) := by decide +kernel
theorem dJ7_fill_d0a16_0 : decode cJ7_fill_d0a16 0 = .ok (.iconst 0, 1) := by decide +kernel
theorem dJ7_fill_d0a16_1 : decode cJ7_fill_d0a16 1 = .ok (.istore_n 3, 1) := by decide +kernel
theorem dJ7_fill_d0a16_2 : decode cJ7_fill_d0a16 2 = .ok (.aload_n 0, 1) := by decide +kernel
theorem dJ7_fill_d0a16_3 : decode cJ7_fill_d0a16 3 = .ok (.arraylength, 1) := by decide +kernel
theorem dJ7_fill_d0a16_4 : decode cJ7_fill_d0a16 4 = .ok (.istore 4, 2) := by decide +kernel
theorem dJ7_fill_d0a16_6 : decode cJ7_fill_d0a16 6 = .ok (.iload_n 3, 1) := by decide +kernel
theorem dJ7_fill_d0a16_7 : decode cJ7_fill_d0a16 7 = .ok (.iload 4, 2) := by decide +kernel
theorem dJ7_fill_d0a16_9 : decode cJ7_fill_d0a16 9 = .ok (.if_icmp .ge 13, 3) := by decide +kernel
theorem dJ7_fill_d0a16_12 : decode cJ7_fill_d0a16 12 = .ok (.aload_n 0, 1) := by decide +kernel
theorem dJ7_fill_d0a16_13 : decode cJ7_fill_d0a16 13 = .ok (.iload_n 3, 1) := by decide +kernel
theorem dJ7_fill_d0a16_14 : decode cJ7_fill_d0a16 14 = .ok (.lload_n 1, 1) := by decide +kernel
theorem dJ7_fill_d0a16_15 : decode cJ7_fill_d0a16 15 = .ok (.lastore, 1) := by decide +kernel
theorem dJ7_fill_d0a16_16 : decode cJ7_fill_d0a16 16 = .ok (.iinc 3 1, 3) := by decide +kernel
theorem dJ7_fill_d0a16_19 : decode cJ7_fill_d0a16 19 = .ok (.goto (-13), 3) := by decide +kernel
theorem dJ7_fill_d0a16_22 : decode cJ7_fill_d0a16 22 = .ok (.return_, 1) := by decide +kernel
theorem dJ7_fill_fda19_0 : decode cJ7_fill_fda19 0 = .ok (.aload_n 0, 1) := by decide +kernel
theorem dJ7_fill_fda19_1 : decode cJ7_fill_fda19 1 = .ok (.arraylength, 1) := by decide +kernel
theorem dJ7_fill_fda19_2 : decode cJ7_fill_fda19 2 = .ok (.iload_n 1, 1) := by decide +kernel
theorem dJ7_fill_fda19_3 : decode cJ7_fill_fda19 3 = .ok (.iload_n 2, 1) := by decide +kernel
theorem dJ7_fill_fda19_4 : decode cJ7_fill_fda19 4 = .ok (.invokestatic 13, 3) := by decide +kernel
theorem dJ7_fill_fda19_7 : decode cJ7_fill_fda19 7 = .ok (.iload_n 1, 1) := by decide +kernel
theorem dJ7_fill_fda19_8 : decode cJ7_fill_fda19 8 = .ok (.istore 4, 2) := by decide +kernel
theorem dJ7_fill_fda19_10 : decode cJ7_fill_fda19 10 = .ok (.iload 4, 2) := by decide +kernel
theorem dJ7_fill_fda19_12 : decode cJ7_fill_fda19 12 = .ok (.iload_n 2, 1) := by decide +kernel
theorem dJ7_fill_fda19_13 : decode cJ7_fill_fda19 13 = .ok (.if_icmp .ge 14, 3) := by decide +kernel
theorem dJ7_fill_fda19_16 : decode cJ7_fill_fda19 16 = .ok (.aload_n 0, 1) := by decide +kernel
theorem dJ7_fill_fda19_17 : decode cJ7_fill_fda19 17 = .ok (.iload 4, 2) := by decide +kernel
theorem dJ7_fill_fda19_19 : decode cJ7_fill_fda19 19 = .ok (.iload_n 3, 1) := by decide +kernel
theorem dJ7_fill_fda19_20 : decode cJ7_fill_fda19 20 = .ok (.iastore, 1) := by decide +kernel
theorem dJ7_fill_fda19_21 : decode cJ7_fill_fda19 21 = .ok (.iinc 4 1, 3) := by decide +kernel
theorem dJ7_fill_fda19_24 : decode cJ7_fill_fda19 24 = .ok (.goto (-14), 3) := by decide +kernel
theorem dJ7_fill_fda19_27 : decode cJ7_fill_fda19 27 = .ok (.return_, 1) := by decide +kernel
theorem dL_law_0 : decode cL_law 0 = .ok (.new 7, 3) := by decide +kernel
theorem dL_law_3 : decode cL_law 3 = .ok (.dup, 1) := by decide +kernel
theorem dL_law_4 : decode cL_law 4 = .ok (.invokespecial 9, 3) := by decide +kernel
theorem dL_law_7 : decode cL_law 7 = .ok (.astore_n 1, 1) := by decide +kernel
theorem dL_law_8 : decode cL_law 8 = .ok (.new 10, 3) := by decide +kernel
theorem dL_law_11 : decode cL_law 11 = .ok (.dup, 1) := by decide +kernel
theorem dL_law_12 : decode cL_law 12 = .ok (.invokespecial 12, 3) := by decide +kernel
theorem dL_law_15 : decode cL_law 15 = .ok (.astore_n 2, 1) := by decide +kernel
theorem dL_law_16 : decode cL_law 16 = .ok (.iconst 0, 1) := by decide +kernel
theorem dL_law_17 : decode cL_law 17 = .ok (.istore_n 3, 1) := by decide +kernel
theorem dL_law_18 : decode cL_law 18 = .ok (.iload_n 3, 1) := by decide +kernel
theorem dL_law_19 : decode cL_law 19 = .ok (.aload_n 0, 1) := by decide +kernel
theorem dL_law_20 : decode cL_law 20 = .ok (.arraylength, 1) := by decide +kernel
theorem dL_law_21 : decode cL_law 21 = .ok (.bipush 6, 2) := by decide +kernel
theorem dL_law_23 : decode cL_law 23 = .ok (.isub, 1) := by decide +kernel
theorem dL_law_24 : decode cL_law 24 = .ok (.if_icmp .gt 1656, 3) := by decide +kernel
theorem dL_law_27 : decode cL_law 27 = .ok (.aload_n 0, 1) := by decide +kernel
theorem dL_law_28 : decode cL_law 28 = .ok (.iload_n 3, 1) := by decide +kernel
theorem dL_law_29 : decode cL_law 29 = .ok (.iaload, 1) := by decide +kernel
theorem dL_law_30 : decode cL_law 30 = .ok (.bipush 63, 2) := by decide +kernel
theorem dL_law_32 : decode cL_law 32 = .ok (.iand, 1) := by decide +kernel
theorem dL_law_33 : decode cL_law 33 = .ok (.tableswitch 1641 0 48 #[211, 244, 287, 320, 343, 406, 429, 462, 505, 528, 551, 584, 617, 640, 673, 696, 719, 742, 765, 788, 821, 844, 877, 910, 963, 996, 1019, 1042, 1065, 1098, 1121, 1154, 1167, 1190, 1223, 1256, 1289, 1322, 1355, 1388, 1441, 1494, 1527, 1540, 1554, 1568, 1591, 1604, 1627], 211) := by decide +kernel
theorem dL_law_244 : decode cL_law 244 = .ok (.aload_n 1, 1) := by decide +kernel
theorem dL_law_245 : decode cL_law 245 = .ok (.aload_n 0, 1) := by decide +kernel
theorem dL_law_246 : decode cL_law 246 = .ok (.iload_n 3, 1) := by decide +kernel
theorem dL_law_247 : decode cL_law 247 = .ok (.iconst 1, 1) := by decide +kernel
theorem dL_law_248 : decode cL_law 248 = .ok (.iadd, 1) := by decide +kernel
theorem dL_law_249 : decode cL_law 249 = .ok (.iaload, 1) := by decide +kernel
theorem dL_law_250 : decode cL_law 250 = .ok (.aload_n 0, 1) := by decide +kernel
theorem dL_law_251 : decode cL_law 251 = .ok (.iload_n 3, 1) := by decide +kernel
theorem dL_law_252 : decode cL_law 252 = .ok (.iconst 2, 1) := by decide +kernel
theorem dL_law_253 : decode cL_law 253 = .ok (.iadd, 1) := by decide +kernel
theorem dL_law_254 : decode cL_law 254 = .ok (.iaload, 1) := by decide +kernel
theorem dL_law_255 : decode cL_law 255 = .ok (.invokevirtual 13, 3) := by decide +kernel
theorem dL_law_258 : decode cL_law 258 = .ok (.aload_n 2, 1) := by decide +kernel
theorem dL_law_259 : decode cL_law 259 = .ok (.aload_n 0, 1) := by decide +kernel
theorem dL_law_260 : decode cL_law 260 = .ok (.iload_n 3, 1) := by decide +kernel
theorem dL_law_261 : decode cL_law 261 = .ok (.iconst 1, 1) := by decide +kernel
theorem dL_law_262 : decode cL_law 262 = .ok (.iadd, 1) := by decide +kernel
theorem dL_law_263 : decode cL_law 263 = .ok (.iaload, 1) := by decide +kernel
theorem dL_law_264 : decode cL_law 264 = .ok (.aload_n 0, 1) := by decide +kernel
theorem dL_law_265 : decode cL_law 265 = .ok (.iload_n 3, 1) := by decide +kernel
theorem dL_law_266 : decode cL_law 266 = .ok (.iconst 2, 1) := by decide +kernel
theorem dL_law_267 : decode cL_law 267 = .ok (.iadd, 1) := by decide +kernel
theorem dL_law_268 : decode cL_law 268 = .ok (.iaload, 1) := by decide +kernel
theorem dL_law_269 : decode cL_law 269 = .ok (.invokevirtual 17, 3) := by decide +kernel
theorem dL_law_272 : decode cL_law 272 = .ok (.if_icmp .eq 1402, 3) := by decide +kernel
theorem dL_law_275 : decode cL_law 275 = .ok (.iconst 0, 1) := by decide +kernel
theorem dL_law_276 : decode cL_law 276 = .ok (.ireturn, 1) := by decide +kernel
theorem dL_law_277 : decode cL_law 277 = .ok (.aload_n 1, 1) := by decide +kernel
theorem dL_law_278 : decode cL_law 278 = .ok (.aload_n 0, 1) := by decide +kernel
theorem dL_law_279 : decode cL_law 279 = .ok (.iload_n 3, 1) := by decide +kernel
theorem dL_law_280 : decode cL_law 280 = .ok (.iconst 1, 1) := by decide +kernel
theorem dL_law_281 : decode cL_law 281 = .ok (.iadd, 1) := by decide +kernel
theorem dL_law_282 : decode cL_law 282 = .ok (.iaload, 1) := by decide +kernel
theorem dL_law_283 : decode cL_law 283 = .ok (.aload_n 0, 1) := by decide +kernel
theorem dL_law_284 : decode cL_law 284 = .ok (.iload_n 3, 1) := by decide +kernel
theorem dL_law_285 : decode cL_law 285 = .ok (.iconst 2, 1) := by decide +kernel
theorem dL_law_286 : decode cL_law 286 = .ok (.iadd, 1) := by decide +kernel
theorem dL_law_287 : decode cL_law 287 = .ok (.iaload, 1) := by decide +kernel
theorem dL_law_288 : decode cL_law 288 = .ok (.aload_n 0, 1) := by decide +kernel
theorem dL_law_289 : decode cL_law 289 = .ok (.iload_n 3, 1) := by decide +kernel
theorem dL_law_290 : decode cL_law 290 = .ok (.iconst 3, 1) := by decide +kernel
theorem dL_law_291 : decode cL_law 291 = .ok (.iadd, 1) := by decide +kernel
theorem dL_law_292 : decode cL_law 292 = .ok (.iaload, 1) := by decide +kernel
theorem dL_law_293 : decode cL_law 293 = .ok (.invokevirtual 18, 3) := by decide +kernel
theorem dL_law_296 : decode cL_law 296 = .ok (.aload_n 2, 1) := by decide +kernel
theorem dL_law_297 : decode cL_law 297 = .ok (.aload_n 0, 1) := by decide +kernel
theorem dL_law_298 : decode cL_law 298 = .ok (.iload_n 3, 1) := by decide +kernel
theorem dL_law_299 : decode cL_law 299 = .ok (.iconst 1, 1) := by decide +kernel
theorem dL_law_300 : decode cL_law 300 = .ok (.iadd, 1) := by decide +kernel
theorem dL_law_301 : decode cL_law 301 = .ok (.iaload, 1) := by decide +kernel
theorem dL_law_302 : decode cL_law 302 = .ok (.aload_n 0, 1) := by decide +kernel
theorem dL_law_303 : decode cL_law 303 = .ok (.iload_n 3, 1) := by decide +kernel
theorem dL_law_304 : decode cL_law 304 = .ok (.iconst 2, 1) := by decide +kernel
theorem dL_law_305 : decode cL_law 305 = .ok (.iadd, 1) := by decide +kernel
theorem dL_law_306 : decode cL_law 306 = .ok (.iaload, 1) := by decide +kernel
theorem dL_law_307 : decode cL_law 307 = .ok (.aload_n 0, 1) := by decide +kernel
theorem dL_law_308 : decode cL_law 308 = .ok (.iload_n 3, 1) := by decide +kernel
theorem dL_law_309 : decode cL_law 309 = .ok (.iconst 3, 1) := by decide +kernel
theorem dL_law_310 : decode cL_law 310 = .ok (.iadd, 1) := by decide +kernel
theorem dL_law_311 : decode cL_law 311 = .ok (.iaload, 1) := by decide +kernel
theorem dL_law_312 : decode cL_law 312 = .ok (.invokevirtual 22, 3) := by decide +kernel
theorem dL_law_315 : decode cL_law 315 = .ok (.if_icmp .eq 1359, 3) := by decide +kernel
theorem dL_law_318 : decode cL_law 318 = .ok (.iconst 0, 1) := by decide +kernel
theorem dL_law_319 : decode cL_law 319 = .ok (.ireturn, 1) := by decide +kernel
theorem dL_law_320 : decode cL_law 320 = .ok (.aload_n 1, 1) := by decide +kernel
theorem dL_law_321 : decode cL_law 321 = .ok (.aload_n 0, 1) := by decide +kernel
theorem dL_law_322 : decode cL_law 322 = .ok (.iload_n 3, 1) := by decide +kernel
theorem dL_law_323 : decode cL_law 323 = .ok (.iconst 1, 1) := by decide +kernel
theorem dL_law_324 : decode cL_law 324 = .ok (.iadd, 1) := by decide +kernel
theorem dL_law_325 : decode cL_law 325 = .ok (.iaload, 1) := by decide +kernel
theorem dL_law_326 : decode cL_law 326 = .ok (.aload_n 0, 1) := by decide +kernel
theorem dL_law_327 : decode cL_law 327 = .ok (.iload_n 3, 1) := by decide +kernel
theorem dL_law_328 : decode cL_law 328 = .ok (.iconst 2, 1) := by decide +kernel
theorem dL_law_329 : decode cL_law 329 = .ok (.iadd, 1) := by decide +kernel
theorem dL_law_330 : decode cL_law 330 = .ok (.iaload, 1) := by decide +kernel
theorem dL_law_331 : decode cL_law 331 = .ok (.invokevirtual 23, 3) := by decide +kernel
theorem dL_law_334 : decode cL_law 334 = .ok (.aload_n 2, 1) := by decide +kernel
theorem dL_law_335 : decode cL_law 335 = .ok (.aload_n 0, 1) := by decide +kernel
theorem dL_law_336 : decode cL_law 336 = .ok (.iload_n 3, 1) := by decide +kernel
theorem dL_law_337 : decode cL_law 337 = .ok (.iconst 1, 1) := by decide +kernel
theorem dL_law_338 : decode cL_law 338 = .ok (.iadd, 1) := by decide +kernel
theorem dL_law_339 : decode cL_law 339 = .ok (.iaload, 1) := by decide +kernel
theorem dL_law_340 : decode cL_law 340 = .ok (.aload_n 0, 1) := by decide +kernel
theorem dL_law_341 : decode cL_law 341 = .ok (.iload_n 3, 1) := by decide +kernel
theorem dL_law_342 : decode cL_law 342 = .ok (.iconst 2, 1) := by decide +kernel
theorem dL_law_343 : decode cL_law 343 = .ok (.iadd, 1) := by decide +kernel
theorem dL_law_344 : decode cL_law 344 = .ok (.iaload, 1) := by decide +kernel
theorem dL_law_345 : decode cL_law 345 = .ok (.invokevirtual 26, 3) := by decide +kernel
theorem dL_law_348 : decode cL_law 348 = .ok (.if_icmp .eq 1326, 3) := by decide +kernel
theorem dL_law_351 : decode cL_law 351 = .ok (.iconst 0, 1) := by decide +kernel
theorem dL_law_352 : decode cL_law 352 = .ok (.ireturn, 1) := by decide +kernel
theorem dL_law_353 : decode cL_law 353 = .ok (.aload_n 1, 1) := by decide +kernel
theorem dL_law_354 : decode cL_law 354 = .ok (.aload_n 0, 1) := by decide +kernel
theorem dL_law_355 : decode cL_law 355 = .ok (.iload_n 3, 1) := by decide +kernel
theorem dL_law_356 : decode cL_law 356 = .ok (.iconst 1, 1) := by decide +kernel
theorem dL_law_357 : decode cL_law 357 = .ok (.iadd, 1) := by decide +kernel
theorem dL_law_358 : decode cL_law 358 = .ok (.iaload, 1) := by decide +kernel
theorem dL_law_359 : decode cL_law 359 = .ok (.invokevirtual 27, 3) := by decide +kernel
theorem dL_law_362 : decode cL_law 362 = .ok (.aload_n 2, 1) := by decide +kernel
theorem dL_law_363 : decode cL_law 363 = .ok (.aload_n 0, 1) := by decide +kernel
theorem dL_law_364 : decode cL_law 364 = .ok (.iload_n 3, 1) := by decide +kernel
theorem dL_law_365 : decode cL_law 365 = .ok (.iconst 1, 1) := by decide +kernel
theorem dL_law_366 : decode cL_law 366 = .ok (.iadd, 1) := by decide +kernel
theorem dL_law_367 : decode cL_law 367 = .ok (.iaload, 1) := by decide +kernel
theorem dL_law_368 : decode cL_law 368 = .ok (.invokevirtual 31, 3) := by decide +kernel
theorem dL_law_371 : decode cL_law 371 = .ok (.if_icmp .eq 1303, 3) := by decide +kernel
theorem dL_law_374 : decode cL_law 374 = .ok (.iconst 0, 1) := by decide +kernel
theorem dL_law_375 : decode cL_law 375 = .ok (.ireturn, 1) := by decide +kernel
theorem dL_law_376 : decode cL_law 376 = .ok (.aload_n 1, 1) := by decide +kernel
theorem dL_law_377 : decode cL_law 377 = .ok (.aload_n 0, 1) := by decide +kernel
theorem dL_law_378 : decode cL_law 378 = .ok (.iload_n 3, 1) := by decide +kernel
theorem dL_law_379 : decode cL_law 379 = .ok (.iconst 1, 1) := by decide +kernel
theorem dL_law_380 : decode cL_law 380 = .ok (.iadd, 1) := by decide +kernel
theorem dL_law_381 : decode cL_law 381 = .ok (.iaload, 1) := by decide +kernel
theorem dL_law_382 : decode cL_law 382 = .ok (.aload_n 0, 1) := by decide +kernel
theorem dL_law_383 : decode cL_law 383 = .ok (.iload_n 3, 1) := by decide +kernel
theorem dL_law_384 : decode cL_law 384 = .ok (.iconst 2, 1) := by decide +kernel
theorem dL_law_385 : decode cL_law 385 = .ok (.iadd, 1) := by decide +kernel
theorem dL_law_386 : decode cL_law 386 = .ok (.iaload, 1) := by decide +kernel
theorem dL_law_387 : decode cL_law 387 = .ok (.aload_n 0, 1) := by decide +kernel
theorem dL_law_388 : decode cL_law 388 = .ok (.iload_n 3, 1) := by decide +kernel
theorem dL_law_389 : decode cL_law 389 = .ok (.iconst 3, 1) := by decide +kernel
theorem dL_law_390 : decode cL_law 390 = .ok (.iadd, 1) := by decide +kernel
theorem dL_law_391 : decode cL_law 391 = .ok (.iaload, 1) := by decide +kernel
theorem dL_law_392 : decode cL_law 392 = .ok (.aload_n 0, 1) := by decide +kernel
theorem dL_law_393 : decode cL_law 393 = .ok (.iload_n 3, 1) := by decide +kernel
theorem dL_law_394 : decode cL_law 394 = .ok (.iconst 4, 1) := by decide +kernel
theorem dL_law_395 : decode cL_law 395 = .ok (.iadd, 1) := by decide +kernel
theorem dL_law_396 : decode cL_law 396 = .ok (.iaload, 1) := by decide +kernel
theorem dL_law_397 : decode cL_law 397 = .ok (.aload_n 0, 1) := by decide +kernel
theorem dL_law_398 : decode cL_law 398 = .ok (.iload_n 3, 1) := by decide +kernel
theorem dL_law_399 : decode cL_law 399 = .ok (.iconst 5, 1) := by decide +kernel
theorem dL_law_400 : decode cL_law 400 = .ok (.iadd, 1) := by decide +kernel
theorem dL_law_401 : decode cL_law 401 = .ok (.iaload, 1) := by decide +kernel
theorem dL_law_402 : decode cL_law 402 = .ok (.invokevirtual 32, 3) := by decide +kernel
theorem dL_law_405 : decode cL_law 405 = .ok (.aload_n 2, 1) := by decide +kernel
theorem dL_law_406 : decode cL_law 406 = .ok (.aload_n 0, 1) := by decide +kernel
theorem dL_law_407 : decode cL_law 407 = .ok (.iload_n 3, 1) := by decide +kernel
theorem dL_law_408 : decode cL_law 408 = .ok (.iconst 1, 1) := by decide +kernel
theorem dL_law_409 : decode cL_law 409 = .ok (.iadd, 1) := by decide +kernel
theorem dL_law_410 : decode cL_law 410 = .ok (.iaload, 1) := by decide +kernel
theorem dL_law_411 : decode cL_law 411 = .ok (.aload_n 0, 1) := by decide +kernel
theorem dL_law_412 : decode cL_law 412 = .ok (.iload_n 3, 1) := by decide +kernel
theorem dL_law_413 : decode cL_law 413 = .ok (.iconst 2, 1) := by decide +kernel
theorem dL_law_414 : decode cL_law 414 = .ok (.iadd, 1) := by decide +kernel
theorem dL_law_415 : decode cL_law 415 = .ok (.iaload, 1) := by decide +kernel
theorem dL_law_416 : decode cL_law 416 = .ok (.aload_n 0, 1) := by decide +kernel
theorem dL_law_417 : decode cL_law 417 = .ok (.iload_n 3, 1) := by decide +kernel
theorem dL_law_418 : decode cL_law 418 = .ok (.iconst 3, 1) := by decide +kernel
theorem dL_law_419 : decode cL_law 419 = .ok (.iadd, 1) := by decide +kernel
theorem dL_law_420 : decode cL_law 420 = .ok (.iaload, 1) := by decide +kernel
theorem dL_law_421 : decode cL_law 421 = .ok (.aload_n 0, 1) := by decide +kernel
theorem dL_law_422 : decode cL_law 422 = .ok (.iload_n 3, 1) := by decide +kernel
theorem dL_law_423 : decode cL_law 423 = .ok (.iconst 4, 1) := by decide +kernel
theorem dL_law_424 : decode cL_law 424 = .ok (.iadd, 1) := by decide +kernel
theorem dL_law_425 : decode cL_law 425 = .ok (.iaload, 1) := by decide +kernel
theorem dL_law_426 : decode cL_law 426 = .ok (.aload_n 0, 1) := by decide +kernel
theorem dL_law_427 : decode cL_law 427 = .ok (.iload_n 3, 1) := by decide +kernel
theorem dL_law_428 : decode cL_law 428 = .ok (.iconst 5, 1) := by decide +kernel
theorem dL_law_429 : decode cL_law 429 = .ok (.iadd, 1) := by decide +kernel
theorem dL_law_430 : decode cL_law 430 = .ok (.iaload, 1) := by decide +kernel
theorem dL_law_431 : decode cL_law 431 = .ok (.invokevirtual 36, 3) := by decide +kernel
theorem dL_law_434 : decode cL_law 434 = .ok (.if_icmp .eq 1240, 3) := by decide +kernel
theorem dL_law_437 : decode cL_law 437 = .ok (.iconst 0, 1) := by decide +kernel
theorem dL_law_438 : decode cL_law 438 = .ok (.ireturn, 1) := by decide +kernel
theorem dL_law_439 : decode cL_law 439 = .ok (.aload_n 1, 1) := by decide +kernel
theorem dL_law_440 : decode cL_law 440 = .ok (.aload_n 0, 1) := by decide +kernel
theorem dL_law_441 : decode cL_law 441 = .ok (.iload_n 3, 1) := by decide +kernel
theorem dL_law_442 : decode cL_law 442 = .ok (.iconst 1, 1) := by decide +kernel
theorem dL_law_443 : decode cL_law 443 = .ok (.iadd, 1) := by decide +kernel
theorem dL_law_444 : decode cL_law 444 = .ok (.iaload, 1) := by decide +kernel
theorem dL_law_445 : decode cL_law 445 = .ok (.invokevirtual 37, 3) := by decide +kernel
theorem dL_law_448 : decode cL_law 448 = .ok (.aload_n 2, 1) := by decide +kernel
theorem dL_law_449 : decode cL_law 449 = .ok (.aload_n 0, 1) := by decide +kernel
theorem dL_law_450 : decode cL_law 450 = .ok (.iload_n 3, 1) := by decide +kernel
theorem dL_law_451 : decode cL_law 451 = .ok (.iconst 1, 1) := by decide +kernel
theorem dL_law_452 : decode cL_law 452 = .ok (.iadd, 1) := by decide +kernel
theorem dL_law_453 : decode cL_law 453 = .ok (.iaload, 1) := by decide +kernel
theorem dL_law_454 : decode cL_law 454 = .ok (.invokevirtual 40, 3) := by decide +kernel
theorem dL_law_457 : decode cL_law 457 = .ok (.if_icmp .eq 1217, 3) := by decide +kernel
theorem dL_law_460 : decode cL_law 460 = .ok (.iconst 0, 1) := by decide +kernel
theorem dL_law_461 : decode cL_law 461 = .ok (.ireturn, 1) := by decide +kernel
theorem dL_law_462 : decode cL_law 462 = .ok (.aload_n 1, 1) := by decide +kernel
theorem dL_law_463 : decode cL_law 463 = .ok (.aload_n 0, 1) := by decide +kernel
theorem dL_law_464 : decode cL_law 464 = .ok (.iload_n 3, 1) := by decide +kernel
theorem dL_law_465 : decode cL_law 465 = .ok (.iconst 1, 1) := by decide +kernel
theorem dL_law_466 : decode cL_law 466 = .ok (.iadd, 1) := by decide +kernel
theorem dL_law_467 : decode cL_law 467 = .ok (.iaload, 1) := by decide +kernel
theorem dL_law_468 : decode cL_law 468 = .ok (.aload_n 0, 1) := by decide +kernel
theorem dL_law_469 : decode cL_law 469 = .ok (.iload_n 3, 1) := by decide +kernel
theorem dL_law_470 : decode cL_law 470 = .ok (.iconst 2, 1) := by decide +kernel
theorem dL_law_471 : decode cL_law 471 = .ok (.iadd, 1) := by decide +kernel
theorem dL_law_472 : decode cL_law 472 = .ok (.iaload, 1) := by decide +kernel
theorem dL_law_473 : decode cL_law 473 = .ok (.invokevirtual 41, 3) := by decide +kernel
theorem dL_law_476 : decode cL_law 476 = .ok (.aload_n 2, 1) := by decide +kernel
theorem dL_law_477 : decode cL_law 477 = .ok (.aload_n 0, 1) := by decide +kernel
theorem dL_law_478 : decode cL_law 478 = .ok (.iload_n 3, 1) := by decide +kernel
theorem dL_law_479 : decode cL_law 479 = .ok (.iconst 1, 1) := by decide +kernel
theorem dL_law_480 : decode cL_law 480 = .ok (.iadd, 1) := by decide +kernel
theorem dL_law_481 : decode cL_law 481 = .ok (.iaload, 1) := by decide +kernel
theorem dL_law_482 : decode cL_law 482 = .ok (.aload_n 0, 1) := by decide +kernel
theorem dL_law_483 : decode cL_law 483 = .ok (.iload_n 3, 1) := by decide +kernel
theorem dL_law_484 : decode cL_law 484 = .ok (.iconst 2, 1) := by decide +kernel
theorem dL_law_485 : decode cL_law 485 = .ok (.iadd, 1) := by decide +kernel
theorem dL_law_486 : decode cL_law 486 = .ok (.iaload, 1) := by decide +kernel
theorem dL_law_487 : decode cL_law 487 = .ok (.invokevirtual 44, 3) := by decide +kernel
theorem dL_law_490 : decode cL_law 490 = .ok (.if_icmp .eq 1184, 3) := by decide +kernel
theorem dL_law_493 : decode cL_law 493 = .ok (.iconst 0, 1) := by decide +kernel
theorem dL_law_494 : decode cL_law 494 = .ok (.ireturn, 1) := by decide +kernel
theorem dL_law_495 : decode cL_law 495 = .ok (.aload_n 1, 1) := by decide +kernel
theorem dL_law_496 : decode cL_law 496 = .ok (.aload_n 0, 1) := by decide +kernel
theorem dL_law_497 : decode cL_law 497 = .ok (.iload_n 3, 1) := by decide +kernel
theorem dL_law_498 : decode cL_law 498 = .ok (.iconst 1, 1) := by decide +kernel
theorem dL_law_499 : decode cL_law 499 = .ok (.iadd, 1) := by decide +kernel
theorem dL_law_500 : decode cL_law 500 = .ok (.iaload, 1) := by decide +kernel
theorem dL_law_501 : decode cL_law 501 = .ok (.aload_n 0, 1) := by decide +kernel
theorem dL_law_502 : decode cL_law 502 = .ok (.iload_n 3, 1) := by decide +kernel
theorem dL_law_503 : decode cL_law 503 = .ok (.iconst 2, 1) := by decide +kernel
theorem dL_law_504 : decode cL_law 504 = .ok (.iadd, 1) := by decide +kernel
theorem dL_law_505 : decode cL_law 505 = .ok (.iaload, 1) := by decide +kernel
theorem dL_law_506 : decode cL_law 506 = .ok (.aload_n 0, 1) := by decide +kernel
theorem dL_law_507 : decode cL_law 507 = .ok (.iload_n 3, 1) := by decide +kernel
theorem dL_law_508 : decode cL_law 508 = .ok (.iconst 3, 1) := by decide +kernel
theorem dL_law_509 : decode cL_law 509 = .ok (.iadd, 1) := by decide +kernel
theorem dL_law_510 : decode cL_law 510 = .ok (.iaload, 1) := by decide +kernel
theorem dL_law_511 : decode cL_law 511 = .ok (.invokevirtual 45, 3) := by decide +kernel
theorem dL_law_514 : decode cL_law 514 = .ok (.aload_n 2, 1) := by decide +kernel
theorem dL_law_515 : decode cL_law 515 = .ok (.aload_n 0, 1) := by decide +kernel
theorem dL_law_516 : decode cL_law 516 = .ok (.iload_n 3, 1) := by decide +kernel
theorem dL_law_517 : decode cL_law 517 = .ok (.iconst 1, 1) := by decide +kernel
theorem dL_law_518 : decode cL_law 518 = .ok (.iadd, 1) := by decide +kernel
theorem dL_law_519 : decode cL_law 519 = .ok (.iaload, 1) := by decide +kernel
theorem dL_law_520 : decode cL_law 520 = .ok (.aload_n 0, 1) := by decide +kernel
theorem dL_law_521 : decode cL_law 521 = .ok (.iload_n 3, 1) := by decide +kernel
theorem dL_law_522 : decode cL_law 522 = .ok (.iconst 2, 1) := by decide +kernel
theorem dL_law_523 : decode cL_law 523 = .ok (.iadd, 1) := by decide +kernel
theorem dL_law_524 : decode cL_law 524 = .ok (.iaload, 1) := by decide +kernel
theorem dL_law_525 : decode cL_law 525 = .ok (.aload_n 0, 1) := by decide +kernel
theorem dL_law_526 : decode cL_law 526 = .ok (.iload_n 3, 1) := by decide +kernel
theorem dL_law_527 : decode cL_law 527 = .ok (.iconst 3, 1) := by decide +kernel
theorem dL_law_528 : decode cL_law 528 = .ok (.iadd, 1) := by decide +kernel
theorem dL_law_529 : decode cL_law 529 = .ok (.iaload, 1) := by decide +kernel
theorem dL_law_530 : decode cL_law 530 = .ok (.invokevirtual 48, 3) := by decide +kernel
theorem dL_law_533 : decode cL_law 533 = .ok (.if_icmp .eq 1141, 3) := by decide +kernel
theorem dL_law_536 : decode cL_law 536 = .ok (.iconst 0, 1) := by decide +kernel
theorem dL_law_537 : decode cL_law 537 = .ok (.ireturn, 1) := by decide +kernel
theorem dL_law_538 : decode cL_law 538 = .ok (.aload_n 1, 1) := by decide +kernel
theorem dL_law_539 : decode cL_law 539 = .ok (.aload_n 0, 1) := by decide +kernel
theorem dL_law_540 : decode cL_law 540 = .ok (.iload_n 3, 1) := by decide +kernel
theorem dL_law_541 : decode cL_law 541 = .ok (.iconst 1, 1) := by decide +kernel
theorem dL_law_542 : decode cL_law 542 = .ok (.iadd, 1) := by decide +kernel
theorem dL_law_543 : decode cL_law 543 = .ok (.iaload, 1) := by decide +kernel
theorem dL_law_544 : decode cL_law 544 = .ok (.invokevirtual 49, 3) := by decide +kernel
theorem dL_law_547 : decode cL_law 547 = .ok (.aload_n 2, 1) := by decide +kernel
theorem dL_law_548 : decode cL_law 548 = .ok (.aload_n 0, 1) := by decide +kernel
theorem dL_law_549 : decode cL_law 549 = .ok (.iload_n 3, 1) := by decide +kernel
theorem dL_law_550 : decode cL_law 550 = .ok (.iconst 1, 1) := by decide +kernel
theorem dL_law_551 : decode cL_law 551 = .ok (.iadd, 1) := by decide +kernel
theorem dL_law_552 : decode cL_law 552 = .ok (.iaload, 1) := by decide +kernel
theorem dL_law_553 : decode cL_law 553 = .ok (.invokevirtual 52, 3) := by decide +kernel
theorem dL_law_556 : decode cL_law 556 = .ok (.if_icmp .eq 1118, 3) := by decide +kernel
theorem dL_law_559 : decode cL_law 559 = .ok (.iconst 0, 1) := by decide +kernel
theorem dL_law_560 : decode cL_law 560 = .ok (.ireturn, 1) := by decide +kernel
theorem dL_law_561 : decode cL_law 561 = .ok (.aload_n 1, 1) := by decide +kernel
theorem dL_law_562 : decode cL_law 562 = .ok (.aload_n 0, 1) := by decide +kernel
theorem dL_law_563 : decode cL_law 563 = .ok (.iload_n 3, 1) := by decide +kernel
theorem dL_law_564 : decode cL_law 564 = .ok (.iconst 1, 1) := by decide +kernel
theorem dL_law_565 : decode cL_law 565 = .ok (.iadd, 1) := by decide +kernel
theorem dL_law_566 : decode cL_law 566 = .ok (.iaload, 1) := by decide +kernel
theorem dL_law_567 : decode cL_law 567 = .ok (.invokevirtual 53, 3) := by decide +kernel
theorem dL_law_570 : decode cL_law 570 = .ok (.aload_n 2, 1) := by decide +kernel
theorem dL_law_571 : decode cL_law 571 = .ok (.aload_n 0, 1) := by decide +kernel
theorem dL_law_572 : decode cL_law 572 = .ok (.iload_n 3, 1) := by decide +kernel
theorem dL_law_573 : decode cL_law 573 = .ok (.iconst 1, 1) := by decide +kernel
theorem dL_law_574 : decode cL_law 574 = .ok (.iadd, 1) := by decide +kernel
theorem dL_law_575 : decode cL_law 575 = .ok (.iaload, 1) := by decide +kernel
theorem dL_law_576 : decode cL_law 576 = .ok (.invokevirtual 56, 3) := by decide +kernel
theorem dL_law_579 : decode cL_law 579 = .ok (.if_icmp .eq 1095, 3) := by decide +kernel
theorem dL_law_582 : decode cL_law 582 = .ok (.iconst 0, 1) := by decide +kernel
theorem dL_law_583 : decode cL_law 583 = .ok (.ireturn, 1) := by decide +kernel
theorem dL_law_584 : decode cL_law 584 = .ok (.aload_n 1, 1) := by decide +kernel
theorem dL_law_585 : decode cL_law 585 = .ok (.aload_n 0, 1) := by decide +kernel
theorem dL_law_586 : decode cL_law 586 = .ok (.iload_n 3, 1) := by decide +kernel
theorem dL_law_587 : decode cL_law 587 = .ok (.iconst 1, 1) := by decide +kernel
theorem dL_law_588 : decode cL_law 588 = .ok (.iadd, 1) := by decide +kernel
theorem dL_law_589 : decode cL_law 589 = .ok (.iaload, 1) := by decide +kernel
theorem dL_law_590 : decode cL_law 590 = .ok (.aload_n 0, 1) := by decide +kernel
theorem dL_law_591 : decode cL_law 591 = .ok (.iload_n 3, 1) := by decide +kernel
theorem dL_law_592 : decode cL_law 592 = .ok (.iconst 2, 1) := by decide +kernel
theorem dL_law_593 : decode cL_law 593 = .ok (.iadd, 1) := by decide +kernel
theorem dL_law_594 : decode cL_law 594 = .ok (.iaload, 1) := by decide +kernel
theorem dL_law_595 : decode cL_law 595 = .ok (.invokevirtual 57, 3) := by decide +kernel
theorem dL_law_598 : decode cL_law 598 = .ok (.aload_n 2, 1) := by decide +kernel
theorem dL_law_599 : decode cL_law 599 = .ok (.aload_n 0, 1) := by decide +kernel
theorem dL_law_600 : decode cL_law 600 = .ok (.iload_n 3, 1) := by decide +kernel
theorem dL_law_601 : decode cL_law 601 = .ok (.iconst 1, 1) := by decide +kernel
theorem dL_law_602 : decode cL_law 602 = .ok (.iadd, 1) := by decide +kernel
theorem dL_law_603 : decode cL_law 603 = .ok (.iaload, 1) := by decide +kernel
theorem dL_law_604 : decode cL_law 604 = .ok (.aload_n 0, 1) := by decide +kernel
theorem dL_law_605 : decode cL_law 605 = .ok (.iload_n 3, 1) := by decide +kernel
theorem dL_law_606 : decode cL_law 606 = .ok (.iconst 2, 1) := by decide +kernel
theorem dL_law_607 : decode cL_law 607 = .ok (.iadd, 1) := by decide +kernel
theorem dL_law_608 : decode cL_law 608 = .ok (.iaload, 1) := by decide +kernel
theorem dL_law_609 : decode cL_law 609 = .ok (.invokevirtual 60, 3) := by decide +kernel
theorem dL_law_612 : decode cL_law 612 = .ok (.if_icmp .eq 1062, 3) := by decide +kernel
theorem dL_law_615 : decode cL_law 615 = .ok (.iconst 0, 1) := by decide +kernel
theorem dL_law_616 : decode cL_law 616 = .ok (.ireturn, 1) := by decide +kernel
theorem dL_law_617 : decode cL_law 617 = .ok (.aload_n 1, 1) := by decide +kernel
theorem dL_law_618 : decode cL_law 618 = .ok (.aload_n 0, 1) := by decide +kernel
theorem dL_law_619 : decode cL_law 619 = .ok (.iload_n 3, 1) := by decide +kernel
theorem dL_law_620 : decode cL_law 620 = .ok (.iconst 1, 1) := by decide +kernel
theorem dL_law_621 : decode cL_law 621 = .ok (.iadd, 1) := by decide +kernel
theorem dL_law_622 : decode cL_law 622 = .ok (.iaload, 1) := by decide +kernel
theorem dL_law_623 : decode cL_law 623 = .ok (.aload_n 0, 1) := by decide +kernel
theorem dL_law_624 : decode cL_law 624 = .ok (.iload_n 3, 1) := by decide +kernel
theorem dL_law_625 : decode cL_law 625 = .ok (.iconst 2, 1) := by decide +kernel
theorem dL_law_626 : decode cL_law 626 = .ok (.iadd, 1) := by decide +kernel
theorem dL_law_627 : decode cL_law 627 = .ok (.iaload, 1) := by decide +kernel
theorem dL_law_628 : decode cL_law 628 = .ok (.invokevirtual 61, 3) := by decide +kernel
theorem dL_law_631 : decode cL_law 631 = .ok (.aload_n 2, 1) := by decide +kernel
theorem dL_law_632 : decode cL_law 632 = .ok (.aload_n 0, 1) := by decide +kernel
theorem dL_law_633 : decode cL_law 633 = .ok (.iload_n 3, 1) := by decide +kernel
theorem dL_law_634 : decode cL_law 634 = .ok (.iconst 1, 1) := by decide +kernel
theorem dL_law_635 : decode cL_law 635 = .ok (.iadd, 1) := by decide +kernel
theorem dL_law_636 : decode cL_law 636 = .ok (.iaload, 1) := by decide +kernel
theorem dL_law_637 : decode cL_law 637 = .ok (.aload_n 0, 1) := by decide +kernel
theorem dL_law_638 : decode cL_law 638 = .ok (.iload_n 3, 1) := by decide +kernel
theorem dL_law_639 : decode cL_law 639 = .ok (.iconst 2, 1) := by decide +kernel
theorem dL_law_640 : decode cL_law 640 = .ok (.iadd, 1) := by decide +kernel
theorem dL_law_641 : decode cL_law 641 = .ok (.iaload, 1) := by decide +kernel
theorem dL_law_642 : decode cL_law 642 = .ok (.invokevirtual 64, 3) := by decide +kernel
theorem dL_law_645 : decode cL_law 645 = .ok (.if_icmp .eq 1029, 3) := by decide +kernel
theorem dL_law_648 : decode cL_law 648 = .ok (.iconst 0, 1) := by decide +kernel
theorem dL_law_649 : decode cL_law 649 = .ok (.ireturn, 1) := by decide +kernel
theorem dL_law_650 : decode cL_law 650 = .ok (.aload_n 1, 1) := by decide +kernel
theorem dL_law_651 : decode cL_law 651 = .ok (.aload_n 0, 1) := by decide +kernel
theorem dL_law_652 : decode cL_law 652 = .ok (.iload_n 3, 1) := by decide +kernel
theorem dL_law_653 : decode cL_law 653 = .ok (.iconst 1, 1) := by decide +kernel
theorem dL_law_654 : decode cL_law 654 = .ok (.iadd, 1) := by decide +kernel
theorem dL_law_655 : decode cL_law 655 = .ok (.iaload, 1) := by decide +kernel
theorem dL_law_656 : decode cL_law 656 = .ok (.invokevirtual 65, 3) := by decide +kernel
theorem dL_law_659 : decode cL_law 659 = .ok (.aload_n 2, 1) := by decide +kernel
theorem dL_law_660 : decode cL_law 660 = .ok (.aload_n 0, 1) := by decide +kernel
theorem dL_law_661 : decode cL_law 661 = .ok (.iload_n 3, 1) := by decide +kernel
theorem dL_law_662 : decode cL_law 662 = .ok (.iconst 1, 1) := by decide +kernel
theorem dL_law_663 : decode cL_law 663 = .ok (.iadd, 1) := by decide +kernel
theorem dL_law_664 : decode cL_law 664 = .ok (.iaload, 1) := by decide +kernel
theorem dL_law_665 : decode cL_law 665 = .ok (.invokevirtual 68, 3) := by decide +kernel
theorem dL_law_668 : decode cL_law 668 = .ok (.if_icmp .eq 1006, 3) := by decide +kernel
theorem dL_law_671 : decode cL_law 671 = .ok (.iconst 0, 1) := by decide +kernel
theorem dL_law_672 : decode cL_law 672 = .ok (.ireturn, 1) := by decide +kernel
theorem dL_law_673 : decode cL_law 673 = .ok (.aload_n 1, 1) := by decide +kernel
theorem dL_law_674 : decode cL_law 674 = .ok (.aload_n 0, 1) := by decide +kernel
theorem dL_law_675 : decode cL_law 675 = .ok (.iload_n 3, 1) := by decide +kernel
theorem dL_law_676 : decode cL_law 676 = .ok (.iconst 1, 1) := by decide +kernel
theorem dL_law_677 : decode cL_law 677 = .ok (.iadd, 1) := by decide +kernel
theorem dL_law_678 : decode cL_law 678 = .ok (.iaload, 1) := by decide +kernel
theorem dL_law_679 : decode cL_law 679 = .ok (.aload_n 0, 1) := by decide +kernel
theorem dL_law_680 : decode cL_law 680 = .ok (.iload_n 3, 1) := by decide +kernel
theorem dL_law_681 : decode cL_law 681 = .ok (.iconst 2, 1) := by decide +kernel
theorem dL_law_682 : decode cL_law 682 = .ok (.iadd, 1) := by decide +kernel
theorem dL_law_683 : decode cL_law 683 = .ok (.iaload, 1) := by decide +kernel
theorem dL_law_684 : decode cL_law 684 = .ok (.invokevirtual 69, 3) := by decide +kernel
theorem dL_law_687 : decode cL_law 687 = .ok (.aload_n 2, 1) := by decide +kernel
theorem dL_law_688 : decode cL_law 688 = .ok (.aload_n 0, 1) := by decide +kernel
theorem dL_law_689 : decode cL_law 689 = .ok (.iload_n 3, 1) := by decide +kernel
theorem dL_law_690 : decode cL_law 690 = .ok (.iconst 1, 1) := by decide +kernel
theorem dL_law_691 : decode cL_law 691 = .ok (.iadd, 1) := by decide +kernel
theorem dL_law_692 : decode cL_law 692 = .ok (.iaload, 1) := by decide +kernel
theorem dL_law_693 : decode cL_law 693 = .ok (.aload_n 0, 1) := by decide +kernel
theorem dL_law_694 : decode cL_law 694 = .ok (.iload_n 3, 1) := by decide +kernel
theorem dL_law_695 : decode cL_law 695 = .ok (.iconst 2, 1) := by decide +kernel
theorem dL_law_696 : decode cL_law 696 = .ok (.iadd, 1) := by decide +kernel
theorem dL_law_697 : decode cL_law 697 = .ok (.iaload, 1) := by decide +kernel
theorem dL_law_698 : decode cL_law 698 = .ok (.invokevirtual 72, 3) := by decide +kernel
theorem dL_law_701 : decode cL_law 701 = .ok (.if_icmp .eq 973, 3) := by decide +kernel
theorem dL_law_704 : decode cL_law 704 = .ok (.iconst 0, 1) := by decide +kernel
theorem dL_law_705 : decode cL_law 705 = .ok (.ireturn, 1) := by decide +kernel
theorem dL_law_706 : decode cL_law 706 = .ok (.aload_n 1, 1) := by decide +kernel
theorem dL_law_707 : decode cL_law 707 = .ok (.aload_n 0, 1) := by decide +kernel
theorem dL_law_708 : decode cL_law 708 = .ok (.iload_n 3, 1) := by decide +kernel
theorem dL_law_709 : decode cL_law 709 = .ok (.iconst 1, 1) := by decide +kernel
theorem dL_law_710 : decode cL_law 710 = .ok (.iadd, 1) := by decide +kernel
theorem dL_law_711 : decode cL_law 711 = .ok (.iaload, 1) := by decide +kernel
theorem dL_law_712 : decode cL_law 712 = .ok (.invokevirtual 73, 3) := by decide +kernel
theorem dL_law_715 : decode cL_law 715 = .ok (.aload_n 2, 1) := by decide +kernel
theorem dL_law_716 : decode cL_law 716 = .ok (.aload_n 0, 1) := by decide +kernel
theorem dL_law_717 : decode cL_law 717 = .ok (.iload_n 3, 1) := by decide +kernel
theorem dL_law_718 : decode cL_law 718 = .ok (.iconst 1, 1) := by decide +kernel
theorem dL_law_719 : decode cL_law 719 = .ok (.iadd, 1) := by decide +kernel
theorem dL_law_720 : decode cL_law 720 = .ok (.iaload, 1) := by decide +kernel
theorem dL_law_721 : decode cL_law 721 = .ok (.invokevirtual 76, 3) := by decide +kernel
theorem dL_law_724 : decode cL_law 724 = .ok (.if_icmp .eq 950, 3) := by decide +kernel
theorem dL_law_727 : decode cL_law 727 = .ok (.iconst 0, 1) := by decide +kernel
theorem dL_law_728 : decode cL_law 728 = .ok (.ireturn, 1) := by decide +kernel
theorem dL_law_729 : decode cL_law 729 = .ok (.aload_n 1, 1) := by decide +kernel
theorem dL_law_730 : decode cL_law 730 = .ok (.aload_n 0, 1) := by decide +kernel
theorem dL_law_731 : decode cL_law 731 = .ok (.iload_n 3, 1) := by decide +kernel
theorem dL_law_732 : decode cL_law 732 = .ok (.iconst 1, 1) := by decide +kernel
theorem dL_law_733 : decode cL_law 733 = .ok (.iadd, 1) := by decide +kernel
theorem dL_law_734 : decode cL_law 734 = .ok (.iaload, 1) := by decide +kernel
theorem dL_law_735 : decode cL_law 735 = .ok (.invokevirtual 77, 3) := by decide +kernel
theorem dL_law_738 : decode cL_law 738 = .ok (.aload_n 2, 1) := by decide +kernel
theorem dL_law_739 : decode cL_law 739 = .ok (.aload_n 0, 1) := by decide +kernel
theorem dL_law_740 : decode cL_law 740 = .ok (.iload_n 3, 1) := by decide +kernel
theorem dL_law_741 : decode cL_law 741 = .ok (.iconst 1, 1) := by decide +kernel
theorem dL_law_742 : decode cL_law 742 = .ok (.iadd, 1) := by decide +kernel
theorem dL_law_743 : decode cL_law 743 = .ok (.iaload, 1) := by decide +kernel
theorem dL_law_744 : decode cL_law 744 = .ok (.invokevirtual 80, 3) := by decide +kernel
theorem dL_law_747 : decode cL_law 747 = .ok (.if_icmp .eq 927, 3) := by decide +kernel
theorem dL_law_750 : decode cL_law 750 = .ok (.iconst 0, 1) := by decide +kernel
theorem dL_law_751 : decode cL_law 751 = .ok (.ireturn, 1) := by decide +kernel
theorem dL_law_752 : decode cL_law 752 = .ok (.aload_n 1, 1) := by decide +kernel
theorem dL_law_753 : decode cL_law 753 = .ok (.aload_n 0, 1) := by decide +kernel
theorem dL_law_754 : decode cL_law 754 = .ok (.iload_n 3, 1) := by decide +kernel
theorem dL_law_755 : decode cL_law 755 = .ok (.iconst 1, 1) := by decide +kernel
theorem dL_law_756 : decode cL_law 756 = .ok (.iadd, 1) := by decide +kernel
theorem dL_law_757 : decode cL_law 757 = .ok (.iaload, 1) := by decide +kernel
theorem dL_law_758 : decode cL_law 758 = .ok (.invokevirtual 81, 3) := by decide +kernel
theorem dL_law_761 : decode cL_law 761 = .ok (.aload_n 2, 1) := by decide +kernel
theorem dL_law_762 : decode cL_law 762 = .ok (.aload_n 0, 1) := by decide +kernel
theorem dL_law_763 : decode cL_law 763 = .ok (.iload_n 3, 1) := by decide +kernel
theorem dL_law_764 : decode cL_law 764 = .ok (.iconst 1, 1) := by decide +kernel
theorem dL_law_765 : decode cL_law 765 = .ok (.iadd, 1) := by decide +kernel
theorem dL_law_766 : decode cL_law 766 = .ok (.iaload, 1) := by decide +kernel
theorem dL_law_767 : decode cL_law 767 = .ok (.invokevirtual 84, 3) := by decide +kernel
theorem dL_law_770 : decode cL_law 770 = .ok (.if_icmp .eq 904, 3) := by decide +kernel
theorem dL_law_773 : decode cL_law 773 = .ok (.iconst 0, 1) := by decide +kernel
theorem dL_law_774 : decode cL_law 774 = .ok (.ireturn, 1) := by decide +kernel
theorem dL_law_775 : decode cL_law 775 = .ok (.aload_n 1, 1) := by decide +kernel
theorem dL_law_776 : decode cL_law 776 = .ok (.aload_n 0, 1) := by decide +kernel
theorem dL_law_777 : decode cL_law 777 = .ok (.iload_n 3, 1) := by decide +kernel
theorem dL_law_778 : decode cL_law 778 = .ok (.iconst 1, 1) := by decide +kernel
theorem dL_law_779 : decode cL_law 779 = .ok (.iadd, 1) := by decide +kernel
theorem dL_law_780 : decode cL_law 780 = .ok (.iaload, 1) := by decide +kernel
theorem dL_law_781 : decode cL_law 781 = .ok (.invokevirtual 85, 3) := by decide +kernel
theorem dL_law_784 : decode cL_law 784 = .ok (.aload_n 2, 1) := by decide +kernel
theorem dL_law_785 : decode cL_law 785 = .ok (.aload_n 0, 1) := by decide +kernel
theorem dL_law_786 : decode cL_law 786 = .ok (.iload_n 3, 1) := by decide +kernel
theorem dL_law_787 : decode cL_law 787 = .ok (.iconst 1, 1) := by decide +kernel
theorem dL_law_788 : decode cL_law 788 = .ok (.iadd, 1) := by decide +kernel
theorem dL_law_789 : decode cL_law 789 = .ok (.iaload, 1) := by decide +kernel
theorem dL_law_790 : decode cL_law 790 = .ok (.invokevirtual 88, 3) := by decide +kernel
theorem dL_law_793 : decode cL_law 793 = .ok (.if_icmp .eq 881, 3) := by decide +kernel
theorem dL_law_796 : decode cL_law 796 = .ok (.iconst 0, 1) := by decide +kernel
theorem dL_law_797 : decode cL_law 797 = .ok (.ireturn, 1) := by decide +kernel
theorem dL_law_798 : decode cL_law 798 = .ok (.aload_n 1, 1) := by decide +kernel
theorem dL_law_799 : decode cL_law 799 = .ok (.aload_n 0, 1) := by decide +kernel
theorem dL_law_800 : decode cL_law 800 = .ok (.iload_n 3, 1) := by decide +kernel
theorem dL_law_801 : decode cL_law 801 = .ok (.iconst 1, 1) := by decide +kernel
theorem dL_law_802 : decode cL_law 802 = .ok (.iadd, 1) := by decide +kernel
theorem dL_law_803 : decode cL_law 803 = .ok (.iaload, 1) := by decide +kernel
theorem dL_law_804 : decode cL_law 804 = .ok (.invokevirtual 89, 3) := by decide +kernel
theorem dL_law_807 : decode cL_law 807 = .ok (.aload_n 2, 1) := by decide +kernel
theorem dL_law_808 : decode cL_law 808 = .ok (.aload_n 0, 1) := by decide +kernel
theorem dL_law_809 : decode cL_law 809 = .ok (.iload_n 3, 1) := by decide +kernel
theorem dL_law_810 : decode cL_law 810 = .ok (.iconst 1, 1) := by decide +kernel
theorem dL_law_811 : decode cL_law 811 = .ok (.iadd, 1) := by decide +kernel
theorem dL_law_812 : decode cL_law 812 = .ok (.iaload, 1) := by decide +kernel
theorem dL_law_813 : decode cL_law 813 = .ok (.invokevirtual 92, 3) := by decide +kernel
theorem dL_law_816 : decode cL_law 816 = .ok (.if_icmp .eq 858, 3) := by decide +kernel
theorem dL_law_819 : decode cL_law 819 = .ok (.iconst 0, 1) := by decide +kernel
theorem dL_law_820 : decode cL_law 820 = .ok (.ireturn, 1) := by decide +kernel
theorem dL_law_821 : decode cL_law 821 = .ok (.aload_n 1, 1) := by decide +kernel
theorem dL_law_822 : decode cL_law 822 = .ok (.aload_n 0, 1) := by decide +kernel
theorem dL_law_823 : decode cL_law 823 = .ok (.iload_n 3, 1) := by decide +kernel
theorem dL_law_824 : decode cL_law 824 = .ok (.iconst 1, 1) := by decide +kernel
theorem dL_law_825 : decode cL_law 825 = .ok (.iadd, 1) := by decide +kernel
theorem dL_law_826 : decode cL_law 826 = .ok (.iaload, 1) := by decide +kernel
theorem dL_law_827 : decode cL_law 827 = .ok (.aload_n 0, 1) := by decide +kernel
theorem dL_law_828 : decode cL_law 828 = .ok (.iload_n 3, 1) := by decide +kernel
theorem dL_law_829 : decode cL_law 829 = .ok (.iconst 2, 1) := by decide +kernel
theorem dL_law_830 : decode cL_law 830 = .ok (.iadd, 1) := by decide +kernel
theorem dL_law_831 : decode cL_law 831 = .ok (.iaload, 1) := by decide +kernel
theorem dL_law_832 : decode cL_law 832 = .ok (.invokevirtual 93, 3) := by decide +kernel
theorem dL_law_835 : decode cL_law 835 = .ok (.aload_n 2, 1) := by decide +kernel
theorem dL_law_836 : decode cL_law 836 = .ok (.aload_n 0, 1) := by decide +kernel
theorem dL_law_837 : decode cL_law 837 = .ok (.iload_n 3, 1) := by decide +kernel
theorem dL_law_838 : decode cL_law 838 = .ok (.iconst 1, 1) := by decide +kernel
theorem dL_law_839 : decode cL_law 839 = .ok (.iadd, 1) := by decide +kernel
theorem dL_law_840 : decode cL_law 840 = .ok (.iaload, 1) := by decide +kernel
theorem dL_law_841 : decode cL_law 841 = .ok (.aload_n 0, 1) := by decide +kernel
theorem dL_law_842 : decode cL_law 842 = .ok (.iload_n 3, 1) := by decide +kernel
theorem dL_law_843 : decode cL_law 843 = .ok (.iconst 2, 1) := by decide +kernel
theorem dL_law_844 : decode cL_law 844 = .ok (.iadd, 1) := by decide +kernel
theorem dL_law_845 : decode cL_law 845 = .ok (.iaload, 1) := by decide +kernel
theorem dL_law_846 : decode cL_law 846 = .ok (.invokevirtual 96, 3) := by decide +kernel
theorem dL_law_849 : decode cL_law 849 = .ok (.if_icmp .eq 825, 3) := by decide +kernel
theorem dL_law_852 : decode cL_law 852 = .ok (.iconst 0, 1) := by decide +kernel
theorem dL_law_853 : decode cL_law 853 = .ok (.ireturn, 1) := by decide +kernel
theorem dL_law_854 : decode cL_law 854 = .ok (.aload_n 1, 1) := by decide +kernel
theorem dL_law_855 : decode cL_law 855 = .ok (.aload_n 0, 1) := by decide +kernel
theorem dL_law_856 : decode cL_law 856 = .ok (.iload_n 3, 1) := by decide +kernel
theorem dL_law_857 : decode cL_law 857 = .ok (.iconst 1, 1) := by decide +kernel
theorem dL_law_858 : decode cL_law 858 = .ok (.iadd, 1) := by decide +kernel
theorem dL_law_859 : decode cL_law 859 = .ok (.iaload, 1) := by decide +kernel
theorem dL_law_860 : decode cL_law 860 = .ok (.invokevirtual 97, 3) := by decide +kernel
theorem dL_law_863 : decode cL_law 863 = .ok (.aload_n 2, 1) := by decide +kernel
theorem dL_law_864 : decode cL_law 864 = .ok (.aload_n 0, 1) := by decide +kernel
theorem dL_law_865 : decode cL_law 865 = .ok (.iload_n 3, 1) := by decide +kernel
theorem dL_law_866 : decode cL_law 866 = .ok (.iconst 1, 1) := by decide +kernel
theorem dL_law_867 : decode cL_law 867 = .ok (.iadd, 1) := by decide +kernel
theorem dL_law_868 : decode cL_law 868 = .ok (.iaload, 1) := by decide +kernel
theorem dL_law_869 : decode cL_law 869 = .ok (.invokevirtual 100, 3) := by decide +kernel
theorem dL_law_872 : decode cL_law 872 = .ok (.if_icmp .eq 802, 3) := by decide +kernel
theorem dL_law_875 : decode cL_law 875 = .ok (.iconst 0, 1) := by decide +kernel
theorem dL_law_876 : decode cL_law 876 = .ok (.ireturn, 1) := by decide +kernel
theorem dL_law_877 : decode cL_law 877 = .ok (.aload_n 1, 1) := by decide +kernel
theorem dL_law_878 : decode cL_law 878 = .ok (.aload_n 0, 1) := by decide +kernel
theorem dL_law_879 : decode cL_law 879 = .ok (.iload_n 3, 1) := by decide +kernel
theorem dL_law_880 : decode cL_law 880 = .ok (.iconst 1, 1) := by decide +kernel
theorem dL_law_881 : decode cL_law 881 = .ok (.iadd, 1) := by decide +kernel
theorem dL_law_882 : decode cL_law 882 = .ok (.iaload, 1) := by decide +kernel
theorem dL_law_883 : decode cL_law 883 = .ok (.aload_n 0, 1) := by decide +kernel
theorem dL_law_884 : decode cL_law 884 = .ok (.iload_n 3, 1) := by decide +kernel
theorem dL_law_885 : decode cL_law 885 = .ok (.iconst 2, 1) := by decide +kernel
theorem dL_law_886 : decode cL_law 886 = .ok (.iadd, 1) := by decide +kernel
theorem dL_law_887 : decode cL_law 887 = .ok (.iaload, 1) := by decide +kernel
theorem dL_law_888 : decode cL_law 888 = .ok (.invokevirtual 101, 3) := by decide +kernel
theorem dL_law_891 : decode cL_law 891 = .ok (.aload_n 2, 1) := by decide +kernel
theorem dL_law_892 : decode cL_law 892 = .ok (.aload_n 0, 1) := by decide +kernel
theorem dL_law_893 : decode cL_law 893 = .ok (.iload_n 3, 1) := by decide +kernel
theorem dL_law_894 : decode cL_law 894 = .ok (.iconst 1, 1) := by decide +kernel
theorem dL_law_895 : decode cL_law 895 = .ok (.iadd, 1) := by decide +kernel
theorem dL_law_896 : decode cL_law 896 = .ok (.iaload, 1) := by decide +kernel
theorem dL_law_897 : decode cL_law 897 = .ok (.aload_n 0, 1) := by decide +kernel
theorem dL_law_898 : decode cL_law 898 = .ok (.iload_n 3, 1) := by decide +kernel
theorem dL_law_899 : decode cL_law 899 = .ok (.iconst 2, 1) := by decide +kernel
theorem dL_law_900 : decode cL_law 900 = .ok (.iadd, 1) := by decide +kernel
theorem dL_law_901 : decode cL_law 901 = .ok (.iaload, 1) := by decide +kernel
theorem dL_law_902 : decode cL_law 902 = .ok (.invokevirtual 104, 3) := by decide +kernel
theorem dL_law_905 : decode cL_law 905 = .ok (.if_icmp .eq 769, 3) := by decide +kernel
theorem dL_law_908 : decode cL_law 908 = .ok (.iconst 0, 1) := by decide +kernel
theorem dL_law_909 : decode cL_law 909 = .ok (.ireturn, 1) := by decide +kernel
theorem dL_law_910 : decode cL_law 910 = .ok (.aload_n 1, 1) := by decide +kernel
theorem dL_law_911 : decode cL_law 911 = .ok (.aload_n 0, 1) := by decide +kernel
theorem dL_law_912 : decode cL_law 912 = .ok (.iload_n 3, 1) := by decide +kernel
theorem dL_law_913 : decode cL_law 913 = .ok (.iconst 1, 1) := by decide +kernel
theorem dL_law_914 : decode cL_law 914 = .ok (.iadd, 1) := by decide +kernel
theorem dL_law_915 : decode cL_law 915 = .ok (.iaload, 1) := by decide +kernel
theorem dL_law_916 : decode cL_law 916 = .ok (.aload_n 0, 1) := by decide +kernel
theorem dL_law_917 : decode cL_law 917 = .ok (.iload_n 3, 1) := by decide +kernel
theorem dL_law_918 : decode cL_law 918 = .ok (.iconst 2, 1) := by decide +kernel
theorem dL_law_919 : decode cL_law 919 = .ok (.iadd, 1) := by decide +kernel
theorem dL_law_920 : decode cL_law 920 = .ok (.iaload, 1) := by decide +kernel
theorem dL_law_921 : decode cL_law 921 = .ok (.invokevirtual 105, 3) := by decide +kernel
theorem dL_law_924 : decode cL_law 924 = .ok (.aload_n 2, 1) := by decide +kernel
theorem dL_law_925 : decode cL_law 925 = .ok (.aload_n 0, 1) := by decide +kernel
theorem dL_law_926 : decode cL_law 926 = .ok (.iload_n 3, 1) := by decide +kernel
theorem dL_law_927 : decode cL_law 927 = .ok (.iconst 1, 1) := by decide +kernel
theorem dL_law_928 : decode cL_law 928 = .ok (.iadd, 1) := by decide +kernel
theorem dL_law_929 : decode cL_law 929 = .ok (.iaload, 1) := by decide +kernel
theorem dL_law_930 : decode cL_law 930 = .ok (.aload_n 0, 1) := by decide +kernel
theorem dL_law_931 : decode cL_law 931 = .ok (.iload_n 3, 1) := by decide +kernel
theorem dL_law_932 : decode cL_law 932 = .ok (.iconst 2, 1) := by decide +kernel
theorem dL_law_933 : decode cL_law 933 = .ok (.iadd, 1) := by decide +kernel
theorem dL_law_934 : decode cL_law 934 = .ok (.iaload, 1) := by decide +kernel
theorem dL_law_935 : decode cL_law 935 = .ok (.invokevirtual 108, 3) := by decide +kernel
theorem dL_law_938 : decode cL_law 938 = .ok (.if_icmp .eq 736, 3) := by decide +kernel
theorem dL_law_941 : decode cL_law 941 = .ok (.iconst 0, 1) := by decide +kernel
theorem dL_law_942 : decode cL_law 942 = .ok (.ireturn, 1) := by decide +kernel
theorem dL_law_943 : decode cL_law 943 = .ok (.aload_n 1, 1) := by decide +kernel
theorem dL_law_944 : decode cL_law 944 = .ok (.aload_n 0, 1) := by decide +kernel
theorem dL_law_945 : decode cL_law 945 = .ok (.iload_n 3, 1) := by decide +kernel
theorem dL_law_946 : decode cL_law 946 = .ok (.iconst 1, 1) := by decide +kernel
theorem dL_law_947 : decode cL_law 947 = .ok (.iadd, 1) := by decide +kernel
theorem dL_law_948 : decode cL_law 948 = .ok (.iaload, 1) := by decide +kernel
theorem dL_law_949 : decode cL_law 949 = .ok (.aload_n 0, 1) := by decide +kernel
theorem dL_law_950 : decode cL_law 950 = .ok (.iload_n 3, 1) := by decide +kernel
theorem dL_law_951 : decode cL_law 951 = .ok (.iconst 2, 1) := by decide +kernel
theorem dL_law_952 : decode cL_law 952 = .ok (.iadd, 1) := by decide +kernel
theorem dL_law_953 : decode cL_law 953 = .ok (.iaload, 1) := by decide +kernel
theorem dL_law_954 : decode cL_law 954 = .ok (.aload_n 0, 1) := by decide +kernel
theorem dL_law_955 : decode cL_law 955 = .ok (.iload_n 3, 1) := by decide +kernel
theorem dL_law_956 : decode cL_law 956 = .ok (.iconst 3, 1) := by decide +kernel
theorem dL_law_957 : decode cL_law 957 = .ok (.iadd, 1) := by decide +kernel
theorem dL_law_958 : decode cL_law 958 = .ok (.iaload, 1) := by decide +kernel
theorem dL_law_959 : decode cL_law 959 = .ok (.aload_n 0, 1) := by decide +kernel
theorem dL_law_960 : decode cL_law 960 = .ok (.iload_n 3, 1) := by decide +kernel
theorem dL_law_961 : decode cL_law 961 = .ok (.iconst 4, 1) := by decide +kernel
theorem dL_law_962 : decode cL_law 962 = .ok (.iadd, 1) := by decide +kernel
theorem dL_law_963 : decode cL_law 963 = .ok (.iaload, 1) := by decide +kernel
theorem dL_law_964 : decode cL_law 964 = .ok (.invokevirtual 109, 3) := by decide +kernel
theorem dL_law_967 : decode cL_law 967 = .ok (.aload_n 2, 1) := by decide +kernel
theorem dL_law_968 : decode cL_law 968 = .ok (.aload_n 0, 1) := by decide +kernel
theorem dL_law_969 : decode cL_law 969 = .ok (.iload_n 3, 1) := by decide +kernel
theorem dL_law_970 : decode cL_law 970 = .ok (.iconst 1, 1) := by decide +kernel
theorem dL_law_971 : decode cL_law 971 = .ok (.iadd, 1) := by decide +kernel
theorem dL_law_972 : decode cL_law 972 = .ok (.iaload, 1) := by decide +kernel
theorem dL_law_973 : decode cL_law 973 = .ok (.aload_n 0, 1) := by decide +kernel
theorem dL_law_974 : decode cL_law 974 = .ok (.iload_n 3, 1) := by decide +kernel
theorem dL_law_975 : decode cL_law 975 = .ok (.iconst 2, 1) := by decide +kernel
theorem dL_law_976 : decode cL_law 976 = .ok (.iadd, 1) := by decide +kernel
theorem dL_law_977 : decode cL_law 977 = .ok (.iaload, 1) := by decide +kernel
theorem dL_law_978 : decode cL_law 978 = .ok (.aload_n 0, 1) := by decide +kernel
theorem dL_law_979 : decode cL_law 979 = .ok (.iload_n 3, 1) := by decide +kernel
theorem dL_law_980 : decode cL_law 980 = .ok (.iconst 3, 1) := by decide +kernel
theorem dL_law_981 : decode cL_law 981 = .ok (.iadd, 1) := by decide +kernel
theorem dL_law_982 : decode cL_law 982 = .ok (.iaload, 1) := by decide +kernel
theorem dL_law_983 : decode cL_law 983 = .ok (.aload_n 0, 1) := by decide +kernel
theorem dL_law_984 : decode cL_law 984 = .ok (.iload_n 3, 1) := by decide +kernel
theorem dL_law_985 : decode cL_law 985 = .ok (.iconst 4, 1) := by decide +kernel
theorem dL_law_986 : decode cL_law 986 = .ok (.iadd, 1) := by decide +kernel
theorem dL_law_987 : decode cL_law 987 = .ok (.iaload, 1) := by decide +kernel
theorem dL_law_988 : decode cL_law 988 = .ok (.invokevirtual 113, 3) := by decide +kernel
theorem dL_law_991 : decode cL_law 991 = .ok (.if_icmp .eq 683, 3) := by decide +kernel
theorem dL_law_994 : decode cL_law 994 = .ok (.iconst 0, 1) := by decide +kernel
theorem dL_law_995 : decode cL_law 995 = .ok (.ireturn, 1) := by decide +kernel
theorem dL_law_996 : decode cL_law 996 = .ok (.aload_n 1, 1) := by decide +kernel
theorem dL_law_997 : decode cL_law 997 = .ok (.aload_n 0, 1) := by decide +kernel
theorem dL_law_998 : decode cL_law 998 = .ok (.iload_n 3, 1) := by decide +kernel
theorem dL_law_999 : decode cL_law 999 = .ok (.iconst 1, 1) := by decide +kernel
theorem dL_law_1000 : decode cL_law 1000 = .ok (.iadd, 1) := by decide +kernel
theorem dL_law_1001 : decode cL_law 1001 = .ok (.iaload, 1) := by decide +kernel
theorem dL_law_1002 : decode cL_law 1002 = .ok (.aload_n 0, 1) := by decide +kernel
theorem dL_law_1003 : decode cL_law 1003 = .ok (.iload_n 3, 1) := by decide +kernel
theorem dL_law_1004 : decode cL_law 1004 = .ok (.iconst 2, 1) := by decide +kernel
theorem dL_law_1005 : decode cL_law 1005 = .ok (.iadd, 1) := by decide +kernel
theorem dL_law_1006 : decode cL_law 1006 = .ok (.iaload, 1) := by decide +kernel
theorem dL_law_1007 : decode cL_law 1007 = .ok (.invokevirtual 114, 3) := by decide +kernel
theorem dL_law_1010 : decode cL_law 1010 = .ok (.aload_n 2, 1) := by decide +kernel
theorem dL_law_1011 : decode cL_law 1011 = .ok (.aload_n 0, 1) := by decide +kernel
theorem dL_law_1012 : decode cL_law 1012 = .ok (.iload_n 3, 1) := by decide +kernel
theorem dL_law_1013 : decode cL_law 1013 = .ok (.iconst 1, 1) := by decide +kernel
theorem dL_law_1014 : decode cL_law 1014 = .ok (.iadd, 1) := by decide +kernel
theorem dL_law_1015 : decode cL_law 1015 = .ok (.iaload, 1) := by decide +kernel
theorem dL_law_1016 : decode cL_law 1016 = .ok (.aload_n 0, 1) := by decide +kernel
theorem dL_law_1017 : decode cL_law 1017 = .ok (.iload_n 3, 1) := by decide +kernel
theorem dL_law_1018 : decode cL_law 1018 = .ok (.iconst 2, 1) := by decide +kernel
theorem dL_law_1019 : decode cL_law 1019 = .ok (.iadd, 1) := by decide +kernel
theorem dL_law_1020 : decode cL_law 1020 = .ok (.iaload, 1) := by decide +kernel
theorem dL_law_1021 : decode cL_law 1021 = .ok (.invokevirtual 117, 3) := by decide +kernel
theorem dL_law_1024 : decode cL_law 1024 = .ok (.if_icmp .eq 650, 3) := by decide +kernel
theorem dL_law_1027 : decode cL_law 1027 = .ok (.iconst 0, 1) := by decide +kernel
theorem dL_law_1028 : decode cL_law 1028 = .ok (.ireturn, 1) := by decide +kernel
theorem dL_law_1029 : decode cL_law 1029 = .ok (.aload_n 1, 1) := by decide +kernel
theorem dL_law_1030 : decode cL_law 1030 = .ok (.aload_n 0, 1) := by decide +kernel
theorem dL_law_1031 : decode cL_law 1031 = .ok (.iload_n 3, 1) := by decide +kernel
theorem dL_law_1032 : decode cL_law 1032 = .ok (.iconst 1, 1) := by decide +kernel
theorem dL_law_1033 : decode cL_law 1033 = .ok (.iadd, 1) := by decide +kernel
theorem dL_law_1034 : decode cL_law 1034 = .ok (.iaload, 1) := by decide +kernel
theorem dL_law_1035 : decode cL_law 1035 = .ok (.invokevirtual 118, 3) := by decide +kernel
theorem dL_law_1038 : decode cL_law 1038 = .ok (.aload_n 2, 1) := by decide +kernel
theorem dL_law_1039 : decode cL_law 1039 = .ok (.aload_n 0, 1) := by decide +kernel
theorem dL_law_1040 : decode cL_law 1040 = .ok (.iload_n 3, 1) := by decide +kernel
theorem dL_law_1041 : decode cL_law 1041 = .ok (.iconst 1, 1) := by decide +kernel
theorem dL_law_1042 : decode cL_law 1042 = .ok (.iadd, 1) := by decide +kernel
theorem dL_law_1043 : decode cL_law 1043 = .ok (.iaload, 1) := by decide +kernel
theorem dL_law_1044 : decode cL_law 1044 = .ok (.invokevirtual 121, 3) := by decide +kernel
theorem dL_law_1047 : decode cL_law 1047 = .ok (.if_icmp .eq 627, 3) := by decide +kernel
theorem dL_law_1050 : decode cL_law 1050 = .ok (.iconst 0, 1) := by decide +kernel
theorem dL_law_1051 : decode cL_law 1051 = .ok (.ireturn, 1) := by decide +kernel
theorem dL_law_1052 : decode cL_law 1052 = .ok (.aload_n 1, 1) := by decide +kernel
theorem dL_law_1053 : decode cL_law 1053 = .ok (.aload_n 0, 1) := by decide +kernel
theorem dL_law_1054 : decode cL_law 1054 = .ok (.iload_n 3, 1) := by decide +kernel
theorem dL_law_1055 : decode cL_law 1055 = .ok (.iconst 1, 1) := by decide +kernel
theorem dL_law_1056 : decode cL_law 1056 = .ok (.iadd, 1) := by decide +kernel
theorem dL_law_1057 : decode cL_law 1057 = .ok (.iaload, 1) := by decide +kernel
theorem dL_law_1058 : decode cL_law 1058 = .ok (.invokevirtual 122, 3) := by decide +kernel
theorem dL_law_1061 : decode cL_law 1061 = .ok (.aload_n 2, 1) := by decide +kernel
theorem dL_law_1062 : decode cL_law 1062 = .ok (.aload_n 0, 1) := by decide +kernel
theorem dL_law_1063 : decode cL_law 1063 = .ok (.iload_n 3, 1) := by decide +kernel
theorem dL_law_1064 : decode cL_law 1064 = .ok (.iconst 1, 1) := by decide +kernel
theorem dL_law_1065 : decode cL_law 1065 = .ok (.iadd, 1) := by decide +kernel
theorem dL_law_1066 : decode cL_law 1066 = .ok (.iaload, 1) := by decide +kernel
theorem dL_law_1067 : decode cL_law 1067 = .ok (.invokevirtual 125, 3) := by decide +kernel
theorem dL_law_1070 : decode cL_law 1070 = .ok (.if_icmp .eq 604, 3) := by decide +kernel
theorem dL_law_1073 : decode cL_law 1073 = .ok (.iconst 0, 1) := by decide +kernel
theorem dL_law_1074 : decode cL_law 1074 = .ok (.ireturn, 1) := by decide +kernel
theorem dL_law_1075 : decode cL_law 1075 = .ok (.aload_n 1, 1) := by decide +kernel
theorem dL_law_1076 : decode cL_law 1076 = .ok (.aload_n 0, 1) := by decide +kernel
theorem dL_law_1077 : decode cL_law 1077 = .ok (.iload_n 3, 1) := by decide +kernel
theorem dL_law_1078 : decode cL_law 1078 = .ok (.iconst 1, 1) := by decide +kernel
theorem dL_law_1079 : decode cL_law 1079 = .ok (.iadd, 1) := by decide +kernel
theorem dL_law_1080 : decode cL_law 1080 = .ok (.iaload, 1) := by decide +kernel
theorem dL_law_1081 : decode cL_law 1081 = .ok (.invokevirtual 126, 3) := by decide +kernel
theorem dL_law_1084 : decode cL_law 1084 = .ok (.aload_n 2, 1) := by decide +kernel
theorem dL_law_1085 : decode cL_law 1085 = .ok (.aload_n 0, 1) := by decide +kernel
theorem dL_law_1086 : decode cL_law 1086 = .ok (.iload_n 3, 1) := by decide +kernel
theorem dL_law_1087 : decode cL_law 1087 = .ok (.iconst 1, 1) := by decide +kernel
theorem dL_law_1088 : decode cL_law 1088 = .ok (.iadd, 1) := by decide +kernel
theorem dL_law_1089 : decode cL_law 1089 = .ok (.iaload, 1) := by decide +kernel
theorem dL_law_1090 : decode cL_law 1090 = .ok (.invokevirtual 129, 3) := by decide +kernel
theorem dL_law_1093 : decode cL_law 1093 = .ok (.if_icmp .eq 581, 3) := by decide +kernel
theorem dL_law_1096 : decode cL_law 1096 = .ok (.iconst 0, 1) := by decide +kernel
theorem dL_law_1097 : decode cL_law 1097 = .ok (.ireturn, 1) := by decide +kernel
theorem dL_law_1098 : decode cL_law 1098 = .ok (.aload_n 1, 1) := by decide +kernel
theorem dL_law_1099 : decode cL_law 1099 = .ok (.aload_n 0, 1) := by decide +kernel
theorem dL_law_1100 : decode cL_law 1100 = .ok (.iload_n 3, 1) := by decide +kernel
theorem dL_law_1101 : decode cL_law 1101 = .ok (.iconst 1, 1) := by decide +kernel
theorem dL_law_1102 : decode cL_law 1102 = .ok (.iadd, 1) := by decide +kernel
theorem dL_law_1103 : decode cL_law 1103 = .ok (.iaload, 1) := by decide +kernel
theorem dL_law_1104 : decode cL_law 1104 = .ok (.aload_n 0, 1) := by decide +kernel
theorem dL_law_1105 : decode cL_law 1105 = .ok (.iload_n 3, 1) := by decide +kernel
theorem dL_law_1106 : decode cL_law 1106 = .ok (.iconst 2, 1) := by decide +kernel
theorem dL_law_1107 : decode cL_law 1107 = .ok (.iadd, 1) := by decide +kernel
theorem dL_law_1108 : decode cL_law 1108 = .ok (.iaload, 1) := by decide +kernel
theorem dL_law_1109 : decode cL_law 1109 = .ok (.invokevirtual 130, 3) := by decide +kernel
theorem dL_law_1112 : decode cL_law 1112 = .ok (.aload_n 2, 1) := by decide +kernel
theorem dL_law_1113 : decode cL_law 1113 = .ok (.aload_n 0, 1) := by decide +kernel
theorem dL_law_1114 : decode cL_law 1114 = .ok (.iload_n 3, 1) := by decide +kernel
theorem dL_law_1115 : decode cL_law 1115 = .ok (.iconst 1, 1) := by decide +kernel
theorem dL_law_1116 : decode cL_law 1116 = .ok (.iadd, 1) := by decide +kernel
theorem dL_law_1117 : decode cL_law 1117 = .ok (.iaload, 1) := by decide +kernel
theorem dL_law_1118 : decode cL_law 1118 = .ok (.aload_n 0, 1) := by decide +kernel
theorem dL_law_1119 : decode cL_law 1119 = .ok (.iload_n 3, 1) := by decide +kernel
theorem dL_law_1120 : decode cL_law 1120 = .ok (.iconst 2, 1) := by decide +kernel
theorem dL_law_1121 : decode cL_law 1121 = .ok (.iadd, 1) := by decide +kernel
theorem dL_law_1122 : decode cL_law 1122 = .ok (.iaload, 1) := by decide +kernel
theorem dL_law_1123 : decode cL_law 1123 = .ok (.invokevirtual 133, 3) := by decide +kernel
theorem dL_law_1126 : decode cL_law 1126 = .ok (.if_icmp .eq 548, 3) := by decide +kernel
theorem dL_law_1129 : decode cL_law 1129 = .ok (.iconst 0, 1) := by decide +kernel
theorem dL_law_1130 : decode cL_law 1130 = .ok (.ireturn, 1) := by decide +kernel
theorem dL_law_1131 : decode cL_law 1131 = .ok (.aload_n 1, 1) := by decide +kernel
theorem dL_law_1132 : decode cL_law 1132 = .ok (.aload_n 0, 1) := by decide +kernel
theorem dL_law_1133 : decode cL_law 1133 = .ok (.iload_n 3, 1) := by decide +kernel
theorem dL_law_1134 : decode cL_law 1134 = .ok (.iconst 1, 1) := by decide +kernel
theorem dL_law_1135 : decode cL_law 1135 = .ok (.iadd, 1) := by decide +kernel
theorem dL_law_1136 : decode cL_law 1136 = .ok (.iaload, 1) := by decide +kernel
theorem dL_law_1137 : decode cL_law 1137 = .ok (.invokevirtual 134, 3) := by decide +kernel
theorem dL_law_1140 : decode cL_law 1140 = .ok (.aload_n 2, 1) := by decide +kernel
theorem dL_law_1141 : decode cL_law 1141 = .ok (.aload_n 0, 1) := by decide +kernel
theorem dL_law_1142 : decode cL_law 1142 = .ok (.iload_n 3, 1) := by decide +kernel
theorem dL_law_1143 : decode cL_law 1143 = .ok (.iconst 1, 1) := by decide +kernel
theorem dL_law_1144 : decode cL_law 1144 = .ok (.iadd, 1) := by decide +kernel
theorem dL_law_1145 : decode cL_law 1145 = .ok (.iaload, 1) := by decide +kernel
theorem dL_law_1146 : decode cL_law 1146 = .ok (.invokevirtual 137, 3) := by decide +kernel
theorem dL_law_1149 : decode cL_law 1149 = .ok (.if_icmp .eq 525, 3) := by decide +kernel
theorem dL_law_1152 : decode cL_law 1152 = .ok (.iconst 0, 1) := by decide +kernel
theorem dL_law_1153 : decode cL_law 1153 = .ok (.ireturn, 1) := by decide +kernel
theorem dL_law_1154 : decode cL_law 1154 = .ok (.aload_n 1, 1) := by decide +kernel
theorem dL_law_1155 : decode cL_law 1155 = .ok (.aload_n 0, 1) := by decide +kernel
theorem dL_law_1156 : decode cL_law 1156 = .ok (.iload_n 3, 1) := by decide +kernel
theorem dL_law_1157 : decode cL_law 1157 = .ok (.iconst 1, 1) := by decide +kernel
theorem dL_law_1158 : decode cL_law 1158 = .ok (.iadd, 1) := by decide +kernel
theorem dL_law_1159 : decode cL_law 1159 = .ok (.iaload, 1) := by decide +kernel
theorem dL_law_1160 : decode cL_law 1160 = .ok (.aload_n 0, 1) := by decide +kernel
theorem dL_law_1161 : decode cL_law 1161 = .ok (.iload_n 3, 1) := by decide +kernel
theorem dL_law_1162 : decode cL_law 1162 = .ok (.iconst 2, 1) := by decide +kernel
theorem dL_law_1163 : decode cL_law 1163 = .ok (.iadd, 1) := by decide +kernel
theorem dL_law_1164 : decode cL_law 1164 = .ok (.iaload, 1) := by decide +kernel
theorem dL_law_1165 : decode cL_law 1165 = .ok (.invokevirtual 138, 3) := by decide +kernel
theorem dL_law_1168 : decode cL_law 1168 = .ok (.aload_n 2, 1) := by decide +kernel
theorem dL_law_1169 : decode cL_law 1169 = .ok (.aload_n 0, 1) := by decide +kernel
theorem dL_law_1170 : decode cL_law 1170 = .ok (.iload_n 3, 1) := by decide +kernel
theorem dL_law_1171 : decode cL_law 1171 = .ok (.iconst 1, 1) := by decide +kernel
theorem dL_law_1172 : decode cL_law 1172 = .ok (.iadd, 1) := by decide +kernel
theorem dL_law_1173 : decode cL_law 1173 = .ok (.iaload, 1) := by decide +kernel
theorem dL_law_1174 : decode cL_law 1174 = .ok (.aload_n 0, 1) := by decide +kernel
theorem dL_law_1175 : decode cL_law 1175 = .ok (.iload_n 3, 1) := by decide +kernel
theorem dL_law_1176 : decode cL_law 1176 = .ok (.iconst 2, 1) := by decide +kernel
theorem dL_law_1177 : decode cL_law 1177 = .ok (.iadd, 1) := by decide +kernel
theorem dL_law_1178 : decode cL_law 1178 = .ok (.iaload, 1) := by decide +kernel
theorem dL_law_1179 : decode cL_law 1179 = .ok (.invokevirtual 141, 3) := by decide +kernel
theorem dL_law_1182 : decode cL_law 1182 = .ok (.if_icmp .eq 492, 3) := by decide +kernel
theorem dL_law_1185 : decode cL_law 1185 = .ok (.iconst 0, 1) := by decide +kernel
theorem dL_law_1186 : decode cL_law 1186 = .ok (.ireturn, 1) := by decide +kernel
theorem dL_law_1187 : decode cL_law 1187 = .ok (.aload_n 1, 1) := by decide +kernel
theorem dL_law_1188 : decode cL_law 1188 = .ok (.invokevirtual 142, 3) := by decide +kernel
theorem dL_law_1191 : decode cL_law 1191 = .ok (.aload_n 2, 1) := by decide +kernel
theorem dL_law_1192 : decode cL_law 1192 = .ok (.invokevirtual 146, 3) := by decide +kernel
theorem dL_law_1195 : decode cL_law 1195 = .ok (.if_icmp .eq 479, 3) := by decide +kernel
theorem dL_law_1198 : decode cL_law 1198 = .ok (.iconst 0, 1) := by decide +kernel
theorem dL_law_1199 : decode cL_law 1199 = .ok (.ireturn, 1) := by decide +kernel
theorem dL_law_1200 : decode cL_law 1200 = .ok (.aload_n 1, 1) := by decide +kernel
theorem dL_law_1201 : decode cL_law 1201 = .ok (.aload_n 0, 1) := by decide +kernel
theorem dL_law_1202 : decode cL_law 1202 = .ok (.iload_n 3, 1) := by decide +kernel
theorem dL_law_1203 : decode cL_law 1203 = .ok (.iconst 1, 1) := by decide +kernel
theorem dL_law_1204 : decode cL_law 1204 = .ok (.iadd, 1) := by decide +kernel
theorem dL_law_1205 : decode cL_law 1205 = .ok (.iaload, 1) := by decide +kernel
theorem dL_law_1206 : decode cL_law 1206 = .ok (.invokevirtual 147, 3) := by decide +kernel
theorem dL_law_1209 : decode cL_law 1209 = .ok (.aload_n 2, 1) := by decide +kernel
theorem dL_law_1210 : decode cL_law 1210 = .ok (.aload_n 0, 1) := by decide +kernel
theorem dL_law_1211 : decode cL_law 1211 = .ok (.iload_n 3, 1) := by decide +kernel
theorem dL_law_1212 : decode cL_law 1212 = .ok (.iconst 1, 1) := by decide +kernel
theorem dL_law_1213 : decode cL_law 1213 = .ok (.iadd, 1) := by decide +kernel
theorem dL_law_1214 : decode cL_law 1214 = .ok (.iaload, 1) := by decide +kernel
theorem dL_law_1215 : decode cL_law 1215 = .ok (.invokevirtual 150, 3) := by decide +kernel
theorem dL_law_1218 : decode cL_law 1218 = .ok (.if_icmp .eq 456, 3) := by decide +kernel
theorem dL_law_1221 : decode cL_law 1221 = .ok (.iconst 0, 1) := by decide +kernel
theorem dL_law_1222 : decode cL_law 1222 = .ok (.ireturn, 1) := by decide +kernel
theorem dL_law_1223 : decode cL_law 1223 = .ok (.aload_n 1, 1) := by decide +kernel
theorem dL_law_1224 : decode cL_law 1224 = .ok (.aload_n 0, 1) := by decide +kernel
theorem dL_law_1225 : decode cL_law 1225 = .ok (.iload_n 3, 1) := by decide +kernel
theorem dL_law_1226 : decode cL_law 1226 = .ok (.iconst 1, 1) := by decide +kernel
theorem dL_law_1227 : decode cL_law 1227 = .ok (.iadd, 1) := by decide +kernel
theorem dL_law_1228 : decode cL_law 1228 = .ok (.iaload, 1) := by decide +kernel
theorem dL_law_1229 : decode cL_law 1229 = .ok (.aload_n 0, 1) := by decide +kernel
theorem dL_law_1230 : decode cL_law 1230 = .ok (.iload_n 3, 1) := by decide +kernel
theorem dL_law_1231 : decode cL_law 1231 = .ok (.iconst 2, 1) := by decide +kernel
theorem dL_law_1232 : decode cL_law 1232 = .ok (.iadd, 1) := by decide +kernel
theorem dL_law_1233 : decode cL_law 1233 = .ok (.iaload, 1) := by decide +kernel
theorem dL_law_1234 : decode cL_law 1234 = .ok (.invokevirtual 151, 3) := by decide +kernel
theorem dL_law_1237 : decode cL_law 1237 = .ok (.aload_n 2, 1) := by decide +kernel
theorem dL_law_1238 : decode cL_law 1238 = .ok (.aload_n 0, 1) := by decide +kernel
theorem dL_law_1239 : decode cL_law 1239 = .ok (.iload_n 3, 1) := by decide +kernel
theorem dL_law_1240 : decode cL_law 1240 = .ok (.iconst 1, 1) := by decide +kernel
theorem dL_law_1241 : decode cL_law 1241 = .ok (.iadd, 1) := by decide +kernel
theorem dL_law_1242 : decode cL_law 1242 = .ok (.iaload, 1) := by decide +kernel
theorem dL_law_1243 : decode cL_law 1243 = .ok (.aload_n 0, 1) := by decide +kernel
theorem dL_law_1244 : decode cL_law 1244 = .ok (.iload_n 3, 1) := by decide +kernel
theorem dL_law_1245 : decode cL_law 1245 = .ok (.iconst 2, 1) := by decide +kernel
theorem dL_law_1246 : decode cL_law 1246 = .ok (.iadd, 1) := by decide +kernel
theorem dL_law_1247 : decode cL_law 1247 = .ok (.iaload, 1) := by decide +kernel
theorem dL_law_1248 : decode cL_law 1248 = .ok (.invokevirtual 154, 3) := by decide +kernel
theorem dL_law_1251 : decode cL_law 1251 = .ok (.if_icmp .eq 423, 3) := by decide +kernel
theorem dL_law_1254 : decode cL_law 1254 = .ok (.iconst 0, 1) := by decide +kernel
theorem dL_law_1255 : decode cL_law 1255 = .ok (.ireturn, 1) := by decide +kernel
theorem dL_law_1256 : decode cL_law 1256 = .ok (.aload_n 1, 1) := by decide +kernel
theorem dL_law_1257 : decode cL_law 1257 = .ok (.aload_n 0, 1) := by decide +kernel
theorem dL_law_1258 : decode cL_law 1258 = .ok (.iload_n 3, 1) := by decide +kernel
theorem dL_law_1259 : decode cL_law 1259 = .ok (.iconst 1, 1) := by decide +kernel
theorem dL_law_1260 : decode cL_law 1260 = .ok (.iadd, 1) := by decide +kernel
theorem dL_law_1261 : decode cL_law 1261 = .ok (.iaload, 1) := by decide +kernel
theorem dL_law_1262 : decode cL_law 1262 = .ok (.aload_n 0, 1) := by decide +kernel
theorem dL_law_1263 : decode cL_law 1263 = .ok (.iload_n 3, 1) := by decide +kernel
theorem dL_law_1264 : decode cL_law 1264 = .ok (.iconst 2, 1) := by decide +kernel
theorem dL_law_1265 : decode cL_law 1265 = .ok (.iadd, 1) := by decide +kernel
theorem dL_law_1266 : decode cL_law 1266 = .ok (.iaload, 1) := by decide +kernel
theorem dL_law_1267 : decode cL_law 1267 = .ok (.invokevirtual 155, 3) := by decide +kernel
theorem dL_law_1270 : decode cL_law 1270 = .ok (.aload_n 2, 1) := by decide +kernel
theorem dL_law_1271 : decode cL_law 1271 = .ok (.aload_n 0, 1) := by decide +kernel
theorem dL_law_1272 : decode cL_law 1272 = .ok (.iload_n 3, 1) := by decide +kernel
theorem dL_law_1273 : decode cL_law 1273 = .ok (.iconst 1, 1) := by decide +kernel
theorem dL_law_1274 : decode cL_law 1274 = .ok (.iadd, 1) := by decide +kernel
theorem dL_law_1275 : decode cL_law 1275 = .ok (.iaload, 1) := by decide +kernel
theorem dL_law_1276 : decode cL_law 1276 = .ok (.aload_n 0, 1) := by decide +kernel
theorem dL_law_1277 : decode cL_law 1277 = .ok (.iload_n 3, 1) := by decide +kernel
theorem dL_law_1278 : decode cL_law 1278 = .ok (.iconst 2, 1) := by decide +kernel
theorem dL_law_1279 : decode cL_law 1279 = .ok (.iadd, 1) := by decide +kernel
theorem dL_law_1280 : decode cL_law 1280 = .ok (.iaload, 1) := by decide +kernel
theorem dL_law_1281 : decode cL_law 1281 = .ok (.invokevirtual 158, 3) := by decide +kernel
theorem dL_law_1284 : decode cL_law 1284 = .ok (.if_icmp .eq 390, 3) := by decide +kernel
theorem dL_law_1287 : decode cL_law 1287 = .ok (.iconst 0, 1) := by decide +kernel
theorem dL_law_1288 : decode cL_law 1288 = .ok (.ireturn, 1) := by decide +kernel
theorem dL_law_1289 : decode cL_law 1289 = .ok (.aload_n 1, 1) := by decide +kernel
theorem dL_law_1290 : decode cL_law 1290 = .ok (.aload_n 0, 1) := by decide +kernel
theorem dL_law_1291 : decode cL_law 1291 = .ok (.iload_n 3, 1) := by decide +kernel
theorem dL_law_1292 : decode cL_law 1292 = .ok (.iconst 1, 1) := by decide +kernel
theorem dL_law_1293 : decode cL_law 1293 = .ok (.iadd, 1) := by decide +kernel
theorem dL_law_1294 : decode cL_law 1294 = .ok (.iaload, 1) := by decide +kernel
theorem dL_law_1295 : decode cL_law 1295 = .ok (.aload_n 0, 1) := by decide +kernel
theorem dL_law_1296 : decode cL_law 1296 = .ok (.iload_n 3, 1) := by decide +kernel
theorem dL_law_1297 : decode cL_law 1297 = .ok (.iconst 2, 1) := by decide +kernel
theorem dL_law_1298 : decode cL_law 1298 = .ok (.iadd, 1) := by decide +kernel
theorem dL_law_1299 : decode cL_law 1299 = .ok (.iaload, 1) := by decide +kernel
theorem dL_law_1300 : decode cL_law 1300 = .ok (.invokevirtual 159, 3) := by decide +kernel
theorem dL_law_1303 : decode cL_law 1303 = .ok (.aload_n 2, 1) := by decide +kernel
theorem dL_law_1304 : decode cL_law 1304 = .ok (.aload_n 0, 1) := by decide +kernel
theorem dL_law_1305 : decode cL_law 1305 = .ok (.iload_n 3, 1) := by decide +kernel
theorem dL_law_1306 : decode cL_law 1306 = .ok (.iconst 1, 1) := by decide +kernel
theorem dL_law_1307 : decode cL_law 1307 = .ok (.iadd, 1) := by decide +kernel
theorem dL_law_1308 : decode cL_law 1308 = .ok (.iaload, 1) := by decide +kernel
theorem dL_law_1309 : decode cL_law 1309 = .ok (.aload_n 0, 1) := by decide +kernel
theorem dL_law_1310 : decode cL_law 1310 = .ok (.iload_n 3, 1) := by decide +kernel
theorem dL_law_1311 : decode cL_law 1311 = .ok (.iconst 2, 1) := by decide +kernel
theorem dL_law_1312 : decode cL_law 1312 = .ok (.iadd, 1) := by decide +kernel
theorem dL_law_1313 : decode cL_law 1313 = .ok (.iaload, 1) := by decide +kernel
theorem dL_law_1314 : decode cL_law 1314 = .ok (.invokevirtual 162, 3) := by decide +kernel
theorem dL_law_1317 : decode cL_law 1317 = .ok (.if_icmp .eq 357, 3) := by decide +kernel
theorem dL_law_1320 : decode cL_law 1320 = .ok (.iconst 0, 1) := by decide +kernel
theorem dL_law_1321 : decode cL_law 1321 = .ok (.ireturn, 1) := by decide +kernel
theorem dL_law_1322 : decode cL_law 1322 = .ok (.aload_n 1, 1) := by decide +kernel
theorem dL_law_1323 : decode cL_law 1323 = .ok (.aload_n 0, 1) := by decide +kernel
theorem dL_law_1324 : decode cL_law 1324 = .ok (.iload_n 3, 1) := by decide +kernel
theorem dL_law_1325 : decode cL_law 1325 = .ok (.iconst 1, 1) := by decide +kernel
theorem dL_law_1326 : decode cL_law 1326 = .ok (.iadd, 1) := by decide +kernel
theorem dL_law_1327 : decode cL_law 1327 = .ok (.iaload, 1) := by decide +kernel
theorem dL_law_1328 : decode cL_law 1328 = .ok (.aload_n 0, 1) := by decide +kernel
theorem dL_law_1329 : decode cL_law 1329 = .ok (.iload_n 3, 1) := by decide +kernel
theorem dL_law_1330 : decode cL_law 1330 = .ok (.iconst 2, 1) := by decide +kernel
theorem dL_law_1331 : decode cL_law 1331 = .ok (.iadd, 1) := by decide +kernel
theorem dL_law_1332 : decode cL_law 1332 = .ok (.iaload, 1) := by decide +kernel
theorem dL_law_1333 : decode cL_law 1333 = .ok (.invokevirtual 163, 3) := by decide +kernel
theorem dL_law_1336 : decode cL_law 1336 = .ok (.aload_n 2, 1) := by decide +kernel
theorem dL_law_1337 : decode cL_law 1337 = .ok (.aload_n 0, 1) := by decide +kernel
theorem dL_law_1338 : decode cL_law 1338 = .ok (.iload_n 3, 1) := by decide +kernel
theorem dL_law_1339 : decode cL_law 1339 = .ok (.iconst 1, 1) := by decide +kernel
theorem dL_law_1340 : decode cL_law 1340 = .ok (.iadd, 1) := by decide +kernel
theorem dL_law_1341 : decode cL_law 1341 = .ok (.iaload, 1) := by decide +kernel
theorem dL_law_1342 : decode cL_law 1342 = .ok (.aload_n 0, 1) := by decide +kernel
theorem dL_law_1343 : decode cL_law 1343 = .ok (.iload_n 3, 1) := by decide +kernel
theorem dL_law_1344 : decode cL_law 1344 = .ok (.iconst 2, 1) := by decide +kernel
theorem dL_law_1345 : decode cL_law 1345 = .ok (.iadd, 1) := by decide +kernel
theorem dL_law_1346 : decode cL_law 1346 = .ok (.iaload, 1) := by decide +kernel
theorem dL_law_1347 : decode cL_law 1347 = .ok (.invokevirtual 166, 3) := by decide +kernel
theorem dL_law_1350 : decode cL_law 1350 = .ok (.if_icmp .eq 324, 3) := by decide +kernel
theorem dL_law_1353 : decode cL_law 1353 = .ok (.iconst 0, 1) := by decide +kernel
theorem dL_law_1354 : decode cL_law 1354 = .ok (.ireturn, 1) := by decide +kernel
theorem dL_law_1355 : decode cL_law 1355 = .ok (.aload_n 1, 1) := by decide +kernel
theorem dL_law_1356 : decode cL_law 1356 = .ok (.aload_n 0, 1) := by decide +kernel
theorem dL_law_1357 : decode cL_law 1357 = .ok (.iload_n 3, 1) := by decide +kernel
theorem dL_law_1358 : decode cL_law 1358 = .ok (.iconst 1, 1) := by decide +kernel
theorem dL_law_1359 : decode cL_law 1359 = .ok (.iadd, 1) := by decide +kernel
theorem dL_law_1360 : decode cL_law 1360 = .ok (.iaload, 1) := by decide +kernel
theorem dL_law_1361 : decode cL_law 1361 = .ok (.aload_n 0, 1) := by decide +kernel
theorem dL_law_1362 : decode cL_law 1362 = .ok (.iload_n 3, 1) := by decide +kernel
theorem dL_law_1363 : decode cL_law 1363 = .ok (.iconst 2, 1) := by decide +kernel
theorem dL_law_1364 : decode cL_law 1364 = .ok (.iadd, 1) := by decide +kernel
theorem dL_law_1365 : decode cL_law 1365 = .ok (.iaload, 1) := by decide +kernel
theorem dL_law_1366 : decode cL_law 1366 = .ok (.invokevirtual 167, 3) := by decide +kernel
theorem dL_law_1369 : decode cL_law 1369 = .ok (.aload_n 2, 1) := by decide +kernel
theorem dL_law_1370 : decode cL_law 1370 = .ok (.aload_n 0, 1) := by decide +kernel
theorem dL_law_1371 : decode cL_law 1371 = .ok (.iload_n 3, 1) := by decide +kernel
theorem dL_law_1372 : decode cL_law 1372 = .ok (.iconst 1, 1) := by decide +kernel
theorem dL_law_1373 : decode cL_law 1373 = .ok (.iadd, 1) := by decide +kernel
theorem dL_law_1374 : decode cL_law 1374 = .ok (.iaload, 1) := by decide +kernel
theorem dL_law_1375 : decode cL_law 1375 = .ok (.aload_n 0, 1) := by decide +kernel
theorem dL_law_1376 : decode cL_law 1376 = .ok (.iload_n 3, 1) := by decide +kernel
theorem dL_law_1377 : decode cL_law 1377 = .ok (.iconst 2, 1) := by decide +kernel
theorem dL_law_1378 : decode cL_law 1378 = .ok (.iadd, 1) := by decide +kernel
theorem dL_law_1379 : decode cL_law 1379 = .ok (.iaload, 1) := by decide +kernel
theorem dL_law_1380 : decode cL_law 1380 = .ok (.invokevirtual 170, 3) := by decide +kernel
theorem dL_law_1383 : decode cL_law 1383 = .ok (.if_icmp .eq 291, 3) := by decide +kernel
theorem dL_law_1386 : decode cL_law 1386 = .ok (.iconst 0, 1) := by decide +kernel
theorem dL_law_1387 : decode cL_law 1387 = .ok (.ireturn, 1) := by decide +kernel
theorem dL_law_1388 : decode cL_law 1388 = .ok (.aload_n 1, 1) := by decide +kernel
theorem dL_law_1389 : decode cL_law 1389 = .ok (.aload_n 0, 1) := by decide +kernel
theorem dL_law_1390 : decode cL_law 1390 = .ok (.iload_n 3, 1) := by decide +kernel
theorem dL_law_1391 : decode cL_law 1391 = .ok (.iconst 1, 1) := by decide +kernel
theorem dL_law_1392 : decode cL_law 1392 = .ok (.iadd, 1) := by decide +kernel
theorem dL_law_1393 : decode cL_law 1393 = .ok (.iaload, 1) := by decide +kernel
theorem dL_law_1394 : decode cL_law 1394 = .ok (.aload_n 0, 1) := by decide +kernel
theorem dL_law_1395 : decode cL_law 1395 = .ok (.iload_n 3, 1) := by decide +kernel
theorem dL_law_1396 : decode cL_law 1396 = .ok (.iconst 2, 1) := by decide +kernel
theorem dL_law_1397 : decode cL_law 1397 = .ok (.iadd, 1) := by decide +kernel
theorem dL_law_1398 : decode cL_law 1398 = .ok (.iaload, 1) := by decide +kernel
theorem dL_law_1399 : decode cL_law 1399 = .ok (.invokevirtual 171, 3) := by decide +kernel
theorem dL_law_1402 : decode cL_law 1402 = .ok (.aload_n 2, 1) := by decide +kernel
theorem dL_law_1403 : decode cL_law 1403 = .ok (.aload_n 0, 1) := by decide +kernel
theorem dL_law_1404 : decode cL_law 1404 = .ok (.iload_n 3, 1) := by decide +kernel
theorem dL_law_1405 : decode cL_law 1405 = .ok (.iconst 1, 1) := by decide +kernel
theorem dL_law_1406 : decode cL_law 1406 = .ok (.iadd, 1) := by decide +kernel
theorem dL_law_1407 : decode cL_law 1407 = .ok (.iaload, 1) := by decide +kernel
theorem dL_law_1408 : decode cL_law 1408 = .ok (.aload_n 0, 1) := by decide +kernel
theorem dL_law_1409 : decode cL_law 1409 = .ok (.iload_n 3, 1) := by decide +kernel
theorem dL_law_1410 : decode cL_law 1410 = .ok (.iconst 2, 1) := by decide +kernel
theorem dL_law_1411 : decode cL_law 1411 = .ok (.iadd, 1) := by decide +kernel
theorem dL_law_1412 : decode cL_law 1412 = .ok (.iaload, 1) := by decide +kernel
theorem dL_law_1413 : decode cL_law 1413 = .ok (.invokevirtual 174, 3) := by decide +kernel
theorem dL_law_1416 : decode cL_law 1416 = .ok (.if_icmp .eq 258, 3) := by decide +kernel
theorem dL_law_1419 : decode cL_law 1419 = .ok (.iconst 0, 1) := by decide +kernel
theorem dL_law_1420 : decode cL_law 1420 = .ok (.ireturn, 1) := by decide +kernel
theorem dL_law_1421 : decode cL_law 1421 = .ok (.aload_n 1, 1) := by decide +kernel
theorem dL_law_1422 : decode cL_law 1422 = .ok (.aload_n 0, 1) := by decide +kernel
theorem dL_law_1423 : decode cL_law 1423 = .ok (.iload_n 3, 1) := by decide +kernel
theorem dL_law_1424 : decode cL_law 1424 = .ok (.iconst 1, 1) := by decide +kernel
theorem dL_law_1425 : decode cL_law 1425 = .ok (.iadd, 1) := by decide +kernel
theorem dL_law_1426 : decode cL_law 1426 = .ok (.iaload, 1) := by decide +kernel
theorem dL_law_1427 : decode cL_law 1427 = .ok (.aload_n 0, 1) := by decide +kernel
theorem dL_law_1428 : decode cL_law 1428 = .ok (.iload_n 3, 1) := by decide +kernel
theorem dL_law_1429 : decode cL_law 1429 = .ok (.iconst 2, 1) := by decide +kernel
theorem dL_law_1430 : decode cL_law 1430 = .ok (.iadd, 1) := by decide +kernel
theorem dL_law_1431 : decode cL_law 1431 = .ok (.iaload, 1) := by decide +kernel
theorem dL_law_1432 : decode cL_law 1432 = .ok (.aload_n 0, 1) := by decide +kernel
theorem dL_law_1433 : decode cL_law 1433 = .ok (.iload_n 3, 1) := by decide +kernel
theorem dL_law_1434 : decode cL_law 1434 = .ok (.iconst 3, 1) := by decide +kernel
theorem dL_law_1435 : decode cL_law 1435 = .ok (.iadd, 1) := by decide +kernel
theorem dL_law_1436 : decode cL_law 1436 = .ok (.iaload, 1) := by decide +kernel
theorem dL_law_1437 : decode cL_law 1437 = .ok (.aload_n 0, 1) := by decide +kernel
theorem dL_law_1438 : decode cL_law 1438 = .ok (.iload_n 3, 1) := by decide +kernel
theorem dL_law_1439 : decode cL_law 1439 = .ok (.iconst 4, 1) := by decide +kernel
theorem dL_law_1440 : decode cL_law 1440 = .ok (.iadd, 1) := by decide +kernel
theorem dL_law_1441 : decode cL_law 1441 = .ok (.iaload, 1) := by decide +kernel
theorem dL_law_1442 : decode cL_law 1442 = .ok (.invokevirtual 175, 3) := by decide +kernel
theorem dL_law_1445 : decode cL_law 1445 = .ok (.aload_n 2, 1) := by decide +kernel
theorem dL_law_1446 : decode cL_law 1446 = .ok (.aload_n 0, 1) := by decide +kernel
theorem dL_law_1447 : decode cL_law 1447 = .ok (.iload_n 3, 1) := by decide +kernel
theorem dL_law_1448 : decode cL_law 1448 = .ok (.iconst 1, 1) := by decide +kernel
theorem dL_law_1449 : decode cL_law 1449 = .ok (.iadd, 1) := by decide +kernel
theorem dL_law_1450 : decode cL_law 1450 = .ok (.iaload, 1) := by decide +kernel
theorem dL_law_1451 : decode cL_law 1451 = .ok (.aload_n 0, 1) := by decide +kernel
theorem dL_law_1452 : decode cL_law 1452 = .ok (.iload_n 3, 1) := by decide +kernel
theorem dL_law_1453 : decode cL_law 1453 = .ok (.iconst 2, 1) := by decide +kernel
theorem dL_law_1454 : decode cL_law 1454 = .ok (.iadd, 1) := by decide +kernel
theorem dL_law_1455 : decode cL_law 1455 = .ok (.iaload, 1) := by decide +kernel
theorem dL_law_1456 : decode cL_law 1456 = .ok (.aload_n 0, 1) := by decide +kernel
theorem dL_law_1457 : decode cL_law 1457 = .ok (.iload_n 3, 1) := by decide +kernel
theorem dL_law_1458 : decode cL_law 1458 = .ok (.iconst 3, 1) := by decide +kernel
theorem dL_law_1459 : decode cL_law 1459 = .ok (.iadd, 1) := by decide +kernel
theorem dL_law_1460 : decode cL_law 1460 = .ok (.iaload, 1) := by decide +kernel
theorem dL_law_1461 : decode cL_law 1461 = .ok (.aload_n 0, 1) := by decide +kernel
theorem dL_law_1462 : decode cL_law 1462 = .ok (.iload_n 3, 1) := by decide +kernel
theorem dL_law_1463 : decode cL_law 1463 = .ok (.iconst 4, 1) := by decide +kernel
theorem dL_law_1464 : decode cL_law 1464 = .ok (.iadd, 1) := by decide +kernel
theorem dL_law_1465 : decode cL_law 1465 = .ok (.iaload, 1) := by decide +kernel
theorem dL_law_1466 : decode cL_law 1466 = .ok (.invokevirtual 178, 3) := by decide +kernel
theorem dL_law_1469 : decode cL_law 1469 = .ok (.if_icmp .eq 205, 3) := by decide +kernel
theorem dL_law_1472 : decode cL_law 1472 = .ok (.iconst 0, 1) := by decide +kernel
theorem dL_law_1473 : decode cL_law 1473 = .ok (.ireturn, 1) := by decide +kernel
theorem dL_law_1474 : decode cL_law 1474 = .ok (.aload_n 1, 1) := by decide +kernel
theorem dL_law_1475 : decode cL_law 1475 = .ok (.aload_n 0, 1) := by decide +kernel
theorem dL_law_1476 : decode cL_law 1476 = .ok (.iload_n 3, 1) := by decide +kernel
theorem dL_law_1477 : decode cL_law 1477 = .ok (.iconst 1, 1) := by decide +kernel
theorem dL_law_1478 : decode cL_law 1478 = .ok (.iadd, 1) := by decide +kernel
theorem dL_law_1479 : decode cL_law 1479 = .ok (.iaload, 1) := by decide +kernel
theorem dL_law_1480 : decode cL_law 1480 = .ok (.aload_n 0, 1) := by decide +kernel
theorem dL_law_1481 : decode cL_law 1481 = .ok (.iload_n 3, 1) := by decide +kernel
theorem dL_law_1482 : decode cL_law 1482 = .ok (.iconst 2, 1) := by decide +kernel
theorem dL_law_1483 : decode cL_law 1483 = .ok (.iadd, 1) := by decide +kernel
theorem dL_law_1484 : decode cL_law 1484 = .ok (.iaload, 1) := by decide +kernel
theorem dL_law_1485 : decode cL_law 1485 = .ok (.aload_n 0, 1) := by decide +kernel
theorem dL_law_1486 : decode cL_law 1486 = .ok (.iload_n 3, 1) := by decide +kernel
theorem dL_law_1487 : decode cL_law 1487 = .ok (.iconst 3, 1) := by decide +kernel
theorem dL_law_1488 : decode cL_law 1488 = .ok (.iadd, 1) := by decide +kernel
theorem dL_law_1489 : decode cL_law 1489 = .ok (.iaload, 1) := by decide +kernel
theorem dL_law_1490 : decode cL_law 1490 = .ok (.aload_n 0, 1) := by decide +kernel
theorem dL_law_1491 : decode cL_law 1491 = .ok (.iload_n 3, 1) := by decide +kernel
theorem dL_law_1492 : decode cL_law 1492 = .ok (.iconst 4, 1) := by decide +kernel
theorem dL_law_1493 : decode cL_law 1493 = .ok (.iadd, 1) := by decide +kernel
theorem dL_law_1494 : decode cL_law 1494 = .ok (.iaload, 1) := by decide +kernel
theorem dL_law_1495 : decode cL_law 1495 = .ok (.invokevirtual 179, 3) := by decide +kernel
theorem dL_law_1498 : decode cL_law 1498 = .ok (.aload_n 2, 1) := by decide +kernel
theorem dL_law_1499 : decode cL_law 1499 = .ok (.aload_n 0, 1) := by decide +kernel
theorem dL_law_1500 : decode cL_law 1500 = .ok (.iload_n 3, 1) := by decide +kernel
theorem dL_law_1501 : decode cL_law 1501 = .ok (.iconst 1, 1) := by decide +kernel
theorem dL_law_1502 : decode cL_law 1502 = .ok (.iadd, 1) := by decide +kernel
theorem dL_law_1503 : decode cL_law 1503 = .ok (.iaload, 1) := by decide +kernel
theorem dL_law_1504 : decode cL_law 1504 = .ok (.aload_n 0, 1) := by decide +kernel
theorem dL_law_1505 : decode cL_law 1505 = .ok (.iload_n 3, 1) := by decide +kernel
theorem dL_law_1506 : decode cL_law 1506 = .ok (.iconst 2, 1) := by decide +kernel
theorem dL_law_1507 : decode cL_law 1507 = .ok (.iadd, 1) := by decide +kernel
theorem dL_law_1508 : decode cL_law 1508 = .ok (.iaload, 1) := by decide +kernel
theorem dL_law_1509 : decode cL_law 1509 = .ok (.aload_n 0, 1) := by decide +kernel
theorem dL_law_1510 : decode cL_law 1510 = .ok (.iload_n 3, 1) := by decide +kernel
theorem dL_law_1511 : decode cL_law 1511 = .ok (.iconst 3, 1) := by decide +kernel
theorem dL_law_1512 : decode cL_law 1512 = .ok (.iadd, 1) := by decide +kernel
theorem dL_law_1513 : decode cL_law 1513 = .ok (.iaload, 1) := by decide +kernel
theorem dL_law_1514 : decode cL_law 1514 = .ok (.aload_n 0, 1) := by decide +kernel
theorem dL_law_1515 : decode cL_law 1515 = .ok (.iload_n 3, 1) := by decide +kernel
theorem dL_law_1516 : decode cL_law 1516 = .ok (.iconst 4, 1) := by decide +kernel
theorem dL_law_1517 : decode cL_law 1517 = .ok (.iadd, 1) := by decide +kernel
theorem dL_law_1518 : decode cL_law 1518 = .ok (.iaload, 1) := by decide +kernel
theorem dL_law_1519 : decode cL_law 1519 = .ok (.invokevirtual 182, 3) := by decide +kernel
theorem dL_law_1522 : decode cL_law 1522 = .ok (.if_icmp .eq 152, 3) := by decide +kernel
theorem dL_law_1525 : decode cL_law 1525 = .ok (.iconst 0, 1) := by decide +kernel
theorem dL_law_1526 : decode cL_law 1526 = .ok (.ireturn, 1) := by decide +kernel
theorem dL_law_1527 : decode cL_law 1527 = .ok (.aload_n 1, 1) := by decide +kernel
theorem dL_law_1528 : decode cL_law 1528 = .ok (.aload_n 0, 1) := by decide +kernel
theorem dL_law_1529 : decode cL_law 1529 = .ok (.iload_n 3, 1) := by decide +kernel
theorem dL_law_1530 : decode cL_law 1530 = .ok (.iconst 1, 1) := by decide +kernel
theorem dL_law_1531 : decode cL_law 1531 = .ok (.iadd, 1) := by decide +kernel
theorem dL_law_1532 : decode cL_law 1532 = .ok (.iaload, 1) := by decide +kernel
theorem dL_law_1533 : decode cL_law 1533 = .ok (.aload_n 0, 1) := by decide +kernel
theorem dL_law_1534 : decode cL_law 1534 = .ok (.iload_n 3, 1) := by decide +kernel
theorem dL_law_1535 : decode cL_law 1535 = .ok (.iconst 2, 1) := by decide +kernel
theorem dL_law_1536 : decode cL_law 1536 = .ok (.iadd, 1) := by decide +kernel
theorem dL_law_1537 : decode cL_law 1537 = .ok (.iaload, 1) := by decide +kernel
theorem dL_law_1538 : decode cL_law 1538 = .ok (.invokevirtual 183, 3) := by decide +kernel
theorem dL_law_1541 : decode cL_law 1541 = .ok (.aload_n 2, 1) := by decide +kernel
theorem dL_law_1542 : decode cL_law 1542 = .ok (.aload_n 0, 1) := by decide +kernel
theorem dL_law_1543 : decode cL_law 1543 = .ok (.iload_n 3, 1) := by decide +kernel
theorem dL_law_1544 : decode cL_law 1544 = .ok (.iconst 1, 1) := by decide +kernel
theorem dL_law_1545 : decode cL_law 1545 = .ok (.iadd, 1) := by decide +kernel
theorem dL_law_1546 : decode cL_law 1546 = .ok (.iaload, 1) := by decide +kernel
theorem dL_law_1547 : decode cL_law 1547 = .ok (.aload_n 0, 1) := by decide +kernel
theorem dL_law_1548 : decode cL_law 1548 = .ok (.iload_n 3, 1) := by decide +kernel
theorem dL_law_1549 : decode cL_law 1549 = .ok (.iconst 2, 1) := by decide +kernel
theorem dL_law_1550 : decode cL_law 1550 = .ok (.iadd, 1) := by decide +kernel
theorem dL_law_1551 : decode cL_law 1551 = .ok (.iaload, 1) := by decide +kernel
theorem dL_law_1552 : decode cL_law 1552 = .ok (.invokevirtual 186, 3) := by decide +kernel
theorem dL_law_1555 : decode cL_law 1555 = .ok (.if_icmp .eq 119, 3) := by decide +kernel
theorem dL_law_1558 : decode cL_law 1558 = .ok (.iconst 0, 1) := by decide +kernel
theorem dL_law_1559 : decode cL_law 1559 = .ok (.ireturn, 1) := by decide +kernel
theorem dL_law_1560 : decode cL_law 1560 = .ok (.aload_n 1, 1) := by decide +kernel
theorem dL_law_1561 : decode cL_law 1561 = .ok (.invokevirtual 187, 3) := by decide +kernel
theorem dL_law_1564 : decode cL_law 1564 = .ok (.aload_n 2, 1) := by decide +kernel
theorem dL_law_1565 : decode cL_law 1565 = .ok (.invokevirtual 190, 3) := by decide +kernel
theorem dL_law_1568 : decode cL_law 1568 = .ok (.if_icmp .eq 106, 3) := by decide +kernel
theorem dL_law_1571 : decode cL_law 1571 = .ok (.iconst 0, 1) := by decide +kernel
theorem dL_law_1572 : decode cL_law 1572 = .ok (.ireturn, 1) := by decide +kernel
theorem dL_law_1573 : decode cL_law 1573 = .ok (.aload_n 1, 1) := by decide +kernel
theorem dL_law_1574 : decode cL_law 1574 = .ok (.invokevirtual 191, 3) := by decide +kernel
theorem dL_law_1577 : decode cL_law 1577 = .ok (.aload_n 2, 1) := by decide +kernel
theorem dL_law_1578 : decode cL_law 1578 = .ok (.invokevirtual 195, 3) := by decide +kernel
theorem dL_law_1581 : decode cL_law 1581 = .ok (.lcmp, 1) := by decide +kernel
theorem dL_law_1582 : decode cL_law 1582 = .ok (.ifCond .eq 92, 3) := by decide +kernel
theorem dL_law_1585 : decode cL_law 1585 = .ok (.iconst 0, 1) := by decide +kernel
theorem dL_law_1586 : decode cL_law 1586 = .ok (.ireturn, 1) := by decide +kernel
theorem dL_law_1587 : decode cL_law 1587 = .ok (.aload_n 1, 1) := by decide +kernel
theorem dL_law_1588 : decode cL_law 1588 = .ok (.invokevirtual 196, 3) := by decide +kernel
theorem dL_law_1591 : decode cL_law 1591 = .ok (.aload_n 2, 1) := by decide +kernel
theorem dL_law_1592 : decode cL_law 1592 = .ok (.invokevirtual 199, 3) := by decide +kernel
theorem dL_law_1595 : decode cL_law 1595 = .ok (.lcmp, 1) := by decide +kernel
theorem dL_law_1596 : decode cL_law 1596 = .ok (.ifCond .eq 78, 3) := by decide +kernel
theorem dL_law_1599 : decode cL_law 1599 = .ok (.iconst 0, 1) := by decide +kernel
theorem dL_law_1600 : decode cL_law 1600 = .ok (.ireturn, 1) := by decide +kernel
theorem dL_law_1601 : decode cL_law 1601 = .ok (.aload_n 1, 1) := by decide +kernel
theorem dL_law_1602 : decode cL_law 1602 = .ok (.aload_n 0, 1) := by decide +kernel
theorem dL_law_1603 : decode cL_law 1603 = .ok (.iload_n 3, 1) := by decide +kernel
theorem dL_law_1604 : decode cL_law 1604 = .ok (.iconst 1, 1) := by decide +kernel
theorem dL_law_1605 : decode cL_law 1605 = .ok (.iadd, 1) := by decide +kernel
theorem dL_law_1606 : decode cL_law 1606 = .ok (.iaload, 1) := by decide +kernel
theorem dL_law_1607 : decode cL_law 1607 = .ok (.invokevirtual 200, 3) := by decide +kernel
theorem dL_law_1610 : decode cL_law 1610 = .ok (.aload_n 2, 1) := by decide +kernel
theorem dL_law_1611 : decode cL_law 1611 = .ok (.aload_n 0, 1) := by decide +kernel
theorem dL_law_1612 : decode cL_law 1612 = .ok (.iload_n 3, 1) := by decide +kernel
theorem dL_law_1613 : decode cL_law 1613 = .ok (.iconst 1, 1) := by decide +kernel
theorem dL_law_1614 : decode cL_law 1614 = .ok (.iadd, 1) := by decide +kernel
theorem dL_law_1615 : decode cL_law 1615 = .ok (.iaload, 1) := by decide +kernel
theorem dL_law_1616 : decode cL_law 1616 = .ok (.invokevirtual 203, 3) := by decide +kernel
theorem dL_law_1619 : decode cL_law 1619 = .ok (.if_icmp .eq 55, 3) := by decide +kernel
theorem dL_law_1622 : decode cL_law 1622 = .ok (.iconst 0, 1) := by decide +kernel
theorem dL_law_1623 : decode cL_law 1623 = .ok (.ireturn, 1) := by decide +kernel
theorem dL_law_1624 : decode cL_law 1624 = .ok (.aload_n 1, 1) := by decide +kernel
theorem dL_law_1625 : decode cL_law 1625 = .ok (.invokevirtual 204, 3) := by decide +kernel
theorem dL_law_1628 : decode cL_law 1628 = .ok (.aload_n 2, 1) := by decide +kernel
theorem dL_law_1629 : decode cL_law 1629 = .ok (.invokevirtual 207, 3) := by decide +kernel
theorem dL_law_1632 : decode cL_law 1632 = .ok (.if_icmp .eq 42, 3) := by decide +kernel
theorem dL_law_1635 : decode cL_law 1635 = .ok (.iconst 0, 1) := by decide +kernel
theorem dL_law_1636 : decode cL_law 1636 = .ok (.ireturn, 1) := by decide +kernel
theorem dL_law_1637 : decode cL_law 1637 = .ok (.aload_n 1, 1) := by decide +kernel
theorem dL_law_1638 : decode cL_law 1638 = .ok (.aload_n 0, 1) := by decide +kernel
theorem dL_law_1639 : decode cL_law 1639 = .ok (.iload_n 3, 1) := by decide +kernel
theorem dL_law_1640 : decode cL_law 1640 = .ok (.iconst 1, 1) := by decide +kernel
theorem dL_law_1641 : decode cL_law 1641 = .ok (.iadd, 1) := by decide +kernel
theorem dL_law_1642 : decode cL_law 1642 = .ok (.iaload, 1) := by decide +kernel
theorem dL_law_1643 : decode cL_law 1643 = .ok (.invokevirtual 208, 3) := by decide +kernel
theorem dL_law_1646 : decode cL_law 1646 = .ok (.aload_n 2, 1) := by decide +kernel
theorem dL_law_1647 : decode cL_law 1647 = .ok (.aload_n 0, 1) := by decide +kernel
theorem dL_law_1648 : decode cL_law 1648 = .ok (.iload_n 3, 1) := by decide +kernel
theorem dL_law_1649 : decode cL_law 1649 = .ok (.iconst 1, 1) := by decide +kernel
theorem dL_law_1650 : decode cL_law 1650 = .ok (.iadd, 1) := by decide +kernel
theorem dL_law_1651 : decode cL_law 1651 = .ok (.iaload, 1) := by decide +kernel
theorem dL_law_1652 : decode cL_law 1652 = .ok (.invokevirtual 211, 3) := by decide +kernel
theorem dL_law_1655 : decode cL_law 1655 = .ok (.if_icmp .eq 19, 3) := by decide +kernel
theorem dL_law_1658 : decode cL_law 1658 = .ok (.iconst 0, 1) := by decide +kernel
theorem dL_law_1659 : decode cL_law 1659 = .ok (.ireturn, 1) := by decide +kernel
theorem dL_law_1660 : decode cL_law 1660 = .ok (.aload_n 1, 1) := by decide +kernel
theorem dL_law_1661 : decode cL_law 1661 = .ok (.invokevirtual 212, 3) := by decide +kernel
theorem dL_law_1664 : decode cL_law 1664 = .ok (.aload_n 2, 1) := by decide +kernel
theorem dL_law_1665 : decode cL_law 1665 = .ok (.invokevirtual 215, 3) := by decide +kernel
theorem dL_law_1668 : decode cL_law 1668 = .ok (.lcmp, 1) := by decide +kernel
theorem dL_law_1669 : decode cL_law 1669 = .ok (.ifCond .eq 5, 3) := by decide +kernel
theorem dL_law_1672 : decode cL_law 1672 = .ok (.iconst 0, 1) := by decide +kernel
theorem dL_law_1673 : decode cL_law 1673 = .ok (.ireturn, 1) := by decide +kernel
theorem dL_law_1674 : decode cL_law 1674 = .ok (.iinc 3 6, 3) := by decide +kernel
theorem dL_law_1677 : decode cL_law 1677 = .ok (.goto (-1659), 3) := by decide +kernel
theorem dL_law_1680 : decode cL_law 1680 = .ok (.iconst 1, 1) := by decide +kernel
theorem dL_law_1681 : decode cL_law 1681 = .ok (.ireturn, 1) := by decide +kernel
end
section
/-! The frame of this claim: one world a side (class, reference), its cells by number; 'Go': the machine at a pc with these locals, this stack, this state comes to Q. -/
abbrev St : Type := (Nat → Nat → Int32) × (Nat → Nat → Int64)
abbrev Sh : Type := List (Nat × Nat × Nat)
abbrev Gp : Type := va_G × (Nat → ClassId) × (Nat → Nat)
def uI (σ : St) (k j : Nat) (v : Int32) : St := (fun a b => if a = k ∧ b = j then v else σ.1 a b, σ.2)
def uL (σ : St) (k j : Nat) (v : Int64) : St := (σ.1, fun a b => if a = k ∧ b = j then v else σ.2 a b)
def uCI (σ : St) (k0 k sp dp n : Nat) : St := (fun a b => if a = k then va_cpy (σ.1 k0) (σ.1 k) sp dp n b else σ.1 a b, σ.2)
def uCL (σ : St) (k0 k sp dp n : Nat) : St := (σ.1, fun a b => if a = k then va_cpy (σ.2 k0) (σ.2 k) sp dp n b else σ.2 a b)
def TB : List Cond := lw_tbl.filter goodWord
theorem TB_good : ∀ w ∈ TB, (w.onTables && w.keeps) = true ∨ ∃ ty, w = .arrayClass ty := fun w h => good_of_word (List.mem_filter.mp h).2
theorem tb_s {w : Cond} (h : w ∈ k2_sels lw_privs) (hg : goodWord w = true) : w ∈ TB := List.mem_filter.mpr ⟨List.mem_append_left _ h, hg⟩
theorem tb_0 {w : Cond} (h : w ∈ tables_1) (hg : goodWord w = true) : w ∈ TB := List.mem_filter.mpr ⟨List.mem_append_right _ h, hg⟩
theorem tb_1 {w : Cond} (h : w ∈ tables_1_1) (hg : goodWord w = true) : w ∈ TB := tb_0 (List.mem_append_left _ h) hg
theorem tb_2 {w : Cond} (h : w ∈ tables_1_2) (hg : goodWord w = true) : w ∈ TB := tb_0 (List.mem_append_right _ (List.mem_append_left _ h)) hg
theorem tb_3 {w : Cond} (h : w ∈ tables_1_3) (hg : goodWord w = true) : w ∈ TB := tb_0 (List.mem_append_right _ (List.mem_append_right _ (List.mem_append_left _ h))) hg
theorem tb_4 {w : Cond} (h : w ∈ tables_1_4) (hg : goodWord w = true) : w ∈ TB := tb_0 (List.mem_append_right _ (List.mem_append_right _ (List.mem_append_right _ (List.mem_append_left _ h)))) hg
theorem tb_5 {w : Cond} (h : w ∈ tables_1_5) (hg : goodWord w = true) : w ∈ TB := tb_0 (List.mem_append_right _ (List.mem_append_right _ (List.mem_append_right _ (List.mem_append_right _ (List.mem_append_left _ h))))) hg
theorem tb_6 {w : Cond} (h : w ∈ tables_1_6) (hg : goodWord w = true) : w ∈ TB := tb_0 (List.mem_append_right _ (List.mem_append_right _ (List.mem_append_right _ (List.mem_append_right _ (List.mem_append_right _ h))))) hg
/-- nest mates' links -/
def NB : List (String × Nat × MethodName × String) := [(RX8, 276, yX1_seek, RX8), (RX8, 301, yX7_ordersBehind, RX8), (RX8, 34, yX3_init, RX8), (RX8, 41, yX1_init, RX8), (RX8, 48, yX4_init, RX8), (RX8, 55, yX2_init, RX8), (RX8, 62, yX5_init, RX8), (RX0, 38, yX8_after, RX8), (RX2, 24, yX8_after, RX8), (RX4, 22, yX8_after, RX8), (RX5, 26, yX8_after, RX8), (RX6, 38, yX8_isPull, RX8), (RX7, 106, yX8_isOf, RX8), (RX7, 21, yX0_init, RX8), (RX7, 81, yX8_after, RX8), (RX7, 85, yX8_tenths, RX8)]
def NsOK (U : State) : Prop := ∀ q ∈ NB, va_Nw (.methodLinkNest q.1 q.2.1 q.2.2.1 q.2.2.2) U
theorem NsOK.same {u U : State} (h : u.vm = U.vm) (hZ : NsOK u) : NsOK U := fun q hq => va_Nw.same rfl h (hZ q hq)
theorem NsOK.warm {u U : State} (h : u.WarmedH U.vm) (hZ : NsOK u) : NsOK U := fun q hq => va_Nw.warmM h (hZ q hq)
/-- the cells -/
def cellOf (G : Gp) (σ : St) (k : Nat) (q : Nat × Nat × Nat) : va_E := match q with
  | (0, _, _) => .inr (0, [.int (σ.1 k 0), .int (σ.1 k 1), .int (σ.1 k 2), .int (σ.1 k 3), .int (σ.1 k 4), .int (σ.1 k 5)])
  | (1, _, _) => .inr (1, [.ref (G.2.2 (k + 1)), .ref (G.2.2 (k + 2)), .int (σ.1 k 2)])
  | (2, _, _) => .inr (2, [.ref (G.2.2 (k + 1)), .ref (G.2.2 (k + 2))])
  | (3, _, _) => .inr (3, [.ref (G.2.2 (k + 1)), .ref (G.2.2 (k + 2)), .int (σ.1 k 2)])
  | (4, _, _) => .inr (4, [.ref (G.2.2 (k + 1)), .ref (G.2.2 (k + 2))])
  | (5, _, _) => .inr (5, [.ref (G.2.2 (k + 1)), .ref (G.2.2 (k + 2))])
  | (6, _, _) => .inr (6, [.ref (G.2.2 (k + 1)), .int (σ.1 k 1), .int (σ.1 k 2)])
  | (7, _, _) => .inr (7, [.ref (G.2.2 (k + 1)), .ref (G.2.2 (k + 2)), .int (σ.1 k 2), .int (σ.1 k 3), .int (σ.1 k 4)])
  | (8, _, _) => .inr (8, [.ref (G.2.2 1), .ref (G.2.2 2), .ref (G.2.2 3), .ref (G.2.2 25), .ref (G.2.2 34), .ref (G.2.2 70), .ref (G.2.2 73), .ref (G.2.2 76), .ref (G.2.2 79), .ref (G.2.2 82), .ref (G.2.2 4), .int (σ.1 k 11), .int (σ.1 k 12), .long (σ.2 k 13), .long (σ.2 k 14)])
  | (9, _, _) => .inr (9, [.ref (G.2.2 1), .int (σ.1 k 1), .ref (G.2.2 2), .ref (G.2.2 3), .ref (G.2.2 4), .ref (G.2.2 5), .ref (G.2.2 6), .ref (G.2.2 7), .int (σ.1 k 8), .ref (G.2.2 8), .int (σ.1 k 10), .long (σ.2 k 11), .long (σ.2 k 12), .int (σ.1 k 13), .ref (G.2.2 9), .ref (G.2.2 10), .ref (G.2.2 11), .int (σ.1 k 17), .int (σ.1 k 18), .ref (G.2.2 12), .ref (G.2.2 13), .ref (G.2.2 14), .ref (G.2.2 15), .ref (G.2.2 16), .ref (G.2.2 17), .ref (G.2.2 18), .ref (G.2.2 19), .long (σ.2 k 27)])
  | (10, n, _) => .inl (G.2.1 0, n, .inl (σ.1 k))
  | (11, n, _) => .inl (G.2.1 1, n, .inl (σ.1 k))
  | (12, n, _) => .inl (G.2.1 2, n, .inr (.inl (σ.2 k)))
  | (13, n, b) => .inl (G.2.1 3, n, .inr (.inr (.inr (.inr (fun j => some (G.2.2 (b + 2 * j)))))))
  | (14, n, b) => .inl (G.2.1 4, n, .inr (.inr (.inr (.inr (fun j => some (G.2.2 (b + 9 * j)))))))
  | (_, n, b) => .inl (G.2.1 5, n, .inr (.inr (.inr (.inr (fun j => some (G.2.2 (b + j)))))))
/-- the class's cells: 0 the object, 1 rows, 2 texts, 3 kept, 4 found, 5.. the ROWS, 17.. the TEXTS, 25 now, 34 draft, 43.. kept TOWERS, 70 hearing, 73 evening, 76 paths, 79 flow, 82 play -/
def shC : Sh := [(8, 0, 0), (13, 6, 5), (13, 4, 17), (14, 3, 43), (10, 6, 0),
  (6, 40, 0), (10, 40, 0), (6, 40, 0), (10, 40, 0), (6, 40, 0), (10, 40, 0), (6, 40, 0), (10, 40, 0), (6, 40, 0), (10, 40, 0), (6, 40, 0), (10, 40, 0),
  (6, 60, 0), (10, 60, 0), (6, 60, 0), (10, 60, 0), (6, 60, 0), (10, 60, 0), (6, 60, 0), (10, 60, 0),
  (7, 0, 0), (15, 6, 28), (10, 40, 0), (0, 0, 0), (0, 0, 0), (0, 0, 0), (0, 0, 0), (0, 0, 0), (0, 0, 0),
  (7, 0, 0), (15, 6, 37), (10, 40, 0), (0, 0, 0), (0, 0, 0), (0, 0, 0), (0, 0, 0), (0, 0, 0), (0, 0, 0),
  (7, 0, 0), (15, 6, 46), (10, 40, 0), (0, 0, 0), (0, 0, 0), (0, 0, 0), (0, 0, 0), (0, 0, 0), (0, 0, 0),
  (7, 0, 0), (15, 6, 55), (10, 40, 0), (0, 0, 0), (0, 0, 0), (0, 0, 0), (0, 0, 0), (0, 0, 0), (0, 0, 0),
  (7, 0, 0), (15, 6, 64), (10, 40, 0), (0, 0, 0), (0, 0, 0), (0, 0, 0), (0, 0, 0), (0, 0, 0), (0, 0, 0),
  (3, 0, 0), (10, 6, 0), (10, 6, 0), (1, 0, 0), (10, 6, 0), (10, 6, 0), (4, 0, 0), (10, 21, 0), (10, 273, 0), (2, 0, 0), (12, 21, 0), (12, 21, 0), (5, 0, 0), (11, 21, 0), (11, 21, 0)]
/-- the reference's: 0 the object, 1 w, 2 keptDeeds, 3 rows, 4 rowSize, 5 texts, 6 textSize, 7 held, 8 findings, 9 pulls, 10 when, 11 order, 12 can, 13 sums, 14 ways, 15 best, 16 met, 17 wins, 18 parts, 19 next -/
def shM : Sh := [(9, 0, 0), (10, 5280, 0), (10, 3, 0), (10, 240, 0), (10, 6, 0), (10, 240, 0), (10, 4, 0), (10, 40, 0), (10, 6, 0), (10, 6, 0), (10, 6, 0), (10, 6, 0), (11, 651, 0), (10, 273, 0), (12, 273, 0), (10, 6, 0), (11, 46656, 0), (11, 147, 0), (12, 21, 0), (12, 21, 0)]
def wsOf (S : Sh) (G : Gp) (σ : St) : va_W := (List.range S.length).map (fun k => (G.2.2 k, cellOf G σ k (S.getD k (99, 0, 0))))
def Dj (S : Sh) (G : Gp) : Prop := ∀ i j, i < S.length → j < S.length → G.2.2 i = G.2.2 j → i = j
def tysOf (G : Gp) : List (ClassId × FieldType) := [(G.2.1 0, .int), (G.2.1 1, .boolean), (G.2.1 2, .long), (G.2.1 3, .object RX6), (G.2.1 4, .object RX7), (G.2.1 5, .object RX0)]
def Sx (G : Gp) (U : State) : Prop := va_K G.1 vwCl (tysOf G) U ∧ NsOK U
def Fr (S : Sh) (G : Gp) : Nat → Prop := fun q => ∃ k, k < S.length ∧ q = G.2.2 k
theorem ws_at {S : Sh} {G : Gp} {σ : St} {k : Nat} {q : Nat × Nat × Nat} (h : S[k]? = some q) : (wsOf S G σ)[k]? = some (G.2.2 k, cellOf G σ k q) := by
  obtain ⟨h1, h2⟩ := List.getElem?_eq_some_iff.mp h
  simp [wsOf, h1, List.getD, h2]
theorem ws_len {S : Sh} {G : Gp} {σ : St} : (wsOf S G σ).length = S.length := by simp [wsOf]
theorem ws_D {S : Sh} {G : Gp} (hD : Dj S G) (σ : St) : va_D (Fr S G) (wsOf S G σ) := by
  refine ⟨fun i j p q hi hj e => ?_, fun k q hk => ?_⟩
  · obtain ⟨hi1, hi2⟩ := List.getElem?_eq_some_iff.mp hi
    obtain ⟨hj1, hj2⟩ := List.getElem?_eq_some_iff.mp hj
    rw [ws_len] at hi1 hj1
    refine hD i j hi1 hj1 ?_
    simp [wsOf] at hi2 hj2
    rw [← hi2, ← hj2] at e
    exact e
  · obtain ⟨hk1, hk2⟩ := List.getElem?_eq_some_iff.mp hk
    rw [ws_len] at hk1
    simp [wsOf] at hk2
    exact ⟨k, hk1, by rw [← hk2]⟩
theorem cell_congr {G : Gp} {σ σ' : St} {i : Nat} (h1 : σ'.1 i = σ.1 i) (h2 : σ'.2 i = σ.2 i) (q : Nat × Nat × Nat) : cellOf G σ' i q = cellOf G σ i q := by
  unfold cellOf
  split <;> simp [h1, h2]
theorem ws_set {S : Sh} {G : Gp} {σ σ' : St} {k : Nat} {q : Nat × Nat × Nat} (hk : S[k]? = some q) {E : va_E} (h1 : cellOf G σ' k q = E) (h2 : ∀ i, i ≠ k → σ'.1 i = σ.1 i ∧ σ'.2 i = σ.2 i) : (wsOf S G σ).set k (G.2.2 k, E) = wsOf S G σ' := by
  obtain ⟨hk1, hk2⟩ := List.getElem?_eq_some_iff.mp hk
  apply List.ext_getElem?
  intro i
  by_cases hi : i = k
  · subst hi
    rw [List.getElem?_set_self (by rw [ws_len]; exact hk1), ws_at hk, h1]
  · rw [List.getElem?_set_ne (fun e => hi e.symm)]
    rcases Nat.lt_or_ge i S.length with h | h
    · have hs : S[i]? = some S[i] := List.getElem?_eq_getElem h
      rw [ws_at hs, ws_at hs, cell_congr (h2 i hi).1 (h2 i hi).2]
    · rw [List.getElem?_eq_none (by rw [ws_len]; exact h), List.getElem?_eq_none (by rw [ws_len]; exact h)]
theorem uI_o {σ : St} {k j : Nat} {v : Int32} : ∀ i, i ≠ k → (uI σ k j v).1 i = σ.1 i ∧ (uI σ k j v).2 i = σ.2 i := fun i hi => ⟨by funext b; simp [uI, hi], rfl⟩
theorem uL_o {σ : St} {k j : Nat} {v : Int64} : ∀ i, i ≠ k → (uL σ k j v).1 i = σ.1 i ∧ (uL σ k j v).2 i = σ.2 i := fun i hi => ⟨rfl, by funext b; simp [uL, hi]⟩
theorem uCI_o {σ : St} {k0 k sp dp n : Nat} : ∀ i, i ≠ k → (uCI σ k0 k sp dp n).1 i = σ.1 i ∧ (uCI σ k0 k sp dp n).2 i = σ.2 i := fun i hi => ⟨by funext b; simp [uCI, hi], rfl⟩
theorem uCL_o {σ : St} {k0 k sp dp n : Nat} : ∀ i, i ≠ k → (uCL σ k0 k sp dp n).1 i = σ.1 i ∧ (uCL σ k0 k sp dp n).2 i = σ.2 i := fun i hi => ⟨rfl, by funext b; simp [uCL, hi]⟩
theorem Sx.moved {G : Gp} {s U : State} (h : s.WarmedH U.vm) (hx : Sx G s) : Sx G U := ⟨va_K.moved h.alike hx.1, hx.2.warm h⟩
theorem Sx.same {G : Gp} {s U : State} (h : s.vm = U.vm) (hx : Sx G s) : Sx G U := ⟨va_K.moved (by rw [h]; exact Vm.Alike.refl _) hx.1, hx.2.same h⟩
/-- contracts -/
def rmD (d : Nat) : Room := { frames := d, cells := 0, slots := 0, locals := 60 * d }
def wsM (y : MethodName) (cc : ByteArray) (n : Nat) (ret : Option FieldType) : List Cond := .code y cc n ret :: TB
def Pw (S : Sh) (G : Gp) (av : List Value) (σ : St) : Array Value → State → Prop := fun a U => a = av.toArray ∧ va_P G.1 vwCl (wsOf S G σ) U.heap ∧ Sx G U
def Qw (S : Sh) (G : Gp) (K : Option Value → St → Prop) : Array Value → State → Outcome → State → Prop := fun _ st oc t => (∃ (r : Option Value) (σ : St), oc = .returned r ∧ K r σ ∧ va_P G.1 vwCl (wsOf S G σ) t.heap) ∧ va_F (Fr S G) st t
def MC (l : Launch) (S : Sh) (G : Gp) (y : MethodName) (cc : ByteArray) (n : Nat) (ret : Option FieldType) (d : Nat) (av : List Value) (σ : St) (K : Option Value → St → Prop) : Prop :=
  Met l y (wsM y cc n ret) (rmD d) (Pw S G av σ) (Qw S G K) 0 0 (Fr S G)
def RI (K : Int32 → St → Prop) : Option Value → St → Prop := fun o σ => ∃ r, o = some (.int r) ∧ K r σ
def RJ (K : Int64 → St → Prop) : Option Value → St → Prop := fun o σ => ∃ r, o = some (.long r) ∧ K r σ
def RV (K : St → Prop) : Option Value → St → Prop := fun o σ => o = none ∧ K σ
/-- loops -/
def zok (r : Int32) : Prop := r = 0 ∨ r = 1
theorem zok_n {r : Int32} (h : zok r) : narrow .boolean (.int r) = .int r := by rcases h with rfl | rfl <;> rfl
theorem zok_f {r : Int32} (h : zok r) : fits .boolean (.int r) = true := by rcases h with rfl | rfl <;> rfl
theorem ite_t {c : Prop} [Decidable c] {A B : Prop} (h : if c then A else B) (hc : c) : A := by rwa [if_pos hc] at h
theorem ite_f {c : Prop} [Decidable c] {A B : Prop} (h : if c then A else B) (hc : ¬ c) : B := by rwa [if_neg hc] at h
/-- what a method's walk has at hand -/
def Cx (p : Program) (R : Room) (s : State) (m : MethodId) (args : Array Value) (meth : Method) (c : Code) (S : Sh) (G : Gp) (cc : ByteArray) (nL d : Nat) (own : String) (ret : Option FieldType) (cs sl : Nat) : Prop :=
  CallFix p m c cc nL s args TB own ∧ Sx G s ∧ Dj S G ∧ (meth.sig.returnType = ret ∧ meth.locks = false) ∧ d ≤ R.frames ∧ 60 * d ≤ R.locals ∧ cs ≤ R.cells ∧ sl ≤ R.slots
def Go (p : Program) (l : Launch) (e : Env) (R : Room) (s : State) (m : MethodId) (args : Array Value) (below : List Frame) (meth : Method) (c : Code) (S : Sh) (G : Gp) (nL cs sl : Nat) (Q : State → Prop) (pc : Nat) (lv : List (Nat × Value)) (st : List Value) (σ : St) : Prop :=
  ∀ (H : Heap) (locs : List Loc) (ls : Array Slot), va_P G.1 vwCl (wsOf S G σ) H → va_S (Fr S G) s.heap H locs → lv_has ls nL lv → W p l e R s m args below meth c H locs cs sl Q (F0 m pc ls st)
end
