section
-- ===== PART A: goes FIRST, ahead of the names: the tables' words, and 'selects' of the private methods out of them =====
/-- a private method of a class that the tables say can be made, by its rows of tables_1 -/
def lw_okq (q : MethodName × Nat) : Prop := (q.1.cls ≠ "java/lang/invoke/MethodHandle" ∧ q.1.cls ≠ "java/lang/invoke/VarHandle") ∧ Cond.instantiable q.1.cls q.2 ∈ tables_1 ∧ Cond.privateMethod q.1 ∈ tables_1 ∧ Cond.instanceMethod q.1 ∈ tables_1
theorem lw_p0 : lw_okq (⟨"ServedAhead$Page", "takes", "(I)Z"⟩, 5) := ⟨⟨by decide +kernel, by decide +kernel⟩, List.mem_of_getElem? (i := 22) (by decide +kernel), List.mem_of_getElem? (i := 291) (by decide +kernel), List.mem_of_getElem? (i := 292) (by decide +kernel)⟩
theorem lw_p1 : lw_okq (⟨"ServedAhead$Page", "takesTerm", "(I)Z"⟩, 5) := ⟨⟨by decide +kernel, by decide +kernel⟩, List.mem_of_getElem? (i := 22) (by decide +kernel), List.mem_of_getElem? (i := 295) (by decide +kernel), List.mem_of_getElem? (i := 296) (by decide +kernel)⟩
theorem lw_p2 : lw_okq (⟨"ServedAhead$Page", "takesWorth", "(I)Z"⟩, 5) := ⟨⟨by decide +kernel, by decide +kernel⟩, List.mem_of_getElem? (i := 22) (by decide +kernel), List.mem_of_getElem? (i := 302) (by decide +kernel), List.mem_of_getElem? (i := 303) (by decide +kernel)⟩
theorem lw_p3 : lw_okq (⟨"ServedAhead$Page", "takesColon", "(I)Z"⟩, 5) := ⟨⟨by decide +kernel, by decide +kernel⟩, List.mem_of_getElem? (i := 22) (by decide +kernel), List.mem_of_getElem? (i := 306) (by decide +kernel), List.mem_of_getElem? (i := 307) (by decide +kernel)⟩
theorem lw_p4 : lw_okq (⟨"ServedAhead$Page", "takesSort", "(I)Z"⟩, 5) := ⟨⟨by decide +kernel, by decide +kernel⟩, List.mem_of_getElem? (i := 22) (by decide +kernel), List.mem_of_getElem? (i := 310) (by decide +kernel), List.mem_of_getElem? (i := 311) (by decide +kernel)⟩
theorem lw_p5 : lw_okq (⟨"ServedAhead$Page", "takesEndOfDeed", "(I)Z"⟩, 5) := ⟨⟨by decide +kernel, by decide +kernel⟩, List.mem_of_getElem? (i := 22) (by decide +kernel), List.mem_of_getElem? (i := 314) (by decide +kernel), List.mem_of_getElem? (i := 315) (by decide +kernel)⟩
theorem lw_p6 : lw_okq (⟨"ServedAhead$Page", "takesLapse", "(I)Z"⟩, 5) := ⟨⟨by decide +kernel, by decide +kernel⟩, List.mem_of_getElem? (i := 22) (by decide +kernel), List.mem_of_getElem? (i := 318) (by decide +kernel), List.mem_of_getElem? (i := 319) (by decide +kernel)⟩
theorem lw_p7 : lw_okq (⟨"ServedAhead$Person", "earns", "(II)V"⟩, 6) := ⟨⟨by decide +kernel, by decide +kernel⟩, List.mem_of_getElem? (i := 80) (by decide +kernel), List.mem_of_getElem? (i := 490) (by decide +kernel), List.mem_of_getElem? (i := 491) (by decide +kernel)⟩
theorem lw_p8 : lw_okq (⟨"ServedAhead", "arePair", "(II)Z"⟩, 12) := ⟨⟨by decide +kernel, by decide +kernel⟩, List.mem_of_getElem? (i := 14) (by decide +kernel), List.mem_of_getElem? (i := 538) (by decide +kernel), List.mem_of_getElem? (i := 539) (by decide +kernel)⟩
theorem lw_p9 : lw_okq (⟨"ServedAhead$Hunt", "tryFrom", "(ILServedAhead$Law;)V"⟩, 6) := ⟨⟨by decide +kernel, by decide +kernel⟩, List.mem_of_getElem? (i := 163) (by decide +kernel), List.mem_of_getElem? (i := 589) (by decide +kernel), List.mem_of_getElem? (i := 590) (by decide +kernel)⟩
theorem lw_p10 : lw_okq (⟨"ServedAhead", "weeksOfServing", "(LServedAhead$Person;II)I"⟩, 12) := ⟨⟨by decide +kernel, by decide +kernel⟩, List.mem_of_getElem? (i := 14) (by decide +kernel), List.mem_of_getElem? (i := 616) (by decide +kernel), List.mem_of_getElem? (i := 617) (by decide +kernel)⟩
theorem lw_p11 : lw_okq (⟨"ServedAhead$Ledger", "reckon", "(I)V"⟩, 7) := ⟨⟨by decide +kernel, by decide +kernel⟩, List.mem_of_getElem? (i := 192) (by decide +kernel), List.mem_of_getElem? (i := 662) (by decide +kernel), List.mem_of_getElem? (i := 663) (by decide +kernel)⟩
theorem lw_p12 : lw_okq (⟨"ServedAhead$Ledger", "walkFrom", "(ILServedAhead$Law;)V"⟩, 7) := ⟨⟨by decide +kernel, by decide +kernel⟩, List.mem_of_getElem? (i := 192) (by decide +kernel), List.mem_of_getElem? (i := 667) (by decide +kernel), List.mem_of_getElem? (i := 668) (by decide +kernel)⟩
theorem lw_p13 : lw_okq (⟨"ServedAhead$Ledger", "goOn", "(IILServedAhead$Law;)V"⟩, 7) := ⟨⟨by decide +kernel, by decide +kernel⟩, List.mem_of_getElem? (i := 192) (by decide +kernel), List.mem_of_getElem? (i := 676) (by decide +kernel), List.mem_of_getElem? (i := 677) (by decide +kernel)⟩
theorem lw_p14 : lw_okq (⟨"ServedAhead$Town", "actByDraw", "(LServedAhead$Person;LServedAhead$Law;)V"⟩, 5) := ⟨⟨by decide +kernel, by decide +kernel⟩, List.mem_of_getElem? (i := 73) (by decide +kernel), List.mem_of_getElem? (i := 699) (by decide +kernel), List.mem_of_getElem? (i := 700) (by decide +kernel)⟩
theorem lw_p15 : lw_okq (⟨"ServedAhead$Town", "drawn", "()I"⟩, 5) := ⟨⟨by decide +kernel, by decide +kernel⟩, List.mem_of_getElem? (i := 73) (by decide +kernel), List.mem_of_getElem? (i := 703) (by decide +kernel), List.mem_of_getElem? (i := 704) (by decide +kernel)⟩
def lw_privs_1 : List (MethodName × Nat) := [(⟨"ServedAhead$Page", "takes", "(I)Z"⟩, 5), (⟨"ServedAhead$Page", "takesTerm", "(I)Z"⟩, 5), (⟨"ServedAhead$Page", "takesWorth", "(I)Z"⟩, 5), (⟨"ServedAhead$Page", "takesColon", "(I)Z"⟩, 5), (⟨"ServedAhead$Page", "takesSort", "(I)Z"⟩, 5), (⟨"ServedAhead$Page", "takesEndOfDeed", "(I)Z"⟩, 5), (⟨"ServedAhead$Page", "takesLapse", "(I)Z"⟩, 5), (⟨"ServedAhead$Person", "earns", "(II)V"⟩, 6), (⟨"ServedAhead", "arePair", "(II)Z"⟩, 12), (⟨"ServedAhead$Hunt", "tryFrom", "(ILServedAhead$Law;)V"⟩, 6), (⟨"ServedAhead", "weeksOfServing", "(LServedAhead$Person;II)I"⟩, 12), (⟨"ServedAhead$Ledger", "reckon", "(I)V"⟩, 7), (⟨"ServedAhead$Ledger", "walkFrom", "(ILServedAhead$Law;)V"⟩, 7), (⟨"ServedAhead$Ledger", "goOn", "(IILServedAhead$Law;)V"⟩, 7), (⟨"ServedAhead$Town", "actByDraw", "(LServedAhead$Person;LServedAhead$Law;)V"⟩, 5), (⟨"ServedAhead$Town", "drawn", "()I"⟩, 5)]
theorem lw_r1 : ∀ q ∈ lw_privs_1, lw_okq q := List.forall_mem_cons.mpr ⟨lw_p0, List.forall_mem_cons.mpr ⟨lw_p1, List.forall_mem_cons.mpr ⟨lw_p2, List.forall_mem_cons.mpr ⟨lw_p3, List.forall_mem_cons.mpr ⟨lw_p4, List.forall_mem_cons.mpr ⟨lw_p5, List.forall_mem_cons.mpr ⟨lw_p6, List.forall_mem_cons.mpr ⟨lw_p7, List.forall_mem_cons.mpr ⟨lw_p8, List.forall_mem_cons.mpr ⟨lw_p9, List.forall_mem_cons.mpr ⟨lw_p10, List.forall_mem_cons.mpr ⟨lw_p11, List.forall_mem_cons.mpr ⟨lw_p12, List.forall_mem_cons.mpr ⟨lw_p13, List.forall_mem_cons.mpr ⟨lw_p14, List.forall_mem_cons.mpr ⟨lw_p15, fun _ h => absurd h List.not_mem_nil⟩⟩⟩⟩⟩⟩⟩⟩⟩⟩⟩⟩⟩⟩⟩⟩
theorem lw_p16 : lw_okq (⟨"ServedAhead", "withDeed", "(JI)J"⟩, 12) := ⟨⟨by decide +kernel, by decide +kernel⟩, List.mem_of_getElem? (i := 14) (by decide +kernel), List.mem_of_getElem? (i := 745) (by decide +kernel), List.mem_of_getElem? (i := 746) (by decide +kernel)⟩
theorem lw_p17 : lw_okq (⟨"ServedAhead", "withPerson", "(JI)J"⟩, 12) := ⟨⟨by decide +kernel, by decide +kernel⟩, List.mem_of_getElem? (i := 14) (by decide +kernel), List.mem_of_getElem? (i := 752) (by decide +kernel), List.mem_of_getElem? (i := 753) (by decide +kernel)⟩
theorem lw_p18 : lw_okq (⟨"ServedAheadModel", "readLaw", "()V"⟩, 61) := ⟨⟨by decide +kernel, by decide +kernel⟩, List.mem_of_getElem? (i := 760) (by decide +kernel), List.mem_of_getElem? (i := 966) (by decide +kernel), List.mem_of_getElem? (i := 967) (by decide +kernel)⟩
theorem lw_p19 : lw_okq (⟨"ServedAheadModel", "nextState", "(II)I"⟩, 61) := ⟨⟨by decide +kernel, by decide +kernel⟩, List.mem_of_getElem? (i := 760) (by decide +kernel), List.mem_of_getElem? (i := 970) (by decide +kernel), List.mem_of_getElem? (i := 971) (by decide +kernel)⟩
theorem lw_p20 : lw_okq (⟨"ServedAheadModel", "sortState", "(III)I"⟩, 61) := ⟨⟨by decide +kernel, by decide +kernel⟩, List.mem_of_getElem? (i := 760) (by decide +kernel), List.mem_of_getElem? (i := 974) (by decide +kernel), List.mem_of_getElem? (i := 975) (by decide +kernel)⟩
theorem lw_p21 : lw_okq (⟨"ServedAheadModel", "lapseAll", "()V"⟩, 61) := ⟨⟨by decide +kernel, by decide +kernel⟩, List.mem_of_getElem? (i := 760) (by decide +kernel), List.mem_of_getElem? (i := 985) (by decide +kernel), List.mem_of_getElem? (i := 986) (by decide +kernel)⟩
theorem lw_p22 : lw_okq (⟨"ServedAheadModel", "lapseOf", "(II)V"⟩, 61) := ⟨⟨by decide +kernel, by decide +kernel⟩, List.mem_of_getElem? (i := 760) (by decide +kernel), List.mem_of_getElem? (i := 989) (by decide +kernel), List.mem_of_getElem? (i := 990) (by decide +kernel)⟩
theorem lw_p23 : lw_okq (⟨"ServedAheadModel", "deedNow", "(II)I"⟩, 61) := ⟨⟨by decide +kernel, by decide +kernel⟩, List.mem_of_getElem? (i := 760) (by decide +kernel), List.mem_of_getElem? (i := 1000) (by decide +kernel), List.mem_of_getElem? (i := 1001) (by decide +kernel)⟩
theorem lw_p24 : lw_okq (⟨"ServedAheadModel", "isThere", "(I)Z"⟩, 61) := ⟨⟨by decide +kernel, by decide +kernel⟩, List.mem_of_getElem? (i := 760) (by decide +kernel), List.mem_of_getElem? (i := 1012) (by decide +kernel), List.mem_of_getElem? (i := 1013) (by decide +kernel)⟩
theorem lw_p25 : lw_okq (⟨"ServedAheadModel", "personNow", "(II)I"⟩, 61) := ⟨⟨by decide +kernel, by decide +kernel⟩, List.mem_of_getElem? (i := 760) (by decide +kernel), List.mem_of_getElem? (i := 1016) (by decide +kernel), List.mem_of_getElem? (i := 1017) (by decide +kernel)⟩
theorem lw_p26 : lw_okq (⟨"ServedAheadModel", "countOf", "(II)I"⟩, 61) := ⟨⟨by decide +kernel, by decide +kernel⟩, List.mem_of_getElem? (i := 760) (by decide +kernel), List.mem_of_getElem? (i := 1020) (by decide +kernel), List.mem_of_getElem? (i := 1021) (by decide +kernel)⟩
theorem lw_p27 : lw_okq (⟨"ServedAheadModel", "isPerson", "(I)Z"⟩, 61) := ⟨⟨by decide +kernel, by decide +kernel⟩, List.mem_of_getElem? (i := 760) (by decide +kernel), List.mem_of_getElem? (i := 1032) (by decide +kernel), List.mem_of_getElem? (i := 1033) (by decide +kernel)⟩
theorem lw_p28 : lw_okq (⟨"ServedAheadModel", "mayNow", "(II)Z"⟩, 61) := ⟨⟨by decide +kernel, by decide +kernel⟩, List.mem_of_getElem? (i := 760) (by decide +kernel), List.mem_of_getElem? (i := 1039) (by decide +kernel), List.mem_of_getElem? (i := 1040) (by decide +kernel)⟩
theorem lw_p29 : lw_okq (⟨"ServedAheadModel", "mayDo", "(II)Z"⟩, 61) := ⟨⟨by decide +kernel, by decide +kernel⟩, List.mem_of_getElem? (i := 760) (by decide +kernel), List.mem_of_getElem? (i := 1043) (by decide +kernel), List.mem_of_getElem? (i := 1044) (by decide +kernel)⟩
theorem lw_p30 : lw_okq (⟨"ServedAheadModel", "isCovered", "(III)Z"⟩, 61) := ⟨⟨by decide +kernel, by decide +kernel⟩, List.mem_of_getElem? (i := 760) (by decide +kernel), List.mem_of_getElem? (i := 1047) (by decide +kernel), List.mem_of_getElem? (i := 1048) (by decide +kernel)⟩
theorem lw_p31 : lw_okq (⟨"ServedAheadModel", "doAct", "(III)V"⟩, 61) := ⟨⟨by decide +kernel, by decide +kernel⟩, List.mem_of_getElem? (i := 760) (by decide +kernel), List.mem_of_getElem? (i := 1058) (by decide +kernel), List.mem_of_getElem? (i := 1059) (by decide +kernel)⟩
def lw_privs_2 : List (MethodName × Nat) := [(⟨"ServedAhead", "withDeed", "(JI)J"⟩, 12), (⟨"ServedAhead", "withPerson", "(JI)J"⟩, 12), (⟨"ServedAheadModel", "readLaw", "()V"⟩, 61), (⟨"ServedAheadModel", "nextState", "(II)I"⟩, 61), (⟨"ServedAheadModel", "sortState", "(III)I"⟩, 61), (⟨"ServedAheadModel", "lapseAll", "()V"⟩, 61), (⟨"ServedAheadModel", "lapseOf", "(II)V"⟩, 61), (⟨"ServedAheadModel", "deedNow", "(II)I"⟩, 61), (⟨"ServedAheadModel", "isThere", "(I)Z"⟩, 61), (⟨"ServedAheadModel", "personNow", "(II)I"⟩, 61), (⟨"ServedAheadModel", "countOf", "(II)I"⟩, 61), (⟨"ServedAheadModel", "isPerson", "(I)Z"⟩, 61), (⟨"ServedAheadModel", "mayNow", "(II)Z"⟩, 61), (⟨"ServedAheadModel", "mayDo", "(II)Z"⟩, 61), (⟨"ServedAheadModel", "isCovered", "(III)Z"⟩, 61), (⟨"ServedAheadModel", "doAct", "(III)V"⟩, 61)]
theorem lw_r2 : ∀ q ∈ lw_privs_2, lw_okq q := List.forall_mem_cons.mpr ⟨lw_p16, List.forall_mem_cons.mpr ⟨lw_p17, List.forall_mem_cons.mpr ⟨lw_p18, List.forall_mem_cons.mpr ⟨lw_p19, List.forall_mem_cons.mpr ⟨lw_p20, List.forall_mem_cons.mpr ⟨lw_p21, List.forall_mem_cons.mpr ⟨lw_p22, List.forall_mem_cons.mpr ⟨lw_p23, List.forall_mem_cons.mpr ⟨lw_p24, List.forall_mem_cons.mpr ⟨lw_p25, List.forall_mem_cons.mpr ⟨lw_p26, List.forall_mem_cons.mpr ⟨lw_p27, List.forall_mem_cons.mpr ⟨lw_p28, List.forall_mem_cons.mpr ⟨lw_p29, List.forall_mem_cons.mpr ⟨lw_p30, List.forall_mem_cons.mpr ⟨lw_p31, fun _ h => absurd h List.not_mem_nil⟩⟩⟩⟩⟩⟩⟩⟩⟩⟩⟩⟩⟩⟩⟩⟩
theorem lw_p32 : lw_okq (⟨"ServedAheadModel", "gets", "(II)I"⟩, 61) := ⟨⟨by decide +kernel, by decide +kernel⟩, List.mem_of_getElem? (i := 760) (by decide +kernel), List.mem_of_getElem? (i := 1062) (by decide +kernel), List.mem_of_getElem? (i := 1063) (by decide +kernel)⟩
theorem lw_p33 : lw_okq (⟨"ServedAheadModel", "take", "(III)I"⟩, 61) := ⟨⟨by decide +kernel, by decide +kernel⟩, List.mem_of_getElem? (i := 760) (by decide +kernel), List.mem_of_getElem? (i := 1066) (by decide +kernel), List.mem_of_getElem? (i := 1067) (by decide +kernel)⟩
theorem lw_p34 : lw_okq (⟨"ServedAheadModel", "serve", "(III)V"⟩, 61) := ⟨⟨by decide +kernel, by decide +kernel⟩, List.mem_of_getElem? (i := 760) (by decide +kernel), List.mem_of_getElem? (i := 1070) (by decide +kernel), List.mem_of_getElem? (i := 1071) (by decide +kernel)⟩
theorem lw_p35 : lw_okq (⟨"ServedAheadModel", "give", "(II)Z"⟩, 61) := ⟨⟨by decide +kernel, by decide +kernel⟩, List.mem_of_getElem? (i := 760) (by decide +kernel), List.mem_of_getElem? (i := 1074) (by decide +kernel), List.mem_of_getElem? (i := 1075) (by decide +kernel)⟩
theorem lw_p36 : lw_okq (⟨"ServedAheadModel", "goWeek", "()V"⟩, 61) := ⟨⟨by decide +kernel, by decide +kernel⟩, List.mem_of_getElem? (i := 760) (by decide +kernel), List.mem_of_getElem? (i := 1082) (by decide +kernel), List.mem_of_getElem? (i := 1083) (by decide +kernel)⟩
theorem lw_p37 : lw_okq (⟨"ServedAheadModel", "owesAll", "()I"⟩, 61) := ⟨⟨by decide +kernel, by decide +kernel⟩, List.mem_of_getElem? (i := 760) (by decide +kernel), List.mem_of_getElem? (i := 1098) (by decide +kernel), List.mem_of_getElem? (i := 1099) (by decide +kernel)⟩
theorem lw_p38 : lw_okq (⟨"ServedAheadModel", "layGain", "(II)V"⟩, 61) := ⟨⟨by decide +kernel, by decide +kernel⟩, List.mem_of_getElem? (i := 760) (by decide +kernel), List.mem_of_getElem? (i := 1106) (by decide +kernel), List.mem_of_getElem? (i := 1107) (by decide +kernel)⟩
theorem lw_p39 : lw_okq (⟨"ServedAheadModel", "copy", "(II)V"⟩, 61) := ⟨⟨by decide +kernel, by decide +kernel⟩, List.mem_of_getElem? (i := 760) (by decide +kernel), List.mem_of_getElem? (i := 1110) (by decide +kernel), List.mem_of_getElem? (i := 1111) (by decide +kernel)⟩
theorem lw_p40 : lw_okq (⟨"ServedAheadModel", "keepRow", "(I)V"⟩, 61) := ⟨⟨by decide +kernel, by decide +kernel⟩, List.mem_of_getElem? (i := 760) (by decide +kernel), List.mem_of_getElem? (i := 1114) (by decide +kernel), List.mem_of_getElem? (i := 1115) (by decide +kernel)⟩
theorem lw_p41 : lw_okq (⟨"ServedAheadModel", "goRow", "(IIZ)Z"⟩, 61) := ⟨⟨by decide +kernel, by decide +kernel⟩, List.mem_of_getElem? (i := 760) (by decide +kernel), List.mem_of_getElem? (i := 1121) (by decide +kernel), List.mem_of_getElem? (i := 1122) (by decide +kernel)⟩
theorem lw_p42 : lw_okq (⟨"ServedAheadModel", "backRow", "(I)V"⟩, 61) := ⟨⟨by decide +kernel, by decide +kernel⟩, List.mem_of_getElem? (i := 760) (by decide +kernel), List.mem_of_getElem? (i := 1125) (by decide +kernel), List.mem_of_getElem? (i := 1126) (by decide +kernel)⟩
theorem lw_p43 : lw_okq (⟨"ServedAheadModel", "soonTold", "(II)I"⟩, 61) := ⟨⟨by decide +kernel, by decide +kernel⟩, List.mem_of_getElem? (i := 760) (by decide +kernel), List.mem_of_getElem? (i := 1133) (by decide +kernel), List.mem_of_getElem? (i := 1134) (by decide +kernel)⟩
theorem lw_p44 : lw_okq (⟨"ServedAheadModel", "soonNow", "(II)I"⟩, 61) := ⟨⟨by decide +kernel, by decide +kernel⟩, List.mem_of_getElem? (i := 760) (by decide +kernel), List.mem_of_getElem? (i := 1137) (by decide +kernel), List.mem_of_getElem? (i := 1138) (by decide +kernel)⟩
theorem lw_p45 : lw_okq (⟨"ServedAheadModel", "soonBy", "(III)I"⟩, 61) := ⟨⟨by decide +kernel, by decide +kernel⟩, List.mem_of_getElem? (i := 760) (by decide +kernel), List.mem_of_getElem? (i := 1141) (by decide +kernel), List.mem_of_getElem? (i := 1142) (by decide +kernel)⟩
theorem lw_p46 : lw_okq (⟨"ServedAheadModel", "keptNow", "(I)I"⟩, 61) := ⟨⟨by decide +kernel, by decide +kernel⟩, List.mem_of_getElem? (i := 760) (by decide +kernel), List.mem_of_getElem? (i := 1149) (by decide +kernel), List.mem_of_getElem? (i := 1150) (by decide +kernel)⟩
theorem lw_p47 : lw_okq (⟨"ServedAheadModel", "canAny", "(II)Z"⟩, 61) := ⟨⟨by decide +kernel, by decide +kernel⟩, List.mem_of_getElem? (i := 760) (by decide +kernel), List.mem_of_getElem? (i := 1153) (by decide +kernel), List.mem_of_getElem? (i := 1154) (by decide +kernel)⟩
def lw_privs_3 : List (MethodName × Nat) := [(⟨"ServedAheadModel", "gets", "(II)I"⟩, 61), (⟨"ServedAheadModel", "take", "(III)I"⟩, 61), (⟨"ServedAheadModel", "serve", "(III)V"⟩, 61), (⟨"ServedAheadModel", "give", "(II)Z"⟩, 61), (⟨"ServedAheadModel", "goWeek", "()V"⟩, 61), (⟨"ServedAheadModel", "owesAll", "()I"⟩, 61), (⟨"ServedAheadModel", "layGain", "(II)V"⟩, 61), (⟨"ServedAheadModel", "copy", "(II)V"⟩, 61), (⟨"ServedAheadModel", "keepRow", "(I)V"⟩, 61), (⟨"ServedAheadModel", "goRow", "(IIZ)Z"⟩, 61), (⟨"ServedAheadModel", "backRow", "(I)V"⟩, 61), (⟨"ServedAheadModel", "soonTold", "(II)I"⟩, 61), (⟨"ServedAheadModel", "soonNow", "(II)I"⟩, 61), (⟨"ServedAheadModel", "soonBy", "(III)I"⟩, 61), (⟨"ServedAheadModel", "keptNow", "(I)I"⟩, 61), (⟨"ServedAheadModel", "canAny", "(II)Z"⟩, 61)]
theorem lw_r3 : ∀ q ∈ lw_privs_3, lw_okq q := List.forall_mem_cons.mpr ⟨lw_p32, List.forall_mem_cons.mpr ⟨lw_p33, List.forall_mem_cons.mpr ⟨lw_p34, List.forall_mem_cons.mpr ⟨lw_p35, List.forall_mem_cons.mpr ⟨lw_p36, List.forall_mem_cons.mpr ⟨lw_p37, List.forall_mem_cons.mpr ⟨lw_p38, List.forall_mem_cons.mpr ⟨lw_p39, List.forall_mem_cons.mpr ⟨lw_p40, List.forall_mem_cons.mpr ⟨lw_p41, List.forall_mem_cons.mpr ⟨lw_p42, List.forall_mem_cons.mpr ⟨lw_p43, List.forall_mem_cons.mpr ⟨lw_p44, List.forall_mem_cons.mpr ⟨lw_p45, List.forall_mem_cons.mpr ⟨lw_p46, List.forall_mem_cons.mpr ⟨lw_p47, fun _ h => absurd h List.not_mem_nil⟩⟩⟩⟩⟩⟩⟩⟩⟩⟩⟩⟩⟩⟩⟩⟩
theorem lw_p48 : lw_okq (⟨"ServedAheadModel", "mayBook", "()Z"⟩, 61) := ⟨⟨by decide +kernel, by decide +kernel⟩, List.mem_of_getElem? (i := 760) (by decide +kernel), List.mem_of_getElem? (i := 1169) (by decide +kernel), List.mem_of_getElem? (i := 1170) (by decide +kernel)⟩
theorem lw_p49 : lw_okq (⟨"ServedAheadModel", "layWays", "()V"⟩, 61) := ⟨⟨by decide +kernel, by decide +kernel⟩, List.mem_of_getElem? (i := 760) (by decide +kernel), List.mem_of_getElem? (i := 1173) (by decide +kernel), List.mem_of_getElem? (i := 1174) (by decide +kernel)⟩
theorem lw_p50 : lw_okq (⟨"ServedAheadModel", "tryRow", "(I)I"⟩, 61) := ⟨⟨by decide +kernel, by decide +kernel⟩, List.mem_of_getElem? (i := 760) (by decide +kernel), List.mem_of_getElem? (i := 1177) (by decide +kernel), List.mem_of_getElem? (i := 1178) (by decide +kernel)⟩
theorem lw_p51 : lw_okq (⟨"ServedAheadModel", "yearsNow", "(III)I"⟩, 61) := ⟨⟨by decide +kernel, by decide +kernel⟩, List.mem_of_getElem? (i := 760) (by decide +kernel), List.mem_of_getElem? (i := 1189) (by decide +kernel), List.mem_of_getElem? (i := 1190) (by decide +kernel)⟩
theorem lw_p52 : lw_okq (⟨"ServedAheadModel", "save", "()V"⟩, 61) := ⟨⟨by decide +kernel, by decide +kernel⟩, List.mem_of_getElem? (i := 760) (by decide +kernel), List.mem_of_getElem? (i := 1193) (by decide +kernel), List.mem_of_getElem? (i := 1194) (by decide +kernel)⟩
theorem lw_p53 : lw_okq (⟨"ServedAheadModel", "draw", "(I)I"⟩, 61) := ⟨⟨by decide +kernel, by decide +kernel⟩, List.mem_of_getElem? (i := 760) (by decide +kernel), List.mem_of_getElem? (i := 1197) (by decide +kernel), List.mem_of_getElem? (i := 1198) (by decide +kernel)⟩
theorem lw_p54 : lw_okq (⟨"ServedAheadModel", "gotAll", "()I"⟩, 61) := ⟨⟨by decide +kernel, by decide +kernel⟩, List.mem_of_getElem? (i := 760) (by decide +kernel), List.mem_of_getElem? (i := 1205) (by decide +kernel), List.mem_of_getElem? (i := 1206) (by decide +kernel)⟩
theorem lw_p55 : lw_okq (⟨"ServedAheadModel", "back", "()V"⟩, 61) := ⟨⟨by decide +kernel, by decide +kernel⟩, List.mem_of_getElem? (i := 760) (by decide +kernel), List.mem_of_getElem? (i := 1209) (by decide +kernel), List.mem_of_getElem? (i := 1210) (by decide +kernel)⟩
theorem lw_p56 : lw_okq (⟨"ServedAheadModel", "howMany", "(I)I"⟩, 61) := ⟨⟨by decide +kernel, by decide +kernel⟩, List.mem_of_getElem? (i := 760) (by decide +kernel), List.mem_of_getElem? (i := 1225) (by decide +kernel), List.mem_of_getElem? (i := 1226) (by decide +kernel)⟩
theorem lw_p57 : lw_okq (⟨"ServedAheadModel", "goneMany", "()I"⟩, 61) := ⟨⟨by decide +kernel, by decide +kernel⟩, List.mem_of_getElem? (i := 760) (by decide +kernel), List.mem_of_getElem? (i := 1229) (by decide +kernel), List.mem_of_getElem? (i := 1230) (by decide +kernel)⟩
theorem lw_p58 : lw_okq (⟨"ServedAheadModel", "creditsAll", "()I"⟩, 61) := ⟨⟨by decide +kernel, by decide +kernel⟩, List.mem_of_getElem? (i := 760) (by decide +kernel), List.mem_of_getElem? (i := 1233) (by decide +kernel), List.mem_of_getElem? (i := 1234) (by decide +kernel)⟩
theorem lw_p59 : lw_okq (⟨"ServedAheadModel", "mix", "(J)V"⟩, 61) := ⟨⟨by decide +kernel, by decide +kernel⟩, List.mem_of_getElem? (i := 760) (by decide +kernel), List.mem_of_getElem? (i := 1242) (by decide +kernel), List.mem_of_getElem? (i := 1243) (by decide +kernel)⟩
def lw_privs_4 : List (MethodName × Nat) := [(⟨"ServedAheadModel", "mayBook", "()Z"⟩, 61), (⟨"ServedAheadModel", "layWays", "()V"⟩, 61), (⟨"ServedAheadModel", "tryRow", "(I)I"⟩, 61), (⟨"ServedAheadModel", "yearsNow", "(III)I"⟩, 61), (⟨"ServedAheadModel", "save", "()V"⟩, 61), (⟨"ServedAheadModel", "draw", "(I)I"⟩, 61), (⟨"ServedAheadModel", "gotAll", "()I"⟩, 61), (⟨"ServedAheadModel", "back", "()V"⟩, 61), (⟨"ServedAheadModel", "howMany", "(I)I"⟩, 61), (⟨"ServedAheadModel", "goneMany", "()I"⟩, 61), (⟨"ServedAheadModel", "creditsAll", "()I"⟩, 61), (⟨"ServedAheadModel", "mix", "(J)V"⟩, 61)]
theorem lw_r4 : ∀ q ∈ lw_privs_4, lw_okq q := List.forall_mem_cons.mpr ⟨lw_p48, List.forall_mem_cons.mpr ⟨lw_p49, List.forall_mem_cons.mpr ⟨lw_p50, List.forall_mem_cons.mpr ⟨lw_p51, List.forall_mem_cons.mpr ⟨lw_p52, List.forall_mem_cons.mpr ⟨lw_p53, List.forall_mem_cons.mpr ⟨lw_p54, List.forall_mem_cons.mpr ⟨lw_p55, List.forall_mem_cons.mpr ⟨lw_p56, List.forall_mem_cons.mpr ⟨lw_p57, List.forall_mem_cons.mpr ⟨lw_p58, List.forall_mem_cons.mpr ⟨lw_p59, fun _ h => absurd h List.not_mem_nil⟩⟩⟩⟩⟩⟩⟩⟩⟩⟩⟩⟩
def lw_privs : List (MethodName × Nat) := lw_privs_1 ++ (lw_privs_2 ++ (lw_privs_3 ++ (lw_privs_4)))
def lw_tbl : List Cond := k2_sels lw_privs ++ tables_1
theorem lw_privs_ok : ∀ q ∈ lw_privs, lw_okq q := by
  show ∀ q ∈ lw_privs_1 ++ (lw_privs_2 ++ (lw_privs_3 ++ (lw_privs_4))), lw_okq q
  exact List.forall_mem_append.mpr ⟨lw_r1, List.forall_mem_append.mpr ⟨lw_r2, List.forall_mem_append.mpr ⟨lw_r3, lw_r4⟩⟩⟩
end
section
def RX0 : String := "ServedAhead$Credits"
def TX0 : u_T := fun k => match k with
  | 0 => ("ServedAhead$Credits", "row", "[I", true)
  | _ => ("ServedAhead$Credits", "size", "I", false)
def tyX0 : Nat → FieldType := fun k => match k with
  | 0 => .array .int
  | _ => .int
abbrev wsX00 : List Cond := u_ws RX0 TX0 2
theorem nmX0 : ∀ a, a < 2 → ∀ b, b < 2 → a ≠ b → (TX0 a).2.1 ≠ (TX0 b).2.1 := by decide +kernel
theorem tyX0_ok : ∀ k, k < 2 → parseFieldDescriptor (TX0 k).2.2.1 = some (tyX0 k) := by decide +kernel
abbrev cX0_init : ByteArray := prog_2_method_1_code
def yX0_init : MethodName := ⟨RX0, "<init>", "()V"⟩
abbrev cX0_copy : ByteArray := prog_2_method_2_code
def yX0_copy : MethodName := ⟨RX0, "copy", "(LServedAhead$Credits;)V"⟩
abbrev cX0_hasRoom : ByteArray := prog_2_method_3_code
def yX0_hasRoom : MethodName := ⟨RX0, "hasRoom", "()Z"⟩
abbrev cX0_give : ByteArray := prog_2_method_4_code
def yX0_give : MethodName := ⟨RX0, "give", "(II)V"⟩
abbrev cX0_howMany : ByteArray := prog_2_method_5_code
def yX0_howMany : MethodName := ⟨RX0, "howMany", "(II)I"⟩
abbrev cX0_oldestWeek : ByteArray := prog_2_method_6_code
def yX0_oldestWeek : MethodName := ⟨RX0, "oldestWeek", "(I)I"⟩
abbrev cX0_dropOldest : ByteArray := prog_2_method_7_code
def yX0_dropOldest : MethodName := ⟨RX0, "dropOldest", "(II)V"⟩
abbrev cX0_dropAheadOf : ByteArray := prog_2_method_8_code
def yX0_dropAheadOf : MethodName := ⟨RX0, "dropAheadOf", "(I)V"⟩
abbrev cX0_moveTo : ByteArray := prog_2_method_9_code
def yX0_moveTo : MethodName := ⟨RX0, "moveTo", "(LServedAhead$Credits;)I"⟩
abbrev cX0_isOf : ByteArray := prog_2_method_10_code
def yX0_isOf : MethodName := ⟨RX0, "isOf", "(II)Z"⟩
def RX1 : String := "ServedAhead$Hunt"
def TX1 : u_T := fun k => match k with
  | 0 => ("ServedAhead$Hunt", "rows", "[LServedAhead$Person;", true)
  | 1 => ("ServedAhead$Hunt", "weeks", "I", false)
  | 2 => ("ServedAhead$Hunt", "startWeek", "I", false)
  | 3 => ("ServedAhead$Hunt", "firstTried", "I", false)
  | 4 => ("ServedAhead$Hunt", "best", "I", false)
  | _ => ("ServedAhead$Hunt", "first", "I", false)
def tyX1 : Nat → FieldType := fun k => match k with
  | 0 => .array (.object "ServedAhead$Person")
  | 1 => .int
  | 2 => .int
  | 3 => .int
  | 4 => .int
  | _ => .int
abbrev wsX10 : List Cond := u_ws RX1 TX1 6
theorem nmX1 : ∀ a, a < 6 → ∀ b, b < 6 → a ≠ b → (TX1 a).2.1 ≠ (TX1 b).2.1 := by decide +kernel
theorem tyX1_ok : ∀ k, k < 6 → parseFieldDescriptor (TX1 k).2.2.1 = some (tyX1 k) := by decide +kernel
abbrev cX1_init : ByteArray := prog_3_method_1_code
def yX1_init : MethodName := ⟨RX1, "<init>", "()V"⟩
abbrev cX1_start : ByteArray := prog_3_method_2_code
def yX1_start : MethodName := ⟨RX1, "start", "(LServedAhead$Person;LServedAhead$Law;II)V"⟩
abbrev cX1_tryFrom : ByteArray := prog_3_method_3_code
def yX1_tryFrom : MethodName := ⟨RX1, "tryFrom", "(ILServedAhead$Law;)V"⟩
abbrev cX1_mostStill : ByteArray := prog_3_method_4_code
def yX1_mostStill : MethodName := ⟨RX1, "mostStill", "(LServedAhead$Person;ILServedAhead$Law;)I"⟩
def RX2 : String := "ServedAhead$Kind"
def TX2 : u_T := fun k => match k with
  | _ => ("", "", "", false)
def tyX2 : Nat → FieldType := fun k => match k with
  | _ => .int
abbrev wsX20 : List Cond := u_ws RX2 TX2 0
theorem nmX2 : ∀ a, a < 0 → ∀ b, b < 0 → a ≠ b → (TX2 a).2.1 ≠ (TX2 b).2.1 := by decide +kernel
theorem tyX2_ok : ∀ k, k < 0 → parseFieldDescriptor (TX2 k).2.2.1 = some (tyX2 k) := by decide +kernel
abbrev cX2_isNumber : ByteArray := prog_4_method_4_code
def yX2_isNumber : MethodName := ⟨RX2, "isNumber", "(I)Z"⟩
abbrev cX2_numbered : ByteArray := prog_4_method_5_code
def yX2_numbered : MethodName := ⟨RX2, "numbered", "(I)LServedAhead$Kind;"⟩
abbrev cX2_isA : ByteArray := prog_4_method_6_code
def yX2_isA : MethodName := ⟨RX2, "isA", "(LServedAhead$Kind;)Z"⟩
abbrev cX2_needs : ByteArray := prog_4_method_7_code
def yX2_needs : MethodName := ⟨RX2, "needs", "(I)I"⟩
abbrev cX2_gets : ByteArray := prog_4_method_8_code
def yX2_gets : MethodName := ⟨RX2, "gets", "(I)I"⟩
abbrev cX2_owesFor : ByteArray := prog_4_method_9_code
def yX2_owesFor : MethodName := ⟨RX2, "owesFor", "(I)I"⟩
def RX3 : String := "ServedAhead$Law"
def TX3 : u_T := fun k => match k with
  | 0 => ("ServedAhead$Law", "terms", "[I", true)
  | 1 => ("ServedAhead$Law", "worths", "[I", true)
  | 2 => ("ServedAhead$Law", "sorts", "[I", true)
  | _ => ("ServedAhead$Law", "lapse", "I", false)
def tyX3 : Nat → FieldType := fun k => match k with
  | 0 => .array .int
  | 1 => .array .int
  | 2 => .array .int
  | _ => .int
abbrev wsX30 : List Cond := u_ws RX3 TX3 4
theorem nmX3 : ∀ a, a < 4 → ∀ b, b < 4 → a ≠ b → (TX3 a).2.1 ≠ (TX3 b).2.1 := by decide +kernel
theorem tyX3_ok : ∀ k, k < 4 → parseFieldDescriptor (TX3 k).2.2.1 = some (tyX3 k) := by decide +kernel
abbrev cX3_init : ByteArray := prog_5_method_1_code
def yX3_init : MethodName := ⟨RX3, "<init>", "()V"⟩
abbrev cX3_copy : ByteArray := prog_5_method_2_code
def yX3_copy : MethodName := ⟨RX3, "copy", "(LServedAhead$Law;)V"⟩
abbrev cX3_termOf : ByteArray := prog_5_method_3_code
def yX3_termOf : MethodName := ⟨RX3, "termOf", "(I)I"⟩
abbrev cX3_worthOf : ByteArray := prog_5_method_4_code
def yX3_worthOf : MethodName := ⟨RX3, "worthOf", "(I)I"⟩
abbrev cX3_sortsOf : ByteArray := prog_5_method_5_code
def yX3_sortsOf : MethodName := ⟨RX3, "sortsOf", "(I)I"⟩
abbrev cX3_allTerms : ByteArray := prog_5_method_6_code
def yX3_allTerms : MethodName := ⟨RX3, "allTerms", "()I"⟩
abbrev cX3_firstThatCounts : ByteArray := prog_5_method_7_code
def yX3_firstThatCounts : MethodName := ⟨RX3, "firstThatCounts", "(I)I"⟩
def RX4 : String := "ServedAhead$Ledger"
def TX4 : u_T := fun k => match k with
  | 0 => ("ServedAhead$Ledger", "told", "[I", true)
  | 1 => ("ServedAhead$Ledger", "rows", "[LServedAhead$Person;", true)
  | 2 => ("ServedAhead$Ledger", "begun", "Z", false)
  | 3 => ("ServedAhead$Ledger", "size", "I", false)
  | 4 => ("ServedAhead$Ledger", "startWeek", "I", false)
  | 5 => ("ServedAhead$Ledger", "found", "I", false)
  | _ => ("ServedAhead$Ledger", "mostOwed", "I", false)
def tyX4 : Nat → FieldType := fun k => match k with
  | 0 => .array .int
  | 1 => .array (.object "ServedAhead$Person")
  | 2 => .boolean
  | 3 => .int
  | 4 => .int
  | 5 => .int
  | _ => .int
abbrev wsX40 : List Cond := u_ws RX4 TX4 7
theorem nmX4 : ∀ a, a < 7 → ∀ b, b < 7 → a ≠ b → (TX4 a).2.1 ≠ (TX4 b).2.1 := by decide +kernel
theorem tyX4_ok : ∀ k, k < 7 → parseFieldDescriptor (TX4 k).2.2.1 = some (tyX4 k) := by decide +kernel
abbrev cX4_init : ByteArray := prog_6_method_1_code
def yX4_init : MethodName := ⟨RX4, "<init>", "()V"⟩
abbrev cX4_close : ByteArray := prog_6_method_2_code
def yX4_close : MethodName := ⟨RX4, "close", "()V"⟩
abbrev cX4_open : ByteArray := prog_6_method_3_code
def yX4_open : MethodName := ⟨RX4, "open", "(LServedAhead$Person;I)V"⟩
abbrev cX4_hasRoom : ByteArray := prog_6_method_4_code
def yX4_hasRoom : MethodName := ⟨RX4, "hasRoom", "()Z"⟩
abbrev cX4_write : ByteArray := prog_6_method_5_code
def yX4_write : MethodName := ⟨RX4, "write", "(I)V"⟩
abbrev cX4_walk : ByteArray := prog_6_method_6_code
def yX4_walk : MethodName := ⟨RX4, "walk", "(LServedAhead$Law;)V"⟩
abbrev cX4_reckon : ByteArray := prog_6_method_7_code
def yX4_reckon : MethodName := ⟨RX4, "reckon", "(I)V"⟩
abbrev cX4_walkFrom : ByteArray := prog_6_method_8_code
def yX4_walkFrom : MethodName := ⟨RX4, "walkFrom", "(ILServedAhead$Law;)V"⟩
abbrev cX4_goOn : ByteArray := prog_6_method_9_code
def yX4_goOn : MethodName := ⟨RX4, "goOn", "(IILServedAhead$Law;)V"⟩
def RX5 : String := "ServedAhead$Page"
def TX5 : u_T := fun k => match k with
  | 0 => ("ServedAhead$Page", "letters", "[I", true)
  | 1 => ("ServedAhead$Page", "draft", "LServedAhead$Law;", true)
  | 2 => ("ServedAhead$Page", "size", "I", false)
  | 3 => ("ServedAhead$Page", "step", "I", false)
  | _ => ("ServedAhead$Page", "reading", "I", false)
def tyX5 : Nat → FieldType := fun k => match k with
  | 0 => .array .int
  | 1 => .object "ServedAhead$Law"
  | 2 => .int
  | 3 => .int
  | _ => .int
abbrev wsX50 : List Cond := u_ws RX5 TX5 5
theorem nmX5 : ∀ a, a < 5 → ∀ b, b < 5 → a ≠ b → (TX5 a).2.1 ≠ (TX5 b).2.1 := by decide +kernel
theorem tyX5_ok : ∀ k, k < 5 → parseFieldDescriptor (TX5 k).2.2.1 = some (tyX5 k) := by decide +kernel
abbrev cX5_init : ByteArray := prog_7_method_1_code
def yX5_init : MethodName := ⟨RX5, "<init>", "()V"⟩
abbrev cX5_hasRoom : ByteArray := prog_7_method_2_code
def yX5_hasRoom : MethodName := ⟨RX5, "hasRoom", "()Z"⟩
abbrev cX5_write : ByteArray := prog_7_method_3_code
def yX5_write : MethodName := ⟨RX5, "write", "(I)V"⟩
abbrev cX5_at : ByteArray := prog_7_method_4_code
def yX5_at : MethodName := ⟨RX5, "at", "(I)I"⟩
abbrev cX5_firstFault : ByteArray := prog_7_method_5_code
def yX5_firstFault : MethodName := ⟨RX5, "firstFault", "()I"⟩
abbrev cX5_isLaw : ByteArray := prog_7_method_6_code
def yX5_isLaw : MethodName := ⟨RX5, "isLaw", "()Z"⟩
abbrev cX5_takes : ByteArray := prog_7_method_7_code
def yX5_takes : MethodName := ⟨RX5, "takes", "(I)Z"⟩
abbrev cX5_takesTerm : ByteArray := prog_7_method_8_code
def yX5_takesTerm : MethodName := ⟨RX5, "takesTerm", "(I)Z"⟩
abbrev cX5_takesWorth : ByteArray := prog_7_method_9_code
def yX5_takesWorth : MethodName := ⟨RX5, "takesWorth", "(I)Z"⟩
abbrev cX5_takesColon : ByteArray := prog_7_method_10_code
def yX5_takesColon : MethodName := ⟨RX5, "takesColon", "(I)Z"⟩
abbrev cX5_takesSort : ByteArray := prog_7_method_11_code
def yX5_takesSort : MethodName := ⟨RX5, "takesSort", "(I)Z"⟩
abbrev cX5_takesEndOfDeed : ByteArray := prog_7_method_12_code
def yX5_takesEndOfDeed : MethodName := ⟨RX5, "takesEndOfDeed", "(I)Z"⟩
abbrev cX5_takesLapse : ByteArray := prog_7_method_13_code
def yX5_takesLapse : MethodName := ⟨RX5, "takesLapse", "(I)Z"⟩
def RX6 : String := "ServedAhead$Person"
def TX6 : u_T := fun k => match k with
  | 0 => ("ServedAhead$Person", "credits", "LServedAhead$Credits;", true)
  | 1 => ("ServedAhead$Person", "kind", "LServedAhead$Kind;", false)
  | 2 => ("ServedAhead$Person", "got", "I", false)
  | 3 => ("ServedAhead$Person", "owes", "I", false)
  | 4 => ("ServedAhead$Person", "acted", "Z", false)
  | _ => ("ServedAhead$Person", "gone", "Z", false)
def tyX6 : Nat → FieldType := fun k => match k with
  | 0 => .object "ServedAhead$Credits"
  | 1 => .object "ServedAhead$Kind"
  | 2 => .int
  | 3 => .int
  | 4 => .boolean
  | _ => .boolean
abbrev wsX60 : List Cond := u_ws RX6 TX6 6
theorem nmX6 : ∀ a, a < 6 → ∀ b, b < 6 → a ≠ b → (TX6 a).2.1 ≠ (TX6 b).2.1 := by decide +kernel
theorem tyX6_ok : ∀ k, k < 6 → parseFieldDescriptor (TX6 k).2.2.1 = some (tyX6 k) := by decide +kernel
abbrev cX6_init : ByteArray := prog_8_method_1_code
def yX6_init : MethodName := ⟨RX6, "<init>", "()V"⟩
abbrev cX6_begin : ByteArray := prog_8_method_2_code
def yX6_begin : MethodName := ⟨RX6, "begin", "(LServedAhead$Kind;)V"⟩
abbrev cX6_copy : ByteArray := prog_8_method_3_code
def yX6_copy : MethodName := ⟨RX6, "copy", "(LServedAhead$Person;)V"⟩
abbrev cX6_told : ByteArray := prog_8_method_4_code
def yX6_told : MethodName := ⟨RX6, "told", "(I)I"⟩
abbrev cX6_enter : ByteArray := prog_8_method_5_code
def yX6_enter : MethodName := ⟨RX6, "enter", "(ILServedAhead$Law;)V"⟩
abbrev cX6_dropLapsed : ByteArray := prog_8_method_6_code
def yX6_dropLapsed : MethodName := ⟨RX6, "dropLapsed", "(ILServedAhead$Law;)V"⟩
abbrev cX6_isCovered : ByteArray := prog_8_method_7_code
def yX6_isCovered : MethodName := ⟨RX6, "isCovered", "(IIILServedAhead$Law;)Z"⟩
abbrev cX6_isFreeTo : ByteArray := prog_8_method_8_code
def yX6_isFreeTo : MethodName := ⟨RX6, "isFreeTo", "(ILServedAhead$Law;)Z"⟩
abbrev cX6_does : ByteArray := prog_8_method_9_code
def yX6_does : MethodName := ⟨RX6, "does", "(ILServedAhead$Law;I)V"⟩
abbrev cX6_earns : ByteArray := prog_8_method_10_code
def yX6_earns : MethodName := ⟨RX6, "earns", "(II)V"⟩
abbrev cX6_getsBy : ByteArray := prog_8_method_11_code
def yX6_getsBy : MethodName := ⟨RX6, "getsBy", "(ILServedAhead$Law;)I"⟩
abbrev cX6_owesAfter : ByteArray := prog_8_method_12_code
def yX6_owesAfter : MethodName := ⟨RX6, "owesAfter", "(ILServedAhead$Law;)I"⟩
def RX7 : String := "ServedAhead$Town"
def TX7 : u_T := fun k => match k with
  | 0 => ("ServedAhead$Town", "all", "[LServedAhead$Person;", true)
  | 1 => ("ServedAhead$Town", "size", "I", false)
  | 2 => ("ServedAhead$Town", "week", "I", false)
  | 3 => ("ServedAhead$Town", "deedsDone", "I", false)
  | _ => ("ServedAhead$Town", "seed", "I", false)
def tyX7 : Nat → FieldType := fun k => match k with
  | 0 => .array (.object "ServedAhead$Person")
  | 1 => .int
  | 2 => .int
  | 3 => .int
  | _ => .int
abbrev wsX70 : List Cond := u_ws RX7 TX7 5
theorem nmX7 : ∀ a, a < 5 → ∀ b, b < 5 → a ≠ b → (TX7 a).2.1 ≠ (TX7 b).2.1 := by decide +kernel
theorem tyX7_ok : ∀ k, k < 5 → parseFieldDescriptor (TX7 k).2.2.1 = some (tyX7 k) := by decide +kernel
abbrev cX7_init : ByteArray := prog_9_method_1_code
def yX7_init : MethodName := ⟨RX7, "<init>", "()V"⟩
abbrev cX7_copy : ByteArray := prog_9_method_2_code
def yX7_copy : MethodName := ⟨RX7, "copy", "(LServedAhead$Town;)V"⟩
abbrev cX7_hasRoom : ByteArray := prog_9_method_3_code
def yX7_hasRoom : MethodName := ⟨RX7, "hasRoom", "()Z"⟩
abbrev cX7_isKnown : ByteArray := prog_9_method_4_code
def yX7_isKnown : MethodName := ⟨RX7, "isKnown", "(I)Z"⟩
abbrev cX7_isHere : ByteArray := prog_9_method_5_code
def yX7_isHere : MethodName := ⟨RX7, "isHere", "(I)Z"⟩
abbrev cX7_one : ByteArray := prog_9_method_6_code
def yX7_one : MethodName := ⟨RX7, "one", "(I)LServedAhead$Person;"⟩
abbrev cX7_welcome : ByteArray := prog_9_method_7_code
def yX7_welcome : MethodName := ⟨RX7, "welcome", "(LServedAhead$Kind;)I"⟩
abbrev cX7_passWeek : ByteArray := prog_9_method_8_code
def yX7_passWeek : MethodName := ⟨RX7, "passWeek", "(LServedAhead$Law;)V"⟩
abbrev cX7_dropLapsed : ByteArray := prog_9_method_9_code
def yX7_dropLapsed : MethodName := ⟨RX7, "dropLapsed", "(LServedAhead$Law;)V"⟩
abbrev cX7_forgive : ByteArray := prog_9_method_10_code
def yX7_forgive : MethodName := ⟨RX7, "forgive", "()I"⟩
abbrev cX7_someoneCovered : ByteArray := prog_9_method_11_code
def yX7_someoneCovered : MethodName := ⟨RX7, "someoneCovered", "(IILServedAhead$Law;)Z"⟩
abbrev cX7_allGone : ByteArray := prog_9_method_12_code
def yX7_allGone : MethodName := ⟨RX7, "allGone", "()I"⟩
abbrev cX7_allOwed : ByteArray := prog_9_method_13_code
def yX7_allOwed : MethodName := ⟨RX7, "allOwed", "()I"⟩
abbrev cX7_allGot : ByteArray := prog_9_method_14_code
def yX7_allGot : MethodName := ⟨RX7, "allGot", "()I"⟩
abbrev cX7_allCredits : ByteArray := prog_9_method_15_code
def yX7_allCredits : MethodName := ⟨RX7, "allCredits", "()I"⟩
abbrev cX7_live : ByteArray := prog_9_method_16_code
def yX7_live : MethodName := ⟨RX7, "live", "(IILServedAhead$Law;)V"⟩
abbrev cX7_actByDraw : ByteArray := prog_9_method_17_code
def yX7_actByDraw : MethodName := ⟨RX7, "actByDraw", "(LServedAhead$Person;LServedAhead$Law;)V"⟩
abbrev cX7_drawn : ByteArray := prog_9_method_18_code
def yX7_drawn : MethodName := ⟨RX7, "drawn", "()I"⟩
def RX8 : String := "ServedAhead"
def TX8 : u_T := fun k => match k with
  | 0 => ("ServedAhead", "page", "LServedAhead$Page;", true)
  | 1 => ("ServedAhead", "statute", "LServedAhead$Law;", true)
  | 2 => ("ServedAhead", "town", "LServedAhead$Town;", true)
  | 3 => ("ServedAhead", "picture", "LServedAhead$Town;", true)
  | 4 => ("ServedAhead", "trial", "LServedAhead$Town;", true)
  | 5 => ("ServedAhead", "spare", "LServedAhead$Person;", true)
  | 6 => ("ServedAhead", "hunt", "LServedAhead$Hunt;", true)
  | 7 => ("ServedAhead", "ledger", "LServedAhead$Ledger;", true)
  | 8 => ("ServedAhead", "pictured", "Z", false)
  | 9 => ("ServedAhead", "lawsRead", "I", false)
  | 10 => ("ServedAhead", "gainsDone", "I", false)
  | _ => ("ServedAhead", "walksDone", "I", false)
def tyX8 : Nat → FieldType := fun k => match k with
  | 0 => .object "ServedAhead$Page"
  | 1 => .object "ServedAhead$Law"
  | 2 => .object "ServedAhead$Town"
  | 3 => .object "ServedAhead$Town"
  | 4 => .object "ServedAhead$Town"
  | 5 => .object "ServedAhead$Person"
  | 6 => .object "ServedAhead$Hunt"
  | 7 => .object "ServedAhead$Ledger"
  | 8 => .boolean
  | 9 => .int
  | 10 => .int
  | _ => .int
abbrev wsX80 : List Cond := u_ws RX8 TX8 12
theorem nmX8 : ∀ a, a < 12 → ∀ b, b < 12 → a ≠ b → (TX8 a).2.1 ≠ (TX8 b).2.1 := by decide +kernel
theorem tyX8_ok : ∀ k, k < 12 → parseFieldDescriptor (TX8 k).2.2.1 = some (tyX8 k) := by decide +kernel
abbrev cX8_init : ByteArray := prog_1_method_1_code
def yX8_init : MethodName := ⟨RX8, "<init>", "()V"⟩
abbrev cX8_letter : ByteArray := prog_1_method_2_code
def yX8_letter : MethodName := ⟨RX8, "letter", "(I)I"⟩
abbrev cX8_blank : ByteArray := prog_1_method_3_code
def yX8_blank : MethodName := ⟨RX8, "blank", "()I"⟩
abbrev cX8_fault : ByteArray := prog_1_method_4_code
def yX8_fault : MethodName := ⟨RX8, "fault", "()I"⟩
abbrev cX8_law : ByteArray := prog_1_method_5_code
def yX8_law : MethodName := ⟨RX8, "law", "()I"⟩
abbrev cX8_deed : ByteArray := prog_1_method_6_code
def yX8_deed : MethodName := ⟨RX8, "deed", "(II)I"⟩
abbrev cX8_person : ByteArray := prog_1_method_7_code
def yX8_person : MethodName := ⟨RX8, "person", "(I)I"⟩
abbrev cX8_about : ByteArray := prog_1_method_8_code
def yX8_about : MethodName := ⟨RX8, "about", "(II)I"⟩
abbrev cX8_as : ByteArray := prog_1_method_9_code
def yX8_as : MethodName := ⟨RX8, "as", "(II)I"⟩
abbrev cX8_may : ByteArray := prog_1_method_10_code
def yX8_may : MethodName := ⟨RX8, "may", "(II)I"⟩
abbrev cX8_act : ByteArray := prog_1_method_11_code
def yX8_act : MethodName := ⟨RX8, "act", "(II)I"⟩
abbrev cX8_week : ByteArray := prog_1_method_12_code
def yX8_week : MethodName := ⟨RX8, "week", "()I"⟩
abbrev cX8_sell : ByteArray := prog_1_method_13_code
def yX8_sell : MethodName := ⟨RX8, "sell", "(III)I"⟩
abbrev cX8_leave : ByteArray := prog_1_method_14_code
def yX8_leave : MethodName := ⟨RX8, "leave", "(II)I"⟩
abbrev cX8_amnesty : ByteArray := prog_1_method_15_code
def yX8_amnesty : MethodName := ⟨RX8, "amnesty", "()I"⟩
abbrev cX8_gain : ByteArray := prog_1_method_16_code
def yX8_gain : MethodName := ⟨RX8, "gain", "(III)I"⟩
abbrev cX8_soon : ByteArray := prog_1_method_17_code
def yX8_soon : MethodName := ⟨RX8, "soon", "(II)I"⟩
abbrev cX8_kept : ByteArray := prog_1_method_18_code
def yX8_kept : MethodName := ⟨RX8, "kept", "(I)I"⟩
abbrev cX8_book : ByteArray := prog_1_method_19_code
def yX8_book : MethodName := ⟨RX8, "book", "(I)I"⟩
abbrev cX8_next : ByteArray := prog_1_method_20_code
def yX8_next : MethodName := ⟨RX8, "next", "(I)I"⟩
abbrev cX8_ways : ByteArray := prog_1_method_21_code
def yX8_ways : MethodName := ⟨RX8, "ways", "()I"⟩
abbrev cX8_owed : ByteArray := prog_1_method_22_code
def yX8_owed : MethodName := ⟨RX8, "owed", "()I"⟩
abbrev cX8_years : ByteArray := prog_1_method_23_code
def yX8_years : MethodName := ⟨RX8, "years", "(III)I"⟩
abbrev cX8_image : ByteArray := prog_1_method_24_code
def yX8_image : MethodName := ⟨RX8, "image", "()I"⟩
abbrev cX8_restore : ByteArray := prog_1_method_25_code
def yX8_restore : MethodName := ⟨RX8, "restore", "()I"⟩
abbrev cX8_count : ByteArray := prog_1_method_26_code
def yX8_count : MethodName := ⟨RX8, "count", "(I)I"⟩
abbrev cX8_digest : ByteArray := prog_1_method_27_code
def yX8_digest : MethodName := ⟨RX8, "digest", "()J"⟩
abbrev cX8_withDeed : ByteArray := prog_1_method_28_code
def yX8_withDeed : MethodName := ⟨RX8, "withDeed", "(JI)J"⟩
abbrev cX8_withPerson : ByteArray := prog_1_method_29_code
def yX8_withPerson : MethodName := ⟨RX8, "withPerson", "(JI)J"⟩
abbrev cX8_weeksOfServing : ByteArray := prog_1_method_30_code
def yX8_weeksOfServing : MethodName := ⟨RX8, "weeksOfServing", "(LServedAhead$Person;II)I"⟩
abbrev cX8_arePair : ByteArray := prog_1_method_31_code
def yX8_arePair : MethodName := ⟨RX8, "arePair", "(II)Z"⟩
abbrev cX8_isDeed : ByteArray := prog_1_method_32_code
def yX8_isDeed : MethodName := ⟨RX8, "isDeed", "(I)Z"⟩
abbrev cX8_isServing : ByteArray := prog_1_method_33_code
def yX8_isServing : MethodName := ⟨RX8, "isServing", "(I)Z"⟩
abbrev cX8_isCoveredDeed : ByteArray := prog_1_method_34_code
def yX8_isCoveredDeed : MethodName := ⟨RX8, "isCoveredDeed", "(I)Z"⟩
abbrev cX8_isBareDeed : ByteArray := prog_1_method_35_code
def yX8_isBareDeed : MethodName := ⟨RX8, "isBareDeed", "(I)Z"⟩
abbrev cX8_isAct : ByteArray := prog_1_method_36_code
def yX8_isAct : MethodName := ⟨RX8, "isAct", "(I)Z"⟩
abbrev cX8_actAt : ByteArray := prog_1_method_37_code
def yX8_actAt : MethodName := ⟨RX8, "actAt", "(I)I"⟩
def RX9 : String := "ServedAheadModel"
def TX9 : u_T := fun k => match k with
  | 0 => ("ServedAheadModel", "isLaw", "Z", false)
  | 1 => ("ServedAheadModel", "laws", "I", false)
  | 2 => ("ServedAheadModel", "lapse", "I", false)
  | 3 => ("ServedAheadModel", "termOf", "[I", true)
  | 4 => ("ServedAheadModel", "worthOf", "[I", true)
  | 5 => ("ServedAheadModel", "sortsOf", "[I", true)
  | 6 => ("ServedAheadModel", "week", "I", false)
  | 7 => ("ServedAheadModel", "people", "I", false)
  | 8 => ("ServedAheadModel", "kindOf", "[I", true)
  | 9 => ("ServedAheadModel", "gotOf", "[I", true)
  | 10 => ("ServedAheadModel", "owesOf", "[I", true)
  | 11 => ("ServedAheadModel", "didOf", "[I", true)
  | 12 => ("ServedAheadModel", "goneOf", "[I", true)
  | 13 => ("ServedAheadModel", "manyOf", "[I", true)
  | 14 => ("ServedAheadModel", "creditOf", "[I", true)
  | 15 => ("ServedAheadModel", "gains", "I", false)
  | 16 => ("ServedAheadModel", "pageLength", "I", false)
  | 17 => ("ServedAheadModel", "page", "[B", true)
  | 18 => ("ServedAheadModel", "faultAt", "I", false)
  | 19 => ("ServedAheadModel", "isWhole", "Z", false)
  | 20 => ("ServedAheadModel", "newDeed", "I", false)
  | 21 => ("ServedAheadModel", "newLapse", "I", false)
  | 22 => ("ServedAheadModel", "newTerm", "[I", true)
  | 23 => ("ServedAheadModel", "newWorth", "[I", true)
  | 24 => ("ServedAheadModel", "newSorts", "[I", true)
  | 25 => ("ServedAheadModel", "rowGot", "[I", true)
  | 26 => ("ServedAheadModel", "rowOwes", "[I", true)
  | 27 => ("ServedAheadModel", "rowMany", "[I", true)
  | 28 => ("ServedAheadModel", "rowCredit", "[I", true)
  | 29 => ("ServedAheadModel", "rowChoice", "[I", true)
  | 30 => ("ServedAheadModel", "bestGain", "I", false)
  | 31 => ("ServedAheadModel", "bestFirst", "I", false)
  | 32 => ("ServedAheadModel", "bookOf", "I", false)
  | 33 => ("ServedAheadModel", "bookMany", "I", false)
  | 34 => ("ServedAheadModel", "bookGot", "[I", true)
  | 35 => ("ServedAheadModel", "bookAsks", "I", false)
  | 36 => ("ServedAheadModel", "bookWeek", "I", false)
  | 37 => ("ServedAheadModel", "bookKind", "I", false)
  | 38 => ("ServedAheadModel", "bookHad", "I", false)
  | 39 => ("ServedAheadModel", "bookOwes", "I", false)
  | 40 => ("ServedAheadModel", "bookCredits", "I", false)
  | 41 => ("ServedAheadModel", "bookCredit", "[I", true)
  | 42 => ("ServedAheadModel", "waysAll", "I", false)
  | 43 => ("ServedAheadModel", "owedMost", "I", false)
  | 44 => ("ServedAheadModel", "seedNow", "J", false)
  | 45 => ("ServedAheadModel", "savedWeek", "I", false)
  | 46 => ("ServedAheadModel", "savedGot", "[I", true)
  | 47 => ("ServedAheadModel", "savedOwes", "[I", true)
  | 48 => ("ServedAheadModel", "savedDid", "[I", true)
  | 49 => ("ServedAheadModel", "savedMany", "[I", true)
  | 50 => ("ServedAheadModel", "savedCredit", "[I", true)
  | 51 => ("ServedAheadModel", "isKept", "Z", false)
  | 52 => ("ServedAheadModel", "keptWeek", "I", false)
  | 53 => ("ServedAheadModel", "keptPeople", "I", false)
  | 54 => ("ServedAheadModel", "keptGot", "[I", true)
  | 55 => ("ServedAheadModel", "keptOwes", "[I", true)
  | 56 => ("ServedAheadModel", "keptDid", "[I", true)
  | 57 => ("ServedAheadModel", "keptGone", "[I", true)
  | 58 => ("ServedAheadModel", "keptMany", "[I", true)
  | 59 => ("ServedAheadModel", "keptCredit", "[I", true)
  | _ => ("ServedAheadModel", "h", "J", false)
def tyX9 : Nat → FieldType := fun k => match k with
  | 0 => .boolean
  | 1 => .int
  | 2 => .int
  | 3 => .array .int
  | 4 => .array .int
  | 5 => .array .int
  | 6 => .int
  | 7 => .int
  | 8 => .array .int
  | 9 => .array .int
  | 10 => .array .int
  | 11 => .array .int
  | 12 => .array .int
  | 13 => .array .int
  | 14 => .array .int
  | 15 => .int
  | 16 => .int
  | 17 => .array .byte
  | 18 => .int
  | 19 => .boolean
  | 20 => .int
  | 21 => .int
  | 22 => .array .int
  | 23 => .array .int
  | 24 => .array .int
  | 25 => .array .int
  | 26 => .array .int
  | 27 => .array .int
  | 28 => .array .int
  | 29 => .array .int
  | 30 => .int
  | 31 => .int
  | 32 => .int
  | 33 => .int
  | 34 => .array .int
  | 35 => .int
  | 36 => .int
  | 37 => .int
  | 38 => .int
  | 39 => .int
  | 40 => .int
  | 41 => .array .int
  | 42 => .int
  | 43 => .int
  | 44 => .long
  | 45 => .int
  | 46 => .array .int
  | 47 => .array .int
  | 48 => .array .int
  | 49 => .array .int
  | 50 => .array .int
  | 51 => .boolean
  | 52 => .int
  | 53 => .int
  | 54 => .array .int
  | 55 => .array .int
  | 56 => .array .int
  | 57 => .array .int
  | 58 => .array .int
  | 59 => .array .int
  | _ => .long
abbrev wsX90 : List Cond := u_ws RX9 TX9 61
theorem nmX9 : ∀ a, a < 61 → ∀ b, b < 61 → a ≠ b → (TX9 a).2.1 ≠ (TX9 b).2.1 := by decide +kernel
theorem tyX9_ok : ∀ k, k < 61 → parseFieldDescriptor (TX9 k).2.2.1 = some (tyX9 k) := by decide +kernel
abbrev cX9_init : ByteArray := prog_11_method_1_code
def yX9_init : MethodName := ⟨RX9, "<init>", "()V"⟩
abbrev cX9_within : ByteArray := prog_11_method_3_code
def yX9_within : MethodName := ⟨RX9, "within", "(III)Z"⟩
abbrev cX9_has : ByteArray := prog_11_method_4_code
def yX9_has : MethodName := ⟨RX9, "has", "(II)Z"⟩
abbrev cX9_letter : ByteArray := prog_11_method_5_code
def yX9_letter : MethodName := ⟨RX9, "letter", "(I)I"⟩
abbrev cX9_blank : ByteArray := prog_11_method_6_code
def yX9_blank : MethodName := ⟨RX9, "blank", "()I"⟩
abbrev cX9_nextState : ByteArray := prog_11_method_7_code
def yX9_nextState : MethodName := ⟨RX9, "nextState", "(II)I"⟩
abbrev cX9_sortState : ByteArray := prog_11_method_8_code
def yX9_sortState : MethodName := ⟨RX9, "sortState", "(III)I"⟩
abbrev cX9_readLaw : ByteArray := prog_11_method_9_code
def yX9_readLaw : MethodName := ⟨RX9, "readLaw", "()V"⟩
abbrev cX9_fault : ByteArray := prog_11_method_10_code
def yX9_fault : MethodName := ⟨RX9, "fault", "()I"⟩
abbrev cX9_law : ByteArray := prog_11_method_11_code
def yX9_law : MethodName := ⟨RX9, "law", "()I"⟩
abbrev cX9_isDeed : ByteArray := prog_11_method_12_code
def yX9_isDeed : MethodName := ⟨RX9, "isDeed", "(I)Z"⟩
abbrev cX9_deedNow : ByteArray := prog_11_method_13_code
def yX9_deedNow : MethodName := ⟨RX9, "deedNow", "(II)I"⟩
abbrev cX9_deed : ByteArray := prog_11_method_14_code
def yX9_deed : MethodName := ⟨RX9, "deed", "(II)I"⟩
abbrev cX9_lapseOf : ByteArray := prog_11_method_15_code
def yX9_lapseOf : MethodName := ⟨RX9, "lapseOf", "(II)V"⟩
abbrev cX9_lapseAll : ByteArray := prog_11_method_16_code
def yX9_lapseAll : MethodName := ⟨RX9, "lapseAll", "()V"⟩
abbrev cX9_give : ByteArray := prog_11_method_17_code
def yX9_give : MethodName := ⟨RX9, "give", "(II)Z"⟩
abbrev cX9_countOf : ByteArray := prog_11_method_18_code
def yX9_countOf : MethodName := ⟨RX9, "countOf", "(II)I"⟩
abbrev cX9_take : ByteArray := prog_11_method_19_code
def yX9_take : MethodName := ⟨RX9, "take", "(III)I"⟩
abbrev cX9_isThere : ByteArray := prog_11_method_20_code
def yX9_isThere : MethodName := ⟨RX9, "isThere", "(I)Z"⟩
abbrev cX9_isPerson : ByteArray := prog_11_method_21_code
def yX9_isPerson : MethodName := ⟨RX9, "isPerson", "(I)Z"⟩
abbrev cX9_person : ByteArray := prog_11_method_22_code
def yX9_person : MethodName := ⟨RX9, "person", "(I)I"⟩
abbrev cX9_personNow : ByteArray := prog_11_method_23_code
def yX9_personNow : MethodName := ⟨RX9, "personNow", "(II)I"⟩
abbrev cX9_about : ByteArray := prog_11_method_24_code
def yX9_about : MethodName := ⟨RX9, "about", "(II)I"⟩
abbrev cX9_as : ByteArray := prog_11_method_25_code
def yX9_as : MethodName := ⟨RX9, "as", "(II)I"⟩
abbrev cX9_isAct : ByteArray := prog_11_method_26_code
def yX9_isAct : MethodName := ⟨RX9, "isAct", "(I)Z"⟩
abbrev cX9_needs : ByteArray := prog_11_method_27_code
def yX9_needs : MethodName := ⟨RX9, "needs", "(II)I"⟩
abbrev cX9_gets : ByteArray := prog_11_method_28_code
def yX9_gets : MethodName := ⟨RX9, "gets", "(II)I"⟩
abbrev cX9_isCovered : ByteArray := prog_11_method_29_code
def yX9_isCovered : MethodName := ⟨RX9, "isCovered", "(III)Z"⟩
abbrev cX9_mayDo : ByteArray := prog_11_method_30_code
def yX9_mayDo : MethodName := ⟨RX9, "mayDo", "(II)Z"⟩
abbrev cX9_doAct : ByteArray := prog_11_method_31_code
def yX9_doAct : MethodName := ⟨RX9, "doAct", "(III)V"⟩
abbrev cX9_serve : ByteArray := prog_11_method_32_code
def yX9_serve : MethodName := ⟨RX9, "serve", "(III)V"⟩
abbrev cX9_mayNow : ByteArray := prog_11_method_33_code
def yX9_mayNow : MethodName := ⟨RX9, "mayNow", "(II)Z"⟩
abbrev cX9_may : ByteArray := prog_11_method_34_code
def yX9_may : MethodName := ⟨RX9, "may", "(II)I"⟩
abbrev cX9_act : ByteArray := prog_11_method_35_code
def yX9_act : MethodName := ⟨RX9, "act", "(II)I"⟩
abbrev cX9_goWeek : ByteArray := prog_11_method_36_code
def yX9_goWeek : MethodName := ⟨RX9, "goWeek", "()V"⟩
abbrev cX9_week : ByteArray := prog_11_method_37_code
def yX9_week : MethodName := ⟨RX9, "week", "()I"⟩
abbrev cX9_sell : ByteArray := prog_11_method_38_code
def yX9_sell : MethodName := ⟨RX9, "sell", "(III)I"⟩
abbrev cX9_leave : ByteArray := prog_11_method_39_code
def yX9_leave : MethodName := ⟨RX9, "leave", "(II)I"⟩
abbrev cX9_owesAll : ByteArray := prog_11_method_40_code
def yX9_owesAll : MethodName := ⟨RX9, "owesAll", "()I"⟩
abbrev cX9_amnesty : ByteArray := prog_11_method_41_code
def yX9_amnesty : MethodName := ⟨RX9, "amnesty", "()I"⟩
abbrev cX9_copy : ByteArray := prog_11_method_42_code
def yX9_copy : MethodName := ⟨RX9, "copy", "(II)V"⟩
abbrev cX9_keepRow : ByteArray := prog_11_method_43_code
def yX9_keepRow : MethodName := ⟨RX9, "keepRow", "(I)V"⟩
abbrev cX9_backRow : ByteArray := prog_11_method_44_code
def yX9_backRow : MethodName := ⟨RX9, "backRow", "(I)V"⟩
abbrev cX9_actBy : ByteArray := prog_11_method_45_code
def yX9_actBy : MethodName := ⟨RX9, "actBy", "(IZ)I"⟩
abbrev cX9_layGain : ByteArray := prog_11_method_46_code
def yX9_layGain : MethodName := ⟨RX9, "layGain", "(II)V"⟩
abbrev cX9_goRow : ByteArray := prog_11_method_47_code
def yX9_goRow : MethodName := ⟨RX9, "goRow", "(IIZ)Z"⟩
abbrev cX9_gain : ByteArray := prog_11_method_48_code
def yX9_gain : MethodName := ⟨RX9, "gain", "(III)I"⟩
abbrev cX9_soonBy : ByteArray := prog_11_method_49_code
def yX9_soonBy : MethodName := ⟨RX9, "soonBy", "(III)I"⟩
abbrev cX9_soonNow : ByteArray := prog_11_method_50_code
def yX9_soonNow : MethodName := ⟨RX9, "soonNow", "(II)I"⟩
abbrev cX9_soonTold : ByteArray := prog_11_method_51_code
def yX9_soonTold : MethodName := ⟨RX9, "soonTold", "(II)I"⟩
abbrev cX9_soon : ByteArray := prog_11_method_52_code
def yX9_soon : MethodName := ⟨RX9, "soon", "(II)I"⟩
abbrev cX9_canAny : ByteArray := prog_11_method_53_code
def yX9_canAny : MethodName := ⟨RX9, "canAny", "(II)Z"⟩
abbrev cX9_keptNow : ByteArray := prog_11_method_54_code
def yX9_keptNow : MethodName := ⟨RX9, "keptNow", "(I)I"⟩
abbrev cX9_kept : ByteArray := prog_11_method_55_code
def yX9_kept : MethodName := ⟨RX9, "kept", "(I)I"⟩
abbrev cX9_book : ByteArray := prog_11_method_56_code
def yX9_book : MethodName := ⟨RX9, "book", "(I)I"⟩
abbrev cX9_next : ByteArray := prog_11_method_57_code
def yX9_next : MethodName := ⟨RX9, "next", "(I)I"⟩
abbrev cX9_layWays : ByteArray := prog_11_method_58_code
def yX9_layWays : MethodName := ⟨RX9, "layWays", "()V"⟩
abbrev cX9_tryRow : ByteArray := prog_11_method_59_code
def yX9_tryRow : MethodName := ⟨RX9, "tryRow", "(I)I"⟩
abbrev cX9_mayBook : ByteArray := prog_11_method_60_code
def yX9_mayBook : MethodName := ⟨RX9, "mayBook", "()Z"⟩
abbrev cX9_ways : ByteArray := prog_11_method_61_code
def yX9_ways : MethodName := ⟨RX9, "ways", "()I"⟩
abbrev cX9_owed : ByteArray := prog_11_method_62_code
def yX9_owed : MethodName := ⟨RX9, "owed", "()I"⟩
abbrev cX9_save : ByteArray := prog_11_method_63_code
def yX9_save : MethodName := ⟨RX9, "save", "()V"⟩
abbrev cX9_back : ByteArray := prog_11_method_64_code
def yX9_back : MethodName := ⟨RX9, "back", "()V"⟩
abbrev cX9_draw : ByteArray := prog_11_method_65_code
def yX9_draw : MethodName := ⟨RX9, "draw", "(I)I"⟩
abbrev cX9_gotAll : ByteArray := prog_11_method_66_code
def yX9_gotAll : MethodName := ⟨RX9, "gotAll", "()I"⟩
abbrev cX9_yearsNow : ByteArray := prog_11_method_67_code
def yX9_yearsNow : MethodName := ⟨RX9, "yearsNow", "(III)I"⟩
abbrev cX9_years : ByteArray := prog_11_method_68_code
def yX9_years : MethodName := ⟨RX9, "years", "(III)I"⟩
abbrev cX9_image : ByteArray := prog_11_method_69_code
def yX9_image : MethodName := ⟨RX9, "image", "()I"⟩
abbrev cX9_restore : ByteArray := prog_11_method_70_code
def yX9_restore : MethodName := ⟨RX9, "restore", "()I"⟩
abbrev cX9_goneMany : ByteArray := prog_11_method_71_code
def yX9_goneMany : MethodName := ⟨RX9, "goneMany", "()I"⟩
abbrev cX9_creditsAll : ByteArray := prog_11_method_72_code
def yX9_creditsAll : MethodName := ⟨RX9, "creditsAll", "()I"⟩
abbrev cX9_howMany : ByteArray := prog_11_method_73_code
def yX9_howMany : MethodName := ⟨RX9, "howMany", "(I)I"⟩
abbrev cX9_count : ByteArray := prog_11_method_74_code
def yX9_count : MethodName := ⟨RX9, "count", "(I)I"⟩
abbrev cX9_mix : ByteArray := prog_11_method_75_code
def yX9_mix : MethodName := ⟨RX9, "mix", "(J)V"⟩
abbrev cX9_digest : ByteArray := prog_11_method_76_code
def yX9_digest : MethodName := ⟨RX9, "digest", "()J"⟩
abbrev cJ9_max_7cf53 : ByteArray := prog_13_method_65_code
abbrev cJ9_min_7cf53 : ByteArray := prog_13_method_69_code
def RL : String := "ServedAheadLaw"
abbrev cL_law : ByteArray := code
def yL_law : MethodName := ⟨RL, "law", "([I)Z"⟩
abbrev vwCl : List vw_C := [(RX0, TX0, 2), (RX1, TX1, 6), (RX3, TX3, 4), (RX4, TX4, 7), (RX5, TX5, 5), (RX6, TX6, 6), (RX7, TX7, 5), (RX8, TX8, 12), (RX9, TX9, 61)]
end
section
theorem dX0_init_0 : decode cX0_init 0 = .ok (.aload_n 0, 1) := by decide +kernel
theorem dX0_init_1 : decode cX0_init 1 = .ok (.invokespecial 3, 3) := by decide +kernel
theorem dX0_init_4 : decode cX0_init 4 = .ok (.aload_n 0, 1) := by decide +kernel
theorem dX0_init_5 : decode cX0_init 5 = .ok (.bipush 12, 2) := by decide +kernel
theorem dX0_init_7 : decode cX0_init 7 = .ok (.newarray .int, 2) := by decide +kernel
theorem dX0_init_9 : decode cX0_init 9 = .ok (.putfield 9, 3) := by decide +kernel
theorem dX0_init_12 : decode cX0_init 12 = .ok (.return_, 1) := by decide +kernel
theorem dX0_copy_0 : decode cX0_copy 0 = .ok (.iconst 0, 1) := by decide +kernel
theorem dX0_copy_1 : decode cX0_copy 1 = .ok (.istore_n 2, 1) := by decide +kernel
theorem dX0_copy_2 : decode cX0_copy 2 = .ok (.iload_n 2, 1) := by decide +kernel
theorem dX0_copy_3 : decode cX0_copy 3 = .ok (.aload_n 1, 1) := by decide +kernel
theorem dX0_copy_4 : decode cX0_copy 4 = .ok (.getfield 15, 3) := by decide +kernel
theorem dX0_copy_7 : decode cX0_copy 7 = .ok (.if_icmp .ge 27, 3) := by decide +kernel
theorem dX0_copy_10 : decode cX0_copy 10 = .ok (.iload_n 2, 1) := by decide +kernel
theorem dX0_copy_11 : decode cX0_copy 11 = .ok (.bipush 12, 2) := by decide +kernel
theorem dX0_copy_13 : decode cX0_copy 13 = .ok (.if_icmp .ge 21, 3) := by decide +kernel
theorem dX0_copy_16 : decode cX0_copy 16 = .ok (.aload_n 0, 1) := by decide +kernel
theorem dX0_copy_17 : decode cX0_copy 17 = .ok (.getfield 9, 3) := by decide +kernel
theorem dX0_copy_20 : decode cX0_copy 20 = .ok (.iload_n 2, 1) := by decide +kernel
theorem dX0_copy_21 : decode cX0_copy 21 = .ok (.aload_n 1, 1) := by decide +kernel
theorem dX0_copy_22 : decode cX0_copy 22 = .ok (.getfield 9, 3) := by decide +kernel
theorem dX0_copy_25 : decode cX0_copy 25 = .ok (.iload_n 2, 1) := by decide +kernel
theorem dX0_copy_26 : decode cX0_copy 26 = .ok (.iaload, 1) := by decide +kernel
theorem dX0_copy_27 : decode cX0_copy 27 = .ok (.iastore, 1) := by decide +kernel
theorem dX0_copy_28 : decode cX0_copy 28 = .ok (.iinc 2 1, 3) := by decide +kernel
theorem dX0_copy_31 : decode cX0_copy 31 = .ok (.goto (-29), 3) := by decide +kernel
theorem dX0_copy_34 : decode cX0_copy 34 = .ok (.aload_n 0, 1) := by decide +kernel
theorem dX0_copy_35 : decode cX0_copy 35 = .ok (.aload_n 1, 1) := by decide +kernel
theorem dX0_copy_36 : decode cX0_copy 36 = .ok (.getfield 15, 3) := by decide +kernel
theorem dX0_copy_39 : decode cX0_copy 39 = .ok (.putfield 15, 3) := by decide +kernel
theorem dX0_copy_42 : decode cX0_copy 42 = .ok (.return_, 1) := by decide +kernel
theorem dX0_hasRoom_0 : decode cX0_hasRoom 0 = .ok (.aload_n 0, 1) := by decide +kernel
theorem dX0_hasRoom_1 : decode cX0_hasRoom 1 = .ok (.getfield 15, 3) := by decide +kernel
theorem dX0_hasRoom_4 : decode cX0_hasRoom 4 = .ok (.bipush 12, 2) := by decide +kernel
theorem dX0_hasRoom_6 : decode cX0_hasRoom 6 = .ok (.if_icmp .ge 7, 3) := by decide +kernel
theorem dX0_hasRoom_9 : decode cX0_hasRoom 9 = .ok (.iconst 1, 1) := by decide +kernel
theorem dX0_hasRoom_10 : decode cX0_hasRoom 10 = .ok (.goto 4, 3) := by decide +kernel
theorem dX0_hasRoom_13 : decode cX0_hasRoom 13 = .ok (.iconst 0, 1) := by decide +kernel
theorem dX0_hasRoom_14 : decode cX0_hasRoom 14 = .ok (.ireturn, 1) := by decide +kernel
theorem dX0_give_0 : decode cX0_give 0 = .ok (.aload_n 0, 1) := by decide +kernel
theorem dX0_give_1 : decode cX0_give 1 = .ok (.getfield 15, 3) := by decide +kernel
theorem dX0_give_4 : decode cX0_give 4 = .ok (.ifCond .lt 12, 3) := by decide +kernel
theorem dX0_give_7 : decode cX0_give 7 = .ok (.aload_n 0, 1) := by decide +kernel
theorem dX0_give_8 : decode cX0_give 8 = .ok (.getfield 15, 3) := by decide +kernel
theorem dX0_give_11 : decode cX0_give 11 = .ok (.bipush 12, 2) := by decide +kernel
theorem dX0_give_13 : decode cX0_give 13 = .ok (.if_icmp .lt 4, 3) := by decide +kernel
theorem dX0_give_16 : decode cX0_give 16 = .ok (.return_, 1) := by decide +kernel
theorem dX0_give_17 : decode cX0_give 17 = .ok (.iload_n 2, 1) := by decide +kernel
theorem dX0_give_18 : decode cX0_give 18 = .ok (.iconst 3, 1) := by decide +kernel
theorem dX0_give_19 : decode cX0_give 19 = .ok (.imul, 1) := by decide +kernel
theorem dX0_give_20 : decode cX0_give 20 = .ok (.iload_n 1, 1) := by decide +kernel
theorem dX0_give_21 : decode cX0_give 21 = .ok (.iadd, 1) := by decide +kernel
theorem dX0_give_22 : decode cX0_give 22 = .ok (.istore_n 3, 1) := by decide +kernel
theorem dX0_give_23 : decode cX0_give 23 = .ok (.aload_n 0, 1) := by decide +kernel
theorem dX0_give_24 : decode cX0_give 24 = .ok (.getfield 15, 3) := by decide +kernel
theorem dX0_give_27 : decode cX0_give 27 = .ok (.istore 4, 2) := by decide +kernel
theorem dX0_give_29 : decode cX0_give 29 = .ok (.iload 4, 2) := by decide +kernel
theorem dX0_give_31 : decode cX0_give 31 = .ok (.ifCond .le 38, 3) := by decide +kernel
theorem dX0_give_34 : decode cX0_give 34 = .ok (.aload_n 0, 1) := by decide +kernel
theorem dX0_give_35 : decode cX0_give 35 = .ok (.getfield 9, 3) := by decide +kernel
theorem dX0_give_38 : decode cX0_give 38 = .ok (.iload 4, 2) := by decide +kernel
theorem dX0_give_40 : decode cX0_give 40 = .ok (.iconst 1, 1) := by decide +kernel
theorem dX0_give_41 : decode cX0_give 41 = .ok (.isub, 1) := by decide +kernel
theorem dX0_give_42 : decode cX0_give 42 = .ok (.iaload, 1) := by decide +kernel
theorem dX0_give_43 : decode cX0_give 43 = .ok (.iload_n 3, 1) := by decide +kernel
theorem dX0_give_44 : decode cX0_give 44 = .ok (.if_icmp .le 25, 3) := by decide +kernel
theorem dX0_give_47 : decode cX0_give 47 = .ok (.aload_n 0, 1) := by decide +kernel
theorem dX0_give_48 : decode cX0_give 48 = .ok (.getfield 9, 3) := by decide +kernel
theorem dX0_give_51 : decode cX0_give 51 = .ok (.iload 4, 2) := by decide +kernel
theorem dX0_give_53 : decode cX0_give 53 = .ok (.aload_n 0, 1) := by decide +kernel
theorem dX0_give_54 : decode cX0_give 54 = .ok (.getfield 9, 3) := by decide +kernel
theorem dX0_give_57 : decode cX0_give 57 = .ok (.iload 4, 2) := by decide +kernel
theorem dX0_give_59 : decode cX0_give 59 = .ok (.iconst 1, 1) := by decide +kernel
theorem dX0_give_60 : decode cX0_give 60 = .ok (.isub, 1) := by decide +kernel
theorem dX0_give_61 : decode cX0_give 61 = .ok (.iaload, 1) := by decide +kernel
theorem dX0_give_62 : decode cX0_give 62 = .ok (.iastore, 1) := by decide +kernel
theorem dX0_give_63 : decode cX0_give 63 = .ok (.iinc 4 (-1), 3) := by decide +kernel
theorem dX0_give_66 : decode cX0_give 66 = .ok (.goto (-37), 3) := by decide +kernel
theorem dX0_give_69 : decode cX0_give 69 = .ok (.aload_n 0, 1) := by decide +kernel
theorem dX0_give_70 : decode cX0_give 70 = .ok (.getfield 9, 3) := by decide +kernel
theorem dX0_give_73 : decode cX0_give 73 = .ok (.iload 4, 2) := by decide +kernel
theorem dX0_give_75 : decode cX0_give 75 = .ok (.iload_n 3, 1) := by decide +kernel
theorem dX0_give_76 : decode cX0_give 76 = .ok (.iastore, 1) := by decide +kernel
theorem dX0_give_77 : decode cX0_give 77 = .ok (.aload_n 0, 1) := by decide +kernel
theorem dX0_give_78 : decode cX0_give 78 = .ok (.dup, 1) := by decide +kernel
theorem dX0_give_79 : decode cX0_give 79 = .ok (.getfield 15, 3) := by decide +kernel
theorem dX0_give_82 : decode cX0_give 82 = .ok (.iconst 1, 1) := by decide +kernel
theorem dX0_give_83 : decode cX0_give 83 = .ok (.iadd, 1) := by decide +kernel
theorem dX0_give_84 : decode cX0_give 84 = .ok (.putfield 15, 3) := by decide +kernel
theorem dX0_give_87 : decode cX0_give 87 = .ok (.return_, 1) := by decide +kernel
theorem dX0_howMany_0 : decode cX0_howMany 0 = .ok (.iconst 0, 1) := by decide +kernel
theorem dX0_howMany_1 : decode cX0_howMany 1 = .ok (.istore_n 3, 1) := by decide +kernel
theorem dX0_howMany_2 : decode cX0_howMany 2 = .ok (.iconst 0, 1) := by decide +kernel
theorem dX0_howMany_3 : decode cX0_howMany 3 = .ok (.istore 4, 2) := by decide +kernel
theorem dX0_howMany_5 : decode cX0_howMany 5 = .ok (.iload 4, 2) := by decide +kernel
theorem dX0_howMany_7 : decode cX0_howMany 7 = .ok (.aload_n 0, 1) := by decide +kernel
theorem dX0_howMany_8 : decode cX0_howMany 8 = .ok (.getfield 15, 3) := by decide +kernel
theorem dX0_howMany_11 : decode cX0_howMany 11 = .ok (.if_icmp .ge 46, 3) := by decide +kernel
theorem dX0_howMany_14 : decode cX0_howMany 14 = .ok (.iload 4, 2) := by decide +kernel
theorem dX0_howMany_16 : decode cX0_howMany 16 = .ok (.bipush 12, 2) := by decide +kernel
theorem dX0_howMany_18 : decode cX0_howMany 18 = .ok (.if_icmp .ge 39, 3) := by decide +kernel
theorem dX0_howMany_21 : decode cX0_howMany 21 = .ok (.aload_n 0, 1) := by decide +kernel
theorem dX0_howMany_22 : decode cX0_howMany 22 = .ok (.getfield 9, 3) := by decide +kernel
theorem dX0_howMany_25 : decode cX0_howMany 25 = .ok (.iload 4, 2) := by decide +kernel
theorem dX0_howMany_27 : decode cX0_howMany 27 = .ok (.iaload, 1) := by decide +kernel
theorem dX0_howMany_28 : decode cX0_howMany 28 = .ok (.iload_n 2, 1) := by decide +kernel
theorem dX0_howMany_29 : decode cX0_howMany 29 = .ok (.iconst 3, 1) := by decide +kernel
theorem dX0_howMany_30 : decode cX0_howMany 30 = .ok (.imul, 1) := by decide +kernel
theorem dX0_howMany_31 : decode cX0_howMany 31 = .ok (.if_icmp .lt 20, 3) := by decide +kernel
theorem dX0_howMany_34 : decode cX0_howMany 34 = .ok (.aload_n 0, 1) := by decide +kernel
theorem dX0_howMany_35 : decode cX0_howMany 35 = .ok (.getfield 9, 3) := by decide +kernel
theorem dX0_howMany_38 : decode cX0_howMany 38 = .ok (.iload 4, 2) := by decide +kernel
theorem dX0_howMany_40 : decode cX0_howMany 40 = .ok (.iaload, 1) := by decide +kernel
theorem dX0_howMany_41 : decode cX0_howMany 41 = .ok (.iload_n 1, 1) := by decide +kernel
theorem dX0_howMany_42 : decode cX0_howMany 42 = .ok (.invokestatic 19, 3) := by decide +kernel
theorem dX0_howMany_45 : decode cX0_howMany 45 = .ok (.ifCond .eq 6, 3) := by decide +kernel
theorem dX0_howMany_48 : decode cX0_howMany 48 = .ok (.iinc 3 1, 3) := by decide +kernel
theorem dX0_howMany_51 : decode cX0_howMany 51 = .ok (.iinc 4 1, 3) := by decide +kernel
theorem dX0_howMany_54 : decode cX0_howMany 54 = .ok (.goto (-49), 3) := by decide +kernel
theorem dX0_howMany_57 : decode cX0_howMany 57 = .ok (.iload_n 3, 1) := by decide +kernel
theorem dX0_howMany_58 : decode cX0_howMany 58 = .ok (.ireturn, 1) := by decide +kernel
theorem dX0_oldestWeek_0 : decode cX0_oldestWeek 0 = .ok (.iconst 0, 1) := by decide +kernel
theorem dX0_oldestWeek_1 : decode cX0_oldestWeek 1 = .ok (.istore_n 2, 1) := by decide +kernel
theorem dX0_oldestWeek_2 : decode cX0_oldestWeek 2 = .ok (.iload_n 2, 1) := by decide +kernel
theorem dX0_oldestWeek_3 : decode cX0_oldestWeek 3 = .ok (.aload_n 0, 1) := by decide +kernel
theorem dX0_oldestWeek_4 : decode cX0_oldestWeek 4 = .ok (.getfield 15, 3) := by decide +kernel
theorem dX0_oldestWeek_7 : decode cX0_oldestWeek 7 = .ok (.if_icmp .ge 37, 3) := by decide +kernel
theorem dX0_oldestWeek_10 : decode cX0_oldestWeek 10 = .ok (.iload_n 2, 1) := by decide +kernel
theorem dX0_oldestWeek_11 : decode cX0_oldestWeek 11 = .ok (.bipush 12, 2) := by decide +kernel
theorem dX0_oldestWeek_13 : decode cX0_oldestWeek 13 = .ok (.if_icmp .ge 31, 3) := by decide +kernel
theorem dX0_oldestWeek_16 : decode cX0_oldestWeek 16 = .ok (.aload_n 0, 1) := by decide +kernel
theorem dX0_oldestWeek_17 : decode cX0_oldestWeek 17 = .ok (.getfield 9, 3) := by decide +kernel
theorem dX0_oldestWeek_20 : decode cX0_oldestWeek 20 = .ok (.iload_n 2, 1) := by decide +kernel
theorem dX0_oldestWeek_21 : decode cX0_oldestWeek 21 = .ok (.iaload, 1) := by decide +kernel
theorem dX0_oldestWeek_22 : decode cX0_oldestWeek 22 = .ok (.iload_n 1, 1) := by decide +kernel
theorem dX0_oldestWeek_23 : decode cX0_oldestWeek 23 = .ok (.invokestatic 19, 3) := by decide +kernel
theorem dX0_oldestWeek_26 : decode cX0_oldestWeek 26 = .ok (.ifCond .eq 12, 3) := by decide +kernel
theorem dX0_oldestWeek_29 : decode cX0_oldestWeek 29 = .ok (.aload_n 0, 1) := by decide +kernel
theorem dX0_oldestWeek_30 : decode cX0_oldestWeek 30 = .ok (.getfield 9, 3) := by decide +kernel
theorem dX0_oldestWeek_33 : decode cX0_oldestWeek 33 = .ok (.iload_n 2, 1) := by decide +kernel
theorem dX0_oldestWeek_34 : decode cX0_oldestWeek 34 = .ok (.iaload, 1) := by decide +kernel
theorem dX0_oldestWeek_35 : decode cX0_oldestWeek 35 = .ok (.iconst 3, 1) := by decide +kernel
theorem dX0_oldestWeek_36 : decode cX0_oldestWeek 36 = .ok (.idiv, 1) := by decide +kernel
theorem dX0_oldestWeek_37 : decode cX0_oldestWeek 37 = .ok (.ireturn, 1) := by decide +kernel
theorem dX0_oldestWeek_38 : decode cX0_oldestWeek 38 = .ok (.iinc 2 1, 3) := by decide +kernel
theorem dX0_oldestWeek_41 : decode cX0_oldestWeek 41 = .ok (.goto (-39), 3) := by decide +kernel
theorem dX0_oldestWeek_44 : decode cX0_oldestWeek 44 = .ok (.iconst (-1), 1) := by decide +kernel
theorem dX0_oldestWeek_45 : decode cX0_oldestWeek 45 = .ok (.ireturn, 1) := by decide +kernel
theorem dX0_dropOldest_0 : decode cX0_dropOldest 0 = .ok (.iload_n 2, 1) := by decide +kernel
theorem dX0_dropOldest_1 : decode cX0_dropOldest 1 = .ok (.istore_n 3, 1) := by decide +kernel
theorem dX0_dropOldest_2 : decode cX0_dropOldest 2 = .ok (.iconst 0, 1) := by decide +kernel
theorem dX0_dropOldest_3 : decode cX0_dropOldest 3 = .ok (.istore 4, 2) := by decide +kernel
theorem dX0_dropOldest_5 : decode cX0_dropOldest 5 = .ok (.iconst 0, 1) := by decide +kernel
theorem dX0_dropOldest_6 : decode cX0_dropOldest 6 = .ok (.istore 5, 2) := by decide +kernel
theorem dX0_dropOldest_8 : decode cX0_dropOldest 8 = .ok (.iload 5, 2) := by decide +kernel
theorem dX0_dropOldest_10 : decode cX0_dropOldest 10 = .ok (.aload_n 0, 1) := by decide +kernel
theorem dX0_dropOldest_11 : decode cX0_dropOldest 11 = .ok (.getfield 15, 3) := by decide +kernel
theorem dX0_dropOldest_14 : decode cX0_dropOldest 14 = .ok (.if_icmp .ge 57, 3) := by decide +kernel
theorem dX0_dropOldest_17 : decode cX0_dropOldest 17 = .ok (.iload 5, 2) := by decide +kernel
theorem dX0_dropOldest_19 : decode cX0_dropOldest 19 = .ok (.bipush 12, 2) := by decide +kernel
theorem dX0_dropOldest_21 : decode cX0_dropOldest 21 = .ok (.if_icmp .ge 50, 3) := by decide +kernel
theorem dX0_dropOldest_24 : decode cX0_dropOldest 24 = .ok (.iload_n 3, 1) := by decide +kernel
theorem dX0_dropOldest_25 : decode cX0_dropOldest 25 = .ok (.ifCond .le 23, 3) := by decide +kernel
theorem dX0_dropOldest_28 : decode cX0_dropOldest 28 = .ok (.aload_n 0, 1) := by decide +kernel
theorem dX0_dropOldest_29 : decode cX0_dropOldest 29 = .ok (.getfield 9, 3) := by decide +kernel
theorem dX0_dropOldest_32 : decode cX0_dropOldest 32 = .ok (.iload 5, 2) := by decide +kernel
theorem dX0_dropOldest_34 : decode cX0_dropOldest 34 = .ok (.iaload, 1) := by decide +kernel
theorem dX0_dropOldest_35 : decode cX0_dropOldest 35 = .ok (.iload_n 1, 1) := by decide +kernel
theorem dX0_dropOldest_36 : decode cX0_dropOldest 36 = .ok (.invokestatic 19, 3) := by decide +kernel
theorem dX0_dropOldest_39 : decode cX0_dropOldest 39 = .ok (.ifCond .eq 9, 3) := by decide +kernel
theorem dX0_dropOldest_42 : decode cX0_dropOldest 42 = .ok (.iinc 3 (-1), 3) := by decide +kernel
theorem dX0_dropOldest_45 : decode cX0_dropOldest 45 = .ok (.goto 20, 3) := by decide +kernel
theorem dX0_dropOldest_48 : decode cX0_dropOldest 48 = .ok (.aload_n 0, 1) := by decide +kernel
theorem dX0_dropOldest_49 : decode cX0_dropOldest 49 = .ok (.getfield 9, 3) := by decide +kernel
theorem dX0_dropOldest_52 : decode cX0_dropOldest 52 = .ok (.iload 4, 2) := by decide +kernel
theorem dX0_dropOldest_54 : decode cX0_dropOldest 54 = .ok (.aload_n 0, 1) := by decide +kernel
theorem dX0_dropOldest_55 : decode cX0_dropOldest 55 = .ok (.getfield 9, 3) := by decide +kernel
theorem dX0_dropOldest_58 : decode cX0_dropOldest 58 = .ok (.iload 5, 2) := by decide +kernel
theorem dX0_dropOldest_60 : decode cX0_dropOldest 60 = .ok (.iaload, 1) := by decide +kernel
theorem dX0_dropOldest_61 : decode cX0_dropOldest 61 = .ok (.iastore, 1) := by decide +kernel
theorem dX0_dropOldest_62 : decode cX0_dropOldest 62 = .ok (.iinc 4 1, 3) := by decide +kernel
theorem dX0_dropOldest_65 : decode cX0_dropOldest 65 = .ok (.iinc 5 1, 3) := by decide +kernel
theorem dX0_dropOldest_68 : decode cX0_dropOldest 68 = .ok (.goto (-60), 3) := by decide +kernel
theorem dX0_dropOldest_71 : decode cX0_dropOldest 71 = .ok (.aload_n 0, 1) := by decide +kernel
theorem dX0_dropOldest_72 : decode cX0_dropOldest 72 = .ok (.iload 4, 2) := by decide +kernel
theorem dX0_dropOldest_74 : decode cX0_dropOldest 74 = .ok (.putfield 15, 3) := by decide +kernel
theorem dX0_dropOldest_77 : decode cX0_dropOldest 77 = .ok (.return_, 1) := by decide +kernel
theorem dX0_dropAheadOf_0 : decode cX0_dropAheadOf 0 = .ok (.iconst 0, 1) := by decide +kernel
theorem dX0_dropAheadOf_1 : decode cX0_dropAheadOf 1 = .ok (.istore_n 2, 1) := by decide +kernel
theorem dX0_dropAheadOf_2 : decode cX0_dropAheadOf 2 = .ok (.iconst 0, 1) := by decide +kernel
theorem dX0_dropAheadOf_3 : decode cX0_dropAheadOf 3 = .ok (.istore_n 3, 1) := by decide +kernel
theorem dX0_dropAheadOf_4 : decode cX0_dropAheadOf 4 = .ok (.iload_n 3, 1) := by decide +kernel
theorem dX0_dropAheadOf_5 : decode cX0_dropAheadOf 5 = .ok (.aload_n 0, 1) := by decide +kernel
theorem dX0_dropAheadOf_6 : decode cX0_dropAheadOf 6 = .ok (.getfield 15, 3) := by decide +kernel
theorem dX0_dropAheadOf_9 : decode cX0_dropAheadOf 9 = .ok (.if_icmp .ge 42, 3) := by decide +kernel
theorem dX0_dropAheadOf_12 : decode cX0_dropAheadOf 12 = .ok (.iload_n 3, 1) := by decide +kernel
theorem dX0_dropAheadOf_13 : decode cX0_dropAheadOf 13 = .ok (.bipush 12, 2) := by decide +kernel
theorem dX0_dropAheadOf_15 : decode cX0_dropAheadOf 15 = .ok (.if_icmp .ge 36, 3) := by decide +kernel
theorem dX0_dropAheadOf_18 : decode cX0_dropAheadOf 18 = .ok (.aload_n 0, 1) := by decide +kernel
theorem dX0_dropAheadOf_19 : decode cX0_dropAheadOf 19 = .ok (.getfield 9, 3) := by decide +kernel
theorem dX0_dropAheadOf_22 : decode cX0_dropAheadOf 22 = .ok (.iload_n 3, 1) := by decide +kernel
theorem dX0_dropAheadOf_23 : decode cX0_dropAheadOf 23 = .ok (.iaload, 1) := by decide +kernel
theorem dX0_dropAheadOf_24 : decode cX0_dropAheadOf 24 = .ok (.iload_n 1, 1) := by decide +kernel
theorem dX0_dropAheadOf_25 : decode cX0_dropAheadOf 25 = .ok (.iconst 3, 1) := by decide +kernel
theorem dX0_dropAheadOf_26 : decode cX0_dropAheadOf 26 = .ok (.imul, 1) := by decide +kernel
theorem dX0_dropAheadOf_27 : decode cX0_dropAheadOf 27 = .ok (.if_icmp .lt 18, 3) := by decide +kernel
theorem dX0_dropAheadOf_30 : decode cX0_dropAheadOf 30 = .ok (.aload_n 0, 1) := by decide +kernel
theorem dX0_dropAheadOf_31 : decode cX0_dropAheadOf 31 = .ok (.getfield 9, 3) := by decide +kernel
theorem dX0_dropAheadOf_34 : decode cX0_dropAheadOf 34 = .ok (.iload_n 2, 1) := by decide +kernel
theorem dX0_dropAheadOf_35 : decode cX0_dropAheadOf 35 = .ok (.aload_n 0, 1) := by decide +kernel
theorem dX0_dropAheadOf_36 : decode cX0_dropAheadOf 36 = .ok (.getfield 9, 3) := by decide +kernel
theorem dX0_dropAheadOf_39 : decode cX0_dropAheadOf 39 = .ok (.iload_n 3, 1) := by decide +kernel
theorem dX0_dropAheadOf_40 : decode cX0_dropAheadOf 40 = .ok (.iaload, 1) := by decide +kernel
theorem dX0_dropAheadOf_41 : decode cX0_dropAheadOf 41 = .ok (.iastore, 1) := by decide +kernel
theorem dX0_dropAheadOf_42 : decode cX0_dropAheadOf 42 = .ok (.iinc 2 1, 3) := by decide +kernel
theorem dX0_dropAheadOf_45 : decode cX0_dropAheadOf 45 = .ok (.iinc 3 1, 3) := by decide +kernel
theorem dX0_dropAheadOf_48 : decode cX0_dropAheadOf 48 = .ok (.goto (-44), 3) := by decide +kernel
theorem dX0_dropAheadOf_51 : decode cX0_dropAheadOf 51 = .ok (.aload_n 0, 1) := by decide +kernel
theorem dX0_dropAheadOf_52 : decode cX0_dropAheadOf 52 = .ok (.iload_n 2, 1) := by decide +kernel
theorem dX0_dropAheadOf_53 : decode cX0_dropAheadOf 53 = .ok (.putfield 15, 3) := by decide +kernel
theorem dX0_dropAheadOf_56 : decode cX0_dropAheadOf 56 = .ok (.return_, 1) := by decide +kernel
theorem dX0_moveTo_0 : decode cX0_moveTo 0 = .ok (.iconst 0, 1) := by decide +kernel
theorem dX0_moveTo_1 : decode cX0_moveTo 1 = .ok (.istore_n 2, 1) := by decide +kernel
theorem dX0_moveTo_2 : decode cX0_moveTo 2 = .ok (.iconst 0, 1) := by decide +kernel
theorem dX0_moveTo_3 : decode cX0_moveTo 3 = .ok (.istore_n 3, 1) := by decide +kernel
theorem dX0_moveTo_4 : decode cX0_moveTo 4 = .ok (.iload_n 3, 1) := by decide +kernel
theorem dX0_moveTo_5 : decode cX0_moveTo 5 = .ok (.aload_n 0, 1) := by decide +kernel
theorem dX0_moveTo_6 : decode cX0_moveTo 6 = .ok (.getfield 15, 3) := by decide +kernel
theorem dX0_moveTo_9 : decode cX0_moveTo 9 = .ok (.if_icmp .ge 45, 3) := by decide +kernel
theorem dX0_moveTo_12 : decode cX0_moveTo 12 = .ok (.iload_n 3, 1) := by decide +kernel
theorem dX0_moveTo_13 : decode cX0_moveTo 13 = .ok (.bipush 12, 2) := by decide +kernel
theorem dX0_moveTo_15 : decode cX0_moveTo 15 = .ok (.if_icmp .ge 39, 3) := by decide +kernel
theorem dX0_moveTo_18 : decode cX0_moveTo 18 = .ok (.aload_n 1, 1) := by decide +kernel
theorem dX0_moveTo_19 : decode cX0_moveTo 19 = .ok (.invokevirtual 23, 3) := by decide +kernel
theorem dX0_moveTo_22 : decode cX0_moveTo 22 = .ok (.ifCond .eq 32, 3) := by decide +kernel
theorem dX0_moveTo_25 : decode cX0_moveTo 25 = .ok (.aload_n 1, 1) := by decide +kernel
theorem dX0_moveTo_26 : decode cX0_moveTo 26 = .ok (.aload_n 0, 1) := by decide +kernel
theorem dX0_moveTo_27 : decode cX0_moveTo 27 = .ok (.getfield 9, 3) := by decide +kernel
theorem dX0_moveTo_30 : decode cX0_moveTo 30 = .ok (.iload_n 3, 1) := by decide +kernel
theorem dX0_moveTo_31 : decode cX0_moveTo 31 = .ok (.iaload, 1) := by decide +kernel
theorem dX0_moveTo_32 : decode cX0_moveTo 32 = .ok (.iconst 3, 1) := by decide +kernel
theorem dX0_moveTo_33 : decode cX0_moveTo 33 = .ok (.irem, 1) := by decide +kernel
theorem dX0_moveTo_34 : decode cX0_moveTo 34 = .ok (.aload_n 0, 1) := by decide +kernel
theorem dX0_moveTo_35 : decode cX0_moveTo 35 = .ok (.getfield 9, 3) := by decide +kernel
theorem dX0_moveTo_38 : decode cX0_moveTo 38 = .ok (.iload_n 3, 1) := by decide +kernel
theorem dX0_moveTo_39 : decode cX0_moveTo 39 = .ok (.iaload, 1) := by decide +kernel
theorem dX0_moveTo_40 : decode cX0_moveTo 40 = .ok (.iconst 3, 1) := by decide +kernel
theorem dX0_moveTo_41 : decode cX0_moveTo 41 = .ok (.idiv, 1) := by decide +kernel
theorem dX0_moveTo_42 : decode cX0_moveTo 42 = .ok (.invokevirtual 27, 3) := by decide +kernel
theorem dX0_moveTo_45 : decode cX0_moveTo 45 = .ok (.iinc 2 1, 3) := by decide +kernel
theorem dX0_moveTo_48 : decode cX0_moveTo 48 = .ok (.iinc 3 1, 3) := by decide +kernel
theorem dX0_moveTo_51 : decode cX0_moveTo 51 = .ok (.goto (-47), 3) := by decide +kernel
theorem dX0_moveTo_54 : decode cX0_moveTo 54 = .ok (.aload_n 0, 1) := by decide +kernel
theorem dX0_moveTo_55 : decode cX0_moveTo 55 = .ok (.iconst 0, 1) := by decide +kernel
theorem dX0_moveTo_56 : decode cX0_moveTo 56 = .ok (.putfield 15, 3) := by decide +kernel
theorem dX0_moveTo_59 : decode cX0_moveTo 59 = .ok (.iload_n 2, 1) := by decide +kernel
theorem dX0_moveTo_60 : decode cX0_moveTo 60 = .ok (.ireturn, 1) := by decide +kernel
theorem dX0_isOf_0 : decode cX0_isOf 0 = .ok (.iload_n 1, 1) := by decide +kernel
theorem dX0_isOf_1 : decode cX0_isOf 1 = .ok (.iconst 1, 1) := by decide +kernel
theorem dX0_isOf_2 : decode cX0_isOf 2 = .ok (.iload_n 0, 1) := by decide +kernel
theorem dX0_isOf_3 : decode cX0_isOf 3 = .ok (.iconst 3, 1) := by decide +kernel
theorem dX0_isOf_4 : decode cX0_isOf 4 = .ok (.irem, 1) := by decide +kernel
theorem dX0_isOf_5 : decode cX0_isOf 5 = .ok (.ishl, 1) := by decide +kernel
theorem dX0_isOf_6 : decode cX0_isOf 6 = .ok (.iand, 1) := by decide +kernel
theorem dX0_isOf_7 : decode cX0_isOf 7 = .ok (.ifCond .eq 7, 3) := by decide +kernel
theorem dX0_isOf_10 : decode cX0_isOf 10 = .ok (.iconst 1, 1) := by decide +kernel
theorem dX0_isOf_11 : decode cX0_isOf 11 = .ok (.goto 4, 3) := by decide +kernel
theorem dX0_isOf_14 : decode cX0_isOf 14 = .ok (.iconst 0, 1) := by decide +kernel
theorem dX0_isOf_15 : decode cX0_isOf 15 = .ok (.ireturn, 1) := by decide +kernel
theorem dX1_init_0 : decode cX1_init 0 = .ok (.aload_n 0, 1) := by decide +kernel
theorem dX1_init_1 : decode cX1_init 1 = .ok (.invokespecial 3, 3) := by decide +kernel
theorem dX1_init_4 : decode cX1_init 4 = .ok (.aload_n 0, 1) := by decide +kernel
theorem dX1_init_5 : decode cX1_init 5 = .ok (.bipush 7, 2) := by decide +kernel
theorem dX1_init_7 : decode cX1_init 7 = .ok (.anewarray 9, 3) := by decide +kernel
theorem dX1_init_10 : decode cX1_init 10 = .ok (.putfield 11, 3) := by decide +kernel
theorem dX1_init_13 : decode cX1_init 13 = .ok (.iconst 0, 1) := by decide +kernel
theorem dX1_init_14 : decode cX1_init 14 = .ok (.istore_n 1, 1) := by decide +kernel
theorem dX1_init_15 : decode cX1_init 15 = .ok (.iload_n 1, 1) := by decide +kernel
theorem dX1_init_16 : decode cX1_init 16 = .ok (.bipush 6, 2) := by decide +kernel
theorem dX1_init_18 : decode cX1_init 18 = .ok (.if_icmp .gt 22, 3) := by decide +kernel
theorem dX1_init_21 : decode cX1_init 21 = .ok (.aload_n 0, 1) := by decide +kernel
theorem dX1_init_22 : decode cX1_init 22 = .ok (.getfield 11, 3) := by decide +kernel
theorem dX1_init_25 : decode cX1_init 25 = .ok (.iload_n 1, 1) := by decide +kernel
theorem dX1_init_26 : decode cX1_init 26 = .ok (.new 9, 3) := by decide +kernel
theorem dX1_init_29 : decode cX1_init 29 = .ok (.dup, 1) := by decide +kernel
theorem dX1_init_30 : decode cX1_init 30 = .ok (.invokespecial 17, 3) := by decide +kernel
theorem dX1_init_33 : decode cX1_init 33 = .ok (.aastore, 1) := by decide +kernel
theorem dX1_init_34 : decode cX1_init 34 = .ok (.iinc 1 1, 3) := by decide +kernel
theorem dX1_init_37 : decode cX1_init 37 = .ok (.goto (-22), 3) := by decide +kernel
theorem dX1_init_40 : decode cX1_init 40 = .ok (.return_, 1) := by decide +kernel
theorem dX1_start_0 : decode cX1_start 0 = .ok (.aload_n 0, 1) := by decide +kernel
theorem dX1_start_1 : decode cX1_start 1 = .ok (.getfield 11, 3) := by decide +kernel
theorem dX1_start_4 : decode cX1_start 4 = .ok (.iconst 0, 1) := by decide +kernel
theorem dX1_start_5 : decode cX1_start 5 = .ok (.aaload, 1) := by decide +kernel
theorem dX1_start_6 : decode cX1_start 6 = .ok (.astore 5, 2) := by decide +kernel
theorem dX1_start_8 : decode cX1_start 8 = .ok (.aload 5, 2) := by decide +kernel
theorem dX1_start_10 : decode cX1_start 10 = .ok (.aload_n 1, 1) := by decide +kernel
theorem dX1_start_11 : decode cX1_start 11 = .ok (.invokevirtual 18, 3) := by decide +kernel
theorem dX1_start_14 : decode cX1_start 14 = .ok (.aload 5, 2) := by decide +kernel
theorem dX1_start_16 : decode cX1_start 16 = .ok (.iconst 0, 1) := by decide +kernel
theorem dX1_start_17 : decode cX1_start 17 = .ok (.putfield 22, 3) := by decide +kernel
theorem dX1_start_20 : decode cX1_start 20 = .ok (.aload_n 0, 1) := by decide +kernel
theorem dX1_start_21 : decode cX1_start 21 = .ok (.iload_n 3, 1) := by decide +kernel
theorem dX1_start_22 : decode cX1_start 22 = .ok (.putfield 26, 3) := by decide +kernel
theorem dX1_start_25 : decode cX1_start 25 = .ok (.aload_n 0, 1) := by decide +kernel
theorem dX1_start_26 : decode cX1_start 26 = .ok (.iload 4, 2) := by decide +kernel
theorem dX1_start_28 : decode cX1_start 28 = .ok (.putfield 29, 3) := by decide +kernel
theorem dX1_start_31 : decode cX1_start 31 = .ok (.aload 5, 2) := by decide +kernel
theorem dX1_start_33 : decode cX1_start 33 = .ok (.getfield 32, 3) := by decide +kernel
theorem dX1_start_36 : decode cX1_start 36 = .ok (.ifCond .eq 32, 3) := by decide +kernel
theorem dX1_start_39 : decode cX1_start 39 = .ok (.aload_n 0, 1) := by decide +kernel
theorem dX1_start_40 : decode cX1_start 40 = .ok (.iload_n 3, 1) := by decide +kernel
theorem dX1_start_41 : decode cX1_start 41 = .ok (.iconst 1, 1) := by decide +kernel
theorem dX1_start_42 : decode cX1_start 42 = .ok (.iadd, 1) := by decide +kernel
theorem dX1_start_43 : decode cX1_start 43 = .ok (.putfield 26, 3) := by decide +kernel
theorem dX1_start_46 : decode cX1_start 46 = .ok (.aload_n 0, 1) := by decide +kernel
theorem dX1_start_47 : decode cX1_start 47 = .ok (.iconst 0, 1) := by decide +kernel
theorem dX1_start_48 : decode cX1_start 48 = .ok (.iload 4, 2) := by decide +kernel
theorem dX1_start_50 : decode cX1_start 50 = .ok (.iconst 1, 1) := by decide +kernel
theorem dX1_start_51 : decode cX1_start 51 = .ok (.isub, 1) := by decide +kernel
theorem dX1_start_52 : decode cX1_start 52 = .ok (.invokestatic 36, 3) := by decide +kernel
theorem dX1_start_55 : decode cX1_start 55 = .ok (.putfield 29, 3) := by decide +kernel
theorem dX1_start_58 : decode cX1_start 58 = .ok (.aload 5, 2) := by decide +kernel
theorem dX1_start_60 : decode cX1_start 60 = .ok (.aload_n 0, 1) := by decide +kernel
theorem dX1_start_61 : decode cX1_start 61 = .ok (.getfield 26, 3) := by decide +kernel
theorem dX1_start_64 : decode cX1_start 64 = .ok (.aload_n 2, 1) := by decide +kernel
theorem dX1_start_65 : decode cX1_start 65 = .ok (.invokevirtual 42, 3) := by decide +kernel
theorem dX1_start_68 : decode cX1_start 68 = .ok (.aload_n 0, 1) := by decide +kernel
theorem dX1_start_69 : decode cX1_start 69 = .ok (.iconst (-1), 1) := by decide +kernel
theorem dX1_start_70 : decode cX1_start 70 = .ok (.putfield 46, 3) := by decide +kernel
theorem dX1_start_73 : decode cX1_start 73 = .ok (.aload_n 0, 1) := by decide +kernel
theorem dX1_start_74 : decode cX1_start 74 = .ok (.bipush 9, 2) := by decide +kernel
theorem dX1_start_76 : decode cX1_start 76 = .ok (.putfield 49, 3) := by decide +kernel
theorem dX1_start_79 : decode cX1_start 79 = .ok (.aload_n 0, 1) := by decide +kernel
theorem dX1_start_80 : decode cX1_start 80 = .ok (.bipush 9, 2) := by decide +kernel
theorem dX1_start_82 : decode cX1_start 82 = .ok (.putfield 52, 3) := by decide +kernel
theorem dX1_start_85 : decode cX1_start 85 = .ok (.aload_n 0, 1) := by decide +kernel
theorem dX1_start_86 : decode cX1_start 86 = .ok (.iconst 0, 1) := by decide +kernel
theorem dX1_start_87 : decode cX1_start 87 = .ok (.aload_n 2, 1) := by decide +kernel
theorem dX1_start_88 : decode cX1_start 88 = .ok (.invokevirtual 55, 3) := by decide +kernel
theorem dX1_start_91 : decode cX1_start 91 = .ok (.return_, 1) := by decide +kernel
theorem dX1_tryFrom_0 : decode cX1_tryFrom 0 = .ok (.iload_n 1, 1) := by decide +kernel
theorem dX1_tryFrom_1 : decode cX1_tryFrom 1 = .ok (.ifCond .lt 9, 3) := by decide +kernel
theorem dX1_tryFrom_4 : decode cX1_tryFrom 4 = .ok (.iload_n 1, 1) := by decide +kernel
theorem dX1_tryFrom_5 : decode cX1_tryFrom 5 = .ok (.bipush 6, 2) := by decide +kernel
theorem dX1_tryFrom_7 : decode cX1_tryFrom 7 = .ok (.if_icmp .le 4, 3) := by decide +kernel
theorem dX1_tryFrom_10 : decode cX1_tryFrom 10 = .ok (.return_, 1) := by decide +kernel
theorem dX1_tryFrom_11 : decode cX1_tryFrom 11 = .ok (.aload_n 0, 1) := by decide +kernel
theorem dX1_tryFrom_12 : decode cX1_tryFrom 12 = .ok (.getfield 11, 3) := by decide +kernel
theorem dX1_tryFrom_15 : decode cX1_tryFrom 15 = .ok (.iload_n 1, 1) := by decide +kernel
theorem dX1_tryFrom_16 : decode cX1_tryFrom 16 = .ok (.aaload, 1) := by decide +kernel
theorem dX1_tryFrom_17 : decode cX1_tryFrom 17 = .ok (.astore_n 3, 1) := by decide +kernel
theorem dX1_tryFrom_18 : decode cX1_tryFrom 18 = .ok (.iload_n 1, 1) := by decide +kernel
theorem dX1_tryFrom_19 : decode cX1_tryFrom 19 = .ok (.aload_n 0, 1) := by decide +kernel
theorem dX1_tryFrom_20 : decode cX1_tryFrom 20 = .ok (.getfield 29, 3) := by decide +kernel
theorem dX1_tryFrom_23 : decode cX1_tryFrom 23 = .ok (.if_icmp .ge 9, 3) := by decide +kernel
theorem dX1_tryFrom_26 : decode cX1_tryFrom 26 = .ok (.iload_n 1, 1) := by decide +kernel
theorem dX1_tryFrom_27 : decode cX1_tryFrom 27 = .ok (.bipush 6, 2) := by decide +kernel
theorem dX1_tryFrom_29 : decode cX1_tryFrom 29 = .ok (.if_icmp .ne 31, 3) := by decide +kernel
theorem dX1_tryFrom_32 : decode cX1_tryFrom 32 = .ok (.aload_n 3, 1) := by decide +kernel
theorem dX1_tryFrom_33 : decode cX1_tryFrom 33 = .ok (.getfield 22, 3) := by decide +kernel
theorem dX1_tryFrom_36 : decode cX1_tryFrom 36 = .ok (.aload_n 0, 1) := by decide +kernel
theorem dX1_tryFrom_37 : decode cX1_tryFrom 37 = .ok (.getfield 46, 3) := by decide +kernel
theorem dX1_tryFrom_40 : decode cX1_tryFrom 40 = .ok (.if_icmp .le 19, 3) := by decide +kernel
theorem dX1_tryFrom_43 : decode cX1_tryFrom 43 = .ok (.aload_n 0, 1) := by decide +kernel
theorem dX1_tryFrom_44 : decode cX1_tryFrom 44 = .ok (.aload_n 3, 1) := by decide +kernel
theorem dX1_tryFrom_45 : decode cX1_tryFrom 45 = .ok (.getfield 22, 3) := by decide +kernel
theorem dX1_tryFrom_48 : decode cX1_tryFrom 48 = .ok (.putfield 46, 3) := by decide +kernel
theorem dX1_tryFrom_51 : decode cX1_tryFrom 51 = .ok (.aload_n 0, 1) := by decide +kernel
theorem dX1_tryFrom_52 : decode cX1_tryFrom 52 = .ok (.aload_n 0, 1) := by decide +kernel
theorem dX1_tryFrom_53 : decode cX1_tryFrom 53 = .ok (.getfield 52, 3) := by decide +kernel
theorem dX1_tryFrom_56 : decode cX1_tryFrom 56 = .ok (.putfield 49, 3) := by decide +kernel
theorem dX1_tryFrom_59 : decode cX1_tryFrom 59 = .ok (.return_, 1) := by decide +kernel
theorem dX1_tryFrom_60 : decode cX1_tryFrom 60 = .ok (.aload_n 3, 1) := by decide +kernel
theorem dX1_tryFrom_61 : decode cX1_tryFrom 61 = .ok (.getfield 22, 3) := by decide +kernel
theorem dX1_tryFrom_64 : decode cX1_tryFrom 64 = .ok (.aload_n 3, 1) := by decide +kernel
theorem dX1_tryFrom_65 : decode cX1_tryFrom 65 = .ok (.aload_n 0, 1) := by decide +kernel
theorem dX1_tryFrom_66 : decode cX1_tryFrom 66 = .ok (.getfield 29, 3) := by decide +kernel
theorem dX1_tryFrom_69 : decode cX1_tryFrom 69 = .ok (.iload_n 1, 1) := by decide +kernel
theorem dX1_tryFrom_70 : decode cX1_tryFrom 70 = .ok (.isub, 1) := by decide +kernel
theorem dX1_tryFrom_71 : decode cX1_tryFrom 71 = .ok (.aload_n 2, 1) := by decide +kernel
theorem dX1_tryFrom_72 : decode cX1_tryFrom 72 = .ok (.invokestatic 58, 3) := by decide +kernel
theorem dX1_tryFrom_75 : decode cX1_tryFrom 75 = .ok (.iadd, 1) := by decide +kernel
theorem dX1_tryFrom_76 : decode cX1_tryFrom 76 = .ok (.aload_n 0, 1) := by decide +kernel
theorem dX1_tryFrom_77 : decode cX1_tryFrom 77 = .ok (.getfield 46, 3) := by decide +kernel
theorem dX1_tryFrom_80 : decode cX1_tryFrom 80 = .ok (.if_icmp .gt 4, 3) := by decide +kernel
theorem dX1_tryFrom_83 : decode cX1_tryFrom 83 = .ok (.return_, 1) := by decide +kernel
theorem dX1_tryFrom_84 : decode cX1_tryFrom 84 = .ok (.iconst 0, 1) := by decide +kernel
theorem dX1_tryFrom_85 : decode cX1_tryFrom 85 = .ok (.istore 4, 2) := by decide +kernel
theorem dX1_tryFrom_87 : decode cX1_tryFrom 87 = .ok (.iload 4, 2) := by decide +kernel
theorem dX1_tryFrom_89 : decode cX1_tryFrom 89 = .ok (.bipush 7, 2) := by decide +kernel
theorem dX1_tryFrom_91 : decode cX1_tryFrom 91 = .ok (.if_icmp .gt 107, 3) := by decide +kernel
theorem dX1_tryFrom_94 : decode cX1_tryFrom 94 = .ok (.iload 4, 2) := by decide +kernel
theorem dX1_tryFrom_96 : decode cX1_tryFrom 96 = .ok (.bipush 7, 2) := by decide +kernel
theorem dX1_tryFrom_98 : decode cX1_tryFrom 98 = .ok (.if_icmp .ge 11, 3) := by decide +kernel
theorem dX1_tryFrom_101 : decode cX1_tryFrom 101 = .ok (.iload 4, 2) := by decide +kernel
theorem dX1_tryFrom_103 : decode cX1_tryFrom 103 = .ok (.invokestatic 62, 3) := by decide +kernel
theorem dX1_tryFrom_106 : decode cX1_tryFrom 106 = .ok (.goto 5, 3) := by decide +kernel
theorem dX1_tryFrom_109 : decode cX1_tryFrom 109 = .ok (.bipush 9, 2) := by decide +kernel
theorem dX1_tryFrom_111 : decode cX1_tryFrom 111 = .ok (.istore 5, 2) := by decide +kernel
theorem dX1_tryFrom_113 : decode cX1_tryFrom 113 = .ok (.iload_n 1, 1) := by decide +kernel
theorem dX1_tryFrom_114 : decode cX1_tryFrom 114 = .ok (.ifCond .ne 9, 3) := by decide +kernel
theorem dX1_tryFrom_117 : decode cX1_tryFrom 117 = .ok (.aload_n 0, 1) := by decide +kernel
theorem dX1_tryFrom_118 : decode cX1_tryFrom 118 = .ok (.iload 5, 2) := by decide +kernel
theorem dX1_tryFrom_120 : decode cX1_tryFrom 120 = .ok (.putfield 52, 3) := by decide +kernel
theorem dX1_tryFrom_123 : decode cX1_tryFrom 123 = .ok (.iload 5, 2) := by decide +kernel
theorem dX1_tryFrom_125 : decode cX1_tryFrom 125 = .ok (.bipush 9, 2) := by decide +kernel
theorem dX1_tryFrom_127 : decode cX1_tryFrom 127 = .ok (.if_icmp .eq 13, 3) := by decide +kernel
theorem dX1_tryFrom_130 : decode cX1_tryFrom 130 = .ok (.aload_n 3, 1) := by decide +kernel
theorem dX1_tryFrom_131 : decode cX1_tryFrom 131 = .ok (.iload 5, 2) := by decide +kernel
theorem dX1_tryFrom_133 : decode cX1_tryFrom 133 = .ok (.aload_n 2, 1) := by decide +kernel
theorem dX1_tryFrom_134 : decode cX1_tryFrom 134 = .ok (.invokevirtual 66, 3) := by decide +kernel
theorem dX1_tryFrom_137 : decode cX1_tryFrom 137 = .ok (.ifCond .eq 55, 3) := by decide +kernel
theorem dX1_tryFrom_140 : decode cX1_tryFrom 140 = .ok (.aload_n 0, 1) := by decide +kernel
theorem dX1_tryFrom_141 : decode cX1_tryFrom 141 = .ok (.getfield 11, 3) := by decide +kernel
theorem dX1_tryFrom_144 : decode cX1_tryFrom 144 = .ok (.iload_n 1, 1) := by decide +kernel
theorem dX1_tryFrom_145 : decode cX1_tryFrom 145 = .ok (.iconst 1, 1) := by decide +kernel
theorem dX1_tryFrom_146 : decode cX1_tryFrom 146 = .ok (.iadd, 1) := by decide +kernel
theorem dX1_tryFrom_147 : decode cX1_tryFrom 147 = .ok (.aaload, 1) := by decide +kernel
theorem dX1_tryFrom_148 : decode cX1_tryFrom 148 = .ok (.astore 6, 2) := by decide +kernel
theorem dX1_tryFrom_150 : decode cX1_tryFrom 150 = .ok (.aload 6, 2) := by decide +kernel
theorem dX1_tryFrom_152 : decode cX1_tryFrom 152 = .ok (.aload_n 3, 1) := by decide +kernel
theorem dX1_tryFrom_153 : decode cX1_tryFrom 153 = .ok (.invokevirtual 18, 3) := by decide +kernel
theorem dX1_tryFrom_156 : decode cX1_tryFrom 156 = .ok (.aload 6, 2) := by decide +kernel
theorem dX1_tryFrom_158 : decode cX1_tryFrom 158 = .ok (.iload 5, 2) := by decide +kernel
theorem dX1_tryFrom_160 : decode cX1_tryFrom 160 = .ok (.aload_n 2, 1) := by decide +kernel
theorem dX1_tryFrom_161 : decode cX1_tryFrom 161 = .ok (.aload_n 0, 1) := by decide +kernel
theorem dX1_tryFrom_162 : decode cX1_tryFrom 162 = .ok (.getfield 26, 3) := by decide +kernel
theorem dX1_tryFrom_165 : decode cX1_tryFrom 165 = .ok (.iload_n 1, 1) := by decide +kernel
theorem dX1_tryFrom_166 : decode cX1_tryFrom 166 = .ok (.iadd, 1) := by decide +kernel
theorem dX1_tryFrom_167 : decode cX1_tryFrom 167 = .ok (.invokevirtual 70, 3) := by decide +kernel
theorem dX1_tryFrom_170 : decode cX1_tryFrom 170 = .ok (.aload 6, 2) := by decide +kernel
theorem dX1_tryFrom_172 : decode cX1_tryFrom 172 = .ok (.aload_n 0, 1) := by decide +kernel
theorem dX1_tryFrom_173 : decode cX1_tryFrom 173 = .ok (.getfield 26, 3) := by decide +kernel
theorem dX1_tryFrom_176 : decode cX1_tryFrom 176 = .ok (.iload_n 1, 1) := by decide +kernel
theorem dX1_tryFrom_177 : decode cX1_tryFrom 177 = .ok (.iadd, 1) := by decide +kernel
theorem dX1_tryFrom_178 : decode cX1_tryFrom 178 = .ok (.iconst 1, 1) := by decide +kernel
theorem dX1_tryFrom_179 : decode cX1_tryFrom 179 = .ok (.iadd, 1) := by decide +kernel
theorem dX1_tryFrom_180 : decode cX1_tryFrom 180 = .ok (.aload_n 2, 1) := by decide +kernel
theorem dX1_tryFrom_181 : decode cX1_tryFrom 181 = .ok (.invokevirtual 42, 3) := by decide +kernel
theorem dX1_tryFrom_184 : decode cX1_tryFrom 184 = .ok (.aload_n 0, 1) := by decide +kernel
theorem dX1_tryFrom_185 : decode cX1_tryFrom 185 = .ok (.iload_n 1, 1) := by decide +kernel
theorem dX1_tryFrom_186 : decode cX1_tryFrom 186 = .ok (.iconst 1, 1) := by decide +kernel
theorem dX1_tryFrom_187 : decode cX1_tryFrom 187 = .ok (.iadd, 1) := by decide +kernel
theorem dX1_tryFrom_188 : decode cX1_tryFrom 188 = .ok (.aload_n 2, 1) := by decide +kernel
theorem dX1_tryFrom_189 : decode cX1_tryFrom 189 = .ok (.invokevirtual 55, 3) := by decide +kernel
theorem dX1_tryFrom_192 : decode cX1_tryFrom 192 = .ok (.iinc 4 1, 3) := by decide +kernel
theorem dX1_tryFrom_195 : decode cX1_tryFrom 195 = .ok (.goto (-108), 3) := by decide +kernel
theorem dX1_tryFrom_198 : decode cX1_tryFrom 198 = .ok (.return_, 1) := by decide +kernel
theorem dX1_mostStill_0 : decode cX1_mostStill 0 = .ok (.iload_n 1, 1) := by decide +kernel
theorem dX1_mostStill_1 : decode cX1_mostStill 1 = .ok (.aload_n 0, 1) := by decide +kernel
theorem dX1_mostStill_2 : decode cX1_mostStill 2 = .ok (.getfield 74, 3) := by decide +kernel
theorem dX1_mostStill_5 : decode cX1_mostStill 5 = .ok (.isub, 1) := by decide +kernel
theorem dX1_mostStill_6 : decode cX1_mostStill 6 = .ok (.istore_n 3, 1) := by decide +kernel
theorem dX1_mostStill_7 : decode cX1_mostStill 7 = .ok (.iload_n 3, 1) := by decide +kernel
theorem dX1_mostStill_8 : decode cX1_mostStill 8 = .ok (.ifCond .gt 5, 3) := by decide +kernel
theorem dX1_mostStill_11 : decode cX1_mostStill 11 = .ok (.iconst 0, 1) := by decide +kernel
theorem dX1_mostStill_12 : decode cX1_mostStill 12 = .ok (.ireturn, 1) := by decide +kernel
theorem dX1_mostStill_13 : decode cX1_mostStill 13 = .ok (.aload_n 0, 1) := by decide +kernel
theorem dX1_mostStill_14 : decode cX1_mostStill 14 = .ok (.getfield 77, 3) := by decide +kernel
theorem dX1_mostStill_17 : decode cX1_mostStill 17 = .ok (.getfield 81, 3) := by decide +kernel
theorem dX1_mostStill_20 : decode cX1_mostStill 20 = .ok (.istore 4, 2) := by decide +kernel
theorem dX1_mostStill_22 : decode cX1_mostStill 22 = .ok (.aload_n 0, 1) := by decide +kernel
theorem dX1_mostStill_23 : decode cX1_mostStill 23 = .ok (.getfield 86, 3) := by decide +kernel
theorem dX1_mostStill_26 : decode cX1_mostStill 26 = .ok (.getfield 90, 3) := by decide +kernel
theorem dX1_mostStill_29 : decode cX1_mostStill 29 = .ok (.iload 4, 2) := by decide +kernel
theorem dX1_mostStill_31 : decode cX1_mostStill 31 = .ok (.iload_n 3, 1) := by decide +kernel
theorem dX1_mostStill_32 : decode cX1_mostStill 32 = .ok (.imul, 1) := by decide +kernel
theorem dX1_mostStill_33 : decode cX1_mostStill 33 = .ok (.iadd, 1) := by decide +kernel
theorem dX1_mostStill_34 : decode cX1_mostStill 34 = .ok (.istore 5, 2) := by decide +kernel
theorem dX1_mostStill_36 : decode cX1_mostStill 36 = .ok (.iconst 0, 1) := by decide +kernel
theorem dX1_mostStill_37 : decode cX1_mostStill 37 = .ok (.istore 6, 2) := by decide +kernel
theorem dX1_mostStill_39 : decode cX1_mostStill 39 = .ok (.iconst 0, 1) := by decide +kernel
theorem dX1_mostStill_40 : decode cX1_mostStill 40 = .ok (.istore 7, 2) := by decide +kernel
theorem dX1_mostStill_42 : decode cX1_mostStill 42 = .ok (.iconst 0, 1) := by decide +kernel
theorem dX1_mostStill_43 : decode cX1_mostStill 43 = .ok (.istore 8, 2) := by decide +kernel
theorem dX1_mostStill_45 : decode cX1_mostStill 45 = .ok (.iload 8, 2) := by decide +kernel
theorem dX1_mostStill_47 : decode cX1_mostStill 47 = .ok (.iconst 4, 1) := by decide +kernel
theorem dX1_mostStill_48 : decode cX1_mostStill 48 = .ok (.if_icmp .ge 101, 3) := by decide +kernel
theorem dX1_mostStill_51 : decode cX1_mostStill 51 = .ok (.aload_n 0, 1) := by decide +kernel
theorem dX1_mostStill_52 : decode cX1_mostStill 52 = .ok (.getfield 77, 3) := by decide +kernel
theorem dX1_mostStill_55 : decode cX1_mostStill 55 = .ok (.aload_n 2, 1) := by decide +kernel
theorem dX1_mostStill_56 : decode cX1_mostStill 56 = .ok (.iload 8, 2) := by decide +kernel
theorem dX1_mostStill_58 : decode cX1_mostStill 58 = .ok (.invokevirtual 95, 3) := by decide +kernel
theorem dX1_mostStill_61 : decode cX1_mostStill 61 = .ok (.invokevirtual 100, 3) := by decide +kernel
theorem dX1_mostStill_64 : decode cX1_mostStill 64 = .ok (.istore 9, 2) := by decide +kernel
theorem dX1_mostStill_66 : decode cX1_mostStill 66 = .ok (.aload_n 0, 1) := by decide +kernel
theorem dX1_mostStill_67 : decode cX1_mostStill 67 = .ok (.getfield 77, 3) := by decide +kernel
theorem dX1_mostStill_70 : decode cX1_mostStill 70 = .ok (.aload_n 2, 1) := by decide +kernel
theorem dX1_mostStill_71 : decode cX1_mostStill 71 = .ok (.iload 8, 2) := by decide +kernel
theorem dX1_mostStill_73 : decode cX1_mostStill 73 = .ok (.invokevirtual 103, 3) := by decide +kernel
theorem dX1_mostStill_76 : decode cX1_mostStill 76 = .ok (.invokevirtual 106, 3) := by decide +kernel
theorem dX1_mostStill_79 : decode cX1_mostStill 79 = .ok (.iload 4, 2) := by decide +kernel
theorem dX1_mostStill_81 : decode cX1_mostStill 81 = .ok (.iadd, 1) := by decide +kernel
theorem dX1_mostStill_82 : decode cX1_mostStill 82 = .ok (.istore 10, 2) := by decide +kernel
theorem dX1_mostStill_84 : decode cX1_mostStill 84 = .ok (.aload_n 0, 1) := by decide +kernel
theorem dX1_mostStill_85 : decode cX1_mostStill 85 = .ok (.getfield 86, 3) := by decide +kernel
theorem dX1_mostStill_88 : decode cX1_mostStill 88 = .ok (.aload_n 2, 1) := by decide +kernel
theorem dX1_mostStill_89 : decode cX1_mostStill 89 = .ok (.iload 8, 2) := by decide +kernel
theorem dX1_mostStill_91 : decode cX1_mostStill 91 = .ok (.invokevirtual 109, 3) := by decide +kernel
theorem dX1_mostStill_94 : decode cX1_mostStill 94 = .ok (.iconst 0, 1) := by decide +kernel
theorem dX1_mostStill_95 : decode cX1_mostStill 95 = .ok (.invokevirtual 112, 3) := by decide +kernel
theorem dX1_mostStill_98 : decode cX1_mostStill 98 = .ok (.iload 4, 2) := by decide +kernel
theorem dX1_mostStill_100 : decode cX1_mostStill 100 = .ok (.iload_n 3, 1) := by decide +kernel
theorem dX1_mostStill_101 : decode cX1_mostStill 101 = .ok (.imul, 1) := by decide +kernel
theorem dX1_mostStill_102 : decode cX1_mostStill 102 = .ok (.iadd, 1) := by decide +kernel
theorem dX1_mostStill_103 : decode cX1_mostStill 103 = .ok (.istore 11, 2) := by decide +kernel
theorem dX1_mostStill_105 : decode cX1_mostStill 105 = .ok (.iload 10, 2) := by decide +kernel
theorem dX1_mostStill_107 : decode cX1_mostStill 107 = .ok (.ifCond .le 36, 3) := by decide +kernel
theorem dX1_mostStill_110 : decode cX1_mostStill 110 = .ok (.iload 11, 2) := by decide +kernel
theorem dX1_mostStill_112 : decode cX1_mostStill 112 = .ok (.iload 10, 2) := by decide +kernel
theorem dX1_mostStill_114 : decode cX1_mostStill 114 = .ok (.if_icmp .lt 29, 3) := by decide +kernel
theorem dX1_mostStill_117 : decode cX1_mostStill 117 = .ok (.iload 6, 2) := by decide +kernel
theorem dX1_mostStill_119 : decode cX1_mostStill 119 = .ok (.iload 5, 2) := by decide +kernel
theorem dX1_mostStill_121 : decode cX1_mostStill 121 = .ok (.iload 9, 2) := by decide +kernel
theorem dX1_mostStill_123 : decode cX1_mostStill 123 = .ok (.imul, 1) := by decide +kernel
theorem dX1_mostStill_124 : decode cX1_mostStill 124 = .ok (.iload 10, 2) := by decide +kernel
theorem dX1_mostStill_126 : decode cX1_mostStill 126 = .ok (.idiv, 1) := by decide +kernel
theorem dX1_mostStill_127 : decode cX1_mostStill 127 = .ok (.invokestatic 36, 3) := by decide +kernel
theorem dX1_mostStill_130 : decode cX1_mostStill 130 = .ok (.istore 6, 2) := by decide +kernel
theorem dX1_mostStill_132 : decode cX1_mostStill 132 = .ok (.iload 7, 2) := by decide +kernel
theorem dX1_mostStill_134 : decode cX1_mostStill 134 = .ok (.iload 9, 2) := by decide +kernel
theorem dX1_mostStill_136 : decode cX1_mostStill 136 = .ok (.iload_n 3, 1) := by decide +kernel
theorem dX1_mostStill_137 : decode cX1_mostStill 137 = .ok (.imul, 1) := by decide +kernel
theorem dX1_mostStill_138 : decode cX1_mostStill 138 = .ok (.invokestatic 36, 3) := by decide +kernel
theorem dX1_mostStill_141 : decode cX1_mostStill 141 = .ok (.istore 7, 2) := by decide +kernel
theorem dX1_mostStill_143 : decode cX1_mostStill 143 = .ok (.iinc 8 1, 3) := by decide +kernel
theorem dX1_mostStill_146 : decode cX1_mostStill 146 = .ok (.goto (-101), 3) := by decide +kernel
theorem dX1_mostStill_149 : decode cX1_mostStill 149 = .ok (.iload 6, 2) := by decide +kernel
theorem dX1_mostStill_151 : decode cX1_mostStill 151 = .ok (.iload 7, 2) := by decide +kernel
theorem dX1_mostStill_153 : decode cX1_mostStill 153 = .ok (.invokestatic 115, 3) := by decide +kernel
theorem dX1_mostStill_156 : decode cX1_mostStill 156 = .ok (.ireturn, 1) := by decide +kernel
theorem dX2_isNumber_0 : decode cX2_isNumber 0 = .ok (.iload_n 0, 1) := by decide +kernel
theorem dX2_isNumber_1 : decode cX2_isNumber 1 = .ok (.ifCond .lt 15, 3) := by decide +kernel
theorem dX2_isNumber_4 : decode cX2_isNumber 4 = .ok (.iload_n 0, 1) := by decide +kernel
theorem dX2_isNumber_5 : decode cX2_isNumber 5 = .ok (.getstatic 54, 3) := by decide +kernel
theorem dX2_isNumber_8 : decode cX2_isNumber 8 = .ok (.arraylength, 1) := by decide +kernel
theorem dX2_isNumber_9 : decode cX2_isNumber 9 = .ok (.if_icmp .ge 7, 3) := by decide +kernel
theorem dX2_isNumber_12 : decode cX2_isNumber 12 = .ok (.iconst 1, 1) := by decide +kernel
theorem dX2_isNumber_13 : decode cX2_isNumber 13 = .ok (.goto 4, 3) := by decide +kernel
theorem dX2_isNumber_16 : decode cX2_isNumber 16 = .ok (.iconst 0, 1) := by decide +kernel
theorem dX2_isNumber_17 : decode cX2_isNumber 17 = .ok (.ireturn, 1) := by decide +kernel
theorem dX2_numbered_0 : decode cX2_numbered 0 = .ok (.iload_n 0, 1) := by decide +kernel
theorem dX2_numbered_1 : decode cX2_numbered 1 = .ok (.ifCond .lt 19, 3) := by decide +kernel
theorem dX2_numbered_4 : decode cX2_numbered 4 = .ok (.iload_n 0, 1) := by decide +kernel
theorem dX2_numbered_5 : decode cX2_numbered 5 = .ok (.getstatic 54, 3) := by decide +kernel
theorem dX2_numbered_8 : decode cX2_numbered 8 = .ok (.arraylength, 1) := by decide +kernel
theorem dX2_numbered_9 : decode cX2_numbered 9 = .ok (.if_icmp .ge 11, 3) := by decide +kernel
theorem dX2_numbered_12 : decode cX2_numbered 12 = .ok (.getstatic 54, 3) := by decide +kernel
theorem dX2_numbered_15 : decode cX2_numbered 15 = .ok (.iload_n 0, 1) := by decide +kernel
theorem dX2_numbered_16 : decode cX2_numbered 16 = .ok (.aaload, 1) := by decide +kernel
theorem dX2_numbered_17 : decode cX2_numbered 17 = .ok (.goto 6, 3) := by decide +kernel
theorem dX2_numbered_20 : decode cX2_numbered 20 = .ok (.getstatic 3, 3) := by decide +kernel
theorem dX2_numbered_23 : decode cX2_numbered 23 = .ok (.areturn, 1) := by decide +kernel
theorem dX2_isA_0 : decode cX2_isA 0 = .ok (.aload_n 0, 1) := by decide +kernel
theorem dX2_isA_1 : decode cX2_isA 1 = .ok (.aload_n 1, 1) := by decide +kernel
theorem dX2_isA_2 : decode cX2_isA 2 = .ok (.if_acmp .eq 24, 3) := by decide +kernel
theorem dX2_isA_5 : decode cX2_isA 5 = .ok (.aload_n 1, 1) := by decide +kernel
theorem dX2_isA_6 : decode cX2_isA 6 = .ok (.getstatic 3, 3) := by decide +kernel
theorem dX2_isA_9 : decode cX2_isA 9 = .ok (.if_acmp .eq 17, 3) := by decide +kernel
theorem dX2_isA_12 : decode cX2_isA 12 = .ok (.aload_n 0, 1) := by decide +kernel
theorem dX2_isA_13 : decode cX2_isA 13 = .ok (.getstatic 16, 3) := by decide +kernel
theorem dX2_isA_16 : decode cX2_isA 16 = .ok (.if_acmp .ne 14, 3) := by decide +kernel
theorem dX2_isA_19 : decode cX2_isA 19 = .ok (.aload_n 1, 1) := by decide +kernel
theorem dX2_isA_20 : decode cX2_isA 20 = .ok (.getstatic 13, 3) := by decide +kernel
theorem dX2_isA_23 : decode cX2_isA 23 = .ok (.if_acmp .ne 7, 3) := by decide +kernel
theorem dX2_isA_26 : decode cX2_isA 26 = .ok (.iconst 1, 1) := by decide +kernel
theorem dX2_isA_27 : decode cX2_isA 27 = .ok (.goto 4, 3) := by decide +kernel
theorem dX2_isA_30 : decode cX2_isA 30 = .ok (.iconst 0, 1) := by decide +kernel
theorem dX2_isA_31 : decode cX2_isA 31 = .ok (.ireturn, 1) := by decide +kernel
theorem dX2_needs_0 : decode cX2_needs 0 = .ok (.iconst 1, 1) := by decide +kernel
theorem dX2_needs_1 : decode cX2_needs 1 = .ok (.iload_n 1, 1) := by decide +kernel
theorem dX2_needs_2 : decode cX2_needs 2 = .ok (.aload_n 0, 1) := by decide +kernel
theorem dX2_needs_3 : decode cX2_needs 3 = .ok (.getfield 42, 3) := by decide +kernel
theorem dX2_needs_6 : decode cX2_needs 6 = .ok (.isub, 1) := by decide +kernel
theorem dX2_needs_7 : decode cX2_needs 7 = .ok (.invokestatic 57, 3) := by decide +kernel
theorem dX2_needs_10 : decode cX2_needs 10 = .ok (.ireturn, 1) := by decide +kernel
theorem dX2_gets_0 : decode cX2_gets 0 = .ok (.iload_n 1, 1) := by decide +kernel
theorem dX2_gets_1 : decode cX2_gets 1 = .ok (.aload_n 0, 1) := by decide +kernel
theorem dX2_gets_2 : decode cX2_gets 2 = .ok (.getfield 45, 3) := by decide +kernel
theorem dX2_gets_5 : decode cX2_gets 5 = .ok (.iadd, 1) := by decide +kernel
theorem dX2_gets_6 : decode cX2_gets 6 = .ok (.ireturn, 1) := by decide +kernel
theorem dX2_owesFor_0 : decode cX2_owesFor 0 = .ok (.iload_n 1, 1) := by decide +kernel
theorem dX2_owesFor_1 : decode cX2_owesFor 1 = .ok (.aload_n 0, 1) := by decide +kernel
theorem dX2_owesFor_2 : decode cX2_owesFor 2 = .ok (.getfield 51, 3) := by decide +kernel
theorem dX2_owesFor_5 : decode cX2_owesFor 5 = .ok (.imul, 1) := by decide +kernel
theorem dX2_owesFor_6 : decode cX2_owesFor 6 = .ok (.ireturn, 1) := by decide +kernel
theorem dX3_init_0 : decode cX3_init 0 = .ok (.aload_n 0, 1) := by decide +kernel
theorem dX3_init_1 : decode cX3_init 1 = .ok (.invokespecial 3, 3) := by decide +kernel
theorem dX3_init_4 : decode cX3_init 4 = .ok (.aload_n 0, 1) := by decide +kernel
theorem dX3_init_5 : decode cX3_init 5 = .ok (.iconst 4, 1) := by decide +kernel
theorem dX3_init_6 : decode cX3_init 6 = .ok (.newarray .int, 2) := by decide +kernel
theorem dX3_init_8 : decode cX3_init 8 = .ok (.putfield 9, 3) := by decide +kernel
theorem dX3_init_11 : decode cX3_init 11 = .ok (.aload_n 0, 1) := by decide +kernel
theorem dX3_init_12 : decode cX3_init 12 = .ok (.iconst 4, 1) := by decide +kernel
theorem dX3_init_13 : decode cX3_init 13 = .ok (.newarray .int, 2) := by decide +kernel
theorem dX3_init_15 : decode cX3_init 15 = .ok (.putfield 15, 3) := by decide +kernel
theorem dX3_init_18 : decode cX3_init 18 = .ok (.aload_n 0, 1) := by decide +kernel
theorem dX3_init_19 : decode cX3_init 19 = .ok (.iconst 4, 1) := by decide +kernel
theorem dX3_init_20 : decode cX3_init 20 = .ok (.newarray .int, 2) := by decide +kernel
theorem dX3_init_22 : decode cX3_init 22 = .ok (.putfield 18, 3) := by decide +kernel
theorem dX3_init_25 : decode cX3_init 25 = .ok (.return_, 1) := by decide +kernel
theorem dX3_copy_0 : decode cX3_copy 0 = .ok (.iconst 0, 1) := by decide +kernel
theorem dX3_copy_1 : decode cX3_copy 1 = .ok (.istore_n 2, 1) := by decide +kernel
theorem dX3_copy_2 : decode cX3_copy 2 = .ok (.iload_n 2, 1) := by decide +kernel
theorem dX3_copy_3 : decode cX3_copy 3 = .ok (.iconst 4, 1) := by decide +kernel
theorem dX3_copy_4 : decode cX3_copy 4 = .ok (.if_icmp .ge 45, 3) := by decide +kernel
theorem dX3_copy_7 : decode cX3_copy 7 = .ok (.aload_n 0, 1) := by decide +kernel
theorem dX3_copy_8 : decode cX3_copy 8 = .ok (.getfield 9, 3) := by decide +kernel
theorem dX3_copy_11 : decode cX3_copy 11 = .ok (.iload_n 2, 1) := by decide +kernel
theorem dX3_copy_12 : decode cX3_copy 12 = .ok (.aload_n 1, 1) := by decide +kernel
theorem dX3_copy_13 : decode cX3_copy 13 = .ok (.getfield 9, 3) := by decide +kernel
theorem dX3_copy_16 : decode cX3_copy 16 = .ok (.iload_n 2, 1) := by decide +kernel
theorem dX3_copy_17 : decode cX3_copy 17 = .ok (.iaload, 1) := by decide +kernel
theorem dX3_copy_18 : decode cX3_copy 18 = .ok (.iastore, 1) := by decide +kernel
theorem dX3_copy_19 : decode cX3_copy 19 = .ok (.aload_n 0, 1) := by decide +kernel
theorem dX3_copy_20 : decode cX3_copy 20 = .ok (.getfield 15, 3) := by decide +kernel
theorem dX3_copy_23 : decode cX3_copy 23 = .ok (.iload_n 2, 1) := by decide +kernel
theorem dX3_copy_24 : decode cX3_copy 24 = .ok (.aload_n 1, 1) := by decide +kernel
theorem dX3_copy_25 : decode cX3_copy 25 = .ok (.getfield 15, 3) := by decide +kernel
theorem dX3_copy_28 : decode cX3_copy 28 = .ok (.iload_n 2, 1) := by decide +kernel
theorem dX3_copy_29 : decode cX3_copy 29 = .ok (.iaload, 1) := by decide +kernel
theorem dX3_copy_30 : decode cX3_copy 30 = .ok (.iastore, 1) := by decide +kernel
theorem dX3_copy_31 : decode cX3_copy 31 = .ok (.aload_n 0, 1) := by decide +kernel
theorem dX3_copy_32 : decode cX3_copy 32 = .ok (.getfield 18, 3) := by decide +kernel
theorem dX3_copy_35 : decode cX3_copy 35 = .ok (.iload_n 2, 1) := by decide +kernel
theorem dX3_copy_36 : decode cX3_copy 36 = .ok (.aload_n 1, 1) := by decide +kernel
theorem dX3_copy_37 : decode cX3_copy 37 = .ok (.getfield 18, 3) := by decide +kernel
theorem dX3_copy_40 : decode cX3_copy 40 = .ok (.iload_n 2, 1) := by decide +kernel
theorem dX3_copy_41 : decode cX3_copy 41 = .ok (.iaload, 1) := by decide +kernel
theorem dX3_copy_42 : decode cX3_copy 42 = .ok (.iastore, 1) := by decide +kernel
theorem dX3_copy_43 : decode cX3_copy 43 = .ok (.iinc 2 1, 3) := by decide +kernel
theorem dX3_copy_46 : decode cX3_copy 46 = .ok (.goto (-44), 3) := by decide +kernel
theorem dX3_copy_49 : decode cX3_copy 49 = .ok (.aload_n 0, 1) := by decide +kernel
theorem dX3_copy_50 : decode cX3_copy 50 = .ok (.aload_n 1, 1) := by decide +kernel
theorem dX3_copy_51 : decode cX3_copy 51 = .ok (.getfield 21, 3) := by decide +kernel
theorem dX3_copy_54 : decode cX3_copy 54 = .ok (.putfield 21, 3) := by decide +kernel
theorem dX3_copy_57 : decode cX3_copy 57 = .ok (.return_, 1) := by decide +kernel
theorem dX3_termOf_0 : decode cX3_termOf 0 = .ok (.iload_n 1, 1) := by decide +kernel
theorem dX3_termOf_1 : decode cX3_termOf 1 = .ok (.invokestatic 25, 3) := by decide +kernel
theorem dX3_termOf_4 : decode cX3_termOf 4 = .ok (.ifCond .eq 12, 3) := by decide +kernel
theorem dX3_termOf_7 : decode cX3_termOf 7 = .ok (.aload_n 0, 1) := by decide +kernel
theorem dX3_termOf_8 : decode cX3_termOf 8 = .ok (.getfield 9, 3) := by decide +kernel
theorem dX3_termOf_11 : decode cX3_termOf 11 = .ok (.iload_n 1, 1) := by decide +kernel
theorem dX3_termOf_12 : decode cX3_termOf 12 = .ok (.iaload, 1) := by decide +kernel
theorem dX3_termOf_13 : decode cX3_termOf 13 = .ok (.goto 4, 3) := by decide +kernel
theorem dX3_termOf_16 : decode cX3_termOf 16 = .ok (.iconst 0, 1) := by decide +kernel
theorem dX3_termOf_17 : decode cX3_termOf 17 = .ok (.ireturn, 1) := by decide +kernel
theorem dX3_worthOf_0 : decode cX3_worthOf 0 = .ok (.iload_n 1, 1) := by decide +kernel
theorem dX3_worthOf_1 : decode cX3_worthOf 1 = .ok (.invokestatic 25, 3) := by decide +kernel
theorem dX3_worthOf_4 : decode cX3_worthOf 4 = .ok (.ifCond .eq 12, 3) := by decide +kernel
theorem dX3_worthOf_7 : decode cX3_worthOf 7 = .ok (.aload_n 0, 1) := by decide +kernel
theorem dX3_worthOf_8 : decode cX3_worthOf 8 = .ok (.getfield 15, 3) := by decide +kernel
theorem dX3_worthOf_11 : decode cX3_worthOf 11 = .ok (.iload_n 1, 1) := by decide +kernel
theorem dX3_worthOf_12 : decode cX3_worthOf 12 = .ok (.iaload, 1) := by decide +kernel
theorem dX3_worthOf_13 : decode cX3_worthOf 13 = .ok (.goto 4, 3) := by decide +kernel
theorem dX3_worthOf_16 : decode cX3_worthOf 16 = .ok (.iconst 0, 1) := by decide +kernel
theorem dX3_worthOf_17 : decode cX3_worthOf 17 = .ok (.ireturn, 1) := by decide +kernel
theorem dX3_sortsOf_0 : decode cX3_sortsOf 0 = .ok (.iload_n 1, 1) := by decide +kernel
theorem dX3_sortsOf_1 : decode cX3_sortsOf 1 = .ok (.invokestatic 25, 3) := by decide +kernel
theorem dX3_sortsOf_4 : decode cX3_sortsOf 4 = .ok (.ifCond .eq 12, 3) := by decide +kernel
theorem dX3_sortsOf_7 : decode cX3_sortsOf 7 = .ok (.aload_n 0, 1) := by decide +kernel
theorem dX3_sortsOf_8 : decode cX3_sortsOf 8 = .ok (.getfield 18, 3) := by decide +kernel
theorem dX3_sortsOf_11 : decode cX3_sortsOf 11 = .ok (.iload_n 1, 1) := by decide +kernel
theorem dX3_sortsOf_12 : decode cX3_sortsOf 12 = .ok (.iaload, 1) := by decide +kernel
theorem dX3_sortsOf_13 : decode cX3_sortsOf 13 = .ok (.goto 4, 3) := by decide +kernel
theorem dX3_sortsOf_16 : decode cX3_sortsOf 16 = .ok (.iconst 0, 1) := by decide +kernel
theorem dX3_sortsOf_17 : decode cX3_sortsOf 17 = .ok (.ireturn, 1) := by decide +kernel
theorem dX3_allTerms_0 : decode cX3_allTerms 0 = .ok (.iconst 0, 1) := by decide +kernel
theorem dX3_allTerms_1 : decode cX3_allTerms 1 = .ok (.istore_n 1, 1) := by decide +kernel
theorem dX3_allTerms_2 : decode cX3_allTerms 2 = .ok (.iconst 0, 1) := by decide +kernel
theorem dX3_allTerms_3 : decode cX3_allTerms 3 = .ok (.istore_n 2, 1) := by decide +kernel
theorem dX3_allTerms_4 : decode cX3_allTerms 4 = .ok (.iload_n 2, 1) := by decide +kernel
theorem dX3_allTerms_5 : decode cX3_allTerms 5 = .ok (.iconst 4, 1) := by decide +kernel
theorem dX3_allTerms_6 : decode cX3_allTerms 6 = .ok (.if_icmp .ge 18, 3) := by decide +kernel
theorem dX3_allTerms_9 : decode cX3_allTerms 9 = .ok (.iload_n 1, 1) := by decide +kernel
theorem dX3_allTerms_10 : decode cX3_allTerms 10 = .ok (.aload_n 0, 1) := by decide +kernel
theorem dX3_allTerms_11 : decode cX3_allTerms 11 = .ok (.getfield 9, 3) := by decide +kernel
theorem dX3_allTerms_14 : decode cX3_allTerms 14 = .ok (.iload_n 2, 1) := by decide +kernel
theorem dX3_allTerms_15 : decode cX3_allTerms 15 = .ok (.iaload, 1) := by decide +kernel
theorem dX3_allTerms_16 : decode cX3_allTerms 16 = .ok (.iadd, 1) := by decide +kernel
theorem dX3_allTerms_17 : decode cX3_allTerms 17 = .ok (.istore_n 1, 1) := by decide +kernel
theorem dX3_allTerms_18 : decode cX3_allTerms 18 = .ok (.iinc 2 1, 3) := by decide +kernel
theorem dX3_allTerms_21 : decode cX3_allTerms 21 = .ok (.goto (-17), 3) := by decide +kernel
theorem dX3_allTerms_24 : decode cX3_allTerms 24 = .ok (.iload_n 1, 1) := by decide +kernel
theorem dX3_allTerms_25 : decode cX3_allTerms 25 = .ok (.ireturn, 1) := by decide +kernel
theorem dX3_firstThatCounts_0 : decode cX3_firstThatCounts 0 = .ok (.iload_n 1, 1) := by decide +kernel
theorem dX3_firstThatCounts_1 : decode cX3_firstThatCounts 1 = .ok (.aload_n 0, 1) := by decide +kernel
theorem dX3_firstThatCounts_2 : decode cX3_firstThatCounts 2 = .ok (.getfield 21, 3) := by decide +kernel
theorem dX3_firstThatCounts_5 : decode cX3_firstThatCounts 5 = .ok (.isub, 1) := by decide +kernel
theorem dX3_firstThatCounts_6 : decode cX3_firstThatCounts 6 = .ok (.ireturn, 1) := by decide +kernel
theorem dX4_init_0 : decode cX4_init 0 = .ok (.aload_n 0, 1) := by decide +kernel
theorem dX4_init_1 : decode cX4_init 1 = .ok (.invokespecial 3, 3) := by decide +kernel
theorem dX4_init_4 : decode cX4_init 4 = .ok (.aload_n 0, 1) := by decide +kernel
theorem dX4_init_5 : decode cX4_init 5 = .ok (.iconst 5, 1) := by decide +kernel
theorem dX4_init_6 : decode cX4_init 6 = .ok (.newarray .int, 2) := by decide +kernel
theorem dX4_init_8 : decode cX4_init 8 = .ok (.putfield 9, 3) := by decide +kernel
theorem dX4_init_11 : decode cX4_init 11 = .ok (.aload_n 0, 1) := by decide +kernel
theorem dX4_init_12 : decode cX4_init 12 = .ok (.iconst 5, 1) := by decide +kernel
theorem dX4_init_13 : decode cX4_init 13 = .ok (.anewarray 15, 3) := by decide +kernel
theorem dX4_init_16 : decode cX4_init 16 = .ok (.putfield 17, 3) := by decide +kernel
theorem dX4_init_19 : decode cX4_init 19 = .ok (.iconst 0, 1) := by decide +kernel
theorem dX4_init_20 : decode cX4_init 20 = .ok (.istore_n 1, 1) := by decide +kernel
theorem dX4_init_21 : decode cX4_init 21 = .ok (.iload_n 1, 1) := by decide +kernel
theorem dX4_init_22 : decode cX4_init 22 = .ok (.iconst 5, 1) := by decide +kernel
theorem dX4_init_23 : decode cX4_init 23 = .ok (.if_icmp .ge 22, 3) := by decide +kernel
theorem dX4_init_26 : decode cX4_init 26 = .ok (.aload_n 0, 1) := by decide +kernel
theorem dX4_init_27 : decode cX4_init 27 = .ok (.getfield 17, 3) := by decide +kernel
theorem dX4_init_30 : decode cX4_init 30 = .ok (.iload_n 1, 1) := by decide +kernel
theorem dX4_init_31 : decode cX4_init 31 = .ok (.new 15, 3) := by decide +kernel
theorem dX4_init_34 : decode cX4_init 34 = .ok (.dup, 1) := by decide +kernel
theorem dX4_init_35 : decode cX4_init 35 = .ok (.invokespecial 21, 3) := by decide +kernel
theorem dX4_init_38 : decode cX4_init 38 = .ok (.aastore, 1) := by decide +kernel
theorem dX4_init_39 : decode cX4_init 39 = .ok (.iinc 1 1, 3) := by decide +kernel
theorem dX4_init_42 : decode cX4_init 42 = .ok (.goto (-21), 3) := by decide +kernel
theorem dX4_init_45 : decode cX4_init 45 = .ok (.return_, 1) := by decide +kernel
theorem dX4_close_0 : decode cX4_close 0 = .ok (.aload_n 0, 1) := by decide +kernel
theorem dX4_close_1 : decode cX4_close 1 = .ok (.iconst 0, 1) := by decide +kernel
theorem dX4_close_2 : decode cX4_close 2 = .ok (.putfield 22, 3) := by decide +kernel
theorem dX4_close_5 : decode cX4_close 5 = .ok (.aload_n 0, 1) := by decide +kernel
theorem dX4_close_6 : decode cX4_close 6 = .ok (.iconst 0, 1) := by decide +kernel
theorem dX4_close_7 : decode cX4_close 7 = .ok (.putfield 26, 3) := by decide +kernel
theorem dX4_close_10 : decode cX4_close 10 = .ok (.return_, 1) := by decide +kernel
theorem dX4_open_0 : decode cX4_open 0 = .ok (.aload_n 0, 1) := by decide +kernel
theorem dX4_open_1 : decode cX4_open 1 = .ok (.iconst 1, 1) := by decide +kernel
theorem dX4_open_2 : decode cX4_open 2 = .ok (.putfield 22, 3) := by decide +kernel
theorem dX4_open_5 : decode cX4_open 5 = .ok (.aload_n 0, 1) := by decide +kernel
theorem dX4_open_6 : decode cX4_open 6 = .ok (.iconst 0, 1) := by decide +kernel
theorem dX4_open_7 : decode cX4_open 7 = .ok (.putfield 26, 3) := by decide +kernel
theorem dX4_open_10 : decode cX4_open 10 = .ok (.aload_n 0, 1) := by decide +kernel
theorem dX4_open_11 : decode cX4_open 11 = .ok (.iload_n 2, 1) := by decide +kernel
theorem dX4_open_12 : decode cX4_open 12 = .ok (.putfield 30, 3) := by decide +kernel
theorem dX4_open_15 : decode cX4_open 15 = .ok (.aload_n 0, 1) := by decide +kernel
theorem dX4_open_16 : decode cX4_open 16 = .ok (.getfield 17, 3) := by decide +kernel
theorem dX4_open_19 : decode cX4_open 19 = .ok (.iconst 0, 1) := by decide +kernel
theorem dX4_open_20 : decode cX4_open 20 = .ok (.aaload, 1) := by decide +kernel
theorem dX4_open_21 : decode cX4_open 21 = .ok (.aload_n 1, 1) := by decide +kernel
theorem dX4_open_22 : decode cX4_open 22 = .ok (.invokevirtual 33, 3) := by decide +kernel
theorem dX4_open_25 : decode cX4_open 25 = .ok (.return_, 1) := by decide +kernel
theorem dX4_hasRoom_0 : decode cX4_hasRoom 0 = .ok (.aload_n 0, 1) := by decide +kernel
theorem dX4_hasRoom_1 : decode cX4_hasRoom 1 = .ok (.getfield 26, 3) := by decide +kernel
theorem dX4_hasRoom_4 : decode cX4_hasRoom 4 = .ok (.iconst 5, 1) := by decide +kernel
theorem dX4_hasRoom_5 : decode cX4_hasRoom 5 = .ok (.if_icmp .ge 7, 3) := by decide +kernel
theorem dX4_hasRoom_8 : decode cX4_hasRoom 8 = .ok (.iconst 1, 1) := by decide +kernel
theorem dX4_hasRoom_9 : decode cX4_hasRoom 9 = .ok (.goto 4, 3) := by decide +kernel
theorem dX4_hasRoom_12 : decode cX4_hasRoom 12 = .ok (.iconst 0, 1) := by decide +kernel
theorem dX4_hasRoom_13 : decode cX4_hasRoom 13 = .ok (.ireturn, 1) := by decide +kernel
theorem dX4_write_0 : decode cX4_write 0 = .ok (.aload_n 0, 1) := by decide +kernel
theorem dX4_write_1 : decode cX4_write 1 = .ok (.getfield 26, 3) := by decide +kernel
theorem dX4_write_4 : decode cX4_write 4 = .ok (.ifCond .lt 31, 3) := by decide +kernel
theorem dX4_write_7 : decode cX4_write 7 = .ok (.aload_n 0, 1) := by decide +kernel
theorem dX4_write_8 : decode cX4_write 8 = .ok (.getfield 26, 3) := by decide +kernel
theorem dX4_write_11 : decode cX4_write 11 = .ok (.iconst 5, 1) := by decide +kernel
theorem dX4_write_12 : decode cX4_write 12 = .ok (.if_icmp .ge 23, 3) := by decide +kernel
theorem dX4_write_15 : decode cX4_write 15 = .ok (.aload_n 0, 1) := by decide +kernel
theorem dX4_write_16 : decode cX4_write 16 = .ok (.getfield 9, 3) := by decide +kernel
theorem dX4_write_19 : decode cX4_write 19 = .ok (.aload_n 0, 1) := by decide +kernel
theorem dX4_write_20 : decode cX4_write 20 = .ok (.getfield 26, 3) := by decide +kernel
theorem dX4_write_23 : decode cX4_write 23 = .ok (.iload_n 1, 1) := by decide +kernel
theorem dX4_write_24 : decode cX4_write 24 = .ok (.iastore, 1) := by decide +kernel
theorem dX4_write_25 : decode cX4_write 25 = .ok (.aload_n 0, 1) := by decide +kernel
theorem dX4_write_26 : decode cX4_write 26 = .ok (.dup, 1) := by decide +kernel
theorem dX4_write_27 : decode cX4_write 27 = .ok (.getfield 26, 3) := by decide +kernel
theorem dX4_write_30 : decode cX4_write 30 = .ok (.iconst 1, 1) := by decide +kernel
theorem dX4_write_31 : decode cX4_write 31 = .ok (.iadd, 1) := by decide +kernel
theorem dX4_write_32 : decode cX4_write 32 = .ok (.putfield 26, 3) := by decide +kernel
theorem dX4_write_35 : decode cX4_write 35 = .ok (.return_, 1) := by decide +kernel
theorem dX4_walk_0 : decode cX4_walk 0 = .ok (.aload_n 0, 1) := by decide +kernel
theorem dX4_walk_1 : decode cX4_walk 1 = .ok (.iconst 0, 1) := by decide +kernel
theorem dX4_walk_2 : decode cX4_walk 2 = .ok (.putfield 37, 3) := by decide +kernel
theorem dX4_walk_5 : decode cX4_walk 5 = .ok (.aload_n 0, 1) := by decide +kernel
theorem dX4_walk_6 : decode cX4_walk 6 = .ok (.iconst (-1), 1) := by decide +kernel
theorem dX4_walk_7 : decode cX4_walk 7 = .ok (.putfield 40, 3) := by decide +kernel
theorem dX4_walk_10 : decode cX4_walk 10 = .ok (.aload_n 0, 1) := by decide +kernel
theorem dX4_walk_11 : decode cX4_walk 11 = .ok (.getfield 26, 3) := by decide +kernel
theorem dX4_walk_14 : decode cX4_walk 14 = .ok (.ifCond .ne 19, 3) := by decide +kernel
theorem dX4_walk_17 : decode cX4_walk 17 = .ok (.aload_n 0, 1) := by decide +kernel
theorem dX4_walk_18 : decode cX4_walk 18 = .ok (.aload_n 0, 1) := by decide +kernel
theorem dX4_walk_19 : decode cX4_walk 19 = .ok (.getfield 17, 3) := by decide +kernel
theorem dX4_walk_22 : decode cX4_walk 22 = .ok (.iconst 0, 1) := by decide +kernel
theorem dX4_walk_23 : decode cX4_walk 23 = .ok (.aaload, 1) := by decide +kernel
theorem dX4_walk_24 : decode cX4_walk 24 = .ok (.getfield 43, 3) := by decide +kernel
theorem dX4_walk_27 : decode cX4_walk 27 = .ok (.invokevirtual 46, 3) := by decide +kernel
theorem dX4_walk_30 : decode cX4_walk 30 = .ok (.goto 9, 3) := by decide +kernel
theorem dX4_walk_33 : decode cX4_walk 33 = .ok (.aload_n 0, 1) := by decide +kernel
theorem dX4_walk_34 : decode cX4_walk 34 = .ok (.iconst 0, 1) := by decide +kernel
theorem dX4_walk_35 : decode cX4_walk 35 = .ok (.aload_n 1, 1) := by decide +kernel
theorem dX4_walk_36 : decode cX4_walk 36 = .ok (.invokevirtual 50, 3) := by decide +kernel
theorem dX4_walk_39 : decode cX4_walk 39 = .ok (.return_, 1) := by decide +kernel
theorem dX4_reckon_0 : decode cX4_reckon 0 = .ok (.aload_n 0, 1) := by decide +kernel
theorem dX4_reckon_1 : decode cX4_reckon 1 = .ok (.dup, 1) := by decide +kernel
theorem dX4_reckon_2 : decode cX4_reckon 2 = .ok (.getfield 37, 3) := by decide +kernel
theorem dX4_reckon_5 : decode cX4_reckon 5 = .ok (.iconst 1, 1) := by decide +kernel
theorem dX4_reckon_6 : decode cX4_reckon 6 = .ok (.iadd, 1) := by decide +kernel
theorem dX4_reckon_7 : decode cX4_reckon 7 = .ok (.putfield 37, 3) := by decide +kernel
theorem dX4_reckon_10 : decode cX4_reckon 10 = .ok (.aload_n 0, 1) := by decide +kernel
theorem dX4_reckon_11 : decode cX4_reckon 11 = .ok (.aload_n 0, 1) := by decide +kernel
theorem dX4_reckon_12 : decode cX4_reckon 12 = .ok (.getfield 40, 3) := by decide +kernel
theorem dX4_reckon_15 : decode cX4_reckon 15 = .ok (.iload_n 1, 1) := by decide +kernel
theorem dX4_reckon_16 : decode cX4_reckon 16 = .ok (.invokestatic 54, 3) := by decide +kernel
theorem dX4_reckon_19 : decode cX4_reckon 19 = .ok (.putfield 40, 3) := by decide +kernel
theorem dX4_reckon_22 : decode cX4_reckon 22 = .ok (.return_, 1) := by decide +kernel
theorem dX4_walkFrom_0 : decode cX4_walkFrom 0 = .ok (.iload_n 1, 1) := by decide +kernel
theorem dX4_walkFrom_1 : decode cX4_walkFrom 1 = .ok (.ifCond .lt 16, 3) := by decide +kernel
theorem dX4_walkFrom_4 : decode cX4_walkFrom 4 = .ok (.iload_n 1, 1) := by decide +kernel
theorem dX4_walkFrom_5 : decode cX4_walkFrom 5 = .ok (.aload_n 0, 1) := by decide +kernel
theorem dX4_walkFrom_6 : decode cX4_walkFrom 6 = .ok (.getfield 26, 3) := by decide +kernel
theorem dX4_walkFrom_9 : decode cX4_walkFrom 9 = .ok (.if_icmp .ge 8, 3) := by decide +kernel
theorem dX4_walkFrom_12 : decode cX4_walkFrom 12 = .ok (.iload_n 1, 1) := by decide +kernel
theorem dX4_walkFrom_13 : decode cX4_walkFrom 13 = .ok (.iconst 5, 1) := by decide +kernel
theorem dX4_walkFrom_14 : decode cX4_walkFrom 14 = .ok (.if_icmp .lt 4, 3) := by decide +kernel
theorem dX4_walkFrom_17 : decode cX4_walkFrom 17 = .ok (.return_, 1) := by decide +kernel
theorem dX4_walkFrom_18 : decode cX4_walkFrom 18 = .ok (.aload_n 0, 1) := by decide +kernel
theorem dX4_walkFrom_19 : decode cX4_walkFrom 19 = .ok (.getfield 17, 3) := by decide +kernel
theorem dX4_walkFrom_22 : decode cX4_walkFrom 22 = .ok (.iload_n 1, 1) := by decide +kernel
theorem dX4_walkFrom_23 : decode cX4_walkFrom 23 = .ok (.aaload, 1) := by decide +kernel
theorem dX4_walkFrom_24 : decode cX4_walkFrom 24 = .ok (.astore_n 3, 1) := by decide +kernel
theorem dX4_walkFrom_25 : decode cX4_walkFrom 25 = .ok (.aload_n 0, 1) := by decide +kernel
theorem dX4_walkFrom_26 : decode cX4_walkFrom 26 = .ok (.getfield 9, 3) := by decide +kernel
theorem dX4_walkFrom_29 : decode cX4_walkFrom 29 = .ok (.iload_n 1, 1) := by decide +kernel
theorem dX4_walkFrom_30 : decode cX4_walkFrom 30 = .ok (.iaload, 1) := by decide +kernel
theorem dX4_walkFrom_31 : decode cX4_walkFrom 31 = .ok (.aload_n 3, 1) := by decide +kernel
theorem dX4_walkFrom_32 : decode cX4_walkFrom 32 = .ok (.getfield 60, 3) := by decide +kernel
theorem dX4_walkFrom_35 : decode cX4_walkFrom 35 = .ok (.isub, 1) := by decide +kernel
theorem dX4_walkFrom_36 : decode cX4_walkFrom 36 = .ok (.istore 4, 2) := by decide +kernel
theorem dX4_walkFrom_38 : decode cX4_walkFrom 38 = .ok (.iconst 0, 1) := by decide +kernel
theorem dX4_walkFrom_39 : decode cX4_walkFrom 39 = .ok (.istore 5, 2) := by decide +kernel
theorem dX4_walkFrom_41 : decode cX4_walkFrom 41 = .ok (.iload 5, 2) := by decide +kernel
theorem dX4_walkFrom_43 : decode cX4_walkFrom 43 = .ok (.getstatic 63, 3) := by decide +kernel
theorem dX4_walkFrom_46 : decode cX4_walkFrom 46 = .ok (.arraylength, 1) := by decide +kernel
theorem dX4_walkFrom_47 : decode cX4_walkFrom 47 = .ok (.if_icmp .gt 80, 3) := by decide +kernel
theorem dX4_walkFrom_50 : decode cX4_walkFrom 50 = .ok (.iload 5, 2) := by decide +kernel
theorem dX4_walkFrom_52 : decode cX4_walkFrom 52 = .ok (.invokestatic 66, 3) := by decide +kernel
theorem dX4_walkFrom_55 : decode cX4_walkFrom 55 = .ok (.istore 6, 2) := by decide +kernel
theorem dX4_walkFrom_57 : decode cX4_walkFrom 57 = .ok (.aload_n 3, 1) := by decide +kernel
theorem dX4_walkFrom_58 : decode cX4_walkFrom 58 = .ok (.iload 6, 2) := by decide +kernel
theorem dX4_walkFrom_60 : decode cX4_walkFrom 60 = .ok (.aload_n 2, 1) := by decide +kernel
theorem dX4_walkFrom_61 : decode cX4_walkFrom 61 = .ok (.invokevirtual 70, 3) := by decide +kernel
theorem dX4_walkFrom_64 : decode cX4_walkFrom 64 = .ok (.iload 4, 2) := by decide +kernel
theorem dX4_walkFrom_66 : decode cX4_walkFrom 66 = .ok (.if_icmp .ne 55, 3) := by decide +kernel
theorem dX4_walkFrom_69 : decode cX4_walkFrom 69 = .ok (.iload 6, 2) := by decide +kernel
theorem dX4_walkFrom_71 : decode cX4_walkFrom 71 = .ok (.bipush 9, 2) := by decide +kernel
theorem dX4_walkFrom_73 : decode cX4_walkFrom 73 = .ok (.if_icmp .eq 16, 3) := by decide +kernel
theorem dX4_walkFrom_76 : decode cX4_walkFrom 76 = .ok (.aload_n 3, 1) := by decide +kernel
theorem dX4_walkFrom_77 : decode cX4_walkFrom 77 = .ok (.iload 6, 2) := by decide +kernel
theorem dX4_walkFrom_79 : decode cX4_walkFrom 79 = .ok (.aload_n 2, 1) := by decide +kernel
theorem dX4_walkFrom_80 : decode cX4_walkFrom 80 = .ok (.invokevirtual 74, 3) := by decide +kernel
theorem dX4_walkFrom_83 : decode cX4_walkFrom 83 = .ok (.ifCond .ne 6, 3) := by decide +kernel
theorem dX4_walkFrom_86 : decode cX4_walkFrom 86 = .ok (.goto 35, 3) := by decide +kernel
theorem dX4_walkFrom_89 : decode cX4_walkFrom 89 = .ok (.iload_n 1, 1) := by decide +kernel
theorem dX4_walkFrom_90 : decode cX4_walkFrom 90 = .ok (.aload_n 0, 1) := by decide +kernel
theorem dX4_walkFrom_91 : decode cX4_walkFrom 91 = .ok (.getfield 26, 3) := by decide +kernel
theorem dX4_walkFrom_94 : decode cX4_walkFrom 94 = .ok (.iconst 1, 1) := by decide +kernel
theorem dX4_walkFrom_95 : decode cX4_walkFrom 95 = .ok (.isub, 1) := by decide +kernel
theorem dX4_walkFrom_96 : decode cX4_walkFrom 96 = .ok (.if_icmp .ne 17, 3) := by decide +kernel
theorem dX4_walkFrom_99 : decode cX4_walkFrom 99 = .ok (.aload_n 0, 1) := by decide +kernel
theorem dX4_walkFrom_100 : decode cX4_walkFrom 100 = .ok (.aload_n 3, 1) := by decide +kernel
theorem dX4_walkFrom_101 : decode cX4_walkFrom 101 = .ok (.iload 6, 2) := by decide +kernel
theorem dX4_walkFrom_103 : decode cX4_walkFrom 103 = .ok (.aload_n 2, 1) := by decide +kernel
theorem dX4_walkFrom_104 : decode cX4_walkFrom 104 = .ok (.invokevirtual 78, 3) := by decide +kernel
theorem dX4_walkFrom_107 : decode cX4_walkFrom 107 = .ok (.invokevirtual 46, 3) := by decide +kernel
theorem dX4_walkFrom_110 : decode cX4_walkFrom 110 = .ok (.goto 11, 3) := by decide +kernel
theorem dX4_walkFrom_113 : decode cX4_walkFrom 113 = .ok (.aload_n 0, 1) := by decide +kernel
theorem dX4_walkFrom_114 : decode cX4_walkFrom 114 = .ok (.iload_n 1, 1) := by decide +kernel
theorem dX4_walkFrom_115 : decode cX4_walkFrom 115 = .ok (.iload 6, 2) := by decide +kernel
theorem dX4_walkFrom_117 : decode cX4_walkFrom 117 = .ok (.aload_n 2, 1) := by decide +kernel
theorem dX4_walkFrom_118 : decode cX4_walkFrom 118 = .ok (.invokevirtual 81, 3) := by decide +kernel
theorem dX4_walkFrom_121 : decode cX4_walkFrom 121 = .ok (.iinc 5 1, 3) := by decide +kernel
theorem dX4_walkFrom_124 : decode cX4_walkFrom 124 = .ok (.goto (-83), 3) := by decide +kernel
theorem dX4_walkFrom_127 : decode cX4_walkFrom 127 = .ok (.return_, 1) := by decide +kernel
theorem dX4_goOn_0 : decode cX4_goOn 0 = .ok (.iload_n 1, 1) := by decide +kernel
theorem dX4_goOn_1 : decode cX4_goOn 1 = .ok (.ifCond .lt 8, 3) := by decide +kernel
theorem dX4_goOn_4 : decode cX4_goOn 4 = .ok (.iload_n 1, 1) := by decide +kernel
theorem dX4_goOn_5 : decode cX4_goOn 5 = .ok (.iconst 4, 1) := by decide +kernel
theorem dX4_goOn_6 : decode cX4_goOn 6 = .ok (.if_icmp .lt 4, 3) := by decide +kernel
theorem dX4_goOn_9 : decode cX4_goOn 9 = .ok (.return_, 1) := by decide +kernel
theorem dX4_goOn_10 : decode cX4_goOn 10 = .ok (.aload_n 0, 1) := by decide +kernel
theorem dX4_goOn_11 : decode cX4_goOn 11 = .ok (.getfield 17, 3) := by decide +kernel
theorem dX4_goOn_14 : decode cX4_goOn 14 = .ok (.iload_n 1, 1) := by decide +kernel
theorem dX4_goOn_15 : decode cX4_goOn 15 = .ok (.iconst 1, 1) := by decide +kernel
theorem dX4_goOn_16 : decode cX4_goOn 16 = .ok (.iadd, 1) := by decide +kernel
theorem dX4_goOn_17 : decode cX4_goOn 17 = .ok (.aaload, 1) := by decide +kernel
theorem dX4_goOn_18 : decode cX4_goOn 18 = .ok (.astore 4, 2) := by decide +kernel
theorem dX4_goOn_20 : decode cX4_goOn 20 = .ok (.aload 4, 2) := by decide +kernel
theorem dX4_goOn_22 : decode cX4_goOn 22 = .ok (.aload_n 0, 1) := by decide +kernel
theorem dX4_goOn_23 : decode cX4_goOn 23 = .ok (.getfield 17, 3) := by decide +kernel
theorem dX4_goOn_26 : decode cX4_goOn 26 = .ok (.iload_n 1, 1) := by decide +kernel
theorem dX4_goOn_27 : decode cX4_goOn 27 = .ok (.aaload, 1) := by decide +kernel
theorem dX4_goOn_28 : decode cX4_goOn 28 = .ok (.invokevirtual 33, 3) := by decide +kernel
theorem dX4_goOn_31 : decode cX4_goOn 31 = .ok (.aload 4, 2) := by decide +kernel
theorem dX4_goOn_33 : decode cX4_goOn 33 = .ok (.iload_n 2, 1) := by decide +kernel
theorem dX4_goOn_34 : decode cX4_goOn 34 = .ok (.aload_n 3, 1) := by decide +kernel
theorem dX4_goOn_35 : decode cX4_goOn 35 = .ok (.aload_n 0, 1) := by decide +kernel
theorem dX4_goOn_36 : decode cX4_goOn 36 = .ok (.getfield 30, 3) := by decide +kernel
theorem dX4_goOn_39 : decode cX4_goOn 39 = .ok (.iload_n 1, 1) := by decide +kernel
theorem dX4_goOn_40 : decode cX4_goOn 40 = .ok (.iadd, 1) := by decide +kernel
theorem dX4_goOn_41 : decode cX4_goOn 41 = .ok (.invokevirtual 85, 3) := by decide +kernel
theorem dX4_goOn_44 : decode cX4_goOn 44 = .ok (.aload 4, 2) := by decide +kernel
theorem dX4_goOn_46 : decode cX4_goOn 46 = .ok (.aload_n 0, 1) := by decide +kernel
theorem dX4_goOn_47 : decode cX4_goOn 47 = .ok (.getfield 30, 3) := by decide +kernel
theorem dX4_goOn_50 : decode cX4_goOn 50 = .ok (.iload_n 1, 1) := by decide +kernel
theorem dX4_goOn_51 : decode cX4_goOn 51 = .ok (.iadd, 1) := by decide +kernel
theorem dX4_goOn_52 : decode cX4_goOn 52 = .ok (.iconst 1, 1) := by decide +kernel
theorem dX4_goOn_53 : decode cX4_goOn 53 = .ok (.iadd, 1) := by decide +kernel
theorem dX4_goOn_54 : decode cX4_goOn 54 = .ok (.aload_n 3, 1) := by decide +kernel
theorem dX4_goOn_55 : decode cX4_goOn 55 = .ok (.invokevirtual 89, 3) := by decide +kernel
theorem dX4_goOn_58 : decode cX4_goOn 58 = .ok (.aload_n 0, 1) := by decide +kernel
theorem dX4_goOn_59 : decode cX4_goOn 59 = .ok (.iload_n 1, 1) := by decide +kernel
theorem dX4_goOn_60 : decode cX4_goOn 60 = .ok (.iconst 1, 1) := by decide +kernel
theorem dX4_goOn_61 : decode cX4_goOn 61 = .ok (.iadd, 1) := by decide +kernel
theorem dX4_goOn_62 : decode cX4_goOn 62 = .ok (.aload_n 3, 1) := by decide +kernel
theorem dX4_goOn_63 : decode cX4_goOn 63 = .ok (.invokevirtual 50, 3) := by decide +kernel
theorem dX4_goOn_66 : decode cX4_goOn 66 = .ok (.return_, 1) := by decide +kernel
theorem dX5_init_0 : decode cX5_init 0 = .ok (.aload_n 0, 1) := by decide +kernel
theorem dX5_init_1 : decode cX5_init 1 = .ok (.invokespecial 3, 3) := by decide +kernel
theorem dX5_init_4 : decode cX5_init 4 = .ok (.aload_n 0, 1) := by decide +kernel
theorem dX5_init_5 : decode cX5_init 5 = .ok (.bipush 30, 2) := by decide +kernel
theorem dX5_init_7 : decode cX5_init 7 = .ok (.newarray .int, 2) := by decide +kernel
theorem dX5_init_9 : decode cX5_init 9 = .ok (.putfield 9, 3) := by decide +kernel
theorem dX5_init_12 : decode cX5_init 12 = .ok (.aload_n 0, 1) := by decide +kernel
theorem dX5_init_13 : decode cX5_init 13 = .ok (.new 15, 3) := by decide +kernel
theorem dX5_init_16 : decode cX5_init 16 = .ok (.dup, 1) := by decide +kernel
theorem dX5_init_17 : decode cX5_init 17 = .ok (.invokespecial 17, 3) := by decide +kernel
theorem dX5_init_20 : decode cX5_init 20 = .ok (.putfield 18, 3) := by decide +kernel
theorem dX5_init_23 : decode cX5_init 23 = .ok (.return_, 1) := by decide +kernel
theorem dX5_hasRoom_0 : decode cX5_hasRoom 0 = .ok (.aload_n 0, 1) := by decide +kernel
theorem dX5_hasRoom_1 : decode cX5_hasRoom 1 = .ok (.getfield 22, 3) := by decide +kernel
theorem dX5_hasRoom_4 : decode cX5_hasRoom 4 = .ok (.aload_n 0, 1) := by decide +kernel
theorem dX5_hasRoom_5 : decode cX5_hasRoom 5 = .ok (.getfield 9, 3) := by decide +kernel
theorem dX5_hasRoom_8 : decode cX5_hasRoom 8 = .ok (.arraylength, 1) := by decide +kernel
theorem dX5_hasRoom_9 : decode cX5_hasRoom 9 = .ok (.if_icmp .ge 7, 3) := by decide +kernel
theorem dX5_hasRoom_12 : decode cX5_hasRoom 12 = .ok (.iconst 1, 1) := by decide +kernel
theorem dX5_hasRoom_13 : decode cX5_hasRoom 13 = .ok (.goto 4, 3) := by decide +kernel
theorem dX5_hasRoom_16 : decode cX5_hasRoom 16 = .ok (.iconst 0, 1) := by decide +kernel
theorem dX5_hasRoom_17 : decode cX5_hasRoom 17 = .ok (.ireturn, 1) := by decide +kernel
theorem dX5_write_0 : decode cX5_write 0 = .ok (.aload_n 0, 1) := by decide +kernel
theorem dX5_write_1 : decode cX5_write 1 = .ok (.getfield 22, 3) := by decide +kernel
theorem dX5_write_4 : decode cX5_write 4 = .ok (.ifCond .lt 35, 3) := by decide +kernel
theorem dX5_write_7 : decode cX5_write 7 = .ok (.aload_n 0, 1) := by decide +kernel
theorem dX5_write_8 : decode cX5_write 8 = .ok (.getfield 22, 3) := by decide +kernel
theorem dX5_write_11 : decode cX5_write 11 = .ok (.aload_n 0, 1) := by decide +kernel
theorem dX5_write_12 : decode cX5_write 12 = .ok (.getfield 9, 3) := by decide +kernel
theorem dX5_write_15 : decode cX5_write 15 = .ok (.arraylength, 1) := by decide +kernel
theorem dX5_write_16 : decode cX5_write 16 = .ok (.if_icmp .ge 23, 3) := by decide +kernel
theorem dX5_write_19 : decode cX5_write 19 = .ok (.aload_n 0, 1) := by decide +kernel
theorem dX5_write_20 : decode cX5_write 20 = .ok (.getfield 9, 3) := by decide +kernel
theorem dX5_write_23 : decode cX5_write 23 = .ok (.aload_n 0, 1) := by decide +kernel
theorem dX5_write_24 : decode cX5_write 24 = .ok (.getfield 22, 3) := by decide +kernel
theorem dX5_write_27 : decode cX5_write 27 = .ok (.iload_n 1, 1) := by decide +kernel
theorem dX5_write_28 : decode cX5_write 28 = .ok (.iastore, 1) := by decide +kernel
theorem dX5_write_29 : decode cX5_write 29 = .ok (.aload_n 0, 1) := by decide +kernel
theorem dX5_write_30 : decode cX5_write 30 = .ok (.dup, 1) := by decide +kernel
theorem dX5_write_31 : decode cX5_write 31 = .ok (.getfield 22, 3) := by decide +kernel
theorem dX5_write_34 : decode cX5_write 34 = .ok (.iconst 1, 1) := by decide +kernel
theorem dX5_write_35 : decode cX5_write 35 = .ok (.iadd, 1) := by decide +kernel
theorem dX5_write_36 : decode cX5_write 36 = .ok (.putfield 22, 3) := by decide +kernel
theorem dX5_write_39 : decode cX5_write 39 = .ok (.return_, 1) := by decide +kernel
theorem dX5_at_0 : decode cX5_at 0 = .ok (.iload_n 1, 1) := by decide +kernel
theorem dX5_at_1 : decode cX5_at 1 = .ok (.ifCond .lt 21, 3) := by decide +kernel
theorem dX5_at_4 : decode cX5_at 4 = .ok (.iload_n 1, 1) := by decide +kernel
theorem dX5_at_5 : decode cX5_at 5 = .ok (.aload_n 0, 1) := by decide +kernel
theorem dX5_at_6 : decode cX5_at 6 = .ok (.getfield 9, 3) := by decide +kernel
theorem dX5_at_9 : decode cX5_at 9 = .ok (.arraylength, 1) := by decide +kernel
theorem dX5_at_10 : decode cX5_at 10 = .ok (.if_icmp .ge 12, 3) := by decide +kernel
theorem dX5_at_13 : decode cX5_at 13 = .ok (.aload_n 0, 1) := by decide +kernel
theorem dX5_at_14 : decode cX5_at 14 = .ok (.getfield 9, 3) := by decide +kernel
theorem dX5_at_17 : decode cX5_at 17 = .ok (.iload_n 1, 1) := by decide +kernel
theorem dX5_at_18 : decode cX5_at 18 = .ok (.iaload, 1) := by decide +kernel
theorem dX5_at_19 : decode cX5_at 19 = .ok (.goto 4, 3) := by decide +kernel
theorem dX5_at_22 : decode cX5_at 22 = .ok (.iconst 0, 1) := by decide +kernel
theorem dX5_at_23 : decode cX5_at 23 = .ok (.ireturn, 1) := by decide +kernel
theorem dX5_firstFault_0 : decode cX5_firstFault 0 = .ok (.aload_n 0, 1) := by decide +kernel
theorem dX5_firstFault_1 : decode cX5_firstFault 1 = .ok (.iconst 0, 1) := by decide +kernel
theorem dX5_firstFault_2 : decode cX5_firstFault 2 = .ok (.putfield 26, 3) := by decide +kernel
theorem dX5_firstFault_5 : decode cX5_firstFault 5 = .ok (.aload_n 0, 1) := by decide +kernel
theorem dX5_firstFault_6 : decode cX5_firstFault 6 = .ok (.iconst 0, 1) := by decide +kernel
theorem dX5_firstFault_7 : decode cX5_firstFault 7 = .ok (.putfield 29, 3) := by decide +kernel
theorem dX5_firstFault_10 : decode cX5_firstFault 10 = .ok (.iconst 0, 1) := by decide +kernel
theorem dX5_firstFault_11 : decode cX5_firstFault 11 = .ok (.istore_n 1, 1) := by decide +kernel
theorem dX5_firstFault_12 : decode cX5_firstFault 12 = .ok (.iload_n 1, 1) := by decide +kernel
theorem dX5_firstFault_13 : decode cX5_firstFault 13 = .ok (.aload_n 0, 1) := by decide +kernel
theorem dX5_firstFault_14 : decode cX5_firstFault 14 = .ok (.getfield 22, 3) := by decide +kernel
theorem dX5_firstFault_17 : decode cX5_firstFault 17 = .ok (.if_icmp .ge 23, 3) := by decide +kernel
theorem dX5_firstFault_20 : decode cX5_firstFault 20 = .ok (.aload_n 0, 1) := by decide +kernel
theorem dX5_firstFault_21 : decode cX5_firstFault 21 = .ok (.aload_n 0, 1) := by decide +kernel
theorem dX5_firstFault_22 : decode cX5_firstFault 22 = .ok (.iload_n 1, 1) := by decide +kernel
theorem dX5_firstFault_23 : decode cX5_firstFault 23 = .ok (.invokevirtual 32, 3) := by decide +kernel
theorem dX5_firstFault_26 : decode cX5_firstFault 26 = .ok (.invokevirtual 36, 3) := by decide +kernel
theorem dX5_firstFault_29 : decode cX5_firstFault 29 = .ok (.ifCond .ne 5, 3) := by decide +kernel
theorem dX5_firstFault_32 : decode cX5_firstFault 32 = .ok (.iload_n 1, 1) := by decide +kernel
theorem dX5_firstFault_33 : decode cX5_firstFault 33 = .ok (.ireturn, 1) := by decide +kernel
theorem dX5_firstFault_34 : decode cX5_firstFault 34 = .ok (.iinc 1 1, 3) := by decide +kernel
theorem dX5_firstFault_37 : decode cX5_firstFault 37 = .ok (.goto (-25), 3) := by decide +kernel
theorem dX5_firstFault_40 : decode cX5_firstFault 40 = .ok (.aload_n 0, 1) := by decide +kernel
theorem dX5_firstFault_41 : decode cX5_firstFault 41 = .ok (.getfield 22, 3) := by decide +kernel
theorem dX5_firstFault_44 : decode cX5_firstFault 44 = .ok (.ireturn, 1) := by decide +kernel
theorem dX5_isLaw_0 : decode cX5_isLaw 0 = .ok (.aload_n 0, 1) := by decide +kernel
theorem dX5_isLaw_1 : decode cX5_isLaw 1 = .ok (.invokevirtual 40, 3) := by decide +kernel
theorem dX5_isLaw_4 : decode cX5_isLaw 4 = .ok (.aload_n 0, 1) := by decide +kernel
theorem dX5_isLaw_5 : decode cX5_isLaw 5 = .ok (.getfield 22, 3) := by decide +kernel
theorem dX5_isLaw_8 : decode cX5_isLaw 8 = .ok (.if_icmp .ne 16, 3) := by decide +kernel
theorem dX5_isLaw_11 : decode cX5_isLaw 11 = .ok (.aload_n 0, 1) := by decide +kernel
theorem dX5_isLaw_12 : decode cX5_isLaw 12 = .ok (.getfield 26, 3) := by decide +kernel
theorem dX5_isLaw_15 : decode cX5_isLaw 15 = .ok (.bipush 6, 2) := by decide +kernel
theorem dX5_isLaw_17 : decode cX5_isLaw 17 = .ok (.if_icmp .ne 7, 3) := by decide +kernel
theorem dX5_isLaw_20 : decode cX5_isLaw 20 = .ok (.iconst 1, 1) := by decide +kernel
theorem dX5_isLaw_21 : decode cX5_isLaw 21 = .ok (.goto 4, 3) := by decide +kernel
theorem dX5_isLaw_24 : decode cX5_isLaw 24 = .ok (.iconst 0, 1) := by decide +kernel
theorem dX5_isLaw_25 : decode cX5_isLaw 25 = .ok (.ireturn, 1) := by decide +kernel
theorem dX5_takes_0 : decode cX5_takes 0 = .ok (.iload_n 1, 1) := by decide +kernel
theorem dX5_takes_1 : decode cX5_takes 1 = .ok (.bipush 48, 2) := by decide +kernel
theorem dX5_takes_3 : decode cX5_takes 3 = .ok (.isub, 1) := by decide +kernel
theorem dX5_takes_4 : decode cX5_takes 4 = .ok (.istore_n 2, 1) := by decide +kernel
theorem dX5_takes_5 : decode cX5_takes 5 = .ok (.aload_n 0, 1) := by decide +kernel
theorem dX5_takes_6 : decode cX5_takes 6 = .ok (.getfield 26, 3) := by decide +kernel
theorem dX5_takes_9 : decode cX5_takes 9 = .ok (.tableswitch 91 0 5 #[39, 45, 51, 57, 63, 85], 39) := by decide +kernel
theorem dX5_takes_48 : decode cX5_takes 48 = .ok (.aload_n 0, 1) := by decide +kernel
theorem dX5_takes_49 : decode cX5_takes 49 = .ok (.iload_n 2, 1) := by decide +kernel
theorem dX5_takes_50 : decode cX5_takes 50 = .ok (.invokevirtual 44, 3) := by decide +kernel
theorem dX5_takes_53 : decode cX5_takes 53 = .ok (.ireturn, 1) := by decide +kernel
theorem dX5_takes_54 : decode cX5_takes 54 = .ok (.aload_n 0, 1) := by decide +kernel
theorem dX5_takes_55 : decode cX5_takes 55 = .ok (.iload_n 2, 1) := by decide +kernel
theorem dX5_takes_56 : decode cX5_takes 56 = .ok (.invokevirtual 47, 3) := by decide +kernel
theorem dX5_takes_59 : decode cX5_takes 59 = .ok (.ireturn, 1) := by decide +kernel
theorem dX5_takes_60 : decode cX5_takes 60 = .ok (.aload_n 0, 1) := by decide +kernel
theorem dX5_takes_61 : decode cX5_takes 61 = .ok (.iload_n 1, 1) := by decide +kernel
theorem dX5_takes_62 : decode cX5_takes 62 = .ok (.invokevirtual 50, 3) := by decide +kernel
theorem dX5_takes_65 : decode cX5_takes 65 = .ok (.ireturn, 1) := by decide +kernel
theorem dX5_takes_66 : decode cX5_takes 66 = .ok (.aload_n 0, 1) := by decide +kernel
theorem dX5_takes_67 : decode cX5_takes 67 = .ok (.iload_n 2, 1) := by decide +kernel
theorem dX5_takes_68 : decode cX5_takes 68 = .ok (.invokevirtual 53, 3) := by decide +kernel
theorem dX5_takes_71 : decode cX5_takes 71 = .ok (.ireturn, 1) := by decide +kernel
theorem dX5_takes_72 : decode cX5_takes 72 = .ok (.aload_n 0, 1) := by decide +kernel
theorem dX5_takes_73 : decode cX5_takes 73 = .ok (.iload_n 2, 1) := by decide +kernel
theorem dX5_takes_74 : decode cX5_takes 74 = .ok (.invokevirtual 53, 3) := by decide +kernel
theorem dX5_takes_77 : decode cX5_takes 77 = .ok (.ifCond .ne 11, 3) := by decide +kernel
theorem dX5_takes_80 : decode cX5_takes 80 = .ok (.aload_n 0, 1) := by decide +kernel
theorem dX5_takes_81 : decode cX5_takes 81 = .ok (.iload_n 1, 1) := by decide +kernel
theorem dX5_takes_82 : decode cX5_takes 82 = .ok (.invokevirtual 56, 3) := by decide +kernel
theorem dX5_takes_85 : decode cX5_takes 85 = .ok (.ifCond .eq 7, 3) := by decide +kernel
theorem dX5_takes_88 : decode cX5_takes 88 = .ok (.iconst 1, 1) := by decide +kernel
theorem dX5_takes_89 : decode cX5_takes 89 = .ok (.goto 4, 3) := by decide +kernel
theorem dX5_takes_92 : decode cX5_takes 92 = .ok (.iconst 0, 1) := by decide +kernel
theorem dX5_takes_93 : decode cX5_takes 93 = .ok (.ireturn, 1) := by decide +kernel
theorem dX5_takes_94 : decode cX5_takes 94 = .ok (.aload_n 0, 1) := by decide +kernel
theorem dX5_takes_95 : decode cX5_takes 95 = .ok (.iload_n 2, 1) := by decide +kernel
theorem dX5_takes_96 : decode cX5_takes 96 = .ok (.invokevirtual 59, 3) := by decide +kernel
theorem dX5_takes_99 : decode cX5_takes 99 = .ok (.ireturn, 1) := by decide +kernel
theorem dX5_takes_100 : decode cX5_takes 100 = .ok (.iconst 0, 1) := by decide +kernel
theorem dX5_takes_101 : decode cX5_takes 101 = .ok (.ireturn, 1) := by decide +kernel
theorem dX5_takesTerm_0 : decode cX5_takesTerm 0 = .ok (.iload_n 1, 1) := by decide +kernel
theorem dX5_takesTerm_1 : decode cX5_takesTerm 1 = .ok (.iconst 1, 1) := by decide +kernel
theorem dX5_takesTerm_2 : decode cX5_takesTerm 2 = .ok (.if_icmp .lt 19, 3) := by decide +kernel
theorem dX5_takesTerm_5 : decode cX5_takesTerm 5 = .ok (.iload_n 1, 1) := by decide +kernel
theorem dX5_takesTerm_6 : decode cX5_takesTerm 6 = .ok (.bipush 9, 2) := by decide +kernel
theorem dX5_takesTerm_8 : decode cX5_takesTerm 8 = .ok (.if_icmp .gt 13, 3) := by decide +kernel
theorem dX5_takesTerm_11 : decode cX5_takesTerm 11 = .ok (.aload_n 0, 1) := by decide +kernel
theorem dX5_takesTerm_12 : decode cX5_takesTerm 12 = .ok (.getfield 29, 3) := by decide +kernel
theorem dX5_takesTerm_15 : decode cX5_takesTerm 15 = .ok (.invokestatic 62, 3) := by decide +kernel
theorem dX5_takesTerm_18 : decode cX5_takesTerm 18 = .ok (.ifCond .ne 5, 3) := by decide +kernel
theorem dX5_takesTerm_21 : decode cX5_takesTerm 21 = .ok (.iconst 0, 1) := by decide +kernel
theorem dX5_takesTerm_22 : decode cX5_takesTerm 22 = .ok (.ireturn, 1) := by decide +kernel
theorem dX5_takesTerm_23 : decode cX5_takesTerm 23 = .ok (.aload_n 0, 1) := by decide +kernel
theorem dX5_takesTerm_24 : decode cX5_takesTerm 24 = .ok (.getfield 18, 3) := by decide +kernel
theorem dX5_takesTerm_27 : decode cX5_takesTerm 27 = .ok (.getfield 65, 3) := by decide +kernel
theorem dX5_takesTerm_30 : decode cX5_takesTerm 30 = .ok (.aload_n 0, 1) := by decide +kernel
theorem dX5_takesTerm_31 : decode cX5_takesTerm 31 = .ok (.getfield 29, 3) := by decide +kernel
theorem dX5_takesTerm_34 : decode cX5_takesTerm 34 = .ok (.iload_n 1, 1) := by decide +kernel
theorem dX5_takesTerm_35 : decode cX5_takesTerm 35 = .ok (.iastore, 1) := by decide +kernel
theorem dX5_takesTerm_36 : decode cX5_takesTerm 36 = .ok (.aload_n 0, 1) := by decide +kernel
theorem dX5_takesTerm_37 : decode cX5_takesTerm 37 = .ok (.getfield 18, 3) := by decide +kernel
theorem dX5_takesTerm_40 : decode cX5_takesTerm 40 = .ok (.getfield 68, 3) := by decide +kernel
theorem dX5_takesTerm_43 : decode cX5_takesTerm 43 = .ok (.aload_n 0, 1) := by decide +kernel
theorem dX5_takesTerm_44 : decode cX5_takesTerm 44 = .ok (.getfield 29, 3) := by decide +kernel
theorem dX5_takesTerm_47 : decode cX5_takesTerm 47 = .ok (.iconst 0, 1) := by decide +kernel
theorem dX5_takesTerm_48 : decode cX5_takesTerm 48 = .ok (.iastore, 1) := by decide +kernel
theorem dX5_takesTerm_49 : decode cX5_takesTerm 49 = .ok (.aload_n 0, 1) := by decide +kernel
theorem dX5_takesTerm_50 : decode cX5_takesTerm 50 = .ok (.iconst 1, 1) := by decide +kernel
theorem dX5_takesTerm_51 : decode cX5_takesTerm 51 = .ok (.putfield 26, 3) := by decide +kernel
theorem dX5_takesTerm_54 : decode cX5_takesTerm 54 = .ok (.iconst 1, 1) := by decide +kernel
theorem dX5_takesTerm_55 : decode cX5_takesTerm 55 = .ok (.ireturn, 1) := by decide +kernel
theorem dX5_takesWorth_0 : decode cX5_takesWorth 0 = .ok (.iload_n 1, 1) := by decide +kernel
theorem dX5_takesWorth_1 : decode cX5_takesWorth 1 = .ok (.ifCond .lt 19, 3) := by decide +kernel
theorem dX5_takesWorth_4 : decode cX5_takesWorth 4 = .ok (.iload_n 1, 1) := by decide +kernel
theorem dX5_takesWorth_5 : decode cX5_takesWorth 5 = .ok (.bipush 9, 2) := by decide +kernel
theorem dX5_takesWorth_7 : decode cX5_takesWorth 7 = .ok (.if_icmp .gt 13, 3) := by decide +kernel
theorem dX5_takesWorth_10 : decode cX5_takesWorth 10 = .ok (.aload_n 0, 1) := by decide +kernel
theorem dX5_takesWorth_11 : decode cX5_takesWorth 11 = .ok (.getfield 29, 3) := by decide +kernel
theorem dX5_takesWorth_14 : decode cX5_takesWorth 14 = .ok (.invokestatic 62, 3) := by decide +kernel
theorem dX5_takesWorth_17 : decode cX5_takesWorth 17 = .ok (.ifCond .ne 5, 3) := by decide +kernel
theorem dX5_takesWorth_20 : decode cX5_takesWorth 20 = .ok (.iconst 0, 1) := by decide +kernel
theorem dX5_takesWorth_21 : decode cX5_takesWorth 21 = .ok (.ireturn, 1) := by decide +kernel
theorem dX5_takesWorth_22 : decode cX5_takesWorth 22 = .ok (.aload_n 0, 1) := by decide +kernel
theorem dX5_takesWorth_23 : decode cX5_takesWorth 23 = .ok (.getfield 18, 3) := by decide +kernel
theorem dX5_takesWorth_26 : decode cX5_takesWorth 26 = .ok (.getfield 71, 3) := by decide +kernel
theorem dX5_takesWorth_29 : decode cX5_takesWorth 29 = .ok (.aload_n 0, 1) := by decide +kernel
theorem dX5_takesWorth_30 : decode cX5_takesWorth 30 = .ok (.getfield 29, 3) := by decide +kernel
theorem dX5_takesWorth_33 : decode cX5_takesWorth 33 = .ok (.iload_n 1, 1) := by decide +kernel
theorem dX5_takesWorth_34 : decode cX5_takesWorth 34 = .ok (.iastore, 1) := by decide +kernel
theorem dX5_takesWorth_35 : decode cX5_takesWorth 35 = .ok (.aload_n 0, 1) := by decide +kernel
end
section
theorem dX5_takesWorth_36 : decode cX5_takesWorth 36 = .ok (.iconst 2, 1) := by decide +kernel
theorem dX5_takesWorth_37 : decode cX5_takesWorth 37 = .ok (.putfield 26, 3) := by decide +kernel
theorem dX5_takesWorth_40 : decode cX5_takesWorth 40 = .ok (.iconst 1, 1) := by decide +kernel
theorem dX5_takesWorth_41 : decode cX5_takesWorth 41 = .ok (.ireturn, 1) := by decide +kernel
theorem dX5_takesColon_0 : decode cX5_takesColon 0 = .ok (.iload_n 1, 1) := by decide +kernel
theorem dX5_takesColon_1 : decode cX5_takesColon 1 = .ok (.bipush 58, 2) := by decide +kernel
theorem dX5_takesColon_3 : decode cX5_takesColon 3 = .ok (.if_icmp .eq 5, 3) := by decide +kernel
theorem dX5_takesColon_6 : decode cX5_takesColon 6 = .ok (.iconst 0, 1) := by decide +kernel
theorem dX5_takesColon_7 : decode cX5_takesColon 7 = .ok (.ireturn, 1) := by decide +kernel
theorem dX5_takesColon_8 : decode cX5_takesColon 8 = .ok (.aload_n 0, 1) := by decide +kernel
theorem dX5_takesColon_9 : decode cX5_takesColon 9 = .ok (.iconst 3, 1) := by decide +kernel
theorem dX5_takesColon_10 : decode cX5_takesColon 10 = .ok (.putfield 26, 3) := by decide +kernel
theorem dX5_takesColon_13 : decode cX5_takesColon 13 = .ok (.iconst 1, 1) := by decide +kernel
theorem dX5_takesColon_14 : decode cX5_takesColon 14 = .ok (.ireturn, 1) := by decide +kernel
theorem dX5_takesSort_0 : decode cX5_takesSort 0 = .ok (.iload_n 1, 1) := by decide +kernel
theorem dX5_takesSort_1 : decode cX5_takesSort 1 = .ok (.ifCond .lt 37, 3) := by decide +kernel
theorem dX5_takesSort_4 : decode cX5_takesSort 4 = .ok (.iload_n 1, 1) := by decide +kernel
theorem dX5_takesSort_5 : decode cX5_takesSort 5 = .ok (.iconst 3, 1) := by decide +kernel
theorem dX5_takesSort_6 : decode cX5_takesSort 6 = .ok (.if_icmp .ge 32, 3) := by decide +kernel
theorem dX5_takesSort_9 : decode cX5_takesSort 9 = .ok (.aload_n 0, 1) := by decide +kernel
theorem dX5_takesSort_10 : decode cX5_takesSort 10 = .ok (.getfield 29, 3) := by decide +kernel
theorem dX5_takesSort_13 : decode cX5_takesSort 13 = .ok (.invokestatic 62, 3) := by decide +kernel
theorem dX5_takesSort_16 : decode cX5_takesSort 16 = .ok (.ifCond .eq 22, 3) := by decide +kernel
theorem dX5_takesSort_19 : decode cX5_takesSort 19 = .ok (.aload_n 0, 1) := by decide +kernel
theorem dX5_takesSort_20 : decode cX5_takesSort 20 = .ok (.getfield 18, 3) := by decide +kernel
theorem dX5_takesSort_23 : decode cX5_takesSort 23 = .ok (.getfield 68, 3) := by decide +kernel
theorem dX5_takesSort_26 : decode cX5_takesSort 26 = .ok (.aload_n 0, 1) := by decide +kernel
theorem dX5_takesSort_27 : decode cX5_takesSort 27 = .ok (.getfield 29, 3) := by decide +kernel
theorem dX5_takesSort_30 : decode cX5_takesSort 30 = .ok (.iaload, 1) := by decide +kernel
theorem dX5_takesSort_31 : decode cX5_takesSort 31 = .ok (.iconst 1, 1) := by decide +kernel
theorem dX5_takesSort_32 : decode cX5_takesSort 32 = .ok (.iload_n 1, 1) := by decide +kernel
theorem dX5_takesSort_33 : decode cX5_takesSort 33 = .ok (.ishl, 1) := by decide +kernel
theorem dX5_takesSort_34 : decode cX5_takesSort 34 = .ok (.iand, 1) := by decide +kernel
theorem dX5_takesSort_35 : decode cX5_takesSort 35 = .ok (.ifCond .eq 5, 3) := by decide +kernel
theorem dX5_takesSort_38 : decode cX5_takesSort 38 = .ok (.iconst 0, 1) := by decide +kernel
theorem dX5_takesSort_39 : decode cX5_takesSort 39 = .ok (.ireturn, 1) := by decide +kernel
theorem dX5_takesSort_40 : decode cX5_takesSort 40 = .ok (.aload_n 0, 1) := by decide +kernel
theorem dX5_takesSort_41 : decode cX5_takesSort 41 = .ok (.getfield 18, 3) := by decide +kernel
theorem dX5_takesSort_44 : decode cX5_takesSort 44 = .ok (.getfield 68, 3) := by decide +kernel
theorem dX5_takesSort_47 : decode cX5_takesSort 47 = .ok (.aload_n 0, 1) := by decide +kernel
theorem dX5_takesSort_48 : decode cX5_takesSort 48 = .ok (.getfield 29, 3) := by decide +kernel
theorem dX5_takesSort_51 : decode cX5_takesSort 51 = .ok (.dup2, 1) := by decide +kernel
theorem dX5_takesSort_52 : decode cX5_takesSort 52 = .ok (.iaload, 1) := by decide +kernel
theorem dX5_takesSort_53 : decode cX5_takesSort 53 = .ok (.iconst 1, 1) := by decide +kernel
theorem dX5_takesSort_54 : decode cX5_takesSort 54 = .ok (.iload_n 1, 1) := by decide +kernel
theorem dX5_takesSort_55 : decode cX5_takesSort 55 = .ok (.ishl, 1) := by decide +kernel
theorem dX5_takesSort_56 : decode cX5_takesSort 56 = .ok (.ior, 1) := by decide +kernel
theorem dX5_takesSort_57 : decode cX5_takesSort 57 = .ok (.iastore, 1) := by decide +kernel
theorem dX5_takesSort_58 : decode cX5_takesSort 58 = .ok (.aload_n 0, 1) := by decide +kernel
theorem dX5_takesSort_59 : decode cX5_takesSort 59 = .ok (.iconst 4, 1) := by decide +kernel
theorem dX5_takesSort_60 : decode cX5_takesSort 60 = .ok (.putfield 26, 3) := by decide +kernel
theorem dX5_takesSort_63 : decode cX5_takesSort 63 = .ok (.iconst 1, 1) := by decide +kernel
theorem dX5_takesSort_64 : decode cX5_takesSort 64 = .ok (.ireturn, 1) := by decide +kernel
theorem dX5_takesEndOfDeed_0 : decode cX5_takesEndOfDeed 0 = .ok (.aload_n 0, 1) := by decide +kernel
theorem dX5_takesEndOfDeed_1 : decode cX5_takesEndOfDeed 1 = .ok (.getfield 29, 3) := by decide +kernel
theorem dX5_takesEndOfDeed_4 : decode cX5_takesEndOfDeed 4 = .ok (.iconst 3, 1) := by decide +kernel
theorem dX5_takesEndOfDeed_5 : decode cX5_takesEndOfDeed 5 = .ok (.if_icmp .ne 7, 3) := by decide +kernel
theorem dX5_takesEndOfDeed_8 : decode cX5_takesEndOfDeed 8 = .ok (.iconst 1, 1) := by decide +kernel
theorem dX5_takesEndOfDeed_9 : decode cX5_takesEndOfDeed 9 = .ok (.goto 4, 3) := by decide +kernel
theorem dX5_takesEndOfDeed_12 : decode cX5_takesEndOfDeed 12 = .ok (.iconst 0, 1) := by decide +kernel
theorem dX5_takesEndOfDeed_13 : decode cX5_takesEndOfDeed 13 = .ok (.istore_n 2, 1) := by decide +kernel
theorem dX5_takesEndOfDeed_14 : decode cX5_takesEndOfDeed 14 = .ok (.iload_n 1, 1) := by decide +kernel
theorem dX5_takesEndOfDeed_15 : decode cX5_takesEndOfDeed 15 = .ok (.iload_n 2, 1) := by decide +kernel
theorem dX5_takesEndOfDeed_16 : decode cX5_takesEndOfDeed 16 = .ok (.ifCond .eq 8, 3) := by decide +kernel
theorem dX5_takesEndOfDeed_19 : decode cX5_takesEndOfDeed 19 = .ok (.bipush 59, 2) := by decide +kernel
theorem dX5_takesEndOfDeed_21 : decode cX5_takesEndOfDeed 21 = .ok (.goto 5, 3) := by decide +kernel
theorem dX5_takesEndOfDeed_24 : decode cX5_takesEndOfDeed 24 = .ok (.bipush 47, 2) := by decide +kernel
theorem dX5_takesEndOfDeed_26 : decode cX5_takesEndOfDeed 26 = .ok (.if_icmp .eq 5, 3) := by decide +kernel
theorem dX5_takesEndOfDeed_29 : decode cX5_takesEndOfDeed 29 = .ok (.iconst 0, 1) := by decide +kernel
theorem dX5_takesEndOfDeed_30 : decode cX5_takesEndOfDeed 30 = .ok (.ireturn, 1) := by decide +kernel
theorem dX5_takesEndOfDeed_31 : decode cX5_takesEndOfDeed 31 = .ok (.aload_n 0, 1) := by decide +kernel
theorem dX5_takesEndOfDeed_32 : decode cX5_takesEndOfDeed 32 = .ok (.iload_n 2, 1) := by decide +kernel
theorem dX5_takesEndOfDeed_33 : decode cX5_takesEndOfDeed 33 = .ok (.ifCond .eq 7, 3) := by decide +kernel
theorem dX5_takesEndOfDeed_36 : decode cX5_takesEndOfDeed 36 = .ok (.iconst 5, 1) := by decide +kernel
theorem dX5_takesEndOfDeed_37 : decode cX5_takesEndOfDeed 37 = .ok (.goto 4, 3) := by decide +kernel
theorem dX5_takesEndOfDeed_40 : decode cX5_takesEndOfDeed 40 = .ok (.iconst 0, 1) := by decide +kernel
theorem dX5_takesEndOfDeed_41 : decode cX5_takesEndOfDeed 41 = .ok (.putfield 26, 3) := by decide +kernel
theorem dX5_takesEndOfDeed_44 : decode cX5_takesEndOfDeed 44 = .ok (.aload_n 0, 1) := by decide +kernel
theorem dX5_takesEndOfDeed_45 : decode cX5_takesEndOfDeed 45 = .ok (.iload_n 2, 1) := by decide +kernel
theorem dX5_takesEndOfDeed_46 : decode cX5_takesEndOfDeed 46 = .ok (.ifCond .eq 10, 3) := by decide +kernel
theorem dX5_takesEndOfDeed_49 : decode cX5_takesEndOfDeed 49 = .ok (.aload_n 0, 1) := by decide +kernel
theorem dX5_takesEndOfDeed_50 : decode cX5_takesEndOfDeed 50 = .ok (.getfield 29, 3) := by decide +kernel
theorem dX5_takesEndOfDeed_53 : decode cX5_takesEndOfDeed 53 = .ok (.goto 9, 3) := by decide +kernel
theorem dX5_takesEndOfDeed_56 : decode cX5_takesEndOfDeed 56 = .ok (.aload_n 0, 1) := by decide +kernel
theorem dX5_takesEndOfDeed_57 : decode cX5_takesEndOfDeed 57 = .ok (.getfield 29, 3) := by decide +kernel
theorem dX5_takesEndOfDeed_60 : decode cX5_takesEndOfDeed 60 = .ok (.iconst 1, 1) := by decide +kernel
theorem dX5_takesEndOfDeed_61 : decode cX5_takesEndOfDeed 61 = .ok (.iadd, 1) := by decide +kernel
theorem dX5_takesEndOfDeed_62 : decode cX5_takesEndOfDeed 62 = .ok (.putfield 29, 3) := by decide +kernel
theorem dX5_takesEndOfDeed_65 : decode cX5_takesEndOfDeed 65 = .ok (.iconst 1, 1) := by decide +kernel
theorem dX5_takesEndOfDeed_66 : decode cX5_takesEndOfDeed 66 = .ok (.ireturn, 1) := by decide +kernel
theorem dX5_takesLapse_0 : decode cX5_takesLapse 0 = .ok (.iload_n 1, 1) := by decide +kernel
theorem dX5_takesLapse_1 : decode cX5_takesLapse 1 = .ok (.iconst 1, 1) := by decide +kernel
theorem dX5_takesLapse_2 : decode cX5_takesLapse 2 = .ok (.if_icmp .lt 9, 3) := by decide +kernel
theorem dX5_takesLapse_5 : decode cX5_takesLapse 5 = .ok (.iload_n 1, 1) := by decide +kernel
theorem dX5_takesLapse_6 : decode cX5_takesLapse 6 = .ok (.bipush 9, 2) := by decide +kernel
theorem dX5_takesLapse_8 : decode cX5_takesLapse 8 = .ok (.if_icmp .le 5, 3) := by decide +kernel
theorem dX5_takesLapse_11 : decode cX5_takesLapse 11 = .ok (.iconst 0, 1) := by decide +kernel
theorem dX5_takesLapse_12 : decode cX5_takesLapse 12 = .ok (.ireturn, 1) := by decide +kernel
theorem dX5_takesLapse_13 : decode cX5_takesLapse 13 = .ok (.aload_n 0, 1) := by decide +kernel
theorem dX5_takesLapse_14 : decode cX5_takesLapse 14 = .ok (.getfield 18, 3) := by decide +kernel
theorem dX5_takesLapse_17 : decode cX5_takesLapse 17 = .ok (.iload_n 1, 1) := by decide +kernel
theorem dX5_takesLapse_18 : decode cX5_takesLapse 18 = .ok (.putfield 74, 3) := by decide +kernel
theorem dX5_takesLapse_21 : decode cX5_takesLapse 21 = .ok (.aload_n 0, 1) := by decide +kernel
theorem dX5_takesLapse_22 : decode cX5_takesLapse 22 = .ok (.bipush 6, 2) := by decide +kernel
theorem dX5_takesLapse_24 : decode cX5_takesLapse 24 = .ok (.putfield 26, 3) := by decide +kernel
theorem dX5_takesLapse_27 : decode cX5_takesLapse 27 = .ok (.iconst 1, 1) := by decide +kernel
theorem dX5_takesLapse_28 : decode cX5_takesLapse 28 = .ok (.ireturn, 1) := by decide +kernel
theorem dX6_init_0 : decode cX6_init 0 = .ok (.aload_n 0, 1) := by decide +kernel
theorem dX6_init_1 : decode cX6_init 1 = .ok (.invokespecial 3, 3) := by decide +kernel
theorem dX6_init_4 : decode cX6_init 4 = .ok (.aload_n 0, 1) := by decide +kernel
theorem dX6_init_5 : decode cX6_init 5 = .ok (.new 9, 3) := by decide +kernel
theorem dX6_init_8 : decode cX6_init 8 = .ok (.dup, 1) := by decide +kernel
theorem dX6_init_9 : decode cX6_init 9 = .ok (.invokespecial 11, 3) := by decide +kernel
theorem dX6_init_12 : decode cX6_init 12 = .ok (.putfield 12, 3) := by decide +kernel
theorem dX6_init_15 : decode cX6_init 15 = .ok (.aload_n 0, 1) := by decide +kernel
theorem dX6_init_16 : decode cX6_init 16 = .ok (.getstatic 18, 3) := by decide +kernel
theorem dX6_init_19 : decode cX6_init 19 = .ok (.putfield 24, 3) := by decide +kernel
theorem dX6_init_22 : decode cX6_init 22 = .ok (.return_, 1) := by decide +kernel
theorem dX6_begin_0 : decode cX6_begin 0 = .ok (.aload_n 0, 1) := by decide +kernel
theorem dX6_begin_1 : decode cX6_begin 1 = .ok (.aload_n 1, 1) := by decide +kernel
theorem dX6_begin_2 : decode cX6_begin 2 = .ok (.putfield 24, 3) := by decide +kernel
theorem dX6_begin_5 : decode cX6_begin 5 = .ok (.aload_n 0, 1) := by decide +kernel
theorem dX6_begin_6 : decode cX6_begin 6 = .ok (.iconst 0, 1) := by decide +kernel
theorem dX6_begin_7 : decode cX6_begin 7 = .ok (.putfield 27, 3) := by decide +kernel
theorem dX6_begin_10 : decode cX6_begin 10 = .ok (.aload_n 0, 1) := by decide +kernel
theorem dX6_begin_11 : decode cX6_begin 11 = .ok (.iconst 0, 1) := by decide +kernel
theorem dX6_begin_12 : decode cX6_begin 12 = .ok (.putfield 31, 3) := by decide +kernel
theorem dX6_begin_15 : decode cX6_begin 15 = .ok (.aload_n 0, 1) := by decide +kernel
theorem dX6_begin_16 : decode cX6_begin 16 = .ok (.iconst 0, 1) := by decide +kernel
theorem dX6_begin_17 : decode cX6_begin 17 = .ok (.putfield 34, 3) := by decide +kernel
theorem dX6_begin_20 : decode cX6_begin 20 = .ok (.aload_n 0, 1) := by decide +kernel
theorem dX6_begin_21 : decode cX6_begin 21 = .ok (.iconst 0, 1) := by decide +kernel
theorem dX6_begin_22 : decode cX6_begin 22 = .ok (.putfield 38, 3) := by decide +kernel
theorem dX6_begin_25 : decode cX6_begin 25 = .ok (.aload_n 0, 1) := by decide +kernel
theorem dX6_begin_26 : decode cX6_begin 26 = .ok (.getfield 12, 3) := by decide +kernel
theorem dX6_begin_29 : decode cX6_begin 29 = .ok (.iconst 0, 1) := by decide +kernel
theorem dX6_begin_30 : decode cX6_begin 30 = .ok (.putfield 41, 3) := by decide +kernel
theorem dX6_begin_33 : decode cX6_begin 33 = .ok (.return_, 1) := by decide +kernel
theorem dX6_copy_0 : decode cX6_copy 0 = .ok (.aload_n 0, 1) := by decide +kernel
theorem dX6_copy_1 : decode cX6_copy 1 = .ok (.aload_n 1, 1) := by decide +kernel
theorem dX6_copy_2 : decode cX6_copy 2 = .ok (.getfield 24, 3) := by decide +kernel
theorem dX6_copy_5 : decode cX6_copy 5 = .ok (.putfield 24, 3) := by decide +kernel
theorem dX6_copy_8 : decode cX6_copy 8 = .ok (.aload_n 0, 1) := by decide +kernel
theorem dX6_copy_9 : decode cX6_copy 9 = .ok (.aload_n 1, 1) := by decide +kernel
theorem dX6_copy_10 : decode cX6_copy 10 = .ok (.getfield 27, 3) := by decide +kernel
theorem dX6_copy_13 : decode cX6_copy 13 = .ok (.putfield 27, 3) := by decide +kernel
theorem dX6_copy_16 : decode cX6_copy 16 = .ok (.aload_n 0, 1) := by decide +kernel
theorem dX6_copy_17 : decode cX6_copy 17 = .ok (.aload_n 1, 1) := by decide +kernel
theorem dX6_copy_18 : decode cX6_copy 18 = .ok (.getfield 31, 3) := by decide +kernel
theorem dX6_copy_21 : decode cX6_copy 21 = .ok (.putfield 31, 3) := by decide +kernel
theorem dX6_copy_24 : decode cX6_copy 24 = .ok (.aload_n 0, 1) := by decide +kernel
theorem dX6_copy_25 : decode cX6_copy 25 = .ok (.aload_n 1, 1) := by decide +kernel
theorem dX6_copy_26 : decode cX6_copy 26 = .ok (.getfield 34, 3) := by decide +kernel
theorem dX6_copy_29 : decode cX6_copy 29 = .ok (.putfield 34, 3) := by decide +kernel
theorem dX6_copy_32 : decode cX6_copy 32 = .ok (.aload_n 0, 1) := by decide +kernel
theorem dX6_copy_33 : decode cX6_copy 33 = .ok (.aload_n 1, 1) := by decide +kernel
theorem dX6_copy_34 : decode cX6_copy 34 = .ok (.getfield 38, 3) := by decide +kernel
theorem dX6_copy_37 : decode cX6_copy 37 = .ok (.putfield 38, 3) := by decide +kernel
theorem dX6_copy_40 : decode cX6_copy 40 = .ok (.aload_n 0, 1) := by decide +kernel
theorem dX6_copy_41 : decode cX6_copy 41 = .ok (.getfield 12, 3) := by decide +kernel
theorem dX6_copy_44 : decode cX6_copy 44 = .ok (.aload_n 1, 1) := by decide +kernel
theorem dX6_copy_45 : decode cX6_copy 45 = .ok (.getfield 12, 3) := by decide +kernel
theorem dX6_copy_48 : decode cX6_copy 48 = .ok (.invokevirtual 44, 3) := by decide +kernel
theorem dX6_copy_51 : decode cX6_copy 51 = .ok (.return_, 1) := by decide +kernel
theorem dX6_told_0 : decode cX6_told 0 = .ok (.iload_n 1, 1) := by decide +kernel
theorem dX6_told_1 : decode cX6_told 1 = .ok (.tableswitch 130 0 8 #[51, 59, 64, 69, 77, 87, 97, 107, 117], 51) := by decide +kernel
theorem dX6_told_52 : decode cX6_told 52 = .ok (.aload_n 0, 1) := by decide +kernel
theorem dX6_told_53 : decode cX6_told 53 = .ok (.getfield 24, 3) := by decide +kernel
theorem dX6_told_56 : decode cX6_told 56 = .ok (.getfield 48, 3) := by decide +kernel
theorem dX6_told_59 : decode cX6_told 59 = .ok (.ireturn, 1) := by decide +kernel
theorem dX6_told_60 : decode cX6_told 60 = .ok (.aload_n 0, 1) := by decide +kernel
theorem dX6_told_61 : decode cX6_told 61 = .ok (.getfield 27, 3) := by decide +kernel
theorem dX6_told_64 : decode cX6_told 64 = .ok (.ireturn, 1) := by decide +kernel
theorem dX6_told_65 : decode cX6_told 65 = .ok (.aload_n 0, 1) := by decide +kernel
theorem dX6_told_66 : decode cX6_told 66 = .ok (.getfield 31, 3) := by decide +kernel
theorem dX6_told_69 : decode cX6_told 69 = .ok (.ireturn, 1) := by decide +kernel
theorem dX6_told_70 : decode cX6_told 70 = .ok (.aload_n 0, 1) := by decide +kernel
theorem dX6_told_71 : decode cX6_told 71 = .ok (.getfield 12, 3) := by decide +kernel
theorem dX6_told_74 : decode cX6_told 74 = .ok (.getfield 41, 3) := by decide +kernel
theorem dX6_told_77 : decode cX6_told 77 = .ok (.ireturn, 1) := by decide +kernel
theorem dX6_told_78 : decode cX6_told 78 = .ok (.aload_n 0, 1) := by decide +kernel
theorem dX6_told_79 : decode cX6_told 79 = .ok (.getfield 12, 3) := by decide +kernel
theorem dX6_told_82 : decode cX6_told 82 = .ok (.iconst 1, 1) := by decide +kernel
theorem dX6_told_83 : decode cX6_told 83 = .ok (.iconst 0, 1) := by decide +kernel
theorem dX6_told_84 : decode cX6_told 84 = .ok (.invokevirtual 51, 3) := by decide +kernel
theorem dX6_told_87 : decode cX6_told 87 = .ok (.ireturn, 1) := by decide +kernel
theorem dX6_told_88 : decode cX6_told 88 = .ok (.aload_n 0, 1) := by decide +kernel
theorem dX6_told_89 : decode cX6_told 89 = .ok (.getfield 12, 3) := by decide +kernel
theorem dX6_told_92 : decode cX6_told 92 = .ok (.iconst 2, 1) := by decide +kernel
theorem dX6_told_93 : decode cX6_told 93 = .ok (.iconst 0, 1) := by decide +kernel
theorem dX6_told_94 : decode cX6_told 94 = .ok (.invokevirtual 51, 3) := by decide +kernel
theorem dX6_told_97 : decode cX6_told 97 = .ok (.ireturn, 1) := by decide +kernel
theorem dX6_told_98 : decode cX6_told 98 = .ok (.aload_n 0, 1) := by decide +kernel
theorem dX6_told_99 : decode cX6_told 99 = .ok (.getfield 12, 3) := by decide +kernel
theorem dX6_told_102 : decode cX6_told 102 = .ok (.iconst 4, 1) := by decide +kernel
theorem dX6_told_103 : decode cX6_told 103 = .ok (.iconst 0, 1) := by decide +kernel
theorem dX6_told_104 : decode cX6_told 104 = .ok (.invokevirtual 51, 3) := by decide +kernel
theorem dX6_told_107 : decode cX6_told 107 = .ok (.ireturn, 1) := by decide +kernel
theorem dX6_told_108 : decode cX6_told 108 = .ok (.aload_n 0, 1) := by decide +kernel
theorem dX6_told_109 : decode cX6_told 109 = .ok (.getfield 12, 3) := by decide +kernel
theorem dX6_told_112 : decode cX6_told 112 = .ok (.bipush 7, 2) := by decide +kernel
theorem dX6_told_114 : decode cX6_told 114 = .ok (.invokevirtual 55, 3) := by decide +kernel
theorem dX6_told_117 : decode cX6_told 117 = .ok (.ireturn, 1) := by decide +kernel
theorem dX6_told_118 : decode cX6_told 118 = .ok (.aload_n 0, 1) := by decide +kernel
theorem dX6_told_119 : decode cX6_told 119 = .ok (.getfield 34, 3) := by decide +kernel
theorem dX6_told_122 : decode cX6_told 122 = .ok (.ifCond .eq 7, 3) := by decide +kernel
theorem dX6_told_125 : decode cX6_told 125 = .ok (.iconst 1, 1) := by decide +kernel
theorem dX6_told_126 : decode cX6_told 126 = .ok (.goto 4, 3) := by decide +kernel
theorem dX6_told_129 : decode cX6_told 129 = .ok (.iconst 0, 1) := by decide +kernel
theorem dX6_told_130 : decode cX6_told 130 = .ok (.ireturn, 1) := by decide +kernel
theorem dX6_told_131 : decode cX6_told 131 = .ok (.aload_n 0, 1) := by decide +kernel
theorem dX6_told_132 : decode cX6_told 132 = .ok (.getfield 38, 3) := by decide +kernel
theorem dX6_told_135 : decode cX6_told 135 = .ok (.ifCond .eq 7, 3) := by decide +kernel
theorem dX6_told_138 : decode cX6_told 138 = .ok (.iconst 1, 1) := by decide +kernel
theorem dX6_told_139 : decode cX6_told 139 = .ok (.goto 4, 3) := by decide +kernel
theorem dX6_told_142 : decode cX6_told 142 = .ok (.iconst 0, 1) := by decide +kernel
theorem dX6_told_143 : decode cX6_told 143 = .ok (.ireturn, 1) := by decide +kernel
theorem dX6_enter_0 : decode cX6_enter 0 = .ok (.aload_n 0, 1) := by decide +kernel
theorem dX6_enter_1 : decode cX6_enter 1 = .ok (.iconst 0, 1) := by decide +kernel
theorem dX6_enter_2 : decode cX6_enter 2 = .ok (.putfield 34, 3) := by decide +kernel
theorem dX6_enter_5 : decode cX6_enter 5 = .ok (.aload_n 0, 1) := by decide +kernel
theorem dX6_enter_6 : decode cX6_enter 6 = .ok (.iload_n 1, 1) := by decide +kernel
theorem dX6_enter_7 : decode cX6_enter 7 = .ok (.aload_n 2, 1) := by decide +kernel
theorem dX6_enter_8 : decode cX6_enter 8 = .ok (.invokevirtual 59, 3) := by decide +kernel
theorem dX6_enter_11 : decode cX6_enter 11 = .ok (.return_, 1) := by decide +kernel
theorem dX6_dropLapsed_0 : decode cX6_dropLapsed 0 = .ok (.aload_n 0, 1) := by decide +kernel
theorem dX6_dropLapsed_1 : decode cX6_dropLapsed 1 = .ok (.getfield 12, 3) := by decide +kernel
theorem dX6_dropLapsed_4 : decode cX6_dropLapsed 4 = .ok (.aload_n 2, 1) := by decide +kernel
theorem dX6_dropLapsed_5 : decode cX6_dropLapsed 5 = .ok (.iload_n 1, 1) := by decide +kernel
theorem dX6_dropLapsed_6 : decode cX6_dropLapsed 6 = .ok (.invokevirtual 63, 3) := by decide +kernel
theorem dX6_dropLapsed_9 : decode cX6_dropLapsed 9 = .ok (.invokevirtual 68, 3) := by decide +kernel
theorem dX6_dropLapsed_12 : decode cX6_dropLapsed 12 = .ok (.return_, 1) := by decide +kernel
theorem dX6_isCovered_0 : decode cX6_isCovered 0 = .ok (.aload_n 0, 1) := by decide +kernel
theorem dX6_isCovered_1 : decode cX6_isCovered 1 = .ok (.getfield 31, 3) := by decide +kernel
theorem dX6_isCovered_4 : decode cX6_isCovered 4 = .ok (.ifCond .ne 32, 3) := by decide +kernel
theorem dX6_isCovered_7 : decode cX6_isCovered 7 = .ok (.aload_n 0, 1) := by decide +kernel
theorem dX6_isCovered_8 : decode cX6_isCovered 8 = .ok (.getfield 12, 3) := by decide +kernel
theorem dX6_isCovered_11 : decode cX6_isCovered 11 = .ok (.aload 4, 2) := by decide +kernel
theorem dX6_isCovered_13 : decode cX6_isCovered 13 = .ok (.iload_n 1, 1) := by decide +kernel
theorem dX6_isCovered_14 : decode cX6_isCovered 14 = .ok (.invokevirtual 72, 3) := by decide +kernel
theorem dX6_isCovered_17 : decode cX6_isCovered 17 = .ok (.iload_n 3, 1) := by decide +kernel
theorem dX6_isCovered_18 : decode cX6_isCovered 18 = .ok (.invokevirtual 51, 3) := by decide +kernel
theorem dX6_isCovered_21 : decode cX6_isCovered 21 = .ok (.aload_n 0, 1) := by decide +kernel
theorem dX6_isCovered_22 : decode cX6_isCovered 22 = .ok (.getfield 24, 3) := by decide +kernel
theorem dX6_isCovered_25 : decode cX6_isCovered 25 = .ok (.iload_n 2, 1) := by decide +kernel
theorem dX6_isCovered_26 : decode cX6_isCovered 26 = .ok (.invokevirtual 75, 3) := by decide +kernel
theorem dX6_isCovered_29 : decode cX6_isCovered 29 = .ok (.if_icmp .lt 7, 3) := by decide +kernel
theorem dX6_isCovered_32 : decode cX6_isCovered 32 = .ok (.iconst 1, 1) := by decide +kernel
theorem dX6_isCovered_33 : decode cX6_isCovered 33 = .ok (.goto 4, 3) := by decide +kernel
theorem dX6_isCovered_36 : decode cX6_isCovered 36 = .ok (.iconst 0, 1) := by decide +kernel
theorem dX6_isCovered_37 : decode cX6_isCovered 37 = .ok (.ireturn, 1) := by decide +kernel
theorem dX6_isFreeTo_0 : decode cX6_isFreeTo 0 = .ok (.aload_n 0, 1) := by decide +kernel
theorem dX6_isFreeTo_1 : decode cX6_isFreeTo 1 = .ok (.getfield 34, 3) := by decide +kernel
theorem dX6_isFreeTo_4 : decode cX6_isFreeTo 4 = .ok (.ifCond .eq 5, 3) := by decide +kernel
theorem dX6_isFreeTo_7 : decode cX6_isFreeTo 7 = .ok (.iconst 0, 1) := by decide +kernel
theorem dX6_isFreeTo_8 : decode cX6_isFreeTo 8 = .ok (.ireturn, 1) := by decide +kernel
theorem dX6_isFreeTo_9 : decode cX6_isFreeTo 9 = .ok (.iload_n 1, 1) := by decide +kernel
theorem dX6_isFreeTo_10 : decode cX6_isFreeTo 10 = .ok (.invokestatic 78, 3) := by decide +kernel
theorem dX6_isFreeTo_13 : decode cX6_isFreeTo 13 = .ok (.ifCond .eq 5, 3) := by decide +kernel
theorem dX6_isFreeTo_16 : decode cX6_isFreeTo 16 = .ok (.iconst 1, 1) := by decide +kernel
theorem dX6_isFreeTo_17 : decode cX6_isFreeTo 17 = .ok (.ireturn, 1) := by decide +kernel
theorem dX6_isFreeTo_18 : decode cX6_isFreeTo 18 = .ok (.iload_n 1, 1) := by decide +kernel
theorem dX6_isFreeTo_19 : decode cX6_isFreeTo 19 = .ok (.bipush 10, 2) := by decide +kernel
theorem dX6_isFreeTo_21 : decode cX6_isFreeTo 21 = .ok (.irem, 1) := by decide +kernel
theorem dX6_isFreeTo_22 : decode cX6_isFreeTo 22 = .ok (.istore_n 3, 1) := by decide +kernel
theorem dX6_isFreeTo_23 : decode cX6_isFreeTo 23 = .ok (.iload_n 1, 1) := by decide +kernel
theorem dX6_isFreeTo_24 : decode cX6_isFreeTo 24 = .ok (.invokestatic 82, 3) := by decide +kernel
theorem dX6_isFreeTo_27 : decode cX6_isFreeTo 27 = .ok (.ifCond .eq 18, 3) := by decide +kernel
theorem dX6_isFreeTo_30 : decode cX6_isFreeTo 30 = .ok (.aload_n 0, 1) := by decide +kernel
theorem dX6_isFreeTo_31 : decode cX6_isFreeTo 31 = .ok (.iload_n 3, 1) := by decide +kernel
theorem dX6_isFreeTo_32 : decode cX6_isFreeTo 32 = .ok (.aload_n 2, 1) := by decide +kernel
theorem dX6_isFreeTo_33 : decode cX6_isFreeTo 33 = .ok (.iload_n 3, 1) := by decide +kernel
theorem dX6_isFreeTo_34 : decode cX6_isFreeTo 34 = .ok (.invokevirtual 85, 3) := by decide +kernel
theorem dX6_isFreeTo_37 : decode cX6_isFreeTo 37 = .ok (.iconst 0, 1) := by decide +kernel
theorem dX6_isFreeTo_38 : decode cX6_isFreeTo 38 = .ok (.aload_n 2, 1) := by decide +kernel
theorem dX6_isFreeTo_39 : decode cX6_isFreeTo 39 = .ok (.invokevirtual 88, 3) := by decide +kernel
theorem dX6_isFreeTo_42 : decode cX6_isFreeTo 42 = .ok (.goto 15, 3) := by decide +kernel
theorem dX6_isFreeTo_45 : decode cX6_isFreeTo 45 = .ok (.aload_n 0, 1) := by decide +kernel
theorem dX6_isFreeTo_46 : decode cX6_isFreeTo 46 = .ok (.getfield 31, 3) := by decide +kernel
theorem dX6_isFreeTo_49 : decode cX6_isFreeTo 49 = .ok (.ifCond .ne 7, 3) := by decide +kernel
theorem dX6_isFreeTo_52 : decode cX6_isFreeTo 52 = .ok (.iconst 1, 1) := by decide +kernel
theorem dX6_isFreeTo_53 : decode cX6_isFreeTo 53 = .ok (.goto 4, 3) := by decide +kernel
theorem dX6_isFreeTo_56 : decode cX6_isFreeTo 56 = .ok (.iconst 0, 1) := by decide +kernel
theorem dX6_isFreeTo_57 : decode cX6_isFreeTo 57 = .ok (.ireturn, 1) := by decide +kernel
theorem dX6_does_0 : decode cX6_does 0 = .ok (.iload_n 1, 1) := by decide +kernel
theorem dX6_does_1 : decode cX6_does 1 = .ok (.bipush 9, 2) := by decide +kernel
theorem dX6_does_3 : decode cX6_does 3 = .ok (.if_icmp .ne 4, 3) := by decide +kernel
theorem dX6_does_6 : decode cX6_does 6 = .ok (.return_, 1) := by decide +kernel
theorem dX6_does_7 : decode cX6_does 7 = .ok (.iload_n 1, 1) := by decide +kernel
theorem dX6_does_8 : decode cX6_does 8 = .ok (.invokestatic 78, 3) := by decide +kernel
theorem dX6_does_11 : decode cX6_does 11 = .ok (.ifCond .eq 9, 3) := by decide +kernel
theorem dX6_does_14 : decode cX6_does 14 = .ok (.aload_n 0, 1) := by decide +kernel
theorem dX6_does_15 : decode cX6_does 15 = .ok (.iload_n 1, 1) := by decide +kernel
theorem dX6_does_16 : decode cX6_does 16 = .ok (.iload_n 3, 1) := by decide +kernel
theorem dX6_does_17 : decode cX6_does 17 = .ok (.invokevirtual 92, 3) := by decide +kernel
theorem dX6_does_20 : decode cX6_does 20 = .ok (.iload_n 1, 1) := by decide +kernel
theorem dX6_does_21 : decode cX6_does 21 = .ok (.invokestatic 82, 3) := by decide +kernel
theorem dX6_does_24 : decode cX6_does 24 = .ok (.ifCond .eq 33, 3) := by decide +kernel
theorem dX6_does_27 : decode cX6_does 27 = .ok (.aload_n 0, 1) := by decide +kernel
theorem dX6_does_28 : decode cX6_does 28 = .ok (.getfield 12, 3) := by decide +kernel
theorem dX6_does_31 : decode cX6_does 31 = .ok (.aload_n 2, 1) := by decide +kernel
theorem dX6_does_32 : decode cX6_does 32 = .ok (.iload_n 1, 1) := by decide +kernel
theorem dX6_does_33 : decode cX6_does 33 = .ok (.bipush 10, 2) := by decide +kernel
theorem dX6_does_35 : decode cX6_does 35 = .ok (.irem, 1) := by decide +kernel
theorem dX6_does_36 : decode cX6_does 36 = .ok (.invokevirtual 72, 3) := by decide +kernel
theorem dX6_does_39 : decode cX6_does 39 = .ok (.aload_n 0, 1) := by decide +kernel
theorem dX6_does_40 : decode cX6_does 40 = .ok (.getfield 24, 3) := by decide +kernel
theorem dX6_does_43 : decode cX6_does 43 = .ok (.aload_n 2, 1) := by decide +kernel
theorem dX6_does_44 : decode cX6_does 44 = .ok (.iload_n 1, 1) := by decide +kernel
theorem dX6_does_45 : decode cX6_does 45 = .ok (.bipush 10, 2) := by decide +kernel
theorem dX6_does_47 : decode cX6_does 47 = .ok (.irem, 1) := by decide +kernel
theorem dX6_does_48 : decode cX6_does 48 = .ok (.invokevirtual 85, 3) := by decide +kernel
theorem dX6_does_51 : decode cX6_does 51 = .ok (.invokevirtual 75, 3) := by decide +kernel
theorem dX6_does_54 : decode cX6_does 54 = .ok (.invokevirtual 96, 3) := by decide +kernel
theorem dX6_does_57 : decode cX6_does 57 = .ok (.aload_n 0, 1) := by decide +kernel
theorem dX6_does_58 : decode cX6_does 58 = .ok (.dup, 1) := by decide +kernel
theorem dX6_does_59 : decode cX6_does 59 = .ok (.getfield 27, 3) := by decide +kernel
theorem dX6_does_62 : decode cX6_does 62 = .ok (.aload_n 0, 1) := by decide +kernel
theorem dX6_does_63 : decode cX6_does 63 = .ok (.iload_n 1, 1) := by decide +kernel
theorem dX6_does_64 : decode cX6_does 64 = .ok (.aload_n 2, 1) := by decide +kernel
theorem dX6_does_65 : decode cX6_does 65 = .ok (.invokevirtual 99, 3) := by decide +kernel
theorem dX6_does_68 : decode cX6_does 68 = .ok (.iadd, 1) := by decide +kernel
theorem dX6_does_69 : decode cX6_does 69 = .ok (.putfield 27, 3) := by decide +kernel
theorem dX6_does_72 : decode cX6_does 72 = .ok (.aload_n 0, 1) := by decide +kernel
theorem dX6_does_73 : decode cX6_does 73 = .ok (.aload_n 0, 1) := by decide +kernel
theorem dX6_does_74 : decode cX6_does 74 = .ok (.iload_n 1, 1) := by decide +kernel
theorem dX6_does_75 : decode cX6_does 75 = .ok (.aload_n 2, 1) := by decide +kernel
theorem dX6_does_76 : decode cX6_does 76 = .ok (.invokevirtual 103, 3) := by decide +kernel
theorem dX6_does_79 : decode cX6_does 79 = .ok (.putfield 31, 3) := by decide +kernel
theorem dX6_does_82 : decode cX6_does 82 = .ok (.aload_n 0, 1) := by decide +kernel
theorem dX6_does_83 : decode cX6_does 83 = .ok (.iconst 1, 1) := by decide +kernel
theorem dX6_does_84 : decode cX6_does 84 = .ok (.putfield 34, 3) := by decide +kernel
theorem dX6_does_87 : decode cX6_does 87 = .ok (.return_, 1) := by decide +kernel
theorem dX6_earns_0 : decode cX6_earns 0 = .ok (.iconst 0, 1) := by decide +kernel
theorem dX6_earns_1 : decode cX6_earns 1 = .ok (.istore_n 3, 1) := by decide +kernel
theorem dX6_earns_2 : decode cX6_earns 2 = .ok (.aload_n 0, 1) := by decide +kernel
theorem dX6_earns_3 : decode cX6_earns 3 = .ok (.getfield 31, 3) := by decide +kernel
theorem dX6_earns_6 : decode cX6_earns 6 = .ok (.ifCond .ne 29, 3) := by decide +kernel
theorem dX6_earns_9 : decode cX6_earns 9 = .ok (.iload_n 3, 1) := by decide +kernel
theorem dX6_earns_10 : decode cX6_earns 10 = .ok (.aload_n 0, 1) := by decide +kernel
theorem dX6_earns_11 : decode cX6_earns 11 = .ok (.getfield 24, 3) := by decide +kernel
theorem dX6_earns_14 : decode cX6_earns 14 = .ok (.getfield 106, 3) := by decide +kernel
theorem dX6_earns_17 : decode cX6_earns 17 = .ok (.if_icmp .ge 18, 3) := by decide +kernel
theorem dX6_earns_20 : decode cX6_earns 20 = .ok (.aload_n 0, 1) := by decide +kernel
theorem dX6_earns_21 : decode cX6_earns 21 = .ok (.getfield 12, 3) := by decide +kernel
theorem dX6_earns_24 : decode cX6_earns 24 = .ok (.iload_n 1, 1) := by decide +kernel
theorem dX6_earns_25 : decode cX6_earns 25 = .ok (.iload_n 2, 1) := by decide +kernel
theorem dX6_earns_26 : decode cX6_earns 26 = .ok (.invokevirtual 109, 3) := by decide +kernel
theorem dX6_earns_29 : decode cX6_earns 29 = .ok (.iinc 3 1, 3) := by decide +kernel
theorem dX6_earns_32 : decode cX6_earns 32 = .ok (.goto (-30), 3) := by decide +kernel
theorem dX6_earns_35 : decode cX6_earns 35 = .ok (.return_, 1) := by decide +kernel
theorem dX6_getsBy_0 : decode cX6_getsBy 0 = .ok (.iload_n 1, 1) := by decide +kernel
theorem dX6_getsBy_1 : decode cX6_getsBy 1 = .ok (.invokestatic 82, 3) := by decide +kernel
theorem dX6_getsBy_4 : decode cX6_getsBy 4 = .ok (.ifCond .ne 10, 3) := by decide +kernel
theorem dX6_getsBy_7 : decode cX6_getsBy 7 = .ok (.iload_n 1, 1) := by decide +kernel
theorem dX6_getsBy_8 : decode cX6_getsBy 8 = .ok (.invokestatic 112, 3) := by decide +kernel
theorem dX6_getsBy_11 : decode cX6_getsBy 11 = .ok (.ifCond .eq 21, 3) := by decide +kernel
theorem dX6_getsBy_14 : decode cX6_getsBy 14 = .ok (.aload_n 0, 1) := by decide +kernel
theorem dX6_getsBy_15 : decode cX6_getsBy 15 = .ok (.getfield 24, 3) := by decide +kernel
theorem dX6_getsBy_18 : decode cX6_getsBy 18 = .ok (.aload_n 2, 1) := by decide +kernel
theorem dX6_getsBy_19 : decode cX6_getsBy 19 = .ok (.iload_n 1, 1) := by decide +kernel
theorem dX6_getsBy_20 : decode cX6_getsBy 20 = .ok (.bipush 10, 2) := by decide +kernel
theorem dX6_getsBy_22 : decode cX6_getsBy 22 = .ok (.irem, 1) := by decide +kernel
theorem dX6_getsBy_23 : decode cX6_getsBy 23 = .ok (.invokevirtual 115, 3) := by decide +kernel
theorem dX6_getsBy_26 : decode cX6_getsBy 26 = .ok (.invokevirtual 118, 3) := by decide +kernel
theorem dX6_getsBy_29 : decode cX6_getsBy 29 = .ok (.goto 4, 3) := by decide +kernel
theorem dX6_getsBy_32 : decode cX6_getsBy 32 = .ok (.iconst 0, 1) := by decide +kernel
theorem dX6_getsBy_33 : decode cX6_getsBy 33 = .ok (.ireturn, 1) := by decide +kernel
theorem dX6_owesAfter_0 : decode cX6_owesAfter 0 = .ok (.iload_n 1, 1) := by decide +kernel
theorem dX6_owesAfter_1 : decode cX6_owesAfter 1 = .ok (.invokestatic 78, 3) := by decide +kernel
theorem dX6_owesAfter_4 : decode cX6_owesAfter 4 = .ok (.ifCond .eq 14, 3) := by decide +kernel
theorem dX6_owesAfter_7 : decode cX6_owesAfter 7 = .ok (.iconst 0, 1) := by decide +kernel
theorem dX6_owesAfter_8 : decode cX6_owesAfter 8 = .ok (.aload_n 0, 1) := by decide +kernel
theorem dX6_owesAfter_9 : decode cX6_owesAfter 9 = .ok (.getfield 31, 3) := by decide +kernel
theorem dX6_owesAfter_12 : decode cX6_owesAfter 12 = .ok (.iconst 1, 1) := by decide +kernel
theorem dX6_owesAfter_13 : decode cX6_owesAfter 13 = .ok (.isub, 1) := by decide +kernel
theorem dX6_owesAfter_14 : decode cX6_owesAfter 14 = .ok (.invokestatic 121, 3) := by decide +kernel
theorem dX6_owesAfter_17 : decode cX6_owesAfter 17 = .ok (.ireturn, 1) := by decide +kernel
theorem dX6_owesAfter_18 : decode cX6_owesAfter 18 = .ok (.iload_n 1, 1) := by decide +kernel
theorem dX6_owesAfter_19 : decode cX6_owesAfter 19 = .ok (.invokestatic 112, 3) := by decide +kernel
theorem dX6_owesAfter_22 : decode cX6_owesAfter 22 = .ok (.ifCond .eq 21, 3) := by decide +kernel
theorem dX6_owesAfter_25 : decode cX6_owesAfter 25 = .ok (.aload_n 0, 1) := by decide +kernel
theorem dX6_owesAfter_26 : decode cX6_owesAfter 26 = .ok (.getfield 24, 3) := by decide +kernel
theorem dX6_owesAfter_29 : decode cX6_owesAfter 29 = .ok (.aload_n 2, 1) := by decide +kernel
theorem dX6_owesAfter_30 : decode cX6_owesAfter 30 = .ok (.iload_n 1, 1) := by decide +kernel
theorem dX6_owesAfter_31 : decode cX6_owesAfter 31 = .ok (.bipush 10, 2) := by decide +kernel
theorem dX6_owesAfter_33 : decode cX6_owesAfter 33 = .ok (.irem, 1) := by decide +kernel
theorem dX6_owesAfter_34 : decode cX6_owesAfter 34 = .ok (.invokevirtual 85, 3) := by decide +kernel
theorem dX6_owesAfter_37 : decode cX6_owesAfter 37 = .ok (.invokevirtual 126, 3) := by decide +kernel
theorem dX6_owesAfter_40 : decode cX6_owesAfter 40 = .ok (.goto 7, 3) := by decide +kernel
theorem dX6_owesAfter_43 : decode cX6_owesAfter 43 = .ok (.aload_n 0, 1) := by decide +kernel
theorem dX6_owesAfter_44 : decode cX6_owesAfter 44 = .ok (.getfield 31, 3) := by decide +kernel
theorem dX6_owesAfter_47 : decode cX6_owesAfter 47 = .ok (.ireturn, 1) := by decide +kernel
theorem dX7_init_0 : decode cX7_init 0 = .ok (.aload_n 0, 1) := by decide +kernel
theorem dX7_init_1 : decode cX7_init 1 = .ok (.invokespecial 3, 3) := by decide +kernel
theorem dX7_init_4 : decode cX7_init 4 = .ok (.aload_n 0, 1) := by decide +kernel
theorem dX7_init_5 : decode cX7_init 5 = .ok (.iconst 4, 1) := by decide +kernel
theorem dX7_init_6 : decode cX7_init 6 = .ok (.anewarray 9, 3) := by decide +kernel
theorem dX7_init_9 : decode cX7_init 9 = .ok (.putfield 11, 3) := by decide +kernel
theorem dX7_init_12 : decode cX7_init 12 = .ok (.iconst 0, 1) := by decide +kernel
theorem dX7_init_13 : decode cX7_init 13 = .ok (.istore_n 1, 1) := by decide +kernel
theorem dX7_init_14 : decode cX7_init 14 = .ok (.iload_n 1, 1) := by decide +kernel
theorem dX7_init_15 : decode cX7_init 15 = .ok (.iconst 4, 1) := by decide +kernel
theorem dX7_init_16 : decode cX7_init 16 = .ok (.if_icmp .ge 22, 3) := by decide +kernel
theorem dX7_init_19 : decode cX7_init 19 = .ok (.aload_n 0, 1) := by decide +kernel
theorem dX7_init_20 : decode cX7_init 20 = .ok (.getfield 11, 3) := by decide +kernel
theorem dX7_init_23 : decode cX7_init 23 = .ok (.iload_n 1, 1) := by decide +kernel
theorem dX7_init_24 : decode cX7_init 24 = .ok (.new 9, 3) := by decide +kernel
theorem dX7_init_27 : decode cX7_init 27 = .ok (.dup, 1) := by decide +kernel
theorem dX7_init_28 : decode cX7_init 28 = .ok (.invokespecial 17, 3) := by decide +kernel
theorem dX7_init_31 : decode cX7_init 31 = .ok (.aastore, 1) := by decide +kernel
theorem dX7_init_32 : decode cX7_init 32 = .ok (.iinc 1 1, 3) := by decide +kernel
theorem dX7_init_35 : decode cX7_init 35 = .ok (.goto (-21), 3) := by decide +kernel
theorem dX7_init_38 : decode cX7_init 38 = .ok (.return_, 1) := by decide +kernel
theorem dX7_copy_0 : decode cX7_copy 0 = .ok (.iconst 0, 1) := by decide +kernel
theorem dX7_copy_1 : decode cX7_copy 1 = .ok (.istore_n 2, 1) := by decide +kernel
theorem dX7_copy_2 : decode cX7_copy 2 = .ok (.iload_n 2, 1) := by decide +kernel
theorem dX7_copy_3 : decode cX7_copy 3 = .ok (.iconst 4, 1) := by decide +kernel
theorem dX7_copy_4 : decode cX7_copy 4 = .ok (.if_icmp .ge 24, 3) := by decide +kernel
theorem dX7_copy_7 : decode cX7_copy 7 = .ok (.aload_n 0, 1) := by decide +kernel
theorem dX7_copy_8 : decode cX7_copy 8 = .ok (.getfield 11, 3) := by decide +kernel
theorem dX7_copy_11 : decode cX7_copy 11 = .ok (.iload_n 2, 1) := by decide +kernel
theorem dX7_copy_12 : decode cX7_copy 12 = .ok (.aaload, 1) := by decide +kernel
theorem dX7_copy_13 : decode cX7_copy 13 = .ok (.aload_n 1, 1) := by decide +kernel
theorem dX7_copy_14 : decode cX7_copy 14 = .ok (.getfield 11, 3) := by decide +kernel
theorem dX7_copy_17 : decode cX7_copy 17 = .ok (.iload_n 2, 1) := by decide +kernel
theorem dX7_copy_18 : decode cX7_copy 18 = .ok (.aaload, 1) := by decide +kernel
theorem dX7_copy_19 : decode cX7_copy 19 = .ok (.invokevirtual 18, 3) := by decide +kernel
theorem dX7_copy_22 : decode cX7_copy 22 = .ok (.iinc 2 1, 3) := by decide +kernel
theorem dX7_copy_25 : decode cX7_copy 25 = .ok (.goto (-23), 3) := by decide +kernel
theorem dX7_copy_28 : decode cX7_copy 28 = .ok (.aload_n 0, 1) := by decide +kernel
theorem dX7_copy_29 : decode cX7_copy 29 = .ok (.aload_n 1, 1) := by decide +kernel
theorem dX7_copy_30 : decode cX7_copy 30 = .ok (.getfield 22, 3) := by decide +kernel
theorem dX7_copy_33 : decode cX7_copy 33 = .ok (.putfield 22, 3) := by decide +kernel
theorem dX7_copy_36 : decode cX7_copy 36 = .ok (.aload_n 0, 1) := by decide +kernel
theorem dX7_copy_37 : decode cX7_copy 37 = .ok (.aload_n 1, 1) := by decide +kernel
theorem dX7_copy_38 : decode cX7_copy 38 = .ok (.getfield 26, 3) := by decide +kernel
theorem dX7_copy_41 : decode cX7_copy 41 = .ok (.putfield 26, 3) := by decide +kernel
theorem dX7_copy_44 : decode cX7_copy 44 = .ok (.return_, 1) := by decide +kernel
theorem dX7_hasRoom_0 : decode cX7_hasRoom 0 = .ok (.aload_n 0, 1) := by decide +kernel
theorem dX7_hasRoom_1 : decode cX7_hasRoom 1 = .ok (.getfield 22, 3) := by decide +kernel
theorem dX7_hasRoom_4 : decode cX7_hasRoom 4 = .ok (.iconst 4, 1) := by decide +kernel
theorem dX7_hasRoom_5 : decode cX7_hasRoom 5 = .ok (.if_icmp .ge 7, 3) := by decide +kernel
theorem dX7_hasRoom_8 : decode cX7_hasRoom 8 = .ok (.iconst 1, 1) := by decide +kernel
theorem dX7_hasRoom_9 : decode cX7_hasRoom 9 = .ok (.goto 4, 3) := by decide +kernel
theorem dX7_hasRoom_12 : decode cX7_hasRoom 12 = .ok (.iconst 0, 1) := by decide +kernel
theorem dX7_hasRoom_13 : decode cX7_hasRoom 13 = .ok (.ireturn, 1) := by decide +kernel
theorem dX7_isKnown_0 : decode cX7_isKnown 0 = .ok (.iload_n 1, 1) := by decide +kernel
theorem dX7_isKnown_1 : decode cX7_isKnown 1 = .ok (.ifCond .lt 20, 3) := by decide +kernel
theorem dX7_isKnown_4 : decode cX7_isKnown 4 = .ok (.iload_n 1, 1) := by decide +kernel
theorem dX7_isKnown_5 : decode cX7_isKnown 5 = .ok (.aload_n 0, 1) := by decide +kernel
theorem dX7_isKnown_6 : decode cX7_isKnown 6 = .ok (.getfield 22, 3) := by decide +kernel
theorem dX7_isKnown_9 : decode cX7_isKnown 9 = .ok (.if_icmp .ge 12, 3) := by decide +kernel
theorem dX7_isKnown_12 : decode cX7_isKnown 12 = .ok (.iload_n 1, 1) := by decide +kernel
theorem dX7_isKnown_13 : decode cX7_isKnown 13 = .ok (.iconst 4, 1) := by decide +kernel
theorem dX7_isKnown_14 : decode cX7_isKnown 14 = .ok (.if_icmp .ge 7, 3) := by decide +kernel
theorem dX7_isKnown_17 : decode cX7_isKnown 17 = .ok (.iconst 1, 1) := by decide +kernel
theorem dX7_isKnown_18 : decode cX7_isKnown 18 = .ok (.goto 4, 3) := by decide +kernel
theorem dX7_isKnown_21 : decode cX7_isKnown 21 = .ok (.iconst 0, 1) := by decide +kernel
theorem dX7_isKnown_22 : decode cX7_isKnown 22 = .ok (.ireturn, 1) := by decide +kernel
theorem dX7_isHere_0 : decode cX7_isHere 0 = .ok (.aload_n 0, 1) := by decide +kernel
theorem dX7_isHere_1 : decode cX7_isHere 1 = .ok (.iload_n 1, 1) := by decide +kernel
theorem dX7_isHere_2 : decode cX7_isHere 2 = .ok (.invokevirtual 29, 3) := by decide +kernel
theorem dX7_isHere_5 : decode cX7_isHere 5 = .ok (.ifCond .eq 18, 3) := by decide +kernel
theorem dX7_isHere_8 : decode cX7_isHere 8 = .ok (.aload_n 0, 1) := by decide +kernel
theorem dX7_isHere_9 : decode cX7_isHere 9 = .ok (.iload_n 1, 1) := by decide +kernel
theorem dX7_isHere_10 : decode cX7_isHere 10 = .ok (.invokevirtual 33, 3) := by decide +kernel
theorem dX7_isHere_13 : decode cX7_isHere 13 = .ok (.getfield 37, 3) := by decide +kernel
theorem dX7_isHere_16 : decode cX7_isHere 16 = .ok (.ifCond .ne 7, 3) := by decide +kernel
theorem dX7_isHere_19 : decode cX7_isHere 19 = .ok (.iconst 1, 1) := by decide +kernel
theorem dX7_isHere_20 : decode cX7_isHere 20 = .ok (.goto 4, 3) := by decide +kernel
theorem dX7_isHere_23 : decode cX7_isHere 23 = .ok (.iconst 0, 1) := by decide +kernel
theorem dX7_isHere_24 : decode cX7_isHere 24 = .ok (.ireturn, 1) := by decide +kernel
theorem dX7_one_0 : decode cX7_one 0 = .ok (.iload_n 1, 1) := by decide +kernel
theorem dX7_one_1 : decode cX7_one 1 = .ok (.ifCond .lt 17, 3) := by decide +kernel
theorem dX7_one_4 : decode cX7_one 4 = .ok (.iload_n 1, 1) := by decide +kernel
theorem dX7_one_5 : decode cX7_one 5 = .ok (.iconst 4, 1) := by decide +kernel
theorem dX7_one_6 : decode cX7_one 6 = .ok (.if_icmp .ge 12, 3) := by decide +kernel
theorem dX7_one_9 : decode cX7_one 9 = .ok (.aload_n 0, 1) := by decide +kernel
theorem dX7_one_10 : decode cX7_one 10 = .ok (.getfield 11, 3) := by decide +kernel
theorem dX7_one_13 : decode cX7_one 13 = .ok (.iload_n 1, 1) := by decide +kernel
theorem dX7_one_14 : decode cX7_one 14 = .ok (.aaload, 1) := by decide +kernel
theorem dX7_one_15 : decode cX7_one 15 = .ok (.goto 9, 3) := by decide +kernel
theorem dX7_one_18 : decode cX7_one 18 = .ok (.aload_n 0, 1) := by decide +kernel
theorem dX7_one_19 : decode cX7_one 19 = .ok (.getfield 11, 3) := by decide +kernel
theorem dX7_one_22 : decode cX7_one 22 = .ok (.iconst 0, 1) := by decide +kernel
theorem dX7_one_23 : decode cX7_one 23 = .ok (.aaload, 1) := by decide +kernel
theorem dX7_one_24 : decode cX7_one 24 = .ok (.areturn, 1) := by decide +kernel
theorem dX7_welcome_0 : decode cX7_welcome 0 = .ok (.aload_n 0, 1) := by decide +kernel
theorem dX7_welcome_1 : decode cX7_welcome 1 = .ok (.getfield 22, 3) := by decide +kernel
theorem dX7_welcome_4 : decode cX7_welcome 4 = .ok (.istore_n 2, 1) := by decide +kernel
theorem dX7_welcome_5 : decode cX7_welcome 5 = .ok (.aload_n 0, 1) := by decide +kernel
theorem dX7_welcome_6 : decode cX7_welcome 6 = .ok (.iload_n 2, 1) := by decide +kernel
theorem dX7_welcome_7 : decode cX7_welcome 7 = .ok (.invokevirtual 33, 3) := by decide +kernel
theorem dX7_welcome_10 : decode cX7_welcome 10 = .ok (.aload_n 1, 1) := by decide +kernel
theorem dX7_welcome_11 : decode cX7_welcome 11 = .ok (.invokevirtual 41, 3) := by decide +kernel
theorem dX7_welcome_14 : decode cX7_welcome 14 = .ok (.aload_n 0, 1) := by decide +kernel
theorem dX7_welcome_15 : decode cX7_welcome 15 = .ok (.dup, 1) := by decide +kernel
theorem dX7_welcome_16 : decode cX7_welcome 16 = .ok (.getfield 22, 3) := by decide +kernel
theorem dX7_welcome_19 : decode cX7_welcome 19 = .ok (.iconst 1, 1) := by decide +kernel
theorem dX7_welcome_20 : decode cX7_welcome 20 = .ok (.iadd, 1) := by decide +kernel
theorem dX7_welcome_21 : decode cX7_welcome 21 = .ok (.putfield 22, 3) := by decide +kernel
theorem dX7_welcome_24 : decode cX7_welcome 24 = .ok (.iload_n 2, 1) := by decide +kernel
theorem dX7_welcome_25 : decode cX7_welcome 25 = .ok (.ireturn, 1) := by decide +kernel
theorem dX7_passWeek_0 : decode cX7_passWeek 0 = .ok (.aload_n 0, 1) := by decide +kernel
theorem dX7_passWeek_1 : decode cX7_passWeek 1 = .ok (.dup, 1) := by decide +kernel
theorem dX7_passWeek_2 : decode cX7_passWeek 2 = .ok (.getfield 26, 3) := by decide +kernel
theorem dX7_passWeek_5 : decode cX7_passWeek 5 = .ok (.iconst 1, 1) := by decide +kernel
theorem dX7_passWeek_6 : decode cX7_passWeek 6 = .ok (.iadd, 1) := by decide +kernel
theorem dX7_passWeek_7 : decode cX7_passWeek 7 = .ok (.putfield 26, 3) := by decide +kernel
theorem dX7_passWeek_10 : decode cX7_passWeek 10 = .ok (.iconst 0, 1) := by decide +kernel
theorem dX7_passWeek_11 : decode cX7_passWeek 11 = .ok (.istore_n 2, 1) := by decide +kernel
theorem dX7_passWeek_12 : decode cX7_passWeek 12 = .ok (.iload_n 2, 1) := by decide +kernel
theorem dX7_passWeek_13 : decode cX7_passWeek 13 = .ok (.aload_n 0, 1) := by decide +kernel
theorem dX7_passWeek_14 : decode cX7_passWeek 14 = .ok (.getfield 22, 3) := by decide +kernel
theorem dX7_passWeek_17 : decode cX7_passWeek 17 = .ok (.if_icmp .ge 22, 3) := by decide +kernel
theorem dX7_passWeek_20 : decode cX7_passWeek 20 = .ok (.aload_n 0, 1) := by decide +kernel
theorem dX7_passWeek_21 : decode cX7_passWeek 21 = .ok (.iload_n 2, 1) := by decide +kernel
theorem dX7_passWeek_22 : decode cX7_passWeek 22 = .ok (.invokevirtual 33, 3) := by decide +kernel
theorem dX7_passWeek_25 : decode cX7_passWeek 25 = .ok (.aload_n 0, 1) := by decide +kernel
theorem dX7_passWeek_26 : decode cX7_passWeek 26 = .ok (.getfield 26, 3) := by decide +kernel
theorem dX7_passWeek_29 : decode cX7_passWeek 29 = .ok (.aload_n 1, 1) := by decide +kernel
theorem dX7_passWeek_30 : decode cX7_passWeek 30 = .ok (.invokevirtual 45, 3) := by decide +kernel
theorem dX7_passWeek_33 : decode cX7_passWeek 33 = .ok (.iinc 2 1, 3) := by decide +kernel
theorem dX7_passWeek_36 : decode cX7_passWeek 36 = .ok (.goto (-24), 3) := by decide +kernel
theorem dX7_passWeek_39 : decode cX7_passWeek 39 = .ok (.return_, 1) := by decide +kernel
theorem dX7_dropLapsed_0 : decode cX7_dropLapsed 0 = .ok (.iconst 0, 1) := by decide +kernel
theorem dX7_dropLapsed_1 : decode cX7_dropLapsed 1 = .ok (.istore_n 2, 1) := by decide +kernel
theorem dX7_dropLapsed_2 : decode cX7_dropLapsed 2 = .ok (.iload_n 2, 1) := by decide +kernel
theorem dX7_dropLapsed_3 : decode cX7_dropLapsed 3 = .ok (.aload_n 0, 1) := by decide +kernel
theorem dX7_dropLapsed_4 : decode cX7_dropLapsed 4 = .ok (.getfield 22, 3) := by decide +kernel
theorem dX7_dropLapsed_7 : decode cX7_dropLapsed 7 = .ok (.if_icmp .ge 22, 3) := by decide +kernel
theorem dX7_dropLapsed_10 : decode cX7_dropLapsed 10 = .ok (.aload_n 0, 1) := by decide +kernel
theorem dX7_dropLapsed_11 : decode cX7_dropLapsed 11 = .ok (.iload_n 2, 1) := by decide +kernel
theorem dX7_dropLapsed_12 : decode cX7_dropLapsed 12 = .ok (.invokevirtual 33, 3) := by decide +kernel
theorem dX7_dropLapsed_15 : decode cX7_dropLapsed 15 = .ok (.aload_n 0, 1) := by decide +kernel
theorem dX7_dropLapsed_16 : decode cX7_dropLapsed 16 = .ok (.getfield 26, 3) := by decide +kernel
theorem dX7_dropLapsed_19 : decode cX7_dropLapsed 19 = .ok (.aload_n 1, 1) := by decide +kernel
theorem dX7_dropLapsed_20 : decode cX7_dropLapsed 20 = .ok (.invokevirtual 49, 3) := by decide +kernel
theorem dX7_dropLapsed_23 : decode cX7_dropLapsed 23 = .ok (.iinc 2 1, 3) := by decide +kernel
theorem dX7_dropLapsed_26 : decode cX7_dropLapsed 26 = .ok (.goto (-24), 3) := by decide +kernel
theorem dX7_dropLapsed_29 : decode cX7_dropLapsed 29 = .ok (.return_, 1) := by decide +kernel
theorem dX7_forgive_0 : decode cX7_forgive 0 = .ok (.aload_n 0, 1) := by decide +kernel
theorem dX7_forgive_1 : decode cX7_forgive 1 = .ok (.invokevirtual 52, 3) := by decide +kernel
theorem dX7_forgive_4 : decode cX7_forgive 4 = .ok (.istore_n 1, 1) := by decide +kernel
theorem dX7_forgive_5 : decode cX7_forgive 5 = .ok (.iconst 0, 1) := by decide +kernel
theorem dX7_forgive_6 : decode cX7_forgive 6 = .ok (.istore_n 2, 1) := by decide +kernel
theorem dX7_forgive_7 : decode cX7_forgive 7 = .ok (.iload_n 2, 1) := by decide +kernel
theorem dX7_forgive_8 : decode cX7_forgive 8 = .ok (.aload_n 0, 1) := by decide +kernel
theorem dX7_forgive_9 : decode cX7_forgive 9 = .ok (.getfield 22, 3) := by decide +kernel
theorem dX7_forgive_12 : decode cX7_forgive 12 = .ok (.if_icmp .ge 18, 3) := by decide +kernel
theorem dX7_forgive_15 : decode cX7_forgive 15 = .ok (.aload_n 0, 1) := by decide +kernel
theorem dX7_forgive_16 : decode cX7_forgive 16 = .ok (.iload_n 2, 1) := by decide +kernel
theorem dX7_forgive_17 : decode cX7_forgive 17 = .ok (.invokevirtual 33, 3) := by decide +kernel
theorem dX7_forgive_20 : decode cX7_forgive 20 = .ok (.iconst 0, 1) := by decide +kernel
theorem dX7_forgive_21 : decode cX7_forgive 21 = .ok (.putfield 56, 3) := by decide +kernel
theorem dX7_forgive_24 : decode cX7_forgive 24 = .ok (.iinc 2 1, 3) := by decide +kernel
theorem dX7_forgive_27 : decode cX7_forgive 27 = .ok (.goto (-20), 3) := by decide +kernel
theorem dX7_forgive_30 : decode cX7_forgive 30 = .ok (.iload_n 1, 1) := by decide +kernel
theorem dX7_forgive_31 : decode cX7_forgive 31 = .ok (.ireturn, 1) := by decide +kernel
theorem dX7_someoneCovered_0 : decode cX7_someoneCovered 0 = .ok (.iconst 0, 1) := by decide +kernel
theorem dX7_someoneCovered_1 : decode cX7_someoneCovered 1 = .ok (.istore 4, 2) := by decide +kernel
theorem dX7_someoneCovered_3 : decode cX7_someoneCovered 3 = .ok (.iload 4, 2) := by decide +kernel
theorem dX7_someoneCovered_5 : decode cX7_someoneCovered 5 = .ok (.aload_n 0, 1) := by decide +kernel
theorem dX7_someoneCovered_6 : decode cX7_someoneCovered 6 = .ok (.getfield 22, 3) := by decide +kernel
theorem dX7_someoneCovered_9 : decode cX7_someoneCovered 9 = .ok (.if_icmp .ge 67, 3) := by decide +kernel
theorem dX7_someoneCovered_12 : decode cX7_someoneCovered 12 = .ok (.aload_n 0, 1) := by decide +kernel
theorem dX7_someoneCovered_13 : decode cX7_someoneCovered 13 = .ok (.iload 4, 2) := by decide +kernel
theorem dX7_someoneCovered_15 : decode cX7_someoneCovered 15 = .ok (.invokevirtual 33, 3) := by decide +kernel
theorem dX7_someoneCovered_18 : decode cX7_someoneCovered 18 = .ok (.astore 5, 2) := by decide +kernel
theorem dX7_someoneCovered_20 : decode cX7_someoneCovered 20 = .ok (.aload_n 3, 1) := by decide +kernel
theorem dX7_someoneCovered_21 : decode cX7_someoneCovered 21 = .ok (.aload 5, 2) := by decide +kernel
theorem dX7_someoneCovered_23 : decode cX7_someoneCovered 23 = .ok (.getfield 59, 3) := by decide +kernel
theorem dX7_someoneCovered_26 : decode cX7_someoneCovered 26 = .ok (.ifCond .eq 12, 3) := by decide +kernel
theorem dX7_someoneCovered_29 : decode cX7_someoneCovered 29 = .ok (.aload_n 0, 1) := by decide +kernel
theorem dX7_someoneCovered_30 : decode cX7_someoneCovered 30 = .ok (.getfield 26, 3) := by decide +kernel
theorem dX7_someoneCovered_33 : decode cX7_someoneCovered 33 = .ok (.iconst 1, 1) := by decide +kernel
theorem dX7_someoneCovered_34 : decode cX7_someoneCovered 34 = .ok (.iadd, 1) := by decide +kernel
theorem dX7_someoneCovered_35 : decode cX7_someoneCovered 35 = .ok (.goto 7, 3) := by decide +kernel
theorem dX7_someoneCovered_38 : decode cX7_someoneCovered 38 = .ok (.aload_n 0, 1) := by decide +kernel
theorem dX7_someoneCovered_39 : decode cX7_someoneCovered 39 = .ok (.getfield 26, 3) := by decide +kernel
theorem dX7_someoneCovered_42 : decode cX7_someoneCovered 42 = .ok (.invokevirtual 62, 3) := by decide +kernel
theorem dX7_someoneCovered_45 : decode cX7_someoneCovered 45 = .ok (.istore 6, 2) := by decide +kernel
theorem dX7_someoneCovered_47 : decode cX7_someoneCovered 47 = .ok (.aload 5, 2) := by decide +kernel
theorem dX7_someoneCovered_49 : decode cX7_someoneCovered 49 = .ok (.getfield 37, 3) := by decide +kernel
theorem dX7_someoneCovered_52 : decode cX7_someoneCovered 52 = .ok (.ifCond .ne 18, 3) := by decide +kernel
theorem dX7_someoneCovered_55 : decode cX7_someoneCovered 55 = .ok (.aload 5, 2) := by decide +kernel
theorem dX7_someoneCovered_57 : decode cX7_someoneCovered 57 = .ok (.iload_n 1, 1) := by decide +kernel
theorem dX7_someoneCovered_58 : decode cX7_someoneCovered 58 = .ok (.iload_n 2, 1) := by decide +kernel
theorem dX7_someoneCovered_59 : decode cX7_someoneCovered 59 = .ok (.iload 6, 2) := by decide +kernel
theorem dX7_someoneCovered_61 : decode cX7_someoneCovered 61 = .ok (.aload_n 3, 1) := by decide +kernel
theorem dX7_someoneCovered_62 : decode cX7_someoneCovered 62 = .ok (.invokevirtual 68, 3) := by decide +kernel
theorem dX7_someoneCovered_65 : decode cX7_someoneCovered 65 = .ok (.ifCond .eq 5, 3) := by decide +kernel
theorem dX7_someoneCovered_68 : decode cX7_someoneCovered 68 = .ok (.iconst 1, 1) := by decide +kernel
theorem dX7_someoneCovered_69 : decode cX7_someoneCovered 69 = .ok (.ireturn, 1) := by decide +kernel
theorem dX7_someoneCovered_70 : decode cX7_someoneCovered 70 = .ok (.iinc 4 1, 3) := by decide +kernel
theorem dX7_someoneCovered_73 : decode cX7_someoneCovered 73 = .ok (.goto (-70), 3) := by decide +kernel
theorem dX7_someoneCovered_76 : decode cX7_someoneCovered 76 = .ok (.iconst 0, 1) := by decide +kernel
theorem dX7_someoneCovered_77 : decode cX7_someoneCovered 77 = .ok (.ireturn, 1) := by decide +kernel
theorem dX7_allGone_0 : decode cX7_allGone 0 = .ok (.iconst 0, 1) := by decide +kernel
theorem dX7_allGone_1 : decode cX7_allGone 1 = .ok (.istore_n 1, 1) := by decide +kernel
theorem dX7_allGone_2 : decode cX7_allGone 2 = .ok (.iconst 0, 1) := by decide +kernel
theorem dX7_allGone_3 : decode cX7_allGone 3 = .ok (.istore_n 2, 1) := by decide +kernel
theorem dX7_allGone_4 : decode cX7_allGone 4 = .ok (.iload_n 2, 1) := by decide +kernel
theorem dX7_allGone_5 : decode cX7_allGone 5 = .ok (.aload_n 0, 1) := by decide +kernel
theorem dX7_allGone_6 : decode cX7_allGone 6 = .ok (.getfield 22, 3) := by decide +kernel
theorem dX7_allGone_9 : decode cX7_allGone 9 = .ok (.if_icmp .ge 28, 3) := by decide +kernel
theorem dX7_allGone_12 : decode cX7_allGone 12 = .ok (.iload_n 1, 1) := by decide +kernel
theorem dX7_allGone_13 : decode cX7_allGone 13 = .ok (.aload_n 0, 1) := by decide +kernel
theorem dX7_allGone_14 : decode cX7_allGone 14 = .ok (.iload_n 2, 1) := by decide +kernel
theorem dX7_allGone_15 : decode cX7_allGone 15 = .ok (.invokevirtual 33, 3) := by decide +kernel
theorem dX7_allGone_18 : decode cX7_allGone 18 = .ok (.getfield 37, 3) := by decide +kernel
theorem dX7_allGone_21 : decode cX7_allGone 21 = .ok (.ifCond .eq 7, 3) := by decide +kernel
theorem dX7_allGone_24 : decode cX7_allGone 24 = .ok (.iconst 1, 1) := by decide +kernel
theorem dX7_allGone_25 : decode cX7_allGone 25 = .ok (.goto 4, 3) := by decide +kernel
theorem dX7_allGone_28 : decode cX7_allGone 28 = .ok (.iconst 0, 1) := by decide +kernel
theorem dX7_allGone_29 : decode cX7_allGone 29 = .ok (.iadd, 1) := by decide +kernel
theorem dX7_allGone_30 : decode cX7_allGone 30 = .ok (.istore_n 1, 1) := by decide +kernel
theorem dX7_allGone_31 : decode cX7_allGone 31 = .ok (.iinc 2 1, 3) := by decide +kernel
theorem dX7_allGone_34 : decode cX7_allGone 34 = .ok (.goto (-30), 3) := by decide +kernel
theorem dX7_allGone_37 : decode cX7_allGone 37 = .ok (.iload_n 1, 1) := by decide +kernel
theorem dX7_allGone_38 : decode cX7_allGone 38 = .ok (.ireturn, 1) := by decide +kernel
theorem dX7_allOwed_0 : decode cX7_allOwed 0 = .ok (.iconst 0, 1) := by decide +kernel
theorem dX7_allOwed_1 : decode cX7_allOwed 1 = .ok (.istore_n 1, 1) := by decide +kernel
theorem dX7_allOwed_2 : decode cX7_allOwed 2 = .ok (.iconst 0, 1) := by decide +kernel
theorem dX7_allOwed_3 : decode cX7_allOwed 3 = .ok (.istore_n 2, 1) := by decide +kernel
theorem dX7_allOwed_4 : decode cX7_allOwed 4 = .ok (.iload_n 2, 1) := by decide +kernel
theorem dX7_allOwed_5 : decode cX7_allOwed 5 = .ok (.aload_n 0, 1) := by decide +kernel
theorem dX7_allOwed_6 : decode cX7_allOwed 6 = .ok (.getfield 22, 3) := by decide +kernel
theorem dX7_allOwed_9 : decode cX7_allOwed 9 = .ok (.if_icmp .ge 20, 3) := by decide +kernel
theorem dX7_allOwed_12 : decode cX7_allOwed 12 = .ok (.iload_n 1, 1) := by decide +kernel
theorem dX7_allOwed_13 : decode cX7_allOwed 13 = .ok (.aload_n 0, 1) := by decide +kernel
theorem dX7_allOwed_14 : decode cX7_allOwed 14 = .ok (.iload_n 2, 1) := by decide +kernel
theorem dX7_allOwed_15 : decode cX7_allOwed 15 = .ok (.invokevirtual 33, 3) := by decide +kernel
theorem dX7_allOwed_18 : decode cX7_allOwed 18 = .ok (.getfield 56, 3) := by decide +kernel
theorem dX7_allOwed_21 : decode cX7_allOwed 21 = .ok (.iadd, 1) := by decide +kernel
theorem dX7_allOwed_22 : decode cX7_allOwed 22 = .ok (.istore_n 1, 1) := by decide +kernel
theorem dX7_allOwed_23 : decode cX7_allOwed 23 = .ok (.iinc 2 1, 3) := by decide +kernel
theorem dX7_allOwed_26 : decode cX7_allOwed 26 = .ok (.goto (-22), 3) := by decide +kernel
theorem dX7_allOwed_29 : decode cX7_allOwed 29 = .ok (.iload_n 1, 1) := by decide +kernel
theorem dX7_allOwed_30 : decode cX7_allOwed 30 = .ok (.ireturn, 1) := by decide +kernel
theorem dX7_allGot_0 : decode cX7_allGot 0 = .ok (.iconst 0, 1) := by decide +kernel
theorem dX7_allGot_1 : decode cX7_allGot 1 = .ok (.istore_n 1, 1) := by decide +kernel
theorem dX7_allGot_2 : decode cX7_allGot 2 = .ok (.iconst 0, 1) := by decide +kernel
theorem dX7_allGot_3 : decode cX7_allGot 3 = .ok (.istore_n 2, 1) := by decide +kernel
theorem dX7_allGot_4 : decode cX7_allGot 4 = .ok (.iload_n 2, 1) := by decide +kernel
theorem dX7_allGot_5 : decode cX7_allGot 5 = .ok (.aload_n 0, 1) := by decide +kernel
theorem dX7_allGot_6 : decode cX7_allGot 6 = .ok (.getfield 22, 3) := by decide +kernel
theorem dX7_allGot_9 : decode cX7_allGot 9 = .ok (.if_icmp .ge 20, 3) := by decide +kernel
theorem dX7_allGot_12 : decode cX7_allGot 12 = .ok (.iload_n 1, 1) := by decide +kernel
theorem dX7_allGot_13 : decode cX7_allGot 13 = .ok (.aload_n 0, 1) := by decide +kernel
theorem dX7_allGot_14 : decode cX7_allGot 14 = .ok (.iload_n 2, 1) := by decide +kernel
theorem dX7_allGot_15 : decode cX7_allGot 15 = .ok (.invokevirtual 33, 3) := by decide +kernel
theorem dX7_allGot_18 : decode cX7_allGot 18 = .ok (.getfield 72, 3) := by decide +kernel
theorem dX7_allGot_21 : decode cX7_allGot 21 = .ok (.iadd, 1) := by decide +kernel
theorem dX7_allGot_22 : decode cX7_allGot 22 = .ok (.istore_n 1, 1) := by decide +kernel
theorem dX7_allGot_23 : decode cX7_allGot 23 = .ok (.iinc 2 1, 3) := by decide +kernel
theorem dX7_allGot_26 : decode cX7_allGot 26 = .ok (.goto (-22), 3) := by decide +kernel
theorem dX7_allGot_29 : decode cX7_allGot 29 = .ok (.iload_n 1, 1) := by decide +kernel
theorem dX7_allGot_30 : decode cX7_allGot 30 = .ok (.ireturn, 1) := by decide +kernel
theorem dX7_allCredits_0 : decode cX7_allCredits 0 = .ok (.iconst 0, 1) := by decide +kernel
theorem dX7_allCredits_1 : decode cX7_allCredits 1 = .ok (.istore_n 1, 1) := by decide +kernel
theorem dX7_allCredits_2 : decode cX7_allCredits 2 = .ok (.iconst 0, 1) := by decide +kernel
theorem dX7_allCredits_3 : decode cX7_allCredits 3 = .ok (.istore_n 2, 1) := by decide +kernel
theorem dX7_allCredits_4 : decode cX7_allCredits 4 = .ok (.iload_n 2, 1) := by decide +kernel
theorem dX7_allCredits_5 : decode cX7_allCredits 5 = .ok (.aload_n 0, 1) := by decide +kernel
theorem dX7_allCredits_6 : decode cX7_allCredits 6 = .ok (.getfield 22, 3) := by decide +kernel
theorem dX7_allCredits_9 : decode cX7_allCredits 9 = .ok (.if_icmp .ge 23, 3) := by decide +kernel
theorem dX7_allCredits_12 : decode cX7_allCredits 12 = .ok (.iload_n 1, 1) := by decide +kernel
theorem dX7_allCredits_13 : decode cX7_allCredits 13 = .ok (.aload_n 0, 1) := by decide +kernel
theorem dX7_allCredits_14 : decode cX7_allCredits 14 = .ok (.iload_n 2, 1) := by decide +kernel
theorem dX7_allCredits_15 : decode cX7_allCredits 15 = .ok (.invokevirtual 33, 3) := by decide +kernel
theorem dX7_allCredits_18 : decode cX7_allCredits 18 = .ok (.getfield 75, 3) := by decide +kernel
theorem dX7_allCredits_21 : decode cX7_allCredits 21 = .ok (.getfield 79, 3) := by decide +kernel
theorem dX7_allCredits_24 : decode cX7_allCredits 24 = .ok (.iadd, 1) := by decide +kernel
theorem dX7_allCredits_25 : decode cX7_allCredits 25 = .ok (.istore_n 1, 1) := by decide +kernel
theorem dX7_allCredits_26 : decode cX7_allCredits 26 = .ok (.iinc 2 1, 3) := by decide +kernel
theorem dX7_allCredits_29 : decode cX7_allCredits 29 = .ok (.goto (-25), 3) := by decide +kernel
theorem dX7_allCredits_32 : decode cX7_allCredits 32 = .ok (.iload_n 1, 1) := by decide +kernel
theorem dX7_allCredits_33 : decode cX7_allCredits 33 = .ok (.ireturn, 1) := by decide +kernel
theorem dX7_live_0 : decode cX7_live 0 = .ok (.aload_n 0, 1) := by decide +kernel
theorem dX7_live_1 : decode cX7_live 1 = .ok (.iconst 0, 1) := by decide +kernel
theorem dX7_live_2 : decode cX7_live 2 = .ok (.putfield 82, 3) := by decide +kernel
theorem dX7_live_5 : decode cX7_live 5 = .ok (.aload_n 0, 1) := by decide +kernel
theorem dX7_live_6 : decode cX7_live 6 = .ok (.iload_n 2, 1) := by decide +kernel
theorem dX7_live_7 : decode cX7_live 7 = .ok (.putfield 85, 3) := by decide +kernel
theorem dX7_live_10 : decode cX7_live 10 = .ok (.iconst 0, 1) := by decide +kernel
theorem dX7_live_11 : decode cX7_live 11 = .ok (.istore 4, 2) := by decide +kernel
theorem dX7_live_13 : decode cX7_live 13 = .ok (.iload 4, 2) := by decide +kernel
theorem dX7_live_15 : decode cX7_live 15 = .ok (.iload_n 1, 1) := by decide +kernel
theorem dX7_live_16 : decode cX7_live 16 = .ok (.if_icmp .ge 55, 3) := by decide +kernel
theorem dX7_live_19 : decode cX7_live 19 = .ok (.iconst 0, 1) := by decide +kernel
theorem dX7_live_20 : decode cX7_live 20 = .ok (.istore 5, 2) := by decide +kernel
theorem dX7_live_22 : decode cX7_live 22 = .ok (.iload 5, 2) := by decide +kernel
theorem dX7_live_24 : decode cX7_live 24 = .ok (.aload_n 0, 1) := by decide +kernel
theorem dX7_live_25 : decode cX7_live 25 = .ok (.getfield 22, 3) := by decide +kernel
theorem dX7_live_28 : decode cX7_live 28 = .ok (.if_icmp .ge 32, 3) := by decide +kernel
theorem dX7_live_31 : decode cX7_live 31 = .ok (.aload_n 0, 1) := by decide +kernel
theorem dX7_live_32 : decode cX7_live 32 = .ok (.iload 5, 2) := by decide +kernel
theorem dX7_live_34 : decode cX7_live 34 = .ok (.invokevirtual 33, 3) := by decide +kernel
theorem dX7_live_37 : decode cX7_live 37 = .ok (.getfield 37, 3) := by decide +kernel
theorem dX7_live_40 : decode cX7_live 40 = .ok (.ifCond .ne 14, 3) := by decide +kernel
theorem dX7_live_43 : decode cX7_live 43 = .ok (.aload_n 0, 1) := by decide +kernel
theorem dX7_live_44 : decode cX7_live 44 = .ok (.aload_n 0, 1) := by decide +kernel
theorem dX7_live_45 : decode cX7_live 45 = .ok (.iload 5, 2) := by decide +kernel
theorem dX7_live_47 : decode cX7_live 47 = .ok (.invokevirtual 33, 3) := by decide +kernel
theorem dX7_live_50 : decode cX7_live 50 = .ok (.aload_n 3, 1) := by decide +kernel
theorem dX7_live_51 : decode cX7_live 51 = .ok (.invokevirtual 88, 3) := by decide +kernel
theorem dX7_live_54 : decode cX7_live 54 = .ok (.iinc 5 1, 3) := by decide +kernel
theorem dX7_live_57 : decode cX7_live 57 = .ok (.goto (-35), 3) := by decide +kernel
theorem dX7_live_60 : decode cX7_live 60 = .ok (.aload_n 0, 1) := by decide +kernel
theorem dX7_live_61 : decode cX7_live 61 = .ok (.aload_n 3, 1) := by decide +kernel
theorem dX7_live_62 : decode cX7_live 62 = .ok (.invokevirtual 92, 3) := by decide +kernel
theorem dX7_live_65 : decode cX7_live 65 = .ok (.iinc 4 1, 3) := by decide +kernel
theorem dX7_live_68 : decode cX7_live 68 = .ok (.goto (-55), 3) := by decide +kernel
theorem dX7_live_71 : decode cX7_live 71 = .ok (.return_, 1) := by decide +kernel
theorem dX7_actByDraw_0 : decode cX7_actByDraw 0 = .ok (.aload_n 0, 1) := by decide +kernel
theorem dX7_actByDraw_1 : decode cX7_actByDraw 1 = .ok (.invokevirtual 96, 3) := by decide +kernel
theorem dX7_actByDraw_4 : decode cX7_actByDraw 4 = .ok (.invokestatic 99, 3) := by decide +kernel
theorem dX7_actByDraw_7 : decode cX7_actByDraw 7 = .ok (.istore_n 3, 1) := by decide +kernel
theorem dX7_actByDraw_8 : decode cX7_actByDraw 8 = .ok (.iload_n 3, 1) := by decide +kernel
theorem dX7_actByDraw_9 : decode cX7_actByDraw 9 = .ok (.bipush 9, 2) := by decide +kernel
theorem dX7_actByDraw_11 : decode cX7_actByDraw 11 = .ok (.if_icmp .eq 43, 3) := by decide +kernel
theorem dX7_actByDraw_14 : decode cX7_actByDraw 14 = .ok (.aload_n 1, 1) := by decide +kernel
theorem dX7_actByDraw_15 : decode cX7_actByDraw 15 = .ok (.iload_n 3, 1) := by decide +kernel
theorem dX7_actByDraw_16 : decode cX7_actByDraw 16 = .ok (.aload_n 2, 1) := by decide +kernel
theorem dX7_actByDraw_17 : decode cX7_actByDraw 17 = .ok (.invokevirtual 102, 3) := by decide +kernel
theorem dX7_actByDraw_20 : decode cX7_actByDraw 20 = .ok (.ifCond .eq 34, 3) := by decide +kernel
theorem dX7_actByDraw_23 : decode cX7_actByDraw 23 = .ok (.aload_n 1, 1) := by decide +kernel
theorem dX7_actByDraw_24 : decode cX7_actByDraw 24 = .ok (.iload_n 3, 1) := by decide +kernel
theorem dX7_actByDraw_25 : decode cX7_actByDraw 25 = .ok (.aload_n 2, 1) := by decide +kernel
theorem dX7_actByDraw_26 : decode cX7_actByDraw 26 = .ok (.aload_n 0, 1) := by decide +kernel
theorem dX7_actByDraw_27 : decode cX7_actByDraw 27 = .ok (.getfield 26, 3) := by decide +kernel
theorem dX7_actByDraw_30 : decode cX7_actByDraw 30 = .ok (.invokevirtual 106, 3) := by decide +kernel
theorem dX7_actByDraw_33 : decode cX7_actByDraw 33 = .ok (.aload_n 0, 1) := by decide +kernel
theorem dX7_actByDraw_34 : decode cX7_actByDraw 34 = .ok (.dup, 1) := by decide +kernel
theorem dX7_actByDraw_35 : decode cX7_actByDraw 35 = .ok (.getfield 82, 3) := by decide +kernel
theorem dX7_actByDraw_38 : decode cX7_actByDraw 38 = .ok (.iload_n 3, 1) := by decide +kernel
theorem dX7_actByDraw_39 : decode cX7_actByDraw 39 = .ok (.invokestatic 110, 3) := by decide +kernel
theorem dX7_actByDraw_42 : decode cX7_actByDraw 42 = .ok (.ifCond .eq 7, 3) := by decide +kernel
theorem dX7_actByDraw_45 : decode cX7_actByDraw 45 = .ok (.iconst 0, 1) := by decide +kernel
theorem dX7_actByDraw_46 : decode cX7_actByDraw 46 = .ok (.goto 4, 3) := by decide +kernel
theorem dX7_actByDraw_49 : decode cX7_actByDraw 49 = .ok (.iconst 1, 1) := by decide +kernel
theorem dX7_actByDraw_50 : decode cX7_actByDraw 50 = .ok (.iadd, 1) := by decide +kernel
theorem dX7_actByDraw_51 : decode cX7_actByDraw 51 = .ok (.putfield 82, 3) := by decide +kernel
theorem dX7_actByDraw_54 : decode cX7_actByDraw 54 = .ok (.return_, 1) := by decide +kernel
theorem dX7_drawn_0 : decode cX7_drawn 0 = .ok (.aload_n 0, 1) := by decide +kernel
theorem dX7_drawn_1 : decode cX7_drawn 1 = .ok (.ldc 113, 2) := by decide +kernel
theorem dX7_drawn_3 : decode cX7_drawn 3 = .ok (.aload_n 0, 1) := by decide +kernel
theorem dX7_drawn_4 : decode cX7_drawn 4 = .ok (.getfield 85, 3) := by decide +kernel
theorem dX7_drawn_7 : decode cX7_drawn 7 = .ok (.imul, 1) := by decide +kernel
theorem dX7_drawn_8 : decode cX7_drawn 8 = .ok (.sipush 12345, 3) := by decide +kernel
theorem dX7_drawn_11 : decode cX7_drawn 11 = .ok (.iadd, 1) := by decide +kernel
theorem dX7_drawn_12 : decode cX7_drawn 12 = .ok (.ldc 114, 2) := by decide +kernel
theorem dX7_drawn_14 : decode cX7_drawn 14 = .ok (.iand, 1) := by decide +kernel
theorem dX7_drawn_15 : decode cX7_drawn 15 = .ok (.putfield 85, 3) := by decide +kernel
theorem dX7_drawn_18 : decode cX7_drawn 18 = .ok (.aload_n 0, 1) := by decide +kernel
theorem dX7_drawn_19 : decode cX7_drawn 19 = .ok (.getfield 85, 3) := by decide +kernel
theorem dX7_drawn_22 : decode cX7_drawn 22 = .ok (.ldc 115, 2) := by decide +kernel
theorem dX7_drawn_24 : decode cX7_drawn 24 = .ok (.idiv, 1) := by decide +kernel
theorem dX7_drawn_25 : decode cX7_drawn 25 = .ok (.bipush 12, 2) := by decide +kernel
theorem dX7_drawn_27 : decode cX7_drawn 27 = .ok (.irem, 1) := by decide +kernel
theorem dX7_drawn_28 : decode cX7_drawn 28 = .ok (.ireturn, 1) := by decide +kernel
theorem dX8_init_0 : decode cX8_init 0 = .ok (.aload_n 0, 1) := by decide +kernel
theorem dX8_init_1 : decode cX8_init 1 = .ok (.invokespecial 1, 3) := by decide +kernel
theorem dX8_init_4 : decode cX8_init 4 = .ok (.aload_n 0, 1) := by decide +kernel
theorem dX8_init_5 : decode cX8_init 5 = .ok (.new 7, 3) := by decide +kernel
theorem dX8_init_8 : decode cX8_init 8 = .ok (.dup, 1) := by decide +kernel
theorem dX8_init_9 : decode cX8_init 9 = .ok (.invokespecial 9, 3) := by decide +kernel
theorem dX8_init_12 : decode cX8_init 12 = .ok (.putfield 10, 3) := by decide +kernel
theorem dX8_init_15 : decode cX8_init 15 = .ok (.aload_n 0, 1) := by decide +kernel
theorem dX8_init_16 : decode cX8_init 16 = .ok (.new 16, 3) := by decide +kernel
theorem dX8_init_19 : decode cX8_init 19 = .ok (.dup, 1) := by decide +kernel
theorem dX8_init_20 : decode cX8_init 20 = .ok (.invokespecial 18, 3) := by decide +kernel
theorem dX8_init_23 : decode cX8_init 23 = .ok (.putfield 19, 3) := by decide +kernel
theorem dX8_init_26 : decode cX8_init 26 = .ok (.aload_n 0, 1) := by decide +kernel
theorem dX8_init_27 : decode cX8_init 27 = .ok (.new 23, 3) := by decide +kernel
theorem dX8_init_30 : decode cX8_init 30 = .ok (.dup, 1) := by decide +kernel
theorem dX8_init_31 : decode cX8_init 31 = .ok (.invokespecial 25, 3) := by decide +kernel
theorem dX8_init_34 : decode cX8_init 34 = .ok (.putfield 26, 3) := by decide +kernel
theorem dX8_init_37 : decode cX8_init 37 = .ok (.aload_n 0, 1) := by decide +kernel
theorem dX8_init_38 : decode cX8_init 38 = .ok (.new 23, 3) := by decide +kernel
theorem dX8_init_41 : decode cX8_init 41 = .ok (.dup, 1) := by decide +kernel
theorem dX8_init_42 : decode cX8_init 42 = .ok (.invokespecial 25, 3) := by decide +kernel
theorem dX8_init_45 : decode cX8_init 45 = .ok (.putfield 30, 3) := by decide +kernel
theorem dX8_init_48 : decode cX8_init 48 = .ok (.aload_n 0, 1) := by decide +kernel
theorem dX8_init_49 : decode cX8_init 49 = .ok (.new 23, 3) := by decide +kernel
theorem dX8_init_52 : decode cX8_init 52 = .ok (.dup, 1) := by decide +kernel
theorem dX8_init_53 : decode cX8_init 53 = .ok (.invokespecial 25, 3) := by decide +kernel
theorem dX8_init_56 : decode cX8_init 56 = .ok (.putfield 33, 3) := by decide +kernel
theorem dX8_init_59 : decode cX8_init 59 = .ok (.aload_n 0, 1) := by decide +kernel
theorem dX8_init_60 : decode cX8_init 60 = .ok (.new 36, 3) := by decide +kernel
theorem dX8_init_63 : decode cX8_init 63 = .ok (.dup, 1) := by decide +kernel
theorem dX8_init_64 : decode cX8_init 64 = .ok (.invokespecial 38, 3) := by decide +kernel
theorem dX8_init_67 : decode cX8_init 67 = .ok (.putfield 39, 3) := by decide +kernel
theorem dX8_init_70 : decode cX8_init 70 = .ok (.aload_n 0, 1) := by decide +kernel
theorem dX8_init_71 : decode cX8_init 71 = .ok (.new 43, 3) := by decide +kernel
theorem dX8_init_74 : decode cX8_init 74 = .ok (.dup, 1) := by decide +kernel
theorem dX8_init_75 : decode cX8_init 75 = .ok (.invokespecial 45, 3) := by decide +kernel
theorem dX8_init_78 : decode cX8_init 78 = .ok (.putfield 46, 3) := by decide +kernel
theorem dX8_init_81 : decode cX8_init 81 = .ok (.aload_n 0, 1) := by decide +kernel
theorem dX8_init_82 : decode cX8_init 82 = .ok (.new 50, 3) := by decide +kernel
theorem dX8_init_85 : decode cX8_init 85 = .ok (.dup, 1) := by decide +kernel
theorem dX8_init_86 : decode cX8_init 86 = .ok (.invokespecial 52, 3) := by decide +kernel
theorem dX8_init_89 : decode cX8_init 89 = .ok (.putfield 53, 3) := by decide +kernel
theorem dX8_init_92 : decode cX8_init 92 = .ok (.return_, 1) := by decide +kernel
theorem dX8_letter_0 : decode cX8_letter 0 = .ok (.iload_n 1, 1) := by decide +kernel
theorem dX8_letter_1 : decode cX8_letter 1 = .ok (.bipush 32, 2) := by decide +kernel
theorem dX8_letter_3 : decode cX8_letter 3 = .ok (.if_icmp .lt 9, 3) := by decide +kernel
theorem dX8_letter_6 : decode cX8_letter 6 = .ok (.iload_n 1, 1) := by decide +kernel
theorem dX8_letter_7 : decode cX8_letter 7 = .ok (.bipush 126, 2) := by decide +kernel
theorem dX8_letter_9 : decode cX8_letter 9 = .ok (.if_icmp .le 6, 3) := by decide +kernel
theorem dX8_letter_12 : decode cX8_letter 12 = .ok (.bipush (-102), 2) := by decide +kernel
theorem dX8_letter_14 : decode cX8_letter 14 = .ok (.ireturn, 1) := by decide +kernel
theorem dX8_letter_15 : decode cX8_letter 15 = .ok (.aload_n 0, 1) := by decide +kernel
theorem dX8_letter_16 : decode cX8_letter 16 = .ok (.getfield 10, 3) := by decide +kernel
theorem dX8_letter_19 : decode cX8_letter 19 = .ok (.invokevirtual 57, 3) := by decide +kernel
theorem dX8_letter_22 : decode cX8_letter 22 = .ok (.ifCond .ne 6, 3) := by decide +kernel
theorem dX8_letter_25 : decode cX8_letter 25 = .ok (.bipush (-104), 2) := by decide +kernel
theorem dX8_letter_27 : decode cX8_letter 27 = .ok (.ireturn, 1) := by decide +kernel
theorem dX8_letter_28 : decode cX8_letter 28 = .ok (.aload_n 0, 1) := by decide +kernel
theorem dX8_letter_29 : decode cX8_letter 29 = .ok (.getfield 10, 3) := by decide +kernel
theorem dX8_letter_32 : decode cX8_letter 32 = .ok (.iload_n 1, 1) := by decide +kernel
theorem dX8_letter_33 : decode cX8_letter 33 = .ok (.invokevirtual 61, 3) := by decide +kernel
theorem dX8_letter_36 : decode cX8_letter 36 = .ok (.aload_n 0, 1) := by decide +kernel
theorem dX8_letter_37 : decode cX8_letter 37 = .ok (.getfield 10, 3) := by decide +kernel
theorem dX8_letter_40 : decode cX8_letter 40 = .ok (.getfield 65, 3) := by decide +kernel
theorem dX8_letter_43 : decode cX8_letter 43 = .ok (.ireturn, 1) := by decide +kernel
theorem dX8_blank_0 : decode cX8_blank 0 = .ok (.aload_n 0, 1) := by decide +kernel
theorem dX8_blank_1 : decode cX8_blank 1 = .ok (.getfield 10, 3) := by decide +kernel
theorem dX8_blank_4 : decode cX8_blank 4 = .ok (.getfield 65, 3) := by decide +kernel
theorem dX8_blank_7 : decode cX8_blank 7 = .ok (.istore_n 1, 1) := by decide +kernel
theorem dX8_blank_8 : decode cX8_blank 8 = .ok (.aload_n 0, 1) := by decide +kernel
theorem dX8_blank_9 : decode cX8_blank 9 = .ok (.getfield 10, 3) := by decide +kernel
theorem dX8_blank_12 : decode cX8_blank 12 = .ok (.iconst 0, 1) := by decide +kernel
theorem dX8_blank_13 : decode cX8_blank 13 = .ok (.putfield 65, 3) := by decide +kernel
theorem dX8_blank_16 : decode cX8_blank 16 = .ok (.iload_n 1, 1) := by decide +kernel
theorem dX8_blank_17 : decode cX8_blank 17 = .ok (.ireturn, 1) := by decide +kernel
theorem dX8_fault_0 : decode cX8_fault 0 = .ok (.aload_n 0, 1) := by decide +kernel
theorem dX8_fault_1 : decode cX8_fault 1 = .ok (.getfield 10, 3) := by decide +kernel
theorem dX8_fault_4 : decode cX8_fault 4 = .ok (.invokevirtual 69, 3) := by decide +kernel
theorem dX8_fault_7 : decode cX8_fault 7 = .ok (.ireturn, 1) := by decide +kernel
theorem dX8_law_0 : decode cX8_law 0 = .ok (.aload_n 0, 1) := by decide +kernel
theorem dX8_law_1 : decode cX8_law 1 = .ok (.getfield 10, 3) := by decide +kernel
theorem dX8_law_4 : decode cX8_law 4 = .ok (.invokevirtual 73, 3) := by decide +kernel
theorem dX8_law_7 : decode cX8_law 7 = .ok (.ifCond .ne 6, 3) := by decide +kernel
theorem dX8_law_10 : decode cX8_law 10 = .ok (.bipush (-103), 2) := by decide +kernel
theorem dX8_law_12 : decode cX8_law 12 = .ok (.ireturn, 1) := by decide +kernel
theorem dX8_law_13 : decode cX8_law 13 = .ok (.aload_n 0, 1) := by decide +kernel
theorem dX8_law_14 : decode cX8_law 14 = .ok (.getfield 19, 3) := by decide +kernel
theorem dX8_law_17 : decode cX8_law 17 = .ok (.aload_n 0, 1) := by decide +kernel
theorem dX8_law_18 : decode cX8_law 18 = .ok (.getfield 10, 3) := by decide +kernel
theorem dX8_law_21 : decode cX8_law 21 = .ok (.getfield 76, 3) := by decide +kernel
theorem dX8_law_24 : decode cX8_law 24 = .ok (.invokevirtual 79, 3) := by decide +kernel
theorem dX8_law_27 : decode cX8_law 27 = .ok (.aload_n 0, 1) := by decide +kernel
theorem dX8_law_28 : decode cX8_law 28 = .ok (.dup, 1) := by decide +kernel
theorem dX8_law_29 : decode cX8_law 29 = .ok (.getfield 83, 3) := by decide +kernel
theorem dX8_law_32 : decode cX8_law 32 = .ok (.iconst 1, 1) := by decide +kernel
theorem dX8_law_33 : decode cX8_law 33 = .ok (.iadd, 1) := by decide +kernel
theorem dX8_law_34 : decode cX8_law 34 = .ok (.putfield 83, 3) := by decide +kernel
theorem dX8_law_37 : decode cX8_law 37 = .ok (.aload_n 0, 1) := by decide +kernel
theorem dX8_law_38 : decode cX8_law 38 = .ok (.getfield 10, 3) := by decide +kernel
theorem dX8_law_41 : decode cX8_law 41 = .ok (.iconst 0, 1) := by decide +kernel
theorem dX8_law_42 : decode cX8_law 42 = .ok (.putfield 65, 3) := by decide +kernel
theorem dX8_law_45 : decode cX8_law 45 = .ok (.aload_n 0, 1) := by decide +kernel
theorem dX8_law_46 : decode cX8_law 46 = .ok (.getfield 53, 3) := by decide +kernel
theorem dX8_law_49 : decode cX8_law 49 = .ok (.invokevirtual 86, 3) := by decide +kernel
theorem dX8_law_52 : decode cX8_law 52 = .ok (.aload_n 0, 1) := by decide +kernel
theorem dX8_law_53 : decode cX8_law 53 = .ok (.getfield 26, 3) := by decide +kernel
theorem dX8_law_56 : decode cX8_law 56 = .ok (.aload_n 0, 1) := by decide +kernel
theorem dX8_law_57 : decode cX8_law 57 = .ok (.getfield 19, 3) := by decide +kernel
theorem dX8_law_60 : decode cX8_law 60 = .ok (.invokevirtual 89, 3) := by decide +kernel
theorem dX8_law_63 : decode cX8_law 63 = .ok (.aload_n 0, 1) := by decide +kernel
theorem dX8_law_64 : decode cX8_law 64 = .ok (.getfield 19, 3) := by decide +kernel
theorem dX8_law_67 : decode cX8_law 67 = .ok (.invokevirtual 92, 3) := by decide +kernel
theorem dX8_law_70 : decode cX8_law 70 = .ok (.ireturn, 1) := by decide +kernel
theorem dX8_deed_0 : decode cX8_deed 0 = .ok (.iload_n 1, 1) := by decide +kernel
theorem dX8_deed_1 : decode cX8_deed 1 = .ok (.invokestatic 95, 3) := by decide +kernel
theorem dX8_deed_4 : decode cX8_deed 4 = .ok (.ifCond .ne 6, 3) := by decide +kernel
theorem dX8_deed_7 : decode cX8_deed 7 = .ok (.bipush (-101), 2) := by decide +kernel
theorem dX8_deed_9 : decode cX8_deed 9 = .ok (.ireturn, 1) := by decide +kernel
theorem dX8_deed_10 : decode cX8_deed 10 = .ok (.iload_n 2, 1) := by decide +kernel
theorem dX8_deed_11 : decode cX8_deed 11 = .ok (.ifCond .lt 8, 3) := by decide +kernel
theorem dX8_deed_14 : decode cX8_deed 14 = .ok (.iload_n 2, 1) := by decide +kernel
theorem dX8_deed_15 : decode cX8_deed 15 = .ok (.iconst 3, 1) := by decide +kernel
theorem dX8_deed_16 : decode cX8_deed 16 = .ok (.if_icmp .lt 6, 3) := by decide +kernel
theorem dX8_deed_19 : decode cX8_deed 19 = .ok (.bipush (-102), 2) := by decide +kernel
theorem dX8_deed_21 : decode cX8_deed 21 = .ok (.ireturn, 1) := by decide +kernel
theorem dX8_deed_22 : decode cX8_deed 22 = .ok (.aload_n 0, 1) := by decide +kernel
theorem dX8_deed_23 : decode cX8_deed 23 = .ok (.getfield 83, 3) := by decide +kernel
theorem dX8_deed_26 : decode cX8_deed 26 = .ok (.ifCond .ne 6, 3) := by decide +kernel
theorem dX8_deed_29 : decode cX8_deed 29 = .ok (.bipush (-103), 2) := by decide +kernel
theorem dX8_deed_31 : decode cX8_deed 31 = .ok (.ireturn, 1) := by decide +kernel
theorem dX8_deed_32 : decode cX8_deed 32 = .ok (.iload_n 2, 1) := by decide +kernel
theorem dX8_deed_33 : decode cX8_deed 33 = .ok (.ifCond .ne 12, 3) := by decide +kernel
theorem dX8_deed_36 : decode cX8_deed 36 = .ok (.aload_n 0, 1) := by decide +kernel
theorem dX8_deed_37 : decode cX8_deed 37 = .ok (.getfield 19, 3) := by decide +kernel
theorem dX8_deed_40 : decode cX8_deed 40 = .ok (.iload_n 1, 1) := by decide +kernel
theorem dX8_deed_41 : decode cX8_deed 41 = .ok (.invokevirtual 99, 3) := by decide +kernel
theorem dX8_deed_44 : decode cX8_deed 44 = .ok (.ireturn, 1) := by decide +kernel
theorem dX8_deed_45 : decode cX8_deed 45 = .ok (.iload_n 2, 1) := by decide +kernel
theorem dX8_deed_46 : decode cX8_deed 46 = .ok (.iconst 1, 1) := by decide +kernel
theorem dX8_deed_47 : decode cX8_deed 47 = .ok (.if_icmp .ne 14, 3) := by decide +kernel
theorem dX8_deed_50 : decode cX8_deed 50 = .ok (.aload_n 0, 1) := by decide +kernel
theorem dX8_deed_51 : decode cX8_deed 51 = .ok (.getfield 19, 3) := by decide +kernel
theorem dX8_deed_54 : decode cX8_deed 54 = .ok (.iload_n 1, 1) := by decide +kernel
theorem dX8_deed_55 : decode cX8_deed 55 = .ok (.invokevirtual 103, 3) := by decide +kernel
theorem dX8_deed_58 : decode cX8_deed 58 = .ok (.goto 11, 3) := by decide +kernel
theorem dX8_deed_61 : decode cX8_deed 61 = .ok (.aload_n 0, 1) := by decide +kernel
theorem dX8_deed_62 : decode cX8_deed 62 = .ok (.getfield 19, 3) := by decide +kernel
theorem dX8_deed_65 : decode cX8_deed 65 = .ok (.iload_n 1, 1) := by decide +kernel
theorem dX8_deed_66 : decode cX8_deed 66 = .ok (.invokevirtual 106, 3) := by decide +kernel
theorem dX8_deed_69 : decode cX8_deed 69 = .ok (.ireturn, 1) := by decide +kernel
theorem dX8_person_0 : decode cX8_person 0 = .ok (.iload_n 1, 1) := by decide +kernel
theorem dX8_person_1 : decode cX8_person 1 = .ok (.invokestatic 109, 3) := by decide +kernel
theorem dX8_person_4 : decode cX8_person 4 = .ok (.ifCond .ne 6, 3) := by decide +kernel
theorem dX8_person_7 : decode cX8_person 7 = .ok (.bipush (-102), 2) := by decide +kernel
theorem dX8_person_9 : decode cX8_person 9 = .ok (.ireturn, 1) := by decide +kernel
theorem dX8_person_10 : decode cX8_person 10 = .ok (.aload_n 0, 1) := by decide +kernel
theorem dX8_person_11 : decode cX8_person 11 = .ok (.getfield 83, 3) := by decide +kernel
theorem dX8_person_14 : decode cX8_person 14 = .ok (.ifCond .ne 6, 3) := by decide +kernel
theorem dX8_person_17 : decode cX8_person 17 = .ok (.bipush (-103), 2) := by decide +kernel
theorem dX8_person_19 : decode cX8_person 19 = .ok (.ireturn, 1) := by decide +kernel
theorem dX8_person_20 : decode cX8_person 20 = .ok (.aload_n 0, 1) := by decide +kernel
theorem dX8_person_21 : decode cX8_person 21 = .ok (.getfield 26, 3) := by decide +kernel
theorem dX8_person_24 : decode cX8_person 24 = .ok (.invokevirtual 114, 3) := by decide +kernel
theorem dX8_person_27 : decode cX8_person 27 = .ok (.ifCond .ne 6, 3) := by decide +kernel
theorem dX8_person_30 : decode cX8_person 30 = .ok (.bipush (-104), 2) := by decide +kernel
theorem dX8_person_32 : decode cX8_person 32 = .ok (.ireturn, 1) := by decide +kernel
theorem dX8_person_33 : decode cX8_person 33 = .ok (.aload_n 0, 1) := by decide +kernel
theorem dX8_person_34 : decode cX8_person 34 = .ok (.getfield 26, 3) := by decide +kernel
theorem dX8_person_37 : decode cX8_person 37 = .ok (.iload_n 1, 1) := by decide +kernel
theorem dX8_person_38 : decode cX8_person 38 = .ok (.invokestatic 115, 3) := by decide +kernel
theorem dX8_person_41 : decode cX8_person 41 = .ok (.invokevirtual 119, 3) := by decide +kernel
theorem dX8_person_44 : decode cX8_person 44 = .ok (.ireturn, 1) := by decide +kernel
theorem dX8_about_0 : decode cX8_about 0 = .ok (.aload_n 0, 1) := by decide +kernel
theorem dX8_about_1 : decode cX8_about 1 = .ok (.getfield 26, 3) := by decide +kernel
theorem dX8_about_4 : decode cX8_about 4 = .ok (.iload_n 1, 1) := by decide +kernel
theorem dX8_about_5 : decode cX8_about 5 = .ok (.invokevirtual 123, 3) := by decide +kernel
theorem dX8_about_8 : decode cX8_about 8 = .ok (.ifCond .ne 6, 3) := by decide +kernel
theorem dX8_about_11 : decode cX8_about 11 = .ok (.bipush (-101), 2) := by decide +kernel
theorem dX8_about_13 : decode cX8_about 13 = .ok (.ireturn, 1) := by decide +kernel
theorem dX8_about_14 : decode cX8_about 14 = .ok (.iload_n 2, 1) := by decide +kernel
theorem dX8_about_15 : decode cX8_about 15 = .ok (.ifCond .lt 9, 3) := by decide +kernel
theorem dX8_about_18 : decode cX8_about 18 = .ok (.iload_n 2, 1) := by decide +kernel
theorem dX8_about_19 : decode cX8_about 19 = .ok (.bipush 10, 2) := by decide +kernel
theorem dX8_about_21 : decode cX8_about 21 = .ok (.if_icmp .lt 6, 3) := by decide +kernel
theorem dX8_about_24 : decode cX8_about 24 = .ok (.bipush (-102), 2) := by decide +kernel
theorem dX8_about_26 : decode cX8_about 26 = .ok (.ireturn, 1) := by decide +kernel
theorem dX8_about_27 : decode cX8_about 27 = .ok (.aload_n 0, 1) := by decide +kernel
theorem dX8_about_28 : decode cX8_about 28 = .ok (.getfield 26, 3) := by decide +kernel
theorem dX8_about_31 : decode cX8_about 31 = .ok (.iload_n 1, 1) := by decide +kernel
theorem dX8_about_32 : decode cX8_about 32 = .ok (.invokevirtual 126, 3) := by decide +kernel
theorem dX8_about_35 : decode cX8_about 35 = .ok (.iload_n 2, 1) := by decide +kernel
theorem dX8_about_36 : decode cX8_about 36 = .ok (.invokevirtual 130, 3) := by decide +kernel
theorem dX8_about_39 : decode cX8_about 39 = .ok (.ireturn, 1) := by decide +kernel
theorem dX8_as_0 : decode cX8_as 0 = .ok (.aload_n 0, 1) := by decide +kernel
theorem dX8_as_1 : decode cX8_as 1 = .ok (.getfield 26, 3) := by decide +kernel
theorem dX8_as_4 : decode cX8_as 4 = .ok (.iload_n 1, 1) := by decide +kernel
theorem dX8_as_5 : decode cX8_as 5 = .ok (.invokevirtual 123, 3) := by decide +kernel
theorem dX8_as_8 : decode cX8_as 8 = .ok (.ifCond .ne 6, 3) := by decide +kernel
theorem dX8_as_11 : decode cX8_as 11 = .ok (.bipush (-101), 2) := by decide +kernel
theorem dX8_as_13 : decode cX8_as 13 = .ok (.ireturn, 1) := by decide +kernel
theorem dX8_as_14 : decode cX8_as 14 = .ok (.iload_n 2, 1) := by decide +kernel
theorem dX8_as_15 : decode cX8_as 15 = .ok (.invokestatic 109, 3) := by decide +kernel
theorem dX8_as_18 : decode cX8_as 18 = .ok (.ifCond .ne 6, 3) := by decide +kernel
theorem dX8_as_21 : decode cX8_as 21 = .ok (.bipush (-102), 2) := by decide +kernel
theorem dX8_as_23 : decode cX8_as 23 = .ok (.ireturn, 1) := by decide +kernel
theorem dX8_as_24 : decode cX8_as 24 = .ok (.aload_n 0, 1) := by decide +kernel
theorem dX8_as_25 : decode cX8_as 25 = .ok (.getfield 26, 3) := by decide +kernel
theorem dX8_as_28 : decode cX8_as 28 = .ok (.iload_n 1, 1) := by decide +kernel
theorem dX8_as_29 : decode cX8_as 29 = .ok (.invokevirtual 126, 3) := by decide +kernel
theorem dX8_as_32 : decode cX8_as 32 = .ok (.getfield 133, 3) := by decide +kernel
theorem dX8_as_35 : decode cX8_as 35 = .ok (.iload_n 2, 1) := by decide +kernel
theorem dX8_as_36 : decode cX8_as 36 = .ok (.invokestatic 115, 3) := by decide +kernel
theorem dX8_as_39 : decode cX8_as 39 = .ok (.invokevirtual 137, 3) := by decide +kernel
theorem dX8_as_42 : decode cX8_as 42 = .ok (.ifCond .eq 7, 3) := by decide +kernel
theorem dX8_as_45 : decode cX8_as 45 = .ok (.iload_n 1, 1) := by decide +kernel
theorem dX8_as_46 : decode cX8_as 46 = .ok (.goto 4, 3) := by decide +kernel
theorem dX8_as_49 : decode cX8_as 49 = .ok (.iconst (-1), 1) := by decide +kernel
theorem dX8_as_50 : decode cX8_as 50 = .ok (.ireturn, 1) := by decide +kernel
theorem dX8_may_0 : decode cX8_may 0 = .ok (.aload_n 0, 1) := by decide +kernel
theorem dX8_may_1 : decode cX8_may 1 = .ok (.getfield 26, 3) := by decide +kernel
theorem dX8_may_4 : decode cX8_may 4 = .ok (.iload_n 1, 1) := by decide +kernel
theorem dX8_may_5 : decode cX8_may 5 = .ok (.invokevirtual 141, 3) := by decide +kernel
theorem dX8_may_8 : decode cX8_may 8 = .ok (.ifCond .eq 10, 3) := by decide +kernel
theorem dX8_may_11 : decode cX8_may 11 = .ok (.iload_n 2, 1) := by decide +kernel
theorem dX8_may_12 : decode cX8_may 12 = .ok (.invokestatic 144, 3) := by decide +kernel
theorem dX8_may_15 : decode cX8_may 15 = .ok (.ifCond .ne 6, 3) := by decide +kernel
theorem dX8_may_18 : decode cX8_may 18 = .ok (.bipush (-101), 2) := by decide +kernel
theorem dX8_may_20 : decode cX8_may 20 = .ok (.ireturn, 1) := by decide +kernel
theorem dX8_may_21 : decode cX8_may 21 = .ok (.aload_n 0, 1) := by decide +kernel
theorem dX8_may_22 : decode cX8_may 22 = .ok (.getfield 26, 3) := by decide +kernel
theorem dX8_may_25 : decode cX8_may 25 = .ok (.iload_n 1, 1) := by decide +kernel
theorem dX8_may_26 : decode cX8_may 26 = .ok (.invokevirtual 126, 3) := by decide +kernel
theorem dX8_may_29 : decode cX8_may 29 = .ok (.iload_n 2, 1) := by decide +kernel
theorem dX8_may_30 : decode cX8_may 30 = .ok (.aload_n 0, 1) := by decide +kernel
theorem dX8_may_31 : decode cX8_may 31 = .ok (.getfield 19, 3) := by decide +kernel
theorem dX8_may_34 : decode cX8_may 34 = .ok (.invokevirtual 147, 3) := by decide +kernel
theorem dX8_may_37 : decode cX8_may 37 = .ok (.ifCond .eq 7, 3) := by decide +kernel
theorem dX8_may_40 : decode cX8_may 40 = .ok (.iconst 1, 1) := by decide +kernel
theorem dX8_may_41 : decode cX8_may 41 = .ok (.goto 4, 3) := by decide +kernel
theorem dX8_may_44 : decode cX8_may 44 = .ok (.iconst 0, 1) := by decide +kernel
theorem dX8_may_45 : decode cX8_may 45 = .ok (.ireturn, 1) := by decide +kernel
theorem dX8_act_0 : decode cX8_act 0 = .ok (.aload_n 0, 1) := by decide +kernel
theorem dX8_act_1 : decode cX8_act 1 = .ok (.getfield 26, 3) := by decide +kernel
theorem dX8_act_4 : decode cX8_act 4 = .ok (.iload_n 1, 1) := by decide +kernel
theorem dX8_act_5 : decode cX8_act 5 = .ok (.invokevirtual 141, 3) := by decide +kernel
theorem dX8_act_8 : decode cX8_act 8 = .ok (.ifCond .eq 10, 3) := by decide +kernel
theorem dX8_act_11 : decode cX8_act 11 = .ok (.iload_n 2, 1) := by decide +kernel
theorem dX8_act_12 : decode cX8_act 12 = .ok (.invokestatic 144, 3) := by decide +kernel
theorem dX8_act_15 : decode cX8_act 15 = .ok (.ifCond .ne 6, 3) := by decide +kernel
theorem dX8_act_18 : decode cX8_act 18 = .ok (.bipush (-101), 2) := by decide +kernel
theorem dX8_act_20 : decode cX8_act 20 = .ok (.ireturn, 1) := by decide +kernel
theorem dX8_act_21 : decode cX8_act 21 = .ok (.aload_n 0, 1) := by decide +kernel
theorem dX8_act_22 : decode cX8_act 22 = .ok (.getfield 26, 3) := by decide +kernel
theorem dX8_act_25 : decode cX8_act 25 = .ok (.iload_n 1, 1) := by decide +kernel
theorem dX8_act_26 : decode cX8_act 26 = .ok (.invokevirtual 126, 3) := by decide +kernel
theorem dX8_act_29 : decode cX8_act 29 = .ok (.astore_n 3, 1) := by decide +kernel
theorem dX8_act_30 : decode cX8_act 30 = .ok (.aload_n 3, 1) := by decide +kernel
theorem dX8_act_31 : decode cX8_act 31 = .ok (.iload_n 2, 1) := by decide +kernel
theorem dX8_act_32 : decode cX8_act 32 = .ok (.aload_n 0, 1) := by decide +kernel
theorem dX8_act_33 : decode cX8_act 33 = .ok (.getfield 19, 3) := by decide +kernel
theorem dX8_act_36 : decode cX8_act 36 = .ok (.invokevirtual 147, 3) := by decide +kernel
theorem dX8_act_39 : decode cX8_act 39 = .ok (.ifCond .ne 6, 3) := by decide +kernel
theorem dX8_act_42 : decode cX8_act 42 = .ok (.bipush (-103), 2) := by decide +kernel
theorem dX8_act_44 : decode cX8_act 44 = .ok (.ireturn, 1) := by decide +kernel
theorem dX8_act_45 : decode cX8_act 45 = .ok (.aload_n 3, 1) := by decide +kernel
theorem dX8_act_46 : decode cX8_act 46 = .ok (.iload_n 2, 1) := by decide +kernel
theorem dX8_act_47 : decode cX8_act 47 = .ok (.aload_n 0, 1) := by decide +kernel
theorem dX8_act_48 : decode cX8_act 48 = .ok (.getfield 19, 3) := by decide +kernel
theorem dX8_act_51 : decode cX8_act 51 = .ok (.aload_n 0, 1) := by decide +kernel
theorem dX8_act_52 : decode cX8_act 52 = .ok (.getfield 26, 3) := by decide +kernel
theorem dX8_act_55 : decode cX8_act 55 = .ok (.getfield 151, 3) := by decide +kernel
theorem dX8_act_58 : decode cX8_act 58 = .ok (.invokevirtual 154, 3) := by decide +kernel
theorem dX8_act_61 : decode cX8_act 61 = .ok (.aload_n 3, 1) := by decide +kernel
theorem dX8_act_62 : decode cX8_act 62 = .ok (.getfield 158, 3) := by decide +kernel
theorem dX8_act_65 : decode cX8_act 65 = .ok (.ireturn, 1) := by decide +kernel
theorem dX8_week_0 : decode cX8_week 0 = .ok (.aload_n 0, 1) := by decide +kernel
theorem dX8_week_1 : decode cX8_week 1 = .ok (.getfield 26, 3) := by decide +kernel
theorem dX8_week_4 : decode cX8_week 4 = .ok (.aload_n 0, 1) := by decide +kernel
theorem dX8_week_5 : decode cX8_week 5 = .ok (.getfield 19, 3) := by decide +kernel
theorem dX8_week_8 : decode cX8_week 8 = .ok (.invokevirtual 161, 3) := by decide +kernel
theorem dX8_week_11 : decode cX8_week 11 = .ok (.aload_n 0, 1) := by decide +kernel
theorem dX8_week_12 : decode cX8_week 12 = .ok (.getfield 26, 3) := by decide +kernel
theorem dX8_week_15 : decode cX8_week 15 = .ok (.getfield 151, 3) := by decide +kernel
theorem dX8_week_18 : decode cX8_week 18 = .ok (.ireturn, 1) := by decide +kernel
theorem dX8_sell_0 : decode cX8_sell 0 = .ok (.aload_n 0, 1) := by decide +kernel
theorem dX8_sell_1 : decode cX8_sell 1 = .ok (.iload_n 1, 1) := by decide +kernel
theorem dX8_sell_2 : decode cX8_sell 2 = .ok (.iload_n 2, 1) := by decide +kernel
theorem dX8_sell_3 : decode cX8_sell 3 = .ok (.invokevirtual 164, 3) := by decide +kernel
theorem dX8_sell_6 : decode cX8_sell 6 = .ok (.ifCond .eq 12, 3) := by decide +kernel
theorem dX8_sell_9 : decode cX8_sell 9 = .ok (.iload_n 3, 1) := by decide +kernel
theorem dX8_sell_10 : decode cX8_sell 10 = .ok (.ifCond .lt 8, 3) := by decide +kernel
theorem dX8_sell_13 : decode cX8_sell 13 = .ok (.iload_n 3, 1) := by decide +kernel
theorem dX8_sell_14 : decode cX8_sell 14 = .ok (.iconst 3, 1) := by decide +kernel
theorem dX8_sell_15 : decode cX8_sell 15 = .ok (.if_icmp .lt 6, 3) := by decide +kernel
theorem dX8_sell_18 : decode cX8_sell 18 = .ok (.bipush (-101), 2) := by decide +kernel
theorem dX8_sell_20 : decode cX8_sell 20 = .ok (.ireturn, 1) := by decide +kernel
theorem dX8_sell_21 : decode cX8_sell 21 = .ok (.aload_n 0, 1) := by decide +kernel
theorem dX8_sell_22 : decode cX8_sell 22 = .ok (.getfield 26, 3) := by decide +kernel
theorem dX8_sell_25 : decode cX8_sell 25 = .ok (.iload_n 1, 1) := by decide +kernel
theorem dX8_sell_26 : decode cX8_sell 26 = .ok (.invokevirtual 126, 3) := by decide +kernel
theorem dX8_sell_29 : decode cX8_sell 29 = .ok (.getfield 168, 3) := by decide +kernel
theorem dX8_sell_32 : decode cX8_sell 32 = .ok (.astore 4, 2) := by decide +kernel
theorem dX8_sell_34 : decode cX8_sell 34 = .ok (.aload_n 0, 1) := by decide +kernel
theorem dX8_sell_35 : decode cX8_sell 35 = .ok (.getfield 26, 3) := by decide +kernel
theorem dX8_sell_38 : decode cX8_sell 38 = .ok (.iload_n 2, 1) := by decide +kernel
theorem dX8_sell_39 : decode cX8_sell 39 = .ok (.invokevirtual 126, 3) := by decide +kernel
theorem dX8_sell_42 : decode cX8_sell 42 = .ok (.getfield 168, 3) := by decide +kernel
theorem dX8_sell_45 : decode cX8_sell 45 = .ok (.astore 5, 2) := by decide +kernel
theorem dX8_sell_47 : decode cX8_sell 47 = .ok (.aload 4, 2) := by decide +kernel
theorem dX8_sell_49 : decode cX8_sell 49 = .ok (.iconst 1, 1) := by decide +kernel
theorem dX8_sell_50 : decode cX8_sell 50 = .ok (.iload_n 3, 1) := by decide +kernel
theorem dX8_sell_51 : decode cX8_sell 51 = .ok (.ishl, 1) := by decide +kernel
theorem dX8_sell_52 : decode cX8_sell 52 = .ok (.invokevirtual 172, 3) := by decide +kernel
theorem dX8_sell_55 : decode cX8_sell 55 = .ok (.istore 6, 2) := by decide +kernel
theorem dX8_sell_57 : decode cX8_sell 57 = .ok (.iload 6, 2) := by decide +kernel
theorem dX8_sell_59 : decode cX8_sell 59 = .ok (.iconst (-1), 1) := by decide +kernel
theorem dX8_sell_60 : decode cX8_sell 60 = .ok (.if_icmp .ne 6, 3) := by decide +kernel
theorem dX8_sell_63 : decode cX8_sell 63 = .ok (.bipush (-103), 2) := by decide +kernel
theorem dX8_sell_65 : decode cX8_sell 65 = .ok (.ireturn, 1) := by decide +kernel
theorem dX8_sell_66 : decode cX8_sell 66 = .ok (.aload 5, 2) := by decide +kernel
theorem dX8_sell_68 : decode cX8_sell 68 = .ok (.invokevirtual 177, 3) := by decide +kernel
theorem dX8_sell_71 : decode cX8_sell 71 = .ok (.ifCond .ne 6, 3) := by decide +kernel
theorem dX8_sell_74 : decode cX8_sell 74 = .ok (.bipush (-104), 2) := by decide +kernel
theorem dX8_sell_76 : decode cX8_sell 76 = .ok (.ireturn, 1) := by decide +kernel
theorem dX8_sell_77 : decode cX8_sell 77 = .ok (.aload 4, 2) := by decide +kernel
theorem dX8_sell_79 : decode cX8_sell 79 = .ok (.iconst 1, 1) := by decide +kernel
theorem dX8_sell_80 : decode cX8_sell 80 = .ok (.iload_n 3, 1) := by decide +kernel
theorem dX8_sell_81 : decode cX8_sell 81 = .ok (.ishl, 1) := by decide +kernel
theorem dX8_sell_82 : decode cX8_sell 82 = .ok (.iconst 1, 1) := by decide +kernel
theorem dX8_sell_83 : decode cX8_sell 83 = .ok (.invokevirtual 178, 3) := by decide +kernel
theorem dX8_sell_86 : decode cX8_sell 86 = .ok (.aload 5, 2) := by decide +kernel
theorem dX8_sell_88 : decode cX8_sell 88 = .ok (.iload_n 3, 1) := by decide +kernel
theorem dX8_sell_89 : decode cX8_sell 89 = .ok (.iload 6, 2) := by decide +kernel
theorem dX8_sell_91 : decode cX8_sell 91 = .ok (.invokevirtual 182, 3) := by decide +kernel
theorem dX8_sell_94 : decode cX8_sell 94 = .ok (.iload 6, 2) := by decide +kernel
theorem dX8_sell_96 : decode cX8_sell 96 = .ok (.ireturn, 1) := by decide +kernel
theorem dX8_leave_0 : decode cX8_leave 0 = .ok (.aload_n 0, 1) := by decide +kernel
end
section
theorem dX8_leave_1 : decode cX8_leave 1 = .ok (.iload_n 1, 1) := by decide +kernel
theorem dX8_leave_2 : decode cX8_leave 2 = .ok (.iload_n 2, 1) := by decide +kernel
theorem dX8_leave_3 : decode cX8_leave 3 = .ok (.invokevirtual 164, 3) := by decide +kernel
theorem dX8_leave_6 : decode cX8_leave 6 = .ok (.ifCond .ne 6, 3) := by decide +kernel
theorem dX8_leave_9 : decode cX8_leave 9 = .ok (.bipush (-101), 2) := by decide +kernel
theorem dX8_leave_11 : decode cX8_leave 11 = .ok (.ireturn, 1) := by decide +kernel
theorem dX8_leave_12 : decode cX8_leave 12 = .ok (.aload_n 0, 1) := by decide +kernel
theorem dX8_leave_13 : decode cX8_leave 13 = .ok (.getfield 26, 3) := by decide +kernel
theorem dX8_leave_16 : decode cX8_leave 16 = .ok (.iload_n 1, 1) := by decide +kernel
theorem dX8_leave_17 : decode cX8_leave 17 = .ok (.invokevirtual 126, 3) := by decide +kernel
theorem dX8_leave_20 : decode cX8_leave 20 = .ok (.astore_n 3, 1) := by decide +kernel
theorem dX8_leave_21 : decode cX8_leave 21 = .ok (.aload_n 3, 1) := by decide +kernel
theorem dX8_leave_22 : decode cX8_leave 22 = .ok (.iconst 1, 1) := by decide +kernel
theorem dX8_leave_23 : decode cX8_leave 23 = .ok (.putfield 185, 3) := by decide +kernel
theorem dX8_leave_26 : decode cX8_leave 26 = .ok (.aload_n 3, 1) := by decide +kernel
theorem dX8_leave_27 : decode cX8_leave 27 = .ok (.iconst 0, 1) := by decide +kernel
theorem dX8_leave_28 : decode cX8_leave 28 = .ok (.putfield 189, 3) := by decide +kernel
theorem dX8_leave_31 : decode cX8_leave 31 = .ok (.aload_n 3, 1) := by decide +kernel
theorem dX8_leave_32 : decode cX8_leave 32 = .ok (.getfield 168, 3) := by decide +kernel
theorem dX8_leave_35 : decode cX8_leave 35 = .ok (.aload_n 0, 1) := by decide +kernel
theorem dX8_leave_36 : decode cX8_leave 36 = .ok (.getfield 26, 3) := by decide +kernel
theorem dX8_leave_39 : decode cX8_leave 39 = .ok (.iload_n 2, 1) := by decide +kernel
theorem dX8_leave_40 : decode cX8_leave 40 = .ok (.invokevirtual 126, 3) := by decide +kernel
theorem dX8_leave_43 : decode cX8_leave 43 = .ok (.getfield 168, 3) := by decide +kernel
theorem dX8_leave_46 : decode cX8_leave 46 = .ok (.invokevirtual 192, 3) := by decide +kernel
theorem dX8_leave_49 : decode cX8_leave 49 = .ok (.ireturn, 1) := by decide +kernel
theorem dX8_amnesty_0 : decode cX8_amnesty 0 = .ok (.aload_n 0, 1) := by decide +kernel
theorem dX8_amnesty_1 : decode cX8_amnesty 1 = .ok (.getfield 26, 3) := by decide +kernel
theorem dX8_amnesty_4 : decode cX8_amnesty 4 = .ok (.invokevirtual 196, 3) := by decide +kernel
theorem dX8_amnesty_7 : decode cX8_amnesty 7 = .ok (.ireturn, 1) := by decide +kernel
theorem dX8_gain_0 : decode cX8_gain 0 = .ok (.aload_n 0, 1) := by decide +kernel
theorem dX8_gain_1 : decode cX8_gain 1 = .ok (.getfield 26, 3) := by decide +kernel
theorem dX8_gain_4 : decode cX8_gain 4 = .ok (.iload_n 1, 1) := by decide +kernel
theorem dX8_gain_5 : decode cX8_gain 5 = .ok (.invokevirtual 141, 3) := by decide +kernel
theorem dX8_gain_8 : decode cX8_gain 8 = .ok (.ifCond .ne 6, 3) := by decide +kernel
theorem dX8_gain_11 : decode cX8_gain 11 = .ok (.bipush (-101), 2) := by decide +kernel
theorem dX8_gain_13 : decode cX8_gain 13 = .ok (.ireturn, 1) := by decide +kernel
theorem dX8_gain_14 : decode cX8_gain 14 = .ok (.iload_n 2, 1) := by decide +kernel
theorem dX8_gain_15 : decode cX8_gain 15 = .ok (.ifCond .lt 18, 3) := by decide +kernel
theorem dX8_gain_18 : decode cX8_gain 18 = .ok (.iload_n 2, 1) := by decide +kernel
theorem dX8_gain_19 : decode cX8_gain 19 = .ok (.bipush 6, 2) := by decide +kernel
theorem dX8_gain_21 : decode cX8_gain 21 = .ok (.if_icmp .gt 12, 3) := by decide +kernel
theorem dX8_gain_24 : decode cX8_gain 24 = .ok (.iload_n 3, 1) := by decide +kernel
theorem dX8_gain_25 : decode cX8_gain 25 = .ok (.ifCond .lt 8, 3) := by decide +kernel
theorem dX8_gain_28 : decode cX8_gain 28 = .ok (.iload_n 3, 1) := by decide +kernel
theorem dX8_gain_29 : decode cX8_gain 29 = .ok (.iconst 1, 1) := by decide +kernel
theorem dX8_gain_30 : decode cX8_gain 30 = .ok (.if_icmp .le 6, 3) := by decide +kernel
theorem dX8_gain_33 : decode cX8_gain 33 = .ok (.bipush (-102), 2) := by decide +kernel
theorem dX8_gain_35 : decode cX8_gain 35 = .ok (.ireturn, 1) := by decide +kernel
theorem dX8_gain_36 : decode cX8_gain 36 = .ok (.aload_n 0, 1) := by decide +kernel
theorem dX8_gain_37 : decode cX8_gain 37 = .ok (.getfield 199, 3) := by decide +kernel
theorem dX8_gain_40 : decode cX8_gain 40 = .ok (.bipush 60, 2) := by decide +kernel
theorem dX8_gain_42 : decode cX8_gain 42 = .ok (.if_icmp .lt 6, 3) := by decide +kernel
theorem dX8_gain_45 : decode cX8_gain 45 = .ok (.bipush (-103), 2) := by decide +kernel
theorem dX8_gain_47 : decode cX8_gain 47 = .ok (.ireturn, 1) := by decide +kernel
theorem dX8_gain_48 : decode cX8_gain 48 = .ok (.aload_n 0, 1) := by decide +kernel
theorem dX8_gain_49 : decode cX8_gain 49 = .ok (.dup, 1) := by decide +kernel
theorem dX8_gain_50 : decode cX8_gain 50 = .ok (.getfield 199, 3) := by decide +kernel
theorem dX8_gain_53 : decode cX8_gain 53 = .ok (.iconst 1, 1) := by decide +kernel
theorem dX8_gain_54 : decode cX8_gain 54 = .ok (.iadd, 1) := by decide +kernel
theorem dX8_gain_55 : decode cX8_gain 55 = .ok (.putfield 199, 3) := by decide +kernel
theorem dX8_gain_58 : decode cX8_gain 58 = .ok (.aload_n 0, 1) := by decide +kernel
theorem dX8_gain_59 : decode cX8_gain 59 = .ok (.getfield 46, 3) := by decide +kernel
theorem dX8_gain_62 : decode cX8_gain 62 = .ok (.aload_n 0, 1) := by decide +kernel
theorem dX8_gain_63 : decode cX8_gain 63 = .ok (.getfield 26, 3) := by decide +kernel
theorem dX8_gain_66 : decode cX8_gain 66 = .ok (.iload_n 1, 1) := by decide +kernel
theorem dX8_gain_67 : decode cX8_gain 67 = .ok (.invokevirtual 126, 3) := by decide +kernel
theorem dX8_gain_70 : decode cX8_gain 70 = .ok (.aload_n 0, 1) := by decide +kernel
theorem dX8_gain_71 : decode cX8_gain 71 = .ok (.getfield 19, 3) := by decide +kernel
theorem dX8_gain_74 : decode cX8_gain 74 = .ok (.aload_n 0, 1) := by decide +kernel
theorem dX8_gain_75 : decode cX8_gain 75 = .ok (.getfield 26, 3) := by decide +kernel
theorem dX8_gain_78 : decode cX8_gain 78 = .ok (.getfield 151, 3) := by decide +kernel
theorem dX8_gain_81 : decode cX8_gain 81 = .ok (.iload_n 2, 1) := by decide +kernel
theorem dX8_gain_82 : decode cX8_gain 82 = .ok (.invokevirtual 202, 3) := by decide +kernel
theorem dX8_gain_85 : decode cX8_gain 85 = .ok (.iload_n 3, 1) := by decide +kernel
theorem dX8_gain_86 : decode cX8_gain 86 = .ok (.ifCond .ne 13, 3) := by decide +kernel
theorem dX8_gain_89 : decode cX8_gain 89 = .ok (.aload_n 0, 1) := by decide +kernel
theorem dX8_gain_90 : decode cX8_gain 90 = .ok (.getfield 46, 3) := by decide +kernel
theorem dX8_gain_93 : decode cX8_gain 93 = .ok (.getfield 206, 3) := by decide +kernel
theorem dX8_gain_96 : decode cX8_gain 96 = .ok (.goto 10, 3) := by decide +kernel
theorem dX8_gain_99 : decode cX8_gain 99 = .ok (.aload_n 0, 1) := by decide +kernel
theorem dX8_gain_100 : decode cX8_gain 100 = .ok (.getfield 46, 3) := by decide +kernel
theorem dX8_gain_103 : decode cX8_gain 103 = .ok (.getfield 209, 3) := by decide +kernel
theorem dX8_gain_106 : decode cX8_gain 106 = .ok (.ireturn, 1) := by decide +kernel
theorem dX8_soon_0 : decode cX8_soon 0 = .ok (.aload_n 0, 1) := by decide +kernel
theorem dX8_soon_1 : decode cX8_soon 1 = .ok (.getfield 26, 3) := by decide +kernel
theorem dX8_soon_4 : decode cX8_soon 4 = .ok (.iload_n 1, 1) := by decide +kernel
theorem dX8_soon_5 : decode cX8_soon 5 = .ok (.invokevirtual 141, 3) := by decide +kernel
theorem dX8_soon_8 : decode cX8_soon 8 = .ok (.ifCond .eq 10, 3) := by decide +kernel
theorem dX8_soon_11 : decode cX8_soon 11 = .ok (.iload_n 2, 1) := by decide +kernel
theorem dX8_soon_12 : decode cX8_soon 12 = .ok (.invokestatic 95, 3) := by decide +kernel
theorem dX8_soon_15 : decode cX8_soon 15 = .ok (.ifCond .ne 6, 3) := by decide +kernel
theorem dX8_soon_18 : decode cX8_soon 18 = .ok (.bipush (-101), 2) := by decide +kernel
theorem dX8_soon_20 : decode cX8_soon 20 = .ok (.ireturn, 1) := by decide +kernel
theorem dX8_soon_21 : decode cX8_soon 21 = .ok (.aload_n 0, 1) := by decide +kernel
theorem dX8_soon_22 : decode cX8_soon 22 = .ok (.getfield 26, 3) := by decide +kernel
theorem dX8_soon_25 : decode cX8_soon 25 = .ok (.iload_n 1, 1) := by decide +kernel
theorem dX8_soon_26 : decode cX8_soon 26 = .ok (.invokevirtual 126, 3) := by decide +kernel
theorem dX8_soon_29 : decode cX8_soon 29 = .ok (.getfield 189, 3) := by decide +kernel
theorem dX8_soon_32 : decode cX8_soon 32 = .ok (.ifCond .le 6, 3) := by decide +kernel
theorem dX8_soon_35 : decode cX8_soon 35 = .ok (.bipush (-103), 2) := by decide +kernel
theorem dX8_soon_37 : decode cX8_soon 37 = .ok (.ireturn, 1) := by decide +kernel
theorem dX8_soon_38 : decode cX8_soon 38 = .ok (.iconst (-1), 1) := by decide +kernel
theorem dX8_soon_39 : decode cX8_soon 39 = .ok (.istore_n 3, 1) := by decide +kernel
theorem dX8_soon_40 : decode cX8_soon 40 = .ok (.iconst 0, 1) := by decide +kernel
theorem dX8_soon_41 : decode cX8_soon 41 = .ok (.istore 4, 2) := by decide +kernel
theorem dX8_soon_43 : decode cX8_soon 43 = .ok (.iload 4, 2) := by decide +kernel
theorem dX8_soon_45 : decode cX8_soon 45 = .ok (.iconst 3, 1) := by decide +kernel
theorem dX8_soon_46 : decode cX8_soon 46 = .ok (.if_icmp .ge 66, 3) := by decide +kernel
theorem dX8_soon_49 : decode cX8_soon 49 = .ok (.aload_n 0, 1) := by decide +kernel
theorem dX8_soon_50 : decode cX8_soon 50 = .ok (.getfield 19, 3) := by decide +kernel
theorem dX8_soon_53 : decode cX8_soon 53 = .ok (.iload_n 2, 1) := by decide +kernel
theorem dX8_soon_54 : decode cX8_soon 54 = .ok (.invokevirtual 106, 3) := by decide +kernel
theorem dX8_soon_57 : decode cX8_soon 57 = .ok (.iconst 1, 1) := by decide +kernel
theorem dX8_soon_58 : decode cX8_soon 58 = .ok (.iload 4, 2) := by decide +kernel
theorem dX8_soon_60 : decode cX8_soon 60 = .ok (.ishl, 1) := by decide +kernel
theorem dX8_soon_61 : decode cX8_soon 61 = .ok (.iand, 1) := by decide +kernel
theorem dX8_soon_62 : decode cX8_soon 62 = .ok (.ifCond .eq 44, 3) := by decide +kernel
theorem dX8_soon_65 : decode cX8_soon 65 = .ok (.aload_n 0, 1) := by decide +kernel
theorem dX8_soon_66 : decode cX8_soon 66 = .ok (.aload_n 0, 1) := by decide +kernel
theorem dX8_soon_67 : decode cX8_soon 67 = .ok (.getfield 26, 3) := by decide +kernel
theorem dX8_soon_70 : decode cX8_soon 70 = .ok (.iload_n 1, 1) := by decide +kernel
theorem dX8_soon_71 : decode cX8_soon 71 = .ok (.invokevirtual 126, 3) := by decide +kernel
theorem dX8_soon_74 : decode cX8_soon 74 = .ok (.iload_n 2, 1) := by decide +kernel
theorem dX8_soon_75 : decode cX8_soon 75 = .ok (.iload 4, 2) := by decide +kernel
theorem dX8_soon_77 : decode cX8_soon 77 = .ok (.invokevirtual 212, 3) := by decide +kernel
theorem dX8_soon_80 : decode cX8_soon 80 = .ok (.istore 5, 2) := by decide +kernel
theorem dX8_soon_82 : decode cX8_soon 82 = .ok (.iload_n 3, 1) := by decide +kernel
theorem dX8_soon_83 : decode cX8_soon 83 = .ok (.iconst (-1), 1) := by decide +kernel
theorem dX8_soon_84 : decode cX8_soon 84 = .ok (.if_icmp .eq 15, 3) := by decide +kernel
theorem dX8_soon_87 : decode cX8_soon 87 = .ok (.iload 5, 2) := by decide +kernel
theorem dX8_soon_89 : decode cX8_soon 89 = .ok (.iconst (-1), 1) := by decide +kernel
theorem dX8_soon_90 : decode cX8_soon 90 = .ok (.if_icmp .eq 14, 3) := by decide +kernel
theorem dX8_soon_93 : decode cX8_soon 93 = .ok (.iload 5, 2) := by decide +kernel
theorem dX8_soon_95 : decode cX8_soon 95 = .ok (.iload_n 3, 1) := by decide +kernel
theorem dX8_soon_96 : decode cX8_soon 96 = .ok (.if_icmp .ge 8, 3) := by decide +kernel
theorem dX8_soon_99 : decode cX8_soon 99 = .ok (.iload 5, 2) := by decide +kernel
theorem dX8_soon_101 : decode cX8_soon 101 = .ok (.goto 4, 3) := by decide +kernel
theorem dX8_soon_104 : decode cX8_soon 104 = .ok (.iload_n 3, 1) := by decide +kernel
theorem dX8_soon_105 : decode cX8_soon 105 = .ok (.istore_n 3, 1) := by decide +kernel
theorem dX8_soon_106 : decode cX8_soon 106 = .ok (.iinc 4 1, 3) := by decide +kernel
theorem dX8_soon_109 : decode cX8_soon 109 = .ok (.goto (-66), 3) := by decide +kernel
theorem dX8_soon_112 : decode cX8_soon 112 = .ok (.iload_n 3, 1) := by decide +kernel
theorem dX8_soon_113 : decode cX8_soon 113 = .ok (.ireturn, 1) := by decide +kernel
theorem dX8_kept_0 : decode cX8_kept 0 = .ok (.iload_n 1, 1) := by decide +kernel
theorem dX8_kept_1 : decode cX8_kept 1 = .ok (.invokestatic 95, 3) := by decide +kernel
theorem dX8_kept_4 : decode cX8_kept 4 = .ok (.ifCond .ne 6, 3) := by decide +kernel
theorem dX8_kept_7 : decode cX8_kept 7 = .ok (.bipush (-101), 2) := by decide +kernel
theorem dX8_kept_9 : decode cX8_kept 9 = .ok (.ireturn, 1) := by decide +kernel
theorem dX8_kept_10 : decode cX8_kept 10 = .ok (.aload_n 0, 1) := by decide +kernel
theorem dX8_kept_11 : decode cX8_kept 11 = .ok (.getfield 83, 3) := by decide +kernel
theorem dX8_kept_14 : decode cX8_kept 14 = .ok (.ifCond .ne 6, 3) := by decide +kernel
theorem dX8_kept_17 : decode cX8_kept 17 = .ok (.bipush (-103), 2) := by decide +kernel
theorem dX8_kept_19 : decode cX8_kept 19 = .ok (.ireturn, 1) := by decide +kernel
theorem dX8_kept_20 : decode cX8_kept 20 = .ok (.iconst 1, 1) := by decide +kernel
theorem dX8_kept_21 : decode cX8_kept 21 = .ok (.istore_n 2, 1) := by decide +kernel
theorem dX8_kept_22 : decode cX8_kept 22 = .ok (.iload_n 2, 1) := by decide +kernel
theorem dX8_kept_23 : decode cX8_kept 23 = .ok (.bipush 9, 2) := by decide +kernel
theorem dX8_kept_25 : decode cX8_kept 25 = .ok (.if_icmp .gt 27, 3) := by decide +kernel
theorem dX8_kept_28 : decode cX8_kept 28 = .ok (.aload_n 0, 1) := by decide +kernel
theorem dX8_kept_29 : decode cX8_kept 29 = .ok (.getfield 26, 3) := by decide +kernel
theorem dX8_kept_32 : decode cX8_kept 32 = .ok (.iload_n 1, 1) := by decide +kernel
theorem dX8_kept_33 : decode cX8_kept 33 = .ok (.iload_n 2, 1) := by decide +kernel
theorem dX8_kept_34 : decode cX8_kept 34 = .ok (.aload_n 0, 1) := by decide +kernel
theorem dX8_kept_35 : decode cX8_kept 35 = .ok (.getfield 19, 3) := by decide +kernel
theorem dX8_kept_38 : decode cX8_kept 38 = .ok (.invokevirtual 216, 3) := by decide +kernel
theorem dX8_kept_41 : decode cX8_kept 41 = .ok (.ifCond .ne 5, 3) := by decide +kernel
theorem dX8_kept_44 : decode cX8_kept 44 = .ok (.iload_n 2, 1) := by decide +kernel
theorem dX8_kept_45 : decode cX8_kept 45 = .ok (.ireturn, 1) := by decide +kernel
theorem dX8_kept_46 : decode cX8_kept 46 = .ok (.iinc 2 1, 3) := by decide +kernel
theorem dX8_kept_49 : decode cX8_kept 49 = .ok (.goto (-27), 3) := by decide +kernel
theorem dX8_kept_52 : decode cX8_kept 52 = .ok (.iconst (-1), 1) := by decide +kernel
theorem dX8_kept_53 : decode cX8_kept 53 = .ok (.ireturn, 1) := by decide +kernel
theorem dX8_book_0 : decode cX8_book 0 = .ok (.aload_n 0, 1) := by decide +kernel
theorem dX8_book_1 : decode cX8_book 1 = .ok (.getfield 26, 3) := by decide +kernel
theorem dX8_book_4 : decode cX8_book 4 = .ok (.iload_n 1, 1) := by decide +kernel
theorem dX8_book_5 : decode cX8_book 5 = .ok (.invokevirtual 141, 3) := by decide +kernel
theorem dX8_book_8 : decode cX8_book 8 = .ok (.ifCond .ne 6, 3) := by decide +kernel
theorem dX8_book_11 : decode cX8_book 11 = .ok (.bipush (-101), 2) := by decide +kernel
theorem dX8_book_13 : decode cX8_book 13 = .ok (.ireturn, 1) := by decide +kernel
theorem dX8_book_14 : decode cX8_book 14 = .ok (.aload_n 0, 1) := by decide +kernel
theorem dX8_book_15 : decode cX8_book 15 = .ok (.getfield 26, 3) := by decide +kernel
theorem dX8_book_18 : decode cX8_book 18 = .ok (.iload_n 1, 1) := by decide +kernel
theorem dX8_book_19 : decode cX8_book 19 = .ok (.invokevirtual 126, 3) := by decide +kernel
theorem dX8_book_22 : decode cX8_book 22 = .ok (.getfield 220, 3) := by decide +kernel
theorem dX8_book_25 : decode cX8_book 25 = .ok (.ifCond .eq 6, 3) := by decide +kernel
theorem dX8_book_28 : decode cX8_book 28 = .ok (.bipush (-103), 2) := by decide +kernel
theorem dX8_book_30 : decode cX8_book 30 = .ok (.ireturn, 1) := by decide +kernel
theorem dX8_book_31 : decode cX8_book 31 = .ok (.aload_n 0, 1) := by decide +kernel
theorem dX8_book_32 : decode cX8_book 32 = .ok (.getfield 53, 3) := by decide +kernel
theorem dX8_book_35 : decode cX8_book 35 = .ok (.getfield 223, 3) := by decide +kernel
theorem dX8_book_38 : decode cX8_book 38 = .ok (.istore_n 2, 1) := by decide +kernel
theorem dX8_book_39 : decode cX8_book 39 = .ok (.aload_n 0, 1) := by decide +kernel
theorem dX8_book_40 : decode cX8_book 40 = .ok (.getfield 53, 3) := by decide +kernel
theorem dX8_book_43 : decode cX8_book 43 = .ok (.aload_n 0, 1) := by decide +kernel
theorem dX8_book_44 : decode cX8_book 44 = .ok (.getfield 26, 3) := by decide +kernel
theorem dX8_book_47 : decode cX8_book 47 = .ok (.iload_n 1, 1) := by decide +kernel
theorem dX8_book_48 : decode cX8_book 48 = .ok (.invokevirtual 126, 3) := by decide +kernel
theorem dX8_book_51 : decode cX8_book 51 = .ok (.aload_n 0, 1) := by decide +kernel
theorem dX8_book_52 : decode cX8_book 52 = .ok (.getfield 26, 3) := by decide +kernel
theorem dX8_book_55 : decode cX8_book 55 = .ok (.getfield 151, 3) := by decide +kernel
theorem dX8_book_58 : decode cX8_book 58 = .ok (.invokevirtual 224, 3) := by decide +kernel
theorem dX8_book_61 : decode cX8_book 61 = .ok (.iload_n 2, 1) := by decide +kernel
theorem dX8_book_62 : decode cX8_book 62 = .ok (.ireturn, 1) := by decide +kernel
theorem dX8_next_0 : decode cX8_next 0 = .ok (.aload_n 0, 1) := by decide +kernel
theorem dX8_next_1 : decode cX8_next 1 = .ok (.getfield 53, 3) := by decide +kernel
theorem dX8_next_4 : decode cX8_next 4 = .ok (.getfield 228, 3) := by decide +kernel
theorem dX8_next_7 : decode cX8_next 7 = .ok (.ifCond .ne 6, 3) := by decide +kernel
theorem dX8_next_10 : decode cX8_next 10 = .ok (.bipush (-103), 2) := by decide +kernel
theorem dX8_next_12 : decode cX8_next 12 = .ok (.ireturn, 1) := by decide +kernel
theorem dX8_next_13 : decode cX8_next 13 = .ok (.iload_n 1, 1) := by decide +kernel
theorem dX8_next_14 : decode cX8_next 14 = .ok (.ifCond .lt 10, 3) := by decide +kernel
theorem dX8_next_17 : decode cX8_next 17 = .ok (.iload_n 1, 1) := by decide +kernel
theorem dX8_next_18 : decode cX8_next 18 = .ok (.sipush 999, 3) := by decide +kernel
theorem dX8_next_21 : decode cX8_next 21 = .ok (.if_icmp .le 6, 3) := by decide +kernel
theorem dX8_next_24 : decode cX8_next 24 = .ok (.bipush (-102), 2) := by decide +kernel
theorem dX8_next_26 : decode cX8_next 26 = .ok (.ireturn, 1) := by decide +kernel
theorem dX8_next_27 : decode cX8_next 27 = .ok (.aload_n 0, 1) := by decide +kernel
theorem dX8_next_28 : decode cX8_next 28 = .ok (.getfield 53, 3) := by decide +kernel
theorem dX8_next_31 : decode cX8_next 31 = .ok (.invokevirtual 231, 3) := by decide +kernel
theorem dX8_next_34 : decode cX8_next 34 = .ok (.ifCond .ne 6, 3) := by decide +kernel
theorem dX8_next_37 : decode cX8_next 37 = .ok (.bipush (-104), 2) := by decide +kernel
theorem dX8_next_39 : decode cX8_next 39 = .ok (.ireturn, 1) := by decide +kernel
theorem dX8_next_40 : decode cX8_next 40 = .ok (.aload_n 0, 1) := by decide +kernel
theorem dX8_next_41 : decode cX8_next 41 = .ok (.getfield 53, 3) := by decide +kernel
theorem dX8_next_44 : decode cX8_next 44 = .ok (.iload_n 1, 1) := by decide +kernel
theorem dX8_next_45 : decode cX8_next 45 = .ok (.invokevirtual 232, 3) := by decide +kernel
theorem dX8_next_48 : decode cX8_next 48 = .ok (.aload_n 0, 1) := by decide +kernel
theorem dX8_next_49 : decode cX8_next 49 = .ok (.getfield 53, 3) := by decide +kernel
theorem dX8_next_52 : decode cX8_next 52 = .ok (.getfield 223, 3) := by decide +kernel
theorem dX8_next_55 : decode cX8_next 55 = .ok (.ireturn, 1) := by decide +kernel
theorem dX8_ways_0 : decode cX8_ways 0 = .ok (.aload_n 0, 1) := by decide +kernel
theorem dX8_ways_1 : decode cX8_ways 1 = .ok (.getfield 53, 3) := by decide +kernel
theorem dX8_ways_4 : decode cX8_ways 4 = .ok (.getfield 228, 3) := by decide +kernel
theorem dX8_ways_7 : decode cX8_ways 7 = .ok (.ifCond .eq 12, 3) := by decide +kernel
theorem dX8_ways_10 : decode cX8_ways 10 = .ok (.aload_n 0, 1) := by decide +kernel
theorem dX8_ways_11 : decode cX8_ways 11 = .ok (.getfield 233, 3) := by decide +kernel
theorem dX8_ways_14 : decode cX8_ways 14 = .ok (.bipush 40, 2) := by decide +kernel
theorem dX8_ways_16 : decode cX8_ways 16 = .ok (.if_icmp .lt 6, 3) := by decide +kernel
theorem dX8_ways_19 : decode cX8_ways 19 = .ok (.bipush (-103), 2) := by decide +kernel
theorem dX8_ways_21 : decode cX8_ways 21 = .ok (.ireturn, 1) := by decide +kernel
theorem dX8_ways_22 : decode cX8_ways 22 = .ok (.aload_n 0, 1) := by decide +kernel
theorem dX8_ways_23 : decode cX8_ways 23 = .ok (.dup, 1) := by decide +kernel
theorem dX8_ways_24 : decode cX8_ways 24 = .ok (.getfield 233, 3) := by decide +kernel
theorem dX8_ways_27 : decode cX8_ways 27 = .ok (.iconst 1, 1) := by decide +kernel
theorem dX8_ways_28 : decode cX8_ways 28 = .ok (.iadd, 1) := by decide +kernel
theorem dX8_ways_29 : decode cX8_ways 29 = .ok (.putfield 233, 3) := by decide +kernel
theorem dX8_ways_32 : decode cX8_ways 32 = .ok (.aload_n 0, 1) := by decide +kernel
theorem dX8_ways_33 : decode cX8_ways 33 = .ok (.getfield 53, 3) := by decide +kernel
theorem dX8_ways_36 : decode cX8_ways 36 = .ok (.aload_n 0, 1) := by decide +kernel
theorem dX8_ways_37 : decode cX8_ways 37 = .ok (.getfield 19, 3) := by decide +kernel
theorem dX8_ways_40 : decode cX8_ways 40 = .ok (.invokevirtual 236, 3) := by decide +kernel
theorem dX8_ways_43 : decode cX8_ways 43 = .ok (.aload_n 0, 1) := by decide +kernel
theorem dX8_ways_44 : decode cX8_ways 44 = .ok (.getfield 53, 3) := by decide +kernel
theorem dX8_ways_47 : decode cX8_ways 47 = .ok (.getfield 239, 3) := by decide +kernel
theorem dX8_ways_50 : decode cX8_ways 50 = .ok (.ireturn, 1) := by decide +kernel
theorem dX8_owed_0 : decode cX8_owed 0 = .ok (.aload_n 0, 1) := by decide +kernel
theorem dX8_owed_1 : decode cX8_owed 1 = .ok (.getfield 53, 3) := by decide +kernel
theorem dX8_owed_4 : decode cX8_owed 4 = .ok (.getfield 228, 3) := by decide +kernel
theorem dX8_owed_7 : decode cX8_owed 7 = .ok (.ifCond .eq 12, 3) := by decide +kernel
theorem dX8_owed_10 : decode cX8_owed 10 = .ok (.aload_n 0, 1) := by decide +kernel
theorem dX8_owed_11 : decode cX8_owed 11 = .ok (.getfield 233, 3) := by decide +kernel
theorem dX8_owed_14 : decode cX8_owed 14 = .ok (.bipush 40, 2) := by decide +kernel
theorem dX8_owed_16 : decode cX8_owed 16 = .ok (.if_icmp .lt 6, 3) := by decide +kernel
theorem dX8_owed_19 : decode cX8_owed 19 = .ok (.bipush (-103), 2) := by decide +kernel
theorem dX8_owed_21 : decode cX8_owed 21 = .ok (.ireturn, 1) := by decide +kernel
theorem dX8_owed_22 : decode cX8_owed 22 = .ok (.aload_n 0, 1) := by decide +kernel
theorem dX8_owed_23 : decode cX8_owed 23 = .ok (.dup, 1) := by decide +kernel
theorem dX8_owed_24 : decode cX8_owed 24 = .ok (.getfield 233, 3) := by decide +kernel
theorem dX8_owed_27 : decode cX8_owed 27 = .ok (.iconst 1, 1) := by decide +kernel
theorem dX8_owed_28 : decode cX8_owed 28 = .ok (.iadd, 1) := by decide +kernel
theorem dX8_owed_29 : decode cX8_owed 29 = .ok (.putfield 233, 3) := by decide +kernel
theorem dX8_owed_32 : decode cX8_owed 32 = .ok (.aload_n 0, 1) := by decide +kernel
theorem dX8_owed_33 : decode cX8_owed 33 = .ok (.getfield 53, 3) := by decide +kernel
theorem dX8_owed_36 : decode cX8_owed 36 = .ok (.aload_n 0, 1) := by decide +kernel
theorem dX8_owed_37 : decode cX8_owed 37 = .ok (.getfield 19, 3) := by decide +kernel
theorem dX8_owed_40 : decode cX8_owed 40 = .ok (.invokevirtual 236, 3) := by decide +kernel
theorem dX8_owed_43 : decode cX8_owed 43 = .ok (.aload_n 0, 1) := by decide +kernel
theorem dX8_owed_44 : decode cX8_owed 44 = .ok (.getfield 53, 3) := by decide +kernel
theorem dX8_owed_47 : decode cX8_owed 47 = .ok (.getfield 242, 3) := by decide +kernel
theorem dX8_owed_50 : decode cX8_owed 50 = .ok (.ireturn, 1) := by decide +kernel
theorem dX8_years_0 : decode cX8_years 0 = .ok (.iload_n 1, 1) := by decide +kernel
theorem dX8_years_1 : decode cX8_years 1 = .ok (.iconst 1, 1) := by decide +kernel
theorem dX8_years_2 : decode cX8_years 2 = .ok (.if_icmp .lt 22, 3) := by decide +kernel
theorem dX8_years_5 : decode cX8_years 5 = .ok (.iload_n 1, 1) := by decide +kernel
theorem dX8_years_6 : decode cX8_years 6 = .ok (.bipush 60, 2) := by decide +kernel
theorem dX8_years_8 : decode cX8_years 8 = .ok (.if_icmp .gt 16, 3) := by decide +kernel
theorem dX8_years_11 : decode cX8_years 11 = .ok (.iload_n 2, 1) := by decide +kernel
theorem dX8_years_12 : decode cX8_years 12 = .ok (.ifCond .lt 12, 3) := by decide +kernel
theorem dX8_years_15 : decode cX8_years 15 = .ok (.iload_n 3, 1) := by decide +kernel
theorem dX8_years_16 : decode cX8_years 16 = .ok (.ifCond .lt 8, 3) := by decide +kernel
theorem dX8_years_19 : decode cX8_years 19 = .ok (.iload_n 3, 1) := by decide +kernel
theorem dX8_years_20 : decode cX8_years 20 = .ok (.iconst 3, 1) := by decide +kernel
theorem dX8_years_21 : decode cX8_years 21 = .ok (.if_icmp .le 6, 3) := by decide +kernel
theorem dX8_years_24 : decode cX8_years 24 = .ok (.bipush (-102), 2) := by decide +kernel
theorem dX8_years_26 : decode cX8_years 26 = .ok (.ireturn, 1) := by decide +kernel
theorem dX8_years_27 : decode cX8_years 27 = .ok (.aload_n 0, 1) := by decide +kernel
theorem dX8_years_28 : decode cX8_years 28 = .ok (.getfield 83, 3) := by decide +kernel
theorem dX8_years_31 : decode cX8_years 31 = .ok (.ifCond .ne 6, 3) := by decide +kernel
theorem dX8_years_34 : decode cX8_years 34 = .ok (.bipush (-103), 2) := by decide +kernel
theorem dX8_years_36 : decode cX8_years 36 = .ok (.ireturn, 1) := by decide +kernel
theorem dX8_years_37 : decode cX8_years 37 = .ok (.aload_n 0, 1) := by decide +kernel
theorem dX8_years_38 : decode cX8_years 38 = .ok (.getfield 33, 3) := by decide +kernel
theorem dX8_years_41 : decode cX8_years 41 = .ok (.aload_n 0, 1) := by decide +kernel
theorem dX8_years_42 : decode cX8_years 42 = .ok (.getfield 26, 3) := by decide +kernel
theorem dX8_years_45 : decode cX8_years 45 = .ok (.invokevirtual 245, 3) := by decide +kernel
theorem dX8_years_48 : decode cX8_years 48 = .ok (.aload_n 0, 1) := by decide +kernel
theorem dX8_years_49 : decode cX8_years 49 = .ok (.getfield 33, 3) := by decide +kernel
theorem dX8_years_52 : decode cX8_years 52 = .ok (.iload_n 1, 1) := by decide +kernel
theorem dX8_years_53 : decode cX8_years 53 = .ok (.iload_n 2, 1) := by decide +kernel
theorem dX8_years_54 : decode cX8_years 54 = .ok (.aload_n 0, 1) := by decide +kernel
theorem dX8_years_55 : decode cX8_years 55 = .ok (.getfield 19, 3) := by decide +kernel
theorem dX8_years_58 : decode cX8_years 58 = .ok (.invokevirtual 248, 3) := by decide +kernel
theorem dX8_years_61 : decode cX8_years 61 = .ok (.iload_n 3, 1) := by decide +kernel
theorem dX8_years_62 : decode cX8_years 62 = .ok (.tableswitch 50 0 2 #[26, 34, 42], 26) := by decide +kernel
theorem dX8_years_88 : decode cX8_years 88 = .ok (.aload_n 0, 1) := by decide +kernel
theorem dX8_years_89 : decode cX8_years 89 = .ok (.getfield 33, 3) := by decide +kernel
theorem dX8_years_92 : decode cX8_years 92 = .ok (.invokevirtual 252, 3) := by decide +kernel
theorem dX8_years_95 : decode cX8_years 95 = .ok (.ireturn, 1) := by decide +kernel
theorem dX8_years_96 : decode cX8_years 96 = .ok (.aload_n 0, 1) := by decide +kernel
theorem dX8_years_97 : decode cX8_years 97 = .ok (.getfield 33, 3) := by decide +kernel
theorem dX8_years_100 : decode cX8_years 100 = .ok (.invokevirtual 255, 3) := by decide +kernel
theorem dX8_years_103 : decode cX8_years 103 = .ok (.ireturn, 1) := by decide +kernel
theorem dX8_years_104 : decode cX8_years 104 = .ok (.aload_n 0, 1) := by decide +kernel
theorem dX8_years_105 : decode cX8_years 105 = .ok (.getfield 33, 3) := by decide +kernel
theorem dX8_years_108 : decode cX8_years 108 = .ok (.getfield 258, 3) := by decide +kernel
theorem dX8_years_111 : decode cX8_years 111 = .ok (.ireturn, 1) := by decide +kernel
theorem dX8_years_112 : decode cX8_years 112 = .ok (.aload_n 0, 1) := by decide +kernel
theorem dX8_years_113 : decode cX8_years 113 = .ok (.getfield 33, 3) := by decide +kernel
theorem dX8_years_116 : decode cX8_years 116 = .ok (.getfield 261, 3) := by decide +kernel
theorem dX8_years_119 : decode cX8_years 119 = .ok (.ireturn, 1) := by decide +kernel
theorem dX8_image_0 : decode cX8_image 0 = .ok (.aload_n 0, 1) := by decide +kernel
theorem dX8_image_1 : decode cX8_image 1 = .ok (.getfield 30, 3) := by decide +kernel
theorem dX8_image_4 : decode cX8_image 4 = .ok (.aload_n 0, 1) := by decide +kernel
theorem dX8_image_5 : decode cX8_image 5 = .ok (.getfield 26, 3) := by decide +kernel
theorem dX8_image_8 : decode cX8_image 8 = .ok (.invokevirtual 245, 3) := by decide +kernel
theorem dX8_image_11 : decode cX8_image 11 = .ok (.aload_n 0, 1) := by decide +kernel
theorem dX8_image_12 : decode cX8_image 12 = .ok (.iconst 1, 1) := by decide +kernel
theorem dX8_image_13 : decode cX8_image 13 = .ok (.putfield 264, 3) := by decide +kernel
theorem dX8_image_16 : decode cX8_image 16 = .ok (.aload_n 0, 1) := by decide +kernel
theorem dX8_image_17 : decode cX8_image 17 = .ok (.getfield 26, 3) := by decide +kernel
theorem dX8_image_20 : decode cX8_image 20 = .ok (.getfield 151, 3) := by decide +kernel
theorem dX8_image_23 : decode cX8_image 23 = .ok (.ireturn, 1) := by decide +kernel
theorem dX8_restore_0 : decode cX8_restore 0 = .ok (.aload_n 0, 1) := by decide +kernel
theorem dX8_restore_1 : decode cX8_restore 1 = .ok (.getfield 264, 3) := by decide +kernel
theorem dX8_restore_4 : decode cX8_restore 4 = .ok (.ifCond .ne 6, 3) := by decide +kernel
theorem dX8_restore_7 : decode cX8_restore 7 = .ok (.bipush (-103), 2) := by decide +kernel
theorem dX8_restore_9 : decode cX8_restore 9 = .ok (.ireturn, 1) := by decide +kernel
theorem dX8_restore_10 : decode cX8_restore 10 = .ok (.aload_n 0, 1) := by decide +kernel
theorem dX8_restore_11 : decode cX8_restore 11 = .ok (.getfield 26, 3) := by decide +kernel
theorem dX8_restore_14 : decode cX8_restore 14 = .ok (.aload_n 0, 1) := by decide +kernel
theorem dX8_restore_15 : decode cX8_restore 15 = .ok (.getfield 30, 3) := by decide +kernel
theorem dX8_restore_18 : decode cX8_restore 18 = .ok (.invokevirtual 245, 3) := by decide +kernel
theorem dX8_restore_21 : decode cX8_restore 21 = .ok (.aload_n 0, 1) := by decide +kernel
theorem dX8_restore_22 : decode cX8_restore 22 = .ok (.getfield 26, 3) := by decide +kernel
theorem dX8_restore_25 : decode cX8_restore 25 = .ok (.aload_n 0, 1) := by decide +kernel
theorem dX8_restore_26 : decode cX8_restore 26 = .ok (.getfield 19, 3) := by decide +kernel
theorem dX8_restore_29 : decode cX8_restore 29 = .ok (.invokevirtual 89, 3) := by decide +kernel
theorem dX8_restore_32 : decode cX8_restore 32 = .ok (.aload_n 0, 1) := by decide +kernel
theorem dX8_restore_33 : decode cX8_restore 33 = .ok (.getfield 53, 3) := by decide +kernel
theorem dX8_restore_36 : decode cX8_restore 36 = .ok (.invokevirtual 86, 3) := by decide +kernel
theorem dX8_restore_39 : decode cX8_restore 39 = .ok (.aload_n 0, 1) := by decide +kernel
theorem dX8_restore_40 : decode cX8_restore 40 = .ok (.getfield 26, 3) := by decide +kernel
theorem dX8_restore_43 : decode cX8_restore 43 = .ok (.getfield 151, 3) := by decide +kernel
theorem dX8_restore_46 : decode cX8_restore 46 = .ok (.ireturn, 1) := by decide +kernel
theorem dX8_count_0 : decode cX8_count 0 = .ok (.iload_n 1, 1) := by decide +kernel
theorem dX8_count_1 : decode cX8_count 1 = .ok (.tableswitch 150 0 11 #[63, 71, 79, 87, 95, 103, 111, 119, 127, 135, 140, 145], 63) := by decide +kernel
theorem dX8_count_64 : decode cX8_count 64 = .ok (.aload_n 0, 1) := by decide +kernel
theorem dX8_count_65 : decode cX8_count 65 = .ok (.getfield 19, 3) := by decide +kernel
theorem dX8_count_68 : decode cX8_count 68 = .ok (.getfield 267, 3) := by decide +kernel
theorem dX8_count_71 : decode cX8_count 71 = .ok (.ireturn, 1) := by decide +kernel
theorem dX8_count_72 : decode cX8_count 72 = .ok (.aload_n 0, 1) := by decide +kernel
theorem dX8_count_73 : decode cX8_count 73 = .ok (.getfield 26, 3) := by decide +kernel
theorem dX8_count_76 : decode cX8_count 76 = .ok (.getfield 270, 3) := by decide +kernel
theorem dX8_count_79 : decode cX8_count 79 = .ok (.ireturn, 1) := by decide +kernel
theorem dX8_count_80 : decode cX8_count 80 = .ok (.aload_n 0, 1) := by decide +kernel
theorem dX8_count_81 : decode cX8_count 81 = .ok (.getfield 26, 3) := by decide +kernel
theorem dX8_count_84 : decode cX8_count 84 = .ok (.invokevirtual 271, 3) := by decide +kernel
theorem dX8_count_87 : decode cX8_count 87 = .ok (.ireturn, 1) := by decide +kernel
theorem dX8_count_88 : decode cX8_count 88 = .ok (.aload_n 0, 1) := by decide +kernel
theorem dX8_count_89 : decode cX8_count 89 = .ok (.getfield 26, 3) := by decide +kernel
theorem dX8_count_92 : decode cX8_count 92 = .ok (.getfield 151, 3) := by decide +kernel
theorem dX8_count_95 : decode cX8_count 95 = .ok (.ireturn, 1) := by decide +kernel
theorem dX8_count_96 : decode cX8_count 96 = .ok (.aload_n 0, 1) := by decide +kernel
theorem dX8_count_97 : decode cX8_count 97 = .ok (.getfield 26, 3) := by decide +kernel
theorem dX8_count_100 : decode cX8_count 100 = .ok (.invokevirtual 255, 3) := by decide +kernel
theorem dX8_count_103 : decode cX8_count 103 = .ok (.ireturn, 1) := by decide +kernel
theorem dX8_count_104 : decode cX8_count 104 = .ok (.aload_n 0, 1) := by decide +kernel
theorem dX8_count_105 : decode cX8_count 105 = .ok (.getfield 26, 3) := by decide +kernel
theorem dX8_count_108 : decode cX8_count 108 = .ok (.invokevirtual 252, 3) := by decide +kernel
theorem dX8_count_111 : decode cX8_count 111 = .ok (.ireturn, 1) := by decide +kernel
theorem dX8_count_112 : decode cX8_count 112 = .ok (.aload_n 0, 1) := by decide +kernel
theorem dX8_count_113 : decode cX8_count 113 = .ok (.getfield 26, 3) := by decide +kernel
theorem dX8_count_116 : decode cX8_count 116 = .ok (.invokevirtual 274, 3) := by decide +kernel
theorem dX8_count_119 : decode cX8_count 119 = .ok (.ireturn, 1) := by decide +kernel
theorem dX8_count_120 : decode cX8_count 120 = .ok (.aload_n 0, 1) := by decide +kernel
theorem dX8_count_121 : decode cX8_count 121 = .ok (.getfield 53, 3) := by decide +kernel
theorem dX8_count_124 : decode cX8_count 124 = .ok (.getfield 223, 3) := by decide +kernel
theorem dX8_count_127 : decode cX8_count 127 = .ok (.ireturn, 1) := by decide +kernel
theorem dX8_count_128 : decode cX8_count 128 = .ok (.aload_n 0, 1) := by decide +kernel
theorem dX8_count_129 : decode cX8_count 129 = .ok (.getfield 10, 3) := by decide +kernel
theorem dX8_count_132 : decode cX8_count 132 = .ok (.getfield 65, 3) := by decide +kernel
theorem dX8_count_135 : decode cX8_count 135 = .ok (.ireturn, 1) := by decide +kernel
theorem dX8_count_136 : decode cX8_count 136 = .ok (.aload_n 0, 1) := by decide +kernel
theorem dX8_count_137 : decode cX8_count 137 = .ok (.getfield 83, 3) := by decide +kernel
theorem dX8_count_140 : decode cX8_count 140 = .ok (.ireturn, 1) := by decide +kernel
theorem dX8_count_141 : decode cX8_count 141 = .ok (.aload_n 0, 1) := by decide +kernel
theorem dX8_count_142 : decode cX8_count 142 = .ok (.getfield 199, 3) := by decide +kernel
theorem dX8_count_145 : decode cX8_count 145 = .ok (.ireturn, 1) := by decide +kernel
theorem dX8_count_146 : decode cX8_count 146 = .ok (.aload_n 0, 1) := by decide +kernel
theorem dX8_count_147 : decode cX8_count 147 = .ok (.getfield 233, 3) := by decide +kernel
theorem dX8_count_150 : decode cX8_count 150 = .ok (.ireturn, 1) := by decide +kernel
theorem dX8_count_151 : decode cX8_count 151 = .ok (.bipush (-102), 2) := by decide +kernel
theorem dX8_count_153 : decode cX8_count 153 = .ok (.ireturn, 1) := by decide +kernel
theorem dX8_digest_0 : decode cX8_digest 0 = .ok (.ldc2_w 277, 3) := by decide +kernel
theorem dX8_digest_3 : decode cX8_digest 3 = .ok (.lstore_n 1, 1) := by decide +kernel
theorem dX8_digest_4 : decode cX8_digest 4 = .ok (.iconst 0, 1) := by decide +kernel
theorem dX8_digest_5 : decode cX8_digest 5 = .ok (.istore_n 3, 1) := by decide +kernel
theorem dX8_digest_6 : decode cX8_digest 6 = .ok (.aload_n 0, 1) := by decide +kernel
theorem dX8_digest_7 : decode cX8_digest 7 = .ok (.getfield 83, 3) := by decide +kernel
theorem dX8_digest_10 : decode cX8_digest 10 = .ok (.ifCond .le 21, 3) := by decide +kernel
theorem dX8_digest_13 : decode cX8_digest 13 = .ok (.iload_n 3, 1) := by decide +kernel
theorem dX8_digest_14 : decode cX8_digest 14 = .ok (.iconst 4, 1) := by decide +kernel
theorem dX8_digest_15 : decode cX8_digest 15 = .ok (.if_icmp .ge 16, 3) := by decide +kernel
theorem dX8_digest_18 : decode cX8_digest 18 = .ok (.aload_n 0, 1) := by decide +kernel
theorem dX8_digest_19 : decode cX8_digest 19 = .ok (.lload_n 1, 1) := by decide +kernel
theorem dX8_digest_20 : decode cX8_digest 20 = .ok (.iload_n 3, 1) := by decide +kernel
theorem dX8_digest_21 : decode cX8_digest 21 = .ok (.invokevirtual 279, 3) := by decide +kernel
theorem dX8_digest_24 : decode cX8_digest 24 = .ok (.lstore_n 1, 1) := by decide +kernel
theorem dX8_digest_25 : decode cX8_digest 25 = .ok (.iinc 3 1, 3) := by decide +kernel
theorem dX8_digest_28 : decode cX8_digest 28 = .ok (.goto (-22), 3) := by decide +kernel
theorem dX8_digest_31 : decode cX8_digest 31 = .ok (.iconst 0, 1) := by decide +kernel
theorem dX8_digest_32 : decode cX8_digest 32 = .ok (.istore_n 3, 1) := by decide +kernel
theorem dX8_digest_33 : decode cX8_digest 33 = .ok (.iload_n 3, 1) := by decide +kernel
theorem dX8_digest_34 : decode cX8_digest 34 = .ok (.aload_n 0, 1) := by decide +kernel
theorem dX8_digest_35 : decode cX8_digest 35 = .ok (.getfield 26, 3) := by decide +kernel
theorem dX8_digest_38 : decode cX8_digest 38 = .ok (.getfield 270, 3) := by decide +kernel
theorem dX8_digest_41 : decode cX8_digest 41 = .ok (.if_icmp .ge 16, 3) := by decide +kernel
theorem dX8_digest_44 : decode cX8_digest 44 = .ok (.aload_n 0, 1) := by decide +kernel
theorem dX8_digest_45 : decode cX8_digest 45 = .ok (.lload_n 1, 1) := by decide +kernel
theorem dX8_digest_46 : decode cX8_digest 46 = .ok (.iload_n 3, 1) := by decide +kernel
theorem dX8_digest_47 : decode cX8_digest 47 = .ok (.invokevirtual 283, 3) := by decide +kernel
theorem dX8_digest_50 : decode cX8_digest 50 = .ok (.lstore_n 1, 1) := by decide +kernel
theorem dX8_digest_51 : decode cX8_digest 51 = .ok (.iinc 3 1, 3) := by decide +kernel
theorem dX8_digest_54 : decode cX8_digest 54 = .ok (.goto (-21), 3) := by decide +kernel
theorem dX8_digest_57 : decode cX8_digest 57 = .ok (.iconst 0, 1) := by decide +kernel
theorem dX8_digest_58 : decode cX8_digest 58 = .ok (.istore_n 3, 1) := by decide +kernel
theorem dX8_digest_59 : decode cX8_digest 59 = .ok (.iload_n 3, 1) := by decide +kernel
theorem dX8_digest_60 : decode cX8_digest 60 = .ok (.aload_n 0, 1) := by decide +kernel
theorem dX8_digest_61 : decode cX8_digest 61 = .ok (.getfield 10, 3) := by decide +kernel
theorem dX8_digest_64 : decode cX8_digest 64 = .ok (.getfield 65, 3) := by decide +kernel
theorem dX8_digest_67 : decode cX8_digest 67 = .ok (.if_icmp .ge 25, 3) := by decide +kernel
theorem dX8_digest_70 : decode cX8_digest 70 = .ok (.ldc2_w 286, 3) := by decide +kernel
theorem dX8_digest_73 : decode cX8_digest 73 = .ok (.lload_n 1, 1) := by decide +kernel
theorem dX8_digest_74 : decode cX8_digest 74 = .ok (.lmul, 1) := by decide +kernel
theorem dX8_digest_75 : decode cX8_digest 75 = .ok (.aload_n 0, 1) := by decide +kernel
theorem dX8_digest_76 : decode cX8_digest 76 = .ok (.getfield 10, 3) := by decide +kernel
theorem dX8_digest_79 : decode cX8_digest 79 = .ok (.iload_n 3, 1) := by decide +kernel
theorem dX8_digest_80 : decode cX8_digest 80 = .ok (.invokevirtual 288, 3) := by decide +kernel
theorem dX8_digest_83 : decode cX8_digest 83 = .ok (.i2l, 1) := by decide +kernel
theorem dX8_digest_84 : decode cX8_digest 84 = .ok (.ladd, 1) := by decide +kernel
theorem dX8_digest_85 : decode cX8_digest 85 = .ok (.lstore_n 1, 1) := by decide +kernel
theorem dX8_digest_86 : decode cX8_digest 86 = .ok (.iinc 3 1, 3) := by decide +kernel
theorem dX8_digest_89 : decode cX8_digest 89 = .ok (.goto (-30), 3) := by decide +kernel
theorem dX8_digest_92 : decode cX8_digest 92 = .ok (.iconst 0, 1) := by decide +kernel
theorem dX8_digest_93 : decode cX8_digest 93 = .ok (.istore_n 3, 1) := by decide +kernel
theorem dX8_digest_94 : decode cX8_digest 94 = .ok (.iload_n 3, 1) := by decide +kernel
theorem dX8_digest_95 : decode cX8_digest 95 = .ok (.bipush 12, 2) := by decide +kernel
theorem dX8_digest_97 : decode cX8_digest 97 = .ok (.if_icmp .ge 22, 3) := by decide +kernel
theorem dX8_digest_100 : decode cX8_digest 100 = .ok (.ldc2_w 286, 3) := by decide +kernel
theorem dX8_digest_103 : decode cX8_digest 103 = .ok (.lload_n 1, 1) := by decide +kernel
theorem dX8_digest_104 : decode cX8_digest 104 = .ok (.lmul, 1) := by decide +kernel
theorem dX8_digest_105 : decode cX8_digest 105 = .ok (.aload_n 0, 1) := by decide +kernel
theorem dX8_digest_106 : decode cX8_digest 106 = .ok (.iload_n 3, 1) := by decide +kernel
theorem dX8_digest_107 : decode cX8_digest 107 = .ok (.invokevirtual 291, 3) := by decide +kernel
theorem dX8_digest_110 : decode cX8_digest 110 = .ok (.i2l, 1) := by decide +kernel
theorem dX8_digest_111 : decode cX8_digest 111 = .ok (.ladd, 1) := by decide +kernel
theorem dX8_digest_112 : decode cX8_digest 112 = .ok (.lstore_n 1, 1) := by decide +kernel
theorem dX8_digest_113 : decode cX8_digest 113 = .ok (.iinc 3 1, 3) := by decide +kernel
theorem dX8_digest_116 : decode cX8_digest 116 = .ok (.goto (-22), 3) := by decide +kernel
theorem dX8_digest_119 : decode cX8_digest 119 = .ok (.lload_n 1, 1) := by decide +kernel
theorem dX8_digest_120 : decode cX8_digest 120 = .ok (.lreturn, 1) := by decide +kernel
theorem dX8_withDeed_0 : decode cX8_withDeed 0 = .ok (.lload_n 1, 1) := by decide +kernel
theorem dX8_withDeed_1 : decode cX8_withDeed 1 = .ok (.lstore 4, 2) := by decide +kernel
theorem dX8_withDeed_3 : decode cX8_withDeed 3 = .ok (.iconst 0, 1) := by decide +kernel
theorem dX8_withDeed_4 : decode cX8_withDeed 4 = .ok (.istore 6, 2) := by decide +kernel
theorem dX8_withDeed_6 : decode cX8_withDeed 6 = .ok (.iload 6, 2) := by decide +kernel
theorem dX8_withDeed_8 : decode cX8_withDeed 8 = .ok (.iconst 3, 1) := by decide +kernel
theorem dX8_withDeed_9 : decode cX8_withDeed 9 = .ok (.if_icmp .ge 26, 3) := by decide +kernel
theorem dX8_withDeed_12 : decode cX8_withDeed 12 = .ok (.ldc2_w 286, 3) := by decide +kernel
theorem dX8_withDeed_15 : decode cX8_withDeed 15 = .ok (.lload 4, 2) := by decide +kernel
theorem dX8_withDeed_17 : decode cX8_withDeed 17 = .ok (.lmul, 1) := by decide +kernel
theorem dX8_withDeed_18 : decode cX8_withDeed 18 = .ok (.aload_n 0, 1) := by decide +kernel
theorem dX8_withDeed_19 : decode cX8_withDeed 19 = .ok (.iload_n 3, 1) := by decide +kernel
theorem dX8_withDeed_20 : decode cX8_withDeed 20 = .ok (.iload 6, 2) := by decide +kernel
theorem dX8_withDeed_22 : decode cX8_withDeed 22 = .ok (.invokevirtual 294, 3) := by decide +kernel
theorem dX8_withDeed_25 : decode cX8_withDeed 25 = .ok (.i2l, 1) := by decide +kernel
theorem dX8_withDeed_26 : decode cX8_withDeed 26 = .ok (.ladd, 1) := by decide +kernel
theorem dX8_withDeed_27 : decode cX8_withDeed 27 = .ok (.lstore 4, 2) := by decide +kernel
theorem dX8_withDeed_29 : decode cX8_withDeed 29 = .ok (.iinc 6 1, 3) := by decide +kernel
theorem dX8_withDeed_32 : decode cX8_withDeed 32 = .ok (.goto (-26), 3) := by decide +kernel
theorem dX8_withDeed_35 : decode cX8_withDeed 35 = .ok (.ldc2_w 286, 3) := by decide +kernel
theorem dX8_withDeed_38 : decode cX8_withDeed 38 = .ok (.lload 4, 2) := by decide +kernel
theorem dX8_withDeed_40 : decode cX8_withDeed 40 = .ok (.lmul, 1) := by decide +kernel
theorem dX8_withDeed_41 : decode cX8_withDeed 41 = .ok (.aload_n 0, 1) := by decide +kernel
theorem dX8_withDeed_42 : decode cX8_withDeed 42 = .ok (.iload_n 3, 1) := by decide +kernel
theorem dX8_withDeed_43 : decode cX8_withDeed 43 = .ok (.invokevirtual 298, 3) := by decide +kernel
theorem dX8_withDeed_46 : decode cX8_withDeed 46 = .ok (.i2l, 1) := by decide +kernel
theorem dX8_withDeed_47 : decode cX8_withDeed 47 = .ok (.ladd, 1) := by decide +kernel
theorem dX8_withDeed_48 : decode cX8_withDeed 48 = .ok (.lreturn, 1) := by decide +kernel
theorem dX8_withPerson_0 : decode cX8_withPerson 0 = .ok (.lload_n 1, 1) := by decide +kernel
theorem dX8_withPerson_1 : decode cX8_withPerson 1 = .ok (.lstore 4, 2) := by decide +kernel
theorem dX8_withPerson_3 : decode cX8_withPerson 3 = .ok (.iconst 0, 1) := by decide +kernel
theorem dX8_withPerson_4 : decode cX8_withPerson 4 = .ok (.istore 6, 2) := by decide +kernel
theorem dX8_withPerson_6 : decode cX8_withPerson 6 = .ok (.iload 6, 2) := by decide +kernel
theorem dX8_withPerson_8 : decode cX8_withPerson 8 = .ok (.bipush 10, 2) := by decide +kernel
theorem dX8_withPerson_10 : decode cX8_withPerson 10 = .ok (.if_icmp .ge 26, 3) := by decide +kernel
theorem dX8_withPerson_13 : decode cX8_withPerson 13 = .ok (.ldc2_w 286, 3) := by decide +kernel
theorem dX8_withPerson_16 : decode cX8_withPerson 16 = .ok (.lload 4, 2) := by decide +kernel
theorem dX8_withPerson_18 : decode cX8_withPerson 18 = .ok (.lmul, 1) := by decide +kernel
theorem dX8_withPerson_19 : decode cX8_withPerson 19 = .ok (.aload_n 0, 1) := by decide +kernel
theorem dX8_withPerson_20 : decode cX8_withPerson 20 = .ok (.iload_n 3, 1) := by decide +kernel
theorem dX8_withPerson_21 : decode cX8_withPerson 21 = .ok (.iload 6, 2) := by decide +kernel
theorem dX8_withPerson_23 : decode cX8_withPerson 23 = .ok (.invokevirtual 301, 3) := by decide +kernel
theorem dX8_withPerson_26 : decode cX8_withPerson 26 = .ok (.i2l, 1) := by decide +kernel
theorem dX8_withPerson_27 : decode cX8_withPerson 27 = .ok (.ladd, 1) := by decide +kernel
theorem dX8_withPerson_28 : decode cX8_withPerson 28 = .ok (.lstore 4, 2) := by decide +kernel
theorem dX8_withPerson_30 : decode cX8_withPerson 30 = .ok (.iinc 6 1, 3) := by decide +kernel
theorem dX8_withPerson_33 : decode cX8_withPerson 33 = .ok (.goto (-27), 3) := by decide +kernel
theorem dX8_withPerson_36 : decode cX8_withPerson 36 = .ok (.iconst 0, 1) := by decide +kernel
theorem dX8_withPerson_37 : decode cX8_withPerson 37 = .ok (.istore 6, 2) := by decide +kernel
theorem dX8_withPerson_39 : decode cX8_withPerson 39 = .ok (.aload_n 0, 1) := by decide +kernel
theorem dX8_withPerson_40 : decode cX8_withPerson 40 = .ok (.getfield 26, 3) := by decide +kernel
theorem dX8_withPerson_43 : decode cX8_withPerson 43 = .ok (.iload_n 3, 1) := by decide +kernel
theorem dX8_withPerson_44 : decode cX8_withPerson 44 = .ok (.invokevirtual 141, 3) := by decide +kernel
theorem dX8_withPerson_47 : decode cX8_withPerson 47 = .ok (.ifCond .eq 32, 3) := by decide +kernel
theorem dX8_withPerson_50 : decode cX8_withPerson 50 = .ok (.iload 6, 2) := by decide +kernel
theorem dX8_withPerson_52 : decode cX8_withPerson 52 = .ok (.iconst 4, 1) := by decide +kernel
theorem dX8_withPerson_53 : decode cX8_withPerson 53 = .ok (.if_icmp .ge 26, 3) := by decide +kernel
theorem dX8_withPerson_56 : decode cX8_withPerson 56 = .ok (.ldc2_w 286, 3) := by decide +kernel
theorem dX8_withPerson_59 : decode cX8_withPerson 59 = .ok (.lload 4, 2) := by decide +kernel
theorem dX8_withPerson_61 : decode cX8_withPerson 61 = .ok (.lmul, 1) := by decide +kernel
theorem dX8_withPerson_62 : decode cX8_withPerson 62 = .ok (.aload_n 0, 1) := by decide +kernel
theorem dX8_withPerson_63 : decode cX8_withPerson 63 = .ok (.iload_n 3, 1) := by decide +kernel
theorem dX8_withPerson_64 : decode cX8_withPerson 64 = .ok (.iload 6, 2) := by decide +kernel
theorem dX8_withPerson_66 : decode cX8_withPerson 66 = .ok (.invokevirtual 304, 3) := by decide +kernel
theorem dX8_withPerson_69 : decode cX8_withPerson 69 = .ok (.i2l, 1) := by decide +kernel
theorem dX8_withPerson_70 : decode cX8_withPerson 70 = .ok (.ladd, 1) := by decide +kernel
theorem dX8_withPerson_71 : decode cX8_withPerson 71 = .ok (.lstore 4, 2) := by decide +kernel
theorem dX8_withPerson_73 : decode cX8_withPerson 73 = .ok (.iinc 6 1, 3) := by decide +kernel
theorem dX8_withPerson_76 : decode cX8_withPerson 76 = .ok (.goto (-37), 3) := by decide +kernel
theorem dX8_withPerson_79 : decode cX8_withPerson 79 = .ok (.lload 4, 2) := by decide +kernel
theorem dX8_withPerson_81 : decode cX8_withPerson 81 = .ok (.lreturn, 1) := by decide +kernel
theorem dX8_weeksOfServing_0 : decode cX8_weeksOfServing 0 = .ok (.aload_n 0, 1) := by decide +kernel
theorem dX8_weeksOfServing_1 : decode cX8_weeksOfServing 1 = .ok (.getfield 26, 3) := by decide +kernel
theorem dX8_weeksOfServing_4 : decode cX8_weeksOfServing 4 = .ok (.getfield 151, 3) := by decide +kernel
theorem dX8_weeksOfServing_7 : decode cX8_weeksOfServing 7 = .ok (.istore 4, 2) := by decide +kernel
theorem dX8_weeksOfServing_9 : decode cX8_weeksOfServing 9 = .ok (.aload_n 0, 1) := by decide +kernel
theorem dX8_weeksOfServing_10 : decode cX8_weeksOfServing 10 = .ok (.getfield 39, 3) := by decide +kernel
theorem dX8_weeksOfServing_13 : decode cX8_weeksOfServing 13 = .ok (.aload_n 1, 1) := by decide +kernel
theorem dX8_weeksOfServing_14 : decode cX8_weeksOfServing 14 = .ok (.invokevirtual 307, 3) := by decide +kernel
theorem dX8_weeksOfServing_17 : decode cX8_weeksOfServing 17 = .ok (.aload_n 0, 1) := by decide +kernel
theorem dX8_weeksOfServing_18 : decode cX8_weeksOfServing 18 = .ok (.getfield 39, 3) := by decide +kernel
theorem dX8_weeksOfServing_21 : decode cX8_weeksOfServing 21 = .ok (.getfield 220, 3) := by decide +kernel
theorem dX8_weeksOfServing_24 : decode cX8_weeksOfServing 24 = .ok (.ifCond .eq 19, 3) := by decide +kernel
theorem dX8_weeksOfServing_27 : decode cX8_weeksOfServing 27 = .ok (.iinc 4 1, 3) := by decide +kernel
theorem dX8_weeksOfServing_30 : decode cX8_weeksOfServing 30 = .ok (.aload_n 0, 1) := by decide +kernel
theorem dX8_weeksOfServing_31 : decode cX8_weeksOfServing 31 = .ok (.getfield 39, 3) := by decide +kernel
theorem dX8_weeksOfServing_34 : decode cX8_weeksOfServing 34 = .ok (.iload 4, 2) := by decide +kernel
theorem dX8_weeksOfServing_36 : decode cX8_weeksOfServing 36 = .ok (.aload_n 0, 1) := by decide +kernel
theorem dX8_weeksOfServing_37 : decode cX8_weeksOfServing 37 = .ok (.getfield 19, 3) := by decide +kernel
theorem dX8_weeksOfServing_40 : decode cX8_weeksOfServing 40 = .ok (.invokevirtual 310, 3) := by decide +kernel
theorem dX8_weeksOfServing_43 : decode cX8_weeksOfServing 43 = .ok (.iconst 0, 1) := by decide +kernel
theorem dX8_weeksOfServing_44 : decode cX8_weeksOfServing 44 = .ok (.istore 5, 2) := by decide +kernel
theorem dX8_weeksOfServing_46 : decode cX8_weeksOfServing 46 = .ok (.iload 5, 2) := by decide +kernel
theorem dX8_weeksOfServing_48 : decode cX8_weeksOfServing 48 = .ok (.bipush 9, 2) := by decide +kernel
theorem dX8_weeksOfServing_50 : decode cX8_weeksOfServing 50 = .ok (.if_icmp .gt 66, 3) := by decide +kernel
theorem dX8_weeksOfServing_53 : decode cX8_weeksOfServing 53 = .ok (.aload_n 0, 1) := by decide +kernel
theorem dX8_weeksOfServing_54 : decode cX8_weeksOfServing 54 = .ok (.getfield 39, 3) := by decide +kernel
theorem dX8_weeksOfServing_57 : decode cX8_weeksOfServing 57 = .ok (.iload_n 2, 1) := by decide +kernel
theorem dX8_weeksOfServing_58 : decode cX8_weeksOfServing 58 = .ok (.aload_n 0, 1) := by decide +kernel
theorem dX8_weeksOfServing_59 : decode cX8_weeksOfServing 59 = .ok (.getfield 19, 3) := by decide +kernel
theorem dX8_weeksOfServing_62 : decode cX8_weeksOfServing 62 = .ok (.iload_n 2, 1) := by decide +kernel
theorem dX8_weeksOfServing_63 : decode cX8_weeksOfServing 63 = .ok (.invokevirtual 99, 3) := by decide +kernel
theorem dX8_weeksOfServing_66 : decode cX8_weeksOfServing 66 = .ok (.iconst 0, 1) := by decide +kernel
theorem dX8_weeksOfServing_67 : decode cX8_weeksOfServing 67 = .ok (.aload_n 0, 1) := by decide +kernel
theorem dX8_weeksOfServing_68 : decode cX8_weeksOfServing 68 = .ok (.getfield 19, 3) := by decide +kernel
theorem dX8_weeksOfServing_71 : decode cX8_weeksOfServing 71 = .ok (.invokevirtual 314, 3) := by decide +kernel
theorem dX8_weeksOfServing_74 : decode cX8_weeksOfServing 74 = .ok (.ifCond .eq 6, 3) := by decide +kernel
theorem dX8_weeksOfServing_77 : decode cX8_weeksOfServing 77 = .ok (.iload 5, 2) := by decide +kernel
theorem dX8_weeksOfServing_79 : decode cX8_weeksOfServing 79 = .ok (.ireturn, 1) := by decide +kernel
theorem dX8_weeksOfServing_80 : decode cX8_weeksOfServing 80 = .ok (.aload_n 0, 1) := by decide +kernel
theorem dX8_weeksOfServing_81 : decode cX8_weeksOfServing 81 = .ok (.getfield 39, 3) := by decide +kernel
theorem dX8_weeksOfServing_84 : decode cX8_weeksOfServing 84 = .ok (.iload_n 3, 1) := by decide +kernel
theorem dX8_weeksOfServing_85 : decode cX8_weeksOfServing 85 = .ok (.aload_n 0, 1) := by decide +kernel
theorem dX8_weeksOfServing_86 : decode cX8_weeksOfServing 86 = .ok (.getfield 19, 3) := by decide +kernel
theorem dX8_weeksOfServing_89 : decode cX8_weeksOfServing 89 = .ok (.iload 4, 2) := by decide +kernel
theorem dX8_weeksOfServing_91 : decode cX8_weeksOfServing 91 = .ok (.invokevirtual 154, 3) := by decide +kernel
theorem dX8_weeksOfServing_94 : decode cX8_weeksOfServing 94 = .ok (.iinc 4 1, 3) := by decide +kernel
theorem dX8_weeksOfServing_97 : decode cX8_weeksOfServing 97 = .ok (.aload_n 0, 1) := by decide +kernel
theorem dX8_weeksOfServing_98 : decode cX8_weeksOfServing 98 = .ok (.getfield 39, 3) := by decide +kernel
theorem dX8_weeksOfServing_101 : decode cX8_weeksOfServing 101 = .ok (.iload 4, 2) := by decide +kernel
theorem dX8_weeksOfServing_103 : decode cX8_weeksOfServing 103 = .ok (.aload_n 0, 1) := by decide +kernel
theorem dX8_weeksOfServing_104 : decode cX8_weeksOfServing 104 = .ok (.getfield 19, 3) := by decide +kernel
theorem dX8_weeksOfServing_107 : decode cX8_weeksOfServing 107 = .ok (.invokevirtual 310, 3) := by decide +kernel
theorem dX8_weeksOfServing_110 : decode cX8_weeksOfServing 110 = .ok (.iinc 5 1, 3) := by decide +kernel
theorem dX8_weeksOfServing_113 : decode cX8_weeksOfServing 113 = .ok (.goto (-67), 3) := by decide +kernel
theorem dX8_weeksOfServing_116 : decode cX8_weeksOfServing 116 = .ok (.iconst (-1), 1) := by decide +kernel
theorem dX8_weeksOfServing_117 : decode cX8_weeksOfServing 117 = .ok (.ireturn, 1) := by decide +kernel
theorem dX8_arePair_0 : decode cX8_arePair 0 = .ok (.aload_n 0, 1) := by decide +kernel
theorem dX8_arePair_1 : decode cX8_arePair 1 = .ok (.getfield 26, 3) := by decide +kernel
theorem dX8_arePair_4 : decode cX8_arePair 4 = .ok (.iload_n 1, 1) := by decide +kernel
theorem dX8_arePair_5 : decode cX8_arePair 5 = .ok (.invokevirtual 141, 3) := by decide +kernel
theorem dX8_arePair_8 : decode cX8_arePair 8 = .ok (.ifCond .eq 23, 3) := by decide +kernel
theorem dX8_arePair_11 : decode cX8_arePair 11 = .ok (.aload_n 0, 1) := by decide +kernel
theorem dX8_arePair_12 : decode cX8_arePair 12 = .ok (.getfield 26, 3) := by decide +kernel
theorem dX8_arePair_15 : decode cX8_arePair 15 = .ok (.iload_n 2, 1) := by decide +kernel
theorem dX8_arePair_16 : decode cX8_arePair 16 = .ok (.invokevirtual 141, 3) := by decide +kernel
theorem dX8_arePair_19 : decode cX8_arePair 19 = .ok (.ifCond .eq 12, 3) := by decide +kernel
theorem dX8_arePair_22 : decode cX8_arePair 22 = .ok (.iload_n 1, 1) := by decide +kernel
theorem dX8_arePair_23 : decode cX8_arePair 23 = .ok (.iload_n 2, 1) := by decide +kernel
theorem dX8_arePair_24 : decode cX8_arePair 24 = .ok (.if_icmp .eq 7, 3) := by decide +kernel
theorem dX8_arePair_27 : decode cX8_arePair 27 = .ok (.iconst 1, 1) := by decide +kernel
theorem dX8_arePair_28 : decode cX8_arePair 28 = .ok (.goto 4, 3) := by decide +kernel
theorem dX8_arePair_31 : decode cX8_arePair 31 = .ok (.iconst 0, 1) := by decide +kernel
theorem dX8_arePair_32 : decode cX8_arePair 32 = .ok (.ireturn, 1) := by decide +kernel
theorem dX8_isDeed_0 : decode cX8_isDeed 0 = .ok (.iload_n 0, 1) := by decide +kernel
theorem dX8_isDeed_1 : decode cX8_isDeed 1 = .ok (.ifCond .lt 12, 3) := by decide +kernel
theorem dX8_isDeed_4 : decode cX8_isDeed 4 = .ok (.iload_n 0, 1) := by decide +kernel
theorem dX8_isDeed_5 : decode cX8_isDeed 5 = .ok (.iconst 4, 1) := by decide +kernel
theorem dX8_isDeed_6 : decode cX8_isDeed 6 = .ok (.if_icmp .ge 7, 3) := by decide +kernel
theorem dX8_isDeed_9 : decode cX8_isDeed 9 = .ok (.iconst 1, 1) := by decide +kernel
theorem dX8_isDeed_10 : decode cX8_isDeed 10 = .ok (.goto 4, 3) := by decide +kernel
theorem dX8_isDeed_13 : decode cX8_isDeed 13 = .ok (.iconst 0, 1) := by decide +kernel
theorem dX8_isDeed_14 : decode cX8_isDeed 14 = .ok (.ireturn, 1) := by decide +kernel
theorem dX8_isServing_0 : decode cX8_isServing 0 = .ok (.iload_n 0, 1) := by decide +kernel
theorem dX8_isServing_1 : decode cX8_isServing 1 = .ok (.ifCond .lt 12, 3) := by decide +kernel
theorem dX8_isServing_4 : decode cX8_isServing 4 = .ok (.iload_n 0, 1) := by decide +kernel
theorem dX8_isServing_5 : decode cX8_isServing 5 = .ok (.iconst 3, 1) := by decide +kernel
theorem dX8_isServing_6 : decode cX8_isServing 6 = .ok (.if_icmp .ge 7, 3) := by decide +kernel
theorem dX8_isServing_9 : decode cX8_isServing 9 = .ok (.iconst 1, 1) := by decide +kernel
theorem dX8_isServing_10 : decode cX8_isServing 10 = .ok (.goto 4, 3) := by decide +kernel
theorem dX8_isServing_13 : decode cX8_isServing 13 = .ok (.iconst 0, 1) := by decide +kernel
theorem dX8_isServing_14 : decode cX8_isServing 14 = .ok (.ireturn, 1) := by decide +kernel
theorem dX8_isCoveredDeed_0 : decode cX8_isCoveredDeed 0 = .ok (.iload_n 0, 1) := by decide +kernel
theorem dX8_isCoveredDeed_1 : decode cX8_isCoveredDeed 1 = .ok (.bipush 10, 2) := by decide +kernel
theorem dX8_isCoveredDeed_3 : decode cX8_isCoveredDeed 3 = .ok (.if_icmp .lt 13, 3) := by decide +kernel
theorem dX8_isCoveredDeed_6 : decode cX8_isCoveredDeed 6 = .ok (.iload_n 0, 1) := by decide +kernel
theorem dX8_isCoveredDeed_7 : decode cX8_isCoveredDeed 7 = .ok (.bipush 14, 2) := by decide +kernel
theorem dX8_isCoveredDeed_9 : decode cX8_isCoveredDeed 9 = .ok (.if_icmp .ge 7, 3) := by decide +kernel
theorem dX8_isCoveredDeed_12 : decode cX8_isCoveredDeed 12 = .ok (.iconst 1, 1) := by decide +kernel
theorem dX8_isCoveredDeed_13 : decode cX8_isCoveredDeed 13 = .ok (.goto 4, 3) := by decide +kernel
theorem dX8_isCoveredDeed_16 : decode cX8_isCoveredDeed 16 = .ok (.iconst 0, 1) := by decide +kernel
theorem dX8_isCoveredDeed_17 : decode cX8_isCoveredDeed 17 = .ok (.ireturn, 1) := by decide +kernel
theorem dX8_isBareDeed_0 : decode cX8_isBareDeed 0 = .ok (.iload_n 0, 1) := by decide +kernel
theorem dX8_isBareDeed_1 : decode cX8_isBareDeed 1 = .ok (.bipush 20, 2) := by decide +kernel
theorem dX8_isBareDeed_3 : decode cX8_isBareDeed 3 = .ok (.if_icmp .lt 13, 3) := by decide +kernel
theorem dX8_isBareDeed_6 : decode cX8_isBareDeed 6 = .ok (.iload_n 0, 1) := by decide +kernel
theorem dX8_isBareDeed_7 : decode cX8_isBareDeed 7 = .ok (.bipush 24, 2) := by decide +kernel
theorem dX8_isBareDeed_9 : decode cX8_isBareDeed 9 = .ok (.if_icmp .ge 7, 3) := by decide +kernel
theorem dX8_isBareDeed_12 : decode cX8_isBareDeed 12 = .ok (.iconst 1, 1) := by decide +kernel
theorem dX8_isBareDeed_13 : decode cX8_isBareDeed 13 = .ok (.goto 4, 3) := by decide +kernel
theorem dX8_isBareDeed_16 : decode cX8_isBareDeed 16 = .ok (.iconst 0, 1) := by decide +kernel
theorem dX8_isBareDeed_17 : decode cX8_isBareDeed 17 = .ok (.ireturn, 1) := by decide +kernel
theorem dX8_isAct_0 : decode cX8_isAct 0 = .ok (.iload_n 0, 1) := by decide +kernel
theorem dX8_isAct_1 : decode cX8_isAct 1 = .ok (.invokestatic 318, 3) := by decide +kernel
theorem dX8_isAct_4 : decode cX8_isAct 4 = .ok (.ifCond .ne 17, 3) := by decide +kernel
theorem dX8_isAct_7 : decode cX8_isAct 7 = .ok (.iload_n 0, 1) := by decide +kernel
theorem dX8_isAct_8 : decode cX8_isAct 8 = .ok (.invokestatic 321, 3) := by decide +kernel
theorem dX8_isAct_11 : decode cX8_isAct 11 = .ok (.ifCond .ne 10, 3) := by decide +kernel
theorem dX8_isAct_14 : decode cX8_isAct 14 = .ok (.iload_n 0, 1) := by decide +kernel
theorem dX8_isAct_15 : decode cX8_isAct 15 = .ok (.invokestatic 324, 3) := by decide +kernel
theorem dX8_isAct_18 : decode cX8_isAct 18 = .ok (.ifCond .eq 7, 3) := by decide +kernel
theorem dX8_isAct_21 : decode cX8_isAct 21 = .ok (.iconst 1, 1) := by decide +kernel
theorem dX8_isAct_22 : decode cX8_isAct 22 = .ok (.goto 4, 3) := by decide +kernel
theorem dX8_isAct_25 : decode cX8_isAct 25 = .ok (.iconst 0, 1) := by decide +kernel
theorem dX8_isAct_26 : decode cX8_isAct 26 = .ok (.ireturn, 1) := by decide +kernel
theorem dX8_actAt_0 : decode cX8_actAt 0 = .ok (.iload_n 0, 1) := by decide +kernel
theorem dX8_actAt_1 : decode cX8_actAt 1 = .ok (.ifCond .lt 19, 3) := by decide +kernel
theorem dX8_actAt_4 : decode cX8_actAt 4 = .ok (.iload_n 0, 1) := by decide +kernel
theorem dX8_actAt_5 : decode cX8_actAt 5 = .ok (.getstatic 327, 3) := by decide +kernel
theorem dX8_actAt_8 : decode cX8_actAt 8 = .ok (.arraylength, 1) := by decide +kernel
theorem dX8_actAt_9 : decode cX8_actAt 9 = .ok (.if_icmp .ge 11, 3) := by decide +kernel
theorem dX8_actAt_12 : decode cX8_actAt 12 = .ok (.getstatic 327, 3) := by decide +kernel
theorem dX8_actAt_15 : decode cX8_actAt 15 = .ok (.iload_n 0, 1) := by decide +kernel
theorem dX8_actAt_16 : decode cX8_actAt 16 = .ok (.iaload, 1) := by decide +kernel
theorem dX8_actAt_17 : decode cX8_actAt 17 = .ok (.goto 5, 3) := by decide +kernel
theorem dX8_actAt_20 : decode cX8_actAt 20 = .ok (.bipush 9, 2) := by decide +kernel
theorem dX8_actAt_22 : decode cX8_actAt 22 = .ok (.ireturn, 1) := by decide +kernel
theorem dX9_init_0 : decode cX9_init 0 = .ok (.aload_n 0, 1) := by decide +kernel
theorem dX9_init_1 : decode cX9_init 1 = .ok (.invokespecial 1, 3) := by decide +kernel
theorem dX9_init_4 : decode cX9_init 4 = .ok (.aload_n 0, 1) := by decide +kernel
theorem dX9_init_5 : decode cX9_init 5 = .ok (.iconst 4, 1) := by decide +kernel
theorem dX9_init_6 : decode cX9_init 6 = .ok (.newarray .int, 2) := by decide +kernel
theorem dX9_init_8 : decode cX9_init 8 = .ok (.putfield 7, 3) := by decide +kernel
theorem dX9_init_11 : decode cX9_init 11 = .ok (.aload_n 0, 1) := by decide +kernel
theorem dX9_init_12 : decode cX9_init 12 = .ok (.iconst 4, 1) := by decide +kernel
theorem dX9_init_13 : decode cX9_init 13 = .ok (.newarray .int, 2) := by decide +kernel
theorem dX9_init_15 : decode cX9_init 15 = .ok (.putfield 13, 3) := by decide +kernel
theorem dX9_init_18 : decode cX9_init 18 = .ok (.aload_n 0, 1) := by decide +kernel
theorem dX9_init_19 : decode cX9_init 19 = .ok (.iconst 4, 1) := by decide +kernel
theorem dX9_init_20 : decode cX9_init 20 = .ok (.newarray .int, 2) := by decide +kernel
theorem dX9_init_22 : decode cX9_init 22 = .ok (.putfield 16, 3) := by decide +kernel
theorem dX9_init_25 : decode cX9_init 25 = .ok (.aload_n 0, 1) := by decide +kernel
theorem dX9_init_26 : decode cX9_init 26 = .ok (.iconst 5, 1) := by decide +kernel
theorem dX9_init_27 : decode cX9_init 27 = .ok (.newarray .int, 2) := by decide +kernel
theorem dX9_init_29 : decode cX9_init 29 = .ok (.putfield 19, 3) := by decide +kernel
theorem dX9_init_32 : decode cX9_init 32 = .ok (.aload_n 0, 1) := by decide +kernel
theorem dX9_init_33 : decode cX9_init 33 = .ok (.iconst 5, 1) := by decide +kernel
theorem dX9_init_34 : decode cX9_init 34 = .ok (.newarray .int, 2) := by decide +kernel
theorem dX9_init_36 : decode cX9_init 36 = .ok (.putfield 22, 3) := by decide +kernel
theorem dX9_init_39 : decode cX9_init 39 = .ok (.aload_n 0, 1) := by decide +kernel
theorem dX9_init_40 : decode cX9_init 40 = .ok (.iconst 5, 1) := by decide +kernel
theorem dX9_init_41 : decode cX9_init 41 = .ok (.newarray .int, 2) := by decide +kernel
theorem dX9_init_43 : decode cX9_init 43 = .ok (.putfield 25, 3) := by decide +kernel
theorem dX9_init_46 : decode cX9_init 46 = .ok (.aload_n 0, 1) := by decide +kernel
theorem dX9_init_47 : decode cX9_init 47 = .ok (.iconst 5, 1) := by decide +kernel
theorem dX9_init_48 : decode cX9_init 48 = .ok (.newarray .int, 2) := by decide +kernel
theorem dX9_init_50 : decode cX9_init 50 = .ok (.putfield 28, 3) := by decide +kernel
theorem dX9_init_53 : decode cX9_init 53 = .ok (.aload_n 0, 1) := by decide +kernel
theorem dX9_init_54 : decode cX9_init 54 = .ok (.iconst 5, 1) := by decide +kernel
theorem dX9_init_55 : decode cX9_init 55 = .ok (.newarray .int, 2) := by decide +kernel
theorem dX9_init_57 : decode cX9_init 57 = .ok (.putfield 31, 3) := by decide +kernel
theorem dX9_init_60 : decode cX9_init 60 = .ok (.aload_n 0, 1) := by decide +kernel
theorem dX9_init_61 : decode cX9_init 61 = .ok (.iconst 5, 1) := by decide +kernel
theorem dX9_init_62 : decode cX9_init 62 = .ok (.newarray .int, 2) := by decide +kernel
theorem dX9_init_64 : decode cX9_init 64 = .ok (.putfield 34, 3) := by decide +kernel
theorem dX9_init_67 : decode cX9_init 67 = .ok (.aload_n 0, 1) := by decide +kernel
theorem dX9_init_68 : decode cX9_init 68 = .ok (.bipush 60, 2) := by decide +kernel
theorem dX9_init_70 : decode cX9_init 70 = .ok (.newarray .int, 2) := by decide +kernel
theorem dX9_init_72 : decode cX9_init 72 = .ok (.putfield 37, 3) := by decide +kernel
theorem dX9_init_75 : decode cX9_init 75 = .ok (.aload_n 0, 1) := by decide +kernel
theorem dX9_init_76 : decode cX9_init 76 = .ok (.bipush 30, 2) := by decide +kernel
theorem dX9_init_78 : decode cX9_init 78 = .ok (.newarray .byte, 2) := by decide +kernel
theorem dX9_init_80 : decode cX9_init 80 = .ok (.putfield 40, 3) := by decide +kernel
theorem dX9_init_83 : decode cX9_init 83 = .ok (.aload_n 0, 1) := by decide +kernel
theorem dX9_init_84 : decode cX9_init 84 = .ok (.iconst 4, 1) := by decide +kernel
theorem dX9_init_85 : decode cX9_init 85 = .ok (.newarray .int, 2) := by decide +kernel
theorem dX9_init_87 : decode cX9_init 87 = .ok (.putfield 44, 3) := by decide +kernel
theorem dX9_init_90 : decode cX9_init 90 = .ok (.aload_n 0, 1) := by decide +kernel
theorem dX9_init_91 : decode cX9_init 91 = .ok (.iconst 4, 1) := by decide +kernel
theorem dX9_init_92 : decode cX9_init 92 = .ok (.newarray .int, 2) := by decide +kernel
theorem dX9_init_94 : decode cX9_init 94 = .ok (.putfield 47, 3) := by decide +kernel
theorem dX9_init_97 : decode cX9_init 97 = .ok (.aload_n 0, 1) := by decide +kernel
theorem dX9_init_98 : decode cX9_init 98 = .ok (.iconst 4, 1) := by decide +kernel
theorem dX9_init_99 : decode cX9_init 99 = .ok (.newarray .int, 2) := by decide +kernel
theorem dX9_init_101 : decode cX9_init 101 = .ok (.putfield 50, 3) := by decide +kernel
theorem dX9_init_104 : decode cX9_init 104 = .ok (.aload_n 0, 1) := by decide +kernel
theorem dX9_init_105 : decode cX9_init 105 = .ok (.bipush 8, 2) := by decide +kernel
theorem dX9_init_107 : decode cX9_init 107 = .ok (.newarray .int, 2) := by decide +kernel
theorem dX9_init_109 : decode cX9_init 109 = .ok (.putfield 53, 3) := by decide +kernel
theorem dX9_init_112 : decode cX9_init 112 = .ok (.aload_n 0, 1) := by decide +kernel
theorem dX9_init_113 : decode cX9_init 113 = .ok (.bipush 8, 2) := by decide +kernel
theorem dX9_init_115 : decode cX9_init 115 = .ok (.newarray .int, 2) := by decide +kernel
theorem dX9_init_117 : decode cX9_init 117 = .ok (.putfield 56, 3) := by decide +kernel
theorem dX9_init_120 : decode cX9_init 120 = .ok (.aload_n 0, 1) := by decide +kernel
theorem dX9_init_121 : decode cX9_init 121 = .ok (.bipush 8, 2) := by decide +kernel
theorem dX9_init_123 : decode cX9_init 123 = .ok (.newarray .int, 2) := by decide +kernel
theorem dX9_init_125 : decode cX9_init 125 = .ok (.putfield 59, 3) := by decide +kernel
theorem dX9_init_128 : decode cX9_init 128 = .ok (.aload_n 0, 1) := by decide +kernel
theorem dX9_init_129 : decode cX9_init 129 = .ok (.bipush 96, 2) := by decide +kernel
theorem dX9_init_131 : decode cX9_init 131 = .ok (.newarray .int, 2) := by decide +kernel
theorem dX9_init_133 : decode cX9_init 133 = .ok (.putfield 62, 3) := by decide +kernel
theorem dX9_init_136 : decode cX9_init 136 = .ok (.aload_n 0, 1) := by decide +kernel
theorem dX9_init_137 : decode cX9_init 137 = .ok (.bipush 8, 2) := by decide +kernel
theorem dX9_init_139 : decode cX9_init 139 = .ok (.newarray .int, 2) := by decide +kernel
theorem dX9_init_141 : decode cX9_init 141 = .ok (.putfield 65, 3) := by decide +kernel
theorem dX9_init_144 : decode cX9_init 144 = .ok (.aload_n 0, 1) := by decide +kernel
theorem dX9_init_145 : decode cX9_init 145 = .ok (.iconst (-1), 1) := by decide +kernel
theorem dX9_init_146 : decode cX9_init 146 = .ok (.putfield 68, 3) := by decide +kernel
theorem dX9_init_149 : decode cX9_init 149 = .ok (.aload_n 0, 1) := by decide +kernel
theorem dX9_init_150 : decode cX9_init 150 = .ok (.iconst 5, 1) := by decide +kernel
theorem dX9_init_151 : decode cX9_init 151 = .ok (.newarray .int, 2) := by decide +kernel
theorem dX9_init_153 : decode cX9_init 153 = .ok (.putfield 72, 3) := by decide +kernel
theorem dX9_init_156 : decode cX9_init 156 = .ok (.aload_n 0, 1) := by decide +kernel
theorem dX9_init_157 : decode cX9_init 157 = .ok (.bipush 12, 2) := by decide +kernel
theorem dX9_init_159 : decode cX9_init 159 = .ok (.newarray .int, 2) := by decide +kernel
theorem dX9_init_161 : decode cX9_init 161 = .ok (.putfield 75, 3) := by decide +kernel
theorem dX9_init_164 : decode cX9_init 164 = .ok (.aload_n 0, 1) := by decide +kernel
theorem dX9_init_165 : decode cX9_init 165 = .ok (.iconst 4, 1) := by decide +kernel
theorem dX9_init_166 : decode cX9_init 166 = .ok (.newarray .int, 2) := by decide +kernel
theorem dX9_init_168 : decode cX9_init 168 = .ok (.putfield 78, 3) := by decide +kernel
theorem dX9_init_171 : decode cX9_init 171 = .ok (.aload_n 0, 1) := by decide +kernel
theorem dX9_init_172 : decode cX9_init 172 = .ok (.iconst 4, 1) := by decide +kernel
theorem dX9_init_173 : decode cX9_init 173 = .ok (.newarray .int, 2) := by decide +kernel
theorem dX9_init_175 : decode cX9_init 175 = .ok (.putfield 81, 3) := by decide +kernel
theorem dX9_init_178 : decode cX9_init 178 = .ok (.aload_n 0, 1) := by decide +kernel
theorem dX9_init_179 : decode cX9_init 179 = .ok (.iconst 4, 1) := by decide +kernel
theorem dX9_init_180 : decode cX9_init 180 = .ok (.newarray .int, 2) := by decide +kernel
theorem dX9_init_182 : decode cX9_init 182 = .ok (.putfield 84, 3) := by decide +kernel
theorem dX9_init_185 : decode cX9_init 185 = .ok (.aload_n 0, 1) := by decide +kernel
theorem dX9_init_186 : decode cX9_init 186 = .ok (.iconst 4, 1) := by decide +kernel
theorem dX9_init_187 : decode cX9_init 187 = .ok (.newarray .int, 2) := by decide +kernel
theorem dX9_init_189 : decode cX9_init 189 = .ok (.putfield 87, 3) := by decide +kernel
theorem dX9_init_192 : decode cX9_init 192 = .ok (.aload_n 0, 1) := by decide +kernel
theorem dX9_init_193 : decode cX9_init 193 = .ok (.bipush 48, 2) := by decide +kernel
theorem dX9_init_195 : decode cX9_init 195 = .ok (.newarray .int, 2) := by decide +kernel
theorem dX9_init_197 : decode cX9_init 197 = .ok (.putfield 90, 3) := by decide +kernel
theorem dX9_init_200 : decode cX9_init 200 = .ok (.aload_n 0, 1) := by decide +kernel
theorem dX9_init_201 : decode cX9_init 201 = .ok (.iconst 4, 1) := by decide +kernel
theorem dX9_init_202 : decode cX9_init 202 = .ok (.newarray .int, 2) := by decide +kernel
theorem dX9_init_204 : decode cX9_init 204 = .ok (.putfield 93, 3) := by decide +kernel
theorem dX9_init_207 : decode cX9_init 207 = .ok (.aload_n 0, 1) := by decide +kernel
theorem dX9_init_208 : decode cX9_init 208 = .ok (.iconst 4, 1) := by decide +kernel
theorem dX9_init_209 : decode cX9_init 209 = .ok (.newarray .int, 2) := by decide +kernel
theorem dX9_init_211 : decode cX9_init 211 = .ok (.putfield 96, 3) := by decide +kernel
theorem dX9_init_214 : decode cX9_init 214 = .ok (.aload_n 0, 1) := by decide +kernel
theorem dX9_init_215 : decode cX9_init 215 = .ok (.iconst 4, 1) := by decide +kernel
theorem dX9_init_216 : decode cX9_init 216 = .ok (.newarray .int, 2) := by decide +kernel
theorem dX9_init_218 : decode cX9_init 218 = .ok (.putfield 99, 3) := by decide +kernel
theorem dX9_init_221 : decode cX9_init 221 = .ok (.aload_n 0, 1) := by decide +kernel
theorem dX9_init_222 : decode cX9_init 222 = .ok (.iconst 4, 1) := by decide +kernel
theorem dX9_init_223 : decode cX9_init 223 = .ok (.newarray .int, 2) := by decide +kernel
theorem dX9_init_225 : decode cX9_init 225 = .ok (.putfield 102, 3) := by decide +kernel
theorem dX9_init_228 : decode cX9_init 228 = .ok (.aload_n 0, 1) := by decide +kernel
theorem dX9_init_229 : decode cX9_init 229 = .ok (.iconst 4, 1) := by decide +kernel
theorem dX9_init_230 : decode cX9_init 230 = .ok (.newarray .int, 2) := by decide +kernel
theorem dX9_init_232 : decode cX9_init 232 = .ok (.putfield 105, 3) := by decide +kernel
theorem dX9_init_235 : decode cX9_init 235 = .ok (.aload_n 0, 1) := by decide +kernel
theorem dX9_init_236 : decode cX9_init 236 = .ok (.bipush 48, 2) := by decide +kernel
theorem dX9_init_238 : decode cX9_init 238 = .ok (.newarray .int, 2) := by decide +kernel
theorem dX9_init_240 : decode cX9_init 240 = .ok (.putfield 108, 3) := by decide +kernel
theorem dX9_init_243 : decode cX9_init 243 = .ok (.return_, 1) := by decide +kernel
theorem dX9_within_0 : decode cX9_within 0 = .ok (.iload_n 0, 1) := by decide +kernel
theorem dX9_within_1 : decode cX9_within 1 = .ok (.iload_n 1, 1) := by decide +kernel
theorem dX9_within_2 : decode cX9_within 2 = .ok (.if_icmp .lt 12, 3) := by decide +kernel
theorem dX9_within_5 : decode cX9_within 5 = .ok (.iload_n 0, 1) := by decide +kernel
theorem dX9_within_6 : decode cX9_within 6 = .ok (.iload_n 2, 1) := by decide +kernel
theorem dX9_within_7 : decode cX9_within 7 = .ok (.if_icmp .gt 7, 3) := by decide +kernel
theorem dX9_within_10 : decode cX9_within 10 = .ok (.iconst 1, 1) := by decide +kernel
theorem dX9_within_11 : decode cX9_within 11 = .ok (.goto 4, 3) := by decide +kernel
theorem dX9_within_14 : decode cX9_within 14 = .ok (.iconst 0, 1) := by decide +kernel
theorem dX9_within_15 : decode cX9_within 15 = .ok (.ireturn, 1) := by decide +kernel
theorem dX9_has_0 : decode cX9_has 0 = .ok (.iload_n 0, 1) := by decide +kernel
theorem dX9_has_1 : decode cX9_has 1 = .ok (.iload_n 1, 1) := by decide +kernel
theorem dX9_has_2 : decode cX9_has 2 = .ok (.ishr, 1) := by decide +kernel
theorem dX9_has_3 : decode cX9_has 3 = .ok (.iconst 1, 1) := by decide +kernel
theorem dX9_has_4 : decode cX9_has 4 = .ok (.iand, 1) := by decide +kernel
theorem dX9_has_5 : decode cX9_has 5 = .ok (.iconst 1, 1) := by decide +kernel
theorem dX9_has_6 : decode cX9_has 6 = .ok (.if_icmp .ne 7, 3) := by decide +kernel
theorem dX9_has_9 : decode cX9_has 9 = .ok (.iconst 1, 1) := by decide +kernel
theorem dX9_has_10 : decode cX9_has 10 = .ok (.goto 4, 3) := by decide +kernel
theorem dX9_has_13 : decode cX9_has 13 = .ok (.iconst 0, 1) := by decide +kernel
theorem dX9_has_14 : decode cX9_has 14 = .ok (.ireturn, 1) := by decide +kernel
theorem dX9_letter_0 : decode cX9_letter 0 = .ok (.iload_n 1, 1) := by decide +kernel
theorem dX9_letter_1 : decode cX9_letter 1 = .ok (.bipush 32, 2) := by decide +kernel
theorem dX9_letter_3 : decode cX9_letter 3 = .ok (.bipush 126, 2) := by decide +kernel
theorem dX9_letter_5 : decode cX9_letter 5 = .ok (.invokestatic 111, 3) := by decide +kernel
theorem dX9_letter_8 : decode cX9_letter 8 = .ok (.ifCond .ne 6, 3) := by decide +kernel
theorem dX9_letter_11 : decode cX9_letter 11 = .ok (.bipush (-102), 2) := by decide +kernel
theorem dX9_letter_13 : decode cX9_letter 13 = .ok (.ireturn, 1) := by decide +kernel
theorem dX9_letter_14 : decode cX9_letter 14 = .ok (.aload_n 0, 1) := by decide +kernel
theorem dX9_letter_15 : decode cX9_letter 15 = .ok (.getfield 115, 3) := by decide +kernel
theorem dX9_letter_18 : decode cX9_letter 18 = .ok (.bipush 30, 2) := by decide +kernel
theorem dX9_letter_20 : decode cX9_letter 20 = .ok (.if_icmp .ne 6, 3) := by decide +kernel
theorem dX9_letter_23 : decode cX9_letter 23 = .ok (.bipush (-104), 2) := by decide +kernel
theorem dX9_letter_25 : decode cX9_letter 25 = .ok (.ireturn, 1) := by decide +kernel
theorem dX9_letter_26 : decode cX9_letter 26 = .ok (.aload_n 0, 1) := by decide +kernel
theorem dX9_letter_27 : decode cX9_letter 27 = .ok (.getfield 40, 3) := by decide +kernel
theorem dX9_letter_30 : decode cX9_letter 30 = .ok (.aload_n 0, 1) := by decide +kernel
theorem dX9_letter_31 : decode cX9_letter 31 = .ok (.getfield 115, 3) := by decide +kernel
theorem dX9_letter_34 : decode cX9_letter 34 = .ok (.iload_n 1, 1) := by decide +kernel
theorem dX9_letter_35 : decode cX9_letter 35 = .ok (.i2b, 1) := by decide +kernel
theorem dX9_letter_36 : decode cX9_letter 36 = .ok (.bastore, 1) := by decide +kernel
theorem dX9_letter_37 : decode cX9_letter 37 = .ok (.aload_n 0, 1) := by decide +kernel
theorem dX9_letter_38 : decode cX9_letter 38 = .ok (.dup, 1) := by decide +kernel
theorem dX9_letter_39 : decode cX9_letter 39 = .ok (.getfield 115, 3) := by decide +kernel
theorem dX9_letter_42 : decode cX9_letter 42 = .ok (.iconst 1, 1) := by decide +kernel
theorem dX9_letter_43 : decode cX9_letter 43 = .ok (.iadd, 1) := by decide +kernel
theorem dX9_letter_44 : decode cX9_letter 44 = .ok (.putfield 115, 3) := by decide +kernel
theorem dX9_letter_47 : decode cX9_letter 47 = .ok (.aload_n 0, 1) := by decide +kernel
theorem dX9_letter_48 : decode cX9_letter 48 = .ok (.getfield 115, 3) := by decide +kernel
theorem dX9_letter_51 : decode cX9_letter 51 = .ok (.ireturn, 1) := by decide +kernel
theorem dX9_blank_0 : decode cX9_blank 0 = .ok (.aload_n 0, 1) := by decide +kernel
theorem dX9_blank_1 : decode cX9_blank 1 = .ok (.getfield 115, 3) := by decide +kernel
theorem dX9_blank_4 : decode cX9_blank 4 = .ok (.istore_n 1, 1) := by decide +kernel
theorem dX9_blank_5 : decode cX9_blank 5 = .ok (.aload_n 0, 1) := by decide +kernel
theorem dX9_blank_6 : decode cX9_blank 6 = .ok (.iconst 0, 1) := by decide +kernel
theorem dX9_blank_7 : decode cX9_blank 7 = .ok (.putfield 115, 3) := by decide +kernel
theorem dX9_blank_10 : decode cX9_blank 10 = .ok (.iload_n 1, 1) := by decide +kernel
theorem dX9_blank_11 : decode cX9_blank 11 = .ok (.ireturn, 1) := by decide +kernel
theorem dX9_nextState_0 : decode cX9_nextState 0 = .ok (.iload_n 2, 1) := by decide +kernel
theorem dX9_nextState_1 : decode cX9_nextState 1 = .ok (.bipush 48, 2) := by decide +kernel
theorem dX9_nextState_3 : decode cX9_nextState 3 = .ok (.isub, 1) := by decide +kernel
theorem dX9_nextState_4 : decode cX9_nextState 4 = .ok (.istore_n 3, 1) := by decide +kernel
theorem dX9_nextState_5 : decode cX9_nextState 5 = .ok (.iload_n 1, 1) := by decide +kernel
theorem dX9_nextState_6 : decode cX9_nextState 6 = .ok (.tableswitch 142 0 5 #[38, 64, 90, 112, 112, 120], 38) := by decide +kernel
theorem dX9_nextState_44 : decode cX9_nextState 44 = .ok (.aload_n 0, 1) := by decide +kernel
theorem dX9_nextState_45 : decode cX9_nextState 45 = .ok (.getfield 44, 3) := by decide +kernel
theorem dX9_nextState_48 : decode cX9_nextState 48 = .ok (.aload_n 0, 1) := by decide +kernel
theorem dX9_nextState_49 : decode cX9_nextState 49 = .ok (.getfield 118, 3) := by decide +kernel
theorem dX9_nextState_52 : decode cX9_nextState 52 = .ok (.iload_n 3, 1) := by decide +kernel
theorem dX9_nextState_53 : decode cX9_nextState 53 = .ok (.iastore, 1) := by decide +kernel
theorem dX9_nextState_54 : decode cX9_nextState 54 = .ok (.iload_n 3, 1) := by decide +kernel
theorem dX9_nextState_55 : decode cX9_nextState 55 = .ok (.iconst 1, 1) := by decide +kernel
theorem dX9_nextState_56 : decode cX9_nextState 56 = .ok (.bipush 9, 2) := by decide +kernel
theorem dX9_nextState_58 : decode cX9_nextState 58 = .ok (.invokestatic 111, 3) := by decide +kernel
theorem dX9_nextState_61 : decode cX9_nextState 61 = .ok (.ifCond .eq 7, 3) := by decide +kernel
theorem dX9_nextState_64 : decode cX9_nextState 64 = .ok (.iconst 1, 1) := by decide +kernel
theorem dX9_nextState_65 : decode cX9_nextState 65 = .ok (.goto 4, 3) := by decide +kernel
theorem dX9_nextState_68 : decode cX9_nextState 68 = .ok (.iconst (-1), 1) := by decide +kernel
theorem dX9_nextState_69 : decode cX9_nextState 69 = .ok (.ireturn, 1) := by decide +kernel
theorem dX9_nextState_70 : decode cX9_nextState 70 = .ok (.aload_n 0, 1) := by decide +kernel
theorem dX9_nextState_71 : decode cX9_nextState 71 = .ok (.getfield 47, 3) := by decide +kernel
theorem dX9_nextState_74 : decode cX9_nextState 74 = .ok (.aload_n 0, 1) := by decide +kernel
theorem dX9_nextState_75 : decode cX9_nextState 75 = .ok (.getfield 118, 3) := by decide +kernel
theorem dX9_nextState_78 : decode cX9_nextState 78 = .ok (.iload_n 3, 1) := by decide +kernel
theorem dX9_nextState_79 : decode cX9_nextState 79 = .ok (.iastore, 1) := by decide +kernel
theorem dX9_nextState_80 : decode cX9_nextState 80 = .ok (.iload_n 3, 1) := by decide +kernel
theorem dX9_nextState_81 : decode cX9_nextState 81 = .ok (.iconst 0, 1) := by decide +kernel
theorem dX9_nextState_82 : decode cX9_nextState 82 = .ok (.bipush 9, 2) := by decide +kernel
theorem dX9_nextState_84 : decode cX9_nextState 84 = .ok (.invokestatic 111, 3) := by decide +kernel
theorem dX9_nextState_87 : decode cX9_nextState 87 = .ok (.ifCond .eq 7, 3) := by decide +kernel
theorem dX9_nextState_90 : decode cX9_nextState 90 = .ok (.iconst 2, 1) := by decide +kernel
theorem dX9_nextState_91 : decode cX9_nextState 91 = .ok (.goto 4, 3) := by decide +kernel
theorem dX9_nextState_94 : decode cX9_nextState 94 = .ok (.iconst (-1), 1) := by decide +kernel
theorem dX9_nextState_95 : decode cX9_nextState 95 = .ok (.ireturn, 1) := by decide +kernel
theorem dX9_nextState_96 : decode cX9_nextState 96 = .ok (.aload_n 0, 1) := by decide +kernel
theorem dX9_nextState_97 : decode cX9_nextState 97 = .ok (.getfield 50, 3) := by decide +kernel
theorem dX9_nextState_100 : decode cX9_nextState 100 = .ok (.aload_n 0, 1) := by decide +kernel
theorem dX9_nextState_101 : decode cX9_nextState 101 = .ok (.getfield 118, 3) := by decide +kernel
theorem dX9_nextState_104 : decode cX9_nextState 104 = .ok (.iconst 0, 1) := by decide +kernel
theorem dX9_nextState_105 : decode cX9_nextState 105 = .ok (.iastore, 1) := by decide +kernel
theorem dX9_nextState_106 : decode cX9_nextState 106 = .ok (.iload_n 2, 1) := by decide +kernel
theorem dX9_nextState_107 : decode cX9_nextState 107 = .ok (.bipush 58, 2) := by decide +kernel
theorem dX9_nextState_109 : decode cX9_nextState 109 = .ok (.if_icmp .ne 7, 3) := by decide +kernel
theorem dX9_nextState_112 : decode cX9_nextState 112 = .ok (.iconst 3, 1) := by decide +kernel
theorem dX9_nextState_113 : decode cX9_nextState 113 = .ok (.goto 4, 3) := by decide +kernel
theorem dX9_nextState_116 : decode cX9_nextState 116 = .ok (.iconst (-1), 1) := by decide +kernel
theorem dX9_nextState_117 : decode cX9_nextState 117 = .ok (.ireturn, 1) := by decide +kernel
theorem dX9_nextState_118 : decode cX9_nextState 118 = .ok (.aload_n 0, 1) := by decide +kernel
theorem dX9_nextState_119 : decode cX9_nextState 119 = .ok (.iload_n 1, 1) := by decide +kernel
theorem dX9_nextState_120 : decode cX9_nextState 120 = .ok (.iload_n 2, 1) := by decide +kernel
theorem dX9_nextState_121 : decode cX9_nextState 121 = .ok (.iload_n 3, 1) := by decide +kernel
theorem dX9_nextState_122 : decode cX9_nextState 122 = .ok (.invokevirtual 121, 3) := by decide +kernel
theorem dX9_nextState_125 : decode cX9_nextState 125 = .ok (.ireturn, 1) := by decide +kernel
theorem dX9_nextState_126 : decode cX9_nextState 126 = .ok (.aload_n 0, 1) := by decide +kernel
theorem dX9_nextState_127 : decode cX9_nextState 127 = .ok (.iload_n 3, 1) := by decide +kernel
theorem dX9_nextState_128 : decode cX9_nextState 128 = .ok (.putfield 125, 3) := by decide +kernel
theorem dX9_nextState_131 : decode cX9_nextState 131 = .ok (.iload_n 3, 1) := by decide +kernel
theorem dX9_nextState_132 : decode cX9_nextState 132 = .ok (.iconst 1, 1) := by decide +kernel
theorem dX9_nextState_133 : decode cX9_nextState 133 = .ok (.bipush 9, 2) := by decide +kernel
theorem dX9_nextState_135 : decode cX9_nextState 135 = .ok (.invokestatic 111, 3) := by decide +kernel
theorem dX9_nextState_138 : decode cX9_nextState 138 = .ok (.ifCond .eq 8, 3) := by decide +kernel
theorem dX9_nextState_141 : decode cX9_nextState 141 = .ok (.bipush 6, 2) := by decide +kernel
theorem dX9_nextState_143 : decode cX9_nextState 143 = .ok (.goto 4, 3) := by decide +kernel
theorem dX9_nextState_146 : decode cX9_nextState 146 = .ok (.iconst (-1), 1) := by decide +kernel
theorem dX9_nextState_147 : decode cX9_nextState 147 = .ok (.ireturn, 1) := by decide +kernel
theorem dX9_nextState_148 : decode cX9_nextState 148 = .ok (.iconst (-1), 1) := by decide +kernel
theorem dX9_nextState_149 : decode cX9_nextState 149 = .ok (.ireturn, 1) := by decide +kernel
theorem dX9_sortState_0 : decode cX9_sortState 0 = .ok (.iload_n 3, 1) := by decide +kernel
theorem dX9_sortState_1 : decode cX9_sortState 1 = .ok (.iconst 0, 1) := by decide +kernel
theorem dX9_sortState_2 : decode cX9_sortState 2 = .ok (.iconst 2, 1) := by decide +kernel
theorem dX9_sortState_3 : decode cX9_sortState 3 = .ok (.invokestatic 111, 3) := by decide +kernel
theorem dX9_sortState_6 : decode cX9_sortState 6 = .ok (.ifCond .eq 36, 3) := by decide +kernel
theorem dX9_sortState_9 : decode cX9_sortState 9 = .ok (.aload_n 0, 1) := by decide +kernel
theorem dX9_sortState_10 : decode cX9_sortState 10 = .ok (.getfield 50, 3) := by decide +kernel
theorem dX9_sortState_13 : decode cX9_sortState 13 = .ok (.aload_n 0, 1) := by decide +kernel
theorem dX9_sortState_14 : decode cX9_sortState 14 = .ok (.getfield 118, 3) := by decide +kernel
theorem dX9_sortState_17 : decode cX9_sortState 17 = .ok (.iaload, 1) := by decide +kernel
theorem dX9_sortState_18 : decode cX9_sortState 18 = .ok (.iload_n 3, 1) := by decide +kernel
theorem dX9_sortState_19 : decode cX9_sortState 19 = .ok (.invokestatic 128, 3) := by decide +kernel
theorem dX9_sortState_22 : decode cX9_sortState 22 = .ok (.ifCond .ne 20, 3) := by decide +kernel
theorem dX9_sortState_25 : decode cX9_sortState 25 = .ok (.aload_n 0, 1) := by decide +kernel
theorem dX9_sortState_26 : decode cX9_sortState 26 = .ok (.getfield 50, 3) := by decide +kernel
theorem dX9_sortState_29 : decode cX9_sortState 29 = .ok (.aload_n 0, 1) := by decide +kernel
theorem dX9_sortState_30 : decode cX9_sortState 30 = .ok (.getfield 118, 3) := by decide +kernel
theorem dX9_sortState_33 : decode cX9_sortState 33 = .ok (.dup2, 1) := by decide +kernel
theorem dX9_sortState_34 : decode cX9_sortState 34 = .ok (.iaload, 1) := by decide +kernel
theorem dX9_sortState_35 : decode cX9_sortState 35 = .ok (.iconst 1, 1) := by decide +kernel
theorem dX9_sortState_36 : decode cX9_sortState 36 = .ok (.iload_n 3, 1) := by decide +kernel
theorem dX9_sortState_37 : decode cX9_sortState 37 = .ok (.ishl, 1) := by decide +kernel
theorem dX9_sortState_38 : decode cX9_sortState 38 = .ok (.ior, 1) := by decide +kernel
theorem dX9_sortState_39 : decode cX9_sortState 39 = .ok (.iastore, 1) := by decide +kernel
theorem dX9_sortState_40 : decode cX9_sortState 40 = .ok (.iconst 4, 1) := by decide +kernel
theorem dX9_sortState_41 : decode cX9_sortState 41 = .ok (.ireturn, 1) := by decide +kernel
theorem dX9_sortState_42 : decode cX9_sortState 42 = .ok (.iload_n 1, 1) := by decide +kernel
theorem dX9_sortState_43 : decode cX9_sortState 43 = .ok (.iconst 3, 1) := by decide +kernel
theorem dX9_sortState_44 : decode cX9_sortState 44 = .ok (.if_icmp .ne 5, 3) := by decide +kernel
theorem dX9_sortState_47 : decode cX9_sortState 47 = .ok (.iconst (-1), 1) := by decide +kernel
theorem dX9_sortState_48 : decode cX9_sortState 48 = .ok (.ireturn, 1) := by decide +kernel
theorem dX9_sortState_49 : decode cX9_sortState 49 = .ok (.iload_n 2, 1) := by decide +kernel
theorem dX9_sortState_50 : decode cX9_sortState 50 = .ok (.bipush 47, 2) := by decide +kernel
theorem dX9_sortState_52 : decode cX9_sortState 52 = .ok (.if_icmp .ne 23, 3) := by decide +kernel
theorem dX9_sortState_55 : decode cX9_sortState 55 = .ok (.aload_n 0, 1) := by decide +kernel
theorem dX9_sortState_56 : decode cX9_sortState 56 = .ok (.getfield 118, 3) := by decide +kernel
theorem dX9_sortState_59 : decode cX9_sortState 59 = .ok (.iconst 3, 1) := by decide +kernel
theorem dX9_sortState_60 : decode cX9_sortState 60 = .ok (.if_icmp .ge 15, 3) := by decide +kernel
theorem dX9_sortState_63 : decode cX9_sortState 63 = .ok (.aload_n 0, 1) := by decide +kernel
theorem dX9_sortState_64 : decode cX9_sortState 64 = .ok (.dup, 1) := by decide +kernel
theorem dX9_sortState_65 : decode cX9_sortState 65 = .ok (.getfield 118, 3) := by decide +kernel
theorem dX9_sortState_68 : decode cX9_sortState 68 = .ok (.iconst 1, 1) := by decide +kernel
theorem dX9_sortState_69 : decode cX9_sortState 69 = .ok (.iadd, 1) := by decide +kernel
theorem dX9_sortState_70 : decode cX9_sortState 70 = .ok (.putfield 118, 3) := by decide +kernel
theorem dX9_sortState_73 : decode cX9_sortState 73 = .ok (.iconst 0, 1) := by decide +kernel
theorem dX9_sortState_74 : decode cX9_sortState 74 = .ok (.ireturn, 1) := by decide +kernel
theorem dX9_sortState_75 : decode cX9_sortState 75 = .ok (.iload_n 2, 1) := by decide +kernel
theorem dX9_sortState_76 : decode cX9_sortState 76 = .ok (.bipush 59, 2) := by decide +kernel
theorem dX9_sortState_78 : decode cX9_sortState 78 = .ok (.if_icmp .ne 15, 3) := by decide +kernel
theorem dX9_sortState_81 : decode cX9_sortState 81 = .ok (.aload_n 0, 1) := by decide +kernel
theorem dX9_sortState_82 : decode cX9_sortState 82 = .ok (.getfield 118, 3) := by decide +kernel
theorem dX9_sortState_85 : decode cX9_sortState 85 = .ok (.iconst 3, 1) := by decide +kernel
theorem dX9_sortState_86 : decode cX9_sortState 86 = .ok (.if_icmp .ne 7, 3) := by decide +kernel
theorem dX9_sortState_89 : decode cX9_sortState 89 = .ok (.iconst 5, 1) := by decide +kernel
theorem dX9_sortState_90 : decode cX9_sortState 90 = .ok (.goto 4, 3) := by decide +kernel
theorem dX9_sortState_93 : decode cX9_sortState 93 = .ok (.iconst (-1), 1) := by decide +kernel
theorem dX9_sortState_94 : decode cX9_sortState 94 = .ok (.ireturn, 1) := by decide +kernel
theorem dX9_readLaw_0 : decode cX9_readLaw 0 = .ok (.aload_n 0, 1) := by decide +kernel
theorem dX9_readLaw_1 : decode cX9_readLaw 1 = .ok (.iconst 0, 1) := by decide +kernel
theorem dX9_readLaw_2 : decode cX9_readLaw 2 = .ok (.putfield 118, 3) := by decide +kernel
theorem dX9_readLaw_5 : decode cX9_readLaw 5 = .ok (.iconst 0, 1) := by decide +kernel
theorem dX9_readLaw_6 : decode cX9_readLaw 6 = .ok (.istore_n 1, 1) := by decide +kernel
theorem dX9_readLaw_7 : decode cX9_readLaw 7 = .ok (.iconst 0, 1) := by decide +kernel
theorem dX9_readLaw_8 : decode cX9_readLaw 8 = .ok (.istore_n 2, 1) := by decide +kernel
theorem dX9_readLaw_9 : decode cX9_readLaw 9 = .ok (.iconst 1, 1) := by decide +kernel
theorem dX9_readLaw_10 : decode cX9_readLaw 10 = .ok (.istore_n 3, 1) := by decide +kernel
theorem dX9_readLaw_11 : decode cX9_readLaw 11 = .ok (.iload_n 2, 1) := by decide +kernel
theorem dX9_readLaw_12 : decode cX9_readLaw 12 = .ok (.aload_n 0, 1) := by decide +kernel
theorem dX9_readLaw_13 : decode cX9_readLaw 13 = .ok (.getfield 115, 3) := by decide +kernel
theorem dX9_readLaw_16 : decode cX9_readLaw 16 = .ok (.if_icmp .ge 58, 3) := by decide +kernel
theorem dX9_readLaw_19 : decode cX9_readLaw 19 = .ok (.iload_n 3, 1) := by decide +kernel
theorem dX9_readLaw_20 : decode cX9_readLaw 20 = .ok (.ifCond .eq 54, 3) := by decide +kernel
theorem dX9_readLaw_23 : decode cX9_readLaw 23 = .ok (.aload_n 0, 1) := by decide +kernel
theorem dX9_readLaw_24 : decode cX9_readLaw 24 = .ok (.iload_n 1, 1) := by decide +kernel
theorem dX9_readLaw_25 : decode cX9_readLaw 25 = .ok (.aload_n 0, 1) := by decide +kernel
theorem dX9_readLaw_26 : decode cX9_readLaw 26 = .ok (.getfield 40, 3) := by decide +kernel
theorem dX9_readLaw_29 : decode cX9_readLaw 29 = .ok (.iload_n 2, 1) := by decide +kernel
theorem dX9_readLaw_30 : decode cX9_readLaw 30 = .ok (.baload, 1) := by decide +kernel
theorem dX9_readLaw_31 : decode cX9_readLaw 31 = .ok (.invokevirtual 132, 3) := by decide +kernel
theorem dX9_readLaw_34 : decode cX9_readLaw 34 = .ok (.istore 4, 2) := by decide +kernel
theorem dX9_readLaw_36 : decode cX9_readLaw 36 = .ok (.iload 4, 2) := by decide +kernel
theorem dX9_readLaw_38 : decode cX9_readLaw 38 = .ok (.iconst (-1), 1) := by decide +kernel
theorem dX9_readLaw_39 : decode cX9_readLaw 39 = .ok (.if_icmp .eq 7, 3) := by decide +kernel
theorem dX9_readLaw_42 : decode cX9_readLaw 42 = .ok (.iconst 1, 1) := by decide +kernel
theorem dX9_readLaw_43 : decode cX9_readLaw 43 = .ok (.goto 4, 3) := by decide +kernel
theorem dX9_readLaw_46 : decode cX9_readLaw 46 = .ok (.iconst 0, 1) := by decide +kernel
theorem dX9_readLaw_47 : decode cX9_readLaw 47 = .ok (.istore_n 3, 1) := by decide +kernel
theorem dX9_readLaw_48 : decode cX9_readLaw 48 = .ok (.iload_n 3, 1) := by decide +kernel
theorem dX9_readLaw_49 : decode cX9_readLaw 49 = .ok (.ifCond .eq 8, 3) := by decide +kernel
theorem dX9_readLaw_52 : decode cX9_readLaw 52 = .ok (.iload 4, 2) := by decide +kernel
theorem dX9_readLaw_54 : decode cX9_readLaw 54 = .ok (.goto 4, 3) := by decide +kernel
theorem dX9_readLaw_57 : decode cX9_readLaw 57 = .ok (.iload_n 1, 1) := by decide +kernel
theorem dX9_readLaw_58 : decode cX9_readLaw 58 = .ok (.istore_n 1, 1) := by decide +kernel
theorem dX9_readLaw_59 : decode cX9_readLaw 59 = .ok (.iload_n 2, 1) := by decide +kernel
theorem dX9_readLaw_60 : decode cX9_readLaw 60 = .ok (.iload_n 3, 1) := by decide +kernel
theorem dX9_readLaw_61 : decode cX9_readLaw 61 = .ok (.ifCond .eq 7, 3) := by decide +kernel
theorem dX9_readLaw_64 : decode cX9_readLaw 64 = .ok (.iconst 1, 1) := by decide +kernel
theorem dX9_readLaw_65 : decode cX9_readLaw 65 = .ok (.goto 4, 3) := by decide +kernel
theorem dX9_readLaw_68 : decode cX9_readLaw 68 = .ok (.iconst 0, 1) := by decide +kernel
theorem dX9_readLaw_69 : decode cX9_readLaw 69 = .ok (.iadd, 1) := by decide +kernel
theorem dX9_readLaw_70 : decode cX9_readLaw 70 = .ok (.istore_n 2, 1) := by decide +kernel
theorem dX9_readLaw_71 : decode cX9_readLaw 71 = .ok (.goto (-60), 3) := by decide +kernel
theorem dX9_readLaw_74 : decode cX9_readLaw 74 = .ok (.aload_n 0, 1) := by decide +kernel
theorem dX9_readLaw_75 : decode cX9_readLaw 75 = .ok (.iload_n 2, 1) := by decide +kernel
theorem dX9_readLaw_76 : decode cX9_readLaw 76 = .ok (.putfield 136, 3) := by decide +kernel
theorem dX9_readLaw_79 : decode cX9_readLaw 79 = .ok (.aload_n 0, 1) := by decide +kernel
theorem dX9_readLaw_80 : decode cX9_readLaw 80 = .ok (.iload_n 2, 1) := by decide +kernel
theorem dX9_readLaw_81 : decode cX9_readLaw 81 = .ok (.aload_n 0, 1) := by decide +kernel
theorem dX9_readLaw_82 : decode cX9_readLaw 82 = .ok (.getfield 115, 3) := by decide +kernel
theorem dX9_readLaw_85 : decode cX9_readLaw 85 = .ok (.if_icmp .ne 13, 3) := by decide +kernel
theorem dX9_readLaw_88 : decode cX9_readLaw 88 = .ok (.iload_n 1, 1) := by decide +kernel
theorem dX9_readLaw_89 : decode cX9_readLaw 89 = .ok (.bipush 6, 2) := by decide +kernel
theorem dX9_readLaw_91 : decode cX9_readLaw 91 = .ok (.if_icmp .ne 7, 3) := by decide +kernel
theorem dX9_readLaw_94 : decode cX9_readLaw 94 = .ok (.iconst 1, 1) := by decide +kernel
theorem dX9_readLaw_95 : decode cX9_readLaw 95 = .ok (.goto 4, 3) := by decide +kernel
theorem dX9_readLaw_98 : decode cX9_readLaw 98 = .ok (.iconst 0, 1) := by decide +kernel
theorem dX9_readLaw_99 : decode cX9_readLaw 99 = .ok (.putfield 139, 3) := by decide +kernel
theorem dX9_readLaw_102 : decode cX9_readLaw 102 = .ok (.return_, 1) := by decide +kernel
theorem dX9_fault_0 : decode cX9_fault 0 = .ok (.aload_n 0, 1) := by decide +kernel
theorem dX9_fault_1 : decode cX9_fault 1 = .ok (.invokevirtual 143, 3) := by decide +kernel
theorem dX9_fault_4 : decode cX9_fault 4 = .ok (.aload_n 0, 1) := by decide +kernel
theorem dX9_fault_5 : decode cX9_fault 5 = .ok (.getfield 136, 3) := by decide +kernel
theorem dX9_fault_8 : decode cX9_fault 8 = .ok (.ireturn, 1) := by decide +kernel
theorem dX9_law_0 : decode cX9_law 0 = .ok (.aload_n 0, 1) := by decide +kernel
theorem dX9_law_1 : decode cX9_law 1 = .ok (.invokevirtual 143, 3) := by decide +kernel
theorem dX9_law_4 : decode cX9_law 4 = .ok (.aload_n 0, 1) := by decide +kernel
theorem dX9_law_5 : decode cX9_law 5 = .ok (.getfield 139, 3) := by decide +kernel
theorem dX9_law_8 : decode cX9_law 8 = .ok (.ifCond .ne 6, 3) := by decide +kernel
theorem dX9_law_11 : decode cX9_law 11 = .ok (.bipush (-103), 2) := by decide +kernel
theorem dX9_law_13 : decode cX9_law 13 = .ok (.ireturn, 1) := by decide +kernel
theorem dX9_law_14 : decode cX9_law 14 = .ok (.iconst 0, 1) := by decide +kernel
theorem dX9_law_15 : decode cX9_law 15 = .ok (.istore_n 1, 1) := by decide +kernel
theorem dX9_law_16 : decode cX9_law 16 = .ok (.iconst 0, 1) := by decide +kernel
theorem dX9_law_17 : decode cX9_law 17 = .ok (.istore_n 2, 1) := by decide +kernel
theorem dX9_law_18 : decode cX9_law 18 = .ok (.iload_n 2, 1) := by decide +kernel
theorem dX9_law_19 : decode cX9_law 19 = .ok (.iconst 4, 1) := by decide +kernel
theorem dX9_law_20 : decode cX9_law 20 = .ok (.if_icmp .ge 54, 3) := by decide +kernel
theorem dX9_law_23 : decode cX9_law 23 = .ok (.aload_n 0, 1) := by decide +kernel
theorem dX9_law_24 : decode cX9_law 24 = .ok (.getfield 7, 3) := by decide +kernel
theorem dX9_law_27 : decode cX9_law 27 = .ok (.iload_n 2, 1) := by decide +kernel
theorem dX9_law_28 : decode cX9_law 28 = .ok (.aload_n 0, 1) := by decide +kernel
theorem dX9_law_29 : decode cX9_law 29 = .ok (.getfield 44, 3) := by decide +kernel
theorem dX9_law_32 : decode cX9_law 32 = .ok (.iload_n 2, 1) := by decide +kernel
theorem dX9_law_33 : decode cX9_law 33 = .ok (.iaload, 1) := by decide +kernel
theorem dX9_law_34 : decode cX9_law 34 = .ok (.iastore, 1) := by decide +kernel
theorem dX9_law_35 : decode cX9_law 35 = .ok (.aload_n 0, 1) := by decide +kernel
theorem dX9_law_36 : decode cX9_law 36 = .ok (.getfield 13, 3) := by decide +kernel
theorem dX9_law_39 : decode cX9_law 39 = .ok (.iload_n 2, 1) := by decide +kernel
theorem dX9_law_40 : decode cX9_law 40 = .ok (.aload_n 0, 1) := by decide +kernel
theorem dX9_law_41 : decode cX9_law 41 = .ok (.getfield 47, 3) := by decide +kernel
end
section
theorem dX9_law_44 : decode cX9_law 44 = .ok (.iload_n 2, 1) := by decide +kernel
theorem dX9_law_45 : decode cX9_law 45 = .ok (.iaload, 1) := by decide +kernel
theorem dX9_law_46 : decode cX9_law 46 = .ok (.iastore, 1) := by decide +kernel
theorem dX9_law_47 : decode cX9_law 47 = .ok (.aload_n 0, 1) := by decide +kernel
theorem dX9_law_48 : decode cX9_law 48 = .ok (.getfield 16, 3) := by decide +kernel
theorem dX9_law_51 : decode cX9_law 51 = .ok (.iload_n 2, 1) := by decide +kernel
theorem dX9_law_52 : decode cX9_law 52 = .ok (.aload_n 0, 1) := by decide +kernel
theorem dX9_law_53 : decode cX9_law 53 = .ok (.getfield 50, 3) := by decide +kernel
theorem dX9_law_56 : decode cX9_law 56 = .ok (.iload_n 2, 1) := by decide +kernel
theorem dX9_law_57 : decode cX9_law 57 = .ok (.iaload, 1) := by decide +kernel
theorem dX9_law_58 : decode cX9_law 58 = .ok (.iastore, 1) := by decide +kernel
theorem dX9_law_59 : decode cX9_law 59 = .ok (.iload_n 1, 1) := by decide +kernel
theorem dX9_law_60 : decode cX9_law 60 = .ok (.aload_n 0, 1) := by decide +kernel
theorem dX9_law_61 : decode cX9_law 61 = .ok (.getfield 44, 3) := by decide +kernel
theorem dX9_law_64 : decode cX9_law 64 = .ok (.iload_n 2, 1) := by decide +kernel
theorem dX9_law_65 : decode cX9_law 65 = .ok (.iaload, 1) := by decide +kernel
theorem dX9_law_66 : decode cX9_law 66 = .ok (.iadd, 1) := by decide +kernel
theorem dX9_law_67 : decode cX9_law 67 = .ok (.istore_n 1, 1) := by decide +kernel
theorem dX9_law_68 : decode cX9_law 68 = .ok (.iinc 2 1, 3) := by decide +kernel
theorem dX9_law_71 : decode cX9_law 71 = .ok (.goto (-53), 3) := by decide +kernel
theorem dX9_law_74 : decode cX9_law 74 = .ok (.aload_n 0, 1) := by decide +kernel
theorem dX9_law_75 : decode cX9_law 75 = .ok (.aload_n 0, 1) := by decide +kernel
theorem dX9_law_76 : decode cX9_law 76 = .ok (.getfield 125, 3) := by decide +kernel
theorem dX9_law_79 : decode cX9_law 79 = .ok (.putfield 146, 3) := by decide +kernel
theorem dX9_law_82 : decode cX9_law 82 = .ok (.aload_n 0, 1) := by decide +kernel
theorem dX9_law_83 : decode cX9_law 83 = .ok (.iconst 1, 1) := by decide +kernel
theorem dX9_law_84 : decode cX9_law 84 = .ok (.putfield 149, 3) := by decide +kernel
theorem dX9_law_87 : decode cX9_law 87 = .ok (.aload_n 0, 1) := by decide +kernel
theorem dX9_law_88 : decode cX9_law 88 = .ok (.dup, 1) := by decide +kernel
theorem dX9_law_89 : decode cX9_law 89 = .ok (.getfield 152, 3) := by decide +kernel
theorem dX9_law_92 : decode cX9_law 92 = .ok (.iconst 1, 1) := by decide +kernel
theorem dX9_law_93 : decode cX9_law 93 = .ok (.iadd, 1) := by decide +kernel
theorem dX9_law_94 : decode cX9_law 94 = .ok (.putfield 152, 3) := by decide +kernel
theorem dX9_law_97 : decode cX9_law 97 = .ok (.aload_n 0, 1) := by decide +kernel
theorem dX9_law_98 : decode cX9_law 98 = .ok (.iconst (-1), 1) := by decide +kernel
theorem dX9_law_99 : decode cX9_law 99 = .ok (.putfield 68, 3) := by decide +kernel
theorem dX9_law_102 : decode cX9_law 102 = .ok (.aload_n 0, 1) := by decide +kernel
theorem dX9_law_103 : decode cX9_law 103 = .ok (.iconst 0, 1) := by decide +kernel
theorem dX9_law_104 : decode cX9_law 104 = .ok (.putfield 155, 3) := by decide +kernel
theorem dX9_law_107 : decode cX9_law 107 = .ok (.aload_n 0, 1) := by decide +kernel
theorem dX9_law_108 : decode cX9_law 108 = .ok (.iconst 0, 1) := by decide +kernel
theorem dX9_law_109 : decode cX9_law 109 = .ok (.putfield 115, 3) := by decide +kernel
theorem dX9_law_112 : decode cX9_law 112 = .ok (.aload_n 0, 1) := by decide +kernel
theorem dX9_law_113 : decode cX9_law 113 = .ok (.invokevirtual 158, 3) := by decide +kernel
theorem dX9_law_116 : decode cX9_law 116 = .ok (.iload_n 1, 1) := by decide +kernel
theorem dX9_law_117 : decode cX9_law 117 = .ok (.ireturn, 1) := by decide +kernel
theorem dX9_isDeed_0 : decode cX9_isDeed 0 = .ok (.iload_n 0, 1) := by decide +kernel
theorem dX9_isDeed_1 : decode cX9_isDeed 1 = .ok (.iconst 0, 1) := by decide +kernel
theorem dX9_isDeed_2 : decode cX9_isDeed 2 = .ok (.iconst 3, 1) := by decide +kernel
theorem dX9_isDeed_3 : decode cX9_isDeed 3 = .ok (.invokestatic 111, 3) := by decide +kernel
theorem dX9_isDeed_6 : decode cX9_isDeed 6 = .ok (.ireturn, 1) := by decide +kernel
theorem dX9_deedNow_0 : decode cX9_deedNow 0 = .ok (.iload_n 2, 1) := by decide +kernel
theorem dX9_deedNow_1 : decode cX9_deedNow 1 = .ok (.ifCond .ne 12, 3) := by decide +kernel
theorem dX9_deedNow_4 : decode cX9_deedNow 4 = .ok (.aload_n 0, 1) := by decide +kernel
theorem dX9_deedNow_5 : decode cX9_deedNow 5 = .ok (.getfield 7, 3) := by decide +kernel
theorem dX9_deedNow_8 : decode cX9_deedNow 8 = .ok (.iload_n 1, 1) := by decide +kernel
theorem dX9_deedNow_9 : decode cX9_deedNow 9 = .ok (.iaload, 1) := by decide +kernel
theorem dX9_deedNow_10 : decode cX9_deedNow 10 = .ok (.goto 23, 3) := by decide +kernel
theorem dX9_deedNow_13 : decode cX9_deedNow 13 = .ok (.iload_n 2, 1) := by decide +kernel
theorem dX9_deedNow_14 : decode cX9_deedNow 14 = .ok (.iconst 1, 1) := by decide +kernel
theorem dX9_deedNow_15 : decode cX9_deedNow 15 = .ok (.if_icmp .ne 12, 3) := by decide +kernel
theorem dX9_deedNow_18 : decode cX9_deedNow 18 = .ok (.aload_n 0, 1) := by decide +kernel
theorem dX9_deedNow_19 : decode cX9_deedNow 19 = .ok (.getfield 13, 3) := by decide +kernel
theorem dX9_deedNow_22 : decode cX9_deedNow 22 = .ok (.iload_n 1, 1) := by decide +kernel
theorem dX9_deedNow_23 : decode cX9_deedNow 23 = .ok (.iaload, 1) := by decide +kernel
theorem dX9_deedNow_24 : decode cX9_deedNow 24 = .ok (.goto 9, 3) := by decide +kernel
theorem dX9_deedNow_27 : decode cX9_deedNow 27 = .ok (.aload_n 0, 1) := by decide +kernel
theorem dX9_deedNow_28 : decode cX9_deedNow 28 = .ok (.getfield 16, 3) := by decide +kernel
theorem dX9_deedNow_31 : decode cX9_deedNow 31 = .ok (.iload_n 1, 1) := by decide +kernel
theorem dX9_deedNow_32 : decode cX9_deedNow 32 = .ok (.iaload, 1) := by decide +kernel
theorem dX9_deedNow_33 : decode cX9_deedNow 33 = .ok (.ireturn, 1) := by decide +kernel
theorem dX9_deed_0 : decode cX9_deed 0 = .ok (.iload_n 1, 1) := by decide +kernel
theorem dX9_deed_1 : decode cX9_deed 1 = .ok (.invokestatic 161, 3) := by decide +kernel
theorem dX9_deed_4 : decode cX9_deed 4 = .ok (.ifCond .ne 6, 3) := by decide +kernel
theorem dX9_deed_7 : decode cX9_deed 7 = .ok (.bipush (-101), 2) := by decide +kernel
theorem dX9_deed_9 : decode cX9_deed 9 = .ok (.ireturn, 1) := by decide +kernel
theorem dX9_deed_10 : decode cX9_deed 10 = .ok (.iload_n 2, 1) := by decide +kernel
theorem dX9_deed_11 : decode cX9_deed 11 = .ok (.iconst 0, 1) := by decide +kernel
theorem dX9_deed_12 : decode cX9_deed 12 = .ok (.iconst 2, 1) := by decide +kernel
theorem dX9_deed_13 : decode cX9_deed 13 = .ok (.invokestatic 111, 3) := by decide +kernel
theorem dX9_deed_16 : decode cX9_deed 16 = .ok (.ifCond .ne 6, 3) := by decide +kernel
theorem dX9_deed_19 : decode cX9_deed 19 = .ok (.bipush (-102), 2) := by decide +kernel
theorem dX9_deed_21 : decode cX9_deed 21 = .ok (.ireturn, 1) := by decide +kernel
theorem dX9_deed_22 : decode cX9_deed 22 = .ok (.aload_n 0, 1) := by decide +kernel
theorem dX9_deed_23 : decode cX9_deed 23 = .ok (.getfield 149, 3) := by decide +kernel
theorem dX9_deed_26 : decode cX9_deed 26 = .ok (.ifCond .eq 12, 3) := by decide +kernel
theorem dX9_deed_29 : decode cX9_deed 29 = .ok (.aload_n 0, 1) := by decide +kernel
theorem dX9_deed_30 : decode cX9_deed 30 = .ok (.iload_n 1, 1) := by decide +kernel
theorem dX9_deed_31 : decode cX9_deed 31 = .ok (.iload_n 2, 1) := by decide +kernel
theorem dX9_deed_32 : decode cX9_deed 32 = .ok (.invokevirtual 165, 3) := by decide +kernel
theorem dX9_deed_35 : decode cX9_deed 35 = .ok (.goto 5, 3) := by decide +kernel
theorem dX9_deed_38 : decode cX9_deed 38 = .ok (.bipush (-103), 2) := by decide +kernel
theorem dX9_deed_40 : decode cX9_deed 40 = .ok (.ireturn, 1) := by decide +kernel
theorem dX9_lapseOf_0 : decode cX9_lapseOf 0 = .ok (.iconst 0, 1) := by decide +kernel
theorem dX9_lapseOf_1 : decode cX9_lapseOf 1 = .ok (.istore_n 3, 1) := by decide +kernel
theorem dX9_lapseOf_2 : decode cX9_lapseOf 2 = .ok (.iconst 0, 1) := by decide +kernel
theorem dX9_lapseOf_3 : decode cX9_lapseOf 3 = .ok (.istore 4, 2) := by decide +kernel
theorem dX9_lapseOf_5 : decode cX9_lapseOf 5 = .ok (.iload 4, 2) := by decide +kernel
theorem dX9_lapseOf_7 : decode cX9_lapseOf 7 = .ok (.aload_n 0, 1) := by decide +kernel
theorem dX9_lapseOf_8 : decode cX9_lapseOf 8 = .ok (.getfield 34, 3) := by decide +kernel
theorem dX9_lapseOf_11 : decode cX9_lapseOf 11 = .ok (.iload_n 1, 1) := by decide +kernel
theorem dX9_lapseOf_12 : decode cX9_lapseOf 12 = .ok (.iaload, 1) := by decide +kernel
theorem dX9_lapseOf_13 : decode cX9_lapseOf 13 = .ok (.if_icmp .ge 52, 3) := by decide +kernel
theorem dX9_lapseOf_16 : decode cX9_lapseOf 16 = .ok (.aload_n 0, 1) := by decide +kernel
theorem dX9_lapseOf_17 : decode cX9_lapseOf 17 = .ok (.getfield 37, 3) := by decide +kernel
theorem dX9_lapseOf_20 : decode cX9_lapseOf 20 = .ok (.bipush 12, 2) := by decide +kernel
theorem dX9_lapseOf_22 : decode cX9_lapseOf 22 = .ok (.iload_n 1, 1) := by decide +kernel
theorem dX9_lapseOf_23 : decode cX9_lapseOf 23 = .ok (.imul, 1) := by decide +kernel
theorem dX9_lapseOf_24 : decode cX9_lapseOf 24 = .ok (.iload 4, 2) := by decide +kernel
theorem dX9_lapseOf_26 : decode cX9_lapseOf 26 = .ok (.iadd, 1) := by decide +kernel
theorem dX9_lapseOf_27 : decode cX9_lapseOf 27 = .ok (.iaload, 1) := by decide +kernel
theorem dX9_lapseOf_28 : decode cX9_lapseOf 28 = .ok (.istore 5, 2) := by decide +kernel
theorem dX9_lapseOf_30 : decode cX9_lapseOf 30 = .ok (.iload_n 2, 1) := by decide +kernel
theorem dX9_lapseOf_31 : decode cX9_lapseOf 31 = .ok (.iload 5, 2) := by decide +kernel
theorem dX9_lapseOf_33 : decode cX9_lapseOf 33 = .ok (.iconst 4, 1) := by decide +kernel
theorem dX9_lapseOf_34 : decode cX9_lapseOf 34 = .ok (.idiv, 1) := by decide +kernel
theorem dX9_lapseOf_35 : decode cX9_lapseOf 35 = .ok (.isub, 1) := by decide +kernel
theorem dX9_lapseOf_36 : decode cX9_lapseOf 36 = .ok (.aload_n 0, 1) := by decide +kernel
theorem dX9_lapseOf_37 : decode cX9_lapseOf 37 = .ok (.getfield 146, 3) := by decide +kernel
theorem dX9_lapseOf_40 : decode cX9_lapseOf 40 = .ok (.if_icmp .gt 19, 3) := by decide +kernel
theorem dX9_lapseOf_43 : decode cX9_lapseOf 43 = .ok (.aload_n 0, 1) := by decide +kernel
theorem dX9_lapseOf_44 : decode cX9_lapseOf 44 = .ok (.getfield 37, 3) := by decide +kernel
theorem dX9_lapseOf_47 : decode cX9_lapseOf 47 = .ok (.bipush 12, 2) := by decide +kernel
theorem dX9_lapseOf_49 : decode cX9_lapseOf 49 = .ok (.iload_n 1, 1) := by decide +kernel
theorem dX9_lapseOf_50 : decode cX9_lapseOf 50 = .ok (.imul, 1) := by decide +kernel
theorem dX9_lapseOf_51 : decode cX9_lapseOf 51 = .ok (.iload_n 3, 1) := by decide +kernel
theorem dX9_lapseOf_52 : decode cX9_lapseOf 52 = .ok (.iadd, 1) := by decide +kernel
theorem dX9_lapseOf_53 : decode cX9_lapseOf 53 = .ok (.iload 5, 2) := by decide +kernel
theorem dX9_lapseOf_55 : decode cX9_lapseOf 55 = .ok (.iastore, 1) := by decide +kernel
theorem dX9_lapseOf_56 : decode cX9_lapseOf 56 = .ok (.iinc 3 1, 3) := by decide +kernel
theorem dX9_lapseOf_59 : decode cX9_lapseOf 59 = .ok (.iinc 4 1, 3) := by decide +kernel
theorem dX9_lapseOf_62 : decode cX9_lapseOf 62 = .ok (.goto (-57), 3) := by decide +kernel
theorem dX9_lapseOf_65 : decode cX9_lapseOf 65 = .ok (.aload_n 0, 1) := by decide +kernel
theorem dX9_lapseOf_66 : decode cX9_lapseOf 66 = .ok (.getfield 34, 3) := by decide +kernel
theorem dX9_lapseOf_69 : decode cX9_lapseOf 69 = .ok (.iload_n 1, 1) := by decide +kernel
theorem dX9_lapseOf_70 : decode cX9_lapseOf 70 = .ok (.iload_n 3, 1) := by decide +kernel
theorem dX9_lapseOf_71 : decode cX9_lapseOf 71 = .ok (.iastore, 1) := by decide +kernel
theorem dX9_lapseOf_72 : decode cX9_lapseOf 72 = .ok (.return_, 1) := by decide +kernel
theorem dX9_lapseAll_0 : decode cX9_lapseAll 0 = .ok (.iconst 0, 1) := by decide +kernel
theorem dX9_lapseAll_1 : decode cX9_lapseAll 1 = .ok (.istore_n 1, 1) := by decide +kernel
theorem dX9_lapseAll_2 : decode cX9_lapseAll 2 = .ok (.iload_n 1, 1) := by decide +kernel
theorem dX9_lapseAll_3 : decode cX9_lapseAll 3 = .ok (.aload_n 0, 1) := by decide +kernel
theorem dX9_lapseAll_4 : decode cX9_lapseAll 4 = .ok (.getfield 168, 3) := by decide +kernel
theorem dX9_lapseAll_7 : decode cX9_lapseAll 7 = .ok (.if_icmp .ge 18, 3) := by decide +kernel
theorem dX9_lapseAll_10 : decode cX9_lapseAll 10 = .ok (.aload_n 0, 1) := by decide +kernel
theorem dX9_lapseAll_11 : decode cX9_lapseAll 11 = .ok (.iload_n 1, 1) := by decide +kernel
theorem dX9_lapseAll_12 : decode cX9_lapseAll 12 = .ok (.aload_n 0, 1) := by decide +kernel
theorem dX9_lapseAll_13 : decode cX9_lapseAll 13 = .ok (.getfield 171, 3) := by decide +kernel
theorem dX9_lapseAll_16 : decode cX9_lapseAll 16 = .ok (.invokevirtual 174, 3) := by decide +kernel
theorem dX9_lapseAll_19 : decode cX9_lapseAll 19 = .ok (.iinc 1 1, 3) := by decide +kernel
theorem dX9_lapseAll_22 : decode cX9_lapseAll 22 = .ok (.goto (-20), 3) := by decide +kernel
theorem dX9_lapseAll_25 : decode cX9_lapseAll 25 = .ok (.return_, 1) := by decide +kernel
theorem dX9_give_0 : decode cX9_give 0 = .ok (.aload_n 0, 1) := by decide +kernel
theorem dX9_give_1 : decode cX9_give 1 = .ok (.getfield 34, 3) := by decide +kernel
theorem dX9_give_4 : decode cX9_give 4 = .ok (.iload_n 1, 1) := by decide +kernel
theorem dX9_give_5 : decode cX9_give 5 = .ok (.iaload, 1) := by decide +kernel
theorem dX9_give_6 : decode cX9_give 6 = .ok (.bipush 12, 2) := by decide +kernel
theorem dX9_give_8 : decode cX9_give 8 = .ok (.if_icmp .ne 5, 3) := by decide +kernel
theorem dX9_give_11 : decode cX9_give 11 = .ok (.iconst 0, 1) := by decide +kernel
theorem dX9_give_12 : decode cX9_give 12 = .ok (.ireturn, 1) := by decide +kernel
theorem dX9_give_13 : decode cX9_give 13 = .ok (.aload_n 0, 1) := by decide +kernel
theorem dX9_give_14 : decode cX9_give 14 = .ok (.getfield 34, 3) := by decide +kernel
theorem dX9_give_17 : decode cX9_give 17 = .ok (.iload_n 1, 1) := by decide +kernel
theorem dX9_give_18 : decode cX9_give 18 = .ok (.iaload, 1) := by decide +kernel
theorem dX9_give_19 : decode cX9_give 19 = .ok (.istore_n 3, 1) := by decide +kernel
theorem dX9_give_20 : decode cX9_give 20 = .ok (.iload_n 3, 1) := by decide +kernel
theorem dX9_give_21 : decode cX9_give 21 = .ok (.ifCond .le 50, 3) := by decide +kernel
theorem dX9_give_24 : decode cX9_give 24 = .ok (.aload_n 0, 1) := by decide +kernel
theorem dX9_give_25 : decode cX9_give 25 = .ok (.getfield 37, 3) := by decide +kernel
theorem dX9_give_28 : decode cX9_give 28 = .ok (.bipush 12, 2) := by decide +kernel
theorem dX9_give_30 : decode cX9_give 30 = .ok (.iload_n 1, 1) := by decide +kernel
theorem dX9_give_31 : decode cX9_give 31 = .ok (.imul, 1) := by decide +kernel
theorem dX9_give_32 : decode cX9_give 32 = .ok (.iload_n 3, 1) := by decide +kernel
theorem dX9_give_33 : decode cX9_give 33 = .ok (.iadd, 1) := by decide +kernel
theorem dX9_give_34 : decode cX9_give 34 = .ok (.iconst 1, 1) := by decide +kernel
theorem dX9_give_35 : decode cX9_give 35 = .ok (.isub, 1) := by decide +kernel
theorem dX9_give_36 : decode cX9_give 36 = .ok (.iaload, 1) := by decide +kernel
theorem dX9_give_37 : decode cX9_give 37 = .ok (.iload_n 2, 1) := by decide +kernel
theorem dX9_give_38 : decode cX9_give 38 = .ok (.if_icmp .le 33, 3) := by decide +kernel
theorem dX9_give_41 : decode cX9_give 41 = .ok (.aload_n 0, 1) := by decide +kernel
theorem dX9_give_42 : decode cX9_give 42 = .ok (.getfield 37, 3) := by decide +kernel
theorem dX9_give_45 : decode cX9_give 45 = .ok (.bipush 12, 2) := by decide +kernel
theorem dX9_give_47 : decode cX9_give 47 = .ok (.iload_n 1, 1) := by decide +kernel
theorem dX9_give_48 : decode cX9_give 48 = .ok (.imul, 1) := by decide +kernel
theorem dX9_give_49 : decode cX9_give 49 = .ok (.iload_n 3, 1) := by decide +kernel
theorem dX9_give_50 : decode cX9_give 50 = .ok (.iadd, 1) := by decide +kernel
theorem dX9_give_51 : decode cX9_give 51 = .ok (.aload_n 0, 1) := by decide +kernel
theorem dX9_give_52 : decode cX9_give 52 = .ok (.getfield 37, 3) := by decide +kernel
theorem dX9_give_55 : decode cX9_give 55 = .ok (.bipush 12, 2) := by decide +kernel
theorem dX9_give_57 : decode cX9_give 57 = .ok (.iload_n 1, 1) := by decide +kernel
theorem dX9_give_58 : decode cX9_give 58 = .ok (.imul, 1) := by decide +kernel
theorem dX9_give_59 : decode cX9_give 59 = .ok (.iload_n 3, 1) := by decide +kernel
theorem dX9_give_60 : decode cX9_give 60 = .ok (.iadd, 1) := by decide +kernel
theorem dX9_give_61 : decode cX9_give 61 = .ok (.iconst 1, 1) := by decide +kernel
theorem dX9_give_62 : decode cX9_give 62 = .ok (.isub, 1) := by decide +kernel
theorem dX9_give_63 : decode cX9_give 63 = .ok (.iaload, 1) := by decide +kernel
theorem dX9_give_64 : decode cX9_give 64 = .ok (.iastore, 1) := by decide +kernel
theorem dX9_give_65 : decode cX9_give 65 = .ok (.iinc 3 (-1), 3) := by decide +kernel
theorem dX9_give_68 : decode cX9_give 68 = .ok (.goto (-48), 3) := by decide +kernel
theorem dX9_give_71 : decode cX9_give 71 = .ok (.aload_n 0, 1) := by decide +kernel
theorem dX9_give_72 : decode cX9_give 72 = .ok (.getfield 37, 3) := by decide +kernel
theorem dX9_give_75 : decode cX9_give 75 = .ok (.bipush 12, 2) := by decide +kernel
theorem dX9_give_77 : decode cX9_give 77 = .ok (.iload_n 1, 1) := by decide +kernel
theorem dX9_give_78 : decode cX9_give 78 = .ok (.imul, 1) := by decide +kernel
theorem dX9_give_79 : decode cX9_give 79 = .ok (.iload_n 3, 1) := by decide +kernel
theorem dX9_give_80 : decode cX9_give 80 = .ok (.iadd, 1) := by decide +kernel
theorem dX9_give_81 : decode cX9_give 81 = .ok (.iload_n 2, 1) := by decide +kernel
theorem dX9_give_82 : decode cX9_give 82 = .ok (.iastore, 1) := by decide +kernel
theorem dX9_give_83 : decode cX9_give 83 = .ok (.aload_n 0, 1) := by decide +kernel
theorem dX9_give_84 : decode cX9_give 84 = .ok (.getfield 34, 3) := by decide +kernel
theorem dX9_give_87 : decode cX9_give 87 = .ok (.iload_n 1, 1) := by decide +kernel
theorem dX9_give_88 : decode cX9_give 88 = .ok (.dup2, 1) := by decide +kernel
theorem dX9_give_89 : decode cX9_give 89 = .ok (.iaload, 1) := by decide +kernel
theorem dX9_give_90 : decode cX9_give 90 = .ok (.iconst 1, 1) := by decide +kernel
theorem dX9_give_91 : decode cX9_give 91 = .ok (.iadd, 1) := by decide +kernel
theorem dX9_give_92 : decode cX9_give 92 = .ok (.iastore, 1) := by decide +kernel
theorem dX9_give_93 : decode cX9_give 93 = .ok (.iconst 1, 1) := by decide +kernel
theorem dX9_give_94 : decode cX9_give 94 = .ok (.ireturn, 1) := by decide +kernel
theorem dX9_countOf_0 : decode cX9_countOf 0 = .ok (.iconst 0, 1) := by decide +kernel
theorem dX9_countOf_1 : decode cX9_countOf 1 = .ok (.istore_n 3, 1) := by decide +kernel
theorem dX9_countOf_2 : decode cX9_countOf 2 = .ok (.iconst 0, 1) := by decide +kernel
theorem dX9_countOf_3 : decode cX9_countOf 3 = .ok (.istore 4, 2) := by decide +kernel
theorem dX9_countOf_5 : decode cX9_countOf 5 = .ok (.iload 4, 2) := by decide +kernel
theorem dX9_countOf_7 : decode cX9_countOf 7 = .ok (.aload_n 0, 1) := by decide +kernel
theorem dX9_countOf_8 : decode cX9_countOf 8 = .ok (.getfield 34, 3) := by decide +kernel
theorem dX9_countOf_11 : decode cX9_countOf 11 = .ok (.iload_n 1, 1) := by decide +kernel
theorem dX9_countOf_12 : decode cX9_countOf 12 = .ok (.iaload, 1) := by decide +kernel
theorem dX9_countOf_13 : decode cX9_countOf 13 = .ok (.if_icmp .ge 38, 3) := by decide +kernel
theorem dX9_countOf_16 : decode cX9_countOf 16 = .ok (.iload_n 3, 1) := by decide +kernel
theorem dX9_countOf_17 : decode cX9_countOf 17 = .ok (.iload_n 2, 1) := by decide +kernel
theorem dX9_countOf_18 : decode cX9_countOf 18 = .ok (.aload_n 0, 1) := by decide +kernel
theorem dX9_countOf_19 : decode cX9_countOf 19 = .ok (.getfield 37, 3) := by decide +kernel
theorem dX9_countOf_22 : decode cX9_countOf 22 = .ok (.bipush 12, 2) := by decide +kernel
theorem dX9_countOf_24 : decode cX9_countOf 24 = .ok (.iload_n 1, 1) := by decide +kernel
theorem dX9_countOf_25 : decode cX9_countOf 25 = .ok (.imul, 1) := by decide +kernel
theorem dX9_countOf_26 : decode cX9_countOf 26 = .ok (.iload 4, 2) := by decide +kernel
theorem dX9_countOf_28 : decode cX9_countOf 28 = .ok (.iadd, 1) := by decide +kernel
theorem dX9_countOf_29 : decode cX9_countOf 29 = .ok (.iaload, 1) := by decide +kernel
theorem dX9_countOf_30 : decode cX9_countOf 30 = .ok (.iconst 4, 1) := by decide +kernel
theorem dX9_countOf_31 : decode cX9_countOf 31 = .ok (.irem, 1) := by decide +kernel
theorem dX9_countOf_32 : decode cX9_countOf 32 = .ok (.invokestatic 128, 3) := by decide +kernel
theorem dX9_countOf_35 : decode cX9_countOf 35 = .ok (.ifCond .eq 7, 3) := by decide +kernel
theorem dX9_countOf_38 : decode cX9_countOf 38 = .ok (.iconst 1, 1) := by decide +kernel
theorem dX9_countOf_39 : decode cX9_countOf 39 = .ok (.goto 4, 3) := by decide +kernel
theorem dX9_countOf_42 : decode cX9_countOf 42 = .ok (.iconst 0, 1) := by decide +kernel
theorem dX9_countOf_43 : decode cX9_countOf 43 = .ok (.iadd, 1) := by decide +kernel
theorem dX9_countOf_44 : decode cX9_countOf 44 = .ok (.istore_n 3, 1) := by decide +kernel
theorem dX9_countOf_45 : decode cX9_countOf 45 = .ok (.iinc 4 1, 3) := by decide +kernel
theorem dX9_countOf_48 : decode cX9_countOf 48 = .ok (.goto (-43), 3) := by decide +kernel
theorem dX9_countOf_51 : decode cX9_countOf 51 = .ok (.iload_n 3, 1) := by decide +kernel
theorem dX9_countOf_52 : decode cX9_countOf 52 = .ok (.ireturn, 1) := by decide +kernel
theorem dX9_take_0 : decode cX9_take 0 = .ok (.iconst 0, 1) := by decide +kernel
theorem dX9_take_1 : decode cX9_take 1 = .ok (.istore 4, 2) := by decide +kernel
theorem dX9_take_3 : decode cX9_take 3 = .ok (.iload_n 3, 1) := by decide +kernel
theorem dX9_take_4 : decode cX9_take 4 = .ok (.istore 5, 2) := by decide +kernel
theorem dX9_take_6 : decode cX9_take 6 = .ok (.iconst (-1), 1) := by decide +kernel
theorem dX9_take_7 : decode cX9_take 7 = .ok (.istore 6, 2) := by decide +kernel
theorem dX9_take_9 : decode cX9_take 9 = .ok (.iconst 0, 1) := by decide +kernel
theorem dX9_take_10 : decode cX9_take 10 = .ok (.istore 7, 2) := by decide +kernel
theorem dX9_take_12 : decode cX9_take 12 = .ok (.iload 7, 2) := by decide +kernel
theorem dX9_take_14 : decode cX9_take 14 = .ok (.aload_n 0, 1) := by decide +kernel
theorem dX9_take_15 : decode cX9_take 15 = .ok (.getfield 34, 3) := by decide +kernel
theorem dX9_take_18 : decode cX9_take 18 = .ok (.iload_n 1, 1) := by decide +kernel
theorem dX9_take_19 : decode cX9_take 19 = .ok (.iaload, 1) := by decide +kernel
theorem dX9_take_20 : decode cX9_take 20 = .ok (.if_icmp .ge 77, 3) := by decide +kernel
theorem dX9_take_23 : decode cX9_take 23 = .ok (.aload_n 0, 1) := by decide +kernel
theorem dX9_take_24 : decode cX9_take 24 = .ok (.getfield 37, 3) := by decide +kernel
theorem dX9_take_27 : decode cX9_take 27 = .ok (.bipush 12, 2) := by decide +kernel
theorem dX9_take_29 : decode cX9_take 29 = .ok (.iload_n 1, 1) := by decide +kernel
theorem dX9_take_30 : decode cX9_take 30 = .ok (.imul, 1) := by decide +kernel
theorem dX9_take_31 : decode cX9_take 31 = .ok (.iload 7, 2) := by decide +kernel
theorem dX9_take_33 : decode cX9_take 33 = .ok (.iadd, 1) := by decide +kernel
theorem dX9_take_34 : decode cX9_take 34 = .ok (.iaload, 1) := by decide +kernel
theorem dX9_take_35 : decode cX9_take 35 = .ok (.istore 8, 2) := by decide +kernel
theorem dX9_take_37 : decode cX9_take 37 = .ok (.iload 5, 2) := by decide +kernel
theorem dX9_take_39 : decode cX9_take 39 = .ok (.ifCond .le 35, 3) := by decide +kernel
theorem dX9_take_42 : decode cX9_take 42 = .ok (.iload_n 2, 1) := by decide +kernel
theorem dX9_take_43 : decode cX9_take 43 = .ok (.iload 8, 2) := by decide +kernel
theorem dX9_take_45 : decode cX9_take 45 = .ok (.iconst 4, 1) := by decide +kernel
theorem dX9_take_46 : decode cX9_take 46 = .ok (.irem, 1) := by decide +kernel
theorem dX9_take_47 : decode cX9_take 47 = .ok (.invokestatic 128, 3) := by decide +kernel
theorem dX9_take_50 : decode cX9_take 50 = .ok (.ifCond .eq 24, 3) := by decide +kernel
theorem dX9_take_53 : decode cX9_take 53 = .ok (.iload 5, 2) := by decide +kernel
theorem dX9_take_55 : decode cX9_take 55 = .ok (.iload_n 3, 1) := by decide +kernel
theorem dX9_take_56 : decode cX9_take 56 = .ok (.if_icmp .ne 8, 3) := by decide +kernel
theorem dX9_take_59 : decode cX9_take 59 = .ok (.iload 8, 2) := by decide +kernel
theorem dX9_take_61 : decode cX9_take 61 = .ok (.goto 5, 3) := by decide +kernel
theorem dX9_take_64 : decode cX9_take 64 = .ok (.iload 6, 2) := by decide +kernel
theorem dX9_take_66 : decode cX9_take 66 = .ok (.istore 6, 2) := by decide +kernel
theorem dX9_take_68 : decode cX9_take 68 = .ok (.iinc 5 (-1), 3) := by decide +kernel
theorem dX9_take_71 : decode cX9_take 71 = .ok (.goto 20, 3) := by decide +kernel
theorem dX9_take_74 : decode cX9_take 74 = .ok (.aload_n 0, 1) := by decide +kernel
theorem dX9_take_75 : decode cX9_take 75 = .ok (.getfield 37, 3) := by decide +kernel
theorem dX9_take_78 : decode cX9_take 78 = .ok (.bipush 12, 2) := by decide +kernel
theorem dX9_take_80 : decode cX9_take 80 = .ok (.iload_n 1, 1) := by decide +kernel
theorem dX9_take_81 : decode cX9_take 81 = .ok (.imul, 1) := by decide +kernel
theorem dX9_take_82 : decode cX9_take 82 = .ok (.iload 4, 2) := by decide +kernel
theorem dX9_take_84 : decode cX9_take 84 = .ok (.iadd, 1) := by decide +kernel
theorem dX9_take_85 : decode cX9_take 85 = .ok (.iload 8, 2) := by decide +kernel
theorem dX9_take_87 : decode cX9_take 87 = .ok (.iastore, 1) := by decide +kernel
theorem dX9_take_88 : decode cX9_take 88 = .ok (.iinc 4 1, 3) := by decide +kernel
theorem dX9_take_91 : decode cX9_take 91 = .ok (.iinc 7 1, 3) := by decide +kernel
theorem dX9_take_94 : decode cX9_take 94 = .ok (.goto (-82), 3) := by decide +kernel
theorem dX9_take_97 : decode cX9_take 97 = .ok (.aload_n 0, 1) := by decide +kernel
theorem dX9_take_98 : decode cX9_take 98 = .ok (.getfield 34, 3) := by decide +kernel
theorem dX9_take_101 : decode cX9_take 101 = .ok (.iload_n 1, 1) := by decide +kernel
theorem dX9_take_102 : decode cX9_take 102 = .ok (.iload 4, 2) := by decide +kernel
theorem dX9_take_104 : decode cX9_take 104 = .ok (.iastore, 1) := by decide +kernel
theorem dX9_take_105 : decode cX9_take 105 = .ok (.iload 6, 2) := by decide +kernel
theorem dX9_take_107 : decode cX9_take 107 = .ok (.ireturn, 1) := by decide +kernel
theorem dX9_isThere_0 : decode cX9_isThere 0 = .ok (.iload_n 1, 1) := by decide +kernel
theorem dX9_isThere_1 : decode cX9_isThere 1 = .ok (.iconst 0, 1) := by decide +kernel
theorem dX9_isThere_2 : decode cX9_isThere 2 = .ok (.aload_n 0, 1) := by decide +kernel
theorem dX9_isThere_3 : decode cX9_isThere 3 = .ok (.getfield 168, 3) := by decide +kernel
theorem dX9_isThere_6 : decode cX9_isThere 6 = .ok (.iconst 1, 1) := by decide +kernel
theorem dX9_isThere_7 : decode cX9_isThere 7 = .ok (.isub, 1) := by decide +kernel
theorem dX9_isThere_8 : decode cX9_isThere 8 = .ok (.invokestatic 111, 3) := by decide +kernel
theorem dX9_isThere_11 : decode cX9_isThere 11 = .ok (.ireturn, 1) := by decide +kernel
theorem dX9_isPerson_0 : decode cX9_isPerson 0 = .ok (.aload_n 0, 1) := by decide +kernel
theorem dX9_isPerson_1 : decode cX9_isPerson 1 = .ok (.iload_n 1, 1) := by decide +kernel
theorem dX9_isPerson_2 : decode cX9_isPerson 2 = .ok (.invokevirtual 178, 3) := by decide +kernel
theorem dX9_isPerson_5 : decode cX9_isPerson 5 = .ok (.ifCond .eq 16, 3) := by decide +kernel
theorem dX9_isPerson_8 : decode cX9_isPerson 8 = .ok (.aload_n 0, 1) := by decide +kernel
theorem dX9_isPerson_9 : decode cX9_isPerson 9 = .ok (.getfield 31, 3) := by decide +kernel
theorem dX9_isPerson_12 : decode cX9_isPerson 12 = .ok (.iload_n 1, 1) := by decide +kernel
theorem dX9_isPerson_13 : decode cX9_isPerson 13 = .ok (.iaload, 1) := by decide +kernel
theorem dX9_isPerson_14 : decode cX9_isPerson 14 = .ok (.ifCond .ne 7, 3) := by decide +kernel
theorem dX9_isPerson_17 : decode cX9_isPerson 17 = .ok (.iconst 1, 1) := by decide +kernel
theorem dX9_isPerson_18 : decode cX9_isPerson 18 = .ok (.goto 4, 3) := by decide +kernel
theorem dX9_isPerson_21 : decode cX9_isPerson 21 = .ok (.iconst 0, 1) := by decide +kernel
theorem dX9_isPerson_22 : decode cX9_isPerson 22 = .ok (.ireturn, 1) := by decide +kernel
theorem dX9_person_0 : decode cX9_person 0 = .ok (.iload_n 1, 1) := by decide +kernel
theorem dX9_person_1 : decode cX9_person 1 = .ok (.iconst 0, 1) := by decide +kernel
theorem dX9_person_2 : decode cX9_person 2 = .ok (.iconst 4, 1) := by decide +kernel
theorem dX9_person_3 : decode cX9_person 3 = .ok (.invokestatic 111, 3) := by decide +kernel
theorem dX9_person_6 : decode cX9_person 6 = .ok (.ifCond .ne 6, 3) := by decide +kernel
theorem dX9_person_9 : decode cX9_person 9 = .ok (.bipush (-102), 2) := by decide +kernel
theorem dX9_person_11 : decode cX9_person 11 = .ok (.ireturn, 1) := by decide +kernel
theorem dX9_person_12 : decode cX9_person 12 = .ok (.aload_n 0, 1) := by decide +kernel
theorem dX9_person_13 : decode cX9_person 13 = .ok (.getfield 149, 3) := by decide +kernel
theorem dX9_person_16 : decode cX9_person 16 = .ok (.ifCond .ne 6, 3) := by decide +kernel
theorem dX9_person_19 : decode cX9_person 19 = .ok (.bipush (-103), 2) := by decide +kernel
theorem dX9_person_21 : decode cX9_person 21 = .ok (.ireturn, 1) := by decide +kernel
theorem dX9_person_22 : decode cX9_person 22 = .ok (.aload_n 0, 1) := by decide +kernel
theorem dX9_person_23 : decode cX9_person 23 = .ok (.getfield 168, 3) := by decide +kernel
theorem dX9_person_26 : decode cX9_person 26 = .ok (.iconst 4, 1) := by decide +kernel
theorem dX9_person_27 : decode cX9_person 27 = .ok (.if_icmp .ne 6, 3) := by decide +kernel
theorem dX9_person_30 : decode cX9_person 30 = .ok (.bipush (-104), 2) := by decide +kernel
theorem dX9_person_32 : decode cX9_person 32 = .ok (.ireturn, 1) := by decide +kernel
theorem dX9_person_33 : decode cX9_person 33 = .ok (.aload_n 0, 1) := by decide +kernel
theorem dX9_person_34 : decode cX9_person 34 = .ok (.getfield 19, 3) := by decide +kernel
theorem dX9_person_37 : decode cX9_person 37 = .ok (.aload_n 0, 1) := by decide +kernel
theorem dX9_person_38 : decode cX9_person 38 = .ok (.getfield 168, 3) := by decide +kernel
theorem dX9_person_41 : decode cX9_person 41 = .ok (.iload_n 1, 1) := by decide +kernel
theorem dX9_person_42 : decode cX9_person 42 = .ok (.iastore, 1) := by decide +kernel
theorem dX9_person_43 : decode cX9_person 43 = .ok (.aload_n 0, 1) := by decide +kernel
theorem dX9_person_44 : decode cX9_person 44 = .ok (.getfield 22, 3) := by decide +kernel
theorem dX9_person_47 : decode cX9_person 47 = .ok (.aload_n 0, 1) := by decide +kernel
theorem dX9_person_48 : decode cX9_person 48 = .ok (.getfield 168, 3) := by decide +kernel
theorem dX9_person_51 : decode cX9_person 51 = .ok (.iconst 0, 1) := by decide +kernel
theorem dX9_person_52 : decode cX9_person 52 = .ok (.iastore, 1) := by decide +kernel
theorem dX9_person_53 : decode cX9_person 53 = .ok (.aload_n 0, 1) := by decide +kernel
theorem dX9_person_54 : decode cX9_person 54 = .ok (.getfield 25, 3) := by decide +kernel
theorem dX9_person_57 : decode cX9_person 57 = .ok (.aload_n 0, 1) := by decide +kernel
theorem dX9_person_58 : decode cX9_person 58 = .ok (.getfield 168, 3) := by decide +kernel
theorem dX9_person_61 : decode cX9_person 61 = .ok (.iconst 0, 1) := by decide +kernel
theorem dX9_person_62 : decode cX9_person 62 = .ok (.iastore, 1) := by decide +kernel
theorem dX9_person_63 : decode cX9_person 63 = .ok (.aload_n 0, 1) := by decide +kernel
theorem dX9_person_64 : decode cX9_person 64 = .ok (.getfield 28, 3) := by decide +kernel
theorem dX9_person_67 : decode cX9_person 67 = .ok (.aload_n 0, 1) := by decide +kernel
theorem dX9_person_68 : decode cX9_person 68 = .ok (.getfield 168, 3) := by decide +kernel
theorem dX9_person_71 : decode cX9_person 71 = .ok (.iconst 0, 1) := by decide +kernel
theorem dX9_person_72 : decode cX9_person 72 = .ok (.iastore, 1) := by decide +kernel
theorem dX9_person_73 : decode cX9_person 73 = .ok (.aload_n 0, 1) := by decide +kernel
theorem dX9_person_74 : decode cX9_person 74 = .ok (.getfield 31, 3) := by decide +kernel
theorem dX9_person_77 : decode cX9_person 77 = .ok (.aload_n 0, 1) := by decide +kernel
theorem dX9_person_78 : decode cX9_person 78 = .ok (.getfield 168, 3) := by decide +kernel
theorem dX9_person_81 : decode cX9_person 81 = .ok (.iconst 0, 1) := by decide +kernel
theorem dX9_person_82 : decode cX9_person 82 = .ok (.iastore, 1) := by decide +kernel
theorem dX9_person_83 : decode cX9_person 83 = .ok (.aload_n 0, 1) := by decide +kernel
theorem dX9_person_84 : decode cX9_person 84 = .ok (.getfield 34, 3) := by decide +kernel
theorem dX9_person_87 : decode cX9_person 87 = .ok (.aload_n 0, 1) := by decide +kernel
theorem dX9_person_88 : decode cX9_person 88 = .ok (.getfield 168, 3) := by decide +kernel
theorem dX9_person_91 : decode cX9_person 91 = .ok (.iconst 0, 1) := by decide +kernel
theorem dX9_person_92 : decode cX9_person 92 = .ok (.iastore, 1) := by decide +kernel
theorem dX9_person_93 : decode cX9_person 93 = .ok (.aload_n 0, 1) := by decide +kernel
theorem dX9_person_94 : decode cX9_person 94 = .ok (.dup, 1) := by decide +kernel
theorem dX9_person_95 : decode cX9_person 95 = .ok (.getfield 168, 3) := by decide +kernel
theorem dX9_person_98 : decode cX9_person 98 = .ok (.iconst 1, 1) := by decide +kernel
theorem dX9_person_99 : decode cX9_person 99 = .ok (.iadd, 1) := by decide +kernel
theorem dX9_person_100 : decode cX9_person 100 = .ok (.putfield 168, 3) := by decide +kernel
theorem dX9_person_103 : decode cX9_person 103 = .ok (.aload_n 0, 1) := by decide +kernel
theorem dX9_person_104 : decode cX9_person 104 = .ok (.getfield 168, 3) := by decide +kernel
theorem dX9_person_107 : decode cX9_person 107 = .ok (.iconst 1, 1) := by decide +kernel
theorem dX9_person_108 : decode cX9_person 108 = .ok (.isub, 1) := by decide +kernel
theorem dX9_person_109 : decode cX9_person 109 = .ok (.ireturn, 1) := by decide +kernel
theorem dX9_personNow_0 : decode cX9_personNow 0 = .ok (.iload_n 2, 1) := by decide +kernel
theorem dX9_personNow_1 : decode cX9_personNow 1 = .ok (.tableswitch 122 0 8 #[51, 58, 65, 72, 79, 79, 79, 90, 115], 51) := by decide +kernel
theorem dX9_personNow_52 : decode cX9_personNow 52 = .ok (.aload_n 0, 1) := by decide +kernel
theorem dX9_personNow_53 : decode cX9_personNow 53 = .ok (.getfield 19, 3) := by decide +kernel
theorem dX9_personNow_56 : decode cX9_personNow 56 = .ok (.iload_n 1, 1) := by decide +kernel
theorem dX9_personNow_57 : decode cX9_personNow 57 = .ok (.iaload, 1) := by decide +kernel
theorem dX9_personNow_58 : decode cX9_personNow 58 = .ok (.ireturn, 1) := by decide +kernel
theorem dX9_personNow_59 : decode cX9_personNow 59 = .ok (.aload_n 0, 1) := by decide +kernel
theorem dX9_personNow_60 : decode cX9_personNow 60 = .ok (.getfield 22, 3) := by decide +kernel
theorem dX9_personNow_63 : decode cX9_personNow 63 = .ok (.iload_n 1, 1) := by decide +kernel
theorem dX9_personNow_64 : decode cX9_personNow 64 = .ok (.iaload, 1) := by decide +kernel
theorem dX9_personNow_65 : decode cX9_personNow 65 = .ok (.ireturn, 1) := by decide +kernel
theorem dX9_personNow_66 : decode cX9_personNow 66 = .ok (.aload_n 0, 1) := by decide +kernel
theorem dX9_personNow_67 : decode cX9_personNow 67 = .ok (.getfield 25, 3) := by decide +kernel
theorem dX9_personNow_70 : decode cX9_personNow 70 = .ok (.iload_n 1, 1) := by decide +kernel
theorem dX9_personNow_71 : decode cX9_personNow 71 = .ok (.iaload, 1) := by decide +kernel
theorem dX9_personNow_72 : decode cX9_personNow 72 = .ok (.ireturn, 1) := by decide +kernel
theorem dX9_personNow_73 : decode cX9_personNow 73 = .ok (.aload_n 0, 1) := by decide +kernel
theorem dX9_personNow_74 : decode cX9_personNow 74 = .ok (.getfield 34, 3) := by decide +kernel
theorem dX9_personNow_77 : decode cX9_personNow 77 = .ok (.iload_n 1, 1) := by decide +kernel
theorem dX9_personNow_78 : decode cX9_personNow 78 = .ok (.iaload, 1) := by decide +kernel
theorem dX9_personNow_79 : decode cX9_personNow 79 = .ok (.ireturn, 1) := by decide +kernel
theorem dX9_personNow_80 : decode cX9_personNow 80 = .ok (.aload_n 0, 1) := by decide +kernel
theorem dX9_personNow_81 : decode cX9_personNow 81 = .ok (.iload_n 1, 1) := by decide +kernel
theorem dX9_personNow_82 : decode cX9_personNow 82 = .ok (.iconst 1, 1) := by decide +kernel
theorem dX9_personNow_83 : decode cX9_personNow 83 = .ok (.iload_n 2, 1) := by decide +kernel
theorem dX9_personNow_84 : decode cX9_personNow 84 = .ok (.iconst 4, 1) := by decide +kernel
theorem dX9_personNow_85 : decode cX9_personNow 85 = .ok (.isub, 1) := by decide +kernel
theorem dX9_personNow_86 : decode cX9_personNow 86 = .ok (.ishl, 1) := by decide +kernel
theorem dX9_personNow_87 : decode cX9_personNow 87 = .ok (.invokevirtual 181, 3) := by decide +kernel
theorem dX9_personNow_90 : decode cX9_personNow 90 = .ok (.ireturn, 1) := by decide +kernel
theorem dX9_personNow_91 : decode cX9_personNow 91 = .ok (.aload_n 0, 1) := by decide +kernel
theorem dX9_personNow_92 : decode cX9_personNow 92 = .ok (.getfield 34, 3) := by decide +kernel
theorem dX9_personNow_95 : decode cX9_personNow 95 = .ok (.iload_n 1, 1) := by decide +kernel
theorem dX9_personNow_96 : decode cX9_personNow 96 = .ok (.iaload, 1) := by decide +kernel
theorem dX9_personNow_97 : decode cX9_personNow 97 = .ok (.ifCond .ne 7, 3) := by decide +kernel
theorem dX9_personNow_100 : decode cX9_personNow 100 = .ok (.iconst (-1), 1) := by decide +kernel
theorem dX9_personNow_101 : decode cX9_personNow 101 = .ok (.goto 14, 3) := by decide +kernel
theorem dX9_personNow_104 : decode cX9_personNow 104 = .ok (.aload_n 0, 1) := by decide +kernel
theorem dX9_personNow_105 : decode cX9_personNow 105 = .ok (.getfield 37, 3) := by decide +kernel
theorem dX9_personNow_108 : decode cX9_personNow 108 = .ok (.bipush 12, 2) := by decide +kernel
theorem dX9_personNow_110 : decode cX9_personNow 110 = .ok (.iload_n 1, 1) := by decide +kernel
theorem dX9_personNow_111 : decode cX9_personNow 111 = .ok (.imul, 1) := by decide +kernel
theorem dX9_personNow_112 : decode cX9_personNow 112 = .ok (.iaload, 1) := by decide +kernel
theorem dX9_personNow_113 : decode cX9_personNow 113 = .ok (.iconst 4, 1) := by decide +kernel
theorem dX9_personNow_114 : decode cX9_personNow 114 = .ok (.idiv, 1) := by decide +kernel
theorem dX9_personNow_115 : decode cX9_personNow 115 = .ok (.ireturn, 1) := by decide +kernel
theorem dX9_personNow_116 : decode cX9_personNow 116 = .ok (.aload_n 0, 1) := by decide +kernel
theorem dX9_personNow_117 : decode cX9_personNow 117 = .ok (.getfield 28, 3) := by decide +kernel
theorem dX9_personNow_120 : decode cX9_personNow 120 = .ok (.iload_n 1, 1) := by decide +kernel
theorem dX9_personNow_121 : decode cX9_personNow 121 = .ok (.iaload, 1) := by decide +kernel
theorem dX9_personNow_122 : decode cX9_personNow 122 = .ok (.ireturn, 1) := by decide +kernel
theorem dX9_personNow_123 : decode cX9_personNow 123 = .ok (.aload_n 0, 1) := by decide +kernel
theorem dX9_personNow_124 : decode cX9_personNow 124 = .ok (.getfield 31, 3) := by decide +kernel
theorem dX9_personNow_127 : decode cX9_personNow 127 = .ok (.iload_n 1, 1) := by decide +kernel
theorem dX9_personNow_128 : decode cX9_personNow 128 = .ok (.iaload, 1) := by decide +kernel
theorem dX9_personNow_129 : decode cX9_personNow 129 = .ok (.ireturn, 1) := by decide +kernel
theorem dX9_about_0 : decode cX9_about 0 = .ok (.aload_n 0, 1) := by decide +kernel
theorem dX9_about_1 : decode cX9_about 1 = .ok (.iload_n 1, 1) := by decide +kernel
theorem dX9_about_2 : decode cX9_about 2 = .ok (.invokevirtual 178, 3) := by decide +kernel
theorem dX9_about_5 : decode cX9_about 5 = .ok (.ifCond .ne 8, 3) := by decide +kernel
theorem dX9_about_8 : decode cX9_about 8 = .ok (.bipush (-101), 2) := by decide +kernel
theorem dX9_about_10 : decode cX9_about 10 = .ok (.goto 24, 3) := by decide +kernel
theorem dX9_about_13 : decode cX9_about 13 = .ok (.iload_n 2, 1) := by decide +kernel
theorem dX9_about_14 : decode cX9_about 14 = .ok (.iconst 0, 1) := by decide +kernel
theorem dX9_about_15 : decode cX9_about 15 = .ok (.bipush 9, 2) := by decide +kernel
theorem dX9_about_17 : decode cX9_about 17 = .ok (.invokestatic 111, 3) := by decide +kernel
theorem dX9_about_20 : decode cX9_about 20 = .ok (.ifCond .eq 12, 3) := by decide +kernel
theorem dX9_about_23 : decode cX9_about 23 = .ok (.aload_n 0, 1) := by decide +kernel
theorem dX9_about_24 : decode cX9_about 24 = .ok (.iload_n 1, 1) := by decide +kernel
theorem dX9_about_25 : decode cX9_about 25 = .ok (.iload_n 2, 1) := by decide +kernel
theorem dX9_about_26 : decode cX9_about 26 = .ok (.invokevirtual 184, 3) := by decide +kernel
theorem dX9_about_29 : decode cX9_about 29 = .ok (.goto 5, 3) := by decide +kernel
theorem dX9_about_32 : decode cX9_about 32 = .ok (.bipush (-102), 2) := by decide +kernel
theorem dX9_about_34 : decode cX9_about 34 = .ok (.ireturn, 1) := by decide +kernel
theorem dX9_as_0 : decode cX9_as 0 = .ok (.aload_n 0, 1) := by decide +kernel
theorem dX9_as_1 : decode cX9_as 1 = .ok (.iload_n 1, 1) := by decide +kernel
theorem dX9_as_2 : decode cX9_as 2 = .ok (.invokevirtual 178, 3) := by decide +kernel
theorem dX9_as_5 : decode cX9_as 5 = .ok (.ifCond .ne 6, 3) := by decide +kernel
theorem dX9_as_8 : decode cX9_as 8 = .ok (.bipush (-101), 2) := by decide +kernel
theorem dX9_as_10 : decode cX9_as 10 = .ok (.ireturn, 1) := by decide +kernel
theorem dX9_as_11 : decode cX9_as 11 = .ok (.iload_n 2, 1) := by decide +kernel
theorem dX9_as_12 : decode cX9_as 12 = .ok (.iconst 0, 1) := by decide +kernel
theorem dX9_as_13 : decode cX9_as 13 = .ok (.iconst 4, 1) := by decide +kernel
theorem dX9_as_14 : decode cX9_as 14 = .ok (.invokestatic 111, 3) := by decide +kernel
theorem dX9_as_17 : decode cX9_as 17 = .ok (.ifCond .ne 6, 3) := by decide +kernel
theorem dX9_as_20 : decode cX9_as 20 = .ok (.bipush (-102), 2) := by decide +kernel
theorem dX9_as_22 : decode cX9_as 22 = .ok (.ireturn, 1) := by decide +kernel
theorem dX9_as_23 : decode cX9_as 23 = .ok (.aload_n 0, 1) := by decide +kernel
theorem dX9_as_24 : decode cX9_as 24 = .ok (.getfield 19, 3) := by decide +kernel
theorem dX9_as_27 : decode cX9_as 27 = .ok (.iload_n 1, 1) := by decide +kernel
theorem dX9_as_28 : decode cX9_as 28 = .ok (.iaload, 1) := by decide +kernel
theorem dX9_as_29 : decode cX9_as 29 = .ok (.istore_n 3, 1) := by decide +kernel
theorem dX9_as_30 : decode cX9_as 30 = .ok (.iload_n 2, 1) := by decide +kernel
theorem dX9_as_31 : decode cX9_as 31 = .ok (.ifCond .eq 18, 3) := by decide +kernel
theorem dX9_as_34 : decode cX9_as 34 = .ok (.iload_n 3, 1) := by decide +kernel
theorem dX9_as_35 : decode cX9_as 35 = .ok (.iload_n 2, 1) := by decide +kernel
theorem dX9_as_36 : decode cX9_as 36 = .ok (.if_icmp .eq 13, 3) := by decide +kernel
theorem dX9_as_39 : decode cX9_as 39 = .ok (.iload_n 2, 1) := by decide +kernel
theorem dX9_as_40 : decode cX9_as 40 = .ok (.iconst 3, 1) := by decide +kernel
theorem dX9_as_41 : decode cX9_as 41 = .ok (.if_icmp .ne 12, 3) := by decide +kernel
theorem dX9_as_44 : decode cX9_as 44 = .ok (.iload_n 3, 1) := by decide +kernel
theorem dX9_as_45 : decode cX9_as 45 = .ok (.iconst 4, 1) := by decide +kernel
theorem dX9_as_46 : decode cX9_as 46 = .ok (.if_icmp .ne 7, 3) := by decide +kernel
theorem dX9_as_49 : decode cX9_as 49 = .ok (.iload_n 1, 1) := by decide +kernel
theorem dX9_as_50 : decode cX9_as 50 = .ok (.goto 4, 3) := by decide +kernel
theorem dX9_as_53 : decode cX9_as 53 = .ok (.iconst (-1), 1) := by decide +kernel
theorem dX9_as_54 : decode cX9_as 54 = .ok (.ireturn, 1) := by decide +kernel
theorem dX9_isAct_0 : decode cX9_isAct 0 = .ok (.iload_n 0, 1) := by decide +kernel
theorem dX9_isAct_1 : decode cX9_isAct 1 = .ok (.iconst 0, 1) := by decide +kernel
theorem dX9_isAct_2 : decode cX9_isAct 2 = .ok (.iconst 2, 1) := by decide +kernel
theorem dX9_isAct_3 : decode cX9_isAct 3 = .ok (.invokestatic 111, 3) := by decide +kernel
theorem dX9_isAct_6 : decode cX9_isAct 6 = .ok (.ifCond .ne 25, 3) := by decide +kernel
theorem dX9_isAct_9 : decode cX9_isAct 9 = .ok (.iload_n 0, 1) := by decide +kernel
theorem dX9_isAct_10 : decode cX9_isAct 10 = .ok (.bipush 10, 2) := by decide +kernel
theorem dX9_isAct_12 : decode cX9_isAct 12 = .ok (.bipush 13, 2) := by decide +kernel
theorem dX9_isAct_14 : decode cX9_isAct 14 = .ok (.invokestatic 111, 3) := by decide +kernel
theorem dX9_isAct_17 : decode cX9_isAct 17 = .ok (.ifCond .ne 14, 3) := by decide +kernel
theorem dX9_isAct_20 : decode cX9_isAct 20 = .ok (.iload_n 0, 1) := by decide +kernel
theorem dX9_isAct_21 : decode cX9_isAct 21 = .ok (.bipush 20, 2) := by decide +kernel
theorem dX9_isAct_23 : decode cX9_isAct 23 = .ok (.bipush 23, 2) := by decide +kernel
theorem dX9_isAct_25 : decode cX9_isAct 25 = .ok (.invokestatic 111, 3) := by decide +kernel
theorem dX9_isAct_28 : decode cX9_isAct 28 = .ok (.ifCond .eq 7, 3) := by decide +kernel
theorem dX9_isAct_31 : decode cX9_isAct 31 = .ok (.iconst 1, 1) := by decide +kernel
theorem dX9_isAct_32 : decode cX9_isAct 32 = .ok (.goto 4, 3) := by decide +kernel
theorem dX9_isAct_35 : decode cX9_isAct 35 = .ok (.iconst 0, 1) := by decide +kernel
theorem dX9_isAct_36 : decode cX9_isAct 36 = .ok (.ireturn, 1) := by decide +kernel
theorem dX9_needs_0 : decode cX9_needs 0 = .ok (.iload_n 0, 1) := by decide +kernel
theorem dX9_needs_1 : decode cX9_needs 1 = .ok (.iconst 1, 1) := by decide +kernel
theorem dX9_needs_2 : decode cX9_needs 2 = .ok (.if_icmp .ne 14, 3) := by decide +kernel
theorem dX9_needs_5 : decode cX9_needs 5 = .ok (.iload_n 1, 1) := by decide +kernel
theorem dX9_needs_6 : decode cX9_needs 6 = .ok (.iconst 1, 1) := by decide +kernel
theorem dX9_needs_7 : decode cX9_needs 7 = .ok (.if_icmp .le 9, 3) := by decide +kernel
theorem dX9_needs_10 : decode cX9_needs 10 = .ok (.iload_n 1, 1) := by decide +kernel
theorem dX9_needs_11 : decode cX9_needs 11 = .ok (.iconst 1, 1) := by decide +kernel
theorem dX9_needs_12 : decode cX9_needs 12 = .ok (.isub, 1) := by decide +kernel
theorem dX9_needs_13 : decode cX9_needs 13 = .ok (.goto 4, 3) := by decide +kernel
theorem dX9_needs_16 : decode cX9_needs 16 = .ok (.iload_n 1, 1) := by decide +kernel
theorem dX9_needs_17 : decode cX9_needs 17 = .ok (.ireturn, 1) := by decide +kernel
theorem dX9_gets_0 : decode cX9_gets 0 = .ok (.aload_n 0, 1) := by decide +kernel
theorem dX9_gets_1 : decode cX9_gets 1 = .ok (.getfield 13, 3) := by decide +kernel
theorem dX9_gets_4 : decode cX9_gets 4 = .ok (.iload_n 2, 1) := by decide +kernel
theorem dX9_gets_5 : decode cX9_gets 5 = .ok (.iaload, 1) := by decide +kernel
theorem dX9_gets_6 : decode cX9_gets 6 = .ok (.aload_n 0, 1) := by decide +kernel
theorem dX9_gets_7 : decode cX9_gets 7 = .ok (.getfield 19, 3) := by decide +kernel
theorem dX9_gets_10 : decode cX9_gets 10 = .ok (.iload_n 1, 1) := by decide +kernel
theorem dX9_gets_11 : decode cX9_gets 11 = .ok (.iaload, 1) := by decide +kernel
theorem dX9_gets_12 : decode cX9_gets 12 = .ok (.iconst 3, 1) := by decide +kernel
theorem dX9_gets_13 : decode cX9_gets 13 = .ok (.if_icmp .eq 13, 3) := by decide +kernel
theorem dX9_gets_16 : decode cX9_gets 16 = .ok (.aload_n 0, 1) := by decide +kernel
theorem dX9_gets_17 : decode cX9_gets 17 = .ok (.getfield 19, 3) := by decide +kernel
theorem dX9_gets_20 : decode cX9_gets 20 = .ok (.iload_n 1, 1) := by decide +kernel
theorem dX9_gets_21 : decode cX9_gets 21 = .ok (.iaload, 1) := by decide +kernel
theorem dX9_gets_22 : decode cX9_gets 22 = .ok (.iconst 4, 1) := by decide +kernel
theorem dX9_gets_23 : decode cX9_gets 23 = .ok (.if_icmp .ne 7, 3) := by decide +kernel
theorem dX9_gets_26 : decode cX9_gets 26 = .ok (.iconst 1, 1) := by decide +kernel
theorem dX9_gets_27 : decode cX9_gets 27 = .ok (.goto 4, 3) := by decide +kernel
theorem dX9_gets_30 : decode cX9_gets 30 = .ok (.iconst 0, 1) := by decide +kernel
theorem dX9_gets_31 : decode cX9_gets 31 = .ok (.iadd, 1) := by decide +kernel
theorem dX9_gets_32 : decode cX9_gets 32 = .ok (.ireturn, 1) := by decide +kernel
theorem dX9_isCovered_0 : decode cX9_isCovered 0 = .ok (.aload_n 0, 1) := by decide +kernel
theorem dX9_isCovered_1 : decode cX9_isCovered 1 = .ok (.getfield 25, 3) := by decide +kernel
theorem dX9_isCovered_4 : decode cX9_isCovered 4 = .ok (.iload_n 1, 1) := by decide +kernel
theorem dX9_isCovered_5 : decode cX9_isCovered 5 = .ok (.iaload, 1) := by decide +kernel
theorem dX9_isCovered_6 : decode cX9_isCovered 6 = .ok (.ifCond .ne 31, 3) := by decide +kernel
theorem dX9_isCovered_9 : decode cX9_isCovered 9 = .ok (.aload_n 0, 1) := by decide +kernel
theorem dX9_isCovered_10 : decode cX9_isCovered 10 = .ok (.iload_n 1, 1) := by decide +kernel
theorem dX9_isCovered_11 : decode cX9_isCovered 11 = .ok (.aload_n 0, 1) := by decide +kernel
theorem dX9_isCovered_12 : decode cX9_isCovered 12 = .ok (.getfield 16, 3) := by decide +kernel
theorem dX9_isCovered_15 : decode cX9_isCovered 15 = .ok (.iload_n 2, 1) := by decide +kernel
theorem dX9_isCovered_16 : decode cX9_isCovered 16 = .ok (.iaload, 1) := by decide +kernel
theorem dX9_isCovered_17 : decode cX9_isCovered 17 = .ok (.invokevirtual 181, 3) := by decide +kernel
theorem dX9_isCovered_20 : decode cX9_isCovered 20 = .ok (.aload_n 0, 1) := by decide +kernel
theorem dX9_isCovered_21 : decode cX9_isCovered 21 = .ok (.getfield 19, 3) := by decide +kernel
theorem dX9_isCovered_24 : decode cX9_isCovered 24 = .ok (.iload_n 1, 1) := by decide +kernel
theorem dX9_isCovered_25 : decode cX9_isCovered 25 = .ok (.iaload, 1) := by decide +kernel
theorem dX9_isCovered_26 : decode cX9_isCovered 26 = .ok (.iload_n 3, 1) := by decide +kernel
theorem dX9_isCovered_27 : decode cX9_isCovered 27 = .ok (.invokestatic 187, 3) := by decide +kernel
theorem dX9_isCovered_30 : decode cX9_isCovered 30 = .ok (.if_icmp .lt 7, 3) := by decide +kernel
theorem dX9_isCovered_33 : decode cX9_isCovered 33 = .ok (.iconst 1, 1) := by decide +kernel
theorem dX9_isCovered_34 : decode cX9_isCovered 34 = .ok (.goto 4, 3) := by decide +kernel
theorem dX9_isCovered_37 : decode cX9_isCovered 37 = .ok (.iconst 0, 1) := by decide +kernel
theorem dX9_isCovered_38 : decode cX9_isCovered 38 = .ok (.ireturn, 1) := by decide +kernel
theorem dX9_mayDo_0 : decode cX9_mayDo 0 = .ok (.iload_n 2, 1) := by decide +kernel
theorem dX9_mayDo_1 : decode cX9_mayDo 1 = .ok (.bipush 20, 2) := by decide +kernel
theorem dX9_mayDo_3 : decode cX9_mayDo 3 = .ok (.if_icmp .lt 18, 3) := by decide +kernel
theorem dX9_mayDo_6 : decode cX9_mayDo 6 = .ok (.aload_n 0, 1) := by decide +kernel
theorem dX9_mayDo_7 : decode cX9_mayDo 7 = .ok (.getfield 25, 3) := by decide +kernel
theorem dX9_mayDo_10 : decode cX9_mayDo 10 = .ok (.iload_n 1, 1) := by decide +kernel
theorem dX9_mayDo_11 : decode cX9_mayDo 11 = .ok (.iaload, 1) := by decide +kernel
theorem dX9_mayDo_12 : decode cX9_mayDo 12 = .ok (.ifCond .ne 7, 3) := by decide +kernel
theorem dX9_mayDo_15 : decode cX9_mayDo 15 = .ok (.iconst 1, 1) := by decide +kernel
theorem dX9_mayDo_16 : decode cX9_mayDo 16 = .ok (.goto 4, 3) := by decide +kernel
theorem dX9_mayDo_19 : decode cX9_mayDo 19 = .ok (.iconst 0, 1) := by decide +kernel
theorem dX9_mayDo_20 : decode cX9_mayDo 20 = .ok (.ireturn, 1) := by decide +kernel
theorem dX9_mayDo_21 : decode cX9_mayDo 21 = .ok (.iload_n 2, 1) := by decide +kernel
theorem dX9_mayDo_22 : decode cX9_mayDo 22 = .ok (.bipush 10, 2) := by decide +kernel
theorem dX9_mayDo_24 : decode cX9_mayDo 24 = .ok (.if_icmp .lt 24, 3) := by decide +kernel
theorem dX9_mayDo_27 : decode cX9_mayDo 27 = .ok (.aload_n 0, 1) := by decide +kernel
theorem dX9_mayDo_28 : decode cX9_mayDo 28 = .ok (.iload_n 1, 1) := by decide +kernel
theorem dX9_mayDo_29 : decode cX9_mayDo 29 = .ok (.iload_n 2, 1) := by decide +kernel
theorem dX9_mayDo_30 : decode cX9_mayDo 30 = .ok (.bipush 10, 2) := by decide +kernel
theorem dX9_mayDo_32 : decode cX9_mayDo 32 = .ok (.isub, 1) := by decide +kernel
theorem dX9_mayDo_33 : decode cX9_mayDo 33 = .ok (.aload_n 0, 1) := by decide +kernel
theorem dX9_mayDo_34 : decode cX9_mayDo 34 = .ok (.getfield 7, 3) := by decide +kernel
theorem dX9_mayDo_37 : decode cX9_mayDo 37 = .ok (.iload_n 2, 1) := by decide +kernel
theorem dX9_mayDo_38 : decode cX9_mayDo 38 = .ok (.bipush 10, 2) := by decide +kernel
theorem dX9_mayDo_40 : decode cX9_mayDo 40 = .ok (.isub, 1) := by decide +kernel
theorem dX9_mayDo_41 : decode cX9_mayDo 41 = .ok (.iaload, 1) := by decide +kernel
theorem dX9_mayDo_42 : decode cX9_mayDo 42 = .ok (.invokevirtual 190, 3) := by decide +kernel
theorem dX9_mayDo_45 : decode cX9_mayDo 45 = .ok (.ifCond .eq 7, 3) := by decide +kernel
theorem dX9_mayDo_48 : decode cX9_mayDo 48 = .ok (.iconst 1, 1) := by decide +kernel
theorem dX9_mayDo_49 : decode cX9_mayDo 49 = .ok (.goto 4, 3) := by decide +kernel
theorem dX9_mayDo_52 : decode cX9_mayDo 52 = .ok (.iconst 0, 1) := by decide +kernel
theorem dX9_mayDo_53 : decode cX9_mayDo 53 = .ok (.ireturn, 1) := by decide +kernel
theorem dX9_doAct_0 : decode cX9_doAct 0 = .ok (.iload_n 2, 1) := by decide +kernel
theorem dX9_doAct_1 : decode cX9_doAct 1 = .ok (.bipush 20, 2) := by decide +kernel
theorem dX9_doAct_3 : decode cX9_doAct 3 = .ok (.if_icmp .lt 58, 3) := by decide +kernel
theorem dX9_doAct_6 : decode cX9_doAct 6 = .ok (.aload_n 0, 1) := by decide +kernel
theorem dX9_doAct_7 : decode cX9_doAct 7 = .ok (.getfield 22, 3) := by decide +kernel
theorem dX9_doAct_10 : decode cX9_doAct 10 = .ok (.iload_n 1, 1) := by decide +kernel
theorem dX9_doAct_11 : decode cX9_doAct 11 = .ok (.dup2, 1) := by decide +kernel
theorem dX9_doAct_12 : decode cX9_doAct 12 = .ok (.iaload, 1) := by decide +kernel
theorem dX9_doAct_13 : decode cX9_doAct 13 = .ok (.aload_n 0, 1) := by decide +kernel
theorem dX9_doAct_14 : decode cX9_doAct 14 = .ok (.iload_n 1, 1) := by decide +kernel
theorem dX9_doAct_15 : decode cX9_doAct 15 = .ok (.iload_n 2, 1) := by decide +kernel
theorem dX9_doAct_16 : decode cX9_doAct 16 = .ok (.bipush 20, 2) := by decide +kernel
theorem dX9_doAct_18 : decode cX9_doAct 18 = .ok (.isub, 1) := by decide +kernel
theorem dX9_doAct_19 : decode cX9_doAct 19 = .ok (.invokevirtual 193, 3) := by decide +kernel
theorem dX9_doAct_22 : decode cX9_doAct 22 = .ok (.iadd, 1) := by decide +kernel
theorem dX9_doAct_23 : decode cX9_doAct 23 = .ok (.iastore, 1) := by decide +kernel
theorem dX9_doAct_24 : decode cX9_doAct 24 = .ok (.aload_n 0, 1) := by decide +kernel
theorem dX9_doAct_25 : decode cX9_doAct 25 = .ok (.getfield 25, 3) := by decide +kernel
theorem dX9_doAct_28 : decode cX9_doAct 28 = .ok (.iload_n 1, 1) := by decide +kernel
theorem dX9_doAct_29 : decode cX9_doAct 29 = .ok (.dup2, 1) := by decide +kernel
theorem dX9_doAct_30 : decode cX9_doAct 30 = .ok (.iaload, 1) := by decide +kernel
theorem dX9_doAct_31 : decode cX9_doAct 31 = .ok (.aload_n 0, 1) := by decide +kernel
theorem dX9_doAct_32 : decode cX9_doAct 32 = .ok (.getfield 7, 3) := by decide +kernel
theorem dX9_doAct_35 : decode cX9_doAct 35 = .ok (.iload_n 2, 1) := by decide +kernel
theorem dX9_doAct_36 : decode cX9_doAct 36 = .ok (.bipush 20, 2) := by decide +kernel
theorem dX9_doAct_38 : decode cX9_doAct 38 = .ok (.isub, 1) := by decide +kernel
theorem dX9_doAct_39 : decode cX9_doAct 39 = .ok (.iaload, 1) := by decide +kernel
theorem dX9_doAct_40 : decode cX9_doAct 40 = .ok (.aload_n 0, 1) := by decide +kernel
theorem dX9_doAct_41 : decode cX9_doAct 41 = .ok (.getfield 19, 3) := by decide +kernel
theorem dX9_doAct_44 : decode cX9_doAct 44 = .ok (.iload_n 1, 1) := by decide +kernel
theorem dX9_doAct_45 : decode cX9_doAct 45 = .ok (.iaload, 1) := by decide +kernel
theorem dX9_doAct_46 : decode cX9_doAct 46 = .ok (.iconst 4, 1) := by decide +kernel
theorem dX9_doAct_47 : decode cX9_doAct 47 = .ok (.if_icmp .ne 7, 3) := by decide +kernel
theorem dX9_doAct_50 : decode cX9_doAct 50 = .ok (.iconst 1, 1) := by decide +kernel
theorem dX9_doAct_51 : decode cX9_doAct 51 = .ok (.goto 4, 3) := by decide +kernel
theorem dX9_doAct_54 : decode cX9_doAct 54 = .ok (.iconst 2, 1) := by decide +kernel
theorem dX9_doAct_55 : decode cX9_doAct 55 = .ok (.imul, 1) := by decide +kernel
theorem dX9_doAct_56 : decode cX9_doAct 56 = .ok (.iadd, 1) := by decide +kernel
theorem dX9_doAct_57 : decode cX9_doAct 57 = .ok (.iastore, 1) := by decide +kernel
theorem dX9_doAct_58 : decode cX9_doAct 58 = .ok (.goto 75, 3) := by decide +kernel
theorem dX9_doAct_61 : decode cX9_doAct 61 = .ok (.iload_n 2, 1) := by decide +kernel
theorem dX9_doAct_62 : decode cX9_doAct 62 = .ok (.bipush 10, 2) := by decide +kernel
theorem dX9_doAct_64 : decode cX9_doAct 64 = .ok (.if_icmp .lt 57, 3) := by decide +kernel
theorem dX9_doAct_67 : decode cX9_doAct 67 = .ok (.aload_n 0, 1) := by decide +kernel
theorem dX9_doAct_68 : decode cX9_doAct 68 = .ok (.getfield 22, 3) := by decide +kernel
theorem dX9_doAct_71 : decode cX9_doAct 71 = .ok (.iload_n 1, 1) := by decide +kernel
theorem dX9_doAct_72 : decode cX9_doAct 72 = .ok (.dup2, 1) := by decide +kernel
theorem dX9_doAct_73 : decode cX9_doAct 73 = .ok (.iaload, 1) := by decide +kernel
theorem dX9_doAct_74 : decode cX9_doAct 74 = .ok (.aload_n 0, 1) := by decide +kernel
theorem dX9_doAct_75 : decode cX9_doAct 75 = .ok (.iload_n 1, 1) := by decide +kernel
theorem dX9_doAct_76 : decode cX9_doAct 76 = .ok (.iload_n 2, 1) := by decide +kernel
theorem dX9_doAct_77 : decode cX9_doAct 77 = .ok (.bipush 10, 2) := by decide +kernel
theorem dX9_doAct_79 : decode cX9_doAct 79 = .ok (.isub, 1) := by decide +kernel
theorem dX9_doAct_80 : decode cX9_doAct 80 = .ok (.invokevirtual 193, 3) := by decide +kernel
theorem dX9_doAct_83 : decode cX9_doAct 83 = .ok (.iadd, 1) := by decide +kernel
theorem dX9_doAct_84 : decode cX9_doAct 84 = .ok (.iastore, 1) := by decide +kernel
theorem dX9_doAct_85 : decode cX9_doAct 85 = .ok (.aload_n 0, 1) := by decide +kernel
theorem dX9_doAct_86 : decode cX9_doAct 86 = .ok (.iload_n 1, 1) := by decide +kernel
theorem dX9_doAct_87 : decode cX9_doAct 87 = .ok (.aload_n 0, 1) := by decide +kernel
theorem dX9_doAct_88 : decode cX9_doAct 88 = .ok (.getfield 16, 3) := by decide +kernel
theorem dX9_doAct_91 : decode cX9_doAct 91 = .ok (.iload_n 2, 1) := by decide +kernel
theorem dX9_doAct_92 : decode cX9_doAct 92 = .ok (.bipush 10, 2) := by decide +kernel
theorem dX9_doAct_94 : decode cX9_doAct 94 = .ok (.isub, 1) := by decide +kernel
theorem dX9_doAct_95 : decode cX9_doAct 95 = .ok (.iaload, 1) := by decide +kernel
theorem dX9_doAct_96 : decode cX9_doAct 96 = .ok (.aload_n 0, 1) := by decide +kernel
theorem dX9_doAct_97 : decode cX9_doAct 97 = .ok (.getfield 19, 3) := by decide +kernel
theorem dX9_doAct_100 : decode cX9_doAct 100 = .ok (.iload_n 1, 1) := by decide +kernel
theorem dX9_doAct_101 : decode cX9_doAct 101 = .ok (.iaload, 1) := by decide +kernel
theorem dX9_doAct_102 : decode cX9_doAct 102 = .ok (.aload_n 0, 1) := by decide +kernel
theorem dX9_doAct_103 : decode cX9_doAct 103 = .ok (.getfield 7, 3) := by decide +kernel
theorem dX9_doAct_106 : decode cX9_doAct 106 = .ok (.iload_n 2, 1) := by decide +kernel
theorem dX9_doAct_107 : decode cX9_doAct 107 = .ok (.bipush 10, 2) := by decide +kernel
theorem dX9_doAct_109 : decode cX9_doAct 109 = .ok (.isub, 1) := by decide +kernel
theorem dX9_doAct_110 : decode cX9_doAct 110 = .ok (.iaload, 1) := by decide +kernel
theorem dX9_doAct_111 : decode cX9_doAct 111 = .ok (.invokestatic 187, 3) := by decide +kernel
theorem dX9_doAct_114 : decode cX9_doAct 114 = .ok (.invokevirtual 196, 3) := by decide +kernel
theorem dX9_doAct_117 : decode cX9_doAct 117 = .ok (.pop, 1) := by decide +kernel
theorem dX9_doAct_118 : decode cX9_doAct 118 = .ok (.goto 15, 3) := by decide +kernel
theorem dX9_doAct_121 : decode cX9_doAct 121 = .ok (.iload_n 2, 1) := by decide +kernel
theorem dX9_doAct_122 : decode cX9_doAct 122 = .ok (.iconst 3, 1) := by decide +kernel
theorem dX9_doAct_123 : decode cX9_doAct 123 = .ok (.if_icmp .ge 10, 3) := by decide +kernel
theorem dX9_doAct_126 : decode cX9_doAct 126 = .ok (.aload_n 0, 1) := by decide +kernel
theorem dX9_doAct_127 : decode cX9_doAct 127 = .ok (.iload_n 1, 1) := by decide +kernel
theorem dX9_doAct_128 : decode cX9_doAct 128 = .ok (.iload_n 2, 1) := by decide +kernel
theorem dX9_doAct_129 : decode cX9_doAct 129 = .ok (.iload_n 3, 1) := by decide +kernel
theorem dX9_doAct_130 : decode cX9_doAct 130 = .ok (.invokevirtual 199, 3) := by decide +kernel
theorem dX9_doAct_133 : decode cX9_doAct 133 = .ok (.return_, 1) := by decide +kernel
theorem dX9_serve_0 : decode cX9_serve 0 = .ok (.aload_n 0, 1) := by decide +kernel
theorem dX9_serve_1 : decode cX9_serve 1 = .ok (.getfield 25, 3) := by decide +kernel
theorem dX9_serve_4 : decode cX9_serve 4 = .ok (.iload_n 1, 1) := by decide +kernel
theorem dX9_serve_5 : decode cX9_serve 5 = .ok (.iaload, 1) := by decide +kernel
theorem dX9_serve_6 : decode cX9_serve 6 = .ok (.ifCond .le 14, 3) := by decide +kernel
theorem dX9_serve_9 : decode cX9_serve 9 = .ok (.aload_n 0, 1) := by decide +kernel
theorem dX9_serve_10 : decode cX9_serve 10 = .ok (.getfield 25, 3) := by decide +kernel
theorem dX9_serve_13 : decode cX9_serve 13 = .ok (.iload_n 1, 1) := by decide +kernel
theorem dX9_serve_14 : decode cX9_serve 14 = .ok (.dup2, 1) := by decide +kernel
theorem dX9_serve_15 : decode cX9_serve 15 = .ok (.iaload, 1) := by decide +kernel
theorem dX9_serve_16 : decode cX9_serve 16 = .ok (.iconst 1, 1) := by decide +kernel
theorem dX9_serve_17 : decode cX9_serve 17 = .ok (.isub, 1) := by decide +kernel
theorem dX9_serve_18 : decode cX9_serve 18 = .ok (.iastore, 1) := by decide +kernel
theorem dX9_serve_19 : decode cX9_serve 19 = .ok (.return_, 1) := by decide +kernel
theorem dX9_serve_20 : decode cX9_serve 20 = .ok (.aload_n 0, 1) := by decide +kernel
theorem dX9_serve_21 : decode cX9_serve 21 = .ok (.iload_n 1, 1) := by decide +kernel
theorem dX9_serve_22 : decode cX9_serve 22 = .ok (.iconst 4, 1) := by decide +kernel
theorem dX9_serve_23 : decode cX9_serve 23 = .ok (.iload_n 3, 1) := by decide +kernel
theorem dX9_serve_24 : decode cX9_serve 24 = .ok (.imul, 1) := by decide +kernel
theorem dX9_serve_25 : decode cX9_serve 25 = .ok (.iload_n 2, 1) := by decide +kernel
theorem dX9_serve_26 : decode cX9_serve 26 = .ok (.iadd, 1) := by decide +kernel
theorem dX9_serve_27 : decode cX9_serve 27 = .ok (.invokevirtual 203, 3) := by decide +kernel
theorem dX9_serve_30 : decode cX9_serve 30 = .ok (.pop, 1) := by decide +kernel
theorem dX9_serve_31 : decode cX9_serve 31 = .ok (.aload_n 0, 1) := by decide +kernel
theorem dX9_serve_32 : decode cX9_serve 32 = .ok (.getfield 19, 3) := by decide +kernel
theorem dX9_serve_35 : decode cX9_serve 35 = .ok (.iload_n 1, 1) := by decide +kernel
theorem dX9_serve_36 : decode cX9_serve 36 = .ok (.iaload, 1) := by decide +kernel
theorem dX9_serve_37 : decode cX9_serve 37 = .ok (.iconst 2, 1) := by decide +kernel
theorem dX9_serve_38 : decode cX9_serve 38 = .ok (.if_icmp .ne 14, 3) := by decide +kernel
theorem dX9_serve_41 : decode cX9_serve 41 = .ok (.aload_n 0, 1) := by decide +kernel
theorem dX9_serve_42 : decode cX9_serve 42 = .ok (.iload_n 1, 1) := by decide +kernel
theorem dX9_serve_43 : decode cX9_serve 43 = .ok (.iconst 4, 1) := by decide +kernel
theorem dX9_serve_44 : decode cX9_serve 44 = .ok (.iload_n 3, 1) := by decide +kernel
theorem dX9_serve_45 : decode cX9_serve 45 = .ok (.imul, 1) := by decide +kernel
theorem dX9_serve_46 : decode cX9_serve 46 = .ok (.iload_n 2, 1) := by decide +kernel
theorem dX9_serve_47 : decode cX9_serve 47 = .ok (.iadd, 1) := by decide +kernel
theorem dX9_serve_48 : decode cX9_serve 48 = .ok (.invokevirtual 203, 3) := by decide +kernel
theorem dX9_serve_51 : decode cX9_serve 51 = .ok (.pop, 1) := by decide +kernel
theorem dX9_serve_52 : decode cX9_serve 52 = .ok (.return_, 1) := by decide +kernel
theorem dX9_mayNow_0 : decode cX9_mayNow 0 = .ok (.aload_n 0, 1) := by decide +kernel
theorem dX9_mayNow_1 : decode cX9_mayNow 1 = .ok (.getfield 28, 3) := by decide +kernel
theorem dX9_mayNow_4 : decode cX9_mayNow 4 = .ok (.iload_n 1, 1) := by decide +kernel
theorem dX9_mayNow_5 : decode cX9_mayNow 5 = .ok (.iaload, 1) := by decide +kernel
theorem dX9_mayNow_6 : decode cX9_mayNow 6 = .ok (.ifCond .ne 16, 3) := by decide +kernel
theorem dX9_mayNow_9 : decode cX9_mayNow 9 = .ok (.aload_n 0, 1) := by decide +kernel
theorem dX9_mayNow_10 : decode cX9_mayNow 10 = .ok (.iload_n 1, 1) := by decide +kernel
theorem dX9_mayNow_11 : decode cX9_mayNow 11 = .ok (.iload_n 2, 1) := by decide +kernel
theorem dX9_mayNow_12 : decode cX9_mayNow 12 = .ok (.invokevirtual 206, 3) := by decide +kernel
theorem dX9_mayNow_15 : decode cX9_mayNow 15 = .ok (.ifCond .eq 7, 3) := by decide +kernel
theorem dX9_mayNow_18 : decode cX9_mayNow 18 = .ok (.iconst 1, 1) := by decide +kernel
theorem dX9_mayNow_19 : decode cX9_mayNow 19 = .ok (.goto 4, 3) := by decide +kernel
theorem dX9_mayNow_22 : decode cX9_mayNow 22 = .ok (.iconst 0, 1) := by decide +kernel
theorem dX9_mayNow_23 : decode cX9_mayNow 23 = .ok (.ireturn, 1) := by decide +kernel
theorem dX9_may_0 : decode cX9_may 0 = .ok (.aload_n 0, 1) := by decide +kernel
theorem dX9_may_1 : decode cX9_may 1 = .ok (.iload_n 1, 1) := by decide +kernel
theorem dX9_may_2 : decode cX9_may 2 = .ok (.invokevirtual 209, 3) := by decide +kernel
theorem dX9_may_5 : decode cX9_may 5 = .ok (.ifCond .eq 10, 3) := by decide +kernel
theorem dX9_may_8 : decode cX9_may 8 = .ok (.iload_n 2, 1) := by decide +kernel
theorem dX9_may_9 : decode cX9_may 9 = .ok (.invokestatic 212, 3) := by decide +kernel
theorem dX9_may_12 : decode cX9_may 12 = .ok (.ifCond .ne 6, 3) := by decide +kernel
theorem dX9_may_15 : decode cX9_may 15 = .ok (.bipush (-101), 2) := by decide +kernel
theorem dX9_may_17 : decode cX9_may 17 = .ok (.ireturn, 1) := by decide +kernel
theorem dX9_may_18 : decode cX9_may 18 = .ok (.aload_n 0, 1) := by decide +kernel
theorem dX9_may_19 : decode cX9_may 19 = .ok (.iload_n 1, 1) := by decide +kernel
theorem dX9_may_20 : decode cX9_may 20 = .ok (.iload_n 2, 1) := by decide +kernel
theorem dX9_may_21 : decode cX9_may 21 = .ok (.invokevirtual 215, 3) := by decide +kernel
theorem dX9_may_24 : decode cX9_may 24 = .ok (.ifCond .eq 7, 3) := by decide +kernel
theorem dX9_may_27 : decode cX9_may 27 = .ok (.iconst 1, 1) := by decide +kernel
theorem dX9_may_28 : decode cX9_may 28 = .ok (.goto 4, 3) := by decide +kernel
theorem dX9_may_31 : decode cX9_may 31 = .ok (.iconst 0, 1) := by decide +kernel
theorem dX9_may_32 : decode cX9_may 32 = .ok (.ireturn, 1) := by decide +kernel
theorem dX9_act_0 : decode cX9_act 0 = .ok (.aload_n 0, 1) := by decide +kernel
theorem dX9_act_1 : decode cX9_act 1 = .ok (.iload_n 1, 1) := by decide +kernel
theorem dX9_act_2 : decode cX9_act 2 = .ok (.invokevirtual 209, 3) := by decide +kernel
theorem dX9_act_5 : decode cX9_act 5 = .ok (.ifCond .eq 10, 3) := by decide +kernel
theorem dX9_act_8 : decode cX9_act 8 = .ok (.iload_n 2, 1) := by decide +kernel
theorem dX9_act_9 : decode cX9_act 9 = .ok (.invokestatic 212, 3) := by decide +kernel
theorem dX9_act_12 : decode cX9_act 12 = .ok (.ifCond .ne 6, 3) := by decide +kernel
theorem dX9_act_15 : decode cX9_act 15 = .ok (.bipush (-101), 2) := by decide +kernel
theorem dX9_act_17 : decode cX9_act 17 = .ok (.ireturn, 1) := by decide +kernel
theorem dX9_act_18 : decode cX9_act 18 = .ok (.aload_n 0, 1) := by decide +kernel
theorem dX9_act_19 : decode cX9_act 19 = .ok (.iload_n 1, 1) := by decide +kernel
theorem dX9_act_20 : decode cX9_act 20 = .ok (.iload_n 2, 1) := by decide +kernel
theorem dX9_act_21 : decode cX9_act 21 = .ok (.invokevirtual 215, 3) := by decide +kernel
theorem dX9_act_24 : decode cX9_act 24 = .ok (.ifCond .ne 6, 3) := by decide +kernel
theorem dX9_act_27 : decode cX9_act 27 = .ok (.bipush (-103), 2) := by decide +kernel
theorem dX9_act_29 : decode cX9_act 29 = .ok (.ireturn, 1) := by decide +kernel
theorem dX9_act_30 : decode cX9_act 30 = .ok (.aload_n 0, 1) := by decide +kernel
theorem dX9_act_31 : decode cX9_act 31 = .ok (.iload_n 1, 1) := by decide +kernel
theorem dX9_act_32 : decode cX9_act 32 = .ok (.iload_n 2, 1) := by decide +kernel
theorem dX9_act_33 : decode cX9_act 33 = .ok (.aload_n 0, 1) := by decide +kernel
theorem dX9_act_34 : decode cX9_act 34 = .ok (.getfield 171, 3) := by decide +kernel
theorem dX9_act_37 : decode cX9_act 37 = .ok (.invokevirtual 218, 3) := by decide +kernel
theorem dX9_act_40 : decode cX9_act 40 = .ok (.aload_n 0, 1) := by decide +kernel
theorem dX9_act_41 : decode cX9_act 41 = .ok (.getfield 28, 3) := by decide +kernel
theorem dX9_act_44 : decode cX9_act 44 = .ok (.iload_n 1, 1) := by decide +kernel
theorem dX9_act_45 : decode cX9_act 45 = .ok (.iconst 1, 1) := by decide +kernel
theorem dX9_act_46 : decode cX9_act 46 = .ok (.iastore, 1) := by decide +kernel
theorem dX9_act_47 : decode cX9_act 47 = .ok (.aload_n 0, 1) := by decide +kernel
theorem dX9_act_48 : decode cX9_act 48 = .ok (.getfield 22, 3) := by decide +kernel
theorem dX9_act_51 : decode cX9_act 51 = .ok (.iload_n 1, 1) := by decide +kernel
theorem dX9_act_52 : decode cX9_act 52 = .ok (.iaload, 1) := by decide +kernel
theorem dX9_act_53 : decode cX9_act 53 = .ok (.ireturn, 1) := by decide +kernel
theorem dX9_goWeek_0 : decode cX9_goWeek 0 = .ok (.aload_n 0, 1) := by decide +kernel
theorem dX9_goWeek_1 : decode cX9_goWeek 1 = .ok (.dup, 1) := by decide +kernel
theorem dX9_goWeek_2 : decode cX9_goWeek 2 = .ok (.getfield 171, 3) := by decide +kernel
theorem dX9_goWeek_5 : decode cX9_goWeek 5 = .ok (.iconst 1, 1) := by decide +kernel
theorem dX9_goWeek_6 : decode cX9_goWeek 6 = .ok (.iadd, 1) := by decide +kernel
theorem dX9_goWeek_7 : decode cX9_goWeek 7 = .ok (.putfield 171, 3) := by decide +kernel
theorem dX9_goWeek_10 : decode cX9_goWeek 10 = .ok (.iconst 0, 1) := by decide +kernel
theorem dX9_goWeek_11 : decode cX9_goWeek 11 = .ok (.istore_n 1, 1) := by decide +kernel
theorem dX9_goWeek_12 : decode cX9_goWeek 12 = .ok (.iload_n 1, 1) := by decide +kernel
theorem dX9_goWeek_13 : decode cX9_goWeek 13 = .ok (.aload_n 0, 1) := by decide +kernel
theorem dX9_goWeek_14 : decode cX9_goWeek 14 = .ok (.getfield 168, 3) := by decide +kernel
theorem dX9_goWeek_17 : decode cX9_goWeek 17 = .ok (.if_icmp .ge 16, 3) := by decide +kernel
theorem dX9_goWeek_20 : decode cX9_goWeek 20 = .ok (.aload_n 0, 1) := by decide +kernel
theorem dX9_goWeek_21 : decode cX9_goWeek 21 = .ok (.getfield 28, 3) := by decide +kernel
theorem dX9_goWeek_24 : decode cX9_goWeek 24 = .ok (.iload_n 1, 1) := by decide +kernel
theorem dX9_goWeek_25 : decode cX9_goWeek 25 = .ok (.iconst 0, 1) := by decide +kernel
theorem dX9_goWeek_26 : decode cX9_goWeek 26 = .ok (.iastore, 1) := by decide +kernel
theorem dX9_goWeek_27 : decode cX9_goWeek 27 = .ok (.iinc 1 1, 3) := by decide +kernel
theorem dX9_goWeek_30 : decode cX9_goWeek 30 = .ok (.goto (-18), 3) := by decide +kernel
theorem dX9_goWeek_33 : decode cX9_goWeek 33 = .ok (.aload_n 0, 1) := by decide +kernel
theorem dX9_goWeek_34 : decode cX9_goWeek 34 = .ok (.invokevirtual 158, 3) := by decide +kernel
theorem dX9_goWeek_37 : decode cX9_goWeek 37 = .ok (.return_, 1) := by decide +kernel
theorem dX9_week_0 : decode cX9_week 0 = .ok (.aload_n 0, 1) := by decide +kernel
theorem dX9_week_1 : decode cX9_week 1 = .ok (.invokevirtual 221, 3) := by decide +kernel
theorem dX9_week_4 : decode cX9_week 4 = .ok (.aload_n 0, 1) := by decide +kernel
theorem dX9_week_5 : decode cX9_week 5 = .ok (.getfield 171, 3) := by decide +kernel
theorem dX9_week_8 : decode cX9_week 8 = .ok (.ireturn, 1) := by decide +kernel
theorem dX9_sell_0 : decode cX9_sell 0 = .ok (.aload_n 0, 1) := by decide +kernel
theorem dX9_sell_1 : decode cX9_sell 1 = .ok (.iload_n 1, 1) := by decide +kernel
theorem dX9_sell_2 : decode cX9_sell 2 = .ok (.invokevirtual 209, 3) := by decide +kernel
theorem dX9_sell_5 : decode cX9_sell 5 = .ok (.ifCond .eq 25, 3) := by decide +kernel
theorem dX9_sell_8 : decode cX9_sell 8 = .ok (.aload_n 0, 1) := by decide +kernel
theorem dX9_sell_9 : decode cX9_sell 9 = .ok (.iload_n 2, 1) := by decide +kernel
theorem dX9_sell_10 : decode cX9_sell 10 = .ok (.invokevirtual 209, 3) := by decide +kernel
theorem dX9_sell_13 : decode cX9_sell 13 = .ok (.ifCond .eq 17, 3) := by decide +kernel
theorem dX9_sell_16 : decode cX9_sell 16 = .ok (.iload_n 1, 1) := by decide +kernel
theorem dX9_sell_17 : decode cX9_sell 17 = .ok (.iload_n 2, 1) := by decide +kernel
theorem dX9_sell_18 : decode cX9_sell 18 = .ok (.if_icmp .eq 12, 3) := by decide +kernel
theorem dX9_sell_21 : decode cX9_sell 21 = .ok (.iload_n 3, 1) := by decide +kernel
theorem dX9_sell_22 : decode cX9_sell 22 = .ok (.iconst 0, 1) := by decide +kernel
theorem dX9_sell_23 : decode cX9_sell 23 = .ok (.iconst 2, 1) := by decide +kernel
theorem dX9_sell_24 : decode cX9_sell 24 = .ok (.invokestatic 111, 3) := by decide +kernel
theorem dX9_sell_27 : decode cX9_sell 27 = .ok (.ifCond .ne 6, 3) := by decide +kernel
theorem dX9_sell_30 : decode cX9_sell 30 = .ok (.bipush (-101), 2) := by decide +kernel
theorem dX9_sell_32 : decode cX9_sell 32 = .ok (.ireturn, 1) := by decide +kernel
theorem dX9_sell_33 : decode cX9_sell 33 = .ok (.aload_n 0, 1) := by decide +kernel
theorem dX9_sell_34 : decode cX9_sell 34 = .ok (.iload_n 1, 1) := by decide +kernel
theorem dX9_sell_35 : decode cX9_sell 35 = .ok (.iconst 1, 1) := by decide +kernel
theorem dX9_sell_36 : decode cX9_sell 36 = .ok (.iload_n 3, 1) := by decide +kernel
theorem dX9_sell_37 : decode cX9_sell 37 = .ok (.ishl, 1) := by decide +kernel
theorem dX9_sell_38 : decode cX9_sell 38 = .ok (.invokevirtual 181, 3) := by decide +kernel
theorem dX9_sell_41 : decode cX9_sell 41 = .ok (.ifCond .ne 6, 3) := by decide +kernel
theorem dX9_sell_44 : decode cX9_sell 44 = .ok (.bipush (-103), 2) := by decide +kernel
theorem dX9_sell_46 : decode cX9_sell 46 = .ok (.ireturn, 1) := by decide +kernel
theorem dX9_sell_47 : decode cX9_sell 47 = .ok (.aload_n 0, 1) := by decide +kernel
theorem dX9_sell_48 : decode cX9_sell 48 = .ok (.getfield 34, 3) := by decide +kernel
theorem dX9_sell_51 : decode cX9_sell 51 = .ok (.iload_n 2, 1) := by decide +kernel
theorem dX9_sell_52 : decode cX9_sell 52 = .ok (.iaload, 1) := by decide +kernel
theorem dX9_sell_53 : decode cX9_sell 53 = .ok (.bipush 12, 2) := by decide +kernel
theorem dX9_sell_55 : decode cX9_sell 55 = .ok (.if_icmp .ne 6, 3) := by decide +kernel
theorem dX9_sell_58 : decode cX9_sell 58 = .ok (.bipush (-104), 2) := by decide +kernel
theorem dX9_sell_60 : decode cX9_sell 60 = .ok (.ireturn, 1) := by decide +kernel
theorem dX9_sell_61 : decode cX9_sell 61 = .ok (.aload_n 0, 1) := by decide +kernel
theorem dX9_sell_62 : decode cX9_sell 62 = .ok (.iload_n 1, 1) := by decide +kernel
theorem dX9_sell_63 : decode cX9_sell 63 = .ok (.iconst 1, 1) := by decide +kernel
theorem dX9_sell_64 : decode cX9_sell 64 = .ok (.iload_n 3, 1) := by decide +kernel
theorem dX9_sell_65 : decode cX9_sell 65 = .ok (.ishl, 1) := by decide +kernel
theorem dX9_sell_66 : decode cX9_sell 66 = .ok (.iconst 1, 1) := by decide +kernel
theorem dX9_sell_67 : decode cX9_sell 67 = .ok (.invokevirtual 196, 3) := by decide +kernel
theorem dX9_sell_70 : decode cX9_sell 70 = .ok (.istore 4, 2) := by decide +kernel
theorem dX9_sell_72 : decode cX9_sell 72 = .ok (.aload_n 0, 1) := by decide +kernel
theorem dX9_sell_73 : decode cX9_sell 73 = .ok (.iload_n 2, 1) := by decide +kernel
theorem dX9_sell_74 : decode cX9_sell 74 = .ok (.iload 4, 2) := by decide +kernel
theorem dX9_sell_76 : decode cX9_sell 76 = .ok (.invokevirtual 203, 3) := by decide +kernel
theorem dX9_sell_79 : decode cX9_sell 79 = .ok (.pop, 1) := by decide +kernel
theorem dX9_sell_80 : decode cX9_sell 80 = .ok (.iload 4, 2) := by decide +kernel
theorem dX9_sell_82 : decode cX9_sell 82 = .ok (.iconst 4, 1) := by decide +kernel
theorem dX9_sell_83 : decode cX9_sell 83 = .ok (.idiv, 1) := by decide +kernel
theorem dX9_sell_84 : decode cX9_sell 84 = .ok (.ireturn, 1) := by decide +kernel
theorem dX9_leave_0 : decode cX9_leave 0 = .ok (.aload_n 0, 1) := by decide +kernel
theorem dX9_leave_1 : decode cX9_leave 1 = .ok (.iload_n 1, 1) := by decide +kernel
theorem dX9_leave_2 : decode cX9_leave 2 = .ok (.invokevirtual 209, 3) := by decide +kernel
theorem dX9_leave_5 : decode cX9_leave 5 = .ok (.ifCond .eq 16, 3) := by decide +kernel
theorem dX9_leave_8 : decode cX9_leave 8 = .ok (.aload_n 0, 1) := by decide +kernel
theorem dX9_leave_9 : decode cX9_leave 9 = .ok (.iload_n 2, 1) := by decide +kernel
theorem dX9_leave_10 : decode cX9_leave 10 = .ok (.invokevirtual 209, 3) := by decide +kernel
theorem dX9_leave_13 : decode cX9_leave 13 = .ok (.ifCond .eq 8, 3) := by decide +kernel
theorem dX9_leave_16 : decode cX9_leave 16 = .ok (.iload_n 1, 1) := by decide +kernel
theorem dX9_leave_17 : decode cX9_leave 17 = .ok (.iload_n 2, 1) := by decide +kernel
theorem dX9_leave_18 : decode cX9_leave 18 = .ok (.if_icmp .ne 6, 3) := by decide +kernel
theorem dX9_leave_21 : decode cX9_leave 21 = .ok (.bipush (-101), 2) := by decide +kernel
theorem dX9_leave_23 : decode cX9_leave 23 = .ok (.ireturn, 1) := by decide +kernel
theorem dX9_leave_24 : decode cX9_leave 24 = .ok (.iconst 0, 1) := by decide +kernel
theorem dX9_leave_25 : decode cX9_leave 25 = .ok (.istore_n 3, 1) := by decide +kernel
theorem dX9_leave_26 : decode cX9_leave 26 = .ok (.iconst 0, 1) := by decide +kernel
theorem dX9_leave_27 : decode cX9_leave 27 = .ok (.istore 4, 2) := by decide +kernel
theorem dX9_leave_29 : decode cX9_leave 29 = .ok (.iload 4, 2) := by decide +kernel
theorem dX9_leave_31 : decode cX9_leave 31 = .ok (.aload_n 0, 1) := by decide +kernel
theorem dX9_leave_32 : decode cX9_leave 32 = .ok (.getfield 34, 3) := by decide +kernel
theorem dX9_leave_35 : decode cX9_leave 35 = .ok (.iload_n 1, 1) := by decide +kernel
theorem dX9_leave_36 : decode cX9_leave 36 = .ok (.iaload, 1) := by decide +kernel
theorem dX9_leave_37 : decode cX9_leave 37 = .ok (.if_icmp .ge 37, 3) := by decide +kernel
theorem dX9_leave_40 : decode cX9_leave 40 = .ok (.iload_n 3, 1) := by decide +kernel
theorem dX9_leave_41 : decode cX9_leave 41 = .ok (.aload_n 0, 1) := by decide +kernel
theorem dX9_leave_42 : decode cX9_leave 42 = .ok (.iload_n 2, 1) := by decide +kernel
theorem dX9_leave_43 : decode cX9_leave 43 = .ok (.aload_n 0, 1) := by decide +kernel
theorem dX9_leave_44 : decode cX9_leave 44 = .ok (.getfield 37, 3) := by decide +kernel
theorem dX9_leave_47 : decode cX9_leave 47 = .ok (.bipush 12, 2) := by decide +kernel
theorem dX9_leave_49 : decode cX9_leave 49 = .ok (.iload_n 1, 1) := by decide +kernel
theorem dX9_leave_50 : decode cX9_leave 50 = .ok (.imul, 1) := by decide +kernel
theorem dX9_leave_51 : decode cX9_leave 51 = .ok (.iload 4, 2) := by decide +kernel
theorem dX9_leave_53 : decode cX9_leave 53 = .ok (.iadd, 1) := by decide +kernel
theorem dX9_leave_54 : decode cX9_leave 54 = .ok (.iaload, 1) := by decide +kernel
theorem dX9_leave_55 : decode cX9_leave 55 = .ok (.invokevirtual 203, 3) := by decide +kernel
theorem dX9_leave_58 : decode cX9_leave 58 = .ok (.ifCond .eq 7, 3) := by decide +kernel
theorem dX9_leave_61 : decode cX9_leave 61 = .ok (.iconst 1, 1) := by decide +kernel
theorem dX9_leave_62 : decode cX9_leave 62 = .ok (.goto 4, 3) := by decide +kernel
theorem dX9_leave_65 : decode cX9_leave 65 = .ok (.iconst 0, 1) := by decide +kernel
theorem dX9_leave_66 : decode cX9_leave 66 = .ok (.iadd, 1) := by decide +kernel
theorem dX9_leave_67 : decode cX9_leave 67 = .ok (.istore_n 3, 1) := by decide +kernel
theorem dX9_leave_68 : decode cX9_leave 68 = .ok (.iinc 4 1, 3) := by decide +kernel
theorem dX9_leave_71 : decode cX9_leave 71 = .ok (.goto (-42), 3) := by decide +kernel
theorem dX9_leave_74 : decode cX9_leave 74 = .ok (.aload_n 0, 1) := by decide +kernel
theorem dX9_leave_75 : decode cX9_leave 75 = .ok (.getfield 34, 3) := by decide +kernel
theorem dX9_leave_78 : decode cX9_leave 78 = .ok (.iload_n 1, 1) := by decide +kernel
theorem dX9_leave_79 : decode cX9_leave 79 = .ok (.iconst 0, 1) := by decide +kernel
theorem dX9_leave_80 : decode cX9_leave 80 = .ok (.iastore, 1) := by decide +kernel
theorem dX9_leave_81 : decode cX9_leave 81 = .ok (.aload_n 0, 1) := by decide +kernel
theorem dX9_leave_82 : decode cX9_leave 82 = .ok (.getfield 25, 3) := by decide +kernel
theorem dX9_leave_85 : decode cX9_leave 85 = .ok (.iload_n 1, 1) := by decide +kernel
theorem dX9_leave_86 : decode cX9_leave 86 = .ok (.iconst 0, 1) := by decide +kernel
theorem dX9_leave_87 : decode cX9_leave 87 = .ok (.iastore, 1) := by decide +kernel
theorem dX9_leave_88 : decode cX9_leave 88 = .ok (.aload_n 0, 1) := by decide +kernel
theorem dX9_leave_89 : decode cX9_leave 89 = .ok (.getfield 31, 3) := by decide +kernel
theorem dX9_leave_92 : decode cX9_leave 92 = .ok (.iload_n 1, 1) := by decide +kernel
theorem dX9_leave_93 : decode cX9_leave 93 = .ok (.iconst 1, 1) := by decide +kernel
theorem dX9_leave_94 : decode cX9_leave 94 = .ok (.iastore, 1) := by decide +kernel
theorem dX9_leave_95 : decode cX9_leave 95 = .ok (.iload_n 3, 1) := by decide +kernel
theorem dX9_leave_96 : decode cX9_leave 96 = .ok (.ireturn, 1) := by decide +kernel
theorem dX9_owesAll_0 : decode cX9_owesAll 0 = .ok (.iconst 0, 1) := by decide +kernel
theorem dX9_owesAll_1 : decode cX9_owesAll 1 = .ok (.istore_n 1, 1) := by decide +kernel
theorem dX9_owesAll_2 : decode cX9_owesAll 2 = .ok (.iconst 0, 1) := by decide +kernel
theorem dX9_owesAll_3 : decode cX9_owesAll 3 = .ok (.istore_n 2, 1) := by decide +kernel
theorem dX9_owesAll_4 : decode cX9_owesAll 4 = .ok (.iload_n 2, 1) := by decide +kernel
theorem dX9_owesAll_5 : decode cX9_owesAll 5 = .ok (.aload_n 0, 1) := by decide +kernel
theorem dX9_owesAll_6 : decode cX9_owesAll 6 = .ok (.getfield 168, 3) := by decide +kernel
theorem dX9_owesAll_9 : decode cX9_owesAll 9 = .ok (.if_icmp .ge 18, 3) := by decide +kernel
theorem dX9_owesAll_12 : decode cX9_owesAll 12 = .ok (.iload_n 1, 1) := by decide +kernel
theorem dX9_owesAll_13 : decode cX9_owesAll 13 = .ok (.aload_n 0, 1) := by decide +kernel
theorem dX9_owesAll_14 : decode cX9_owesAll 14 = .ok (.getfield 25, 3) := by decide +kernel
theorem dX9_owesAll_17 : decode cX9_owesAll 17 = .ok (.iload_n 2, 1) := by decide +kernel
theorem dX9_owesAll_18 : decode cX9_owesAll 18 = .ok (.iaload, 1) := by decide +kernel
theorem dX9_owesAll_19 : decode cX9_owesAll 19 = .ok (.iadd, 1) := by decide +kernel
theorem dX9_owesAll_20 : decode cX9_owesAll 20 = .ok (.istore_n 1, 1) := by decide +kernel
theorem dX9_owesAll_21 : decode cX9_owesAll 21 = .ok (.iinc 2 1, 3) := by decide +kernel
theorem dX9_owesAll_24 : decode cX9_owesAll 24 = .ok (.goto (-20), 3) := by decide +kernel
theorem dX9_owesAll_27 : decode cX9_owesAll 27 = .ok (.iload_n 1, 1) := by decide +kernel
theorem dX9_owesAll_28 : decode cX9_owesAll 28 = .ok (.ireturn, 1) := by decide +kernel
theorem dX9_amnesty_0 : decode cX9_amnesty 0 = .ok (.aload_n 0, 1) := by decide +kernel
theorem dX9_amnesty_1 : decode cX9_amnesty 1 = .ok (.invokevirtual 224, 3) := by decide +kernel
theorem dX9_amnesty_4 : decode cX9_amnesty 4 = .ok (.istore_n 1, 1) := by decide +kernel
theorem dX9_amnesty_5 : decode cX9_amnesty 5 = .ok (.iconst 0, 1) := by decide +kernel
theorem dX9_amnesty_6 : decode cX9_amnesty 6 = .ok (.istore_n 2, 1) := by decide +kernel
theorem dX9_amnesty_7 : decode cX9_amnesty 7 = .ok (.iload_n 2, 1) := by decide +kernel
theorem dX9_amnesty_8 : decode cX9_amnesty 8 = .ok (.aload_n 0, 1) := by decide +kernel
theorem dX9_amnesty_9 : decode cX9_amnesty 9 = .ok (.getfield 168, 3) := by decide +kernel
theorem dX9_amnesty_12 : decode cX9_amnesty 12 = .ok (.if_icmp .ge 16, 3) := by decide +kernel
theorem dX9_amnesty_15 : decode cX9_amnesty 15 = .ok (.aload_n 0, 1) := by decide +kernel
theorem dX9_amnesty_16 : decode cX9_amnesty 16 = .ok (.getfield 25, 3) := by decide +kernel
theorem dX9_amnesty_19 : decode cX9_amnesty 19 = .ok (.iload_n 2, 1) := by decide +kernel
theorem dX9_amnesty_20 : decode cX9_amnesty 20 = .ok (.iconst 0, 1) := by decide +kernel
theorem dX9_amnesty_21 : decode cX9_amnesty 21 = .ok (.iastore, 1) := by decide +kernel
theorem dX9_amnesty_22 : decode cX9_amnesty 22 = .ok (.iinc 2 1, 3) := by decide +kernel
theorem dX9_amnesty_25 : decode cX9_amnesty 25 = .ok (.goto (-18), 3) := by decide +kernel
theorem dX9_amnesty_28 : decode cX9_amnesty 28 = .ok (.iload_n 1, 1) := by decide +kernel
theorem dX9_amnesty_29 : decode cX9_amnesty 29 = .ok (.ireturn, 1) := by decide +kernel
theorem dX9_copy_0 : decode cX9_copy 0 = .ok (.aload_n 0, 1) := by decide +kernel
theorem dX9_copy_1 : decode cX9_copy 1 = .ok (.getfield 19, 3) := by decide +kernel
theorem dX9_copy_4 : decode cX9_copy 4 = .ok (.iload_n 2, 1) := by decide +kernel
theorem dX9_copy_5 : decode cX9_copy 5 = .ok (.aload_n 0, 1) := by decide +kernel
theorem dX9_copy_6 : decode cX9_copy 6 = .ok (.getfield 19, 3) := by decide +kernel
theorem dX9_copy_9 : decode cX9_copy 9 = .ok (.iload_n 1, 1) := by decide +kernel
theorem dX9_copy_10 : decode cX9_copy 10 = .ok (.iaload, 1) := by decide +kernel
theorem dX9_copy_11 : decode cX9_copy 11 = .ok (.iastore, 1) := by decide +kernel
theorem dX9_copy_12 : decode cX9_copy 12 = .ok (.aload_n 0, 1) := by decide +kernel
theorem dX9_copy_13 : decode cX9_copy 13 = .ok (.getfield 22, 3) := by decide +kernel
theorem dX9_copy_16 : decode cX9_copy 16 = .ok (.iload_n 2, 1) := by decide +kernel
theorem dX9_copy_17 : decode cX9_copy 17 = .ok (.aload_n 0, 1) := by decide +kernel
theorem dX9_copy_18 : decode cX9_copy 18 = .ok (.getfield 22, 3) := by decide +kernel
theorem dX9_copy_21 : decode cX9_copy 21 = .ok (.iload_n 1, 1) := by decide +kernel
theorem dX9_copy_22 : decode cX9_copy 22 = .ok (.iaload, 1) := by decide +kernel
theorem dX9_copy_23 : decode cX9_copy 23 = .ok (.iastore, 1) := by decide +kernel
theorem dX9_copy_24 : decode cX9_copy 24 = .ok (.aload_n 0, 1) := by decide +kernel
theorem dX9_copy_25 : decode cX9_copy 25 = .ok (.getfield 25, 3) := by decide +kernel
theorem dX9_copy_28 : decode cX9_copy 28 = .ok (.iload_n 2, 1) := by decide +kernel
theorem dX9_copy_29 : decode cX9_copy 29 = .ok (.aload_n 0, 1) := by decide +kernel
theorem dX9_copy_30 : decode cX9_copy 30 = .ok (.getfield 25, 3) := by decide +kernel
theorem dX9_copy_33 : decode cX9_copy 33 = .ok (.iload_n 1, 1) := by decide +kernel
theorem dX9_copy_34 : decode cX9_copy 34 = .ok (.iaload, 1) := by decide +kernel
theorem dX9_copy_35 : decode cX9_copy 35 = .ok (.iastore, 1) := by decide +kernel
theorem dX9_copy_36 : decode cX9_copy 36 = .ok (.aload_n 0, 1) := by decide +kernel
theorem dX9_copy_37 : decode cX9_copy 37 = .ok (.getfield 34, 3) := by decide +kernel
theorem dX9_copy_40 : decode cX9_copy 40 = .ok (.iload_n 2, 1) := by decide +kernel
theorem dX9_copy_41 : decode cX9_copy 41 = .ok (.aload_n 0, 1) := by decide +kernel
theorem dX9_copy_42 : decode cX9_copy 42 = .ok (.getfield 34, 3) := by decide +kernel
theorem dX9_copy_45 : decode cX9_copy 45 = .ok (.iload_n 1, 1) := by decide +kernel
theorem dX9_copy_46 : decode cX9_copy 46 = .ok (.iaload, 1) := by decide +kernel
theorem dX9_copy_47 : decode cX9_copy 47 = .ok (.iastore, 1) := by decide +kernel
theorem dX9_copy_48 : decode cX9_copy 48 = .ok (.iconst 0, 1) := by decide +kernel
theorem dX9_copy_49 : decode cX9_copy 49 = .ok (.istore_n 3, 1) := by decide +kernel
theorem dX9_copy_50 : decode cX9_copy 50 = .ok (.iload_n 3, 1) := by decide +kernel
theorem dX9_copy_51 : decode cX9_copy 51 = .ok (.bipush 12, 2) := by decide +kernel
theorem dX9_copy_53 : decode cX9_copy 53 = .ok (.if_icmp .ge 31, 3) := by decide +kernel
theorem dX9_copy_56 : decode cX9_copy 56 = .ok (.aload_n 0, 1) := by decide +kernel
theorem dX9_copy_57 : decode cX9_copy 57 = .ok (.getfield 37, 3) := by decide +kernel
theorem dX9_copy_60 : decode cX9_copy 60 = .ok (.bipush 12, 2) := by decide +kernel
theorem dX9_copy_62 : decode cX9_copy 62 = .ok (.iload_n 2, 1) := by decide +kernel
theorem dX9_copy_63 : decode cX9_copy 63 = .ok (.imul, 1) := by decide +kernel
theorem dX9_copy_64 : decode cX9_copy 64 = .ok (.iload_n 3, 1) := by decide +kernel
theorem dX9_copy_65 : decode cX9_copy 65 = .ok (.iadd, 1) := by decide +kernel
theorem dX9_copy_66 : decode cX9_copy 66 = .ok (.aload_n 0, 1) := by decide +kernel
theorem dX9_copy_67 : decode cX9_copy 67 = .ok (.getfield 37, 3) := by decide +kernel
theorem dX9_copy_70 : decode cX9_copy 70 = .ok (.bipush 12, 2) := by decide +kernel
theorem dX9_copy_72 : decode cX9_copy 72 = .ok (.iload_n 1, 1) := by decide +kernel
theorem dX9_copy_73 : decode cX9_copy 73 = .ok (.imul, 1) := by decide +kernel
theorem dX9_copy_74 : decode cX9_copy 74 = .ok (.iload_n 3, 1) := by decide +kernel
theorem dX9_copy_75 : decode cX9_copy 75 = .ok (.iadd, 1) := by decide +kernel
theorem dX9_copy_76 : decode cX9_copy 76 = .ok (.iaload, 1) := by decide +kernel
theorem dX9_copy_77 : decode cX9_copy 77 = .ok (.iastore, 1) := by decide +kernel
theorem dX9_copy_78 : decode cX9_copy 78 = .ok (.iinc 3 1, 3) := by decide +kernel
theorem dX9_copy_81 : decode cX9_copy 81 = .ok (.goto (-31), 3) := by decide +kernel
theorem dX9_copy_84 : decode cX9_copy 84 = .ok (.return_, 1) := by decide +kernel
theorem dX9_keepRow_0 : decode cX9_keepRow 0 = .ok (.aload_n 0, 1) := by decide +kernel
theorem dX9_keepRow_1 : decode cX9_keepRow 1 = .ok (.getfield 53, 3) := by decide +kernel
theorem dX9_keepRow_4 : decode cX9_keepRow 4 = .ok (.iload_n 1, 1) := by decide +kernel
theorem dX9_keepRow_5 : decode cX9_keepRow 5 = .ok (.aload_n 0, 1) := by decide +kernel
theorem dX9_keepRow_6 : decode cX9_keepRow 6 = .ok (.getfield 22, 3) := by decide +kernel
theorem dX9_keepRow_9 : decode cX9_keepRow 9 = .ok (.iconst 4, 1) := by decide +kernel
theorem dX9_keepRow_10 : decode cX9_keepRow 10 = .ok (.iaload, 1) := by decide +kernel
theorem dX9_keepRow_11 : decode cX9_keepRow 11 = .ok (.iastore, 1) := by decide +kernel
theorem dX9_keepRow_12 : decode cX9_keepRow 12 = .ok (.aload_n 0, 1) := by decide +kernel
theorem dX9_keepRow_13 : decode cX9_keepRow 13 = .ok (.getfield 56, 3) := by decide +kernel
theorem dX9_keepRow_16 : decode cX9_keepRow 16 = .ok (.iload_n 1, 1) := by decide +kernel
theorem dX9_keepRow_17 : decode cX9_keepRow 17 = .ok (.aload_n 0, 1) := by decide +kernel
theorem dX9_keepRow_18 : decode cX9_keepRow 18 = .ok (.getfield 25, 3) := by decide +kernel
theorem dX9_keepRow_21 : decode cX9_keepRow 21 = .ok (.iconst 4, 1) := by decide +kernel
theorem dX9_keepRow_22 : decode cX9_keepRow 22 = .ok (.iaload, 1) := by decide +kernel
theorem dX9_keepRow_23 : decode cX9_keepRow 23 = .ok (.iastore, 1) := by decide +kernel
theorem dX9_keepRow_24 : decode cX9_keepRow 24 = .ok (.aload_n 0, 1) := by decide +kernel
theorem dX9_keepRow_25 : decode cX9_keepRow 25 = .ok (.getfield 59, 3) := by decide +kernel
theorem dX9_keepRow_28 : decode cX9_keepRow 28 = .ok (.iload_n 1, 1) := by decide +kernel
theorem dX9_keepRow_29 : decode cX9_keepRow 29 = .ok (.aload_n 0, 1) := by decide +kernel
theorem dX9_keepRow_30 : decode cX9_keepRow 30 = .ok (.getfield 34, 3) := by decide +kernel
theorem dX9_keepRow_33 : decode cX9_keepRow 33 = .ok (.iconst 4, 1) := by decide +kernel
theorem dX9_keepRow_34 : decode cX9_keepRow 34 = .ok (.iaload, 1) := by decide +kernel
theorem dX9_keepRow_35 : decode cX9_keepRow 35 = .ok (.iastore, 1) := by decide +kernel
theorem dX9_keepRow_36 : decode cX9_keepRow 36 = .ok (.aload_n 0, 1) := by decide +kernel
theorem dX9_keepRow_37 : decode cX9_keepRow 37 = .ok (.getfield 65, 3) := by decide +kernel
theorem dX9_keepRow_40 : decode cX9_keepRow 40 = .ok (.iload_n 1, 1) := by decide +kernel
theorem dX9_keepRow_41 : decode cX9_keepRow 41 = .ok (.iconst 0, 1) := by decide +kernel
theorem dX9_keepRow_42 : decode cX9_keepRow 42 = .ok (.iastore, 1) := by decide +kernel
theorem dX9_keepRow_43 : decode cX9_keepRow 43 = .ok (.iconst 0, 1) := by decide +kernel
theorem dX9_keepRow_44 : decode cX9_keepRow 44 = .ok (.istore_n 2, 1) := by decide +kernel
theorem dX9_keepRow_45 : decode cX9_keepRow 45 = .ok (.iload_n 2, 1) := by decide +kernel
theorem dX9_keepRow_46 : decode cX9_keepRow 46 = .ok (.bipush 12, 2) := by decide +kernel
theorem dX9_keepRow_48 : decode cX9_keepRow 48 = .ok (.if_icmp .ge 29, 3) := by decide +kernel
theorem dX9_keepRow_51 : decode cX9_keepRow 51 = .ok (.aload_n 0, 1) := by decide +kernel
theorem dX9_keepRow_52 : decode cX9_keepRow 52 = .ok (.getfield 62, 3) := by decide +kernel
theorem dX9_keepRow_55 : decode cX9_keepRow 55 = .ok (.bipush 12, 2) := by decide +kernel
theorem dX9_keepRow_57 : decode cX9_keepRow 57 = .ok (.iload_n 1, 1) := by decide +kernel
theorem dX9_keepRow_58 : decode cX9_keepRow 58 = .ok (.imul, 1) := by decide +kernel
theorem dX9_keepRow_59 : decode cX9_keepRow 59 = .ok (.iload_n 2, 1) := by decide +kernel
theorem dX9_keepRow_60 : decode cX9_keepRow 60 = .ok (.iadd, 1) := by decide +kernel
theorem dX9_keepRow_61 : decode cX9_keepRow 61 = .ok (.aload_n 0, 1) := by decide +kernel
theorem dX9_keepRow_62 : decode cX9_keepRow 62 = .ok (.getfield 37, 3) := by decide +kernel
theorem dX9_keepRow_65 : decode cX9_keepRow 65 = .ok (.bipush 48, 2) := by decide +kernel
theorem dX9_keepRow_67 : decode cX9_keepRow 67 = .ok (.iload_n 2, 1) := by decide +kernel
theorem dX9_keepRow_68 : decode cX9_keepRow 68 = .ok (.iadd, 1) := by decide +kernel
theorem dX9_keepRow_69 : decode cX9_keepRow 69 = .ok (.iaload, 1) := by decide +kernel
theorem dX9_keepRow_70 : decode cX9_keepRow 70 = .ok (.iastore, 1) := by decide +kernel
theorem dX9_keepRow_71 : decode cX9_keepRow 71 = .ok (.iinc 2 1, 3) := by decide +kernel
theorem dX9_keepRow_74 : decode cX9_keepRow 74 = .ok (.goto (-29), 3) := by decide +kernel
theorem dX9_keepRow_77 : decode cX9_keepRow 77 = .ok (.return_, 1) := by decide +kernel
theorem dX9_backRow_0 : decode cX9_backRow 0 = .ok (.aload_n 0, 1) := by decide +kernel
theorem dX9_backRow_1 : decode cX9_backRow 1 = .ok (.getfield 22, 3) := by decide +kernel
theorem dX9_backRow_4 : decode cX9_backRow 4 = .ok (.iconst 4, 1) := by decide +kernel
theorem dX9_backRow_5 : decode cX9_backRow 5 = .ok (.aload_n 0, 1) := by decide +kernel
theorem dX9_backRow_6 : decode cX9_backRow 6 = .ok (.getfield 53, 3) := by decide +kernel
theorem dX9_backRow_9 : decode cX9_backRow 9 = .ok (.iload_n 1, 1) := by decide +kernel
theorem dX9_backRow_10 : decode cX9_backRow 10 = .ok (.iaload, 1) := by decide +kernel
theorem dX9_backRow_11 : decode cX9_backRow 11 = .ok (.iastore, 1) := by decide +kernel
theorem dX9_backRow_12 : decode cX9_backRow 12 = .ok (.aload_n 0, 1) := by decide +kernel
theorem dX9_backRow_13 : decode cX9_backRow 13 = .ok (.getfield 25, 3) := by decide +kernel
theorem dX9_backRow_16 : decode cX9_backRow 16 = .ok (.iconst 4, 1) := by decide +kernel
theorem dX9_backRow_17 : decode cX9_backRow 17 = .ok (.aload_n 0, 1) := by decide +kernel
theorem dX9_backRow_18 : decode cX9_backRow 18 = .ok (.getfield 56, 3) := by decide +kernel
theorem dX9_backRow_21 : decode cX9_backRow 21 = .ok (.iload_n 1, 1) := by decide +kernel
theorem dX9_backRow_22 : decode cX9_backRow 22 = .ok (.iaload, 1) := by decide +kernel
theorem dX9_backRow_23 : decode cX9_backRow 23 = .ok (.iastore, 1) := by decide +kernel
end
section
theorem dX9_backRow_24 : decode cX9_backRow 24 = .ok (.aload_n 0, 1) := by decide +kernel
theorem dX9_backRow_25 : decode cX9_backRow 25 = .ok (.getfield 34, 3) := by decide +kernel
theorem dX9_backRow_28 : decode cX9_backRow 28 = .ok (.iconst 4, 1) := by decide +kernel
theorem dX9_backRow_29 : decode cX9_backRow 29 = .ok (.aload_n 0, 1) := by decide +kernel
theorem dX9_backRow_30 : decode cX9_backRow 30 = .ok (.getfield 59, 3) := by decide +kernel
theorem dX9_backRow_33 : decode cX9_backRow 33 = .ok (.iload_n 1, 1) := by decide +kernel
theorem dX9_backRow_34 : decode cX9_backRow 34 = .ok (.iaload, 1) := by decide +kernel
theorem dX9_backRow_35 : decode cX9_backRow 35 = .ok (.iastore, 1) := by decide +kernel
theorem dX9_backRow_36 : decode cX9_backRow 36 = .ok (.iconst 0, 1) := by decide +kernel
theorem dX9_backRow_37 : decode cX9_backRow 37 = .ok (.istore_n 2, 1) := by decide +kernel
theorem dX9_backRow_38 : decode cX9_backRow 38 = .ok (.iload_n 2, 1) := by decide +kernel
theorem dX9_backRow_39 : decode cX9_backRow 39 = .ok (.bipush 12, 2) := by decide +kernel
theorem dX9_backRow_41 : decode cX9_backRow 41 = .ok (.if_icmp .ge 29, 3) := by decide +kernel
theorem dX9_backRow_44 : decode cX9_backRow 44 = .ok (.aload_n 0, 1) := by decide +kernel
theorem dX9_backRow_45 : decode cX9_backRow 45 = .ok (.getfield 37, 3) := by decide +kernel
theorem dX9_backRow_48 : decode cX9_backRow 48 = .ok (.bipush 48, 2) := by decide +kernel
theorem dX9_backRow_50 : decode cX9_backRow 50 = .ok (.iload_n 2, 1) := by decide +kernel
theorem dX9_backRow_51 : decode cX9_backRow 51 = .ok (.iadd, 1) := by decide +kernel
theorem dX9_backRow_52 : decode cX9_backRow 52 = .ok (.aload_n 0, 1) := by decide +kernel
theorem dX9_backRow_53 : decode cX9_backRow 53 = .ok (.getfield 62, 3) := by decide +kernel
theorem dX9_backRow_56 : decode cX9_backRow 56 = .ok (.bipush 12, 2) := by decide +kernel
theorem dX9_backRow_58 : decode cX9_backRow 58 = .ok (.iload_n 1, 1) := by decide +kernel
theorem dX9_backRow_59 : decode cX9_backRow 59 = .ok (.imul, 1) := by decide +kernel
theorem dX9_backRow_60 : decode cX9_backRow 60 = .ok (.iload_n 2, 1) := by decide +kernel
theorem dX9_backRow_61 : decode cX9_backRow 61 = .ok (.iadd, 1) := by decide +kernel
theorem dX9_backRow_62 : decode cX9_backRow 62 = .ok (.iaload, 1) := by decide +kernel
theorem dX9_backRow_63 : decode cX9_backRow 63 = .ok (.iastore, 1) := by decide +kernel
theorem dX9_backRow_64 : decode cX9_backRow 64 = .ok (.iinc 2 1, 3) := by decide +kernel
theorem dX9_backRow_67 : decode cX9_backRow 67 = .ok (.goto (-29), 3) := by decide +kernel
theorem dX9_backRow_70 : decode cX9_backRow 70 = .ok (.return_, 1) := by decide +kernel
theorem dX9_actBy_0 : decode cX9_actBy 0 = .ok (.iload_n 0, 1) := by decide +kernel
theorem dX9_actBy_1 : decode cX9_actBy 1 = .ok (.iconst 3, 1) := by decide +kernel
theorem dX9_actBy_2 : decode cX9_actBy 2 = .ok (.if_icmp .ge 5, 3) := by decide +kernel
theorem dX9_actBy_5 : decode cX9_actBy 5 = .ok (.iload_n 0, 1) := by decide +kernel
theorem dX9_actBy_6 : decode cX9_actBy 6 = .ok (.ireturn, 1) := by decide +kernel
theorem dX9_actBy_7 : decode cX9_actBy 7 = .ok (.iload_n 0, 1) := by decide +kernel
theorem dX9_actBy_8 : decode cX9_actBy 8 = .ok (.bipush 7, 2) := by decide +kernel
theorem dX9_actBy_10 : decode cX9_actBy 10 = .ok (.if_icmp .ge 10, 3) := by decide +kernel
theorem dX9_actBy_13 : decode cX9_actBy 13 = .ok (.bipush 10, 2) := by decide +kernel
theorem dX9_actBy_15 : decode cX9_actBy 15 = .ok (.iload_n 0, 1) := by decide +kernel
theorem dX9_actBy_16 : decode cX9_actBy 16 = .ok (.iadd, 1) := by decide +kernel
theorem dX9_actBy_17 : decode cX9_actBy 17 = .ok (.iconst 3, 1) := by decide +kernel
theorem dX9_actBy_18 : decode cX9_actBy 18 = .ok (.isub, 1) := by decide +kernel
theorem dX9_actBy_19 : decode cX9_actBy 19 = .ok (.ireturn, 1) := by decide +kernel
theorem dX9_actBy_20 : decode cX9_actBy 20 = .ok (.iload_n 1, 1) := by decide +kernel
theorem dX9_actBy_21 : decode cX9_actBy 21 = .ok (.ifCond .eq 19, 3) := by decide +kernel
theorem dX9_actBy_24 : decode cX9_actBy 24 = .ok (.iload_n 0, 1) := by decide +kernel
theorem dX9_actBy_25 : decode cX9_actBy 25 = .ok (.bipush 11, 2) := by decide +kernel
theorem dX9_actBy_27 : decode cX9_actBy 27 = .ok (.if_icmp .ge 13, 3) := by decide +kernel
theorem dX9_actBy_30 : decode cX9_actBy 30 = .ok (.bipush 20, 2) := by decide +kernel
theorem dX9_actBy_32 : decode cX9_actBy 32 = .ok (.iload_n 0, 1) := by decide +kernel
theorem dX9_actBy_33 : decode cX9_actBy 33 = .ok (.iadd, 1) := by decide +kernel
theorem dX9_actBy_34 : decode cX9_actBy 34 = .ok (.bipush 7, 2) := by decide +kernel
theorem dX9_actBy_36 : decode cX9_actBy 36 = .ok (.isub, 1) := by decide +kernel
theorem dX9_actBy_37 : decode cX9_actBy 37 = .ok (.goto 5, 3) := by decide +kernel
theorem dX9_actBy_40 : decode cX9_actBy 40 = .ok (.bipush 9, 2) := by decide +kernel
theorem dX9_actBy_42 : decode cX9_actBy 42 = .ok (.ireturn, 1) := by decide +kernel
theorem dX9_layGain_0 : decode cX9_layGain 0 = .ok (.aload_n 0, 1) := by decide +kernel
theorem dX9_layGain_1 : decode cX9_layGain 1 = .ok (.getfield 171, 3) := by decide +kernel
theorem dX9_layGain_4 : decode cX9_layGain 4 = .ok (.aload_n 0, 1) := by decide +kernel
theorem dX9_layGain_5 : decode cX9_layGain 5 = .ok (.getfield 28, 3) := by decide +kernel
theorem dX9_layGain_8 : decode cX9_layGain 8 = .ok (.iload_n 1, 1) := by decide +kernel
theorem dX9_layGain_9 : decode cX9_layGain 9 = .ok (.iaload, 1) := by decide +kernel
theorem dX9_layGain_10 : decode cX9_layGain 10 = .ok (.iadd, 1) := by decide +kernel
theorem dX9_layGain_11 : decode cX9_layGain 11 = .ok (.istore_n 3, 1) := by decide +kernel
theorem dX9_layGain_12 : decode cX9_layGain 12 = .ok (.iload_n 2, 1) := by decide +kernel
theorem dX9_layGain_13 : decode cX9_layGain 13 = .ok (.aload_n 0, 1) := by decide +kernel
theorem dX9_layGain_14 : decode cX9_layGain 14 = .ok (.getfield 28, 3) := by decide +kernel
theorem dX9_layGain_17 : decode cX9_layGain 17 = .ok (.iload_n 1, 1) := by decide +kernel
theorem dX9_layGain_18 : decode cX9_layGain 18 = .ok (.iaload, 1) := by decide +kernel
theorem dX9_layGain_19 : decode cX9_layGain 19 = .ok (.isub, 1) := by decide +kernel
theorem dX9_layGain_20 : decode cX9_layGain 20 = .ok (.istore 4, 2) := by decide +kernel
theorem dX9_layGain_22 : decode cX9_layGain 22 = .ok (.aload_n 0, 1) := by decide +kernel
theorem dX9_layGain_23 : decode cX9_layGain 23 = .ok (.iconst (-1), 1) := by decide +kernel
theorem dX9_layGain_24 : decode cX9_layGain 24 = .ok (.putfield 228, 3) := by decide +kernel
theorem dX9_layGain_27 : decode cX9_layGain 27 = .ok (.aload_n 0, 1) := by decide +kernel
theorem dX9_layGain_28 : decode cX9_layGain 28 = .ok (.bipush 9, 2) := by decide +kernel
theorem dX9_layGain_30 : decode cX9_layGain 30 = .ok (.putfield 231, 3) := by decide +kernel
theorem dX9_layGain_33 : decode cX9_layGain 33 = .ok (.iload 4, 2) := by decide +kernel
theorem dX9_layGain_35 : decode cX9_layGain 35 = .ok (.iconst 1, 1) := by decide +kernel
theorem dX9_layGain_36 : decode cX9_layGain 36 = .ok (.if_icmp .ge 9, 3) := by decide +kernel
theorem dX9_layGain_39 : decode cX9_layGain 39 = .ok (.aload_n 0, 1) := by decide +kernel
theorem dX9_layGain_40 : decode cX9_layGain 40 = .ok (.iconst 0, 1) := by decide +kernel
theorem dX9_layGain_41 : decode cX9_layGain 41 = .ok (.putfield 228, 3) := by decide +kernel
theorem dX9_layGain_44 : decode cX9_layGain 44 = .ok (.return_, 1) := by decide +kernel
theorem dX9_layGain_45 : decode cX9_layGain 45 = .ok (.aload_n 0, 1) := by decide +kernel
theorem dX9_layGain_46 : decode cX9_layGain 46 = .ok (.iload_n 1, 1) := by decide +kernel
theorem dX9_layGain_47 : decode cX9_layGain 47 = .ok (.iconst 4, 1) := by decide +kernel
theorem dX9_layGain_48 : decode cX9_layGain 48 = .ok (.invokevirtual 234, 3) := by decide +kernel
theorem dX9_layGain_51 : decode cX9_layGain 51 = .ok (.aload_n 0, 1) := by decide +kernel
theorem dX9_layGain_52 : decode cX9_layGain 52 = .ok (.iconst 4, 1) := by decide +kernel
theorem dX9_layGain_53 : decode cX9_layGain 53 = .ok (.iload_n 3, 1) := by decide +kernel
theorem dX9_layGain_54 : decode cX9_layGain 54 = .ok (.invokevirtual 174, 3) := by decide +kernel
theorem dX9_layGain_57 : decode cX9_layGain 57 = .ok (.aload_n 0, 1) := by decide +kernel
theorem dX9_layGain_58 : decode cX9_layGain 58 = .ok (.getfield 22, 3) := by decide +kernel
theorem dX9_layGain_61 : decode cX9_layGain 61 = .ok (.iconst 4, 1) := by decide +kernel
theorem dX9_layGain_62 : decode cX9_layGain 62 = .ok (.iaload, 1) := by decide +kernel
theorem dX9_layGain_63 : decode cX9_layGain 63 = .ok (.istore 5, 2) := by decide +kernel
theorem dX9_layGain_65 : decode cX9_layGain 65 = .ok (.aload_n 0, 1) := by decide +kernel
theorem dX9_layGain_66 : decode cX9_layGain 66 = .ok (.iconst 0, 1) := by decide +kernel
theorem dX9_layGain_67 : decode cX9_layGain 67 = .ok (.invokevirtual 237, 3) := by decide +kernel
theorem dX9_layGain_70 : decode cX9_layGain 70 = .ok (.iconst 0, 1) := by decide +kernel
theorem dX9_layGain_71 : decode cX9_layGain 71 = .ok (.istore 6, 2) := by decide +kernel
theorem dX9_layGain_73 : decode cX9_layGain 73 = .ok (.iload 6, 2) := by decide +kernel
theorem dX9_layGain_75 : decode cX9_layGain 75 = .ok (.ifCond .lt 136, 3) := by decide +kernel
theorem dX9_layGain_78 : decode cX9_layGain 78 = .ok (.iload 6, 2) := by decide +kernel
theorem dX9_layGain_80 : decode cX9_layGain 80 = .ok (.iload 4, 2) := by decide +kernel
theorem dX9_layGain_82 : decode cX9_layGain 82 = .ok (.if_icmp .ne 84, 3) := by decide +kernel
theorem dX9_layGain_85 : decode cX9_layGain 85 = .ok (.aload_n 0, 1) := by decide +kernel
theorem dX9_layGain_86 : decode cX9_layGain 86 = .ok (.aload_n 0, 1) := by decide +kernel
theorem dX9_layGain_87 : decode cX9_layGain 87 = .ok (.getfield 22, 3) := by decide +kernel
theorem dX9_layGain_90 : decode cX9_layGain 90 = .ok (.iconst 4, 1) := by decide +kernel
theorem dX9_layGain_91 : decode cX9_layGain 91 = .ok (.iaload, 1) := by decide +kernel
theorem dX9_layGain_92 : decode cX9_layGain 92 = .ok (.iload 5, 2) := by decide +kernel
theorem dX9_layGain_94 : decode cX9_layGain 94 = .ok (.isub, 1) := by decide +kernel
theorem dX9_layGain_95 : decode cX9_layGain 95 = .ok (.aload_n 0, 1) := by decide +kernel
theorem dX9_layGain_96 : decode cX9_layGain 96 = .ok (.getfield 228, 3) := by decide +kernel
theorem dX9_layGain_99 : decode cX9_layGain 99 = .ok (.if_icmp .le 18, 3) := by decide +kernel
theorem dX9_layGain_102 : decode cX9_layGain 102 = .ok (.aload_n 0, 1) := by decide +kernel
theorem dX9_layGain_103 : decode cX9_layGain 103 = .ok (.getfield 65, 3) := by decide +kernel
theorem dX9_layGain_106 : decode cX9_layGain 106 = .ok (.iconst 0, 1) := by decide +kernel
theorem dX9_layGain_107 : decode cX9_layGain 107 = .ok (.iaload, 1) := by decide +kernel
theorem dX9_layGain_108 : decode cX9_layGain 108 = .ok (.iconst 1, 1) := by decide +kernel
theorem dX9_layGain_109 : decode cX9_layGain 109 = .ok (.isub, 1) := by decide +kernel
theorem dX9_layGain_110 : decode cX9_layGain 110 = .ok (.iconst 0, 1) := by decide +kernel
theorem dX9_layGain_111 : decode cX9_layGain 111 = .ok (.invokestatic 241, 3) := by decide +kernel
theorem dX9_layGain_114 : decode cX9_layGain 114 = .ok (.goto 7, 3) := by decide +kernel
theorem dX9_layGain_117 : decode cX9_layGain 117 = .ok (.aload_n 0, 1) := by decide +kernel
theorem dX9_layGain_118 : decode cX9_layGain 118 = .ok (.getfield 231, 3) := by decide +kernel
theorem dX9_layGain_121 : decode cX9_layGain 121 = .ok (.putfield 231, 3) := by decide +kernel
theorem dX9_layGain_124 : decode cX9_layGain 124 = .ok (.aload_n 0, 1) := by decide +kernel
theorem dX9_layGain_125 : decode cX9_layGain 125 = .ok (.aload_n 0, 1) := by decide +kernel
theorem dX9_layGain_126 : decode cX9_layGain 126 = .ok (.getfield 22, 3) := by decide +kernel
theorem dX9_layGain_129 : decode cX9_layGain 129 = .ok (.iconst 4, 1) := by decide +kernel
theorem dX9_layGain_130 : decode cX9_layGain 130 = .ok (.iaload, 1) := by decide +kernel
theorem dX9_layGain_131 : decode cX9_layGain 131 = .ok (.iload 5, 2) := by decide +kernel
theorem dX9_layGain_133 : decode cX9_layGain 133 = .ok (.isub, 1) := by decide +kernel
theorem dX9_layGain_134 : decode cX9_layGain 134 = .ok (.aload_n 0, 1) := by decide +kernel
theorem dX9_layGain_135 : decode cX9_layGain 135 = .ok (.getfield 228, 3) := by decide +kernel
theorem dX9_layGain_138 : decode cX9_layGain 138 = .ok (.if_icmp .le 15, 3) := by decide +kernel
theorem dX9_layGain_141 : decode cX9_layGain 141 = .ok (.aload_n 0, 1) := by decide +kernel
theorem dX9_layGain_142 : decode cX9_layGain 142 = .ok (.getfield 22, 3) := by decide +kernel
theorem dX9_layGain_145 : decode cX9_layGain 145 = .ok (.iconst 4, 1) := by decide +kernel
theorem dX9_layGain_146 : decode cX9_layGain 146 = .ok (.iaload, 1) := by decide +kernel
theorem dX9_layGain_147 : decode cX9_layGain 147 = .ok (.iload 5, 2) := by decide +kernel
theorem dX9_layGain_149 : decode cX9_layGain 149 = .ok (.isub, 1) := by decide +kernel
theorem dX9_layGain_150 : decode cX9_layGain 150 = .ok (.goto 7, 3) := by decide +kernel
theorem dX9_layGain_153 : decode cX9_layGain 153 = .ok (.aload_n 0, 1) := by decide +kernel
theorem dX9_layGain_154 : decode cX9_layGain 154 = .ok (.getfield 228, 3) := by decide +kernel
theorem dX9_layGain_157 : decode cX9_layGain 157 = .ok (.putfield 228, 3) := by decide +kernel
theorem dX9_layGain_160 : decode cX9_layGain 160 = .ok (.iinc 6 (-1), 3) := by decide +kernel
theorem dX9_layGain_163 : decode cX9_layGain 163 = .ok (.goto (-90), 3) := by decide +kernel
theorem dX9_layGain_166 : decode cX9_layGain 166 = .ok (.aload_n 0, 1) := by decide +kernel
theorem dX9_layGain_167 : decode cX9_layGain 167 = .ok (.getfield 65, 3) := by decide +kernel
theorem dX9_layGain_170 : decode cX9_layGain 170 = .ok (.iload 6, 2) := by decide +kernel
theorem dX9_layGain_172 : decode cX9_layGain 172 = .ok (.iaload, 1) := by decide +kernel
theorem dX9_layGain_173 : decode cX9_layGain 173 = .ok (.bipush 8, 2) := by decide +kernel
theorem dX9_layGain_175 : decode cX9_layGain 175 = .ok (.if_icmp .ne 9, 3) := by decide +kernel
theorem dX9_layGain_178 : decode cX9_layGain 178 = .ok (.iinc 6 (-1), 3) := by decide +kernel
theorem dX9_layGain_181 : decode cX9_layGain 181 = .ok (.goto (-108), 3) := by decide +kernel
theorem dX9_layGain_184 : decode cX9_layGain 184 = .ok (.iload 6, 2) := by decide +kernel
theorem dX9_layGain_186 : decode cX9_layGain 186 = .ok (.aload_n 0, 1) := by decide +kernel
theorem dX9_layGain_187 : decode cX9_layGain 187 = .ok (.iload 6, 2) := by decide +kernel
theorem dX9_layGain_189 : decode cX9_layGain 189 = .ok (.iload_n 3, 1) := by decide +kernel
theorem dX9_layGain_190 : decode cX9_layGain 190 = .ok (.iload 6, 2) := by decide +kernel
theorem dX9_layGain_192 : decode cX9_layGain 192 = .ok (.iadd, 1) := by decide +kernel
theorem dX9_layGain_193 : decode cX9_layGain 193 = .ok (.iconst 0, 1) := by decide +kernel
theorem dX9_layGain_194 : decode cX9_layGain 194 = .ok (.invokevirtual 245, 3) := by decide +kernel
theorem dX9_layGain_197 : decode cX9_layGain 197 = .ok (.ifCond .eq 7, 3) := by decide +kernel
theorem dX9_layGain_200 : decode cX9_layGain 200 = .ok (.iconst 1, 1) := by decide +kernel
theorem dX9_layGain_201 : decode cX9_layGain 201 = .ok (.goto 4, 3) := by decide +kernel
theorem dX9_layGain_204 : decode cX9_layGain 204 = .ok (.iconst 0, 1) := by decide +kernel
theorem dX9_layGain_205 : decode cX9_layGain 205 = .ok (.iadd, 1) := by decide +kernel
theorem dX9_layGain_206 : decode cX9_layGain 206 = .ok (.istore 6, 2) := by decide +kernel
theorem dX9_layGain_208 : decode cX9_layGain 208 = .ok (.goto (-135), 3) := by decide +kernel
theorem dX9_layGain_211 : decode cX9_layGain 211 = .ok (.return_, 1) := by decide +kernel
theorem dX9_goRow_0 : decode cX9_goRow 0 = .ok (.aload_n 0, 1) := by decide +kernel
theorem dX9_goRow_1 : decode cX9_goRow 1 = .ok (.getfield 65, 3) := by decide +kernel
theorem dX9_goRow_4 : decode cX9_goRow 4 = .ok (.iload_n 1, 1) := by decide +kernel
theorem dX9_goRow_5 : decode cX9_goRow 5 = .ok (.iaload, 1) := by decide +kernel
theorem dX9_goRow_6 : decode cX9_goRow 6 = .ok (.iload_n 3, 1) := by decide +kernel
theorem dX9_goRow_7 : decode cX9_goRow 7 = .ok (.invokestatic 241, 3) := by decide +kernel
theorem dX9_goRow_10 : decode cX9_goRow 10 = .ok (.istore 4, 2) := by decide +kernel
theorem dX9_goRow_12 : decode cX9_goRow 12 = .ok (.aload_n 0, 1) := by decide +kernel
theorem dX9_goRow_13 : decode cX9_goRow 13 = .ok (.getfield 65, 3) := by decide +kernel
theorem dX9_goRow_16 : decode cX9_goRow 16 = .ok (.iload_n 1, 1) := by decide +kernel
theorem dX9_goRow_17 : decode cX9_goRow 17 = .ok (.dup2, 1) := by decide +kernel
theorem dX9_goRow_18 : decode cX9_goRow 18 = .ok (.iaload, 1) := by decide +kernel
theorem dX9_goRow_19 : decode cX9_goRow 19 = .ok (.iconst 1, 1) := by decide +kernel
theorem dX9_goRow_20 : decode cX9_goRow 20 = .ok (.iadd, 1) := by decide +kernel
theorem dX9_goRow_21 : decode cX9_goRow 21 = .ok (.iastore, 1) := by decide +kernel
theorem dX9_goRow_22 : decode cX9_goRow 22 = .ok (.aload_n 0, 1) := by decide +kernel
theorem dX9_goRow_23 : decode cX9_goRow 23 = .ok (.iload_n 1, 1) := by decide +kernel
theorem dX9_goRow_24 : decode cX9_goRow 24 = .ok (.invokevirtual 249, 3) := by decide +kernel
theorem dX9_goRow_27 : decode cX9_goRow 27 = .ok (.aload_n 0, 1) := by decide +kernel
theorem dX9_goRow_28 : decode cX9_goRow 28 = .ok (.iconst 4, 1) := by decide +kernel
theorem dX9_goRow_29 : decode cX9_goRow 29 = .ok (.iload 4, 2) := by decide +kernel
theorem dX9_goRow_31 : decode cX9_goRow 31 = .ok (.invokevirtual 206, 3) := by decide +kernel
theorem dX9_goRow_34 : decode cX9_goRow 34 = .ok (.ifCond .ne 5, 3) := by decide +kernel
theorem dX9_goRow_37 : decode cX9_goRow 37 = .ok (.iconst 0, 1) := by decide +kernel
theorem dX9_goRow_38 : decode cX9_goRow 38 = .ok (.ireturn, 1) := by decide +kernel
theorem dX9_goRow_39 : decode cX9_goRow 39 = .ok (.aload_n 0, 1) := by decide +kernel
theorem dX9_goRow_40 : decode cX9_goRow 40 = .ok (.iconst 4, 1) := by decide +kernel
theorem dX9_goRow_41 : decode cX9_goRow 41 = .ok (.iload 4, 2) := by decide +kernel
theorem dX9_goRow_43 : decode cX9_goRow 43 = .ok (.iload_n 2, 1) := by decide +kernel
theorem dX9_goRow_44 : decode cX9_goRow 44 = .ok (.invokevirtual 218, 3) := by decide +kernel
theorem dX9_goRow_47 : decode cX9_goRow 47 = .ok (.aload_n 0, 1) := by decide +kernel
theorem dX9_goRow_48 : decode cX9_goRow 48 = .ok (.iconst 4, 1) := by decide +kernel
theorem dX9_goRow_49 : decode cX9_goRow 49 = .ok (.iload_n 2, 1) := by decide +kernel
theorem dX9_goRow_50 : decode cX9_goRow 50 = .ok (.iconst 1, 1) := by decide +kernel
theorem dX9_goRow_51 : decode cX9_goRow 51 = .ok (.iadd, 1) := by decide +kernel
theorem dX9_goRow_52 : decode cX9_goRow 52 = .ok (.invokevirtual 174, 3) := by decide +kernel
theorem dX9_goRow_55 : decode cX9_goRow 55 = .ok (.aload_n 0, 1) := by decide +kernel
theorem dX9_goRow_56 : decode cX9_goRow 56 = .ok (.iload_n 1, 1) := by decide +kernel
theorem dX9_goRow_57 : decode cX9_goRow 57 = .ok (.iconst 1, 1) := by decide +kernel
theorem dX9_goRow_58 : decode cX9_goRow 58 = .ok (.iadd, 1) := by decide +kernel
theorem dX9_goRow_59 : decode cX9_goRow 59 = .ok (.invokevirtual 237, 3) := by decide +kernel
theorem dX9_goRow_62 : decode cX9_goRow 62 = .ok (.iconst 1, 1) := by decide +kernel
theorem dX9_goRow_63 : decode cX9_goRow 63 = .ok (.ireturn, 1) := by decide +kernel
theorem dX9_gain_0 : decode cX9_gain 0 = .ok (.aload_n 0, 1) := by decide +kernel
theorem dX9_gain_1 : decode cX9_gain 1 = .ok (.iload_n 1, 1) := by decide +kernel
theorem dX9_gain_2 : decode cX9_gain 2 = .ok (.invokevirtual 209, 3) := by decide +kernel
theorem dX9_gain_5 : decode cX9_gain 5 = .ok (.ifCond .ne 6, 3) := by decide +kernel
theorem dX9_gain_8 : decode cX9_gain 8 = .ok (.bipush (-101), 2) := by decide +kernel
theorem dX9_gain_10 : decode cX9_gain 10 = .ok (.ireturn, 1) := by decide +kernel
theorem dX9_gain_11 : decode cX9_gain 11 = .ok (.iload_n 2, 1) := by decide +kernel
theorem dX9_gain_12 : decode cX9_gain 12 = .ok (.iconst 0, 1) := by decide +kernel
theorem dX9_gain_13 : decode cX9_gain 13 = .ok (.bipush 6, 2) := by decide +kernel
theorem dX9_gain_15 : decode cX9_gain 15 = .ok (.invokestatic 111, 3) := by decide +kernel
theorem dX9_gain_18 : decode cX9_gain 18 = .ok (.ifCond .eq 12, 3) := by decide +kernel
theorem dX9_gain_21 : decode cX9_gain 21 = .ok (.iload_n 3, 1) := by decide +kernel
theorem dX9_gain_22 : decode cX9_gain 22 = .ok (.iconst 0, 1) := by decide +kernel
theorem dX9_gain_23 : decode cX9_gain 23 = .ok (.iconst 1, 1) := by decide +kernel
theorem dX9_gain_24 : decode cX9_gain 24 = .ok (.invokestatic 111, 3) := by decide +kernel
theorem dX9_gain_27 : decode cX9_gain 27 = .ok (.ifCond .ne 6, 3) := by decide +kernel
theorem dX9_gain_30 : decode cX9_gain 30 = .ok (.bipush (-102), 2) := by decide +kernel
theorem dX9_gain_32 : decode cX9_gain 32 = .ok (.ireturn, 1) := by decide +kernel
theorem dX9_gain_33 : decode cX9_gain 33 = .ok (.aload_n 0, 1) := by decide +kernel
theorem dX9_gain_34 : decode cX9_gain 34 = .ok (.getfield 252, 3) := by decide +kernel
theorem dX9_gain_37 : decode cX9_gain 37 = .ok (.bipush 60, 2) := by decide +kernel
theorem dX9_gain_39 : decode cX9_gain 39 = .ok (.if_icmp .ne 6, 3) := by decide +kernel
theorem dX9_gain_42 : decode cX9_gain 42 = .ok (.bipush (-103), 2) := by decide +kernel
theorem dX9_gain_44 : decode cX9_gain 44 = .ok (.ireturn, 1) := by decide +kernel
theorem dX9_gain_45 : decode cX9_gain 45 = .ok (.aload_n 0, 1) := by decide +kernel
theorem dX9_gain_46 : decode cX9_gain 46 = .ok (.dup, 1) := by decide +kernel
theorem dX9_gain_47 : decode cX9_gain 47 = .ok (.getfield 252, 3) := by decide +kernel
theorem dX9_gain_50 : decode cX9_gain 50 = .ok (.iconst 1, 1) := by decide +kernel
theorem dX9_gain_51 : decode cX9_gain 51 = .ok (.iadd, 1) := by decide +kernel
theorem dX9_gain_52 : decode cX9_gain 52 = .ok (.putfield 252, 3) := by decide +kernel
theorem dX9_gain_55 : decode cX9_gain 55 = .ok (.aload_n 0, 1) := by decide +kernel
theorem dX9_gain_56 : decode cX9_gain 56 = .ok (.iload_n 1, 1) := by decide +kernel
theorem dX9_gain_57 : decode cX9_gain 57 = .ok (.iload_n 2, 1) := by decide +kernel
theorem dX9_gain_58 : decode cX9_gain 58 = .ok (.invokevirtual 255, 3) := by decide +kernel
theorem dX9_gain_61 : decode cX9_gain 61 = .ok (.iload_n 3, 1) := by decide +kernel
theorem dX9_gain_62 : decode cX9_gain 62 = .ok (.ifCond .ne 10, 3) := by decide +kernel
theorem dX9_gain_65 : decode cX9_gain 65 = .ok (.aload_n 0, 1) := by decide +kernel
theorem dX9_gain_66 : decode cX9_gain 66 = .ok (.getfield 228, 3) := by decide +kernel
theorem dX9_gain_69 : decode cX9_gain 69 = .ok (.goto 7, 3) := by decide +kernel
theorem dX9_gain_72 : decode cX9_gain 72 = .ok (.aload_n 0, 1) := by decide +kernel
theorem dX9_gain_73 : decode cX9_gain 73 = .ok (.getfield 231, 3) := by decide +kernel
theorem dX9_gain_76 : decode cX9_gain 76 = .ok (.ireturn, 1) := by decide +kernel
theorem dX9_soonBy_0 : decode cX9_soonBy 0 = .ok (.aload_n 0, 1) := by decide +kernel
theorem dX9_soonBy_1 : decode cX9_soonBy 1 = .ok (.getfield 171, 3) := by decide +kernel
theorem dX9_soonBy_4 : decode cX9_soonBy 4 = .ok (.aload_n 0, 1) := by decide +kernel
theorem dX9_soonBy_5 : decode cX9_soonBy 5 = .ok (.getfield 28, 3) := by decide +kernel
theorem dX9_soonBy_8 : decode cX9_soonBy 8 = .ok (.iload_n 1, 1) := by decide +kernel
theorem dX9_soonBy_9 : decode cX9_soonBy 9 = .ok (.iaload, 1) := by decide +kernel
theorem dX9_soonBy_10 : decode cX9_soonBy 10 = .ok (.iadd, 1) := by decide +kernel
theorem dX9_soonBy_11 : decode cX9_soonBy 11 = .ok (.istore 4, 2) := by decide +kernel
theorem dX9_soonBy_13 : decode cX9_soonBy 13 = .ok (.aload_n 0, 1) := by decide +kernel
theorem dX9_soonBy_14 : decode cX9_soonBy 14 = .ok (.iload_n 1, 1) := by decide +kernel
theorem dX9_soonBy_15 : decode cX9_soonBy 15 = .ok (.iconst 4, 1) := by decide +kernel
theorem dX9_soonBy_16 : decode cX9_soonBy 16 = .ok (.invokevirtual 234, 3) := by decide +kernel
theorem dX9_soonBy_19 : decode cX9_soonBy 19 = .ok (.aload_n 0, 1) := by decide +kernel
theorem dX9_soonBy_20 : decode cX9_soonBy 20 = .ok (.iconst 4, 1) := by decide +kernel
theorem dX9_soonBy_21 : decode cX9_soonBy 21 = .ok (.iload 4, 2) := by decide +kernel
theorem dX9_soonBy_23 : decode cX9_soonBy 23 = .ok (.invokevirtual 174, 3) := by decide +kernel
theorem dX9_soonBy_26 : decode cX9_soonBy 26 = .ok (.iconst 0, 1) := by decide +kernel
theorem dX9_soonBy_27 : decode cX9_soonBy 27 = .ok (.istore 5, 2) := by decide +kernel
theorem dX9_soonBy_29 : decode cX9_soonBy 29 = .ok (.iload 5, 2) := by decide +kernel
theorem dX9_soonBy_31 : decode cX9_soonBy 31 = .ok (.bipush 9, 2) := by decide +kernel
theorem dX9_soonBy_33 : decode cX9_soonBy 33 = .ok (.if_icmp .gt 47, 3) := by decide +kernel
theorem dX9_soonBy_36 : decode cX9_soonBy 36 = .ok (.aload_n 0, 1) := by decide +kernel
theorem dX9_soonBy_37 : decode cX9_soonBy 37 = .ok (.iconst 4, 1) := by decide +kernel
theorem dX9_soonBy_38 : decode cX9_soonBy 38 = .ok (.bipush 10, 2) := by decide +kernel
theorem dX9_soonBy_40 : decode cX9_soonBy 40 = .ok (.iload_n 2, 1) := by decide +kernel
theorem dX9_soonBy_41 : decode cX9_soonBy 41 = .ok (.iadd, 1) := by decide +kernel
theorem dX9_soonBy_42 : decode cX9_soonBy 42 = .ok (.invokevirtual 206, 3) := by decide +kernel
theorem dX9_soonBy_45 : decode cX9_soonBy 45 = .ok (.ifCond .eq 6, 3) := by decide +kernel
theorem dX9_soonBy_48 : decode cX9_soonBy 48 = .ok (.iload 5, 2) := by decide +kernel
theorem dX9_soonBy_50 : decode cX9_soonBy 50 = .ok (.ireturn, 1) := by decide +kernel
theorem dX9_soonBy_51 : decode cX9_soonBy 51 = .ok (.aload_n 0, 1) := by decide +kernel
theorem dX9_soonBy_52 : decode cX9_soonBy 52 = .ok (.iconst 4, 1) := by decide +kernel
theorem dX9_soonBy_53 : decode cX9_soonBy 53 = .ok (.iload_n 3, 1) := by decide +kernel
theorem dX9_soonBy_54 : decode cX9_soonBy 54 = .ok (.iload 4, 2) := by decide +kernel
theorem dX9_soonBy_56 : decode cX9_soonBy 56 = .ok (.iload 5, 2) := by decide +kernel
theorem dX9_soonBy_58 : decode cX9_soonBy 58 = .ok (.iadd, 1) := by decide +kernel
theorem dX9_soonBy_59 : decode cX9_soonBy 59 = .ok (.invokevirtual 199, 3) := by decide +kernel
theorem dX9_soonBy_62 : decode cX9_soonBy 62 = .ok (.aload_n 0, 1) := by decide +kernel
theorem dX9_soonBy_63 : decode cX9_soonBy 63 = .ok (.iconst 4, 1) := by decide +kernel
theorem dX9_soonBy_64 : decode cX9_soonBy 64 = .ok (.iload 4, 2) := by decide +kernel
theorem dX9_soonBy_66 : decode cX9_soonBy 66 = .ok (.iload 5, 2) := by decide +kernel
theorem dX9_soonBy_68 : decode cX9_soonBy 68 = .ok (.iadd, 1) := by decide +kernel
theorem dX9_soonBy_69 : decode cX9_soonBy 69 = .ok (.iconst 1, 1) := by decide +kernel
theorem dX9_soonBy_70 : decode cX9_soonBy 70 = .ok (.iadd, 1) := by decide +kernel
theorem dX9_soonBy_71 : decode cX9_soonBy 71 = .ok (.invokevirtual 174, 3) := by decide +kernel
theorem dX9_soonBy_74 : decode cX9_soonBy 74 = .ok (.iinc 5 1, 3) := by decide +kernel
theorem dX9_soonBy_77 : decode cX9_soonBy 77 = .ok (.goto (-48), 3) := by decide +kernel
theorem dX9_soonBy_80 : decode cX9_soonBy 80 = .ok (.iconst (-1), 1) := by decide +kernel
theorem dX9_soonBy_81 : decode cX9_soonBy 81 = .ok (.ireturn, 1) := by decide +kernel
theorem dX9_soonNow_0 : decode cX9_soonNow 0 = .ok (.iconst (-1), 1) := by decide +kernel
theorem dX9_soonNow_1 : decode cX9_soonNow 1 = .ok (.istore_n 3, 1) := by decide +kernel
theorem dX9_soonNow_2 : decode cX9_soonNow 2 = .ok (.iconst 0, 1) := by decide +kernel
theorem dX9_soonNow_3 : decode cX9_soonNow 3 = .ok (.istore 4, 2) := by decide +kernel
theorem dX9_soonNow_5 : decode cX9_soonNow 5 = .ok (.iload 4, 2) := by decide +kernel
theorem dX9_soonNow_7 : decode cX9_soonNow 7 = .ok (.iconst 3, 1) := by decide +kernel
theorem dX9_soonNow_8 : decode cX9_soonNow 8 = .ok (.if_icmp .ge 61, 3) := by decide +kernel
theorem dX9_soonNow_11 : decode cX9_soonNow 11 = .ok (.aload_n 0, 1) := by decide +kernel
theorem dX9_soonNow_12 : decode cX9_soonNow 12 = .ok (.getfield 16, 3) := by decide +kernel
theorem dX9_soonNow_15 : decode cX9_soonNow 15 = .ok (.iload_n 2, 1) := by decide +kernel
theorem dX9_soonNow_16 : decode cX9_soonNow 16 = .ok (.iaload, 1) := by decide +kernel
theorem dX9_soonNow_17 : decode cX9_soonNow 17 = .ok (.iload 4, 2) := by decide +kernel
theorem dX9_soonNow_19 : decode cX9_soonNow 19 = .ok (.invokestatic 128, 3) := by decide +kernel
theorem dX9_soonNow_22 : decode cX9_soonNow 22 = .ok (.ifCond .eq 14, 3) := by decide +kernel
theorem dX9_soonNow_25 : decode cX9_soonNow 25 = .ok (.aload_n 0, 1) := by decide +kernel
theorem dX9_soonNow_26 : decode cX9_soonNow 26 = .ok (.iload_n 1, 1) := by decide +kernel
theorem dX9_soonNow_27 : decode cX9_soonNow 27 = .ok (.iload_n 2, 1) := by decide +kernel
theorem dX9_soonNow_28 : decode cX9_soonNow 28 = .ok (.iload 4, 2) := by decide +kernel
theorem dX9_soonNow_30 : decode cX9_soonNow 30 = .ok (.invokevirtual 258, 3) := by decide +kernel
theorem dX9_soonNow_33 : decode cX9_soonNow 33 = .ok (.goto 4, 3) := by decide +kernel
theorem dX9_soonNow_36 : decode cX9_soonNow 36 = .ok (.iconst (-1), 1) := by decide +kernel
theorem dX9_soonNow_37 : decode cX9_soonNow 37 = .ok (.istore 5, 2) := by decide +kernel
theorem dX9_soonNow_39 : decode cX9_soonNow 39 = .ok (.iload 5, 2) := by decide +kernel
theorem dX9_soonNow_41 : decode cX9_soonNow 41 = .ok (.iconst (-1), 1) := by decide +kernel
theorem dX9_soonNow_42 : decode cX9_soonNow 42 = .ok (.if_icmp .eq 19, 3) := by decide +kernel
theorem dX9_soonNow_45 : decode cX9_soonNow 45 = .ok (.iload_n 3, 1) := by decide +kernel
theorem dX9_soonNow_46 : decode cX9_soonNow 46 = .ok (.iconst (-1), 1) := by decide +kernel
theorem dX9_soonNow_47 : decode cX9_soonNow 47 = .ok (.if_icmp .eq 9, 3) := by decide +kernel
theorem dX9_soonNow_50 : decode cX9_soonNow 50 = .ok (.iload 5, 2) := by decide +kernel
theorem dX9_soonNow_52 : decode cX9_soonNow 52 = .ok (.iload_n 3, 1) := by decide +kernel
theorem dX9_soonNow_53 : decode cX9_soonNow 53 = .ok (.if_icmp .ge 8, 3) := by decide +kernel
theorem dX9_soonNow_56 : decode cX9_soonNow 56 = .ok (.iload 5, 2) := by decide +kernel
theorem dX9_soonNow_58 : decode cX9_soonNow 58 = .ok (.goto 4, 3) := by decide +kernel
theorem dX9_soonNow_61 : decode cX9_soonNow 61 = .ok (.iload_n 3, 1) := by decide +kernel
theorem dX9_soonNow_62 : decode cX9_soonNow 62 = .ok (.istore_n 3, 1) := by decide +kernel
theorem dX9_soonNow_63 : decode cX9_soonNow 63 = .ok (.iinc 4 1, 3) := by decide +kernel
theorem dX9_soonNow_66 : decode cX9_soonNow 66 = .ok (.goto (-61), 3) := by decide +kernel
theorem dX9_soonNow_69 : decode cX9_soonNow 69 = .ok (.iload_n 3, 1) := by decide +kernel
theorem dX9_soonNow_70 : decode cX9_soonNow 70 = .ok (.ireturn, 1) := by decide +kernel
theorem dX9_soonTold_0 : decode cX9_soonTold 0 = .ok (.aload_n 0, 1) := by decide +kernel
theorem dX9_soonTold_1 : decode cX9_soonTold 1 = .ok (.getfield 25, 3) := by decide +kernel
theorem dX9_soonTold_4 : decode cX9_soonTold 4 = .ok (.iload_n 1, 1) := by decide +kernel
theorem dX9_soonTold_5 : decode cX9_soonTold 5 = .ok (.iaload, 1) := by decide +kernel
theorem dX9_soonTold_6 : decode cX9_soonTold 6 = .ok (.ifCond .le 8, 3) := by decide +kernel
theorem dX9_soonTold_9 : decode cX9_soonTold 9 = .ok (.bipush (-103), 2) := by decide +kernel
theorem dX9_soonTold_11 : decode cX9_soonTold 11 = .ok (.goto 9, 3) := by decide +kernel
theorem dX9_soonTold_14 : decode cX9_soonTold 14 = .ok (.aload_n 0, 1) := by decide +kernel
theorem dX9_soonTold_15 : decode cX9_soonTold 15 = .ok (.iload_n 1, 1) := by decide +kernel
theorem dX9_soonTold_16 : decode cX9_soonTold 16 = .ok (.iload_n 2, 1) := by decide +kernel
theorem dX9_soonTold_17 : decode cX9_soonTold 17 = .ok (.invokevirtual 261, 3) := by decide +kernel
theorem dX9_soonTold_20 : decode cX9_soonTold 20 = .ok (.ireturn, 1) := by decide +kernel
theorem dX9_soon_0 : decode cX9_soon 0 = .ok (.aload_n 0, 1) := by decide +kernel
theorem dX9_soon_1 : decode cX9_soon 1 = .ok (.iload_n 1, 1) := by decide +kernel
theorem dX9_soon_2 : decode cX9_soon 2 = .ok (.invokevirtual 209, 3) := by decide +kernel
theorem dX9_soon_5 : decode cX9_soon 5 = .ok (.ifCond .eq 19, 3) := by decide +kernel
theorem dX9_soon_8 : decode cX9_soon 8 = .ok (.iload_n 2, 1) := by decide +kernel
theorem dX9_soon_9 : decode cX9_soon 9 = .ok (.invokestatic 161, 3) := by decide +kernel
theorem dX9_soon_12 : decode cX9_soon 12 = .ok (.ifCond .eq 12, 3) := by decide +kernel
theorem dX9_soon_15 : decode cX9_soon 15 = .ok (.aload_n 0, 1) := by decide +kernel
theorem dX9_soon_16 : decode cX9_soon 16 = .ok (.iload_n 1, 1) := by decide +kernel
theorem dX9_soon_17 : decode cX9_soon 17 = .ok (.iload_n 2, 1) := by decide +kernel
theorem dX9_soon_18 : decode cX9_soon 18 = .ok (.invokevirtual 264, 3) := by decide +kernel
theorem dX9_soon_21 : decode cX9_soon 21 = .ok (.goto 5, 3) := by decide +kernel
theorem dX9_soon_24 : decode cX9_soon 24 = .ok (.bipush (-101), 2) := by decide +kernel
theorem dX9_soon_26 : decode cX9_soon 26 = .ok (.ireturn, 1) := by decide +kernel
theorem dX9_canAny_0 : decode cX9_canAny 0 = .ok (.iconst 0, 1) := by decide +kernel
theorem dX9_canAny_1 : decode cX9_canAny 1 = .ok (.istore_n 3, 1) := by decide +kernel
theorem dX9_canAny_2 : decode cX9_canAny 2 = .ok (.iconst 0, 1) := by decide +kernel
theorem dX9_canAny_3 : decode cX9_canAny 3 = .ok (.istore 4, 2) := by decide +kernel
theorem dX9_canAny_5 : decode cX9_canAny 5 = .ok (.iload 4, 2) := by decide +kernel
theorem dX9_canAny_7 : decode cX9_canAny 7 = .ok (.aload_n 0, 1) := by decide +kernel
theorem dX9_canAny_8 : decode cX9_canAny 8 = .ok (.getfield 168, 3) := by decide +kernel
theorem dX9_canAny_11 : decode cX9_canAny 11 = .ok (.if_icmp .ge 63, 3) := by decide +kernel
theorem dX9_canAny_14 : decode cX9_canAny 14 = .ok (.aload_n 0, 1) := by decide +kernel
theorem dX9_canAny_15 : decode cX9_canAny 15 = .ok (.iload 4, 2) := by decide +kernel
theorem dX9_canAny_17 : decode cX9_canAny 17 = .ok (.iconst 4, 1) := by decide +kernel
theorem dX9_canAny_18 : decode cX9_canAny 18 = .ok (.invokevirtual 234, 3) := by decide +kernel
theorem dX9_canAny_21 : decode cX9_canAny 21 = .ok (.aload_n 0, 1) := by decide +kernel
theorem dX9_canAny_22 : decode cX9_canAny 22 = .ok (.iconst 4, 1) := by decide +kernel
theorem dX9_canAny_23 : decode cX9_canAny 23 = .ok (.aload_n 0, 1) := by decide +kernel
theorem dX9_canAny_24 : decode cX9_canAny 24 = .ok (.getfield 171, 3) := by decide +kernel
theorem dX9_canAny_27 : decode cX9_canAny 27 = .ok (.aload_n 0, 1) := by decide +kernel
theorem dX9_canAny_28 : decode cX9_canAny 28 = .ok (.getfield 28, 3) := by decide +kernel
theorem dX9_canAny_31 : decode cX9_canAny 31 = .ok (.iload 4, 2) := by decide +kernel
theorem dX9_canAny_33 : decode cX9_canAny 33 = .ok (.iaload, 1) := by decide +kernel
theorem dX9_canAny_34 : decode cX9_canAny 34 = .ok (.iadd, 1) := by decide +kernel
theorem dX9_canAny_35 : decode cX9_canAny 35 = .ok (.invokevirtual 174, 3) := by decide +kernel
theorem dX9_canAny_38 : decode cX9_canAny 38 = .ok (.iload_n 3, 1) := by decide +kernel
theorem dX9_canAny_39 : decode cX9_canAny 39 = .ok (.ifCond .ne 23, 3) := by decide +kernel
theorem dX9_canAny_42 : decode cX9_canAny 42 = .ok (.aload_n 0, 1) := by decide +kernel
theorem dX9_canAny_43 : decode cX9_canAny 43 = .ok (.getfield 31, 3) := by decide +kernel
theorem dX9_canAny_46 : decode cX9_canAny 46 = .ok (.iload 4, 2) := by decide +kernel
theorem dX9_canAny_48 : decode cX9_canAny 48 = .ok (.iaload, 1) := by decide +kernel
theorem dX9_canAny_49 : decode cX9_canAny 49 = .ok (.ifCond .ne 17, 3) := by decide +kernel
theorem dX9_canAny_52 : decode cX9_canAny 52 = .ok (.aload_n 0, 1) := by decide +kernel
theorem dX9_canAny_53 : decode cX9_canAny 53 = .ok (.iconst 4, 1) := by decide +kernel
theorem dX9_canAny_54 : decode cX9_canAny 54 = .ok (.iload_n 1, 1) := by decide +kernel
theorem dX9_canAny_55 : decode cX9_canAny 55 = .ok (.iload_n 2, 1) := by decide +kernel
theorem dX9_canAny_56 : decode cX9_canAny 56 = .ok (.invokevirtual 190, 3) := by decide +kernel
theorem dX9_canAny_59 : decode cX9_canAny 59 = .ok (.ifCond .eq 7, 3) := by decide +kernel
theorem dX9_canAny_62 : decode cX9_canAny 62 = .ok (.iconst 1, 1) := by decide +kernel
theorem dX9_canAny_63 : decode cX9_canAny 63 = .ok (.goto 4, 3) := by decide +kernel
theorem dX9_canAny_66 : decode cX9_canAny 66 = .ok (.iconst 0, 1) := by decide +kernel
theorem dX9_canAny_67 : decode cX9_canAny 67 = .ok (.istore_n 3, 1) := by decide +kernel
theorem dX9_canAny_68 : decode cX9_canAny 68 = .ok (.iinc 4 1, 3) := by decide +kernel
theorem dX9_canAny_71 : decode cX9_canAny 71 = .ok (.goto (-66), 3) := by decide +kernel
theorem dX9_canAny_74 : decode cX9_canAny 74 = .ok (.iload_n 3, 1) := by decide +kernel
theorem dX9_canAny_75 : decode cX9_canAny 75 = .ok (.ireturn, 1) := by decide +kernel
theorem dX9_keptNow_0 : decode cX9_keptNow 0 = .ok (.iconst 1, 1) := by decide +kernel
theorem dX9_keptNow_1 : decode cX9_keptNow 1 = .ok (.istore_n 2, 1) := by decide +kernel
theorem dX9_keptNow_2 : decode cX9_keptNow 2 = .ok (.iload_n 2, 1) := by decide +kernel
theorem dX9_keptNow_3 : decode cX9_keptNow 3 = .ok (.bipush 9, 2) := by decide +kernel
theorem dX9_keptNow_5 : decode cX9_keptNow 5 = .ok (.if_icmp .gt 20, 3) := by decide +kernel
theorem dX9_keptNow_8 : decode cX9_keptNow 8 = .ok (.aload_n 0, 1) := by decide +kernel
theorem dX9_keptNow_9 : decode cX9_keptNow 9 = .ok (.iload_n 1, 1) := by decide +kernel
theorem dX9_keptNow_10 : decode cX9_keptNow 10 = .ok (.iload_n 2, 1) := by decide +kernel
theorem dX9_keptNow_11 : decode cX9_keptNow 11 = .ok (.invokevirtual 267, 3) := by decide +kernel
theorem dX9_keptNow_14 : decode cX9_keptNow 14 = .ok (.ifCond .ne 5, 3) := by decide +kernel
theorem dX9_keptNow_17 : decode cX9_keptNow 17 = .ok (.iload_n 2, 1) := by decide +kernel
theorem dX9_keptNow_18 : decode cX9_keptNow 18 = .ok (.ireturn, 1) := by decide +kernel
theorem dX9_keptNow_19 : decode cX9_keptNow 19 = .ok (.iinc 2 1, 3) := by decide +kernel
theorem dX9_keptNow_22 : decode cX9_keptNow 22 = .ok (.goto (-20), 3) := by decide +kernel
theorem dX9_keptNow_25 : decode cX9_keptNow 25 = .ok (.iconst (-1), 1) := by decide +kernel
theorem dX9_keptNow_26 : decode cX9_keptNow 26 = .ok (.ireturn, 1) := by decide +kernel
theorem dX9_kept_0 : decode cX9_kept 0 = .ok (.iload_n 1, 1) := by decide +kernel
theorem dX9_kept_1 : decode cX9_kept 1 = .ok (.invokestatic 161, 3) := by decide +kernel
theorem dX9_kept_4 : decode cX9_kept 4 = .ok (.ifCond .ne 6, 3) := by decide +kernel
theorem dX9_kept_7 : decode cX9_kept 7 = .ok (.bipush (-101), 2) := by decide +kernel
theorem dX9_kept_9 : decode cX9_kept 9 = .ok (.ireturn, 1) := by decide +kernel
theorem dX9_kept_10 : decode cX9_kept 10 = .ok (.aload_n 0, 1) := by decide +kernel
theorem dX9_kept_11 : decode cX9_kept 11 = .ok (.getfield 149, 3) := by decide +kernel
theorem dX9_kept_14 : decode cX9_kept 14 = .ok (.ifCond .eq 11, 3) := by decide +kernel
theorem dX9_kept_17 : decode cX9_kept 17 = .ok (.aload_n 0, 1) := by decide +kernel
theorem dX9_kept_18 : decode cX9_kept 18 = .ok (.iload_n 1, 1) := by decide +kernel
theorem dX9_kept_19 : decode cX9_kept 19 = .ok (.invokevirtual 270, 3) := by decide +kernel
theorem dX9_kept_22 : decode cX9_kept 22 = .ok (.goto 5, 3) := by decide +kernel
theorem dX9_kept_25 : decode cX9_kept 25 = .ok (.bipush (-103), 2) := by decide +kernel
theorem dX9_kept_27 : decode cX9_kept 27 = .ok (.ireturn, 1) := by decide +kernel
theorem dX9_book_0 : decode cX9_book 0 = .ok (.aload_n 0, 1) := by decide +kernel
theorem dX9_book_1 : decode cX9_book 1 = .ok (.iload_n 1, 1) := by decide +kernel
theorem dX9_book_2 : decode cX9_book 2 = .ok (.invokevirtual 209, 3) := by decide +kernel
theorem dX9_book_5 : decode cX9_book 5 = .ok (.ifCond .ne 6, 3) := by decide +kernel
theorem dX9_book_8 : decode cX9_book 8 = .ok (.bipush (-101), 2) := by decide +kernel
theorem dX9_book_10 : decode cX9_book 10 = .ok (.ireturn, 1) := by decide +kernel
theorem dX9_book_11 : decode cX9_book 11 = .ok (.aload_n 0, 1) := by decide +kernel
theorem dX9_book_12 : decode cX9_book 12 = .ok (.getfield 28, 3) := by decide +kernel
theorem dX9_book_15 : decode cX9_book 15 = .ok (.iload_n 1, 1) := by decide +kernel
theorem dX9_book_16 : decode cX9_book 16 = .ok (.iaload, 1) := by decide +kernel
theorem dX9_book_17 : decode cX9_book 17 = .ok (.iconst 1, 1) := by decide +kernel
theorem dX9_book_18 : decode cX9_book 18 = .ok (.if_icmp .ne 6, 3) := by decide +kernel
theorem dX9_book_21 : decode cX9_book 21 = .ok (.bipush (-103), 2) := by decide +kernel
theorem dX9_book_23 : decode cX9_book 23 = .ok (.ireturn, 1) := by decide +kernel
theorem dX9_book_24 : decode cX9_book 24 = .ok (.aload_n 0, 1) := by decide +kernel
theorem dX9_book_25 : decode cX9_book 25 = .ok (.getfield 155, 3) := by decide +kernel
theorem dX9_book_28 : decode cX9_book 28 = .ok (.istore_n 2, 1) := by decide +kernel
theorem dX9_book_29 : decode cX9_book 29 = .ok (.aload_n 0, 1) := by decide +kernel
theorem dX9_book_30 : decode cX9_book 30 = .ok (.iload_n 1, 1) := by decide +kernel
theorem dX9_book_31 : decode cX9_book 31 = .ok (.putfield 68, 3) := by decide +kernel
theorem dX9_book_34 : decode cX9_book 34 = .ok (.aload_n 0, 1) := by decide +kernel
theorem dX9_book_35 : decode cX9_book 35 = .ok (.iconst 0, 1) := by decide +kernel
theorem dX9_book_36 : decode cX9_book 36 = .ok (.putfield 155, 3) := by decide +kernel
theorem dX9_book_39 : decode cX9_book 39 = .ok (.aload_n 0, 1) := by decide +kernel
theorem dX9_book_40 : decode cX9_book 40 = .ok (.aload_n 0, 1) := by decide +kernel
theorem dX9_book_41 : decode cX9_book 41 = .ok (.getfield 171, 3) := by decide +kernel
theorem dX9_book_44 : decode cX9_book 44 = .ok (.putfield 274, 3) := by decide +kernel
theorem dX9_book_47 : decode cX9_book 47 = .ok (.aload_n 0, 1) := by decide +kernel
theorem dX9_book_48 : decode cX9_book 48 = .ok (.aload_n 0, 1) := by decide +kernel
theorem dX9_book_49 : decode cX9_book 49 = .ok (.getfield 19, 3) := by decide +kernel
theorem dX9_book_52 : decode cX9_book 52 = .ok (.iload_n 1, 1) := by decide +kernel
theorem dX9_book_53 : decode cX9_book 53 = .ok (.iaload, 1) := by decide +kernel
theorem dX9_book_54 : decode cX9_book 54 = .ok (.putfield 277, 3) := by decide +kernel
theorem dX9_book_57 : decode cX9_book 57 = .ok (.aload_n 0, 1) := by decide +kernel
theorem dX9_book_58 : decode cX9_book 58 = .ok (.aload_n 0, 1) := by decide +kernel
theorem dX9_book_59 : decode cX9_book 59 = .ok (.getfield 22, 3) := by decide +kernel
theorem dX9_book_62 : decode cX9_book 62 = .ok (.iload_n 1, 1) := by decide +kernel
theorem dX9_book_63 : decode cX9_book 63 = .ok (.iaload, 1) := by decide +kernel
theorem dX9_book_64 : decode cX9_book 64 = .ok (.putfield 280, 3) := by decide +kernel
theorem dX9_book_67 : decode cX9_book 67 = .ok (.aload_n 0, 1) := by decide +kernel
theorem dX9_book_68 : decode cX9_book 68 = .ok (.aload_n 0, 1) := by decide +kernel
theorem dX9_book_69 : decode cX9_book 69 = .ok (.getfield 25, 3) := by decide +kernel
theorem dX9_book_72 : decode cX9_book 72 = .ok (.iload_n 1, 1) := by decide +kernel
theorem dX9_book_73 : decode cX9_book 73 = .ok (.iaload, 1) := by decide +kernel
theorem dX9_book_74 : decode cX9_book 74 = .ok (.putfield 283, 3) := by decide +kernel
theorem dX9_book_77 : decode cX9_book 77 = .ok (.aload_n 0, 1) := by decide +kernel
theorem dX9_book_78 : decode cX9_book 78 = .ok (.aload_n 0, 1) := by decide +kernel
theorem dX9_book_79 : decode cX9_book 79 = .ok (.getfield 34, 3) := by decide +kernel
theorem dX9_book_82 : decode cX9_book 82 = .ok (.iload_n 1, 1) := by decide +kernel
theorem dX9_book_83 : decode cX9_book 83 = .ok (.iaload, 1) := by decide +kernel
theorem dX9_book_84 : decode cX9_book 84 = .ok (.putfield 286, 3) := by decide +kernel
theorem dX9_book_87 : decode cX9_book 87 = .ok (.iconst 0, 1) := by decide +kernel
theorem dX9_book_88 : decode cX9_book 88 = .ok (.istore_n 3, 1) := by decide +kernel
theorem dX9_book_89 : decode cX9_book 89 = .ok (.iload_n 3, 1) := by decide +kernel
theorem dX9_book_90 : decode cX9_book 90 = .ok (.bipush 12, 2) := by decide +kernel
theorem dX9_book_92 : decode cX9_book 92 = .ok (.if_icmp .ge 26, 3) := by decide +kernel
theorem dX9_book_95 : decode cX9_book 95 = .ok (.aload_n 0, 1) := by decide +kernel
theorem dX9_book_96 : decode cX9_book 96 = .ok (.getfield 75, 3) := by decide +kernel
theorem dX9_book_99 : decode cX9_book 99 = .ok (.iload_n 3, 1) := by decide +kernel
theorem dX9_book_100 : decode cX9_book 100 = .ok (.aload_n 0, 1) := by decide +kernel
theorem dX9_book_101 : decode cX9_book 101 = .ok (.getfield 37, 3) := by decide +kernel
theorem dX9_book_104 : decode cX9_book 104 = .ok (.bipush 12, 2) := by decide +kernel
theorem dX9_book_106 : decode cX9_book 106 = .ok (.iload_n 1, 1) := by decide +kernel
theorem dX9_book_107 : decode cX9_book 107 = .ok (.imul, 1) := by decide +kernel
theorem dX9_book_108 : decode cX9_book 108 = .ok (.iload_n 3, 1) := by decide +kernel
theorem dX9_book_109 : decode cX9_book 109 = .ok (.iadd, 1) := by decide +kernel
theorem dX9_book_110 : decode cX9_book 110 = .ok (.iaload, 1) := by decide +kernel
theorem dX9_book_111 : decode cX9_book 111 = .ok (.iastore, 1) := by decide +kernel
theorem dX9_book_112 : decode cX9_book 112 = .ok (.iinc 3 1, 3) := by decide +kernel
theorem dX9_book_115 : decode cX9_book 115 = .ok (.goto (-26), 3) := by decide +kernel
theorem dX9_book_118 : decode cX9_book 118 = .ok (.iload_n 2, 1) := by decide +kernel
theorem dX9_book_119 : decode cX9_book 119 = .ok (.ireturn, 1) := by decide +kernel
theorem dX9_next_0 : decode cX9_next 0 = .ok (.aload_n 0, 1) := by decide +kernel
theorem dX9_next_1 : decode cX9_next 1 = .ok (.getfield 68, 3) := by decide +kernel
theorem dX9_next_4 : decode cX9_next 4 = .ok (.iconst (-1), 1) := by decide +kernel
theorem dX9_next_5 : decode cX9_next 5 = .ok (.if_icmp .ne 6, 3) := by decide +kernel
theorem dX9_next_8 : decode cX9_next 8 = .ok (.bipush (-103), 2) := by decide +kernel
theorem dX9_next_10 : decode cX9_next 10 = .ok (.ireturn, 1) := by decide +kernel
theorem dX9_next_11 : decode cX9_next 11 = .ok (.iload_n 1, 1) := by decide +kernel
theorem dX9_next_12 : decode cX9_next 12 = .ok (.iconst 0, 1) := by decide +kernel
theorem dX9_next_13 : decode cX9_next 13 = .ok (.sipush 999, 3) := by decide +kernel
theorem dX9_next_16 : decode cX9_next 16 = .ok (.invokestatic 111, 3) := by decide +kernel
theorem dX9_next_19 : decode cX9_next 19 = .ok (.ifCond .ne 6, 3) := by decide +kernel
theorem dX9_next_22 : decode cX9_next 22 = .ok (.bipush (-102), 2) := by decide +kernel
theorem dX9_next_24 : decode cX9_next 24 = .ok (.ireturn, 1) := by decide +kernel
theorem dX9_next_25 : decode cX9_next 25 = .ok (.aload_n 0, 1) := by decide +kernel
theorem dX9_next_26 : decode cX9_next 26 = .ok (.getfield 155, 3) := by decide +kernel
theorem dX9_next_29 : decode cX9_next 29 = .ok (.iconst 5, 1) := by decide +kernel
theorem dX9_next_30 : decode cX9_next 30 = .ok (.if_icmp .ne 6, 3) := by decide +kernel
theorem dX9_next_33 : decode cX9_next 33 = .ok (.bipush (-104), 2) := by decide +kernel
theorem dX9_next_35 : decode cX9_next 35 = .ok (.ireturn, 1) := by decide +kernel
theorem dX9_next_36 : decode cX9_next 36 = .ok (.aload_n 0, 1) := by decide +kernel
theorem dX9_next_37 : decode cX9_next 37 = .ok (.getfield 72, 3) := by decide +kernel
theorem dX9_next_40 : decode cX9_next 40 = .ok (.aload_n 0, 1) := by decide +kernel
theorem dX9_next_41 : decode cX9_next 41 = .ok (.getfield 155, 3) := by decide +kernel
theorem dX9_next_44 : decode cX9_next 44 = .ok (.iload_n 1, 1) := by decide +kernel
theorem dX9_next_45 : decode cX9_next 45 = .ok (.iastore, 1) := by decide +kernel
theorem dX9_next_46 : decode cX9_next 46 = .ok (.aload_n 0, 1) := by decide +kernel
theorem dX9_next_47 : decode cX9_next 47 = .ok (.dup, 1) := by decide +kernel
theorem dX9_next_48 : decode cX9_next 48 = .ok (.getfield 155, 3) := by decide +kernel
theorem dX9_next_51 : decode cX9_next 51 = .ok (.iconst 1, 1) := by decide +kernel
theorem dX9_next_52 : decode cX9_next 52 = .ok (.iadd, 1) := by decide +kernel
theorem dX9_next_53 : decode cX9_next 53 = .ok (.putfield 155, 3) := by decide +kernel
theorem dX9_next_56 : decode cX9_next 56 = .ok (.aload_n 0, 1) := by decide +kernel
theorem dX9_next_57 : decode cX9_next 57 = .ok (.getfield 155, 3) := by decide +kernel
theorem dX9_next_60 : decode cX9_next 60 = .ok (.ireturn, 1) := by decide +kernel
theorem dX9_layWays_0 : decode cX9_layWays 0 = .ok (.aload_n 0, 1) := by decide +kernel
theorem dX9_layWays_1 : decode cX9_layWays 1 = .ok (.getfield 19, 3) := by decide +kernel
theorem dX9_layWays_4 : decode cX9_layWays 4 = .ok (.iconst 4, 1) := by decide +kernel
theorem dX9_layWays_5 : decode cX9_layWays 5 = .ok (.aload_n 0, 1) := by decide +kernel
theorem dX9_layWays_6 : decode cX9_layWays 6 = .ok (.getfield 277, 3) := by decide +kernel
theorem dX9_layWays_9 : decode cX9_layWays 9 = .ok (.iastore, 1) := by decide +kernel
theorem dX9_layWays_10 : decode cX9_layWays 10 = .ok (.aload_n 0, 1) := by decide +kernel
theorem dX9_layWays_11 : decode cX9_layWays 11 = .ok (.getfield 22, 3) := by decide +kernel
theorem dX9_layWays_14 : decode cX9_layWays 14 = .ok (.iconst 4, 1) := by decide +kernel
theorem dX9_layWays_15 : decode cX9_layWays 15 = .ok (.aload_n 0, 1) := by decide +kernel
theorem dX9_layWays_16 : decode cX9_layWays 16 = .ok (.getfield 280, 3) := by decide +kernel
theorem dX9_layWays_19 : decode cX9_layWays 19 = .ok (.iastore, 1) := by decide +kernel
theorem dX9_layWays_20 : decode cX9_layWays 20 = .ok (.aload_n 0, 1) := by decide +kernel
theorem dX9_layWays_21 : decode cX9_layWays 21 = .ok (.getfield 25, 3) := by decide +kernel
theorem dX9_layWays_24 : decode cX9_layWays 24 = .ok (.iconst 4, 1) := by decide +kernel
theorem dX9_layWays_25 : decode cX9_layWays 25 = .ok (.aload_n 0, 1) := by decide +kernel
theorem dX9_layWays_26 : decode cX9_layWays 26 = .ok (.getfield 283, 3) := by decide +kernel
theorem dX9_layWays_29 : decode cX9_layWays 29 = .ok (.iastore, 1) := by decide +kernel
theorem dX9_layWays_30 : decode cX9_layWays 30 = .ok (.aload_n 0, 1) := by decide +kernel
theorem dX9_layWays_31 : decode cX9_layWays 31 = .ok (.getfield 34, 3) := by decide +kernel
theorem dX9_layWays_34 : decode cX9_layWays 34 = .ok (.iconst 4, 1) := by decide +kernel
theorem dX9_layWays_35 : decode cX9_layWays 35 = .ok (.aload_n 0, 1) := by decide +kernel
theorem dX9_layWays_36 : decode cX9_layWays 36 = .ok (.getfield 286, 3) := by decide +kernel
theorem dX9_layWays_39 : decode cX9_layWays 39 = .ok (.iastore, 1) := by decide +kernel
theorem dX9_layWays_40 : decode cX9_layWays 40 = .ok (.iconst 0, 1) := by decide +kernel
theorem dX9_layWays_41 : decode cX9_layWays 41 = .ok (.istore_n 1, 1) := by decide +kernel
theorem dX9_layWays_42 : decode cX9_layWays 42 = .ok (.iload_n 1, 1) := by decide +kernel
theorem dX9_layWays_43 : decode cX9_layWays 43 = .ok (.bipush 12, 2) := by decide +kernel
theorem dX9_layWays_45 : decode cX9_layWays 45 = .ok (.if_icmp .ge 24, 3) := by decide +kernel
theorem dX9_layWays_48 : decode cX9_layWays 48 = .ok (.aload_n 0, 1) := by decide +kernel
theorem dX9_layWays_49 : decode cX9_layWays 49 = .ok (.getfield 37, 3) := by decide +kernel
theorem dX9_layWays_52 : decode cX9_layWays 52 = .ok (.bipush 48, 2) := by decide +kernel
theorem dX9_layWays_54 : decode cX9_layWays 54 = .ok (.iload_n 1, 1) := by decide +kernel
theorem dX9_layWays_55 : decode cX9_layWays 55 = .ok (.iadd, 1) := by decide +kernel
theorem dX9_layWays_56 : decode cX9_layWays 56 = .ok (.aload_n 0, 1) := by decide +kernel
theorem dX9_layWays_57 : decode cX9_layWays 57 = .ok (.getfield 75, 3) := by decide +kernel
theorem dX9_layWays_60 : decode cX9_layWays 60 = .ok (.iload_n 1, 1) := by decide +kernel
theorem dX9_layWays_61 : decode cX9_layWays 61 = .ok (.iaload, 1) := by decide +kernel
theorem dX9_layWays_62 : decode cX9_layWays 62 = .ok (.iastore, 1) := by decide +kernel
theorem dX9_layWays_63 : decode cX9_layWays 63 = .ok (.iinc 1 1, 3) := by decide +kernel
theorem dX9_layWays_66 : decode cX9_layWays 66 = .ok (.goto (-24), 3) := by decide +kernel
theorem dX9_layWays_69 : decode cX9_layWays 69 = .ok (.aload_n 0, 1) := by decide +kernel
theorem dX9_layWays_70 : decode cX9_layWays 70 = .ok (.iconst 0, 1) := by decide +kernel
theorem dX9_layWays_71 : decode cX9_layWays 71 = .ok (.putfield 289, 3) := by decide +kernel
theorem dX9_layWays_74 : decode cX9_layWays 74 = .ok (.aload_n 0, 1) := by decide +kernel
theorem dX9_layWays_75 : decode cX9_layWays 75 = .ok (.iconst (-1), 1) := by decide +kernel
theorem dX9_layWays_76 : decode cX9_layWays 76 = .ok (.putfield 292, 3) := by decide +kernel
theorem dX9_layWays_79 : decode cX9_layWays 79 = .ok (.aload_n 0, 1) := by decide +kernel
theorem dX9_layWays_80 : decode cX9_layWays 80 = .ok (.iconst 0, 1) := by decide +kernel
theorem dX9_layWays_81 : decode cX9_layWays 81 = .ok (.invokevirtual 237, 3) := by decide +kernel
theorem dX9_layWays_84 : decode cX9_layWays 84 = .ok (.iconst 0, 1) := by decide +kernel
theorem dX9_layWays_85 : decode cX9_layWays 85 = .ok (.istore_n 1, 1) := by decide +kernel
theorem dX9_layWays_86 : decode cX9_layWays 86 = .ok (.iload_n 1, 1) := by decide +kernel
theorem dX9_layWays_87 : decode cX9_layWays 87 = .ok (.ifCond .lt 102, 3) := by decide +kernel
theorem dX9_layWays_90 : decode cX9_layWays 90 = .ok (.iload_n 1, 1) := by decide +kernel
theorem dX9_layWays_91 : decode cX9_layWays 91 = .ok (.ifCond .le 26, 3) := by decide +kernel
theorem dX9_layWays_94 : decode cX9_layWays 94 = .ok (.aload_n 0, 1) := by decide +kernel
theorem dX9_layWays_95 : decode cX9_layWays 95 = .ok (.getfield 22, 3) := by decide +kernel
theorem dX9_layWays_98 : decode cX9_layWays 98 = .ok (.iconst 4, 1) := by decide +kernel
theorem dX9_layWays_99 : decode cX9_layWays 99 = .ok (.iaload, 1) := by decide +kernel
theorem dX9_layWays_100 : decode cX9_layWays 100 = .ok (.aload_n 0, 1) := by decide +kernel
theorem dX9_layWays_101 : decode cX9_layWays 101 = .ok (.getfield 72, 3) := by decide +kernel
theorem dX9_layWays_104 : decode cX9_layWays 104 = .ok (.iload_n 1, 1) := by decide +kernel
theorem dX9_layWays_105 : decode cX9_layWays 105 = .ok (.iconst 1, 1) := by decide +kernel
theorem dX9_layWays_106 : decode cX9_layWays 106 = .ok (.isub, 1) := by decide +kernel
theorem dX9_layWays_107 : decode cX9_layWays 107 = .ok (.iaload, 1) := by decide +kernel
theorem dX9_layWays_108 : decode cX9_layWays 108 = .ok (.if_icmp .eq 9, 3) := by decide +kernel
theorem dX9_layWays_111 : decode cX9_layWays 111 = .ok (.iinc 1 (-1), 3) := by decide +kernel
theorem dX9_layWays_114 : decode cX9_layWays 114 = .ok (.goto 63, 3) := by decide +kernel
theorem dX9_layWays_117 : decode cX9_layWays 117 = .ok (.iload_n 1, 1) := by decide +kernel
theorem dX9_layWays_118 : decode cX9_layWays 118 = .ok (.aload_n 0, 1) := by decide +kernel
theorem dX9_layWays_119 : decode cX9_layWays 119 = .ok (.getfield 155, 3) := by decide +kernel
theorem dX9_layWays_122 : decode cX9_layWays 122 = .ok (.if_icmp .ne 49, 3) := by decide +kernel
theorem dX9_layWays_125 : decode cX9_layWays 125 = .ok (.aload_n 0, 1) := by decide +kernel
theorem dX9_layWays_126 : decode cX9_layWays 126 = .ok (.dup, 1) := by decide +kernel
theorem dX9_layWays_127 : decode cX9_layWays 127 = .ok (.getfield 289, 3) := by decide +kernel
theorem dX9_layWays_130 : decode cX9_layWays 130 = .ok (.iconst 1, 1) := by decide +kernel
theorem dX9_layWays_131 : decode cX9_layWays 131 = .ok (.iadd, 1) := by decide +kernel
theorem dX9_layWays_132 : decode cX9_layWays 132 = .ok (.putfield 289, 3) := by decide +kernel
theorem dX9_layWays_135 : decode cX9_layWays 135 = .ok (.aload_n 0, 1) := by decide +kernel
theorem dX9_layWays_136 : decode cX9_layWays 136 = .ok (.aload_n 0, 1) := by decide +kernel
theorem dX9_layWays_137 : decode cX9_layWays 137 = .ok (.getfield 25, 3) := by decide +kernel
theorem dX9_layWays_140 : decode cX9_layWays 140 = .ok (.iconst 4, 1) := by decide +kernel
theorem dX9_layWays_141 : decode cX9_layWays 141 = .ok (.iaload, 1) := by decide +kernel
theorem dX9_layWays_142 : decode cX9_layWays 142 = .ok (.aload_n 0, 1) := by decide +kernel
theorem dX9_layWays_143 : decode cX9_layWays 143 = .ok (.getfield 292, 3) := by decide +kernel
theorem dX9_layWays_146 : decode cX9_layWays 146 = .ok (.if_icmp .le 12, 3) := by decide +kernel
theorem dX9_layWays_149 : decode cX9_layWays 149 = .ok (.aload_n 0, 1) := by decide +kernel
theorem dX9_layWays_150 : decode cX9_layWays 150 = .ok (.getfield 25, 3) := by decide +kernel
theorem dX9_layWays_153 : decode cX9_layWays 153 = .ok (.iconst 4, 1) := by decide +kernel
theorem dX9_layWays_154 : decode cX9_layWays 154 = .ok (.iaload, 1) := by decide +kernel
theorem dX9_layWays_155 : decode cX9_layWays 155 = .ok (.goto 7, 3) := by decide +kernel
theorem dX9_layWays_158 : decode cX9_layWays 158 = .ok (.aload_n 0, 1) := by decide +kernel
theorem dX9_layWays_159 : decode cX9_layWays 159 = .ok (.getfield 292, 3) := by decide +kernel
theorem dX9_layWays_162 : decode cX9_layWays 162 = .ok (.putfield 292, 3) := by decide +kernel
theorem dX9_layWays_165 : decode cX9_layWays 165 = .ok (.iinc 1 (-1), 3) := by decide +kernel
theorem dX9_layWays_168 : decode cX9_layWays 168 = .ok (.goto 9, 3) := by decide +kernel
theorem dX9_layWays_171 : decode cX9_layWays 171 = .ok (.aload_n 0, 1) := by decide +kernel
theorem dX9_layWays_172 : decode cX9_layWays 172 = .ok (.iload_n 1, 1) := by decide +kernel
theorem dX9_layWays_173 : decode cX9_layWays 173 = .ok (.invokevirtual 295, 3) := by decide +kernel
theorem dX9_layWays_176 : decode cX9_layWays 176 = .ok (.istore_n 1, 1) := by decide +kernel
theorem dX9_layWays_177 : decode cX9_layWays 177 = .ok (.iload_n 1, 1) := by decide +kernel
theorem dX9_layWays_178 : decode cX9_layWays 178 = .ok (.ifCond .lt (-92), 3) := by decide +kernel
theorem dX9_layWays_181 : decode cX9_layWays 181 = .ok (.aload_n 0, 1) := by decide +kernel
theorem dX9_layWays_182 : decode cX9_layWays 182 = .ok (.iload_n 1, 1) := by decide +kernel
theorem dX9_layWays_183 : decode cX9_layWays 183 = .ok (.invokevirtual 249, 3) := by decide +kernel
theorem dX9_layWays_186 : decode cX9_layWays 186 = .ok (.goto (-100), 3) := by decide +kernel
theorem dX9_layWays_189 : decode cX9_layWays 189 = .ok (.return_, 1) := by decide +kernel
theorem dX9_tryRow_0 : decode cX9_tryRow 0 = .ok (.iconst 0, 1) := by decide +kernel
theorem dX9_tryRow_1 : decode cX9_tryRow 1 = .ok (.istore_n 2, 1) := by decide +kernel
theorem dX9_tryRow_2 : decode cX9_tryRow 2 = .ok (.aload_n 0, 1) := by decide +kernel
theorem dX9_tryRow_3 : decode cX9_tryRow 3 = .ok (.getfield 65, 3) := by decide +kernel
theorem dX9_tryRow_6 : decode cX9_tryRow 6 = .ok (.iload_n 1, 1) := by decide +kernel
theorem dX9_tryRow_7 : decode cX9_tryRow 7 = .ok (.iaload, 1) := by decide +kernel
theorem dX9_tryRow_8 : decode cX9_tryRow 8 = .ok (.bipush 12, 2) := by decide +kernel
theorem dX9_tryRow_10 : decode cX9_tryRow 10 = .ok (.if_icmp .ge 23, 3) := by decide +kernel
theorem dX9_tryRow_13 : decode cX9_tryRow 13 = .ok (.iload_n 2, 1) := by decide +kernel
theorem dX9_tryRow_14 : decode cX9_tryRow 14 = .ok (.ifCond .ne 19, 3) := by decide +kernel
theorem dX9_tryRow_17 : decode cX9_tryRow 17 = .ok (.aload_n 0, 1) := by decide +kernel
theorem dX9_tryRow_18 : decode cX9_tryRow 18 = .ok (.iload_n 1, 1) := by decide +kernel
theorem dX9_tryRow_19 : decode cX9_tryRow 19 = .ok (.aload_n 0, 1) := by decide +kernel
theorem dX9_tryRow_20 : decode cX9_tryRow 20 = .ok (.getfield 274, 3) := by decide +kernel
theorem dX9_tryRow_23 : decode cX9_tryRow 23 = .ok (.iload_n 1, 1) := by decide +kernel
theorem dX9_tryRow_24 : decode cX9_tryRow 24 = .ok (.iadd, 1) := by decide +kernel
theorem dX9_tryRow_25 : decode cX9_tryRow 25 = .ok (.iconst 1, 1) := by decide +kernel
theorem dX9_tryRow_26 : decode cX9_tryRow 26 = .ok (.invokevirtual 245, 3) := by decide +kernel
theorem dX9_tryRow_29 : decode cX9_tryRow 29 = .ok (.istore_n 2, 1) := by decide +kernel
theorem dX9_tryRow_30 : decode cX9_tryRow 30 = .ok (.goto (-28), 3) := by decide +kernel
theorem dX9_tryRow_33 : decode cX9_tryRow 33 = .ok (.iload_n 2, 1) := by decide +kernel
theorem dX9_tryRow_34 : decode cX9_tryRow 34 = .ok (.ifCond .eq 9, 3) := by decide +kernel
theorem dX9_tryRow_37 : decode cX9_tryRow 37 = .ok (.iload_n 1, 1) := by decide +kernel
theorem dX9_tryRow_38 : decode cX9_tryRow 38 = .ok (.iconst 1, 1) := by decide +kernel
theorem dX9_tryRow_39 : decode cX9_tryRow 39 = .ok (.iadd, 1) := by decide +kernel
theorem dX9_tryRow_40 : decode cX9_tryRow 40 = .ok (.goto 6, 3) := by decide +kernel
theorem dX9_tryRow_43 : decode cX9_tryRow 43 = .ok (.iload_n 1, 1) := by decide +kernel
theorem dX9_tryRow_44 : decode cX9_tryRow 44 = .ok (.iconst 1, 1) := by decide +kernel
theorem dX9_tryRow_45 : decode cX9_tryRow 45 = .ok (.isub, 1) := by decide +kernel
theorem dX9_tryRow_46 : decode cX9_tryRow 46 = .ok (.ireturn, 1) := by decide +kernel
theorem dX9_mayBook_0 : decode cX9_mayBook 0 = .ok (.aload_n 0, 1) := by decide +kernel
theorem dX9_mayBook_1 : decode cX9_mayBook 1 = .ok (.getfield 68, 3) := by decide +kernel
theorem dX9_mayBook_4 : decode cX9_mayBook 4 = .ok (.iconst (-1), 1) := by decide +kernel
theorem dX9_mayBook_5 : decode cX9_mayBook 5 = .ok (.if_icmp .eq 16, 3) := by decide +kernel
theorem dX9_mayBook_8 : decode cX9_mayBook 8 = .ok (.aload_n 0, 1) := by decide +kernel
theorem dX9_mayBook_9 : decode cX9_mayBook 9 = .ok (.getfield 298, 3) := by decide +kernel
theorem dX9_mayBook_12 : decode cX9_mayBook 12 = .ok (.bipush 40, 2) := by decide +kernel
theorem dX9_mayBook_14 : decode cX9_mayBook 14 = .ok (.if_icmp .ge 7, 3) := by decide +kernel
theorem dX9_mayBook_17 : decode cX9_mayBook 17 = .ok (.iconst 1, 1) := by decide +kernel
theorem dX9_mayBook_18 : decode cX9_mayBook 18 = .ok (.goto 4, 3) := by decide +kernel
theorem dX9_mayBook_21 : decode cX9_mayBook 21 = .ok (.iconst 0, 1) := by decide +kernel
theorem dX9_mayBook_22 : decode cX9_mayBook 22 = .ok (.ireturn, 1) := by decide +kernel
theorem dX9_ways_0 : decode cX9_ways 0 = .ok (.aload_n 0, 1) := by decide +kernel
theorem dX9_ways_1 : decode cX9_ways 1 = .ok (.invokevirtual 301, 3) := by decide +kernel
theorem dX9_ways_4 : decode cX9_ways 4 = .ok (.ifCond .ne 6, 3) := by decide +kernel
theorem dX9_ways_7 : decode cX9_ways 7 = .ok (.bipush (-103), 2) := by decide +kernel
theorem dX9_ways_9 : decode cX9_ways 9 = .ok (.ireturn, 1) := by decide +kernel
theorem dX9_ways_10 : decode cX9_ways 10 = .ok (.aload_n 0, 1) := by decide +kernel
theorem dX9_ways_11 : decode cX9_ways 11 = .ok (.dup, 1) := by decide +kernel
theorem dX9_ways_12 : decode cX9_ways 12 = .ok (.getfield 298, 3) := by decide +kernel
theorem dX9_ways_15 : decode cX9_ways 15 = .ok (.iconst 1, 1) := by decide +kernel
theorem dX9_ways_16 : decode cX9_ways 16 = .ok (.iadd, 1) := by decide +kernel
theorem dX9_ways_17 : decode cX9_ways 17 = .ok (.putfield 298, 3) := by decide +kernel
theorem dX9_ways_20 : decode cX9_ways 20 = .ok (.aload_n 0, 1) := by decide +kernel
theorem dX9_ways_21 : decode cX9_ways 21 = .ok (.invokevirtual 305, 3) := by decide +kernel
theorem dX9_ways_24 : decode cX9_ways 24 = .ok (.aload_n 0, 1) := by decide +kernel
theorem dX9_ways_25 : decode cX9_ways 25 = .ok (.getfield 289, 3) := by decide +kernel
theorem dX9_ways_28 : decode cX9_ways 28 = .ok (.ireturn, 1) := by decide +kernel
theorem dX9_owed_0 : decode cX9_owed 0 = .ok (.aload_n 0, 1) := by decide +kernel
theorem dX9_owed_1 : decode cX9_owed 1 = .ok (.invokevirtual 301, 3) := by decide +kernel
theorem dX9_owed_4 : decode cX9_owed 4 = .ok (.ifCond .ne 6, 3) := by decide +kernel
theorem dX9_owed_7 : decode cX9_owed 7 = .ok (.bipush (-103), 2) := by decide +kernel
theorem dX9_owed_9 : decode cX9_owed 9 = .ok (.ireturn, 1) := by decide +kernel
theorem dX9_owed_10 : decode cX9_owed 10 = .ok (.aload_n 0, 1) := by decide +kernel
theorem dX9_owed_11 : decode cX9_owed 11 = .ok (.dup, 1) := by decide +kernel
theorem dX9_owed_12 : decode cX9_owed 12 = .ok (.getfield 298, 3) := by decide +kernel
theorem dX9_owed_15 : decode cX9_owed 15 = .ok (.iconst 1, 1) := by decide +kernel
theorem dX9_owed_16 : decode cX9_owed 16 = .ok (.iadd, 1) := by decide +kernel
theorem dX9_owed_17 : decode cX9_owed 17 = .ok (.putfield 298, 3) := by decide +kernel
theorem dX9_owed_20 : decode cX9_owed 20 = .ok (.aload_n 0, 1) := by decide +kernel
theorem dX9_owed_21 : decode cX9_owed 21 = .ok (.invokevirtual 305, 3) := by decide +kernel
theorem dX9_owed_24 : decode cX9_owed 24 = .ok (.aload_n 0, 1) := by decide +kernel
theorem dX9_owed_25 : decode cX9_owed 25 = .ok (.getfield 292, 3) := by decide +kernel
theorem dX9_owed_28 : decode cX9_owed 28 = .ok (.ireturn, 1) := by decide +kernel
theorem dX9_save_0 : decode cX9_save 0 = .ok (.aload_n 0, 1) := by decide +kernel
theorem dX9_save_1 : decode cX9_save 1 = .ok (.aload_n 0, 1) := by decide +kernel
theorem dX9_save_2 : decode cX9_save 2 = .ok (.getfield 171, 3) := by decide +kernel
theorem dX9_save_5 : decode cX9_save 5 = .ok (.putfield 308, 3) := by decide +kernel
theorem dX9_save_8 : decode cX9_save 8 = .ok (.iconst 0, 1) := by decide +kernel
theorem dX9_save_9 : decode cX9_save 9 = .ok (.istore_n 1, 1) := by decide +kernel
theorem dX9_save_10 : decode cX9_save 10 = .ok (.iload_n 1, 1) := by decide +kernel
theorem dX9_save_11 : decode cX9_save 11 = .ok (.iconst 4, 1) := by decide +kernel
theorem dX9_save_12 : decode cX9_save 12 = .ok (.if_icmp .ge 57, 3) := by decide +kernel
theorem dX9_save_15 : decode cX9_save 15 = .ok (.aload_n 0, 1) := by decide +kernel
theorem dX9_save_16 : decode cX9_save 16 = .ok (.getfield 78, 3) := by decide +kernel
theorem dX9_save_19 : decode cX9_save 19 = .ok (.iload_n 1, 1) := by decide +kernel
theorem dX9_save_20 : decode cX9_save 20 = .ok (.aload_n 0, 1) := by decide +kernel
theorem dX9_save_21 : decode cX9_save 21 = .ok (.getfield 22, 3) := by decide +kernel
theorem dX9_save_24 : decode cX9_save 24 = .ok (.iload_n 1, 1) := by decide +kernel
theorem dX9_save_25 : decode cX9_save 25 = .ok (.iaload, 1) := by decide +kernel
theorem dX9_save_26 : decode cX9_save 26 = .ok (.iastore, 1) := by decide +kernel
theorem dX9_save_27 : decode cX9_save 27 = .ok (.aload_n 0, 1) := by decide +kernel
theorem dX9_save_28 : decode cX9_save 28 = .ok (.getfield 81, 3) := by decide +kernel
theorem dX9_save_31 : decode cX9_save 31 = .ok (.iload_n 1, 1) := by decide +kernel
theorem dX9_save_32 : decode cX9_save 32 = .ok (.aload_n 0, 1) := by decide +kernel
theorem dX9_save_33 : decode cX9_save 33 = .ok (.getfield 25, 3) := by decide +kernel
theorem dX9_save_36 : decode cX9_save 36 = .ok (.iload_n 1, 1) := by decide +kernel
theorem dX9_save_37 : decode cX9_save 37 = .ok (.iaload, 1) := by decide +kernel
theorem dX9_save_38 : decode cX9_save 38 = .ok (.iastore, 1) := by decide +kernel
theorem dX9_save_39 : decode cX9_save 39 = .ok (.aload_n 0, 1) := by decide +kernel
theorem dX9_save_40 : decode cX9_save 40 = .ok (.getfield 84, 3) := by decide +kernel
theorem dX9_save_43 : decode cX9_save 43 = .ok (.iload_n 1, 1) := by decide +kernel
theorem dX9_save_44 : decode cX9_save 44 = .ok (.aload_n 0, 1) := by decide +kernel
theorem dX9_save_45 : decode cX9_save 45 = .ok (.getfield 28, 3) := by decide +kernel
theorem dX9_save_48 : decode cX9_save 48 = .ok (.iload_n 1, 1) := by decide +kernel
theorem dX9_save_49 : decode cX9_save 49 = .ok (.iaload, 1) := by decide +kernel
theorem dX9_save_50 : decode cX9_save 50 = .ok (.iastore, 1) := by decide +kernel
theorem dX9_save_51 : decode cX9_save 51 = .ok (.aload_n 0, 1) := by decide +kernel
theorem dX9_save_52 : decode cX9_save 52 = .ok (.getfield 87, 3) := by decide +kernel
theorem dX9_save_55 : decode cX9_save 55 = .ok (.iload_n 1, 1) := by decide +kernel
theorem dX9_save_56 : decode cX9_save 56 = .ok (.aload_n 0, 1) := by decide +kernel
theorem dX9_save_57 : decode cX9_save 57 = .ok (.getfield 34, 3) := by decide +kernel
theorem dX9_save_60 : decode cX9_save 60 = .ok (.iload_n 1, 1) := by decide +kernel
theorem dX9_save_61 : decode cX9_save 61 = .ok (.iaload, 1) := by decide +kernel
theorem dX9_save_62 : decode cX9_save 62 = .ok (.iastore, 1) := by decide +kernel
theorem dX9_save_63 : decode cX9_save 63 = .ok (.iinc 1 1, 3) := by decide +kernel
theorem dX9_save_66 : decode cX9_save 66 = .ok (.goto (-56), 3) := by decide +kernel
theorem dX9_save_69 : decode cX9_save 69 = .ok (.iconst 0, 1) := by decide +kernel
theorem dX9_save_70 : decode cX9_save 70 = .ok (.istore_n 1, 1) := by decide +kernel
theorem dX9_save_71 : decode cX9_save 71 = .ok (.iload_n 1, 1) := by decide +kernel
theorem dX9_save_72 : decode cX9_save 72 = .ok (.bipush 48, 2) := by decide +kernel
theorem dX9_save_74 : decode cX9_save 74 = .ok (.if_icmp .ge 21, 3) := by decide +kernel
theorem dX9_save_77 : decode cX9_save 77 = .ok (.aload_n 0, 1) := by decide +kernel
theorem dX9_save_78 : decode cX9_save 78 = .ok (.getfield 90, 3) := by decide +kernel
theorem dX9_save_81 : decode cX9_save 81 = .ok (.iload_n 1, 1) := by decide +kernel
theorem dX9_save_82 : decode cX9_save 82 = .ok (.aload_n 0, 1) := by decide +kernel
theorem dX9_save_83 : decode cX9_save 83 = .ok (.getfield 37, 3) := by decide +kernel
theorem dX9_save_86 : decode cX9_save 86 = .ok (.iload_n 1, 1) := by decide +kernel
theorem dX9_save_87 : decode cX9_save 87 = .ok (.iaload, 1) := by decide +kernel
theorem dX9_save_88 : decode cX9_save 88 = .ok (.iastore, 1) := by decide +kernel
theorem dX9_save_89 : decode cX9_save 89 = .ok (.iinc 1 1, 3) := by decide +kernel
theorem dX9_save_92 : decode cX9_save 92 = .ok (.goto (-21), 3) := by decide +kernel
theorem dX9_save_95 : decode cX9_save 95 = .ok (.return_, 1) := by decide +kernel
theorem dX9_back_0 : decode cX9_back 0 = .ok (.aload_n 0, 1) := by decide +kernel
theorem dX9_back_1 : decode cX9_back 1 = .ok (.aload_n 0, 1) := by decide +kernel
theorem dX9_back_2 : decode cX9_back 2 = .ok (.getfield 308, 3) := by decide +kernel
theorem dX9_back_5 : decode cX9_back 5 = .ok (.putfield 171, 3) := by decide +kernel
theorem dX9_back_8 : decode cX9_back 8 = .ok (.iconst 0, 1) := by decide +kernel
theorem dX9_back_9 : decode cX9_back 9 = .ok (.istore_n 1, 1) := by decide +kernel
theorem dX9_back_10 : decode cX9_back 10 = .ok (.iload_n 1, 1) := by decide +kernel
theorem dX9_back_11 : decode cX9_back 11 = .ok (.iconst 4, 1) := by decide +kernel
theorem dX9_back_12 : decode cX9_back 12 = .ok (.if_icmp .ge 57, 3) := by decide +kernel
theorem dX9_back_15 : decode cX9_back 15 = .ok (.aload_n 0, 1) := by decide +kernel
theorem dX9_back_16 : decode cX9_back 16 = .ok (.getfield 22, 3) := by decide +kernel
theorem dX9_back_19 : decode cX9_back 19 = .ok (.iload_n 1, 1) := by decide +kernel
theorem dX9_back_20 : decode cX9_back 20 = .ok (.aload_n 0, 1) := by decide +kernel
theorem dX9_back_21 : decode cX9_back 21 = .ok (.getfield 78, 3) := by decide +kernel
theorem dX9_back_24 : decode cX9_back 24 = .ok (.iload_n 1, 1) := by decide +kernel
theorem dX9_back_25 : decode cX9_back 25 = .ok (.iaload, 1) := by decide +kernel
theorem dX9_back_26 : decode cX9_back 26 = .ok (.iastore, 1) := by decide +kernel
theorem dX9_back_27 : decode cX9_back 27 = .ok (.aload_n 0, 1) := by decide +kernel
theorem dX9_back_28 : decode cX9_back 28 = .ok (.getfield 25, 3) := by decide +kernel
theorem dX9_back_31 : decode cX9_back 31 = .ok (.iload_n 1, 1) := by decide +kernel
theorem dX9_back_32 : decode cX9_back 32 = .ok (.aload_n 0, 1) := by decide +kernel
theorem dX9_back_33 : decode cX9_back 33 = .ok (.getfield 81, 3) := by decide +kernel
theorem dX9_back_36 : decode cX9_back 36 = .ok (.iload_n 1, 1) := by decide +kernel
theorem dX9_back_37 : decode cX9_back 37 = .ok (.iaload, 1) := by decide +kernel
theorem dX9_back_38 : decode cX9_back 38 = .ok (.iastore, 1) := by decide +kernel
theorem dX9_back_39 : decode cX9_back 39 = .ok (.aload_n 0, 1) := by decide +kernel
theorem dX9_back_40 : decode cX9_back 40 = .ok (.getfield 28, 3) := by decide +kernel
theorem dX9_back_43 : decode cX9_back 43 = .ok (.iload_n 1, 1) := by decide +kernel
theorem dX9_back_44 : decode cX9_back 44 = .ok (.aload_n 0, 1) := by decide +kernel
theorem dX9_back_45 : decode cX9_back 45 = .ok (.getfield 84, 3) := by decide +kernel
theorem dX9_back_48 : decode cX9_back 48 = .ok (.iload_n 1, 1) := by decide +kernel
theorem dX9_back_49 : decode cX9_back 49 = .ok (.iaload, 1) := by decide +kernel
theorem dX9_back_50 : decode cX9_back 50 = .ok (.iastore, 1) := by decide +kernel
theorem dX9_back_51 : decode cX9_back 51 = .ok (.aload_n 0, 1) := by decide +kernel
theorem dX9_back_52 : decode cX9_back 52 = .ok (.getfield 34, 3) := by decide +kernel
theorem dX9_back_55 : decode cX9_back 55 = .ok (.iload_n 1, 1) := by decide +kernel
theorem dX9_back_56 : decode cX9_back 56 = .ok (.aload_n 0, 1) := by decide +kernel
theorem dX9_back_57 : decode cX9_back 57 = .ok (.getfield 87, 3) := by decide +kernel
theorem dX9_back_60 : decode cX9_back 60 = .ok (.iload_n 1, 1) := by decide +kernel
theorem dX9_back_61 : decode cX9_back 61 = .ok (.iaload, 1) := by decide +kernel
theorem dX9_back_62 : decode cX9_back 62 = .ok (.iastore, 1) := by decide +kernel
theorem dX9_back_63 : decode cX9_back 63 = .ok (.iinc 1 1, 3) := by decide +kernel
theorem dX9_back_66 : decode cX9_back 66 = .ok (.goto (-56), 3) := by decide +kernel
theorem dX9_back_69 : decode cX9_back 69 = .ok (.iconst 0, 1) := by decide +kernel
theorem dX9_back_70 : decode cX9_back 70 = .ok (.istore_n 1, 1) := by decide +kernel
theorem dX9_back_71 : decode cX9_back 71 = .ok (.iload_n 1, 1) := by decide +kernel
theorem dX9_back_72 : decode cX9_back 72 = .ok (.bipush 48, 2) := by decide +kernel
theorem dX9_back_74 : decode cX9_back 74 = .ok (.if_icmp .ge 21, 3) := by decide +kernel
theorem dX9_back_77 : decode cX9_back 77 = .ok (.aload_n 0, 1) := by decide +kernel
theorem dX9_back_78 : decode cX9_back 78 = .ok (.getfield 37, 3) := by decide +kernel
theorem dX9_back_81 : decode cX9_back 81 = .ok (.iload_n 1, 1) := by decide +kernel
theorem dX9_back_82 : decode cX9_back 82 = .ok (.aload_n 0, 1) := by decide +kernel
theorem dX9_back_83 : decode cX9_back 83 = .ok (.getfield 90, 3) := by decide +kernel
theorem dX9_back_86 : decode cX9_back 86 = .ok (.iload_n 1, 1) := by decide +kernel
theorem dX9_back_87 : decode cX9_back 87 = .ok (.iaload, 1) := by decide +kernel
theorem dX9_back_88 : decode cX9_back 88 = .ok (.iastore, 1) := by decide +kernel
theorem dX9_back_89 : decode cX9_back 89 = .ok (.iinc 1 1, 3) := by decide +kernel
theorem dX9_back_92 : decode cX9_back 92 = .ok (.goto (-21), 3) := by decide +kernel
theorem dX9_back_95 : decode cX9_back 95 = .ok (.return_, 1) := by decide +kernel
theorem dX9_draw_0 : decode cX9_draw 0 = .ok (.aload_n 0, 1) := by decide +kernel
theorem dX9_draw_1 : decode cX9_draw 1 = .ok (.ldc2_w 311, 3) := by decide +kernel
theorem dX9_draw_4 : decode cX9_draw 4 = .ok (.aload_n 0, 1) := by decide +kernel
theorem dX9_draw_5 : decode cX9_draw 5 = .ok (.getfield 313, 3) := by decide +kernel
theorem dX9_draw_8 : decode cX9_draw 8 = .ok (.lmul, 1) := by decide +kernel
theorem dX9_draw_9 : decode cX9_draw 9 = .ok (.ldc2_w 317, 3) := by decide +kernel
theorem dX9_draw_12 : decode cX9_draw 12 = .ok (.ladd, 1) := by decide +kernel
theorem dX9_draw_13 : decode cX9_draw 13 = .ok (.ldc2_w 319, 3) := by decide +kernel
theorem dX9_draw_16 : decode cX9_draw 16 = .ok (.land, 1) := by decide +kernel
theorem dX9_draw_17 : decode cX9_draw 17 = .ok (.putfield 313, 3) := by decide +kernel
theorem dX9_draw_20 : decode cX9_draw 20 = .ok (.aload_n 0, 1) := by decide +kernel
theorem dX9_draw_21 : decode cX9_draw 21 = .ok (.getfield 313, 3) := by decide +kernel
theorem dX9_draw_24 : decode cX9_draw 24 = .ok (.ldc2_w 321, 3) := by decide +kernel
theorem dX9_draw_27 : decode cX9_draw 27 = .ok (.ldiv, 1) := by decide +kernel
theorem dX9_draw_28 : decode cX9_draw 28 = .ok (.iload_n 1, 1) := by decide +kernel
theorem dX9_draw_29 : decode cX9_draw 29 = .ok (.i2l, 1) := by decide +kernel
theorem dX9_draw_30 : decode cX9_draw 30 = .ok (.lrem, 1) := by decide +kernel
theorem dX9_draw_31 : decode cX9_draw 31 = .ok (.l2i, 1) := by decide +kernel
theorem dX9_draw_32 : decode cX9_draw 32 = .ok (.ireturn, 1) := by decide +kernel
theorem dX9_gotAll_0 : decode cX9_gotAll 0 = .ok (.iconst 0, 1) := by decide +kernel
theorem dX9_gotAll_1 : decode cX9_gotAll 1 = .ok (.istore_n 1, 1) := by decide +kernel
theorem dX9_gotAll_2 : decode cX9_gotAll 2 = .ok (.iconst 0, 1) := by decide +kernel
theorem dX9_gotAll_3 : decode cX9_gotAll 3 = .ok (.istore_n 2, 1) := by decide +kernel
theorem dX9_gotAll_4 : decode cX9_gotAll 4 = .ok (.iload_n 2, 1) := by decide +kernel
theorem dX9_gotAll_5 : decode cX9_gotAll 5 = .ok (.aload_n 0, 1) := by decide +kernel
theorem dX9_gotAll_6 : decode cX9_gotAll 6 = .ok (.getfield 168, 3) := by decide +kernel
theorem dX9_gotAll_9 : decode cX9_gotAll 9 = .ok (.if_icmp .ge 18, 3) := by decide +kernel
theorem dX9_gotAll_12 : decode cX9_gotAll 12 = .ok (.iload_n 1, 1) := by decide +kernel
theorem dX9_gotAll_13 : decode cX9_gotAll 13 = .ok (.aload_n 0, 1) := by decide +kernel
theorem dX9_gotAll_14 : decode cX9_gotAll 14 = .ok (.getfield 22, 3) := by decide +kernel
theorem dX9_gotAll_17 : decode cX9_gotAll 17 = .ok (.iload_n 2, 1) := by decide +kernel
theorem dX9_gotAll_18 : decode cX9_gotAll 18 = .ok (.iaload, 1) := by decide +kernel
theorem dX9_gotAll_19 : decode cX9_gotAll 19 = .ok (.iadd, 1) := by decide +kernel
theorem dX9_gotAll_20 : decode cX9_gotAll 20 = .ok (.istore_n 1, 1) := by decide +kernel
theorem dX9_gotAll_21 : decode cX9_gotAll 21 = .ok (.iinc 2 1, 3) := by decide +kernel
theorem dX9_gotAll_24 : decode cX9_gotAll 24 = .ok (.goto (-20), 3) := by decide +kernel
theorem dX9_gotAll_27 : decode cX9_gotAll 27 = .ok (.iload_n 1, 1) := by decide +kernel
theorem dX9_gotAll_28 : decode cX9_gotAll 28 = .ok (.ireturn, 1) := by decide +kernel
theorem dX9_yearsNow_0 : decode cX9_yearsNow 0 = .ok (.aload_n 0, 1) := by decide +kernel
theorem dX9_yearsNow_1 : decode cX9_yearsNow 1 = .ok (.invokevirtual 323, 3) := by decide +kernel
theorem dX9_yearsNow_4 : decode cX9_yearsNow 4 = .ok (.aload_n 0, 1) := by decide +kernel
theorem dX9_yearsNow_5 : decode cX9_yearsNow 5 = .ok (.iload_n 2, 1) := by decide +kernel
theorem dX9_yearsNow_6 : decode cX9_yearsNow 6 = .ok (.i2l, 1) := by decide +kernel
theorem dX9_yearsNow_7 : decode cX9_yearsNow 7 = .ok (.putfield 313, 3) := by decide +kernel
theorem dX9_yearsNow_10 : decode cX9_yearsNow 10 = .ok (.iconst 0, 1) := by decide +kernel
theorem dX9_yearsNow_11 : decode cX9_yearsNow 11 = .ok (.istore 4, 2) := by decide +kernel
theorem dX9_yearsNow_13 : decode cX9_yearsNow 13 = .ok (.iconst 0, 1) := by decide +kernel
theorem dX9_yearsNow_14 : decode cX9_yearsNow 14 = .ok (.istore 5, 2) := by decide +kernel
theorem dX9_yearsNow_16 : decode cX9_yearsNow 16 = .ok (.iload 5, 2) := by decide +kernel
theorem dX9_yearsNow_18 : decode cX9_yearsNow 18 = .ok (.iload_n 1, 1) := by decide +kernel
theorem dX9_yearsNow_19 : decode cX9_yearsNow 19 = .ok (.if_icmp .ge 114, 3) := by decide +kernel
theorem dX9_yearsNow_22 : decode cX9_yearsNow 22 = .ok (.iconst 0, 1) := by decide +kernel
theorem dX9_yearsNow_23 : decode cX9_yearsNow 23 = .ok (.istore 6, 2) := by decide +kernel
theorem dX9_yearsNow_25 : decode cX9_yearsNow 25 = .ok (.iload 6, 2) := by decide +kernel
theorem dX9_yearsNow_27 : decode cX9_yearsNow 27 = .ok (.aload_n 0, 1) := by decide +kernel
theorem dX9_yearsNow_28 : decode cX9_yearsNow 28 = .ok (.getfield 168, 3) := by decide +kernel
theorem dX9_yearsNow_31 : decode cX9_yearsNow 31 = .ok (.if_icmp .ge 92, 3) := by decide +kernel
theorem dX9_yearsNow_34 : decode cX9_yearsNow 34 = .ok (.aload_n 0, 1) := by decide +kernel
theorem dX9_yearsNow_35 : decode cX9_yearsNow 35 = .ok (.getfield 31, 3) := by decide +kernel
theorem dX9_yearsNow_38 : decode cX9_yearsNow 38 = .ok (.iload 6, 2) := by decide +kernel
theorem dX9_yearsNow_40 : decode cX9_yearsNow 40 = .ok (.iaload, 1) := by decide +kernel
theorem dX9_yearsNow_41 : decode cX9_yearsNow 41 = .ok (.iconst 1, 1) := by decide +kernel
theorem dX9_yearsNow_42 : decode cX9_yearsNow 42 = .ok (.if_icmp .ne 8, 3) := by decide +kernel
theorem dX9_yearsNow_45 : decode cX9_yearsNow 45 = .ok (.bipush 9, 2) := by decide +kernel
theorem dX9_yearsNow_47 : decode cX9_yearsNow 47 = .ok (.goto 13, 3) := by decide +kernel
theorem dX9_yearsNow_50 : decode cX9_yearsNow 50 = .ok (.aload_n 0, 1) := by decide +kernel
theorem dX9_yearsNow_51 : decode cX9_yearsNow 51 = .ok (.bipush 12, 2) := by decide +kernel
theorem dX9_yearsNow_53 : decode cX9_yearsNow 53 = .ok (.invokevirtual 326, 3) := by decide +kernel
theorem dX9_yearsNow_56 : decode cX9_yearsNow 56 = .ok (.iconst 1, 1) := by decide +kernel
theorem dX9_yearsNow_57 : decode cX9_yearsNow 57 = .ok (.invokestatic 241, 3) := by decide +kernel
theorem dX9_yearsNow_60 : decode cX9_yearsNow 60 = .ok (.istore 7, 2) := by decide +kernel
theorem dX9_yearsNow_62 : decode cX9_yearsNow 62 = .ok (.iload 7, 2) := by decide +kernel
theorem dX9_yearsNow_64 : decode cX9_yearsNow 64 = .ok (.bipush 9, 2) := by decide +kernel
theorem dX9_yearsNow_66 : decode cX9_yearsNow 66 = .ok (.if_icmp .eq 51, 3) := by decide +kernel
theorem dX9_yearsNow_69 : decode cX9_yearsNow 69 = .ok (.aload_n 0, 1) := by decide +kernel
theorem dX9_yearsNow_70 : decode cX9_yearsNow 70 = .ok (.iload 6, 2) := by decide +kernel
theorem dX9_yearsNow_72 : decode cX9_yearsNow 72 = .ok (.iload 7, 2) := by decide +kernel
theorem dX9_yearsNow_74 : decode cX9_yearsNow 74 = .ok (.invokevirtual 215, 3) := by decide +kernel
theorem dX9_yearsNow_77 : decode cX9_yearsNow 77 = .ok (.ifCond .eq 40, 3) := by decide +kernel
theorem dX9_yearsNow_80 : decode cX9_yearsNow 80 = .ok (.aload_n 0, 1) := by decide +kernel
theorem dX9_yearsNow_81 : decode cX9_yearsNow 81 = .ok (.iload 6, 2) := by decide +kernel
theorem dX9_yearsNow_83 : decode cX9_yearsNow 83 = .ok (.iload 7, 2) := by decide +kernel
theorem dX9_yearsNow_85 : decode cX9_yearsNow 85 = .ok (.aload_n 0, 1) := by decide +kernel
theorem dX9_yearsNow_86 : decode cX9_yearsNow 86 = .ok (.getfield 171, 3) := by decide +kernel
theorem dX9_yearsNow_89 : decode cX9_yearsNow 89 = .ok (.invokevirtual 218, 3) := by decide +kernel
theorem dX9_yearsNow_92 : decode cX9_yearsNow 92 = .ok (.aload_n 0, 1) := by decide +kernel
theorem dX9_yearsNow_93 : decode cX9_yearsNow 93 = .ok (.getfield 28, 3) := by decide +kernel
theorem dX9_yearsNow_96 : decode cX9_yearsNow 96 = .ok (.iload 6, 2) := by decide +kernel
theorem dX9_yearsNow_98 : decode cX9_yearsNow 98 = .ok (.iconst 1, 1) := by decide +kernel
theorem dX9_yearsNow_99 : decode cX9_yearsNow 99 = .ok (.iastore, 1) := by decide +kernel
theorem dX9_yearsNow_100 : decode cX9_yearsNow 100 = .ok (.iload 4, 2) := by decide +kernel
theorem dX9_yearsNow_102 : decode cX9_yearsNow 102 = .ok (.iload 7, 2) := by decide +kernel
theorem dX9_yearsNow_104 : decode cX9_yearsNow 104 = .ok (.bipush 10, 2) := by decide +kernel
theorem dX9_yearsNow_106 : decode cX9_yearsNow 106 = .ok (.if_icmp .lt 7, 3) := by decide +kernel
theorem dX9_yearsNow_109 : decode cX9_yearsNow 109 = .ok (.iconst 1, 1) := by decide +kernel
theorem dX9_yearsNow_110 : decode cX9_yearsNow 110 = .ok (.goto 4, 3) := by decide +kernel
theorem dX9_yearsNow_113 : decode cX9_yearsNow 113 = .ok (.iconst 0, 1) := by decide +kernel
theorem dX9_yearsNow_114 : decode cX9_yearsNow 114 = .ok (.iadd, 1) := by decide +kernel
theorem dX9_yearsNow_115 : decode cX9_yearsNow 115 = .ok (.istore 4, 2) := by decide +kernel
theorem dX9_yearsNow_117 : decode cX9_yearsNow 117 = .ok (.iinc 6 1, 3) := by decide +kernel
theorem dX9_yearsNow_120 : decode cX9_yearsNow 120 = .ok (.goto (-95), 3) := by decide +kernel
theorem dX9_yearsNow_123 : decode cX9_yearsNow 123 = .ok (.aload_n 0, 1) := by decide +kernel
theorem dX9_yearsNow_124 : decode cX9_yearsNow 124 = .ok (.invokevirtual 221, 3) := by decide +kernel
theorem dX9_yearsNow_127 : decode cX9_yearsNow 127 = .ok (.iinc 5 1, 3) := by decide +kernel
theorem dX9_yearsNow_130 : decode cX9_yearsNow 130 = .ok (.goto (-114), 3) := by decide +kernel
theorem dX9_yearsNow_133 : decode cX9_yearsNow 133 = .ok (.iload_n 3, 1) := by decide +kernel
theorem dX9_yearsNow_134 : decode cX9_yearsNow 134 = .ok (.ifCond .ne 10, 3) := by decide +kernel
theorem dX9_yearsNow_137 : decode cX9_yearsNow 137 = .ok (.aload_n 0, 1) := by decide +kernel
theorem dX9_yearsNow_138 : decode cX9_yearsNow 138 = .ok (.invokevirtual 329, 3) := by decide +kernel
theorem dX9_yearsNow_141 : decode cX9_yearsNow 141 = .ok (.goto 30, 3) := by decide +kernel
theorem dX9_yearsNow_144 : decode cX9_yearsNow 144 = .ok (.iload_n 3, 1) := by decide +kernel
theorem dX9_yearsNow_145 : decode cX9_yearsNow 145 = .ok (.iconst 1, 1) := by decide +kernel
theorem dX9_yearsNow_146 : decode cX9_yearsNow 146 = .ok (.if_icmp .ne 10, 3) := by decide +kernel
theorem dX9_yearsNow_149 : decode cX9_yearsNow 149 = .ok (.aload_n 0, 1) := by decide +kernel
theorem dX9_yearsNow_150 : decode cX9_yearsNow 150 = .ok (.invokevirtual 224, 3) := by decide +kernel
theorem dX9_yearsNow_153 : decode cX9_yearsNow 153 = .ok (.goto 18, 3) := by decide +kernel
theorem dX9_yearsNow_156 : decode cX9_yearsNow 156 = .ok (.iload_n 3, 1) := by decide +kernel
theorem dX9_yearsNow_157 : decode cX9_yearsNow 157 = .ok (.iconst 2, 1) := by decide +kernel
theorem dX9_yearsNow_158 : decode cX9_yearsNow 158 = .ok (.if_icmp .ne 8, 3) := by decide +kernel
theorem dX9_yearsNow_161 : decode cX9_yearsNow 161 = .ok (.iload 4, 2) := by decide +kernel
theorem dX9_yearsNow_163 : decode cX9_yearsNow 163 = .ok (.goto 8, 3) := by decide +kernel
theorem dX9_yearsNow_166 : decode cX9_yearsNow 166 = .ok (.aload_n 0, 1) := by decide +kernel
theorem dX9_yearsNow_167 : decode cX9_yearsNow 167 = .ok (.getfield 313, 3) := by decide +kernel
theorem dX9_yearsNow_170 : decode cX9_yearsNow 170 = .ok (.l2i, 1) := by decide +kernel
theorem dX9_yearsNow_171 : decode cX9_yearsNow 171 = .ok (.istore 5, 2) := by decide +kernel
theorem dX9_yearsNow_173 : decode cX9_yearsNow 173 = .ok (.aload_n 0, 1) := by decide +kernel
theorem dX9_yearsNow_174 : decode cX9_yearsNow 174 = .ok (.invokevirtual 332, 3) := by decide +kernel
theorem dX9_yearsNow_177 : decode cX9_yearsNow 177 = .ok (.iload 5, 2) := by decide +kernel
theorem dX9_yearsNow_179 : decode cX9_yearsNow 179 = .ok (.ireturn, 1) := by decide +kernel
theorem dX9_years_0 : decode cX9_years 0 = .ok (.iload_n 1, 1) := by decide +kernel
theorem dX9_years_1 : decode cX9_years 1 = .ok (.iconst 1, 1) := by decide +kernel
theorem dX9_years_2 : decode cX9_years 2 = .ok (.bipush 60, 2) := by decide +kernel
theorem dX9_years_4 : decode cX9_years 4 = .ok (.invokestatic 111, 3) := by decide +kernel
theorem dX9_years_7 : decode cX9_years 7 = .ok (.ifCond .eq 16, 3) := by decide +kernel
theorem dX9_years_10 : decode cX9_years 10 = .ok (.iload_n 2, 1) := by decide +kernel
theorem dX9_years_11 : decode cX9_years 11 = .ok (.ifCond .lt 12, 3) := by decide +kernel
theorem dX9_years_14 : decode cX9_years 14 = .ok (.iload_n 3, 1) := by decide +kernel
theorem dX9_years_15 : decode cX9_years 15 = .ok (.iconst 0, 1) := by decide +kernel
theorem dX9_years_16 : decode cX9_years 16 = .ok (.iconst 3, 1) := by decide +kernel
theorem dX9_years_17 : decode cX9_years 17 = .ok (.invokestatic 111, 3) := by decide +kernel
theorem dX9_years_20 : decode cX9_years 20 = .ok (.ifCond .ne 6, 3) := by decide +kernel
theorem dX9_years_23 : decode cX9_years 23 = .ok (.bipush (-102), 2) := by decide +kernel
theorem dX9_years_25 : decode cX9_years 25 = .ok (.ireturn, 1) := by decide +kernel
theorem dX9_years_26 : decode cX9_years 26 = .ok (.aload_n 0, 1) := by decide +kernel
theorem dX9_years_27 : decode cX9_years 27 = .ok (.getfield 149, 3) := by decide +kernel
theorem dX9_years_30 : decode cX9_years 30 = .ok (.ifCond .eq 13, 3) := by decide +kernel
theorem dX9_years_33 : decode cX9_years 33 = .ok (.aload_n 0, 1) := by decide +kernel
theorem dX9_years_34 : decode cX9_years 34 = .ok (.iload_n 1, 1) := by decide +kernel
theorem dX9_years_35 : decode cX9_years 35 = .ok (.iload_n 2, 1) := by decide +kernel
theorem dX9_years_36 : decode cX9_years 36 = .ok (.iload_n 3, 1) := by decide +kernel
theorem dX9_years_37 : decode cX9_years 37 = .ok (.invokevirtual 335, 3) := by decide +kernel
theorem dX9_years_40 : decode cX9_years 40 = .ok (.goto 5, 3) := by decide +kernel
theorem dX9_years_43 : decode cX9_years 43 = .ok (.bipush (-103), 2) := by decide +kernel
theorem dX9_years_45 : decode cX9_years 45 = .ok (.ireturn, 1) := by decide +kernel
theorem dX9_image_0 : decode cX9_image 0 = .ok (.aload_n 0, 1) := by decide +kernel
theorem dX9_image_1 : decode cX9_image 1 = .ok (.iconst 1, 1) := by decide +kernel
theorem dX9_image_2 : decode cX9_image 2 = .ok (.putfield 338, 3) := by decide +kernel
theorem dX9_image_5 : decode cX9_image 5 = .ok (.aload_n 0, 1) := by decide +kernel
theorem dX9_image_6 : decode cX9_image 6 = .ok (.aload_n 0, 1) := by decide +kernel
theorem dX9_image_7 : decode cX9_image 7 = .ok (.getfield 171, 3) := by decide +kernel
theorem dX9_image_10 : decode cX9_image 10 = .ok (.putfield 341, 3) := by decide +kernel
theorem dX9_image_13 : decode cX9_image 13 = .ok (.aload_n 0, 1) := by decide +kernel
theorem dX9_image_14 : decode cX9_image 14 = .ok (.aload_n 0, 1) := by decide +kernel
theorem dX9_image_15 : decode cX9_image 15 = .ok (.getfield 168, 3) := by decide +kernel
theorem dX9_image_18 : decode cX9_image 18 = .ok (.putfield 344, 3) := by decide +kernel
theorem dX9_image_21 : decode cX9_image 21 = .ok (.iconst 0, 1) := by decide +kernel
theorem dX9_image_22 : decode cX9_image 22 = .ok (.istore_n 1, 1) := by decide +kernel
theorem dX9_image_23 : decode cX9_image 23 = .ok (.iload_n 1, 1) := by decide +kernel
theorem dX9_image_24 : decode cX9_image 24 = .ok (.iconst 4, 1) := by decide +kernel
theorem dX9_image_25 : decode cX9_image 25 = .ok (.if_icmp .ge 69, 3) := by decide +kernel
theorem dX9_image_28 : decode cX9_image 28 = .ok (.aload_n 0, 1) := by decide +kernel
theorem dX9_image_29 : decode cX9_image 29 = .ok (.getfield 93, 3) := by decide +kernel
theorem dX9_image_32 : decode cX9_image 32 = .ok (.iload_n 1, 1) := by decide +kernel
theorem dX9_image_33 : decode cX9_image 33 = .ok (.aload_n 0, 1) := by decide +kernel
theorem dX9_image_34 : decode cX9_image 34 = .ok (.getfield 22, 3) := by decide +kernel
theorem dX9_image_37 : decode cX9_image 37 = .ok (.iload_n 1, 1) := by decide +kernel
theorem dX9_image_38 : decode cX9_image 38 = .ok (.iaload, 1) := by decide +kernel
theorem dX9_image_39 : decode cX9_image 39 = .ok (.iastore, 1) := by decide +kernel
theorem dX9_image_40 : decode cX9_image 40 = .ok (.aload_n 0, 1) := by decide +kernel
theorem dX9_image_41 : decode cX9_image 41 = .ok (.getfield 96, 3) := by decide +kernel
theorem dX9_image_44 : decode cX9_image 44 = .ok (.iload_n 1, 1) := by decide +kernel
theorem dX9_image_45 : decode cX9_image 45 = .ok (.aload_n 0, 1) := by decide +kernel
theorem dX9_image_46 : decode cX9_image 46 = .ok (.getfield 25, 3) := by decide +kernel
theorem dX9_image_49 : decode cX9_image 49 = .ok (.iload_n 1, 1) := by decide +kernel
theorem dX9_image_50 : decode cX9_image 50 = .ok (.iaload, 1) := by decide +kernel
theorem dX9_image_51 : decode cX9_image 51 = .ok (.iastore, 1) := by decide +kernel
theorem dX9_image_52 : decode cX9_image 52 = .ok (.aload_n 0, 1) := by decide +kernel
theorem dX9_image_53 : decode cX9_image 53 = .ok (.getfield 99, 3) := by decide +kernel
theorem dX9_image_56 : decode cX9_image 56 = .ok (.iload_n 1, 1) := by decide +kernel
theorem dX9_image_57 : decode cX9_image 57 = .ok (.aload_n 0, 1) := by decide +kernel
theorem dX9_image_58 : decode cX9_image 58 = .ok (.getfield 28, 3) := by decide +kernel
theorem dX9_image_61 : decode cX9_image 61 = .ok (.iload_n 1, 1) := by decide +kernel
theorem dX9_image_62 : decode cX9_image 62 = .ok (.iaload, 1) := by decide +kernel
theorem dX9_image_63 : decode cX9_image 63 = .ok (.iastore, 1) := by decide +kernel
theorem dX9_image_64 : decode cX9_image 64 = .ok (.aload_n 0, 1) := by decide +kernel
theorem dX9_image_65 : decode cX9_image 65 = .ok (.getfield 102, 3) := by decide +kernel
theorem dX9_image_68 : decode cX9_image 68 = .ok (.iload_n 1, 1) := by decide +kernel
theorem dX9_image_69 : decode cX9_image 69 = .ok (.aload_n 0, 1) := by decide +kernel
theorem dX9_image_70 : decode cX9_image 70 = .ok (.getfield 31, 3) := by decide +kernel
theorem dX9_image_73 : decode cX9_image 73 = .ok (.iload_n 1, 1) := by decide +kernel
theorem dX9_image_74 : decode cX9_image 74 = .ok (.iaload, 1) := by decide +kernel
theorem dX9_image_75 : decode cX9_image 75 = .ok (.iastore, 1) := by decide +kernel
theorem dX9_image_76 : decode cX9_image 76 = .ok (.aload_n 0, 1) := by decide +kernel
theorem dX9_image_77 : decode cX9_image 77 = .ok (.getfield 105, 3) := by decide +kernel
theorem dX9_image_80 : decode cX9_image 80 = .ok (.iload_n 1, 1) := by decide +kernel
theorem dX9_image_81 : decode cX9_image 81 = .ok (.aload_n 0, 1) := by decide +kernel
theorem dX9_image_82 : decode cX9_image 82 = .ok (.getfield 34, 3) := by decide +kernel
theorem dX9_image_85 : decode cX9_image 85 = .ok (.iload_n 1, 1) := by decide +kernel
theorem dX9_image_86 : decode cX9_image 86 = .ok (.iaload, 1) := by decide +kernel
theorem dX9_image_87 : decode cX9_image 87 = .ok (.iastore, 1) := by decide +kernel
theorem dX9_image_88 : decode cX9_image 88 = .ok (.iinc 1 1, 3) := by decide +kernel
theorem dX9_image_91 : decode cX9_image 91 = .ok (.goto (-68), 3) := by decide +kernel
theorem dX9_image_94 : decode cX9_image 94 = .ok (.iconst 0, 1) := by decide +kernel
theorem dX9_image_95 : decode cX9_image 95 = .ok (.istore_n 1, 1) := by decide +kernel
theorem dX9_image_96 : decode cX9_image 96 = .ok (.iload_n 1, 1) := by decide +kernel
theorem dX9_image_97 : decode cX9_image 97 = .ok (.bipush 48, 2) := by decide +kernel
theorem dX9_image_99 : decode cX9_image 99 = .ok (.if_icmp .ge 21, 3) := by decide +kernel
theorem dX9_image_102 : decode cX9_image 102 = .ok (.aload_n 0, 1) := by decide +kernel
theorem dX9_image_103 : decode cX9_image 103 = .ok (.getfield 108, 3) := by decide +kernel
theorem dX9_image_106 : decode cX9_image 106 = .ok (.iload_n 1, 1) := by decide +kernel
theorem dX9_image_107 : decode cX9_image 107 = .ok (.aload_n 0, 1) := by decide +kernel
theorem dX9_image_108 : decode cX9_image 108 = .ok (.getfield 37, 3) := by decide +kernel
theorem dX9_image_111 : decode cX9_image 111 = .ok (.iload_n 1, 1) := by decide +kernel
theorem dX9_image_112 : decode cX9_image 112 = .ok (.iaload, 1) := by decide +kernel
theorem dX9_image_113 : decode cX9_image 113 = .ok (.iastore, 1) := by decide +kernel
theorem dX9_image_114 : decode cX9_image 114 = .ok (.iinc 1 1, 3) := by decide +kernel
theorem dX9_image_117 : decode cX9_image 117 = .ok (.goto (-21), 3) := by decide +kernel
theorem dX9_image_120 : decode cX9_image 120 = .ok (.aload_n 0, 1) := by decide +kernel
theorem dX9_image_121 : decode cX9_image 121 = .ok (.getfield 171, 3) := by decide +kernel
theorem dX9_image_124 : decode cX9_image 124 = .ok (.ireturn, 1) := by decide +kernel
theorem dX9_restore_0 : decode cX9_restore 0 = .ok (.aload_n 0, 1) := by decide +kernel
theorem dX9_restore_1 : decode cX9_restore 1 = .ok (.getfield 338, 3) := by decide +kernel
theorem dX9_restore_4 : decode cX9_restore 4 = .ok (.ifCond .ne 6, 3) := by decide +kernel
theorem dX9_restore_7 : decode cX9_restore 7 = .ok (.bipush (-103), 2) := by decide +kernel
theorem dX9_restore_9 : decode cX9_restore 9 = .ok (.ireturn, 1) := by decide +kernel
theorem dX9_restore_10 : decode cX9_restore 10 = .ok (.aload_n 0, 1) := by decide +kernel
theorem dX9_restore_11 : decode cX9_restore 11 = .ok (.aload_n 0, 1) := by decide +kernel
theorem dX9_restore_12 : decode cX9_restore 12 = .ok (.getfield 341, 3) := by decide +kernel
theorem dX9_restore_15 : decode cX9_restore 15 = .ok (.putfield 171, 3) := by decide +kernel
theorem dX9_restore_18 : decode cX9_restore 18 = .ok (.aload_n 0, 1) := by decide +kernel
theorem dX9_restore_19 : decode cX9_restore 19 = .ok (.aload_n 0, 1) := by decide +kernel
theorem dX9_restore_20 : decode cX9_restore 20 = .ok (.getfield 344, 3) := by decide +kernel
theorem dX9_restore_23 : decode cX9_restore 23 = .ok (.putfield 168, 3) := by decide +kernel
theorem dX9_restore_26 : decode cX9_restore 26 = .ok (.aload_n 0, 1) := by decide +kernel
theorem dX9_restore_27 : decode cX9_restore 27 = .ok (.iconst (-1), 1) := by decide +kernel
theorem dX9_restore_28 : decode cX9_restore 28 = .ok (.putfield 68, 3) := by decide +kernel
end
section
theorem dX9_restore_31 : decode cX9_restore 31 = .ok (.aload_n 0, 1) := by decide +kernel
theorem dX9_restore_32 : decode cX9_restore 32 = .ok (.iconst 0, 1) := by decide +kernel
theorem dX9_restore_33 : decode cX9_restore 33 = .ok (.putfield 155, 3) := by decide +kernel
theorem dX9_restore_36 : decode cX9_restore 36 = .ok (.iconst 0, 1) := by decide +kernel
theorem dX9_restore_37 : decode cX9_restore 37 = .ok (.istore_n 1, 1) := by decide +kernel
theorem dX9_restore_38 : decode cX9_restore 38 = .ok (.iload_n 1, 1) := by decide +kernel
theorem dX9_restore_39 : decode cX9_restore 39 = .ok (.iconst 4, 1) := by decide +kernel
theorem dX9_restore_40 : decode cX9_restore 40 = .ok (.if_icmp .ge 69, 3) := by decide +kernel
theorem dX9_restore_43 : decode cX9_restore 43 = .ok (.aload_n 0, 1) := by decide +kernel
theorem dX9_restore_44 : decode cX9_restore 44 = .ok (.getfield 22, 3) := by decide +kernel
theorem dX9_restore_47 : decode cX9_restore 47 = .ok (.iload_n 1, 1) := by decide +kernel
theorem dX9_restore_48 : decode cX9_restore 48 = .ok (.aload_n 0, 1) := by decide +kernel
theorem dX9_restore_49 : decode cX9_restore 49 = .ok (.getfield 93, 3) := by decide +kernel
theorem dX9_restore_52 : decode cX9_restore 52 = .ok (.iload_n 1, 1) := by decide +kernel
theorem dX9_restore_53 : decode cX9_restore 53 = .ok (.iaload, 1) := by decide +kernel
theorem dX9_restore_54 : decode cX9_restore 54 = .ok (.iastore, 1) := by decide +kernel
theorem dX9_restore_55 : decode cX9_restore 55 = .ok (.aload_n 0, 1) := by decide +kernel
theorem dX9_restore_56 : decode cX9_restore 56 = .ok (.getfield 25, 3) := by decide +kernel
theorem dX9_restore_59 : decode cX9_restore 59 = .ok (.iload_n 1, 1) := by decide +kernel
theorem dX9_restore_60 : decode cX9_restore 60 = .ok (.aload_n 0, 1) := by decide +kernel
theorem dX9_restore_61 : decode cX9_restore 61 = .ok (.getfield 96, 3) := by decide +kernel
theorem dX9_restore_64 : decode cX9_restore 64 = .ok (.iload_n 1, 1) := by decide +kernel
theorem dX9_restore_65 : decode cX9_restore 65 = .ok (.iaload, 1) := by decide +kernel
theorem dX9_restore_66 : decode cX9_restore 66 = .ok (.iastore, 1) := by decide +kernel
theorem dX9_restore_67 : decode cX9_restore 67 = .ok (.aload_n 0, 1) := by decide +kernel
theorem dX9_restore_68 : decode cX9_restore 68 = .ok (.getfield 28, 3) := by decide +kernel
theorem dX9_restore_71 : decode cX9_restore 71 = .ok (.iload_n 1, 1) := by decide +kernel
theorem dX9_restore_72 : decode cX9_restore 72 = .ok (.aload_n 0, 1) := by decide +kernel
theorem dX9_restore_73 : decode cX9_restore 73 = .ok (.getfield 99, 3) := by decide +kernel
theorem dX9_restore_76 : decode cX9_restore 76 = .ok (.iload_n 1, 1) := by decide +kernel
theorem dX9_restore_77 : decode cX9_restore 77 = .ok (.iaload, 1) := by decide +kernel
theorem dX9_restore_78 : decode cX9_restore 78 = .ok (.iastore, 1) := by decide +kernel
theorem dX9_restore_79 : decode cX9_restore 79 = .ok (.aload_n 0, 1) := by decide +kernel
theorem dX9_restore_80 : decode cX9_restore 80 = .ok (.getfield 31, 3) := by decide +kernel
theorem dX9_restore_83 : decode cX9_restore 83 = .ok (.iload_n 1, 1) := by decide +kernel
theorem dX9_restore_84 : decode cX9_restore 84 = .ok (.aload_n 0, 1) := by decide +kernel
theorem dX9_restore_85 : decode cX9_restore 85 = .ok (.getfield 102, 3) := by decide +kernel
theorem dX9_restore_88 : decode cX9_restore 88 = .ok (.iload_n 1, 1) := by decide +kernel
theorem dX9_restore_89 : decode cX9_restore 89 = .ok (.iaload, 1) := by decide +kernel
theorem dX9_restore_90 : decode cX9_restore 90 = .ok (.iastore, 1) := by decide +kernel
theorem dX9_restore_91 : decode cX9_restore 91 = .ok (.aload_n 0, 1) := by decide +kernel
theorem dX9_restore_92 : decode cX9_restore 92 = .ok (.getfield 34, 3) := by decide +kernel
theorem dX9_restore_95 : decode cX9_restore 95 = .ok (.iload_n 1, 1) := by decide +kernel
theorem dX9_restore_96 : decode cX9_restore 96 = .ok (.aload_n 0, 1) := by decide +kernel
theorem dX9_restore_97 : decode cX9_restore 97 = .ok (.getfield 105, 3) := by decide +kernel
theorem dX9_restore_100 : decode cX9_restore 100 = .ok (.iload_n 1, 1) := by decide +kernel
theorem dX9_restore_101 : decode cX9_restore 101 = .ok (.iaload, 1) := by decide +kernel
theorem dX9_restore_102 : decode cX9_restore 102 = .ok (.iastore, 1) := by decide +kernel
theorem dX9_restore_103 : decode cX9_restore 103 = .ok (.iinc 1 1, 3) := by decide +kernel
theorem dX9_restore_106 : decode cX9_restore 106 = .ok (.goto (-68), 3) := by decide +kernel
theorem dX9_restore_109 : decode cX9_restore 109 = .ok (.iconst 0, 1) := by decide +kernel
theorem dX9_restore_110 : decode cX9_restore 110 = .ok (.istore_n 1, 1) := by decide +kernel
theorem dX9_restore_111 : decode cX9_restore 111 = .ok (.iload_n 1, 1) := by decide +kernel
theorem dX9_restore_112 : decode cX9_restore 112 = .ok (.bipush 48, 2) := by decide +kernel
theorem dX9_restore_114 : decode cX9_restore 114 = .ok (.if_icmp .ge 21, 3) := by decide +kernel
theorem dX9_restore_117 : decode cX9_restore 117 = .ok (.aload_n 0, 1) := by decide +kernel
theorem dX9_restore_118 : decode cX9_restore 118 = .ok (.getfield 37, 3) := by decide +kernel
theorem dX9_restore_121 : decode cX9_restore 121 = .ok (.iload_n 1, 1) := by decide +kernel
theorem dX9_restore_122 : decode cX9_restore 122 = .ok (.aload_n 0, 1) := by decide +kernel
theorem dX9_restore_123 : decode cX9_restore 123 = .ok (.getfield 108, 3) := by decide +kernel
theorem dX9_restore_126 : decode cX9_restore 126 = .ok (.iload_n 1, 1) := by decide +kernel
theorem dX9_restore_127 : decode cX9_restore 127 = .ok (.iaload, 1) := by decide +kernel
theorem dX9_restore_128 : decode cX9_restore 128 = .ok (.iastore, 1) := by decide +kernel
theorem dX9_restore_129 : decode cX9_restore 129 = .ok (.iinc 1 1, 3) := by decide +kernel
theorem dX9_restore_132 : decode cX9_restore 132 = .ok (.goto (-21), 3) := by decide +kernel
theorem dX9_restore_135 : decode cX9_restore 135 = .ok (.aload_n 0, 1) := by decide +kernel
theorem dX9_restore_136 : decode cX9_restore 136 = .ok (.invokevirtual 158, 3) := by decide +kernel
theorem dX9_restore_139 : decode cX9_restore 139 = .ok (.aload_n 0, 1) := by decide +kernel
theorem dX9_restore_140 : decode cX9_restore 140 = .ok (.getfield 171, 3) := by decide +kernel
theorem dX9_restore_143 : decode cX9_restore 143 = .ok (.ireturn, 1) := by decide +kernel
theorem dX9_goneMany_0 : decode cX9_goneMany 0 = .ok (.iconst 0, 1) := by decide +kernel
theorem dX9_goneMany_1 : decode cX9_goneMany 1 = .ok (.istore_n 1, 1) := by decide +kernel
theorem dX9_goneMany_2 : decode cX9_goneMany 2 = .ok (.iconst 0, 1) := by decide +kernel
theorem dX9_goneMany_3 : decode cX9_goneMany 3 = .ok (.istore_n 2, 1) := by decide +kernel
theorem dX9_goneMany_4 : decode cX9_goneMany 4 = .ok (.iload_n 2, 1) := by decide +kernel
theorem dX9_goneMany_5 : decode cX9_goneMany 5 = .ok (.aload_n 0, 1) := by decide +kernel
theorem dX9_goneMany_6 : decode cX9_goneMany 6 = .ok (.getfield 168, 3) := by decide +kernel
theorem dX9_goneMany_9 : decode cX9_goneMany 9 = .ok (.if_icmp .ge 18, 3) := by decide +kernel
theorem dX9_goneMany_12 : decode cX9_goneMany 12 = .ok (.iload_n 1, 1) := by decide +kernel
theorem dX9_goneMany_13 : decode cX9_goneMany 13 = .ok (.aload_n 0, 1) := by decide +kernel
theorem dX9_goneMany_14 : decode cX9_goneMany 14 = .ok (.getfield 31, 3) := by decide +kernel
theorem dX9_goneMany_17 : decode cX9_goneMany 17 = .ok (.iload_n 2, 1) := by decide +kernel
theorem dX9_goneMany_18 : decode cX9_goneMany 18 = .ok (.iaload, 1) := by decide +kernel
theorem dX9_goneMany_19 : decode cX9_goneMany 19 = .ok (.iadd, 1) := by decide +kernel
theorem dX9_goneMany_20 : decode cX9_goneMany 20 = .ok (.istore_n 1, 1) := by decide +kernel
theorem dX9_goneMany_21 : decode cX9_goneMany 21 = .ok (.iinc 2 1, 3) := by decide +kernel
theorem dX9_goneMany_24 : decode cX9_goneMany 24 = .ok (.goto (-20), 3) := by decide +kernel
theorem dX9_goneMany_27 : decode cX9_goneMany 27 = .ok (.iload_n 1, 1) := by decide +kernel
theorem dX9_goneMany_28 : decode cX9_goneMany 28 = .ok (.ireturn, 1) := by decide +kernel
theorem dX9_creditsAll_0 : decode cX9_creditsAll 0 = .ok (.iconst 0, 1) := by decide +kernel
theorem dX9_creditsAll_1 : decode cX9_creditsAll 1 = .ok (.istore_n 1, 1) := by decide +kernel
theorem dX9_creditsAll_2 : decode cX9_creditsAll 2 = .ok (.iconst 0, 1) := by decide +kernel
theorem dX9_creditsAll_3 : decode cX9_creditsAll 3 = .ok (.istore_n 2, 1) := by decide +kernel
theorem dX9_creditsAll_4 : decode cX9_creditsAll 4 = .ok (.iload_n 2, 1) := by decide +kernel
theorem dX9_creditsAll_5 : decode cX9_creditsAll 5 = .ok (.aload_n 0, 1) := by decide +kernel
theorem dX9_creditsAll_6 : decode cX9_creditsAll 6 = .ok (.getfield 168, 3) := by decide +kernel
theorem dX9_creditsAll_9 : decode cX9_creditsAll 9 = .ok (.if_icmp .ge 18, 3) := by decide +kernel
theorem dX9_creditsAll_12 : decode cX9_creditsAll 12 = .ok (.iload_n 1, 1) := by decide +kernel
theorem dX9_creditsAll_13 : decode cX9_creditsAll 13 = .ok (.aload_n 0, 1) := by decide +kernel
theorem dX9_creditsAll_14 : decode cX9_creditsAll 14 = .ok (.getfield 34, 3) := by decide +kernel
theorem dX9_creditsAll_17 : decode cX9_creditsAll 17 = .ok (.iload_n 2, 1) := by decide +kernel
theorem dX9_creditsAll_18 : decode cX9_creditsAll 18 = .ok (.iaload, 1) := by decide +kernel
theorem dX9_creditsAll_19 : decode cX9_creditsAll 19 = .ok (.iadd, 1) := by decide +kernel
theorem dX9_creditsAll_20 : decode cX9_creditsAll 20 = .ok (.istore_n 1, 1) := by decide +kernel
theorem dX9_creditsAll_21 : decode cX9_creditsAll 21 = .ok (.iinc 2 1, 3) := by decide +kernel
theorem dX9_creditsAll_24 : decode cX9_creditsAll 24 = .ok (.goto (-20), 3) := by decide +kernel
theorem dX9_creditsAll_27 : decode cX9_creditsAll 27 = .ok (.iload_n 1, 1) := by decide +kernel
theorem dX9_creditsAll_28 : decode cX9_creditsAll 28 = .ok (.ireturn, 1) := by decide +kernel
theorem dX9_howMany_0 : decode cX9_howMany 0 = .ok (.iload_n 1, 1) := by decide +kernel
theorem dX9_howMany_1 : decode cX9_howMany 1 = .ok (.tableswitch 123 0 11 #[63, 68, 73, 78, 83, 88, 93, 98, 103, 108, 113, 118], 63) := by decide +kernel
theorem dX9_howMany_64 : decode cX9_howMany 64 = .ok (.aload_n 0, 1) := by decide +kernel
theorem dX9_howMany_65 : decode cX9_howMany 65 = .ok (.getfield 146, 3) := by decide +kernel
theorem dX9_howMany_68 : decode cX9_howMany 68 = .ok (.ireturn, 1) := by decide +kernel
theorem dX9_howMany_69 : decode cX9_howMany 69 = .ok (.aload_n 0, 1) := by decide +kernel
theorem dX9_howMany_70 : decode cX9_howMany 70 = .ok (.getfield 168, 3) := by decide +kernel
theorem dX9_howMany_73 : decode cX9_howMany 73 = .ok (.ireturn, 1) := by decide +kernel
theorem dX9_howMany_74 : decode cX9_howMany 74 = .ok (.aload_n 0, 1) := by decide +kernel
theorem dX9_howMany_75 : decode cX9_howMany 75 = .ok (.invokevirtual 347, 3) := by decide +kernel
theorem dX9_howMany_78 : decode cX9_howMany 78 = .ok (.ireturn, 1) := by decide +kernel
theorem dX9_howMany_79 : decode cX9_howMany 79 = .ok (.aload_n 0, 1) := by decide +kernel
theorem dX9_howMany_80 : decode cX9_howMany 80 = .ok (.getfield 171, 3) := by decide +kernel
theorem dX9_howMany_83 : decode cX9_howMany 83 = .ok (.ireturn, 1) := by decide +kernel
theorem dX9_howMany_84 : decode cX9_howMany 84 = .ok (.aload_n 0, 1) := by decide +kernel
theorem dX9_howMany_85 : decode cX9_howMany 85 = .ok (.invokevirtual 224, 3) := by decide +kernel
theorem dX9_howMany_88 : decode cX9_howMany 88 = .ok (.ireturn, 1) := by decide +kernel
theorem dX9_howMany_89 : decode cX9_howMany 89 = .ok (.aload_n 0, 1) := by decide +kernel
theorem dX9_howMany_90 : decode cX9_howMany 90 = .ok (.invokevirtual 329, 3) := by decide +kernel
theorem dX9_howMany_93 : decode cX9_howMany 93 = .ok (.ireturn, 1) := by decide +kernel
theorem dX9_howMany_94 : decode cX9_howMany 94 = .ok (.aload_n 0, 1) := by decide +kernel
theorem dX9_howMany_95 : decode cX9_howMany 95 = .ok (.invokevirtual 350, 3) := by decide +kernel
theorem dX9_howMany_98 : decode cX9_howMany 98 = .ok (.ireturn, 1) := by decide +kernel
theorem dX9_howMany_99 : decode cX9_howMany 99 = .ok (.aload_n 0, 1) := by decide +kernel
theorem dX9_howMany_100 : decode cX9_howMany 100 = .ok (.getfield 155, 3) := by decide +kernel
theorem dX9_howMany_103 : decode cX9_howMany 103 = .ok (.ireturn, 1) := by decide +kernel
theorem dX9_howMany_104 : decode cX9_howMany 104 = .ok (.aload_n 0, 1) := by decide +kernel
theorem dX9_howMany_105 : decode cX9_howMany 105 = .ok (.getfield 115, 3) := by decide +kernel
theorem dX9_howMany_108 : decode cX9_howMany 108 = .ok (.ireturn, 1) := by decide +kernel
theorem dX9_howMany_109 : decode cX9_howMany 109 = .ok (.aload_n 0, 1) := by decide +kernel
theorem dX9_howMany_110 : decode cX9_howMany 110 = .ok (.getfield 152, 3) := by decide +kernel
theorem dX9_howMany_113 : decode cX9_howMany 113 = .ok (.ireturn, 1) := by decide +kernel
theorem dX9_howMany_114 : decode cX9_howMany 114 = .ok (.aload_n 0, 1) := by decide +kernel
theorem dX9_howMany_115 : decode cX9_howMany 115 = .ok (.getfield 252, 3) := by decide +kernel
theorem dX9_howMany_118 : decode cX9_howMany 118 = .ok (.ireturn, 1) := by decide +kernel
theorem dX9_howMany_119 : decode cX9_howMany 119 = .ok (.aload_n 0, 1) := by decide +kernel
theorem dX9_howMany_120 : decode cX9_howMany 120 = .ok (.getfield 298, 3) := by decide +kernel
theorem dX9_howMany_123 : decode cX9_howMany 123 = .ok (.ireturn, 1) := by decide +kernel
theorem dX9_howMany_124 : decode cX9_howMany 124 = .ok (.bipush (-102), 2) := by decide +kernel
theorem dX9_howMany_126 : decode cX9_howMany 126 = .ok (.ireturn, 1) := by decide +kernel
theorem dX9_count_0 : decode cX9_count 0 = .ok (.aload_n 0, 1) := by decide +kernel
theorem dX9_count_1 : decode cX9_count 1 = .ok (.iload_n 1, 1) := by decide +kernel
theorem dX9_count_2 : decode cX9_count 2 = .ok (.invokevirtual 353, 3) := by decide +kernel
theorem dX9_count_5 : decode cX9_count 5 = .ok (.ireturn, 1) := by decide +kernel
theorem dX9_mix_0 : decode cX9_mix 0 = .ok (.aload_n 0, 1) := by decide +kernel
theorem dX9_mix_1 : decode cX9_mix 1 = .ok (.ldc2_w 356, 3) := by decide +kernel
theorem dX9_mix_4 : decode cX9_mix 4 = .ok (.aload_n 0, 1) := by decide +kernel
theorem dX9_mix_5 : decode cX9_mix 5 = .ok (.getfield 358, 3) := by decide +kernel
theorem dX9_mix_8 : decode cX9_mix 8 = .ok (.lmul, 1) := by decide +kernel
theorem dX9_mix_9 : decode cX9_mix 9 = .ok (.lload_n 1, 1) := by decide +kernel
theorem dX9_mix_10 : decode cX9_mix 10 = .ok (.ladd, 1) := by decide +kernel
theorem dX9_mix_11 : decode cX9_mix 11 = .ok (.putfield 358, 3) := by decide +kernel
theorem dX9_mix_14 : decode cX9_mix 14 = .ok (.return_, 1) := by decide +kernel
theorem dX9_digest_0 : decode cX9_digest 0 = .ok (.aload_n 0, 1) := by decide +kernel
theorem dX9_digest_1 : decode cX9_digest 1 = .ok (.ldc2_w 361, 3) := by decide +kernel
theorem dX9_digest_4 : decode cX9_digest 4 = .ok (.putfield 358, 3) := by decide +kernel
theorem dX9_digest_7 : decode cX9_digest 7 = .ok (.iconst 0, 1) := by decide +kernel
theorem dX9_digest_8 : decode cX9_digest 8 = .ok (.istore_n 1, 1) := by decide +kernel
theorem dX9_digest_9 : decode cX9_digest 9 = .ok (.iload_n 1, 1) := by decide +kernel
theorem dX9_digest_10 : decode cX9_digest 10 = .ok (.iconst 4, 1) := by decide +kernel
theorem dX9_digest_11 : decode cX9_digest 11 = .ok (.if_icmp .ge 50, 3) := by decide +kernel
theorem dX9_digest_14 : decode cX9_digest 14 = .ok (.aload_n 0, 1) := by decide +kernel
theorem dX9_digest_15 : decode cX9_digest 15 = .ok (.getfield 149, 3) := by decide +kernel
theorem dX9_digest_18 : decode cX9_digest 18 = .ok (.ifCond .eq 43, 3) := by decide +kernel
theorem dX9_digest_21 : decode cX9_digest 21 = .ok (.iconst 0, 1) := by decide +kernel
theorem dX9_digest_22 : decode cX9_digest 22 = .ok (.istore_n 2, 1) := by decide +kernel
theorem dX9_digest_23 : decode cX9_digest 23 = .ok (.iload_n 2, 1) := by decide +kernel
theorem dX9_digest_24 : decode cX9_digest 24 = .ok (.iconst 3, 1) := by decide +kernel
theorem dX9_digest_25 : decode cX9_digest 25 = .ok (.if_icmp .ge 20, 3) := by decide +kernel
theorem dX9_digest_28 : decode cX9_digest 28 = .ok (.aload_n 0, 1) := by decide +kernel
theorem dX9_digest_29 : decode cX9_digest 29 = .ok (.aload_n 0, 1) := by decide +kernel
theorem dX9_digest_30 : decode cX9_digest 30 = .ok (.iload_n 1, 1) := by decide +kernel
theorem dX9_digest_31 : decode cX9_digest 31 = .ok (.iload_n 2, 1) := by decide +kernel
theorem dX9_digest_32 : decode cX9_digest 32 = .ok (.invokevirtual 165, 3) := by decide +kernel
theorem dX9_digest_35 : decode cX9_digest 35 = .ok (.i2l, 1) := by decide +kernel
theorem dX9_digest_36 : decode cX9_digest 36 = .ok (.invokevirtual 363, 3) := by decide +kernel
theorem dX9_digest_39 : decode cX9_digest 39 = .ok (.iinc 2 1, 3) := by decide +kernel
theorem dX9_digest_42 : decode cX9_digest 42 = .ok (.goto (-19), 3) := by decide +kernel
theorem dX9_digest_45 : decode cX9_digest 45 = .ok (.aload_n 0, 1) := by decide +kernel
theorem dX9_digest_46 : decode cX9_digest 46 = .ok (.aload_n 0, 1) := by decide +kernel
theorem dX9_digest_47 : decode cX9_digest 47 = .ok (.iload_n 1, 1) := by decide +kernel
theorem dX9_digest_48 : decode cX9_digest 48 = .ok (.invokevirtual 270, 3) := by decide +kernel
theorem dX9_digest_51 : decode cX9_digest 51 = .ok (.i2l, 1) := by decide +kernel
theorem dX9_digest_52 : decode cX9_digest 52 = .ok (.invokevirtual 363, 3) := by decide +kernel
theorem dX9_digest_55 : decode cX9_digest 55 = .ok (.iinc 1 1, 3) := by decide +kernel
theorem dX9_digest_58 : decode cX9_digest 58 = .ok (.goto (-49), 3) := by decide +kernel
theorem dX9_digest_61 : decode cX9_digest 61 = .ok (.iconst 0, 1) := by decide +kernel
theorem dX9_digest_62 : decode cX9_digest 62 = .ok (.istore_n 1, 1) := by decide +kernel
theorem dX9_digest_63 : decode cX9_digest 63 = .ok (.iload_n 1, 1) := by decide +kernel
theorem dX9_digest_64 : decode cX9_digest 64 = .ok (.aload_n 0, 1) := by decide +kernel
theorem dX9_digest_65 : decode cX9_digest 65 = .ok (.getfield 168, 3) := by decide +kernel
theorem dX9_digest_68 : decode cX9_digest 68 = .ok (.if_icmp .ge 67, 3) := by decide +kernel
theorem dX9_digest_71 : decode cX9_digest 71 = .ok (.iconst 0, 1) := by decide +kernel
theorem dX9_digest_72 : decode cX9_digest 72 = .ok (.istore_n 2, 1) := by decide +kernel
theorem dX9_digest_73 : decode cX9_digest 73 = .ok (.iload_n 2, 1) := by decide +kernel
theorem dX9_digest_74 : decode cX9_digest 74 = .ok (.bipush 10, 2) := by decide +kernel
theorem dX9_digest_76 : decode cX9_digest 76 = .ok (.if_icmp .ge 20, 3) := by decide +kernel
theorem dX9_digest_79 : decode cX9_digest 79 = .ok (.aload_n 0, 1) := by decide +kernel
theorem dX9_digest_80 : decode cX9_digest 80 = .ok (.aload_n 0, 1) := by decide +kernel
theorem dX9_digest_81 : decode cX9_digest 81 = .ok (.iload_n 1, 1) := by decide +kernel
theorem dX9_digest_82 : decode cX9_digest 82 = .ok (.iload_n 2, 1) := by decide +kernel
theorem dX9_digest_83 : decode cX9_digest 83 = .ok (.invokevirtual 184, 3) := by decide +kernel
theorem dX9_digest_86 : decode cX9_digest 86 = .ok (.i2l, 1) := by decide +kernel
theorem dX9_digest_87 : decode cX9_digest 87 = .ok (.invokevirtual 363, 3) := by decide +kernel
theorem dX9_digest_90 : decode cX9_digest 90 = .ok (.iinc 2 1, 3) := by decide +kernel
theorem dX9_digest_93 : decode cX9_digest 93 = .ok (.goto (-20), 3) := by decide +kernel
theorem dX9_digest_96 : decode cX9_digest 96 = .ok (.iconst 0, 1) := by decide +kernel
theorem dX9_digest_97 : decode cX9_digest 97 = .ok (.istore_n 2, 1) := by decide +kernel
theorem dX9_digest_98 : decode cX9_digest 98 = .ok (.iload_n 2, 1) := by decide +kernel
theorem dX9_digest_99 : decode cX9_digest 99 = .ok (.iconst 4, 1) := by decide +kernel
theorem dX9_digest_100 : decode cX9_digest 100 = .ok (.if_icmp .ge 29, 3) := by decide +kernel
theorem dX9_digest_103 : decode cX9_digest 103 = .ok (.aload_n 0, 1) := by decide +kernel
theorem dX9_digest_104 : decode cX9_digest 104 = .ok (.getfield 31, 3) := by decide +kernel
theorem dX9_digest_107 : decode cX9_digest 107 = .ok (.iload_n 1, 1) := by decide +kernel
theorem dX9_digest_108 : decode cX9_digest 108 = .ok (.iaload, 1) := by decide +kernel
theorem dX9_digest_109 : decode cX9_digest 109 = .ok (.ifCond .ne 20, 3) := by decide +kernel
theorem dX9_digest_112 : decode cX9_digest 112 = .ok (.aload_n 0, 1) := by decide +kernel
theorem dX9_digest_113 : decode cX9_digest 113 = .ok (.aload_n 0, 1) := by decide +kernel
theorem dX9_digest_114 : decode cX9_digest 114 = .ok (.iload_n 1, 1) := by decide +kernel
theorem dX9_digest_115 : decode cX9_digest 115 = .ok (.iload_n 2, 1) := by decide +kernel
theorem dX9_digest_116 : decode cX9_digest 116 = .ok (.invokevirtual 264, 3) := by decide +kernel
theorem dX9_digest_119 : decode cX9_digest 119 = .ok (.i2l, 1) := by decide +kernel
theorem dX9_digest_120 : decode cX9_digest 120 = .ok (.invokevirtual 363, 3) := by decide +kernel
theorem dX9_digest_123 : decode cX9_digest 123 = .ok (.iinc 2 1, 3) := by decide +kernel
theorem dX9_digest_126 : decode cX9_digest 126 = .ok (.goto (-28), 3) := by decide +kernel
theorem dX9_digest_129 : decode cX9_digest 129 = .ok (.iinc 1 1, 3) := by decide +kernel
theorem dX9_digest_132 : decode cX9_digest 132 = .ok (.goto (-69), 3) := by decide +kernel
theorem dX9_digest_135 : decode cX9_digest 135 = .ok (.iconst 0, 1) := by decide +kernel
theorem dX9_digest_136 : decode cX9_digest 136 = .ok (.istore_n 1, 1) := by decide +kernel
theorem dX9_digest_137 : decode cX9_digest 137 = .ok (.iload_n 1, 1) := by decide +kernel
theorem dX9_digest_138 : decode cX9_digest 138 = .ok (.aload_n 0, 1) := by decide +kernel
theorem dX9_digest_139 : decode cX9_digest 139 = .ok (.getfield 115, 3) := by decide +kernel
theorem dX9_digest_142 : decode cX9_digest 142 = .ok (.if_icmp .ge 20, 3) := by decide +kernel
theorem dX9_digest_145 : decode cX9_digest 145 = .ok (.aload_n 0, 1) := by decide +kernel
theorem dX9_digest_146 : decode cX9_digest 146 = .ok (.aload_n 0, 1) := by decide +kernel
theorem dX9_digest_147 : decode cX9_digest 147 = .ok (.getfield 40, 3) := by decide +kernel
theorem dX9_digest_150 : decode cX9_digest 150 = .ok (.iload_n 1, 1) := by decide +kernel
theorem dX9_digest_151 : decode cX9_digest 151 = .ok (.baload, 1) := by decide +kernel
theorem dX9_digest_152 : decode cX9_digest 152 = .ok (.i2l, 1) := by decide +kernel
theorem dX9_digest_153 : decode cX9_digest 153 = .ok (.invokevirtual 363, 3) := by decide +kernel
theorem dX9_digest_156 : decode cX9_digest 156 = .ok (.iinc 1 1, 3) := by decide +kernel
theorem dX9_digest_159 : decode cX9_digest 159 = .ok (.goto (-22), 3) := by decide +kernel
theorem dX9_digest_162 : decode cX9_digest 162 = .ok (.iconst 0, 1) := by decide +kernel
theorem dX9_digest_163 : decode cX9_digest 163 = .ok (.istore_n 1, 1) := by decide +kernel
theorem dX9_digest_164 : decode cX9_digest 164 = .ok (.iload_n 1, 1) := by decide +kernel
theorem dX9_digest_165 : decode cX9_digest 165 = .ok (.bipush 12, 2) := by decide +kernel
theorem dX9_digest_167 : decode cX9_digest 167 = .ok (.if_icmp .ge 19, 3) := by decide +kernel
theorem dX9_digest_170 : decode cX9_digest 170 = .ok (.aload_n 0, 1) := by decide +kernel
theorem dX9_digest_171 : decode cX9_digest 171 = .ok (.aload_n 0, 1) := by decide +kernel
theorem dX9_digest_172 : decode cX9_digest 172 = .ok (.iload_n 1, 1) := by decide +kernel
theorem dX9_digest_173 : decode cX9_digest 173 = .ok (.invokevirtual 353, 3) := by decide +kernel
theorem dX9_digest_176 : decode cX9_digest 176 = .ok (.i2l, 1) := by decide +kernel
theorem dX9_digest_177 : decode cX9_digest 177 = .ok (.invokevirtual 363, 3) := by decide +kernel
theorem dX9_digest_180 : decode cX9_digest 180 = .ok (.iinc 1 1, 3) := by decide +kernel
theorem dX9_digest_183 : decode cX9_digest 183 = .ok (.goto (-19), 3) := by decide +kernel
theorem dX9_digest_186 : decode cX9_digest 186 = .ok (.aload_n 0, 1) := by decide +kernel
theorem dX9_digest_187 : decode cX9_digest 187 = .ok (.getfield 358, 3) := by decide +kernel
theorem dX9_digest_190 : decode cX9_digest 190 = .ok (.lreturn, 1) := by decide +kernel
theorem dL_law_0 : decode cL_law 0 = .ok (.new 7, 3) := by decide +kernel
theorem dL_law_3 : decode cL_law 3 = .ok (.dup, 1) := by decide +kernel
theorem dL_law_4 : decode cL_law 4 = .ok (.invokespecial 9, 3) := by decide +kernel
theorem dL_law_7 : decode cL_law 7 = .ok (.astore_n 1, 1) := by decide +kernel
theorem dL_law_8 : decode cL_law 8 = .ok (.new 10, 3) := by decide +kernel
theorem dL_law_11 : decode cL_law 11 = .ok (.dup, 1) := by decide +kernel
theorem dL_law_12 : decode cL_law 12 = .ok (.invokespecial 12, 3) := by decide +kernel
theorem dL_law_15 : decode cL_law 15 = .ok (.astore_n 2, 1) := by decide +kernel
theorem dL_law_16 : decode cL_law 16 = .ok (.iconst 0, 1) := by decide +kernel
theorem dL_law_17 : decode cL_law 17 = .ok (.istore_n 3, 1) := by decide +kernel
theorem dL_law_18 : decode cL_law 18 = .ok (.iload_n 3, 1) := by decide +kernel
theorem dL_law_19 : decode cL_law 19 = .ok (.aload_n 0, 1) := by decide +kernel
theorem dL_law_20 : decode cL_law 20 = .ok (.arraylength, 1) := by decide +kernel
theorem dL_law_21 : decode cL_law 21 = .ok (.iconst 4, 1) := by decide +kernel
theorem dL_law_22 : decode cL_law 22 = .ok (.isub, 1) := by decide +kernel
theorem dL_law_23 : decode cL_law 23 = .ok (.if_icmp .gt 764, 3) := by decide +kernel
theorem dL_law_26 : decode cL_law 26 = .ok (.aload_n 0, 1) := by decide +kernel
theorem dL_law_27 : decode cL_law 27 = .ok (.iload_n 3, 1) := by decide +kernel
theorem dL_law_28 : decode cL_law 28 = .ok (.iaload, 1) := by decide +kernel
theorem dL_law_29 : decode cL_law 29 = .ok (.bipush 31, 2) := by decide +kernel
theorem dL_law_31 : decode cL_law 31 = .ok (.iand, 1) := by decide +kernel
theorem dL_law_32 : decode cL_law 32 = .ok (.tableswitch 749 0 25 #[120, 143, 156, 169, 182, 215, 238, 271, 304, 337, 370, 383, 426, 459, 472, 515, 548, 571, 594, 617, 630, 643, 686, 699, 712, 735], 120) := by decide +kernel
theorem dL_law_152 : decode cL_law 152 = .ok (.aload_n 1, 1) := by decide +kernel
theorem dL_law_153 : decode cL_law 153 = .ok (.aload_n 0, 1) := by decide +kernel
theorem dL_law_154 : decode cL_law 154 = .ok (.iload_n 3, 1) := by decide +kernel
theorem dL_law_155 : decode cL_law 155 = .ok (.iconst 1, 1) := by decide +kernel
theorem dL_law_156 : decode cL_law 156 = .ok (.iadd, 1) := by decide +kernel
theorem dL_law_157 : decode cL_law 157 = .ok (.iaload, 1) := by decide +kernel
theorem dL_law_158 : decode cL_law 158 = .ok (.invokevirtual 13, 3) := by decide +kernel
theorem dL_law_161 : decode cL_law 161 = .ok (.aload_n 2, 1) := by decide +kernel
theorem dL_law_162 : decode cL_law 162 = .ok (.aload_n 0, 1) := by decide +kernel
theorem dL_law_163 : decode cL_law 163 = .ok (.iload_n 3, 1) := by decide +kernel
theorem dL_law_164 : decode cL_law 164 = .ok (.iconst 1, 1) := by decide +kernel
theorem dL_law_165 : decode cL_law 165 = .ok (.iadd, 1) := by decide +kernel
theorem dL_law_166 : decode cL_law 166 = .ok (.iaload, 1) := by decide +kernel
theorem dL_law_167 : decode cL_law 167 = .ok (.invokevirtual 17, 3) := by decide +kernel
theorem dL_law_170 : decode cL_law 170 = .ok (.if_icmp .eq 611, 3) := by decide +kernel
theorem dL_law_173 : decode cL_law 173 = .ok (.iconst 0, 1) := by decide +kernel
theorem dL_law_174 : decode cL_law 174 = .ok (.ireturn, 1) := by decide +kernel
theorem dL_law_175 : decode cL_law 175 = .ok (.aload_n 1, 1) := by decide +kernel
theorem dL_law_176 : decode cL_law 176 = .ok (.invokevirtual 18, 3) := by decide +kernel
theorem dL_law_179 : decode cL_law 179 = .ok (.aload_n 2, 1) := by decide +kernel
theorem dL_law_180 : decode cL_law 180 = .ok (.invokevirtual 22, 3) := by decide +kernel
theorem dL_law_183 : decode cL_law 183 = .ok (.if_icmp .eq 598, 3) := by decide +kernel
theorem dL_law_186 : decode cL_law 186 = .ok (.iconst 0, 1) := by decide +kernel
theorem dL_law_187 : decode cL_law 187 = .ok (.ireturn, 1) := by decide +kernel
theorem dL_law_188 : decode cL_law 188 = .ok (.aload_n 1, 1) := by decide +kernel
theorem dL_law_189 : decode cL_law 189 = .ok (.invokevirtual 23, 3) := by decide +kernel
theorem dL_law_192 : decode cL_law 192 = .ok (.aload_n 2, 1) := by decide +kernel
theorem dL_law_193 : decode cL_law 193 = .ok (.invokevirtual 26, 3) := by decide +kernel
theorem dL_law_196 : decode cL_law 196 = .ok (.if_icmp .eq 585, 3) := by decide +kernel
theorem dL_law_199 : decode cL_law 199 = .ok (.iconst 0, 1) := by decide +kernel
theorem dL_law_200 : decode cL_law 200 = .ok (.ireturn, 1) := by decide +kernel
theorem dL_law_201 : decode cL_law 201 = .ok (.aload_n 1, 1) := by decide +kernel
theorem dL_law_202 : decode cL_law 202 = .ok (.invokevirtual 27, 3) := by decide +kernel
theorem dL_law_205 : decode cL_law 205 = .ok (.aload_n 2, 1) := by decide +kernel
theorem dL_law_206 : decode cL_law 206 = .ok (.invokevirtual 30, 3) := by decide +kernel
theorem dL_law_209 : decode cL_law 209 = .ok (.if_icmp .eq 572, 3) := by decide +kernel
theorem dL_law_212 : decode cL_law 212 = .ok (.iconst 0, 1) := by decide +kernel
theorem dL_law_213 : decode cL_law 213 = .ok (.ireturn, 1) := by decide +kernel
theorem dL_law_214 : decode cL_law 214 = .ok (.aload_n 1, 1) := by decide +kernel
theorem dL_law_215 : decode cL_law 215 = .ok (.aload_n 0, 1) := by decide +kernel
theorem dL_law_216 : decode cL_law 216 = .ok (.iload_n 3, 1) := by decide +kernel
theorem dL_law_217 : decode cL_law 217 = .ok (.iconst 1, 1) := by decide +kernel
theorem dL_law_218 : decode cL_law 218 = .ok (.iadd, 1) := by decide +kernel
theorem dL_law_219 : decode cL_law 219 = .ok (.iaload, 1) := by decide +kernel
theorem dL_law_220 : decode cL_law 220 = .ok (.aload_n 0, 1) := by decide +kernel
theorem dL_law_221 : decode cL_law 221 = .ok (.iload_n 3, 1) := by decide +kernel
theorem dL_law_222 : decode cL_law 222 = .ok (.iconst 2, 1) := by decide +kernel
theorem dL_law_223 : decode cL_law 223 = .ok (.iadd, 1) := by decide +kernel
theorem dL_law_224 : decode cL_law 224 = .ok (.iaload, 1) := by decide +kernel
theorem dL_law_225 : decode cL_law 225 = .ok (.invokevirtual 31, 3) := by decide +kernel
theorem dL_law_228 : decode cL_law 228 = .ok (.aload_n 2, 1) := by decide +kernel
theorem dL_law_229 : decode cL_law 229 = .ok (.aload_n 0, 1) := by decide +kernel
theorem dL_law_230 : decode cL_law 230 = .ok (.iload_n 3, 1) := by decide +kernel
theorem dL_law_231 : decode cL_law 231 = .ok (.iconst 1, 1) := by decide +kernel
theorem dL_law_232 : decode cL_law 232 = .ok (.iadd, 1) := by decide +kernel
theorem dL_law_233 : decode cL_law 233 = .ok (.iaload, 1) := by decide +kernel
theorem dL_law_234 : decode cL_law 234 = .ok (.aload_n 0, 1) := by decide +kernel
theorem dL_law_235 : decode cL_law 235 = .ok (.iload_n 3, 1) := by decide +kernel
theorem dL_law_236 : decode cL_law 236 = .ok (.iconst 2, 1) := by decide +kernel
theorem dL_law_237 : decode cL_law 237 = .ok (.iadd, 1) := by decide +kernel
theorem dL_law_238 : decode cL_law 238 = .ok (.iaload, 1) := by decide +kernel
theorem dL_law_239 : decode cL_law 239 = .ok (.invokevirtual 35, 3) := by decide +kernel
theorem dL_law_242 : decode cL_law 242 = .ok (.if_icmp .eq 539, 3) := by decide +kernel
theorem dL_law_245 : decode cL_law 245 = .ok (.iconst 0, 1) := by decide +kernel
theorem dL_law_246 : decode cL_law 246 = .ok (.ireturn, 1) := by decide +kernel
theorem dL_law_247 : decode cL_law 247 = .ok (.aload_n 1, 1) := by decide +kernel
theorem dL_law_248 : decode cL_law 248 = .ok (.aload_n 0, 1) := by decide +kernel
theorem dL_law_249 : decode cL_law 249 = .ok (.iload_n 3, 1) := by decide +kernel
theorem dL_law_250 : decode cL_law 250 = .ok (.iconst 1, 1) := by decide +kernel
theorem dL_law_251 : decode cL_law 251 = .ok (.iadd, 1) := by decide +kernel
theorem dL_law_252 : decode cL_law 252 = .ok (.iaload, 1) := by decide +kernel
theorem dL_law_253 : decode cL_law 253 = .ok (.invokevirtual 36, 3) := by decide +kernel
theorem dL_law_256 : decode cL_law 256 = .ok (.aload_n 2, 1) := by decide +kernel
theorem dL_law_257 : decode cL_law 257 = .ok (.aload_n 0, 1) := by decide +kernel
theorem dL_law_258 : decode cL_law 258 = .ok (.iload_n 3, 1) := by decide +kernel
theorem dL_law_259 : decode cL_law 259 = .ok (.iconst 1, 1) := by decide +kernel
theorem dL_law_260 : decode cL_law 260 = .ok (.iadd, 1) := by decide +kernel
theorem dL_law_261 : decode cL_law 261 = .ok (.iaload, 1) := by decide +kernel
theorem dL_law_262 : decode cL_law 262 = .ok (.invokevirtual 39, 3) := by decide +kernel
theorem dL_law_265 : decode cL_law 265 = .ok (.if_icmp .eq 516, 3) := by decide +kernel
theorem dL_law_268 : decode cL_law 268 = .ok (.iconst 0, 1) := by decide +kernel
theorem dL_law_269 : decode cL_law 269 = .ok (.ireturn, 1) := by decide +kernel
theorem dL_law_270 : decode cL_law 270 = .ok (.aload_n 1, 1) := by decide +kernel
theorem dL_law_271 : decode cL_law 271 = .ok (.aload_n 0, 1) := by decide +kernel
theorem dL_law_272 : decode cL_law 272 = .ok (.iload_n 3, 1) := by decide +kernel
theorem dL_law_273 : decode cL_law 273 = .ok (.iconst 1, 1) := by decide +kernel
theorem dL_law_274 : decode cL_law 274 = .ok (.iadd, 1) := by decide +kernel
theorem dL_law_275 : decode cL_law 275 = .ok (.iaload, 1) := by decide +kernel
theorem dL_law_276 : decode cL_law 276 = .ok (.aload_n 0, 1) := by decide +kernel
theorem dL_law_277 : decode cL_law 277 = .ok (.iload_n 3, 1) := by decide +kernel
theorem dL_law_278 : decode cL_law 278 = .ok (.iconst 2, 1) := by decide +kernel
theorem dL_law_279 : decode cL_law 279 = .ok (.iadd, 1) := by decide +kernel
theorem dL_law_280 : decode cL_law 280 = .ok (.iaload, 1) := by decide +kernel
theorem dL_law_281 : decode cL_law 281 = .ok (.invokevirtual 40, 3) := by decide +kernel
theorem dL_law_284 : decode cL_law 284 = .ok (.aload_n 2, 1) := by decide +kernel
theorem dL_law_285 : decode cL_law 285 = .ok (.aload_n 0, 1) := by decide +kernel
theorem dL_law_286 : decode cL_law 286 = .ok (.iload_n 3, 1) := by decide +kernel
theorem dL_law_287 : decode cL_law 287 = .ok (.iconst 1, 1) := by decide +kernel
theorem dL_law_288 : decode cL_law 288 = .ok (.iadd, 1) := by decide +kernel
theorem dL_law_289 : decode cL_law 289 = .ok (.iaload, 1) := by decide +kernel
theorem dL_law_290 : decode cL_law 290 = .ok (.aload_n 0, 1) := by decide +kernel
theorem dL_law_291 : decode cL_law 291 = .ok (.iload_n 3, 1) := by decide +kernel
theorem dL_law_292 : decode cL_law 292 = .ok (.iconst 2, 1) := by decide +kernel
theorem dL_law_293 : decode cL_law 293 = .ok (.iadd, 1) := by decide +kernel
theorem dL_law_294 : decode cL_law 294 = .ok (.iaload, 1) := by decide +kernel
theorem dL_law_295 : decode cL_law 295 = .ok (.invokevirtual 43, 3) := by decide +kernel
theorem dL_law_298 : decode cL_law 298 = .ok (.if_icmp .eq 483, 3) := by decide +kernel
theorem dL_law_301 : decode cL_law 301 = .ok (.iconst 0, 1) := by decide +kernel
theorem dL_law_302 : decode cL_law 302 = .ok (.ireturn, 1) := by decide +kernel
theorem dL_law_303 : decode cL_law 303 = .ok (.aload_n 1, 1) := by decide +kernel
theorem dL_law_304 : decode cL_law 304 = .ok (.aload_n 0, 1) := by decide +kernel
theorem dL_law_305 : decode cL_law 305 = .ok (.iload_n 3, 1) := by decide +kernel
theorem dL_law_306 : decode cL_law 306 = .ok (.iconst 1, 1) := by decide +kernel
theorem dL_law_307 : decode cL_law 307 = .ok (.iadd, 1) := by decide +kernel
theorem dL_law_308 : decode cL_law 308 = .ok (.iaload, 1) := by decide +kernel
theorem dL_law_309 : decode cL_law 309 = .ok (.aload_n 0, 1) := by decide +kernel
theorem dL_law_310 : decode cL_law 310 = .ok (.iload_n 3, 1) := by decide +kernel
theorem dL_law_311 : decode cL_law 311 = .ok (.iconst 2, 1) := by decide +kernel
theorem dL_law_312 : decode cL_law 312 = .ok (.iadd, 1) := by decide +kernel
theorem dL_law_313 : decode cL_law 313 = .ok (.iaload, 1) := by decide +kernel
theorem dL_law_314 : decode cL_law 314 = .ok (.invokevirtual 44, 3) := by decide +kernel
theorem dL_law_317 : decode cL_law 317 = .ok (.aload_n 2, 1) := by decide +kernel
theorem dL_law_318 : decode cL_law 318 = .ok (.aload_n 0, 1) := by decide +kernel
theorem dL_law_319 : decode cL_law 319 = .ok (.iload_n 3, 1) := by decide +kernel
theorem dL_law_320 : decode cL_law 320 = .ok (.iconst 1, 1) := by decide +kernel
theorem dL_law_321 : decode cL_law 321 = .ok (.iadd, 1) := by decide +kernel
theorem dL_law_322 : decode cL_law 322 = .ok (.iaload, 1) := by decide +kernel
theorem dL_law_323 : decode cL_law 323 = .ok (.aload_n 0, 1) := by decide +kernel
theorem dL_law_324 : decode cL_law 324 = .ok (.iload_n 3, 1) := by decide +kernel
theorem dL_law_325 : decode cL_law 325 = .ok (.iconst 2, 1) := by decide +kernel
theorem dL_law_326 : decode cL_law 326 = .ok (.iadd, 1) := by decide +kernel
theorem dL_law_327 : decode cL_law 327 = .ok (.iaload, 1) := by decide +kernel
theorem dL_law_328 : decode cL_law 328 = .ok (.invokevirtual 47, 3) := by decide +kernel
theorem dL_law_331 : decode cL_law 331 = .ok (.if_icmp .eq 450, 3) := by decide +kernel
theorem dL_law_334 : decode cL_law 334 = .ok (.iconst 0, 1) := by decide +kernel
theorem dL_law_335 : decode cL_law 335 = .ok (.ireturn, 1) := by decide +kernel
theorem dL_law_336 : decode cL_law 336 = .ok (.aload_n 1, 1) := by decide +kernel
theorem dL_law_337 : decode cL_law 337 = .ok (.aload_n 0, 1) := by decide +kernel
theorem dL_law_338 : decode cL_law 338 = .ok (.iload_n 3, 1) := by decide +kernel
theorem dL_law_339 : decode cL_law 339 = .ok (.iconst 1, 1) := by decide +kernel
theorem dL_law_340 : decode cL_law 340 = .ok (.iadd, 1) := by decide +kernel
theorem dL_law_341 : decode cL_law 341 = .ok (.iaload, 1) := by decide +kernel
theorem dL_law_342 : decode cL_law 342 = .ok (.aload_n 0, 1) := by decide +kernel
theorem dL_law_343 : decode cL_law 343 = .ok (.iload_n 3, 1) := by decide +kernel
theorem dL_law_344 : decode cL_law 344 = .ok (.iconst 2, 1) := by decide +kernel
theorem dL_law_345 : decode cL_law 345 = .ok (.iadd, 1) := by decide +kernel
theorem dL_law_346 : decode cL_law 346 = .ok (.iaload, 1) := by decide +kernel
theorem dL_law_347 : decode cL_law 347 = .ok (.invokevirtual 48, 3) := by decide +kernel
theorem dL_law_350 : decode cL_law 350 = .ok (.aload_n 2, 1) := by decide +kernel
theorem dL_law_351 : decode cL_law 351 = .ok (.aload_n 0, 1) := by decide +kernel
theorem dL_law_352 : decode cL_law 352 = .ok (.iload_n 3, 1) := by decide +kernel
theorem dL_law_353 : decode cL_law 353 = .ok (.iconst 1, 1) := by decide +kernel
theorem dL_law_354 : decode cL_law 354 = .ok (.iadd, 1) := by decide +kernel
theorem dL_law_355 : decode cL_law 355 = .ok (.iaload, 1) := by decide +kernel
theorem dL_law_356 : decode cL_law 356 = .ok (.aload_n 0, 1) := by decide +kernel
theorem dL_law_357 : decode cL_law 357 = .ok (.iload_n 3, 1) := by decide +kernel
theorem dL_law_358 : decode cL_law 358 = .ok (.iconst 2, 1) := by decide +kernel
theorem dL_law_359 : decode cL_law 359 = .ok (.iadd, 1) := by decide +kernel
theorem dL_law_360 : decode cL_law 360 = .ok (.iaload, 1) := by decide +kernel
theorem dL_law_361 : decode cL_law 361 = .ok (.invokevirtual 51, 3) := by decide +kernel
theorem dL_law_364 : decode cL_law 364 = .ok (.if_icmp .eq 417, 3) := by decide +kernel
theorem dL_law_367 : decode cL_law 367 = .ok (.iconst 0, 1) := by decide +kernel
theorem dL_law_368 : decode cL_law 368 = .ok (.ireturn, 1) := by decide +kernel
theorem dL_law_369 : decode cL_law 369 = .ok (.aload_n 1, 1) := by decide +kernel
theorem dL_law_370 : decode cL_law 370 = .ok (.aload_n 0, 1) := by decide +kernel
theorem dL_law_371 : decode cL_law 371 = .ok (.iload_n 3, 1) := by decide +kernel
theorem dL_law_372 : decode cL_law 372 = .ok (.iconst 1, 1) := by decide +kernel
theorem dL_law_373 : decode cL_law 373 = .ok (.iadd, 1) := by decide +kernel
theorem dL_law_374 : decode cL_law 374 = .ok (.iaload, 1) := by decide +kernel
theorem dL_law_375 : decode cL_law 375 = .ok (.aload_n 0, 1) := by decide +kernel
theorem dL_law_376 : decode cL_law 376 = .ok (.iload_n 3, 1) := by decide +kernel
theorem dL_law_377 : decode cL_law 377 = .ok (.iconst 2, 1) := by decide +kernel
theorem dL_law_378 : decode cL_law 378 = .ok (.iadd, 1) := by decide +kernel
theorem dL_law_379 : decode cL_law 379 = .ok (.iaload, 1) := by decide +kernel
theorem dL_law_380 : decode cL_law 380 = .ok (.invokevirtual 52, 3) := by decide +kernel
theorem dL_law_383 : decode cL_law 383 = .ok (.aload_n 2, 1) := by decide +kernel
theorem dL_law_384 : decode cL_law 384 = .ok (.aload_n 0, 1) := by decide +kernel
theorem dL_law_385 : decode cL_law 385 = .ok (.iload_n 3, 1) := by decide +kernel
theorem dL_law_386 : decode cL_law 386 = .ok (.iconst 1, 1) := by decide +kernel
theorem dL_law_387 : decode cL_law 387 = .ok (.iadd, 1) := by decide +kernel
theorem dL_law_388 : decode cL_law 388 = .ok (.iaload, 1) := by decide +kernel
theorem dL_law_389 : decode cL_law 389 = .ok (.aload_n 0, 1) := by decide +kernel
theorem dL_law_390 : decode cL_law 390 = .ok (.iload_n 3, 1) := by decide +kernel
theorem dL_law_391 : decode cL_law 391 = .ok (.iconst 2, 1) := by decide +kernel
theorem dL_law_392 : decode cL_law 392 = .ok (.iadd, 1) := by decide +kernel
theorem dL_law_393 : decode cL_law 393 = .ok (.iaload, 1) := by decide +kernel
theorem dL_law_394 : decode cL_law 394 = .ok (.invokevirtual 55, 3) := by decide +kernel
theorem dL_law_397 : decode cL_law 397 = .ok (.if_icmp .eq 384, 3) := by decide +kernel
theorem dL_law_400 : decode cL_law 400 = .ok (.iconst 0, 1) := by decide +kernel
theorem dL_law_401 : decode cL_law 401 = .ok (.ireturn, 1) := by decide +kernel
theorem dL_law_402 : decode cL_law 402 = .ok (.aload_n 1, 1) := by decide +kernel
theorem dL_law_403 : decode cL_law 403 = .ok (.invokevirtual 56, 3) := by decide +kernel
theorem dL_law_406 : decode cL_law 406 = .ok (.aload_n 2, 1) := by decide +kernel
theorem dL_law_407 : decode cL_law 407 = .ok (.invokevirtual 59, 3) := by decide +kernel
theorem dL_law_410 : decode cL_law 410 = .ok (.if_icmp .eq 371, 3) := by decide +kernel
theorem dL_law_413 : decode cL_law 413 = .ok (.iconst 0, 1) := by decide +kernel
theorem dL_law_414 : decode cL_law 414 = .ok (.ireturn, 1) := by decide +kernel
theorem dL_law_415 : decode cL_law 415 = .ok (.aload_n 1, 1) := by decide +kernel
theorem dL_law_416 : decode cL_law 416 = .ok (.aload_n 0, 1) := by decide +kernel
theorem dL_law_417 : decode cL_law 417 = .ok (.iload_n 3, 1) := by decide +kernel
theorem dL_law_418 : decode cL_law 418 = .ok (.iconst 1, 1) := by decide +kernel
theorem dL_law_419 : decode cL_law 419 = .ok (.iadd, 1) := by decide +kernel
theorem dL_law_420 : decode cL_law 420 = .ok (.iaload, 1) := by decide +kernel
theorem dL_law_421 : decode cL_law 421 = .ok (.aload_n 0, 1) := by decide +kernel
theorem dL_law_422 : decode cL_law 422 = .ok (.iload_n 3, 1) := by decide +kernel
theorem dL_law_423 : decode cL_law 423 = .ok (.iconst 2, 1) := by decide +kernel
theorem dL_law_424 : decode cL_law 424 = .ok (.iadd, 1) := by decide +kernel
theorem dL_law_425 : decode cL_law 425 = .ok (.iaload, 1) := by decide +kernel
theorem dL_law_426 : decode cL_law 426 = .ok (.aload_n 0, 1) := by decide +kernel
theorem dL_law_427 : decode cL_law 427 = .ok (.iload_n 3, 1) := by decide +kernel
theorem dL_law_428 : decode cL_law 428 = .ok (.iconst 3, 1) := by decide +kernel
theorem dL_law_429 : decode cL_law 429 = .ok (.iadd, 1) := by decide +kernel
theorem dL_law_430 : decode cL_law 430 = .ok (.iaload, 1) := by decide +kernel
theorem dL_law_431 : decode cL_law 431 = .ok (.invokevirtual 60, 3) := by decide +kernel
theorem dL_law_434 : decode cL_law 434 = .ok (.aload_n 2, 1) := by decide +kernel
theorem dL_law_435 : decode cL_law 435 = .ok (.aload_n 0, 1) := by decide +kernel
theorem dL_law_436 : decode cL_law 436 = .ok (.iload_n 3, 1) := by decide +kernel
theorem dL_law_437 : decode cL_law 437 = .ok (.iconst 1, 1) := by decide +kernel
theorem dL_law_438 : decode cL_law 438 = .ok (.iadd, 1) := by decide +kernel
theorem dL_law_439 : decode cL_law 439 = .ok (.iaload, 1) := by decide +kernel
theorem dL_law_440 : decode cL_law 440 = .ok (.aload_n 0, 1) := by decide +kernel
theorem dL_law_441 : decode cL_law 441 = .ok (.iload_n 3, 1) := by decide +kernel
theorem dL_law_442 : decode cL_law 442 = .ok (.iconst 2, 1) := by decide +kernel
theorem dL_law_443 : decode cL_law 443 = .ok (.iadd, 1) := by decide +kernel
theorem dL_law_444 : decode cL_law 444 = .ok (.iaload, 1) := by decide +kernel
theorem dL_law_445 : decode cL_law 445 = .ok (.aload_n 0, 1) := by decide +kernel
theorem dL_law_446 : decode cL_law 446 = .ok (.iload_n 3, 1) := by decide +kernel
theorem dL_law_447 : decode cL_law 447 = .ok (.iconst 3, 1) := by decide +kernel
theorem dL_law_448 : decode cL_law 448 = .ok (.iadd, 1) := by decide +kernel
theorem dL_law_449 : decode cL_law 449 = .ok (.iaload, 1) := by decide +kernel
theorem dL_law_450 : decode cL_law 450 = .ok (.invokevirtual 64, 3) := by decide +kernel
theorem dL_law_453 : decode cL_law 453 = .ok (.if_icmp .eq 328, 3) := by decide +kernel
theorem dL_law_456 : decode cL_law 456 = .ok (.iconst 0, 1) := by decide +kernel
theorem dL_law_457 : decode cL_law 457 = .ok (.ireturn, 1) := by decide +kernel
theorem dL_law_458 : decode cL_law 458 = .ok (.aload_n 1, 1) := by decide +kernel
theorem dL_law_459 : decode cL_law 459 = .ok (.aload_n 0, 1) := by decide +kernel
theorem dL_law_460 : decode cL_law 460 = .ok (.iload_n 3, 1) := by decide +kernel
theorem dL_law_461 : decode cL_law 461 = .ok (.iconst 1, 1) := by decide +kernel
theorem dL_law_462 : decode cL_law 462 = .ok (.iadd, 1) := by decide +kernel
theorem dL_law_463 : decode cL_law 463 = .ok (.iaload, 1) := by decide +kernel
theorem dL_law_464 : decode cL_law 464 = .ok (.aload_n 0, 1) := by decide +kernel
theorem dL_law_465 : decode cL_law 465 = .ok (.iload_n 3, 1) := by decide +kernel
theorem dL_law_466 : decode cL_law 466 = .ok (.iconst 2, 1) := by decide +kernel
theorem dL_law_467 : decode cL_law 467 = .ok (.iadd, 1) := by decide +kernel
theorem dL_law_468 : decode cL_law 468 = .ok (.iaload, 1) := by decide +kernel
theorem dL_law_469 : decode cL_law 469 = .ok (.invokevirtual 65, 3) := by decide +kernel
theorem dL_law_472 : decode cL_law 472 = .ok (.aload_n 2, 1) := by decide +kernel
theorem dL_law_473 : decode cL_law 473 = .ok (.aload_n 0, 1) := by decide +kernel
theorem dL_law_474 : decode cL_law 474 = .ok (.iload_n 3, 1) := by decide +kernel
theorem dL_law_475 : decode cL_law 475 = .ok (.iconst 1, 1) := by decide +kernel
theorem dL_law_476 : decode cL_law 476 = .ok (.iadd, 1) := by decide +kernel
theorem dL_law_477 : decode cL_law 477 = .ok (.iaload, 1) := by decide +kernel
theorem dL_law_478 : decode cL_law 478 = .ok (.aload_n 0, 1) := by decide +kernel
theorem dL_law_479 : decode cL_law 479 = .ok (.iload_n 3, 1) := by decide +kernel
theorem dL_law_480 : decode cL_law 480 = .ok (.iconst 2, 1) := by decide +kernel
theorem dL_law_481 : decode cL_law 481 = .ok (.iadd, 1) := by decide +kernel
theorem dL_law_482 : decode cL_law 482 = .ok (.iaload, 1) := by decide +kernel
theorem dL_law_483 : decode cL_law 483 = .ok (.invokevirtual 68, 3) := by decide +kernel
theorem dL_law_486 : decode cL_law 486 = .ok (.if_icmp .eq 295, 3) := by decide +kernel
theorem dL_law_489 : decode cL_law 489 = .ok (.iconst 0, 1) := by decide +kernel
theorem dL_law_490 : decode cL_law 490 = .ok (.ireturn, 1) := by decide +kernel
theorem dL_law_491 : decode cL_law 491 = .ok (.aload_n 1, 1) := by decide +kernel
theorem dL_law_492 : decode cL_law 492 = .ok (.invokevirtual 69, 3) := by decide +kernel
theorem dL_law_495 : decode cL_law 495 = .ok (.aload_n 2, 1) := by decide +kernel
theorem dL_law_496 : decode cL_law 496 = .ok (.invokevirtual 72, 3) := by decide +kernel
theorem dL_law_499 : decode cL_law 499 = .ok (.if_icmp .eq 282, 3) := by decide +kernel
theorem dL_law_502 : decode cL_law 502 = .ok (.iconst 0, 1) := by decide +kernel
theorem dL_law_503 : decode cL_law 503 = .ok (.ireturn, 1) := by decide +kernel
theorem dL_law_504 : decode cL_law 504 = .ok (.aload_n 1, 1) := by decide +kernel
theorem dL_law_505 : decode cL_law 505 = .ok (.aload_n 0, 1) := by decide +kernel
theorem dL_law_506 : decode cL_law 506 = .ok (.iload_n 3, 1) := by decide +kernel
theorem dL_law_507 : decode cL_law 507 = .ok (.iconst 1, 1) := by decide +kernel
theorem dL_law_508 : decode cL_law 508 = .ok (.iadd, 1) := by decide +kernel
theorem dL_law_509 : decode cL_law 509 = .ok (.iaload, 1) := by decide +kernel
theorem dL_law_510 : decode cL_law 510 = .ok (.aload_n 0, 1) := by decide +kernel
theorem dL_law_511 : decode cL_law 511 = .ok (.iload_n 3, 1) := by decide +kernel
theorem dL_law_512 : decode cL_law 512 = .ok (.iconst 2, 1) := by decide +kernel
theorem dL_law_513 : decode cL_law 513 = .ok (.iadd, 1) := by decide +kernel
theorem dL_law_514 : decode cL_law 514 = .ok (.iaload, 1) := by decide +kernel
theorem dL_law_515 : decode cL_law 515 = .ok (.aload_n 0, 1) := by decide +kernel
theorem dL_law_516 : decode cL_law 516 = .ok (.iload_n 3, 1) := by decide +kernel
theorem dL_law_517 : decode cL_law 517 = .ok (.iconst 3, 1) := by decide +kernel
theorem dL_law_518 : decode cL_law 518 = .ok (.iadd, 1) := by decide +kernel
theorem dL_law_519 : decode cL_law 519 = .ok (.iaload, 1) := by decide +kernel
theorem dL_law_520 : decode cL_law 520 = .ok (.invokevirtual 73, 3) := by decide +kernel
theorem dL_law_523 : decode cL_law 523 = .ok (.aload_n 2, 1) := by decide +kernel
theorem dL_law_524 : decode cL_law 524 = .ok (.aload_n 0, 1) := by decide +kernel
theorem dL_law_525 : decode cL_law 525 = .ok (.iload_n 3, 1) := by decide +kernel
theorem dL_law_526 : decode cL_law 526 = .ok (.iconst 1, 1) := by decide +kernel
theorem dL_law_527 : decode cL_law 527 = .ok (.iadd, 1) := by decide +kernel
theorem dL_law_528 : decode cL_law 528 = .ok (.iaload, 1) := by decide +kernel
theorem dL_law_529 : decode cL_law 529 = .ok (.aload_n 0, 1) := by decide +kernel
theorem dL_law_530 : decode cL_law 530 = .ok (.iload_n 3, 1) := by decide +kernel
theorem dL_law_531 : decode cL_law 531 = .ok (.iconst 2, 1) := by decide +kernel
theorem dL_law_532 : decode cL_law 532 = .ok (.iadd, 1) := by decide +kernel
theorem dL_law_533 : decode cL_law 533 = .ok (.iaload, 1) := by decide +kernel
theorem dL_law_534 : decode cL_law 534 = .ok (.aload_n 0, 1) := by decide +kernel
theorem dL_law_535 : decode cL_law 535 = .ok (.iload_n 3, 1) := by decide +kernel
theorem dL_law_536 : decode cL_law 536 = .ok (.iconst 3, 1) := by decide +kernel
theorem dL_law_537 : decode cL_law 537 = .ok (.iadd, 1) := by decide +kernel
theorem dL_law_538 : decode cL_law 538 = .ok (.iaload, 1) := by decide +kernel
theorem dL_law_539 : decode cL_law 539 = .ok (.invokevirtual 76, 3) := by decide +kernel
theorem dL_law_542 : decode cL_law 542 = .ok (.if_icmp .eq 239, 3) := by decide +kernel
theorem dL_law_545 : decode cL_law 545 = .ok (.iconst 0, 1) := by decide +kernel
theorem dL_law_546 : decode cL_law 546 = .ok (.ireturn, 1) := by decide +kernel
theorem dL_law_547 : decode cL_law 547 = .ok (.aload_n 1, 1) := by decide +kernel
theorem dL_law_548 : decode cL_law 548 = .ok (.aload_n 0, 1) := by decide +kernel
theorem dL_law_549 : decode cL_law 549 = .ok (.iload_n 3, 1) := by decide +kernel
theorem dL_law_550 : decode cL_law 550 = .ok (.iconst 1, 1) := by decide +kernel
theorem dL_law_551 : decode cL_law 551 = .ok (.iadd, 1) := by decide +kernel
theorem dL_law_552 : decode cL_law 552 = .ok (.iaload, 1) := by decide +kernel
theorem dL_law_553 : decode cL_law 553 = .ok (.aload_n 0, 1) := by decide +kernel
theorem dL_law_554 : decode cL_law 554 = .ok (.iload_n 3, 1) := by decide +kernel
theorem dL_law_555 : decode cL_law 555 = .ok (.iconst 2, 1) := by decide +kernel
theorem dL_law_556 : decode cL_law 556 = .ok (.iadd, 1) := by decide +kernel
theorem dL_law_557 : decode cL_law 557 = .ok (.iaload, 1) := by decide +kernel
theorem dL_law_558 : decode cL_law 558 = .ok (.invokevirtual 77, 3) := by decide +kernel
theorem dL_law_561 : decode cL_law 561 = .ok (.aload_n 2, 1) := by decide +kernel
theorem dL_law_562 : decode cL_law 562 = .ok (.aload_n 0, 1) := by decide +kernel
theorem dL_law_563 : decode cL_law 563 = .ok (.iload_n 3, 1) := by decide +kernel
theorem dL_law_564 : decode cL_law 564 = .ok (.iconst 1, 1) := by decide +kernel
theorem dL_law_565 : decode cL_law 565 = .ok (.iadd, 1) := by decide +kernel
theorem dL_law_566 : decode cL_law 566 = .ok (.iaload, 1) := by decide +kernel
theorem dL_law_567 : decode cL_law 567 = .ok (.aload_n 0, 1) := by decide +kernel
theorem dL_law_568 : decode cL_law 568 = .ok (.iload_n 3, 1) := by decide +kernel
theorem dL_law_569 : decode cL_law 569 = .ok (.iconst 2, 1) := by decide +kernel
theorem dL_law_570 : decode cL_law 570 = .ok (.iadd, 1) := by decide +kernel
theorem dL_law_571 : decode cL_law 571 = .ok (.iaload, 1) := by decide +kernel
theorem dL_law_572 : decode cL_law 572 = .ok (.invokevirtual 80, 3) := by decide +kernel
theorem dL_law_575 : decode cL_law 575 = .ok (.if_icmp .eq 206, 3) := by decide +kernel
theorem dL_law_578 : decode cL_law 578 = .ok (.iconst 0, 1) := by decide +kernel
theorem dL_law_579 : decode cL_law 579 = .ok (.ireturn, 1) := by decide +kernel
theorem dL_law_580 : decode cL_law 580 = .ok (.aload_n 1, 1) := by decide +kernel
theorem dL_law_581 : decode cL_law 581 = .ok (.aload_n 0, 1) := by decide +kernel
theorem dL_law_582 : decode cL_law 582 = .ok (.iload_n 3, 1) := by decide +kernel
theorem dL_law_583 : decode cL_law 583 = .ok (.iconst 1, 1) := by decide +kernel
theorem dL_law_584 : decode cL_law 584 = .ok (.iadd, 1) := by decide +kernel
theorem dL_law_585 : decode cL_law 585 = .ok (.iaload, 1) := by decide +kernel
theorem dL_law_586 : decode cL_law 586 = .ok (.invokevirtual 81, 3) := by decide +kernel
theorem dL_law_589 : decode cL_law 589 = .ok (.aload_n 2, 1) := by decide +kernel
theorem dL_law_590 : decode cL_law 590 = .ok (.aload_n 0, 1) := by decide +kernel
theorem dL_law_591 : decode cL_law 591 = .ok (.iload_n 3, 1) := by decide +kernel
theorem dL_law_592 : decode cL_law 592 = .ok (.iconst 1, 1) := by decide +kernel
theorem dL_law_593 : decode cL_law 593 = .ok (.iadd, 1) := by decide +kernel
theorem dL_law_594 : decode cL_law 594 = .ok (.iaload, 1) := by decide +kernel
theorem dL_law_595 : decode cL_law 595 = .ok (.invokevirtual 84, 3) := by decide +kernel
theorem dL_law_598 : decode cL_law 598 = .ok (.if_icmp .eq 183, 3) := by decide +kernel
theorem dL_law_601 : decode cL_law 601 = .ok (.iconst 0, 1) := by decide +kernel
theorem dL_law_602 : decode cL_law 602 = .ok (.ireturn, 1) := by decide +kernel
theorem dL_law_603 : decode cL_law 603 = .ok (.aload_n 1, 1) := by decide +kernel
theorem dL_law_604 : decode cL_law 604 = .ok (.aload_n 0, 1) := by decide +kernel
theorem dL_law_605 : decode cL_law 605 = .ok (.iload_n 3, 1) := by decide +kernel
theorem dL_law_606 : decode cL_law 606 = .ok (.iconst 1, 1) := by decide +kernel
theorem dL_law_607 : decode cL_law 607 = .ok (.iadd, 1) := by decide +kernel
theorem dL_law_608 : decode cL_law 608 = .ok (.iaload, 1) := by decide +kernel
theorem dL_law_609 : decode cL_law 609 = .ok (.invokevirtual 85, 3) := by decide +kernel
theorem dL_law_612 : decode cL_law 612 = .ok (.aload_n 2, 1) := by decide +kernel
theorem dL_law_613 : decode cL_law 613 = .ok (.aload_n 0, 1) := by decide +kernel
theorem dL_law_614 : decode cL_law 614 = .ok (.iload_n 3, 1) := by decide +kernel
theorem dL_law_615 : decode cL_law 615 = .ok (.iconst 1, 1) := by decide +kernel
theorem dL_law_616 : decode cL_law 616 = .ok (.iadd, 1) := by decide +kernel
theorem dL_law_617 : decode cL_law 617 = .ok (.iaload, 1) := by decide +kernel
theorem dL_law_618 : decode cL_law 618 = .ok (.invokevirtual 88, 3) := by decide +kernel
theorem dL_law_621 : decode cL_law 621 = .ok (.if_icmp .eq 160, 3) := by decide +kernel
theorem dL_law_624 : decode cL_law 624 = .ok (.iconst 0, 1) := by decide +kernel
theorem dL_law_625 : decode cL_law 625 = .ok (.ireturn, 1) := by decide +kernel
theorem dL_law_626 : decode cL_law 626 = .ok (.aload_n 1, 1) := by decide +kernel
theorem dL_law_627 : decode cL_law 627 = .ok (.aload_n 0, 1) := by decide +kernel
theorem dL_law_628 : decode cL_law 628 = .ok (.iload_n 3, 1) := by decide +kernel
theorem dL_law_629 : decode cL_law 629 = .ok (.iconst 1, 1) := by decide +kernel
theorem dL_law_630 : decode cL_law 630 = .ok (.iadd, 1) := by decide +kernel
theorem dL_law_631 : decode cL_law 631 = .ok (.iaload, 1) := by decide +kernel
theorem dL_law_632 : decode cL_law 632 = .ok (.invokevirtual 89, 3) := by decide +kernel
theorem dL_law_635 : decode cL_law 635 = .ok (.aload_n 2, 1) := by decide +kernel
theorem dL_law_636 : decode cL_law 636 = .ok (.aload_n 0, 1) := by decide +kernel
theorem dL_law_637 : decode cL_law 637 = .ok (.iload_n 3, 1) := by decide +kernel
theorem dL_law_638 : decode cL_law 638 = .ok (.iconst 1, 1) := by decide +kernel
theorem dL_law_639 : decode cL_law 639 = .ok (.iadd, 1) := by decide +kernel
theorem dL_law_640 : decode cL_law 640 = .ok (.iaload, 1) := by decide +kernel
theorem dL_law_641 : decode cL_law 641 = .ok (.invokevirtual 92, 3) := by decide +kernel
theorem dL_law_644 : decode cL_law 644 = .ok (.if_icmp .eq 137, 3) := by decide +kernel
theorem dL_law_647 : decode cL_law 647 = .ok (.iconst 0, 1) := by decide +kernel
theorem dL_law_648 : decode cL_law 648 = .ok (.ireturn, 1) := by decide +kernel
theorem dL_law_649 : decode cL_law 649 = .ok (.aload_n 1, 1) := by decide +kernel
theorem dL_law_650 : decode cL_law 650 = .ok (.invokevirtual 93, 3) := by decide +kernel
theorem dL_law_653 : decode cL_law 653 = .ok (.aload_n 2, 1) := by decide +kernel
theorem dL_law_654 : decode cL_law 654 = .ok (.invokevirtual 96, 3) := by decide +kernel
theorem dL_law_657 : decode cL_law 657 = .ok (.if_icmp .eq 124, 3) := by decide +kernel
theorem dL_law_660 : decode cL_law 660 = .ok (.iconst 0, 1) := by decide +kernel
theorem dL_law_661 : decode cL_law 661 = .ok (.ireturn, 1) := by decide +kernel
theorem dL_law_662 : decode cL_law 662 = .ok (.aload_n 1, 1) := by decide +kernel
theorem dL_law_663 : decode cL_law 663 = .ok (.invokevirtual 97, 3) := by decide +kernel
theorem dL_law_666 : decode cL_law 666 = .ok (.aload_n 2, 1) := by decide +kernel
theorem dL_law_667 : decode cL_law 667 = .ok (.invokevirtual 100, 3) := by decide +kernel
theorem dL_law_670 : decode cL_law 670 = .ok (.if_icmp .eq 111, 3) := by decide +kernel
theorem dL_law_673 : decode cL_law 673 = .ok (.iconst 0, 1) := by decide +kernel
theorem dL_law_674 : decode cL_law 674 = .ok (.ireturn, 1) := by decide +kernel
theorem dL_law_675 : decode cL_law 675 = .ok (.aload_n 1, 1) := by decide +kernel
theorem dL_law_676 : decode cL_law 676 = .ok (.aload_n 0, 1) := by decide +kernel
theorem dL_law_677 : decode cL_law 677 = .ok (.iload_n 3, 1) := by decide +kernel
theorem dL_law_678 : decode cL_law 678 = .ok (.iconst 1, 1) := by decide +kernel
theorem dL_law_679 : decode cL_law 679 = .ok (.iadd, 1) := by decide +kernel
theorem dL_law_680 : decode cL_law 680 = .ok (.iaload, 1) := by decide +kernel
theorem dL_law_681 : decode cL_law 681 = .ok (.aload_n 0, 1) := by decide +kernel
theorem dL_law_682 : decode cL_law 682 = .ok (.iload_n 3, 1) := by decide +kernel
theorem dL_law_683 : decode cL_law 683 = .ok (.iconst 2, 1) := by decide +kernel
theorem dL_law_684 : decode cL_law 684 = .ok (.iadd, 1) := by decide +kernel
theorem dL_law_685 : decode cL_law 685 = .ok (.iaload, 1) := by decide +kernel
theorem dL_law_686 : decode cL_law 686 = .ok (.aload_n 0, 1) := by decide +kernel
theorem dL_law_687 : decode cL_law 687 = .ok (.iload_n 3, 1) := by decide +kernel
theorem dL_law_688 : decode cL_law 688 = .ok (.iconst 3, 1) := by decide +kernel
theorem dL_law_689 : decode cL_law 689 = .ok (.iadd, 1) := by decide +kernel
theorem dL_law_690 : decode cL_law 690 = .ok (.iaload, 1) := by decide +kernel
theorem dL_law_691 : decode cL_law 691 = .ok (.invokevirtual 101, 3) := by decide +kernel
theorem dL_law_694 : decode cL_law 694 = .ok (.aload_n 2, 1) := by decide +kernel
theorem dL_law_695 : decode cL_law 695 = .ok (.aload_n 0, 1) := by decide +kernel
theorem dL_law_696 : decode cL_law 696 = .ok (.iload_n 3, 1) := by decide +kernel
theorem dL_law_697 : decode cL_law 697 = .ok (.iconst 1, 1) := by decide +kernel
theorem dL_law_698 : decode cL_law 698 = .ok (.iadd, 1) := by decide +kernel
theorem dL_law_699 : decode cL_law 699 = .ok (.iaload, 1) := by decide +kernel
theorem dL_law_700 : decode cL_law 700 = .ok (.aload_n 0, 1) := by decide +kernel
theorem dL_law_701 : decode cL_law 701 = .ok (.iload_n 3, 1) := by decide +kernel
theorem dL_law_702 : decode cL_law 702 = .ok (.iconst 2, 1) := by decide +kernel
theorem dL_law_703 : decode cL_law 703 = .ok (.iadd, 1) := by decide +kernel
theorem dL_law_704 : decode cL_law 704 = .ok (.iaload, 1) := by decide +kernel
theorem dL_law_705 : decode cL_law 705 = .ok (.aload_n 0, 1) := by decide +kernel
theorem dL_law_706 : decode cL_law 706 = .ok (.iload_n 3, 1) := by decide +kernel
theorem dL_law_707 : decode cL_law 707 = .ok (.iconst 3, 1) := by decide +kernel
theorem dL_law_708 : decode cL_law 708 = .ok (.iadd, 1) := by decide +kernel
theorem dL_law_709 : decode cL_law 709 = .ok (.iaload, 1) := by decide +kernel
theorem dL_law_710 : decode cL_law 710 = .ok (.invokevirtual 104, 3) := by decide +kernel
theorem dL_law_713 : decode cL_law 713 = .ok (.if_icmp .eq 68, 3) := by decide +kernel
theorem dL_law_716 : decode cL_law 716 = .ok (.iconst 0, 1) := by decide +kernel
theorem dL_law_717 : decode cL_law 717 = .ok (.ireturn, 1) := by decide +kernel
theorem dL_law_718 : decode cL_law 718 = .ok (.aload_n 1, 1) := by decide +kernel
theorem dL_law_719 : decode cL_law 719 = .ok (.invokevirtual 105, 3) := by decide +kernel
theorem dL_law_722 : decode cL_law 722 = .ok (.aload_n 2, 1) := by decide +kernel
theorem dL_law_723 : decode cL_law 723 = .ok (.invokevirtual 108, 3) := by decide +kernel
theorem dL_law_726 : decode cL_law 726 = .ok (.if_icmp .eq 55, 3) := by decide +kernel
theorem dL_law_729 : decode cL_law 729 = .ok (.iconst 0, 1) := by decide +kernel
theorem dL_law_730 : decode cL_law 730 = .ok (.ireturn, 1) := by decide +kernel
theorem dL_law_731 : decode cL_law 731 = .ok (.aload_n 1, 1) := by decide +kernel
theorem dL_law_732 : decode cL_law 732 = .ok (.invokevirtual 109, 3) := by decide +kernel
theorem dL_law_735 : decode cL_law 735 = .ok (.aload_n 2, 1) := by decide +kernel
theorem dL_law_736 : decode cL_law 736 = .ok (.invokevirtual 112, 3) := by decide +kernel
theorem dL_law_739 : decode cL_law 739 = .ok (.if_icmp .eq 42, 3) := by decide +kernel
theorem dL_law_742 : decode cL_law 742 = .ok (.iconst 0, 1) := by decide +kernel
theorem dL_law_743 : decode cL_law 743 = .ok (.ireturn, 1) := by decide +kernel
theorem dL_law_744 : decode cL_law 744 = .ok (.aload_n 1, 1) := by decide +kernel
theorem dL_law_745 : decode cL_law 745 = .ok (.aload_n 0, 1) := by decide +kernel
theorem dL_law_746 : decode cL_law 746 = .ok (.iload_n 3, 1) := by decide +kernel
theorem dL_law_747 : decode cL_law 747 = .ok (.iconst 1, 1) := by decide +kernel
theorem dL_law_748 : decode cL_law 748 = .ok (.iadd, 1) := by decide +kernel
theorem dL_law_749 : decode cL_law 749 = .ok (.iaload, 1) := by decide +kernel
theorem dL_law_750 : decode cL_law 750 = .ok (.invokevirtual 113, 3) := by decide +kernel
theorem dL_law_753 : decode cL_law 753 = .ok (.aload_n 2, 1) := by decide +kernel
theorem dL_law_754 : decode cL_law 754 = .ok (.aload_n 0, 1) := by decide +kernel
theorem dL_law_755 : decode cL_law 755 = .ok (.iload_n 3, 1) := by decide +kernel
theorem dL_law_756 : decode cL_law 756 = .ok (.iconst 1, 1) := by decide +kernel
theorem dL_law_757 : decode cL_law 757 = .ok (.iadd, 1) := by decide +kernel
theorem dL_law_758 : decode cL_law 758 = .ok (.iaload, 1) := by decide +kernel
theorem dL_law_759 : decode cL_law 759 = .ok (.invokevirtual 116, 3) := by decide +kernel
theorem dL_law_762 : decode cL_law 762 = .ok (.if_icmp .eq 19, 3) := by decide +kernel
theorem dL_law_765 : decode cL_law 765 = .ok (.iconst 0, 1) := by decide +kernel
theorem dL_law_766 : decode cL_law 766 = .ok (.ireturn, 1) := by decide +kernel
theorem dL_law_767 : decode cL_law 767 = .ok (.aload_n 1, 1) := by decide +kernel
theorem dL_law_768 : decode cL_law 768 = .ok (.invokevirtual 117, 3) := by decide +kernel
theorem dL_law_771 : decode cL_law 771 = .ok (.aload_n 2, 1) := by decide +kernel
theorem dL_law_772 : decode cL_law 772 = .ok (.invokevirtual 121, 3) := by decide +kernel
theorem dL_law_775 : decode cL_law 775 = .ok (.lcmp, 1) := by decide +kernel
theorem dL_law_776 : decode cL_law 776 = .ok (.ifCond .eq 5, 3) := by decide +kernel
theorem dL_law_779 : decode cL_law 779 = .ok (.iconst 0, 1) := by decide +kernel
theorem dL_law_780 : decode cL_law 780 = .ok (.ireturn, 1) := by decide +kernel
theorem dL_law_781 : decode cL_law 781 = .ok (.iinc 3 4, 3) := by decide +kernel
theorem dL_law_784 : decode cL_law 784 = .ok (.goto (-766), 3) := by decide +kernel
theorem dL_law_787 : decode cL_law 787 = .ok (.iconst 1, 1) := by decide +kernel
theorem dL_law_788 : decode cL_law 788 = .ok (.ireturn, 1) := by decide +kernel
end
section
/-! THE ABSTRACT MACHINE. Values: an int, a long, a reference (its kind, its number in that kind). Memory: of a kind's fields the ints, of its arrays the places, of persons the KIND, of longs the values; one for the class, one for the reference. -/
abbrev am_V : Type := Int32 ⊕ (Int64 ⊕ (Nat × Nat))
abbrev am_I (x : Int32) : am_V := .inl x
abbrev am_J (x : Int64) : am_V := .inr (.inl x)
abbrev am_R (t i : Nat) : am_V := .inr (.inr (t, i))
abbrev am_LV : Type := List (Nat × am_V)
abbrev am_X : Type := (Nat → Nat → Nat → Int32) × ((Nat → Nat → Nat → Int32) × ((Nat → Nat) × (Nat → Int64)))
abbrev am_W : Type := am_X × am_X
abbrev am_S : Type := am_LV × (List am_V × am_W)
abbrev am_Q : Type := Option am_V × am_W
abbrev am_Z : Type := (Nat × am_S) ⊕ ((Nat × (List am_V × (Nat × am_S))) ⊕ am_Q)
abbrev am_O : Type := am_S → Option am_Z
def xF (x : am_X) (t k i : Nat) : Int32 := x.1 t k i
def xA (x : am_X) (t i q : Nat) : Int32 := x.2.1 t i q
def xK (x : am_X) (i : Nat) : Nat := x.2.2.1 i
def xL (x : am_X) (k : Nat) : Int64 := x.2.2.2 k
def am_u3 {α : Type} (f : Nat → Nat → Nat → α) (a b c : Nat) (v : α) : Nat → Nat → Nat → α := fun a' b' c' => bif Nat.beq a' a && (Nat.beq b' b && Nat.beq c' c) then v else f a' b' c'
def am_u1 {α : Type} (f : Nat → α) (a : Nat) (v : α) : Nat → α := fun a' => bif Nat.beq a' a then v else f a'
def sF (x : am_X) (t k i : Nat) (v : Int32) : am_X := (am_u3 x.1 t k i v, x.2)
def sA (x : am_X) (t i q : Nat) (v : Int32) : am_X := (x.1, (am_u3 x.2.1 t i q v, x.2.2))
def sK (x : am_X) (i v : Nat) : am_X := (x.1, (x.2.1, (am_u1 x.2.2.1 i v, x.2.2.2)))
def sL (x : am_X) (k : Nat) (v : Int64) : am_X := (x.1, (x.2.1, (x.2.2.1, am_u1 x.2.2.2 k v)))
/-- which of the two memories a kind lies in -/
def am_s (t : Nat) (M : am_W) : am_X := bif Nat.ble 32 t then M.2 else M.1
def am_p (t : Nat) (M : am_W) (x : am_X) : am_W := bif Nat.ble 32 t then (M.1, x) else (x, M.2)
def am_isL (v : am_V) : Bool := match v with
  | .inr (.inl _) => true
  | _ => false
def am_get (lv : am_LV) (i : Nat) : Option am_V := match lv with
  | [] => none
  | q :: r => bif Nat.beq q.1 i then some q.2 else am_get r i
def am_st1 (lv : am_LV) (i : Nat) (v : am_V) : am_LV := (i, v) :: lv.filter (fun q => !(q.1 == i) && !(q.1 + 1 == i && am_isL q.2))
def am_st2 (lv : am_LV) (i : Nat) (v : am_V) : am_LV := (i, v) :: lv.filter (fun q => !(q.1 == i) && (!(q.1 == i + 1) && !(q.1 + 1 == i && am_isL q.2)))
def am_sel (ks : List Nat) (lv : am_LV) : am_LV := ks.filterMap (fun k => lv[k]?)
def am_in (i : Int32) (n : Nat) : Prop := 0 ≤ i.toInt ∧ i.toInt < n
def am_inB (i : Int32) (n : Nat) : Bool := decide (0 ≤ i.toInt) && decide (i.toInt < n)
def am_bz (v : Int32) : Bool := decide (v = 0) || decide (v = 1)
def am_args (i : Nat) (as : List am_V) : am_LV := match as with
  | [] => []
  | v :: vs => (i, v) :: am_args (bif am_isL v then i + 2 else i + 1) vs
def am_push (v : Option am_V) (st : List am_V) : List am_V := match v with
  | none => st
  | some v => v :: st
/-- the walk of a method's body: a step, a call by the calls' relation C, a return; locals may be forgotten -/
def am_lp (P : Nat → am_O) (C : Nat → List am_V → am_W → am_Q → Prop) : Nat → Nat → am_S → am_Q → Prop
  | 0, _, _, _ => False
  | n + 1, pc, a, r => (∃ ks, am_lp P C n pc (am_sel ks a.1, a.2) r) ∨ (match P pc a with
    | none => False
    | some (.inl b) => am_lp P C n b.1 b.2 r
    | some (.inr (.inl b)) => ∃ q : am_Q, C b.1 b.2.1 b.2.2.2.2.2 q ∧ am_lp P C n b.2.2.1 (b.2.2.2.1, (am_push q.1 b.2.2.2.2.1, q.2)) r
    | some (.inr (.inr q)) => r = q)
def am_Ev (PR : Nat → Nat → am_O) : Nat → Nat → List am_V → am_W → am_Q → Prop
  | 0, _, _, _, _ => False
  | d + 1, j, as, M, r => ∃ n, am_lp (PR j) (am_Ev PR d) n 0 (am_args 0 as, ([], M)) r
def am_At (PR : Nat → Nat → am_O) (d : Nat) (P : Nat → am_O) (pc : Nat) (a : am_S) (r : am_Q) : Prop := ∃ n, am_lp P (am_Ev PR d) n pc a r
def am_tab (l : List (Nat × am_O)) (pc : Nat) : am_O := match l with
  | [] => fun _ => none
  | q :: r => bif Nat.beq q.1 pc then q.2 else am_tab r pc
/-- k steps on -/
def am_run (P : Nat → am_O) : Nat → Nat → am_S → Option am_Z
  | 0, pc, a => some (.inl (pc, a))
  | k + 1, pc, a => match P pc a with
    | some (.inl b) => am_run P k b.1 b.2
    | some (.inr z) => (match k with
      | 0 => some (.inr z)
      | _ + 1 => none)
    | none => none
section AMR
variable {PR : Nat → Nat → am_O} {d : Nat} {P : Nat → am_O} {pc : Nat} {a : am_S} {r : am_Q}
theorem am_lp_run {C : Nat → List am_V → am_W → am_Q → Prop} : ∀ (k pc : Nat) (a : am_S) (pc' : Nat) (a' : am_S) (n : Nat), am_run P k pc a = some (.inl (pc', a')) → am_lp P C n pc' a' r → ∃ n', am_lp P C n' pc a r := by
  intro k
  induction k with
  | zero =>
    intro pc a pc' a' n h1 h2
    simp only [am_run, Option.some.injEq, Sum.inl.injEq, Prod.mk.injEq] at h1
    exact ⟨n, by rw [h1.1, h1.2]; exact h2⟩
  | succ k ih =>
    intro pc a pc' a' n h1 h2
    unfold am_run at h1
    split at h1
    · rename_i b hb
      obtain ⟨n', h3⟩ := ih _ _ _ _ _ h1 h2
      exact ⟨n' + 1, Or.inr (by rw [hb]; exact h3)⟩
    · split at h1 <;> cases h1
    · cases h1
theorem am_run_last {C : Nat → List am_V → am_W → am_Q → Prop} : ∀ (k pc : Nat) (a : am_S) (z : _), am_run P k pc a = some (.inr z) → (∀ (pc' : Nat) (a' : am_S), P pc' a' = some (.inr z) → ∃ n, am_lp P C n pc' a' r) → ∃ n', am_lp P C n' pc a r := by
  intro k
  induction k with
  | zero =>
    intro pc a z h1 h2
    cases h1
  | succ k ih =>
    intro pc a z h1 h2
    unfold am_run at h1
    split at h1
    · rename_i b hb
      obtain ⟨n', h3⟩ := ih _ _ _ h1 h2
      exact ⟨n' + 1, Or.inr (by rw [hb]; exact h3)⟩
    · rename_i z' hb
      split at h1
      · cases h1
        exact h2 pc a hb
      · cases h1
    · cases h1
/-- straight on -/
theorem am_go (k : Nat) {pc' : Nat} {a' : am_S} (h : am_run P k pc a = some (.inl (pc', a'))) (K : am_At PR d P pc' a' r) : am_At PR d P pc a r := by
  obtain ⟨n, K⟩ := K
  exact am_lp_run k pc a pc' a' n h K
/-- up to a test -/
theorem am_gt (k : Nat) {c : Prop} [Decidable c] {z : Option am_Z} (h : am_run P k pc a = if c then z else none) (hc : c) {pc' : Nat} {a' : am_S} (hz : z = some (.inl (pc', a'))) (K : am_At PR d P pc' a' r) : am_At PR d P pc a r :=
  am_go k (by rw [h, if_pos hc, hz]) K
/-- up to a branch -/
theorem am_bt (k : Nat) {c : Prop} [Decidable c] {p1 p2 : Nat} {a' : am_S} (h : am_run P k pc a = some (.inl ((if c then p1 else p2), a'))) (hc : c) (K : am_At PR d P p1 a' r) : am_At PR d P pc a r :=
  am_go k h (by rw [if_pos hc]; exact K)
theorem am_bf (k : Nat) {c : Prop} [Decidable c] {p1 p2 : Nat} {a' : am_S} (h : am_run P k pc a = some (.inl ((if c then p1 else p2), a'))) (hc : ¬ c) (K : am_At PR d P p2 a' r) : am_At PR d P pc a r :=
  am_go k h (by rw [if_neg hc]; exact K)
/-- a call -/
theorem am_cl (k : Nat) {j : Nat} {as : List am_V} {pc' : Nat} {lv : am_LV} {st : List am_V} {M : am_W} (h : am_run P k pc a = some (.inr (.inl (j, (as, (pc', (lv, (st, M)))))))) {q : am_Q} (hq : am_Ev PR d j as M q) (K : am_At PR d P pc' (lv, (am_push q.1 st, q.2)) r) : am_At PR d P pc a r := by
  obtain ⟨n, K⟩ := K
  exact am_run_last k pc a _ h (fun pc' a' hz => ⟨n + 1, Or.inr (by rw [hz]; exact ⟨q, hq, K⟩)⟩)
/-- the return -/
theorem am_rt (k : Nat) (h : am_run P k pc a = some (.inr (.inr r))) : am_At PR d P pc a r :=
  am_run_last k pc a _ h (fun pc' a' hz => ⟨1, Or.inr (by rw [hz])⟩)
theorem am_rg (k : Nat) {c : Prop} [Decidable c] (h : am_run P k pc a = if c then some (.inr (.inr r)) else none) (hc : c) : am_At PR d P pc a r :=
  am_rt k (by rw [h, if_pos hc])
theorem am_fg (ks : List Nat) {lv lv' : am_LV} {x : List am_V × am_W} (h : am_sel ks lv = lv') (K : am_At PR d P pc (lv', x) r) : am_At PR d P pc (lv, x) r := by
  obtain ⟨n, K⟩ := K
  exact ⟨n + 1, Or.inl ⟨ks, by rw [h]; exact K⟩⟩
theorem am_ev {j : Nat} {as : List am_V} {M : am_W} (hP : PR j = P) {lv : am_LV} (hl : am_args 0 as = lv) (K : am_At PR d P 0 (lv, ([], M)) r) : am_Ev PR (d + 1) j as M r := by
  obtain ⟨n, K⟩ := K
  exact ⟨n, by rw [hP, hl]; exact K⟩
end AMR
def am_cs (st : List am_V) : Nat := match st with
  | [] => 0
  | v :: r => (bif am_isL v then 2 else 1) + am_cs r
/-! ops -/
def op_li (i nx : Nat) : am_O := fun a => match am_get a.1 i with
  | some (.inl x) => some (.inl (nx, (a.1, (am_I x :: a.2.1, a.2.2))))
  | _ => none
def op_lj (i nx : Nat) : am_O := fun a => match am_get a.1 i with
  | some (.inr (.inl x)) => some (.inl (nx, (a.1, (am_J x :: a.2.1, a.2.2))))
  | _ => none
def op_lr (i nx : Nat) : am_O := fun a => match am_get a.1 i with
  | some (.inr (.inr q)) => some (.inl (nx, (a.1, (.inr (.inr q) :: a.2.1, a.2.2))))
  | _ => none
def op_c (v : Int32) (nx : Nat) : am_O := fun a => some (.inl (nx, (a.1, (am_I v :: a.2.1, a.2.2))))
def op_cj (v : Int64) (nx : Nat) : am_O := fun a => some (.inl (nx, (a.1, (am_J v :: a.2.1, a.2.2))))
def op_ist (i nx : Nat) : am_O := fun a => match a.2.1 with
  | .inl x :: r => some (.inl (nx, (am_st1 a.1 i (am_I x), (r, a.2.2))))
  | _ => none
def op_ast (i nx : Nat) : am_O := fun a => match a.2.1 with
  | .inr (.inr q) :: r => some (.inl (nx, (am_st1 a.1 i (.inr (.inr q)), (r, a.2.2))))
  | _ => none
def op_lst (i nx : Nat) : am_O := fun a => match a.2.1 with
  | .inr (.inl x) :: r => some (.inl (nx, (am_st2 a.1 i (am_J x), (r, a.2.2))))
  | _ => none
def op_iinc (i : Nat) (v : Int32) (nx : Nat) : am_O := fun a => match am_get a.1 i with
  | some (.inl x) => some (.inl (nx, (am_st1 a.1 i (am_I (x + v)), a.2)))
  | _ => none
/-- two ints to one -/
def op_ii (f : Int32 → Int32 → Int32) (nx : Nat) : am_O := fun a => match a.2.1 with
  | .inl y :: .inl x :: r => some (.inl (nx, (a.1, (am_I (f x y) :: r, a.2.2))))
  | _ => none
def op_mm (f : Int32 → Int32 → Int32) (nx : Nat) : am_O := fun a => match a.2.1 with
  | .inl y :: .inl x :: r => bif Nat.ble (am_cs r) 8 then some (.inl (nx, (a.1, (am_I (f x y) :: r, a.2.2)))) else none
  | _ => none
def op_iid (f : Int32 → Int32 → Int32) (nx : Nat) : am_O := fun a => match a.2.1 with
  | .inl y :: .inl x :: r => if ¬ y = 0 then some (.inl (nx, (a.1, (am_I (f x y) :: r, a.2.2)))) else none
  | _ => none
def op_jj (f : Int64 → Int64 → Int64) (nx : Nat) : am_O := fun a => match a.2.1 with
  | .inr (.inl y) :: .inr (.inl x) :: r => some (.inl (nx, (a.1, (am_J (f x y) :: r, a.2.2))))
  | _ => none
def op_jjd (f : Int64 → Int64 → Int64) (nx : Nat) : am_O := fun a => match a.2.1 with
  | .inr (.inl y) :: .inr (.inl x) :: r => if ¬ y = 0 then some (.inl (nx, (a.1, (am_J (f x y) :: r, a.2.2)))) else none
  | _ => none
def op_jji (f : Int64 → Int64 → Int32) (nx : Nat) : am_O := fun a => match a.2.1 with
  | .inr (.inl y) :: .inr (.inl x) :: r => some (.inl (nx, (a.1, (am_I (f x y) :: r, a.2.2))))
  | _ => none
def op_i2l (nx : Nat) : am_O := fun a => match a.2.1 with
  | .inl x :: r => some (.inl (nx, (a.1, (am_J x.toInt64 :: r, a.2.2))))
  | _ => none
def op_l2i (nx : Nat) : am_O := fun a => match a.2.1 with
  | .inr (.inl x) :: r => some (.inl (nx, (a.1, (am_I x.toInt32 :: r, a.2.2))))
  | _ => none
def op_i2b (nx : Nat) : am_O := fun a => match a.2.1 with
  | .inl x :: r => some (.inl (nx, (a.1, (am_I x.toInt8.toInt32 :: r, a.2.2))))
  | _ => none
def op_dup (nx : Nat) : am_O := fun a => match a.2.1 with
  | v :: r => bif am_isL v then none else some (.inl (nx, (a.1, (v :: v :: r, a.2.2))))
  | _ => none
def op_dup2 (nx : Nat) : am_O := fun a => match a.2.1 with
  | .inl y :: .inr (.inr q) :: r => some (.inl (nx, (a.1, (.inl y :: .inr (.inr q) :: .inl y :: .inr (.inr q) :: r, a.2.2))))
  | _ => none
def op_pop (nx : Nat) : am_O := fun a => match a.2.1 with
  | v :: r => bif am_isL v then none else some (.inl (nx, (a.1, (r, a.2.2))))
  | _ => none
def op_go (nx : Nat) : am_O := fun a => some (.inl (nx, a))
def op_if (f : Int32 → Prop) [DecidablePred f] (tg nx : Nat) : am_O := fun a => match a.2.1 with
  | .inl x :: r => some (.inl ((if f x then tg else nx), (a.1, (r, a.2.2))))
  | _ => none
def op_ic (f : Int32 → Int32 → Prop) [∀ x y, Decidable (f x y)] (tg nx : Nat) : am_O := fun a => match a.2.1 with
  | .inl y :: .inl x :: r => some (.inl ((if f x y then tg else nx), (a.1, (r, a.2.2))))
  | _ => none
/-- two KINDs -/
def op_aeq (tg nx : Nat) : am_O := fun a => match a.2.1 with
  | .inr (.inr q) :: .inr (.inr p) :: r => bif Nat.beq q.1 20 && Nat.beq p.1 20 then some (.inl ((if p.2 = q.2 then tg else nx), (a.1, (r, a.2.2)))) else none
  | _ => none
def op_ane (tg nx : Nat) : am_O := fun a => match a.2.1 with
  | .inr (.inr q) :: .inr (.inr p) :: r => bif Nat.beq q.1 20 && Nat.beq p.1 20 then some (.inl ((if ¬ p.2 = q.2 then tg else nx), (a.1, (r, a.2.2)))) else none
  | _ => none
def am_sw (lo : Int) (tgs : List Nat) (dflt : Nat) (x : Int32) : Nat := if x.toInt < lo then dflt else tgs.getD (x.toInt - lo).toNat dflt
def op_sw (lo : Int) (tgs : List Nat) (dflt : Nat) : am_O := fun a => match a.2.1 with
  | .inl x :: r => some (.inl (am_sw lo tgs dflt x, (a.1, (r, a.2.2))))
  | _ => none
/-- fields -/
def op_gi (t k nx : Nat) : am_O := fun a => match a.2.1 with
  | .inr (.inr q) :: r => bif Nat.beq q.1 t then some (.inl (nx, (a.1, (am_I (xF (am_s t a.2.2) t k q.2) :: r, a.2.2)))) else none
  | _ => none
def op_gj (k nx : Nat) : am_O := fun a => match a.2.1 with
  | .inr (.inr q) :: r => bif Nat.beq q.1 32 then some (.inl (nx, (a.1, (am_J (xL a.2.2.2 k) :: r, a.2.2)))) else none
  | _ => none
def op_gk (nx : Nat) : am_O := fun a => match a.2.1 with
  | .inr (.inr q) :: r => bif Nat.beq q.1 4 then some (.inl (nx, (a.1, (am_R 20 (xK a.2.2.1 q.2) :: r, a.2.2)))) else none
  | _ => none
/-- a KIND's number by a table -/
def op_gn (f : List Int32) (nx : Nat) : am_O := fun a => match a.2.1 with
  | .inr (.inr q) :: r => bif Nat.beq q.1 20 then some (.inl (nx, (a.1, (am_I (f.getD q.2 0) :: r, a.2.2)))) else none
  | _ => none
def op_pi (t k nx : Nat) : am_O := fun a => match a.2.1 with
  | .inl v :: .inr (.inr q) :: r => bif Nat.beq q.1 t then some (.inl (nx, (a.1, (r, am_p t a.2.2 (sF (am_s t a.2.2) t k q.2 v))))) else none
  | _ => none
def op_pz (t k nx : Nat) : am_O := fun a => match a.2.1 with
  | .inl v :: .inr (.inr q) :: r => bif Nat.beq q.1 t then (if am_bz v = true then some (.inl (nx, (a.1, (r, am_p t a.2.2 (sF (am_s t a.2.2) t k q.2 v))))) else none) else none
  | _ => none
def op_pj (k nx : Nat) : am_O := fun a => match a.2.1 with
  | .inr (.inl v) :: .inr (.inr q) :: r => bif Nat.beq q.1 32 then some (.inl (nx, (a.1, (r, (a.2.2.1, sL a.2.2.2 k v))))) else none
  | _ => none
def op_pk (nx : Nat) : am_O := fun a => match a.2.1 with
  | .inr (.inr u) :: .inr (.inr q) :: r => bif Nat.beq u.1 20 && Nat.beq q.1 4 then some (.inl (nx, (a.1, (r, (sK a.2.2.1 q.2 u.2, a.2.2.2))))) else none
  | _ => none
def op_gs (t i nx : Nat) : am_O := fun a => some (.inl (nx, (a.1, (am_R t i :: a.2.1, a.2.2))))
-- calls and returns
/-- j's number, how many arguments (with the receiver), how many words of locals it has -/
def op_cs (j n ml nx : Nat) : am_O := fun a => bif Nat.beq (a.2.1.take n).length n && (Nat.ble (am_cs (a.2.1.drop n)) 8 && Nat.ble (am_cs (a.2.1.take n).reverse) ml) then some (.inr (.inl (j, ((a.2.1.take n).reverse, (nx, (a.1, (a.2.1.drop n, a.2.2))))))) else none
def op_cv (t j n ml nx : Nat) : am_O := fun a => match (a.2.1.take n).reverse with
  | .inr (.inr q) :: _ => bif Nat.beq q.1 t then op_cs j n ml nx a else none
  | _ => none
def op_vret : am_O := fun a => match a.2.1 with
  | [] => some (.inr (.inr (none, a.2.2)))
  | _ => none
def op_iret : am_O := fun a => match a.2.1 with
  | [.inl x] => some (.inr (.inr (some (am_I x), a.2.2)))
  | _ => none
def op_zret : am_O := fun a => match a.2.1 with
  | [.inl x] => if am_bz x = true then some (.inr (.inr (some (am_I x), a.2.2))) else none
  | _ => none
def op_lret : am_O := fun a => match a.2.1 with
  | [.inr (.inl x)] => some (.inr (.inr (some (am_J x), a.2.2)))
  | _ => none
def op_aret : am_O := fun a => match a.2.1 with
  | [.inr (.inr q)] => some (.inr (.inr (some (.inr (.inr q)), a.2.2)))
  | _ => none
end
section
/-! THE LAYOUT: kinds of cells. 0 ServedAhead, 1 Page, 2 Law (0 statute, 1 draft), 3 Town (0 town, 1 picture, 2 trial), 4 Person (4 to a town; 12 spare, 13.. hunt, 20.. ledger), 5 Credits, 6 Hunt, 7 Ledger; arrays 8 letters, 9 terms, 10 worths, 11 sorts, 12 row, 13 Town.all, 14 Hunt.rows, 15 told, 16 Ledger.rows; 20 Kind, 21 ACTS, 22 ALL, 23 the script; 32 the reference, 40+k its array of slot k -/
def am_fkl : List (Nat × List Nat) := [(0, [2, 2, 2, 2, 2, 2, 2, 2, 1, 0, 0, 0]), (1, [2, 2, 0, 0, 0]), (2, [2, 2, 2, 0]), (3, [2, 0, 0, 0, 0]), (4, [2, 3, 0, 0, 1, 1]), (5, [2, 0]), (6, [2, 0, 0, 0, 0, 0]), (7, [2, 2, 1, 0, 0, 0, 0]), (32, [1, 0, 0, 2, 2, 2, 0, 0, 2, 2, 2, 2, 2, 2, 2, 0, 0, 2, 0, 1, 0, 0, 2, 2, 2, 2, 2, 2, 2, 2, 0, 0, 0, 0, 2, 0, 0, 0, 0, 0, 0, 2, 0, 0, 4, 0, 2, 2, 2, 2, 2, 1, 0, 0, 2, 2, 2, 2, 2, 2, 4])]
def am_look {α : Type} (l : List (Nat × α)) (d : α) (t : Nat) : α := match l with
  | [] => d
  | q :: r => bif Nat.beq q.1 t then q.2 else am_look r d t
/-- a slot: 0 int, 1 boolean, 2 a fixed reference, 3 a KIND, 4 a long -/
def am_fk (t k : Nat) : Nat := (am_look am_fkl [] t).getD k 0
def am_nf (t : Nat) : Nat := (am_look am_fkl [] t).length
def am_ci (t : Nat) : Nat := am_look [(0, 7), (1, 4), (2, 2), (3, 6), (4, 5), (5, 0), (6, 1), (7, 3), (32, 8)] 9 t
/-- 0 an object, 1 an array of ints, 2 of bytes, 3 of Persons -/
def am_akl : List (Nat × (Nat × Nat)) := [(8, (1, 30)), (9, (1, 4)), (10, (1, 4)), (11, (1, 4)), (12, (1, 12)), (13, (3, 4)), (14, (3, 7)), (15, (1, 5)), (16, (3, 5)), (43, (1, 4)), (44, (1, 4)), (45, (1, 4)), (48, (1, 5)), (49, (1, 5)), (50, (1, 5)), (51, (1, 5)), (52, (1, 5)), (53, (1, 5)), (54, (1, 60)), (57, (2, 30)), (62, (1, 4)), (63, (1, 4)), (64, (1, 4)), (65, (1, 8)), (66, (1, 8)), (67, (1, 8)), (68, (1, 96)), (69, (1, 8)), (74, (1, 5)), (81, (1, 12)), (86, (1, 4)), (87, (1, 4)), (88, (1, 4)), (89, (1, 4)), (90, (1, 48)), (94, (1, 4)), (95, (1, 4)), (96, (1, 4)), (97, (1, 4)), (98, (1, 4)), (99, (1, 48))]
def am_ak (t : Nat) : Nat := (am_look am_akl (0, 0) t).1
def am_len (t : Nat) : Nat := (am_look am_akl (0, 0) t).2
/-- where a fixed reference leads -/
def am_ref (t k i : Nat) : Nat × Nat := match t with
  | 0 => (match k with
    | 0 => (1, 0)
    | 1 => (2, 0)
    | 2 => (3, 0)
    | 3 => (3, 1)
    | 4 => (3, 2)
    | 5 => (4, 12)
    | 6 => (6, 0)
    | _ => (7, 0))
  | 1 => (match k with
    | 0 => (8, 0)
    | _ => (2, 1))
  | 2 => (match k with
    | 0 => (9, i)
    | 1 => (10, i)
    | _ => (11, i))
  | 7 => (match k with
    | 0 => (15, 0)
    | _ => (16, 0))
  | 3 => (13, i)
  | 4 => (5, i)
  | 5 => (12, i)
  | 6 => (14, 0)
  | _ => (40 + k, 0)
def am_el (t i q : Nat) : Nat := match t with
  | 13 => 4 * i + q
  | 14 => 13 + q
  | _ => 20 + q
def am_keys : List (Nat × Nat) := [(0, 0), (1, 0), (2, 0), (2, 1), (3, 0), (3, 1), (3, 2), (4, 0), (4, 1), (4, 2), (4, 3), (4, 4), (4, 5), (4, 6), (4, 7), (4, 8), (4, 9), (4, 10), (4, 11), (4, 12), (4, 13), (4, 14), (4, 15), (4, 16), (4, 17), (4, 18), (4, 19), (4, 20), (4, 21), (4, 22), (4, 23), (4, 24), (5, 0), (5, 1), (5, 2), (5, 3), (5, 4), (5, 5), (5, 6), (5, 7), (5, 8), (5, 9), (5, 10), (5, 11), (5, 12), (5, 13), (5, 14), (5, 15), (5, 16), (5, 17), (5, 18), (5, 19), (5, 20), (5, 21), (5, 22), (5, 23), (5, 24), (6, 0), (7, 0), (32, 0), (8, 0), (9, 0), (9, 1), (10, 0), (10, 1), (11, 0), (11, 1), (12, 0), (12, 1), (12, 2), (12, 3), (12, 4), (12, 5), (12, 6), (12, 7), (12, 8), (12, 9), (12, 10), (12, 11), (12, 12), (12, 13), (12, 14), (12, 15), (12, 16), (12, 17), (12, 18), (12, 19), (12, 20), (12, 21), (12, 22), (12, 23), (12, 24), (13, 0), (13, 1), (13, 2), (14, 0), (15, 0), (16, 0), (43, 0), (44, 0), (45, 0), (48, 0), (49, 0), (50, 0), (51, 0), (52, 0), (53, 0), (54, 0), (57, 0), (62, 0), (63, 0), (64, 0), (65, 0), (66, 0), (67, 0), (68, 0), (69, 0), (74, 0), (81, 0), (86, 0), (87, 0), (88, 0), (89, 0), (90, 0), (94, 0), (95, 0), (96, 0), (97, 0), (98, 0), (99, 0)]
def am_acts : List Int32 := [0, 1, 2, 10, 11, 12, 13, 20, 21, 22, 23]
def op_gr (t k nx : Nat) : am_O := fun a => match a.2.1 with
  | .inr (.inr q) :: r => bif Nat.beq q.1 t then some (.inl (nx, (a.1, (.inr (.inr (am_ref t k q.2)) :: r, a.2.2)))) else none
  | _ => none
def op_al (t nx : Nat) : am_O := fun a => match a.2.1 with
  | .inr (.inr q) :: r => bif Nat.beq q.1 t then some (.inl (nx, (a.1, (am_I (nI (am_len t)) :: r, a.2.2)))) else none
  | _ => none
/-- a place of an array of ints or bytes is read -/
def op_ia (t nx : Nat) : am_O := fun a => match a.2.1 with
  | .inl j :: .inr (.inr q) :: r => bif Nat.beq q.1 t then (if am_inB j (am_len t) = true then some (.inl (nx, (a.1, (am_I (xA (am_s t a.2.2) t q.2 j.toNatClampNeg) :: r, a.2.2)))) else none) else none
  | _ => none
def op_is (t nx : Nat) : am_O := fun a => match a.2.1 with
  | .inl v :: .inl j :: .inr (.inr q) :: r => bif Nat.beq q.1 t then (if am_inB j (am_len t) = true then some (.inl (nx, (a.1, (r, am_p t a.2.2 (sA (am_s t a.2.2) t q.2 j.toNatClampNeg v))))) else none) else none
  | _ => none
def op_bs (t nx : Nat) : am_O := fun a => match a.2.1 with
  | .inl v :: .inl j :: .inr (.inr q) :: r => bif Nat.beq q.1 t then (if am_inB j (am_len t) = true then some (.inl (nx, (a.1, (r, am_p t a.2.2 (sA (am_s t a.2.2) t q.2 j.toNatClampNeg v.toInt8.toInt32))))) else none) else none
  | _ => none
def op_aa (t nx : Nat) : am_O := fun a => match a.2.1 with
  | .inl j :: .inr (.inr q) :: r => bif Nat.beq q.1 t then (if am_inB j (am_len t) = true then some (.inl (nx, (a.1, (am_R 4 (am_el t q.2 j.toNatClampNeg) :: r, a.2.2)))) else none) else none
  | _ => none
/-- ACTS, and the KINDs' own array -/
def op_tl (t n nx : Nat) : am_O := fun a => match a.2.1 with
  | .inr (.inr q) :: r => bif Nat.beq q.1 t then some (.inl (nx, (a.1, (am_I (nI n) :: r, a.2.2)))) else none
  | _ => none
def op_ti (nx : Nat) : am_O := fun a => match a.2.1 with
  | .inl j :: .inr (.inr q) :: r => bif Nat.beq q.1 21 then (if am_inB j 11 = true then some (.inl (nx, (a.1, (am_I (am_acts.getD j.toNatClampNeg 0) :: r, a.2.2)))) else none) else none
  | _ => none
def op_tk (nx : Nat) : am_O := fun a => match a.2.1 with
  | .inl j :: .inr (.inr q) :: r => bif Nat.beq q.1 22 then (if am_inB j 5 = true then some (.inl (nx, (a.1, (am_R 20 j.toNatClampNeg :: r, a.2.2)))) else none) else none
  | _ => none
def op_si (xs : Nat → Int32) (L nx : Nat) : am_O := fun a => match a.2.1 with
  | .inl j :: .inr (.inr q) :: r => bif Nat.beq q.1 23 then (if am_inB j L = true then some (.inl (nx, (a.1, (am_I (xs j.toNatClampNeg) :: r, a.2.2)))) else none) else none
  | _ => none
end
section
/-! WHAT THE ABSTRACT MACHINE'S STATES ARE ON THE MACHINE -/
def am_cv (ad : Nat → Nat → Nat) (v : am_V) : Value := match v with
  | .inl x => .int x
  | .inr (.inl x) => .long x
  | .inr (.inr q) => .ref (ad q.1 q.2)
def am_cp (ad : Nat → Nat → Nat) (q : Nat × am_V) : Nat × Value := (q.1, am_cv ad q.2)
theorem am_cat (ad : Nat → Nat → Nat) (v : am_V) : ((am_cv ad v).category == 2) = am_isL v := by
  rcases v with x | x | q <;> rfl
theorem am_cat' (ad : Nat → Nat → Nat) (v : am_V) : (am_cv ad v).category = (bif am_isL v then 2 else 1) := by
  rcases v with x | x | q <;> rfl
theorem am_cat1 (ad : Nat → Nat → Nat) {v : am_V} (h : am_isL v = false) : (am_cv ad v).category = 1 := by
  rw [am_cat', h]; rfl
theorem am_get_mem {lv : am_LV} {i : Nat} {v : am_V} (h : am_get lv i = some v) : (i, v) ∈ lv := by
  induction lv with
  | nil => cases h
  | cons q r ih =>
    unfold am_get at h
    cases hq : Nat.beq q.1 i with
    | true =>
      rw [hq] at h
      have e1 : q.1 = i := Nat.eq_of_beq_eq_true hq
      have e2 : q.2 = v := Option.some.inj h
      subst e1; subst e2
      exact List.mem_cons_self
    | false =>
      rw [hq] at h
      exact List.mem_cons_of_mem _ (ih h)
theorem am_get_at {ad : Nat → Nat → Nat} {ls : Array Slot} {nL : Nat} {lv : am_LV} {i : Nat} {v : am_V} (h : am_get lv i = some v) (hl : lv_has ls nL (lv.map (am_cp ad))) : ls[i]? = some (.val (am_cv ad v)) :=
  hl.2.2 (i, am_cv ad v) (List.mem_map.mpr ⟨(i, v), am_get_mem h, rfl⟩)
theorem am_st1_map (ad : Nat → Nat → Nat) (lv : am_LV) (i : Nat) (v : am_V) : (am_st1 lv i v).map (am_cp ad) = (i, am_cv ad v) :: (lv.map (am_cp ad)).filter (fun q => !(q.1 == i) && !(q.1 + 1 == i && q.2.category == 2)) := by
  unfold am_st1
  rw [List.map_cons, List.filter_map]
  refine congrArg (_ :: ·) (congrArg (List.map _) (List.filter_congr fun q _ => ?_))
  show _ = (!(q.1 == i) && !(q.1 + 1 == i && (am_cv ad q.2).category == 2))
  rw [am_cat]
theorem am_st2_map (ad : Nat → Nat → Nat) (lv : am_LV) (i : Nat) (v : am_V) : (am_st2 lv i v).map (am_cp ad) = (i, am_cv ad v) :: (lv.map (am_cp ad)).filter (fun q => !(q.1 == i) && (!(q.1 == i + 1) && !(q.1 + 1 == i && q.2.category == 2))) := by
  unfold am_st2
  rw [List.map_cons, List.filter_map]
  refine congrArg (_ :: ·) (congrArg (List.map _) (List.filter_congr fun q _ => ?_))
  show _ = (!(q.1 == i) && (!(q.1 == i + 1) && !(q.1 + 1 == i && (am_cv ad q.2).category == 2)))
  rw [am_cat]
theorem am_args_map (ad : Nat → Nat → Nat) : ∀ (i : Nat) (as : List am_V), (am_args i as).map (am_cp ad) = lv_args i (as.map (am_cv ad)) := by
  intro i as
  induction as generalizing i with
  | nil => rfl
  | cons v vs ih =>
    show am_cp ad (i, v) :: (am_args (bif am_isL v then i + 2 else i + 1) vs).map (am_cp ad) = (i, am_cv ad v) :: lv_args (if (am_cv ad v).category = 2 then i + 2 else i + 1) (vs.map (am_cv ad))
    rw [ih]
    cases hv : am_isL v with
    | true => rw [if_pos (by rw [am_cat', hv]; rfl)]; rfl
    | false => rw [if_neg (by rw [am_cat', hv]; decide)]; rfl
theorem am_sel_map (ad : Nat → Nat → Nat) (ks : List Nat) (lv : am_LV) : (am_sel ks lv).map (am_cp ad) = lv_pick (lv.map (am_cp ad)) ks := by
  unfold am_sel lv_pick
  rw [List.map_filterMap]
  exact congrArg (fun f => List.filterMap f ks) (funext fun k => by rw [List.getElem?_map])
theorem am_sel_mem {ks : List Nat} {lv : am_LV} {q : Nat × am_V} (h : q ∈ am_sel ks lv) : q ∈ lv := by
  obtain ⟨k, -, hk⟩ := List.mem_filterMap.mp h
  exact List.mem_of_getElem? hk
theorem am_cs_sl (ad : Nat → Nat → Nat) (as : List am_V) : (lg_sl (as.map (am_cv ad))).length = am_cs as := by
  induction as with
  | nil => rfl
  | cons v vs ih =>
    unfold am_cs
    rw [← ih]
    unfold lg_sl
    rw [List.map_cons, List.flatMap_cons, List.length_append]
    congr 1
    cases hv : am_isL v with
    | true => rw [if_pos (by rw [am_cat', hv]; rfl)]; rfl
    | false => rw [if_neg (by rw [am_cat', hv]; decide)]; rfl
theorem am_cs_cat (ad : Nat → Nat → Nat) (as : List am_V) : ((as.map (am_cv ad)).map fun v => v.category).sum = am_cs as := by
  induction as with
  | nil => rfl
  | cons v vs ih =>
    unfold am_cs
    rw [List.map_cons, List.map_cons, List.sum_cons, ih, am_cat']
theorem am_inB_iff {i : Int32} {n : Nat} (h : am_inB i n = true) : vp_in i n := by
  unfold am_inB at h
  rw [Bool.and_eq_true, decide_eq_true_eq, decide_eq_true_eq] at h
  exact vp_in_iff.mpr h
theorem am_bz_nar {v : Int32} (h : am_bz v = true) : narrow .boolean (.int v) = .int v := by
  unfold am_bz at h
  rw [Bool.or_eq_true, decide_eq_true_eq, decide_eq_true_eq] at h
  rcases h with rfl | rfl <;> rfl
theorem am_bz_fit {v : Int32} (h : am_bz v = true) : fits .boolean (.int v) = true := by
  unfold am_bz at h
  rw [Bool.or_eq_true, decide_eq_true_eq, decide_eq_true_eq] at h
  rcases h with rfl | rfl <;> rfl
/-! the world -/
def am_fv (ad : Nat → Nat → Nat) (M : am_W) (t i k : Nat) : Value := match am_fk t k with
  | 2 => .ref (ad (am_ref t k i).1 (am_ref t k i).2)
  | 3 => .ref (ad 20 (xK M.1 i))
  | 4 => .long (xL M.2 k)
  | _ => .int (xF (am_s t M) t k i)
def am_cell (ad : Nat → Nat → Nat) (ca : Nat → ClassId) (M : am_W) (t i : Nat) : va_E := match am_ak t with
  | 0 => .inr (am_ci t, (List.range (am_nf t)).map (am_fv ad M t i))
  | 1 => .inl (ca 0, am_len t, .inl (fun q => xA (am_s t M) t i q))
  | 2 => .inl (ca 1, am_len t, .inl (fun q => xA (am_s t M) t i q))
  | _ => .inl (ca 2, am_len t, .inr (.inr (.inr (.inr (fun q => some (ad 4 (am_el t i q)))))))
def am_enc (ad : Nat → Nat → Nat) (ca : Nat → ClassId) (M : am_W) : va_W := am_keys.map (fun q => (ad q.1 q.2, am_cell ad ca M q.1 q.2))
def am_Wd (ad : Nat → Nat → Nat) (ca : Nat → ClassId) (D : va_G) (A : Nat → Prop) (M : am_W) (H : Heap) : Prop := va_P D vwCl (am_enc ad ca M) H ∧ va_D A (am_enc ad ca M)
theorem am_place {t i : Nat} (h : (t, i) ∈ am_keys) : ∃ q0 : Nat, am_keys[q0]? = some (t, i) := List.mem_iff_getElem?.mp h
theorem am_enc_at {ad : Nat → Nat → Nat} {ca : Nat → ClassId} {M : am_W} {t i q0 : Nat} (h : am_keys[q0]? = some (t, i)) : (am_enc ad ca M)[q0]? = some (ad t i, am_cell ad ca M t i) := by
  unfold am_enc
  rw [List.getElem?_map, h]
  rfl
theorem am_keys_nd : ∀ i, i < am_keys.length → ∀ j, j < am_keys.length → am_keys[i]? = am_keys[j]? → i = j := by decide +kernel
/-- one cell changes: the list is set at its place -/
theorem am_enc_set {ad : Nat → Nat → Nat} {ca : Nat → ClassId} {M M' : am_W} {t i q0 : Nat} {x : va_E} (h : am_keys[q0]? = some (t, i)) (hx : am_cell ad ca M' t i = x) (ho : ∀ t' i', (t', i') ≠ (t, i) → (t', i') ∈ am_keys → am_cell ad ca M' t' i' = am_cell ad ca M t' i') : (am_enc ad ca M).set q0 (ad t i, x) = am_enc ad ca M' := by
  apply List.ext_getElem?
  intro k
  unfold am_enc
  rw [List.getElem?_map]
  by_cases hk : k = q0
  · subst hk
    rw [List.getElem?_set_self (by rw [List.length_map]; exact (List.getElem?_eq_some_iff.mp h).1), h]
    show _ = some (ad t i, am_cell ad ca M' t i)
    rw [hx]
  · rw [List.getElem?_set_ne (Ne.symm hk), List.getElem?_map]
    cases hq : am_keys[k]? with
    | none => rfl
    | some q =>
      have hne : (q.1, q.2) ≠ (t, i) := by
        intro e
        exact hk (am_keys_nd k (List.getElem?_eq_some_iff.mp hq).1 q0 (List.getElem?_eq_some_iff.mp h).1 (by rw [hq, h]; exact congrArg some e))
      show some (ad q.1 q.2, am_cell ad ca M q.1 q.2) = some (ad q.1 q.2, am_cell ad ca M' q.1 q.2)
      rw [ho q.1 q.2 hne (List.mem_of_getElem? hq)]
theorem am_range_set {α : Type} (f g : Nat → α) (n k : Nat) (v : α) (hk : k < n) (hv : g k = v) (ho : ∀ j, j ≠ k → g j = f j) : ((List.range n).map f).set k v = (List.range n).map g := by
  apply List.ext_getElem?
  intro j
  by_cases hj : j = k
  · subst hj
    rw [List.getElem?_set_self (by rw [List.length_map, List.length_range]; exact hk), List.getElem?_map, List.getElem?_range hk]
    exact congrArg some hv.symm
  · rw [List.getElem?_set_ne (Ne.symm hj), List.getElem?_map, List.getElem?_map]
    by_cases hn : j < n
    · rw [List.getElem?_range hn]
      exact congrArg some (ho j hj).symm
    · rw [List.getElem?_eq_none (by rw [List.length_range]; omega)]
      rfl
theorem am_u3_self {α : Type} (f : Nat → Nat → Nat → α) (a b c : Nat) (v : α) : am_u3 f a b c v a b c = v := by
  unfold am_u3
  rw [Nat.beq_refl, Nat.beq_refl, Nat.beq_refl]
  rfl
theorem am_u3_ne {α : Type} (f : Nat → Nat → Nat → α) {a b c a' b' c' : Nat} (v : α) (h : ¬ (a' = a ∧ b' = b ∧ c' = c)) : am_u3 f a b c v a' b' c' = f a' b' c' := by
  unfold am_u3
  cases hb : (Nat.beq a' a && (Nat.beq b' b && Nat.beq c' c)) with
  | false => rfl
  | true =>
    rw [Bool.and_eq_true, Bool.and_eq_true] at hb
    exact absurd ⟨Nat.eq_of_beq_eq_true hb.1, Nat.eq_of_beq_eq_true hb.2.1, Nat.eq_of_beq_eq_true hb.2.2⟩ h
theorem am_u1_self {α : Type} (f : Nat → α) (a : Nat) (v : α) : am_u1 f a v a = v := by
  unfold am_u1
  rw [Nat.beq_refl]
  rfl
theorem am_u1_ne {α : Type} (f : Nat → α) {a a' : Nat} (v : α) (h : ¬ a' = a) : am_u1 f a v a' = f a' := by
  unfold am_u1
  cases hb : Nat.beq a' a with
  | false => rfl
  | true => exact absurd (Nat.eq_of_beq_eq_true hb) h
theorem am_s_p (t : Nat) (M : am_W) (x : am_X) : am_s t (am_p t M x) = x := by
  unfold am_s am_p
  cases Nat.ble 32 t <;> rfl
/-- another kind's memory, when t's is put: the same, or the other one -/
theorem am_s_p' (t t' : Nat) (M : am_W) (x : am_X) : am_s t' (am_p t M x) = x ∧ am_s t' M = am_s t M ∨ am_s t' (am_p t M x) = am_s t' M := by
  unfold am_s am_p
  cases Nat.ble 32 t <;> cases Nat.ble 32 t' <;> first | exact Or.inl ⟨rfl, rfl⟩ | exact Or.inr rfl
theorem am_xF_put {t k i : Nat} {M : am_W} {v : Int32} (t' k' i' : Nat) : xF (am_s t' (am_p t M (sF (am_s t M) t k i v))) t' k' i' = if t' = t ∧ k' = k ∧ i' = i then v else xF (am_s t' M) t' k' i' := by
  split
  · rename_i h
    obtain ⟨rfl, rfl, rfl⟩ := h
    rw [am_s_p]
    exact am_u3_self _ _ _ _ _
  · rename_i h
    rcases am_s_p' t t' M (sF (am_s t M) t k i v) with ⟨e1, e2⟩ | e
    · rw [e1, e2]
      exact am_u3_ne _ _ h
    · rw [e]
theorem am_xA_putF {t k i : Nat} {M : am_W} {v : Int32} (t' i' q' : Nat) : xA (am_s t' (am_p t M (sF (am_s t M) t k i v))) t' i' q' = xA (am_s t' M) t' i' q' := by
  rcases am_s_p' t t' M (sF (am_s t M) t k i v) with ⟨e1, e2⟩ | e
  · rw [e1, e2]; rfl
  · rw [e]
theorem am_xA_put {t i q : Nat} {M : am_W} {v : Int32} (t' i' q' : Nat) : xA (am_s t' (am_p t M (sA (am_s t M) t i q v))) t' i' q' = if t' = t ∧ i' = i ∧ q' = q then v else xA (am_s t' M) t' i' q' := by
  split
  · rename_i h
    obtain ⟨rfl, rfl, rfl⟩ := h
    rw [am_s_p]
    exact am_u3_self _ _ _ _ _
  · rename_i h
    rcases am_s_p' t t' M (sA (am_s t M) t i q v) with ⟨e1, e2⟩ | e
    · rw [e1, e2]
      exact am_u3_ne _ _ h
    · rw [e]
theorem am_xF_putA {t i q : Nat} {M : am_W} {v : Int32} (t' k' i' : Nat) : xF (am_s t' (am_p t M (sA (am_s t M) t i q v))) t' k' i' = xF (am_s t' M) t' k' i' := by
  rcases am_s_p' t t' M (sA (am_s t M) t i q v) with ⟨e1, e2⟩ | e
  · rw [e1, e2]; rfl
  · rw [e]
theorem am_xK_putF {t k i : Nat} {M : am_W} {v : Int32} : (am_p t M (sF (am_s t M) t k i v)).1.2.2 = M.1.2.2 ∧ (am_p t M (sF (am_s t M) t k i v)).2.2.2 = M.2.2.2 := by
  unfold am_p am_s
  cases Nat.ble 32 t <;> exact ⟨rfl, rfl⟩
theorem am_xK_putA {t i q : Nat} {M : am_W} {v : Int32} : (am_p t M (sA (am_s t M) t i q v)).1.2.2 = M.1.2.2 ∧ (am_p t M (sA (am_s t M) t i q v)).2.2.2 = M.2.2.2 := by
  unfold am_p am_s
  cases Nat.ble 32 t <;> exact ⟨rfl, rfl⟩
theorem am_fv_eq {ad : Nat → Nat → Nat} {M M' : am_W} {t i k : Nat} (h1 : xK M'.1 i = xK M.1 i) (h2 : xL M'.2 k = xL M.2 k) (h3 : xF (am_s t M') t k i = xF (am_s t M) t k i) : am_fv ad M' t i k = am_fv ad M t i k := by
  unfold am_fv
  rw [h1, h2, h3]
theorem am_cell_obj {ad : Nat → Nat → Nat} {ca : Nat → ClassId} {M : am_W} {t i : Nat} (h : am_ak t = 0) : am_cell ad ca M t i = .inr (am_ci t, (List.range (am_nf t)).map (am_fv ad M t i)) := by
  unfold am_cell
  rw [h]
  rfl
theorem am_cell_int {ad : Nat → Nat → Nat} {ca : Nat → ClassId} {M : am_W} {t i : Nat} (h : am_ak t = 1) : am_cell ad ca M t i = .inl (ca 0, am_len t, .inl (fun q => xA (am_s t M) t i q)) := by
  unfold am_cell
  rw [h]
  rfl
theorem am_cell_byte {ad : Nat → Nat → Nat} {ca : Nat → ClassId} {M : am_W} {t i : Nat} (h : am_ak t = 2) : am_cell ad ca M t i = .inl (ca 1, am_len t, .inl (fun q => xA (am_s t M) t i q)) := by
  unfold am_cell
  rw [h]
  rfl
theorem am_cell_per {ad : Nat → Nat → Nat} {ca : Nat → ClassId} {M : am_W} {t i : Nat} (h : am_ak t = 3) : am_cell ad ca M t i = .inl (ca 2, am_len t, .inr (.inr (.inr (.inr (fun q => some (ad 4 (am_el t i q))))))) := by
  unfold am_cell
  rw [h]
  rfl
theorem am_cell_eq {ad : Nat → Nat → Nat} {ca : Nat → ClassId} {M M' : am_W} {t i : Nat} (h1 : am_ak t = 0 → ∀ k, k < am_nf t → am_fv ad M' t i k = am_fv ad M t i k) (h2 : ∀ q, xA (am_s t M') t i q = xA (am_s t M) t i q) : am_cell ad ca M' t i = am_cell ad ca M t i := by
  unfold am_cell
  split
  · rename_i h
    refine congrArg Sum.inr (congrArg (Prod.mk _) (List.map_congr_left fun k hk => h1 h k (List.mem_range.mp hk)))
  · rw [show (fun q => xA (am_s t M') t i q) = (fun q => xA (am_s t M) t i q) from funext h2]
  · rw [show (fun q => xA (am_s t M') t i q) = (fun q => xA (am_s t M) t i q) from funext h2]
  · rfl
end
section
/-! SOUNDNESS OF THE OPS -/
def am_gw (w : Cond) : Bool := (w.onTables && w.keeps) || (match w with
  | .fieldLinkNest .. => true
  | .methodLinkNest .. => true
  | _ => false)
/-- the tables' words, at a state -/
def am_En (U : State) : Prop := ∀ w ∈ lw_tbl, am_gw w = true → va_Nw w U
theorem am_gw_on {w : Cond} (h : am_gw w = true) : w.onTables = true := by
  unfold am_gw at h
  rw [Bool.or_eq_true] at h
  rcases h with h | h
  · rw [Bool.and_eq_true] at h
    exact h.1
  · cases w <;> first | rfl | cases h
theorem am_En.warm {s U : State} (h : am_En s) (hW : s.WarmedH U.vm) : am_En U := by
  intro w hw hg
  have h1 := h w hw hg
  unfold am_gw at hg
  rw [Bool.or_eq_true] at hg
  rcases hg with hg | hg
  · exact word_at hW (Or.inl hg) h1
  · cases w <;> first | exact va_Nw.warmF hW h1 | exact va_Nw.warmM hW h1 | cases hg
theorem am_En.same {u U : State} (h : am_En u) (e : u.vm = U.vm) : am_En U := fun w hw hg => va_Nw.same (am_gw_on hg) e (h w hw hg)
def am_kn : List String := ["PERSON", "WIDOW", "MONK", "THIEF", "BARON"]
def am_kF : List (String × String × String × List Int32) := [("ServedAhead$Kind", "number", "I", [0, 1, 2, 3, 4]), ("ServedAhead$Kind", "needsLess", "I", [0, 1, 0, 0, 0]), ("ServedAhead$Kind", "getsMore", "I", [0, 0, 0, 1, 1]), ("ServedAhead$Kind", "givenAWeek", "I", [1, 1, 2, 1, 1]), ("ServedAhead$Kind", "owesTimes", "I", [2, 2, 2, 2, 1])]
/-- what is never written: the KINDs, ACTS, the KINDs' array -/
def am_RO (ad : Nat → Nat → Nat) (A : Nat → Prop) (U : State) (H : Heap) : Prop :=
  va_En "ServedAhead$Kind" "LServedAhead$Kind;" am_kn am_kF (ad 20) A U H ∧ va_Z "ServedAhead" "ACTS" "[I" (.ref (ad 21 0)) A U H ∧ va_T .int (ad 21 0) 11 (fun q => .int (am_acts.getD q 0)) A U H ∧ va_Z "ServedAhead$Kind" "ALL" "[LServedAhead$Kind;" (.ref (ad 22 0)) A U H ∧ va_T (.object "ServedAhead$Kind") (ad 22 0) 5 (fun q => .ref (ad 20 q)) A U H
theorem am_RO.moved {ad : Nat → Nat → Nat} {A : Nat → Prop} {u U : State} {H : Heap} (hvm : u.vm.Alike U.vm) (h : am_RO ad A u H) : am_RO ad A U H := ⟨h.1.moved hvm, h.2.1.moved hvm, h.2.2.1.moved hvm, h.2.2.2.1.moved hvm, h.2.2.2.2.moved hvm⟩
theorem am_RO.kept {ad : Nat → Nat → Nat} {A : Nat → Prop} {U : State} {H H1 : Heap} (h : am_RO ad A U H) (hq : ∀ a : Nat, a < H.size → ¬ A a → H1[a]? = H[a]?) : am_RO ad A U H1 := ⟨h.1.kept hq, h.2.1.kept hq, h.2.2.1.kept hq, h.2.2.2.1.kept hq, h.2.2.2.2.kept hq⟩
abbrev am_tys (ca : Nat → ClassId) : List (ClassId × FieldType) := [(ca 0, .int), (ca 1, .byte), (ca 2, .object "ServedAhead$Person")]
/-- a method's code, its locals' words, its answer's type, its class -/
abbrev am_In : Type := ByteArray × (Nat × (Option FieldType × String))
def am_Cx (I : am_In) (ad : Nat → Nat → Nat) (ca : Nat → ClassId) (D : va_G) (A : Nat → Prop) (nc ns : Nat) (p : Program) (R : Room) (s : State) (m : MethodId) (args : Array Value) (meth : Method) (c : Code) : Prop :=
  p.tables.exec = Jvm.exec ∧ c.code = I.1 ∧ meth.sig.returnType = I.2.2.1 ∧ c.maxLocals = I.2.1 ∧ s.vm.findClass I.2.2.2 = some m.cls ∧ meth.locks = false ∧ am_En s ∧ am_RO ad A s s.heap ∧ va_K D vwCl (am_tys ca) s ∧ nc ≤ R.cells ∧ ns ≤ R.slots ∧ 1 ≤ R.frames ∧ 40 ≤ R.locals
def am_vk (t i : Nat) : Prop := (t, i) ∈ am_keys ∨ (t = 20 ∧ i < 5) ∨ ((t = 21 ∨ t = 22 ∨ t = 23) ∧ i = 0)
def am_ov (v : am_V) : Prop := match v with
  | .inr (.inr q) => am_vk q.1 q.2
  | _ => True
def am_ok (a : am_S) : Prop := (∀ q ∈ a.1, am_ov q.2) ∧ (∀ v ∈ a.2.1, am_ov v) ∧ ∀ i, xK a.2.2.1 i < 5
def am_G (I : am_In) (ad : Nat → Nat → Nat) (ca : Nat → ClassId) (D : va_G) (A : Nat → Prop) (nc ns : Nat) (p : Program) (l : Launch) (e : Env) (R : Room) (s : State) (m : MethodId) (args : Array Value) (below : List Frame) (meth : Method) (c : Code) (Q : State → Prop) (pc : Nat) (a : am_S) : Prop :=
  ∀ (H : Heap) (locs : List Loc) (ls : Array Slot), am_Wd ad ca D A a.2.2 H → va_S A s.heap H locs → lv_has ls I.2.1 (a.1.map (am_cp ad)) → W p l e R s m args below meth c H locs nc ns Q (F0 m pc ls (a.2.1.map (am_cv ad)))
def am_rm (d : Nat) : Room := { frames := d, cells := 0, slots := 0, locals := 40 * d }
def am_Pc (ad : Nat → Nat → Nat) (ca : Nat → ClassId) (D : va_G) (A : Nat → Prop) (as : List am_V) (M : am_W) : Array Value → State → Prop := va_Pc (as.map (am_cv ad)) (fun U => am_En U ∧ am_RO ad A U U.heap ∧ va_K D vwCl (am_tys ca) U ∧ am_Wd ad ca D A M U.heap)
def am_Qc (ad : Nat → Nat → Nat) (ca : Nat → ClassId) (D : va_G) (A : Nat → Prop) (r : am_Q) : Array Value → State → Outcome → State → Prop := fun _ st oc t => oc = .returned (r.1.map (am_cv ad)) ∧ ((∀ v, r.1 = some v → am_ov v) ∧ ∀ i, xK r.2.1 i < 5) ∧ am_Wd ad ca D A r.2 t.heap ∧ va_F A st t
abbrev am_Me : Type := MethodName × (ByteArray × (Nat × Option FieldType))
def am_Mt (l : Launch) (d : Nat) (y : am_Me) (as : List am_V) (M : am_W) (r : am_Q) : Prop := ∀ (ad : Nat → Nat → Nat) (ca : Nat → ClassId) (D : va_G) (A : Nat → Prop), Met l y.1 [.code y.1 y.2.1 y.2.2.1 y.2.2.2] (am_rm d) (am_Pc ad ca D A as M) (am_Qc ad ca D A r) 0 0 A
def am_So (T : Nat → am_Me) (I : am_In) (pc : Nat) (op : am_O) : Prop := ∀ (ad : Nat → Nat → Nat) (ca : Nat → ClassId) (D : va_G) (A : Nat → Prop) (nc ns : Nat) (p : Program) (l : Launch) (e : Env) (R : Room) (s : State) (m : MethodId) (args : Array Value) (below : List Frame) (meth : Method) (c : Code), am_Cx I ad ca D A nc ns p R s m args meth c → ∀ (lv : am_LV) (st : List am_V) (M : am_W), am_ok (lv, (st, M)) → match op (lv, (st, M)) with
  | none => True
  | some (.inl b) => am_ok b.2 ∧ ∀ Q, am_G I ad ca D A nc ns p l e R s m args below meth c Q b.1 b.2 → am_G I ad ca D A nc ns p l e R s m args below meth c Q pc (lv, (st, M))
  | some (.inr (.inl b)) => (∀ v ∈ b.2.1, am_ov v) ∧ am_cs b.2.1 ≤ (T b.1).2.2.1 ∧ am_ok b.2.2.2 ∧ ∀ Q d r, am_Mt l d (T b.1) b.2.1 b.2.2.2.2.2 r → d + 1 ≤ R.frames → 40 * d + 40 ≤ R.locals → ((∀ v, r.1 = some v → am_ov v) → (∀ i, xK r.2.1 i < 5) → am_G I ad ca D A nc ns p l e R s m args below meth c Q b.2.2.1 (b.2.2.2.1, (am_push r.1 b.2.2.2.2.1, r.2))) → am_G I ad ca D A nc ns p l e R s m args below meth c Q pc (lv, (st, M))
  | some (.inr (.inr r)) => am_G I ad ca D A nc ns p l e R s m args below meth c (MQ below (am_Qc ad ca D A r) args s nc ns A) pc (lv, (st, M))
section SO
variable {T : Nat → am_Me} {I : am_In} {pc : Nat}
theorem am_ok_st {lv : am_LV} {st st' : List am_V} {M : am_W} (h : am_ok (lv, (st, M))) (h' : ∀ v ∈ st', am_ov v) : am_ok (lv, (st', M)) := ⟨h.1, h', h.2.2⟩
theorem am_ok_h {lv : am_LV} {v : am_V} {st : List am_V} {M : am_W} (h : am_ok (lv, (v :: st, M))) : am_ov v := h.2.1 _ List.mem_cons_self
theorem am_ok_t {lv : am_LV} {v : am_V} {st : List am_V} {M : am_W} (h : am_ok (lv, (v :: st, M))) : am_ok (lv, (st, M)) := ⟨h.1, fun w hw => h.2.1 w (List.mem_cons_of_mem _ hw), h.2.2⟩
theorem am_ok_c {lv : am_LV} {v : am_V} {st : List am_V} {M : am_W} (hv : am_ov v) (h : am_ok (lv, (st, M))) : am_ok (lv, (v :: st, M)) := ⟨h.1, fun w hw => (List.mem_cons.mp hw).elim (fun e => e ▸ hv) (h.2.1 w), h.2.2⟩
theorem am_ok_1 {lv : am_LV} {i : Nat} {v : am_V} {st : List am_V} {M : am_W} (hv : am_ov v) (h : am_ok (lv, (st, M))) : am_ok (am_st1 lv i v, (st, M)) := ⟨fun q hq => (List.mem_cons.mp hq).elim (fun e => by rw [e]; exact hv) (fun hq => h.1 q (List.mem_filter.mp hq).1), h.2⟩
theorem am_ok_2 {lv : am_LV} {i : Nat} {v : am_V} {st : List am_V} {M : am_W} (hv : am_ov v) (h : am_ok (lv, (st, M))) : am_ok (am_st2 lv i v, (st, M)) := ⟨fun q hq => (List.mem_cons.mp hq).elim (fun e => by rw [e]; exact hv) (fun hq => h.1 q (List.mem_filter.mp hq).1), h.2⟩
theorem so_none : am_So T I pc (fun _ => none) := by
  intro ad ca D A nc ns p l e R s m args below meth c C lv st M ok
  exact True.intro
theorem so_iload_n {i : Nat} {k : Fin 4} (hd : decode I.1 pc = .ok (.iload_n k, 1)) (hi : (k : Nat) = i) : am_So T I pc (op_li i (pc + 1)) := by
  intro ad ca D A nc ns p l e R s m args below meth c C lv st M ok
  have C0 := C
  obtain ⟨hx, hb, hr, hml, hown, hlk, hen, hro, hK, hnc, hns, hf1, hl1⟩ := C
  unfold op_li
  dsimp only
  cases hg : am_get lv i with
  | none => exact True.intro
  | some v =>
    rcases v with x | x | q
    · refine ⟨am_ok_c (ok.1 _ (am_get_mem hg)) ok, fun Q K H locs ls hW hS hl => ?_⟩
      exact lv_iload_n hx hb hd hi (am_get_at hg hl) (K H locs ls hW hS hl)
    · exact True.intro
    · exact True.intro
theorem so_iload {i : Nat} (hd : decode I.1 pc = .ok (.iload i, 2)) : am_So T I pc (op_li i (pc + 2)) := by
  intro ad ca D A nc ns p l e R s m args below meth c C lv st M ok
  have C0 := C
  obtain ⟨hx, hb, hr, hml, hown, hlk, hen, hro, hK, hnc, hns, hf1, hl1⟩ := C
  unfold op_li
  dsimp only
  cases hg : am_get lv i with
  | none => exact True.intro
  | some v =>
    rcases v with x | x | q
    · refine ⟨am_ok_c (ok.1 _ (am_get_mem hg)) ok, fun Q K H locs ls hW hS hl => ?_⟩
      exact lv_iload hx hb hd (am_get_at hg hl) (K H locs ls hW hS hl)
    · exact True.intro
    · exact True.intro
theorem so_lload_n {i : Nat} {k : Fin 4} (hd : decode I.1 pc = .ok (.lload_n k, 1)) (hi : (k : Nat) = i) : am_So T I pc (op_lj i (pc + 1)) := by
  intro ad ca D A nc ns p l e R s m args below meth c C lv st M ok
  have C0 := C
  obtain ⟨hx, hb, hr, hml, hown, hlk, hen, hro, hK, hnc, hns, hf1, hl1⟩ := C
  unfold op_lj
  dsimp only
  cases hg : am_get lv i with
  | none => exact True.intro
  | some v =>
    rcases v with x | x | q
    · exact True.intro
    · refine ⟨am_ok_c (ok.1 _ (am_get_mem hg)) ok, fun Q K H locs ls hW hS hl => ?_⟩
      exact lv_lload_n hx hb hd hi (am_get_at hg hl) (K H locs ls hW hS hl)
    · exact True.intro
theorem so_lload {i : Nat} (hd : decode I.1 pc = .ok (.lload i, 2)) : am_So T I pc (op_lj i (pc + 2)) := by
  intro ad ca D A nc ns p l e R s m args below meth c C lv st M ok
  have C0 := C
  obtain ⟨hx, hb, hr, hml, hown, hlk, hen, hro, hK, hnc, hns, hf1, hl1⟩ := C
  unfold op_lj
  dsimp only
  cases hg : am_get lv i with
  | none => exact True.intro
  | some v =>
    rcases v with x | x | q
    · exact True.intro
    · refine ⟨am_ok_c (ok.1 _ (am_get_mem hg)) ok, fun Q K H locs ls hW hS hl => ?_⟩
      exact lv_lload hx hb hd (am_get_at hg hl) (K H locs ls hW hS hl)
    · exact True.intro
theorem so_aload_n {i : Nat} {k : Fin 4} (hd : decode I.1 pc = .ok (.aload_n k, 1)) (hi : (k : Nat) = i) : am_So T I pc (op_lr i (pc + 1)) := by
  intro ad ca D A nc ns p l e R s m args below meth c C lv st M ok
  have C0 := C
  obtain ⟨hx, hb, hr, hml, hown, hlk, hen, hro, hK, hnc, hns, hf1, hl1⟩ := C
  unfold op_lr
  dsimp only
  cases hg : am_get lv i with
  | none => exact True.intro
  | some v =>
    rcases v with x | x | q
    · exact True.intro
    · exact True.intro
    · refine ⟨am_ok_c (ok.1 _ (am_get_mem hg)) ok, fun Q K H locs ls hW hS hl => ?_⟩
      exact lv_aload_n hx hb hd hi (am_get_at hg hl) (K H locs ls hW hS hl)
theorem so_aload {i : Nat} (hd : decode I.1 pc = .ok (.aload i, 2)) : am_So T I pc (op_lr i (pc + 2)) := by
  intro ad ca D A nc ns p l e R s m args below meth c C lv st M ok
  have C0 := C
  obtain ⟨hx, hb, hr, hml, hown, hlk, hen, hro, hK, hnc, hns, hf1, hl1⟩ := C
  unfold op_lr
  dsimp only
  cases hg : am_get lv i with
  | none => exact True.intro
  | some v =>
    rcases v with x | x | q
    · exact True.intro
    · exact True.intro
    · refine ⟨am_ok_c (ok.1 _ (am_get_mem hg)) ok, fun Q K H locs ls hW hS hl => ?_⟩
      exact lv_aload hx hb hd (am_get_at hg hl) (K H locs ls hW hS hl)
theorem so_iconst {n : Int} {v : Int32} (hd : decode I.1 pc = .ok (.iconst n, 1)) (hv : Int32.ofInt n = v) : am_So T I pc (op_c v (pc + 1)) := by
  intro ad ca D A nc ns p l e R s m args below meth c C lv st M ok
  have C0 := C
  obtain ⟨hx, hb, hr, hml, hown, hlk, hen, hro, hK, hnc, hns, hf1, hl1⟩ := C
  exact ⟨am_ok_c True.intro ok, fun Q K H locs ls hW hS hl => lv_iconst hx hb hd hv (K H locs ls hW hS hl)⟩
theorem so_bipush {n : Int} {v : Int32} (hd : decode I.1 pc = .ok (.bipush n, 2)) (hv : (Int8.ofInt n).toInt32 = v) : am_So T I pc (op_c v (pc + 2)) := by
  intro ad ca D A nc ns p l e R s m args below meth c C lv st M ok
  have C0 := C
  obtain ⟨hx, hb, hr, hml, hown, hlk, hen, hro, hK, hnc, hns, hf1, hl1⟩ := C
  exact ⟨am_ok_c True.intro ok, fun Q K H locs ls hW hS hl => lv_bipush hx hb hd hv (K H locs ls hW hS hl)⟩
theorem so_sipush {n : Int} {v : Int32} (hd : decode I.1 pc = .ok (.sipush n, 3)) (hv : (Int16.ofInt n).toInt32 = v) : am_So T I pc (op_c v (pc + 3)) := by
  intro ad ca D A nc ns p l e R s m args below meth c C lv st M ok
  have C0 := C
  obtain ⟨hx, hb, hr, hml, hown, hlk, hen, hro, hK, hnc, hns, hf1, hl1⟩ := C
  exact ⟨am_ok_c True.intro ok, fun Q K H locs ls hW hS hl => lv_sipush hx hb hd hv (K H locs ls hW hS hl)⟩
theorem so_ldc {index : Nat} {v : Int32} (hw : Cond.constant I.2.2.2 index v ∈ lw_tbl) (hd : decode I.1 pc = .ok (.ldc index, 2)) : am_So T I pc (op_c v (pc + 2)) := by
  intro ad ca D A nc ns p l e R s m args below meth c C lv st M ok
  have C0 := C
  obtain ⟨hx, hb, hr, hml, hown, hlk, hen, hro, hK, hnc, hns, hf1, hl1⟩ := C
  exact ⟨am_ok_c True.intro ok, fun Q K H locs ls hW hS hl => lv_ldc hx hb hown (va_Nw.use rfl (hen _ hw rfl)) hd (K H locs ls hW hS hl)⟩
theorem so_ldc2 {index : Nat} {v : Int64} (hw : Cond.constantLong I.2.2.2 index v ∈ lw_tbl) (hd : decode I.1 pc = .ok (.ldc2_w index, 3)) : am_So T I pc (op_cj v (pc + 3)) := by
  intro ad ca D A nc ns p l e R s m args below meth c C lv st M ok
  have C0 := C
  obtain ⟨hx, hb, hr, hml, hown, hlk, hen, hro, hK, hnc, hns, hf1, hl1⟩ := C
  exact ⟨am_ok_c True.intro ok, fun Q K H locs ls hW hS hl => lv_ldc2 hx hb hown (va_Nw.use rfl (hen _ hw rfl)) hd (K H locs ls hW hS hl)⟩
theorem so_istore_n {i : Nat} {k : Fin 4} (hd : decode I.1 pc = .ok (.istore_n k, 1)) (hi : (k : Nat) = i) (hn : i < I.2.1) : am_So T I pc (op_ist i (pc + 1)) := by
  intro ad ca D A nc ns p l e R s m args below meth c C lv st M ok
  have C0 := C
  obtain ⟨hx, hb, hr, hml, hown, hlk, hen, hro, hK, hnc, hns, hf1, hl1⟩ := C
  unfold op_ist
  dsimp only
  rcases st with _ | ⟨x | x | q, st⟩
  · exact True.intro
  · refine ⟨am_ok_1 (am_ok_h ok) (am_ok_t ok), fun Q K H locs ls hW hS hl => ?_⟩
    exact lv_istore_n hx hb hd hi hl hn (am_st1_map ad lv i (am_I x)).symm (fun ls' hl' => K H locs ls' hW hS hl')
  · exact True.intro
  · exact True.intro
theorem so_istore {i : Nat} (hd : decode I.1 pc = .ok (.istore i, 2)) (hn : i < I.2.1) : am_So T I pc (op_ist i (pc + 2)) := by
  intro ad ca D A nc ns p l e R s m args below meth c C lv st M ok
  have C0 := C
  obtain ⟨hx, hb, hr, hml, hown, hlk, hen, hro, hK, hnc, hns, hf1, hl1⟩ := C
  unfold op_ist
  dsimp only
  rcases st with _ | ⟨x | x | q, st⟩
  · exact True.intro
  · refine ⟨am_ok_1 (am_ok_h ok) (am_ok_t ok), fun Q K H locs ls hW hS hl => ?_⟩
    exact lv_istore hx hb hd hl hn (am_st1_map ad lv i (am_I x)).symm (fun ls' hl' => K H locs ls' hW hS hl')
  · exact True.intro
  · exact True.intro
theorem so_astore_n {i : Nat} {k : Fin 4} (hd : decode I.1 pc = .ok (.astore_n k, 1)) (hi : (k : Nat) = i) (hn : i < I.2.1) : am_So T I pc (op_ast i (pc + 1)) := by
  intro ad ca D A nc ns p l e R s m args below meth c C lv st M ok
  have C0 := C
  obtain ⟨hx, hb, hr, hml, hown, hlk, hen, hro, hK, hnc, hns, hf1, hl1⟩ := C
  unfold op_ast
  dsimp only
  rcases st with _ | ⟨x | x | q, st⟩
  · exact True.intro
  · exact True.intro
  · exact True.intro
  · refine ⟨am_ok_1 (am_ok_h ok) (am_ok_t ok), fun Q K H locs ls hW hS hl => ?_⟩
    exact lv_astore_n hx hb hd hi hl hn (am_st1_map ad lv i (.inr (.inr q))).symm (fun ls' hl' => K H locs ls' hW hS hl')
theorem so_astore {i : Nat} (hd : decode I.1 pc = .ok (.astore i, 2)) (hn : i < I.2.1) : am_So T I pc (op_ast i (pc + 2)) := by
  intro ad ca D A nc ns p l e R s m args below meth c C lv st M ok
  have C0 := C
  obtain ⟨hx, hb, hr, hml, hown, hlk, hen, hro, hK, hnc, hns, hf1, hl1⟩ := C
  unfold op_ast
  dsimp only
  rcases st with _ | ⟨x | x | q, st⟩
  · exact True.intro
  · exact True.intro
  · exact True.intro
  · refine ⟨am_ok_1 (am_ok_h ok) (am_ok_t ok), fun Q K H locs ls hW hS hl => ?_⟩
    exact lv_astore hx hb hd hl hn (am_st1_map ad lv i (.inr (.inr q))).symm (fun ls' hl' => K H locs ls' hW hS hl')
theorem so_lstore_n {i : Nat} {k : Fin 4} (hd : decode I.1 pc = .ok (.lstore_n k, 1)) (hi : (k : Nat) = i) (hn : i + 1 < I.2.1) : am_So T I pc (op_lst i (pc + 1)) := by
  intro ad ca D A nc ns p l e R s m args below meth c C lv st M ok
  have C0 := C
  obtain ⟨hx, hb, hr, hml, hown, hlk, hen, hro, hK, hnc, hns, hf1, hl1⟩ := C
  unfold op_lst
  dsimp only
  rcases st with _ | ⟨x | x | q, st⟩
  · exact True.intro
  · exact True.intro
  · refine ⟨am_ok_2 (am_ok_h ok) (am_ok_t ok), fun Q K H locs ls hW hS hl => ?_⟩
    exact lv_lstore_n hx hb hd hi hl hn (am_st2_map ad lv i (am_J x)).symm (fun ls' hl' => K H locs ls' hW hS hl')
  · exact True.intro
theorem so_lstore {i : Nat} (hd : decode I.1 pc = .ok (.lstore i, 2)) (hn : i + 1 < I.2.1) : am_So T I pc (op_lst i (pc + 2)) := by
  intro ad ca D A nc ns p l e R s m args below meth c C lv st M ok
  have C0 := C
  obtain ⟨hx, hb, hr, hml, hown, hlk, hen, hro, hK, hnc, hns, hf1, hl1⟩ := C
  unfold op_lst
  dsimp only
  rcases st with _ | ⟨x | x | q, st⟩
  · exact True.intro
  · exact True.intro
  · refine ⟨am_ok_2 (am_ok_h ok) (am_ok_t ok), fun Q K H locs ls hW hS hl => ?_⟩
    exact lv_lstore hx hb hd hl hn (am_st2_map ad lv i (am_J x)).symm (fun ls' hl' => K H locs ls' hW hS hl')
  · exact True.intro
theorem so_iinc {i : Nat} {n : Int} {v : Int32} (hd : decode I.1 pc = .ok (.iinc i n, 3)) (hv : Int32.ofInt n = v) (hn : i < I.2.1) : am_So T I pc (op_iinc i v (pc + 3)) := by
  intro ad ca D A nc ns p l e R s m args below meth c C lv st M ok
  have C0 := C
  obtain ⟨hx, hb, hr, hml, hown, hlk, hen, hro, hK, hnc, hns, hf1, hl1⟩ := C
  unfold op_iinc
  dsimp only
  cases hg : am_get lv i with
  | none => exact True.intro
  | some w =>
    rcases w with x | x | q
    · refine ⟨am_ok_1 True.intro ok, fun Q K H locs ls hW hS hl => ?_⟩
      obtain ⟨k, hk⟩ := List.mem_iff_getElem?.mp (am_get_mem hg)
      exact lv_iinc (k := k) hx hb hd hl (by rw [List.getElem?_map, hk]; rfl) (by rw [hv]) hn (am_st1_map ad lv i (am_I (x + v))).symm (fun ls' hl' => K H locs ls' hW hS hl')
    · exact True.intro
    · exact True.intro
theorem so_iadd (hd : decode I.1 pc = .ok (.iadd, 1)) : am_So T I pc (op_ii (fun x y => x + y) (pc + 1)) := by
  intro ad ca D A nc ns p l e R s m args below meth c C lv st M ok
  have C0 := C
  obtain ⟨hx, hb, hr, hml, hown, hlk, hen, hro, hK, hnc, hns, hf1, hl1⟩ := C
  unfold op_ii
  dsimp only
  rcases st with _ | ⟨y | y | y, _ | ⟨x | x | x, st⟩⟩
  · exact True.intro
  · exact True.intro
  · exact ⟨am_ok_c True.intro (am_ok_t (am_ok_t ok)), fun Q K H locs ls hW hS hl => lv_iadd hx hb hd (K H locs ls hW hS hl)⟩
  · exact True.intro
  · exact True.intro
  · exact True.intro
  · exact True.intro
  · exact True.intro
  · exact True.intro
  · exact True.intro
  · exact True.intro
  · exact True.intro
  · exact True.intro
theorem so_isub (hd : decode I.1 pc = .ok (.isub, 1)) : am_So T I pc (op_ii (fun x y => x - y) (pc + 1)) := by
  intro ad ca D A nc ns p l e R s m args below meth c C lv st M ok
  have C0 := C
  obtain ⟨hx, hb, hr, hml, hown, hlk, hen, hro, hK, hnc, hns, hf1, hl1⟩ := C
  unfold op_ii
  dsimp only
  rcases st with _ | ⟨y | y | y, _ | ⟨x | x | x, st⟩⟩
  · exact True.intro
  · exact True.intro
  · exact ⟨am_ok_c True.intro (am_ok_t (am_ok_t ok)), fun Q K H locs ls hW hS hl => lv_isub hx hb hd (K H locs ls hW hS hl)⟩
  · exact True.intro
  · exact True.intro
  · exact True.intro
  · exact True.intro
  · exact True.intro
  · exact True.intro
  · exact True.intro
  · exact True.intro
  · exact True.intro
  · exact True.intro
theorem so_imul (hd : decode I.1 pc = .ok (.imul, 1)) : am_So T I pc (op_ii (fun x y => x * y) (pc + 1)) := by
  intro ad ca D A nc ns p l e R s m args below meth c C lv st M ok
  have C0 := C
  obtain ⟨hx, hb, hr, hml, hown, hlk, hen, hro, hK, hnc, hns, hf1, hl1⟩ := C
  unfold op_ii
  dsimp only
  rcases st with _ | ⟨y | y | y, _ | ⟨x | x | x, st⟩⟩
  · exact True.intro
  · exact True.intro
  · exact ⟨am_ok_c True.intro (am_ok_t (am_ok_t ok)), fun Q K H locs ls hW hS hl => lv_imul hx hb hd (K H locs ls hW hS hl)⟩
  · exact True.intro
  · exact True.intro
  · exact True.intro
  · exact True.intro
  · exact True.intro
  · exact True.intro
  · exact True.intro
  · exact True.intro
  · exact True.intro
  · exact True.intro
theorem so_iand (hd : decode I.1 pc = .ok (.iand, 1)) : am_So T I pc (op_ii (fun x y => x &&& y) (pc + 1)) := by
  intro ad ca D A nc ns p l e R s m args below meth c C lv st M ok
  have C0 := C
  obtain ⟨hx, hb, hr, hml, hown, hlk, hen, hro, hK, hnc, hns, hf1, hl1⟩ := C
  unfold op_ii
  dsimp only
  rcases st with _ | ⟨y | y | y, _ | ⟨x | x | x, st⟩⟩
  · exact True.intro
  · exact True.intro
  · exact ⟨am_ok_c True.intro (am_ok_t (am_ok_t ok)), fun Q K H locs ls hW hS hl => lv_iand hx hb hd (K H locs ls hW hS hl)⟩
  · exact True.intro
  · exact True.intro
  · exact True.intro
  · exact True.intro
  · exact True.intro
  · exact True.intro
  · exact True.intro
  · exact True.intro
  · exact True.intro
  · exact True.intro
theorem so_ior (hd : decode I.1 pc = .ok (.ior, 1)) : am_So T I pc (op_ii (fun x y => x ||| y) (pc + 1)) := by
  intro ad ca D A nc ns p l e R s m args below meth c C lv st M ok
  have C0 := C
  obtain ⟨hx, hb, hr, hml, hown, hlk, hen, hro, hK, hnc, hns, hf1, hl1⟩ := C
  unfold op_ii
  dsimp only
  rcases st with _ | ⟨y | y | y, _ | ⟨x | x | x, st⟩⟩
  · exact True.intro
  · exact True.intro
  · exact ⟨am_ok_c True.intro (am_ok_t (am_ok_t ok)), fun Q K H locs ls hW hS hl => lv_ior hx hb hd (K H locs ls hW hS hl)⟩
  · exact True.intro
  · exact True.intro
  · exact True.intro
  · exact True.intro
  · exact True.intro
  · exact True.intro
  · exact True.intro
  · exact True.intro
  · exact True.intro
  · exact True.intro
theorem so_ishl (hd : decode I.1 pc = .ok (.ishl, 1)) : am_So T I pc (op_ii (fun x y => x <<< (y &&& 31)) (pc + 1)) := by
  intro ad ca D A nc ns p l e R s m args below meth c C lv st M ok
  have C0 := C
  obtain ⟨hx, hb, hr, hml, hown, hlk, hen, hro, hK, hnc, hns, hf1, hl1⟩ := C
  unfold op_ii
  dsimp only
  rcases st with _ | ⟨y | y | y, _ | ⟨x | x | x, st⟩⟩
  · exact True.intro
  · exact True.intro
  · exact ⟨am_ok_c True.intro (am_ok_t (am_ok_t ok)), fun Q K H locs ls hW hS hl => lv_ishl hx hb hd (K H locs ls hW hS hl)⟩
  · exact True.intro
  · exact True.intro
  · exact True.intro
  · exact True.intro
  · exact True.intro
  · exact True.intro
  · exact True.intro
  · exact True.intro
  · exact True.intro
  · exact True.intro
theorem so_ishr (hd : decode I.1 pc = .ok (.ishr, 1)) : am_So T I pc (op_ii (fun x y => x >>> (y &&& 31)) (pc + 1)) := by
  intro ad ca D A nc ns p l e R s m args below meth c C lv st M ok
  have C0 := C
  obtain ⟨hx, hb, hr, hml, hown, hlk, hen, hro, hK, hnc, hns, hf1, hl1⟩ := C
  unfold op_ii
  dsimp only
  rcases st with _ | ⟨y | y | y, _ | ⟨x | x | x, st⟩⟩
  · exact True.intro
  · exact True.intro
  · exact ⟨am_ok_c True.intro (am_ok_t (am_ok_t ok)), fun Q K H locs ls hW hS hl => lv_ishr hx hb hd (K H locs ls hW hS hl)⟩
  · exact True.intro
  · exact True.intro
  · exact True.intro
  · exact True.intro
  · exact True.intro
  · exact True.intro
  · exact True.intro
  · exact True.intro
  · exact True.intro
  · exact True.intro
theorem so_idiv (hd : decode I.1 pc = .ok (.idiv, 1)) : am_So T I pc (op_iid (fun x y => x / y) (pc + 1)) := by
  intro ad ca D A nc ns p l e R s m args below meth c C lv st M ok
  have C0 := C
  obtain ⟨hx, hb, hr, hml, hown, hlk, hen, hro, hK, hnc, hns, hf1, hl1⟩ := C
  unfold op_iid
  dsimp only
  rcases st with _ | ⟨y | y | y, _ | ⟨x | x | x, st⟩⟩
  · exact True.intro
  · exact True.intro
  · dsimp only
    by_cases hy : y = 0
    · rw [if_neg (fun h => h hy)]
      exact True.intro
    · rw [if_pos hy]
      exact ⟨am_ok_c True.intro (am_ok_t (am_ok_t ok)), fun Q K H locs ls hW hS hl => lv_idiv hx hb hd hy (K H locs ls hW hS hl)⟩
  · exact True.intro
  · exact True.intro
  · exact True.intro
  · exact True.intro
  · exact True.intro
  · exact True.intro
  · exact True.intro
  · exact True.intro
  · exact True.intro
  · exact True.intro
theorem so_irem (hd : decode I.1 pc = .ok (.irem, 1)) : am_So T I pc (op_iid (fun x y => x - x / y * y) (pc + 1)) := by
  intro ad ca D A nc ns p l e R s m args below meth c C lv st M ok
  have C0 := C
  obtain ⟨hx, hb, hr, hml, hown, hlk, hen, hro, hK, hnc, hns, hf1, hl1⟩ := C
  unfold op_iid
  dsimp only
  rcases st with _ | ⟨y | y | y, _ | ⟨x | x | x, st⟩⟩
  · exact True.intro
  · exact True.intro
  · dsimp only
    by_cases hy : y = 0
    · rw [if_neg (fun h => h hy)]
      exact True.intro
    · rw [if_pos hy]
      exact ⟨am_ok_c True.intro (am_ok_t (am_ok_t ok)), fun Q K H locs ls hW hS hl => lv_irem hx hb hd hy (K H locs ls hW hS hl)⟩
  · exact True.intro
  · exact True.intro
  · exact True.intro
  · exact True.intro
  · exact True.intro
  · exact True.intro
  · exact True.intro
  · exact True.intro
  · exact True.intro
  · exact True.intro
theorem so_ladd (hd : decode I.1 pc = .ok (.ladd, 1)) : am_So T I pc (op_jj (fun x y => x + y) (pc + 1)) := by
  intro ad ca D A nc ns p l e R s m args below meth c C lv st M ok
  have C0 := C
  obtain ⟨hx, hb, hr, hml, hown, hlk, hen, hro, hK, hnc, hns, hf1, hl1⟩ := C
  unfold op_jj
  dsimp only
  rcases st with _ | ⟨y | y | y, _ | ⟨x | x | x, st⟩⟩
  · exact True.intro
  · exact True.intro
  · exact True.intro
  · exact True.intro
  · exact True.intro
  · exact True.intro
  · exact True.intro
  · exact ⟨am_ok_c True.intro (am_ok_t (am_ok_t ok)), fun Q K H locs ls hW hS hl => lv_ladd hx hb hd (K H locs ls hW hS hl)⟩
  · exact True.intro
  · exact True.intro
  · exact True.intro
  · exact True.intro
  · exact True.intro
theorem so_lmul (hd : decode I.1 pc = .ok (.lmul, 1)) : am_So T I pc (op_jj (fun x y => x * y) (pc + 1)) := by
  intro ad ca D A nc ns p l e R s m args below meth c C lv st M ok
  have C0 := C
  obtain ⟨hx, hb, hr, hml, hown, hlk, hen, hro, hK, hnc, hns, hf1, hl1⟩ := C
  unfold op_jj
  dsimp only
  rcases st with _ | ⟨y | y | y, _ | ⟨x | x | x, st⟩⟩
  · exact True.intro
  · exact True.intro
  · exact True.intro
  · exact True.intro
  · exact True.intro
  · exact True.intro
  · exact True.intro
  · exact ⟨am_ok_c True.intro (am_ok_t (am_ok_t ok)), fun Q K H locs ls hW hS hl => lv_lmul hx hb hd (K H locs ls hW hS hl)⟩
  · exact True.intro
  · exact True.intro
  · exact True.intro
  · exact True.intro
  · exact True.intro
theorem so_land (hd : decode I.1 pc = .ok (.land, 1)) : am_So T I pc (op_jj (fun x y => x &&& y) (pc + 1)) := by
  intro ad ca D A nc ns p l e R s m args below meth c C lv st M ok
  have C0 := C
  obtain ⟨hx, hb, hr, hml, hown, hlk, hen, hro, hK, hnc, hns, hf1, hl1⟩ := C
  unfold op_jj
  dsimp only
  rcases st with _ | ⟨y | y | y, _ | ⟨x | x | x, st⟩⟩
  · exact True.intro
  · exact True.intro
  · exact True.intro
  · exact True.intro
  · exact True.intro
  · exact True.intro
  · exact True.intro
  · exact ⟨am_ok_c True.intro (am_ok_t (am_ok_t ok)), fun Q K H locs ls hW hS hl => lv_land hx hb hd (K H locs ls hW hS hl)⟩
  · exact True.intro
  · exact True.intro
  · exact True.intro
  · exact True.intro
  · exact True.intro
theorem so_ldiv (hd : decode I.1 pc = .ok (.ldiv, 1)) : am_So T I pc (op_jjd (fun x y => x / y) (pc + 1)) := by
  intro ad ca D A nc ns p l e R s m args below meth c C lv st M ok
  have C0 := C
  obtain ⟨hx, hb, hr, hml, hown, hlk, hen, hro, hK, hnc, hns, hf1, hl1⟩ := C
  unfold op_jjd
  dsimp only
  rcases st with _ | ⟨y | y | y, _ | ⟨x | x | x, st⟩⟩
  · exact True.intro
  · exact True.intro
  · exact True.intro
  · exact True.intro
  · exact True.intro
  · exact True.intro
  · exact True.intro
  · dsimp only
    by_cases hy : y = 0
    · rw [if_neg (fun h => h hy)]
      exact True.intro
    · rw [if_pos hy]
      exact ⟨am_ok_c True.intro (am_ok_t (am_ok_t ok)), fun Q K H locs ls hW hS hl => lv_ldiv hx hb hd hy (K H locs ls hW hS hl)⟩
  · exact True.intro
  · exact True.intro
  · exact True.intro
  · exact True.intro
  · exact True.intro
theorem so_lrem (hd : decode I.1 pc = .ok (.lrem, 1)) : am_So T I pc (op_jjd (fun x y => x - x / y * y) (pc + 1)) := by
  intro ad ca D A nc ns p l e R s m args below meth c C lv st M ok
  have C0 := C
  obtain ⟨hx, hb, hr, hml, hown, hlk, hen, hro, hK, hnc, hns, hf1, hl1⟩ := C
  unfold op_jjd
  dsimp only
  rcases st with _ | ⟨y | y | y, _ | ⟨x | x | x, st⟩⟩
  · exact True.intro
  · exact True.intro
  · exact True.intro
  · exact True.intro
  · exact True.intro
  · exact True.intro
  · exact True.intro
  · dsimp only
    by_cases hy : y = 0
    · rw [if_neg (fun h => h hy)]
      exact True.intro
    · rw [if_pos hy]
      exact ⟨am_ok_c True.intro (am_ok_t (am_ok_t ok)), fun Q K H locs ls hW hS hl => lv_lrem hx hb hd hy (K H locs ls hW hS hl)⟩
  · exact True.intro
  · exact True.intro
  · exact True.intro
  · exact True.intro
  · exact True.intro
theorem so_lcmp (hd : decode I.1 pc = .ok (.lcmp, 1)) : am_So T I pc (op_jji (lg_cmp) (pc + 1)) := by
  intro ad ca D A nc ns p l e R s m args below meth c C lv st M ok
  have C0 := C
  obtain ⟨hx, hb, hr, hml, hown, hlk, hen, hro, hK, hnc, hns, hf1, hl1⟩ := C
  unfold op_jji
  dsimp only
  rcases st with _ | ⟨y | y | y, _ | ⟨x | x | x, st⟩⟩
  · exact True.intro
  · exact True.intro
  · exact True.intro
  · exact True.intro
  · exact True.intro
  · exact True.intro
  · exact True.intro
  · exact ⟨am_ok_c True.intro (am_ok_t (am_ok_t ok)), fun Q K H locs ls hW hS hl => W.lcmp hx hb hd (K H locs ls hW hS hl)⟩
  · exact True.intro
  · exact True.intro
  · exact True.intro
  · exact True.intro
  · exact True.intro
theorem so_i2l (hd : decode I.1 pc = .ok (.i2l, 1)) : am_So T I pc (op_i2l (pc + 1)) := by
  intro ad ca D A nc ns p l e R s m args below meth c C lv st M ok
  have C0 := C
  obtain ⟨hx, hb, hr, hml, hown, hlk, hen, hro, hK, hnc, hns, hf1, hl1⟩ := C
  unfold op_i2l
  dsimp only
  rcases st with _ | ⟨x | x | x, st⟩
  · exact True.intro
  · exact ⟨am_ok_c True.intro (am_ok_t ok), fun Q K H locs ls hW hS hl => lv_i2l hx hb hd rfl (K H locs ls hW hS hl)⟩
  · exact True.intro
  · exact True.intro
theorem so_l2i (hd : decode I.1 pc = .ok (.l2i, 1)) : am_So T I pc (op_l2i (pc + 1)) := by
  intro ad ca D A nc ns p l e R s m args below meth c C lv st M ok
  have C0 := C
  obtain ⟨hx, hb, hr, hml, hown, hlk, hen, hro, hK, hnc, hns, hf1, hl1⟩ := C
  unfold op_l2i
  dsimp only
  rcases st with _ | ⟨x | x | x, st⟩
  · exact True.intro
  · exact True.intro
  · exact ⟨am_ok_c True.intro (am_ok_t ok), fun Q K H locs ls hW hS hl => lv_l2i hx hb hd rfl (K H locs ls hW hS hl)⟩
  · exact True.intro
theorem so_i2b (hd : decode I.1 pc = .ok (.i2b, 1)) : am_So T I pc (op_i2b (pc + 1)) := by
  intro ad ca D A nc ns p l e R s m args below meth c C lv st M ok
  have C0 := C
  obtain ⟨hx, hb, hr, hml, hown, hlk, hen, hro, hK, hnc, hns, hf1, hl1⟩ := C
  unfold op_i2b
  dsimp only
  rcases st with _ | ⟨x | x | x, st⟩
  · exact True.intro
  · exact ⟨am_ok_c True.intro (am_ok_t ok), fun Q K H locs ls hW hS hl => lv_i2b hx hb hd rfl (K H locs ls hW hS hl)⟩
  · exact True.intro
  · exact True.intro
theorem so_dup (hd : decode I.1 pc = .ok (.dup, 1)) : am_So T I pc (op_dup (pc + 1)) := by
  intro ad ca D A nc ns p l e R s m args below meth c C lv st M ok
  have C0 := C
  obtain ⟨hx, hb, hr, hml, hown, hlk, hen, hro, hK, hnc, hns, hf1, hl1⟩ := C
  unfold op_dup
  dsimp only
  rcases st with _ | ⟨v, st⟩
  · exact True.intro
  · dsimp only
    cases hv : am_isL v with
    | true => exact True.intro
    | false => exact ⟨am_ok_c (am_ok_h ok) ok, fun Q K H locs ls hW hS hl => lv_dup hx hb hd (am_cat1 ad hv) (K H locs ls hW hS hl)⟩
theorem so_pop (hd : decode I.1 pc = .ok (.pop, 1)) : am_So T I pc (op_pop (pc + 1)) := by
  intro ad ca D A nc ns p l e R s m args below meth c C lv st M ok
  have C0 := C
  obtain ⟨hx, hb, hr, hml, hown, hlk, hen, hro, hK, hnc, hns, hf1, hl1⟩ := C
  unfold op_pop
  dsimp only
  rcases st with _ | ⟨v, st⟩
  · exact True.intro
  · dsimp only
    cases hv : am_isL v with
    | true => exact True.intro
    | false => exact ⟨am_ok_t ok, fun Q K H locs ls hW hS hl => lv_pop hx hb hd (am_cat1 ad hv) (K H locs ls hW hS hl)⟩
theorem so_dup2 (hd : decode I.1 pc = .ok (.dup2, 1)) : am_So T I pc (op_dup2 (pc + 1)) := by
  intro ad ca D A nc ns p l e R s m args below meth c C lv st M ok
  have C0 := C
  obtain ⟨hx, hb, hr, hml, hown, hlk, hen, hro, hK, hnc, hns, hf1, hl1⟩ := C
  unfold op_dup2
  dsimp only
  rcases st with _ | ⟨y | y | y, _ | ⟨x | x | x, st⟩⟩
  · exact True.intro
  · exact True.intro
  · exact True.intro
  · exact True.intro
  · exact ⟨am_ok_c True.intro (am_ok_c (am_ok_h (am_ok_t ok)) ok), fun Q K H locs ls hW hS hl => lv_dup2_11 hx hb hd rfl rfl (K H locs ls hW hS hl)⟩
  · exact True.intro
  · exact True.intro
  · exact True.intro
  · exact True.intro
  · exact True.intro
  · exact True.intro
  · exact True.intro
  · exact True.intro
theorem so_goto {off : Int} {tgt : Nat} (hd : decode I.1 pc = .ok (.goto off, 3)) (ht : (pc : Int) + off = (tgt : Int)) : am_So T I pc (op_go tgt) := by
  intro ad ca D A nc ns p l e R s m args below meth c C lv st M ok
  have C0 := C
  obtain ⟨hx, hb, hr, hml, hown, hlk, hen, hro, hK, hnc, hns, hf1, hl1⟩ := C
  exact ⟨ok, fun Q K H locs ls hW hS hl => lv_goto hx hb hd ht (K H locs ls hW hS hl)⟩
theorem so_if_eq {off : Int} {tgt : Nat} (hd : decode I.1 pc = .ok (.ifCond .eq off, 3)) (ht : (pc : Int) + off = (tgt : Int)) : am_So T I pc (op_if (fun x => x = 0) tgt (pc + 3)) := by
  intro ad ca D A nc ns p l e R s m args below meth c C lv st M ok
  have C0 := C
  obtain ⟨hx, hb, hr, hml, hown, hlk, hen, hro, hK, hnc, hns, hf1, hl1⟩ := C
  unfold op_if
  dsimp only
  rcases st with _ | ⟨x | x | x, st⟩
  · exact True.intro
  · refine ⟨am_ok_t ok, fun Q K H locs ls hW hS hl => ?_⟩
    refine lv_if_eq hx hb hd ht (fun h => ?_) (fun h => ?_)
    · have K := K H locs ls hW hS hl
      rwa [if_pos h] at K
    · have K := K H locs ls hW hS hl
      first | rwa [if_neg h] at K | rwa [if_neg (fun h2 => h2 h)] at K
  · exact True.intro
  · exact True.intro
theorem so_ic_eq {off : Int} {tgt : Nat} (hd : decode I.1 pc = .ok (.if_icmp .eq off, 3)) (ht : (pc : Int) + off = (tgt : Int)) : am_So T I pc (op_ic (fun x y => x = y) tgt (pc + 3)) := by
  intro ad ca D A nc ns p l e R s m args below meth c C lv st M ok
  have C0 := C
  obtain ⟨hx, hb, hr, hml, hown, hlk, hen, hro, hK, hnc, hns, hf1, hl1⟩ := C
  unfold op_ic
  dsimp only
  rcases st with _ | ⟨y | y | y, _ | ⟨x | x | x, st⟩⟩
  · exact True.intro
  · exact True.intro
  · refine ⟨am_ok_t (am_ok_t ok), fun Q K H locs ls hW hS hl => ?_⟩
    refine lv_icmp_eq hx hb hd ht (fun h => ?_) (fun h => ?_)
    · have K := K H locs ls hW hS hl
      rwa [if_pos h] at K
    · have K := K H locs ls hW hS hl
      first | rwa [if_neg h] at K | rwa [if_neg (fun h2 => h2 h)] at K
  · exact True.intro
  · exact True.intro
  · exact True.intro
  · exact True.intro
  · exact True.intro
  · exact True.intro
  · exact True.intro
  · exact True.intro
  · exact True.intro
  · exact True.intro
theorem so_if_ne {off : Int} {tgt : Nat} (hd : decode I.1 pc = .ok (.ifCond .ne off, 3)) (ht : (pc : Int) + off = (tgt : Int)) : am_So T I pc (op_if (fun x => ¬ x = 0) tgt (pc + 3)) := by
  intro ad ca D A nc ns p l e R s m args below meth c C lv st M ok
  have C0 := C
  obtain ⟨hx, hb, hr, hml, hown, hlk, hen, hro, hK, hnc, hns, hf1, hl1⟩ := C
  unfold op_if
  dsimp only
  rcases st with _ | ⟨x | x | x, st⟩
  · exact True.intro
  · refine ⟨am_ok_t ok, fun Q K H locs ls hW hS hl => ?_⟩
    refine lv_if_ne hx hb hd ht (fun h => ?_) (fun h => ?_)
    · have K := K H locs ls hW hS hl
      rwa [if_pos h] at K
    · have K := K H locs ls hW hS hl
      first | rwa [if_neg h] at K | rwa [if_neg (fun h2 => h2 h)] at K
  · exact True.intro
  · exact True.intro
theorem so_ic_ne {off : Int} {tgt : Nat} (hd : decode I.1 pc = .ok (.if_icmp .ne off, 3)) (ht : (pc : Int) + off = (tgt : Int)) : am_So T I pc (op_ic (fun x y => ¬ x = y) tgt (pc + 3)) := by
  intro ad ca D A nc ns p l e R s m args below meth c C lv st M ok
  have C0 := C
  obtain ⟨hx, hb, hr, hml, hown, hlk, hen, hro, hK, hnc, hns, hf1, hl1⟩ := C
  unfold op_ic
  dsimp only
  rcases st with _ | ⟨y | y | y, _ | ⟨x | x | x, st⟩⟩
  · exact True.intro
  · exact True.intro
  · refine ⟨am_ok_t (am_ok_t ok), fun Q K H locs ls hW hS hl => ?_⟩
    refine lv_icmp_ne hx hb hd ht (fun h => ?_) (fun h => ?_)
    · have K := K H locs ls hW hS hl
      rwa [if_pos h] at K
    · have K := K H locs ls hW hS hl
      first | rwa [if_neg h] at K | rwa [if_neg (fun h2 => h2 h)] at K
  · exact True.intro
  · exact True.intro
  · exact True.intro
  · exact True.intro
  · exact True.intro
  · exact True.intro
  · exact True.intro
  · exact True.intro
  · exact True.intro
  · exact True.intro
theorem so_if_lt {off : Int} {tgt : Nat} (hd : decode I.1 pc = .ok (.ifCond .lt off, 3)) (ht : (pc : Int) + off = (tgt : Int)) : am_So T I pc (op_if (fun x => x < 0) tgt (pc + 3)) := by
  intro ad ca D A nc ns p l e R s m args below meth c C lv st M ok
  have C0 := C
  obtain ⟨hx, hb, hr, hml, hown, hlk, hen, hro, hK, hnc, hns, hf1, hl1⟩ := C
  unfold op_if
  dsimp only
  rcases st with _ | ⟨x | x | x, st⟩
  · exact True.intro
  · refine ⟨am_ok_t ok, fun Q K H locs ls hW hS hl => ?_⟩
    refine lv_if_lt hx hb hd ht (fun h => ?_) (fun h => ?_)
    · have K := K H locs ls hW hS hl
      rwa [if_pos h] at K
    · have K := K H locs ls hW hS hl
      first | rwa [if_neg h] at K | rwa [if_neg (fun h2 => h2 h)] at K
  · exact True.intro
  · exact True.intro
theorem so_ic_lt {off : Int} {tgt : Nat} (hd : decode I.1 pc = .ok (.if_icmp .lt off, 3)) (ht : (pc : Int) + off = (tgt : Int)) : am_So T I pc (op_ic (fun x y => x < y) tgt (pc + 3)) := by
  intro ad ca D A nc ns p l e R s m args below meth c C lv st M ok
  have C0 := C
  obtain ⟨hx, hb, hr, hml, hown, hlk, hen, hro, hK, hnc, hns, hf1, hl1⟩ := C
  unfold op_ic
  dsimp only
  rcases st with _ | ⟨y | y | y, _ | ⟨x | x | x, st⟩⟩
  · exact True.intro
  · exact True.intro
  · refine ⟨am_ok_t (am_ok_t ok), fun Q K H locs ls hW hS hl => ?_⟩
    refine lv_icmp_lt hx hb hd ht (fun h => ?_) (fun h => ?_)
    · have K := K H locs ls hW hS hl
      rwa [if_pos h] at K
    · have K := K H locs ls hW hS hl
      first | rwa [if_neg h] at K | rwa [if_neg (fun h2 => h2 h)] at K
  · exact True.intro
  · exact True.intro
  · exact True.intro
  · exact True.intro
  · exact True.intro
  · exact True.intro
  · exact True.intro
  · exact True.intro
  · exact True.intro
  · exact True.intro
theorem so_if_ge {off : Int} {tgt : Nat} (hd : decode I.1 pc = .ok (.ifCond .ge off, 3)) (ht : (pc : Int) + off = (tgt : Int)) : am_So T I pc (op_if (fun x => 0 ≤ x) tgt (pc + 3)) := by
  intro ad ca D A nc ns p l e R s m args below meth c C lv st M ok
  have C0 := C
  obtain ⟨hx, hb, hr, hml, hown, hlk, hen, hro, hK, hnc, hns, hf1, hl1⟩ := C
  unfold op_if
  dsimp only
  rcases st with _ | ⟨x | x | x, st⟩
  · exact True.intro
  · refine ⟨am_ok_t ok, fun Q K H locs ls hW hS hl => ?_⟩
    refine lv_if_ge hx hb hd ht (fun h => ?_) (fun h => ?_)
    · have K := K H locs ls hW hS hl
      rwa [if_pos h] at K
    · have K := K H locs ls hW hS hl
      first | rwa [if_neg h] at K | rwa [if_neg (fun h2 => h2 h)] at K
  · exact True.intro
  · exact True.intro
theorem so_ic_ge {off : Int} {tgt : Nat} (hd : decode I.1 pc = .ok (.if_icmp .ge off, 3)) (ht : (pc : Int) + off = (tgt : Int)) : am_So T I pc (op_ic (fun x y => y ≤ x) tgt (pc + 3)) := by
  intro ad ca D A nc ns p l e R s m args below meth c C lv st M ok
  have C0 := C
  obtain ⟨hx, hb, hr, hml, hown, hlk, hen, hro, hK, hnc, hns, hf1, hl1⟩ := C
  unfold op_ic
  dsimp only
  rcases st with _ | ⟨y | y | y, _ | ⟨x | x | x, st⟩⟩
  · exact True.intro
  · exact True.intro
  · refine ⟨am_ok_t (am_ok_t ok), fun Q K H locs ls hW hS hl => ?_⟩
    refine lv_icmp_ge hx hb hd ht (fun h => ?_) (fun h => ?_)
    · have K := K H locs ls hW hS hl
      rwa [if_pos h] at K
    · have K := K H locs ls hW hS hl
      first | rwa [if_neg h] at K | rwa [if_neg (fun h2 => h2 h)] at K
  · exact True.intro
  · exact True.intro
  · exact True.intro
  · exact True.intro
  · exact True.intro
  · exact True.intro
  · exact True.intro
  · exact True.intro
  · exact True.intro
  · exact True.intro
theorem so_if_gt {off : Int} {tgt : Nat} (hd : decode I.1 pc = .ok (.ifCond .gt off, 3)) (ht : (pc : Int) + off = (tgt : Int)) : am_So T I pc (op_if (fun x => 0 < x) tgt (pc + 3)) := by
  intro ad ca D A nc ns p l e R s m args below meth c C lv st M ok
  have C0 := C
  obtain ⟨hx, hb, hr, hml, hown, hlk, hen, hro, hK, hnc, hns, hf1, hl1⟩ := C
  unfold op_if
  dsimp only
  rcases st with _ | ⟨x | x | x, st⟩
  · exact True.intro
  · refine ⟨am_ok_t ok, fun Q K H locs ls hW hS hl => ?_⟩
    refine lv_if_gt hx hb hd ht (fun h => ?_) (fun h => ?_)
    · have K := K H locs ls hW hS hl
      rwa [if_pos h] at K
    · have K := K H locs ls hW hS hl
      first | rwa [if_neg h] at K | rwa [if_neg (fun h2 => h2 h)] at K
  · exact True.intro
  · exact True.intro
theorem so_ic_gt {off : Int} {tgt : Nat} (hd : decode I.1 pc = .ok (.if_icmp .gt off, 3)) (ht : (pc : Int) + off = (tgt : Int)) : am_So T I pc (op_ic (fun x y => y < x) tgt (pc + 3)) := by
  intro ad ca D A nc ns p l e R s m args below meth c C lv st M ok
  have C0 := C
  obtain ⟨hx, hb, hr, hml, hown, hlk, hen, hro, hK, hnc, hns, hf1, hl1⟩ := C
  unfold op_ic
  dsimp only
  rcases st with _ | ⟨y | y | y, _ | ⟨x | x | x, st⟩⟩
  · exact True.intro
  · exact True.intro
  · refine ⟨am_ok_t (am_ok_t ok), fun Q K H locs ls hW hS hl => ?_⟩
    refine lv_icmp_gt hx hb hd ht (fun h => ?_) (fun h => ?_)
    · have K := K H locs ls hW hS hl
      rwa [if_pos h] at K
    · have K := K H locs ls hW hS hl
      first | rwa [if_neg h] at K | rwa [if_neg (fun h2 => h2 h)] at K
  · exact True.intro
  · exact True.intro
  · exact True.intro
  · exact True.intro
  · exact True.intro
  · exact True.intro
  · exact True.intro
  · exact True.intro
  · exact True.intro
  · exact True.intro
theorem so_if_le {off : Int} {tgt : Nat} (hd : decode I.1 pc = .ok (.ifCond .le off, 3)) (ht : (pc : Int) + off = (tgt : Int)) : am_So T I pc (op_if (fun x => x ≤ 0) tgt (pc + 3)) := by
  intro ad ca D A nc ns p l e R s m args below meth c C lv st M ok
  have C0 := C
  obtain ⟨hx, hb, hr, hml, hown, hlk, hen, hro, hK, hnc, hns, hf1, hl1⟩ := C
  unfold op_if
  dsimp only
  rcases st with _ | ⟨x | x | x, st⟩
  · exact True.intro
  · refine ⟨am_ok_t ok, fun Q K H locs ls hW hS hl => ?_⟩
    refine lv_if_le hx hb hd ht (fun h => ?_) (fun h => ?_)
    · have K := K H locs ls hW hS hl
      rwa [if_pos h] at K
    · have K := K H locs ls hW hS hl
      first | rwa [if_neg h] at K | rwa [if_neg (fun h2 => h2 h)] at K
  · exact True.intro
  · exact True.intro
theorem so_ic_le {off : Int} {tgt : Nat} (hd : decode I.1 pc = .ok (.if_icmp .le off, 3)) (ht : (pc : Int) + off = (tgt : Int)) : am_So T I pc (op_ic (fun x y => x ≤ y) tgt (pc + 3)) := by
  intro ad ca D A nc ns p l e R s m args below meth c C lv st M ok
  have C0 := C
  obtain ⟨hx, hb, hr, hml, hown, hlk, hen, hro, hK, hnc, hns, hf1, hl1⟩ := C
  unfold op_ic
  dsimp only
  rcases st with _ | ⟨y | y | y, _ | ⟨x | x | x, st⟩⟩
  · exact True.intro
  · exact True.intro
  · refine ⟨am_ok_t (am_ok_t ok), fun Q K H locs ls hW hS hl => ?_⟩
    refine lv_icmp_le hx hb hd ht (fun h => ?_) (fun h => ?_)
    · have K := K H locs ls hW hS hl
      rwa [if_pos h] at K
    · have K := K H locs ls hW hS hl
      first | rwa [if_neg h] at K | rwa [if_neg (fun h2 => h2 h)] at K
  · exact True.intro
  · exact True.intro
  · exact True.intro
  · exact True.intro
  · exact True.intro
  · exact True.intro
  · exact True.intro
  · exact True.intro
  · exact True.intro
  · exact True.intro
end SO
end
section
/-! SOUNDNESS: fields, arrays, statics -/
def am_cf (t : Nat) (C : String) (Tt : u_T) (ty0 : Nat → FieldType) : Prop := am_ak t = 0 ∧ vwCl[am_ci t]? = some (C, Tt, am_nf t) ∧ (∀ w ∈ u_ws C Tt (am_nf t), w ∈ lw_tbl ∧ am_gw w = true) ∧ (∀ k, k < am_nf t → parseFieldDescriptor (Tt k).2.2.1 = some (ty0 k)) ∧ (∀ a, a < am_nf t → ∀ b, b < am_nf t → a ≠ b → (Tt a).2.1 ≠ (Tt b).2.1) ∧ (t < 20 ∨ 32 ≤ t)
def am_fl (own : String) (index : Nat) (q : String × String × String × Bool) : Prop := Cond.fieldLink own index q.1 q.2.1 q.2.2.1 ∈ lw_tbl ∨ ∃ host, Cond.fieldLinkNest own index q.1 q.2.1 q.2.2.1 host ∈ lw_tbl
theorem am_key_of {t i : Nat} (ht : t < 20 ∨ 32 ≤ t) (h : am_vk t i) : (t, i) ∈ am_keys := by
  rcases h with h | ⟨h, -⟩ | ⟨h, -⟩
  · exact h
  · omega
  · omega
section SM
variable {p : Program} {l : Launch} {e : Env} {R : Room} {s : State} {m : MethodId} {args : Array Value} {below : List Frame} {meth : Method} {c : Code} {H : Heap} {locs : List Loc} {nc ns : Nat} {Q : State → Prop} {ls : Array Slot} {rest : List Value}
variable {ad : Nat → Nat → Nat} {ca : Nat → ClassId} {D : va_G} {A : Nat → Prop} {I : am_In} {pc : Nat} {t i k index : Nat} {C : String} {Tt : u_T} {ty0 : Nat → FieldType} {M M' : am_W}
theorem am_use (hen : am_En s) {w : Cond} (hw : w ∈ lw_tbl) (hg : am_gw w = true) : w.before args s = true := va_Nw.use (am_gw_on hg) (hen w hw hg)
theorem am_fs_at (hk : k < am_nf t) : ((List.range (am_nf t)).map (am_fv ad M t i))[k]? = some (am_fv ad M t i k) := by
  rw [List.getElem?_map, List.getElem?_range hk]
  rfl
theorem am_getW (Cx : am_Cx I ad ca D A nc ns p R s m args meth c) (hc : am_cf t C Tt ty0) (hk : k < am_nf t) (hw : am_fl I.2.2.2 index (Tt k)) (hkey : (t, i) ∈ am_keys) (hW : am_Wd ad ca D A M H) (hd : decode I.1 pc = .ok (.getfield index, 3))
    (kk : W p l e R s m args below meth c H locs nc ns Q (F0 m (pc + 3) ls (am_fv ad M t i k :: rest))) : W p l e R s m args below meth c H locs nc ns Q (F0 m pc ls (.ref (ad t i) :: rest)) := by
  obtain ⟨hx, hb, hr, hml, hown, hlk, hen, hro, hK, hnc, hns, hf1, hl1⟩ := Cx
  obtain ⟨c1, c2, c3, c4, c5, c6⟩ := hc
  obtain ⟨q0, hq⟩ := am_place hkey
  have he := am_enc_at (ad := ad) (ca := ca) (M := M) hq
  rw [am_cell_obj c1] at he
  have hts : ∀ w ∈ u_ws C Tt (am_nf t), w.before args s = true := fun w h => am_use hen (c3 w h).1 (c3 w h).2
  rcases hw with hw | ⟨host, hw⟩
  · exact va_get (D := D) hx hb hts (fun _ h => h) hown hK hW.1 q0 he c2 k hk (am_use hen hw rfl) (fun _ h => h) (am_fs_at hk) hd kk
  · exact va_getN (D := D) hx hb hts (fun _ h => h) hown hK hW.1 q0 he c2 k hk (am_use hen hw rfl) (fun _ h => h) (am_fs_at hk) hd kk
theorem am_putW (Cx : am_Cx I ad ca D A nc ns p R s m args meth c) (hc : am_cf t C Tt ty0) (hk : k < am_nf t) (hw : am_fl I.2.2.2 index (Tt k)) (hfin : (Tt k).2.2.2 = false) {v : Value} (hn : narrow (ty0 k) v = v) (hfit : fits (ty0 k) v = true) (hkey : (t, i) ∈ am_keys) (hW : am_Wd ad ca D A M H) (hS : va_S A s.heap H locs)
    (hset : ((List.range (am_nf t)).map (am_fv ad M t i)).set k v = (List.range (am_nf t)).map (am_fv ad M' t i)) (ho : ∀ t' i', (t', i') ≠ (t, i) → (t', i') ∈ am_keys → am_cell ad ca M' t' i' = am_cell ad ca M t' i') (hd : decode I.1 pc = .ok (.putfield index, 3))
    (kk : ∀ (H1 : Heap) (locs1 : List Loc), am_Wd ad ca D A M' H1 → va_S A s.heap H1 locs1 → W p l e R s m args below meth c H1 locs1 nc ns Q (F0 m (pc + 3) ls rest)) : W p l e R s m args below meth c H locs nc ns Q (F0 m pc ls (v :: .ref (ad t i) :: rest)) := by
  obtain ⟨hx, hb, hr, hml, hown, hlk, hen, hro, hK, hnc, hns, hf1, hl1⟩ := Cx
  obtain ⟨c1, c2, c3, c4, c5, c6⟩ := hc
  obtain ⟨q0, hq⟩ := am_place hkey
  have he := am_enc_at (ad := ad) (ca := ca) (M := M) hq
  rw [am_cell_obj c1] at he
  have hts : ∀ w ∈ u_ws C Tt (am_nf t), w.before args s = true := fun w h => am_use hen (c3 w h).1 (c3 w h).2
  have hset2 : (am_enc ad ca M).set q0 (ad t i, .inr (am_ci t, ((List.range (am_nf t)).map (am_fv ad M t i)).set k v)) = am_enc ad ca M' := am_enc_set hq (by rw [am_cell_obj c1, hset]) ho
  have hl : k < ((List.range (am_nf t)).map (am_fv ad M t i)).length := by rw [List.length_map, List.length_range]; exact hk
  have kk2 : ∀ (H1 : Heap) (locs1 : List Loc), va_P D vwCl ((am_enc ad ca M).set q0 (ad t i, .inr (am_ci t, ((List.range (am_nf t)).map (am_fv ad M t i)).set k v))) H1 → va_D A ((am_enc ad ca M).set q0 (ad t i, .inr (am_ci t, ((List.range (am_nf t)).map (am_fv ad M t i)).set k v))) → va_S A s.heap H1 locs1 → W p l e R s m args below meth c H1 locs1 nc ns Q (F0 m (pc + 3) ls rest) := fun H1 locs1 h1 h2 h3 => kk H1 locs1 ⟨hset2 ▸ h1, hset2 ▸ h2⟩ h3
  rcases hw with hw | ⟨host, hw⟩
  · exact va_put (D := D) hx hb hts (fun _ h => h) ty0 c4 c5 hown hK hW.1 hW.2 hS q0 he c2 k hk (am_use hen hw rfl) (fun _ h => h) hfin (c4 k hk) hn hfit hl hd kk2
  · exact va_putN (D := D) hx hb hts (fun _ h => h) ty0 c4 c5 hown hK hW.1 hW.2 hS q0 he c2 k hk (am_use hen hw rfl) (fun _ h => h) hfin (c4 k hk) hn hfit hl hd kk2
/-- an int is put into a field: what the cells are then -/
theorem am_setF (v : Int32) (hk : k < am_nf t) (h0 : am_fk t k = 0 ∨ am_fk t k = 1) : ((List.range (am_nf t)).map (am_fv ad M t i)).set k (.int v) = (List.range (am_nf t)).map (am_fv ad (am_p t M (sF (am_s t M) t k i v)) t i) := by
  have hxk := am_xK_putF (t := t) (k := k) (i := i) (M := M) (v := v)
  refine am_range_set _ _ _ _ _ hk ?_ (fun j hj => ?_)
  · unfold am_fv
    rcases h0 with h0 | h0 <;> rw [h0] <;> show Value.int _ = _ <;> rw [am_xF_put, if_pos ⟨rfl, rfl, rfl⟩]
  · refine am_fv_eq (congrFun (congrArg Prod.fst hxk.1) i) (congrFun (congrArg Prod.snd hxk.2) j) ?_
    rw [am_xF_put, if_neg (fun h => hj h.2.1)]
theorem am_setF_o (v : Int32) (t' i' : Nat) (hne : (t', i') ≠ (t, i)) : am_cell ad ca (am_p t M (sF (am_s t M) t k i v)) t' i' = am_cell ad ca M t' i' := by
  have hxk := am_xK_putF (t := t) (k := k) (i := i) (M := M) (v := v)
  refine am_cell_eq (fun _ j _ => am_fv_eq (congrFun (congrArg Prod.fst hxk.1) i') (congrFun (congrArg Prod.snd hxk.2) j) ?_) (fun q => am_xA_putF _ _ _)
  rw [am_xF_put, if_neg (fun h => hne (by rw [h.1, h.2.2]))]
theorem am_setA_o (v : Int32) (q : Nat) (h0 : am_ak t ≠ 0) (t' i' : Nat) (hne : (t', i') ≠ (t, i)) : am_cell ad ca (am_p t M (sA (am_s t M) t i q v)) t' i' = am_cell ad ca M t' i' := by
  have hxk := am_xK_putA (t := t) (i := i) (q := q) (M := M) (v := v)
  refine am_cell_eq (fun _ j _ => am_fv_eq (congrFun (congrArg Prod.fst hxk.1) i') (congrFun (congrArg Prod.snd hxk.2) j) (am_xF_putA _ _ _)) (fun q' => ?_)
  rw [am_xA_put, if_neg (fun h => hne (by rw [h.1, h.2.1]))]
theorem am_setA_f (v : Int32) (q : Nat) : (fun q' => xA (am_s t (am_p t M (sA (am_s t M) t i q v))) t i q') = upd (fun q' => xA (am_s t M) t i q') q v := by
  funext q'
  rw [am_xA_put]
  unfold upd
  by_cases h : q' = q
  · rw [if_pos ⟨rfl, rfl, h⟩, if_pos h]
  · rw [if_neg (fun z => h z.2.2), if_neg h]
end SM
section SO2
variable {T : Nat → am_Me} {I : am_In} {pc : Nat} {t k index : Nat} {C : String} {Tt : u_T} {ty0 : Nat → FieldType}
theorem so_gi (hc : am_cf t C Tt ty0) (hk : k < am_nf t) (h0 : am_fk t k = 0 ∨ am_fk t k = 1) (hw : am_fl I.2.2.2 index (Tt k)) (hd : decode I.1 pc = .ok (.getfield index, 3)) : am_So T I pc (op_gi t k (pc + 3)) := by
  intro ad ca D A nc ns p l e R s m args below meth c Cx lv st M ok
  unfold op_gi
  dsimp only
  rcases st with _ | ⟨x | x | ⟨t', i⟩, st⟩
  · exact True.intro
  · exact True.intro
  · exact True.intro
  · dsimp only
    cases hb : Nat.beq t' t with
    | false => exact True.intro
    | true =>
      have e1 : t' = t := Nat.eq_of_beq_eq_true hb
      subst e1
      refine ⟨am_ok_c True.intro (am_ok_t ok), fun Q K H locs ls hW hS hl => ?_⟩
      refine am_getW Cx hc hk hw (am_key_of hc.2.2.2.2.2 (am_ok_h ok)) hW hd ?_
      have K := K H locs ls hW hS hl
      have e2 : am_fv ad M t' i k = .int (xF (am_s t' M) t' k i) := by
        unfold am_fv
        rcases h0 with h0 | h0 <;> rw [h0] <;> rfl
      rw [e2]
      exact K
theorem so_gr (hc : am_cf t C Tt ty0) (hk : k < am_nf t) (h0 : am_fk t k = 2) (hcl : ∀ i, (t, i) ∈ am_keys → am_ref t k i ∈ am_keys) (hw : am_fl I.2.2.2 index (Tt k)) (hd : decode I.1 pc = .ok (.getfield index, 3)) : am_So T I pc (op_gr t k (pc + 3)) := by
  intro ad ca D A nc ns p l e R s m args below meth c Cx lv st M ok
  unfold op_gr
  dsimp only
  rcases st with _ | ⟨x | x | ⟨t', i⟩, st⟩
  · exact True.intro
  · exact True.intro
  · exact True.intro
  · dsimp only
    cases hb : Nat.beq t' t with
    | false => exact True.intro
    | true =>
      have e1 : t' = t := Nat.eq_of_beq_eq_true hb
      subst e1
      have hkey := am_key_of hc.2.2.2.2.2 (am_ok_h ok)
      refine ⟨am_ok_c (Or.inl (hcl i hkey)) (am_ok_t ok), fun Q K H locs ls hW hS hl => ?_⟩
      refine am_getW Cx hc hk hw hkey hW hd ?_
      have K := K H locs ls hW hS hl
      have e2 : am_fv ad M t' i k = .ref (ad (am_ref t' k i).1 (am_ref t' k i).2) := by
        unfold am_fv
        rw [h0]
        rfl
      rw [e2]
      exact K
theorem so_gk (hc : am_cf 4 C Tt ty0) (hw : am_fl I.2.2.2 index (Tt 1)) (hd : decode I.1 pc = .ok (.getfield index, 3)) : am_So T I pc (op_gk (pc + 3)) := by
  intro ad ca D A nc ns p l e R s m args below meth c Cx lv st M ok
  unfold op_gk
  dsimp only
  rcases st with _ | ⟨x | x | ⟨t', i⟩, st⟩
  · exact True.intro
  · exact True.intro
  · exact True.intro
  · dsimp only
    cases hb : Nat.beq t' 4 with
    | false => exact True.intro
    | true =>
      have e1 : t' = 4 := Nat.eq_of_beq_eq_true hb
      subst e1
      have hkey := am_key_of hc.2.2.2.2.2 (am_ok_h ok)
      refine ⟨am_ok_c (Or.inr (Or.inl ⟨rfl, ok.2.2 i⟩)) (am_ok_t ok), fun Q K H locs ls hW hS hl => ?_⟩
      exact am_getW (k := 1) Cx hc (show 1 < am_nf 4 by decide) hw hkey hW hd (K H locs ls hW hS hl)
theorem so_gj (hc : am_cf 32 C Tt ty0) (hk : k < am_nf 32) (h0 : am_fk 32 k = 4) (hw : am_fl I.2.2.2 index (Tt k)) (hd : decode I.1 pc = .ok (.getfield index, 3)) : am_So T I pc (op_gj k (pc + 3)) := by
  intro ad ca D A nc ns p l e R s m args below meth c Cx lv st M ok
  unfold op_gj
  dsimp only
  rcases st with _ | ⟨x | x | ⟨t', i⟩, st⟩
  · exact True.intro
  · exact True.intro
  · exact True.intro
  · dsimp only
    cases hb : Nat.beq t' 32 with
    | false => exact True.intro
    | true =>
      have e1 : t' = 32 := Nat.eq_of_beq_eq_true hb
      subst e1
      have hkey := am_key_of hc.2.2.2.2.2 (am_ok_h ok)
      refine ⟨am_ok_c True.intro (am_ok_t ok), fun Q K H locs ls hW hS hl => ?_⟩
      refine am_getW Cx hc hk hw hkey hW hd ?_
      have K := K H locs ls hW hS hl
      have e2 : am_fv ad M 32 i k = .long (xL M.2 k) := by
        unfold am_fv
        rw [h0]
        rfl
      rw [e2]
      exact K
/-- a KIND's own number -/
theorem so_gn {f : List Int32} {n : String} (hq : ("ServedAhead$Kind", n, "I", f) ∈ am_kF) (hw : am_fl I.2.2.2 index ("ServedAhead$Kind", n, "I", false)) (hd : decode I.1 pc = .ok (.getfield index, 3)) : am_So T I pc (op_gn f (pc + 3)) := by
  intro ad ca D A nc ns p l e R s m args below meth c Cx lv st M ok
  unfold op_gn
  dsimp only
  rcases st with _ | ⟨x | x | ⟨t', i⟩, st⟩
  · exact True.intro
  · exact True.intro
  · exact True.intro
  · dsimp only
    cases hb : Nat.beq t' 20 with
    | false => exact True.intro
    | true =>
      have e1 : t' = 20 := Nat.eq_of_beq_eq_true hb
      subst e1
      have hi : i < 5 := by
        rcases am_ok_h ok with h | ⟨-, h⟩ | ⟨h, -⟩
        · exact absurd h (by
            intro h
            have hall : ∀ q ∈ am_keys, q.1 ≠ 20 := by decide +kernel
            exact hall _ h rfl)
        · exact h
        · rcases h with h | h | h <;> cases h
      refine ⟨am_ok_c True.intro (am_ok_t ok), fun Q K H locs ls hW hS hl => ?_⟩
      obtain ⟨hx, hb, hr, hml, hown, hlk, hen, hro, hK, hnc, hns, hf1, hl1⟩ := Cx
      have K := K H locs ls hW hS hl
      obtain ⟨cf, kf, fi, f', cell, h1, h2, h3, h4, h5, h6⟩ := ((hro.1.1 i hi).2.2 _ hq).kept hS.2.1
      rcases hw with hw | ⟨host, hw⟩
      · exact W.getf hx hb hown (am_use hen hw rfl) h1 h2 h3 h4 h5 rfl rfl hd K
      · exact va_Wgetf hx hb hown (am_use hen hw rfl) h1 h2 h3 h4 h5 rfl rfl hd K
theorem so_pi (hc : am_cf t C Tt ty0) (hk : k < am_nf t) (h0 : am_fk t k = 0 ∨ am_fk t k = 1) (hty : ty0 k = .int) (hfin : (Tt k).2.2.2 = false) (hw : am_fl I.2.2.2 index (Tt k)) (hd : decode I.1 pc = .ok (.putfield index, 3)) : am_So T I pc (op_pi t k (pc + 3)) := by
  intro ad ca D A nc ns p l e R s m args below meth c Cx lv st M ok
  unfold op_pi
  dsimp only
  rcases st with _ | ⟨v | v | v, _ | ⟨x | x | ⟨t', i⟩, st⟩⟩
  · exact True.intro
  · exact True.intro
  · exact True.intro
  · exact True.intro
  · dsimp only
    cases hb : Nat.beq t' t with
    | false => exact True.intro
    | true =>
      have e1 : t' = t := Nat.eq_of_beq_eq_true hb
      subst e1
      have hkey := am_key_of hc.2.2.2.2.2 (am_ok_h (am_ok_t ok))
      refine ⟨⟨ok.1, (am_ok_t (am_ok_t ok)).2.1, fun j => ?_⟩, fun Q K H locs ls hW hS hl => ?_⟩
      · show (am_p t' M (sF (am_s t' M) t' k i v)).1.2.2.1 j < 5
        rw [(am_xK_putF (t := t') (k := k) (i := i) (M := M) (v := v)).1]
        exact ok.2.2 j
      · exact am_putW Cx hc hk hw hfin (by rw [hty]; rfl) (by rw [hty]; rfl) hkey hW hS (am_setF v hk h0) (fun t2 i2 hne _ => am_setF_o v t2 i2 hne) hd (fun H1 locs1 h1 h2 => K H1 locs1 ls h1 h2 hl)
  all_goals exact True.intro
theorem so_pz (hc : am_cf t C Tt ty0) (hk : k < am_nf t) (h0 : am_fk t k = 0 ∨ am_fk t k = 1) (hty : ty0 k = .boolean) (hfin : (Tt k).2.2.2 = false) (hw : am_fl I.2.2.2 index (Tt k)) (hd : decode I.1 pc = .ok (.putfield index, 3)) : am_So T I pc (op_pz t k (pc + 3)) := by
  intro ad ca D A nc ns p l e R s m args below meth c Cx lv st M ok
  unfold op_pz
  dsimp only
  rcases st with _ | ⟨v | v | v, _ | ⟨x | x | ⟨t', i⟩, st⟩⟩
  · exact True.intro
  · exact True.intro
  · exact True.intro
  · exact True.intro
  · dsimp only
    cases hb : Nat.beq t' t with
    | false => exact True.intro
    | true =>
      have e1 : t' = t := Nat.eq_of_beq_eq_true hb
      subst e1
      have hkey := am_key_of hc.2.2.2.2.2 (am_ok_h (am_ok_t ok))
      by_cases hz : am_bz v = true
      · simp only [cond_true, if_pos hz]
        refine ⟨⟨ok.1, (am_ok_t (am_ok_t ok)).2.1, fun j => ?_⟩, fun Q K H locs ls hW hS hl => ?_⟩
        · show (am_p t' M (sF (am_s t' M) t' k i v)).1.2.2.1 j < 5
          rw [(am_xK_putF (t := t') (k := k) (i := i) (M := M) (v := v)).1]
          exact ok.2.2 j
        · exact am_putW Cx hc hk hw hfin (by rw [hty]; exact am_bz_nar hz) (by rw [hty]; exact am_bz_fit hz) hkey hW hS (am_setF v hk h0) (fun t2 i2 hne _ => am_setF_o v t2 i2 hne) hd (fun H1 locs1 h1 h2 => K H1 locs1 ls h1 h2 hl)
      · simp only [cond_true, if_neg hz]
  all_goals exact True.intro
end SO2
end
section
/-! SOUNDNESS: longs and KINDs put, arrays, statics, switches -/
section SO3
variable {T : Nat → am_Me} {I : am_In} {pc : Nat} {t k index : Nat} {C : String} {Tt : u_T} {ty0 : Nat → FieldType}
theorem so_pj (hc : am_cf 32 C Tt ty0) (hk : k < am_nf 32) (h0 : am_fk 32 k = 4) (hty : ty0 k = .long) (hfin : (Tt k).2.2.2 = false) (hw : am_fl I.2.2.2 index (Tt k)) (hd : decode I.1 pc = .ok (.putfield index, 3)) : am_So T I pc (op_pj k (pc + 3)) := by
  intro ad ca D A nc ns p l e R s m args below meth c Cx lv st M ok
  unfold op_pj
  dsimp only
  rcases st with _ | ⟨v | v | v, _ | ⟨x | x | ⟨t', i⟩, st⟩⟩
  · exact True.intro
  · exact True.intro
  · exact True.intro
  · exact True.intro
  · exact True.intro
  · exact True.intro
  · exact True.intro
  · exact True.intro
  · dsimp only
    cases hb : Nat.beq t' 32 with
    | false => exact True.intro
    | true =>
      have e1 : t' = 32 := Nat.eq_of_beq_eq_true hb
      subst e1
      have hkey := am_key_of hc.2.2.2.2.2 (am_ok_h (am_ok_t ok))
      have hi : i = 0 := by
        have hall : ∀ q ∈ am_keys, q.1 = 32 → q.2 = 0 := by decide +kernel
        exact hall _ hkey rfl
      subst hi
      refine ⟨⟨ok.1, (am_ok_t (am_ok_t ok)).2.1, ok.2.2⟩, fun Q K H locs ls hW hS hl => ?_⟩
      refine am_putW (M' := (M.1, sL M.2 k v)) Cx hc hk hw hfin (by rw [hty]; rfl) (by rw [hty]; rfl) hkey hW hS ?_ (fun t2 i2 hne hk2 => ?_) hd (fun H1 locs1 h1 h2 => K H1 locs1 ls h1 h2 hl)
      · refine am_range_set _ _ _ _ _ hk ?_ (fun j hj => ?_)
        · unfold am_fv
          rw [h0]
          show Value.long (am_u1 M.2.2.2.2 k v k) = _
          rw [am_u1_self]
          rfl
        · exact am_fv_eq rfl (am_u1_ne _ _ hj) rfl
      · refine am_cell_eq (fun h0' j _ => ?_) (fun q => ?_)
        · have hall : ∀ q ∈ am_keys, q.1 ≠ 32 → ∀ j, j < am_nf q.1 → am_fk q.1 j ≠ 4 := by decide +kernel
          have hn4 := hall _ hk2 (fun h => hne (by
            have hall2 : ∀ q ∈ am_keys, q.1 = 32 → q.2 = 0 := by decide +kernel
            rw [show t2 = 32 from h, show i2 = 0 from hall2 _ hk2 h])) j (by assumption)
          have hF : xF (am_s t2 (M.1, sL M.2 k v)) t2 j i2 = xF (am_s t2 M) t2 j i2 := by
            unfold am_s
            cases Nat.ble 32 t2 <;> rfl
          show am_fv ad (M.1, sL M.2 k v) t2 i2 j = am_fv ad M t2 i2 j
          unfold am_fv
          rw [hF]
          split
          · rfl
          · rfl
          · rename_i h4
            exact absurd h4 hn4
          · rfl
        · unfold am_s
          cases Nat.ble 32 t2 <;> rfl
  all_goals exact True.intro
theorem so_pk (hc : am_cf 4 C Tt ty0) (hty : ty0 1 = .object "ServedAhead$Kind") (hfin : (Tt 1).2.2.2 = false) (hw : am_fl I.2.2.2 index (Tt 1)) (hd : decode I.1 pc = .ok (.putfield index, 3)) : am_So T I pc (op_pk (pc + 3)) := by
  intro ad ca D A nc ns p l e R s m args below meth c Cx lv st M ok
  unfold op_pk
  dsimp only
  rcases st with _ | ⟨v | v | ⟨t'', u⟩, _ | ⟨x | x | ⟨t', i⟩, st⟩⟩
  any_goals exact True.intro
  dsimp only
  cases hb : (Nat.beq t'' 20 && Nat.beq t' 4) with
  | false => exact True.intro
  | true =>
    rw [Bool.and_eq_true] at hb
    have e1 : t'' = 20 := Nat.eq_of_beq_eq_true hb.1
    have e2 : t' = 4 := Nat.eq_of_beq_eq_true hb.2
    subst e1
    subst e2
    have hkey := am_key_of hc.2.2.2.2.2 (am_ok_h (am_ok_t ok))
    have hu : u < 5 := by
      rcases am_ok_h ok with h | ⟨-, h⟩ | ⟨h, -⟩
      · exact absurd h (by
          intro h
          have hall : ∀ q ∈ am_keys, q.1 ≠ 20 := by decide +kernel
          exact hall _ h rfl)
      · exact h
      · rcases h with h | h | h <;> cases h
    have hxk : ∀ j, j ≠ i → xK (sK M.1 i u) j = xK M.1 j := fun j hj => am_u1_ne _ _ hj
    refine ⟨⟨ok.1, (am_ok_t (am_ok_t ok)).2.1, fun j => ?_⟩, fun Q K H locs ls hW hS hl => ?_⟩
    · show xK (sK M.1 i u) j < 5
      by_cases hj : j = i
      · rw [hj]
        show am_u1 M.1.2.2.1 i u i < 5
        rw [am_u1_self]
        exact hu
      · rw [hxk j hj]
        exact ok.2.2 j
    · have hFs : ∀ t2, am_s t2 (sK M.1 i u, M.2) = (bif Nat.ble 32 t2 then M.2 else sK M.1 i u) := fun t2 => rfl
      have hF : ∀ t2 j i2, xF (am_s t2 (sK M.1 i u, M.2)) t2 j i2 = xF (am_s t2 M) t2 j i2 := by
        intro t2 j i2
        unfold am_s
        cases Nat.ble 32 t2 <;> rfl
      have hA2 : ∀ t2 j i2, xA (am_s t2 (sK M.1 i u, M.2)) t2 j i2 = xA (am_s t2 M) t2 j i2 := by
        intro t2 j i2
        unfold am_s
        cases Nat.ble 32 t2 <;> rfl
      refine am_putW (k := 1) (M' := (sK M.1 i u, M.2)) Cx hc (show 1 < am_nf 4 by decide) hw hfin (by rw [hty]; rfl) (by rw [hty]; rfl) hkey hW hS ?_ (fun t2 i2 hne hk2 => ?_) hd (fun H1 locs1 h1 h2 => K H1 locs1 ls h1 h2 hl)
      · refine am_range_set _ _ _ _ _ (show 1 < am_nf 4 by decide) ?_ (fun j hj => ?_)
        · show Value.ref (ad 20 (am_u1 M.1.2.2.1 i u i)) = Value.ref (ad 20 u)
          rw [am_u1_self]
        · show am_fv ad (sK M.1 i u, M.2) 4 i j = am_fv ad M 4 i j
          unfold am_fv
          rw [hF]
          split
          · rfl
          · rename_i h3
            have h4 : ∀ j, j < 7 → am_fk 4 j = 3 → j = 1 := by decide +kernel
            have h5 : j < 7 := by
              rcases Nat.lt_or_ge j 7 with h | h
              · exact h
              · exfalso
                have h6 : am_fk 4 j = 0 := by
                  unfold am_fk
                  rw [List.getD_eq_getElem?_getD, List.getElem?_eq_none (Nat.le_trans (by decide) h)]
                  rfl
                rw [h6] at h3
                cases h3
            exact absurd (h4 j h5 h3) hj
          · rfl
          · rfl
      · refine am_cell_eq (fun h0' j _ => ?_) (fun q => hA2 _ _ _)
        show am_fv ad (sK M.1 i u, M.2) t2 i2 j = am_fv ad M t2 i2 j
        by_cases hi2 : i2 = i
        · have hall : ∀ q ∈ am_keys, q.1 ≠ 4 → ∀ j, j < am_nf q.1 → am_fk q.1 j ≠ 3 := by decide +kernel
          have hn3 := hall _ hk2 (fun h => hne (by rw [show t2 = 4 from h, hi2])) j (by assumption)
          unfold am_fv
          rw [hF]
          split
          · rfl
          · rename_i h3
            exact absurd h3 hn3
          · rfl
          · rfl
        · exact am_fv_eq (hxk i2 hi2) rfl (hF _ _ _)
/-- arrays -/
theorem so_al (h1 : am_ak t = 1 ∨ am_ak t = 3) (ht : t < 20 ∨ 32 ≤ t) (hd : decode I.1 pc = .ok (.arraylength, 1)) : am_So T I pc (op_al t (pc + 1)) := by
  intro ad ca D A nc ns p l e R s m args below meth c Cx lv st M ok
  unfold op_al
  dsimp only
  rcases st with _ | ⟨x | x | ⟨t', i⟩, st⟩
  any_goals exact True.intro
  dsimp only
  cases hb : Nat.beq t' t with
  | false => exact True.intro
  | true =>
    have e1 : t' = t := Nat.eq_of_beq_eq_true hb
    subst e1
    have hkey := am_key_of ht (am_ok_h ok)
    refine ⟨am_ok_c True.intro (am_ok_t ok), fun Q K H locs ls hW hS hl => ?_⟩
    obtain ⟨hx, hb, hr, hml, hown, hlk, hen, hro, hK, hnc, hns, hf1, hl1⟩ := Cx
    obtain ⟨q0, hq⟩ := am_place hkey
    have he := am_enc_at (ad := ad) (ca := ca) (M := M) hq
    rcases h1 with h1 | h1
    · rw [am_cell_int h1] at he
      exact va_alen hx hb hK hW.1 q0 0 he rfl rfl hd (K H locs ls hW hS hl)
    · rw [am_cell_per h1] at he
      exact va_alen hx hb hK hW.1 q0 2 he rfl rfl hd (K H locs ls hW hS hl)
theorem so_ia (ht : t < 20 ∨ 32 ≤ t) (hd : am_ak t = 1 ∧ decode I.1 pc = .ok (.iaload, 1) ∨ am_ak t = 2 ∧ decode I.1 pc = .ok (.baload, 1)) : am_So T I pc (op_ia t (pc + 1)) := by
  intro ad ca D A nc ns p l e R s m args below meth c Cx lv st M ok
  unfold op_ia
  dsimp only
  rcases st with _ | ⟨j | j | j, _ | ⟨x | x | ⟨t', i⟩, st⟩⟩
  any_goals exact True.intro
  dsimp only
  cases hb : Nat.beq t' t with
  | false => exact True.intro
  | true =>
    have e1 : t' = t := Nat.eq_of_beq_eq_true hb
    subst e1
    have hkey := am_key_of ht (am_ok_h (am_ok_t ok))
    by_cases hj : am_inB j (am_len t') = true
    · simp only [cond_true, if_pos hj]
      refine ⟨am_ok_c True.intro (am_ok_t (am_ok_t ok)), fun Q K H locs ls hW hS hl => ?_⟩
      obtain ⟨hx, hb, hr, hml, hown, hlk, hen, hro, hK, hnc, hns, hf1, hl1⟩ := Cx
      obtain ⟨q0, hq⟩ := am_place hkey
      have he := am_enc_at (ad := ad) (ca := ca) (M := M) hq
      rcases hd with ⟨h1, hd⟩ | ⟨h1, hd⟩
      · rw [am_cell_int h1] at he
        exact va_iald hx hb hK hW.1 q0 0 he rfl (am_inB_iff hj) hd (K H locs ls hW hS hl)
      · rw [am_cell_byte h1] at he
        exact va_bald hx hb hK hW.1 q0 1 he rfl (am_inB_iff hj) hd (K H locs ls hW hS hl)
    · simp only [cond_true, if_neg hj]
theorem so_is (ht : t < 20 ∨ 32 ≤ t) (h1 : am_ak t = 1) (hd : decode I.1 pc = .ok (.iastore, 1)) : am_So T I pc (op_is t (pc + 1)) := by
  intro ad ca D A nc ns p l e R s m args below meth c Cx lv st M ok
  unfold op_is
  dsimp only
  rcases st with _ | ⟨v | v | v, _ | ⟨j | j | j, _ | ⟨x | x | ⟨t', i⟩, st⟩⟩⟩
  any_goals exact True.intro
  dsimp only
  cases hb : Nat.beq t' t with
  | false => exact True.intro
  | true =>
    have e1 : t' = t := Nat.eq_of_beq_eq_true hb
    subst e1
    have hkey := am_key_of ht (am_ok_h (am_ok_t (am_ok_t ok)))
    by_cases hj : am_inB j (am_len t') = true
    · simp only [cond_true, if_pos hj]
      refine ⟨⟨ok.1, (am_ok_t (am_ok_t (am_ok_t ok))).2.1, fun j2 => ?_⟩, fun Q K H locs ls hW hS hl => ?_⟩
      · show (am_p t' M (sA (am_s t' M) t' i j.toNatClampNeg v)).1.2.2.1 j2 < 5
        rw [(am_xK_putA (t := t') (i := i) (q := j.toNatClampNeg) (M := M) (v := v)).1]
        exact ok.2.2 j2
      obtain ⟨hx, hb, hr, hml, hown, hlk, hen, hro, hK, hnc, hns, hf1, hl1⟩ := Cx
      obtain ⟨q0, hq⟩ := am_place hkey
      have he := am_enc_at (ad := ad) (ca := ca) (M := M) hq
      rw [am_cell_int h1] at he
      have hset := am_enc_set (ad := ad) (ca := ca) (M := M) (M' := am_p t' M (sA (am_s t' M) t' i j.toNatClampNeg v)) hq (x := .inl (ca 0, am_len t', .inl (upd (fun q' => xA (am_s t' M) t' i q') j.toNatClampNeg v))) (by rw [am_cell_int h1, am_setA_f]) (fun t2 i2 hne _ => am_setA_o v j.toNatClampNeg (by rw [h1]; decide) t2 i2 hne)
      exact va_iast hx hb hK hW.1 hW.2 hS q0 0 he rfl (am_inB_iff hj) hd (fun H1 locs1 a1 a2 a3 => K H1 locs1 ls ⟨hset ▸ a1, hset ▸ a2⟩ a3 hl)
    · simp only [cond_true, if_neg hj]
theorem so_bs (ht : t < 20 ∨ 32 ≤ t) (h1 : am_ak t = 2) (hd : decode I.1 pc = .ok (.bastore, 1)) : am_So T I pc (op_bs t (pc + 1)) := by
  intro ad ca D A nc ns p l e R s m args below meth c Cx lv st M ok
  unfold op_bs
  dsimp only
  rcases st with _ | ⟨v | v | v, _ | ⟨j | j | j, _ | ⟨x | x | ⟨t', i⟩, st⟩⟩⟩
  any_goals exact True.intro
  dsimp only
  cases hb : Nat.beq t' t with
  | false => exact True.intro
  | true =>
    have e1 : t' = t := Nat.eq_of_beq_eq_true hb
    subst e1
    have hkey := am_key_of ht (am_ok_h (am_ok_t (am_ok_t ok)))
    by_cases hj : am_inB j (am_len t') = true
    · simp only [cond_true, if_pos hj]
      refine ⟨⟨ok.1, (am_ok_t (am_ok_t (am_ok_t ok))).2.1, fun j2 => ?_⟩, fun Q K H locs ls hW hS hl => ?_⟩
      · show (am_p t' M (sA (am_s t' M) t' i j.toNatClampNeg v.toInt8.toInt32)).1.2.2.1 j2 < 5
        rw [(am_xK_putA (t := t') (i := i) (q := j.toNatClampNeg) (M := M) (v := v.toInt8.toInt32)).1]
        exact ok.2.2 j2
      obtain ⟨hx, hb, hr, hml, hown, hlk, hen, hro, hK, hnc, hns, hf1, hl1⟩ := Cx
      obtain ⟨q0, hq⟩ := am_place hkey
      have he := am_enc_at (ad := ad) (ca := ca) (M := M) hq
      rw [am_cell_byte h1] at he
      have hset := am_enc_set (ad := ad) (ca := ca) (M := M) (M' := am_p t' M (sA (am_s t' M) t' i j.toNatClampNeg v.toInt8.toInt32)) hq (x := .inl (ca 1, am_len t', .inl (upd (fun q' => xA (am_s t' M) t' i q') j.toNatClampNeg (vp_nar .byte v)))) (by rw [am_cell_byte h1, am_setA_f, vp_nar_byte]) (fun t2 i2 hne _ => am_setA_o _ j.toNatClampNeg (by rw [h1]; decide) t2 i2 hne)
      exact va_bast hx hb hK hW.1 hW.2 hS q0 1 he rfl (am_inB_iff hj) hd (fun H1 locs1 a1 a2 a3 => K H1 locs1 ls ⟨hset ▸ a1, hset ▸ a2⟩ a3 hl)
    · simp only [cond_true, if_neg hj]
theorem so_aa (ht : t < 20 ∨ 32 ≤ t) (h1 : am_ak t = 3) (hcl : ∀ i, (t, i) ∈ am_keys → ∀ q, q < am_len t → (4, am_el t i q) ∈ am_keys) (hd : decode I.1 pc = .ok (.aaload, 1)) : am_So T I pc (op_aa t (pc + 1)) := by
  intro ad ca D A nc ns p l e R s m args below meth c Cx lv st M ok
  unfold op_aa
  dsimp only
  rcases st with _ | ⟨j | j | j, _ | ⟨x | x | ⟨t', i⟩, st⟩⟩
  any_goals exact True.intro
  dsimp only
  cases hb : Nat.beq t' t with
  | false => exact True.intro
  | true =>
    have e1 : t' = t := Nat.eq_of_beq_eq_true hb
    subst e1
    have hkey := am_key_of ht (am_ok_h (am_ok_t ok))
    by_cases hj : am_inB j (am_len t') = true
    · simp only [cond_true, if_pos hj]
      have hlt : j.toNatClampNeg < am_len t' := Nat.not_le.mp fun q => am_inB_iff hj (Or.inr q)
      refine ⟨am_ok_c (Or.inl (hcl i hkey _ hlt)) (am_ok_t (am_ok_t ok)), fun Q K H locs ls hW hS hl => ?_⟩
      obtain ⟨hx, hb, hr, hml, hown, hlk, hen, hro, hK, hnc, hns, hf1, hl1⟩ := Cx
      obtain ⟨q0, hq⟩ := am_place hkey
      have he := am_enc_at (ad := ad) (ca := ca) (M := M) hq
      rw [am_cell_per h1] at he
      exact va_aldq hx hb hK hW.1 q0 2 he rfl (am_inB_iff hj) hd (K H locs ls hW hS hl)
    · simp only [cond_true, if_neg hj]
end SO3
end
section
/-! SOUNDNESS: statics, switches, Math, calls, returns -/
theorem am_k20 {i : Nat} (h : am_vk 20 i) : i < 5 := by
  rcases h with h | ⟨-, h⟩ | ⟨h, -⟩
  · exact absurd h (by
      intro h
      have hall : ∀ q ∈ am_keys, q.1 ≠ 20 := by decide +kernel
      exact hall _ h rfl)
  · exact h
  · rcases h with h | h | h <;> cases h
theorem am_k2x {t i : Nat} (ht : t = 21 ∨ t = 22 ∨ t = 23) (h : am_vk t i) : i = 0 := by
  rcases h with h | ⟨h, -⟩ | ⟨-, h⟩
  · have hall : ∀ q ∈ am_keys, q.1 ≠ 21 ∧ q.1 ≠ 22 ∧ q.1 ≠ 23 := by decide +kernel
    have h2 := hall _ h
    rcases ht with rfl | rfl | rfl
    · exact absurd rfl h2.1
    · exact absurd rfl h2.2.1
    · exact absurd rfl h2.2.2
  · omega
  · exact h
section SO4
variable {T : Nat → am_Me} {I : am_In} {pc : Nat} {t k index : Nat}
theorem so_gs21 (hw : am_fl I.2.2.2 index ("ServedAhead", "ACTS", "[I", false)) (hd : decode I.1 pc = .ok (.getstatic index, 3)) : am_So T I pc (op_gs 21 0 (pc + 3)) := by
  intro ad ca D A nc ns p l e R s m args below meth c Cx lv st M ok
  refine ⟨am_ok_c (Or.inr (Or.inr ⟨Or.inl rfl, rfl⟩)) ok, fun Q K H locs ls hW hS hl => ?_⟩
  obtain ⟨hx, hb, hr, hml, hown, hlk, hen, hro, hK, hnc, hns, hf1, hl1⟩ := Cx
  rcases hw with hw | ⟨host, hw⟩
  · exact va_gets hx hb hro.2.1 hS hown (am_use hen hw rfl) (fun _ h => h) hd (K H locs ls hW hS hl)
  · exact va_getsN hx hb hro.2.1 hS hown (am_use hen hw rfl) (fun _ h => h) hd (K H locs ls hW hS hl)
theorem so_gs22 (hw : am_fl I.2.2.2 index ("ServedAhead$Kind", "ALL", "[LServedAhead$Kind;", false)) (hd : decode I.1 pc = .ok (.getstatic index, 3)) : am_So T I pc (op_gs 22 0 (pc + 3)) := by
  intro ad ca D A nc ns p l e R s m args below meth c Cx lv st M ok
  refine ⟨am_ok_c (Or.inr (Or.inr ⟨Or.inr (Or.inl rfl), rfl⟩)) ok, fun Q K H locs ls hW hS hl => ?_⟩
  obtain ⟨hx, hb, hr, hml, hown, hlk, hen, hro, hK, hnc, hns, hf1, hl1⟩ := Cx
  rcases hw with hw | ⟨host, hw⟩
  · exact va_gets hx hb hro.2.2.2.1 hS hown (am_use hen hw rfl) (fun _ h => h) hd (K H locs ls hW hS hl)
  · exact va_getsN hx hb hro.2.2.2.1 hS hown (am_use hen hw rfl) (fun _ h => h) hd (K H locs ls hW hS hl)
theorem so_gs20 {i : Nat} {n : String} (hi : i < 5) (hn : am_kn.getD i "" = n) (hw : am_fl I.2.2.2 index ("ServedAhead$Kind", n, "LServedAhead$Kind;", false)) (hd : decode I.1 pc = .ok (.getstatic index, 3)) : am_So T I pc (op_gs 20 i (pc + 3)) := by
  subst hn
  intro ad ca D A nc ns p l e R s m args below meth c Cx lv st M ok
  refine ⟨am_ok_c (Or.inr (Or.inl ⟨rfl, hi⟩)) ok, fun Q K H locs ls hW hS hl => ?_⟩
  obtain ⟨hx, hb, hr, hml, hown, hlk, hen, hro, hK, hnc, hns, hf1, hl1⟩ := Cx
  have hZ := (hro.1.1 i hi).1
  rcases hw with hw | ⟨host, hw⟩
  · exact va_gets hx hb hZ hS hown (am_use hen hw rfl) (fun _ h => h) hd (K H locs ls hW hS hl)
  · exact va_getsN hx hb hZ hS hown (am_use hen hw rfl) (fun _ h => h) hd (K H locs ls hW hS hl)
theorem so_tl21 (hd : decode I.1 pc = .ok (.arraylength, 1)) : am_So T I pc (op_tl 21 11 (pc + 1)) := by
  intro ad ca D A nc ns p l e R s m args below meth c Cx lv st M ok
  unfold op_tl
  dsimp only
  rcases st with _ | ⟨x | x | ⟨t', i⟩, st⟩
  any_goals exact True.intro
  dsimp only
  cases hb : Nat.beq t' 21 with
  | false => exact True.intro
  | true =>
    have e1 : t' = 21 := Nat.eq_of_beq_eq_true hb
    subst e1
    have hi : i = 0 := am_k2x (Or.inl rfl) (am_ok_h ok)
    subst hi
    refine ⟨am_ok_c True.intro (am_ok_t ok), fun Q K H locs ls hW hS hl => ?_⟩
    obtain ⟨hx, hb, hr, hml, hown, hlk, hen, hro, hK, hnc, hns, hf1, hl1⟩ := Cx
    exact va_tlen hx hb hro.2.2.1 hS rfl hd (K H locs ls hW hS hl)
theorem so_tl22 (hd : decode I.1 pc = .ok (.arraylength, 1)) : am_So T I pc (op_tl 22 5 (pc + 1)) := by
  intro ad ca D A nc ns p l e R s m args below meth c Cx lv st M ok
  unfold op_tl
  dsimp only
  rcases st with _ | ⟨x | x | ⟨t', i⟩, st⟩
  any_goals exact True.intro
  dsimp only
  cases hb : Nat.beq t' 22 with
  | false => exact True.intro
  | true =>
    have e1 : t' = 22 := Nat.eq_of_beq_eq_true hb
    subst e1
    have hi : i = 0 := am_k2x (Or.inr (Or.inl rfl)) (am_ok_h ok)
    subst hi
    refine ⟨am_ok_c True.intro (am_ok_t ok), fun Q K H locs ls hW hS hl => ?_⟩
    obtain ⟨hx, hb, hr, hml, hown, hlk, hen, hro, hK, hnc, hns, hf1, hl1⟩ := Cx
    exact va_tlen hx hb hro.2.2.2.2 hS rfl hd (K H locs ls hW hS hl)
theorem so_ti (hd : decode I.1 pc = .ok (.iaload, 1)) : am_So T I pc (op_ti (pc + 1)) := by
  intro ad ca D A nc ns p l e R s m args below meth c Cx lv st M ok
  unfold op_ti
  dsimp only
  rcases st with _ | ⟨j | j | j, _ | ⟨x | x | ⟨t', i⟩, st⟩⟩
  any_goals exact True.intro
  dsimp only
  cases hb : Nat.beq t' 21 with
  | false => exact True.intro
  | true =>
    have e1 : t' = 21 := Nat.eq_of_beq_eq_true hb
    subst e1
    have hi : i = 0 := am_k2x (Or.inl rfl) (am_ok_h (am_ok_t ok))
    subst hi
    by_cases hj : am_inB j 11 = true
    · simp only [cond_true, if_pos hj]
      refine ⟨am_ok_c True.intro (am_ok_t (am_ok_t ok)), fun Q K H locs ls hW hS hl => ?_⟩
      obtain ⟨hx, hb, hr, hml, hown, hlk, hen, hro, hK, hnc, hns, hf1, hl1⟩ := Cx
      exact va_ti hx hb hro.2.2.1 hS (am_inB_iff hj) rfl hd (K H locs ls hW hS hl)
    · simp only [cond_true, if_neg hj]
theorem so_tk (hd : decode I.1 pc = .ok (.aaload, 1)) : am_So T I pc (op_tk (pc + 1)) := by
  intro ad ca D A nc ns p l e R s m args below meth c Cx lv st M ok
  unfold op_tk
  dsimp only
  rcases st with _ | ⟨j | j | j, _ | ⟨x | x | ⟨t', i⟩, st⟩⟩
  any_goals exact True.intro
  dsimp only
  cases hb : Nat.beq t' 22 with
  | false => exact True.intro
  | true =>
    have e1 : t' = 22 := Nat.eq_of_beq_eq_true hb
    subst e1
    have hi : i = 0 := am_k2x (Or.inr (Or.inl rfl)) (am_ok_h (am_ok_t ok))
    subst hi
    by_cases hj : am_inB j 5 = true
    · simp only [cond_true, if_pos hj]
      have hlt : j.toNatClampNeg < 5 := Nat.not_le.mp fun q => am_inB_iff hj (Or.inr q)
      refine ⟨am_ok_c (Or.inr (Or.inl ⟨rfl, hlt⟩)) (am_ok_t (am_ok_t ok)), fun Q K H locs ls hW hS hl => ?_⟩
      obtain ⟨hx, hb, hr, hml, hown, hlk, hen, hro, hK, hnc, hns, hf1, hl1⟩ := Cx
      exact vb_tq hx hb hro.2.2.2.2 hS (am_inB_iff hj) rfl hd (K H locs ls hW hS hl)
    · simp only [cond_true, if_neg hj]
theorem so_aeq {off : Int} {tgt : Nat} (hd : decode I.1 pc = .ok (.if_acmp .eq off, 3)) (ht : (pc : Int) + off = (tgt : Int)) : am_So T I pc (op_aeq tgt (pc + 3)) := by
  intro ad ca D A nc ns p l e R s m args below meth c Cx lv st M ok
  unfold op_aeq
  dsimp only
  rcases st with _ | ⟨v | v | ⟨t1, u⟩, _ | ⟨x | x | ⟨t2, i⟩, st⟩⟩
  any_goals exact True.intro
  dsimp only
  cases hb : (Nat.beq t1 20 && Nat.beq t2 20) with
  | false => exact True.intro
  | true =>
    rw [Bool.and_eq_true] at hb
    have e1 : t1 = 20 := Nat.eq_of_beq_eq_true hb.1
    have e2 : t2 = 20 := Nat.eq_of_beq_eq_true hb.2
    subst e1
    subst e2
    have hu := am_k20 (am_ok_h ok)
    have hi := am_k20 (am_ok_h (am_ok_t ok))
    refine ⟨am_ok_t (am_ok_t ok), fun Q K H locs ls hW hS hl => ?_⟩
    obtain ⟨hx, hb, hr, hml, hown, hlk, hen, hro, hK, hnc, hns, hf1, hl1⟩ := Cx
    have K := K H locs ls hW hS hl
    refine lv_acmp_eq (rx := some (ad 20 i)) (ry := some (ad 20 u)) hx hb hd ht (fun h => ?_) (fun h => ?_)
    · rwa [if_pos (hro.1.2 i u hi hu (Option.some.inj h))] at K
    · rwa [if_neg (fun h2 => h (by rw [show i = u from h2]))] at K
theorem so_ane {off : Int} {tgt : Nat} (hd : decode I.1 pc = .ok (.if_acmp .ne off, 3)) (ht : (pc : Int) + off = (tgt : Int)) : am_So T I pc (op_ane tgt (pc + 3)) := by
  intro ad ca D A nc ns p l e R s m args below meth c Cx lv st M ok
  unfold op_ane
  dsimp only
  rcases st with _ | ⟨v | v | ⟨t1, u⟩, _ | ⟨x | x | ⟨t2, i⟩, st⟩⟩
  any_goals exact True.intro
  dsimp only
  cases hb : (Nat.beq t1 20 && Nat.beq t2 20) with
  | false => exact True.intro
  | true =>
    rw [Bool.and_eq_true] at hb
    have e1 : t1 = 20 := Nat.eq_of_beq_eq_true hb.1
    have e2 : t2 = 20 := Nat.eq_of_beq_eq_true hb.2
    subst e1
    subst e2
    have hu := am_k20 (am_ok_h ok)
    have hi := am_k20 (am_ok_h (am_ok_t ok))
    refine ⟨am_ok_t (am_ok_t ok), fun Q K H locs ls hW hS hl => ?_⟩
    obtain ⟨hx, hb, hr, hml, hown, hlk, hen, hro, hK, hnc, hns, hf1, hl1⟩ := Cx
    have K := K H locs ls hW hS hl
    refine lv_acmp_ne (rx := some (ad 20 i)) (ry := some (ad 20 u)) hx hb hd ht (fun h => ?_) (fun h => ?_)
    · rwa [if_pos (fun h2 => h (by rw [show i = u from h2]))] at K
    · rwa [if_neg (fun h2 => h2 (hro.1.2 i u hi hu (Option.some.inj h)))] at K
/-- a switch: offsets offs, where they lead tgs -/
theorem so_sw {dflt lo hi : Int} {offs : Array Int} {len : Nat} {tgs : List Nat} {dt : Nat} (hd : decode I.1 pc = .ok (.tableswitch dflt lo hi offs, len)) (hdt : (pc : Int) + dflt = (dt : Int)) (hlen : lo + (tgs.length : Int) = hi + 1) (ho : ∀ j, j < tgs.length → ∃ off, offs[j]? = some off ∧ (pc : Int) + off = ((tgs.getD j dt : Nat) : Int)) : am_So T I pc (op_sw lo tgs dt) := by
  intro ad ca D A nc ns p l e R s m args below meth c Cx lv st M ok
  unfold op_sw
  dsimp only
  rcases st with _ | ⟨x | x | x, st⟩
  any_goals exact True.intro
  refine ⟨am_ok_t ok, fun Q K H locs ls hW hS hl => ?_⟩
  obtain ⟨hx, hb, hr, hml, hown, hlk, hen, hro, hK, hnc, hns, hf1, hl1⟩ := Cx
  have K := K H locs ls hW hS hl
  by_cases h1 : x.toInt < lo
  · have e : am_sw lo tgs dt x = dt := by unfold am_sw; rw [if_pos h1]
    simp only [e] at K
    exact lv_tableOut hx hb hd (Or.inl h1) hdt K
  · by_cases h2 : hi < x.toInt
    · have e : am_sw lo tgs dt x = dt := by
        unfold am_sw
        rw [if_neg h1, List.getD_eq_getElem?_getD, List.getElem?_eq_none (by omega)]
        rfl
      simp only [e] at K
      exact lv_tableOut hx hb hd (Or.inr h2) hdt K
    · have hj : (x.toInt - lo).toNat < tgs.length := by omega
      obtain ⟨off, g1, g2⟩ := ho _ hj
      have e : am_sw lo tgs dt x = tgs.getD (x.toInt - lo).toNat dt := by unfold am_sw; rw [if_neg h1]
      simp only [e] at K
      exact lv_tableIn hx hb hd h1 h2 g1 g2 K
theorem so_max (hw : Cond.methodLink I.2.2.2 index Lib.Math.max.name ∈ lw_tbl) (h2 : Cond.static Lib.Math.max.name ∈ lw_tbl) (h3 : Cond.initialized "java/lang/Math" ∈ lw_tbl) (h4 : Cond.code Lib.Math.max.name Lib.Math.max.code 2 (some .int) ∈ lw_tbl) (hd : decode I.1 pc = .ok (.invokestatic index, 3)) : am_So T I pc (op_mm (fun x y => if x < y then y else x) (pc + 3)) := by
  intro ad ca D A nc ns p l e R s m args below meth c Cx lv st M ok
  unfold op_mm
  dsimp only
  rcases st with _ | ⟨y | y | y, _ | ⟨x | x | x, st⟩⟩
  any_goals exact True.intro
  dsimp only
  cases hb : Nat.ble (am_cs st) 8 with
  | false => exact True.intro
  | true =>
    have h8 := Nat.le_of_ble_eq_true hb
    refine ⟨am_ok_c True.intro (am_ok_t (am_ok_t ok)), fun Q K H locs ls hW hS hl => ?_⟩
    obtain ⟨hx, hb, hr, hml, hown, hlk, hen, hro, hK, hnc, hns, hf1, hl1⟩ := Cx
    exact va_mmax hx hb (by rw [hml]; exact hl.1.symm) hown (am_use hen hw rfl) (am_use hen h2 rfl) (am_use hen h3 rfl) (am_use hen h4 rfl) hf1 (by rw [am_cs_cat]; omega) hnc hns hd (K H locs ls hW hS hl)
theorem so_min (hw : Cond.methodLink I.2.2.2 index Lib.Math.min.name ∈ lw_tbl) (h2 : Cond.static Lib.Math.min.name ∈ lw_tbl) (h3 : Cond.initialized "java/lang/Math" ∈ lw_tbl) (h4 : Cond.code Lib.Math.min.name Lib.Math.min.code 2 (some .int) ∈ lw_tbl) (hd : decode I.1 pc = .ok (.invokestatic index, 3)) : am_So T I pc (op_mm (fun x y => if y < x then y else x) (pc + 3)) := by
  intro ad ca D A nc ns p l e R s m args below meth c Cx lv st M ok
  unfold op_mm
  dsimp only
  rcases st with _ | ⟨y | y | y, _ | ⟨x | x | x, st⟩⟩
  any_goals exact True.intro
  dsimp only
  cases hb : Nat.ble (am_cs st) 8 with
  | false => exact True.intro
  | true =>
    have h8 := Nat.le_of_ble_eq_true hb
    refine ⟨am_ok_c True.intro (am_ok_t (am_ok_t ok)), fun Q K H locs ls hW hS hl => ?_⟩
    obtain ⟨hx, hb, hr, hml, hown, hlk, hen, hro, hK, hnc, hns, hf1, hl1⟩ := Cx
    exact va_mmin hx hb (by rw [hml]; exact hl.1.symm) hown (am_use hen hw rfl) (am_use hen h2 rfl) (am_use hen h3 rfl) (am_use hen h4 rfl) hf1 (by rw [am_cs_cat]; omega) hnc hns hd (K H locs ls hW hS hl)
/-- returns -/
theorem so_vret (hrt : I.2.2.1 = none) (hd : decode I.1 pc = .ok (.return_, 1)) : am_So T I pc op_vret := by
  intro ad ca D A nc ns p l e R s m args below meth c Cx lv st M ok
  unfold op_vret
  dsimp only
  rcases st with _ | ⟨v, st⟩
  · have hpu : ∀ v, (none : Option am_V) = some v → am_ov v := (by intro v h; cases h)
    intro H locs ls hW hS hl
    obtain ⟨hx, hb, hr, hml, hown, hlk, hen, hro, hK, hnc, hns, hf1, hl1⟩ := Cx
    exact W.vret hx hb (hr.trans hrt) (fun t ht _ => ⟨rfl, ⟨hpu, ok.2.2⟩, by rw [ht]; exact hW, hS.F ht⟩) hS.2.2 hd
  · exact True.intro
theorem so_iret (hrt : I.2.2.1 = some .int) (hd : decode I.1 pc = .ok (.ireturn, 1)) : am_So T I pc op_iret := by
  intro ad ca D A nc ns p l e R s m args below meth c Cx lv st M ok
  unfold op_iret
  dsimp only
  rcases st with _ | ⟨x | x | x, _ | ⟨y, st⟩⟩
  any_goals exact True.intro
  have hpu : ∀ v, some (am_I x) = some v → am_ov v := (by intro v h; cases h; exact True.intro)
  intro H locs ls hW hS hl
  obtain ⟨hx, hb, hr, hml, hown, hlk, hen, hro, hK, hnc, hns, hf1, hl1⟩ := Cx
  exact W.iret hx hb (hr.trans hrt) (fun t ht _ => ⟨rfl, ⟨hpu, ok.2.2⟩, by rw [ht]; exact hW, hS.F ht⟩) hS.2.2 hd
theorem so_zret (hrt : I.2.2.1 = some .boolean) (hd : decode I.1 pc = .ok (.ireturn, 1)) : am_So T I pc op_zret := by
  intro ad ca D A nc ns p l e R s m args below meth c Cx lv st M ok
  unfold op_zret
  dsimp only
  rcases st with _ | ⟨x | x | x, _ | ⟨y, st⟩⟩
  any_goals exact True.intro
  dsimp only
  by_cases hz : am_bz x = true
  · simp only [if_pos hz]
    have hpu : ∀ v, some (am_I x) = some v → am_ov v := (by intro v h; cases h; exact True.intro)
    intro H locs ls hW hS hl
    obtain ⟨hx, hb, hr, hml, hown, hlk, hen, hro, hK, hnc, hns, hf1, hl1⟩ := Cx
    exact W.zret hx hb (hr.trans hrt) (am_bz_nar hz) (fun t ht _ => ⟨rfl, ⟨hpu, ok.2.2⟩, by rw [ht]; exact hW, hS.F ht⟩) hS.2.2 hd
  · simp only [if_neg hz]
theorem so_lret (hrt : I.2.2.1 = some .long) (hd : decode I.1 pc = .ok (.lreturn, 1)) : am_So T I pc op_lret := by
  intro ad ca D A nc ns p l e R s m args below meth c Cx lv st M ok
  unfold op_lret
  dsimp only
  rcases st with _ | ⟨x | x | x, _ | ⟨y, st⟩⟩
  any_goals exact True.intro
  have hpu : ∀ v, some (am_J x) = some v → am_ov v := (by intro v h; cases h; exact True.intro)
  intro H locs ls hW hS hl
  obtain ⟨hx, hb, hr, hml, hown, hlk, hen, hro, hK, hnc, hns, hf1, hl1⟩ := Cx
  exact W.lret hx hb (hr.trans hrt) (fun t ht _ => ⟨rfl, ⟨hpu, ok.2.2⟩, by rw [ht]; exact hW, hS.F ht⟩) hS.2.2 hd
theorem so_aret {cn : String} (hrt : I.2.2.1 = some (.object cn)) (hd : decode I.1 pc = .ok (.areturn, 1)) : am_So T I pc op_aret := by
  intro ad ca D A nc ns p l e R s m args below meth c Cx lv st M ok
  unfold op_aret
  dsimp only
  rcases st with _ | ⟨x | x | x, _ | ⟨y, st⟩⟩
  any_goals exact True.intro
  have hpu : ∀ v, some (.inr (.inr x)) = some v → am_ov v := (by intro v h; cases h; exact am_ok_h ok)
  intro H locs ls hW hS hl
  obtain ⟨hx, hb, hr, hml, hown, hlk, hen, hro, hK, hnc, hns, hf1, hl1⟩ := Cx
  exact W.aret hx hb (hr.trans hrt) (Or.inl ⟨cn, rfl⟩) (Or.inr ⟨_, rfl⟩) (fun t ht _ => ⟨rfl, ⟨hpu, ok.2.2⟩, by rw [ht]; exact hW, hS.F ht⟩) hS.2.2 hd
end SO4
end
section
/-! SOUNDNESS: calls; and of all -/
def am_ml (own : String) (index : Nat) (y : MethodName) : Prop := Cond.methodLink own index y ∈ lw_tbl ∨ ∃ host, Cond.methodLinkNest own index y host ∈ lw_tbl
/-- what the tables say of a method: its code, its class is initialised, how many parameters -/
def am_mo (y : MethodName) (by' : ByteArray) (ml : Nat) (rt : Option FieldType) (n : Nat) : Prop := Cond.code y by' ml rt ∈ lw_tbl ∧ Cond.initialized y.cls ∈ lw_tbl ∧ y.cls ≠ "java/lang/invoke/MethodHandle" ∧ y.cls ≠ "java/lang/invoke/VarHandle" ∧ (parseMethodDescriptor y.desc).map (fun d => d.parameters.length) = some n ∧ ml ≤ 21
section SO5
variable {p : Program} {l : Launch} {e : Env} {R : Room} {s : State} {m : MethodId} {args : Array Value} {below : List Frame} {meth : Method} {c : Code} {H : Heap} {locs : List Loc} {nc ns : Nat} {Q : State → Prop} {ls : Array Slot} {rest st0 : List Value}
variable {ad : Nat → Nat → Nat} {ca : Nat → ClassId} {D : va_G} {A : Nat → Prop} {I : am_In} {pc : Nat} {M : am_W}
theorem am_callW {r : am_Q} {a : Array Value} (hr : va_Run p l e R s m args below meth c H locs nc ns 0 0 (F0 m pc ls st0) rest (am_Qc ad ca D A r a) A) (hS : va_S A s.heap H locs)
    (kk : ((∀ v, r.1 = some v → am_ov v) ∧ ∀ i, xK r.2.1 i < 5) → ∀ (H1 : Heap) (locs1 : List Loc), am_Wd ad ca D A r.2 H1 → va_S A s.heap H1 locs1 → W p l e R s m args below meth c H1 locs1 nc ns Q (F0 m (pc + 3) ls ((r.1.map (am_cv ad)).toList ++ rest))) : W p l e R s m args below meth c H locs nc ns Q (F0 m pc ls st0) := by
  intro T hT X
  obtain ⟨v, st₀, t, T', L, h0, X', hL, e1, e2, ⟨hv, hpu, hw, hz, hk⟩, st⟩ := hr T hT X
  cases hv
  rw [h0] at hz hk
  obtain ⟨t2, a1, b1⟩ := kk hpu T'.heap (locs ++ L) (by rw [e1]; exact hw)
    ⟨Nat.le_trans hS.1 (by rw [e1]; exact hz), fun q h1 h2 => by rw [e1, hk q (Nat.lt_of_lt_of_le h1 hS.1) h2]; exact hS.2.1 q h1 h2, fun q hq => by
      rcases List.mem_append.mp hq with h | h
      · exact hS.2.2 q h
      · exact hL q h⟩ T' rfl X'
  exact ⟨t2, st t2 a1, b1⟩
theorem am_blind {as : List am_V} : FrameBlind (am_Pc ad ca D A as M) := by
  intro a U g mk h
  obtain ⟨h0, h1, h2, h3, h4⟩ := h
  exact ⟨h0, h1.same rfl, h2.moved (u := U) (U := U.calling g mk a) (Vm.Alike.refl U.vm), va_K.moved (u := U) (U := U.calling g mk a) (Vm.Alike.refl U.vm) h3, h4⟩
theorem am_pre (Cx : am_Cx I ad ca D A nc ns p R s m args meth c) {as : List am_V} (hW : am_Wd ad ca D A M H) (hS : va_S A s.heap H locs) (U : State) (hU : U.heap = H) (hw : s.WarmedH U.vm) : am_Pc ad ca D A as M (as.map (am_cv ad)).toArray U := by
  obtain ⟨hx, hb, hr, hml, hown, hlk, hen, hro, hK, hnc, hns, hf1, hl1⟩ := Cx
  exact ⟨rfl, hen.warm hw, (by rw [hU]; exact (hro.kept hS.2.1).moved hw.alike), va_K.moved hw.alike hK, by rw [hU]; exact hW⟩
end SO5
section SO6
variable {T : Nat → am_Me} {I : am_In} {pc : Nat} {t index : Nat}
theorem am_rev (ad : Nat → Nat → Nat) (n : Nat) (st : List am_V) : st.map (am_cv ad) = (((st.take n).reverse).map (am_cv ad)).reverse ++ (st.drop n).map (am_cv ad) := by
  rw [List.map_reverse, List.reverse_reverse, ← List.map_append, List.take_append_drop]
theorem am_push_map (ad : Nat → Nat → Nat) (v : Option am_V) (st : List am_V) : (am_push v st).map (am_cv ad) = (v.map (am_cv ad)).toList ++ st.map (am_cv ad) := by
  cases v <;> rfl
theorem am_cs_bits {j n ml nx : Nat} {a : am_S} {z : am_Z} (h : op_cs j n ml nx a = some z) : (a.2.1.take n).length = n ∧ am_cs (a.2.1.drop n) ≤ 8 ∧ am_cs (a.2.1.take n).reverse ≤ ml ∧ z = .inr (.inl (j, ((a.2.1.take n).reverse, (nx, (a.1, (a.2.1.drop n, a.2.2)))))) := by
  unfold op_cs at h
  cases hb : (Nat.beq (a.2.1.take n).length n && (Nat.ble (am_cs (a.2.1.drop n)) 8 && Nat.ble (am_cs (a.2.1.take n).reverse) ml)) with
  | false =>
    rw [hb] at h
    cases h
  | true =>
    rw [hb] at h
    rw [Bool.and_eq_true, Bool.and_eq_true] at hb
    exact ⟨Nat.eq_of_beq_eq_true hb.1, Nat.le_of_ble_eq_true hb.2.1, Nat.le_of_ble_eq_true hb.2.2, (Option.some.inj h).symm⟩
theorem am_desc {y : MethodName} {n : Nat} (h : (parseMethodDescriptor y.desc).map (fun d => d.parameters.length) = some n) : ∀ sig, parseMethodDescriptor y.desc = some sig → n = sig.parameters.length := by
  intro sig hs
  rw [hs] at h
  exact (Option.some.inj h).symm
theorem so_cs {j n ml : Nat} {y : MethodName} {by' : ByteArray} {rt : Option FieldType} (hT : T j = (y, (by', (ml, rt)))) (ho : am_mo y by' ml rt n) (hst : Cond.static y ∈ lw_tbl) (hk : am_ml I.2.2.2 index y) (hd : decode I.1 pc = .ok (.invokestatic index, 3)) : am_So T I pc (op_cs j n ml (pc + 3)) := by
  intro ad ca D A nc ns p l e R s m args below meth c Cx lv st M ok
  cases hop : op_cs j n ml (pc + 3) (lv, (st, M)) with
  | none => exact True.intro
  | some z =>
    obtain ⟨b1, b2, b3, rfl⟩ := am_cs_bits hop
    dsimp only at b1 b2 b3
    refine ⟨fun v hv => ok.2.1 v (List.mem_of_mem_take (List.mem_reverse.mp hv)), by rw [hT]; exact b3, ⟨ok.1, fun v hv => ok.2.1 v (List.mem_of_mem_drop hv), ok.2.2⟩, fun Q d r hM hf hl0 K H locs ls hW hS hl => ?_⟩
    have C0 := Cx
    obtain ⟨hx, hb, hr, hml, hown, hlk, hen, hro, hK, hnc, hns, hf1, hl1⟩ := Cx
    obtain ⟨o1, o2, o3, o4, o5, o6⟩ := ho
    have hM := hM ad ca D A
    rw [hT] at hM
    have hws : ∀ w ∈ [Cond.code y by' ml rt], ∀ (a' : Array Value) (U : State), s.WarmedH U.vm → w.before a' U = true := by
      intro w hw a' U hU
      rw [List.mem_singleton.mp hw]
      exact am_use (hen.warm hU) o1 rfl
    have hlen : (((st.take n).reverse).map (am_cv ad)).length = n := by rw [List.length_map, List.length_reverse]; exact b1
    have h8 := lv_room (m := m) (pc := pc) (ls := ls) (rest := st.map (am_cv ad)) (st := (st.drop n).map (am_cv ad)) (by rw [am_cs_cat]; exact b2)
    have hK2 : ((∀ v, r.1 = some v → am_ov v) ∧ ∀ i, xK r.2.1 i < 5) → ∀ (H1 : Heap) (locs1 : List Loc), am_Wd ad ca D A r.2 H1 → va_S A s.heap H1 locs1 → W p l e R s m args below meth c H1 locs1 nc ns Q (F0 m (pc + 3) ls ((r.1.map (am_cv ad)).toList ++ (st.drop n).map (am_cv ad))) := fun hpu H1 locs1 h1 h2 => by
      rw [← am_push_map]
      exact K hpu.1 hpu.2 H1 locs1 ls h1 h2 hl
    rcases hk with hk | ⟨host, hk⟩
    · exact am_callW (va_runS (Ts := []) ⟨hx, hb, hml, hown, fun _ h => absurd h List.not_mem_nil⟩ hM ⟨⟨rfl, rfl, hf, by show 8 + (ml + 11) + 40 * d ≤ R.locals; omega, hws, List.mem_singleton.mpr rfl, am_use hen o1 rfl, am_use hen o2 rfl, ⟨o3, o4⟩, am_desc o5, am_use hen hk rfl⟩, am_use hen hst rfl⟩ ⟨am_blind, fun U hU hw => am_pre C0 hW hS U hU hw⟩ rfl hlen hl.1 (am_rev ad n st) h8 hd ⟨hnc, hns⟩) hS hK2
    · exact am_callW (va_runSN (Ts := []) ⟨hx, hb, hml, hown, fun _ h => absurd h List.not_mem_nil⟩ hM ⟨⟨⟨rfl, rfl, hf, by show 8 + (ml + 11) + 40 * d ≤ R.locals; omega, hws, List.mem_singleton.mpr rfl⟩, am_use hen o1 rfl, am_use hen o2 rfl, ⟨o3, o4⟩, am_desc o5, am_use hen hk rfl⟩, am_use hen hst rfl, True.intro⟩ ⟨am_blind, fun U hU hw => am_pre C0 hW hS U hU hw⟩ rfl hlen hl.1 (am_rev ad n st) h8 hd ⟨hnc, hns⟩) hS hK2
/-- the receiver: an object of the layout, or a KIND -/
def am_rc (t : Nat) (C : String) : Prop := (∃ Tt ty0, am_cf t C Tt ty0) ∨ (t = 20 ∧ C = "ServedAhead$Kind")
theorem so_cv {j n ml : Nat} {y : MethodName} {by' : ByteArray} {rt : Option FieldType} (hrc : am_rc t y.cls) (hT : T j = (y, (by', (ml, rt)))) (ho : am_mo y by' ml rt n) (hst : Cond.instanceMethod y ∈ lw_tbl) (hsel : Cond.selects y.cls y y ∈ lw_tbl) (hk : am_ml I.2.2.2 index y) (hd : decode I.1 pc = .ok (.invokevirtual index, 3)) : am_So T I pc (op_cv t j (n + 1) ml (pc + 3)) := by
  intro ad ca D A nc ns p l e R s m args below meth c Cx lv st M ok
  unfold op_cv
  dsimp only
  cases hrv : (st.take (n + 1)).reverse with
  | nil => exact True.intro
  | cons v0 as =>
    rcases v0 with x | x | ⟨t', i⟩
    · exact True.intro
    · exact True.intro
    · dsimp only
      cases hbt : Nat.beq t' t with
      | false => exact True.intro
      | true =>
        have e1 : t' = t := Nat.eq_of_beq_eq_true hbt
        subst e1
        simp only [cond_true]
        cases hop : op_cs j (n + 1) ml (pc + 3) (lv, (st, M)) with
        | none => exact True.intro
        | some z =>
          obtain ⟨b1, b2, b3, rfl⟩ := am_cs_bits hop
          dsimp only at b1 b2 b3
          refine ⟨fun v hv => ok.2.1 v (List.mem_of_mem_take (List.mem_reverse.mp hv)), by rw [hT]; exact b3, ⟨ok.1, fun v hv => ok.2.1 v (List.mem_of_mem_drop hv), ok.2.2⟩, fun Q d r hM hf hl0 K H locs ls hW hS hl => ?_⟩
          have hov : am_vk t' i := ok.2.1 (.inr (.inr (t', i))) (List.mem_of_mem_take (List.mem_reverse.mp (by rw [hrv]; exact List.mem_cons_self)))
          have C0 := Cx
          obtain ⟨hx, hb, hr, hml, hown, hlk, hen, hro, hK, hnc, hns, hf1, hl1⟩ := Cx
          obtain ⟨o1, o2, o3, o4, o5, o6⟩ := ho
          have hM := hM ad ca D A
          rw [hT] at hM
          dsimp only at hM
          rw [hrv] at hM
          have hws : ∀ w ∈ [Cond.code y by' ml rt], ∀ (a' : Array Value) (U : State), s.WarmedH U.vm → w.before a' U = true := by
            intro w hw a' U hU
            rw [List.mem_singleton.mp hw]
            exact am_use (hen.warm hU) o1 rfl
          have hlen : (as.map (am_cv ad)).length = n := by
            have h1 : ((st.take (n + 1)).reverse).length = n + 1 := by rw [List.length_reverse]; exact b1
            rw [hrv, List.length_cons] at h1
            rw [List.length_map]
            omega
          have hstk : st.map (am_cv ad) = (as.map (am_cv ad)).reverse ++ Value.ref (ad t' i) :: (st.drop (n + 1)).map (am_cv ad) := by
            rw [am_rev ad (n + 1) st, hrv, List.map_cons, List.reverse_cons, List.append_assoc]
            rfl
          have h8 := lv_room (m := m) (pc := pc) (ls := ls) (rest := st.map (am_cv ad)) (st := (st.drop (n + 1)).map (am_cv ad)) (by rw [am_cs_cat]; exact b2)
          have hK2 : ((∀ v, r.1 = some v → am_ov v) ∧ ∀ i, xK r.2.1 i < 5) → ∀ (H1 : Heap) (locs1 : List Loc), am_Wd ad ca D A r.2 H1 → va_S A s.heap H1 locs1 → W p l e R s m args below meth c H1 locs1 nc ns Q (F0 m (pc + 3) ls ((r.1.map (am_cv ad)).toList ++ (st.drop (n + 1)).map (am_cv ad))) := fun hpu H1 locs1 h1 h2 => by
            rw [← am_push_map]
            exact K hpu.1 hpu.2 H1 locs1 ls h1 h2 hl
          have hrecv : ∃ cell : Cell, H[ad t' i]? = some cell ∧ cell.vm.isStatics = false ∧ s.vm.findClass y.cls = some cell.cls := by
            rcases hrc with ⟨Tt, ty0, c1, c2, c3, c4, c5, c6⟩ | ⟨rfl, hC⟩
            · obtain ⟨q0, hq⟩ := am_place (am_key_of c6 hov)
              have he := am_enc_at (ad := ad) (ca := ca) (M := M) hq
              rw [am_cell_obj c1] at he
              exact va_recv hK hW.1 c2 he
            · rw [hC]
              exact va_recvE hro.1 (am_k20 hov) hS
          rcases hk with hk | ⟨host, hk⟩
          · exact am_callW (va_runV (Ts := []) ⟨hx, hb, hml, hown, fun _ h => absurd h List.not_mem_nil⟩ hM ⟨⟨rfl, rfl, hf, by show 8 + (ml + 11) + 40 * d ≤ R.locals; omega, hws, List.mem_singleton.mpr rfl, am_use hen o1 rfl, am_use hen o2 rfl, ⟨o3, o4⟩, am_desc o5, am_use hen hk rfl⟩, am_use hen hst rfl, am_use hen hsel rfl⟩ ⟨am_blind, hrecv, fun U hU hw => am_pre C0 hW hS U hU hw⟩ rfl hlen hl.1 hstk h8 hd ⟨hnc, hns⟩) hS hK2
          · exact am_callW (va_runVN (Ts := []) ⟨hx, hb, hml, hown, fun _ h => absurd h List.not_mem_nil⟩ hM ⟨⟨⟨rfl, rfl, hf, by show 8 + (ml + 11) + 40 * d ≤ R.locals; omega, hws, List.mem_singleton.mpr rfl⟩, am_use hen o1 rfl, am_use hen o2 rfl, ⟨o3, o4⟩, am_desc o5, am_use hen hk rfl⟩, am_use hen hst rfl, am_use hen hsel rfl⟩ ⟨am_blind, hrecv, fun U hU hw => am_pre C0 hW hS U hU hw⟩ rfl hlen hl.1 hstk h8 hd ⟨hnc, hns⟩) hS hK2
end SO6
/-! OF ALL -/
theorem am_tab_so {T : Nat → am_Me} {I : am_In} {l : List (Nat × am_O)} (h : ∀ q ∈ l, am_So T I q.1 q.2) (pc : Nat) : am_So T I pc (am_tab l pc) := by
  induction l with
  | nil => exact so_none
  | cons q r ih =>
    unfold am_tab
    cases hb : Nat.beq q.1 pc with
    | false => exact ih (fun q' hq' => h q' (List.mem_cons_of_mem _ hq'))
    | true =>
      have e : q.1 = pc := Nat.eq_of_beq_eq_true hb
      subst e
      exact h q List.mem_cons_self
/-- the walk of a body, given its calls -/
theorem am_lp_snd {T : Nat → am_Me} {I : am_In} {P : Nat → am_O} (hP : ∀ pc, am_So T I pc (P pc)) {Cr : Nat → List am_V → am_W → am_Q → Prop} {d : Nat} {l : Launch} (hC : ∀ j as M r, Cr j as M r → (∀ v ∈ as, am_ov v) → (∀ i, xK M.1 i < 5) → am_cs as ≤ (T j).2.2.1 → am_Mt l d (T j) as M r)
    {ad : Nat → Nat → Nat} {ca : Nat → ClassId} {D : va_G} {A : Nat → Prop} {nc ns : Nat} {p : Program} {e : Env} {R : Room} {s : State} {m : MethodId} {args : Array Value} {below : List Frame} {meth : Method} {c : Code} (Cx : am_Cx I ad ca D A nc ns p R s m args meth c) (hf : d + 1 ≤ R.frames) (hl : 40 * d + 40 ≤ R.locals) {r : am_Q} {Q : State → Prop}
    (hR : ∀ pc a, P pc a = some (.inr (.inr r)) → am_ok a → am_G I ad ca D A nc ns p l e R s m args below meth c Q pc a) :
    ∀ (n pc : Nat) (a : am_S), am_lp P Cr n pc a r → am_ok a → am_G I ad ca D A nc ns p l e R s m args below meth c Q pc a := by
  intro n
  induction n with
  | zero =>
    intro pc a h
    exact h.elim
  | succ n ih =>
    intro pc a h ok
    rcases h with ⟨ks, h⟩ | h
    · have g1 := ih pc _ h ⟨fun q hq => ok.1 q (am_sel_mem hq), ok.2⟩
      refine fun H locs ls hW hS hls => g1 H locs ls hW hS ?_
      show lv_has ls I.2.1 ((am_sel ks a.1).map (am_cp ad))
      rw [am_sel_map]
      exact lv_sub hls ks rfl
    · have hso := hP pc ad ca D A nc ns p l e R s m args below meth c Cx a.1 a.2.1 a.2.2 ok
      cases hz : P pc a with
      | none =>
        rw [hz] at h
        exact h.elim
      | some z =>
        rw [hz] at h
        rw [show P pc (a.1, (a.2.1, a.2.2)) = some z from hz] at hso
        rcases z with b | b | b
        · exact hso.2 Q (ih b.1 b.2 h hso.1)
        · obtain ⟨q, hq, h⟩ := h
          obtain ⟨k1, k2, k3, k4⟩ := hso
          have m1 := hC _ _ _ _ hq k1 k3.2.2 k2
          refine k4 Q d q m1 hf hl (fun m2 m3 => ih _ _ h ⟨k3.1, (by
            intro v hv
            obtain ⟨qv, qm⟩ := q
            rcases qv with _ | qv
            · exact k3.2.1 v hv
            · rcases List.mem_cons.mp hv with hv | hv
              · rw [hv]; exact m2 qv rfl
              · exact k3.2.1 v hv), m3⟩)
        · have e : r = b := h
          subst e
          exact hR pc a hz ok
/-- a method's number: its name, code, locals, answer; its class -/
def am_inf (T : Nat → am_Me) (j : Nat) : am_In := ((T j).2.1, ((T j).2.2.1, ((T j).2.2.2, (T j).1.cls)))
theorem am_snd {T : Nat → am_Me} {PR : Nat → Nat → am_O} (l : Launch) (hpl : ∀ j, plainName (T j).1.cls = true) (hP : ∀ j pc, am_So T (am_inf T j) pc (PR j pc)) :
    ∀ (d j : Nat) (as : List am_V) (M : am_W) (r : am_Q), am_Ev PR d j as M r → (∀ v ∈ as, am_ov v) → (∀ i, xK M.1 i < 5) → am_cs as ≤ (T j).2.2.1 → am_Mt l d (T j) as M r := by
  intro d
  induction d with
  | zero =>
    intro j as M r h
    exact h.elim
  | succ d ih =>
    intro j as M r h hov hxk hcs
    obtain ⟨n, h⟩ := h
    have hok : am_ok (am_args 0 as, ([], M)) := by
      refine ⟨?_, (fun v hv => absurd hv List.not_mem_nil), hxk⟩
      have : ∀ (i : Nat) (as : List am_V), (∀ v ∈ as, am_ov v) → ∀ q ∈ am_args i as, am_ov q.2 := by
        intro i as
        induction as generalizing i with
        | nil => intro _ q hq; exact absurd hq List.not_mem_nil
        | cons v vs ihv =>
          intro h1 q hq
          rcases List.mem_cons.mp hq with e | hq
          · rw [e]; exact h1 v List.mem_cons_self
          · exact ihv _ (fun w hw => h1 w (List.mem_cons_of_mem _ hw)) q hq
      exact this 0 as hov
    have key : ∀ (ad : Nat → Nat → Nat) (ca : Nat → ClassId) (D : va_G) (A : Nat → Prop), Met l (T j).1 [.code (T j).1 (T j).2.1 (T j).2.2.1 (T j).2.2.2] (am_rm (d + 1)) (am_Pc ad ca D A as M) (am_Qc ad ca D A r) 0 0 A := by
      intro ad ca D A
      refine Met.ofW (cc := (T j).2.1) (maxL := (T j).2.2.1) (ret := (T j).2.2.2) (hpl j) rfl ?_
      intro p e s m args below meth c s₁ B hml hv
      obtain ⟨rfl, hen, hro, hK, hWd⟩ := hv
      have Cx : am_Cx (am_inf T j) ad ca D A 0 0 p (headSpec [.code (T j).1 (T j).2.1 (T j).2.2.1 (T j).2.2.2] (am_rm (d + 1))).room s m (as.map (am_cv ad)).toArray meth c :=
        ⟨B.exec, B.bytes, B.returns, hml, findClass_of_methodNamed B.named, B.notSynchronized, hen, hro, hK, Nat.zero_le _, Nat.zero_le _, Nat.le_add_left 1 d, (by show 40 ≤ 40 * (d + 1); omega)⟩
      have hl := lv_entry (as.map (am_cv ad)) (n := (T j).2.2.1) (by rw [am_cs_sl]; exact hcs)
      rw [lg_entry_eq]
      have hG := (am_lp_snd (T := T) (I := am_inf T j) (P := PR j) (hP j) (Cr := am_Ev PR d) (d := d) (l := l) ih (e := e) (below := below) Cx (Nat.le_refl (d + 1)) (by show 40 * d + 40 ≤ 40 * (d + 1); omega) (r := r) (Q := MQ below (am_Qc ad ca D A r) (as.map (am_cv ad)).toArray s 0 0 A) (fun pc a hz ok => by
        have hso := hP j pc ad ca D A 0 0 p l e _ s m _ below meth c Cx a.1 a.2.1 a.2.2 ok
        rw [show PR j pc (a.1, (a.2.1, a.2.2)) = _ from hz] at hso
        exact hso) n 0 _ h hok)
      exact hG s.heap [] _ hWd va_S.rf (by rw [am_args_map]; exact hl)
    exact key
end
section
theorem am_w1 {w : Cond} (i : Nat) (h : tables_1_1[i]? = some w) : w ∈ lw_tbl := by
  have h := List.mem_of_getElem? h
  exact List.mem_append_right _ (by unfold tables_1; simp only [List.mem_append]; exact Or.inl h)
theorem am_w2 {w : Cond} (i : Nat) (h : tables_1_2[i]? = some w) : w ∈ lw_tbl := by
  have h := List.mem_of_getElem? h
  exact List.mem_append_right _ (by unfold tables_1; simp only [List.mem_append]; exact Or.inr (Or.inl h))
theorem am_w3 {w : Cond} (i : Nat) (h : tables_1_3[i]? = some w) : w ∈ lw_tbl := by
  have h := List.mem_of_getElem? h
  exact List.mem_append_right _ (by unfold tables_1; simp only [List.mem_append]; exact Or.inr (Or.inr (Or.inl h)))
theorem am_w4 {w : Cond} (i : Nat) (h : tables_1_4[i]? = some w) : w ∈ lw_tbl := by
  have h := List.mem_of_getElem? h
  exact List.mem_append_right _ (by unfold tables_1; simp only [List.mem_append]; exact Or.inr (Or.inr (Or.inr (Or.inl h))))
theorem am_w5 {w : Cond} (i : Nat) (h : tables_1_5[i]? = some w) : w ∈ lw_tbl := by
  have h := List.mem_of_getElem? h
  exact List.mem_append_right _ (by unfold tables_1; simp only [List.mem_append]; exact Or.inr (Or.inr (Or.inr (Or.inr (Or.inl h)))))
theorem am_w6 {w : Cond} (i : Nat) (h : tables_1_6[i]? = some w) : w ∈ lw_tbl := by
  have h := List.mem_of_getElem? h
  exact List.mem_append_right _ (by unfold tables_1; simp only [List.mem_append]; exact Or.inr (Or.inr (Or.inr (Or.inr (Or.inr h)))))
theorem am_wp {q : MethodName × Nat} (i : Nat) (h : lw_privs[i]? = some q) : Cond.selects q.1.cls q.1 q.1 ∈ lw_tbl := List.mem_append_left _ (List.mem_map.mpr ⟨q, List.mem_of_getElem? h, rfl⟩)
theorem am_ref_cl : ∀ q ∈ am_keys, ∀ k, k < am_nf q.1 → am_fk q.1 k = 2 → am_ref q.1 k q.2 ∈ am_keys := by decide +kernel
theorem am_el_cl : ∀ q ∈ am_keys, am_ak q.1 = 3 → ∀ k, k < am_len q.1 → (4, am_el q.1 q.2 k) ∈ am_keys := by decide +kernel
theorem gf_0_0 : 0 < am_nf 0 := by decide +kernel
theorem gz_0_0 : am_fk 0 0 = 2 := rfl
theorem rl_0_0 : ∀ i, (0, i) ∈ am_keys → am_ref 0 0 i ∈ am_keys := fun i h => am_ref_cl _ h 0 gf_0_0 gz_0_0
theorem gf_0_1 : 1 < am_nf 0 := by decide +kernel
theorem gz_0_1 : am_fk 0 1 = 2 := rfl
theorem rl_0_1 : ∀ i, (0, i) ∈ am_keys → am_ref 0 1 i ∈ am_keys := fun i h => am_ref_cl _ h 1 gf_0_1 gz_0_1
theorem gf_0_2 : 2 < am_nf 0 := by decide +kernel
theorem gz_0_2 : am_fk 0 2 = 2 := rfl
theorem rl_0_2 : ∀ i, (0, i) ∈ am_keys → am_ref 0 2 i ∈ am_keys := fun i h => am_ref_cl _ h 2 gf_0_2 gz_0_2
theorem gf_0_3 : 3 < am_nf 0 := by decide +kernel
theorem gz_0_3 : am_fk 0 3 = 2 := rfl
theorem rl_0_3 : ∀ i, (0, i) ∈ am_keys → am_ref 0 3 i ∈ am_keys := fun i h => am_ref_cl _ h 3 gf_0_3 gz_0_3
theorem gf_0_4 : 4 < am_nf 0 := by decide +kernel
theorem gz_0_4 : am_fk 0 4 = 2 := rfl
theorem rl_0_4 : ∀ i, (0, i) ∈ am_keys → am_ref 0 4 i ∈ am_keys := fun i h => am_ref_cl _ h 4 gf_0_4 gz_0_4
theorem gf_0_5 : 5 < am_nf 0 := by decide +kernel
theorem gz_0_5 : am_fk 0 5 = 2 := rfl
theorem rl_0_5 : ∀ i, (0, i) ∈ am_keys → am_ref 0 5 i ∈ am_keys := fun i h => am_ref_cl _ h 5 gf_0_5 gz_0_5
theorem gf_0_6 : 6 < am_nf 0 := by decide +kernel
theorem gz_0_6 : am_fk 0 6 = 2 := rfl
theorem rl_0_6 : ∀ i, (0, i) ∈ am_keys → am_ref 0 6 i ∈ am_keys := fun i h => am_ref_cl _ h 6 gf_0_6 gz_0_6
theorem gf_0_7 : 7 < am_nf 0 := by decide +kernel
theorem gz_0_7 : am_fk 0 7 = 2 := rfl
theorem rl_0_7 : ∀ i, (0, i) ∈ am_keys → am_ref 0 7 i ∈ am_keys := fun i h => am_ref_cl _ h 7 gf_0_7 gz_0_7
theorem gf_0_8 : 8 < am_nf 0 := by decide +kernel
theorem gz_0_8 : am_fk 0 8 = 0 ∨ am_fk 0 8 = 1 := Or.inr rfl
theorem gf_0_9 : 9 < am_nf 0 := by decide +kernel
theorem gz_0_9 : am_fk 0 9 = 0 ∨ am_fk 0 9 = 1 := Or.inl rfl
theorem gf_0_10 : 10 < am_nf 0 := by decide +kernel
theorem gz_0_10 : am_fk 0 10 = 0 ∨ am_fk 0 10 = 1 := Or.inl rfl
theorem gf_0_11 : 11 < am_nf 0 := by decide +kernel
theorem gz_0_11 : am_fk 0 11 = 0 ∨ am_fk 0 11 = 1 := Or.inl rfl
theorem gf_1_0 : 0 < am_nf 1 := by decide +kernel
theorem gz_1_0 : am_fk 1 0 = 2 := rfl
theorem rl_1_0 : ∀ i, (1, i) ∈ am_keys → am_ref 1 0 i ∈ am_keys := fun i h => am_ref_cl _ h 0 gf_1_0 gz_1_0
theorem gf_1_1 : 1 < am_nf 1 := by decide +kernel
theorem gz_1_1 : am_fk 1 1 = 2 := rfl
theorem rl_1_1 : ∀ i, (1, i) ∈ am_keys → am_ref 1 1 i ∈ am_keys := fun i h => am_ref_cl _ h 1 gf_1_1 gz_1_1
theorem gf_1_2 : 2 < am_nf 1 := by decide +kernel
theorem gz_1_2 : am_fk 1 2 = 0 ∨ am_fk 1 2 = 1 := Or.inl rfl
theorem gf_1_3 : 3 < am_nf 1 := by decide +kernel
theorem gz_1_3 : am_fk 1 3 = 0 ∨ am_fk 1 3 = 1 := Or.inl rfl
theorem gf_1_4 : 4 < am_nf 1 := by decide +kernel
theorem gz_1_4 : am_fk 1 4 = 0 ∨ am_fk 1 4 = 1 := Or.inl rfl
theorem gf_2_0 : 0 < am_nf 2 := by decide +kernel
theorem gz_2_0 : am_fk 2 0 = 2 := rfl
theorem rl_2_0 : ∀ i, (2, i) ∈ am_keys → am_ref 2 0 i ∈ am_keys := fun i h => am_ref_cl _ h 0 gf_2_0 gz_2_0
theorem gf_2_1 : 1 < am_nf 2 := by decide +kernel
theorem gz_2_1 : am_fk 2 1 = 2 := rfl
theorem rl_2_1 : ∀ i, (2, i) ∈ am_keys → am_ref 2 1 i ∈ am_keys := fun i h => am_ref_cl _ h 1 gf_2_1 gz_2_1
theorem gf_2_2 : 2 < am_nf 2 := by decide +kernel
theorem gz_2_2 : am_fk 2 2 = 2 := rfl
theorem rl_2_2 : ∀ i, (2, i) ∈ am_keys → am_ref 2 2 i ∈ am_keys := fun i h => am_ref_cl _ h 2 gf_2_2 gz_2_2
theorem gf_2_3 : 3 < am_nf 2 := by decide +kernel
theorem gz_2_3 : am_fk 2 3 = 0 ∨ am_fk 2 3 = 1 := Or.inl rfl
theorem gf_3_0 : 0 < am_nf 3 := by decide +kernel
theorem gz_3_0 : am_fk 3 0 = 2 := rfl
theorem rl_3_0 : ∀ i, (3, i) ∈ am_keys → am_ref 3 0 i ∈ am_keys := fun i h => am_ref_cl _ h 0 gf_3_0 gz_3_0
theorem gf_3_1 : 1 < am_nf 3 := by decide +kernel
theorem gz_3_1 : am_fk 3 1 = 0 ∨ am_fk 3 1 = 1 := Or.inl rfl
theorem gf_3_2 : 2 < am_nf 3 := by decide +kernel
theorem gz_3_2 : am_fk 3 2 = 0 ∨ am_fk 3 2 = 1 := Or.inl rfl
theorem gf_3_3 : 3 < am_nf 3 := by decide +kernel
theorem gz_3_3 : am_fk 3 3 = 0 ∨ am_fk 3 3 = 1 := Or.inl rfl
theorem gf_3_4 : 4 < am_nf 3 := by decide +kernel
theorem gz_3_4 : am_fk 3 4 = 0 ∨ am_fk 3 4 = 1 := Or.inl rfl
theorem gf_4_0 : 0 < am_nf 4 := by decide +kernel
theorem gz_4_0 : am_fk 4 0 = 2 := rfl
theorem rl_4_0 : ∀ i, (4, i) ∈ am_keys → am_ref 4 0 i ∈ am_keys := fun i h => am_ref_cl _ h 0 gf_4_0 gz_4_0
theorem gf_4_1 : 1 < am_nf 4 := by decide +kernel
theorem gz_4_1 : am_fk 4 1 = 3 := rfl
theorem gf_4_2 : 2 < am_nf 4 := by decide +kernel
theorem gz_4_2 : am_fk 4 2 = 0 ∨ am_fk 4 2 = 1 := Or.inl rfl
theorem gf_4_3 : 3 < am_nf 4 := by decide +kernel
theorem gz_4_3 : am_fk 4 3 = 0 ∨ am_fk 4 3 = 1 := Or.inl rfl
theorem gf_4_4 : 4 < am_nf 4 := by decide +kernel
theorem gz_4_4 : am_fk 4 4 = 0 ∨ am_fk 4 4 = 1 := Or.inr rfl
theorem gf_4_5 : 5 < am_nf 4 := by decide +kernel
theorem gz_4_5 : am_fk 4 5 = 0 ∨ am_fk 4 5 = 1 := Or.inr rfl
theorem gf_5_0 : 0 < am_nf 5 := by decide +kernel
theorem gz_5_0 : am_fk 5 0 = 2 := rfl
theorem rl_5_0 : ∀ i, (5, i) ∈ am_keys → am_ref 5 0 i ∈ am_keys := fun i h => am_ref_cl _ h 0 gf_5_0 gz_5_0
theorem gf_5_1 : 1 < am_nf 5 := by decide +kernel
theorem gz_5_1 : am_fk 5 1 = 0 ∨ am_fk 5 1 = 1 := Or.inl rfl
theorem gf_6_0 : 0 < am_nf 6 := by decide +kernel
theorem gz_6_0 : am_fk 6 0 = 2 := rfl
theorem rl_6_0 : ∀ i, (6, i) ∈ am_keys → am_ref 6 0 i ∈ am_keys := fun i h => am_ref_cl _ h 0 gf_6_0 gz_6_0
theorem gf_6_1 : 1 < am_nf 6 := by decide +kernel
theorem gz_6_1 : am_fk 6 1 = 0 ∨ am_fk 6 1 = 1 := Or.inl rfl
theorem gf_6_2 : 2 < am_nf 6 := by decide +kernel
theorem gz_6_2 : am_fk 6 2 = 0 ∨ am_fk 6 2 = 1 := Or.inl rfl
theorem gf_6_3 : 3 < am_nf 6 := by decide +kernel
theorem gz_6_3 : am_fk 6 3 = 0 ∨ am_fk 6 3 = 1 := Or.inl rfl
theorem gf_6_4 : 4 < am_nf 6 := by decide +kernel
theorem gz_6_4 : am_fk 6 4 = 0 ∨ am_fk 6 4 = 1 := Or.inl rfl
theorem gf_6_5 : 5 < am_nf 6 := by decide +kernel
theorem gz_6_5 : am_fk 6 5 = 0 ∨ am_fk 6 5 = 1 := Or.inl rfl
theorem gf_7_0 : 0 < am_nf 7 := by decide +kernel
theorem gz_7_0 : am_fk 7 0 = 2 := rfl
theorem rl_7_0 : ∀ i, (7, i) ∈ am_keys → am_ref 7 0 i ∈ am_keys := fun i h => am_ref_cl _ h 0 gf_7_0 gz_7_0
theorem gf_7_1 : 1 < am_nf 7 := by decide +kernel
theorem gz_7_1 : am_fk 7 1 = 2 := rfl
theorem rl_7_1 : ∀ i, (7, i) ∈ am_keys → am_ref 7 1 i ∈ am_keys := fun i h => am_ref_cl _ h 1 gf_7_1 gz_7_1
theorem gf_7_2 : 2 < am_nf 7 := by decide +kernel
theorem gz_7_2 : am_fk 7 2 = 0 ∨ am_fk 7 2 = 1 := Or.inr rfl
theorem gf_7_3 : 3 < am_nf 7 := by decide +kernel
theorem gz_7_3 : am_fk 7 3 = 0 ∨ am_fk 7 3 = 1 := Or.inl rfl
theorem gf_7_4 : 4 < am_nf 7 := by decide +kernel
theorem gz_7_4 : am_fk 7 4 = 0 ∨ am_fk 7 4 = 1 := Or.inl rfl
theorem gf_7_5 : 5 < am_nf 7 := by decide +kernel
theorem gz_7_5 : am_fk 7 5 = 0 ∨ am_fk 7 5 = 1 := Or.inl rfl
theorem gf_7_6 : 6 < am_nf 7 := by decide +kernel
theorem gz_7_6 : am_fk 7 6 = 0 ∨ am_fk 7 6 = 1 := Or.inl rfl
theorem gf_32_0 : 0 < am_nf 32 := by decide +kernel
theorem gz_32_0 : am_fk 32 0 = 0 ∨ am_fk 32 0 = 1 := Or.inr rfl
theorem gf_32_1 : 1 < am_nf 32 := by decide +kernel
theorem gz_32_1 : am_fk 32 1 = 0 ∨ am_fk 32 1 = 1 := Or.inl rfl
theorem gf_32_2 : 2 < am_nf 32 := by decide +kernel
theorem gz_32_2 : am_fk 32 2 = 0 ∨ am_fk 32 2 = 1 := Or.inl rfl
theorem gf_32_3 : 3 < am_nf 32 := by decide +kernel
theorem gz_32_3 : am_fk 32 3 = 2 := rfl
theorem rl_32_3 : ∀ i, (32, i) ∈ am_keys → am_ref 32 3 i ∈ am_keys := fun i h => am_ref_cl _ h 3 gf_32_3 gz_32_3
theorem gf_32_4 : 4 < am_nf 32 := by decide +kernel
theorem gz_32_4 : am_fk 32 4 = 2 := rfl
theorem rl_32_4 : ∀ i, (32, i) ∈ am_keys → am_ref 32 4 i ∈ am_keys := fun i h => am_ref_cl _ h 4 gf_32_4 gz_32_4
theorem gf_32_5 : 5 < am_nf 32 := by decide +kernel
theorem gz_32_5 : am_fk 32 5 = 2 := rfl
theorem rl_32_5 : ∀ i, (32, i) ∈ am_keys → am_ref 32 5 i ∈ am_keys := fun i h => am_ref_cl _ h 5 gf_32_5 gz_32_5
theorem gf_32_6 : 6 < am_nf 32 := by decide +kernel
theorem gz_32_6 : am_fk 32 6 = 0 ∨ am_fk 32 6 = 1 := Or.inl rfl
theorem gf_32_7 : 7 < am_nf 32 := by decide +kernel
theorem gz_32_7 : am_fk 32 7 = 0 ∨ am_fk 32 7 = 1 := Or.inl rfl
theorem gf_32_8 : 8 < am_nf 32 := by decide +kernel
theorem gz_32_8 : am_fk 32 8 = 2 := rfl
theorem rl_32_8 : ∀ i, (32, i) ∈ am_keys → am_ref 32 8 i ∈ am_keys := fun i h => am_ref_cl _ h 8 gf_32_8 gz_32_8
theorem gf_32_9 : 9 < am_nf 32 := by decide +kernel
theorem gz_32_9 : am_fk 32 9 = 2 := rfl
theorem rl_32_9 : ∀ i, (32, i) ∈ am_keys → am_ref 32 9 i ∈ am_keys := fun i h => am_ref_cl _ h 9 gf_32_9 gz_32_9
theorem gf_32_10 : 10 < am_nf 32 := by decide +kernel
theorem gz_32_10 : am_fk 32 10 = 2 := rfl
theorem rl_32_10 : ∀ i, (32, i) ∈ am_keys → am_ref 32 10 i ∈ am_keys := fun i h => am_ref_cl _ h 10 gf_32_10 gz_32_10
theorem gf_32_11 : 11 < am_nf 32 := by decide +kernel
theorem gz_32_11 : am_fk 32 11 = 2 := rfl
theorem rl_32_11 : ∀ i, (32, i) ∈ am_keys → am_ref 32 11 i ∈ am_keys := fun i h => am_ref_cl _ h 11 gf_32_11 gz_32_11
theorem gf_32_12 : 12 < am_nf 32 := by decide +kernel
theorem gz_32_12 : am_fk 32 12 = 2 := rfl
theorem rl_32_12 : ∀ i, (32, i) ∈ am_keys → am_ref 32 12 i ∈ am_keys := fun i h => am_ref_cl _ h 12 gf_32_12 gz_32_12
theorem gf_32_13 : 13 < am_nf 32 := by decide +kernel
theorem gz_32_13 : am_fk 32 13 = 2 := rfl
theorem rl_32_13 : ∀ i, (32, i) ∈ am_keys → am_ref 32 13 i ∈ am_keys := fun i h => am_ref_cl _ h 13 gf_32_13 gz_32_13
theorem gf_32_14 : 14 < am_nf 32 := by decide +kernel
theorem gz_32_14 : am_fk 32 14 = 2 := rfl
theorem rl_32_14 : ∀ i, (32, i) ∈ am_keys → am_ref 32 14 i ∈ am_keys := fun i h => am_ref_cl _ h 14 gf_32_14 gz_32_14
theorem gf_32_15 : 15 < am_nf 32 := by decide +kernel
theorem gz_32_15 : am_fk 32 15 = 0 ∨ am_fk 32 15 = 1 := Or.inl rfl
theorem gf_32_16 : 16 < am_nf 32 := by decide +kernel
theorem gz_32_16 : am_fk 32 16 = 0 ∨ am_fk 32 16 = 1 := Or.inl rfl
theorem gf_32_17 : 17 < am_nf 32 := by decide +kernel
theorem gz_32_17 : am_fk 32 17 = 2 := rfl
theorem rl_32_17 : ∀ i, (32, i) ∈ am_keys → am_ref 32 17 i ∈ am_keys := fun i h => am_ref_cl _ h 17 gf_32_17 gz_32_17
theorem gf_32_18 : 18 < am_nf 32 := by decide +kernel
theorem gz_32_18 : am_fk 32 18 = 0 ∨ am_fk 32 18 = 1 := Or.inl rfl
theorem gf_32_19 : 19 < am_nf 32 := by decide +kernel
theorem gz_32_19 : am_fk 32 19 = 0 ∨ am_fk 32 19 = 1 := Or.inr rfl
theorem gf_32_20 : 20 < am_nf 32 := by decide +kernel
theorem gz_32_20 : am_fk 32 20 = 0 ∨ am_fk 32 20 = 1 := Or.inl rfl
theorem gf_32_21 : 21 < am_nf 32 := by decide +kernel
theorem gz_32_21 : am_fk 32 21 = 0 ∨ am_fk 32 21 = 1 := Or.inl rfl
theorem gf_32_22 : 22 < am_nf 32 := by decide +kernel
theorem gz_32_22 : am_fk 32 22 = 2 := rfl
theorem rl_32_22 : ∀ i, (32, i) ∈ am_keys → am_ref 32 22 i ∈ am_keys := fun i h => am_ref_cl _ h 22 gf_32_22 gz_32_22
theorem gf_32_23 : 23 < am_nf 32 := by decide +kernel
theorem gz_32_23 : am_fk 32 23 = 2 := rfl
theorem rl_32_23 : ∀ i, (32, i) ∈ am_keys → am_ref 32 23 i ∈ am_keys := fun i h => am_ref_cl _ h 23 gf_32_23 gz_32_23
theorem gf_32_24 : 24 < am_nf 32 := by decide +kernel
theorem gz_32_24 : am_fk 32 24 = 2 := rfl
theorem rl_32_24 : ∀ i, (32, i) ∈ am_keys → am_ref 32 24 i ∈ am_keys := fun i h => am_ref_cl _ h 24 gf_32_24 gz_32_24
theorem gf_32_25 : 25 < am_nf 32 := by decide +kernel
theorem gz_32_25 : am_fk 32 25 = 2 := rfl
theorem rl_32_25 : ∀ i, (32, i) ∈ am_keys → am_ref 32 25 i ∈ am_keys := fun i h => am_ref_cl _ h 25 gf_32_25 gz_32_25
theorem gf_32_26 : 26 < am_nf 32 := by decide +kernel
theorem gz_32_26 : am_fk 32 26 = 2 := rfl
theorem rl_32_26 : ∀ i, (32, i) ∈ am_keys → am_ref 32 26 i ∈ am_keys := fun i h => am_ref_cl _ h 26 gf_32_26 gz_32_26
theorem gf_32_27 : 27 < am_nf 32 := by decide +kernel
theorem gz_32_27 : am_fk 32 27 = 2 := rfl
theorem rl_32_27 : ∀ i, (32, i) ∈ am_keys → am_ref 32 27 i ∈ am_keys := fun i h => am_ref_cl _ h 27 gf_32_27 gz_32_27
theorem gf_32_28 : 28 < am_nf 32 := by decide +kernel
theorem gz_32_28 : am_fk 32 28 = 2 := rfl
theorem rl_32_28 : ∀ i, (32, i) ∈ am_keys → am_ref 32 28 i ∈ am_keys := fun i h => am_ref_cl _ h 28 gf_32_28 gz_32_28
theorem gf_32_29 : 29 < am_nf 32 := by decide +kernel
theorem gz_32_29 : am_fk 32 29 = 2 := rfl
theorem rl_32_29 : ∀ i, (32, i) ∈ am_keys → am_ref 32 29 i ∈ am_keys := fun i h => am_ref_cl _ h 29 gf_32_29 gz_32_29
theorem gf_32_30 : 30 < am_nf 32 := by decide +kernel
theorem gz_32_30 : am_fk 32 30 = 0 ∨ am_fk 32 30 = 1 := Or.inl rfl
theorem gf_32_31 : 31 < am_nf 32 := by decide +kernel
theorem gz_32_31 : am_fk 32 31 = 0 ∨ am_fk 32 31 = 1 := Or.inl rfl
theorem gf_32_32 : 32 < am_nf 32 := by decide +kernel
theorem gz_32_32 : am_fk 32 32 = 0 ∨ am_fk 32 32 = 1 := Or.inl rfl
theorem gf_32_33 : 33 < am_nf 32 := by decide +kernel
theorem gz_32_33 : am_fk 32 33 = 0 ∨ am_fk 32 33 = 1 := Or.inl rfl
theorem gf_32_34 : 34 < am_nf 32 := by decide +kernel
theorem gz_32_34 : am_fk 32 34 = 2 := rfl
theorem rl_32_34 : ∀ i, (32, i) ∈ am_keys → am_ref 32 34 i ∈ am_keys := fun i h => am_ref_cl _ h 34 gf_32_34 gz_32_34
theorem gf_32_35 : 35 < am_nf 32 := by decide +kernel
theorem gz_32_35 : am_fk 32 35 = 0 ∨ am_fk 32 35 = 1 := Or.inl rfl
theorem gf_32_36 : 36 < am_nf 32 := by decide +kernel
theorem gz_32_36 : am_fk 32 36 = 0 ∨ am_fk 32 36 = 1 := Or.inl rfl
theorem gf_32_37 : 37 < am_nf 32 := by decide +kernel
theorem gz_32_37 : am_fk 32 37 = 0 ∨ am_fk 32 37 = 1 := Or.inl rfl
theorem gf_32_38 : 38 < am_nf 32 := by decide +kernel
theorem gz_32_38 : am_fk 32 38 = 0 ∨ am_fk 32 38 = 1 := Or.inl rfl
theorem gf_32_39 : 39 < am_nf 32 := by decide +kernel
theorem gz_32_39 : am_fk 32 39 = 0 ∨ am_fk 32 39 = 1 := Or.inl rfl
theorem gf_32_40 : 40 < am_nf 32 := by decide +kernel
theorem gz_32_40 : am_fk 32 40 = 0 ∨ am_fk 32 40 = 1 := Or.inl rfl
theorem gf_32_41 : 41 < am_nf 32 := by decide +kernel
theorem gz_32_41 : am_fk 32 41 = 2 := rfl
theorem rl_32_41 : ∀ i, (32, i) ∈ am_keys → am_ref 32 41 i ∈ am_keys := fun i h => am_ref_cl _ h 41 gf_32_41 gz_32_41
theorem gf_32_42 : 42 < am_nf 32 := by decide +kernel
theorem gz_32_42 : am_fk 32 42 = 0 ∨ am_fk 32 42 = 1 := Or.inl rfl
theorem gf_32_43 : 43 < am_nf 32 := by decide +kernel
theorem gz_32_43 : am_fk 32 43 = 0 ∨ am_fk 32 43 = 1 := Or.inl rfl
theorem gf_32_44 : 44 < am_nf 32 := by decide +kernel
theorem gz_32_44 : am_fk 32 44 = 4 := rfl
theorem gf_32_45 : 45 < am_nf 32 := by decide +kernel
theorem gz_32_45 : am_fk 32 45 = 0 ∨ am_fk 32 45 = 1 := Or.inl rfl
theorem gf_32_46 : 46 < am_nf 32 := by decide +kernel
theorem gz_32_46 : am_fk 32 46 = 2 := rfl
theorem rl_32_46 : ∀ i, (32, i) ∈ am_keys → am_ref 32 46 i ∈ am_keys := fun i h => am_ref_cl _ h 46 gf_32_46 gz_32_46
theorem gf_32_47 : 47 < am_nf 32 := by decide +kernel
theorem gz_32_47 : am_fk 32 47 = 2 := rfl
theorem rl_32_47 : ∀ i, (32, i) ∈ am_keys → am_ref 32 47 i ∈ am_keys := fun i h => am_ref_cl _ h 47 gf_32_47 gz_32_47
theorem gf_32_48 : 48 < am_nf 32 := by decide +kernel
theorem gz_32_48 : am_fk 32 48 = 2 := rfl
theorem rl_32_48 : ∀ i, (32, i) ∈ am_keys → am_ref 32 48 i ∈ am_keys := fun i h => am_ref_cl _ h 48 gf_32_48 gz_32_48
theorem gf_32_49 : 49 < am_nf 32 := by decide +kernel
theorem gz_32_49 : am_fk 32 49 = 2 := rfl
theorem rl_32_49 : ∀ i, (32, i) ∈ am_keys → am_ref 32 49 i ∈ am_keys := fun i h => am_ref_cl _ h 49 gf_32_49 gz_32_49
theorem gf_32_50 : 50 < am_nf 32 := by decide +kernel
theorem gz_32_50 : am_fk 32 50 = 2 := rfl
theorem rl_32_50 : ∀ i, (32, i) ∈ am_keys → am_ref 32 50 i ∈ am_keys := fun i h => am_ref_cl _ h 50 gf_32_50 gz_32_50
theorem gf_32_51 : 51 < am_nf 32 := by decide +kernel
theorem gz_32_51 : am_fk 32 51 = 0 ∨ am_fk 32 51 = 1 := Or.inr rfl
theorem gf_32_52 : 52 < am_nf 32 := by decide +kernel
theorem gz_32_52 : am_fk 32 52 = 0 ∨ am_fk 32 52 = 1 := Or.inl rfl
theorem gf_32_53 : 53 < am_nf 32 := by decide +kernel
theorem gz_32_53 : am_fk 32 53 = 0 ∨ am_fk 32 53 = 1 := Or.inl rfl
theorem gf_32_54 : 54 < am_nf 32 := by decide +kernel
theorem gz_32_54 : am_fk 32 54 = 2 := rfl
theorem rl_32_54 : ∀ i, (32, i) ∈ am_keys → am_ref 32 54 i ∈ am_keys := fun i h => am_ref_cl _ h 54 gf_32_54 gz_32_54
theorem gf_32_55 : 55 < am_nf 32 := by decide +kernel
theorem gz_32_55 : am_fk 32 55 = 2 := rfl
theorem rl_32_55 : ∀ i, (32, i) ∈ am_keys → am_ref 32 55 i ∈ am_keys := fun i h => am_ref_cl _ h 55 gf_32_55 gz_32_55
theorem gf_32_56 : 56 < am_nf 32 := by decide +kernel
theorem gz_32_56 : am_fk 32 56 = 2 := rfl
theorem rl_32_56 : ∀ i, (32, i) ∈ am_keys → am_ref 32 56 i ∈ am_keys := fun i h => am_ref_cl _ h 56 gf_32_56 gz_32_56
theorem gf_32_57 : 57 < am_nf 32 := by decide +kernel
theorem gz_32_57 : am_fk 32 57 = 2 := rfl
theorem rl_32_57 : ∀ i, (32, i) ∈ am_keys → am_ref 32 57 i ∈ am_keys := fun i h => am_ref_cl _ h 57 gf_32_57 gz_32_57
theorem gf_32_58 : 58 < am_nf 32 := by decide +kernel
theorem gz_32_58 : am_fk 32 58 = 2 := rfl
theorem rl_32_58 : ∀ i, (32, i) ∈ am_keys → am_ref 32 58 i ∈ am_keys := fun i h => am_ref_cl _ h 58 gf_32_58 gz_32_58
theorem gf_32_59 : 59 < am_nf 32 := by decide +kernel
theorem gz_32_59 : am_fk 32 59 = 2 := rfl
theorem rl_32_59 : ∀ i, (32, i) ∈ am_keys → am_ref 32 59 i ∈ am_keys := fun i h => am_ref_cl _ h 59 gf_32_59 gz_32_59
theorem gf_32_60 : 60 < am_nf 32 := by decide +kernel
theorem gz_32_60 : am_fk 32 60 = 4 := rfl
theorem ak_8 : am_ak 8 = 1 := rfl
theorem ak_9 : am_ak 9 = 1 := rfl
theorem ak_10 : am_ak 10 = 1 := rfl
theorem ak_11 : am_ak 11 = 1 := rfl
theorem ak_12 : am_ak 12 = 1 := rfl
theorem ak_13 : am_ak 13 = 3 := rfl
theorem el_13 : ∀ i, (13, i) ∈ am_keys → ∀ q, q < am_len 13 → (4, am_el 13 i q) ∈ am_keys := fun i h q hq => am_el_cl _ h ak_13 q hq
theorem ak_14 : am_ak 14 = 3 := rfl
theorem el_14 : ∀ i, (14, i) ∈ am_keys → ∀ q, q < am_len 14 → (4, am_el 14 i q) ∈ am_keys := fun i h q hq => am_el_cl _ h ak_14 q hq
theorem ak_15 : am_ak 15 = 1 := rfl
theorem ak_16 : am_ak 16 = 3 := rfl
theorem el_16 : ∀ i, (16, i) ∈ am_keys → ∀ q, q < am_len 16 → (4, am_el 16 i q) ∈ am_keys := fun i h q hq => am_el_cl _ h ak_16 q hq
theorem ak_43 : am_ak 43 = 1 := rfl
theorem ak_44 : am_ak 44 = 1 := rfl
theorem ak_45 : am_ak 45 = 1 := rfl
theorem ak_48 : am_ak 48 = 1 := rfl
theorem ak_49 : am_ak 49 = 1 := rfl
theorem ak_50 : am_ak 50 = 1 := rfl
theorem ak_51 : am_ak 51 = 1 := rfl
theorem ak_52 : am_ak 52 = 1 := rfl
theorem ak_53 : am_ak 53 = 1 := rfl
theorem ak_54 : am_ak 54 = 1 := rfl
theorem ak_57 : am_ak 57 = 2 := rfl
theorem ak_62 : am_ak 62 = 1 := rfl
theorem ak_63 : am_ak 63 = 1 := rfl
theorem ak_64 : am_ak 64 = 1 := rfl
theorem ak_65 : am_ak 65 = 1 := rfl
theorem ak_66 : am_ak 66 = 1 := rfl
theorem ak_67 : am_ak 67 = 1 := rfl
theorem ak_68 : am_ak 68 = 1 := rfl
theorem ak_69 : am_ak 69 = 1 := rfl
theorem ak_74 : am_ak 74 = 1 := rfl
theorem ak_81 : am_ak 81 = 1 := rfl
theorem ak_86 : am_ak 86 = 1 := rfl
theorem ak_87 : am_ak 87 = 1 := rfl
theorem ak_88 : am_ak 88 = 1 := rfl
theorem ak_89 : am_ak 89 = 1 := rfl
theorem ak_90 : am_ak 90 = 1 := rfl
theorem ak_94 : am_ak 94 = 1 := rfl
theorem ak_95 : am_ak 95 = 1 := rfl
theorem ak_96 : am_ak 96 = 1 := rfl
theorem ak_97 : am_ak 97 = 1 := rfl
theorem ak_98 : am_ak 98 = 1 := rfl
theorem ak_99 : am_ak 99 = 1 := rfl
theorem cf_0 : am_cf 0 RX8 TX8 tyX8 := ⟨rfl, rfl, by decide +kernel, tyX8_ok, nmX8, by decide⟩
theorem rc_0 : am_rc 0 RX8 := Or.inl ⟨_, _, cf_0⟩
theorem cf_1 : am_cf 1 RX5 TX5 tyX5 := ⟨rfl, rfl, by decide +kernel, tyX5_ok, nmX5, by decide⟩
theorem rc_1 : am_rc 1 RX5 := Or.inl ⟨_, _, cf_1⟩
theorem cf_2 : am_cf 2 RX3 TX3 tyX3 := ⟨rfl, rfl, by decide +kernel, tyX3_ok, nmX3, by decide⟩
theorem rc_2 : am_rc 2 RX3 := Or.inl ⟨_, _, cf_2⟩
theorem cf_3 : am_cf 3 RX7 TX7 tyX7 := ⟨rfl, rfl, by decide +kernel, tyX7_ok, nmX7, by decide⟩
theorem rc_3 : am_rc 3 RX7 := Or.inl ⟨_, _, cf_3⟩
theorem cf_4 : am_cf 4 RX6 TX6 tyX6 := ⟨rfl, rfl, by decide +kernel, tyX6_ok, nmX6, by decide⟩
theorem rc_4 : am_rc 4 RX6 := Or.inl ⟨_, _, cf_4⟩
theorem cf_5 : am_cf 5 RX0 TX0 tyX0 := ⟨rfl, rfl, by decide +kernel, tyX0_ok, nmX0, by decide⟩
theorem rc_5 : am_rc 5 RX0 := Or.inl ⟨_, _, cf_5⟩
theorem cf_6 : am_cf 6 RX1 TX1 tyX1 := ⟨rfl, rfl, by decide +kernel, tyX1_ok, nmX1, by decide⟩
theorem rc_6 : am_rc 6 RX1 := Or.inl ⟨_, _, cf_6⟩
theorem cf_7 : am_cf 7 RX4 TX4 tyX4 := ⟨rfl, rfl, by decide +kernel, tyX4_ok, nmX4, by decide⟩
theorem rc_7 : am_rc 7 RX4 := Or.inl ⟨_, _, cf_7⟩
theorem cf_32 : am_cf 32 RX9 TX9 tyX9 := ⟨rfl, rfl, by decide +kernel, tyX9_ok, nmX9, by decide⟩
theorem rc_32 : am_rc 32 RX9 := Or.inl ⟨_, _, cf_32⟩
theorem rc_20 : am_rc 20 RX2 := Or.inr ⟨rfl, rfl⟩
theorem mw_max_s : Cond.static Lib.Math.max.name ∈ lw_tbl := am_w2 239 rfl
theorem mw_max_c : Cond.code Lib.Math.max.name Lib.Math.max.code 2 (some .int) ∈ lw_tbl := am_w3 0 rfl
theorem mw_min_s : Cond.static Lib.Math.min.name ∈ lw_tbl := am_w3 122 rfl
theorem mw_min_c : Cond.code Lib.Math.min.name Lib.Math.min.code 2 (some .int) ∈ lw_tbl := am_w3 123 rfl
theorem mw_i : Cond.initialized "java/lang/Math" ∈ lw_tbl := am_w1 12 rfl
theorem fl_RX8_10 : am_fl RX8 10 (TX8 0) := Or.inl (am_w1 225 rfl)
theorem fl_RX8_19 : am_fl RX8 19 (TX8 1) := Or.inl (am_w1 226 rfl)
theorem fl_RX8_26 : am_fl RX8 26 (TX8 2) := Or.inl (am_w1 227 rfl)
theorem fl_RX8_30 : am_fl RX8 30 (TX8 3) := Or.inl (am_w1 228 rfl)
theorem fl_RX8_33 : am_fl RX8 33 (TX8 4) := Or.inl (am_w1 229 rfl)
theorem fl_RX8_39 : am_fl RX8 39 (TX8 5) := Or.inl (am_w1 230 rfl)
theorem fl_RX8_46 : am_fl RX8 46 (TX8 6) := Or.inl (am_w1 231 rfl)
theorem fl_RX8_53 : am_fl RX8 53 (TX8 7) := Or.inl (am_w1 232 rfl)
theorem fl_RX8_65 : am_fl RX8 65 (TX5 2) := Or.inr ⟨"ServedAhead", am_w1 56 rfl⟩
theorem fl_RX8_76 : am_fl RX8 76 (TX5 1) := Or.inr ⟨"ServedAhead", am_w1 54 rfl⟩
theorem fl_RX8_83 : am_fl RX8 83 (TX8 9) := Or.inl (am_w1 234 rfl)
theorem fl_RX8_133 : am_fl RX8 133 (TX6 1) := Or.inr ⟨"ServedAhead", am_w1 109 rfl⟩
theorem fl_RX8_151 : am_fl RX8 151 (TX7 2) := Or.inr ⟨"ServedAhead", am_w1 144 rfl⟩
theorem fl_RX8_158 : am_fl RX8 158 (TX6 2) := Or.inr ⟨"ServedAhead", am_w1 113 rfl⟩
theorem fl_RX8_168 : am_fl RX8 168 (TX6 0) := Or.inr ⟨"ServedAhead", am_w1 105 rfl⟩
theorem fl_RX8_185 : am_fl RX8 185 (TX6 5) := Or.inr ⟨"ServedAhead", am_w1 126 rfl⟩
theorem fl_RX8_189 : am_fl RX8 189 (TX6 3) := Or.inr ⟨"ServedAhead", am_w1 119 rfl⟩
theorem fl_RX8_199 : am_fl RX8 199 (TX8 10) := Or.inl (am_w1 235 rfl)
theorem fl_RX8_206 : am_fl RX8 206 (TX1 4) := Or.inr ⟨"ServedAhead", am_w1 175 rfl⟩
theorem fl_RX8_209 : am_fl RX8 209 (TX1 5) := Or.inr ⟨"ServedAhead", am_w1 177 rfl⟩
theorem fl_RX8_220 : am_fl RX8 220 (TX6 4) := Or.inr ⟨"ServedAhead", am_w1 123 rfl⟩
theorem fl_RX8_223 : am_fl RX8 223 (TX4 3) := Or.inr ⟨"ServedAhead", am_w1 204 rfl⟩
theorem fl_RX8_228 : am_fl RX8 228 (TX4 2) := Or.inr ⟨"ServedAhead", am_w1 202 rfl⟩
theorem fl_RX8_233 : am_fl RX8 233 (TX8 11) := Or.inl (am_w1 236 rfl)
theorem fl_RX8_239 : am_fl RX8 239 (TX4 5) := Or.inr ⟨"ServedAhead", am_w1 207 rfl⟩
theorem fl_RX8_242 : am_fl RX8 242 (TX4 6) := Or.inr ⟨"ServedAhead", am_w1 209 rfl⟩
theorem fl_RX8_258 : am_fl RX8 258 (TX7 3) := Or.inr ⟨"ServedAhead", am_w1 146 rfl⟩
theorem fl_RX8_261 : am_fl RX8 261 (TX7 4) := Or.inr ⟨"ServedAhead", am_w1 148 rfl⟩
theorem fl_RX8_264 : am_fl RX8 264 (TX8 8) := Or.inl (am_w1 233 rfl)
theorem fl_RX8_267 : am_fl RX8 267 (TX3 3) := Or.inr ⟨"ServedAhead", am_w1 41 rfl⟩
theorem fl_RX8_270 : am_fl RX8 270 (TX7 1) := Or.inr ⟨"ServedAhead", am_w1 142 rfl⟩
theorem fl_RX8_327 : am_fl RX8 327 ("ServedAhead", "ACTS", "[I", false) := Or.inl (am_w3 127 rfl)
theorem fl_RX0_9 : am_fl RX0 9 (TX0 0) := Or.inl (am_w1 91 rfl)
theorem fl_RX0_15 : am_fl RX0 15 (TX0 1) := Or.inl (am_w1 92 rfl)
theorem fl_RX1_11 : am_fl RX1 11 (TX1 0) := Or.inl (am_w1 170 rfl)
theorem fl_RX1_22 : am_fl RX1 22 (TX6 2) := Or.inr ⟨"ServedAhead", am_w1 111 rfl⟩
theorem fl_RX1_26 : am_fl RX1 26 (TX1 2) := Or.inl (am_w1 172 rfl)
theorem fl_RX1_29 : am_fl RX1 29 (TX1 1) := Or.inl (am_w1 171 rfl)
theorem fl_RX1_32 : am_fl RX1 32 (TX6 4) := Or.inr ⟨"ServedAhead", am_w1 121 rfl⟩
theorem fl_RX1_46 : am_fl RX1 46 (TX1 4) := Or.inl (am_w1 174 rfl)
theorem fl_RX1_49 : am_fl RX1 49 (TX1 5) := Or.inl (am_w1 176 rfl)
theorem fl_RX1_52 : am_fl RX1 52 (TX1 3) := Or.inl (am_w1 173 rfl)
theorem fl_RX1_74 : am_fl RX1 74 (TX6 3) := Or.inr ⟨"ServedAhead", am_w1 116 rfl⟩
theorem fl_RX1_77 : am_fl RX1 77 (TX6 1) := Or.inr ⟨"ServedAhead", am_w1 108 rfl⟩
theorem fl_RX1_81 : am_fl RX1 81 ("ServedAhead$Kind", "givenAWeek", "I", false) := Or.inr ⟨"ServedAhead", am_w6 51 rfl⟩
theorem fl_RX1_86 : am_fl RX1 86 (TX6 0) := Or.inr ⟨"ServedAhead", am_w1 104 rfl⟩
theorem fl_RX1_90 : am_fl RX1 90 (TX0 1) := Or.inr ⟨"ServedAhead", am_w1 94 rfl⟩
theorem fl_RX2_3 : am_fl RX2 3 ("ServedAhead$Kind", "PERSON", "LServedAhead$Kind;", false) := Or.inl (am_w2 156 rfl)
theorem fl_RX2_13 : am_fl RX2 13 ("ServedAhead$Kind", "THIEF", "LServedAhead$Kind;", false) := Or.inl (am_w2 199 rfl)
theorem fl_RX2_16 : am_fl RX2 16 ("ServedAhead$Kind", "BARON", "LServedAhead$Kind;", false) := Or.inl (am_w2 197 rfl)
theorem fl_RX2_42 : am_fl RX2 42 ("ServedAhead$Kind", "needsLess", "I", false) := Or.inl (am_w6 47 rfl)
theorem fl_RX2_45 : am_fl RX2 45 ("ServedAhead$Kind", "getsMore", "I", false) := Or.inl (am_w6 49 rfl)
theorem fl_RX2_51 : am_fl RX2 51 ("ServedAhead$Kind", "owesTimes", "I", false) := Or.inl (am_w6 50 rfl)
theorem fl_RX2_54 : am_fl RX2 54 ("ServedAhead$Kind", "ALL", "[LServedAhead$Kind;", false) := Or.inl (am_w2 147 rfl)
theorem fl_RX3_9 : am_fl RX3 9 (TX3 0) := Or.inl (am_w1 33 rfl)
theorem fl_RX3_15 : am_fl RX3 15 (TX3 1) := Or.inl (am_w1 35 rfl)
theorem fl_RX3_18 : am_fl RX3 18 (TX3 2) := Or.inl (am_w1 37 rfl)
theorem fl_RX3_21 : am_fl RX3 21 (TX3 3) := Or.inl (am_w1 39 rfl)
theorem fl_RX4_9 : am_fl RX4 9 (TX4 0) := Or.inl (am_w1 199 rfl)
theorem fl_RX4_17 : am_fl RX4 17 (TX4 1) := Or.inl (am_w1 200 rfl)
theorem fl_RX4_22 : am_fl RX4 22 (TX4 2) := Or.inl (am_w1 201 rfl)
theorem fl_RX4_26 : am_fl RX4 26 (TX4 3) := Or.inl (am_w1 203 rfl)
theorem fl_RX4_30 : am_fl RX4 30 (TX4 4) := Or.inl (am_w1 205 rfl)
theorem fl_RX4_37 : am_fl RX4 37 (TX4 5) := Or.inl (am_w1 206 rfl)
theorem fl_RX4_40 : am_fl RX4 40 (TX4 6) := Or.inl (am_w1 208 rfl)
theorem fl_RX4_43 : am_fl RX4 43 (TX6 3) := Or.inr ⟨"ServedAhead", am_w1 117 rfl⟩
theorem fl_RX4_60 : am_fl RX4 60 (TX6 2) := Or.inr ⟨"ServedAhead", am_w1 112 rfl⟩
theorem fl_RX4_63 : am_fl RX4 63 ("ServedAhead", "ACTS", "[I", false) := Or.inr ⟨"ServedAhead", am_w3 190 rfl⟩
theorem fl_RX5_9 : am_fl RX5 9 (TX5 0) := Or.inl (am_w1 52 rfl)
theorem fl_RX5_18 : am_fl RX5 18 (TX5 1) := Or.inl (am_w1 53 rfl)
theorem fl_RX5_22 : am_fl RX5 22 (TX5 2) := Or.inl (am_w1 55 rfl)
theorem fl_RX5_26 : am_fl RX5 26 (TX5 3) := Or.inl (am_w1 57 rfl)
theorem fl_RX5_29 : am_fl RX5 29 (TX5 4) := Or.inl (am_w1 58 rfl)
theorem fl_RX5_65 : am_fl RX5 65 (TX3 0) := Or.inr ⟨"ServedAhead", am_w1 34 rfl⟩
theorem fl_RX5_68 : am_fl RX5 68 (TX3 2) := Or.inr ⟨"ServedAhead", am_w1 38 rfl⟩
theorem fl_RX5_71 : am_fl RX5 71 (TX3 1) := Or.inr ⟨"ServedAhead", am_w1 36 rfl⟩
theorem fl_RX5_74 : am_fl RX5 74 (TX3 3) := Or.inr ⟨"ServedAhead", am_w1 40 rfl⟩
theorem fl_RX6_12 : am_fl RX6 12 (TX6 0) := Or.inl (am_w1 103 rfl)
theorem fl_RX6_24 : am_fl RX6 24 (TX6 1) := Or.inl (am_w1 107 rfl)
theorem fl_RX6_27 : am_fl RX6 27 (TX6 2) := Or.inl (am_w1 110 rfl)
theorem fl_RX6_31 : am_fl RX6 31 (TX6 3) := Or.inl (am_w1 115 rfl)
theorem fl_RX6_34 : am_fl RX6 34 (TX6 4) := Or.inl (am_w1 120 rfl)
theorem fl_RX6_38 : am_fl RX6 38 (TX6 5) := Or.inl (am_w1 124 rfl)
theorem fl_RX6_41 : am_fl RX6 41 (TX0 1) := Or.inr ⟨"ServedAhead", am_w1 93 rfl⟩
theorem fl_RX6_48 : am_fl RX6 48 ("ServedAhead$Kind", "number", "I", false) := Or.inr ⟨"ServedAhead", am_w6 46 rfl⟩
theorem fl_RX6_106 : am_fl RX6 106 ("ServedAhead$Kind", "givenAWeek", "I", false) := Or.inr ⟨"ServedAhead", am_w6 48 rfl⟩
theorem fl_RX7_11 : am_fl RX7 11 (TX7 0) := Or.inl (am_w1 140 rfl)
theorem fl_RX7_22 : am_fl RX7 22 (TX7 1) := Or.inl (am_w1 141 rfl)
theorem fl_RX7_26 : am_fl RX7 26 (TX7 2) := Or.inl (am_w1 143 rfl)
theorem fl_RX7_37 : am_fl RX7 37 (TX6 5) := Or.inr ⟨"ServedAhead", am_w1 125 rfl⟩
theorem fl_RX7_56 : am_fl RX7 56 (TX6 3) := Or.inr ⟨"ServedAhead", am_w1 118 rfl⟩
theorem fl_RX7_59 : am_fl RX7 59 (TX6 4) := Or.inr ⟨"ServedAhead", am_w1 122 rfl⟩
theorem fl_RX7_72 : am_fl RX7 72 (TX6 2) := Or.inr ⟨"ServedAhead", am_w1 114 rfl⟩
theorem fl_RX7_75 : am_fl RX7 75 (TX6 0) := Or.inr ⟨"ServedAhead", am_w1 106 rfl⟩
theorem fl_RX7_79 : am_fl RX7 79 (TX0 1) := Or.inr ⟨"ServedAhead", am_w1 95 rfl⟩
theorem fl_RX7_82 : am_fl RX7 82 (TX7 3) := Or.inl (am_w1 145 rfl)
theorem fl_RX7_85 : am_fl RX7 85 (TX7 4) := Or.inl (am_w1 147 rfl)
theorem fl_RX9_7 : am_fl RX9 7 (TX9 3) := Or.inl (am_w4 48 rfl)
theorem fl_RX9_13 : am_fl RX9 13 (TX9 4) := Or.inl (am_w4 49 rfl)
theorem fl_RX9_16 : am_fl RX9 16 (TX9 5) := Or.inl (am_w4 50 rfl)
theorem fl_RX9_19 : am_fl RX9 19 (TX9 8) := Or.inl (am_w4 53 rfl)
theorem fl_RX9_22 : am_fl RX9 22 (TX9 9) := Or.inl (am_w4 54 rfl)
theorem fl_RX9_25 : am_fl RX9 25 (TX9 10) := Or.inl (am_w4 55 rfl)
theorem fl_RX9_28 : am_fl RX9 28 (TX9 11) := Or.inl (am_w4 56 rfl)
theorem fl_RX9_31 : am_fl RX9 31 (TX9 12) := Or.inl (am_w4 57 rfl)
theorem fl_RX9_34 : am_fl RX9 34 (TX9 13) := Or.inl (am_w4 58 rfl)
theorem fl_RX9_37 : am_fl RX9 37 (TX9 14) := Or.inl (am_w4 59 rfl)
theorem fl_RX9_40 : am_fl RX9 40 (TX9 17) := Or.inl (am_w4 62 rfl)
theorem fl_RX9_44 : am_fl RX9 44 (TX9 22) := Or.inl (am_w4 67 rfl)
theorem fl_RX9_47 : am_fl RX9 47 (TX9 23) := Or.inl (am_w4 68 rfl)
theorem fl_RX9_50 : am_fl RX9 50 (TX9 24) := Or.inl (am_w4 69 rfl)
theorem fl_RX9_53 : am_fl RX9 53 (TX9 25) := Or.inl (am_w4 70 rfl)
theorem fl_RX9_56 : am_fl RX9 56 (TX9 26) := Or.inl (am_w4 71 rfl)
theorem fl_RX9_59 : am_fl RX9 59 (TX9 27) := Or.inl (am_w4 72 rfl)
theorem fl_RX9_62 : am_fl RX9 62 (TX9 28) := Or.inl (am_w4 73 rfl)
theorem fl_RX9_65 : am_fl RX9 65 (TX9 29) := Or.inl (am_w4 74 rfl)
theorem fl_RX9_68 : am_fl RX9 68 (TX9 32) := Or.inl (am_w4 77 rfl)
theorem fl_RX9_72 : am_fl RX9 72 (TX9 34) := Or.inl (am_w4 79 rfl)
theorem fl_RX9_75 : am_fl RX9 75 (TX9 41) := Or.inl (am_w4 86 rfl)
theorem fl_RX9_78 : am_fl RX9 78 (TX9 46) := Or.inl (am_w4 91 rfl)
theorem fl_RX9_81 : am_fl RX9 81 (TX9 47) := Or.inl (am_w4 92 rfl)
theorem fl_RX9_84 : am_fl RX9 84 (TX9 48) := Or.inl (am_w4 93 rfl)
theorem fl_RX9_87 : am_fl RX9 87 (TX9 49) := Or.inl (am_w4 94 rfl)
theorem fl_RX9_90 : am_fl RX9 90 (TX9 50) := Or.inl (am_w4 95 rfl)
theorem fl_RX9_93 : am_fl RX9 93 (TX9 54) := Or.inl (am_w4 99 rfl)
theorem fl_RX9_96 : am_fl RX9 96 (TX9 55) := Or.inl (am_w4 100 rfl)
theorem fl_RX9_99 : am_fl RX9 99 (TX9 56) := Or.inl (am_w4 101 rfl)
theorem fl_RX9_102 : am_fl RX9 102 (TX9 57) := Or.inl (am_w4 102 rfl)
theorem fl_RX9_105 : am_fl RX9 105 (TX9 58) := Or.inl (am_w4 103 rfl)
theorem fl_RX9_108 : am_fl RX9 108 (TX9 59) := Or.inl (am_w4 104 rfl)
theorem fl_RX9_115 : am_fl RX9 115 (TX9 16) := Or.inl (am_w4 61 rfl)
theorem fl_RX9_118 : am_fl RX9 118 (TX9 20) := Or.inl (am_w4 65 rfl)
theorem fl_RX9_125 : am_fl RX9 125 (TX9 21) := Or.inl (am_w4 66 rfl)
theorem fl_RX9_136 : am_fl RX9 136 (TX9 18) := Or.inl (am_w4 63 rfl)
theorem fl_RX9_139 : am_fl RX9 139 (TX9 19) := Or.inl (am_w4 64 rfl)
theorem fl_RX9_146 : am_fl RX9 146 (TX9 2) := Or.inl (am_w4 47 rfl)
theorem fl_RX9_149 : am_fl RX9 149 (TX9 0) := Or.inl (am_w4 45 rfl)
theorem fl_RX9_152 : am_fl RX9 152 (TX9 1) := Or.inl (am_w4 46 rfl)
theorem fl_RX9_155 : am_fl RX9 155 (TX9 33) := Or.inl (am_w4 78 rfl)
theorem fl_RX9_168 : am_fl RX9 168 (TX9 7) := Or.inl (am_w4 52 rfl)
theorem fl_RX9_171 : am_fl RX9 171 (TX9 6) := Or.inl (am_w4 51 rfl)
theorem fl_RX9_228 : am_fl RX9 228 (TX9 30) := Or.inl (am_w4 75 rfl)
theorem fl_RX9_231 : am_fl RX9 231 (TX9 31) := Or.inl (am_w4 76 rfl)
theorem fl_RX9_252 : am_fl RX9 252 (TX9 15) := Or.inl (am_w4 60 rfl)
theorem fl_RX9_274 : am_fl RX9 274 (TX9 36) := Or.inl (am_w4 81 rfl)
theorem fl_RX9_277 : am_fl RX9 277 (TX9 37) := Or.inl (am_w4 82 rfl)
theorem fl_RX9_280 : am_fl RX9 280 (TX9 38) := Or.inl (am_w4 83 rfl)
theorem fl_RX9_283 : am_fl RX9 283 (TX9 39) := Or.inl (am_w4 84 rfl)
theorem fl_RX9_286 : am_fl RX9 286 (TX9 40) := Or.inl (am_w4 85 rfl)
theorem fl_RX9_289 : am_fl RX9 289 (TX9 42) := Or.inl (am_w4 87 rfl)
theorem fl_RX9_292 : am_fl RX9 292 (TX9 43) := Or.inl (am_w4 88 rfl)
theorem fl_RX9_298 : am_fl RX9 298 (TX9 35) := Or.inl (am_w4 80 rfl)
theorem fl_RX9_308 : am_fl RX9 308 (TX9 45) := Or.inl (am_w4 90 rfl)
theorem fl_RX9_313 : am_fl RX9 313 (TX9 44) := Or.inl (am_w4 89 rfl)
theorem fl_RX9_338 : am_fl RX9 338 (TX9 51) := Or.inl (am_w4 96 rfl)
theorem fl_RX9_341 : am_fl RX9 341 (TX9 52) := Or.inl (am_w4 97 rfl)
theorem fl_RX9_344 : am_fl RX9 344 (TX9 53) := Or.inl (am_w4 98 rfl)
theorem fl_RX9_358 : am_fl RX9 358 (TX9 60) := Or.inl (am_w4 105 rfl)
theorem ml_RX8_57 : am_ml RX8 57 yX5_hasRoom := Or.inl (am_w2 26 rfl)
theorem ml_RX8_61 : am_ml RX8 61 yX5_write := Or.inl (am_w2 30 rfl)
theorem ml_RX8_69 : am_ml RX8 69 yX5_firstFault := Or.inl (am_w2 42 rfl)
theorem ml_RX8_73 : am_ml RX8 73 yX5_isLaw := Or.inl (am_w2 85 rfl)
theorem ml_RX8_79 : am_ml RX8 79 yX3_copy := Or.inl (am_w2 90 rfl)
theorem ml_RX8_86 : am_ml RX8 86 yX4_close := Or.inl (am_w2 94 rfl)
theorem ml_RX8_89 : am_ml RX8 89 yX7_dropLapsed := Or.inl (am_w2 98 rfl)
theorem ml_RX8_92 : am_ml RX8 92 yX3_allTerms := Or.inl (am_w2 118 rfl)
theorem ml_RX8_95 : am_ml RX8 95 yX8_isDeed := Or.inl (am_w2 126 rfl)
theorem ml_RX8_99 : am_ml RX8 99 yX3_termOf := Or.inl (am_w2 127 rfl)
theorem ml_RX8_103 : am_ml RX8 103 yX3_worthOf := Or.inl (am_w2 132 rfl)
theorem ml_RX8_106 : am_ml RX8 106 yX3_sortsOf := Or.inl (am_w2 136 rfl)
theorem ml_RX8_109 : am_ml RX8 109 yX2_isNumber := Or.inl (am_w2 144 rfl)
theorem ml_RX8_114 : am_ml RX8 114 yX7_hasRoom := Or.inl (am_w2 149 rfl)
theorem ml_RX8_115 : am_ml RX8 115 yX2_numbered := Or.inl (am_w2 153 rfl)
theorem ml_RX8_119 : am_ml RX8 119 yX7_welcome := Or.inl (am_w2 157 rfl)
theorem ml_RX8_123 : am_ml RX8 123 yX7_isKnown := Or.inl (am_w2 169 rfl)
theorem ml_RX8_126 : am_ml RX8 126 yX7_one := Or.inl (am_w2 173 rfl)
theorem ml_RX8_130 : am_ml RX8 130 yX6_told := Or.inl (am_w2 174 rfl)
theorem ml_RX8_137 : am_ml RX8 137 yX2_isA := Or.inl (am_w2 193 rfl)
theorem ml_RX8_141 : am_ml RX8 141 yX7_isHere := Or.inl (am_w2 205 rfl)
theorem ml_RX8_144 : am_ml RX8 144 yX8_isAct := Or.inl (am_w2 210 rfl)
theorem ml_RX8_147 : am_ml RX8 147 yX6_isFreeTo := Or.inl (am_w2 222 rfl)
theorem ml_RX8_154 : am_ml RX8 154 yX6_does := Or.inl (am_w3 5 rfl)
theorem ml_RX8_161 : am_ml RX8 161 yX7_passWeek := Or.inl (am_w3 44 rfl)
theorem ml_RX8_164 : am_ml RX8 164 yX8_arePair := Or.inl (am_w3 57 rfl)
theorem ml_RX8_172 : am_ml RX8 172 yX0_oldestWeek := Or.inl (am_w3 61 rfl)
theorem ml_RX8_177 : am_ml RX8 177 yX0_hasRoom := Or.inl (am_w3 62 rfl)
theorem ml_RX8_178 : am_ml RX8 178 yX0_dropOldest := Or.inl (am_w3 66 rfl)
theorem ml_RX8_182 : am_ml RX8 182 yX0_give := Or.inl (am_w3 67 rfl)
theorem ml_RX8_192 : am_ml RX8 192 yX0_moveTo := Or.inl (am_w3 72 rfl)
theorem ml_RX8_196 : am_ml RX8 196 yX7_forgive := Or.inl (am_w3 82 rfl)
theorem ml_RX8_202 : am_ml RX8 202 yX1_start := Or.inl (am_w3 94 rfl)
theorem ml_RX8_212 : am_ml RX8 212 yX8_weeksOfServing := Or.inl (am_w3 135 rfl)
theorem ml_RX8_216 : am_ml RX8 216 yX7_someoneCovered := Or.inl (am_w3 146 rfl)
theorem ml_RX8_224 : am_ml RX8 224 yX4_open := Or.inl (am_w3 156 rfl)
theorem ml_RX8_231 : am_ml RX8 231 yX4_hasRoom := Or.inl (am_w3 165 rfl)
theorem ml_RX8_232 : am_ml RX8 232 yX4_write := Or.inl (am_w3 169 rfl)
theorem ml_RX8_236 : am_ml RX8 236 yX4_walk := Or.inl (am_w3 177 rfl)
theorem ml_RX8_245 : am_ml RX8 245 yX7_copy := Or.inl (am_w3 209 rfl)
theorem ml_RX8_248 : am_ml RX8 248 yX7_live := Or.inl (am_w3 214 rfl)
theorem ml_RX8_252 : am_ml RX8 252 yX7_allGot := Or.inl (am_w3 234 rfl)
theorem ml_RX8_255 : am_ml RX8 255 yX7_allOwed := Or.inl (am_w3 238 rfl)
theorem ml_RX8_271 : am_ml RX8 271 yX7_allGone := Or.inl (am_w4 11 rfl)
theorem ml_RX8_274 : am_ml RX8 274 yX7_allCredits := Or.inl (am_w4 15 rfl)
theorem ml_RX8_279 : am_ml RX8 279 yX8_withDeed := Or.inl (am_w4 24 rfl)
theorem ml_RX8_283 : am_ml RX8 283 yX8_withPerson := Or.inl (am_w4 31 rfl)
theorem ml_RX8_288 : am_ml RX8 288 yX5_at := Or.inl (am_w4 37 rfl)
theorem ml_RX8_291 : am_ml RX8 291 yX8_count := Or.inl (am_w4 38 rfl)
theorem ml_RX8_294 : am_ml RX8 294 yX8_deed := Or.inl (am_w4 29 rfl)
theorem ml_RX8_298 : am_ml RX8 298 yX8_kept := Or.inl (am_w4 30 rfl)
theorem ml_RX8_301 : am_ml RX8 301 yX8_about := Or.inl (am_w4 35 rfl)
theorem ml_RX8_304 : am_ml RX8 304 yX8_soon := Or.inl (am_w4 36 rfl)
theorem ml_RX8_307 : am_ml RX8 307 yX6_copy := Or.inl (am_w3 139 rfl)
theorem ml_RX8_310 : am_ml RX8 310 yX6_enter := Or.inl (am_w3 140 rfl)
theorem ml_RX8_314 : am_ml RX8 314 yX6_isCovered := Or.inl (am_w3 141 rfl)
theorem ml_RX8_318 : am_ml RX8 318 yX8_isServing := Or.inl (am_w2 213 rfl)
theorem ml_RX8_321 : am_ml RX8 321 yX8_isCoveredDeed := Or.inl (am_w2 216 rfl)
theorem ml_RX8_324 : am_ml RX8 324 yX8_isBareDeed := Or.inl (am_w2 219 rfl)
theorem ml_RX0_19 : am_ml RX0 19 yX0_isOf := Or.inl (am_w2 182 rfl)
theorem ml_RX0_23 : am_ml RX0 23 yX0_hasRoom := Or.inl (am_w3 76 rfl)
theorem ml_RX0_27 : am_ml RX0 27 yX0_give := Or.inl (am_w3 77 rfl)
theorem ml_RX1_18 : am_ml RX1 18 yX6_copy := Or.inl (am_w3 98 rfl)
theorem ml_RX1_42 : am_ml RX1 42 yX6_enter := Or.inl (am_w3 107 rfl)
theorem ml_RX1_55 : am_ml RX1 55 yX1_tryFrom := Or.inl (am_w3 108 rfl)
theorem ml_RX1_58 : am_ml RX1 58 yX1_mostStill := Or.inl (am_w3 112 rfl)
theorem ml_RX1_62 : am_ml RX1 62 yX8_actAt := Or.inr ⟨"ServedAhead", am_w3 124 rfl⟩
theorem ml_RX1_66 : am_ml RX1 66 yX6_isFreeTo := Or.inl (am_w3 129 rfl)
theorem ml_RX1_70 : am_ml RX1 70 yX6_does := Or.inl (am_w3 130 rfl)
theorem ml_RX1_95 : am_ml RX1 95 yX3_worthOf := Or.inl (am_w3 115 rfl)
theorem ml_RX1_100 : am_ml RX1 100 yX2_gets := Or.inl (am_w3 116 rfl)
theorem ml_RX1_103 : am_ml RX1 103 yX3_termOf := Or.inl (am_w3 117 rfl)
theorem ml_RX1_106 : am_ml RX1 106 yX2_needs := Or.inl (am_w3 118 rfl)
theorem ml_RX1_109 : am_ml RX1 109 yX3_sortsOf := Or.inl (am_w3 119 rfl)
theorem ml_RX1_112 : am_ml RX1 112 yX0_howMany := Or.inl (am_w3 120 rfl)
theorem ml_RX3_25 : am_ml RX3 25 yX8_isDeed := Or.inr ⟨"ServedAhead", am_w2 131 rfl⟩
theorem ml_RX4_33 : am_ml RX4 33 yX6_copy := Or.inl (am_w3 160 rfl)
theorem ml_RX4_46 : am_ml RX4 46 yX4_reckon := Or.inl (am_w3 181 rfl)
theorem ml_RX4_50 : am_ml RX4 50 yX4_walkFrom := Or.inl (am_w3 186 rfl)
theorem ml_RX4_66 : am_ml RX4 66 yX8_actAt := Or.inr ⟨"ServedAhead", am_w3 191 rfl⟩
theorem ml_RX4_70 : am_ml RX4 70 yX6_getsBy := Or.inl (am_w3 192 rfl)
theorem ml_RX4_74 : am_ml RX4 74 yX6_isFreeTo := Or.inl (am_w3 193 rfl)
theorem ml_RX4_78 : am_ml RX4 78 yX6_owesAfter := Or.inl (am_w3 194 rfl)
theorem ml_RX4_81 : am_ml RX4 81 yX4_goOn := Or.inl (am_w3 195 rfl)
theorem ml_RX4_85 : am_ml RX4 85 yX6_does := Or.inl (am_w3 199 rfl)
theorem ml_RX4_89 : am_ml RX4 89 yX6_enter := Or.inl (am_w3 200 rfl)
theorem ml_RX5_32 : am_ml RX5 32 yX5_at := Or.inl (am_w2 46 rfl)
theorem ml_RX5_36 : am_ml RX5 36 yX5_takes := Or.inl (am_w2 50 rfl)
theorem ml_RX5_40 : am_ml RX5 40 yX5_firstFault := Or.inl (am_w2 89 rfl)
theorem ml_RX5_44 : am_ml RX5 44 yX5_takesTerm := Or.inl (am_w2 54 rfl)
theorem ml_RX5_47 : am_ml RX5 47 yX5_takesWorth := Or.inl (am_w2 61 rfl)
theorem ml_RX5_50 : am_ml RX5 50 yX5_takesColon := Or.inl (am_w2 65 rfl)
theorem ml_RX5_53 : am_ml RX5 53 yX5_takesSort := Or.inl (am_w2 69 rfl)
theorem ml_RX5_56 : am_ml RX5 56 yX5_takesEndOfDeed := Or.inl (am_w2 73 rfl)
theorem ml_RX5_59 : am_ml RX5 59 yX5_takesLapse := Or.inl (am_w2 77 rfl)
theorem ml_RX5_62 : am_ml RX5 62 yX8_isDeed := Or.inr ⟨"ServedAhead", am_w2 58 rfl⟩
theorem ml_RX6_44 : am_ml RX6 44 yX0_copy := Or.inl (am_w3 102 rfl)
theorem ml_RX6_51 : am_ml RX6 51 yX0_howMany := Or.inl (am_w2 178 rfl)
theorem ml_RX6_55 : am_ml RX6 55 yX0_oldestWeek := Or.inl (am_w2 185 rfl)
theorem ml_RX6_59 : am_ml RX6 59 yX6_dropLapsed := Or.inl (am_w3 52 rfl)
theorem ml_RX6_63 : am_ml RX6 63 yX3_firstThatCounts := Or.inl (am_w2 110 rfl)
theorem ml_RX6_68 : am_ml RX6 68 yX0_dropAheadOf := Or.inl (am_w2 114 rfl)
theorem ml_RX6_72 : am_ml RX6 72 yX3_sortsOf := Or.inl (am_w2 233 rfl)
theorem ml_RX6_75 : am_ml RX6 75 yX2_needs := Or.inl (am_w2 234 rfl)
theorem ml_RX6_78 : am_ml RX6 78 yX8_isServing := Or.inr ⟨"ServedAhead", am_w2 226 rfl⟩
theorem ml_RX6_82 : am_ml RX6 82 yX8_isCoveredDeed := Or.inr ⟨"ServedAhead", am_w2 227 rfl⟩
theorem ml_RX6_85 : am_ml RX6 85 yX3_termOf := Or.inl (am_w2 228 rfl)
theorem ml_RX6_88 : am_ml RX6 88 yX6_isCovered := Or.inl (am_w2 229 rfl)
theorem ml_RX6_92 : am_ml RX6 92 yX6_earns := Or.inl (am_w3 9 rfl)
theorem ml_RX6_96 : am_ml RX6 96 yX0_dropOldest := Or.inl (am_w3 17 rfl)
theorem ml_RX6_99 : am_ml RX6 99 yX6_getsBy := Or.inl (am_w3 21 rfl)
theorem ml_RX6_103 : am_ml RX6 103 yX6_owesAfter := Or.inl (am_w3 31 rfl)
theorem ml_RX6_109 : am_ml RX6 109 yX0_give := Or.inl (am_w3 13 rfl)
theorem ml_RX6_112 : am_ml RX6 112 yX8_isBareDeed := Or.inr ⟨"ServedAhead", am_w3 25 rfl⟩
theorem ml_RX6_115 : am_ml RX6 115 yX3_worthOf := Or.inl (am_w3 26 rfl)
theorem ml_RX6_118 : am_ml RX6 118 yX2_gets := Or.inl (am_w3 27 rfl)
theorem ml_RX6_126 : am_ml RX6 126 yX2_owesFor := Or.inl (am_w3 36 rfl)
theorem ml_RX7_18 : am_ml RX7 18 yX6_copy := Or.inl (am_w3 213 rfl)
theorem ml_RX7_29 : am_ml RX7 29 yX7_isKnown := Or.inl (am_w2 209 rfl)
theorem ml_RX7_33 : am_ml RX7 33 yX7_one := Or.inl (am_w2 102 rfl)
theorem ml_RX7_41 : am_ml RX7 41 yX6_begin := Or.inl (am_w2 161 rfl)
theorem ml_RX7_45 : am_ml RX7 45 yX6_enter := Or.inl (am_w3 48 rfl)
theorem ml_RX7_49 : am_ml RX7 49 yX6_dropLapsed := Or.inl (am_w2 106 rfl)
theorem ml_RX7_52 : am_ml RX7 52 yX7_allOwed := Or.inl (am_w3 86 rfl)
theorem ml_RX7_62 : am_ml RX7 62 yX3_firstThatCounts := Or.inl (am_w3 150 rfl)
theorem ml_RX7_68 : am_ml RX7 68 yX6_isCovered := Or.inl (am_w3 151 rfl)
theorem ml_RX7_88 : am_ml RX7 88 yX7_actByDraw := Or.inl (am_w3 218 rfl)
theorem ml_RX7_92 : am_ml RX7 92 yX7_passWeek := Or.inl (am_w3 233 rfl)
theorem ml_RX7_96 : am_ml RX7 96 yX7_drawn := Or.inl (am_w3 222 rfl)
theorem ml_RX7_99 : am_ml RX7 99 yX8_actAt := Or.inr ⟨"ServedAhead", am_w3 229 rfl⟩
theorem ml_RX7_102 : am_ml RX7 102 yX6_isFreeTo := Or.inl (am_w3 230 rfl)
theorem ml_RX7_106 : am_ml RX7 106 yX6_does := Or.inl (am_w3 231 rfl)
theorem ml_RX7_110 : am_ml RX7 110 yX8_isServing := Or.inr ⟨"ServedAhead", am_w3 232 rfl⟩
theorem ml_RL_13 : am_ml RL 13 yX8_letter := Or.inl (am_w2 22 rfl)
theorem ml_RL_17 : am_ml RL 17 yX9_letter := Or.inl (am_w4 230 rfl)
theorem ml_RL_18 : am_ml RL 18 yX8_blank := Or.inl (am_w2 34 rfl)
theorem ml_RL_22 : am_ml RL 22 yX9_blank := Or.inl (am_w4 237 rfl)
theorem ml_RL_23 : am_ml RL 23 yX8_fault := Or.inl (am_w2 38 rfl)
theorem ml_RL_26 : am_ml RL 26 yX9_fault := Or.inl (am_w5 1 rfl)
theorem ml_RL_27 : am_ml RL 27 yX8_law := Or.inl (am_w2 81 rfl)
theorem ml_RL_30 : am_ml RL 30 yX9_law := Or.inl (am_w5 20 rfl)
theorem ml_RL_31 : am_ml RL 31 yX8_deed := Or.inl (am_w2 122 rfl)
theorem ml_RL_35 : am_ml RL 35 yX9_deed := Or.inl (am_w5 32 rfl)
theorem ml_RL_36 : am_ml RL 36 yX8_person := Or.inl (am_w2 140 rfl)
theorem ml_RL_39 : am_ml RL 39 yX9_person := Or.inl (am_w5 43 rfl)
theorem ml_RL_40 : am_ml RL 40 yX8_about := Or.inl (am_w2 165 rfl)
theorem ml_RL_43 : am_ml RL 43 yX9_about := Or.inl (am_w5 47 rfl)
theorem ml_RL_44 : am_ml RL 44 yX8_as := Or.inl (am_w2 189 rfl)
theorem ml_RL_47 : am_ml RL 47 yX9_as := Or.inl (am_w5 63 rfl)
theorem ml_RL_48 : am_ml RL 48 yX8_may := Or.inl (am_w2 201 rfl)
theorem ml_RL_51 : am_ml RL 51 yX9_may := Or.inl (am_w5 67 rfl)
theorem ml_RL_52 : am_ml RL 52 yX8_act := Or.inl (am_w3 1 rfl)
theorem ml_RL_55 : am_ml RL 55 yX9_act := Or.inl (am_w5 93 rfl)
theorem ml_RL_56 : am_ml RL 56 yX8_week := Or.inl (am_w3 40 rfl)
theorem ml_RL_59 : am_ml RL 59 yX9_week := Or.inl (am_w5 117 rfl)
theorem ml_RL_60 : am_ml RL 60 yX8_sell := Or.inl (am_w3 53 rfl)
theorem ml_RL_64 : am_ml RL 64 yX9_sell := Or.inl (am_w5 125 rfl)
theorem ml_RL_65 : am_ml RL 65 yX8_leave := Or.inl (am_w3 68 rfl)
theorem ml_RL_68 : am_ml RL 68 yX9_leave := Or.inl (am_w5 129 rfl)
theorem ml_RL_69 : am_ml RL 69 yX8_amnesty := Or.inl (am_w3 78 rfl)
theorem ml_RL_72 : am_ml RL 72 yX9_amnesty := Or.inl (am_w5 133 rfl)
theorem ml_RL_73 : am_ml RL 73 yX8_gain := Or.inl (am_w3 90 rfl)
theorem ml_RL_76 : am_ml RL 76 yX9_gain := Or.inl (am_w5 141 rfl)
theorem ml_RL_77 : am_ml RL 77 yX8_soon := Or.inl (am_w3 131 rfl)
theorem ml_RL_80 : am_ml RL 80 yX9_soon := Or.inl (am_w5 168 rfl)
theorem ml_RL_81 : am_ml RL 81 yX8_kept := Or.inl (am_w3 142 rfl)
theorem ml_RL_84 : am_ml RL 84 yX9_kept := Or.inl (am_w5 184 rfl)
theorem ml_RL_85 : am_ml RL 85 yX8_book := Or.inl (am_w3 152 rfl)
theorem ml_RL_88 : am_ml RL 88 yX9_book := Or.inl (am_w5 196 rfl)
theorem ml_RL_89 : am_ml RL 89 yX8_next := Or.inl (am_w3 161 rfl)
theorem ml_RL_92 : am_ml RL 92 yX9_next := Or.inl (am_w5 200 rfl)
theorem ml_RL_93 : am_ml RL 93 yX8_ways := Or.inl (am_w3 173 rfl)
theorem ml_RL_96 : am_ml RL 96 yX9_ways := Or.inl (am_w5 204 rfl)
theorem ml_RL_97 : am_ml RL 97 yX8_owed := Or.inl (am_w3 201 rfl)
theorem ml_RL_100 : am_ml RL 100 yX9_owed := Or.inl (am_w5 220 rfl)
theorem ml_RL_101 : am_ml RL 101 yX8_years := Or.inl (am_w3 205 rfl)
theorem ml_RL_104 : am_ml RL 104 yX9_years := Or.inl (am_w5 224 rfl)
theorem ml_RL_105 : am_ml RL 105 yX8_image := Or.inl (am_w3 239 rfl)
theorem ml_RL_108 : am_ml RL 108 yX9_image := Or.inl (am_w6 12 rfl)
theorem ml_RL_109 : am_ml RL 109 yX8_restore := Or.inl (am_w4 3 rfl)
theorem ml_RL_112 : am_ml RL 112 yX9_restore := Or.inl (am_w6 16 rfl)
theorem ml_RL_113 : am_ml RL 113 yX8_count := Or.inl (am_w4 7 rfl)
theorem ml_RL_116 : am_ml RL 116 yX9_count := Or.inl (am_w6 20 rfl)
theorem ml_RL_117 : am_ml RL 117 yX8_digest := Or.inl (am_w4 19 rfl)
theorem ml_RL_121 : am_ml RL 121 yX9_digest := Or.inl (am_w6 36 rfl)
theorem ml_RX9_111 : am_ml RX9 111 yX9_within := Or.inl (am_w4 234 rfl)
theorem ml_RX9_121 : am_ml RX9 121 yX9_sortState := Or.inl (am_w5 13 rfl)
theorem ml_RX9_128 : am_ml RX9 128 yX9_has := Or.inl (am_w5 17 rfl)
theorem ml_RX9_132 : am_ml RX9 132 yX9_nextState := Or.inl (am_w5 9 rfl)
theorem ml_RX9_143 : am_ml RX9 143 yX9_readLaw := Or.inl (am_w5 5 rfl)
theorem ml_RX9_158 : am_ml RX9 158 yX9_lapseAll := Or.inl (am_w5 24 rfl)
theorem ml_RX9_161 : am_ml RX9 161 yX9_isDeed := Or.inl (am_w5 36 rfl)
theorem ml_RX9_165 : am_ml RX9 165 yX9_deedNow := Or.inl (am_w5 39 rfl)
theorem ml_RX9_174 : am_ml RX9 174 yX9_lapseOf := Or.inl (am_w5 28 rfl)
theorem ml_RX9_178 : am_ml RX9 178 yX9_isThere := Or.inl (am_w5 51 rfl)
theorem ml_RX9_181 : am_ml RX9 181 yX9_countOf := Or.inl (am_w5 59 rfl)
theorem ml_RX9_184 : am_ml RX9 184 yX9_personNow := Or.inl (am_w5 55 rfl)
theorem ml_RX9_187 : am_ml RX9 187 yX9_needs := Or.inl (am_w5 90 rfl)
theorem ml_RX9_190 : am_ml RX9 190 yX9_isCovered := Or.inl (am_w5 86 rfl)
theorem ml_RX9_193 : am_ml RX9 193 yX9_gets := Or.inl (am_w5 101 rfl)
theorem ml_RX9_196 : am_ml RX9 196 yX9_take := Or.inl (am_w5 105 rfl)
theorem ml_RX9_199 : am_ml RX9 199 yX9_serve := Or.inl (am_w5 109 rfl)
theorem ml_RX9_203 : am_ml RX9 203 yX9_give := Or.inl (am_w5 113 rfl)
theorem ml_RX9_206 : am_ml RX9 206 yX9_mayDo := Or.inl (am_w5 82 rfl)
theorem ml_RX9_209 : am_ml RX9 209 yX9_isPerson := Or.inl (am_w5 71 rfl)
theorem ml_RX9_212 : am_ml RX9 212 yX9_isAct := Or.inl (am_w5 75 rfl)
theorem ml_RX9_215 : am_ml RX9 215 yX9_mayNow := Or.inl (am_w5 78 rfl)
theorem ml_RX9_218 : am_ml RX9 218 yX9_doAct := Or.inl (am_w5 97 rfl)
theorem ml_RX9_221 : am_ml RX9 221 yX9_goWeek := Or.inl (am_w5 121 rfl)
theorem ml_RX9_224 : am_ml RX9 224 yX9_owesAll := Or.inl (am_w5 137 rfl)
theorem ml_RX9_234 : am_ml RX9 234 yX9_copy := Or.inl (am_w5 149 rfl)
theorem ml_RX9_237 : am_ml RX9 237 yX9_keepRow := Or.inl (am_w5 153 rfl)
theorem ml_RX9_241 : am_ml RX9 241 yX9_actBy := Or.inl (am_w5 157 rfl)
theorem ml_RX9_245 : am_ml RX9 245 yX9_goRow := Or.inl (am_w5 160 rfl)
theorem ml_RX9_249 : am_ml RX9 249 yX9_backRow := Or.inl (am_w5 164 rfl)
theorem ml_RX9_255 : am_ml RX9 255 yX9_layGain := Or.inl (am_w5 145 rfl)
theorem ml_RX9_258 : am_ml RX9 258 yX9_soonBy := Or.inl (am_w5 180 rfl)
theorem ml_RX9_261 : am_ml RX9 261 yX9_soonNow := Or.inl (am_w5 176 rfl)
theorem ml_RX9_264 : am_ml RX9 264 yX9_soonTold := Or.inl (am_w5 172 rfl)
theorem ml_RX9_267 : am_ml RX9 267 yX9_canAny := Or.inl (am_w5 192 rfl)
theorem ml_RX9_270 : am_ml RX9 270 yX9_keptNow := Or.inl (am_w5 188 rfl)
theorem ml_RX9_295 : am_ml RX9 295 yX9_tryRow := Or.inl (am_w5 216 rfl)
theorem ml_RX9_301 : am_ml RX9 301 yX9_mayBook := Or.inl (am_w5 208 rfl)
theorem ml_RX9_305 : am_ml RX9 305 yX9_layWays := Or.inl (am_w5 212 rfl)
theorem ml_RX9_323 : am_ml RX9 323 yX9_save := Or.inl (am_w5 232 rfl)
theorem ml_RX9_326 : am_ml RX9 326 yX9_draw := Or.inl (am_w5 236 rfl)
theorem ml_RX9_329 : am_ml RX9 329 yX9_gotAll := Or.inl (am_w6 4 rfl)
theorem ml_RX9_332 : am_ml RX9 332 yX9_back := Or.inl (am_w6 8 rfl)
theorem ml_RX9_335 : am_ml RX9 335 yX9_yearsNow := Or.inl (am_w5 228 rfl)
theorem ml_RX9_347 : am_ml RX9 347 yX9_goneMany := Or.inl (am_w6 28 rfl)
theorem ml_RX9_350 : am_ml RX9 350 yX9_creditsAll := Or.inl (am_w6 32 rfl)
theorem ml_RX9_353 : am_ml RX9 353 yX9_howMany := Or.inl (am_w6 24 rfl)
theorem ml_RX9_363 : am_ml RX9 363 yX9_mix := Or.inl (am_w6 41 rfl)
theorem mo_X0_copy : am_mo yX0_copy cX0_copy 3 none 1 := ⟨am_w3 105 rfl, am_w1 6 rfl, by decide, by decide, by decide +kernel, by decide⟩
theorem ms_X0_copy : Cond.instanceMethod yX0_copy ∈ lw_tbl := am_w3 103 rfl
theorem mx_X0_copy : Cond.selects (yX0_copy).cls yX0_copy yX0_copy ∈ lw_tbl := am_w3 104 rfl
theorem mo_X0_hasRoom : am_mo yX0_hasRoom cX0_hasRoom 1 (some .boolean) 0 := ⟨am_w3 65 rfl, am_w1 6 rfl, by decide, by decide, by decide +kernel, by decide⟩
theorem ms_X0_hasRoom : Cond.instanceMethod yX0_hasRoom ∈ lw_tbl := am_w3 63 rfl
theorem mx_X0_hasRoom : Cond.selects (yX0_hasRoom).cls yX0_hasRoom yX0_hasRoom ∈ lw_tbl := am_w3 64 rfl
theorem mo_X0_give : am_mo yX0_give cX0_give 5 none 2 := ⟨am_w3 16 rfl, am_w1 6 rfl, by decide, by decide, by decide +kernel, by decide⟩
theorem ms_X0_give : Cond.instanceMethod yX0_give ∈ lw_tbl := am_w3 14 rfl
theorem mx_X0_give : Cond.selects (yX0_give).cls yX0_give yX0_give ∈ lw_tbl := am_w3 15 rfl
theorem mo_X0_howMany : am_mo yX0_howMany cX0_howMany 5 (some .int) 2 := ⟨am_w2 181 rfl, am_w1 6 rfl, by decide, by decide, by decide +kernel, by decide⟩
theorem ms_X0_howMany : Cond.instanceMethod yX0_howMany ∈ lw_tbl := am_w2 179 rfl
theorem mx_X0_howMany : Cond.selects (yX0_howMany).cls yX0_howMany yX0_howMany ∈ lw_tbl := am_w2 180 rfl
theorem mo_X0_oldestWeek : am_mo yX0_oldestWeek cX0_oldestWeek 3 (some .int) 1 := ⟨am_w2 188 rfl, am_w1 6 rfl, by decide, by decide, by decide +kernel, by decide⟩
theorem ms_X0_oldestWeek : Cond.instanceMethod yX0_oldestWeek ∈ lw_tbl := am_w2 186 rfl
theorem mx_X0_oldestWeek : Cond.selects (yX0_oldestWeek).cls yX0_oldestWeek yX0_oldestWeek ∈ lw_tbl := am_w2 187 rfl
theorem mo_X0_dropOldest : am_mo yX0_dropOldest cX0_dropOldest 6 none 2 := ⟨am_w3 20 rfl, am_w1 6 rfl, by decide, by decide, by decide +kernel, by decide⟩
theorem ms_X0_dropOldest : Cond.instanceMethod yX0_dropOldest ∈ lw_tbl := am_w3 18 rfl
theorem mx_X0_dropOldest : Cond.selects (yX0_dropOldest).cls yX0_dropOldest yX0_dropOldest ∈ lw_tbl := am_w3 19 rfl
theorem mo_X0_dropAheadOf : am_mo yX0_dropAheadOf cX0_dropAheadOf 4 none 1 := ⟨am_w2 117 rfl, am_w1 6 rfl, by decide, by decide, by decide +kernel, by decide⟩
theorem ms_X0_dropAheadOf : Cond.instanceMethod yX0_dropAheadOf ∈ lw_tbl := am_w2 115 rfl
theorem mx_X0_dropAheadOf : Cond.selects (yX0_dropAheadOf).cls yX0_dropAheadOf yX0_dropAheadOf ∈ lw_tbl := am_w2 116 rfl
theorem mo_X0_moveTo : am_mo yX0_moveTo cX0_moveTo 4 (some .int) 1 := ⟨am_w3 75 rfl, am_w1 6 rfl, by decide, by decide, by decide +kernel, by decide⟩
theorem ms_X0_moveTo : Cond.instanceMethod yX0_moveTo ∈ lw_tbl := am_w3 73 rfl
theorem mx_X0_moveTo : Cond.selects (yX0_moveTo).cls yX0_moveTo yX0_moveTo ∈ lw_tbl := am_w3 74 rfl
theorem mo_X0_isOf : am_mo yX0_isOf cX0_isOf 2 (some .boolean) 2 := ⟨am_w2 184 rfl, am_w1 6 rfl, by decide, by decide, by decide +kernel, by decide⟩
theorem ms_X0_isOf : Cond.static yX0_isOf ∈ lw_tbl := am_w2 183 rfl
theorem mo_X1_start : am_mo yX1_start cX1_start 6 none 4 := ⟨am_w3 97 rfl, am_w1 9 rfl, by decide, by decide, by decide +kernel, by decide⟩
theorem ms_X1_start : Cond.instanceMethod yX1_start ∈ lw_tbl := am_w3 95 rfl
theorem mx_X1_start : Cond.selects (yX1_start).cls yX1_start yX1_start ∈ lw_tbl := am_w3 96 rfl
theorem mo_X1_tryFrom : am_mo yX1_tryFrom cX1_tryFrom 7 none 2 := ⟨am_w3 111 rfl, am_w1 9 rfl, by decide, by decide, by decide +kernel, by decide⟩
theorem ms_X1_tryFrom : Cond.instanceMethod yX1_tryFrom ∈ lw_tbl := am_w3 110 rfl
theorem mx_X1_tryFrom : Cond.selects (yX1_tryFrom).cls yX1_tryFrom yX1_tryFrom ∈ lw_tbl := am_wp (q := (yX1_tryFrom, 6)) 9 rfl
theorem mo_X1_mostStill : am_mo yX1_mostStill cX1_mostStill 12 (some .int) 3 := ⟨am_w3 114 rfl, am_w1 9 rfl, by decide, by decide, by decide +kernel, by decide⟩
theorem ms_X1_mostStill : Cond.static yX1_mostStill ∈ lw_tbl := am_w3 113 rfl
theorem mo_X2_isNumber : am_mo yX2_isNumber cX2_isNumber 1 (some .boolean) 1 := ⟨am_w2 146 rfl, am_w1 8 rfl, by decide, by decide, by decide +kernel, by decide⟩
theorem ms_X2_isNumber : Cond.static yX2_isNumber ∈ lw_tbl := am_w2 145 rfl
theorem mo_X2_numbered : am_mo yX2_numbered cX2_numbered 1 (some (.object "ServedAhead$Kind")) 1 := ⟨am_w2 155 rfl, am_w1 8 rfl, by decide, by decide, by decide +kernel, by decide⟩
theorem ms_X2_numbered : Cond.static yX2_numbered ∈ lw_tbl := am_w2 154 rfl
theorem mo_X2_isA : am_mo yX2_isA cX2_isA 2 (some .boolean) 1 := ⟨am_w2 196 rfl, am_w1 8 rfl, by decide, by decide, by decide +kernel, by decide⟩
theorem ms_X2_isA : Cond.instanceMethod yX2_isA ∈ lw_tbl := am_w2 194 rfl
theorem mx_X2_isA : Cond.selects (yX2_isA).cls yX2_isA yX2_isA ∈ lw_tbl := am_w2 195 rfl
theorem mo_X2_needs : am_mo yX2_needs cX2_needs 2 (some .int) 1 := ⟨am_w2 237 rfl, am_w1 8 rfl, by decide, by decide, by decide +kernel, by decide⟩
theorem ms_X2_needs : Cond.instanceMethod yX2_needs ∈ lw_tbl := am_w2 235 rfl
theorem mx_X2_needs : Cond.selects (yX2_needs).cls yX2_needs yX2_needs ∈ lw_tbl := am_w2 236 rfl
theorem mo_X2_gets : am_mo yX2_gets cX2_gets 2 (some .int) 1 := ⟨am_w3 30 rfl, am_w1 8 rfl, by decide, by decide, by decide +kernel, by decide⟩
theorem ms_X2_gets : Cond.instanceMethod yX2_gets ∈ lw_tbl := am_w3 28 rfl
theorem mx_X2_gets : Cond.selects (yX2_gets).cls yX2_gets yX2_gets ∈ lw_tbl := am_w3 29 rfl
theorem mo_X2_owesFor : am_mo yX2_owesFor cX2_owesFor 2 (some .int) 1 := ⟨am_w3 39 rfl, am_w1 8 rfl, by decide, by decide, by decide +kernel, by decide⟩
theorem ms_X2_owesFor : Cond.instanceMethod yX2_owesFor ∈ lw_tbl := am_w3 37 rfl
theorem mx_X2_owesFor : Cond.selects (yX2_owesFor).cls yX2_owesFor yX2_owesFor ∈ lw_tbl := am_w3 38 rfl
theorem mo_X3_copy : am_mo yX3_copy cX3_copy 3 none 1 := ⟨am_w2 93 rfl, am_w1 3 rfl, by decide, by decide, by decide +kernel, by decide⟩
theorem ms_X3_copy : Cond.instanceMethod yX3_copy ∈ lw_tbl := am_w2 91 rfl
theorem mx_X3_copy : Cond.selects (yX3_copy).cls yX3_copy yX3_copy ∈ lw_tbl := am_w2 92 rfl
theorem mo_X3_termOf : am_mo yX3_termOf cX3_termOf 2 (some .int) 1 := ⟨am_w2 130 rfl, am_w1 3 rfl, by decide, by decide, by decide +kernel, by decide⟩
theorem ms_X3_termOf : Cond.instanceMethod yX3_termOf ∈ lw_tbl := am_w2 128 rfl
theorem mx_X3_termOf : Cond.selects (yX3_termOf).cls yX3_termOf yX3_termOf ∈ lw_tbl := am_w2 129 rfl
theorem mo_X3_worthOf : am_mo yX3_worthOf cX3_worthOf 2 (some .int) 1 := ⟨am_w2 135 rfl, am_w1 3 rfl, by decide, by decide, by decide +kernel, by decide⟩
theorem ms_X3_worthOf : Cond.instanceMethod yX3_worthOf ∈ lw_tbl := am_w2 133 rfl
theorem mx_X3_worthOf : Cond.selects (yX3_worthOf).cls yX3_worthOf yX3_worthOf ∈ lw_tbl := am_w2 134 rfl
theorem mo_X3_sortsOf : am_mo yX3_sortsOf cX3_sortsOf 2 (some .int) 1 := ⟨am_w2 139 rfl, am_w1 3 rfl, by decide, by decide, by decide +kernel, by decide⟩
theorem ms_X3_sortsOf : Cond.instanceMethod yX3_sortsOf ∈ lw_tbl := am_w2 137 rfl
theorem mx_X3_sortsOf : Cond.selects (yX3_sortsOf).cls yX3_sortsOf yX3_sortsOf ∈ lw_tbl := am_w2 138 rfl
theorem mo_X3_allTerms : am_mo yX3_allTerms cX3_allTerms 3 (some .int) 0 := ⟨am_w2 121 rfl, am_w1 3 rfl, by decide, by decide, by decide +kernel, by decide⟩
theorem ms_X3_allTerms : Cond.instanceMethod yX3_allTerms ∈ lw_tbl := am_w2 119 rfl
theorem mx_X3_allTerms : Cond.selects (yX3_allTerms).cls yX3_allTerms yX3_allTerms ∈ lw_tbl := am_w2 120 rfl
theorem mo_X3_firstThatCounts : am_mo yX3_firstThatCounts cX3_firstThatCounts 2 (some .int) 1 := ⟨am_w2 113 rfl, am_w1 3 rfl, by decide, by decide, by decide +kernel, by decide⟩
theorem ms_X3_firstThatCounts : Cond.instanceMethod yX3_firstThatCounts ∈ lw_tbl := am_w2 111 rfl
theorem mx_X3_firstThatCounts : Cond.selects (yX3_firstThatCounts).cls yX3_firstThatCounts yX3_firstThatCounts ∈ lw_tbl := am_w2 112 rfl
theorem mo_X4_close : am_mo yX4_close cX4_close 1 none 0 := ⟨am_w2 97 rfl, am_w1 10 rfl, by decide, by decide, by decide +kernel, by decide⟩
theorem ms_X4_close : Cond.instanceMethod yX4_close ∈ lw_tbl := am_w2 95 rfl
theorem mx_X4_close : Cond.selects (yX4_close).cls yX4_close yX4_close ∈ lw_tbl := am_w2 96 rfl
theorem mo_X4_open : am_mo yX4_open cX4_open 3 none 2 := ⟨am_w3 159 rfl, am_w1 10 rfl, by decide, by decide, by decide +kernel, by decide⟩
theorem ms_X4_open : Cond.instanceMethod yX4_open ∈ lw_tbl := am_w3 157 rfl
theorem mx_X4_open : Cond.selects (yX4_open).cls yX4_open yX4_open ∈ lw_tbl := am_w3 158 rfl
theorem mo_X4_hasRoom : am_mo yX4_hasRoom cX4_hasRoom 1 (some .boolean) 0 := ⟨am_w3 168 rfl, am_w1 10 rfl, by decide, by decide, by decide +kernel, by decide⟩
theorem ms_X4_hasRoom : Cond.instanceMethod yX4_hasRoom ∈ lw_tbl := am_w3 166 rfl
theorem mx_X4_hasRoom : Cond.selects (yX4_hasRoom).cls yX4_hasRoom yX4_hasRoom ∈ lw_tbl := am_w3 167 rfl
theorem mo_X4_write : am_mo yX4_write cX4_write 2 none 1 := ⟨am_w3 172 rfl, am_w1 10 rfl, by decide, by decide, by decide +kernel, by decide⟩
theorem ms_X4_write : Cond.instanceMethod yX4_write ∈ lw_tbl := am_w3 170 rfl
theorem mx_X4_write : Cond.selects (yX4_write).cls yX4_write yX4_write ∈ lw_tbl := am_w3 171 rfl
theorem mo_X4_walk : am_mo yX4_walk cX4_walk 2 none 1 := ⟨am_w3 180 rfl, am_w1 10 rfl, by decide, by decide, by decide +kernel, by decide⟩
theorem ms_X4_walk : Cond.instanceMethod yX4_walk ∈ lw_tbl := am_w3 178 rfl
theorem mx_X4_walk : Cond.selects (yX4_walk).cls yX4_walk yX4_walk ∈ lw_tbl := am_w3 179 rfl
theorem mo_X4_reckon : am_mo yX4_reckon cX4_reckon 2 none 1 := ⟨am_w3 184 rfl, am_w1 10 rfl, by decide, by decide, by decide +kernel, by decide⟩
theorem ms_X4_reckon : Cond.instanceMethod yX4_reckon ∈ lw_tbl := am_w3 183 rfl
theorem mx_X4_reckon : Cond.selects (yX4_reckon).cls yX4_reckon yX4_reckon ∈ lw_tbl := am_wp (q := (yX4_reckon, 7)) 11 rfl
theorem mo_X4_walkFrom : am_mo yX4_walkFrom cX4_walkFrom 7 none 2 := ⟨am_w3 189 rfl, am_w1 10 rfl, by decide, by decide, by decide +kernel, by decide⟩
theorem ms_X4_walkFrom : Cond.instanceMethod yX4_walkFrom ∈ lw_tbl := am_w3 188 rfl
theorem mx_X4_walkFrom : Cond.selects (yX4_walkFrom).cls yX4_walkFrom yX4_walkFrom ∈ lw_tbl := am_wp (q := (yX4_walkFrom, 7)) 12 rfl
theorem mo_X4_goOn : am_mo yX4_goOn cX4_goOn 5 none 3 := ⟨am_w3 198 rfl, am_w1 10 rfl, by decide, by decide, by decide +kernel, by decide⟩
theorem ms_X4_goOn : Cond.instanceMethod yX4_goOn ∈ lw_tbl := am_w3 197 rfl
theorem mx_X4_goOn : Cond.selects (yX4_goOn).cls yX4_goOn yX4_goOn ∈ lw_tbl := am_wp (q := (yX4_goOn, 7)) 13 rfl
theorem mo_X5_hasRoom : am_mo yX5_hasRoom cX5_hasRoom 1 (some .boolean) 0 := ⟨am_w2 29 rfl, am_w1 2 rfl, by decide, by decide, by decide +kernel, by decide⟩
theorem ms_X5_hasRoom : Cond.instanceMethod yX5_hasRoom ∈ lw_tbl := am_w2 27 rfl
theorem mx_X5_hasRoom : Cond.selects (yX5_hasRoom).cls yX5_hasRoom yX5_hasRoom ∈ lw_tbl := am_w2 28 rfl
theorem mo_X5_write : am_mo yX5_write cX5_write 2 none 1 := ⟨am_w2 33 rfl, am_w1 2 rfl, by decide, by decide, by decide +kernel, by decide⟩
theorem ms_X5_write : Cond.instanceMethod yX5_write ∈ lw_tbl := am_w2 31 rfl
theorem mx_X5_write : Cond.selects (yX5_write).cls yX5_write yX5_write ∈ lw_tbl := am_w2 32 rfl
theorem mo_X5_at : am_mo yX5_at cX5_at 2 (some .int) 1 := ⟨am_w2 49 rfl, am_w1 2 rfl, by decide, by decide, by decide +kernel, by decide⟩
theorem ms_X5_at : Cond.instanceMethod yX5_at ∈ lw_tbl := am_w2 47 rfl
theorem mx_X5_at : Cond.selects (yX5_at).cls yX5_at yX5_at ∈ lw_tbl := am_w2 48 rfl
theorem mo_X5_firstFault : am_mo yX5_firstFault cX5_firstFault 2 (some .int) 0 := ⟨am_w2 45 rfl, am_w1 2 rfl, by decide, by decide, by decide +kernel, by decide⟩
theorem ms_X5_firstFault : Cond.instanceMethod yX5_firstFault ∈ lw_tbl := am_w2 43 rfl
theorem mx_X5_firstFault : Cond.selects (yX5_firstFault).cls yX5_firstFault yX5_firstFault ∈ lw_tbl := am_w2 44 rfl
theorem mo_X5_isLaw : am_mo yX5_isLaw cX5_isLaw 1 (some .boolean) 0 := ⟨am_w2 88 rfl, am_w1 2 rfl, by decide, by decide, by decide +kernel, by decide⟩
theorem ms_X5_isLaw : Cond.instanceMethod yX5_isLaw ∈ lw_tbl := am_w2 86 rfl
theorem mx_X5_isLaw : Cond.selects (yX5_isLaw).cls yX5_isLaw yX5_isLaw ∈ lw_tbl := am_w2 87 rfl
theorem mo_X5_takes : am_mo yX5_takes cX5_takes 3 (some .boolean) 1 := ⟨am_w2 53 rfl, am_w1 2 rfl, by decide, by decide, by decide +kernel, by decide⟩
theorem ms_X5_takes : Cond.instanceMethod yX5_takes ∈ lw_tbl := am_w2 52 rfl
theorem mx_X5_takes : Cond.selects (yX5_takes).cls yX5_takes yX5_takes ∈ lw_tbl := am_wp (q := (yX5_takes, 5)) 0 rfl
theorem mo_X5_takesTerm : am_mo yX5_takesTerm cX5_takesTerm 2 (some .boolean) 1 := ⟨am_w2 57 rfl, am_w1 2 rfl, by decide, by decide, by decide +kernel, by decide⟩
theorem ms_X5_takesTerm : Cond.instanceMethod yX5_takesTerm ∈ lw_tbl := am_w2 56 rfl
theorem mx_X5_takesTerm : Cond.selects (yX5_takesTerm).cls yX5_takesTerm yX5_takesTerm ∈ lw_tbl := am_wp (q := (yX5_takesTerm, 5)) 1 rfl
theorem mo_X5_takesWorth : am_mo yX5_takesWorth cX5_takesWorth 2 (some .boolean) 1 := ⟨am_w2 64 rfl, am_w1 2 rfl, by decide, by decide, by decide +kernel, by decide⟩
theorem ms_X5_takesWorth : Cond.instanceMethod yX5_takesWorth ∈ lw_tbl := am_w2 63 rfl
theorem mx_X5_takesWorth : Cond.selects (yX5_takesWorth).cls yX5_takesWorth yX5_takesWorth ∈ lw_tbl := am_wp (q := (yX5_takesWorth, 5)) 2 rfl
theorem mo_X5_takesColon : am_mo yX5_takesColon cX5_takesColon 2 (some .boolean) 1 := ⟨am_w2 68 rfl, am_w1 2 rfl, by decide, by decide, by decide +kernel, by decide⟩
theorem ms_X5_takesColon : Cond.instanceMethod yX5_takesColon ∈ lw_tbl := am_w2 67 rfl
theorem mx_X5_takesColon : Cond.selects (yX5_takesColon).cls yX5_takesColon yX5_takesColon ∈ lw_tbl := am_wp (q := (yX5_takesColon, 5)) 3 rfl
theorem mo_X5_takesSort : am_mo yX5_takesSort cX5_takesSort 2 (some .boolean) 1 := ⟨am_w2 72 rfl, am_w1 2 rfl, by decide, by decide, by decide +kernel, by decide⟩
theorem ms_X5_takesSort : Cond.instanceMethod yX5_takesSort ∈ lw_tbl := am_w2 71 rfl
theorem mx_X5_takesSort : Cond.selects (yX5_takesSort).cls yX5_takesSort yX5_takesSort ∈ lw_tbl := am_wp (q := (yX5_takesSort, 5)) 4 rfl
theorem mo_X5_takesEndOfDeed : am_mo yX5_takesEndOfDeed cX5_takesEndOfDeed 3 (some .boolean) 1 := ⟨am_w2 76 rfl, am_w1 2 rfl, by decide, by decide, by decide +kernel, by decide⟩
theorem ms_X5_takesEndOfDeed : Cond.instanceMethod yX5_takesEndOfDeed ∈ lw_tbl := am_w2 75 rfl
theorem mx_X5_takesEndOfDeed : Cond.selects (yX5_takesEndOfDeed).cls yX5_takesEndOfDeed yX5_takesEndOfDeed ∈ lw_tbl := am_wp (q := (yX5_takesEndOfDeed, 5)) 5 rfl
theorem mo_X5_takesLapse : am_mo yX5_takesLapse cX5_takesLapse 2 (some .boolean) 1 := ⟨am_w2 80 rfl, am_w1 2 rfl, by decide, by decide, by decide +kernel, by decide⟩
theorem ms_X5_takesLapse : Cond.instanceMethod yX5_takesLapse ∈ lw_tbl := am_w2 79 rfl
theorem mx_X5_takesLapse : Cond.selects (yX5_takesLapse).cls yX5_takesLapse yX5_takesLapse ∈ lw_tbl := am_wp (q := (yX5_takesLapse, 5)) 6 rfl
theorem mo_X6_begin : am_mo yX6_begin cX6_begin 2 none 1 := ⟨am_w2 164 rfl, am_w1 5 rfl, by decide, by decide, by decide +kernel, by decide⟩
theorem ms_X6_begin : Cond.instanceMethod yX6_begin ∈ lw_tbl := am_w2 162 rfl
theorem mx_X6_begin : Cond.selects (yX6_begin).cls yX6_begin yX6_begin ∈ lw_tbl := am_w2 163 rfl
theorem mo_X6_copy : am_mo yX6_copy cX6_copy 2 none 1 := ⟨am_w3 101 rfl, am_w1 5 rfl, by decide, by decide, by decide +kernel, by decide⟩
theorem ms_X6_copy : Cond.instanceMethod yX6_copy ∈ lw_tbl := am_w3 99 rfl
theorem mx_X6_copy : Cond.selects (yX6_copy).cls yX6_copy yX6_copy ∈ lw_tbl := am_w3 100 rfl
theorem mo_X6_told : am_mo yX6_told cX6_told 2 (some .int) 1 := ⟨am_w2 177 rfl, am_w1 5 rfl, by decide, by decide, by decide +kernel, by decide⟩
theorem ms_X6_told : Cond.instanceMethod yX6_told ∈ lw_tbl := am_w2 175 rfl
theorem mx_X6_told : Cond.selects (yX6_told).cls yX6_told yX6_told ∈ lw_tbl := am_w2 176 rfl
theorem mo_X6_enter : am_mo yX6_enter cX6_enter 3 none 2 := ⟨am_w3 51 rfl, am_w1 5 rfl, by decide, by decide, by decide +kernel, by decide⟩
theorem ms_X6_enter : Cond.instanceMethod yX6_enter ∈ lw_tbl := am_w3 49 rfl
theorem mx_X6_enter : Cond.selects (yX6_enter).cls yX6_enter yX6_enter ∈ lw_tbl := am_w3 50 rfl
theorem mo_X6_dropLapsed : am_mo yX6_dropLapsed cX6_dropLapsed 3 none 2 := ⟨am_w2 109 rfl, am_w1 5 rfl, by decide, by decide, by decide +kernel, by decide⟩
theorem ms_X6_dropLapsed : Cond.instanceMethod yX6_dropLapsed ∈ lw_tbl := am_w2 107 rfl
theorem mx_X6_dropLapsed : Cond.selects (yX6_dropLapsed).cls yX6_dropLapsed yX6_dropLapsed ∈ lw_tbl := am_w2 108 rfl
theorem mo_X6_isCovered : am_mo yX6_isCovered cX6_isCovered 5 (some .boolean) 4 := ⟨am_w2 232 rfl, am_w1 5 rfl, by decide, by decide, by decide +kernel, by decide⟩
theorem ms_X6_isCovered : Cond.instanceMethod yX6_isCovered ∈ lw_tbl := am_w2 230 rfl
theorem mx_X6_isCovered : Cond.selects (yX6_isCovered).cls yX6_isCovered yX6_isCovered ∈ lw_tbl := am_w2 231 rfl
theorem mo_X6_isFreeTo : am_mo yX6_isFreeTo cX6_isFreeTo 4 (some .boolean) 2 := ⟨am_w2 225 rfl, am_w1 5 rfl, by decide, by decide, by decide +kernel, by decide⟩
theorem ms_X6_isFreeTo : Cond.instanceMethod yX6_isFreeTo ∈ lw_tbl := am_w2 223 rfl
theorem mx_X6_isFreeTo : Cond.selects (yX6_isFreeTo).cls yX6_isFreeTo yX6_isFreeTo ∈ lw_tbl := am_w2 224 rfl
theorem mo_X6_does : am_mo yX6_does cX6_does 4 none 3 := ⟨am_w3 8 rfl, am_w1 5 rfl, by decide, by decide, by decide +kernel, by decide⟩
theorem ms_X6_does : Cond.instanceMethod yX6_does ∈ lw_tbl := am_w3 6 rfl
theorem mx_X6_does : Cond.selects (yX6_does).cls yX6_does yX6_does ∈ lw_tbl := am_w3 7 rfl
theorem mo_X6_earns : am_mo yX6_earns cX6_earns 4 none 2 := ⟨am_w3 12 rfl, am_w1 5 rfl, by decide, by decide, by decide +kernel, by decide⟩
theorem ms_X6_earns : Cond.instanceMethod yX6_earns ∈ lw_tbl := am_w3 11 rfl
theorem mx_X6_earns : Cond.selects (yX6_earns).cls yX6_earns yX6_earns ∈ lw_tbl := am_wp (q := (yX6_earns, 6)) 7 rfl
theorem mo_X6_getsBy : am_mo yX6_getsBy cX6_getsBy 3 (some .int) 2 := ⟨am_w3 24 rfl, am_w1 5 rfl, by decide, by decide, by decide +kernel, by decide⟩
theorem ms_X6_getsBy : Cond.instanceMethod yX6_getsBy ∈ lw_tbl := am_w3 22 rfl
theorem mx_X6_getsBy : Cond.selects (yX6_getsBy).cls yX6_getsBy yX6_getsBy ∈ lw_tbl := am_w3 23 rfl
theorem mo_X6_owesAfter : am_mo yX6_owesAfter cX6_owesAfter 3 (some .int) 2 := ⟨am_w3 34 rfl, am_w1 5 rfl, by decide, by decide, by decide +kernel, by decide⟩
theorem ms_X6_owesAfter : Cond.instanceMethod yX6_owesAfter ∈ lw_tbl := am_w3 32 rfl
theorem mx_X6_owesAfter : Cond.selects (yX6_owesAfter).cls yX6_owesAfter yX6_owesAfter ∈ lw_tbl := am_w3 33 rfl
theorem mo_X7_copy : am_mo yX7_copy cX7_copy 3 none 1 := ⟨am_w3 212 rfl, am_w1 4 rfl, by decide, by decide, by decide +kernel, by decide⟩
theorem ms_X7_copy : Cond.instanceMethod yX7_copy ∈ lw_tbl := am_w3 210 rfl
theorem mx_X7_copy : Cond.selects (yX7_copy).cls yX7_copy yX7_copy ∈ lw_tbl := am_w3 211 rfl
theorem mo_X7_hasRoom : am_mo yX7_hasRoom cX7_hasRoom 1 (some .boolean) 0 := ⟨am_w2 152 rfl, am_w1 4 rfl, by decide, by decide, by decide +kernel, by decide⟩
theorem ms_X7_hasRoom : Cond.instanceMethod yX7_hasRoom ∈ lw_tbl := am_w2 150 rfl
theorem mx_X7_hasRoom : Cond.selects (yX7_hasRoom).cls yX7_hasRoom yX7_hasRoom ∈ lw_tbl := am_w2 151 rfl
theorem mo_X7_isKnown : am_mo yX7_isKnown cX7_isKnown 2 (some .boolean) 1 := ⟨am_w2 172 rfl, am_w1 4 rfl, by decide, by decide, by decide +kernel, by decide⟩
theorem ms_X7_isKnown : Cond.instanceMethod yX7_isKnown ∈ lw_tbl := am_w2 170 rfl
theorem mx_X7_isKnown : Cond.selects (yX7_isKnown).cls yX7_isKnown yX7_isKnown ∈ lw_tbl := am_w2 171 rfl
theorem mo_X7_isHere : am_mo yX7_isHere cX7_isHere 2 (some .boolean) 1 := ⟨am_w2 208 rfl, am_w1 4 rfl, by decide, by decide, by decide +kernel, by decide⟩
theorem ms_X7_isHere : Cond.instanceMethod yX7_isHere ∈ lw_tbl := am_w2 206 rfl
theorem mx_X7_isHere : Cond.selects (yX7_isHere).cls yX7_isHere yX7_isHere ∈ lw_tbl := am_w2 207 rfl
theorem mo_X7_one : am_mo yX7_one cX7_one 2 (some (.object "ServedAhead$Person")) 1 := ⟨am_w2 105 rfl, am_w1 4 rfl, by decide, by decide, by decide +kernel, by decide⟩
theorem ms_X7_one : Cond.instanceMethod yX7_one ∈ lw_tbl := am_w2 103 rfl
theorem mx_X7_one : Cond.selects (yX7_one).cls yX7_one yX7_one ∈ lw_tbl := am_w2 104 rfl
theorem mo_X7_welcome : am_mo yX7_welcome cX7_welcome 3 (some .int) 1 := ⟨am_w2 160 rfl, am_w1 4 rfl, by decide, by decide, by decide +kernel, by decide⟩
theorem ms_X7_welcome : Cond.instanceMethod yX7_welcome ∈ lw_tbl := am_w2 158 rfl
theorem mx_X7_welcome : Cond.selects (yX7_welcome).cls yX7_welcome yX7_welcome ∈ lw_tbl := am_w2 159 rfl
theorem mo_X7_passWeek : am_mo yX7_passWeek cX7_passWeek 3 none 1 := ⟨am_w3 47 rfl, am_w1 4 rfl, by decide, by decide, by decide +kernel, by decide⟩
theorem ms_X7_passWeek : Cond.instanceMethod yX7_passWeek ∈ lw_tbl := am_w3 45 rfl
theorem mx_X7_passWeek : Cond.selects (yX7_passWeek).cls yX7_passWeek yX7_passWeek ∈ lw_tbl := am_w3 46 rfl
theorem mo_X7_dropLapsed : am_mo yX7_dropLapsed cX7_dropLapsed 3 none 1 := ⟨am_w2 101 rfl, am_w1 4 rfl, by decide, by decide, by decide +kernel, by decide⟩
theorem ms_X7_dropLapsed : Cond.instanceMethod yX7_dropLapsed ∈ lw_tbl := am_w2 99 rfl
theorem mx_X7_dropLapsed : Cond.selects (yX7_dropLapsed).cls yX7_dropLapsed yX7_dropLapsed ∈ lw_tbl := am_w2 100 rfl
theorem mo_X7_forgive : am_mo yX7_forgive cX7_forgive 3 (some .int) 0 := ⟨am_w3 85 rfl, am_w1 4 rfl, by decide, by decide, by decide +kernel, by decide⟩
theorem ms_X7_forgive : Cond.instanceMethod yX7_forgive ∈ lw_tbl := am_w3 83 rfl
theorem mx_X7_forgive : Cond.selects (yX7_forgive).cls yX7_forgive yX7_forgive ∈ lw_tbl := am_w3 84 rfl
theorem mo_X7_someoneCovered : am_mo yX7_someoneCovered cX7_someoneCovered 7 (some .boolean) 3 := ⟨am_w3 149 rfl, am_w1 4 rfl, by decide, by decide, by decide +kernel, by decide⟩
theorem ms_X7_someoneCovered : Cond.instanceMethod yX7_someoneCovered ∈ lw_tbl := am_w3 147 rfl
theorem mx_X7_someoneCovered : Cond.selects (yX7_someoneCovered).cls yX7_someoneCovered yX7_someoneCovered ∈ lw_tbl := am_w3 148 rfl
theorem mo_X7_allGone : am_mo yX7_allGone cX7_allGone 3 (some .int) 0 := ⟨am_w4 14 rfl, am_w1 4 rfl, by decide, by decide, by decide +kernel, by decide⟩
theorem ms_X7_allGone : Cond.instanceMethod yX7_allGone ∈ lw_tbl := am_w4 12 rfl
theorem mx_X7_allGone : Cond.selects (yX7_allGone).cls yX7_allGone yX7_allGone ∈ lw_tbl := am_w4 13 rfl
theorem mo_X7_allOwed : am_mo yX7_allOwed cX7_allOwed 3 (some .int) 0 := ⟨am_w3 89 rfl, am_w1 4 rfl, by decide, by decide, by decide +kernel, by decide⟩
theorem ms_X7_allOwed : Cond.instanceMethod yX7_allOwed ∈ lw_tbl := am_w3 87 rfl
theorem mx_X7_allOwed : Cond.selects (yX7_allOwed).cls yX7_allOwed yX7_allOwed ∈ lw_tbl := am_w3 88 rfl
theorem mo_X7_allGot : am_mo yX7_allGot cX7_allGot 3 (some .int) 0 := ⟨am_w3 237 rfl, am_w1 4 rfl, by decide, by decide, by decide +kernel, by decide⟩
theorem ms_X7_allGot : Cond.instanceMethod yX7_allGot ∈ lw_tbl := am_w3 235 rfl
theorem mx_X7_allGot : Cond.selects (yX7_allGot).cls yX7_allGot yX7_allGot ∈ lw_tbl := am_w3 236 rfl
theorem mo_X7_allCredits : am_mo yX7_allCredits cX7_allCredits 3 (some .int) 0 := ⟨am_w4 18 rfl, am_w1 4 rfl, by decide, by decide, by decide +kernel, by decide⟩
theorem ms_X7_allCredits : Cond.instanceMethod yX7_allCredits ∈ lw_tbl := am_w4 16 rfl
theorem mx_X7_allCredits : Cond.selects (yX7_allCredits).cls yX7_allCredits yX7_allCredits ∈ lw_tbl := am_w4 17 rfl
theorem mo_X7_live : am_mo yX7_live cX7_live 6 none 3 := ⟨am_w3 217 rfl, am_w1 4 rfl, by decide, by decide, by decide +kernel, by decide⟩
theorem ms_X7_live : Cond.instanceMethod yX7_live ∈ lw_tbl := am_w3 215 rfl
theorem mx_X7_live : Cond.selects (yX7_live).cls yX7_live yX7_live ∈ lw_tbl := am_w3 216 rfl
theorem mo_X7_actByDraw : am_mo yX7_actByDraw cX7_actByDraw 4 none 2 := ⟨am_w3 221 rfl, am_w1 4 rfl, by decide, by decide, by decide +kernel, by decide⟩
theorem ms_X7_actByDraw : Cond.instanceMethod yX7_actByDraw ∈ lw_tbl := am_w3 220 rfl
theorem mx_X7_actByDraw : Cond.selects (yX7_actByDraw).cls yX7_actByDraw yX7_actByDraw ∈ lw_tbl := am_wp (q := (yX7_actByDraw, 5)) 14 rfl
theorem mo_X7_drawn : am_mo yX7_drawn cX7_drawn 1 (some .int) 0 := ⟨am_w3 225 rfl, am_w1 4 rfl, by decide, by decide, by decide +kernel, by decide⟩
theorem ms_X7_drawn : Cond.instanceMethod yX7_drawn ∈ lw_tbl := am_w3 224 rfl
theorem mx_X7_drawn : Cond.selects (yX7_drawn).cls yX7_drawn yX7_drawn ∈ lw_tbl := am_wp (q := (yX7_drawn, 5)) 15 rfl
theorem mo_X8_letter : am_mo yX8_letter cX8_letter 2 (some .int) 1 := ⟨am_w2 25 rfl, am_w1 1 rfl, by decide, by decide, by decide +kernel, by decide⟩
theorem ms_X8_letter : Cond.instanceMethod yX8_letter ∈ lw_tbl := am_w2 23 rfl
theorem mx_X8_letter : Cond.selects (yX8_letter).cls yX8_letter yX8_letter ∈ lw_tbl := am_w2 24 rfl
theorem mo_X8_blank : am_mo yX8_blank cX8_blank 2 (some .int) 0 := ⟨am_w2 37 rfl, am_w1 1 rfl, by decide, by decide, by decide +kernel, by decide⟩
theorem ms_X8_blank : Cond.instanceMethod yX8_blank ∈ lw_tbl := am_w2 35 rfl
theorem mx_X8_blank : Cond.selects (yX8_blank).cls yX8_blank yX8_blank ∈ lw_tbl := am_w2 36 rfl
theorem mo_X8_fault : am_mo yX8_fault cX8_fault 1 (some .int) 0 := ⟨am_w2 41 rfl, am_w1 1 rfl, by decide, by decide, by decide +kernel, by decide⟩
theorem ms_X8_fault : Cond.instanceMethod yX8_fault ∈ lw_tbl := am_w2 39 rfl
theorem mx_X8_fault : Cond.selects (yX8_fault).cls yX8_fault yX8_fault ∈ lw_tbl := am_w2 40 rfl
theorem mo_X8_law : am_mo yX8_law cX8_law 1 (some .int) 0 := ⟨am_w2 84 rfl, am_w1 1 rfl, by decide, by decide, by decide +kernel, by decide⟩
theorem ms_X8_law : Cond.instanceMethod yX8_law ∈ lw_tbl := am_w2 82 rfl
theorem mx_X8_law : Cond.selects (yX8_law).cls yX8_law yX8_law ∈ lw_tbl := am_w2 83 rfl
theorem mo_X8_deed : am_mo yX8_deed cX8_deed 3 (some .int) 2 := ⟨am_w2 125 rfl, am_w1 1 rfl, by decide, by decide, by decide +kernel, by decide⟩
theorem ms_X8_deed : Cond.instanceMethod yX8_deed ∈ lw_tbl := am_w2 123 rfl
theorem mx_X8_deed : Cond.selects (yX8_deed).cls yX8_deed yX8_deed ∈ lw_tbl := am_w2 124 rfl
theorem mo_X8_person : am_mo yX8_person cX8_person 2 (some .int) 1 := ⟨am_w2 143 rfl, am_w1 1 rfl, by decide, by decide, by decide +kernel, by decide⟩
theorem ms_X8_person : Cond.instanceMethod yX8_person ∈ lw_tbl := am_w2 141 rfl
theorem mx_X8_person : Cond.selects (yX8_person).cls yX8_person yX8_person ∈ lw_tbl := am_w2 142 rfl
theorem mo_X8_about : am_mo yX8_about cX8_about 3 (some .int) 2 := ⟨am_w2 168 rfl, am_w1 1 rfl, by decide, by decide, by decide +kernel, by decide⟩
theorem ms_X8_about : Cond.instanceMethod yX8_about ∈ lw_tbl := am_w2 166 rfl
theorem mx_X8_about : Cond.selects (yX8_about).cls yX8_about yX8_about ∈ lw_tbl := am_w2 167 rfl
theorem mo_X8_as : am_mo yX8_as cX8_as 3 (some .int) 2 := ⟨am_w2 192 rfl, am_w1 1 rfl, by decide, by decide, by decide +kernel, by decide⟩
theorem ms_X8_as : Cond.instanceMethod yX8_as ∈ lw_tbl := am_w2 190 rfl
theorem mx_X8_as : Cond.selects (yX8_as).cls yX8_as yX8_as ∈ lw_tbl := am_w2 191 rfl
theorem mo_X8_may : am_mo yX8_may cX8_may 3 (some .int) 2 := ⟨am_w2 204 rfl, am_w1 1 rfl, by decide, by decide, by decide +kernel, by decide⟩
theorem ms_X8_may : Cond.instanceMethod yX8_may ∈ lw_tbl := am_w2 202 rfl
theorem mx_X8_may : Cond.selects (yX8_may).cls yX8_may yX8_may ∈ lw_tbl := am_w2 203 rfl
theorem mo_X8_act : am_mo yX8_act cX8_act 4 (some .int) 2 := ⟨am_w3 4 rfl, am_w1 1 rfl, by decide, by decide, by decide +kernel, by decide⟩
theorem ms_X8_act : Cond.instanceMethod yX8_act ∈ lw_tbl := am_w3 2 rfl
theorem mx_X8_act : Cond.selects (yX8_act).cls yX8_act yX8_act ∈ lw_tbl := am_w3 3 rfl
theorem mo_X8_week : am_mo yX8_week cX8_week 1 (some .int) 0 := ⟨am_w3 43 rfl, am_w1 1 rfl, by decide, by decide, by decide +kernel, by decide⟩
theorem ms_X8_week : Cond.instanceMethod yX8_week ∈ lw_tbl := am_w3 41 rfl
theorem mx_X8_week : Cond.selects (yX8_week).cls yX8_week yX8_week ∈ lw_tbl := am_w3 42 rfl
theorem mo_X8_sell : am_mo yX8_sell cX8_sell 7 (some .int) 3 := ⟨am_w3 56 rfl, am_w1 1 rfl, by decide, by decide, by decide +kernel, by decide⟩
theorem ms_X8_sell : Cond.instanceMethod yX8_sell ∈ lw_tbl := am_w3 54 rfl
theorem mx_X8_sell : Cond.selects (yX8_sell).cls yX8_sell yX8_sell ∈ lw_tbl := am_w3 55 rfl
theorem mo_X8_leave : am_mo yX8_leave cX8_leave 4 (some .int) 2 := ⟨am_w3 71 rfl, am_w1 1 rfl, by decide, by decide, by decide +kernel, by decide⟩
theorem ms_X8_leave : Cond.instanceMethod yX8_leave ∈ lw_tbl := am_w3 69 rfl
theorem mx_X8_leave : Cond.selects (yX8_leave).cls yX8_leave yX8_leave ∈ lw_tbl := am_w3 70 rfl
theorem mo_X8_amnesty : am_mo yX8_amnesty cX8_amnesty 1 (some .int) 0 := ⟨am_w3 81 rfl, am_w1 1 rfl, by decide, by decide, by decide +kernel, by decide⟩
theorem ms_X8_amnesty : Cond.instanceMethod yX8_amnesty ∈ lw_tbl := am_w3 79 rfl
theorem mx_X8_amnesty : Cond.selects (yX8_amnesty).cls yX8_amnesty yX8_amnesty ∈ lw_tbl := am_w3 80 rfl
theorem mo_X8_gain : am_mo yX8_gain cX8_gain 4 (some .int) 3 := ⟨am_w3 93 rfl, am_w1 1 rfl, by decide, by decide, by decide +kernel, by decide⟩
theorem ms_X8_gain : Cond.instanceMethod yX8_gain ∈ lw_tbl := am_w3 91 rfl
theorem mx_X8_gain : Cond.selects (yX8_gain).cls yX8_gain yX8_gain ∈ lw_tbl := am_w3 92 rfl
theorem mo_X8_soon : am_mo yX8_soon cX8_soon 6 (some .int) 2 := ⟨am_w3 134 rfl, am_w1 1 rfl, by decide, by decide, by decide +kernel, by decide⟩
theorem ms_X8_soon : Cond.instanceMethod yX8_soon ∈ lw_tbl := am_w3 132 rfl
theorem mx_X8_soon : Cond.selects (yX8_soon).cls yX8_soon yX8_soon ∈ lw_tbl := am_w3 133 rfl
theorem mo_X8_kept : am_mo yX8_kept cX8_kept 3 (some .int) 1 := ⟨am_w3 145 rfl, am_w1 1 rfl, by decide, by decide, by decide +kernel, by decide⟩
theorem ms_X8_kept : Cond.instanceMethod yX8_kept ∈ lw_tbl := am_w3 143 rfl
theorem mx_X8_kept : Cond.selects (yX8_kept).cls yX8_kept yX8_kept ∈ lw_tbl := am_w3 144 rfl
theorem mo_X8_book : am_mo yX8_book cX8_book 3 (some .int) 1 := ⟨am_w3 155 rfl, am_w1 1 rfl, by decide, by decide, by decide +kernel, by decide⟩
theorem ms_X8_book : Cond.instanceMethod yX8_book ∈ lw_tbl := am_w3 153 rfl
theorem mx_X8_book : Cond.selects (yX8_book).cls yX8_book yX8_book ∈ lw_tbl := am_w3 154 rfl
theorem mo_X8_next : am_mo yX8_next cX8_next 2 (some .int) 1 := ⟨am_w3 164 rfl, am_w1 1 rfl, by decide, by decide, by decide +kernel, by decide⟩
theorem ms_X8_next : Cond.instanceMethod yX8_next ∈ lw_tbl := am_w3 162 rfl
theorem mx_X8_next : Cond.selects (yX8_next).cls yX8_next yX8_next ∈ lw_tbl := am_w3 163 rfl
theorem mo_X8_ways : am_mo yX8_ways cX8_ways 1 (some .int) 0 := ⟨am_w3 176 rfl, am_w1 1 rfl, by decide, by decide, by decide +kernel, by decide⟩
theorem ms_X8_ways : Cond.instanceMethod yX8_ways ∈ lw_tbl := am_w3 174 rfl
theorem mx_X8_ways : Cond.selects (yX8_ways).cls yX8_ways yX8_ways ∈ lw_tbl := am_w3 175 rfl
theorem mo_X8_owed : am_mo yX8_owed cX8_owed 1 (some .int) 0 := ⟨am_w3 204 rfl, am_w1 1 rfl, by decide, by decide, by decide +kernel, by decide⟩
theorem ms_X8_owed : Cond.instanceMethod yX8_owed ∈ lw_tbl := am_w3 202 rfl
theorem mx_X8_owed : Cond.selects (yX8_owed).cls yX8_owed yX8_owed ∈ lw_tbl := am_w3 203 rfl
theorem mo_X8_years : am_mo yX8_years cX8_years 4 (some .int) 3 := ⟨am_w3 208 rfl, am_w1 1 rfl, by decide, by decide, by decide +kernel, by decide⟩
theorem ms_X8_years : Cond.instanceMethod yX8_years ∈ lw_tbl := am_w3 206 rfl
theorem mx_X8_years : Cond.selects (yX8_years).cls yX8_years yX8_years ∈ lw_tbl := am_w3 207 rfl
theorem mo_X8_image : am_mo yX8_image cX8_image 1 (some .int) 0 := ⟨am_w4 2 rfl, am_w1 1 rfl, by decide, by decide, by decide +kernel, by decide⟩
theorem ms_X8_image : Cond.instanceMethod yX8_image ∈ lw_tbl := am_w4 0 rfl
theorem mx_X8_image : Cond.selects (yX8_image).cls yX8_image yX8_image ∈ lw_tbl := am_w4 1 rfl
theorem mo_X8_restore : am_mo yX8_restore cX8_restore 1 (some .int) 0 := ⟨am_w4 6 rfl, am_w1 1 rfl, by decide, by decide, by decide +kernel, by decide⟩
theorem ms_X8_restore : Cond.instanceMethod yX8_restore ∈ lw_tbl := am_w4 4 rfl
theorem mx_X8_restore : Cond.selects (yX8_restore).cls yX8_restore yX8_restore ∈ lw_tbl := am_w4 5 rfl
theorem mo_X8_count : am_mo yX8_count cX8_count 2 (some .int) 1 := ⟨am_w4 10 rfl, am_w1 1 rfl, by decide, by decide, by decide +kernel, by decide⟩
theorem ms_X8_count : Cond.instanceMethod yX8_count ∈ lw_tbl := am_w4 8 rfl
theorem mx_X8_count : Cond.selects (yX8_count).cls yX8_count yX8_count ∈ lw_tbl := am_w4 9 rfl
theorem mo_X8_digest : am_mo yX8_digest cX8_digest 4 (some .long) 0 := ⟨am_w4 22 rfl, am_w1 1 rfl, by decide, by decide, by decide +kernel, by decide⟩
theorem ms_X8_digest : Cond.instanceMethod yX8_digest ∈ lw_tbl := am_w4 20 rfl
theorem mx_X8_digest : Cond.selects (yX8_digest).cls yX8_digest yX8_digest ∈ lw_tbl := am_w4 21 rfl
theorem mo_X8_withDeed : am_mo yX8_withDeed cX8_withDeed 7 (some .long) 2 := ⟨am_w4 27 rfl, am_w1 1 rfl, by decide, by decide, by decide +kernel, by decide⟩
theorem ms_X8_withDeed : Cond.instanceMethod yX8_withDeed ∈ lw_tbl := am_w4 26 rfl
theorem mx_X8_withDeed : Cond.selects (yX8_withDeed).cls yX8_withDeed yX8_withDeed ∈ lw_tbl := am_wp (q := (yX8_withDeed, 12)) 16 rfl
theorem mo_X8_withPerson : am_mo yX8_withPerson cX8_withPerson 7 (some .long) 2 := ⟨am_w4 34 rfl, am_w1 1 rfl, by decide, by decide, by decide +kernel, by decide⟩
theorem ms_X8_withPerson : Cond.instanceMethod yX8_withPerson ∈ lw_tbl := am_w4 33 rfl
theorem mx_X8_withPerson : Cond.selects (yX8_withPerson).cls yX8_withPerson yX8_withPerson ∈ lw_tbl := am_wp (q := (yX8_withPerson, 12)) 17 rfl
theorem mo_X8_weeksOfServing : am_mo yX8_weeksOfServing cX8_weeksOfServing 6 (some .int) 3 := ⟨am_w3 138 rfl, am_w1 1 rfl, by decide, by decide, by decide +kernel, by decide⟩
theorem ms_X8_weeksOfServing : Cond.instanceMethod yX8_weeksOfServing ∈ lw_tbl := am_w3 137 rfl
theorem mx_X8_weeksOfServing : Cond.selects (yX8_weeksOfServing).cls yX8_weeksOfServing yX8_weeksOfServing ∈ lw_tbl := am_wp (q := (yX8_weeksOfServing, 12)) 10 rfl
theorem mo_X8_arePair : am_mo yX8_arePair cX8_arePair 3 (some .boolean) 2 := ⟨am_w3 60 rfl, am_w1 1 rfl, by decide, by decide, by decide +kernel, by decide⟩
theorem ms_X8_arePair : Cond.instanceMethod yX8_arePair ∈ lw_tbl := am_w3 59 rfl
theorem mx_X8_arePair : Cond.selects (yX8_arePair).cls yX8_arePair yX8_arePair ∈ lw_tbl := am_wp (q := (yX8_arePair, 12)) 8 rfl
theorem mo_X8_isDeed : am_mo yX8_isDeed cX8_isDeed 1 (some .boolean) 1 := ⟨am_w2 60 rfl, am_w1 1 rfl, by decide, by decide, by decide +kernel, by decide⟩
theorem ms_X8_isDeed : Cond.static yX8_isDeed ∈ lw_tbl := am_w2 59 rfl
theorem mo_X8_isServing : am_mo yX8_isServing cX8_isServing 1 (some .boolean) 1 := ⟨am_w2 215 rfl, am_w1 1 rfl, by decide, by decide, by decide +kernel, by decide⟩
theorem ms_X8_isServing : Cond.static yX8_isServing ∈ lw_tbl := am_w2 214 rfl
theorem mo_X8_isCoveredDeed : am_mo yX8_isCoveredDeed cX8_isCoveredDeed 1 (some .boolean) 1 := ⟨am_w2 218 rfl, am_w1 1 rfl, by decide, by decide, by decide +kernel, by decide⟩
theorem ms_X8_isCoveredDeed : Cond.static yX8_isCoveredDeed ∈ lw_tbl := am_w2 217 rfl
theorem mo_X8_isBareDeed : am_mo yX8_isBareDeed cX8_isBareDeed 1 (some .boolean) 1 := ⟨am_w2 221 rfl, am_w1 1 rfl, by decide, by decide, by decide +kernel, by decide⟩
theorem ms_X8_isBareDeed : Cond.static yX8_isBareDeed ∈ lw_tbl := am_w2 220 rfl
theorem mo_X8_isAct : am_mo yX8_isAct cX8_isAct 1 (some .boolean) 1 := ⟨am_w2 212 rfl, am_w1 1 rfl, by decide, by decide, by decide +kernel, by decide⟩
theorem ms_X8_isAct : Cond.static yX8_isAct ∈ lw_tbl := am_w2 211 rfl
theorem mo_X8_actAt : am_mo yX8_actAt cX8_actAt 1 (some .int) 1 := ⟨am_w3 126 rfl, am_w1 1 rfl, by decide, by decide, by decide +kernel, by decide⟩
theorem ms_X8_actAt : Cond.static yX8_actAt ∈ lw_tbl := am_w3 125 rfl
theorem mo_X9_within : am_mo yX9_within cX9_within 3 (some .boolean) 3 := ⟨am_w4 236 rfl, am_w1 11 rfl, by decide, by decide, by decide +kernel, by decide⟩
theorem ms_X9_within : Cond.static yX9_within ∈ lw_tbl := am_w4 235 rfl
theorem mo_X9_has : am_mo yX9_has cX9_has 2 (some .boolean) 2 := ⟨am_w5 19 rfl, am_w1 11 rfl, by decide, by decide, by decide +kernel, by decide⟩
theorem ms_X9_has : Cond.static yX9_has ∈ lw_tbl := am_w5 18 rfl
theorem mo_X9_letter : am_mo yX9_letter cX9_letter 2 (some .int) 1 := ⟨am_w4 233 rfl, am_w1 11 rfl, by decide, by decide, by decide +kernel, by decide⟩
theorem ms_X9_letter : Cond.instanceMethod yX9_letter ∈ lw_tbl := am_w4 231 rfl
theorem mx_X9_letter : Cond.selects (yX9_letter).cls yX9_letter yX9_letter ∈ lw_tbl := am_w4 232 rfl
theorem mo_X9_blank : am_mo yX9_blank cX9_blank 2 (some .int) 0 := ⟨am_w5 0 rfl, am_w1 11 rfl, by decide, by decide, by decide +kernel, by decide⟩
theorem ms_X9_blank : Cond.instanceMethod yX9_blank ∈ lw_tbl := am_w4 238 rfl
theorem mx_X9_blank : Cond.selects (yX9_blank).cls yX9_blank yX9_blank ∈ lw_tbl := am_w4 239 rfl
theorem mo_X9_nextState : am_mo yX9_nextState cX9_nextState 4 (some .int) 2 := ⟨am_w5 12 rfl, am_w1 11 rfl, by decide, by decide, by decide +kernel, by decide⟩
theorem ms_X9_nextState : Cond.instanceMethod yX9_nextState ∈ lw_tbl := am_w5 11 rfl
theorem mx_X9_nextState : Cond.selects (yX9_nextState).cls yX9_nextState yX9_nextState ∈ lw_tbl := am_wp (q := (yX9_nextState, 61)) 19 rfl
theorem mo_X9_sortState : am_mo yX9_sortState cX9_sortState 4 (some .int) 3 := ⟨am_w5 16 rfl, am_w1 11 rfl, by decide, by decide, by decide +kernel, by decide⟩
theorem ms_X9_sortState : Cond.instanceMethod yX9_sortState ∈ lw_tbl := am_w5 15 rfl
theorem mx_X9_sortState : Cond.selects (yX9_sortState).cls yX9_sortState yX9_sortState ∈ lw_tbl := am_wp (q := (yX9_sortState, 61)) 20 rfl
theorem mo_X9_readLaw : am_mo yX9_readLaw cX9_readLaw 5 none 0 := ⟨am_w5 8 rfl, am_w1 11 rfl, by decide, by decide, by decide +kernel, by decide⟩
theorem ms_X9_readLaw : Cond.instanceMethod yX9_readLaw ∈ lw_tbl := am_w5 7 rfl
theorem mx_X9_readLaw : Cond.selects (yX9_readLaw).cls yX9_readLaw yX9_readLaw ∈ lw_tbl := am_wp (q := (yX9_readLaw, 61)) 18 rfl
theorem mo_X9_fault : am_mo yX9_fault cX9_fault 1 (some .int) 0 := ⟨am_w5 4 rfl, am_w1 11 rfl, by decide, by decide, by decide +kernel, by decide⟩
theorem ms_X9_fault : Cond.instanceMethod yX9_fault ∈ lw_tbl := am_w5 2 rfl
theorem mx_X9_fault : Cond.selects (yX9_fault).cls yX9_fault yX9_fault ∈ lw_tbl := am_w5 3 rfl
theorem mo_X9_law : am_mo yX9_law cX9_law 3 (some .int) 0 := ⟨am_w5 23 rfl, am_w1 11 rfl, by decide, by decide, by decide +kernel, by decide⟩
theorem ms_X9_law : Cond.instanceMethod yX9_law ∈ lw_tbl := am_w5 21 rfl
theorem mx_X9_law : Cond.selects (yX9_law).cls yX9_law yX9_law ∈ lw_tbl := am_w5 22 rfl
theorem mo_X9_isDeed : am_mo yX9_isDeed cX9_isDeed 1 (some .boolean) 1 := ⟨am_w5 38 rfl, am_w1 11 rfl, by decide, by decide, by decide +kernel, by decide⟩
theorem ms_X9_isDeed : Cond.static yX9_isDeed ∈ lw_tbl := am_w5 37 rfl
theorem mo_X9_deedNow : am_mo yX9_deedNow cX9_deedNow 3 (some .int) 2 := ⟨am_w5 42 rfl, am_w1 11 rfl, by decide, by decide, by decide +kernel, by decide⟩
theorem ms_X9_deedNow : Cond.instanceMethod yX9_deedNow ∈ lw_tbl := am_w5 41 rfl
theorem mx_X9_deedNow : Cond.selects (yX9_deedNow).cls yX9_deedNow yX9_deedNow ∈ lw_tbl := am_wp (q := (yX9_deedNow, 61)) 23 rfl
theorem mo_X9_deed : am_mo yX9_deed cX9_deed 3 (some .int) 2 := ⟨am_w5 35 rfl, am_w1 11 rfl, by decide, by decide, by decide +kernel, by decide⟩
theorem ms_X9_deed : Cond.instanceMethod yX9_deed ∈ lw_tbl := am_w5 33 rfl
theorem mx_X9_deed : Cond.selects (yX9_deed).cls yX9_deed yX9_deed ∈ lw_tbl := am_w5 34 rfl
theorem mo_X9_lapseOf : am_mo yX9_lapseOf cX9_lapseOf 6 none 2 := ⟨am_w5 31 rfl, am_w1 11 rfl, by decide, by decide, by decide +kernel, by decide⟩
theorem ms_X9_lapseOf : Cond.instanceMethod yX9_lapseOf ∈ lw_tbl := am_w5 30 rfl
theorem mx_X9_lapseOf : Cond.selects (yX9_lapseOf).cls yX9_lapseOf yX9_lapseOf ∈ lw_tbl := am_wp (q := (yX9_lapseOf, 61)) 22 rfl
theorem mo_X9_lapseAll : am_mo yX9_lapseAll cX9_lapseAll 2 none 0 := ⟨am_w5 27 rfl, am_w1 11 rfl, by decide, by decide, by decide +kernel, by decide⟩
theorem ms_X9_lapseAll : Cond.instanceMethod yX9_lapseAll ∈ lw_tbl := am_w5 26 rfl
theorem mx_X9_lapseAll : Cond.selects (yX9_lapseAll).cls yX9_lapseAll yX9_lapseAll ∈ lw_tbl := am_wp (q := (yX9_lapseAll, 61)) 21 rfl
theorem mo_X9_give : am_mo yX9_give cX9_give 4 (some .boolean) 2 := ⟨am_w5 116 rfl, am_w1 11 rfl, by decide, by decide, by decide +kernel, by decide⟩
theorem ms_X9_give : Cond.instanceMethod yX9_give ∈ lw_tbl := am_w5 115 rfl
theorem mx_X9_give : Cond.selects (yX9_give).cls yX9_give yX9_give ∈ lw_tbl := am_wp (q := (yX9_give, 61)) 35 rfl
theorem mo_X9_countOf : am_mo yX9_countOf cX9_countOf 5 (some .int) 2 := ⟨am_w5 62 rfl, am_w1 11 rfl, by decide, by decide, by decide +kernel, by decide⟩
theorem ms_X9_countOf : Cond.instanceMethod yX9_countOf ∈ lw_tbl := am_w5 61 rfl
theorem mx_X9_countOf : Cond.selects (yX9_countOf).cls yX9_countOf yX9_countOf ∈ lw_tbl := am_wp (q := (yX9_countOf, 61)) 26 rfl
theorem mo_X9_take : am_mo yX9_take cX9_take 9 (some .int) 3 := ⟨am_w5 108 rfl, am_w1 11 rfl, by decide, by decide, by decide +kernel, by decide⟩
theorem ms_X9_take : Cond.instanceMethod yX9_take ∈ lw_tbl := am_w5 107 rfl
theorem mx_X9_take : Cond.selects (yX9_take).cls yX9_take yX9_take ∈ lw_tbl := am_wp (q := (yX9_take, 61)) 33 rfl
theorem mo_X9_isThere : am_mo yX9_isThere cX9_isThere 2 (some .boolean) 1 := ⟨am_w5 54 rfl, am_w1 11 rfl, by decide, by decide, by decide +kernel, by decide⟩
theorem ms_X9_isThere : Cond.instanceMethod yX9_isThere ∈ lw_tbl := am_w5 53 rfl
theorem mx_X9_isThere : Cond.selects (yX9_isThere).cls yX9_isThere yX9_isThere ∈ lw_tbl := am_wp (q := (yX9_isThere, 61)) 24 rfl
theorem mo_X9_isPerson : am_mo yX9_isPerson cX9_isPerson 2 (some .boolean) 1 := ⟨am_w5 74 rfl, am_w1 11 rfl, by decide, by decide, by decide +kernel, by decide⟩
theorem ms_X9_isPerson : Cond.instanceMethod yX9_isPerson ∈ lw_tbl := am_w5 73 rfl
theorem mx_X9_isPerson : Cond.selects (yX9_isPerson).cls yX9_isPerson yX9_isPerson ∈ lw_tbl := am_wp (q := (yX9_isPerson, 61)) 27 rfl
theorem mo_X9_person : am_mo yX9_person cX9_person 2 (some .int) 1 := ⟨am_w5 46 rfl, am_w1 11 rfl, by decide, by decide, by decide +kernel, by decide⟩
theorem ms_X9_person : Cond.instanceMethod yX9_person ∈ lw_tbl := am_w5 44 rfl
theorem mx_X9_person : Cond.selects (yX9_person).cls yX9_person yX9_person ∈ lw_tbl := am_w5 45 rfl
theorem mo_X9_personNow : am_mo yX9_personNow cX9_personNow 3 (some .int) 2 := ⟨am_w5 58 rfl, am_w1 11 rfl, by decide, by decide, by decide +kernel, by decide⟩
theorem ms_X9_personNow : Cond.instanceMethod yX9_personNow ∈ lw_tbl := am_w5 57 rfl
theorem mx_X9_personNow : Cond.selects (yX9_personNow).cls yX9_personNow yX9_personNow ∈ lw_tbl := am_wp (q := (yX9_personNow, 61)) 25 rfl
theorem mo_X9_about : am_mo yX9_about cX9_about 3 (some .int) 2 := ⟨am_w5 50 rfl, am_w1 11 rfl, by decide, by decide, by decide +kernel, by decide⟩
theorem ms_X9_about : Cond.instanceMethod yX9_about ∈ lw_tbl := am_w5 48 rfl
theorem mx_X9_about : Cond.selects (yX9_about).cls yX9_about yX9_about ∈ lw_tbl := am_w5 49 rfl
theorem mo_X9_as : am_mo yX9_as cX9_as 4 (some .int) 2 := ⟨am_w5 66 rfl, am_w1 11 rfl, by decide, by decide, by decide +kernel, by decide⟩
theorem ms_X9_as : Cond.instanceMethod yX9_as ∈ lw_tbl := am_w5 64 rfl
theorem mx_X9_as : Cond.selects (yX9_as).cls yX9_as yX9_as ∈ lw_tbl := am_w5 65 rfl
theorem mo_X9_isAct : am_mo yX9_isAct cX9_isAct 1 (some .boolean) 1 := ⟨am_w5 77 rfl, am_w1 11 rfl, by decide, by decide, by decide +kernel, by decide⟩
theorem ms_X9_isAct : Cond.static yX9_isAct ∈ lw_tbl := am_w5 76 rfl
theorem mo_X9_needs : am_mo yX9_needs cX9_needs 2 (some .int) 2 := ⟨am_w5 92 rfl, am_w1 11 rfl, by decide, by decide, by decide +kernel, by decide⟩
theorem ms_X9_needs : Cond.static yX9_needs ∈ lw_tbl := am_w5 91 rfl
theorem mo_X9_gets : am_mo yX9_gets cX9_gets 3 (some .int) 2 := ⟨am_w5 104 rfl, am_w1 11 rfl, by decide, by decide, by decide +kernel, by decide⟩
theorem ms_X9_gets : Cond.instanceMethod yX9_gets ∈ lw_tbl := am_w5 103 rfl
theorem mx_X9_gets : Cond.selects (yX9_gets).cls yX9_gets yX9_gets ∈ lw_tbl := am_wp (q := (yX9_gets, 61)) 32 rfl
theorem mo_X9_isCovered : am_mo yX9_isCovered cX9_isCovered 4 (some .boolean) 3 := ⟨am_w5 89 rfl, am_w1 11 rfl, by decide, by decide, by decide +kernel, by decide⟩
theorem ms_X9_isCovered : Cond.instanceMethod yX9_isCovered ∈ lw_tbl := am_w5 88 rfl
theorem mx_X9_isCovered : Cond.selects (yX9_isCovered).cls yX9_isCovered yX9_isCovered ∈ lw_tbl := am_wp (q := (yX9_isCovered, 61)) 30 rfl
theorem mo_X9_mayDo : am_mo yX9_mayDo cX9_mayDo 3 (some .boolean) 2 := ⟨am_w5 85 rfl, am_w1 11 rfl, by decide, by decide, by decide +kernel, by decide⟩
theorem ms_X9_mayDo : Cond.instanceMethod yX9_mayDo ∈ lw_tbl := am_w5 84 rfl
theorem mx_X9_mayDo : Cond.selects (yX9_mayDo).cls yX9_mayDo yX9_mayDo ∈ lw_tbl := am_wp (q := (yX9_mayDo, 61)) 29 rfl
theorem mo_X9_doAct : am_mo yX9_doAct cX9_doAct 4 none 3 := ⟨am_w5 100 rfl, am_w1 11 rfl, by decide, by decide, by decide +kernel, by decide⟩
theorem ms_X9_doAct : Cond.instanceMethod yX9_doAct ∈ lw_tbl := am_w5 99 rfl
theorem mx_X9_doAct : Cond.selects (yX9_doAct).cls yX9_doAct yX9_doAct ∈ lw_tbl := am_wp (q := (yX9_doAct, 61)) 31 rfl
theorem mo_X9_serve : am_mo yX9_serve cX9_serve 4 none 3 := ⟨am_w5 112 rfl, am_w1 11 rfl, by decide, by decide, by decide +kernel, by decide⟩
theorem ms_X9_serve : Cond.instanceMethod yX9_serve ∈ lw_tbl := am_w5 111 rfl
theorem mx_X9_serve : Cond.selects (yX9_serve).cls yX9_serve yX9_serve ∈ lw_tbl := am_wp (q := (yX9_serve, 61)) 34 rfl
theorem mo_X9_mayNow : am_mo yX9_mayNow cX9_mayNow 3 (some .boolean) 2 := ⟨am_w5 81 rfl, am_w1 11 rfl, by decide, by decide, by decide +kernel, by decide⟩
theorem ms_X9_mayNow : Cond.instanceMethod yX9_mayNow ∈ lw_tbl := am_w5 80 rfl
theorem mx_X9_mayNow : Cond.selects (yX9_mayNow).cls yX9_mayNow yX9_mayNow ∈ lw_tbl := am_wp (q := (yX9_mayNow, 61)) 28 rfl
theorem mo_X9_may : am_mo yX9_may cX9_may 3 (some .int) 2 := ⟨am_w5 70 rfl, am_w1 11 rfl, by decide, by decide, by decide +kernel, by decide⟩
theorem ms_X9_may : Cond.instanceMethod yX9_may ∈ lw_tbl := am_w5 68 rfl
theorem mx_X9_may : Cond.selects (yX9_may).cls yX9_may yX9_may ∈ lw_tbl := am_w5 69 rfl
theorem mo_X9_act : am_mo yX9_act cX9_act 3 (some .int) 2 := ⟨am_w5 96 rfl, am_w1 11 rfl, by decide, by decide, by decide +kernel, by decide⟩
theorem ms_X9_act : Cond.instanceMethod yX9_act ∈ lw_tbl := am_w5 94 rfl
theorem mx_X9_act : Cond.selects (yX9_act).cls yX9_act yX9_act ∈ lw_tbl := am_w5 95 rfl
theorem mo_X9_goWeek : am_mo yX9_goWeek cX9_goWeek 2 none 0 := ⟨am_w5 124 rfl, am_w1 11 rfl, by decide, by decide, by decide +kernel, by decide⟩
theorem ms_X9_goWeek : Cond.instanceMethod yX9_goWeek ∈ lw_tbl := am_w5 123 rfl
theorem mx_X9_goWeek : Cond.selects (yX9_goWeek).cls yX9_goWeek yX9_goWeek ∈ lw_tbl := am_wp (q := (yX9_goWeek, 61)) 36 rfl
theorem mo_X9_week : am_mo yX9_week cX9_week 1 (some .int) 0 := ⟨am_w5 120 rfl, am_w1 11 rfl, by decide, by decide, by decide +kernel, by decide⟩
theorem ms_X9_week : Cond.instanceMethod yX9_week ∈ lw_tbl := am_w5 118 rfl
theorem mx_X9_week : Cond.selects (yX9_week).cls yX9_week yX9_week ∈ lw_tbl := am_w5 119 rfl
theorem mo_X9_sell : am_mo yX9_sell cX9_sell 5 (some .int) 3 := ⟨am_w5 128 rfl, am_w1 11 rfl, by decide, by decide, by decide +kernel, by decide⟩
theorem ms_X9_sell : Cond.instanceMethod yX9_sell ∈ lw_tbl := am_w5 126 rfl
theorem mx_X9_sell : Cond.selects (yX9_sell).cls yX9_sell yX9_sell ∈ lw_tbl := am_w5 127 rfl
theorem mo_X9_leave : am_mo yX9_leave cX9_leave 5 (some .int) 2 := ⟨am_w5 132 rfl, am_w1 11 rfl, by decide, by decide, by decide +kernel, by decide⟩
theorem ms_X9_leave : Cond.instanceMethod yX9_leave ∈ lw_tbl := am_w5 130 rfl
theorem mx_X9_leave : Cond.selects (yX9_leave).cls yX9_leave yX9_leave ∈ lw_tbl := am_w5 131 rfl
theorem mo_X9_owesAll : am_mo yX9_owesAll cX9_owesAll 3 (some .int) 0 := ⟨am_w5 140 rfl, am_w1 11 rfl, by decide, by decide, by decide +kernel, by decide⟩
theorem ms_X9_owesAll : Cond.instanceMethod yX9_owesAll ∈ lw_tbl := am_w5 139 rfl
theorem mx_X9_owesAll : Cond.selects (yX9_owesAll).cls yX9_owesAll yX9_owesAll ∈ lw_tbl := am_wp (q := (yX9_owesAll, 61)) 37 rfl
theorem mo_X9_amnesty : am_mo yX9_amnesty cX9_amnesty 3 (some .int) 0 := ⟨am_w5 136 rfl, am_w1 11 rfl, by decide, by decide, by decide +kernel, by decide⟩
theorem ms_X9_amnesty : Cond.instanceMethod yX9_amnesty ∈ lw_tbl := am_w5 134 rfl
theorem mx_X9_amnesty : Cond.selects (yX9_amnesty).cls yX9_amnesty yX9_amnesty ∈ lw_tbl := am_w5 135 rfl
theorem mo_X9_copy : am_mo yX9_copy cX9_copy 4 none 2 := ⟨am_w5 152 rfl, am_w1 11 rfl, by decide, by decide, by decide +kernel, by decide⟩
theorem ms_X9_copy : Cond.instanceMethod yX9_copy ∈ lw_tbl := am_w5 151 rfl
theorem mx_X9_copy : Cond.selects (yX9_copy).cls yX9_copy yX9_copy ∈ lw_tbl := am_wp (q := (yX9_copy, 61)) 39 rfl
theorem mo_X9_keepRow : am_mo yX9_keepRow cX9_keepRow 3 none 1 := ⟨am_w5 156 rfl, am_w1 11 rfl, by decide, by decide, by decide +kernel, by decide⟩
theorem ms_X9_keepRow : Cond.instanceMethod yX9_keepRow ∈ lw_tbl := am_w5 155 rfl
theorem mx_X9_keepRow : Cond.selects (yX9_keepRow).cls yX9_keepRow yX9_keepRow ∈ lw_tbl := am_wp (q := (yX9_keepRow, 61)) 40 rfl
theorem mo_X9_backRow : am_mo yX9_backRow cX9_backRow 3 none 1 := ⟨am_w5 167 rfl, am_w1 11 rfl, by decide, by decide, by decide +kernel, by decide⟩
theorem ms_X9_backRow : Cond.instanceMethod yX9_backRow ∈ lw_tbl := am_w5 166 rfl
theorem mx_X9_backRow : Cond.selects (yX9_backRow).cls yX9_backRow yX9_backRow ∈ lw_tbl := am_wp (q := (yX9_backRow, 61)) 42 rfl
theorem mo_X9_actBy : am_mo yX9_actBy cX9_actBy 2 (some .int) 2 := ⟨am_w5 159 rfl, am_w1 11 rfl, by decide, by decide, by decide +kernel, by decide⟩
theorem ms_X9_actBy : Cond.static yX9_actBy ∈ lw_tbl := am_w5 158 rfl
theorem mo_X9_layGain : am_mo yX9_layGain cX9_layGain 7 none 2 := ⟨am_w5 148 rfl, am_w1 11 rfl, by decide, by decide, by decide +kernel, by decide⟩
theorem ms_X9_layGain : Cond.instanceMethod yX9_layGain ∈ lw_tbl := am_w5 147 rfl
theorem mx_X9_layGain : Cond.selects (yX9_layGain).cls yX9_layGain yX9_layGain ∈ lw_tbl := am_wp (q := (yX9_layGain, 61)) 38 rfl
theorem mo_X9_goRow : am_mo yX9_goRow cX9_goRow 5 (some .boolean) 3 := ⟨am_w5 163 rfl, am_w1 11 rfl, by decide, by decide, by decide +kernel, by decide⟩
theorem ms_X9_goRow : Cond.instanceMethod yX9_goRow ∈ lw_tbl := am_w5 162 rfl
theorem mx_X9_goRow : Cond.selects (yX9_goRow).cls yX9_goRow yX9_goRow ∈ lw_tbl := am_wp (q := (yX9_goRow, 61)) 41 rfl
theorem mo_X9_gain : am_mo yX9_gain cX9_gain 4 (some .int) 3 := ⟨am_w5 144 rfl, am_w1 11 rfl, by decide, by decide, by decide +kernel, by decide⟩
theorem ms_X9_gain : Cond.instanceMethod yX9_gain ∈ lw_tbl := am_w5 142 rfl
theorem mx_X9_gain : Cond.selects (yX9_gain).cls yX9_gain yX9_gain ∈ lw_tbl := am_w5 143 rfl
theorem mo_X9_soonBy : am_mo yX9_soonBy cX9_soonBy 6 (some .int) 3 := ⟨am_w5 183 rfl, am_w1 11 rfl, by decide, by decide, by decide +kernel, by decide⟩
theorem ms_X9_soonBy : Cond.instanceMethod yX9_soonBy ∈ lw_tbl := am_w5 182 rfl
theorem mx_X9_soonBy : Cond.selects (yX9_soonBy).cls yX9_soonBy yX9_soonBy ∈ lw_tbl := am_wp (q := (yX9_soonBy, 61)) 45 rfl
theorem mo_X9_soonNow : am_mo yX9_soonNow cX9_soonNow 6 (some .int) 2 := ⟨am_w5 179 rfl, am_w1 11 rfl, by decide, by decide, by decide +kernel, by decide⟩
theorem ms_X9_soonNow : Cond.instanceMethod yX9_soonNow ∈ lw_tbl := am_w5 178 rfl
theorem mx_X9_soonNow : Cond.selects (yX9_soonNow).cls yX9_soonNow yX9_soonNow ∈ lw_tbl := am_wp (q := (yX9_soonNow, 61)) 44 rfl
theorem mo_X9_soonTold : am_mo yX9_soonTold cX9_soonTold 3 (some .int) 2 := ⟨am_w5 175 rfl, am_w1 11 rfl, by decide, by decide, by decide +kernel, by decide⟩
theorem ms_X9_soonTold : Cond.instanceMethod yX9_soonTold ∈ lw_tbl := am_w5 174 rfl
theorem mx_X9_soonTold : Cond.selects (yX9_soonTold).cls yX9_soonTold yX9_soonTold ∈ lw_tbl := am_wp (q := (yX9_soonTold, 61)) 43 rfl
theorem mo_X9_soon : am_mo yX9_soon cX9_soon 3 (some .int) 2 := ⟨am_w5 171 rfl, am_w1 11 rfl, by decide, by decide, by decide +kernel, by decide⟩
theorem ms_X9_soon : Cond.instanceMethod yX9_soon ∈ lw_tbl := am_w5 169 rfl
theorem mx_X9_soon : Cond.selects (yX9_soon).cls yX9_soon yX9_soon ∈ lw_tbl := am_w5 170 rfl
theorem mo_X9_canAny : am_mo yX9_canAny cX9_canAny 5 (some .boolean) 2 := ⟨am_w5 195 rfl, am_w1 11 rfl, by decide, by decide, by decide +kernel, by decide⟩
theorem ms_X9_canAny : Cond.instanceMethod yX9_canAny ∈ lw_tbl := am_w5 194 rfl
theorem mx_X9_canAny : Cond.selects (yX9_canAny).cls yX9_canAny yX9_canAny ∈ lw_tbl := am_wp (q := (yX9_canAny, 61)) 47 rfl
theorem mo_X9_keptNow : am_mo yX9_keptNow cX9_keptNow 3 (some .int) 1 := ⟨am_w5 191 rfl, am_w1 11 rfl, by decide, by decide, by decide +kernel, by decide⟩
theorem ms_X9_keptNow : Cond.instanceMethod yX9_keptNow ∈ lw_tbl := am_w5 190 rfl
theorem mx_X9_keptNow : Cond.selects (yX9_keptNow).cls yX9_keptNow yX9_keptNow ∈ lw_tbl := am_wp (q := (yX9_keptNow, 61)) 46 rfl
theorem mo_X9_kept : am_mo yX9_kept cX9_kept 2 (some .int) 1 := ⟨am_w5 187 rfl, am_w1 11 rfl, by decide, by decide, by decide +kernel, by decide⟩
theorem ms_X9_kept : Cond.instanceMethod yX9_kept ∈ lw_tbl := am_w5 185 rfl
theorem mx_X9_kept : Cond.selects (yX9_kept).cls yX9_kept yX9_kept ∈ lw_tbl := am_w5 186 rfl
theorem mo_X9_book : am_mo yX9_book cX9_book 4 (some .int) 1 := ⟨am_w5 199 rfl, am_w1 11 rfl, by decide, by decide, by decide +kernel, by decide⟩
theorem ms_X9_book : Cond.instanceMethod yX9_book ∈ lw_tbl := am_w5 197 rfl
theorem mx_X9_book : Cond.selects (yX9_book).cls yX9_book yX9_book ∈ lw_tbl := am_w5 198 rfl
theorem mo_X9_next : am_mo yX9_next cX9_next 2 (some .int) 1 := ⟨am_w5 203 rfl, am_w1 11 rfl, by decide, by decide, by decide +kernel, by decide⟩
theorem ms_X9_next : Cond.instanceMethod yX9_next ∈ lw_tbl := am_w5 201 rfl
theorem mx_X9_next : Cond.selects (yX9_next).cls yX9_next yX9_next ∈ lw_tbl := am_w5 202 rfl
theorem mo_X9_layWays : am_mo yX9_layWays cX9_layWays 2 none 0 := ⟨am_w5 215 rfl, am_w1 11 rfl, by decide, by decide, by decide +kernel, by decide⟩
theorem ms_X9_layWays : Cond.instanceMethod yX9_layWays ∈ lw_tbl := am_w5 214 rfl
theorem mx_X9_layWays : Cond.selects (yX9_layWays).cls yX9_layWays yX9_layWays ∈ lw_tbl := am_wp (q := (yX9_layWays, 61)) 49 rfl
theorem mo_X9_tryRow : am_mo yX9_tryRow cX9_tryRow 3 (some .int) 1 := ⟨am_w5 219 rfl, am_w1 11 rfl, by decide, by decide, by decide +kernel, by decide⟩
theorem ms_X9_tryRow : Cond.instanceMethod yX9_tryRow ∈ lw_tbl := am_w5 218 rfl
theorem mx_X9_tryRow : Cond.selects (yX9_tryRow).cls yX9_tryRow yX9_tryRow ∈ lw_tbl := am_wp (q := (yX9_tryRow, 61)) 50 rfl
theorem mo_X9_mayBook : am_mo yX9_mayBook cX9_mayBook 1 (some .boolean) 0 := ⟨am_w5 211 rfl, am_w1 11 rfl, by decide, by decide, by decide +kernel, by decide⟩
theorem ms_X9_mayBook : Cond.instanceMethod yX9_mayBook ∈ lw_tbl := am_w5 210 rfl
theorem mx_X9_mayBook : Cond.selects (yX9_mayBook).cls yX9_mayBook yX9_mayBook ∈ lw_tbl := am_wp (q := (yX9_mayBook, 61)) 48 rfl
theorem mo_X9_ways : am_mo yX9_ways cX9_ways 1 (some .int) 0 := ⟨am_w5 207 rfl, am_w1 11 rfl, by decide, by decide, by decide +kernel, by decide⟩
theorem ms_X9_ways : Cond.instanceMethod yX9_ways ∈ lw_tbl := am_w5 205 rfl
theorem mx_X9_ways : Cond.selects (yX9_ways).cls yX9_ways yX9_ways ∈ lw_tbl := am_w5 206 rfl
theorem mo_X9_owed : am_mo yX9_owed cX9_owed 1 (some .int) 0 := ⟨am_w5 223 rfl, am_w1 11 rfl, by decide, by decide, by decide +kernel, by decide⟩
theorem ms_X9_owed : Cond.instanceMethod yX9_owed ∈ lw_tbl := am_w5 221 rfl
theorem mx_X9_owed : Cond.selects (yX9_owed).cls yX9_owed yX9_owed ∈ lw_tbl := am_w5 222 rfl
theorem mo_X9_save : am_mo yX9_save cX9_save 2 none 0 := ⟨am_w5 235 rfl, am_w1 11 rfl, by decide, by decide, by decide +kernel, by decide⟩
theorem ms_X9_save : Cond.instanceMethod yX9_save ∈ lw_tbl := am_w5 234 rfl
theorem mx_X9_save : Cond.selects (yX9_save).cls yX9_save yX9_save ∈ lw_tbl := am_wp (q := (yX9_save, 61)) 52 rfl
theorem mo_X9_back : am_mo yX9_back cX9_back 2 none 0 := ⟨am_w6 11 rfl, am_w1 11 rfl, by decide, by decide, by decide +kernel, by decide⟩
theorem ms_X9_back : Cond.instanceMethod yX9_back ∈ lw_tbl := am_w6 10 rfl
theorem mx_X9_back : Cond.selects (yX9_back).cls yX9_back yX9_back ∈ lw_tbl := am_wp (q := (yX9_back, 61)) 55 rfl
theorem mo_X9_draw : am_mo yX9_draw cX9_draw 2 (some .int) 1 := ⟨am_w5 239 rfl, am_w1 11 rfl, by decide, by decide, by decide +kernel, by decide⟩
theorem ms_X9_draw : Cond.instanceMethod yX9_draw ∈ lw_tbl := am_w5 238 rfl
theorem mx_X9_draw : Cond.selects (yX9_draw).cls yX9_draw yX9_draw ∈ lw_tbl := am_wp (q := (yX9_draw, 61)) 53 rfl
theorem mo_X9_gotAll : am_mo yX9_gotAll cX9_gotAll 3 (some .int) 0 := ⟨am_w6 7 rfl, am_w1 11 rfl, by decide, by decide, by decide +kernel, by decide⟩
theorem ms_X9_gotAll : Cond.instanceMethod yX9_gotAll ∈ lw_tbl := am_w6 6 rfl
theorem mx_X9_gotAll : Cond.selects (yX9_gotAll).cls yX9_gotAll yX9_gotAll ∈ lw_tbl := am_wp (q := (yX9_gotAll, 61)) 54 rfl
theorem mo_X9_yearsNow : am_mo yX9_yearsNow cX9_yearsNow 8 (some .int) 3 := ⟨am_w5 231 rfl, am_w1 11 rfl, by decide, by decide, by decide +kernel, by decide⟩
theorem ms_X9_yearsNow : Cond.instanceMethod yX9_yearsNow ∈ lw_tbl := am_w5 230 rfl
theorem mx_X9_yearsNow : Cond.selects (yX9_yearsNow).cls yX9_yearsNow yX9_yearsNow ∈ lw_tbl := am_wp (q := (yX9_yearsNow, 61)) 51 rfl
theorem mo_X9_years : am_mo yX9_years cX9_years 4 (some .int) 3 := ⟨am_w5 227 rfl, am_w1 11 rfl, by decide, by decide, by decide +kernel, by decide⟩
theorem ms_X9_years : Cond.instanceMethod yX9_years ∈ lw_tbl := am_w5 225 rfl
theorem mx_X9_years : Cond.selects (yX9_years).cls yX9_years yX9_years ∈ lw_tbl := am_w5 226 rfl
theorem mo_X9_image : am_mo yX9_image cX9_image 2 (some .int) 0 := ⟨am_w6 15 rfl, am_w1 11 rfl, by decide, by decide, by decide +kernel, by decide⟩
theorem ms_X9_image : Cond.instanceMethod yX9_image ∈ lw_tbl := am_w6 13 rfl
theorem mx_X9_image : Cond.selects (yX9_image).cls yX9_image yX9_image ∈ lw_tbl := am_w6 14 rfl
theorem mo_X9_restore : am_mo yX9_restore cX9_restore 2 (some .int) 0 := ⟨am_w6 19 rfl, am_w1 11 rfl, by decide, by decide, by decide +kernel, by decide⟩
theorem ms_X9_restore : Cond.instanceMethod yX9_restore ∈ lw_tbl := am_w6 17 rfl
theorem mx_X9_restore : Cond.selects (yX9_restore).cls yX9_restore yX9_restore ∈ lw_tbl := am_w6 18 rfl
theorem mo_X9_goneMany : am_mo yX9_goneMany cX9_goneMany 3 (some .int) 0 := ⟨am_w6 31 rfl, am_w1 11 rfl, by decide, by decide, by decide +kernel, by decide⟩
theorem ms_X9_goneMany : Cond.instanceMethod yX9_goneMany ∈ lw_tbl := am_w6 30 rfl
theorem mx_X9_goneMany : Cond.selects (yX9_goneMany).cls yX9_goneMany yX9_goneMany ∈ lw_tbl := am_wp (q := (yX9_goneMany, 61)) 57 rfl
theorem mo_X9_creditsAll : am_mo yX9_creditsAll cX9_creditsAll 3 (some .int) 0 := ⟨am_w6 35 rfl, am_w1 11 rfl, by decide, by decide, by decide +kernel, by decide⟩
theorem ms_X9_creditsAll : Cond.instanceMethod yX9_creditsAll ∈ lw_tbl := am_w6 34 rfl
theorem mx_X9_creditsAll : Cond.selects (yX9_creditsAll).cls yX9_creditsAll yX9_creditsAll ∈ lw_tbl := am_wp (q := (yX9_creditsAll, 61)) 58 rfl
theorem mo_X9_howMany : am_mo yX9_howMany cX9_howMany 2 (some .int) 1 := ⟨am_w6 27 rfl, am_w1 11 rfl, by decide, by decide, by decide +kernel, by decide⟩
theorem ms_X9_howMany : Cond.instanceMethod yX9_howMany ∈ lw_tbl := am_w6 26 rfl
theorem mx_X9_howMany : Cond.selects (yX9_howMany).cls yX9_howMany yX9_howMany ∈ lw_tbl := am_wp (q := (yX9_howMany, 61)) 56 rfl
theorem mo_X9_count : am_mo yX9_count cX9_count 2 (some .int) 1 := ⟨am_w6 23 rfl, am_w1 11 rfl, by decide, by decide, by decide +kernel, by decide⟩
theorem ms_X9_count : Cond.instanceMethod yX9_count ∈ lw_tbl := am_w6 21 rfl
theorem mx_X9_count : Cond.selects (yX9_count).cls yX9_count yX9_count ∈ lw_tbl := am_w6 22 rfl
theorem mo_X9_mix : am_mo yX9_mix cX9_mix 3 none 1 := ⟨am_w6 44 rfl, am_w1 11 rfl, by decide, by decide, by decide +kernel, by decide⟩
theorem ms_X9_mix : Cond.instanceMethod yX9_mix ∈ lw_tbl := am_w6 43 rfl
theorem mx_X9_mix : Cond.selects (yX9_mix).cls yX9_mix yX9_mix ∈ lw_tbl := am_wp (q := (yX9_mix, 61)) 59 rfl
theorem mo_X9_digest : am_mo yX9_digest cX9_digest 3 (some .long) 0 := ⟨am_w6 39 rfl, am_w1 11 rfl, by decide, by decide, by decide +kernel, by decide⟩
theorem ms_X9_digest : Cond.instanceMethod yX9_digest ∈ lw_tbl := am_w6 37 rfl
theorem mx_X9_digest : Cond.selects (yX9_digest).cls yX9_digest yX9_digest ∈ lw_tbl := am_w6 38 rfl
def am_mt : List am_Me := [(yX0_copy, (cX0_copy, (3, none))), (yX0_hasRoom, (cX0_hasRoom, (1, (some .boolean)))), (yX0_give, (cX0_give, (5, none))), (yX0_howMany, (cX0_howMany, (5, (some .int)))), (yX0_oldestWeek, (cX0_oldestWeek, (3, (some .int)))), (yX0_dropOldest, (cX0_dropOldest, (6, none))), (yX0_dropAheadOf, (cX0_dropAheadOf, (4, none))), (yX0_moveTo, (cX0_moveTo, (4, (some .int)))), (yX0_isOf, (cX0_isOf, (2, (some .boolean)))), (yX1_start, (cX1_start, (6, none))), (yX1_tryFrom, (cX1_tryFrom, (7, none))), (yX1_mostStill, (cX1_mostStill, (12, (some .int)))), (yX2_isNumber, (cX2_isNumber, (1, (some .boolean)))), (yX2_numbered, (cX2_numbered, (1, (some (.object "ServedAhead$Kind"))))), (yX2_isA, (cX2_isA, (2, (some .boolean)))), (yX2_needs, (cX2_needs, (2, (some .int)))), (yX2_gets, (cX2_gets, (2, (some .int)))), (yX2_owesFor, (cX2_owesFor, (2, (some .int)))), (yX3_copy, (cX3_copy, (3, none))), (yX3_termOf, (cX3_termOf, (2, (some .int)))), (yX3_worthOf, (cX3_worthOf, (2, (some .int)))), (yX3_sortsOf, (cX3_sortsOf, (2, (some .int)))), (yX3_allTerms, (cX3_allTerms, (3, (some .int)))), (yX3_firstThatCounts, (cX3_firstThatCounts, (2, (some .int)))), (yX4_close, (cX4_close, (1, none))), (yX4_open, (cX4_open, (3, none))), (yX4_hasRoom, (cX4_hasRoom, (1, (some .boolean)))), (yX4_write, (cX4_write, (2, none))), (yX4_walk, (cX4_walk, (2, none))), (yX4_reckon, (cX4_reckon, (2, none))), (yX4_walkFrom, (cX4_walkFrom, (7, none))), (yX4_goOn, (cX4_goOn, (5, none))), (yX5_hasRoom, (cX5_hasRoom, (1, (some .boolean)))), (yX5_write, (cX5_write, (2, none))), (yX5_at, (cX5_at, (2, (some .int)))), (yX5_firstFault, (cX5_firstFault, (2, (some .int)))), (yX5_isLaw, (cX5_isLaw, (1, (some .boolean)))), (yX5_takes, (cX5_takes, (3, (some .boolean)))), (yX5_takesTerm, (cX5_takesTerm, (2, (some .boolean)))), (yX5_takesWorth, (cX5_takesWorth, (2, (some .boolean)))), (yX5_takesColon, (cX5_takesColon, (2, (some .boolean)))), (yX5_takesSort, (cX5_takesSort, (2, (some .boolean)))), (yX5_takesEndOfDeed, (cX5_takesEndOfDeed, (3, (some .boolean)))), (yX5_takesLapse, (cX5_takesLapse, (2, (some .boolean)))), (yX6_begin, (cX6_begin, (2, none))), (yX6_copy, (cX6_copy, (2, none))), (yX6_told, (cX6_told, (2, (some .int)))), (yX6_enter, (cX6_enter, (3, none))), (yX6_dropLapsed, (cX6_dropLapsed, (3, none))), (yX6_isCovered, (cX6_isCovered, (5, (some .boolean)))), (yX6_isFreeTo, (cX6_isFreeTo, (4, (some .boolean)))), (yX6_does, (cX6_does, (4, none))), (yX6_earns, (cX6_earns, (4, none))), (yX6_getsBy, (cX6_getsBy, (3, (some .int)))), (yX6_owesAfter, (cX6_owesAfter, (3, (some .int)))), (yX7_copy, (cX7_copy, (3, none))), (yX7_hasRoom, (cX7_hasRoom, (1, (some .boolean)))), (yX7_isKnown, (cX7_isKnown, (2, (some .boolean)))), (yX7_isHere, (cX7_isHere, (2, (some .boolean)))), (yX7_one, (cX7_one, (2, (some (.object "ServedAhead$Person"))))), (yX7_welcome, (cX7_welcome, (3, (some .int)))), (yX7_passWeek, (cX7_passWeek, (3, none))), (yX7_dropLapsed, (cX7_dropLapsed, (3, none))), (yX7_forgive, (cX7_forgive, (3, (some .int)))), (yX7_someoneCovered, (cX7_someoneCovered, (7, (some .boolean)))), (yX7_allGone, (cX7_allGone, (3, (some .int)))), (yX7_allOwed, (cX7_allOwed, (3, (some .int)))), (yX7_allGot, (cX7_allGot, (3, (some .int)))), (yX7_allCredits, (cX7_allCredits, (3, (some .int)))), (yX7_live, (cX7_live, (6, none))), (yX7_actByDraw, (cX7_actByDraw, (4, none))), (yX7_drawn, (cX7_drawn, (1, (some .int)))), (yX8_letter, (cX8_letter, (2, (some .int)))), (yX8_blank, (cX8_blank, (2, (some .int)))), (yX8_fault, (cX8_fault, (1, (some .int)))), (yX8_law, (cX8_law, (1, (some .int)))), (yX8_deed, (cX8_deed, (3, (some .int)))), (yX8_person, (cX8_person, (2, (some .int)))), (yX8_about, (cX8_about, (3, (some .int)))), (yX8_as, (cX8_as, (3, (some .int)))), (yX8_may, (cX8_may, (3, (some .int)))), (yX8_act, (cX8_act, (4, (some .int)))), (yX8_week, (cX8_week, (1, (some .int)))), (yX8_sell, (cX8_sell, (7, (some .int)))), (yX8_leave, (cX8_leave, (4, (some .int)))), (yX8_amnesty, (cX8_amnesty, (1, (some .int)))), (yX8_gain, (cX8_gain, (4, (some .int)))), (yX8_soon, (cX8_soon, (6, (some .int)))), (yX8_kept, (cX8_kept, (3, (some .int)))), (yX8_book, (cX8_book, (3, (some .int)))), (yX8_next, (cX8_next, (2, (some .int)))), (yX8_ways, (cX8_ways, (1, (some .int)))), (yX8_owed, (cX8_owed, (1, (some .int)))), (yX8_years, (cX8_years, (4, (some .int)))), (yX8_image, (cX8_image, (1, (some .int)))), (yX8_restore, (cX8_restore, (1, (some .int)))), (yX8_count, (cX8_count, (2, (some .int)))), (yX8_digest, (cX8_digest, (4, (some .long)))), (yX8_withDeed, (cX8_withDeed, (7, (some .long)))), (yX8_withPerson, (cX8_withPerson, (7, (some .long)))), (yX8_weeksOfServing, (cX8_weeksOfServing, (6, (some .int)))), (yX8_arePair, (cX8_arePair, (3, (some .boolean)))), (yX8_isDeed, (cX8_isDeed, (1, (some .boolean)))), (yX8_isServing, (cX8_isServing, (1, (some .boolean)))), (yX8_isCoveredDeed, (cX8_isCoveredDeed, (1, (some .boolean)))), (yX8_isBareDeed, (cX8_isBareDeed, (1, (some .boolean)))), (yX8_isAct, (cX8_isAct, (1, (some .boolean)))), (yX8_actAt, (cX8_actAt, (1, (some .int)))), (yX9_within, (cX9_within, (3, (some .boolean)))), (yX9_has, (cX9_has, (2, (some .boolean)))), (yX9_letter, (cX9_letter, (2, (some .int)))), (yX9_blank, (cX9_blank, (2, (some .int)))), (yX9_nextState, (cX9_nextState, (4, (some .int)))), (yX9_sortState, (cX9_sortState, (4, (some .int)))), (yX9_readLaw, (cX9_readLaw, (5, none))), (yX9_fault, (cX9_fault, (1, (some .int)))), (yX9_law, (cX9_law, (3, (some .int)))), (yX9_isDeed, (cX9_isDeed, (1, (some .boolean)))), (yX9_deedNow, (cX9_deedNow, (3, (some .int)))), (yX9_deed, (cX9_deed, (3, (some .int)))), (yX9_lapseOf, (cX9_lapseOf, (6, none))), (yX9_lapseAll, (cX9_lapseAll, (2, none))), (yX9_give, (cX9_give, (4, (some .boolean)))), (yX9_countOf, (cX9_countOf, (5, (some .int)))), (yX9_take, (cX9_take, (9, (some .int)))), (yX9_isThere, (cX9_isThere, (2, (some .boolean)))), (yX9_isPerson, (cX9_isPerson, (2, (some .boolean)))), (yX9_person, (cX9_person, (2, (some .int)))), (yX9_personNow, (cX9_personNow, (3, (some .int)))), (yX9_about, (cX9_about, (3, (some .int)))), (yX9_as, (cX9_as, (4, (some .int)))), (yX9_isAct, (cX9_isAct, (1, (some .boolean)))), (yX9_needs, (cX9_needs, (2, (some .int)))), (yX9_gets, (cX9_gets, (3, (some .int)))), (yX9_isCovered, (cX9_isCovered, (4, (some .boolean)))), (yX9_mayDo, (cX9_mayDo, (3, (some .boolean)))), (yX9_doAct, (cX9_doAct, (4, none))), (yX9_serve, (cX9_serve, (4, none))), (yX9_mayNow, (cX9_mayNow, (3, (some .boolean)))), (yX9_may, (cX9_may, (3, (some .int)))), (yX9_act, (cX9_act, (3, (some .int)))), (yX9_goWeek, (cX9_goWeek, (2, none))), (yX9_week, (cX9_week, (1, (some .int)))), (yX9_sell, (cX9_sell, (5, (some .int)))), (yX9_leave, (cX9_leave, (5, (some .int)))), (yX9_owesAll, (cX9_owesAll, (3, (some .int)))), (yX9_amnesty, (cX9_amnesty, (3, (some .int)))), (yX9_copy, (cX9_copy, (4, none))), (yX9_keepRow, (cX9_keepRow, (3, none))), (yX9_backRow, (cX9_backRow, (3, none))), (yX9_actBy, (cX9_actBy, (2, (some .int)))), (yX9_layGain, (cX9_layGain, (7, none))), (yX9_goRow, (cX9_goRow, (5, (some .boolean)))), (yX9_gain, (cX9_gain, (4, (some .int)))), (yX9_soonBy, (cX9_soonBy, (6, (some .int)))), (yX9_soonNow, (cX9_soonNow, (6, (some .int)))), (yX9_soonTold, (cX9_soonTold, (3, (some .int)))), (yX9_soon, (cX9_soon, (3, (some .int)))), (yX9_canAny, (cX9_canAny, (5, (some .boolean)))), (yX9_keptNow, (cX9_keptNow, (3, (some .int)))), (yX9_kept, (cX9_kept, (2, (some .int)))), (yX9_book, (cX9_book, (4, (some .int)))), (yX9_next, (cX9_next, (2, (some .int)))), (yX9_layWays, (cX9_layWays, (2, none))), (yX9_tryRow, (cX9_tryRow, (3, (some .int)))), (yX9_mayBook, (cX9_mayBook, (1, (some .boolean)))), (yX9_ways, (cX9_ways, (1, (some .int)))), (yX9_owed, (cX9_owed, (1, (some .int)))), (yX9_save, (cX9_save, (2, none))), (yX9_back, (cX9_back, (2, none))), (yX9_draw, (cX9_draw, (2, (some .int)))), (yX9_gotAll, (cX9_gotAll, (3, (some .int)))), (yX9_yearsNow, (cX9_yearsNow, (8, (some .int)))), (yX9_years, (cX9_years, (4, (some .int)))), (yX9_image, (cX9_image, (2, (some .int)))), (yX9_restore, (cX9_restore, (2, (some .int)))), (yX9_goneMany, (cX9_goneMany, (3, (some .int)))), (yX9_creditsAll, (cX9_creditsAll, (3, (some .int)))), (yX9_howMany, (cX9_howMany, (2, (some .int)))), (yX9_count, (cX9_count, (2, (some .int)))), (yX9_mix, (cX9_mix, (3, none))), (yX9_digest, (cX9_digest, (3, (some .long))))]
def am_T (j : Nat) : am_Me := am_mt.getD j (yX0_copy, (cX0_copy, (3, none)))
theorem am_T_pl (j : Nat) : plainName (am_T j).1.cls = true := by
  have h1 : ∀ q ∈ am_mt, plainName q.1.cls = true := by decide +kernel
  unfold am_T
  rw [List.getD_eq_getElem?_getD]
  cases hq : am_mt[j]? with
  | none => decide +kernel
  | some q => exact h1 q (List.mem_of_getElem? hq)
end
section
def pX0_copy : List (Nat × am_O) := [(0, op_c (0) 1), (1, op_ist 2 2), (2, op_li 2 3), (3, op_lr 1 4), (4, op_gi 5 1 7), (7, op_ic (fun x y => y ≤ x) 34 10), (10, op_li 2 11), (11, op_c (12) 13), (13, op_ic (fun x y => y ≤ x) 34 16), (16, op_lr 0 17), (17, op_gr 5 0 20), (20, op_li 2 21), (21, op_lr 1 22), (22, op_gr 5 0 25), (25, op_li 2 26), (26, op_ia 12 27), (27, op_is 12 28), (28, op_iinc 2 (1) 31), (31, op_go 2), (34, op_lr 0 35), (35, op_lr 1 36), (36, op_gi 5 1 39), (39, op_pi 5 1 42), (42, op_vret)]
set_option maxRecDepth 20000 in
theorem qX0_copy : ∀ q ∈ pX0_copy, am_So am_T (cX0_copy, (3, (none, RX0))) q.1 q.2 := List.forall_mem_cons.mpr ⟨so_iconst dX0_copy_0 (by decide), List.forall_mem_cons.mpr ⟨so_istore_n dX0_copy_1 rfl (by decide), List.forall_mem_cons.mpr ⟨so_iload_n dX0_copy_2 rfl, List.forall_mem_cons.mpr ⟨so_aload_n dX0_copy_3 rfl, List.forall_mem_cons.mpr ⟨so_gi (k := 1) cf_5 gf_5_1 gz_5_1 fl_RX0_15 dX0_copy_4, List.forall_mem_cons.mpr ⟨so_ic_ge dX0_copy_7 (by decide), List.forall_mem_cons.mpr ⟨so_iload_n dX0_copy_10 rfl, List.forall_mem_cons.mpr ⟨so_bipush dX0_copy_11 (by decide), List.forall_mem_cons.mpr ⟨so_ic_ge dX0_copy_13 (by decide), List.forall_mem_cons.mpr ⟨so_aload_n dX0_copy_16 rfl, List.forall_mem_cons.mpr ⟨so_gr (k := 0) cf_5 gf_5_0 gz_5_0 rl_5_0 fl_RX0_9 dX0_copy_17, List.forall_mem_cons.mpr ⟨so_iload_n dX0_copy_20 rfl, List.forall_mem_cons.mpr ⟨so_aload_n dX0_copy_21 rfl, List.forall_mem_cons.mpr ⟨so_gr (k := 0) cf_5 gf_5_0 gz_5_0 rl_5_0 fl_RX0_9 dX0_copy_22, List.forall_mem_cons.mpr ⟨so_iload_n dX0_copy_25 rfl, List.forall_mem_cons.mpr ⟨so_ia (t := 12) (by decide) (Or.inl ⟨ak_12, dX0_copy_26⟩), List.forall_mem_cons.mpr ⟨so_is (t := 12) (by decide) ak_12 dX0_copy_27, List.forall_mem_cons.mpr ⟨so_iinc dX0_copy_28 (by decide) (by decide), List.forall_mem_cons.mpr ⟨so_goto dX0_copy_31 (by decide), List.forall_mem_cons.mpr ⟨so_aload_n dX0_copy_34 rfl, List.forall_mem_cons.mpr ⟨so_aload_n dX0_copy_35 rfl, List.forall_mem_cons.mpr ⟨so_gi (k := 1) cf_5 gf_5_1 gz_5_1 fl_RX0_15 dX0_copy_36, List.forall_mem_cons.mpr ⟨so_pi (k := 1) cf_5 gf_5_1 gz_5_1 rfl rfl fl_RX0_15 dX0_copy_39, List.forall_mem_cons.mpr ⟨so_vret rfl dX0_copy_42, fun _ h => absurd h List.not_mem_nil⟩⟩⟩⟩⟩⟩⟩⟩⟩⟩⟩⟩⟩⟩⟩⟩⟩⟩⟩⟩⟩⟩⟩⟩
def pX0_hasRoom : List (Nat × am_O) := [(0, op_lr 0 1), (1, op_gi 5 1 4), (4, op_c (12) 6), (6, op_ic (fun x y => y ≤ x) 13 9), (9, op_c (1) 10), (10, op_go 14), (13, op_c (0) 14), (14, op_zret)]
set_option maxRecDepth 20000 in
theorem qX0_hasRoom : ∀ q ∈ pX0_hasRoom, am_So am_T (cX0_hasRoom, (1, ((some .boolean), RX0))) q.1 q.2 := List.forall_mem_cons.mpr ⟨so_aload_n dX0_hasRoom_0 rfl, List.forall_mem_cons.mpr ⟨so_gi (k := 1) cf_5 gf_5_1 gz_5_1 fl_RX0_15 dX0_hasRoom_1, List.forall_mem_cons.mpr ⟨so_bipush dX0_hasRoom_4 (by decide), List.forall_mem_cons.mpr ⟨so_ic_ge dX0_hasRoom_6 (by decide), List.forall_mem_cons.mpr ⟨so_iconst dX0_hasRoom_9 (by decide), List.forall_mem_cons.mpr ⟨so_goto dX0_hasRoom_10 (by decide), List.forall_mem_cons.mpr ⟨so_iconst dX0_hasRoom_13 (by decide), List.forall_mem_cons.mpr ⟨so_zret rfl dX0_hasRoom_14, fun _ h => absurd h List.not_mem_nil⟩⟩⟩⟩⟩⟩⟩⟩
def pX0_give : List (Nat × am_O) := [(0, op_lr 0 1), (1, op_gi 5 1 4), (4, op_if (fun x => x < 0) 16 7), (7, op_lr 0 8), (8, op_gi 5 1 11), (11, op_c (12) 13), (13, op_ic (fun x y => x < y) 17 16), (16, op_vret), (17, op_li 2 18), (18, op_c (3) 19), (19, op_ii (fun x y => x * y) 20), (20, op_li 1 21), (21, op_ii (fun x y => x + y) 22), (22, op_ist 3 23), (23, op_lr 0 24), (24, op_gi 5 1 27), (27, op_ist 4 29), (29, op_li 4 31), (31, op_if (fun x => x ≤ 0) 69 34), (34, op_lr 0 35), (35, op_gr 5 0 38), (38, op_li 4 40), (40, op_c (1) 41), (41, op_ii (fun x y => x - y) 42), (42, op_ia 12 43), (43, op_li 3 44), (44, op_ic (fun x y => x ≤ y) 69 47), (47, op_lr 0 48), (48, op_gr 5 0 51), (51, op_li 4 53), (53, op_lr 0 54), (54, op_gr 5 0 57), (57, op_li 4 59), (59, op_c (1) 60), (60, op_ii (fun x y => x - y) 61), (61, op_ia 12 62), (62, op_is 12 63), (63, op_iinc 4 (-1) 66), (66, op_go 29), (69, op_lr 0 70), (70, op_gr 5 0 73), (73, op_li 4 75), (75, op_li 3 76), (76, op_is 12 77), (77, op_lr 0 78), (78, op_dup 79), (79, op_gi 5 1 82), (82, op_c (1) 83), (83, op_ii (fun x y => x + y) 84), (84, op_pi 5 1 87), (87, op_vret)]
set_option maxRecDepth 20000 in
theorem qX0_give : ∀ q ∈ pX0_give, am_So am_T (cX0_give, (5, (none, RX0))) q.1 q.2 := List.forall_mem_cons.mpr ⟨so_aload_n dX0_give_0 rfl, List.forall_mem_cons.mpr ⟨so_gi (k := 1) cf_5 gf_5_1 gz_5_1 fl_RX0_15 dX0_give_1, List.forall_mem_cons.mpr ⟨so_if_lt dX0_give_4 (by decide), List.forall_mem_cons.mpr ⟨so_aload_n dX0_give_7 rfl, List.forall_mem_cons.mpr ⟨so_gi (k := 1) cf_5 gf_5_1 gz_5_1 fl_RX0_15 dX0_give_8, List.forall_mem_cons.mpr ⟨so_bipush dX0_give_11 (by decide), List.forall_mem_cons.mpr ⟨so_ic_lt dX0_give_13 (by decide), List.forall_mem_cons.mpr ⟨so_vret rfl dX0_give_16, List.forall_mem_cons.mpr ⟨so_iload_n dX0_give_17 rfl, List.forall_mem_cons.mpr ⟨so_iconst dX0_give_18 (by decide), List.forall_mem_cons.mpr ⟨so_imul dX0_give_19, List.forall_mem_cons.mpr ⟨so_iload_n dX0_give_20 rfl, List.forall_mem_cons.mpr ⟨so_iadd dX0_give_21, List.forall_mem_cons.mpr ⟨so_istore_n dX0_give_22 rfl (by decide), List.forall_mem_cons.mpr ⟨so_aload_n dX0_give_23 rfl, List.forall_mem_cons.mpr ⟨so_gi (k := 1) cf_5 gf_5_1 gz_5_1 fl_RX0_15 dX0_give_24, List.forall_mem_cons.mpr ⟨so_istore dX0_give_27 (by decide), List.forall_mem_cons.mpr ⟨so_iload dX0_give_29, List.forall_mem_cons.mpr ⟨so_if_le dX0_give_31 (by decide), List.forall_mem_cons.mpr ⟨so_aload_n dX0_give_34 rfl, List.forall_mem_cons.mpr ⟨so_gr (k := 0) cf_5 gf_5_0 gz_5_0 rl_5_0 fl_RX0_9 dX0_give_35, List.forall_mem_cons.mpr ⟨so_iload dX0_give_38, List.forall_mem_cons.mpr ⟨so_iconst dX0_give_40 (by decide), List.forall_mem_cons.mpr ⟨so_isub dX0_give_41, List.forall_mem_cons.mpr ⟨so_ia (t := 12) (by decide) (Or.inl ⟨ak_12, dX0_give_42⟩), List.forall_mem_cons.mpr ⟨so_iload_n dX0_give_43 rfl, List.forall_mem_cons.mpr ⟨so_ic_le dX0_give_44 (by decide), List.forall_mem_cons.mpr ⟨so_aload_n dX0_give_47 rfl, List.forall_mem_cons.mpr ⟨so_gr (k := 0) cf_5 gf_5_0 gz_5_0 rl_5_0 fl_RX0_9 dX0_give_48, List.forall_mem_cons.mpr ⟨so_iload dX0_give_51, List.forall_mem_cons.mpr ⟨so_aload_n dX0_give_53 rfl, List.forall_mem_cons.mpr ⟨so_gr (k := 0) cf_5 gf_5_0 gz_5_0 rl_5_0 fl_RX0_9 dX0_give_54, List.forall_mem_cons.mpr ⟨so_iload dX0_give_57, List.forall_mem_cons.mpr ⟨so_iconst dX0_give_59 (by decide), List.forall_mem_cons.mpr ⟨so_isub dX0_give_60, List.forall_mem_cons.mpr ⟨so_ia (t := 12) (by decide) (Or.inl ⟨ak_12, dX0_give_61⟩), List.forall_mem_cons.mpr ⟨so_is (t := 12) (by decide) ak_12 dX0_give_62, List.forall_mem_cons.mpr ⟨so_iinc dX0_give_63 (by decide) (by decide), List.forall_mem_cons.mpr ⟨so_goto dX0_give_66 (by decide), List.forall_mem_cons.mpr ⟨so_aload_n dX0_give_69 rfl, List.forall_mem_cons.mpr ⟨so_gr (k := 0) cf_5 gf_5_0 gz_5_0 rl_5_0 fl_RX0_9 dX0_give_70, List.forall_mem_cons.mpr ⟨so_iload dX0_give_73, List.forall_mem_cons.mpr ⟨so_iload_n dX0_give_75 rfl, List.forall_mem_cons.mpr ⟨so_is (t := 12) (by decide) ak_12 dX0_give_76, List.forall_mem_cons.mpr ⟨so_aload_n dX0_give_77 rfl, List.forall_mem_cons.mpr ⟨so_dup dX0_give_78, List.forall_mem_cons.mpr ⟨so_gi (k := 1) cf_5 gf_5_1 gz_5_1 fl_RX0_15 dX0_give_79, List.forall_mem_cons.mpr ⟨so_iconst dX0_give_82 (by decide), List.forall_mem_cons.mpr ⟨so_iadd dX0_give_83, List.forall_mem_cons.mpr ⟨so_pi (k := 1) cf_5 gf_5_1 gz_5_1 rfl rfl fl_RX0_15 dX0_give_84, List.forall_mem_cons.mpr ⟨so_vret rfl dX0_give_87, fun _ h => absurd h List.not_mem_nil⟩⟩⟩⟩⟩⟩⟩⟩⟩⟩⟩⟩⟩⟩⟩⟩⟩⟩⟩⟩⟩⟩⟩⟩⟩⟩⟩⟩⟩⟩⟩⟩⟩⟩⟩⟩⟩⟩⟩⟩⟩⟩⟩⟩⟩⟩⟩⟩⟩⟩⟩
def pX0_howMany : List (Nat × am_O) := [(0, op_c (0) 1), (1, op_ist 3 2), (2, op_c (0) 3), (3, op_ist 4 5), (5, op_li 4 7), (7, op_lr 0 8), (8, op_gi 5 1 11), (11, op_ic (fun x y => y ≤ x) 57 14), (14, op_li 4 16), (16, op_c (12) 18), (18, op_ic (fun x y => y ≤ x) 57 21), (21, op_lr 0 22), (22, op_gr 5 0 25), (25, op_li 4 27), (27, op_ia 12 28), (28, op_li 2 29), (29, op_c (3) 30), (30, op_ii (fun x y => x * y) 31), (31, op_ic (fun x y => x < y) 51 34), (34, op_lr 0 35), (35, op_gr 5 0 38), (38, op_li 4 40), (40, op_ia 12 41), (41, op_li 1 42), (42, op_cs 8 2 2 45), (45, op_if (fun x => x = 0) 51 48), (48, op_iinc 3 (1) 51), (51, op_iinc 4 (1) 54), (54, op_go 5), (57, op_li 3 58), (58, op_iret)]
set_option maxRecDepth 20000 in
theorem qX0_howMany : ∀ q ∈ pX0_howMany, am_So am_T (cX0_howMany, (5, ((some .int), RX0))) q.1 q.2 := List.forall_mem_cons.mpr ⟨so_iconst dX0_howMany_0 (by decide), List.forall_mem_cons.mpr ⟨so_istore_n dX0_howMany_1 rfl (by decide), List.forall_mem_cons.mpr ⟨so_iconst dX0_howMany_2 (by decide), List.forall_mem_cons.mpr ⟨so_istore dX0_howMany_3 (by decide), List.forall_mem_cons.mpr ⟨so_iload dX0_howMany_5, List.forall_mem_cons.mpr ⟨so_aload_n dX0_howMany_7 rfl, List.forall_mem_cons.mpr ⟨so_gi (k := 1) cf_5 gf_5_1 gz_5_1 fl_RX0_15 dX0_howMany_8, List.forall_mem_cons.mpr ⟨so_ic_ge dX0_howMany_11 (by decide), List.forall_mem_cons.mpr ⟨so_iload dX0_howMany_14, List.forall_mem_cons.mpr ⟨so_bipush dX0_howMany_16 (by decide), List.forall_mem_cons.mpr ⟨so_ic_ge dX0_howMany_18 (by decide), List.forall_mem_cons.mpr ⟨so_aload_n dX0_howMany_21 rfl, List.forall_mem_cons.mpr ⟨so_gr (k := 0) cf_5 gf_5_0 gz_5_0 rl_5_0 fl_RX0_9 dX0_howMany_22, List.forall_mem_cons.mpr ⟨so_iload dX0_howMany_25, List.forall_mem_cons.mpr ⟨so_ia (t := 12) (by decide) (Or.inl ⟨ak_12, dX0_howMany_27⟩), List.forall_mem_cons.mpr ⟨so_iload_n dX0_howMany_28 rfl, List.forall_mem_cons.mpr ⟨so_iconst dX0_howMany_29 (by decide), List.forall_mem_cons.mpr ⟨so_imul dX0_howMany_30, List.forall_mem_cons.mpr ⟨so_ic_lt dX0_howMany_31 (by decide), List.forall_mem_cons.mpr ⟨so_aload_n dX0_howMany_34 rfl, List.forall_mem_cons.mpr ⟨so_gr (k := 0) cf_5 gf_5_0 gz_5_0 rl_5_0 fl_RX0_9 dX0_howMany_35, List.forall_mem_cons.mpr ⟨so_iload dX0_howMany_38, List.forall_mem_cons.mpr ⟨so_ia (t := 12) (by decide) (Or.inl ⟨ak_12, dX0_howMany_40⟩), List.forall_mem_cons.mpr ⟨so_iload_n dX0_howMany_41 rfl, List.forall_mem_cons.mpr ⟨so_cs rfl mo_X0_isOf ms_X0_isOf ml_RX0_19 dX0_howMany_42, List.forall_mem_cons.mpr ⟨so_if_eq dX0_howMany_45 (by decide), List.forall_mem_cons.mpr ⟨so_iinc dX0_howMany_48 (by decide) (by decide), List.forall_mem_cons.mpr ⟨so_iinc dX0_howMany_51 (by decide) (by decide), List.forall_mem_cons.mpr ⟨so_goto dX0_howMany_54 (by decide), List.forall_mem_cons.mpr ⟨so_iload_n dX0_howMany_57 rfl, List.forall_mem_cons.mpr ⟨so_iret rfl dX0_howMany_58, fun _ h => absurd h List.not_mem_nil⟩⟩⟩⟩⟩⟩⟩⟩⟩⟩⟩⟩⟩⟩⟩⟩⟩⟩⟩⟩⟩⟩⟩⟩⟩⟩⟩⟩⟩⟩⟩
def pX0_oldestWeek : List (Nat × am_O) := [(0, op_c (0) 1), (1, op_ist 2 2), (2, op_li 2 3), (3, op_lr 0 4), (4, op_gi 5 1 7), (7, op_ic (fun x y => y ≤ x) 44 10), (10, op_li 2 11), (11, op_c (12) 13), (13, op_ic (fun x y => y ≤ x) 44 16), (16, op_lr 0 17), (17, op_gr 5 0 20), (20, op_li 2 21), (21, op_ia 12 22), (22, op_li 1 23), (23, op_cs 8 2 2 26), (26, op_if (fun x => x = 0) 38 29), (29, op_lr 0 30), (30, op_gr 5 0 33), (33, op_li 2 34), (34, op_ia 12 35), (35, op_c (3) 36), (36, op_iid (fun x y => x / y) 37), (37, op_iret), (38, op_iinc 2 (1) 41), (41, op_go 2), (44, op_c (-1) 45), (45, op_iret)]
set_option maxRecDepth 20000 in
theorem qX0_oldestWeek : ∀ q ∈ pX0_oldestWeek, am_So am_T (cX0_oldestWeek, (3, ((some .int), RX0))) q.1 q.2 := List.forall_mem_cons.mpr ⟨so_iconst dX0_oldestWeek_0 (by decide), List.forall_mem_cons.mpr ⟨so_istore_n dX0_oldestWeek_1 rfl (by decide), List.forall_mem_cons.mpr ⟨so_iload_n dX0_oldestWeek_2 rfl, List.forall_mem_cons.mpr ⟨so_aload_n dX0_oldestWeek_3 rfl, List.forall_mem_cons.mpr ⟨so_gi (k := 1) cf_5 gf_5_1 gz_5_1 fl_RX0_15 dX0_oldestWeek_4, List.forall_mem_cons.mpr ⟨so_ic_ge dX0_oldestWeek_7 (by decide), List.forall_mem_cons.mpr ⟨so_iload_n dX0_oldestWeek_10 rfl, List.forall_mem_cons.mpr ⟨so_bipush dX0_oldestWeek_11 (by decide), List.forall_mem_cons.mpr ⟨so_ic_ge dX0_oldestWeek_13 (by decide), List.forall_mem_cons.mpr ⟨so_aload_n dX0_oldestWeek_16 rfl, List.forall_mem_cons.mpr ⟨so_gr (k := 0) cf_5 gf_5_0 gz_5_0 rl_5_0 fl_RX0_9 dX0_oldestWeek_17, List.forall_mem_cons.mpr ⟨so_iload_n dX0_oldestWeek_20 rfl, List.forall_mem_cons.mpr ⟨so_ia (t := 12) (by decide) (Or.inl ⟨ak_12, dX0_oldestWeek_21⟩), List.forall_mem_cons.mpr ⟨so_iload_n dX0_oldestWeek_22 rfl, List.forall_mem_cons.mpr ⟨so_cs rfl mo_X0_isOf ms_X0_isOf ml_RX0_19 dX0_oldestWeek_23, List.forall_mem_cons.mpr ⟨so_if_eq dX0_oldestWeek_26 (by decide), List.forall_mem_cons.mpr ⟨so_aload_n dX0_oldestWeek_29 rfl, List.forall_mem_cons.mpr ⟨so_gr (k := 0) cf_5 gf_5_0 gz_5_0 rl_5_0 fl_RX0_9 dX0_oldestWeek_30, List.forall_mem_cons.mpr ⟨so_iload_n dX0_oldestWeek_33 rfl, List.forall_mem_cons.mpr ⟨so_ia (t := 12) (by decide) (Or.inl ⟨ak_12, dX0_oldestWeek_34⟩), List.forall_mem_cons.mpr ⟨so_iconst dX0_oldestWeek_35 (by decide), List.forall_mem_cons.mpr ⟨so_idiv dX0_oldestWeek_36, List.forall_mem_cons.mpr ⟨so_iret rfl dX0_oldestWeek_37, List.forall_mem_cons.mpr ⟨so_iinc dX0_oldestWeek_38 (by decide) (by decide), List.forall_mem_cons.mpr ⟨so_goto dX0_oldestWeek_41 (by decide), List.forall_mem_cons.mpr ⟨so_iconst dX0_oldestWeek_44 (by decide), List.forall_mem_cons.mpr ⟨so_iret rfl dX0_oldestWeek_45, fun _ h => absurd h List.not_mem_nil⟩⟩⟩⟩⟩⟩⟩⟩⟩⟩⟩⟩⟩⟩⟩⟩⟩⟩⟩⟩⟩⟩⟩⟩⟩⟩⟩
def pX0_dropOldest : List (Nat × am_O) := [(0, op_li 2 1), (1, op_ist 3 2), (2, op_c (0) 3), (3, op_ist 4 5), (5, op_c (0) 6), (6, op_ist 5 8), (8, op_li 5 10), (10, op_lr 0 11), (11, op_gi 5 1 14), (14, op_ic (fun x y => y ≤ x) 71 17), (17, op_li 5 19), (19, op_c (12) 21), (21, op_ic (fun x y => y ≤ x) 71 24), (24, op_li 3 25), (25, op_if (fun x => x ≤ 0) 48 28), (28, op_lr 0 29), (29, op_gr 5 0 32), (32, op_li 5 34), (34, op_ia 12 35), (35, op_li 1 36), (36, op_cs 8 2 2 39), (39, op_if (fun x => x = 0) 48 42), (42, op_iinc 3 (-1) 45), (45, op_go 65), (48, op_lr 0 49), (49, op_gr 5 0 52), (52, op_li 4 54), (54, op_lr 0 55), (55, op_gr 5 0 58), (58, op_li 5 60), (60, op_ia 12 61), (61, op_is 12 62), (62, op_iinc 4 (1) 65), (65, op_iinc 5 (1) 68), (68, op_go 8), (71, op_lr 0 72), (72, op_li 4 74), (74, op_pi 5 1 77), (77, op_vret)]
set_option maxRecDepth 20000 in
theorem qX0_dropOldest : ∀ q ∈ pX0_dropOldest, am_So am_T (cX0_dropOldest, (6, (none, RX0))) q.1 q.2 := List.forall_mem_cons.mpr ⟨so_iload_n dX0_dropOldest_0 rfl, List.forall_mem_cons.mpr ⟨so_istore_n dX0_dropOldest_1 rfl (by decide), List.forall_mem_cons.mpr ⟨so_iconst dX0_dropOldest_2 (by decide), List.forall_mem_cons.mpr ⟨so_istore dX0_dropOldest_3 (by decide), List.forall_mem_cons.mpr ⟨so_iconst dX0_dropOldest_5 (by decide), List.forall_mem_cons.mpr ⟨so_istore dX0_dropOldest_6 (by decide), List.forall_mem_cons.mpr ⟨so_iload dX0_dropOldest_8, List.forall_mem_cons.mpr ⟨so_aload_n dX0_dropOldest_10 rfl, List.forall_mem_cons.mpr ⟨so_gi (k := 1) cf_5 gf_5_1 gz_5_1 fl_RX0_15 dX0_dropOldest_11, List.forall_mem_cons.mpr ⟨so_ic_ge dX0_dropOldest_14 (by decide), List.forall_mem_cons.mpr ⟨so_iload dX0_dropOldest_17, List.forall_mem_cons.mpr ⟨so_bipush dX0_dropOldest_19 (by decide), List.forall_mem_cons.mpr ⟨so_ic_ge dX0_dropOldest_21 (by decide), List.forall_mem_cons.mpr ⟨so_iload_n dX0_dropOldest_24 rfl, List.forall_mem_cons.mpr ⟨so_if_le dX0_dropOldest_25 (by decide), List.forall_mem_cons.mpr ⟨so_aload_n dX0_dropOldest_28 rfl, List.forall_mem_cons.mpr ⟨so_gr (k := 0) cf_5 gf_5_0 gz_5_0 rl_5_0 fl_RX0_9 dX0_dropOldest_29, List.forall_mem_cons.mpr ⟨so_iload dX0_dropOldest_32, List.forall_mem_cons.mpr ⟨so_ia (t := 12) (by decide) (Or.inl ⟨ak_12, dX0_dropOldest_34⟩), List.forall_mem_cons.mpr ⟨so_iload_n dX0_dropOldest_35 rfl, List.forall_mem_cons.mpr ⟨so_cs rfl mo_X0_isOf ms_X0_isOf ml_RX0_19 dX0_dropOldest_36, List.forall_mem_cons.mpr ⟨so_if_eq dX0_dropOldest_39 (by decide), List.forall_mem_cons.mpr ⟨so_iinc dX0_dropOldest_42 (by decide) (by decide), List.forall_mem_cons.mpr ⟨so_goto dX0_dropOldest_45 (by decide), List.forall_mem_cons.mpr ⟨so_aload_n dX0_dropOldest_48 rfl, List.forall_mem_cons.mpr ⟨so_gr (k := 0) cf_5 gf_5_0 gz_5_0 rl_5_0 fl_RX0_9 dX0_dropOldest_49, List.forall_mem_cons.mpr ⟨so_iload dX0_dropOldest_52, List.forall_mem_cons.mpr ⟨so_aload_n dX0_dropOldest_54 rfl, List.forall_mem_cons.mpr ⟨so_gr (k := 0) cf_5 gf_5_0 gz_5_0 rl_5_0 fl_RX0_9 dX0_dropOldest_55, List.forall_mem_cons.mpr ⟨so_iload dX0_dropOldest_58, List.forall_mem_cons.mpr ⟨so_ia (t := 12) (by decide) (Or.inl ⟨ak_12, dX0_dropOldest_60⟩), List.forall_mem_cons.mpr ⟨so_is (t := 12) (by decide) ak_12 dX0_dropOldest_61, List.forall_mem_cons.mpr ⟨so_iinc dX0_dropOldest_62 (by decide) (by decide), List.forall_mem_cons.mpr ⟨so_iinc dX0_dropOldest_65 (by decide) (by decide), List.forall_mem_cons.mpr ⟨so_goto dX0_dropOldest_68 (by decide), List.forall_mem_cons.mpr ⟨so_aload_n dX0_dropOldest_71 rfl, List.forall_mem_cons.mpr ⟨so_iload dX0_dropOldest_72, List.forall_mem_cons.mpr ⟨so_pi (k := 1) cf_5 gf_5_1 gz_5_1 rfl rfl fl_RX0_15 dX0_dropOldest_74, List.forall_mem_cons.mpr ⟨so_vret rfl dX0_dropOldest_77, fun _ h => absurd h List.not_mem_nil⟩⟩⟩⟩⟩⟩⟩⟩⟩⟩⟩⟩⟩⟩⟩⟩⟩⟩⟩⟩⟩⟩⟩⟩⟩⟩⟩⟩⟩⟩⟩⟩⟩⟩⟩⟩⟩⟩⟩
def pX0_dropAheadOf : List (Nat × am_O) := [(0, op_c (0) 1), (1, op_ist 2 2), (2, op_c (0) 3), (3, op_ist 3 4), (4, op_li 3 5), (5, op_lr 0 6), (6, op_gi 5 1 9), (9, op_ic (fun x y => y ≤ x) 51 12), (12, op_li 3 13), (13, op_c (12) 15), (15, op_ic (fun x y => y ≤ x) 51 18), (18, op_lr 0 19), (19, op_gr 5 0 22), (22, op_li 3 23), (23, op_ia 12 24), (24, op_li 1 25), (25, op_c (3) 26), (26, op_ii (fun x y => x * y) 27), (27, op_ic (fun x y => x < y) 45 30), (30, op_lr 0 31), (31, op_gr 5 0 34), (34, op_li 2 35), (35, op_lr 0 36), (36, op_gr 5 0 39), (39, op_li 3 40), (40, op_ia 12 41), (41, op_is 12 42), (42, op_iinc 2 (1) 45), (45, op_iinc 3 (1) 48), (48, op_go 4), (51, op_lr 0 52), (52, op_li 2 53), (53, op_pi 5 1 56), (56, op_vret)]
set_option maxRecDepth 20000 in
theorem qX0_dropAheadOf : ∀ q ∈ pX0_dropAheadOf, am_So am_T (cX0_dropAheadOf, (4, (none, RX0))) q.1 q.2 := List.forall_mem_cons.mpr ⟨so_iconst dX0_dropAheadOf_0 (by decide), List.forall_mem_cons.mpr ⟨so_istore_n dX0_dropAheadOf_1 rfl (by decide), List.forall_mem_cons.mpr ⟨so_iconst dX0_dropAheadOf_2 (by decide), List.forall_mem_cons.mpr ⟨so_istore_n dX0_dropAheadOf_3 rfl (by decide), List.forall_mem_cons.mpr ⟨so_iload_n dX0_dropAheadOf_4 rfl, List.forall_mem_cons.mpr ⟨so_aload_n dX0_dropAheadOf_5 rfl, List.forall_mem_cons.mpr ⟨so_gi (k := 1) cf_5 gf_5_1 gz_5_1 fl_RX0_15 dX0_dropAheadOf_6, List.forall_mem_cons.mpr ⟨so_ic_ge dX0_dropAheadOf_9 (by decide), List.forall_mem_cons.mpr ⟨so_iload_n dX0_dropAheadOf_12 rfl, List.forall_mem_cons.mpr ⟨so_bipush dX0_dropAheadOf_13 (by decide), List.forall_mem_cons.mpr ⟨so_ic_ge dX0_dropAheadOf_15 (by decide), List.forall_mem_cons.mpr ⟨so_aload_n dX0_dropAheadOf_18 rfl, List.forall_mem_cons.mpr ⟨so_gr (k := 0) cf_5 gf_5_0 gz_5_0 rl_5_0 fl_RX0_9 dX0_dropAheadOf_19, List.forall_mem_cons.mpr ⟨so_iload_n dX0_dropAheadOf_22 rfl, List.forall_mem_cons.mpr ⟨so_ia (t := 12) (by decide) (Or.inl ⟨ak_12, dX0_dropAheadOf_23⟩), List.forall_mem_cons.mpr ⟨so_iload_n dX0_dropAheadOf_24 rfl, List.forall_mem_cons.mpr ⟨so_iconst dX0_dropAheadOf_25 (by decide), List.forall_mem_cons.mpr ⟨so_imul dX0_dropAheadOf_26, List.forall_mem_cons.mpr ⟨so_ic_lt dX0_dropAheadOf_27 (by decide), List.forall_mem_cons.mpr ⟨so_aload_n dX0_dropAheadOf_30 rfl, List.forall_mem_cons.mpr ⟨so_gr (k := 0) cf_5 gf_5_0 gz_5_0 rl_5_0 fl_RX0_9 dX0_dropAheadOf_31, List.forall_mem_cons.mpr ⟨so_iload_n dX0_dropAheadOf_34 rfl, List.forall_mem_cons.mpr ⟨so_aload_n dX0_dropAheadOf_35 rfl, List.forall_mem_cons.mpr ⟨so_gr (k := 0) cf_5 gf_5_0 gz_5_0 rl_5_0 fl_RX0_9 dX0_dropAheadOf_36, List.forall_mem_cons.mpr ⟨so_iload_n dX0_dropAheadOf_39 rfl, List.forall_mem_cons.mpr ⟨so_ia (t := 12) (by decide) (Or.inl ⟨ak_12, dX0_dropAheadOf_40⟩), List.forall_mem_cons.mpr ⟨so_is (t := 12) (by decide) ak_12 dX0_dropAheadOf_41, List.forall_mem_cons.mpr ⟨so_iinc dX0_dropAheadOf_42 (by decide) (by decide), List.forall_mem_cons.mpr ⟨so_iinc dX0_dropAheadOf_45 (by decide) (by decide), List.forall_mem_cons.mpr ⟨so_goto dX0_dropAheadOf_48 (by decide), List.forall_mem_cons.mpr ⟨so_aload_n dX0_dropAheadOf_51 rfl, List.forall_mem_cons.mpr ⟨so_iload_n dX0_dropAheadOf_52 rfl, List.forall_mem_cons.mpr ⟨so_pi (k := 1) cf_5 gf_5_1 gz_5_1 rfl rfl fl_RX0_15 dX0_dropAheadOf_53, List.forall_mem_cons.mpr ⟨so_vret rfl dX0_dropAheadOf_56, fun _ h => absurd h List.not_mem_nil⟩⟩⟩⟩⟩⟩⟩⟩⟩⟩⟩⟩⟩⟩⟩⟩⟩⟩⟩⟩⟩⟩⟩⟩⟩⟩⟩⟩⟩⟩⟩⟩⟩⟩
def pX0_moveTo : List (Nat × am_O) := [(0, op_c (0) 1), (1, op_ist 2 2), (2, op_c (0) 3), (3, op_ist 3 4), (4, op_li 3 5), (5, op_lr 0 6), (6, op_gi 5 1 9), (9, op_ic (fun x y => y ≤ x) 54 12), (12, op_li 3 13), (13, op_c (12) 15), (15, op_ic (fun x y => y ≤ x) 54 18), (18, op_lr 1 19), (19, op_cv 5 1 1 1 22), (22, op_if (fun x => x = 0) 54 25), (25, op_lr 1 26), (26, op_lr 0 27), (27, op_gr 5 0 30), (30, op_li 3 31), (31, op_ia 12 32), (32, op_c (3) 33), (33, op_iid (fun x y => x - x / y * y) 34), (34, op_lr 0 35), (35, op_gr 5 0 38), (38, op_li 3 39), (39, op_ia 12 40), (40, op_c (3) 41), (41, op_iid (fun x y => x / y) 42), (42, op_cv 5 2 3 5 45), (45, op_iinc 2 (1) 48), (48, op_iinc 3 (1) 51), (51, op_go 4), (54, op_lr 0 55), (55, op_c (0) 56), (56, op_pi 5 1 59), (59, op_li 2 60), (60, op_iret)]
set_option maxRecDepth 20000 in
theorem qX0_moveTo : ∀ q ∈ pX0_moveTo, am_So am_T (cX0_moveTo, (4, ((some .int), RX0))) q.1 q.2 := List.forall_mem_cons.mpr ⟨so_iconst dX0_moveTo_0 (by decide), List.forall_mem_cons.mpr ⟨so_istore_n dX0_moveTo_1 rfl (by decide), List.forall_mem_cons.mpr ⟨so_iconst dX0_moveTo_2 (by decide), List.forall_mem_cons.mpr ⟨so_istore_n dX0_moveTo_3 rfl (by decide), List.forall_mem_cons.mpr ⟨so_iload_n dX0_moveTo_4 rfl, List.forall_mem_cons.mpr ⟨so_aload_n dX0_moveTo_5 rfl, List.forall_mem_cons.mpr ⟨so_gi (k := 1) cf_5 gf_5_1 gz_5_1 fl_RX0_15 dX0_moveTo_6, List.forall_mem_cons.mpr ⟨so_ic_ge dX0_moveTo_9 (by decide), List.forall_mem_cons.mpr ⟨so_iload_n dX0_moveTo_12 rfl, List.forall_mem_cons.mpr ⟨so_bipush dX0_moveTo_13 (by decide), List.forall_mem_cons.mpr ⟨so_ic_ge dX0_moveTo_15 (by decide), List.forall_mem_cons.mpr ⟨so_aload_n dX0_moveTo_18 rfl, List.forall_mem_cons.mpr ⟨so_cv rc_5 rfl mo_X0_hasRoom ms_X0_hasRoom mx_X0_hasRoom ml_RX0_23 dX0_moveTo_19, List.forall_mem_cons.mpr ⟨so_if_eq dX0_moveTo_22 (by decide), List.forall_mem_cons.mpr ⟨so_aload_n dX0_moveTo_25 rfl, List.forall_mem_cons.mpr ⟨so_aload_n dX0_moveTo_26 rfl, List.forall_mem_cons.mpr ⟨so_gr (k := 0) cf_5 gf_5_0 gz_5_0 rl_5_0 fl_RX0_9 dX0_moveTo_27, List.forall_mem_cons.mpr ⟨so_iload_n dX0_moveTo_30 rfl, List.forall_mem_cons.mpr ⟨so_ia (t := 12) (by decide) (Or.inl ⟨ak_12, dX0_moveTo_31⟩), List.forall_mem_cons.mpr ⟨so_iconst dX0_moveTo_32 (by decide), List.forall_mem_cons.mpr ⟨so_irem dX0_moveTo_33, List.forall_mem_cons.mpr ⟨so_aload_n dX0_moveTo_34 rfl, List.forall_mem_cons.mpr ⟨so_gr (k := 0) cf_5 gf_5_0 gz_5_0 rl_5_0 fl_RX0_9 dX0_moveTo_35, List.forall_mem_cons.mpr ⟨so_iload_n dX0_moveTo_38 rfl, List.forall_mem_cons.mpr ⟨so_ia (t := 12) (by decide) (Or.inl ⟨ak_12, dX0_moveTo_39⟩), List.forall_mem_cons.mpr ⟨so_iconst dX0_moveTo_40 (by decide), List.forall_mem_cons.mpr ⟨so_idiv dX0_moveTo_41, List.forall_mem_cons.mpr ⟨so_cv rc_5 rfl mo_X0_give ms_X0_give mx_X0_give ml_RX0_27 dX0_moveTo_42, List.forall_mem_cons.mpr ⟨so_iinc dX0_moveTo_45 (by decide) (by decide), List.forall_mem_cons.mpr ⟨so_iinc dX0_moveTo_48 (by decide) (by decide), List.forall_mem_cons.mpr ⟨so_goto dX0_moveTo_51 (by decide), List.forall_mem_cons.mpr ⟨so_aload_n dX0_moveTo_54 rfl, List.forall_mem_cons.mpr ⟨so_iconst dX0_moveTo_55 (by decide), List.forall_mem_cons.mpr ⟨so_pi (k := 1) cf_5 gf_5_1 gz_5_1 rfl rfl fl_RX0_15 dX0_moveTo_56, List.forall_mem_cons.mpr ⟨so_iload_n dX0_moveTo_59 rfl, List.forall_mem_cons.mpr ⟨so_iret rfl dX0_moveTo_60, fun _ h => absurd h List.not_mem_nil⟩⟩⟩⟩⟩⟩⟩⟩⟩⟩⟩⟩⟩⟩⟩⟩⟩⟩⟩⟩⟩⟩⟩⟩⟩⟩⟩⟩⟩⟩⟩⟩⟩⟩⟩⟩
def pX0_isOf : List (Nat × am_O) := [(0, op_li 1 1), (1, op_c (1) 2), (2, op_li 0 3), (3, op_c (3) 4), (4, op_iid (fun x y => x - x / y * y) 5), (5, op_ii (fun x y => x <<< (y &&& 31)) 6), (6, op_ii (fun x y => x &&& y) 7), (7, op_if (fun x => x = 0) 14 10), (10, op_c (1) 11), (11, op_go 15), (14, op_c (0) 15), (15, op_zret)]
set_option maxRecDepth 20000 in
theorem qX0_isOf : ∀ q ∈ pX0_isOf, am_So am_T (cX0_isOf, (2, ((some .boolean), RX0))) q.1 q.2 := List.forall_mem_cons.mpr ⟨so_iload_n dX0_isOf_0 rfl, List.forall_mem_cons.mpr ⟨so_iconst dX0_isOf_1 (by decide), List.forall_mem_cons.mpr ⟨so_iload_n dX0_isOf_2 rfl, List.forall_mem_cons.mpr ⟨so_iconst dX0_isOf_3 (by decide), List.forall_mem_cons.mpr ⟨so_irem dX0_isOf_4, List.forall_mem_cons.mpr ⟨so_ishl dX0_isOf_5, List.forall_mem_cons.mpr ⟨so_iand dX0_isOf_6, List.forall_mem_cons.mpr ⟨so_if_eq dX0_isOf_7 (by decide), List.forall_mem_cons.mpr ⟨so_iconst dX0_isOf_10 (by decide), List.forall_mem_cons.mpr ⟨so_goto dX0_isOf_11 (by decide), List.forall_mem_cons.mpr ⟨so_iconst dX0_isOf_14 (by decide), List.forall_mem_cons.mpr ⟨so_zret rfl dX0_isOf_15, fun _ h => absurd h List.not_mem_nil⟩⟩⟩⟩⟩⟩⟩⟩⟩⟩⟩⟩
def pX1_start : List (Nat × am_O) := [(0, op_lr 0 1), (1, op_gr 6 0 4), (4, op_c (0) 5), (5, op_aa 14 6), (6, op_ast 5 8), (8, op_lr 5 10), (10, op_lr 1 11), (11, op_cv 4 45 2 2 14), (14, op_lr 5 16), (16, op_c (0) 17), (17, op_pi 4 2 20), (20, op_lr 0 21), (21, op_li 3 22), (22, op_pi 6 2 25), (25, op_lr 0 26), (26, op_li 4 28), (28, op_pi 6 1 31), (31, op_lr 5 33), (33, op_gi 4 4 36), (36, op_if (fun x => x = 0) 68 39), (39, op_lr 0 40), (40, op_li 3 41), (41, op_c (1) 42), (42, op_ii (fun x y => x + y) 43), (43, op_pi 6 2 46), (46, op_lr 0 47), (47, op_c (0) 48), (48, op_li 4 50), (50, op_c (1) 51), (51, op_ii (fun x y => x - y) 52), (52, op_mm (fun x y => if x < y then y else x) 55), (55, op_pi 6 1 58), (58, op_lr 5 60), (60, op_lr 0 61), (61, op_gi 6 2 64), (64, op_lr 2 65), (65, op_cv 4 47 3 3 68), (68, op_lr 0 69), (69, op_c (-1) 70), (70, op_pi 6 4 73), (73, op_lr 0 74), (74, op_c (9) 76), (76, op_pi 6 5 79), (79, op_lr 0 80), (80, op_c (9) 82), (82, op_pi 6 3 85), (85, op_lr 0 86), (86, op_c (0) 87), (87, op_lr 2 88), (88, op_cv 6 10 3 7 91), (91, op_vret)]
set_option maxRecDepth 20000 in
theorem qX1_start : ∀ q ∈ pX1_start, am_So am_T (cX1_start, (6, (none, RX1))) q.1 q.2 := List.forall_mem_cons.mpr ⟨so_aload_n dX1_start_0 rfl, List.forall_mem_cons.mpr ⟨so_gr (k := 0) cf_6 gf_6_0 gz_6_0 rl_6_0 fl_RX1_11 dX1_start_1, List.forall_mem_cons.mpr ⟨so_iconst dX1_start_4 (by decide), List.forall_mem_cons.mpr ⟨so_aa (t := 14) (by decide) ak_14 el_14 dX1_start_5, List.forall_mem_cons.mpr ⟨so_astore dX1_start_6 (by decide), List.forall_mem_cons.mpr ⟨so_aload dX1_start_8, List.forall_mem_cons.mpr ⟨so_aload_n dX1_start_10 rfl, List.forall_mem_cons.mpr ⟨so_cv rc_4 rfl mo_X6_copy ms_X6_copy mx_X6_copy ml_RX1_18 dX1_start_11, List.forall_mem_cons.mpr ⟨so_aload dX1_start_14, List.forall_mem_cons.mpr ⟨so_iconst dX1_start_16 (by decide), List.forall_mem_cons.mpr ⟨so_pi (k := 2) cf_4 gf_4_2 gz_4_2 rfl rfl fl_RX1_22 dX1_start_17, List.forall_mem_cons.mpr ⟨so_aload_n dX1_start_20 rfl, List.forall_mem_cons.mpr ⟨so_iload_n dX1_start_21 rfl, List.forall_mem_cons.mpr ⟨so_pi (k := 2) cf_6 gf_6_2 gz_6_2 rfl rfl fl_RX1_26 dX1_start_22, List.forall_mem_cons.mpr ⟨so_aload_n dX1_start_25 rfl, List.forall_mem_cons.mpr ⟨so_iload dX1_start_26, List.forall_mem_cons.mpr ⟨so_pi (k := 1) cf_6 gf_6_1 gz_6_1 rfl rfl fl_RX1_29 dX1_start_28, List.forall_mem_cons.mpr ⟨so_aload dX1_start_31, List.forall_mem_cons.mpr ⟨so_gi (k := 4) cf_4 gf_4_4 gz_4_4 fl_RX1_32 dX1_start_33, List.forall_mem_cons.mpr ⟨so_if_eq dX1_start_36 (by decide), List.forall_mem_cons.mpr ⟨so_aload_n dX1_start_39 rfl, List.forall_mem_cons.mpr ⟨so_iload_n dX1_start_40 rfl, List.forall_mem_cons.mpr ⟨so_iconst dX1_start_41 (by decide), List.forall_mem_cons.mpr ⟨so_iadd dX1_start_42, List.forall_mem_cons.mpr ⟨so_pi (k := 2) cf_6 gf_6_2 gz_6_2 rfl rfl fl_RX1_26 dX1_start_43, List.forall_mem_cons.mpr ⟨so_aload_n dX1_start_46 rfl, List.forall_mem_cons.mpr ⟨so_iconst dX1_start_47 (by decide), List.forall_mem_cons.mpr ⟨so_iload dX1_start_48, List.forall_mem_cons.mpr ⟨so_iconst dX1_start_50 (by decide), List.forall_mem_cons.mpr ⟨so_isub dX1_start_51, List.forall_mem_cons.mpr ⟨so_max (am_w3 106 rfl) mw_max_s mw_i mw_max_c dX1_start_52, List.forall_mem_cons.mpr ⟨so_pi (k := 1) cf_6 gf_6_1 gz_6_1 rfl rfl fl_RX1_29 dX1_start_55, List.forall_mem_cons.mpr ⟨so_aload dX1_start_58, List.forall_mem_cons.mpr ⟨so_aload_n dX1_start_60 rfl, List.forall_mem_cons.mpr ⟨so_gi (k := 2) cf_6 gf_6_2 gz_6_2 fl_RX1_26 dX1_start_61, List.forall_mem_cons.mpr ⟨so_aload_n dX1_start_64 rfl, List.forall_mem_cons.mpr ⟨so_cv rc_4 rfl mo_X6_enter ms_X6_enter mx_X6_enter ml_RX1_42 dX1_start_65, List.forall_mem_cons.mpr ⟨so_aload_n dX1_start_68 rfl, List.forall_mem_cons.mpr ⟨so_iconst dX1_start_69 (by decide), List.forall_mem_cons.mpr ⟨so_pi (k := 4) cf_6 gf_6_4 gz_6_4 rfl rfl fl_RX1_46 dX1_start_70, List.forall_mem_cons.mpr ⟨so_aload_n dX1_start_73 rfl, List.forall_mem_cons.mpr ⟨so_bipush dX1_start_74 (by decide), List.forall_mem_cons.mpr ⟨so_pi (k := 5) cf_6 gf_6_5 gz_6_5 rfl rfl fl_RX1_49 dX1_start_76, List.forall_mem_cons.mpr ⟨so_aload_n dX1_start_79 rfl, List.forall_mem_cons.mpr ⟨so_bipush dX1_start_80 (by decide), List.forall_mem_cons.mpr ⟨so_pi (k := 3) cf_6 gf_6_3 gz_6_3 rfl rfl fl_RX1_52 dX1_start_82, List.forall_mem_cons.mpr ⟨so_aload_n dX1_start_85 rfl, List.forall_mem_cons.mpr ⟨so_iconst dX1_start_86 (by decide), List.forall_mem_cons.mpr ⟨so_aload_n dX1_start_87 rfl, List.forall_mem_cons.mpr ⟨so_cv rc_6 rfl mo_X1_tryFrom ms_X1_tryFrom mx_X1_tryFrom ml_RX1_55 dX1_start_88, List.forall_mem_cons.mpr ⟨so_vret rfl dX1_start_91, fun _ h => absurd h List.not_mem_nil⟩⟩⟩⟩⟩⟩⟩⟩⟩⟩⟩⟩⟩⟩⟩⟩⟩⟩⟩⟩⟩⟩⟩⟩⟩⟩⟩⟩⟩⟩⟩⟩⟩⟩⟩⟩⟩⟩⟩⟩⟩⟩⟩⟩⟩⟩⟩⟩⟩⟩⟩
def pX1_tryFrom : List (Nat × am_O) := [(0, op_li 1 1), (1, op_if (fun x => x < 0) 10 4), (4, op_li 1 5), (5, op_c (6) 7), (7, op_ic (fun x y => x ≤ y) 11 10), (10, op_vret), (11, op_lr 0 12), (12, op_gr 6 0 15), (15, op_li 1 16), (16, op_aa 14 17), (17, op_ast 3 18), (18, op_li 1 19), (19, op_lr 0 20), (20, op_gi 6 1 23), (23, op_ic (fun x y => y ≤ x) 32 26), (26, op_li 1 27), (27, op_c (6) 29), (29, op_ic (fun x y => ¬ x = y) 60 32), (32, op_lr 3 33), (33, op_gi 4 2 36), (36, op_lr 0 37), (37, op_gi 6 4 40), (40, op_ic (fun x y => x ≤ y) 59 43), (43, op_lr 0 44), (44, op_lr 3 45), (45, op_gi 4 2 48), (48, op_pi 6 4 51), (51, op_lr 0 52), (52, op_lr 0 53), (53, op_gi 6 3 56), (56, op_pi 6 5 59), (59, op_vret), (60, op_lr 3 61), (61, op_gi 4 2 64), (64, op_lr 3 65), (65, op_lr 0 66), (66, op_gi 6 1 69), (69, op_li 1 70), (70, op_ii (fun x y => x - y) 71), (71, op_lr 2 72), (72, op_cs 11 3 12 75), (75, op_ii (fun x y => x + y) 76), (76, op_lr 0 77), (77, op_gi 6 4 80), (80, op_ic (fun x y => y < x) 84 83), (83, op_vret), (84, op_c (0) 85), (85, op_ist 4 87), (87, op_li 4 89), (89, op_c (7) 91), (91, op_ic (fun x y => y < x) 198 94), (94, op_li 4 96), (96, op_c (7) 98), (98, op_ic (fun x y => y ≤ x) 109 101), (101, op_li 4 103), (103, op_cs 107 1 1 106), (106, op_go 111), (109, op_c (9) 111), (111, op_ist 5 113), (113, op_li 1 114), (114, op_if (fun x => ¬ x = 0) 123 117), (117, op_lr 0 118), (118, op_li 5 120), (120, op_pi 6 3 123), (123, op_li 5 125), (125, op_c (9) 127), (127, op_ic (fun x y => x = y) 140 130), (130, op_lr 3 131), (131, op_li 5 133), (133, op_lr 2 134), (134, op_cv 4 50 3 4 137), (137, op_if (fun x => x = 0) 192 140), (140, op_lr 0 141), (141, op_gr 6 0 144), (144, op_li 1 145), (145, op_c (1) 146), (146, op_ii (fun x y => x + y) 147), (147, op_aa 14 148), (148, op_ast 6 150), (150, op_lr 6 152), (152, op_lr 3 153), (153, op_cv 4 45 2 2 156), (156, op_lr 6 158), (158, op_li 5 160), (160, op_lr 2 161), (161, op_lr 0 162), (162, op_gi 6 2 165), (165, op_li 1 166), (166, op_ii (fun x y => x + y) 167), (167, op_cv 4 51 4 4 170), (170, op_lr 6 172), (172, op_lr 0 173), (173, op_gi 6 2 176), (176, op_li 1 177), (177, op_ii (fun x y => x + y) 178), (178, op_c (1) 179), (179, op_ii (fun x y => x + y) 180), (180, op_lr 2 181), (181, op_cv 4 47 3 3 184), (184, op_lr 0 185), (185, op_li 1 186), (186, op_c (1) 187), (187, op_ii (fun x y => x + y) 188), (188, op_lr 2 189), (189, op_cv 6 10 3 7 192), (192, op_iinc 4 (1) 195), (195, op_go 87), (198, op_vret)]
set_option maxRecDepth 20000 in
theorem qX1_tryFrom : ∀ q ∈ pX1_tryFrom, am_So am_T (cX1_tryFrom, (7, (none, RX1))) q.1 q.2 := List.forall_mem_cons.mpr ⟨so_iload_n dX1_tryFrom_0 rfl, List.forall_mem_cons.mpr ⟨so_if_lt dX1_tryFrom_1 (by decide), List.forall_mem_cons.mpr ⟨so_iload_n dX1_tryFrom_4 rfl, List.forall_mem_cons.mpr ⟨so_bipush dX1_tryFrom_5 (by decide), List.forall_mem_cons.mpr ⟨so_ic_le dX1_tryFrom_7 (by decide), List.forall_mem_cons.mpr ⟨so_vret rfl dX1_tryFrom_10, List.forall_mem_cons.mpr ⟨so_aload_n dX1_tryFrom_11 rfl, List.forall_mem_cons.mpr ⟨so_gr (k := 0) cf_6 gf_6_0 gz_6_0 rl_6_0 fl_RX1_11 dX1_tryFrom_12, List.forall_mem_cons.mpr ⟨so_iload_n dX1_tryFrom_15 rfl, List.forall_mem_cons.mpr ⟨so_aa (t := 14) (by decide) ak_14 el_14 dX1_tryFrom_16, List.forall_mem_cons.mpr ⟨so_astore_n dX1_tryFrom_17 rfl (by decide), List.forall_mem_cons.mpr ⟨so_iload_n dX1_tryFrom_18 rfl, List.forall_mem_cons.mpr ⟨so_aload_n dX1_tryFrom_19 rfl, List.forall_mem_cons.mpr ⟨so_gi (k := 1) cf_6 gf_6_1 gz_6_1 fl_RX1_29 dX1_tryFrom_20, List.forall_mem_cons.mpr ⟨so_ic_ge dX1_tryFrom_23 (by decide), List.forall_mem_cons.mpr ⟨so_iload_n dX1_tryFrom_26 rfl, List.forall_mem_cons.mpr ⟨so_bipush dX1_tryFrom_27 (by decide), List.forall_mem_cons.mpr ⟨so_ic_ne dX1_tryFrom_29 (by decide), List.forall_mem_cons.mpr ⟨so_aload_n dX1_tryFrom_32 rfl, List.forall_mem_cons.mpr ⟨so_gi (k := 2) cf_4 gf_4_2 gz_4_2 fl_RX1_22 dX1_tryFrom_33, List.forall_mem_cons.mpr ⟨so_aload_n dX1_tryFrom_36 rfl, List.forall_mem_cons.mpr ⟨so_gi (k := 4) cf_6 gf_6_4 gz_6_4 fl_RX1_46 dX1_tryFrom_37, List.forall_mem_cons.mpr ⟨so_ic_le dX1_tryFrom_40 (by decide), List.forall_mem_cons.mpr ⟨so_aload_n dX1_tryFrom_43 rfl, List.forall_mem_cons.mpr ⟨so_aload_n dX1_tryFrom_44 rfl, List.forall_mem_cons.mpr ⟨so_gi (k := 2) cf_4 gf_4_2 gz_4_2 fl_RX1_22 dX1_tryFrom_45, List.forall_mem_cons.mpr ⟨so_pi (k := 4) cf_6 gf_6_4 gz_6_4 rfl rfl fl_RX1_46 dX1_tryFrom_48, List.forall_mem_cons.mpr ⟨so_aload_n dX1_tryFrom_51 rfl, List.forall_mem_cons.mpr ⟨so_aload_n dX1_tryFrom_52 rfl, List.forall_mem_cons.mpr ⟨so_gi (k := 3) cf_6 gf_6_3 gz_6_3 fl_RX1_52 dX1_tryFrom_53, List.forall_mem_cons.mpr ⟨so_pi (k := 5) cf_6 gf_6_5 gz_6_5 rfl rfl fl_RX1_49 dX1_tryFrom_56, List.forall_mem_cons.mpr ⟨so_vret rfl dX1_tryFrom_59, List.forall_mem_cons.mpr ⟨so_aload_n dX1_tryFrom_60 rfl, List.forall_mem_cons.mpr ⟨so_gi (k := 2) cf_4 gf_4_2 gz_4_2 fl_RX1_22 dX1_tryFrom_61, List.forall_mem_cons.mpr ⟨so_aload_n dX1_tryFrom_64 rfl, List.forall_mem_cons.mpr ⟨so_aload_n dX1_tryFrom_65 rfl, List.forall_mem_cons.mpr ⟨so_gi (k := 1) cf_6 gf_6_1 gz_6_1 fl_RX1_29 dX1_tryFrom_66, List.forall_mem_cons.mpr ⟨so_iload_n dX1_tryFrom_69 rfl, List.forall_mem_cons.mpr ⟨so_isub dX1_tryFrom_70, List.forall_mem_cons.mpr ⟨so_aload_n dX1_tryFrom_71 rfl, List.forall_mem_cons.mpr ⟨so_cs rfl mo_X1_mostStill ms_X1_mostStill ml_RX1_58 dX1_tryFrom_72, List.forall_mem_cons.mpr ⟨so_iadd dX1_tryFrom_75, List.forall_mem_cons.mpr ⟨so_aload_n dX1_tryFrom_76 rfl, List.forall_mem_cons.mpr ⟨so_gi (k := 4) cf_6 gf_6_4 gz_6_4 fl_RX1_46 dX1_tryFrom_77, List.forall_mem_cons.mpr ⟨so_ic_gt dX1_tryFrom_80 (by decide), List.forall_mem_cons.mpr ⟨so_vret rfl dX1_tryFrom_83, List.forall_mem_cons.mpr ⟨so_iconst dX1_tryFrom_84 (by decide), List.forall_mem_cons.mpr ⟨so_istore dX1_tryFrom_85 (by decide), List.forall_mem_cons.mpr ⟨so_iload dX1_tryFrom_87, List.forall_mem_cons.mpr ⟨so_bipush dX1_tryFrom_89 (by decide), List.forall_mem_cons.mpr ⟨so_ic_gt dX1_tryFrom_91 (by decide), List.forall_mem_cons.mpr ⟨so_iload dX1_tryFrom_94, List.forall_mem_cons.mpr ⟨so_bipush dX1_tryFrom_96 (by decide), List.forall_mem_cons.mpr ⟨so_ic_ge dX1_tryFrom_98 (by decide), List.forall_mem_cons.mpr ⟨so_iload dX1_tryFrom_101, List.forall_mem_cons.mpr ⟨so_cs rfl mo_X8_actAt ms_X8_actAt ml_RX1_62 dX1_tryFrom_103, List.forall_mem_cons.mpr ⟨so_goto dX1_tryFrom_106 (by decide), List.forall_mem_cons.mpr ⟨so_bipush dX1_tryFrom_109 (by decide), List.forall_mem_cons.mpr ⟨so_istore dX1_tryFrom_111 (by decide), List.forall_mem_cons.mpr ⟨so_iload_n dX1_tryFrom_113 rfl, List.forall_mem_cons.mpr ⟨so_if_ne dX1_tryFrom_114 (by decide), List.forall_mem_cons.mpr ⟨so_aload_n dX1_tryFrom_117 rfl, List.forall_mem_cons.mpr ⟨so_iload dX1_tryFrom_118, List.forall_mem_cons.mpr ⟨so_pi (k := 3) cf_6 gf_6_3 gz_6_3 rfl rfl fl_RX1_52 dX1_tryFrom_120, List.forall_mem_cons.mpr ⟨so_iload dX1_tryFrom_123, List.forall_mem_cons.mpr ⟨so_bipush dX1_tryFrom_125 (by decide), List.forall_mem_cons.mpr ⟨so_ic_eq dX1_tryFrom_127 (by decide), List.forall_mem_cons.mpr ⟨so_aload_n dX1_tryFrom_130 rfl, List.forall_mem_cons.mpr ⟨so_iload dX1_tryFrom_131, List.forall_mem_cons.mpr ⟨so_aload_n dX1_tryFrom_133 rfl, List.forall_mem_cons.mpr ⟨so_cv rc_4 rfl mo_X6_isFreeTo ms_X6_isFreeTo mx_X6_isFreeTo ml_RX1_66 dX1_tryFrom_134, List.forall_mem_cons.mpr ⟨so_if_eq dX1_tryFrom_137 (by decide), List.forall_mem_cons.mpr ⟨so_aload_n dX1_tryFrom_140 rfl, List.forall_mem_cons.mpr ⟨so_gr (k := 0) cf_6 gf_6_0 gz_6_0 rl_6_0 fl_RX1_11 dX1_tryFrom_141, List.forall_mem_cons.mpr ⟨so_iload_n dX1_tryFrom_144 rfl, List.forall_mem_cons.mpr ⟨so_iconst dX1_tryFrom_145 (by decide), List.forall_mem_cons.mpr ⟨so_iadd dX1_tryFrom_146, List.forall_mem_cons.mpr ⟨so_aa (t := 14) (by decide) ak_14 el_14 dX1_tryFrom_147, List.forall_mem_cons.mpr ⟨so_astore dX1_tryFrom_148 (by decide), List.forall_mem_cons.mpr ⟨so_aload dX1_tryFrom_150, List.forall_mem_cons.mpr ⟨so_aload_n dX1_tryFrom_152 rfl, List.forall_mem_cons.mpr ⟨so_cv rc_4 rfl mo_X6_copy ms_X6_copy mx_X6_copy ml_RX1_18 dX1_tryFrom_153, List.forall_mem_cons.mpr ⟨so_aload dX1_tryFrom_156, List.forall_mem_cons.mpr ⟨so_iload dX1_tryFrom_158, List.forall_mem_cons.mpr ⟨so_aload_n dX1_tryFrom_160 rfl, List.forall_mem_cons.mpr ⟨so_aload_n dX1_tryFrom_161 rfl, List.forall_mem_cons.mpr ⟨so_gi (k := 2) cf_6 gf_6_2 gz_6_2 fl_RX1_26 dX1_tryFrom_162, List.forall_mem_cons.mpr ⟨so_iload_n dX1_tryFrom_165 rfl, List.forall_mem_cons.mpr ⟨so_iadd dX1_tryFrom_166, List.forall_mem_cons.mpr ⟨so_cv rc_4 rfl mo_X6_does ms_X6_does mx_X6_does ml_RX1_70 dX1_tryFrom_167, List.forall_mem_cons.mpr ⟨so_aload dX1_tryFrom_170, List.forall_mem_cons.mpr ⟨so_aload_n dX1_tryFrom_172 rfl, List.forall_mem_cons.mpr ⟨so_gi (k := 2) cf_6 gf_6_2 gz_6_2 fl_RX1_26 dX1_tryFrom_173, List.forall_mem_cons.mpr ⟨so_iload_n dX1_tryFrom_176 rfl, List.forall_mem_cons.mpr ⟨so_iadd dX1_tryFrom_177, List.forall_mem_cons.mpr ⟨so_iconst dX1_tryFrom_178 (by decide), List.forall_mem_cons.mpr ⟨so_iadd dX1_tryFrom_179, List.forall_mem_cons.mpr ⟨so_aload_n dX1_tryFrom_180 rfl, List.forall_mem_cons.mpr ⟨so_cv rc_4 rfl mo_X6_enter ms_X6_enter mx_X6_enter ml_RX1_42 dX1_tryFrom_181, List.forall_mem_cons.mpr ⟨so_aload_n dX1_tryFrom_184 rfl, List.forall_mem_cons.mpr ⟨so_iload_n dX1_tryFrom_185 rfl, List.forall_mem_cons.mpr ⟨so_iconst dX1_tryFrom_186 (by decide), List.forall_mem_cons.mpr ⟨so_iadd dX1_tryFrom_187, List.forall_mem_cons.mpr ⟨so_aload_n dX1_tryFrom_188 rfl, List.forall_mem_cons.mpr ⟨so_cv rc_6 rfl mo_X1_tryFrom ms_X1_tryFrom mx_X1_tryFrom ml_RX1_55 dX1_tryFrom_189, List.forall_mem_cons.mpr ⟨so_iinc dX1_tryFrom_192 (by decide) (by decide), List.forall_mem_cons.mpr ⟨so_goto dX1_tryFrom_195 (by decide), List.forall_mem_cons.mpr ⟨so_vret rfl dX1_tryFrom_198, fun _ h => absurd h List.not_mem_nil⟩⟩⟩⟩⟩⟩⟩⟩⟩⟩⟩⟩⟩⟩⟩⟩⟩⟩⟩⟩⟩⟩⟩⟩⟩⟩⟩⟩⟩⟩⟩⟩⟩⟩⟩⟩⟩⟩⟩⟩⟩⟩⟩⟩⟩⟩⟩⟩⟩⟩⟩⟩⟩⟩⟩⟩⟩⟩⟩⟩⟩⟩⟩⟩⟩⟩⟩⟩⟩⟩⟩⟩⟩⟩⟩⟩⟩⟩⟩⟩⟩⟩⟩⟩⟩⟩⟩⟩⟩⟩⟩⟩⟩⟩⟩⟩⟩⟩⟩⟩⟩⟩⟩⟩⟩⟩⟩⟩
def pX1_mostStill : List (Nat × am_O) := [(0, op_li 1 1), (1, op_lr 0 2), (2, op_gi 4 3 5), (5, op_ii (fun x y => x - y) 6), (6, op_ist 3 7), (7, op_li 3 8), (8, op_if (fun x => 0 < x) 13 11), (11, op_c (0) 12), (12, op_iret), (13, op_lr 0 14), (14, op_gk 17), (17, op_gn [1, 1, 2, 1, 1] 20), (20, op_ist 4 22), (22, op_lr 0 23), (23, op_gr 4 0 26), (26, op_gi 5 1 29), (29, op_li 4 31), (31, op_li 3 32), (32, op_ii (fun x y => x * y) 33), (33, op_ii (fun x y => x + y) 34), (34, op_ist 5 36), (36, op_c (0) 37), (37, op_ist 6 39), (39, op_c (0) 40), (40, op_ist 7 42), (42, op_c (0) 43), (43, op_ist 8 45), (45, op_li 8 47), (47, op_c (4) 48), (48, op_ic (fun x y => y ≤ x) 149 51), (51, op_lr 0 52), (52, op_gk 55), (55, op_lr 2 56), (56, op_li 8 58), (58, op_cv 2 20 2 2 61), (61, op_cv 20 16 2 2 64), (64, op_ist 9 66), (66, op_lr 0 67), (67, op_gk 70), (70, op_lr 2 71), (71, op_li 8 73), (73, op_cv 2 19 2 2 76), (76, op_cv 20 15 2 2 79), (79, op_li 4 81), (81, op_ii (fun x y => x + y) 82), (82, op_ist 10 84), (84, op_lr 0 85), (85, op_gr 4 0 88), (88, op_lr 2 89), (89, op_li 8 91), (91, op_cv 2 21 2 2 94), (94, op_c (0) 95), (95, op_cv 5 3 3 5 98), (98, op_li 4 100), (100, op_li 3 101), (101, op_ii (fun x y => x * y) 102), (102, op_ii (fun x y => x + y) 103), (103, op_ist 11 105), (105, op_li 10 107), (107, op_if (fun x => x ≤ 0) 143 110), (110, op_li 11 112), (112, op_li 10 114), (114, op_ic (fun x y => x < y) 143 117), (117, op_li 6 119), (119, op_li 5 121), (121, op_li 9 123), (123, op_ii (fun x y => x * y) 124), (124, op_li 10 126), (126, op_iid (fun x y => x / y) 127), (127, op_mm (fun x y => if x < y then y else x) 130), (130, op_ist 6 132), (132, op_li 7 134), (134, op_li 9 136), (136, op_li 3 137), (137, op_ii (fun x y => x * y) 138), (138, op_mm (fun x y => if x < y then y else x) 141), (141, op_ist 7 143), (143, op_iinc 8 (1) 146), (146, op_go 45), (149, op_li 6 151), (151, op_li 7 153), (153, op_mm (fun x y => if y < x then y else x) 156), (156, op_iret)]
set_option maxRecDepth 20000 in
theorem qX1_mostStill : ∀ q ∈ pX1_mostStill, am_So am_T (cX1_mostStill, (12, ((some .int), RX1))) q.1 q.2 := List.forall_mem_cons.mpr ⟨so_iload_n dX1_mostStill_0 rfl, List.forall_mem_cons.mpr ⟨so_aload_n dX1_mostStill_1 rfl, List.forall_mem_cons.mpr ⟨so_gi (k := 3) cf_4 gf_4_3 gz_4_3 fl_RX1_74 dX1_mostStill_2, List.forall_mem_cons.mpr ⟨so_isub dX1_mostStill_5, List.forall_mem_cons.mpr ⟨so_istore_n dX1_mostStill_6 rfl (by decide), List.forall_mem_cons.mpr ⟨so_iload_n dX1_mostStill_7 rfl, List.forall_mem_cons.mpr ⟨so_if_gt dX1_mostStill_8 (by decide), List.forall_mem_cons.mpr ⟨so_iconst dX1_mostStill_11 (by decide), List.forall_mem_cons.mpr ⟨so_iret rfl dX1_mostStill_12, List.forall_mem_cons.mpr ⟨so_aload_n dX1_mostStill_13 rfl, List.forall_mem_cons.mpr ⟨so_gk cf_4 fl_RX1_77 dX1_mostStill_14, List.forall_mem_cons.mpr ⟨so_gn (n := "givenAWeek") (by decide +kernel) fl_RX1_81 dX1_mostStill_17, List.forall_mem_cons.mpr ⟨so_istore dX1_mostStill_20 (by decide), List.forall_mem_cons.mpr ⟨so_aload_n dX1_mostStill_22 rfl, List.forall_mem_cons.mpr ⟨so_gr (k := 0) cf_4 gf_4_0 gz_4_0 rl_4_0 fl_RX1_86 dX1_mostStill_23, List.forall_mem_cons.mpr ⟨so_gi (k := 1) cf_5 gf_5_1 gz_5_1 fl_RX1_90 dX1_mostStill_26, List.forall_mem_cons.mpr ⟨so_iload dX1_mostStill_29, List.forall_mem_cons.mpr ⟨so_iload_n dX1_mostStill_31 rfl, List.forall_mem_cons.mpr ⟨so_imul dX1_mostStill_32, List.forall_mem_cons.mpr ⟨so_iadd dX1_mostStill_33, List.forall_mem_cons.mpr ⟨so_istore dX1_mostStill_34 (by decide), List.forall_mem_cons.mpr ⟨so_iconst dX1_mostStill_36 (by decide), List.forall_mem_cons.mpr ⟨so_istore dX1_mostStill_37 (by decide), List.forall_mem_cons.mpr ⟨so_iconst dX1_mostStill_39 (by decide), List.forall_mem_cons.mpr ⟨so_istore dX1_mostStill_40 (by decide), List.forall_mem_cons.mpr ⟨so_iconst dX1_mostStill_42 (by decide), List.forall_mem_cons.mpr ⟨so_istore dX1_mostStill_43 (by decide), List.forall_mem_cons.mpr ⟨so_iload dX1_mostStill_45, List.forall_mem_cons.mpr ⟨so_iconst dX1_mostStill_47 (by decide), List.forall_mem_cons.mpr ⟨so_ic_ge dX1_mostStill_48 (by decide), List.forall_mem_cons.mpr ⟨so_aload_n dX1_mostStill_51 rfl, List.forall_mem_cons.mpr ⟨so_gk cf_4 fl_RX1_77 dX1_mostStill_52, List.forall_mem_cons.mpr ⟨so_aload_n dX1_mostStill_55 rfl, List.forall_mem_cons.mpr ⟨so_iload dX1_mostStill_56, List.forall_mem_cons.mpr ⟨so_cv rc_2 rfl mo_X3_worthOf ms_X3_worthOf mx_X3_worthOf ml_RX1_95 dX1_mostStill_58, List.forall_mem_cons.mpr ⟨so_cv rc_20 rfl mo_X2_gets ms_X2_gets mx_X2_gets ml_RX1_100 dX1_mostStill_61, List.forall_mem_cons.mpr ⟨so_istore dX1_mostStill_64 (by decide), List.forall_mem_cons.mpr ⟨so_aload_n dX1_mostStill_66 rfl, List.forall_mem_cons.mpr ⟨so_gk cf_4 fl_RX1_77 dX1_mostStill_67, List.forall_mem_cons.mpr ⟨so_aload_n dX1_mostStill_70 rfl, List.forall_mem_cons.mpr ⟨so_iload dX1_mostStill_71, List.forall_mem_cons.mpr ⟨so_cv rc_2 rfl mo_X3_termOf ms_X3_termOf mx_X3_termOf ml_RX1_103 dX1_mostStill_73, List.forall_mem_cons.mpr ⟨so_cv rc_20 rfl mo_X2_needs ms_X2_needs mx_X2_needs ml_RX1_106 dX1_mostStill_76, List.forall_mem_cons.mpr ⟨so_iload dX1_mostStill_79, List.forall_mem_cons.mpr ⟨so_iadd dX1_mostStill_81, List.forall_mem_cons.mpr ⟨so_istore dX1_mostStill_82 (by decide), List.forall_mem_cons.mpr ⟨so_aload_n dX1_mostStill_84 rfl, List.forall_mem_cons.mpr ⟨so_gr (k := 0) cf_4 gf_4_0 gz_4_0 rl_4_0 fl_RX1_86 dX1_mostStill_85, List.forall_mem_cons.mpr ⟨so_aload_n dX1_mostStill_88 rfl, List.forall_mem_cons.mpr ⟨so_iload dX1_mostStill_89, List.forall_mem_cons.mpr ⟨so_cv rc_2 rfl mo_X3_sortsOf ms_X3_sortsOf mx_X3_sortsOf ml_RX1_109 dX1_mostStill_91, List.forall_mem_cons.mpr ⟨so_iconst dX1_mostStill_94 (by decide), List.forall_mem_cons.mpr ⟨so_cv rc_5 rfl mo_X0_howMany ms_X0_howMany mx_X0_howMany ml_RX1_112 dX1_mostStill_95, List.forall_mem_cons.mpr ⟨so_iload dX1_mostStill_98, List.forall_mem_cons.mpr ⟨so_iload_n dX1_mostStill_100 rfl, List.forall_mem_cons.mpr ⟨so_imul dX1_mostStill_101, List.forall_mem_cons.mpr ⟨so_iadd dX1_mostStill_102, List.forall_mem_cons.mpr ⟨so_istore dX1_mostStill_103 (by decide), List.forall_mem_cons.mpr ⟨so_iload dX1_mostStill_105, List.forall_mem_cons.mpr ⟨so_if_le dX1_mostStill_107 (by decide), List.forall_mem_cons.mpr ⟨so_iload dX1_mostStill_110, List.forall_mem_cons.mpr ⟨so_iload dX1_mostStill_112, List.forall_mem_cons.mpr ⟨so_ic_lt dX1_mostStill_114 (by decide), List.forall_mem_cons.mpr ⟨so_iload dX1_mostStill_117, List.forall_mem_cons.mpr ⟨so_iload dX1_mostStill_119, List.forall_mem_cons.mpr ⟨so_iload dX1_mostStill_121, List.forall_mem_cons.mpr ⟨so_imul dX1_mostStill_123, List.forall_mem_cons.mpr ⟨so_iload dX1_mostStill_124, List.forall_mem_cons.mpr ⟨so_idiv dX1_mostStill_126, List.forall_mem_cons.mpr ⟨so_max (am_w3 106 rfl) mw_max_s mw_i mw_max_c dX1_mostStill_127, List.forall_mem_cons.mpr ⟨so_istore dX1_mostStill_130 (by decide), List.forall_mem_cons.mpr ⟨so_iload dX1_mostStill_132, List.forall_mem_cons.mpr ⟨so_iload dX1_mostStill_134, List.forall_mem_cons.mpr ⟨so_iload_n dX1_mostStill_136 rfl, List.forall_mem_cons.mpr ⟨so_imul dX1_mostStill_137, List.forall_mem_cons.mpr ⟨so_max (am_w3 106 rfl) mw_max_s mw_i mw_max_c dX1_mostStill_138, List.forall_mem_cons.mpr ⟨so_istore dX1_mostStill_141 (by decide), List.forall_mem_cons.mpr ⟨so_iinc dX1_mostStill_143 (by decide) (by decide), List.forall_mem_cons.mpr ⟨so_goto dX1_mostStill_146 (by decide), List.forall_mem_cons.mpr ⟨so_iload dX1_mostStill_149, List.forall_mem_cons.mpr ⟨so_iload dX1_mostStill_151, List.forall_mem_cons.mpr ⟨so_min (am_w3 121 rfl) mw_min_s mw_i mw_min_c dX1_mostStill_153, List.forall_mem_cons.mpr ⟨so_iret rfl dX1_mostStill_156, fun _ h => absurd h List.not_mem_nil⟩⟩⟩⟩⟩⟩⟩⟩⟩⟩⟩⟩⟩⟩⟩⟩⟩⟩⟩⟩⟩⟩⟩⟩⟩⟩⟩⟩⟩⟩⟩⟩⟩⟩⟩⟩⟩⟩⟩⟩⟩⟩⟩⟩⟩⟩⟩⟩⟩⟩⟩⟩⟩⟩⟩⟩⟩⟩⟩⟩⟩⟩⟩⟩⟩⟩⟩⟩⟩⟩⟩⟩⟩⟩⟩⟩⟩⟩⟩⟩⟩⟩⟩
def pX2_isNumber : List (Nat × am_O) := [(0, op_li 0 1), (1, op_if (fun x => x < 0) 16 4), (4, op_li 0 5), (5, op_gs 22 0 8), (8, op_tl 22 5 9), (9, op_ic (fun x y => y ≤ x) 16 12), (12, op_c (1) 13), (13, op_go 17), (16, op_c (0) 17), (17, op_zret)]
set_option maxRecDepth 20000 in
theorem qX2_isNumber : ∀ q ∈ pX2_isNumber, am_So am_T (cX2_isNumber, (1, ((some .boolean), RX2))) q.1 q.2 := List.forall_mem_cons.mpr ⟨so_iload_n dX2_isNumber_0 rfl, List.forall_mem_cons.mpr ⟨so_if_lt dX2_isNumber_1 (by decide), List.forall_mem_cons.mpr ⟨so_iload_n dX2_isNumber_4 rfl, List.forall_mem_cons.mpr ⟨so_gs22 fl_RX2_54 dX2_isNumber_5, List.forall_mem_cons.mpr ⟨so_tl22 dX2_isNumber_8, List.forall_mem_cons.mpr ⟨so_ic_ge dX2_isNumber_9 (by decide), List.forall_mem_cons.mpr ⟨so_iconst dX2_isNumber_12 (by decide), List.forall_mem_cons.mpr ⟨so_goto dX2_isNumber_13 (by decide), List.forall_mem_cons.mpr ⟨so_iconst dX2_isNumber_16 (by decide), List.forall_mem_cons.mpr ⟨so_zret rfl dX2_isNumber_17, fun _ h => absurd h List.not_mem_nil⟩⟩⟩⟩⟩⟩⟩⟩⟩⟩
def pX2_numbered : List (Nat × am_O) := [(0, op_li 0 1), (1, op_if (fun x => x < 0) 20 4), (4, op_li 0 5), (5, op_gs 22 0 8), (8, op_tl 22 5 9), (9, op_ic (fun x y => y ≤ x) 20 12), (12, op_gs 22 0 15), (15, op_li 0 16), (16, op_tk 17), (17, op_go 23), (20, op_gs 20 0 23), (23, op_aret)]
set_option maxRecDepth 20000 in
theorem qX2_numbered : ∀ q ∈ pX2_numbered, am_So am_T (cX2_numbered, (1, ((some (.object "ServedAhead$Kind")), RX2))) q.1 q.2 := List.forall_mem_cons.mpr ⟨so_iload_n dX2_numbered_0 rfl, List.forall_mem_cons.mpr ⟨so_if_lt dX2_numbered_1 (by decide), List.forall_mem_cons.mpr ⟨so_iload_n dX2_numbered_4 rfl, List.forall_mem_cons.mpr ⟨so_gs22 fl_RX2_54 dX2_numbered_5, List.forall_mem_cons.mpr ⟨so_tl22 dX2_numbered_8, List.forall_mem_cons.mpr ⟨so_ic_ge dX2_numbered_9 (by decide), List.forall_mem_cons.mpr ⟨so_gs22 fl_RX2_54 dX2_numbered_12, List.forall_mem_cons.mpr ⟨so_iload_n dX2_numbered_15 rfl, List.forall_mem_cons.mpr ⟨so_tk dX2_numbered_16, List.forall_mem_cons.mpr ⟨so_goto dX2_numbered_17 (by decide), List.forall_mem_cons.mpr ⟨so_gs20 (i := 0) (by decide) rfl fl_RX2_3 dX2_numbered_20, List.forall_mem_cons.mpr ⟨so_aret (cn := "ServedAhead$Kind") rfl dX2_numbered_23, fun _ h => absurd h List.not_mem_nil⟩⟩⟩⟩⟩⟩⟩⟩⟩⟩⟩⟩
def pX2_isA : List (Nat × am_O) := [(0, op_lr 0 1), (1, op_lr 1 2), (2, op_aeq 26 5), (5, op_lr 1 6), (6, op_gs 20 0 9), (9, op_aeq 26 12), (12, op_lr 0 13), (13, op_gs 20 4 16), (16, op_ane 30 19), (19, op_lr 1 20), (20, op_gs 20 3 23), (23, op_ane 30 26), (26, op_c (1) 27), (27, op_go 31), (30, op_c (0) 31), (31, op_zret)]
set_option maxRecDepth 20000 in
theorem qX2_isA : ∀ q ∈ pX2_isA, am_So am_T (cX2_isA, (2, ((some .boolean), RX2))) q.1 q.2 := List.forall_mem_cons.mpr ⟨so_aload_n dX2_isA_0 rfl, List.forall_mem_cons.mpr ⟨so_aload_n dX2_isA_1 rfl, List.forall_mem_cons.mpr ⟨so_aeq dX2_isA_2 (by decide), List.forall_mem_cons.mpr ⟨so_aload_n dX2_isA_5 rfl, List.forall_mem_cons.mpr ⟨so_gs20 (i := 0) (by decide) rfl fl_RX2_3 dX2_isA_6, List.forall_mem_cons.mpr ⟨so_aeq dX2_isA_9 (by decide), List.forall_mem_cons.mpr ⟨so_aload_n dX2_isA_12 rfl, List.forall_mem_cons.mpr ⟨so_gs20 (i := 4) (by decide) rfl fl_RX2_16 dX2_isA_13, List.forall_mem_cons.mpr ⟨so_ane dX2_isA_16 (by decide), List.forall_mem_cons.mpr ⟨so_aload_n dX2_isA_19 rfl, List.forall_mem_cons.mpr ⟨so_gs20 (i := 3) (by decide) rfl fl_RX2_13 dX2_isA_20, List.forall_mem_cons.mpr ⟨so_ane dX2_isA_23 (by decide), List.forall_mem_cons.mpr ⟨so_iconst dX2_isA_26 (by decide), List.forall_mem_cons.mpr ⟨so_goto dX2_isA_27 (by decide), List.forall_mem_cons.mpr ⟨so_iconst dX2_isA_30 (by decide), List.forall_mem_cons.mpr ⟨so_zret rfl dX2_isA_31, fun _ h => absurd h List.not_mem_nil⟩⟩⟩⟩⟩⟩⟩⟩⟩⟩⟩⟩⟩⟩⟩⟩
def pX2_needs : List (Nat × am_O) := [(0, op_c (1) 1), (1, op_li 1 2), (2, op_lr 0 3), (3, op_gn [0, 1, 0, 0, 0] 6), (6, op_ii (fun x y => x - y) 7), (7, op_mm (fun x y => if x < y then y else x) 10), (10, op_iret)]
set_option maxRecDepth 20000 in
theorem qX2_needs : ∀ q ∈ pX2_needs, am_So am_T (cX2_needs, (2, ((some .int), RX2))) q.1 q.2 := List.forall_mem_cons.mpr ⟨so_iconst dX2_needs_0 (by decide), List.forall_mem_cons.mpr ⟨so_iload_n dX2_needs_1 rfl, List.forall_mem_cons.mpr ⟨so_aload_n dX2_needs_2 rfl, List.forall_mem_cons.mpr ⟨so_gn (n := "needsLess") (by decide +kernel) fl_RX2_42 dX2_needs_3, List.forall_mem_cons.mpr ⟨so_isub dX2_needs_6, List.forall_mem_cons.mpr ⟨so_max (am_w2 238 rfl) mw_max_s mw_i mw_max_c dX2_needs_7, List.forall_mem_cons.mpr ⟨so_iret rfl dX2_needs_10, fun _ h => absurd h List.not_mem_nil⟩⟩⟩⟩⟩⟩⟩
def pX2_gets : List (Nat × am_O) := [(0, op_li 1 1), (1, op_lr 0 2), (2, op_gn [0, 0, 0, 1, 1] 5), (5, op_ii (fun x y => x + y) 6), (6, op_iret)]
set_option maxRecDepth 20000 in
theorem qX2_gets : ∀ q ∈ pX2_gets, am_So am_T (cX2_gets, (2, ((some .int), RX2))) q.1 q.2 := List.forall_mem_cons.mpr ⟨so_iload_n dX2_gets_0 rfl, List.forall_mem_cons.mpr ⟨so_aload_n dX2_gets_1 rfl, List.forall_mem_cons.mpr ⟨so_gn (n := "getsMore") (by decide +kernel) fl_RX2_45 dX2_gets_2, List.forall_mem_cons.mpr ⟨so_iadd dX2_gets_5, List.forall_mem_cons.mpr ⟨so_iret rfl dX2_gets_6, fun _ h => absurd h List.not_mem_nil⟩⟩⟩⟩⟩
def pX2_owesFor : List (Nat × am_O) := [(0, op_li 1 1), (1, op_lr 0 2), (2, op_gn [2, 2, 2, 2, 1] 5), (5, op_ii (fun x y => x * y) 6), (6, op_iret)]
set_option maxRecDepth 20000 in
theorem qX2_owesFor : ∀ q ∈ pX2_owesFor, am_So am_T (cX2_owesFor, (2, ((some .int), RX2))) q.1 q.2 := List.forall_mem_cons.mpr ⟨so_iload_n dX2_owesFor_0 rfl, List.forall_mem_cons.mpr ⟨so_aload_n dX2_owesFor_1 rfl, List.forall_mem_cons.mpr ⟨so_gn (n := "owesTimes") (by decide +kernel) fl_RX2_51 dX2_owesFor_2, List.forall_mem_cons.mpr ⟨so_imul dX2_owesFor_5, List.forall_mem_cons.mpr ⟨so_iret rfl dX2_owesFor_6, fun _ h => absurd h List.not_mem_nil⟩⟩⟩⟩⟩
def pX3_copy : List (Nat × am_O) := [(0, op_c (0) 1), (1, op_ist 2 2), (2, op_li 2 3), (3, op_c (4) 4), (4, op_ic (fun x y => y ≤ x) 49 7), (7, op_lr 0 8), (8, op_gr 2 0 11), (11, op_li 2 12), (12, op_lr 1 13), (13, op_gr 2 0 16), (16, op_li 2 17), (17, op_ia 9 18), (18, op_is 9 19), (19, op_lr 0 20), (20, op_gr 2 1 23), (23, op_li 2 24), (24, op_lr 1 25), (25, op_gr 2 1 28), (28, op_li 2 29), (29, op_ia 10 30), (30, op_is 10 31), (31, op_lr 0 32), (32, op_gr 2 2 35), (35, op_li 2 36), (36, op_lr 1 37), (37, op_gr 2 2 40), (40, op_li 2 41), (41, op_ia 11 42), (42, op_is 11 43), (43, op_iinc 2 (1) 46), (46, op_go 2), (49, op_lr 0 50), (50, op_lr 1 51), (51, op_gi 2 3 54), (54, op_pi 2 3 57), (57, op_vret)]
set_option maxRecDepth 20000 in
theorem qX3_copy : ∀ q ∈ pX3_copy, am_So am_T (cX3_copy, (3, (none, RX3))) q.1 q.2 := List.forall_mem_cons.mpr ⟨so_iconst dX3_copy_0 (by decide), List.forall_mem_cons.mpr ⟨so_istore_n dX3_copy_1 rfl (by decide), List.forall_mem_cons.mpr ⟨so_iload_n dX3_copy_2 rfl, List.forall_mem_cons.mpr ⟨so_iconst dX3_copy_3 (by decide), List.forall_mem_cons.mpr ⟨so_ic_ge dX3_copy_4 (by decide), List.forall_mem_cons.mpr ⟨so_aload_n dX3_copy_7 rfl, List.forall_mem_cons.mpr ⟨so_gr (k := 0) cf_2 gf_2_0 gz_2_0 rl_2_0 fl_RX3_9 dX3_copy_8, List.forall_mem_cons.mpr ⟨so_iload_n dX3_copy_11 rfl, List.forall_mem_cons.mpr ⟨so_aload_n dX3_copy_12 rfl, List.forall_mem_cons.mpr ⟨so_gr (k := 0) cf_2 gf_2_0 gz_2_0 rl_2_0 fl_RX3_9 dX3_copy_13, List.forall_mem_cons.mpr ⟨so_iload_n dX3_copy_16 rfl, List.forall_mem_cons.mpr ⟨so_ia (t := 9) (by decide) (Or.inl ⟨ak_9, dX3_copy_17⟩), List.forall_mem_cons.mpr ⟨so_is (t := 9) (by decide) ak_9 dX3_copy_18, List.forall_mem_cons.mpr ⟨so_aload_n dX3_copy_19 rfl, List.forall_mem_cons.mpr ⟨so_gr (k := 1) cf_2 gf_2_1 gz_2_1 rl_2_1 fl_RX3_15 dX3_copy_20, List.forall_mem_cons.mpr ⟨so_iload_n dX3_copy_23 rfl, List.forall_mem_cons.mpr ⟨so_aload_n dX3_copy_24 rfl, List.forall_mem_cons.mpr ⟨so_gr (k := 1) cf_2 gf_2_1 gz_2_1 rl_2_1 fl_RX3_15 dX3_copy_25, List.forall_mem_cons.mpr ⟨so_iload_n dX3_copy_28 rfl, List.forall_mem_cons.mpr ⟨so_ia (t := 10) (by decide) (Or.inl ⟨ak_10, dX3_copy_29⟩), List.forall_mem_cons.mpr ⟨so_is (t := 10) (by decide) ak_10 dX3_copy_30, List.forall_mem_cons.mpr ⟨so_aload_n dX3_copy_31 rfl, List.forall_mem_cons.mpr ⟨so_gr (k := 2) cf_2 gf_2_2 gz_2_2 rl_2_2 fl_RX3_18 dX3_copy_32, List.forall_mem_cons.mpr ⟨so_iload_n dX3_copy_35 rfl, List.forall_mem_cons.mpr ⟨so_aload_n dX3_copy_36 rfl, List.forall_mem_cons.mpr ⟨so_gr (k := 2) cf_2 gf_2_2 gz_2_2 rl_2_2 fl_RX3_18 dX3_copy_37, List.forall_mem_cons.mpr ⟨so_iload_n dX3_copy_40 rfl, List.forall_mem_cons.mpr ⟨so_ia (t := 11) (by decide) (Or.inl ⟨ak_11, dX3_copy_41⟩), List.forall_mem_cons.mpr ⟨so_is (t := 11) (by decide) ak_11 dX3_copy_42, List.forall_mem_cons.mpr ⟨so_iinc dX3_copy_43 (by decide) (by decide), List.forall_mem_cons.mpr ⟨so_goto dX3_copy_46 (by decide), List.forall_mem_cons.mpr ⟨so_aload_n dX3_copy_49 rfl, List.forall_mem_cons.mpr ⟨so_aload_n dX3_copy_50 rfl, List.forall_mem_cons.mpr ⟨so_gi (k := 3) cf_2 gf_2_3 gz_2_3 fl_RX3_21 dX3_copy_51, List.forall_mem_cons.mpr ⟨so_pi (k := 3) cf_2 gf_2_3 gz_2_3 rfl rfl fl_RX3_21 dX3_copy_54, List.forall_mem_cons.mpr ⟨so_vret rfl dX3_copy_57, fun _ h => absurd h List.not_mem_nil⟩⟩⟩⟩⟩⟩⟩⟩⟩⟩⟩⟩⟩⟩⟩⟩⟩⟩⟩⟩⟩⟩⟩⟩⟩⟩⟩⟩⟩⟩⟩⟩⟩⟩⟩⟩
def pX3_termOf : List (Nat × am_O) := [(0, op_li 1 1), (1, op_cs 102 1 1 4), (4, op_if (fun x => x = 0) 16 7), (7, op_lr 0 8), (8, op_gr 2 0 11), (11, op_li 1 12), (12, op_ia 9 13), (13, op_go 17), (16, op_c (0) 17), (17, op_iret)]
set_option maxRecDepth 20000 in
theorem qX3_termOf : ∀ q ∈ pX3_termOf, am_So am_T (cX3_termOf, (2, ((some .int), RX3))) q.1 q.2 := List.forall_mem_cons.mpr ⟨so_iload_n dX3_termOf_0 rfl, List.forall_mem_cons.mpr ⟨so_cs rfl mo_X8_isDeed ms_X8_isDeed ml_RX3_25 dX3_termOf_1, List.forall_mem_cons.mpr ⟨so_if_eq dX3_termOf_4 (by decide), List.forall_mem_cons.mpr ⟨so_aload_n dX3_termOf_7 rfl, List.forall_mem_cons.mpr ⟨so_gr (k := 0) cf_2 gf_2_0 gz_2_0 rl_2_0 fl_RX3_9 dX3_termOf_8, List.forall_mem_cons.mpr ⟨so_iload_n dX3_termOf_11 rfl, List.forall_mem_cons.mpr ⟨so_ia (t := 9) (by decide) (Or.inl ⟨ak_9, dX3_termOf_12⟩), List.forall_mem_cons.mpr ⟨so_goto dX3_termOf_13 (by decide), List.forall_mem_cons.mpr ⟨so_iconst dX3_termOf_16 (by decide), List.forall_mem_cons.mpr ⟨so_iret rfl dX3_termOf_17, fun _ h => absurd h List.not_mem_nil⟩⟩⟩⟩⟩⟩⟩⟩⟩⟩
def pX3_worthOf : List (Nat × am_O) := [(0, op_li 1 1), (1, op_cs 102 1 1 4), (4, op_if (fun x => x = 0) 16 7), (7, op_lr 0 8), (8, op_gr 2 1 11), (11, op_li 1 12), (12, op_ia 10 13), (13, op_go 17), (16, op_c (0) 17), (17, op_iret)]
set_option maxRecDepth 20000 in
theorem qX3_worthOf : ∀ q ∈ pX3_worthOf, am_So am_T (cX3_worthOf, (2, ((some .int), RX3))) q.1 q.2 := List.forall_mem_cons.mpr ⟨so_iload_n dX3_worthOf_0 rfl, List.forall_mem_cons.mpr ⟨so_cs rfl mo_X8_isDeed ms_X8_isDeed ml_RX3_25 dX3_worthOf_1, List.forall_mem_cons.mpr ⟨so_if_eq dX3_worthOf_4 (by decide), List.forall_mem_cons.mpr ⟨so_aload_n dX3_worthOf_7 rfl, List.forall_mem_cons.mpr ⟨so_gr (k := 1) cf_2 gf_2_1 gz_2_1 rl_2_1 fl_RX3_15 dX3_worthOf_8, List.forall_mem_cons.mpr ⟨so_iload_n dX3_worthOf_11 rfl, List.forall_mem_cons.mpr ⟨so_ia (t := 10) (by decide) (Or.inl ⟨ak_10, dX3_worthOf_12⟩), List.forall_mem_cons.mpr ⟨so_goto dX3_worthOf_13 (by decide), List.forall_mem_cons.mpr ⟨so_iconst dX3_worthOf_16 (by decide), List.forall_mem_cons.mpr ⟨so_iret rfl dX3_worthOf_17, fun _ h => absurd h List.not_mem_nil⟩⟩⟩⟩⟩⟩⟩⟩⟩⟩
def pX3_sortsOf : List (Nat × am_O) := [(0, op_li 1 1), (1, op_cs 102 1 1 4), (4, op_if (fun x => x = 0) 16 7), (7, op_lr 0 8), (8, op_gr 2 2 11), (11, op_li 1 12), (12, op_ia 11 13), (13, op_go 17), (16, op_c (0) 17), (17, op_iret)]
set_option maxRecDepth 20000 in
theorem qX3_sortsOf : ∀ q ∈ pX3_sortsOf, am_So am_T (cX3_sortsOf, (2, ((some .int), RX3))) q.1 q.2 := List.forall_mem_cons.mpr ⟨so_iload_n dX3_sortsOf_0 rfl, List.forall_mem_cons.mpr ⟨so_cs rfl mo_X8_isDeed ms_X8_isDeed ml_RX3_25 dX3_sortsOf_1, List.forall_mem_cons.mpr ⟨so_if_eq dX3_sortsOf_4 (by decide), List.forall_mem_cons.mpr ⟨so_aload_n dX3_sortsOf_7 rfl, List.forall_mem_cons.mpr ⟨so_gr (k := 2) cf_2 gf_2_2 gz_2_2 rl_2_2 fl_RX3_18 dX3_sortsOf_8, List.forall_mem_cons.mpr ⟨so_iload_n dX3_sortsOf_11 rfl, List.forall_mem_cons.mpr ⟨so_ia (t := 11) (by decide) (Or.inl ⟨ak_11, dX3_sortsOf_12⟩), List.forall_mem_cons.mpr ⟨so_goto dX3_sortsOf_13 (by decide), List.forall_mem_cons.mpr ⟨so_iconst dX3_sortsOf_16 (by decide), List.forall_mem_cons.mpr ⟨so_iret rfl dX3_sortsOf_17, fun _ h => absurd h List.not_mem_nil⟩⟩⟩⟩⟩⟩⟩⟩⟩⟩
def pX3_allTerms : List (Nat × am_O) := [(0, op_c (0) 1), (1, op_ist 1 2), (2, op_c (0) 3), (3, op_ist 2 4), (4, op_li 2 5), (5, op_c (4) 6), (6, op_ic (fun x y => y ≤ x) 24 9), (9, op_li 1 10), (10, op_lr 0 11), (11, op_gr 2 0 14), (14, op_li 2 15), (15, op_ia 9 16), (16, op_ii (fun x y => x + y) 17), (17, op_ist 1 18), (18, op_iinc 2 (1) 21), (21, op_go 4), (24, op_li 1 25), (25, op_iret)]
set_option maxRecDepth 20000 in
theorem qX3_allTerms : ∀ q ∈ pX3_allTerms, am_So am_T (cX3_allTerms, (3, ((some .int), RX3))) q.1 q.2 := List.forall_mem_cons.mpr ⟨so_iconst dX3_allTerms_0 (by decide), List.forall_mem_cons.mpr ⟨so_istore_n dX3_allTerms_1 rfl (by decide), List.forall_mem_cons.mpr ⟨so_iconst dX3_allTerms_2 (by decide), List.forall_mem_cons.mpr ⟨so_istore_n dX3_allTerms_3 rfl (by decide), List.forall_mem_cons.mpr ⟨so_iload_n dX3_allTerms_4 rfl, List.forall_mem_cons.mpr ⟨so_iconst dX3_allTerms_5 (by decide), List.forall_mem_cons.mpr ⟨so_ic_ge dX3_allTerms_6 (by decide), List.forall_mem_cons.mpr ⟨so_iload_n dX3_allTerms_9 rfl, List.forall_mem_cons.mpr ⟨so_aload_n dX3_allTerms_10 rfl, List.forall_mem_cons.mpr ⟨so_gr (k := 0) cf_2 gf_2_0 gz_2_0 rl_2_0 fl_RX3_9 dX3_allTerms_11, List.forall_mem_cons.mpr ⟨so_iload_n dX3_allTerms_14 rfl, List.forall_mem_cons.mpr ⟨so_ia (t := 9) (by decide) (Or.inl ⟨ak_9, dX3_allTerms_15⟩), List.forall_mem_cons.mpr ⟨so_iadd dX3_allTerms_16, List.forall_mem_cons.mpr ⟨so_istore_n dX3_allTerms_17 rfl (by decide), List.forall_mem_cons.mpr ⟨so_iinc dX3_allTerms_18 (by decide) (by decide), List.forall_mem_cons.mpr ⟨so_goto dX3_allTerms_21 (by decide), List.forall_mem_cons.mpr ⟨so_iload_n dX3_allTerms_24 rfl, List.forall_mem_cons.mpr ⟨so_iret rfl dX3_allTerms_25, fun _ h => absurd h List.not_mem_nil⟩⟩⟩⟩⟩⟩⟩⟩⟩⟩⟩⟩⟩⟩⟩⟩⟩⟩
def pX3_firstThatCounts : List (Nat × am_O) := [(0, op_li 1 1), (1, op_lr 0 2), (2, op_gi 2 3 5), (5, op_ii (fun x y => x - y) 6), (6, op_iret)]
set_option maxRecDepth 20000 in
theorem qX3_firstThatCounts : ∀ q ∈ pX3_firstThatCounts, am_So am_T (cX3_firstThatCounts, (2, ((some .int), RX3))) q.1 q.2 := List.forall_mem_cons.mpr ⟨so_iload_n dX3_firstThatCounts_0 rfl, List.forall_mem_cons.mpr ⟨so_aload_n dX3_firstThatCounts_1 rfl, List.forall_mem_cons.mpr ⟨so_gi (k := 3) cf_2 gf_2_3 gz_2_3 fl_RX3_21 dX3_firstThatCounts_2, List.forall_mem_cons.mpr ⟨so_isub dX3_firstThatCounts_5, List.forall_mem_cons.mpr ⟨so_iret rfl dX3_firstThatCounts_6, fun _ h => absurd h List.not_mem_nil⟩⟩⟩⟩⟩
def pX4_close : List (Nat × am_O) := [(0, op_lr 0 1), (1, op_c (0) 2), (2, op_pz 7 2 5), (5, op_lr 0 6), (6, op_c (0) 7), (7, op_pi 7 3 10), (10, op_vret)]
set_option maxRecDepth 20000 in
theorem qX4_close : ∀ q ∈ pX4_close, am_So am_T (cX4_close, (1, (none, RX4))) q.1 q.2 := List.forall_mem_cons.mpr ⟨so_aload_n dX4_close_0 rfl, List.forall_mem_cons.mpr ⟨so_iconst dX4_close_1 (by decide), List.forall_mem_cons.mpr ⟨so_pz (k := 2) cf_7 gf_7_2 gz_7_2 rfl rfl fl_RX4_22 dX4_close_2, List.forall_mem_cons.mpr ⟨so_aload_n dX4_close_5 rfl, List.forall_mem_cons.mpr ⟨so_iconst dX4_close_6 (by decide), List.forall_mem_cons.mpr ⟨so_pi (k := 3) cf_7 gf_7_3 gz_7_3 rfl rfl fl_RX4_26 dX4_close_7, List.forall_mem_cons.mpr ⟨so_vret rfl dX4_close_10, fun _ h => absurd h List.not_mem_nil⟩⟩⟩⟩⟩⟩⟩
def pX4_open : List (Nat × am_O) := [(0, op_lr 0 1), (1, op_c (1) 2), (2, op_pz 7 2 5), (5, op_lr 0 6), (6, op_c (0) 7), (7, op_pi 7 3 10), (10, op_lr 0 11), (11, op_li 2 12), (12, op_pi 7 4 15), (15, op_lr 0 16), (16, op_gr 7 1 19), (19, op_c (0) 20), (20, op_aa 16 21), (21, op_lr 1 22), (22, op_cv 4 45 2 2 25), (25, op_vret)]
set_option maxRecDepth 20000 in
theorem qX4_open : ∀ q ∈ pX4_open, am_So am_T (cX4_open, (3, (none, RX4))) q.1 q.2 := List.forall_mem_cons.mpr ⟨so_aload_n dX4_open_0 rfl, List.forall_mem_cons.mpr ⟨so_iconst dX4_open_1 (by decide), List.forall_mem_cons.mpr ⟨so_pz (k := 2) cf_7 gf_7_2 gz_7_2 rfl rfl fl_RX4_22 dX4_open_2, List.forall_mem_cons.mpr ⟨so_aload_n dX4_open_5 rfl, List.forall_mem_cons.mpr ⟨so_iconst dX4_open_6 (by decide), List.forall_mem_cons.mpr ⟨so_pi (k := 3) cf_7 gf_7_3 gz_7_3 rfl rfl fl_RX4_26 dX4_open_7, List.forall_mem_cons.mpr ⟨so_aload_n dX4_open_10 rfl, List.forall_mem_cons.mpr ⟨so_iload_n dX4_open_11 rfl, List.forall_mem_cons.mpr ⟨so_pi (k := 4) cf_7 gf_7_4 gz_7_4 rfl rfl fl_RX4_30 dX4_open_12, List.forall_mem_cons.mpr ⟨so_aload_n dX4_open_15 rfl, List.forall_mem_cons.mpr ⟨so_gr (k := 1) cf_7 gf_7_1 gz_7_1 rl_7_1 fl_RX4_17 dX4_open_16, List.forall_mem_cons.mpr ⟨so_iconst dX4_open_19 (by decide), List.forall_mem_cons.mpr ⟨so_aa (t := 16) (by decide) ak_16 el_16 dX4_open_20, List.forall_mem_cons.mpr ⟨so_aload_n dX4_open_21 rfl, List.forall_mem_cons.mpr ⟨so_cv rc_4 rfl mo_X6_copy ms_X6_copy mx_X6_copy ml_RX4_33 dX4_open_22, List.forall_mem_cons.mpr ⟨so_vret rfl dX4_open_25, fun _ h => absurd h List.not_mem_nil⟩⟩⟩⟩⟩⟩⟩⟩⟩⟩⟩⟩⟩⟩⟩⟩
def pX4_hasRoom : List (Nat × am_O) := [(0, op_lr 0 1), (1, op_gi 7 3 4), (4, op_c (5) 5), (5, op_ic (fun x y => y ≤ x) 12 8), (8, op_c (1) 9), (9, op_go 13), (12, op_c (0) 13), (13, op_zret)]
set_option maxRecDepth 20000 in
theorem qX4_hasRoom : ∀ q ∈ pX4_hasRoom, am_So am_T (cX4_hasRoom, (1, ((some .boolean), RX4))) q.1 q.2 := List.forall_mem_cons.mpr ⟨so_aload_n dX4_hasRoom_0 rfl, List.forall_mem_cons.mpr ⟨so_gi (k := 3) cf_7 gf_7_3 gz_7_3 fl_RX4_26 dX4_hasRoom_1, List.forall_mem_cons.mpr ⟨so_iconst dX4_hasRoom_4 (by decide), List.forall_mem_cons.mpr ⟨so_ic_ge dX4_hasRoom_5 (by decide), List.forall_mem_cons.mpr ⟨so_iconst dX4_hasRoom_8 (by decide), List.forall_mem_cons.mpr ⟨so_goto dX4_hasRoom_9 (by decide), List.forall_mem_cons.mpr ⟨so_iconst dX4_hasRoom_12 (by decide), List.forall_mem_cons.mpr ⟨so_zret rfl dX4_hasRoom_13, fun _ h => absurd h List.not_mem_nil⟩⟩⟩⟩⟩⟩⟩⟩
def pX4_write : List (Nat × am_O) := [(0, op_lr 0 1), (1, op_gi 7 3 4), (4, op_if (fun x => x < 0) 35 7), (7, op_lr 0 8), (8, op_gi 7 3 11), (11, op_c (5) 12), (12, op_ic (fun x y => y ≤ x) 35 15), (15, op_lr 0 16), (16, op_gr 7 0 19), (19, op_lr 0 20), (20, op_gi 7 3 23), (23, op_li 1 24), (24, op_is 15 25), (25, op_lr 0 26), (26, op_dup 27), (27, op_gi 7 3 30), (30, op_c (1) 31), (31, op_ii (fun x y => x + y) 32), (32, op_pi 7 3 35), (35, op_vret)]
set_option maxRecDepth 20000 in
theorem qX4_write : ∀ q ∈ pX4_write, am_So am_T (cX4_write, (2, (none, RX4))) q.1 q.2 := List.forall_mem_cons.mpr ⟨so_aload_n dX4_write_0 rfl, List.forall_mem_cons.mpr ⟨so_gi (k := 3) cf_7 gf_7_3 gz_7_3 fl_RX4_26 dX4_write_1, List.forall_mem_cons.mpr ⟨so_if_lt dX4_write_4 (by decide), List.forall_mem_cons.mpr ⟨so_aload_n dX4_write_7 rfl, List.forall_mem_cons.mpr ⟨so_gi (k := 3) cf_7 gf_7_3 gz_7_3 fl_RX4_26 dX4_write_8, List.forall_mem_cons.mpr ⟨so_iconst dX4_write_11 (by decide), List.forall_mem_cons.mpr ⟨so_ic_ge dX4_write_12 (by decide), List.forall_mem_cons.mpr ⟨so_aload_n dX4_write_15 rfl, List.forall_mem_cons.mpr ⟨so_gr (k := 0) cf_7 gf_7_0 gz_7_0 rl_7_0 fl_RX4_9 dX4_write_16, List.forall_mem_cons.mpr ⟨so_aload_n dX4_write_19 rfl, List.forall_mem_cons.mpr ⟨so_gi (k := 3) cf_7 gf_7_3 gz_7_3 fl_RX4_26 dX4_write_20, List.forall_mem_cons.mpr ⟨so_iload_n dX4_write_23 rfl, List.forall_mem_cons.mpr ⟨so_is (t := 15) (by decide) ak_15 dX4_write_24, List.forall_mem_cons.mpr ⟨so_aload_n dX4_write_25 rfl, List.forall_mem_cons.mpr ⟨so_dup dX4_write_26, List.forall_mem_cons.mpr ⟨so_gi (k := 3) cf_7 gf_7_3 gz_7_3 fl_RX4_26 dX4_write_27, List.forall_mem_cons.mpr ⟨so_iconst dX4_write_30 (by decide), List.forall_mem_cons.mpr ⟨so_iadd dX4_write_31, List.forall_mem_cons.mpr ⟨so_pi (k := 3) cf_7 gf_7_3 gz_7_3 rfl rfl fl_RX4_26 dX4_write_32, List.forall_mem_cons.mpr ⟨so_vret rfl dX4_write_35, fun _ h => absurd h List.not_mem_nil⟩⟩⟩⟩⟩⟩⟩⟩⟩⟩⟩⟩⟩⟩⟩⟩⟩⟩⟩⟩
def pX4_walk : List (Nat × am_O) := [(0, op_lr 0 1), (1, op_c (0) 2), (2, op_pi 7 5 5), (5, op_lr 0 6), (6, op_c (-1) 7), (7, op_pi 7 6 10), (10, op_lr 0 11), (11, op_gi 7 3 14), (14, op_if (fun x => ¬ x = 0) 33 17), (17, op_lr 0 18), (18, op_lr 0 19), (19, op_gr 7 1 22), (22, op_c (0) 23), (23, op_aa 16 24), (24, op_gi 4 3 27), (27, op_cv 7 29 2 2 30), (30, op_go 39), (33, op_lr 0 34), (34, op_c (0) 35), (35, op_lr 1 36), (36, op_cv 7 30 3 7 39), (39, op_vret)]
set_option maxRecDepth 20000 in
theorem qX4_walk : ∀ q ∈ pX4_walk, am_So am_T (cX4_walk, (2, (none, RX4))) q.1 q.2 := List.forall_mem_cons.mpr ⟨so_aload_n dX4_walk_0 rfl, List.forall_mem_cons.mpr ⟨so_iconst dX4_walk_1 (by decide), List.forall_mem_cons.mpr ⟨so_pi (k := 5) cf_7 gf_7_5 gz_7_5 rfl rfl fl_RX4_37 dX4_walk_2, List.forall_mem_cons.mpr ⟨so_aload_n dX4_walk_5 rfl, List.forall_mem_cons.mpr ⟨so_iconst dX4_walk_6 (by decide), List.forall_mem_cons.mpr ⟨so_pi (k := 6) cf_7 gf_7_6 gz_7_6 rfl rfl fl_RX4_40 dX4_walk_7, List.forall_mem_cons.mpr ⟨so_aload_n dX4_walk_10 rfl, List.forall_mem_cons.mpr ⟨so_gi (k := 3) cf_7 gf_7_3 gz_7_3 fl_RX4_26 dX4_walk_11, List.forall_mem_cons.mpr ⟨so_if_ne dX4_walk_14 (by decide), List.forall_mem_cons.mpr ⟨so_aload_n dX4_walk_17 rfl, List.forall_mem_cons.mpr ⟨so_aload_n dX4_walk_18 rfl, List.forall_mem_cons.mpr ⟨so_gr (k := 1) cf_7 gf_7_1 gz_7_1 rl_7_1 fl_RX4_17 dX4_walk_19, List.forall_mem_cons.mpr ⟨so_iconst dX4_walk_22 (by decide), List.forall_mem_cons.mpr ⟨so_aa (t := 16) (by decide) ak_16 el_16 dX4_walk_23, List.forall_mem_cons.mpr ⟨so_gi (k := 3) cf_4 gf_4_3 gz_4_3 fl_RX4_43 dX4_walk_24, List.forall_mem_cons.mpr ⟨so_cv rc_7 rfl mo_X4_reckon ms_X4_reckon mx_X4_reckon ml_RX4_46 dX4_walk_27, List.forall_mem_cons.mpr ⟨so_goto dX4_walk_30 (by decide), List.forall_mem_cons.mpr ⟨so_aload_n dX4_walk_33 rfl, List.forall_mem_cons.mpr ⟨so_iconst dX4_walk_34 (by decide), List.forall_mem_cons.mpr ⟨so_aload_n dX4_walk_35 rfl, List.forall_mem_cons.mpr ⟨so_cv rc_7 rfl mo_X4_walkFrom ms_X4_walkFrom mx_X4_walkFrom ml_RX4_50 dX4_walk_36, List.forall_mem_cons.mpr ⟨so_vret rfl dX4_walk_39, fun _ h => absurd h List.not_mem_nil⟩⟩⟩⟩⟩⟩⟩⟩⟩⟩⟩⟩⟩⟩⟩⟩⟩⟩⟩⟩⟩⟩
def pX4_reckon : List (Nat × am_O) := [(0, op_lr 0 1), (1, op_dup 2), (2, op_gi 7 5 5), (5, op_c (1) 6), (6, op_ii (fun x y => x + y) 7), (7, op_pi 7 5 10), (10, op_lr 0 11), (11, op_lr 0 12), (12, op_gi 7 6 15), (15, op_li 1 16), (16, op_mm (fun x y => if x < y then y else x) 19), (19, op_pi 7 6 22), (22, op_vret)]
set_option maxRecDepth 20000 in
theorem qX4_reckon : ∀ q ∈ pX4_reckon, am_So am_T (cX4_reckon, (2, (none, RX4))) q.1 q.2 := List.forall_mem_cons.mpr ⟨so_aload_n dX4_reckon_0 rfl, List.forall_mem_cons.mpr ⟨so_dup dX4_reckon_1, List.forall_mem_cons.mpr ⟨so_gi (k := 5) cf_7 gf_7_5 gz_7_5 fl_RX4_37 dX4_reckon_2, List.forall_mem_cons.mpr ⟨so_iconst dX4_reckon_5 (by decide), List.forall_mem_cons.mpr ⟨so_iadd dX4_reckon_6, List.forall_mem_cons.mpr ⟨so_pi (k := 5) cf_7 gf_7_5 gz_7_5 rfl rfl fl_RX4_37 dX4_reckon_7, List.forall_mem_cons.mpr ⟨so_aload_n dX4_reckon_10 rfl, List.forall_mem_cons.mpr ⟨so_aload_n dX4_reckon_11 rfl, List.forall_mem_cons.mpr ⟨so_gi (k := 6) cf_7 gf_7_6 gz_7_6 fl_RX4_40 dX4_reckon_12, List.forall_mem_cons.mpr ⟨so_iload_n dX4_reckon_15 rfl, List.forall_mem_cons.mpr ⟨so_max (am_w3 185 rfl) mw_max_s mw_i mw_max_c dX4_reckon_16, List.forall_mem_cons.mpr ⟨so_pi (k := 6) cf_7 gf_7_6 gz_7_6 rfl rfl fl_RX4_40 dX4_reckon_19, List.forall_mem_cons.mpr ⟨so_vret rfl dX4_reckon_22, fun _ h => absurd h List.not_mem_nil⟩⟩⟩⟩⟩⟩⟩⟩⟩⟩⟩⟩⟩
def pX4_walkFrom : List (Nat × am_O) := [(0, op_li 1 1), (1, op_if (fun x => x < 0) 17 4), (4, op_li 1 5), (5, op_lr 0 6), (6, op_gi 7 3 9), (9, op_ic (fun x y => y ≤ x) 17 12), (12, op_li 1 13), (13, op_c (5) 14), (14, op_ic (fun x y => x < y) 18 17), (17, op_vret), (18, op_lr 0 19), (19, op_gr 7 1 22), (22, op_li 1 23), (23, op_aa 16 24), (24, op_ast 3 25), (25, op_lr 0 26), (26, op_gr 7 0 29), (29, op_li 1 30), (30, op_ia 15 31), (31, op_lr 3 32), (32, op_gi 4 2 35), (35, op_ii (fun x y => x - y) 36), (36, op_ist 4 38), (38, op_c (0) 39), (39, op_ist 5 41), (41, op_li 5 43), (43, op_gs 21 0 46), (46, op_tl 21 11 47), (47, op_ic (fun x y => y < x) 127 50), (50, op_li 5 52), (52, op_cs 107 1 1 55), (55, op_ist 6 57), (57, op_lr 3 58), (58, op_li 6 60), (60, op_lr 2 61), (61, op_cv 4 53 3 3 64), (64, op_li 4 66), (66, op_ic (fun x y => ¬ x = y) 121 69), (69, op_li 6 71), (71, op_c (9) 73), (73, op_ic (fun x y => x = y) 89 76), (76, op_lr 3 77), (77, op_li 6 79), (79, op_lr 2 80), (80, op_cv 4 50 3 4 83), (83, op_if (fun x => ¬ x = 0) 89 86), (86, op_go 121), (89, op_li 1 90), (90, op_lr 0 91), (91, op_gi 7 3 94), (94, op_c (1) 95), (95, op_ii (fun x y => x - y) 96), (96, op_ic (fun x y => ¬ x = y) 113 99), (99, op_lr 0 100), (100, op_lr 3 101), (101, op_li 6 103), (103, op_lr 2 104), (104, op_cv 4 54 3 3 107), (107, op_cv 7 29 2 2 110), (110, op_go 121), (113, op_lr 0 114), (114, op_li 1 115), (115, op_li 6 117), (117, op_lr 2 118), (118, op_cv 7 31 4 5 121), (121, op_iinc 5 (1) 124), (124, op_go 41), (127, op_vret)]
set_option maxRecDepth 20000 in
theorem qX4_walkFrom : ∀ q ∈ pX4_walkFrom, am_So am_T (cX4_walkFrom, (7, (none, RX4))) q.1 q.2 := List.forall_mem_cons.mpr ⟨so_iload_n dX4_walkFrom_0 rfl, List.forall_mem_cons.mpr ⟨so_if_lt dX4_walkFrom_1 (by decide), List.forall_mem_cons.mpr ⟨so_iload_n dX4_walkFrom_4 rfl, List.forall_mem_cons.mpr ⟨so_aload_n dX4_walkFrom_5 rfl, List.forall_mem_cons.mpr ⟨so_gi (k := 3) cf_7 gf_7_3 gz_7_3 fl_RX4_26 dX4_walkFrom_6, List.forall_mem_cons.mpr ⟨so_ic_ge dX4_walkFrom_9 (by decide), List.forall_mem_cons.mpr ⟨so_iload_n dX4_walkFrom_12 rfl, List.forall_mem_cons.mpr ⟨so_iconst dX4_walkFrom_13 (by decide), List.forall_mem_cons.mpr ⟨so_ic_lt dX4_walkFrom_14 (by decide), List.forall_mem_cons.mpr ⟨so_vret rfl dX4_walkFrom_17, List.forall_mem_cons.mpr ⟨so_aload_n dX4_walkFrom_18 rfl, List.forall_mem_cons.mpr ⟨so_gr (k := 1) cf_7 gf_7_1 gz_7_1 rl_7_1 fl_RX4_17 dX4_walkFrom_19, List.forall_mem_cons.mpr ⟨so_iload_n dX4_walkFrom_22 rfl, List.forall_mem_cons.mpr ⟨so_aa (t := 16) (by decide) ak_16 el_16 dX4_walkFrom_23, List.forall_mem_cons.mpr ⟨so_astore_n dX4_walkFrom_24 rfl (by decide), List.forall_mem_cons.mpr ⟨so_aload_n dX4_walkFrom_25 rfl, List.forall_mem_cons.mpr ⟨so_gr (k := 0) cf_7 gf_7_0 gz_7_0 rl_7_0 fl_RX4_9 dX4_walkFrom_26, List.forall_mem_cons.mpr ⟨so_iload_n dX4_walkFrom_29 rfl, List.forall_mem_cons.mpr ⟨so_ia (t := 15) (by decide) (Or.inl ⟨ak_15, dX4_walkFrom_30⟩), List.forall_mem_cons.mpr ⟨so_aload_n dX4_walkFrom_31 rfl, List.forall_mem_cons.mpr ⟨so_gi (k := 2) cf_4 gf_4_2 gz_4_2 fl_RX4_60 dX4_walkFrom_32, List.forall_mem_cons.mpr ⟨so_isub dX4_walkFrom_35, List.forall_mem_cons.mpr ⟨so_istore dX4_walkFrom_36 (by decide), List.forall_mem_cons.mpr ⟨so_iconst dX4_walkFrom_38 (by decide), List.forall_mem_cons.mpr ⟨so_istore dX4_walkFrom_39 (by decide), List.forall_mem_cons.mpr ⟨so_iload dX4_walkFrom_41, List.forall_mem_cons.mpr ⟨so_gs21 fl_RX4_63 dX4_walkFrom_43, List.forall_mem_cons.mpr ⟨so_tl21 dX4_walkFrom_46, List.forall_mem_cons.mpr ⟨so_ic_gt dX4_walkFrom_47 (by decide), List.forall_mem_cons.mpr ⟨so_iload dX4_walkFrom_50, List.forall_mem_cons.mpr ⟨so_cs rfl mo_X8_actAt ms_X8_actAt ml_RX4_66 dX4_walkFrom_52, List.forall_mem_cons.mpr ⟨so_istore dX4_walkFrom_55 (by decide), List.forall_mem_cons.mpr ⟨so_aload_n dX4_walkFrom_57 rfl, List.forall_mem_cons.mpr ⟨so_iload dX4_walkFrom_58, List.forall_mem_cons.mpr ⟨so_aload_n dX4_walkFrom_60 rfl, List.forall_mem_cons.mpr ⟨so_cv rc_4 rfl mo_X6_getsBy ms_X6_getsBy mx_X6_getsBy ml_RX4_70 dX4_walkFrom_61, List.forall_mem_cons.mpr ⟨so_iload dX4_walkFrom_64, List.forall_mem_cons.mpr ⟨so_ic_ne dX4_walkFrom_66 (by decide), List.forall_mem_cons.mpr ⟨so_iload dX4_walkFrom_69, List.forall_mem_cons.mpr ⟨so_bipush dX4_walkFrom_71 (by decide), List.forall_mem_cons.mpr ⟨so_ic_eq dX4_walkFrom_73 (by decide), List.forall_mem_cons.mpr ⟨so_aload_n dX4_walkFrom_76 rfl, List.forall_mem_cons.mpr ⟨so_iload dX4_walkFrom_77, List.forall_mem_cons.mpr ⟨so_aload_n dX4_walkFrom_79 rfl, List.forall_mem_cons.mpr ⟨so_cv rc_4 rfl mo_X6_isFreeTo ms_X6_isFreeTo mx_X6_isFreeTo ml_RX4_74 dX4_walkFrom_80, List.forall_mem_cons.mpr ⟨so_if_ne dX4_walkFrom_83 (by decide), List.forall_mem_cons.mpr ⟨so_goto dX4_walkFrom_86 (by decide), List.forall_mem_cons.mpr ⟨so_iload_n dX4_walkFrom_89 rfl, List.forall_mem_cons.mpr ⟨so_aload_n dX4_walkFrom_90 rfl, List.forall_mem_cons.mpr ⟨so_gi (k := 3) cf_7 gf_7_3 gz_7_3 fl_RX4_26 dX4_walkFrom_91, List.forall_mem_cons.mpr ⟨so_iconst dX4_walkFrom_94 (by decide), List.forall_mem_cons.mpr ⟨so_isub dX4_walkFrom_95, List.forall_mem_cons.mpr ⟨so_ic_ne dX4_walkFrom_96 (by decide), List.forall_mem_cons.mpr ⟨so_aload_n dX4_walkFrom_99 rfl, List.forall_mem_cons.mpr ⟨so_aload_n dX4_walkFrom_100 rfl, List.forall_mem_cons.mpr ⟨so_iload dX4_walkFrom_101, List.forall_mem_cons.mpr ⟨so_aload_n dX4_walkFrom_103 rfl, List.forall_mem_cons.mpr ⟨so_cv rc_4 rfl mo_X6_owesAfter ms_X6_owesAfter mx_X6_owesAfter ml_RX4_78 dX4_walkFrom_104, List.forall_mem_cons.mpr ⟨so_cv rc_7 rfl mo_X4_reckon ms_X4_reckon mx_X4_reckon ml_RX4_46 dX4_walkFrom_107, List.forall_mem_cons.mpr ⟨so_goto dX4_walkFrom_110 (by decide), List.forall_mem_cons.mpr ⟨so_aload_n dX4_walkFrom_113 rfl, List.forall_mem_cons.mpr ⟨so_iload_n dX4_walkFrom_114 rfl, List.forall_mem_cons.mpr ⟨so_iload dX4_walkFrom_115, List.forall_mem_cons.mpr ⟨so_aload_n dX4_walkFrom_117 rfl, List.forall_mem_cons.mpr ⟨so_cv rc_7 rfl mo_X4_goOn ms_X4_goOn mx_X4_goOn ml_RX4_81 dX4_walkFrom_118, List.forall_mem_cons.mpr ⟨so_iinc dX4_walkFrom_121 (by decide) (by decide), List.forall_mem_cons.mpr ⟨so_goto dX4_walkFrom_124 (by decide), List.forall_mem_cons.mpr ⟨so_vret rfl dX4_walkFrom_127, fun _ h => absurd h List.not_mem_nil⟩⟩⟩⟩⟩⟩⟩⟩⟩⟩⟩⟩⟩⟩⟩⟩⟩⟩⟩⟩⟩⟩⟩⟩⟩⟩⟩⟩⟩⟩⟩⟩⟩⟩⟩⟩⟩⟩⟩⟩⟩⟩⟩⟩⟩⟩⟩⟩⟩⟩⟩⟩⟩⟩⟩⟩⟩⟩⟩⟩⟩⟩⟩⟩⟩⟩⟩⟩
def pX4_goOn : List (Nat × am_O) := [(0, op_li 1 1), (1, op_if (fun x => x < 0) 9 4), (4, op_li 1 5), (5, op_c (4) 6), (6, op_ic (fun x y => x < y) 10 9), (9, op_vret), (10, op_lr 0 11), (11, op_gr 7 1 14), (14, op_li 1 15), (15, op_c (1) 16), (16, op_ii (fun x y => x + y) 17), (17, op_aa 16 18), (18, op_ast 4 20), (20, op_lr 4 22), (22, op_lr 0 23), (23, op_gr 7 1 26), (26, op_li 1 27), (27, op_aa 16 28), (28, op_cv 4 45 2 2 31), (31, op_lr 4 33), (33, op_li 2 34), (34, op_lr 3 35), (35, op_lr 0 36), (36, op_gi 7 4 39), (39, op_li 1 40), (40, op_ii (fun x y => x + y) 41), (41, op_cv 4 51 4 4 44), (44, op_lr 4 46), (46, op_lr 0 47), (47, op_gi 7 4 50), (50, op_li 1 51), (51, op_ii (fun x y => x + y) 52), (52, op_c (1) 53), (53, op_ii (fun x y => x + y) 54), (54, op_lr 3 55), (55, op_cv 4 47 3 3 58), (58, op_lr 0 59), (59, op_li 1 60), (60, op_c (1) 61), (61, op_ii (fun x y => x + y) 62), (62, op_lr 3 63), (63, op_cv 7 30 3 7 66), (66, op_vret)]
set_option maxRecDepth 20000 in
theorem qX4_goOn : ∀ q ∈ pX4_goOn, am_So am_T (cX4_goOn, (5, (none, RX4))) q.1 q.2 := List.forall_mem_cons.mpr ⟨so_iload_n dX4_goOn_0 rfl, List.forall_mem_cons.mpr ⟨so_if_lt dX4_goOn_1 (by decide), List.forall_mem_cons.mpr ⟨so_iload_n dX4_goOn_4 rfl, List.forall_mem_cons.mpr ⟨so_iconst dX4_goOn_5 (by decide), List.forall_mem_cons.mpr ⟨so_ic_lt dX4_goOn_6 (by decide), List.forall_mem_cons.mpr ⟨so_vret rfl dX4_goOn_9, List.forall_mem_cons.mpr ⟨so_aload_n dX4_goOn_10 rfl, List.forall_mem_cons.mpr ⟨so_gr (k := 1) cf_7 gf_7_1 gz_7_1 rl_7_1 fl_RX4_17 dX4_goOn_11, List.forall_mem_cons.mpr ⟨so_iload_n dX4_goOn_14 rfl, List.forall_mem_cons.mpr ⟨so_iconst dX4_goOn_15 (by decide), List.forall_mem_cons.mpr ⟨so_iadd dX4_goOn_16, List.forall_mem_cons.mpr ⟨so_aa (t := 16) (by decide) ak_16 el_16 dX4_goOn_17, List.forall_mem_cons.mpr ⟨so_astore dX4_goOn_18 (by decide), List.forall_mem_cons.mpr ⟨so_aload dX4_goOn_20, List.forall_mem_cons.mpr ⟨so_aload_n dX4_goOn_22 rfl, List.forall_mem_cons.mpr ⟨so_gr (k := 1) cf_7 gf_7_1 gz_7_1 rl_7_1 fl_RX4_17 dX4_goOn_23, List.forall_mem_cons.mpr ⟨so_iload_n dX4_goOn_26 rfl, List.forall_mem_cons.mpr ⟨so_aa (t := 16) (by decide) ak_16 el_16 dX4_goOn_27, List.forall_mem_cons.mpr ⟨so_cv rc_4 rfl mo_X6_copy ms_X6_copy mx_X6_copy ml_RX4_33 dX4_goOn_28, List.forall_mem_cons.mpr ⟨so_aload dX4_goOn_31, List.forall_mem_cons.mpr ⟨so_iload_n dX4_goOn_33 rfl, List.forall_mem_cons.mpr ⟨so_aload_n dX4_goOn_34 rfl, List.forall_mem_cons.mpr ⟨so_aload_n dX4_goOn_35 rfl, List.forall_mem_cons.mpr ⟨so_gi (k := 4) cf_7 gf_7_4 gz_7_4 fl_RX4_30 dX4_goOn_36, List.forall_mem_cons.mpr ⟨so_iload_n dX4_goOn_39 rfl, List.forall_mem_cons.mpr ⟨so_iadd dX4_goOn_40, List.forall_mem_cons.mpr ⟨so_cv rc_4 rfl mo_X6_does ms_X6_does mx_X6_does ml_RX4_85 dX4_goOn_41, List.forall_mem_cons.mpr ⟨so_aload dX4_goOn_44, List.forall_mem_cons.mpr ⟨so_aload_n dX4_goOn_46 rfl, List.forall_mem_cons.mpr ⟨so_gi (k := 4) cf_7 gf_7_4 gz_7_4 fl_RX4_30 dX4_goOn_47, List.forall_mem_cons.mpr ⟨so_iload_n dX4_goOn_50 rfl, List.forall_mem_cons.mpr ⟨so_iadd dX4_goOn_51, List.forall_mem_cons.mpr ⟨so_iconst dX4_goOn_52 (by decide), List.forall_mem_cons.mpr ⟨so_iadd dX4_goOn_53, List.forall_mem_cons.mpr ⟨so_aload_n dX4_goOn_54 rfl, List.forall_mem_cons.mpr ⟨so_cv rc_4 rfl mo_X6_enter ms_X6_enter mx_X6_enter ml_RX4_89 dX4_goOn_55, List.forall_mem_cons.mpr ⟨so_aload_n dX4_goOn_58 rfl, List.forall_mem_cons.mpr ⟨so_iload_n dX4_goOn_59 rfl, List.forall_mem_cons.mpr ⟨so_iconst dX4_goOn_60 (by decide), List.forall_mem_cons.mpr ⟨so_iadd dX4_goOn_61, List.forall_mem_cons.mpr ⟨so_aload_n dX4_goOn_62 rfl, List.forall_mem_cons.mpr ⟨so_cv rc_7 rfl mo_X4_walkFrom ms_X4_walkFrom mx_X4_walkFrom ml_RX4_50 dX4_goOn_63, List.forall_mem_cons.mpr ⟨so_vret rfl dX4_goOn_66, fun _ h => absurd h List.not_mem_nil⟩⟩⟩⟩⟩⟩⟩⟩⟩⟩⟩⟩⟩⟩⟩⟩⟩⟩⟩⟩⟩⟩⟩⟩⟩⟩⟩⟩⟩⟩⟩⟩⟩⟩⟩⟩⟩⟩⟩⟩⟩⟩⟩
def pX5_hasRoom : List (Nat × am_O) := [(0, op_lr 0 1), (1, op_gi 1 2 4), (4, op_lr 0 5), (5, op_gr 1 0 8), (8, op_al 8 9), (9, op_ic (fun x y => y ≤ x) 16 12), (12, op_c (1) 13), (13, op_go 17), (16, op_c (0) 17), (17, op_zret)]
set_option maxRecDepth 20000 in
theorem qX5_hasRoom : ∀ q ∈ pX5_hasRoom, am_So am_T (cX5_hasRoom, (1, ((some .boolean), RX5))) q.1 q.2 := List.forall_mem_cons.mpr ⟨so_aload_n dX5_hasRoom_0 rfl, List.forall_mem_cons.mpr ⟨so_gi (k := 2) cf_1 gf_1_2 gz_1_2 fl_RX5_22 dX5_hasRoom_1, List.forall_mem_cons.mpr ⟨so_aload_n dX5_hasRoom_4 rfl, List.forall_mem_cons.mpr ⟨so_gr (k := 0) cf_1 gf_1_0 gz_1_0 rl_1_0 fl_RX5_9 dX5_hasRoom_5, List.forall_mem_cons.mpr ⟨so_al (t := 8) (Or.inl ak_8) (by decide) dX5_hasRoom_8, List.forall_mem_cons.mpr ⟨so_ic_ge dX5_hasRoom_9 (by decide), List.forall_mem_cons.mpr ⟨so_iconst dX5_hasRoom_12 (by decide), List.forall_mem_cons.mpr ⟨so_goto dX5_hasRoom_13 (by decide), List.forall_mem_cons.mpr ⟨so_iconst dX5_hasRoom_16 (by decide), List.forall_mem_cons.mpr ⟨so_zret rfl dX5_hasRoom_17, fun _ h => absurd h List.not_mem_nil⟩⟩⟩⟩⟩⟩⟩⟩⟩⟩
def pX5_write : List (Nat × am_O) := [(0, op_lr 0 1), (1, op_gi 1 2 4), (4, op_if (fun x => x < 0) 39 7), (7, op_lr 0 8), (8, op_gi 1 2 11), (11, op_lr 0 12), (12, op_gr 1 0 15), (15, op_al 8 16), (16, op_ic (fun x y => y ≤ x) 39 19), (19, op_lr 0 20), (20, op_gr 1 0 23), (23, op_lr 0 24), (24, op_gi 1 2 27), (27, op_li 1 28), (28, op_is 8 29), (29, op_lr 0 30), (30, op_dup 31), (31, op_gi 1 2 34), (34, op_c (1) 35), (35, op_ii (fun x y => x + y) 36), (36, op_pi 1 2 39), (39, op_vret)]
set_option maxRecDepth 20000 in
theorem qX5_write : ∀ q ∈ pX5_write, am_So am_T (cX5_write, (2, (none, RX5))) q.1 q.2 := List.forall_mem_cons.mpr ⟨so_aload_n dX5_write_0 rfl, List.forall_mem_cons.mpr ⟨so_gi (k := 2) cf_1 gf_1_2 gz_1_2 fl_RX5_22 dX5_write_1, List.forall_mem_cons.mpr ⟨so_if_lt dX5_write_4 (by decide), List.forall_mem_cons.mpr ⟨so_aload_n dX5_write_7 rfl, List.forall_mem_cons.mpr ⟨so_gi (k := 2) cf_1 gf_1_2 gz_1_2 fl_RX5_22 dX5_write_8, List.forall_mem_cons.mpr ⟨so_aload_n dX5_write_11 rfl, List.forall_mem_cons.mpr ⟨so_gr (k := 0) cf_1 gf_1_0 gz_1_0 rl_1_0 fl_RX5_9 dX5_write_12, List.forall_mem_cons.mpr ⟨so_al (t := 8) (Or.inl ak_8) (by decide) dX5_write_15, List.forall_mem_cons.mpr ⟨so_ic_ge dX5_write_16 (by decide), List.forall_mem_cons.mpr ⟨so_aload_n dX5_write_19 rfl, List.forall_mem_cons.mpr ⟨so_gr (k := 0) cf_1 gf_1_0 gz_1_0 rl_1_0 fl_RX5_9 dX5_write_20, List.forall_mem_cons.mpr ⟨so_aload_n dX5_write_23 rfl, List.forall_mem_cons.mpr ⟨so_gi (k := 2) cf_1 gf_1_2 gz_1_2 fl_RX5_22 dX5_write_24, List.forall_mem_cons.mpr ⟨so_iload_n dX5_write_27 rfl, List.forall_mem_cons.mpr ⟨so_is (t := 8) (by decide) ak_8 dX5_write_28, List.forall_mem_cons.mpr ⟨so_aload_n dX5_write_29 rfl, List.forall_mem_cons.mpr ⟨so_dup dX5_write_30, List.forall_mem_cons.mpr ⟨so_gi (k := 2) cf_1 gf_1_2 gz_1_2 fl_RX5_22 dX5_write_31, List.forall_mem_cons.mpr ⟨so_iconst dX5_write_34 (by decide), List.forall_mem_cons.mpr ⟨so_iadd dX5_write_35, List.forall_mem_cons.mpr ⟨so_pi (k := 2) cf_1 gf_1_2 gz_1_2 rfl rfl fl_RX5_22 dX5_write_36, List.forall_mem_cons.mpr ⟨so_vret rfl dX5_write_39, fun _ h => absurd h List.not_mem_nil⟩⟩⟩⟩⟩⟩⟩⟩⟩⟩⟩⟩⟩⟩⟩⟩⟩⟩⟩⟩⟩⟩
def pX5_at : List (Nat × am_O) := [(0, op_li 1 1), (1, op_if (fun x => x < 0) 22 4), (4, op_li 1 5), (5, op_lr 0 6), (6, op_gr 1 0 9), (9, op_al 8 10), (10, op_ic (fun x y => y ≤ x) 22 13), (13, op_lr 0 14), (14, op_gr 1 0 17), (17, op_li 1 18), (18, op_ia 8 19), (19, op_go 23), (22, op_c (0) 23), (23, op_iret)]
set_option maxRecDepth 20000 in
theorem qX5_at : ∀ q ∈ pX5_at, am_So am_T (cX5_at, (2, ((some .int), RX5))) q.1 q.2 := List.forall_mem_cons.mpr ⟨so_iload_n dX5_at_0 rfl, List.forall_mem_cons.mpr ⟨so_if_lt dX5_at_1 (by decide), List.forall_mem_cons.mpr ⟨so_iload_n dX5_at_4 rfl, List.forall_mem_cons.mpr ⟨so_aload_n dX5_at_5 rfl, List.forall_mem_cons.mpr ⟨so_gr (k := 0) cf_1 gf_1_0 gz_1_0 rl_1_0 fl_RX5_9 dX5_at_6, List.forall_mem_cons.mpr ⟨so_al (t := 8) (Or.inl ak_8) (by decide) dX5_at_9, List.forall_mem_cons.mpr ⟨so_ic_ge dX5_at_10 (by decide), List.forall_mem_cons.mpr ⟨so_aload_n dX5_at_13 rfl, List.forall_mem_cons.mpr ⟨so_gr (k := 0) cf_1 gf_1_0 gz_1_0 rl_1_0 fl_RX5_9 dX5_at_14, List.forall_mem_cons.mpr ⟨so_iload_n dX5_at_17 rfl, List.forall_mem_cons.mpr ⟨so_ia (t := 8) (by decide) (Or.inl ⟨ak_8, dX5_at_18⟩), List.forall_mem_cons.mpr ⟨so_goto dX5_at_19 (by decide), List.forall_mem_cons.mpr ⟨so_iconst dX5_at_22 (by decide), List.forall_mem_cons.mpr ⟨so_iret rfl dX5_at_23, fun _ h => absurd h List.not_mem_nil⟩⟩⟩⟩⟩⟩⟩⟩⟩⟩⟩⟩⟩⟩
def pX5_firstFault : List (Nat × am_O) := [(0, op_lr 0 1), (1, op_c (0) 2), (2, op_pi 1 3 5), (5, op_lr 0 6), (6, op_c (0) 7), (7, op_pi 1 4 10), (10, op_c (0) 11), (11, op_ist 1 12), (12, op_li 1 13), (13, op_lr 0 14), (14, op_gi 1 2 17), (17, op_ic (fun x y => y ≤ x) 40 20), (20, op_lr 0 21), (21, op_lr 0 22), (22, op_li 1 23), (23, op_cv 1 34 2 2 26), (26, op_cv 1 37 2 3 29), (29, op_if (fun x => ¬ x = 0) 34 32), (32, op_li 1 33), (33, op_iret), (34, op_iinc 1 (1) 37), (37, op_go 12), (40, op_lr 0 41), (41, op_gi 1 2 44), (44, op_iret)]
set_option maxRecDepth 20000 in
theorem qX5_firstFault : ∀ q ∈ pX5_firstFault, am_So am_T (cX5_firstFault, (2, ((some .int), RX5))) q.1 q.2 := List.forall_mem_cons.mpr ⟨so_aload_n dX5_firstFault_0 rfl, List.forall_mem_cons.mpr ⟨so_iconst dX5_firstFault_1 (by decide), List.forall_mem_cons.mpr ⟨so_pi (k := 3) cf_1 gf_1_3 gz_1_3 rfl rfl fl_RX5_26 dX5_firstFault_2, List.forall_mem_cons.mpr ⟨so_aload_n dX5_firstFault_5 rfl, List.forall_mem_cons.mpr ⟨so_iconst dX5_firstFault_6 (by decide), List.forall_mem_cons.mpr ⟨so_pi (k := 4) cf_1 gf_1_4 gz_1_4 rfl rfl fl_RX5_29 dX5_firstFault_7, List.forall_mem_cons.mpr ⟨so_iconst dX5_firstFault_10 (by decide), List.forall_mem_cons.mpr ⟨so_istore_n dX5_firstFault_11 rfl (by decide), List.forall_mem_cons.mpr ⟨so_iload_n dX5_firstFault_12 rfl, List.forall_mem_cons.mpr ⟨so_aload_n dX5_firstFault_13 rfl, List.forall_mem_cons.mpr ⟨so_gi (k := 2) cf_1 gf_1_2 gz_1_2 fl_RX5_22 dX5_firstFault_14, List.forall_mem_cons.mpr ⟨so_ic_ge dX5_firstFault_17 (by decide), List.forall_mem_cons.mpr ⟨so_aload_n dX5_firstFault_20 rfl, List.forall_mem_cons.mpr ⟨so_aload_n dX5_firstFault_21 rfl, List.forall_mem_cons.mpr ⟨so_iload_n dX5_firstFault_22 rfl, List.forall_mem_cons.mpr ⟨so_cv rc_1 rfl mo_X5_at ms_X5_at mx_X5_at ml_RX5_32 dX5_firstFault_23, List.forall_mem_cons.mpr ⟨so_cv rc_1 rfl mo_X5_takes ms_X5_takes mx_X5_takes ml_RX5_36 dX5_firstFault_26, List.forall_mem_cons.mpr ⟨so_if_ne dX5_firstFault_29 (by decide), List.forall_mem_cons.mpr ⟨so_iload_n dX5_firstFault_32 rfl, List.forall_mem_cons.mpr ⟨so_iret rfl dX5_firstFault_33, List.forall_mem_cons.mpr ⟨so_iinc dX5_firstFault_34 (by decide) (by decide), List.forall_mem_cons.mpr ⟨so_goto dX5_firstFault_37 (by decide), List.forall_mem_cons.mpr ⟨so_aload_n dX5_firstFault_40 rfl, List.forall_mem_cons.mpr ⟨so_gi (k := 2) cf_1 gf_1_2 gz_1_2 fl_RX5_22 dX5_firstFault_41, List.forall_mem_cons.mpr ⟨so_iret rfl dX5_firstFault_44, fun _ h => absurd h List.not_mem_nil⟩⟩⟩⟩⟩⟩⟩⟩⟩⟩⟩⟩⟩⟩⟩⟩⟩⟩⟩⟩⟩⟩⟩⟩⟩
def pX5_isLaw : List (Nat × am_O) := [(0, op_lr 0 1), (1, op_cv 1 35 1 2 4), (4, op_lr 0 5), (5, op_gi 1 2 8), (8, op_ic (fun x y => ¬ x = y) 24 11), (11, op_lr 0 12), (12, op_gi 1 3 15), (15, op_c (6) 17), (17, op_ic (fun x y => ¬ x = y) 24 20), (20, op_c (1) 21), (21, op_go 25), (24, op_c (0) 25), (25, op_zret)]
set_option maxRecDepth 20000 in
theorem qX5_isLaw : ∀ q ∈ pX5_isLaw, am_So am_T (cX5_isLaw, (1, ((some .boolean), RX5))) q.1 q.2 := List.forall_mem_cons.mpr ⟨so_aload_n dX5_isLaw_0 rfl, List.forall_mem_cons.mpr ⟨so_cv rc_1 rfl mo_X5_firstFault ms_X5_firstFault mx_X5_firstFault ml_RX5_40 dX5_isLaw_1, List.forall_mem_cons.mpr ⟨so_aload_n dX5_isLaw_4 rfl, List.forall_mem_cons.mpr ⟨so_gi (k := 2) cf_1 gf_1_2 gz_1_2 fl_RX5_22 dX5_isLaw_5, List.forall_mem_cons.mpr ⟨so_ic_ne dX5_isLaw_8 (by decide), List.forall_mem_cons.mpr ⟨so_aload_n dX5_isLaw_11 rfl, List.forall_mem_cons.mpr ⟨so_gi (k := 3) cf_1 gf_1_3 gz_1_3 fl_RX5_26 dX5_isLaw_12, List.forall_mem_cons.mpr ⟨so_bipush dX5_isLaw_15 (by decide), List.forall_mem_cons.mpr ⟨so_ic_ne dX5_isLaw_17 (by decide), List.forall_mem_cons.mpr ⟨so_iconst dX5_isLaw_20 (by decide), List.forall_mem_cons.mpr ⟨so_goto dX5_isLaw_21 (by decide), List.forall_mem_cons.mpr ⟨so_iconst dX5_isLaw_24 (by decide), List.forall_mem_cons.mpr ⟨so_zret rfl dX5_isLaw_25, fun _ h => absurd h List.not_mem_nil⟩⟩⟩⟩⟩⟩⟩⟩⟩⟩⟩⟩⟩
def pX5_takes : List (Nat × am_O) := [(0, op_li 1 1), (1, op_c (48) 3), (3, op_ii (fun x y => x - y) 4), (4, op_ist 2 5), (5, op_lr 0 6), (6, op_gi 1 3 9), (9, op_sw (0) [48, 54, 60, 66, 72, 94] 100), (48, op_lr 0 49), (49, op_li 2 50), (50, op_cv 1 38 2 2 53), (53, op_zret), (54, op_lr 0 55), (55, op_li 2 56), (56, op_cv 1 39 2 2 59), (59, op_zret), (60, op_lr 0 61), (61, op_li 1 62), (62, op_cv 1 40 2 2 65), (65, op_zret), (66, op_lr 0 67), (67, op_li 2 68), (68, op_cv 1 41 2 2 71), (71, op_zret), (72, op_lr 0 73), (73, op_li 2 74), (74, op_cv 1 41 2 2 77), (77, op_if (fun x => ¬ x = 0) 88 80), (80, op_lr 0 81), (81, op_li 1 82), (82, op_cv 1 42 2 3 85), (85, op_if (fun x => x = 0) 92 88), (88, op_c (1) 89), (89, op_go 93), (92, op_c (0) 93), (93, op_zret), (94, op_lr 0 95), (95, op_li 2 96), (96, op_cv 1 43 2 2 99), (99, op_zret), (100, op_c (0) 101), (101, op_zret)]
set_option maxRecDepth 20000 in
theorem qX5_takes : ∀ q ∈ pX5_takes, am_So am_T (cX5_takes, (3, ((some .boolean), RX5))) q.1 q.2 := List.forall_mem_cons.mpr ⟨so_iload_n dX5_takes_0 rfl, List.forall_mem_cons.mpr ⟨so_bipush dX5_takes_1 (by decide), List.forall_mem_cons.mpr ⟨so_isub dX5_takes_3, List.forall_mem_cons.mpr ⟨so_istore_n dX5_takes_4 rfl (by decide), List.forall_mem_cons.mpr ⟨so_aload_n dX5_takes_5 rfl, List.forall_mem_cons.mpr ⟨so_gi (k := 3) cf_1 gf_1_3 gz_1_3 fl_RX5_26 dX5_takes_6, List.forall_mem_cons.mpr ⟨so_sw dX5_takes_9 (by decide) (by decide) (by decide +kernel), List.forall_mem_cons.mpr ⟨so_aload_n dX5_takes_48 rfl, List.forall_mem_cons.mpr ⟨so_iload_n dX5_takes_49 rfl, List.forall_mem_cons.mpr ⟨so_cv rc_1 rfl mo_X5_takesTerm ms_X5_takesTerm mx_X5_takesTerm ml_RX5_44 dX5_takes_50, List.forall_mem_cons.mpr ⟨so_zret rfl dX5_takes_53, List.forall_mem_cons.mpr ⟨so_aload_n dX5_takes_54 rfl, List.forall_mem_cons.mpr ⟨so_iload_n dX5_takes_55 rfl, List.forall_mem_cons.mpr ⟨so_cv rc_1 rfl mo_X5_takesWorth ms_X5_takesWorth mx_X5_takesWorth ml_RX5_47 dX5_takes_56, List.forall_mem_cons.mpr ⟨so_zret rfl dX5_takes_59, List.forall_mem_cons.mpr ⟨so_aload_n dX5_takes_60 rfl, List.forall_mem_cons.mpr ⟨so_iload_n dX5_takes_61 rfl, List.forall_mem_cons.mpr ⟨so_cv rc_1 rfl mo_X5_takesColon ms_X5_takesColon mx_X5_takesColon ml_RX5_50 dX5_takes_62, List.forall_mem_cons.mpr ⟨so_zret rfl dX5_takes_65, List.forall_mem_cons.mpr ⟨so_aload_n dX5_takes_66 rfl, List.forall_mem_cons.mpr ⟨so_iload_n dX5_takes_67 rfl, List.forall_mem_cons.mpr ⟨so_cv rc_1 rfl mo_X5_takesSort ms_X5_takesSort mx_X5_takesSort ml_RX5_53 dX5_takes_68, List.forall_mem_cons.mpr ⟨so_zret rfl dX5_takes_71, List.forall_mem_cons.mpr ⟨so_aload_n dX5_takes_72 rfl, List.forall_mem_cons.mpr ⟨so_iload_n dX5_takes_73 rfl, List.forall_mem_cons.mpr ⟨so_cv rc_1 rfl mo_X5_takesSort ms_X5_takesSort mx_X5_takesSort ml_RX5_53 dX5_takes_74, List.forall_mem_cons.mpr ⟨so_if_ne dX5_takes_77 (by decide), List.forall_mem_cons.mpr ⟨so_aload_n dX5_takes_80 rfl, List.forall_mem_cons.mpr ⟨so_iload_n dX5_takes_81 rfl, List.forall_mem_cons.mpr ⟨so_cv rc_1 rfl mo_X5_takesEndOfDeed ms_X5_takesEndOfDeed mx_X5_takesEndOfDeed ml_RX5_56 dX5_takes_82, List.forall_mem_cons.mpr ⟨so_if_eq dX5_takes_85 (by decide), List.forall_mem_cons.mpr ⟨so_iconst dX5_takes_88 (by decide), List.forall_mem_cons.mpr ⟨so_goto dX5_takes_89 (by decide), List.forall_mem_cons.mpr ⟨so_iconst dX5_takes_92 (by decide), List.forall_mem_cons.mpr ⟨so_zret rfl dX5_takes_93, List.forall_mem_cons.mpr ⟨so_aload_n dX5_takes_94 rfl, List.forall_mem_cons.mpr ⟨so_iload_n dX5_takes_95 rfl, List.forall_mem_cons.mpr ⟨so_cv rc_1 rfl mo_X5_takesLapse ms_X5_takesLapse mx_X5_takesLapse ml_RX5_59 dX5_takes_96, List.forall_mem_cons.mpr ⟨so_zret rfl dX5_takes_99, List.forall_mem_cons.mpr ⟨so_iconst dX5_takes_100 (by decide), List.forall_mem_cons.mpr ⟨so_zret rfl dX5_takes_101, fun _ h => absurd h List.not_mem_nil⟩⟩⟩⟩⟩⟩⟩⟩⟩⟩⟩⟩⟩⟩⟩⟩⟩⟩⟩⟩⟩⟩⟩⟩⟩⟩⟩⟩⟩⟩⟩⟩⟩⟩⟩⟩⟩⟩⟩⟩⟩
def pX5_takesTerm : List (Nat × am_O) := [(0, op_li 1 1), (1, op_c (1) 2), (2, op_ic (fun x y => x < y) 21 5), (5, op_li 1 6), (6, op_c (9) 8), (8, op_ic (fun x y => y < x) 21 11), (11, op_lr 0 12), (12, op_gi 1 4 15), (15, op_cs 102 1 1 18), (18, op_if (fun x => ¬ x = 0) 23 21), (21, op_c (0) 22), (22, op_zret), (23, op_lr 0 24), (24, op_gr 1 1 27), (27, op_gr 2 0 30), (30, op_lr 0 31), (31, op_gi 1 4 34), (34, op_li 1 35), (35, op_is 9 36), (36, op_lr 0 37), (37, op_gr 1 1 40), (40, op_gr 2 2 43), (43, op_lr 0 44), (44, op_gi 1 4 47), (47, op_c (0) 48), (48, op_is 11 49), (49, op_lr 0 50), (50, op_c (1) 51), (51, op_pi 1 3 54), (54, op_c (1) 55), (55, op_zret)]
set_option maxRecDepth 20000 in
theorem qX5_takesTerm : ∀ q ∈ pX5_takesTerm, am_So am_T (cX5_takesTerm, (2, ((some .boolean), RX5))) q.1 q.2 := List.forall_mem_cons.mpr ⟨so_iload_n dX5_takesTerm_0 rfl, List.forall_mem_cons.mpr ⟨so_iconst dX5_takesTerm_1 (by decide), List.forall_mem_cons.mpr ⟨so_ic_lt dX5_takesTerm_2 (by decide), List.forall_mem_cons.mpr ⟨so_iload_n dX5_takesTerm_5 rfl, List.forall_mem_cons.mpr ⟨so_bipush dX5_takesTerm_6 (by decide), List.forall_mem_cons.mpr ⟨so_ic_gt dX5_takesTerm_8 (by decide), List.forall_mem_cons.mpr ⟨so_aload_n dX5_takesTerm_11 rfl, List.forall_mem_cons.mpr ⟨so_gi (k := 4) cf_1 gf_1_4 gz_1_4 fl_RX5_29 dX5_takesTerm_12, List.forall_mem_cons.mpr ⟨so_cs rfl mo_X8_isDeed ms_X8_isDeed ml_RX5_62 dX5_takesTerm_15, List.forall_mem_cons.mpr ⟨so_if_ne dX5_takesTerm_18 (by decide), List.forall_mem_cons.mpr ⟨so_iconst dX5_takesTerm_21 (by decide), List.forall_mem_cons.mpr ⟨so_zret rfl dX5_takesTerm_22, List.forall_mem_cons.mpr ⟨so_aload_n dX5_takesTerm_23 rfl, List.forall_mem_cons.mpr ⟨so_gr (k := 1) cf_1 gf_1_1 gz_1_1 rl_1_1 fl_RX5_18 dX5_takesTerm_24, List.forall_mem_cons.mpr ⟨so_gr (k := 0) cf_2 gf_2_0 gz_2_0 rl_2_0 fl_RX5_65 dX5_takesTerm_27, List.forall_mem_cons.mpr ⟨so_aload_n dX5_takesTerm_30 rfl, List.forall_mem_cons.mpr ⟨so_gi (k := 4) cf_1 gf_1_4 gz_1_4 fl_RX5_29 dX5_takesTerm_31, List.forall_mem_cons.mpr ⟨so_iload_n dX5_takesTerm_34 rfl, List.forall_mem_cons.mpr ⟨so_is (t := 9) (by decide) ak_9 dX5_takesTerm_35, List.forall_mem_cons.mpr ⟨so_aload_n dX5_takesTerm_36 rfl, List.forall_mem_cons.mpr ⟨so_gr (k := 1) cf_1 gf_1_1 gz_1_1 rl_1_1 fl_RX5_18 dX5_takesTerm_37, List.forall_mem_cons.mpr ⟨so_gr (k := 2) cf_2 gf_2_2 gz_2_2 rl_2_2 fl_RX5_68 dX5_takesTerm_40, List.forall_mem_cons.mpr ⟨so_aload_n dX5_takesTerm_43 rfl, List.forall_mem_cons.mpr ⟨so_gi (k := 4) cf_1 gf_1_4 gz_1_4 fl_RX5_29 dX5_takesTerm_44, List.forall_mem_cons.mpr ⟨so_iconst dX5_takesTerm_47 (by decide), List.forall_mem_cons.mpr ⟨so_is (t := 11) (by decide) ak_11 dX5_takesTerm_48, List.forall_mem_cons.mpr ⟨so_aload_n dX5_takesTerm_49 rfl, List.forall_mem_cons.mpr ⟨so_iconst dX5_takesTerm_50 (by decide), List.forall_mem_cons.mpr ⟨so_pi (k := 3) cf_1 gf_1_3 gz_1_3 rfl rfl fl_RX5_26 dX5_takesTerm_51, List.forall_mem_cons.mpr ⟨so_iconst dX5_takesTerm_54 (by decide), List.forall_mem_cons.mpr ⟨so_zret rfl dX5_takesTerm_55, fun _ h => absurd h List.not_mem_nil⟩⟩⟩⟩⟩⟩⟩⟩⟩⟩⟩⟩⟩⟩⟩⟩⟩⟩⟩⟩⟩⟩⟩⟩⟩⟩⟩⟩⟩⟩⟩
end
