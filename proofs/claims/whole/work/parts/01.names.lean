-- ===== PART A: goes FIRST, ahead of the names: the tables' words, and 'selects' of the private methods out of them =====
/-- a private method of a class that the tables say can be made, by its rows of tables_1 -/
def lw_okq (q : MethodName × Nat) : Prop := (q.1.cls ≠ "java/lang/invoke/MethodHandle" ∧ q.1.cls ≠ "java/lang/invoke/VarHandle") ∧ Cond.instantiable q.1.cls q.2 ∈ tables_1 ∧ Cond.privateMethod q.1 ∈ tables_1 ∧ Cond.instanceMethod q.1 ∈ tables_1
theorem lw_p0 : lw_okq (⟨"PartitionPoset", "refresh", "()V"⟩, 10) := ⟨⟨by decide +kernel, by decide +kernel⟩, List.mem_of_getElem? (i := 13) (by decide +kernel), List.mem_of_getElem? (i := 223) (by decide +kernel), List.mem_of_getElem? (i := 224) (by decide +kernel)⟩
theorem lw_p1 : lw_okq (⟨"PartitionPoset", "isElement", "(I)Z"⟩, 10) := ⟨⟨by decide +kernel, by decide +kernel⟩, List.mem_of_getElem? (i := 13) (by decide +kernel), List.mem_of_getElem? (i := 357) (by decide +kernel), List.mem_of_getElem? (i := 358) (by decide +kernel)⟩
theorem lw_p2 : lw_okq (⟨"PartitionPoset", "put", "(II)I"⟩, 10) := ⟨⟨by decide +kernel, by decide +kernel⟩, List.mem_of_getElem? (i := 13) (by decide +kernel), List.mem_of_getElem? (i := 396) (by decide +kernel), List.mem_of_getElem? (i := 397) (by decide +kernel)⟩
theorem lw_p3 : lw_okq (⟨"PartitionPoset", "blockCountOf", "(I)I"⟩, 10) := ⟨⟨by decide +kernel, by decide +kernel⟩, List.mem_of_getElem? (i := 13) (by decide +kernel), List.mem_of_getElem? (i := 400) (by decide +kernel), List.mem_of_getElem? (i := 401) (by decide +kernel)⟩
theorem lw_p4 : lw_okq (⟨"PartitionPoset", "faultOf", "(IIZ)I"⟩, 10) := ⟨⟨by decide +kernel, by decide +kernel⟩, List.mem_of_getElem? (i := 13) (by decide +kernel), List.mem_of_getElem? (i := 421) (by decide +kernel), List.mem_of_getElem? (i := 422) (by decide +kernel)⟩
theorem lw_p5 : lw_okq (⟨"PartitionPoset", "moveElements", "(I)I"⟩, 10) := ⟨⟨by decide +kernel, by decide +kernel⟩, List.mem_of_getElem? (i := 13) (by decide +kernel), List.mem_of_getElem? (i := 454) (by decide +kernel), List.mem_of_getElem? (i := 455) (by decide +kernel)⟩
theorem lw_p6 : lw_okq (⟨"PartitionPoset", "spellRegister", "(I)V"⟩, 10) := ⟨⟨by decide +kernel, by decide +kernel⟩, List.mem_of_getElem? (i := 13) (by decide +kernel), List.mem_of_getElem? (i := 467) (by decide +kernel), List.mem_of_getElem? (i := 468) (by decide +kernel)⟩
theorem lw_p7 : lw_okq (⟨"PartitionPoset", "stepTo", "(II)I"⟩, 10) := ⟨⟨by decide +kernel, by decide +kernel⟩, List.mem_of_getElem? (i := 13) (by decide +kernel), List.mem_of_getElem? (i := 495) (by decide +kernel), List.mem_of_getElem? (i := 496) (by decide +kernel)⟩
theorem lw_p8 : lw_okq (⟨"PartitionPoset", "faultOfAdmitted", "(IIZ)I"⟩, 10) := ⟨⟨by decide +kernel, by decide +kernel⟩, List.mem_of_getElem? (i := 13) (by decide +kernel), List.mem_of_getElem? (i := 583) (by decide +kernel), List.mem_of_getElem? (i := 584) (by decide +kernel)⟩
theorem lw_p9 : lw_okq (⟨"PartitionPoset", "findNearestBounds", "(IIZ)V"⟩, 10) := ⟨⟨by decide +kernel, by decide +kernel⟩, List.mem_of_getElem? (i := 13) (by decide +kernel), List.mem_of_getElem? (i := 600) (by decide +kernel), List.mem_of_getElem? (i := 601) (by decide +kernel)⟩
theorem lw_p10 : lw_okq (⟨"PartitionPoset", "selectSpan", "(II)V"⟩, 10) := ⟨⟨by decide +kernel, by decide +kernel⟩, List.mem_of_getElem? (i := 13) (by decide +kernel), List.mem_of_getElem? (i := 612) (by decide +kernel), List.mem_of_getElem? (i := 613) (by decide +kernel)⟩
theorem lw_p11 : lw_okq (⟨"PartitionPoset", "mostThatStay", "()I"⟩, 10) := ⟨⟨by decide +kernel, by decide +kernel⟩, List.mem_of_getElem? (i := 13) (by decide +kernel), List.mem_of_getElem? (i := 695) (by decide +kernel), List.mem_of_getElem? (i := 696) (by decide +kernel)⟩
theorem lw_p12 : lw_okq (⟨"PartitionPoset", "mostWithBlock", "(II)I"⟩, 10) := ⟨⟨by decide +kernel, by decide +kernel⟩, List.mem_of_getElem? (i := 13) (by decide +kernel), List.mem_of_getElem? (i := 699) (by decide +kernel), List.mem_of_getElem? (i := 700) (by decide +kernel)⟩
theorem lw_p13 : lw_okq (⟨"PartitionPoset", "disagreementsWith", "(II)I"⟩, 10) := ⟨⟨by decide +kernel, by decide +kernel⟩, List.mem_of_getElem? (i := 13) (by decide +kernel), List.mem_of_getElem? (i := 713) (by decide +kernel), List.mem_of_getElem? (i := 714) (by decide +kernel)⟩
theorem lw_p14 : lw_okq (⟨"PartitionPoset", "hashOfRegister", "(JI)J"⟩, 10) := ⟨⟨by decide +kernel, by decide +kernel⟩, List.mem_of_getElem? (i := 13) (by decide +kernel), List.mem_of_getElem? (i := 743) (by decide +kernel), List.mem_of_getElem? (i := 744) (by decide +kernel)⟩
theorem lw_p15 : lw_okq (⟨"PartitionPosetModel", "starts", "(I)V"⟩, 14) := ⟨⟨by decide +kernel, by decide +kernel⟩, List.mem_of_getElem? (i := 751) (by decide +kernel), List.mem_of_getElem? (i := 757) (by decide +kernel), List.mem_of_getElem? (i := 758) (by decide +kernel)⟩
def lw_privs_1 : List (MethodName × Nat) := [(⟨"PartitionPoset", "refresh", "()V"⟩, 10), (⟨"PartitionPoset", "isElement", "(I)Z"⟩, 10), (⟨"PartitionPoset", "put", "(II)I"⟩, 10), (⟨"PartitionPoset", "blockCountOf", "(I)I"⟩, 10), (⟨"PartitionPoset", "faultOf", "(IIZ)I"⟩, 10), (⟨"PartitionPoset", "moveElements", "(I)I"⟩, 10), (⟨"PartitionPoset", "spellRegister", "(I)V"⟩, 10), (⟨"PartitionPoset", "stepTo", "(II)I"⟩, 10), (⟨"PartitionPoset", "faultOfAdmitted", "(IIZ)I"⟩, 10), (⟨"PartitionPoset", "findNearestBounds", "(IIZ)V"⟩, 10), (⟨"PartitionPoset", "selectSpan", "(II)V"⟩, 10), (⟨"PartitionPoset", "mostThatStay", "()I"⟩, 10), (⟨"PartitionPoset", "mostWithBlock", "(II)I"⟩, 10), (⟨"PartitionPoset", "disagreementsWith", "(II)I"⟩, 10), (⟨"PartitionPoset", "hashOfRegister", "(JI)J"⟩, 10), (⟨"PartitionPosetModel", "starts", "(I)V"⟩, 14)]
theorem lw_r1 : ∀ q ∈ lw_privs_1, lw_okq q := List.forall_mem_cons.mpr ⟨lw_p0, List.forall_mem_cons.mpr ⟨lw_p1, List.forall_mem_cons.mpr ⟨lw_p2, List.forall_mem_cons.mpr ⟨lw_p3, List.forall_mem_cons.mpr ⟨lw_p4, List.forall_mem_cons.mpr ⟨lw_p5, List.forall_mem_cons.mpr ⟨lw_p6, List.forall_mem_cons.mpr ⟨lw_p7, List.forall_mem_cons.mpr ⟨lw_p8, List.forall_mem_cons.mpr ⟨lw_p9, List.forall_mem_cons.mpr ⟨lw_p10, List.forall_mem_cons.mpr ⟨lw_p11, List.forall_mem_cons.mpr ⟨lw_p12, List.forall_mem_cons.mpr ⟨lw_p13, List.forall_mem_cons.mpr ⟨lw_p14, List.forall_mem_cons.mpr ⟨lw_p15, fun _ h => absurd h List.not_mem_nil⟩⟩⟩⟩⟩⟩⟩⟩⟩⟩⟩⟩⟩⟩⟩⟩
theorem lw_p16 : lw_okq (⟨"PartitionPosetModel", "lays", "()V"⟩, 14) := ⟨⟨by decide +kernel, by decide +kernel⟩, List.mem_of_getElem? (i := 751) (by decide +kernel), List.mem_of_getElem? (i := 761) (by decide +kernel), List.mem_of_getElem? (i := 762) (by decide +kernel)⟩
theorem lw_p17 : lw_okq (⟨"PartitionPosetModel", "greatest", "(I)I"⟩, 14) := ⟨⟨by decide +kernel, by decide +kernel⟩, List.mem_of_getElem? (i := 751) (by decide +kernel), List.mem_of_getElem? (i := 765) (by decide +kernel), List.mem_of_getElem? (i := 766) (by decide +kernel)⟩
theorem lw_p18 : lw_okq (⟨"PartitionPosetModel", "admits", "()V"⟩, 14) := ⟨⟨by decide +kernel, by decide +kernel⟩, List.mem_of_getElem? (i := 751) (by decide +kernel), List.mem_of_getElem? (i := 769) (by decide +kernel), List.mem_of_getElem? (i := 770) (by decide +kernel)⟩
theorem lw_p19 : lw_okq (⟨"PartitionPosetModel", "reason", "(I)I"⟩, 14) := ⟨⟨by decide +kernel, by decide +kernel⟩, List.mem_of_getElem? (i := 751) (by decide +kernel), List.mem_of_getElem? (i := 773) (by decide +kernel), List.mem_of_getElem? (i := 774) (by decide +kernel)⟩
theorem lw_p20 : lw_okq (⟨"PartitionPosetModel", "firstSize", "(I)I"⟩, 14) := ⟨⟨by decide +kernel, by decide +kernel⟩, List.mem_of_getElem? (i := 751) (by decide +kernel), List.mem_of_getElem? (i := 777) (by decide +kernel), List.mem_of_getElem? (i := 778) (by decide +kernel)⟩
theorem lw_p21 : lw_okq (⟨"PartitionPosetModel", "sizeOf", "(II)I"⟩, 14) := ⟨⟨by decide +kernel, by decide +kernel⟩, List.mem_of_getElem? (i := 751) (by decide +kernel), List.mem_of_getElem? (i := 781) (by decide +kernel), List.mem_of_getElem? (i := 782) (by decide +kernel)⟩
theorem lw_p22 : lw_okq (⟨"PartitionPosetModel", "at", "(II)I"⟩, 14) := ⟨⟨by decide +kernel, by decide +kernel⟩, List.mem_of_getElem? (i := 751) (by decide +kernel), List.mem_of_getElem? (i := 785) (by decide +kernel), List.mem_of_getElem? (i := 786) (by decide +kernel)⟩
theorem lw_p23 : lw_okq (⟨"PartitionPosetModel", "firstPair", "(IIZ)I"⟩, 14) := ⟨⟨by decide +kernel, by decide +kernel⟩, List.mem_of_getElem? (i := 751) (by decide +kernel), List.mem_of_getElem? (i := 789) (by decide +kernel), List.mem_of_getElem? (i := 790) (by decide +kernel)⟩
theorem lw_p24 : lw_okq (⟨"PartitionPosetModel", "firstCrossing", "(I)I"⟩, 14) := ⟨⟨by decide +kernel, by decide +kernel⟩, List.mem_of_getElem? (i := 751) (by decide +kernel), List.mem_of_getElem? (i := 796) (by decide +kernel), List.mem_of_getElem? (i := 797) (by decide +kernel)⟩
theorem lw_p25 : lw_okq (⟨"PartitionPosetModel", "areCrossing", "(III)Z"⟩, 14) := ⟨⟨by decide +kernel, by decide +kernel⟩, List.mem_of_getElem? (i := 751) (by decide +kernel), List.mem_of_getElem? (i := 800) (by decide +kernel), List.mem_of_getElem? (i := 801) (by decide +kernel)⟩
theorem lw_p26 : lw_okq (⟨"PartitionPosetModel", "begins", "()V"⟩, 14) := ⟨⟨by decide +kernel, by decide +kernel⟩, List.mem_of_getElem? (i := 751) (by decide +kernel), List.mem_of_getElem? (i := 854) (by decide +kernel), List.mem_of_getElem? (i := 855) (by decide +kernel)⟩
theorem lw_p27 : lw_okq (⟨"PartitionPosetModel", "setsBit", "(IIZ)I"⟩, 14) := ⟨⟨by decide +kernel, by decide +kernel⟩, List.mem_of_getElem? (i := 751) (by decide +kernel), List.mem_of_getElem? (i := 862) (by decide +kernel), List.mem_of_getElem? (i := 863) (by decide +kernel)⟩
theorem lw_p28 : lw_okq (⟨"PartitionPosetModel", "sets", "(II)I"⟩, 14) := ⟨⟨by decide +kernel, by decide +kernel⟩, List.mem_of_getElem? (i := 751) (by decide +kernel), List.mem_of_getElem? (i := 866) (by decide +kernel), List.mem_of_getElem? (i := 867) (by decide +kernel)⟩
theorem lw_p29 : lw_okq (⟨"PartitionPosetModel", "isPair", "(II)Z"⟩, 14) := ⟨⟨by decide +kernel, by decide +kernel⟩, List.mem_of_getElem? (i := 751) (by decide +kernel), List.mem_of_getElem? (i := 878) (by decide +kernel), List.mem_of_getElem? (i := 879) (by decide +kernel)⟩
theorem lw_p30 : lw_okq (⟨"PartitionPosetModel", "isElement", "(I)Z"⟩, 14) := ⟨⟨by decide +kernel, by decide +kernel⟩, List.mem_of_getElem? (i := 751) (by decide +kernel), List.mem_of_getElem? (i := 882) (by decide +kernel), List.mem_of_getElem? (i := 883) (by decide +kernel)⟩
theorem lw_p31 : lw_okq (⟨"PartitionPosetModel", "reads", "()I"⟩, 14) := ⟨⟨by decide +kernel, by decide +kernel⟩, List.mem_of_getElem? (i := 751) (by decide +kernel), List.mem_of_getElem? (i := 909) (by decide +kernel), List.mem_of_getElem? (i := 910) (by decide +kernel)⟩
def lw_privs_2 : List (MethodName × Nat) := [(⟨"PartitionPosetModel", "lays", "()V"⟩, 14), (⟨"PartitionPosetModel", "greatest", "(I)I"⟩, 14), (⟨"PartitionPosetModel", "admits", "()V"⟩, 14), (⟨"PartitionPosetModel", "reason", "(I)I"⟩, 14), (⟨"PartitionPosetModel", "firstSize", "(I)I"⟩, 14), (⟨"PartitionPosetModel", "sizeOf", "(II)I"⟩, 14), (⟨"PartitionPosetModel", "at", "(II)I"⟩, 14), (⟨"PartitionPosetModel", "firstPair", "(IIZ)I"⟩, 14), (⟨"PartitionPosetModel", "firstCrossing", "(I)I"⟩, 14), (⟨"PartitionPosetModel", "areCrossing", "(III)Z"⟩, 14), (⟨"PartitionPosetModel", "begins", "()V"⟩, 14), (⟨"PartitionPosetModel", "setsBit", "(IIZ)I"⟩, 14), (⟨"PartitionPosetModel", "sets", "(II)I"⟩, 14), (⟨"PartitionPosetModel", "isPair", "(II)Z"⟩, 14), (⟨"PartitionPosetModel", "isElement", "(I)Z"⟩, 14), (⟨"PartitionPosetModel", "reads", "()I"⟩, 14)]
theorem lw_r2 : ∀ q ∈ lw_privs_2, lw_okq q := List.forall_mem_cons.mpr ⟨lw_p16, List.forall_mem_cons.mpr ⟨lw_p17, List.forall_mem_cons.mpr ⟨lw_p18, List.forall_mem_cons.mpr ⟨lw_p19, List.forall_mem_cons.mpr ⟨lw_p20, List.forall_mem_cons.mpr ⟨lw_p21, List.forall_mem_cons.mpr ⟨lw_p22, List.forall_mem_cons.mpr ⟨lw_p23, List.forall_mem_cons.mpr ⟨lw_p24, List.forall_mem_cons.mpr ⟨lw_p25, List.forall_mem_cons.mpr ⟨lw_p26, List.forall_mem_cons.mpr ⟨lw_p27, List.forall_mem_cons.mpr ⟨lw_p28, List.forall_mem_cons.mpr ⟨lw_p29, List.forall_mem_cons.mpr ⟨lw_p30, List.forall_mem_cons.mpr ⟨lw_p31, fun _ h => absurd h List.not_mem_nil⟩⟩⟩⟩⟩⟩⟩⟩⟩⟩⟩⟩⟩⟩⟩⟩
theorem lw_p32 : lw_okq (⟨"PartitionPosetModel", "numberOf", "()I"⟩, 14) := ⟨⟨by decide +kernel, by decide +kernel⟩, List.mem_of_getElem? (i := 751) (by decide +kernel), List.mem_of_getElem? (i := 913) (by decide +kernel), List.mem_of_getElem? (i := 914) (by decide +kernel)⟩
theorem lw_p33 : lw_okq (⟨"PartitionPosetModel", "puts", "(II)I"⟩, 14) := ⟨⟨by decide +kernel, by decide +kernel⟩, List.mem_of_getElem? (i := 751) (by decide +kernel), List.mem_of_getElem? (i := 917) (by decide +kernel), List.mem_of_getElem? (i := 918) (by decide +kernel)⟩
theorem lw_p34 : lw_okq (⟨"PartitionPosetModel", "wrong", "(I)I"⟩, 14) := ⟨⟨by decide +kernel, by decide +kernel⟩, List.mem_of_getElem? (i := 751) (by decide +kernel), List.mem_of_getElem? (i := 933) (by decide +kernel), List.mem_of_getElem? (i := 934) (by decide +kernel)⟩
theorem lw_p35 : lw_okq (⟨"PartitionPosetModel", "held", "(I)I"⟩, 14) := ⟨⟨by decide +kernel, by decide +kernel⟩, List.mem_of_getElem? (i := 751) (by decide +kernel), List.mem_of_getElem? (i := 937) (by decide +kernel), List.mem_of_getElem? (i := 938) (by decide +kernel)⟩
theorem lw_p36 : lw_okq (⟨"PartitionPosetModel", "wrongOf", "(II)I"⟩, 14) := ⟨⟨by decide +kernel, by decide +kernel⟩, List.mem_of_getElem? (i := 751) (by decide +kernel), List.mem_of_getElem? (i := 945) (by decide +kernel), List.mem_of_getElem? (i := 946) (by decide +kernel)⟩
theorem lw_p37 : lw_okq (⟨"PartitionPosetModel", "takes", "(I)V"⟩, 14) := ⟨⟨by decide +kernel, by decide +kernel⟩, List.mem_of_getElem? (i := 751) (by decide +kernel), List.mem_of_getElem? (i := 953) (by decide +kernel), List.mem_of_getElem? (i := 954) (by decide +kernel)⟩
theorem lw_p38 : lw_okq (⟨"PartitionPosetModel", "merges", "(II)V"⟩, 14) := ⟨⟨by decide +kernel, by decide +kernel⟩, List.mem_of_getElem? (i := 751) (by decide +kernel), List.mem_of_getElem? (i := 957) (by decide +kernel), List.mem_of_getElem? (i := 958) (by decide +kernel)⟩
theorem lw_p39 : lw_okq (⟨"PartitionPosetModel", "changes", "(II)I"⟩, 14) := ⟨⟨by decide +kernel, by decide +kernel⟩, List.mem_of_getElem? (i := 751) (by decide +kernel), List.mem_of_getElem? (i := 973) (by decide +kernel), List.mem_of_getElem? (i := 974) (by decide +kernel)⟩
theorem lw_p40 : lw_okq (⟨"PartitionPosetModel", "isParted", "(III)Z"⟩, 14) := ⟨⟨by decide +kernel, by decide +kernel⟩, List.mem_of_getElem? (i := 751) (by decide +kernel), List.mem_of_getElem? (i := 985) (by decide +kernel), List.mem_of_getElem? (i := 986) (by decide +kernel)⟩
theorem lw_p41 : lw_okq (⟨"PartitionPosetModel", "admittedAt", "(I)I"⟩, 14) := ⟨⟨by decide +kernel, by decide +kernel⟩, List.mem_of_getElem? (i := 751) (by decide +kernel), List.mem_of_getElem? (i := 993) (by decide +kernel), List.mem_of_getElem? (i := 994) (by decide +kernel)⟩
theorem lw_p42 : lw_okq (⟨"PartitionPosetModel", "isAdmitted", "(I)Z"⟩, 14) := ⟨⟨by decide +kernel, by decide +kernel⟩, List.mem_of_getElem? (i := 751) (by decide +kernel), List.mem_of_getElem? (i := 997) (by decide +kernel), List.mem_of_getElem? (i := 998) (by decide +kernel)⟩
theorem lw_p43 : lw_okq (⟨"PartitionPosetModel", "steps", "(II)I"⟩, 14) := ⟨⟨by decide +kernel, by decide +kernel⟩, List.mem_of_getElem? (i := 751) (by decide +kernel), List.mem_of_getElem? (i := 1005) (by decide +kernel), List.mem_of_getElem? (i := 1006) (by decide +kernel)⟩
theorem lw_p44 : lw_okq (⟨"PartitionPosetModel", "nearest", "(II)I"⟩, 14) := ⟨⟨by decide +kernel, by decide +kernel⟩, List.mem_of_getElem? (i := 751) (by decide +kernel), List.mem_of_getElem? (i := 1009) (by decide +kernel), List.mem_of_getElem? (i := 1010) (by decide +kernel)⟩
theorem lw_p45 : lw_okq (⟨"PartitionPosetModel", "placeOf", "(I)I"⟩, 14) := ⟨⟨by decide +kernel, by decide +kernel⟩, List.mem_of_getElem? (i := 751) (by decide +kernel), List.mem_of_getElem? (i := 1054) (by decide +kernel), List.mem_of_getElem? (i := 1055) (by decide +kernel)⟩
theorem lw_p46 : lw_okq (⟨"PartitionPosetModel", "manyWith", "(I)I"⟩, 14) := ⟨⟨by decide +kernel, by decide +kernel⟩, List.mem_of_getElem? (i := 751) (by decide +kernel), List.mem_of_getElem? (i := 1066) (by decide +kernel), List.mem_of_getElem? (i := 1067) (by decide +kernel)⟩
theorem lw_p47 : lw_okq (⟨"PartitionPosetModel", "isBelow", "(II)Z"⟩, 14) := ⟨⟨by decide +kernel, by decide +kernel⟩, List.mem_of_getElem? (i := 751) (by decide +kernel), List.mem_of_getElem? (i := 1074) (by decide +kernel), List.mem_of_getElem? (i := 1075) (by decide +kernel)⟩
def lw_privs_3 : List (MethodName × Nat) := [(⟨"PartitionPosetModel", "numberOf", "()I"⟩, 14), (⟨"PartitionPosetModel", "puts", "(II)I"⟩, 14), (⟨"PartitionPosetModel", "wrong", "(I)I"⟩, 14), (⟨"PartitionPosetModel", "held", "(I)I"⟩, 14), (⟨"PartitionPosetModel", "wrongOf", "(II)I"⟩, 14), (⟨"PartitionPosetModel", "takes", "(I)V"⟩, 14), (⟨"PartitionPosetModel", "merges", "(II)V"⟩, 14), (⟨"PartitionPosetModel", "changes", "(II)I"⟩, 14), (⟨"PartitionPosetModel", "isParted", "(III)Z"⟩, 14), (⟨"PartitionPosetModel", "admittedAt", "(I)I"⟩, 14), (⟨"PartitionPosetModel", "isAdmitted", "(I)Z"⟩, 14), (⟨"PartitionPosetModel", "steps", "(II)I"⟩, 14), (⟨"PartitionPosetModel", "nearest", "(II)I"⟩, 14), (⟨"PartitionPosetModel", "placeOf", "(I)I"⟩, 14), (⟨"PartitionPosetModel", "manyWith", "(I)I"⟩, 14), (⟨"PartitionPosetModel", "isBelow", "(II)Z"⟩, 14)]
theorem lw_r3 : ∀ q ∈ lw_privs_3, lw_okq q := List.forall_mem_cons.mpr ⟨lw_p32, List.forall_mem_cons.mpr ⟨lw_p33, List.forall_mem_cons.mpr ⟨lw_p34, List.forall_mem_cons.mpr ⟨lw_p35, List.forall_mem_cons.mpr ⟨lw_p36, List.forall_mem_cons.mpr ⟨lw_p37, List.forall_mem_cons.mpr ⟨lw_p38, List.forall_mem_cons.mpr ⟨lw_p39, List.forall_mem_cons.mpr ⟨lw_p40, List.forall_mem_cons.mpr ⟨lw_p41, List.forall_mem_cons.mpr ⟨lw_p42, List.forall_mem_cons.mpr ⟨lw_p43, List.forall_mem_cons.mpr ⟨lw_p44, List.forall_mem_cons.mpr ⟨lw_p45, List.forall_mem_cons.mpr ⟨lw_p46, List.forall_mem_cons.mpr ⟨lw_p47, fun _ h => absurd h List.not_mem_nil⟩⟩⟩⟩⟩⟩⟩⟩⟩⟩⟩⟩⟩⟩⟩⟩
theorem lw_p48 : lw_okq (⟨"PartitionPosetModel", "isCover", "(II)Z"⟩, 14) := ⟨⟨by decide +kernel, by decide +kernel⟩, List.mem_of_getElem? (i := 751) (by decide +kernel), List.mem_of_getElem? (i := 1082) (by decide +kernel), List.mem_of_getElem? (i := 1083) (by decide +kernel)⟩
theorem lw_p49 : lw_okq (⟨"PartitionPosetModel", "isStrictly", "(II)Z"⟩, 14) := ⟨⟨by decide +kernel, by decide +kernel⟩, List.mem_of_getElem? (i := 751) (by decide +kernel), List.mem_of_getElem? (i := 1086) (by decide +kernel), List.mem_of_getElem? (i := 1087) (by decide +kernel)⟩
theorem lw_p50 : lw_okq (⟨"PartitionPosetModel", "nearestBounds", "(IIZ)I"⟩, 14) := ⟨⟨by decide +kernel, by decide +kernel⟩, List.mem_of_getElem? (i := 751) (by decide +kernel), List.mem_of_getElem? (i := 1094) (by decide +kernel), List.mem_of_getElem? (i := 1095) (by decide +kernel)⟩
theorem lw_p51 : lw_okq (⟨"PartitionPosetModel", "isBound", "(IIIZ)Z"⟩, 14) := ⟨⟨by decide +kernel, by decide +kernel⟩, List.mem_of_getElem? (i := 751) (by decide +kernel), List.mem_of_getElem? (i := 1098) (by decide +kernel), List.mem_of_getElem? (i := 1099) (by decide +kernel)⟩
theorem lw_p52 : lw_okq (⟨"PartitionPosetModel", "isBetween", "(III)Z"⟩, 14) := ⟨⟨by decide +kernel, by decide +kernel⟩, List.mem_of_getElem? (i := 751) (by decide +kernel), List.mem_of_getElem? (i := 1110) (by decide +kernel), List.mem_of_getElem? (i := 1111) (by decide +kernel)⟩
theorem lw_p53 : lw_okq (⟨"PartitionPosetModel", "wrongAdmitted", "(II)I"⟩, 14) := ⟨⟨by decide +kernel, by decide +kernel⟩, List.mem_of_getElem? (i := 751) (by decide +kernel), List.mem_of_getElem? (i := 1118) (by decide +kernel), List.mem_of_getElem? (i := 1119) (by decide +kernel)⟩
theorem lw_p54 : lw_okq (⟨"PartitionPosetModel", "moebiuses", "(II)V"⟩, 14) := ⟨⟨by decide +kernel, by decide +kernel⟩, List.mem_of_getElem? (i := 751) (by decide +kernel), List.mem_of_getElem? (i := 1123) (by decide +kernel), List.mem_of_getElem? (i := 1124) (by decide +kernel)⟩
theorem lw_p55 : lw_okq (⟨"PartitionPosetModel", "rank", "(I)I"⟩, 14) := ⟨⟨by decide +kernel, by decide +kernel⟩, List.mem_of_getElem? (i := 751) (by decide +kernel), List.mem_of_getElem? (i := 1127) (by decide +kernel), List.mem_of_getElem? (i := 1128) (by decide +kernel)⟩
theorem lw_p56 : lw_okq (⟨"PartitionPosetModel", "single", "(I)V"⟩, 14) := ⟨⟨by decide +kernel, by decide +kernel⟩, List.mem_of_getElem? (i := 751) (by decide +kernel), List.mem_of_getElem? (i := 1136) (by decide +kernel), List.mem_of_getElem? (i := 1137) (by decide +kernel)⟩
theorem lw_p57 : lw_okq (⟨"PartitionPosetModel", "extendsAll", "()V"⟩, 14) := ⟨⟨by decide +kernel, by decide +kernel⟩, List.mem_of_getElem? (i := 751) (by decide +kernel), List.mem_of_getElem? (i := 1140) (by decide +kernel), List.mem_of_getElem? (i := 1141) (by decide +kernel)⟩
theorem lw_p58 : lw_okq (⟨"PartitionPosetModel", "most", "(II)I"⟩, 14) := ⟨⟨by decide +kernel, by decide +kernel⟩, List.mem_of_getElem? (i := 751) (by decide +kernel), List.mem_of_getElem? (i := 1170) (by decide +kernel), List.mem_of_getElem? (i := 1171) (by decide +kernel)⟩
theorem lw_p59 : lw_okq (⟨"PartitionPosetModel", "common", "(IIII)I"⟩, 14) := ⟨⟨by decide +kernel, by decide +kernel⟩, List.mem_of_getElem? (i := 751) (by decide +kernel), List.mem_of_getElem? (i := 1174) (by decide +kernel), List.mem_of_getElem? (i := 1175) (by decide +kernel)⟩
theorem lw_p60 : lw_okq (⟨"PartitionPosetModel", "unlike", "(II)I"⟩, 14) := ⟨⟨by decide +kernel, by decide +kernel⟩, List.mem_of_getElem? (i := 751) (by decide +kernel), List.mem_of_getElem? (i := 1182) (by decide +kernel), List.mem_of_getElem? (i := 1183) (by decide +kernel)⟩
theorem lw_p61 : lw_okq (⟨"PartitionPosetModel", "unlikeAll", "(II)I"⟩, 14) := ⟨⟨by decide +kernel, by decide +kernel⟩, List.mem_of_getElem? (i := 751) (by decide +kernel), List.mem_of_getElem? (i := 1190) (by decide +kernel), List.mem_of_getElem? (i := 1191) (by decide +kernel)⟩
theorem lw_p62 : lw_okq (⟨"PartitionPosetModel", "full", "()I"⟩, 14) := ⟨⟨by decide +kernel, by decide +kernel⟩, List.mem_of_getElem? (i := 751) (by decide +kernel), List.mem_of_getElem? (i := 1202) (by decide +kernel), List.mem_of_getElem? (i := 1203) (by decide +kernel)⟩
def lw_privs_4 : List (MethodName × Nat) := [(⟨"PartitionPosetModel", "isCover", "(II)Z"⟩, 14), (⟨"PartitionPosetModel", "isStrictly", "(II)Z"⟩, 14), (⟨"PartitionPosetModel", "nearestBounds", "(IIZ)I"⟩, 14), (⟨"PartitionPosetModel", "isBound", "(IIIZ)Z"⟩, 14), (⟨"PartitionPosetModel", "isBetween", "(III)Z"⟩, 14), (⟨"PartitionPosetModel", "wrongAdmitted", "(II)I"⟩, 14), (⟨"PartitionPosetModel", "moebiuses", "(II)V"⟩, 14), (⟨"PartitionPosetModel", "rank", "(I)I"⟩, 14), (⟨"PartitionPosetModel", "single", "(I)V"⟩, 14), (⟨"PartitionPosetModel", "extendsAll", "()V"⟩, 14), (⟨"PartitionPosetModel", "most", "(II)I"⟩, 14), (⟨"PartitionPosetModel", "common", "(IIII)I"⟩, 14), (⟨"PartitionPosetModel", "unlike", "(II)I"⟩, 14), (⟨"PartitionPosetModel", "unlikeAll", "(II)I"⟩, 14), (⟨"PartitionPosetModel", "full", "()I"⟩, 14)]
theorem lw_r4 : ∀ q ∈ lw_privs_4, lw_okq q := List.forall_mem_cons.mpr ⟨lw_p48, List.forall_mem_cons.mpr ⟨lw_p49, List.forall_mem_cons.mpr ⟨lw_p50, List.forall_mem_cons.mpr ⟨lw_p51, List.forall_mem_cons.mpr ⟨lw_p52, List.forall_mem_cons.mpr ⟨lw_p53, List.forall_mem_cons.mpr ⟨lw_p54, List.forall_mem_cons.mpr ⟨lw_p55, List.forall_mem_cons.mpr ⟨lw_p56, List.forall_mem_cons.mpr ⟨lw_p57, List.forall_mem_cons.mpr ⟨lw_p58, List.forall_mem_cons.mpr ⟨lw_p59, List.forall_mem_cons.mpr ⟨lw_p60, List.forall_mem_cons.mpr ⟨lw_p61, List.forall_mem_cons.mpr ⟨lw_p62, fun _ h => absurd h List.not_mem_nil⟩⟩⟩⟩⟩⟩⟩⟩⟩⟩⟩⟩⟩⟩⟩
def lw_privs : List (MethodName × Nat) := lw_privs_1 ++ (lw_privs_2 ++ (lw_privs_3 ++ (lw_privs_4)))
def lw_tbl : List Cond := k2_sels lw_privs ++ tables_1
theorem lw_privs_ok : ∀ q ∈ lw_privs, lw_okq q := by
  show ∀ q ∈ lw_privs_1 ++ (lw_privs_2 ++ (lw_privs_3 ++ (lw_privs_4))), lw_okq q
  exact List.forall_mem_append.mpr ⟨lw_r1, List.forall_mem_append.mpr ⟨lw_r2, List.forall_mem_append.mpr ⟨lw_r3, lw_r4⟩⟩⟩
def RX0 : String := "PartitionPoset$Catalog"
def TX0 : u_T := fun k => match k with
  | 0 => ("PartitionPoset$Catalog", "pairs", "[I", true)
  | 1 => ("PartitionPoset$Catalog", "growthNumbers", "[I", true)
  | 2 => ("PartitionPoset$Catalog", "sizeSets", "[I", true)
  | 3 => ("PartitionPoset$Catalog", "blockCounts", "[I", true)
  | 4 => ("PartitionPoset$Catalog", "crossing", "[Z", true)
  | 5 => ("PartitionPoset$Catalog", "growth", "[I", true)
  | 6 => ("PartitionPoset$Catalog", "shape", "LPartitionPoset$Shape;", true)
  | 7 => ("PartitionPoset$Catalog", "n", "I", false)
  | _ => ("PartitionPoset$Catalog", "size", "I", false)
def tyX0 : Nat → FieldType := fun k => match k with
  | 0 => .array .int
  | 1 => .array .int
  | 2 => .array .int
  | 3 => .array .int
  | 4 => .array .boolean
  | 5 => .array .int
  | 6 => .object "PartitionPoset$Shape"
  | 7 => .int
  | _ => .int
abbrev wsX00 : List Cond := u_ws RX0 TX0 9
theorem nmX0 : ∀ a, a < 9 → ∀ b, b < 9 → a ≠ b → (TX0 a).2.1 ≠ (TX0 b).2.1 := by decide +kernel
theorem tyX0_ok : ∀ k, k < 9 → parseFieldDescriptor (TX0 k).2.2.1 = some (tyX0 k) := by decide +kernel
abbrev cX0_init : ByteArray := prog_2_method_1_code
def yX0_init : MethodName := ⟨RX0, "<init>", "()V"⟩
abbrev cX0_fill : ByteArray := prog_2_method_2_code
def yX0_fill : MethodName := ⟨RX0, "fill", "(I)V"⟩
abbrev cX0_enter : ByteArray := prog_2_method_3_code
def yX0_enter : MethodName := ⟨RX0, "enter", "(I)V"⟩
abbrev cX0_pairsOfGrowth : ByteArray := prog_2_method_4_code
def yX0_pairsOfGrowth : MethodName := ⟨RX0, "pairsOfGrowth", "()I"⟩
abbrev cX0_advance : ByteArray := prog_2_method_5_code
def yX0_advance : MethodName := ⟨RX0, "advance", "()Z"⟩
abbrev cX0_greatestBefore : ByteArray := prog_2_method_6_code
def yX0_greatestBefore : MethodName := ⟨RX0, "greatestBefore", "(I)I"⟩
abbrev cX0_closure : ByteArray := prog_2_method_7_code
def yX0_closure : MethodName := ⟨RX0, "closure", "(I)I"⟩
def RX1 : String := "PartitionPoset$History"
def TX1 : u_T := fun k => match k with
  | 0 => ("PartitionPoset$History", "states", "[LPartitionPoset$State;", true)
  | 1 => ("PartitionPoset$History", "place", "I", false)
  | _ => ("PartitionPoset$History", "remembered", "I", false)
def tyX1 : Nat → FieldType := fun k => match k with
  | 0 => .array (.object "PartitionPoset$State")
  | 1 => .int
  | _ => .int
abbrev wsX10 : List Cond := u_ws RX1 TX1 3
theorem nmX1 : ∀ a, a < 3 → ∀ b, b < 3 → a ≠ b → (TX1 a).2.1 ≠ (TX1 b).2.1 := by decide +kernel
theorem tyX1_ok : ∀ k, k < 3 → parseFieldDescriptor (TX1 k).2.2.1 = some (tyX1 k) := by decide +kernel
abbrev cX1_init : ByteArray := prog_3_method_1_code
def yX1_init : MethodName := ⟨RX1, "<init>", "()V"⟩
abbrev cX1_remember : ByteArray := prog_3_method_2_code
def yX1_remember : MethodName := ⟨RX1, "remember", "(LPartitionPoset$State;)V"⟩
abbrev cX1_restore : ByteArray := prog_3_method_3_code
def yX1_restore : MethodName := ⟨RX1, "restore", "(LPartitionPoset$State;)Z"⟩
def RX2 : String := "PartitionPoset$Roster"
def TX2 : u_T := fun k => match k with
  | 0 => ("PartitionPoset$Roster", "pairs", "[I", true)
  | 1 => ("PartitionPoset$Roster", "growthNumbers", "[I", true)
  | 2 => ("PartitionPoset$Roster", "blockCounts", "[I", true)
  | 3 => ("PartitionPoset$Roster", "byNumber", "[I", true)
  | 4 => ("PartitionPoset$Roster", "nearest", "[I", true)
  | 5 => ("PartitionPoset$Roster", "size", "I", false)
  | _ => ("PartitionPoset$Roster", "nearestCount", "I", false)
def tyX2 : Nat → FieldType := fun k => match k with
  | 0 => .array .int
  | 1 => .array .int
  | 2 => .array .int
  | 3 => .array .int
  | 4 => .array .int
  | 5 => .int
  | _ => .int
abbrev wsX20 : List Cond := u_ws RX2 TX2 7
theorem nmX2 : ∀ a, a < 7 → ∀ b, b < 7 → a ≠ b → (TX2 a).2.1 ≠ (TX2 b).2.1 := by decide +kernel
theorem tyX2_ok : ∀ k, k < 7 → parseFieldDescriptor (TX2 k).2.2.1 = some (tyX2 k) := by decide +kernel
abbrev cX2_init : ByteArray := prog_4_method_1_code
def yX2_init : MethodName := ⟨RX2, "<init>", "()V"⟩
abbrev cX2_select : ByteArray := prog_4_method_2_code
def yX2_select : MethodName := ⟨RX2, "select", "(LPartitionPoset$Catalog;LPartitionPoset$State;)V"⟩
abbrev cX2_has : ByteArray := prog_4_method_3_code
def yX2_has : MethodName := ⟨RX2, "has", "(I)Z"⟩
abbrev cX2_find : ByteArray := prog_4_method_4_code
def yX2_find : MethodName := ⟨RX2, "find", "(I)I"⟩
abbrev cX2_firstBehind : ByteArray := prog_4_method_5_code
def yX2_firstBehind : MethodName := ⟨RX2, "firstBehind", "(I)I"⟩
abbrev cX2_lastBefore : ByteArray := prog_4_method_6_code
def yX2_lastBefore : MethodName := ⟨RX2, "lastBefore", "(I)I"⟩
abbrev cX2_findNearest : ByteArray := prog_4_method_7_code
def yX2_findNearest : MethodName := ⟨RX2, "findNearest", "(IZI)V"⟩
abbrev cX2_isBehindNearest : ByteArray := prog_4_method_8_code
def yX2_isBehindNearest : MethodName := ⟨RX2, "isBehindNearest", "(IZ)Z"⟩
def RX3 : String := "PartitionPoset$Shape"
def TX3 : u_T := fun k => match k with
  | 0 => ("PartitionPoset$Shape", "labels", "[I", true)
  | 1 => ("PartitionPoset$Shape", "members", "[I", true)
  | 2 => ("PartitionPoset$Shape", "n", "I", false)
  | _ => ("PartitionPoset$Shape", "blockCount", "I", false)
def tyX3 : Nat → FieldType := fun k => match k with
  | 0 => .array .int
  | 1 => .array .int
  | 2 => .int
  | _ => .int
abbrev wsX30 : List Cond := u_ws RX3 TX3 4
theorem nmX3 : ∀ a, a < 4 → ∀ b, b < 4 → a ≠ b → (TX3 a).2.1 ≠ (TX3 b).2.1 := by decide +kernel
theorem tyX3_ok : ∀ k, k < 4 → parseFieldDescriptor (TX3 k).2.2.1 = some (tyX3 k) := by decide +kernel
abbrev cX3_init : ByteArray := prog_5_method_1_code
def yX3_init : MethodName := ⟨RX3, "<init>", "()V"⟩
abbrev cX3_spell : ByteArray := prog_5_method_2_code
def yX3_spell : MethodName := ⟨RX3, "spell", "(II)V"⟩
abbrev cX3_labelOfPartner : ByteArray := prog_5_method_3_code
def yX3_labelOfPartner : MethodName := ⟨RX3, "labelOfPartner", "(II)I"⟩
abbrev cX3_growthNumber : ByteArray := prog_5_method_4_code
def yX3_growthNumber : MethodName := ⟨RX3, "growthNumber", "()I"⟩
abbrev cX3_sizeSet : ByteArray := prog_5_method_5_code
def yX3_sizeSet : MethodName := ⟨RX3, "sizeSet", "()I"⟩
abbrev cX3_typeNumber : ByteArray := prog_5_method_6_code
def yX3_typeNumber : MethodName := ⟨RX3, "typeNumber", "()I"⟩
abbrev cX3_firstBlockNotIn : ByteArray := prog_5_method_7_code
def yX3_firstBlockNotIn : MethodName := ⟨RX3, "firstBlockNotIn", "(I)I"⟩
abbrev cX3_crossingCount : ByteArray := prog_5_method_8_code
def yX3_crossingCount : MethodName := ⟨RX3, "crossingCount", "()I"⟩
abbrev cX3_firstCrossing : ByteArray := prog_5_method_9_code
def yX3_firstCrossing : MethodName := ⟨RX3, "firstCrossing", "()I"⟩
abbrev cX3_areCrossing : ByteArray := prog_5_method_10_code
def yX3_areCrossing : MethodName := ⟨RX3, "areCrossing", "(II)Z"⟩
def RX4 : String := "PartitionPoset$Span"
def TX4 : u_T := fun k => match k with
  | 0 => ("PartitionPoset$Span", "pairs", "[I", true)
  | 1 => ("PartitionPoset$Span", "blockCounts", "[I", true)
  | 2 => ("PartitionPoset$Span", "values", "[J", true)
  | 3 => ("PartitionPoset$Span", "covered", "[I", true)
  | _ => ("PartitionPoset$Span", "size", "I", false)
def tyX4 : Nat → FieldType := fun k => match k with
  | 0 => .array .int
  | 1 => .array .int
  | 2 => .array .long
  | 3 => .array .int
  | _ => .int
abbrev wsX40 : List Cond := u_ws RX4 TX4 5
theorem nmX4 : ∀ a, a < 5 → ∀ b, b < 5 → a ≠ b → (TX4 a).2.1 ≠ (TX4 b).2.1 := by decide +kernel
theorem tyX4_ok : ∀ k, k < 5 → parseFieldDescriptor (TX4 k).2.2.1 = some (tyX4 k) := by decide +kernel
abbrev cX4_init : ByteArray := prog_6_method_1_code
def yX4_init : MethodName := ⟨RX4, "<init>", "()V"⟩
abbrev cX4_select : ByteArray := prog_6_method_2_code
def yX4_select : MethodName := ⟨RX4, "select", "(LPartitionPoset$Roster;II)V"⟩
abbrev cX4_lastValue : ByteArray := prog_6_method_3_code
def yX4_lastValue : MethodName := ⟨RX4, "lastValue", "()J"⟩
abbrev cX4_startAtFirst : ByteArray := prog_6_method_4_code
def yX4_startAtFirst : MethodName := ⟨RX4, "startAtFirst", "()V"⟩
abbrev cX4_putMoebius : ByteArray := prog_6_method_5_code
def yX4_putMoebius : MethodName := ⟨RX4, "putMoebius", "()V"⟩
abbrev cX4_putChains : ByteArray := prog_6_method_6_code
def yX4_putChains : MethodName := ⟨RX4, "putChains", "(I)V"⟩
abbrev cX4_putMaximalChains : ByteArray := prog_6_method_7_code
def yX4_putMaximalChains : MethodName := ⟨RX4, "putMaximalChains", "()V"⟩
abbrev cX4_putHeights : ByteArray := prog_6_method_8_code
def yX4_putHeights : MethodName := ⟨RX4, "putHeights", "()V"⟩
abbrev cX4_sumStrictlyBelow : ByteArray := prog_6_method_9_code
def yX4_sumStrictlyBelow : MethodName := ⟨RX4, "sumStrictlyBelow", "(I)J"⟩
abbrev cX4_sumCovered : ByteArray := prog_6_method_10_code
def yX4_sumCovered : MethodName := ⟨RX4, "sumCovered", "(I)J"⟩
abbrev cX4_isBelowCovered : ByteArray := prog_6_method_11_code
def yX4_isBelowCovered : MethodName := ⟨RX4, "isBelowCovered", "(II)Z"⟩
def RX5 : String := "PartitionPoset$State"
def TX5 : u_T := fun k => match k with
  | 0 => ("PartitionPoset$State", "registers", "[I", true)
  | 1 => ("PartitionPoset$State", "n", "I", false)
  | 2 => ("PartitionPoset$State", "sizes", "I", false)
  | 3 => ("PartitionPoset$State", "numbers", "I", false)
  | 4 => ("PartitionPoset$State", "apartPairs", "I", false)
  | 5 => ("PartitionPoset$State", "togetherPairs", "I", false)
  | _ => ("PartitionPoset$State", "noncrossingOnly", "Z", false)
def tyX5 : Nat → FieldType := fun k => match k with
  | 0 => .array .int
  | 1 => .int
  | 2 => .int
  | 3 => .int
  | 4 => .int
  | 5 => .int
  | _ => .boolean
abbrev wsX50 : List Cond := u_ws RX5 TX5 7
theorem nmX5 : ∀ a, a < 7 → ∀ b, b < 7 → a ≠ b → (TX5 a).2.1 ≠ (TX5 b).2.1 := by decide +kernel
theorem tyX5_ok : ∀ k, k < 7 → parseFieldDescriptor (TX5 k).2.2.1 = some (tyX5 k) := by decide +kernel
abbrev cX5_init : ByteArray := prog_7_method_1_code
def yX5_init : MethodName := ⟨RX5, "<init>", "()V"⟩
abbrev cX5_reset : ByteArray := prog_7_method_2_code
def yX5_reset : MethodName := ⟨RX5, "reset", "(I)V"⟩
abbrev cX5_takeFrom : ByteArray := prog_7_method_3_code
def yX5_takeFrom : MethodName := ⟨RX5, "takeFrom", "(LPartitionPoset$State;)V"⟩
abbrev cX5_filledRegisters : ByteArray := prog_7_method_4_code
def yX5_filledRegisters : MethodName := ⟨RX5, "filledRegisters", "()I"⟩
abbrev cX5_reason : ByteArray := prog_7_method_5_code
def yX5_reason : MethodName := ⟨RX5, "reason", "(IIIZ)I"⟩
def RX6 : String := "PartitionPoset$Text"
def TX6 : u_T := fun k => match k with
  | 0 => ("PartitionPoset$Text", "bytes", "[I", true)
  | _ => ("PartitionPoset$Text", "length", "I", false)
def tyX6 : Nat → FieldType := fun k => match k with
  | 0 => .array .int
  | _ => .int
abbrev wsX60 : List Cond := u_ws RX6 TX6 2
theorem nmX6 : ∀ a, a < 2 → ∀ b, b < 2 → a ≠ b → (TX6 a).2.1 ≠ (TX6 b).2.1 := by decide +kernel
theorem tyX6_ok : ∀ k, k < 2 → parseFieldDescriptor (TX6 k).2.2.1 = some (tyX6 k) := by decide +kernel
abbrev cX6_init : ByteArray := prog_8_method_1_code
def yX6_init : MethodName := ⟨RX6, "<init>", "()V"⟩
abbrev cX6_append : ByteArray := prog_8_method_2_code
def yX6_append : MethodName := ⟨RX6, "append", "(I)Z"⟩
abbrev cX6_parse : ByteArray := prog_8_method_3_code
def yX6_parse : MethodName := ⟨RX6, "parse", "(I)I"⟩
def RX7 : String := "PartitionPoset"
def TX7 : u_T := fun k => match k with
  | 0 => ("PartitionPoset", "state", "LPartitionPoset$State;", true)
  | 1 => ("PartitionPoset", "history", "LPartitionPoset$History;", true)
  | 2 => ("PartitionPoset", "text", "LPartitionPoset$Text;", true)
  | 3 => ("PartitionPoset", "catalog", "LPartitionPoset$Catalog;", true)
  | 4 => ("PartitionPoset", "roster", "LPartitionPoset$Roster;", true)
  | 5 => ("PartitionPoset", "span", "LPartitionPoset$Span;", true)
  | 6 => ("PartitionPoset", "shape", "LPartitionPoset$Shape;", true)
  | 7 => ("PartitionPoset", "otherShape", "LPartitionPoset$Shape;", true)
  | 8 => ("PartitionPoset", "image", "[I", true)
  | _ => ("PartitionPoset", "best", "[I", true)
def tyX7 : Nat → FieldType := fun k => match k with
  | 0 => .object "PartitionPoset$State"
  | 1 => .object "PartitionPoset$History"
  | 2 => .object "PartitionPoset$Text"
  | 3 => .object "PartitionPoset$Catalog"
  | 4 => .object "PartitionPoset$Roster"
  | 5 => .object "PartitionPoset$Span"
  | 6 => .object "PartitionPoset$Shape"
  | 7 => .object "PartitionPoset$Shape"
  | 8 => .array .int
  | _ => .array .int
abbrev wsX70 : List Cond := u_ws RX7 TX7 10
theorem nmX7 : ∀ a, a < 10 → ∀ b, b < 10 → a ≠ b → (TX7 a).2.1 ≠ (TX7 b).2.1 := by decide +kernel
theorem tyX7_ok : ∀ k, k < 10 → parseFieldDescriptor (TX7 k).2.2.1 = some (tyX7 k) := by decide +kernel
abbrev cX7_init : ByteArray := prog_1_method_1_code
def yX7_init : MethodName := ⟨RX7, "<init>", "()V"⟩
abbrev cX7_setSize : ByteArray := prog_1_method_2_code
def yX7_setSize : MethodName := ⟨RX7, "setSize", "(I)I"⟩
abbrev cX7_allowSize : ByteArray := prog_1_method_3_code
def yX7_allowSize : MethodName := ⟨RX7, "allowSize", "(IZ)I"⟩
abbrev cX7_allowNumber : ByteArray := prog_1_method_4_code
def yX7_allowNumber : MethodName := ⟨RX7, "allowNumber", "(IZ)I"⟩
abbrev cX7_apart : ByteArray := prog_1_method_5_code
def yX7_apart : MethodName := ⟨RX7, "apart", "(IIZ)I"⟩
abbrev cX7_together : ByteArray := prog_1_method_6_code
def yX7_together : MethodName := ⟨RX7, "together", "(IIZ)I"⟩
abbrev cX7_noncrossing : ByteArray := prog_1_method_7_code
def yX7_noncrossing : MethodName := ⟨RX7, "noncrossing", "(Z)I"⟩
abbrev cX7_type : ByteArray := prog_1_method_8_code
def yX7_type : MethodName := ⟨RX7, "type", "(I)I"⟩
abbrev cX7_clear : ByteArray := prog_1_method_9_code
def yX7_clear : MethodName := ⟨RX7, "clear", "()I"⟩
abbrev cX7_read : ByteArray := prog_1_method_10_code
def yX7_read : MethodName := ⟨RX7, "read", "(I)I"⟩
abbrev cX7_finest : ByteArray := prog_1_method_11_code
def yX7_finest : MethodName := ⟨RX7, "finest", "(I)I"⟩
abbrev cX7_coarsest : ByteArray := prog_1_method_12_code
def yX7_coarsest : MethodName := ⟨RX7, "coarsest", "(I)I"⟩
abbrev cX7_copy : ByteArray := prog_1_method_13_code
def yX7_copy : MethodName := ⟨RX7, "copy", "(II)I"⟩
abbrev cX7_meet : ByteArray := prog_1_method_14_code
def yX7_meet : MethodName := ⟨RX7, "meet", "(III)I"⟩
abbrev cX7_join : ByteArray := prog_1_method_15_code
def yX7_join : MethodName := ⟨RX7, "join", "(III)I"⟩
abbrev cX7_unite : ByteArray := prog_1_method_16_code
def yX7_unite : MethodName := ⟨RX7, "unite", "(III)I"⟩
abbrev cX7_isolate : ByteArray := prog_1_method_17_code
def yX7_isolate : MethodName := ⟨RX7, "isolate", "(II)I"⟩
abbrev cX7_swap : ByteArray := prog_1_method_18_code
def yX7_swap : MethodName := ⟨RX7, "swap", "(III)I"⟩
abbrev cX7_rotate : ByteArray := prog_1_method_19_code
def yX7_rotate : MethodName := ⟨RX7, "rotate", "(I)I"⟩
abbrev cX7_complement : ByteArray := prog_1_method_20_code
def yX7_complement : MethodName := ⟨RX7, "complement", "(II)I"⟩
abbrev cX7_unrank : ByteArray := prog_1_method_21_code
def yX7_unrank : MethodName := ⟨RX7, "unrank", "(II)I"⟩
abbrev cX7_next : ByteArray := prog_1_method_22_code
def yX7_next : MethodName := ⟨RX7, "next", "(I)I"⟩
abbrev cX7_previous : ByteArray := prog_1_method_23_code
def yX7_previous : MethodName := ⟨RX7, "previous", "(I)I"⟩
abbrev cX7_draw : ByteArray := prog_1_method_24_code
def yX7_draw : MethodName := ⟨RX7, "draw", "(II)I"⟩
abbrev cX7_blocks : ByteArray := prog_1_method_25_code
def yX7_blocks : MethodName := ⟨RX7, "blocks", "(I)I"⟩
abbrev cX7_blockOf : ByteArray := prog_1_method_26_code
def yX7_blockOf : MethodName := ⟨RX7, "blockOf", "(II)I"⟩
abbrev cX7_block : ByteArray := prog_1_method_27_code
def yX7_block : MethodName := ⟨RX7, "block", "(II)I"⟩
abbrev cX7_typeOf : ByteArray := prog_1_method_28_code
def yX7_typeOf : MethodName := ⟨RX7, "typeOf", "(I)I"⟩
abbrev cX7_crossings : ByteArray := prog_1_method_29_code
def yX7_crossings : MethodName := ⟨RX7, "crossings", "(I)I"⟩
abbrev cX7_index : ByteArray := prog_1_method_30_code
def yX7_index : MethodName := ⟨RX7, "index", "(I)I"⟩
abbrev cX7_why : ByteArray := prog_1_method_31_code
def yX7_why : MethodName := ⟨RX7, "why", "(I)I"⟩
abbrev cX7_where : ByteArray := prog_1_method_32_code
def yX7_where : MethodName := ⟨RX7, "where", "(I)I"⟩
abbrev cX7_count : ByteArray := prog_1_method_33_code
def yX7_count : MethodName := ⟨RX7, "count", "()I"⟩
abbrev cX7_countWith : ByteArray := prog_1_method_34_code
def yX7_countWith : MethodName := ⟨RX7, "countWith", "(I)I"⟩
abbrev cX7_below : ByteArray := prog_1_method_35_code
def yX7_below : MethodName := ⟨RX7, "below", "(II)I"⟩
abbrev cX7_covers : ByteArray := prog_1_method_36_code
def yX7_covers : MethodName := ⟨RX7, "covers", "(IZ)I"⟩
abbrev cX7_bounds : ByteArray := prog_1_method_37_code
def yX7_bounds : MethodName := ⟨RX7, "bounds", "(IIZ)I"⟩
abbrev cX7_bound : ByteArray := prog_1_method_38_code
def yX7_bound : MethodName := ⟨RX7, "bound", "(IIZI)I"⟩
abbrev cX7_interval : ByteArray := prog_1_method_39_code
def yX7_interval : MethodName := ⟨RX7, "interval", "(II)I"⟩
abbrev cX7_moebius : ByteArray := prog_1_method_40_code
def yX7_moebius : MethodName := ⟨RX7, "moebius", "(II)J"⟩
abbrev cX7_chains : ByteArray := prog_1_method_41_code
def yX7_chains : MethodName := ⟨RX7, "chains", "(III)J"⟩
abbrev cX7_maximalChains : ByteArray := prog_1_method_42_code
def yX7_maximalChains : MethodName := ⟨RX7, "maximalChains", "(II)J"⟩
abbrev cX7_height : ByteArray := prog_1_method_43_code
def yX7_height : MethodName := ⟨RX7, "height", "(II)I"⟩
abbrev cX7_rankSum : ByteArray := prog_1_method_44_code
def yX7_rankSum : MethodName := ⟨RX7, "rankSum", "(III)J"⟩
abbrev cX7_characteristic : ByteArray := prog_1_method_45_code
def yX7_characteristic : MethodName := ⟨RX7, "characteristic", "(III)J"⟩
abbrev cX7_transfers : ByteArray := prog_1_method_46_code
def yX7_transfers : MethodName := ⟨RX7, "transfers", "(II)I"⟩
abbrev cX7_disagreements : ByteArray := prog_1_method_47_code
def yX7_disagreements : MethodName := ⟨RX7, "disagreements", "(II)I"⟩
abbrev cX7_median : ByteArray := prog_1_method_48_code
def yX7_median : MethodName := ⟨RX7, "median", "(II)I"⟩
abbrev cX7_undo : ByteArray := prog_1_method_49_code
def yX7_undo : MethodName := ⟨RX7, "undo", "()I"⟩
abbrev cX7_told : ByteArray := prog_1_method_50_code
def yX7_told : MethodName := ⟨RX7, "told", "(I)I"⟩
abbrev cX7_digest : ByteArray := prog_1_method_51_code
def yX7_digest : MethodName := ⟨RX7, "digest", "()J"⟩
abbrev cX7_hashOfRegister : ByteArray := prog_1_method_52_code
def yX7_hashOfRegister : MethodName := ⟨RX7, "hashOfRegister", "(JI)J"⟩
abbrev cX7_isRegister : ByteArray := prog_1_method_53_code
def yX7_isRegister : MethodName := ⟨RX7, "isRegister", "(I)Z"⟩
abbrev cX7_isElement : ByteArray := prog_1_method_54_code
def yX7_isElement : MethodName := ⟨RX7, "isElement", "(I)Z"⟩
abbrev cX7_isBase : ByteArray := prog_1_method_55_code
def yX7_isBase : MethodName := ⟨RX7, "isBase", "(I)Z"⟩
abbrev cX7_faultOf : ByteArray := prog_1_method_56_code
def yX7_faultOf : MethodName := ⟨RX7, "faultOf", "(IIZ)I"⟩
abbrev cX7_faultOfAdmitted : ByteArray := prog_1_method_57_code
def yX7_faultOfAdmitted : MethodName := ⟨RX7, "faultOfAdmitted", "(IIZ)I"⟩
abbrev cX7_refresh : ByteArray := prog_1_method_58_code
def yX7_refresh : MethodName := ⟨RX7, "refresh", "()V"⟩
abbrev cX7_put : ByteArray := prog_1_method_59_code
def yX7_put : MethodName := ⟨RX7, "put", "(II)I"⟩
abbrev cX7_stepTo : ByteArray := prog_1_method_60_code
def yX7_stepTo : MethodName := ⟨RX7, "stepTo", "(II)I"⟩
abbrev cX7_moveElements : ByteArray := prog_1_method_61_code
def yX7_moveElements : MethodName := ⟨RX7, "moveElements", "(I)I"⟩
abbrev cX7_spellRegister : ByteArray := prog_1_method_62_code
def yX7_spellRegister : MethodName := ⟨RX7, "spellRegister", "(I)V"⟩
abbrev cX7_blockCountOf : ByteArray := prog_1_method_63_code
def yX7_blockCountOf : MethodName := ⟨RX7, "blockCountOf", "(I)I"⟩
abbrev cX7_findNearestBounds : ByteArray := prog_1_method_64_code
def yX7_findNearestBounds : MethodName := ⟨RX7, "findNearestBounds", "(IIZ)V"⟩
abbrev cX7_selectSpan : ByteArray := prog_1_method_65_code
def yX7_selectSpan : MethodName := ⟨RX7, "selectSpan", "(II)V"⟩
abbrev cX7_disagreementsWith : ByteArray := prog_1_method_66_code
def yX7_disagreementsWith : MethodName := ⟨RX7, "disagreementsWith", "(II)I"⟩
abbrev cX7_mostThatStay : ByteArray := prog_1_method_67_code
def yX7_mostThatStay : MethodName := ⟨RX7, "mostThatStay", "()I"⟩
abbrev cX7_mostWithBlock : ByteArray := prog_1_method_68_code
def yX7_mostWithBlock : MethodName := ⟨RX7, "mostWithBlock", "(II)I"⟩
abbrev cX7_isBelow : ByteArray := prog_1_method_69_code
def yX7_isBelow : MethodName := ⟨RX7, "isBelow", "(II)Z"⟩
abbrev cX7_withBits : ByteArray := prog_1_method_70_code
def yX7_withBits : MethodName := ⟨RX7, "withBits", "(IIZ)I"⟩
abbrev cX7_pairBit : ByteArray := prog_1_method_71_code
def yX7_pairBit : MethodName := ⟨RX7, "pairBit", "(II)I"⟩
abbrev cX7_pairsWith : ByteArray := prog_1_method_72_code
def yX7_pairsWith : MethodName := ⟨RX7, "pairsWith", "(II)I"⟩
abbrev cX7_allPairs : ByteArray := prog_1_method_73_code
def yX7_allPairs : MethodName := ⟨RX7, "allPairs", "(I)I"⟩
abbrev cX7_firstPair : ByteArray := prog_1_method_74_code
def yX7_firstPair : MethodName := ⟨RX7, "firstPair", "(I)I"⟩
abbrev cX7_complementOf : ByteArray := prog_1_method_75_code
def yX7_complementOf : MethodName := ⟨RX7, "complementOf", "(II)I"⟩
abbrev cX7_isSplit : ByteArray := prog_1_method_76_code
def yX7_isSplit : MethodName := ⟨RX7, "isSplit", "(III)Z"⟩
abbrev cX7_power : ByteArray := prog_1_method_77_code
def yX7_power : MethodName := ⟨RX7, "power", "(II)J"⟩
def RX8 : String := "PartitionPosetModel"
def TX8 : u_T := fun k => match k with
  | 0 => ("PartitionPosetModel", "page", "[I", true)
  | 1 => ("PartitionPosetModel", "remembered", "I", false)
  | 2 => ("PartitionPosetModel", "text", "[I", true)
  | 3 => ("PartitionPosetModel", "typed", "I", false)
  | 4 => ("PartitionPosetModel", "strings", "[I", true)
  | 5 => ("PartitionPosetModel", "blockMany", "[I", true)
  | 6 => ("PartitionPosetModel", "indices", "[I", true)
  | 7 => ("PartitionPosetModel", "many", "I", false)
  | 8 => ("PartitionPosetModel", "admitted", "I", false)
  | 9 => ("PartitionPosetModel", "now", "[I", true)
  | 10 => ("PartitionPosetModel", "lastBound", "I", false)
  | 11 => ("PartitionPosetModel", "values", "[J", true)
  | 12 => ("PartitionPosetModel", "others", "[J", true)
  | _ => ("PartitionPosetModel", "stay", "[I", true)
def tyX8 : Nat → FieldType := fun k => match k with
  | 0 => .array .int
  | 1 => .int
  | 2 => .array .int
  | 3 => .int
  | 4 => .array .int
  | 5 => .array .int
  | 6 => .array .int
  | 7 => .int
  | 8 => .int
  | 9 => .array .int
  | 10 => .int
  | 11 => .array .long
  | 12 => .array .long
  | _ => .array .int
abbrev wsX80 : List Cond := u_ws RX8 TX8 14
theorem nmX8 : ∀ a, a < 14 → ∀ b, b < 14 → a ≠ b → (TX8 a).2.1 ≠ (TX8 b).2.1 := by decide +kernel
theorem tyX8_ok : ∀ k, k < 14 → parseFieldDescriptor (TX8 k).2.2.1 = some (tyX8 k) := by decide +kernel
abbrev cX8_init : ByteArray := prog_10_method_1_code
def yX8_init : MethodName := ⟨RX8, "<init>", "()V"⟩
abbrev cX8_in : ByteArray := prog_10_method_3_code
def yX8_in : MethodName := ⟨RX8, "in", "(III)Z"⟩
abbrev cX8_starts : ByteArray := prog_10_method_4_code
def yX8_starts : MethodName := ⟨RX8, "starts", "(I)V"⟩
abbrev cX8_begins : ByteArray := prog_10_method_5_code
def yX8_begins : MethodName := ⟨RX8, "begins", "()V"⟩
abbrev cX8_at : ByteArray := prog_10_method_6_code
def yX8_at : MethodName := ⟨RX8, "at", "(II)I"⟩
abbrev cX8_greatest : ByteArray := prog_10_method_7_code
def yX8_greatest : MethodName := ⟨RX8, "greatest", "(I)I"⟩
abbrev cX8_lays : ByteArray := prog_10_method_8_code
def yX8_lays : MethodName := ⟨RX8, "lays", "()V"⟩
abbrev cX8_admits : ByteArray := prog_10_method_9_code
def yX8_admits : MethodName := ⟨RX8, "admits", "()V"⟩
abbrev cX8_isAdmitted : ByteArray := prog_10_method_10_code
def yX8_isAdmitted : MethodName := ⟨RX8, "isAdmitted", "(I)Z"⟩
abbrev cX8_numberOf : ByteArray := prog_10_method_11_code
def yX8_numberOf : MethodName := ⟨RX8, "numberOf", "()I"⟩
abbrev cX8_takes : ByteArray := prog_10_method_12_code
def yX8_takes : MethodName := ⟨RX8, "takes", "(I)V"⟩
abbrev cX8_sizeOf : ByteArray := prog_10_method_13_code
def yX8_sizeOf : MethodName := ⟨RX8, "sizeOf", "(II)I"⟩
abbrev cX8_areCrossing : ByteArray := prog_10_method_14_code
def yX8_areCrossing : MethodName := ⟨RX8, "areCrossing", "(III)Z"⟩
abbrev cX8_firstCrossing : ByteArray := prog_10_method_15_code
def yX8_firstCrossing : MethodName := ⟨RX8, "firstCrossing", "(I)I"⟩
abbrev cX8_bitOf : ByteArray := prog_10_method_16_code
def yX8_bitOf : MethodName := ⟨RX8, "bitOf", "(II)I"⟩
abbrev cX8_firstPair : ByteArray := prog_10_method_17_code
def yX8_firstPair : MethodName := ⟨RX8, "firstPair", "(IIZ)I"⟩
abbrev cX8_firstSize : ByteArray := prog_10_method_18_code
def yX8_firstSize : MethodName := ⟨RX8, "firstSize", "(I)I"⟩
abbrev cX8_reason : ByteArray := prog_10_method_19_code
def yX8_reason : MethodName := ⟨RX8, "reason", "(I)I"⟩
abbrev cX8_placeOf : ByteArray := prog_10_method_20_code
def yX8_placeOf : MethodName := ⟨RX8, "placeOf", "(I)I"⟩
abbrev cX8_isBelow : ByteArray := prog_10_method_21_code
def yX8_isBelow : MethodName := ⟨RX8, "isBelow", "(II)Z"⟩
abbrev cX8_isStrictly : ByteArray := prog_10_method_22_code
def yX8_isStrictly : MethodName := ⟨RX8, "isStrictly", "(II)Z"⟩
abbrev cX8_rank : ByteArray := prog_10_method_23_code
def yX8_rank : MethodName := ⟨RX8, "rank", "(I)I"⟩
abbrev cX8_sets : ByteArray := prog_10_method_24_code
def yX8_sets : MethodName := ⟨RX8, "sets", "(II)I"⟩
abbrev cX8_setSize : ByteArray := prog_10_method_25_code
def yX8_setSize : MethodName := ⟨RX8, "setSize", "(I)I"⟩
abbrev cX8_setsBit : ByteArray := prog_10_method_26_code
def yX8_setsBit : MethodName := ⟨RX8, "setsBit", "(IIZ)I"⟩
abbrev cX8_allowSize : ByteArray := prog_10_method_27_code
def yX8_allowSize : MethodName := ⟨RX8, "allowSize", "(IZ)I"⟩
abbrev cX8_allowNumber : ByteArray := prog_10_method_28_code
def yX8_allowNumber : MethodName := ⟨RX8, "allowNumber", "(IZ)I"⟩
abbrev cX8_isElement : ByteArray := prog_10_method_29_code
def yX8_isElement : MethodName := ⟨RX8, "isElement", "(I)Z"⟩
abbrev cX8_isPair : ByteArray := prog_10_method_30_code
def yX8_isPair : MethodName := ⟨RX8, "isPair", "(II)Z"⟩
abbrev cX8_apart : ByteArray := prog_10_method_31_code
def yX8_apart : MethodName := ⟨RX8, "apart", "(IIZ)I"⟩
abbrev cX8_together : ByteArray := prog_10_method_32_code
def yX8_together : MethodName := ⟨RX8, "together", "(IIZ)I"⟩
abbrev cX8_noncrossing : ByteArray := prog_10_method_33_code
def yX8_noncrossing : MethodName := ⟨RX8, "noncrossing", "(Z)I"⟩
abbrev cX8_type : ByteArray := prog_10_method_34_code
def yX8_type : MethodName := ⟨RX8, "type", "(I)I"⟩
abbrev cX8_clear : ByteArray := prog_10_method_35_code
def yX8_clear : MethodName := ⟨RX8, "clear", "()I"⟩
abbrev cX8_isRegister : ByteArray := prog_10_method_36_code
def yX8_isRegister : MethodName := ⟨RX8, "isRegister", "(I)Z"⟩
abbrev cX8_held : ByteArray := prog_10_method_37_code
def yX8_held : MethodName := ⟨RX8, "held", "(I)I"⟩
abbrev cX8_puts : ByteArray := prog_10_method_38_code
def yX8_puts : MethodName := ⟨RX8, "puts", "(II)I"⟩
abbrev cX8_reads : ByteArray := prog_10_method_39_code
def yX8_reads : MethodName := ⟨RX8, "reads", "()I"⟩
abbrev cX8_read : ByteArray := prog_10_method_40_code
def yX8_read : MethodName := ⟨RX8, "read", "(I)I"⟩
abbrev cX8_finest : ByteArray := prog_10_method_41_code
def yX8_finest : MethodName := ⟨RX8, "finest", "(I)I"⟩
abbrev cX8_coarsest : ByteArray := prog_10_method_42_code
def yX8_coarsest : MethodName := ⟨RX8, "coarsest", "(I)I"⟩
abbrev cX8_wrong : ByteArray := prog_10_method_43_code
def yX8_wrong : MethodName := ⟨RX8, "wrong", "(I)I"⟩
abbrev cX8_wrongOf : ByteArray := prog_10_method_44_code
def yX8_wrongOf : MethodName := ⟨RX8, "wrongOf", "(II)I"⟩
abbrev cX8_copy : ByteArray := prog_10_method_45_code
def yX8_copy : MethodName := ⟨RX8, "copy", "(II)I"⟩
abbrev cX8_meet : ByteArray := prog_10_method_46_code
def yX8_meet : MethodName := ⟨RX8, "meet", "(III)I"⟩
abbrev cX8_merges : ByteArray := prog_10_method_47_code
def yX8_merges : MethodName := ⟨RX8, "merges", "(II)V"⟩
abbrev cX8_join : ByteArray := prog_10_method_48_code
def yX8_join : MethodName := ⟨RX8, "join", "(III)I"⟩
abbrev cX8_unite : ByteArray := prog_10_method_49_code
def yX8_unite : MethodName := ⟨RX8, "unite", "(III)I"⟩
abbrev cX8_isolate : ByteArray := prog_10_method_50_code
def yX8_isolate : MethodName := ⟨RX8, "isolate", "(II)I"⟩
abbrev cX8_changes : ByteArray := prog_10_method_51_code
def yX8_changes : MethodName := ⟨RX8, "changes", "(II)I"⟩
abbrev cX8_swap : ByteArray := prog_10_method_52_code
def yX8_swap : MethodName := ⟨RX8, "swap", "(III)I"⟩
abbrev cX8_rotate : ByteArray := prog_10_method_53_code
def yX8_rotate : MethodName := ⟨RX8, "rotate", "(I)I"⟩
abbrev cX8_isParted : ByteArray := prog_10_method_54_code
def yX8_isParted : MethodName := ⟨RX8, "isParted", "(III)Z"⟩
abbrev cX8_complement : ByteArray := prog_10_method_55_code
def yX8_complement : MethodName := ⟨RX8, "complement", "(II)I"⟩
abbrev cX8_admittedAt : ByteArray := prog_10_method_56_code
def yX8_admittedAt : MethodName := ⟨RX8, "admittedAt", "(I)I"⟩
abbrev cX8_unrank : ByteArray := prog_10_method_57_code
def yX8_unrank : MethodName := ⟨RX8, "unrank", "(II)I"⟩
abbrev cX8_nearest : ByteArray := prog_10_method_58_code
def yX8_nearest : MethodName := ⟨RX8, "nearest", "(II)I"⟩
abbrev cX8_steps : ByteArray := prog_10_method_59_code
def yX8_steps : MethodName := ⟨RX8, "steps", "(II)I"⟩
abbrev cX8_next : ByteArray := prog_10_method_60_code
def yX8_next : MethodName := ⟨RX8, "next", "(I)I"⟩
abbrev cX8_previous : ByteArray := prog_10_method_61_code
def yX8_previous : MethodName := ⟨RX8, "previous", "(I)I"⟩
abbrev cX8_draw : ByteArray := prog_10_method_62_code
def yX8_draw : MethodName := ⟨RX8, "draw", "(II)I"⟩
abbrev cX8_blocks : ByteArray := prog_10_method_63_code
def yX8_blocks : MethodName := ⟨RX8, "blocks", "(I)I"⟩
abbrev cX8_blockOf : ByteArray := prog_10_method_64_code
def yX8_blockOf : MethodName := ⟨RX8, "blockOf", "(II)I"⟩
abbrev cX8_block : ByteArray := prog_10_method_65_code
def yX8_block : MethodName := ⟨RX8, "block", "(II)I"⟩
abbrev cX8_typeOf : ByteArray := prog_10_method_66_code
def yX8_typeOf : MethodName := ⟨RX8, "typeOf", "(I)I"⟩
abbrev cX8_crossings : ByteArray := prog_10_method_67_code
def yX8_crossings : MethodName := ⟨RX8, "crossings", "(I)I"⟩
abbrev cX8_index : ByteArray := prog_10_method_68_code
def yX8_index : MethodName := ⟨RX8, "index", "(I)I"⟩
abbrev cX8_why : ByteArray := prog_10_method_69_code
def yX8_why : MethodName := ⟨RX8, "why", "(I)I"⟩
abbrev cX8_where : ByteArray := prog_10_method_70_code
def yX8_where : MethodName := ⟨RX8, "where", "(I)I"⟩
abbrev cX8_count : ByteArray := prog_10_method_71_code
def yX8_count : MethodName := ⟨RX8, "count", "()I"⟩
abbrev cX8_manyWith : ByteArray := prog_10_method_72_code
def yX8_manyWith : MethodName := ⟨RX8, "manyWith", "(I)I"⟩
abbrev cX8_countWith : ByteArray := prog_10_method_73_code
def yX8_countWith : MethodName := ⟨RX8, "countWith", "(I)I"⟩
abbrev cX8_below : ByteArray := prog_10_method_74_code
def yX8_below : MethodName := ⟨RX8, "below", "(II)I"⟩
abbrev cX8_isCover : ByteArray := prog_10_method_75_code
def yX8_isCover : MethodName := ⟨RX8, "isCover", "(II)Z"⟩
abbrev cX8_covers : ByteArray := prog_10_method_76_code
def yX8_covers : MethodName := ⟨RX8, "covers", "(IZ)I"⟩
abbrev cX8_isBound : ByteArray := prog_10_method_77_code
def yX8_isBound : MethodName := ⟨RX8, "isBound", "(IIIZ)Z"⟩
abbrev cX8_nearestBounds : ByteArray := prog_10_method_78_code
def yX8_nearestBounds : MethodName := ⟨RX8, "nearestBounds", "(IIZ)I"⟩
abbrev cX8_bounds : ByteArray := prog_10_method_79_code
def yX8_bounds : MethodName := ⟨RX8, "bounds", "(IIZ)I"⟩
abbrev cX8_bound : ByteArray := prog_10_method_80_code
def yX8_bound : MethodName := ⟨RX8, "bound", "(IIZI)I"⟩
abbrev cX8_isBetween : ByteArray := prog_10_method_81_code
def yX8_isBetween : MethodName := ⟨RX8, "isBetween", "(III)Z"⟩
abbrev cX8_interval : ByteArray := prog_10_method_82_code
def yX8_interval : MethodName := ⟨RX8, "interval", "(II)I"⟩
abbrev cX8_moebiuses : ByteArray := prog_10_method_83_code
def yX8_moebiuses : MethodName := ⟨RX8, "moebiuses", "(II)V"⟩
abbrev cX8_wrongAdmitted : ByteArray := prog_10_method_84_code
def yX8_wrongAdmitted : MethodName := ⟨RX8, "wrongAdmitted", "(II)I"⟩
abbrev cX8_moebius : ByteArray := prog_10_method_85_code
def yX8_moebius : MethodName := ⟨RX8, "moebius", "(II)J"⟩
abbrev cX8_extendsAll : ByteArray := prog_10_method_86_code
def yX8_extendsAll : MethodName := ⟨RX8, "extendsAll", "()V"⟩
abbrev cX8_single : ByteArray := prog_10_method_87_code
def yX8_single : MethodName := ⟨RX8, "single", "(I)V"⟩
abbrev cX8_chains : ByteArray := prog_10_method_88_code
def yX8_chains : MethodName := ⟨RX8, "chains", "(III)J"⟩
abbrev cX8_maximalChains : ByteArray := prog_10_method_89_code
def yX8_maximalChains : MethodName := ⟨RX8, "maximalChains", "(II)J"⟩
abbrev cX8_height : ByteArray := prog_10_method_90_code
def yX8_height : MethodName := ⟨RX8, "height", "(II)I"⟩
abbrev cX8_power : ByteArray := prog_10_method_91_code
def yX8_power : MethodName := ⟨RX8, "power", "(II)J"⟩
abbrev cX8_isBase : ByteArray := prog_10_method_92_code
def yX8_isBase : MethodName := ⟨RX8, "isBase", "(I)Z"⟩
abbrev cX8_rankSum : ByteArray := prog_10_method_93_code
def yX8_rankSum : MethodName := ⟨RX8, "rankSum", "(III)J"⟩
abbrev cX8_characteristic : ByteArray := prog_10_method_94_code
def yX8_characteristic : MethodName := ⟨RX8, "characteristic", "(III)J"⟩
abbrev cX8_common : ByteArray := prog_10_method_95_code
def yX8_common : MethodName := ⟨RX8, "common", "(IIII)I"⟩
abbrev cX8_most : ByteArray := prog_10_method_96_code
def yX8_most : MethodName := ⟨RX8, "most", "(II)I"⟩
abbrev cX8_transfers : ByteArray := prog_10_method_97_code
def yX8_transfers : MethodName := ⟨RX8, "transfers", "(II)I"⟩
abbrev cX8_unlike : ByteArray := prog_10_method_98_code
def yX8_unlike : MethodName := ⟨RX8, "unlike", "(II)I"⟩
abbrev cX8_disagreements : ByteArray := prog_10_method_99_code
def yX8_disagreements : MethodName := ⟨RX8, "disagreements", "(II)I"⟩
abbrev cX8_unlikeAll : ByteArray := prog_10_method_100_code
def yX8_unlikeAll : MethodName := ⟨RX8, "unlikeAll", "(II)I"⟩
abbrev cX8_median : ByteArray := prog_10_method_101_code
def yX8_median : MethodName := ⟨RX8, "median", "(II)I"⟩
abbrev cX8_undo : ByteArray := prog_10_method_102_code
def yX8_undo : MethodName := ⟨RX8, "undo", "()I"⟩
abbrev cX8_bits : ByteArray := prog_10_method_103_code
def yX8_bits : MethodName := ⟨RX8, "bits", "(I)I"⟩
abbrev cX8_full : ByteArray := prog_10_method_104_code
def yX8_full : MethodName := ⟨RX8, "full", "()I"⟩
abbrev cX8_told : ByteArray := prog_10_method_105_code
def yX8_told : MethodName := ⟨RX8, "told", "(I)I"⟩
abbrev cX8_digest : ByteArray := prog_10_method_106_code
def yX8_digest : MethodName := ⟨RX8, "digest", "()J"⟩
def RJ6 : String := "java/lang/Integer"
def TJ6 : u_T := fun k => match k with
  | _ => ("", "", "", false)
def tyJ6 : Nat → FieldType := fun k => match k with
  | _ => .int
abbrev wsJ60 : List Cond := u_ws RJ6 TJ6 0
theorem nmJ6 : ∀ a, a < 0 → ∀ b, b < 0 → a ≠ b → (TJ6 a).2.1 ≠ (TJ6 b).2.1 := by decide +kernel
theorem tyJ6_ok : ∀ k, k < 0 → parseFieldDescriptor (TJ6 k).2.2.1 = some (tyJ6 k) := by decide +kernel
abbrev cJ6_bitCount_0f7a4 : ByteArray := prog_11_method_49_code
def yJ6_bitCount_0f7a4 : MethodName := ⟨RJ6, "bitCount", "(I)I"⟩
def RJ9 : String := "java/lang/Math"
def TJ9 : u_T := fun k => match k with
  | _ => ("", "", "", false)
def tyJ9 : Nat → FieldType := fun k => match k with
  | _ => .int
abbrev wsJ90 : List Cond := u_ws RJ9 TJ9 0
theorem nmJ9 : ∀ a, a < 0 → ∀ b, b < 0 → a ≠ b → (TJ9 a).2.1 ≠ (TJ9 b).2.1 := by decide +kernel
theorem tyJ9_ok : ∀ k, k < 0 → parseFieldDescriptor (TJ9 k).2.2.1 = some (tyJ9 k) := by decide +kernel
abbrev cJ9_max_7cf53 : ByteArray := prog_12_method_65_code
def yJ9_max_7cf53 : MethodName := ⟨RJ9, "max", "(II)I"⟩
abbrev cJ9_max_f86c9 : ByteArray := prog_12_method_66_code
def yJ9_max_f86c9 : MethodName := ⟨RJ9, "max", "(JJ)J"⟩
abbrev cJ9_min_7cf53 : ByteArray := prog_12_method_69_code
def yJ9_min_7cf53 : MethodName := ⟨RJ9, "min", "(II)I"⟩
def RL : String := "PartitionPosetLaw"
abbrev cL_law : ByteArray := code
def yL_law : MethodName := ⟨RL, "law", "([I)Z"⟩
abbrev vwCl : List vw_C := [(RX0, TX0, 9), (RX1, TX1, 3), (RX2, TX2, 7), (RX3, TX3, 4), (RX4, TX4, 5), (RX5, TX5, 7), (RX6, TX6, 2), (RX7, TX7, 10), (RX8, TX8, 14)]
theorem inX0 : ∀ w ∈ wsX00, w ∈ lw_tbl := by decide +kernel
theorem inX1 : ∀ w ∈ wsX10, w ∈ lw_tbl := by decide +kernel
theorem inX2 : ∀ w ∈ wsX20, w ∈ lw_tbl := by decide +kernel
theorem inX3 : ∀ w ∈ wsX30, w ∈ lw_tbl := by decide +kernel
theorem inX4 : ∀ w ∈ wsX40, w ∈ lw_tbl := by decide +kernel
theorem inX5 : ∀ w ∈ wsX50, w ∈ lw_tbl := by decide +kernel
theorem inX6 : ∀ w ∈ wsX60, w ∈ lw_tbl := by decide +kernel
theorem inX7 : ∀ w ∈ wsX70, w ∈ lw_tbl := by decide +kernel
theorem inX8 : ∀ w ∈ wsX80, w ∈ lw_tbl := by decide +kernel
