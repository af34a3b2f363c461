section
-- ===== PART A: goes FIRST, ahead of the names: the tables' words, and 'selects' of the private methods out of them =====
/-- a private method of a class that the tables say can be made, by its rows of tables_1 -/
def lw_okq (q : MethodName × Nat) : Prop := (q.1.cls ≠ "java/lang/invoke/MethodHandle" ∧ q.1.cls ≠ "java/lang/invoke/VarHandle") ∧ Cond.instantiable q.1.cls q.2 ∈ tables_1 ∧ Cond.privateMethod q.1 ∈ tables_1 ∧ Cond.instanceMethod q.1 ∈ tables_1
theorem lw_p0 : lw_okq (⟨"PartitionPoset", "refresh", "()V"⟩, 10) := ⟨⟨by decide +kernel, by decide +kernel⟩, List.mem_of_getElem? (i := 13) (by decide +kernel), List.mem_of_getElem? (i := 223) (by decide +kernel), List.mem_of_getElem? (i := 224) (by decide +kernel)⟩
theorem lw_p1 : lw_okq (⟨"PartitionPoset", "isElement", "(I)Z"⟩, 10) := ⟨⟨by decide +kernel, by decide +kernel⟩, List.mem_of_getElem? (i := 13) (by decide +kernel), List.mem_of_getElem? (i := 357) (by decide +kernel), List.mem_of_getElem? (i := 358) (by decide +kernel)⟩
theorem lw_p2 : lw_okq (⟨"PartitionPoset", "put", "(II)I"⟩, 10) := ⟨⟨by decide +kernel, by decide +kernel⟩, List.mem_of_getElem? (i := 13) (by decide +kernel), List.mem_of_getElem? (i := 396) (by decide +kernel), List.mem_of_getElem? (i := 397) (by decide +kernel)⟩
theorem lw_p3 : lw_okq (⟨"PartitionPoset", "blockCountOf", "(I)I"⟩, 10) := ⟨⟨by decide +kernel, by decide +kernel⟩, List.mem_of_getElem? (i := 13) (by decide +kernel), List.mem_of_getElem? (i := 400) (by decide +kernel), List.mem_of_getElem? (i := 401) (by decide +kernel)⟩
theorem lw_p4 : lw_okq (⟨"PartitionPoset", "faultOf", "(IIZ)I"⟩, 10) := ⟨⟨by decide +kernel, by decide +kernel⟩, List.mem_of_getElem? (i := 13) (by decide +kernel), List.mem_of_getElem? (i := 421) (by decide +kernel), List.mem_of_getElem? (i := 422) (by decide +kernel)⟩
theorem lw_p5 : lw_okq (⟨"PartitionPoset", "moveElements", "(I)I"⟩, 10) := ⟨⟨by decide +kernel, by decide +kernel⟩, List.mem_of_getElem? (i := 13) (by decide +kernel), List.mem_of_getElem? (i := 454) (by decide +kernel), List.mem_of_getElem? (i := 455) (by decide +kernel)⟩
theorem lw_p6 : lw_okq (⟨"PartitionPoset", "spellRegister", "(I)V"⟩, 10) := ⟨⟨by decide +kernel, by decide +kernel⟩, List.mem_of_getElem? (i := 13) (by decide +kernel), List.mem_of_getElem? (i := 467) (by decide +kernel), List.mem_of_getElem? (i := 468) (by decide +kernel)⟩
theorem lw_p7 : lw_okq (⟨"PartitionPoset", "stepTo", "(II)I"⟩, 10) := ⟨⟨by decide +kernel, by decide +kernel⟩, List.mem_of_getElem? (i := 13) (by decide +kernel), List.mem_of_getElem? (i := 495) (by decide +kernel), List.mem_of_getElem? (i := 496) (by decide +kernel)⟩
theorem lw_p8 : lw_okq (⟨"PartitionPoset", "faultOfAdmitted", "(IIZ)I"⟩, 10) := ⟨⟨by decide +kernel, by decide +kernel⟩, List.mem_of_getElem? (i := 13) (by decide +kernel), List.mem_of_getElem? (i := 583) (by decide +kernel), List.mem_of_getElem? (i := 584) (by decide +kernel)⟩
theorem lw_p9 : lw_okq (⟨"PartitionPoset", "findNearestBounds", "(IIZ)V"⟩, 10) := ⟨⟨by decide +kernel, by decide +kernel⟩, List.mem_of_getElem? (i := 13) (by decide +kernel), List.mem_of_getElem? (i := 600) (by decide +kernel), List.mem_of_getElem? (i := 601) (by decide +kernel)⟩
theorem lw_p10 : lw_okq (⟨"PartitionPoset", "selectSpan", "(II)V"⟩, 10) := ⟨⟨by decide +kernel, by decide +kernel⟩, List.mem_of_getElem? (i := 13) (by decide +kernel), List.mem_of_getElem? (i := 612) (by decide +kernel), List.mem_of_getElem? (i := 613) (by decide +kernel)⟩
theorem lw_p11 : lw_okq (⟨"PartitionPoset", "mostThatStay", "()I"⟩, 10) := ⟨⟨by decide +kernel, by decide +kernel⟩, List.mem_of_getElem? (i := 13) (by decide +kernel), List.mem_of_getElem? (i := 695) (by decide +kernel), List.mem_of_getElem? (i := 696) (by decide +kernel)⟩
theorem lw_p12 : lw_okq (⟨"PartitionPoset", "mostWithBlock", "(II)I"⟩, 10) := ⟨⟨by decide +kernel, by decide +kernel⟩, List.mem_of_getElem? (i := 13) (by decide +kernel), List.mem_of_getElem? (i := 699) (by decide +kernel), List.mem_of_getElem? (i := 700) (by decide +kernel)⟩
theorem lw_p13 : lw_okq (⟨"PartitionPoset", "disagreementsWith", "(II)I"⟩, 10) := ⟨⟨by decide +kernel, by decide +kernel⟩, List.mem_of_getElem? (i := 13) (by decide +kernel), List.mem_of_getElem? (i := 713) (by decide +kernel), List.mem_of_getElem? (i := 714) (by decide +kernel)⟩
theorem lw_p14 : lw_okq (⟨"PartitionPoset", "hashOfRegister", "(JI)J"⟩, 10) := ⟨⟨by decide +kernel, by decide +kernel⟩, List.mem_of_getElem? (i := 13) (by decide +kernel), List.mem_of_getElem? (i := 743) (by decide +kernel), List.mem_of_getElem? (i := 744) (by decide +kernel)⟩
theorem lw_p15 : lw_okq (⟨"PartitionPosetModel", "starts", "(I)V"⟩, 14) := ⟨⟨by decide +kernel, by decide +kernel⟩, List.mem_of_getElem? (i := 751) (by decide +kernel), List.mem_of_getElem? (i := 757) (by decide +kernel), List.mem_of_getElem? (i := 758) (by decide +kernel)⟩
def lw_privs_1 : List (MethodName × Nat) := [(⟨"PartitionPoset", "refresh", "()V"⟩, 10), (⟨"PartitionPoset", "isElement", "(I)Z"⟩, 10), (⟨"PartitionPoset", "put", "(II)I"⟩, 10), (⟨"PartitionPoset", "blockCountOf", "(I)I"⟩, 10), (⟨"PartitionPoset", "faultOf", "(IIZ)I"⟩, 10), (⟨"PartitionPoset", "moveElements", "(I)I"⟩, 10), (⟨"PartitionPoset", "spellRegister", "(I)V"⟩, 10), (⟨"PartitionPoset", "stepTo", "(II)I"⟩, 10), (⟨"PartitionPoset", "faultOfAdmitted", "(IIZ)I"⟩, 10), (⟨"PartitionPoset", "findNearestBounds", "(IIZ)V"⟩, 10), (⟨"PartitionPoset", "selectSpan", "(II)V"⟩, 10), (⟨"PartitionPoset", "mostThatStay", "()I"⟩, 10), (⟨"PartitionPoset", "mostWithBlock", "(II)I"⟩, 10), (⟨"PartitionPoset", "disagreementsWith", "(II)I"⟩, 10), (⟨"PartitionPoset", "hashOfRegister", "(JI)J"⟩, 10), (⟨"PartitionPosetModel", "starts", "(I)V"⟩, 14)]
theorem lw_r1 : ∀ q ∈ lw_privs_1, lw_okq q := List.forall_mem_cons.mpr ⟨lw_p0, List.forall_mem_cons.mpr ⟨lw_p1, List.forall_mem_cons.mpr ⟨lw_p2, List.forall_mem_cons.mpr ⟨lw_p3, List.forall_mem_cons.mpr ⟨lw_p4, List.forall_mem_cons.mpr ⟨lw_p5, List.forall_mem_cons.mpr ⟨lw_p6, List.forall_mem_cons.mpr ⟨lw_p7, List.forall_mem_cons.mpr ⟨lw_p8, List.forall_mem_cons.mpr ⟨lw_p9, List.forall_mem_cons.mpr ⟨lw_p10, List.forall_mem_cons.mpr ⟨lw_p11, List.forall_mem_cons.mpr ⟨lw_p12, List.forall_mem_cons.mpr ⟨lw_p13, List.forall_mem_cons.mpr ⟨lw_p14, List.forall_mem_cons.mpr ⟨lw_p15, fun _ h => absurd h List.not_mem_nil⟩⟩⟩⟩⟩⟩⟩⟩⟩⟩⟩⟩⟩⟩⟩⟩
theorem lw_p16 : lw_okq (⟨"PartitionPosetModel", "lays", "()V"⟩, 14) := ⟨⟨by decide +kernel, by decide +kernel⟩, List.mem_of_getElem? (i := 751) (by decide +kernel), List.mem_of_getElem? (i := 761) (by decide +kernel), List.mem_of_getElem? (i := 762) (by decide +kernel)⟩
theorem lw_p17 : lw_okq (⟨"PartitionPosetModel", "greatest", "(I)I"⟩, 14) := ⟨⟨by decide +kernel, by decide +kernel⟩, List.mem_of_getElem? (i := 751) (by decide +kernel), List.mem_of_getElem? (i := 765) (by decide +kernel), List.mem_of_getElem? (i := 766) (by decide +kernel)⟩
theorem lw_p18 : lw_okq (⟨"PartitionPosetModel", "admits", "()V"⟩, 14) := ⟨⟨by decide +kernel, by decide +kernel⟩, List.mem_of_getElem? (i := 751) (by decide +kernel), List.mem_of_getElem? (i := 769) (by decide +kernel), List.mem_of_getElem? (i := 770) (by decide +kernel)⟩
theorem lw_p19 : lw_okq (⟨"PartitionPosetModel", "reason", "(I)I"⟩, 14) := ⟨⟨by decide +kernel, by decide +kernel⟩, List.mem_of_getElem? (i := 751) (by decide +kernel), List.mem_of_getElem? (i := 773) (by decide +kernel), List.mem_of_getElem? (i := 774) (by decide +kernel)⟩
theorem lw_p20 : lw_okq (⟨"PartitionPosetModel", "firstSize", "(I)I"⟩, 14) := ⟨⟨by decide +kernel, by decide +kernel⟩, List.mem_of_getElem? (i := 751) (by decide +kernel), List.mem_of_getElem? (i := 777) (by decide +kernel), List.mem_of_getElem? (i := 778) (by decide +kernel)⟩
theorem lw_p21 : lw_okq (⟨"PartitionPosetModel", "sizeOf", "(II)I"⟩, 14) := ⟨⟨by decide +kernel, by decide +kernel⟩, List.mem_of_getElem? (i := 751) (by decide +kernel), List.mem_of_getElem? (i := 781) (by decide +kernel), List.mem_of_getElem? (i := 782) (by decide +kernel)⟩
theorem lw_p22 : lw_okq (⟨"PartitionPosetModel", "at", "(II)I"⟩, 14) := ⟨⟨by decide +kernel, by decide +kernel⟩, List.mem_of_getElem? (i := 751) (by decide +kernel), List.mem_of_getElem? (i := 785) (by decide +kernel), List.mem_of_getElem? (i := 786) (by decide +kernel)⟩
theorem lw_p23 : lw_okq (⟨"PartitionPosetModel", "firstPair", "(IIZ)I"⟩, 14) := ⟨⟨by decide +kernel, by decide +kernel⟩, List.mem_of_getElem? (i := 751) (by decide +kernel), List.mem_of_getElem? (i := 789) (by decide +kernel), List.mem_of_getElem? (i := 790) (by decide +kernel)⟩
theorem lw_p24 : lw_okq (⟨"PartitionPosetModel", "firstCrossing", "(I)I"⟩, 14) := ⟨⟨by decide +kernel, by decide +kernel⟩, List.mem_of_getElem? (i := 751) (by decide +kernel), List.mem_of_getElem? (i := 796) (by decide +kernel), List.mem_of_getElem? (i := 797) (by decide +kernel)⟩
theorem lw_p25 : lw_okq (⟨"PartitionPosetModel", "areCrossing", "(III)Z"⟩, 14) := ⟨⟨by decide +kernel, by decide +kernel⟩, List.mem_of_getElem? (i := 751) (by decide +kernel), List.mem_of_getElem? (i := 800) (by decide +kernel), List.mem_of_getElem? (i := 801) (by decide +kernel)⟩
theorem lw_p26 : lw_okq (⟨"PartitionPosetModel", "begins", "()V"⟩, 14) := ⟨⟨by decide +kernel, by decide +kernel⟩, List.mem_of_getElem? (i := 751) (by decide +kernel), List.mem_of_getElem? (i := 854) (by decide +kernel), List.mem_of_getElem? (i := 855) (by decide +kernel)⟩
theorem lw_p27 : lw_okq (⟨"PartitionPosetModel", "setsBit", "(IIZ)I"⟩, 14) := ⟨⟨by decide +kernel, by decide +kernel⟩, List.mem_of_getElem? (i := 751) (by decide +kernel), List.mem_of_getElem? (i := 862) (by decide +kernel), List.mem_of_getElem? (i := 863) (by decide +kernel)⟩
theorem lw_p28 : lw_okq (⟨"PartitionPosetModel", "sets", "(II)I"⟩, 14) := ⟨⟨by decide +kernel, by decide +kernel⟩, List.mem_of_getElem? (i := 751) (by decide +kernel), List.mem_of_getElem? (i := 866) (by decide +kernel), List.mem_of_getElem? (i := 867) (by decide +kernel)⟩
theorem lw_p29 : lw_okq (⟨"PartitionPosetModel", "isPair", "(II)Z"⟩, 14) := ⟨⟨by decide +kernel, by decide +kernel⟩, List.mem_of_getElem? (i := 751) (by decide +kernel), List.mem_of_getElem? (i := 878) (by decide +kernel), List.mem_of_getElem? (i := 879) (by decide +kernel)⟩
theorem lw_p30 : lw_okq (⟨"PartitionPosetModel", "isElement", "(I)Z"⟩, 14) := ⟨⟨by decide +kernel, by decide +kernel⟩, List.mem_of_getElem? (i := 751) (by decide +kernel), List.mem_of_getElem? (i := 882) (by decide +kernel), List.mem_of_getElem? (i := 883) (by decide +kernel)⟩
theorem lw_p31 : lw_okq (⟨"PartitionPosetModel", "reads", "()I"⟩, 14) := ⟨⟨by decide +kernel, by decide +kernel⟩, List.mem_of_getElem? (i := 751) (by decide +kernel), List.mem_of_getElem? (i := 909) (by decide +kernel), List.mem_of_getElem? (i := 910) (by decide +kernel)⟩
def lw_privs_2 : List (MethodName × Nat) := [(⟨"PartitionPosetModel", "lays", "()V"⟩, 14), (⟨"PartitionPosetModel", "greatest", "(I)I"⟩, 14), (⟨"PartitionPosetModel", "admits", "()V"⟩, 14), (⟨"PartitionPosetModel", "reason", "(I)I"⟩, 14), (⟨"PartitionPosetModel", "firstSize", "(I)I"⟩, 14), (⟨"PartitionPosetModel", "sizeOf", "(II)I"⟩, 14), (⟨"PartitionPosetModel", "at", "(II)I"⟩, 14), (⟨"PartitionPosetModel", "firstPair", "(IIZ)I"⟩, 14), (⟨"PartitionPosetModel", "firstCrossing", "(I)I"⟩, 14), (⟨"PartitionPosetModel", "areCrossing", "(III)Z"⟩, 14), (⟨"PartitionPosetModel", "begins", "()V"⟩, 14), (⟨"PartitionPosetModel", "setsBit", "(IIZ)I"⟩, 14), (⟨"PartitionPosetModel", "sets", "(II)I"⟩, 14), (⟨"PartitionPosetModel", "isPair", "(II)Z"⟩, 14), (⟨"PartitionPosetModel", "isElement", "(I)Z"⟩, 14), (⟨"PartitionPosetModel", "reads", "()I"⟩, 14)]
theorem lw_r2 : ∀ q ∈ lw_privs_2, lw_okq q := List.forall_mem_cons.mpr ⟨lw_p16, List.forall_mem_cons.mpr ⟨lw_p17, List.forall_mem_cons.mpr ⟨lw_p18, List.forall_mem_cons.mpr ⟨lw_p19, List.forall_mem_cons.mpr ⟨lw_p20, List.forall_mem_cons.mpr ⟨lw_p21, List.forall_mem_cons.mpr ⟨lw_p22, List.forall_mem_cons.mpr ⟨lw_p23, List.forall_mem_cons.mpr ⟨lw_p24, List.forall_mem_cons.mpr ⟨lw_p25, List.forall_mem_cons.mpr ⟨lw_p26, List.forall_mem_cons.mpr ⟨lw_p27, List.forall_mem_cons.mpr ⟨lw_p28, List.forall_mem_cons.mpr ⟨lw_p29, List.forall_mem_cons.mpr ⟨lw_p30, List.forall_mem_cons.mpr ⟨lw_p31, fun _ h => absurd h List.not_mem_nil⟩⟩⟩⟩⟩⟩⟩⟩⟩⟩⟩⟩⟩⟩⟩⟩
theorem lw_p32 : lw_okq (⟨"PartitionPosetModel", "numberOf", "()I"⟩, 14) := ⟨⟨by decide +kernel, by decide +kernel⟩, List.mem_of_getElem? (i := 751) (by decide +kernel), List.mem_of_getElem? (i := 913) (by decide +kernel), List.mem_of_getElem? (i := 914) (by decide +kernel)⟩
theorem lw_p33 : lw_okq (⟨"PartitionPosetModel", "puts", "(II)I"⟩, 14) := ⟨⟨by decide +kernel, by decide +kernel⟩, List.mem_of_getElem? (i := 751) (by decide +kernel), List.mem_of_getElem? (i := 917) (by decide +kernel), List.mem_of_getElem? (i := 918) (by decide +kernel)⟩
theorem lw_p34 : lw_okq (⟨"PartitionPosetModel", "wrong", "(I)I"⟩, 14) := ⟨⟨by decide +kernel, by decide +kernel⟩, List.mem_of_getElem? (i := 751) (by decide +kernel), List.mem_of_getElem? (i := 933) (by decide +kernel), List.mem_of_getElem? (i := 934) (by decide +kernel)⟩
theorem lw_p35 : lw_okq (⟨"PartitionPosetModel", "held", "(I)I"⟩, 14) := ⟨⟨by decide +kernel, by decide +kernel⟩, List.mem_of_getElem? (i := 751) (by decide +kernel), List.mem_of_getElem? (i := 937) (by decide +kernel), List.mem_of_getElem? (i := 938) (by decide +kernel)⟩
theorem lw_p36 : lw_okq (⟨"PartitionPosetModel", "wrongOf", "(II)I"⟩, 14) := ⟨⟨by decide +kernel, by decide +kernel⟩, List.mem_of_getElem? (i := 751) (by decide +kernel), List.mem_of_getElem? (i := 945) (by decide +kernel), List.mem_of_getElem? (i := 946) (by decide +kernel)⟩
theorem lw_p37 : lw_okq (⟨"PartitionPosetModel", "takes", "(I)V"⟩, 14) := ⟨⟨by decide +kernel, by decide +kernel⟩, List.mem_of_getElem? (i := 751) (by decide +kernel), List.mem_of_getElem? (i := 953) (by decide +kernel), List.mem_of_getElem? (i := 954) (by decide +kernel)⟩
theorem lw_p38 : lw_okq (⟨"PartitionPosetModel", "merges", "(II)V"⟩, 14) := ⟨⟨by decide +kernel, by decide +kernel⟩, List.mem_of_getElem? (i := 751) (by decide +kernel), List.mem_of_getElem? (i := 957) (by decide +kernel), List.mem_of_getElem? (i := 958) (by decide +kernel)⟩
theorem lw_p39 : lw_okq (⟨"PartitionPosetModel", "changes", "(II)I"⟩, 14) := ⟨⟨by decide +kernel, by decide +kernel⟩, List.mem_of_getElem? (i := 751) (by decide +kernel), List.mem_of_getElem? (i := 973) (by decide +kernel), List.mem_of_getElem? (i := 974) (by decide +kernel)⟩
theorem lw_p40 : lw_okq (⟨"PartitionPosetModel", "isParted", "(III)Z"⟩, 14) := ⟨⟨by decide +kernel, by decide +kernel⟩, List.mem_of_getElem? (i := 751) (by decide +kernel), List.mem_of_getElem? (i := 985) (by decide +kernel), List.mem_of_getElem? (i := 986) (by decide +kernel)⟩
theorem lw_p41 : lw_okq (⟨"PartitionPosetModel", "admittedAt", "(I)I"⟩, 14) := ⟨⟨by decide +kernel, by decide +kernel⟩, List.mem_of_getElem? (i := 751) (by decide +kernel), List.mem_of_getElem? (i := 993) (by decide +kernel), List.mem_of_getElem? (i := 994) (by decide +kernel)⟩
theorem lw_p42 : lw_okq (⟨"PartitionPosetModel", "isAdmitted", "(I)Z"⟩, 14) := ⟨⟨by decide +kernel, by decide +kernel⟩, List.mem_of_getElem? (i := 751) (by decide +kernel), List.mem_of_getElem? (i := 997) (by decide +kernel), List.mem_of_getElem? (i := 998) (by decide +kernel)⟩
theorem lw_p43 : lw_okq (⟨"PartitionPosetModel", "steps", "(II)I"⟩, 14) := ⟨⟨by decide +kernel, by decide +kernel⟩, List.mem_of_getElem? (i := 751) (by decide +kernel), List.mem_of_getElem? (i := 1005) (by decide +kernel), List.mem_of_getElem? (i := 1006) (by decide +kernel)⟩
theorem lw_p44 : lw_okq (⟨"PartitionPosetModel", "nearest", "(II)I"⟩, 14) := ⟨⟨by decide +kernel, by decide +kernel⟩, List.mem_of_getElem? (i := 751) (by decide +kernel), List.mem_of_getElem? (i := 1009) (by decide +kernel), List.mem_of_getElem? (i := 1010) (by decide +kernel)⟩
theorem lw_p45 : lw_okq (⟨"PartitionPosetModel", "placeOf", "(I)I"⟩, 14) := ⟨⟨by decide +kernel, by decide +kernel⟩, List.mem_of_getElem? (i := 751) (by decide +kernel), List.mem_of_getElem? (i := 1054) (by decide +kernel), List.mem_of_getElem? (i := 1055) (by decide +kernel)⟩
theorem lw_p46 : lw_okq (⟨"PartitionPosetModel", "manyWith", "(I)I"⟩, 14) := ⟨⟨by decide +kernel, by decide +kernel⟩, List.mem_of_getElem? (i := 751) (by decide +kernel), List.mem_of_getElem? (i := 1066) (by decide +kernel), List.mem_of_getElem? (i := 1067) (by decide +kernel)⟩
theorem lw_p47 : lw_okq (⟨"PartitionPosetModel", "isBelow", "(II)Z"⟩, 14) := ⟨⟨by decide +kernel, by decide +kernel⟩, List.mem_of_getElem? (i := 751) (by decide +kernel), List.mem_of_getElem? (i := 1074) (by decide +kernel), List.mem_of_getElem? (i := 1075) (by decide +kernel)⟩
def lw_privs_3 : List (MethodName × Nat) := [(⟨"PartitionPosetModel", "numberOf", "()I"⟩, 14), (⟨"PartitionPosetModel", "puts", "(II)I"⟩, 14), (⟨"PartitionPosetModel", "wrong", "(I)I"⟩, 14), (⟨"PartitionPosetModel", "held", "(I)I"⟩, 14), (⟨"PartitionPosetModel", "wrongOf", "(II)I"⟩, 14), (⟨"PartitionPosetModel", "takes", "(I)V"⟩, 14), (⟨"PartitionPosetModel", "merges", "(II)V"⟩, 14), (⟨"PartitionPosetModel", "changes", "(II)I"⟩, 14), (⟨"PartitionPosetModel", "isParted", "(III)Z"⟩, 14), (⟨"PartitionPosetModel", "admittedAt", "(I)I"⟩, 14), (⟨"PartitionPosetModel", "isAdmitted", "(I)Z"⟩, 14), (⟨"PartitionPosetModel", "steps", "(II)I"⟩, 14), (⟨"PartitionPosetModel", "nearest", "(II)I"⟩, 14), (⟨"PartitionPosetModel", "placeOf", "(I)I"⟩, 14), (⟨"PartitionPosetModel", "manyWith", "(I)I"⟩, 14), (⟨"PartitionPosetModel", "isBelow", "(II)Z"⟩, 14)]
theorem lw_r3 : ∀ q ∈ lw_privs_3, lw_okq q := List.forall_mem_cons.mpr ⟨lw_p32, List.forall_mem_cons.mpr ⟨lw_p33, List.forall_mem_cons.mpr ⟨lw_p34, List.forall_mem_cons.mpr ⟨lw_p35, List.forall_mem_cons.mpr ⟨lw_p36, List.forall_mem_cons.mpr ⟨lw_p37, List.forall_mem_cons.mpr ⟨lw_p38, List.forall_mem_cons.mpr ⟨lw_p39, List.forall_mem_cons.mpr ⟨lw_p40, List.forall_mem_cons.mpr ⟨lw_p41, List.forall_mem_cons.mpr ⟨lw_p42, List.forall_mem_cons.mpr ⟨lw_p43, List.forall_mem_cons.mpr ⟨lw_p44, List.forall_mem_cons.mpr ⟨lw_p45, List.forall_mem_cons.mpr ⟨lw_p46, List.forall_mem_cons.mpr ⟨lw_p47, fun _ h => absurd h List.not_mem_nil⟩⟩⟩⟩⟩⟩⟩⟩⟩⟩⟩⟩⟩⟩⟩⟩
theorem lw_p48 : lw_okq (⟨"PartitionPosetModel", "isCover", "(II)Z"⟩, 14) := ⟨⟨by decide +kernel, by decide +kernel⟩, List.mem_of_getElem? (i := 751) (by decide +kernel), List.mem_of_getElem? (i := 1082) (by decide +kernel), List.mem_of_getElem? (i := 1083) (by decide +kernel)⟩
theorem lw_p49 : lw_okq (⟨"PartitionPosetModel", "isStrictly", "(II)Z"⟩, 14) := ⟨⟨by decide +kernel, by decide +kernel⟩, List.mem_of_getElem? (i := 751) (by decide +kernel), List.mem_of_getElem? (i := 1086) (by decide +kernel), List.mem_of_getElem? (i := 1087) (by decide +kernel)⟩
theorem lw_p50 : lw_okq (⟨"PartitionPosetModel", "nearestBounds", "(IIZ)I"⟩, 14) := ⟨⟨by decide +kernel, by decide +kernel⟩, List.mem_of_getElem? (i := 751) (by decide +kernel), List.mem_of_getElem? (i := 1094) (by decide +kernel), List.mem_of_getElem? (i := 1095) (by decide +kernel)⟩
theorem lw_p51 : lw_okq (⟨"PartitionPosetModel", "isBound", "(IIIZ)Z"⟩, 14) := ⟨⟨by decide +kernel, by decide +kernel⟩, List.mem_of_getElem? (i := 751) (by decide +kernel), List.mem_of_getElem? (i := 1098) (by decide +kernel), List.mem_of_getElem? (i := 1099) (by decide +kernel)⟩
theorem lw_p52 : lw_okq (⟨"PartitionPosetModel", "isBetween", "(III)Z"⟩, 14) := ⟨⟨by decide +kernel, by decide +kernel⟩, List.mem_of_getElem? (i := 751) (by decide +kernel), List.mem_of_getElem? (i := 1110) (by decide +kernel), List.mem_of_getElem? (i := 1111) (by decide +kernel)⟩
theorem lw_p53 : lw_okq (⟨"PartitionPosetModel", "wrongAdmitted", "(II)I"⟩, 14) := ⟨⟨by decide +kernel, by decide +kernel⟩, List.mem_of_getElem? (i := 751) (by decide +kernel), List.mem_of_getElem? (i := 1118) (by decide +kernel), List.mem_of_getElem? (i := 1119) (by decide +kernel)⟩
theorem lw_p54 : lw_okq (⟨"PartitionPosetModel", "moebiuses", "(II)V"⟩, 14) := ⟨⟨by decide +kernel, by decide +kernel⟩, List.mem_of_getElem? (i := 751) (by decide +kernel), List.mem_of_getElem? (i := 1123) (by decide +kernel), List.mem_of_getElem? (i := 1124) (by decide +kernel)⟩
theorem lw_p55 : lw_okq (⟨"PartitionPosetModel", "rank", "(I)I"⟩, 14) := ⟨⟨by decide +kernel, by decide +kernel⟩, List.mem_of_getElem? (i := 751) (by decide +kernel), List.mem_of_getElem? (i := 1127) (by decide +kernel), List.mem_of_getElem? (i := 1128) (by decide +kernel)⟩
theorem lw_p56 : lw_okq (⟨"PartitionPosetModel", "single", "(I)V"⟩, 14) := ⟨⟨by decide +kernel, by decide +kernel⟩, List.mem_of_getElem? (i := 751) (by decide +kernel), List.mem_of_getElem? (i := 1136) (by decide +kernel), List.mem_of_getElem? (i := 1137) (by decide +kernel)⟩
theorem lw_p57 : lw_okq (⟨"PartitionPosetModel", "extendsAll", "()V"⟩, 14) := ⟨⟨by decide +kernel, by decide +kernel⟩, List.mem_of_getElem? (i := 751) (by decide +kernel), List.mem_of_getElem? (i := 1140) (by decide +kernel), List.mem_of_getElem? (i := 1141) (by decide +kernel)⟩
theorem lw_p58 : lw_okq (⟨"PartitionPosetModel", "most", "(II)I"⟩, 14) := ⟨⟨by decide +kernel, by decide +kernel⟩, List.mem_of_getElem? (i := 751) (by decide +kernel), List.mem_of_getElem? (i := 1170) (by decide +kernel), List.mem_of_getElem? (i := 1171) (by decide +kernel)⟩
theorem lw_p59 : lw_okq (⟨"PartitionPosetModel", "common", "(IIII)I"⟩, 14) := ⟨⟨by decide +kernel, by decide +kernel⟩, List.mem_of_getElem? (i := 751) (by decide +kernel), List.mem_of_getElem? (i := 1174) (by decide +kernel), List.mem_of_getElem? (i := 1175) (by decide +kernel)⟩
theorem lw_p60 : lw_okq (⟨"PartitionPosetModel", "unlike", "(II)I"⟩, 14) := ⟨⟨by decide +kernel, by decide +kernel⟩, List.mem_of_getElem? (i := 751) (by decide +kernel), List.mem_of_getElem? (i := 1182) (by decide +kernel), List.mem_of_getElem? (i := 1183) (by decide +kernel)⟩
theorem lw_p61 : lw_okq (⟨"PartitionPosetModel", "unlikeAll", "(II)I"⟩, 14) := ⟨⟨by decide +kernel, by decide +kernel⟩, List.mem_of_getElem? (i := 751) (by decide +kernel), List.mem_of_getElem? (i := 1190) (by decide +kernel), List.mem_of_getElem? (i := 1191) (by decide +kernel)⟩
theorem lw_p62 : lw_okq (⟨"PartitionPosetModel", "full", "()I"⟩, 14) := ⟨⟨by decide +kernel, by decide +kernel⟩, List.mem_of_getElem? (i := 751) (by decide +kernel), List.mem_of_getElem? (i := 1202) (by decide +kernel), List.mem_of_getElem? (i := 1203) (by decide +kernel)⟩
def lw_privs_4 : List (MethodName × Nat) := [(⟨"PartitionPosetModel", "isCover", "(II)Z"⟩, 14), (⟨"PartitionPosetModel", "isStrictly", "(II)Z"⟩, 14), (⟨"PartitionPosetModel", "nearestBounds", "(IIZ)I"⟩, 14), (⟨"PartitionPosetModel", "isBound", "(IIIZ)Z"⟩, 14), (⟨"PartitionPosetModel", "isBetween", "(III)Z"⟩, 14), (⟨"PartitionPosetModel", "wrongAdmitted", "(II)I"⟩, 14), (⟨"PartitionPosetModel", "moebiuses", "(II)V"⟩, 14), (⟨"PartitionPosetModel", "rank", "(I)I"⟩, 14), (⟨"PartitionPosetModel", "single", "(I)V"⟩, 14), (⟨"PartitionPosetModel", "extendsAll", "()V"⟩, 14), (⟨"PartitionPosetModel", "most", "(II)I"⟩, 14), (⟨"PartitionPosetModel", "common", "(IIII)I"⟩, 14), (⟨"PartitionPosetModel", "unlike", "(II)I"⟩, 14), (⟨"PartitionPosetModel", "unlikeAll", "(II)I"⟩, 14), (⟨"PartitionPosetModel", "full", "()I"⟩, 14)]
theorem lw_r4 : ∀ q ∈ lw_privs_4, lw_okq q := List.forall_mem_cons.mpr ⟨lw_p48, List.forall_mem_cons.mpr ⟨lw_p49, List.forall_mem_cons.mpr ⟨lw_p50, List.forall_mem_cons.mpr ⟨lw_p51, List.forall_mem_cons.mpr ⟨lw_p52, List.forall_mem_cons.mpr ⟨lw_p53, List.forall_mem_cons.mpr ⟨lw_p54, List.forall_mem_cons.mpr ⟨lw_p55, List.forall_mem_cons.mpr ⟨lw_p56, List.forall_mem_cons.mpr ⟨lw_p57, List.forall_mem_cons.mpr ⟨lw_p58, List.forall_mem_cons.mpr ⟨lw_p59, List.forall_mem_cons.mpr ⟨lw_p60, List.forall_mem_cons.mpr ⟨lw_p61, List.forall_mem_cons.mpr ⟨lw_p62, fun _ h => absurd h List.not_mem_nil⟩⟩⟩⟩⟩⟩⟩⟩⟩⟩⟩⟩⟩⟩⟩
def lw_privs : List (MethodName × Nat) := lw_privs_1 ++ (lw_privs_2 ++ (lw_privs_3 ++ (lw_privs_4)))
def lw_tbl : List Cond := k2_sels lw_privs ++ tables_1
theorem lw_privs_ok : ∀ q ∈ lw_privs, lw_okq q := by
  show ∀ q ∈ lw_privs_1 ++ (lw_privs_2 ++ (lw_privs_3 ++ (lw_privs_4))), lw_okq q
  exact List.forall_mem_append.mpr ⟨lw_r1, List.forall_mem_append.mpr ⟨lw_r2, List.forall_mem_append.mpr ⟨lw_r3, lw_r4⟩⟩⟩
def RX0 : String := "PartitionPoset$Catalog"
def TX0 : u_T := fun k => match k with
  | 0 => ("PartitionPoset$Catalog", "pairs", "[I", true)
  | 1 => ("PartitionPoset$Catalog", "growthNumbers", "[I", true)
  | 2 => ("PartitionPoset$Catalog", "sizeSets", "[I", true)
  | 3 => ("PartitionPoset$Catalog", "blockCounts", "[I", true)
  | 4 => ("PartitionPoset$Catalog", "crossing", "[Z", true)
  | 5 => ("PartitionPoset$Catalog", "growth", "[I", true)
  | 6 => ("PartitionPoset$Catalog", "shape", "LPartitionPoset$Shape;", true)
  | 7 => ("PartitionPoset$Catalog", "n", "I", false)
  | _ => ("PartitionPoset$Catalog", "size", "I", false)
def tyX0 : Nat → FieldType := fun k => match k with
  | 0 => .array .int
  | 1 => .array .int
  | 2 => .array .int
  | 3 => .array .int
  | 4 => .array .boolean
  | 5 => .array .int
  | 6 => .object "PartitionPoset$Shape"
  | 7 => .int
  | _ => .int
abbrev wsX00 : List Cond := u_ws RX0 TX0 9
theorem nmX0 : ∀ a, a < 9 → ∀ b, b < 9 → a ≠ b → (TX0 a).2.1 ≠ (TX0 b).2.1 := by decide +kernel
theorem tyX0_ok : ∀ k, k < 9 → parseFieldDescriptor (TX0 k).2.2.1 = some (tyX0 k) := by decide +kernel
abbrev cX0_init : ByteArray := prog_2_method_1_code
def yX0_init : MethodName := ⟨RX0, "<init>", "()V"⟩
abbrev cX0_fill : ByteArray := prog_2_method_2_code
def yX0_fill : MethodName := ⟨RX0, "fill", "(I)V"⟩
abbrev cX0_enter : ByteArray := prog_2_method_3_code
def yX0_enter : MethodName := ⟨RX0, "enter", "(I)V"⟩
abbrev cX0_pairsOfGrowth : ByteArray := prog_2_method_4_code
def yX0_pairsOfGrowth : MethodName := ⟨RX0, "pairsOfGrowth", "()I"⟩
abbrev cX0_advance : ByteArray := prog_2_method_5_code
def yX0_advance : MethodName := ⟨RX0, "advance", "()Z"⟩
abbrev cX0_greatestBefore : ByteArray := prog_2_method_6_code
def yX0_greatestBefore : MethodName := ⟨RX0, "greatestBefore", "(I)I"⟩
abbrev cX0_closure : ByteArray := prog_2_method_7_code
def yX0_closure : MethodName := ⟨RX0, "closure", "(I)I"⟩
def RX1 : String := "PartitionPoset$History"
def TX1 : u_T := fun k => match k with
  | 0 => ("PartitionPoset$History", "states", "[LPartitionPoset$State;", true)
  | 1 => ("PartitionPoset$History", "place", "I", false)
  | _ => ("PartitionPoset$History", "remembered", "I", false)
def tyX1 : Nat → FieldType := fun k => match k with
  | 0 => .array (.object "PartitionPoset$State")
  | 1 => .int
  | _ => .int
abbrev wsX10 : List Cond := u_ws RX1 TX1 3
theorem nmX1 : ∀ a, a < 3 → ∀ b, b < 3 → a ≠ b → (TX1 a).2.1 ≠ (TX1 b).2.1 := by decide +kernel
theorem tyX1_ok : ∀ k, k < 3 → parseFieldDescriptor (TX1 k).2.2.1 = some (tyX1 k) := by decide +kernel
abbrev cX1_init : ByteArray := prog_3_method_1_code
def yX1_init : MethodName := ⟨RX1, "<init>", "()V"⟩
abbrev cX1_remember : ByteArray := prog_3_method_2_code
def yX1_remember : MethodName := ⟨RX1, "remember", "(LPartitionPoset$State;)V"⟩
abbrev cX1_restore : ByteArray := prog_3_method_3_code
def yX1_restore : MethodName := ⟨RX1, "restore", "(LPartitionPoset$State;)Z"⟩
def RX2 : String := "PartitionPoset$Roster"
def TX2 : u_T := fun k => match k with
  | 0 => ("PartitionPoset$Roster", "pairs", "[I", true)
  | 1 => ("PartitionPoset$Roster", "growthNumbers", "[I", true)
  | 2 => ("PartitionPoset$Roster", "blockCounts", "[I", true)
  | 3 => ("PartitionPoset$Roster", "byNumber", "[I", true)
  | 4 => ("PartitionPoset$Roster", "nearest", "[I", true)
  | 5 => ("PartitionPoset$Roster", "size", "I", false)
  | _ => ("PartitionPoset$Roster", "nearestCount", "I", false)
def tyX2 : Nat → FieldType := fun k => match k with
  | 0 => .array .int
  | 1 => .array .int
  | 2 => .array .int
  | 3 => .array .int
  | 4 => .array .int
  | 5 => .int
  | _ => .int
abbrev wsX20 : List Cond := u_ws RX2 TX2 7
theorem nmX2 : ∀ a, a < 7 → ∀ b, b < 7 → a ≠ b → (TX2 a).2.1 ≠ (TX2 b).2.1 := by decide +kernel
theorem tyX2_ok : ∀ k, k < 7 → parseFieldDescriptor (TX2 k).2.2.1 = some (tyX2 k) := by decide +kernel
abbrev cX2_init : ByteArray := prog_4_method_1_code
def yX2_init : MethodName := ⟨RX2, "<init>", "()V"⟩
abbrev cX2_select : ByteArray := prog_4_method_2_code
def yX2_select : MethodName := ⟨RX2, "select", "(LPartitionPoset$Catalog;LPartitionPoset$State;)V"⟩
abbrev cX2_has : ByteArray := prog_4_method_3_code
def yX2_has : MethodName := ⟨RX2, "has", "(I)Z"⟩
abbrev cX2_find : ByteArray := prog_4_method_4_code
def yX2_find : MethodName := ⟨RX2, "find", "(I)I"⟩
abbrev cX2_firstBehind : ByteArray := prog_4_method_5_code
def yX2_firstBehind : MethodName := ⟨RX2, "firstBehind", "(I)I"⟩
abbrev cX2_lastBefore : ByteArray := prog_4_method_6_code
def yX2_lastBefore : MethodName := ⟨RX2, "lastBefore", "(I)I"⟩
abbrev cX2_findNearest : ByteArray := prog_4_method_7_code
def yX2_findNearest : MethodName := ⟨RX2, "findNearest", "(IZI)V"⟩
abbrev cX2_isBehindNearest : ByteArray := prog_4_method_8_code
def yX2_isBehindNearest : MethodName := ⟨RX2, "isBehindNearest", "(IZ)Z"⟩
def RX3 : String := "PartitionPoset$Shape"
def TX3 : u_T := fun k => match k with
  | 0 => ("PartitionPoset$Shape", "labels", "[I", true)
  | 1 => ("PartitionPoset$Shape", "members", "[I", true)
  | 2 => ("PartitionPoset$Shape", "n", "I", false)
  | _ => ("PartitionPoset$Shape", "blockCount", "I", false)
def tyX3 : Nat → FieldType := fun k => match k with
  | 0 => .array .int
  | 1 => .array .int
  | 2 => .int
  | _ => .int
abbrev wsX30 : List Cond := u_ws RX3 TX3 4
theorem nmX3 : ∀ a, a < 4 → ∀ b, b < 4 → a ≠ b → (TX3 a).2.1 ≠ (TX3 b).2.1 := by decide +kernel
theorem tyX3_ok : ∀ k, k < 4 → parseFieldDescriptor (TX3 k).2.2.1 = some (tyX3 k) := by decide +kernel
abbrev cX3_init : ByteArray := prog_5_method_1_code
def yX3_init : MethodName := ⟨RX3, "<init>", "()V"⟩
abbrev cX3_spell : ByteArray := prog_5_method_2_code
def yX3_spell : MethodName := ⟨RX3, "spell", "(II)V"⟩
abbrev cX3_labelOfPartner : ByteArray := prog_5_method_3_code
def yX3_labelOfPartner : MethodName := ⟨RX3, "labelOfPartner", "(II)I"⟩
abbrev cX3_growthNumber : ByteArray := prog_5_method_4_code
def yX3_growthNumber : MethodName := ⟨RX3, "growthNumber", "()I"⟩
abbrev cX3_sizeSet : ByteArray := prog_5_method_5_code
def yX3_sizeSet : MethodName := ⟨RX3, "sizeSet", "()I"⟩
abbrev cX3_typeNumber : ByteArray := prog_5_method_6_code
def yX3_typeNumber : MethodName := ⟨RX3, "typeNumber", "()I"⟩
abbrev cX3_firstBlockNotIn : ByteArray := prog_5_method_7_code
def yX3_firstBlockNotIn : MethodName := ⟨RX3, "firstBlockNotIn", "(I)I"⟩
abbrev cX3_crossingCount : ByteArray := prog_5_method_8_code
def yX3_crossingCount : MethodName := ⟨RX3, "crossingCount", "()I"⟩
abbrev cX3_firstCrossing : ByteArray := prog_5_method_9_code
def yX3_firstCrossing : MethodName := ⟨RX3, "firstCrossing", "()I"⟩
abbrev cX3_areCrossing : ByteArray := prog_5_method_10_code
def yX3_areCrossing : MethodName := ⟨RX3, "areCrossing", "(II)Z"⟩
def RX4 : String := "PartitionPoset$Span"
def TX4 : u_T := fun k => match k with
  | 0 => ("PartitionPoset$Span", "pairs", "[I", true)
  | 1 => ("PartitionPoset$Span", "blockCounts", "[I", true)
  | 2 => ("PartitionPoset$Span", "values", "[J", true)
  | 3 => ("PartitionPoset$Span", "covered", "[I", true)
  | _ => ("PartitionPoset$Span", "size", "I", false)
def tyX4 : Nat → FieldType := fun k => match k with
  | 0 => .array .int
  | 1 => .array .int
  | 2 => .array .long
  | 3 => .array .int
  | _ => .int
abbrev wsX40 : List Cond := u_ws RX4 TX4 5
theorem nmX4 : ∀ a, a < 5 → ∀ b, b < 5 → a ≠ b → (TX4 a).2.1 ≠ (TX4 b).2.1 := by decide +kernel
theorem tyX4_ok : ∀ k, k < 5 → parseFieldDescriptor (TX4 k).2.2.1 = some (tyX4 k) := by decide +kernel
abbrev cX4_init : ByteArray := prog_6_method_1_code
def yX4_init : MethodName := ⟨RX4, "<init>", "()V"⟩
abbrev cX4_select : ByteArray := prog_6_method_2_code
def yX4_select : MethodName := ⟨RX4, "select", "(LPartitionPoset$Roster;II)V"⟩
abbrev cX4_lastValue : ByteArray := prog_6_method_3_code
def yX4_lastValue : MethodName := ⟨RX4, "lastValue", "()J"⟩
abbrev cX4_startAtFirst : ByteArray := prog_6_method_4_code
def yX4_startAtFirst : MethodName := ⟨RX4, "startAtFirst", "()V"⟩
abbrev cX4_putMoebius : ByteArray := prog_6_method_5_code
def yX4_putMoebius : MethodName := ⟨RX4, "putMoebius", "()V"⟩
abbrev cX4_putChains : ByteArray := prog_6_method_6_code
def yX4_putChains : MethodName := ⟨RX4, "putChains", "(I)V"⟩
abbrev cX4_putMaximalChains : ByteArray := prog_6_method_7_code
def yX4_putMaximalChains : MethodName := ⟨RX4, "putMaximalChains", "()V"⟩
abbrev cX4_putHeights : ByteArray := prog_6_method_8_code
def yX4_putHeights : MethodName := ⟨RX4, "putHeights", "()V"⟩
abbrev cX4_sumStrictlyBelow : ByteArray := prog_6_method_9_code
def yX4_sumStrictlyBelow : MethodName := ⟨RX4, "sumStrictlyBelow", "(I)J"⟩
abbrev cX4_sumCovered : ByteArray := prog_6_method_10_code
def yX4_sumCovered : MethodName := ⟨RX4, "sumCovered", "(I)J"⟩
abbrev cX4_isBelowCovered : ByteArray := prog_6_method_11_code
def yX4_isBelowCovered : MethodName := ⟨RX4, "isBelowCovered", "(II)Z"⟩
def RX5 : String := "PartitionPoset$State"
def TX5 : u_T := fun k => match k with
  | 0 => ("PartitionPoset$State", "registers", "[I", true)
  | 1 => ("PartitionPoset$State", "n", "I", false)
  | 2 => ("PartitionPoset$State", "sizes", "I", false)
  | 3 => ("PartitionPoset$State", "numbers", "I", false)
  | 4 => ("PartitionPoset$State", "apartPairs", "I", false)
  | 5 => ("PartitionPoset$State", "togetherPairs", "I", false)
  | _ => ("PartitionPoset$State", "noncrossingOnly", "Z", false)
def tyX5 : Nat → FieldType := fun k => match k with
  | 0 => .array .int
  | 1 => .int
  | 2 => .int
  | 3 => .int
  | 4 => .int
  | 5 => .int
  | _ => .boolean
abbrev wsX50 : List Cond := u_ws RX5 TX5 7
theorem nmX5 : ∀ a, a < 7 → ∀ b, b < 7 → a ≠ b → (TX5 a).2.1 ≠ (TX5 b).2.1 := by decide +kernel
theorem tyX5_ok : ∀ k, k < 7 → parseFieldDescriptor (TX5 k).2.2.1 = some (tyX5 k) := by decide +kernel
abbrev cX5_init : ByteArray := prog_7_method_1_code
def yX5_init : MethodName := ⟨RX5, "<init>", "()V"⟩
abbrev cX5_reset : ByteArray := prog_7_method_2_code
def yX5_reset : MethodName := ⟨RX5, "reset", "(I)V"⟩
abbrev cX5_takeFrom : ByteArray := prog_7_method_3_code
def yX5_takeFrom : MethodName := ⟨RX5, "takeFrom", "(LPartitionPoset$State;)V"⟩
abbrev cX5_filledRegisters : ByteArray := prog_7_method_4_code
def yX5_filledRegisters : MethodName := ⟨RX5, "filledRegisters", "()I"⟩
abbrev cX5_reason : ByteArray := prog_7_method_5_code
def yX5_reason : MethodName := ⟨RX5, "reason", "(IIIZ)I"⟩
def RX6 : String := "PartitionPoset$Text"
def TX6 : u_T := fun k => match k with
  | 0 => ("PartitionPoset$Text", "bytes", "[I", true)
  | _ => ("PartitionPoset$Text", "length", "I", false)
def tyX6 : Nat → FieldType := fun k => match k with
  | 0 => .array .int
  | _ => .int
abbrev wsX60 : List Cond := u_ws RX6 TX6 2
theorem nmX6 : ∀ a, a < 2 → ∀ b, b < 2 → a ≠ b → (TX6 a).2.1 ≠ (TX6 b).2.1 := by decide +kernel
theorem tyX6_ok : ∀ k, k < 2 → parseFieldDescriptor (TX6 k).2.2.1 = some (tyX6 k) := by decide +kernel
abbrev cX6_init : ByteArray := prog_8_method_1_code
def yX6_init : MethodName := ⟨RX6, "<init>", "()V"⟩
abbrev cX6_append : ByteArray := prog_8_method_2_code
def yX6_append : MethodName := ⟨RX6, "append", "(I)Z"⟩
abbrev cX6_parse : ByteArray := prog_8_method_3_code
def yX6_parse : MethodName := ⟨RX6, "parse", "(I)I"⟩
def RX7 : String := "PartitionPoset"
def TX7 : u_T := fun k => match k with
  | 0 => ("PartitionPoset", "state", "LPartitionPoset$State;", true)
  | 1 => ("PartitionPoset", "history", "LPartitionPoset$History;", true)
  | 2 => ("PartitionPoset", "text", "LPartitionPoset$Text;", true)
  | 3 => ("PartitionPoset", "catalog", "LPartitionPoset$Catalog;", true)
  | 4 => ("PartitionPoset", "roster", "LPartitionPoset$Roster;", true)
  | 5 => ("PartitionPoset", "span", "LPartitionPoset$Span;", true)
  | 6 => ("PartitionPoset", "shape", "LPartitionPoset$Shape;", true)
  | 7 => ("PartitionPoset", "otherShape", "LPartitionPoset$Shape;", true)
  | 8 => ("PartitionPoset", "image", "[I", true)
  | _ => ("PartitionPoset", "best", "[I", true)
def tyX7 : Nat → FieldType := fun k => match k with
  | 0 => .object "PartitionPoset$State"
  | 1 => .object "PartitionPoset$History"
  | 2 => .object "PartitionPoset$Text"
  | 3 => .object "PartitionPoset$Catalog"
  | 4 => .object "PartitionPoset$Roster"
  | 5 => .object "PartitionPoset$Span"
  | 6 => .object "PartitionPoset$Shape"
  | 7 => .object "PartitionPoset$Shape"
  | 8 => .array .int
  | _ => .array .int
abbrev wsX70 : List Cond := u_ws RX7 TX7 10
theorem nmX7 : ∀ a, a < 10 → ∀ b, b < 10 → a ≠ b → (TX7 a).2.1 ≠ (TX7 b).2.1 := by decide +kernel
theorem tyX7_ok : ∀ k, k < 10 → parseFieldDescriptor (TX7 k).2.2.1 = some (tyX7 k) := by decide +kernel
abbrev cX7_init : ByteArray := prog_1_method_1_code
def yX7_init : MethodName := ⟨RX7, "<init>", "()V"⟩
abbrev cX7_setSize : ByteArray := prog_1_method_2_code
def yX7_setSize : MethodName := ⟨RX7, "setSize", "(I)I"⟩
abbrev cX7_allowSize : ByteArray := prog_1_method_3_code
def yX7_allowSize : MethodName := ⟨RX7, "allowSize", "(IZ)I"⟩
abbrev cX7_allowNumber : ByteArray := prog_1_method_4_code
def yX7_allowNumber : MethodName := ⟨RX7, "allowNumber", "(IZ)I"⟩
abbrev cX7_apart : ByteArray := prog_1_method_5_code
def yX7_apart : MethodName := ⟨RX7, "apart", "(IIZ)I"⟩
abbrev cX7_together : ByteArray := prog_1_method_6_code
def yX7_together : MethodName := ⟨RX7, "together", "(IIZ)I"⟩
abbrev cX7_noncrossing : ByteArray := prog_1_method_7_code
def yX7_noncrossing : MethodName := ⟨RX7, "noncrossing", "(Z)I"⟩
abbrev cX7_type : ByteArray := prog_1_method_8_code
def yX7_type : MethodName := ⟨RX7, "type", "(I)I"⟩
abbrev cX7_clear : ByteArray := prog_1_method_9_code
def yX7_clear : MethodName := ⟨RX7, "clear", "()I"⟩
abbrev cX7_read : ByteArray := prog_1_method_10_code
def yX7_read : MethodName := ⟨RX7, "read", "(I)I"⟩
abbrev cX7_finest : ByteArray := prog_1_method_11_code
def yX7_finest : MethodName := ⟨RX7, "finest", "(I)I"⟩
abbrev cX7_coarsest : ByteArray := prog_1_method_12_code
def yX7_coarsest : MethodName := ⟨RX7, "coarsest", "(I)I"⟩
abbrev cX7_copy : ByteArray := prog_1_method_13_code
def yX7_copy : MethodName := ⟨RX7, "copy", "(II)I"⟩
abbrev cX7_meet : ByteArray := prog_1_method_14_code
def yX7_meet : MethodName := ⟨RX7, "meet", "(III)I"⟩
abbrev cX7_join : ByteArray := prog_1_method_15_code
def yX7_join : MethodName := ⟨RX7, "join", "(III)I"⟩
abbrev cX7_unite : ByteArray := prog_1_method_16_code
def yX7_unite : MethodName := ⟨RX7, "unite", "(III)I"⟩
abbrev cX7_isolate : ByteArray := prog_1_method_17_code
def yX7_isolate : MethodName := ⟨RX7, "isolate", "(II)I"⟩
abbrev cX7_swap : ByteArray := prog_1_method_18_code
def yX7_swap : MethodName := ⟨RX7, "swap", "(III)I"⟩
abbrev cX7_rotate : ByteArray := prog_1_method_19_code
def yX7_rotate : MethodName := ⟨RX7, "rotate", "(I)I"⟩
abbrev cX7_complement : ByteArray := prog_1_method_20_code
def yX7_complement : MethodName := ⟨RX7, "complement", "(II)I"⟩
abbrev cX7_unrank : ByteArray := prog_1_method_21_code
def yX7_unrank : MethodName := ⟨RX7, "unrank", "(II)I"⟩
abbrev cX7_next : ByteArray := prog_1_method_22_code
def yX7_next : MethodName := ⟨RX7, "next", "(I)I"⟩
abbrev cX7_previous : ByteArray := prog_1_method_23_code
def yX7_previous : MethodName := ⟨RX7, "previous", "(I)I"⟩
abbrev cX7_draw : ByteArray := prog_1_method_24_code
def yX7_draw : MethodName := ⟨RX7, "draw", "(II)I"⟩
abbrev cX7_blocks : ByteArray := prog_1_method_25_code
def yX7_blocks : MethodName := ⟨RX7, "blocks", "(I)I"⟩
abbrev cX7_blockOf : ByteArray := prog_1_method_26_code
def yX7_blockOf : MethodName := ⟨RX7, "blockOf", "(II)I"⟩
abbrev cX7_block : ByteArray := prog_1_method_27_code
def yX7_block : MethodName := ⟨RX7, "block", "(II)I"⟩
abbrev cX7_typeOf : ByteArray := prog_1_method_28_code
def yX7_typeOf : MethodName := ⟨RX7, "typeOf", "(I)I"⟩
abbrev cX7_crossings : ByteArray := prog_1_method_29_code
def yX7_crossings : MethodName := ⟨RX7, "crossings", "(I)I"⟩
abbrev cX7_index : ByteArray := prog_1_method_30_code
def yX7_index : MethodName := ⟨RX7, "index", "(I)I"⟩
abbrev cX7_why : ByteArray := prog_1_method_31_code
def yX7_why : MethodName := ⟨RX7, "why", "(I)I"⟩
abbrev cX7_where : ByteArray := prog_1_method_32_code
def yX7_where : MethodName := ⟨RX7, "where", "(I)I"⟩
abbrev cX7_count : ByteArray := prog_1_method_33_code
def yX7_count : MethodName := ⟨RX7, "count", "()I"⟩
abbrev cX7_countWith : ByteArray := prog_1_method_34_code
def yX7_countWith : MethodName := ⟨RX7, "countWith", "(I)I"⟩
abbrev cX7_below : ByteArray := prog_1_method_35_code
def yX7_below : MethodName := ⟨RX7, "below", "(II)I"⟩
abbrev cX7_covers : ByteArray := prog_1_method_36_code
def yX7_covers : MethodName := ⟨RX7, "covers", "(IZ)I"⟩
abbrev cX7_bounds : ByteArray := prog_1_method_37_code
def yX7_bounds : MethodName := ⟨RX7, "bounds", "(IIZ)I"⟩
abbrev cX7_bound : ByteArray := prog_1_method_38_code
def yX7_bound : MethodName := ⟨RX7, "bound", "(IIZI)I"⟩
abbrev cX7_interval : ByteArray := prog_1_method_39_code
def yX7_interval : MethodName := ⟨RX7, "interval", "(II)I"⟩
abbrev cX7_moebius : ByteArray := prog_1_method_40_code
def yX7_moebius : MethodName := ⟨RX7, "moebius", "(II)J"⟩
abbrev cX7_chains : ByteArray := prog_1_method_41_code
def yX7_chains : MethodName := ⟨RX7, "chains", "(III)J"⟩
abbrev cX7_maximalChains : ByteArray := prog_1_method_42_code
def yX7_maximalChains : MethodName := ⟨RX7, "maximalChains", "(II)J"⟩
abbrev cX7_height : ByteArray := prog_1_method_43_code
def yX7_height : MethodName := ⟨RX7, "height", "(II)I"⟩
abbrev cX7_rankSum : ByteArray := prog_1_method_44_code
def yX7_rankSum : MethodName := ⟨RX7, "rankSum", "(III)J"⟩
abbrev cX7_characteristic : ByteArray := prog_1_method_45_code
def yX7_characteristic : MethodName := ⟨RX7, "characteristic", "(III)J"⟩
abbrev cX7_transfers : ByteArray := prog_1_method_46_code
def yX7_transfers : MethodName := ⟨RX7, "transfers", "(II)I"⟩
abbrev cX7_disagreements : ByteArray := prog_1_method_47_code
def yX7_disagreements : MethodName := ⟨RX7, "disagreements", "(II)I"⟩
abbrev cX7_median : ByteArray := prog_1_method_48_code
def yX7_median : MethodName := ⟨RX7, "median", "(II)I"⟩
abbrev cX7_undo : ByteArray := prog_1_method_49_code
def yX7_undo : MethodName := ⟨RX7, "undo", "()I"⟩
abbrev cX7_told : ByteArray := prog_1_method_50_code
def yX7_told : MethodName := ⟨RX7, "told", "(I)I"⟩
abbrev cX7_digest : ByteArray := prog_1_method_51_code
def yX7_digest : MethodName := ⟨RX7, "digest", "()J"⟩
abbrev cX7_hashOfRegister : ByteArray := prog_1_method_52_code
def yX7_hashOfRegister : MethodName := ⟨RX7, "hashOfRegister", "(JI)J"⟩
abbrev cX7_isRegister : ByteArray := prog_1_method_53_code
def yX7_isRegister : MethodName := ⟨RX7, "isRegister", "(I)Z"⟩
abbrev cX7_isElement : ByteArray := prog_1_method_54_code
def yX7_isElement : MethodName := ⟨RX7, "isElement", "(I)Z"⟩
abbrev cX7_isBase : ByteArray := prog_1_method_55_code
def yX7_isBase : MethodName := ⟨RX7, "isBase", "(I)Z"⟩
abbrev cX7_faultOf : ByteArray := prog_1_method_56_code
def yX7_faultOf : MethodName := ⟨RX7, "faultOf", "(IIZ)I"⟩
abbrev cX7_faultOfAdmitted : ByteArray := prog_1_method_57_code
def yX7_faultOfAdmitted : MethodName := ⟨RX7, "faultOfAdmitted", "(IIZ)I"⟩
abbrev cX7_refresh : ByteArray := prog_1_method_58_code
def yX7_refresh : MethodName := ⟨RX7, "refresh", "()V"⟩
abbrev cX7_put : ByteArray := prog_1_method_59_code
def yX7_put : MethodName := ⟨RX7, "put", "(II)I"⟩
abbrev cX7_stepTo : ByteArray := prog_1_method_60_code
def yX7_stepTo : MethodName := ⟨RX7, "stepTo", "(II)I"⟩
abbrev cX7_moveElements : ByteArray := prog_1_method_61_code
def yX7_moveElements : MethodName := ⟨RX7, "moveElements", "(I)I"⟩
abbrev cX7_spellRegister : ByteArray := prog_1_method_62_code
def yX7_spellRegister : MethodName := ⟨RX7, "spellRegister", "(I)V"⟩
abbrev cX7_blockCountOf : ByteArray := prog_1_method_63_code
def yX7_blockCountOf : MethodName := ⟨RX7, "blockCountOf", "(I)I"⟩
abbrev cX7_findNearestBounds : ByteArray := prog_1_method_64_code
def yX7_findNearestBounds : MethodName := ⟨RX7, "findNearestBounds", "(IIZ)V"⟩
abbrev cX7_selectSpan : ByteArray := prog_1_method_65_code
def yX7_selectSpan : MethodName := ⟨RX7, "selectSpan", "(II)V"⟩
abbrev cX7_disagreementsWith : ByteArray := prog_1_method_66_code
def yX7_disagreementsWith : MethodName := ⟨RX7, "disagreementsWith", "(II)I"⟩
abbrev cX7_mostThatStay : ByteArray := prog_1_method_67_code
def yX7_mostThatStay : MethodName := ⟨RX7, "mostThatStay", "()I"⟩
abbrev cX7_mostWithBlock : ByteArray := prog_1_method_68_code
def yX7_mostWithBlock : MethodName := ⟨RX7, "mostWithBlock", "(II)I"⟩
abbrev cX7_isBelow : ByteArray := prog_1_method_69_code
def yX7_isBelow : MethodName := ⟨RX7, "isBelow", "(II)Z"⟩
abbrev cX7_withBits : ByteArray := prog_1_method_70_code
def yX7_withBits : MethodName := ⟨RX7, "withBits", "(IIZ)I"⟩
abbrev cX7_pairBit : ByteArray := prog_1_method_71_code
def yX7_pairBit : MethodName := ⟨RX7, "pairBit", "(II)I"⟩
abbrev cX7_pairsWith : ByteArray := prog_1_method_72_code
def yX7_pairsWith : MethodName := ⟨RX7, "pairsWith", "(II)I"⟩
abbrev cX7_allPairs : ByteArray := prog_1_method_73_code
def yX7_allPairs : MethodName := ⟨RX7, "allPairs", "(I)I"⟩
abbrev cX7_firstPair : ByteArray := prog_1_method_74_code
def yX7_firstPair : MethodName := ⟨RX7, "firstPair", "(I)I"⟩
abbrev cX7_complementOf : ByteArray := prog_1_method_75_code
def yX7_complementOf : MethodName := ⟨RX7, "complementOf", "(II)I"⟩
abbrev cX7_isSplit : ByteArray := prog_1_method_76_code
def yX7_isSplit : MethodName := ⟨RX7, "isSplit", "(III)Z"⟩
abbrev cX7_power : ByteArray := prog_1_method_77_code
def yX7_power : MethodName := ⟨RX7, "power", "(II)J"⟩
def RX8 : String := "PartitionPosetModel"
def TX8 : u_T := fun k => match k with
  | 0 => ("PartitionPosetModel", "page", "[I", true)
  | 1 => ("PartitionPosetModel", "remembered", "I", false)
  | 2 => ("PartitionPosetModel", "text", "[I", true)
  | 3 => ("PartitionPosetModel", "typed", "I", false)
  | 4 => ("PartitionPosetModel", "strings", "[I", true)
  | 5 => ("PartitionPosetModel", "blockMany", "[I", true)
  | 6 => ("PartitionPosetModel", "indices", "[I", true)
  | 7 => ("PartitionPosetModel", "many", "I", false)
  | 8 => ("PartitionPosetModel", "admitted", "I", false)
  | 9 => ("PartitionPosetModel", "now", "[I", true)
  | 10 => ("PartitionPosetModel", "lastBound", "I", false)
  | 11 => ("PartitionPosetModel", "values", "[J", true)
  | 12 => ("PartitionPosetModel", "others", "[J", true)
  | _ => ("PartitionPosetModel", "stay", "[I", true)
def tyX8 : Nat → FieldType := fun k => match k with
  | 0 => .array .int
  | 1 => .int
  | 2 => .array .int
  | 3 => .int
  | 4 => .array .int
  | 5 => .array .int
  | 6 => .array .int
  | 7 => .int
  | 8 => .int
  | 9 => .array .int
  | 10 => .int
  | 11 => .array .long
  | 12 => .array .long
  | _ => .array .int
abbrev wsX80 : List Cond := u_ws RX8 TX8 14
theorem nmX8 : ∀ a, a < 14 → ∀ b, b < 14 → a ≠ b → (TX8 a).2.1 ≠ (TX8 b).2.1 := by decide +kernel
theorem tyX8_ok : ∀ k, k < 14 → parseFieldDescriptor (TX8 k).2.2.1 = some (tyX8 k) := by decide +kernel
abbrev cX8_init : ByteArray := prog_10_method_1_code
def yX8_init : MethodName := ⟨RX8, "<init>", "()V"⟩
abbrev cX8_in : ByteArray := prog_10_method_3_code
def yX8_in : MethodName := ⟨RX8, "in", "(III)Z"⟩
abbrev cX8_starts : ByteArray := prog_10_method_4_code
def yX8_starts : MethodName := ⟨RX8, "starts", "(I)V"⟩
abbrev cX8_begins : ByteArray := prog_10_method_5_code
def yX8_begins : MethodName := ⟨RX8, "begins", "()V"⟩
abbrev cX8_at : ByteArray := prog_10_method_6_code
def yX8_at : MethodName := ⟨RX8, "at", "(II)I"⟩
abbrev cX8_greatest : ByteArray := prog_10_method_7_code
def yX8_greatest : MethodName := ⟨RX8, "greatest", "(I)I"⟩
abbrev cX8_lays : ByteArray := prog_10_method_8_code
def yX8_lays : MethodName := ⟨RX8, "lays", "()V"⟩
abbrev cX8_admits : ByteArray := prog_10_method_9_code
def yX8_admits : MethodName := ⟨RX8, "admits", "()V"⟩
abbrev cX8_isAdmitted : ByteArray := prog_10_method_10_code
def yX8_isAdmitted : MethodName := ⟨RX8, "isAdmitted", "(I)Z"⟩
abbrev cX8_numberOf : ByteArray := prog_10_method_11_code
def yX8_numberOf : MethodName := ⟨RX8, "numberOf", "()I"⟩
abbrev cX8_takes : ByteArray := prog_10_method_12_code
def yX8_takes : MethodName := ⟨RX8, "takes", "(I)V"⟩
abbrev cX8_sizeOf : ByteArray := prog_10_method_13_code
def yX8_sizeOf : MethodName := ⟨RX8, "sizeOf", "(II)I"⟩
abbrev cX8_areCrossing : ByteArray := prog_10_method_14_code
def yX8_areCrossing : MethodName := ⟨RX8, "areCrossing", "(III)Z"⟩
abbrev cX8_firstCrossing : ByteArray := prog_10_method_15_code
def yX8_firstCrossing : MethodName := ⟨RX8, "firstCrossing", "(I)I"⟩
abbrev cX8_bitOf : ByteArray := prog_10_method_16_code
def yX8_bitOf : MethodName := ⟨RX8, "bitOf", "(II)I"⟩
abbrev cX8_firstPair : ByteArray := prog_10_method_17_code
def yX8_firstPair : MethodName := ⟨RX8, "firstPair", "(IIZ)I"⟩
abbrev cX8_firstSize : ByteArray := prog_10_method_18_code
def yX8_firstSize : MethodName := ⟨RX8, "firstSize", "(I)I"⟩
abbrev cX8_reason : ByteArray := prog_10_method_19_code
def yX8_reason : MethodName := ⟨RX8, "reason", "(I)I"⟩
abbrev cX8_placeOf : ByteArray := prog_10_method_20_code
def yX8_placeOf : MethodName := ⟨RX8, "placeOf", "(I)I"⟩
abbrev cX8_isBelow : ByteArray := prog_10_method_21_code
def yX8_isBelow : MethodName := ⟨RX8, "isBelow", "(II)Z"⟩
abbrev cX8_isStrictly : ByteArray := prog_10_method_22_code
def yX8_isStrictly : MethodName := ⟨RX8, "isStrictly", "(II)Z"⟩
abbrev cX8_rank : ByteArray := prog_10_method_23_code
def yX8_rank : MethodName := ⟨RX8, "rank", "(I)I"⟩
abbrev cX8_sets : ByteArray := prog_10_method_24_code
def yX8_sets : MethodName := ⟨RX8, "sets", "(II)I"⟩
abbrev cX8_setSize : ByteArray := prog_10_method_25_code
def yX8_setSize : MethodName := ⟨RX8, "setSize", "(I)I"⟩
abbrev cX8_setsBit : ByteArray := prog_10_method_26_code
def yX8_setsBit : MethodName := ⟨RX8, "setsBit", "(IIZ)I"⟩
abbrev cX8_allowSize : ByteArray := prog_10_method_27_code
def yX8_allowSize : MethodName := ⟨RX8, "allowSize", "(IZ)I"⟩
abbrev cX8_allowNumber : ByteArray := prog_10_method_28_code
def yX8_allowNumber : MethodName := ⟨RX8, "allowNumber", "(IZ)I"⟩
abbrev cX8_isElement : ByteArray := prog_10_method_29_code
def yX8_isElement : MethodName := ⟨RX8, "isElement", "(I)Z"⟩
abbrev cX8_isPair : ByteArray := prog_10_method_30_code
def yX8_isPair : MethodName := ⟨RX8, "isPair", "(II)Z"⟩
abbrev cX8_apart : ByteArray := prog_10_method_31_code
def yX8_apart : MethodName := ⟨RX8, "apart", "(IIZ)I"⟩
abbrev cX8_together : ByteArray := prog_10_method_32_code
def yX8_together : MethodName := ⟨RX8, "together", "(IIZ)I"⟩
abbrev cX8_noncrossing : ByteArray := prog_10_method_33_code
def yX8_noncrossing : MethodName := ⟨RX8, "noncrossing", "(Z)I"⟩
abbrev cX8_type : ByteArray := prog_10_method_34_code
def yX8_type : MethodName := ⟨RX8, "type", "(I)I"⟩
abbrev cX8_clear : ByteArray := prog_10_method_35_code
def yX8_clear : MethodName := ⟨RX8, "clear", "()I"⟩
abbrev cX8_isRegister : ByteArray := prog_10_method_36_code
def yX8_isRegister : MethodName := ⟨RX8, "isRegister", "(I)Z"⟩
abbrev cX8_held : ByteArray := prog_10_method_37_code
def yX8_held : MethodName := ⟨RX8, "held", "(I)I"⟩
abbrev cX8_puts : ByteArray := prog_10_method_38_code
def yX8_puts : MethodName := ⟨RX8, "puts", "(II)I"⟩
abbrev cX8_reads : ByteArray := prog_10_method_39_code
def yX8_reads : MethodName := ⟨RX8, "reads", "()I"⟩
abbrev cX8_read : ByteArray := prog_10_method_40_code
def yX8_read : MethodName := ⟨RX8, "read", "(I)I"⟩
abbrev cX8_finest : ByteArray := prog_10_method_41_code
def yX8_finest : MethodName := ⟨RX8, "finest", "(I)I"⟩
abbrev cX8_coarsest : ByteArray := prog_10_method_42_code
def yX8_coarsest : MethodName := ⟨RX8, "coarsest", "(I)I"⟩
abbrev cX8_wrong : ByteArray := prog_10_method_43_code
def yX8_wrong : MethodName := ⟨RX8, "wrong", "(I)I"⟩
abbrev cX8_wrongOf : ByteArray := prog_10_method_44_code
def yX8_wrongOf : MethodName := ⟨RX8, "wrongOf", "(II)I"⟩
abbrev cX8_copy : ByteArray := prog_10_method_45_code
def yX8_copy : MethodName := ⟨RX8, "copy", "(II)I"⟩
abbrev cX8_meet : ByteArray := prog_10_method_46_code
def yX8_meet : MethodName := ⟨RX8, "meet", "(III)I"⟩
abbrev cX8_merges : ByteArray := prog_10_method_47_code
def yX8_merges : MethodName := ⟨RX8, "merges", "(II)V"⟩
abbrev cX8_join : ByteArray := prog_10_method_48_code
def yX8_join : MethodName := ⟨RX8, "join", "(III)I"⟩
abbrev cX8_unite : ByteArray := prog_10_method_49_code
def yX8_unite : MethodName := ⟨RX8, "unite", "(III)I"⟩
abbrev cX8_isolate : ByteArray := prog_10_method_50_code
def yX8_isolate : MethodName := ⟨RX8, "isolate", "(II)I"⟩
abbrev cX8_changes : ByteArray := prog_10_method_51_code
def yX8_changes : MethodName := ⟨RX8, "changes", "(II)I"⟩
abbrev cX8_swap : ByteArray := prog_10_method_52_code
def yX8_swap : MethodName := ⟨RX8, "swap", "(III)I"⟩
abbrev cX8_rotate : ByteArray := prog_10_method_53_code
def yX8_rotate : MethodName := ⟨RX8, "rotate", "(I)I"⟩
abbrev cX8_isParted : ByteArray := prog_10_method_54_code
def yX8_isParted : MethodName := ⟨RX8, "isParted", "(III)Z"⟩
abbrev cX8_complement : ByteArray := prog_10_method_55_code
def yX8_complement : MethodName := ⟨RX8, "complement", "(II)I"⟩
abbrev cX8_admittedAt : ByteArray := prog_10_method_56_code
def yX8_admittedAt : MethodName := ⟨RX8, "admittedAt", "(I)I"⟩
abbrev cX8_unrank : ByteArray := prog_10_method_57_code
def yX8_unrank : MethodName := ⟨RX8, "unrank", "(II)I"⟩
abbrev cX8_nearest : ByteArray := prog_10_method_58_code
def yX8_nearest : MethodName := ⟨RX8, "nearest", "(II)I"⟩
abbrev cX8_steps : ByteArray := prog_10_method_59_code
def yX8_steps : MethodName := ⟨RX8, "steps", "(II)I"⟩
abbrev cX8_next : ByteArray := prog_10_method_60_code
def yX8_next : MethodName := ⟨RX8, "next", "(I)I"⟩
abbrev cX8_previous : ByteArray := prog_10_method_61_code
def yX8_previous : MethodName := ⟨RX8, "previous", "(I)I"⟩
abbrev cX8_draw : ByteArray := prog_10_method_62_code
def yX8_draw : MethodName := ⟨RX8, "draw", "(II)I"⟩
abbrev cX8_blocks : ByteArray := prog_10_method_63_code
def yX8_blocks : MethodName := ⟨RX8, "blocks", "(I)I"⟩
abbrev cX8_blockOf : ByteArray := prog_10_method_64_code
def yX8_blockOf : MethodName := ⟨RX8, "blockOf", "(II)I"⟩
abbrev cX8_block : ByteArray := prog_10_method_65_code
def yX8_block : MethodName := ⟨RX8, "block", "(II)I"⟩
abbrev cX8_typeOf : ByteArray := prog_10_method_66_code
def yX8_typeOf : MethodName := ⟨RX8, "typeOf", "(I)I"⟩
abbrev cX8_crossings : ByteArray := prog_10_method_67_code
def yX8_crossings : MethodName := ⟨RX8, "crossings", "(I)I"⟩
abbrev cX8_index : ByteArray := prog_10_method_68_code
def yX8_index : MethodName := ⟨RX8, "index", "(I)I"⟩
abbrev cX8_why : ByteArray := prog_10_method_69_code
def yX8_why : MethodName := ⟨RX8, "why", "(I)I"⟩
abbrev cX8_where : ByteArray := prog_10_method_70_code
def yX8_where : MethodName := ⟨RX8, "where", "(I)I"⟩
abbrev cX8_count : ByteArray := prog_10_method_71_code
def yX8_count : MethodName := ⟨RX8, "count", "()I"⟩
abbrev cX8_manyWith : ByteArray := prog_10_method_72_code
def yX8_manyWith : MethodName := ⟨RX8, "manyWith", "(I)I"⟩
abbrev cX8_countWith : ByteArray := prog_10_method_73_code
def yX8_countWith : MethodName := ⟨RX8, "countWith", "(I)I"⟩
abbrev cX8_below : ByteArray := prog_10_method_74_code
def yX8_below : MethodName := ⟨RX8, "below", "(II)I"⟩
abbrev cX8_isCover : ByteArray := prog_10_method_75_code
def yX8_isCover : MethodName := ⟨RX8, "isCover", "(II)Z"⟩
abbrev cX8_covers : ByteArray := prog_10_method_76_code
def yX8_covers : MethodName := ⟨RX8, "covers", "(IZ)I"⟩
abbrev cX8_isBound : ByteArray := prog_10_method_77_code
def yX8_isBound : MethodName := ⟨RX8, "isBound", "(IIIZ)Z"⟩
abbrev cX8_nearestBounds : ByteArray := prog_10_method_78_code
def yX8_nearestBounds : MethodName := ⟨RX8, "nearestBounds", "(IIZ)I"⟩
abbrev cX8_bounds : ByteArray := prog_10_method_79_code
def yX8_bounds : MethodName := ⟨RX8, "bounds", "(IIZ)I"⟩
abbrev cX8_bound : ByteArray := prog_10_method_80_code
def yX8_bound : MethodName := ⟨RX8, "bound", "(IIZI)I"⟩
abbrev cX8_isBetween : ByteArray := prog_10_method_81_code
def yX8_isBetween : MethodName := ⟨RX8, "isBetween", "(III)Z"⟩
abbrev cX8_interval : ByteArray := prog_10_method_82_code
def yX8_interval : MethodName := ⟨RX8, "interval", "(II)I"⟩
abbrev cX8_moebiuses : ByteArray := prog_10_method_83_code
def yX8_moebiuses : MethodName := ⟨RX8, "moebiuses", "(II)V"⟩
abbrev cX8_wrongAdmitted : ByteArray := prog_10_method_84_code
def yX8_wrongAdmitted : MethodName := ⟨RX8, "wrongAdmitted", "(II)I"⟩
abbrev cX8_moebius : ByteArray := prog_10_method_85_code
def yX8_moebius : MethodName := ⟨RX8, "moebius", "(II)J"⟩
abbrev cX8_extendsAll : ByteArray := prog_10_method_86_code
def yX8_extendsAll : MethodName := ⟨RX8, "extendsAll", "()V"⟩
abbrev cX8_single : ByteArray := prog_10_method_87_code
def yX8_single : MethodName := ⟨RX8, "single", "(I)V"⟩
abbrev cX8_chains : ByteArray := prog_10_method_88_code
def yX8_chains : MethodName := ⟨RX8, "chains", "(III)J"⟩
abbrev cX8_maximalChains : ByteArray := prog_10_method_89_code
def yX8_maximalChains : MethodName := ⟨RX8, "maximalChains", "(II)J"⟩
abbrev cX8_height : ByteArray := prog_10_method_90_code
def yX8_height : MethodName := ⟨RX8, "height", "(II)I"⟩
abbrev cX8_power : ByteArray := prog_10_method_91_code
def yX8_power : MethodName := ⟨RX8, "power", "(II)J"⟩
abbrev cX8_isBase : ByteArray := prog_10_method_92_code
def yX8_isBase : MethodName := ⟨RX8, "isBase", "(I)Z"⟩
abbrev cX8_rankSum : ByteArray := prog_10_method_93_code
def yX8_rankSum : MethodName := ⟨RX8, "rankSum", "(III)J"⟩
abbrev cX8_characteristic : ByteArray := prog_10_method_94_code
def yX8_characteristic : MethodName := ⟨RX8, "characteristic", "(III)J"⟩
abbrev cX8_common : ByteArray := prog_10_method_95_code
def yX8_common : MethodName := ⟨RX8, "common", "(IIII)I"⟩
abbrev cX8_most : ByteArray := prog_10_method_96_code
def yX8_most : MethodName := ⟨RX8, "most", "(II)I"⟩
abbrev cX8_transfers : ByteArray := prog_10_method_97_code
def yX8_transfers : MethodName := ⟨RX8, "transfers", "(II)I"⟩
abbrev cX8_unlike : ByteArray := prog_10_method_98_code
def yX8_unlike : MethodName := ⟨RX8, "unlike", "(II)I"⟩
abbrev cX8_disagreements : ByteArray := prog_10_method_99_code
def yX8_disagreements : MethodName := ⟨RX8, "disagreements", "(II)I"⟩
abbrev cX8_unlikeAll : ByteArray := prog_10_method_100_code
def yX8_unlikeAll : MethodName := ⟨RX8, "unlikeAll", "(II)I"⟩
abbrev cX8_median : ByteArray := prog_10_method_101_code
def yX8_median : MethodName := ⟨RX8, "median", "(II)I"⟩
abbrev cX8_undo : ByteArray := prog_10_method_102_code
def yX8_undo : MethodName := ⟨RX8, "undo", "()I"⟩
abbrev cX8_bits : ByteArray := prog_10_method_103_code
def yX8_bits : MethodName := ⟨RX8, "bits", "(I)I"⟩
abbrev cX8_full : ByteArray := prog_10_method_104_code
def yX8_full : MethodName := ⟨RX8, "full", "()I"⟩
abbrev cX8_told : ByteArray := prog_10_method_105_code
def yX8_told : MethodName := ⟨RX8, "told", "(I)I"⟩
abbrev cX8_digest : ByteArray := prog_10_method_106_code
def yX8_digest : MethodName := ⟨RX8, "digest", "()J"⟩
def RJ6 : String := "java/lang/Integer"
def TJ6 : u_T := fun k => match k with
  | _ => ("", "", "", false)
def tyJ6 : Nat → FieldType := fun k => match k with
  | _ => .int
abbrev wsJ60 : List Cond := u_ws RJ6 TJ6 0
theorem nmJ6 : ∀ a, a < 0 → ∀ b, b < 0 → a ≠ b → (TJ6 a).2.1 ≠ (TJ6 b).2.1 := by decide +kernel
theorem tyJ6_ok : ∀ k, k < 0 → parseFieldDescriptor (TJ6 k).2.2.1 = some (tyJ6 k) := by decide +kernel
abbrev cJ6_bitCount_0f7a4 : ByteArray := prog_11_method_49_code
def yJ6_bitCount_0f7a4 : MethodName := ⟨RJ6, "bitCount", "(I)I"⟩
def RJ9 : String := "java/lang/Math"
def TJ9 : u_T := fun k => match k with
  | _ => ("", "", "", false)
def tyJ9 : Nat → FieldType := fun k => match k with
  | _ => .int
abbrev wsJ90 : List Cond := u_ws RJ9 TJ9 0
theorem nmJ9 : ∀ a, a < 0 → ∀ b, b < 0 → a ≠ b → (TJ9 a).2.1 ≠ (TJ9 b).2.1 := by decide +kernel
theorem tyJ9_ok : ∀ k, k < 0 → parseFieldDescriptor (TJ9 k).2.2.1 = some (tyJ9 k) := by decide +kernel
abbrev cJ9_max_7cf53 : ByteArray := prog_12_method_65_code
def yJ9_max_7cf53 : MethodName := ⟨RJ9, "max", "(II)I"⟩
abbrev cJ9_max_f86c9 : ByteArray := prog_12_method_66_code
def yJ9_max_f86c9 : MethodName := ⟨RJ9, "max", "(JJ)J"⟩
abbrev cJ9_min_7cf53 : ByteArray := prog_12_method_69_code
def yJ9_min_7cf53 : MethodName := ⟨RJ9, "min", "(II)I"⟩
def RL : String := "PartitionPosetLaw"
abbrev cL_law : ByteArray := code
def yL_law : MethodName := ⟨RL, "law", "([I)Z"⟩
abbrev vwCl : List vw_C := [(RX0, TX0, 9), (RX1, TX1, 3), (RX2, TX2, 7), (RX3, TX3, 4), (RX4, TX4, 5), (RX5, TX5, 7), (RX6, TX6, 2), (RX7, TX7, 10), (RX8, TX8, 14)]
theorem inX0 : ∀ w ∈ wsX00, w ∈ lw_tbl := by decide +kernel
theorem inX1 : ∀ w ∈ wsX10, w ∈ lw_tbl := by decide +kernel
theorem inX2 : ∀ w ∈ wsX20, w ∈ lw_tbl := by decide +kernel
theorem inX3 : ∀ w ∈ wsX30, w ∈ lw_tbl := by decide +kernel
theorem inX4 : ∀ w ∈ wsX40, w ∈ lw_tbl := by decide +kernel
theorem inX5 : ∀ w ∈ wsX50, w ∈ lw_tbl := by decide +kernel
theorem inX6 : ∀ w ∈ wsX60, w ∈ lw_tbl := by decide +kernel
theorem inX7 : ∀ w ∈ wsX70, w ∈ lw_tbl := by decide +kernel
theorem inX8 : ∀ w ∈ wsX80, w ∈ lw_tbl := by decide +kernel
end
section
theorem dX0_init_0 : decode cX0_init 0 = .ok (.aload_n 0, 1) := by decide +kernel
theorem dX0_init_1 : decode cX0_init 1 = .ok (.invokespecial 3, 3) := by decide +kernel
theorem dX0_init_4 : decode cX0_init 4 = .ok (.aload_n 0, 1) := by decide +kernel
theorem dX0_init_5 : decode cX0_init 5 = .ok (.sipush 203, 3) := by decide +kernel
theorem dX0_init_8 : decode cX0_init 8 = .ok (.newarray .int, 2) := by decide +kernel
theorem dX0_init_10 : decode cX0_init 10 = .ok (.putfield 9, 3) := by decide +kernel
theorem dX0_init_13 : decode cX0_init 13 = .ok (.aload_n 0, 1) := by decide +kernel
theorem dX0_init_14 : decode cX0_init 14 = .ok (.sipush 203, 3) := by decide +kernel
theorem dX0_init_17 : decode cX0_init 17 = .ok (.newarray .int, 2) := by decide +kernel
theorem dX0_init_19 : decode cX0_init 19 = .ok (.putfield 15, 3) := by decide +kernel
theorem dX0_init_22 : decode cX0_init 22 = .ok (.aload_n 0, 1) := by decide +kernel
theorem dX0_init_23 : decode cX0_init 23 = .ok (.sipush 203, 3) := by decide +kernel
theorem dX0_init_26 : decode cX0_init 26 = .ok (.newarray .int, 2) := by decide +kernel
theorem dX0_init_28 : decode cX0_init 28 = .ok (.putfield 18, 3) := by decide +kernel
theorem dX0_init_31 : decode cX0_init 31 = .ok (.aload_n 0, 1) := by decide +kernel
theorem dX0_init_32 : decode cX0_init 32 = .ok (.sipush 203, 3) := by decide +kernel
theorem dX0_init_35 : decode cX0_init 35 = .ok (.newarray .int, 2) := by decide +kernel
theorem dX0_init_37 : decode cX0_init 37 = .ok (.putfield 21, 3) := by decide +kernel
theorem dX0_init_40 : decode cX0_init 40 = .ok (.aload_n 0, 1) := by decide +kernel
theorem dX0_init_41 : decode cX0_init 41 = .ok (.sipush 203, 3) := by decide +kernel
theorem dX0_init_44 : decode cX0_init 44 = .ok (.newarray .boolean, 2) := by decide +kernel
theorem dX0_init_46 : decode cX0_init 46 = .ok (.putfield 24, 3) := by decide +kernel
theorem dX0_init_49 : decode cX0_init 49 = .ok (.aload_n 0, 1) := by decide +kernel
theorem dX0_init_50 : decode cX0_init 50 = .ok (.bipush 6, 2) := by decide +kernel
theorem dX0_init_52 : decode cX0_init 52 = .ok (.newarray .int, 2) := by decide +kernel
theorem dX0_init_54 : decode cX0_init 54 = .ok (.putfield 28, 3) := by decide +kernel
theorem dX0_init_57 : decode cX0_init 57 = .ok (.aload_n 0, 1) := by decide +kernel
theorem dX0_init_58 : decode cX0_init 58 = .ok (.new 31, 3) := by decide +kernel
theorem dX0_init_61 : decode cX0_init 61 = .ok (.dup, 1) := by decide +kernel
theorem dX0_init_62 : decode cX0_init 62 = .ok (.invokespecial 33, 3) := by decide +kernel
theorem dX0_init_65 : decode cX0_init 65 = .ok (.putfield 34, 3) := by decide +kernel
theorem dX0_init_68 : decode cX0_init 68 = .ok (.return_, 1) := by decide +kernel
theorem dX0_fill_0 : decode cX0_fill 0 = .ok (.aload_n 0, 1) := by decide +kernel
theorem dX0_fill_1 : decode cX0_fill 1 = .ok (.getfield 38, 3) := by decide +kernel
theorem dX0_fill_4 : decode cX0_fill 4 = .ok (.iload_n 1, 1) := by decide +kernel
theorem dX0_fill_5 : decode cX0_fill 5 = .ok (.if_icmp .ne 4, 3) := by decide +kernel
theorem dX0_fill_8 : decode cX0_fill 8 = .ok (.return_, 1) := by decide +kernel
theorem dX0_fill_9 : decode cX0_fill 9 = .ok (.aload_n 0, 1) := by decide +kernel
theorem dX0_fill_10 : decode cX0_fill 10 = .ok (.iload_n 1, 1) := by decide +kernel
theorem dX0_fill_11 : decode cX0_fill 11 = .ok (.bipush 6, 2) := by decide +kernel
theorem dX0_fill_13 : decode cX0_fill 13 = .ok (.invokestatic 42, 3) := by decide +kernel
theorem dX0_fill_16 : decode cX0_fill 16 = .ok (.putfield 38, 3) := by decide +kernel
theorem dX0_fill_19 : decode cX0_fill 19 = .ok (.iconst 0, 1) := by decide +kernel
theorem dX0_fill_20 : decode cX0_fill 20 = .ok (.istore_n 2, 1) := by decide +kernel
theorem dX0_fill_21 : decode cX0_fill 21 = .ok (.iload_n 2, 1) := by decide +kernel
theorem dX0_fill_22 : decode cX0_fill 22 = .ok (.bipush 6, 2) := by decide +kernel
theorem dX0_fill_24 : decode cX0_fill 24 = .ok (.if_icmp .ge 16, 3) := by decide +kernel
theorem dX0_fill_27 : decode cX0_fill 27 = .ok (.aload_n 0, 1) := by decide +kernel
theorem dX0_fill_28 : decode cX0_fill 28 = .ok (.getfield 28, 3) := by decide +kernel
theorem dX0_fill_31 : decode cX0_fill 31 = .ok (.iload_n 2, 1) := by decide +kernel
theorem dX0_fill_32 : decode cX0_fill 32 = .ok (.iconst 0, 1) := by decide +kernel
theorem dX0_fill_33 : decode cX0_fill 33 = .ok (.iastore, 1) := by decide +kernel
theorem dX0_fill_34 : decode cX0_fill 34 = .ok (.iinc 2 1, 3) := by decide +kernel
theorem dX0_fill_37 : decode cX0_fill 37 = .ok (.goto (-16), 3) := by decide +kernel
theorem dX0_fill_40 : decode cX0_fill 40 = .ok (.iconst 1, 1) := by decide +kernel
theorem dX0_fill_41 : decode cX0_fill 41 = .ok (.istore_n 2, 1) := by decide +kernel
theorem dX0_fill_42 : decode cX0_fill 42 = .ok (.iconst 0, 1) := by decide +kernel
theorem dX0_fill_43 : decode cX0_fill 43 = .ok (.istore_n 3, 1) := by decide +kernel
theorem dX0_fill_44 : decode cX0_fill 44 = .ok (.iload_n 3, 1) := by decide +kernel
theorem dX0_fill_45 : decode cX0_fill 45 = .ok (.sipush 203, 3) := by decide +kernel
theorem dX0_fill_48 : decode cX0_fill 48 = .ok (.if_icmp .ge 30, 3) := by decide +kernel
theorem dX0_fill_51 : decode cX0_fill 51 = .ok (.iload_n 2, 1) := by decide +kernel
theorem dX0_fill_52 : decode cX0_fill 52 = .ok (.ifCond .eq 26, 3) := by decide +kernel
theorem dX0_fill_55 : decode cX0_fill 55 = .ok (.aload_n 0, 1) := by decide +kernel
theorem dX0_fill_56 : decode cX0_fill 56 = .ok (.iload_n 3, 1) := by decide +kernel
theorem dX0_fill_57 : decode cX0_fill 57 = .ok (.invokevirtual 48, 3) := by decide +kernel
theorem dX0_fill_60 : decode cX0_fill 60 = .ok (.aload_n 0, 1) := by decide +kernel
theorem dX0_fill_61 : decode cX0_fill 61 = .ok (.iload_n 3, 1) := by decide +kernel
theorem dX0_fill_62 : decode cX0_fill 62 = .ok (.iconst 1, 1) := by decide +kernel
theorem dX0_fill_63 : decode cX0_fill 63 = .ok (.iadd, 1) := by decide +kernel
theorem dX0_fill_64 : decode cX0_fill 64 = .ok (.putfield 52, 3) := by decide +kernel
theorem dX0_fill_67 : decode cX0_fill 67 = .ok (.aload_n 0, 1) := by decide +kernel
theorem dX0_fill_68 : decode cX0_fill 68 = .ok (.invokevirtual 55, 3) := by decide +kernel
theorem dX0_fill_71 : decode cX0_fill 71 = .ok (.istore_n 2, 1) := by decide +kernel
theorem dX0_fill_72 : decode cX0_fill 72 = .ok (.iinc 3 1, 3) := by decide +kernel
theorem dX0_fill_75 : decode cX0_fill 75 = .ok (.goto (-31), 3) := by decide +kernel
theorem dX0_fill_78 : decode cX0_fill 78 = .ok (.return_, 1) := by decide +kernel
theorem dX0_enter_0 : decode cX0_enter 0 = .ok (.aload_n 0, 1) := by decide +kernel
theorem dX0_enter_1 : decode cX0_enter 1 = .ok (.getfield 9, 3) := by decide +kernel
theorem dX0_enter_4 : decode cX0_enter 4 = .ok (.iload_n 1, 1) := by decide +kernel
theorem dX0_enter_5 : decode cX0_enter 5 = .ok (.aload_n 0, 1) := by decide +kernel
theorem dX0_enter_6 : decode cX0_enter 6 = .ok (.invokevirtual 59, 3) := by decide +kernel
theorem dX0_enter_9 : decode cX0_enter 9 = .ok (.iastore, 1) := by decide +kernel
theorem dX0_enter_10 : decode cX0_enter 10 = .ok (.aload_n 0, 1) := by decide +kernel
theorem dX0_enter_11 : decode cX0_enter 11 = .ok (.getfield 34, 3) := by decide +kernel
theorem dX0_enter_14 : decode cX0_enter 14 = .ok (.aload_n 0, 1) := by decide +kernel
theorem dX0_enter_15 : decode cX0_enter 15 = .ok (.getfield 9, 3) := by decide +kernel
theorem dX0_enter_18 : decode cX0_enter 18 = .ok (.iload_n 1, 1) := by decide +kernel
theorem dX0_enter_19 : decode cX0_enter 19 = .ok (.iaload, 1) := by decide +kernel
theorem dX0_enter_20 : decode cX0_enter 20 = .ok (.aload_n 0, 1) := by decide +kernel
theorem dX0_enter_21 : decode cX0_enter 21 = .ok (.getfield 38, 3) := by decide +kernel
theorem dX0_enter_24 : decode cX0_enter 24 = .ok (.invokevirtual 63, 3) := by decide +kernel
theorem dX0_enter_27 : decode cX0_enter 27 = .ok (.aload_n 0, 1) := by decide +kernel
theorem dX0_enter_28 : decode cX0_enter 28 = .ok (.getfield 15, 3) := by decide +kernel
theorem dX0_enter_31 : decode cX0_enter 31 = .ok (.iload_n 1, 1) := by decide +kernel
theorem dX0_enter_32 : decode cX0_enter 32 = .ok (.aload_n 0, 1) := by decide +kernel
theorem dX0_enter_33 : decode cX0_enter 33 = .ok (.getfield 34, 3) := by decide +kernel
theorem dX0_enter_36 : decode cX0_enter 36 = .ok (.invokevirtual 67, 3) := by decide +kernel
theorem dX0_enter_39 : decode cX0_enter 39 = .ok (.iastore, 1) := by decide +kernel
theorem dX0_enter_40 : decode cX0_enter 40 = .ok (.aload_n 0, 1) := by decide +kernel
theorem dX0_enter_41 : decode cX0_enter 41 = .ok (.getfield 18, 3) := by decide +kernel
theorem dX0_enter_44 : decode cX0_enter 44 = .ok (.iload_n 1, 1) := by decide +kernel
theorem dX0_enter_45 : decode cX0_enter 45 = .ok (.aload_n 0, 1) := by decide +kernel
theorem dX0_enter_46 : decode cX0_enter 46 = .ok (.getfield 34, 3) := by decide +kernel
theorem dX0_enter_49 : decode cX0_enter 49 = .ok (.invokevirtual 70, 3) := by decide +kernel
theorem dX0_enter_52 : decode cX0_enter 52 = .ok (.iastore, 1) := by decide +kernel
theorem dX0_enter_53 : decode cX0_enter 53 = .ok (.aload_n 0, 1) := by decide +kernel
theorem dX0_enter_54 : decode cX0_enter 54 = .ok (.getfield 21, 3) := by decide +kernel
theorem dX0_enter_57 : decode cX0_enter 57 = .ok (.iload_n 1, 1) := by decide +kernel
theorem dX0_enter_58 : decode cX0_enter 58 = .ok (.aload_n 0, 1) := by decide +kernel
theorem dX0_enter_59 : decode cX0_enter 59 = .ok (.getfield 34, 3) := by decide +kernel
theorem dX0_enter_62 : decode cX0_enter 62 = .ok (.getfield 73, 3) := by decide +kernel
theorem dX0_enter_65 : decode cX0_enter 65 = .ok (.iastore, 1) := by decide +kernel
theorem dX0_enter_66 : decode cX0_enter 66 = .ok (.aload_n 0, 1) := by decide +kernel
theorem dX0_enter_67 : decode cX0_enter 67 = .ok (.getfield 24, 3) := by decide +kernel
theorem dX0_enter_70 : decode cX0_enter 70 = .ok (.iload_n 1, 1) := by decide +kernel
theorem dX0_enter_71 : decode cX0_enter 71 = .ok (.aload_n 0, 1) := by decide +kernel
theorem dX0_enter_72 : decode cX0_enter 72 = .ok (.getfield 34, 3) := by decide +kernel
theorem dX0_enter_75 : decode cX0_enter 75 = .ok (.invokevirtual 76, 3) := by decide +kernel
theorem dX0_enter_78 : decode cX0_enter 78 = .ok (.bipush (-9), 2) := by decide +kernel
theorem dX0_enter_80 : decode cX0_enter 80 = .ok (.if_icmp .eq 7, 3) := by decide +kernel
theorem dX0_enter_83 : decode cX0_enter 83 = .ok (.iconst 1, 1) := by decide +kernel
theorem dX0_enter_84 : decode cX0_enter 84 = .ok (.goto 4, 3) := by decide +kernel
theorem dX0_enter_87 : decode cX0_enter 87 = .ok (.iconst 0, 1) := by decide +kernel
theorem dX0_enter_88 : decode cX0_enter 88 = .ok (.bastore, 1) := by decide +kernel
theorem dX0_enter_89 : decode cX0_enter 89 = .ok (.return_, 1) := by decide +kernel
theorem dX0_pairsOfGrowth_0 : decode cX0_pairsOfGrowth 0 = .ok (.iconst 0, 1) := by decide +kernel
theorem dX0_pairsOfGrowth_1 : decode cX0_pairsOfGrowth 1 = .ok (.istore_n 1, 1) := by decide +kernel
theorem dX0_pairsOfGrowth_2 : decode cX0_pairsOfGrowth 2 = .ok (.iconst 0, 1) := by decide +kernel
theorem dX0_pairsOfGrowth_3 : decode cX0_pairsOfGrowth 3 = .ok (.istore_n 2, 1) := by decide +kernel
theorem dX0_pairsOfGrowth_4 : decode cX0_pairsOfGrowth 4 = .ok (.iload_n 2, 1) := by decide +kernel
theorem dX0_pairsOfGrowth_5 : decode cX0_pairsOfGrowth 5 = .ok (.bipush 15, 2) := by decide +kernel
theorem dX0_pairsOfGrowth_7 : decode cX0_pairsOfGrowth 7 = .ok (.if_icmp .ge 50, 3) := by decide +kernel
theorem dX0_pairsOfGrowth_10 : decode cX0_pairsOfGrowth 10 = .ok (.getstatic 79, 3) := by decide +kernel
theorem dX0_pairsOfGrowth_13 : decode cX0_pairsOfGrowth 13 = .ok (.iload_n 2, 1) := by decide +kernel
theorem dX0_pairsOfGrowth_14 : decode cX0_pairsOfGrowth 14 = .ok (.iaload, 1) := by decide +kernel
theorem dX0_pairsOfGrowth_15 : decode cX0_pairsOfGrowth 15 = .ok (.aload_n 0, 1) := by decide +kernel
theorem dX0_pairsOfGrowth_16 : decode cX0_pairsOfGrowth 16 = .ok (.getfield 38, 3) := by decide +kernel
theorem dX0_pairsOfGrowth_19 : decode cX0_pairsOfGrowth 19 = .ok (.if_icmp .ge 32, 3) := by decide +kernel
theorem dX0_pairsOfGrowth_22 : decode cX0_pairsOfGrowth 22 = .ok (.aload_n 0, 1) := by decide +kernel
theorem dX0_pairsOfGrowth_23 : decode cX0_pairsOfGrowth 23 = .ok (.getfield 28, 3) := by decide +kernel
theorem dX0_pairsOfGrowth_26 : decode cX0_pairsOfGrowth 26 = .ok (.getstatic 82, 3) := by decide +kernel
theorem dX0_pairsOfGrowth_29 : decode cX0_pairsOfGrowth 29 = .ok (.iload_n 2, 1) := by decide +kernel
theorem dX0_pairsOfGrowth_30 : decode cX0_pairsOfGrowth 30 = .ok (.iaload, 1) := by decide +kernel
theorem dX0_pairsOfGrowth_31 : decode cX0_pairsOfGrowth 31 = .ok (.iaload, 1) := by decide +kernel
theorem dX0_pairsOfGrowth_32 : decode cX0_pairsOfGrowth 32 = .ok (.aload_n 0, 1) := by decide +kernel
theorem dX0_pairsOfGrowth_33 : decode cX0_pairsOfGrowth 33 = .ok (.getfield 28, 3) := by decide +kernel
theorem dX0_pairsOfGrowth_36 : decode cX0_pairsOfGrowth 36 = .ok (.getstatic 79, 3) := by decide +kernel
theorem dX0_pairsOfGrowth_39 : decode cX0_pairsOfGrowth 39 = .ok (.iload_n 2, 1) := by decide +kernel
theorem dX0_pairsOfGrowth_40 : decode cX0_pairsOfGrowth 40 = .ok (.iaload, 1) := by decide +kernel
theorem dX0_pairsOfGrowth_41 : decode cX0_pairsOfGrowth 41 = .ok (.iaload, 1) := by decide +kernel
theorem dX0_pairsOfGrowth_42 : decode cX0_pairsOfGrowth 42 = .ok (.if_icmp .ne 9, 3) := by decide +kernel
theorem dX0_pairsOfGrowth_45 : decode cX0_pairsOfGrowth 45 = .ok (.iload_n 1, 1) := by decide +kernel
theorem dX0_pairsOfGrowth_46 : decode cX0_pairsOfGrowth 46 = .ok (.iconst 1, 1) := by decide +kernel
theorem dX0_pairsOfGrowth_47 : decode cX0_pairsOfGrowth 47 = .ok (.iload_n 2, 1) := by decide +kernel
theorem dX0_pairsOfGrowth_48 : decode cX0_pairsOfGrowth 48 = .ok (.ishl, 1) := by decide +kernel
theorem dX0_pairsOfGrowth_49 : decode cX0_pairsOfGrowth 49 = .ok (.ior, 1) := by decide +kernel
theorem dX0_pairsOfGrowth_50 : decode cX0_pairsOfGrowth 50 = .ok (.istore_n 1, 1) := by decide +kernel
theorem dX0_pairsOfGrowth_51 : decode cX0_pairsOfGrowth 51 = .ok (.iinc 2 1, 3) := by decide +kernel
theorem dX0_pairsOfGrowth_54 : decode cX0_pairsOfGrowth 54 = .ok (.goto (-50), 3) := by decide +kernel
theorem dX0_pairsOfGrowth_57 : decode cX0_pairsOfGrowth 57 = .ok (.iload_n 1, 1) := by decide +kernel
theorem dX0_pairsOfGrowth_58 : decode cX0_pairsOfGrowth 58 = .ok (.ireturn, 1) := by decide +kernel
theorem dX0_advance_0 : decode cX0_advance 0 = .ok (.aload_n 0, 1) := by decide +kernel
theorem dX0_advance_1 : decode cX0_advance 1 = .ok (.getfield 38, 3) := by decide +kernel
theorem dX0_advance_4 : decode cX0_advance 4 = .ok (.iconst 1, 1) := by decide +kernel
theorem dX0_advance_5 : decode cX0_advance 5 = .ok (.isub, 1) := by decide +kernel
theorem dX0_advance_6 : decode cX0_advance 6 = .ok (.istore_n 1, 1) := by decide +kernel
theorem dX0_advance_7 : decode cX0_advance 7 = .ok (.iload_n 1, 1) := by decide +kernel
theorem dX0_advance_8 : decode cX0_advance 8 = .ok (.ifCond .le 42, 3) := by decide +kernel
theorem dX0_advance_11 : decode cX0_advance 11 = .ok (.aload_n 0, 1) := by decide +kernel
theorem dX0_advance_12 : decode cX0_advance 12 = .ok (.getfield 28, 3) := by decide +kernel
theorem dX0_advance_15 : decode cX0_advance 15 = .ok (.iload_n 1, 1) := by decide +kernel
theorem dX0_advance_16 : decode cX0_advance 16 = .ok (.iaload, 1) := by decide +kernel
theorem dX0_advance_17 : decode cX0_advance 17 = .ok (.aload_n 0, 1) := by decide +kernel
theorem dX0_advance_18 : decode cX0_advance 18 = .ok (.iload_n 1, 1) := by decide +kernel
theorem dX0_advance_19 : decode cX0_advance 19 = .ok (.invokevirtual 85, 3) := by decide +kernel
theorem dX0_advance_22 : decode cX0_advance 22 = .ok (.if_icmp .gt 15, 3) := by decide +kernel
theorem dX0_advance_25 : decode cX0_advance 25 = .ok (.aload_n 0, 1) := by decide +kernel
theorem dX0_advance_26 : decode cX0_advance 26 = .ok (.getfield 28, 3) := by decide +kernel
theorem dX0_advance_29 : decode cX0_advance 29 = .ok (.iload_n 1, 1) := by decide +kernel
theorem dX0_advance_30 : decode cX0_advance 30 = .ok (.dup2, 1) := by decide +kernel
theorem dX0_advance_31 : decode cX0_advance 31 = .ok (.iaload, 1) := by decide +kernel
theorem dX0_advance_32 : decode cX0_advance 32 = .ok (.iconst 1, 1) := by decide +kernel
theorem dX0_advance_33 : decode cX0_advance 33 = .ok (.iadd, 1) := by decide +kernel
theorem dX0_advance_34 : decode cX0_advance 34 = .ok (.iastore, 1) := by decide +kernel
theorem dX0_advance_35 : decode cX0_advance 35 = .ok (.iconst 1, 1) := by decide +kernel
theorem dX0_advance_36 : decode cX0_advance 36 = .ok (.ireturn, 1) := by decide +kernel
theorem dX0_advance_37 : decode cX0_advance 37 = .ok (.aload_n 0, 1) := by decide +kernel
theorem dX0_advance_38 : decode cX0_advance 38 = .ok (.getfield 28, 3) := by decide +kernel
theorem dX0_advance_41 : decode cX0_advance 41 = .ok (.iload_n 1, 1) := by decide +kernel
theorem dX0_advance_42 : decode cX0_advance 42 = .ok (.iconst 0, 1) := by decide +kernel
theorem dX0_advance_43 : decode cX0_advance 43 = .ok (.iastore, 1) := by decide +kernel
theorem dX0_advance_44 : decode cX0_advance 44 = .ok (.iinc 1 (-1), 3) := by decide +kernel
theorem dX0_advance_47 : decode cX0_advance 47 = .ok (.goto (-40), 3) := by decide +kernel
theorem dX0_advance_50 : decode cX0_advance 50 = .ok (.iconst 0, 1) := by decide +kernel
theorem dX0_advance_51 : decode cX0_advance 51 = .ok (.ireturn, 1) := by decide +kernel
theorem dX0_greatestBefore_0 : decode cX0_greatestBefore 0 = .ok (.iconst 0, 1) := by decide +kernel
theorem dX0_greatestBefore_1 : decode cX0_greatestBefore 1 = .ok (.istore_n 2, 1) := by decide +kernel
theorem dX0_greatestBefore_2 : decode cX0_greatestBefore 2 = .ok (.iconst 0, 1) := by decide +kernel
theorem dX0_greatestBefore_3 : decode cX0_greatestBefore 3 = .ok (.istore_n 3, 1) := by decide +kernel
theorem dX0_greatestBefore_4 : decode cX0_greatestBefore 4 = .ok (.iload_n 3, 1) := by decide +kernel
theorem dX0_greatestBefore_5 : decode cX0_greatestBefore 5 = .ok (.iload_n 1, 1) := by decide +kernel
theorem dX0_greatestBefore_6 : decode cX0_greatestBefore 6 = .ok (.if_icmp .ge 20, 3) := by decide +kernel
theorem dX0_greatestBefore_9 : decode cX0_greatestBefore 9 = .ok (.iload_n 2, 1) := by decide +kernel
theorem dX0_greatestBefore_10 : decode cX0_greatestBefore 10 = .ok (.aload_n 0, 1) := by decide +kernel
theorem dX0_greatestBefore_11 : decode cX0_greatestBefore 11 = .ok (.getfield 28, 3) := by decide +kernel
theorem dX0_greatestBefore_14 : decode cX0_greatestBefore 14 = .ok (.iload_n 3, 1) := by decide +kernel
theorem dX0_greatestBefore_15 : decode cX0_greatestBefore 15 = .ok (.iaload, 1) := by decide +kernel
theorem dX0_greatestBefore_16 : decode cX0_greatestBefore 16 = .ok (.invokestatic 89, 3) := by decide +kernel
theorem dX0_greatestBefore_19 : decode cX0_greatestBefore 19 = .ok (.istore_n 2, 1) := by decide +kernel
theorem dX0_greatestBefore_20 : decode cX0_greatestBefore 20 = .ok (.iinc 3 1, 3) := by decide +kernel
theorem dX0_greatestBefore_23 : decode cX0_greatestBefore 23 = .ok (.goto (-19), 3) := by decide +kernel
theorem dX0_greatestBefore_26 : decode cX0_greatestBefore 26 = .ok (.iload_n 2, 1) := by decide +kernel
theorem dX0_greatestBefore_27 : decode cX0_greatestBefore 27 = .ok (.ireturn, 1) := by decide +kernel
theorem dX0_closure_0 : decode cX0_closure 0 = .ok (.aload_n 0, 1) := by decide +kernel
theorem dX0_closure_1 : decode cX0_closure 1 = .ok (.getfield 52, 3) := by decide +kernel
theorem dX0_closure_4 : decode cX0_closure 4 = .ok (.iconst 1, 1) := by decide +kernel
theorem dX0_closure_5 : decode cX0_closure 5 = .ok (.isub, 1) := by decide +kernel
theorem dX0_closure_6 : decode cX0_closure 6 = .ok (.istore_n 2, 1) := by decide +kernel
theorem dX0_closure_7 : decode cX0_closure 7 = .ok (.iload_n 2, 1) := by decide +kernel
theorem dX0_closure_8 : decode cX0_closure 8 = .ok (.ifCond .lt 29, 3) := by decide +kernel
theorem dX0_closure_11 : decode cX0_closure 11 = .ok (.iload_n 1, 1) := by decide +kernel
theorem dX0_closure_12 : decode cX0_closure 12 = .ok (.aload_n 0, 1) := by decide +kernel
theorem dX0_closure_13 : decode cX0_closure 13 = .ok (.getfield 9, 3) := by decide +kernel
theorem dX0_closure_16 : decode cX0_closure 16 = .ok (.iload_n 2, 1) := by decide +kernel
theorem dX0_closure_17 : decode cX0_closure 17 = .ok (.iaload, 1) := by decide +kernel
theorem dX0_closure_18 : decode cX0_closure 18 = .ok (.invokestatic 92, 3) := by decide +kernel
theorem dX0_closure_21 : decode cX0_closure 21 = .ok (.ifCond .eq 10, 3) := by decide +kernel
theorem dX0_closure_24 : decode cX0_closure 24 = .ok (.aload_n 0, 1) := by decide +kernel
theorem dX0_closure_25 : decode cX0_closure 25 = .ok (.getfield 9, 3) := by decide +kernel
theorem dX0_closure_28 : decode cX0_closure 28 = .ok (.iload_n 2, 1) := by decide +kernel
theorem dX0_closure_29 : decode cX0_closure 29 = .ok (.iaload, 1) := by decide +kernel
theorem dX0_closure_30 : decode cX0_closure 30 = .ok (.ireturn, 1) := by decide +kernel
theorem dX0_closure_31 : decode cX0_closure 31 = .ok (.iinc 2 (-1), 3) := by decide +kernel
theorem dX0_closure_34 : decode cX0_closure 34 = .ok (.goto (-27), 3) := by decide +kernel
theorem dX0_closure_37 : decode cX0_closure 37 = .ok (.aload_n 0, 1) := by decide +kernel
theorem dX0_closure_38 : decode cX0_closure 38 = .ok (.getfield 38, 3) := by decide +kernel
theorem dX0_closure_41 : decode cX0_closure 41 = .ok (.invokestatic 96, 3) := by decide +kernel
theorem dX0_closure_44 : decode cX0_closure 44 = .ok (.ireturn, 1) := by decide +kernel
theorem dX1_init_0 : decode cX1_init 0 = .ok (.aload_n 0, 1) := by decide +kernel
theorem dX1_init_1 : decode cX1_init 1 = .ok (.invokespecial 3, 3) := by decide +kernel
theorem dX1_init_4 : decode cX1_init 4 = .ok (.aload_n 0, 1) := by decide +kernel
theorem dX1_init_5 : decode cX1_init 5 = .ok (.bipush 10, 2) := by decide +kernel
theorem dX1_init_7 : decode cX1_init 7 = .ok (.anewarray 9, 3) := by decide +kernel
theorem dX1_init_10 : decode cX1_init 10 = .ok (.putfield 11, 3) := by decide +kernel
theorem dX1_init_13 : decode cX1_init 13 = .ok (.iconst 0, 1) := by decide +kernel
theorem dX1_init_14 : decode cX1_init 14 = .ok (.istore_n 1, 1) := by decide +kernel
theorem dX1_init_15 : decode cX1_init 15 = .ok (.iload_n 1, 1) := by decide +kernel
theorem dX1_init_16 : decode cX1_init 16 = .ok (.bipush 10, 2) := by decide +kernel
theorem dX1_init_18 : decode cX1_init 18 = .ok (.if_icmp .ge 22, 3) := by decide +kernel
theorem dX1_init_21 : decode cX1_init 21 = .ok (.aload_n 0, 1) := by decide +kernel
theorem dX1_init_22 : decode cX1_init 22 = .ok (.getfield 11, 3) := by decide +kernel
theorem dX1_init_25 : decode cX1_init 25 = .ok (.iload_n 1, 1) := by decide +kernel
theorem dX1_init_26 : decode cX1_init 26 = .ok (.new 9, 3) := by decide +kernel
theorem dX1_init_29 : decode cX1_init 29 = .ok (.dup, 1) := by decide +kernel
theorem dX1_init_30 : decode cX1_init 30 = .ok (.invokespecial 17, 3) := by decide +kernel
theorem dX1_init_33 : decode cX1_init 33 = .ok (.aastore, 1) := by decide +kernel
theorem dX1_init_34 : decode cX1_init 34 = .ok (.iinc 1 1, 3) := by decide +kernel
theorem dX1_init_37 : decode cX1_init 37 = .ok (.goto (-22), 3) := by decide +kernel
theorem dX1_init_40 : decode cX1_init 40 = .ok (.return_, 1) := by decide +kernel
theorem dX1_remember_0 : decode cX1_remember 0 = .ok (.aload_n 0, 1) := by decide +kernel
theorem dX1_remember_1 : decode cX1_remember 1 = .ok (.getfield 11, 3) := by decide +kernel
theorem dX1_remember_4 : decode cX1_remember 4 = .ok (.aload_n 0, 1) := by decide +kernel
theorem dX1_remember_5 : decode cX1_remember 5 = .ok (.getfield 18, 3) := by decide +kernel
theorem dX1_remember_8 : decode cX1_remember 8 = .ok (.aaload, 1) := by decide +kernel
theorem dX1_remember_9 : decode cX1_remember 9 = .ok (.aload_n 1, 1) := by decide +kernel
theorem dX1_remember_10 : decode cX1_remember 10 = .ok (.invokevirtual 22, 3) := by decide +kernel
theorem dX1_remember_13 : decode cX1_remember 13 = .ok (.aload_n 0, 1) := by decide +kernel
theorem dX1_remember_14 : decode cX1_remember 14 = .ok (.aload_n 0, 1) := by decide +kernel
theorem dX1_remember_15 : decode cX1_remember 15 = .ok (.getfield 18, 3) := by decide +kernel
theorem dX1_remember_18 : decode cX1_remember 18 = .ok (.iconst 1, 1) := by decide +kernel
theorem dX1_remember_19 : decode cX1_remember 19 = .ok (.iadd, 1) := by decide +kernel
theorem dX1_remember_20 : decode cX1_remember 20 = .ok (.bipush 10, 2) := by decide +kernel
theorem dX1_remember_22 : decode cX1_remember 22 = .ok (.if_icmp .ge 12, 3) := by decide +kernel
theorem dX1_remember_25 : decode cX1_remember 25 = .ok (.aload_n 0, 1) := by decide +kernel
theorem dX1_remember_26 : decode cX1_remember 26 = .ok (.getfield 18, 3) := by decide +kernel
theorem dX1_remember_29 : decode cX1_remember 29 = .ok (.iconst 1, 1) := by decide +kernel
theorem dX1_remember_30 : decode cX1_remember 30 = .ok (.iadd, 1) := by decide +kernel
theorem dX1_remember_31 : decode cX1_remember 31 = .ok (.goto 4, 3) := by decide +kernel
theorem dX1_remember_34 : decode cX1_remember 34 = .ok (.iconst 0, 1) := by decide +kernel
theorem dX1_remember_35 : decode cX1_remember 35 = .ok (.putfield 18, 3) := by decide +kernel
theorem dX1_remember_38 : decode cX1_remember 38 = .ok (.aload_n 0, 1) := by decide +kernel
theorem dX1_remember_39 : decode cX1_remember 39 = .ok (.aload_n 0, 1) := by decide +kernel
theorem dX1_remember_40 : decode cX1_remember 40 = .ok (.getfield 26, 3) := by decide +kernel
theorem dX1_remember_43 : decode cX1_remember 43 = .ok (.iconst 1, 1) := by decide +kernel
theorem dX1_remember_44 : decode cX1_remember 44 = .ok (.iadd, 1) := by decide +kernel
theorem dX1_remember_45 : decode cX1_remember 45 = .ok (.bipush 10, 2) := by decide +kernel
theorem dX1_remember_47 : decode cX1_remember 47 = .ok (.invokestatic 29, 3) := by decide +kernel
theorem dX1_remember_50 : decode cX1_remember 50 = .ok (.putfield 26, 3) := by decide +kernel
theorem dX1_remember_53 : decode cX1_remember 53 = .ok (.return_, 1) := by decide +kernel
theorem dX1_restore_0 : decode cX1_restore 0 = .ok (.aload_n 0, 1) := by decide +kernel
theorem dX1_restore_1 : decode cX1_restore 1 = .ok (.getfield 26, 3) := by decide +kernel
theorem dX1_restore_4 : decode cX1_restore 4 = .ok (.ifCond .ne 5, 3) := by decide +kernel
theorem dX1_restore_7 : decode cX1_restore 7 = .ok (.iconst 0, 1) := by decide +kernel
theorem dX1_restore_8 : decode cX1_restore 8 = .ok (.ireturn, 1) := by decide +kernel
theorem dX1_restore_9 : decode cX1_restore 9 = .ok (.aload_n 0, 1) := by decide +kernel
theorem dX1_restore_10 : decode cX1_restore 10 = .ok (.aload_n 0, 1) := by decide +kernel
theorem dX1_restore_11 : decode cX1_restore 11 = .ok (.getfield 18, 3) := by decide +kernel
theorem dX1_restore_14 : decode cX1_restore 14 = .ok (.ifCond .le 12, 3) := by decide +kernel
theorem dX1_restore_17 : decode cX1_restore 17 = .ok (.aload_n 0, 1) := by decide +kernel
theorem dX1_restore_18 : decode cX1_restore 18 = .ok (.getfield 18, 3) := by decide +kernel
theorem dX1_restore_21 : decode cX1_restore 21 = .ok (.iconst 1, 1) := by decide +kernel
theorem dX1_restore_22 : decode cX1_restore 22 = .ok (.isub, 1) := by decide +kernel
theorem dX1_restore_23 : decode cX1_restore 23 = .ok (.goto 5, 3) := by decide +kernel
theorem dX1_restore_26 : decode cX1_restore 26 = .ok (.bipush 9, 2) := by decide +kernel
theorem dX1_restore_28 : decode cX1_restore 28 = .ok (.putfield 18, 3) := by decide +kernel
theorem dX1_restore_31 : decode cX1_restore 31 = .ok (.aload_n 0, 1) := by decide +kernel
theorem dX1_restore_32 : decode cX1_restore 32 = .ok (.dup, 1) := by decide +kernel
theorem dX1_restore_33 : decode cX1_restore 33 = .ok (.getfield 26, 3) := by decide +kernel
theorem dX1_restore_36 : decode cX1_restore 36 = .ok (.iconst 1, 1) := by decide +kernel
theorem dX1_restore_37 : decode cX1_restore 37 = .ok (.isub, 1) := by decide +kernel
theorem dX1_restore_38 : decode cX1_restore 38 = .ok (.putfield 26, 3) := by decide +kernel
theorem dX1_restore_41 : decode cX1_restore 41 = .ok (.aload_n 1, 1) := by decide +kernel
theorem dX1_restore_42 : decode cX1_restore 42 = .ok (.aload_n 0, 1) := by decide +kernel
theorem dX1_restore_43 : decode cX1_restore 43 = .ok (.getfield 11, 3) := by decide +kernel
theorem dX1_restore_46 : decode cX1_restore 46 = .ok (.aload_n 0, 1) := by decide +kernel
theorem dX1_restore_47 : decode cX1_restore 47 = .ok (.getfield 18, 3) := by decide +kernel
theorem dX1_restore_50 : decode cX1_restore 50 = .ok (.aaload, 1) := by decide +kernel
theorem dX1_restore_51 : decode cX1_restore 51 = .ok (.invokevirtual 22, 3) := by decide +kernel
theorem dX1_restore_54 : decode cX1_restore 54 = .ok (.iconst 1, 1) := by decide +kernel
theorem dX1_restore_55 : decode cX1_restore 55 = .ok (.ireturn, 1) := by decide +kernel
theorem dX2_init_0 : decode cX2_init 0 = .ok (.aload_n 0, 1) := by decide +kernel
theorem dX2_init_1 : decode cX2_init 1 = .ok (.invokespecial 3, 3) := by decide +kernel
theorem dX2_init_4 : decode cX2_init 4 = .ok (.aload_n 0, 1) := by decide +kernel
theorem dX2_init_5 : decode cX2_init 5 = .ok (.sipush 203, 3) := by decide +kernel
theorem dX2_init_8 : decode cX2_init 8 = .ok (.newarray .int, 2) := by decide +kernel
theorem dX2_init_10 : decode cX2_init 10 = .ok (.putfield 9, 3) := by decide +kernel
theorem dX2_init_13 : decode cX2_init 13 = .ok (.aload_n 0, 1) := by decide +kernel
theorem dX2_init_14 : decode cX2_init 14 = .ok (.sipush 203, 3) := by decide +kernel
theorem dX2_init_17 : decode cX2_init 17 = .ok (.newarray .int, 2) := by decide +kernel
theorem dX2_init_19 : decode cX2_init 19 = .ok (.putfield 15, 3) := by decide +kernel
theorem dX2_init_22 : decode cX2_init 22 = .ok (.aload_n 0, 1) := by decide +kernel
theorem dX2_init_23 : decode cX2_init 23 = .ok (.sipush 203, 3) := by decide +kernel
theorem dX2_init_26 : decode cX2_init 26 = .ok (.newarray .int, 2) := by decide +kernel
theorem dX2_init_28 : decode cX2_init 28 = .ok (.putfield 18, 3) := by decide +kernel
theorem dX2_init_31 : decode cX2_init 31 = .ok (.aload_n 0, 1) := by decide +kernel
theorem dX2_init_32 : decode cX2_init 32 = .ok (.bipush 7, 2) := by decide +kernel
theorem dX2_init_34 : decode cX2_init 34 = .ok (.newarray .int, 2) := by decide +kernel
theorem dX2_init_36 : decode cX2_init 36 = .ok (.putfield 21, 3) := by decide +kernel
theorem dX2_init_39 : decode cX2_init 39 = .ok (.aload_n 0, 1) := by decide +kernel
theorem dX2_init_40 : decode cX2_init 40 = .ok (.sipush 203, 3) := by decide +kernel
theorem dX2_init_43 : decode cX2_init 43 = .ok (.newarray .int, 2) := by decide +kernel
theorem dX2_init_45 : decode cX2_init 45 = .ok (.putfield 24, 3) := by decide +kernel
theorem dX2_init_48 : decode cX2_init 48 = .ok (.return_, 1) := by decide +kernel
theorem dX2_select_0 : decode cX2_select 0 = .ok (.aload_n 0, 1) := by decide +kernel
theorem dX2_select_1 : decode cX2_select 1 = .ok (.iconst 0, 1) := by decide +kernel
theorem dX2_select_2 : decode cX2_select 2 = .ok (.putfield 27, 3) := by decide +kernel
theorem dX2_select_5 : decode cX2_select 5 = .ok (.iconst 0, 1) := by decide +kernel
theorem dX2_select_6 : decode cX2_select 6 = .ok (.istore_n 3, 1) := by decide +kernel
theorem dX2_select_7 : decode cX2_select 7 = .ok (.iload_n 3, 1) := by decide +kernel
theorem dX2_select_8 : decode cX2_select 8 = .ok (.bipush 6, 2) := by decide +kernel
theorem dX2_select_10 : decode cX2_select 10 = .ok (.if_icmp .gt 16, 3) := by decide +kernel
theorem dX2_select_13 : decode cX2_select 13 = .ok (.aload_n 0, 1) := by decide +kernel
theorem dX2_select_14 : decode cX2_select 14 = .ok (.getfield 21, 3) := by decide +kernel
theorem dX2_select_17 : decode cX2_select 17 = .ok (.iload_n 3, 1) := by decide +kernel
theorem dX2_select_18 : decode cX2_select 18 = .ok (.iconst 0, 1) := by decide +kernel
theorem dX2_select_19 : decode cX2_select 19 = .ok (.iastore, 1) := by decide +kernel
theorem dX2_select_20 : decode cX2_select 20 = .ok (.iinc 3 1, 3) := by decide +kernel
theorem dX2_select_23 : decode cX2_select 23 = .ok (.goto (-16), 3) := by decide +kernel
theorem dX2_select_26 : decode cX2_select 26 = .ok (.iconst 0, 1) := by decide +kernel
theorem dX2_select_27 : decode cX2_select 27 = .ok (.istore_n 3, 1) := by decide +kernel
theorem dX2_select_28 : decode cX2_select 28 = .ok (.iload_n 3, 1) := by decide +kernel
theorem dX2_select_29 : decode cX2_select 29 = .ok (.aload_n 1, 1) := by decide +kernel
theorem dX2_select_30 : decode cX2_select 30 = .ok (.getfield 31, 3) := by decide +kernel
theorem dX2_select_33 : decode cX2_select 33 = .ok (.if_icmp .ge 110, 3) := by decide +kernel
theorem dX2_select_36 : decode cX2_select 36 = .ok (.aload_n 1, 1) := by decide +kernel
theorem dX2_select_37 : decode cX2_select 37 = .ok (.getfield 34, 3) := by decide +kernel
theorem dX2_select_40 : decode cX2_select 40 = .ok (.iload_n 3, 1) := by decide +kernel
theorem dX2_select_41 : decode cX2_select 41 = .ok (.iaload, 1) := by decide +kernel
theorem dX2_select_42 : decode cX2_select 42 = .ok (.istore 4, 2) := by decide +kernel
theorem dX2_select_44 : decode cX2_select 44 = .ok (.aload_n 2, 1) := by decide +kernel
theorem dX2_select_45 : decode cX2_select 45 = .ok (.aload_n 1, 1) := by decide +kernel
theorem dX2_select_46 : decode cX2_select 46 = .ok (.getfield 35, 3) := by decide +kernel
theorem dX2_select_49 : decode cX2_select 49 = .ok (.iload_n 3, 1) := by decide +kernel
theorem dX2_select_50 : decode cX2_select 50 = .ok (.iaload, 1) := by decide +kernel
theorem dX2_select_51 : decode cX2_select 51 = .ok (.aload_n 1, 1) := by decide +kernel
theorem dX2_select_52 : decode cX2_select 52 = .ok (.getfield 36, 3) := by decide +kernel
theorem dX2_select_55 : decode cX2_select 55 = .ok (.iload_n 3, 1) := by decide +kernel
theorem dX2_select_56 : decode cX2_select 56 = .ok (.iaload, 1) := by decide +kernel
theorem dX2_select_57 : decode cX2_select 57 = .ok (.iload 4, 2) := by decide +kernel
theorem dX2_select_59 : decode cX2_select 59 = .ok (.aload_n 1, 1) := by decide +kernel
theorem dX2_select_60 : decode cX2_select 60 = .ok (.getfield 39, 3) := by decide +kernel
theorem dX2_select_63 : decode cX2_select 63 = .ok (.iload_n 3, 1) := by decide +kernel
theorem dX2_select_64 : decode cX2_select 64 = .ok (.baload, 1) := by decide +kernel
theorem dX2_select_65 : decode cX2_select 65 = .ok (.invokevirtual 43, 3) := by decide +kernel
theorem dX2_select_68 : decode cX2_select 68 = .ok (.istore 5, 2) := by decide +kernel
theorem dX2_select_70 : decode cX2_select 70 = .ok (.iload 5, 2) := by decide +kernel
theorem dX2_select_72 : decode cX2_select 72 = .ok (.ifCond .ne 65, 3) := by decide +kernel
theorem dX2_select_75 : decode cX2_select 75 = .ok (.aload_n 0, 1) := by decide +kernel
theorem dX2_select_76 : decode cX2_select 76 = .ok (.getfield 9, 3) := by decide +kernel
theorem dX2_select_79 : decode cX2_select 79 = .ok (.aload_n 0, 1) := by decide +kernel
theorem dX2_select_80 : decode cX2_select 80 = .ok (.getfield 27, 3) := by decide +kernel
theorem dX2_select_83 : decode cX2_select 83 = .ok (.aload_n 1, 1) := by decide +kernel
theorem dX2_select_84 : decode cX2_select 84 = .ok (.getfield 35, 3) := by decide +kernel
theorem dX2_select_87 : decode cX2_select 87 = .ok (.iload_n 3, 1) := by decide +kernel
theorem dX2_select_88 : decode cX2_select 88 = .ok (.iaload, 1) := by decide +kernel
theorem dX2_select_89 : decode cX2_select 89 = .ok (.iastore, 1) := by decide +kernel
theorem dX2_select_90 : decode cX2_select 90 = .ok (.aload_n 0, 1) := by decide +kernel
theorem dX2_select_91 : decode cX2_select 91 = .ok (.getfield 15, 3) := by decide +kernel
theorem dX2_select_94 : decode cX2_select 94 = .ok (.aload_n 0, 1) := by decide +kernel
theorem dX2_select_95 : decode cX2_select 95 = .ok (.getfield 27, 3) := by decide +kernel
theorem dX2_select_98 : decode cX2_select 98 = .ok (.aload_n 1, 1) := by decide +kernel
theorem dX2_select_99 : decode cX2_select 99 = .ok (.getfield 49, 3) := by decide +kernel
theorem dX2_select_102 : decode cX2_select 102 = .ok (.iload_n 3, 1) := by decide +kernel
theorem dX2_select_103 : decode cX2_select 103 = .ok (.iaload, 1) := by decide +kernel
theorem dX2_select_104 : decode cX2_select 104 = .ok (.iastore, 1) := by decide +kernel
theorem dX2_select_105 : decode cX2_select 105 = .ok (.aload_n 0, 1) := by decide +kernel
theorem dX2_select_106 : decode cX2_select 106 = .ok (.getfield 18, 3) := by decide +kernel
theorem dX2_select_109 : decode cX2_select 109 = .ok (.aload_n 0, 1) := by decide +kernel
theorem dX2_select_110 : decode cX2_select 110 = .ok (.getfield 27, 3) := by decide +kernel
theorem dX2_select_113 : decode cX2_select 113 = .ok (.iload 4, 2) := by decide +kernel
theorem dX2_select_115 : decode cX2_select 115 = .ok (.iastore, 1) := by decide +kernel
theorem dX2_select_116 : decode cX2_select 116 = .ok (.aload_n 0, 1) := by decide +kernel
theorem dX2_select_117 : decode cX2_select 117 = .ok (.getfield 21, 3) := by decide +kernel
theorem dX2_select_120 : decode cX2_select 120 = .ok (.iload 4, 2) := by decide +kernel
theorem dX2_select_122 : decode cX2_select 122 = .ok (.dup2, 1) := by decide +kernel
theorem dX2_select_123 : decode cX2_select 123 = .ok (.iaload, 1) := by decide +kernel
theorem dX2_select_124 : decode cX2_select 124 = .ok (.iconst 1, 1) := by decide +kernel
theorem dX2_select_125 : decode cX2_select 125 = .ok (.iadd, 1) := by decide +kernel
theorem dX2_select_126 : decode cX2_select 126 = .ok (.iastore, 1) := by decide +kernel
theorem dX2_select_127 : decode cX2_select 127 = .ok (.aload_n 0, 1) := by decide +kernel
theorem dX2_select_128 : decode cX2_select 128 = .ok (.dup, 1) := by decide +kernel
theorem dX2_select_129 : decode cX2_select 129 = .ok (.getfield 27, 3) := by decide +kernel
theorem dX2_select_132 : decode cX2_select 132 = .ok (.iconst 1, 1) := by decide +kernel
theorem dX2_select_133 : decode cX2_select 133 = .ok (.iadd, 1) := by decide +kernel
theorem dX2_select_134 : decode cX2_select 134 = .ok (.putfield 27, 3) := by decide +kernel
theorem dX2_select_137 : decode cX2_select 137 = .ok (.iinc 3 1, 3) := by decide +kernel
theorem dX2_select_140 : decode cX2_select 140 = .ok (.goto (-112), 3) := by decide +kernel
theorem dX2_select_143 : decode cX2_select 143 = .ok (.return_, 1) := by decide +kernel
theorem dX2_has_0 : decode cX2_has 0 = .ok (.iload_n 1, 1) := by decide +kernel
theorem dX2_has_1 : decode cX2_has 1 = .ok (.ifCond .lt 15, 3) := by decide +kernel
theorem dX2_has_4 : decode cX2_has 4 = .ok (.iload_n 1, 1) := by decide +kernel
theorem dX2_has_5 : decode cX2_has 5 = .ok (.aload_n 0, 1) := by decide +kernel
theorem dX2_has_6 : decode cX2_has 6 = .ok (.getfield 27, 3) := by decide +kernel
theorem dX2_has_9 : decode cX2_has 9 = .ok (.if_icmp .ge 7, 3) := by decide +kernel
theorem dX2_has_12 : decode cX2_has 12 = .ok (.iconst 1, 1) := by decide +kernel
theorem dX2_has_13 : decode cX2_has 13 = .ok (.goto 4, 3) := by decide +kernel
theorem dX2_has_16 : decode cX2_has 16 = .ok (.iconst 0, 1) := by decide +kernel
theorem dX2_has_17 : decode cX2_has 17 = .ok (.ireturn, 1) := by decide +kernel
theorem dX2_find_0 : decode cX2_find 0 = .ok (.iconst 0, 1) := by decide +kernel
theorem dX2_find_1 : decode cX2_find 1 = .ok (.istore_n 2, 1) := by decide +kernel
theorem dX2_find_2 : decode cX2_find 2 = .ok (.iload_n 2, 1) := by decide +kernel
theorem dX2_find_3 : decode cX2_find 3 = .ok (.aload_n 0, 1) := by decide +kernel
theorem dX2_find_4 : decode cX2_find 4 = .ok (.getfield 27, 3) := by decide +kernel
theorem dX2_find_7 : decode cX2_find 7 = .ok (.if_icmp .ge 21, 3) := by decide +kernel
theorem dX2_find_10 : decode cX2_find 10 = .ok (.aload_n 0, 1) := by decide +kernel
theorem dX2_find_11 : decode cX2_find 11 = .ok (.getfield 9, 3) := by decide +kernel
theorem dX2_find_14 : decode cX2_find 14 = .ok (.iload_n 2, 1) := by decide +kernel
theorem dX2_find_15 : decode cX2_find 15 = .ok (.iaload, 1) := by decide +kernel
theorem dX2_find_16 : decode cX2_find 16 = .ok (.iload_n 1, 1) := by decide +kernel
theorem dX2_find_17 : decode cX2_find 17 = .ok (.if_icmp .ne 5, 3) := by decide +kernel
theorem dX2_find_20 : decode cX2_find 20 = .ok (.iload_n 2, 1) := by decide +kernel
theorem dX2_find_21 : decode cX2_find 21 = .ok (.ireturn, 1) := by decide +kernel
theorem dX2_find_22 : decode cX2_find 22 = .ok (.iinc 2 1, 3) := by decide +kernel
theorem dX2_find_25 : decode cX2_find 25 = .ok (.goto (-23), 3) := by decide +kernel
theorem dX2_find_28 : decode cX2_find 28 = .ok (.bipush (-9), 2) := by decide +kernel
theorem dX2_find_30 : decode cX2_find 30 = .ok (.ireturn, 1) := by decide +kernel
theorem dX2_firstBehind_0 : decode cX2_firstBehind 0 = .ok (.iconst 0, 1) := by decide +kernel
theorem dX2_firstBehind_1 : decode cX2_firstBehind 1 = .ok (.istore_n 2, 1) := by decide +kernel
theorem dX2_firstBehind_2 : decode cX2_firstBehind 2 = .ok (.iload_n 2, 1) := by decide +kernel
theorem dX2_firstBehind_3 : decode cX2_firstBehind 3 = .ok (.aload_n 0, 1) := by decide +kernel
theorem dX2_firstBehind_4 : decode cX2_firstBehind 4 = .ok (.getfield 27, 3) := by decide +kernel
theorem dX2_firstBehind_7 : decode cX2_firstBehind 7 = .ok (.if_icmp .ge 21, 3) := by decide +kernel
theorem dX2_firstBehind_10 : decode cX2_firstBehind 10 = .ok (.aload_n 0, 1) := by decide +kernel
theorem dX2_firstBehind_11 : decode cX2_firstBehind 11 = .ok (.getfield 15, 3) := by decide +kernel
theorem dX2_firstBehind_14 : decode cX2_firstBehind 14 = .ok (.iload_n 2, 1) := by decide +kernel
theorem dX2_firstBehind_15 : decode cX2_firstBehind 15 = .ok (.iaload, 1) := by decide +kernel
theorem dX2_firstBehind_16 : decode cX2_firstBehind 16 = .ok (.iload_n 1, 1) := by decide +kernel
theorem dX2_firstBehind_17 : decode cX2_firstBehind 17 = .ok (.if_icmp .le 5, 3) := by decide +kernel
theorem dX2_firstBehind_20 : decode cX2_firstBehind 20 = .ok (.iload_n 2, 1) := by decide +kernel
theorem dX2_firstBehind_21 : decode cX2_firstBehind 21 = .ok (.ireturn, 1) := by decide +kernel
theorem dX2_firstBehind_22 : decode cX2_firstBehind 22 = .ok (.iinc 2 1, 3) := by decide +kernel
theorem dX2_firstBehind_25 : decode cX2_firstBehind 25 = .ok (.goto (-23), 3) := by decide +kernel
theorem dX2_firstBehind_28 : decode cX2_firstBehind 28 = .ok (.bipush (-9), 2) := by decide +kernel
theorem dX2_firstBehind_30 : decode cX2_firstBehind 30 = .ok (.ireturn, 1) := by decide +kernel
theorem dX2_lastBefore_0 : decode cX2_lastBefore 0 = .ok (.aload_n 0, 1) := by decide +kernel
theorem dX2_lastBefore_1 : decode cX2_lastBefore 1 = .ok (.getfield 27, 3) := by decide +kernel
theorem dX2_lastBefore_4 : decode cX2_lastBefore 4 = .ok (.iconst 1, 1) := by decide +kernel
theorem dX2_lastBefore_5 : decode cX2_lastBefore 5 = .ok (.isub, 1) := by decide +kernel
theorem dX2_lastBefore_6 : decode cX2_lastBefore 6 = .ok (.istore_n 2, 1) := by decide +kernel
theorem dX2_lastBefore_7 : decode cX2_lastBefore 7 = .ok (.iload_n 2, 1) := by decide +kernel
theorem dX2_lastBefore_8 : decode cX2_lastBefore 8 = .ok (.ifCond .lt 21, 3) := by decide +kernel
theorem dX2_lastBefore_11 : decode cX2_lastBefore 11 = .ok (.aload_n 0, 1) := by decide +kernel
theorem dX2_lastBefore_12 : decode cX2_lastBefore 12 = .ok (.getfield 15, 3) := by decide +kernel
theorem dX2_lastBefore_15 : decode cX2_lastBefore 15 = .ok (.iload_n 2, 1) := by decide +kernel
theorem dX2_lastBefore_16 : decode cX2_lastBefore 16 = .ok (.iaload, 1) := by decide +kernel
theorem dX2_lastBefore_17 : decode cX2_lastBefore 17 = .ok (.iload_n 1, 1) := by decide +kernel
theorem dX2_lastBefore_18 : decode cX2_lastBefore 18 = .ok (.if_icmp .ge 5, 3) := by decide +kernel
theorem dX2_lastBefore_21 : decode cX2_lastBefore 21 = .ok (.iload_n 2, 1) := by decide +kernel
theorem dX2_lastBefore_22 : decode cX2_lastBefore 22 = .ok (.ireturn, 1) := by decide +kernel
theorem dX2_lastBefore_23 : decode cX2_lastBefore 23 = .ok (.iinc 2 (-1), 3) := by decide +kernel
theorem dX2_lastBefore_26 : decode cX2_lastBefore 26 = .ok (.goto (-19), 3) := by decide +kernel
theorem dX2_lastBefore_29 : decode cX2_lastBefore 29 = .ok (.bipush (-9), 2) := by decide +kernel
theorem dX2_lastBefore_31 : decode cX2_lastBefore 31 = .ok (.ireturn, 1) := by decide +kernel
theorem dX2_findNearest_0 : decode cX2_findNearest 0 = .ok (.aload_n 0, 1) := by decide +kernel
theorem dX2_findNearest_1 : decode cX2_findNearest 1 = .ok (.iconst 0, 1) := by decide +kernel
theorem dX2_findNearest_2 : decode cX2_findNearest 2 = .ok (.putfield 50, 3) := by decide +kernel
theorem dX2_findNearest_5 : decode cX2_findNearest 5 = .ok (.iconst 0, 1) := by decide +kernel
theorem dX2_findNearest_6 : decode cX2_findNearest 6 = .ok (.istore 4, 2) := by decide +kernel
theorem dX2_findNearest_8 : decode cX2_findNearest 8 = .ok (.iload 4, 2) := by decide +kernel
theorem dX2_findNearest_10 : decode cX2_findNearest 10 = .ok (.aload_n 0, 1) := by decide +kernel
theorem dX2_findNearest_11 : decode cX2_findNearest 11 = .ok (.getfield 27, 3) := by decide +kernel
theorem dX2_findNearest_14 : decode cX2_findNearest 14 = .ok (.if_icmp .ge 97, 3) := by decide +kernel
theorem dX2_findNearest_17 : decode cX2_findNearest 17 = .ok (.aload_n 0, 1) := by decide +kernel
theorem dX2_findNearest_18 : decode cX2_findNearest 18 = .ok (.getfield 9, 3) := by decide +kernel
theorem dX2_findNearest_21 : decode cX2_findNearest 21 = .ok (.iload_n 2, 1) := by decide +kernel
theorem dX2_findNearest_22 : decode cX2_findNearest 22 = .ok (.ifCond .eq 8, 3) := by decide +kernel
theorem dX2_findNearest_25 : decode cX2_findNearest 25 = .ok (.iload 4, 2) := by decide +kernel
theorem dX2_findNearest_27 : decode cX2_findNearest 27 = .ok (.goto 12, 3) := by decide +kernel
theorem dX2_findNearest_30 : decode cX2_findNearest 30 = .ok (.aload_n 0, 1) := by decide +kernel
theorem dX2_findNearest_31 : decode cX2_findNearest 31 = .ok (.getfield 27, 3) := by decide +kernel
theorem dX2_findNearest_34 : decode cX2_findNearest 34 = .ok (.iconst 1, 1) := by decide +kernel
theorem dX2_findNearest_35 : decode cX2_findNearest 35 = .ok (.isub, 1) := by decide +kernel
theorem dX2_findNearest_36 : decode cX2_findNearest 36 = .ok (.iload 4, 2) := by decide +kernel
theorem dX2_findNearest_38 : decode cX2_findNearest 38 = .ok (.isub, 1) := by decide +kernel
theorem dX2_findNearest_39 : decode cX2_findNearest 39 = .ok (.iaload, 1) := by decide +kernel
theorem dX2_findNearest_40 : decode cX2_findNearest 40 = .ok (.istore 5, 2) := by decide +kernel
theorem dX2_findNearest_42 : decode cX2_findNearest 42 = .ok (.iload_n 2, 1) := by decide +kernel
theorem dX2_findNearest_43 : decode cX2_findNearest 43 = .ok (.ifCond .eq 12, 3) := by decide +kernel
theorem dX2_findNearest_46 : decode cX2_findNearest 46 = .ok (.iload 5, 2) := by decide +kernel
theorem dX2_findNearest_48 : decode cX2_findNearest 48 = .ok (.iload_n 1, 1) := by decide +kernel
theorem dX2_findNearest_49 : decode cX2_findNearest 49 = .ok (.invokestatic 53, 3) := by decide +kernel
theorem dX2_findNearest_52 : decode cX2_findNearest 52 = .ok (.goto 9, 3) := by decide +kernel
theorem dX2_findNearest_55 : decode cX2_findNearest 55 = .ok (.iload_n 1, 1) := by decide +kernel
theorem dX2_findNearest_56 : decode cX2_findNearest 56 = .ok (.iload 5, 2) := by decide +kernel
theorem dX2_findNearest_58 : decode cX2_findNearest 58 = .ok (.invokestatic 53, 3) := by decide +kernel
theorem dX2_findNearest_61 : decode cX2_findNearest 61 = .ok (.istore 6, 2) := by decide +kernel
theorem dX2_findNearest_63 : decode cX2_findNearest 63 = .ok (.iload 6, 2) := by decide +kernel
theorem dX2_findNearest_65 : decode cX2_findNearest 65 = .ok (.ifCond .eq 40, 3) := by decide +kernel
theorem dX2_findNearest_68 : decode cX2_findNearest 68 = .ok (.iload 5, 2) := by decide +kernel
theorem dX2_findNearest_70 : decode cX2_findNearest 70 = .ok (.iload_n 3, 1) := by decide +kernel
theorem dX2_findNearest_71 : decode cX2_findNearest 71 = .ok (.if_icmp .eq 34, 3) := by decide +kernel
theorem dX2_findNearest_74 : decode cX2_findNearest 74 = .ok (.aload_n 0, 1) := by decide +kernel
theorem dX2_findNearest_75 : decode cX2_findNearest 75 = .ok (.iload 5, 2) := by decide +kernel
theorem dX2_findNearest_77 : decode cX2_findNearest 77 = .ok (.iload_n 2, 1) := by decide +kernel
theorem dX2_findNearest_78 : decode cX2_findNearest 78 = .ok (.invokevirtual 57, 3) := by decide +kernel
theorem dX2_findNearest_81 : decode cX2_findNearest 81 = .ok (.ifCond .ne 24, 3) := by decide +kernel
theorem dX2_findNearest_84 : decode cX2_findNearest 84 = .ok (.aload_n 0, 1) := by decide +kernel
theorem dX2_findNearest_85 : decode cX2_findNearest 85 = .ok (.getfield 24, 3) := by decide +kernel
theorem dX2_findNearest_88 : decode cX2_findNearest 88 = .ok (.aload_n 0, 1) := by decide +kernel
theorem dX2_findNearest_89 : decode cX2_findNearest 89 = .ok (.getfield 50, 3) := by decide +kernel
theorem dX2_findNearest_92 : decode cX2_findNearest 92 = .ok (.iload 5, 2) := by decide +kernel
theorem dX2_findNearest_94 : decode cX2_findNearest 94 = .ok (.iastore, 1) := by decide +kernel
theorem dX2_findNearest_95 : decode cX2_findNearest 95 = .ok (.aload_n 0, 1) := by decide +kernel
theorem dX2_findNearest_96 : decode cX2_findNearest 96 = .ok (.dup, 1) := by decide +kernel
theorem dX2_findNearest_97 : decode cX2_findNearest 97 = .ok (.getfield 50, 3) := by decide +kernel
theorem dX2_findNearest_100 : decode cX2_findNearest 100 = .ok (.iconst 1, 1) := by decide +kernel
theorem dX2_findNearest_101 : decode cX2_findNearest 101 = .ok (.iadd, 1) := by decide +kernel
theorem dX2_findNearest_102 : decode cX2_findNearest 102 = .ok (.putfield 50, 3) := by decide +kernel
theorem dX2_findNearest_105 : decode cX2_findNearest 105 = .ok (.iinc 4 1, 3) := by decide +kernel
theorem dX2_findNearest_108 : decode cX2_findNearest 108 = .ok (.goto (-100), 3) := by decide +kernel
theorem dX2_findNearest_111 : decode cX2_findNearest 111 = .ok (.return_, 1) := by decide +kernel
theorem dX2_isBehindNearest_0 : decode cX2_isBehindNearest 0 = .ok (.iconst 0, 1) := by decide +kernel
theorem dX2_isBehindNearest_1 : decode cX2_isBehindNearest 1 = .ok (.istore_n 3, 1) := by decide +kernel
theorem dX2_isBehindNearest_2 : decode cX2_isBehindNearest 2 = .ok (.iload_n 3, 1) := by decide +kernel
theorem dX2_isBehindNearest_3 : decode cX2_isBehindNearest 3 = .ok (.aload_n 0, 1) := by decide +kernel
theorem dX2_isBehindNearest_4 : decode cX2_isBehindNearest 4 = .ok (.getfield 50, 3) := by decide +kernel
theorem dX2_isBehindNearest_7 : decode cX2_isBehindNearest 7 = .ok (.if_icmp .ge 44, 3) := by decide +kernel
theorem dX2_isBehindNearest_10 : decode cX2_isBehindNearest 10 = .ok (.iload_n 2, 1) := by decide +kernel
theorem dX2_isBehindNearest_11 : decode cX2_isBehindNearest 11 = .ok (.ifCond .eq 19, 3) := by decide +kernel
theorem dX2_isBehindNearest_14 : decode cX2_isBehindNearest 14 = .ok (.iload_n 1, 1) := by decide +kernel
theorem dX2_isBehindNearest_15 : decode cX2_isBehindNearest 15 = .ok (.aload_n 0, 1) := by decide +kernel
theorem dX2_isBehindNearest_16 : decode cX2_isBehindNearest 16 = .ok (.getfield 24, 3) := by decide +kernel
theorem dX2_isBehindNearest_19 : decode cX2_isBehindNearest 19 = .ok (.iload_n 3, 1) := by decide +kernel
theorem dX2_isBehindNearest_20 : decode cX2_isBehindNearest 20 = .ok (.iaload, 1) := by decide +kernel
theorem dX2_isBehindNearest_21 : decode cX2_isBehindNearest 21 = .ok (.invokestatic 53, 3) := by decide +kernel
theorem dX2_isBehindNearest_24 : decode cX2_isBehindNearest 24 = .ok (.ifCond .eq 21, 3) := by decide +kernel
theorem dX2_isBehindNearest_27 : decode cX2_isBehindNearest 27 = .ok (.goto 16, 3) := by decide +kernel
theorem dX2_isBehindNearest_30 : decode cX2_isBehindNearest 30 = .ok (.aload_n 0, 1) := by decide +kernel
theorem dX2_isBehindNearest_31 : decode cX2_isBehindNearest 31 = .ok (.getfield 24, 3) := by decide +kernel
theorem dX2_isBehindNearest_34 : decode cX2_isBehindNearest 34 = .ok (.iload_n 3, 1) := by decide +kernel
theorem dX2_isBehindNearest_35 : decode cX2_isBehindNearest 35 = .ok (.iaload, 1) := by decide +kernel
theorem dX2_isBehindNearest_36 : decode cX2_isBehindNearest 36 = .ok (.iload_n 1, 1) := by decide +kernel
theorem dX2_isBehindNearest_37 : decode cX2_isBehindNearest 37 = .ok (.invokestatic 53, 3) := by decide +kernel
theorem dX2_isBehindNearest_40 : decode cX2_isBehindNearest 40 = .ok (.ifCond .eq 5, 3) := by decide +kernel
theorem dX2_isBehindNearest_43 : decode cX2_isBehindNearest 43 = .ok (.iconst 1, 1) := by decide +kernel
theorem dX2_isBehindNearest_44 : decode cX2_isBehindNearest 44 = .ok (.ireturn, 1) := by decide +kernel
theorem dX2_isBehindNearest_45 : decode cX2_isBehindNearest 45 = .ok (.iinc 3 1, 3) := by decide +kernel
theorem dX2_isBehindNearest_48 : decode cX2_isBehindNearest 48 = .ok (.goto (-46), 3) := by decide +kernel
theorem dX2_isBehindNearest_51 : decode cX2_isBehindNearest 51 = .ok (.iconst 0, 1) := by decide +kernel
theorem dX2_isBehindNearest_52 : decode cX2_isBehindNearest 52 = .ok (.ireturn, 1) := by decide +kernel
theorem dX3_init_0 : decode cX3_init 0 = .ok (.aload_n 0, 1) := by decide +kernel
theorem dX3_init_1 : decode cX3_init 1 = .ok (.invokespecial 3, 3) := by decide +kernel
theorem dX3_init_4 : decode cX3_init 4 = .ok (.aload_n 0, 1) := by decide +kernel
theorem dX3_init_5 : decode cX3_init 5 = .ok (.bipush 6, 2) := by decide +kernel
theorem dX3_init_7 : decode cX3_init 7 = .ok (.newarray .int, 2) := by decide +kernel
theorem dX3_init_9 : decode cX3_init 9 = .ok (.putfield 9, 3) := by decide +kernel
theorem dX3_init_12 : decode cX3_init 12 = .ok (.aload_n 0, 1) := by decide +kernel
theorem dX3_init_13 : decode cX3_init 13 = .ok (.bipush 6, 2) := by decide +kernel
theorem dX3_init_15 : decode cX3_init 15 = .ok (.newarray .int, 2) := by decide +kernel
theorem dX3_init_17 : decode cX3_init 17 = .ok (.putfield 15, 3) := by decide +kernel
theorem dX3_init_20 : decode cX3_init 20 = .ok (.return_, 1) := by decide +kernel
theorem dX3_spell_0 : decode cX3_spell 0 = .ok (.aload_n 0, 1) := by decide +kernel
theorem dX3_spell_1 : decode cX3_spell 1 = .ok (.iload_n 2, 1) := by decide +kernel
theorem dX3_spell_2 : decode cX3_spell 2 = .ok (.bipush 6, 2) := by decide +kernel
theorem dX3_spell_4 : decode cX3_spell 4 = .ok (.invokestatic 18, 3) := by decide +kernel
theorem dX3_spell_7 : decode cX3_spell 7 = .ok (.putfield 24, 3) := by decide +kernel
theorem dX3_spell_10 : decode cX3_spell 10 = .ok (.aload_n 0, 1) := by decide +kernel
theorem dX3_spell_11 : decode cX3_spell 11 = .ok (.iconst 0, 1) := by decide +kernel
theorem dX3_spell_12 : decode cX3_spell 12 = .ok (.putfield 28, 3) := by decide +kernel
theorem dX3_spell_15 : decode cX3_spell 15 = .ok (.iconst 0, 1) := by decide +kernel
theorem dX3_spell_16 : decode cX3_spell 16 = .ok (.istore_n 3, 1) := by decide +kernel
theorem dX3_spell_17 : decode cX3_spell 17 = .ok (.iload_n 3, 1) := by decide +kernel
theorem dX3_spell_18 : decode cX3_spell 18 = .ok (.aload_n 0, 1) := by decide +kernel
theorem dX3_spell_19 : decode cX3_spell 19 = .ok (.getfield 24, 3) := by decide +kernel
theorem dX3_spell_22 : decode cX3_spell 22 = .ok (.if_icmp .ge 65, 3) := by decide +kernel
theorem dX3_spell_25 : decode cX3_spell 25 = .ok (.aload_n 0, 1) := by decide +kernel
theorem dX3_spell_26 : decode cX3_spell 26 = .ok (.iload_n 1, 1) := by decide +kernel
theorem dX3_spell_27 : decode cX3_spell 27 = .ok (.iload_n 3, 1) := by decide +kernel
theorem dX3_spell_28 : decode cX3_spell 28 = .ok (.invokevirtual 31, 3) := by decide +kernel
theorem dX3_spell_31 : decode cX3_spell 31 = .ok (.istore 4, 2) := by decide +kernel
theorem dX3_spell_33 : decode cX3_spell 33 = .ok (.iload 4, 2) := by decide +kernel
theorem dX3_spell_35 : decode cX3_spell 35 = .ok (.aload_n 0, 1) := by decide +kernel
theorem dX3_spell_36 : decode cX3_spell 36 = .ok (.getfield 28, 3) := by decide +kernel
theorem dX3_spell_39 : decode cX3_spell 39 = .ok (.if_icmp .ne 21, 3) := by decide +kernel
theorem dX3_spell_42 : decode cX3_spell 42 = .ok (.aload_n 0, 1) := by decide +kernel
theorem dX3_spell_43 : decode cX3_spell 43 = .ok (.getfield 15, 3) := by decide +kernel
theorem dX3_spell_46 : decode cX3_spell 46 = .ok (.iload 4, 2) := by decide +kernel
theorem dX3_spell_48 : decode cX3_spell 48 = .ok (.iconst 0, 1) := by decide +kernel
theorem dX3_spell_49 : decode cX3_spell 49 = .ok (.iastore, 1) := by decide +kernel
theorem dX3_spell_50 : decode cX3_spell 50 = .ok (.aload_n 0, 1) := by decide +kernel
theorem dX3_spell_51 : decode cX3_spell 51 = .ok (.dup, 1) := by decide +kernel
theorem dX3_spell_52 : decode cX3_spell 52 = .ok (.getfield 28, 3) := by decide +kernel
theorem dX3_spell_55 : decode cX3_spell 55 = .ok (.iconst 1, 1) := by decide +kernel
theorem dX3_spell_56 : decode cX3_spell 56 = .ok (.iadd, 1) := by decide +kernel
theorem dX3_spell_57 : decode cX3_spell 57 = .ok (.putfield 28, 3) := by decide +kernel
theorem dX3_spell_60 : decode cX3_spell 60 = .ok (.aload_n 0, 1) := by decide +kernel
theorem dX3_spell_61 : decode cX3_spell 61 = .ok (.getfield 9, 3) := by decide +kernel
theorem dX3_spell_64 : decode cX3_spell 64 = .ok (.iload_n 3, 1) := by decide +kernel
theorem dX3_spell_65 : decode cX3_spell 65 = .ok (.iload 4, 2) := by decide +kernel
theorem dX3_spell_67 : decode cX3_spell 67 = .ok (.iastore, 1) := by decide +kernel
theorem dX3_spell_68 : decode cX3_spell 68 = .ok (.aload_n 0, 1) := by decide +kernel
theorem dX3_spell_69 : decode cX3_spell 69 = .ok (.getfield 15, 3) := by decide +kernel
theorem dX3_spell_72 : decode cX3_spell 72 = .ok (.iload 4, 2) := by decide +kernel
theorem dX3_spell_74 : decode cX3_spell 74 = .ok (.dup2, 1) := by decide +kernel
theorem dX3_spell_75 : decode cX3_spell 75 = .ok (.iaload, 1) := by decide +kernel
theorem dX3_spell_76 : decode cX3_spell 76 = .ok (.iconst 1, 1) := by decide +kernel
theorem dX3_spell_77 : decode cX3_spell 77 = .ok (.iload_n 3, 1) := by decide +kernel
theorem dX3_spell_78 : decode cX3_spell 78 = .ok (.ishl, 1) := by decide +kernel
theorem dX3_spell_79 : decode cX3_spell 79 = .ok (.ior, 1) := by decide +kernel
theorem dX3_spell_80 : decode cX3_spell 80 = .ok (.iastore, 1) := by decide +kernel
theorem dX3_spell_81 : decode cX3_spell 81 = .ok (.iinc 3 1, 3) := by decide +kernel
theorem dX3_spell_84 : decode cX3_spell 84 = .ok (.goto (-67), 3) := by decide +kernel
theorem dX3_spell_87 : decode cX3_spell 87 = .ok (.return_, 1) := by decide +kernel
theorem dX3_labelOfPartner_0 : decode cX3_labelOfPartner 0 = .ok (.iconst 0, 1) := by decide +kernel
theorem dX3_labelOfPartner_1 : decode cX3_labelOfPartner 1 = .ok (.istore_n 3, 1) := by decide +kernel
theorem dX3_labelOfPartner_2 : decode cX3_labelOfPartner 2 = .ok (.iload_n 3, 1) := by decide +kernel
theorem dX3_labelOfPartner_3 : decode cX3_labelOfPartner 3 = .ok (.iload_n 2, 1) := by decide +kernel
theorem dX3_labelOfPartner_4 : decode cX3_labelOfPartner 4 = .ok (.if_icmp .ge 26, 3) := by decide +kernel
theorem dX3_labelOfPartner_7 : decode cX3_labelOfPartner 7 = .ok (.iload_n 1, 1) := by decide +kernel
theorem dX3_labelOfPartner_8 : decode cX3_labelOfPartner 8 = .ok (.iload_n 3, 1) := by decide +kernel
theorem dX3_labelOfPartner_9 : decode cX3_labelOfPartner 9 = .ok (.iload_n 2, 1) := by decide +kernel
theorem dX3_labelOfPartner_10 : decode cX3_labelOfPartner 10 = .ok (.invokestatic 34, 3) := by decide +kernel
theorem dX3_labelOfPartner_13 : decode cX3_labelOfPartner 13 = .ok (.iand, 1) := by decide +kernel
theorem dX3_labelOfPartner_14 : decode cX3_labelOfPartner 14 = .ok (.ifCond .eq 10, 3) := by decide +kernel
theorem dX3_labelOfPartner_17 : decode cX3_labelOfPartner 17 = .ok (.aload_n 0, 1) := by decide +kernel
theorem dX3_labelOfPartner_18 : decode cX3_labelOfPartner 18 = .ok (.getfield 9, 3) := by decide +kernel
theorem dX3_labelOfPartner_21 : decode cX3_labelOfPartner 21 = .ok (.iload_n 3, 1) := by decide +kernel
theorem dX3_labelOfPartner_22 : decode cX3_labelOfPartner 22 = .ok (.iaload, 1) := by decide +kernel
theorem dX3_labelOfPartner_23 : decode cX3_labelOfPartner 23 = .ok (.ireturn, 1) := by decide +kernel
theorem dX3_labelOfPartner_24 : decode cX3_labelOfPartner 24 = .ok (.iinc 3 1, 3) := by decide +kernel
theorem dX3_labelOfPartner_27 : decode cX3_labelOfPartner 27 = .ok (.goto (-25), 3) := by decide +kernel
theorem dX3_labelOfPartner_30 : decode cX3_labelOfPartner 30 = .ok (.aload_n 0, 1) := by decide +kernel
theorem dX3_labelOfPartner_31 : decode cX3_labelOfPartner 31 = .ok (.getfield 28, 3) := by decide +kernel
theorem dX3_labelOfPartner_34 : decode cX3_labelOfPartner 34 = .ok (.ireturn, 1) := by decide +kernel
theorem dX3_growthNumber_0 : decode cX3_growthNumber 0 = .ok (.iconst 0, 1) := by decide +kernel
theorem dX3_growthNumber_1 : decode cX3_growthNumber 1 = .ok (.istore_n 1, 1) := by decide +kernel
theorem dX3_growthNumber_2 : decode cX3_growthNumber 2 = .ok (.iconst 0, 1) := by decide +kernel
theorem dX3_growthNumber_3 : decode cX3_growthNumber 3 = .ok (.istore_n 2, 1) := by decide +kernel
theorem dX3_growthNumber_4 : decode cX3_growthNumber 4 = .ok (.iload_n 2, 1) := by decide +kernel
theorem dX3_growthNumber_5 : decode cX3_growthNumber 5 = .ok (.aload_n 0, 1) := by decide +kernel
theorem dX3_growthNumber_6 : decode cX3_growthNumber 6 = .ok (.getfield 24, 3) := by decide +kernel
theorem dX3_growthNumber_9 : decode cX3_growthNumber 9 = .ok (.if_icmp .ge 21, 3) := by decide +kernel
theorem dX3_growthNumber_12 : decode cX3_growthNumber 12 = .ok (.iload_n 1, 1) := by decide +kernel
theorem dX3_growthNumber_13 : decode cX3_growthNumber 13 = .ok (.bipush 6, 2) := by decide +kernel
theorem dX3_growthNumber_15 : decode cX3_growthNumber 15 = .ok (.imul, 1) := by decide +kernel
theorem dX3_growthNumber_16 : decode cX3_growthNumber 16 = .ok (.aload_n 0, 1) := by decide +kernel
theorem dX3_growthNumber_17 : decode cX3_growthNumber 17 = .ok (.getfield 9, 3) := by decide +kernel
theorem dX3_growthNumber_20 : decode cX3_growthNumber 20 = .ok (.iload_n 2, 1) := by decide +kernel
theorem dX3_growthNumber_21 : decode cX3_growthNumber 21 = .ok (.iaload, 1) := by decide +kernel
theorem dX3_growthNumber_22 : decode cX3_growthNumber 22 = .ok (.iadd, 1) := by decide +kernel
theorem dX3_growthNumber_23 : decode cX3_growthNumber 23 = .ok (.istore_n 1, 1) := by decide +kernel
theorem dX3_growthNumber_24 : decode cX3_growthNumber 24 = .ok (.iinc 2 1, 3) := by decide +kernel
theorem dX3_growthNumber_27 : decode cX3_growthNumber 27 = .ok (.goto (-23), 3) := by decide +kernel
theorem dX3_growthNumber_30 : decode cX3_growthNumber 30 = .ok (.iload_n 1, 1) := by decide +kernel
theorem dX3_growthNumber_31 : decode cX3_growthNumber 31 = .ok (.ireturn, 1) := by decide +kernel
theorem dX3_sizeSet_0 : decode cX3_sizeSet 0 = .ok (.iconst 0, 1) := by decide +kernel
theorem dX3_sizeSet_1 : decode cX3_sizeSet 1 = .ok (.istore_n 1, 1) := by decide +kernel
theorem dX3_sizeSet_2 : decode cX3_sizeSet 2 = .ok (.iconst 0, 1) := by decide +kernel
theorem dX3_sizeSet_3 : decode cX3_sizeSet 3 = .ok (.istore_n 2, 1) := by decide +kernel
theorem dX3_sizeSet_4 : decode cX3_sizeSet 4 = .ok (.iload_n 2, 1) := by decide +kernel
theorem dX3_sizeSet_5 : decode cX3_sizeSet 5 = .ok (.aload_n 0, 1) := by decide +kernel
theorem dX3_sizeSet_6 : decode cX3_sizeSet 6 = .ok (.getfield 28, 3) := by decide +kernel
theorem dX3_sizeSet_9 : decode cX3_sizeSet 9 = .ok (.if_icmp .ge 23, 3) := by decide +kernel
theorem dX3_sizeSet_12 : decode cX3_sizeSet 12 = .ok (.iload_n 1, 1) := by decide +kernel
theorem dX3_sizeSet_13 : decode cX3_sizeSet 13 = .ok (.iconst 1, 1) := by decide +kernel
theorem dX3_sizeSet_14 : decode cX3_sizeSet 14 = .ok (.aload_n 0, 1) := by decide +kernel
theorem dX3_sizeSet_15 : decode cX3_sizeSet 15 = .ok (.getfield 15, 3) := by decide +kernel
theorem dX3_sizeSet_18 : decode cX3_sizeSet 18 = .ok (.iload_n 2, 1) := by decide +kernel
theorem dX3_sizeSet_19 : decode cX3_sizeSet 19 = .ok (.iaload, 1) := by decide +kernel
theorem dX3_sizeSet_20 : decode cX3_sizeSet 20 = .ok (.invokestatic 37, 3) := by decide +kernel
theorem dX3_sizeSet_23 : decode cX3_sizeSet 23 = .ok (.ishl, 1) := by decide +kernel
theorem dX3_sizeSet_24 : decode cX3_sizeSet 24 = .ok (.ior, 1) := by decide +kernel
theorem dX3_sizeSet_25 : decode cX3_sizeSet 25 = .ok (.istore_n 1, 1) := by decide +kernel
theorem dX3_sizeSet_26 : decode cX3_sizeSet 26 = .ok (.iinc 2 1, 3) := by decide +kernel
theorem dX3_sizeSet_29 : decode cX3_sizeSet 29 = .ok (.goto (-25), 3) := by decide +kernel
theorem dX3_sizeSet_32 : decode cX3_sizeSet 32 = .ok (.iload_n 1, 1) := by decide +kernel
theorem dX3_sizeSet_33 : decode cX3_sizeSet 33 = .ok (.ireturn, 1) := by decide +kernel
theorem dX3_typeNumber_0 : decode cX3_typeNumber 0 = .ok (.iconst 0, 1) := by decide +kernel
theorem dX3_typeNumber_1 : decode cX3_typeNumber 1 = .ok (.istore_n 1, 1) := by decide +kernel
theorem dX3_typeNumber_2 : decode cX3_typeNumber 2 = .ok (.iconst 0, 1) := by decide +kernel
theorem dX3_typeNumber_3 : decode cX3_typeNumber 3 = .ok (.istore_n 2, 1) := by decide +kernel
theorem dX3_typeNumber_4 : decode cX3_typeNumber 4 = .ok (.iload_n 2, 1) := by decide +kernel
theorem dX3_typeNumber_5 : decode cX3_typeNumber 5 = .ok (.aload_n 0, 1) := by decide +kernel
theorem dX3_typeNumber_6 : decode cX3_typeNumber 6 = .ok (.getfield 28, 3) := by decide +kernel
theorem dX3_typeNumber_9 : decode cX3_typeNumber 9 = .ok (.if_icmp .ge 27, 3) := by decide +kernel
theorem dX3_typeNumber_12 : decode cX3_typeNumber 12 = .ok (.iload_n 1, 1) := by decide +kernel
theorem dX3_typeNumber_13 : decode cX3_typeNumber 13 = .ok (.iconst 1, 1) := by decide +kernel
theorem dX3_typeNumber_14 : decode cX3_typeNumber 14 = .ok (.iconst 3, 1) := by decide +kernel
theorem dX3_typeNumber_15 : decode cX3_typeNumber 15 = .ok (.aload_n 0, 1) := by decide +kernel
theorem dX3_typeNumber_16 : decode cX3_typeNumber 16 = .ok (.getfield 15, 3) := by decide +kernel
theorem dX3_typeNumber_19 : decode cX3_typeNumber 19 = .ok (.iload_n 2, 1) := by decide +kernel
theorem dX3_typeNumber_20 : decode cX3_typeNumber 20 = .ok (.iaload, 1) := by decide +kernel
theorem dX3_typeNumber_21 : decode cX3_typeNumber 21 = .ok (.invokestatic 37, 3) := by decide +kernel
theorem dX3_typeNumber_24 : decode cX3_typeNumber 24 = .ok (.iconst 1, 1) := by decide +kernel
theorem dX3_typeNumber_25 : decode cX3_typeNumber 25 = .ok (.isub, 1) := by decide +kernel
theorem dX3_typeNumber_26 : decode cX3_typeNumber 26 = .ok (.imul, 1) := by decide +kernel
theorem dX3_typeNumber_27 : decode cX3_typeNumber 27 = .ok (.ishl, 1) := by decide +kernel
theorem dX3_typeNumber_28 : decode cX3_typeNumber 28 = .ok (.iadd, 1) := by decide +kernel
theorem dX3_typeNumber_29 : decode cX3_typeNumber 29 = .ok (.istore_n 1, 1) := by decide +kernel
theorem dX3_typeNumber_30 : decode cX3_typeNumber 30 = .ok (.iinc 2 1, 3) := by decide +kernel
theorem dX3_typeNumber_33 : decode cX3_typeNumber 33 = .ok (.goto (-29), 3) := by decide +kernel
theorem dX3_typeNumber_36 : decode cX3_typeNumber 36 = .ok (.iload_n 1, 1) := by decide +kernel
theorem dX3_typeNumber_37 : decode cX3_typeNumber 37 = .ok (.ireturn, 1) := by decide +kernel
theorem dX3_firstBlockNotIn_0 : decode cX3_firstBlockNotIn 0 = .ok (.iconst 0, 1) := by decide +kernel
theorem dX3_firstBlockNotIn_1 : decode cX3_firstBlockNotIn 1 = .ok (.istore_n 2, 1) := by decide +kernel
theorem dX3_firstBlockNotIn_2 : decode cX3_firstBlockNotIn 2 = .ok (.iload_n 2, 1) := by decide +kernel
theorem dX3_firstBlockNotIn_3 : decode cX3_firstBlockNotIn 3 = .ok (.aload_n 0, 1) := by decide +kernel
theorem dX3_firstBlockNotIn_4 : decode cX3_firstBlockNotIn 4 = .ok (.getfield 28, 3) := by decide +kernel
theorem dX3_firstBlockNotIn_7 : decode cX3_firstBlockNotIn 7 = .ok (.if_icmp .ge 27, 3) := by decide +kernel
theorem dX3_firstBlockNotIn_10 : decode cX3_firstBlockNotIn 10 = .ok (.iload_n 1, 1) := by decide +kernel
theorem dX3_firstBlockNotIn_11 : decode cX3_firstBlockNotIn 11 = .ok (.aload_n 0, 1) := by decide +kernel
theorem dX3_firstBlockNotIn_12 : decode cX3_firstBlockNotIn 12 = .ok (.getfield 15, 3) := by decide +kernel
theorem dX3_firstBlockNotIn_15 : decode cX3_firstBlockNotIn 15 = .ok (.iload_n 2, 1) := by decide +kernel
theorem dX3_firstBlockNotIn_16 : decode cX3_firstBlockNotIn 16 = .ok (.iaload, 1) := by decide +kernel
theorem dX3_firstBlockNotIn_17 : decode cX3_firstBlockNotIn 17 = .ok (.invokestatic 37, 3) := by decide +kernel
theorem dX3_firstBlockNotIn_20 : decode cX3_firstBlockNotIn 20 = .ok (.ishr, 1) := by decide +kernel
theorem dX3_firstBlockNotIn_21 : decode cX3_firstBlockNotIn 21 = .ok (.iconst 1, 1) := by decide +kernel
theorem dX3_firstBlockNotIn_22 : decode cX3_firstBlockNotIn 22 = .ok (.iand, 1) := by decide +kernel
theorem dX3_firstBlockNotIn_23 : decode cX3_firstBlockNotIn 23 = .ok (.ifCond .ne 5, 3) := by decide +kernel
theorem dX3_firstBlockNotIn_26 : decode cX3_firstBlockNotIn 26 = .ok (.iload_n 2, 1) := by decide +kernel
theorem dX3_firstBlockNotIn_27 : decode cX3_firstBlockNotIn 27 = .ok (.ireturn, 1) := by decide +kernel
theorem dX3_firstBlockNotIn_28 : decode cX3_firstBlockNotIn 28 = .ok (.iinc 2 1, 3) := by decide +kernel
theorem dX3_firstBlockNotIn_31 : decode cX3_firstBlockNotIn 31 = .ok (.goto (-29), 3) := by decide +kernel
theorem dX3_firstBlockNotIn_34 : decode cX3_firstBlockNotIn 34 = .ok (.bipush (-9), 2) := by decide +kernel
theorem dX3_firstBlockNotIn_36 : decode cX3_firstBlockNotIn 36 = .ok (.ireturn, 1) := by decide +kernel
theorem dX3_crossingCount_0 : decode cX3_crossingCount 0 = .ok (.iconst 0, 1) := by decide +kernel
theorem dX3_crossingCount_1 : decode cX3_crossingCount 1 = .ok (.istore_n 1, 1) := by decide +kernel
theorem dX3_crossingCount_2 : decode cX3_crossingCount 2 = .ok (.iconst 0, 1) := by decide +kernel
theorem dX3_crossingCount_3 : decode cX3_crossingCount 3 = .ok (.istore_n 2, 1) := by decide +kernel
theorem dX3_crossingCount_4 : decode cX3_crossingCount 4 = .ok (.iload_n 2, 1) := by decide +kernel
theorem dX3_crossingCount_5 : decode cX3_crossingCount 5 = .ok (.aload_n 0, 1) := by decide +kernel
theorem dX3_crossingCount_6 : decode cX3_crossingCount 6 = .ok (.getfield 28, 3) := by decide +kernel
theorem dX3_crossingCount_9 : decode cX3_crossingCount 9 = .ok (.if_icmp .ge 48, 3) := by decide +kernel
theorem dX3_crossingCount_12 : decode cX3_crossingCount 12 = .ok (.iload_n 2, 1) := by decide +kernel
theorem dX3_crossingCount_13 : decode cX3_crossingCount 13 = .ok (.iconst 1, 1) := by decide +kernel
theorem dX3_crossingCount_14 : decode cX3_crossingCount 14 = .ok (.iadd, 1) := by decide +kernel
theorem dX3_crossingCount_15 : decode cX3_crossingCount 15 = .ok (.istore_n 3, 1) := by decide +kernel
theorem dX3_crossingCount_16 : decode cX3_crossingCount 16 = .ok (.iload_n 3, 1) := by decide +kernel
theorem dX3_crossingCount_17 : decode cX3_crossingCount 17 = .ok (.aload_n 0, 1) := by decide +kernel
theorem dX3_crossingCount_18 : decode cX3_crossingCount 18 = .ok (.getfield 28, 3) := by decide +kernel
theorem dX3_crossingCount_21 : decode cX3_crossingCount 21 = .ok (.if_icmp .ge 30, 3) := by decide +kernel
theorem dX3_crossingCount_24 : decode cX3_crossingCount 24 = .ok (.aload_n 0, 1) := by decide +kernel
theorem dX3_crossingCount_25 : decode cX3_crossingCount 25 = .ok (.getfield 15, 3) := by decide +kernel
theorem dX3_crossingCount_28 : decode cX3_crossingCount 28 = .ok (.iload_n 2, 1) := by decide +kernel
theorem dX3_crossingCount_29 : decode cX3_crossingCount 29 = .ok (.iaload, 1) := by decide +kernel
theorem dX3_crossingCount_30 : decode cX3_crossingCount 30 = .ok (.aload_n 0, 1) := by decide +kernel
theorem dX3_crossingCount_31 : decode cX3_crossingCount 31 = .ok (.getfield 15, 3) := by decide +kernel
theorem dX3_crossingCount_34 : decode cX3_crossingCount 34 = .ok (.iload_n 3, 1) := by decide +kernel
theorem dX3_crossingCount_35 : decode cX3_crossingCount 35 = .ok (.iaload, 1) := by decide +kernel
theorem dX3_crossingCount_36 : decode cX3_crossingCount 36 = .ok (.invokestatic 43, 3) := by decide +kernel
theorem dX3_crossingCount_39 : decode cX3_crossingCount 39 = .ok (.ifCond .eq 6, 3) := by decide +kernel
theorem dX3_crossingCount_42 : decode cX3_crossingCount 42 = .ok (.iinc 1 1, 3) := by decide +kernel
theorem dX3_crossingCount_45 : decode cX3_crossingCount 45 = .ok (.iinc 3 1, 3) := by decide +kernel
theorem dX3_crossingCount_48 : decode cX3_crossingCount 48 = .ok (.goto (-32), 3) := by decide +kernel
theorem dX3_crossingCount_51 : decode cX3_crossingCount 51 = .ok (.iinc 2 1, 3) := by decide +kernel
theorem dX3_crossingCount_54 : decode cX3_crossingCount 54 = .ok (.goto (-50), 3) := by decide +kernel
theorem dX3_crossingCount_57 : decode cX3_crossingCount 57 = .ok (.iload_n 1, 1) := by decide +kernel
theorem dX3_crossingCount_58 : decode cX3_crossingCount 58 = .ok (.ireturn, 1) := by decide +kernel
theorem dX3_firstCrossing_0 : decode cX3_firstCrossing 0 = .ok (.iconst 0, 1) := by decide +kernel
theorem dX3_firstCrossing_1 : decode cX3_firstCrossing 1 = .ok (.istore_n 1, 1) := by decide +kernel
theorem dX3_firstCrossing_2 : decode cX3_firstCrossing 2 = .ok (.iload_n 1, 1) := by decide +kernel
theorem dX3_firstCrossing_3 : decode cX3_firstCrossing 3 = .ok (.aload_n 0, 1) := by decide +kernel
theorem dX3_firstCrossing_4 : decode cX3_firstCrossing 4 = .ok (.getfield 28, 3) := by decide +kernel
theorem dX3_firstCrossing_7 : decode cX3_firstCrossing 7 = .ok (.if_icmp .ge 52, 3) := by decide +kernel
theorem dX3_firstCrossing_10 : decode cX3_firstCrossing 10 = .ok (.iload_n 1, 1) := by decide +kernel
theorem dX3_firstCrossing_11 : decode cX3_firstCrossing 11 = .ok (.iconst 1, 1) := by decide +kernel
theorem dX3_firstCrossing_12 : decode cX3_firstCrossing 12 = .ok (.iadd, 1) := by decide +kernel
theorem dX3_firstCrossing_13 : decode cX3_firstCrossing 13 = .ok (.istore_n 2, 1) := by decide +kernel
theorem dX3_firstCrossing_14 : decode cX3_firstCrossing 14 = .ok (.iload_n 2, 1) := by decide +kernel
theorem dX3_firstCrossing_15 : decode cX3_firstCrossing 15 = .ok (.aload_n 0, 1) := by decide +kernel
theorem dX3_firstCrossing_16 : decode cX3_firstCrossing 16 = .ok (.getfield 28, 3) := by decide +kernel
theorem dX3_firstCrossing_19 : decode cX3_firstCrossing 19 = .ok (.if_icmp .ge 34, 3) := by decide +kernel
theorem dX3_firstCrossing_22 : decode cX3_firstCrossing 22 = .ok (.aload_n 0, 1) := by decide +kernel
theorem dX3_firstCrossing_23 : decode cX3_firstCrossing 23 = .ok (.getfield 15, 3) := by decide +kernel
theorem dX3_firstCrossing_26 : decode cX3_firstCrossing 26 = .ok (.iload_n 1, 1) := by decide +kernel
theorem dX3_firstCrossing_27 : decode cX3_firstCrossing 27 = .ok (.iaload, 1) := by decide +kernel
theorem dX3_firstCrossing_28 : decode cX3_firstCrossing 28 = .ok (.aload_n 0, 1) := by decide +kernel
theorem dX3_firstCrossing_29 : decode cX3_firstCrossing 29 = .ok (.getfield 15, 3) := by decide +kernel
theorem dX3_firstCrossing_32 : decode cX3_firstCrossing 32 = .ok (.iload_n 2, 1) := by decide +kernel
theorem dX3_firstCrossing_33 : decode cX3_firstCrossing 33 = .ok (.iaload, 1) := by decide +kernel
theorem dX3_firstCrossing_34 : decode cX3_firstCrossing 34 = .ok (.invokestatic 43, 3) := by decide +kernel
theorem dX3_firstCrossing_37 : decode cX3_firstCrossing 37 = .ok (.ifCond .eq 10, 3) := by decide +kernel
theorem dX3_firstCrossing_40 : decode cX3_firstCrossing 40 = .ok (.bipush 10, 2) := by decide +kernel
theorem dX3_firstCrossing_42 : decode cX3_firstCrossing 42 = .ok (.iload_n 1, 1) := by decide +kernel
theorem dX3_firstCrossing_43 : decode cX3_firstCrossing 43 = .ok (.imul, 1) := by decide +kernel
theorem dX3_firstCrossing_44 : decode cX3_firstCrossing 44 = .ok (.iload_n 2, 1) := by decide +kernel
theorem dX3_firstCrossing_45 : decode cX3_firstCrossing 45 = .ok (.iadd, 1) := by decide +kernel
theorem dX3_firstCrossing_46 : decode cX3_firstCrossing 46 = .ok (.ireturn, 1) := by decide +kernel
theorem dX3_firstCrossing_47 : decode cX3_firstCrossing 47 = .ok (.iinc 2 1, 3) := by decide +kernel
theorem dX3_firstCrossing_50 : decode cX3_firstCrossing 50 = .ok (.goto (-36), 3) := by decide +kernel
theorem dX3_firstCrossing_53 : decode cX3_firstCrossing 53 = .ok (.iinc 1 1, 3) := by decide +kernel
theorem dX3_firstCrossing_56 : decode cX3_firstCrossing 56 = .ok (.goto (-54), 3) := by decide +kernel
theorem dX3_firstCrossing_59 : decode cX3_firstCrossing 59 = .ok (.bipush (-9), 2) := by decide +kernel
theorem dX3_firstCrossing_61 : decode cX3_firstCrossing 61 = .ok (.ireturn, 1) := by decide +kernel
theorem dX3_areCrossing_0 : decode cX3_areCrossing 0 = .ok (.iconst 0, 1) := by decide +kernel
theorem dX3_areCrossing_1 : decode cX3_areCrossing 1 = .ok (.istore_n 2, 1) := by decide +kernel
theorem dX3_areCrossing_2 : decode cX3_areCrossing 2 = .ok (.iconst 0, 1) := by decide +kernel
theorem dX3_areCrossing_3 : decode cX3_areCrossing 3 = .ok (.istore_n 3, 1) := by decide +kernel
theorem dX3_areCrossing_4 : decode cX3_areCrossing 4 = .ok (.iconst 0, 1) := by decide +kernel
theorem dX3_areCrossing_5 : decode cX3_areCrossing 5 = .ok (.istore 4, 2) := by decide +kernel
theorem dX3_areCrossing_7 : decode cX3_areCrossing 7 = .ok (.iload 4, 2) := by decide +kernel
theorem dX3_areCrossing_9 : decode cX3_areCrossing 9 = .ok (.bipush 6, 2) := by decide +kernel
theorem dX3_areCrossing_11 : decode cX3_areCrossing 11 = .ok (.if_icmp .ge 50, 3) := by decide +kernel
theorem dX3_areCrossing_14 : decode cX3_areCrossing 14 = .ok (.iload_n 0, 1) := by decide +kernel
theorem dX3_areCrossing_15 : decode cX3_areCrossing 15 = .ok (.iload 4, 2) := by decide +kernel
theorem dX3_areCrossing_17 : decode cX3_areCrossing 17 = .ok (.ishr, 1) := by decide +kernel
theorem dX3_areCrossing_18 : decode cX3_areCrossing 18 = .ok (.iconst 1, 1) := by decide +kernel
theorem dX3_areCrossing_19 : decode cX3_areCrossing 19 = .ok (.iand, 1) := by decide +kernel
theorem dX3_areCrossing_20 : decode cX3_areCrossing 20 = .ok (.ifCond .eq 7, 3) := by decide +kernel
theorem dX3_areCrossing_23 : decode cX3_areCrossing 23 = .ok (.iconst 1, 1) := by decide +kernel
theorem dX3_areCrossing_24 : decode cX3_areCrossing 24 = .ok (.goto 17, 3) := by decide +kernel
theorem dX3_areCrossing_27 : decode cX3_areCrossing 27 = .ok (.iload_n 1, 1) := by decide +kernel
theorem dX3_areCrossing_28 : decode cX3_areCrossing 28 = .ok (.iload 4, 2) := by decide +kernel
theorem dX3_areCrossing_30 : decode cX3_areCrossing 30 = .ok (.ishr, 1) := by decide +kernel
theorem dX3_areCrossing_31 : decode cX3_areCrossing 31 = .ok (.iconst 1, 1) := by decide +kernel
theorem dX3_areCrossing_32 : decode cX3_areCrossing 32 = .ok (.iand, 1) := by decide +kernel
theorem dX3_areCrossing_33 : decode cX3_areCrossing 33 = .ok (.ifCond .eq 7, 3) := by decide +kernel
theorem dX3_areCrossing_36 : decode cX3_areCrossing 36 = .ok (.iconst 2, 1) := by decide +kernel
theorem dX3_areCrossing_37 : decode cX3_areCrossing 37 = .ok (.goto 4, 3) := by decide +kernel
theorem dX3_areCrossing_40 : decode cX3_areCrossing 40 = .ok (.iload_n 3, 1) := by decide +kernel
theorem dX3_areCrossing_41 : decode cX3_areCrossing 41 = .ok (.istore 5, 2) := by decide +kernel
theorem dX3_areCrossing_43 : decode cX3_areCrossing 43 = .ok (.iload 5, 2) := by decide +kernel
theorem dX3_areCrossing_45 : decode cX3_areCrossing 45 = .ok (.iload_n 3, 1) := by decide +kernel
theorem dX3_areCrossing_46 : decode cX3_areCrossing 46 = .ok (.if_icmp .eq 9, 3) := by decide +kernel
theorem dX3_areCrossing_49 : decode cX3_areCrossing 49 = .ok (.iload 5, 2) := by decide +kernel
theorem dX3_areCrossing_51 : decode cX3_areCrossing 51 = .ok (.istore_n 3, 1) := by decide +kernel
theorem dX3_areCrossing_52 : decode cX3_areCrossing 52 = .ok (.iinc 2 1, 3) := by decide +kernel
theorem dX3_areCrossing_55 : decode cX3_areCrossing 55 = .ok (.iinc 4 1, 3) := by decide +kernel
theorem dX3_areCrossing_58 : decode cX3_areCrossing 58 = .ok (.goto (-51), 3) := by decide +kernel
theorem dX3_areCrossing_61 : decode cX3_areCrossing 61 = .ok (.iload_n 2, 1) := by decide +kernel
theorem dX3_areCrossing_62 : decode cX3_areCrossing 62 = .ok (.iconst 4, 1) := by decide +kernel
theorem dX3_areCrossing_63 : decode cX3_areCrossing 63 = .ok (.if_icmp .lt 7, 3) := by decide +kernel
theorem dX3_areCrossing_66 : decode cX3_areCrossing 66 = .ok (.iconst 1, 1) := by decide +kernel
theorem dX3_areCrossing_67 : decode cX3_areCrossing 67 = .ok (.goto 4, 3) := by decide +kernel
theorem dX3_areCrossing_70 : decode cX3_areCrossing 70 = .ok (.iconst 0, 1) := by decide +kernel
theorem dX3_areCrossing_71 : decode cX3_areCrossing 71 = .ok (.ireturn, 1) := by decide +kernel
theorem dX4_init_0 : decode cX4_init 0 = .ok (.aload_n 0, 1) := by decide +kernel
theorem dX4_init_1 : decode cX4_init 1 = .ok (.invokespecial 3, 3) := by decide +kernel
theorem dX4_init_4 : decode cX4_init 4 = .ok (.aload_n 0, 1) := by decide +kernel
theorem dX4_init_5 : decode cX4_init 5 = .ok (.sipush 203, 3) := by decide +kernel
theorem dX4_init_8 : decode cX4_init 8 = .ok (.newarray .int, 2) := by decide +kernel
theorem dX4_init_10 : decode cX4_init 10 = .ok (.putfield 9, 3) := by decide +kernel
theorem dX4_init_13 : decode cX4_init 13 = .ok (.aload_n 0, 1) := by decide +kernel
theorem dX4_init_14 : decode cX4_init 14 = .ok (.sipush 203, 3) := by decide +kernel
theorem dX4_init_17 : decode cX4_init 17 = .ok (.newarray .int, 2) := by decide +kernel
theorem dX4_init_19 : decode cX4_init 19 = .ok (.putfield 15, 3) := by decide +kernel
theorem dX4_init_22 : decode cX4_init 22 = .ok (.aload_n 0, 1) := by decide +kernel
theorem dX4_init_23 : decode cX4_init 23 = .ok (.sipush 203, 3) := by decide +kernel
theorem dX4_init_26 : decode cX4_init 26 = .ok (.newarray .long, 2) := by decide +kernel
theorem dX4_init_28 : decode cX4_init 28 = .ok (.putfield 18, 3) := by decide +kernel
theorem dX4_init_31 : decode cX4_init 31 = .ok (.aload_n 0, 1) := by decide +kernel
theorem dX4_init_32 : decode cX4_init 32 = .ok (.sipush 203, 3) := by decide +kernel
theorem dX4_init_35 : decode cX4_init 35 = .ok (.newarray .int, 2) := by decide +kernel
theorem dX4_init_37 : decode cX4_init 37 = .ok (.putfield 22, 3) := by decide +kernel
theorem dX4_init_40 : decode cX4_init 40 = .ok (.return_, 1) := by decide +kernel
theorem dX4_select_0 : decode cX4_select 0 = .ok (.aload_n 0, 1) := by decide +kernel
theorem dX4_select_1 : decode cX4_select 1 = .ok (.iconst 0, 1) := by decide +kernel
theorem dX4_select_2 : decode cX4_select 2 = .ok (.putfield 25, 3) := by decide +kernel
theorem dX4_select_5 : decode cX4_select 5 = .ok (.aload_n 1, 1) := by decide +kernel
theorem dX4_select_6 : decode cX4_select 6 = .ok (.getfield 29, 3) := by decide +kernel
theorem dX4_select_9 : decode cX4_select 9 = .ok (.iconst 1, 1) := by decide +kernel
theorem dX4_select_10 : decode cX4_select 10 = .ok (.isub, 1) := by decide +kernel
theorem dX4_select_11 : decode cX4_select 11 = .ok (.istore 4, 2) := by decide +kernel
theorem dX4_select_13 : decode cX4_select 13 = .ok (.iload 4, 2) := by decide +kernel
theorem dX4_select_15 : decode cX4_select 15 = .ok (.ifCond .lt 73, 3) := by decide +kernel
theorem dX4_select_18 : decode cX4_select 18 = .ok (.aload_n 1, 1) := by decide +kernel
theorem dX4_select_19 : decode cX4_select 19 = .ok (.getfield 32, 3) := by decide +kernel
theorem dX4_select_22 : decode cX4_select 22 = .ok (.iload 4, 2) := by decide +kernel
theorem dX4_select_24 : decode cX4_select 24 = .ok (.iaload, 1) := by decide +kernel
theorem dX4_select_25 : decode cX4_select 25 = .ok (.istore 5, 2) := by decide +kernel
theorem dX4_select_27 : decode cX4_select 27 = .ok (.iload_n 2, 1) := by decide +kernel
theorem dX4_select_28 : decode cX4_select 28 = .ok (.iload 5, 2) := by decide +kernel
theorem dX4_select_30 : decode cX4_select 30 = .ok (.invokestatic 33, 3) := by decide +kernel
theorem dX4_select_33 : decode cX4_select 33 = .ok (.ifCond .eq 49, 3) := by decide +kernel
theorem dX4_select_36 : decode cX4_select 36 = .ok (.iload 5, 2) := by decide +kernel
theorem dX4_select_38 : decode cX4_select 38 = .ok (.iload_n 3, 1) := by decide +kernel
theorem dX4_select_39 : decode cX4_select 39 = .ok (.invokestatic 33, 3) := by decide +kernel
theorem dX4_select_42 : decode cX4_select 42 = .ok (.ifCond .eq 40, 3) := by decide +kernel
theorem dX4_select_45 : decode cX4_select 45 = .ok (.aload_n 0, 1) := by decide +kernel
theorem dX4_select_46 : decode cX4_select 46 = .ok (.getfield 9, 3) := by decide +kernel
theorem dX4_select_49 : decode cX4_select 49 = .ok (.aload_n 0, 1) := by decide +kernel
theorem dX4_select_50 : decode cX4_select 50 = .ok (.getfield 25, 3) := by decide +kernel
theorem dX4_select_53 : decode cX4_select 53 = .ok (.iload 5, 2) := by decide +kernel
theorem dX4_select_55 : decode cX4_select 55 = .ok (.iastore, 1) := by decide +kernel
theorem dX4_select_56 : decode cX4_select 56 = .ok (.aload_n 0, 1) := by decide +kernel
theorem dX4_select_57 : decode cX4_select 57 = .ok (.getfield 15, 3) := by decide +kernel
theorem dX4_select_60 : decode cX4_select 60 = .ok (.aload_n 0, 1) := by decide +kernel
theorem dX4_select_61 : decode cX4_select 61 = .ok (.getfield 25, 3) := by decide +kernel
theorem dX4_select_64 : decode cX4_select 64 = .ok (.aload_n 1, 1) := by decide +kernel
theorem dX4_select_65 : decode cX4_select 65 = .ok (.getfield 37, 3) := by decide +kernel
theorem dX4_select_68 : decode cX4_select 68 = .ok (.iload 4, 2) := by decide +kernel
theorem dX4_select_70 : decode cX4_select 70 = .ok (.iaload, 1) := by decide +kernel
theorem dX4_select_71 : decode cX4_select 71 = .ok (.iastore, 1) := by decide +kernel
theorem dX4_select_72 : decode cX4_select 72 = .ok (.aload_n 0, 1) := by decide +kernel
theorem dX4_select_73 : decode cX4_select 73 = .ok (.dup, 1) := by decide +kernel
theorem dX4_select_74 : decode cX4_select 74 = .ok (.getfield 25, 3) := by decide +kernel
theorem dX4_select_77 : decode cX4_select 77 = .ok (.iconst 1, 1) := by decide +kernel
theorem dX4_select_78 : decode cX4_select 78 = .ok (.iadd, 1) := by decide +kernel
theorem dX4_select_79 : decode cX4_select 79 = .ok (.putfield 25, 3) := by decide +kernel
theorem dX4_select_82 : decode cX4_select 82 = .ok (.iinc 4 (-1), 3) := by decide +kernel
theorem dX4_select_85 : decode cX4_select 85 = .ok (.goto (-72), 3) := by decide +kernel
theorem dX4_select_88 : decode cX4_select 88 = .ok (.return_, 1) := by decide +kernel
theorem dX4_lastValue_0 : decode cX4_lastValue 0 = .ok (.aload_n 0, 1) := by decide +kernel
theorem dX4_lastValue_1 : decode cX4_lastValue 1 = .ok (.getfield 25, 3) := by decide +kernel
theorem dX4_lastValue_4 : decode cX4_lastValue 4 = .ok (.ifCond .ne 7, 3) := by decide +kernel
theorem dX4_lastValue_7 : decode cX4_lastValue 7 = .ok (.lconst 0, 1) := by decide +kernel
theorem dX4_lastValue_8 : decode cX4_lastValue 8 = .ok (.goto 14, 3) := by decide +kernel
theorem dX4_lastValue_11 : decode cX4_lastValue 11 = .ok (.aload_n 0, 1) := by decide +kernel
theorem dX4_lastValue_12 : decode cX4_lastValue 12 = .ok (.getfield 18, 3) := by decide +kernel
theorem dX4_lastValue_15 : decode cX4_lastValue 15 = .ok (.aload_n 0, 1) := by decide +kernel
theorem dX4_lastValue_16 : decode cX4_lastValue 16 = .ok (.getfield 25, 3) := by decide +kernel
theorem dX4_lastValue_19 : decode cX4_lastValue 19 = .ok (.iconst 1, 1) := by decide +kernel
theorem dX4_lastValue_20 : decode cX4_lastValue 20 = .ok (.isub, 1) := by decide +kernel
theorem dX4_lastValue_21 : decode cX4_lastValue 21 = .ok (.laload, 1) := by decide +kernel
theorem dX4_lastValue_22 : decode cX4_lastValue 22 = .ok (.lreturn, 1) := by decide +kernel
theorem dX4_startAtFirst_0 : decode cX4_startAtFirst 0 = .ok (.iconst 0, 1) := by decide +kernel
theorem dX4_startAtFirst_1 : decode cX4_startAtFirst 1 = .ok (.istore_n 1, 1) := by decide +kernel
theorem dX4_startAtFirst_2 : decode cX4_startAtFirst 2 = .ok (.iload_n 1, 1) := by decide +kernel
theorem dX4_startAtFirst_3 : decode cX4_startAtFirst 3 = .ok (.aload_n 0, 1) := by decide +kernel
theorem dX4_startAtFirst_4 : decode cX4_startAtFirst 4 = .ok (.getfield 25, 3) := by decide +kernel
theorem dX4_startAtFirst_7 : decode cX4_startAtFirst 7 = .ok (.if_icmp .ge 24, 3) := by decide +kernel
theorem dX4_startAtFirst_10 : decode cX4_startAtFirst 10 = .ok (.aload_n 0, 1) := by decide +kernel
theorem dX4_startAtFirst_11 : decode cX4_startAtFirst 11 = .ok (.getfield 18, 3) := by decide +kernel
theorem dX4_startAtFirst_14 : decode cX4_startAtFirst 14 = .ok (.iload_n 1, 1) := by decide +kernel
theorem dX4_startAtFirst_15 : decode cX4_startAtFirst 15 = .ok (.iload_n 1, 1) := by decide +kernel
theorem dX4_startAtFirst_16 : decode cX4_startAtFirst 16 = .ok (.ifCond .ne 7, 3) := by decide +kernel
theorem dX4_startAtFirst_19 : decode cX4_startAtFirst 19 = .ok (.lconst 1, 1) := by decide +kernel
theorem dX4_startAtFirst_20 : decode cX4_startAtFirst 20 = .ok (.goto 4, 3) := by decide +kernel
theorem dX4_startAtFirst_23 : decode cX4_startAtFirst 23 = .ok (.lconst 0, 1) := by decide +kernel
theorem dX4_startAtFirst_24 : decode cX4_startAtFirst 24 = .ok (.lastore, 1) := by decide +kernel
theorem dX4_startAtFirst_25 : decode cX4_startAtFirst 25 = .ok (.iinc 1 1, 3) := by decide +kernel
theorem dX4_startAtFirst_28 : decode cX4_startAtFirst 28 = .ok (.goto (-26), 3) := by decide +kernel
theorem dX4_startAtFirst_31 : decode cX4_startAtFirst 31 = .ok (.return_, 1) := by decide +kernel
theorem dX4_putMoebius_0 : decode cX4_putMoebius 0 = .ok (.aload_n 0, 1) := by decide +kernel
theorem dX4_putMoebius_1 : decode cX4_putMoebius 1 = .ok (.invokevirtual 38, 3) := by decide +kernel
theorem dX4_putMoebius_4 : decode cX4_putMoebius 4 = .ok (.iconst 1, 1) := by decide +kernel
theorem dX4_putMoebius_5 : decode cX4_putMoebius 5 = .ok (.istore_n 1, 1) := by decide +kernel
theorem dX4_putMoebius_6 : decode cX4_putMoebius 6 = .ok (.iload_n 1, 1) := by decide +kernel
theorem dX4_putMoebius_7 : decode cX4_putMoebius 7 = .ok (.aload_n 0, 1) := by decide +kernel
theorem dX4_putMoebius_8 : decode cX4_putMoebius 8 = .ok (.getfield 25, 3) := by decide +kernel
theorem dX4_putMoebius_11 : decode cX4_putMoebius 11 = .ok (.if_icmp .ge 21, 3) := by decide +kernel
theorem dX4_putMoebius_14 : decode cX4_putMoebius 14 = .ok (.aload_n 0, 1) := by decide +kernel
theorem dX4_putMoebius_15 : decode cX4_putMoebius 15 = .ok (.getfield 18, 3) := by decide +kernel
theorem dX4_putMoebius_18 : decode cX4_putMoebius 18 = .ok (.iload_n 1, 1) := by decide +kernel
theorem dX4_putMoebius_19 : decode cX4_putMoebius 19 = .ok (.aload_n 0, 1) := by decide +kernel
theorem dX4_putMoebius_20 : decode cX4_putMoebius 20 = .ok (.iload_n 1, 1) := by decide +kernel
theorem dX4_putMoebius_21 : decode cX4_putMoebius 21 = .ok (.invokevirtual 41, 3) := by decide +kernel
theorem dX4_putMoebius_24 : decode cX4_putMoebius 24 = .ok (.lneg, 1) := by decide +kernel
theorem dX4_putMoebius_25 : decode cX4_putMoebius 25 = .ok (.lastore, 1) := by decide +kernel
theorem dX4_putMoebius_26 : decode cX4_putMoebius 26 = .ok (.iinc 1 1, 3) := by decide +kernel
theorem dX4_putMoebius_29 : decode cX4_putMoebius 29 = .ok (.goto (-23), 3) := by decide +kernel
theorem dX4_putMoebius_32 : decode cX4_putMoebius 32 = .ok (.return_, 1) := by decide +kernel
theorem dX4_putChains_0 : decode cX4_putChains 0 = .ok (.aload_n 0, 1) := by decide +kernel
theorem dX4_putChains_1 : decode cX4_putChains 1 = .ok (.invokevirtual 38, 3) := by decide +kernel
theorem dX4_putChains_4 : decode cX4_putChains 4 = .ok (.iconst 0, 1) := by decide +kernel
theorem dX4_putChains_5 : decode cX4_putChains 5 = .ok (.istore_n 2, 1) := by decide +kernel
theorem dX4_putChains_6 : decode cX4_putChains 6 = .ok (.iload_n 2, 1) := by decide +kernel
theorem dX4_putChains_7 : decode cX4_putChains 7 = .ok (.iload_n 1, 1) := by decide +kernel
theorem dX4_putChains_8 : decode cX4_putChains 8 = .ok (.if_icmp .ge 37, 3) := by decide +kernel
theorem dX4_putChains_11 : decode cX4_putChains 11 = .ok (.aload_n 0, 1) := by decide +kernel
theorem dX4_putChains_12 : decode cX4_putChains 12 = .ok (.getfield 25, 3) := by decide +kernel
theorem dX4_putChains_15 : decode cX4_putChains 15 = .ok (.iconst 1, 1) := by decide +kernel
theorem dX4_putChains_16 : decode cX4_putChains 16 = .ok (.isub, 1) := by decide +kernel
theorem dX4_putChains_17 : decode cX4_putChains 17 = .ok (.istore_n 3, 1) := by decide +kernel
theorem dX4_putChains_18 : decode cX4_putChains 18 = .ok (.iload_n 3, 1) := by decide +kernel
theorem dX4_putChains_19 : decode cX4_putChains 19 = .ok (.ifCond .lt 20, 3) := by decide +kernel
theorem dX4_putChains_22 : decode cX4_putChains 22 = .ok (.aload_n 0, 1) := by decide +kernel
theorem dX4_putChains_23 : decode cX4_putChains 23 = .ok (.getfield 18, 3) := by decide +kernel
theorem dX4_putChains_26 : decode cX4_putChains 26 = .ok (.iload_n 3, 1) := by decide +kernel
theorem dX4_putChains_27 : decode cX4_putChains 27 = .ok (.aload_n 0, 1) := by decide +kernel
theorem dX4_putChains_28 : decode cX4_putChains 28 = .ok (.iload_n 3, 1) := by decide +kernel
theorem dX4_putChains_29 : decode cX4_putChains 29 = .ok (.invokevirtual 41, 3) := by decide +kernel
theorem dX4_putChains_32 : decode cX4_putChains 32 = .ok (.lastore, 1) := by decide +kernel
theorem dX4_putChains_33 : decode cX4_putChains 33 = .ok (.iinc 3 (-1), 3) := by decide +kernel
theorem dX4_putChains_36 : decode cX4_putChains 36 = .ok (.goto (-18), 3) := by decide +kernel
theorem dX4_putChains_39 : decode cX4_putChains 39 = .ok (.iinc 2 1, 3) := by decide +kernel
theorem dX4_putChains_42 : decode cX4_putChains 42 = .ok (.goto (-36), 3) := by decide +kernel
theorem dX4_putChains_45 : decode cX4_putChains 45 = .ok (.return_, 1) := by decide +kernel
theorem dX4_putMaximalChains_0 : decode cX4_putMaximalChains 0 = .ok (.aload_n 0, 1) := by decide +kernel
theorem dX4_putMaximalChains_1 : decode cX4_putMaximalChains 1 = .ok (.invokevirtual 38, 3) := by decide +kernel
theorem dX4_putMaximalChains_4 : decode cX4_putMaximalChains 4 = .ok (.iconst 1, 1) := by decide +kernel
theorem dX4_putMaximalChains_5 : decode cX4_putMaximalChains 5 = .ok (.istore_n 1, 1) := by decide +kernel
theorem dX4_putMaximalChains_6 : decode cX4_putMaximalChains 6 = .ok (.iload_n 1, 1) := by decide +kernel
theorem dX4_putMaximalChains_7 : decode cX4_putMaximalChains 7 = .ok (.aload_n 0, 1) := by decide +kernel
theorem dX4_putMaximalChains_8 : decode cX4_putMaximalChains 8 = .ok (.getfield 25, 3) := by decide +kernel
theorem dX4_putMaximalChains_11 : decode cX4_putMaximalChains 11 = .ok (.if_icmp .ge 20, 3) := by decide +kernel
theorem dX4_putMaximalChains_14 : decode cX4_putMaximalChains 14 = .ok (.aload_n 0, 1) := by decide +kernel
theorem dX4_putMaximalChains_15 : decode cX4_putMaximalChains 15 = .ok (.getfield 18, 3) := by decide +kernel
theorem dX4_putMaximalChains_18 : decode cX4_putMaximalChains 18 = .ok (.iload_n 1, 1) := by decide +kernel
theorem dX4_putMaximalChains_19 : decode cX4_putMaximalChains 19 = .ok (.aload_n 0, 1) := by decide +kernel
theorem dX4_putMaximalChains_20 : decode cX4_putMaximalChains 20 = .ok (.iload_n 1, 1) := by decide +kernel
theorem dX4_putMaximalChains_21 : decode cX4_putMaximalChains 21 = .ok (.invokevirtual 45, 3) := by decide +kernel
theorem dX4_putMaximalChains_24 : decode cX4_putMaximalChains 24 = .ok (.lastore, 1) := by decide +kernel
theorem dX4_putMaximalChains_25 : decode cX4_putMaximalChains 25 = .ok (.iinc 1 1, 3) := by decide +kernel
theorem dX4_putMaximalChains_28 : decode cX4_putMaximalChains 28 = .ok (.goto (-22), 3) := by decide +kernel
theorem dX4_putMaximalChains_31 : decode cX4_putMaximalChains 31 = .ok (.return_, 1) := by decide +kernel
theorem dX4_putHeights_0 : decode cX4_putHeights 0 = .ok (.iconst 0, 1) := by decide +kernel
theorem dX4_putHeights_1 : decode cX4_putHeights 1 = .ok (.istore_n 1, 1) := by decide +kernel
theorem dX4_putHeights_2 : decode cX4_putHeights 2 = .ok (.iload_n 1, 1) := by decide +kernel
theorem dX4_putHeights_3 : decode cX4_putHeights 3 = .ok (.aload_n 0, 1) := by decide +kernel
theorem dX4_putHeights_4 : decode cX4_putHeights 4 = .ok (.getfield 25, 3) := by decide +kernel
theorem dX4_putHeights_7 : decode cX4_putHeights 7 = .ok (.if_icmp .ge 66, 3) := by decide +kernel
theorem dX4_putHeights_10 : decode cX4_putHeights 10 = .ok (.lconst 0, 1) := by decide +kernel
theorem dX4_putHeights_11 : decode cX4_putHeights 11 = .ok (.lstore_n 2, 1) := by decide +kernel
theorem dX4_putHeights_12 : decode cX4_putHeights 12 = .ok (.iconst 0, 1) := by decide +kernel
theorem dX4_putHeights_13 : decode cX4_putHeights 13 = .ok (.istore 4, 2) := by decide +kernel
theorem dX4_putHeights_15 : decode cX4_putHeights 15 = .ok (.iload 4, 2) := by decide +kernel
theorem dX4_putHeights_17 : decode cX4_putHeights 17 = .ok (.iload_n 1, 1) := by decide +kernel
theorem dX4_putHeights_18 : decode cX4_putHeights 18 = .ok (.if_icmp .ge 42, 3) := by decide +kernel
theorem dX4_putHeights_21 : decode cX4_putHeights 21 = .ok (.aload_n 0, 1) := by decide +kernel
theorem dX4_putHeights_22 : decode cX4_putHeights 22 = .ok (.getfield 9, 3) := by decide +kernel
theorem dX4_putHeights_25 : decode cX4_putHeights 25 = .ok (.iload 4, 2) := by decide +kernel
theorem dX4_putHeights_27 : decode cX4_putHeights 27 = .ok (.iaload, 1) := by decide +kernel
theorem dX4_putHeights_28 : decode cX4_putHeights 28 = .ok (.aload_n 0, 1) := by decide +kernel
theorem dX4_putHeights_29 : decode cX4_putHeights 29 = .ok (.getfield 9, 3) := by decide +kernel
theorem dX4_putHeights_32 : decode cX4_putHeights 32 = .ok (.iload_n 1, 1) := by decide +kernel
theorem dX4_putHeights_33 : decode cX4_putHeights 33 = .ok (.iaload, 1) := by decide +kernel
theorem dX4_putHeights_34 : decode cX4_putHeights 34 = .ok (.invokestatic 33, 3) := by decide +kernel
theorem dX4_putHeights_37 : decode cX4_putHeights 37 = .ok (.ifCond .eq 17, 3) := by decide +kernel
theorem dX4_putHeights_40 : decode cX4_putHeights 40 = .ok (.lload_n 2, 1) := by decide +kernel
theorem dX4_putHeights_41 : decode cX4_putHeights 41 = .ok (.aload_n 0, 1) := by decide +kernel
theorem dX4_putHeights_42 : decode cX4_putHeights 42 = .ok (.getfield 18, 3) := by decide +kernel
theorem dX4_putHeights_45 : decode cX4_putHeights 45 = .ok (.iload 4, 2) := by decide +kernel
theorem dX4_putHeights_47 : decode cX4_putHeights 47 = .ok (.laload, 1) := by decide +kernel
theorem dX4_putHeights_48 : decode cX4_putHeights 48 = .ok (.lconst 1, 1) := by decide +kernel
theorem dX4_putHeights_49 : decode cX4_putHeights 49 = .ok (.ladd, 1) := by decide +kernel
theorem dX4_putHeights_50 : decode cX4_putHeights 50 = .ok (.invokestatic 48, 3) := by decide +kernel
theorem dX4_putHeights_53 : decode cX4_putHeights 53 = .ok (.lstore_n 2, 1) := by decide +kernel
theorem dX4_putHeights_54 : decode cX4_putHeights 54 = .ok (.iinc 4 1, 3) := by decide +kernel
theorem dX4_putHeights_57 : decode cX4_putHeights 57 = .ok (.goto (-42), 3) := by decide +kernel
theorem dX4_putHeights_60 : decode cX4_putHeights 60 = .ok (.aload_n 0, 1) := by decide +kernel
theorem dX4_putHeights_61 : decode cX4_putHeights 61 = .ok (.getfield 18, 3) := by decide +kernel
theorem dX4_putHeights_64 : decode cX4_putHeights 64 = .ok (.iload_n 1, 1) := by decide +kernel
theorem dX4_putHeights_65 : decode cX4_putHeights 65 = .ok (.lload_n 2, 1) := by decide +kernel
theorem dX4_putHeights_66 : decode cX4_putHeights 66 = .ok (.lastore, 1) := by decide +kernel
theorem dX4_putHeights_67 : decode cX4_putHeights 67 = .ok (.iinc 1 1, 3) := by decide +kernel
theorem dX4_putHeights_70 : decode cX4_putHeights 70 = .ok (.goto (-68), 3) := by decide +kernel
theorem dX4_putHeights_73 : decode cX4_putHeights 73 = .ok (.return_, 1) := by decide +kernel
theorem dX4_sumStrictlyBelow_0 : decode cX4_sumStrictlyBelow 0 = .ok (.lconst 0, 1) := by decide +kernel
theorem dX4_sumStrictlyBelow_1 : decode cX4_sumStrictlyBelow 1 = .ok (.lstore_n 2, 1) := by decide +kernel
theorem dX4_sumStrictlyBelow_2 : decode cX4_sumStrictlyBelow 2 = .ok (.iconst 0, 1) := by decide +kernel
theorem dX4_sumStrictlyBelow_3 : decode cX4_sumStrictlyBelow 3 = .ok (.istore 4, 2) := by decide +kernel
theorem dX4_sumStrictlyBelow_5 : decode cX4_sumStrictlyBelow 5 = .ok (.iload 4, 2) := by decide +kernel
theorem dX4_sumStrictlyBelow_7 : decode cX4_sumStrictlyBelow 7 = .ok (.iload_n 1, 1) := by decide +kernel
theorem dX4_sumStrictlyBelow_8 : decode cX4_sumStrictlyBelow 8 = .ok (.if_icmp .ge 38, 3) := by decide +kernel
theorem dX4_sumStrictlyBelow_11 : decode cX4_sumStrictlyBelow 11 = .ok (.aload_n 0, 1) := by decide +kernel
theorem dX4_sumStrictlyBelow_12 : decode cX4_sumStrictlyBelow 12 = .ok (.getfield 9, 3) := by decide +kernel
theorem dX4_sumStrictlyBelow_15 : decode cX4_sumStrictlyBelow 15 = .ok (.iload 4, 2) := by decide +kernel
theorem dX4_sumStrictlyBelow_17 : decode cX4_sumStrictlyBelow 17 = .ok (.iaload, 1) := by decide +kernel
theorem dX4_sumStrictlyBelow_18 : decode cX4_sumStrictlyBelow 18 = .ok (.aload_n 0, 1) := by decide +kernel
theorem dX4_sumStrictlyBelow_19 : decode cX4_sumStrictlyBelow 19 = .ok (.getfield 9, 3) := by decide +kernel
theorem dX4_sumStrictlyBelow_22 : decode cX4_sumStrictlyBelow 22 = .ok (.iload_n 1, 1) := by decide +kernel
theorem dX4_sumStrictlyBelow_23 : decode cX4_sumStrictlyBelow 23 = .ok (.iaload, 1) := by decide +kernel
theorem dX4_sumStrictlyBelow_24 : decode cX4_sumStrictlyBelow 24 = .ok (.invokestatic 33, 3) := by decide +kernel
theorem dX4_sumStrictlyBelow_27 : decode cX4_sumStrictlyBelow 27 = .ok (.ifCond .eq 13, 3) := by decide +kernel
theorem dX4_sumStrictlyBelow_30 : decode cX4_sumStrictlyBelow 30 = .ok (.lload_n 2, 1) := by decide +kernel
theorem dX4_sumStrictlyBelow_31 : decode cX4_sumStrictlyBelow 31 = .ok (.aload_n 0, 1) := by decide +kernel
theorem dX4_sumStrictlyBelow_32 : decode cX4_sumStrictlyBelow 32 = .ok (.getfield 18, 3) := by decide +kernel
theorem dX4_sumStrictlyBelow_35 : decode cX4_sumStrictlyBelow 35 = .ok (.iload 4, 2) := by decide +kernel
theorem dX4_sumStrictlyBelow_37 : decode cX4_sumStrictlyBelow 37 = .ok (.laload, 1) := by decide +kernel
theorem dX4_sumStrictlyBelow_38 : decode cX4_sumStrictlyBelow 38 = .ok (.ladd, 1) := by decide +kernel
theorem dX4_sumStrictlyBelow_39 : decode cX4_sumStrictlyBelow 39 = .ok (.lstore_n 2, 1) := by decide +kernel
theorem dX4_sumStrictlyBelow_40 : decode cX4_sumStrictlyBelow 40 = .ok (.iinc 4 1, 3) := by decide +kernel
theorem dX4_sumStrictlyBelow_43 : decode cX4_sumStrictlyBelow 43 = .ok (.goto (-38), 3) := by decide +kernel
theorem dX4_sumStrictlyBelow_46 : decode cX4_sumStrictlyBelow 46 = .ok (.lload_n 2, 1) := by decide +kernel
theorem dX4_sumStrictlyBelow_47 : decode cX4_sumStrictlyBelow 47 = .ok (.lreturn, 1) := by decide +kernel
theorem dX4_sumCovered_0 : decode cX4_sumCovered 0 = .ok (.lconst 0, 1) := by decide +kernel
theorem dX4_sumCovered_1 : decode cX4_sumCovered 1 = .ok (.lstore_n 2, 1) := by decide +kernel
theorem dX4_sumCovered_2 : decode cX4_sumCovered 2 = .ok (.iconst 0, 1) := by decide +kernel
theorem dX4_sumCovered_3 : decode cX4_sumCovered 3 = .ok (.istore 4, 2) := by decide +kernel
theorem dX4_sumCovered_5 : decode cX4_sumCovered 5 = .ok (.iload_n 1, 1) := by decide +kernel
theorem dX4_sumCovered_6 : decode cX4_sumCovered 6 = .ok (.iconst 1, 1) := by decide +kernel
theorem dX4_sumCovered_7 : decode cX4_sumCovered 7 = .ok (.isub, 1) := by decide +kernel
theorem dX4_sumCovered_8 : decode cX4_sumCovered 8 = .ok (.istore 5, 2) := by decide +kernel
theorem dX4_sumCovered_10 : decode cX4_sumCovered 10 = .ok (.iload 5, 2) := by decide +kernel
theorem dX4_sumCovered_12 : decode cX4_sumCovered 12 = .ok (.ifCond .lt 71, 3) := by decide +kernel
theorem dX4_sumCovered_15 : decode cX4_sumCovered 15 = .ok (.aload_n 0, 1) := by decide +kernel
theorem dX4_sumCovered_16 : decode cX4_sumCovered 16 = .ok (.getfield 9, 3) := by decide +kernel
theorem dX4_sumCovered_19 : decode cX4_sumCovered 19 = .ok (.iload 5, 2) := by decide +kernel
theorem dX4_sumCovered_21 : decode cX4_sumCovered 21 = .ok (.iaload, 1) := by decide +kernel
theorem dX4_sumCovered_22 : decode cX4_sumCovered 22 = .ok (.aload_n 0, 1) := by decide +kernel
theorem dX4_sumCovered_23 : decode cX4_sumCovered 23 = .ok (.getfield 9, 3) := by decide +kernel
theorem dX4_sumCovered_26 : decode cX4_sumCovered 26 = .ok (.iload_n 1, 1) := by decide +kernel
theorem dX4_sumCovered_27 : decode cX4_sumCovered 27 = .ok (.iaload, 1) := by decide +kernel
theorem dX4_sumCovered_28 : decode cX4_sumCovered 28 = .ok (.invokestatic 33, 3) := by decide +kernel
theorem dX4_sumCovered_31 : decode cX4_sumCovered 31 = .ok (.ifCond .eq 46, 3) := by decide +kernel
theorem dX4_sumCovered_34 : decode cX4_sumCovered 34 = .ok (.aload_n 0, 1) := by decide +kernel
theorem dX4_sumCovered_35 : decode cX4_sumCovered 35 = .ok (.aload_n 0, 1) := by decide +kernel
theorem dX4_sumCovered_36 : decode cX4_sumCovered 36 = .ok (.getfield 9, 3) := by decide +kernel
theorem dX4_sumCovered_39 : decode cX4_sumCovered 39 = .ok (.iload 5, 2) := by decide +kernel
theorem dX4_sumCovered_41 : decode cX4_sumCovered 41 = .ok (.iaload, 1) := by decide +kernel
theorem dX4_sumCovered_42 : decode cX4_sumCovered 42 = .ok (.iload 4, 2) := by decide +kernel
theorem dX4_sumCovered_44 : decode cX4_sumCovered 44 = .ok (.invokevirtual 54, 3) := by decide +kernel
theorem dX4_sumCovered_47 : decode cX4_sumCovered 47 = .ok (.ifCond .ne 30, 3) := by decide +kernel
theorem dX4_sumCovered_50 : decode cX4_sumCovered 50 = .ok (.aload_n 0, 1) := by decide +kernel
theorem dX4_sumCovered_51 : decode cX4_sumCovered 51 = .ok (.getfield 22, 3) := by decide +kernel
theorem dX4_sumCovered_54 : decode cX4_sumCovered 54 = .ok (.iload 4, 2) := by decide +kernel
theorem dX4_sumCovered_56 : decode cX4_sumCovered 56 = .ok (.aload_n 0, 1) := by decide +kernel
theorem dX4_sumCovered_57 : decode cX4_sumCovered 57 = .ok (.getfield 9, 3) := by decide +kernel
theorem dX4_sumCovered_60 : decode cX4_sumCovered 60 = .ok (.iload 5, 2) := by decide +kernel
theorem dX4_sumCovered_62 : decode cX4_sumCovered 62 = .ok (.iaload, 1) := by decide +kernel
theorem dX4_sumCovered_63 : decode cX4_sumCovered 63 = .ok (.iastore, 1) := by decide +kernel
theorem dX4_sumCovered_64 : decode cX4_sumCovered 64 = .ok (.iinc 4 1, 3) := by decide +kernel
theorem dX4_sumCovered_67 : decode cX4_sumCovered 67 = .ok (.lload_n 2, 1) := by decide +kernel
theorem dX4_sumCovered_68 : decode cX4_sumCovered 68 = .ok (.aload_n 0, 1) := by decide +kernel
theorem dX4_sumCovered_69 : decode cX4_sumCovered 69 = .ok (.getfield 18, 3) := by decide +kernel
theorem dX4_sumCovered_72 : decode cX4_sumCovered 72 = .ok (.iload 5, 2) := by decide +kernel
theorem dX4_sumCovered_74 : decode cX4_sumCovered 74 = .ok (.laload, 1) := by decide +kernel
theorem dX4_sumCovered_75 : decode cX4_sumCovered 75 = .ok (.ladd, 1) := by decide +kernel
theorem dX4_sumCovered_76 : decode cX4_sumCovered 76 = .ok (.lstore_n 2, 1) := by decide +kernel
theorem dX4_sumCovered_77 : decode cX4_sumCovered 77 = .ok (.iinc 5 (-1), 3) := by decide +kernel
theorem dX4_sumCovered_80 : decode cX4_sumCovered 80 = .ok (.goto (-70), 3) := by decide +kernel
theorem dX4_sumCovered_83 : decode cX4_sumCovered 83 = .ok (.lload_n 2, 1) := by decide +kernel
theorem dX4_sumCovered_84 : decode cX4_sumCovered 84 = .ok (.lreturn, 1) := by decide +kernel
theorem dX4_isBelowCovered_0 : decode cX4_isBelowCovered 0 = .ok (.iconst 0, 1) := by decide +kernel
theorem dX4_isBelowCovered_1 : decode cX4_isBelowCovered 1 = .ok (.istore_n 3, 1) := by decide +kernel
theorem dX4_isBelowCovered_2 : decode cX4_isBelowCovered 2 = .ok (.iload_n 3, 1) := by decide +kernel
theorem dX4_isBelowCovered_3 : decode cX4_isBelowCovered 3 = .ok (.iload_n 2, 1) := by decide +kernel
theorem dX4_isBelowCovered_4 : decode cX4_isBelowCovered 4 = .ok (.if_icmp .ge 24, 3) := by decide +kernel
theorem dX4_isBelowCovered_7 : decode cX4_isBelowCovered 7 = .ok (.iload_n 1, 1) := by decide +kernel
theorem dX4_isBelowCovered_8 : decode cX4_isBelowCovered 8 = .ok (.aload_n 0, 1) := by decide +kernel
theorem dX4_isBelowCovered_9 : decode cX4_isBelowCovered 9 = .ok (.getfield 22, 3) := by decide +kernel
theorem dX4_isBelowCovered_12 : decode cX4_isBelowCovered 12 = .ok (.iload_n 3, 1) := by decide +kernel
theorem dX4_isBelowCovered_13 : decode cX4_isBelowCovered 13 = .ok (.iaload, 1) := by decide +kernel
theorem dX4_isBelowCovered_14 : decode cX4_isBelowCovered 14 = .ok (.invokestatic 33, 3) := by decide +kernel
theorem dX4_isBelowCovered_17 : decode cX4_isBelowCovered 17 = .ok (.ifCond .eq 5, 3) := by decide +kernel
theorem dX4_isBelowCovered_20 : decode cX4_isBelowCovered 20 = .ok (.iconst 1, 1) := by decide +kernel
theorem dX4_isBelowCovered_21 : decode cX4_isBelowCovered 21 = .ok (.ireturn, 1) := by decide +kernel
theorem dX4_isBelowCovered_22 : decode cX4_isBelowCovered 22 = .ok (.iinc 3 1, 3) := by decide +kernel
theorem dX4_isBelowCovered_25 : decode cX4_isBelowCovered 25 = .ok (.goto (-23), 3) := by decide +kernel
theorem dX4_isBelowCovered_28 : decode cX4_isBelowCovered 28 = .ok (.iconst 0, 1) := by decide +kernel
theorem dX4_isBelowCovered_29 : decode cX4_isBelowCovered 29 = .ok (.ireturn, 1) := by decide +kernel
theorem dX5_init_0 : decode cX5_init 0 = .ok (.aload_n 0, 1) := by decide +kernel
theorem dX5_init_1 : decode cX5_init 1 = .ok (.invokespecial 3, 3) := by decide +kernel
theorem dX5_init_4 : decode cX5_init 4 = .ok (.aload_n 0, 1) := by decide +kernel
theorem dX5_init_5 : decode cX5_init 5 = .ok (.bipush 8, 2) := by decide +kernel
theorem dX5_init_7 : decode cX5_init 7 = .ok (.newarray .int, 2) := by decide +kernel
theorem dX5_init_9 : decode cX5_init 9 = .ok (.putfield 9, 3) := by decide +kernel
theorem dX5_init_12 : decode cX5_init 12 = .ok (.return_, 1) := by decide +kernel
theorem dX5_reset_0 : decode cX5_reset 0 = .ok (.iconst 0, 1) := by decide +kernel
theorem dX5_reset_1 : decode cX5_reset 1 = .ok (.istore_n 2, 1) := by decide +kernel
theorem dX5_reset_2 : decode cX5_reset 2 = .ok (.iload_n 2, 1) := by decide +kernel
theorem dX5_reset_3 : decode cX5_reset 3 = .ok (.bipush 8, 2) := by decide +kernel
theorem dX5_reset_5 : decode cX5_reset 5 = .ok (.if_icmp .ge 16, 3) := by decide +kernel
theorem dX5_reset_8 : decode cX5_reset 8 = .ok (.aload_n 0, 1) := by decide +kernel
theorem dX5_reset_9 : decode cX5_reset 9 = .ok (.getfield 9, 3) := by decide +kernel
theorem dX5_reset_12 : decode cX5_reset 12 = .ok (.iload_n 2, 1) := by decide +kernel
theorem dX5_reset_13 : decode cX5_reset 13 = .ok (.iconst (-1), 1) := by decide +kernel
theorem dX5_reset_14 : decode cX5_reset 14 = .ok (.iastore, 1) := by decide +kernel
theorem dX5_reset_15 : decode cX5_reset 15 = .ok (.iinc 2 1, 3) := by decide +kernel
theorem dX5_reset_18 : decode cX5_reset 18 = .ok (.goto (-16), 3) := by decide +kernel
theorem dX5_reset_21 : decode cX5_reset 21 = .ok (.aload_n 0, 1) := by decide +kernel
theorem dX5_reset_22 : decode cX5_reset 22 = .ok (.iload_n 1, 1) := by decide +kernel
theorem dX5_reset_23 : decode cX5_reset 23 = .ok (.putfield 15, 3) := by decide +kernel
theorem dX5_reset_26 : decode cX5_reset 26 = .ok (.aload_n 0, 1) := by decide +kernel
theorem dX5_reset_27 : decode cX5_reset 27 = .ok (.bipush 126, 2) := by decide +kernel
theorem dX5_reset_29 : decode cX5_reset 29 = .ok (.putfield 19, 3) := by decide +kernel
theorem dX5_reset_32 : decode cX5_reset 32 = .ok (.aload_n 0, 1) := by decide +kernel
theorem dX5_reset_33 : decode cX5_reset 33 = .ok (.bipush 126, 2) := by decide +kernel
theorem dX5_reset_35 : decode cX5_reset 35 = .ok (.putfield 22, 3) := by decide +kernel
theorem dX5_reset_38 : decode cX5_reset 38 = .ok (.aload_n 0, 1) := by decide +kernel
theorem dX5_reset_39 : decode cX5_reset 39 = .ok (.iconst 0, 1) := by decide +kernel
theorem dX5_reset_40 : decode cX5_reset 40 = .ok (.putfield 25, 3) := by decide +kernel
theorem dX5_reset_43 : decode cX5_reset 43 = .ok (.aload_n 0, 1) := by decide +kernel
theorem dX5_reset_44 : decode cX5_reset 44 = .ok (.iconst 0, 1) := by decide +kernel
theorem dX5_reset_45 : decode cX5_reset 45 = .ok (.putfield 28, 3) := by decide +kernel
theorem dX5_reset_48 : decode cX5_reset 48 = .ok (.aload_n 0, 1) := by decide +kernel
theorem dX5_reset_49 : decode cX5_reset 49 = .ok (.iconst 0, 1) := by decide +kernel
theorem dX5_reset_50 : decode cX5_reset 50 = .ok (.putfield 31, 3) := by decide +kernel
theorem dX5_reset_53 : decode cX5_reset 53 = .ok (.return_, 1) := by decide +kernel
theorem dX5_takeFrom_0 : decode cX5_takeFrom 0 = .ok (.iconst 0, 1) := by decide +kernel
theorem dX5_takeFrom_1 : decode cX5_takeFrom 1 = .ok (.istore_n 2, 1) := by decide +kernel
theorem dX5_takeFrom_2 : decode cX5_takeFrom 2 = .ok (.iload_n 2, 1) := by decide +kernel
theorem dX5_takeFrom_3 : decode cX5_takeFrom 3 = .ok (.bipush 8, 2) := by decide +kernel
theorem dX5_takeFrom_5 : decode cX5_takeFrom 5 = .ok (.if_icmp .ge 21, 3) := by decide +kernel
theorem dX5_takeFrom_8 : decode cX5_takeFrom 8 = .ok (.aload_n 0, 1) := by decide +kernel
theorem dX5_takeFrom_9 : decode cX5_takeFrom 9 = .ok (.getfield 9, 3) := by decide +kernel
theorem dX5_takeFrom_12 : decode cX5_takeFrom 12 = .ok (.iload_n 2, 1) := by decide +kernel
theorem dX5_takeFrom_13 : decode cX5_takeFrom 13 = .ok (.aload_n 1, 1) := by decide +kernel
theorem dX5_takeFrom_14 : decode cX5_takeFrom 14 = .ok (.getfield 9, 3) := by decide +kernel
theorem dX5_takeFrom_17 : decode cX5_takeFrom 17 = .ok (.iload_n 2, 1) := by decide +kernel
theorem dX5_takeFrom_18 : decode cX5_takeFrom 18 = .ok (.iaload, 1) := by decide +kernel
theorem dX5_takeFrom_19 : decode cX5_takeFrom 19 = .ok (.iastore, 1) := by decide +kernel
theorem dX5_takeFrom_20 : decode cX5_takeFrom 20 = .ok (.iinc 2 1, 3) := by decide +kernel
theorem dX5_takeFrom_23 : decode cX5_takeFrom 23 = .ok (.goto (-21), 3) := by decide +kernel
theorem dX5_takeFrom_26 : decode cX5_takeFrom 26 = .ok (.aload_n 0, 1) := by decide +kernel
theorem dX5_takeFrom_27 : decode cX5_takeFrom 27 = .ok (.aload_n 1, 1) := by decide +kernel
theorem dX5_takeFrom_28 : decode cX5_takeFrom 28 = .ok (.getfield 15, 3) := by decide +kernel
theorem dX5_takeFrom_31 : decode cX5_takeFrom 31 = .ok (.putfield 15, 3) := by decide +kernel
theorem dX5_takeFrom_34 : decode cX5_takeFrom 34 = .ok (.aload_n 0, 1) := by decide +kernel
theorem dX5_takeFrom_35 : decode cX5_takeFrom 35 = .ok (.aload_n 1, 1) := by decide +kernel
theorem dX5_takeFrom_36 : decode cX5_takeFrom 36 = .ok (.getfield 19, 3) := by decide +kernel
theorem dX5_takeFrom_39 : decode cX5_takeFrom 39 = .ok (.putfield 19, 3) := by decide +kernel
theorem dX5_takeFrom_42 : decode cX5_takeFrom 42 = .ok (.aload_n 0, 1) := by decide +kernel
theorem dX5_takeFrom_43 : decode cX5_takeFrom 43 = .ok (.aload_n 1, 1) := by decide +kernel
theorem dX5_takeFrom_44 : decode cX5_takeFrom 44 = .ok (.getfield 22, 3) := by decide +kernel
theorem dX5_takeFrom_47 : decode cX5_takeFrom 47 = .ok (.putfield 22, 3) := by decide +kernel
theorem dX5_takeFrom_50 : decode cX5_takeFrom 50 = .ok (.aload_n 0, 1) := by decide +kernel
theorem dX5_takeFrom_51 : decode cX5_takeFrom 51 = .ok (.aload_n 1, 1) := by decide +kernel
theorem dX5_takeFrom_52 : decode cX5_takeFrom 52 = .ok (.getfield 25, 3) := by decide +kernel
theorem dX5_takeFrom_55 : decode cX5_takeFrom 55 = .ok (.putfield 25, 3) := by decide +kernel
theorem dX5_takeFrom_58 : decode cX5_takeFrom 58 = .ok (.aload_n 0, 1) := by decide +kernel
theorem dX5_takeFrom_59 : decode cX5_takeFrom 59 = .ok (.aload_n 1, 1) := by decide +kernel
theorem dX5_takeFrom_60 : decode cX5_takeFrom 60 = .ok (.getfield 28, 3) := by decide +kernel
theorem dX5_takeFrom_63 : decode cX5_takeFrom 63 = .ok (.putfield 28, 3) := by decide +kernel
theorem dX5_takeFrom_66 : decode cX5_takeFrom 66 = .ok (.aload_n 0, 1) := by decide +kernel
theorem dX5_takeFrom_67 : decode cX5_takeFrom 67 = .ok (.aload_n 1, 1) := by decide +kernel
theorem dX5_takeFrom_68 : decode cX5_takeFrom 68 = .ok (.getfield 31, 3) := by decide +kernel
theorem dX5_takeFrom_71 : decode cX5_takeFrom 71 = .ok (.putfield 31, 3) := by decide +kernel
theorem dX5_takeFrom_74 : decode cX5_takeFrom 74 = .ok (.return_, 1) := by decide +kernel
theorem dX5_filledRegisters_0 : decode cX5_filledRegisters 0 = .ok (.iconst 0, 1) := by decide +kernel
theorem dX5_filledRegisters_1 : decode cX5_filledRegisters 1 = .ok (.istore_n 1, 1) := by decide +kernel
theorem dX5_filledRegisters_2 : decode cX5_filledRegisters 2 = .ok (.iconst 0, 1) := by decide +kernel
theorem dX5_filledRegisters_3 : decode cX5_filledRegisters 3 = .ok (.istore_n 2, 1) := by decide +kernel
theorem dX5_filledRegisters_4 : decode cX5_filledRegisters 4 = .ok (.iload_n 2, 1) := by decide +kernel
theorem dX5_filledRegisters_5 : decode cX5_filledRegisters 5 = .ok (.bipush 8, 2) := by decide +kernel
theorem dX5_filledRegisters_7 : decode cX5_filledRegisters 7 = .ok (.if_icmp .ge 22, 3) := by decide +kernel
theorem dX5_filledRegisters_10 : decode cX5_filledRegisters 10 = .ok (.aload_n 0, 1) := by decide +kernel
theorem dX5_filledRegisters_11 : decode cX5_filledRegisters 11 = .ok (.getfield 9, 3) := by decide +kernel
theorem dX5_filledRegisters_14 : decode cX5_filledRegisters 14 = .ok (.iload_n 2, 1) := by decide +kernel
theorem dX5_filledRegisters_15 : decode cX5_filledRegisters 15 = .ok (.iaload, 1) := by decide +kernel
theorem dX5_filledRegisters_16 : decode cX5_filledRegisters 16 = .ok (.iconst (-1), 1) := by decide +kernel
theorem dX5_filledRegisters_17 : decode cX5_filledRegisters 17 = .ok (.if_icmp .eq 6, 3) := by decide +kernel
theorem dX5_filledRegisters_20 : decode cX5_filledRegisters 20 = .ok (.iinc 1 1, 3) := by decide +kernel
theorem dX5_filledRegisters_23 : decode cX5_filledRegisters 23 = .ok (.iinc 2 1, 3) := by decide +kernel
theorem dX5_filledRegisters_26 : decode cX5_filledRegisters 26 = .ok (.goto (-22), 3) := by decide +kernel
theorem dX5_filledRegisters_29 : decode cX5_filledRegisters 29 = .ok (.iload_n 1, 1) := by decide +kernel
theorem dX5_filledRegisters_30 : decode cX5_filledRegisters 30 = .ok (.ireturn, 1) := by decide +kernel
theorem dX5_reason_0 : decode cX5_reason 0 = .ok (.iload_n 2, 1) := by decide +kernel
theorem dX5_reason_1 : decode cX5_reason 1 = .ok (.aload_n 0, 1) := by decide +kernel
theorem dX5_reason_2 : decode cX5_reason 2 = .ok (.getfield 19, 3) := by decide +kernel
theorem dX5_reason_5 : decode cX5_reason 5 = .ok (.iconst (-1), 1) := by decide +kernel
theorem dX5_reason_6 : decode cX5_reason 6 = .ok (.ixor, 1) := by decide +kernel
theorem dX5_reason_7 : decode cX5_reason 7 = .ok (.iand, 1) := by decide +kernel
theorem dX5_reason_8 : decode cX5_reason 8 = .ok (.ifCond .eq 5, 3) := by decide +kernel
theorem dX5_reason_11 : decode cX5_reason 11 = .ok (.iconst 1, 1) := by decide +kernel
theorem dX5_reason_12 : decode cX5_reason 12 = .ok (.ireturn, 1) := by decide +kernel
theorem dX5_reason_13 : decode cX5_reason 13 = .ok (.aload_n 0, 1) := by decide +kernel
theorem dX5_reason_14 : decode cX5_reason 14 = .ok (.getfield 22, 3) := by decide +kernel
theorem dX5_reason_17 : decode cX5_reason 17 = .ok (.iload_n 3, 1) := by decide +kernel
theorem dX5_reason_18 : decode cX5_reason 18 = .ok (.ishr, 1) := by decide +kernel
theorem dX5_reason_19 : decode cX5_reason 19 = .ok (.iconst 1, 1) := by decide +kernel
theorem dX5_reason_20 : decode cX5_reason 20 = .ok (.iand, 1) := by decide +kernel
theorem dX5_reason_21 : decode cX5_reason 21 = .ok (.ifCond .ne 5, 3) := by decide +kernel
theorem dX5_reason_24 : decode cX5_reason 24 = .ok (.iconst 2, 1) := by decide +kernel
theorem dX5_reason_25 : decode cX5_reason 25 = .ok (.ireturn, 1) := by decide +kernel
theorem dX5_reason_26 : decode cX5_reason 26 = .ok (.iload_n 1, 1) := by decide +kernel
theorem dX5_reason_27 : decode cX5_reason 27 = .ok (.aload_n 0, 1) := by decide +kernel
theorem dX5_reason_28 : decode cX5_reason 28 = .ok (.getfield 25, 3) := by decide +kernel
theorem dX5_reason_31 : decode cX5_reason 31 = .ok (.iand, 1) := by decide +kernel
theorem dX5_reason_32 : decode cX5_reason 32 = .ok (.ifCond .eq 5, 3) := by decide +kernel
theorem dX5_reason_35 : decode cX5_reason 35 = .ok (.iconst 3, 1) := by decide +kernel
theorem dX5_reason_36 : decode cX5_reason 36 = .ok (.ireturn, 1) := by decide +kernel
theorem dX5_reason_37 : decode cX5_reason 37 = .ok (.aload_n 0, 1) := by decide +kernel
theorem dX5_reason_38 : decode cX5_reason 38 = .ok (.getfield 28, 3) := by decide +kernel
theorem dX5_reason_41 : decode cX5_reason 41 = .ok (.iload_n 1, 1) := by decide +kernel
theorem dX5_reason_42 : decode cX5_reason 42 = .ok (.iconst (-1), 1) := by decide +kernel
theorem dX5_reason_43 : decode cX5_reason 43 = .ok (.ixor, 1) := by decide +kernel
theorem dX5_reason_44 : decode cX5_reason 44 = .ok (.iand, 1) := by decide +kernel
theorem dX5_reason_45 : decode cX5_reason 45 = .ok (.ifCond .eq 5, 3) := by decide +kernel
theorem dX5_reason_48 : decode cX5_reason 48 = .ok (.iconst 4, 1) := by decide +kernel
theorem dX5_reason_49 : decode cX5_reason 49 = .ok (.ireturn, 1) := by decide +kernel
theorem dX5_reason_50 : decode cX5_reason 50 = .ok (.aload_n 0, 1) := by decide +kernel
theorem dX5_reason_51 : decode cX5_reason 51 = .ok (.getfield 31, 3) := by decide +kernel
theorem dX5_reason_54 : decode cX5_reason 54 = .ok (.ifCond .eq 12, 3) := by decide +kernel
theorem dX5_reason_57 : decode cX5_reason 57 = .ok (.iload 4, 2) := by decide +kernel
theorem dX5_reason_59 : decode cX5_reason 59 = .ok (.ifCond .eq 7, 3) := by decide +kernel
theorem dX5_reason_62 : decode cX5_reason 62 = .ok (.iconst 5, 1) := by decide +kernel
theorem dX5_reason_63 : decode cX5_reason 63 = .ok (.goto 4, 3) := by decide +kernel
theorem dX5_reason_66 : decode cX5_reason 66 = .ok (.iconst 0, 1) := by decide +kernel
theorem dX5_reason_67 : decode cX5_reason 67 = .ok (.ireturn, 1) := by decide +kernel
theorem dX6_init_0 : decode cX6_init 0 = .ok (.aload_n 0, 1) := by decide +kernel
theorem dX6_init_1 : decode cX6_init 1 = .ok (.invokespecial 3, 3) := by decide +kernel
theorem dX6_init_4 : decode cX6_init 4 = .ok (.aload_n 0, 1) := by decide +kernel
theorem dX6_init_5 : decode cX6_init 5 = .ok (.bipush 20, 2) := by decide +kernel
theorem dX6_init_7 : decode cX6_init 7 = .ok (.newarray .int, 2) := by decide +kernel
theorem dX6_init_9 : decode cX6_init 9 = .ok (.putfield 9, 3) := by decide +kernel
theorem dX6_init_12 : decode cX6_init 12 = .ok (.return_, 1) := by decide +kernel
theorem dX6_append_0 : decode cX6_append 0 = .ok (.aload_n 0, 1) := by decide +kernel
theorem dX6_append_1 : decode cX6_append 1 = .ok (.getfield 15, 3) := by decide +kernel
theorem dX6_append_4 : decode cX6_append 4 = .ok (.bipush 20, 2) := by decide +kernel
theorem dX6_append_6 : decode cX6_append 6 = .ok (.if_icmp .lt 5, 3) := by decide +kernel
theorem dX6_append_9 : decode cX6_append 9 = .ok (.iconst 0, 1) := by decide +kernel
theorem dX6_append_10 : decode cX6_append 10 = .ok (.ireturn, 1) := by decide +kernel
theorem dX6_append_11 : decode cX6_append 11 = .ok (.aload_n 0, 1) := by decide +kernel
theorem dX6_append_12 : decode cX6_append 12 = .ok (.getfield 9, 3) := by decide +kernel
theorem dX6_append_15 : decode cX6_append 15 = .ok (.aload_n 0, 1) := by decide +kernel
theorem dX6_append_16 : decode cX6_append 16 = .ok (.getfield 15, 3) := by decide +kernel
theorem dX6_append_19 : decode cX6_append 19 = .ok (.iload_n 1, 1) := by decide +kernel
theorem dX6_append_20 : decode cX6_append 20 = .ok (.iastore, 1) := by decide +kernel
theorem dX6_append_21 : decode cX6_append 21 = .ok (.aload_n 0, 1) := by decide +kernel
theorem dX6_append_22 : decode cX6_append 22 = .ok (.dup, 1) := by decide +kernel
theorem dX6_append_23 : decode cX6_append 23 = .ok (.getfield 15, 3) := by decide +kernel
theorem dX6_append_26 : decode cX6_append 26 = .ok (.iconst 1, 1) := by decide +kernel
theorem dX6_append_27 : decode cX6_append 27 = .ok (.iadd, 1) := by decide +kernel
theorem dX6_append_28 : decode cX6_append 28 = .ok (.putfield 15, 3) := by decide +kernel
theorem dX6_append_31 : decode cX6_append 31 = .ok (.iconst 1, 1) := by decide +kernel
theorem dX6_append_32 : decode cX6_append 32 = .ok (.ireturn, 1) := by decide +kernel
theorem dX6_parse_0 : decode cX6_parse 0 = .ok (.iconst 0, 1) := by decide +kernel
theorem dX6_parse_1 : decode cX6_parse 1 = .ok (.istore_n 2, 1) := by decide +kernel
theorem dX6_parse_2 : decode cX6_parse 2 = .ok (.iconst 0, 1) := by decide +kernel
theorem dX6_parse_3 : decode cX6_parse 3 = .ok (.istore_n 3, 1) := by decide +kernel
theorem dX6_parse_4 : decode cX6_parse 4 = .ok (.iconst 0, 1) := by decide +kernel
theorem dX6_parse_5 : decode cX6_parse 5 = .ok (.istore 4, 2) := by decide +kernel
theorem dX6_parse_7 : decode cX6_parse 7 = .ok (.iconst 0, 1) := by decide +kernel
theorem dX6_parse_8 : decode cX6_parse 8 = .ok (.istore 5, 2) := by decide +kernel
theorem dX6_parse_10 : decode cX6_parse 10 = .ok (.iload 5, 2) := by decide +kernel
theorem dX6_parse_12 : decode cX6_parse 12 = .ok (.aload_n 0, 1) := by decide +kernel
theorem dX6_parse_13 : decode cX6_parse 13 = .ok (.getfield 15, 3) := by decide +kernel
theorem dX6_parse_16 : decode cX6_parse 16 = .ok (.if_icmp .ge 99, 3) := by decide +kernel
theorem dX6_parse_19 : decode cX6_parse 19 = .ok (.aload_n 0, 1) := by decide +kernel
theorem dX6_parse_20 : decode cX6_parse 20 = .ok (.getfield 9, 3) := by decide +kernel
theorem dX6_parse_23 : decode cX6_parse 23 = .ok (.iload 5, 2) := by decide +kernel
theorem dX6_parse_25 : decode cX6_parse 25 = .ok (.iaload, 1) := by decide +kernel
theorem dX6_parse_26 : decode cX6_parse 26 = .ok (.bipush 48, 2) := by decide +kernel
theorem dX6_parse_28 : decode cX6_parse 28 = .ok (.isub, 1) := by decide +kernel
theorem dX6_parse_29 : decode cX6_parse 29 = .ok (.istore 6, 2) := by decide +kernel
theorem dX6_parse_31 : decode cX6_parse 31 = .ok (.iload 6, 2) := by decide +kernel
theorem dX6_parse_33 : decode cX6_parse 33 = .ok (.ifCond .lt 47, 3) := by decide +kernel
theorem dX6_parse_36 : decode cX6_parse 36 = .ok (.iload 6, 2) := by decide +kernel
theorem dX6_parse_38 : decode cX6_parse 38 = .ok (.iload_n 1, 1) := by decide +kernel
theorem dX6_parse_39 : decode cX6_parse 39 = .ok (.if_icmp .ge 41, 3) := by decide +kernel
theorem dX6_parse_42 : decode cX6_parse 42 = .ok (.iload_n 3, 1) := by decide +kernel
theorem dX6_parse_43 : decode cX6_parse 43 = .ok (.iload 6, 2) := by decide +kernel
theorem dX6_parse_45 : decode cX6_parse 45 = .ok (.ishr, 1) := by decide +kernel
theorem dX6_parse_46 : decode cX6_parse 46 = .ok (.iconst 1, 1) := by decide +kernel
theorem dX6_parse_47 : decode cX6_parse 47 = .ok (.iand, 1) := by decide +kernel
theorem dX6_parse_48 : decode cX6_parse 48 = .ok (.ifCond .ne 32, 3) := by decide +kernel
theorem dX6_parse_51 : decode cX6_parse 51 = .ok (.iload_n 2, 1) := by decide +kernel
theorem dX6_parse_52 : decode cX6_parse 52 = .ok (.iload 4, 2) := by decide +kernel
theorem dX6_parse_54 : decode cX6_parse 54 = .ok (.iload 6, 2) := by decide +kernel
theorem dX6_parse_56 : decode cX6_parse 56 = .ok (.invokestatic 19, 3) := by decide +kernel
theorem dX6_parse_59 : decode cX6_parse 59 = .ok (.ior, 1) := by decide +kernel
theorem dX6_parse_60 : decode cX6_parse 60 = .ok (.istore_n 2, 1) := by decide +kernel
theorem dX6_parse_61 : decode cX6_parse 61 = .ok (.iload 4, 2) := by decide +kernel
theorem dX6_parse_63 : decode cX6_parse 63 = .ok (.iconst 1, 1) := by decide +kernel
theorem dX6_parse_64 : decode cX6_parse 64 = .ok (.iload 6, 2) := by decide +kernel
theorem dX6_parse_66 : decode cX6_parse 66 = .ok (.ishl, 1) := by decide +kernel
theorem dX6_parse_67 : decode cX6_parse 67 = .ok (.ior, 1) := by decide +kernel
theorem dX6_parse_68 : decode cX6_parse 68 = .ok (.istore 4, 2) := by decide +kernel
theorem dX6_parse_70 : decode cX6_parse 70 = .ok (.iload_n 3, 1) := by decide +kernel
theorem dX6_parse_71 : decode cX6_parse 71 = .ok (.iconst 1, 1) := by decide +kernel
theorem dX6_parse_72 : decode cX6_parse 72 = .ok (.iload 6, 2) := by decide +kernel
theorem dX6_parse_74 : decode cX6_parse 74 = .ok (.ishl, 1) := by decide +kernel
theorem dX6_parse_75 : decode cX6_parse 75 = .ok (.ior, 1) := by decide +kernel
theorem dX6_parse_76 : decode cX6_parse 76 = .ok (.istore_n 3, 1) := by decide +kernel
theorem dX6_parse_77 : decode cX6_parse 77 = .ok (.goto 32, 3) := by decide +kernel
theorem dX6_parse_80 : decode cX6_parse 80 = .ok (.aload_n 0, 1) := by decide +kernel
theorem dX6_parse_81 : decode cX6_parse 81 = .ok (.getfield 9, 3) := by decide +kernel
theorem dX6_parse_84 : decode cX6_parse 84 = .ok (.iload 5, 2) := by decide +kernel
theorem dX6_parse_86 : decode cX6_parse 86 = .ok (.iaload, 1) := by decide +kernel
theorem dX6_parse_87 : decode cX6_parse 87 = .ok (.bipush 47, 2) := by decide +kernel
theorem dX6_parse_89 : decode cX6_parse 89 = .ok (.if_icmp .ne 14, 3) := by decide +kernel
theorem dX6_parse_92 : decode cX6_parse 92 = .ok (.iload 4, 2) := by decide +kernel
theorem dX6_parse_94 : decode cX6_parse 94 = .ok (.ifCond .eq 9, 3) := by decide +kernel
theorem dX6_parse_97 : decode cX6_parse 97 = .ok (.iconst 0, 1) := by decide +kernel
theorem dX6_parse_98 : decode cX6_parse 98 = .ok (.istore 4, 2) := by decide +kernel
theorem dX6_parse_100 : decode cX6_parse 100 = .ok (.goto 9, 3) := by decide +kernel
theorem dX6_parse_103 : decode cX6_parse 103 = .ok (.bipush (-10), 2) := by decide +kernel
theorem dX6_parse_105 : decode cX6_parse 105 = .ok (.iload 5, 2) := by decide +kernel
theorem dX6_parse_107 : decode cX6_parse 107 = .ok (.isub, 1) := by decide +kernel
theorem dX6_parse_108 : decode cX6_parse 108 = .ok (.ireturn, 1) := by decide +kernel
theorem dX6_parse_109 : decode cX6_parse 109 = .ok (.iinc 5 1, 3) := by decide +kernel
theorem dX6_parse_112 : decode cX6_parse 112 = .ok (.goto (-102), 3) := by decide +kernel
theorem dX6_parse_115 : decode cX6_parse 115 = .ok (.iload 4, 2) := by decide +kernel
theorem dX6_parse_117 : decode cX6_parse 117 = .ok (.ifCond .eq 16, 3) := by decide +kernel
theorem dX6_parse_120 : decode cX6_parse 120 = .ok (.iload_n 3, 1) := by decide +kernel
theorem dX6_parse_121 : decode cX6_parse 121 = .ok (.iconst 1, 1) := by decide +kernel
theorem dX6_parse_122 : decode cX6_parse 122 = .ok (.iload_n 1, 1) := by decide +kernel
theorem dX6_parse_123 : decode cX6_parse 123 = .ok (.ishl, 1) := by decide +kernel
theorem dX6_parse_124 : decode cX6_parse 124 = .ok (.iconst 1, 1) := by decide +kernel
theorem dX6_parse_125 : decode cX6_parse 125 = .ok (.isub, 1) := by decide +kernel
theorem dX6_parse_126 : decode cX6_parse 126 = .ok (.if_icmp .ne 7, 3) := by decide +kernel
theorem dX6_parse_129 : decode cX6_parse 129 = .ok (.iconst 1, 1) := by decide +kernel
theorem dX6_parse_130 : decode cX6_parse 130 = .ok (.goto 4, 3) := by decide +kernel
theorem dX6_parse_133 : decode cX6_parse 133 = .ok (.iconst 0, 1) := by decide +kernel
theorem dX6_parse_134 : decode cX6_parse 134 = .ok (.istore 5, 2) := by decide +kernel
theorem dX6_parse_136 : decode cX6_parse 136 = .ok (.iload 5, 2) := by decide +kernel
theorem dX6_parse_138 : decode cX6_parse 138 = .ok (.ifCond .eq 7, 3) := by decide +kernel
theorem dX6_parse_141 : decode cX6_parse 141 = .ok (.iload_n 2, 1) := by decide +kernel
theorem dX6_parse_142 : decode cX6_parse 142 = .ok (.goto 10, 3) := by decide +kernel
theorem dX6_parse_145 : decode cX6_parse 145 = .ok (.bipush (-10), 2) := by decide +kernel
theorem dX6_parse_147 : decode cX6_parse 147 = .ok (.aload_n 0, 1) := by decide +kernel
theorem dX6_parse_148 : decode cX6_parse 148 = .ok (.getfield 15, 3) := by decide +kernel
theorem dX6_parse_151 : decode cX6_parse 151 = .ok (.isub, 1) := by decide +kernel
theorem dX6_parse_152 : decode cX6_parse 152 = .ok (.ireturn, 1) := by decide +kernel
theorem dX7_init_0 : decode cX7_init 0 = .ok (.aload_n 0, 1) := by decide +kernel
theorem dX7_init_1 : decode cX7_init 1 = .ok (.invokespecial 1, 3) := by decide +kernel
theorem dX7_init_4 : decode cX7_init 4 = .ok (.aload_n 0, 1) := by decide +kernel
theorem dX7_init_5 : decode cX7_init 5 = .ok (.new 7, 3) := by decide +kernel
theorem dX7_init_8 : decode cX7_init 8 = .ok (.dup, 1) := by decide +kernel
theorem dX7_init_9 : decode cX7_init 9 = .ok (.invokespecial 9, 3) := by decide +kernel
theorem dX7_init_12 : decode cX7_init 12 = .ok (.putfield 10, 3) := by decide +kernel
theorem dX7_init_15 : decode cX7_init 15 = .ok (.aload_n 0, 1) := by decide +kernel
theorem dX7_init_16 : decode cX7_init 16 = .ok (.new 16, 3) := by decide +kernel
theorem dX7_init_19 : decode cX7_init 19 = .ok (.dup, 1) := by decide +kernel
theorem dX7_init_20 : decode cX7_init 20 = .ok (.invokespecial 18, 3) := by decide +kernel
theorem dX7_init_23 : decode cX7_init 23 = .ok (.putfield 19, 3) := by decide +kernel
theorem dX7_init_26 : decode cX7_init 26 = .ok (.aload_n 0, 1) := by decide +kernel
theorem dX7_init_27 : decode cX7_init 27 = .ok (.new 23, 3) := by decide +kernel
theorem dX7_init_30 : decode cX7_init 30 = .ok (.dup, 1) := by decide +kernel
theorem dX7_init_31 : decode cX7_init 31 = .ok (.invokespecial 25, 3) := by decide +kernel
theorem dX7_init_34 : decode cX7_init 34 = .ok (.putfield 26, 3) := by decide +kernel
theorem dX7_init_37 : decode cX7_init 37 = .ok (.aload_n 0, 1) := by decide +kernel
theorem dX7_init_38 : decode cX7_init 38 = .ok (.new 30, 3) := by decide +kernel
theorem dX7_init_41 : decode cX7_init 41 = .ok (.dup, 1) := by decide +kernel
theorem dX7_init_42 : decode cX7_init 42 = .ok (.invokespecial 32, 3) := by decide +kernel
theorem dX7_init_45 : decode cX7_init 45 = .ok (.putfield 33, 3) := by decide +kernel
theorem dX7_init_48 : decode cX7_init 48 = .ok (.aload_n 0, 1) := by decide +kernel
theorem dX7_init_49 : decode cX7_init 49 = .ok (.new 37, 3) := by decide +kernel
theorem dX7_init_52 : decode cX7_init 52 = .ok (.dup, 1) := by decide +kernel
theorem dX7_init_53 : decode cX7_init 53 = .ok (.invokespecial 39, 3) := by decide +kernel
theorem dX7_init_56 : decode cX7_init 56 = .ok (.putfield 40, 3) := by decide +kernel
theorem dX7_init_59 : decode cX7_init 59 = .ok (.aload_n 0, 1) := by decide +kernel
theorem dX7_init_60 : decode cX7_init 60 = .ok (.new 44, 3) := by decide +kernel
theorem dX7_init_63 : decode cX7_init 63 = .ok (.dup, 1) := by decide +kernel
theorem dX7_init_64 : decode cX7_init 64 = .ok (.invokespecial 46, 3) := by decide +kernel
theorem dX7_init_67 : decode cX7_init 67 = .ok (.putfield 47, 3) := by decide +kernel
theorem dX7_init_70 : decode cX7_init 70 = .ok (.aload_n 0, 1) := by decide +kernel
theorem dX7_init_71 : decode cX7_init 71 = .ok (.new 51, 3) := by decide +kernel
theorem dX7_init_74 : decode cX7_init 74 = .ok (.dup, 1) := by decide +kernel
theorem dX7_init_75 : decode cX7_init 75 = .ok (.invokespecial 53, 3) := by decide +kernel
theorem dX7_init_78 : decode cX7_init 78 = .ok (.putfield 54, 3) := by decide +kernel
theorem dX7_init_81 : decode cX7_init 81 = .ok (.aload_n 0, 1) := by decide +kernel
theorem dX7_init_82 : decode cX7_init 82 = .ok (.new 51, 3) := by decide +kernel
theorem dX7_init_85 : decode cX7_init 85 = .ok (.dup, 1) := by decide +kernel
theorem dX7_init_86 : decode cX7_init 86 = .ok (.invokespecial 53, 3) := by decide +kernel
theorem dX7_init_89 : decode cX7_init 89 = .ok (.putfield 58, 3) := by decide +kernel
theorem dX7_init_92 : decode cX7_init 92 = .ok (.aload_n 0, 1) := by decide +kernel
theorem dX7_init_93 : decode cX7_init 93 = .ok (.bipush 6, 2) := by decide +kernel
theorem dX7_init_95 : decode cX7_init 95 = .ok (.newarray .int, 2) := by decide +kernel
theorem dX7_init_97 : decode cX7_init 97 = .ok (.putfield 61, 3) := by decide +kernel
theorem dX7_init_100 : decode cX7_init 100 = .ok (.aload_n 0, 1) := by decide +kernel
theorem dX7_init_101 : decode cX7_init 101 = .ok (.bipush 64, 2) := by decide +kernel
theorem dX7_init_103 : decode cX7_init 103 = .ok (.newarray .int, 2) := by decide +kernel
theorem dX7_init_105 : decode cX7_init 105 = .ok (.putfield 65, 3) := by decide +kernel
theorem dX7_init_108 : decode cX7_init 108 = .ok (.aload_n 0, 1) := by decide +kernel
theorem dX7_init_109 : decode cX7_init 109 = .ok (.getfield 10, 3) := by decide +kernel
theorem dX7_init_112 : decode cX7_init 112 = .ok (.iconst 5, 1) := by decide +kernel
theorem dX7_init_113 : decode cX7_init 113 = .ok (.invokevirtual 68, 3) := by decide +kernel
theorem dX7_init_116 : decode cX7_init 116 = .ok (.aload_n 0, 1) := by decide +kernel
theorem dX7_init_117 : decode cX7_init 117 = .ok (.invokevirtual 72, 3) := by decide +kernel
theorem dX7_init_120 : decode cX7_init 120 = .ok (.return_, 1) := by decide +kernel
theorem dX7_setSize_0 : decode cX7_setSize 0 = .ok (.iload_n 1, 1) := by decide +kernel
theorem dX7_setSize_1 : decode cX7_setSize 1 = .ok (.iconst 1, 1) := by decide +kernel
theorem dX7_setSize_2 : decode cX7_setSize 2 = .ok (.if_icmp .lt 9, 3) := by decide +kernel
theorem dX7_setSize_5 : decode cX7_setSize 5 = .ok (.iload_n 1, 1) := by decide +kernel
theorem dX7_setSize_6 : decode cX7_setSize 6 = .ok (.bipush 6, 2) := by decide +kernel
theorem dX7_setSize_8 : decode cX7_setSize 8 = .ok (.if_icmp .le 5, 3) := by decide +kernel
theorem dX7_setSize_11 : decode cX7_setSize 11 = .ok (.iconst (-1), 1) := by decide +kernel
theorem dX7_setSize_12 : decode cX7_setSize 12 = .ok (.ireturn, 1) := by decide +kernel
theorem dX7_setSize_13 : decode cX7_setSize 13 = .ok (.aload_n 0, 1) := by decide +kernel
theorem dX7_setSize_14 : decode cX7_setSize 14 = .ok (.getfield 10, 3) := by decide +kernel
theorem dX7_setSize_17 : decode cX7_setSize 17 = .ok (.getfield 75, 3) := by decide +kernel
theorem dX7_setSize_20 : decode cX7_setSize 20 = .ok (.istore_n 2, 1) := by decide +kernel
theorem dX7_setSize_21 : decode cX7_setSize 21 = .ok (.aload_n 0, 1) := by decide +kernel
theorem dX7_setSize_22 : decode cX7_setSize 22 = .ok (.getfield 19, 3) := by decide +kernel
theorem dX7_setSize_25 : decode cX7_setSize 25 = .ok (.aload_n 0, 1) := by decide +kernel
theorem dX7_setSize_26 : decode cX7_setSize 26 = .ok (.getfield 10, 3) := by decide +kernel
theorem dX7_setSize_29 : decode cX7_setSize 29 = .ok (.invokevirtual 79, 3) := by decide +kernel
theorem dX7_setSize_32 : decode cX7_setSize 32 = .ok (.aload_n 0, 1) := by decide +kernel
theorem dX7_setSize_33 : decode cX7_setSize 33 = .ok (.getfield 10, 3) := by decide +kernel
theorem dX7_setSize_36 : decode cX7_setSize 36 = .ok (.iload_n 1, 1) := by decide +kernel
theorem dX7_setSize_37 : decode cX7_setSize 37 = .ok (.invokevirtual 68, 3) := by decide +kernel
theorem dX7_setSize_40 : decode cX7_setSize 40 = .ok (.aload_n 0, 1) := by decide +kernel
theorem dX7_setSize_41 : decode cX7_setSize 41 = .ok (.invokevirtual 72, 3) := by decide +kernel
theorem dX7_setSize_44 : decode cX7_setSize 44 = .ok (.iload_n 2, 1) := by decide +kernel
theorem dX7_setSize_45 : decode cX7_setSize 45 = .ok (.ireturn, 1) := by decide +kernel
theorem dX7_allowSize_0 : decode cX7_allowSize 0 = .ok (.iload_n 1, 1) := by decide +kernel
theorem dX7_allowSize_1 : decode cX7_allowSize 1 = .ok (.iconst 1, 1) := by decide +kernel
theorem dX7_allowSize_2 : decode cX7_allowSize 2 = .ok (.if_icmp .lt 9, 3) := by decide +kernel
theorem dX7_allowSize_5 : decode cX7_allowSize 5 = .ok (.iload_n 1, 1) := by decide +kernel
theorem dX7_allowSize_6 : decode cX7_allowSize 6 = .ok (.bipush 6, 2) := by decide +kernel
theorem dX7_allowSize_8 : decode cX7_allowSize 8 = .ok (.if_icmp .le 5, 3) := by decide +kernel
theorem dX7_allowSize_11 : decode cX7_allowSize 11 = .ok (.iconst (-1), 1) := by decide +kernel
theorem dX7_allowSize_12 : decode cX7_allowSize 12 = .ok (.ireturn, 1) := by decide +kernel
theorem dX7_allowSize_13 : decode cX7_allowSize 13 = .ok (.aload_n 0, 1) := by decide +kernel
theorem dX7_allowSize_14 : decode cX7_allowSize 14 = .ok (.getfield 10, 3) := by decide +kernel
theorem dX7_allowSize_17 : decode cX7_allowSize 17 = .ok (.getfield 83, 3) := by decide +kernel
theorem dX7_allowSize_20 : decode cX7_allowSize 20 = .ok (.iload_n 1, 1) := by decide +kernel
theorem dX7_allowSize_21 : decode cX7_allowSize 21 = .ok (.ishr, 1) := by decide +kernel
theorem dX7_allowSize_22 : decode cX7_allowSize 22 = .ok (.iconst 1, 1) := by decide +kernel
theorem dX7_allowSize_23 : decode cX7_allowSize 23 = .ok (.iand, 1) := by decide +kernel
theorem dX7_allowSize_24 : decode cX7_allowSize 24 = .ok (.istore_n 3, 1) := by decide +kernel
theorem dX7_allowSize_25 : decode cX7_allowSize 25 = .ok (.aload_n 0, 1) := by decide +kernel
theorem dX7_allowSize_26 : decode cX7_allowSize 26 = .ok (.getfield 19, 3) := by decide +kernel
theorem dX7_allowSize_29 : decode cX7_allowSize 29 = .ok (.aload_n 0, 1) := by decide +kernel
theorem dX7_allowSize_30 : decode cX7_allowSize 30 = .ok (.getfield 10, 3) := by decide +kernel
theorem dX7_allowSize_33 : decode cX7_allowSize 33 = .ok (.invokevirtual 79, 3) := by decide +kernel
theorem dX7_allowSize_36 : decode cX7_allowSize 36 = .ok (.aload_n 0, 1) := by decide +kernel
theorem dX7_allowSize_37 : decode cX7_allowSize 37 = .ok (.getfield 10, 3) := by decide +kernel
theorem dX7_allowSize_40 : decode cX7_allowSize 40 = .ok (.aload_n 0, 1) := by decide +kernel
theorem dX7_allowSize_41 : decode cX7_allowSize 41 = .ok (.getfield 10, 3) := by decide +kernel
theorem dX7_allowSize_44 : decode cX7_allowSize 44 = .ok (.getfield 83, 3) := by decide +kernel
theorem dX7_allowSize_47 : decode cX7_allowSize 47 = .ok (.iconst 1, 1) := by decide +kernel
theorem dX7_allowSize_48 : decode cX7_allowSize 48 = .ok (.iload_n 1, 1) := by decide +kernel
theorem dX7_allowSize_49 : decode cX7_allowSize 49 = .ok (.ishl, 1) := by decide +kernel
theorem dX7_allowSize_50 : decode cX7_allowSize 50 = .ok (.iload_n 2, 1) := by decide +kernel
theorem dX7_allowSize_51 : decode cX7_allowSize 51 = .ok (.invokestatic 86, 3) := by decide +kernel
theorem dX7_allowSize_54 : decode cX7_allowSize 54 = .ok (.putfield 83, 3) := by decide +kernel
theorem dX7_allowSize_57 : decode cX7_allowSize 57 = .ok (.aload_n 0, 1) := by decide +kernel
theorem dX7_allowSize_58 : decode cX7_allowSize 58 = .ok (.invokevirtual 72, 3) := by decide +kernel
theorem dX7_allowSize_61 : decode cX7_allowSize 61 = .ok (.iload_n 3, 1) := by decide +kernel
theorem dX7_allowSize_62 : decode cX7_allowSize 62 = .ok (.ireturn, 1) := by decide +kernel
theorem dX7_allowNumber_0 : decode cX7_allowNumber 0 = .ok (.iload_n 1, 1) := by decide +kernel
theorem dX7_allowNumber_1 : decode cX7_allowNumber 1 = .ok (.iconst 1, 1) := by decide +kernel
theorem dX7_allowNumber_2 : decode cX7_allowNumber 2 = .ok (.if_icmp .lt 9, 3) := by decide +kernel
theorem dX7_allowNumber_5 : decode cX7_allowNumber 5 = .ok (.iload_n 1, 1) := by decide +kernel
theorem dX7_allowNumber_6 : decode cX7_allowNumber 6 = .ok (.bipush 6, 2) := by decide +kernel
theorem dX7_allowNumber_8 : decode cX7_allowNumber 8 = .ok (.if_icmp .le 5, 3) := by decide +kernel
theorem dX7_allowNumber_11 : decode cX7_allowNumber 11 = .ok (.iconst (-1), 1) := by decide +kernel
theorem dX7_allowNumber_12 : decode cX7_allowNumber 12 = .ok (.ireturn, 1) := by decide +kernel
theorem dX7_allowNumber_13 : decode cX7_allowNumber 13 = .ok (.aload_n 0, 1) := by decide +kernel
theorem dX7_allowNumber_14 : decode cX7_allowNumber 14 = .ok (.getfield 10, 3) := by decide +kernel
theorem dX7_allowNumber_17 : decode cX7_allowNumber 17 = .ok (.getfield 90, 3) := by decide +kernel
theorem dX7_allowNumber_20 : decode cX7_allowNumber 20 = .ok (.iload_n 1, 1) := by decide +kernel
theorem dX7_allowNumber_21 : decode cX7_allowNumber 21 = .ok (.ishr, 1) := by decide +kernel
theorem dX7_allowNumber_22 : decode cX7_allowNumber 22 = .ok (.iconst 1, 1) := by decide +kernel
theorem dX7_allowNumber_23 : decode cX7_allowNumber 23 = .ok (.iand, 1) := by decide +kernel
theorem dX7_allowNumber_24 : decode cX7_allowNumber 24 = .ok (.istore_n 3, 1) := by decide +kernel
theorem dX7_allowNumber_25 : decode cX7_allowNumber 25 = .ok (.aload_n 0, 1) := by decide +kernel
theorem dX7_allowNumber_26 : decode cX7_allowNumber 26 = .ok (.getfield 19, 3) := by decide +kernel
theorem dX7_allowNumber_29 : decode cX7_allowNumber 29 = .ok (.aload_n 0, 1) := by decide +kernel
theorem dX7_allowNumber_30 : decode cX7_allowNumber 30 = .ok (.getfield 10, 3) := by decide +kernel
theorem dX7_allowNumber_33 : decode cX7_allowNumber 33 = .ok (.invokevirtual 79, 3) := by decide +kernel
theorem dX7_allowNumber_36 : decode cX7_allowNumber 36 = .ok (.aload_n 0, 1) := by decide +kernel
theorem dX7_allowNumber_37 : decode cX7_allowNumber 37 = .ok (.getfield 10, 3) := by decide +kernel
theorem dX7_allowNumber_40 : decode cX7_allowNumber 40 = .ok (.aload_n 0, 1) := by decide +kernel
theorem dX7_allowNumber_41 : decode cX7_allowNumber 41 = .ok (.getfield 10, 3) := by decide +kernel
theorem dX7_allowNumber_44 : decode cX7_allowNumber 44 = .ok (.getfield 90, 3) := by decide +kernel
theorem dX7_allowNumber_47 : decode cX7_allowNumber 47 = .ok (.iconst 1, 1) := by decide +kernel
theorem dX7_allowNumber_48 : decode cX7_allowNumber 48 = .ok (.iload_n 1, 1) := by decide +kernel
theorem dX7_allowNumber_49 : decode cX7_allowNumber 49 = .ok (.ishl, 1) := by decide +kernel
theorem dX7_allowNumber_50 : decode cX7_allowNumber 50 = .ok (.iload_n 2, 1) := by decide +kernel
theorem dX7_allowNumber_51 : decode cX7_allowNumber 51 = .ok (.invokestatic 86, 3) := by decide +kernel
theorem dX7_allowNumber_54 : decode cX7_allowNumber 54 = .ok (.putfield 90, 3) := by decide +kernel
theorem dX7_allowNumber_57 : decode cX7_allowNumber 57 = .ok (.aload_n 0, 1) := by decide +kernel
theorem dX7_allowNumber_58 : decode cX7_allowNumber 58 = .ok (.invokevirtual 72, 3) := by decide +kernel
theorem dX7_allowNumber_61 : decode cX7_allowNumber 61 = .ok (.iload_n 3, 1) := by decide +kernel
theorem dX7_allowNumber_62 : decode cX7_allowNumber 62 = .ok (.ireturn, 1) := by decide +kernel
theorem dX7_apart_0 : decode cX7_apart 0 = .ok (.aload_n 0, 1) := by decide +kernel
theorem dX7_apart_1 : decode cX7_apart 1 = .ok (.iload_n 1, 1) := by decide +kernel
theorem dX7_apart_2 : decode cX7_apart 2 = .ok (.invokevirtual 93, 3) := by decide +kernel
theorem dX7_apart_5 : decode cX7_apart 5 = .ok (.ifCond .eq 16, 3) := by decide +kernel
theorem dX7_apart_8 : decode cX7_apart 8 = .ok (.aload_n 0, 1) := by decide +kernel
theorem dX7_apart_9 : decode cX7_apart 9 = .ok (.iload_n 2, 1) := by decide +kernel
theorem dX7_apart_10 : decode cX7_apart 10 = .ok (.invokevirtual 93, 3) := by decide +kernel
theorem dX7_apart_13 : decode cX7_apart 13 = .ok (.ifCond .eq 8, 3) := by decide +kernel
theorem dX7_apart_16 : decode cX7_apart 16 = .ok (.iload_n 1, 1) := by decide +kernel
theorem dX7_apart_17 : decode cX7_apart 17 = .ok (.iload_n 2, 1) := by decide +kernel
theorem dX7_apart_18 : decode cX7_apart 18 = .ok (.if_icmp .ne 5, 3) := by decide +kernel
theorem dX7_apart_21 : decode cX7_apart 21 = .ok (.iconst (-1), 1) := by decide +kernel
theorem dX7_apart_22 : decode cX7_apart 22 = .ok (.ireturn, 1) := by decide +kernel
theorem dX7_apart_23 : decode cX7_apart 23 = .ok (.iload_n 1, 1) := by decide +kernel
theorem dX7_apart_24 : decode cX7_apart 24 = .ok (.iload_n 2, 1) := by decide +kernel
theorem dX7_apart_25 : decode cX7_apart 25 = .ok (.invokestatic 97, 3) := by decide +kernel
theorem dX7_apart_28 : decode cX7_apart 28 = .ok (.istore 4, 2) := by decide +kernel
theorem dX7_apart_30 : decode cX7_apart 30 = .ok (.aload_n 0, 1) := by decide +kernel
theorem dX7_apart_31 : decode cX7_apart 31 = .ok (.getfield 10, 3) := by decide +kernel
theorem dX7_apart_34 : decode cX7_apart 34 = .ok (.getfield 101, 3) := by decide +kernel
theorem dX7_apart_37 : decode cX7_apart 37 = .ok (.iload 4, 2) := by decide +kernel
theorem dX7_apart_39 : decode cX7_apart 39 = .ok (.iand, 1) := by decide +kernel
theorem dX7_apart_40 : decode cX7_apart 40 = .ok (.ifCond .eq 7, 3) := by decide +kernel
theorem dX7_apart_43 : decode cX7_apart 43 = .ok (.iconst 1, 1) := by decide +kernel
theorem dX7_apart_44 : decode cX7_apart 44 = .ok (.goto 4, 3) := by decide +kernel
theorem dX7_apart_47 : decode cX7_apart 47 = .ok (.iconst 0, 1) := by decide +kernel
theorem dX7_apart_48 : decode cX7_apart 48 = .ok (.istore 5, 2) := by decide +kernel
theorem dX7_apart_50 : decode cX7_apart 50 = .ok (.aload_n 0, 1) := by decide +kernel
theorem dX7_apart_51 : decode cX7_apart 51 = .ok (.getfield 19, 3) := by decide +kernel
theorem dX7_apart_54 : decode cX7_apart 54 = .ok (.aload_n 0, 1) := by decide +kernel
theorem dX7_apart_55 : decode cX7_apart 55 = .ok (.getfield 10, 3) := by decide +kernel
theorem dX7_apart_58 : decode cX7_apart 58 = .ok (.invokevirtual 79, 3) := by decide +kernel
theorem dX7_apart_61 : decode cX7_apart 61 = .ok (.aload_n 0, 1) := by decide +kernel
theorem dX7_apart_62 : decode cX7_apart 62 = .ok (.getfield 10, 3) := by decide +kernel
theorem dX7_apart_65 : decode cX7_apart 65 = .ok (.aload_n 0, 1) := by decide +kernel
theorem dX7_apart_66 : decode cX7_apart 66 = .ok (.getfield 10, 3) := by decide +kernel
theorem dX7_apart_69 : decode cX7_apart 69 = .ok (.getfield 101, 3) := by decide +kernel
theorem dX7_apart_72 : decode cX7_apart 72 = .ok (.iload 4, 2) := by decide +kernel
theorem dX7_apart_74 : decode cX7_apart 74 = .ok (.iload_n 3, 1) := by decide +kernel
theorem dX7_apart_75 : decode cX7_apart 75 = .ok (.invokestatic 86, 3) := by decide +kernel
theorem dX7_apart_78 : decode cX7_apart 78 = .ok (.putfield 101, 3) := by decide +kernel
theorem dX7_apart_81 : decode cX7_apart 81 = .ok (.aload_n 0, 1) := by decide +kernel
theorem dX7_apart_82 : decode cX7_apart 82 = .ok (.invokevirtual 72, 3) := by decide +kernel
theorem dX7_apart_85 : decode cX7_apart 85 = .ok (.iload 5, 2) := by decide +kernel
theorem dX7_apart_87 : decode cX7_apart 87 = .ok (.ireturn, 1) := by decide +kernel
theorem dX7_together_0 : decode cX7_together 0 = .ok (.aload_n 0, 1) := by decide +kernel
theorem dX7_together_1 : decode cX7_together 1 = .ok (.iload_n 1, 1) := by decide +kernel
theorem dX7_together_2 : decode cX7_together 2 = .ok (.invokevirtual 93, 3) := by decide +kernel
theorem dX7_together_5 : decode cX7_together 5 = .ok (.ifCond .eq 16, 3) := by decide +kernel
theorem dX7_together_8 : decode cX7_together 8 = .ok (.aload_n 0, 1) := by decide +kernel
theorem dX7_together_9 : decode cX7_together 9 = .ok (.iload_n 2, 1) := by decide +kernel
theorem dX7_together_10 : decode cX7_together 10 = .ok (.invokevirtual 93, 3) := by decide +kernel
theorem dX7_together_13 : decode cX7_together 13 = .ok (.ifCond .eq 8, 3) := by decide +kernel
theorem dX7_together_16 : decode cX7_together 16 = .ok (.iload_n 1, 1) := by decide +kernel
theorem dX7_together_17 : decode cX7_together 17 = .ok (.iload_n 2, 1) := by decide +kernel
theorem dX7_together_18 : decode cX7_together 18 = .ok (.if_icmp .ne 5, 3) := by decide +kernel
theorem dX7_together_21 : decode cX7_together 21 = .ok (.iconst (-1), 1) := by decide +kernel
theorem dX7_together_22 : decode cX7_together 22 = .ok (.ireturn, 1) := by decide +kernel
theorem dX7_together_23 : decode cX7_together 23 = .ok (.iload_n 1, 1) := by decide +kernel
theorem dX7_together_24 : decode cX7_together 24 = .ok (.iload_n 2, 1) := by decide +kernel
theorem dX7_together_25 : decode cX7_together 25 = .ok (.invokestatic 97, 3) := by decide +kernel
theorem dX7_together_28 : decode cX7_together 28 = .ok (.istore 4, 2) := by decide +kernel
theorem dX7_together_30 : decode cX7_together 30 = .ok (.aload_n 0, 1) := by decide +kernel
theorem dX7_together_31 : decode cX7_together 31 = .ok (.getfield 10, 3) := by decide +kernel
theorem dX7_together_34 : decode cX7_together 34 = .ok (.getfield 104, 3) := by decide +kernel
theorem dX7_together_37 : decode cX7_together 37 = .ok (.iload 4, 2) := by decide +kernel
theorem dX7_together_39 : decode cX7_together 39 = .ok (.iand, 1) := by decide +kernel
theorem dX7_together_40 : decode cX7_together 40 = .ok (.ifCond .eq 7, 3) := by decide +kernel
theorem dX7_together_43 : decode cX7_together 43 = .ok (.iconst 1, 1) := by decide +kernel
theorem dX7_together_44 : decode cX7_together 44 = .ok (.goto 4, 3) := by decide +kernel
theorem dX7_together_47 : decode cX7_together 47 = .ok (.iconst 0, 1) := by decide +kernel
theorem dX7_together_48 : decode cX7_together 48 = .ok (.istore 5, 2) := by decide +kernel
theorem dX7_together_50 : decode cX7_together 50 = .ok (.aload_n 0, 1) := by decide +kernel
theorem dX7_together_51 : decode cX7_together 51 = .ok (.getfield 19, 3) := by decide +kernel
theorem dX7_together_54 : decode cX7_together 54 = .ok (.aload_n 0, 1) := by decide +kernel
theorem dX7_together_55 : decode cX7_together 55 = .ok (.getfield 10, 3) := by decide +kernel
theorem dX7_together_58 : decode cX7_together 58 = .ok (.invokevirtual 79, 3) := by decide +kernel
theorem dX7_together_61 : decode cX7_together 61 = .ok (.aload_n 0, 1) := by decide +kernel
theorem dX7_together_62 : decode cX7_together 62 = .ok (.getfield 10, 3) := by decide +kernel
theorem dX7_together_65 : decode cX7_together 65 = .ok (.aload_n 0, 1) := by decide +kernel
theorem dX7_together_66 : decode cX7_together 66 = .ok (.getfield 10, 3) := by decide +kernel
theorem dX7_together_69 : decode cX7_together 69 = .ok (.getfield 104, 3) := by decide +kernel
theorem dX7_together_72 : decode cX7_together 72 = .ok (.iload 4, 2) := by decide +kernel
theorem dX7_together_74 : decode cX7_together 74 = .ok (.iload_n 3, 1) := by decide +kernel
theorem dX7_together_75 : decode cX7_together 75 = .ok (.invokestatic 86, 3) := by decide +kernel
theorem dX7_together_78 : decode cX7_together 78 = .ok (.putfield 104, 3) := by decide +kernel
theorem dX7_together_81 : decode cX7_together 81 = .ok (.aload_n 0, 1) := by decide +kernel
theorem dX7_together_82 : decode cX7_together 82 = .ok (.invokevirtual 72, 3) := by decide +kernel
theorem dX7_together_85 : decode cX7_together 85 = .ok (.iload 5, 2) := by decide +kernel
theorem dX7_together_87 : decode cX7_together 87 = .ok (.ireturn, 1) := by decide +kernel
theorem dX7_noncrossing_0 : decode cX7_noncrossing 0 = .ok (.aload_n 0, 1) := by decide +kernel
theorem dX7_noncrossing_1 : decode cX7_noncrossing 1 = .ok (.getfield 10, 3) := by decide +kernel
theorem dX7_noncrossing_4 : decode cX7_noncrossing 4 = .ok (.getfield 107, 3) := by decide +kernel
theorem dX7_noncrossing_7 : decode cX7_noncrossing 7 = .ok (.ifCond .eq 7, 3) := by decide +kernel
theorem dX7_noncrossing_10 : decode cX7_noncrossing 10 = .ok (.iconst 1, 1) := by decide +kernel
theorem dX7_noncrossing_11 : decode cX7_noncrossing 11 = .ok (.goto 4, 3) := by decide +kernel
theorem dX7_noncrossing_14 : decode cX7_noncrossing 14 = .ok (.iconst 0, 1) := by decide +kernel
theorem dX7_noncrossing_15 : decode cX7_noncrossing 15 = .ok (.istore_n 2, 1) := by decide +kernel
theorem dX7_noncrossing_16 : decode cX7_noncrossing 16 = .ok (.aload_n 0, 1) := by decide +kernel
theorem dX7_noncrossing_17 : decode cX7_noncrossing 17 = .ok (.getfield 19, 3) := by decide +kernel
theorem dX7_noncrossing_20 : decode cX7_noncrossing 20 = .ok (.aload_n 0, 1) := by decide +kernel
theorem dX7_noncrossing_21 : decode cX7_noncrossing 21 = .ok (.getfield 10, 3) := by decide +kernel
theorem dX7_noncrossing_24 : decode cX7_noncrossing 24 = .ok (.invokevirtual 79, 3) := by decide +kernel
theorem dX7_noncrossing_27 : decode cX7_noncrossing 27 = .ok (.aload_n 0, 1) := by decide +kernel
theorem dX7_noncrossing_28 : decode cX7_noncrossing 28 = .ok (.getfield 10, 3) := by decide +kernel
theorem dX7_noncrossing_31 : decode cX7_noncrossing 31 = .ok (.iload_n 1, 1) := by decide +kernel
theorem dX7_noncrossing_32 : decode cX7_noncrossing 32 = .ok (.putfield 107, 3) := by decide +kernel
theorem dX7_noncrossing_35 : decode cX7_noncrossing 35 = .ok (.aload_n 0, 1) := by decide +kernel
theorem dX7_noncrossing_36 : decode cX7_noncrossing 36 = .ok (.invokevirtual 72, 3) := by decide +kernel
theorem dX7_noncrossing_39 : decode cX7_noncrossing 39 = .ok (.iload_n 2, 1) := by decide +kernel
theorem dX7_noncrossing_40 : decode cX7_noncrossing 40 = .ok (.ireturn, 1) := by decide +kernel
theorem dX7_type_0 : decode cX7_type 0 = .ok (.iload_n 1, 1) := by decide +kernel
theorem dX7_type_1 : decode cX7_type 1 = .ok (.ifCond .lt 9, 3) := by decide +kernel
theorem dX7_type_4 : decode cX7_type 4 = .ok (.iload_n 1, 1) := by decide +kernel
theorem dX7_type_5 : decode cX7_type 5 = .ok (.bipush 127, 2) := by decide +kernel
theorem dX7_type_7 : decode cX7_type 7 = .ok (.if_icmp .le 5, 3) := by decide +kernel
theorem dX7_type_10 : decode cX7_type 10 = .ok (.iconst (-1), 1) := by decide +kernel
theorem dX7_type_11 : decode cX7_type 11 = .ok (.ireturn, 1) := by decide +kernel
theorem dX7_type_12 : decode cX7_type 12 = .ok (.aload_n 0, 1) := by decide +kernel
theorem dX7_type_13 : decode cX7_type 13 = .ok (.getfield 26, 3) := by decide +kernel
theorem dX7_type_16 : decode cX7_type 16 = .ok (.iload_n 1, 1) := by decide +kernel
theorem dX7_type_17 : decode cX7_type 17 = .ok (.invokevirtual 111, 3) := by decide +kernel
theorem dX7_type_20 : decode cX7_type 20 = .ok (.ifCond .eq 13, 3) := by decide +kernel
theorem dX7_type_23 : decode cX7_type 23 = .ok (.aload_n 0, 1) := by decide +kernel
theorem dX7_type_24 : decode cX7_type 24 = .ok (.getfield 26, 3) := by decide +kernel
theorem dX7_type_27 : decode cX7_type 27 = .ok (.getfield 114, 3) := by decide +kernel
theorem dX7_type_30 : decode cX7_type 30 = .ok (.goto 5, 3) := by decide +kernel
theorem dX7_type_33 : decode cX7_type 33 = .ok (.bipush (-4), 2) := by decide +kernel
theorem dX7_type_35 : decode cX7_type 35 = .ok (.ireturn, 1) := by decide +kernel
theorem dX7_clear_0 : decode cX7_clear 0 = .ok (.aload_n 0, 1) := by decide +kernel
theorem dX7_clear_1 : decode cX7_clear 1 = .ok (.getfield 26, 3) := by decide +kernel
theorem dX7_clear_4 : decode cX7_clear 4 = .ok (.getfield 114, 3) := by decide +kernel
theorem dX7_clear_7 : decode cX7_clear 7 = .ok (.istore_n 1, 1) := by decide +kernel
theorem dX7_clear_8 : decode cX7_clear 8 = .ok (.aload_n 0, 1) := by decide +kernel
theorem dX7_clear_9 : decode cX7_clear 9 = .ok (.getfield 26, 3) := by decide +kernel
theorem dX7_clear_12 : decode cX7_clear 12 = .ok (.iconst 0, 1) := by decide +kernel
theorem dX7_clear_13 : decode cX7_clear 13 = .ok (.putfield 114, 3) := by decide +kernel
theorem dX7_clear_16 : decode cX7_clear 16 = .ok (.iload_n 1, 1) := by decide +kernel
theorem dX7_clear_17 : decode cX7_clear 17 = .ok (.ireturn, 1) := by decide +kernel
theorem dX7_read_0 : decode cX7_read 0 = .ok (.iload_n 1, 1) := by decide +kernel
theorem dX7_read_1 : decode cX7_read 1 = .ok (.invokestatic 117, 3) := by decide +kernel
theorem dX7_read_4 : decode cX7_read 4 = .ok (.ifCond .ne 5, 3) := by decide +kernel
theorem dX7_read_7 : decode cX7_read 7 = .ok (.iconst (-1), 1) := by decide +kernel
theorem dX7_read_8 : decode cX7_read 8 = .ok (.ireturn, 1) := by decide +kernel
theorem dX7_read_9 : decode cX7_read 9 = .ok (.aload_n 0, 1) := by decide +kernel
theorem dX7_read_10 : decode cX7_read 10 = .ok (.getfield 26, 3) := by decide +kernel
theorem dX7_read_13 : decode cX7_read 13 = .ok (.aload_n 0, 1) := by decide +kernel
theorem dX7_read_14 : decode cX7_read 14 = .ok (.getfield 10, 3) := by decide +kernel
theorem dX7_read_17 : decode cX7_read 17 = .ok (.getfield 75, 3) := by decide +kernel
theorem dX7_read_20 : decode cX7_read 20 = .ok (.invokevirtual 120, 3) := by decide +kernel
theorem dX7_read_23 : decode cX7_read 23 = .ok (.istore_n 2, 1) := by decide +kernel
theorem dX7_read_24 : decode cX7_read 24 = .ok (.iload_n 2, 1) := by decide +kernel
theorem dX7_read_25 : decode cX7_read 25 = .ok (.ifCond .ge 7, 3) := by decide +kernel
theorem dX7_read_28 : decode cX7_read 28 = .ok (.iload_n 2, 1) := by decide +kernel
theorem dX7_read_29 : decode cX7_read 29 = .ok (.goto 9, 3) := by decide +kernel
theorem dX7_read_32 : decode cX7_read 32 = .ok (.aload_n 0, 1) := by decide +kernel
theorem dX7_read_33 : decode cX7_read 33 = .ok (.iload_n 1, 1) := by decide +kernel
theorem dX7_read_34 : decode cX7_read 34 = .ok (.iload_n 2, 1) := by decide +kernel
theorem dX7_read_35 : decode cX7_read 35 = .ok (.invokevirtual 124, 3) := by decide +kernel
theorem dX7_read_38 : decode cX7_read 38 = .ok (.ireturn, 1) := by decide +kernel
theorem dX7_finest_0 : decode cX7_finest 0 = .ok (.iload_n 1, 1) := by decide +kernel
theorem dX7_finest_1 : decode cX7_finest 1 = .ok (.invokestatic 117, 3) := by decide +kernel
theorem dX7_finest_4 : decode cX7_finest 4 = .ok (.ifCond .eq 12, 3) := by decide +kernel
theorem dX7_finest_7 : decode cX7_finest 7 = .ok (.aload_n 0, 1) := by decide +kernel
theorem dX7_finest_8 : decode cX7_finest 8 = .ok (.iload_n 1, 1) := by decide +kernel
theorem dX7_finest_9 : decode cX7_finest 9 = .ok (.iconst 0, 1) := by decide +kernel
theorem dX7_finest_10 : decode cX7_finest 10 = .ok (.invokevirtual 124, 3) := by decide +kernel
theorem dX7_finest_13 : decode cX7_finest 13 = .ok (.goto 4, 3) := by decide +kernel
theorem dX7_finest_16 : decode cX7_finest 16 = .ok (.iconst (-1), 1) := by decide +kernel
theorem dX7_finest_17 : decode cX7_finest 17 = .ok (.ireturn, 1) := by decide +kernel
theorem dX7_coarsest_0 : decode cX7_coarsest 0 = .ok (.iload_n 1, 1) := by decide +kernel
theorem dX7_coarsest_1 : decode cX7_coarsest 1 = .ok (.invokestatic 117, 3) := by decide +kernel
theorem dX7_coarsest_4 : decode cX7_coarsest 4 = .ok (.ifCond .eq 21, 3) := by decide +kernel
theorem dX7_coarsest_7 : decode cX7_coarsest 7 = .ok (.aload_n 0, 1) := by decide +kernel
theorem dX7_coarsest_8 : decode cX7_coarsest 8 = .ok (.iload_n 1, 1) := by decide +kernel
theorem dX7_coarsest_9 : decode cX7_coarsest 9 = .ok (.aload_n 0, 1) := by decide +kernel
theorem dX7_coarsest_10 : decode cX7_coarsest 10 = .ok (.getfield 10, 3) := by decide +kernel
theorem dX7_coarsest_13 : decode cX7_coarsest 13 = .ok (.getfield 75, 3) := by decide +kernel
theorem dX7_coarsest_16 : decode cX7_coarsest 16 = .ok (.invokestatic 127, 3) := by decide +kernel
theorem dX7_coarsest_19 : decode cX7_coarsest 19 = .ok (.invokevirtual 124, 3) := by decide +kernel
theorem dX7_coarsest_22 : decode cX7_coarsest 22 = .ok (.goto 4, 3) := by decide +kernel
theorem dX7_coarsest_25 : decode cX7_coarsest 25 = .ok (.iconst (-1), 1) := by decide +kernel
theorem dX7_coarsest_26 : decode cX7_coarsest 26 = .ok (.ireturn, 1) := by decide +kernel
theorem dX7_copy_0 : decode cX7_copy 0 = .ok (.aload_n 0, 1) := by decide +kernel
theorem dX7_copy_1 : decode cX7_copy 1 = .ok (.iload_n 1, 1) := by decide +kernel
theorem dX7_copy_2 : decode cX7_copy 2 = .ok (.iload_n 1, 1) := by decide +kernel
theorem dX7_copy_3 : decode cX7_copy 3 = .ok (.iload_n 2, 1) := by decide +kernel
theorem dX7_copy_4 : decode cX7_copy 4 = .ok (.invokestatic 117, 3) := by decide +kernel
theorem dX7_copy_7 : decode cX7_copy 7 = .ok (.invokevirtual 130, 3) := by decide +kernel
theorem dX7_copy_10 : decode cX7_copy 10 = .ok (.istore_n 3, 1) := by decide +kernel
theorem dX7_copy_11 : decode cX7_copy 11 = .ok (.iload_n 3, 1) := by decide +kernel
theorem dX7_copy_12 : decode cX7_copy 12 = .ok (.ifCond .eq 7, 3) := by decide +kernel
theorem dX7_copy_15 : decode cX7_copy 15 = .ok (.iload_n 3, 1) := by decide +kernel
theorem dX7_copy_16 : decode cX7_copy 16 = .ok (.goto 17, 3) := by decide +kernel
theorem dX7_copy_19 : decode cX7_copy 19 = .ok (.aload_n 0, 1) := by decide +kernel
theorem dX7_copy_20 : decode cX7_copy 20 = .ok (.iload_n 2, 1) := by decide +kernel
theorem dX7_copy_21 : decode cX7_copy 21 = .ok (.aload_n 0, 1) := by decide +kernel
theorem dX7_copy_22 : decode cX7_copy 22 = .ok (.getfield 10, 3) := by decide +kernel
theorem dX7_copy_25 : decode cX7_copy 25 = .ok (.getfield 133, 3) := by decide +kernel
theorem dX7_copy_28 : decode cX7_copy 28 = .ok (.iload_n 1, 1) := by decide +kernel
theorem dX7_copy_29 : decode cX7_copy 29 = .ok (.iaload, 1) := by decide +kernel
theorem dX7_copy_30 : decode cX7_copy 30 = .ok (.invokevirtual 124, 3) := by decide +kernel
theorem dX7_copy_33 : decode cX7_copy 33 = .ok (.ireturn, 1) := by decide +kernel
theorem dX7_meet_0 : decode cX7_meet 0 = .ok (.aload_n 0, 1) := by decide +kernel
theorem dX7_meet_1 : decode cX7_meet 1 = .ok (.iload_n 1, 1) := by decide +kernel
theorem dX7_meet_2 : decode cX7_meet 2 = .ok (.iload_n 2, 1) := by decide +kernel
theorem dX7_meet_3 : decode cX7_meet 3 = .ok (.iload_n 3, 1) := by decide +kernel
theorem dX7_meet_4 : decode cX7_meet 4 = .ok (.invokestatic 117, 3) := by decide +kernel
theorem dX7_meet_7 : decode cX7_meet 7 = .ok (.invokevirtual 130, 3) := by decide +kernel
theorem dX7_meet_10 : decode cX7_meet 10 = .ok (.istore 4, 2) := by decide +kernel
theorem dX7_meet_12 : decode cX7_meet 12 = .ok (.iload 4, 2) := by decide +kernel
theorem dX7_meet_14 : decode cX7_meet 14 = .ok (.ifCond .eq 8, 3) := by decide +kernel
theorem dX7_meet_17 : decode cX7_meet 17 = .ok (.iload 4, 2) := by decide +kernel
theorem dX7_meet_19 : decode cX7_meet 19 = .ok (.goto 27, 3) := by decide +kernel
theorem dX7_meet_22 : decode cX7_meet 22 = .ok (.aload_n 0, 1) := by decide +kernel
theorem dX7_meet_23 : decode cX7_meet 23 = .ok (.iload_n 3, 1) := by decide +kernel
theorem dX7_meet_24 : decode cX7_meet 24 = .ok (.aload_n 0, 1) := by decide +kernel
theorem dX7_meet_25 : decode cX7_meet 25 = .ok (.getfield 10, 3) := by decide +kernel
theorem dX7_meet_28 : decode cX7_meet 28 = .ok (.getfield 133, 3) := by decide +kernel
theorem dX7_meet_31 : decode cX7_meet 31 = .ok (.iload_n 1, 1) := by decide +kernel
theorem dX7_meet_32 : decode cX7_meet 32 = .ok (.iaload, 1) := by decide +kernel
theorem dX7_meet_33 : decode cX7_meet 33 = .ok (.aload_n 0, 1) := by decide +kernel
theorem dX7_meet_34 : decode cX7_meet 34 = .ok (.getfield 10, 3) := by decide +kernel
theorem dX7_meet_37 : decode cX7_meet 37 = .ok (.getfield 133, 3) := by decide +kernel
theorem dX7_meet_40 : decode cX7_meet 40 = .ok (.iload_n 2, 1) := by decide +kernel
theorem dX7_meet_41 : decode cX7_meet 41 = .ok (.iaload, 1) := by decide +kernel
theorem dX7_meet_42 : decode cX7_meet 42 = .ok (.iand, 1) := by decide +kernel
theorem dX7_meet_43 : decode cX7_meet 43 = .ok (.invokevirtual 124, 3) := by decide +kernel
theorem dX7_meet_46 : decode cX7_meet 46 = .ok (.ireturn, 1) := by decide +kernel
theorem dX7_join_0 : decode cX7_join 0 = .ok (.aload_n 0, 1) := by decide +kernel
theorem dX7_join_1 : decode cX7_join 1 = .ok (.iload_n 1, 1) := by decide +kernel
theorem dX7_join_2 : decode cX7_join 2 = .ok (.iload_n 2, 1) := by decide +kernel
theorem dX7_join_3 : decode cX7_join 3 = .ok (.iload_n 3, 1) := by decide +kernel
theorem dX7_join_4 : decode cX7_join 4 = .ok (.invokestatic 117, 3) := by decide +kernel
theorem dX7_join_7 : decode cX7_join 7 = .ok (.invokevirtual 130, 3) := by decide +kernel
theorem dX7_join_10 : decode cX7_join 10 = .ok (.istore 4, 2) := by decide +kernel
theorem dX7_join_12 : decode cX7_join 12 = .ok (.iload 4, 2) := by decide +kernel
theorem dX7_join_14 : decode cX7_join 14 = .ok (.ifCond .eq 6, 3) := by decide +kernel
theorem dX7_join_17 : decode cX7_join 17 = .ok (.iload 4, 2) := by decide +kernel
theorem dX7_join_19 : decode cX7_join 19 = .ok (.ireturn, 1) := by decide +kernel
theorem dX7_join_20 : decode cX7_join 20 = .ok (.aload_n 0, 1) := by decide +kernel
theorem dX7_join_21 : decode cX7_join 21 = .ok (.iload_n 3, 1) := by decide +kernel
theorem dX7_join_22 : decode cX7_join 22 = .ok (.aload_n 0, 1) := by decide +kernel
theorem dX7_join_23 : decode cX7_join 23 = .ok (.getfield 33, 3) := by decide +kernel
theorem dX7_join_26 : decode cX7_join 26 = .ok (.aload_n 0, 1) := by decide +kernel
theorem dX7_join_27 : decode cX7_join 27 = .ok (.getfield 10, 3) := by decide +kernel
theorem dX7_join_30 : decode cX7_join 30 = .ok (.getfield 133, 3) := by decide +kernel
theorem dX7_join_33 : decode cX7_join 33 = .ok (.iload_n 1, 1) := by decide +kernel
theorem dX7_join_34 : decode cX7_join 34 = .ok (.iaload, 1) := by decide +kernel
theorem dX7_join_35 : decode cX7_join 35 = .ok (.aload_n 0, 1) := by decide +kernel
theorem dX7_join_36 : decode cX7_join 36 = .ok (.getfield 10, 3) := by decide +kernel
theorem dX7_join_39 : decode cX7_join 39 = .ok (.getfield 133, 3) := by decide +kernel
theorem dX7_join_42 : decode cX7_join 42 = .ok (.iload_n 2, 1) := by decide +kernel
theorem dX7_join_43 : decode cX7_join 43 = .ok (.iaload, 1) := by decide +kernel
theorem dX7_join_44 : decode cX7_join 44 = .ok (.ior, 1) := by decide +kernel
theorem dX7_join_45 : decode cX7_join 45 = .ok (.invokevirtual 136, 3) := by decide +kernel
theorem dX7_join_48 : decode cX7_join 48 = .ok (.invokevirtual 124, 3) := by decide +kernel
theorem dX7_join_51 : decode cX7_join 51 = .ok (.ireturn, 1) := by decide +kernel
theorem dX7_unite_0 : decode cX7_unite 0 = .ok (.aload_n 0, 1) := by decide +kernel
theorem dX7_unite_1 : decode cX7_unite 1 = .ok (.iload_n 1, 1) := by decide +kernel
theorem dX7_unite_2 : decode cX7_unite 2 = .ok (.iload_n 1, 1) := by decide +kernel
theorem dX7_unite_3 : decode cX7_unite 3 = .ok (.aload_n 0, 1) := by decide +kernel
theorem dX7_unite_4 : decode cX7_unite 4 = .ok (.iload_n 2, 1) := by decide +kernel
theorem dX7_unite_5 : decode cX7_unite 5 = .ok (.invokevirtual 93, 3) := by decide +kernel
theorem dX7_unite_8 : decode cX7_unite 8 = .ok (.ifCond .eq 15, 3) := by decide +kernel
theorem dX7_unite_11 : decode cX7_unite 11 = .ok (.aload_n 0, 1) := by decide +kernel
theorem dX7_unite_12 : decode cX7_unite 12 = .ok (.iload_n 3, 1) := by decide +kernel
theorem dX7_unite_13 : decode cX7_unite 13 = .ok (.invokevirtual 93, 3) := by decide +kernel
theorem dX7_unite_16 : decode cX7_unite 16 = .ok (.ifCond .eq 7, 3) := by decide +kernel
theorem dX7_unite_19 : decode cX7_unite 19 = .ok (.iconst 1, 1) := by decide +kernel
theorem dX7_unite_20 : decode cX7_unite 20 = .ok (.goto 4, 3) := by decide +kernel
theorem dX7_unite_23 : decode cX7_unite 23 = .ok (.iconst 0, 1) := by decide +kernel
theorem dX7_unite_24 : decode cX7_unite 24 = .ok (.invokevirtual 130, 3) := by decide +kernel
theorem dX7_unite_27 : decode cX7_unite 27 = .ok (.istore 4, 2) := by decide +kernel
theorem dX7_unite_29 : decode cX7_unite 29 = .ok (.iload 4, 2) := by decide +kernel
theorem dX7_unite_31 : decode cX7_unite 31 = .ok (.ifCond .eq 6, 3) := by decide +kernel
theorem dX7_unite_34 : decode cX7_unite 34 = .ok (.iload 4, 2) := by decide +kernel
theorem dX7_unite_36 : decode cX7_unite 36 = .ok (.ireturn, 1) := by decide +kernel
theorem dX7_unite_37 : decode cX7_unite 37 = .ok (.aload_n 0, 1) := by decide +kernel
theorem dX7_unite_38 : decode cX7_unite 38 = .ok (.iload_n 1, 1) := by decide +kernel
theorem dX7_unite_39 : decode cX7_unite 39 = .ok (.aload_n 0, 1) := by decide +kernel
theorem dX7_unite_40 : decode cX7_unite 40 = .ok (.getfield 33, 3) := by decide +kernel
theorem dX7_unite_43 : decode cX7_unite 43 = .ok (.aload_n 0, 1) := by decide +kernel
theorem dX7_unite_44 : decode cX7_unite 44 = .ok (.getfield 10, 3) := by decide +kernel
theorem dX7_unite_47 : decode cX7_unite 47 = .ok (.getfield 133, 3) := by decide +kernel
theorem dX7_unite_50 : decode cX7_unite 50 = .ok (.iload_n 1, 1) := by decide +kernel
theorem dX7_unite_51 : decode cX7_unite 51 = .ok (.iaload, 1) := by decide +kernel
theorem dX7_unite_52 : decode cX7_unite 52 = .ok (.iload_n 2, 1) := by decide +kernel
theorem dX7_unite_53 : decode cX7_unite 53 = .ok (.iload_n 3, 1) := by decide +kernel
theorem dX7_unite_54 : decode cX7_unite 54 = .ok (.invokestatic 97, 3) := by decide +kernel
theorem dX7_unite_57 : decode cX7_unite 57 = .ok (.ior, 1) := by decide +kernel
theorem dX7_unite_58 : decode cX7_unite 58 = .ok (.invokevirtual 136, 3) := by decide +kernel
theorem dX7_unite_61 : decode cX7_unite 61 = .ok (.invokevirtual 124, 3) := by decide +kernel
theorem dX7_unite_64 : decode cX7_unite 64 = .ok (.ireturn, 1) := by decide +kernel
theorem dX7_isolate_0 : decode cX7_isolate 0 = .ok (.aload_n 0, 1) := by decide +kernel
theorem dX7_isolate_1 : decode cX7_isolate 1 = .ok (.iload_n 1, 1) := by decide +kernel
theorem dX7_isolate_2 : decode cX7_isolate 2 = .ok (.iload_n 1, 1) := by decide +kernel
theorem dX7_isolate_3 : decode cX7_isolate 3 = .ok (.aload_n 0, 1) := by decide +kernel
theorem dX7_isolate_4 : decode cX7_isolate 4 = .ok (.iload_n 2, 1) := by decide +kernel
theorem dX7_isolate_5 : decode cX7_isolate 5 = .ok (.invokevirtual 93, 3) := by decide +kernel
theorem dX7_isolate_8 : decode cX7_isolate 8 = .ok (.invokevirtual 130, 3) := by decide +kernel
theorem dX7_isolate_11 : decode cX7_isolate 11 = .ok (.istore_n 3, 1) := by decide +kernel
theorem dX7_isolate_12 : decode cX7_isolate 12 = .ok (.iload_n 3, 1) := by decide +kernel
theorem dX7_isolate_13 : decode cX7_isolate 13 = .ok (.ifCond .eq 5, 3) := by decide +kernel
theorem dX7_isolate_16 : decode cX7_isolate 16 = .ok (.iload_n 3, 1) := by decide +kernel
theorem dX7_isolate_17 : decode cX7_isolate 17 = .ok (.ireturn, 1) := by decide +kernel
theorem dX7_isolate_18 : decode cX7_isolate 18 = .ok (.bipush 63, 2) := by decide +kernel
theorem dX7_isolate_20 : decode cX7_isolate 20 = .ok (.istore 4, 2) := by decide +kernel
theorem dX7_isolate_22 : decode cX7_isolate 22 = .ok (.aload_n 0, 1) := by decide +kernel
theorem dX7_isolate_23 : decode cX7_isolate 23 = .ok (.iload_n 1, 1) := by decide +kernel
theorem dX7_isolate_24 : decode cX7_isolate 24 = .ok (.aload_n 0, 1) := by decide +kernel
theorem dX7_isolate_25 : decode cX7_isolate 25 = .ok (.getfield 10, 3) := by decide +kernel
theorem dX7_isolate_28 : decode cX7_isolate 28 = .ok (.getfield 133, 3) := by decide +kernel
theorem dX7_isolate_31 : decode cX7_isolate 31 = .ok (.iload_n 1, 1) := by decide +kernel
theorem dX7_isolate_32 : decode cX7_isolate 32 = .ok (.iaload, 1) := by decide +kernel
theorem dX7_isolate_33 : decode cX7_isolate 33 = .ok (.iload 4, 2) := by decide +kernel
theorem dX7_isolate_35 : decode cX7_isolate 35 = .ok (.iload_n 2, 1) := by decide +kernel
theorem dX7_isolate_36 : decode cX7_isolate 36 = .ok (.invokestatic 139, 3) := by decide +kernel
theorem dX7_isolate_39 : decode cX7_isolate 39 = .ok (.iconst (-1), 1) := by decide +kernel
theorem dX7_isolate_40 : decode cX7_isolate 40 = .ok (.ixor, 1) := by decide +kernel
theorem dX7_isolate_41 : decode cX7_isolate 41 = .ok (.iand, 1) := by decide +kernel
theorem dX7_isolate_42 : decode cX7_isolate 42 = .ok (.invokevirtual 124, 3) := by decide +kernel
theorem dX7_isolate_45 : decode cX7_isolate 45 = .ok (.ireturn, 1) := by decide +kernel
theorem dX7_swap_0 : decode cX7_swap 0 = .ok (.aload_n 0, 1) := by decide +kernel
theorem dX7_swap_1 : decode cX7_swap 1 = .ok (.iload_n 1, 1) := by decide +kernel
theorem dX7_swap_2 : decode cX7_swap 2 = .ok (.iload_n 1, 1) := by decide +kernel
theorem dX7_swap_3 : decode cX7_swap 3 = .ok (.aload_n 0, 1) := by decide +kernel
theorem dX7_swap_4 : decode cX7_swap 4 = .ok (.iload_n 2, 1) := by decide +kernel
theorem dX7_swap_5 : decode cX7_swap 5 = .ok (.invokevirtual 93, 3) := by decide +kernel
theorem dX7_swap_8 : decode cX7_swap 8 = .ok (.ifCond .eq 15, 3) := by decide +kernel
theorem dX7_swap_11 : decode cX7_swap 11 = .ok (.aload_n 0, 1) := by decide +kernel
theorem dX7_swap_12 : decode cX7_swap 12 = .ok (.iload_n 3, 1) := by decide +kernel
theorem dX7_swap_13 : decode cX7_swap 13 = .ok (.invokevirtual 93, 3) := by decide +kernel
theorem dX7_swap_16 : decode cX7_swap 16 = .ok (.ifCond .eq 7, 3) := by decide +kernel
theorem dX7_swap_19 : decode cX7_swap 19 = .ok (.iconst 1, 1) := by decide +kernel
theorem dX7_swap_20 : decode cX7_swap 20 = .ok (.goto 4, 3) := by decide +kernel
theorem dX7_swap_23 : decode cX7_swap 23 = .ok (.iconst 0, 1) := by decide +kernel
theorem dX7_swap_24 : decode cX7_swap 24 = .ok (.invokevirtual 130, 3) := by decide +kernel
theorem dX7_swap_27 : decode cX7_swap 27 = .ok (.istore 4, 2) := by decide +kernel
theorem dX7_swap_29 : decode cX7_swap 29 = .ok (.iload 4, 2) := by decide +kernel
theorem dX7_swap_31 : decode cX7_swap 31 = .ok (.ifCond .eq 6, 3) := by decide +kernel
theorem dX7_swap_34 : decode cX7_swap 34 = .ok (.iload 4, 2) := by decide +kernel
theorem dX7_swap_36 : decode cX7_swap 36 = .ok (.ireturn, 1) := by decide +kernel
theorem dX7_swap_37 : decode cX7_swap 37 = .ok (.iconst 0, 1) := by decide +kernel
theorem dX7_swap_38 : decode cX7_swap 38 = .ok (.istore 5, 2) := by decide +kernel
theorem dX7_swap_40 : decode cX7_swap 40 = .ok (.iload 5, 2) := by decide +kernel
theorem dX7_swap_42 : decode cX7_swap 42 = .ok (.bipush 6, 2) := by decide +kernel
theorem dX7_swap_44 : decode cX7_swap 44 = .ok (.if_icmp .ge 38, 3) := by decide +kernel
theorem dX7_swap_47 : decode cX7_swap 47 = .ok (.aload_n 0, 1) := by decide +kernel
theorem dX7_swap_48 : decode cX7_swap 48 = .ok (.getfield 61, 3) := by decide +kernel
theorem dX7_swap_51 : decode cX7_swap 51 = .ok (.iload 5, 2) := by decide +kernel
theorem dX7_swap_53 : decode cX7_swap 53 = .ok (.iload 5, 2) := by decide +kernel
theorem dX7_swap_55 : decode cX7_swap 55 = .ok (.iload_n 2, 1) := by decide +kernel
theorem dX7_swap_56 : decode cX7_swap 56 = .ok (.if_icmp .ne 7, 3) := by decide +kernel
theorem dX7_swap_59 : decode cX7_swap 59 = .ok (.iload_n 3, 1) := by decide +kernel
theorem dX7_swap_60 : decode cX7_swap 60 = .ok (.goto 15, 3) := by decide +kernel
theorem dX7_swap_63 : decode cX7_swap 63 = .ok (.iload 5, 2) := by decide +kernel
theorem dX7_swap_65 : decode cX7_swap 65 = .ok (.iload_n 3, 1) := by decide +kernel
theorem dX7_swap_66 : decode cX7_swap 66 = .ok (.if_icmp .ne 7, 3) := by decide +kernel
theorem dX7_swap_69 : decode cX7_swap 69 = .ok (.iload_n 2, 1) := by decide +kernel
theorem dX7_swap_70 : decode cX7_swap 70 = .ok (.goto 5, 3) := by decide +kernel
theorem dX7_swap_73 : decode cX7_swap 73 = .ok (.iload 5, 2) := by decide +kernel
theorem dX7_swap_75 : decode cX7_swap 75 = .ok (.iastore, 1) := by decide +kernel
theorem dX7_swap_76 : decode cX7_swap 76 = .ok (.iinc 5 1, 3) := by decide +kernel
theorem dX7_swap_79 : decode cX7_swap 79 = .ok (.goto (-39), 3) := by decide +kernel
theorem dX7_swap_82 : decode cX7_swap 82 = .ok (.aload_n 0, 1) := by decide +kernel
theorem dX7_swap_83 : decode cX7_swap 83 = .ok (.iload_n 1, 1) := by decide +kernel
theorem dX7_swap_84 : decode cX7_swap 84 = .ok (.invokevirtual 142, 3) := by decide +kernel
theorem dX7_swap_87 : decode cX7_swap 87 = .ok (.ireturn, 1) := by decide +kernel
theorem dX7_rotate_0 : decode cX7_rotate 0 = .ok (.aload_n 0, 1) := by decide +kernel
theorem dX7_rotate_1 : decode cX7_rotate 1 = .ok (.iload_n 1, 1) := by decide +kernel
theorem dX7_rotate_2 : decode cX7_rotate 2 = .ok (.iload_n 1, 1) := by decide +kernel
theorem dX7_rotate_3 : decode cX7_rotate 3 = .ok (.iconst 1, 1) := by decide +kernel
theorem dX7_rotate_4 : decode cX7_rotate 4 = .ok (.invokevirtual 130, 3) := by decide +kernel
theorem dX7_rotate_7 : decode cX7_rotate 7 = .ok (.istore_n 2, 1) := by decide +kernel
theorem dX7_rotate_8 : decode cX7_rotate 8 = .ok (.iload_n 2, 1) := by decide +kernel
theorem dX7_rotate_9 : decode cX7_rotate 9 = .ok (.ifCond .eq 5, 3) := by decide +kernel
theorem dX7_rotate_12 : decode cX7_rotate 12 = .ok (.iload_n 2, 1) := by decide +kernel
theorem dX7_rotate_13 : decode cX7_rotate 13 = .ok (.ireturn, 1) := by decide +kernel
theorem dX7_rotate_14 : decode cX7_rotate 14 = .ok (.iconst 0, 1) := by decide +kernel
theorem dX7_rotate_15 : decode cX7_rotate 15 = .ok (.istore_n 3, 1) := by decide +kernel
theorem dX7_rotate_16 : decode cX7_rotate 16 = .ok (.iload_n 3, 1) := by decide +kernel
theorem dX7_rotate_17 : decode cX7_rotate 17 = .ok (.bipush 6, 2) := by decide +kernel
theorem dX7_rotate_19 : decode cX7_rotate 19 = .ok (.if_icmp .ge 35, 3) := by decide +kernel
theorem dX7_rotate_22 : decode cX7_rotate 22 = .ok (.aload_n 0, 1) := by decide +kernel
theorem dX7_rotate_23 : decode cX7_rotate 23 = .ok (.getfield 61, 3) := by decide +kernel
theorem dX7_rotate_26 : decode cX7_rotate 26 = .ok (.iload_n 3, 1) := by decide +kernel
theorem dX7_rotate_27 : decode cX7_rotate 27 = .ok (.iload_n 3, 1) := by decide +kernel
theorem dX7_rotate_28 : decode cX7_rotate 28 = .ok (.iconst 1, 1) := by decide +kernel
theorem dX7_rotate_29 : decode cX7_rotate 29 = .ok (.iadd, 1) := by decide +kernel
theorem dX7_rotate_30 : decode cX7_rotate 30 = .ok (.aload_n 0, 1) := by decide +kernel
theorem dX7_rotate_31 : decode cX7_rotate 31 = .ok (.getfield 10, 3) := by decide +kernel
theorem dX7_rotate_34 : decode cX7_rotate 34 = .ok (.getfield 75, 3) := by decide +kernel
theorem dX7_rotate_37 : decode cX7_rotate 37 = .ok (.if_icmp .ge 9, 3) := by decide +kernel
theorem dX7_rotate_40 : decode cX7_rotate 40 = .ok (.iload_n 3, 1) := by decide +kernel
theorem dX7_rotate_41 : decode cX7_rotate 41 = .ok (.iconst 1, 1) := by decide +kernel
theorem dX7_rotate_42 : decode cX7_rotate 42 = .ok (.iadd, 1) := by decide +kernel
theorem dX7_rotate_43 : decode cX7_rotate 43 = .ok (.goto 4, 3) := by decide +kernel
theorem dX7_rotate_46 : decode cX7_rotate 46 = .ok (.iconst 0, 1) := by decide +kernel
theorem dX7_rotate_47 : decode cX7_rotate 47 = .ok (.iastore, 1) := by decide +kernel
theorem dX7_rotate_48 : decode cX7_rotate 48 = .ok (.iinc 3 1, 3) := by decide +kernel
theorem dX7_rotate_51 : decode cX7_rotate 51 = .ok (.goto (-35), 3) := by decide +kernel
theorem dX7_rotate_54 : decode cX7_rotate 54 = .ok (.aload_n 0, 1) := by decide +kernel
theorem dX7_rotate_55 : decode cX7_rotate 55 = .ok (.iload_n 1, 1) := by decide +kernel
theorem dX7_rotate_56 : decode cX7_rotate 56 = .ok (.invokevirtual 142, 3) := by decide +kernel
theorem dX7_rotate_59 : decode cX7_rotate 59 = .ok (.ireturn, 1) := by decide +kernel
theorem dX7_complement_0 : decode cX7_complement 0 = .ok (.aload_n 0, 1) := by decide +kernel
theorem dX7_complement_1 : decode cX7_complement 1 = .ok (.iload_n 1, 1) := by decide +kernel
theorem dX7_complement_2 : decode cX7_complement 2 = .ok (.iload_n 1, 1) := by decide +kernel
theorem dX7_complement_3 : decode cX7_complement 3 = .ok (.iload_n 2, 1) := by decide +kernel
theorem dX7_complement_4 : decode cX7_complement 4 = .ok (.invokestatic 117, 3) := by decide +kernel
theorem dX7_complement_7 : decode cX7_complement 7 = .ok (.invokevirtual 130, 3) := by decide +kernel
theorem dX7_complement_10 : decode cX7_complement 10 = .ok (.istore_n 3, 1) := by decide +kernel
theorem dX7_complement_11 : decode cX7_complement 11 = .ok (.iload_n 3, 1) := by decide +kernel
theorem dX7_complement_12 : decode cX7_complement 12 = .ok (.ifCond .eq 5, 3) := by decide +kernel
theorem dX7_complement_15 : decode cX7_complement 15 = .ok (.iload_n 3, 1) := by decide +kernel
theorem dX7_complement_16 : decode cX7_complement 16 = .ok (.ireturn, 1) := by decide +kernel
theorem dX7_complement_17 : decode cX7_complement 17 = .ok (.aload_n 0, 1) := by decide +kernel
theorem dX7_complement_18 : decode cX7_complement 18 = .ok (.iload_n 1, 1) := by decide +kernel
theorem dX7_complement_19 : decode cX7_complement 19 = .ok (.invokevirtual 145, 3) := by decide +kernel
theorem dX7_complement_22 : decode cX7_complement 22 = .ok (.aload_n 0, 1) := by decide +kernel
theorem dX7_complement_23 : decode cX7_complement 23 = .ok (.getfield 54, 3) := by decide +kernel
theorem dX7_complement_26 : decode cX7_complement 26 = .ok (.invokevirtual 148, 3) := by decide +kernel
theorem dX7_complement_29 : decode cX7_complement 29 = .ok (.bipush (-9), 2) := by decide +kernel
theorem dX7_complement_31 : decode cX7_complement 31 = .ok (.if_icmp .eq 6, 3) := by decide +kernel
theorem dX7_complement_34 : decode cX7_complement 34 = .ok (.bipush (-3), 2) := by decide +kernel
theorem dX7_complement_36 : decode cX7_complement 36 = .ok (.ireturn, 1) := by decide +kernel
theorem dX7_complement_37 : decode cX7_complement 37 = .ok (.aload_n 0, 1) := by decide +kernel
theorem dX7_complement_38 : decode cX7_complement 38 = .ok (.iload_n 2, 1) := by decide +kernel
theorem dX7_complement_39 : decode cX7_complement 39 = .ok (.aload_n 0, 1) := by decide +kernel
theorem dX7_complement_40 : decode cX7_complement 40 = .ok (.getfield 10, 3) := by decide +kernel
theorem dX7_complement_43 : decode cX7_complement 43 = .ok (.getfield 133, 3) := by decide +kernel
theorem dX7_complement_46 : decode cX7_complement 46 = .ok (.iload_n 1, 1) := by decide +kernel
theorem dX7_complement_47 : decode cX7_complement 47 = .ok (.iaload, 1) := by decide +kernel
theorem dX7_complement_48 : decode cX7_complement 48 = .ok (.aload_n 0, 1) := by decide +kernel
theorem dX7_complement_49 : decode cX7_complement 49 = .ok (.getfield 10, 3) := by decide +kernel
theorem dX7_complement_52 : decode cX7_complement 52 = .ok (.getfield 75, 3) := by decide +kernel
theorem dX7_complement_55 : decode cX7_complement 55 = .ok (.invokestatic 152, 3) := by decide +kernel
theorem dX7_complement_58 : decode cX7_complement 58 = .ok (.invokevirtual 124, 3) := by decide +kernel
theorem dX7_complement_61 : decode cX7_complement 61 = .ok (.ireturn, 1) := by decide +kernel
theorem dX7_unrank_0 : decode cX7_unrank 0 = .ok (.iload_n 1, 1) := by decide +kernel
theorem dX7_unrank_1 : decode cX7_unrank 1 = .ok (.invokestatic 117, 3) := by decide +kernel
theorem dX7_unrank_4 : decode cX7_unrank 4 = .ok (.ifCond .eq 14, 3) := by decide +kernel
theorem dX7_unrank_7 : decode cX7_unrank 7 = .ok (.aload_n 0, 1) := by decide +kernel
theorem dX7_unrank_8 : decode cX7_unrank 8 = .ok (.getfield 40, 3) := by decide +kernel
theorem dX7_unrank_11 : decode cX7_unrank 11 = .ok (.iload_n 2, 1) := by decide +kernel
theorem dX7_unrank_12 : decode cX7_unrank 12 = .ok (.invokevirtual 155, 3) := by decide +kernel
theorem dX7_unrank_15 : decode cX7_unrank 15 = .ok (.ifCond .ne 5, 3) := by decide +kernel
theorem dX7_unrank_18 : decode cX7_unrank 18 = .ok (.iconst (-1), 1) := by decide +kernel
theorem dX7_unrank_19 : decode cX7_unrank 19 = .ok (.ireturn, 1) := by decide +kernel
theorem dX7_unrank_20 : decode cX7_unrank 20 = .ok (.aload_n 0, 1) := by decide +kernel
theorem dX7_unrank_21 : decode cX7_unrank 21 = .ok (.iload_n 1, 1) := by decide +kernel
theorem dX7_unrank_22 : decode cX7_unrank 22 = .ok (.aload_n 0, 1) := by decide +kernel
theorem dX7_unrank_23 : decode cX7_unrank 23 = .ok (.getfield 40, 3) := by decide +kernel
theorem dX7_unrank_26 : decode cX7_unrank 26 = .ok (.getfield 158, 3) := by decide +kernel
theorem dX7_unrank_29 : decode cX7_unrank 29 = .ok (.iload_n 2, 1) := by decide +kernel
theorem dX7_unrank_30 : decode cX7_unrank 30 = .ok (.iaload, 1) := by decide +kernel
theorem dX7_unrank_31 : decode cX7_unrank 31 = .ok (.invokevirtual 124, 3) := by decide +kernel
theorem dX7_unrank_34 : decode cX7_unrank 34 = .ok (.ireturn, 1) := by decide +kernel
theorem dX7_next_0 : decode cX7_next 0 = .ok (.aload_n 0, 1) := by decide +kernel
theorem dX7_next_1 : decode cX7_next 1 = .ok (.iload_n 1, 1) := by decide +kernel
theorem dX7_next_2 : decode cX7_next 2 = .ok (.iload_n 1, 1) := by decide +kernel
theorem dX7_next_3 : decode cX7_next 3 = .ok (.iconst 1, 1) := by decide +kernel
theorem dX7_next_4 : decode cX7_next 4 = .ok (.invokevirtual 130, 3) := by decide +kernel
theorem dX7_next_7 : decode cX7_next 7 = .ok (.istore_n 2, 1) := by decide +kernel
theorem dX7_next_8 : decode cX7_next 8 = .ok (.iload_n 2, 1) := by decide +kernel
theorem dX7_next_9 : decode cX7_next 9 = .ok (.ifCond .eq 5, 3) := by decide +kernel
theorem dX7_next_12 : decode cX7_next 12 = .ok (.iload_n 2, 1) := by decide +kernel
theorem dX7_next_13 : decode cX7_next 13 = .ok (.ireturn, 1) := by decide +kernel
theorem dX7_next_14 : decode cX7_next 14 = .ok (.aload_n 0, 1) := by decide +kernel
theorem dX7_next_15 : decode cX7_next 15 = .ok (.iload_n 1, 1) := by decide +kernel
theorem dX7_next_16 : decode cX7_next 16 = .ok (.invokevirtual 145, 3) := by decide +kernel
theorem dX7_next_19 : decode cX7_next 19 = .ok (.aload_n 0, 1) := by decide +kernel
theorem dX7_next_20 : decode cX7_next 20 = .ok (.iload_n 1, 1) := by decide +kernel
theorem dX7_next_21 : decode cX7_next 21 = .ok (.aload_n 0, 1) := by decide +kernel
theorem dX7_next_22 : decode cX7_next 22 = .ok (.getfield 40, 3) := by decide +kernel
theorem dX7_next_25 : decode cX7_next 25 = .ok (.aload_n 0, 1) := by decide +kernel
theorem dX7_next_26 : decode cX7_next 26 = .ok (.getfield 54, 3) := by decide +kernel
theorem dX7_next_29 : decode cX7_next 29 = .ok (.invokevirtual 161, 3) := by decide +kernel
theorem dX7_next_32 : decode cX7_next 32 = .ok (.invokevirtual 164, 3) := by decide +kernel
theorem dX7_next_35 : decode cX7_next 35 = .ok (.invokevirtual 167, 3) := by decide +kernel
theorem dX7_next_38 : decode cX7_next 38 = .ok (.ireturn, 1) := by decide +kernel
theorem dX7_previous_0 : decode cX7_previous 0 = .ok (.aload_n 0, 1) := by decide +kernel
theorem dX7_previous_1 : decode cX7_previous 1 = .ok (.iload_n 1, 1) := by decide +kernel
theorem dX7_previous_2 : decode cX7_previous 2 = .ok (.iload_n 1, 1) := by decide +kernel
theorem dX7_previous_3 : decode cX7_previous 3 = .ok (.iconst 1, 1) := by decide +kernel
theorem dX7_previous_4 : decode cX7_previous 4 = .ok (.invokevirtual 130, 3) := by decide +kernel
theorem dX7_previous_7 : decode cX7_previous 7 = .ok (.istore_n 2, 1) := by decide +kernel
theorem dX7_previous_8 : decode cX7_previous 8 = .ok (.iload_n 2, 1) := by decide +kernel
theorem dX7_previous_9 : decode cX7_previous 9 = .ok (.ifCond .eq 5, 3) := by decide +kernel
theorem dX7_previous_12 : decode cX7_previous 12 = .ok (.iload_n 2, 1) := by decide +kernel
theorem dX7_previous_13 : decode cX7_previous 13 = .ok (.ireturn, 1) := by decide +kernel
theorem dX7_previous_14 : decode cX7_previous 14 = .ok (.aload_n 0, 1) := by decide +kernel
theorem dX7_previous_15 : decode cX7_previous 15 = .ok (.iload_n 1, 1) := by decide +kernel
theorem dX7_previous_16 : decode cX7_previous 16 = .ok (.invokevirtual 145, 3) := by decide +kernel
theorem dX7_previous_19 : decode cX7_previous 19 = .ok (.aload_n 0, 1) := by decide +kernel
theorem dX7_previous_20 : decode cX7_previous 20 = .ok (.iload_n 1, 1) := by decide +kernel
theorem dX7_previous_21 : decode cX7_previous 21 = .ok (.aload_n 0, 1) := by decide +kernel
theorem dX7_previous_22 : decode cX7_previous 22 = .ok (.getfield 40, 3) := by decide +kernel
theorem dX7_previous_25 : decode cX7_previous 25 = .ok (.aload_n 0, 1) := by decide +kernel
theorem dX7_previous_26 : decode cX7_previous 26 = .ok (.getfield 54, 3) := by decide +kernel
theorem dX7_previous_29 : decode cX7_previous 29 = .ok (.invokevirtual 161, 3) := by decide +kernel
theorem dX7_previous_32 : decode cX7_previous 32 = .ok (.invokevirtual 170, 3) := by decide +kernel
theorem dX7_previous_35 : decode cX7_previous 35 = .ok (.invokevirtual 167, 3) := by decide +kernel
theorem dX7_previous_38 : decode cX7_previous 38 = .ok (.ireturn, 1) := by decide +kernel
theorem dX7_draw_0 : decode cX7_draw 0 = .ok (.iload_n 1, 1) := by decide +kernel
theorem dX7_draw_1 : decode cX7_draw 1 = .ok (.invokestatic 117, 3) := by decide +kernel
theorem dX7_draw_4 : decode cX7_draw 4 = .ok (.ifCond .ne 5, 3) := by decide +kernel
theorem dX7_draw_7 : decode cX7_draw 7 = .ok (.iconst (-1), 1) := by decide +kernel
theorem dX7_draw_8 : decode cX7_draw 8 = .ok (.ireturn, 1) := by decide +kernel
theorem dX7_draw_9 : decode cX7_draw 9 = .ok (.aload_n 0, 1) := by decide +kernel
theorem dX7_draw_10 : decode cX7_draw 10 = .ok (.getfield 40, 3) := by decide +kernel
theorem dX7_draw_13 : decode cX7_draw 13 = .ok (.getfield 173, 3) := by decide +kernel
theorem dX7_draw_16 : decode cX7_draw 16 = .ok (.ifCond .ne 6, 3) := by decide +kernel
theorem dX7_draw_19 : decode cX7_draw 19 = .ok (.bipush (-3), 2) := by decide +kernel
theorem dX7_draw_21 : decode cX7_draw 21 = .ok (.ireturn, 1) := by decide +kernel
theorem dX7_draw_22 : decode cX7_draw 22 = .ok (.iload_n 2, 1) := by decide +kernel
theorem dX7_draw_23 : decode cX7_draw 23 = .ok (.ldc 176, 2) := by decide +kernel
theorem dX7_draw_25 : decode cX7_draw 25 = .ok (.imul, 1) := by decide +kernel
theorem dX7_draw_26 : decode cX7_draw 26 = .ok (.sipush 12345, 3) := by decide +kernel
theorem dX7_draw_29 : decode cX7_draw 29 = .ok (.iadd, 1) := by decide +kernel
theorem dX7_draw_30 : decode cX7_draw 30 = .ok (.istore_n 3, 1) := by decide +kernel
theorem dX7_draw_31 : decode cX7_draw 31 = .ok (.aload_n 0, 1) := by decide +kernel
theorem dX7_draw_32 : decode cX7_draw 32 = .ok (.iload_n 1, 1) := by decide +kernel
theorem dX7_draw_33 : decode cX7_draw 33 = .ok (.iload_n 3, 1) := by decide +kernel
theorem dX7_draw_34 : decode cX7_draw 34 = .ok (.bipush 16, 2) := by decide +kernel
theorem dX7_draw_36 : decode cX7_draw 36 = .ok (.iushr, 1) := by decide +kernel
theorem dX7_draw_37 : decode cX7_draw 37 = .ok (.sipush 32767, 3) := by decide +kernel
theorem dX7_draw_40 : decode cX7_draw 40 = .ok (.iand, 1) := by decide +kernel
theorem dX7_draw_41 : decode cX7_draw 41 = .ok (.aload_n 0, 1) := by decide +kernel
theorem dX7_draw_42 : decode cX7_draw 42 = .ok (.getfield 40, 3) := by decide +kernel
theorem dX7_draw_45 : decode cX7_draw 45 = .ok (.getfield 173, 3) := by decide +kernel
theorem dX7_draw_48 : decode cX7_draw 48 = .ok (.irem, 1) := by decide +kernel
theorem dX7_draw_49 : decode cX7_draw 49 = .ok (.invokevirtual 167, 3) := by decide +kernel
theorem dX7_draw_52 : decode cX7_draw 52 = .ok (.ireturn, 1) := by decide +kernel
theorem dX7_blocks_0 : decode cX7_blocks 0 = .ok (.aload_n 0, 1) := by decide +kernel
theorem dX7_blocks_1 : decode cX7_blocks 1 = .ok (.iload_n 1, 1) := by decide +kernel
theorem dX7_blocks_2 : decode cX7_blocks 2 = .ok (.iload_n 1, 1) := by decide +kernel
theorem dX7_blocks_3 : decode cX7_blocks 3 = .ok (.iconst 1, 1) := by decide +kernel
theorem dX7_blocks_4 : decode cX7_blocks 4 = .ok (.invokevirtual 130, 3) := by decide +kernel
theorem dX7_blocks_7 : decode cX7_blocks 7 = .ok (.istore_n 2, 1) := by decide +kernel
theorem dX7_blocks_8 : decode cX7_blocks 8 = .ok (.iload_n 2, 1) := by decide +kernel
theorem dX7_blocks_9 : decode cX7_blocks 9 = .ok (.ifCond .eq 7, 3) := by decide +kernel
theorem dX7_blocks_12 : decode cX7_blocks 12 = .ok (.iload_n 2, 1) := by decide +kernel
theorem dX7_blocks_13 : decode cX7_blocks 13 = .ok (.goto 16, 3) := by decide +kernel
theorem dX7_blocks_16 : decode cX7_blocks 16 = .ok (.aload_n 0, 1) := by decide +kernel
theorem dX7_blocks_17 : decode cX7_blocks 17 = .ok (.aload_n 0, 1) := by decide +kernel
theorem dX7_blocks_18 : decode cX7_blocks 18 = .ok (.getfield 10, 3) := by decide +kernel
theorem dX7_blocks_21 : decode cX7_blocks 21 = .ok (.getfield 133, 3) := by decide +kernel
theorem dX7_blocks_24 : decode cX7_blocks 24 = .ok (.iload_n 1, 1) := by decide +kernel
theorem dX7_blocks_25 : decode cX7_blocks 25 = .ok (.iaload, 1) := by decide +kernel
theorem dX7_blocks_26 : decode cX7_blocks 26 = .ok (.invokevirtual 177, 3) := by decide +kernel
theorem dX7_blocks_29 : decode cX7_blocks 29 = .ok (.ireturn, 1) := by decide +kernel
theorem dX7_blockOf_0 : decode cX7_blockOf 0 = .ok (.aload_n 0, 1) := by decide +kernel
theorem dX7_blockOf_1 : decode cX7_blockOf 1 = .ok (.iload_n 1, 1) := by decide +kernel
theorem dX7_blockOf_2 : decode cX7_blockOf 2 = .ok (.iload_n 1, 1) := by decide +kernel
theorem dX7_blockOf_3 : decode cX7_blockOf 3 = .ok (.aload_n 0, 1) := by decide +kernel
theorem dX7_blockOf_4 : decode cX7_blockOf 4 = .ok (.iload_n 2, 1) := by decide +kernel
theorem dX7_blockOf_5 : decode cX7_blockOf 5 = .ok (.invokevirtual 93, 3) := by decide +kernel
theorem dX7_blockOf_8 : decode cX7_blockOf 8 = .ok (.invokevirtual 130, 3) := by decide +kernel
theorem dX7_blockOf_11 : decode cX7_blockOf 11 = .ok (.istore_n 3, 1) := by decide +kernel
theorem dX7_blockOf_12 : decode cX7_blockOf 12 = .ok (.iload_n 3, 1) := by decide +kernel
theorem dX7_blockOf_13 : decode cX7_blockOf 13 = .ok (.ifCond .eq 5, 3) := by decide +kernel
theorem dX7_blockOf_16 : decode cX7_blockOf 16 = .ok (.iload_n 3, 1) := by decide +kernel
theorem dX7_blockOf_17 : decode cX7_blockOf 17 = .ok (.ireturn, 1) := by decide +kernel
theorem dX7_blockOf_18 : decode cX7_blockOf 18 = .ok (.aload_n 0, 1) := by decide +kernel
theorem dX7_blockOf_19 : decode cX7_blockOf 19 = .ok (.iload_n 1, 1) := by decide +kernel
theorem dX7_blockOf_20 : decode cX7_blockOf 20 = .ok (.invokevirtual 145, 3) := by decide +kernel
theorem dX7_blockOf_23 : decode cX7_blockOf 23 = .ok (.aload_n 0, 1) := by decide +kernel
theorem dX7_blockOf_24 : decode cX7_blockOf 24 = .ok (.getfield 54, 3) := by decide +kernel
theorem dX7_blockOf_27 : decode cX7_blockOf 27 = .ok (.getfield 180, 3) := by decide +kernel
theorem dX7_blockOf_30 : decode cX7_blockOf 30 = .ok (.iload_n 2, 1) := by decide +kernel
theorem dX7_blockOf_31 : decode cX7_blockOf 31 = .ok (.iaload, 1) := by decide +kernel
theorem dX7_blockOf_32 : decode cX7_blockOf 32 = .ok (.ireturn, 1) := by decide +kernel
theorem dX7_block_0 : decode cX7_block 0 = .ok (.aload_n 0, 1) := by decide +kernel
theorem dX7_block_1 : decode cX7_block 1 = .ok (.iload_n 1, 1) := by decide +kernel
theorem dX7_block_2 : decode cX7_block 2 = .ok (.iload_n 1, 1) := by decide +kernel
theorem dX7_block_3 : decode cX7_block 3 = .ok (.iconst 1, 1) := by decide +kernel
theorem dX7_block_4 : decode cX7_block 4 = .ok (.invokevirtual 130, 3) := by decide +kernel
theorem dX7_block_7 : decode cX7_block 7 = .ok (.istore_n 3, 1) := by decide +kernel
theorem dX7_block_8 : decode cX7_block 8 = .ok (.iload_n 3, 1) := by decide +kernel
theorem dX7_block_9 : decode cX7_block 9 = .ok (.ifCond .eq 5, 3) := by decide +kernel
theorem dX7_block_12 : decode cX7_block 12 = .ok (.iload_n 3, 1) := by decide +kernel
theorem dX7_block_13 : decode cX7_block 13 = .ok (.ireturn, 1) := by decide +kernel
theorem dX7_block_14 : decode cX7_block 14 = .ok (.aload_n 0, 1) := by decide +kernel
theorem dX7_block_15 : decode cX7_block 15 = .ok (.iload_n 1, 1) := by decide +kernel
theorem dX7_block_16 : decode cX7_block 16 = .ok (.invokevirtual 145, 3) := by decide +kernel
theorem dX7_block_19 : decode cX7_block 19 = .ok (.iload_n 2, 1) := by decide +kernel
theorem dX7_block_20 : decode cX7_block 20 = .ok (.ifCond .lt 14, 3) := by decide +kernel
theorem dX7_block_23 : decode cX7_block 23 = .ok (.iload_n 2, 1) := by decide +kernel
theorem dX7_block_24 : decode cX7_block 24 = .ok (.aload_n 0, 1) := by decide +kernel
theorem dX7_block_25 : decode cX7_block 25 = .ok (.getfield 54, 3) := by decide +kernel
theorem dX7_block_28 : decode cX7_block 28 = .ok (.getfield 183, 3) := by decide +kernel
theorem dX7_block_31 : decode cX7_block 31 = .ok (.if_icmp .lt 8, 3) := by decide +kernel
theorem dX7_block_34 : decode cX7_block 34 = .ok (.bipush (-9), 2) := by decide +kernel
theorem dX7_block_36 : decode cX7_block 36 = .ok (.goto 12, 3) := by decide +kernel
theorem dX7_block_39 : decode cX7_block 39 = .ok (.aload_n 0, 1) := by decide +kernel
theorem dX7_block_40 : decode cX7_block 40 = .ok (.getfield 54, 3) := by decide +kernel
theorem dX7_block_43 : decode cX7_block 43 = .ok (.getfield 186, 3) := by decide +kernel
theorem dX7_block_46 : decode cX7_block 46 = .ok (.iload_n 2, 1) := by decide +kernel
theorem dX7_block_47 : decode cX7_block 47 = .ok (.iaload, 1) := by decide +kernel
theorem dX7_block_48 : decode cX7_block 48 = .ok (.ireturn, 1) := by decide +kernel
theorem dX7_typeOf_0 : decode cX7_typeOf 0 = .ok (.aload_n 0, 1) := by decide +kernel
theorem dX7_typeOf_1 : decode cX7_typeOf 1 = .ok (.iload_n 1, 1) := by decide +kernel
theorem dX7_typeOf_2 : decode cX7_typeOf 2 = .ok (.iload_n 1, 1) := by decide +kernel
theorem dX7_typeOf_3 : decode cX7_typeOf 3 = .ok (.iconst 1, 1) := by decide +kernel
theorem dX7_typeOf_4 : decode cX7_typeOf 4 = .ok (.invokevirtual 130, 3) := by decide +kernel
theorem dX7_typeOf_7 : decode cX7_typeOf 7 = .ok (.istore_n 2, 1) := by decide +kernel
theorem dX7_typeOf_8 : decode cX7_typeOf 8 = .ok (.iload_n 2, 1) := by decide +kernel
theorem dX7_typeOf_9 : decode cX7_typeOf 9 = .ok (.ifCond .eq 5, 3) := by decide +kernel
theorem dX7_typeOf_12 : decode cX7_typeOf 12 = .ok (.iload_n 2, 1) := by decide +kernel
theorem dX7_typeOf_13 : decode cX7_typeOf 13 = .ok (.ireturn, 1) := by decide +kernel
theorem dX7_typeOf_14 : decode cX7_typeOf 14 = .ok (.aload_n 0, 1) := by decide +kernel
theorem dX7_typeOf_15 : decode cX7_typeOf 15 = .ok (.iload_n 1, 1) := by decide +kernel
theorem dX7_typeOf_16 : decode cX7_typeOf 16 = .ok (.invokevirtual 145, 3) := by decide +kernel
theorem dX7_typeOf_19 : decode cX7_typeOf 19 = .ok (.aload_n 0, 1) := by decide +kernel
theorem dX7_typeOf_20 : decode cX7_typeOf 20 = .ok (.getfield 54, 3) := by decide +kernel
theorem dX7_typeOf_23 : decode cX7_typeOf 23 = .ok (.invokevirtual 189, 3) := by decide +kernel
theorem dX7_typeOf_26 : decode cX7_typeOf 26 = .ok (.ireturn, 1) := by decide +kernel
theorem dX7_crossings_0 : decode cX7_crossings 0 = .ok (.aload_n 0, 1) := by decide +kernel
theorem dX7_crossings_1 : decode cX7_crossings 1 = .ok (.iload_n 1, 1) := by decide +kernel
theorem dX7_crossings_2 : decode cX7_crossings 2 = .ok (.iload_n 1, 1) := by decide +kernel
theorem dX7_crossings_3 : decode cX7_crossings 3 = .ok (.iconst 1, 1) := by decide +kernel
theorem dX7_crossings_4 : decode cX7_crossings 4 = .ok (.invokevirtual 130, 3) := by decide +kernel
theorem dX7_crossings_7 : decode cX7_crossings 7 = .ok (.istore_n 2, 1) := by decide +kernel
theorem dX7_crossings_8 : decode cX7_crossings 8 = .ok (.iload_n 2, 1) := by decide +kernel
theorem dX7_crossings_9 : decode cX7_crossings 9 = .ok (.ifCond .eq 5, 3) := by decide +kernel
theorem dX7_crossings_12 : decode cX7_crossings 12 = .ok (.iload_n 2, 1) := by decide +kernel
theorem dX7_crossings_13 : decode cX7_crossings 13 = .ok (.ireturn, 1) := by decide +kernel
theorem dX7_crossings_14 : decode cX7_crossings 14 = .ok (.aload_n 0, 1) := by decide +kernel
theorem dX7_crossings_15 : decode cX7_crossings 15 = .ok (.iload_n 1, 1) := by decide +kernel
theorem dX7_crossings_16 : decode cX7_crossings 16 = .ok (.invokevirtual 145, 3) := by decide +kernel
theorem dX7_crossings_19 : decode cX7_crossings 19 = .ok (.aload_n 0, 1) := by decide +kernel
theorem dX7_crossings_20 : decode cX7_crossings 20 = .ok (.getfield 54, 3) := by decide +kernel
theorem dX7_crossings_23 : decode cX7_crossings 23 = .ok (.invokevirtual 192, 3) := by decide +kernel
theorem dX7_crossings_26 : decode cX7_crossings 26 = .ok (.ireturn, 1) := by decide +kernel
theorem dX7_index_0 : decode cX7_index 0 = .ok (.aload_n 0, 1) := by decide +kernel
theorem dX7_index_1 : decode cX7_index 1 = .ok (.iload_n 1, 1) := by decide +kernel
theorem dX7_index_2 : decode cX7_index 2 = .ok (.iload_n 1, 1) := by decide +kernel
theorem dX7_index_3 : decode cX7_index 3 = .ok (.iconst 1, 1) := by decide +kernel
theorem dX7_index_4 : decode cX7_index 4 = .ok (.invokevirtual 130, 3) := by decide +kernel
theorem dX7_index_7 : decode cX7_index 7 = .ok (.istore_n 2, 1) := by decide +kernel
theorem dX7_index_8 : decode cX7_index 8 = .ok (.iload_n 2, 1) := by decide +kernel
theorem dX7_index_9 : decode cX7_index 9 = .ok (.ifCond .eq 7, 3) := by decide +kernel
theorem dX7_index_12 : decode cX7_index 12 = .ok (.iload_n 2, 1) := by decide +kernel
theorem dX7_index_13 : decode cX7_index 13 = .ok (.goto 19, 3) := by decide +kernel
theorem dX7_index_16 : decode cX7_index 16 = .ok (.aload_n 0, 1) := by decide +kernel
theorem dX7_index_17 : decode cX7_index 17 = .ok (.getfield 40, 3) := by decide +kernel
theorem dX7_index_20 : decode cX7_index 20 = .ok (.aload_n 0, 1) := by decide +kernel
theorem dX7_index_21 : decode cX7_index 21 = .ok (.getfield 10, 3) := by decide +kernel
theorem dX7_index_24 : decode cX7_index 24 = .ok (.getfield 133, 3) := by decide +kernel
theorem dX7_index_27 : decode cX7_index 27 = .ok (.iload_n 1, 1) := by decide +kernel
theorem dX7_index_28 : decode cX7_index 28 = .ok (.iaload, 1) := by decide +kernel
theorem dX7_index_29 : decode cX7_index 29 = .ok (.invokevirtual 195, 3) := by decide +kernel
theorem dX7_index_32 : decode cX7_index 32 = .ok (.ireturn, 1) := by decide +kernel
theorem dX7_why_0 : decode cX7_why 0 = .ok (.aload_n 0, 1) := by decide +kernel
theorem dX7_why_1 : decode cX7_why 1 = .ok (.iload_n 1, 1) := by decide +kernel
theorem dX7_why_2 : decode cX7_why 2 = .ok (.iload_n 1, 1) := by decide +kernel
theorem dX7_why_3 : decode cX7_why 3 = .ok (.iconst 1, 1) := by decide +kernel
theorem dX7_why_4 : decode cX7_why 4 = .ok (.invokevirtual 130, 3) := by decide +kernel
theorem dX7_why_7 : decode cX7_why 7 = .ok (.istore_n 2, 1) := by decide +kernel
theorem dX7_why_8 : decode cX7_why 8 = .ok (.iload_n 2, 1) := by decide +kernel
theorem dX7_why_9 : decode cX7_why 9 = .ok (.ifCond .eq 5, 3) := by decide +kernel
theorem dX7_why_12 : decode cX7_why 12 = .ok (.iload_n 2, 1) := by decide +kernel
theorem dX7_why_13 : decode cX7_why 13 = .ok (.ireturn, 1) := by decide +kernel
theorem dX7_why_14 : decode cX7_why 14 = .ok (.aload_n 0, 1) := by decide +kernel
theorem dX7_why_15 : decode cX7_why 15 = .ok (.getfield 10, 3) := by decide +kernel
theorem dX7_why_18 : decode cX7_why 18 = .ok (.getfield 133, 3) := by decide +kernel
theorem dX7_why_21 : decode cX7_why 21 = .ok (.iload_n 1, 1) := by decide +kernel
theorem dX7_why_22 : decode cX7_why 22 = .ok (.iaload, 1) := by decide +kernel
theorem dX7_why_23 : decode cX7_why 23 = .ok (.istore_n 3, 1) := by decide +kernel
theorem dX7_why_24 : decode cX7_why 24 = .ok (.aload_n 0, 1) := by decide +kernel
theorem dX7_why_25 : decode cX7_why 25 = .ok (.iload_n 1, 1) := by decide +kernel
theorem dX7_why_26 : decode cX7_why 26 = .ok (.invokevirtual 145, 3) := by decide +kernel
theorem dX7_why_29 : decode cX7_why 29 = .ok (.aload_n 0, 1) := by decide +kernel
theorem dX7_why_30 : decode cX7_why 30 = .ok (.getfield 54, 3) := by decide +kernel
theorem dX7_why_33 : decode cX7_why 33 = .ok (.invokevirtual 148, 3) := by decide +kernel
theorem dX7_why_36 : decode cX7_why 36 = .ok (.bipush (-9), 2) := by decide +kernel
theorem dX7_why_38 : decode cX7_why 38 = .ok (.if_icmp .eq 7, 3) := by decide +kernel
theorem dX7_why_41 : decode cX7_why 41 = .ok (.iconst 1, 1) := by decide +kernel
theorem dX7_why_42 : decode cX7_why 42 = .ok (.goto 4, 3) := by decide +kernel
theorem dX7_why_45 : decode cX7_why 45 = .ok (.iconst 0, 1) := by decide +kernel
theorem dX7_why_46 : decode cX7_why 46 = .ok (.istore 4, 2) := by decide +kernel
theorem dX7_why_48 : decode cX7_why 48 = .ok (.aload_n 0, 1) := by decide +kernel
theorem dX7_why_49 : decode cX7_why 49 = .ok (.getfield 10, 3) := by decide +kernel
theorem dX7_why_52 : decode cX7_why 52 = .ok (.iload_n 3, 1) := by decide +kernel
theorem dX7_why_53 : decode cX7_why 53 = .ok (.aload_n 0, 1) := by decide +kernel
theorem dX7_why_54 : decode cX7_why 54 = .ok (.getfield 54, 3) := by decide +kernel
theorem dX7_why_57 : decode cX7_why 57 = .ok (.invokevirtual 198, 3) := by decide +kernel
theorem dX7_why_60 : decode cX7_why 60 = .ok (.aload_n 0, 1) := by decide +kernel
theorem dX7_why_61 : decode cX7_why 61 = .ok (.getfield 54, 3) := by decide +kernel
theorem dX7_why_64 : decode cX7_why 64 = .ok (.getfield 183, 3) := by decide +kernel
theorem dX7_why_67 : decode cX7_why 67 = .ok (.iload 4, 2) := by decide +kernel
theorem dX7_why_69 : decode cX7_why 69 = .ok (.invokevirtual 201, 3) := by decide +kernel
theorem dX7_why_72 : decode cX7_why 72 = .ok (.ireturn, 1) := by decide +kernel
theorem dX7_where_0 : decode cX7_where 0 = .ok (.aload_n 0, 1) := by decide +kernel
theorem dX7_where_1 : decode cX7_where 1 = .ok (.iload_n 1, 1) := by decide +kernel
theorem dX7_where_2 : decode cX7_where 2 = .ok (.invokevirtual 205, 3) := by decide +kernel
theorem dX7_where_5 : decode cX7_where 5 = .ok (.istore_n 2, 1) := by decide +kernel
theorem dX7_where_6 : decode cX7_where 6 = .ok (.iload_n 2, 1) := by decide +kernel
theorem dX7_where_7 : decode cX7_where 7 = .ok (.ifCond .ge 5, 3) := by decide +kernel
theorem dX7_where_10 : decode cX7_where 10 = .ok (.iload_n 2, 1) := by decide +kernel
theorem dX7_where_11 : decode cX7_where 11 = .ok (.ireturn, 1) := by decide +kernel
theorem dX7_where_12 : decode cX7_where 12 = .ok (.aload_n 0, 1) := by decide +kernel
theorem dX7_where_13 : decode cX7_where 13 = .ok (.getfield 10, 3) := by decide +kernel
theorem dX7_where_16 : decode cX7_where 16 = .ok (.getfield 133, 3) := by decide +kernel
theorem dX7_where_19 : decode cX7_where 19 = .ok (.iload_n 1, 1) := by decide +kernel
theorem dX7_where_20 : decode cX7_where 20 = .ok (.iaload, 1) := by decide +kernel
theorem dX7_where_21 : decode cX7_where 21 = .ok (.istore_n 3, 1) := by decide +kernel
theorem dX7_where_22 : decode cX7_where 22 = .ok (.aload_n 0, 1) := by decide +kernel
theorem dX7_where_23 : decode cX7_where 23 = .ok (.iload_n 1, 1) := by decide +kernel
theorem dX7_where_24 : decode cX7_where 24 = .ok (.invokevirtual 145, 3) := by decide +kernel
theorem dX7_where_27 : decode cX7_where 27 = .ok (.iload_n 2, 1) := by decide +kernel
theorem dX7_where_28 : decode cX7_where 28 = .ok (.tableswitch 95 1 5 #[36, 51, 59, 72, 87], 36) := by decide +kernel
theorem dX7_where_64 : decode cX7_where 64 = .ok (.aload_n 0, 1) := by decide +kernel
theorem dX7_where_65 : decode cX7_where 65 = .ok (.getfield 54, 3) := by decide +kernel
theorem dX7_where_68 : decode cX7_where 68 = .ok (.aload_n 0, 1) := by decide +kernel
theorem dX7_where_69 : decode cX7_where 69 = .ok (.getfield 10, 3) := by decide +kernel
theorem dX7_where_72 : decode cX7_where 72 = .ok (.getfield 83, 3) := by decide +kernel
theorem dX7_where_75 : decode cX7_where 75 = .ok (.invokevirtual 208, 3) := by decide +kernel
theorem dX7_where_78 : decode cX7_where 78 = .ok (.ireturn, 1) := by decide +kernel
theorem dX7_where_79 : decode cX7_where 79 = .ok (.aload_n 0, 1) := by decide +kernel
theorem dX7_where_80 : decode cX7_where 80 = .ok (.getfield 54, 3) := by decide +kernel
theorem dX7_where_83 : decode cX7_where 83 = .ok (.getfield 183, 3) := by decide +kernel
theorem dX7_where_86 : decode cX7_where 86 = .ok (.ireturn, 1) := by decide +kernel
theorem dX7_where_87 : decode cX7_where 87 = .ok (.iload_n 3, 1) := by decide +kernel
theorem dX7_where_88 : decode cX7_where 88 = .ok (.aload_n 0, 1) := by decide +kernel
theorem dX7_where_89 : decode cX7_where 89 = .ok (.getfield 10, 3) := by decide +kernel
theorem dX7_where_92 : decode cX7_where 92 = .ok (.getfield 101, 3) := by decide +kernel
theorem dX7_where_95 : decode cX7_where 95 = .ok (.iand, 1) := by decide +kernel
theorem dX7_where_96 : decode cX7_where 96 = .ok (.invokestatic 211, 3) := by decide +kernel
theorem dX7_where_99 : decode cX7_where 99 = .ok (.ireturn, 1) := by decide +kernel
theorem dX7_where_100 : decode cX7_where 100 = .ok (.aload_n 0, 1) := by decide +kernel
theorem dX7_where_101 : decode cX7_where 101 = .ok (.getfield 10, 3) := by decide +kernel
theorem dX7_where_104 : decode cX7_where 104 = .ok (.getfield 104, 3) := by decide +kernel
theorem dX7_where_107 : decode cX7_where 107 = .ok (.iload_n 3, 1) := by decide +kernel
theorem dX7_where_108 : decode cX7_where 108 = .ok (.iconst (-1), 1) := by decide +kernel
theorem dX7_where_109 : decode cX7_where 109 = .ok (.ixor, 1) := by decide +kernel
theorem dX7_where_110 : decode cX7_where 110 = .ok (.iand, 1) := by decide +kernel
theorem dX7_where_111 : decode cX7_where 111 = .ok (.invokestatic 211, 3) := by decide +kernel
theorem dX7_where_114 : decode cX7_where 114 = .ok (.ireturn, 1) := by decide +kernel
theorem dX7_where_115 : decode cX7_where 115 = .ok (.aload_n 0, 1) := by decide +kernel
theorem dX7_where_116 : decode cX7_where 116 = .ok (.getfield 54, 3) := by decide +kernel
theorem dX7_where_119 : decode cX7_where 119 = .ok (.invokevirtual 148, 3) := by decide +kernel
theorem dX7_where_122 : decode cX7_where 122 = .ok (.ireturn, 1) := by decide +kernel
theorem dX7_where_123 : decode cX7_where 123 = .ok (.bipush (-9), 2) := by decide +kernel
theorem dX7_where_125 : decode cX7_where 125 = .ok (.ireturn, 1) := by decide +kernel
theorem dX7_count_0 : decode cX7_count 0 = .ok (.aload_n 0, 1) := by decide +kernel
theorem dX7_count_1 : decode cX7_count 1 = .ok (.getfield 40, 3) := by decide +kernel
theorem dX7_count_4 : decode cX7_count 4 = .ok (.getfield 173, 3) := by decide +kernel
theorem dX7_count_7 : decode cX7_count 7 = .ok (.ireturn, 1) := by decide +kernel
theorem dX7_countWith_0 : decode cX7_countWith 0 = .ok (.iload_n 1, 1) := by decide +kernel
theorem dX7_countWith_1 : decode cX7_countWith 1 = .ok (.iconst 1, 1) := by decide +kernel
theorem dX7_countWith_2 : decode cX7_countWith 2 = .ok (.if_icmp .lt 9, 3) := by decide +kernel
theorem dX7_countWith_5 : decode cX7_countWith 5 = .ok (.iload_n 1, 1) := by decide +kernel
theorem dX7_countWith_6 : decode cX7_countWith 6 = .ok (.bipush 6, 2) := by decide +kernel
theorem dX7_countWith_8 : decode cX7_countWith 8 = .ok (.if_icmp .le 7, 3) := by decide +kernel
theorem dX7_countWith_11 : decode cX7_countWith 11 = .ok (.iconst (-1), 1) := by decide +kernel
theorem dX7_countWith_12 : decode cX7_countWith 12 = .ok (.goto 12, 3) := by decide +kernel
theorem dX7_countWith_15 : decode cX7_countWith 15 = .ok (.aload_n 0, 1) := by decide +kernel
theorem dX7_countWith_16 : decode cX7_countWith 16 = .ok (.getfield 40, 3) := by decide +kernel
theorem dX7_countWith_19 : decode cX7_countWith 19 = .ok (.getfield 214, 3) := by decide +kernel
theorem dX7_countWith_22 : decode cX7_countWith 22 = .ok (.iload_n 1, 1) := by decide +kernel
theorem dX7_countWith_23 : decode cX7_countWith 23 = .ok (.iaload, 1) := by decide +kernel
theorem dX7_countWith_24 : decode cX7_countWith 24 = .ok (.ireturn, 1) := by decide +kernel
theorem dX7_below_0 : decode cX7_below 0 = .ok (.aload_n 0, 1) := by decide +kernel
theorem dX7_below_1 : decode cX7_below 1 = .ok (.iload_n 1, 1) := by decide +kernel
theorem dX7_below_2 : decode cX7_below 2 = .ok (.iload_n 2, 1) := by decide +kernel
theorem dX7_below_3 : decode cX7_below 3 = .ok (.iconst 1, 1) := by decide +kernel
theorem dX7_below_4 : decode cX7_below 4 = .ok (.invokevirtual 130, 3) := by decide +kernel
theorem dX7_below_7 : decode cX7_below 7 = .ok (.istore_n 3, 1) := by decide +kernel
theorem dX7_below_8 : decode cX7_below 8 = .ok (.iload_n 3, 1) := by decide +kernel
theorem dX7_below_9 : decode cX7_below 9 = .ok (.ifCond .eq 5, 3) := by decide +kernel
theorem dX7_below_12 : decode cX7_below 12 = .ok (.iload_n 3, 1) := by decide +kernel
theorem dX7_below_13 : decode cX7_below 13 = .ok (.ireturn, 1) := by decide +kernel
theorem dX7_below_14 : decode cX7_below 14 = .ok (.aload_n 0, 1) := by decide +kernel
theorem dX7_below_15 : decode cX7_below 15 = .ok (.getfield 10, 3) := by decide +kernel
theorem dX7_below_18 : decode cX7_below 18 = .ok (.getfield 133, 3) := by decide +kernel
theorem dX7_below_21 : decode cX7_below 21 = .ok (.iload_n 1, 1) := by decide +kernel
theorem dX7_below_22 : decode cX7_below 22 = .ok (.iaload, 1) := by decide +kernel
theorem dX7_below_23 : decode cX7_below 23 = .ok (.aload_n 0, 1) := by decide +kernel
theorem dX7_below_24 : decode cX7_below 24 = .ok (.getfield 10, 3) := by decide +kernel
theorem dX7_below_27 : decode cX7_below 27 = .ok (.getfield 133, 3) := by decide +kernel
theorem dX7_below_30 : decode cX7_below 30 = .ok (.iload_n 2, 1) := by decide +kernel
theorem dX7_below_31 : decode cX7_below 31 = .ok (.iaload, 1) := by decide +kernel
theorem dX7_below_32 : decode cX7_below 32 = .ok (.invokestatic 217, 3) := by decide +kernel
theorem dX7_below_35 : decode cX7_below 35 = .ok (.ifCond .eq 7, 3) := by decide +kernel
theorem dX7_below_38 : decode cX7_below 38 = .ok (.iconst 1, 1) := by decide +kernel
theorem dX7_below_39 : decode cX7_below 39 = .ok (.goto 4, 3) := by decide +kernel
theorem dX7_below_42 : decode cX7_below 42 = .ok (.iconst 0, 1) := by decide +kernel
theorem dX7_below_43 : decode cX7_below 43 = .ok (.ireturn, 1) := by decide +kernel
theorem dX7_covers_0 : decode cX7_covers 0 = .ok (.aload_n 0, 1) := by decide +kernel
theorem dX7_covers_1 : decode cX7_covers 1 = .ok (.iload_n 1, 1) := by decide +kernel
theorem dX7_covers_2 : decode cX7_covers 2 = .ok (.iload_n 1, 1) := by decide +kernel
theorem dX7_covers_3 : decode cX7_covers 3 = .ok (.iconst 1, 1) := by decide +kernel
theorem dX7_covers_4 : decode cX7_covers 4 = .ok (.invokevirtual 221, 3) := by decide +kernel
theorem dX7_covers_7 : decode cX7_covers 7 = .ok (.istore_n 3, 1) := by decide +kernel
theorem dX7_covers_8 : decode cX7_covers 8 = .ok (.iload_n 3, 1) := by decide +kernel
theorem dX7_covers_9 : decode cX7_covers 9 = .ok (.ifCond .eq 5, 3) := by decide +kernel
theorem dX7_covers_12 : decode cX7_covers 12 = .ok (.iload_n 3, 1) := by decide +kernel
theorem dX7_covers_13 : decode cX7_covers 13 = .ok (.ireturn, 1) := by decide +kernel
theorem dX7_covers_14 : decode cX7_covers 14 = .ok (.aload_n 0, 1) := by decide +kernel
theorem dX7_covers_15 : decode cX7_covers 15 = .ok (.getfield 40, 3) := by decide +kernel
theorem dX7_covers_18 : decode cX7_covers 18 = .ok (.aload_n 0, 1) := by decide +kernel
theorem dX7_covers_19 : decode cX7_covers 19 = .ok (.getfield 10, 3) := by decide +kernel
theorem dX7_covers_22 : decode cX7_covers 22 = .ok (.getfield 133, 3) := by decide +kernel
theorem dX7_covers_25 : decode cX7_covers 25 = .ok (.iload_n 1, 1) := by decide +kernel
theorem dX7_covers_26 : decode cX7_covers 26 = .ok (.iaload, 1) := by decide +kernel
theorem dX7_covers_27 : decode cX7_covers 27 = .ok (.iload_n 2, 1) := by decide +kernel
theorem dX7_covers_28 : decode cX7_covers 28 = .ok (.aload_n 0, 1) := by decide +kernel
theorem dX7_covers_29 : decode cX7_covers 29 = .ok (.getfield 10, 3) := by decide +kernel
theorem dX7_covers_32 : decode cX7_covers 32 = .ok (.getfield 133, 3) := by decide +kernel
theorem dX7_covers_35 : decode cX7_covers 35 = .ok (.iload_n 1, 1) := by decide +kernel
theorem dX7_covers_36 : decode cX7_covers 36 = .ok (.iaload, 1) := by decide +kernel
theorem dX7_covers_37 : decode cX7_covers 37 = .ok (.invokevirtual 224, 3) := by decide +kernel
theorem dX7_covers_40 : decode cX7_covers 40 = .ok (.aload_n 0, 1) := by decide +kernel
theorem dX7_covers_41 : decode cX7_covers 41 = .ok (.getfield 40, 3) := by decide +kernel
theorem dX7_covers_44 : decode cX7_covers 44 = .ok (.getfield 228, 3) := by decide +kernel
theorem dX7_covers_47 : decode cX7_covers 47 = .ok (.ireturn, 1) := by decide +kernel
theorem dX7_bounds_0 : decode cX7_bounds 0 = .ok (.aload_n 0, 1) := by decide +kernel
theorem dX7_bounds_1 : decode cX7_bounds 1 = .ok (.iload_n 1, 1) := by decide +kernel
theorem dX7_bounds_2 : decode cX7_bounds 2 = .ok (.iload_n 2, 1) := by decide +kernel
theorem dX7_bounds_3 : decode cX7_bounds 3 = .ok (.iconst 1, 1) := by decide +kernel
theorem dX7_bounds_4 : decode cX7_bounds 4 = .ok (.invokevirtual 130, 3) := by decide +kernel
theorem dX7_bounds_7 : decode cX7_bounds 7 = .ok (.istore 4, 2) := by decide +kernel
theorem dX7_bounds_9 : decode cX7_bounds 9 = .ok (.iload 4, 2) := by decide +kernel
theorem dX7_bounds_11 : decode cX7_bounds 11 = .ok (.ifCond .eq 6, 3) := by decide +kernel
theorem dX7_bounds_14 : decode cX7_bounds 14 = .ok (.iload 4, 2) := by decide +kernel
theorem dX7_bounds_16 : decode cX7_bounds 16 = .ok (.ireturn, 1) := by decide +kernel
theorem dX7_bounds_17 : decode cX7_bounds 17 = .ok (.aload_n 0, 1) := by decide +kernel
theorem dX7_bounds_18 : decode cX7_bounds 18 = .ok (.iload_n 1, 1) := by decide +kernel
theorem dX7_bounds_19 : decode cX7_bounds 19 = .ok (.iload_n 2, 1) := by decide +kernel
theorem dX7_bounds_20 : decode cX7_bounds 20 = .ok (.iload_n 3, 1) := by decide +kernel
theorem dX7_bounds_21 : decode cX7_bounds 21 = .ok (.invokevirtual 231, 3) := by decide +kernel
theorem dX7_bounds_24 : decode cX7_bounds 24 = .ok (.aload_n 0, 1) := by decide +kernel
theorem dX7_bounds_25 : decode cX7_bounds 25 = .ok (.getfield 40, 3) := by decide +kernel
theorem dX7_bounds_28 : decode cX7_bounds 28 = .ok (.getfield 228, 3) := by decide +kernel
theorem dX7_bounds_31 : decode cX7_bounds 31 = .ok (.ireturn, 1) := by decide +kernel
theorem dX7_bound_0 : decode cX7_bound 0 = .ok (.aload_n 0, 1) := by decide +kernel
theorem dX7_bound_1 : decode cX7_bound 1 = .ok (.iload_n 1, 1) := by decide +kernel
theorem dX7_bound_2 : decode cX7_bound 2 = .ok (.iload_n 2, 1) := by decide +kernel
theorem dX7_bound_3 : decode cX7_bound 3 = .ok (.iload 4, 2) := by decide +kernel
theorem dX7_bound_5 : decode cX7_bound 5 = .ok (.invokestatic 117, 3) := by decide +kernel
theorem dX7_bound_8 : decode cX7_bound 8 = .ok (.invokevirtual 130, 3) := by decide +kernel
theorem dX7_bound_11 : decode cX7_bound 11 = .ok (.istore 5, 2) := by decide +kernel
theorem dX7_bound_13 : decode cX7_bound 13 = .ok (.iload 5, 2) := by decide +kernel
theorem dX7_bound_15 : decode cX7_bound 15 = .ok (.ifCond .eq 6, 3) := by decide +kernel
theorem dX7_bound_18 : decode cX7_bound 18 = .ok (.iload 5, 2) := by decide +kernel
theorem dX7_bound_20 : decode cX7_bound 20 = .ok (.ireturn, 1) := by decide +kernel
theorem dX7_bound_21 : decode cX7_bound 21 = .ok (.aload_n 0, 1) := by decide +kernel
theorem dX7_bound_22 : decode cX7_bound 22 = .ok (.iload_n 1, 1) := by decide +kernel
theorem dX7_bound_23 : decode cX7_bound 23 = .ok (.iload_n 2, 1) := by decide +kernel
theorem dX7_bound_24 : decode cX7_bound 24 = .ok (.iload_n 3, 1) := by decide +kernel
theorem dX7_bound_25 : decode cX7_bound 25 = .ok (.invokevirtual 231, 3) := by decide +kernel
theorem dX7_bound_28 : decode cX7_bound 28 = .ok (.aload_n 0, 1) := by decide +kernel
theorem dX7_bound_29 : decode cX7_bound 29 = .ok (.getfield 40, 3) := by decide +kernel
theorem dX7_bound_32 : decode cX7_bound 32 = .ok (.getfield 228, 3) := by decide +kernel
theorem dX7_bound_35 : decode cX7_bound 35 = .ok (.iconst 1, 1) := by decide +kernel
theorem dX7_bound_36 : decode cX7_bound 36 = .ok (.if_icmp .eq 6, 3) := by decide +kernel
theorem dX7_bound_39 : decode cX7_bound 39 = .ok (.bipush (-3), 2) := by decide +kernel
theorem dX7_bound_41 : decode cX7_bound 41 = .ok (.ireturn, 1) := by decide +kernel
theorem dX7_bound_42 : decode cX7_bound 42 = .ok (.aload_n 0, 1) := by decide +kernel
theorem dX7_bound_43 : decode cX7_bound 43 = .ok (.iload 4, 2) := by decide +kernel
theorem dX7_bound_45 : decode cX7_bound 45 = .ok (.aload_n 0, 1) := by decide +kernel
theorem dX7_bound_46 : decode cX7_bound 46 = .ok (.getfield 40, 3) := by decide +kernel
theorem dX7_bound_49 : decode cX7_bound 49 = .ok (.aload_n 0, 1) := by decide +kernel
theorem dX7_bound_50 : decode cX7_bound 50 = .ok (.getfield 40, 3) := by decide +kernel
theorem dX7_bound_53 : decode cX7_bound 53 = .ok (.getfield 235, 3) := by decide +kernel
theorem dX7_bound_56 : decode cX7_bound 56 = .ok (.iconst 0, 1) := by decide +kernel
theorem dX7_bound_57 : decode cX7_bound 57 = .ok (.iaload, 1) := by decide +kernel
theorem dX7_bound_58 : decode cX7_bound 58 = .ok (.invokevirtual 195, 3) := by decide +kernel
theorem dX7_bound_61 : decode cX7_bound 61 = .ok (.invokevirtual 167, 3) := by decide +kernel
theorem dX7_bound_64 : decode cX7_bound 64 = .ok (.ireturn, 1) := by decide +kernel
theorem dX7_interval_0 : decode cX7_interval 0 = .ok (.aload_n 0, 1) := by decide +kernel
theorem dX7_interval_1 : decode cX7_interval 1 = .ok (.iload_n 1, 1) := by decide +kernel
theorem dX7_interval_2 : decode cX7_interval 2 = .ok (.iload_n 2, 1) := by decide +kernel
theorem dX7_interval_3 : decode cX7_interval 3 = .ok (.iconst 1, 1) := by decide +kernel
theorem dX7_interval_4 : decode cX7_interval 4 = .ok (.invokevirtual 130, 3) := by decide +kernel
theorem dX7_interval_7 : decode cX7_interval 7 = .ok (.istore_n 3, 1) := by decide +kernel
theorem dX7_interval_8 : decode cX7_interval 8 = .ok (.iload_n 3, 1) := by decide +kernel
theorem dX7_interval_9 : decode cX7_interval 9 = .ok (.ifCond .eq 5, 3) := by decide +kernel
theorem dX7_interval_12 : decode cX7_interval 12 = .ok (.iload_n 3, 1) := by decide +kernel
theorem dX7_interval_13 : decode cX7_interval 13 = .ok (.ireturn, 1) := by decide +kernel
theorem dX7_interval_14 : decode cX7_interval 14 = .ok (.aload_n 0, 1) := by decide +kernel
theorem dX7_interval_15 : decode cX7_interval 15 = .ok (.iload_n 1, 1) := by decide +kernel
theorem dX7_interval_16 : decode cX7_interval 16 = .ok (.iload_n 2, 1) := by decide +kernel
theorem dX7_interval_17 : decode cX7_interval 17 = .ok (.invokevirtual 238, 3) := by decide +kernel
theorem dX7_interval_20 : decode cX7_interval 20 = .ok (.aload_n 0, 1) := by decide +kernel
theorem dX7_interval_21 : decode cX7_interval 21 = .ok (.getfield 47, 3) := by decide +kernel
theorem dX7_interval_24 : decode cX7_interval 24 = .ok (.getfield 242, 3) := by decide +kernel
theorem dX7_interval_27 : decode cX7_interval 27 = .ok (.ireturn, 1) := by decide +kernel
theorem dX7_moebius_0 : decode cX7_moebius 0 = .ok (.aload_n 0, 1) := by decide +kernel
theorem dX7_moebius_1 : decode cX7_moebius 1 = .ok (.iload_n 1, 1) := by decide +kernel
theorem dX7_moebius_2 : decode cX7_moebius 2 = .ok (.iload_n 2, 1) := by decide +kernel
theorem dX7_moebius_3 : decode cX7_moebius 3 = .ok (.iconst 1, 1) := by decide +kernel
theorem dX7_moebius_4 : decode cX7_moebius 4 = .ok (.invokevirtual 221, 3) := by decide +kernel
theorem dX7_moebius_7 : decode cX7_moebius 7 = .ok (.istore_n 3, 1) := by decide +kernel
theorem dX7_moebius_8 : decode cX7_moebius 8 = .ok (.iload_n 3, 1) := by decide +kernel
theorem dX7_moebius_9 : decode cX7_moebius 9 = .ok (.ifCond .eq 10, 3) := by decide +kernel
theorem dX7_moebius_12 : decode cX7_moebius 12 = .ok (.ldc2_w 243, 3) := by decide +kernel
theorem dX7_moebius_15 : decode cX7_moebius 15 = .ok (.iload_n 3, 1) := by decide +kernel
theorem dX7_moebius_16 : decode cX7_moebius 16 = .ok (.i2l, 1) := by decide +kernel
theorem dX7_moebius_17 : decode cX7_moebius 17 = .ok (.ladd, 1) := by decide +kernel
theorem dX7_moebius_18 : decode cX7_moebius 18 = .ok (.lreturn, 1) := by decide +kernel
theorem dX7_moebius_19 : decode cX7_moebius 19 = .ok (.aload_n 0, 1) := by decide +kernel
theorem dX7_moebius_20 : decode cX7_moebius 20 = .ok (.iload_n 1, 1) := by decide +kernel
theorem dX7_moebius_21 : decode cX7_moebius 21 = .ok (.iload_n 2, 1) := by decide +kernel
theorem dX7_moebius_22 : decode cX7_moebius 22 = .ok (.invokevirtual 238, 3) := by decide +kernel
theorem dX7_moebius_25 : decode cX7_moebius 25 = .ok (.aload_n 0, 1) := by decide +kernel
theorem dX7_moebius_26 : decode cX7_moebius 26 = .ok (.getfield 47, 3) := by decide +kernel
theorem dX7_moebius_29 : decode cX7_moebius 29 = .ok (.invokevirtual 245, 3) := by decide +kernel
theorem dX7_moebius_32 : decode cX7_moebius 32 = .ok (.aload_n 0, 1) := by decide +kernel
theorem dX7_moebius_33 : decode cX7_moebius 33 = .ok (.getfield 47, 3) := by decide +kernel
theorem dX7_moebius_36 : decode cX7_moebius 36 = .ok (.invokevirtual 248, 3) := by decide +kernel
theorem dX7_moebius_39 : decode cX7_moebius 39 = .ok (.lreturn, 1) := by decide +kernel
theorem dX7_chains_0 : decode cX7_chains 0 = .ok (.aload_n 0, 1) := by decide +kernel
theorem dX7_chains_1 : decode cX7_chains 1 = .ok (.iload_n 1, 1) := by decide +kernel
theorem dX7_chains_2 : decode cX7_chains 2 = .ok (.iload_n 2, 1) := by decide +kernel
theorem dX7_chains_3 : decode cX7_chains 3 = .ok (.iload_n 3, 1) := by decide +kernel
theorem dX7_chains_4 : decode cX7_chains 4 = .ok (.ifCond .lt 12, 3) := by decide +kernel
theorem dX7_chains_7 : decode cX7_chains 7 = .ok (.iload_n 3, 1) := by decide +kernel
theorem dX7_chains_8 : decode cX7_chains 8 = .ok (.iconst 5, 1) := by decide +kernel
theorem dX7_chains_9 : decode cX7_chains 9 = .ok (.if_icmp .gt 7, 3) := by decide +kernel
theorem dX7_chains_12 : decode cX7_chains 12 = .ok (.iconst 1, 1) := by decide +kernel
theorem dX7_chains_13 : decode cX7_chains 13 = .ok (.goto 4, 3) := by decide +kernel
theorem dX7_chains_16 : decode cX7_chains 16 = .ok (.iconst 0, 1) := by decide +kernel
theorem dX7_chains_17 : decode cX7_chains 17 = .ok (.invokevirtual 221, 3) := by decide +kernel
theorem dX7_chains_20 : decode cX7_chains 20 = .ok (.istore 4, 2) := by decide +kernel
theorem dX7_chains_22 : decode cX7_chains 22 = .ok (.iload 4, 2) := by decide +kernel
theorem dX7_chains_24 : decode cX7_chains 24 = .ok (.ifCond .eq 7, 3) := by decide +kernel
theorem dX7_chains_27 : decode cX7_chains 27 = .ok (.iload 4, 2) := by decide +kernel
theorem dX7_chains_29 : decode cX7_chains 29 = .ok (.i2l, 1) := by decide +kernel
theorem dX7_chains_30 : decode cX7_chains 30 = .ok (.lreturn, 1) := by decide +kernel
theorem dX7_chains_31 : decode cX7_chains 31 = .ok (.aload_n 0, 1) := by decide +kernel
theorem dX7_chains_32 : decode cX7_chains 32 = .ok (.iload_n 1, 1) := by decide +kernel
theorem dX7_chains_33 : decode cX7_chains 33 = .ok (.iload_n 2, 1) := by decide +kernel
theorem dX7_chains_34 : decode cX7_chains 34 = .ok (.invokevirtual 238, 3) := by decide +kernel
theorem dX7_chains_37 : decode cX7_chains 37 = .ok (.aload_n 0, 1) := by decide +kernel
theorem dX7_chains_38 : decode cX7_chains 38 = .ok (.getfield 47, 3) := by decide +kernel
theorem dX7_chains_41 : decode cX7_chains 41 = .ok (.iload_n 3, 1) := by decide +kernel
theorem dX7_chains_42 : decode cX7_chains 42 = .ok (.invokevirtual 252, 3) := by decide +kernel
theorem dX7_chains_45 : decode cX7_chains 45 = .ok (.aload_n 0, 1) := by decide +kernel
theorem dX7_chains_46 : decode cX7_chains 46 = .ok (.getfield 47, 3) := by decide +kernel
theorem dX7_chains_49 : decode cX7_chains 49 = .ok (.invokevirtual 248, 3) := by decide +kernel
theorem dX7_chains_52 : decode cX7_chains 52 = .ok (.lreturn, 1) := by decide +kernel
theorem dX7_maximalChains_0 : decode cX7_maximalChains 0 = .ok (.aload_n 0, 1) := by decide +kernel
theorem dX7_maximalChains_1 : decode cX7_maximalChains 1 = .ok (.iload_n 1, 1) := by decide +kernel
theorem dX7_maximalChains_2 : decode cX7_maximalChains 2 = .ok (.iload_n 2, 1) := by decide +kernel
theorem dX7_maximalChains_3 : decode cX7_maximalChains 3 = .ok (.iconst 1, 1) := by decide +kernel
theorem dX7_maximalChains_4 : decode cX7_maximalChains 4 = .ok (.invokevirtual 221, 3) := by decide +kernel
theorem dX7_maximalChains_7 : decode cX7_maximalChains 7 = .ok (.istore_n 3, 1) := by decide +kernel
theorem dX7_maximalChains_8 : decode cX7_maximalChains 8 = .ok (.iload_n 3, 1) := by decide +kernel
theorem dX7_maximalChains_9 : decode cX7_maximalChains 9 = .ok (.ifCond .eq 6, 3) := by decide +kernel
theorem dX7_maximalChains_12 : decode cX7_maximalChains 12 = .ok (.iload_n 3, 1) := by decide +kernel
theorem dX7_maximalChains_13 : decode cX7_maximalChains 13 = .ok (.i2l, 1) := by decide +kernel
theorem dX7_maximalChains_14 : decode cX7_maximalChains 14 = .ok (.lreturn, 1) := by decide +kernel
theorem dX7_maximalChains_15 : decode cX7_maximalChains 15 = .ok (.aload_n 0, 1) := by decide +kernel
theorem dX7_maximalChains_16 : decode cX7_maximalChains 16 = .ok (.iload_n 1, 1) := by decide +kernel
theorem dX7_maximalChains_17 : decode cX7_maximalChains 17 = .ok (.iload_n 2, 1) := by decide +kernel
theorem dX7_maximalChains_18 : decode cX7_maximalChains 18 = .ok (.invokevirtual 238, 3) := by decide +kernel
theorem dX7_maximalChains_21 : decode cX7_maximalChains 21 = .ok (.aload_n 0, 1) := by decide +kernel
theorem dX7_maximalChains_22 : decode cX7_maximalChains 22 = .ok (.getfield 47, 3) := by decide +kernel
theorem dX7_maximalChains_25 : decode cX7_maximalChains 25 = .ok (.invokevirtual 255, 3) := by decide +kernel
theorem dX7_maximalChains_28 : decode cX7_maximalChains 28 = .ok (.aload_n 0, 1) := by decide +kernel
theorem dX7_maximalChains_29 : decode cX7_maximalChains 29 = .ok (.getfield 47, 3) := by decide +kernel
theorem dX7_maximalChains_32 : decode cX7_maximalChains 32 = .ok (.invokevirtual 248, 3) := by decide +kernel
theorem dX7_maximalChains_35 : decode cX7_maximalChains 35 = .ok (.lreturn, 1) := by decide +kernel
theorem dX7_height_0 : decode cX7_height 0 = .ok (.aload_n 0, 1) := by decide +kernel
theorem dX7_height_1 : decode cX7_height 1 = .ok (.iload_n 1, 1) := by decide +kernel
theorem dX7_height_2 : decode cX7_height 2 = .ok (.iload_n 2, 1) := by decide +kernel
theorem dX7_height_3 : decode cX7_height 3 = .ok (.iconst 1, 1) := by decide +kernel
theorem dX7_height_4 : decode cX7_height 4 = .ok (.invokevirtual 221, 3) := by decide +kernel
theorem dX7_height_7 : decode cX7_height 7 = .ok (.istore_n 3, 1) := by decide +kernel
theorem dX7_height_8 : decode cX7_height 8 = .ok (.iload_n 3, 1) := by decide +kernel
theorem dX7_height_9 : decode cX7_height 9 = .ok (.ifCond .eq 5, 3) := by decide +kernel
theorem dX7_height_12 : decode cX7_height 12 = .ok (.iload_n 3, 1) := by decide +kernel
theorem dX7_height_13 : decode cX7_height 13 = .ok (.ireturn, 1) := by decide +kernel
theorem dX7_height_14 : decode cX7_height 14 = .ok (.aload_n 0, 1) := by decide +kernel
theorem dX7_height_15 : decode cX7_height 15 = .ok (.iload_n 1, 1) := by decide +kernel
theorem dX7_height_16 : decode cX7_height 16 = .ok (.iload_n 2, 1) := by decide +kernel
theorem dX7_height_17 : decode cX7_height 17 = .ok (.invokevirtual 238, 3) := by decide +kernel
theorem dX7_height_20 : decode cX7_height 20 = .ok (.aload_n 0, 1) := by decide +kernel
theorem dX7_height_21 : decode cX7_height 21 = .ok (.getfield 47, 3) := by decide +kernel
theorem dX7_height_24 : decode cX7_height 24 = .ok (.getfield 242, 3) := by decide +kernel
theorem dX7_height_27 : decode cX7_height 27 = .ok (.ifCond .ne 6, 3) := by decide +kernel
theorem dX7_height_30 : decode cX7_height 30 = .ok (.bipush (-9), 2) := by decide +kernel
theorem dX7_height_32 : decode cX7_height 32 = .ok (.ireturn, 1) := by decide +kernel
theorem dX7_height_33 : decode cX7_height 33 = .ok (.aload_n 0, 1) := by decide +kernel
theorem dX7_height_34 : decode cX7_height 34 = .ok (.getfield 47, 3) := by decide +kernel
theorem dX7_height_37 : decode cX7_height 37 = .ok (.invokevirtual 258, 3) := by decide +kernel
theorem dX7_height_40 : decode cX7_height 40 = .ok (.aload_n 0, 1) := by decide +kernel
theorem dX7_height_41 : decode cX7_height 41 = .ok (.getfield 47, 3) := by decide +kernel
theorem dX7_height_44 : decode cX7_height 44 = .ok (.invokevirtual 248, 3) := by decide +kernel
theorem dX7_height_47 : decode cX7_height 47 = .ok (.l2i, 1) := by decide +kernel
theorem dX7_height_48 : decode cX7_height 48 = .ok (.ireturn, 1) := by decide +kernel
theorem dX7_rankSum_0 : decode cX7_rankSum 0 = .ok (.aload_n 0, 1) := by decide +kernel
theorem dX7_rankSum_1 : decode cX7_rankSum 1 = .ok (.iload_n 1, 1) := by decide +kernel
theorem dX7_rankSum_2 : decode cX7_rankSum 2 = .ok (.iload_n 2, 1) := by decide +kernel
theorem dX7_rankSum_3 : decode cX7_rankSum 3 = .ok (.iload_n 3, 1) := by decide +kernel
theorem dX7_rankSum_4 : decode cX7_rankSum 4 = .ok (.invokestatic 261, 3) := by decide +kernel
theorem dX7_rankSum_7 : decode cX7_rankSum 7 = .ok (.invokevirtual 130, 3) := by decide +kernel
theorem dX7_rankSum_10 : decode cX7_rankSum 10 = .ok (.istore 4, 2) := by decide +kernel
theorem dX7_rankSum_12 : decode cX7_rankSum 12 = .ok (.iload 4, 2) := by decide +kernel
theorem dX7_rankSum_14 : decode cX7_rankSum 14 = .ok (.ifCond .eq 11, 3) := by decide +kernel
theorem dX7_rankSum_17 : decode cX7_rankSum 17 = .ok (.ldc2_w 243, 3) := by decide +kernel
theorem dX7_rankSum_20 : decode cX7_rankSum 20 = .ok (.iload 4, 2) := by decide +kernel
theorem dX7_rankSum_22 : decode cX7_rankSum 22 = .ok (.i2l, 1) := by decide +kernel
theorem dX7_rankSum_23 : decode cX7_rankSum 23 = .ok (.ladd, 1) := by decide +kernel
theorem dX7_rankSum_24 : decode cX7_rankSum 24 = .ok (.lreturn, 1) := by decide +kernel
theorem dX7_rankSum_25 : decode cX7_rankSum 25 = .ok (.aload_n 0, 1) := by decide +kernel
theorem dX7_rankSum_26 : decode cX7_rankSum 26 = .ok (.iload_n 1, 1) := by decide +kernel
theorem dX7_rankSum_27 : decode cX7_rankSum 27 = .ok (.iload_n 2, 1) := by decide +kernel
theorem dX7_rankSum_28 : decode cX7_rankSum 28 = .ok (.invokevirtual 238, 3) := by decide +kernel
theorem dX7_rankSum_31 : decode cX7_rankSum 31 = .ok (.aload_n 0, 1) := by decide +kernel
theorem dX7_rankSum_32 : decode cX7_rankSum 32 = .ok (.aload_n 0, 1) := by decide +kernel
theorem dX7_rankSum_33 : decode cX7_rankSum 33 = .ok (.getfield 10, 3) := by decide +kernel
theorem dX7_rankSum_36 : decode cX7_rankSum 36 = .ok (.getfield 133, 3) := by decide +kernel
theorem dX7_rankSum_39 : decode cX7_rankSum 39 = .ok (.iload_n 1, 1) := by decide +kernel
theorem dX7_rankSum_40 : decode cX7_rankSum 40 = .ok (.iaload, 1) := by decide +kernel
theorem dX7_rankSum_41 : decode cX7_rankSum 41 = .ok (.invokevirtual 177, 3) := by decide +kernel
theorem dX7_rankSum_44 : decode cX7_rankSum 44 = .ok (.istore 5, 2) := by decide +kernel
theorem dX7_rankSum_46 : decode cX7_rankSum 46 = .ok (.lconst 0, 1) := by decide +kernel
theorem dX7_rankSum_47 : decode cX7_rankSum 47 = .ok (.lstore 6, 2) := by decide +kernel
theorem dX7_rankSum_49 : decode cX7_rankSum 49 = .ok (.iconst 0, 1) := by decide +kernel
theorem dX7_rankSum_50 : decode cX7_rankSum 50 = .ok (.istore 8, 2) := by decide +kernel
theorem dX7_rankSum_52 : decode cX7_rankSum 52 = .ok (.iload 8, 2) := by decide +kernel
theorem dX7_rankSum_54 : decode cX7_rankSum 54 = .ok (.aload_n 0, 1) := by decide +kernel
theorem dX7_rankSum_55 : decode cX7_rankSum 55 = .ok (.getfield 47, 3) := by decide +kernel
theorem dX7_rankSum_58 : decode cX7_rankSum 58 = .ok (.getfield 242, 3) := by decide +kernel
theorem dX7_rankSum_61 : decode cX7_rankSum 61 = .ok (.if_icmp .ge 31, 3) := by decide +kernel
theorem dX7_rankSum_64 : decode cX7_rankSum 64 = .ok (.lload 6, 2) := by decide +kernel
theorem dX7_rankSum_66 : decode cX7_rankSum 66 = .ok (.iload_n 3, 1) := by decide +kernel
theorem dX7_rankSum_67 : decode cX7_rankSum 67 = .ok (.iload 5, 2) := by decide +kernel
theorem dX7_rankSum_69 : decode cX7_rankSum 69 = .ok (.aload_n 0, 1) := by decide +kernel
theorem dX7_rankSum_70 : decode cX7_rankSum 70 = .ok (.getfield 47, 3) := by decide +kernel
theorem dX7_rankSum_73 : decode cX7_rankSum 73 = .ok (.getfield 264, 3) := by decide +kernel
theorem dX7_rankSum_76 : decode cX7_rankSum 76 = .ok (.iload 8, 2) := by decide +kernel
theorem dX7_rankSum_78 : decode cX7_rankSum 78 = .ok (.iaload, 1) := by decide +kernel
theorem dX7_rankSum_79 : decode cX7_rankSum 79 = .ok (.isub, 1) := by decide +kernel
theorem dX7_rankSum_80 : decode cX7_rankSum 80 = .ok (.invokestatic 267, 3) := by decide +kernel
theorem dX7_rankSum_83 : decode cX7_rankSum 83 = .ok (.ladd, 1) := by decide +kernel
theorem dX7_rankSum_84 : decode cX7_rankSum 84 = .ok (.lstore 6, 2) := by decide +kernel
theorem dX7_rankSum_86 : decode cX7_rankSum 86 = .ok (.iinc 8 1, 3) := by decide +kernel
theorem dX7_rankSum_89 : decode cX7_rankSum 89 = .ok (.goto (-37), 3) := by decide +kernel
theorem dX7_rankSum_92 : decode cX7_rankSum 92 = .ok (.lload 6, 2) := by decide +kernel
theorem dX7_rankSum_94 : decode cX7_rankSum 94 = .ok (.lreturn, 1) := by decide +kernel
theorem dX7_characteristic_0 : decode cX7_characteristic 0 = .ok (.aload_n 0, 1) := by decide +kernel
theorem dX7_characteristic_1 : decode cX7_characteristic 1 = .ok (.iload_n 1, 1) := by decide +kernel
theorem dX7_characteristic_2 : decode cX7_characteristic 2 = .ok (.iload_n 2, 1) := by decide +kernel
theorem dX7_characteristic_3 : decode cX7_characteristic 3 = .ok (.iload_n 3, 1) := by decide +kernel
theorem dX7_characteristic_4 : decode cX7_characteristic 4 = .ok (.invokestatic 261, 3) := by decide +kernel
theorem dX7_characteristic_7 : decode cX7_characteristic 7 = .ok (.invokevirtual 130, 3) := by decide +kernel
theorem dX7_characteristic_10 : decode cX7_characteristic 10 = .ok (.istore 4, 2) := by decide +kernel
theorem dX7_characteristic_12 : decode cX7_characteristic 12 = .ok (.iload 4, 2) := by decide +kernel
theorem dX7_characteristic_14 : decode cX7_characteristic 14 = .ok (.ifCond .ne 28, 3) := by decide +kernel
theorem dX7_characteristic_17 : decode cX7_characteristic 17 = .ok (.aload_n 0, 1) := by decide +kernel
theorem dX7_characteristic_18 : decode cX7_characteristic 18 = .ok (.getfield 40, 3) := by decide +kernel
theorem dX7_characteristic_21 : decode cX7_characteristic 21 = .ok (.aload_n 0, 1) := by decide +kernel
theorem dX7_characteristic_22 : decode cX7_characteristic 22 = .ok (.getfield 10, 3) := by decide +kernel
theorem dX7_characteristic_25 : decode cX7_characteristic 25 = .ok (.getfield 133, 3) := by decide +kernel
theorem dX7_characteristic_28 : decode cX7_characteristic 28 = .ok (.iload_n 1, 1) := by decide +kernel
theorem dX7_characteristic_29 : decode cX7_characteristic 29 = .ok (.iaload, 1) := by decide +kernel
theorem dX7_characteristic_30 : decode cX7_characteristic 30 = .ok (.invokevirtual 195, 3) := by decide +kernel
theorem dX7_characteristic_33 : decode cX7_characteristic 33 = .ok (.bipush (-9), 2) := by decide +kernel
theorem dX7_characteristic_35 : decode cX7_characteristic 35 = .ok (.if_icmp .ne 7, 3) := by decide +kernel
theorem dX7_characteristic_38 : decode cX7_characteristic 38 = .ok (.bipush (-3), 2) := by decide +kernel
theorem dX7_characteristic_40 : decode cX7_characteristic 40 = .ok (.istore 4, 2) := by decide +kernel
theorem dX7_characteristic_42 : decode cX7_characteristic 42 = .ok (.iload 4, 2) := by decide +kernel
theorem dX7_characteristic_44 : decode cX7_characteristic 44 = .ok (.ifCond .eq 11, 3) := by decide +kernel
theorem dX7_characteristic_47 : decode cX7_characteristic 47 = .ok (.ldc2_w 243, 3) := by decide +kernel
theorem dX7_characteristic_50 : decode cX7_characteristic 50 = .ok (.iload 4, 2) := by decide +kernel
theorem dX7_characteristic_52 : decode cX7_characteristic 52 = .ok (.i2l, 1) := by decide +kernel
theorem dX7_characteristic_53 : decode cX7_characteristic 53 = .ok (.ladd, 1) := by decide +kernel
theorem dX7_characteristic_54 : decode cX7_characteristic 54 = .ok (.lreturn, 1) := by decide +kernel
theorem dX7_characteristic_55 : decode cX7_characteristic 55 = .ok (.aload_n 0, 1) := by decide +kernel
theorem dX7_characteristic_56 : decode cX7_characteristic 56 = .ok (.iload_n 1, 1) := by decide +kernel
theorem dX7_characteristic_57 : decode cX7_characteristic 57 = .ok (.iload_n 2, 1) := by decide +kernel
theorem dX7_characteristic_58 : decode cX7_characteristic 58 = .ok (.invokevirtual 238, 3) := by decide +kernel
theorem dX7_characteristic_61 : decode cX7_characteristic 61 = .ok (.aload_n 0, 1) := by decide +kernel
theorem dX7_characteristic_62 : decode cX7_characteristic 62 = .ok (.getfield 47, 3) := by decide +kernel
theorem dX7_characteristic_65 : decode cX7_characteristic 65 = .ok (.invokevirtual 245, 3) := by decide +kernel
theorem dX7_characteristic_68 : decode cX7_characteristic 68 = .ok (.aload_n 0, 1) := by decide +kernel
theorem dX7_characteristic_69 : decode cX7_characteristic 69 = .ok (.aload_n 0, 1) := by decide +kernel
theorem dX7_characteristic_70 : decode cX7_characteristic 70 = .ok (.getfield 10, 3) := by decide +kernel
theorem dX7_characteristic_73 : decode cX7_characteristic 73 = .ok (.getfield 133, 3) := by decide +kernel
theorem dX7_characteristic_76 : decode cX7_characteristic 76 = .ok (.iload_n 2, 1) := by decide +kernel
theorem dX7_characteristic_77 : decode cX7_characteristic 77 = .ok (.iaload, 1) := by decide +kernel
theorem dX7_characteristic_78 : decode cX7_characteristic 78 = .ok (.invokevirtual 177, 3) := by decide +kernel
theorem dX7_characteristic_81 : decode cX7_characteristic 81 = .ok (.istore 5, 2) := by decide +kernel
theorem dX7_characteristic_83 : decode cX7_characteristic 83 = .ok (.lconst 0, 1) := by decide +kernel
theorem dX7_characteristic_84 : decode cX7_characteristic 84 = .ok (.lstore 6, 2) := by decide +kernel
theorem dX7_characteristic_86 : decode cX7_characteristic 86 = .ok (.iconst 0, 1) := by decide +kernel
theorem dX7_characteristic_87 : decode cX7_characteristic 87 = .ok (.istore 8, 2) := by decide +kernel
theorem dX7_characteristic_89 : decode cX7_characteristic 89 = .ok (.iload 8, 2) := by decide +kernel
theorem dX7_characteristic_91 : decode cX7_characteristic 91 = .ok (.aload_n 0, 1) := by decide +kernel
theorem dX7_characteristic_92 : decode cX7_characteristic 92 = .ok (.getfield 47, 3) := by decide +kernel
theorem dX7_characteristic_95 : decode cX7_characteristic 95 = .ok (.getfield 242, 3) := by decide +kernel
theorem dX7_characteristic_98 : decode cX7_characteristic 98 = .ok (.if_icmp .ge 42, 3) := by decide +kernel
theorem dX7_characteristic_101 : decode cX7_characteristic 101 = .ok (.lload 6, 2) := by decide +kernel
theorem dX7_characteristic_103 : decode cX7_characteristic 103 = .ok (.aload_n 0, 1) := by decide +kernel
theorem dX7_characteristic_104 : decode cX7_characteristic 104 = .ok (.getfield 47, 3) := by decide +kernel
theorem dX7_characteristic_107 : decode cX7_characteristic 107 = .ok (.getfield 271, 3) := by decide +kernel
theorem dX7_characteristic_110 : decode cX7_characteristic 110 = .ok (.iload 8, 2) := by decide +kernel
theorem dX7_characteristic_112 : decode cX7_characteristic 112 = .ok (.laload, 1) := by decide +kernel
theorem dX7_characteristic_113 : decode cX7_characteristic 113 = .ok (.iload_n 3, 1) := by decide +kernel
theorem dX7_characteristic_114 : decode cX7_characteristic 114 = .ok (.aload_n 0, 1) := by decide +kernel
theorem dX7_characteristic_115 : decode cX7_characteristic 115 = .ok (.getfield 47, 3) := by decide +kernel
theorem dX7_characteristic_118 : decode cX7_characteristic 118 = .ok (.getfield 264, 3) := by decide +kernel
theorem dX7_characteristic_121 : decode cX7_characteristic 121 = .ok (.iload 8, 2) := by decide +kernel
theorem dX7_characteristic_123 : decode cX7_characteristic 123 = .ok (.iaload, 1) := by decide +kernel
theorem dX7_characteristic_124 : decode cX7_characteristic 124 = .ok (.iload 5, 2) := by decide +kernel
theorem dX7_characteristic_126 : decode cX7_characteristic 126 = .ok (.isub, 1) := by decide +kernel
theorem dX7_characteristic_127 : decode cX7_characteristic 127 = .ok (.invokestatic 267, 3) := by decide +kernel
theorem dX7_characteristic_130 : decode cX7_characteristic 130 = .ok (.lmul, 1) := by decide +kernel
theorem dX7_characteristic_131 : decode cX7_characteristic 131 = .ok (.ladd, 1) := by decide +kernel
theorem dX7_characteristic_132 : decode cX7_characteristic 132 = .ok (.lstore 6, 2) := by decide +kernel
theorem dX7_characteristic_134 : decode cX7_characteristic 134 = .ok (.iinc 8 1, 3) := by decide +kernel
theorem dX7_characteristic_137 : decode cX7_characteristic 137 = .ok (.goto (-48), 3) := by decide +kernel
theorem dX7_characteristic_140 : decode cX7_characteristic 140 = .ok (.lload 6, 2) := by decide +kernel
theorem dX7_characteristic_142 : decode cX7_characteristic 142 = .ok (.lreturn, 1) := by decide +kernel
theorem dX7_transfers_0 : decode cX7_transfers 0 = .ok (.aload_n 0, 1) := by decide +kernel
theorem dX7_transfers_1 : decode cX7_transfers 1 = .ok (.iload_n 1, 1) := by decide +kernel
theorem dX7_transfers_2 : decode cX7_transfers 2 = .ok (.iload_n 2, 1) := by decide +kernel
theorem dX7_transfers_3 : decode cX7_transfers 3 = .ok (.iconst 1, 1) := by decide +kernel
theorem dX7_transfers_4 : decode cX7_transfers 4 = .ok (.invokevirtual 130, 3) := by decide +kernel
theorem dX7_transfers_7 : decode cX7_transfers 7 = .ok (.istore_n 3, 1) := by decide +kernel
theorem dX7_transfers_8 : decode cX7_transfers 8 = .ok (.iload_n 3, 1) := by decide +kernel
theorem dX7_transfers_9 : decode cX7_transfers 9 = .ok (.ifCond .eq 5, 3) := by decide +kernel
theorem dX7_transfers_12 : decode cX7_transfers 12 = .ok (.iload_n 3, 1) := by decide +kernel
theorem dX7_transfers_13 : decode cX7_transfers 13 = .ok (.ireturn, 1) := by decide +kernel
theorem dX7_transfers_14 : decode cX7_transfers 14 = .ok (.aload_n 0, 1) := by decide +kernel
theorem dX7_transfers_15 : decode cX7_transfers 15 = .ok (.iload_n 1, 1) := by decide +kernel
theorem dX7_transfers_16 : decode cX7_transfers 16 = .ok (.invokevirtual 145, 3) := by decide +kernel
theorem dX7_transfers_19 : decode cX7_transfers 19 = .ok (.aload_n 0, 1) := by decide +kernel
theorem dX7_transfers_20 : decode cX7_transfers 20 = .ok (.getfield 58, 3) := by decide +kernel
theorem dX7_transfers_23 : decode cX7_transfers 23 = .ok (.aload_n 0, 1) := by decide +kernel
theorem dX7_transfers_24 : decode cX7_transfers 24 = .ok (.getfield 10, 3) := by decide +kernel
theorem dX7_transfers_27 : decode cX7_transfers 27 = .ok (.getfield 133, 3) := by decide +kernel
theorem dX7_transfers_30 : decode cX7_transfers 30 = .ok (.iload_n 2, 1) := by decide +kernel
theorem dX7_transfers_31 : decode cX7_transfers 31 = .ok (.iaload, 1) := by decide +kernel
theorem dX7_transfers_32 : decode cX7_transfers 32 = .ok (.aload_n 0, 1) := by decide +kernel
theorem dX7_transfers_33 : decode cX7_transfers 33 = .ok (.getfield 10, 3) := by decide +kernel
theorem dX7_transfers_36 : decode cX7_transfers 36 = .ok (.getfield 75, 3) := by decide +kernel
theorem dX7_transfers_39 : decode cX7_transfers 39 = .ok (.invokevirtual 275, 3) := by decide +kernel
theorem dX7_transfers_42 : decode cX7_transfers 42 = .ok (.aload_n 0, 1) := by decide +kernel
theorem dX7_transfers_43 : decode cX7_transfers 43 = .ok (.getfield 10, 3) := by decide +kernel
theorem dX7_transfers_46 : decode cX7_transfers 46 = .ok (.getfield 75, 3) := by decide +kernel
theorem dX7_transfers_49 : decode cX7_transfers 49 = .ok (.aload_n 0, 1) := by decide +kernel
theorem dX7_transfers_50 : decode cX7_transfers 50 = .ok (.invokevirtual 278, 3) := by decide +kernel
theorem dX7_transfers_53 : decode cX7_transfers 53 = .ok (.isub, 1) := by decide +kernel
theorem dX7_transfers_54 : decode cX7_transfers 54 = .ok (.ireturn, 1) := by decide +kernel
theorem dX7_disagreements_0 : decode cX7_disagreements 0 = .ok (.aload_n 0, 1) := by decide +kernel
theorem dX7_disagreements_1 : decode cX7_disagreements 1 = .ok (.iload_n 1, 1) := by decide +kernel
theorem dX7_disagreements_2 : decode cX7_disagreements 2 = .ok (.iload_n 2, 1) := by decide +kernel
theorem dX7_disagreements_3 : decode cX7_disagreements 3 = .ok (.iconst 1, 1) := by decide +kernel
theorem dX7_disagreements_4 : decode cX7_disagreements 4 = .ok (.invokevirtual 130, 3) := by decide +kernel
theorem dX7_disagreements_7 : decode cX7_disagreements 7 = .ok (.istore_n 3, 1) := by decide +kernel
theorem dX7_disagreements_8 : decode cX7_disagreements 8 = .ok (.iload_n 3, 1) := by decide +kernel
theorem dX7_disagreements_9 : decode cX7_disagreements 9 = .ok (.ifCond .eq 5, 3) := by decide +kernel
theorem dX7_disagreements_12 : decode cX7_disagreements 12 = .ok (.iload_n 3, 1) := by decide +kernel
theorem dX7_disagreements_13 : decode cX7_disagreements 13 = .ok (.ireturn, 1) := by decide +kernel
theorem dX7_disagreements_14 : decode cX7_disagreements 14 = .ok (.aload_n 0, 1) := by decide +kernel
theorem dX7_disagreements_15 : decode cX7_disagreements 15 = .ok (.getfield 10, 3) := by decide +kernel
theorem dX7_disagreements_18 : decode cX7_disagreements 18 = .ok (.getfield 133, 3) := by decide +kernel
theorem dX7_disagreements_21 : decode cX7_disagreements 21 = .ok (.iload_n 1, 1) := by decide +kernel
theorem dX7_disagreements_22 : decode cX7_disagreements 22 = .ok (.iaload, 1) := by decide +kernel
theorem dX7_disagreements_23 : decode cX7_disagreements 23 = .ok (.aload_n 0, 1) := by decide +kernel
theorem dX7_disagreements_24 : decode cX7_disagreements 24 = .ok (.getfield 10, 3) := by decide +kernel
theorem dX7_disagreements_27 : decode cX7_disagreements 27 = .ok (.getfield 133, 3) := by decide +kernel
theorem dX7_disagreements_30 : decode cX7_disagreements 30 = .ok (.iload_n 2, 1) := by decide +kernel
theorem dX7_disagreements_31 : decode cX7_disagreements 31 = .ok (.iaload, 1) := by decide +kernel
theorem dX7_disagreements_32 : decode cX7_disagreements 32 = .ok (.ixor, 1) := by decide +kernel
theorem dX7_disagreements_33 : decode cX7_disagreements 33 = .ok (.invokestatic 281, 3) := by decide +kernel
theorem dX7_disagreements_36 : decode cX7_disagreements 36 = .ok (.ireturn, 1) := by decide +kernel
theorem dX7_median_0 : decode cX7_median 0 = .ok (.iload_n 1, 1) := by decide +kernel
theorem dX7_median_1 : decode cX7_median 1 = .ok (.iconst 1, 1) := by decide +kernel
theorem dX7_median_2 : decode cX7_median 2 = .ok (.if_icmp .lt 17, 3) := by decide +kernel
theorem dX7_median_5 : decode cX7_median 5 = .ok (.iload_n 1, 1) := by decide +kernel
theorem dX7_median_6 : decode cX7_median 6 = .ok (.sipush 256, 3) := by decide +kernel
theorem dX7_median_9 : decode cX7_median 9 = .ok (.if_icmp .ge 10, 3) := by decide +kernel
theorem dX7_median_12 : decode cX7_median 12 = .ok (.iload_n 2, 1) := by decide +kernel
theorem dX7_median_13 : decode cX7_median 13 = .ok (.invokestatic 117, 3) := by decide +kernel
theorem dX7_median_16 : decode cX7_median 16 = .ok (.ifCond .ne 5, 3) := by decide +kernel
theorem dX7_median_19 : decode cX7_median 19 = .ok (.iconst (-1), 1) := by decide +kernel
theorem dX7_median_20 : decode cX7_median 20 = .ok (.ireturn, 1) := by decide +kernel
theorem dX7_median_21 : decode cX7_median 21 = .ok (.iconst 0, 1) := by decide +kernel
theorem dX7_median_22 : decode cX7_median 22 = .ok (.istore_n 3, 1) := by decide +kernel
theorem dX7_median_23 : decode cX7_median 23 = .ok (.iload_n 3, 1) := by decide +kernel
theorem dX7_median_24 : decode cX7_median 24 = .ok (.bipush 8, 2) := by decide +kernel
theorem dX7_median_26 : decode cX7_median 26 = .ok (.if_icmp .ge 33, 3) := by decide +kernel
theorem dX7_median_29 : decode cX7_median 29 = .ok (.iload_n 1, 1) := by decide +kernel
theorem dX7_median_30 : decode cX7_median 30 = .ok (.iload_n 3, 1) := by decide +kernel
theorem dX7_median_31 : decode cX7_median 31 = .ok (.ishr, 1) := by decide +kernel
theorem dX7_median_32 : decode cX7_median 32 = .ok (.iconst 1, 1) := by decide +kernel
theorem dX7_median_33 : decode cX7_median 33 = .ok (.iand, 1) := by decide +kernel
theorem dX7_median_34 : decode cX7_median 34 = .ok (.ifCond .eq 19, 3) := by decide +kernel
theorem dX7_median_37 : decode cX7_median 37 = .ok (.aload_n 0, 1) := by decide +kernel
theorem dX7_median_38 : decode cX7_median 38 = .ok (.getfield 10, 3) := by decide +kernel
theorem dX7_median_41 : decode cX7_median 41 = .ok (.getfield 133, 3) := by decide +kernel
theorem dX7_median_44 : decode cX7_median 44 = .ok (.iload_n 3, 1) := by decide +kernel
theorem dX7_median_45 : decode cX7_median 45 = .ok (.iaload, 1) := by decide +kernel
theorem dX7_median_46 : decode cX7_median 46 = .ok (.iconst (-1), 1) := by decide +kernel
theorem dX7_median_47 : decode cX7_median 47 = .ok (.if_icmp .ne 6, 3) := by decide +kernel
theorem dX7_median_50 : decode cX7_median 50 = .ok (.bipush (-2), 2) := by decide +kernel
theorem dX7_median_52 : decode cX7_median 52 = .ok (.ireturn, 1) := by decide +kernel
theorem dX7_median_53 : decode cX7_median 53 = .ok (.iinc 3 1, 3) := by decide +kernel
theorem dX7_median_56 : decode cX7_median 56 = .ok (.goto (-33), 3) := by decide +kernel
theorem dX7_median_59 : decode cX7_median 59 = .ok (.aload_n 0, 1) := by decide +kernel
theorem dX7_median_60 : decode cX7_median 60 = .ok (.getfield 40, 3) := by decide +kernel
theorem dX7_median_63 : decode cX7_median 63 = .ok (.getfield 173, 3) := by decide +kernel
theorem dX7_median_66 : decode cX7_median 66 = .ok (.ifCond .ne 6, 3) := by decide +kernel
theorem dX7_median_69 : decode cX7_median 69 = .ok (.bipush (-3), 2) := by decide +kernel
theorem dX7_median_71 : decode cX7_median 71 = .ok (.ireturn, 1) := by decide +kernel
theorem dX7_median_72 : decode cX7_median 72 = .ok (.iconst 0, 1) := by decide +kernel
theorem dX7_median_73 : decode cX7_median 73 = .ok (.istore_n 3, 1) := by decide +kernel
theorem dX7_median_74 : decode cX7_median 74 = .ok (.aload_n 0, 1) := by decide +kernel
theorem dX7_median_75 : decode cX7_median 75 = .ok (.iload_n 1, 1) := by decide +kernel
theorem dX7_median_76 : decode cX7_median 76 = .ok (.aload_n 0, 1) := by decide +kernel
theorem dX7_median_77 : decode cX7_median 77 = .ok (.getfield 40, 3) := by decide +kernel
theorem dX7_median_80 : decode cX7_median 80 = .ok (.getfield 158, 3) := by decide +kernel
theorem dX7_median_83 : decode cX7_median 83 = .ok (.iconst 0, 1) := by decide +kernel
theorem dX7_median_84 : decode cX7_median 84 = .ok (.iaload, 1) := by decide +kernel
theorem dX7_median_85 : decode cX7_median 85 = .ok (.invokevirtual 286, 3) := by decide +kernel
theorem dX7_median_88 : decode cX7_median 88 = .ok (.istore 4, 2) := by decide +kernel
theorem dX7_median_90 : decode cX7_median 90 = .ok (.iconst 1, 1) := by decide +kernel
theorem dX7_median_91 : decode cX7_median 91 = .ok (.istore 5, 2) := by decide +kernel
theorem dX7_median_93 : decode cX7_median 93 = .ok (.iload 5, 2) := by decide +kernel
theorem dX7_median_95 : decode cX7_median 95 = .ok (.aload_n 0, 1) := by decide +kernel
theorem dX7_median_96 : decode cX7_median 96 = .ok (.getfield 40, 3) := by decide +kernel
theorem dX7_median_99 : decode cX7_median 99 = .ok (.getfield 173, 3) := by decide +kernel
theorem dX7_median_102 : decode cX7_median 102 = .ok (.if_icmp .ge 40, 3) := by decide +kernel
theorem dX7_median_105 : decode cX7_median 105 = .ok (.aload_n 0, 1) := by decide +kernel
theorem dX7_median_106 : decode cX7_median 106 = .ok (.iload_n 1, 1) := by decide +kernel
theorem dX7_median_107 : decode cX7_median 107 = .ok (.aload_n 0, 1) := by decide +kernel
theorem dX7_median_108 : decode cX7_median 108 = .ok (.getfield 40, 3) := by decide +kernel
theorem dX7_median_111 : decode cX7_median 111 = .ok (.getfield 158, 3) := by decide +kernel
theorem dX7_median_114 : decode cX7_median 114 = .ok (.iload 5, 2) := by decide +kernel
theorem dX7_median_116 : decode cX7_median 116 = .ok (.iaload, 1) := by decide +kernel
theorem dX7_median_117 : decode cX7_median 117 = .ok (.invokevirtual 286, 3) := by decide +kernel
theorem dX7_median_120 : decode cX7_median 120 = .ok (.istore 6, 2) := by decide +kernel
theorem dX7_median_122 : decode cX7_median 122 = .ok (.iload 6, 2) := by decide +kernel
theorem dX7_median_124 : decode cX7_median 124 = .ok (.iload 4, 2) := by decide +kernel
theorem dX7_median_126 : decode cX7_median 126 = .ok (.if_icmp .ge 10, 3) := by decide +kernel
theorem dX7_median_129 : decode cX7_median 129 = .ok (.iload 6, 2) := by decide +kernel
theorem dX7_median_131 : decode cX7_median 131 = .ok (.istore 4, 2) := by decide +kernel
theorem dX7_median_133 : decode cX7_median 133 = .ok (.iload 5, 2) := by decide +kernel
theorem dX7_median_135 : decode cX7_median 135 = .ok (.istore_n 3, 1) := by decide +kernel
theorem dX7_median_136 : decode cX7_median 136 = .ok (.iinc 5 1, 3) := by decide +kernel
theorem dX7_median_139 : decode cX7_median 139 = .ok (.goto (-46), 3) := by decide +kernel
theorem dX7_median_142 : decode cX7_median 142 = .ok (.aload_n 0, 1) := by decide +kernel
theorem dX7_median_143 : decode cX7_median 143 = .ok (.iload_n 2, 1) := by decide +kernel
theorem dX7_median_144 : decode cX7_median 144 = .ok (.iload_n 3, 1) := by decide +kernel
theorem dX7_median_145 : decode cX7_median 145 = .ok (.invokevirtual 167, 3) := by decide +kernel
theorem dX7_median_148 : decode cX7_median 148 = .ok (.pop, 1) := by decide +kernel
theorem dX7_median_149 : decode cX7_median 149 = .ok (.iload 4, 2) := by decide +kernel
theorem dX7_median_151 : decode cX7_median 151 = .ok (.ireturn, 1) := by decide +kernel
theorem dX7_undo_0 : decode cX7_undo 0 = .ok (.aload_n 0, 1) := by decide +kernel
theorem dX7_undo_1 : decode cX7_undo 1 = .ok (.getfield 19, 3) := by decide +kernel
theorem dX7_undo_4 : decode cX7_undo 4 = .ok (.aload_n 0, 1) := by decide +kernel
theorem dX7_undo_5 : decode cX7_undo 5 = .ok (.getfield 10, 3) := by decide +kernel
theorem dX7_undo_8 : decode cX7_undo 8 = .ok (.invokevirtual 289, 3) := by decide +kernel
theorem dX7_undo_11 : decode cX7_undo 11 = .ok (.ifCond .ne 6, 3) := by decide +kernel
theorem dX7_undo_14 : decode cX7_undo 14 = .ok (.bipush (-3), 2) := by decide +kernel
theorem dX7_undo_16 : decode cX7_undo 16 = .ok (.ireturn, 1) := by decide +kernel
theorem dX7_undo_17 : decode cX7_undo 17 = .ok (.aload_n 0, 1) := by decide +kernel
theorem dX7_undo_18 : decode cX7_undo 18 = .ok (.invokevirtual 72, 3) := by decide +kernel
theorem dX7_undo_21 : decode cX7_undo 21 = .ok (.aload_n 0, 1) := by decide +kernel
theorem dX7_undo_22 : decode cX7_undo 22 = .ok (.getfield 19, 3) := by decide +kernel
theorem dX7_undo_25 : decode cX7_undo 25 = .ok (.getfield 293, 3) := by decide +kernel
theorem dX7_undo_28 : decode cX7_undo 28 = .ok (.ireturn, 1) := by decide +kernel
theorem dX7_told_0 : decode cX7_told 0 = .ok (.iload_n 1, 1) := by decide +kernel
theorem dX7_told_1 : decode cX7_told 1 = .ok (.tableswitch 137 0 8 #[51, 59, 67, 75, 83, 94, 105, 121, 129], 51) := by decide +kernel
theorem dX7_told_52 : decode cX7_told 52 = .ok (.aload_n 0, 1) := by decide +kernel
theorem dX7_told_53 : decode cX7_told 53 = .ok (.getfield 10, 3) := by decide +kernel
theorem dX7_told_56 : decode cX7_told 56 = .ok (.getfield 75, 3) := by decide +kernel
theorem dX7_told_59 : decode cX7_told 59 = .ok (.ireturn, 1) := by decide +kernel
theorem dX7_told_60 : decode cX7_told 60 = .ok (.aload_n 0, 1) := by decide +kernel
theorem dX7_told_61 : decode cX7_told 61 = .ok (.getfield 10, 3) := by decide +kernel
theorem dX7_told_64 : decode cX7_told 64 = .ok (.invokevirtual 296, 3) := by decide +kernel
theorem dX7_told_67 : decode cX7_told 67 = .ok (.ireturn, 1) := by decide +kernel
theorem dX7_told_68 : decode cX7_told 68 = .ok (.aload_n 0, 1) := by decide +kernel
theorem dX7_told_69 : decode cX7_told 69 = .ok (.getfield 10, 3) := by decide +kernel
theorem dX7_told_72 : decode cX7_told 72 = .ok (.getfield 83, 3) := by decide +kernel
theorem dX7_told_75 : decode cX7_told 75 = .ok (.ireturn, 1) := by decide +kernel
theorem dX7_told_76 : decode cX7_told 76 = .ok (.aload_n 0, 1) := by decide +kernel
theorem dX7_told_77 : decode cX7_told 77 = .ok (.getfield 10, 3) := by decide +kernel
theorem dX7_told_80 : decode cX7_told 80 = .ok (.getfield 90, 3) := by decide +kernel
theorem dX7_told_83 : decode cX7_told 83 = .ok (.ireturn, 1) := by decide +kernel
theorem dX7_told_84 : decode cX7_told 84 = .ok (.aload_n 0, 1) := by decide +kernel
theorem dX7_told_85 : decode cX7_told 85 = .ok (.getfield 10, 3) := by decide +kernel
theorem dX7_told_88 : decode cX7_told 88 = .ok (.getfield 101, 3) := by decide +kernel
theorem dX7_told_91 : decode cX7_told 91 = .ok (.invokestatic 281, 3) := by decide +kernel
theorem dX7_told_94 : decode cX7_told 94 = .ok (.ireturn, 1) := by decide +kernel
theorem dX7_told_95 : decode cX7_told 95 = .ok (.aload_n 0, 1) := by decide +kernel
theorem dX7_told_96 : decode cX7_told 96 = .ok (.getfield 10, 3) := by decide +kernel
theorem dX7_told_99 : decode cX7_told 99 = .ok (.getfield 104, 3) := by decide +kernel
theorem dX7_told_102 : decode cX7_told 102 = .ok (.invokestatic 281, 3) := by decide +kernel
theorem dX7_told_105 : decode cX7_told 105 = .ok (.ireturn, 1) := by decide +kernel
theorem dX7_told_106 : decode cX7_told 106 = .ok (.aload_n 0, 1) := by decide +kernel
theorem dX7_told_107 : decode cX7_told 107 = .ok (.getfield 10, 3) := by decide +kernel
theorem dX7_told_110 : decode cX7_told 110 = .ok (.getfield 107, 3) := by decide +kernel
theorem dX7_told_113 : decode cX7_told 113 = .ok (.ifCond .eq 7, 3) := by decide +kernel
theorem dX7_told_116 : decode cX7_told 116 = .ok (.iconst 1, 1) := by decide +kernel
theorem dX7_told_117 : decode cX7_told 117 = .ok (.goto 4, 3) := by decide +kernel
theorem dX7_told_120 : decode cX7_told 120 = .ok (.iconst 0, 1) := by decide +kernel
theorem dX7_told_121 : decode cX7_told 121 = .ok (.ireturn, 1) := by decide +kernel
theorem dX7_told_122 : decode cX7_told 122 = .ok (.aload_n 0, 1) := by decide +kernel
theorem dX7_told_123 : decode cX7_told 123 = .ok (.getfield 26, 3) := by decide +kernel
theorem dX7_told_126 : decode cX7_told 126 = .ok (.getfield 114, 3) := by decide +kernel
theorem dX7_told_129 : decode cX7_told 129 = .ok (.ireturn, 1) := by decide +kernel
theorem dX7_told_130 : decode cX7_told 130 = .ok (.aload_n 0, 1) := by decide +kernel
theorem dX7_told_131 : decode cX7_told 131 = .ok (.getfield 19, 3) := by decide +kernel
theorem dX7_told_134 : decode cX7_told 134 = .ok (.getfield 293, 3) := by decide +kernel
theorem dX7_told_137 : decode cX7_told 137 = .ok (.ireturn, 1) := by decide +kernel
theorem dX7_told_138 : decode cX7_told 138 = .ok (.iconst (-1), 1) := by decide +kernel
theorem dX7_told_139 : decode cX7_told 139 = .ok (.ireturn, 1) := by decide +kernel
theorem dX7_digest_0 : decode cX7_digest 0 = .ok (.ldc2_w 299, 3) := by decide +kernel
theorem dX7_digest_3 : decode cX7_digest 3 = .ok (.lstore_n 1, 1) := by decide +kernel
theorem dX7_digest_4 : decode cX7_digest 4 = .ok (.iconst 0, 1) := by decide +kernel
theorem dX7_digest_5 : decode cX7_digest 5 = .ok (.istore_n 3, 1) := by decide +kernel
theorem dX7_digest_6 : decode cX7_digest 6 = .ok (.iload_n 3, 1) := by decide +kernel
theorem dX7_digest_7 : decode cX7_digest 7 = .ok (.bipush 8, 2) := by decide +kernel
theorem dX7_digest_9 : decode cX7_digest 9 = .ok (.if_icmp .gt 22, 3) := by decide +kernel
theorem dX7_digest_12 : decode cX7_digest 12 = .ok (.ldc2_w 301, 3) := by decide +kernel
theorem dX7_digest_15 : decode cX7_digest 15 = .ok (.lload_n 1, 1) := by decide +kernel
theorem dX7_digest_16 : decode cX7_digest 16 = .ok (.lmul, 1) := by decide +kernel
theorem dX7_digest_17 : decode cX7_digest 17 = .ok (.aload_n 0, 1) := by decide +kernel
theorem dX7_digest_18 : decode cX7_digest 18 = .ok (.iload_n 3, 1) := by decide +kernel
theorem dX7_digest_19 : decode cX7_digest 19 = .ok (.invokevirtual 303, 3) := by decide +kernel
theorem dX7_digest_22 : decode cX7_digest 22 = .ok (.i2l, 1) := by decide +kernel
theorem dX7_digest_23 : decode cX7_digest 23 = .ok (.ladd, 1) := by decide +kernel
theorem dX7_digest_24 : decode cX7_digest 24 = .ok (.lstore_n 1, 1) := by decide +kernel
theorem dX7_digest_25 : decode cX7_digest 25 = .ok (.iinc 3 1, 3) := by decide +kernel
theorem dX7_digest_28 : decode cX7_digest 28 = .ok (.goto (-22), 3) := by decide +kernel
theorem dX7_digest_31 : decode cX7_digest 31 = .ok (.ldc2_w 301, 3) := by decide +kernel
theorem dX7_digest_34 : decode cX7_digest 34 = .ok (.lload_n 1, 1) := by decide +kernel
theorem dX7_digest_35 : decode cX7_digest 35 = .ok (.lmul, 1) := by decide +kernel
theorem dX7_digest_36 : decode cX7_digest 36 = .ok (.aload_n 0, 1) := by decide +kernel
theorem dX7_digest_37 : decode cX7_digest 37 = .ok (.invokevirtual 306, 3) := by decide +kernel
theorem dX7_digest_40 : decode cX7_digest 40 = .ok (.i2l, 1) := by decide +kernel
theorem dX7_digest_41 : decode cX7_digest 41 = .ok (.ladd, 1) := by decide +kernel
theorem dX7_digest_42 : decode cX7_digest 42 = .ok (.lstore_n 1, 1) := by decide +kernel
theorem dX7_digest_43 : decode cX7_digest 43 = .ok (.iconst 1, 1) := by decide +kernel
theorem dX7_digest_44 : decode cX7_digest 44 = .ok (.istore_n 3, 1) := by decide +kernel
theorem dX7_digest_45 : decode cX7_digest 45 = .ok (.iload_n 3, 1) := by decide +kernel
theorem dX7_digest_46 : decode cX7_digest 46 = .ok (.bipush 6, 2) := by decide +kernel
theorem dX7_digest_48 : decode cX7_digest 48 = .ok (.if_icmp .gt 22, 3) := by decide +kernel
theorem dX7_digest_51 : decode cX7_digest 51 = .ok (.ldc2_w 301, 3) := by decide +kernel
theorem dX7_digest_54 : decode cX7_digest 54 = .ok (.lload_n 1, 1) := by decide +kernel
theorem dX7_digest_55 : decode cX7_digest 55 = .ok (.lmul, 1) := by decide +kernel
theorem dX7_digest_56 : decode cX7_digest 56 = .ok (.aload_n 0, 1) := by decide +kernel
theorem dX7_digest_57 : decode cX7_digest 57 = .ok (.iload_n 3, 1) := by decide +kernel
theorem dX7_digest_58 : decode cX7_digest 58 = .ok (.invokevirtual 309, 3) := by decide +kernel
theorem dX7_digest_61 : decode cX7_digest 61 = .ok (.i2l, 1) := by decide +kernel
theorem dX7_digest_62 : decode cX7_digest 62 = .ok (.ladd, 1) := by decide +kernel
theorem dX7_digest_63 : decode cX7_digest 63 = .ok (.lstore_n 1, 1) := by decide +kernel
theorem dX7_digest_64 : decode cX7_digest 64 = .ok (.iinc 3 1, 3) := by decide +kernel
theorem dX7_digest_67 : decode cX7_digest 67 = .ok (.goto (-22), 3) := by decide +kernel
theorem dX7_digest_70 : decode cX7_digest 70 = .ok (.iconst 0, 1) := by decide +kernel
theorem dX7_digest_71 : decode cX7_digest 71 = .ok (.istore_n 3, 1) := by decide +kernel
theorem dX7_digest_72 : decode cX7_digest 72 = .ok (.iload_n 3, 1) := by decide +kernel
theorem dX7_digest_73 : decode cX7_digest 73 = .ok (.bipush 8, 2) := by decide +kernel
theorem dX7_digest_75 : decode cX7_digest 75 = .ok (.if_icmp .ge 41, 3) := by decide +kernel
theorem dX7_digest_78 : decode cX7_digest 78 = .ok (.aload_n 0, 1) := by decide +kernel
theorem dX7_digest_79 : decode cX7_digest 79 = .ok (.getfield 10, 3) := by decide +kernel
theorem dX7_digest_82 : decode cX7_digest 82 = .ok (.getfield 133, 3) := by decide +kernel
theorem dX7_digest_85 : decode cX7_digest 85 = .ok (.iload_n 3, 1) := by decide +kernel
theorem dX7_digest_86 : decode cX7_digest 86 = .ok (.iaload, 1) := by decide +kernel
theorem dX7_digest_87 : decode cX7_digest 87 = .ok (.iconst (-1), 1) := by decide +kernel
theorem dX7_digest_88 : decode cX7_digest 88 = .ok (.if_icmp .ne 15, 3) := by decide +kernel
theorem dX7_digest_91 : decode cX7_digest 91 = .ok (.ldc2_w 301, 3) := by decide +kernel
theorem dX7_digest_94 : decode cX7_digest 94 = .ok (.lload_n 1, 1) := by decide +kernel
theorem dX7_digest_95 : decode cX7_digest 95 = .ok (.lmul, 1) := by decide +kernel
theorem dX7_digest_96 : decode cX7_digest 96 = .ok (.ldc2_w 312, 3) := by decide +kernel
theorem dX7_digest_99 : decode cX7_digest 99 = .ok (.ladd, 1) := by decide +kernel
theorem dX7_digest_100 : decode cX7_digest 100 = .ok (.goto 9, 3) := by decide +kernel
theorem dX7_digest_103 : decode cX7_digest 103 = .ok (.aload_n 0, 1) := by decide +kernel
theorem dX7_digest_104 : decode cX7_digest 104 = .ok (.lload_n 1, 1) := by decide +kernel
theorem dX7_digest_105 : decode cX7_digest 105 = .ok (.iload_n 3, 1) := by decide +kernel
theorem dX7_digest_106 : decode cX7_digest 106 = .ok (.invokevirtual 314, 3) := by decide +kernel
theorem dX7_digest_109 : decode cX7_digest 109 = .ok (.lstore_n 1, 1) := by decide +kernel
theorem dX7_digest_110 : decode cX7_digest 110 = .ok (.iinc 3 1, 3) := by decide +kernel
theorem dX7_digest_113 : decode cX7_digest 113 = .ok (.goto (-41), 3) := by decide +kernel
theorem dX7_digest_116 : decode cX7_digest 116 = .ok (.lload_n 1, 1) := by decide +kernel
theorem dX7_digest_117 : decode cX7_digest 117 = .ok (.lreturn, 1) := by decide +kernel
theorem dX7_hashOfRegister_0 : decode cX7_hashOfRegister 0 = .ok (.ldc2_w 301, 3) := by decide +kernel
theorem dX7_hashOfRegister_3 : decode cX7_hashOfRegister 3 = .ok (.lload_n 1, 1) := by decide +kernel
theorem dX7_hashOfRegister_4 : decode cX7_hashOfRegister 4 = .ok (.lmul, 1) := by decide +kernel
theorem dX7_hashOfRegister_5 : decode cX7_hashOfRegister 5 = .ok (.aload_n 0, 1) := by decide +kernel
theorem dX7_hashOfRegister_6 : decode cX7_hashOfRegister 6 = .ok (.iload_n 3, 1) := by decide +kernel
theorem dX7_hashOfRegister_7 : decode cX7_hashOfRegister 7 = .ok (.invokevirtual 318, 3) := by decide +kernel
theorem dX7_hashOfRegister_10 : decode cX7_hashOfRegister 10 = .ok (.i2l, 1) := by decide +kernel
theorem dX7_hashOfRegister_11 : decode cX7_hashOfRegister 11 = .ok (.ladd, 1) := by decide +kernel
theorem dX7_hashOfRegister_12 : decode cX7_hashOfRegister 12 = .ok (.lstore 4, 2) := by decide +kernel
theorem dX7_hashOfRegister_14 : decode cX7_hashOfRegister 14 = .ok (.iconst 0, 1) := by decide +kernel
theorem dX7_hashOfRegister_15 : decode cX7_hashOfRegister 15 = .ok (.istore 6, 2) := by decide +kernel
theorem dX7_hashOfRegister_17 : decode cX7_hashOfRegister 17 = .ok (.iload 6, 2) := by decide +kernel
theorem dX7_hashOfRegister_19 : decode cX7_hashOfRegister 19 = .ok (.aload_n 0, 1) := by decide +kernel
theorem dX7_hashOfRegister_20 : decode cX7_hashOfRegister 20 = .ok (.getfield 10, 3) := by decide +kernel
theorem dX7_hashOfRegister_23 : decode cX7_hashOfRegister 23 = .ok (.getfield 75, 3) := by decide +kernel
theorem dX7_hashOfRegister_26 : decode cX7_hashOfRegister 26 = .ok (.if_icmp .ge 26, 3) := by decide +kernel
theorem dX7_hashOfRegister_29 : decode cX7_hashOfRegister 29 = .ok (.ldc2_w 301, 3) := by decide +kernel
theorem dX7_hashOfRegister_32 : decode cX7_hashOfRegister 32 = .ok (.lload 4, 2) := by decide +kernel
theorem dX7_hashOfRegister_34 : decode cX7_hashOfRegister 34 = .ok (.lmul, 1) := by decide +kernel
theorem dX7_hashOfRegister_35 : decode cX7_hashOfRegister 35 = .ok (.aload_n 0, 1) := by decide +kernel
theorem dX7_hashOfRegister_36 : decode cX7_hashOfRegister 36 = .ok (.iload_n 3, 1) := by decide +kernel
theorem dX7_hashOfRegister_37 : decode cX7_hashOfRegister 37 = .ok (.iload 6, 2) := by decide +kernel
theorem dX7_hashOfRegister_39 : decode cX7_hashOfRegister 39 = .ok (.invokevirtual 321, 3) := by decide +kernel
theorem dX7_hashOfRegister_42 : decode cX7_hashOfRegister 42 = .ok (.i2l, 1) := by decide +kernel
theorem dX7_hashOfRegister_43 : decode cX7_hashOfRegister 43 = .ok (.ladd, 1) := by decide +kernel
theorem dX7_hashOfRegister_44 : decode cX7_hashOfRegister 44 = .ok (.lstore 4, 2) := by decide +kernel
theorem dX7_hashOfRegister_46 : decode cX7_hashOfRegister 46 = .ok (.iinc 6 1, 3) := by decide +kernel
theorem dX7_hashOfRegister_49 : decode cX7_hashOfRegister 49 = .ok (.goto (-32), 3) := by decide +kernel
theorem dX7_hashOfRegister_52 : decode cX7_hashOfRegister 52 = .ok (.ldc2_w 301, 3) := by decide +kernel
theorem dX7_hashOfRegister_55 : decode cX7_hashOfRegister 55 = .ok (.lload 4, 2) := by decide +kernel
theorem dX7_hashOfRegister_57 : decode cX7_hashOfRegister 57 = .ok (.lmul, 1) := by decide +kernel
theorem dX7_hashOfRegister_58 : decode cX7_hashOfRegister 58 = .ok (.aload_n 0, 1) := by decide +kernel
theorem dX7_hashOfRegister_59 : decode cX7_hashOfRegister 59 = .ok (.iload_n 3, 1) := by decide +kernel
theorem dX7_hashOfRegister_60 : decode cX7_hashOfRegister 60 = .ok (.invokevirtual 205, 3) := by decide +kernel
theorem dX7_hashOfRegister_63 : decode cX7_hashOfRegister 63 = .ok (.i2l, 1) := by decide +kernel
theorem dX7_hashOfRegister_64 : decode cX7_hashOfRegister 64 = .ok (.ladd, 1) := by decide +kernel
theorem dX7_hashOfRegister_65 : decode cX7_hashOfRegister 65 = .ok (.lstore 4, 2) := by decide +kernel
theorem dX7_hashOfRegister_67 : decode cX7_hashOfRegister 67 = .ok (.ldc2_w 301, 3) := by decide +kernel
theorem dX7_hashOfRegister_70 : decode cX7_hashOfRegister 70 = .ok (.lload 4, 2) := by decide +kernel
theorem dX7_hashOfRegister_72 : decode cX7_hashOfRegister 72 = .ok (.lmul, 1) := by decide +kernel
theorem dX7_hashOfRegister_73 : decode cX7_hashOfRegister 73 = .ok (.aload_n 0, 1) := by decide +kernel
theorem dX7_hashOfRegister_74 : decode cX7_hashOfRegister 74 = .ok (.iload_n 3, 1) := by decide +kernel
theorem dX7_hashOfRegister_75 : decode cX7_hashOfRegister 75 = .ok (.invokevirtual 324, 3) := by decide +kernel
theorem dX7_hashOfRegister_78 : decode cX7_hashOfRegister 78 = .ok (.i2l, 1) := by decide +kernel
theorem dX7_hashOfRegister_79 : decode cX7_hashOfRegister 79 = .ok (.ladd, 1) := by decide +kernel
theorem dX7_hashOfRegister_80 : decode cX7_hashOfRegister 80 = .ok (.lstore 4, 2) := by decide +kernel
theorem dX7_hashOfRegister_82 : decode cX7_hashOfRegister 82 = .ok (.ldc2_w 301, 3) := by decide +kernel
theorem dX7_hashOfRegister_85 : decode cX7_hashOfRegister 85 = .ok (.lload 4, 2) := by decide +kernel
theorem dX7_hashOfRegister_87 : decode cX7_hashOfRegister 87 = .ok (.lmul, 1) := by decide +kernel
theorem dX7_hashOfRegister_88 : decode cX7_hashOfRegister 88 = .ok (.aload_n 0, 1) := by decide +kernel
theorem dX7_hashOfRegister_89 : decode cX7_hashOfRegister 89 = .ok (.iload_n 3, 1) := by decide +kernel
theorem dX7_hashOfRegister_90 : decode cX7_hashOfRegister 90 = .ok (.invokevirtual 327, 3) := by decide +kernel
theorem dX7_hashOfRegister_93 : decode cX7_hashOfRegister 93 = .ok (.i2l, 1) := by decide +kernel
theorem dX7_hashOfRegister_94 : decode cX7_hashOfRegister 94 = .ok (.ladd, 1) := by decide +kernel
theorem dX7_hashOfRegister_95 : decode cX7_hashOfRegister 95 = .ok (.lreturn, 1) := by decide +kernel
theorem dX7_isRegister_0 : decode cX7_isRegister 0 = .ok (.iload_n 0, 1) := by decide +kernel
theorem dX7_isRegister_1 : decode cX7_isRegister 1 = .ok (.ifCond .lt 13, 3) := by decide +kernel
theorem dX7_isRegister_4 : decode cX7_isRegister 4 = .ok (.iload_n 0, 1) := by decide +kernel
theorem dX7_isRegister_5 : decode cX7_isRegister 5 = .ok (.bipush 8, 2) := by decide +kernel
theorem dX7_isRegister_7 : decode cX7_isRegister 7 = .ok (.if_icmp .ge 7, 3) := by decide +kernel
theorem dX7_isRegister_10 : decode cX7_isRegister 10 = .ok (.iconst 1, 1) := by decide +kernel
theorem dX7_isRegister_11 : decode cX7_isRegister 11 = .ok (.goto 4, 3) := by decide +kernel
theorem dX7_isRegister_14 : decode cX7_isRegister 14 = .ok (.iconst 0, 1) := by decide +kernel
theorem dX7_isRegister_15 : decode cX7_isRegister 15 = .ok (.ireturn, 1) := by decide +kernel
theorem dX7_isElement_0 : decode cX7_isElement 0 = .ok (.iload_n 1, 1) := by decide +kernel
theorem dX7_isElement_1 : decode cX7_isElement 1 = .ok (.ifCond .lt 18, 3) := by decide +kernel
theorem dX7_isElement_4 : decode cX7_isElement 4 = .ok (.iload_n 1, 1) := by decide +kernel
theorem dX7_isElement_5 : decode cX7_isElement 5 = .ok (.aload_n 0, 1) := by decide +kernel
theorem dX7_isElement_6 : decode cX7_isElement 6 = .ok (.getfield 10, 3) := by decide +kernel
theorem dX7_isElement_9 : decode cX7_isElement 9 = .ok (.getfield 75, 3) := by decide +kernel
theorem dX7_isElement_12 : decode cX7_isElement 12 = .ok (.if_icmp .ge 7, 3) := by decide +kernel
theorem dX7_isElement_15 : decode cX7_isElement 15 = .ok (.iconst 1, 1) := by decide +kernel
theorem dX7_isElement_16 : decode cX7_isElement 16 = .ok (.goto 4, 3) := by decide +kernel
theorem dX7_isElement_19 : decode cX7_isElement 19 = .ok (.iconst 0, 1) := by decide +kernel
theorem dX7_isElement_20 : decode cX7_isElement 20 = .ok (.ireturn, 1) := by decide +kernel
theorem dX7_isBase_0 : decode cX7_isBase 0 = .ok (.iload_n 0, 1) := by decide +kernel
theorem dX7_isBase_1 : decode cX7_isBase 1 = .ok (.bipush (-9), 2) := by decide +kernel
theorem dX7_isBase_3 : decode cX7_isBase 3 = .ok (.if_icmp .lt 13, 3) := by decide +kernel
theorem dX7_isBase_6 : decode cX7_isBase 6 = .ok (.iload_n 0, 1) := by decide +kernel
theorem dX7_isBase_7 : decode cX7_isBase 7 = .ok (.bipush 9, 2) := by decide +kernel
theorem dX7_isBase_9 : decode cX7_isBase 9 = .ok (.if_icmp .gt 7, 3) := by decide +kernel
theorem dX7_isBase_12 : decode cX7_isBase 12 = .ok (.iconst 1, 1) := by decide +kernel
theorem dX7_isBase_13 : decode cX7_isBase 13 = .ok (.goto 4, 3) := by decide +kernel
theorem dX7_isBase_16 : decode cX7_isBase 16 = .ok (.iconst 0, 1) := by decide +kernel
theorem dX7_isBase_17 : decode cX7_isBase 17 = .ok (.ireturn, 1) := by decide +kernel
theorem dX7_faultOf_0 : decode cX7_faultOf 0 = .ok (.iload_n 3, 1) := by decide +kernel
theorem dX7_faultOf_1 : decode cX7_faultOf 1 = .ok (.ifCond .eq 17, 3) := by decide +kernel
theorem dX7_faultOf_4 : decode cX7_faultOf 4 = .ok (.iload_n 1, 1) := by decide +kernel
theorem dX7_faultOf_5 : decode cX7_faultOf 5 = .ok (.invokestatic 117, 3) := by decide +kernel
theorem dX7_faultOf_8 : decode cX7_faultOf 8 = .ok (.ifCond .eq 10, 3) := by decide +kernel
theorem dX7_faultOf_11 : decode cX7_faultOf 11 = .ok (.iload_n 2, 1) := by decide +kernel
theorem dX7_faultOf_12 : decode cX7_faultOf 12 = .ok (.invokestatic 117, 3) := by decide +kernel
theorem dX7_faultOf_15 : decode cX7_faultOf 15 = .ok (.ifCond .ne 5, 3) := by decide +kernel
theorem dX7_faultOf_18 : decode cX7_faultOf 18 = .ok (.iconst (-1), 1) := by decide +kernel
theorem dX7_faultOf_19 : decode cX7_faultOf 19 = .ok (.ireturn, 1) := by decide +kernel
theorem dX7_faultOf_20 : decode cX7_faultOf 20 = .ok (.aload_n 0, 1) := by decide +kernel
theorem dX7_faultOf_21 : decode cX7_faultOf 21 = .ok (.getfield 10, 3) := by decide +kernel
theorem dX7_faultOf_24 : decode cX7_faultOf 24 = .ok (.getfield 133, 3) := by decide +kernel
theorem dX7_faultOf_27 : decode cX7_faultOf 27 = .ok (.iload_n 1, 1) := by decide +kernel
theorem dX7_faultOf_28 : decode cX7_faultOf 28 = .ok (.iaload, 1) := by decide +kernel
theorem dX7_faultOf_29 : decode cX7_faultOf 29 = .ok (.iconst (-1), 1) := by decide +kernel
theorem dX7_faultOf_30 : decode cX7_faultOf 30 = .ok (.if_icmp .eq 16, 3) := by decide +kernel
theorem dX7_faultOf_33 : decode cX7_faultOf 33 = .ok (.aload_n 0, 1) := by decide +kernel
theorem dX7_faultOf_34 : decode cX7_faultOf 34 = .ok (.getfield 10, 3) := by decide +kernel
theorem dX7_faultOf_37 : decode cX7_faultOf 37 = .ok (.getfield 133, 3) := by decide +kernel
theorem dX7_faultOf_40 : decode cX7_faultOf 40 = .ok (.iload_n 2, 1) := by decide +kernel
theorem dX7_faultOf_41 : decode cX7_faultOf 41 = .ok (.iaload, 1) := by decide +kernel
theorem dX7_faultOf_42 : decode cX7_faultOf 42 = .ok (.iconst (-1), 1) := by decide +kernel
theorem dX7_faultOf_43 : decode cX7_faultOf 43 = .ok (.if_icmp .ne 8, 3) := by decide +kernel
theorem dX7_faultOf_46 : decode cX7_faultOf 46 = .ok (.bipush (-2), 2) := by decide +kernel
theorem dX7_faultOf_48 : decode cX7_faultOf 48 = .ok (.goto 4, 3) := by decide +kernel
theorem dX7_faultOf_51 : decode cX7_faultOf 51 = .ok (.iconst 0, 1) := by decide +kernel
theorem dX7_faultOf_52 : decode cX7_faultOf 52 = .ok (.ireturn, 1) := by decide +kernel
theorem dX7_faultOfAdmitted_0 : decode cX7_faultOfAdmitted 0 = .ok (.aload_n 0, 1) := by decide +kernel
theorem dX7_faultOfAdmitted_1 : decode cX7_faultOfAdmitted 1 = .ok (.iload_n 1, 1) := by decide +kernel
theorem dX7_faultOfAdmitted_2 : decode cX7_faultOfAdmitted 2 = .ok (.iload_n 2, 1) := by decide +kernel
theorem dX7_faultOfAdmitted_3 : decode cX7_faultOfAdmitted 3 = .ok (.iload_n 3, 1) := by decide +kernel
theorem dX7_faultOfAdmitted_4 : decode cX7_faultOfAdmitted 4 = .ok (.invokevirtual 130, 3) := by decide +kernel
theorem dX7_faultOfAdmitted_7 : decode cX7_faultOfAdmitted 7 = .ok (.istore 4, 2) := by decide +kernel
theorem dX7_faultOfAdmitted_9 : decode cX7_faultOfAdmitted 9 = .ok (.iload 4, 2) := by decide +kernel
theorem dX7_faultOfAdmitted_11 : decode cX7_faultOfAdmitted 11 = .ok (.ifCond .eq 6, 3) := by decide +kernel
theorem dX7_faultOfAdmitted_14 : decode cX7_faultOfAdmitted 14 = .ok (.iload 4, 2) := by decide +kernel
theorem dX7_faultOfAdmitted_16 : decode cX7_faultOfAdmitted 16 = .ok (.ireturn, 1) := by decide +kernel
theorem dX7_faultOfAdmitted_17 : decode cX7_faultOfAdmitted 17 = .ok (.aload_n 0, 1) := by decide +kernel
theorem dX7_faultOfAdmitted_18 : decode cX7_faultOfAdmitted 18 = .ok (.getfield 40, 3) := by decide +kernel
theorem dX7_faultOfAdmitted_21 : decode cX7_faultOfAdmitted 21 = .ok (.aload_n 0, 1) := by decide +kernel
theorem dX7_faultOfAdmitted_22 : decode cX7_faultOfAdmitted 22 = .ok (.getfield 10, 3) := by decide +kernel
theorem dX7_faultOfAdmitted_25 : decode cX7_faultOfAdmitted 25 = .ok (.getfield 133, 3) := by decide +kernel
theorem dX7_faultOfAdmitted_28 : decode cX7_faultOfAdmitted 28 = .ok (.iload_n 1, 1) := by decide +kernel
theorem dX7_faultOfAdmitted_29 : decode cX7_faultOfAdmitted 29 = .ok (.iaload, 1) := by decide +kernel
theorem dX7_faultOfAdmitted_30 : decode cX7_faultOfAdmitted 30 = .ok (.invokevirtual 195, 3) := by decide +kernel
theorem dX7_faultOfAdmitted_33 : decode cX7_faultOfAdmitted 33 = .ok (.bipush (-9), 2) := by decide +kernel
theorem dX7_faultOfAdmitted_35 : decode cX7_faultOfAdmitted 35 = .ok (.if_icmp .eq 28, 3) := by decide +kernel
theorem dX7_faultOfAdmitted_38 : decode cX7_faultOfAdmitted 38 = .ok (.aload_n 0, 1) := by decide +kernel
theorem dX7_faultOfAdmitted_39 : decode cX7_faultOfAdmitted 39 = .ok (.getfield 40, 3) := by decide +kernel
theorem dX7_faultOfAdmitted_42 : decode cX7_faultOfAdmitted 42 = .ok (.aload_n 0, 1) := by decide +kernel
theorem dX7_faultOfAdmitted_43 : decode cX7_faultOfAdmitted 43 = .ok (.getfield 10, 3) := by decide +kernel
theorem dX7_faultOfAdmitted_46 : decode cX7_faultOfAdmitted 46 = .ok (.getfield 133, 3) := by decide +kernel
theorem dX7_faultOfAdmitted_49 : decode cX7_faultOfAdmitted 49 = .ok (.iload_n 2, 1) := by decide +kernel
theorem dX7_faultOfAdmitted_50 : decode cX7_faultOfAdmitted 50 = .ok (.iaload, 1) := by decide +kernel
theorem dX7_faultOfAdmitted_51 : decode cX7_faultOfAdmitted 51 = .ok (.invokevirtual 195, 3) := by decide +kernel
theorem dX7_faultOfAdmitted_54 : decode cX7_faultOfAdmitted 54 = .ok (.bipush (-9), 2) := by decide +kernel
theorem dX7_faultOfAdmitted_56 : decode cX7_faultOfAdmitted 56 = .ok (.if_icmp .eq 7, 3) := by decide +kernel
theorem dX7_faultOfAdmitted_59 : decode cX7_faultOfAdmitted 59 = .ok (.iconst 1, 1) := by decide +kernel
theorem dX7_faultOfAdmitted_60 : decode cX7_faultOfAdmitted 60 = .ok (.goto 4, 3) := by decide +kernel
theorem dX7_faultOfAdmitted_63 : decode cX7_faultOfAdmitted 63 = .ok (.iconst 0, 1) := by decide +kernel
theorem dX7_faultOfAdmitted_64 : decode cX7_faultOfAdmitted 64 = .ok (.istore 5, 2) := by decide +kernel
theorem dX7_faultOfAdmitted_66 : decode cX7_faultOfAdmitted 66 = .ok (.iload 5, 2) := by decide +kernel
theorem dX7_faultOfAdmitted_68 : decode cX7_faultOfAdmitted 68 = .ok (.ifCond .eq 7, 3) := by decide +kernel
theorem dX7_faultOfAdmitted_71 : decode cX7_faultOfAdmitted 71 = .ok (.iconst 0, 1) := by decide +kernel
theorem dX7_faultOfAdmitted_72 : decode cX7_faultOfAdmitted 72 = .ok (.goto 5, 3) := by decide +kernel
theorem dX7_faultOfAdmitted_75 : decode cX7_faultOfAdmitted 75 = .ok (.bipush (-3), 2) := by decide +kernel
theorem dX7_faultOfAdmitted_77 : decode cX7_faultOfAdmitted 77 = .ok (.ireturn, 1) := by decide +kernel
theorem dX7_refresh_0 : decode cX7_refresh 0 = .ok (.aload_n 0, 1) := by decide +kernel
theorem dX7_refresh_1 : decode cX7_refresh 1 = .ok (.getfield 33, 3) := by decide +kernel
theorem dX7_refresh_4 : decode cX7_refresh 4 = .ok (.aload_n 0, 1) := by decide +kernel
theorem dX7_refresh_5 : decode cX7_refresh 5 = .ok (.getfield 10, 3) := by decide +kernel
theorem dX7_refresh_8 : decode cX7_refresh 8 = .ok (.getfield 75, 3) := by decide +kernel
theorem dX7_refresh_11 : decode cX7_refresh 11 = .ok (.invokevirtual 330, 3) := by decide +kernel
theorem dX7_refresh_14 : decode cX7_refresh 14 = .ok (.aload_n 0, 1) := by decide +kernel
theorem dX7_refresh_15 : decode cX7_refresh 15 = .ok (.getfield 40, 3) := by decide +kernel
theorem dX7_refresh_18 : decode cX7_refresh 18 = .ok (.aload_n 0, 1) := by decide +kernel
theorem dX7_refresh_19 : decode cX7_refresh 19 = .ok (.getfield 33, 3) := by decide +kernel
theorem dX7_refresh_22 : decode cX7_refresh 22 = .ok (.aload_n 0, 1) := by decide +kernel
theorem dX7_refresh_23 : decode cX7_refresh 23 = .ok (.getfield 10, 3) := by decide +kernel
theorem dX7_refresh_26 : decode cX7_refresh 26 = .ok (.invokevirtual 333, 3) := by decide +kernel
theorem dX7_refresh_29 : decode cX7_refresh 29 = .ok (.return_, 1) := by decide +kernel
theorem dX7_put_0 : decode cX7_put 0 = .ok (.aload_n 0, 1) := by decide +kernel
theorem dX7_put_1 : decode cX7_put 1 = .ok (.getfield 19, 3) := by decide +kernel
theorem dX7_put_4 : decode cX7_put 4 = .ok (.aload_n 0, 1) := by decide +kernel
theorem dX7_put_5 : decode cX7_put 5 = .ok (.getfield 10, 3) := by decide +kernel
theorem dX7_put_8 : decode cX7_put 8 = .ok (.invokevirtual 79, 3) := by decide +kernel
theorem dX7_put_11 : decode cX7_put 11 = .ok (.aload_n 0, 1) := by decide +kernel
theorem dX7_put_12 : decode cX7_put 12 = .ok (.getfield 10, 3) := by decide +kernel
theorem dX7_put_15 : decode cX7_put 15 = .ok (.getfield 133, 3) := by decide +kernel
theorem dX7_put_18 : decode cX7_put 18 = .ok (.iload_n 1, 1) := by decide +kernel
theorem dX7_put_19 : decode cX7_put 19 = .ok (.iload_n 2, 1) := by decide +kernel
theorem dX7_put_20 : decode cX7_put 20 = .ok (.iastore, 1) := by decide +kernel
theorem dX7_put_21 : decode cX7_put 21 = .ok (.aload_n 0, 1) := by decide +kernel
theorem dX7_put_22 : decode cX7_put 22 = .ok (.iload_n 2, 1) := by decide +kernel
theorem dX7_put_23 : decode cX7_put 23 = .ok (.invokevirtual 177, 3) := by decide +kernel
theorem dX7_put_26 : decode cX7_put 26 = .ok (.ireturn, 1) := by decide +kernel
theorem dX7_stepTo_0 : decode cX7_stepTo 0 = .ok (.aload_n 0, 1) := by decide +kernel
theorem dX7_stepTo_1 : decode cX7_stepTo 1 = .ok (.getfield 19, 3) := by decide +kernel
theorem dX7_stepTo_4 : decode cX7_stepTo 4 = .ok (.aload_n 0, 1) := by decide +kernel
theorem dX7_stepTo_5 : decode cX7_stepTo 5 = .ok (.getfield 10, 3) := by decide +kernel
theorem dX7_stepTo_8 : decode cX7_stepTo 8 = .ok (.invokevirtual 79, 3) := by decide +kernel
theorem dX7_stepTo_11 : decode cX7_stepTo 11 = .ok (.aload_n 0, 1) := by decide +kernel
theorem dX7_stepTo_12 : decode cX7_stepTo 12 = .ok (.getfield 40, 3) := by decide +kernel
theorem dX7_stepTo_15 : decode cX7_stepTo 15 = .ok (.iload_n 2, 1) := by decide +kernel
theorem dX7_stepTo_16 : decode cX7_stepTo 16 = .ok (.invokevirtual 155, 3) := by decide +kernel
theorem dX7_stepTo_19 : decode cX7_stepTo 19 = .ok (.ifCond .ne 6, 3) := by decide +kernel
theorem dX7_stepTo_22 : decode cX7_stepTo 22 = .ok (.bipush (-9), 2) := by decide +kernel
theorem dX7_stepTo_24 : decode cX7_stepTo 24 = .ok (.ireturn, 1) := by decide +kernel
theorem dX7_stepTo_25 : decode cX7_stepTo 25 = .ok (.aload_n 0, 1) := by decide +kernel
theorem dX7_stepTo_26 : decode cX7_stepTo 26 = .ok (.getfield 10, 3) := by decide +kernel
theorem dX7_stepTo_29 : decode cX7_stepTo 29 = .ok (.getfield 133, 3) := by decide +kernel
theorem dX7_stepTo_32 : decode cX7_stepTo 32 = .ok (.iload_n 1, 1) := by decide +kernel
theorem dX7_stepTo_33 : decode cX7_stepTo 33 = .ok (.aload_n 0, 1) := by decide +kernel
theorem dX7_stepTo_34 : decode cX7_stepTo 34 = .ok (.getfield 40, 3) := by decide +kernel
theorem dX7_stepTo_37 : decode cX7_stepTo 37 = .ok (.getfield 158, 3) := by decide +kernel
theorem dX7_stepTo_40 : decode cX7_stepTo 40 = .ok (.iload_n 2, 1) := by decide +kernel
theorem dX7_stepTo_41 : decode cX7_stepTo 41 = .ok (.iaload, 1) := by decide +kernel
theorem dX7_stepTo_42 : decode cX7_stepTo 42 = .ok (.iastore, 1) := by decide +kernel
theorem dX7_stepTo_43 : decode cX7_stepTo 43 = .ok (.iload_n 2, 1) := by decide +kernel
theorem dX7_stepTo_44 : decode cX7_stepTo 44 = .ok (.ireturn, 1) := by decide +kernel
theorem dX7_moveElements_0 : decode cX7_moveElements 0 = .ok (.aload_n 0, 1) := by decide +kernel
theorem dX7_moveElements_1 : decode cX7_moveElements 1 = .ok (.getfield 10, 3) := by decide +kernel
theorem dX7_moveElements_4 : decode cX7_moveElements 4 = .ok (.getfield 133, 3) := by decide +kernel
theorem dX7_moveElements_7 : decode cX7_moveElements 7 = .ok (.iload_n 1, 1) := by decide +kernel
theorem dX7_moveElements_8 : decode cX7_moveElements 8 = .ok (.iaload, 1) := by decide +kernel
theorem dX7_moveElements_9 : decode cX7_moveElements 9 = .ok (.istore_n 2, 1) := by decide +kernel
theorem dX7_moveElements_10 : decode cX7_moveElements 10 = .ok (.iconst 0, 1) := by decide +kernel
theorem dX7_moveElements_11 : decode cX7_moveElements 11 = .ok (.istore_n 3, 1) := by decide +kernel
theorem dX7_moveElements_12 : decode cX7_moveElements 12 = .ok (.iconst 0, 1) := by decide +kernel
theorem dX7_moveElements_13 : decode cX7_moveElements 13 = .ok (.istore 4, 2) := by decide +kernel
theorem dX7_moveElements_15 : decode cX7_moveElements 15 = .ok (.iload 4, 2) := by decide +kernel
theorem dX7_moveElements_17 : decode cX7_moveElements 17 = .ok (.bipush 15, 2) := by decide +kernel
theorem dX7_moveElements_19 : decode cX7_moveElements 19 = .ok (.if_icmp .ge 46, 3) := by decide +kernel
theorem dX7_moveElements_22 : decode cX7_moveElements 22 = .ok (.iload_n 2, 1) := by decide +kernel
theorem dX7_moveElements_23 : decode cX7_moveElements 23 = .ok (.iload 4, 2) := by decide +kernel
theorem dX7_moveElements_25 : decode cX7_moveElements 25 = .ok (.ishr, 1) := by decide +kernel
theorem dX7_moveElements_26 : decode cX7_moveElements 26 = .ok (.iconst 1, 1) := by decide +kernel
theorem dX7_moveElements_27 : decode cX7_moveElements 27 = .ok (.iand, 1) := by decide +kernel
theorem dX7_moveElements_28 : decode cX7_moveElements 28 = .ok (.ifCond .eq 31, 3) := by decide +kernel
theorem dX7_moveElements_31 : decode cX7_moveElements 31 = .ok (.iload_n 3, 1) := by decide +kernel
theorem dX7_moveElements_32 : decode cX7_moveElements 32 = .ok (.aload_n 0, 1) := by decide +kernel
theorem dX7_moveElements_33 : decode cX7_moveElements 33 = .ok (.getfield 61, 3) := by decide +kernel
theorem dX7_moveElements_36 : decode cX7_moveElements 36 = .ok (.getstatic 337, 3) := by decide +kernel
theorem dX7_moveElements_39 : decode cX7_moveElements 39 = .ok (.iload 4, 2) := by decide +kernel
theorem dX7_moveElements_41 : decode cX7_moveElements 41 = .ok (.iaload, 1) := by decide +kernel
theorem dX7_moveElements_42 : decode cX7_moveElements 42 = .ok (.iaload, 1) := by decide +kernel
theorem dX7_moveElements_43 : decode cX7_moveElements 43 = .ok (.aload_n 0, 1) := by decide +kernel
theorem dX7_moveElements_44 : decode cX7_moveElements 44 = .ok (.getfield 61, 3) := by decide +kernel
theorem dX7_moveElements_47 : decode cX7_moveElements 47 = .ok (.getstatic 340, 3) := by decide +kernel
theorem dX7_moveElements_50 : decode cX7_moveElements 50 = .ok (.iload 4, 2) := by decide +kernel
theorem dX7_moveElements_52 : decode cX7_moveElements 52 = .ok (.iaload, 1) := by decide +kernel
theorem dX7_moveElements_53 : decode cX7_moveElements 53 = .ok (.iaload, 1) := by decide +kernel
theorem dX7_moveElements_54 : decode cX7_moveElements 54 = .ok (.invokestatic 97, 3) := by decide +kernel
theorem dX7_moveElements_57 : decode cX7_moveElements 57 = .ok (.ior, 1) := by decide +kernel
theorem dX7_moveElements_58 : decode cX7_moveElements 58 = .ok (.istore_n 3, 1) := by decide +kernel
theorem dX7_moveElements_59 : decode cX7_moveElements 59 = .ok (.iinc 4 1, 3) := by decide +kernel
theorem dX7_moveElements_62 : decode cX7_moveElements 62 = .ok (.goto (-47), 3) := by decide +kernel
theorem dX7_moveElements_65 : decode cX7_moveElements 65 = .ok (.aload_n 0, 1) := by decide +kernel
theorem dX7_moveElements_66 : decode cX7_moveElements 66 = .ok (.iload_n 1, 1) := by decide +kernel
theorem dX7_moveElements_67 : decode cX7_moveElements 67 = .ok (.iload_n 3, 1) := by decide +kernel
theorem dX7_moveElements_68 : decode cX7_moveElements 68 = .ok (.invokevirtual 124, 3) := by decide +kernel
theorem dX7_moveElements_71 : decode cX7_moveElements 71 = .ok (.pop, 1) := by decide +kernel
theorem dX7_moveElements_72 : decode cX7_moveElements 72 = .ok (.iload_n 3, 1) := by decide +kernel
theorem dX7_moveElements_73 : decode cX7_moveElements 73 = .ok (.iload_n 2, 1) := by decide +kernel
theorem dX7_moveElements_74 : decode cX7_moveElements 74 = .ok (.if_icmp .eq 7, 3) := by decide +kernel
theorem dX7_moveElements_77 : decode cX7_moveElements 77 = .ok (.iconst 1, 1) := by decide +kernel
theorem dX7_moveElements_78 : decode cX7_moveElements 78 = .ok (.goto 4, 3) := by decide +kernel
theorem dX7_moveElements_81 : decode cX7_moveElements 81 = .ok (.iconst 0, 1) := by decide +kernel
theorem dX7_moveElements_82 : decode cX7_moveElements 82 = .ok (.ireturn, 1) := by decide +kernel
theorem dX7_spellRegister_0 : decode cX7_spellRegister 0 = .ok (.aload_n 0, 1) := by decide +kernel
theorem dX7_spellRegister_1 : decode cX7_spellRegister 1 = .ok (.getfield 54, 3) := by decide +kernel
theorem dX7_spellRegister_4 : decode cX7_spellRegister 4 = .ok (.aload_n 0, 1) := by decide +kernel
theorem dX7_spellRegister_5 : decode cX7_spellRegister 5 = .ok (.getfield 10, 3) := by decide +kernel
theorem dX7_spellRegister_8 : decode cX7_spellRegister 8 = .ok (.getfield 133, 3) := by decide +kernel
theorem dX7_spellRegister_11 : decode cX7_spellRegister 11 = .ok (.iload_n 1, 1) := by decide +kernel
theorem dX7_spellRegister_12 : decode cX7_spellRegister 12 = .ok (.iaload, 1) := by decide +kernel
theorem dX7_spellRegister_13 : decode cX7_spellRegister 13 = .ok (.aload_n 0, 1) := by decide +kernel
theorem dX7_spellRegister_14 : decode cX7_spellRegister 14 = .ok (.getfield 10, 3) := by decide +kernel
theorem dX7_spellRegister_17 : decode cX7_spellRegister 17 = .ok (.getfield 75, 3) := by decide +kernel
theorem dX7_spellRegister_20 : decode cX7_spellRegister 20 = .ok (.invokevirtual 275, 3) := by decide +kernel
theorem dX7_spellRegister_23 : decode cX7_spellRegister 23 = .ok (.return_, 1) := by decide +kernel
theorem dX7_blockCountOf_0 : decode cX7_blockCountOf 0 = .ok (.aload_n 0, 1) := by decide +kernel
theorem dX7_blockCountOf_1 : decode cX7_blockCountOf 1 = .ok (.getfield 54, 3) := by decide +kernel
theorem dX7_blockCountOf_4 : decode cX7_blockCountOf 4 = .ok (.iload_n 1, 1) := by decide +kernel
theorem dX7_blockCountOf_5 : decode cX7_blockCountOf 5 = .ok (.aload_n 0, 1) := by decide +kernel
theorem dX7_blockCountOf_6 : decode cX7_blockCountOf 6 = .ok (.getfield 10, 3) := by decide +kernel
theorem dX7_blockCountOf_9 : decode cX7_blockCountOf 9 = .ok (.getfield 75, 3) := by decide +kernel
theorem dX7_blockCountOf_12 : decode cX7_blockCountOf 12 = .ok (.invokevirtual 275, 3) := by decide +kernel
theorem dX7_blockCountOf_15 : decode cX7_blockCountOf 15 = .ok (.aload_n 0, 1) := by decide +kernel
theorem dX7_blockCountOf_16 : decode cX7_blockCountOf 16 = .ok (.getfield 54, 3) := by decide +kernel
theorem dX7_blockCountOf_19 : decode cX7_blockCountOf 19 = .ok (.getfield 183, 3) := by decide +kernel
theorem dX7_blockCountOf_22 : decode cX7_blockCountOf 22 = .ok (.ireturn, 1) := by decide +kernel
theorem dX7_findNearestBounds_0 : decode cX7_findNearestBounds 0 = .ok (.aload_n 0, 1) := by decide +kernel
theorem dX7_findNearestBounds_1 : decode cX7_findNearestBounds 1 = .ok (.getfield 10, 3) := by decide +kernel
theorem dX7_findNearestBounds_4 : decode cX7_findNearestBounds 4 = .ok (.getfield 133, 3) := by decide +kernel
theorem dX7_findNearestBounds_7 : decode cX7_findNearestBounds 7 = .ok (.iload_n 1, 1) := by decide +kernel
theorem dX7_findNearestBounds_8 : decode cX7_findNearestBounds 8 = .ok (.iaload, 1) := by decide +kernel
theorem dX7_findNearestBounds_9 : decode cX7_findNearestBounds 9 = .ok (.istore 4, 2) := by decide +kernel
theorem dX7_findNearestBounds_11 : decode cX7_findNearestBounds 11 = .ok (.aload_n 0, 1) := by decide +kernel
theorem dX7_findNearestBounds_12 : decode cX7_findNearestBounds 12 = .ok (.getfield 10, 3) := by decide +kernel
theorem dX7_findNearestBounds_15 : decode cX7_findNearestBounds 15 = .ok (.getfield 133, 3) := by decide +kernel
theorem dX7_findNearestBounds_18 : decode cX7_findNearestBounds 18 = .ok (.iload_n 2, 1) := by decide +kernel
theorem dX7_findNearestBounds_19 : decode cX7_findNearestBounds 19 = .ok (.iaload, 1) := by decide +kernel
theorem dX7_findNearestBounds_20 : decode cX7_findNearestBounds 20 = .ok (.istore 5, 2) := by decide +kernel
theorem dX7_findNearestBounds_22 : decode cX7_findNearestBounds 22 = .ok (.aload_n 0, 1) := by decide +kernel
theorem dX7_findNearestBounds_23 : decode cX7_findNearestBounds 23 = .ok (.getfield 40, 3) := by decide +kernel
theorem dX7_findNearestBounds_26 : decode cX7_findNearestBounds 26 = .ok (.iload_n 3, 1) := by decide +kernel
theorem dX7_findNearestBounds_27 : decode cX7_findNearestBounds 27 = .ok (.ifCond .eq 11, 3) := by decide +kernel
theorem dX7_findNearestBounds_30 : decode cX7_findNearestBounds 30 = .ok (.iload 4, 2) := by decide +kernel
theorem dX7_findNearestBounds_32 : decode cX7_findNearestBounds 32 = .ok (.iload 5, 2) := by decide +kernel
theorem dX7_findNearestBounds_34 : decode cX7_findNearestBounds 34 = .ok (.iand, 1) := by decide +kernel
theorem dX7_findNearestBounds_35 : decode cX7_findNearestBounds 35 = .ok (.goto 8, 3) := by decide +kernel
theorem dX7_findNearestBounds_38 : decode cX7_findNearestBounds 38 = .ok (.iload 4, 2) := by decide +kernel
theorem dX7_findNearestBounds_40 : decode cX7_findNearestBounds 40 = .ok (.iload 5, 2) := by decide +kernel
theorem dX7_findNearestBounds_42 : decode cX7_findNearestBounds 42 = .ok (.ior, 1) := by decide +kernel
theorem dX7_findNearestBounds_43 : decode cX7_findNearestBounds 43 = .ok (.iload_n 3, 1) := by decide +kernel
theorem dX7_findNearestBounds_44 : decode cX7_findNearestBounds 44 = .ok (.iconst (-1), 1) := by decide +kernel
theorem dX7_findNearestBounds_45 : decode cX7_findNearestBounds 45 = .ok (.invokevirtual 224, 3) := by decide +kernel
theorem dX7_findNearestBounds_48 : decode cX7_findNearestBounds 48 = .ok (.return_, 1) := by decide +kernel
theorem dX7_selectSpan_0 : decode cX7_selectSpan 0 = .ok (.aload_n 0, 1) := by decide +kernel
theorem dX7_selectSpan_1 : decode cX7_selectSpan 1 = .ok (.getfield 47, 3) := by decide +kernel
theorem dX7_selectSpan_4 : decode cX7_selectSpan 4 = .ok (.aload_n 0, 1) := by decide +kernel
theorem dX7_selectSpan_5 : decode cX7_selectSpan 5 = .ok (.getfield 40, 3) := by decide +kernel
theorem dX7_selectSpan_8 : decode cX7_selectSpan 8 = .ok (.aload_n 0, 1) := by decide +kernel
theorem dX7_selectSpan_9 : decode cX7_selectSpan 9 = .ok (.getfield 10, 3) := by decide +kernel
theorem dX7_selectSpan_12 : decode cX7_selectSpan 12 = .ok (.getfield 133, 3) := by decide +kernel
theorem dX7_selectSpan_15 : decode cX7_selectSpan 15 = .ok (.iload_n 1, 1) := by decide +kernel
theorem dX7_selectSpan_16 : decode cX7_selectSpan 16 = .ok (.iaload, 1) := by decide +kernel
theorem dX7_selectSpan_17 : decode cX7_selectSpan 17 = .ok (.aload_n 0, 1) := by decide +kernel
theorem dX7_selectSpan_18 : decode cX7_selectSpan 18 = .ok (.getfield 10, 3) := by decide +kernel
theorem dX7_selectSpan_21 : decode cX7_selectSpan 21 = .ok (.getfield 133, 3) := by decide +kernel
theorem dX7_selectSpan_24 : decode cX7_selectSpan 24 = .ok (.iload_n 2, 1) := by decide +kernel
theorem dX7_selectSpan_25 : decode cX7_selectSpan 25 = .ok (.iaload, 1) := by decide +kernel
theorem dX7_selectSpan_26 : decode cX7_selectSpan 26 = .ok (.invokevirtual 343, 3) := by decide +kernel
theorem dX7_selectSpan_29 : decode cX7_selectSpan 29 = .ok (.return_, 1) := by decide +kernel
theorem dX7_disagreementsWith_0 : decode cX7_disagreementsWith 0 = .ok (.iconst 0, 1) := by decide +kernel
theorem dX7_disagreementsWith_1 : decode cX7_disagreementsWith 1 = .ok (.istore_n 3, 1) := by decide +kernel
theorem dX7_disagreementsWith_2 : decode cX7_disagreementsWith 2 = .ok (.iconst 0, 1) := by decide +kernel
theorem dX7_disagreementsWith_3 : decode cX7_disagreementsWith 3 = .ok (.istore 4, 2) := by decide +kernel
theorem dX7_disagreementsWith_5 : decode cX7_disagreementsWith 5 = .ok (.iload 4, 2) := by decide +kernel
theorem dX7_disagreementsWith_7 : decode cX7_disagreementsWith 7 = .ok (.bipush 8, 2) := by decide +kernel
theorem dX7_disagreementsWith_9 : decode cX7_disagreementsWith 9 = .ok (.if_icmp .ge 36, 3) := by decide +kernel
theorem dX7_disagreementsWith_12 : decode cX7_disagreementsWith 12 = .ok (.iload_n 1, 1) := by decide +kernel
theorem dX7_disagreementsWith_13 : decode cX7_disagreementsWith 13 = .ok (.iload 4, 2) := by decide +kernel
theorem dX7_disagreementsWith_15 : decode cX7_disagreementsWith 15 = .ok (.ishr, 1) := by decide +kernel
theorem dX7_disagreementsWith_16 : decode cX7_disagreementsWith 16 = .ok (.iconst 1, 1) := by decide +kernel
theorem dX7_disagreementsWith_17 : decode cX7_disagreementsWith 17 = .ok (.iand, 1) := by decide +kernel
theorem dX7_disagreementsWith_18 : decode cX7_disagreementsWith 18 = .ok (.ifCond .eq 21, 3) := by decide +kernel
theorem dX7_disagreementsWith_21 : decode cX7_disagreementsWith 21 = .ok (.iload_n 3, 1) := by decide +kernel
theorem dX7_disagreementsWith_22 : decode cX7_disagreementsWith 22 = .ok (.aload_n 0, 1) := by decide +kernel
theorem dX7_disagreementsWith_23 : decode cX7_disagreementsWith 23 = .ok (.getfield 10, 3) := by decide +kernel
theorem dX7_disagreementsWith_26 : decode cX7_disagreementsWith 26 = .ok (.getfield 133, 3) := by decide +kernel
theorem dX7_disagreementsWith_29 : decode cX7_disagreementsWith 29 = .ok (.iload 4, 2) := by decide +kernel
theorem dX7_disagreementsWith_31 : decode cX7_disagreementsWith 31 = .ok (.iaload, 1) := by decide +kernel
theorem dX7_disagreementsWith_32 : decode cX7_disagreementsWith 32 = .ok (.iload_n 2, 1) := by decide +kernel
theorem dX7_disagreementsWith_33 : decode cX7_disagreementsWith 33 = .ok (.ixor, 1) := by decide +kernel
theorem dX7_disagreementsWith_34 : decode cX7_disagreementsWith 34 = .ok (.invokestatic 281, 3) := by decide +kernel
theorem dX7_disagreementsWith_37 : decode cX7_disagreementsWith 37 = .ok (.iadd, 1) := by decide +kernel
theorem dX7_disagreementsWith_38 : decode cX7_disagreementsWith 38 = .ok (.istore_n 3, 1) := by decide +kernel
theorem dX7_disagreementsWith_39 : decode cX7_disagreementsWith 39 = .ok (.iinc 4 1, 3) := by decide +kernel
theorem dX7_disagreementsWith_42 : decode cX7_disagreementsWith 42 = .ok (.goto (-37), 3) := by decide +kernel
theorem dX7_disagreementsWith_45 : decode cX7_disagreementsWith 45 = .ok (.iload_n 3, 1) := by decide +kernel
theorem dX7_disagreementsWith_46 : decode cX7_disagreementsWith 46 = .ok (.ireturn, 1) := by decide +kernel
theorem dX7_mostThatStay_0 : decode cX7_mostThatStay 0 = .ok (.iconst 1, 1) := by decide +kernel
theorem dX7_mostThatStay_1 : decode cX7_mostThatStay 1 = .ok (.aload_n 0, 1) := by decide +kernel
theorem dX7_mostThatStay_2 : decode cX7_mostThatStay 2 = .ok (.getfield 58, 3) := by decide +kernel
theorem dX7_mostThatStay_5 : decode cX7_mostThatStay 5 = .ok (.getfield 183, 3) := by decide +kernel
theorem dX7_mostThatStay_8 : decode cX7_mostThatStay 8 = .ok (.ishl, 1) := by decide +kernel
theorem dX7_mostThatStay_9 : decode cX7_mostThatStay 9 = .ok (.istore_n 1, 1) := by decide +kernel
theorem dX7_mostThatStay_10 : decode cX7_mostThatStay 10 = .ok (.iconst 0, 1) := by decide +kernel
theorem dX7_mostThatStay_11 : decode cX7_mostThatStay 11 = .ok (.istore_n 2, 1) := by decide +kernel
theorem dX7_mostThatStay_12 : decode cX7_mostThatStay 12 = .ok (.iload_n 2, 1) := by decide +kernel
theorem dX7_mostThatStay_13 : decode cX7_mostThatStay 13 = .ok (.iload_n 1, 1) := by decide +kernel
theorem dX7_mostThatStay_14 : decode cX7_mostThatStay 14 = .ok (.if_icmp .ge 16, 3) := by decide +kernel
theorem dX7_mostThatStay_17 : decode cX7_mostThatStay 17 = .ok (.aload_n 0, 1) := by decide +kernel
theorem dX7_mostThatStay_18 : decode cX7_mostThatStay 18 = .ok (.getfield 65, 3) := by decide +kernel
theorem dX7_mostThatStay_21 : decode cX7_mostThatStay 21 = .ok (.iload_n 2, 1) := by decide +kernel
theorem dX7_mostThatStay_22 : decode cX7_mostThatStay 22 = .ok (.iconst 0, 1) := by decide +kernel
theorem dX7_mostThatStay_23 : decode cX7_mostThatStay 23 = .ok (.iastore, 1) := by decide +kernel
theorem dX7_mostThatStay_24 : decode cX7_mostThatStay 24 = .ok (.iinc 2 1, 3) := by decide +kernel
theorem dX7_mostThatStay_27 : decode cX7_mostThatStay 27 = .ok (.goto (-15), 3) := by decide +kernel
theorem dX7_mostThatStay_30 : decode cX7_mostThatStay 30 = .ok (.iconst 0, 1) := by decide +kernel
theorem dX7_mostThatStay_31 : decode cX7_mostThatStay 31 = .ok (.istore_n 2, 1) := by decide +kernel
theorem dX7_mostThatStay_32 : decode cX7_mostThatStay 32 = .ok (.iload_n 2, 1) := by decide +kernel
theorem dX7_mostThatStay_33 : decode cX7_mostThatStay 33 = .ok (.aload_n 0, 1) := by decide +kernel
theorem dX7_mostThatStay_34 : decode cX7_mostThatStay 34 = .ok (.getfield 54, 3) := by decide +kernel
theorem dX7_mostThatStay_37 : decode cX7_mostThatStay 37 = .ok (.getfield 183, 3) := by decide +kernel
theorem dX7_mostThatStay_40 : decode cX7_mostThatStay 40 = .ok (.if_icmp .ge 44, 3) := by decide +kernel
theorem dX7_mostThatStay_43 : decode cX7_mostThatStay 43 = .ok (.iload_n 1, 1) := by decide +kernel
theorem dX7_mostThatStay_44 : decode cX7_mostThatStay 44 = .ok (.iconst 1, 1) := by decide +kernel
theorem dX7_mostThatStay_45 : decode cX7_mostThatStay 45 = .ok (.isub, 1) := by decide +kernel
theorem dX7_mostThatStay_46 : decode cX7_mostThatStay 46 = .ok (.istore_n 3, 1) := by decide +kernel
theorem dX7_mostThatStay_47 : decode cX7_mostThatStay 47 = .ok (.iload_n 3, 1) := by decide +kernel
theorem dX7_mostThatStay_48 : decode cX7_mostThatStay 48 = .ok (.ifCond .le 30, 3) := by decide +kernel
theorem dX7_mostThatStay_51 : decode cX7_mostThatStay 51 = .ok (.aload_n 0, 1) := by decide +kernel
theorem dX7_mostThatStay_52 : decode cX7_mostThatStay 52 = .ok (.getfield 65, 3) := by decide +kernel
theorem dX7_mostThatStay_55 : decode cX7_mostThatStay 55 = .ok (.iload_n 3, 1) := by decide +kernel
theorem dX7_mostThatStay_56 : decode cX7_mostThatStay 56 = .ok (.aload_n 0, 1) := by decide +kernel
theorem dX7_mostThatStay_57 : decode cX7_mostThatStay 57 = .ok (.getfield 65, 3) := by decide +kernel
theorem dX7_mostThatStay_60 : decode cX7_mostThatStay 60 = .ok (.iload_n 3, 1) := by decide +kernel
theorem dX7_mostThatStay_61 : decode cX7_mostThatStay 61 = .ok (.iaload, 1) := by decide +kernel
theorem dX7_mostThatStay_62 : decode cX7_mostThatStay 62 = .ok (.aload_n 0, 1) := by decide +kernel
theorem dX7_mostThatStay_63 : decode cX7_mostThatStay 63 = .ok (.iload_n 2, 1) := by decide +kernel
theorem dX7_mostThatStay_64 : decode cX7_mostThatStay 64 = .ok (.iload_n 3, 1) := by decide +kernel
theorem dX7_mostThatStay_65 : decode cX7_mostThatStay 65 = .ok (.invokevirtual 346, 3) := by decide +kernel
theorem dX7_mostThatStay_68 : decode cX7_mostThatStay 68 = .ok (.invokestatic 349, 3) := by decide +kernel
theorem dX7_mostThatStay_71 : decode cX7_mostThatStay 71 = .ok (.iastore, 1) := by decide +kernel
theorem dX7_mostThatStay_72 : decode cX7_mostThatStay 72 = .ok (.iinc 3 (-1), 3) := by decide +kernel
theorem dX7_mostThatStay_75 : decode cX7_mostThatStay 75 = .ok (.goto (-28), 3) := by decide +kernel
theorem dX7_mostThatStay_78 : decode cX7_mostThatStay 78 = .ok (.iinc 2 1, 3) := by decide +kernel
theorem dX7_mostThatStay_81 : decode cX7_mostThatStay 81 = .ok (.goto (-49), 3) := by decide +kernel
theorem dX7_mostThatStay_84 : decode cX7_mostThatStay 84 = .ok (.aload_n 0, 1) := by decide +kernel
theorem dX7_mostThatStay_85 : decode cX7_mostThatStay 85 = .ok (.getfield 65, 3) := by decide +kernel
theorem dX7_mostThatStay_88 : decode cX7_mostThatStay 88 = .ok (.iload_n 1, 1) := by decide +kernel
theorem dX7_mostThatStay_89 : decode cX7_mostThatStay 89 = .ok (.iconst 1, 1) := by decide +kernel
theorem dX7_mostThatStay_90 : decode cX7_mostThatStay 90 = .ok (.isub, 1) := by decide +kernel
theorem dX7_mostThatStay_91 : decode cX7_mostThatStay 91 = .ok (.iaload, 1) := by decide +kernel
theorem dX7_mostThatStay_92 : decode cX7_mostThatStay 92 = .ok (.ireturn, 1) := by decide +kernel
theorem dX7_mostWithBlock_0 : decode cX7_mostWithBlock 0 = .ok (.iconst 0, 1) := by decide +kernel
theorem dX7_mostWithBlock_1 : decode cX7_mostWithBlock 1 = .ok (.istore_n 3, 1) := by decide +kernel
theorem dX7_mostWithBlock_2 : decode cX7_mostWithBlock 2 = .ok (.iconst 0, 1) := by decide +kernel
theorem dX7_mostWithBlock_3 : decode cX7_mostWithBlock 3 = .ok (.istore 4, 2) := by decide +kernel
theorem dX7_mostWithBlock_5 : decode cX7_mostWithBlock 5 = .ok (.iload 4, 2) := by decide +kernel
theorem dX7_mostWithBlock_7 : decode cX7_mostWithBlock 7 = .ok (.aload_n 0, 1) := by decide +kernel
theorem dX7_mostWithBlock_8 : decode cX7_mostWithBlock 8 = .ok (.getfield 58, 3) := by decide +kernel
theorem dX7_mostWithBlock_11 : decode cX7_mostWithBlock 11 = .ok (.getfield 183, 3) := by decide +kernel
theorem dX7_mostWithBlock_14 : decode cX7_mostWithBlock 14 = .ok (.if_icmp .ge 64, 3) := by decide +kernel
theorem dX7_mostWithBlock_17 : decode cX7_mostWithBlock 17 = .ok (.iload_n 2, 1) := by decide +kernel
theorem dX7_mostWithBlock_18 : decode cX7_mostWithBlock 18 = .ok (.iload 4, 2) := by decide +kernel
theorem dX7_mostWithBlock_20 : decode cX7_mostWithBlock 20 = .ok (.ishr, 1) := by decide +kernel
theorem dX7_mostWithBlock_21 : decode cX7_mostWithBlock 21 = .ok (.iconst 1, 1) := by decide +kernel
theorem dX7_mostWithBlock_22 : decode cX7_mostWithBlock 22 = .ok (.iand, 1) := by decide +kernel
theorem dX7_mostWithBlock_23 : decode cX7_mostWithBlock 23 = .ok (.ifCond .eq 49, 3) := by decide +kernel
theorem dX7_mostWithBlock_26 : decode cX7_mostWithBlock 26 = .ok (.aload_n 0, 1) := by decide +kernel
theorem dX7_mostWithBlock_27 : decode cX7_mostWithBlock 27 = .ok (.getfield 54, 3) := by decide +kernel
theorem dX7_mostWithBlock_30 : decode cX7_mostWithBlock 30 = .ok (.getfield 186, 3) := by decide +kernel
theorem dX7_mostWithBlock_33 : decode cX7_mostWithBlock 33 = .ok (.iload_n 1, 1) := by decide +kernel
theorem dX7_mostWithBlock_34 : decode cX7_mostWithBlock 34 = .ok (.iaload, 1) := by decide +kernel
theorem dX7_mostWithBlock_35 : decode cX7_mostWithBlock 35 = .ok (.aload_n 0, 1) := by decide +kernel
theorem dX7_mostWithBlock_36 : decode cX7_mostWithBlock 36 = .ok (.getfield 58, 3) := by decide +kernel
theorem dX7_mostWithBlock_39 : decode cX7_mostWithBlock 39 = .ok (.getfield 186, 3) := by decide +kernel
theorem dX7_mostWithBlock_42 : decode cX7_mostWithBlock 42 = .ok (.iload 4, 2) := by decide +kernel
theorem dX7_mostWithBlock_44 : decode cX7_mostWithBlock 44 = .ok (.iaload, 1) := by decide +kernel
theorem dX7_mostWithBlock_45 : decode cX7_mostWithBlock 45 = .ok (.iand, 1) := by decide +kernel
theorem dX7_mostWithBlock_46 : decode cX7_mostWithBlock 46 = .ok (.invokestatic 281, 3) := by decide +kernel
theorem dX7_mostWithBlock_49 : decode cX7_mostWithBlock 49 = .ok (.istore 5, 2) := by decide +kernel
theorem dX7_mostWithBlock_51 : decode cX7_mostWithBlock 51 = .ok (.iload_n 3, 1) := by decide +kernel
theorem dX7_mostWithBlock_52 : decode cX7_mostWithBlock 52 = .ok (.aload_n 0, 1) := by decide +kernel
theorem dX7_mostWithBlock_53 : decode cX7_mostWithBlock 53 = .ok (.getfield 65, 3) := by decide +kernel
theorem dX7_mostWithBlock_56 : decode cX7_mostWithBlock 56 = .ok (.iload_n 2, 1) := by decide +kernel
theorem dX7_mostWithBlock_57 : decode cX7_mostWithBlock 57 = .ok (.iconst 1, 1) := by decide +kernel
theorem dX7_mostWithBlock_58 : decode cX7_mostWithBlock 58 = .ok (.iload 4, 2) := by decide +kernel
theorem dX7_mostWithBlock_60 : decode cX7_mostWithBlock 60 = .ok (.ishl, 1) := by decide +kernel
theorem dX7_mostWithBlock_61 : decode cX7_mostWithBlock 61 = .ok (.iconst (-1), 1) := by decide +kernel
theorem dX7_mostWithBlock_62 : decode cX7_mostWithBlock 62 = .ok (.ixor, 1) := by decide +kernel
theorem dX7_mostWithBlock_63 : decode cX7_mostWithBlock 63 = .ok (.iand, 1) := by decide +kernel
theorem dX7_mostWithBlock_64 : decode cX7_mostWithBlock 64 = .ok (.iaload, 1) := by decide +kernel
theorem dX7_mostWithBlock_65 : decode cX7_mostWithBlock 65 = .ok (.iload 5, 2) := by decide +kernel
theorem dX7_mostWithBlock_67 : decode cX7_mostWithBlock 67 = .ok (.iadd, 1) := by decide +kernel
theorem dX7_mostWithBlock_68 : decode cX7_mostWithBlock 68 = .ok (.invokestatic 349, 3) := by decide +kernel
theorem dX7_mostWithBlock_71 : decode cX7_mostWithBlock 71 = .ok (.istore_n 3, 1) := by decide +kernel
theorem dX7_mostWithBlock_72 : decode cX7_mostWithBlock 72 = .ok (.iinc 4 1, 3) := by decide +kernel
theorem dX7_mostWithBlock_75 : decode cX7_mostWithBlock 75 = .ok (.goto (-70), 3) := by decide +kernel
theorem dX7_mostWithBlock_78 : decode cX7_mostWithBlock 78 = .ok (.iload_n 3, 1) := by decide +kernel
theorem dX7_mostWithBlock_79 : decode cX7_mostWithBlock 79 = .ok (.ireturn, 1) := by decide +kernel
theorem dX7_isBelow_0 : decode cX7_isBelow 0 = .ok (.iload_n 0, 1) := by decide +kernel
theorem dX7_isBelow_1 : decode cX7_isBelow 1 = .ok (.iload_n 1, 1) := by decide +kernel
theorem dX7_isBelow_2 : decode cX7_isBelow 2 = .ok (.iconst (-1), 1) := by decide +kernel
theorem dX7_isBelow_3 : decode cX7_isBelow 3 = .ok (.ixor, 1) := by decide +kernel
theorem dX7_isBelow_4 : decode cX7_isBelow 4 = .ok (.iand, 1) := by decide +kernel
theorem dX7_isBelow_5 : decode cX7_isBelow 5 = .ok (.ifCond .ne 7, 3) := by decide +kernel
theorem dX7_isBelow_8 : decode cX7_isBelow 8 = .ok (.iconst 1, 1) := by decide +kernel
theorem dX7_isBelow_9 : decode cX7_isBelow 9 = .ok (.goto 4, 3) := by decide +kernel
theorem dX7_isBelow_12 : decode cX7_isBelow 12 = .ok (.iconst 0, 1) := by decide +kernel
theorem dX7_isBelow_13 : decode cX7_isBelow 13 = .ok (.ireturn, 1) := by decide +kernel
theorem dX7_withBits_0 : decode cX7_withBits 0 = .ok (.iload_n 2, 1) := by decide +kernel
theorem dX7_withBits_1 : decode cX7_withBits 1 = .ok (.ifCond .eq 9, 3) := by decide +kernel
theorem dX7_withBits_4 : decode cX7_withBits 4 = .ok (.iload_n 0, 1) := by decide +kernel
theorem dX7_withBits_5 : decode cX7_withBits 5 = .ok (.iload_n 1, 1) := by decide +kernel
theorem dX7_withBits_6 : decode cX7_withBits 6 = .ok (.ior, 1) := by decide +kernel
theorem dX7_withBits_7 : decode cX7_withBits 7 = .ok (.goto 8, 3) := by decide +kernel
theorem dX7_withBits_10 : decode cX7_withBits 10 = .ok (.iload_n 0, 1) := by decide +kernel
theorem dX7_withBits_11 : decode cX7_withBits 11 = .ok (.iload_n 1, 1) := by decide +kernel
theorem dX7_withBits_12 : decode cX7_withBits 12 = .ok (.iconst (-1), 1) := by decide +kernel
theorem dX7_withBits_13 : decode cX7_withBits 13 = .ok (.ixor, 1) := by decide +kernel
theorem dX7_withBits_14 : decode cX7_withBits 14 = .ok (.iand, 1) := by decide +kernel
theorem dX7_withBits_15 : decode cX7_withBits 15 = .ok (.ireturn, 1) := by decide +kernel
theorem dX7_pairBit_0 : decode cX7_pairBit 0 = .ok (.iload_n 0, 1) := by decide +kernel
theorem dX7_pairBit_1 : decode cX7_pairBit 1 = .ok (.iload_n 1, 1) := by decide +kernel
theorem dX7_pairBit_2 : decode cX7_pairBit 2 = .ok (.if_icmp .ne 5, 3) := by decide +kernel
theorem dX7_pairBit_5 : decode cX7_pairBit 5 = .ok (.iconst 0, 1) := by decide +kernel
theorem dX7_pairBit_6 : decode cX7_pairBit 6 = .ok (.ireturn, 1) := by decide +kernel
theorem dX7_pairBit_7 : decode cX7_pairBit 7 = .ok (.iload_n 0, 1) := by decide +kernel
theorem dX7_pairBit_8 : decode cX7_pairBit 8 = .ok (.iload_n 1, 1) := by decide +kernel
theorem dX7_pairBit_9 : decode cX7_pairBit 9 = .ok (.if_icmp .ge 7, 3) := by decide +kernel
theorem dX7_pairBit_12 : decode cX7_pairBit 12 = .ok (.iload_n 0, 1) := by decide +kernel
theorem dX7_pairBit_13 : decode cX7_pairBit 13 = .ok (.goto 4, 3) := by decide +kernel
theorem dX7_pairBit_16 : decode cX7_pairBit 16 = .ok (.iload_n 1, 1) := by decide +kernel
theorem dX7_pairBit_17 : decode cX7_pairBit 17 = .ok (.istore_n 2, 1) := by decide +kernel
theorem dX7_pairBit_18 : decode cX7_pairBit 18 = .ok (.iload_n 0, 1) := by decide +kernel
theorem dX7_pairBit_19 : decode cX7_pairBit 19 = .ok (.iload_n 1, 1) := by decide +kernel
theorem dX7_pairBit_20 : decode cX7_pairBit 20 = .ok (.if_icmp .ge 7, 3) := by decide +kernel
theorem dX7_pairBit_23 : decode cX7_pairBit 23 = .ok (.iload_n 1, 1) := by decide +kernel
theorem dX7_pairBit_24 : decode cX7_pairBit 24 = .ok (.goto 4, 3) := by decide +kernel
theorem dX7_pairBit_27 : decode cX7_pairBit 27 = .ok (.iload_n 0, 1) := by decide +kernel
theorem dX7_pairBit_28 : decode cX7_pairBit 28 = .ok (.istore_n 3, 1) := by decide +kernel
theorem dX7_pairBit_29 : decode cX7_pairBit 29 = .ok (.iconst 1, 1) := by decide +kernel
theorem dX7_pairBit_30 : decode cX7_pairBit 30 = .ok (.iload_n 2, 1) := by decide +kernel
theorem dX7_pairBit_31 : decode cX7_pairBit 31 = .ok (.bipush 11, 2) := by decide +kernel
theorem dX7_pairBit_33 : decode cX7_pairBit 33 = .ok (.iload_n 2, 1) := by decide +kernel
theorem dX7_pairBit_34 : decode cX7_pairBit 34 = .ok (.isub, 1) := by decide +kernel
theorem dX7_pairBit_35 : decode cX7_pairBit 35 = .ok (.imul, 1) := by decide +kernel
theorem dX7_pairBit_36 : decode cX7_pairBit 36 = .ok (.iconst 2, 1) := by decide +kernel
theorem dX7_pairBit_37 : decode cX7_pairBit 37 = .ok (.idiv, 1) := by decide +kernel
theorem dX7_pairBit_38 : decode cX7_pairBit 38 = .ok (.iload_n 3, 1) := by decide +kernel
theorem dX7_pairBit_39 : decode cX7_pairBit 39 = .ok (.iadd, 1) := by decide +kernel
theorem dX7_pairBit_40 : decode cX7_pairBit 40 = .ok (.iload_n 2, 1) := by decide +kernel
theorem dX7_pairBit_41 : decode cX7_pairBit 41 = .ok (.isub, 1) := by decide +kernel
theorem dX7_pairBit_42 : decode cX7_pairBit 42 = .ok (.iconst 1, 1) := by decide +kernel
theorem dX7_pairBit_43 : decode cX7_pairBit 43 = .ok (.isub, 1) := by decide +kernel
theorem dX7_pairBit_44 : decode cX7_pairBit 44 = .ok (.ishl, 1) := by decide +kernel
theorem dX7_pairBit_45 : decode cX7_pairBit 45 = .ok (.ireturn, 1) := by decide +kernel
theorem dX7_pairsWith_0 : decode cX7_pairsWith 0 = .ok (.iconst 0, 1) := by decide +kernel
theorem dX7_pairsWith_1 : decode cX7_pairsWith 1 = .ok (.istore_n 2, 1) := by decide +kernel
theorem dX7_pairsWith_2 : decode cX7_pairsWith 2 = .ok (.iconst 0, 1) := by decide +kernel
theorem dX7_pairsWith_3 : decode cX7_pairsWith 3 = .ok (.istore_n 3, 1) := by decide +kernel
theorem dX7_pairsWith_4 : decode cX7_pairsWith 4 = .ok (.iload_n 3, 1) := by decide +kernel
theorem dX7_pairsWith_5 : decode cX7_pairsWith 5 = .ok (.bipush 6, 2) := by decide +kernel
theorem dX7_pairsWith_7 : decode cX7_pairsWith 7 = .ok (.if_icmp .ge 25, 3) := by decide +kernel
theorem dX7_pairsWith_10 : decode cX7_pairsWith 10 = .ok (.iload_n 0, 1) := by decide +kernel
theorem dX7_pairsWith_11 : decode cX7_pairsWith 11 = .ok (.iload_n 3, 1) := by decide +kernel
theorem dX7_pairsWith_12 : decode cX7_pairsWith 12 = .ok (.ishr, 1) := by decide +kernel
theorem dX7_pairsWith_13 : decode cX7_pairsWith 13 = .ok (.iconst 1, 1) := by decide +kernel
theorem dX7_pairsWith_14 : decode cX7_pairsWith 14 = .ok (.iand, 1) := by decide +kernel
theorem dX7_pairsWith_15 : decode cX7_pairsWith 15 = .ok (.ifCond .eq 11, 3) := by decide +kernel
theorem dX7_pairsWith_18 : decode cX7_pairsWith 18 = .ok (.iload_n 2, 1) := by decide +kernel
theorem dX7_pairsWith_19 : decode cX7_pairsWith 19 = .ok (.iload_n 1, 1) := by decide +kernel
theorem dX7_pairsWith_20 : decode cX7_pairsWith 20 = .ok (.iload_n 3, 1) := by decide +kernel
theorem dX7_pairsWith_21 : decode cX7_pairsWith 21 = .ok (.invokestatic 97, 3) := by decide +kernel
theorem dX7_pairsWith_24 : decode cX7_pairsWith 24 = .ok (.ior, 1) := by decide +kernel
theorem dX7_pairsWith_25 : decode cX7_pairsWith 25 = .ok (.istore_n 2, 1) := by decide +kernel
theorem dX7_pairsWith_26 : decode cX7_pairsWith 26 = .ok (.iinc 3 1, 3) := by decide +kernel
theorem dX7_pairsWith_29 : decode cX7_pairsWith 29 = .ok (.goto (-25), 3) := by decide +kernel
theorem dX7_pairsWith_32 : decode cX7_pairsWith 32 = .ok (.iload_n 2, 1) := by decide +kernel
theorem dX7_pairsWith_33 : decode cX7_pairsWith 33 = .ok (.ireturn, 1) := by decide +kernel
theorem dX7_allPairs_0 : decode cX7_allPairs 0 = .ok (.iconst 0, 1) := by decide +kernel
theorem dX7_allPairs_1 : decode cX7_allPairs 1 = .ok (.istore_n 1, 1) := by decide +kernel
theorem dX7_allPairs_2 : decode cX7_allPairs 2 = .ok (.iconst 0, 1) := by decide +kernel
theorem dX7_allPairs_3 : decode cX7_allPairs 3 = .ok (.istore_n 2, 1) := by decide +kernel
theorem dX7_allPairs_4 : decode cX7_allPairs 4 = .ok (.iload_n 2, 1) := by decide +kernel
theorem dX7_allPairs_5 : decode cX7_allPairs 5 = .ok (.bipush 15, 2) := by decide +kernel
theorem dX7_allPairs_7 : decode cX7_allPairs 7 = .ok (.if_icmp .ge 24, 3) := by decide +kernel
theorem dX7_allPairs_10 : decode cX7_allPairs 10 = .ok (.getstatic 340, 3) := by decide +kernel
theorem dX7_allPairs_13 : decode cX7_allPairs 13 = .ok (.iload_n 2, 1) := by decide +kernel
theorem dX7_allPairs_14 : decode cX7_allPairs 14 = .ok (.iaload, 1) := by decide +kernel
theorem dX7_allPairs_15 : decode cX7_allPairs 15 = .ok (.iload_n 0, 1) := by decide +kernel
theorem dX7_allPairs_16 : decode cX7_allPairs 16 = .ok (.if_icmp .ge 9, 3) := by decide +kernel
theorem dX7_allPairs_19 : decode cX7_allPairs 19 = .ok (.iload_n 1, 1) := by decide +kernel
theorem dX7_allPairs_20 : decode cX7_allPairs 20 = .ok (.iconst 1, 1) := by decide +kernel
theorem dX7_allPairs_21 : decode cX7_allPairs 21 = .ok (.iload_n 2, 1) := by decide +kernel
theorem dX7_allPairs_22 : decode cX7_allPairs 22 = .ok (.ishl, 1) := by decide +kernel
theorem dX7_allPairs_23 : decode cX7_allPairs 23 = .ok (.ior, 1) := by decide +kernel
theorem dX7_allPairs_24 : decode cX7_allPairs 24 = .ok (.istore_n 1, 1) := by decide +kernel
theorem dX7_allPairs_25 : decode cX7_allPairs 25 = .ok (.iinc 2 1, 3) := by decide +kernel
theorem dX7_allPairs_28 : decode cX7_allPairs 28 = .ok (.goto (-24), 3) := by decide +kernel
theorem dX7_allPairs_31 : decode cX7_allPairs 31 = .ok (.iload_n 1, 1) := by decide +kernel
theorem dX7_allPairs_32 : decode cX7_allPairs 32 = .ok (.ireturn, 1) := by decide +kernel
theorem dX7_firstPair_0 : decode cX7_firstPair 0 = .ok (.iconst 0, 1) := by decide +kernel
theorem dX7_firstPair_1 : decode cX7_firstPair 1 = .ok (.istore_n 1, 1) := by decide +kernel
theorem dX7_firstPair_2 : decode cX7_firstPair 2 = .ok (.iload_n 1, 1) := by decide +kernel
theorem dX7_firstPair_3 : decode cX7_firstPair 3 = .ok (.bipush 15, 2) := by decide +kernel
theorem dX7_firstPair_5 : decode cX7_firstPair 5 = .ok (.if_icmp .ge 32, 3) := by decide +kernel
theorem dX7_firstPair_8 : decode cX7_firstPair 8 = .ok (.iload_n 0, 1) := by decide +kernel
theorem dX7_firstPair_9 : decode cX7_firstPair 9 = .ok (.iload_n 1, 1) := by decide +kernel
theorem dX7_firstPair_10 : decode cX7_firstPair 10 = .ok (.ishr, 1) := by decide +kernel
theorem dX7_firstPair_11 : decode cX7_firstPair 11 = .ok (.iconst 1, 1) := by decide +kernel
theorem dX7_firstPair_12 : decode cX7_firstPair 12 = .ok (.iand, 1) := by decide +kernel
theorem dX7_firstPair_13 : decode cX7_firstPair 13 = .ok (.ifCond .eq 18, 3) := by decide +kernel
theorem dX7_firstPair_16 : decode cX7_firstPair 16 = .ok (.bipush 10, 2) := by decide +kernel
theorem dX7_firstPair_18 : decode cX7_firstPair 18 = .ok (.getstatic 337, 3) := by decide +kernel
theorem dX7_firstPair_21 : decode cX7_firstPair 21 = .ok (.iload_n 1, 1) := by decide +kernel
theorem dX7_firstPair_22 : decode cX7_firstPair 22 = .ok (.iaload, 1) := by decide +kernel
theorem dX7_firstPair_23 : decode cX7_firstPair 23 = .ok (.imul, 1) := by decide +kernel
theorem dX7_firstPair_24 : decode cX7_firstPair 24 = .ok (.getstatic 340, 3) := by decide +kernel
theorem dX7_firstPair_27 : decode cX7_firstPair 27 = .ok (.iload_n 1, 1) := by decide +kernel
theorem dX7_firstPair_28 : decode cX7_firstPair 28 = .ok (.iaload, 1) := by decide +kernel
theorem dX7_firstPair_29 : decode cX7_firstPair 29 = .ok (.iadd, 1) := by decide +kernel
theorem dX7_firstPair_30 : decode cX7_firstPair 30 = .ok (.ireturn, 1) := by decide +kernel
theorem dX7_firstPair_31 : decode cX7_firstPair 31 = .ok (.iinc 1 1, 3) := by decide +kernel
theorem dX7_firstPair_34 : decode cX7_firstPair 34 = .ok (.goto (-32), 3) := by decide +kernel
theorem dX7_firstPair_37 : decode cX7_firstPair 37 = .ok (.bipush (-9), 2) := by decide +kernel
theorem dX7_firstPair_39 : decode cX7_firstPair 39 = .ok (.ireturn, 1) := by decide +kernel
theorem dX7_complementOf_0 : decode cX7_complementOf 0 = .ok (.iconst 0, 1) := by decide +kernel
theorem dX7_complementOf_1 : decode cX7_complementOf 1 = .ok (.istore_n 2, 1) := by decide +kernel
theorem dX7_complementOf_2 : decode cX7_complementOf 2 = .ok (.iconst 0, 1) := by decide +kernel
theorem dX7_complementOf_3 : decode cX7_complementOf 3 = .ok (.istore_n 3, 1) := by decide +kernel
theorem dX7_complementOf_4 : decode cX7_complementOf 4 = .ok (.iload_n 3, 1) := by decide +kernel
theorem dX7_complementOf_5 : decode cX7_complementOf 5 = .ok (.bipush 15, 2) := by decide +kernel
theorem dX7_complementOf_7 : decode cX7_complementOf 7 = .ok (.if_icmp .ge 41, 3) := by decide +kernel
theorem dX7_complementOf_10 : decode cX7_complementOf 10 = .ok (.getstatic 340, 3) := by decide +kernel
theorem dX7_complementOf_13 : decode cX7_complementOf 13 = .ok (.iload_n 3, 1) := by decide +kernel
theorem dX7_complementOf_14 : decode cX7_complementOf 14 = .ok (.iaload, 1) := by decide +kernel
theorem dX7_complementOf_15 : decode cX7_complementOf 15 = .ok (.iload_n 1, 1) := by decide +kernel
theorem dX7_complementOf_16 : decode cX7_complementOf 16 = .ok (.if_icmp .ge 26, 3) := by decide +kernel
theorem dX7_complementOf_19 : decode cX7_complementOf 19 = .ok (.iload_n 0, 1) := by decide +kernel
theorem dX7_complementOf_20 : decode cX7_complementOf 20 = .ok (.getstatic 337, 3) := by decide +kernel
theorem dX7_complementOf_23 : decode cX7_complementOf 23 = .ok (.iload_n 3, 1) := by decide +kernel
theorem dX7_complementOf_24 : decode cX7_complementOf 24 = .ok (.iaload, 1) := by decide +kernel
theorem dX7_complementOf_25 : decode cX7_complementOf 25 = .ok (.getstatic 340, 3) := by decide +kernel
theorem dX7_complementOf_28 : decode cX7_complementOf 28 = .ok (.iload_n 3, 1) := by decide +kernel
theorem dX7_complementOf_29 : decode cX7_complementOf 29 = .ok (.iaload, 1) := by decide +kernel
theorem dX7_complementOf_30 : decode cX7_complementOf 30 = .ok (.invokestatic 354, 3) := by decide +kernel
theorem dX7_complementOf_33 : decode cX7_complementOf 33 = .ok (.ifCond .ne 9, 3) := by decide +kernel
theorem dX7_complementOf_36 : decode cX7_complementOf 36 = .ok (.iload_n 2, 1) := by decide +kernel
theorem dX7_complementOf_37 : decode cX7_complementOf 37 = .ok (.iconst 1, 1) := by decide +kernel
theorem dX7_complementOf_38 : decode cX7_complementOf 38 = .ok (.iload_n 3, 1) := by decide +kernel
theorem dX7_complementOf_39 : decode cX7_complementOf 39 = .ok (.ishl, 1) := by decide +kernel
theorem dX7_complementOf_40 : decode cX7_complementOf 40 = .ok (.ior, 1) := by decide +kernel
theorem dX7_complementOf_41 : decode cX7_complementOf 41 = .ok (.istore_n 2, 1) := by decide +kernel
theorem dX7_complementOf_42 : decode cX7_complementOf 42 = .ok (.iinc 3 1, 3) := by decide +kernel
theorem dX7_complementOf_45 : decode cX7_complementOf 45 = .ok (.goto (-41), 3) := by decide +kernel
theorem dX7_complementOf_48 : decode cX7_complementOf 48 = .ok (.iload_n 2, 1) := by decide +kernel
theorem dX7_complementOf_49 : decode cX7_complementOf 49 = .ok (.ireturn, 1) := by decide +kernel
theorem dX7_isSplit_0 : decode cX7_isSplit 0 = .ok (.iconst 0, 1) := by decide +kernel
theorem dX7_isSplit_1 : decode cX7_isSplit 1 = .ok (.istore_n 3, 1) := by decide +kernel
theorem dX7_isSplit_2 : decode cX7_isSplit 2 = .ok (.iload_n 3, 1) := by decide +kernel
theorem dX7_isSplit_3 : decode cX7_isSplit 3 = .ok (.bipush 15, 2) := by decide +kernel
theorem dX7_isSplit_5 : decode cX7_isSplit 5 = .ok (.if_icmp .ge 76, 3) := by decide +kernel
theorem dX7_isSplit_8 : decode cX7_isSplit 8 = .ok (.iload_n 1, 1) := by decide +kernel
theorem dX7_isSplit_9 : decode cX7_isSplit 9 = .ok (.getstatic 337, 3) := by decide +kernel
theorem dX7_isSplit_12 : decode cX7_isSplit 12 = .ok (.iload_n 3, 1) := by decide +kernel
theorem dX7_isSplit_13 : decode cX7_isSplit 13 = .ok (.iaload, 1) := by decide +kernel
theorem dX7_isSplit_14 : decode cX7_isSplit 14 = .ok (.if_icmp .ge 16, 3) := by decide +kernel
theorem dX7_isSplit_17 : decode cX7_isSplit 17 = .ok (.getstatic 337, 3) := by decide +kernel
theorem dX7_isSplit_20 : decode cX7_isSplit 20 = .ok (.iload_n 3, 1) := by decide +kernel
theorem dX7_isSplit_21 : decode cX7_isSplit 21 = .ok (.iaload, 1) := by decide +kernel
theorem dX7_isSplit_22 : decode cX7_isSplit 22 = .ok (.iload_n 2, 1) := by decide +kernel
theorem dX7_isSplit_23 : decode cX7_isSplit 23 = .ok (.if_icmp .gt 7, 3) := by decide +kernel
theorem dX7_isSplit_26 : decode cX7_isSplit 26 = .ok (.iconst 1, 1) := by decide +kernel
theorem dX7_isSplit_27 : decode cX7_isSplit 27 = .ok (.goto 4, 3) := by decide +kernel
theorem dX7_isSplit_30 : decode cX7_isSplit 30 = .ok (.iconst 0, 1) := by decide +kernel
theorem dX7_isSplit_31 : decode cX7_isSplit 31 = .ok (.istore 4, 2) := by decide +kernel
theorem dX7_isSplit_33 : decode cX7_isSplit 33 = .ok (.iload_n 1, 1) := by decide +kernel
theorem dX7_isSplit_34 : decode cX7_isSplit 34 = .ok (.getstatic 340, 3) := by decide +kernel
theorem dX7_isSplit_37 : decode cX7_isSplit 37 = .ok (.iload_n 3, 1) := by decide +kernel
theorem dX7_isSplit_38 : decode cX7_isSplit 38 = .ok (.iaload, 1) := by decide +kernel
theorem dX7_isSplit_39 : decode cX7_isSplit 39 = .ok (.if_icmp .ge 16, 3) := by decide +kernel
theorem dX7_isSplit_42 : decode cX7_isSplit 42 = .ok (.getstatic 340, 3) := by decide +kernel
theorem dX7_isSplit_45 : decode cX7_isSplit 45 = .ok (.iload_n 3, 1) := by decide +kernel
theorem dX7_isSplit_46 : decode cX7_isSplit 46 = .ok (.iaload, 1) := by decide +kernel
theorem dX7_isSplit_47 : decode cX7_isSplit 47 = .ok (.iload_n 2, 1) := by decide +kernel
theorem dX7_isSplit_48 : decode cX7_isSplit 48 = .ok (.if_icmp .gt 7, 3) := by decide +kernel
theorem dX7_isSplit_51 : decode cX7_isSplit 51 = .ok (.iconst 1, 1) := by decide +kernel
theorem dX7_isSplit_52 : decode cX7_isSplit 52 = .ok (.goto 4, 3) := by decide +kernel
theorem dX7_isSplit_55 : decode cX7_isSplit 55 = .ok (.iconst 0, 1) := by decide +kernel
theorem dX7_isSplit_56 : decode cX7_isSplit 56 = .ok (.istore 5, 2) := by decide +kernel
theorem dX7_isSplit_58 : decode cX7_isSplit 58 = .ok (.iload_n 0, 1) := by decide +kernel
theorem dX7_isSplit_59 : decode cX7_isSplit 59 = .ok (.iload_n 3, 1) := by decide +kernel
theorem dX7_isSplit_60 : decode cX7_isSplit 60 = .ok (.ishr, 1) := by decide +kernel
theorem dX7_isSplit_61 : decode cX7_isSplit 61 = .ok (.iconst 1, 1) := by decide +kernel
theorem dX7_isSplit_62 : decode cX7_isSplit 62 = .ok (.iand, 1) := by decide +kernel
theorem dX7_isSplit_63 : decode cX7_isSplit 63 = .ok (.ifCond .eq 12, 3) := by decide +kernel
theorem dX7_isSplit_66 : decode cX7_isSplit 66 = .ok (.iload 4, 2) := by decide +kernel
theorem dX7_isSplit_68 : decode cX7_isSplit 68 = .ok (.iload 5, 2) := by decide +kernel
theorem dX7_isSplit_70 : decode cX7_isSplit 70 = .ok (.if_icmp .eq 5, 3) := by decide +kernel
theorem dX7_isSplit_73 : decode cX7_isSplit 73 = .ok (.iconst 1, 1) := by decide +kernel
theorem dX7_isSplit_74 : decode cX7_isSplit 74 = .ok (.ireturn, 1) := by decide +kernel
theorem dX7_isSplit_75 : decode cX7_isSplit 75 = .ok (.iinc 3 1, 3) := by decide +kernel
theorem dX7_isSplit_78 : decode cX7_isSplit 78 = .ok (.goto (-76), 3) := by decide +kernel
theorem dX7_isSplit_81 : decode cX7_isSplit 81 = .ok (.iconst 0, 1) := by decide +kernel
theorem dX7_isSplit_82 : decode cX7_isSplit 82 = .ok (.ireturn, 1) := by decide +kernel
theorem dX7_power_0 : decode cX7_power 0 = .ok (.lconst 1, 1) := by decide +kernel
theorem dX7_power_1 : decode cX7_power 1 = .ok (.lstore_n 2, 1) := by decide +kernel
theorem dX7_power_2 : decode cX7_power 2 = .ok (.iconst 0, 1) := by decide +kernel
theorem dX7_power_3 : decode cX7_power 3 = .ok (.istore 4, 2) := by decide +kernel
theorem dX7_power_5 : decode cX7_power 5 = .ok (.iload 4, 2) := by decide +kernel
theorem dX7_power_7 : decode cX7_power 7 = .ok (.iload_n 1, 1) := by decide +kernel
theorem dX7_power_8 : decode cX7_power 8 = .ok (.if_icmp .ge 14, 3) := by decide +kernel
theorem dX7_power_11 : decode cX7_power 11 = .ok (.lload_n 2, 1) := by decide +kernel
theorem dX7_power_12 : decode cX7_power 12 = .ok (.iload_n 0, 1) := by decide +kernel
theorem dX7_power_13 : decode cX7_power 13 = .ok (.i2l, 1) := by decide +kernel
theorem dX7_power_14 : decode cX7_power 14 = .ok (.lmul, 1) := by decide +kernel
theorem dX7_power_15 : decode cX7_power 15 = .ok (.lstore_n 2, 1) := by decide +kernel
theorem dX7_power_16 : decode cX7_power 16 = .ok (.iinc 4 1, 3) := by decide +kernel
theorem dX7_power_19 : decode cX7_power 19 = .ok (.goto (-14), 3) := by decide +kernel
theorem dX7_power_22 : decode cX7_power 22 = .ok (.lload_n 2, 1) := by decide +kernel
theorem dX7_power_23 : decode cX7_power 23 = .ok (.lreturn, 1) := by decide +kernel
theorem dJ6_bitCount_0f7a4_0 : decode cJ6_bitCount_0f7a4 0 = .ok (.iload_n 0, 1) := by decide +kernel
theorem dJ6_bitCount_0f7a4_1 : decode cJ6_bitCount_0f7a4 1 = .ok (.iload_n 0, 1) := by decide +kernel
theorem dJ6_bitCount_0f7a4_2 : decode cJ6_bitCount_0f7a4 2 = .ok (.iconst 1, 1) := by decide +kernel
theorem dJ6_bitCount_0f7a4_3 : decode cJ6_bitCount_0f7a4 3 = .ok (.iushr, 1) := by decide +kernel
theorem dJ6_bitCount_0f7a4_4 : decode cJ6_bitCount_0f7a4 4 = .ok (.ldc_w 265, 3) := by decide +kernel
theorem dJ6_bitCount_0f7a4_7 : decode cJ6_bitCount_0f7a4 7 = .ok (.iand, 1) := by decide +kernel
theorem dJ6_bitCount_0f7a4_8 : decode cJ6_bitCount_0f7a4 8 = .ok (.isub, 1) := by decide +kernel
theorem dJ6_bitCount_0f7a4_9 : decode cJ6_bitCount_0f7a4 9 = .ok (.istore_n 0, 1) := by decide +kernel
theorem dJ6_bitCount_0f7a4_10 : decode cJ6_bitCount_0f7a4 10 = .ok (.iload_n 0, 1) := by decide +kernel
theorem dJ6_bitCount_0f7a4_11 : decode cJ6_bitCount_0f7a4 11 = .ok (.ldc_w 266, 3) := by decide +kernel
theorem dJ6_bitCount_0f7a4_14 : decode cJ6_bitCount_0f7a4 14 = .ok (.iand, 1) := by decide +kernel
theorem dJ6_bitCount_0f7a4_15 : decode cJ6_bitCount_0f7a4 15 = .ok (.iload_n 0, 1) := by decide +kernel
theorem dJ6_bitCount_0f7a4_16 : decode cJ6_bitCount_0f7a4 16 = .ok (.iconst 2, 1) := by decide +kernel
theorem dJ6_bitCount_0f7a4_17 : decode cJ6_bitCount_0f7a4 17 = .ok (.iushr, 1) := by decide +kernel
theorem dJ6_bitCount_0f7a4_18 : decode cJ6_bitCount_0f7a4 18 = .ok (.ldc_w 266, 3) := by decide +kernel
theorem dJ6_bitCount_0f7a4_21 : decode cJ6_bitCount_0f7a4 21 = .ok (.iand, 1) := by decide +kernel
theorem dJ6_bitCount_0f7a4_22 : decode cJ6_bitCount_0f7a4 22 = .ok (.iadd, 1) := by decide +kernel
theorem dJ6_bitCount_0f7a4_23 : decode cJ6_bitCount_0f7a4 23 = .ok (.istore_n 0, 1) := by decide +kernel
theorem dJ6_bitCount_0f7a4_24 : decode cJ6_bitCount_0f7a4 24 = .ok (.iload_n 0, 1) := by decide +kernel
theorem dJ6_bitCount_0f7a4_25 : decode cJ6_bitCount_0f7a4 25 = .ok (.iload_n 0, 1) := by decide +kernel
theorem dJ6_bitCount_0f7a4_26 : decode cJ6_bitCount_0f7a4 26 = .ok (.iconst 4, 1) := by decide +kernel
theorem dJ6_bitCount_0f7a4_27 : decode cJ6_bitCount_0f7a4 27 = .ok (.iushr, 1) := by decide +kernel
theorem dJ6_bitCount_0f7a4_28 : decode cJ6_bitCount_0f7a4 28 = .ok (.iadd, 1) := by decide +kernel
theorem dJ6_bitCount_0f7a4_29 : decode cJ6_bitCount_0f7a4 29 = .ok (.ldc_w 267, 3) := by decide +kernel
theorem dJ6_bitCount_0f7a4_32 : decode cJ6_bitCount_0f7a4 32 = .ok (.iand, 1) := by decide +kernel
theorem dJ6_bitCount_0f7a4_33 : decode cJ6_bitCount_0f7a4 33 = .ok (.istore_n 0, 1) := by decide +kernel
theorem dJ6_bitCount_0f7a4_34 : decode cJ6_bitCount_0f7a4 34 = .ok (.iload_n 0, 1) := by decide +kernel
theorem dJ6_bitCount_0f7a4_35 : decode cJ6_bitCount_0f7a4 35 = .ok (.iload_n 0, 1) := by decide +kernel
theorem dJ6_bitCount_0f7a4_36 : decode cJ6_bitCount_0f7a4 36 = .ok (.bipush 8, 2) := by decide +kernel
theorem dJ6_bitCount_0f7a4_38 : decode cJ6_bitCount_0f7a4 38 = .ok (.iushr, 1) := by decide +kernel
theorem dJ6_bitCount_0f7a4_39 : decode cJ6_bitCount_0f7a4 39 = .ok (.iadd, 1) := by decide +kernel
theorem dJ6_bitCount_0f7a4_40 : decode cJ6_bitCount_0f7a4 40 = .ok (.istore_n 0, 1) := by decide +kernel
theorem dJ6_bitCount_0f7a4_41 : decode cJ6_bitCount_0f7a4 41 = .ok (.iload_n 0, 1) := by decide +kernel
theorem dJ6_bitCount_0f7a4_42 : decode cJ6_bitCount_0f7a4 42 = .ok (.iload_n 0, 1) := by decide +kernel
theorem dJ6_bitCount_0f7a4_43 : decode cJ6_bitCount_0f7a4 43 = .ok (.bipush 16, 2) := by decide +kernel
theorem dJ6_bitCount_0f7a4_45 : decode cJ6_bitCount_0f7a4 45 = .ok (.iushr, 1) := by decide +kernel
theorem dJ6_bitCount_0f7a4_46 : decode cJ6_bitCount_0f7a4 46 = .ok (.iadd, 1) := by decide +kernel
theorem dJ6_bitCount_0f7a4_47 : decode cJ6_bitCount_0f7a4 47 = .ok (.istore_n 0, 1) := by decide +kernel
theorem dJ6_bitCount_0f7a4_48 : decode cJ6_bitCount_0f7a4 48 = .ok (.iload_n 0, 1) := by decide +kernel
theorem dJ6_bitCount_0f7a4_49 : decode cJ6_bitCount_0f7a4 49 = .ok (.bipush 63, 2) := by decide +kernel
theorem dJ6_bitCount_0f7a4_51 : decode cJ6_bitCount_0f7a4 51 = .ok (.iand, 1) := by decide +kernel
theorem dJ6_bitCount_0f7a4_52 : decode cJ6_bitCount_0f7a4 52 = .ok (.ireturn, 1) := by decide +kernel
theorem dJ9_max_7cf53_0 : decode cJ9_max_7cf53 0 = .ok (.iload_n 0, 1) := by decide +kernel
theorem dJ9_max_7cf53_1 : decode cJ9_max_7cf53 1 = .ok (.iload_n 1, 1) := by decide +kernel
theorem dJ9_max_7cf53_2 : decode cJ9_max_7cf53 2 = .ok (.if_icmp .lt 7, 3) := by decide +kernel
theorem dJ9_max_7cf53_5 : decode cJ9_max_7cf53 5 = .ok (.iload_n 0, 1) := by decide +kernel
theorem dJ9_max_7cf53_6 : decode cJ9_max_7cf53 6 = .ok (.goto 4, 3) := by decide +kernel
theorem dJ9_max_7cf53_9 : decode cJ9_max_7cf53 9 = .ok (.iload_n 1, 1) := by decide +kernel
theorem dJ9_max_7cf53_10 : decode cJ9_max_7cf53 10 = .ok (.ireturn, 1) := by decide +kernel
theorem dJ9_max_f86c9_0 : decode cJ9_max_f86c9 0 = .ok (.lload_n 0, 1) := by decide +kernel
theorem dJ9_max_f86c9_1 : decode cJ9_max_f86c9 1 = .ok (.lload_n 2, 1) := by decide +kernel
theorem dJ9_max_f86c9_2 : decode cJ9_max_f86c9 2 = .ok (.lcmp, 1) := by decide +kernel
theorem dJ9_max_f86c9_3 : decode cJ9_max_f86c9 3 = .ok (.ifCond .lt 7, 3) := by decide +kernel
theorem dJ9_max_f86c9_6 : decode cJ9_max_f86c9 6 = .ok (.lload_n 0, 1) := by decide +kernel
theorem dJ9_max_f86c9_7 : decode cJ9_max_f86c9 7 = .ok (.goto 4, 3) := by decide +kernel
theorem dJ9_max_f86c9_10 : decode cJ9_max_f86c9 10 = .ok (.lload_n 2, 1) := by decide +kernel
theorem dJ9_max_f86c9_11 : decode cJ9_max_f86c9 11 = .ok (.lreturn, 1) := by decide +kernel
theorem dJ9_min_7cf53_0 : decode cJ9_min_7cf53 0 = .ok (.iload_n 0, 1) := by decide +kernel
theorem dJ9_min_7cf53_1 : decode cJ9_min_7cf53 1 = .ok (.iload_n 1, 1) := by decide +kernel
theorem dJ9_min_7cf53_2 : decode cJ9_min_7cf53 2 = .ok (.if_icmp .gt 7, 3) := by decide +kernel
theorem dJ9_min_7cf53_5 : decode cJ9_min_7cf53 5 = .ok (.iload_n 0, 1) := by decide +kernel
theorem dJ9_min_7cf53_6 : decode cJ9_min_7cf53 6 = .ok (.goto 4, 3) := by decide +kernel
theorem dJ9_min_7cf53_9 : decode cJ9_min_7cf53 9 = .ok (.iload_n 1, 1) := by decide +kernel
theorem dJ9_min_7cf53_10 : decode cJ9_min_7cf53 10 = .ok (.ireturn, 1) := by decide +kernel
end
section
theorem dX8_init_0 : decode cX8_init 0 = .ok (.aload_n 0, 1) := by decide +kernel
theorem dX8_init_1 : decode cX8_init 1 = .ok (.invokespecial 1, 3) := by decide +kernel
theorem dX8_init_4 : decode cX8_init 4 = .ok (.aload_n 0, 1) := by decide +kernel
theorem dX8_init_5 : decode cX8_init 5 = .ok (.sipush 154, 3) := by decide +kernel
theorem dX8_init_8 : decode cX8_init 8 = .ok (.newarray .int, 2) := by decide +kernel
theorem dX8_init_10 : decode cX8_init 10 = .ok (.putfield 7, 3) := by decide +kernel
theorem dX8_init_13 : decode cX8_init 13 = .ok (.aload_n 0, 1) := by decide +kernel
theorem dX8_init_14 : decode cX8_init 14 = .ok (.bipush 20, 2) := by decide +kernel
theorem dX8_init_16 : decode cX8_init 16 = .ok (.newarray .int, 2) := by decide +kernel
theorem dX8_init_18 : decode cX8_init 18 = .ok (.putfield 13, 3) := by decide +kernel
theorem dX8_init_21 : decode cX8_init 21 = .ok (.aload_n 0, 1) := by decide +kernel
theorem dX8_init_22 : decode cX8_init 22 = .ok (.sipush 1218, 3) := by decide +kernel
theorem dX8_init_25 : decode cX8_init 25 = .ok (.newarray .int, 2) := by decide +kernel
theorem dX8_init_27 : decode cX8_init 27 = .ok (.putfield 16, 3) := by decide +kernel
theorem dX8_init_30 : decode cX8_init 30 = .ok (.aload_n 0, 1) := by decide +kernel
theorem dX8_init_31 : decode cX8_init 31 = .ok (.sipush 203, 3) := by decide +kernel
theorem dX8_init_34 : decode cX8_init 34 = .ok (.newarray .int, 2) := by decide +kernel
theorem dX8_init_36 : decode cX8_init 36 = .ok (.putfield 19, 3) := by decide +kernel
theorem dX8_init_39 : decode cX8_init 39 = .ok (.aload_n 0, 1) := by decide +kernel
theorem dX8_init_40 : decode cX8_init 40 = .ok (.sipush 203, 3) := by decide +kernel
theorem dX8_init_43 : decode cX8_init 43 = .ok (.newarray .int, 2) := by decide +kernel
theorem dX8_init_45 : decode cX8_init 45 = .ok (.putfield 22, 3) := by decide +kernel
theorem dX8_init_48 : decode cX8_init 48 = .ok (.aload_n 0, 1) := by decide +kernel
theorem dX8_init_49 : decode cX8_init 49 = .ok (.bipush 6, 2) := by decide +kernel
theorem dX8_init_51 : decode cX8_init 51 = .ok (.newarray .int, 2) := by decide +kernel
theorem dX8_init_53 : decode cX8_init 53 = .ok (.putfield 25, 3) := by decide +kernel
theorem dX8_init_56 : decode cX8_init 56 = .ok (.aload_n 0, 1) := by decide +kernel
theorem dX8_init_57 : decode cX8_init 57 = .ok (.sipush 203, 3) := by decide +kernel
theorem dX8_init_60 : decode cX8_init 60 = .ok (.newarray .long, 2) := by decide +kernel
theorem dX8_init_62 : decode cX8_init 62 = .ok (.putfield 28, 3) := by decide +kernel
theorem dX8_init_65 : decode cX8_init 65 = .ok (.aload_n 0, 1) := by decide +kernel
theorem dX8_init_66 : decode cX8_init 66 = .ok (.sipush 203, 3) := by decide +kernel
theorem dX8_init_69 : decode cX8_init 69 = .ok (.newarray .long, 2) := by decide +kernel
theorem dX8_init_71 : decode cX8_init 71 = .ok (.putfield 32, 3) := by decide +kernel
theorem dX8_init_74 : decode cX8_init 74 = .ok (.aload_n 0, 1) := by decide +kernel
theorem dX8_init_75 : decode cX8_init 75 = .ok (.bipush 64, 2) := by decide +kernel
theorem dX8_init_77 : decode cX8_init 77 = .ok (.newarray .int, 2) := by decide +kernel
theorem dX8_init_79 : decode cX8_init 79 = .ok (.putfield 35, 3) := by decide +kernel
theorem dX8_init_82 : decode cX8_init 82 = .ok (.aload_n 0, 1) := by decide +kernel
theorem dX8_init_83 : decode cX8_init 83 = .ok (.iconst 5, 1) := by decide +kernel
theorem dX8_init_84 : decode cX8_init 84 = .ok (.invokevirtual 38, 3) := by decide +kernel
theorem dX8_init_87 : decode cX8_init 87 = .ok (.return_, 1) := by decide +kernel
theorem dX8_in_0 : decode cX8_in 0 = .ok (.iload_n 0, 1) := by decide +kernel
theorem dX8_in_1 : decode cX8_in 1 = .ok (.iload_n 1, 1) := by decide +kernel
theorem dX8_in_2 : decode cX8_in 2 = .ok (.if_icmp .lt 12, 3) := by decide +kernel
theorem dX8_in_5 : decode cX8_in 5 = .ok (.iload_n 0, 1) := by decide +kernel
theorem dX8_in_6 : decode cX8_in 6 = .ok (.iload_n 2, 1) := by decide +kernel
theorem dX8_in_7 : decode cX8_in 7 = .ok (.if_icmp .gt 7, 3) := by decide +kernel
theorem dX8_in_10 : decode cX8_in 10 = .ok (.iconst 1, 1) := by decide +kernel
theorem dX8_in_11 : decode cX8_in 11 = .ok (.goto 4, 3) := by decide +kernel
theorem dX8_in_14 : decode cX8_in 14 = .ok (.iconst 0, 1) := by decide +kernel
theorem dX8_in_15 : decode cX8_in 15 = .ok (.ireturn, 1) := by decide +kernel
theorem dX8_starts_0 : decode cX8_starts 0 = .ok (.aload_n 0, 1) := by decide +kernel
theorem dX8_starts_1 : decode cX8_starts 1 = .ok (.getfield 7, 3) := by decide +kernel
theorem dX8_starts_4 : decode cX8_starts 4 = .ok (.iconst 0, 1) := by decide +kernel
theorem dX8_starts_5 : decode cX8_starts 5 = .ok (.iload_n 1, 1) := by decide +kernel
theorem dX8_starts_6 : decode cX8_starts 6 = .ok (.iastore, 1) := by decide +kernel
theorem dX8_starts_7 : decode cX8_starts 7 = .ok (.aload_n 0, 1) := by decide +kernel
theorem dX8_starts_8 : decode cX8_starts 8 = .ok (.getfield 7, 3) := by decide +kernel
theorem dX8_starts_11 : decode cX8_starts 11 = .ok (.iconst 1, 1) := by decide +kernel
theorem dX8_starts_12 : decode cX8_starts 12 = .ok (.bipush 126, 2) := by decide +kernel
theorem dX8_starts_14 : decode cX8_starts 14 = .ok (.iastore, 1) := by decide +kernel
theorem dX8_starts_15 : decode cX8_starts 15 = .ok (.aload_n 0, 1) := by decide +kernel
theorem dX8_starts_16 : decode cX8_starts 16 = .ok (.getfield 7, 3) := by decide +kernel
theorem dX8_starts_19 : decode cX8_starts 19 = .ok (.iconst 2, 1) := by decide +kernel
theorem dX8_starts_20 : decode cX8_starts 20 = .ok (.bipush 126, 2) := by decide +kernel
theorem dX8_starts_22 : decode cX8_starts 22 = .ok (.iastore, 1) := by decide +kernel
theorem dX8_starts_23 : decode cX8_starts 23 = .ok (.aload_n 0, 1) := by decide +kernel
theorem dX8_starts_24 : decode cX8_starts 24 = .ok (.getfield 7, 3) := by decide +kernel
theorem dX8_starts_27 : decode cX8_starts 27 = .ok (.iconst 3, 1) := by decide +kernel
theorem dX8_starts_28 : decode cX8_starts 28 = .ok (.iconst 0, 1) := by decide +kernel
theorem dX8_starts_29 : decode cX8_starts 29 = .ok (.iastore, 1) := by decide +kernel
theorem dX8_starts_30 : decode cX8_starts 30 = .ok (.aload_n 0, 1) := by decide +kernel
theorem dX8_starts_31 : decode cX8_starts 31 = .ok (.getfield 7, 3) := by decide +kernel
theorem dX8_starts_34 : decode cX8_starts 34 = .ok (.iconst 4, 1) := by decide +kernel
theorem dX8_starts_35 : decode cX8_starts 35 = .ok (.iconst 0, 1) := by decide +kernel
theorem dX8_starts_36 : decode cX8_starts 36 = .ok (.iastore, 1) := by decide +kernel
theorem dX8_starts_37 : decode cX8_starts 37 = .ok (.aload_n 0, 1) := by decide +kernel
theorem dX8_starts_38 : decode cX8_starts 38 = .ok (.getfield 7, 3) := by decide +kernel
theorem dX8_starts_41 : decode cX8_starts 41 = .ok (.iconst 5, 1) := by decide +kernel
theorem dX8_starts_42 : decode cX8_starts 42 = .ok (.iconst 0, 1) := by decide +kernel
theorem dX8_starts_43 : decode cX8_starts 43 = .ok (.iastore, 1) := by decide +kernel
theorem dX8_starts_44 : decode cX8_starts 44 = .ok (.iconst 0, 1) := by decide +kernel
theorem dX8_starts_45 : decode cX8_starts 45 = .ok (.istore_n 2, 1) := by decide +kernel
theorem dX8_starts_46 : decode cX8_starts 46 = .ok (.iload_n 2, 1) := by decide +kernel
theorem dX8_starts_47 : decode cX8_starts 47 = .ok (.bipush 8, 2) := by decide +kernel
theorem dX8_starts_49 : decode cX8_starts 49 = .ok (.if_icmp .ge 20, 3) := by decide +kernel
theorem dX8_starts_52 : decode cX8_starts 52 = .ok (.aload_n 0, 1) := by decide +kernel
theorem dX8_starts_53 : decode cX8_starts 53 = .ok (.getfield 7, 3) := by decide +kernel
theorem dX8_starts_56 : decode cX8_starts 56 = .ok (.bipush 6, 2) := by decide +kernel
theorem dX8_starts_58 : decode cX8_starts 58 = .ok (.iload_n 2, 1) := by decide +kernel
theorem dX8_starts_59 : decode cX8_starts 59 = .ok (.iadd, 1) := by decide +kernel
theorem dX8_starts_60 : decode cX8_starts 60 = .ok (.bipush (-9), 2) := by decide +kernel
theorem dX8_starts_62 : decode cX8_starts 62 = .ok (.iastore, 1) := by decide +kernel
theorem dX8_starts_63 : decode cX8_starts 63 = .ok (.iinc 2 1, 3) := by decide +kernel
theorem dX8_starts_66 : decode cX8_starts 66 = .ok (.goto (-20), 3) := by decide +kernel
theorem dX8_starts_69 : decode cX8_starts 69 = .ok (.aload_n 0, 1) := by decide +kernel
theorem dX8_starts_70 : decode cX8_starts 70 = .ok (.invokevirtual 42, 3) := by decide +kernel
theorem dX8_starts_73 : decode cX8_starts 73 = .ok (.aload_n 0, 1) := by decide +kernel
theorem dX8_starts_74 : decode cX8_starts 74 = .ok (.invokevirtual 45, 3) := by decide +kernel
theorem dX8_starts_77 : decode cX8_starts 77 = .ok (.return_, 1) := by decide +kernel
theorem dX8_begins_0 : decode cX8_begins 0 = .ok (.aload_n 0, 1) := by decide +kernel
theorem dX8_begins_1 : decode cX8_begins 1 = .ok (.getfield 48, 3) := by decide +kernel
theorem dX8_begins_4 : decode cX8_begins 4 = .ok (.bipush 10, 2) := by decide +kernel
theorem dX8_begins_6 : decode cX8_begins 6 = .ok (.if_icmp .ne 45, 3) := by decide +kernel
theorem dX8_begins_9 : decode cX8_begins 9 = .ok (.iconst 0, 1) := by decide +kernel
theorem dX8_begins_10 : decode cX8_begins 10 = .ok (.istore_n 1, 1) := by decide +kernel
theorem dX8_begins_11 : decode cX8_begins 11 = .ok (.iload_n 1, 1) := by decide +kernel
theorem dX8_begins_12 : decode cX8_begins 12 = .ok (.bipush 126, 2) := by decide +kernel
theorem dX8_begins_14 : decode cX8_begins 14 = .ok (.if_icmp .ge 27, 3) := by decide +kernel
theorem dX8_begins_17 : decode cX8_begins 17 = .ok (.aload_n 0, 1) := by decide +kernel
theorem dX8_begins_18 : decode cX8_begins 18 = .ok (.getfield 7, 3) := by decide +kernel
theorem dX8_begins_21 : decode cX8_begins 21 = .ok (.bipush 14, 2) := by decide +kernel
theorem dX8_begins_23 : decode cX8_begins 23 = .ok (.iload_n 1, 1) := by decide +kernel
theorem dX8_begins_24 : decode cX8_begins 24 = .ok (.iadd, 1) := by decide +kernel
theorem dX8_begins_25 : decode cX8_begins 25 = .ok (.aload_n 0, 1) := by decide +kernel
theorem dX8_begins_26 : decode cX8_begins 26 = .ok (.getfield 7, 3) := by decide +kernel
theorem dX8_begins_29 : decode cX8_begins 29 = .ok (.bipush 28, 2) := by decide +kernel
theorem dX8_begins_31 : decode cX8_begins 31 = .ok (.iload_n 1, 1) := by decide +kernel
theorem dX8_begins_32 : decode cX8_begins 32 = .ok (.iadd, 1) := by decide +kernel
theorem dX8_begins_33 : decode cX8_begins 33 = .ok (.iaload, 1) := by decide +kernel
theorem dX8_begins_34 : decode cX8_begins 34 = .ok (.iastore, 1) := by decide +kernel
theorem dX8_begins_35 : decode cX8_begins 35 = .ok (.iinc 1 1, 3) := by decide +kernel
theorem dX8_begins_38 : decode cX8_begins 38 = .ok (.goto (-27), 3) := by decide +kernel
theorem dX8_begins_41 : decode cX8_begins 41 = .ok (.aload_n 0, 1) := by decide +kernel
theorem dX8_begins_42 : decode cX8_begins 42 = .ok (.dup, 1) := by decide +kernel
theorem dX8_begins_43 : decode cX8_begins 43 = .ok (.getfield 48, 3) := by decide +kernel
theorem dX8_begins_46 : decode cX8_begins 46 = .ok (.iconst 1, 1) := by decide +kernel
theorem dX8_begins_47 : decode cX8_begins 47 = .ok (.isub, 1) := by decide +kernel
theorem dX8_begins_48 : decode cX8_begins 48 = .ok (.putfield 48, 3) := by decide +kernel
theorem dX8_begins_51 : decode cX8_begins 51 = .ok (.aload_n 0, 1) := by decide +kernel
theorem dX8_begins_52 : decode cX8_begins 52 = .ok (.dup, 1) := by decide +kernel
theorem dX8_begins_53 : decode cX8_begins 53 = .ok (.getfield 48, 3) := by decide +kernel
theorem dX8_begins_56 : decode cX8_begins 56 = .ok (.iconst 1, 1) := by decide +kernel
theorem dX8_begins_57 : decode cX8_begins 57 = .ok (.iadd, 1) := by decide +kernel
theorem dX8_begins_58 : decode cX8_begins 58 = .ok (.putfield 48, 3) := by decide +kernel
theorem dX8_begins_61 : decode cX8_begins 61 = .ok (.iconst 0, 1) := by decide +kernel
theorem dX8_begins_62 : decode cX8_begins 62 = .ok (.istore_n 1, 1) := by decide +kernel
theorem dX8_begins_63 : decode cX8_begins 63 = .ok (.iload_n 1, 1) := by decide +kernel
theorem dX8_begins_64 : decode cX8_begins 64 = .ok (.bipush 14, 2) := by decide +kernel
theorem dX8_begins_66 : decode cX8_begins 66 = .ok (.if_icmp .ge 29, 3) := by decide +kernel
theorem dX8_begins_69 : decode cX8_begins 69 = .ok (.aload_n 0, 1) := by decide +kernel
theorem dX8_begins_70 : decode cX8_begins 70 = .ok (.getfield 7, 3) := by decide +kernel
theorem dX8_begins_73 : decode cX8_begins 73 = .ok (.bipush 14, 2) := by decide +kernel
theorem dX8_begins_75 : decode cX8_begins 75 = .ok (.aload_n 0, 1) := by decide +kernel
theorem dX8_begins_76 : decode cX8_begins 76 = .ok (.getfield 48, 3) := by decide +kernel
theorem dX8_begins_79 : decode cX8_begins 79 = .ok (.imul, 1) := by decide +kernel
theorem dX8_begins_80 : decode cX8_begins 80 = .ok (.iload_n 1, 1) := by decide +kernel
theorem dX8_begins_81 : decode cX8_begins 81 = .ok (.iadd, 1) := by decide +kernel
theorem dX8_begins_82 : decode cX8_begins 82 = .ok (.aload_n 0, 1) := by decide +kernel
theorem dX8_begins_83 : decode cX8_begins 83 = .ok (.getfield 7, 3) := by decide +kernel
theorem dX8_begins_86 : decode cX8_begins 86 = .ok (.iload_n 1, 1) := by decide +kernel
theorem dX8_begins_87 : decode cX8_begins 87 = .ok (.iaload, 1) := by decide +kernel
theorem dX8_begins_88 : decode cX8_begins 88 = .ok (.iastore, 1) := by decide +kernel
theorem dX8_begins_89 : decode cX8_begins 89 = .ok (.iinc 1 1, 3) := by decide +kernel
theorem dX8_begins_92 : decode cX8_begins 92 = .ok (.goto (-29), 3) := by decide +kernel
theorem dX8_begins_95 : decode cX8_begins 95 = .ok (.return_, 1) := by decide +kernel
theorem dX8_at_0 : decode cX8_at 0 = .ok (.aload_n 0, 1) := by decide +kernel
theorem dX8_at_1 : decode cX8_at 1 = .ok (.getfield 16, 3) := by decide +kernel
theorem dX8_at_4 : decode cX8_at 4 = .ok (.bipush 6, 2) := by decide +kernel
theorem dX8_at_6 : decode cX8_at 6 = .ok (.iload_n 1, 1) := by decide +kernel
theorem dX8_at_7 : decode cX8_at 7 = .ok (.imul, 1) := by decide +kernel
theorem dX8_at_8 : decode cX8_at 8 = .ok (.iload_n 2, 1) := by decide +kernel
theorem dX8_at_9 : decode cX8_at 9 = .ok (.iadd, 1) := by decide +kernel
theorem dX8_at_10 : decode cX8_at 10 = .ok (.iaload, 1) := by decide +kernel
theorem dX8_at_11 : decode cX8_at 11 = .ok (.ireturn, 1) := by decide +kernel
theorem dX8_greatest_0 : decode cX8_greatest 0 = .ok (.iconst (-1), 1) := by decide +kernel
theorem dX8_greatest_1 : decode cX8_greatest 1 = .ok (.istore_n 2, 1) := by decide +kernel
theorem dX8_greatest_2 : decode cX8_greatest 2 = .ok (.iconst 0, 1) := by decide +kernel
theorem dX8_greatest_3 : decode cX8_greatest 3 = .ok (.istore_n 3, 1) := by decide +kernel
theorem dX8_greatest_4 : decode cX8_greatest 4 = .ok (.iload_n 3, 1) := by decide +kernel
theorem dX8_greatest_5 : decode cX8_greatest 5 = .ok (.iload_n 1, 1) := by decide +kernel
theorem dX8_greatest_6 : decode cX8_greatest 6 = .ok (.if_icmp .ge 30, 3) := by decide +kernel
theorem dX8_greatest_9 : decode cX8_greatest 9 = .ok (.aload_n 0, 1) := by decide +kernel
theorem dX8_greatest_10 : decode cX8_greatest 10 = .ok (.getfield 25, 3) := by decide +kernel
theorem dX8_greatest_13 : decode cX8_greatest 13 = .ok (.iload_n 3, 1) := by decide +kernel
theorem dX8_greatest_14 : decode cX8_greatest 14 = .ok (.iaload, 1) := by decide +kernel
theorem dX8_greatest_15 : decode cX8_greatest 15 = .ok (.iload_n 2, 1) := by decide +kernel
theorem dX8_greatest_16 : decode cX8_greatest 16 = .ok (.if_icmp .le 12, 3) := by decide +kernel
theorem dX8_greatest_19 : decode cX8_greatest 19 = .ok (.aload_n 0, 1) := by decide +kernel
theorem dX8_greatest_20 : decode cX8_greatest 20 = .ok (.getfield 25, 3) := by decide +kernel
theorem dX8_greatest_23 : decode cX8_greatest 23 = .ok (.iload_n 3, 1) := by decide +kernel
theorem dX8_greatest_24 : decode cX8_greatest 24 = .ok (.iaload, 1) := by decide +kernel
theorem dX8_greatest_25 : decode cX8_greatest 25 = .ok (.goto 4, 3) := by decide +kernel
theorem dX8_greatest_28 : decode cX8_greatest 28 = .ok (.iload_n 2, 1) := by decide +kernel
theorem dX8_greatest_29 : decode cX8_greatest 29 = .ok (.istore_n 2, 1) := by decide +kernel
theorem dX8_greatest_30 : decode cX8_greatest 30 = .ok (.iinc 3 1, 3) := by decide +kernel
theorem dX8_greatest_33 : decode cX8_greatest 33 = .ok (.goto (-29), 3) := by decide +kernel
theorem dX8_greatest_36 : decode cX8_greatest 36 = .ok (.iload_n 2, 1) := by decide +kernel
theorem dX8_greatest_37 : decode cX8_greatest 37 = .ok (.ireturn, 1) := by decide +kernel
theorem dX8_lays_0 : decode cX8_lays 0 = .ok (.aload_n 0, 1) := by decide +kernel
theorem dX8_lays_1 : decode cX8_lays 1 = .ok (.getfield 7, 3) := by decide +kernel
theorem dX8_lays_4 : decode cX8_lays 4 = .ok (.iconst 0, 1) := by decide +kernel
theorem dX8_lays_5 : decode cX8_lays 5 = .ok (.iaload, 1) := by decide +kernel
theorem dX8_lays_6 : decode cX8_lays 6 = .ok (.istore_n 1, 1) := by decide +kernel
theorem dX8_lays_7 : decode cX8_lays 7 = .ok (.aload_n 0, 1) := by decide +kernel
theorem dX8_lays_8 : decode cX8_lays 8 = .ok (.iconst 0, 1) := by decide +kernel
theorem dX8_lays_9 : decode cX8_lays 9 = .ok (.putfield 52, 3) := by decide +kernel
theorem dX8_lays_12 : decode cX8_lays 12 = .ok (.iconst 0, 1) := by decide +kernel
theorem dX8_lays_13 : decode cX8_lays 13 = .ok (.istore_n 2, 1) := by decide +kernel
theorem dX8_lays_14 : decode cX8_lays 14 = .ok (.iload_n 2, 1) := by decide +kernel
theorem dX8_lays_15 : decode cX8_lays 15 = .ok (.bipush 6, 2) := by decide +kernel
theorem dX8_lays_17 : decode cX8_lays 17 = .ok (.if_icmp .ge 16, 3) := by decide +kernel
theorem dX8_lays_20 : decode cX8_lays 20 = .ok (.aload_n 0, 1) := by decide +kernel
theorem dX8_lays_21 : decode cX8_lays 21 = .ok (.getfield 25, 3) := by decide +kernel
theorem dX8_lays_24 : decode cX8_lays 24 = .ok (.iload_n 2, 1) := by decide +kernel
theorem dX8_lays_25 : decode cX8_lays 25 = .ok (.iconst 0, 1) := by decide +kernel
theorem dX8_lays_26 : decode cX8_lays 26 = .ok (.iastore, 1) := by decide +kernel
theorem dX8_lays_27 : decode cX8_lays 27 = .ok (.iinc 2 1, 3) := by decide +kernel
theorem dX8_lays_30 : decode cX8_lays 30 = .ok (.goto (-16), 3) := by decide +kernel
theorem dX8_lays_33 : decode cX8_lays 33 = .ok (.iconst 1, 1) := by decide +kernel
theorem dX8_lays_34 : decode cX8_lays 34 = .ok (.istore_n 2, 1) := by decide +kernel
theorem dX8_lays_35 : decode cX8_lays 35 = .ok (.iload_n 2, 1) := by decide +kernel
theorem dX8_lays_36 : decode cX8_lays 36 = .ok (.ifCond .eq 142, 3) := by decide +kernel
theorem dX8_lays_39 : decode cX8_lays 39 = .ok (.iconst 0, 1) := by decide +kernel
theorem dX8_lays_40 : decode cX8_lays 40 = .ok (.istore_n 3, 1) := by decide +kernel
theorem dX8_lays_41 : decode cX8_lays 41 = .ok (.iload_n 3, 1) := by decide +kernel
theorem dX8_lays_42 : decode cX8_lays 42 = .ok (.iload_n 1, 1) := by decide +kernel
theorem dX8_lays_43 : decode cX8_lays 43 = .ok (.if_icmp .ge 29, 3) := by decide +kernel
theorem dX8_lays_46 : decode cX8_lays 46 = .ok (.aload_n 0, 1) := by decide +kernel
theorem dX8_lays_47 : decode cX8_lays 47 = .ok (.getfield 16, 3) := by decide +kernel
theorem dX8_lays_50 : decode cX8_lays 50 = .ok (.bipush 6, 2) := by decide +kernel
theorem dX8_lays_52 : decode cX8_lays 52 = .ok (.aload_n 0, 1) := by decide +kernel
theorem dX8_lays_53 : decode cX8_lays 53 = .ok (.getfield 52, 3) := by decide +kernel
theorem dX8_lays_56 : decode cX8_lays 56 = .ok (.imul, 1) := by decide +kernel
theorem dX8_lays_57 : decode cX8_lays 57 = .ok (.iload_n 3, 1) := by decide +kernel
theorem dX8_lays_58 : decode cX8_lays 58 = .ok (.iadd, 1) := by decide +kernel
theorem dX8_lays_59 : decode cX8_lays 59 = .ok (.aload_n 0, 1) := by decide +kernel
theorem dX8_lays_60 : decode cX8_lays 60 = .ok (.getfield 25, 3) := by decide +kernel
theorem dX8_lays_63 : decode cX8_lays 63 = .ok (.iload_n 3, 1) := by decide +kernel
theorem dX8_lays_64 : decode cX8_lays 64 = .ok (.iaload, 1) := by decide +kernel
theorem dX8_lays_65 : decode cX8_lays 65 = .ok (.iastore, 1) := by decide +kernel
theorem dX8_lays_66 : decode cX8_lays 66 = .ok (.iinc 3 1, 3) := by decide +kernel
theorem dX8_lays_69 : decode cX8_lays 69 = .ok (.goto (-28), 3) := by decide +kernel
theorem dX8_lays_72 : decode cX8_lays 72 = .ok (.aload_n 0, 1) := by decide +kernel
theorem dX8_lays_73 : decode cX8_lays 73 = .ok (.getfield 19, 3) := by decide +kernel
theorem dX8_lays_76 : decode cX8_lays 76 = .ok (.aload_n 0, 1) := by decide +kernel
theorem dX8_lays_77 : decode cX8_lays 77 = .ok (.getfield 52, 3) := by decide +kernel
theorem dX8_lays_80 : decode cX8_lays 80 = .ok (.aload_n 0, 1) := by decide +kernel
theorem dX8_lays_81 : decode cX8_lays 81 = .ok (.iload_n 1, 1) := by decide +kernel
theorem dX8_lays_82 : decode cX8_lays 82 = .ok (.invokevirtual 55, 3) := by decide +kernel
theorem dX8_lays_85 : decode cX8_lays 85 = .ok (.iconst 1, 1) := by decide +kernel
theorem dX8_lays_86 : decode cX8_lays 86 = .ok (.iadd, 1) := by decide +kernel
theorem dX8_lays_87 : decode cX8_lays 87 = .ok (.iastore, 1) := by decide +kernel
theorem dX8_lays_88 : decode cX8_lays 88 = .ok (.aload_n 0, 1) := by decide +kernel
theorem dX8_lays_89 : decode cX8_lays 89 = .ok (.dup, 1) := by decide +kernel
theorem dX8_lays_90 : decode cX8_lays 90 = .ok (.getfield 52, 3) := by decide +kernel
theorem dX8_lays_93 : decode cX8_lays 93 = .ok (.iconst 1, 1) := by decide +kernel
theorem dX8_lays_94 : decode cX8_lays 94 = .ok (.iadd, 1) := by decide +kernel
theorem dX8_lays_95 : decode cX8_lays 95 = .ok (.putfield 52, 3) := by decide +kernel
theorem dX8_lays_98 : decode cX8_lays 98 = .ok (.iload_n 1, 1) := by decide +kernel
theorem dX8_lays_99 : decode cX8_lays 99 = .ok (.iconst 1, 1) := by decide +kernel
theorem dX8_lays_100 : decode cX8_lays 100 = .ok (.isub, 1) := by decide +kernel
theorem dX8_lays_101 : decode cX8_lays 101 = .ok (.istore_n 3, 1) := by decide +kernel
theorem dX8_lays_102 : decode cX8_lays 102 = .ok (.iload_n 3, 1) := by decide +kernel
theorem dX8_lays_103 : decode cX8_lays 103 = .ok (.ifCond .le 23, 3) := by decide +kernel
theorem dX8_lays_106 : decode cX8_lays 106 = .ok (.aload_n 0, 1) := by decide +kernel
theorem dX8_lays_107 : decode cX8_lays 107 = .ok (.getfield 25, 3) := by decide +kernel
theorem dX8_lays_110 : decode cX8_lays 110 = .ok (.iload_n 3, 1) := by decide +kernel
theorem dX8_lays_111 : decode cX8_lays 111 = .ok (.iaload, 1) := by decide +kernel
theorem dX8_lays_112 : decode cX8_lays 112 = .ok (.aload_n 0, 1) := by decide +kernel
theorem dX8_lays_113 : decode cX8_lays 113 = .ok (.iload_n 3, 1) := by decide +kernel
theorem dX8_lays_114 : decode cX8_lays 114 = .ok (.invokevirtual 55, 3) := by decide +kernel
theorem dX8_lays_117 : decode cX8_lays 117 = .ok (.if_icmp .le 9, 3) := by decide +kernel
theorem dX8_lays_120 : decode cX8_lays 120 = .ok (.iinc 3 (-1), 3) := by decide +kernel
theorem dX8_lays_123 : decode cX8_lays 123 = .ok (.goto (-21), 3) := by decide +kernel
theorem dX8_lays_126 : decode cX8_lays 126 = .ok (.iload_n 3, 1) := by decide +kernel
theorem dX8_lays_127 : decode cX8_lays 127 = .ok (.ifCond .le 7, 3) := by decide +kernel
theorem dX8_lays_130 : decode cX8_lays 130 = .ok (.iconst 1, 1) := by decide +kernel
theorem dX8_lays_131 : decode cX8_lays 131 = .ok (.goto 4, 3) := by decide +kernel
theorem dX8_lays_134 : decode cX8_lays 134 = .ok (.iconst 0, 1) := by decide +kernel
theorem dX8_lays_135 : decode cX8_lays 135 = .ok (.istore_n 2, 1) := by decide +kernel
theorem dX8_lays_136 : decode cX8_lays 136 = .ok (.iload_n 2, 1) := by decide +kernel
theorem dX8_lays_137 : decode cX8_lays 137 = .ok (.ifCond .eq 38, 3) := by decide +kernel
theorem dX8_lays_140 : decode cX8_lays 140 = .ok (.aload_n 0, 1) := by decide +kernel
theorem dX8_lays_141 : decode cX8_lays 141 = .ok (.getfield 25, 3) := by decide +kernel
theorem dX8_lays_144 : decode cX8_lays 144 = .ok (.iload_n 3, 1) := by decide +kernel
theorem dX8_lays_145 : decode cX8_lays 145 = .ok (.dup2, 1) := by decide +kernel
theorem dX8_lays_146 : decode cX8_lays 146 = .ok (.iaload, 1) := by decide +kernel
theorem dX8_lays_147 : decode cX8_lays 147 = .ok (.iconst 1, 1) := by decide +kernel
theorem dX8_lays_148 : decode cX8_lays 148 = .ok (.iadd, 1) := by decide +kernel
theorem dX8_lays_149 : decode cX8_lays 149 = .ok (.iastore, 1) := by decide +kernel
theorem dX8_lays_150 : decode cX8_lays 150 = .ok (.iload_n 3, 1) := by decide +kernel
theorem dX8_lays_151 : decode cX8_lays 151 = .ok (.iconst 1, 1) := by decide +kernel
theorem dX8_lays_152 : decode cX8_lays 152 = .ok (.iadd, 1) := by decide +kernel
theorem dX8_lays_153 : decode cX8_lays 153 = .ok (.istore 4, 2) := by decide +kernel
theorem dX8_lays_155 : decode cX8_lays 155 = .ok (.iload 4, 2) := by decide +kernel
theorem dX8_lays_157 : decode cX8_lays 157 = .ok (.iload_n 1, 1) := by decide +kernel
theorem dX8_lays_158 : decode cX8_lays 158 = .ok (.if_icmp .ge 17, 3) := by decide +kernel
theorem dX8_lays_161 : decode cX8_lays 161 = .ok (.aload_n 0, 1) := by decide +kernel
theorem dX8_lays_162 : decode cX8_lays 162 = .ok (.getfield 25, 3) := by decide +kernel
theorem dX8_lays_165 : decode cX8_lays 165 = .ok (.iload 4, 2) := by decide +kernel
theorem dX8_lays_167 : decode cX8_lays 167 = .ok (.iconst 0, 1) := by decide +kernel
theorem dX8_lays_168 : decode cX8_lays 168 = .ok (.iastore, 1) := by decide +kernel
theorem dX8_lays_169 : decode cX8_lays 169 = .ok (.iinc 4 1, 3) := by decide +kernel
theorem dX8_lays_172 : decode cX8_lays 172 = .ok (.goto (-17), 3) := by decide +kernel
theorem dX8_lays_175 : decode cX8_lays 175 = .ok (.goto (-140), 3) := by decide +kernel
theorem dX8_lays_178 : decode cX8_lays 178 = .ok (.return_, 1) := by decide +kernel
theorem dX8_admits_0 : decode cX8_admits 0 = .ok (.aload_n 0, 1) := by decide +kernel
theorem dX8_admits_1 : decode cX8_admits 1 = .ok (.iconst 0, 1) := by decide +kernel
theorem dX8_admits_2 : decode cX8_admits 2 = .ok (.putfield 59, 3) := by decide +kernel
theorem dX8_admits_5 : decode cX8_admits 5 = .ok (.iconst 0, 1) := by decide +kernel
theorem dX8_admits_6 : decode cX8_admits 6 = .ok (.istore_n 1, 1) := by decide +kernel
theorem dX8_admits_7 : decode cX8_admits 7 = .ok (.iload_n 1, 1) := by decide +kernel
theorem dX8_admits_8 : decode cX8_admits 8 = .ok (.aload_n 0, 1) := by decide +kernel
theorem dX8_admits_9 : decode cX8_admits 9 = .ok (.getfield 52, 3) := by decide +kernel
theorem dX8_admits_12 : decode cX8_admits 12 = .ok (.if_icmp .ge 45, 3) := by decide +kernel
theorem dX8_admits_15 : decode cX8_admits 15 = .ok (.aload_n 0, 1) := by decide +kernel
theorem dX8_admits_16 : decode cX8_admits 16 = .ok (.getfield 22, 3) := by decide +kernel
theorem dX8_admits_19 : decode cX8_admits 19 = .ok (.iload_n 1, 1) := by decide +kernel
theorem dX8_admits_20 : decode cX8_admits 20 = .ok (.bipush (-9), 2) := by decide +kernel
theorem dX8_admits_22 : decode cX8_admits 22 = .ok (.iastore, 1) := by decide +kernel
theorem dX8_admits_23 : decode cX8_admits 23 = .ok (.aload_n 0, 1) := by decide +kernel
theorem dX8_admits_24 : decode cX8_admits 24 = .ok (.iload_n 1, 1) := by decide +kernel
theorem dX8_admits_25 : decode cX8_admits 25 = .ok (.invokevirtual 62, 3) := by decide +kernel
theorem dX8_admits_28 : decode cX8_admits 28 = .ok (.ifCond .ne 23, 3) := by decide +kernel
theorem dX8_admits_31 : decode cX8_admits 31 = .ok (.aload_n 0, 1) := by decide +kernel
theorem dX8_admits_32 : decode cX8_admits 32 = .ok (.getfield 22, 3) := by decide +kernel
theorem dX8_admits_35 : decode cX8_admits 35 = .ok (.iload_n 1, 1) := by decide +kernel
theorem dX8_admits_36 : decode cX8_admits 36 = .ok (.aload_n 0, 1) := by decide +kernel
theorem dX8_admits_37 : decode cX8_admits 37 = .ok (.getfield 59, 3) := by decide +kernel
theorem dX8_admits_40 : decode cX8_admits 40 = .ok (.iastore, 1) := by decide +kernel
theorem dX8_admits_41 : decode cX8_admits 41 = .ok (.aload_n 0, 1) := by decide +kernel
theorem dX8_admits_42 : decode cX8_admits 42 = .ok (.dup, 1) := by decide +kernel
theorem dX8_admits_43 : decode cX8_admits 43 = .ok (.getfield 59, 3) := by decide +kernel
theorem dX8_admits_46 : decode cX8_admits 46 = .ok (.iconst 1, 1) := by decide +kernel
theorem dX8_admits_47 : decode cX8_admits 47 = .ok (.iadd, 1) := by decide +kernel
theorem dX8_admits_48 : decode cX8_admits 48 = .ok (.putfield 59, 3) := by decide +kernel
theorem dX8_admits_51 : decode cX8_admits 51 = .ok (.iinc 1 1, 3) := by decide +kernel
theorem dX8_admits_54 : decode cX8_admits 54 = .ok (.goto (-47), 3) := by decide +kernel
theorem dX8_admits_57 : decode cX8_admits 57 = .ok (.return_, 1) := by decide +kernel
theorem dX8_isAdmitted_0 : decode cX8_isAdmitted 0 = .ok (.aload_n 0, 1) := by decide +kernel
theorem dX8_isAdmitted_1 : decode cX8_isAdmitted 1 = .ok (.getfield 22, 3) := by decide +kernel
theorem dX8_isAdmitted_4 : decode cX8_isAdmitted 4 = .ok (.iload_n 1, 1) := by decide +kernel
theorem dX8_isAdmitted_5 : decode cX8_isAdmitted 5 = .ok (.iaload, 1) := by decide +kernel
theorem dX8_isAdmitted_6 : decode cX8_isAdmitted 6 = .ok (.ifCond .lt 7, 3) := by decide +kernel
theorem dX8_isAdmitted_9 : decode cX8_isAdmitted 9 = .ok (.iconst 1, 1) := by decide +kernel
theorem dX8_isAdmitted_10 : decode cX8_isAdmitted 10 = .ok (.goto 4, 3) := by decide +kernel
theorem dX8_isAdmitted_13 : decode cX8_isAdmitted 13 = .ok (.iconst 0, 1) := by decide +kernel
theorem dX8_isAdmitted_14 : decode cX8_isAdmitted 14 = .ok (.ireturn, 1) := by decide +kernel
theorem dX8_numberOf_0 : decode cX8_numberOf 0 = .ok (.aload_n 0, 1) := by decide +kernel
theorem dX8_numberOf_1 : decode cX8_numberOf 1 = .ok (.getfield 7, 3) := by decide +kernel
theorem dX8_numberOf_4 : decode cX8_numberOf 4 = .ok (.iconst 0, 1) := by decide +kernel
theorem dX8_numberOf_5 : decode cX8_numberOf 5 = .ok (.iaload, 1) := by decide +kernel
theorem dX8_numberOf_6 : decode cX8_numberOf 6 = .ok (.istore_n 1, 1) := by decide +kernel
theorem dX8_numberOf_7 : decode cX8_numberOf 7 = .ok (.iconst 0, 1) := by decide +kernel
theorem dX8_numberOf_8 : decode cX8_numberOf 8 = .ok (.istore_n 2, 1) := by decide +kernel
theorem dX8_numberOf_9 : decode cX8_numberOf 9 = .ok (.iload_n 2, 1) := by decide +kernel
theorem dX8_numberOf_10 : decode cX8_numberOf 10 = .ok (.aload_n 0, 1) := by decide +kernel
theorem dX8_numberOf_11 : decode cX8_numberOf 11 = .ok (.getfield 52, 3) := by decide +kernel
theorem dX8_numberOf_14 : decode cX8_numberOf 14 = .ok (.if_icmp .ge 109, 3) := by decide +kernel
theorem dX8_numberOf_17 : decode cX8_numberOf 17 = .ok (.iconst 1, 1) := by decide +kernel
theorem dX8_numberOf_18 : decode cX8_numberOf 18 = .ok (.istore_n 3, 1) := by decide +kernel
theorem dX8_numberOf_19 : decode cX8_numberOf 19 = .ok (.iconst 0, 1) := by decide +kernel
theorem dX8_numberOf_20 : decode cX8_numberOf 20 = .ok (.istore 4, 2) := by decide +kernel
theorem dX8_numberOf_22 : decode cX8_numberOf 22 = .ok (.iload 4, 2) := by decide +kernel
theorem dX8_numberOf_24 : decode cX8_numberOf 24 = .ok (.iload_n 1, 1) := by decide +kernel
theorem dX8_numberOf_25 : decode cX8_numberOf 25 = .ok (.if_icmp .ge 86, 3) := by decide +kernel
theorem dX8_numberOf_28 : decode cX8_numberOf 28 = .ok (.iload_n 3, 1) := by decide +kernel
theorem dX8_numberOf_29 : decode cX8_numberOf 29 = .ok (.ifCond .eq 82, 3) := by decide +kernel
theorem dX8_numberOf_32 : decode cX8_numberOf 32 = .ok (.iconst 0, 1) := by decide +kernel
theorem dX8_numberOf_33 : decode cX8_numberOf 33 = .ok (.istore 5, 2) := by decide +kernel
theorem dX8_numberOf_35 : decode cX8_numberOf 35 = .ok (.iload 5, 2) := by decide +kernel
theorem dX8_numberOf_37 : decode cX8_numberOf 37 = .ok (.iload 4, 2) := by decide +kernel
theorem dX8_numberOf_39 : decode cX8_numberOf 39 = .ok (.if_icmp .ge 66, 3) := by decide +kernel
theorem dX8_numberOf_42 : decode cX8_numberOf 42 = .ok (.iload_n 3, 1) := by decide +kernel
theorem dX8_numberOf_43 : decode cX8_numberOf 43 = .ok (.ifCond .eq 62, 3) := by decide +kernel
theorem dX8_numberOf_46 : decode cX8_numberOf 46 = .ok (.aload_n 0, 1) := by decide +kernel
theorem dX8_numberOf_47 : decode cX8_numberOf 47 = .ok (.getfield 25, 3) := by decide +kernel
theorem dX8_numberOf_50 : decode cX8_numberOf 50 = .ok (.iload 4, 2) := by decide +kernel
theorem dX8_numberOf_52 : decode cX8_numberOf 52 = .ok (.iaload, 1) := by decide +kernel
theorem dX8_numberOf_53 : decode cX8_numberOf 53 = .ok (.aload_n 0, 1) := by decide +kernel
theorem dX8_numberOf_54 : decode cX8_numberOf 54 = .ok (.getfield 25, 3) := by decide +kernel
theorem dX8_numberOf_57 : decode cX8_numberOf 57 = .ok (.iload 5, 2) := by decide +kernel
theorem dX8_numberOf_59 : decode cX8_numberOf 59 = .ok (.iaload, 1) := by decide +kernel
theorem dX8_numberOf_60 : decode cX8_numberOf 60 = .ok (.if_icmp .ne 7, 3) := by decide +kernel
theorem dX8_numberOf_63 : decode cX8_numberOf 63 = .ok (.iconst 1, 1) := by decide +kernel
theorem dX8_numberOf_64 : decode cX8_numberOf 64 = .ok (.goto 4, 3) := by decide +kernel
theorem dX8_numberOf_67 : decode cX8_numberOf 67 = .ok (.iconst 0, 1) := by decide +kernel
theorem dX8_numberOf_68 : decode cX8_numberOf 68 = .ok (.aload_n 0, 1) := by decide +kernel
theorem dX8_numberOf_69 : decode cX8_numberOf 69 = .ok (.iload_n 2, 1) := by decide +kernel
theorem dX8_numberOf_70 : decode cX8_numberOf 70 = .ok (.iload 4, 2) := by decide +kernel
theorem dX8_numberOf_72 : decode cX8_numberOf 72 = .ok (.invokevirtual 65, 3) := by decide +kernel
theorem dX8_numberOf_75 : decode cX8_numberOf 75 = .ok (.aload_n 0, 1) := by decide +kernel
theorem dX8_numberOf_76 : decode cX8_numberOf 76 = .ok (.iload_n 2, 1) := by decide +kernel
theorem dX8_numberOf_77 : decode cX8_numberOf 77 = .ok (.iload 5, 2) := by decide +kernel
theorem dX8_numberOf_79 : decode cX8_numberOf 79 = .ok (.invokevirtual 65, 3) := by decide +kernel
theorem dX8_numberOf_82 : decode cX8_numberOf 82 = .ok (.if_icmp .ne 7, 3) := by decide +kernel
theorem dX8_numberOf_85 : decode cX8_numberOf 85 = .ok (.iconst 1, 1) := by decide +kernel
theorem dX8_numberOf_86 : decode cX8_numberOf 86 = .ok (.goto 4, 3) := by decide +kernel
theorem dX8_numberOf_89 : decode cX8_numberOf 89 = .ok (.iconst 0, 1) := by decide +kernel
theorem dX8_numberOf_90 : decode cX8_numberOf 90 = .ok (.if_icmp .ne 7, 3) := by decide +kernel
theorem dX8_numberOf_93 : decode cX8_numberOf 93 = .ok (.iconst 1, 1) := by decide +kernel
theorem dX8_numberOf_94 : decode cX8_numberOf 94 = .ok (.goto 4, 3) := by decide +kernel
theorem dX8_numberOf_97 : decode cX8_numberOf 97 = .ok (.iconst 0, 1) := by decide +kernel
theorem dX8_numberOf_98 : decode cX8_numberOf 98 = .ok (.istore_n 3, 1) := by decide +kernel
theorem dX8_numberOf_99 : decode cX8_numberOf 99 = .ok (.iinc 5 1, 3) := by decide +kernel
theorem dX8_numberOf_102 : decode cX8_numberOf 102 = .ok (.goto (-67), 3) := by decide +kernel
theorem dX8_numberOf_105 : decode cX8_numberOf 105 = .ok (.iinc 4 1, 3) := by decide +kernel
theorem dX8_numberOf_108 : decode cX8_numberOf 108 = .ok (.goto (-86), 3) := by decide +kernel
theorem dX8_numberOf_111 : decode cX8_numberOf 111 = .ok (.iload_n 3, 1) := by decide +kernel
theorem dX8_numberOf_112 : decode cX8_numberOf 112 = .ok (.ifCond .eq 5, 3) := by decide +kernel
theorem dX8_numberOf_115 : decode cX8_numberOf 115 = .ok (.iload_n 2, 1) := by decide +kernel
theorem dX8_numberOf_116 : decode cX8_numberOf 116 = .ok (.ireturn, 1) := by decide +kernel
theorem dX8_numberOf_117 : decode cX8_numberOf 117 = .ok (.iinc 2 1, 3) := by decide +kernel
theorem dX8_numberOf_120 : decode cX8_numberOf 120 = .ok (.goto (-111), 3) := by decide +kernel
theorem dX8_numberOf_123 : decode cX8_numberOf 123 = .ok (.bipush (-9), 2) := by decide +kernel
theorem dX8_numberOf_125 : decode cX8_numberOf 125 = .ok (.ireturn, 1) := by decide +kernel
theorem dX8_takes_0 : decode cX8_takes 0 = .ok (.iconst 0, 1) := by decide +kernel
theorem dX8_takes_1 : decode cX8_takes 1 = .ok (.istore_n 2, 1) := by decide +kernel
theorem dX8_takes_2 : decode cX8_takes 2 = .ok (.iload_n 2, 1) := by decide +kernel
theorem dX8_takes_3 : decode cX8_takes 3 = .ok (.aload_n 0, 1) := by decide +kernel
theorem dX8_takes_4 : decode cX8_takes 4 = .ok (.getfield 7, 3) := by decide +kernel
theorem dX8_takes_7 : decode cX8_takes 7 = .ok (.iconst 0, 1) := by decide +kernel
theorem dX8_takes_8 : decode cX8_takes 8 = .ok (.iaload, 1) := by decide +kernel
theorem dX8_takes_9 : decode cX8_takes 9 = .ok (.if_icmp .ge 21, 3) := by decide +kernel
theorem dX8_takes_12 : decode cX8_takes 12 = .ok (.aload_n 0, 1) := by decide +kernel
theorem dX8_takes_13 : decode cX8_takes 13 = .ok (.getfield 25, 3) := by decide +kernel
theorem dX8_takes_16 : decode cX8_takes 16 = .ok (.iload_n 2, 1) := by decide +kernel
theorem dX8_takes_17 : decode cX8_takes 17 = .ok (.aload_n 0, 1) := by decide +kernel
theorem dX8_takes_18 : decode cX8_takes 18 = .ok (.iload_n 1, 1) := by decide +kernel
theorem dX8_takes_19 : decode cX8_takes 19 = .ok (.iload_n 2, 1) := by decide +kernel
theorem dX8_takes_20 : decode cX8_takes 20 = .ok (.invokevirtual 65, 3) := by decide +kernel
theorem dX8_takes_23 : decode cX8_takes 23 = .ok (.iastore, 1) := by decide +kernel
theorem dX8_takes_24 : decode cX8_takes 24 = .ok (.iinc 2 1, 3) := by decide +kernel
theorem dX8_takes_27 : decode cX8_takes 27 = .ok (.goto (-25), 3) := by decide +kernel
theorem dX8_takes_30 : decode cX8_takes 30 = .ok (.return_, 1) := by decide +kernel
theorem dX8_sizeOf_0 : decode cX8_sizeOf 0 = .ok (.iconst 0, 1) := by decide +kernel
theorem dX8_sizeOf_1 : decode cX8_sizeOf 1 = .ok (.istore_n 3, 1) := by decide +kernel
theorem dX8_sizeOf_2 : decode cX8_sizeOf 2 = .ok (.iconst 0, 1) := by decide +kernel
theorem dX8_sizeOf_3 : decode cX8_sizeOf 3 = .ok (.istore 4, 2) := by decide +kernel
theorem dX8_sizeOf_5 : decode cX8_sizeOf 5 = .ok (.iload 4, 2) := by decide +kernel
theorem dX8_sizeOf_7 : decode cX8_sizeOf 7 = .ok (.aload_n 0, 1) := by decide +kernel
theorem dX8_sizeOf_8 : decode cX8_sizeOf 8 = .ok (.getfield 7, 3) := by decide +kernel
theorem dX8_sizeOf_11 : decode cX8_sizeOf 11 = .ok (.iconst 0, 1) := by decide +kernel
theorem dX8_sizeOf_12 : decode cX8_sizeOf 12 = .ok (.iaload, 1) := by decide +kernel
theorem dX8_sizeOf_13 : decode cX8_sizeOf 13 = .ok (.if_icmp .ge 28, 3) := by decide +kernel
theorem dX8_sizeOf_16 : decode cX8_sizeOf 16 = .ok (.iload_n 3, 1) := by decide +kernel
theorem dX8_sizeOf_17 : decode cX8_sizeOf 17 = .ok (.aload_n 0, 1) := by decide +kernel
theorem dX8_sizeOf_18 : decode cX8_sizeOf 18 = .ok (.iload_n 1, 1) := by decide +kernel
theorem dX8_sizeOf_19 : decode cX8_sizeOf 19 = .ok (.iload 4, 2) := by decide +kernel
theorem dX8_sizeOf_21 : decode cX8_sizeOf 21 = .ok (.invokevirtual 65, 3) := by decide +kernel
theorem dX8_sizeOf_24 : decode cX8_sizeOf 24 = .ok (.iload_n 2, 1) := by decide +kernel
theorem dX8_sizeOf_25 : decode cX8_sizeOf 25 = .ok (.if_icmp .ne 7, 3) := by decide +kernel
theorem dX8_sizeOf_28 : decode cX8_sizeOf 28 = .ok (.iconst 1, 1) := by decide +kernel
theorem dX8_sizeOf_29 : decode cX8_sizeOf 29 = .ok (.goto 4, 3) := by decide +kernel
theorem dX8_sizeOf_32 : decode cX8_sizeOf 32 = .ok (.iconst 0, 1) := by decide +kernel
theorem dX8_sizeOf_33 : decode cX8_sizeOf 33 = .ok (.iadd, 1) := by decide +kernel
theorem dX8_sizeOf_34 : decode cX8_sizeOf 34 = .ok (.istore_n 3, 1) := by decide +kernel
theorem dX8_sizeOf_35 : decode cX8_sizeOf 35 = .ok (.iinc 4 1, 3) := by decide +kernel
theorem dX8_sizeOf_38 : decode cX8_sizeOf 38 = .ok (.goto (-33), 3) := by decide +kernel
theorem dX8_sizeOf_41 : decode cX8_sizeOf 41 = .ok (.iload_n 3, 1) := by decide +kernel
theorem dX8_sizeOf_42 : decode cX8_sizeOf 42 = .ok (.ireturn, 1) := by decide +kernel
theorem dX8_areCrossing_0 : decode cX8_areCrossing 0 = .ok (.iconst 0, 1) := by decide +kernel
theorem dX8_areCrossing_1 : decode cX8_areCrossing 1 = .ok (.istore 4, 2) := by decide +kernel
theorem dX8_areCrossing_3 : decode cX8_areCrossing 3 = .ok (.bipush (-9), 2) := by decide +kernel
theorem dX8_areCrossing_5 : decode cX8_areCrossing 5 = .ok (.istore 5, 2) := by decide +kernel
theorem dX8_areCrossing_7 : decode cX8_areCrossing 7 = .ok (.iconst 0, 1) := by decide +kernel
theorem dX8_areCrossing_8 : decode cX8_areCrossing 8 = .ok (.istore 6, 2) := by decide +kernel
theorem dX8_areCrossing_10 : decode cX8_areCrossing 10 = .ok (.iload 6, 2) := by decide +kernel
theorem dX8_areCrossing_12 : decode cX8_areCrossing 12 = .ok (.aload_n 0, 1) := by decide +kernel
theorem dX8_areCrossing_13 : decode cX8_areCrossing 13 = .ok (.getfield 7, 3) := by decide +kernel
theorem dX8_areCrossing_16 : decode cX8_areCrossing 16 = .ok (.iconst 0, 1) := by decide +kernel
theorem dX8_areCrossing_17 : decode cX8_areCrossing 17 = .ok (.iaload, 1) := by decide +kernel
theorem dX8_areCrossing_18 : decode cX8_areCrossing 18 = .ok (.if_icmp .ge 44, 3) := by decide +kernel
theorem dX8_areCrossing_21 : decode cX8_areCrossing 21 = .ok (.aload_n 0, 1) := by decide +kernel
theorem dX8_areCrossing_22 : decode cX8_areCrossing 22 = .ok (.iload_n 1, 1) := by decide +kernel
theorem dX8_areCrossing_23 : decode cX8_areCrossing 23 = .ok (.iload 6, 2) := by decide +kernel
theorem dX8_areCrossing_25 : decode cX8_areCrossing 25 = .ok (.invokevirtual 65, 3) := by decide +kernel
theorem dX8_areCrossing_28 : decode cX8_areCrossing 28 = .ok (.istore 7, 2) := by decide +kernel
theorem dX8_areCrossing_30 : decode cX8_areCrossing 30 = .ok (.iload 7, 2) := by decide +kernel
theorem dX8_areCrossing_32 : decode cX8_areCrossing 32 = .ok (.iload_n 2, 1) := by decide +kernel
theorem dX8_areCrossing_33 : decode cX8_areCrossing 33 = .ok (.if_icmp .eq 9, 3) := by decide +kernel
theorem dX8_areCrossing_36 : decode cX8_areCrossing 36 = .ok (.iload 7, 2) := by decide +kernel
theorem dX8_areCrossing_38 : decode cX8_areCrossing 38 = .ok (.iload_n 3, 1) := by decide +kernel
theorem dX8_areCrossing_39 : decode cX8_areCrossing 39 = .ok (.if_icmp .ne 17, 3) := by decide +kernel
theorem dX8_areCrossing_42 : decode cX8_areCrossing 42 = .ok (.iload 7, 2) := by decide +kernel
theorem dX8_areCrossing_44 : decode cX8_areCrossing 44 = .ok (.iload 5, 2) := by decide +kernel
theorem dX8_areCrossing_46 : decode cX8_areCrossing 46 = .ok (.if_icmp .eq 10, 3) := by decide +kernel
theorem dX8_areCrossing_49 : decode cX8_areCrossing 49 = .ok (.iinc 4 1, 3) := by decide +kernel
theorem dX8_areCrossing_52 : decode cX8_areCrossing 52 = .ok (.iload 7, 2) := by decide +kernel
theorem dX8_areCrossing_54 : decode cX8_areCrossing 54 = .ok (.istore 5, 2) := by decide +kernel
theorem dX8_areCrossing_56 : decode cX8_areCrossing 56 = .ok (.iinc 6 1, 3) := by decide +kernel
theorem dX8_areCrossing_59 : decode cX8_areCrossing 59 = .ok (.goto (-49), 3) := by decide +kernel
theorem dX8_areCrossing_62 : decode cX8_areCrossing 62 = .ok (.iload 4, 2) := by decide +kernel
theorem dX8_areCrossing_64 : decode cX8_areCrossing 64 = .ok (.iconst 4, 1) := by decide +kernel
theorem dX8_areCrossing_65 : decode cX8_areCrossing 65 = .ok (.if_icmp .lt 7, 3) := by decide +kernel
theorem dX8_areCrossing_68 : decode cX8_areCrossing 68 = .ok (.iconst 1, 1) := by decide +kernel
theorem dX8_areCrossing_69 : decode cX8_areCrossing 69 = .ok (.goto 4, 3) := by decide +kernel
theorem dX8_areCrossing_72 : decode cX8_areCrossing 72 = .ok (.iconst 0, 1) := by decide +kernel
theorem dX8_areCrossing_73 : decode cX8_areCrossing 73 = .ok (.ireturn, 1) := by decide +kernel
theorem dX8_firstCrossing_0 : decode cX8_firstCrossing 0 = .ok (.iconst 0, 1) := by decide +kernel
theorem dX8_firstCrossing_1 : decode cX8_firstCrossing 1 = .ok (.istore_n 2, 1) := by decide +kernel
theorem dX8_firstCrossing_2 : decode cX8_firstCrossing 2 = .ok (.iload_n 2, 1) := by decide +kernel
theorem dX8_firstCrossing_3 : decode cX8_firstCrossing 3 = .ok (.aload_n 0, 1) := by decide +kernel
theorem dX8_firstCrossing_4 : decode cX8_firstCrossing 4 = .ok (.getfield 19, 3) := by decide +kernel
theorem dX8_firstCrossing_7 : decode cX8_firstCrossing 7 = .ok (.iload_n 1, 1) := by decide +kernel
theorem dX8_firstCrossing_8 : decode cX8_firstCrossing 8 = .ok (.iaload, 1) := by decide +kernel
theorem dX8_firstCrossing_9 : decode cX8_firstCrossing 9 = .ok (.if_icmp .ge 46, 3) := by decide +kernel
theorem dX8_firstCrossing_12 : decode cX8_firstCrossing 12 = .ok (.iload_n 2, 1) := by decide +kernel
theorem dX8_firstCrossing_13 : decode cX8_firstCrossing 13 = .ok (.iconst 1, 1) := by decide +kernel
theorem dX8_firstCrossing_14 : decode cX8_firstCrossing 14 = .ok (.iadd, 1) := by decide +kernel
theorem dX8_firstCrossing_15 : decode cX8_firstCrossing 15 = .ok (.istore_n 3, 1) := by decide +kernel
theorem dX8_firstCrossing_16 : decode cX8_firstCrossing 16 = .ok (.iload_n 3, 1) := by decide +kernel
theorem dX8_firstCrossing_17 : decode cX8_firstCrossing 17 = .ok (.aload_n 0, 1) := by decide +kernel
theorem dX8_firstCrossing_18 : decode cX8_firstCrossing 18 = .ok (.getfield 19, 3) := by decide +kernel
theorem dX8_firstCrossing_21 : decode cX8_firstCrossing 21 = .ok (.iload_n 1, 1) := by decide +kernel
theorem dX8_firstCrossing_22 : decode cX8_firstCrossing 22 = .ok (.iaload, 1) := by decide +kernel
theorem dX8_firstCrossing_23 : decode cX8_firstCrossing 23 = .ok (.if_icmp .ge 26, 3) := by decide +kernel
theorem dX8_firstCrossing_26 : decode cX8_firstCrossing 26 = .ok (.aload_n 0, 1) := by decide +kernel
theorem dX8_firstCrossing_27 : decode cX8_firstCrossing 27 = .ok (.iload_n 1, 1) := by decide +kernel
theorem dX8_firstCrossing_28 : decode cX8_firstCrossing 28 = .ok (.iload_n 2, 1) := by decide +kernel
theorem dX8_firstCrossing_29 : decode cX8_firstCrossing 29 = .ok (.iload_n 3, 1) := by decide +kernel
theorem dX8_firstCrossing_30 : decode cX8_firstCrossing 30 = .ok (.invokevirtual 69, 3) := by decide +kernel
theorem dX8_firstCrossing_33 : decode cX8_firstCrossing 33 = .ok (.ifCond .eq 10, 3) := by decide +kernel
theorem dX8_firstCrossing_36 : decode cX8_firstCrossing 36 = .ok (.bipush 10, 2) := by decide +kernel
theorem dX8_firstCrossing_38 : decode cX8_firstCrossing 38 = .ok (.iload_n 2, 1) := by decide +kernel
theorem dX8_firstCrossing_39 : decode cX8_firstCrossing 39 = .ok (.imul, 1) := by decide +kernel
theorem dX8_firstCrossing_40 : decode cX8_firstCrossing 40 = .ok (.iload_n 3, 1) := by decide +kernel
theorem dX8_firstCrossing_41 : decode cX8_firstCrossing 41 = .ok (.iadd, 1) := by decide +kernel
theorem dX8_firstCrossing_42 : decode cX8_firstCrossing 42 = .ok (.ireturn, 1) := by decide +kernel
theorem dX8_firstCrossing_43 : decode cX8_firstCrossing 43 = .ok (.iinc 3 1, 3) := by decide +kernel
theorem dX8_firstCrossing_46 : decode cX8_firstCrossing 46 = .ok (.goto (-30), 3) := by decide +kernel
theorem dX8_firstCrossing_49 : decode cX8_firstCrossing 49 = .ok (.iinc 2 1, 3) := by decide +kernel
theorem dX8_firstCrossing_52 : decode cX8_firstCrossing 52 = .ok (.goto (-50), 3) := by decide +kernel
theorem dX8_firstCrossing_55 : decode cX8_firstCrossing 55 = .ok (.bipush (-9), 2) := by decide +kernel
theorem dX8_firstCrossing_57 : decode cX8_firstCrossing 57 = .ok (.ireturn, 1) := by decide +kernel
theorem dX8_bitOf_0 : decode cX8_bitOf 0 = .ok (.iload_n 0, 1) := by decide +kernel
theorem dX8_bitOf_1 : decode cX8_bitOf 1 = .ok (.iload_n 1, 1) := by decide +kernel
theorem dX8_bitOf_2 : decode cX8_bitOf 2 = .ok (.if_icmp .ge 7, 3) := by decide +kernel
theorem dX8_bitOf_5 : decode cX8_bitOf 5 = .ok (.iload_n 0, 1) := by decide +kernel
theorem dX8_bitOf_6 : decode cX8_bitOf 6 = .ok (.goto 4, 3) := by decide +kernel
theorem dX8_bitOf_9 : decode cX8_bitOf 9 = .ok (.iload_n 1, 1) := by decide +kernel
theorem dX8_bitOf_10 : decode cX8_bitOf 10 = .ok (.istore_n 2, 1) := by decide +kernel
theorem dX8_bitOf_11 : decode cX8_bitOf 11 = .ok (.iload_n 0, 1) := by decide +kernel
theorem dX8_bitOf_12 : decode cX8_bitOf 12 = .ok (.iload_n 1, 1) := by decide +kernel
theorem dX8_bitOf_13 : decode cX8_bitOf 13 = .ok (.if_icmp .ge 7, 3) := by decide +kernel
theorem dX8_bitOf_16 : decode cX8_bitOf 16 = .ok (.iload_n 1, 1) := by decide +kernel
theorem dX8_bitOf_17 : decode cX8_bitOf 17 = .ok (.goto 4, 3) := by decide +kernel
theorem dX8_bitOf_20 : decode cX8_bitOf 20 = .ok (.iload_n 0, 1) := by decide +kernel
theorem dX8_bitOf_21 : decode cX8_bitOf 21 = .ok (.istore_n 3, 1) := by decide +kernel
theorem dX8_bitOf_22 : decode cX8_bitOf 22 = .ok (.iconst 1, 1) := by decide +kernel
theorem dX8_bitOf_23 : decode cX8_bitOf 23 = .ok (.iload_n 2, 1) := by decide +kernel
theorem dX8_bitOf_24 : decode cX8_bitOf 24 = .ok (.bipush 11, 2) := by decide +kernel
theorem dX8_bitOf_26 : decode cX8_bitOf 26 = .ok (.iload_n 2, 1) := by decide +kernel
theorem dX8_bitOf_27 : decode cX8_bitOf 27 = .ok (.isub, 1) := by decide +kernel
theorem dX8_bitOf_28 : decode cX8_bitOf 28 = .ok (.imul, 1) := by decide +kernel
theorem dX8_bitOf_29 : decode cX8_bitOf 29 = .ok (.iconst 2, 1) := by decide +kernel
theorem dX8_bitOf_30 : decode cX8_bitOf 30 = .ok (.idiv, 1) := by decide +kernel
theorem dX8_bitOf_31 : decode cX8_bitOf 31 = .ok (.iload_n 3, 1) := by decide +kernel
theorem dX8_bitOf_32 : decode cX8_bitOf 32 = .ok (.iadd, 1) := by decide +kernel
theorem dX8_bitOf_33 : decode cX8_bitOf 33 = .ok (.iload_n 2, 1) := by decide +kernel
theorem dX8_bitOf_34 : decode cX8_bitOf 34 = .ok (.isub, 1) := by decide +kernel
theorem dX8_bitOf_35 : decode cX8_bitOf 35 = .ok (.iconst 1, 1) := by decide +kernel
theorem dX8_bitOf_36 : decode cX8_bitOf 36 = .ok (.isub, 1) := by decide +kernel
theorem dX8_bitOf_37 : decode cX8_bitOf 37 = .ok (.ishl, 1) := by decide +kernel
theorem dX8_bitOf_38 : decode cX8_bitOf 38 = .ok (.ireturn, 1) := by decide +kernel
theorem dX8_firstPair_0 : decode cX8_firstPair 0 = .ok (.iconst 0, 1) := by decide +kernel
theorem dX8_firstPair_1 : decode cX8_firstPair 1 = .ok (.istore 4, 2) := by decide +kernel
theorem dX8_firstPair_3 : decode cX8_firstPair 3 = .ok (.iload 4, 2) := by decide +kernel
theorem dX8_firstPair_5 : decode cX8_firstPair 5 = .ok (.aload_n 0, 1) := by decide +kernel
theorem dX8_firstPair_6 : decode cX8_firstPair 6 = .ok (.getfield 7, 3) := by decide +kernel
theorem dX8_firstPair_9 : decode cX8_firstPair 9 = .ok (.iconst 0, 1) := by decide +kernel
theorem dX8_firstPair_10 : decode cX8_firstPair 10 = .ok (.iaload, 1) := by decide +kernel
theorem dX8_firstPair_11 : decode cX8_firstPair 11 = .ok (.if_icmp .ge 79, 3) := by decide +kernel
theorem dX8_firstPair_14 : decode cX8_firstPair 14 = .ok (.iload 4, 2) := by decide +kernel
theorem dX8_firstPair_16 : decode cX8_firstPair 16 = .ok (.iconst 1, 1) := by decide +kernel
theorem dX8_firstPair_17 : decode cX8_firstPair 17 = .ok (.iadd, 1) := by decide +kernel
theorem dX8_firstPair_18 : decode cX8_firstPair 18 = .ok (.istore 5, 2) := by decide +kernel
theorem dX8_firstPair_20 : decode cX8_firstPair 20 = .ok (.iload 5, 2) := by decide +kernel
theorem dX8_firstPair_22 : decode cX8_firstPair 22 = .ok (.aload_n 0, 1) := by decide +kernel
theorem dX8_firstPair_23 : decode cX8_firstPair 23 = .ok (.getfield 7, 3) := by decide +kernel
theorem dX8_firstPair_26 : decode cX8_firstPair 26 = .ok (.iconst 0, 1) := by decide +kernel
theorem dX8_firstPair_27 : decode cX8_firstPair 27 = .ok (.iaload, 1) := by decide +kernel
theorem dX8_firstPair_28 : decode cX8_firstPair 28 = .ok (.if_icmp .ge 56, 3) := by decide +kernel
theorem dX8_firstPair_31 : decode cX8_firstPair 31 = .ok (.iload_n 2, 1) := by decide +kernel
theorem dX8_firstPair_32 : decode cX8_firstPair 32 = .ok (.iload 4, 2) := by decide +kernel
theorem dX8_firstPair_34 : decode cX8_firstPair 34 = .ok (.iload 5, 2) := by decide +kernel
theorem dX8_firstPair_36 : decode cX8_firstPair 36 = .ok (.invokestatic 73, 3) := by decide +kernel
theorem dX8_firstPair_39 : decode cX8_firstPair 39 = .ok (.iand, 1) := by decide +kernel
theorem dX8_firstPair_40 : decode cX8_firstPair 40 = .ok (.ifCond .eq 38, 3) := by decide +kernel
theorem dX8_firstPair_43 : decode cX8_firstPair 43 = .ok (.aload_n 0, 1) := by decide +kernel
theorem dX8_firstPair_44 : decode cX8_firstPair 44 = .ok (.iload_n 1, 1) := by decide +kernel
theorem dX8_firstPair_45 : decode cX8_firstPair 45 = .ok (.iload 4, 2) := by decide +kernel
theorem dX8_firstPair_47 : decode cX8_firstPair 47 = .ok (.invokevirtual 65, 3) := by decide +kernel
theorem dX8_firstPair_50 : decode cX8_firstPair 50 = .ok (.aload_n 0, 1) := by decide +kernel
theorem dX8_firstPair_51 : decode cX8_firstPair 51 = .ok (.iload_n 1, 1) := by decide +kernel
theorem dX8_firstPair_52 : decode cX8_firstPair 52 = .ok (.iload 5, 2) := by decide +kernel
theorem dX8_firstPair_54 : decode cX8_firstPair 54 = .ok (.invokevirtual 65, 3) := by decide +kernel
theorem dX8_firstPair_57 : decode cX8_firstPair 57 = .ok (.if_icmp .ne 7, 3) := by decide +kernel
theorem dX8_firstPair_60 : decode cX8_firstPair 60 = .ok (.iconst 1, 1) := by decide +kernel
theorem dX8_firstPair_61 : decode cX8_firstPair 61 = .ok (.goto 4, 3) := by decide +kernel
theorem dX8_firstPair_64 : decode cX8_firstPair 64 = .ok (.iconst 0, 1) := by decide +kernel
theorem dX8_firstPair_65 : decode cX8_firstPair 65 = .ok (.iload_n 3, 1) := by decide +kernel
theorem dX8_firstPair_66 : decode cX8_firstPair 66 = .ok (.if_icmp .ne 12, 3) := by decide +kernel
theorem dX8_firstPair_69 : decode cX8_firstPair 69 = .ok (.bipush 10, 2) := by decide +kernel
theorem dX8_firstPair_71 : decode cX8_firstPair 71 = .ok (.iload 4, 2) := by decide +kernel
theorem dX8_firstPair_73 : decode cX8_firstPair 73 = .ok (.imul, 1) := by decide +kernel
theorem dX8_firstPair_74 : decode cX8_firstPair 74 = .ok (.iload 5, 2) := by decide +kernel
theorem dX8_firstPair_76 : decode cX8_firstPair 76 = .ok (.iadd, 1) := by decide +kernel
theorem dX8_firstPair_77 : decode cX8_firstPair 77 = .ok (.ireturn, 1) := by decide +kernel
theorem dX8_firstPair_78 : decode cX8_firstPair 78 = .ok (.iinc 5 1, 3) := by decide +kernel
theorem dX8_firstPair_81 : decode cX8_firstPair 81 = .ok (.goto (-61), 3) := by decide +kernel
theorem dX8_firstPair_84 : decode cX8_firstPair 84 = .ok (.iinc 4 1, 3) := by decide +kernel
theorem dX8_firstPair_87 : decode cX8_firstPair 87 = .ok (.goto (-84), 3) := by decide +kernel
theorem dX8_firstPair_90 : decode cX8_firstPair 90 = .ok (.bipush (-9), 2) := by decide +kernel
theorem dX8_firstPair_92 : decode cX8_firstPair 92 = .ok (.ireturn, 1) := by decide +kernel
theorem dX8_firstSize_0 : decode cX8_firstSize 0 = .ok (.iconst 0, 1) := by decide +kernel
theorem dX8_firstSize_1 : decode cX8_firstSize 1 = .ok (.istore_n 2, 1) := by decide +kernel
theorem dX8_firstSize_2 : decode cX8_firstSize 2 = .ok (.iload_n 2, 1) := by decide +kernel
theorem dX8_firstSize_3 : decode cX8_firstSize 3 = .ok (.aload_n 0, 1) := by decide +kernel
theorem dX8_firstSize_4 : decode cX8_firstSize 4 = .ok (.getfield 19, 3) := by decide +kernel
theorem dX8_firstSize_7 : decode cX8_firstSize 7 = .ok (.iload_n 1, 1) := by decide +kernel
theorem dX8_firstSize_8 : decode cX8_firstSize 8 = .ok (.iaload, 1) := by decide +kernel
theorem dX8_firstSize_9 : decode cX8_firstSize 9 = .ok (.if_icmp .ge 29, 3) := by decide +kernel
theorem dX8_firstSize_12 : decode cX8_firstSize 12 = .ok (.aload_n 0, 1) := by decide +kernel
theorem dX8_firstSize_13 : decode cX8_firstSize 13 = .ok (.getfield 7, 3) := by decide +kernel
theorem dX8_firstSize_16 : decode cX8_firstSize 16 = .ok (.iconst 1, 1) := by decide +kernel
theorem dX8_firstSize_17 : decode cX8_firstSize 17 = .ok (.iaload, 1) := by decide +kernel
theorem dX8_firstSize_18 : decode cX8_firstSize 18 = .ok (.aload_n 0, 1) := by decide +kernel
theorem dX8_firstSize_19 : decode cX8_firstSize 19 = .ok (.iload_n 1, 1) := by decide +kernel
theorem dX8_firstSize_20 : decode cX8_firstSize 20 = .ok (.iload_n 2, 1) := by decide +kernel
theorem dX8_firstSize_21 : decode cX8_firstSize 21 = .ok (.invokevirtual 76, 3) := by decide +kernel
theorem dX8_firstSize_24 : decode cX8_firstSize 24 = .ok (.ishr, 1) := by decide +kernel
theorem dX8_firstSize_25 : decode cX8_firstSize 25 = .ok (.iconst 1, 1) := by decide +kernel
theorem dX8_firstSize_26 : decode cX8_firstSize 26 = .ok (.iand, 1) := by decide +kernel
theorem dX8_firstSize_27 : decode cX8_firstSize 27 = .ok (.ifCond .ne 5, 3) := by decide +kernel
theorem dX8_firstSize_30 : decode cX8_firstSize 30 = .ok (.iload_n 2, 1) := by decide +kernel
theorem dX8_firstSize_31 : decode cX8_firstSize 31 = .ok (.ireturn, 1) := by decide +kernel
theorem dX8_firstSize_32 : decode cX8_firstSize 32 = .ok (.iinc 2 1, 3) := by decide +kernel
theorem dX8_firstSize_35 : decode cX8_firstSize 35 = .ok (.goto (-33), 3) := by decide +kernel
theorem dX8_firstSize_38 : decode cX8_firstSize 38 = .ok (.bipush (-9), 2) := by decide +kernel
theorem dX8_firstSize_40 : decode cX8_firstSize 40 = .ok (.ireturn, 1) := by decide +kernel
theorem dX8_reason_0 : decode cX8_reason 0 = .ok (.aload_n 0, 1) := by decide +kernel
theorem dX8_reason_1 : decode cX8_reason 1 = .ok (.iload_n 1, 1) := by decide +kernel
theorem dX8_reason_2 : decode cX8_reason 2 = .ok (.invokevirtual 79, 3) := by decide +kernel
theorem dX8_reason_5 : decode cX8_reason 5 = .ok (.bipush (-9), 2) := by decide +kernel
theorem dX8_reason_7 : decode cX8_reason 7 = .ok (.if_icmp .eq 5, 3) := by decide +kernel
theorem dX8_reason_10 : decode cX8_reason 10 = .ok (.iconst 1, 1) := by decide +kernel
theorem dX8_reason_11 : decode cX8_reason 11 = .ok (.ireturn, 1) := by decide +kernel
theorem dX8_reason_12 : decode cX8_reason 12 = .ok (.aload_n 0, 1) := by decide +kernel
theorem dX8_reason_13 : decode cX8_reason 13 = .ok (.getfield 7, 3) := by decide +kernel
theorem dX8_reason_16 : decode cX8_reason 16 = .ok (.iconst 2, 1) := by decide +kernel
theorem dX8_reason_17 : decode cX8_reason 17 = .ok (.iaload, 1) := by decide +kernel
theorem dX8_reason_18 : decode cX8_reason 18 = .ok (.aload_n 0, 1) := by decide +kernel
theorem dX8_reason_19 : decode cX8_reason 19 = .ok (.getfield 19, 3) := by decide +kernel
theorem dX8_reason_22 : decode cX8_reason 22 = .ok (.iload_n 1, 1) := by decide +kernel
theorem dX8_reason_23 : decode cX8_reason 23 = .ok (.iaload, 1) := by decide +kernel
theorem dX8_reason_24 : decode cX8_reason 24 = .ok (.ishr, 1) := by decide +kernel
theorem dX8_reason_25 : decode cX8_reason 25 = .ok (.iconst 1, 1) := by decide +kernel
theorem dX8_reason_26 : decode cX8_reason 26 = .ok (.iand, 1) := by decide +kernel
theorem dX8_reason_27 : decode cX8_reason 27 = .ok (.ifCond .ne 5, 3) := by decide +kernel
theorem dX8_reason_30 : decode cX8_reason 30 = .ok (.iconst 2, 1) := by decide +kernel
theorem dX8_reason_31 : decode cX8_reason 31 = .ok (.ireturn, 1) := by decide +kernel
theorem dX8_reason_32 : decode cX8_reason 32 = .ok (.aload_n 0, 1) := by decide +kernel
theorem dX8_reason_33 : decode cX8_reason 33 = .ok (.iload_n 1, 1) := by decide +kernel
theorem dX8_reason_34 : decode cX8_reason 34 = .ok (.aload_n 0, 1) := by decide +kernel
theorem dX8_reason_35 : decode cX8_reason 35 = .ok (.getfield 7, 3) := by decide +kernel
theorem dX8_reason_38 : decode cX8_reason 38 = .ok (.iconst 3, 1) := by decide +kernel
theorem dX8_reason_39 : decode cX8_reason 39 = .ok (.iaload, 1) := by decide +kernel
theorem dX8_reason_40 : decode cX8_reason 40 = .ok (.iconst 1, 1) := by decide +kernel
theorem dX8_reason_41 : decode cX8_reason 41 = .ok (.invokevirtual 82, 3) := by decide +kernel
theorem dX8_reason_44 : decode cX8_reason 44 = .ok (.bipush (-9), 2) := by decide +kernel
theorem dX8_reason_46 : decode cX8_reason 46 = .ok (.if_icmp .eq 5, 3) := by decide +kernel
theorem dX8_reason_49 : decode cX8_reason 49 = .ok (.iconst 3, 1) := by decide +kernel
theorem dX8_reason_50 : decode cX8_reason 50 = .ok (.ireturn, 1) := by decide +kernel
theorem dX8_reason_51 : decode cX8_reason 51 = .ok (.aload_n 0, 1) := by decide +kernel
theorem dX8_reason_52 : decode cX8_reason 52 = .ok (.iload_n 1, 1) := by decide +kernel
theorem dX8_reason_53 : decode cX8_reason 53 = .ok (.aload_n 0, 1) := by decide +kernel
theorem dX8_reason_54 : decode cX8_reason 54 = .ok (.getfield 7, 3) := by decide +kernel
theorem dX8_reason_57 : decode cX8_reason 57 = .ok (.iconst 4, 1) := by decide +kernel
theorem dX8_reason_58 : decode cX8_reason 58 = .ok (.iaload, 1) := by decide +kernel
theorem dX8_reason_59 : decode cX8_reason 59 = .ok (.iconst 0, 1) := by decide +kernel
theorem dX8_reason_60 : decode cX8_reason 60 = .ok (.invokevirtual 82, 3) := by decide +kernel
theorem dX8_reason_63 : decode cX8_reason 63 = .ok (.bipush (-9), 2) := by decide +kernel
theorem dX8_reason_65 : decode cX8_reason 65 = .ok (.if_icmp .eq 5, 3) := by decide +kernel
theorem dX8_reason_68 : decode cX8_reason 68 = .ok (.iconst 4, 1) := by decide +kernel
theorem dX8_reason_69 : decode cX8_reason 69 = .ok (.ireturn, 1) := by decide +kernel
theorem dX8_reason_70 : decode cX8_reason 70 = .ok (.aload_n 0, 1) := by decide +kernel
theorem dX8_reason_71 : decode cX8_reason 71 = .ok (.getfield 7, 3) := by decide +kernel
theorem dX8_reason_74 : decode cX8_reason 74 = .ok (.iconst 5, 1) := by decide +kernel
theorem dX8_reason_75 : decode cX8_reason 75 = .ok (.iaload, 1) := by decide +kernel
theorem dX8_reason_76 : decode cX8_reason 76 = .ok (.iconst 1, 1) := by decide +kernel
theorem dX8_reason_77 : decode cX8_reason 77 = .ok (.if_icmp .ne 17, 3) := by decide +kernel
theorem dX8_reason_80 : decode cX8_reason 80 = .ok (.aload_n 0, 1) := by decide +kernel
theorem dX8_reason_81 : decode cX8_reason 81 = .ok (.iload_n 1, 1) := by decide +kernel
theorem dX8_reason_82 : decode cX8_reason 82 = .ok (.invokevirtual 86, 3) := by decide +kernel
theorem dX8_reason_85 : decode cX8_reason 85 = .ok (.bipush (-9), 2) := by decide +kernel
theorem dX8_reason_87 : decode cX8_reason 87 = .ok (.if_icmp .eq 7, 3) := by decide +kernel
theorem dX8_reason_90 : decode cX8_reason 90 = .ok (.iconst 5, 1) := by decide +kernel
theorem dX8_reason_91 : decode cX8_reason 91 = .ok (.goto 4, 3) := by decide +kernel
theorem dX8_reason_94 : decode cX8_reason 94 = .ok (.iconst 0, 1) := by decide +kernel
theorem dX8_reason_95 : decode cX8_reason 95 = .ok (.ireturn, 1) := by decide +kernel
theorem dX8_placeOf_0 : decode cX8_placeOf 0 = .ok (.aload_n 0, 1) := by decide +kernel
theorem dX8_placeOf_1 : decode cX8_placeOf 1 = .ok (.iload_n 1, 1) := by decide +kernel
theorem dX8_placeOf_2 : decode cX8_placeOf 2 = .ok (.invokevirtual 62, 3) := by decide +kernel
theorem dX8_placeOf_5 : decode cX8_placeOf 5 = .ok (.tableswitch 80 1 5 #[35, 41, 48, 61, 74], 35) := by decide +kernel
theorem dX8_placeOf_40 : decode cX8_placeOf 40 = .ok (.aload_n 0, 1) := by decide +kernel
theorem dX8_placeOf_41 : decode cX8_placeOf 41 = .ok (.iload_n 1, 1) := by decide +kernel
theorem dX8_placeOf_42 : decode cX8_placeOf 42 = .ok (.invokevirtual 79, 3) := by decide +kernel
theorem dX8_placeOf_45 : decode cX8_placeOf 45 = .ok (.ireturn, 1) := by decide +kernel
theorem dX8_placeOf_46 : decode cX8_placeOf 46 = .ok (.aload_n 0, 1) := by decide +kernel
theorem dX8_placeOf_47 : decode cX8_placeOf 47 = .ok (.getfield 19, 3) := by decide +kernel
theorem dX8_placeOf_50 : decode cX8_placeOf 50 = .ok (.iload_n 1, 1) := by decide +kernel
theorem dX8_placeOf_51 : decode cX8_placeOf 51 = .ok (.iaload, 1) := by decide +kernel
theorem dX8_placeOf_52 : decode cX8_placeOf 52 = .ok (.ireturn, 1) := by decide +kernel
theorem dX8_placeOf_53 : decode cX8_placeOf 53 = .ok (.aload_n 0, 1) := by decide +kernel
theorem dX8_placeOf_54 : decode cX8_placeOf 54 = .ok (.iload_n 1, 1) := by decide +kernel
theorem dX8_placeOf_55 : decode cX8_placeOf 55 = .ok (.aload_n 0, 1) := by decide +kernel
theorem dX8_placeOf_56 : decode cX8_placeOf 56 = .ok (.getfield 7, 3) := by decide +kernel
theorem dX8_placeOf_59 : decode cX8_placeOf 59 = .ok (.iconst 3, 1) := by decide +kernel
theorem dX8_placeOf_60 : decode cX8_placeOf 60 = .ok (.iaload, 1) := by decide +kernel
theorem dX8_placeOf_61 : decode cX8_placeOf 61 = .ok (.iconst 1, 1) := by decide +kernel
theorem dX8_placeOf_62 : decode cX8_placeOf 62 = .ok (.invokevirtual 82, 3) := by decide +kernel
theorem dX8_placeOf_65 : decode cX8_placeOf 65 = .ok (.ireturn, 1) := by decide +kernel
theorem dX8_placeOf_66 : decode cX8_placeOf 66 = .ok (.aload_n 0, 1) := by decide +kernel
theorem dX8_placeOf_67 : decode cX8_placeOf 67 = .ok (.iload_n 1, 1) := by decide +kernel
theorem dX8_placeOf_68 : decode cX8_placeOf 68 = .ok (.aload_n 0, 1) := by decide +kernel
theorem dX8_placeOf_69 : decode cX8_placeOf 69 = .ok (.getfield 7, 3) := by decide +kernel
theorem dX8_placeOf_72 : decode cX8_placeOf 72 = .ok (.iconst 4, 1) := by decide +kernel
theorem dX8_placeOf_73 : decode cX8_placeOf 73 = .ok (.iaload, 1) := by decide +kernel
theorem dX8_placeOf_74 : decode cX8_placeOf 74 = .ok (.iconst 0, 1) := by decide +kernel
theorem dX8_placeOf_75 : decode cX8_placeOf 75 = .ok (.invokevirtual 82, 3) := by decide +kernel
theorem dX8_placeOf_78 : decode cX8_placeOf 78 = .ok (.ireturn, 1) := by decide +kernel
theorem dX8_placeOf_79 : decode cX8_placeOf 79 = .ok (.aload_n 0, 1) := by decide +kernel
theorem dX8_placeOf_80 : decode cX8_placeOf 80 = .ok (.iload_n 1, 1) := by decide +kernel
theorem dX8_placeOf_81 : decode cX8_placeOf 81 = .ok (.invokevirtual 86, 3) := by decide +kernel
theorem dX8_placeOf_84 : decode cX8_placeOf 84 = .ok (.ireturn, 1) := by decide +kernel
theorem dX8_placeOf_85 : decode cX8_placeOf 85 = .ok (.bipush (-9), 2) := by decide +kernel
theorem dX8_placeOf_87 : decode cX8_placeOf 87 = .ok (.ireturn, 1) := by decide +kernel
theorem dX8_isBelow_0 : decode cX8_isBelow 0 = .ok (.iconst 0, 1) := by decide +kernel
theorem dX8_isBelow_1 : decode cX8_isBelow 1 = .ok (.istore_n 3, 1) := by decide +kernel
theorem dX8_isBelow_2 : decode cX8_isBelow 2 = .ok (.iload_n 3, 1) := by decide +kernel
theorem dX8_isBelow_3 : decode cX8_isBelow 3 = .ok (.aload_n 0, 1) := by decide +kernel
theorem dX8_isBelow_4 : decode cX8_isBelow 4 = .ok (.getfield 7, 3) := by decide +kernel
theorem dX8_isBelow_7 : decode cX8_isBelow 7 = .ok (.iconst 0, 1) := by decide +kernel
theorem dX8_isBelow_8 : decode cX8_isBelow 8 = .ok (.iaload, 1) := by decide +kernel
theorem dX8_isBelow_9 : decode cX8_isBelow 9 = .ok (.if_icmp .ge 58, 3) := by decide +kernel
theorem dX8_isBelow_12 : decode cX8_isBelow 12 = .ok (.iconst 0, 1) := by decide +kernel
theorem dX8_isBelow_13 : decode cX8_isBelow 13 = .ok (.istore 4, 2) := by decide +kernel
theorem dX8_isBelow_15 : decode cX8_isBelow 15 = .ok (.iload 4, 2) := by decide +kernel
theorem dX8_isBelow_17 : decode cX8_isBelow 17 = .ok (.iload_n 3, 1) := by decide +kernel
theorem dX8_isBelow_18 : decode cX8_isBelow 18 = .ok (.if_icmp .ge 43, 3) := by decide +kernel
theorem dX8_isBelow_21 : decode cX8_isBelow 21 = .ok (.aload_n 0, 1) := by decide +kernel
theorem dX8_isBelow_22 : decode cX8_isBelow 22 = .ok (.iload_n 1, 1) := by decide +kernel
theorem dX8_isBelow_23 : decode cX8_isBelow 23 = .ok (.iload_n 3, 1) := by decide +kernel
theorem dX8_isBelow_24 : decode cX8_isBelow 24 = .ok (.invokevirtual 65, 3) := by decide +kernel
theorem dX8_isBelow_27 : decode cX8_isBelow 27 = .ok (.aload_n 0, 1) := by decide +kernel
theorem dX8_isBelow_28 : decode cX8_isBelow 28 = .ok (.iload_n 1, 1) := by decide +kernel
theorem dX8_isBelow_29 : decode cX8_isBelow 29 = .ok (.iload 4, 2) := by decide +kernel
theorem dX8_isBelow_31 : decode cX8_isBelow 31 = .ok (.invokevirtual 65, 3) := by decide +kernel
theorem dX8_isBelow_34 : decode cX8_isBelow 34 = .ok (.if_icmp .ne 21, 3) := by decide +kernel
theorem dX8_isBelow_37 : decode cX8_isBelow 37 = .ok (.aload_n 0, 1) := by decide +kernel
theorem dX8_isBelow_38 : decode cX8_isBelow 38 = .ok (.iload_n 2, 1) := by decide +kernel
theorem dX8_isBelow_39 : decode cX8_isBelow 39 = .ok (.iload_n 3, 1) := by decide +kernel
theorem dX8_isBelow_40 : decode cX8_isBelow 40 = .ok (.invokevirtual 65, 3) := by decide +kernel
theorem dX8_isBelow_43 : decode cX8_isBelow 43 = .ok (.aload_n 0, 1) := by decide +kernel
theorem dX8_isBelow_44 : decode cX8_isBelow 44 = .ok (.iload_n 2, 1) := by decide +kernel
theorem dX8_isBelow_45 : decode cX8_isBelow 45 = .ok (.iload 4, 2) := by decide +kernel
theorem dX8_isBelow_47 : decode cX8_isBelow 47 = .ok (.invokevirtual 65, 3) := by decide +kernel
theorem dX8_isBelow_50 : decode cX8_isBelow 50 = .ok (.if_icmp .eq 5, 3) := by decide +kernel
theorem dX8_isBelow_53 : decode cX8_isBelow 53 = .ok (.iconst 0, 1) := by decide +kernel
theorem dX8_isBelow_54 : decode cX8_isBelow 54 = .ok (.ireturn, 1) := by decide +kernel
theorem dX8_isBelow_55 : decode cX8_isBelow 55 = .ok (.iinc 4 1, 3) := by decide +kernel
theorem dX8_isBelow_58 : decode cX8_isBelow 58 = .ok (.goto (-43), 3) := by decide +kernel
theorem dX8_isBelow_61 : decode cX8_isBelow 61 = .ok (.iinc 3 1, 3) := by decide +kernel
theorem dX8_isBelow_64 : decode cX8_isBelow 64 = .ok (.goto (-62), 3) := by decide +kernel
theorem dX8_isBelow_67 : decode cX8_isBelow 67 = .ok (.iconst 1, 1) := by decide +kernel
theorem dX8_isBelow_68 : decode cX8_isBelow 68 = .ok (.ireturn, 1) := by decide +kernel
theorem dX8_isStrictly_0 : decode cX8_isStrictly 0 = .ok (.iload_n 1, 1) := by decide +kernel
theorem dX8_isStrictly_1 : decode cX8_isStrictly 1 = .ok (.iload_n 2, 1) := by decide +kernel
theorem dX8_isStrictly_2 : decode cX8_isStrictly 2 = .ok (.if_icmp .eq 16, 3) := by decide +kernel
theorem dX8_isStrictly_5 : decode cX8_isStrictly 5 = .ok (.aload_n 0, 1) := by decide +kernel
theorem dX8_isStrictly_6 : decode cX8_isStrictly 6 = .ok (.iload_n 1, 1) := by decide +kernel
theorem dX8_isStrictly_7 : decode cX8_isStrictly 7 = .ok (.iload_n 2, 1) := by decide +kernel
theorem dX8_isStrictly_8 : decode cX8_isStrictly 8 = .ok (.invokevirtual 89, 3) := by decide +kernel
theorem dX8_isStrictly_11 : decode cX8_isStrictly 11 = .ok (.ifCond .eq 7, 3) := by decide +kernel
theorem dX8_isStrictly_14 : decode cX8_isStrictly 14 = .ok (.iconst 1, 1) := by decide +kernel
theorem dX8_isStrictly_15 : decode cX8_isStrictly 15 = .ok (.goto 4, 3) := by decide +kernel
theorem dX8_isStrictly_18 : decode cX8_isStrictly 18 = .ok (.iconst 0, 1) := by decide +kernel
theorem dX8_isStrictly_19 : decode cX8_isStrictly 19 = .ok (.ireturn, 1) := by decide +kernel
theorem dX8_rank_0 : decode cX8_rank 0 = .ok (.aload_n 0, 1) := by decide +kernel
theorem dX8_rank_1 : decode cX8_rank 1 = .ok (.getfield 7, 3) := by decide +kernel
theorem dX8_rank_4 : decode cX8_rank 4 = .ok (.iconst 0, 1) := by decide +kernel
theorem dX8_rank_5 : decode cX8_rank 5 = .ok (.iaload, 1) := by decide +kernel
theorem dX8_rank_6 : decode cX8_rank 6 = .ok (.aload_n 0, 1) := by decide +kernel
theorem dX8_rank_7 : decode cX8_rank 7 = .ok (.getfield 19, 3) := by decide +kernel
theorem dX8_rank_10 : decode cX8_rank 10 = .ok (.iload_n 1, 1) := by decide +kernel
theorem dX8_rank_11 : decode cX8_rank 11 = .ok (.iaload, 1) := by decide +kernel
theorem dX8_rank_12 : decode cX8_rank 12 = .ok (.isub, 1) := by decide +kernel
theorem dX8_rank_13 : decode cX8_rank 13 = .ok (.ireturn, 1) := by decide +kernel
theorem dX8_sets_0 : decode cX8_sets 0 = .ok (.aload_n 0, 1) := by decide +kernel
theorem dX8_sets_1 : decode cX8_sets 1 = .ok (.invokevirtual 93, 3) := by decide +kernel
theorem dX8_sets_4 : decode cX8_sets 4 = .ok (.aload_n 0, 1) := by decide +kernel
theorem dX8_sets_5 : decode cX8_sets 5 = .ok (.getfield 7, 3) := by decide +kernel
theorem dX8_sets_8 : decode cX8_sets 8 = .ok (.iload_n 1, 1) := by decide +kernel
theorem dX8_sets_9 : decode cX8_sets 9 = .ok (.iaload, 1) := by decide +kernel
theorem dX8_sets_10 : decode cX8_sets 10 = .ok (.istore_n 3, 1) := by decide +kernel
theorem dX8_sets_11 : decode cX8_sets 11 = .ok (.aload_n 0, 1) := by decide +kernel
theorem dX8_sets_12 : decode cX8_sets 12 = .ok (.getfield 7, 3) := by decide +kernel
theorem dX8_sets_15 : decode cX8_sets 15 = .ok (.iload_n 1, 1) := by decide +kernel
theorem dX8_sets_16 : decode cX8_sets 16 = .ok (.iload_n 2, 1) := by decide +kernel
theorem dX8_sets_17 : decode cX8_sets 17 = .ok (.iastore, 1) := by decide +kernel
theorem dX8_sets_18 : decode cX8_sets 18 = .ok (.aload_n 0, 1) := by decide +kernel
theorem dX8_sets_19 : decode cX8_sets 19 = .ok (.invokevirtual 45, 3) := by decide +kernel
theorem dX8_sets_22 : decode cX8_sets 22 = .ok (.iload_n 3, 1) := by decide +kernel
theorem dX8_sets_23 : decode cX8_sets 23 = .ok (.ireturn, 1) := by decide +kernel
theorem dX8_setSize_0 : decode cX8_setSize 0 = .ok (.iload_n 1, 1) := by decide +kernel
theorem dX8_setSize_1 : decode cX8_setSize 1 = .ok (.iconst 1, 1) := by decide +kernel
theorem dX8_setSize_2 : decode cX8_setSize 2 = .ok (.bipush 6, 2) := by decide +kernel
theorem dX8_setSize_4 : decode cX8_setSize 4 = .ok (.invokestatic 96, 3) := by decide +kernel
theorem dX8_setSize_7 : decode cX8_setSize 7 = .ok (.ifCond .ne 5, 3) := by decide +kernel
theorem dX8_setSize_10 : decode cX8_setSize 10 = .ok (.iconst (-1), 1) := by decide +kernel
theorem dX8_setSize_11 : decode cX8_setSize 11 = .ok (.ireturn, 1) := by decide +kernel
theorem dX8_setSize_12 : decode cX8_setSize 12 = .ok (.aload_n 0, 1) := by decide +kernel
theorem dX8_setSize_13 : decode cX8_setSize 13 = .ok (.invokevirtual 93, 3) := by decide +kernel
theorem dX8_setSize_16 : decode cX8_setSize 16 = .ok (.aload_n 0, 1) := by decide +kernel
theorem dX8_setSize_17 : decode cX8_setSize 17 = .ok (.getfield 7, 3) := by decide +kernel
theorem dX8_setSize_20 : decode cX8_setSize 20 = .ok (.iconst 0, 1) := by decide +kernel
theorem dX8_setSize_21 : decode cX8_setSize 21 = .ok (.iaload, 1) := by decide +kernel
theorem dX8_setSize_22 : decode cX8_setSize 22 = .ok (.istore_n 2, 1) := by decide +kernel
theorem dX8_setSize_23 : decode cX8_setSize 23 = .ok (.aload_n 0, 1) := by decide +kernel
theorem dX8_setSize_24 : decode cX8_setSize 24 = .ok (.iload_n 1, 1) := by decide +kernel
theorem dX8_setSize_25 : decode cX8_setSize 25 = .ok (.invokevirtual 38, 3) := by decide +kernel
theorem dX8_setSize_28 : decode cX8_setSize 28 = .ok (.iload_n 2, 1) := by decide +kernel
theorem dX8_setSize_29 : decode cX8_setSize 29 = .ok (.ireturn, 1) := by decide +kernel
theorem dX8_setsBit_0 : decode cX8_setsBit 0 = .ok (.aload_n 0, 1) := by decide +kernel
theorem dX8_setsBit_1 : decode cX8_setsBit 1 = .ok (.iload_n 1, 1) := by decide +kernel
theorem dX8_setsBit_2 : decode cX8_setsBit 2 = .ok (.iload_n 3, 1) := by decide +kernel
theorem dX8_setsBit_3 : decode cX8_setsBit 3 = .ok (.ifCond .eq 14, 3) := by decide +kernel
theorem dX8_setsBit_6 : decode cX8_setsBit 6 = .ok (.aload_n 0, 1) := by decide +kernel
theorem dX8_setsBit_7 : decode cX8_setsBit 7 = .ok (.getfield 7, 3) := by decide +kernel
theorem dX8_setsBit_10 : decode cX8_setsBit 10 = .ok (.iload_n 1, 1) := by decide +kernel
theorem dX8_setsBit_11 : decode cX8_setsBit 11 = .ok (.iaload, 1) := by decide +kernel
theorem dX8_setsBit_12 : decode cX8_setsBit 12 = .ok (.iload_n 2, 1) := by decide +kernel
theorem dX8_setsBit_13 : decode cX8_setsBit 13 = .ok (.ior, 1) := by decide +kernel
theorem dX8_setsBit_14 : decode cX8_setsBit 14 = .ok (.goto 13, 3) := by decide +kernel
theorem dX8_setsBit_17 : decode cX8_setsBit 17 = .ok (.aload_n 0, 1) := by decide +kernel
theorem dX8_setsBit_18 : decode cX8_setsBit 18 = .ok (.getfield 7, 3) := by decide +kernel
theorem dX8_setsBit_21 : decode cX8_setsBit 21 = .ok (.iload_n 1, 1) := by decide +kernel
theorem dX8_setsBit_22 : decode cX8_setsBit 22 = .ok (.iaload, 1) := by decide +kernel
theorem dX8_setsBit_23 : decode cX8_setsBit 23 = .ok (.iload_n 2, 1) := by decide +kernel
theorem dX8_setsBit_24 : decode cX8_setsBit 24 = .ok (.iconst (-1), 1) := by decide +kernel
theorem dX8_setsBit_25 : decode cX8_setsBit 25 = .ok (.ixor, 1) := by decide +kernel
theorem dX8_setsBit_26 : decode cX8_setsBit 26 = .ok (.iand, 1) := by decide +kernel
theorem dX8_setsBit_27 : decode cX8_setsBit 27 = .ok (.invokevirtual 99, 3) := by decide +kernel
theorem dX8_setsBit_30 : decode cX8_setsBit 30 = .ok (.istore 4, 2) := by decide +kernel
theorem dX8_setsBit_32 : decode cX8_setsBit 32 = .ok (.iload 4, 2) := by decide +kernel
theorem dX8_setsBit_34 : decode cX8_setsBit 34 = .ok (.iload_n 2, 1) := by decide +kernel
theorem dX8_setsBit_35 : decode cX8_setsBit 35 = .ok (.iand, 1) := by decide +kernel
theorem dX8_setsBit_36 : decode cX8_setsBit 36 = .ok (.ifCond .eq 7, 3) := by decide +kernel
theorem dX8_setsBit_39 : decode cX8_setsBit 39 = .ok (.iconst 1, 1) := by decide +kernel
theorem dX8_setsBit_40 : decode cX8_setsBit 40 = .ok (.goto 4, 3) := by decide +kernel
theorem dX8_setsBit_43 : decode cX8_setsBit 43 = .ok (.iconst 0, 1) := by decide +kernel
theorem dX8_setsBit_44 : decode cX8_setsBit 44 = .ok (.ireturn, 1) := by decide +kernel
theorem dX8_allowSize_0 : decode cX8_allowSize 0 = .ok (.iload_n 1, 1) := by decide +kernel
theorem dX8_allowSize_1 : decode cX8_allowSize 1 = .ok (.iconst 1, 1) := by decide +kernel
theorem dX8_allowSize_2 : decode cX8_allowSize 2 = .ok (.bipush 6, 2) := by decide +kernel
theorem dX8_allowSize_4 : decode cX8_allowSize 4 = .ok (.invokestatic 96, 3) := by decide +kernel
theorem dX8_allowSize_7 : decode cX8_allowSize 7 = .ok (.ifCond .eq 15, 3) := by decide +kernel
theorem dX8_allowSize_10 : decode cX8_allowSize 10 = .ok (.aload_n 0, 1) := by decide +kernel
theorem dX8_allowSize_11 : decode cX8_allowSize 11 = .ok (.iconst 1, 1) := by decide +kernel
theorem dX8_allowSize_12 : decode cX8_allowSize 12 = .ok (.iconst 1, 1) := by decide +kernel
theorem dX8_allowSize_13 : decode cX8_allowSize 13 = .ok (.iload_n 1, 1) := by decide +kernel
theorem dX8_allowSize_14 : decode cX8_allowSize 14 = .ok (.ishl, 1) := by decide +kernel
theorem dX8_allowSize_15 : decode cX8_allowSize 15 = .ok (.iload_n 2, 1) := by decide +kernel
theorem dX8_allowSize_16 : decode cX8_allowSize 16 = .ok (.invokevirtual 102, 3) := by decide +kernel
theorem dX8_allowSize_19 : decode cX8_allowSize 19 = .ok (.goto 4, 3) := by decide +kernel
theorem dX8_allowSize_22 : decode cX8_allowSize 22 = .ok (.iconst (-1), 1) := by decide +kernel
theorem dX8_allowSize_23 : decode cX8_allowSize 23 = .ok (.ireturn, 1) := by decide +kernel
theorem dX8_allowNumber_0 : decode cX8_allowNumber 0 = .ok (.iload_n 1, 1) := by decide +kernel
theorem dX8_allowNumber_1 : decode cX8_allowNumber 1 = .ok (.iconst 1, 1) := by decide +kernel
theorem dX8_allowNumber_2 : decode cX8_allowNumber 2 = .ok (.bipush 6, 2) := by decide +kernel
theorem dX8_allowNumber_4 : decode cX8_allowNumber 4 = .ok (.invokestatic 96, 3) := by decide +kernel
theorem dX8_allowNumber_7 : decode cX8_allowNumber 7 = .ok (.ifCond .eq 15, 3) := by decide +kernel
theorem dX8_allowNumber_10 : decode cX8_allowNumber 10 = .ok (.aload_n 0, 1) := by decide +kernel
theorem dX8_allowNumber_11 : decode cX8_allowNumber 11 = .ok (.iconst 2, 1) := by decide +kernel
theorem dX8_allowNumber_12 : decode cX8_allowNumber 12 = .ok (.iconst 1, 1) := by decide +kernel
theorem dX8_allowNumber_13 : decode cX8_allowNumber 13 = .ok (.iload_n 1, 1) := by decide +kernel
theorem dX8_allowNumber_14 : decode cX8_allowNumber 14 = .ok (.ishl, 1) := by decide +kernel
theorem dX8_allowNumber_15 : decode cX8_allowNumber 15 = .ok (.iload_n 2, 1) := by decide +kernel
theorem dX8_allowNumber_16 : decode cX8_allowNumber 16 = .ok (.invokevirtual 102, 3) := by decide +kernel
theorem dX8_allowNumber_19 : decode cX8_allowNumber 19 = .ok (.goto 4, 3) := by decide +kernel
theorem dX8_allowNumber_22 : decode cX8_allowNumber 22 = .ok (.iconst (-1), 1) := by decide +kernel
theorem dX8_allowNumber_23 : decode cX8_allowNumber 23 = .ok (.ireturn, 1) := by decide +kernel
theorem dX8_isElement_0 : decode cX8_isElement 0 = .ok (.iload_n 1, 1) := by decide +kernel
theorem dX8_isElement_1 : decode cX8_isElement 1 = .ok (.iconst 0, 1) := by decide +kernel
theorem dX8_isElement_2 : decode cX8_isElement 2 = .ok (.aload_n 0, 1) := by decide +kernel
theorem dX8_isElement_3 : decode cX8_isElement 3 = .ok (.getfield 7, 3) := by decide +kernel
theorem dX8_isElement_6 : decode cX8_isElement 6 = .ok (.iconst 0, 1) := by decide +kernel
theorem dX8_isElement_7 : decode cX8_isElement 7 = .ok (.iaload, 1) := by decide +kernel
theorem dX8_isElement_8 : decode cX8_isElement 8 = .ok (.iconst 1, 1) := by decide +kernel
theorem dX8_isElement_9 : decode cX8_isElement 9 = .ok (.isub, 1) := by decide +kernel
theorem dX8_isElement_10 : decode cX8_isElement 10 = .ok (.invokestatic 96, 3) := by decide +kernel
theorem dX8_isElement_13 : decode cX8_isElement 13 = .ok (.ireturn, 1) := by decide +kernel
theorem dX8_isPair_0 : decode cX8_isPair 0 = .ok (.aload_n 0, 1) := by decide +kernel
theorem dX8_isPair_1 : decode cX8_isPair 1 = .ok (.iload_n 1, 1) := by decide +kernel
theorem dX8_isPair_2 : decode cX8_isPair 2 = .ok (.invokevirtual 105, 3) := by decide +kernel
theorem dX8_isPair_5 : decode cX8_isPair 5 = .ok (.ifCond .eq 20, 3) := by decide +kernel
theorem dX8_isPair_8 : decode cX8_isPair 8 = .ok (.aload_n 0, 1) := by decide +kernel
theorem dX8_isPair_9 : decode cX8_isPair 9 = .ok (.iload_n 2, 1) := by decide +kernel
theorem dX8_isPair_10 : decode cX8_isPair 10 = .ok (.invokevirtual 105, 3) := by decide +kernel
theorem dX8_isPair_13 : decode cX8_isPair 13 = .ok (.ifCond .eq 12, 3) := by decide +kernel
theorem dX8_isPair_16 : decode cX8_isPair 16 = .ok (.iload_n 1, 1) := by decide +kernel
theorem dX8_isPair_17 : decode cX8_isPair 17 = .ok (.iload_n 2, 1) := by decide +kernel
theorem dX8_isPair_18 : decode cX8_isPair 18 = .ok (.if_icmp .eq 7, 3) := by decide +kernel
theorem dX8_isPair_21 : decode cX8_isPair 21 = .ok (.iconst 1, 1) := by decide +kernel
theorem dX8_isPair_22 : decode cX8_isPair 22 = .ok (.goto 4, 3) := by decide +kernel
theorem dX8_isPair_25 : decode cX8_isPair 25 = .ok (.iconst 0, 1) := by decide +kernel
theorem dX8_isPair_26 : decode cX8_isPair 26 = .ok (.ireturn, 1) := by decide +kernel
theorem dX8_apart_0 : decode cX8_apart 0 = .ok (.aload_n 0, 1) := by decide +kernel
theorem dX8_apart_1 : decode cX8_apart 1 = .ok (.iload_n 1, 1) := by decide +kernel
theorem dX8_apart_2 : decode cX8_apart 2 = .ok (.iload_n 2, 1) := by decide +kernel
theorem dX8_apart_3 : decode cX8_apart 3 = .ok (.invokevirtual 109, 3) := by decide +kernel
theorem dX8_apart_6 : decode cX8_apart 6 = .ok (.ifCond .eq 17, 3) := by decide +kernel
theorem dX8_apart_9 : decode cX8_apart 9 = .ok (.aload_n 0, 1) := by decide +kernel
theorem dX8_apart_10 : decode cX8_apart 10 = .ok (.iconst 3, 1) := by decide +kernel
theorem dX8_apart_11 : decode cX8_apart 11 = .ok (.iload_n 1, 1) := by decide +kernel
theorem dX8_apart_12 : decode cX8_apart 12 = .ok (.iload_n 2, 1) := by decide +kernel
theorem dX8_apart_13 : decode cX8_apart 13 = .ok (.invokestatic 73, 3) := by decide +kernel
theorem dX8_apart_16 : decode cX8_apart 16 = .ok (.iload_n 3, 1) := by decide +kernel
theorem dX8_apart_17 : decode cX8_apart 17 = .ok (.invokevirtual 102, 3) := by decide +kernel
theorem dX8_apart_20 : decode cX8_apart 20 = .ok (.goto 4, 3) := by decide +kernel
theorem dX8_apart_23 : decode cX8_apart 23 = .ok (.iconst (-1), 1) := by decide +kernel
theorem dX8_apart_24 : decode cX8_apart 24 = .ok (.ireturn, 1) := by decide +kernel
theorem dX8_together_0 : decode cX8_together 0 = .ok (.aload_n 0, 1) := by decide +kernel
theorem dX8_together_1 : decode cX8_together 1 = .ok (.iload_n 1, 1) := by decide +kernel
theorem dX8_together_2 : decode cX8_together 2 = .ok (.iload_n 2, 1) := by decide +kernel
theorem dX8_together_3 : decode cX8_together 3 = .ok (.invokevirtual 109, 3) := by decide +kernel
theorem dX8_together_6 : decode cX8_together 6 = .ok (.ifCond .eq 17, 3) := by decide +kernel
theorem dX8_together_9 : decode cX8_together 9 = .ok (.aload_n 0, 1) := by decide +kernel
theorem dX8_together_10 : decode cX8_together 10 = .ok (.iconst 4, 1) := by decide +kernel
theorem dX8_together_11 : decode cX8_together 11 = .ok (.iload_n 1, 1) := by decide +kernel
theorem dX8_together_12 : decode cX8_together 12 = .ok (.iload_n 2, 1) := by decide +kernel
theorem dX8_together_13 : decode cX8_together 13 = .ok (.invokestatic 73, 3) := by decide +kernel
theorem dX8_together_16 : decode cX8_together 16 = .ok (.iload_n 3, 1) := by decide +kernel
theorem dX8_together_17 : decode cX8_together 17 = .ok (.invokevirtual 102, 3) := by decide +kernel
theorem dX8_together_20 : decode cX8_together 20 = .ok (.goto 4, 3) := by decide +kernel
theorem dX8_together_23 : decode cX8_together 23 = .ok (.iconst (-1), 1) := by decide +kernel
theorem dX8_together_24 : decode cX8_together 24 = .ok (.ireturn, 1) := by decide +kernel
theorem dX8_noncrossing_0 : decode cX8_noncrossing 0 = .ok (.aload_n 0, 1) := by decide +kernel
theorem dX8_noncrossing_1 : decode cX8_noncrossing 1 = .ok (.iconst 5, 1) := by decide +kernel
theorem dX8_noncrossing_2 : decode cX8_noncrossing 2 = .ok (.iload_n 1, 1) := by decide +kernel
theorem dX8_noncrossing_3 : decode cX8_noncrossing 3 = .ok (.ifCond .eq 7, 3) := by decide +kernel
theorem dX8_noncrossing_6 : decode cX8_noncrossing 6 = .ok (.iconst 1, 1) := by decide +kernel
theorem dX8_noncrossing_7 : decode cX8_noncrossing 7 = .ok (.goto 4, 3) := by decide +kernel
theorem dX8_noncrossing_10 : decode cX8_noncrossing 10 = .ok (.iconst 0, 1) := by decide +kernel
theorem dX8_noncrossing_11 : decode cX8_noncrossing 11 = .ok (.invokevirtual 99, 3) := by decide +kernel
theorem dX8_noncrossing_14 : decode cX8_noncrossing 14 = .ok (.ireturn, 1) := by decide +kernel
theorem dX8_type_0 : decode cX8_type 0 = .ok (.iload_n 1, 1) := by decide +kernel
theorem dX8_type_1 : decode cX8_type 1 = .ok (.iconst 0, 1) := by decide +kernel
theorem dX8_type_2 : decode cX8_type 2 = .ok (.bipush 127, 2) := by decide +kernel
theorem dX8_type_4 : decode cX8_type 4 = .ok (.invokestatic 96, 3) := by decide +kernel
theorem dX8_type_7 : decode cX8_type 7 = .ok (.ifCond .ne 5, 3) := by decide +kernel
theorem dX8_type_10 : decode cX8_type 10 = .ok (.iconst (-1), 1) := by decide +kernel
theorem dX8_type_11 : decode cX8_type 11 = .ok (.ireturn, 1) := by decide +kernel
theorem dX8_type_12 : decode cX8_type 12 = .ok (.aload_n 0, 1) := by decide +kernel
theorem dX8_type_13 : decode cX8_type 13 = .ok (.getfield 112, 3) := by decide +kernel
theorem dX8_type_16 : decode cX8_type 16 = .ok (.bipush 20, 2) := by decide +kernel
theorem dX8_type_18 : decode cX8_type 18 = .ok (.if_icmp .ne 6, 3) := by decide +kernel
theorem dX8_type_21 : decode cX8_type 21 = .ok (.bipush (-4), 2) := by decide +kernel
theorem dX8_type_23 : decode cX8_type 23 = .ok (.ireturn, 1) := by decide +kernel
theorem dX8_type_24 : decode cX8_type 24 = .ok (.aload_n 0, 1) := by decide +kernel
theorem dX8_type_25 : decode cX8_type 25 = .ok (.getfield 13, 3) := by decide +kernel
theorem dX8_type_28 : decode cX8_type 28 = .ok (.aload_n 0, 1) := by decide +kernel
theorem dX8_type_29 : decode cX8_type 29 = .ok (.getfield 112, 3) := by decide +kernel
theorem dX8_type_32 : decode cX8_type 32 = .ok (.iload_n 1, 1) := by decide +kernel
theorem dX8_type_33 : decode cX8_type 33 = .ok (.iastore, 1) := by decide +kernel
theorem dX8_type_34 : decode cX8_type 34 = .ok (.aload_n 0, 1) := by decide +kernel
theorem dX8_type_35 : decode cX8_type 35 = .ok (.dup, 1) := by decide +kernel
theorem dX8_type_36 : decode cX8_type 36 = .ok (.getfield 112, 3) := by decide +kernel
theorem dX8_type_39 : decode cX8_type 39 = .ok (.iconst 1, 1) := by decide +kernel
theorem dX8_type_40 : decode cX8_type 40 = .ok (.iadd, 1) := by decide +kernel
theorem dX8_type_41 : decode cX8_type 41 = .ok (.putfield 112, 3) := by decide +kernel
theorem dX8_type_44 : decode cX8_type 44 = .ok (.aload_n 0, 1) := by decide +kernel
theorem dX8_type_45 : decode cX8_type 45 = .ok (.getfield 112, 3) := by decide +kernel
theorem dX8_type_48 : decode cX8_type 48 = .ok (.ireturn, 1) := by decide +kernel
theorem dX8_clear_0 : decode cX8_clear 0 = .ok (.aload_n 0, 1) := by decide +kernel
theorem dX8_clear_1 : decode cX8_clear 1 = .ok (.getfield 112, 3) := by decide +kernel
theorem dX8_clear_4 : decode cX8_clear 4 = .ok (.istore_n 1, 1) := by decide +kernel
theorem dX8_clear_5 : decode cX8_clear 5 = .ok (.aload_n 0, 1) := by decide +kernel
theorem dX8_clear_6 : decode cX8_clear 6 = .ok (.iconst 0, 1) := by decide +kernel
theorem dX8_clear_7 : decode cX8_clear 7 = .ok (.putfield 112, 3) := by decide +kernel
theorem dX8_clear_10 : decode cX8_clear 10 = .ok (.iload_n 1, 1) := by decide +kernel
theorem dX8_clear_11 : decode cX8_clear 11 = .ok (.ireturn, 1) := by decide +kernel
theorem dX8_isRegister_0 : decode cX8_isRegister 0 = .ok (.iload_n 0, 1) := by decide +kernel
theorem dX8_isRegister_1 : decode cX8_isRegister 1 = .ok (.iconst 0, 1) := by decide +kernel
theorem dX8_isRegister_2 : decode cX8_isRegister 2 = .ok (.bipush 7, 2) := by decide +kernel
theorem dX8_isRegister_4 : decode cX8_isRegister 4 = .ok (.invokestatic 96, 3) := by decide +kernel
theorem dX8_isRegister_7 : decode cX8_isRegister 7 = .ok (.ireturn, 1) := by decide +kernel
theorem dX8_held_0 : decode cX8_held 0 = .ok (.aload_n 0, 1) := by decide +kernel
theorem dX8_held_1 : decode cX8_held 1 = .ok (.getfield 7, 3) := by decide +kernel
theorem dX8_held_4 : decode cX8_held 4 = .ok (.bipush 6, 2) := by decide +kernel
theorem dX8_held_6 : decode cX8_held 6 = .ok (.iload_n 1, 1) := by decide +kernel
theorem dX8_held_7 : decode cX8_held 7 = .ok (.iadd, 1) := by decide +kernel
theorem dX8_held_8 : decode cX8_held 8 = .ok (.iaload, 1) := by decide +kernel
theorem dX8_held_9 : decode cX8_held 9 = .ok (.ireturn, 1) := by decide +kernel
theorem dX8_puts_0 : decode cX8_puts 0 = .ok (.aload_n 0, 1) := by decide +kernel
theorem dX8_puts_1 : decode cX8_puts 1 = .ok (.invokevirtual 93, 3) := by decide +kernel
theorem dX8_puts_4 : decode cX8_puts 4 = .ok (.aload_n 0, 1) := by decide +kernel
theorem dX8_puts_5 : decode cX8_puts 5 = .ok (.getfield 7, 3) := by decide +kernel
theorem dX8_puts_8 : decode cX8_puts 8 = .ok (.bipush 6, 2) := by decide +kernel
theorem dX8_puts_10 : decode cX8_puts 10 = .ok (.iload_n 1, 1) := by decide +kernel
theorem dX8_puts_11 : decode cX8_puts 11 = .ok (.iadd, 1) := by decide +kernel
theorem dX8_puts_12 : decode cX8_puts 12 = .ok (.iload_n 2, 1) := by decide +kernel
theorem dX8_puts_13 : decode cX8_puts 13 = .ok (.iastore, 1) := by decide +kernel
theorem dX8_puts_14 : decode cX8_puts 14 = .ok (.aload_n 0, 1) := by decide +kernel
theorem dX8_puts_15 : decode cX8_puts 15 = .ok (.getfield 19, 3) := by decide +kernel
theorem dX8_puts_18 : decode cX8_puts 18 = .ok (.iload_n 2, 1) := by decide +kernel
theorem dX8_puts_19 : decode cX8_puts 19 = .ok (.iaload, 1) := by decide +kernel
theorem dX8_puts_20 : decode cX8_puts 20 = .ok (.ireturn, 1) := by decide +kernel
theorem dX8_reads_0 : decode cX8_reads 0 = .ok (.iconst 1, 1) := by decide +kernel
theorem dX8_reads_1 : decode cX8_reads 1 = .ok (.aload_n 0, 1) := by decide +kernel
theorem dX8_reads_2 : decode cX8_reads 2 = .ok (.getfield 7, 3) := by decide +kernel
theorem dX8_reads_5 : decode cX8_reads 5 = .ok (.iconst 0, 1) := by decide +kernel
theorem dX8_reads_6 : decode cX8_reads 6 = .ok (.iaload, 1) := by decide +kernel
theorem dX8_reads_7 : decode cX8_reads 7 = .ok (.ishl, 1) := by decide +kernel
theorem dX8_reads_8 : decode cX8_reads 8 = .ok (.iconst 1, 1) := by decide +kernel
theorem dX8_reads_9 : decode cX8_reads 9 = .ok (.isub, 1) := by decide +kernel
theorem dX8_reads_10 : decode cX8_reads 10 = .ok (.istore_n 1, 1) := by decide +kernel
theorem dX8_reads_11 : decode cX8_reads 11 = .ok (.iconst 0, 1) := by decide +kernel
theorem dX8_reads_12 : decode cX8_reads 12 = .ok (.istore_n 2, 1) := by decide +kernel
theorem dX8_reads_13 : decode cX8_reads 13 = .ok (.iconst 0, 1) := by decide +kernel
theorem dX8_reads_14 : decode cX8_reads 14 = .ok (.istore_n 3, 1) := by decide +kernel
theorem dX8_reads_15 : decode cX8_reads 15 = .ok (.iconst 0, 1) := by decide +kernel
theorem dX8_reads_16 : decode cX8_reads 16 = .ok (.istore 4, 2) := by decide +kernel
theorem dX8_reads_18 : decode cX8_reads 18 = .ok (.iload 4, 2) := by decide +kernel
theorem dX8_reads_20 : decode cX8_reads 20 = .ok (.aload_n 0, 1) := by decide +kernel
theorem dX8_reads_21 : decode cX8_reads 21 = .ok (.getfield 112, 3) := by decide +kernel
theorem dX8_reads_24 : decode cX8_reads 24 = .ok (.if_icmp .ge 97, 3) := by decide +kernel
theorem dX8_reads_27 : decode cX8_reads 27 = .ok (.aload_n 0, 1) := by decide +kernel
theorem dX8_reads_28 : decode cX8_reads 28 = .ok (.getfield 13, 3) := by decide +kernel
theorem dX8_reads_31 : decode cX8_reads 31 = .ok (.iload 4, 2) := by decide +kernel
theorem dX8_reads_33 : decode cX8_reads 33 = .ok (.iaload, 1) := by decide +kernel
theorem dX8_reads_34 : decode cX8_reads 34 = .ok (.bipush 48, 2) := by decide +kernel
theorem dX8_reads_36 : decode cX8_reads 36 = .ok (.isub, 1) := by decide +kernel
theorem dX8_reads_37 : decode cX8_reads 37 = .ok (.istore 5, 2) := by decide +kernel
theorem dX8_reads_39 : decode cX8_reads 39 = .ok (.iload 5, 2) := by decide +kernel
theorem dX8_reads_41 : decode cX8_reads 41 = .ok (.iconst 0, 1) := by decide +kernel
theorem dX8_reads_42 : decode cX8_reads 42 = .ok (.aload_n 0, 1) := by decide +kernel
theorem dX8_reads_43 : decode cX8_reads 43 = .ok (.getfield 7, 3) := by decide +kernel
theorem dX8_reads_46 : decode cX8_reads 46 = .ok (.iconst 0, 1) := by decide +kernel
theorem dX8_reads_47 : decode cX8_reads 47 = .ok (.iaload, 1) := by decide +kernel
theorem dX8_reads_48 : decode cX8_reads 48 = .ok (.iconst 1, 1) := by decide +kernel
theorem dX8_reads_49 : decode cX8_reads 49 = .ok (.isub, 1) := by decide +kernel
theorem dX8_reads_50 : decode cX8_reads 50 = .ok (.invokestatic 96, 3) := by decide +kernel
theorem dX8_reads_53 : decode cX8_reads 53 = .ok (.ifCond .eq 35, 3) := by decide +kernel
theorem dX8_reads_56 : decode cX8_reads 56 = .ok (.iload_n 1, 1) := by decide +kernel
theorem dX8_reads_57 : decode cX8_reads 57 = .ok (.iload 5, 2) := by decide +kernel
theorem dX8_reads_59 : decode cX8_reads 59 = .ok (.ishr, 1) := by decide +kernel
theorem dX8_reads_60 : decode cX8_reads 60 = .ok (.iconst 1, 1) := by decide +kernel
theorem dX8_reads_61 : decode cX8_reads 61 = .ok (.iand, 1) := by decide +kernel
theorem dX8_reads_62 : decode cX8_reads 62 = .ok (.iconst 1, 1) := by decide +kernel
theorem dX8_reads_63 : decode cX8_reads 63 = .ok (.if_icmp .ne 25, 3) := by decide +kernel
theorem dX8_reads_66 : decode cX8_reads 66 = .ok (.iload_n 1, 1) := by decide +kernel
theorem dX8_reads_67 : decode cX8_reads 67 = .ok (.iconst 1, 1) := by decide +kernel
theorem dX8_reads_68 : decode cX8_reads 68 = .ok (.iload 5, 2) := by decide +kernel
theorem dX8_reads_70 : decode cX8_reads 70 = .ok (.ishl, 1) := by decide +kernel
theorem dX8_reads_71 : decode cX8_reads 71 = .ok (.iconst (-1), 1) := by decide +kernel
theorem dX8_reads_72 : decode cX8_reads 72 = .ok (.ixor, 1) := by decide +kernel
theorem dX8_reads_73 : decode cX8_reads 73 = .ok (.iand, 1) := by decide +kernel
theorem dX8_reads_74 : decode cX8_reads 74 = .ok (.istore_n 1, 1) := by decide +kernel
theorem dX8_reads_75 : decode cX8_reads 75 = .ok (.aload_n 0, 1) := by decide +kernel
theorem dX8_reads_76 : decode cX8_reads 76 = .ok (.getfield 25, 3) := by decide +kernel
theorem dX8_reads_79 : decode cX8_reads 79 = .ok (.iload 5, 2) := by decide +kernel
theorem dX8_reads_81 : decode cX8_reads 81 = .ok (.iload_n 2, 1) := by decide +kernel
theorem dX8_reads_82 : decode cX8_reads 82 = .ok (.iastore, 1) := by decide +kernel
theorem dX8_reads_83 : decode cX8_reads 83 = .ok (.iconst 1, 1) := by decide +kernel
theorem dX8_reads_84 : decode cX8_reads 84 = .ok (.istore_n 3, 1) := by decide +kernel
theorem dX8_reads_85 : decode cX8_reads 85 = .ok (.goto 30, 3) := by decide +kernel
theorem dX8_reads_88 : decode cX8_reads 88 = .ok (.aload_n 0, 1) := by decide +kernel
theorem dX8_reads_89 : decode cX8_reads 89 = .ok (.getfield 13, 3) := by decide +kernel
theorem dX8_reads_92 : decode cX8_reads 92 = .ok (.iload 4, 2) := by decide +kernel
theorem dX8_reads_94 : decode cX8_reads 94 = .ok (.iaload, 1) := by decide +kernel
theorem dX8_reads_95 : decode cX8_reads 95 = .ok (.bipush 47, 2) := by decide +kernel
theorem dX8_reads_97 : decode cX8_reads 97 = .ok (.if_icmp .ne 15, 3) := by decide +kernel
theorem dX8_reads_100 : decode cX8_reads 100 = .ok (.iload_n 3, 1) := by decide +kernel
theorem dX8_reads_101 : decode cX8_reads 101 = .ok (.ifCond .eq 11, 3) := by decide +kernel
theorem dX8_reads_104 : decode cX8_reads 104 = .ok (.iinc 2 1, 3) := by decide +kernel
theorem dX8_reads_107 : decode cX8_reads 107 = .ok (.iconst 0, 1) := by decide +kernel
theorem dX8_reads_108 : decode cX8_reads 108 = .ok (.istore_n 3, 1) := by decide +kernel
theorem dX8_reads_109 : decode cX8_reads 109 = .ok (.goto 6, 3) := by decide +kernel
theorem dX8_reads_112 : decode cX8_reads 112 = .ok (.iload 4, 2) := by decide +kernel
theorem dX8_reads_114 : decode cX8_reads 114 = .ok (.ireturn, 1) := by decide +kernel
theorem dX8_reads_115 : decode cX8_reads 115 = .ok (.iinc 4 1, 3) := by decide +kernel
theorem dX8_reads_118 : decode cX8_reads 118 = .ok (.goto (-100), 3) := by decide +kernel
theorem dX8_reads_121 : decode cX8_reads 121 = .ok (.iload_n 1, 1) := by decide +kernel
theorem dX8_reads_122 : decode cX8_reads 122 = .ok (.ifCond .ne 12, 3) := by decide +kernel
theorem dX8_reads_125 : decode cX8_reads 125 = .ok (.iload_n 3, 1) := by decide +kernel
theorem dX8_reads_126 : decode cX8_reads 126 = .ok (.ifCond .eq 8, 3) := by decide +kernel
theorem dX8_reads_129 : decode cX8_reads 129 = .ok (.bipush (-9), 2) := by decide +kernel
theorem dX8_reads_131 : decode cX8_reads 131 = .ok (.goto 7, 3) := by decide +kernel
theorem dX8_reads_134 : decode cX8_reads 134 = .ok (.aload_n 0, 1) := by decide +kernel
theorem dX8_reads_135 : decode cX8_reads 135 = .ok (.getfield 112, 3) := by decide +kernel
theorem dX8_reads_138 : decode cX8_reads 138 = .ok (.ireturn, 1) := by decide +kernel
theorem dX8_read_0 : decode cX8_read 0 = .ok (.iload_n 1, 1) := by decide +kernel
theorem dX8_read_1 : decode cX8_read 1 = .ok (.invokestatic 115, 3) := by decide +kernel
theorem dX8_read_4 : decode cX8_read 4 = .ok (.ifCond .ne 5, 3) := by decide +kernel
theorem dX8_read_7 : decode cX8_read 7 = .ok (.iconst (-1), 1) := by decide +kernel
theorem dX8_read_8 : decode cX8_read 8 = .ok (.ireturn, 1) := by decide +kernel
theorem dX8_read_9 : decode cX8_read 9 = .ok (.aload_n 0, 1) := by decide +kernel
theorem dX8_read_10 : decode cX8_read 10 = .ok (.invokevirtual 118, 3) := by decide +kernel
theorem dX8_read_13 : decode cX8_read 13 = .ok (.istore_n 2, 1) := by decide +kernel
theorem dX8_read_14 : decode cX8_read 14 = .ok (.iload_n 2, 1) := by decide +kernel
theorem dX8_read_15 : decode cX8_read 15 = .ok (.bipush (-9), 2) := by decide +kernel
theorem dX8_read_17 : decode cX8_read 17 = .ok (.if_icmp .eq 10, 3) := by decide +kernel
theorem dX8_read_20 : decode cX8_read 20 = .ok (.bipush (-10), 2) := by decide +kernel
theorem dX8_read_22 : decode cX8_read 22 = .ok (.iload_n 2, 1) := by decide +kernel
theorem dX8_read_23 : decode cX8_read 23 = .ok (.isub, 1) := by decide +kernel
theorem dX8_read_24 : decode cX8_read 24 = .ok (.goto 12, 3) := by decide +kernel
theorem dX8_read_27 : decode cX8_read 27 = .ok (.aload_n 0, 1) := by decide +kernel
theorem dX8_read_28 : decode cX8_read 28 = .ok (.iload_n 1, 1) := by decide +kernel
theorem dX8_read_29 : decode cX8_read 29 = .ok (.aload_n 0, 1) := by decide +kernel
theorem dX8_read_30 : decode cX8_read 30 = .ok (.invokevirtual 122, 3) := by decide +kernel
theorem dX8_read_33 : decode cX8_read 33 = .ok (.invokevirtual 125, 3) := by decide +kernel
theorem dX8_read_36 : decode cX8_read 36 = .ok (.ireturn, 1) := by decide +kernel
theorem dX8_finest_0 : decode cX8_finest 0 = .ok (.iload_n 1, 1) := by decide +kernel
theorem dX8_finest_1 : decode cX8_finest 1 = .ok (.invokestatic 115, 3) := by decide +kernel
theorem dX8_finest_4 : decode cX8_finest 4 = .ok (.ifCond .eq 17, 3) := by decide +kernel
theorem dX8_finest_7 : decode cX8_finest 7 = .ok (.aload_n 0, 1) := by decide +kernel
theorem dX8_finest_8 : decode cX8_finest 8 = .ok (.iload_n 1, 1) := by decide +kernel
theorem dX8_finest_9 : decode cX8_finest 9 = .ok (.aload_n 0, 1) := by decide +kernel
theorem dX8_finest_10 : decode cX8_finest 10 = .ok (.getfield 52, 3) := by decide +kernel
theorem dX8_finest_13 : decode cX8_finest 13 = .ok (.iconst 1, 1) := by decide +kernel
theorem dX8_finest_14 : decode cX8_finest 14 = .ok (.isub, 1) := by decide +kernel
theorem dX8_finest_15 : decode cX8_finest 15 = .ok (.invokevirtual 125, 3) := by decide +kernel
theorem dX8_finest_18 : decode cX8_finest 18 = .ok (.goto 4, 3) := by decide +kernel
theorem dX8_finest_21 : decode cX8_finest 21 = .ok (.iconst (-1), 1) := by decide +kernel
theorem dX8_finest_22 : decode cX8_finest 22 = .ok (.ireturn, 1) := by decide +kernel
theorem dX8_coarsest_0 : decode cX8_coarsest 0 = .ok (.iload_n 1, 1) := by decide +kernel
theorem dX8_coarsest_1 : decode cX8_coarsest 1 = .ok (.invokestatic 115, 3) := by decide +kernel
theorem dX8_coarsest_4 : decode cX8_coarsest 4 = .ok (.ifCond .eq 12, 3) := by decide +kernel
theorem dX8_coarsest_7 : decode cX8_coarsest 7 = .ok (.aload_n 0, 1) := by decide +kernel
theorem dX8_coarsest_8 : decode cX8_coarsest 8 = .ok (.iload_n 1, 1) := by decide +kernel
theorem dX8_coarsest_9 : decode cX8_coarsest 9 = .ok (.iconst 0, 1) := by decide +kernel
theorem dX8_coarsest_10 : decode cX8_coarsest 10 = .ok (.invokevirtual 125, 3) := by decide +kernel
theorem dX8_coarsest_13 : decode cX8_coarsest 13 = .ok (.goto 4, 3) := by decide +kernel
theorem dX8_coarsest_16 : decode cX8_coarsest 16 = .ok (.iconst (-1), 1) := by decide +kernel
theorem dX8_coarsest_17 : decode cX8_coarsest 17 = .ok (.ireturn, 1) := by decide +kernel
theorem dX8_wrong_0 : decode cX8_wrong 0 = .ok (.iload_n 1, 1) := by decide +kernel
theorem dX8_wrong_1 : decode cX8_wrong 1 = .ok (.invokestatic 115, 3) := by decide +kernel
theorem dX8_wrong_4 : decode cX8_wrong 4 = .ok (.ifCond .ne 7, 3) := by decide +kernel
theorem dX8_wrong_7 : decode cX8_wrong 7 = .ok (.iconst (-1), 1) := by decide +kernel
theorem dX8_wrong_8 : decode cX8_wrong 8 = .ok (.goto 19, 3) := by decide +kernel
theorem dX8_wrong_11 : decode cX8_wrong 11 = .ok (.aload_n 0, 1) := by decide +kernel
theorem dX8_wrong_12 : decode cX8_wrong 12 = .ok (.iload_n 1, 1) := by decide +kernel
theorem dX8_wrong_13 : decode cX8_wrong 13 = .ok (.invokevirtual 128, 3) := by decide +kernel
theorem dX8_wrong_16 : decode cX8_wrong 16 = .ok (.bipush (-9), 2) := by decide +kernel
theorem dX8_wrong_18 : decode cX8_wrong 18 = .ok (.if_icmp .ne 8, 3) := by decide +kernel
theorem dX8_wrong_21 : decode cX8_wrong 21 = .ok (.bipush (-2), 2) := by decide +kernel
theorem dX8_wrong_23 : decode cX8_wrong 23 = .ok (.goto 4, 3) := by decide +kernel
theorem dX8_wrong_26 : decode cX8_wrong 26 = .ok (.iconst 0, 1) := by decide +kernel
theorem dX8_wrong_27 : decode cX8_wrong 27 = .ok (.ireturn, 1) := by decide +kernel
theorem dX8_wrongOf_0 : decode cX8_wrongOf 0 = .ok (.iload_n 1, 1) := by decide +kernel
theorem dX8_wrongOf_1 : decode cX8_wrongOf 1 = .ok (.invokestatic 115, 3) := by decide +kernel
theorem dX8_wrongOf_4 : decode cX8_wrongOf 4 = .ok (.ifCond .eq 10, 3) := by decide +kernel
theorem dX8_wrongOf_7 : decode cX8_wrongOf 7 = .ok (.iload_n 2, 1) := by decide +kernel
theorem dX8_wrongOf_8 : decode cX8_wrongOf 8 = .ok (.invokestatic 115, 3) := by decide +kernel
theorem dX8_wrongOf_11 : decode cX8_wrongOf 11 = .ok (.ifCond .ne 7, 3) := by decide +kernel
theorem dX8_wrongOf_14 : decode cX8_wrongOf 14 = .ok (.iconst (-1), 1) := by decide +kernel
theorem dX8_wrongOf_15 : decode cX8_wrongOf 15 = .ok (.goto 29, 3) := by decide +kernel
theorem dX8_wrongOf_18 : decode cX8_wrongOf 18 = .ok (.aload_n 0, 1) := by decide +kernel
theorem dX8_wrongOf_19 : decode cX8_wrongOf 19 = .ok (.iload_n 1, 1) := by decide +kernel
theorem dX8_wrongOf_20 : decode cX8_wrongOf 20 = .ok (.invokevirtual 128, 3) := by decide +kernel
theorem dX8_wrongOf_23 : decode cX8_wrongOf 23 = .ok (.bipush (-9), 2) := by decide +kernel
theorem dX8_wrongOf_25 : decode cX8_wrongOf 25 = .ok (.if_icmp .eq 13, 3) := by decide +kernel
theorem dX8_wrongOf_28 : decode cX8_wrongOf 28 = .ok (.aload_n 0, 1) := by decide +kernel
theorem dX8_wrongOf_29 : decode cX8_wrongOf 29 = .ok (.iload_n 2, 1) := by decide +kernel
theorem dX8_wrongOf_30 : decode cX8_wrongOf 30 = .ok (.invokevirtual 128, 3) := by decide +kernel
theorem dX8_wrongOf_33 : decode cX8_wrongOf 33 = .ok (.bipush (-9), 2) := by decide +kernel
theorem dX8_wrongOf_35 : decode cX8_wrongOf 35 = .ok (.if_icmp .ne 8, 3) := by decide +kernel
theorem dX8_wrongOf_38 : decode cX8_wrongOf 38 = .ok (.bipush (-2), 2) := by decide +kernel
theorem dX8_wrongOf_40 : decode cX8_wrongOf 40 = .ok (.goto 4, 3) := by decide +kernel
theorem dX8_wrongOf_43 : decode cX8_wrongOf 43 = .ok (.iconst 0, 1) := by decide +kernel
theorem dX8_wrongOf_44 : decode cX8_wrongOf 44 = .ok (.ireturn, 1) := by decide +kernel
theorem dX8_copy_0 : decode cX8_copy 0 = .ok (.iload_n 2, 1) := by decide +kernel
theorem dX8_copy_1 : decode cX8_copy 1 = .ok (.invokestatic 115, 3) := by decide +kernel
theorem dX8_copy_4 : decode cX8_copy 4 = .ok (.ifCond .ne 5, 3) := by decide +kernel
theorem dX8_copy_7 : decode cX8_copy 7 = .ok (.iconst (-1), 1) := by decide +kernel
theorem dX8_copy_8 : decode cX8_copy 8 = .ok (.ireturn, 1) := by decide +kernel
theorem dX8_copy_9 : decode cX8_copy 9 = .ok (.aload_n 0, 1) := by decide +kernel
theorem dX8_copy_10 : decode cX8_copy 10 = .ok (.iload_n 1, 1) := by decide +kernel
theorem dX8_copy_11 : decode cX8_copy 11 = .ok (.invokevirtual 131, 3) := by decide +kernel
theorem dX8_copy_14 : decode cX8_copy 14 = .ok (.istore_n 3, 1) := by decide +kernel
theorem dX8_copy_15 : decode cX8_copy 15 = .ok (.iload_n 3, 1) := by decide +kernel
theorem dX8_copy_16 : decode cX8_copy 16 = .ok (.ifCond .eq 7, 3) := by decide +kernel
theorem dX8_copy_19 : decode cX8_copy 19 = .ok (.iload_n 3, 1) := by decide +kernel
theorem dX8_copy_20 : decode cX8_copy 20 = .ok (.goto 13, 3) := by decide +kernel
theorem dX8_copy_23 : decode cX8_copy 23 = .ok (.aload_n 0, 1) := by decide +kernel
theorem dX8_copy_24 : decode cX8_copy 24 = .ok (.iload_n 2, 1) := by decide +kernel
theorem dX8_copy_25 : decode cX8_copy 25 = .ok (.aload_n 0, 1) := by decide +kernel
theorem dX8_copy_26 : decode cX8_copy 26 = .ok (.iload_n 1, 1) := by decide +kernel
theorem dX8_copy_27 : decode cX8_copy 27 = .ok (.invokevirtual 128, 3) := by decide +kernel
theorem dX8_copy_30 : decode cX8_copy 30 = .ok (.invokevirtual 125, 3) := by decide +kernel
theorem dX8_copy_33 : decode cX8_copy 33 = .ok (.ireturn, 1) := by decide +kernel
theorem dX8_meet_0 : decode cX8_meet 0 = .ok (.iload_n 3, 1) := by decide +kernel
theorem dX8_meet_1 : decode cX8_meet 1 = .ok (.invokestatic 115, 3) := by decide +kernel
theorem dX8_meet_4 : decode cX8_meet 4 = .ok (.ifCond .ne 5, 3) := by decide +kernel
theorem dX8_meet_7 : decode cX8_meet 7 = .ok (.iconst (-1), 1) := by decide +kernel
theorem dX8_meet_8 : decode cX8_meet 8 = .ok (.ireturn, 1) := by decide +kernel
theorem dX8_meet_9 : decode cX8_meet 9 = .ok (.aload_n 0, 1) := by decide +kernel
theorem dX8_meet_10 : decode cX8_meet 10 = .ok (.iload_n 1, 1) := by decide +kernel
theorem dX8_meet_11 : decode cX8_meet 11 = .ok (.iload_n 2, 1) := by decide +kernel
theorem dX8_meet_12 : decode cX8_meet 12 = .ok (.invokevirtual 134, 3) := by decide +kernel
theorem dX8_meet_15 : decode cX8_meet 15 = .ok (.istore 4, 2) := by decide +kernel
theorem dX8_meet_17 : decode cX8_meet 17 = .ok (.iload 4, 2) := by decide +kernel
theorem dX8_meet_19 : decode cX8_meet 19 = .ok (.ifCond .eq 6, 3) := by decide +kernel
theorem dX8_meet_22 : decode cX8_meet 22 = .ok (.iload 4, 2) := by decide +kernel
theorem dX8_meet_24 : decode cX8_meet 24 = .ok (.ireturn, 1) := by decide +kernel
theorem dX8_meet_25 : decode cX8_meet 25 = .ok (.iconst 0, 1) := by decide +kernel
theorem dX8_meet_26 : decode cX8_meet 26 = .ok (.istore 5, 2) := by decide +kernel
theorem dX8_meet_28 : decode cX8_meet 28 = .ok (.iload 5, 2) := by decide +kernel
theorem dX8_meet_30 : decode cX8_meet 30 = .ok (.aload_n 0, 1) := by decide +kernel
theorem dX8_meet_31 : decode cX8_meet 31 = .ok (.getfield 7, 3) := by decide +kernel
theorem dX8_meet_34 : decode cX8_meet 34 = .ok (.iconst 0, 1) := by decide +kernel
theorem dX8_meet_35 : decode cX8_meet 35 = .ok (.iaload, 1) := by decide +kernel
theorem dX8_meet_36 : decode cX8_meet 36 = .ok (.if_icmp .ge 42, 3) := by decide +kernel
theorem dX8_meet_39 : decode cX8_meet 39 = .ok (.aload_n 0, 1) := by decide +kernel
theorem dX8_meet_40 : decode cX8_meet 40 = .ok (.getfield 25, 3) := by decide +kernel
theorem dX8_meet_43 : decode cX8_meet 43 = .ok (.iload 5, 2) := by decide +kernel
theorem dX8_meet_45 : decode cX8_meet 45 = .ok (.bipush 6, 2) := by decide +kernel
theorem dX8_meet_47 : decode cX8_meet 47 = .ok (.aload_n 0, 1) := by decide +kernel
theorem dX8_meet_48 : decode cX8_meet 48 = .ok (.aload_n 0, 1) := by decide +kernel
theorem dX8_meet_49 : decode cX8_meet 49 = .ok (.iload_n 1, 1) := by decide +kernel
theorem dX8_meet_50 : decode cX8_meet 50 = .ok (.invokevirtual 128, 3) := by decide +kernel
theorem dX8_meet_53 : decode cX8_meet 53 = .ok (.iload 5, 2) := by decide +kernel
theorem dX8_meet_55 : decode cX8_meet 55 = .ok (.invokevirtual 65, 3) := by decide +kernel
theorem dX8_meet_58 : decode cX8_meet 58 = .ok (.imul, 1) := by decide +kernel
theorem dX8_meet_59 : decode cX8_meet 59 = .ok (.aload_n 0, 1) := by decide +kernel
theorem dX8_meet_60 : decode cX8_meet 60 = .ok (.aload_n 0, 1) := by decide +kernel
theorem dX8_meet_61 : decode cX8_meet 61 = .ok (.iload_n 2, 1) := by decide +kernel
theorem dX8_meet_62 : decode cX8_meet 62 = .ok (.invokevirtual 128, 3) := by decide +kernel
theorem dX8_meet_65 : decode cX8_meet 65 = .ok (.iload 5, 2) := by decide +kernel
theorem dX8_meet_67 : decode cX8_meet 67 = .ok (.invokevirtual 65, 3) := by decide +kernel
theorem dX8_meet_70 : decode cX8_meet 70 = .ok (.iadd, 1) := by decide +kernel
theorem dX8_meet_71 : decode cX8_meet 71 = .ok (.iastore, 1) := by decide +kernel
theorem dX8_meet_72 : decode cX8_meet 72 = .ok (.iinc 5 1, 3) := by decide +kernel
theorem dX8_meet_75 : decode cX8_meet 75 = .ok (.goto (-47), 3) := by decide +kernel
theorem dX8_meet_78 : decode cX8_meet 78 = .ok (.aload_n 0, 1) := by decide +kernel
theorem dX8_meet_79 : decode cX8_meet 79 = .ok (.iload_n 3, 1) := by decide +kernel
theorem dX8_meet_80 : decode cX8_meet 80 = .ok (.aload_n 0, 1) := by decide +kernel
theorem dX8_meet_81 : decode cX8_meet 81 = .ok (.invokevirtual 122, 3) := by decide +kernel
theorem dX8_meet_84 : decode cX8_meet 84 = .ok (.invokevirtual 125, 3) := by decide +kernel
theorem dX8_meet_87 : decode cX8_meet 87 = .ok (.ireturn, 1) := by decide +kernel
theorem dX8_merges_0 : decode cX8_merges 0 = .ok (.iconst 0, 1) := by decide +kernel
theorem dX8_merges_1 : decode cX8_merges 1 = .ok (.istore_n 3, 1) := by decide +kernel
theorem dX8_merges_2 : decode cX8_merges 2 = .ok (.iload_n 3, 1) := by decide +kernel
theorem dX8_merges_3 : decode cX8_merges 3 = .ok (.aload_n 0, 1) := by decide +kernel
theorem dX8_merges_4 : decode cX8_merges 4 = .ok (.getfield 7, 3) := by decide +kernel
theorem dX8_merges_7 : decode cX8_merges 7 = .ok (.iconst 0, 1) := by decide +kernel
theorem dX8_merges_8 : decode cX8_merges 8 = .ok (.iaload, 1) := by decide +kernel
theorem dX8_merges_9 : decode cX8_merges 9 = .ok (.if_icmp .ge 35, 3) := by decide +kernel
theorem dX8_merges_12 : decode cX8_merges 12 = .ok (.aload_n 0, 1) := by decide +kernel
theorem dX8_merges_13 : decode cX8_merges 13 = .ok (.getfield 25, 3) := by decide +kernel
theorem dX8_merges_16 : decode cX8_merges 16 = .ok (.iload_n 3, 1) := by decide +kernel
theorem dX8_merges_17 : decode cX8_merges 17 = .ok (.aload_n 0, 1) := by decide +kernel
theorem dX8_merges_18 : decode cX8_merges 18 = .ok (.getfield 25, 3) := by decide +kernel
theorem dX8_merges_21 : decode cX8_merges 21 = .ok (.iload_n 3, 1) := by decide +kernel
theorem dX8_merges_22 : decode cX8_merges 22 = .ok (.iaload, 1) := by decide +kernel
theorem dX8_merges_23 : decode cX8_merges 23 = .ok (.iload_n 2, 1) := by decide +kernel
theorem dX8_merges_24 : decode cX8_merges 24 = .ok (.if_icmp .ne 7, 3) := by decide +kernel
theorem dX8_merges_27 : decode cX8_merges 27 = .ok (.iload_n 1, 1) := by decide +kernel
theorem dX8_merges_28 : decode cX8_merges 28 = .ok (.goto 9, 3) := by decide +kernel
theorem dX8_merges_31 : decode cX8_merges 31 = .ok (.aload_n 0, 1) := by decide +kernel
theorem dX8_merges_32 : decode cX8_merges 32 = .ok (.getfield 25, 3) := by decide +kernel
theorem dX8_merges_35 : decode cX8_merges 35 = .ok (.iload_n 3, 1) := by decide +kernel
theorem dX8_merges_36 : decode cX8_merges 36 = .ok (.iaload, 1) := by decide +kernel
theorem dX8_merges_37 : decode cX8_merges 37 = .ok (.iastore, 1) := by decide +kernel
theorem dX8_merges_38 : decode cX8_merges 38 = .ok (.iinc 3 1, 3) := by decide +kernel
theorem dX8_merges_41 : decode cX8_merges 41 = .ok (.goto (-39), 3) := by decide +kernel
theorem dX8_merges_44 : decode cX8_merges 44 = .ok (.return_, 1) := by decide +kernel
theorem dX8_join_0 : decode cX8_join 0 = .ok (.iload_n 3, 1) := by decide +kernel
theorem dX8_join_1 : decode cX8_join 1 = .ok (.invokestatic 115, 3) := by decide +kernel
theorem dX8_join_4 : decode cX8_join 4 = .ok (.ifCond .ne 5, 3) := by decide +kernel
theorem dX8_join_7 : decode cX8_join 7 = .ok (.iconst (-1), 1) := by decide +kernel
theorem dX8_join_8 : decode cX8_join 8 = .ok (.ireturn, 1) := by decide +kernel
theorem dX8_join_9 : decode cX8_join 9 = .ok (.aload_n 0, 1) := by decide +kernel
theorem dX8_join_10 : decode cX8_join 10 = .ok (.iload_n 1, 1) := by decide +kernel
theorem dX8_join_11 : decode cX8_join 11 = .ok (.iload_n 2, 1) := by decide +kernel
theorem dX8_join_12 : decode cX8_join 12 = .ok (.invokevirtual 134, 3) := by decide +kernel
theorem dX8_join_15 : decode cX8_join 15 = .ok (.istore 4, 2) := by decide +kernel
theorem dX8_join_17 : decode cX8_join 17 = .ok (.iload 4, 2) := by decide +kernel
theorem dX8_join_19 : decode cX8_join 19 = .ok (.ifCond .eq 6, 3) := by decide +kernel
theorem dX8_join_22 : decode cX8_join 22 = .ok (.iload 4, 2) := by decide +kernel
theorem dX8_join_24 : decode cX8_join 24 = .ok (.ireturn, 1) := by decide +kernel
theorem dX8_join_25 : decode cX8_join 25 = .ok (.aload_n 0, 1) := by decide +kernel
theorem dX8_join_26 : decode cX8_join 26 = .ok (.aload_n 0, 1) := by decide +kernel
theorem dX8_join_27 : decode cX8_join 27 = .ok (.iload_n 1, 1) := by decide +kernel
theorem dX8_join_28 : decode cX8_join 28 = .ok (.invokevirtual 128, 3) := by decide +kernel
theorem dX8_join_31 : decode cX8_join 31 = .ok (.invokevirtual 137, 3) := by decide +kernel
theorem dX8_join_34 : decode cX8_join 34 = .ok (.iconst 0, 1) := by decide +kernel
theorem dX8_join_35 : decode cX8_join 35 = .ok (.istore 5, 2) := by decide +kernel
theorem dX8_join_37 : decode cX8_join 37 = .ok (.iload 5, 2) := by decide +kernel
theorem dX8_join_39 : decode cX8_join 39 = .ok (.aload_n 0, 1) := by decide +kernel
theorem dX8_join_40 : decode cX8_join 40 = .ok (.getfield 7, 3) := by decide +kernel
theorem dX8_join_43 : decode cX8_join 43 = .ok (.iconst 0, 1) := by decide +kernel
theorem dX8_join_44 : decode cX8_join 44 = .ok (.iaload, 1) := by decide +kernel
theorem dX8_join_45 : decode cX8_join 45 = .ok (.if_icmp .ge 68, 3) := by decide +kernel
theorem dX8_join_48 : decode cX8_join 48 = .ok (.iconst 0, 1) := by decide +kernel
theorem dX8_join_49 : decode cX8_join 49 = .ok (.istore 6, 2) := by decide +kernel
theorem dX8_join_51 : decode cX8_join 51 = .ok (.iload 6, 2) := by decide +kernel
theorem dX8_join_53 : decode cX8_join 53 = .ok (.iload 5, 2) := by decide +kernel
theorem dX8_join_55 : decode cX8_join 55 = .ok (.if_icmp .ge 52, 3) := by decide +kernel
theorem dX8_join_58 : decode cX8_join 58 = .ok (.aload_n 0, 1) := by decide +kernel
theorem dX8_join_59 : decode cX8_join 59 = .ok (.aload_n 0, 1) := by decide +kernel
theorem dX8_join_60 : decode cX8_join 60 = .ok (.iload_n 2, 1) := by decide +kernel
theorem dX8_join_61 : decode cX8_join 61 = .ok (.invokevirtual 128, 3) := by decide +kernel
theorem dX8_join_64 : decode cX8_join 64 = .ok (.iload 5, 2) := by decide +kernel
theorem dX8_join_66 : decode cX8_join 66 = .ok (.invokevirtual 65, 3) := by decide +kernel
theorem dX8_join_69 : decode cX8_join 69 = .ok (.aload_n 0, 1) := by decide +kernel
theorem dX8_join_70 : decode cX8_join 70 = .ok (.aload_n 0, 1) := by decide +kernel
theorem dX8_join_71 : decode cX8_join 71 = .ok (.iload_n 2, 1) := by decide +kernel
theorem dX8_join_72 : decode cX8_join 72 = .ok (.invokevirtual 128, 3) := by decide +kernel
theorem dX8_join_75 : decode cX8_join 75 = .ok (.iload 6, 2) := by decide +kernel
theorem dX8_join_77 : decode cX8_join 77 = .ok (.invokevirtual 65, 3) := by decide +kernel
theorem dX8_join_80 : decode cX8_join 80 = .ok (.if_icmp .ne 21, 3) := by decide +kernel
theorem dX8_join_83 : decode cX8_join 83 = .ok (.aload_n 0, 1) := by decide +kernel
theorem dX8_join_84 : decode cX8_join 84 = .ok (.aload_n 0, 1) := by decide +kernel
theorem dX8_join_85 : decode cX8_join 85 = .ok (.getfield 25, 3) := by decide +kernel
theorem dX8_join_88 : decode cX8_join 88 = .ok (.iload 5, 2) := by decide +kernel
theorem dX8_join_90 : decode cX8_join 90 = .ok (.iaload, 1) := by decide +kernel
theorem dX8_join_91 : decode cX8_join 91 = .ok (.aload_n 0, 1) := by decide +kernel
theorem dX8_join_92 : decode cX8_join 92 = .ok (.getfield 25, 3) := by decide +kernel
theorem dX8_join_95 : decode cX8_join 95 = .ok (.iload 6, 2) := by decide +kernel
theorem dX8_join_97 : decode cX8_join 97 = .ok (.iaload, 1) := by decide +kernel
theorem dX8_join_98 : decode cX8_join 98 = .ok (.invokevirtual 140, 3) := by decide +kernel
theorem dX8_join_101 : decode cX8_join 101 = .ok (.iinc 6 1, 3) := by decide +kernel
theorem dX8_join_104 : decode cX8_join 104 = .ok (.goto (-53), 3) := by decide +kernel
theorem dX8_join_107 : decode cX8_join 107 = .ok (.iinc 5 1, 3) := by decide +kernel
theorem dX8_join_110 : decode cX8_join 110 = .ok (.goto (-73), 3) := by decide +kernel
theorem dX8_join_113 : decode cX8_join 113 = .ok (.aload_n 0, 1) := by decide +kernel
theorem dX8_join_114 : decode cX8_join 114 = .ok (.iload_n 3, 1) := by decide +kernel
theorem dX8_join_115 : decode cX8_join 115 = .ok (.aload_n 0, 1) := by decide +kernel
theorem dX8_join_116 : decode cX8_join 116 = .ok (.invokevirtual 122, 3) := by decide +kernel
theorem dX8_join_119 : decode cX8_join 119 = .ok (.invokevirtual 125, 3) := by decide +kernel
theorem dX8_join_122 : decode cX8_join 122 = .ok (.ireturn, 1) := by decide +kernel
theorem dX8_unite_0 : decode cX8_unite 0 = .ok (.iload_n 1, 1) := by decide +kernel
theorem dX8_unite_1 : decode cX8_unite 1 = .ok (.invokestatic 115, 3) := by decide +kernel
theorem dX8_unite_4 : decode cX8_unite 4 = .ok (.ifCond .eq 19, 3) := by decide +kernel
theorem dX8_unite_7 : decode cX8_unite 7 = .ok (.aload_n 0, 1) := by decide +kernel
theorem dX8_unite_8 : decode cX8_unite 8 = .ok (.iload_n 2, 1) := by decide +kernel
theorem dX8_unite_9 : decode cX8_unite 9 = .ok (.invokevirtual 105, 3) := by decide +kernel
theorem dX8_unite_12 : decode cX8_unite 12 = .ok (.ifCond .eq 11, 3) := by decide +kernel
theorem dX8_unite_15 : decode cX8_unite 15 = .ok (.aload_n 0, 1) := by decide +kernel
theorem dX8_unite_16 : decode cX8_unite 16 = .ok (.iload_n 3, 1) := by decide +kernel
theorem dX8_unite_17 : decode cX8_unite 17 = .ok (.invokevirtual 105, 3) := by decide +kernel
theorem dX8_unite_20 : decode cX8_unite 20 = .ok (.ifCond .ne 5, 3) := by decide +kernel
theorem dX8_unite_23 : decode cX8_unite 23 = .ok (.iconst (-1), 1) := by decide +kernel
theorem dX8_unite_24 : decode cX8_unite 24 = .ok (.ireturn, 1) := by decide +kernel
theorem dX8_unite_25 : decode cX8_unite 25 = .ok (.aload_n 0, 1) := by decide +kernel
theorem dX8_unite_26 : decode cX8_unite 26 = .ok (.iload_n 1, 1) := by decide +kernel
theorem dX8_unite_27 : decode cX8_unite 27 = .ok (.invokevirtual 128, 3) := by decide +kernel
theorem dX8_unite_30 : decode cX8_unite 30 = .ok (.bipush (-9), 2) := by decide +kernel
theorem dX8_unite_32 : decode cX8_unite 32 = .ok (.if_icmp .ne 6, 3) := by decide +kernel
theorem dX8_unite_35 : decode cX8_unite 35 = .ok (.bipush (-2), 2) := by decide +kernel
theorem dX8_unite_37 : decode cX8_unite 37 = .ok (.ireturn, 1) := by decide +kernel
theorem dX8_unite_38 : decode cX8_unite 38 = .ok (.aload_n 0, 1) := by decide +kernel
theorem dX8_unite_39 : decode cX8_unite 39 = .ok (.aload_n 0, 1) := by decide +kernel
theorem dX8_unite_40 : decode cX8_unite 40 = .ok (.iload_n 1, 1) := by decide +kernel
theorem dX8_unite_41 : decode cX8_unite 41 = .ok (.invokevirtual 128, 3) := by decide +kernel
theorem dX8_unite_44 : decode cX8_unite 44 = .ok (.invokevirtual 137, 3) := by decide +kernel
theorem dX8_unite_47 : decode cX8_unite 47 = .ok (.aload_n 0, 1) := by decide +kernel
theorem dX8_unite_48 : decode cX8_unite 48 = .ok (.aload_n 0, 1) := by decide +kernel
theorem dX8_unite_49 : decode cX8_unite 49 = .ok (.getfield 25, 3) := by decide +kernel
theorem dX8_unite_52 : decode cX8_unite 52 = .ok (.iload_n 2, 1) := by decide +kernel
theorem dX8_unite_53 : decode cX8_unite 53 = .ok (.iaload, 1) := by decide +kernel
theorem dX8_unite_54 : decode cX8_unite 54 = .ok (.aload_n 0, 1) := by decide +kernel
theorem dX8_unite_55 : decode cX8_unite 55 = .ok (.getfield 25, 3) := by decide +kernel
theorem dX8_unite_58 : decode cX8_unite 58 = .ok (.iload_n 3, 1) := by decide +kernel
theorem dX8_unite_59 : decode cX8_unite 59 = .ok (.iaload, 1) := by decide +kernel
theorem dX8_unite_60 : decode cX8_unite 60 = .ok (.invokevirtual 140, 3) := by decide +kernel
theorem dX8_unite_63 : decode cX8_unite 63 = .ok (.aload_n 0, 1) := by decide +kernel
theorem dX8_unite_64 : decode cX8_unite 64 = .ok (.iload_n 1, 1) := by decide +kernel
theorem dX8_unite_65 : decode cX8_unite 65 = .ok (.aload_n 0, 1) := by decide +kernel
theorem dX8_unite_66 : decode cX8_unite 66 = .ok (.invokevirtual 122, 3) := by decide +kernel
theorem dX8_unite_69 : decode cX8_unite 69 = .ok (.invokevirtual 125, 3) := by decide +kernel
theorem dX8_unite_72 : decode cX8_unite 72 = .ok (.ireturn, 1) := by decide +kernel
theorem dX8_isolate_0 : decode cX8_isolate 0 = .ok (.iload_n 1, 1) := by decide +kernel
theorem dX8_isolate_1 : decode cX8_isolate 1 = .ok (.invokestatic 115, 3) := by decide +kernel
theorem dX8_isolate_4 : decode cX8_isolate 4 = .ok (.ifCond .eq 11, 3) := by decide +kernel
theorem dX8_isolate_7 : decode cX8_isolate 7 = .ok (.aload_n 0, 1) := by decide +kernel
theorem dX8_isolate_8 : decode cX8_isolate 8 = .ok (.iload_n 2, 1) := by decide +kernel
theorem dX8_isolate_9 : decode cX8_isolate 9 = .ok (.invokevirtual 105, 3) := by decide +kernel
theorem dX8_isolate_12 : decode cX8_isolate 12 = .ok (.ifCond .ne 5, 3) := by decide +kernel
theorem dX8_isolate_15 : decode cX8_isolate 15 = .ok (.iconst (-1), 1) := by decide +kernel
theorem dX8_isolate_16 : decode cX8_isolate 16 = .ok (.ireturn, 1) := by decide +kernel
theorem dX8_isolate_17 : decode cX8_isolate 17 = .ok (.aload_n 0, 1) := by decide +kernel
theorem dX8_isolate_18 : decode cX8_isolate 18 = .ok (.iload_n 1, 1) := by decide +kernel
theorem dX8_isolate_19 : decode cX8_isolate 19 = .ok (.invokevirtual 128, 3) := by decide +kernel
theorem dX8_isolate_22 : decode cX8_isolate 22 = .ok (.bipush (-9), 2) := by decide +kernel
theorem dX8_isolate_24 : decode cX8_isolate 24 = .ok (.if_icmp .ne 6, 3) := by decide +kernel
theorem dX8_isolate_27 : decode cX8_isolate 27 = .ok (.bipush (-2), 2) := by decide +kernel
theorem dX8_isolate_29 : decode cX8_isolate 29 = .ok (.ireturn, 1) := by decide +kernel
theorem dX8_isolate_30 : decode cX8_isolate 30 = .ok (.aload_n 0, 1) := by decide +kernel
theorem dX8_isolate_31 : decode cX8_isolate 31 = .ok (.aload_n 0, 1) := by decide +kernel
theorem dX8_isolate_32 : decode cX8_isolate 32 = .ok (.iload_n 1, 1) := by decide +kernel
theorem dX8_isolate_33 : decode cX8_isolate 33 = .ok (.invokevirtual 128, 3) := by decide +kernel
theorem dX8_isolate_36 : decode cX8_isolate 36 = .ok (.invokevirtual 137, 3) := by decide +kernel
theorem dX8_isolate_39 : decode cX8_isolate 39 = .ok (.aload_n 0, 1) := by decide +kernel
theorem dX8_isolate_40 : decode cX8_isolate 40 = .ok (.getfield 25, 3) := by decide +kernel
theorem dX8_isolate_43 : decode cX8_isolate 43 = .ok (.iload_n 2, 1) := by decide +kernel
theorem dX8_isolate_44 : decode cX8_isolate 44 = .ok (.bipush 6, 2) := by decide +kernel
theorem dX8_isolate_46 : decode cX8_isolate 46 = .ok (.iastore, 1) := by decide +kernel
theorem dX8_isolate_47 : decode cX8_isolate 47 = .ok (.aload_n 0, 1) := by decide +kernel
theorem dX8_isolate_48 : decode cX8_isolate 48 = .ok (.iload_n 1, 1) := by decide +kernel
theorem dX8_isolate_49 : decode cX8_isolate 49 = .ok (.aload_n 0, 1) := by decide +kernel
theorem dX8_isolate_50 : decode cX8_isolate 50 = .ok (.invokevirtual 122, 3) := by decide +kernel
theorem dX8_isolate_53 : decode cX8_isolate 53 = .ok (.invokevirtual 125, 3) := by decide +kernel
theorem dX8_isolate_56 : decode cX8_isolate 56 = .ok (.ireturn, 1) := by decide +kernel
theorem dX8_changes_0 : decode cX8_changes 0 = .ok (.aload_n 0, 1) := by decide +kernel
theorem dX8_changes_1 : decode cX8_changes 1 = .ok (.iload_n 1, 1) := by decide +kernel
theorem dX8_changes_2 : decode cX8_changes 2 = .ok (.invokevirtual 128, 3) := by decide +kernel
theorem dX8_changes_5 : decode cX8_changes 5 = .ok (.istore_n 3, 1) := by decide +kernel
theorem dX8_changes_6 : decode cX8_changes 6 = .ok (.aload_n 0, 1) := by decide +kernel
theorem dX8_changes_7 : decode cX8_changes 7 = .ok (.iload_n 1, 1) := by decide +kernel
theorem dX8_changes_8 : decode cX8_changes 8 = .ok (.iload_n 2, 1) := by decide +kernel
theorem dX8_changes_9 : decode cX8_changes 9 = .ok (.invokevirtual 125, 3) := by decide +kernel
theorem dX8_changes_12 : decode cX8_changes 12 = .ok (.pop, 1) := by decide +kernel
theorem dX8_changes_13 : decode cX8_changes 13 = .ok (.iload_n 2, 1) := by decide +kernel
theorem dX8_changes_14 : decode cX8_changes 14 = .ok (.iload_n 3, 1) := by decide +kernel
theorem dX8_changes_15 : decode cX8_changes 15 = .ok (.if_icmp .eq 7, 3) := by decide +kernel
theorem dX8_changes_18 : decode cX8_changes 18 = .ok (.iconst 1, 1) := by decide +kernel
theorem dX8_changes_19 : decode cX8_changes 19 = .ok (.goto 4, 3) := by decide +kernel
theorem dX8_changes_22 : decode cX8_changes 22 = .ok (.iconst 0, 1) := by decide +kernel
theorem dX8_changes_23 : decode cX8_changes 23 = .ok (.ireturn, 1) := by decide +kernel
theorem dX8_swap_0 : decode cX8_swap 0 = .ok (.iload_n 1, 1) := by decide +kernel
theorem dX8_swap_1 : decode cX8_swap 1 = .ok (.invokestatic 115, 3) := by decide +kernel
theorem dX8_swap_4 : decode cX8_swap 4 = .ok (.ifCond .eq 19, 3) := by decide +kernel
theorem dX8_swap_7 : decode cX8_swap 7 = .ok (.aload_n 0, 1) := by decide +kernel
theorem dX8_swap_8 : decode cX8_swap 8 = .ok (.iload_n 2, 1) := by decide +kernel
theorem dX8_swap_9 : decode cX8_swap 9 = .ok (.invokevirtual 105, 3) := by decide +kernel
theorem dX8_swap_12 : decode cX8_swap 12 = .ok (.ifCond .eq 11, 3) := by decide +kernel
theorem dX8_swap_15 : decode cX8_swap 15 = .ok (.aload_n 0, 1) := by decide +kernel
theorem dX8_swap_16 : decode cX8_swap 16 = .ok (.iload_n 3, 1) := by decide +kernel
theorem dX8_swap_17 : decode cX8_swap 17 = .ok (.invokevirtual 105, 3) := by decide +kernel
theorem dX8_swap_20 : decode cX8_swap 20 = .ok (.ifCond .ne 5, 3) := by decide +kernel
theorem dX8_swap_23 : decode cX8_swap 23 = .ok (.iconst (-1), 1) := by decide +kernel
theorem dX8_swap_24 : decode cX8_swap 24 = .ok (.ireturn, 1) := by decide +kernel
theorem dX8_swap_25 : decode cX8_swap 25 = .ok (.aload_n 0, 1) := by decide +kernel
theorem dX8_swap_26 : decode cX8_swap 26 = .ok (.iload_n 1, 1) := by decide +kernel
theorem dX8_swap_27 : decode cX8_swap 27 = .ok (.invokevirtual 128, 3) := by decide +kernel
theorem dX8_swap_30 : decode cX8_swap 30 = .ok (.bipush (-9), 2) := by decide +kernel
theorem dX8_swap_32 : decode cX8_swap 32 = .ok (.if_icmp .ne 6, 3) := by decide +kernel
theorem dX8_swap_35 : decode cX8_swap 35 = .ok (.bipush (-2), 2) := by decide +kernel
theorem dX8_swap_37 : decode cX8_swap 37 = .ok (.ireturn, 1) := by decide +kernel
theorem dX8_swap_38 : decode cX8_swap 38 = .ok (.aload_n 0, 1) := by decide +kernel
theorem dX8_swap_39 : decode cX8_swap 39 = .ok (.aload_n 0, 1) := by decide +kernel
theorem dX8_swap_40 : decode cX8_swap 40 = .ok (.iload_n 1, 1) := by decide +kernel
theorem dX8_swap_41 : decode cX8_swap 41 = .ok (.invokevirtual 128, 3) := by decide +kernel
theorem dX8_swap_44 : decode cX8_swap 44 = .ok (.invokevirtual 137, 3) := by decide +kernel
theorem dX8_swap_47 : decode cX8_swap 47 = .ok (.aload_n 0, 1) := by decide +kernel
theorem dX8_swap_48 : decode cX8_swap 48 = .ok (.getfield 25, 3) := by decide +kernel
theorem dX8_swap_51 : decode cX8_swap 51 = .ok (.iload_n 2, 1) := by decide +kernel
theorem dX8_swap_52 : decode cX8_swap 52 = .ok (.iaload, 1) := by decide +kernel
theorem dX8_swap_53 : decode cX8_swap 53 = .ok (.istore 4, 2) := by decide +kernel
theorem dX8_swap_55 : decode cX8_swap 55 = .ok (.aload_n 0, 1) := by decide +kernel
theorem dX8_swap_56 : decode cX8_swap 56 = .ok (.getfield 25, 3) := by decide +kernel
theorem dX8_swap_59 : decode cX8_swap 59 = .ok (.iload_n 2, 1) := by decide +kernel
theorem dX8_swap_60 : decode cX8_swap 60 = .ok (.aload_n 0, 1) := by decide +kernel
theorem dX8_swap_61 : decode cX8_swap 61 = .ok (.getfield 25, 3) := by decide +kernel
theorem dX8_swap_64 : decode cX8_swap 64 = .ok (.iload_n 3, 1) := by decide +kernel
theorem dX8_swap_65 : decode cX8_swap 65 = .ok (.iaload, 1) := by decide +kernel
theorem dX8_swap_66 : decode cX8_swap 66 = .ok (.iastore, 1) := by decide +kernel
theorem dX8_swap_67 : decode cX8_swap 67 = .ok (.aload_n 0, 1) := by decide +kernel
theorem dX8_swap_68 : decode cX8_swap 68 = .ok (.getfield 25, 3) := by decide +kernel
theorem dX8_swap_71 : decode cX8_swap 71 = .ok (.iload_n 3, 1) := by decide +kernel
theorem dX8_swap_72 : decode cX8_swap 72 = .ok (.iload 4, 2) := by decide +kernel
theorem dX8_swap_74 : decode cX8_swap 74 = .ok (.iastore, 1) := by decide +kernel
theorem dX8_swap_75 : decode cX8_swap 75 = .ok (.aload_n 0, 1) := by decide +kernel
theorem dX8_swap_76 : decode cX8_swap 76 = .ok (.iload_n 1, 1) := by decide +kernel
theorem dX8_swap_77 : decode cX8_swap 77 = .ok (.aload_n 0, 1) := by decide +kernel
theorem dX8_swap_78 : decode cX8_swap 78 = .ok (.invokevirtual 122, 3) := by decide +kernel
theorem dX8_swap_81 : decode cX8_swap 81 = .ok (.invokevirtual 144, 3) := by decide +kernel
theorem dX8_swap_84 : decode cX8_swap 84 = .ok (.ireturn, 1) := by decide +kernel
theorem dX8_rotate_0 : decode cX8_rotate 0 = .ok (.aload_n 0, 1) := by decide +kernel
theorem dX8_rotate_1 : decode cX8_rotate 1 = .ok (.iload_n 1, 1) := by decide +kernel
theorem dX8_rotate_2 : decode cX8_rotate 2 = .ok (.invokevirtual 131, 3) := by decide +kernel
theorem dX8_rotate_5 : decode cX8_rotate 5 = .ok (.istore_n 2, 1) := by decide +kernel
theorem dX8_rotate_6 : decode cX8_rotate 6 = .ok (.iload_n 2, 1) := by decide +kernel
theorem dX8_rotate_7 : decode cX8_rotate 7 = .ok (.ifCond .eq 5, 3) := by decide +kernel
theorem dX8_rotate_10 : decode cX8_rotate 10 = .ok (.iload_n 2, 1) := by decide +kernel
theorem dX8_rotate_11 : decode cX8_rotate 11 = .ok (.ireturn, 1) := by decide +kernel
theorem dX8_rotate_12 : decode cX8_rotate 12 = .ok (.aload_n 0, 1) := by decide +kernel
theorem dX8_rotate_13 : decode cX8_rotate 13 = .ok (.getfield 7, 3) := by decide +kernel
theorem dX8_rotate_16 : decode cX8_rotate 16 = .ok (.iconst 0, 1) := by decide +kernel
theorem dX8_rotate_17 : decode cX8_rotate 17 = .ok (.iaload, 1) := by decide +kernel
theorem dX8_rotate_18 : decode cX8_rotate 18 = .ok (.istore_n 3, 1) := by decide +kernel
theorem dX8_rotate_19 : decode cX8_rotate 19 = .ok (.iconst 0, 1) := by decide +kernel
theorem dX8_rotate_20 : decode cX8_rotate 20 = .ok (.istore 4, 2) := by decide +kernel
theorem dX8_rotate_22 : decode cX8_rotate 22 = .ok (.iload 4, 2) := by decide +kernel
theorem dX8_rotate_24 : decode cX8_rotate 24 = .ok (.iload_n 3, 1) := by decide +kernel
theorem dX8_rotate_25 : decode cX8_rotate 25 = .ok (.if_icmp .ge 33, 3) := by decide +kernel
theorem dX8_rotate_28 : decode cX8_rotate 28 = .ok (.aload_n 0, 1) := by decide +kernel
theorem dX8_rotate_29 : decode cX8_rotate 29 = .ok (.getfield 25, 3) := by decide +kernel
theorem dX8_rotate_32 : decode cX8_rotate 32 = .ok (.iload 4, 2) := by decide +kernel
theorem dX8_rotate_34 : decode cX8_rotate 34 = .ok (.aload_n 0, 1) := by decide +kernel
theorem dX8_rotate_35 : decode cX8_rotate 35 = .ok (.aload_n 0, 1) := by decide +kernel
theorem dX8_rotate_36 : decode cX8_rotate 36 = .ok (.iload_n 1, 1) := by decide +kernel
theorem dX8_rotate_37 : decode cX8_rotate 37 = .ok (.invokevirtual 128, 3) := by decide +kernel
theorem dX8_rotate_40 : decode cX8_rotate 40 = .ok (.iload 4, 2) := by decide +kernel
theorem dX8_rotate_42 : decode cX8_rotate 42 = .ok (.iload_n 3, 1) := by decide +kernel
theorem dX8_rotate_43 : decode cX8_rotate 43 = .ok (.iadd, 1) := by decide +kernel
theorem dX8_rotate_44 : decode cX8_rotate 44 = .ok (.iconst 1, 1) := by decide +kernel
theorem dX8_rotate_45 : decode cX8_rotate 45 = .ok (.isub, 1) := by decide +kernel
theorem dX8_rotate_46 : decode cX8_rotate 46 = .ok (.iload_n 3, 1) := by decide +kernel
theorem dX8_rotate_47 : decode cX8_rotate 47 = .ok (.irem, 1) := by decide +kernel
theorem dX8_rotate_48 : decode cX8_rotate 48 = .ok (.invokevirtual 65, 3) := by decide +kernel
theorem dX8_rotate_51 : decode cX8_rotate 51 = .ok (.iastore, 1) := by decide +kernel
theorem dX8_rotate_52 : decode cX8_rotate 52 = .ok (.iinc 4 1, 3) := by decide +kernel
theorem dX8_rotate_55 : decode cX8_rotate 55 = .ok (.goto (-33), 3) := by decide +kernel
theorem dX8_rotate_58 : decode cX8_rotate 58 = .ok (.aload_n 0, 1) := by decide +kernel
theorem dX8_rotate_59 : decode cX8_rotate 59 = .ok (.iload_n 1, 1) := by decide +kernel
theorem dX8_rotate_60 : decode cX8_rotate 60 = .ok (.aload_n 0, 1) := by decide +kernel
theorem dX8_rotate_61 : decode cX8_rotate 61 = .ok (.invokevirtual 122, 3) := by decide +kernel
theorem dX8_rotate_64 : decode cX8_rotate 64 = .ok (.invokevirtual 144, 3) := by decide +kernel
theorem dX8_rotate_67 : decode cX8_rotate 67 = .ok (.ireturn, 1) := by decide +kernel
theorem dX8_isParted_0 : decode cX8_isParted 0 = .ok (.iload_n 2, 1) := by decide +kernel
theorem dX8_isParted_1 : decode cX8_isParted 1 = .ok (.iconst 1, 1) := by decide +kernel
theorem dX8_isParted_2 : decode cX8_isParted 2 = .ok (.iadd, 1) := by decide +kernel
theorem dX8_isParted_3 : decode cX8_isParted 3 = .ok (.istore 4, 2) := by decide +kernel
theorem dX8_isParted_5 : decode cX8_isParted 5 = .ok (.iload 4, 2) := by decide +kernel
theorem dX8_isParted_7 : decode cX8_isParted 7 = .ok (.iload_n 3, 1) := by decide +kernel
theorem dX8_isParted_8 : decode cX8_isParted 8 = .ok (.if_icmp .gt 60, 3) := by decide +kernel
theorem dX8_isParted_11 : decode cX8_isParted 11 = .ok (.iconst 0, 1) := by decide +kernel
theorem dX8_isParted_12 : decode cX8_isParted 12 = .ok (.istore 5, 2) := by decide +kernel
theorem dX8_isParted_14 : decode cX8_isParted 14 = .ok (.iload 5, 2) := by decide +kernel
theorem dX8_isParted_16 : decode cX8_isParted 16 = .ok (.aload_n 0, 1) := by decide +kernel
theorem dX8_isParted_17 : decode cX8_isParted 17 = .ok (.getfield 7, 3) := by decide +kernel
theorem dX8_isParted_20 : decode cX8_isParted 20 = .ok (.iconst 0, 1) := by decide +kernel
theorem dX8_isParted_21 : decode cX8_isParted 21 = .ok (.iaload, 1) := by decide +kernel
theorem dX8_isParted_22 : decode cX8_isParted 22 = .ok (.if_icmp .ge 40, 3) := by decide +kernel
theorem dX8_isParted_25 : decode cX8_isParted 25 = .ok (.aload_n 0, 1) := by decide +kernel
theorem dX8_isParted_26 : decode cX8_isParted 26 = .ok (.iload_n 1, 1) := by decide +kernel
theorem dX8_isParted_27 : decode cX8_isParted 27 = .ok (.iload 4, 2) := by decide +kernel
theorem dX8_isParted_29 : decode cX8_isParted 29 = .ok (.invokevirtual 65, 3) := by decide +kernel
theorem dX8_isParted_32 : decode cX8_isParted 32 = .ok (.aload_n 0, 1) := by decide +kernel
theorem dX8_isParted_33 : decode cX8_isParted 33 = .ok (.iload_n 1, 1) := by decide +kernel
theorem dX8_isParted_34 : decode cX8_isParted 34 = .ok (.iload 5, 2) := by decide +kernel
theorem dX8_isParted_36 : decode cX8_isParted 36 = .ok (.invokevirtual 65, 3) := by decide +kernel
theorem dX8_isParted_39 : decode cX8_isParted 39 = .ok (.if_icmp .ne 17, 3) := by decide +kernel
theorem dX8_isParted_42 : decode cX8_isParted 42 = .ok (.iload 5, 2) := by decide +kernel
theorem dX8_isParted_44 : decode cX8_isParted 44 = .ok (.iload_n 2, 1) := by decide +kernel
theorem dX8_isParted_45 : decode cX8_isParted 45 = .ok (.iconst 1, 1) := by decide +kernel
theorem dX8_isParted_46 : decode cX8_isParted 46 = .ok (.iadd, 1) := by decide +kernel
theorem dX8_isParted_47 : decode cX8_isParted 47 = .ok (.iload_n 3, 1) := by decide +kernel
theorem dX8_isParted_48 : decode cX8_isParted 48 = .ok (.invokestatic 96, 3) := by decide +kernel
theorem dX8_isParted_51 : decode cX8_isParted 51 = .ok (.ifCond .ne 5, 3) := by decide +kernel
theorem dX8_isParted_54 : decode cX8_isParted 54 = .ok (.iconst 0, 1) := by decide +kernel
theorem dX8_isParted_55 : decode cX8_isParted 55 = .ok (.ireturn, 1) := by decide +kernel
theorem dX8_isParted_56 : decode cX8_isParted 56 = .ok (.iinc 5 1, 3) := by decide +kernel
theorem dX8_isParted_59 : decode cX8_isParted 59 = .ok (.goto (-45), 3) := by decide +kernel
theorem dX8_isParted_62 : decode cX8_isParted 62 = .ok (.iinc 4 1, 3) := by decide +kernel
theorem dX8_isParted_65 : decode cX8_isParted 65 = .ok (.goto (-60), 3) := by decide +kernel
theorem dX8_isParted_68 : decode cX8_isParted 68 = .ok (.iconst 1, 1) := by decide +kernel
theorem dX8_isParted_69 : decode cX8_isParted 69 = .ok (.ireturn, 1) := by decide +kernel
theorem dX8_complement_0 : decode cX8_complement 0 = .ok (.iload_n 2, 1) := by decide +kernel
theorem dX8_complement_1 : decode cX8_complement 1 = .ok (.invokestatic 115, 3) := by decide +kernel
theorem dX8_complement_4 : decode cX8_complement 4 = .ok (.ifCond .ne 5, 3) := by decide +kernel
theorem dX8_complement_7 : decode cX8_complement 7 = .ok (.iconst (-1), 1) := by decide +kernel
theorem dX8_complement_8 : decode cX8_complement 8 = .ok (.ireturn, 1) := by decide +kernel
theorem dX8_complement_9 : decode cX8_complement 9 = .ok (.aload_n 0, 1) := by decide +kernel
theorem dX8_complement_10 : decode cX8_complement 10 = .ok (.iload_n 1, 1) := by decide +kernel
theorem dX8_complement_11 : decode cX8_complement 11 = .ok (.invokevirtual 131, 3) := by decide +kernel
theorem dX8_complement_14 : decode cX8_complement 14 = .ok (.istore_n 3, 1) := by decide +kernel
theorem dX8_complement_15 : decode cX8_complement 15 = .ok (.iload_n 3, 1) := by decide +kernel
theorem dX8_complement_16 : decode cX8_complement 16 = .ok (.ifCond .eq 5, 3) := by decide +kernel
theorem dX8_complement_19 : decode cX8_complement 19 = .ok (.iload_n 3, 1) := by decide +kernel
theorem dX8_complement_20 : decode cX8_complement 20 = .ok (.ireturn, 1) := by decide +kernel
theorem dX8_complement_21 : decode cX8_complement 21 = .ok (.aload_n 0, 1) := by decide +kernel
theorem dX8_complement_22 : decode cX8_complement 22 = .ok (.iload_n 1, 1) := by decide +kernel
theorem dX8_complement_23 : decode cX8_complement 23 = .ok (.invokevirtual 128, 3) := by decide +kernel
theorem dX8_complement_26 : decode cX8_complement 26 = .ok (.istore 4, 2) := by decide +kernel
theorem dX8_complement_28 : decode cX8_complement 28 = .ok (.aload_n 0, 1) := by decide +kernel
theorem dX8_complement_29 : decode cX8_complement 29 = .ok (.iload 4, 2) := by decide +kernel
theorem dX8_complement_31 : decode cX8_complement 31 = .ok (.invokevirtual 86, 3) := by decide +kernel
theorem dX8_complement_34 : decode cX8_complement 34 = .ok (.bipush (-9), 2) := by decide +kernel
theorem dX8_complement_36 : decode cX8_complement 36 = .ok (.if_icmp .eq 6, 3) := by decide +kernel
theorem dX8_complement_39 : decode cX8_complement 39 = .ok (.bipush (-3), 2) := by decide +kernel
theorem dX8_complement_41 : decode cX8_complement 41 = .ok (.ireturn, 1) := by decide +kernel
theorem dX8_complement_42 : decode cX8_complement 42 = .ok (.iconst 0, 1) := by decide +kernel
theorem dX8_complement_43 : decode cX8_complement 43 = .ok (.istore 5, 2) := by decide +kernel
theorem dX8_complement_45 : decode cX8_complement 45 = .ok (.iload 5, 2) := by decide +kernel
theorem dX8_complement_47 : decode cX8_complement 47 = .ok (.aload_n 0, 1) := by decide +kernel
theorem dX8_complement_48 : decode cX8_complement 48 = .ok (.getfield 7, 3) := by decide +kernel
theorem dX8_complement_51 : decode cX8_complement 51 = .ok (.iconst 0, 1) := by decide +kernel
theorem dX8_complement_52 : decode cX8_complement 52 = .ok (.iaload, 1) := by decide +kernel
theorem dX8_complement_53 : decode cX8_complement 53 = .ok (.if_icmp .ge 47, 3) := by decide +kernel
theorem dX8_complement_56 : decode cX8_complement 56 = .ok (.iconst 0, 1) := by decide +kernel
theorem dX8_complement_57 : decode cX8_complement 57 = .ok (.istore 6, 2) := by decide +kernel
theorem dX8_complement_59 : decode cX8_complement 59 = .ok (.iload 6, 2) := by decide +kernel
theorem dX8_complement_61 : decode cX8_complement 61 = .ok (.iload 5, 2) := by decide +kernel
theorem dX8_complement_63 : decode cX8_complement 63 = .ok (.if_icmp .ge 22, 3) := by decide +kernel
theorem dX8_complement_66 : decode cX8_complement 66 = .ok (.aload_n 0, 1) := by decide +kernel
theorem dX8_complement_67 : decode cX8_complement 67 = .ok (.iload 4, 2) := by decide +kernel
theorem dX8_complement_69 : decode cX8_complement 69 = .ok (.iload 6, 2) := by decide +kernel
theorem dX8_complement_71 : decode cX8_complement 71 = .ok (.iload 5, 2) := by decide +kernel
theorem dX8_complement_73 : decode cX8_complement 73 = .ok (.invokevirtual 147, 3) := by decide +kernel
theorem dX8_complement_76 : decode cX8_complement 76 = .ok (.ifCond .ne 9, 3) := by decide +kernel
theorem dX8_complement_79 : decode cX8_complement 79 = .ok (.iinc 6 1, 3) := by decide +kernel
theorem dX8_complement_82 : decode cX8_complement 82 = .ok (.goto (-23), 3) := by decide +kernel
theorem dX8_complement_85 : decode cX8_complement 85 = .ok (.aload_n 0, 1) := by decide +kernel
theorem dX8_complement_86 : decode cX8_complement 86 = .ok (.getfield 25, 3) := by decide +kernel
theorem dX8_complement_89 : decode cX8_complement 89 = .ok (.iload 5, 2) := by decide +kernel
theorem dX8_complement_91 : decode cX8_complement 91 = .ok (.iload 6, 2) := by decide +kernel
theorem dX8_complement_93 : decode cX8_complement 93 = .ok (.iastore, 1) := by decide +kernel
theorem dX8_complement_94 : decode cX8_complement 94 = .ok (.iinc 5 1, 3) := by decide +kernel
theorem dX8_complement_97 : decode cX8_complement 97 = .ok (.goto (-52), 3) := by decide +kernel
theorem dX8_complement_100 : decode cX8_complement 100 = .ok (.aload_n 0, 1) := by decide +kernel
theorem dX8_complement_101 : decode cX8_complement 101 = .ok (.iload_n 2, 1) := by decide +kernel
theorem dX8_complement_102 : decode cX8_complement 102 = .ok (.aload_n 0, 1) := by decide +kernel
theorem dX8_complement_103 : decode cX8_complement 103 = .ok (.invokevirtual 122, 3) := by decide +kernel
theorem dX8_complement_106 : decode cX8_complement 106 = .ok (.invokevirtual 125, 3) := by decide +kernel
theorem dX8_complement_109 : decode cX8_complement 109 = .ok (.ireturn, 1) := by decide +kernel
theorem dX8_admittedAt_0 : decode cX8_admittedAt 0 = .ok (.iconst 0, 1) := by decide +kernel
theorem dX8_admittedAt_1 : decode cX8_admittedAt 1 = .ok (.istore_n 2, 1) := by decide +kernel
theorem dX8_admittedAt_2 : decode cX8_admittedAt 2 = .ok (.iload_n 2, 1) := by decide +kernel
theorem dX8_admittedAt_3 : decode cX8_admittedAt 3 = .ok (.aload_n 0, 1) := by decide +kernel
theorem dX8_admittedAt_4 : decode cX8_admittedAt 4 = .ok (.getfield 52, 3) := by decide +kernel
theorem dX8_admittedAt_7 : decode cX8_admittedAt 7 = .ok (.if_icmp .ge 29, 3) := by decide +kernel
theorem dX8_admittedAt_10 : decode cX8_admittedAt 10 = .ok (.aload_n 0, 1) := by decide +kernel
theorem dX8_admittedAt_11 : decode cX8_admittedAt 11 = .ok (.iload_n 2, 1) := by decide +kernel
theorem dX8_admittedAt_12 : decode cX8_admittedAt 12 = .ok (.invokevirtual 150, 3) := by decide +kernel
theorem dX8_admittedAt_15 : decode cX8_admittedAt 15 = .ok (.ifCond .eq 15, 3) := by decide +kernel
theorem dX8_admittedAt_18 : decode cX8_admittedAt 18 = .ok (.aload_n 0, 1) := by decide +kernel
theorem dX8_admittedAt_19 : decode cX8_admittedAt 19 = .ok (.getfield 22, 3) := by decide +kernel
theorem dX8_admittedAt_22 : decode cX8_admittedAt 22 = .ok (.iload_n 2, 1) := by decide +kernel
theorem dX8_admittedAt_23 : decode cX8_admittedAt 23 = .ok (.iaload, 1) := by decide +kernel
theorem dX8_admittedAt_24 : decode cX8_admittedAt 24 = .ok (.iload_n 1, 1) := by decide +kernel
theorem dX8_admittedAt_25 : decode cX8_admittedAt 25 = .ok (.if_icmp .ne 5, 3) := by decide +kernel
theorem dX8_admittedAt_28 : decode cX8_admittedAt 28 = .ok (.iload_n 2, 1) := by decide +kernel
theorem dX8_admittedAt_29 : decode cX8_admittedAt 29 = .ok (.ireturn, 1) := by decide +kernel
theorem dX8_admittedAt_30 : decode cX8_admittedAt 30 = .ok (.iinc 2 1, 3) := by decide +kernel
theorem dX8_admittedAt_33 : decode cX8_admittedAt 33 = .ok (.goto (-31), 3) := by decide +kernel
theorem dX8_admittedAt_36 : decode cX8_admittedAt 36 = .ok (.bipush (-9), 2) := by decide +kernel
theorem dX8_admittedAt_38 : decode cX8_admittedAt 38 = .ok (.ireturn, 1) := by decide +kernel
theorem dX8_unrank_0 : decode cX8_unrank 0 = .ok (.iload_n 1, 1) := by decide +kernel
theorem dX8_unrank_1 : decode cX8_unrank 1 = .ok (.invokestatic 115, 3) := by decide +kernel
theorem dX8_unrank_4 : decode cX8_unrank 4 = .ok (.ifCond .eq 17, 3) := by decide +kernel
theorem dX8_unrank_7 : decode cX8_unrank 7 = .ok (.iload_n 2, 1) := by decide +kernel
theorem dX8_unrank_8 : decode cX8_unrank 8 = .ok (.iconst 0, 1) := by decide +kernel
theorem dX8_unrank_9 : decode cX8_unrank 9 = .ok (.aload_n 0, 1) := by decide +kernel
theorem dX8_unrank_10 : decode cX8_unrank 10 = .ok (.getfield 59, 3) := by decide +kernel
theorem dX8_unrank_13 : decode cX8_unrank 13 = .ok (.iconst 1, 1) := by decide +kernel
theorem dX8_unrank_14 : decode cX8_unrank 14 = .ok (.isub, 1) := by decide +kernel
theorem dX8_unrank_15 : decode cX8_unrank 15 = .ok (.invokestatic 96, 3) := by decide +kernel
theorem dX8_unrank_18 : decode cX8_unrank 18 = .ok (.ifCond .ne 5, 3) := by decide +kernel
theorem dX8_unrank_21 : decode cX8_unrank 21 = .ok (.iconst (-1), 1) := by decide +kernel
theorem dX8_unrank_22 : decode cX8_unrank 22 = .ok (.ireturn, 1) := by decide +kernel
theorem dX8_unrank_23 : decode cX8_unrank 23 = .ok (.aload_n 0, 1) := by decide +kernel
theorem dX8_unrank_24 : decode cX8_unrank 24 = .ok (.iload_n 1, 1) := by decide +kernel
theorem dX8_unrank_25 : decode cX8_unrank 25 = .ok (.aload_n 0, 1) := by decide +kernel
theorem dX8_unrank_26 : decode cX8_unrank 26 = .ok (.iload_n 2, 1) := by decide +kernel
theorem dX8_unrank_27 : decode cX8_unrank 27 = .ok (.invokevirtual 153, 3) := by decide +kernel
theorem dX8_unrank_30 : decode cX8_unrank 30 = .ok (.invokevirtual 125, 3) := by decide +kernel
theorem dX8_unrank_33 : decode cX8_unrank 33 = .ok (.ireturn, 1) := by decide +kernel
theorem dX8_nearest_0 : decode cX8_nearest 0 = .ok (.iload_n 1, 1) := by decide +kernel
theorem dX8_nearest_1 : decode cX8_nearest 1 = .ok (.iload_n 2, 1) := by decide +kernel
theorem dX8_nearest_2 : decode cX8_nearest 2 = .ok (.iadd, 1) := by decide +kernel
theorem dX8_nearest_3 : decode cX8_nearest 3 = .ok (.istore_n 3, 1) := by decide +kernel
theorem dX8_nearest_4 : decode cX8_nearest 4 = .ok (.iload_n 3, 1) := by decide +kernel
theorem dX8_nearest_5 : decode cX8_nearest 5 = .ok (.iconst 0, 1) := by decide +kernel
theorem dX8_nearest_6 : decode cX8_nearest 6 = .ok (.aload_n 0, 1) := by decide +kernel
theorem dX8_nearest_7 : decode cX8_nearest 7 = .ok (.getfield 52, 3) := by decide +kernel
theorem dX8_nearest_10 : decode cX8_nearest 10 = .ok (.iconst 1, 1) := by decide +kernel
theorem dX8_nearest_11 : decode cX8_nearest 11 = .ok (.isub, 1) := by decide +kernel
theorem dX8_nearest_12 : decode cX8_nearest 12 = .ok (.invokestatic 96, 3) := by decide +kernel
theorem dX8_nearest_15 : decode cX8_nearest 15 = .ok (.ifCond .eq 18, 3) := by decide +kernel
theorem dX8_nearest_18 : decode cX8_nearest 18 = .ok (.aload_n 0, 1) := by decide +kernel
theorem dX8_nearest_19 : decode cX8_nearest 19 = .ok (.iload_n 3, 1) := by decide +kernel
theorem dX8_nearest_20 : decode cX8_nearest 20 = .ok (.invokevirtual 150, 3) := by decide +kernel
theorem dX8_nearest_23 : decode cX8_nearest 23 = .ok (.ifCond .ne 10, 3) := by decide +kernel
theorem dX8_nearest_26 : decode cX8_nearest 26 = .ok (.iload_n 3, 1) := by decide +kernel
theorem dX8_nearest_27 : decode cX8_nearest 27 = .ok (.iload_n 2, 1) := by decide +kernel
theorem dX8_nearest_28 : decode cX8_nearest 28 = .ok (.iadd, 1) := by decide +kernel
theorem dX8_nearest_29 : decode cX8_nearest 29 = .ok (.istore_n 3, 1) := by decide +kernel
theorem dX8_nearest_30 : decode cX8_nearest 30 = .ok (.goto (-26), 3) := by decide +kernel
theorem dX8_nearest_33 : decode cX8_nearest 33 = .ok (.iload_n 3, 1) := by decide +kernel
theorem dX8_nearest_34 : decode cX8_nearest 34 = .ok (.iconst 0, 1) := by decide +kernel
theorem dX8_nearest_35 : decode cX8_nearest 35 = .ok (.aload_n 0, 1) := by decide +kernel
theorem dX8_nearest_36 : decode cX8_nearest 36 = .ok (.getfield 52, 3) := by decide +kernel
theorem dX8_nearest_39 : decode cX8_nearest 39 = .ok (.iconst 1, 1) := by decide +kernel
theorem dX8_nearest_40 : decode cX8_nearest 40 = .ok (.isub, 1) := by decide +kernel
theorem dX8_nearest_41 : decode cX8_nearest 41 = .ok (.invokestatic 96, 3) := by decide +kernel
theorem dX8_nearest_44 : decode cX8_nearest 44 = .ok (.ifCond .eq 7, 3) := by decide +kernel
theorem dX8_nearest_47 : decode cX8_nearest 47 = .ok (.iload_n 3, 1) := by decide +kernel
theorem dX8_nearest_48 : decode cX8_nearest 48 = .ok (.goto 5, 3) := by decide +kernel
theorem dX8_nearest_51 : decode cX8_nearest 51 = .ok (.bipush (-9), 2) := by decide +kernel
theorem dX8_nearest_53 : decode cX8_nearest 53 = .ok (.ireturn, 1) := by decide +kernel
theorem dX8_steps_0 : decode cX8_steps 0 = .ok (.aload_n 0, 1) := by decide +kernel
theorem dX8_steps_1 : decode cX8_steps 1 = .ok (.iload_n 1, 1) := by decide +kernel
theorem dX8_steps_2 : decode cX8_steps 2 = .ok (.invokevirtual 131, 3) := by decide +kernel
theorem dX8_steps_5 : decode cX8_steps 5 = .ok (.istore_n 3, 1) := by decide +kernel
theorem dX8_steps_6 : decode cX8_steps 6 = .ok (.iload_n 3, 1) := by decide +kernel
theorem dX8_steps_7 : decode cX8_steps 7 = .ok (.ifCond .eq 5, 3) := by decide +kernel
theorem dX8_steps_10 : decode cX8_steps 10 = .ok (.iload_n 3, 1) := by decide +kernel
theorem dX8_steps_11 : decode cX8_steps 11 = .ok (.ireturn, 1) := by decide +kernel
theorem dX8_steps_12 : decode cX8_steps 12 = .ok (.aload_n 0, 1) := by decide +kernel
theorem dX8_steps_13 : decode cX8_steps 13 = .ok (.aload_n 0, 1) := by decide +kernel
theorem dX8_steps_14 : decode cX8_steps 14 = .ok (.iload_n 1, 1) := by decide +kernel
theorem dX8_steps_15 : decode cX8_steps 15 = .ok (.invokevirtual 128, 3) := by decide +kernel
theorem dX8_steps_18 : decode cX8_steps 18 = .ok (.iload_n 2, 1) := by decide +kernel
theorem dX8_steps_19 : decode cX8_steps 19 = .ok (.invokevirtual 156, 3) := by decide +kernel
theorem dX8_steps_22 : decode cX8_steps 22 = .ok (.istore 4, 2) := by decide +kernel
theorem dX8_steps_24 : decode cX8_steps 24 = .ok (.aload_n 0, 1) := by decide +kernel
theorem dX8_steps_25 : decode cX8_steps 25 = .ok (.iload_n 1, 1) := by decide +kernel
theorem dX8_steps_26 : decode cX8_steps 26 = .ok (.iload 4, 2) := by decide +kernel
theorem dX8_steps_28 : decode cX8_steps 28 = .ok (.bipush (-9), 2) := by decide +kernel
theorem dX8_steps_30 : decode cX8_steps 30 = .ok (.if_icmp .ne 11, 3) := by decide +kernel
theorem dX8_steps_33 : decode cX8_steps 33 = .ok (.aload_n 0, 1) := by decide +kernel
theorem dX8_steps_34 : decode cX8_steps 34 = .ok (.iload_n 1, 1) := by decide +kernel
theorem dX8_steps_35 : decode cX8_steps 35 = .ok (.invokevirtual 128, 3) := by decide +kernel
theorem dX8_steps_38 : decode cX8_steps 38 = .ok (.goto 5, 3) := by decide +kernel
theorem dX8_steps_41 : decode cX8_steps 41 = .ok (.iload 4, 2) := by decide +kernel
theorem dX8_steps_43 : decode cX8_steps 43 = .ok (.invokevirtual 125, 3) := by decide +kernel
theorem dX8_steps_46 : decode cX8_steps 46 = .ok (.pop, 1) := by decide +kernel
theorem dX8_steps_47 : decode cX8_steps 47 = .ok (.iload 4, 2) := by decide +kernel
theorem dX8_steps_49 : decode cX8_steps 49 = .ok (.bipush (-9), 2) := by decide +kernel
theorem dX8_steps_51 : decode cX8_steps 51 = .ok (.if_icmp .ne 8, 3) := by decide +kernel
theorem dX8_steps_54 : decode cX8_steps 54 = .ok (.bipush (-9), 2) := by decide +kernel
theorem dX8_steps_56 : decode cX8_steps 56 = .ok (.goto 10, 3) := by decide +kernel
theorem dX8_steps_59 : decode cX8_steps 59 = .ok (.aload_n 0, 1) := by decide +kernel
theorem dX8_steps_60 : decode cX8_steps 60 = .ok (.getfield 22, 3) := by decide +kernel
theorem dX8_steps_63 : decode cX8_steps 63 = .ok (.iload 4, 2) := by decide +kernel
theorem dX8_steps_65 : decode cX8_steps 65 = .ok (.iaload, 1) := by decide +kernel
theorem dX8_steps_66 : decode cX8_steps 66 = .ok (.ireturn, 1) := by decide +kernel
theorem dX8_next_0 : decode cX8_next 0 = .ok (.aload_n 0, 1) := by decide +kernel
theorem dX8_next_1 : decode cX8_next 1 = .ok (.iload_n 1, 1) := by decide +kernel
theorem dX8_next_2 : decode cX8_next 2 = .ok (.iconst 1, 1) := by decide +kernel
theorem dX8_next_3 : decode cX8_next 3 = .ok (.invokevirtual 159, 3) := by decide +kernel
theorem dX8_next_6 : decode cX8_next 6 = .ok (.ireturn, 1) := by decide +kernel
theorem dX8_previous_0 : decode cX8_previous 0 = .ok (.aload_n 0, 1) := by decide +kernel
theorem dX8_previous_1 : decode cX8_previous 1 = .ok (.iload_n 1, 1) := by decide +kernel
theorem dX8_previous_2 : decode cX8_previous 2 = .ok (.iconst (-1), 1) := by decide +kernel
theorem dX8_previous_3 : decode cX8_previous 3 = .ok (.invokevirtual 159, 3) := by decide +kernel
theorem dX8_previous_6 : decode cX8_previous 6 = .ok (.ireturn, 1) := by decide +kernel
theorem dX8_draw_0 : decode cX8_draw 0 = .ok (.iload_n 1, 1) := by decide +kernel
theorem dX8_draw_1 : decode cX8_draw 1 = .ok (.invokestatic 115, 3) := by decide +kernel
theorem dX8_draw_4 : decode cX8_draw 4 = .ok (.ifCond .ne 5, 3) := by decide +kernel
theorem dX8_draw_7 : decode cX8_draw 7 = .ok (.iconst (-1), 1) := by decide +kernel
theorem dX8_draw_8 : decode cX8_draw 8 = .ok (.ireturn, 1) := by decide +kernel
theorem dX8_draw_9 : decode cX8_draw 9 = .ok (.aload_n 0, 1) := by decide +kernel
theorem dX8_draw_10 : decode cX8_draw 10 = .ok (.getfield 59, 3) := by decide +kernel
theorem dX8_draw_13 : decode cX8_draw 13 = .ok (.ifCond .ne 6, 3) := by decide +kernel
theorem dX8_draw_16 : decode cX8_draw 16 = .ok (.bipush (-3), 2) := by decide +kernel
theorem dX8_draw_18 : decode cX8_draw 18 = .ok (.ireturn, 1) := by decide +kernel
theorem dX8_draw_19 : decode cX8_draw 19 = .ok (.iload_n 2, 1) := by decide +kernel
theorem dX8_draw_20 : decode cX8_draw 20 = .ok (.ldc 162, 2) := by decide +kernel
theorem dX8_draw_22 : decode cX8_draw 22 = .ok (.imul, 1) := by decide +kernel
theorem dX8_draw_23 : decode cX8_draw 23 = .ok (.sipush 12345, 3) := by decide +kernel
theorem dX8_draw_26 : decode cX8_draw 26 = .ok (.iadd, 1) := by decide +kernel
theorem dX8_draw_27 : decode cX8_draw 27 = .ok (.istore_n 3, 1) := by decide +kernel
theorem dX8_draw_28 : decode cX8_draw 28 = .ok (.iload_n 3, 1) := by decide +kernel
theorem dX8_draw_29 : decode cX8_draw 29 = .ok (.bipush 16, 2) := by decide +kernel
theorem dX8_draw_31 : decode cX8_draw 31 = .ok (.iushr, 1) := by decide +kernel
theorem dX8_draw_32 : decode cX8_draw 32 = .ok (.sipush 32767, 3) := by decide +kernel
theorem dX8_draw_35 : decode cX8_draw 35 = .ok (.iand, 1) := by decide +kernel
theorem dX8_draw_36 : decode cX8_draw 36 = .ok (.aload_n 0, 1) := by decide +kernel
theorem dX8_draw_37 : decode cX8_draw 37 = .ok (.getfield 59, 3) := by decide +kernel
theorem dX8_draw_40 : decode cX8_draw 40 = .ok (.irem, 1) := by decide +kernel
theorem dX8_draw_41 : decode cX8_draw 41 = .ok (.istore 4, 2) := by decide +kernel
theorem dX8_draw_43 : decode cX8_draw 43 = .ok (.aload_n 0, 1) := by decide +kernel
theorem dX8_draw_44 : decode cX8_draw 44 = .ok (.iload_n 1, 1) := by decide +kernel
theorem dX8_draw_45 : decode cX8_draw 45 = .ok (.aload_n 0, 1) := by decide +kernel
theorem dX8_draw_46 : decode cX8_draw 46 = .ok (.iload 4, 2) := by decide +kernel
theorem dX8_draw_48 : decode cX8_draw 48 = .ok (.invokevirtual 153, 3) := by decide +kernel
theorem dX8_draw_51 : decode cX8_draw 51 = .ok (.invokevirtual 125, 3) := by decide +kernel
theorem dX8_draw_54 : decode cX8_draw 54 = .ok (.pop, 1) := by decide +kernel
theorem dX8_draw_55 : decode cX8_draw 55 = .ok (.iload 4, 2) := by decide +kernel
theorem dX8_draw_57 : decode cX8_draw 57 = .ok (.ireturn, 1) := by decide +kernel
theorem dX8_blocks_0 : decode cX8_blocks 0 = .ok (.aload_n 0, 1) := by decide +kernel
theorem dX8_blocks_1 : decode cX8_blocks 1 = .ok (.iload_n 1, 1) := by decide +kernel
theorem dX8_blocks_2 : decode cX8_blocks 2 = .ok (.invokevirtual 131, 3) := by decide +kernel
theorem dX8_blocks_5 : decode cX8_blocks 5 = .ok (.istore_n 2, 1) := by decide +kernel
theorem dX8_blocks_6 : decode cX8_blocks 6 = .ok (.iload_n 2, 1) := by decide +kernel
theorem dX8_blocks_7 : decode cX8_blocks 7 = .ok (.ifCond .eq 7, 3) := by decide +kernel
theorem dX8_blocks_10 : decode cX8_blocks 10 = .ok (.iload_n 2, 1) := by decide +kernel
theorem dX8_blocks_11 : decode cX8_blocks 11 = .ok (.goto 13, 3) := by decide +kernel
theorem dX8_blocks_14 : decode cX8_blocks 14 = .ok (.aload_n 0, 1) := by decide +kernel
theorem dX8_blocks_15 : decode cX8_blocks 15 = .ok (.getfield 19, 3) := by decide +kernel
theorem dX8_blocks_18 : decode cX8_blocks 18 = .ok (.aload_n 0, 1) := by decide +kernel
theorem dX8_blocks_19 : decode cX8_blocks 19 = .ok (.iload_n 1, 1) := by decide +kernel
theorem dX8_blocks_20 : decode cX8_blocks 20 = .ok (.invokevirtual 128, 3) := by decide +kernel
theorem dX8_blocks_23 : decode cX8_blocks 23 = .ok (.iaload, 1) := by decide +kernel
theorem dX8_blocks_24 : decode cX8_blocks 24 = .ok (.ireturn, 1) := by decide +kernel
theorem dX8_blockOf_0 : decode cX8_blockOf 0 = .ok (.iload_n 1, 1) := by decide +kernel
theorem dX8_blockOf_1 : decode cX8_blockOf 1 = .ok (.invokestatic 115, 3) := by decide +kernel
theorem dX8_blockOf_4 : decode cX8_blockOf 4 = .ok (.ifCond .eq 11, 3) := by decide +kernel
theorem dX8_blockOf_7 : decode cX8_blockOf 7 = .ok (.aload_n 0, 1) := by decide +kernel
theorem dX8_blockOf_8 : decode cX8_blockOf 8 = .ok (.iload_n 2, 1) := by decide +kernel
theorem dX8_blockOf_9 : decode cX8_blockOf 9 = .ok (.invokevirtual 105, 3) := by decide +kernel
theorem dX8_blockOf_12 : decode cX8_blockOf 12 = .ok (.ifCond .ne 5, 3) := by decide +kernel
theorem dX8_blockOf_15 : decode cX8_blockOf 15 = .ok (.iconst (-1), 1) := by decide +kernel
theorem dX8_blockOf_16 : decode cX8_blockOf 16 = .ok (.ireturn, 1) := by decide +kernel
theorem dX8_blockOf_17 : decode cX8_blockOf 17 = .ok (.aload_n 0, 1) := by decide +kernel
theorem dX8_blockOf_18 : decode cX8_blockOf 18 = .ok (.iload_n 1, 1) := by decide +kernel
theorem dX8_blockOf_19 : decode cX8_blockOf 19 = .ok (.invokevirtual 128, 3) := by decide +kernel
theorem dX8_blockOf_22 : decode cX8_blockOf 22 = .ok (.bipush (-9), 2) := by decide +kernel
theorem dX8_blockOf_24 : decode cX8_blockOf 24 = .ok (.if_icmp .ne 8, 3) := by decide +kernel
theorem dX8_blockOf_27 : decode cX8_blockOf 27 = .ok (.bipush (-2), 2) := by decide +kernel
theorem dX8_blockOf_29 : decode cX8_blockOf 29 = .ok (.goto 13, 3) := by decide +kernel
theorem dX8_blockOf_32 : decode cX8_blockOf 32 = .ok (.aload_n 0, 1) := by decide +kernel
theorem dX8_blockOf_33 : decode cX8_blockOf 33 = .ok (.aload_n 0, 1) := by decide +kernel
theorem dX8_blockOf_34 : decode cX8_blockOf 34 = .ok (.iload_n 1, 1) := by decide +kernel
theorem dX8_blockOf_35 : decode cX8_blockOf 35 = .ok (.invokevirtual 128, 3) := by decide +kernel
theorem dX8_blockOf_38 : decode cX8_blockOf 38 = .ok (.iload_n 2, 1) := by decide +kernel
theorem dX8_blockOf_39 : decode cX8_blockOf 39 = .ok (.invokevirtual 65, 3) := by decide +kernel
theorem dX8_blockOf_42 : decode cX8_blockOf 42 = .ok (.ireturn, 1) := by decide +kernel
theorem dX8_block_0 : decode cX8_block 0 = .ok (.aload_n 0, 1) := by decide +kernel
theorem dX8_block_1 : decode cX8_block 1 = .ok (.iload_n 1, 1) := by decide +kernel
theorem dX8_block_2 : decode cX8_block 2 = .ok (.invokevirtual 131, 3) := by decide +kernel
theorem dX8_block_5 : decode cX8_block 5 = .ok (.istore_n 3, 1) := by decide +kernel
theorem dX8_block_6 : decode cX8_block 6 = .ok (.iload_n 3, 1) := by decide +kernel
theorem dX8_block_7 : decode cX8_block 7 = .ok (.ifCond .eq 5, 3) := by decide +kernel
theorem dX8_block_10 : decode cX8_block 10 = .ok (.iload_n 3, 1) := by decide +kernel
theorem dX8_block_11 : decode cX8_block 11 = .ok (.ireturn, 1) := by decide +kernel
theorem dX8_block_12 : decode cX8_block 12 = .ok (.iconst 0, 1) := by decide +kernel
theorem dX8_block_13 : decode cX8_block 13 = .ok (.istore 4, 2) := by decide +kernel
theorem dX8_block_15 : decode cX8_block 15 = .ok (.iconst 0, 1) := by decide +kernel
theorem dX8_block_16 : decode cX8_block 16 = .ok (.istore 5, 2) := by decide +kernel
theorem dX8_block_18 : decode cX8_block 18 = .ok (.iload 5, 2) := by decide +kernel
theorem dX8_block_20 : decode cX8_block 20 = .ok (.aload_n 0, 1) := by decide +kernel
theorem dX8_block_21 : decode cX8_block 21 = .ok (.getfield 7, 3) := by decide +kernel
theorem dX8_block_24 : decode cX8_block 24 = .ok (.iconst 0, 1) := by decide +kernel
theorem dX8_block_25 : decode cX8_block 25 = .ok (.iaload, 1) := by decide +kernel
theorem dX8_block_26 : decode cX8_block 26 = .ok (.if_icmp .ge 37, 3) := by decide +kernel
theorem dX8_block_29 : decode cX8_block 29 = .ok (.iload 4, 2) := by decide +kernel
theorem dX8_block_31 : decode cX8_block 31 = .ok (.aload_n 0, 1) := by decide +kernel
theorem dX8_block_32 : decode cX8_block 32 = .ok (.aload_n 0, 1) := by decide +kernel
theorem dX8_block_33 : decode cX8_block 33 = .ok (.iload_n 1, 1) := by decide +kernel
theorem dX8_block_34 : decode cX8_block 34 = .ok (.invokevirtual 128, 3) := by decide +kernel
theorem dX8_block_37 : decode cX8_block 37 = .ok (.iload 5, 2) := by decide +kernel
theorem dX8_block_39 : decode cX8_block 39 = .ok (.invokevirtual 65, 3) := by decide +kernel
theorem dX8_block_42 : decode cX8_block 42 = .ok (.iload_n 2, 1) := by decide +kernel
theorem dX8_block_43 : decode cX8_block 43 = .ok (.if_icmp .ne 10, 3) := by decide +kernel
theorem dX8_block_46 : decode cX8_block 46 = .ok (.iconst 1, 1) := by decide +kernel
theorem dX8_block_47 : decode cX8_block 47 = .ok (.iload 5, 2) := by decide +kernel
theorem dX8_block_49 : decode cX8_block 49 = .ok (.ishl, 1) := by decide +kernel
theorem dX8_block_50 : decode cX8_block 50 = .ok (.goto 4, 3) := by decide +kernel
theorem dX8_block_53 : decode cX8_block 53 = .ok (.iconst 0, 1) := by decide +kernel
theorem dX8_block_54 : decode cX8_block 54 = .ok (.ior, 1) := by decide +kernel
theorem dX8_block_55 : decode cX8_block 55 = .ok (.istore 4, 2) := by decide +kernel
theorem dX8_block_57 : decode cX8_block 57 = .ok (.iinc 5 1, 3) := by decide +kernel
theorem dX8_block_60 : decode cX8_block 60 = .ok (.goto (-42), 3) := by decide +kernel
theorem dX8_block_63 : decode cX8_block 63 = .ok (.iload 4, 2) := by decide +kernel
theorem dX8_block_65 : decode cX8_block 65 = .ok (.ifCond .ne 8, 3) := by decide +kernel
theorem dX8_block_68 : decode cX8_block 68 = .ok (.bipush (-9), 2) := by decide +kernel
theorem dX8_block_70 : decode cX8_block 70 = .ok (.goto 5, 3) := by decide +kernel
theorem dX8_block_73 : decode cX8_block 73 = .ok (.iload 4, 2) := by decide +kernel
theorem dX8_block_75 : decode cX8_block 75 = .ok (.ireturn, 1) := by decide +kernel
theorem dX8_typeOf_0 : decode cX8_typeOf 0 = .ok (.aload_n 0, 1) := by decide +kernel
theorem dX8_typeOf_1 : decode cX8_typeOf 1 = .ok (.iload_n 1, 1) := by decide +kernel
theorem dX8_typeOf_2 : decode cX8_typeOf 2 = .ok (.invokevirtual 131, 3) := by decide +kernel
theorem dX8_typeOf_5 : decode cX8_typeOf 5 = .ok (.istore_n 2, 1) := by decide +kernel
theorem dX8_typeOf_6 : decode cX8_typeOf 6 = .ok (.iload_n 2, 1) := by decide +kernel
theorem dX8_typeOf_7 : decode cX8_typeOf 7 = .ok (.ifCond .eq 5, 3) := by decide +kernel
theorem dX8_typeOf_10 : decode cX8_typeOf 10 = .ok (.iload_n 2, 1) := by decide +kernel
theorem dX8_typeOf_11 : decode cX8_typeOf 11 = .ok (.ireturn, 1) := by decide +kernel
theorem dX8_typeOf_12 : decode cX8_typeOf 12 = .ok (.iconst 0, 1) := by decide +kernel
theorem dX8_typeOf_13 : decode cX8_typeOf 13 = .ok (.istore_n 3, 1) := by decide +kernel
theorem dX8_typeOf_14 : decode cX8_typeOf 14 = .ok (.iconst 0, 1) := by decide +kernel
theorem dX8_typeOf_15 : decode cX8_typeOf 15 = .ok (.istore 4, 2) := by decide +kernel
theorem dX8_typeOf_17 : decode cX8_typeOf 17 = .ok (.iload 4, 2) := by decide +kernel
theorem dX8_typeOf_19 : decode cX8_typeOf 19 = .ok (.aload_n 0, 1) := by decide +kernel
theorem dX8_typeOf_20 : decode cX8_typeOf 20 = .ok (.getfield 19, 3) := by decide +kernel
theorem dX8_typeOf_23 : decode cX8_typeOf 23 = .ok (.aload_n 0, 1) := by decide +kernel
theorem dX8_typeOf_24 : decode cX8_typeOf 24 = .ok (.iload_n 1, 1) := by decide +kernel
theorem dX8_typeOf_25 : decode cX8_typeOf 25 = .ok (.invokevirtual 128, 3) := by decide +kernel
theorem dX8_typeOf_28 : decode cX8_typeOf 28 = .ok (.iaload, 1) := by decide +kernel
theorem dX8_typeOf_29 : decode cX8_typeOf 29 = .ok (.if_icmp .ge 29, 3) := by decide +kernel
theorem dX8_typeOf_32 : decode cX8_typeOf 32 = .ok (.iload_n 3, 1) := by decide +kernel
theorem dX8_typeOf_33 : decode cX8_typeOf 33 = .ok (.iconst 1, 1) := by decide +kernel
theorem dX8_typeOf_34 : decode cX8_typeOf 34 = .ok (.iconst 3, 1) := by decide +kernel
theorem dX8_typeOf_35 : decode cX8_typeOf 35 = .ok (.aload_n 0, 1) := by decide +kernel
theorem dX8_typeOf_36 : decode cX8_typeOf 36 = .ok (.aload_n 0, 1) := by decide +kernel
theorem dX8_typeOf_37 : decode cX8_typeOf 37 = .ok (.iload_n 1, 1) := by decide +kernel
theorem dX8_typeOf_38 : decode cX8_typeOf 38 = .ok (.invokevirtual 128, 3) := by decide +kernel
theorem dX8_typeOf_41 : decode cX8_typeOf 41 = .ok (.iload 4, 2) := by decide +kernel
theorem dX8_typeOf_43 : decode cX8_typeOf 43 = .ok (.invokevirtual 76, 3) := by decide +kernel
theorem dX8_typeOf_46 : decode cX8_typeOf 46 = .ok (.iconst 1, 1) := by decide +kernel
theorem dX8_typeOf_47 : decode cX8_typeOf 47 = .ok (.isub, 1) := by decide +kernel
theorem dX8_typeOf_48 : decode cX8_typeOf 48 = .ok (.imul, 1) := by decide +kernel
theorem dX8_typeOf_49 : decode cX8_typeOf 49 = .ok (.ishl, 1) := by decide +kernel
theorem dX8_typeOf_50 : decode cX8_typeOf 50 = .ok (.iadd, 1) := by decide +kernel
theorem dX8_typeOf_51 : decode cX8_typeOf 51 = .ok (.istore_n 3, 1) := by decide +kernel
theorem dX8_typeOf_52 : decode cX8_typeOf 52 = .ok (.iinc 4 1, 3) := by decide +kernel
theorem dX8_typeOf_55 : decode cX8_typeOf 55 = .ok (.goto (-38), 3) := by decide +kernel
theorem dX8_typeOf_58 : decode cX8_typeOf 58 = .ok (.iload_n 3, 1) := by decide +kernel
theorem dX8_typeOf_59 : decode cX8_typeOf 59 = .ok (.ireturn, 1) := by decide +kernel
theorem dX8_crossings_0 : decode cX8_crossings 0 = .ok (.aload_n 0, 1) := by decide +kernel
theorem dX8_crossings_1 : decode cX8_crossings 1 = .ok (.iload_n 1, 1) := by decide +kernel
theorem dX8_crossings_2 : decode cX8_crossings 2 = .ok (.invokevirtual 131, 3) := by decide +kernel
theorem dX8_crossings_5 : decode cX8_crossings 5 = .ok (.istore_n 2, 1) := by decide +kernel
theorem dX8_crossings_6 : decode cX8_crossings 6 = .ok (.iload_n 2, 1) := by decide +kernel
theorem dX8_crossings_7 : decode cX8_crossings 7 = .ok (.ifCond .eq 5, 3) := by decide +kernel
theorem dX8_crossings_10 : decode cX8_crossings 10 = .ok (.iload_n 2, 1) := by decide +kernel
theorem dX8_crossings_11 : decode cX8_crossings 11 = .ok (.ireturn, 1) := by decide +kernel
theorem dX8_crossings_12 : decode cX8_crossings 12 = .ok (.iconst 0, 1) := by decide +kernel
theorem dX8_crossings_13 : decode cX8_crossings 13 = .ok (.istore_n 3, 1) := by decide +kernel
theorem dX8_crossings_14 : decode cX8_crossings 14 = .ok (.iconst 0, 1) := by decide +kernel
theorem dX8_crossings_15 : decode cX8_crossings 15 = .ok (.istore 4, 2) := by decide +kernel
theorem dX8_crossings_17 : decode cX8_crossings 17 = .ok (.iload 4, 2) := by decide +kernel
theorem dX8_crossings_19 : decode cX8_crossings 19 = .ok (.aload_n 0, 1) := by decide +kernel
theorem dX8_crossings_20 : decode cX8_crossings 20 = .ok (.getfield 19, 3) := by decide +kernel
theorem dX8_crossings_23 : decode cX8_crossings 23 = .ok (.aload_n 0, 1) := by decide +kernel
theorem dX8_crossings_24 : decode cX8_crossings 24 = .ok (.iload_n 1, 1) := by decide +kernel
theorem dX8_crossings_25 : decode cX8_crossings 25 = .ok (.invokevirtual 128, 3) := by decide +kernel
theorem dX8_crossings_28 : decode cX8_crossings 28 = .ok (.iaload, 1) := by decide +kernel
theorem dX8_crossings_29 : decode cX8_crossings 29 = .ok (.if_icmp .ge 60, 3) := by decide +kernel
theorem dX8_crossings_32 : decode cX8_crossings 32 = .ok (.iload 4, 2) := by decide +kernel
theorem dX8_crossings_34 : decode cX8_crossings 34 = .ok (.iconst 1, 1) := by decide +kernel
theorem dX8_crossings_35 : decode cX8_crossings 35 = .ok (.iadd, 1) := by decide +kernel
theorem dX8_crossings_36 : decode cX8_crossings 36 = .ok (.istore 5, 2) := by decide +kernel
theorem dX8_crossings_38 : decode cX8_crossings 38 = .ok (.iload 5, 2) := by decide +kernel
theorem dX8_crossings_40 : decode cX8_crossings 40 = .ok (.aload_n 0, 1) := by decide +kernel
theorem dX8_crossings_41 : decode cX8_crossings 41 = .ok (.getfield 19, 3) := by decide +kernel
theorem dX8_crossings_44 : decode cX8_crossings 44 = .ok (.aload_n 0, 1) := by decide +kernel
theorem dX8_crossings_45 : decode cX8_crossings 45 = .ok (.iload_n 1, 1) := by decide +kernel
theorem dX8_crossings_46 : decode cX8_crossings 46 = .ok (.invokevirtual 128, 3) := by decide +kernel
theorem dX8_crossings_49 : decode cX8_crossings 49 = .ok (.iaload, 1) := by decide +kernel
theorem dX8_crossings_50 : decode cX8_crossings 50 = .ok (.if_icmp .ge 33, 3) := by decide +kernel
theorem dX8_crossings_53 : decode cX8_crossings 53 = .ok (.iload_n 3, 1) := by decide +kernel
theorem dX8_crossings_54 : decode cX8_crossings 54 = .ok (.aload_n 0, 1) := by decide +kernel
theorem dX8_crossings_55 : decode cX8_crossings 55 = .ok (.aload_n 0, 1) := by decide +kernel
theorem dX8_crossings_56 : decode cX8_crossings 56 = .ok (.iload_n 1, 1) := by decide +kernel
theorem dX8_crossings_57 : decode cX8_crossings 57 = .ok (.invokevirtual 128, 3) := by decide +kernel
theorem dX8_crossings_60 : decode cX8_crossings 60 = .ok (.iload 4, 2) := by decide +kernel
theorem dX8_crossings_62 : decode cX8_crossings 62 = .ok (.iload 5, 2) := by decide +kernel
theorem dX8_crossings_64 : decode cX8_crossings 64 = .ok (.invokevirtual 69, 3) := by decide +kernel
theorem dX8_crossings_67 : decode cX8_crossings 67 = .ok (.ifCond .eq 7, 3) := by decide +kernel
theorem dX8_crossings_70 : decode cX8_crossings 70 = .ok (.iconst 1, 1) := by decide +kernel
theorem dX8_crossings_71 : decode cX8_crossings 71 = .ok (.goto 4, 3) := by decide +kernel
theorem dX8_crossings_74 : decode cX8_crossings 74 = .ok (.iconst 0, 1) := by decide +kernel
theorem dX8_crossings_75 : decode cX8_crossings 75 = .ok (.iadd, 1) := by decide +kernel
theorem dX8_crossings_76 : decode cX8_crossings 76 = .ok (.istore_n 3, 1) := by decide +kernel
theorem dX8_crossings_77 : decode cX8_crossings 77 = .ok (.iinc 5 1, 3) := by decide +kernel
theorem dX8_crossings_80 : decode cX8_crossings 80 = .ok (.goto (-42), 3) := by decide +kernel
theorem dX8_crossings_83 : decode cX8_crossings 83 = .ok (.iinc 4 1, 3) := by decide +kernel
theorem dX8_crossings_86 : decode cX8_crossings 86 = .ok (.goto (-69), 3) := by decide +kernel
theorem dX8_crossings_89 : decode cX8_crossings 89 = .ok (.iload_n 3, 1) := by decide +kernel
theorem dX8_crossings_90 : decode cX8_crossings 90 = .ok (.ireturn, 1) := by decide +kernel
theorem dX8_index_0 : decode cX8_index 0 = .ok (.aload_n 0, 1) := by decide +kernel
theorem dX8_index_1 : decode cX8_index 1 = .ok (.iload_n 1, 1) := by decide +kernel
theorem dX8_index_2 : decode cX8_index 2 = .ok (.invokevirtual 131, 3) := by decide +kernel
theorem dX8_index_5 : decode cX8_index 5 = .ok (.istore_n 2, 1) := by decide +kernel
theorem dX8_index_6 : decode cX8_index 6 = .ok (.iload_n 2, 1) := by decide +kernel
theorem dX8_index_7 : decode cX8_index 7 = .ok (.ifCond .eq 7, 3) := by decide +kernel
theorem dX8_index_10 : decode cX8_index 10 = .ok (.iload_n 2, 1) := by decide +kernel
theorem dX8_index_11 : decode cX8_index 11 = .ok (.goto 13, 3) := by decide +kernel
theorem dX8_index_14 : decode cX8_index 14 = .ok (.aload_n 0, 1) := by decide +kernel
theorem dX8_index_15 : decode cX8_index 15 = .ok (.getfield 22, 3) := by decide +kernel
theorem dX8_index_18 : decode cX8_index 18 = .ok (.aload_n 0, 1) := by decide +kernel
theorem dX8_index_19 : decode cX8_index 19 = .ok (.iload_n 1, 1) := by decide +kernel
theorem dX8_index_20 : decode cX8_index 20 = .ok (.invokevirtual 128, 3) := by decide +kernel
theorem dX8_index_23 : decode cX8_index 23 = .ok (.iaload, 1) := by decide +kernel
theorem dX8_index_24 : decode cX8_index 24 = .ok (.ireturn, 1) := by decide +kernel
theorem dX8_why_0 : decode cX8_why 0 = .ok (.aload_n 0, 1) := by decide +kernel
theorem dX8_why_1 : decode cX8_why 1 = .ok (.iload_n 1, 1) := by decide +kernel
theorem dX8_why_2 : decode cX8_why 2 = .ok (.invokevirtual 131, 3) := by decide +kernel
theorem dX8_why_5 : decode cX8_why 5 = .ok (.istore_n 2, 1) := by decide +kernel
theorem dX8_why_6 : decode cX8_why 6 = .ok (.iload_n 2, 1) := by decide +kernel
theorem dX8_why_7 : decode cX8_why 7 = .ok (.ifCond .eq 7, 3) := by decide +kernel
theorem dX8_why_10 : decode cX8_why 10 = .ok (.iload_n 2, 1) := by decide +kernel
theorem dX8_why_11 : decode cX8_why 11 = .ok (.goto 12, 3) := by decide +kernel
theorem dX8_why_14 : decode cX8_why 14 = .ok (.aload_n 0, 1) := by decide +kernel
theorem dX8_why_15 : decode cX8_why 15 = .ok (.aload_n 0, 1) := by decide +kernel
theorem dX8_why_16 : decode cX8_why 16 = .ok (.iload_n 1, 1) := by decide +kernel
theorem dX8_why_17 : decode cX8_why 17 = .ok (.invokevirtual 128, 3) := by decide +kernel
theorem dX8_why_20 : decode cX8_why 20 = .ok (.invokevirtual 62, 3) := by decide +kernel
theorem dX8_why_23 : decode cX8_why 23 = .ok (.ireturn, 1) := by decide +kernel
theorem dX8_where_0 : decode cX8_where 0 = .ok (.aload_n 0, 1) := by decide +kernel
theorem dX8_where_1 : decode cX8_where 1 = .ok (.iload_n 1, 1) := by decide +kernel
theorem dX8_where_2 : decode cX8_where 2 = .ok (.invokevirtual 131, 3) := by decide +kernel
theorem dX8_where_5 : decode cX8_where 5 = .ok (.istore_n 2, 1) := by decide +kernel
theorem dX8_where_6 : decode cX8_where 6 = .ok (.iload_n 2, 1) := by decide +kernel
theorem dX8_where_7 : decode cX8_where 7 = .ok (.ifCond .eq 7, 3) := by decide +kernel
theorem dX8_where_10 : decode cX8_where 10 = .ok (.iload_n 2, 1) := by decide +kernel
theorem dX8_where_11 : decode cX8_where 11 = .ok (.goto 12, 3) := by decide +kernel
theorem dX8_where_14 : decode cX8_where 14 = .ok (.aload_n 0, 1) := by decide +kernel
theorem dX8_where_15 : decode cX8_where 15 = .ok (.aload_n 0, 1) := by decide +kernel
theorem dX8_where_16 : decode cX8_where 16 = .ok (.iload_n 1, 1) := by decide +kernel
theorem dX8_where_17 : decode cX8_where 17 = .ok (.invokevirtual 128, 3) := by decide +kernel
theorem dX8_where_20 : decode cX8_where 20 = .ok (.invokevirtual 163, 3) := by decide +kernel
theorem dX8_where_23 : decode cX8_where 23 = .ok (.ireturn, 1) := by decide +kernel
theorem dX8_count_0 : decode cX8_count 0 = .ok (.aload_n 0, 1) := by decide +kernel
theorem dX8_count_1 : decode cX8_count 1 = .ok (.getfield 59, 3) := by decide +kernel
theorem dX8_count_4 : decode cX8_count 4 = .ok (.ireturn, 1) := by decide +kernel
theorem dX8_manyWith_0 : decode cX8_manyWith 0 = .ok (.iconst 0, 1) := by decide +kernel
theorem dX8_manyWith_1 : decode cX8_manyWith 1 = .ok (.istore_n 2, 1) := by decide +kernel
theorem dX8_manyWith_2 : decode cX8_manyWith 2 = .ok (.iconst 0, 1) := by decide +kernel
theorem dX8_manyWith_3 : decode cX8_manyWith 3 = .ok (.istore_n 3, 1) := by decide +kernel
theorem dX8_manyWith_4 : decode cX8_manyWith 4 = .ok (.iload_n 3, 1) := by decide +kernel
theorem dX8_manyWith_5 : decode cX8_manyWith 5 = .ok (.aload_n 0, 1) := by decide +kernel
theorem dX8_manyWith_6 : decode cX8_manyWith 6 = .ok (.getfield 52, 3) := by decide +kernel
theorem dX8_manyWith_9 : decode cX8_manyWith 9 = .ok (.if_icmp .ge 35, 3) := by decide +kernel
theorem dX8_manyWith_12 : decode cX8_manyWith 12 = .ok (.iload_n 2, 1) := by decide +kernel
theorem dX8_manyWith_13 : decode cX8_manyWith 13 = .ok (.aload_n 0, 1) := by decide +kernel
theorem dX8_manyWith_14 : decode cX8_manyWith 14 = .ok (.iload_n 3, 1) := by decide +kernel
theorem dX8_manyWith_15 : decode cX8_manyWith 15 = .ok (.invokevirtual 150, 3) := by decide +kernel
theorem dX8_manyWith_18 : decode cX8_manyWith 18 = .ok (.ifCond .eq 17, 3) := by decide +kernel
theorem dX8_manyWith_21 : decode cX8_manyWith 21 = .ok (.aload_n 0, 1) := by decide +kernel
theorem dX8_manyWith_22 : decode cX8_manyWith 22 = .ok (.getfield 19, 3) := by decide +kernel
theorem dX8_manyWith_25 : decode cX8_manyWith 25 = .ok (.iload_n 3, 1) := by decide +kernel
theorem dX8_manyWith_26 : decode cX8_manyWith 26 = .ok (.iaload, 1) := by decide +kernel
theorem dX8_manyWith_27 : decode cX8_manyWith 27 = .ok (.iload_n 1, 1) := by decide +kernel
theorem dX8_manyWith_28 : decode cX8_manyWith 28 = .ok (.if_icmp .ne 7, 3) := by decide +kernel
theorem dX8_manyWith_31 : decode cX8_manyWith 31 = .ok (.iconst 1, 1) := by decide +kernel
theorem dX8_manyWith_32 : decode cX8_manyWith 32 = .ok (.goto 4, 3) := by decide +kernel
theorem dX8_manyWith_35 : decode cX8_manyWith 35 = .ok (.iconst 0, 1) := by decide +kernel
theorem dX8_manyWith_36 : decode cX8_manyWith 36 = .ok (.iadd, 1) := by decide +kernel
theorem dX8_manyWith_37 : decode cX8_manyWith 37 = .ok (.istore_n 2, 1) := by decide +kernel
theorem dX8_manyWith_38 : decode cX8_manyWith 38 = .ok (.iinc 3 1, 3) := by decide +kernel
theorem dX8_manyWith_41 : decode cX8_manyWith 41 = .ok (.goto (-37), 3) := by decide +kernel
theorem dX8_manyWith_44 : decode cX8_manyWith 44 = .ok (.iload_n 2, 1) := by decide +kernel
theorem dX8_manyWith_45 : decode cX8_manyWith 45 = .ok (.ireturn, 1) := by decide +kernel
theorem dX8_countWith_0 : decode cX8_countWith 0 = .ok (.iload_n 1, 1) := by decide +kernel
theorem dX8_countWith_1 : decode cX8_countWith 1 = .ok (.iconst 1, 1) := by decide +kernel
theorem dX8_countWith_2 : decode cX8_countWith 2 = .ok (.bipush 6, 2) := by decide +kernel
theorem dX8_countWith_4 : decode cX8_countWith 4 = .ok (.invokestatic 96, 3) := by decide +kernel
theorem dX8_countWith_7 : decode cX8_countWith 7 = .ok (.ifCond .eq 11, 3) := by decide +kernel
theorem dX8_countWith_10 : decode cX8_countWith 10 = .ok (.aload_n 0, 1) := by decide +kernel
theorem dX8_countWith_11 : decode cX8_countWith 11 = .ok (.iload_n 1, 1) := by decide +kernel
theorem dX8_countWith_12 : decode cX8_countWith 12 = .ok (.invokevirtual 166, 3) := by decide +kernel
theorem dX8_countWith_15 : decode cX8_countWith 15 = .ok (.goto 4, 3) := by decide +kernel
theorem dX8_countWith_18 : decode cX8_countWith 18 = .ok (.iconst (-1), 1) := by decide +kernel
theorem dX8_countWith_19 : decode cX8_countWith 19 = .ok (.ireturn, 1) := by decide +kernel
theorem dX8_below_0 : decode cX8_below 0 = .ok (.aload_n 0, 1) := by decide +kernel
theorem dX8_below_1 : decode cX8_below 1 = .ok (.iload_n 1, 1) := by decide +kernel
theorem dX8_below_2 : decode cX8_below 2 = .ok (.iload_n 2, 1) := by decide +kernel
theorem dX8_below_3 : decode cX8_below 3 = .ok (.invokevirtual 134, 3) := by decide +kernel
theorem dX8_below_6 : decode cX8_below 6 = .ok (.istore_n 3, 1) := by decide +kernel
theorem dX8_below_7 : decode cX8_below 7 = .ok (.iload_n 3, 1) := by decide +kernel
theorem dX8_below_8 : decode cX8_below 8 = .ok (.ifCond .eq 7, 3) := by decide +kernel
theorem dX8_below_11 : decode cX8_below 11 = .ok (.iload_n 3, 1) := by decide +kernel
theorem dX8_below_12 : decode cX8_below 12 = .ok (.goto 25, 3) := by decide +kernel
theorem dX8_below_15 : decode cX8_below 15 = .ok (.aload_n 0, 1) := by decide +kernel
theorem dX8_below_16 : decode cX8_below 16 = .ok (.aload_n 0, 1) := by decide +kernel
theorem dX8_below_17 : decode cX8_below 17 = .ok (.iload_n 1, 1) := by decide +kernel
theorem dX8_below_18 : decode cX8_below 18 = .ok (.invokevirtual 128, 3) := by decide +kernel
theorem dX8_below_21 : decode cX8_below 21 = .ok (.aload_n 0, 1) := by decide +kernel
theorem dX8_below_22 : decode cX8_below 22 = .ok (.iload_n 2, 1) := by decide +kernel
theorem dX8_below_23 : decode cX8_below 23 = .ok (.invokevirtual 128, 3) := by decide +kernel
theorem dX8_below_26 : decode cX8_below 26 = .ok (.invokevirtual 89, 3) := by decide +kernel
theorem dX8_below_29 : decode cX8_below 29 = .ok (.ifCond .eq 7, 3) := by decide +kernel
theorem dX8_below_32 : decode cX8_below 32 = .ok (.iconst 1, 1) := by decide +kernel
theorem dX8_below_33 : decode cX8_below 33 = .ok (.goto 4, 3) := by decide +kernel
theorem dX8_below_36 : decode cX8_below 36 = .ok (.iconst 0, 1) := by decide +kernel
theorem dX8_below_37 : decode cX8_below 37 = .ok (.ireturn, 1) := by decide +kernel
theorem dX8_isCover_0 : decode cX8_isCover 0 = .ok (.aload_n 0, 1) := by decide +kernel
theorem dX8_isCover_1 : decode cX8_isCover 1 = .ok (.iload_n 1, 1) := by decide +kernel
theorem dX8_isCover_2 : decode cX8_isCover 2 = .ok (.invokevirtual 150, 3) := by decide +kernel
theorem dX8_isCover_5 : decode cX8_isCover 5 = .ok (.ifCond .eq 20, 3) := by decide +kernel
theorem dX8_isCover_8 : decode cX8_isCover 8 = .ok (.aload_n 0, 1) := by decide +kernel
theorem dX8_isCover_9 : decode cX8_isCover 9 = .ok (.iload_n 2, 1) := by decide +kernel
theorem dX8_isCover_10 : decode cX8_isCover 10 = .ok (.invokevirtual 150, 3) := by decide +kernel
theorem dX8_isCover_13 : decode cX8_isCover 13 = .ok (.ifCond .eq 12, 3) := by decide +kernel
theorem dX8_isCover_16 : decode cX8_isCover 16 = .ok (.aload_n 0, 1) := by decide +kernel
theorem dX8_isCover_17 : decode cX8_isCover 17 = .ok (.iload_n 1, 1) := by decide +kernel
theorem dX8_isCover_18 : decode cX8_isCover 18 = .ok (.iload_n 2, 1) := by decide +kernel
theorem dX8_isCover_19 : decode cX8_isCover 19 = .ok (.invokevirtual 169, 3) := by decide +kernel
theorem dX8_isCover_22 : decode cX8_isCover 22 = .ok (.ifCond .ne 5, 3) := by decide +kernel
theorem dX8_isCover_25 : decode cX8_isCover 25 = .ok (.iconst 0, 1) := by decide +kernel
theorem dX8_isCover_26 : decode cX8_isCover 26 = .ok (.ireturn, 1) := by decide +kernel
theorem dX8_isCover_27 : decode cX8_isCover 27 = .ok (.iconst 0, 1) := by decide +kernel
theorem dX8_isCover_28 : decode cX8_isCover 28 = .ok (.istore_n 3, 1) := by decide +kernel
theorem dX8_isCover_29 : decode cX8_isCover 29 = .ok (.iload_n 3, 1) := by decide +kernel
theorem dX8_isCover_30 : decode cX8_isCover 30 = .ok (.aload_n 0, 1) := by decide +kernel
theorem dX8_isCover_31 : decode cX8_isCover 31 = .ok (.getfield 52, 3) := by decide +kernel
theorem dX8_isCover_34 : decode cX8_isCover 34 = .ok (.if_icmp .ge 37, 3) := by decide +kernel
theorem dX8_isCover_37 : decode cX8_isCover 37 = .ok (.aload_n 0, 1) := by decide +kernel
theorem dX8_isCover_38 : decode cX8_isCover 38 = .ok (.iload_n 3, 1) := by decide +kernel
theorem dX8_isCover_39 : decode cX8_isCover 39 = .ok (.invokevirtual 150, 3) := by decide +kernel
theorem dX8_isCover_42 : decode cX8_isCover 42 = .ok (.ifCond .eq 23, 3) := by decide +kernel
theorem dX8_isCover_45 : decode cX8_isCover 45 = .ok (.aload_n 0, 1) := by decide +kernel
theorem dX8_isCover_46 : decode cX8_isCover 46 = .ok (.iload_n 1, 1) := by decide +kernel
theorem dX8_isCover_47 : decode cX8_isCover 47 = .ok (.iload_n 3, 1) := by decide +kernel
theorem dX8_isCover_48 : decode cX8_isCover 48 = .ok (.invokevirtual 169, 3) := by decide +kernel
theorem dX8_isCover_51 : decode cX8_isCover 51 = .ok (.ifCond .eq 14, 3) := by decide +kernel
theorem dX8_isCover_54 : decode cX8_isCover 54 = .ok (.aload_n 0, 1) := by decide +kernel
theorem dX8_isCover_55 : decode cX8_isCover 55 = .ok (.iload_n 3, 1) := by decide +kernel
theorem dX8_isCover_56 : decode cX8_isCover 56 = .ok (.iload_n 2, 1) := by decide +kernel
theorem dX8_isCover_57 : decode cX8_isCover 57 = .ok (.invokevirtual 169, 3) := by decide +kernel
theorem dX8_isCover_60 : decode cX8_isCover 60 = .ok (.ifCond .eq 5, 3) := by decide +kernel
theorem dX8_isCover_63 : decode cX8_isCover 63 = .ok (.iconst 0, 1) := by decide +kernel
theorem dX8_isCover_64 : decode cX8_isCover 64 = .ok (.ireturn, 1) := by decide +kernel
theorem dX8_isCover_65 : decode cX8_isCover 65 = .ok (.iinc 3 1, 3) := by decide +kernel
theorem dX8_isCover_68 : decode cX8_isCover 68 = .ok (.goto (-39), 3) := by decide +kernel
theorem dX8_isCover_71 : decode cX8_isCover 71 = .ok (.iconst 1, 1) := by decide +kernel
theorem dX8_isCover_72 : decode cX8_isCover 72 = .ok (.ireturn, 1) := by decide +kernel
theorem dX8_covers_0 : decode cX8_covers 0 = .ok (.aload_n 0, 1) := by decide +kernel
theorem dX8_covers_1 : decode cX8_covers 1 = .ok (.iload_n 1, 1) := by decide +kernel
theorem dX8_covers_2 : decode cX8_covers 2 = .ok (.invokevirtual 131, 3) := by decide +kernel
theorem dX8_covers_5 : decode cX8_covers 5 = .ok (.istore_n 3, 1) := by decide +kernel
theorem dX8_covers_6 : decode cX8_covers 6 = .ok (.iload_n 3, 1) := by decide +kernel
theorem dX8_covers_7 : decode cX8_covers 7 = .ok (.ifCond .eq 5, 3) := by decide +kernel
theorem dX8_covers_10 : decode cX8_covers 10 = .ok (.iload_n 3, 1) := by decide +kernel
theorem dX8_covers_11 : decode cX8_covers 11 = .ok (.ireturn, 1) := by decide +kernel
theorem dX8_covers_12 : decode cX8_covers 12 = .ok (.aload_n 0, 1) := by decide +kernel
theorem dX8_covers_13 : decode cX8_covers 13 = .ok (.iload_n 1, 1) := by decide +kernel
theorem dX8_covers_14 : decode cX8_covers 14 = .ok (.invokevirtual 128, 3) := by decide +kernel
theorem dX8_covers_17 : decode cX8_covers 17 = .ok (.istore 4, 2) := by decide +kernel
theorem dX8_covers_19 : decode cX8_covers 19 = .ok (.aload_n 0, 1) := by decide +kernel
theorem dX8_covers_20 : decode cX8_covers 20 = .ok (.iload 4, 2) := by decide +kernel
theorem dX8_covers_22 : decode cX8_covers 22 = .ok (.invokevirtual 150, 3) := by decide +kernel
theorem dX8_covers_25 : decode cX8_covers 25 = .ok (.ifCond .ne 6, 3) := by decide +kernel
theorem dX8_covers_28 : decode cX8_covers 28 = .ok (.bipush (-3), 2) := by decide +kernel
theorem dX8_covers_30 : decode cX8_covers 30 = .ok (.ireturn, 1) := by decide +kernel
theorem dX8_covers_31 : decode cX8_covers 31 = .ok (.iconst 0, 1) := by decide +kernel
theorem dX8_covers_32 : decode cX8_covers 32 = .ok (.istore 5, 2) := by decide +kernel
theorem dX8_covers_34 : decode cX8_covers 34 = .ok (.iconst 0, 1) := by decide +kernel
theorem dX8_covers_35 : decode cX8_covers 35 = .ok (.istore 6, 2) := by decide +kernel
theorem dX8_covers_37 : decode cX8_covers 37 = .ok (.iload 6, 2) := by decide +kernel
theorem dX8_covers_39 : decode cX8_covers 39 = .ok (.aload_n 0, 1) := by decide +kernel
theorem dX8_covers_40 : decode cX8_covers 40 = .ok (.getfield 52, 3) := by decide +kernel
theorem dX8_covers_43 : decode cX8_covers 43 = .ok (.if_icmp .ge 48, 3) := by decide +kernel
theorem dX8_covers_46 : decode cX8_covers 46 = .ok (.iload 5, 2) := by decide +kernel
theorem dX8_covers_48 : decode cX8_covers 48 = .ok (.iload_n 2, 1) := by decide +kernel
theorem dX8_covers_49 : decode cX8_covers 49 = .ok (.ifCond .eq 17, 3) := by decide +kernel
theorem dX8_covers_52 : decode cX8_covers 52 = .ok (.aload_n 0, 1) := by decide +kernel
theorem dX8_covers_53 : decode cX8_covers 53 = .ok (.iload 6, 2) := by decide +kernel
theorem dX8_covers_55 : decode cX8_covers 55 = .ok (.iload 4, 2) := by decide +kernel
theorem dX8_covers_57 : decode cX8_covers 57 = .ok (.invokevirtual 172, 3) := by decide +kernel
theorem dX8_covers_60 : decode cX8_covers 60 = .ok (.ifCond .eq 21, 3) := by decide +kernel
theorem dX8_covers_63 : decode cX8_covers 63 = .ok (.goto 14, 3) := by decide +kernel
theorem dX8_covers_66 : decode cX8_covers 66 = .ok (.aload_n 0, 1) := by decide +kernel
theorem dX8_covers_67 : decode cX8_covers 67 = .ok (.iload 4, 2) := by decide +kernel
theorem dX8_covers_69 : decode cX8_covers 69 = .ok (.iload 6, 2) := by decide +kernel
theorem dX8_covers_71 : decode cX8_covers 71 = .ok (.invokevirtual 172, 3) := by decide +kernel
theorem dX8_covers_74 : decode cX8_covers 74 = .ok (.ifCond .eq 7, 3) := by decide +kernel
theorem dX8_covers_77 : decode cX8_covers 77 = .ok (.iconst 1, 1) := by decide +kernel
theorem dX8_covers_78 : decode cX8_covers 78 = .ok (.goto 4, 3) := by decide +kernel
theorem dX8_covers_81 : decode cX8_covers 81 = .ok (.iconst 0, 1) := by decide +kernel
theorem dX8_covers_82 : decode cX8_covers 82 = .ok (.iadd, 1) := by decide +kernel
theorem dX8_covers_83 : decode cX8_covers 83 = .ok (.istore 5, 2) := by decide +kernel
theorem dX8_covers_85 : decode cX8_covers 85 = .ok (.iinc 6 1, 3) := by decide +kernel
theorem dX8_covers_88 : decode cX8_covers 88 = .ok (.goto (-51), 3) := by decide +kernel
theorem dX8_covers_91 : decode cX8_covers 91 = .ok (.iload 5, 2) := by decide +kernel
theorem dX8_covers_93 : decode cX8_covers 93 = .ok (.ireturn, 1) := by decide +kernel
theorem dX8_isBound_0 : decode cX8_isBound 0 = .ok (.aload_n 0, 1) := by decide +kernel
theorem dX8_isBound_1 : decode cX8_isBound 1 = .ok (.iload_n 1, 1) := by decide +kernel
theorem dX8_isBound_2 : decode cX8_isBound 2 = .ok (.invokevirtual 150, 3) := by decide +kernel
theorem dX8_isBound_5 : decode cX8_isBound 5 = .ok (.ifCond .eq 51, 3) := by decide +kernel
theorem dX8_isBound_8 : decode cX8_isBound 8 = .ok (.iload 4, 2) := by decide +kernel
theorem dX8_isBound_10 : decode cX8_isBound 10 = .ok (.ifCond .eq 24, 3) := by decide +kernel
theorem dX8_isBound_13 : decode cX8_isBound 13 = .ok (.aload_n 0, 1) := by decide +kernel
theorem dX8_isBound_14 : decode cX8_isBound 14 = .ok (.iload_n 1, 1) := by decide +kernel
theorem dX8_isBound_15 : decode cX8_isBound 15 = .ok (.iload_n 2, 1) := by decide +kernel
theorem dX8_isBound_16 : decode cX8_isBound 16 = .ok (.invokevirtual 89, 3) := by decide +kernel
theorem dX8_isBound_19 : decode cX8_isBound 19 = .ok (.ifCond .eq 37, 3) := by decide +kernel
theorem dX8_isBound_22 : decode cX8_isBound 22 = .ok (.aload_n 0, 1) := by decide +kernel
theorem dX8_isBound_23 : decode cX8_isBound 23 = .ok (.iload_n 1, 1) := by decide +kernel
theorem dX8_isBound_24 : decode cX8_isBound 24 = .ok (.iload_n 3, 1) := by decide +kernel
theorem dX8_isBound_25 : decode cX8_isBound 25 = .ok (.invokevirtual 89, 3) := by decide +kernel
theorem dX8_isBound_28 : decode cX8_isBound 28 = .ok (.ifCond .eq 28, 3) := by decide +kernel
theorem dX8_isBound_31 : decode cX8_isBound 31 = .ok (.goto 21, 3) := by decide +kernel
theorem dX8_isBound_34 : decode cX8_isBound 34 = .ok (.aload_n 0, 1) := by decide +kernel
theorem dX8_isBound_35 : decode cX8_isBound 35 = .ok (.iload_n 2, 1) := by decide +kernel
theorem dX8_isBound_36 : decode cX8_isBound 36 = .ok (.iload_n 1, 1) := by decide +kernel
theorem dX8_isBound_37 : decode cX8_isBound 37 = .ok (.invokevirtual 89, 3) := by decide +kernel
theorem dX8_isBound_40 : decode cX8_isBound 40 = .ok (.ifCond .eq 16, 3) := by decide +kernel
theorem dX8_isBound_43 : decode cX8_isBound 43 = .ok (.aload_n 0, 1) := by decide +kernel
theorem dX8_isBound_44 : decode cX8_isBound 44 = .ok (.iload_n 3, 1) := by decide +kernel
theorem dX8_isBound_45 : decode cX8_isBound 45 = .ok (.iload_n 1, 1) := by decide +kernel
theorem dX8_isBound_46 : decode cX8_isBound 46 = .ok (.invokevirtual 89, 3) := by decide +kernel
theorem dX8_isBound_49 : decode cX8_isBound 49 = .ok (.ifCond .eq 7, 3) := by decide +kernel
theorem dX8_isBound_52 : decode cX8_isBound 52 = .ok (.iconst 1, 1) := by decide +kernel
theorem dX8_isBound_53 : decode cX8_isBound 53 = .ok (.goto 4, 3) := by decide +kernel
theorem dX8_isBound_56 : decode cX8_isBound 56 = .ok (.iconst 0, 1) := by decide +kernel
theorem dX8_isBound_57 : decode cX8_isBound 57 = .ok (.ireturn, 1) := by decide +kernel
theorem dX8_nearestBounds_0 : decode cX8_nearestBounds 0 = .ok (.iconst 0, 1) := by decide +kernel
theorem dX8_nearestBounds_1 : decode cX8_nearestBounds 1 = .ok (.istore 4, 2) := by decide +kernel
theorem dX8_nearestBounds_3 : decode cX8_nearestBounds 3 = .ok (.iconst 0, 1) := by decide +kernel
theorem dX8_nearestBounds_4 : decode cX8_nearestBounds 4 = .ok (.istore 5, 2) := by decide +kernel
theorem dX8_nearestBounds_6 : decode cX8_nearestBounds 6 = .ok (.iload 5, 2) := by decide +kernel
theorem dX8_nearestBounds_8 : decode cX8_nearestBounds 8 = .ok (.aload_n 0, 1) := by decide +kernel
theorem dX8_nearestBounds_9 : decode cX8_nearestBounds 9 = .ok (.getfield 52, 3) := by decide +kernel
theorem dX8_nearestBounds_12 : decode cX8_nearestBounds 12 = .ok (.if_icmp .ge 124, 3) := by decide +kernel
theorem dX8_nearestBounds_15 : decode cX8_nearestBounds 15 = .ok (.aload_n 0, 1) := by decide +kernel
theorem dX8_nearestBounds_16 : decode cX8_nearestBounds 16 = .ok (.iload 5, 2) := by decide +kernel
theorem dX8_nearestBounds_18 : decode cX8_nearestBounds 18 = .ok (.iload_n 1, 1) := by decide +kernel
theorem dX8_nearestBounds_19 : decode cX8_nearestBounds 19 = .ok (.iload_n 2, 1) := by decide +kernel
theorem dX8_nearestBounds_20 : decode cX8_nearestBounds 20 = .ok (.iload_n 3, 1) := by decide +kernel
theorem dX8_nearestBounds_21 : decode cX8_nearestBounds 21 = .ok (.invokevirtual 175, 3) := by decide +kernel
theorem dX8_nearestBounds_24 : decode cX8_nearestBounds 24 = .ok (.istore 6, 2) := by decide +kernel
theorem dX8_nearestBounds_26 : decode cX8_nearestBounds 26 = .ok (.iconst 0, 1) := by decide +kernel
theorem dX8_nearestBounds_27 : decode cX8_nearestBounds 27 = .ok (.istore 7, 2) := by decide +kernel
theorem dX8_nearestBounds_29 : decode cX8_nearestBounds 29 = .ok (.iload 7, 2) := by decide +kernel
theorem dX8_nearestBounds_31 : decode cX8_nearestBounds 31 = .ok (.aload_n 0, 1) := by decide +kernel
theorem dX8_nearestBounds_32 : decode cX8_nearestBounds 32 = .ok (.getfield 52, 3) := by decide +kernel
theorem dX8_nearestBounds_35 : decode cX8_nearestBounds 35 = .ok (.if_icmp .ge 62, 3) := by decide +kernel
theorem dX8_nearestBounds_38 : decode cX8_nearestBounds 38 = .ok (.iload 6, 2) := by decide +kernel
theorem dX8_nearestBounds_40 : decode cX8_nearestBounds 40 = .ok (.ifCond .eq 57, 3) := by decide +kernel
theorem dX8_nearestBounds_43 : decode cX8_nearestBounds 43 = .ok (.aload_n 0, 1) := by decide +kernel
theorem dX8_nearestBounds_44 : decode cX8_nearestBounds 44 = .ok (.iload 7, 2) := by decide +kernel
theorem dX8_nearestBounds_46 : decode cX8_nearestBounds 46 = .ok (.iload_n 1, 1) := by decide +kernel
theorem dX8_nearestBounds_47 : decode cX8_nearestBounds 47 = .ok (.iload_n 2, 1) := by decide +kernel
theorem dX8_nearestBounds_48 : decode cX8_nearestBounds 48 = .ok (.iload_n 3, 1) := by decide +kernel
theorem dX8_nearestBounds_49 : decode cX8_nearestBounds 49 = .ok (.invokevirtual 175, 3) := by decide +kernel
theorem dX8_nearestBounds_52 : decode cX8_nearestBounds 52 = .ok (.ifCond .eq 32, 3) := by decide +kernel
theorem dX8_nearestBounds_55 : decode cX8_nearestBounds 55 = .ok (.iload_n 3, 1) := by decide +kernel
theorem dX8_nearestBounds_56 : decode cX8_nearestBounds 56 = .ok (.ifCond .eq 17, 3) := by decide +kernel
theorem dX8_nearestBounds_59 : decode cX8_nearestBounds 59 = .ok (.aload_n 0, 1) := by decide +kernel
theorem dX8_nearestBounds_60 : decode cX8_nearestBounds 60 = .ok (.iload 5, 2) := by decide +kernel
theorem dX8_nearestBounds_62 : decode cX8_nearestBounds 62 = .ok (.iload 7, 2) := by decide +kernel
theorem dX8_nearestBounds_64 : decode cX8_nearestBounds 64 = .ok (.invokevirtual 169, 3) := by decide +kernel
theorem dX8_nearestBounds_67 : decode cX8_nearestBounds 67 = .ok (.ifCond .eq 17, 3) := by decide +kernel
theorem dX8_nearestBounds_70 : decode cX8_nearestBounds 70 = .ok (.goto 18, 3) := by decide +kernel
theorem dX8_nearestBounds_73 : decode cX8_nearestBounds 73 = .ok (.aload_n 0, 1) := by decide +kernel
theorem dX8_nearestBounds_74 : decode cX8_nearestBounds 74 = .ok (.iload 7, 2) := by decide +kernel
theorem dX8_nearestBounds_76 : decode cX8_nearestBounds 76 = .ok (.iload 5, 2) := by decide +kernel
theorem dX8_nearestBounds_78 : decode cX8_nearestBounds 78 = .ok (.invokevirtual 169, 3) := by decide +kernel
theorem dX8_nearestBounds_81 : decode cX8_nearestBounds 81 = .ok (.ifCond .ne 7, 3) := by decide +kernel
theorem dX8_nearestBounds_84 : decode cX8_nearestBounds 84 = .ok (.iconst 1, 1) := by decide +kernel
theorem dX8_nearestBounds_85 : decode cX8_nearestBounds 85 = .ok (.goto 4, 3) := by decide +kernel
theorem dX8_nearestBounds_88 : decode cX8_nearestBounds 88 = .ok (.iconst 0, 1) := by decide +kernel
theorem dX8_nearestBounds_89 : decode cX8_nearestBounds 89 = .ok (.istore 6, 2) := by decide +kernel
theorem dX8_nearestBounds_91 : decode cX8_nearestBounds 91 = .ok (.iinc 7 1, 3) := by decide +kernel
theorem dX8_nearestBounds_94 : decode cX8_nearestBounds 94 = .ok (.goto (-65), 3) := by decide +kernel
theorem dX8_nearestBounds_97 : decode cX8_nearestBounds 97 = .ok (.iload 4, 2) := by decide +kernel
theorem dX8_nearestBounds_99 : decode cX8_nearestBounds 99 = .ok (.iload 6, 2) := by decide +kernel
theorem dX8_nearestBounds_101 : decode cX8_nearestBounds 101 = .ok (.ifCond .eq 7, 3) := by decide +kernel
theorem dX8_nearestBounds_104 : decode cX8_nearestBounds 104 = .ok (.iconst 1, 1) := by decide +kernel
theorem dX8_nearestBounds_105 : decode cX8_nearestBounds 105 = .ok (.goto 4, 3) := by decide +kernel
theorem dX8_nearestBounds_108 : decode cX8_nearestBounds 108 = .ok (.iconst 0, 1) := by decide +kernel
theorem dX8_nearestBounds_109 : decode cX8_nearestBounds 109 = .ok (.iadd, 1) := by decide +kernel
theorem dX8_nearestBounds_110 : decode cX8_nearestBounds 110 = .ok (.istore 4, 2) := by decide +kernel
theorem dX8_nearestBounds_112 : decode cX8_nearestBounds 112 = .ok (.aload_n 0, 1) := by decide +kernel
theorem dX8_nearestBounds_113 : decode cX8_nearestBounds 113 = .ok (.iload 6, 2) := by decide +kernel
theorem dX8_nearestBounds_115 : decode cX8_nearestBounds 115 = .ok (.ifCond .eq 8, 3) := by decide +kernel
theorem dX8_nearestBounds_118 : decode cX8_nearestBounds 118 = .ok (.iload 5, 2) := by decide +kernel
theorem dX8_nearestBounds_120 : decode cX8_nearestBounds 120 = .ok (.goto 7, 3) := by decide +kernel
theorem dX8_nearestBounds_123 : decode cX8_nearestBounds 123 = .ok (.aload_n 0, 1) := by decide +kernel
theorem dX8_nearestBounds_124 : decode cX8_nearestBounds 124 = .ok (.getfield 179, 3) := by decide +kernel
theorem dX8_nearestBounds_127 : decode cX8_nearestBounds 127 = .ok (.putfield 179, 3) := by decide +kernel
theorem dX8_nearestBounds_130 : decode cX8_nearestBounds 130 = .ok (.iinc 5 1, 3) := by decide +kernel
theorem dX8_nearestBounds_133 : decode cX8_nearestBounds 133 = .ok (.goto (-127), 3) := by decide +kernel
theorem dX8_nearestBounds_136 : decode cX8_nearestBounds 136 = .ok (.iload 4, 2) := by decide +kernel
theorem dX8_nearestBounds_138 : decode cX8_nearestBounds 138 = .ok (.ireturn, 1) := by decide +kernel
theorem dX8_bounds_0 : decode cX8_bounds 0 = .ok (.aload_n 0, 1) := by decide +kernel
theorem dX8_bounds_1 : decode cX8_bounds 1 = .ok (.iload_n 1, 1) := by decide +kernel
theorem dX8_bounds_2 : decode cX8_bounds 2 = .ok (.iload_n 2, 1) := by decide +kernel
theorem dX8_bounds_3 : decode cX8_bounds 3 = .ok (.invokevirtual 134, 3) := by decide +kernel
theorem dX8_bounds_6 : decode cX8_bounds 6 = .ok (.istore 4, 2) := by decide +kernel
theorem dX8_bounds_8 : decode cX8_bounds 8 = .ok (.iload 4, 2) := by decide +kernel
theorem dX8_bounds_10 : decode cX8_bounds 10 = .ok (.ifCond .eq 8, 3) := by decide +kernel
theorem dX8_bounds_13 : decode cX8_bounds 13 = .ok (.iload 4, 2) := by decide +kernel
theorem dX8_bounds_15 : decode cX8_bounds 15 = .ok (.goto 18, 3) := by decide +kernel
theorem dX8_bounds_18 : decode cX8_bounds 18 = .ok (.aload_n 0, 1) := by decide +kernel
theorem dX8_bounds_19 : decode cX8_bounds 19 = .ok (.aload_n 0, 1) := by decide +kernel
theorem dX8_bounds_20 : decode cX8_bounds 20 = .ok (.iload_n 1, 1) := by decide +kernel
theorem dX8_bounds_21 : decode cX8_bounds 21 = .ok (.invokevirtual 128, 3) := by decide +kernel
theorem dX8_bounds_24 : decode cX8_bounds 24 = .ok (.aload_n 0, 1) := by decide +kernel
theorem dX8_bounds_25 : decode cX8_bounds 25 = .ok (.iload_n 2, 1) := by decide +kernel
theorem dX8_bounds_26 : decode cX8_bounds 26 = .ok (.invokevirtual 128, 3) := by decide +kernel
theorem dX8_bounds_29 : decode cX8_bounds 29 = .ok (.iload_n 3, 1) := by decide +kernel
theorem dX8_bounds_30 : decode cX8_bounds 30 = .ok (.invokevirtual 182, 3) := by decide +kernel
theorem dX8_bounds_33 : decode cX8_bounds 33 = .ok (.ireturn, 1) := by decide +kernel
theorem dX8_bound_0 : decode cX8_bound 0 = .ok (.iload 4, 2) := by decide +kernel
theorem dX8_bound_2 : decode cX8_bound 2 = .ok (.invokestatic 115, 3) := by decide +kernel
theorem dX8_bound_5 : decode cX8_bound 5 = .ok (.ifCond .ne 5, 3) := by decide +kernel
theorem dX8_bound_8 : decode cX8_bound 8 = .ok (.iconst (-1), 1) := by decide +kernel
theorem dX8_bound_9 : decode cX8_bound 9 = .ok (.ireturn, 1) := by decide +kernel
theorem dX8_bound_10 : decode cX8_bound 10 = .ok (.aload_n 0, 1) := by decide +kernel
theorem dX8_bound_11 : decode cX8_bound 11 = .ok (.iload_n 1, 1) := by decide +kernel
theorem dX8_bound_12 : decode cX8_bound 12 = .ok (.iload_n 2, 1) := by decide +kernel
theorem dX8_bound_13 : decode cX8_bound 13 = .ok (.invokevirtual 134, 3) := by decide +kernel
theorem dX8_bound_16 : decode cX8_bound 16 = .ok (.istore 5, 2) := by decide +kernel
theorem dX8_bound_18 : decode cX8_bound 18 = .ok (.iload 5, 2) := by decide +kernel
theorem dX8_bound_20 : decode cX8_bound 20 = .ok (.ifCond .eq 6, 3) := by decide +kernel
theorem dX8_bound_23 : decode cX8_bound 23 = .ok (.iload 5, 2) := by decide +kernel
theorem dX8_bound_25 : decode cX8_bound 25 = .ok (.ireturn, 1) := by decide +kernel
theorem dX8_bound_26 : decode cX8_bound 26 = .ok (.aload_n 0, 1) := by decide +kernel
theorem dX8_bound_27 : decode cX8_bound 27 = .ok (.aload_n 0, 1) := by decide +kernel
theorem dX8_bound_28 : decode cX8_bound 28 = .ok (.iload_n 1, 1) := by decide +kernel
theorem dX8_bound_29 : decode cX8_bound 29 = .ok (.invokevirtual 128, 3) := by decide +kernel
theorem dX8_bound_32 : decode cX8_bound 32 = .ok (.aload_n 0, 1) := by decide +kernel
theorem dX8_bound_33 : decode cX8_bound 33 = .ok (.iload_n 2, 1) := by decide +kernel
theorem dX8_bound_34 : decode cX8_bound 34 = .ok (.invokevirtual 128, 3) := by decide +kernel
theorem dX8_bound_37 : decode cX8_bound 37 = .ok (.iload_n 3, 1) := by decide +kernel
theorem dX8_bound_38 : decode cX8_bound 38 = .ok (.invokevirtual 182, 3) := by decide +kernel
theorem dX8_bound_41 : decode cX8_bound 41 = .ok (.iconst 1, 1) := by decide +kernel
theorem dX8_bound_42 : decode cX8_bound 42 = .ok (.if_icmp .eq 6, 3) := by decide +kernel
theorem dX8_bound_45 : decode cX8_bound 45 = .ok (.bipush (-3), 2) := by decide +kernel
theorem dX8_bound_47 : decode cX8_bound 47 = .ok (.ireturn, 1) := by decide +kernel
theorem dX8_bound_48 : decode cX8_bound 48 = .ok (.aload_n 0, 1) := by decide +kernel
theorem dX8_bound_49 : decode cX8_bound 49 = .ok (.iload 4, 2) := by decide +kernel
theorem dX8_bound_51 : decode cX8_bound 51 = .ok (.aload_n 0, 1) := by decide +kernel
theorem dX8_bound_52 : decode cX8_bound 52 = .ok (.getfield 179, 3) := by decide +kernel
theorem dX8_bound_55 : decode cX8_bound 55 = .ok (.invokevirtual 125, 3) := by decide +kernel
theorem dX8_bound_58 : decode cX8_bound 58 = .ok (.pop, 1) := by decide +kernel
theorem dX8_bound_59 : decode cX8_bound 59 = .ok (.aload_n 0, 1) := by decide +kernel
theorem dX8_bound_60 : decode cX8_bound 60 = .ok (.getfield 22, 3) := by decide +kernel
theorem dX8_bound_63 : decode cX8_bound 63 = .ok (.aload_n 0, 1) := by decide +kernel
theorem dX8_bound_64 : decode cX8_bound 64 = .ok (.getfield 179, 3) := by decide +kernel
theorem dX8_bound_67 : decode cX8_bound 67 = .ok (.iaload, 1) := by decide +kernel
theorem dX8_bound_68 : decode cX8_bound 68 = .ok (.ireturn, 1) := by decide +kernel
theorem dX8_isBetween_0 : decode cX8_isBetween 0 = .ok (.aload_n 0, 1) := by decide +kernel
theorem dX8_isBetween_1 : decode cX8_isBetween 1 = .ok (.iload_n 1, 1) := by decide +kernel
theorem dX8_isBetween_2 : decode cX8_isBetween 2 = .ok (.invokevirtual 150, 3) := by decide +kernel
theorem dX8_isBetween_5 : decode cX8_isBetween 5 = .ok (.ifCond .eq 25, 3) := by decide +kernel
theorem dX8_isBetween_8 : decode cX8_isBetween 8 = .ok (.aload_n 0, 1) := by decide +kernel
theorem dX8_isBetween_9 : decode cX8_isBetween 9 = .ok (.iload_n 2, 1) := by decide +kernel
theorem dX8_isBetween_10 : decode cX8_isBetween 10 = .ok (.iload_n 1, 1) := by decide +kernel
theorem dX8_isBetween_11 : decode cX8_isBetween 11 = .ok (.invokevirtual 89, 3) := by decide +kernel
theorem dX8_isBetween_14 : decode cX8_isBetween 14 = .ok (.ifCond .eq 16, 3) := by decide +kernel
theorem dX8_isBetween_17 : decode cX8_isBetween 17 = .ok (.aload_n 0, 1) := by decide +kernel
theorem dX8_isBetween_18 : decode cX8_isBetween 18 = .ok (.iload_n 1, 1) := by decide +kernel
theorem dX8_isBetween_19 : decode cX8_isBetween 19 = .ok (.iload_n 3, 1) := by decide +kernel
theorem dX8_isBetween_20 : decode cX8_isBetween 20 = .ok (.invokevirtual 89, 3) := by decide +kernel
theorem dX8_isBetween_23 : decode cX8_isBetween 23 = .ok (.ifCond .eq 7, 3) := by decide +kernel
theorem dX8_isBetween_26 : decode cX8_isBetween 26 = .ok (.iconst 1, 1) := by decide +kernel
theorem dX8_isBetween_27 : decode cX8_isBetween 27 = .ok (.goto 4, 3) := by decide +kernel
theorem dX8_isBetween_30 : decode cX8_isBetween 30 = .ok (.iconst 0, 1) := by decide +kernel
theorem dX8_isBetween_31 : decode cX8_isBetween 31 = .ok (.ireturn, 1) := by decide +kernel
theorem dX8_interval_0 : decode cX8_interval 0 = .ok (.aload_n 0, 1) := by decide +kernel
theorem dX8_interval_1 : decode cX8_interval 1 = .ok (.iload_n 1, 1) := by decide +kernel
theorem dX8_interval_2 : decode cX8_interval 2 = .ok (.iload_n 2, 1) := by decide +kernel
theorem dX8_interval_3 : decode cX8_interval 3 = .ok (.invokevirtual 134, 3) := by decide +kernel
theorem dX8_interval_6 : decode cX8_interval 6 = .ok (.istore_n 3, 1) := by decide +kernel
theorem dX8_interval_7 : decode cX8_interval 7 = .ok (.iload_n 3, 1) := by decide +kernel
theorem dX8_interval_8 : decode cX8_interval 8 = .ok (.ifCond .eq 5, 3) := by decide +kernel
theorem dX8_interval_11 : decode cX8_interval 11 = .ok (.iload_n 3, 1) := by decide +kernel
theorem dX8_interval_12 : decode cX8_interval 12 = .ok (.ireturn, 1) := by decide +kernel
theorem dX8_interval_13 : decode cX8_interval 13 = .ok (.iconst 0, 1) := by decide +kernel
theorem dX8_interval_14 : decode cX8_interval 14 = .ok (.istore 4, 2) := by decide +kernel
theorem dX8_interval_16 : decode cX8_interval 16 = .ok (.iconst 0, 1) := by decide +kernel
theorem dX8_interval_17 : decode cX8_interval 17 = .ok (.istore 5, 2) := by decide +kernel
theorem dX8_interval_19 : decode cX8_interval 19 = .ok (.iload 5, 2) := by decide +kernel
theorem dX8_interval_21 : decode cX8_interval 21 = .ok (.aload_n 0, 1) := by decide +kernel
theorem dX8_interval_22 : decode cX8_interval 22 = .ok (.getfield 52, 3) := by decide +kernel
theorem dX8_interval_25 : decode cX8_interval 25 = .ok (.if_icmp .ge 38, 3) := by decide +kernel
theorem dX8_interval_28 : decode cX8_interval 28 = .ok (.iload 4, 2) := by decide +kernel
theorem dX8_interval_30 : decode cX8_interval 30 = .ok (.aload_n 0, 1) := by decide +kernel
theorem dX8_interval_31 : decode cX8_interval 31 = .ok (.iload 5, 2) := by decide +kernel
theorem dX8_interval_33 : decode cX8_interval 33 = .ok (.aload_n 0, 1) := by decide +kernel
theorem dX8_interval_34 : decode cX8_interval 34 = .ok (.iload_n 1, 1) := by decide +kernel
theorem dX8_interval_35 : decode cX8_interval 35 = .ok (.invokevirtual 128, 3) := by decide +kernel
theorem dX8_interval_38 : decode cX8_interval 38 = .ok (.aload_n 0, 1) := by decide +kernel
theorem dX8_interval_39 : decode cX8_interval 39 = .ok (.iload_n 2, 1) := by decide +kernel
theorem dX8_interval_40 : decode cX8_interval 40 = .ok (.invokevirtual 128, 3) := by decide +kernel
theorem dX8_interval_43 : decode cX8_interval 43 = .ok (.invokevirtual 185, 3) := by decide +kernel
theorem dX8_interval_46 : decode cX8_interval 46 = .ok (.ifCond .eq 7, 3) := by decide +kernel
theorem dX8_interval_49 : decode cX8_interval 49 = .ok (.iconst 1, 1) := by decide +kernel
theorem dX8_interval_50 : decode cX8_interval 50 = .ok (.goto 4, 3) := by decide +kernel
theorem dX8_interval_53 : decode cX8_interval 53 = .ok (.iconst 0, 1) := by decide +kernel
theorem dX8_interval_54 : decode cX8_interval 54 = .ok (.iadd, 1) := by decide +kernel
theorem dX8_interval_55 : decode cX8_interval 55 = .ok (.istore 4, 2) := by decide +kernel
theorem dX8_interval_57 : decode cX8_interval 57 = .ok (.iinc 5 1, 3) := by decide +kernel
theorem dX8_interval_60 : decode cX8_interval 60 = .ok (.goto (-41), 3) := by decide +kernel
theorem dX8_interval_63 : decode cX8_interval 63 = .ok (.iload 4, 2) := by decide +kernel
theorem dX8_interval_65 : decode cX8_interval 65 = .ok (.ireturn, 1) := by decide +kernel
theorem dX8_moebiuses_0 : decode cX8_moebiuses 0 = .ok (.iconst 0, 1) := by decide +kernel
theorem dX8_moebiuses_1 : decode cX8_moebiuses 1 = .ok (.istore_n 3, 1) := by decide +kernel
theorem dX8_moebiuses_2 : decode cX8_moebiuses 2 = .ok (.iload_n 3, 1) := by decide +kernel
theorem dX8_moebiuses_3 : decode cX8_moebiuses 3 = .ok (.bipush 6, 2) := by decide +kernel
theorem dX8_moebiuses_5 : decode cX8_moebiuses 5 = .ok (.if_icmp .ge 133, 3) := by decide +kernel
theorem dX8_moebiuses_8 : decode cX8_moebiuses 8 = .ok (.iconst 0, 1) := by decide +kernel
theorem dX8_moebiuses_9 : decode cX8_moebiuses 9 = .ok (.istore 4, 2) := by decide +kernel
theorem dX8_moebiuses_11 : decode cX8_moebiuses 11 = .ok (.iload 4, 2) := by decide +kernel
theorem dX8_moebiuses_13 : decode cX8_moebiuses 13 = .ok (.aload_n 0, 1) := by decide +kernel
theorem dX8_moebiuses_14 : decode cX8_moebiuses 14 = .ok (.getfield 52, 3) := by decide +kernel
theorem dX8_moebiuses_17 : decode cX8_moebiuses 17 = .ok (.if_icmp .ge 115, 3) := by decide +kernel
theorem dX8_moebiuses_20 : decode cX8_moebiuses 20 = .ok (.aload_n 0, 1) := by decide +kernel
theorem dX8_moebiuses_21 : decode cX8_moebiuses 21 = .ok (.iload 4, 2) := by decide +kernel
theorem dX8_moebiuses_23 : decode cX8_moebiuses 23 = .ok (.invokevirtual 188, 3) := by decide +kernel
theorem dX8_moebiuses_26 : decode cX8_moebiuses 26 = .ok (.iload_n 3, 1) := by decide +kernel
theorem dX8_moebiuses_27 : decode cX8_moebiuses 27 = .ok (.if_icmp .ne 99, 3) := by decide +kernel
theorem dX8_moebiuses_30 : decode cX8_moebiuses 30 = .ok (.aload_n 0, 1) := by decide +kernel
theorem dX8_moebiuses_31 : decode cX8_moebiuses 31 = .ok (.getfield 28, 3) := by decide +kernel
theorem dX8_moebiuses_34 : decode cX8_moebiuses 34 = .ok (.iload 4, 2) := by decide +kernel
theorem dX8_moebiuses_36 : decode cX8_moebiuses 36 = .ok (.iload 4, 2) := by decide +kernel
theorem dX8_moebiuses_38 : decode cX8_moebiuses 38 = .ok (.iload_n 1, 1) := by decide +kernel
theorem dX8_moebiuses_39 : decode cX8_moebiuses 39 = .ok (.if_icmp .ne 7, 3) := by decide +kernel
theorem dX8_moebiuses_42 : decode cX8_moebiuses 42 = .ok (.lconst 1, 1) := by decide +kernel
theorem dX8_moebiuses_43 : decode cX8_moebiuses 43 = .ok (.goto 4, 3) := by decide +kernel
theorem dX8_moebiuses_46 : decode cX8_moebiuses 46 = .ok (.lconst 0, 1) := by decide +kernel
theorem dX8_moebiuses_47 : decode cX8_moebiuses 47 = .ok (.lastore, 1) := by decide +kernel
theorem dX8_moebiuses_48 : decode cX8_moebiuses 48 = .ok (.iconst 0, 1) := by decide +kernel
theorem dX8_moebiuses_49 : decode cX8_moebiuses 49 = .ok (.istore 5, 2) := by decide +kernel
theorem dX8_moebiuses_51 : decode cX8_moebiuses 51 = .ok (.iload 5, 2) := by decide +kernel
theorem dX8_moebiuses_53 : decode cX8_moebiuses 53 = .ok (.aload_n 0, 1) := by decide +kernel
theorem dX8_moebiuses_54 : decode cX8_moebiuses 54 = .ok (.getfield 52, 3) := by decide +kernel
theorem dX8_moebiuses_57 : decode cX8_moebiuses 57 = .ok (.if_icmp .ge 69, 3) := by decide +kernel
theorem dX8_moebiuses_60 : decode cX8_moebiuses 60 = .ok (.iload 4, 2) := by decide +kernel
theorem dX8_moebiuses_62 : decode cX8_moebiuses 62 = .ok (.iload_n 1, 1) := by decide +kernel
theorem dX8_moebiuses_63 : decode cX8_moebiuses 63 = .ok (.if_icmp .eq 63, 3) := by decide +kernel
theorem dX8_moebiuses_66 : decode cX8_moebiuses 66 = .ok (.aload_n 0, 1) := by decide +kernel
theorem dX8_moebiuses_67 : decode cX8_moebiuses 67 = .ok (.iload 4, 2) := by decide +kernel
theorem dX8_moebiuses_69 : decode cX8_moebiuses 69 = .ok (.iload_n 1, 1) := by decide +kernel
theorem dX8_moebiuses_70 : decode cX8_moebiuses 70 = .ok (.iload_n 2, 1) := by decide +kernel
theorem dX8_moebiuses_71 : decode cX8_moebiuses 71 = .ok (.invokevirtual 185, 3) := by decide +kernel
theorem dX8_moebiuses_74 : decode cX8_moebiuses 74 = .ok (.ifCond .eq 52, 3) := by decide +kernel
theorem dX8_moebiuses_77 : decode cX8_moebiuses 77 = .ok (.aload_n 0, 1) := by decide +kernel
theorem dX8_moebiuses_78 : decode cX8_moebiuses 78 = .ok (.getfield 28, 3) := by decide +kernel
theorem dX8_moebiuses_81 : decode cX8_moebiuses 81 = .ok (.iload 4, 2) := by decide +kernel
theorem dX8_moebiuses_83 : decode cX8_moebiuses 83 = .ok (.dup2, 1) := by decide +kernel
theorem dX8_moebiuses_84 : decode cX8_moebiuses 84 = .ok (.laload, 1) := by decide +kernel
theorem dX8_moebiuses_85 : decode cX8_moebiuses 85 = .ok (.aload_n 0, 1) := by decide +kernel
theorem dX8_moebiuses_86 : decode cX8_moebiuses 86 = .ok (.iload 5, 2) := by decide +kernel
theorem dX8_moebiuses_88 : decode cX8_moebiuses 88 = .ok (.iload_n 1, 1) := by decide +kernel
theorem dX8_moebiuses_89 : decode cX8_moebiuses 89 = .ok (.iload_n 2, 1) := by decide +kernel
theorem dX8_moebiuses_90 : decode cX8_moebiuses 90 = .ok (.invokevirtual 185, 3) := by decide +kernel
theorem dX8_moebiuses_93 : decode cX8_moebiuses 93 = .ok (.ifCond .eq 24, 3) := by decide +kernel
theorem dX8_moebiuses_96 : decode cX8_moebiuses 96 = .ok (.aload_n 0, 1) := by decide +kernel
theorem dX8_moebiuses_97 : decode cX8_moebiuses 97 = .ok (.iload 5, 2) := by decide +kernel
theorem dX8_moebiuses_99 : decode cX8_moebiuses 99 = .ok (.iload 4, 2) := by decide +kernel
theorem dX8_moebiuses_101 : decode cX8_moebiuses 101 = .ok (.invokevirtual 169, 3) := by decide +kernel
theorem dX8_moebiuses_104 : decode cX8_moebiuses 104 = .ok (.ifCond .eq 13, 3) := by decide +kernel
theorem dX8_moebiuses_107 : decode cX8_moebiuses 107 = .ok (.aload_n 0, 1) := by decide +kernel
theorem dX8_moebiuses_108 : decode cX8_moebiuses 108 = .ok (.getfield 28, 3) := by decide +kernel
theorem dX8_moebiuses_111 : decode cX8_moebiuses 111 = .ok (.iload 5, 2) := by decide +kernel
theorem dX8_moebiuses_113 : decode cX8_moebiuses 113 = .ok (.laload, 1) := by decide +kernel
theorem dX8_moebiuses_114 : decode cX8_moebiuses 114 = .ok (.goto 4, 3) := by decide +kernel
theorem dX8_moebiuses_117 : decode cX8_moebiuses 117 = .ok (.lconst 0, 1) := by decide +kernel
theorem dX8_moebiuses_118 : decode cX8_moebiuses 118 = .ok (.lsub, 1) := by decide +kernel
theorem dX8_moebiuses_119 : decode cX8_moebiuses 119 = .ok (.lastore, 1) := by decide +kernel
theorem dX8_moebiuses_120 : decode cX8_moebiuses 120 = .ok (.iinc 5 1, 3) := by decide +kernel
theorem dX8_moebiuses_123 : decode cX8_moebiuses 123 = .ok (.goto (-72), 3) := by decide +kernel
theorem dX8_moebiuses_126 : decode cX8_moebiuses 126 = .ok (.iinc 4 1, 3) := by decide +kernel
theorem dX8_moebiuses_129 : decode cX8_moebiuses 129 = .ok (.goto (-118), 3) := by decide +kernel
theorem dX8_moebiuses_132 : decode cX8_moebiuses 132 = .ok (.iinc 3 1, 3) := by decide +kernel
theorem dX8_moebiuses_135 : decode cX8_moebiuses 135 = .ok (.goto (-133), 3) := by decide +kernel
theorem dX8_moebiuses_138 : decode cX8_moebiuses 138 = .ok (.return_, 1) := by decide +kernel
theorem dX8_wrongAdmitted_0 : decode cX8_wrongAdmitted 0 = .ok (.aload_n 0, 1) := by decide +kernel
theorem dX8_wrongAdmitted_1 : decode cX8_wrongAdmitted 1 = .ok (.iload_n 1, 1) := by decide +kernel
theorem dX8_wrongAdmitted_2 : decode cX8_wrongAdmitted 2 = .ok (.iload_n 2, 1) := by decide +kernel
theorem dX8_wrongAdmitted_3 : decode cX8_wrongAdmitted 3 = .ok (.invokevirtual 134, 3) := by decide +kernel
theorem dX8_wrongAdmitted_6 : decode cX8_wrongAdmitted 6 = .ok (.istore_n 3, 1) := by decide +kernel
theorem dX8_wrongAdmitted_7 : decode cX8_wrongAdmitted 7 = .ok (.iload_n 3, 1) := by decide +kernel
theorem dX8_wrongAdmitted_8 : decode cX8_wrongAdmitted 8 = .ok (.ifCond .eq 7, 3) := by decide +kernel
theorem dX8_wrongAdmitted_11 : decode cX8_wrongAdmitted 11 = .ok (.iload_n 3, 1) := by decide +kernel
theorem dX8_wrongAdmitted_12 : decode cX8_wrongAdmitted 12 = .ok (.goto 33, 3) := by decide +kernel
theorem dX8_wrongAdmitted_15 : decode cX8_wrongAdmitted 15 = .ok (.aload_n 0, 1) := by decide +kernel
theorem dX8_wrongAdmitted_16 : decode cX8_wrongAdmitted 16 = .ok (.aload_n 0, 1) := by decide +kernel
theorem dX8_wrongAdmitted_17 : decode cX8_wrongAdmitted 17 = .ok (.iload_n 1, 1) := by decide +kernel
theorem dX8_wrongAdmitted_18 : decode cX8_wrongAdmitted 18 = .ok (.invokevirtual 128, 3) := by decide +kernel
theorem dX8_wrongAdmitted_21 : decode cX8_wrongAdmitted 21 = .ok (.invokevirtual 150, 3) := by decide +kernel
theorem dX8_wrongAdmitted_24 : decode cX8_wrongAdmitted 24 = .ok (.ifCond .eq 19, 3) := by decide +kernel
theorem dX8_wrongAdmitted_27 : decode cX8_wrongAdmitted 27 = .ok (.aload_n 0, 1) := by decide +kernel
theorem dX8_wrongAdmitted_28 : decode cX8_wrongAdmitted 28 = .ok (.aload_n 0, 1) := by decide +kernel
theorem dX8_wrongAdmitted_29 : decode cX8_wrongAdmitted 29 = .ok (.iload_n 2, 1) := by decide +kernel
theorem dX8_wrongAdmitted_30 : decode cX8_wrongAdmitted 30 = .ok (.invokevirtual 128, 3) := by decide +kernel
theorem dX8_wrongAdmitted_33 : decode cX8_wrongAdmitted 33 = .ok (.invokevirtual 150, 3) := by decide +kernel
theorem dX8_wrongAdmitted_36 : decode cX8_wrongAdmitted 36 = .ok (.ifCond .eq 7, 3) := by decide +kernel
theorem dX8_wrongAdmitted_39 : decode cX8_wrongAdmitted 39 = .ok (.iconst 0, 1) := by decide +kernel
theorem dX8_wrongAdmitted_40 : decode cX8_wrongAdmitted 40 = .ok (.goto 5, 3) := by decide +kernel
theorem dX8_wrongAdmitted_43 : decode cX8_wrongAdmitted 43 = .ok (.bipush (-3), 2) := by decide +kernel
theorem dX8_wrongAdmitted_45 : decode cX8_wrongAdmitted 45 = .ok (.ireturn, 1) := by decide +kernel
theorem dX8_moebius_0 : decode cX8_moebius 0 = .ok (.aload_n 0, 1) := by decide +kernel
theorem dX8_moebius_1 : decode cX8_moebius 1 = .ok (.iload_n 1, 1) := by decide +kernel
theorem dX8_moebius_2 : decode cX8_moebius 2 = .ok (.iload_n 2, 1) := by decide +kernel
theorem dX8_moebius_3 : decode cX8_moebius 3 = .ok (.invokevirtual 191, 3) := by decide +kernel
theorem dX8_moebius_6 : decode cX8_moebius 6 = .ok (.istore_n 3, 1) := by decide +kernel
theorem dX8_moebius_7 : decode cX8_moebius 7 = .ok (.iload_n 3, 1) := by decide +kernel
theorem dX8_moebius_8 : decode cX8_moebius 8 = .ok (.ifCond .eq 10, 3) := by decide +kernel
theorem dX8_moebius_11 : decode cX8_moebius 11 = .ok (.ldc2_w 194, 3) := by decide +kernel
theorem dX8_moebius_14 : decode cX8_moebius 14 = .ok (.iload_n 3, 1) := by decide +kernel
theorem dX8_moebius_15 : decode cX8_moebius 15 = .ok (.i2l, 1) := by decide +kernel
theorem dX8_moebius_16 : decode cX8_moebius 16 = .ok (.ladd, 1) := by decide +kernel
theorem dX8_moebius_17 : decode cX8_moebius 17 = .ok (.lreturn, 1) := by decide +kernel
theorem dX8_moebius_18 : decode cX8_moebius 18 = .ok (.aload_n 0, 1) := by decide +kernel
theorem dX8_moebius_19 : decode cX8_moebius 19 = .ok (.aload_n 0, 1) := by decide +kernel
theorem dX8_moebius_20 : decode cX8_moebius 20 = .ok (.iload_n 1, 1) := by decide +kernel
theorem dX8_moebius_21 : decode cX8_moebius 21 = .ok (.invokevirtual 128, 3) := by decide +kernel
theorem dX8_moebius_24 : decode cX8_moebius 24 = .ok (.aload_n 0, 1) := by decide +kernel
theorem dX8_moebius_25 : decode cX8_moebius 25 = .ok (.iload_n 2, 1) := by decide +kernel
theorem dX8_moebius_26 : decode cX8_moebius 26 = .ok (.invokevirtual 128, 3) := by decide +kernel
theorem dX8_moebius_29 : decode cX8_moebius 29 = .ok (.invokevirtual 89, 3) := by decide +kernel
theorem dX8_moebius_32 : decode cX8_moebius 32 = .ok (.ifCond .ne 5, 3) := by decide +kernel
theorem dX8_moebius_35 : decode cX8_moebius 35 = .ok (.lconst 0, 1) := by decide +kernel
theorem dX8_moebius_36 : decode cX8_moebius 36 = .ok (.lreturn, 1) := by decide +kernel
theorem dX8_moebius_37 : decode cX8_moebius 37 = .ok (.aload_n 0, 1) := by decide +kernel
theorem dX8_moebius_38 : decode cX8_moebius 38 = .ok (.aload_n 0, 1) := by decide +kernel
theorem dX8_moebius_39 : decode cX8_moebius 39 = .ok (.iload_n 1, 1) := by decide +kernel
theorem dX8_moebius_40 : decode cX8_moebius 40 = .ok (.invokevirtual 128, 3) := by decide +kernel
theorem dX8_moebius_43 : decode cX8_moebius 43 = .ok (.aload_n 0, 1) := by decide +kernel
theorem dX8_moebius_44 : decode cX8_moebius 44 = .ok (.iload_n 2, 1) := by decide +kernel
theorem dX8_moebius_45 : decode cX8_moebius 45 = .ok (.invokevirtual 128, 3) := by decide +kernel
theorem dX8_moebius_48 : decode cX8_moebius 48 = .ok (.invokevirtual 196, 3) := by decide +kernel
theorem dX8_moebius_51 : decode cX8_moebius 51 = .ok (.aload_n 0, 1) := by decide +kernel
theorem dX8_moebius_52 : decode cX8_moebius 52 = .ok (.getfield 28, 3) := by decide +kernel
theorem dX8_moebius_55 : decode cX8_moebius 55 = .ok (.aload_n 0, 1) := by decide +kernel
theorem dX8_moebius_56 : decode cX8_moebius 56 = .ok (.iload_n 2, 1) := by decide +kernel
theorem dX8_moebius_57 : decode cX8_moebius 57 = .ok (.invokevirtual 128, 3) := by decide +kernel
theorem dX8_moebius_60 : decode cX8_moebius 60 = .ok (.laload, 1) := by decide +kernel
theorem dX8_moebius_61 : decode cX8_moebius 61 = .ok (.lreturn, 1) := by decide +kernel
theorem dX8_extendsAll_0 : decode cX8_extendsAll 0 = .ok (.iconst 0, 1) := by decide +kernel
theorem dX8_extendsAll_1 : decode cX8_extendsAll 1 = .ok (.istore_n 1, 1) := by decide +kernel
theorem dX8_extendsAll_2 : decode cX8_extendsAll 2 = .ok (.iload_n 1, 1) := by decide +kernel
theorem dX8_extendsAll_3 : decode cX8_extendsAll 3 = .ok (.aload_n 0, 1) := by decide +kernel
theorem dX8_extendsAll_4 : decode cX8_extendsAll 4 = .ok (.getfield 52, 3) := by decide +kernel
theorem dX8_extendsAll_7 : decode cX8_extendsAll 7 = .ok (.if_icmp .ge 76, 3) := by decide +kernel
theorem dX8_extendsAll_10 : decode cX8_extendsAll 10 = .ok (.aload_n 0, 1) := by decide +kernel
theorem dX8_extendsAll_11 : decode cX8_extendsAll 11 = .ok (.getfield 32, 3) := by decide +kernel
theorem dX8_extendsAll_14 : decode cX8_extendsAll 14 = .ok (.iload_n 1, 1) := by decide +kernel
theorem dX8_extendsAll_15 : decode cX8_extendsAll 15 = .ok (.lconst 0, 1) := by decide +kernel
theorem dX8_extendsAll_16 : decode cX8_extendsAll 16 = .ok (.lastore, 1) := by decide +kernel
theorem dX8_extendsAll_17 : decode cX8_extendsAll 17 = .ok (.iconst 0, 1) := by decide +kernel
theorem dX8_extendsAll_18 : decode cX8_extendsAll 18 = .ok (.istore_n 2, 1) := by decide +kernel
theorem dX8_extendsAll_19 : decode cX8_extendsAll 19 = .ok (.iload_n 2, 1) := by decide +kernel
theorem dX8_extendsAll_20 : decode cX8_extendsAll 20 = .ok (.aload_n 0, 1) := by decide +kernel
theorem dX8_extendsAll_21 : decode cX8_extendsAll 21 = .ok (.getfield 52, 3) := by decide +kernel
theorem dX8_extendsAll_24 : decode cX8_extendsAll 24 = .ok (.if_icmp .ge 53, 3) := by decide +kernel
theorem dX8_extendsAll_27 : decode cX8_extendsAll 27 = .ok (.aload_n 0, 1) := by decide +kernel
theorem dX8_extendsAll_28 : decode cX8_extendsAll 28 = .ok (.iload_n 1, 1) := by decide +kernel
theorem dX8_extendsAll_29 : decode cX8_extendsAll 29 = .ok (.invokevirtual 150, 3) := by decide +kernel
theorem dX8_extendsAll_32 : decode cX8_extendsAll 32 = .ok (.ifCond .eq 45, 3) := by decide +kernel
theorem dX8_extendsAll_35 : decode cX8_extendsAll 35 = .ok (.aload_n 0, 1) := by decide +kernel
theorem dX8_extendsAll_36 : decode cX8_extendsAll 36 = .ok (.getfield 32, 3) := by decide +kernel
theorem dX8_extendsAll_39 : decode cX8_extendsAll 39 = .ok (.iload_n 1, 1) := by decide +kernel
theorem dX8_extendsAll_40 : decode cX8_extendsAll 40 = .ok (.dup2, 1) := by decide +kernel
theorem dX8_extendsAll_41 : decode cX8_extendsAll 41 = .ok (.laload, 1) := by decide +kernel
theorem dX8_extendsAll_42 : decode cX8_extendsAll 42 = .ok (.aload_n 0, 1) := by decide +kernel
theorem dX8_extendsAll_43 : decode cX8_extendsAll 43 = .ok (.iload_n 2, 1) := by decide +kernel
theorem dX8_extendsAll_44 : decode cX8_extendsAll 44 = .ok (.invokevirtual 150, 3) := by decide +kernel
theorem dX8_extendsAll_47 : decode cX8_extendsAll 47 = .ok (.ifCond .eq 21, 3) := by decide +kernel
theorem dX8_extendsAll_50 : decode cX8_extendsAll 50 = .ok (.aload_n 0, 1) := by decide +kernel
theorem dX8_extendsAll_51 : decode cX8_extendsAll 51 = .ok (.iload_n 2, 1) := by decide +kernel
theorem dX8_extendsAll_52 : decode cX8_extendsAll 52 = .ok (.iload_n 1, 1) := by decide +kernel
theorem dX8_extendsAll_53 : decode cX8_extendsAll 53 = .ok (.invokevirtual 169, 3) := by decide +kernel
theorem dX8_extendsAll_56 : decode cX8_extendsAll 56 = .ok (.ifCond .eq 12, 3) := by decide +kernel
theorem dX8_extendsAll_59 : decode cX8_extendsAll 59 = .ok (.aload_n 0, 1) := by decide +kernel
theorem dX8_extendsAll_60 : decode cX8_extendsAll 60 = .ok (.getfield 28, 3) := by decide +kernel
theorem dX8_extendsAll_63 : decode cX8_extendsAll 63 = .ok (.iload_n 2, 1) := by decide +kernel
theorem dX8_extendsAll_64 : decode cX8_extendsAll 64 = .ok (.laload, 1) := by decide +kernel
theorem dX8_extendsAll_65 : decode cX8_extendsAll 65 = .ok (.goto 4, 3) := by decide +kernel
theorem dX8_extendsAll_68 : decode cX8_extendsAll 68 = .ok (.lconst 0, 1) := by decide +kernel
theorem dX8_extendsAll_69 : decode cX8_extendsAll 69 = .ok (.ladd, 1) := by decide +kernel
theorem dX8_extendsAll_70 : decode cX8_extendsAll 70 = .ok (.lastore, 1) := by decide +kernel
theorem dX8_extendsAll_71 : decode cX8_extendsAll 71 = .ok (.iinc 2 1, 3) := by decide +kernel
theorem dX8_extendsAll_74 : decode cX8_extendsAll 74 = .ok (.goto (-55), 3) := by decide +kernel
theorem dX8_extendsAll_77 : decode cX8_extendsAll 77 = .ok (.iinc 1 1, 3) := by decide +kernel
theorem dX8_extendsAll_80 : decode cX8_extendsAll 80 = .ok (.goto (-78), 3) := by decide +kernel
theorem dX8_extendsAll_83 : decode cX8_extendsAll 83 = .ok (.iconst 0, 1) := by decide +kernel
theorem dX8_extendsAll_84 : decode cX8_extendsAll 84 = .ok (.istore_n 1, 1) := by decide +kernel
theorem dX8_extendsAll_85 : decode cX8_extendsAll 85 = .ok (.iload_n 1, 1) := by decide +kernel
theorem dX8_extendsAll_86 : decode cX8_extendsAll 86 = .ok (.aload_n 0, 1) := by decide +kernel
theorem dX8_extendsAll_87 : decode cX8_extendsAll 87 = .ok (.getfield 52, 3) := by decide +kernel
theorem dX8_extendsAll_90 : decode cX8_extendsAll 90 = .ok (.if_icmp .ge 21, 3) := by decide +kernel
theorem dX8_extendsAll_93 : decode cX8_extendsAll 93 = .ok (.aload_n 0, 1) := by decide +kernel
theorem dX8_extendsAll_94 : decode cX8_extendsAll 94 = .ok (.getfield 28, 3) := by decide +kernel
theorem dX8_extendsAll_97 : decode cX8_extendsAll 97 = .ok (.iload_n 1, 1) := by decide +kernel
theorem dX8_extendsAll_98 : decode cX8_extendsAll 98 = .ok (.aload_n 0, 1) := by decide +kernel
theorem dX8_extendsAll_99 : decode cX8_extendsAll 99 = .ok (.getfield 32, 3) := by decide +kernel
theorem dX8_extendsAll_102 : decode cX8_extendsAll 102 = .ok (.iload_n 1, 1) := by decide +kernel
theorem dX8_extendsAll_103 : decode cX8_extendsAll 103 = .ok (.laload, 1) := by decide +kernel
theorem dX8_extendsAll_104 : decode cX8_extendsAll 104 = .ok (.lastore, 1) := by decide +kernel
theorem dX8_extendsAll_105 : decode cX8_extendsAll 105 = .ok (.iinc 1 1, 3) := by decide +kernel
theorem dX8_extendsAll_108 : decode cX8_extendsAll 108 = .ok (.goto (-23), 3) := by decide +kernel
theorem dX8_extendsAll_111 : decode cX8_extendsAll 111 = .ok (.return_, 1) := by decide +kernel
theorem dX8_single_0 : decode cX8_single 0 = .ok (.iconst 0, 1) := by decide +kernel
theorem dX8_single_1 : decode cX8_single 1 = .ok (.istore_n 2, 1) := by decide +kernel
theorem dX8_single_2 : decode cX8_single 2 = .ok (.iload_n 2, 1) := by decide +kernel
theorem dX8_single_3 : decode cX8_single 3 = .ok (.aload_n 0, 1) := by decide +kernel
theorem dX8_single_4 : decode cX8_single 4 = .ok (.getfield 52, 3) := by decide +kernel
theorem dX8_single_7 : decode cX8_single 7 = .ok (.if_icmp .ge 25, 3) := by decide +kernel
theorem dX8_single_10 : decode cX8_single 10 = .ok (.aload_n 0, 1) := by decide +kernel
theorem dX8_single_11 : decode cX8_single 11 = .ok (.getfield 28, 3) := by decide +kernel
theorem dX8_single_14 : decode cX8_single 14 = .ok (.iload_n 2, 1) := by decide +kernel
theorem dX8_single_15 : decode cX8_single 15 = .ok (.iload_n 2, 1) := by decide +kernel
theorem dX8_single_16 : decode cX8_single 16 = .ok (.iload_n 1, 1) := by decide +kernel
theorem dX8_single_17 : decode cX8_single 17 = .ok (.if_icmp .ne 7, 3) := by decide +kernel
theorem dX8_single_20 : decode cX8_single 20 = .ok (.lconst 1, 1) := by decide +kernel
theorem dX8_single_21 : decode cX8_single 21 = .ok (.goto 4, 3) := by decide +kernel
theorem dX8_single_24 : decode cX8_single 24 = .ok (.lconst 0, 1) := by decide +kernel
theorem dX8_single_25 : decode cX8_single 25 = .ok (.lastore, 1) := by decide +kernel
theorem dX8_single_26 : decode cX8_single 26 = .ok (.iinc 2 1, 3) := by decide +kernel
theorem dX8_single_29 : decode cX8_single 29 = .ok (.goto (-27), 3) := by decide +kernel
theorem dX8_single_32 : decode cX8_single 32 = .ok (.return_, 1) := by decide +kernel
theorem dX8_chains_0 : decode cX8_chains 0 = .ok (.iload_n 1, 1) := by decide +kernel
theorem dX8_chains_1 : decode cX8_chains 1 = .ok (.invokestatic 115, 3) := by decide +kernel
theorem dX8_chains_4 : decode cX8_chains 4 = .ok (.ifCond .eq 19, 3) := by decide +kernel
theorem dX8_chains_7 : decode cX8_chains 7 = .ok (.iload_n 2, 1) := by decide +kernel
theorem dX8_chains_8 : decode cX8_chains 8 = .ok (.invokestatic 115, 3) := by decide +kernel
theorem dX8_chains_11 : decode cX8_chains 11 = .ok (.ifCond .eq 12, 3) := by decide +kernel
theorem dX8_chains_14 : decode cX8_chains 14 = .ok (.iload_n 3, 1) := by decide +kernel
theorem dX8_chains_15 : decode cX8_chains 15 = .ok (.iconst 0, 1) := by decide +kernel
theorem dX8_chains_16 : decode cX8_chains 16 = .ok (.iconst 5, 1) := by decide +kernel
theorem dX8_chains_17 : decode cX8_chains 17 = .ok (.invokestatic 96, 3) := by decide +kernel
theorem dX8_chains_20 : decode cX8_chains 20 = .ok (.ifCond .ne 7, 3) := by decide +kernel
theorem dX8_chains_23 : decode cX8_chains 23 = .ok (.ldc2_w 199, 3) := by decide +kernel
theorem dX8_chains_26 : decode cX8_chains 26 = .ok (.lreturn, 1) := by decide +kernel
theorem dX8_chains_27 : decode cX8_chains 27 = .ok (.aload_n 0, 1) := by decide +kernel
theorem dX8_chains_28 : decode cX8_chains 28 = .ok (.iload_n 1, 1) := by decide +kernel
theorem dX8_chains_29 : decode cX8_chains 29 = .ok (.iload_n 2, 1) := by decide +kernel
theorem dX8_chains_30 : decode cX8_chains 30 = .ok (.invokevirtual 191, 3) := by decide +kernel
theorem dX8_chains_33 : decode cX8_chains 33 = .ok (.istore 4, 2) := by decide +kernel
theorem dX8_chains_35 : decode cX8_chains 35 = .ok (.iload 4, 2) := by decide +kernel
theorem dX8_chains_37 : decode cX8_chains 37 = .ok (.ifCond .eq 7, 3) := by decide +kernel
theorem dX8_chains_40 : decode cX8_chains 40 = .ok (.iload 4, 2) := by decide +kernel
theorem dX8_chains_42 : decode cX8_chains 42 = .ok (.i2l, 1) := by decide +kernel
theorem dX8_chains_43 : decode cX8_chains 43 = .ok (.lreturn, 1) := by decide +kernel
theorem dX8_chains_44 : decode cX8_chains 44 = .ok (.aload_n 0, 1) := by decide +kernel
theorem dX8_chains_45 : decode cX8_chains 45 = .ok (.aload_n 0, 1) := by decide +kernel
theorem dX8_chains_46 : decode cX8_chains 46 = .ok (.iload_n 1, 1) := by decide +kernel
theorem dX8_chains_47 : decode cX8_chains 47 = .ok (.invokevirtual 128, 3) := by decide +kernel
theorem dX8_chains_50 : decode cX8_chains 50 = .ok (.invokevirtual 201, 3) := by decide +kernel
theorem dX8_chains_53 : decode cX8_chains 53 = .ok (.iconst 0, 1) := by decide +kernel
theorem dX8_chains_54 : decode cX8_chains 54 = .ok (.istore 5, 2) := by decide +kernel
theorem dX8_chains_56 : decode cX8_chains 56 = .ok (.iload 5, 2) := by decide +kernel
theorem dX8_chains_58 : decode cX8_chains 58 = .ok (.iload_n 3, 1) := by decide +kernel
theorem dX8_chains_59 : decode cX8_chains 59 = .ok (.if_icmp .ge 13, 3) := by decide +kernel
theorem dX8_chains_62 : decode cX8_chains 62 = .ok (.aload_n 0, 1) := by decide +kernel
theorem dX8_chains_63 : decode cX8_chains 63 = .ok (.invokevirtual 204, 3) := by decide +kernel
theorem dX8_chains_66 : decode cX8_chains 66 = .ok (.iinc 5 1, 3) := by decide +kernel
theorem dX8_chains_69 : decode cX8_chains 69 = .ok (.goto (-13), 3) := by decide +kernel
theorem dX8_chains_72 : decode cX8_chains 72 = .ok (.aload_n 0, 1) := by decide +kernel
theorem dX8_chains_73 : decode cX8_chains 73 = .ok (.getfield 28, 3) := by decide +kernel
theorem dX8_chains_76 : decode cX8_chains 76 = .ok (.aload_n 0, 1) := by decide +kernel
theorem dX8_chains_77 : decode cX8_chains 77 = .ok (.iload_n 2, 1) := by decide +kernel
theorem dX8_chains_78 : decode cX8_chains 78 = .ok (.invokevirtual 128, 3) := by decide +kernel
theorem dX8_chains_81 : decode cX8_chains 81 = .ok (.laload, 1) := by decide +kernel
theorem dX8_chains_82 : decode cX8_chains 82 = .ok (.lreturn, 1) := by decide +kernel
theorem dX8_maximalChains_0 : decode cX8_maximalChains 0 = .ok (.aload_n 0, 1) := by decide +kernel
theorem dX8_maximalChains_1 : decode cX8_maximalChains 1 = .ok (.iload_n 1, 1) := by decide +kernel
theorem dX8_maximalChains_2 : decode cX8_maximalChains 2 = .ok (.iload_n 2, 1) := by decide +kernel
theorem dX8_maximalChains_3 : decode cX8_maximalChains 3 = .ok (.invokevirtual 191, 3) := by decide +kernel
theorem dX8_maximalChains_6 : decode cX8_maximalChains 6 = .ok (.istore_n 3, 1) := by decide +kernel
theorem dX8_maximalChains_7 : decode cX8_maximalChains 7 = .ok (.iload_n 3, 1) := by decide +kernel
theorem dX8_maximalChains_8 : decode cX8_maximalChains 8 = .ok (.ifCond .eq 6, 3) := by decide +kernel
theorem dX8_maximalChains_11 : decode cX8_maximalChains 11 = .ok (.iload_n 3, 1) := by decide +kernel
theorem dX8_maximalChains_12 : decode cX8_maximalChains 12 = .ok (.i2l, 1) := by decide +kernel
theorem dX8_maximalChains_13 : decode cX8_maximalChains 13 = .ok (.lreturn, 1) := by decide +kernel
theorem dX8_maximalChains_14 : decode cX8_maximalChains 14 = .ok (.aload_n 0, 1) := by decide +kernel
theorem dX8_maximalChains_15 : decode cX8_maximalChains 15 = .ok (.aload_n 0, 1) := by decide +kernel
theorem dX8_maximalChains_16 : decode cX8_maximalChains 16 = .ok (.iload_n 1, 1) := by decide +kernel
theorem dX8_maximalChains_17 : decode cX8_maximalChains 17 = .ok (.invokevirtual 128, 3) := by decide +kernel
theorem dX8_maximalChains_20 : decode cX8_maximalChains 20 = .ok (.invokevirtual 201, 3) := by decide +kernel
theorem dX8_maximalChains_23 : decode cX8_maximalChains 23 = .ok (.iconst 0, 1) := by decide +kernel
theorem dX8_maximalChains_24 : decode cX8_maximalChains 24 = .ok (.istore 4, 2) := by decide +kernel
theorem dX8_maximalChains_26 : decode cX8_maximalChains 26 = .ok (.iload 4, 2) := by decide +kernel
theorem dX8_maximalChains_28 : decode cX8_maximalChains 28 = .ok (.bipush 6, 2) := by decide +kernel
theorem dX8_maximalChains_30 : decode cX8_maximalChains 30 = .ok (.if_icmp .ge 110, 3) := by decide +kernel
theorem dX8_maximalChains_33 : decode cX8_maximalChains 33 = .ok (.iconst 0, 1) := by decide +kernel
theorem dX8_maximalChains_34 : decode cX8_maximalChains 34 = .ok (.istore 5, 2) := by decide +kernel
theorem dX8_maximalChains_36 : decode cX8_maximalChains 36 = .ok (.iload 5, 2) := by decide +kernel
theorem dX8_maximalChains_38 : decode cX8_maximalChains 38 = .ok (.aload_n 0, 1) := by decide +kernel
theorem dX8_maximalChains_39 : decode cX8_maximalChains 39 = .ok (.getfield 52, 3) := by decide +kernel
theorem dX8_maximalChains_42 : decode cX8_maximalChains 42 = .ok (.if_icmp .ge 92, 3) := by decide +kernel
theorem dX8_maximalChains_45 : decode cX8_maximalChains 45 = .ok (.iconst 0, 1) := by decide +kernel
theorem dX8_maximalChains_46 : decode cX8_maximalChains 46 = .ok (.istore 6, 2) := by decide +kernel
theorem dX8_maximalChains_48 : decode cX8_maximalChains 48 = .ok (.iload 6, 2) := by decide +kernel
theorem dX8_maximalChains_50 : decode cX8_maximalChains 50 = .ok (.aload_n 0, 1) := by decide +kernel
theorem dX8_maximalChains_51 : decode cX8_maximalChains 51 = .ok (.getfield 52, 3) := by decide +kernel
theorem dX8_maximalChains_54 : decode cX8_maximalChains 54 = .ok (.if_icmp .ge 74, 3) := by decide +kernel
theorem dX8_maximalChains_57 : decode cX8_maximalChains 57 = .ok (.aload_n 0, 1) := by decide +kernel
theorem dX8_maximalChains_58 : decode cX8_maximalChains 58 = .ok (.iload 5, 2) := by decide +kernel
theorem dX8_maximalChains_60 : decode cX8_maximalChains 60 = .ok (.invokevirtual 188, 3) := by decide +kernel
theorem dX8_maximalChains_63 : decode cX8_maximalChains 63 = .ok (.iload 4, 2) := by decide +kernel
theorem dX8_maximalChains_65 : decode cX8_maximalChains 65 = .ok (.if_icmp .ne 63, 3) := by decide +kernel
theorem dX8_maximalChains_68 : decode cX8_maximalChains 68 = .ok (.iload 5, 2) := by decide +kernel
theorem dX8_maximalChains_70 : decode cX8_maximalChains 70 = .ok (.aload_n 0, 1) := by decide +kernel
theorem dX8_maximalChains_71 : decode cX8_maximalChains 71 = .ok (.iload_n 1, 1) := by decide +kernel
theorem dX8_maximalChains_72 : decode cX8_maximalChains 72 = .ok (.invokevirtual 128, 3) := by decide +kernel
theorem dX8_maximalChains_75 : decode cX8_maximalChains 75 = .ok (.if_icmp .eq 53, 3) := by decide +kernel
theorem dX8_maximalChains_78 : decode cX8_maximalChains 78 = .ok (.aload_n 0, 1) := by decide +kernel
theorem dX8_maximalChains_79 : decode cX8_maximalChains 79 = .ok (.getfield 28, 3) := by decide +kernel
theorem dX8_maximalChains_82 : decode cX8_maximalChains 82 = .ok (.iload 5, 2) := by decide +kernel
theorem dX8_maximalChains_84 : decode cX8_maximalChains 84 = .ok (.dup2, 1) := by decide +kernel
theorem dX8_maximalChains_85 : decode cX8_maximalChains 85 = .ok (.laload, 1) := by decide +kernel
theorem dX8_maximalChains_86 : decode cX8_maximalChains 86 = .ok (.aload_n 0, 1) := by decide +kernel
theorem dX8_maximalChains_87 : decode cX8_maximalChains 87 = .ok (.getfield 28, 3) := by decide +kernel
theorem dX8_maximalChains_90 : decode cX8_maximalChains 90 = .ok (.iload 6, 2) := by decide +kernel
theorem dX8_maximalChains_92 : decode cX8_maximalChains 92 = .ok (.laload, 1) := by decide +kernel
theorem dX8_maximalChains_93 : decode cX8_maximalChains 93 = .ok (.lconst 0, 1) := by decide +kernel
theorem dX8_maximalChains_94 : decode cX8_maximalChains 94 = .ok (.lcmp, 1) := by decide +kernel
theorem dX8_maximalChains_95 : decode cX8_maximalChains 95 = .ok (.ifCond .eq 24, 3) := by decide +kernel
theorem dX8_maximalChains_98 : decode cX8_maximalChains 98 = .ok (.aload_n 0, 1) := by decide +kernel
theorem dX8_maximalChains_99 : decode cX8_maximalChains 99 = .ok (.iload 6, 2) := by decide +kernel
theorem dX8_maximalChains_101 : decode cX8_maximalChains 101 = .ok (.iload 5, 2) := by decide +kernel
theorem dX8_maximalChains_103 : decode cX8_maximalChains 103 = .ok (.invokevirtual 172, 3) := by decide +kernel
theorem dX8_maximalChains_106 : decode cX8_maximalChains 106 = .ok (.ifCond .eq 13, 3) := by decide +kernel
theorem dX8_maximalChains_109 : decode cX8_maximalChains 109 = .ok (.aload_n 0, 1) := by decide +kernel
theorem dX8_maximalChains_110 : decode cX8_maximalChains 110 = .ok (.getfield 28, 3) := by decide +kernel
theorem dX8_maximalChains_113 : decode cX8_maximalChains 113 = .ok (.iload 6, 2) := by decide +kernel
theorem dX8_maximalChains_115 : decode cX8_maximalChains 115 = .ok (.laload, 1) := by decide +kernel
theorem dX8_maximalChains_116 : decode cX8_maximalChains 116 = .ok (.goto 4, 3) := by decide +kernel
theorem dX8_maximalChains_119 : decode cX8_maximalChains 119 = .ok (.lconst 0, 1) := by decide +kernel
theorem dX8_maximalChains_120 : decode cX8_maximalChains 120 = .ok (.ladd, 1) := by decide +kernel
theorem dX8_maximalChains_121 : decode cX8_maximalChains 121 = .ok (.lastore, 1) := by decide +kernel
theorem dX8_maximalChains_122 : decode cX8_maximalChains 122 = .ok (.iinc 6 1, 3) := by decide +kernel
theorem dX8_maximalChains_125 : decode cX8_maximalChains 125 = .ok (.goto (-77), 3) := by decide +kernel
theorem dX8_maximalChains_128 : decode cX8_maximalChains 128 = .ok (.iinc 5 1, 3) := by decide +kernel
theorem dX8_maximalChains_131 : decode cX8_maximalChains 131 = .ok (.goto (-95), 3) := by decide +kernel
theorem dX8_maximalChains_134 : decode cX8_maximalChains 134 = .ok (.iinc 4 1, 3) := by decide +kernel
theorem dX8_maximalChains_137 : decode cX8_maximalChains 137 = .ok (.goto (-111), 3) := by decide +kernel
theorem dX8_maximalChains_140 : decode cX8_maximalChains 140 = .ok (.aload_n 0, 1) := by decide +kernel
theorem dX8_maximalChains_141 : decode cX8_maximalChains 141 = .ok (.getfield 28, 3) := by decide +kernel
theorem dX8_maximalChains_144 : decode cX8_maximalChains 144 = .ok (.aload_n 0, 1) := by decide +kernel
theorem dX8_maximalChains_145 : decode cX8_maximalChains 145 = .ok (.iload_n 2, 1) := by decide +kernel
theorem dX8_maximalChains_146 : decode cX8_maximalChains 146 = .ok (.invokevirtual 128, 3) := by decide +kernel
theorem dX8_maximalChains_149 : decode cX8_maximalChains 149 = .ok (.laload, 1) := by decide +kernel
theorem dX8_maximalChains_150 : decode cX8_maximalChains 150 = .ok (.lreturn, 1) := by decide +kernel
theorem dX8_height_0 : decode cX8_height 0 = .ok (.aload_n 0, 1) := by decide +kernel
theorem dX8_height_1 : decode cX8_height 1 = .ok (.iload_n 1, 1) := by decide +kernel
theorem dX8_height_2 : decode cX8_height 2 = .ok (.iload_n 2, 1) := by decide +kernel
theorem dX8_height_3 : decode cX8_height 3 = .ok (.invokevirtual 191, 3) := by decide +kernel
theorem dX8_height_6 : decode cX8_height 6 = .ok (.istore_n 3, 1) := by decide +kernel
theorem dX8_height_7 : decode cX8_height 7 = .ok (.iload_n 3, 1) := by decide +kernel
theorem dX8_height_8 : decode cX8_height 8 = .ok (.ifCond .eq 5, 3) := by decide +kernel
theorem dX8_height_11 : decode cX8_height 11 = .ok (.iload_n 3, 1) := by decide +kernel
theorem dX8_height_12 : decode cX8_height 12 = .ok (.ireturn, 1) := by decide +kernel
theorem dX8_height_13 : decode cX8_height 13 = .ok (.aload_n 0, 1) := by decide +kernel
theorem dX8_height_14 : decode cX8_height 14 = .ok (.aload_n 0, 1) := by decide +kernel
theorem dX8_height_15 : decode cX8_height 15 = .ok (.iload_n 1, 1) := by decide +kernel
theorem dX8_height_16 : decode cX8_height 16 = .ok (.invokevirtual 128, 3) := by decide +kernel
theorem dX8_height_19 : decode cX8_height 19 = .ok (.invokevirtual 201, 3) := by decide +kernel
theorem dX8_height_22 : decode cX8_height 22 = .ok (.bipush (-9), 2) := by decide +kernel
theorem dX8_height_24 : decode cX8_height 24 = .ok (.istore 4, 2) := by decide +kernel
theorem dX8_height_26 : decode cX8_height 26 = .ok (.iconst 0, 1) := by decide +kernel
theorem dX8_height_27 : decode cX8_height 27 = .ok (.istore 5, 2) := by decide +kernel
theorem dX8_height_29 : decode cX8_height 29 = .ok (.iload 5, 2) := by decide +kernel
theorem dX8_height_31 : decode cX8_height 31 = .ok (.bipush 6, 2) := by decide +kernel
theorem dX8_height_33 : decode cX8_height 33 = .ok (.if_icmp .ge 37, 3) := by decide +kernel
theorem dX8_height_36 : decode cX8_height 36 = .ok (.aload_n 0, 1) := by decide +kernel
theorem dX8_height_37 : decode cX8_height 37 = .ok (.getfield 28, 3) := by decide +kernel
theorem dX8_height_40 : decode cX8_height 40 = .ok (.aload_n 0, 1) := by decide +kernel
theorem dX8_height_41 : decode cX8_height 41 = .ok (.iload_n 2, 1) := by decide +kernel
theorem dX8_height_42 : decode cX8_height 42 = .ok (.invokevirtual 128, 3) := by decide +kernel
theorem dX8_height_45 : decode cX8_height 45 = .ok (.laload, 1) := by decide +kernel
theorem dX8_height_46 : decode cX8_height 46 = .ok (.lconst 0, 1) := by decide +kernel
theorem dX8_height_47 : decode cX8_height 47 = .ok (.lcmp, 1) := by decide +kernel
theorem dX8_height_48 : decode cX8_height 48 = .ok (.ifCond .eq 8, 3) := by decide +kernel
theorem dX8_height_51 : decode cX8_height 51 = .ok (.iload 5, 2) := by decide +kernel
theorem dX8_height_53 : decode cX8_height 53 = .ok (.goto 5, 3) := by decide +kernel
theorem dX8_height_56 : decode cX8_height 56 = .ok (.iload 4, 2) := by decide +kernel
theorem dX8_height_58 : decode cX8_height 58 = .ok (.istore 4, 2) := by decide +kernel
theorem dX8_height_60 : decode cX8_height 60 = .ok (.aload_n 0, 1) := by decide +kernel
theorem dX8_height_61 : decode cX8_height 61 = .ok (.invokevirtual 204, 3) := by decide +kernel
theorem dX8_height_64 : decode cX8_height 64 = .ok (.iinc 5 1, 3) := by decide +kernel
theorem dX8_height_67 : decode cX8_height 67 = .ok (.goto (-38), 3) := by decide +kernel
theorem dX8_height_70 : decode cX8_height 70 = .ok (.iload 4, 2) := by decide +kernel
theorem dX8_height_72 : decode cX8_height 72 = .ok (.ireturn, 1) := by decide +kernel
theorem dX8_power_0 : decode cX8_power 0 = .ok (.lconst 1, 1) := by decide +kernel
theorem dX8_power_1 : decode cX8_power 1 = .ok (.lstore_n 2, 1) := by decide +kernel
theorem dX8_power_2 : decode cX8_power 2 = .ok (.iconst 0, 1) := by decide +kernel
theorem dX8_power_3 : decode cX8_power 3 = .ok (.istore 4, 2) := by decide +kernel
theorem dX8_power_5 : decode cX8_power 5 = .ok (.iload 4, 2) := by decide +kernel
theorem dX8_power_7 : decode cX8_power 7 = .ok (.iload_n 1, 1) := by decide +kernel
theorem dX8_power_8 : decode cX8_power 8 = .ok (.if_icmp .ge 14, 3) := by decide +kernel
theorem dX8_power_11 : decode cX8_power 11 = .ok (.lload_n 2, 1) := by decide +kernel
theorem dX8_power_12 : decode cX8_power 12 = .ok (.iload_n 0, 1) := by decide +kernel
theorem dX8_power_13 : decode cX8_power 13 = .ok (.i2l, 1) := by decide +kernel
theorem dX8_power_14 : decode cX8_power 14 = .ok (.lmul, 1) := by decide +kernel
theorem dX8_power_15 : decode cX8_power 15 = .ok (.lstore_n 2, 1) := by decide +kernel
theorem dX8_power_16 : decode cX8_power 16 = .ok (.iinc 4 1, 3) := by decide +kernel
theorem dX8_power_19 : decode cX8_power 19 = .ok (.goto (-14), 3) := by decide +kernel
theorem dX8_power_22 : decode cX8_power 22 = .ok (.lload_n 2, 1) := by decide +kernel
theorem dX8_power_23 : decode cX8_power 23 = .ok (.lreturn, 1) := by decide +kernel
theorem dX8_isBase_0 : decode cX8_isBase 0 = .ok (.iload_n 0, 1) := by decide +kernel
theorem dX8_isBase_1 : decode cX8_isBase 1 = .ok (.bipush (-9), 2) := by decide +kernel
theorem dX8_isBase_3 : decode cX8_isBase 3 = .ok (.bipush 9, 2) := by decide +kernel
theorem dX8_isBase_5 : decode cX8_isBase 5 = .ok (.invokestatic 96, 3) := by decide +kernel
theorem dX8_isBase_8 : decode cX8_isBase 8 = .ok (.ireturn, 1) := by decide +kernel
theorem dX8_rankSum_0 : decode cX8_rankSum 0 = .ok (.iload_n 3, 1) := by decide +kernel
theorem dX8_rankSum_1 : decode cX8_rankSum 1 = .ok (.invokestatic 207, 3) := by decide +kernel
theorem dX8_rankSum_4 : decode cX8_rankSum 4 = .ok (.ifCond .eq 12, 3) := by decide +kernel
theorem dX8_rankSum_7 : decode cX8_rankSum 7 = .ok (.aload_n 0, 1) := by decide +kernel
theorem dX8_rankSum_8 : decode cX8_rankSum 8 = .ok (.iload_n 1, 1) := by decide +kernel
theorem dX8_rankSum_9 : decode cX8_rankSum 9 = .ok (.iload_n 2, 1) := by decide +kernel
theorem dX8_rankSum_10 : decode cX8_rankSum 10 = .ok (.invokevirtual 134, 3) := by decide +kernel
theorem dX8_rankSum_13 : decode cX8_rankSum 13 = .ok (.goto 4, 3) := by decide +kernel
theorem dX8_rankSum_16 : decode cX8_rankSum 16 = .ok (.iconst (-1), 1) := by decide +kernel
theorem dX8_rankSum_17 : decode cX8_rankSum 17 = .ok (.istore 4, 2) := by decide +kernel
theorem dX8_rankSum_19 : decode cX8_rankSum 19 = .ok (.iload 4, 2) := by decide +kernel
theorem dX8_rankSum_21 : decode cX8_rankSum 21 = .ok (.ifCond .eq 11, 3) := by decide +kernel
theorem dX8_rankSum_24 : decode cX8_rankSum 24 = .ok (.ldc2_w 194, 3) := by decide +kernel
theorem dX8_rankSum_27 : decode cX8_rankSum 27 = .ok (.iload 4, 2) := by decide +kernel
theorem dX8_rankSum_29 : decode cX8_rankSum 29 = .ok (.i2l, 1) := by decide +kernel
theorem dX8_rankSum_30 : decode cX8_rankSum 30 = .ok (.ladd, 1) := by decide +kernel
theorem dX8_rankSum_31 : decode cX8_rankSum 31 = .ok (.lreturn, 1) := by decide +kernel
theorem dX8_rankSum_32 : decode cX8_rankSum 32 = .ok (.lconst 0, 1) := by decide +kernel
theorem dX8_rankSum_33 : decode cX8_rankSum 33 = .ok (.lstore 5, 2) := by decide +kernel
theorem dX8_rankSum_35 : decode cX8_rankSum 35 = .ok (.iconst 0, 1) := by decide +kernel
theorem dX8_rankSum_36 : decode cX8_rankSum 36 = .ok (.istore 7, 2) := by decide +kernel
theorem dX8_rankSum_38 : decode cX8_rankSum 38 = .ok (.iload 7, 2) := by decide +kernel
theorem dX8_rankSum_40 : decode cX8_rankSum 40 = .ok (.aload_n 0, 1) := by decide +kernel
theorem dX8_rankSum_41 : decode cX8_rankSum 41 = .ok (.getfield 52, 3) := by decide +kernel
theorem dX8_rankSum_44 : decode cX8_rankSum 44 = .ok (.if_icmp .ge 57, 3) := by decide +kernel
theorem dX8_rankSum_47 : decode cX8_rankSum 47 = .ok (.lload 5, 2) := by decide +kernel
theorem dX8_rankSum_49 : decode cX8_rankSum 49 = .ok (.aload_n 0, 1) := by decide +kernel
theorem dX8_rankSum_50 : decode cX8_rankSum 50 = .ok (.iload 7, 2) := by decide +kernel
theorem dX8_rankSum_52 : decode cX8_rankSum 52 = .ok (.aload_n 0, 1) := by decide +kernel
theorem dX8_rankSum_53 : decode cX8_rankSum 53 = .ok (.iload_n 1, 1) := by decide +kernel
theorem dX8_rankSum_54 : decode cX8_rankSum 54 = .ok (.invokevirtual 128, 3) := by decide +kernel
theorem dX8_rankSum_57 : decode cX8_rankSum 57 = .ok (.aload_n 0, 1) := by decide +kernel
theorem dX8_rankSum_58 : decode cX8_rankSum 58 = .ok (.iload_n 2, 1) := by decide +kernel
theorem dX8_rankSum_59 : decode cX8_rankSum 59 = .ok (.invokevirtual 128, 3) := by decide +kernel
theorem dX8_rankSum_62 : decode cX8_rankSum 62 = .ok (.invokevirtual 185, 3) := by decide +kernel
theorem dX8_rankSum_65 : decode cX8_rankSum 65 = .ok (.ifCond .eq 26, 3) := by decide +kernel
theorem dX8_rankSum_68 : decode cX8_rankSum 68 = .ok (.iload_n 3, 1) := by decide +kernel
theorem dX8_rankSum_69 : decode cX8_rankSum 69 = .ok (.aload_n 0, 1) := by decide +kernel
theorem dX8_rankSum_70 : decode cX8_rankSum 70 = .ok (.iload 7, 2) := by decide +kernel
theorem dX8_rankSum_72 : decode cX8_rankSum 72 = .ok (.invokevirtual 188, 3) := by decide +kernel
theorem dX8_rankSum_75 : decode cX8_rankSum 75 = .ok (.aload_n 0, 1) := by decide +kernel
theorem dX8_rankSum_76 : decode cX8_rankSum 76 = .ok (.aload_n 0, 1) := by decide +kernel
theorem dX8_rankSum_77 : decode cX8_rankSum 77 = .ok (.iload_n 1, 1) := by decide +kernel
theorem dX8_rankSum_78 : decode cX8_rankSum 78 = .ok (.invokevirtual 128, 3) := by decide +kernel
theorem dX8_rankSum_81 : decode cX8_rankSum 81 = .ok (.invokevirtual 188, 3) := by decide +kernel
theorem dX8_rankSum_84 : decode cX8_rankSum 84 = .ok (.isub, 1) := by decide +kernel
theorem dX8_rankSum_85 : decode cX8_rankSum 85 = .ok (.invokestatic 210, 3) := by decide +kernel
theorem dX8_rankSum_88 : decode cX8_rankSum 88 = .ok (.goto 4, 3) := by decide +kernel
theorem dX8_rankSum_91 : decode cX8_rankSum 91 = .ok (.lconst 0, 1) := by decide +kernel
theorem dX8_rankSum_92 : decode cX8_rankSum 92 = .ok (.ladd, 1) := by decide +kernel
theorem dX8_rankSum_93 : decode cX8_rankSum 93 = .ok (.lstore 5, 2) := by decide +kernel
theorem dX8_rankSum_95 : decode cX8_rankSum 95 = .ok (.iinc 7 1, 3) := by decide +kernel
theorem dX8_rankSum_98 : decode cX8_rankSum 98 = .ok (.goto (-60), 3) := by decide +kernel
theorem dX8_rankSum_101 : decode cX8_rankSum 101 = .ok (.lload 5, 2) := by decide +kernel
theorem dX8_rankSum_103 : decode cX8_rankSum 103 = .ok (.lreturn, 1) := by decide +kernel
theorem dX8_characteristic_0 : decode cX8_characteristic 0 = .ok (.iload_n 3, 1) := by decide +kernel
theorem dX8_characteristic_1 : decode cX8_characteristic 1 = .ok (.invokestatic 207, 3) := by decide +kernel
theorem dX8_characteristic_4 : decode cX8_characteristic 4 = .ok (.ifCond .eq 12, 3) := by decide +kernel
theorem dX8_characteristic_7 : decode cX8_characteristic 7 = .ok (.aload_n 0, 1) := by decide +kernel
theorem dX8_characteristic_8 : decode cX8_characteristic 8 = .ok (.iload_n 1, 1) := by decide +kernel
theorem dX8_characteristic_9 : decode cX8_characteristic 9 = .ok (.iload_n 2, 1) := by decide +kernel
theorem dX8_characteristic_10 : decode cX8_characteristic 10 = .ok (.invokevirtual 134, 3) := by decide +kernel
theorem dX8_characteristic_13 : decode cX8_characteristic 13 = .ok (.goto 4, 3) := by decide +kernel
theorem dX8_characteristic_16 : decode cX8_characteristic 16 = .ok (.iconst (-1), 1) := by decide +kernel
theorem dX8_characteristic_17 : decode cX8_characteristic 17 = .ok (.istore 4, 2) := by decide +kernel
theorem dX8_characteristic_19 : decode cX8_characteristic 19 = .ok (.iload 4, 2) := by decide +kernel
theorem dX8_characteristic_21 : decode cX8_characteristic 21 = .ok (.ifCond .ne 20, 3) := by decide +kernel
theorem dX8_characteristic_24 : decode cX8_characteristic 24 = .ok (.aload_n 0, 1) := by decide +kernel
theorem dX8_characteristic_25 : decode cX8_characteristic 25 = .ok (.aload_n 0, 1) := by decide +kernel
theorem dX8_characteristic_26 : decode cX8_characteristic 26 = .ok (.iload_n 1, 1) := by decide +kernel
theorem dX8_characteristic_27 : decode cX8_characteristic 27 = .ok (.invokevirtual 128, 3) := by decide +kernel
theorem dX8_characteristic_30 : decode cX8_characteristic 30 = .ok (.invokevirtual 150, 3) := by decide +kernel
theorem dX8_characteristic_33 : decode cX8_characteristic 33 = .ok (.ifCond .ne 8, 3) := by decide +kernel
theorem dX8_characteristic_36 : decode cX8_characteristic 36 = .ok (.bipush (-3), 2) := by decide +kernel
theorem dX8_characteristic_38 : decode cX8_characteristic 38 = .ok (.goto 5, 3) := by decide +kernel
theorem dX8_characteristic_41 : decode cX8_characteristic 41 = .ok (.iload 4, 2) := by decide +kernel
theorem dX8_characteristic_43 : decode cX8_characteristic 43 = .ok (.istore 4, 2) := by decide +kernel
theorem dX8_characteristic_45 : decode cX8_characteristic 45 = .ok (.iload 4, 2) := by decide +kernel
theorem dX8_characteristic_47 : decode cX8_characteristic 47 = .ok (.ifCond .eq 11, 3) := by decide +kernel
theorem dX8_characteristic_50 : decode cX8_characteristic 50 = .ok (.ldc2_w 194, 3) := by decide +kernel
theorem dX8_characteristic_53 : decode cX8_characteristic 53 = .ok (.iload 4, 2) := by decide +kernel
theorem dX8_characteristic_55 : decode cX8_characteristic 55 = .ok (.i2l, 1) := by decide +kernel
theorem dX8_characteristic_56 : decode cX8_characteristic 56 = .ok (.ladd, 1) := by decide +kernel
theorem dX8_characteristic_57 : decode cX8_characteristic 57 = .ok (.lreturn, 1) := by decide +kernel
theorem dX8_characteristic_58 : decode cX8_characteristic 58 = .ok (.aload_n 0, 1) := by decide +kernel
theorem dX8_characteristic_59 : decode cX8_characteristic 59 = .ok (.aload_n 0, 1) := by decide +kernel
theorem dX8_characteristic_60 : decode cX8_characteristic 60 = .ok (.iload_n 1, 1) := by decide +kernel
theorem dX8_characteristic_61 : decode cX8_characteristic 61 = .ok (.invokevirtual 128, 3) := by decide +kernel
theorem dX8_characteristic_64 : decode cX8_characteristic 64 = .ok (.aload_n 0, 1) := by decide +kernel
theorem dX8_characteristic_65 : decode cX8_characteristic 65 = .ok (.iload_n 2, 1) := by decide +kernel
theorem dX8_characteristic_66 : decode cX8_characteristic 66 = .ok (.invokevirtual 128, 3) := by decide +kernel
theorem dX8_characteristic_69 : decode cX8_characteristic 69 = .ok (.invokevirtual 196, 3) := by decide +kernel
theorem dX8_characteristic_72 : decode cX8_characteristic 72 = .ok (.lconst 0, 1) := by decide +kernel
theorem dX8_characteristic_73 : decode cX8_characteristic 73 = .ok (.lstore 5, 2) := by decide +kernel
theorem dX8_characteristic_75 : decode cX8_characteristic 75 = .ok (.iconst 0, 1) := by decide +kernel
theorem dX8_characteristic_76 : decode cX8_characteristic 76 = .ok (.istore 7, 2) := by decide +kernel
theorem dX8_characteristic_78 : decode cX8_characteristic 78 = .ok (.iload 7, 2) := by decide +kernel
theorem dX8_characteristic_80 : decode cX8_characteristic 80 = .ok (.aload_n 0, 1) := by decide +kernel
theorem dX8_characteristic_81 : decode cX8_characteristic 81 = .ok (.getfield 52, 3) := by decide +kernel
theorem dX8_characteristic_84 : decode cX8_characteristic 84 = .ok (.if_icmp .ge 65, 3) := by decide +kernel
theorem dX8_characteristic_87 : decode cX8_characteristic 87 = .ok (.lload 5, 2) := by decide +kernel
theorem dX8_characteristic_89 : decode cX8_characteristic 89 = .ok (.aload_n 0, 1) := by decide +kernel
theorem dX8_characteristic_90 : decode cX8_characteristic 90 = .ok (.iload 7, 2) := by decide +kernel
theorem dX8_characteristic_92 : decode cX8_characteristic 92 = .ok (.aload_n 0, 1) := by decide +kernel
theorem dX8_characteristic_93 : decode cX8_characteristic 93 = .ok (.iload_n 1, 1) := by decide +kernel
theorem dX8_characteristic_94 : decode cX8_characteristic 94 = .ok (.invokevirtual 128, 3) := by decide +kernel
theorem dX8_characteristic_97 : decode cX8_characteristic 97 = .ok (.aload_n 0, 1) := by decide +kernel
theorem dX8_characteristic_98 : decode cX8_characteristic 98 = .ok (.iload_n 2, 1) := by decide +kernel
theorem dX8_characteristic_99 : decode cX8_characteristic 99 = .ok (.invokevirtual 128, 3) := by decide +kernel
theorem dX8_characteristic_102 : decode cX8_characteristic 102 = .ok (.invokevirtual 185, 3) := by decide +kernel
theorem dX8_characteristic_105 : decode cX8_characteristic 105 = .ok (.ifCond .eq 34, 3) := by decide +kernel
theorem dX8_characteristic_108 : decode cX8_characteristic 108 = .ok (.aload_n 0, 1) := by decide +kernel
theorem dX8_characteristic_109 : decode cX8_characteristic 109 = .ok (.getfield 28, 3) := by decide +kernel
theorem dX8_characteristic_112 : decode cX8_characteristic 112 = .ok (.iload 7, 2) := by decide +kernel
theorem dX8_characteristic_114 : decode cX8_characteristic 114 = .ok (.laload, 1) := by decide +kernel
theorem dX8_characteristic_115 : decode cX8_characteristic 115 = .ok (.iload_n 3, 1) := by decide +kernel
theorem dX8_characteristic_116 : decode cX8_characteristic 116 = .ok (.aload_n 0, 1) := by decide +kernel
theorem dX8_characteristic_117 : decode cX8_characteristic 117 = .ok (.aload_n 0, 1) := by decide +kernel
theorem dX8_characteristic_118 : decode cX8_characteristic 118 = .ok (.iload_n 2, 1) := by decide +kernel
theorem dX8_characteristic_119 : decode cX8_characteristic 119 = .ok (.invokevirtual 128, 3) := by decide +kernel
theorem dX8_characteristic_122 : decode cX8_characteristic 122 = .ok (.invokevirtual 188, 3) := by decide +kernel
theorem dX8_characteristic_125 : decode cX8_characteristic 125 = .ok (.aload_n 0, 1) := by decide +kernel
theorem dX8_characteristic_126 : decode cX8_characteristic 126 = .ok (.iload 7, 2) := by decide +kernel
theorem dX8_characteristic_128 : decode cX8_characteristic 128 = .ok (.invokevirtual 188, 3) := by decide +kernel
theorem dX8_characteristic_131 : decode cX8_characteristic 131 = .ok (.isub, 1) := by decide +kernel
theorem dX8_characteristic_132 : decode cX8_characteristic 132 = .ok (.invokestatic 210, 3) := by decide +kernel
theorem dX8_characteristic_135 : decode cX8_characteristic 135 = .ok (.lmul, 1) := by decide +kernel
theorem dX8_characteristic_136 : decode cX8_characteristic 136 = .ok (.goto 4, 3) := by decide +kernel
theorem dX8_characteristic_139 : decode cX8_characteristic 139 = .ok (.lconst 0, 1) := by decide +kernel
theorem dX8_characteristic_140 : decode cX8_characteristic 140 = .ok (.ladd, 1) := by decide +kernel
theorem dX8_characteristic_141 : decode cX8_characteristic 141 = .ok (.lstore 5, 2) := by decide +kernel
theorem dX8_characteristic_143 : decode cX8_characteristic 143 = .ok (.iinc 7 1, 3) := by decide +kernel
theorem dX8_characteristic_146 : decode cX8_characteristic 146 = .ok (.goto (-68), 3) := by decide +kernel
theorem dX8_characteristic_149 : decode cX8_characteristic 149 = .ok (.lload 5, 2) := by decide +kernel
theorem dX8_characteristic_151 : decode cX8_characteristic 151 = .ok (.lreturn, 1) := by decide +kernel
theorem dX8_common_0 : decode cX8_common 0 = .ok (.iconst 0, 1) := by decide +kernel
theorem dX8_common_1 : decode cX8_common 1 = .ok (.istore 5, 2) := by decide +kernel
theorem dX8_common_3 : decode cX8_common 3 = .ok (.iconst 0, 1) := by decide +kernel
theorem dX8_common_4 : decode cX8_common 4 = .ok (.istore 6, 2) := by decide +kernel
theorem dX8_common_6 : decode cX8_common 6 = .ok (.iload 6, 2) := by decide +kernel
theorem dX8_common_8 : decode cX8_common 8 = .ok (.aload_n 0, 1) := by decide +kernel
theorem dX8_common_9 : decode cX8_common 9 = .ok (.getfield 7, 3) := by decide +kernel
theorem dX8_common_12 : decode cX8_common 12 = .ok (.iconst 0, 1) := by decide +kernel
theorem dX8_common_13 : decode cX8_common 13 = .ok (.iaload, 1) := by decide +kernel
theorem dX8_common_14 : decode cX8_common 14 = .ok (.if_icmp .ge 42, 3) := by decide +kernel
theorem dX8_common_17 : decode cX8_common 17 = .ok (.iload 5, 2) := by decide +kernel
theorem dX8_common_19 : decode cX8_common 19 = .ok (.aload_n 0, 1) := by decide +kernel
theorem dX8_common_20 : decode cX8_common 20 = .ok (.iload_n 1, 1) := by decide +kernel
theorem dX8_common_21 : decode cX8_common 21 = .ok (.iload 6, 2) := by decide +kernel
theorem dX8_common_23 : decode cX8_common 23 = .ok (.invokevirtual 65, 3) := by decide +kernel
theorem dX8_common_26 : decode cX8_common 26 = .ok (.iload_n 2, 1) := by decide +kernel
theorem dX8_common_27 : decode cX8_common 27 = .ok (.if_icmp .ne 19, 3) := by decide +kernel
theorem dX8_common_30 : decode cX8_common 30 = .ok (.aload_n 0, 1) := by decide +kernel
theorem dX8_common_31 : decode cX8_common 31 = .ok (.iload_n 3, 1) := by decide +kernel
theorem dX8_common_32 : decode cX8_common 32 = .ok (.iload 6, 2) := by decide +kernel
theorem dX8_common_34 : decode cX8_common 34 = .ok (.invokevirtual 65, 3) := by decide +kernel
theorem dX8_common_37 : decode cX8_common 37 = .ok (.iload 4, 2) := by decide +kernel
theorem dX8_common_39 : decode cX8_common 39 = .ok (.if_icmp .ne 7, 3) := by decide +kernel
theorem dX8_common_42 : decode cX8_common 42 = .ok (.iconst 1, 1) := by decide +kernel
theorem dX8_common_43 : decode cX8_common 43 = .ok (.goto 4, 3) := by decide +kernel
theorem dX8_common_46 : decode cX8_common 46 = .ok (.iconst 0, 1) := by decide +kernel
theorem dX8_common_47 : decode cX8_common 47 = .ok (.iadd, 1) := by decide +kernel
theorem dX8_common_48 : decode cX8_common 48 = .ok (.istore 5, 2) := by decide +kernel
theorem dX8_common_50 : decode cX8_common 50 = .ok (.iinc 6 1, 3) := by decide +kernel
theorem dX8_common_53 : decode cX8_common 53 = .ok (.goto (-47), 3) := by decide +kernel
theorem dX8_common_56 : decode cX8_common 56 = .ok (.iload 5, 2) := by decide +kernel
theorem dX8_common_58 : decode cX8_common 58 = .ok (.ireturn, 1) := by decide +kernel
theorem dX8_most_0 : decode cX8_most 0 = .ok (.iconst 1, 1) := by decide +kernel
theorem dX8_most_1 : decode cX8_most 1 = .ok (.aload_n 0, 1) := by decide +kernel
theorem dX8_most_2 : decode cX8_most 2 = .ok (.getfield 19, 3) := by decide +kernel
theorem dX8_most_5 : decode cX8_most 5 = .ok (.iload_n 2, 1) := by decide +kernel
theorem dX8_most_6 : decode cX8_most 6 = .ok (.iaload, 1) := by decide +kernel
theorem dX8_most_7 : decode cX8_most 7 = .ok (.ishl, 1) := by decide +kernel
theorem dX8_most_8 : decode cX8_most 8 = .ok (.istore_n 3, 1) := by decide +kernel
theorem dX8_most_9 : decode cX8_most 9 = .ok (.iconst 0, 1) := by decide +kernel
theorem dX8_most_10 : decode cX8_most 10 = .ok (.istore 4, 2) := by decide +kernel
theorem dX8_most_12 : decode cX8_most 12 = .ok (.iload 4, 2) := by decide +kernel
theorem dX8_most_14 : decode cX8_most 14 = .ok (.iload_n 3, 1) := by decide +kernel
theorem dX8_most_15 : decode cX8_most 15 = .ok (.if_icmp .ge 17, 3) := by decide +kernel
theorem dX8_most_18 : decode cX8_most 18 = .ok (.aload_n 0, 1) := by decide +kernel
theorem dX8_most_19 : decode cX8_most 19 = .ok (.getfield 35, 3) := by decide +kernel
theorem dX8_most_22 : decode cX8_most 22 = .ok (.iload 4, 2) := by decide +kernel
theorem dX8_most_24 : decode cX8_most 24 = .ok (.iconst 0, 1) := by decide +kernel
theorem dX8_most_25 : decode cX8_most 25 = .ok (.iastore, 1) := by decide +kernel
theorem dX8_most_26 : decode cX8_most 26 = .ok (.iinc 4 1, 3) := by decide +kernel
theorem dX8_most_29 : decode cX8_most 29 = .ok (.goto (-17), 3) := by decide +kernel
theorem dX8_most_32 : decode cX8_most 32 = .ok (.iconst 0, 1) := by decide +kernel
theorem dX8_most_33 : decode cX8_most 33 = .ok (.istore 4, 2) := by decide +kernel
theorem dX8_most_35 : decode cX8_most 35 = .ok (.iload 4, 2) := by decide +kernel
theorem dX8_most_37 : decode cX8_most 37 = .ok (.aload_n 0, 1) := by decide +kernel
theorem dX8_most_38 : decode cX8_most 38 = .ok (.getfield 19, 3) := by decide +kernel
theorem dX8_most_41 : decode cX8_most 41 = .ok (.iload_n 1, 1) := by decide +kernel
theorem dX8_most_42 : decode cX8_most 42 = .ok (.iaload, 1) := by decide +kernel
theorem dX8_most_43 : decode cX8_most 43 = .ok (.if_icmp .ge 114, 3) := by decide +kernel
theorem dX8_most_46 : decode cX8_most 46 = .ok (.iload_n 3, 1) := by decide +kernel
theorem dX8_most_47 : decode cX8_most 47 = .ok (.iconst 1, 1) := by decide +kernel
theorem dX8_most_48 : decode cX8_most 48 = .ok (.isub, 1) := by decide +kernel
theorem dX8_most_49 : decode cX8_most 49 = .ok (.istore 5, 2) := by decide +kernel
theorem dX8_most_51 : decode cX8_most 51 = .ok (.iload 5, 2) := by decide +kernel
theorem dX8_most_53 : decode cX8_most 53 = .ok (.ifCond .le 98, 3) := by decide +kernel
theorem dX8_most_56 : decode cX8_most 56 = .ok (.iconst 0, 1) := by decide +kernel
theorem dX8_most_57 : decode cX8_most 57 = .ok (.istore 6, 2) := by decide +kernel
theorem dX8_most_59 : decode cX8_most 59 = .ok (.iload 6, 2) := by decide +kernel
theorem dX8_most_61 : decode cX8_most 61 = .ok (.aload_n 0, 1) := by decide +kernel
theorem dX8_most_62 : decode cX8_most 62 = .ok (.getfield 19, 3) := by decide +kernel
theorem dX8_most_65 : decode cX8_most 65 = .ok (.iload_n 2, 1) := by decide +kernel
theorem dX8_most_66 : decode cX8_most 66 = .ok (.iaload, 1) := by decide +kernel
theorem dX8_most_67 : decode cX8_most 67 = .ok (.if_icmp .ge 78, 3) := by decide +kernel
theorem dX8_most_70 : decode cX8_most 70 = .ok (.iload 5, 2) := by decide +kernel
theorem dX8_most_72 : decode cX8_most 72 = .ok (.iload 6, 2) := by decide +kernel
theorem dX8_most_74 : decode cX8_most 74 = .ok (.ishr, 1) := by decide +kernel
theorem dX8_most_75 : decode cX8_most 75 = .ok (.iconst 1, 1) := by decide +kernel
theorem dX8_most_76 : decode cX8_most 76 = .ok (.iand, 1) := by decide +kernel
theorem dX8_most_77 : decode cX8_most 77 = .ok (.iconst 1, 1) := by decide +kernel
theorem dX8_most_78 : decode cX8_most 78 = .ok (.if_icmp .ne 61, 3) := by decide +kernel
theorem dX8_most_81 : decode cX8_most 81 = .ok (.aload_n 0, 1) := by decide +kernel
theorem dX8_most_82 : decode cX8_most 82 = .ok (.getfield 35, 3) := by decide +kernel
theorem dX8_most_85 : decode cX8_most 85 = .ok (.iload 5, 2) := by decide +kernel
theorem dX8_most_87 : decode cX8_most 87 = .ok (.iconst 1, 1) := by decide +kernel
theorem dX8_most_88 : decode cX8_most 88 = .ok (.iload 6, 2) := by decide +kernel
theorem dX8_most_90 : decode cX8_most 90 = .ok (.ishl, 1) := by decide +kernel
theorem dX8_most_91 : decode cX8_most 91 = .ok (.iconst (-1), 1) := by decide +kernel
theorem dX8_most_92 : decode cX8_most 92 = .ok (.ixor, 1) := by decide +kernel
theorem dX8_most_93 : decode cX8_most 93 = .ok (.iand, 1) := by decide +kernel
theorem dX8_most_94 : decode cX8_most 94 = .ok (.iaload, 1) := by decide +kernel
theorem dX8_most_95 : decode cX8_most 95 = .ok (.aload_n 0, 1) := by decide +kernel
theorem dX8_most_96 : decode cX8_most 96 = .ok (.iload_n 1, 1) := by decide +kernel
theorem dX8_most_97 : decode cX8_most 97 = .ok (.iload 4, 2) := by decide +kernel
theorem dX8_most_99 : decode cX8_most 99 = .ok (.iload_n 2, 1) := by decide +kernel
theorem dX8_most_100 : decode cX8_most 100 = .ok (.iload 6, 2) := by decide +kernel
theorem dX8_most_102 : decode cX8_most 102 = .ok (.invokevirtual 214, 3) := by decide +kernel
theorem dX8_most_105 : decode cX8_most 105 = .ok (.iadd, 1) := by decide +kernel
theorem dX8_most_106 : decode cX8_most 106 = .ok (.istore 7, 2) := by decide +kernel
theorem dX8_most_108 : decode cX8_most 108 = .ok (.aload_n 0, 1) := by decide +kernel
theorem dX8_most_109 : decode cX8_most 109 = .ok (.getfield 35, 3) := by decide +kernel
theorem dX8_most_112 : decode cX8_most 112 = .ok (.iload 5, 2) := by decide +kernel
theorem dX8_most_114 : decode cX8_most 114 = .ok (.iload 7, 2) := by decide +kernel
theorem dX8_most_116 : decode cX8_most 116 = .ok (.aload_n 0, 1) := by decide +kernel
theorem dX8_most_117 : decode cX8_most 117 = .ok (.getfield 35, 3) := by decide +kernel
theorem dX8_most_120 : decode cX8_most 120 = .ok (.iload 5, 2) := by decide +kernel
theorem dX8_most_122 : decode cX8_most 122 = .ok (.iaload, 1) := by decide +kernel
theorem dX8_most_123 : decode cX8_most 123 = .ok (.if_icmp .le 8, 3) := by decide +kernel
theorem dX8_most_126 : decode cX8_most 126 = .ok (.iload 7, 2) := by decide +kernel
theorem dX8_most_128 : decode cX8_most 128 = .ok (.goto 10, 3) := by decide +kernel
theorem dX8_most_131 : decode cX8_most 131 = .ok (.aload_n 0, 1) := by decide +kernel
theorem dX8_most_132 : decode cX8_most 132 = .ok (.getfield 35, 3) := by decide +kernel
theorem dX8_most_135 : decode cX8_most 135 = .ok (.iload 5, 2) := by decide +kernel
theorem dX8_most_137 : decode cX8_most 137 = .ok (.iaload, 1) := by decide +kernel
theorem dX8_most_138 : decode cX8_most 138 = .ok (.iastore, 1) := by decide +kernel
theorem dX8_most_139 : decode cX8_most 139 = .ok (.iinc 6 1, 3) := by decide +kernel
theorem dX8_most_142 : decode cX8_most 142 = .ok (.goto (-83), 3) := by decide +kernel
theorem dX8_most_145 : decode cX8_most 145 = .ok (.iinc 5 (-1), 3) := by decide +kernel
theorem dX8_most_148 : decode cX8_most 148 = .ok (.goto (-97), 3) := by decide +kernel
theorem dX8_most_151 : decode cX8_most 151 = .ok (.iinc 4 1, 3) := by decide +kernel
theorem dX8_most_154 : decode cX8_most 154 = .ok (.goto (-119), 3) := by decide +kernel
theorem dX8_most_157 : decode cX8_most 157 = .ok (.aload_n 0, 1) := by decide +kernel
theorem dX8_most_158 : decode cX8_most 158 = .ok (.getfield 35, 3) := by decide +kernel
theorem dX8_most_161 : decode cX8_most 161 = .ok (.iload_n 3, 1) := by decide +kernel
theorem dX8_most_162 : decode cX8_most 162 = .ok (.iconst 1, 1) := by decide +kernel
theorem dX8_most_163 : decode cX8_most 163 = .ok (.isub, 1) := by decide +kernel
theorem dX8_most_164 : decode cX8_most 164 = .ok (.iaload, 1) := by decide +kernel
theorem dX8_most_165 : decode cX8_most 165 = .ok (.ireturn, 1) := by decide +kernel
theorem dX8_transfers_0 : decode cX8_transfers 0 = .ok (.aload_n 0, 1) := by decide +kernel
theorem dX8_transfers_1 : decode cX8_transfers 1 = .ok (.iload_n 1, 1) := by decide +kernel
theorem dX8_transfers_2 : decode cX8_transfers 2 = .ok (.iload_n 2, 1) := by decide +kernel
theorem dX8_transfers_3 : decode cX8_transfers 3 = .ok (.invokevirtual 134, 3) := by decide +kernel
theorem dX8_transfers_6 : decode cX8_transfers 6 = .ok (.istore_n 3, 1) := by decide +kernel
theorem dX8_transfers_7 : decode cX8_transfers 7 = .ok (.iload_n 3, 1) := by decide +kernel
theorem dX8_transfers_8 : decode cX8_transfers 8 = .ok (.ifCond .eq 7, 3) := by decide +kernel
theorem dX8_transfers_11 : decode cX8_transfers 11 = .ok (.iload_n 3, 1) := by decide +kernel
theorem dX8_transfers_12 : decode cX8_transfers 12 = .ok (.goto 24, 3) := by decide +kernel
theorem dX8_transfers_15 : decode cX8_transfers 15 = .ok (.aload_n 0, 1) := by decide +kernel
theorem dX8_transfers_16 : decode cX8_transfers 16 = .ok (.getfield 7, 3) := by decide +kernel
theorem dX8_transfers_19 : decode cX8_transfers 19 = .ok (.iconst 0, 1) := by decide +kernel
theorem dX8_transfers_20 : decode cX8_transfers 20 = .ok (.iaload, 1) := by decide +kernel
theorem dX8_transfers_21 : decode cX8_transfers 21 = .ok (.aload_n 0, 1) := by decide +kernel
theorem dX8_transfers_22 : decode cX8_transfers 22 = .ok (.aload_n 0, 1) := by decide +kernel
theorem dX8_transfers_23 : decode cX8_transfers 23 = .ok (.iload_n 1, 1) := by decide +kernel
theorem dX8_transfers_24 : decode cX8_transfers 24 = .ok (.invokevirtual 128, 3) := by decide +kernel
theorem dX8_transfers_27 : decode cX8_transfers 27 = .ok (.aload_n 0, 1) := by decide +kernel
theorem dX8_transfers_28 : decode cX8_transfers 28 = .ok (.iload_n 2, 1) := by decide +kernel
theorem dX8_transfers_29 : decode cX8_transfers 29 = .ok (.invokevirtual 128, 3) := by decide +kernel
theorem dX8_transfers_32 : decode cX8_transfers 32 = .ok (.invokevirtual 218, 3) := by decide +kernel
theorem dX8_transfers_35 : decode cX8_transfers 35 = .ok (.isub, 1) := by decide +kernel
theorem dX8_transfers_36 : decode cX8_transfers 36 = .ok (.ireturn, 1) := by decide +kernel
theorem dX8_unlike_0 : decode cX8_unlike 0 = .ok (.iconst 0, 1) := by decide +kernel
theorem dX8_unlike_1 : decode cX8_unlike 1 = .ok (.istore_n 3, 1) := by decide +kernel
theorem dX8_unlike_2 : decode cX8_unlike 2 = .ok (.iconst 0, 1) := by decide +kernel
theorem dX8_unlike_3 : decode cX8_unlike 3 = .ok (.istore 4, 2) := by decide +kernel
theorem dX8_unlike_5 : decode cX8_unlike 5 = .ok (.iload 4, 2) := by decide +kernel
theorem dX8_unlike_7 : decode cX8_unlike 7 = .ok (.aload_n 0, 1) := by decide +kernel
theorem dX8_unlike_8 : decode cX8_unlike 8 = .ok (.getfield 7, 3) := by decide +kernel
theorem dX8_unlike_11 : decode cX8_unlike 11 = .ok (.iconst 0, 1) := by decide +kernel
theorem dX8_unlike_12 : decode cX8_unlike 12 = .ok (.iaload, 1) := by decide +kernel
theorem dX8_unlike_13 : decode cX8_unlike 13 = .ok (.if_icmp .ge 80, 3) := by decide +kernel
theorem dX8_unlike_16 : decode cX8_unlike 16 = .ok (.iconst 0, 1) := by decide +kernel
theorem dX8_unlike_17 : decode cX8_unlike 17 = .ok (.istore 5, 2) := by decide +kernel
theorem dX8_unlike_19 : decode cX8_unlike 19 = .ok (.iload 5, 2) := by decide +kernel
theorem dX8_unlike_21 : decode cX8_unlike 21 = .ok (.iload 4, 2) := by decide +kernel
theorem dX8_unlike_23 : decode cX8_unlike 23 = .ok (.if_icmp .ge 64, 3) := by decide +kernel
theorem dX8_unlike_26 : decode cX8_unlike 26 = .ok (.iload_n 3, 1) := by decide +kernel
theorem dX8_unlike_27 : decode cX8_unlike 27 = .ok (.aload_n 0, 1) := by decide +kernel
theorem dX8_unlike_28 : decode cX8_unlike 28 = .ok (.iload_n 1, 1) := by decide +kernel
theorem dX8_unlike_29 : decode cX8_unlike 29 = .ok (.iload 4, 2) := by decide +kernel
theorem dX8_unlike_31 : decode cX8_unlike 31 = .ok (.invokevirtual 65, 3) := by decide +kernel
theorem dX8_unlike_34 : decode cX8_unlike 34 = .ok (.aload_n 0, 1) := by decide +kernel
theorem dX8_unlike_35 : decode cX8_unlike 35 = .ok (.iload_n 1, 1) := by decide +kernel
theorem dX8_unlike_36 : decode cX8_unlike 36 = .ok (.iload 5, 2) := by decide +kernel
theorem dX8_unlike_38 : decode cX8_unlike 38 = .ok (.invokevirtual 65, 3) := by decide +kernel
theorem dX8_unlike_41 : decode cX8_unlike 41 = .ok (.if_icmp .ne 7, 3) := by decide +kernel
theorem dX8_unlike_44 : decode cX8_unlike 44 = .ok (.iconst 1, 1) := by decide +kernel
theorem dX8_unlike_45 : decode cX8_unlike 45 = .ok (.goto 4, 3) := by decide +kernel
theorem dX8_unlike_48 : decode cX8_unlike 48 = .ok (.iconst 0, 1) := by decide +kernel
theorem dX8_unlike_49 : decode cX8_unlike 49 = .ok (.aload_n 0, 1) := by decide +kernel
theorem dX8_unlike_50 : decode cX8_unlike 50 = .ok (.iload_n 2, 1) := by decide +kernel
theorem dX8_unlike_51 : decode cX8_unlike 51 = .ok (.iload 4, 2) := by decide +kernel
theorem dX8_unlike_53 : decode cX8_unlike 53 = .ok (.invokevirtual 65, 3) := by decide +kernel
theorem dX8_unlike_56 : decode cX8_unlike 56 = .ok (.aload_n 0, 1) := by decide +kernel
theorem dX8_unlike_57 : decode cX8_unlike 57 = .ok (.iload_n 2, 1) := by decide +kernel
theorem dX8_unlike_58 : decode cX8_unlike 58 = .ok (.iload 5, 2) := by decide +kernel
theorem dX8_unlike_60 : decode cX8_unlike 60 = .ok (.invokevirtual 65, 3) := by decide +kernel
theorem dX8_unlike_63 : decode cX8_unlike 63 = .ok (.if_icmp .ne 7, 3) := by decide +kernel
theorem dX8_unlike_66 : decode cX8_unlike 66 = .ok (.iconst 1, 1) := by decide +kernel
theorem dX8_unlike_67 : decode cX8_unlike 67 = .ok (.goto 4, 3) := by decide +kernel
theorem dX8_unlike_70 : decode cX8_unlike 70 = .ok (.iconst 0, 1) := by decide +kernel
theorem dX8_unlike_71 : decode cX8_unlike 71 = .ok (.if_icmp .eq 7, 3) := by decide +kernel
theorem dX8_unlike_74 : decode cX8_unlike 74 = .ok (.iconst 1, 1) := by decide +kernel
theorem dX8_unlike_75 : decode cX8_unlike 75 = .ok (.goto 4, 3) := by decide +kernel
theorem dX8_unlike_78 : decode cX8_unlike 78 = .ok (.iconst 0, 1) := by decide +kernel
theorem dX8_unlike_79 : decode cX8_unlike 79 = .ok (.iadd, 1) := by decide +kernel
theorem dX8_unlike_80 : decode cX8_unlike 80 = .ok (.istore_n 3, 1) := by decide +kernel
theorem dX8_unlike_81 : decode cX8_unlike 81 = .ok (.iinc 5 1, 3) := by decide +kernel
theorem dX8_unlike_84 : decode cX8_unlike 84 = .ok (.goto (-65), 3) := by decide +kernel
theorem dX8_unlike_87 : decode cX8_unlike 87 = .ok (.iinc 4 1, 3) := by decide +kernel
theorem dX8_unlike_90 : decode cX8_unlike 90 = .ok (.goto (-85), 3) := by decide +kernel
theorem dX8_unlike_93 : decode cX8_unlike 93 = .ok (.iload_n 3, 1) := by decide +kernel
theorem dX8_unlike_94 : decode cX8_unlike 94 = .ok (.ireturn, 1) := by decide +kernel
theorem dX8_disagreements_0 : decode cX8_disagreements 0 = .ok (.aload_n 0, 1) := by decide +kernel
theorem dX8_disagreements_1 : decode cX8_disagreements 1 = .ok (.iload_n 1, 1) := by decide +kernel
theorem dX8_disagreements_2 : decode cX8_disagreements 2 = .ok (.iload_n 2, 1) := by decide +kernel
theorem dX8_disagreements_3 : decode cX8_disagreements 3 = .ok (.invokevirtual 134, 3) := by decide +kernel
theorem dX8_disagreements_6 : decode cX8_disagreements 6 = .ok (.istore_n 3, 1) := by decide +kernel
theorem dX8_disagreements_7 : decode cX8_disagreements 7 = .ok (.iload_n 3, 1) := by decide +kernel
theorem dX8_disagreements_8 : decode cX8_disagreements 8 = .ok (.ifCond .eq 7, 3) := by decide +kernel
theorem dX8_disagreements_11 : decode cX8_disagreements 11 = .ok (.iload_n 3, 1) := by decide +kernel
theorem dX8_disagreements_12 : decode cX8_disagreements 12 = .ok (.goto 17, 3) := by decide +kernel
theorem dX8_disagreements_15 : decode cX8_disagreements 15 = .ok (.aload_n 0, 1) := by decide +kernel
theorem dX8_disagreements_16 : decode cX8_disagreements 16 = .ok (.aload_n 0, 1) := by decide +kernel
theorem dX8_disagreements_17 : decode cX8_disagreements 17 = .ok (.iload_n 1, 1) := by decide +kernel
theorem dX8_disagreements_18 : decode cX8_disagreements 18 = .ok (.invokevirtual 128, 3) := by decide +kernel
theorem dX8_disagreements_21 : decode cX8_disagreements 21 = .ok (.aload_n 0, 1) := by decide +kernel
theorem dX8_disagreements_22 : decode cX8_disagreements 22 = .ok (.iload_n 2, 1) := by decide +kernel
theorem dX8_disagreements_23 : decode cX8_disagreements 23 = .ok (.invokevirtual 128, 3) := by decide +kernel
theorem dX8_disagreements_26 : decode cX8_disagreements 26 = .ok (.invokevirtual 221, 3) := by decide +kernel
theorem dX8_disagreements_29 : decode cX8_disagreements 29 = .ok (.ireturn, 1) := by decide +kernel
theorem dX8_unlikeAll_0 : decode cX8_unlikeAll 0 = .ok (.iconst 0, 1) := by decide +kernel
theorem dX8_unlikeAll_1 : decode cX8_unlikeAll 1 = .ok (.istore_n 3, 1) := by decide +kernel
theorem dX8_unlikeAll_2 : decode cX8_unlikeAll 2 = .ok (.iconst 0, 1) := by decide +kernel
theorem dX8_unlikeAll_3 : decode cX8_unlikeAll 3 = .ok (.istore 4, 2) := by decide +kernel
theorem dX8_unlikeAll_5 : decode cX8_unlikeAll 5 = .ok (.iload 4, 2) := by decide +kernel
theorem dX8_unlikeAll_7 : decode cX8_unlikeAll 7 = .ok (.bipush 8, 2) := by decide +kernel
theorem dX8_unlikeAll_9 : decode cX8_unlikeAll 9 = .ok (.if_icmp .ge 37, 3) := by decide +kernel
theorem dX8_unlikeAll_12 : decode cX8_unlikeAll 12 = .ok (.iload_n 3, 1) := by decide +kernel
theorem dX8_unlikeAll_13 : decode cX8_unlikeAll 13 = .ok (.iload_n 2, 1) := by decide +kernel
theorem dX8_unlikeAll_14 : decode cX8_unlikeAll 14 = .ok (.iload 4, 2) := by decide +kernel
theorem dX8_unlikeAll_16 : decode cX8_unlikeAll 16 = .ok (.ishr, 1) := by decide +kernel
theorem dX8_unlikeAll_17 : decode cX8_unlikeAll 17 = .ok (.iconst 1, 1) := by decide +kernel
theorem dX8_unlikeAll_18 : decode cX8_unlikeAll 18 = .ok (.iand, 1) := by decide +kernel
theorem dX8_unlikeAll_19 : decode cX8_unlikeAll 19 = .ok (.iconst 1, 1) := by decide +kernel
theorem dX8_unlikeAll_20 : decode cX8_unlikeAll 20 = .ok (.if_icmp .ne 17, 3) := by decide +kernel
theorem dX8_unlikeAll_23 : decode cX8_unlikeAll 23 = .ok (.aload_n 0, 1) := by decide +kernel
theorem dX8_unlikeAll_24 : decode cX8_unlikeAll 24 = .ok (.iload_n 1, 1) := by decide +kernel
theorem dX8_unlikeAll_25 : decode cX8_unlikeAll 25 = .ok (.aload_n 0, 1) := by decide +kernel
theorem dX8_unlikeAll_26 : decode cX8_unlikeAll 26 = .ok (.iload 4, 2) := by decide +kernel
theorem dX8_unlikeAll_28 : decode cX8_unlikeAll 28 = .ok (.invokevirtual 128, 3) := by decide +kernel
theorem dX8_unlikeAll_31 : decode cX8_unlikeAll 31 = .ok (.invokevirtual 221, 3) := by decide +kernel
theorem dX8_unlikeAll_34 : decode cX8_unlikeAll 34 = .ok (.goto 4, 3) := by decide +kernel
theorem dX8_unlikeAll_37 : decode cX8_unlikeAll 37 = .ok (.iconst 0, 1) := by decide +kernel
theorem dX8_unlikeAll_38 : decode cX8_unlikeAll 38 = .ok (.iadd, 1) := by decide +kernel
theorem dX8_unlikeAll_39 : decode cX8_unlikeAll 39 = .ok (.istore_n 3, 1) := by decide +kernel
theorem dX8_unlikeAll_40 : decode cX8_unlikeAll 40 = .ok (.iinc 4 1, 3) := by decide +kernel
theorem dX8_unlikeAll_43 : decode cX8_unlikeAll 43 = .ok (.goto (-38), 3) := by decide +kernel
theorem dX8_unlikeAll_46 : decode cX8_unlikeAll 46 = .ok (.iload_n 3, 1) := by decide +kernel
theorem dX8_unlikeAll_47 : decode cX8_unlikeAll 47 = .ok (.ireturn, 1) := by decide +kernel
theorem dX8_median_0 : decode cX8_median 0 = .ok (.iload_n 1, 1) := by decide +kernel
theorem dX8_median_1 : decode cX8_median 1 = .ok (.iconst 1, 1) := by decide +kernel
theorem dX8_median_2 : decode cX8_median 2 = .ok (.sipush 255, 3) := by decide +kernel
theorem dX8_median_5 : decode cX8_median 5 = .ok (.invokestatic 96, 3) := by decide +kernel
theorem dX8_median_8 : decode cX8_median 8 = .ok (.ifCond .eq 10, 3) := by decide +kernel
theorem dX8_median_11 : decode cX8_median 11 = .ok (.iload_n 2, 1) := by decide +kernel
theorem dX8_median_12 : decode cX8_median 12 = .ok (.invokestatic 115, 3) := by decide +kernel
theorem dX8_median_15 : decode cX8_median 15 = .ok (.ifCond .ne 5, 3) := by decide +kernel
theorem dX8_median_18 : decode cX8_median 18 = .ok (.iconst (-1), 1) := by decide +kernel
theorem dX8_median_19 : decode cX8_median 19 = .ok (.ireturn, 1) := by decide +kernel
theorem dX8_median_20 : decode cX8_median 20 = .ok (.iconst 0, 1) := by decide +kernel
theorem dX8_median_21 : decode cX8_median 21 = .ok (.istore_n 3, 1) := by decide +kernel
theorem dX8_median_22 : decode cX8_median 22 = .ok (.iload_n 3, 1) := by decide +kernel
theorem dX8_median_23 : decode cX8_median 23 = .ok (.bipush 8, 2) := by decide +kernel
theorem dX8_median_25 : decode cX8_median 25 = .ok (.if_icmp .ge 31, 3) := by decide +kernel
theorem dX8_median_28 : decode cX8_median 28 = .ok (.iload_n 1, 1) := by decide +kernel
theorem dX8_median_29 : decode cX8_median 29 = .ok (.iload_n 3, 1) := by decide +kernel
theorem dX8_median_30 : decode cX8_median 30 = .ok (.ishr, 1) := by decide +kernel
theorem dX8_median_31 : decode cX8_median 31 = .ok (.iconst 1, 1) := by decide +kernel
theorem dX8_median_32 : decode cX8_median 32 = .ok (.iand, 1) := by decide +kernel
theorem dX8_median_33 : decode cX8_median 33 = .ok (.iconst 1, 1) := by decide +kernel
theorem dX8_median_34 : decode cX8_median 34 = .ok (.if_icmp .ne 16, 3) := by decide +kernel
theorem dX8_median_37 : decode cX8_median 37 = .ok (.aload_n 0, 1) := by decide +kernel
theorem dX8_median_38 : decode cX8_median 38 = .ok (.iload_n 3, 1) := by decide +kernel
theorem dX8_median_39 : decode cX8_median 39 = .ok (.invokevirtual 128, 3) := by decide +kernel
theorem dX8_median_42 : decode cX8_median 42 = .ok (.bipush (-9), 2) := by decide +kernel
theorem dX8_median_44 : decode cX8_median 44 = .ok (.if_icmp .ne 6, 3) := by decide +kernel
theorem dX8_median_47 : decode cX8_median 47 = .ok (.bipush (-2), 2) := by decide +kernel
theorem dX8_median_49 : decode cX8_median 49 = .ok (.ireturn, 1) := by decide +kernel
theorem dX8_median_50 : decode cX8_median 50 = .ok (.iinc 3 1, 3) := by decide +kernel
theorem dX8_median_53 : decode cX8_median 53 = .ok (.goto (-31), 3) := by decide +kernel
theorem dX8_median_56 : decode cX8_median 56 = .ok (.bipush (-9), 2) := by decide +kernel
theorem dX8_median_58 : decode cX8_median 58 = .ok (.istore_n 3, 1) := by decide +kernel
theorem dX8_median_59 : decode cX8_median 59 = .ok (.iconst 0, 1) := by decide +kernel
theorem dX8_median_60 : decode cX8_median 60 = .ok (.istore 4, 2) := by decide +kernel
theorem dX8_median_62 : decode cX8_median 62 = .ok (.iconst 0, 1) := by decide +kernel
theorem dX8_median_63 : decode cX8_median 63 = .ok (.istore 5, 2) := by decide +kernel
theorem dX8_median_65 : decode cX8_median 65 = .ok (.iload 5, 2) := by decide +kernel
theorem dX8_median_67 : decode cX8_median 67 = .ok (.aload_n 0, 1) := by decide +kernel
theorem dX8_median_68 : decode cX8_median 68 = .ok (.getfield 52, 3) := by decide +kernel
theorem dX8_median_71 : decode cX8_median 71 = .ok (.if_icmp .ge 60, 3) := by decide +kernel
theorem dX8_median_74 : decode cX8_median 74 = .ok (.aload_n 0, 1) := by decide +kernel
theorem dX8_median_75 : decode cX8_median 75 = .ok (.iload 5, 2) := by decide +kernel
theorem dX8_median_77 : decode cX8_median 77 = .ok (.invokevirtual 150, 3) := by decide +kernel
theorem dX8_median_80 : decode cX8_median 80 = .ok (.ifCond .eq 13, 3) := by decide +kernel
theorem dX8_median_83 : decode cX8_median 83 = .ok (.aload_n 0, 1) := by decide +kernel
theorem dX8_median_84 : decode cX8_median 84 = .ok (.iload 5, 2) := by decide +kernel
theorem dX8_median_86 : decode cX8_median 86 = .ok (.iload_n 1, 1) := by decide +kernel
theorem dX8_median_87 : decode cX8_median 87 = .ok (.invokevirtual 224, 3) := by decide +kernel
theorem dX8_median_90 : decode cX8_median 90 = .ok (.goto 4, 3) := by decide +kernel
theorem dX8_median_93 : decode cX8_median 93 = .ok (.iconst 0, 1) := by decide +kernel
theorem dX8_median_94 : decode cX8_median 94 = .ok (.istore 6, 2) := by decide +kernel
theorem dX8_median_96 : decode cX8_median 96 = .ok (.aload_n 0, 1) := by decide +kernel
theorem dX8_median_97 : decode cX8_median 97 = .ok (.iload 5, 2) := by decide +kernel
theorem dX8_median_99 : decode cX8_median 99 = .ok (.invokevirtual 150, 3) := by decide +kernel
theorem dX8_median_102 : decode cX8_median 102 = .ok (.ifCond .eq 23, 3) := by decide +kernel
theorem dX8_median_105 : decode cX8_median 105 = .ok (.iload_n 3, 1) := by decide +kernel
theorem dX8_median_106 : decode cX8_median 106 = .ok (.bipush (-9), 2) := by decide +kernel
theorem dX8_median_108 : decode cX8_median 108 = .ok (.if_icmp .eq 10, 3) := by decide +kernel
theorem dX8_median_111 : decode cX8_median 111 = .ok (.iload 6, 2) := by decide +kernel
theorem dX8_median_113 : decode cX8_median 113 = .ok (.iload 4, 2) := by decide +kernel
theorem dX8_median_115 : decode cX8_median 115 = .ok (.if_icmp .ge 10, 3) := by decide +kernel
theorem dX8_median_118 : decode cX8_median 118 = .ok (.iload 5, 2) := by decide +kernel
theorem dX8_median_120 : decode cX8_median 120 = .ok (.istore_n 3, 1) := by decide +kernel
theorem dX8_median_121 : decode cX8_median 121 = .ok (.iload 6, 2) := by decide +kernel
theorem dX8_median_123 : decode cX8_median 123 = .ok (.istore 4, 2) := by decide +kernel
theorem dX8_median_125 : decode cX8_median 125 = .ok (.iinc 5 1, 3) := by decide +kernel
theorem dX8_median_128 : decode cX8_median 128 = .ok (.goto (-63), 3) := by decide +kernel
theorem dX8_median_131 : decode cX8_median 131 = .ok (.iload_n 3, 1) := by decide +kernel
theorem dX8_median_132 : decode cX8_median 132 = .ok (.bipush (-9), 2) := by decide +kernel
theorem dX8_median_134 : decode cX8_median 134 = .ok (.if_icmp .ne 6, 3) := by decide +kernel
theorem dX8_median_137 : decode cX8_median 137 = .ok (.bipush (-3), 2) := by decide +kernel
theorem dX8_median_139 : decode cX8_median 139 = .ok (.ireturn, 1) := by decide +kernel
theorem dX8_median_140 : decode cX8_median 140 = .ok (.aload_n 0, 1) := by decide +kernel
theorem dX8_median_141 : decode cX8_median 141 = .ok (.iload_n 2, 1) := by decide +kernel
theorem dX8_median_142 : decode cX8_median 142 = .ok (.iload_n 3, 1) := by decide +kernel
theorem dX8_median_143 : decode cX8_median 143 = .ok (.invokevirtual 125, 3) := by decide +kernel
theorem dX8_median_146 : decode cX8_median 146 = .ok (.pop, 1) := by decide +kernel
theorem dX8_median_147 : decode cX8_median 147 = .ok (.iload 4, 2) := by decide +kernel
theorem dX8_median_149 : decode cX8_median 149 = .ok (.ireturn, 1) := by decide +kernel
theorem dX8_undo_0 : decode cX8_undo 0 = .ok (.aload_n 0, 1) := by decide +kernel
theorem dX8_undo_1 : decode cX8_undo 1 = .ok (.getfield 48, 3) := by decide +kernel
theorem dX8_undo_4 : decode cX8_undo 4 = .ok (.ifCond .ne 6, 3) := by decide +kernel
theorem dX8_undo_7 : decode cX8_undo 7 = .ok (.bipush (-3), 2) := by decide +kernel
theorem dX8_undo_9 : decode cX8_undo 9 = .ok (.ireturn, 1) := by decide +kernel
theorem dX8_undo_10 : decode cX8_undo 10 = .ok (.iconst 0, 1) := by decide +kernel
theorem dX8_undo_11 : decode cX8_undo 11 = .ok (.istore_n 1, 1) := by decide +kernel
theorem dX8_undo_12 : decode cX8_undo 12 = .ok (.iload_n 1, 1) := by decide +kernel
theorem dX8_undo_13 : decode cX8_undo 13 = .ok (.bipush 14, 2) := by decide +kernel
theorem dX8_undo_15 : decode cX8_undo 15 = .ok (.if_icmp .ge 29, 3) := by decide +kernel
theorem dX8_undo_18 : decode cX8_undo 18 = .ok (.aload_n 0, 1) := by decide +kernel
theorem dX8_undo_19 : decode cX8_undo 19 = .ok (.getfield 7, 3) := by decide +kernel
theorem dX8_undo_22 : decode cX8_undo 22 = .ok (.iload_n 1, 1) := by decide +kernel
theorem dX8_undo_23 : decode cX8_undo 23 = .ok (.aload_n 0, 1) := by decide +kernel
theorem dX8_undo_24 : decode cX8_undo 24 = .ok (.getfield 7, 3) := by decide +kernel
theorem dX8_undo_27 : decode cX8_undo 27 = .ok (.bipush 14, 2) := by decide +kernel
theorem dX8_undo_29 : decode cX8_undo 29 = .ok (.aload_n 0, 1) := by decide +kernel
theorem dX8_undo_30 : decode cX8_undo 30 = .ok (.getfield 48, 3) := by decide +kernel
theorem dX8_undo_33 : decode cX8_undo 33 = .ok (.imul, 1) := by decide +kernel
theorem dX8_undo_34 : decode cX8_undo 34 = .ok (.iload_n 1, 1) := by decide +kernel
theorem dX8_undo_35 : decode cX8_undo 35 = .ok (.iadd, 1) := by decide +kernel
theorem dX8_undo_36 : decode cX8_undo 36 = .ok (.iaload, 1) := by decide +kernel
theorem dX8_undo_37 : decode cX8_undo 37 = .ok (.iastore, 1) := by decide +kernel
theorem dX8_undo_38 : decode cX8_undo 38 = .ok (.iinc 1 1, 3) := by decide +kernel
theorem dX8_undo_41 : decode cX8_undo 41 = .ok (.goto (-29), 3) := by decide +kernel
theorem dX8_undo_44 : decode cX8_undo 44 = .ok (.aload_n 0, 1) := by decide +kernel
theorem dX8_undo_45 : decode cX8_undo 45 = .ok (.dup, 1) := by decide +kernel
theorem dX8_undo_46 : decode cX8_undo 46 = .ok (.getfield 48, 3) := by decide +kernel
theorem dX8_undo_49 : decode cX8_undo 49 = .ok (.iconst 1, 1) := by decide +kernel
theorem dX8_undo_50 : decode cX8_undo 50 = .ok (.isub, 1) := by decide +kernel
theorem dX8_undo_51 : decode cX8_undo 51 = .ok (.putfield 48, 3) := by decide +kernel
theorem dX8_undo_54 : decode cX8_undo 54 = .ok (.aload_n 0, 1) := by decide +kernel
theorem dX8_undo_55 : decode cX8_undo 55 = .ok (.invokevirtual 42, 3) := by decide +kernel
theorem dX8_undo_58 : decode cX8_undo 58 = .ok (.aload_n 0, 1) := by decide +kernel
theorem dX8_undo_59 : decode cX8_undo 59 = .ok (.invokevirtual 45, 3) := by decide +kernel
theorem dX8_undo_62 : decode cX8_undo 62 = .ok (.aload_n 0, 1) := by decide +kernel
theorem dX8_undo_63 : decode cX8_undo 63 = .ok (.getfield 48, 3) := by decide +kernel
theorem dX8_undo_66 : decode cX8_undo 66 = .ok (.ireturn, 1) := by decide +kernel
theorem dX8_bits_0 : decode cX8_bits 0 = .ok (.iconst 0, 1) := by decide +kernel
theorem dX8_bits_1 : decode cX8_bits 1 = .ok (.istore_n 1, 1) := by decide +kernel
theorem dX8_bits_2 : decode cX8_bits 2 = .ok (.iconst 0, 1) := by decide +kernel
theorem dX8_bits_3 : decode cX8_bits 3 = .ok (.istore_n 2, 1) := by decide +kernel
theorem dX8_bits_4 : decode cX8_bits 4 = .ok (.iload_n 2, 1) := by decide +kernel
theorem dX8_bits_5 : decode cX8_bits 5 = .ok (.bipush 16, 2) := by decide +kernel
theorem dX8_bits_7 : decode cX8_bits 7 = .ok (.if_icmp .ge 17, 3) := by decide +kernel
theorem dX8_bits_10 : decode cX8_bits 10 = .ok (.iload_n 1, 1) := by decide +kernel
theorem dX8_bits_11 : decode cX8_bits 11 = .ok (.iload_n 0, 1) := by decide +kernel
theorem dX8_bits_12 : decode cX8_bits 12 = .ok (.iload_n 2, 1) := by decide +kernel
theorem dX8_bits_13 : decode cX8_bits 13 = .ok (.ishr, 1) := by decide +kernel
theorem dX8_bits_14 : decode cX8_bits 14 = .ok (.iconst 1, 1) := by decide +kernel
theorem dX8_bits_15 : decode cX8_bits 15 = .ok (.iand, 1) := by decide +kernel
theorem dX8_bits_16 : decode cX8_bits 16 = .ok (.iadd, 1) := by decide +kernel
theorem dX8_bits_17 : decode cX8_bits 17 = .ok (.istore_n 1, 1) := by decide +kernel
theorem dX8_bits_18 : decode cX8_bits 18 = .ok (.iinc 2 1, 3) := by decide +kernel
theorem dX8_bits_21 : decode cX8_bits 21 = .ok (.goto (-17), 3) := by decide +kernel
theorem dX8_bits_24 : decode cX8_bits 24 = .ok (.iload_n 1, 1) := by decide +kernel
theorem dX8_bits_25 : decode cX8_bits 25 = .ok (.ireturn, 1) := by decide +kernel
theorem dX8_full_0 : decode cX8_full 0 = .ok (.iconst 0, 1) := by decide +kernel
theorem dX8_full_1 : decode cX8_full 1 = .ok (.istore_n 1, 1) := by decide +kernel
theorem dX8_full_2 : decode cX8_full 2 = .ok (.iconst 0, 1) := by decide +kernel
theorem dX8_full_3 : decode cX8_full 3 = .ok (.istore_n 2, 1) := by decide +kernel
theorem dX8_full_4 : decode cX8_full 4 = .ok (.iload_n 2, 1) := by decide +kernel
theorem dX8_full_5 : decode cX8_full 5 = .ok (.bipush 8, 2) := by decide +kernel
theorem dX8_full_7 : decode cX8_full 7 = .ok (.if_icmp .ge 27, 3) := by decide +kernel
theorem dX8_full_10 : decode cX8_full 10 = .ok (.iload_n 1, 1) := by decide +kernel
theorem dX8_full_11 : decode cX8_full 11 = .ok (.aload_n 0, 1) := by decide +kernel
theorem dX8_full_12 : decode cX8_full 12 = .ok (.iload_n 2, 1) := by decide +kernel
theorem dX8_full_13 : decode cX8_full 13 = .ok (.invokevirtual 128, 3) := by decide +kernel
theorem dX8_full_16 : decode cX8_full 16 = .ok (.bipush (-9), 2) := by decide +kernel
theorem dX8_full_18 : decode cX8_full 18 = .ok (.if_icmp .ne 7, 3) := by decide +kernel
theorem dX8_full_21 : decode cX8_full 21 = .ok (.iconst 0, 1) := by decide +kernel
theorem dX8_full_22 : decode cX8_full 22 = .ok (.goto 4, 3) := by decide +kernel
theorem dX8_full_25 : decode cX8_full 25 = .ok (.iconst 1, 1) := by decide +kernel
theorem dX8_full_26 : decode cX8_full 26 = .ok (.iadd, 1) := by decide +kernel
theorem dX8_full_27 : decode cX8_full 27 = .ok (.istore_n 1, 1) := by decide +kernel
theorem dX8_full_28 : decode cX8_full 28 = .ok (.iinc 2 1, 3) := by decide +kernel
theorem dX8_full_31 : decode cX8_full 31 = .ok (.goto (-27), 3) := by decide +kernel
theorem dX8_full_34 : decode cX8_full 34 = .ok (.iload_n 1, 1) := by decide +kernel
theorem dX8_full_35 : decode cX8_full 35 = .ok (.ireturn, 1) := by decide +kernel
theorem dX8_told_0 : decode cX8_told 0 = .ok (.iload_n 1, 1) := by decide +kernel
theorem dX8_told_1 : decode cX8_told 1 = .ok (.tableswitch 114 0 8 #[51, 58, 63, 70, 77, 87, 97, 104, 109], 51) := by decide +kernel
theorem dX8_told_52 : decode cX8_told 52 = .ok (.aload_n 0, 1) := by decide +kernel
theorem dX8_told_53 : decode cX8_told 53 = .ok (.getfield 7, 3) := by decide +kernel
theorem dX8_told_56 : decode cX8_told 56 = .ok (.iconst 0, 1) := by decide +kernel
theorem dX8_told_57 : decode cX8_told 57 = .ok (.iaload, 1) := by decide +kernel
theorem dX8_told_58 : decode cX8_told 58 = .ok (.ireturn, 1) := by decide +kernel
theorem dX8_told_59 : decode cX8_told 59 = .ok (.aload_n 0, 1) := by decide +kernel
theorem dX8_told_60 : decode cX8_told 60 = .ok (.invokevirtual 227, 3) := by decide +kernel
theorem dX8_told_63 : decode cX8_told 63 = .ok (.ireturn, 1) := by decide +kernel
theorem dX8_told_64 : decode cX8_told 64 = .ok (.aload_n 0, 1) := by decide +kernel
theorem dX8_told_65 : decode cX8_told 65 = .ok (.getfield 7, 3) := by decide +kernel
theorem dX8_told_68 : decode cX8_told 68 = .ok (.iconst 1, 1) := by decide +kernel
theorem dX8_told_69 : decode cX8_told 69 = .ok (.iaload, 1) := by decide +kernel
theorem dX8_told_70 : decode cX8_told 70 = .ok (.ireturn, 1) := by decide +kernel
theorem dX8_told_71 : decode cX8_told 71 = .ok (.aload_n 0, 1) := by decide +kernel
theorem dX8_told_72 : decode cX8_told 72 = .ok (.getfield 7, 3) := by decide +kernel
theorem dX8_told_75 : decode cX8_told 75 = .ok (.iconst 2, 1) := by decide +kernel
theorem dX8_told_76 : decode cX8_told 76 = .ok (.iaload, 1) := by decide +kernel
theorem dX8_told_77 : decode cX8_told 77 = .ok (.ireturn, 1) := by decide +kernel
theorem dX8_told_78 : decode cX8_told 78 = .ok (.aload_n 0, 1) := by decide +kernel
theorem dX8_told_79 : decode cX8_told 79 = .ok (.getfield 7, 3) := by decide +kernel
theorem dX8_told_82 : decode cX8_told 82 = .ok (.iconst 3, 1) := by decide +kernel
theorem dX8_told_83 : decode cX8_told 83 = .ok (.iaload, 1) := by decide +kernel
theorem dX8_told_84 : decode cX8_told 84 = .ok (.invokestatic 230, 3) := by decide +kernel
theorem dX8_told_87 : decode cX8_told 87 = .ok (.ireturn, 1) := by decide +kernel
theorem dX8_told_88 : decode cX8_told 88 = .ok (.aload_n 0, 1) := by decide +kernel
theorem dX8_told_89 : decode cX8_told 89 = .ok (.getfield 7, 3) := by decide +kernel
theorem dX8_told_92 : decode cX8_told 92 = .ok (.iconst 4, 1) := by decide +kernel
theorem dX8_told_93 : decode cX8_told 93 = .ok (.iaload, 1) := by decide +kernel
theorem dX8_told_94 : decode cX8_told 94 = .ok (.invokestatic 230, 3) := by decide +kernel
theorem dX8_told_97 : decode cX8_told 97 = .ok (.ireturn, 1) := by decide +kernel
theorem dX8_told_98 : decode cX8_told 98 = .ok (.aload_n 0, 1) := by decide +kernel
theorem dX8_told_99 : decode cX8_told 99 = .ok (.getfield 7, 3) := by decide +kernel
theorem dX8_told_102 : decode cX8_told 102 = .ok (.iconst 5, 1) := by decide +kernel
theorem dX8_told_103 : decode cX8_told 103 = .ok (.iaload, 1) := by decide +kernel
theorem dX8_told_104 : decode cX8_told 104 = .ok (.ireturn, 1) := by decide +kernel
theorem dX8_told_105 : decode cX8_told 105 = .ok (.aload_n 0, 1) := by decide +kernel
theorem dX8_told_106 : decode cX8_told 106 = .ok (.getfield 112, 3) := by decide +kernel
theorem dX8_told_109 : decode cX8_told 109 = .ok (.ireturn, 1) := by decide +kernel
theorem dX8_told_110 : decode cX8_told 110 = .ok (.aload_n 0, 1) := by decide +kernel
theorem dX8_told_111 : decode cX8_told 111 = .ok (.getfield 48, 3) := by decide +kernel
theorem dX8_told_114 : decode cX8_told 114 = .ok (.ireturn, 1) := by decide +kernel
theorem dX8_told_115 : decode cX8_told 115 = .ok (.iconst (-1), 1) := by decide +kernel
theorem dX8_told_116 : decode cX8_told 116 = .ok (.ireturn, 1) := by decide +kernel
theorem dX8_digest_0 : decode cX8_digest 0 = .ok (.ldc2_w 233, 3) := by decide +kernel
theorem dX8_digest_3 : decode cX8_digest 3 = .ok (.lstore_n 1, 1) := by decide +kernel
theorem dX8_digest_4 : decode cX8_digest 4 = .ok (.iconst 0, 1) := by decide +kernel
theorem dX8_digest_5 : decode cX8_digest 5 = .ok (.istore_n 3, 1) := by decide +kernel
theorem dX8_digest_6 : decode cX8_digest 6 = .ok (.iload_n 3, 1) := by decide +kernel
theorem dX8_digest_7 : decode cX8_digest 7 = .ok (.bipush 8, 2) := by decide +kernel
theorem dX8_digest_9 : decode cX8_digest 9 = .ok (.if_icmp .gt 22, 3) := by decide +kernel
theorem dX8_digest_12 : decode cX8_digest 12 = .ok (.ldc2_w 235, 3) := by decide +kernel
theorem dX8_digest_15 : decode cX8_digest 15 = .ok (.lload_n 1, 1) := by decide +kernel
theorem dX8_digest_16 : decode cX8_digest 16 = .ok (.lmul, 1) := by decide +kernel
theorem dX8_digest_17 : decode cX8_digest 17 = .ok (.aload_n 0, 1) := by decide +kernel
theorem dX8_digest_18 : decode cX8_digest 18 = .ok (.iload_n 3, 1) := by decide +kernel
theorem dX8_digest_19 : decode cX8_digest 19 = .ok (.invokevirtual 237, 3) := by decide +kernel
theorem dX8_digest_22 : decode cX8_digest 22 = .ok (.i2l, 1) := by decide +kernel
theorem dX8_digest_23 : decode cX8_digest 23 = .ok (.ladd, 1) := by decide +kernel
theorem dX8_digest_24 : decode cX8_digest 24 = .ok (.lstore_n 1, 1) := by decide +kernel
theorem dX8_digest_25 : decode cX8_digest 25 = .ok (.iinc 3 1, 3) := by decide +kernel
theorem dX8_digest_28 : decode cX8_digest 28 = .ok (.goto (-22), 3) := by decide +kernel
theorem dX8_digest_31 : decode cX8_digest 31 = .ok (.ldc2_w 235, 3) := by decide +kernel
theorem dX8_digest_34 : decode cX8_digest 34 = .ok (.lload_n 1, 1) := by decide +kernel
theorem dX8_digest_35 : decode cX8_digest 35 = .ok (.lmul, 1) := by decide +kernel
theorem dX8_digest_36 : decode cX8_digest 36 = .ok (.aload_n 0, 1) := by decide +kernel
theorem dX8_digest_37 : decode cX8_digest 37 = .ok (.getfield 59, 3) := by decide +kernel
theorem dX8_digest_40 : decode cX8_digest 40 = .ok (.i2l, 1) := by decide +kernel
theorem dX8_digest_41 : decode cX8_digest 41 = .ok (.ladd, 1) := by decide +kernel
theorem dX8_digest_42 : decode cX8_digest 42 = .ok (.lstore_n 1, 1) := by decide +kernel
theorem dX8_digest_43 : decode cX8_digest 43 = .ok (.iconst 1, 1) := by decide +kernel
theorem dX8_digest_44 : decode cX8_digest 44 = .ok (.istore_n 3, 1) := by decide +kernel
theorem dX8_digest_45 : decode cX8_digest 45 = .ok (.iload_n 3, 1) := by decide +kernel
theorem dX8_digest_46 : decode cX8_digest 46 = .ok (.bipush 6, 2) := by decide +kernel
theorem dX8_digest_48 : decode cX8_digest 48 = .ok (.if_icmp .gt 22, 3) := by decide +kernel
theorem dX8_digest_51 : decode cX8_digest 51 = .ok (.ldc2_w 235, 3) := by decide +kernel
theorem dX8_digest_54 : decode cX8_digest 54 = .ok (.lload_n 1, 1) := by decide +kernel
theorem dX8_digest_55 : decode cX8_digest 55 = .ok (.lmul, 1) := by decide +kernel
theorem dX8_digest_56 : decode cX8_digest 56 = .ok (.aload_n 0, 1) := by decide +kernel
theorem dX8_digest_57 : decode cX8_digest 57 = .ok (.iload_n 3, 1) := by decide +kernel
theorem dX8_digest_58 : decode cX8_digest 58 = .ok (.invokevirtual 166, 3) := by decide +kernel
theorem dX8_digest_61 : decode cX8_digest 61 = .ok (.i2l, 1) := by decide +kernel
theorem dX8_digest_62 : decode cX8_digest 62 = .ok (.ladd, 1) := by decide +kernel
theorem dX8_digest_63 : decode cX8_digest 63 = .ok (.lstore_n 1, 1) := by decide +kernel
theorem dX8_digest_64 : decode cX8_digest 64 = .ok (.iinc 3 1, 3) := by decide +kernel
theorem dX8_digest_67 : decode cX8_digest 67 = .ok (.goto (-22), 3) := by decide +kernel
theorem dX8_digest_70 : decode cX8_digest 70 = .ok (.iconst 0, 1) := by decide +kernel
theorem dX8_digest_71 : decode cX8_digest 71 = .ok (.istore_n 3, 1) := by decide +kernel
theorem dX8_digest_72 : decode cX8_digest 72 = .ok (.iload_n 3, 1) := by decide +kernel
theorem dX8_digest_73 : decode cX8_digest 73 = .ok (.bipush 8, 2) := by decide +kernel
theorem dX8_digest_75 : decode cX8_digest 75 = .ok (.if_icmp .ge 130, 3) := by decide +kernel
theorem dX8_digest_78 : decode cX8_digest 78 = .ok (.aload_n 0, 1) := by decide +kernel
theorem dX8_digest_79 : decode cX8_digest 79 = .ok (.iload_n 3, 1) := by decide +kernel
theorem dX8_digest_80 : decode cX8_digest 80 = .ok (.invokevirtual 128, 3) := by decide +kernel
theorem dX8_digest_83 : decode cX8_digest 83 = .ok (.istore 4, 2) := by decide +kernel
theorem dX8_digest_85 : decode cX8_digest 85 = .ok (.iload 4, 2) := by decide +kernel
theorem dX8_digest_87 : decode cX8_digest 87 = .ok (.bipush (-9), 2) := by decide +kernel
theorem dX8_digest_89 : decode cX8_digest 89 = .ok (.if_icmp .ne 16, 3) := by decide +kernel
theorem dX8_digest_92 : decode cX8_digest 92 = .ok (.ldc2_w 235, 3) := by decide +kernel
theorem dX8_digest_95 : decode cX8_digest 95 = .ok (.lload_n 1, 1) := by decide +kernel
theorem dX8_digest_96 : decode cX8_digest 96 = .ok (.lmul, 1) := by decide +kernel
theorem dX8_digest_97 : decode cX8_digest 97 = .ok (.ldc2_w 240, 3) := by decide +kernel
theorem dX8_digest_100 : decode cX8_digest 100 = .ok (.ladd, 1) := by decide +kernel
theorem dX8_digest_101 : decode cX8_digest 101 = .ok (.lstore_n 1, 1) := by decide +kernel
theorem dX8_digest_102 : decode cX8_digest 102 = .ok (.goto 97, 3) := by decide +kernel
theorem dX8_digest_105 : decode cX8_digest 105 = .ok (.ldc2_w 235, 3) := by decide +kernel
theorem dX8_digest_108 : decode cX8_digest 108 = .ok (.lload_n 1, 1) := by decide +kernel
theorem dX8_digest_109 : decode cX8_digest 109 = .ok (.lmul, 1) := by decide +kernel
theorem dX8_digest_110 : decode cX8_digest 110 = .ok (.aload_n 0, 1) := by decide +kernel
theorem dX8_digest_111 : decode cX8_digest 111 = .ok (.getfield 19, 3) := by decide +kernel
theorem dX8_digest_114 : decode cX8_digest 114 = .ok (.iload 4, 2) := by decide +kernel
theorem dX8_digest_116 : decode cX8_digest 116 = .ok (.iaload, 1) := by decide +kernel
theorem dX8_digest_117 : decode cX8_digest 117 = .ok (.i2l, 1) := by decide +kernel
theorem dX8_digest_118 : decode cX8_digest 118 = .ok (.ladd, 1) := by decide +kernel
theorem dX8_digest_119 : decode cX8_digest 119 = .ok (.lstore_n 1, 1) := by decide +kernel
theorem dX8_digest_120 : decode cX8_digest 120 = .ok (.iconst 0, 1) := by decide +kernel
theorem dX8_digest_121 : decode cX8_digest 121 = .ok (.istore 5, 2) := by decide +kernel
theorem dX8_digest_123 : decode cX8_digest 123 = .ok (.iload 5, 2) := by decide +kernel
theorem dX8_digest_125 : decode cX8_digest 125 = .ok (.aload_n 0, 1) := by decide +kernel
theorem dX8_digest_126 : decode cX8_digest 126 = .ok (.getfield 7, 3) := by decide +kernel
theorem dX8_digest_129 : decode cX8_digest 129 = .ok (.iconst 0, 1) := by decide +kernel
theorem dX8_digest_130 : decode cX8_digest 130 = .ok (.iaload, 1) := by decide +kernel
theorem dX8_digest_131 : decode cX8_digest 131 = .ok (.if_icmp .ge 25, 3) := by decide +kernel
theorem dX8_digest_134 : decode cX8_digest 134 = .ok (.ldc2_w 235, 3) := by decide +kernel
theorem dX8_digest_137 : decode cX8_digest 137 = .ok (.lload_n 1, 1) := by decide +kernel
theorem dX8_digest_138 : decode cX8_digest 138 = .ok (.lmul, 1) := by decide +kernel
theorem dX8_digest_139 : decode cX8_digest 139 = .ok (.aload_n 0, 1) := by decide +kernel
theorem dX8_digest_140 : decode cX8_digest 140 = .ok (.iload 4, 2) := by decide +kernel
theorem dX8_digest_142 : decode cX8_digest 142 = .ok (.iload 5, 2) := by decide +kernel
theorem dX8_digest_144 : decode cX8_digest 144 = .ok (.invokevirtual 65, 3) := by decide +kernel
theorem dX8_digest_147 : decode cX8_digest 147 = .ok (.i2l, 1) := by decide +kernel
theorem dX8_digest_148 : decode cX8_digest 148 = .ok (.ladd, 1) := by decide +kernel
theorem dX8_digest_149 : decode cX8_digest 149 = .ok (.lstore_n 1, 1) := by decide +kernel
theorem dX8_digest_150 : decode cX8_digest 150 = .ok (.iinc 5 1, 3) := by decide +kernel
theorem dX8_digest_153 : decode cX8_digest 153 = .ok (.goto (-30), 3) := by decide +kernel
theorem dX8_digest_156 : decode cX8_digest 156 = .ok (.ldc2_w 235, 3) := by decide +kernel
theorem dX8_digest_159 : decode cX8_digest 159 = .ok (.lload_n 1, 1) := by decide +kernel
theorem dX8_digest_160 : decode cX8_digest 160 = .ok (.lmul, 1) := by decide +kernel
theorem dX8_digest_161 : decode cX8_digest 161 = .ok (.aload_n 0, 1) := by decide +kernel
theorem dX8_digest_162 : decode cX8_digest 162 = .ok (.iload 4, 2) := by decide +kernel
theorem dX8_digest_164 : decode cX8_digest 164 = .ok (.invokevirtual 62, 3) := by decide +kernel
theorem dX8_digest_167 : decode cX8_digest 167 = .ok (.i2l, 1) := by decide +kernel
theorem dX8_digest_168 : decode cX8_digest 168 = .ok (.ladd, 1) := by decide +kernel
theorem dX8_digest_169 : decode cX8_digest 169 = .ok (.lstore_n 1, 1) := by decide +kernel
theorem dX8_digest_170 : decode cX8_digest 170 = .ok (.ldc2_w 235, 3) := by decide +kernel
theorem dX8_digest_173 : decode cX8_digest 173 = .ok (.lload_n 1, 1) := by decide +kernel
theorem dX8_digest_174 : decode cX8_digest 174 = .ok (.lmul, 1) := by decide +kernel
theorem dX8_digest_175 : decode cX8_digest 175 = .ok (.aload_n 0, 1) := by decide +kernel
theorem dX8_digest_176 : decode cX8_digest 176 = .ok (.iload 4, 2) := by decide +kernel
theorem dX8_digest_178 : decode cX8_digest 178 = .ok (.invokevirtual 163, 3) := by decide +kernel
theorem dX8_digest_181 : decode cX8_digest 181 = .ok (.i2l, 1) := by decide +kernel
theorem dX8_digest_182 : decode cX8_digest 182 = .ok (.ladd, 1) := by decide +kernel
theorem dX8_digest_183 : decode cX8_digest 183 = .ok (.lstore_n 1, 1) := by decide +kernel
theorem dX8_digest_184 : decode cX8_digest 184 = .ok (.ldc2_w 235, 3) := by decide +kernel
theorem dX8_digest_187 : decode cX8_digest 187 = .ok (.lload_n 1, 1) := by decide +kernel
theorem dX8_digest_188 : decode cX8_digest 188 = .ok (.lmul, 1) := by decide +kernel
theorem dX8_digest_189 : decode cX8_digest 189 = .ok (.aload_n 0, 1) := by decide +kernel
theorem dX8_digest_190 : decode cX8_digest 190 = .ok (.getfield 22, 3) := by decide +kernel
theorem dX8_digest_193 : decode cX8_digest 193 = .ok (.iload 4, 2) := by decide +kernel
theorem dX8_digest_195 : decode cX8_digest 195 = .ok (.iaload, 1) := by decide +kernel
theorem dX8_digest_196 : decode cX8_digest 196 = .ok (.i2l, 1) := by decide +kernel
theorem dX8_digest_197 : decode cX8_digest 197 = .ok (.ladd, 1) := by decide +kernel
theorem dX8_digest_198 : decode cX8_digest 198 = .ok (.lstore_n 1, 1) := by decide +kernel
theorem dX8_digest_199 : decode cX8_digest 199 = .ok (.iinc 3 1, 3) := by decide +kernel
theorem dX8_digest_202 : decode cX8_digest 202 = .ok (.goto (-130), 3) := by decide +kernel
theorem dX8_digest_205 : decode cX8_digest 205 = .ok (.lload_n 1, 1) := by decide +kernel
theorem dX8_digest_206 : decode cX8_digest 206 = .ok (.lreturn, 1) := by decide +kernel
end
section
theorem dL_law_0 : decode cL_law 0 = .ok (.new 7, 3) := by decide +kernel
theorem dL_law_3 : decode cL_law 3 = .ok (.dup, 1) := by decide +kernel
theorem dL_law_4 : decode cL_law 4 = .ok (.invokespecial 9, 3) := by decide +kernel
theorem dL_law_7 : decode cL_law 7 = .ok (.astore_n 1, 1) := by decide +kernel
theorem dL_law_8 : decode cL_law 8 = .ok (.new 10, 3) := by decide +kernel
theorem dL_law_11 : decode cL_law 11 = .ok (.dup, 1) := by decide +kernel
theorem dL_law_12 : decode cL_law 12 = .ok (.invokespecial 12, 3) := by decide +kernel
theorem dL_law_15 : decode cL_law 15 = .ok (.astore_n 2, 1) := by decide +kernel
theorem dL_law_16 : decode cL_law 16 = .ok (.iconst 0, 1) := by decide +kernel
theorem dL_law_17 : decode cL_law 17 = .ok (.istore_n 3, 1) := by decide +kernel
theorem dL_law_18 : decode cL_law 18 = .ok (.iload_n 3, 1) := by decide +kernel
theorem dL_law_19 : decode cL_law 19 = .ok (.aload_n 0, 1) := by decide +kernel
theorem dL_law_20 : decode cL_law 20 = .ok (.arraylength, 1) := by decide +kernel
theorem dL_law_21 : decode cL_law 21 = .ok (.iconst 5, 1) := by decide +kernel
theorem dL_law_22 : decode cL_law 22 = .ok (.isub, 1) := by decide +kernel
theorem dL_law_23 : decode cL_law 23 = .ok (.if_icmp .gt 1885, 3) := by decide +kernel
theorem dL_law_26 : decode cL_law 26 = .ok (.aload_n 0, 1) := by decide +kernel
theorem dL_law_27 : decode cL_law 27 = .ok (.iload_n 3, 1) := by decide +kernel
theorem dL_law_28 : decode cL_law 28 = .ok (.iaload, 1) := by decide +kernel
theorem dL_law_29 : decode cL_law 29 = .ok (.bipush 63, 2) := by decide +kernel
theorem dL_law_31 : decode cL_law 31 = .ok (.iand, 1) := by decide +kernel
theorem dL_law_32 : decode cL_law 32 = .ok (.tableswitch 1870 0 49 #[216, 239, 288, 337, 396, 455, 494, 517, 530, 553, 576, 599, 632, 675, 718, 761, 794, 837, 860, 893, 926, 949, 972, 1005, 1028, 1061, 1094, 1117, 1140, 1163, 1186, 1209, 1222, 1245, 1278, 1327, 1386, 1455, 1488, 1522, 1566, 1600, 1633, 1677, 1721, 1754, 1787, 1820, 1833, 1856], 216) := by decide +kernel
theorem dL_law_248 : decode cL_law 248 = .ok (.aload_n 1, 1) := by decide +kernel
theorem dL_law_249 : decode cL_law 249 = .ok (.aload_n 0, 1) := by decide +kernel
theorem dL_law_250 : decode cL_law 250 = .ok (.iload_n 3, 1) := by decide +kernel
theorem dL_law_251 : decode cL_law 251 = .ok (.iconst 1, 1) := by decide +kernel
theorem dL_law_252 : decode cL_law 252 = .ok (.iadd, 1) := by decide +kernel
theorem dL_law_253 : decode cL_law 253 = .ok (.iaload, 1) := by decide +kernel
theorem dL_law_254 : decode cL_law 254 = .ok (.invokevirtual 13, 3) := by decide +kernel
theorem dL_law_257 : decode cL_law 257 = .ok (.aload_n 2, 1) := by decide +kernel
theorem dL_law_258 : decode cL_law 258 = .ok (.aload_n 0, 1) := by decide +kernel
theorem dL_law_259 : decode cL_law 259 = .ok (.iload_n 3, 1) := by decide +kernel
theorem dL_law_260 : decode cL_law 260 = .ok (.iconst 1, 1) := by decide +kernel
theorem dL_law_261 : decode cL_law 261 = .ok (.iadd, 1) := by decide +kernel
theorem dL_law_262 : decode cL_law 262 = .ok (.iaload, 1) := by decide +kernel
theorem dL_law_263 : decode cL_law 263 = .ok (.invokevirtual 17, 3) := by decide +kernel
theorem dL_law_266 : decode cL_law 266 = .ok (.if_icmp .eq 1636, 3) := by decide +kernel
theorem dL_law_269 : decode cL_law 269 = .ok (.iconst 0, 1) := by decide +kernel
theorem dL_law_270 : decode cL_law 270 = .ok (.ireturn, 1) := by decide +kernel
theorem dL_law_271 : decode cL_law 271 = .ok (.aload_n 1, 1) := by decide +kernel
theorem dL_law_272 : decode cL_law 272 = .ok (.aload_n 0, 1) := by decide +kernel
theorem dL_law_273 : decode cL_law 273 = .ok (.iload_n 3, 1) := by decide +kernel
theorem dL_law_274 : decode cL_law 274 = .ok (.iconst 1, 1) := by decide +kernel
theorem dL_law_275 : decode cL_law 275 = .ok (.iadd, 1) := by decide +kernel
theorem dL_law_276 : decode cL_law 276 = .ok (.iaload, 1) := by decide +kernel
theorem dL_law_277 : decode cL_law 277 = .ok (.aload_n 0, 1) := by decide +kernel
theorem dL_law_278 : decode cL_law 278 = .ok (.iload_n 3, 1) := by decide +kernel
theorem dL_law_279 : decode cL_law 279 = .ok (.iconst 2, 1) := by decide +kernel
theorem dL_law_280 : decode cL_law 280 = .ok (.iadd, 1) := by decide +kernel
theorem dL_law_281 : decode cL_law 281 = .ok (.iaload, 1) := by decide +kernel
theorem dL_law_282 : decode cL_law 282 = .ok (.ifCond .eq 7, 3) := by decide +kernel
theorem dL_law_285 : decode cL_law 285 = .ok (.iconst 1, 1) := by decide +kernel
theorem dL_law_286 : decode cL_law 286 = .ok (.goto 4, 3) := by decide +kernel
theorem dL_law_289 : decode cL_law 289 = .ok (.iconst 0, 1) := by decide +kernel
theorem dL_law_290 : decode cL_law 290 = .ok (.invokevirtual 18, 3) := by decide +kernel
theorem dL_law_293 : decode cL_law 293 = .ok (.aload_n 2, 1) := by decide +kernel
theorem dL_law_294 : decode cL_law 294 = .ok (.aload_n 0, 1) := by decide +kernel
theorem dL_law_295 : decode cL_law 295 = .ok (.iload_n 3, 1) := by decide +kernel
theorem dL_law_296 : decode cL_law 296 = .ok (.iconst 1, 1) := by decide +kernel
theorem dL_law_297 : decode cL_law 297 = .ok (.iadd, 1) := by decide +kernel
theorem dL_law_298 : decode cL_law 298 = .ok (.iaload, 1) := by decide +kernel
theorem dL_law_299 : decode cL_law 299 = .ok (.aload_n 0, 1) := by decide +kernel
theorem dL_law_300 : decode cL_law 300 = .ok (.iload_n 3, 1) := by decide +kernel
theorem dL_law_301 : decode cL_law 301 = .ok (.iconst 2, 1) := by decide +kernel
theorem dL_law_302 : decode cL_law 302 = .ok (.iadd, 1) := by decide +kernel
theorem dL_law_303 : decode cL_law 303 = .ok (.iaload, 1) := by decide +kernel
theorem dL_law_304 : decode cL_law 304 = .ok (.ifCond .eq 7, 3) := by decide +kernel
theorem dL_law_307 : decode cL_law 307 = .ok (.iconst 1, 1) := by decide +kernel
theorem dL_law_308 : decode cL_law 308 = .ok (.goto 4, 3) := by decide +kernel
theorem dL_law_311 : decode cL_law 311 = .ok (.iconst 0, 1) := by decide +kernel
theorem dL_law_312 : decode cL_law 312 = .ok (.invokevirtual 22, 3) := by decide +kernel
theorem dL_law_315 : decode cL_law 315 = .ok (.if_icmp .eq 1587, 3) := by decide +kernel
theorem dL_law_318 : decode cL_law 318 = .ok (.iconst 0, 1) := by decide +kernel
theorem dL_law_319 : decode cL_law 319 = .ok (.ireturn, 1) := by decide +kernel
theorem dL_law_320 : decode cL_law 320 = .ok (.aload_n 1, 1) := by decide +kernel
theorem dL_law_321 : decode cL_law 321 = .ok (.aload_n 0, 1) := by decide +kernel
theorem dL_law_322 : decode cL_law 322 = .ok (.iload_n 3, 1) := by decide +kernel
theorem dL_law_323 : decode cL_law 323 = .ok (.iconst 1, 1) := by decide +kernel
theorem dL_law_324 : decode cL_law 324 = .ok (.iadd, 1) := by decide +kernel
theorem dL_law_325 : decode cL_law 325 = .ok (.iaload, 1) := by decide +kernel
theorem dL_law_326 : decode cL_law 326 = .ok (.aload_n 0, 1) := by decide +kernel
theorem dL_law_327 : decode cL_law 327 = .ok (.iload_n 3, 1) := by decide +kernel
theorem dL_law_328 : decode cL_law 328 = .ok (.iconst 2, 1) := by decide +kernel
theorem dL_law_329 : decode cL_law 329 = .ok (.iadd, 1) := by decide +kernel
theorem dL_law_330 : decode cL_law 330 = .ok (.iaload, 1) := by decide +kernel
theorem dL_law_331 : decode cL_law 331 = .ok (.ifCond .eq 7, 3) := by decide +kernel
theorem dL_law_334 : decode cL_law 334 = .ok (.iconst 1, 1) := by decide +kernel
theorem dL_law_335 : decode cL_law 335 = .ok (.goto 4, 3) := by decide +kernel
theorem dL_law_338 : decode cL_law 338 = .ok (.iconst 0, 1) := by decide +kernel
theorem dL_law_339 : decode cL_law 339 = .ok (.invokevirtual 23, 3) := by decide +kernel
theorem dL_law_342 : decode cL_law 342 = .ok (.aload_n 2, 1) := by decide +kernel
theorem dL_law_343 : decode cL_law 343 = .ok (.aload_n 0, 1) := by decide +kernel
theorem dL_law_344 : decode cL_law 344 = .ok (.iload_n 3, 1) := by decide +kernel
theorem dL_law_345 : decode cL_law 345 = .ok (.iconst 1, 1) := by decide +kernel
theorem dL_law_346 : decode cL_law 346 = .ok (.iadd, 1) := by decide +kernel
theorem dL_law_347 : decode cL_law 347 = .ok (.iaload, 1) := by decide +kernel
theorem dL_law_348 : decode cL_law 348 = .ok (.aload_n 0, 1) := by decide +kernel
theorem dL_law_349 : decode cL_law 349 = .ok (.iload_n 3, 1) := by decide +kernel
theorem dL_law_350 : decode cL_law 350 = .ok (.iconst 2, 1) := by decide +kernel
theorem dL_law_351 : decode cL_law 351 = .ok (.iadd, 1) := by decide +kernel
theorem dL_law_352 : decode cL_law 352 = .ok (.iaload, 1) := by decide +kernel
theorem dL_law_353 : decode cL_law 353 = .ok (.ifCond .eq 7, 3) := by decide +kernel
theorem dL_law_356 : decode cL_law 356 = .ok (.iconst 1, 1) := by decide +kernel
theorem dL_law_357 : decode cL_law 357 = .ok (.goto 4, 3) := by decide +kernel
theorem dL_law_360 : decode cL_law 360 = .ok (.iconst 0, 1) := by decide +kernel
theorem dL_law_361 : decode cL_law 361 = .ok (.invokevirtual 26, 3) := by decide +kernel
theorem dL_law_364 : decode cL_law 364 = .ok (.if_icmp .eq 1538, 3) := by decide +kernel
theorem dL_law_367 : decode cL_law 367 = .ok (.iconst 0, 1) := by decide +kernel
theorem dL_law_368 : decode cL_law 368 = .ok (.ireturn, 1) := by decide +kernel
theorem dL_law_369 : decode cL_law 369 = .ok (.aload_n 1, 1) := by decide +kernel
theorem dL_law_370 : decode cL_law 370 = .ok (.aload_n 0, 1) := by decide +kernel
theorem dL_law_371 : decode cL_law 371 = .ok (.iload_n 3, 1) := by decide +kernel
theorem dL_law_372 : decode cL_law 372 = .ok (.iconst 1, 1) := by decide +kernel
theorem dL_law_373 : decode cL_law 373 = .ok (.iadd, 1) := by decide +kernel
theorem dL_law_374 : decode cL_law 374 = .ok (.iaload, 1) := by decide +kernel
theorem dL_law_375 : decode cL_law 375 = .ok (.aload_n 0, 1) := by decide +kernel
theorem dL_law_376 : decode cL_law 376 = .ok (.iload_n 3, 1) := by decide +kernel
theorem dL_law_377 : decode cL_law 377 = .ok (.iconst 2, 1) := by decide +kernel
theorem dL_law_378 : decode cL_law 378 = .ok (.iadd, 1) := by decide +kernel
theorem dL_law_379 : decode cL_law 379 = .ok (.iaload, 1) := by decide +kernel
theorem dL_law_380 : decode cL_law 380 = .ok (.aload_n 0, 1) := by decide +kernel
theorem dL_law_381 : decode cL_law 381 = .ok (.iload_n 3, 1) := by decide +kernel
theorem dL_law_382 : decode cL_law 382 = .ok (.iconst 3, 1) := by decide +kernel
theorem dL_law_383 : decode cL_law 383 = .ok (.iadd, 1) := by decide +kernel
theorem dL_law_384 : decode cL_law 384 = .ok (.iaload, 1) := by decide +kernel
theorem dL_law_385 : decode cL_law 385 = .ok (.ifCond .eq 7, 3) := by decide +kernel
theorem dL_law_388 : decode cL_law 388 = .ok (.iconst 1, 1) := by decide +kernel
theorem dL_law_389 : decode cL_law 389 = .ok (.goto 4, 3) := by decide +kernel
theorem dL_law_392 : decode cL_law 392 = .ok (.iconst 0, 1) := by decide +kernel
theorem dL_law_393 : decode cL_law 393 = .ok (.invokevirtual 27, 3) := by decide +kernel
theorem dL_law_396 : decode cL_law 396 = .ok (.aload_n 2, 1) := by decide +kernel
theorem dL_law_397 : decode cL_law 397 = .ok (.aload_n 0, 1) := by decide +kernel
theorem dL_law_398 : decode cL_law 398 = .ok (.iload_n 3, 1) := by decide +kernel
theorem dL_law_399 : decode cL_law 399 = .ok (.iconst 1, 1) := by decide +kernel
theorem dL_law_400 : decode cL_law 400 = .ok (.iadd, 1) := by decide +kernel
theorem dL_law_401 : decode cL_law 401 = .ok (.iaload, 1) := by decide +kernel
theorem dL_law_402 : decode cL_law 402 = .ok (.aload_n 0, 1) := by decide +kernel
theorem dL_law_403 : decode cL_law 403 = .ok (.iload_n 3, 1) := by decide +kernel
theorem dL_law_404 : decode cL_law 404 = .ok (.iconst 2, 1) := by decide +kernel
theorem dL_law_405 : decode cL_law 405 = .ok (.iadd, 1) := by decide +kernel
theorem dL_law_406 : decode cL_law 406 = .ok (.iaload, 1) := by decide +kernel
theorem dL_law_407 : decode cL_law 407 = .ok (.aload_n 0, 1) := by decide +kernel
theorem dL_law_408 : decode cL_law 408 = .ok (.iload_n 3, 1) := by decide +kernel
theorem dL_law_409 : decode cL_law 409 = .ok (.iconst 3, 1) := by decide +kernel
theorem dL_law_410 : decode cL_law 410 = .ok (.iadd, 1) := by decide +kernel
theorem dL_law_411 : decode cL_law 411 = .ok (.iaload, 1) := by decide +kernel
theorem dL_law_412 : decode cL_law 412 = .ok (.ifCond .eq 7, 3) := by decide +kernel
theorem dL_law_415 : decode cL_law 415 = .ok (.iconst 1, 1) := by decide +kernel
theorem dL_law_416 : decode cL_law 416 = .ok (.goto 4, 3) := by decide +kernel
theorem dL_law_419 : decode cL_law 419 = .ok (.iconst 0, 1) := by decide +kernel
theorem dL_law_420 : decode cL_law 420 = .ok (.invokevirtual 31, 3) := by decide +kernel
theorem dL_law_423 : decode cL_law 423 = .ok (.if_icmp .eq 1479, 3) := by decide +kernel
theorem dL_law_426 : decode cL_law 426 = .ok (.iconst 0, 1) := by decide +kernel
theorem dL_law_427 : decode cL_law 427 = .ok (.ireturn, 1) := by decide +kernel
theorem dL_law_428 : decode cL_law 428 = .ok (.aload_n 1, 1) := by decide +kernel
theorem dL_law_429 : decode cL_law 429 = .ok (.aload_n 0, 1) := by decide +kernel
theorem dL_law_430 : decode cL_law 430 = .ok (.iload_n 3, 1) := by decide +kernel
theorem dL_law_431 : decode cL_law 431 = .ok (.iconst 1, 1) := by decide +kernel
theorem dL_law_432 : decode cL_law 432 = .ok (.iadd, 1) := by decide +kernel
theorem dL_law_433 : decode cL_law 433 = .ok (.iaload, 1) := by decide +kernel
theorem dL_law_434 : decode cL_law 434 = .ok (.aload_n 0, 1) := by decide +kernel
theorem dL_law_435 : decode cL_law 435 = .ok (.iload_n 3, 1) := by decide +kernel
theorem dL_law_436 : decode cL_law 436 = .ok (.iconst 2, 1) := by decide +kernel
theorem dL_law_437 : decode cL_law 437 = .ok (.iadd, 1) := by decide +kernel
theorem dL_law_438 : decode cL_law 438 = .ok (.iaload, 1) := by decide +kernel
theorem dL_law_439 : decode cL_law 439 = .ok (.aload_n 0, 1) := by decide +kernel
theorem dL_law_440 : decode cL_law 440 = .ok (.iload_n 3, 1) := by decide +kernel
theorem dL_law_441 : decode cL_law 441 = .ok (.iconst 3, 1) := by decide +kernel
theorem dL_law_442 : decode cL_law 442 = .ok (.iadd, 1) := by decide +kernel
theorem dL_law_443 : decode cL_law 443 = .ok (.iaload, 1) := by decide +kernel
theorem dL_law_444 : decode cL_law 444 = .ok (.ifCond .eq 7, 3) := by decide +kernel
theorem dL_law_447 : decode cL_law 447 = .ok (.iconst 1, 1) := by decide +kernel
theorem dL_law_448 : decode cL_law 448 = .ok (.goto 4, 3) := by decide +kernel
theorem dL_law_451 : decode cL_law 451 = .ok (.iconst 0, 1) := by decide +kernel
theorem dL_law_452 : decode cL_law 452 = .ok (.invokevirtual 32, 3) := by decide +kernel
theorem dL_law_455 : decode cL_law 455 = .ok (.aload_n 2, 1) := by decide +kernel
theorem dL_law_456 : decode cL_law 456 = .ok (.aload_n 0, 1) := by decide +kernel
theorem dL_law_457 : decode cL_law 457 = .ok (.iload_n 3, 1) := by decide +kernel
theorem dL_law_458 : decode cL_law 458 = .ok (.iconst 1, 1) := by decide +kernel
theorem dL_law_459 : decode cL_law 459 = .ok (.iadd, 1) := by decide +kernel
theorem dL_law_460 : decode cL_law 460 = .ok (.iaload, 1) := by decide +kernel
theorem dL_law_461 : decode cL_law 461 = .ok (.aload_n 0, 1) := by decide +kernel
theorem dL_law_462 : decode cL_law 462 = .ok (.iload_n 3, 1) := by decide +kernel
theorem dL_law_463 : decode cL_law 463 = .ok (.iconst 2, 1) := by decide +kernel
theorem dL_law_464 : decode cL_law 464 = .ok (.iadd, 1) := by decide +kernel
theorem dL_law_465 : decode cL_law 465 = .ok (.iaload, 1) := by decide +kernel
theorem dL_law_466 : decode cL_law 466 = .ok (.aload_n 0, 1) := by decide +kernel
theorem dL_law_467 : decode cL_law 467 = .ok (.iload_n 3, 1) := by decide +kernel
theorem dL_law_468 : decode cL_law 468 = .ok (.iconst 3, 1) := by decide +kernel
theorem dL_law_469 : decode cL_law 469 = .ok (.iadd, 1) := by decide +kernel
theorem dL_law_470 : decode cL_law 470 = .ok (.iaload, 1) := by decide +kernel
theorem dL_law_471 : decode cL_law 471 = .ok (.ifCond .eq 7, 3) := by decide +kernel
theorem dL_law_474 : decode cL_law 474 = .ok (.iconst 1, 1) := by decide +kernel
theorem dL_law_475 : decode cL_law 475 = .ok (.goto 4, 3) := by decide +kernel
theorem dL_law_478 : decode cL_law 478 = .ok (.iconst 0, 1) := by decide +kernel
theorem dL_law_479 : decode cL_law 479 = .ok (.invokevirtual 35, 3) := by decide +kernel
theorem dL_law_482 : decode cL_law 482 = .ok (.if_icmp .eq 1420, 3) := by decide +kernel
theorem dL_law_485 : decode cL_law 485 = .ok (.iconst 0, 1) := by decide +kernel
theorem dL_law_486 : decode cL_law 486 = .ok (.ireturn, 1) := by decide +kernel
theorem dL_law_487 : decode cL_law 487 = .ok (.aload_n 1, 1) := by decide +kernel
theorem dL_law_488 : decode cL_law 488 = .ok (.aload_n 0, 1) := by decide +kernel
theorem dL_law_489 : decode cL_law 489 = .ok (.iload_n 3, 1) := by decide +kernel
theorem dL_law_490 : decode cL_law 490 = .ok (.iconst 1, 1) := by decide +kernel
theorem dL_law_491 : decode cL_law 491 = .ok (.iadd, 1) := by decide +kernel
theorem dL_law_492 : decode cL_law 492 = .ok (.iaload, 1) := by decide +kernel
theorem dL_law_493 : decode cL_law 493 = .ok (.ifCond .eq 7, 3) := by decide +kernel
theorem dL_law_496 : decode cL_law 496 = .ok (.iconst 1, 1) := by decide +kernel
theorem dL_law_497 : decode cL_law 497 = .ok (.goto 4, 3) := by decide +kernel
theorem dL_law_500 : decode cL_law 500 = .ok (.iconst 0, 1) := by decide +kernel
theorem dL_law_501 : decode cL_law 501 = .ok (.invokevirtual 36, 3) := by decide +kernel
theorem dL_law_504 : decode cL_law 504 = .ok (.aload_n 2, 1) := by decide +kernel
theorem dL_law_505 : decode cL_law 505 = .ok (.aload_n 0, 1) := by decide +kernel
theorem dL_law_506 : decode cL_law 506 = .ok (.iload_n 3, 1) := by decide +kernel
theorem dL_law_507 : decode cL_law 507 = .ok (.iconst 1, 1) := by decide +kernel
theorem dL_law_508 : decode cL_law 508 = .ok (.iadd, 1) := by decide +kernel
theorem dL_law_509 : decode cL_law 509 = .ok (.iaload, 1) := by decide +kernel
theorem dL_law_510 : decode cL_law 510 = .ok (.ifCond .eq 7, 3) := by decide +kernel
theorem dL_law_513 : decode cL_law 513 = .ok (.iconst 1, 1) := by decide +kernel
theorem dL_law_514 : decode cL_law 514 = .ok (.goto 4, 3) := by decide +kernel
theorem dL_law_517 : decode cL_law 517 = .ok (.iconst 0, 1) := by decide +kernel
theorem dL_law_518 : decode cL_law 518 = .ok (.invokevirtual 40, 3) := by decide +kernel
theorem dL_law_521 : decode cL_law 521 = .ok (.if_icmp .eq 1381, 3) := by decide +kernel
theorem dL_law_524 : decode cL_law 524 = .ok (.iconst 0, 1) := by decide +kernel
theorem dL_law_525 : decode cL_law 525 = .ok (.ireturn, 1) := by decide +kernel
theorem dL_law_526 : decode cL_law 526 = .ok (.aload_n 1, 1) := by decide +kernel
theorem dL_law_527 : decode cL_law 527 = .ok (.aload_n 0, 1) := by decide +kernel
theorem dL_law_528 : decode cL_law 528 = .ok (.iload_n 3, 1) := by decide +kernel
theorem dL_law_529 : decode cL_law 529 = .ok (.iconst 1, 1) := by decide +kernel
theorem dL_law_530 : decode cL_law 530 = .ok (.iadd, 1) := by decide +kernel
theorem dL_law_531 : decode cL_law 531 = .ok (.iaload, 1) := by decide +kernel
theorem dL_law_532 : decode cL_law 532 = .ok (.invokevirtual 41, 3) := by decide +kernel
theorem dL_law_535 : decode cL_law 535 = .ok (.aload_n 2, 1) := by decide +kernel
theorem dL_law_536 : decode cL_law 536 = .ok (.aload_n 0, 1) := by decide +kernel
theorem dL_law_537 : decode cL_law 537 = .ok (.iload_n 3, 1) := by decide +kernel
theorem dL_law_538 : decode cL_law 538 = .ok (.iconst 1, 1) := by decide +kernel
theorem dL_law_539 : decode cL_law 539 = .ok (.iadd, 1) := by decide +kernel
theorem dL_law_540 : decode cL_law 540 = .ok (.iaload, 1) := by decide +kernel
theorem dL_law_541 : decode cL_law 541 = .ok (.invokevirtual 44, 3) := by decide +kernel
theorem dL_law_544 : decode cL_law 544 = .ok (.if_icmp .eq 1358, 3) := by decide +kernel
theorem dL_law_547 : decode cL_law 547 = .ok (.iconst 0, 1) := by decide +kernel
theorem dL_law_548 : decode cL_law 548 = .ok (.ireturn, 1) := by decide +kernel
theorem dL_law_549 : decode cL_law 549 = .ok (.aload_n 1, 1) := by decide +kernel
theorem dL_law_550 : decode cL_law 550 = .ok (.invokevirtual 45, 3) := by decide +kernel
theorem dL_law_553 : decode cL_law 553 = .ok (.aload_n 2, 1) := by decide +kernel
theorem dL_law_554 : decode cL_law 554 = .ok (.invokevirtual 49, 3) := by decide +kernel
theorem dL_law_557 : decode cL_law 557 = .ok (.if_icmp .eq 1345, 3) := by decide +kernel
theorem dL_law_560 : decode cL_law 560 = .ok (.iconst 0, 1) := by decide +kernel
theorem dL_law_561 : decode cL_law 561 = .ok (.ireturn, 1) := by decide +kernel
theorem dL_law_562 : decode cL_law 562 = .ok (.aload_n 1, 1) := by decide +kernel
theorem dL_law_563 : decode cL_law 563 = .ok (.aload_n 0, 1) := by decide +kernel
theorem dL_law_564 : decode cL_law 564 = .ok (.iload_n 3, 1) := by decide +kernel
theorem dL_law_565 : decode cL_law 565 = .ok (.iconst 1, 1) := by decide +kernel
theorem dL_law_566 : decode cL_law 566 = .ok (.iadd, 1) := by decide +kernel
theorem dL_law_567 : decode cL_law 567 = .ok (.iaload, 1) := by decide +kernel
theorem dL_law_568 : decode cL_law 568 = .ok (.invokevirtual 50, 3) := by decide +kernel
theorem dL_law_571 : decode cL_law 571 = .ok (.aload_n 2, 1) := by decide +kernel
theorem dL_law_572 : decode cL_law 572 = .ok (.aload_n 0, 1) := by decide +kernel
theorem dL_law_573 : decode cL_law 573 = .ok (.iload_n 3, 1) := by decide +kernel
theorem dL_law_574 : decode cL_law 574 = .ok (.iconst 1, 1) := by decide +kernel
theorem dL_law_575 : decode cL_law 575 = .ok (.iadd, 1) := by decide +kernel
theorem dL_law_576 : decode cL_law 576 = .ok (.iaload, 1) := by decide +kernel
theorem dL_law_577 : decode cL_law 577 = .ok (.invokevirtual 53, 3) := by decide +kernel
theorem dL_law_580 : decode cL_law 580 = .ok (.if_icmp .eq 1322, 3) := by decide +kernel
theorem dL_law_583 : decode cL_law 583 = .ok (.iconst 0, 1) := by decide +kernel
theorem dL_law_584 : decode cL_law 584 = .ok (.ireturn, 1) := by decide +kernel
theorem dL_law_585 : decode cL_law 585 = .ok (.aload_n 1, 1) := by decide +kernel
theorem dL_law_586 : decode cL_law 586 = .ok (.aload_n 0, 1) := by decide +kernel
theorem dL_law_587 : decode cL_law 587 = .ok (.iload_n 3, 1) := by decide +kernel
theorem dL_law_588 : decode cL_law 588 = .ok (.iconst 1, 1) := by decide +kernel
theorem dL_law_589 : decode cL_law 589 = .ok (.iadd, 1) := by decide +kernel
theorem dL_law_590 : decode cL_law 590 = .ok (.iaload, 1) := by decide +kernel
theorem dL_law_591 : decode cL_law 591 = .ok (.invokevirtual 54, 3) := by decide +kernel
theorem dL_law_594 : decode cL_law 594 = .ok (.aload_n 2, 1) := by decide +kernel
theorem dL_law_595 : decode cL_law 595 = .ok (.aload_n 0, 1) := by decide +kernel
theorem dL_law_596 : decode cL_law 596 = .ok (.iload_n 3, 1) := by decide +kernel
theorem dL_law_597 : decode cL_law 597 = .ok (.iconst 1, 1) := by decide +kernel
theorem dL_law_598 : decode cL_law 598 = .ok (.iadd, 1) := by decide +kernel
theorem dL_law_599 : decode cL_law 599 = .ok (.iaload, 1) := by decide +kernel
theorem dL_law_600 : decode cL_law 600 = .ok (.invokevirtual 57, 3) := by decide +kernel
theorem dL_law_603 : decode cL_law 603 = .ok (.if_icmp .eq 1299, 3) := by decide +kernel
theorem dL_law_606 : decode cL_law 606 = .ok (.iconst 0, 1) := by decide +kernel
theorem dL_law_607 : decode cL_law 607 = .ok (.ireturn, 1) := by decide +kernel
theorem dL_law_608 : decode cL_law 608 = .ok (.aload_n 1, 1) := by decide +kernel
theorem dL_law_609 : decode cL_law 609 = .ok (.aload_n 0, 1) := by decide +kernel
theorem dL_law_610 : decode cL_law 610 = .ok (.iload_n 3, 1) := by decide +kernel
theorem dL_law_611 : decode cL_law 611 = .ok (.iconst 1, 1) := by decide +kernel
theorem dL_law_612 : decode cL_law 612 = .ok (.iadd, 1) := by decide +kernel
theorem dL_law_613 : decode cL_law 613 = .ok (.iaload, 1) := by decide +kernel
theorem dL_law_614 : decode cL_law 614 = .ok (.invokevirtual 58, 3) := by decide +kernel
theorem dL_law_617 : decode cL_law 617 = .ok (.aload_n 2, 1) := by decide +kernel
theorem dL_law_618 : decode cL_law 618 = .ok (.aload_n 0, 1) := by decide +kernel
theorem dL_law_619 : decode cL_law 619 = .ok (.iload_n 3, 1) := by decide +kernel
theorem dL_law_620 : decode cL_law 620 = .ok (.iconst 1, 1) := by decide +kernel
theorem dL_law_621 : decode cL_law 621 = .ok (.iadd, 1) := by decide +kernel
theorem dL_law_622 : decode cL_law 622 = .ok (.iaload, 1) := by decide +kernel
theorem dL_law_623 : decode cL_law 623 = .ok (.invokevirtual 61, 3) := by decide +kernel
theorem dL_law_626 : decode cL_law 626 = .ok (.if_icmp .eq 1276, 3) := by decide +kernel
theorem dL_law_629 : decode cL_law 629 = .ok (.iconst 0, 1) := by decide +kernel
theorem dL_law_630 : decode cL_law 630 = .ok (.ireturn, 1) := by decide +kernel
theorem dL_law_631 : decode cL_law 631 = .ok (.aload_n 1, 1) := by decide +kernel
theorem dL_law_632 : decode cL_law 632 = .ok (.aload_n 0, 1) := by decide +kernel
theorem dL_law_633 : decode cL_law 633 = .ok (.iload_n 3, 1) := by decide +kernel
theorem dL_law_634 : decode cL_law 634 = .ok (.iconst 1, 1) := by decide +kernel
theorem dL_law_635 : decode cL_law 635 = .ok (.iadd, 1) := by decide +kernel
theorem dL_law_636 : decode cL_law 636 = .ok (.iaload, 1) := by decide +kernel
theorem dL_law_637 : decode cL_law 637 = .ok (.aload_n 0, 1) := by decide +kernel
theorem dL_law_638 : decode cL_law 638 = .ok (.iload_n 3, 1) := by decide +kernel
theorem dL_law_639 : decode cL_law 639 = .ok (.iconst 2, 1) := by decide +kernel
theorem dL_law_640 : decode cL_law 640 = .ok (.iadd, 1) := by decide +kernel
theorem dL_law_641 : decode cL_law 641 = .ok (.iaload, 1) := by decide +kernel
theorem dL_law_642 : decode cL_law 642 = .ok (.invokevirtual 62, 3) := by decide +kernel
theorem dL_law_645 : decode cL_law 645 = .ok (.aload_n 2, 1) := by decide +kernel
theorem dL_law_646 : decode cL_law 646 = .ok (.aload_n 0, 1) := by decide +kernel
theorem dL_law_647 : decode cL_law 647 = .ok (.iload_n 3, 1) := by decide +kernel
theorem dL_law_648 : decode cL_law 648 = .ok (.iconst 1, 1) := by decide +kernel
theorem dL_law_649 : decode cL_law 649 = .ok (.iadd, 1) := by decide +kernel
theorem dL_law_650 : decode cL_law 650 = .ok (.iaload, 1) := by decide +kernel
theorem dL_law_651 : decode cL_law 651 = .ok (.aload_n 0, 1) := by decide +kernel
theorem dL_law_652 : decode cL_law 652 = .ok (.iload_n 3, 1) := by decide +kernel
theorem dL_law_653 : decode cL_law 653 = .ok (.iconst 2, 1) := by decide +kernel
theorem dL_law_654 : decode cL_law 654 = .ok (.iadd, 1) := by decide +kernel
theorem dL_law_655 : decode cL_law 655 = .ok (.iaload, 1) := by decide +kernel
theorem dL_law_656 : decode cL_law 656 = .ok (.invokevirtual 66, 3) := by decide +kernel
theorem dL_law_659 : decode cL_law 659 = .ok (.if_icmp .eq 1243, 3) := by decide +kernel
theorem dL_law_662 : decode cL_law 662 = .ok (.iconst 0, 1) := by decide +kernel
theorem dL_law_663 : decode cL_law 663 = .ok (.ireturn, 1) := by decide +kernel
theorem dL_law_664 : decode cL_law 664 = .ok (.aload_n 1, 1) := by decide +kernel
theorem dL_law_665 : decode cL_law 665 = .ok (.aload_n 0, 1) := by decide +kernel
theorem dL_law_666 : decode cL_law 666 = .ok (.iload_n 3, 1) := by decide +kernel
theorem dL_law_667 : decode cL_law 667 = .ok (.iconst 1, 1) := by decide +kernel
theorem dL_law_668 : decode cL_law 668 = .ok (.iadd, 1) := by decide +kernel
theorem dL_law_669 : decode cL_law 669 = .ok (.iaload, 1) := by decide +kernel
theorem dL_law_670 : decode cL_law 670 = .ok (.aload_n 0, 1) := by decide +kernel
theorem dL_law_671 : decode cL_law 671 = .ok (.iload_n 3, 1) := by decide +kernel
theorem dL_law_672 : decode cL_law 672 = .ok (.iconst 2, 1) := by decide +kernel
theorem dL_law_673 : decode cL_law 673 = .ok (.iadd, 1) := by decide +kernel
theorem dL_law_674 : decode cL_law 674 = .ok (.iaload, 1) := by decide +kernel
theorem dL_law_675 : decode cL_law 675 = .ok (.aload_n 0, 1) := by decide +kernel
theorem dL_law_676 : decode cL_law 676 = .ok (.iload_n 3, 1) := by decide +kernel
theorem dL_law_677 : decode cL_law 677 = .ok (.iconst 3, 1) := by decide +kernel
theorem dL_law_678 : decode cL_law 678 = .ok (.iadd, 1) := by decide +kernel
theorem dL_law_679 : decode cL_law 679 = .ok (.iaload, 1) := by decide +kernel
theorem dL_law_680 : decode cL_law 680 = .ok (.invokevirtual 67, 3) := by decide +kernel
theorem dL_law_683 : decode cL_law 683 = .ok (.aload_n 2, 1) := by decide +kernel
theorem dL_law_684 : decode cL_law 684 = .ok (.aload_n 0, 1) := by decide +kernel
theorem dL_law_685 : decode cL_law 685 = .ok (.iload_n 3, 1) := by decide +kernel
theorem dL_law_686 : decode cL_law 686 = .ok (.iconst 1, 1) := by decide +kernel
theorem dL_law_687 : decode cL_law 687 = .ok (.iadd, 1) := by decide +kernel
theorem dL_law_688 : decode cL_law 688 = .ok (.iaload, 1) := by decide +kernel
theorem dL_law_689 : decode cL_law 689 = .ok (.aload_n 0, 1) := by decide +kernel
theorem dL_law_690 : decode cL_law 690 = .ok (.iload_n 3, 1) := by decide +kernel
theorem dL_law_691 : decode cL_law 691 = .ok (.iconst 2, 1) := by decide +kernel
theorem dL_law_692 : decode cL_law 692 = .ok (.iadd, 1) := by decide +kernel
theorem dL_law_693 : decode cL_law 693 = .ok (.iaload, 1) := by decide +kernel
theorem dL_law_694 : decode cL_law 694 = .ok (.aload_n 0, 1) := by decide +kernel
theorem dL_law_695 : decode cL_law 695 = .ok (.iload_n 3, 1) := by decide +kernel
theorem dL_law_696 : decode cL_law 696 = .ok (.iconst 3, 1) := by decide +kernel
theorem dL_law_697 : decode cL_law 697 = .ok (.iadd, 1) := by decide +kernel
theorem dL_law_698 : decode cL_law 698 = .ok (.iaload, 1) := by decide +kernel
theorem dL_law_699 : decode cL_law 699 = .ok (.invokevirtual 71, 3) := by decide +kernel
theorem dL_law_702 : decode cL_law 702 = .ok (.if_icmp .eq 1200, 3) := by decide +kernel
theorem dL_law_705 : decode cL_law 705 = .ok (.iconst 0, 1) := by decide +kernel
theorem dL_law_706 : decode cL_law 706 = .ok (.ireturn, 1) := by decide +kernel
theorem dL_law_707 : decode cL_law 707 = .ok (.aload_n 1, 1) := by decide +kernel
theorem dL_law_708 : decode cL_law 708 = .ok (.aload_n 0, 1) := by decide +kernel
theorem dL_law_709 : decode cL_law 709 = .ok (.iload_n 3, 1) := by decide +kernel
theorem dL_law_710 : decode cL_law 710 = .ok (.iconst 1, 1) := by decide +kernel
theorem dL_law_711 : decode cL_law 711 = .ok (.iadd, 1) := by decide +kernel
theorem dL_law_712 : decode cL_law 712 = .ok (.iaload, 1) := by decide +kernel
theorem dL_law_713 : decode cL_law 713 = .ok (.aload_n 0, 1) := by decide +kernel
theorem dL_law_714 : decode cL_law 714 = .ok (.iload_n 3, 1) := by decide +kernel
theorem dL_law_715 : decode cL_law 715 = .ok (.iconst 2, 1) := by decide +kernel
theorem dL_law_716 : decode cL_law 716 = .ok (.iadd, 1) := by decide +kernel
theorem dL_law_717 : decode cL_law 717 = .ok (.iaload, 1) := by decide +kernel
theorem dL_law_718 : decode cL_law 718 = .ok (.aload_n 0, 1) := by decide +kernel
theorem dL_law_719 : decode cL_law 719 = .ok (.iload_n 3, 1) := by decide +kernel
theorem dL_law_720 : decode cL_law 720 = .ok (.iconst 3, 1) := by decide +kernel
theorem dL_law_721 : decode cL_law 721 = .ok (.iadd, 1) := by decide +kernel
theorem dL_law_722 : decode cL_law 722 = .ok (.iaload, 1) := by decide +kernel
theorem dL_law_723 : decode cL_law 723 = .ok (.invokevirtual 72, 3) := by decide +kernel
theorem dL_law_726 : decode cL_law 726 = .ok (.aload_n 2, 1) := by decide +kernel
theorem dL_law_727 : decode cL_law 727 = .ok (.aload_n 0, 1) := by decide +kernel
theorem dL_law_728 : decode cL_law 728 = .ok (.iload_n 3, 1) := by decide +kernel
theorem dL_law_729 : decode cL_law 729 = .ok (.iconst 1, 1) := by decide +kernel
theorem dL_law_730 : decode cL_law 730 = .ok (.iadd, 1) := by decide +kernel
theorem dL_law_731 : decode cL_law 731 = .ok (.iaload, 1) := by decide +kernel
theorem dL_law_732 : decode cL_law 732 = .ok (.aload_n 0, 1) := by decide +kernel
theorem dL_law_733 : decode cL_law 733 = .ok (.iload_n 3, 1) := by decide +kernel
theorem dL_law_734 : decode cL_law 734 = .ok (.iconst 2, 1) := by decide +kernel
theorem dL_law_735 : decode cL_law 735 = .ok (.iadd, 1) := by decide +kernel
theorem dL_law_736 : decode cL_law 736 = .ok (.iaload, 1) := by decide +kernel
theorem dL_law_737 : decode cL_law 737 = .ok (.aload_n 0, 1) := by decide +kernel
theorem dL_law_738 : decode cL_law 738 = .ok (.iload_n 3, 1) := by decide +kernel
theorem dL_law_739 : decode cL_law 739 = .ok (.iconst 3, 1) := by decide +kernel
theorem dL_law_740 : decode cL_law 740 = .ok (.iadd, 1) := by decide +kernel
theorem dL_law_741 : decode cL_law 741 = .ok (.iaload, 1) := by decide +kernel
theorem dL_law_742 : decode cL_law 742 = .ok (.invokevirtual 75, 3) := by decide +kernel
theorem dL_law_745 : decode cL_law 745 = .ok (.if_icmp .eq 1157, 3) := by decide +kernel
theorem dL_law_748 : decode cL_law 748 = .ok (.iconst 0, 1) := by decide +kernel
theorem dL_law_749 : decode cL_law 749 = .ok (.ireturn, 1) := by decide +kernel
theorem dL_law_750 : decode cL_law 750 = .ok (.aload_n 1, 1) := by decide +kernel
theorem dL_law_751 : decode cL_law 751 = .ok (.aload_n 0, 1) := by decide +kernel
theorem dL_law_752 : decode cL_law 752 = .ok (.iload_n 3, 1) := by decide +kernel
theorem dL_law_753 : decode cL_law 753 = .ok (.iconst 1, 1) := by decide +kernel
theorem dL_law_754 : decode cL_law 754 = .ok (.iadd, 1) := by decide +kernel
theorem dL_law_755 : decode cL_law 755 = .ok (.iaload, 1) := by decide +kernel
theorem dL_law_756 : decode cL_law 756 = .ok (.aload_n 0, 1) := by decide +kernel
theorem dL_law_757 : decode cL_law 757 = .ok (.iload_n 3, 1) := by decide +kernel
theorem dL_law_758 : decode cL_law 758 = .ok (.iconst 2, 1) := by decide +kernel
theorem dL_law_759 : decode cL_law 759 = .ok (.iadd, 1) := by decide +kernel
theorem dL_law_760 : decode cL_law 760 = .ok (.iaload, 1) := by decide +kernel
theorem dL_law_761 : decode cL_law 761 = .ok (.aload_n 0, 1) := by decide +kernel
theorem dL_law_762 : decode cL_law 762 = .ok (.iload_n 3, 1) := by decide +kernel
theorem dL_law_763 : decode cL_law 763 = .ok (.iconst 3, 1) := by decide +kernel
theorem dL_law_764 : decode cL_law 764 = .ok (.iadd, 1) := by decide +kernel
theorem dL_law_765 : decode cL_law 765 = .ok (.iaload, 1) := by decide +kernel
theorem dL_law_766 : decode cL_law 766 = .ok (.invokevirtual 76, 3) := by decide +kernel
theorem dL_law_769 : decode cL_law 769 = .ok (.aload_n 2, 1) := by decide +kernel
theorem dL_law_770 : decode cL_law 770 = .ok (.aload_n 0, 1) := by decide +kernel
theorem dL_law_771 : decode cL_law 771 = .ok (.iload_n 3, 1) := by decide +kernel
theorem dL_law_772 : decode cL_law 772 = .ok (.iconst 1, 1) := by decide +kernel
theorem dL_law_773 : decode cL_law 773 = .ok (.iadd, 1) := by decide +kernel
theorem dL_law_774 : decode cL_law 774 = .ok (.iaload, 1) := by decide +kernel
theorem dL_law_775 : decode cL_law 775 = .ok (.aload_n 0, 1) := by decide +kernel
theorem dL_law_776 : decode cL_law 776 = .ok (.iload_n 3, 1) := by decide +kernel
theorem dL_law_777 : decode cL_law 777 = .ok (.iconst 2, 1) := by decide +kernel
theorem dL_law_778 : decode cL_law 778 = .ok (.iadd, 1) := by decide +kernel
theorem dL_law_779 : decode cL_law 779 = .ok (.iaload, 1) := by decide +kernel
theorem dL_law_780 : decode cL_law 780 = .ok (.aload_n 0, 1) := by decide +kernel
theorem dL_law_781 : decode cL_law 781 = .ok (.iload_n 3, 1) := by decide +kernel
theorem dL_law_782 : decode cL_law 782 = .ok (.iconst 3, 1) := by decide +kernel
theorem dL_law_783 : decode cL_law 783 = .ok (.iadd, 1) := by decide +kernel
theorem dL_law_784 : decode cL_law 784 = .ok (.iaload, 1) := by decide +kernel
theorem dL_law_785 : decode cL_law 785 = .ok (.invokevirtual 79, 3) := by decide +kernel
theorem dL_law_788 : decode cL_law 788 = .ok (.if_icmp .eq 1114, 3) := by decide +kernel
theorem dL_law_791 : decode cL_law 791 = .ok (.iconst 0, 1) := by decide +kernel
theorem dL_law_792 : decode cL_law 792 = .ok (.ireturn, 1) := by decide +kernel
theorem dL_law_793 : decode cL_law 793 = .ok (.aload_n 1, 1) := by decide +kernel
theorem dL_law_794 : decode cL_law 794 = .ok (.aload_n 0, 1) := by decide +kernel
theorem dL_law_795 : decode cL_law 795 = .ok (.iload_n 3, 1) := by decide +kernel
theorem dL_law_796 : decode cL_law 796 = .ok (.iconst 1, 1) := by decide +kernel
theorem dL_law_797 : decode cL_law 797 = .ok (.iadd, 1) := by decide +kernel
theorem dL_law_798 : decode cL_law 798 = .ok (.iaload, 1) := by decide +kernel
theorem dL_law_799 : decode cL_law 799 = .ok (.aload_n 0, 1) := by decide +kernel
theorem dL_law_800 : decode cL_law 800 = .ok (.iload_n 3, 1) := by decide +kernel
theorem dL_law_801 : decode cL_law 801 = .ok (.iconst 2, 1) := by decide +kernel
theorem dL_law_802 : decode cL_law 802 = .ok (.iadd, 1) := by decide +kernel
theorem dL_law_803 : decode cL_law 803 = .ok (.iaload, 1) := by decide +kernel
theorem dL_law_804 : decode cL_law 804 = .ok (.invokevirtual 80, 3) := by decide +kernel
theorem dL_law_807 : decode cL_law 807 = .ok (.aload_n 2, 1) := by decide +kernel
theorem dL_law_808 : decode cL_law 808 = .ok (.aload_n 0, 1) := by decide +kernel
theorem dL_law_809 : decode cL_law 809 = .ok (.iload_n 3, 1) := by decide +kernel
theorem dL_law_810 : decode cL_law 810 = .ok (.iconst 1, 1) := by decide +kernel
theorem dL_law_811 : decode cL_law 811 = .ok (.iadd, 1) := by decide +kernel
theorem dL_law_812 : decode cL_law 812 = .ok (.iaload, 1) := by decide +kernel
theorem dL_law_813 : decode cL_law 813 = .ok (.aload_n 0, 1) := by decide +kernel
theorem dL_law_814 : decode cL_law 814 = .ok (.iload_n 3, 1) := by decide +kernel
theorem dL_law_815 : decode cL_law 815 = .ok (.iconst 2, 1) := by decide +kernel
theorem dL_law_816 : decode cL_law 816 = .ok (.iadd, 1) := by decide +kernel
theorem dL_law_817 : decode cL_law 817 = .ok (.iaload, 1) := by decide +kernel
theorem dL_law_818 : decode cL_law 818 = .ok (.invokevirtual 83, 3) := by decide +kernel
theorem dL_law_821 : decode cL_law 821 = .ok (.if_icmp .eq 1081, 3) := by decide +kernel
theorem dL_law_824 : decode cL_law 824 = .ok (.iconst 0, 1) := by decide +kernel
theorem dL_law_825 : decode cL_law 825 = .ok (.ireturn, 1) := by decide +kernel
theorem dL_law_826 : decode cL_law 826 = .ok (.aload_n 1, 1) := by decide +kernel
theorem dL_law_827 : decode cL_law 827 = .ok (.aload_n 0, 1) := by decide +kernel
theorem dL_law_828 : decode cL_law 828 = .ok (.iload_n 3, 1) := by decide +kernel
theorem dL_law_829 : decode cL_law 829 = .ok (.iconst 1, 1) := by decide +kernel
theorem dL_law_830 : decode cL_law 830 = .ok (.iadd, 1) := by decide +kernel
theorem dL_law_831 : decode cL_law 831 = .ok (.iaload, 1) := by decide +kernel
theorem dL_law_832 : decode cL_law 832 = .ok (.aload_n 0, 1) := by decide +kernel
theorem dL_law_833 : decode cL_law 833 = .ok (.iload_n 3, 1) := by decide +kernel
theorem dL_law_834 : decode cL_law 834 = .ok (.iconst 2, 1) := by decide +kernel
theorem dL_law_835 : decode cL_law 835 = .ok (.iadd, 1) := by decide +kernel
theorem dL_law_836 : decode cL_law 836 = .ok (.iaload, 1) := by decide +kernel
theorem dL_law_837 : decode cL_law 837 = .ok (.aload_n 0, 1) := by decide +kernel
theorem dL_law_838 : decode cL_law 838 = .ok (.iload_n 3, 1) := by decide +kernel
theorem dL_law_839 : decode cL_law 839 = .ok (.iconst 3, 1) := by decide +kernel
theorem dL_law_840 : decode cL_law 840 = .ok (.iadd, 1) := by decide +kernel
theorem dL_law_841 : decode cL_law 841 = .ok (.iaload, 1) := by decide +kernel
theorem dL_law_842 : decode cL_law 842 = .ok (.invokevirtual 84, 3) := by decide +kernel
theorem dL_law_845 : decode cL_law 845 = .ok (.aload_n 2, 1) := by decide +kernel
theorem dL_law_846 : decode cL_law 846 = .ok (.aload_n 0, 1) := by decide +kernel
theorem dL_law_847 : decode cL_law 847 = .ok (.iload_n 3, 1) := by decide +kernel
theorem dL_law_848 : decode cL_law 848 = .ok (.iconst 1, 1) := by decide +kernel
theorem dL_law_849 : decode cL_law 849 = .ok (.iadd, 1) := by decide +kernel
theorem dL_law_850 : decode cL_law 850 = .ok (.iaload, 1) := by decide +kernel
theorem dL_law_851 : decode cL_law 851 = .ok (.aload_n 0, 1) := by decide +kernel
theorem dL_law_852 : decode cL_law 852 = .ok (.iload_n 3, 1) := by decide +kernel
theorem dL_law_853 : decode cL_law 853 = .ok (.iconst 2, 1) := by decide +kernel
theorem dL_law_854 : decode cL_law 854 = .ok (.iadd, 1) := by decide +kernel
theorem dL_law_855 : decode cL_law 855 = .ok (.iaload, 1) := by decide +kernel
theorem dL_law_856 : decode cL_law 856 = .ok (.aload_n 0, 1) := by decide +kernel
theorem dL_law_857 : decode cL_law 857 = .ok (.iload_n 3, 1) := by decide +kernel
theorem dL_law_858 : decode cL_law 858 = .ok (.iconst 3, 1) := by decide +kernel
theorem dL_law_859 : decode cL_law 859 = .ok (.iadd, 1) := by decide +kernel
theorem dL_law_860 : decode cL_law 860 = .ok (.iaload, 1) := by decide +kernel
theorem dL_law_861 : decode cL_law 861 = .ok (.invokevirtual 87, 3) := by decide +kernel
theorem dL_law_864 : decode cL_law 864 = .ok (.if_icmp .eq 1038, 3) := by decide +kernel
theorem dL_law_867 : decode cL_law 867 = .ok (.iconst 0, 1) := by decide +kernel
theorem dL_law_868 : decode cL_law 868 = .ok (.ireturn, 1) := by decide +kernel
theorem dL_law_869 : decode cL_law 869 = .ok (.aload_n 1, 1) := by decide +kernel
theorem dL_law_870 : decode cL_law 870 = .ok (.aload_n 0, 1) := by decide +kernel
theorem dL_law_871 : decode cL_law 871 = .ok (.iload_n 3, 1) := by decide +kernel
theorem dL_law_872 : decode cL_law 872 = .ok (.iconst 1, 1) := by decide +kernel
theorem dL_law_873 : decode cL_law 873 = .ok (.iadd, 1) := by decide +kernel
theorem dL_law_874 : decode cL_law 874 = .ok (.iaload, 1) := by decide +kernel
theorem dL_law_875 : decode cL_law 875 = .ok (.invokevirtual 88, 3) := by decide +kernel
theorem dL_law_878 : decode cL_law 878 = .ok (.aload_n 2, 1) := by decide +kernel
theorem dL_law_879 : decode cL_law 879 = .ok (.aload_n 0, 1) := by decide +kernel
theorem dL_law_880 : decode cL_law 880 = .ok (.iload_n 3, 1) := by decide +kernel
theorem dL_law_881 : decode cL_law 881 = .ok (.iconst 1, 1) := by decide +kernel
theorem dL_law_882 : decode cL_law 882 = .ok (.iadd, 1) := by decide +kernel
theorem dL_law_883 : decode cL_law 883 = .ok (.iaload, 1) := by decide +kernel
theorem dL_law_884 : decode cL_law 884 = .ok (.invokevirtual 91, 3) := by decide +kernel
theorem dL_law_887 : decode cL_law 887 = .ok (.if_icmp .eq 1015, 3) := by decide +kernel
theorem dL_law_890 : decode cL_law 890 = .ok (.iconst 0, 1) := by decide +kernel
theorem dL_law_891 : decode cL_law 891 = .ok (.ireturn, 1) := by decide +kernel
theorem dL_law_892 : decode cL_law 892 = .ok (.aload_n 1, 1) := by decide +kernel
theorem dL_law_893 : decode cL_law 893 = .ok (.aload_n 0, 1) := by decide +kernel
theorem dL_law_894 : decode cL_law 894 = .ok (.iload_n 3, 1) := by decide +kernel
theorem dL_law_895 : decode cL_law 895 = .ok (.iconst 1, 1) := by decide +kernel
theorem dL_law_896 : decode cL_law 896 = .ok (.iadd, 1) := by decide +kernel
theorem dL_law_897 : decode cL_law 897 = .ok (.iaload, 1) := by decide +kernel
theorem dL_law_898 : decode cL_law 898 = .ok (.aload_n 0, 1) := by decide +kernel
theorem dL_law_899 : decode cL_law 899 = .ok (.iload_n 3, 1) := by decide +kernel
theorem dL_law_900 : decode cL_law 900 = .ok (.iconst 2, 1) := by decide +kernel
theorem dL_law_901 : decode cL_law 901 = .ok (.iadd, 1) := by decide +kernel
theorem dL_law_902 : decode cL_law 902 = .ok (.iaload, 1) := by decide +kernel
theorem dL_law_903 : decode cL_law 903 = .ok (.invokevirtual 92, 3) := by decide +kernel
theorem dL_law_906 : decode cL_law 906 = .ok (.aload_n 2, 1) := by decide +kernel
theorem dL_law_907 : decode cL_law 907 = .ok (.aload_n 0, 1) := by decide +kernel
theorem dL_law_908 : decode cL_law 908 = .ok (.iload_n 3, 1) := by decide +kernel
theorem dL_law_909 : decode cL_law 909 = .ok (.iconst 1, 1) := by decide +kernel
theorem dL_law_910 : decode cL_law 910 = .ok (.iadd, 1) := by decide +kernel
theorem dL_law_911 : decode cL_law 911 = .ok (.iaload, 1) := by decide +kernel
theorem dL_law_912 : decode cL_law 912 = .ok (.aload_n 0, 1) := by decide +kernel
theorem dL_law_913 : decode cL_law 913 = .ok (.iload_n 3, 1) := by decide +kernel
theorem dL_law_914 : decode cL_law 914 = .ok (.iconst 2, 1) := by decide +kernel
theorem dL_law_915 : decode cL_law 915 = .ok (.iadd, 1) := by decide +kernel
theorem dL_law_916 : decode cL_law 916 = .ok (.iaload, 1) := by decide +kernel
theorem dL_law_917 : decode cL_law 917 = .ok (.invokevirtual 95, 3) := by decide +kernel
theorem dL_law_920 : decode cL_law 920 = .ok (.if_icmp .eq 982, 3) := by decide +kernel
theorem dL_law_923 : decode cL_law 923 = .ok (.iconst 0, 1) := by decide +kernel
theorem dL_law_924 : decode cL_law 924 = .ok (.ireturn, 1) := by decide +kernel
theorem dL_law_925 : decode cL_law 925 = .ok (.aload_n 1, 1) := by decide +kernel
theorem dL_law_926 : decode cL_law 926 = .ok (.aload_n 0, 1) := by decide +kernel
theorem dL_law_927 : decode cL_law 927 = .ok (.iload_n 3, 1) := by decide +kernel
theorem dL_law_928 : decode cL_law 928 = .ok (.iconst 1, 1) := by decide +kernel
theorem dL_law_929 : decode cL_law 929 = .ok (.iadd, 1) := by decide +kernel
theorem dL_law_930 : decode cL_law 930 = .ok (.iaload, 1) := by decide +kernel
theorem dL_law_931 : decode cL_law 931 = .ok (.aload_n 0, 1) := by decide +kernel
theorem dL_law_932 : decode cL_law 932 = .ok (.iload_n 3, 1) := by decide +kernel
theorem dL_law_933 : decode cL_law 933 = .ok (.iconst 2, 1) := by decide +kernel
theorem dL_law_934 : decode cL_law 934 = .ok (.iadd, 1) := by decide +kernel
theorem dL_law_935 : decode cL_law 935 = .ok (.iaload, 1) := by decide +kernel
theorem dL_law_936 : decode cL_law 936 = .ok (.invokevirtual 96, 3) := by decide +kernel
theorem dL_law_939 : decode cL_law 939 = .ok (.aload_n 2, 1) := by decide +kernel
theorem dL_law_940 : decode cL_law 940 = .ok (.aload_n 0, 1) := by decide +kernel
theorem dL_law_941 : decode cL_law 941 = .ok (.iload_n 3, 1) := by decide +kernel
theorem dL_law_942 : decode cL_law 942 = .ok (.iconst 1, 1) := by decide +kernel
theorem dL_law_943 : decode cL_law 943 = .ok (.iadd, 1) := by decide +kernel
theorem dL_law_944 : decode cL_law 944 = .ok (.iaload, 1) := by decide +kernel
theorem dL_law_945 : decode cL_law 945 = .ok (.aload_n 0, 1) := by decide +kernel
theorem dL_law_946 : decode cL_law 946 = .ok (.iload_n 3, 1) := by decide +kernel
theorem dL_law_947 : decode cL_law 947 = .ok (.iconst 2, 1) := by decide +kernel
theorem dL_law_948 : decode cL_law 948 = .ok (.iadd, 1) := by decide +kernel
theorem dL_law_949 : decode cL_law 949 = .ok (.iaload, 1) := by decide +kernel
theorem dL_law_950 : decode cL_law 950 = .ok (.invokevirtual 99, 3) := by decide +kernel
theorem dL_law_953 : decode cL_law 953 = .ok (.if_icmp .eq 949, 3) := by decide +kernel
theorem dL_law_956 : decode cL_law 956 = .ok (.iconst 0, 1) := by decide +kernel
theorem dL_law_957 : decode cL_law 957 = .ok (.ireturn, 1) := by decide +kernel
theorem dL_law_958 : decode cL_law 958 = .ok (.aload_n 1, 1) := by decide +kernel
theorem dL_law_959 : decode cL_law 959 = .ok (.aload_n 0, 1) := by decide +kernel
theorem dL_law_960 : decode cL_law 960 = .ok (.iload_n 3, 1) := by decide +kernel
theorem dL_law_961 : decode cL_law 961 = .ok (.iconst 1, 1) := by decide +kernel
theorem dL_law_962 : decode cL_law 962 = .ok (.iadd, 1) := by decide +kernel
theorem dL_law_963 : decode cL_law 963 = .ok (.iaload, 1) := by decide +kernel
theorem dL_law_964 : decode cL_law 964 = .ok (.invokevirtual 100, 3) := by decide +kernel
theorem dL_law_967 : decode cL_law 967 = .ok (.aload_n 2, 1) := by decide +kernel
theorem dL_law_968 : decode cL_law 968 = .ok (.aload_n 0, 1) := by decide +kernel
theorem dL_law_969 : decode cL_law 969 = .ok (.iload_n 3, 1) := by decide +kernel
theorem dL_law_970 : decode cL_law 970 = .ok (.iconst 1, 1) := by decide +kernel
theorem dL_law_971 : decode cL_law 971 = .ok (.iadd, 1) := by decide +kernel
theorem dL_law_972 : decode cL_law 972 = .ok (.iaload, 1) := by decide +kernel
theorem dL_law_973 : decode cL_law 973 = .ok (.invokevirtual 103, 3) := by decide +kernel
theorem dL_law_976 : decode cL_law 976 = .ok (.if_icmp .eq 926, 3) := by decide +kernel
theorem dL_law_979 : decode cL_law 979 = .ok (.iconst 0, 1) := by decide +kernel
theorem dL_law_980 : decode cL_law 980 = .ok (.ireturn, 1) := by decide +kernel
theorem dL_law_981 : decode cL_law 981 = .ok (.aload_n 1, 1) := by decide +kernel
theorem dL_law_982 : decode cL_law 982 = .ok (.aload_n 0, 1) := by decide +kernel
theorem dL_law_983 : decode cL_law 983 = .ok (.iload_n 3, 1) := by decide +kernel
theorem dL_law_984 : decode cL_law 984 = .ok (.iconst 1, 1) := by decide +kernel
theorem dL_law_985 : decode cL_law 985 = .ok (.iadd, 1) := by decide +kernel
theorem dL_law_986 : decode cL_law 986 = .ok (.iaload, 1) := by decide +kernel
theorem dL_law_987 : decode cL_law 987 = .ok (.invokevirtual 104, 3) := by decide +kernel
theorem dL_law_990 : decode cL_law 990 = .ok (.aload_n 2, 1) := by decide +kernel
theorem dL_law_991 : decode cL_law 991 = .ok (.aload_n 0, 1) := by decide +kernel
theorem dL_law_992 : decode cL_law 992 = .ok (.iload_n 3, 1) := by decide +kernel
theorem dL_law_993 : decode cL_law 993 = .ok (.iconst 1, 1) := by decide +kernel
theorem dL_law_994 : decode cL_law 994 = .ok (.iadd, 1) := by decide +kernel
theorem dL_law_995 : decode cL_law 995 = .ok (.iaload, 1) := by decide +kernel
theorem dL_law_996 : decode cL_law 996 = .ok (.invokevirtual 107, 3) := by decide +kernel
theorem dL_law_999 : decode cL_law 999 = .ok (.if_icmp .eq 903, 3) := by decide +kernel
theorem dL_law_1002 : decode cL_law 1002 = .ok (.iconst 0, 1) := by decide +kernel
theorem dL_law_1003 : decode cL_law 1003 = .ok (.ireturn, 1) := by decide +kernel
theorem dL_law_1004 : decode cL_law 1004 = .ok (.aload_n 1, 1) := by decide +kernel
theorem dL_law_1005 : decode cL_law 1005 = .ok (.aload_n 0, 1) := by decide +kernel
theorem dL_law_1006 : decode cL_law 1006 = .ok (.iload_n 3, 1) := by decide +kernel
theorem dL_law_1007 : decode cL_law 1007 = .ok (.iconst 1, 1) := by decide +kernel
theorem dL_law_1008 : decode cL_law 1008 = .ok (.iadd, 1) := by decide +kernel
theorem dL_law_1009 : decode cL_law 1009 = .ok (.iaload, 1) := by decide +kernel
theorem dL_law_1010 : decode cL_law 1010 = .ok (.aload_n 0, 1) := by decide +kernel
theorem dL_law_1011 : decode cL_law 1011 = .ok (.iload_n 3, 1) := by decide +kernel
theorem dL_law_1012 : decode cL_law 1012 = .ok (.iconst 2, 1) := by decide +kernel
theorem dL_law_1013 : decode cL_law 1013 = .ok (.iadd, 1) := by decide +kernel
theorem dL_law_1014 : decode cL_law 1014 = .ok (.iaload, 1) := by decide +kernel
theorem dL_law_1015 : decode cL_law 1015 = .ok (.invokevirtual 108, 3) := by decide +kernel
theorem dL_law_1018 : decode cL_law 1018 = .ok (.aload_n 2, 1) := by decide +kernel
theorem dL_law_1019 : decode cL_law 1019 = .ok (.aload_n 0, 1) := by decide +kernel
theorem dL_law_1020 : decode cL_law 1020 = .ok (.iload_n 3, 1) := by decide +kernel
theorem dL_law_1021 : decode cL_law 1021 = .ok (.iconst 1, 1) := by decide +kernel
theorem dL_law_1022 : decode cL_law 1022 = .ok (.iadd, 1) := by decide +kernel
theorem dL_law_1023 : decode cL_law 1023 = .ok (.iaload, 1) := by decide +kernel
theorem dL_law_1024 : decode cL_law 1024 = .ok (.aload_n 0, 1) := by decide +kernel
theorem dL_law_1025 : decode cL_law 1025 = .ok (.iload_n 3, 1) := by decide +kernel
theorem dL_law_1026 : decode cL_law 1026 = .ok (.iconst 2, 1) := by decide +kernel
theorem dL_law_1027 : decode cL_law 1027 = .ok (.iadd, 1) := by decide +kernel
theorem dL_law_1028 : decode cL_law 1028 = .ok (.iaload, 1) := by decide +kernel
theorem dL_law_1029 : decode cL_law 1029 = .ok (.invokevirtual 111, 3) := by decide +kernel
theorem dL_law_1032 : decode cL_law 1032 = .ok (.if_icmp .eq 870, 3) := by decide +kernel
theorem dL_law_1035 : decode cL_law 1035 = .ok (.iconst 0, 1) := by decide +kernel
theorem dL_law_1036 : decode cL_law 1036 = .ok (.ireturn, 1) := by decide +kernel
theorem dL_law_1037 : decode cL_law 1037 = .ok (.aload_n 1, 1) := by decide +kernel
theorem dL_law_1038 : decode cL_law 1038 = .ok (.aload_n 0, 1) := by decide +kernel
theorem dL_law_1039 : decode cL_law 1039 = .ok (.iload_n 3, 1) := by decide +kernel
theorem dL_law_1040 : decode cL_law 1040 = .ok (.iconst 1, 1) := by decide +kernel
theorem dL_law_1041 : decode cL_law 1041 = .ok (.iadd, 1) := by decide +kernel
theorem dL_law_1042 : decode cL_law 1042 = .ok (.iaload, 1) := by decide +kernel
theorem dL_law_1043 : decode cL_law 1043 = .ok (.invokevirtual 112, 3) := by decide +kernel
theorem dL_law_1046 : decode cL_law 1046 = .ok (.aload_n 2, 1) := by decide +kernel
theorem dL_law_1047 : decode cL_law 1047 = .ok (.aload_n 0, 1) := by decide +kernel
theorem dL_law_1048 : decode cL_law 1048 = .ok (.iload_n 3, 1) := by decide +kernel
theorem dL_law_1049 : decode cL_law 1049 = .ok (.iconst 1, 1) := by decide +kernel
theorem dL_law_1050 : decode cL_law 1050 = .ok (.iadd, 1) := by decide +kernel
theorem dL_law_1051 : decode cL_law 1051 = .ok (.iaload, 1) := by decide +kernel
theorem dL_law_1052 : decode cL_law 1052 = .ok (.invokevirtual 115, 3) := by decide +kernel
theorem dL_law_1055 : decode cL_law 1055 = .ok (.if_icmp .eq 847, 3) := by decide +kernel
theorem dL_law_1058 : decode cL_law 1058 = .ok (.iconst 0, 1) := by decide +kernel
theorem dL_law_1059 : decode cL_law 1059 = .ok (.ireturn, 1) := by decide +kernel
theorem dL_law_1060 : decode cL_law 1060 = .ok (.aload_n 1, 1) := by decide +kernel
theorem dL_law_1061 : decode cL_law 1061 = .ok (.aload_n 0, 1) := by decide +kernel
theorem dL_law_1062 : decode cL_law 1062 = .ok (.iload_n 3, 1) := by decide +kernel
theorem dL_law_1063 : decode cL_law 1063 = .ok (.iconst 1, 1) := by decide +kernel
theorem dL_law_1064 : decode cL_law 1064 = .ok (.iadd, 1) := by decide +kernel
theorem dL_law_1065 : decode cL_law 1065 = .ok (.iaload, 1) := by decide +kernel
theorem dL_law_1066 : decode cL_law 1066 = .ok (.aload_n 0, 1) := by decide +kernel
theorem dL_law_1067 : decode cL_law 1067 = .ok (.iload_n 3, 1) := by decide +kernel
theorem dL_law_1068 : decode cL_law 1068 = .ok (.iconst 2, 1) := by decide +kernel
theorem dL_law_1069 : decode cL_law 1069 = .ok (.iadd, 1) := by decide +kernel
theorem dL_law_1070 : decode cL_law 1070 = .ok (.iaload, 1) := by decide +kernel
theorem dL_law_1071 : decode cL_law 1071 = .ok (.invokevirtual 116, 3) := by decide +kernel
theorem dL_law_1074 : decode cL_law 1074 = .ok (.aload_n 2, 1) := by decide +kernel
theorem dL_law_1075 : decode cL_law 1075 = .ok (.aload_n 0, 1) := by decide +kernel
theorem dL_law_1076 : decode cL_law 1076 = .ok (.iload_n 3, 1) := by decide +kernel
theorem dL_law_1077 : decode cL_law 1077 = .ok (.iconst 1, 1) := by decide +kernel
theorem dL_law_1078 : decode cL_law 1078 = .ok (.iadd, 1) := by decide +kernel
theorem dL_law_1079 : decode cL_law 1079 = .ok (.iaload, 1) := by decide +kernel
theorem dL_law_1080 : decode cL_law 1080 = .ok (.aload_n 0, 1) := by decide +kernel
theorem dL_law_1081 : decode cL_law 1081 = .ok (.iload_n 3, 1) := by decide +kernel
theorem dL_law_1082 : decode cL_law 1082 = .ok (.iconst 2, 1) := by decide +kernel
theorem dL_law_1083 : decode cL_law 1083 = .ok (.iadd, 1) := by decide +kernel
theorem dL_law_1084 : decode cL_law 1084 = .ok (.iaload, 1) := by decide +kernel
theorem dL_law_1085 : decode cL_law 1085 = .ok (.invokevirtual 119, 3) := by decide +kernel
theorem dL_law_1088 : decode cL_law 1088 = .ok (.if_icmp .eq 814, 3) := by decide +kernel
theorem dL_law_1091 : decode cL_law 1091 = .ok (.iconst 0, 1) := by decide +kernel
theorem dL_law_1092 : decode cL_law 1092 = .ok (.ireturn, 1) := by decide +kernel
theorem dL_law_1093 : decode cL_law 1093 = .ok (.aload_n 1, 1) := by decide +kernel
theorem dL_law_1094 : decode cL_law 1094 = .ok (.aload_n 0, 1) := by decide +kernel
theorem dL_law_1095 : decode cL_law 1095 = .ok (.iload_n 3, 1) := by decide +kernel
theorem dL_law_1096 : decode cL_law 1096 = .ok (.iconst 1, 1) := by decide +kernel
theorem dL_law_1097 : decode cL_law 1097 = .ok (.iadd, 1) := by decide +kernel
theorem dL_law_1098 : decode cL_law 1098 = .ok (.iaload, 1) := by decide +kernel
theorem dL_law_1099 : decode cL_law 1099 = .ok (.aload_n 0, 1) := by decide +kernel
theorem dL_law_1100 : decode cL_law 1100 = .ok (.iload_n 3, 1) := by decide +kernel
theorem dL_law_1101 : decode cL_law 1101 = .ok (.iconst 2, 1) := by decide +kernel
theorem dL_law_1102 : decode cL_law 1102 = .ok (.iadd, 1) := by decide +kernel
theorem dL_law_1103 : decode cL_law 1103 = .ok (.iaload, 1) := by decide +kernel
theorem dL_law_1104 : decode cL_law 1104 = .ok (.invokevirtual 120, 3) := by decide +kernel
theorem dL_law_1107 : decode cL_law 1107 = .ok (.aload_n 2, 1) := by decide +kernel
theorem dL_law_1108 : decode cL_law 1108 = .ok (.aload_n 0, 1) := by decide +kernel
theorem dL_law_1109 : decode cL_law 1109 = .ok (.iload_n 3, 1) := by decide +kernel
theorem dL_law_1110 : decode cL_law 1110 = .ok (.iconst 1, 1) := by decide +kernel
theorem dL_law_1111 : decode cL_law 1111 = .ok (.iadd, 1) := by decide +kernel
theorem dL_law_1112 : decode cL_law 1112 = .ok (.iaload, 1) := by decide +kernel
theorem dL_law_1113 : decode cL_law 1113 = .ok (.aload_n 0, 1) := by decide +kernel
theorem dL_law_1114 : decode cL_law 1114 = .ok (.iload_n 3, 1) := by decide +kernel
theorem dL_law_1115 : decode cL_law 1115 = .ok (.iconst 2, 1) := by decide +kernel
theorem dL_law_1116 : decode cL_law 1116 = .ok (.iadd, 1) := by decide +kernel
theorem dL_law_1117 : decode cL_law 1117 = .ok (.iaload, 1) := by decide +kernel
theorem dL_law_1118 : decode cL_law 1118 = .ok (.invokevirtual 123, 3) := by decide +kernel
theorem dL_law_1121 : decode cL_law 1121 = .ok (.if_icmp .eq 781, 3) := by decide +kernel
theorem dL_law_1124 : decode cL_law 1124 = .ok (.iconst 0, 1) := by decide +kernel
theorem dL_law_1125 : decode cL_law 1125 = .ok (.ireturn, 1) := by decide +kernel
theorem dL_law_1126 : decode cL_law 1126 = .ok (.aload_n 1, 1) := by decide +kernel
theorem dL_law_1127 : decode cL_law 1127 = .ok (.aload_n 0, 1) := by decide +kernel
theorem dL_law_1128 : decode cL_law 1128 = .ok (.iload_n 3, 1) := by decide +kernel
theorem dL_law_1129 : decode cL_law 1129 = .ok (.iconst 1, 1) := by decide +kernel
theorem dL_law_1130 : decode cL_law 1130 = .ok (.iadd, 1) := by decide +kernel
theorem dL_law_1131 : decode cL_law 1131 = .ok (.iaload, 1) := by decide +kernel
theorem dL_law_1132 : decode cL_law 1132 = .ok (.invokevirtual 124, 3) := by decide +kernel
theorem dL_law_1135 : decode cL_law 1135 = .ok (.aload_n 2, 1) := by decide +kernel
theorem dL_law_1136 : decode cL_law 1136 = .ok (.aload_n 0, 1) := by decide +kernel
theorem dL_law_1137 : decode cL_law 1137 = .ok (.iload_n 3, 1) := by decide +kernel
theorem dL_law_1138 : decode cL_law 1138 = .ok (.iconst 1, 1) := by decide +kernel
theorem dL_law_1139 : decode cL_law 1139 = .ok (.iadd, 1) := by decide +kernel
theorem dL_law_1140 : decode cL_law 1140 = .ok (.iaload, 1) := by decide +kernel
theorem dL_law_1141 : decode cL_law 1141 = .ok (.invokevirtual 127, 3) := by decide +kernel
theorem dL_law_1144 : decode cL_law 1144 = .ok (.if_icmp .eq 758, 3) := by decide +kernel
theorem dL_law_1147 : decode cL_law 1147 = .ok (.iconst 0, 1) := by decide +kernel
theorem dL_law_1148 : decode cL_law 1148 = .ok (.ireturn, 1) := by decide +kernel
theorem dL_law_1149 : decode cL_law 1149 = .ok (.aload_n 1, 1) := by decide +kernel
theorem dL_law_1150 : decode cL_law 1150 = .ok (.aload_n 0, 1) := by decide +kernel
theorem dL_law_1151 : decode cL_law 1151 = .ok (.iload_n 3, 1) := by decide +kernel
theorem dL_law_1152 : decode cL_law 1152 = .ok (.iconst 1, 1) := by decide +kernel
theorem dL_law_1153 : decode cL_law 1153 = .ok (.iadd, 1) := by decide +kernel
theorem dL_law_1154 : decode cL_law 1154 = .ok (.iaload, 1) := by decide +kernel
theorem dL_law_1155 : decode cL_law 1155 = .ok (.invokevirtual 128, 3) := by decide +kernel
theorem dL_law_1158 : decode cL_law 1158 = .ok (.aload_n 2, 1) := by decide +kernel
theorem dL_law_1159 : decode cL_law 1159 = .ok (.aload_n 0, 1) := by decide +kernel
theorem dL_law_1160 : decode cL_law 1160 = .ok (.iload_n 3, 1) := by decide +kernel
theorem dL_law_1161 : decode cL_law 1161 = .ok (.iconst 1, 1) := by decide +kernel
theorem dL_law_1162 : decode cL_law 1162 = .ok (.iadd, 1) := by decide +kernel
theorem dL_law_1163 : decode cL_law 1163 = .ok (.iaload, 1) := by decide +kernel
theorem dL_law_1164 : decode cL_law 1164 = .ok (.invokevirtual 131, 3) := by decide +kernel
theorem dL_law_1167 : decode cL_law 1167 = .ok (.if_icmp .eq 735, 3) := by decide +kernel
theorem dL_law_1170 : decode cL_law 1170 = .ok (.iconst 0, 1) := by decide +kernel
theorem dL_law_1171 : decode cL_law 1171 = .ok (.ireturn, 1) := by decide +kernel
theorem dL_law_1172 : decode cL_law 1172 = .ok (.aload_n 1, 1) := by decide +kernel
theorem dL_law_1173 : decode cL_law 1173 = .ok (.aload_n 0, 1) := by decide +kernel
theorem dL_law_1174 : decode cL_law 1174 = .ok (.iload_n 3, 1) := by decide +kernel
theorem dL_law_1175 : decode cL_law 1175 = .ok (.iconst 1, 1) := by decide +kernel
theorem dL_law_1176 : decode cL_law 1176 = .ok (.iadd, 1) := by decide +kernel
theorem dL_law_1177 : decode cL_law 1177 = .ok (.iaload, 1) := by decide +kernel
theorem dL_law_1178 : decode cL_law 1178 = .ok (.invokevirtual 132, 3) := by decide +kernel
theorem dL_law_1181 : decode cL_law 1181 = .ok (.aload_n 2, 1) := by decide +kernel
theorem dL_law_1182 : decode cL_law 1182 = .ok (.aload_n 0, 1) := by decide +kernel
theorem dL_law_1183 : decode cL_law 1183 = .ok (.iload_n 3, 1) := by decide +kernel
theorem dL_law_1184 : decode cL_law 1184 = .ok (.iconst 1, 1) := by decide +kernel
theorem dL_law_1185 : decode cL_law 1185 = .ok (.iadd, 1) := by decide +kernel
theorem dL_law_1186 : decode cL_law 1186 = .ok (.iaload, 1) := by decide +kernel
theorem dL_law_1187 : decode cL_law 1187 = .ok (.invokevirtual 135, 3) := by decide +kernel
theorem dL_law_1190 : decode cL_law 1190 = .ok (.if_icmp .eq 712, 3) := by decide +kernel
theorem dL_law_1193 : decode cL_law 1193 = .ok (.iconst 0, 1) := by decide +kernel
theorem dL_law_1194 : decode cL_law 1194 = .ok (.ireturn, 1) := by decide +kernel
theorem dL_law_1195 : decode cL_law 1195 = .ok (.aload_n 1, 1) := by decide +kernel
theorem dL_law_1196 : decode cL_law 1196 = .ok (.aload_n 0, 1) := by decide +kernel
theorem dL_law_1197 : decode cL_law 1197 = .ok (.iload_n 3, 1) := by decide +kernel
theorem dL_law_1198 : decode cL_law 1198 = .ok (.iconst 1, 1) := by decide +kernel
theorem dL_law_1199 : decode cL_law 1199 = .ok (.iadd, 1) := by decide +kernel
theorem dL_law_1200 : decode cL_law 1200 = .ok (.iaload, 1) := by decide +kernel
theorem dL_law_1201 : decode cL_law 1201 = .ok (.invokevirtual 136, 3) := by decide +kernel
theorem dL_law_1204 : decode cL_law 1204 = .ok (.aload_n 2, 1) := by decide +kernel
theorem dL_law_1205 : decode cL_law 1205 = .ok (.aload_n 0, 1) := by decide +kernel
theorem dL_law_1206 : decode cL_law 1206 = .ok (.iload_n 3, 1) := by decide +kernel
theorem dL_law_1207 : decode cL_law 1207 = .ok (.iconst 1, 1) := by decide +kernel
theorem dL_law_1208 : decode cL_law 1208 = .ok (.iadd, 1) := by decide +kernel
theorem dL_law_1209 : decode cL_law 1209 = .ok (.iaload, 1) := by decide +kernel
theorem dL_law_1210 : decode cL_law 1210 = .ok (.invokevirtual 139, 3) := by decide +kernel
theorem dL_law_1213 : decode cL_law 1213 = .ok (.if_icmp .eq 689, 3) := by decide +kernel
theorem dL_law_1216 : decode cL_law 1216 = .ok (.iconst 0, 1) := by decide +kernel
theorem dL_law_1217 : decode cL_law 1217 = .ok (.ireturn, 1) := by decide +kernel
theorem dL_law_1218 : decode cL_law 1218 = .ok (.aload_n 1, 1) := by decide +kernel
theorem dL_law_1219 : decode cL_law 1219 = .ok (.aload_n 0, 1) := by decide +kernel
theorem dL_law_1220 : decode cL_law 1220 = .ok (.iload_n 3, 1) := by decide +kernel
theorem dL_law_1221 : decode cL_law 1221 = .ok (.iconst 1, 1) := by decide +kernel
theorem dL_law_1222 : decode cL_law 1222 = .ok (.iadd, 1) := by decide +kernel
theorem dL_law_1223 : decode cL_law 1223 = .ok (.iaload, 1) := by decide +kernel
theorem dL_law_1224 : decode cL_law 1224 = .ok (.invokevirtual 140, 3) := by decide +kernel
theorem dL_law_1227 : decode cL_law 1227 = .ok (.aload_n 2, 1) := by decide +kernel
theorem dL_law_1228 : decode cL_law 1228 = .ok (.aload_n 0, 1) := by decide +kernel
theorem dL_law_1229 : decode cL_law 1229 = .ok (.iload_n 3, 1) := by decide +kernel
theorem dL_law_1230 : decode cL_law 1230 = .ok (.iconst 1, 1) := by decide +kernel
theorem dL_law_1231 : decode cL_law 1231 = .ok (.iadd, 1) := by decide +kernel
theorem dL_law_1232 : decode cL_law 1232 = .ok (.iaload, 1) := by decide +kernel
theorem dL_law_1233 : decode cL_law 1233 = .ok (.invokevirtual 143, 3) := by decide +kernel
theorem dL_law_1236 : decode cL_law 1236 = .ok (.if_icmp .eq 666, 3) := by decide +kernel
theorem dL_law_1239 : decode cL_law 1239 = .ok (.iconst 0, 1) := by decide +kernel
theorem dL_law_1240 : decode cL_law 1240 = .ok (.ireturn, 1) := by decide +kernel
theorem dL_law_1241 : decode cL_law 1241 = .ok (.aload_n 1, 1) := by decide +kernel
theorem dL_law_1242 : decode cL_law 1242 = .ok (.invokevirtual 144, 3) := by decide +kernel
theorem dL_law_1245 : decode cL_law 1245 = .ok (.aload_n 2, 1) := by decide +kernel
theorem dL_law_1246 : decode cL_law 1246 = .ok (.invokevirtual 147, 3) := by decide +kernel
theorem dL_law_1249 : decode cL_law 1249 = .ok (.if_icmp .eq 653, 3) := by decide +kernel
theorem dL_law_1252 : decode cL_law 1252 = .ok (.iconst 0, 1) := by decide +kernel
theorem dL_law_1253 : decode cL_law 1253 = .ok (.ireturn, 1) := by decide +kernel
theorem dL_law_1254 : decode cL_law 1254 = .ok (.aload_n 1, 1) := by decide +kernel
theorem dL_law_1255 : decode cL_law 1255 = .ok (.aload_n 0, 1) := by decide +kernel
theorem dL_law_1256 : decode cL_law 1256 = .ok (.iload_n 3, 1) := by decide +kernel
theorem dL_law_1257 : decode cL_law 1257 = .ok (.iconst 1, 1) := by decide +kernel
theorem dL_law_1258 : decode cL_law 1258 = .ok (.iadd, 1) := by decide +kernel
theorem dL_law_1259 : decode cL_law 1259 = .ok (.iaload, 1) := by decide +kernel
theorem dL_law_1260 : decode cL_law 1260 = .ok (.invokevirtual 148, 3) := by decide +kernel
theorem dL_law_1263 : decode cL_law 1263 = .ok (.aload_n 2, 1) := by decide +kernel
theorem dL_law_1264 : decode cL_law 1264 = .ok (.aload_n 0, 1) := by decide +kernel
theorem dL_law_1265 : decode cL_law 1265 = .ok (.iload_n 3, 1) := by decide +kernel
theorem dL_law_1266 : decode cL_law 1266 = .ok (.iconst 1, 1) := by decide +kernel
theorem dL_law_1267 : decode cL_law 1267 = .ok (.iadd, 1) := by decide +kernel
theorem dL_law_1268 : decode cL_law 1268 = .ok (.iaload, 1) := by decide +kernel
theorem dL_law_1269 : decode cL_law 1269 = .ok (.invokevirtual 151, 3) := by decide +kernel
theorem dL_law_1272 : decode cL_law 1272 = .ok (.if_icmp .eq 630, 3) := by decide +kernel
theorem dL_law_1275 : decode cL_law 1275 = .ok (.iconst 0, 1) := by decide +kernel
theorem dL_law_1276 : decode cL_law 1276 = .ok (.ireturn, 1) := by decide +kernel
theorem dL_law_1277 : decode cL_law 1277 = .ok (.aload_n 1, 1) := by decide +kernel
theorem dL_law_1278 : decode cL_law 1278 = .ok (.aload_n 0, 1) := by decide +kernel
theorem dL_law_1279 : decode cL_law 1279 = .ok (.iload_n 3, 1) := by decide +kernel
theorem dL_law_1280 : decode cL_law 1280 = .ok (.iconst 1, 1) := by decide +kernel
theorem dL_law_1281 : decode cL_law 1281 = .ok (.iadd, 1) := by decide +kernel
theorem dL_law_1282 : decode cL_law 1282 = .ok (.iaload, 1) := by decide +kernel
theorem dL_law_1283 : decode cL_law 1283 = .ok (.aload_n 0, 1) := by decide +kernel
theorem dL_law_1284 : decode cL_law 1284 = .ok (.iload_n 3, 1) := by decide +kernel
theorem dL_law_1285 : decode cL_law 1285 = .ok (.iconst 2, 1) := by decide +kernel
theorem dL_law_1286 : decode cL_law 1286 = .ok (.iadd, 1) := by decide +kernel
theorem dL_law_1287 : decode cL_law 1287 = .ok (.iaload, 1) := by decide +kernel
theorem dL_law_1288 : decode cL_law 1288 = .ok (.invokevirtual 152, 3) := by decide +kernel
theorem dL_law_1291 : decode cL_law 1291 = .ok (.aload_n 2, 1) := by decide +kernel
theorem dL_law_1292 : decode cL_law 1292 = .ok (.aload_n 0, 1) := by decide +kernel
theorem dL_law_1293 : decode cL_law 1293 = .ok (.iload_n 3, 1) := by decide +kernel
theorem dL_law_1294 : decode cL_law 1294 = .ok (.iconst 1, 1) := by decide +kernel
theorem dL_law_1295 : decode cL_law 1295 = .ok (.iadd, 1) := by decide +kernel
theorem dL_law_1296 : decode cL_law 1296 = .ok (.iaload, 1) := by decide +kernel
theorem dL_law_1297 : decode cL_law 1297 = .ok (.aload_n 0, 1) := by decide +kernel
theorem dL_law_1298 : decode cL_law 1298 = .ok (.iload_n 3, 1) := by decide +kernel
theorem dL_law_1299 : decode cL_law 1299 = .ok (.iconst 2, 1) := by decide +kernel
theorem dL_law_1300 : decode cL_law 1300 = .ok (.iadd, 1) := by decide +kernel
theorem dL_law_1301 : decode cL_law 1301 = .ok (.iaload, 1) := by decide +kernel
theorem dL_law_1302 : decode cL_law 1302 = .ok (.invokevirtual 155, 3) := by decide +kernel
theorem dL_law_1305 : decode cL_law 1305 = .ok (.if_icmp .eq 597, 3) := by decide +kernel
theorem dL_law_1308 : decode cL_law 1308 = .ok (.iconst 0, 1) := by decide +kernel
theorem dL_law_1309 : decode cL_law 1309 = .ok (.ireturn, 1) := by decide +kernel
theorem dL_law_1310 : decode cL_law 1310 = .ok (.aload_n 1, 1) := by decide +kernel
theorem dL_law_1311 : decode cL_law 1311 = .ok (.aload_n 0, 1) := by decide +kernel
theorem dL_law_1312 : decode cL_law 1312 = .ok (.iload_n 3, 1) := by decide +kernel
theorem dL_law_1313 : decode cL_law 1313 = .ok (.iconst 1, 1) := by decide +kernel
theorem dL_law_1314 : decode cL_law 1314 = .ok (.iadd, 1) := by decide +kernel
theorem dL_law_1315 : decode cL_law 1315 = .ok (.iaload, 1) := by decide +kernel
theorem dL_law_1316 : decode cL_law 1316 = .ok (.aload_n 0, 1) := by decide +kernel
theorem dL_law_1317 : decode cL_law 1317 = .ok (.iload_n 3, 1) := by decide +kernel
theorem dL_law_1318 : decode cL_law 1318 = .ok (.iconst 2, 1) := by decide +kernel
theorem dL_law_1319 : decode cL_law 1319 = .ok (.iadd, 1) := by decide +kernel
theorem dL_law_1320 : decode cL_law 1320 = .ok (.iaload, 1) := by decide +kernel
theorem dL_law_1321 : decode cL_law 1321 = .ok (.ifCond .eq 7, 3) := by decide +kernel
theorem dL_law_1324 : decode cL_law 1324 = .ok (.iconst 1, 1) := by decide +kernel
theorem dL_law_1325 : decode cL_law 1325 = .ok (.goto 4, 3) := by decide +kernel
theorem dL_law_1328 : decode cL_law 1328 = .ok (.iconst 0, 1) := by decide +kernel
theorem dL_law_1329 : decode cL_law 1329 = .ok (.invokevirtual 156, 3) := by decide +kernel
theorem dL_law_1332 : decode cL_law 1332 = .ok (.aload_n 2, 1) := by decide +kernel
theorem dL_law_1333 : decode cL_law 1333 = .ok (.aload_n 0, 1) := by decide +kernel
theorem dL_law_1334 : decode cL_law 1334 = .ok (.iload_n 3, 1) := by decide +kernel
theorem dL_law_1335 : decode cL_law 1335 = .ok (.iconst 1, 1) := by decide +kernel
theorem dL_law_1336 : decode cL_law 1336 = .ok (.iadd, 1) := by decide +kernel
theorem dL_law_1337 : decode cL_law 1337 = .ok (.iaload, 1) := by decide +kernel
theorem dL_law_1338 : decode cL_law 1338 = .ok (.aload_n 0, 1) := by decide +kernel
theorem dL_law_1339 : decode cL_law 1339 = .ok (.iload_n 3, 1) := by decide +kernel
theorem dL_law_1340 : decode cL_law 1340 = .ok (.iconst 2, 1) := by decide +kernel
theorem dL_law_1341 : decode cL_law 1341 = .ok (.iadd, 1) := by decide +kernel
theorem dL_law_1342 : decode cL_law 1342 = .ok (.iaload, 1) := by decide +kernel
theorem dL_law_1343 : decode cL_law 1343 = .ok (.ifCond .eq 7, 3) := by decide +kernel
theorem dL_law_1346 : decode cL_law 1346 = .ok (.iconst 1, 1) := by decide +kernel
theorem dL_law_1347 : decode cL_law 1347 = .ok (.goto 4, 3) := by decide +kernel
theorem dL_law_1350 : decode cL_law 1350 = .ok (.iconst 0, 1) := by decide +kernel
theorem dL_law_1351 : decode cL_law 1351 = .ok (.invokevirtual 159, 3) := by decide +kernel
theorem dL_law_1354 : decode cL_law 1354 = .ok (.if_icmp .eq 548, 3) := by decide +kernel
theorem dL_law_1357 : decode cL_law 1357 = .ok (.iconst 0, 1) := by decide +kernel
theorem dL_law_1358 : decode cL_law 1358 = .ok (.ireturn, 1) := by decide +kernel
theorem dL_law_1359 : decode cL_law 1359 = .ok (.aload_n 1, 1) := by decide +kernel
theorem dL_law_1360 : decode cL_law 1360 = .ok (.aload_n 0, 1) := by decide +kernel
theorem dL_law_1361 : decode cL_law 1361 = .ok (.iload_n 3, 1) := by decide +kernel
theorem dL_law_1362 : decode cL_law 1362 = .ok (.iconst 1, 1) := by decide +kernel
theorem dL_law_1363 : decode cL_law 1363 = .ok (.iadd, 1) := by decide +kernel
theorem dL_law_1364 : decode cL_law 1364 = .ok (.iaload, 1) := by decide +kernel
theorem dL_law_1365 : decode cL_law 1365 = .ok (.aload_n 0, 1) := by decide +kernel
theorem dL_law_1366 : decode cL_law 1366 = .ok (.iload_n 3, 1) := by decide +kernel
theorem dL_law_1367 : decode cL_law 1367 = .ok (.iconst 2, 1) := by decide +kernel
theorem dL_law_1368 : decode cL_law 1368 = .ok (.iadd, 1) := by decide +kernel
theorem dL_law_1369 : decode cL_law 1369 = .ok (.iaload, 1) := by decide +kernel
theorem dL_law_1370 : decode cL_law 1370 = .ok (.aload_n 0, 1) := by decide +kernel
theorem dL_law_1371 : decode cL_law 1371 = .ok (.iload_n 3, 1) := by decide +kernel
theorem dL_law_1372 : decode cL_law 1372 = .ok (.iconst 3, 1) := by decide +kernel
theorem dL_law_1373 : decode cL_law 1373 = .ok (.iadd, 1) := by decide +kernel
theorem dL_law_1374 : decode cL_law 1374 = .ok (.iaload, 1) := by decide +kernel
theorem dL_law_1375 : decode cL_law 1375 = .ok (.ifCond .eq 7, 3) := by decide +kernel
theorem dL_law_1378 : decode cL_law 1378 = .ok (.iconst 1, 1) := by decide +kernel
theorem dL_law_1379 : decode cL_law 1379 = .ok (.goto 4, 3) := by decide +kernel
theorem dL_law_1382 : decode cL_law 1382 = .ok (.iconst 0, 1) := by decide +kernel
theorem dL_law_1383 : decode cL_law 1383 = .ok (.invokevirtual 160, 3) := by decide +kernel
theorem dL_law_1386 : decode cL_law 1386 = .ok (.aload_n 2, 1) := by decide +kernel
theorem dL_law_1387 : decode cL_law 1387 = .ok (.aload_n 0, 1) := by decide +kernel
theorem dL_law_1388 : decode cL_law 1388 = .ok (.iload_n 3, 1) := by decide +kernel
theorem dL_law_1389 : decode cL_law 1389 = .ok (.iconst 1, 1) := by decide +kernel
theorem dL_law_1390 : decode cL_law 1390 = .ok (.iadd, 1) := by decide +kernel
theorem dL_law_1391 : decode cL_law 1391 = .ok (.iaload, 1) := by decide +kernel
theorem dL_law_1392 : decode cL_law 1392 = .ok (.aload_n 0, 1) := by decide +kernel
theorem dL_law_1393 : decode cL_law 1393 = .ok (.iload_n 3, 1) := by decide +kernel
theorem dL_law_1394 : decode cL_law 1394 = .ok (.iconst 2, 1) := by decide +kernel
theorem dL_law_1395 : decode cL_law 1395 = .ok (.iadd, 1) := by decide +kernel
theorem dL_law_1396 : decode cL_law 1396 = .ok (.iaload, 1) := by decide +kernel
theorem dL_law_1397 : decode cL_law 1397 = .ok (.aload_n 0, 1) := by decide +kernel
theorem dL_law_1398 : decode cL_law 1398 = .ok (.iload_n 3, 1) := by decide +kernel
theorem dL_law_1399 : decode cL_law 1399 = .ok (.iconst 3, 1) := by decide +kernel
theorem dL_law_1400 : decode cL_law 1400 = .ok (.iadd, 1) := by decide +kernel
theorem dL_law_1401 : decode cL_law 1401 = .ok (.iaload, 1) := by decide +kernel
theorem dL_law_1402 : decode cL_law 1402 = .ok (.ifCond .eq 7, 3) := by decide +kernel
theorem dL_law_1405 : decode cL_law 1405 = .ok (.iconst 1, 1) := by decide +kernel
theorem dL_law_1406 : decode cL_law 1406 = .ok (.goto 4, 3) := by decide +kernel
theorem dL_law_1409 : decode cL_law 1409 = .ok (.iconst 0, 1) := by decide +kernel
theorem dL_law_1410 : decode cL_law 1410 = .ok (.invokevirtual 163, 3) := by decide +kernel
theorem dL_law_1413 : decode cL_law 1413 = .ok (.if_icmp .eq 489, 3) := by decide +kernel
theorem dL_law_1416 : decode cL_law 1416 = .ok (.iconst 0, 1) := by decide +kernel
theorem dL_law_1417 : decode cL_law 1417 = .ok (.ireturn, 1) := by decide +kernel
theorem dL_law_1418 : decode cL_law 1418 = .ok (.aload_n 1, 1) := by decide +kernel
theorem dL_law_1419 : decode cL_law 1419 = .ok (.aload_n 0, 1) := by decide +kernel
theorem dL_law_1420 : decode cL_law 1420 = .ok (.iload_n 3, 1) := by decide +kernel
theorem dL_law_1421 : decode cL_law 1421 = .ok (.iconst 1, 1) := by decide +kernel
theorem dL_law_1422 : decode cL_law 1422 = .ok (.iadd, 1) := by decide +kernel
theorem dL_law_1423 : decode cL_law 1423 = .ok (.iaload, 1) := by decide +kernel
theorem dL_law_1424 : decode cL_law 1424 = .ok (.aload_n 0, 1) := by decide +kernel
theorem dL_law_1425 : decode cL_law 1425 = .ok (.iload_n 3, 1) := by decide +kernel
theorem dL_law_1426 : decode cL_law 1426 = .ok (.iconst 2, 1) := by decide +kernel
theorem dL_law_1427 : decode cL_law 1427 = .ok (.iadd, 1) := by decide +kernel
theorem dL_law_1428 : decode cL_law 1428 = .ok (.iaload, 1) := by decide +kernel
theorem dL_law_1429 : decode cL_law 1429 = .ok (.aload_n 0, 1) := by decide +kernel
theorem dL_law_1430 : decode cL_law 1430 = .ok (.iload_n 3, 1) := by decide +kernel
theorem dL_law_1431 : decode cL_law 1431 = .ok (.iconst 3, 1) := by decide +kernel
theorem dL_law_1432 : decode cL_law 1432 = .ok (.iadd, 1) := by decide +kernel
theorem dL_law_1433 : decode cL_law 1433 = .ok (.iaload, 1) := by decide +kernel
theorem dL_law_1434 : decode cL_law 1434 = .ok (.ifCond .eq 7, 3) := by decide +kernel
theorem dL_law_1437 : decode cL_law 1437 = .ok (.iconst 1, 1) := by decide +kernel
theorem dL_law_1438 : decode cL_law 1438 = .ok (.goto 4, 3) := by decide +kernel
theorem dL_law_1441 : decode cL_law 1441 = .ok (.iconst 0, 1) := by decide +kernel
theorem dL_law_1442 : decode cL_law 1442 = .ok (.aload_n 0, 1) := by decide +kernel
theorem dL_law_1443 : decode cL_law 1443 = .ok (.iload_n 3, 1) := by decide +kernel
theorem dL_law_1444 : decode cL_law 1444 = .ok (.iconst 4, 1) := by decide +kernel
theorem dL_law_1445 : decode cL_law 1445 = .ok (.iadd, 1) := by decide +kernel
theorem dL_law_1446 : decode cL_law 1446 = .ok (.iaload, 1) := by decide +kernel
theorem dL_law_1447 : decode cL_law 1447 = .ok (.invokevirtual 164, 3) := by decide +kernel
theorem dL_law_1450 : decode cL_law 1450 = .ok (.aload_n 2, 1) := by decide +kernel
theorem dL_law_1451 : decode cL_law 1451 = .ok (.aload_n 0, 1) := by decide +kernel
theorem dL_law_1452 : decode cL_law 1452 = .ok (.iload_n 3, 1) := by decide +kernel
theorem dL_law_1453 : decode cL_law 1453 = .ok (.iconst 1, 1) := by decide +kernel
theorem dL_law_1454 : decode cL_law 1454 = .ok (.iadd, 1) := by decide +kernel
theorem dL_law_1455 : decode cL_law 1455 = .ok (.iaload, 1) := by decide +kernel
theorem dL_law_1456 : decode cL_law 1456 = .ok (.aload_n 0, 1) := by decide +kernel
theorem dL_law_1457 : decode cL_law 1457 = .ok (.iload_n 3, 1) := by decide +kernel
theorem dL_law_1458 : decode cL_law 1458 = .ok (.iconst 2, 1) := by decide +kernel
theorem dL_law_1459 : decode cL_law 1459 = .ok (.iadd, 1) := by decide +kernel
theorem dL_law_1460 : decode cL_law 1460 = .ok (.iaload, 1) := by decide +kernel
theorem dL_law_1461 : decode cL_law 1461 = .ok (.aload_n 0, 1) := by decide +kernel
theorem dL_law_1462 : decode cL_law 1462 = .ok (.iload_n 3, 1) := by decide +kernel
theorem dL_law_1463 : decode cL_law 1463 = .ok (.iconst 3, 1) := by decide +kernel
theorem dL_law_1464 : decode cL_law 1464 = .ok (.iadd, 1) := by decide +kernel
theorem dL_law_1465 : decode cL_law 1465 = .ok (.iaload, 1) := by decide +kernel
theorem dL_law_1466 : decode cL_law 1466 = .ok (.ifCond .eq 7, 3) := by decide +kernel
theorem dL_law_1469 : decode cL_law 1469 = .ok (.iconst 1, 1) := by decide +kernel
theorem dL_law_1470 : decode cL_law 1470 = .ok (.goto 4, 3) := by decide +kernel
theorem dL_law_1473 : decode cL_law 1473 = .ok (.iconst 0, 1) := by decide +kernel
theorem dL_law_1474 : decode cL_law 1474 = .ok (.aload_n 0, 1) := by decide +kernel
theorem dL_law_1475 : decode cL_law 1475 = .ok (.iload_n 3, 1) := by decide +kernel
theorem dL_law_1476 : decode cL_law 1476 = .ok (.iconst 4, 1) := by decide +kernel
theorem dL_law_1477 : decode cL_law 1477 = .ok (.iadd, 1) := by decide +kernel
theorem dL_law_1478 : decode cL_law 1478 = .ok (.iaload, 1) := by decide +kernel
theorem dL_law_1479 : decode cL_law 1479 = .ok (.invokevirtual 168, 3) := by decide +kernel
theorem dL_law_1482 : decode cL_law 1482 = .ok (.if_icmp .eq 420, 3) := by decide +kernel
theorem dL_law_1485 : decode cL_law 1485 = .ok (.iconst 0, 1) := by decide +kernel
theorem dL_law_1486 : decode cL_law 1486 = .ok (.ireturn, 1) := by decide +kernel
theorem dL_law_1487 : decode cL_law 1487 = .ok (.aload_n 1, 1) := by decide +kernel
theorem dL_law_1488 : decode cL_law 1488 = .ok (.aload_n 0, 1) := by decide +kernel
theorem dL_law_1489 : decode cL_law 1489 = .ok (.iload_n 3, 1) := by decide +kernel
theorem dL_law_1490 : decode cL_law 1490 = .ok (.iconst 1, 1) := by decide +kernel
theorem dL_law_1491 : decode cL_law 1491 = .ok (.iadd, 1) := by decide +kernel
theorem dL_law_1492 : decode cL_law 1492 = .ok (.iaload, 1) := by decide +kernel
theorem dL_law_1493 : decode cL_law 1493 = .ok (.aload_n 0, 1) := by decide +kernel
theorem dL_law_1494 : decode cL_law 1494 = .ok (.iload_n 3, 1) := by decide +kernel
theorem dL_law_1495 : decode cL_law 1495 = .ok (.iconst 2, 1) := by decide +kernel
theorem dL_law_1496 : decode cL_law 1496 = .ok (.iadd, 1) := by decide +kernel
theorem dL_law_1497 : decode cL_law 1497 = .ok (.iaload, 1) := by decide +kernel
theorem dL_law_1498 : decode cL_law 1498 = .ok (.invokevirtual 169, 3) := by decide +kernel
theorem dL_law_1501 : decode cL_law 1501 = .ok (.aload_n 2, 1) := by decide +kernel
theorem dL_law_1502 : decode cL_law 1502 = .ok (.aload_n 0, 1) := by decide +kernel
theorem dL_law_1503 : decode cL_law 1503 = .ok (.iload_n 3, 1) := by decide +kernel
theorem dL_law_1504 : decode cL_law 1504 = .ok (.iconst 1, 1) := by decide +kernel
theorem dL_law_1505 : decode cL_law 1505 = .ok (.iadd, 1) := by decide +kernel
theorem dL_law_1506 : decode cL_law 1506 = .ok (.iaload, 1) := by decide +kernel
theorem dL_law_1507 : decode cL_law 1507 = .ok (.aload_n 0, 1) := by decide +kernel
theorem dL_law_1508 : decode cL_law 1508 = .ok (.iload_n 3, 1) := by decide +kernel
theorem dL_law_1509 : decode cL_law 1509 = .ok (.iconst 2, 1) := by decide +kernel
theorem dL_law_1510 : decode cL_law 1510 = .ok (.iadd, 1) := by decide +kernel
theorem dL_law_1511 : decode cL_law 1511 = .ok (.iaload, 1) := by decide +kernel
theorem dL_law_1512 : decode cL_law 1512 = .ok (.invokevirtual 172, 3) := by decide +kernel
theorem dL_law_1515 : decode cL_law 1515 = .ok (.if_icmp .eq 387, 3) := by decide +kernel
theorem dL_law_1518 : decode cL_law 1518 = .ok (.iconst 0, 1) := by decide +kernel
theorem dL_law_1519 : decode cL_law 1519 = .ok (.ireturn, 1) := by decide +kernel
theorem dL_law_1520 : decode cL_law 1520 = .ok (.aload_n 1, 1) := by decide +kernel
theorem dL_law_1521 : decode cL_law 1521 = .ok (.aload_n 0, 1) := by decide +kernel
theorem dL_law_1522 : decode cL_law 1522 = .ok (.iload_n 3, 1) := by decide +kernel
theorem dL_law_1523 : decode cL_law 1523 = .ok (.iconst 1, 1) := by decide +kernel
theorem dL_law_1524 : decode cL_law 1524 = .ok (.iadd, 1) := by decide +kernel
theorem dL_law_1525 : decode cL_law 1525 = .ok (.iaload, 1) := by decide +kernel
theorem dL_law_1526 : decode cL_law 1526 = .ok (.aload_n 0, 1) := by decide +kernel
theorem dL_law_1527 : decode cL_law 1527 = .ok (.iload_n 3, 1) := by decide +kernel
theorem dL_law_1528 : decode cL_law 1528 = .ok (.iconst 2, 1) := by decide +kernel
theorem dL_law_1529 : decode cL_law 1529 = .ok (.iadd, 1) := by decide +kernel
theorem dL_law_1530 : decode cL_law 1530 = .ok (.iaload, 1) := by decide +kernel
theorem dL_law_1531 : decode cL_law 1531 = .ok (.invokevirtual 173, 3) := by decide +kernel
theorem dL_law_1534 : decode cL_law 1534 = .ok (.aload_n 2, 1) := by decide +kernel
theorem dL_law_1535 : decode cL_law 1535 = .ok (.aload_n 0, 1) := by decide +kernel
theorem dL_law_1536 : decode cL_law 1536 = .ok (.iload_n 3, 1) := by decide +kernel
theorem dL_law_1537 : decode cL_law 1537 = .ok (.iconst 1, 1) := by decide +kernel
theorem dL_law_1538 : decode cL_law 1538 = .ok (.iadd, 1) := by decide +kernel
theorem dL_law_1539 : decode cL_law 1539 = .ok (.iaload, 1) := by decide +kernel
theorem dL_law_1540 : decode cL_law 1540 = .ok (.aload_n 0, 1) := by decide +kernel
theorem dL_law_1541 : decode cL_law 1541 = .ok (.iload_n 3, 1) := by decide +kernel
theorem dL_law_1542 : decode cL_law 1542 = .ok (.iconst 2, 1) := by decide +kernel
theorem dL_law_1543 : decode cL_law 1543 = .ok (.iadd, 1) := by decide +kernel
theorem dL_law_1544 : decode cL_law 1544 = .ok (.iaload, 1) := by decide +kernel
theorem dL_law_1545 : decode cL_law 1545 = .ok (.invokevirtual 177, 3) := by decide +kernel
theorem dL_law_1548 : decode cL_law 1548 = .ok (.lcmp, 1) := by decide +kernel
theorem dL_law_1549 : decode cL_law 1549 = .ok (.ifCond .eq 353, 3) := by decide +kernel
theorem dL_law_1552 : decode cL_law 1552 = .ok (.iconst 0, 1) := by decide +kernel
theorem dL_law_1553 : decode cL_law 1553 = .ok (.ireturn, 1) := by decide +kernel
theorem dL_law_1554 : decode cL_law 1554 = .ok (.aload_n 1, 1) := by decide +kernel
theorem dL_law_1555 : decode cL_law 1555 = .ok (.aload_n 0, 1) := by decide +kernel
theorem dL_law_1556 : decode cL_law 1556 = .ok (.iload_n 3, 1) := by decide +kernel
theorem dL_law_1557 : decode cL_law 1557 = .ok (.iconst 1, 1) := by decide +kernel
theorem dL_law_1558 : decode cL_law 1558 = .ok (.iadd, 1) := by decide +kernel
theorem dL_law_1559 : decode cL_law 1559 = .ok (.iaload, 1) := by decide +kernel
theorem dL_law_1560 : decode cL_law 1560 = .ok (.aload_n 0, 1) := by decide +kernel
theorem dL_law_1561 : decode cL_law 1561 = .ok (.iload_n 3, 1) := by decide +kernel
theorem dL_law_1562 : decode cL_law 1562 = .ok (.iconst 2, 1) := by decide +kernel
theorem dL_law_1563 : decode cL_law 1563 = .ok (.iadd, 1) := by decide +kernel
theorem dL_law_1564 : decode cL_law 1564 = .ok (.iaload, 1) := by decide +kernel
theorem dL_law_1565 : decode cL_law 1565 = .ok (.aload_n 0, 1) := by decide +kernel
theorem dL_law_1566 : decode cL_law 1566 = .ok (.iload_n 3, 1) := by decide +kernel
theorem dL_law_1567 : decode cL_law 1567 = .ok (.iconst 3, 1) := by decide +kernel
theorem dL_law_1568 : decode cL_law 1568 = .ok (.iadd, 1) := by decide +kernel
theorem dL_law_1569 : decode cL_law 1569 = .ok (.iaload, 1) := by decide +kernel
theorem dL_law_1570 : decode cL_law 1570 = .ok (.invokevirtual 178, 3) := by decide +kernel
theorem dL_law_1573 : decode cL_law 1573 = .ok (.aload_n 2, 1) := by decide +kernel
theorem dL_law_1574 : decode cL_law 1574 = .ok (.aload_n 0, 1) := by decide +kernel
theorem dL_law_1575 : decode cL_law 1575 = .ok (.iload_n 3, 1) := by decide +kernel
theorem dL_law_1576 : decode cL_law 1576 = .ok (.iconst 1, 1) := by decide +kernel
theorem dL_law_1577 : decode cL_law 1577 = .ok (.iadd, 1) := by decide +kernel
theorem dL_law_1578 : decode cL_law 1578 = .ok (.iaload, 1) := by decide +kernel
theorem dL_law_1579 : decode cL_law 1579 = .ok (.aload_n 0, 1) := by decide +kernel
theorem dL_law_1580 : decode cL_law 1580 = .ok (.iload_n 3, 1) := by decide +kernel
theorem dL_law_1581 : decode cL_law 1581 = .ok (.iconst 2, 1) := by decide +kernel
theorem dL_law_1582 : decode cL_law 1582 = .ok (.iadd, 1) := by decide +kernel
theorem dL_law_1583 : decode cL_law 1583 = .ok (.iaload, 1) := by decide +kernel
theorem dL_law_1584 : decode cL_law 1584 = .ok (.aload_n 0, 1) := by decide +kernel
theorem dL_law_1585 : decode cL_law 1585 = .ok (.iload_n 3, 1) := by decide +kernel
theorem dL_law_1586 : decode cL_law 1586 = .ok (.iconst 3, 1) := by decide +kernel
theorem dL_law_1587 : decode cL_law 1587 = .ok (.iadd, 1) := by decide +kernel
theorem dL_law_1588 : decode cL_law 1588 = .ok (.iaload, 1) := by decide +kernel
theorem dL_law_1589 : decode cL_law 1589 = .ok (.invokevirtual 182, 3) := by decide +kernel
theorem dL_law_1592 : decode cL_law 1592 = .ok (.lcmp, 1) := by decide +kernel
theorem dL_law_1593 : decode cL_law 1593 = .ok (.ifCond .eq 309, 3) := by decide +kernel
theorem dL_law_1596 : decode cL_law 1596 = .ok (.iconst 0, 1) := by decide +kernel
theorem dL_law_1597 : decode cL_law 1597 = .ok (.ireturn, 1) := by decide +kernel
theorem dL_law_1598 : decode cL_law 1598 = .ok (.aload_n 1, 1) := by decide +kernel
theorem dL_law_1599 : decode cL_law 1599 = .ok (.aload_n 0, 1) := by decide +kernel
theorem dL_law_1600 : decode cL_law 1600 = .ok (.iload_n 3, 1) := by decide +kernel
theorem dL_law_1601 : decode cL_law 1601 = .ok (.iconst 1, 1) := by decide +kernel
theorem dL_law_1602 : decode cL_law 1602 = .ok (.iadd, 1) := by decide +kernel
theorem dL_law_1603 : decode cL_law 1603 = .ok (.iaload, 1) := by decide +kernel
theorem dL_law_1604 : decode cL_law 1604 = .ok (.aload_n 0, 1) := by decide +kernel
theorem dL_law_1605 : decode cL_law 1605 = .ok (.iload_n 3, 1) := by decide +kernel
theorem dL_law_1606 : decode cL_law 1606 = .ok (.iconst 2, 1) := by decide +kernel
theorem dL_law_1607 : decode cL_law 1607 = .ok (.iadd, 1) := by decide +kernel
theorem dL_law_1608 : decode cL_law 1608 = .ok (.iaload, 1) := by decide +kernel
theorem dL_law_1609 : decode cL_law 1609 = .ok (.invokevirtual 183, 3) := by decide +kernel
theorem dL_law_1612 : decode cL_law 1612 = .ok (.aload_n 2, 1) := by decide +kernel
theorem dL_law_1613 : decode cL_law 1613 = .ok (.aload_n 0, 1) := by decide +kernel
theorem dL_law_1614 : decode cL_law 1614 = .ok (.iload_n 3, 1) := by decide +kernel
theorem dL_law_1615 : decode cL_law 1615 = .ok (.iconst 1, 1) := by decide +kernel
theorem dL_law_1616 : decode cL_law 1616 = .ok (.iadd, 1) := by decide +kernel
theorem dL_law_1617 : decode cL_law 1617 = .ok (.iaload, 1) := by decide +kernel
theorem dL_law_1618 : decode cL_law 1618 = .ok (.aload_n 0, 1) := by decide +kernel
theorem dL_law_1619 : decode cL_law 1619 = .ok (.iload_n 3, 1) := by decide +kernel
theorem dL_law_1620 : decode cL_law 1620 = .ok (.iconst 2, 1) := by decide +kernel
theorem dL_law_1621 : decode cL_law 1621 = .ok (.iadd, 1) := by decide +kernel
theorem dL_law_1622 : decode cL_law 1622 = .ok (.iaload, 1) := by decide +kernel
theorem dL_law_1623 : decode cL_law 1623 = .ok (.invokevirtual 186, 3) := by decide +kernel
theorem dL_law_1626 : decode cL_law 1626 = .ok (.lcmp, 1) := by decide +kernel
theorem dL_law_1627 : decode cL_law 1627 = .ok (.ifCond .eq 275, 3) := by decide +kernel
theorem dL_law_1630 : decode cL_law 1630 = .ok (.iconst 0, 1) := by decide +kernel
theorem dL_law_1631 : decode cL_law 1631 = .ok (.ireturn, 1) := by decide +kernel
theorem dL_law_1632 : decode cL_law 1632 = .ok (.aload_n 1, 1) := by decide +kernel
theorem dL_law_1633 : decode cL_law 1633 = .ok (.aload_n 0, 1) := by decide +kernel
theorem dL_law_1634 : decode cL_law 1634 = .ok (.iload_n 3, 1) := by decide +kernel
theorem dL_law_1635 : decode cL_law 1635 = .ok (.iconst 1, 1) := by decide +kernel
theorem dL_law_1636 : decode cL_law 1636 = .ok (.iadd, 1) := by decide +kernel
theorem dL_law_1637 : decode cL_law 1637 = .ok (.iaload, 1) := by decide +kernel
theorem dL_law_1638 : decode cL_law 1638 = .ok (.aload_n 0, 1) := by decide +kernel
theorem dL_law_1639 : decode cL_law 1639 = .ok (.iload_n 3, 1) := by decide +kernel
theorem dL_law_1640 : decode cL_law 1640 = .ok (.iconst 2, 1) := by decide +kernel
theorem dL_law_1641 : decode cL_law 1641 = .ok (.iadd, 1) := by decide +kernel
theorem dL_law_1642 : decode cL_law 1642 = .ok (.iaload, 1) := by decide +kernel
theorem dL_law_1643 : decode cL_law 1643 = .ok (.invokevirtual 187, 3) := by decide +kernel
theorem dL_law_1646 : decode cL_law 1646 = .ok (.aload_n 2, 1) := by decide +kernel
theorem dL_law_1647 : decode cL_law 1647 = .ok (.aload_n 0, 1) := by decide +kernel
theorem dL_law_1648 : decode cL_law 1648 = .ok (.iload_n 3, 1) := by decide +kernel
theorem dL_law_1649 : decode cL_law 1649 = .ok (.iconst 1, 1) := by decide +kernel
theorem dL_law_1650 : decode cL_law 1650 = .ok (.iadd, 1) := by decide +kernel
theorem dL_law_1651 : decode cL_law 1651 = .ok (.iaload, 1) := by decide +kernel
theorem dL_law_1652 : decode cL_law 1652 = .ok (.aload_n 0, 1) := by decide +kernel
theorem dL_law_1653 : decode cL_law 1653 = .ok (.iload_n 3, 1) := by decide +kernel
theorem dL_law_1654 : decode cL_law 1654 = .ok (.iconst 2, 1) := by decide +kernel
theorem dL_law_1655 : decode cL_law 1655 = .ok (.iadd, 1) := by decide +kernel
theorem dL_law_1656 : decode cL_law 1656 = .ok (.iaload, 1) := by decide +kernel
theorem dL_law_1657 : decode cL_law 1657 = .ok (.invokevirtual 190, 3) := by decide +kernel
theorem dL_law_1660 : decode cL_law 1660 = .ok (.if_icmp .eq 242, 3) := by decide +kernel
theorem dL_law_1663 : decode cL_law 1663 = .ok (.iconst 0, 1) := by decide +kernel
theorem dL_law_1664 : decode cL_law 1664 = .ok (.ireturn, 1) := by decide +kernel
theorem dL_law_1665 : decode cL_law 1665 = .ok (.aload_n 1, 1) := by decide +kernel
theorem dL_law_1666 : decode cL_law 1666 = .ok (.aload_n 0, 1) := by decide +kernel
theorem dL_law_1667 : decode cL_law 1667 = .ok (.iload_n 3, 1) := by decide +kernel
theorem dL_law_1668 : decode cL_law 1668 = .ok (.iconst 1, 1) := by decide +kernel
theorem dL_law_1669 : decode cL_law 1669 = .ok (.iadd, 1) := by decide +kernel
theorem dL_law_1670 : decode cL_law 1670 = .ok (.iaload, 1) := by decide +kernel
theorem dL_law_1671 : decode cL_law 1671 = .ok (.aload_n 0, 1) := by decide +kernel
theorem dL_law_1672 : decode cL_law 1672 = .ok (.iload_n 3, 1) := by decide +kernel
theorem dL_law_1673 : decode cL_law 1673 = .ok (.iconst 2, 1) := by decide +kernel
theorem dL_law_1674 : decode cL_law 1674 = .ok (.iadd, 1) := by decide +kernel
theorem dL_law_1675 : decode cL_law 1675 = .ok (.iaload, 1) := by decide +kernel
theorem dL_law_1676 : decode cL_law 1676 = .ok (.aload_n 0, 1) := by decide +kernel
theorem dL_law_1677 : decode cL_law 1677 = .ok (.iload_n 3, 1) := by decide +kernel
theorem dL_law_1678 : decode cL_law 1678 = .ok (.iconst 3, 1) := by decide +kernel
theorem dL_law_1679 : decode cL_law 1679 = .ok (.iadd, 1) := by decide +kernel
theorem dL_law_1680 : decode cL_law 1680 = .ok (.iaload, 1) := by decide +kernel
theorem dL_law_1681 : decode cL_law 1681 = .ok (.invokevirtual 191, 3) := by decide +kernel
theorem dL_law_1684 : decode cL_law 1684 = .ok (.aload_n 2, 1) := by decide +kernel
theorem dL_law_1685 : decode cL_law 1685 = .ok (.aload_n 0, 1) := by decide +kernel
theorem dL_law_1686 : decode cL_law 1686 = .ok (.iload_n 3, 1) := by decide +kernel
theorem dL_law_1687 : decode cL_law 1687 = .ok (.iconst 1, 1) := by decide +kernel
theorem dL_law_1688 : decode cL_law 1688 = .ok (.iadd, 1) := by decide +kernel
theorem dL_law_1689 : decode cL_law 1689 = .ok (.iaload, 1) := by decide +kernel
theorem dL_law_1690 : decode cL_law 1690 = .ok (.aload_n 0, 1) := by decide +kernel
theorem dL_law_1691 : decode cL_law 1691 = .ok (.iload_n 3, 1) := by decide +kernel
theorem dL_law_1692 : decode cL_law 1692 = .ok (.iconst 2, 1) := by decide +kernel
theorem dL_law_1693 : decode cL_law 1693 = .ok (.iadd, 1) := by decide +kernel
theorem dL_law_1694 : decode cL_law 1694 = .ok (.iaload, 1) := by decide +kernel
theorem dL_law_1695 : decode cL_law 1695 = .ok (.aload_n 0, 1) := by decide +kernel
theorem dL_law_1696 : decode cL_law 1696 = .ok (.iload_n 3, 1) := by decide +kernel
theorem dL_law_1697 : decode cL_law 1697 = .ok (.iconst 3, 1) := by decide +kernel
theorem dL_law_1698 : decode cL_law 1698 = .ok (.iadd, 1) := by decide +kernel
theorem dL_law_1699 : decode cL_law 1699 = .ok (.iaload, 1) := by decide +kernel
theorem dL_law_1700 : decode cL_law 1700 = .ok (.invokevirtual 194, 3) := by decide +kernel
theorem dL_law_1703 : decode cL_law 1703 = .ok (.lcmp, 1) := by decide +kernel
theorem dL_law_1704 : decode cL_law 1704 = .ok (.ifCond .eq 198, 3) := by decide +kernel
theorem dL_law_1707 : decode cL_law 1707 = .ok (.iconst 0, 1) := by decide +kernel
theorem dL_law_1708 : decode cL_law 1708 = .ok (.ireturn, 1) := by decide +kernel
theorem dL_law_1709 : decode cL_law 1709 = .ok (.aload_n 1, 1) := by decide +kernel
theorem dL_law_1710 : decode cL_law 1710 = .ok (.aload_n 0, 1) := by decide +kernel
theorem dL_law_1711 : decode cL_law 1711 = .ok (.iload_n 3, 1) := by decide +kernel
theorem dL_law_1712 : decode cL_law 1712 = .ok (.iconst 1, 1) := by decide +kernel
theorem dL_law_1713 : decode cL_law 1713 = .ok (.iadd, 1) := by decide +kernel
theorem dL_law_1714 : decode cL_law 1714 = .ok (.iaload, 1) := by decide +kernel
theorem dL_law_1715 : decode cL_law 1715 = .ok (.aload_n 0, 1) := by decide +kernel
theorem dL_law_1716 : decode cL_law 1716 = .ok (.iload_n 3, 1) := by decide +kernel
theorem dL_law_1717 : decode cL_law 1717 = .ok (.iconst 2, 1) := by decide +kernel
theorem dL_law_1718 : decode cL_law 1718 = .ok (.iadd, 1) := by decide +kernel
theorem dL_law_1719 : decode cL_law 1719 = .ok (.iaload, 1) := by decide +kernel
theorem dL_law_1720 : decode cL_law 1720 = .ok (.aload_n 0, 1) := by decide +kernel
theorem dL_law_1721 : decode cL_law 1721 = .ok (.iload_n 3, 1) := by decide +kernel
theorem dL_law_1722 : decode cL_law 1722 = .ok (.iconst 3, 1) := by decide +kernel
theorem dL_law_1723 : decode cL_law 1723 = .ok (.iadd, 1) := by decide +kernel
theorem dL_law_1724 : decode cL_law 1724 = .ok (.iaload, 1) := by decide +kernel
theorem dL_law_1725 : decode cL_law 1725 = .ok (.invokevirtual 195, 3) := by decide +kernel
theorem dL_law_1728 : decode cL_law 1728 = .ok (.aload_n 2, 1) := by decide +kernel
theorem dL_law_1729 : decode cL_law 1729 = .ok (.aload_n 0, 1) := by decide +kernel
theorem dL_law_1730 : decode cL_law 1730 = .ok (.iload_n 3, 1) := by decide +kernel
theorem dL_law_1731 : decode cL_law 1731 = .ok (.iconst 1, 1) := by decide +kernel
theorem dL_law_1732 : decode cL_law 1732 = .ok (.iadd, 1) := by decide +kernel
theorem dL_law_1733 : decode cL_law 1733 = .ok (.iaload, 1) := by decide +kernel
theorem dL_law_1734 : decode cL_law 1734 = .ok (.aload_n 0, 1) := by decide +kernel
theorem dL_law_1735 : decode cL_law 1735 = .ok (.iload_n 3, 1) := by decide +kernel
theorem dL_law_1736 : decode cL_law 1736 = .ok (.iconst 2, 1) := by decide +kernel
theorem dL_law_1737 : decode cL_law 1737 = .ok (.iadd, 1) := by decide +kernel
theorem dL_law_1738 : decode cL_law 1738 = .ok (.iaload, 1) := by decide +kernel
theorem dL_law_1739 : decode cL_law 1739 = .ok (.aload_n 0, 1) := by decide +kernel
theorem dL_law_1740 : decode cL_law 1740 = .ok (.iload_n 3, 1) := by decide +kernel
theorem dL_law_1741 : decode cL_law 1741 = .ok (.iconst 3, 1) := by decide +kernel
theorem dL_law_1742 : decode cL_law 1742 = .ok (.iadd, 1) := by decide +kernel
theorem dL_law_1743 : decode cL_law 1743 = .ok (.iaload, 1) := by decide +kernel
theorem dL_law_1744 : decode cL_law 1744 = .ok (.invokevirtual 198, 3) := by decide +kernel
theorem dL_law_1747 : decode cL_law 1747 = .ok (.lcmp, 1) := by decide +kernel
theorem dL_law_1748 : decode cL_law 1748 = .ok (.ifCond .eq 154, 3) := by decide +kernel
theorem dL_law_1751 : decode cL_law 1751 = .ok (.iconst 0, 1) := by decide +kernel
theorem dL_law_1752 : decode cL_law 1752 = .ok (.ireturn, 1) := by decide +kernel
theorem dL_law_1753 : decode cL_law 1753 = .ok (.aload_n 1, 1) := by decide +kernel
theorem dL_law_1754 : decode cL_law 1754 = .ok (.aload_n 0, 1) := by decide +kernel
theorem dL_law_1755 : decode cL_law 1755 = .ok (.iload_n 3, 1) := by decide +kernel
theorem dL_law_1756 : decode cL_law 1756 = .ok (.iconst 1, 1) := by decide +kernel
theorem dL_law_1757 : decode cL_law 1757 = .ok (.iadd, 1) := by decide +kernel
theorem dL_law_1758 : decode cL_law 1758 = .ok (.iaload, 1) := by decide +kernel
theorem dL_law_1759 : decode cL_law 1759 = .ok (.aload_n 0, 1) := by decide +kernel
theorem dL_law_1760 : decode cL_law 1760 = .ok (.iload_n 3, 1) := by decide +kernel
theorem dL_law_1761 : decode cL_law 1761 = .ok (.iconst 2, 1) := by decide +kernel
theorem dL_law_1762 : decode cL_law 1762 = .ok (.iadd, 1) := by decide +kernel
theorem dL_law_1763 : decode cL_law 1763 = .ok (.iaload, 1) := by decide +kernel
theorem dL_law_1764 : decode cL_law 1764 = .ok (.invokevirtual 199, 3) := by decide +kernel
theorem dL_law_1767 : decode cL_law 1767 = .ok (.aload_n 2, 1) := by decide +kernel
theorem dL_law_1768 : decode cL_law 1768 = .ok (.aload_n 0, 1) := by decide +kernel
theorem dL_law_1769 : decode cL_law 1769 = .ok (.iload_n 3, 1) := by decide +kernel
theorem dL_law_1770 : decode cL_law 1770 = .ok (.iconst 1, 1) := by decide +kernel
theorem dL_law_1771 : decode cL_law 1771 = .ok (.iadd, 1) := by decide +kernel
theorem dL_law_1772 : decode cL_law 1772 = .ok (.iaload, 1) := by decide +kernel
theorem dL_law_1773 : decode cL_law 1773 = .ok (.aload_n 0, 1) := by decide +kernel
theorem dL_law_1774 : decode cL_law 1774 = .ok (.iload_n 3, 1) := by decide +kernel
theorem dL_law_1775 : decode cL_law 1775 = .ok (.iconst 2, 1) := by decide +kernel
theorem dL_law_1776 : decode cL_law 1776 = .ok (.iadd, 1) := by decide +kernel
theorem dL_law_1777 : decode cL_law 1777 = .ok (.iaload, 1) := by decide +kernel
theorem dL_law_1778 : decode cL_law 1778 = .ok (.invokevirtual 202, 3) := by decide +kernel
theorem dL_law_1781 : decode cL_law 1781 = .ok (.if_icmp .eq 121, 3) := by decide +kernel
theorem dL_law_1784 : decode cL_law 1784 = .ok (.iconst 0, 1) := by decide +kernel
theorem dL_law_1785 : decode cL_law 1785 = .ok (.ireturn, 1) := by decide +kernel
theorem dL_law_1786 : decode cL_law 1786 = .ok (.aload_n 1, 1) := by decide +kernel
theorem dL_law_1787 : decode cL_law 1787 = .ok (.aload_n 0, 1) := by decide +kernel
theorem dL_law_1788 : decode cL_law 1788 = .ok (.iload_n 3, 1) := by decide +kernel
theorem dL_law_1789 : decode cL_law 1789 = .ok (.iconst 1, 1) := by decide +kernel
theorem dL_law_1790 : decode cL_law 1790 = .ok (.iadd, 1) := by decide +kernel
theorem dL_law_1791 : decode cL_law 1791 = .ok (.iaload, 1) := by decide +kernel
theorem dL_law_1792 : decode cL_law 1792 = .ok (.aload_n 0, 1) := by decide +kernel
theorem dL_law_1793 : decode cL_law 1793 = .ok (.iload_n 3, 1) := by decide +kernel
theorem dL_law_1794 : decode cL_law 1794 = .ok (.iconst 2, 1) := by decide +kernel
theorem dL_law_1795 : decode cL_law 1795 = .ok (.iadd, 1) := by decide +kernel
theorem dL_law_1796 : decode cL_law 1796 = .ok (.iaload, 1) := by decide +kernel
theorem dL_law_1797 : decode cL_law 1797 = .ok (.invokevirtual 203, 3) := by decide +kernel
theorem dL_law_1800 : decode cL_law 1800 = .ok (.aload_n 2, 1) := by decide +kernel
theorem dL_law_1801 : decode cL_law 1801 = .ok (.aload_n 0, 1) := by decide +kernel
theorem dL_law_1802 : decode cL_law 1802 = .ok (.iload_n 3, 1) := by decide +kernel
theorem dL_law_1803 : decode cL_law 1803 = .ok (.iconst 1, 1) := by decide +kernel
theorem dL_law_1804 : decode cL_law 1804 = .ok (.iadd, 1) := by decide +kernel
theorem dL_law_1805 : decode cL_law 1805 = .ok (.iaload, 1) := by decide +kernel
theorem dL_law_1806 : decode cL_law 1806 = .ok (.aload_n 0, 1) := by decide +kernel
theorem dL_law_1807 : decode cL_law 1807 = .ok (.iload_n 3, 1) := by decide +kernel
theorem dL_law_1808 : decode cL_law 1808 = .ok (.iconst 2, 1) := by decide +kernel
theorem dL_law_1809 : decode cL_law 1809 = .ok (.iadd, 1) := by decide +kernel
theorem dL_law_1810 : decode cL_law 1810 = .ok (.iaload, 1) := by decide +kernel
theorem dL_law_1811 : decode cL_law 1811 = .ok (.invokevirtual 206, 3) := by decide +kernel
theorem dL_law_1814 : decode cL_law 1814 = .ok (.if_icmp .eq 88, 3) := by decide +kernel
theorem dL_law_1817 : decode cL_law 1817 = .ok (.iconst 0, 1) := by decide +kernel
theorem dL_law_1818 : decode cL_law 1818 = .ok (.ireturn, 1) := by decide +kernel
theorem dL_law_1819 : decode cL_law 1819 = .ok (.aload_n 1, 1) := by decide +kernel
theorem dL_law_1820 : decode cL_law 1820 = .ok (.aload_n 0, 1) := by decide +kernel
theorem dL_law_1821 : decode cL_law 1821 = .ok (.iload_n 3, 1) := by decide +kernel
theorem dL_law_1822 : decode cL_law 1822 = .ok (.iconst 1, 1) := by decide +kernel
theorem dL_law_1823 : decode cL_law 1823 = .ok (.iadd, 1) := by decide +kernel
theorem dL_law_1824 : decode cL_law 1824 = .ok (.iaload, 1) := by decide +kernel
theorem dL_law_1825 : decode cL_law 1825 = .ok (.aload_n 0, 1) := by decide +kernel
theorem dL_law_1826 : decode cL_law 1826 = .ok (.iload_n 3, 1) := by decide +kernel
theorem dL_law_1827 : decode cL_law 1827 = .ok (.iconst 2, 1) := by decide +kernel
theorem dL_law_1828 : decode cL_law 1828 = .ok (.iadd, 1) := by decide +kernel
theorem dL_law_1829 : decode cL_law 1829 = .ok (.iaload, 1) := by decide +kernel
theorem dL_law_1830 : decode cL_law 1830 = .ok (.invokevirtual 207, 3) := by decide +kernel
theorem dL_law_1833 : decode cL_law 1833 = .ok (.aload_n 2, 1) := by decide +kernel
theorem dL_law_1834 : decode cL_law 1834 = .ok (.aload_n 0, 1) := by decide +kernel
theorem dL_law_1835 : decode cL_law 1835 = .ok (.iload_n 3, 1) := by decide +kernel
theorem dL_law_1836 : decode cL_law 1836 = .ok (.iconst 1, 1) := by decide +kernel
theorem dL_law_1837 : decode cL_law 1837 = .ok (.iadd, 1) := by decide +kernel
theorem dL_law_1838 : decode cL_law 1838 = .ok (.iaload, 1) := by decide +kernel
theorem dL_law_1839 : decode cL_law 1839 = .ok (.aload_n 0, 1) := by decide +kernel
theorem dL_law_1840 : decode cL_law 1840 = .ok (.iload_n 3, 1) := by decide +kernel
theorem dL_law_1841 : decode cL_law 1841 = .ok (.iconst 2, 1) := by decide +kernel
theorem dL_law_1842 : decode cL_law 1842 = .ok (.iadd, 1) := by decide +kernel
theorem dL_law_1843 : decode cL_law 1843 = .ok (.iaload, 1) := by decide +kernel
theorem dL_law_1844 : decode cL_law 1844 = .ok (.invokevirtual 210, 3) := by decide +kernel
theorem dL_law_1847 : decode cL_law 1847 = .ok (.if_icmp .eq 55, 3) := by decide +kernel
theorem dL_law_1850 : decode cL_law 1850 = .ok (.iconst 0, 1) := by decide +kernel
theorem dL_law_1851 : decode cL_law 1851 = .ok (.ireturn, 1) := by decide +kernel
theorem dL_law_1852 : decode cL_law 1852 = .ok (.aload_n 1, 1) := by decide +kernel
theorem dL_law_1853 : decode cL_law 1853 = .ok (.invokevirtual 211, 3) := by decide +kernel
theorem dL_law_1856 : decode cL_law 1856 = .ok (.aload_n 2, 1) := by decide +kernel
theorem dL_law_1857 : decode cL_law 1857 = .ok (.invokevirtual 214, 3) := by decide +kernel
theorem dL_law_1860 : decode cL_law 1860 = .ok (.if_icmp .eq 42, 3) := by decide +kernel
theorem dL_law_1863 : decode cL_law 1863 = .ok (.iconst 0, 1) := by decide +kernel
theorem dL_law_1864 : decode cL_law 1864 = .ok (.ireturn, 1) := by decide +kernel
theorem dL_law_1865 : decode cL_law 1865 = .ok (.aload_n 1, 1) := by decide +kernel
theorem dL_law_1866 : decode cL_law 1866 = .ok (.aload_n 0, 1) := by decide +kernel
theorem dL_law_1867 : decode cL_law 1867 = .ok (.iload_n 3, 1) := by decide +kernel
theorem dL_law_1868 : decode cL_law 1868 = .ok (.iconst 1, 1) := by decide +kernel
theorem dL_law_1869 : decode cL_law 1869 = .ok (.iadd, 1) := by decide +kernel
theorem dL_law_1870 : decode cL_law 1870 = .ok (.iaload, 1) := by decide +kernel
theorem dL_law_1871 : decode cL_law 1871 = .ok (.invokevirtual 215, 3) := by decide +kernel
theorem dL_law_1874 : decode cL_law 1874 = .ok (.aload_n 2, 1) := by decide +kernel
theorem dL_law_1875 : decode cL_law 1875 = .ok (.aload_n 0, 1) := by decide +kernel
theorem dL_law_1876 : decode cL_law 1876 = .ok (.iload_n 3, 1) := by decide +kernel
theorem dL_law_1877 : decode cL_law 1877 = .ok (.iconst 1, 1) := by decide +kernel
theorem dL_law_1878 : decode cL_law 1878 = .ok (.iadd, 1) := by decide +kernel
theorem dL_law_1879 : decode cL_law 1879 = .ok (.iaload, 1) := by decide +kernel
theorem dL_law_1880 : decode cL_law 1880 = .ok (.invokevirtual 218, 3) := by decide +kernel
theorem dL_law_1883 : decode cL_law 1883 = .ok (.if_icmp .eq 19, 3) := by decide +kernel
theorem dL_law_1886 : decode cL_law 1886 = .ok (.iconst 0, 1) := by decide +kernel
theorem dL_law_1887 : decode cL_law 1887 = .ok (.ireturn, 1) := by decide +kernel
theorem dL_law_1888 : decode cL_law 1888 = .ok (.aload_n 1, 1) := by decide +kernel
theorem dL_law_1889 : decode cL_law 1889 = .ok (.invokevirtual 219, 3) := by decide +kernel
theorem dL_law_1892 : decode cL_law 1892 = .ok (.aload_n 2, 1) := by decide +kernel
theorem dL_law_1893 : decode cL_law 1893 = .ok (.invokevirtual 223, 3) := by decide +kernel
theorem dL_law_1896 : decode cL_law 1896 = .ok (.lcmp, 1) := by decide +kernel
theorem dL_law_1897 : decode cL_law 1897 = .ok (.ifCond .eq 5, 3) := by decide +kernel
theorem dL_law_1900 : decode cL_law 1900 = .ok (.iconst 0, 1) := by decide +kernel
theorem dL_law_1901 : decode cL_law 1901 = .ok (.ireturn, 1) := by decide +kernel
theorem dL_law_1902 : decode cL_law 1902 = .ok (.iinc 3 5, 3) := by decide +kernel
theorem dL_law_1905 : decode cL_law 1905 = .ok (.goto (-1887), 3) := by decide +kernel
theorem dL_law_1908 : decode cL_law 1908 = .ok (.iconst 1, 1) := by decide +kernel
theorem dL_law_1909 : decode cL_law 1909 = .ok (.ireturn, 1) := by decide +kernel
end
section
abbrev zw_M : Type := MethodName × ByteArray × Nat × Option FieldType
abbrev zw_E : Type := (Nat × List (Option (Option Nat))) ⊕ (Nat × Nat × (Nat → Option Nat))
abbrev zw_S : Type := List zw_E
abbrev zw_H : Type := (Nat → Nat → Int32) × (Nat → Nat → Int64)
/-- base, the two tables' addresses, the script's, the array classes, the classes -/
abbrev zw_G : Type := Nat × (Nat × Nat × Nat) × (ClassId × ClassId × ClassId × ClassId) × va_G
def zw_tr (g : zw_G) : Value → Value
  | .ref k => .ref (g.1 + k)
  | .retAddr k => .ref (match k with | 0 => g.2.1.1 | 1 => g.2.1.2.1 | _ => g.2.1.2.2)
  | .int x => .int x
  | .long x => .long x
  | .float x => .float x
  | .double x => .double x
  | .null => .null
theorem zw_tr_cat (g : zw_G) (v : Value) : (zw_tr g v).category = v.category := by cases v <;> rfl
theorem zw_tr_sum (g : zw_G) (st : List Value) : ((st.map (zw_tr g)).map fun v => v.category).sum = (st.map fun v => v.category).sum := by
  rw [List.map_map]
  congr 1
  exact List.map_congr_left (fun v _ => zw_tr_cat g v)
def zw_sl (g : zw_G) : Option (Option Nat) → Int32 → Value
  | none, x => .int x
  | some none, _ => .null
  | some (some r), _ => .ref (g.1 + r)
def zw_cell (g : zw_G) (h : zw_H) (k : Nat) : zw_E → va_E
  | .inl o => .inr (o.1, o.2.mapIdx (fun j x => zw_sl g x (h.1 k j)))
  | .inr (0, n, _) => .inl (g.2.2.1.1, n, .inl (h.1 k))
  | .inr (1, n, _) => .inl (g.2.2.1.2.1, n, .inl (h.1 k))
  | .inr (2, n, _) => .inl (g.2.2.1.2.2.1, n, .inr (.inl (h.2 k)))
  | .inr (_, n, q) => .inl (g.2.2.1.2.2.2, n, .inr (.inr (.inr (.inr (fun i => (q i).map (g.1 + ·))))))
def zw_ws (g : zw_G) (sh : zw_S) (h : zw_H) : va_W := sh.mapIdx (fun k e => (g.1 + k, zw_cell g h k e))
theorem zw_ws_at {g : zw_G} {sh : zw_S} {h : zw_H} {k : Nat} {e : zw_E} (hk : sh[k]? = some e) : (zw_ws g sh h)[k]? = some (g.1 + k, zw_cell g h k e) := by
  unfold zw_ws
  rw [List.getElem?_mapIdx, hk]
  rfl
theorem zw_ws_of {g : zw_G} {sh : zw_S} {h : zw_H} {k : Nat} {q : Nat × va_E} (hk : (zw_ws g sh h)[k]? = some q) : ∃ e, sh[k]? = some e ∧ q = (g.1 + k, zw_cell g h k e) := by
  unfold zw_ws at hk
  rw [List.getElem?_mapIdx] at hk
  cases he : sh[k]? with
  | none => rw [he] at hk; cases hk
  | some e => rw [he] at hk; exact ⟨e, rfl, (Option.some.inj hk).symm⟩
theorem zw_D (g : zw_G) (sh : zw_S) (h : zw_H) : va_D (fun q => g.1 ≤ q) (zw_ws g sh h) := by
  refine ⟨fun i j p q hi hj e => ?_, fun k q hk => ?_⟩
  · obtain ⟨e1, -, rfl⟩ := zw_ws_of hi
    obtain ⟨e2, -, rfl⟩ := zw_ws_of hj
    exact Nat.add_left_cancel e
  · obtain ⟨e1, -, rfl⟩ := zw_ws_of hk
    exact Nat.le_add_right _ _
/-- a world whose cell k alone is another one -/
theorem zw_ws_set {g : zw_G} {sh sh' : zw_S} {h h' : zw_H} {k : Nat} {e e' : zw_E} {x : va_E} (hk : sh[k]? = some e) (hk' : sh' = sh.set k e') (hx : zw_cell g h' k e' = x) (ho : ∀ (j : Nat) (f : zw_E), j ≠ k → zw_cell g h' j f = zw_cell g h j f) :
    (zw_ws g sh h).set k (g.1 + k, x) = zw_ws g sh' h' := by
  subst hk' hx
  have hl := (List.getElem?_eq_some_iff.mp hk).1
  apply List.ext_getElem?
  intro j
  unfold zw_ws
  by_cases hj : j = k
  · subst hj
    rw [List.getElem?_set_self (by simpa using hl), List.getElem?_mapIdx, List.getElem?_set_self hl]
    rfl
  · rw [List.getElem?_set_ne (Ne.symm hj), List.getElem?_mapIdx, List.getElem?_mapIdx, List.getElem?_set_ne (Ne.symm hj)]
    cases sh[j]? with
    | none => rfl
    | some f => simp only [Option.map_some, ho j f hj]
theorem zw_ws_new {g : zw_G} {sh : zw_S} {h h' : zw_H} {e : zw_E} {x : va_E} (hx : zw_cell g h' sh.length e = x) (ho : ∀ (j : Nat) (f : zw_E), j < sh.length → zw_cell g h' j f = zw_cell g h j f) :
    zw_ws g sh h ++ [(g.1 + sh.length, x)] = zw_ws g (sh ++ [e]) h' := by
  subst hx
  unfold zw_ws
  rw [List.mapIdx_append]
  congr 1
  · apply List.ext_getElem?
    intro j
    rw [List.getElem?_mapIdx, List.getElem?_mapIdx]
    cases hj : sh[j]? with
    | none => rfl
    | some f => simp only [Option.map_some, ho j f (List.getElem?_eq_some_iff.mp hj).1]
  · simp
def zw_sI (h : zw_H) (k j : Nat) (x : Int32) : zw_H := (fun a b => if a = k ∧ b = j then x else h.1 a b, h.2)
def zw_sL (h : zw_H) (k j : Nat) (x : Int64) : zw_H := (h.1, fun a b => if a = k ∧ b = j then x else h.2 a b)
theorem zw_sI_s (h : zw_H) (k j : Nat) (x : Int32) : (zw_sI h k j x).1 k j = x := by simp [zw_sI]
theorem zw_sI_n {h : zw_H} {k j a b : Nat} {x : Int32} (hn : a ≠ k ∨ b ≠ j) : (zw_sI h k j x).1 a b = h.1 a b := by
  simp only [zw_sI]
  rw [if_neg]
  rintro ⟨rfl, rfl⟩
  rcases hn with hn | hn <;> exact hn rfl
theorem zw_sL_s (h : zw_H) (k j : Nat) (x : Int64) : (zw_sL h k j x).2 k j = x := by simp [zw_sL]
theorem zw_sL_n {h : zw_H} {k j a b : Nat} {x : Int64} (hn : a ≠ k ∨ b ≠ j) : (zw_sL h k j x).2 a b = h.2 a b := by
  simp only [zw_sL]
  rw [if_neg]
  rintro ⟨rfl, rfl⟩
  rcases hn with hn | hn <;> exact hn rfl
theorem zw_cell_sI (g : zw_G) (h : zw_H) (k j : Nat) (x : Int32) (a : Nat) (f : zw_E) (ha : a ≠ k) : zw_cell g (zw_sI h k j x) a f = zw_cell g h a f := by
  have e : (zw_sI h k j x).1 a = h.1 a := by funext b; exact zw_sI_n (Or.inl ha)
  have e2 : (zw_sI h k j x).2 = h.2 := rfl
  unfold zw_cell
  rcases f with f | ⟨n, f⟩
  · simp only [e]
  · split <;> simp_all
theorem zw_cell_sL (g : zw_G) (h : zw_H) (k j : Nat) (x : Int64) (a : Nat) (f : zw_E) (ha : a ≠ k) : zw_cell g (zw_sL h k j x) a f = zw_cell g h a f := by
  have e : (zw_sL h k j x).2 a = h.2 a := by funext b; exact zw_sL_n (Or.inl ha)
  have e2 : (zw_sL h k j x).1 = h.1 := rfl
  unfold zw_cell
  rcases f with f | ⟨n, f⟩
  · simp only [e2]
  · split <;> simp_all
/-- the rows of the tables that a method may carry -/
def zw_ts : List Cond := lw_tbl.filter goodWord
def zw_nest : List Cond := lw_tbl.filter (fun w => match w with | .fieldLinkNest _ _ _ _ _ _ => true | .methodLinkNest _ _ _ _ => true | _ => false)
theorem zw_ts_good : ∀ w ∈ zw_ts, goodWord w = true := fun _ h => (List.mem_filter.mp h).2
def zw_small : Nat → Int32 := fun j => [0, 0, 0, 0, 0, 1, 1, 1, 1, 2, 2, 2, 3, 3, 4].getD j 0
def zw_great : Nat → Int32 := fun j => [1, 2, 3, 4, 5, 2, 3, 4, 5, 3, 4, 5, 4, 5, 5].getD j 0
def zw_tys (g : zw_G) : List (ClassId × FieldType) := [(g.2.2.1.1, .int), (g.2.2.1.2.1, .boolean), (g.2.2.1.2.2.1, .long), (g.2.2.1.2.2.2, .object "PartitionPoset$State")]
def zw_W (g : zw_G) (sh : zw_S) (h : zw_H) (H : Heap) : Prop := H.size = g.1 + sh.length ∧ va_P g.2.2.2 vwCl (zw_ws g sh h) H
def zw_K (g : zw_G) (U : State) : Prop := va_K g.2.2.2 vwCl (zw_tys g) U ∧ (∀ w ∈ zw_nest, va_Nw w U) ∧ va_AO "PartitionPoset$State" U
def zw_T (g : zw_G) (U : State) (H : Heap) : Prop := va_Z RX7 "SMALLER" "[I" (.ref g.2.1.1) (fun q => g.1 ≤ q) U H ∧ va_T .int g.2.1.1 15 (fun j => .int (zw_small j)) (fun q => g.1 ≤ q) U H ∧ va_Z RX7 "GREATER" "[I" (.ref g.2.1.2.1) (fun q => g.1 ≤ q) U H ∧ va_T .int g.2.1.2.1 15 (fun j => .int (zw_great j)) (fun q => g.1 ≤ q) U H
def zw_C (M : zw_M) (d mc ms : Nat) (g : zw_G) (p : Program) (R : Room) (s : State) (m : MethodId) (args : Array Value) (meth : Method) (c : Code) : Prop :=
  p.tables.exec = Jvm.exec ∧ c.code = M.2.1 ∧ meth.sig.returnType = M.2.2.2 ∧ c.maxLocals = M.2.2.1 ∧ s.vm.findClass M.1.cls = some m.cls ∧ (∀ w ∈ zw_ts, w.before args s = true) ∧ meth.locks = false ∧ meth.name = M.1.name ∧ zw_K g s ∧ zw_T g s s.heap ∧ g.1 ≤ s.heap.size ∧ d ≤ R.frames ∧ 30 * d ≤ R.locals ∧ mc ≤ R.cells ∧ ms ≤ R.slots
def zw_lv (g : zw_G) (lv : List (Nat × Value)) : List (Nat × Value) := lv.map (fun q => (q.1, zw_tr g q.2))
/-- how a method may end with r at pc -/
def zw_rt (M : zw_M) (pc : Nat) : Option Value → Prop
  | none => decode M.2.1 pc = .ok (.return_, 1) ∧ M.2.2.2 = none
  | some (.int v) => decode M.2.1 pc = .ok (.ireturn, 1) ∧ ∃ ty, M.2.2.2 = some ty ∧ narrow ty (.int v) = .int v
  | some (.long _) => decode M.2.1 pc = .ok (.lreturn, 1) ∧ M.2.2.2 = some .long
  | _ => False
def zw (M : zw_M) (d mc ms : Nat) (Q : Option Value → zw_S → zw_H → Prop) (pc : Nat) (lv : List (Nat × Value)) (st : List Value) (sh : zw_S) (h : zw_H) (ck cs : Nat) : Prop :=
  ∀ (p : Program) (l : Launch) (e : Env) (R : Room) (s : State) (m : MethodId) (args : Array Value) (below : List Frame) (meth : Method) (c : Code) (g : zw_G) (H : Heap) (locs : List Loc) (ls : Array Slot) (Z : State → Prop),
    zw_C M d mc ms g p R s m args meth c → zw_W g sh h H → va_S (fun q => g.1 ≤ q) s.heap H locs → lv_has ls M.2.2.1 (zw_lv g lv) →
    (∀ (r : Option Value) (sh' : zw_S) (h' : zw_H) (H' : Heap) (locs' : List Loc) (ls' : Array Slot) (pcr : Nat), Q r sh' h' → zw_W g sh' h' H' → va_S (fun q => g.1 ≤ q) s.heap H' locs' → zw_rt M pcr r →
      W p l e R s m args below meth c H' locs' mc ms Z (F0 m pcr ls' (r.toList.map (zw_tr g)))) →
    W p l e R s m args below meth c H locs ck cs Z (F0 m pc ls (st.map (zw_tr g)))
theorem zw_f1 (g : zw_G) (i : Nat) (lv : List (Nat × Value)) : (zw_lv g lv).filter (fun q => !(q.1 == i) && !(q.1 + 1 == i && q.2.category == 2)) = zw_lv g (lv.filter (fun q => !(q.1 == i) && !(q.1 + 1 == i && q.2.category == 2))) := by
  unfold zw_lv
  rw [List.filter_map]
  congr 1
  exact List.filter_congr (fun q _ => by simp only [Function.comp, zw_tr_cat])
theorem zw_f2 (g : zw_G) (i : Nat) (lv : List (Nat × Value)) : (zw_lv g lv).filter (fun q => !(q.1 == i) && (!(q.1 == i + 1) && !(q.1 + 1 == i && q.2.category == 2))) = zw_lv g (lv.filter (fun q => !(q.1 == i) && (!(q.1 == i + 1) && !(q.1 + 1 == i && q.2.category == 2)))) := by
  unfold zw_lv
  rw [List.filter_map]
  congr 1
  exact List.filter_congr (fun q _ => by simp only [Function.comp, zw_tr_cat])
section ZW
variable {M : zw_M} {d mc ms : Nat} {Q : Option Value → zw_S → zw_H → Prop} {pc np : Nat} {lv : List (Nat × Value)} {st : List Value} {sh : zw_S} {h : zw_H} {ck cs : Nat}
theorem zw.to {lv' : List (Nat × Value)} {st' : List Value} {h' : zw_H} (k : zw M d mc ms Q pc lv' st' sh h' ck cs) (hl : lv = lv') (hs : st = st') (hh : h = h') : zw M d mc ms Q pc lv st sh h ck cs := by subst hl hs hh; exact k
theorem zw.post {Q' : Option Value → zw_S → zw_H → Prop} (k : zw M d mc ms Q' pc lv st sh h ck cs) (hq : ∀ r s' h', Q' r s' h' → Q r s' h') : zw M d mc ms Q pc lv st sh h ck cs :=
  fun p l e R s m args below meth c g H locs ls Z C hW hS hl hZ => k p l e R s m args below meth c g H locs ls Z C hW hS hl (fun r sh' h' H' locs' ls' pcr hq' => hZ r sh' h' H' locs' ls' pcr (hq r sh' h' hq'))
/-- fewer locals, in any order: by their places -/
theorem zw.sub {lv' : List (Nat × Value)} (is : List Nat) (hl : lv_pick lv is = lv') (k : zw M d mc ms Q pc lv' st sh h ck cs) : zw M d mc ms Q pc lv st sh h ck cs := by
  intro p l e R s m args below meth c g H locs ls Z C hW hS hL hZ
  refine k p l e R s m args below meth c g H locs ls Z C hW hS ⟨hL.1, hL.2.1, fun q hq => ?_⟩ hZ
  subst hl
  obtain ⟨q0, h0, rfl⟩ := List.mem_map.mp hq
  obtain ⟨i, -, hi⟩ := List.mem_filterMap.mp h0
  exact hL.2.2 _ (List.mem_map.mpr ⟨q0, List.mem_of_getElem? hi, rfl⟩)

theorem zw_iconst {n : Int} {v : Int32} (hd : decode M.2.1 pc = .ok (.iconst n, 1)) (hv : Int32.ofInt n = v) (hn : pc + 1 = np) (k : zw M d mc ms Q np lv (.int v :: st) sh h ck cs) : zw M d mc ms Q pc lv (st) sh h ck cs := by
  subst hn
  intro p l e R s m args below meth c g H locs ls Z C hW hS hl hZ
  exact lv_iconst C.1 C.2.1 hd hv (k p l e R s m args below meth c g H locs ls Z C hW hS hl hZ)
theorem zw_bipush {n : Int} {v : Int32} (hd : decode M.2.1 pc = .ok (.bipush n, 2)) (hv : (Int8.ofInt n).toInt32 = v) (hn : pc + 2 = np) (k : zw M d mc ms Q np lv (.int v :: st) sh h ck cs) : zw M d mc ms Q pc lv (st) sh h ck cs := by
  subst hn
  intro p l e R s m args below meth c g H locs ls Z C hW hS hl hZ
  exact lv_bipush C.1 C.2.1 hd hv (k p l e R s m args below meth c g H locs ls Z C hW hS hl hZ)
theorem zw_sipush {n : Int} {v : Int32} (hd : decode M.2.1 pc = .ok (.sipush n, 3)) (hv : (Int16.ofInt n).toInt32 = v) (hn : pc + 3 = np) (k : zw M d mc ms Q np lv (.int v :: st) sh h ck cs) : zw M d mc ms Q pc lv (st) sh h ck cs := by
  subst hn
  intro p l e R s m args below meth c g H locs ls Z C hW hS hl hZ
  exact lv_sipush C.1 C.2.1 hd hv (k p l e R s m args below meth c g H locs ls Z C hW hS hl hZ)
theorem zw_lconst {n : Fin 2} {v : Int64} (hd : decode M.2.1 pc = .ok (.lconst n, 1)) (hv : Int64.ofNat (n : Nat) = v) (hn : pc + 1 = np) (k : zw M d mc ms Q np lv (.long v :: st) sh h ck cs) : zw M d mc ms Q pc lv (st) sh h ck cs := by
  subst hn
  intro p l e R s m args below meth c g H locs ls Z C hW hS hl hZ
  exact lv_lconst C.1 C.2.1 hd hv (k p l e R s m args below meth c g H locs ls Z C hW hS hl hZ)
theorem zw_ldc {i : Nat} {v : Int32} (hw : Cond.constant M.1.cls i v ∈ zw_ts) (hd : decode M.2.1 pc = .ok (.ldc i, 2)) (hn : pc + 2 = np) (k : zw M d mc ms Q np lv (.int v :: st) sh h ck cs) : zw M d mc ms Q pc lv (st) sh h ck cs := by
  subst hn
  intro p l e R s m args below meth c g H locs ls Z C hW hS hl hZ
  exact lv_ldc C.1 C.2.1 C.2.2.2.2.1 (C.2.2.2.2.2.1 _ hw) hd (k p l e R s m args below meth c g H locs ls Z C hW hS hl hZ)
theorem zw_ldc_w {i : Nat} {v : Int32} (hw : Cond.constant M.1.cls i v ∈ zw_ts) (hd : decode M.2.1 pc = .ok (.ldc_w i, 3)) (hn : pc + 3 = np) (k : zw M d mc ms Q np lv (.int v :: st) sh h ck cs) : zw M d mc ms Q pc lv (st) sh h ck cs := by
  subst hn
  intro p l e R s m args below meth c g H locs ls Z C hW hS hl hZ
  exact lv_ldcw C.1 C.2.1 C.2.2.2.2.1 (C.2.2.2.2.2.1 _ hw) hd (k p l e R s m args below meth c g H locs ls Z C hW hS hl hZ)
theorem zw_ldc2 {i : Nat} {v : Int64} (hw : Cond.constantLong M.1.cls i v ∈ zw_ts) (hd : decode M.2.1 pc = .ok (.ldc2_w i, 3)) (hn : pc + 3 = np) (k : zw M d mc ms Q np lv (.long v :: st) sh h ck cs) : zw M d mc ms Q pc lv (st) sh h ck cs := by
  subst hn
  intro p l e R s m args below meth c g H locs ls Z C hW hS hl hZ
  exact lv_ldc2 C.1 C.2.1 C.2.2.2.2.1 (C.2.2.2.2.2.1 _ hw) hd (k p l e R s m args below meth c g H locs ls Z C hW hS hl hZ)
theorem zw_iload_n {j : Fin 4} {i : Nat} {x : Int32} (q : Nat) (hd : decode M.2.1 pc = .ok (.iload_n j, 1)) (hi : (j : Nat) = i) (hk : lv[q]? = some (i, .int x)) (hn : pc + 1 = np) (k : zw M d mc ms Q np lv (.int x :: st) sh h ck cs) : zw M d mc ms Q pc lv (st) sh h ck cs := by
  subst hn
  intro p l e R s m args below meth c g H locs ls Z C hW hS hl hZ
  exact lv_iload_n C.1 C.2.1 hd hi (hl.2.2 _ (List.mem_map.mpr ⟨_, List.mem_of_getElem? hk, rfl⟩)) (k p l e R s m args below meth c g H locs ls Z C hW hS hl hZ)
theorem zw_iload {i : Nat} {x : Int32} (q : Nat) (hd : decode M.2.1 pc = .ok (.iload i, 2)) (hk : lv[q]? = some (i, .int x)) (hn : pc + 2 = np) (k : zw M d mc ms Q np lv (.int x :: st) sh h ck cs) : zw M d mc ms Q pc lv (st) sh h ck cs := by
  subst hn
  intro p l e R s m args below meth c g H locs ls Z C hW hS hl hZ
  exact lv_iload C.1 C.2.1 hd (hl.2.2 _ (List.mem_map.mpr ⟨_, List.mem_of_getElem? hk, rfl⟩)) (k p l e R s m args below meth c g H locs ls Z C hW hS hl hZ)
theorem zw_lload_n {j : Fin 4} {i : Nat} {x : Int64} (q : Nat) (hd : decode M.2.1 pc = .ok (.lload_n j, 1)) (hi : (j : Nat) = i) (hk : lv[q]? = some (i, .long x)) (hn : pc + 1 = np) (k : zw M d mc ms Q np lv (.long x :: st) sh h ck cs) : zw M d mc ms Q pc lv (st) sh h ck cs := by
  subst hn
  intro p l e R s m args below meth c g H locs ls Z C hW hS hl hZ
  exact lv_lload_n C.1 C.2.1 hd hi (hl.2.2 _ (List.mem_map.mpr ⟨_, List.mem_of_getElem? hk, rfl⟩)) (k p l e R s m args below meth c g H locs ls Z C hW hS hl hZ)
theorem zw_lload {i : Nat} {x : Int64} (q : Nat) (hd : decode M.2.1 pc = .ok (.lload i, 2)) (hk : lv[q]? = some (i, .long x)) (hn : pc + 2 = np) (k : zw M d mc ms Q np lv (.long x :: st) sh h ck cs) : zw M d mc ms Q pc lv (st) sh h ck cs := by
  subst hn
  intro p l e R s m args below meth c g H locs ls Z C hW hS hl hZ
  exact lv_lload C.1 C.2.1 hd (hl.2.2 _ (List.mem_map.mpr ⟨_, List.mem_of_getElem? hk, rfl⟩)) (k p l e R s m args below meth c g H locs ls Z C hW hS hl hZ)
theorem zw_aload_n {j : Fin 4} {i : Nat} {x : Nat} (q : Nat) (hd : decode M.2.1 pc = .ok (.aload_n j, 1)) (hi : (j : Nat) = i) (hk : lv[q]? = some (i, .ref x)) (hn : pc + 1 = np) (k : zw M d mc ms Q np lv (.ref x :: st) sh h ck cs) : zw M d mc ms Q pc lv (st) sh h ck cs := by
  subst hn
  intro p l e R s m args below meth c g H locs ls Z C hW hS hl hZ
  exact lv_aload_n C.1 C.2.1 hd hi (hl.2.2 _ (List.mem_map.mpr ⟨_, List.mem_of_getElem? hk, rfl⟩)) (k p l e R s m args below meth c g H locs ls Z C hW hS hl hZ)
theorem zw_aload {i : Nat} {x : Nat} (q : Nat) (hd : decode M.2.1 pc = .ok (.aload i, 2)) (hk : lv[q]? = some (i, .ref x)) (hn : pc + 2 = np) (k : zw M d mc ms Q np lv (.ref x :: st) sh h ck cs) : zw M d mc ms Q pc lv (st) sh h ck cs := by
  subst hn
  intro p l e R s m args below meth c g H locs ls Z C hW hS hl hZ
  exact lv_aload C.1 C.2.1 hd (hl.2.2 _ (List.mem_map.mpr ⟨_, List.mem_of_getElem? hk, rfl⟩)) (k p l e R s m args below meth c g H locs ls Z C hW hS hl hZ)
theorem zw_aload_nT {j : Fin 4} {i : Nat} {x : Nat} (q : Nat) (hd : decode M.2.1 pc = .ok (.aload_n j, 1)) (hi : (j : Nat) = i) (hk : lv[q]? = some (i, .retAddr x)) (hn : pc + 1 = np) (k : zw M d mc ms Q np lv (.retAddr x :: st) sh h ck cs) : zw M d mc ms Q pc lv (st) sh h ck cs := by
  subst hn
  intro p l e R s m args below meth c g H locs ls Z C hW hS hl hZ
  exact lv_aload_n C.1 C.2.1 hd hi (hl.2.2 _ (List.mem_map.mpr ⟨_, List.mem_of_getElem? hk, rfl⟩)) (k p l e R s m args below meth c g H locs ls Z C hW hS hl hZ)
theorem zw_istore_n {j : Fin 4} {i : Nat} {x : Int32} (hd : decode M.2.1 pc = .ok (.istore_n j, 1)) (hi : (j : Nat) = i) {lv' : List (Nat × Value)} (hb : i < M.2.2.1) (hl' : (i, .int x) :: lv.filter (fun q => !(q.1 == i) && !(q.1 + 1 == i && q.2.category == 2)) = lv') (hn : pc + 1 = np) (k : zw M d mc ms Q np lv' st sh h ck cs) : zw M d mc ms Q pc lv (.int x :: st) sh h ck cs := by
  subst hn hl'
  intro p l e R s m args below meth c g H locs ls Z C hW hS hl hZ
  refine lv_istore_n C.1 C.2.1 hd hi hl hb rfl (fun ls' h' => k p l e R s m args below meth c g H locs ls' Z C hW hS ?_ hZ)
  exact (congrArg (fun z => lv_has ls' M.2.2.1 ((i, zw_tr g (.int x)) :: z)) (zw_f1 g i lv)).mp h'
theorem zw_istore {i : Nat} {x : Int32} (hd : decode M.2.1 pc = .ok (.istore i, 2)) {lv' : List (Nat × Value)} (hb : i < M.2.2.1) (hl' : (i, .int x) :: lv.filter (fun q => !(q.1 == i) && !(q.1 + 1 == i && q.2.category == 2)) = lv') (hn : pc + 2 = np) (k : zw M d mc ms Q np lv' st sh h ck cs) : zw M d mc ms Q pc lv (.int x :: st) sh h ck cs := by
  subst hn hl'
  intro p l e R s m args below meth c g H locs ls Z C hW hS hl hZ
  refine lv_istore C.1 C.2.1 hd hl hb rfl (fun ls' h' => k p l e R s m args below meth c g H locs ls' Z C hW hS ?_ hZ)
  exact (congrArg (fun z => lv_has ls' M.2.2.1 ((i, zw_tr g (.int x)) :: z)) (zw_f1 g i lv)).mp h'
theorem zw_lstore_n {j : Fin 4} {i : Nat} {x : Int64} (hd : decode M.2.1 pc = .ok (.lstore_n j, 1)) (hi : (j : Nat) = i) {lv' : List (Nat × Value)} (hb : i + 1 < M.2.2.1) (hl' : (i, .long x) :: lv.filter (fun q => !(q.1 == i) && (!(q.1 == i + 1) && !(q.1 + 1 == i && q.2.category == 2))) = lv') (hn : pc + 1 = np) (k : zw M d mc ms Q np lv' st sh h ck cs) : zw M d mc ms Q pc lv (.long x :: st) sh h ck cs := by
  subst hn hl'
  intro p l e R s m args below meth c g H locs ls Z C hW hS hl hZ
  refine lv_lstore_n C.1 C.2.1 hd hi hl hb rfl (fun ls' h' => k p l e R s m args below meth c g H locs ls' Z C hW hS ?_ hZ)
  exact (congrArg (fun z => lv_has ls' M.2.2.1 ((i, zw_tr g (.long x)) :: z)) (zw_f2 g i lv)).mp h'
theorem zw_lstore {i : Nat} {x : Int64} (hd : decode M.2.1 pc = .ok (.lstore i, 2)) {lv' : List (Nat × Value)} (hb : i + 1 < M.2.2.1) (hl' : (i, .long x) :: lv.filter (fun q => !(q.1 == i) && (!(q.1 == i + 1) && !(q.1 + 1 == i && q.2.category == 2))) = lv') (hn : pc + 2 = np) (k : zw M d mc ms Q np lv' st sh h ck cs) : zw M d mc ms Q pc lv (.long x :: st) sh h ck cs := by
  subst hn hl'
  intro p l e R s m args below meth c g H locs ls Z C hW hS hl hZ
  refine lv_lstore C.1 C.2.1 hd hl hb rfl (fun ls' h' => k p l e R s m args below meth c g H locs ls' Z C hW hS ?_ hZ)
  exact (congrArg (fun z => lv_has ls' M.2.2.1 ((i, zw_tr g (.long x)) :: z)) (zw_f2 g i lv)).mp h'
theorem zw_astore_n {j : Fin 4} {i : Nat} {x : Nat} (hd : decode M.2.1 pc = .ok (.astore_n j, 1)) (hi : (j : Nat) = i) {lv' : List (Nat × Value)} (hb : i < M.2.2.1) (hl' : (i, .ref x) :: lv.filter (fun q => !(q.1 == i) && !(q.1 + 1 == i && q.2.category == 2)) = lv') (hn : pc + 1 = np) (k : zw M d mc ms Q np lv' st sh h ck cs) : zw M d mc ms Q pc lv (.ref x :: st) sh h ck cs := by
  subst hn hl'
  intro p l e R s m args below meth c g H locs ls Z C hW hS hl hZ
  refine lv_astore_n C.1 C.2.1 hd hi hl hb rfl (fun ls' h' => k p l e R s m args below meth c g H locs ls' Z C hW hS ?_ hZ)
  exact (congrArg (fun z => lv_has ls' M.2.2.1 ((i, zw_tr g (.ref x)) :: z)) (zw_f1 g i lv)).mp h'
theorem zw_iinc {i : Nat} {n : Int} {x v : Int32} (q : Nat) {lv' : List (Nat × Value)} (hd : decode M.2.1 pc = .ok (.iinc i n, 3)) (hk : lv[q]? = some (i, .int x)) (hv : x + Int32.ofInt n = v) (hb : i < M.2.2.1) (hl' : (i, .int v) :: lv.filter (fun q => !(q.1 == i) && !(q.1 + 1 == i && q.2.category == 2)) = lv') (hn : pc + 3 = np) (k : zw M d mc ms Q np lv' st sh h ck cs) : zw M d mc ms Q pc lv st sh h ck cs := by
  subst hn hl'
  intro p l e R s m args below meth c g H locs ls Z C hW hS hl hZ
  refine lv_iinc (k := q) C.1 C.2.1 hd hl (by unfold zw_lv; rw [List.getElem?_map, hk]; rfl) hv hb rfl (fun ls' h' => k p l e R s m args below meth c g H locs ls' Z C hW hS ?_ hZ)
  exact (congrArg (fun z => lv_has ls' M.2.2.1 ((i, zw_tr g (.int v)) :: z)) (zw_f1 g i lv)).mp h'

theorem zw_iadd {x y : Int32} (hd : decode M.2.1 pc = .ok (.iadd, 1)) (hn : pc + 1 = np) (k : zw M d mc ms Q np lv (.int (x + y) :: st) sh h ck cs) : zw M d mc ms Q pc lv (.int y :: .int x :: st) sh h ck cs := by
  subst hn
  intro p l e R s m args below meth c g H locs ls Z C hW hS hl hZ
  exact lv_iadd C.1 C.2.1 hd (k p l e R s m args below meth c g H locs ls Z C hW hS hl hZ)
theorem zw_isub {x y : Int32} (hd : decode M.2.1 pc = .ok (.isub, 1)) (hn : pc + 1 = np) (k : zw M d mc ms Q np lv (.int (x - y) :: st) sh h ck cs) : zw M d mc ms Q pc lv (.int y :: .int x :: st) sh h ck cs := by
  subst hn
  intro p l e R s m args below meth c g H locs ls Z C hW hS hl hZ
  exact lv_isub C.1 C.2.1 hd (k p l e R s m args below meth c g H locs ls Z C hW hS hl hZ)
theorem zw_imul {x y : Int32} (hd : decode M.2.1 pc = .ok (.imul, 1)) (hn : pc + 1 = np) (k : zw M d mc ms Q np lv (.int (x * y) :: st) sh h ck cs) : zw M d mc ms Q pc lv (.int y :: .int x :: st) sh h ck cs := by
  subst hn
  intro p l e R s m args below meth c g H locs ls Z C hW hS hl hZ
  exact lv_imul C.1 C.2.1 hd (k p l e R s m args below meth c g H locs ls Z C hW hS hl hZ)
theorem zw_iand {x y : Int32} (hd : decode M.2.1 pc = .ok (.iand, 1)) (hn : pc + 1 = np) (k : zw M d mc ms Q np lv (.int (x &&& y) :: st) sh h ck cs) : zw M d mc ms Q pc lv (.int y :: .int x :: st) sh h ck cs := by
  subst hn
  intro p l e R s m args below meth c g H locs ls Z C hW hS hl hZ
  exact lv_iand C.1 C.2.1 hd (k p l e R s m args below meth c g H locs ls Z C hW hS hl hZ)
theorem zw_ior {x y : Int32} (hd : decode M.2.1 pc = .ok (.ior, 1)) (hn : pc + 1 = np) (k : zw M d mc ms Q np lv (.int (x ||| y) :: st) sh h ck cs) : zw M d mc ms Q pc lv (.int y :: .int x :: st) sh h ck cs := by
  subst hn
  intro p l e R s m args below meth c g H locs ls Z C hW hS hl hZ
  exact lv_ior C.1 C.2.1 hd (k p l e R s m args below meth c g H locs ls Z C hW hS hl hZ)
theorem zw_ixor {x y : Int32} (hd : decode M.2.1 pc = .ok (.ixor, 1)) (hn : pc + 1 = np) (k : zw M d mc ms Q np lv (.int (x ^^^ y) :: st) sh h ck cs) : zw M d mc ms Q pc lv (.int y :: .int x :: st) sh h ck cs := by
  subst hn
  intro p l e R s m args below meth c g H locs ls Z C hW hS hl hZ
  exact lv_ixor C.1 C.2.1 hd (k p l e R s m args below meth c g H locs ls Z C hW hS hl hZ)
theorem zw_ishl {x y : Int32} (hd : decode M.2.1 pc = .ok (.ishl, 1)) (hn : pc + 1 = np) (k : zw M d mc ms Q np lv (.int (x <<< (y &&& 31)) :: st) sh h ck cs) : zw M d mc ms Q pc lv (.int y :: .int x :: st) sh h ck cs := by
  subst hn
  intro p l e R s m args below meth c g H locs ls Z C hW hS hl hZ
  exact lv_ishl C.1 C.2.1 hd (k p l e R s m args below meth c g H locs ls Z C hW hS hl hZ)
theorem zw_ishr {x y : Int32} (hd : decode M.2.1 pc = .ok (.ishr, 1)) (hn : pc + 1 = np) (k : zw M d mc ms Q np lv (.int (x >>> (y &&& 31)) :: st) sh h ck cs) : zw M d mc ms Q pc lv (.int y :: .int x :: st) sh h ck cs := by
  subst hn
  intro p l e R s m args below meth c g H locs ls Z C hW hS hl hZ
  exact lv_ishr C.1 C.2.1 hd (k p l e R s m args below meth c g H locs ls Z C hW hS hl hZ)
theorem zw_ladd {x y : Int64} (hd : decode M.2.1 pc = .ok (.ladd, 1)) (hn : pc + 1 = np) (k : zw M d mc ms Q np lv (.long (x + y) :: st) sh h ck cs) : zw M d mc ms Q pc lv (.long y :: .long x :: st) sh h ck cs := by
  subst hn
  intro p l e R s m args below meth c g H locs ls Z C hW hS hl hZ
  exact lv_ladd C.1 C.2.1 hd (k p l e R s m args below meth c g H locs ls Z C hW hS hl hZ)
theorem zw_lsub {x y : Int64} (hd : decode M.2.1 pc = .ok (.lsub, 1)) (hn : pc + 1 = np) (k : zw M d mc ms Q np lv (.long (x - y) :: st) sh h ck cs) : zw M d mc ms Q pc lv (.long y :: .long x :: st) sh h ck cs := by
  subst hn
  intro p l e R s m args below meth c g H locs ls Z C hW hS hl hZ
  exact lv_lsub C.1 C.2.1 hd (k p l e R s m args below meth c g H locs ls Z C hW hS hl hZ)
theorem zw_lmul {x y : Int64} (hd : decode M.2.1 pc = .ok (.lmul, 1)) (hn : pc + 1 = np) (k : zw M d mc ms Q np lv (.long (x * y) :: st) sh h ck cs) : zw M d mc ms Q pc lv (.long y :: .long x :: st) sh h ck cs := by
  subst hn
  intro p l e R s m args below meth c g H locs ls Z C hW hS hl hZ
  exact lv_lmul C.1 C.2.1 hd (k p l e R s m args below meth c g H locs ls Z C hW hS hl hZ)
theorem zw_lneg {x : Int64} (hd : decode M.2.1 pc = .ok (.lneg, 1)) (hn : pc + 1 = np) (k : zw M d mc ms Q np lv (.long (-x) :: st) sh h ck cs) : zw M d mc ms Q pc lv (.long x :: st) sh h ck cs := by
  subst hn
  intro p l e R s m args below meth c g H locs ls Z C hW hS hl hZ
  exact lv_lneg C.1 C.2.1 hd (k p l e R s m args below meth c g H locs ls Z C hW hS hl hZ)
theorem zw_lcmp {x y : Int64} (hd : decode M.2.1 pc = .ok (.lcmp, 1)) (hn : pc + 1 = np) (k : zw M d mc ms Q np lv (.int (lg_cmp x y) :: st) sh h ck cs) : zw M d mc ms Q pc lv (.long y :: .long x :: st) sh h ck cs := by
  subst hn
  intro p l e R s m args below meth c g H locs ls Z C hW hS hl hZ
  exact W.lcmp C.1 C.2.1 hd (k p l e R s m args below meth c g H locs ls Z C hW hS hl hZ)
theorem zw_idiv {x y : Int32} (hd : decode M.2.1 pc = .ok (.idiv, 1)) (hy : ¬ y = 0) (hn : pc + 1 = np) (k : zw M d mc ms Q np lv (.int (x / y) :: st) sh h ck cs) : zw M d mc ms Q pc lv (.int y :: .int x :: st) sh h ck cs := by
  subst hn
  intro p l e R s m args below meth c g H locs ls Z C hW hS hl hZ
  exact lv_idiv C.1 C.2.1 hd hy (k p l e R s m args below meth c g H locs ls Z C hW hS hl hZ)
theorem zw_irem {x y : Int32} (hd : decode M.2.1 pc = .ok (.irem, 1)) (hy : ¬ y = 0) (hn : pc + 1 = np) (k : zw M d mc ms Q np lv (.int (x - x / y * y) :: st) sh h ck cs) : zw M d mc ms Q pc lv (.int y :: .int x :: st) sh h ck cs := by
  subst hn
  intro p l e R s m args below meth c g H locs ls Z C hW hS hl hZ
  exact lv_irem C.1 C.2.1 hd hy (k p l e R s m args below meth c g H locs ls Z C hW hS hl hZ)
theorem zw_iushr {x y : Int32} (hd : decode M.2.1 pc = .ok (.iushr, 1)) (hn : pc + 1 = np) (k : zw M d mc ms Q np lv (.int ((x.toUInt32 >>> (y.toUInt32 &&& Int32.toUInt32 31)).toInt32) :: st) sh h ck cs) : zw M d mc ms Q pc lv (.int y :: .int x :: st) sh h ck cs := by
  subst hn
  intro p l e R s m args below meth c g H locs ls Z C hW hS hl hZ
  exact lv_iushr C.1 C.2.1 hd rfl (k p l e R s m args below meth c g H locs ls Z C hW hS hl hZ)
theorem zw_i2l {x : Int32} (hd : decode M.2.1 pc = .ok (.i2l, 1)) (hn : pc + 1 = np) (k : zw M d mc ms Q np lv (.long x.toInt64 :: st) sh h ck cs) : zw M d mc ms Q pc lv (.int x :: st) sh h ck cs := by
  subst hn
  intro p l e R s m args below meth c g H locs ls Z C hW hS hl hZ
  exact lv_i2l C.1 C.2.1 hd rfl (k p l e R s m args below meth c g H locs ls Z C hW hS hl hZ)
theorem zw_l2i {x : Int64} (hd : decode M.2.1 pc = .ok (.l2i, 1)) (hn : pc + 1 = np) (k : zw M d mc ms Q np lv (.int x.toInt32 :: st) sh h ck cs) : zw M d mc ms Q pc lv (.long x :: st) sh h ck cs := by
  subst hn
  intro p l e R s m args below meth c g H locs ls Z C hW hS hl hZ
  exact lv_l2i C.1 C.2.1 hd rfl (k p l e R s m args below meth c g H locs ls Z C hW hS hl hZ)
theorem zw_dup {v : Value} (hd : decode M.2.1 pc = .ok (.dup, 1)) (h1 : v.category = 1) (hn : pc + 1 = np) (k : zw M d mc ms Q np lv (v :: v :: st) sh h ck cs) : zw M d mc ms Q pc lv (v :: st) sh h ck cs := by
  subst hn
  intro p l e R s m args below meth c g H locs ls Z C hW hS hl hZ
  exact lv_dup C.1 C.2.1 hd (by rw [zw_tr_cat]; exact h1) (k p l e R s m args below meth c g H locs ls Z C hW hS hl hZ)
theorem zw_pop {v : Value} (hd : decode M.2.1 pc = .ok (.pop, 1)) (h1 : v.category = 1) (hn : pc + 1 = np) (k : zw M d mc ms Q np lv (st) sh h ck cs) : zw M d mc ms Q pc lv (v :: st) sh h ck cs := by
  subst hn
  intro p l e R s m args below meth c g H locs ls Z C hW hS hl hZ
  exact lv_pop C.1 C.2.1 hd (by rw [zw_tr_cat]; exact h1) (k p l e R s m args below meth c g H locs ls Z C hW hS hl hZ)
theorem zw_dup2 {v u : Value} (hd : decode M.2.1 pc = .ok (.dup2, 1)) (h1 : v.category = 1) (h2 : u.category = 1) (hn : pc + 1 = np) (k : zw M d mc ms Q np lv (v :: u :: v :: u :: st) sh h ck cs) : zw M d mc ms Q pc lv (v :: u :: st) sh h ck cs := by
  subst hn
  intro p l e R s m args below meth c g H locs ls Z C hW hS hl hZ
  exact lv_dup2_11 C.1 C.2.1 hd (by rw [zw_tr_cat]; exact h1) (by rw [zw_tr_cat]; exact h2) (k p l e R s m args below meth c g H locs ls Z C hW hS hl hZ)
theorem zw_goto {off : Int} (hd : decode M.2.1 pc = .ok (.goto off, 3)) (ht : (pc : Int) + off = (np : Int)) (k : zw M d mc ms Q np lv st sh h ck cs) : zw M d mc ms Q pc lv st sh h ck cs := by
  intro p l e R s m args below meth c g H locs ls Z C hW hS hl hZ
  exact lv_goto C.1 C.2.1 hd ht (k p l e R s m args below meth c g H locs ls Z C hW hS hl hZ)
theorem zw_if_eq {x : Int32} {off : Int} {tg : Nat} (hd : decode M.2.1 pc = .ok (.ifCond .eq off, 3)) (ht : (pc : Int) + off = (tg : Int)) (hn : pc + 3 = np) (kt : x = 0 → zw M d mc ms Q tg lv st sh h ck cs) (kf : ¬ x = 0 → zw M d mc ms Q np lv st sh h ck cs) : zw M d mc ms Q pc lv (.int x :: st) sh h ck cs := by
  subst hn
  intro p l e R s m args below meth c g H locs ls Z C hW hS hl hZ
  exact lv_if_eq C.1 C.2.1 hd ht (fun q => kt q p l e R s m args below meth c g H locs ls Z C hW hS hl hZ) (fun q => kf q p l e R s m args below meth c g H locs ls Z C hW hS hl hZ)
theorem zw_icmp_eq {x y : Int32} {off : Int} {tg : Nat} (hd : decode M.2.1 pc = .ok (.if_icmp .eq off, 3)) (ht : (pc : Int) + off = (tg : Int)) (hn : pc + 3 = np) (kt : x = y → zw M d mc ms Q tg lv st sh h ck cs) (kf : ¬ x = y → zw M d mc ms Q np lv st sh h ck cs) : zw M d mc ms Q pc lv (.int y :: .int x :: st) sh h ck cs := by
  subst hn
  intro p l e R s m args below meth c g H locs ls Z C hW hS hl hZ
  exact lv_icmp_eq C.1 C.2.1 hd ht (fun q => kt q p l e R s m args below meth c g H locs ls Z C hW hS hl hZ) (fun q => kf q p l e R s m args below meth c g H locs ls Z C hW hS hl hZ)
theorem zw_if_ne {x : Int32} {off : Int} {tg : Nat} (hd : decode M.2.1 pc = .ok (.ifCond .ne off, 3)) (ht : (pc : Int) + off = (tg : Int)) (hn : pc + 3 = np) (kt : ¬ x = 0 → zw M d mc ms Q tg lv st sh h ck cs) (kf : x = 0 → zw M d mc ms Q np lv st sh h ck cs) : zw M d mc ms Q pc lv (.int x :: st) sh h ck cs := by
  subst hn
  intro p l e R s m args below meth c g H locs ls Z C hW hS hl hZ
  exact lv_if_ne C.1 C.2.1 hd ht (fun q => kt q p l e R s m args below meth c g H locs ls Z C hW hS hl hZ) (fun q => kf q p l e R s m args below meth c g H locs ls Z C hW hS hl hZ)
theorem zw_icmp_ne {x y : Int32} {off : Int} {tg : Nat} (hd : decode M.2.1 pc = .ok (.if_icmp .ne off, 3)) (ht : (pc : Int) + off = (tg : Int)) (hn : pc + 3 = np) (kt : ¬ x = y → zw M d mc ms Q tg lv st sh h ck cs) (kf : x = y → zw M d mc ms Q np lv st sh h ck cs) : zw M d mc ms Q pc lv (.int y :: .int x :: st) sh h ck cs := by
  subst hn
  intro p l e R s m args below meth c g H locs ls Z C hW hS hl hZ
  exact lv_icmp_ne C.1 C.2.1 hd ht (fun q => kt q p l e R s m args below meth c g H locs ls Z C hW hS hl hZ) (fun q => kf q p l e R s m args below meth c g H locs ls Z C hW hS hl hZ)
theorem zw_if_lt {x : Int32} {off : Int} {tg : Nat} (hd : decode M.2.1 pc = .ok (.ifCond .lt off, 3)) (ht : (pc : Int) + off = (tg : Int)) (hn : pc + 3 = np) (kt : x < 0 → zw M d mc ms Q tg lv st sh h ck cs) (kf : ¬ x < 0 → zw M d mc ms Q np lv st sh h ck cs) : zw M d mc ms Q pc lv (.int x :: st) sh h ck cs := by
  subst hn
  intro p l e R s m args below meth c g H locs ls Z C hW hS hl hZ
  exact lv_if_lt C.1 C.2.1 hd ht (fun q => kt q p l e R s m args below meth c g H locs ls Z C hW hS hl hZ) (fun q => kf q p l e R s m args below meth c g H locs ls Z C hW hS hl hZ)
theorem zw_icmp_lt {x y : Int32} {off : Int} {tg : Nat} (hd : decode M.2.1 pc = .ok (.if_icmp .lt off, 3)) (ht : (pc : Int) + off = (tg : Int)) (hn : pc + 3 = np) (kt : x < y → zw M d mc ms Q tg lv st sh h ck cs) (kf : ¬ x < y → zw M d mc ms Q np lv st sh h ck cs) : zw M d mc ms Q pc lv (.int y :: .int x :: st) sh h ck cs := by
  subst hn
  intro p l e R s m args below meth c g H locs ls Z C hW hS hl hZ
  exact lv_icmp_lt C.1 C.2.1 hd ht (fun q => kt q p l e R s m args below meth c g H locs ls Z C hW hS hl hZ) (fun q => kf q p l e R s m args below meth c g H locs ls Z C hW hS hl hZ)
theorem zw_if_ge {x : Int32} {off : Int} {tg : Nat} (hd : decode M.2.1 pc = .ok (.ifCond .ge off, 3)) (ht : (pc : Int) + off = (tg : Int)) (hn : pc + 3 = np) (kt : 0 ≤ x → zw M d mc ms Q tg lv st sh h ck cs) (kf : ¬ 0 ≤ x → zw M d mc ms Q np lv st sh h ck cs) : zw M d mc ms Q pc lv (.int x :: st) sh h ck cs := by
  subst hn
  intro p l e R s m args below meth c g H locs ls Z C hW hS hl hZ
  exact lv_if_ge C.1 C.2.1 hd ht (fun q => kt q p l e R s m args below meth c g H locs ls Z C hW hS hl hZ) (fun q => kf q p l e R s m args below meth c g H locs ls Z C hW hS hl hZ)
theorem zw_icmp_ge {x y : Int32} {off : Int} {tg : Nat} (hd : decode M.2.1 pc = .ok (.if_icmp .ge off, 3)) (ht : (pc : Int) + off = (tg : Int)) (hn : pc + 3 = np) (kt : y ≤ x → zw M d mc ms Q tg lv st sh h ck cs) (kf : ¬ y ≤ x → zw M d mc ms Q np lv st sh h ck cs) : zw M d mc ms Q pc lv (.int y :: .int x :: st) sh h ck cs := by
  subst hn
  intro p l e R s m args below meth c g H locs ls Z C hW hS hl hZ
  exact lv_icmp_ge C.1 C.2.1 hd ht (fun q => kt q p l e R s m args below meth c g H locs ls Z C hW hS hl hZ) (fun q => kf q p l e R s m args below meth c g H locs ls Z C hW hS hl hZ)
theorem zw_if_gt {x : Int32} {off : Int} {tg : Nat} (hd : decode M.2.1 pc = .ok (.ifCond .gt off, 3)) (ht : (pc : Int) + off = (tg : Int)) (hn : pc + 3 = np) (kt : 0 < x → zw M d mc ms Q tg lv st sh h ck cs) (kf : ¬ 0 < x → zw M d mc ms Q np lv st sh h ck cs) : zw M d mc ms Q pc lv (.int x :: st) sh h ck cs := by
  subst hn
  intro p l e R s m args below meth c g H locs ls Z C hW hS hl hZ
  exact lv_if_gt C.1 C.2.1 hd ht (fun q => kt q p l e R s m args below meth c g H locs ls Z C hW hS hl hZ) (fun q => kf q p l e R s m args below meth c g H locs ls Z C hW hS hl hZ)
theorem zw_icmp_gt {x y : Int32} {off : Int} {tg : Nat} (hd : decode M.2.1 pc = .ok (.if_icmp .gt off, 3)) (ht : (pc : Int) + off = (tg : Int)) (hn : pc + 3 = np) (kt : y < x → zw M d mc ms Q tg lv st sh h ck cs) (kf : ¬ y < x → zw M d mc ms Q np lv st sh h ck cs) : zw M d mc ms Q pc lv (.int y :: .int x :: st) sh h ck cs := by
  subst hn
  intro p l e R s m args below meth c g H locs ls Z C hW hS hl hZ
  exact lv_icmp_gt C.1 C.2.1 hd ht (fun q => kt q p l e R s m args below meth c g H locs ls Z C hW hS hl hZ) (fun q => kf q p l e R s m args below meth c g H locs ls Z C hW hS hl hZ)
theorem zw_if_le {x : Int32} {off : Int} {tg : Nat} (hd : decode M.2.1 pc = .ok (.ifCond .le off, 3)) (ht : (pc : Int) + off = (tg : Int)) (hn : pc + 3 = np) (kt : x ≤ 0 → zw M d mc ms Q tg lv st sh h ck cs) (kf : ¬ x ≤ 0 → zw M d mc ms Q np lv st sh h ck cs) : zw M d mc ms Q pc lv (.int x :: st) sh h ck cs := by
  subst hn
  intro p l e R s m args below meth c g H locs ls Z C hW hS hl hZ
  exact lv_if_le C.1 C.2.1 hd ht (fun q => kt q p l e R s m args below meth c g H locs ls Z C hW hS hl hZ) (fun q => kf q p l e R s m args below meth c g H locs ls Z C hW hS hl hZ)
theorem zw_icmp_le {x y : Int32} {off : Int} {tg : Nat} (hd : decode M.2.1 pc = .ok (.if_icmp .le off, 3)) (ht : (pc : Int) + off = (tg : Int)) (hn : pc + 3 = np) (kt : x ≤ y → zw M d mc ms Q tg lv st sh h ck cs) (kf : ¬ x ≤ y → zw M d mc ms Q np lv st sh h ck cs) : zw M d mc ms Q pc lv (.int y :: .int x :: st) sh h ck cs := by
  subst hn
  intro p l e R s m args below meth c g H locs ls Z C hW hS hl hZ
  exact lv_icmp_le C.1 C.2.1 hd ht (fun q => kt q p l e R s m args below meth c g H locs ls Z C hW hS hl hZ) (fun q => kf q p l e R s m args below meth c g H locs ls Z C hW hS hl hZ)
theorem zw_tabOut {dflt lo hi : Int} {offs : Array Int} {len : Nat} {x : Int32} (hd : decode M.2.1 pc = .ok (.tableswitch dflt lo hi offs, len)) (hx : x.toInt < lo ∨ hi < x.toInt) (ht : (pc : Int) + dflt = (np : Int)) (k : zw M d mc ms Q np lv st sh h ck cs) : zw M d mc ms Q pc lv (.int x :: st) sh h ck cs := by
  intro p l e R s m args below meth c g H locs ls Z C hW hS hl hZ
  exact lv_tableOut C.1 C.2.1 hd hx ht (k p l e R s m args below meth c g H locs ls Z C hW hS hl hZ)
theorem zw_tabIn {dflt lo hi : Int} {offs : Array Int} {len : Nat} {x : Int32} {off : Int} (hd : decode M.2.1 pc = .ok (.tableswitch dflt lo hi offs, len)) (h1 : ¬ x.toInt < lo) (h2 : ¬ hi < x.toInt) (ho : offs[(x.toInt - lo).toNat]? = some off) (ht : (pc : Int) + off = (np : Int)) (k : zw M d mc ms Q np lv st sh h ck cs) : zw M d mc ms Q pc lv (.int x :: st) sh h ck cs := by
  intro p l e R s m args below meth c g H locs ls Z C hW hS hl hZ
  exact lv_tableIn C.1 C.2.1 hd h1 h2 ho ht (k p l e R s m args below meth c g H locs ls Z C hW hS hl hZ)
theorem zw_ireturn {x : Int32} {ty : FieldType} (hd : decode M.2.1 pc = .ok (.ireturn, 1)) (hr : M.2.2.2 = some ty) (hn : narrow ty (.int x) = .int x) (hk : ck ≤ mc) (hc : cs ≤ ms) (k : Q (some (.int x)) sh h) : zw M d mc ms Q pc lv [.int x] sh h ck cs := by
  intro p l e R s m args below meth c g H locs ls Z C hW hS hl hZ
  exact W.widen hk hc (hZ (some (.int x)) sh h H locs ls pc k hW hS ⟨hd, ty, hr, hn⟩)
theorem zw_lreturn {x : Int64} (hd : decode M.2.1 pc = .ok (.lreturn, 1)) (hr : M.2.2.2 = some .long) (hk : ck ≤ mc) (hc : cs ≤ ms) (k : Q (some (.long x)) sh h) : zw M d mc ms Q pc lv [.long x] sh h ck cs := by
  intro p l e R s m args below meth c g H locs ls Z C hW hS hl hZ
  exact W.widen hk hc (hZ (some (.long x)) sh h H locs ls pc k hW hS ⟨hd, hr⟩)
theorem zw_return (hd : decode M.2.1 pc = .ok (.return_, 1)) (hr : M.2.2.2 = none) (hk : ck ≤ mc) (hc : cs ≤ ms) (k : Q none sh h) : zw M d mc ms Q pc lv [] sh h ck cs := by
  intro p l e R s m args below meth c g H locs ls Z C hW hS hl hZ
  exact W.widen hk hc (hZ none sh h H locs ls pc k hW hS ⟨hd, hr⟩)
end ZW
end
section
def zw_fld (own : String) (i ci k : Nat) (C : String) (T : u_T) (N : Nat) : Prop := vwCl[ci]? = some (C, T, N) ∧ (∀ w ∈ u_ws C T N, w ∈ zw_ts) ∧ k < N ∧ (T k).1 = C ∧ Cond.fieldLink own i C (T k).2.1 (T k).2.2.1 ∈ zw_ts
def zw_cls (C : String) (T : u_T) (N : Nat) (ty : Nat → FieldType) : Prop := (∀ k, k < N → parseFieldDescriptor (T k).2.2.1 = some (ty k)) ∧ (∀ a, a < N → ∀ b, b < N → a ≠ b → (T a).2.1 ≠ (T b).2.1)
theorem zw_set_self {sh : zw_S} {k : Nat} {e : zw_E} (hk : sh[k]? = some e) : sh = sh.set k e := by
  apply List.ext_getElem?
  intro j
  by_cases hj : j = k
  · subst hj
    rw [List.getElem?_set_self (List.getElem?_eq_some_iff.mp hk).1, hk]
  · rw [List.getElem?_set_ne (Ne.symm hj)]
def zw_z (h : zw_H) (k : Nat) : zw_H := (fun a b => if a = k then 0 else h.1 a b, fun a b => if a = k then 0 else h.2 a b)
theorem zw_cell_z (g : zw_G) (h : zw_H) (k : Nat) (a : Nat) (f : zw_E) (ha : a ≠ k) : zw_cell g (zw_z h k) a f = zw_cell g h a f := by
  have e : (zw_z h k).1 a = h.1 a := by funext b; simp [zw_z, ha]
  have e2 : (zw_z h k).2 a = h.2 a := by funext b; simp [zw_z, ha]
  unfold zw_cell
  rcases f with f | ⟨n, f⟩
  · simp only [e]
  · split <;> simp_all
theorem zw_put {g : zw_G} {h : zw_H} {q k ci : Nat} {fs : List (Option (Option Nat))} {x : Int32} (hs : fs[k]? = some none) : zw_cell g (zw_sI h q k x) q (.inl (ci, fs)) = .inr (ci, (fs.mapIdx (fun j y => zw_sl g y (h.1 q j))).set k (.int x)) := by
  show Sum.inr (ci, fs.mapIdx (fun j y => zw_sl g y ((zw_sI h q k x).1 q j))) = _
  congr 2
  apply List.ext_getElem?
  intro j
  have hl := (List.getElem?_eq_some_iff.mp hs).1
  by_cases hj : j = k
  · subst hj
    rw [List.getElem?_set_self (by simpa using hl), List.getElem?_mapIdx, hs, zw_sI_s]
    rfl
  · rw [List.getElem?_set_ne (Ne.symm hj), List.getElem?_mapIdx, List.getElem?_mapIdx, zw_sI_n (Or.inr hj)]
theorem zw_putR' {g : zw_G} {h : zw_H} {q k ci r : Nat} {fs : List (Option (Option Nat))} (hs : k < fs.length) : zw_cell g h q (.inl (ci, fs.set k (some (some r)))) = .inr (ci, (fs.mapIdx (fun j y => zw_sl g y (h.1 q j))).set k (.ref (g.1 + r))) := by
  show Sum.inr (ci, (fs.set k (some (some r))).mapIdx (fun j y => zw_sl g y (h.1 q j))) = _
  congr 2
  apply List.ext_getElem?
  intro j
  by_cases hj : j = k
  · subst hj
    rw [List.getElem?_set_self (by simpa using hs), List.getElem?_mapIdx, List.getElem?_set_self hs]
    rfl
  · rw [List.getElem?_set_ne (Ne.symm hj), List.getElem?_mapIdx, List.getElem?_mapIdx, List.getElem?_set_ne (Ne.symm hj)]
theorem zw_upd {h : zw_H} {q j : Nat} {x : Int32} : upd (h.1 q) j x = (zw_sI h q j x).1 q := by
  funext b
  simp [upd, zw_sI]
theorem zw_updL {h : zw_H} {q j : Nat} {x : Int64} : vp_updL (h.2 q) j x = (zw_sL h q j x).2 q := by
  funext b
  simp [vp_updL, zw_sL]
section ZH
variable {M : zw_M} {d mc ms : Nat} {Q : Option Value → zw_S → zw_H → Prop} {pc np : Nat} {lv : List (Nat × Value)} {st : List Value} {sh : zw_S} {h : zw_H} {ck cs : Nat}
theorem zw_get {i ci k q N : Nat} {C : String} {T : u_T} {fs : List (Option (Option Nat))} {y : Option (Option Nat)} {v : Value} (hf : zw_fld M.1.cls i ci k C T N) (hd : decode M.2.1 pc = .ok (.getfield i, 3)) (hq : sh[q]? = some (.inl (ci, fs))) (hs : fs[k]? = some y) (hv : ∀ g : zw_G, zw_sl g y (h.1 q k) = zw_tr g v) (hn : pc + 3 = np) (kk : zw M d mc ms Q np lv (v :: st) sh h ck cs) : zw M d mc ms Q pc lv (.ref q :: st) sh h ck cs := by
  subst hn
  intro p l e R s m args below meth c g H locs ls Z C0 hW hS hl hZ
  obtain ⟨h1, h2, h3, h4, h5⟩ := hf
  have hts := C0.2.2.2.2.2.1
  have hK := C0.2.2.2.2.2.2.2.2.1
  have hv2 := hv g
  have hsl : (fs.mapIdx (fun j y => zw_sl g y (h.1 q j)))[k]? = some (zw_tr g v) := by
    rw [List.getElem?_mapIdx, hs, ← hv2]
    rfl
  exact va_get C0.1 C0.2.1 hts h2 C0.2.2.2.2.1 hK.1 hW.2 q (zw_ws_at hq) h1 _ h3 (hts _ h5) (fun x hx => by rw [h4] at hx; exact hx) hsl hd (kk p l e R s m args below meth c g H locs ls Z C0 hW hS hl hZ)
theorem zw_getI {i ci k q N : Nat} {C : String} {T : u_T} {fs : List (Option (Option Nat))} (hf : zw_fld M.1.cls i ci k C T N) (hd : decode M.2.1 pc = .ok (.getfield i, 3)) (hq : sh[q]? = some (.inl (ci, fs))) (hs : fs[k]? = some none) (hn : pc + 3 = np) (k : zw M d mc ms Q np lv (.int (h.1 q k) :: st) sh h ck cs) : zw M d mc ms Q pc lv (.ref q :: st) sh h ck cs := zw_get hf hd hq hs (fun _ => rfl) hn k
theorem zw_getR {i ci k q N r : Nat} {C : String} {T : u_T} {fs : List (Option (Option Nat))} (hf : zw_fld M.1.cls i ci k C T N) (hd : decode M.2.1 pc = .ok (.getfield i, 3)) (hq : sh[q]? = some (.inl (ci, fs))) (hs : fs[k]? = some (some (some r))) (hn : pc + 3 = np) (k : zw M d mc ms Q np lv (.ref r :: st) sh h ck cs) : zw M d mc ms Q pc lv (.ref q :: st) sh h ck cs := zw_get hf hd hq hs (fun _ => rfl) hn k

/-- what a put needs of the class's tables -/
theorem zw_slot {g : zw_G} {s : State} {ci k N : Nat} {C : String} {T : u_T} {ty : Nat → FieldType} {H : Heap} {a : Nat} {fs : List Value} (hc : vwCl[ci]? = some (C, T, N)) (hin : ∀ w ∈ u_ws C T N, w ∈ zw_ts) (hT : zw_cls C T N ty) {args : Array Value} (hts : ∀ w ∈ zw_ts, w.before args s = true) (hK : zw_K g s) (hk : k < N) (hat : va_at g.2.2.2 vwCl (a, .inr (ci, fs)) H) :
    ∃ (cell : Cell) (kC : Class) (cf fi : Nat) (kf : Class) (f : Field), H[a]? = some cell ∧ cell.vm = .none ∧ cell.cls = g.2.2.2.1 ci ∧ s.vm.findClass C = some (g.2.2.2.1 ci) ∧ s.vm.classes[g.2.2.2.1 ci]? = some kC ∧ kC.kind = .ordinary ∧ s.fieldFound? (T k).1 (T k).2.1 (T k).2.2.1 = some (cf, kf, fi, f) ∧ f.slot = g.2.2.2.2 ci k ∧ f.isStatic = false ∧ f.slot < cell.slots.size ∧
      ∀ (v : Value) (H1 : Heap), k < fs.length → H1[a]? = some (cell.setSlot f.slot v) → va_at g.2.2.2 vwCl (a, .inr (ci, fs.set k v)) H1 := by
  obtain ⟨r, hr1, cell, q1, q2, q3, q4⟩ := hat
  have hr : r = (C, T, N) := Option.some.inj (hr1.symm.trans hc)
  subst hr
  obtain ⟨hS, hfc, kC, hkC, hkind⟩ := hK.1.1 ci _ hc
  obtain ⟨cf, kf, fi, f, hi, hsl⟩ := hS k hk
  have hap := va_apart (own := C) (args := args) hts hin ty hT.1 hT.2 hK.1 hc
  refine ⟨cell, kC, cf, fi, kf, f, q1, q3, q2, hfc, hkC, hkind, hi, hsl, (u_facts hfc hkC (u_lays (args := args) hts hin hk) hi).1, by rw [hsl]; exact k2_hasslot (q4 k hk), fun v H1 hl e1 => ?_⟩
  rw [hsl] at e1
  exact ⟨_, hc, t_OB.to (V := updV (vp_V fs) k v) ⟨_, e1, q2, q3, t_set q4 hap hk v⟩ (fun j _ => vp_updV_set hl v j)⟩
theorem zw_putW {g : zw_G} {sh sh' : zw_S} {h h' : zw_H} {H H1 : Heap} {q : Nat} {x y : va_E} (hW : zw_W g sh h H) (hlen : sh'.length = sh.length) (he : (zw_ws g sh h)[q]? = some (g.1 + q, x)) (es : (zw_ws g sh h).set q (g.1 + q, y) = zw_ws g sh' h') (z : H1.size = H.size) (oq : ∀ a : Nat, a ≠ g.1 + q → H1[a]? = H[a]?) (hat : va_at g.2.2.2 vwCl (g.1 + q, y) H1) : zw_W g sh' h' H1 :=
  ⟨by rw [z, hW.1, hlen], by rw [← es]; exact hW.2.set (zw_D g sh h) he hat oq⟩
theorem zw_putI {i ci k q N : Nat} {C : String} {T : u_T} {ty : Nat → FieldType} {fs : List (Option (Option Nat))} {x : Int32} (hf : zw_fld M.1.cls i ci k C T N) (hT : zw_cls C T N ty) (hfin : (T k).2.2.2 = false) (hx : narrow (ty k) (.int x) = .int x ∧ fits (ty k) (.int x) = true) (hd : decode M.2.1 pc = .ok (.putfield i, 3)) (hq : sh[q]? = some (.inl (ci, fs))) (hs : fs[k]? = some none) (hn : pc + 3 = np) (kk : zw M d mc ms Q np lv st sh (zw_sI h q k x) ck cs) : zw M d mc ms Q pc lv (.int x :: .ref q :: st) sh h ck cs := by
  subst hn
  intro p l e R s m args below meth c g H locs ls Z C0 hW hS hl hZ
  obtain ⟨h1, h2, h3, h4, h5⟩ := hf
  have hts := C0.2.2.2.2.2.1
  have hK := C0.2.2.2.2.2.2.2.2.1
  have hl2 := (List.getElem?_eq_some_iff.mp hs).1
  have es := zw_ws_set (g := g) (h := h) hq (zw_set_self hq) (zw_put (g := g) (x := x) hs) (fun j f hj => zw_cell_sI g h q k x j f hj)
  obtain ⟨cell, kC, cf, fi, kf, f, q1, q3, q2, hfc, hkC, hkind, hi, hsl, hst, hlt, hset⟩ := zw_slot h1 h2 hT hts hK h3 (hW.2 q _ (zw_ws_at hq))
  have hlay := hts _ (h2 _ (u_in_lay h3))
  unfold u_lay at hlay
  rw [if_neg (by rw [hfin]; decide)] at hlay
  refine W.putK (v := .int x) C0.1 C0.2.1 (f := f) ⟨C0.2.2.2.2.1, hts _ h5, ⟨_, _, _, by rw [h4] at hi; exact hi⟩, hst⟩ (by rw [q2]; exact u_store hfc hkC hkind hlay hi (hT.1 k h3) hx.1 hx.2) q1 q3 hlt rfl rfl hd fun H1 e1 e2 e3 => ?_
  exact kk p l e R s m args below meth c g H1 _ ls Z C0 (zw_putW hW rfl (zw_ws_at hq) es e2 e3 (hset _ _ (by simpa using hl2) e1)) (hS.put e2 e3 (Nat.le_add_right _ _)) hl hZ
theorem zw_putR {i ci k q r N : Nat} {C : String} {T : u_T} {ty : Nat → FieldType} {fs : List (Option (Option Nat))} (hf : zw_fld M.1.cls i ci k C T N) (hT : zw_cls C T N ty) (hfin : (T k).2.2.2 = true) (hin2 : M.1.name = "<init>") (hdecl : C = M.1.cls) (hx : ∀ a : Nat, narrow (ty k) (.ref a) = .ref a ∧ fits (ty k) (.ref a) = true) (hd : decode M.2.1 pc = .ok (.putfield i, 3)) (hq : sh[q]? = some (.inl (ci, fs))) (hs : k < fs.length) (hn : pc + 3 = np) (kk : zw M d mc ms Q np lv st (sh.set q (.inl (ci, fs.set k (some (some r))))) h ck cs) : zw M d mc ms Q pc lv (.ref r :: .ref q :: st) sh h ck cs := by
  subst hn
  intro p l e R s m args below meth c g H locs ls Z C0 hW hS hl hZ
  obtain ⟨h1, h2, h3, h4, h5⟩ := hf
  have hts := C0.2.2.2.2.2.1
  have hK := C0.2.2.2.2.2.2.2.2.1
  have es := zw_ws_set (g := g) (h := h) (h' := h) hq rfl (zw_putR' (g := g) (h := h) (q := q) (ci := ci) (r := r) hs) (fun j f hj => rfl)
  obtain ⟨cell, kC, cf, fi, kf, f, q1, q3, q2, hfc, hkC, hkind, hi, hsl, hst, hlt, hset⟩ := zw_slot h1 h2 hT hts hK h3 (hW.2 q _ (zw_ws_at hq))
  have hlay := hts _ (h2 _ (u_in_lay h3))
  unfold u_lay at hlay
  rw [if_pos hfin] at hlay
  have hcf : m.cls = cf := by
    obtain ⟨_, _, c', _, _, _, -, -, hf', -, -, -, hown2, -⟩ := Cond.laysFinal_spec hlay
    have e1 : c' = cf := by have := hi.symm.trans hf'; simp at this; exact this.1.symm
    rw [h4, hdecl] at hown2
    rw [← e1]; exact Option.some.inj (C0.2.2.2.2.1.symm.trans hown2)
  have h6 := u_fits hfc hkC hkind (Or.inr hlay) hi (hT.1 k h3) (hx (g.1 + r)).1 (hx (g.1 + r)).2
  refine W.putFinK (v := .ref (g.1 + r)) C0.1 C0.2.1 C0.2.2.2.2.1 (hts _ h5) (by rw [h4] at hi; exact hi) hst hcf (by rw [C0.2.2.2.2.2.2.2.1]; exact hin2) (by rw [q2]; exact h6) q1 q3 hlt rfl rfl hd fun H1 e1 e2 e3 => ?_
  exact kk p l e R s m args below meth c g H1 _ ls Z C0 (zw_putW hW (by simp) (zw_ws_at hq) es e2 e3 (hset _ _ (by simpa using hs) e1)) (hS.put e2 e3 (Nat.le_add_right _ _)) hl hZ
theorem zw_vin {i : Int32} {j n : Nat} (hi : i = nI j) (hj : j < n) (hn : n < 2 ^ 31) : vp_in i n ∧ i.toNatClampNeg = j := by
  subst hi
  exact ⟨vp_in_nI hj hn, nI_clamp (Nat.lt_trans hj hn)⟩
theorem zw_iald {i : Int32} {q n : Nat} {f : Nat → Option Nat} (j : Nat) (hd : decode M.2.1 pc = .ok (.iaload, 1)) (hq : sh[q]? = some (.inr (0, n, f))) (hi : i = nI j ∧ j < n) (hN : n < 2 ^ 31) (hn : pc + 1 = np) (kk : zw M d mc ms Q np lv (.int (h.1 q j) :: st) sh h ck cs) : zw M d mc ms Q pc lv (.int i :: .ref q :: st) sh h ck cs := by
  subst hn
  intro p l e R s m args below meth c g H locs ls Z C0 hW hS hl hZ
  obtain ⟨h1, h2⟩ := zw_vin hi.1 hi.2 hN
  refine va_iald C0.1 C0.2.1 C0.2.2.2.2.2.2.2.2.1.1 hW.2 q 0 (zw_ws_at hq) rfl h1 hd ?_
  rw [h2]
  exact kk p l e R s m args below meth c g H locs ls Z C0 hW hS hl hZ
theorem zw_zald {i : Int32} {q n : Nat} {f : Nat → Option Nat} (j : Nat) (hd : decode M.2.1 pc = .ok (.baload, 1)) (hq : sh[q]? = some (.inr (1, n, f))) (hi : i = nI j ∧ j < n) (hN : n < 2 ^ 31) (hn : pc + 1 = np) (kk : zw M d mc ms Q np lv (.int (h.1 q j) :: st) sh h ck cs) : zw M d mc ms Q pc lv (.int i :: .ref q :: st) sh h ck cs := by
  subst hn
  intro p l e R s m args below meth c g H locs ls Z C0 hW hS hl hZ
  obtain ⟨h1, h2⟩ := zw_vin hi.1 hi.2 hN
  refine va_zald C0.1 C0.2.1 C0.2.2.2.2.2.2.2.2.1.1 hW.2 q 1 (zw_ws_at hq) rfl h1 hd ?_
  rw [h2]
  exact kk p l e R s m args below meth c g H locs ls Z C0 hW hS hl hZ
theorem zw_lald {i : Int32} {q n : Nat} {f : Nat → Option Nat} (j : Nat) (hd : decode M.2.1 pc = .ok (.laload, 1)) (hq : sh[q]? = some (.inr (2, n, f))) (hi : i = nI j ∧ j < n) (hN : n < 2 ^ 31) (hn : pc + 1 = np) (kk : zw M d mc ms Q np lv (.long (h.2 q j) :: st) sh h ck cs) : zw M d mc ms Q pc lv (.int i :: .ref q :: st) sh h ck cs := by
  subst hn
  intro p l e R s m args below meth c g H locs ls Z C0 hW hS hl hZ
  obtain ⟨h1, h2⟩ := zw_vin hi.1 hi.2 hN
  refine va_lald C0.1 C0.2.1 C0.2.2.2.2.2.2.2.2.1.1 hW.2 q 2 (zw_ws_at hq) rfl h1 hd ?_
  rw [h2]
  exact kk p l e R s m args below meth c g H locs ls Z C0 hW hS hl hZ
theorem zw_aald {i : Int32} {q n r : Nat} {f : Nat → Option Nat} (j : Nat) (hd : decode M.2.1 pc = .ok (.aaload, 1)) (hq : sh[q]? = some (.inr (3, n, f))) (hi : i = nI j ∧ j < n) (hN : n < 2 ^ 31) (hr : f j = some r) (hn : pc + 1 = np) (kk : zw M d mc ms Q np lv (.ref r :: st) sh h ck cs) : zw M d mc ms Q pc lv (.int i :: .ref q :: st) sh h ck cs := by
  subst hn
  intro p l e R s m args below meth c g H locs ls Z C0 hW hS hl hZ
  obtain ⟨h1, h2⟩ := zw_vin hi.1 hi.2 hN
  refine va_aldq C0.1 C0.2.1 C0.2.2.2.2.2.2.2.2.1.1 hW.2 q 3 (zw_ws_at hq) rfl h1 hd ?_
  rw [h2, hr]
  exact kk p l e R s m args below meth c g H locs ls Z C0 hW hS hl hZ
theorem zw_iast {i x : Int32} {q n : Nat} {f : Nat → Option Nat} (j : Nat) (hd : decode M.2.1 pc = .ok (.iastore, 1)) (hq : sh[q]? = some (.inr (0, n, f))) (hi : i = nI j ∧ j < n) (hN : n < 2 ^ 31) (hn : pc + 1 = np) (kk : zw M d mc ms Q np lv st sh (zw_sI h q j x) ck cs) : zw M d mc ms Q pc lv (.int x :: .int i :: .ref q :: st) sh h ck cs := by
  subst hn
  intro p l e R s m args below meth c g H locs ls Z C0 hW hS hl hZ
  obtain ⟨h1, h2⟩ := zw_vin hi.1 hi.2 hN
  have hat := hW.2 q _ (zw_ws_at hq)
  have es := zw_ws_set (g := g) (h := h) (x := .inl (g.2.2.1.1, n, .inl (upd (h.1 q) j x))) hq (zw_set_self hq) (by rw [zw_upd]; rfl) (fun a f ha => zw_cell_sI g h q j x a f ha)
  refine W.iast C0.1 C0.2.1 hat ((C0.2.2.2.2.2.2.2.2.1.1.2 0 _ rfl).1 n (fun b => .int (h.1 q b))) (fun z => by cases z) (by show ¬ (i < 0 ∨ (arrV _ _ _).slots.size ≤ _); rw [arrV_size]; exact h1) rfl rfl hd fun H1 e1 e2 e3 => ?_
  refine kk p l e R s m args below meth c g H1 _ ls Z C0 (zw_putW hW rfl (zw_ws_at hq) es e2 e3 ?_) (hS.put e2 e3 (Nat.le_add_right _ _)) hl hZ
  show H1[_]? = some (vp_cell _ _)
  rw [e1]
  dsimp only
  rw [vp_cell_i, vp_cell_i, arrV_store, h2]
  congr 2
  funext b
  by_cases hb : b = j <;> simp [updV, upd, hb]
theorem zw_zast {i x : Int32} {q n : Nat} {f : Nat → Option Nat} (j : Nat) (hd : decode M.2.1 pc = .ok (.bastore, 1)) (hq : sh[q]? = some (.inr (1, n, f))) (hi : i = nI j ∧ j < n) (hN : n < 2 ^ 31) (hx : narrow .boolean (.int x) = .int x) (hn : pc + 1 = np) (kk : zw M d mc ms Q np lv st sh (zw_sI h q j x) ck cs) : zw M d mc ms Q pc lv (.int x :: .int i :: .ref q :: st) sh h ck cs := by
  subst hn
  intro p l e R s m args below meth c g H locs ls Z C0 hW hS hl hZ
  obtain ⟨h1, h2⟩ := zw_vin hi.1 hi.2 hN
  have hat := hW.2 q _ (zw_ws_at hq)
  have es := zw_ws_set (g := g) (h := h) (x := .inl (g.2.2.1.2.1, n, .inl (upd (h.1 q) j x))) hq (zw_set_self hq) (by rw [zw_upd]; rfl) (fun a f ha => zw_cell_sI g h q j x a f ha)
  refine W.zast C0.1 C0.2.1 hat ((C0.2.2.2.2.2.2.2.2.1.1.2 1 _ rfl).1 n (fun b => .int (h.1 q b))) (fun z => by cases z) (by show ¬ (i < 0 ∨ (arrV _ _ _).slots.size ≤ _); rw [arrV_size]; exact h1) rfl rfl hd fun H1 e1 e2 e3 => ?_
  refine kk p l e R s m args below meth c g H1 _ ls Z C0 (zw_putW hW rfl (zw_ws_at hq) es e2 e3 ?_) (hS.put e2 e3 (Nat.le_add_right _ _)) hl hZ
  show H1[_]? = some (vp_cell _ _)
  rw [e1, hx]
  dsimp only
  rw [vp_cell_i, vp_cell_i, arrV_store, h2]
  congr 2
  funext b
  by_cases hb : b = j <;> simp [updV, upd, hb]
theorem zw_last {i : Int32} {x : Int64} {q n : Nat} {f : Nat → Option Nat} (j : Nat) (hd : decode M.2.1 pc = .ok (.lastore, 1)) (hq : sh[q]? = some (.inr (2, n, f))) (hi : i = nI j ∧ j < n) (hN : n < 2 ^ 31) (hn : pc + 1 = np) (kk : zw M d mc ms Q np lv st sh (zw_sL h q j x) ck cs) : zw M d mc ms Q pc lv (.long x :: .int i :: .ref q :: st) sh h ck cs := by
  subst hn
  intro p l e R s m args below meth c g H locs ls Z C0 hW hS hl hZ
  obtain ⟨h1, h2⟩ := zw_vin hi.1 hi.2 hN
  have hat := hW.2 q _ (zw_ws_at hq)
  have es := zw_ws_set (g := g) (h := h) (x := .inl (g.2.2.1.2.2.1, n, .inr (.inl (vp_updL (h.2 q) j x)))) hq (zw_set_self hq) (by rw [zw_updL]; rfl) (fun a f ha => zw_cell_sL g h q j x a f ha)
  refine W.last C0.1 C0.2.1 hat ((C0.2.2.2.2.2.2.2.2.1.1.2 2 _ rfl).1 n (fun b => .long (h.2 q b))) (fun z => by cases z) (by show ¬ (i < 0 ∨ (arrV _ _ _).slots.size ≤ _); rw [arrV_size]; exact h1) rfl rfl hd fun H1 e1 e2 e3 => ?_
  refine kk p l e R s m args below meth c g H1 _ ls Z C0 (zw_putW hW rfl (zw_ws_at hq) es e2 e3 ?_) (hS.put e2 e3 (Nat.le_add_right _ _)) hl hZ
  show H1[_]? = some (vp_cell _ _)
  rw [e1]
  dsimp only
  rw [vp_cell_l, vp_cell_l, arrV_store, h2]
  congr 2
  funext b
  by_cases hb : b = j <;> simp [updV, vp_updL, hb]
theorem zw_aast {i : Int32} {q n r : Nat} {fs : List (Option (Option Nat))} {f : Nat → Option Nat} (j : Nat) (hd : decode M.2.1 pc = .ok (.aastore, 1)) (hq : sh[q]? = some (.inr (3, n, f))) (hr : sh[r]? = some (.inl (5, fs))) (hi : i = nI j ∧ j < n) (hN : n < 2 ^ 31) (hn : pc + 1 = np) (kk : zw M d mc ms Q np lv st (sh.set q (.inr (3, n, va_up f j (some r)))) h ck cs) : zw M d mc ms Q pc lv (.ref r :: .int i :: .ref q :: st) sh h ck cs := by
  subst hn
  intro p l e R s m args below meth c g H locs ls Z C0 hW hS hl hZ
  obtain ⟨h1, h2⟩ := zw_vin hi.1 hi.2 hN
  have hK := C0.2.2.2.2.2.2.2.2.1
  have hat := hW.2 q _ (zw_ws_at hq)
  have es := zw_ws_set (g := g) (h := h) (h' := h) (x := .inl (g.2.2.1.2.2.2, n, .inr (.inr (.inr (.inr (va_up (fun i => (f i).map (g.1 + ·)) j (some (g.1 + r)))))))) (e' := .inr (3, n, va_up f j (some r))) hq rfl (by
    show Sum.inl (_, n, Sum.inr (Sum.inr (Sum.inr (Sum.inr _)))) = _
    congr 7
    funext b
    by_cases hb : b = j <;> simp [va_up, hb]) (fun a f ha => rfl)
  obtain ⟨r', hr', cellV, g1, g2, g3, -⟩ := hW.2 r _ (zw_ws_at hr)
  have hcls := (hK.1.1 5 (RX5, TX5, 7) rfl).2
  obtain ⟨kA, comp, k1, k2, k3, -⟩ := (hK.1.2 3 _ rfl).2
  have hcomp : comp = g.2.2.2.1 5 := Option.some.inj (k3.symm.trans hcls.1)
  subst hcomp
  obtain ⟨kC, hkC, -⟩ := id hcls.2
  have hlt : i.toNatClampNeg < n := by rw [h2]; exact hi.2
  refine W.aast C0.1 C0.2.1 hat (fun q h => by cases h) (fun h => by cases h) k1 k2 rfl hkC ⟨fun z => h1 (Or.inl z), by show _ < (arrV _ _ _).slots.size; rw [arrV_size]; exact hlt⟩ g1 (fun q h => by rw [g3] at h; cases h) (by rw [g2]; exact hkC) (by rw [g2]; exact va_assign hcls) rfl rfl hd fun H1 e1 e2 e3 => ?_
  refine kk p l e R s m args below meth c g H1 _ ls Z C0 (zw_putW hW (by simp) (zw_ws_at hq) es e2 e3 ?_) (hS.put e2 e3 (Nat.le_add_right _ _)) hl hZ
  show H1[_]? = some (vp_cell _ _)
  rw [e1]
  dsimp only
  rw [vp_cell_q, vp_cell_q, arrV_store, h2]
  congr 2
  funext b
  by_cases hb : b = j <;> simp [updV, va_up, va_rf, hb]
/-- a new cell -/
theorem zw_newW {g : zw_G} {sh : zw_S} {h : zw_H} {H H1 : Heap} {e : zw_E} {x : va_E} (hW : zw_W g sh h H) (hx : zw_cell g (zw_z h sh.length) sh.length e = x) (z : H1.size = H.size + 1) (oq : ∀ a : Nat, a < H.size → H1[a]? = H[a]?) (hat : va_at g.2.2.2 vwCl (g.1 + sh.length, x) H1) : zw_W g (sh ++ [e]) (zw_z h sh.length) H1 := by
  refine ⟨by rw [z, hW.1]; simp; omega, ?_⟩
  rw [← zw_ws_new (h := h) hx (fun j f hj => zw_cell_z g h sh.length j f (Nat.ne_of_lt hj))]
  refine (hW.2.kept (fun k q hk => oq _ (hW.2 k q hk).lt)).app (fun k q hk => ?_)
  have hz : k < 1 := (List.getElem?_eq_some_iff.mp hk).1
  rw [show k = 0 by omega] at hk
  cases hk
  exact hat
theorem zw_new {i ci N : Nat} {C : String} {T : u_T} {ty : Nat → FieldType} {fs : List (Option (Option Nat))} (hc : vwCl[ci]? = some (C, T, N)) (hin : ∀ w ∈ u_ws C T N, w ∈ zw_ts) (hT : zw_cls C T N ty) (hwl : Cond.classLink M.1.cls i C ∈ zw_ts) (hwi : Cond.instantiable C N ∈ zw_ts) (hwn : Cond.initialized C ∈ zw_ts) (hfs : ∀ g : zw_G, ∀ j, j < N → defaultValue (ty j) = vp_V (fs.mapIdx (fun _ y => zw_sl g y 0)) j) (hd : decode M.2.1 pc = .ok (.new i, 3)) (hk : ck + 1 ≤ mc) (hs : cs + N ≤ ms) (hn : pc + 3 = np) (kk : zw M d mc ms Q np lv (.ref sh.length :: st) (sh ++ [.inl (ci, fs)]) (zw_z h sh.length) (ck + 1) (cs + N)) : zw M d mc ms Q pc lv st sh h ck cs := by
  subst hn
  intro p l e R s m args below meth c g H locs ls Z C0 hW hS hl hZ
  have hts := C0.2.2.2.2.2.1
  have hK := C0.2.2.2.2.2.2.2.2.1
  have hKn := hK.1.1 ci _ hc
  refine W.newcK C0.1 C0.2.1 C0.2.2.2.2.1 (hts _ hwl) (hts _ hwi) (hts _ hwn) rfl hd (Nat.le_trans hk C0.2.2.2.2.2.2.2.2.2.2.2.2.2.1) (Nat.le_trans hs C0.2.2.2.2.2.2.2.2.2.2.2.2.2.2) hKn.2.1 rfl fun H1 kC hkC e1 z1 o1 => ?_
  rw [hW.1]
  refine kk p l e R s m args below meth c g H1 locs ls Z C0 (zw_newW hW (x := .inr (ci, fs.mapIdx (fun _ y => zw_sl g y 0))) ?_ z1 o1 ?_) ⟨Nat.le_trans hS.1 (by omega), fun x h1 h2 => (o1 x (Nat.lt_of_lt_of_le h1 hS.1)).trans (hS.2.1 x h1 h2), hS.2.2⟩ hl hZ
  · show Sum.inr (ci, fs.mapIdx (fun j y => zw_sl g y ((zw_z h sh.length).1 sh.length j))) = _
    simp [zw_z]
  · rw [← hW.1]
    exact ⟨_, hc, (u_born ty hts hin hKn hkC e1 hT.1).to (hfs g)⟩
/-- the array class that a new array has is the one that we know -/
theorem zw_cA {g : zw_G} {s : State} {cA cB : ClassId} {ty : FieldType} {kd : Nat} (hK : zw_K g s) (hkd : (zw_tys g)[kd]? = some (cB, ty)) (hp : ∀ C, ty ≠ .object C) (h : s.vm.findClass ("[" ++ ty.toString) = some cA) : cA = cB := by
  have h2 := (hK.1.2 kd _ hkd).2
  cases ty with
  | object C => exact absurd rfl (hp C)
  | _ => exact Option.some.inj (h.symm.trans h2)
theorem zw_newI {n : Nat} {x : Int32} (hw : Cond.arrayClass .int ∈ zw_ts) (hd : decode M.2.1 pc = .ok (.newarray .int, 2)) (hx : x = nI n) (hN : n < 100000) (hk : ck + 1 ≤ mc) (hs : cs + n ≤ ms) (hn : pc + 2 = np) (kk : zw M d mc ms Q np lv (.ref sh.length :: st) (sh ++ [.inr (0, n, fun _ => none)]) (zw_z h sh.length) (ck + 1) (cs + n)) : zw M d mc ms Q pc lv (.int x :: st) sh h ck cs := by
  subst hn hx
  intro p l e R s m args below meth c g H locs ls Z C0 hW hS hl hZ
  have hK := C0.2.2.2.2.2.2.2.2.1
  refine va_newaK C0.1 C0.2.1 (atype := .int) (C0.2.2.2.2.2.1 _ hw) rfl hd rfl (nI_pos (by omega)) (nI_clamp (by omega)) (show n * 4 ≤ 536870912 by omega) (Nat.le_trans hk C0.2.2.2.2.2.2.2.2.2.2.2.2.2.1) (Nat.le_trans hs C0.2.2.2.2.2.2.2.2.2.2.2.2.2.2) rfl fun H1 cA e1 z1 o1 hAr hNm => ?_
  have hcA := zw_cA (kd := 0) hK rfl (by intro C z; cases z) hNm
  subst hcA
  rw [hW.1]
  refine kk p l e R s m args below meth c g H1 locs ls Z C0 (zw_newW hW (x := .inl (g.2.2.1.1, n, .inl (fun _ => 0))) ?_ z1 o1 ?_) ⟨Nat.le_trans hS.1 (by omega), fun x h1 h2 => (o1 x (Nat.lt_of_lt_of_le h1 hS.1)).trans (hS.2.1 x h1 h2), hS.2.2⟩ hl hZ
  · show Sum.inl (_, n, Sum.inl ((zw_z h sh.length).1 sh.length)) = _
    simp [zw_z]
  · rw [← hW.1]
    exact e1
theorem zw_newZ {n : Nat} {x : Int32} (hw : Cond.arrayClass .boolean ∈ zw_ts) (hd : decode M.2.1 pc = .ok (.newarray .boolean, 2)) (hx : x = nI n) (hN : n < 100000) (hk : ck + 1 ≤ mc) (hs : cs + n ≤ ms) (hn : pc + 2 = np) (kk : zw M d mc ms Q np lv (.ref sh.length :: st) (sh ++ [.inr (1, n, fun _ => none)]) (zw_z h sh.length) (ck + 1) (cs + n)) : zw M d mc ms Q pc lv (.int x :: st) sh h ck cs := by
  subst hn hx
  intro p l e R s m args below meth c g H locs ls Z C0 hW hS hl hZ
  have hK := C0.2.2.2.2.2.2.2.2.1
  refine va_newaK C0.1 C0.2.1 (atype := .boolean) (C0.2.2.2.2.2.1 _ hw) rfl hd rfl (nI_pos (by omega)) (nI_clamp (by omega)) (show n * 1 ≤ 536870912 by omega) (Nat.le_trans hk C0.2.2.2.2.2.2.2.2.2.2.2.2.2.1) (Nat.le_trans hs C0.2.2.2.2.2.2.2.2.2.2.2.2.2.2) rfl fun H1 cA e1 z1 o1 hAr hNm => ?_
  have hcA := zw_cA (kd := 1) hK rfl (by intro C z; cases z) hNm
  subst hcA
  rw [hW.1]
  refine kk p l e R s m args below meth c g H1 locs ls Z C0 (zw_newW hW (x := .inl (g.2.2.1.2.1, n, .inl (fun _ => 0))) ?_ z1 o1 ?_) ⟨Nat.le_trans hS.1 (by omega), fun x h1 h2 => (o1 x (Nat.lt_of_lt_of_le h1 hS.1)).trans (hS.2.1 x h1 h2), hS.2.2⟩ hl hZ
  · show Sum.inl (_, n, Sum.inl ((zw_z h sh.length).1 sh.length)) = _
    simp [zw_z]
  · rw [← hW.1]
    exact e1
theorem zw_newL {n : Nat} {x : Int32} (hw : Cond.arrayClass .long ∈ zw_ts) (hd : decode M.2.1 pc = .ok (.newarray .long, 2)) (hx : x = nI n) (hN : n < 100000) (hk : ck + 1 ≤ mc) (hs : cs + n ≤ ms) (hn : pc + 2 = np) (kk : zw M d mc ms Q np lv (.ref sh.length :: st) (sh ++ [.inr (2, n, fun _ => none)]) (zw_z h sh.length) (ck + 1) (cs + n)) : zw M d mc ms Q pc lv (.int x :: st) sh h ck cs := by
  subst hn hx
  intro p l e R s m args below meth c g H locs ls Z C0 hW hS hl hZ
  have hK := C0.2.2.2.2.2.2.2.2.1
  refine va_newaK C0.1 C0.2.1 (atype := .long) (C0.2.2.2.2.2.1 _ hw) rfl hd rfl (nI_pos (by omega)) (nI_clamp (by omega)) (show n * 8 ≤ 536870912 by omega) (Nat.le_trans hk C0.2.2.2.2.2.2.2.2.2.2.2.2.2.1) (Nat.le_trans hs C0.2.2.2.2.2.2.2.2.2.2.2.2.2.2) rfl fun H1 cA e1 z1 o1 hAr hNm => ?_
  have hcA := zw_cA (kd := 2) hK rfl (by intro C z; cases z) hNm
  subst hcA
  rw [hW.1]
  refine kk p l e R s m args below meth c g H1 locs ls Z C0 (zw_newW hW (x := .inl (g.2.2.1.2.2.1, n, .inr (.inl (fun _ => 0)))) ?_ z1 o1 ?_) ⟨Nat.le_trans hS.1 (by omega), fun x h1 h2 => (o1 x (Nat.lt_of_lt_of_le h1 hS.1)).trans (hS.2.1 x h1 h2), hS.2.2⟩ hl hZ
  · show Sum.inl (_, n, Sum.inr (Sum.inl ((zw_z h sh.length).2 sh.length))) = _
    simp [zw_z]
  · rw [← hW.1]
    exact e1
theorem zw_newS {i n : Nat} {x : Int32} (hw : Cond.classLink M.1.cls i "PartitionPoset$State" ∈ zw_ts) (hd : decode M.2.1 pc = .ok (.anewarray i, 3)) (hx : x = nI n) (hN : n < 100000) (hk : ck + 1 ≤ mc) (hs : cs + n ≤ ms) (hn : pc + 3 = np) (kk : zw M d mc ms Q np lv (.ref sh.length :: st) (sh ++ [.inr (3, n, fun _ => none)]) (zw_z h sh.length) (ck + 1) (cs + n)) : zw M d mc ms Q pc lv (.int x :: st) sh h ck cs := by
  subst hn hx
  intro p l e R s m args below meth c g H locs ls Z C0 hW hS hl hZ
  have hK := C0.2.2.2.2.2.2.2.2.1
  have hcl : (nI n).toNatClampNeg = n := nI_clamp (by omega)
  refine W.anew C0.1 C0.2.1 C0.2.2.2.2.1 (C0.2.2.2.2.2.1 _ hw) (va_AO.use hK.2.2) rfl hd rfl (nI_pos (by omega)) (by rw [hcl]; omega) (Nat.le_trans hk C0.2.2.2.2.2.2.2.2.2.2.2.2.2.1) (by rw [hcl]; exact Nat.le_trans hs C0.2.2.2.2.2.2.2.2.2.2.2.2.2.2) fun cA kA comp f1 f2 f3 f4 => ?_
  rw [hcl]
  generalize hH1 : H.push ({ cls := cA, slots := Array.replicate n .null, vm := .none } : Cell) = H1
  have z1 : H1.size = H.size + 1 := by rw [← hH1, Array.size_push]
  have e1 : H1[H.size]? = some (arrV cA n (fun _ => .null)) := by rw [← hH1, Array.getElem?_push_size, ← arrV_new]
  have o1 : ∀ q : Nat, q < H.size → H1[q]? = H[q]? := fun q hq => by rw [← hH1, Array.getElem?_push, if_neg (Nat.ne_of_lt hq)]
  obtain ⟨kA2, comp2, k1, k2, k3, k4⟩ := (hK.1.2 3 _ rfl).2
  have hcA : cA = g.2.2.1.2.2.2 := Option.some.inj (f1.symm.trans k4)
  subst hcA
  rw [hW.1]
  refine kk p l e R s m args below meth c g H1 locs ls Z C0 (zw_newW hW (x := .inl (g.2.2.1.2.2.2, n, .inr (.inr (.inr (.inr (fun _ => none)))))) ?_ z1 o1 ?_) ⟨Nat.le_trans hS.1 (by omega), fun x h1 h2 => (o1 x (Nat.lt_of_lt_of_le h1 hS.1)).trans (hS.2.1 x h1 h2), hS.2.2⟩ hl hZ
  · rfl
  · rw [← hW.1]
    exact e1
/-- the tables -/
theorem zw_getS {i : Nat} (hw : Cond.fieldLink M.1.cls i RX7 "SMALLER" "[I" ∈ zw_ts ∨ Cond.fieldLinkNest M.1.cls i RX7 "SMALLER" "[I" RX7 ∈ zw_nest) (hd : decode M.2.1 pc = .ok (.getstatic i, 3)) (hn : pc + 3 = np) (kk : zw M d mc ms Q np lv (.retAddr 0 :: st) sh h ck cs) : zw M d mc ms Q pc lv st sh h ck cs := by
  subst hn
  intro p l e R s m args below meth c g H locs ls Z C0 hW hS hl hZ
  have hK := C0.2.2.2.2.2.2.2.2.1
  have hT := C0.2.2.2.2.2.2.2.2.2.1
  rcases hw with hw | hw
  · exact va_gets C0.1 C0.2.1 hT.1 hS C0.2.2.2.2.1 (C0.2.2.2.2.2.1 _ hw) (fun x hx => hx) hd (kk p l e R s m args below meth c g H locs ls Z C0 hW hS hl hZ)
  · exact va_getsN C0.1 C0.2.1 hT.1 hS C0.2.2.2.2.1 (va_Nw.use rfl (hK.2.1 _ hw)) (fun x hx => hx) hd (kk p l e R s m args below meth c g H locs ls Z C0 hW hS hl hZ)
theorem zw_getG {i : Nat} (hw : Cond.fieldLink M.1.cls i RX7 "GREATER" "[I" ∈ zw_ts ∨ Cond.fieldLinkNest M.1.cls i RX7 "GREATER" "[I" RX7 ∈ zw_nest) (hd : decode M.2.1 pc = .ok (.getstatic i, 3)) (hn : pc + 3 = np) (kk : zw M d mc ms Q np lv (.retAddr 1 :: st) sh h ck cs) : zw M d mc ms Q pc lv st sh h ck cs := by
  subst hn
  intro p l e R s m args below meth c g H locs ls Z C0 hW hS hl hZ
  have hK := C0.2.2.2.2.2.2.2.2.1
  have hT := C0.2.2.2.2.2.2.2.2.2.1
  rcases hw with hw | hw
  · exact va_gets C0.1 C0.2.1 hT.2.2.1 hS C0.2.2.2.2.1 (C0.2.2.2.2.2.1 _ hw) (fun x hx => hx) hd (kk p l e R s m args below meth c g H locs ls Z C0 hW hS hl hZ)
  · exact va_getsN C0.1 C0.2.1 hT.2.2.1 hS C0.2.2.2.2.1 (va_Nw.use rfl (hK.2.1 _ hw)) (fun x hx => hx) hd (kk p l e R s m args below meth c g H locs ls Z C0 hW hS hl hZ)
theorem zw_ialdS {i : Int32} (j : Nat) (hd : decode M.2.1 pc = .ok (.iaload, 1)) (hi : i = nI j ∧ j < 15) (hn : pc + 1 = np) (kk : zw M d mc ms Q np lv (.int (zw_small j) :: st) sh h ck cs) : zw M d mc ms Q pc lv (.int i :: .retAddr 0 :: st) sh h ck cs := by
  subst hn
  intro p l e R s m args below meth c g H locs ls Z C0 hW hS hl hZ
  obtain ⟨h1, h2⟩ := zw_vin hi.1 hi.2 (by decide)
  exact va_ti C0.1 C0.2.1 C0.2.2.2.2.2.2.2.2.2.1.2.1 hS h1 (v := .int (zw_small j)) (by rw [h2]) hd (kk p l e R s m args below meth c g H locs ls Z C0 hW hS hl hZ)
theorem zw_ialdG {i : Int32} (j : Nat) (hd : decode M.2.1 pc = .ok (.iaload, 1)) (hi : i = nI j ∧ j < 15) (hn : pc + 1 = np) (kk : zw M d mc ms Q np lv (.int (zw_great j) :: st) sh h ck cs) : zw M d mc ms Q pc lv (.int i :: .retAddr 1 :: st) sh h ck cs := by
  subst hn
  intro p l e R s m args below meth c g H locs ls Z C0 hW hS hl hZ
  obtain ⟨h1, h2⟩ := zw_vin hi.1 hi.2 (by decide)
  exact va_ti C0.1 C0.2.1 C0.2.2.2.2.2.2.2.2.2.1.2.2.2 hS h1 (v := .int (zw_great j)) (by rw [h2]) hd (kk p l e R s m args below meth c g H locs ls Z C0 hW hS hl hZ)
theorem zw_objInit {i x : Nat} (hw : Cond.methodLink M.1.cls i objectInit ∈ zw_ts) (hw2 : Cond.instanceMethod objectInit ∈ zw_ts) (hw3 : Cond.code objectInit ⟨#[0xb1]⟩ 1 none ∈ zw_ts) (hd : decode M.2.1 pc = .ok (.invokespecial i, 3)) (hdep : 1 ≤ d) (hst : (st.map fun v => v.category).sum ≤ 8) (hn : pc + 3 = np) (kk : zw M d mc ms Q np lv st sh h ck cs) : zw M d mc ms Q pc lv (.ref x :: st) sh h ck cs := by
  subst hn
  intro p l e R s m args below meth c g H locs ls Z C0 hW hS hl hZ
  have hts := C0.2.2.2.2.2.1
  refine W.objInit C0.1 C0.2.1 C0.2.2.2.2.1 (hts _ hw) (hts _ hw2) (hts _ hw3) rfl (by rw [C0.2.2.2.1]; exact hl.1) rfl hd (Nat.le_trans hdep C0.2.2.2.2.2.2.2.2.2.2.2.1) ?_ (kk p l e R s m args below meth c g H locs ls Z C0 hW hS hl hZ)
  have h1 := C0.2.2.2.2.2.2.2.2.2.2.2.2.1
  have h2 := lv_room (m := m) (pc := pc) (ls := ls) (rest := (.ref x :: st).map (zw_tr g)) (st := st.map (zw_tr g)) (by rw [zw_tr_sum]; exact hst)
  omega
end ZH
end
