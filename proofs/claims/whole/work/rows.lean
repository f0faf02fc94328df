section
-- ===== PART A: goes FIRST, ahead of the names: the tables' words, and 'selects' of the private methods out of them =====
/-- a private method of a class that the tables say can be made, by its rows of tables_1 -/
def lw_okq (q : MethodName × Nat) : Prop := (q.1.cls ≠ "java/lang/invoke/MethodHandle" ∧ q.1.cls ≠ "java/lang/invoke/VarHandle") ∧ Cond.instantiable q.1.cls q.2 ∈ tables_1 ∧ Cond.privateMethod q.1 ∈ tables_1 ∧ Cond.instanceMethod q.1 ∈ tables_1
theorem lw_p0 : lw_okq (⟨"IdealProver", "forgetBasis", "()V"⟩, 14) := ⟨⟨by decide +kernel, by decide +kernel⟩, List.mem_of_getElem? (i := 13) (by decide +kernel), List.mem_of_getElem? (i := 230) (by decide +kernel), List.mem_of_getElem? (i := 231) (by decide +kernel)⟩
theorem lw_p1 : lw_okq (⟨"IdealProver", "isTold", "(I)Z"⟩, 14) := ⟨⟨by decide +kernel, by decide +kernel⟩, List.mem_of_getElem? (i := 13) (by decide +kernel), List.mem_of_getElem? (i := 245) (by decide +kernel), List.mem_of_getElem? (i := 246) (by decide +kernel)⟩
theorem lw_p2 : lw_okq (⟨"IdealProver$Polynomial", "find", "(I)I"⟩, 5) := ⟨⟨by decide +kernel, by decide +kernel⟩, List.mem_of_getElem? (i := 36) (by decide +kernel), List.mem_of_getElem? (i := 266) (by decide +kernel), List.mem_of_getElem? (i := 267) (by decide +kernel)⟩
theorem lw_p3 : lw_okq (⟨"IdealProver$Polynomial", "shift", "(II)V"⟩, 5) := ⟨⟨by decide +kernel, by decide +kernel⟩, List.mem_of_getElem? (i := 36) (by decide +kernel), List.mem_of_getElem? (i := 280) (by decide +kernel), List.mem_of_getElem? (i := 281) (by decide +kernel)⟩
theorem lw_p4 : lw_okq (⟨"IdealProver", "put", "(LIdealProver$Polynomial;I)I"⟩, 14) := ⟨⟨by decide +kernel, by decide +kernel⟩, List.mem_of_getElem? (i := 13) (by decide +kernel), List.mem_of_getElem? (i := 323) (by decide +kernel), List.mem_of_getElem? (i := 324) (by decide +kernel)⟩
theorem lw_p5 : lw_okq (⟨"IdealProver$Polynomial", "termAt", "(I[II)J"⟩, 5) := ⟨⟨by decide +kernel, by decide +kernel⟩, List.mem_of_getElem? (i := 36) (by decide +kernel), List.mem_of_getElem? (i := 357) (by decide +kernel), List.mem_of_getElem? (i := 358) (by decide +kernel)⟩
theorem lw_p6 : lw_okq (⟨"IdealProver$Ideal", "begin", "(I)V"⟩, 11) := ⟨⟨by decide +kernel, by decide +kernel⟩, List.mem_of_getElem? (i := 71) (by decide +kernel), List.mem_of_getElem? (i := 379) (by decide +kernel), List.mem_of_getElem? (i := 380) (by decide +kernel)⟩
theorem lw_p7 : lw_okq (⟨"IdealProver$Ideal", "adopt", "([LIdealProver$Polynomial;I)I"⟩, 11) := ⟨⟨by decide +kernel, by decide +kernel⟩, List.mem_of_getElem? (i := 71) (by decide +kernel), List.mem_of_getElem? (i := 387) (by decide +kernel), List.mem_of_getElem? (i := 388) (by decide +kernel)⟩
theorem lw_p8 : lw_okq (⟨"IdealProver$Ideal", "add", "()V"⟩, 11) := ⟨⟨by decide +kernel, by decide +kernel⟩, List.mem_of_getElem? (i := 71) (by decide +kernel), List.mem_of_getElem? (i := 406) (by decide +kernel), List.mem_of_getElem? (i := 407) (by decide +kernel)⟩
theorem lw_p9 : lw_okq (⟨"IdealProver$Ideal", "choosePair", "()Z"⟩, 11) := ⟨⟨by decide +kernel, by decide +kernel⟩, List.mem_of_getElem? (i := 71) (by decide +kernel), List.mem_of_getElem? (i := 419) (by decide +kernel), List.mem_of_getElem? (i := 420) (by decide +kernel)⟩
theorem lw_p10 : lw_okq (⟨"IdealProver$Ideal", "settlePair", "(LIdealProver$Division;)I"⟩, 11) := ⟨⟨by decide +kernel, by decide +kernel⟩, List.mem_of_getElem? (i := 71) (by decide +kernel), List.mem_of_getElem? (i := 423) (by decide +kernel), List.mem_of_getElem? (i := 424) (by decide +kernel)⟩
theorem lw_p11 : lw_okq (⟨"IdealProver$Ideal", "isNeedless", "(I)Z"⟩, 11) := ⟨⟨by decide +kernel, by decide +kernel⟩, List.mem_of_getElem? (i := 71) (by decide +kernel), List.mem_of_getElem? (i := 427) (by decide +kernel), List.mem_of_getElem? (i := 428) (by decide +kernel)⟩
theorem lw_p12 : lw_okq (⟨"IdealProver$Ideal", "isWaiting", "(II)Z"⟩, 11) := ⟨⟨by decide +kernel, by decide +kernel⟩, List.mem_of_getElem? (i := 71) (by decide +kernel), List.mem_of_getElem? (i := 438) (by decide +kernel), List.mem_of_getElem? (i := 439) (by decide +kernel)⟩
theorem lw_p13 : lw_okq (⟨"IdealProver$Ideal", "crossOut", "(ILIdealProver$Polynomial;)Z"⟩, 11) := ⟨⟨by decide +kernel, by decide +kernel⟩, List.mem_of_getElem? (i := 71) (by decide +kernel), List.mem_of_getElem? (i := 447) (by decide +kernel), List.mem_of_getElem? (i := 448) (by decide +kernel)⟩
theorem lw_p14 : lw_okq (⟨"IdealProver$Division", "firstDivisor", "([LIdealProver$Element;II)I"⟩, 5) := ⟨⟨by decide +kernel, by decide +kernel⟩, List.mem_of_getElem? (i := 139) (by decide +kernel), List.mem_of_getElem? (i := 457) (by decide +kernel), List.mem_of_getElem? (i := 458) (by decide +kernel)⟩
theorem lw_p15 : lw_okq (⟨"IdealProver$Ideal", "takeQuotients", "(LIdealProver$Element;LIdealProver$Division;)Z"⟩, 11) := ⟨⟨by decide +kernel, by decide +kernel⟩, List.mem_of_getElem? (i := 71) (by decide +kernel), List.mem_of_getElem? (i := 472) (by decide +kernel), List.mem_of_getElem? (i := 473) (by decide +kernel)⟩
def lw_privs_1 : List (MethodName × Nat) := [(⟨"IdealProver", "forgetBasis", "()V"⟩, 14), (⟨"IdealProver", "isTold", "(I)Z"⟩, 14), (⟨"IdealProver$Polynomial", "find", "(I)I"⟩, 5), (⟨"IdealProver$Polynomial", "shift", "(II)V"⟩, 5), (⟨"IdealProver", "put", "(LIdealProver$Polynomial;I)I"⟩, 14), (⟨"IdealProver$Polynomial", "termAt", "(I[II)J"⟩, 5), (⟨"IdealProver$Ideal", "begin", "(I)V"⟩, 11), (⟨"IdealProver$Ideal", "adopt", "([LIdealProver$Polynomial;I)I"⟩, 11), (⟨"IdealProver$Ideal", "add", "()V"⟩, 11), (⟨"IdealProver$Ideal", "choosePair", "()Z"⟩, 11), (⟨"IdealProver$Ideal", "settlePair", "(LIdealProver$Division;)I"⟩, 11), (⟨"IdealProver$Ideal", "isNeedless", "(I)Z"⟩, 11), (⟨"IdealProver$Ideal", "isWaiting", "(II)Z"⟩, 11), (⟨"IdealProver$Ideal", "crossOut", "(ILIdealProver$Polynomial;)Z"⟩, 11), (⟨"IdealProver$Division", "firstDivisor", "([LIdealProver$Element;II)I"⟩, 5), (⟨"IdealProver$Ideal", "takeQuotients", "(LIdealProver$Element;LIdealProver$Division;)Z"⟩, 11)]
theorem lw_r1 : ∀ q ∈ lw_privs_1, lw_okq q := List.forall_mem_cons.mpr ⟨lw_p0, List.forall_mem_cons.mpr ⟨lw_p1, List.forall_mem_cons.mpr ⟨lw_p2, List.forall_mem_cons.mpr ⟨lw_p3, List.forall_mem_cons.mpr ⟨lw_p4, List.forall_mem_cons.mpr ⟨lw_p5, List.forall_mem_cons.mpr ⟨lw_p6, List.forall_mem_cons.mpr ⟨lw_p7, List.forall_mem_cons.mpr ⟨lw_p8, List.forall_mem_cons.mpr ⟨lw_p9, List.forall_mem_cons.mpr ⟨lw_p10, List.forall_mem_cons.mpr ⟨lw_p11, List.forall_mem_cons.mpr ⟨lw_p12, List.forall_mem_cons.mpr ⟨lw_p13, List.forall_mem_cons.mpr ⟨lw_p14, List.forall_mem_cons.mpr ⟨lw_p15, fun _ h => absurd h List.not_mem_nil⟩⟩⟩⟩⟩⟩⟩⟩⟩⟩⟩⟩⟩⟩⟩⟩
theorem lw_p16 : lw_okq (⟨"IdealProver$Ideal", "dropNeedless", "()V"⟩, 11) := ⟨⟨by decide +kernel, by decide +kernel⟩, List.mem_of_getElem? (i := 71) (by decide +kernel), List.mem_of_getElem? (i := 477) (by decide +kernel), List.mem_of_getElem? (i := 478) (by decide +kernel)⟩
theorem lw_p17 : lw_okq (⟨"IdealProver$Ideal", "isCovered", "(II)Z"⟩, 11) := ⟨⟨by decide +kernel, by decide +kernel⟩, List.mem_of_getElem? (i := 71) (by decide +kernel), List.mem_of_getElem? (i := 481) (by decide +kernel), List.mem_of_getElem? (i := 482) (by decide +kernel)⟩
theorem lw_p18 : lw_okq (⟨"IdealProver$Ideal", "sortElements", "()V"⟩, 11) := ⟨⟨by decide +kernel, by decide +kernel⟩, List.mem_of_getElem? (i := 71) (by decide +kernel), List.mem_of_getElem? (i := 485) (by decide +kernel), List.mem_of_getElem? (i := 486) (by decide +kernel)⟩
theorem lw_p19 : lw_okq (⟨"IdealProver$Ideal", "reduceElement", "(ILIdealProver$Division;)I"⟩, 11) := ⟨⟨by decide +kernel, by decide +kernel⟩, List.mem_of_getElem? (i := 71) (by decide +kernel), List.mem_of_getElem? (i := 489) (by decide +kernel), List.mem_of_getElem? (i := 490) (by decide +kernel)⟩
theorem lw_p20 : lw_okq (⟨"IdealProver", "isElement", "(I)Z"⟩, 14) := ⟨⟨by decide +kernel, by decide +kernel⟩, List.mem_of_getElem? (i := 13) (by decide +kernel), List.mem_of_getElem? (i := 502) (by decide +kernel), List.mem_of_getElem? (i := 503) (by decide +kernel)⟩
theorem lw_p21 : lw_okq (⟨"IdealProver", "isGenerator", "(I)Z"⟩, 14) := ⟨⟨by decide +kernel, by decide +kernel⟩, List.mem_of_getElem? (i := 13) (by decide +kernel), List.mem_of_getElem? (i := 510) (by decide +kernel), List.mem_of_getElem? (i := 511) (by decide +kernel)⟩
theorem lw_p22 : lw_okq (⟨"IdealProver", "sumUp", "([LIdealProver$Polynomial;)Z"⟩, 14) := ⟨⟨by decide +kernel, by decide +kernel⟩, List.mem_of_getElem? (i := 13) (by decide +kernel), List.mem_of_getElem? (i := 530) (by decide +kernel), List.mem_of_getElem? (i := 531) (by decide +kernel)⟩
theorem lw_p23 : lw_okq (⟨"IdealProver$Ideal", "wall", "(II)I"⟩, 11) := ⟨⟨by decide +kernel, by decide +kernel⟩, List.mem_of_getElem? (i := 71) (by decide +kernel), List.mem_of_getElem? (i := 562) (by decide +kernel), List.mem_of_getElem? (i := 563) (by decide +kernel)⟩
theorem lw_p24 : lw_okq (⟨"IdealProver$Ideal", "height", "(II)I"⟩, 11) := ⟨⟨by decide +kernel, by decide +kernel⟩, List.mem_of_getElem? (i := 71) (by decide +kernel), List.mem_of_getElem? (i := 567) (by decide +kernel), List.mem_of_getElem? (i := 568) (by decide +kernel)⟩
theorem lw_p25 : lw_okq (⟨"IdealProverModel", "sorted", "(I)V"⟩, 28) := ⟨⟨by decide +kernel, by decide +kernel⟩, List.mem_of_getElem? (i := 578) (by decide +kernel), List.mem_of_getElem? (i := 679) (by decide +kernel), List.mem_of_getElem? (i := 680) (by decide +kernel)⟩
theorem lw_p26 : lw_okq (⟨"IdealProverModel", "compare", "(II)I"⟩, 28) := ⟨⟨by decide +kernel, by decide +kernel⟩, List.mem_of_getElem? (i := 578) (by decide +kernel), List.mem_of_getElem? (i := 683) (by decide +kernel), List.mem_of_getElem? (i := 684) (by decide +kernel)⟩
theorem lw_p27 : lw_okq (⟨"IdealProverModel", "sum", "(I)I"⟩, 28) := ⟨⟨by decide +kernel, by decide +kernel⟩, List.mem_of_getElem? (i := 578) (by decide +kernel), List.mem_of_getElem? (i := 690) (by decide +kernel), List.mem_of_getElem? (i := 691) (by decide +kernel)⟩
theorem lw_p28 : lw_okq (⟨"IdealProverModel", "copy", "(II)V"⟩, 28) := ⟨⟨by decide +kernel, by decide +kernel⟩, List.mem_of_getElem? (i := 578) (by decide +kernel), List.mem_of_getElem? (i := 703) (by decide +kernel), List.mem_of_getElem? (i := 704) (by decide +kernel)⟩
theorem lw_p29 : lw_okq (⟨"IdealProverModel", "lowest", "(JJ)V"⟩, 28) := ⟨⟨by decide +kernel, by decide +kernel⟩, List.mem_of_getElem? (i := 578) (by decide +kernel), List.mem_of_getElem? (i := 707) (by decide +kernel), List.mem_of_getElem? (i := 708) (by decide +kernel)⟩
theorem lw_p30 : lw_okq (⟨"IdealProverModel", "comes", "(IIII)V"⟩, 28) := ⟨⟨by decide +kernel, by decide +kernel⟩, List.mem_of_getElem? (i := 578) (by decide +kernel), List.mem_of_getElem? (i := 713) (by decide +kernel), List.mem_of_getElem? (i := 714) (by decide +kernel)⟩
theorem lw_p31 : lw_okq (⟨"IdealProverModel", "taken", "(II)I"⟩, 28) := ⟨⟨by decide +kernel, by decide +kernel⟩, List.mem_of_getElem? (i := 578) (by decide +kernel), List.mem_of_getElem? (i := 717) (by decide +kernel), List.mem_of_getElem? (i := 718) (by decide +kernel)⟩
def lw_privs_2 : List (MethodName × Nat) := [(⟨"IdealProver$Ideal", "dropNeedless", "()V"⟩, 11), (⟨"IdealProver$Ideal", "isCovered", "(II)Z"⟩, 11), (⟨"IdealProver$Ideal", "sortElements", "()V"⟩, 11), (⟨"IdealProver$Ideal", "reduceElement", "(ILIdealProver$Division;)I"⟩, 11), (⟨"IdealProver", "isElement", "(I)Z"⟩, 14), (⟨"IdealProver", "isGenerator", "(I)Z"⟩, 14), (⟨"IdealProver", "sumUp", "([LIdealProver$Polynomial;)Z"⟩, 14), (⟨"IdealProver$Ideal", "wall", "(II)I"⟩, 11), (⟨"IdealProver$Ideal", "height", "(II)I"⟩, 11), (⟨"IdealProverModel", "sorted", "(I)V"⟩, 28), (⟨"IdealProverModel", "compare", "(II)I"⟩, 28), (⟨"IdealProverModel", "sum", "(I)I"⟩, 28), (⟨"IdealProverModel", "copy", "(II)V"⟩, 28), (⟨"IdealProverModel", "lowest", "(JJ)V"⟩, 28), (⟨"IdealProverModel", "comes", "(IIII)V"⟩, 28), (⟨"IdealProverModel", "taken", "(II)I"⟩, 28)]
theorem lw_r2 : ∀ q ∈ lw_privs_2, lw_okq q := List.forall_mem_cons.mpr ⟨lw_p16, List.forall_mem_cons.mpr ⟨lw_p17, List.forall_mem_cons.mpr ⟨lw_p18, List.forall_mem_cons.mpr ⟨lw_p19, List.forall_mem_cons.mpr ⟨lw_p20, List.forall_mem_cons.mpr ⟨lw_p21, List.forall_mem_cons.mpr ⟨lw_p22, List.forall_mem_cons.mpr ⟨lw_p23, List.forall_mem_cons.mpr ⟨lw_p24, List.forall_mem_cons.mpr ⟨lw_p25, List.forall_mem_cons.mpr ⟨lw_p26, List.forall_mem_cons.mpr ⟨lw_p27, List.forall_mem_cons.mpr ⟨lw_p28, List.forall_mem_cons.mpr ⟨lw_p29, List.forall_mem_cons.mpr ⟨lw_p30, List.forall_mem_cons.mpr ⟨lw_p31, fun _ h => absurd h List.not_mem_nil⟩⟩⟩⟩⟩⟩⟩⟩⟩⟩⟩⟩⟩⟩⟩⟩
theorem lw_p32 : lw_okq (⟨"IdealProverModel", "adds", "(IIIII)V"⟩, 28) := ⟨⟨by decide +kernel, by decide +kernel⟩, List.mem_of_getElem? (i := 578) (by decide +kernel), List.mem_of_getElem? (i := 737) (by decide +kernel), List.mem_of_getElem? (i := 738) (by decide +kernel)⟩
theorem lw_p33 : lw_okq (⟨"IdealProverModel", "product", "(II)I"⟩, 28) := ⟨⟨by decide +kernel, by decide +kernel⟩, List.mem_of_getElem? (i := 578) (by decide +kernel), List.mem_of_getElem? (i := 741) (by decide +kernel), List.mem_of_getElem? (i := 742) (by decide +kernel)⟩
theorem lw_p34 : lw_okq (⟨"IdealProverModel", "multiplied", "(JJJJ)V"⟩, 28) := ⟨⟨by decide +kernel, by decide +kernel⟩, List.mem_of_getElem? (i := 578) (by decide +kernel), List.mem_of_getElem? (i := 745) (by decide +kernel), List.mem_of_getElem? (i := 746) (by decide +kernel)⟩
theorem lw_p35 : lw_okq (⟨"IdealProverModel", "made", "(III)V"⟩, 28) := ⟨⟨by decide +kernel, by decide +kernel⟩, List.mem_of_getElem? (i := 578) (by decide +kernel), List.mem_of_getElem? (i := 753) (by decide +kernel), List.mem_of_getElem? (i := 754) (by decide +kernel)⟩
theorem lw_p36 : lw_okq (⟨"IdealProverModel", "isSame", "(II)Z"⟩, 28) := ⟨⟨by decide +kernel, by decide +kernel⟩, List.mem_of_getElem? (i := 578) (by decide +kernel), List.mem_of_getElem? (i := 761) (by decide +kernel), List.mem_of_getElem? (i := 762) (by decide +kernel)⟩
theorem lw_p37 : lw_okq (⟨"IdealProverModel", "make", "(IIZ)V"⟩, 28) := ⟨⟨by decide +kernel, by decide +kernel⟩, List.mem_of_getElem? (i := 578) (by decide +kernel), List.mem_of_getElem? (i := 781) (by decide +kernel), List.mem_of_getElem? (i := 782) (by decide +kernel)⟩
theorem lw_p38 : lw_okq (⟨"IdealProverModel", "cofactor", "(II)I"⟩, 28) := ⟨⟨by decide +kernel, by decide +kernel⟩, List.mem_of_getElem? (i := 578) (by decide +kernel), List.mem_of_getElem? (i := 785) (by decide +kernel), List.mem_of_getElem? (i := 786) (by decide +kernel)⟩
theorem lw_p39 : lw_okq (⟨"IdealProverModel", "monic", "(I)V"⟩, 28) := ⟨⟨by decide +kernel, by decide +kernel⟩, List.mem_of_getElem? (i := 578) (by decide +kernel), List.mem_of_getElem? (i := 789) (by decide +kernel), List.mem_of_getElem? (i := 790) (by decide +kernel)⟩
theorem lw_p40 : lw_okq (⟨"IdealProverModel", "scaled", "(III)V"⟩, 28) := ⟨⟨by decide +kernel, by decide +kernel⟩, List.mem_of_getElem? (i := 578) (by decide +kernel), List.mem_of_getElem? (i := 793) (by decide +kernel), List.mem_of_getElem? (i := 794) (by decide +kernel)⟩
theorem lw_p41 : lw_okq (⟨"IdealProverModel", "addPairs", "(I)V"⟩, 28) := ⟨⟨by decide +kernel, by decide +kernel⟩, List.mem_of_getElem? (i := 578) (by decide +kernel), List.mem_of_getElem? (i := 797) (by decide +kernel), List.mem_of_getElem? (i := 798) (by decide +kernel)⟩
theorem lw_p42 : lw_okq (⟨"IdealProverModel", "onePair", "()Z"⟩, 28) := ⟨⟨by decide +kernel, by decide +kernel⟩, List.mem_of_getElem? (i := 578) (by decide +kernel), List.mem_of_getElem? (i := 801) (by decide +kernel), List.mem_of_getElem? (i := 802) (by decide +kernel)⟩
theorem lw_p43 : lw_okq (⟨"IdealProverModel", "lead", "(I)I"⟩, 28) := ⟨⟨by decide +kernel, by decide +kernel⟩, List.mem_of_getElem? (i := 578) (by decide +kernel), List.mem_of_getElem? (i := 805) (by decide +kernel), List.mem_of_getElem? (i := 806) (by decide +kernel)⟩
theorem lw_p44 : lw_okq (⟨"IdealProverModel", "common", "(II)I"⟩, 28) := ⟨⟨by decide +kernel, by decide +kernel⟩, List.mem_of_getElem? (i := 578) (by decide +kernel), List.mem_of_getElem? (i := 809) (by decide +kernel), List.mem_of_getElem? (i := 810) (by decide +kernel)⟩
theorem lw_p45 : lw_okq (⟨"IdealProverModel", "isPassed", "(III)Z"⟩, 28) := ⟨⟨by decide +kernel, by decide +kernel⟩, List.mem_of_getElem? (i := 578) (by decide +kernel), List.mem_of_getElem? (i := 813) (by decide +kernel), List.mem_of_getElem? (i := 814) (by decide +kernel)⟩
theorem lw_p46 : lw_okq (⟨"IdealProverModel", "divides", "(II)Z"⟩, 28) := ⟨⟨by decide +kernel, by decide +kernel⟩, List.mem_of_getElem? (i := 578) (by decide +kernel), List.mem_of_getElem? (i := 817) (by decide +kernel), List.mem_of_getElem? (i := 818) (by decide +kernel)⟩
theorem lw_p47 : lw_okq (⟨"IdealProverModel", "isWaiting", "(II)Z"⟩, 28) := ⟨⟨by decide +kernel, by decide +kernel⟩, List.mem_of_getElem? (i := 578) (by decide +kernel), List.mem_of_getElem? (i := 821) (by decide +kernel), List.mem_of_getElem? (i := 822) (by decide +kernel)⟩
def lw_privs_3 : List (MethodName × Nat) := [(⟨"IdealProverModel", "adds", "(IIIII)V"⟩, 28), (⟨"IdealProverModel", "product", "(II)I"⟩, 28), (⟨"IdealProverModel", "multiplied", "(JJJJ)V"⟩, 28), (⟨"IdealProverModel", "made", "(III)V"⟩, 28), (⟨"IdealProverModel", "isSame", "(II)Z"⟩, 28), (⟨"IdealProverModel", "make", "(IIZ)V"⟩, 28), (⟨"IdealProverModel", "cofactor", "(II)I"⟩, 28), (⟨"IdealProverModel", "monic", "(I)V"⟩, 28), (⟨"IdealProverModel", "scaled", "(III)V"⟩, 28), (⟨"IdealProverModel", "addPairs", "(I)V"⟩, 28), (⟨"IdealProverModel", "onePair", "()Z"⟩, 28), (⟨"IdealProverModel", "lead", "(I)I"⟩, 28), (⟨"IdealProverModel", "common", "(II)I"⟩, 28), (⟨"IdealProverModel", "isPassed", "(III)Z"⟩, 28), (⟨"IdealProverModel", "divides", "(II)Z"⟩, 28), (⟨"IdealProverModel", "isWaiting", "(II)Z"⟩, 28)]
theorem lw_r3 : ∀ q ∈ lw_privs_3, lw_okq q := List.forall_mem_cons.mpr ⟨lw_p32, List.forall_mem_cons.mpr ⟨lw_p33, List.forall_mem_cons.mpr ⟨lw_p34, List.forall_mem_cons.mpr ⟨lw_p35, List.forall_mem_cons.mpr ⟨lw_p36, List.forall_mem_cons.mpr ⟨lw_p37, List.forall_mem_cons.mpr ⟨lw_p38, List.forall_mem_cons.mpr ⟨lw_p39, List.forall_mem_cons.mpr ⟨lw_p40, List.forall_mem_cons.mpr ⟨lw_p41, List.forall_mem_cons.mpr ⟨lw_p42, List.forall_mem_cons.mpr ⟨lw_p43, List.forall_mem_cons.mpr ⟨lw_p44, List.forall_mem_cons.mpr ⟨lw_p45, List.forall_mem_cons.mpr ⟨lw_p46, List.forall_mem_cons.mpr ⟨lw_p47, fun _ h => absurd h List.not_mem_nil⟩⟩⟩⟩⟩⟩⟩⟩⟩⟩⟩⟩⟩⟩⟩⟩
theorem lw_p48 : lw_okq (⟨"IdealProverModel", "divided", "(II)V"⟩, 28) := ⟨⟨by decide +kernel, by decide +kernel⟩, List.mem_of_getElem? (i := 578) (by decide +kernel), List.mem_of_getElem? (i := 825) (by decide +kernel), List.mem_of_getElem? (i := 826) (by decide +kernel)⟩
theorem lw_p49 : lw_okq (⟨"IdealProverModel", "lessShares", "(III)V"⟩, 28) := ⟨⟨by decide +kernel, by decide +kernel⟩, List.mem_of_getElem? (i := 578) (by decide +kernel), List.mem_of_getElem? (i := 829) (by decide +kernel), List.mem_of_getElem? (i := 830) (by decide +kernel)⟩
theorem lw_p50 : lw_okq (⟨"IdealProverModel", "clean", "()V"⟩, 28) := ⟨⟨by decide +kernel, by decide +kernel⟩, List.mem_of_getElem? (i := 578) (by decide +kernel), List.mem_of_getElem? (i := 833) (by decide +kernel), List.mem_of_getElem? (i := 834) (by decide +kernel)⟩
theorem lw_p51 : lw_okq (⟨"IdealProverModel", "move", "(II)V"⟩, 28) := ⟨⟨by decide +kernel, by decide +kernel⟩, List.mem_of_getElem? (i := 578) (by decide +kernel), List.mem_of_getElem? (i := 837) (by decide +kernel), List.mem_of_getElem? (i := 838) (by decide +kernel)⟩
theorem lw_p52 : lw_okq (⟨"IdealProverModel", "reduce", "(I)V"⟩, 28) := ⟨⟨by decide +kernel, by decide +kernel⟩, List.mem_of_getElem? (i := 578) (by decide +kernel), List.mem_of_getElem? (i := 841) (by decide +kernel), List.mem_of_getElem? (i := 842) (by decide +kernel)⟩
theorem lw_p53 : lw_okq (⟨"IdealProverModel", "own", "()V"⟩, 28) := ⟨⟨by decide +kernel, by decide +kernel⟩, List.mem_of_getElem? (i := 578) (by decide +kernel), List.mem_of_getElem? (i := 861) (by decide +kernel), List.mem_of_getElem? (i := 862) (by decide +kernel)⟩
theorem lw_p54 : lw_okq (⟨"IdealProverModel", "isStair", "(I)Z"⟩, 28) := ⟨⟨by decide +kernel, by decide +kernel⟩, List.mem_of_getElem? (i := 578) (by decide +kernel), List.mem_of_getElem? (i := 885) (by decide +kernel), List.mem_of_getElem? (i := 886) (by decide +kernel)⟩
def lw_privs_4 : List (MethodName × Nat) := [(⟨"IdealProverModel", "divided", "(II)V"⟩, 28), (⟨"IdealProverModel", "lessShares", "(III)V"⟩, 28), (⟨"IdealProverModel", "clean", "()V"⟩, 28), (⟨"IdealProverModel", "move", "(II)V"⟩, 28), (⟨"IdealProverModel", "reduce", "(I)V"⟩, 28), (⟨"IdealProverModel", "own", "()V"⟩, 28), (⟨"IdealProverModel", "isStair", "(I)Z"⟩, 28)]
theorem lw_r4 : ∀ q ∈ lw_privs_4, lw_okq q := List.forall_mem_cons.mpr ⟨lw_p48, List.forall_mem_cons.mpr ⟨lw_p49, List.forall_mem_cons.mpr ⟨lw_p50, List.forall_mem_cons.mpr ⟨lw_p51, List.forall_mem_cons.mpr ⟨lw_p52, List.forall_mem_cons.mpr ⟨lw_p53, List.forall_mem_cons.mpr ⟨lw_p54, fun _ h => absurd h List.not_mem_nil⟩⟩⟩⟩⟩⟩⟩
def lw_privs : List (MethodName × Nat) := lw_privs_1 ++ (lw_privs_2 ++ (lw_privs_3 ++ (lw_privs_4)))
def lw_tbl : List Cond := k2_sels lw_privs ++ tables_1
theorem lw_privs_ok : ∀ q ∈ lw_privs, lw_okq q := by
  show ∀ q ∈ lw_privs_1 ++ (lw_privs_2 ++ (lw_privs_3 ++ (lw_privs_4))), lw_okq q
  exact List.forall_mem_append.mpr ⟨lw_r1, List.forall_mem_append.mpr ⟨lw_r2, List.forall_mem_append.mpr ⟨lw_r3, lw_r4⟩⟩⟩
-- ===== end of PART A; then your names; then what follows =====
end
section
/-! ===== BEGIN words of one list among another's, by their places ===== -/
theorem goodIn_r {big : List Cond} (ws : List Cond) (ps : List Nat) (hp : ws = ps.filterMap (fun i => big[i]?)) (h : ws.all goodWord = true) : GoodIn big ws := by
  intro w hw
  have h1 := List.all_eq_true.mp h w hw
  rw [hp] at hw
  obtain ⟨i, -, hi⟩ := List.mem_filterMap.mp hw
  have hm : w ∈ big := by first | exact List.mem_of_getElem? hi | exact List.getElem?_mem hi
  exact ⟨hm, good_of_word h1⟩
theorem goodIn_app {big a b : List Cond} (ha : GoodIn big a) (hb : GoodIn big b) : GoodIn big (a ++ b) := fun w h => (List.mem_append.mp h).elim (ha w) (hb w)
theorem goodIn_ca {big a b : List Cond} {c : Cond} (ha : GoodIn big (c :: a)) (hb : GoodIn big b) : GoodIn big (c :: (a ++ b)) := fun w h => (List.mem_cons.mp h).elim (fun e => ha w (List.mem_cons.mpr (Or.inl e))) (fun h => (List.mem_append.mp h).elim (fun h => ha w (List.mem_cons.mpr (Or.inr h))) (hb w))
theorem goodIn_sub {big ws : List Cond} (hm : ∀ w ∈ ws, w ∈ big) (h : ws.all goodWord = true) : GoodIn big ws := fun w hw => ⟨hm w hw, good_of_word (List.all_eq_true.mp h w hw)⟩
/-! ===== END ===== -/

/-! ===== BEGIN printed: names, fields, word lists, decode rows ===== -/
def RX0 : String := "IdealProver$Division"
def TX0 : u_T := fun k => match k with
  | 0 => ("IdealProver$Division", "dividend", "LIdealProver$Polynomial;", true)
  | 1 => ("IdealProver$Division", "rest", "LIdealProver$Polynomial;", true)
  | 2 => ("IdealProver$Division", "quotients", "[LIdealProver$Polynomial;", true)
  | 3 => ("IdealProver$Division", "steps", "I", false)
  | _ => ("IdealProver$Division", "limit", "I", false)
def tyX0 : Nat → FieldType := fun k => match k with
  | 0 => .object "IdealProver$Polynomial"
  | 1 => .object "IdealProver$Polynomial"
  | 2 => .array (.object "IdealProver$Polynomial")
  | 3 => .int
  | _ => .int
abbrev wsX00 : List Cond := u_ws RX0 TX0 5
theorem nmX0 : ∀ a, a < 5 → ∀ b, b < 5 → a ≠ b → (TX0 a).2.1 ≠ (TX0 b).2.1 := by decide +kernel
theorem tyX0_ok : ∀ k, k < 5 → parseFieldDescriptor (TX0 k).2.2.1 = some (tyX0 k) := by decide +kernel
abbrev cX0_init : ByteArray := prog_2_method_1_code
def yX0_init : MethodName := ⟨RX0, "<init>", "(LIdealProver$Order;)V"⟩
abbrev cX0_allow : ByteArray := prog_2_method_2_code
def yX0_allow : MethodName := ⟨RX0, "allow", "(I)V"⟩
abbrev cX0_makeReady : ByteArray := prog_2_method_3_code
def yX0_makeReady : MethodName := ⟨RX0, "makeReady", "(I)V"⟩
abbrev cX0_run : ByteArray := prog_2_method_4_code
def yX0_run : MethodName := ⟨RX0, "run", "([LIdealProver$Element;II)I"⟩
abbrev cX0_firstDivisor : ByteArray := prog_2_method_5_code
def yX0_firstDivisor : MethodName := ⟨RX0, "firstDivisor", "([LIdealProver$Element;II)I"⟩
def RX1 : String := "IdealProver$Element"
def TX1 : u_T := fun k => match k with
  | 0 => ("IdealProver$Element", "body", "LIdealProver$Polynomial;", true)
  | _ => ("IdealProver$Element", "cofactors", "[LIdealProver$Polynomial;", true)
def tyX1 : Nat → FieldType := fun k => match k with
  | 0 => .object "IdealProver$Polynomial"
  | _ => .array (.object "IdealProver$Polynomial")
abbrev wsX10 : List Cond := u_ws RX1 TX1 2
theorem nmX1 : ∀ a, a < 2 → ∀ b, b < 2 → a ≠ b → (TX1 a).2.1 ≠ (TX1 b).2.1 := by decide +kernel
theorem tyX1_ok : ∀ k, k < 2 → parseFieldDescriptor (TX1 k).2.2.1 = some (tyX1 k) := by decide +kernel
abbrev cX1_init : ByteArray := prog_3_method_1_code
def yX1_init : MethodName := ⟨RX1, "<init>", "(LIdealProver$Order;I)V"⟩
abbrev cX1_leading : ByteArray := prog_3_method_2_code
def yX1_leading : MethodName := ⟨RX1, "leading", "()I"⟩
abbrev cX1_makeMonic : ByteArray := prog_3_method_3_code
def yX1_makeMonic : MethodName := ⟨RX1, "makeMonic", "(I)Z"⟩
def RX2 : String := "IdealProver$Fraction"
def TX2 : u_T := fun k => match k with
  | _ => ("", "", "", false)
def tyX2 : Nat → FieldType := fun k => match k with
  | _ => .int
abbrev wsX20 : List Cond := u_ws RX2 TX2 0
theorem nmX2 : ∀ a, a < 0 → ∀ b, b < 0 → a ≠ b → (TX2 a).2.1 ≠ (TX2 b).2.1 := by decide +kernel
theorem tyX2_ok : ∀ k, k < 0 → parseFieldDescriptor (TX2 k).2.2.1 = some (tyX2 k) := by decide +kernel
abbrev cX2_over : ByteArray := prog_4_method_2_code
def yX2_over : MethodName := ⟨RX2, "over", "(J)I"⟩
abbrev cX2_under : ByteArray := prog_4_method_3_code
def yX2_under : MethodName := ⟨RX2, "under", "(J)I"⟩
abbrev cX2_lowest : ByteArray := prog_4_method_4_code
def yX2_lowest : MethodName := ⟨RX2, "lowest", "(JJ)J"⟩
abbrev cX2_sum : ByteArray := prog_4_method_5_code
def yX2_sum : MethodName := ⟨RX2, "sum", "(JJ)J"⟩
abbrev cX2_product : ByteArray := prog_4_method_6_code
def yX2_product : MethodName := ⟨RX2, "product", "(JJ)J"⟩
abbrev cX2_negative : ByteArray := prog_4_method_7_code
def yX2_negative : MethodName := ⟨RX2, "negative", "(J)J"⟩
abbrev cX2_inverse : ByteArray := prog_4_method_8_code
def yX2_inverse : MethodName := ⟨RX2, "inverse", "(J)J"⟩
def RX3 : String := "IdealProver$Ideal"
def TX3 : u_T := fun k => match k with
  | 0 => ("IdealProver$Ideal", "order", "LIdealProver$Order;", true)
  | 1 => ("IdealProver$Ideal", "elements", "[LIdealProver$Element;", true)
  | 2 => ("IdealProver$Ideal", "count", "I", false)
  | 3 => ("IdealProver$Ideal", "stepsBegun", "I", false)
  | 4 => ("IdealProver$Ideal", "pairsTaken", "I", false)
  | 5 => ("IdealProver$Ideal", "pairsPassedOver", "I", false)
  | 6 => ("IdealProver$Ideal", "elementsMade", "I", false)
  | 7 => ("IdealProver$Ideal", "waiting", "[I", true)
  | 8 => ("IdealProver$Ideal", "left", "I", false)
  | 9 => ("IdealProver$Ideal", "right", "I", false)
  | _ => ("IdealProver$Ideal", "shares", "I", false)
def tyX3 : Nat → FieldType := fun k => match k with
  | 0 => .object "IdealProver$Order"
  | 1 => .array (.object "IdealProver$Element")
  | 2 => .int
  | 3 => .int
  | 4 => .int
  | 5 => .int
  | 6 => .int
  | 7 => .array .int
  | 8 => .int
  | 9 => .int
  | _ => .int
abbrev wsX30 : List Cond := u_ws RX3 TX3 11
theorem nmX3 : ∀ a, a < 11 → ∀ b, b < 11 → a ≠ b → (TX3 a).2.1 ≠ (TX3 b).2.1 := by decide +kernel
theorem tyX3_ok : ∀ k, k < 11 → parseFieldDescriptor (TX3 k).2.2.1 = some (tyX3 k) := by decide +kernel
abbrev cX3_init : ByteArray := prog_5_method_1_code
def yX3_init : MethodName := ⟨RX3, "<init>", "(LIdealProver$Order;I)V"⟩
abbrev cX3_build : ByteArray := prog_5_method_2_code
def yX3_build : MethodName := ⟨RX3, "build", "([LIdealProver$Polynomial;IILIdealProver$Division;I)I"⟩
abbrev cX3_begin : ByteArray := prog_5_method_3_code
def yX3_begin : MethodName := ⟨RX3, "begin", "(I)V"⟩
abbrev cX3_adopt : ByteArray := prog_5_method_4_code
def yX3_adopt : MethodName := ⟨RX3, "adopt", "([LIdealProver$Polynomial;I)I"⟩
abbrev cX3_add : ByteArray := prog_5_method_5_code
def yX3_add : MethodName := ⟨RX3, "add", "()V"⟩
abbrev cX3_choosePair : ByteArray := prog_5_method_6_code
def yX3_choosePair : MethodName := ⟨RX3, "choosePair", "()Z"⟩
abbrev cX3_settlePair : ByteArray := prog_5_method_7_code
def yX3_settlePair : MethodName := ⟨RX3, "settlePair", "(LIdealProver$Division;)I"⟩
abbrev cX3_isNeedless : ByteArray := prog_5_method_8_code
def yX3_isNeedless : MethodName := ⟨RX3, "isNeedless", "(I)Z"⟩
abbrev cX3_isWaiting : ByteArray := prog_5_method_9_code
def yX3_isWaiting : MethodName := ⟨RX3, "isWaiting", "(II)Z"⟩
abbrev cX3_crossOut : ByteArray := prog_5_method_10_code
def yX3_crossOut : MethodName := ⟨RX3, "crossOut", "(ILIdealProver$Polynomial;)Z"⟩
abbrev cX3_takeQuotients : ByteArray := prog_5_method_11_code
def yX3_takeQuotients : MethodName := ⟨RX3, "takeQuotients", "(LIdealProver$Element;LIdealProver$Division;)Z"⟩
abbrev cX3_dropNeedless : ByteArray := prog_5_method_12_code
def yX3_dropNeedless : MethodName := ⟨RX3, "dropNeedless", "()V"⟩
abbrev cX3_isCovered : ByteArray := prog_5_method_13_code
def yX3_isCovered : MethodName := ⟨RX3, "isCovered", "(II)Z"⟩
abbrev cX3_sortElements : ByteArray := prog_5_method_14_code
def yX3_sortElements : MethodName := ⟨RX3, "sortElements", "()V"⟩
abbrev cX3_reduceElement : ByteArray := prog_5_method_15_code
def yX3_reduceElement : MethodName := ⟨RX3, "reduceElement", "(ILIdealProver$Division;)I"⟩
abbrev cX3_isWhole : ByteArray := prog_5_method_16_code
def yX3_isWhole : MethodName := ⟨RX3, "isWhole", "()Z"⟩
abbrev cX3_countBelow : ByteArray := prog_5_method_17_code
def yX3_countBelow : MethodName := ⟨RX3, "countBelow", "(I)I"⟩
abbrev cX3_wall : ByteArray := prog_5_method_18_code
def yX3_wall : MethodName := ⟨RX3, "wall", "(II)I"⟩
abbrev cX3_height : ByteArray := prog_5_method_19_code
def yX3_height : MethodName := ⟨RX3, "height", "(II)I"⟩
def RX4 : String := "IdealProver$Monomial"
def TX4 : u_T := fun k => match k with
  | _ => ("", "", "", false)
def tyX4 : Nat → FieldType := fun k => match k with
  | _ => .int
abbrev wsX40 : List Cond := u_ws RX4 TX4 0
theorem nmX4 : ∀ a, a < 0 → ∀ b, b < 0 → a ≠ b → (TX4 a).2.1 ≠ (TX4 b).2.1 := by decide +kernel
theorem tyX4_ok : ∀ k, k < 0 → parseFieldDescriptor (TX4 k).2.2.1 = some (tyX4 k) := by decide +kernel
abbrev cX4_exponent : ByteArray := prog_6_method_2_code
def yX4_exponent : MethodName := ⟨RX4, "exponent", "(II)I"⟩
abbrev cX4_single : ByteArray := prog_6_method_3_code
def yX4_single : MethodName := ⟨RX4, "single", "(I)I"⟩
abbrev cX4_isInside : ByteArray := prog_6_method_4_code
def yX4_isInside : MethodName := ⟨RX4, "isInside", "(I)Z"⟩
abbrev cX4_divides : ByteArray := prog_6_method_5_code
def yX4_divides : MethodName := ⟨RX4, "divides", "(II)Z"⟩
abbrev cX4_leastCommon : ByteArray := prog_6_method_6_code
def yX4_leastCommon : MethodName := ⟨RX4, "leastCommon", "(II)I"⟩
abbrev cX4_haveVariableInCommon : ByteArray := prog_6_method_7_code
def yX4_haveVariableInCommon : MethodName := ⟨RX4, "haveVariableInCommon", "(II)Z"⟩
def RX5 : String := "IdealProver$Order"
def TX5 : u_T := fun k => match k with
  | _ => ("IdealProver$Order", "kind", "I", false)
def tyX5 : Nat → FieldType := fun k => match k with
  | _ => .int
abbrev wsX50 : List Cond := u_ws RX5 TX5 1
theorem nmX5 : ∀ a, a < 1 → ∀ b, b < 1 → a ≠ b → (TX5 a).2.1 ≠ (TX5 b).2.1 := by decide +kernel
theorem tyX5_ok : ∀ k, k < 1 → parseFieldDescriptor (TX5 k).2.2.1 = some (tyX5 k) := by decide +kernel
abbrev cX5_init : ByteArray := prog_7_method_1_code
def yX5_init : MethodName := ⟨RX5, "<init>", "()V"⟩
abbrev cX5_rank : ByteArray := prog_7_method_2_code
def yX5_rank : MethodName := ⟨RX5, "rank", "(I)I"⟩
def RX6 : String := "IdealProver$Polynomial"
def TX6 : u_T := fun k => match k with
  | 0 => ("IdealProver$Polynomial", "order", "LIdealProver$Order;", true)
  | 1 => ("IdealProver$Polynomial", "fractions", "[J", true)
  | 2 => ("IdealProver$Polynomial", "powers", "[I", true)
  | 3 => ("IdealProver$Polynomial", "ranks", "[I", true)
  | _ => ("IdealProver$Polynomial", "count", "I", false)
def tyX6 : Nat → FieldType := fun k => match k with
  | 0 => .object "IdealProver$Order"
  | 1 => .array .long
  | 2 => .array .int
  | 3 => .array .int
  | _ => .int
abbrev wsX60 : List Cond := u_ws RX6 TX6 5
theorem nmX6 : ∀ a, a < 5 → ∀ b, b < 5 → a ≠ b → (TX6 a).2.1 ≠ (TX6 b).2.1 := by decide +kernel
theorem tyX6_ok : ∀ k, k < 5 → parseFieldDescriptor (TX6 k).2.2.1 = some (tyX6 k) := by decide +kernel
abbrev cX6_init : ByteArray := prog_8_method_1_code
def yX6_init : MethodName := ⟨RX6, "<init>", "(LIdealProver$Order;)V"⟩
abbrev cX6_empty : ByteArray := prog_8_method_2_code
def yX6_empty : MethodName := ⟨RX6, "empty", "()V"⟩
abbrev cX6_become : ByteArray := prog_8_method_3_code
def yX6_become : MethodName := ⟨RX6, "become", "(LIdealProver$Polynomial;)V"⟩
abbrev cX6_isLike : ByteArray := prog_8_method_4_code
def yX6_isLike : MethodName := ⟨RX6, "isLike", "(LIdealProver$Polynomial;)Z"⟩
abbrev cX6_isWithout : ByteArray := prog_8_method_5_code
def yX6_isWithout : MethodName := ⟨RX6, "isWithout", "(I)Z"⟩
abbrev cX6_come : ByteArray := prog_8_method_6_code
def yX6_come : MethodName := ⟨RX6, "come", "(JI)Z"⟩
abbrev cX6_find : ByteArray := prog_8_method_7_code
def yX6_find : MethodName := ⟨RX6, "find", "(I)I"⟩
abbrev cX6_shift : ByteArray := prog_8_method_8_code
def yX6_shift : MethodName := ⟨RX6, "shift", "(II)V"⟩
abbrev cX6_behead : ByteArray := prog_8_method_9_code
def yX6_behead : MethodName := ⟨RX6, "behead", "()V"⟩
abbrev cX6_addMultiple : ByteArray := prog_8_method_10_code
def yX6_addMultiple : MethodName := ⟨RX6, "addMultiple", "(JILIdealProver$Polynomial;)Z"⟩
abbrev cX6_addProduct : ByteArray := prog_8_method_11_code
def yX6_addProduct : MethodName := ⟨RX6, "addProduct", "(LIdealProver$Polynomial;LIdealProver$Polynomial;)Z"⟩
abbrev cX6_becomeProduct : ByteArray := prog_8_method_12_code
def yX6_becomeProduct : MethodName := ⟨RX6, "becomeProduct", "(LIdealProver$Polynomial;LIdealProver$Polynomial;)Z"⟩
abbrev cX6_multiply : ByteArray := prog_8_method_13_code
def yX6_multiply : MethodName := ⟨RX6, "multiply", "(J)Z"⟩
abbrev cX6_arrange : ByteArray := prog_8_method_14_code
def yX6_arrange : MethodName := ⟨RX6, "arrange", "()V"⟩
abbrev cX6_valueAt : ByteArray := prog_8_method_15_code
def yX6_valueAt : MethodName := ⟨RX6, "valueAt", "([II)J"⟩
abbrev cX6_termAt : ByteArray := prog_8_method_16_code
def yX6_termAt : MethodName := ⟨RX6, "termAt", "(I[II)J"⟩
def RX7 : String := "IdealProver"
def TX7 : u_T := fun k => match k with
  | 0 => ("IdealProver", "variableCount", "I", true)
  | 1 => ("IdealProver", "monomialOrder", "LIdealProver$Order;", true)
  | 2 => ("IdealProver", "places", "[LIdealProver$Polynomial;", true)
  | 3 => ("IdealProver", "generators", "[LIdealProver$Polynomial;", true)
  | 4 => ("IdealProver", "generatorCount", "I", false)
  | 5 => ("IdealProver", "house", "LIdealProver$Ideal;", true)
  | 6 => ("IdealProver", "houseStands", "Z", false)
  | 7 => ("IdealProver", "guest", "LIdealProver$Ideal;", true)
  | 8 => ("IdealProver", "work", "LIdealProver$Division;", false)
  | 9 => ("IdealProver", "proof", "LIdealProver$Division;", false)
  | 10 => ("IdealProver", "proven", "Z", false)
  | 11 => ("IdealProver", "sum", "LIdealProver$Polynomial;", true)
  | 12 => ("IdealProver", "product", "LIdealProver$Polynomial;", true)
  | _ => ("IdealProver", "point", "[I", true)
def tyX7 : Nat → FieldType := fun k => match k with
  | 0 => .int
  | 1 => .object "IdealProver$Order"
  | 2 => .array (.object "IdealProver$Polynomial")
  | 3 => .array (.object "IdealProver$Polynomial")
  | 4 => .int
  | 5 => .object "IdealProver$Ideal"
  | 6 => .boolean
  | 7 => .object "IdealProver$Ideal"
  | 8 => .object "IdealProver$Division"
  | 9 => .object "IdealProver$Division"
  | 10 => .boolean
  | 11 => .object "IdealProver$Polynomial"
  | 12 => .object "IdealProver$Polynomial"
  | _ => .array .int
abbrev wsX70 : List Cond := u_ws RX7 TX7 14
theorem nmX7 : ∀ a, a < 14 → ∀ b, b < 14 → a ≠ b → (TX7 a).2.1 ≠ (TX7 b).2.1 := by decide +kernel
theorem tyX7_ok : ∀ k, k < 14 → parseFieldDescriptor (TX7 k).2.2.1 = some (tyX7 k) := by decide +kernel
abbrev cX7_init : ByteArray := prog_1_method_1_code
def yX7_init : MethodName := ⟨RX7, "<init>", "(I)V"⟩
abbrev cX7_variables : ByteArray := prog_1_method_2_code
def yX7_variables : MethodName := ⟨RX7, "variables", "()I"⟩
abbrev cX7_order : ByteArray := prog_1_method_3_code
def yX7_order : MethodName := ⟨RX7, "order", "(I)I"⟩
abbrev cX7_term : ByteArray := prog_1_method_4_code
def yX7_term : MethodName := ⟨RX7, "term", "(IIII)I"⟩
abbrev cX7_zero : ByteArray := prog_1_method_5_code
def yX7_zero : MethodName := ⟨RX7, "zero", "(I)I"⟩
abbrev cX7_size : ByteArray := prog_1_method_6_code
def yX7_size : MethodName := ⟨RX7, "size", "(I)I"⟩
abbrev cX7_told : ByteArray := prog_1_method_7_code
def yX7_told : MethodName := ⟨RX7, "told", "(III)I"⟩
abbrev cX7_plus : ByteArray := prog_1_method_8_code
def yX7_plus : MethodName := ⟨RX7, "plus", "(III)I"⟩
abbrev cX7_times : ByteArray := prog_1_method_9_code
def yX7_times : MethodName := ⟨RX7, "times", "(III)I"⟩
abbrev cX7_same : ByteArray := prog_1_method_10_code
def yX7_same : MethodName := ⟨RX7, "same", "(II)I"⟩
abbrev cX7_vanishes : ByteArray := prog_1_method_11_code
def yX7_vanishes : MethodName := ⟨RX7, "vanishes", "(IIIII)I"⟩
abbrev cX7_generator : ByteArray := prog_1_method_12_code
def yX7_generator : MethodName := ⟨RX7, "generator", "(I)I"⟩
abbrev cX7_clear : ByteArray := prog_1_method_13_code
def yX7_clear : MethodName := ⟨RX7, "clear", "()I"⟩
abbrev cX7_basis : ByteArray := prog_1_method_14_code
def yX7_basis : MethodName := ⟨RX7, "basis", "(I)I"⟩
abbrev cX7_done : ByteArray := prog_1_method_15_code
def yX7_done : MethodName := ⟨RX7, "done", "(I)I"⟩
abbrev cX7_element : ByteArray := prog_1_method_16_code
def yX7_element : MethodName := ⟨RX7, "element", "(II)I"⟩
abbrev cX7_share : ByteArray := prog_1_method_17_code
def yX7_share : MethodName := ⟨RX7, "share", "(III)I"⟩
abbrev cX7_divide : ByteArray := prog_1_method_18_code
def yX7_divide : MethodName := ⟨RX7, "divide", "(II)I"⟩
abbrev cX7_certificate : ByteArray := prog_1_method_19_code
def yX7_certificate : MethodName := ⟨RX7, "certificate", "(II)I"⟩
abbrev cX7_check : ByteArray := prog_1_method_20_code
def yX7_check : MethodName := ⟨RX7, "check", "()I"⟩
abbrev cX7_radical : ByteArray := prog_1_method_21_code
def yX7_radical : MethodName := ⟨RX7, "radical", "(II)I"⟩
abbrev cX7_free : ByteArray := prog_1_method_22_code
def yX7_free : MethodName := ⟨RX7, "free", "(I)I"⟩
abbrev cX7_stairs : ByteArray := prog_1_method_23_code
def yX7_stairs : MethodName := ⟨RX7, "stairs", "()I"⟩
abbrev cX7_row : ByteArray := prog_1_method_24_code
def yX7_row : MethodName := ⟨RX7, "row", "(ILIdealProver$Order;)[LIdealProver$Polynomial;"⟩
abbrev cX7_isPlace : ByteArray := prog_1_method_25_code
def yX7_isPlace : MethodName := ⟨RX7, "isPlace", "(I)Z"⟩
abbrev cX7_isLarge : ByteArray := prog_1_method_26_code
def yX7_isLarge : MethodName := ⟨RX7, "isLarge", "(II)Z"⟩
abbrev cX7_isTold : ByteArray := prog_1_method_27_code
def yX7_isTold : MethodName := ⟨RX7, "isTold", "(I)Z"⟩
abbrev cX7_isElement : ByteArray := prog_1_method_28_code
def yX7_isElement : MethodName := ⟨RX7, "isElement", "(I)Z"⟩
abbrev cX7_isGenerator : ByteArray := prog_1_method_29_code
def yX7_isGenerator : MethodName := ⟨RX7, "isGenerator", "(I)Z"⟩
abbrev cX7_put : ByteArray := prog_1_method_30_code
def yX7_put : MethodName := ⟨RX7, "put", "(LIdealProver$Polynomial;I)I"⟩
abbrev cX7_forgetBasis : ByteArray := prog_1_method_31_code
def yX7_forgetBasis : MethodName := ⟨RX7, "forgetBasis", "()V"⟩
abbrev cX7_sumUp : ByteArray := prog_1_method_32_code
def yX7_sumUp : MethodName := ⟨RX7, "sumUp", "([LIdealProver$Polynomial;)Z"⟩
def RX8 : String := "IdealProverModel"
def TX8 : u_T := fun k => match k with
  | 0 => ("IdealProverModel", "n", "I", true)
  | 1 => ("IdealProverModel", "vars", "I", false)
  | 2 => ("IdealProverModel", "kind", "I", false)
  | 3 => ("IdealProverModel", "num", "[I", true)
  | 4 => ("IdealProverModel", "den", "[I", true)
  | 5 => ("IdealProverModel", "mono", "[I", true)
  | 6 => ("IdealProverModel", "size", "[I", true)
  | 7 => ("IdealProverModel", "generators", "I", false)
  | 8 => ("IdealProverModel", "elements", "I", false)
  | 9 => ("IdealProverModel", "hasBasis", "Z", false)
  | 10 => ("IdealProverModel", "hasCertificate", "Z", false)
  | 11 => ("IdealProverModel", "full", "Z", false)
  | 12 => ("IdealProverModel", "spent", "Z", false)
  | 13 => ("IdealProverModel", "steps", "I", false)
  | 14 => ("IdealProverModel", "most", "I", false)
  | 15 => ("IdealProverModel", "did", "[I", true)
  | 16 => ("IdealProverModel", "up", "I", false)
  | 17 => ("IdealProverModel", "down", "I", false)
  | 18 => ("IdealProverModel", "at", "[I", true)
  | 19 => ("IdealProverModel", "firstOf", "I", false)
  | 20 => ("IdealProverModel", "manyOf", "I", false)
  | 21 => ("IdealProverModel", "leftOut", "I", false)
  | 22 => ("IdealProverModel", "withShares", "Z", false)
  | 23 => ("IdealProverModel", "waits", "[Z", true)
  | 24 => ("IdealProverModel", "pairsDone", "I", false)
  | 25 => ("IdealProverModel", "pairsPassed", "I", false)
  | 26 => ("IdealProverModel", "madeCount", "I", false)
  | _ => ("IdealProverModel", "goes", "[Z", true)
def tyX8 : Nat → FieldType := fun k => match k with
  | 0 => .int
  | 1 => .int
  | 2 => .int
  | 3 => .array .int
  | 4 => .array .int
  | 5 => .array .int
  | 6 => .array .int
  | 7 => .int
  | 8 => .int
  | 9 => .boolean
  | 10 => .boolean
  | 11 => .boolean
  | 12 => .boolean
  | 13 => .int
  | 14 => .int
  | 15 => .array .int
  | 16 => .int
  | 17 => .int
  | 18 => .array .int
  | 19 => .int
  | 20 => .int
  | 21 => .int
  | 22 => .boolean
  | 23 => .array .boolean
  | 24 => .int
  | 25 => .int
  | 26 => .int
  | _ => .array .boolean
abbrev wsX80 : List Cond := u_ws RX8 TX8 28
theorem nmX8 : ∀ a, a < 28 → ∀ b, b < 28 → a ≠ b → (TX8 a).2.1 ≠ (TX8 b).2.1 := by decide +kernel
theorem tyX8_ok : ∀ k, k < 28 → parseFieldDescriptor (TX8 k).2.2.1 = some (tyX8 k) := by decide +kernel
abbrev cX8_init : ByteArray := prog_10_method_1_code
def yX8_init : MethodName := ⟨RX8, "<init>", "(I)V"⟩
abbrev cX8_variables : ByteArray := prog_10_method_2_code
def yX8_variables : MethodName := ⟨RX8, "variables", "()I"⟩
abbrev cX8_exponent : ByteArray := prog_10_method_3_code
def yX8_exponent : MethodName := ⟨RX8, "exponent", "(II)I"⟩
abbrev cX8_sum : ByteArray := prog_10_method_4_code
def yX8_sum : MethodName := ⟨RX8, "sum", "(I)I"⟩
abbrev cX8_compare : ByteArray := prog_10_method_5_code
def yX8_compare : MethodName := ⟨RX8, "compare", "(II)I"⟩
abbrev cX8_divides : ByteArray := prog_10_method_6_code
def yX8_divides : MethodName := ⟨RX8, "divides", "(II)Z"⟩
abbrev cX8_common : ByteArray := prog_10_method_7_code
def yX8_common : MethodName := ⟨RX8, "common", "(II)I"⟩
abbrev cX8_product : ByteArray := prog_10_method_8_code
def yX8_product : MethodName := ⟨RX8, "product", "(II)I"⟩
abbrev cX8_lowest : ByteArray := prog_10_method_9_code
def yX8_lowest : MethodName := ⟨RX8, "lowest", "(JJ)V"⟩
abbrev cX8_multiplied : ByteArray := prog_10_method_10_code
def yX8_multiplied : MethodName := ⟨RX8, "multiplied", "(JJJJ)V"⟩
abbrev cX8_copy : ByteArray := prog_10_method_11_code
def yX8_copy : MethodName := ⟨RX8, "copy", "(II)V"⟩
abbrev cX8_lead : ByteArray := prog_10_method_12_code
def yX8_lead : MethodName := ⟨RX8, "lead", "(I)I"⟩
abbrev cX8_comes : ByteArray := prog_10_method_13_code
def yX8_comes : MethodName := ⟨RX8, "comes", "(IIII)V"⟩
abbrev cX8_adds : ByteArray := prog_10_method_14_code
def yX8_adds : MethodName := ⟨RX8, "adds", "(IIIII)V"⟩
abbrev cX8_made : ByteArray := prog_10_method_15_code
def yX8_made : MethodName := ⟨RX8, "made", "(III)V"⟩
abbrev cX8_isSame : ByteArray := prog_10_method_16_code
def yX8_isSame : MethodName := ⟨RX8, "isSame", "(II)Z"⟩
abbrev cX8_sorted : ByteArray := prog_10_method_17_code
def yX8_sorted : MethodName := ⟨RX8, "sorted", "(I)V"⟩
abbrev cX8_order : ByteArray := prog_10_method_18_code
def yX8_order : MethodName := ⟨RX8, "order", "(I)I"⟩
abbrev cX8_isPlace : ByteArray := prog_10_method_19_code
def yX8_isPlace : MethodName := ⟨RX8, "isPlace", "(I)Z"⟩
abbrev cX8_term : ByteArray := prog_10_method_20_code
def yX8_term : MethodName := ⟨RX8, "term", "(IIII)I"⟩
abbrev cX8_taken : ByteArray := prog_10_method_21_code
def yX8_taken : MethodName := ⟨RX8, "taken", "(II)I"⟩
abbrev cX8_zero : ByteArray := prog_10_method_22_code
def yX8_zero : MethodName := ⟨RX8, "zero", "(I)I"⟩
abbrev cX8_size : ByteArray := prog_10_method_23_code
def yX8_size : MethodName := ⟨RX8, "size", "(I)I"⟩
abbrev cX8_told : ByteArray := prog_10_method_24_code
def yX8_told : MethodName := ⟨RX8, "told", "(III)I"⟩
abbrev cX8_plus : ByteArray := prog_10_method_25_code
def yX8_plus : MethodName := ⟨RX8, "plus", "(III)I"⟩
abbrev cX8_times : ByteArray := prog_10_method_26_code
def yX8_times : MethodName := ⟨RX8, "times", "(III)I"⟩
abbrev cX8_same : ByteArray := prog_10_method_27_code
def yX8_same : MethodName := ⟨RX8, "same", "(II)I"⟩
abbrev cX8_vanishes : ByteArray := prog_10_method_28_code
def yX8_vanishes : MethodName := ⟨RX8, "vanishes", "(IIIII)I"⟩
abbrev cX8_divided : ByteArray := prog_10_method_29_code
def yX8_divided : MethodName := ⟨RX8, "divided", "(II)V"⟩
abbrev cX8_cofactor : ByteArray := prog_10_method_30_code
def yX8_cofactor : MethodName := ⟨RX8, "cofactor", "(II)I"⟩
abbrev cX8_lessShares : ByteArray := prog_10_method_31_code
def yX8_lessShares : MethodName := ⟨RX8, "lessShares", "(III)V"⟩
abbrev cX8_scaled : ByteArray := prog_10_method_32_code
def yX8_scaled : MethodName := ⟨RX8, "scaled", "(III)V"⟩
abbrev cX8_monic : ByteArray := prog_10_method_33_code
def yX8_monic : MethodName := ⟨RX8, "monic", "(I)V"⟩
abbrev cX8_isWaiting : ByteArray := prog_10_method_34_code
def yX8_isWaiting : MethodName := ⟨RX8, "isWaiting", "(II)Z"⟩
abbrev cX8_addPairs : ByteArray := prog_10_method_35_code
def yX8_addPairs : MethodName := ⟨RX8, "addPairs", "(I)V"⟩
abbrev cX8_isPassed : ByteArray := prog_10_method_36_code
def yX8_isPassed : MethodName := ⟨RX8, "isPassed", "(III)Z"⟩
abbrev cX8_make : ByteArray := prog_10_method_37_code
def yX8_make : MethodName := ⟨RX8, "make", "(IIZ)V"⟩
abbrev cX8_onePair : ByteArray := prog_10_method_38_code
def yX8_onePair : MethodName := ⟨RX8, "onePair", "()Z"⟩
abbrev cX8_clean : ByteArray := prog_10_method_39_code
def yX8_clean : MethodName := ⟨RX8, "clean", "()V"⟩
abbrev cX8_move : ByteArray := prog_10_method_40_code
def yX8_move : MethodName := ⟨RX8, "move", "(II)V"⟩
abbrev cX8_reduce : ByteArray := prog_10_method_41_code
def yX8_reduce : MethodName := ⟨RX8, "reduce", "(I)V"⟩
abbrev cX8_generator : ByteArray := prog_10_method_42_code
def yX8_generator : MethodName := ⟨RX8, "generator", "(I)I"⟩
abbrev cX8_clear : ByteArray := prog_10_method_43_code
def yX8_clear : MethodName := ⟨RX8, "clear", "()I"⟩
abbrev cX8_basis : ByteArray := prog_10_method_44_code
def yX8_basis : MethodName := ⟨RX8, "basis", "(I)I"⟩
abbrev cX8_done : ByteArray := prog_10_method_45_code
def yX8_done : MethodName := ⟨RX8, "done", "(I)I"⟩
abbrev cX8_element : ByteArray := prog_10_method_46_code
def yX8_element : MethodName := ⟨RX8, "element", "(II)I"⟩
abbrev cX8_share : ByteArray := prog_10_method_47_code
def yX8_share : MethodName := ⟨RX8, "share", "(III)I"⟩
abbrev cX8_own : ByteArray := prog_10_method_48_code
def yX8_own : MethodName := ⟨RX8, "own", "()V"⟩
abbrev cX8_divide : ByteArray := prog_10_method_49_code
def yX8_divide : MethodName := ⟨RX8, "divide", "(II)I"⟩
abbrev cX8_certificate : ByteArray := prog_10_method_50_code
def yX8_certificate : MethodName := ⟨RX8, "certificate", "(II)I"⟩
abbrev cX8_check : ByteArray := prog_10_method_51_code
def yX8_check : MethodName := ⟨RX8, "check", "()I"⟩
abbrev cX8_radical : ByteArray := prog_10_method_52_code
def yX8_radical : MethodName := ⟨RX8, "radical", "(II)I"⟩
abbrev cX8_free : ByteArray := prog_10_method_53_code
def yX8_free : MethodName := ⟨RX8, "free", "(I)I"⟩
abbrev cX8_stairs : ByteArray := prog_10_method_54_code
def yX8_stairs : MethodName := ⟨RX8, "stairs", "()I"⟩
abbrev cX8_isStair : ByteArray := prog_10_method_55_code
def yX8_isStair : MethodName := ⟨RX8, "isStair", "(I)Z"⟩
def RJ9 : String := "java/lang/Math"
def TJ9 : u_T := fun k => match k with
  | _ => ("", "", "", false)
def tyJ9 : Nat → FieldType := fun k => match k with
  | _ => .int
abbrev wsJ90 : List Cond := u_ws RJ9 TJ9 0
theorem nmJ9 : ∀ a, a < 0 → ∀ b, b < 0 → a ≠ b → (TJ9 a).2.1 ≠ (TJ9 b).2.1 := by decide +kernel
theorem tyJ9_ok : ∀ k, k < 0 → parseFieldDescriptor (TJ9 k).2.2.1 = some (tyJ9 k) := by decide +kernel
abbrev cJ9_min_7cf53 : ByteArray := prog_11_method_69_code
def yJ9_min_7cf53 : MethodName := ⟨RJ9, "min", "(II)I"⟩
def RJ10 : String := "java/lang/System"
def TJ10 : u_T := fun k => match k with
  | _ => ("", "", "", false)
def tyJ10 : Nat → FieldType := fun k => match k with
  | _ => .int
abbrev wsJ100 : List Cond := u_ws RJ10 TJ10 0
theorem nmJ10 : ∀ a, a < 0 → ∀ b, b < 0 → a ≠ b → (TJ10 a).2.1 ≠ (TJ10 b).2.1 := by decide +kernel
theorem tyJ10_ok : ∀ k, k < 0 → parseFieldDescriptor (TJ10 k).2.2.1 = some (tyJ10 k) := by decide +kernel
def RL : String := "IdealProverLaw"
abbrev cL_cell : ByteArray := method_2_code
def yL_cell : MethodName := ⟨RL, "cell", "([II)I"⟩
abbrev cL_law : ByteArray := code
def yL_law : MethodName := ⟨RL, "law", "([I)Z"⟩
end
section
/-! THE SMALL MACHINE: a memory of rows of numbers under small names (0 is null, 1 the script, the rest in the order of their making), instructions whose pool numbers are resolved, and what it is that a run of them ends well -/
abbrev zM : Type := (Nat → Nat × Nat) × Nat × Nat × (Nat → Nat → Int32) × (Nat → Nat → Int64) × (Nat → Nat → Nat)
abbrev zLv : Type := List (Option Value)
abbrev zO : Type := (Nat × zLv × List Value × zM) ⊕ (List Value × zM) ⊕ (Nat × Nat × List Value × Nat × zLv × List Value × zM)
abbrev zRes : Type := Option (List Prop × List (Prop × zO) × zO)
/-- shape of a row: its kind and length; 1 the script, 2 int[], 3 long[], 4 boolean[], 5 and 6 arrays of objects, 10 + c an object of class c -/
def zsh (M : zM) (a : Nat) : Nat × Nat := M.1 a
def zn (M : zM) : Nat := M.2.1
def zs (M : zM) : Nat := M.2.2.1
def zI (M : zM) (a k : Nat) : Int32 := M.2.2.2.1 a k
def zL (M : zM) (a k : Nat) : Int64 := M.2.2.2.2.1 a k
def zR (M : zM) (a k : Nat) : Nat := M.2.2.2.2.2 a k
def zuI (M : zM) (a k : Nat) (v : Int32) : zM := (M.1, M.2.1, M.2.2.1, (fun i j => if i = a ∧ j = k then v else M.2.2.2.1 i j), M.2.2.2.2.1, M.2.2.2.2.2)
def zuL (M : zM) (a k : Nat) (v : Int64) : zM := (M.1, M.2.1, M.2.2.1, M.2.2.2.1, (fun i j => if i = a ∧ j = k then v else M.2.2.2.2.1 i j), M.2.2.2.2.2)
def zuR (M : zM) (a k : Nat) (v : Nat) : zM := (M.1, M.2.1, M.2.2.1, M.2.2.2.1, M.2.2.2.2.1, (fun i j => if i = a ∧ j = k then v else M.2.2.2.2.2 i j))
/-- a row copied into another -/
def zcI (M : zM) (a sp b dp n : Nat) : zM := (M.1, M.2.1, M.2.2.1, (fun i j => if i = b ∧ dp ≤ j ∧ j < dp + n then M.2.2.2.1 a (sp + (j - dp)) else M.2.2.2.1 i j), M.2.2.2.2.1, M.2.2.2.2.2)
def zcL (M : zM) (a sp b dp n : Nat) : zM := (M.1, M.2.1, M.2.2.1, M.2.2.2.1, (fun i j => if i = b ∧ dp ≤ j ∧ j < dp + n then M.2.2.2.2.1 a (sp + (j - dp)) else M.2.2.2.2.1 i j), M.2.2.2.2.2)
/-- a new row of a shape, of so many slots -/
def zal (M : zM) (sh : Nat × Nat) (w : Nat) : zM := ((fun i => if i = M.2.1 then sh else M.1 i), M.2.1 + 1, M.2.2.1 + w, (fun i j => if i = M.2.1 then 0 else M.2.2.2.1 i j), (fun i j => if i = M.2.1 then 0 else M.2.2.2.2.1 i j), (fun i j => if i = M.2.1 then 0 else M.2.2.2.2.2 i j))
def zat {α : Type} : List α → Nat → Option α
  | [], _ => none
  | a :: _, 0 => some a
  | _ :: l, j + 1 => zat l j
def zset {α : Type} : List α → Nat → α → List α
  | [], _, _ => []
  | _ :: l, 0, v => v :: l
  | a :: l, j + 1, v => a :: zset l j v
/-- the first half of a long goes when its second half is written -/
def zwipe : Option Value → Option Value
  | some (.long _) => none
  | some (.double _) => none
  | v => v
def zkl : zLv → Nat → zLv
  | [], _ => []
  | a :: l, 0 => a :: l
  | a :: l, 1 => zwipe a :: l
  | a :: l, j + 2 => a :: zkl l (j + 1)
def zst1 (lv : zLv) (j : Nat) (v : Value) : zLv := zset (zkl lv j) j (some v)
def zst2 (lv : zLv) (j : Nat) (v : Value) : zLv := zset (zset (zkl lv j) j (some v)) (j + 1) none
/-- a constant -/
def zc : Int → Int32
  | .ofNat k => Int32.ofNat k
  | .negSucc k => -(Int32.ofNat (k + 1))
def zcl : Int → Int64
  | .ofNat k => Int64.ofNat k
  | .negSucc k => -(Int64.ofNat (k + 1))
def zin (j : Int32) (n : Nat) : Prop := ¬ (j < 0 ∨ n ≤ j.toNatClampNeg)
def zb (x : Int32) : Prop := x = 0 ∨ x = 1
def zcat : List Value → Nat
  | [] => 0
  | .long _ :: l => zcat l + 2
  | .double _ :: l => zcat l + 2
  | _ :: l => zcat l + 1
def zpop : Nat → List Value → List Value → Option (List Value × List Value)
  | 0, acc, st => some (acc, st)
  | _ + 1, _, [] => none
  | n + 1, acc, v :: st => zpop n (v :: acc) st
def znx (i : Nat) (lv : zLv) (st : List Value) (M : zM) : zRes := some ([], [], .inl (i, lv, st, M))
def zcs (cs : List Prop) (i : Nat) (lv : zLv) (st : List Value) (M : zM) : zRes := some (cs, [], .inl (i, lv, st, M))
def zbr (c : Prop) (t i : Nat) (lv : zLv) (st : List Value) (M : zM) : zRes := some ([], [(c, .inl (t, lv, st, M))], .inl (i, lv, st, M))
def zti (st : List Value) (f : Int32 → List Value → zRes) : zRes := match st with
  | .int x :: r => f x r
  | _ => none
def ztii (st : List Value) (f : Int32 → Int32 → List Value → zRes) : zRes := match st with
  | .int y :: .int x :: r => f x y r
  | _ => none
def ztl (st : List Value) (f : Int64 → List Value → zRes) : zRes := match st with
  | .long x :: r => f x r
  | _ => none
def ztll (st : List Value) (f : Int64 → Int64 → List Value → zRes) : zRes := match st with
  | .long y :: .long x :: r => f x y r
  | _ => none
def ztli (st : List Value) (f : Int64 → Int32 → List Value → zRes) : zRes := match st with
  | .int y :: .long x :: r => f x y r
  | _ => none
def ztr (st : List Value) (f : Nat → List Value → zRes) : zRes := match st with
  | .ref x :: r => f x r
  | _ => none
def ztri (st : List Value) (f : Nat → Int32 → List Value → zRes) : zRes := match st with
  | .int j :: .ref a :: r => f a j r
  | _ => none
def ztrii (st : List Value) (f : Nat → Int32 → Int32 → List Value → zRes) : zRes := match st with
  | .int v :: .int j :: .ref a :: r => f a j v r
  | _ => none
def ztril (st : List Value) (f : Nat → Int32 → Int64 → List Value → zRes) : zRes := match st with
  | .long v :: .int j :: .ref a :: r => f a j v r
  | _ => none
def ztrir (st : List Value) (f : Nat → Int32 → Nat → List Value → zRes) : zRes := match st with
  | .ref v :: .int j :: .ref a :: r => f a j v r
  | _ => none
def ztrr (st : List Value) (f : Nat → Nat → List Value → zRes) : zRes := match st with
  | .ref v :: .ref a :: r => f a v r
  | _ => none
/-- what arraycopy takes: n, dp, b, sp, a from the top -/
def ztcp (st : List Value) (f : Nat → Int32 → Nat → Int32 → Int32 → zRes) : zRes := match st with
  | [.int n, .int dp, .ref b, .int sp, .ref a] => f a sp b dp n
  | _ => none
def ztii0 (st : List Value) (f : Int32 → Int32 → zRes) : zRes := match st with
  | [.int y, .int x] => f x y
  | _ => none
def ztr0 (st : List Value) (f : Nat → zRes) : zRes := match st with
  | [.ref x] => f x
  | _ => none
def zsw (x : Int32) (lv : zLv) (r : List Value) (M : zM) : Int → List Int → List (Prop × zO)
  | _, [] => []
  | v, t :: ts => (x.toInt = v, .inl (t.toNat, lv, r, M)) :: zsw x lv r M (v + 1) ts
def zpk (M : zM) (a sp : Nat) (b : Nat) (dp n : Int32) (s0 : Int32) : List Prop := [¬ s0 < 0, ¬ dp < 0, ¬ n < 0, sp + n.toNatClampNeg ≤ (zsh M a).2, dp.toNatClampNeg + n.toNatClampNeg ≤ (zsh M b).2]
/-- a call: number of the method, of its arguments, the class of its object (0: static), the kind of its answer -/
def zcall (x : Nat) (obj : Bool) (i : Nat) (lv : zLv) (st : List Value) (M : zM) : zRes :=
  match zpop (x / 1000 % 10) [] st with
  | none => none
  | some (as, r) => cond (Nat.ble (zcat r) 8) (cond obj (match as with
      | .ref a :: _ => some ([(zsh M a).1 = 10 + x % 100], [], .inr (.inr (x / 10000, x / 100 % 10, as, i + 1, lv, r, M)))
      | _ => none) (some ([], [], .inr (.inr (x / 10000, x / 100 % 10, as, i + 1, lv, r, M))))) none
def zretq (rk : Nat) (st : List Value) (M : zM) : zRes :=
  match st with
  | [] => cond (rk == 0) (some ([], [], .inr (.inl ([], M)))) none
  | [.int v] => cond (rk == 1) (some ([], [], .inr (.inl ([.int v], M)))) (cond (rk == 2) (some ([zb v], [], .inr (.inl ([.int v], M)))) none)
  | [.long v] => cond (rk == 3) (some ([], [], .inr (.inl ([.long v], M)))) none
  | [.ref v] => cond (rk == 4) (some ([], [], .inr (.inl ([.ref v], M)))) none
  | _ => none
set_option maxHeartbeats 4000000 in
def zstep (rk : Nat) (ins : Instr) (i : Nat) (lv : zLv) (st : List Value) (M : zM) : zRes :=
  match ins with
  | .iconst n => znx (i + 1) lv (.int (zc n) :: st) M
  | .jsr_w n => znx (i + 1) lv (.long (zcl n) :: st) M
  | .iload j => (match zat lv j with
    | some (some (.int x)) => znx (i + 1) lv (.int x :: st) M
    | _ => none)
  | .lload j => (match zat lv j with
    | some (some (.long x)) => znx (i + 1) lv (.long x :: st) M
    | _ => none)
  | .aload j => (match zat lv j with
    | some (some (.ref x)) => znx (i + 1) lv (.ref x :: st) M
    | _ => none)
  | .istore j => zti st fun x r => znx (i + 1) (zst1 lv j (.int x)) r M
  | .lstore j => ztl st fun x r => znx (i + 1) (zst2 lv j (.long x)) r M
  | .astore j => ztr st fun x r => znx (i + 1) (zst1 lv j (.ref x)) r M
  | .iinc j n => (match zat lv j with
    | some (some (.int x)) => znx (i + 1) (zst1 lv j (.int (x + zc n))) st M
    | _ => none)
  | .iadd => ztii st fun x y r => znx (i + 1) lv (.int (x + y) :: r) M
  | .isub => ztii st fun x y r => znx (i + 1) lv (.int (x - y) :: r) M
  | .imul => ztii st fun x y r => znx (i + 1) lv (.int (x * y) :: r) M
  | .iand => ztii st fun x y r => znx (i + 1) lv (.int (x &&& y) :: r) M
  | .ior => ztii st fun x y r => znx (i + 1) lv (.int (x ||| y) :: r) M
  | .ineg => zti st fun x r => znx (i + 1) lv (.int (-x) :: r) M
  | .ishl => ztii st fun x y r => znx (i + 1) lv (.int (x <<< (y &&& 31)) :: r) M
  | .ishr => ztii st fun x y r => znx (i + 1) lv (.int (x >>> (y &&& 31)) :: r) M
  | .iushr => ztii st fun x y r => znx (i + 1) lv (.int (x.toUInt32 >>> (y.toUInt32 &&& Int32.toUInt32 31)).toInt32 :: r) M
  | .ladd => ztll st fun x y r => znx (i + 1) lv (.long (x + y) :: r) M
  | .lsub => ztll st fun x y r => znx (i + 1) lv (.long (x - y) :: r) M
  | .lmul => ztll st fun x y r => znx (i + 1) lv (.long (x * y) :: r) M
  | .lor => ztll st fun x y r => znx (i + 1) lv (.long (x ||| y) :: r) M
  | .land => ztll st fun x y r => znx (i + 1) lv (.long (x &&& y) :: r) M
  | .lneg => ztl st fun x r => znx (i + 1) lv (.long (-x) :: r) M
  | .ldiv => ztll st fun x y r => zcs [¬ y = 0] (i + 1) lv (.long (x / y) :: r) M
  | .lrem => ztll st fun x y r => zcs [¬ y = 0] (i + 1) lv (.long (x - x / y * y) :: r) M
  | .lshl => ztli st fun x y r => znx (i + 1) lv (.long (x <<< (y.toInt64 &&& 63)) :: r) M
  | .lshr => ztli st fun x y r => znx (i + 1) lv (.long (x >>> (y.toInt64 &&& 63)) :: r) M
  | .i2l => zti st fun x r => znx (i + 1) lv (.long x.toInt64 :: r) M
  | .l2i => ztl st fun x r => znx (i + 1) lv (.int x.toInt32 :: r) M
  | .lcmp => ztll st fun x y r => znx (i + 1) lv (.int (lg_cmp x y) :: r) M
  | .dup => (match st with
    | .int x :: r => znx (i + 1) lv (.int x :: .int x :: r) M
    | .ref x :: r => znx (i + 1) lv (.ref x :: .ref x :: r) M
    | _ => none)
  | .dup2 => ztri st fun a j r => znx (i + 1) lv (.int j :: .ref a :: .int j :: .ref a :: r) M
  | .pop => (match st with
    | .int _ :: r => znx (i + 1) lv r M
    | _ => none)
  | .goto t => znx t.toNat lv st M
  | .ifCond .eq t => zti st fun x r => zbr (x = 0) t.toNat (i + 1) lv r M
  | .ifCond .ne t => zti st fun x r => zbr (¬ x = 0) t.toNat (i + 1) lv r M
  | .ifCond .lt t => zti st fun x r => zbr (x < 0) t.toNat (i + 1) lv r M
  | .ifCond .ge t => zti st fun x r => zbr (0 ≤ x) t.toNat (i + 1) lv r M
  | .ifCond .gt t => zti st fun x r => zbr (0 < x) t.toNat (i + 1) lv r M
  | .ifCond .le t => zti st fun x r => zbr (x ≤ 0) t.toNat (i + 1) lv r M
  | .if_icmp .eq t => ztii st fun x y r => zbr (x = y) t.toNat (i + 1) lv r M
  | .if_icmp .ne t => ztii st fun x y r => zbr (¬ x = y) t.toNat (i + 1) lv r M
  | .if_icmp .lt t => ztii st fun x y r => zbr (x < y) t.toNat (i + 1) lv r M
  | .if_icmp .ge t => ztii st fun x y r => zbr (y ≤ x) t.toNat (i + 1) lv r M
  | .if_icmp .gt t => ztii st fun x y r => zbr (y < x) t.toNat (i + 1) lv r M
  | .if_icmp .le t => ztii st fun x y r => zbr (x ≤ y) t.toNat (i + 1) lv r M
  | .tableswitch d lo _ ts => zti st fun x r => some ([], zsw x lv r M lo ts.toList, .inl (d.toNat, lv, r, M))
  | .getfield x => ztr st fun a r => zcs [(zsh M a).1 = 10 + x / 1000] (i + 1) lv (cond (x % 10 == 2) (.ref (zR M a (x / 10 % 100))) (.int (zI M a (x / 10 % 100))) :: r) M
  | .putfield x => cond (x % 10 == 2) (ztrr st fun a v r => zcs [(zsh M a).1 = 10 + x / 1000] (i + 1) lv r (zuR M a (x / 10 % 100) v))
    (match st with
    | .int v :: .ref a :: r => zcs (cond (x % 10 == 1) [(zsh M a).1 = 10 + x / 1000, zb v] [(zsh M a).1 = 10 + x / 1000]) (i + 1) lv r (zuI M a (x / 10 % 100) v)
    | _ => none)
  | .saload => ztri st fun a j r => zcs [a = 1, zin j (zsh M 1).2] (i + 1) lv (.int (zI M 1 j.toNatClampNeg) :: r) M
  | .arraylength => ztr st fun a r => zcs [a = 1] (i + 1) lv (.int (Int32.ofNat (zsh M 1).2) :: r) M
  | .iaload => ztri st fun a j r => zcs [(zsh M a).1 = 2, zin j (zsh M a).2] (i + 1) lv (.int (zI M a j.toNatClampNeg) :: r) M
  | .laload => ztri st fun a j r => zcs [(zsh M a).1 = 3, zin j (zsh M a).2] (i + 1) lv (.long (zL M a j.toNatClampNeg) :: r) M
  | .baload => ztri st fun a j r => zcs [(zsh M a).1 = 4, zin j (zsh M a).2] (i + 1) lv (.int (zI M a j.toNatClampNeg) :: r) M
  | .ret kd => ztri st fun a j r => zcs [(zsh M a).1 = 5 + kd % 2, zin j (zsh M a).2] (i + 1) lv (.ref (zR M a j.toNatClampNeg) :: r) M
  | .iastore => ztrii st fun a j v r => zcs [(zsh M a).1 = 2, zin j (zsh M a).2] (i + 1) lv r (zuI M a j.toNatClampNeg v)
  | .bastore => ztrii st fun a j v r => zcs [(zsh M a).1 = 4, zin j (zsh M a).2, zb v] (i + 1) lv r (zuI M a j.toNatClampNeg v)
  | .lastore => ztril st fun a j v r => zcs [(zsh M a).1 = 3, zin j (zsh M a).2] (i + 1) lv r (zuL M a j.toNatClampNeg v)
  | .putstatic x => ztrir st fun a j v r => zcs [(zsh M a).1 = 5 + x % 2, zin j (zsh M a).2, (zsh M v).1 = 10 + x / 10] (i + 1) lv r (zuR M a j.toNatClampNeg v)
  | .faload => ztcp st fun a sp b dp n => zcs (((zsh M a).1 = 2) :: ((zsh M b).1 = 2) :: zpk M a sp.toNatClampNeg b dp n sp) (i + 1) lv [] (zcI M a sp.toNatClampNeg b dp.toNatClampNeg n.toNatClampNeg)
  | .daload => ztcp st fun a sp b dp n => zcs (((zsh M a).1 = 3) :: ((zsh M b).1 = 3) :: zpk M a sp.toNatClampNeg b dp n sp) (i + 1) lv [] (zcL M a sp.toNatClampNeg b dp.toNatClampNeg n.toNatClampNeg)
  | .dadd => ztii0 st fun x y => znx (i + 1) lv [.int (if y < x then y else x)] M
  | .nop => ztr0 st fun a => zcs [¬ a = 0] (i + 1) lv [] M
  | .new x => znx (i + 1) lv (.ref (zn M) :: st) (zal M (10 + x / 100, 0) (x % 100))
  | .newarray .int => zti st fun n r => zcs [¬ n < 0, n.toNatClampNeg ≤ 100000] (i + 1) lv (.ref (zn M) :: r) (zal M (2, n.toNatClampNeg) n.toNatClampNeg)
  | .newarray .long => zti st fun n r => zcs [¬ n < 0, n.toNatClampNeg ≤ 100000] (i + 1) lv (.ref (zn M) :: r) (zal M (3, n.toNatClampNeg) n.toNatClampNeg)
  | .newarray .boolean => zti st fun n r => zcs [¬ n < 0, n.toNatClampNeg ≤ 100000] (i + 1) lv (.ref (zn M) :: r) (zal M (4, n.toNatClampNeg) n.toNatClampNeg)
  | .anewarray kd => zti st fun n r => zcs [¬ n < 0, n.toNatClampNeg ≤ 100000] (i + 1) lv (.ref (zn M) :: r) (zal M (5 + kd % 2, n.toNatClampNeg) n.toNatClampNeg)
  | .invokestatic x => zcall x false i lv st M
  | .invokevirtual x => zcall x true i lv st M
  | .invokespecial x => zcall x true i lv st M
  | .ireturn => (match st with
    | [.int v] => zretq rk [.int v] M
    | _ => none)
  | .lreturn => (match st with
    | [.long v] => zretq rk [.long v] M
    | _ => none)
  | .areturn => (match st with
    | [.ref v] => zretq rk [.ref v] M
    | _ => none)
  | .return_ => (match st with
    | [] => zretq rk [] M
    | _ => none)
  | _ => none
end
section
def zcj : List Prop → Prop → Prop
  | [], p => p
  | c :: l, p => c ∧ zcj l p
def zch {α : Type} : List (Prop × α) → α → (α → Prop) → Prop
  | [], o, k => k o
  | (c, x) :: l, o, k => (c → k x) ∧ (¬ c → zch l o k)
noncomputable def zpick {α : Type} : List (Prop × α) → α → α
  | [], o => o
  | (c, x) :: l, o => @ite α c (Classical.propDecidable c) x (zpick l o)
/-- the answer of a call, by its kind -/
def zrv (rk : Nat) (r : List Value) (f : List Value → Prop) : Prop := match rk with
  | 0 => r = [] ∧ f []
  | 1 => ∃ x : Int32, r = [.int x] ∧ f [.int x]
  | 2 => ∃ x : Int32, r = [.int x] ∧ f [.int x]
  | 3 => ∃ x : Int64, r = [.long x] ∧ f [.long x]
  | _ => ∃ x : Nat, r = [.ref x] ∧ f [.ref x]
abbrev zCall : Type := Nat → List Value → zM → (List Value → zM → Prop) → Prop
def zout (Cl : zCall) (k : Nat → zLv → List Value → zM → Prop) (Q : List Value → zM → Prop) : zO → Prop
  | .inl (i, lv, st, M) => k i lv st M
  | .inr (.inl (r, M)) => Q r M
  | .inr (.inr (m, rk, as, i, lv, st, M)) => Cl m as M fun r M2 => zrv rk r fun vs => k i lv (vs ++ st) M2
def zres (r : zRes) (k : zO → Prop) : Prop := match r with
  | none => False
  | some (cs, ch, o) => zcj cs (zch ch o k)
def zgo (rk : Nat) (code : List Instr) (i : Nat) (lv : zLv) (st : List Value) (M : zM) (k : zO → Prop) : Prop := match zat code i with
  | none => False
  | some ins => zres (zstep rk ins i lv st M) k
/-- from here on, in at most so many steps: to an end with Q, or to a place where it stops, with K -/
def zwp (Cl : zCall) (rk : Nat) (code : List Instr) (stop : Nat → Bool) (K : Nat → zLv → List Value → zM → Prop) (Q : List Value → zM → Prop) : Nat → Nat → zLv → List Value → zM → Prop
  | 0, _, _, _, _ => False
  | f + 1, i, lv, st, M => zgo rk code i lv st M (zout Cl (fun i lv st M => cond (stop i) (K i lv st M) (zwp Cl rk code stop K Q f i lv st M)) Q)
def zW (Cl : zCall) (rk : Nat) (code : List Instr) (Q : List Value → zM → Prop) (i : Nat) (lv : zLv) (st : List Value) (M : zM) : Prop := ∃ f, zwp Cl rk code (fun _ => false) (fun _ _ _ _ => False) Q f i lv st M
theorem zcj_imp : ∀ {cs : List Prop} {p q : Prop}, (p → q) → zcj cs p → zcj cs q
  | [], _, _, h, a => h a
  | _ :: _, _, _, h, a => ⟨a.1, zcj_imp h a.2⟩
theorem zcj_iff : ∀ {cs : List Prop} {p : Prop}, zcj cs p ↔ (∀ c ∈ cs, c) ∧ p
  | [], p => ⟨fun h => ⟨fun c hc => absurd hc List.not_mem_nil, h⟩, fun h => h.2⟩
  | c :: cs, p => by
    show c ∧ zcj cs p ↔ _
    rw [zcj_iff]
    constructor
    · rintro ⟨a, b, d⟩
      refine ⟨fun x hx => ?_, d⟩
      rcases List.mem_cons.mp hx with rfl | hx
      · exact a
      · exact b x hx
    · rintro ⟨a, d⟩
      exact ⟨a _ List.mem_cons_self, fun x hx => a x (List.mem_cons_of_mem _ hx), d⟩
theorem zch_iff {α : Type} : ∀ {ch : List (Prop × α)} {o : α} {k : α → Prop}, zch ch o k ↔ k (zpick ch o)
  | [], o, k => Iff.rfl
  | (c, x) :: l, o, k => by
    show ((c → k x) ∧ (¬ c → zch l o k)) ↔ k (@ite α c (Classical.propDecidable c) x (zpick l o))
    rw [zch_iff]
    by_cases h : c
    · simp [h]
    · simp [h]
theorem zrv_iff {rk : Nat} {r : List Value} {f : List Value → Prop} : zrv rk r f ↔ zrv rk r (fun _ => True) ∧ f r := by
  unfold zrv
  split
  · exact ⟨fun ⟨h, a⟩ => ⟨⟨h, trivial⟩, h ▸ a⟩, fun ⟨⟨h, _⟩, a⟩ => ⟨h, h ▸ a⟩⟩
  · exact ⟨fun ⟨x, h, a⟩ => ⟨⟨x, h, trivial⟩, h ▸ a⟩, fun ⟨⟨x, h, _⟩, a⟩ => ⟨x, h, h ▸ a⟩⟩
  · exact ⟨fun ⟨x, h, a⟩ => ⟨⟨x, h, trivial⟩, h ▸ a⟩, fun ⟨⟨x, h, _⟩, a⟩ => ⟨x, h, h ▸ a⟩⟩
  · exact ⟨fun ⟨x, h, a⟩ => ⟨⟨x, h, trivial⟩, h ▸ a⟩, fun ⟨⟨x, h, _⟩, a⟩ => ⟨x, h, h ▸ a⟩⟩
  · exact ⟨fun ⟨x, h, a⟩ => ⟨⟨x, h, trivial⟩, h ▸ a⟩, fun ⟨⟨x, h, _⟩, a⟩ => ⟨x, h, h ▸ a⟩⟩
/-- calls are good: they say no less of more, and have one end -/
def zgood (Cl : zCall) : Prop := (∀ m as M (Q Q' : List Value → zM → Prop), (∀ r M2, Q r M2 → Q' r M2) → Cl m as M Q → Cl m as M Q') ∧ ∀ m as M Q, Cl m as M Q → ∃ r M2, Q r M2 ∧ zn M ≤ zn M2 ∧ zs M ≤ zs M2 ∧ Cl m as M (fun r' M' => r' = r ∧ M' = M2)
theorem zres_imp {r : zRes} {k k' : zO → Prop} (h : ∀ o, k o → k' o) (a : zres r k) : zres r k' := by
  match r, a with
  | some (cs, ch, o), a => exact zcj_imp (fun b => zch_iff.mpr (h _ (zch_iff.mp b))) a
theorem zgo_imp {rk : Nat} {code : List Instr} {i : Nat} {lv : zLv} {st : List Value} {M : zM} {k k' : zO → Prop} (h : ∀ o, k o → k' o) (a : zgo rk code i lv st M k) : zgo rk code i lv st M k' := by
  unfold zgo at a ⊢
  split at a
  · exact a
  · exact zres_imp h a
theorem zout_imp {Cl : zCall} (hC : zgood Cl) {k k' : Nat → zLv → List Value → zM → Prop} {Q Q' : List Value → zM → Prop} (hk : ∀ i lv st M, k i lv st M → k' i lv st M) (hQ : ∀ r M, Q r M → Q' r M) : ∀ o, zout Cl k Q o → zout Cl k' Q' o
  | .inl (_, _, _, _), a => hk _ _ _ _ a
  | .inr (.inl (_, _)), a => hQ _ _ a
  | .inr (.inr (m, rk, as, i, lv, st, M)), a => hC.1 m as M _ _ (fun r M2 b => zrv_iff.mpr ⟨(zrv_iff.mp b).1, hk _ _ _ _ (zrv_iff.mp b).2⟩) a
theorem zwp_imp {Cl : zCall} (hC : zgood Cl) {rk : Nat} {code : List Instr} {stop : Nat → Bool} {K K' : Nat → zLv → List Value → zM → Prop} {Q Q' : List Value → zM → Prop} (hK : ∀ i lv st M, K i lv st M → K' i lv st M) (hQ : ∀ r M, Q r M → Q' r M) : ∀ (f i : Nat) (lv : zLv) (st : List Value) (M : zM), zwp Cl rk code stop K Q f i lv st M → zwp Cl rk code stop K' Q' f i lv st M
  | 0, _, _, _, _, a => a
  | f + 1, i, lv, st, M, a => zgo_imp (zout_imp hC (fun i lv st M b => by
      cases hs : stop i
      · rw [hs] at b; exact zwp_imp hC hK hQ f i lv st M b
      · rw [hs] at b; exact hK _ _ _ _ b) hQ) a
theorem zwp_fuel {Cl : zCall} (hC : zgood Cl) {rk : Nat} {code : List Instr} {stop : Nat → Bool} {K : Nat → zLv → List Value → zM → Prop} {Q : List Value → zM → Prop} : ∀ (f f' i : Nat) (lv : zLv) (st : List Value) (M : zM), f ≤ f' → zwp Cl rk code stop K Q f i lv st M → zwp Cl rk code stop K Q f' i lv st M
  | 0, _, _, _, _, _, _, a => a.elim
  | f + 1, 0, _, _, _, _, h, _ => absurd h (Nat.not_succ_le_zero f)
  | f + 1, f' + 1, i, lv, st, M, h, a => zgo_imp (zout_imp hC (fun i lv st M b => by
      cases hs : stop i
      · rw [hs] at b; exact zwp_fuel hC f f' i lv st M (Nat.le_of_succ_le_succ h) b
      · rw [hs] at b; exact b) (fun _ _ b => b)) a
def zOM : zO → zM
  | .inl (_, _, _, M) => M
  | .inr (.inl (_, M)) => M
  | .inr (.inr (_, _, _, _, _, _, M)) => M
/-- memory only grows -/
def zgr (M : zM) (r : zRes) : Prop := match r with
  | none => True
  | some (_, ch, o) => (zn M ≤ zn (zOM o) ∧ zs M ≤ zs (zOM o)) ∧ ∀ q ∈ ch, zn M ≤ zn (zOM q.2) ∧ zs M ≤ zs (zOM q.2)
theorem zgr_nx {M : zM} {i : Nat} {lv : zLv} {st : List Value} {M' : zM} (h : zn M ≤ zn M' ∧ zs M ≤ zs M') : zgr M (znx i lv st M') := ⟨h, fun _ h => by cases h⟩
theorem zgr_cs {M : zM} {cs : List Prop} {i : Nat} {lv : zLv} {st : List Value} {M' : zM} (h : zn M ≤ zn M' ∧ zs M ≤ zs M') : zgr M (zcs cs i lv st M') := ⟨h, fun _ h => by cases h⟩
theorem zgr_br {M : zM} {c : Prop} {t i : Nat} {lv : zLv} {st : List Value} : zgr M (zbr c t i lv st M) := ⟨⟨Nat.le_refl _, Nat.le_refl _⟩, fun q h => by
  rw [List.mem_singleton] at h
  subst h
  exact ⟨Nat.le_refl _, Nat.le_refl _⟩⟩
theorem zsw_mem {x : Int32} {lv : zLv} {r : List Value} {M : zM} : ∀ (ts : List Int) (v : Int) (q : Prop × zO), q ∈ zsw x lv r M v ts → zOM q.2 = M
  | [], _, _, h => by cases h
  | t :: ts, v, q, h => by
    rcases List.mem_cons.mp h with rfl | h
    · rfl
    · exact zsw_mem ts (v + 1) q h
theorem zgr_call {M : zM} {x : Nat} {ob : Bool} {i : Nat} {lv : zLv} {st : List Value} : zgr M (zcall x ob i lv st M) := by
  have h0 : zn M ≤ zn M ∧ zs M ≤ zs M := ⟨Nat.le_refl _, Nat.le_refl _⟩
  unfold zcall
  split
  · trivial
  · cases Nat.ble _ 8
    · trivial
    · cases ob
      · exact ⟨h0, fun _ h => by cases h⟩
      · dsimp only [cond]
        split
        · exact ⟨h0, fun _ h => by cases h⟩
        · trivial
theorem zgr_retq {M : zM} {rk : Nat} {st : List Value} : zgr M (zretq rk st M) := by
  have h0 : zn M ≤ zn M ∧ zs M ≤ zs M := ⟨Nat.le_refl _, Nat.le_refl _⟩
  unfold zretq
  split
  · cases rk == 0
    · trivial
    · exact ⟨h0, fun _ h => by cases h⟩
  · cases rk == 1
    · cases rk == 2
      · trivial
      · exact ⟨h0, fun _ h => by cases h⟩
    · exact ⟨h0, fun _ h => by cases h⟩
  · cases rk == 3
    · trivial
    · exact ⟨h0, fun _ h => by cases h⟩
  · cases rk == 4
    · trivial
    · exact ⟨h0, fun _ h => by cases h⟩
  · trivial
theorem zgr_ti {M : zM} {st : List Value} {f : Int32 → List Value → zRes} (h : ∀ x r, zgr M (f x r)) : zgr M (zti st f) := by
  unfold zti; split
  · exact h _ _
  · trivial
theorem zgr_tii {M : zM} {st : List Value} {f : Int32 → Int32 → List Value → zRes} (h : ∀ x y r, zgr M (f x y r)) : zgr M (ztii st f) := by
  unfold ztii; split
  · exact h _ _ _
  · trivial
theorem zgr_tl {M : zM} {st : List Value} {f : Int64 → List Value → zRes} (h : ∀ x r, zgr M (f x r)) : zgr M (ztl st f) := by
  unfold ztl; split
  · exact h _ _
  · trivial
theorem zgr_tll {M : zM} {st : List Value} {f : Int64 → Int64 → List Value → zRes} (h : ∀ x y r, zgr M (f x y r)) : zgr M (ztll st f) := by
  unfold ztll; split
  · exact h _ _ _
  · trivial
theorem zgr_tli {M : zM} {st : List Value} {f : Int64 → Int32 → List Value → zRes} (h : ∀ x y r, zgr M (f x y r)) : zgr M (ztli st f) := by
  unfold ztli; split
  · exact h _ _ _
  · trivial
theorem zgr_tr {M : zM} {st : List Value} {f : Nat → List Value → zRes} (h : ∀ x r, zgr M (f x r)) : zgr M (ztr st f) := by
  unfold ztr; split
  · exact h _ _
  · trivial
theorem zgr_tri {M : zM} {st : List Value} {f : Nat → Int32 → List Value → zRes} (h : ∀ x y r, zgr M (f x y r)) : zgr M (ztri st f) := by
  unfold ztri; split
  · exact h _ _ _
  · trivial
theorem zgr_trii {M : zM} {st : List Value} {f : Nat → Int32 → Int32 → List Value → zRes} (h : ∀ x y z r, zgr M (f x y z r)) : zgr M (ztrii st f) := by
  unfold ztrii; split
  · exact h _ _ _ _
  · trivial
theorem zgr_tril {M : zM} {st : List Value} {f : Nat → Int32 → Int64 → List Value → zRes} (h : ∀ x y z r, zgr M (f x y z r)) : zgr M (ztril st f) := by
  unfold ztril; split
  · exact h _ _ _ _
  · trivial
theorem zgr_trir {M : zM} {st : List Value} {f : Nat → Int32 → Nat → List Value → zRes} (h : ∀ x y z r, zgr M (f x y z r)) : zgr M (ztrir st f) := by
  unfold ztrir; split
  · exact h _ _ _ _
  · trivial
theorem zgr_trr {M : zM} {st : List Value} {f : Nat → Nat → List Value → zRes} (h : ∀ x y r, zgr M (f x y r)) : zgr M (ztrr st f) := by
  unfold ztrr; split
  · exact h _ _ _
  · trivial
theorem zgr_tcp {M : zM} {st : List Value} {f : Nat → Int32 → Nat → Int32 → Int32 → zRes} (h : ∀ a b c d e, zgr M (f a b c d e)) : zgr M (ztcp st f) := by
  unfold ztcp; split
  · exact h _ _ _ _ _
  · trivial
theorem zgr_tii0 {M : zM} {st : List Value} {f : Int32 → Int32 → zRes} (h : ∀ x y, zgr M (f x y)) : zgr M (ztii0 st f) := by
  unfold ztii0; split
  · exact h _ _
  · trivial
theorem zgr_tr0 {M : zM} {st : List Value} {f : Nat → zRes} (h : ∀ x, zgr M (f x)) : zgr M (ztr0 st f) := by
  unfold ztr0; split
  · exact h _
  · trivial
set_option maxHeartbeats 4000000 in
theorem zgr_step (rk : Nat) (ins : Instr) (i : Nat) (lv : zLv) (st : List Value) (M : zM) : zgr M (zstep rk ins i lv st M) := by
  have h0 : zn M ≤ zn M ∧ zs M ≤ zs M := ⟨Nat.le_refl _, Nat.le_refl _⟩
  have h1 : ∀ sh w, zn M ≤ zn (zal M sh w) ∧ zs M ≤ zs (zal M sh w) := fun sh w => ⟨Nat.le_succ _, Nat.le_add_right _ _⟩
  unfold zstep
  split
  all_goals first
    | exact trivial
    | exact zgr_nx h0
    | exact zgr_nx (h1 _ _)
    | exact zgr_ti fun _ _ => zgr_nx h0
    | exact zgr_tii fun _ _ _ => zgr_nx h0
    | exact zgr_tl fun _ _ => zgr_nx h0
    | exact zgr_tll fun _ _ _ => zgr_nx h0
    | exact zgr_tli fun _ _ _ => zgr_nx h0
    | exact zgr_tr fun _ _ => zgr_nx h0
    | exact zgr_tri fun _ _ _ => zgr_nx h0
    | exact zgr_ti fun _ _ => zgr_cs (h1 _ _)
    | exact zgr_tll fun _ _ _ => zgr_cs h0
    | exact zgr_tr fun _ _ => zgr_cs h0
    | exact zgr_tri fun _ _ _ => zgr_cs h0
    | exact zgr_trii fun _ _ _ _ => zgr_cs h0
    | exact zgr_tril fun _ _ _ _ => zgr_cs h0
    | exact zgr_trir fun _ _ _ _ => zgr_cs h0
    | exact zgr_tcp fun _ _ _ _ _ => zgr_cs h0
    | exact zgr_tii0 fun _ _ => zgr_nx h0
    | exact zgr_tr0 fun _ => zgr_cs h0
    | exact zgr_ti fun _ _ => zgr_br
    | exact zgr_tii fun _ _ _ => zgr_br
    | exact zgr_call
    | (split
       · exact zgr_retq
       · exact trivial)
    | exact zgr_ti fun _ _ => ⟨h0, fun q hq => by rw [zsw_mem _ _ q hq]; exact h0⟩
    | (split
       · exact zgr_nx h0
       · exact trivial)
    | (split
       · exact zgr_nx h0
       · exact zgr_nx h0
       · exact trivial)
    | skip
  all_goals
    cases h : (_ % 10 == 2)
    · dsimp only [cond]
      split
      · exact zgr_cs h0
      · exact trivial
    · exact zgr_trr fun _ _ _ => zgr_cs h0
theorem zpick_mem {α : Type} : ∀ (ch : List (Prop × α)) (o : α), zpick ch o = o ∨ ∃ q ∈ ch, zpick ch o = q.2
  | [], o => Or.inl rfl
  | (c, x) :: l, o => by
    show @ite α c (Classical.propDecidable c) x (zpick l o) = o ∨ _
    by_cases h : c
    · exact Or.inr ⟨(c, x), List.mem_cons_self, by show @ite α c (Classical.propDecidable c) x (zpick l o) = x; rw [if_pos h]⟩
    · rcases zpick_mem l o with h1 | ⟨q, hq, h1⟩
      · exact Or.inl (by rw [if_neg h]; exact h1)
      · exact Or.inr ⟨q, List.mem_cons_of_mem _ hq, by show @ite α c (Classical.propDecidable c) x (zpick l o) = q.2; rw [if_neg h]; exact h1⟩
/-- a step has one way on -/
theorem zgo_one {rk : Nat} {code : List Instr} {i : Nat} {lv : zLv} {st : List Value} {M : zM} {k : zO → Prop} (a : zgo rk code i lv st M k) : ∃ o, k o ∧ zn M ≤ zn (zOM o) ∧ zs M ≤ zs (zOM o) ∧ ∀ k' : zO → Prop, k' o → zgo rk code i lv st M k' := by
  unfold zgo at a ⊢
  split at a
  · exact a.elim
  · rename_i ins he
    have hg := zgr_step rk ins i lv st M
    revert a hg
    cases zstep rk ins i lv st M with
    | none => exact fun h => h.elim
    | some r =>
      obtain ⟨cs, ch, o⟩ := r
      intro a hg
      have a' := zcj_iff.mp a
      have hp : zn M ≤ zn (zOM (zpick ch o)) ∧ zs M ≤ zs (zOM (zpick ch o)) := by
        rcases zpick_mem ch o with h | ⟨q, hq, h⟩
        · rw [h]; exact hg.1
        · rw [h]; exact hg.2 q hq
      exact ⟨zpick ch o, zch_iff.mp a'.2, hp.1, hp.2, fun k' hk => zcj_iff.mpr ⟨a'.1, zch_iff.mpr hk⟩⟩
theorem zwp_det {Cl : zCall} (hC : zgood Cl) {rk : Nat} {code : List Instr} {Q : List Value → zM → Prop} : ∀ (f i : Nat) (lv : zLv) (st : List Value) (M : zM), zwp Cl rk code (fun _ => false) (fun _ _ _ _ => False) Q f i lv st M → ∃ r M2, Q r M2 ∧ zn M ≤ zn M2 ∧ zs M ≤ zs M2 ∧ zwp Cl rk code (fun _ => false) (fun _ _ _ _ => False) (fun r' M' => r' = r ∧ M' = M2) f i lv st M
  | 0, _, _, _, _, a => a.elim
  | f + 1, i, lv, st, M, a => by
    obtain ⟨o, ho, g1, g2, hk⟩ := zgo_one a
    match o, ho, g1, g2, hk with
    | .inl (i', lv', st', M'), ho, g1, g2, hk =>
      obtain ⟨r, M2, hq, h1, h2, h3⟩ := zwp_det hC f i' lv' st' M' ho
      exact ⟨r, M2, hq, Nat.le_trans g1 h1, Nat.le_trans g2 h2, hk _ h3⟩
    | .inr (.inl (r, M')), ho, g1, g2, hk => exact ⟨r, M', ho, g1, g2, hk _ ⟨rfl, rfl⟩⟩
    | .inr (.inr (m, rk', as, i', lv', st', M')), ho, g1, g2, hk =>
      obtain ⟨r1, M1, b, e1, e2, e3⟩ := hC.2 _ _ _ _ ho
      obtain ⟨b1, b2⟩ := zrv_iff.mp b
      obtain ⟨r, M2, hq, h1, h2, h3⟩ := zwp_det hC f i' lv' (r1 ++ st') M1 b2
      exact ⟨r, M2, hq, Nat.le_trans g1 (Nat.le_trans e1 h1), Nat.le_trans g2 (Nat.le_trans e2 h2), hk _ (hC.1 _ _ _ _ _ (fun r' M' ⟨x, y⟩ => by subst x; subst y; exact zrv_iff.mpr ⟨b1, h3⟩) e3)⟩
/-- a stretch, then what is behind its stops -/
theorem zseg {Cl : zCall} (hC : zgood Cl) {rk : Nat} {code : List Instr} {Q : List Value → zM → Prop} (stop : Nat → Bool) : ∀ (f : Nat) {i : Nat} {lv : zLv} {st : List Value} {M : zM}, zwp Cl rk code stop (zW Cl rk code Q) Q f i lv st M → zW Cl rk code Q i lv st M
  | 0, _, _, _, _, a => a.elim
  | f + 1, i, lv, st, M, a => by
    obtain ⟨o, ho, -, -, hk⟩ := zgo_one a
    have key : ∀ i' lv' st' M', (cond (stop i') (zW Cl rk code Q i' lv' st' M') (zwp Cl rk code stop (zW Cl rk code Q) Q f i' lv' st' M')) → zW Cl rk code Q i' lv' st' M' := by
      intro i' lv' st' M' h
      cases hs : stop i'
      · rw [hs] at h; exact zseg hC stop f h
      · rw [hs] at h; exact h
    match o, ho, hk with
    | .inl (i', lv', st', M'), ho, hk =>
      obtain ⟨g, hg⟩ := key _ _ _ _ ho
      exact ⟨g + 1, hk _ hg⟩
    | .inr (.inl (r, M')), ho, hk => exact ⟨1, hk _ ho⟩
    | .inr (.inr (m, rk', as, i', lv', st', M')), ho, hk =>
      obtain ⟨r1, M1, b, -, -, e3⟩ := hC.2 _ _ _ _ ho
      obtain ⟨b1, b2⟩ := zrv_iff.mp b
      obtain ⟨g, hg⟩ := key _ _ _ _ b2
      exact ⟨g + 1, hk _ (hC.1 _ _ _ _ _ (fun r' M' ⟨x, y⟩ => by subst x; subst y; exact zrv_iff.mpr ⟨b1, hg⟩) e3)⟩
theorem zW_imp {Cl : zCall} (hC : zgood Cl) {rk : Nat} {code : List Instr} {Q Q' : List Value → zM → Prop} (h : ∀ r M, Q r M → Q' r M) {i : Nat} {lv : zLv} {st : List Value} {M : zM} (a : zW Cl rk code Q i lv st M) : zW Cl rk code Q' i lv st M := by
  obtain ⟨f, a⟩ := a
  exact ⟨f, zwp_imp hC (fun _ _ _ _ h => h) h f i lv st M a⟩
/-- the locals at a method's entry -/
def zarg : List Value → zLv
  | [] => []
  | .long x :: l => some (.long x) :: none :: zarg l
  | .double x :: l => some (.double x) :: none :: zarg l
  | v :: l => some v :: zarg l
def zpad : Nat → zLv → zLv
  | 0, l => l
  | n + 1, [] => none :: zpad n []
  | n + 1, a :: l => a :: zpad n l
/-- a method: its code, its answer's kind, how many locals -/
abbrev zMe : Type := List Instr × Nat × Nat
def zCl (tb : Nat → zMe) : Nat → zCall
  | 0 => fun _ _ _ _ => False
  | d + 1 => fun m as M Q => (zarg as).length ≤ (tb m).2.2 ∧ zW (zCl tb d) (tb m).2.1 (tb m).1 Q 0 (zpad (tb m).2.2 (zarg as)) [] M
theorem zCl_good (tb : Nat → zMe) : ∀ d, zgood (zCl tb d)
  | 0 => ⟨fun _ _ _ _ _ _ h => h, fun _ _ _ _ h => h.elim⟩
  | d + 1 => by
    refine ⟨fun m as M Q Q' h a => ⟨a.1, zW_imp (zCl_good tb d) h a.2⟩, fun m as M Q a => ?_⟩
    obtain ⟨a0, f, a⟩ := a
    obtain ⟨r, M2, h1, h2, h3, h4⟩ := zwp_det (zCl_good tb d) f _ _ _ _ a
    exact ⟨r, M2, h1, h2, h3, a0, f, h4⟩
end
section
/-! THE CODE, by wip/whole/gen.py out of the task: field kinds, methods (name, bytes, locals, answer), small code, places of its instructions -/
abbrev zMi : Type := MethodName × ByteArray × Nat × Option FieldType
abbrev gCl : List vw_C := [(RX0, TX0, 5), (RX1, TX1, 2), (RX3, TX3, 11), (RX5, TX5, 1), (RX6, TX6, 5), (RX7, TX7, 14), (RX8, TX8, 28)]
def gFk : Nat → List Nat
  | 0 => [2, 2, 2, 0, 0]
  | 1 => [2, 2]
  | 2 => [2, 2, 0, 0, 0, 0, 0, 2, 0, 0, 0]
  | 3 => [0]
  | 4 => [2, 2, 2, 2, 0]
  | 5 => [0, 2, 2, 2, 0, 2, 1, 2, 2, 2, 1, 2, 2, 2]
  | 6 => [0, 0, 0, 2, 2, 2, 2, 0, 0, 1, 1, 1, 1, 0, 0, 2, 0, 0, 2, 0, 0, 0, 1, 2, 0, 0, 0, 2]
  | _ => []
def gTy : Nat → Nat → FieldType
  | 0 => tyX0
  | 1 => tyX1
  | 2 => tyX3
  | 3 => tyX5
  | 4 => tyX6
  | 5 => tyX7
  | 6 => tyX8
  | _ => fun _ => .int
def gEl : Nat → String
  | 0 => RX6
  | _ => RX1
def gHs : String := "IdealProver"
def kX0_init : List Instr := [.aload 0, .nop, .aload 0, .new 405, .dup, .aload 1, .invokespecial 422004, .putfield 2, .aload 0, .new 405, .dup, .aload 1, .invokespecial 422004, .putfield 12, .aload 0, .iconst 24, .aload 1, .invokestatic 812400, .putfield 22, .return_]
def pX0_init : List Nat := [0, 1, 4, 5, 8, 9, 10, 13, 16, 17, 20, 21, 22, 25, 28, 29, 31, 32, 35, 38]
abbrev nX0_init : Nat := 0
def kX0_allow : List Instr := [.aload 0, .iload 1, .putfield 40, .aload 0, .iconst 0, .putfield 30, .return_]
def pX0_allow : List Nat := [0, 1, 2, 5, 6, 7, 10]
abbrev nX0_allow : Nat := 1
def kX0_makeReady : List Instr := [.aload 0, .getfield 2, .invokevirtual 431004, .aload 0, .getfield 12, .invokevirtual 431004, .iconst 0, .istore 2, .iload 2, .iload 1, .if_icmp .ge 18, .aload 0, .getfield 22, .iload 2, .ret 0, .invokevirtual 431004, .iinc 2 1, .goto 8, .return_]
def pX0_makeReady : List Nat := [0, 1, 4, 7, 8, 11, 14, 15, 16, 17, 18, 21, 22, 25, 26, 27, 30, 33, 36]
abbrev nX0_makeReady : Nat := 2
def kX0_run : List Instr := [.aload 0, .getfield 2, .getfield 4040, .ifCond .le 75, .aload 0, .getfield 30, .aload 0, .getfield 40, .if_icmp .ge 75, .aload 0, .dup, .getfield 30, .iconst 1, .iadd, .putfield 30, .aload 0, .getfield 2, .getfield 4012, .iconst 0, .laload, .lstore 4, .aload 0, .getfield 2, .getfield 4022, .iconst 0, .iaload, .istore 6, .aload 0, .aload 1, .iload 2, .iload 3, .invokevirtual 44100, .istore 7, .iload 7, .ifCond .ge 46, .aload 0, .getfield 2, .invokevirtual 501004, .aload 0, .getfield 12, .lload 4, .iload 6, .invokevirtual 473204, .ifCond .ne 74, .iconst (-7), .ireturn, .iload 6, .aload 1, .iload 7, .ret 1, .invokevirtual 61101, .isub, .istore 8, .aload 0, .getfield 2, .lload 4, .invokestatic 131300, .iload 8, .aload 1, .iload 7, .ret 1, .getfield 1002, .invokevirtual 514204, .ifCond .eq 72, .aload 0, .getfield 22, .iload 7, .ret 0, .lload 4, .iload 8, .invokevirtual 473204, .ifCond .ne 74, .iconst (-7), .ireturn, .goto 0, .aload 0, .getfield 2, .getfield 4040, .ifCond .le 81, .iconst (-6), .goto 82, .iconst 0, .ireturn]
def pX0_run : List Nat := [0, 1, 4, 7, 10, 11, 14, 15, 18, 21, 22, 23, 26, 27, 28, 31, 32, 35, 38, 39, 40, 42, 43, 46, 49, 50, 51, 53, 54, 55, 56, 57, 60, 62, 64, 67, 68, 71, 74, 75, 78, 80, 82, 85, 88, 90, 91, 93, 94, 96, 97, 100, 101, 103, 104, 107, 109, 112, 114, 115, 117, 118, 121, 124, 127, 128, 131, 133, 134, 136, 138, 141, 144, 146, 147, 150, 151, 154, 157, 160, 162, 165, 166]
abbrev nX0_run : Nat := 3
def kX0_firstDivisor : List Instr := [.iconst 0, .istore 4, .iload 4, .iload 2, .if_icmp .ge 23, .iload 4, .iload 3, .if_icmp .eq 21, .aload 1, .iload 4, .ret 1, .invokevirtual 61101, .aload 0, .getfield 2, .getfield 4022, .iconst 0, .iaload, .invokestatic 372200, .ifCond .eq 21, .iload 4, .ireturn, .iinc 4 1, .goto 2, .iconst (-1), .ireturn]
def pX0_firstDivisor : List Nat := [0, 1, 3, 5, 6, 9, 11, 12, 15, 16, 18, 19, 22, 23, 26, 29, 30, 31, 34, 37, 39, 40, 43, 46, 47]
abbrev nX0_firstDivisor : Nat := 4
def kX1_init : List Instr := [.aload 0, .nop, .aload 0, .new 405, .dup, .aload 1, .invokespecial 422004, .putfield 1002, .aload 0, .iload 2, .aload 1, .invokestatic 812400, .putfield 1012, .return_]
def pX1_init : List Nat := [0, 1, 4, 5, 8, 9, 10, 13, 16, 17, 18, 19, 22, 25]
abbrev nX1_init : Nat := 5
def kX1_leading : List Instr := [.aload 0, .getfield 1002, .getfield 4022, .iconst 0, .iaload, .ireturn]
def pX1_leading : List Nat := [0, 1, 4, 7, 8, 9]
abbrev nX1_leading : Nat := 6
def kX1_makeMonic : List Instr := [.aload 0, .getfield 1002, .getfield 4012, .iconst 0, .laload, .invokestatic 141300, .lstore 2, .aload 0, .getfield 1002, .lload 2, .invokevirtual 542204, .ifCond .ne 14, .iconst 0, .ireturn, .iconst 0, .istore 4, .iload 4, .iload 1, .if_icmp .ge 30, .aload 0, .getfield 1012, .iload 4, .ret 0, .lload 2, .invokevirtual 542204, .ifCond .ne 28, .iconst 0, .ireturn, .iinc 4 1, .goto 16, .iconst 1, .ireturn]
def pX1_makeMonic : List Nat := [0, 1, 4, 7, 8, 9, 12, 13, 14, 17, 18, 21, 24, 25, 26, 27, 29, 31, 32, 35, 36, 39, 41, 42, 43, 46, 49, 50, 51, 54, 57, 58]
abbrev nX1_makeMonic : Nat := 7
def kX2_over : List Instr := [.lload 0, .iconst 32, .lshr, .l2i, .ireturn]
def pX2_over : List Nat := [0, 1, 3, 4, 5]
abbrev nX2_over : Nat := 8
def kX2_under : List Instr := [.lload 0, .l2i, .ireturn]
def pX2_under : List Nat := [0, 1, 2]
abbrev nX2_under : Nat := 9
def kX2_lowest : List Instr := [.lload 0, .jsr_w 0, .lcmp, .ifCond .ge 7, .lload 0, .lneg, .goto 8, .lload 0, .lstore 4, .lload 2, .lstore 6, .iconst 0, .istore 8, .iload 8, .iconst 200, .if_icmp .ge 30, .lload 6, .jsr_w 0, .lcmp, .ifCond .eq 30, .lload 4, .lload 6, .lrem, .lstore 9, .lload 6, .lstore 4, .lload 9, .lstore 6, .iinc 8 1, .goto 13, .lload 0, .lstore 8, .lload 2, .lstore 10, .lload 4, .jsr_w 1, .lcmp, .ifCond .le 46, .lload 0, .lload 4, .ldiv, .lstore 8, .lload 2, .lload 4, .ldiv, .lstore 10, .lload 8, .jsr_w 1000000000, .lcmp, .ifCond .gt 62, .lload 8, .jsr_w (-1000000000), .lcmp, .ifCond .lt 62, .lload 10, .jsr_w 1000000000, .lcmp, .ifCond .gt 62, .lload 10, .jsr_w 0, .lcmp, .ifCond .gt 64, .jsr_w 0, .lreturn, .lload 8, .iconst 32, .lshl, .lload 10, .lor, .lreturn]
def pX2_lowest : List Nat := [0, 1, 2, 3, 6, 7, 8, 11, 12, 14, 15, 17, 18, 20, 22, 25, 28, 30, 31, 32, 35, 37, 39, 40, 42, 44, 46, 48, 50, 53, 56, 57, 59, 60, 62, 64, 65, 66, 69, 70, 72, 73, 75, 76, 78, 79, 81, 83, 86, 87, 90, 92, 95, 96, 99, 101, 104, 105, 108, 110, 111, 112, 115, 116, 117, 119, 121, 122, 124, 125]
abbrev nX2_lowest : Nat := 10
def kX2_sum : List Instr := [.lload 0, .invokestatic 81100, .i2l, .lload 2, .invokestatic 91100, .i2l, .lmul, .lload 2, .invokestatic 81100, .i2l, .lload 0, .invokestatic 91100, .i2l, .lmul, .ladd, .lstore 4, .lload 4, .lload 0, .invokestatic 91100, .i2l, .lload 2, .invokestatic 91100, .i2l, .lmul, .invokestatic 102300, .lreturn]
def pX2_sum : List Nat := [0, 1, 4, 5, 6, 9, 10, 11, 12, 15, 16, 17, 20, 21, 22, 23, 25, 27, 28, 31, 32, 33, 36, 37, 38, 41]
abbrev nX2_sum : Nat := 11
def kX2_product : List Instr := [.lload 0, .invokestatic 81100, .i2l, .lload 2, .invokestatic 81100, .i2l, .lmul, .lload 0, .invokestatic 91100, .i2l, .lload 2, .invokestatic 91100, .i2l, .lmul, .invokestatic 102300, .lreturn]
def pX2_product : List Nat := [0, 1, 4, 5, 6, 9, 10, 11, 12, 15, 16, 17, 20, 21, 22, 25]
abbrev nX2_product : Nat := 12
def kX2_negative : List Instr := [.lload 0, .invokestatic 81100, .ineg, .i2l, .iconst 32, .lshl, .lload 0, .invokestatic 91100, .i2l, .lor, .lreturn]
def pX2_negative : List Nat := [0, 1, 4, 5, 6, 8, 9, 10, 13, 14, 15]
abbrev nX2_negative : Nat := 13
def kX2_inverse : List Instr := [.lload 0, .invokestatic 81100, .i2l, .lstore 2, .lload 0, .invokestatic 91100, .i2l, .lstore 4, .lload 2, .jsr_w 0, .lcmp, .ifCond .ge 20, .lload 4, .lneg, .iconst 32, .lshl, .lload 2, .lneg, .lor, .goto 25, .lload 4, .iconst 32, .lshl, .lload 2, .lor, .lreturn]
def pX2_inverse : List Nat := [0, 1, 4, 5, 6, 7, 10, 11, 13, 14, 15, 16, 19, 21, 22, 24, 25, 26, 27, 28, 31, 33, 35, 36, 37, 38]
abbrev nX2_inverse : Nat := 14
def kX3_init : List Instr := [.aload 0, .nop, .aload 0, .aload 1, .putfield 2002, .aload 0, .iconst 25, .anewarray 1, .putfield 2012, .iconst 0, .istore 3, .iload 3, .iconst 24, .if_icmp .gt 25, .aload 0, .getfield 2012, .iload 3, .new 102, .dup, .aload 1, .iload 2, .invokespecial 53001, .putstatic 11, .iinc 3 1, .goto 11, .aload 0, .iconst 576, .newarray .int, .putfield 2072, .return_]
def pX3_init : List Nat := [0, 1, 4, 5, 6, 9, 10, 12, 15, 18, 19, 20, 21, 23, 26, 27, 30, 31, 34, 35, 36, 37, 40, 41, 44, 47, 48, 51, 53, 56]
abbrev nX3_init : Nat := 15
def kX3_build : List Instr := [.aload 0, .iload 3, .invokevirtual 172002, .aload 4, .iload 5, .invokevirtual 12000, .aload 0, .aload 1, .iload 2, .invokevirtual 183102, .istore 6, .iconst 0, .istore 7, .iload 7, .iconst 276, .if_icmp .ge 27, .iload 6, .ifCond .ne 27, .aload 0, .invokevirtual 201202, .ifCond .eq 27, .aload 0, .aload 4, .invokevirtual 212102, .istore 6, .iinc 7 1, .goto 13, .aload 0, .aload 0, .getfield 2020, .putfield 2060, .iload 6, .ifCond .ne 37, .aload 0, .invokevirtual 261002, .aload 0, .invokevirtual 281002, .iconst 0, .istore 7, .iload 7, .aload 0, .getfield 2020, .if_icmp .ge 52, .iload 6, .ifCond .ne 52, .aload 0, .iload 7, .aload 4, .invokevirtual 293102, .istore 6, .iinc 7 1, .goto 39, .aload 0, .aload 4, .getfield 30, .putfield 2030, .iload 6, .ireturn]
def pX3_build : List Nat := [0, 1, 2, 5, 7, 9, 12, 13, 14, 15, 18, 20, 21, 23, 25, 28, 31, 33, 36, 37, 40, 43, 44, 46, 49, 51, 54, 57, 58, 59, 62, 65, 67, 70, 71, 74, 75, 78, 79, 81, 83, 84, 87, 90, 92, 95, 96, 98, 100, 103, 105, 108, 111, 112, 114, 117, 120, 122]
abbrev nX3_build : Nat := 16
def kX3_begin : List Instr := [.aload 0, .iload 1, .putfield 2100, .aload 0, .iconst 0, .putfield 2020, .aload 0, .iconst 0, .putfield 2040, .aload 0, .iconst 0, .putfield 2050, .return_]
def pX3_begin : List Nat := [0, 1, 2, 5, 6, 7, 10, 11, 12, 15, 16, 17, 20]
abbrev nX3_begin : Nat := 17
def kX3_adopt : List Instr := [.iconst 0, .istore 3, .iload 3, .iload 2, .if_icmp .ge 60, .aload 1, .iload 3, .ret 0, .getfield 4040, .ifCond .le 58, .aload 0, .getfield 2012, .aload 0, .getfield 2020, .ret 1, .astore 4, .aload 4, .getfield 1002, .aload 1, .iload 3, .ret 0, .invokevirtual 442004, .iconst 0, .istore 5, .iload 5, .aload 0, .getfield 2100, .if_icmp .ge 35, .aload 4, .getfield 1012, .iload 5, .ret 0, .invokevirtual 431004, .iinc 5 1, .goto 24, .iload 3, .aload 0, .getfield 2100, .if_icmp .ge 49, .aload 4, .getfield 1012, .iload 3, .ret 0, .jsr_w 4294967297, .iconst 0, .invokevirtual 473204, .ifCond .ne 49, .iconst (-7), .ireturn, .aload 4, .aload 0, .getfield 2100, .invokevirtual 72201, .ifCond .ne 56, .iconst (-7), .ireturn, .aload 0, .invokevirtual 191002, .iinc 3 1, .goto 2, .iconst 0, .ireturn]
def pX3_adopt : List Nat := [0, 1, 2, 3, 4, 7, 8, 9, 10, 13, 16, 17, 20, 21, 24, 25, 27, 29, 32, 33, 34, 35, 38, 39, 41, 43, 44, 47, 50, 52, 55, 57, 58, 61, 64, 67, 68, 69, 72, 75, 77, 80, 81, 82, 85, 86, 89, 92, 94, 95, 97, 98, 101, 104, 107, 109, 110, 111, 114, 117, 120, 121]
abbrev nX3_adopt : Nat := 18
def kX3_add : List Instr := [.iconst 0, .istore 1, .iload 1, .aload 0, .getfield 2020, .if_icmp .ge 34, .aload 0, .getfield 2012, .iload 1, .ret 1, .invokevirtual 61101, .aload 0, .getfield 2012, .aload 0, .getfield 2020, .ret 1, .invokevirtual 61101, .invokestatic 382100, .istore 2, .aload 0, .getfield 2072, .aload 0, .getfield 2020, .iconst 24, .imul, .iload 1, .iadd, .aload 0, .getfield 2002, .iload 2, .invokevirtual 412103, .iastore, .iinc 1 1, .goto 2, .aload 0, .dup, .getfield 2020, .iconst 1, .iadd, .putfield 2020, .return_]
def pX3_add : List Nat := [0, 1, 2, 3, 4, 7, 10, 11, 14, 15, 16, 19, 20, 23, 24, 27, 28, 31, 34, 35, 36, 39, 40, 43, 45, 46, 47, 48, 49, 52, 53, 56, 57, 60, 63, 64, 65, 68, 69, 70, 73]
abbrev nX3_add : Nat := 19
def kX3_choosePair : List Instr := [.iconst (-1), .istore 1, .iconst 1, .istore 2, .iload 2, .aload 0, .getfield 2020, .if_icmp .ge 43, .iconst 0, .istore 3, .iload 3, .iload 2, .if_icmp .ge 41, .aload 0, .getfield 2072, .iload 2, .iconst 24, .imul, .iload 3, .iadd, .iaload, .istore 4, .iload 4, .iconst (-1), .if_icmp .eq 39, .iload 1, .iconst (-1), .if_icmp .eq 31, .iload 4, .iload 1, .if_icmp .ge 39, .iload 4, .istore 1, .aload 0, .iload 3, .putfield 2080, .aload 0, .iload 2, .putfield 2090, .iinc 3 1, .goto 10, .iinc 2 1, .goto 4, .iload 1, .iconst (-1), .if_icmp .eq 48, .iconst 1, .goto 49, .iconst 0, .ireturn]
def pX3_choosePair : List Nat := [0, 1, 2, 3, 4, 5, 6, 9, 12, 13, 14, 15, 16, 19, 20, 23, 24, 26, 27, 28, 29, 30, 32, 34, 35, 38, 39, 40, 43, 45, 46, 49, 51, 52, 53, 54, 57, 58, 59, 62, 65, 68, 71, 74, 75, 76, 79, 80, 83, 84]
abbrev nX3_choosePair : Nat := 20
def kX3_settlePair : List Instr := [.aload 0, .getfield 2072, .aload 0, .getfield 2090, .iconst 24, .imul, .aload 0, .getfield 2080, .iadd, .iconst (-1), .iastore, .aload 0, .dup, .getfield 2040, .iconst 1, .iadd, .putfield 2040, .aload 0, .getfield 2012, .aload 0, .getfield 2080, .ret 1, .invokevirtual 61101, .aload 0, .getfield 2012, .aload 0, .getfield 2090, .ret 1, .invokevirtual 61101, .invokestatic 382100, .istore 2, .aload 0, .iload 2, .invokevirtual 222202, .ifCond .eq 43, .aload 0, .dup, .getfield 2050, .iconst 1, .iadd, .putfield 2050, .iconst 0, .ireturn, .aload 1, .aload 0, .getfield 2020, .invokevirtual 22000, .aload 0, .iload 2, .aload 1, .getfield 2, .invokevirtual 243202, .ifCond .ne 55, .iconst (-7), .ireturn, .aload 1, .aload 0, .getfield 2012, .aload 0, .getfield 2020, .iconst (-1), .invokevirtual 34100, .istore 3, .iload 3, .ifCond .ne 69, .aload 1, .getfield 12, .getfield 4040, .ifCond .ne 71, .iload 3, .ireturn, .aload 0, .getfield 2012, .aload 0, .getfield 2020, .ret 1, .astore 4, .aload 4, .getfield 1002, .aload 1, .getfield 12, .invokevirtual 442004, .aload 0, .getfield 2020, .iconst 24, .if_icmp .ge 96, .aload 0, .aload 4, .aload 1, .invokevirtual 253202, .ifCond .eq 96, .aload 4, .aload 0, .getfield 2100, .invokevirtual 72201, .ifCond .ne 98, .iconst (-7), .ireturn, .aload 0, .invokevirtual 191002, .iconst 0, .ireturn]
def pX3_settlePair : List Nat := [0, 1, 4, 5, 8, 10, 11, 12, 15, 16, 17, 18, 19, 20, 23, 24, 25, 28, 29, 32, 33, 36, 37, 40, 41, 44, 45, 48, 49, 52, 55, 56, 57, 58, 61, 64, 65, 66, 69, 70, 71, 74, 75, 76, 77, 78, 81, 84, 85, 86, 87, 90, 93, 96, 98, 99, 100, 101, 104, 105, 108, 109, 112, 113, 114, 117, 118, 121, 124, 127, 128, 129, 130, 133, 134, 137, 138, 140, 142, 145, 146, 149, 152, 153, 156, 158, 161, 162, 164, 165, 168, 171, 173, 174, 177, 180, 183, 185, 186, 187, 190, 191]
abbrev nX3_settlePair : Nat := 21
def kX3_isNeedless : List Instr := [.aload 0, .getfield 2012, .aload 0, .getfield 2080, .ret 1, .invokevirtual 61101, .aload 0, .getfield 2012, .aload 0, .getfield 2090, .ret 1, .invokevirtual 61101, .invokestatic 392200, .ifCond .ne 16, .iconst 1, .ireturn, .iconst 0, .istore 2, .iload 2, .aload 0, .getfield 2020, .if_icmp .ge 54, .iload 2, .aload 0, .getfield 2080, .if_icmp .eq 52, .iload 2, .aload 0, .getfield 2090, .if_icmp .eq 52, .aload 0, .getfield 2012, .iload 2, .ret 1, .invokevirtual 61101, .iload 1, .invokestatic 372200, .ifCond .eq 52, .aload 0, .iload 2, .aload 0, .getfield 2080, .invokevirtual 233202, .ifCond .ne 52, .aload 0, .iload 2, .aload 0, .getfield 2090, .invokevirtual 233202, .ifCond .ne 52, .iconst 1, .ireturn, .iinc 2 1, .goto 18, .iconst 0, .ireturn]
def pX3_isNeedless : List Nat := [0, 1, 4, 5, 8, 9, 12, 13, 16, 17, 20, 21, 24, 27, 30, 31, 32, 33, 34, 35, 36, 39, 42, 43, 44, 47, 50, 51, 52, 55, 58, 59, 62, 63, 64, 67, 68, 71, 74, 75, 76, 77, 80, 83, 86, 87, 88, 89, 92, 95, 98, 99, 100, 103, 106, 107]
abbrev nX3_isNeedless : Nat := 22
def kX3_isWaiting : List Instr := [.iload 1, .iload 2, .if_icmp .ge 9, .iload 2, .iconst 24, .imul, .iload 1, .iadd, .goto 14, .iload 1, .iconst 24, .imul, .iload 2, .iadd, .istore 3, .aload 0, .getfield 2072, .iload 3, .iaload, .iconst (-1), .if_icmp .eq 23, .iconst 1, .goto 24, .iconst 0, .ireturn]
def pX3_isWaiting : List Nat := [0, 1, 2, 5, 6, 8, 9, 10, 11, 14, 15, 17, 18, 19, 20, 21, 22, 25, 26, 27, 28, 31, 32, 35, 36]
abbrev nX3_isWaiting : Nat := 23
def kX3_crossOut : List Instr := [.aload 0, .getfield 2012, .aload 0, .getfield 2080, .ret 1, .astore 3, .aload 0, .getfield 2012, .aload 0, .getfield 2090, .ret 1, .astore 4, .iload 1, .aload 3, .invokevirtual 61101, .isub, .istore 5, .iload 1, .aload 4, .invokevirtual 61101, .isub, .istore 6, .aload 2, .jsr_w 4294967297, .iload 5, .aload 3, .getfield 1002, .invokevirtual 514204, .ifCond .eq 36, .aload 2, .jsr_w (-4294967295), .iload 6, .aload 4, .getfield 1002, .invokevirtual 514204, .ifCond .ne 38, .iconst 0, .ireturn, .iconst 0, .istore 7, .iload 7, .aload 0, .getfield 2100, .if_icmp .ge 77, .aload 0, .getfield 2012, .aload 0, .getfield 2020, .ret 1, .getfield 1012, .iload 7, .ret 0, .astore 8, .aload 8, .invokevirtual 431004, .aload 8, .jsr_w 4294967297, .iload 5, .aload 3, .getfield 1012, .iload 7, .ret 0, .invokevirtual 514204, .ifCond .eq 73, .aload 8, .jsr_w (-4294967295), .iload 6, .aload 4, .getfield 1012, .iload 7, .ret 0, .invokevirtual 514204, .ifCond .ne 75, .iconst 0, .ireturn, .iinc 7 1, .goto 40, .iconst 1, .ireturn]
def pX3_crossOut : List Nat := [0, 1, 4, 5, 8, 9, 10, 11, 14, 15, 18, 19, 21, 22, 23, 26, 27, 29, 30, 32, 35, 36, 38, 39, 42, 44, 45, 48, 51, 54, 55, 58, 60, 62, 65, 68, 71, 72, 73, 74, 76, 78, 79, 82, 85, 86, 89, 90, 93, 94, 97, 99, 100, 102, 104, 107, 109, 112, 114, 115, 118, 120, 121, 124, 127, 129, 132, 134, 136, 139, 141, 142, 145, 148, 149, 150, 153, 156, 157]
abbrev nX3_crossOut : Nat := 24
def kX3_takeQuotients : List Instr := [.iconst 0, .istore 3, .iload 3, .aload 0, .getfield 2100, .if_icmp .ge 57, .aload 1, .getfield 1012, .iload 3, .ret 0, .astore 4, .iconst 0, .istore 5, .iload 5, .aload 0, .getfield 2020, .if_icmp .ge 55, .aload 2, .getfield 22, .iload 5, .ret 0, .astore 6, .iconst 0, .istore 7, .iload 7, .aload 6, .getfield 4040, .if_icmp .ge 53, .aload 6, .getfield 4012, .iload 7, .laload, .invokestatic 131300, .lstore 8, .aload 4, .lload 8, .aload 6, .getfield 4022, .iload 7, .iaload, .aload 0, .getfield 2012, .iload 5, .ret 1, .getfield 1012, .iload 3, .ret 0, .invokevirtual 514204, .ifCond .ne 51, .iconst 0, .ireturn, .iinc 7 1, .goto 24, .iinc 5 1, .goto 13, .iinc 3 1, .goto 2, .iconst 1, .ireturn]
def pX3_takeQuotients : List Nat := [0, 1, 2, 3, 4, 7, 10, 11, 14, 15, 16, 18, 19, 21, 23, 24, 27, 30, 31, 34, 36, 37, 39, 40, 42, 44, 46, 49, 52, 54, 57, 59, 60, 63, 65, 67, 69, 71, 74, 76, 77, 78, 81, 83, 84, 87, 88, 89, 92, 95, 96, 97, 100, 103, 106, 109, 112, 115, 116]
abbrev nX3_takeQuotients : Nat := 25
def kX3_dropNeedless : List Instr := [.iconst 0, .istore 1, .iconst 0, .istore 2, .iload 2, .aload 0, .getfield 2020, .if_icmp .ge 34, .aload 0, .iload 2, .iload 1, .invokevirtual 273202, .ifCond .ne 32, .aload 0, .getfield 2012, .iload 2, .ret 1, .astore 3, .aload 0, .getfield 2012, .iload 2, .aload 0, .getfield 2012, .iload 1, .ret 1, .putstatic 11, .aload 0, .getfield 2012, .iload 1, .aload 3, .putstatic 11, .iinc 1 1, .iinc 2 1, .goto 4, .aload 0, .iload 1, .putfield 2020, .return_]
def pX3_dropNeedless : List Nat := [0, 1, 2, 3, 4, 5, 6, 9, 12, 13, 14, 15, 18, 21, 22, 25, 26, 27, 28, 29, 32, 33, 34, 37, 38, 39, 40, 41, 44, 45, 46, 47, 50, 53, 56, 57, 58, 61]
abbrev nX3_dropNeedless : Nat := 26
def kX3_isCovered : List Instr := [.aload 0, .getfield 2012, .iload 1, .ret 1, .invokevirtual 61101, .istore 3, .iconst 0, .istore 4, .iload 4, .iload 2, .if_icmp .ge 23, .aload 0, .getfield 2012, .iload 4, .ret 1, .invokevirtual 61101, .iload 3, .invokestatic 372200, .ifCond .eq 21, .iconst 1, .ireturn, .iinc 4 1, .goto 8, .iload 1, .iconst 1, .iadd, .istore 4, .iload 4, .aload 0, .getfield 2020, .if_icmp .ge 48, .aload 0, .getfield 2012, .iload 4, .ret 1, .invokevirtual 61101, .istore 5, .iload 5, .iload 3, .if_icmp .eq 46, .iload 5, .iload 3, .invokestatic 372200, .ifCond .eq 46, .iconst 1, .ireturn, .iinc 4 1, .goto 27, .iconst 0, .ireturn]
def pX3_isCovered : List Nat := [0, 1, 4, 5, 6, 9, 10, 11, 13, 15, 16, 19, 20, 23, 25, 26, 29, 30, 33, 36, 37, 38, 41, 44, 45, 46, 47, 49, 51, 52, 55, 58, 59, 62, 64, 65, 68, 70, 72, 73, 76, 78, 79, 82, 85, 86, 87, 90, 93, 94]
abbrev nX3_isCovered : Nat := 27
def kX3_sortElements : List Instr := [.iconst 1, .istore 1, .iload 1, .aload 0, .getfield 2020, .if_icmp .ge 52, .aload 0, .getfield 2012, .iload 1, .ret 1, .astore 2, .aload 0, .getfield 2002, .aload 2, .invokevirtual 61101, .invokevirtual 412103, .istore 3, .iload 1, .istore 4, .iload 4, .ifCond .le 45, .aload 0, .getfield 2002, .aload 0, .getfield 2012, .iload 4, .iconst 1, .isub, .ret 1, .invokevirtual 61101, .invokevirtual 412103, .iload 3, .if_icmp .le 45, .aload 0, .getfield 2012, .iload 4, .aload 0, .getfield 2012, .iload 4, .iconst 1, .isub, .ret 1, .putstatic 11, .iinc 4 (-1), .goto 19, .aload 0, .getfield 2012, .iload 4, .aload 2, .putstatic 11, .iinc 1 1, .goto 2, .return_]
def pX3_sortElements : List Nat := [0, 1, 2, 3, 4, 7, 10, 11, 14, 15, 16, 17, 18, 21, 22, 25, 28, 29, 30, 32, 34, 37, 38, 41, 42, 45, 47, 48, 49, 50, 53, 56, 57, 60, 61, 64, 66, 67, 70, 72, 73, 74, 75, 76, 79, 82, 83, 86, 88, 89, 90, 93, 96]
abbrev nX3_sortElements : Nat := 28
def kX3_reduceElement : List Instr := [.aload 0, .getfield 2012, .iload 1, .ret 1, .astore 3, .aload 3, .invokevirtual 61101, .istore 4, .aload 2, .aload 0, .getfield 2020, .invokevirtual 22000, .aload 2, .getfield 2, .aload 3, .getfield 1002, .invokevirtual 442004, .aload 2, .getfield 2, .invokevirtual 501004, .aload 2, .aload 0, .getfield 2012, .aload 0, .getfield 2020, .iload 1, .invokevirtual 34100, .istore 5, .iload 5, .ifCond .eq 32, .iload 5, .ireturn, .aload 0, .aload 3, .aload 2, .invokevirtual 253202, .ifCond .ne 39, .iconst (-7), .ireturn, .aload 3, .getfield 1002, .aload 2, .getfield 12, .invokevirtual 442004, .aload 3, .getfield 1002, .jsr_w 4294967297, .iload 4, .invokevirtual 473204, .ifCond .eq 52, .iconst 0, .goto 53, .iconst (-7), .ireturn]
def pX3_reduceElement : List Nat := [0, 1, 4, 5, 6, 7, 8, 11, 13, 14, 15, 18, 21, 22, 25, 26, 29, 32, 33, 36, 39, 40, 41, 44, 45, 48, 49, 52, 54, 56, 59, 61, 62, 63, 64, 65, 68, 71, 73, 74, 75, 78, 79, 82, 85, 86, 89, 92, 94, 97, 100, 101, 104, 106]
abbrev nX3_reduceElement : Nat := 29
def kX3_isWhole : List Instr := [.aload 0, .getfield 2020, .iconst 1, .if_icmp .ne 12, .aload 0, .getfield 2012, .iconst 0, .ret 1, .invokevirtual 61101, .ifCond .ne 12, .iconst 1, .goto 13, .iconst 0, .ireturn]
def pX3_isWhole : List Nat := [0, 1, 4, 5, 8, 9, 12, 13, 14, 17, 20, 21, 24, 25]
abbrev nX3_isWhole : Nat := 30
def kX3_countBelow : List Instr := [.aload 0, .iconst 0, .iload 1, .invokevirtual 323102, .istore 2, .aload 0, .iconst 1, .iload 1, .invokevirtual 323102, .istore 3, .aload 0, .iconst 2, .iload 1, .invokevirtual 323102, .istore 4, .aload 0, .iconst 3, .iload 1, .invokevirtual 323102, .istore 5, .iload 2, .ifCond .lt 28, .iload 3, .ifCond .lt 28, .iload 4, .ifCond .lt 28, .iload 5, .ifCond .ge 30, .iconst (-8), .ireturn, .iconst 0, .istore 6, .iconst 0, .istore 7, .iload 7, .iload 2, .if_icmp .ge 68, .iconst 0, .istore 8, .iload 8, .iload 3, .if_icmp .ge 66, .iconst 0, .istore 9, .iload 9, .iload 4, .if_icmp .ge 64, .iload 6, .aload 0, .iload 7, .iload 8, .iconst 8, .ishl, .ior, .iload 9, .iconst 16, .ishl, .ior, .iload 5, .invokevirtual 333102, .iadd, .istore 6, .iinc 9 1, .goto 44, .iinc 8 1, .goto 39, .iinc 7 1, .goto 34, .iload 6, .ireturn]
def pX3_countBelow : List Nat := [0, 1, 2, 3, 6, 7, 8, 9, 10, 13, 14, 15, 16, 17, 20, 22, 23, 24, 25, 28, 30, 31, 34, 35, 38, 40, 43, 45, 48, 50, 51, 52, 54, 55, 57, 59, 60, 63, 64, 66, 68, 69, 72, 73, 75, 77, 79, 82, 84, 85, 87, 89, 91, 92, 93, 95, 97, 98, 99, 101, 104, 105, 107, 110, 113, 116, 119, 122, 125, 127]
abbrev nX3_countBelow : Nat := 31
def kX3_wall : List Instr := [.iload 1, .iload 2, .if_icmp .lt 5, .iconst 1, .ireturn, .iconst (-1), .istore 3, .iconst 0, .istore 4, .iload 4, .aload 0, .getfield 2020, .if_icmp .ge 39, .aload 0, .getfield 2012, .iload 4, .ret 1, .invokevirtual 61101, .istore 5, .iload 5, .iload 1, .invokestatic 342100, .istore 6, .iload 5, .iload 6, .iconst 8, .iload 1, .imul, .ishl, .if_icmp .ne 37, .iload 3, .ifCond .lt 35, .iload 6, .iload 3, .if_icmp .ge 37, .iload 6, .istore 3, .iinc 4 1, .goto 9, .iload 3, .ireturn]
def pX3_wall : List Nat := [0, 1, 2, 5, 6, 7, 8, 9, 10, 12, 14, 15, 18, 21, 22, 25, 27, 28, 31, 33, 35, 36, 39, 41, 43, 45, 47, 48, 49, 50, 53, 54, 57, 59, 60, 63, 65, 66, 69, 72, 73]
abbrev nX3_wall : Nat := 32
def kX3_height : List Instr := [.iload 2, .istore 3, .iconst 0, .istore 4, .iload 4, .aload 0, .getfield 2020, .if_icmp .ge 28, .aload 0, .getfield 2012, .iload 4, .ret 1, .invokevirtual 61101, .istore 5, .iload 5, .iconst 16777215, .iand, .iload 1, .invokestatic 372200, .ifCond .eq 26, .iload 3, .iload 5, .iconst 3, .invokestatic 342100, .dadd, .istore 3, .iinc 4 1, .goto 4, .iload 3, .ireturn]
def pX3_height : List Nat := [0, 1, 2, 3, 5, 7, 8, 11, 14, 15, 18, 20, 21, 24, 26, 28, 30, 31, 32, 35, 38, 39, 41, 42, 45, 48, 49, 52, 55, 56]
abbrev nX3_height : Nat := 33
def kX4_exponent : List Instr := [.iload 0, .iconst 8, .iload 1, .imul, .iushr, .iconst 255, .iand, .ireturn]
def pX4_exponent : List Nat := [0, 1, 3, 4, 5, 6, 9, 10]
abbrev nX4_exponent : Nat := 34
def kX4_single : List Instr := [.iconst 1, .iconst 8, .iload 0, .imul, .ishl, .ireturn]
def pX4_single : List Nat := [0, 1, 3, 4, 5, 6]
abbrev nX4_single : Nat := 35
def kX4_isInside : List Instr := [.iload 0, .iconst (-522133280), .iand, .ifCond .ne 12, .iload 0, .iconst 16843009, .iadd, .iconst (-522133280), .iand, .ifCond .ne 12, .iconst 1, .goto 13, .iconst 0, .ireturn]
def pX4_isInside : List Nat := [0, 1, 3, 4, 7, 8, 10, 11, 13, 14, 17, 18, 21, 22]
abbrev nX4_isInside : Nat := 36
def kX4_divides : List Instr := [.iload 1, .iconst (-2139062144), .ior, .iload 0, .isub, .iconst (-2139062144), .iand, .iconst (-2139062144), .if_icmp .ne 11, .iconst 1, .goto 12, .iconst 0, .ireturn]
def pX4_divides : List Nat := [0, 1, 3, 4, 5, 6, 8, 9, 11, 14, 15, 18, 19]
abbrev nX4_divides : Nat := 37
def kX4_leastCommon : List Instr := [.iconst 0, .istore 2, .iconst 0, .istore 3, .iload 3, .iconst 4, .if_icmp .ge 32, .iconst 255, .iconst 8, .iload 3, .imul, .ishl, .istore 4, .iload 2, .iload 0, .iload 3, .invokestatic 342100, .iload 1, .iload 3, .invokestatic 342100, .if_icmp .lt 25, .iload 0, .iload 4, .iand, .goto 28, .iload 1, .iload 4, .iand, .ior, .istore 2, .iinc 3 1, .goto 4, .iload 2, .ireturn]
def pX4_leastCommon : List Nat := [0, 1, 2, 3, 4, 5, 6, 9, 12, 14, 15, 16, 17, 19, 20, 21, 22, 25, 26, 27, 30, 33, 34, 36, 37, 40, 41, 43, 44, 45, 46, 49, 52, 53]
abbrev nX4_leastCommon : Nat := 38
def kX4_haveVariableInCommon : List Instr := [.iconst 0, .istore 2, .iload 2, .iconst 4, .if_icmp .ge 17, .iload 0, .iload 2, .invokestatic 342100, .ifCond .eq 15, .iload 1, .iload 2, .invokestatic 342100, .ifCond .eq 15, .iconst 1, .ireturn, .iinc 2 1, .goto 2, .iconst 0, .ireturn]
def pX4_haveVariableInCommon : List Nat := [0, 1, 2, 3, 4, 7, 8, 9, 12, 15, 16, 17, 20, 23, 24, 25, 28, 31, 32]
abbrev nX4_haveVariableInCommon : Nat := 39
def kX5_init : List Instr := [.aload 0, .nop, .return_]
def pX5_init : List Nat := [0, 1, 4]
abbrev nX5_init : Nat := 40
def kX5_rank : List Instr := [.iload 1, .iconst 255, .iand, .istore 2, .iload 1, .iconst 8, .iushr, .iconst 255, .iand, .istore 3, .iload 1, .iconst 16, .iushr, .iconst 255, .iand, .istore 4, .iload 1, .iconst 24, .iushr, .iconst 255, .iand, .istore 5, .aload 0, .getfield 3000, .ifCond .ne 39, .iload 2, .iconst 24, .ishl, .iload 3, .iconst 16, .ishl, .ior, .iload 4, .iconst 8, .ishl, .ior, .iload 5, .ior, .ireturn, .iload 2, .iload 3, .iadd, .iload 4, .iadd, .iload 5, .iadd, .iconst 15, .ishl, .iconst 30, .iload 5, .isub, .iconst 10, .ishl, .ior, .iconst 30, .iload 4, .isub, .iconst 5, .ishl, .ior, .iconst 30, .iload 3, .isub, .ior, .istore 6, .aload 0, .getfield 3000, .iconst 1, .if_icmp .ne 71, .iload 6, .goto 76, .iload 2, .iconst 22, .ishl, .iload 6, .ior, .ireturn]
def pX5_rank : List Nat := [0, 1, 4, 5, 6, 7, 9, 10, 13, 14, 15, 16, 18, 19, 22, 23, 25, 26, 28, 29, 32, 33, 35, 36, 39, 42, 43, 45, 46, 47, 49, 50, 51, 53, 55, 56, 57, 59, 60, 61, 62, 63, 64, 66, 67, 69, 70, 72, 73, 75, 77, 78, 80, 81, 82, 84, 86, 87, 88, 89, 90, 92, 93, 94, 95, 97, 98, 101, 102, 105, 107, 110, 111, 113, 114, 116, 117]
abbrev nX5_rank : Nat := 41
def kX6_init : List Instr := [.aload 0, .nop, .aload 0, .aload 1, .putfield 4002, .aload 0, .iconst 100, .newarray .long, .putfield 4012, .aload 0, .iconst 100, .newarray .int, .putfield 4022, .aload 0, .iconst 100, .newarray .int, .putfield 4032, .return_]
def pX6_init : List Nat := [0, 1, 4, 5, 6, 9, 10, 12, 14, 17, 18, 20, 22, 25, 26, 28, 30, 33]
abbrev nX6_init : Nat := 42
def kX6_empty : List Instr := [.aload 0, .iconst 0, .putfield 4040, .return_]
def pX6_empty : List Nat := [0, 1, 2, 5]
abbrev nX6_empty : Nat := 43
def kX6_become : List Instr := [.aload 0, .aload 1, .getfield 4040, .putfield 4040, .aload 1, .getfield 4012, .iconst 0, .aload 0, .getfield 4012, .iconst 0, .aload 0, .getfield 4040, .daload, .aload 1, .getfield 4022, .iconst 0, .aload 0, .getfield 4022, .iconst 0, .aload 0, .getfield 4040, .faload, .aload 1, .getfield 4032, .iconst 0, .aload 0, .getfield 4032, .iconst 0, .aload 0, .getfield 4040, .faload, .return_]
def pX6_become : List Nat := [0, 1, 2, 5, 8, 9, 12, 13, 14, 17, 18, 19, 22, 25, 26, 29, 30, 31, 34, 35, 36, 39, 42, 43, 46, 47, 48, 51, 52, 53, 56, 59]
abbrev nX6_become : Nat := 44
def kX6_isLike : List Instr := [.aload 0, .getfield 4040, .aload 1, .getfield 4040, .if_icmp .eq 7, .iconst 0, .ireturn, .iconst 0, .istore 2, .iload 2, .aload 0, .getfield 4040, .if_icmp .ge 36, .aload 0, .getfield 4022, .iload 2, .iaload, .aload 1, .getfield 4022, .iload 2, .iaload, .if_icmp .ne 32, .aload 0, .getfield 4012, .iload 2, .laload, .aload 1, .getfield 4012, .iload 2, .laload, .lcmp, .ifCond .eq 34, .iconst 0, .ireturn, .iinc 2 1, .goto 9, .iconst 1, .ireturn]
def pX6_isLike : List Nat := [0, 1, 4, 5, 8, 11, 12, 13, 14, 15, 16, 17, 20, 23, 24, 27, 28, 29, 30, 33, 34, 35, 38, 39, 42, 43, 44, 45, 48, 49, 50, 51, 54, 55, 56, 59, 62, 63]
abbrev nX6_isLike : Nat := 45
def kX6_isWithout : List Instr := [.iconst 0, .istore 2, .iload 2, .aload 0, .getfield 4040, .if_icmp .ge 24, .iconst 0, .istore 3, .iload 3, .iload 1, .if_icmp .ge 22, .aload 0, .getfield 4022, .iload 2, .iaload, .iload 3, .invokestatic 342100, .ifCond .eq 20, .iconst 0, .ireturn, .iinc 3 1, .goto 8, .iinc 2 1, .goto 2, .iconst 1, .ireturn]
def pX6_isWithout : List Nat := [0, 1, 2, 3, 4, 7, 10, 11, 12, 13, 14, 17, 18, 21, 22, 23, 24, 27, 30, 31, 32, 35, 38, 41, 44, 45]
abbrev nX6_isWithout : Nat := 46
def kX6_come : List Instr := [.aload 0, .getfield 4002, .iload 3, .invokevirtual 412103, .istore 4, .aload 0, .iload 4, .invokevirtual 482104, .istore 5, .iload 5, .aload 0, .getfield 4040, .if_icmp .ge 54, .aload 0, .getfield 4032, .iload 5, .iaload, .iload 4, .if_icmp .ne 54, .aload 0, .getfield 4012, .iload 5, .laload, .lload 1, .invokestatic 112300, .lstore 6, .lload 6, .jsr_w 1, .lcmp, .ifCond .ne 37, .aload 0, .iload 5, .iconst 1, .iadd, .iload 5, .invokevirtual 493004, .goto 46, .lload 6, .jsr_w 0, .lcmp, .ifCond .eq 46, .aload 0, .getfield 4012, .iload 5, .lload 6, .lastore, .lload 6, .jsr_w 0, .lcmp, .ifCond .eq 52, .iconst 1, .goto 53, .iconst 0, .ireturn, .aload 0, .getfield 4040, .iconst 100, .if_icmp .lt 60, .iconst 0, .ireturn, .aload 0, .iload 5, .iload 5, .iconst 1, .iadd, .invokevirtual 493004, .aload 0, .getfield 4012, .iload 5, .lload 1, .lastore, .aload 0, .getfield 4022, .iload 5, .iload 3, .iastore, .aload 0, .getfield 4032, .iload 5, .iload 4, .iastore, .iconst 1, .ireturn]
def pX6_come : List Nat := [0, 1, 4, 5, 8, 10, 11, 13, 16, 18, 20, 21, 24, 27, 28, 31, 33, 34, 36, 39, 40, 43, 45, 46, 47, 50, 52, 54, 55, 56, 59, 60, 62, 63, 64, 66, 69, 72, 74, 75, 76, 79, 80, 83, 85, 87, 88, 90, 91, 92, 95, 96, 99, 100, 101, 102, 105, 107, 110, 111, 112, 113, 115, 117, 118, 119, 122, 123, 126, 128, 129, 130, 131, 134, 136, 137, 138, 139, 142, 144, 146, 147, 148]
abbrev nX6_come : Nat := 47
def kX6_find : List Instr := [.iconst 0, .istore 2, .aload 0, .getfield 4040, .istore 3, .iconst 0, .istore 4, .iload 4, .iconst 8, .if_icmp .ge 34, .iload 2, .iload 3, .if_icmp .ge 34, .iload 2, .iload 3, .iadd, .iconst 1, .iushr, .istore 5, .aload 0, .getfield 4032, .iload 5, .iaload, .iload 1, .if_icmp .le 30, .iload 5, .iconst 1, .iadd, .istore 2, .goto 32, .iload 5, .istore 3, .iinc 4 1, .goto 7, .iload 2, .ireturn]
def pX6_find : List Nat := [0, 1, 2, 3, 6, 7, 8, 10, 12, 14, 17, 18, 19, 22, 23, 24, 25, 26, 27, 29, 30, 33, 35, 36, 37, 40, 42, 43, 44, 45, 48, 50, 51, 54, 57, 58]
abbrev nX6_find : Nat := 48
def kX6_shift : List Instr := [.aload 0, .getfield 4012, .iload 1, .aload 0, .getfield 4012, .iload 2, .aload 0, .getfield 4040, .iload 1, .isub, .daload, .aload 0, .getfield 4022, .iload 1, .aload 0, .getfield 4022, .iload 2, .aload 0, .getfield 4040, .iload 1, .isub, .faload, .aload 0, .getfield 4032, .iload 1, .aload 0, .getfield 4032, .iload 2, .aload 0, .getfield 4040, .iload 1, .isub, .faload, .aload 0, .dup, .getfield 4040, .iload 2, .iload 1, .isub, .iadd, .putfield 4040, .return_]
def pX6_shift : List Nat := [0, 1, 4, 5, 6, 9, 10, 11, 14, 15, 16, 19, 20, 23, 24, 25, 28, 29, 30, 33, 34, 35, 38, 39, 42, 43, 44, 47, 48, 49, 52, 53, 54, 57, 58, 59, 62, 63, 64, 65, 66, 69]
abbrev nX6_shift : Nat := 49
def kX6_behead : List Instr := [.aload 0, .getfield 4040, .ifCond .le 7, .aload 0, .iconst 1, .iconst 0, .invokevirtual 493004, .return_]
def pX6_behead : List Nat := [0, 1, 4, 7, 8, 9, 10, 13]
abbrev nX6_behead : Nat := 50
def kX6_addMultiple : List Instr := [.iconst 0, .istore 5, .iload 5, .aload 4, .getfield 4040, .if_icmp .ge 38, .aload 4, .getfield 4022, .iload 5, .iaload, .iload 3, .iadd, .istore 6, .iload 6, .invokestatic 361200, .ifCond .ne 18, .iconst 0, .ireturn, .aload 4, .getfield 4012, .iload 5, .laload, .lload 1, .invokestatic 122300, .lstore 7, .lload 7, .jsr_w 0, .lcmp, .ifCond .eq 34, .aload 0, .lload 7, .iload 6, .invokevirtual 473204, .ifCond .ne 36, .iconst 0, .ireturn, .iinc 5 1, .goto 2, .iconst 1, .ireturn]
def pX6_addMultiple : List Nat := [0, 1, 3, 5, 7, 10, 13, 15, 18, 20, 21, 22, 23, 25, 27, 30, 33, 34, 35, 37, 40, 42, 43, 44, 47, 49, 51, 52, 53, 56, 57, 59, 61, 64, 67, 68, 69, 72, 75, 76]
abbrev nX6_addMultiple : Nat := 51
def kX6_addProduct : List Instr := [.iconst 0, .istore 3, .iload 3, .aload 1, .getfield 4040, .if_icmp .ge 22, .aload 0, .aload 1, .getfield 4012, .iload 3, .laload, .aload 1, .getfield 4022, .iload 3, .iaload, .aload 2, .invokevirtual 514204, .ifCond .ne 20, .iconst 0, .ireturn, .iinc 3 1, .goto 2, .iconst 1, .ireturn]
def pX6_addProduct : List Nat := [0, 1, 2, 3, 4, 7, 10, 11, 12, 15, 16, 17, 18, 21, 22, 23, 24, 27, 30, 31, 32, 35, 38, 39]
abbrev nX6_addProduct : Nat := 52
def kX6_becomeProduct : List Instr := [.aload 0, .invokevirtual 431004, .aload 0, .aload 1, .aload 2, .invokevirtual 523204, .ireturn]
def pX6_becomeProduct : List Nat := [0, 1, 4, 5, 6, 7, 10]
abbrev nX6_becomeProduct : Nat := 53
def kX6_multiply : List Instr := [.iconst 0, .istore 3, .iload 3, .aload 0, .getfield 4040, .if_icmp .ge 26, .aload 0, .getfield 4012, .iload 3, .laload, .lload 1, .invokestatic 122300, .lstore 4, .lload 4, .jsr_w 0, .lcmp, .ifCond .ne 19, .iconst 0, .ireturn, .aload 0, .getfield 4012, .iload 3, .lload 4, .lastore, .iinc 3 1, .goto 2, .iconst 1, .ireturn]
def pX6_multiply : List Nat := [0, 1, 2, 3, 4, 7, 10, 11, 14, 15, 16, 17, 20, 22, 24, 25, 26, 29, 30, 31, 32, 35, 36, 38, 39, 42, 45, 46]
abbrev nX6_multiply : Nat := 54
def kX6_arrange : List Instr := [.iconst 0, .istore 1, .iload 1, .aload 0, .getfield 4040, .if_icmp .ge 82, .aload 0, .getfield 4012, .iload 1, .laload, .lstore 2, .aload 0, .getfield 4022, .iload 1, .iaload, .istore 4, .aload 0, .getfield 4002, .iload 4, .invokevirtual 412103, .istore 5, .iload 1, .istore 6, .iload 6, .ifCond .le 65, .aload 0, .getfield 4032, .iload 6, .iconst 1, .isub, .iaload, .iload 5, .if_icmp .ge 65, .aload 0, .getfield 4012, .iload 6, .aload 0, .getfield 4012, .iload 6, .iconst 1, .isub, .laload, .lastore, .aload 0, .getfield 4022, .iload 6, .aload 0, .getfield 4022, .iload 6, .iconst 1, .isub, .iaload, .iastore, .aload 0, .getfield 4032, .iload 6, .aload 0, .getfield 4032, .iload 6, .iconst 1, .isub, .iaload, .iastore, .iinc 6 (-1), .goto 23, .aload 0, .getfield 4012, .iload 6, .lload 2, .lastore, .aload 0, .getfield 4022, .iload 6, .iload 4, .iastore, .aload 0, .getfield 4032, .iload 6, .iload 5, .iastore, .iinc 1 1, .goto 2, .return_]
def pX6_arrange : List Nat := [0, 1, 2, 3, 4, 7, 10, 11, 14, 15, 16, 17, 18, 21, 22, 23, 25, 26, 29, 31, 34, 36, 37, 39, 41, 44, 45, 48, 50, 51, 52, 53, 55, 58, 59, 62, 64, 65, 68, 70, 71, 72, 73, 74, 75, 78, 80, 81, 84, 86, 87, 88, 89, 90, 91, 94, 96, 97, 100, 102, 103, 104, 105, 106, 109, 112, 113, 116, 118, 119, 120, 121, 124, 126, 128, 129, 130, 133, 135, 137, 138, 141, 144]
abbrev nX6_arrange : Nat := 55
def kX6_valueAt : List Instr := [.jsr_w 1, .lstore 3, .iconst 0, .istore 5, .iload 5, .aload 0, .getfield 4040, .if_icmp .ge 32, .aload 0, .iload 5, .aload 1, .iload 2, .invokevirtual 574304, .lstore 6, .lload 6, .jsr_w 0, .lcmp, .ifCond .ne 20, .jsr_w 0, .lreturn, .lload 3, .lload 6, .invokestatic 112300, .lstore 3, .lload 3, .jsr_w 0, .lcmp, .ifCond .ne 30, .jsr_w 0, .lreturn, .iinc 5 1, .goto 4, .lload 3, .lreturn]
def pX6_valueAt : List Nat := [0, 1, 2, 3, 5, 7, 8, 11, 14, 15, 17, 18, 19, 22, 24, 26, 27, 28, 31, 32, 33, 34, 36, 39, 40, 41, 42, 43, 46, 47, 48, 51, 54, 55]
abbrev nX6_valueAt : Nat := 56
def kX6_termAt : List Instr := [.aload 0, .getfield 4012, .iload 1, .laload, .lstore 4, .iconst 0, .istore 6, .iload 6, .iload 3, .if_icmp .ge 43, .aload 0, .getfield 4022, .iload 1, .iaload, .iload 6, .invokestatic 342100, .istore 7, .aload 2, .iload 6, .iaload, .i2l, .jsr_w 1, .invokestatic 102300, .lstore 8, .iconst 0, .istore 10, .iload 10, .iload 7, .if_icmp .ge 41, .lload 4, .lload 8, .invokestatic 122300, .lstore 4, .lload 4, .jsr_w 0, .lcmp, .ifCond .ne 39, .jsr_w 0, .lreturn, .iinc 10 1, .goto 26, .iinc 6 1, .goto 7, .lload 4, .lreturn]
def pX6_termAt : List Nat := [0, 1, 4, 5, 6, 8, 9, 11, 13, 14, 17, 18, 21, 22, 23, 25, 28, 30, 31, 33, 34, 35, 36, 39, 41, 42, 44, 46, 48, 51, 53, 55, 58, 60, 62, 63, 64, 67, 68, 69, 72, 75, 78, 81, 83]
abbrev nX6_termAt : Nat := 57
def kX7_init : List Instr := [.aload 0, .nop, .aload 0, .iload 1, .iconst 1, .if_icmp .ge 8, .iconst 1, .goto 14, .iload 1, .iconst 4, .if_icmp .le 13, .iconst 4, .goto 14, .iload 1, .putfield 5000, .aload 0, .new 301, .dup, .invokespecial 401003, .putfield 5012, .aload 0, .iconst 40, .aload 0, .getfield 5012, .invokestatic 812400, .putfield 5022, .aload 0, .iconst 9, .aload 0, .getfield 5012, .invokestatic 812400, .putfield 5032, .aload 0, .new 211, .dup, .aload 0, .getfield 5012, .iconst 8, .invokespecial 153002, .putfield 5052, .aload 0, .new 211, .dup, .aload 0, .getfield 5012, .iconst 0, .invokespecial 153002, .putfield 5072, .aload 0, .new 5, .dup, .aload 0, .getfield 5012, .invokespecial 2000, .putfield 5082, .aload 0, .new 5, .dup, .aload 0, .getfield 5012, .invokespecial 2000, .putfield 5092, .aload 0, .new 405, .dup, .aload 0, .getfield 5012, .invokespecial 422004, .putfield 5112, .aload 0, .new 405, .dup, .aload 0, .getfield 5012, .invokespecial 422004, .putfield 5122, .aload 0, .iconst 4, .newarray .int, .putfield 5132, .return_]
def pX7_init : List Nat := [0, 1, 4, 5, 6, 7, 10, 11, 14, 15, 16, 19, 20, 23, 24, 27, 28, 31, 32, 35, 38, 39, 41, 42, 45, 48, 51, 52, 54, 55, 58, 61, 64, 65, 68, 69, 70, 73, 75, 78, 81, 82, 85, 86, 87, 90, 91, 94, 97, 98, 101, 102, 103, 106, 109, 112, 113, 116, 117, 118, 121, 124, 127, 128, 131, 132, 133, 136, 139, 142, 143, 146, 147, 148, 151, 154, 157, 158, 159, 161, 164]
abbrev nX7_init : Nat := 58
def kX7_variables : List Instr := [.aload 0, .getfield 5000, .ireturn]
def pX7_variables : List Nat := [0, 1, 4]
abbrev nX7_variables : Nat := 59
def kX7_order : List Instr := [.iload 1, .ifCond .lt 5, .iload 1, .iconst 2, .if_icmp .le 7, .iconst (-2), .ireturn, .aload 0, .getfield 5012, .getfield 3000, .istore 2, .aload 0, .getfield 5012, .iload 1, .putfield 3000, .iconst 0, .istore 3, .iload 3, .iconst 40, .if_icmp .ge 27, .aload 0, .getfield 5022, .iload 3, .ret 0, .invokevirtual 551004, .iinc 3 1, .goto 17, .iconst 0, .istore 3, .iload 3, .aload 0, .getfield 5040, .if_icmp .ge 40, .aload 0, .getfield 5032, .iload 3, .ret 0, .invokevirtual 551004, .iinc 3 1, .goto 29, .aload 0, .invokevirtual 881005, .iload 2, .ireturn]
def pX7_order : List Nat := [0, 1, 4, 5, 6, 9, 11, 12, 13, 16, 19, 20, 21, 24, 25, 28, 29, 30, 31, 33, 36, 37, 40, 41, 42, 45, 48, 51, 52, 53, 54, 55, 58, 61, 62, 65, 66, 67, 70, 73, 76, 77, 80, 81]
abbrev nX7_order : Nat := 60
def kX7_term : List Instr := [.iload 1, .invokestatic 821200, .ifCond .ne 5, .iconst (-1), .ireturn, .iload 2, .iconst 1000000000, .invokestatic 832200, .ifCond .ne 19, .iload 3, .iconst 1000000000, .invokestatic 832200, .ifCond .ne 19, .iload 3, .ifCond .eq 19, .aload 0, .iload 4, .invokevirtual 842205, .ifCond .ne 21, .iconst (-2), .ireturn, .aload 0, .getfield 5022, .iload 1, .ret 0, .astore 5, .iload 2, .ifCond .eq 51, .iload 3, .ifCond .ge 38, .iload 2, .ineg, .i2l, .iload 3, .ineg, .i2l, .invokestatic 102300, .goto 43, .iload 2, .i2l, .iload 3, .i2l, .invokestatic 102300, .lstore 6, .aload 5, .lload 6, .iload 4, .invokevirtual 473204, .ifCond .ne 51, .iconst (-7), .ireturn, .aload 5, .getfield 4040, .ireturn]
def pX7_term : List Nat := [0, 1, 4, 7, 8, 9, 10, 12, 15, 18, 19, 21, 24, 27, 28, 31, 32, 34, 37, 40, 42, 43, 44, 47, 48, 49, 51, 52, 55, 56, 59, 60, 61, 62, 63, 64, 65, 68, 71, 72, 73, 74, 75, 78, 80, 82, 84, 86, 89, 92, 94, 95, 97, 100]
abbrev nX7_term : Nat := 61
def kX7_zero : List Instr := [.iload 1, .invokestatic 821200, .ifCond .ne 5, .iconst (-1), .ireturn, .aload 0, .getfield 5022, .iload 1, .ret 0, .getfield 4040, .istore 2, .aload 0, .getfield 5022, .iload 1, .ret 0, .invokevirtual 431004, .iload 2, .ireturn]
def pX7_zero : List Nat := [0, 1, 4, 7, 8, 9, 10, 13, 14, 15, 18, 19, 20, 23, 24, 25, 28, 29]
abbrev nX7_zero : Nat := 62
def kX7_size : List Instr := [.iload 1, .invokestatic 821200, .ifCond .eq 9, .aload 0, .getfield 5022, .iload 1, .ret 0, .getfield 4040, .goto 10, .iconst (-1), .ireturn]
def pX7_size : List Nat := [0, 1, 4, 7, 8, 11, 12, 13, 16, 19, 20]
abbrev nX7_size : Nat := 63
def kX7_told : List Instr := [.iload 1, .invokestatic 821200, .ifCond .eq 12, .iload 2, .ifCond .lt 12, .iload 2, .aload 0, .getfield 5022, .iload 1, .ret 0, .getfield 4040, .if_icmp .lt 14, .iconst (-1), .ireturn, .iload 3, .tableswitch 42 0 2 #[16, 25, 34], .aload 0, .getfield 5022, .iload 1, .ret 0, .getfield 4012, .iload 2, .laload, .invokestatic 81100, .ireturn, .aload 0, .getfield 5022, .iload 1, .ret 0, .getfield 4012, .iload 2, .laload, .invokestatic 91100, .ireturn, .aload 0, .getfield 5022, .iload 1, .ret 0, .getfield 4022, .iload 2, .iaload, .ireturn, .iconst (-2), .ireturn]
def pX7_told : List Nat := [0, 1, 4, 7, 8, 11, 12, 13, 16, 17, 18, 21, 24, 25, 26, 27, 52, 53, 56, 57, 58, 61, 62, 63, 66, 67, 68, 71, 72, 73, 76, 77, 78, 81, 82, 83, 86, 87, 88, 91, 92, 93, 94, 96]
abbrev nX7_told : Nat := 64
def kX7_plus : List Instr := [.iload 1, .invokestatic 821200, .ifCond .eq 9, .iload 2, .invokestatic 821200, .ifCond .eq 9, .iload 3, .invokestatic 821200, .ifCond .ne 11, .iconst (-1), .ireturn, .aload 0, .getfield 5112, .aload 0, .getfield 5022, .iload 1, .ret 0, .invokevirtual 442004, .aload 0, .getfield 5112, .jsr_w 4294967297, .iconst 0, .aload 0, .getfield 5022, .iload 2, .ret 0, .invokevirtual 514204, .ifCond .eq 34, .aload 0, .aload 0, .getfield 5112, .iload 3, .invokevirtual 873105, .goto 35, .iconst (-7), .ireturn]
def pX7_plus : List Nat := [0, 1, 4, 7, 8, 11, 14, 15, 18, 21, 22, 23, 24, 27, 28, 31, 32, 33, 36, 37, 40, 43, 44, 45, 48, 49, 50, 53, 56, 57, 58, 61, 62, 65, 68, 70]
abbrev nX7_plus : Nat := 65
def kX7_times : List Instr := [.iload 1, .invokestatic 821200, .ifCond .eq 9, .iload 2, .invokestatic 821200, .ifCond .eq 9, .iload 3, .invokestatic 821200, .ifCond .ne 11, .iconst (-1), .ireturn, .aload 0, .getfield 5122, .aload 0, .getfield 5022, .iload 1, .ret 0, .aload 0, .getfield 5022, .iload 2, .ret 0, .invokevirtual 533204, .ifCond .eq 29, .aload 0, .aload 0, .getfield 5122, .iload 3, .invokevirtual 873105, .goto 30, .iconst (-7), .ireturn]
def pX7_times : List Nat := [0, 1, 4, 7, 8, 11, 14, 15, 18, 21, 22, 23, 24, 27, 28, 31, 32, 33, 34, 37, 38, 39, 42, 45, 46, 47, 50, 51, 54, 57, 59]
abbrev nX7_times : Nat := 66
def kX7_same : List Instr := [.iload 1, .invokestatic 821200, .ifCond .eq 6, .iload 2, .invokestatic 821200, .ifCond .ne 8, .iconst (-1), .ireturn, .aload 0, .getfield 5022, .iload 1, .ret 0, .aload 0, .getfield 5022, .iload 2, .ret 0, .invokevirtual 452204, .ifCond .eq 20, .iconst 1, .goto 21, .iconst 0, .ireturn]
def pX7_same : List Nat := [0, 1, 4, 7, 8, 11, 14, 15, 16, 17, 20, 21, 22, 23, 26, 27, 28, 31, 34, 35, 38, 39]
abbrev nX7_same : Nat := 67
def kX7_vanishes : List Instr := [.iload 1, .invokestatic 821200, .ifCond .ne 5, .iconst (-1), .ireturn, .aload 0, .getfield 5132, .iconst 0, .iload 2, .iastore, .aload 0, .getfield 5132, .iconst 1, .iload 3, .iastore, .aload 0, .getfield 5132, .iconst 2, .iload 4, .iastore, .aload 0, .getfield 5132, .iconst 3, .iload 5, .iastore, .iconst 0, .istore 6, .iload 6, .aload 0, .getfield 5000, .if_icmp .ge 42, .aload 0, .getfield 5132, .iload 6, .iaload, .iconst 1000, .invokestatic 832200, .ifCond .eq 40, .iconst (-2), .ireturn, .iinc 6 1, .goto 27, .aload 0, .getfield 5022, .iload 1, .ret 0, .aload 0, .getfield 5132, .aload 0, .getfield 5000, .invokevirtual 563304, .lstore 6, .lload 6, .jsr_w 0, .lcmp, .ifCond .ne 58, .iconst (-7), .ireturn, .lload 6, .jsr_w 1, .lcmp, .ifCond .ne 64, .iconst 1, .goto 65, .iconst 0, .ireturn]
def pX7_vanishes : List Nat := [0, 1, 4, 7, 8, 9, 10, 13, 14, 15, 16, 17, 20, 21, 22, 23, 24, 27, 28, 30, 31, 32, 35, 36, 38, 39, 40, 42, 44, 45, 48, 51, 52, 55, 57, 58, 61, 64, 67, 69, 70, 73, 76, 77, 80, 81, 82, 83, 86, 87, 90, 93, 95, 97, 98, 99, 102, 104, 105, 107, 108, 109, 112, 113, 116, 117]
abbrev nX7_vanishes : Nat := 68
def kX7_generator : List Instr := [.iload 1, .invokestatic 821200, .ifCond .ne 5, .iconst (-1), .ireturn, .aload 0, .getfield 5040, .iconst 8, .if_icmp .lt 11, .iconst (-4), .ireturn, .aload 0, .getfield 5032, .aload 0, .getfield 5040, .ret 0, .aload 0, .getfield 5022, .iload 1, .ret 0, .invokevirtual 442004, .aload 0, .dup, .getfield 5040, .iconst 1, .iadd, .putfield 5040, .aload 0, .invokevirtual 881005, .aload 0, .getfield 5040, .iconst 1, .isub, .ireturn]
def pX7_generator : List Nat := [0, 1, 4, 7, 8, 9, 10, 13, 15, 18, 20, 21, 22, 25, 26, 29, 30, 31, 34, 35, 36, 39, 40, 41, 44, 45, 46, 49, 50, 53, 54, 57, 58, 59]
abbrev nX7_generator : Nat := 69
def kX7_clear : List Instr := [.aload 0, .getfield 5040, .istore 1, .aload 0, .iconst 0, .putfield 5040, .aload 0, .invokevirtual 881005, .iload 1, .ireturn]
def pX7_clear : List Nat := [0, 1, 4, 5, 6, 7, 10, 11, 14, 15]
abbrev nX7_clear : Nat := 70
def kX7_basis : List Instr := [.iload 1, .ifCond .lt 5, .iload 1, .iconst 20000, .if_icmp .le 7, .iconst (-2), .ireturn, .aload 0, .invokevirtual 881005, .aload 0, .getfield 5052, .aload 0, .getfield 5032, .aload 0, .getfield 5040, .aload 0, .getfield 5040, .aload 0, .getfield 5082, .iload 1, .invokevirtual 166102, .istore 2, .iload 2, .ifCond .eq 26, .iload 2, .ireturn, .aload 0, .iconst 1, .putfield 5061, .aload 0, .getfield 5052, .getfield 2020, .ireturn]
def pX7_basis : List Nat := [0, 1, 4, 5, 8, 11, 13, 14, 15, 18, 19, 22, 23, 26, 27, 30, 31, 34, 35, 38, 39, 42, 43, 44, 47, 48, 49, 50, 51, 54, 55, 58, 61]
abbrev nX7_basis : Nat := 71
def kX7_done : List Instr := [.iload 1, .tableswitch 18 0 3 #[2, 6, 10, 14], .aload 0, .getfield 5052, .getfield 2030, .ireturn, .aload 0, .getfield 5052, .getfield 2040, .ireturn, .aload 0, .getfield 5052, .getfield 2050, .ireturn, .aload 0, .getfield 5052, .getfield 2060, .ireturn, .iconst (-2), .ireturn]
def pX7_done : List Nat := [0, 1, 32, 33, 36, 39, 40, 41, 44, 47, 48, 49, 52, 55, 56, 57, 60, 63, 64, 66]
abbrev nX7_done : Nat := 72
def kX7_element : List Instr := [.aload 0, .getfield 5061, .ifCond .ne 5, .iconst (-3), .ireturn, .aload 0, .iload 1, .invokevirtual 852205, .ifCond .eq 12, .iload 2, .invokestatic 821200, .ifCond .ne 14, .iconst (-1), .ireturn, .aload 0, .aload 0, .getfield 5052, .getfield 2012, .iload 1, .ret 1, .getfield 1002, .iload 2, .invokevirtual 873105, .ireturn]
def pX7_element : List Nat := [0, 1, 4, 7, 9, 10, 11, 12, 15, 18, 19, 22, 25, 26, 27, 28, 29, 32, 35, 36, 37, 40, 41, 44]
abbrev nX7_element : Nat := 73
def kX7_share : List Instr := [.aload 0, .getfield 5061, .ifCond .ne 5, .iconst (-3), .ireturn, .aload 0, .iload 1, .invokevirtual 852205, .ifCond .eq 16, .aload 0, .iload 2, .invokevirtual 862205, .ifCond .eq 16, .iload 3, .invokestatic 821200, .ifCond .ne 18, .iconst (-1), .ireturn, .aload 0, .aload 0, .getfield 5052, .getfield 2012, .iload 1, .ret 1, .getfield 1012, .iload 2, .ret 0, .iload 3, .invokevirtual 873105, .ireturn]
def pX7_share : List Nat := [0, 1, 4, 7, 9, 10, 11, 12, 15, 18, 19, 20, 23, 26, 27, 30, 33, 34, 35, 36, 37, 40, 43, 44, 45, 48, 49, 50, 51, 54]
abbrev nX7_share : Nat := 74
def kX7_divide : List Instr := [.iload 1, .invokestatic 821200, .ifCond .eq 6, .iload 2, .invokestatic 821200, .ifCond .ne 8, .iconst (-1), .ireturn, .aload 0, .getfield 5061, .ifCond .ne 13, .iconst (-3), .ireturn, .aload 0, .getfield 5082, .iconst 5000, .invokevirtual 12000, .aload 0, .getfield 5082, .aload 0, .getfield 5052, .getfield 2020, .invokevirtual 22000, .aload 0, .getfield 5082, .getfield 2, .aload 0, .getfield 5022, .iload 1, .ret 0, .invokevirtual 442004, .aload 0, .getfield 5082, .aload 0, .getfield 5052, .getfield 2012, .aload 0, .getfield 5052, .getfield 2020, .iconst (-1), .invokevirtual 34100, .istore 3, .iload 3, .ifCond .eq 46, .iload 3, .ireturn, .aload 0, .getfield 5082, .astore 4, .aload 0, .aload 0, .getfield 5092, .putfield 5082, .aload 0, .aload 4, .putfield 5092, .aload 0, .aload 0, .aload 4, .getfield 12, .iload 2, .invokevirtual 873105, .ifCond .ne 65, .iconst 1, .goto 66, .iconst 0, .putfield 5101, .aload 0, .getfield 5101, .ifCond .eq 72, .iconst 1, .goto 73, .iconst 0, .ireturn]
def pX7_divide : List Nat := [0, 1, 4, 7, 8, 11, 14, 15, 16, 17, 20, 23, 25, 26, 27, 30, 33, 36, 37, 40, 41, 44, 47, 50, 51, 54, 57, 58, 61, 62, 63, 66, 67, 70, 71, 74, 77, 78, 81, 84, 85, 88, 89, 90, 93, 94, 95, 96, 99, 101, 102, 103, 106, 109, 110, 112, 115, 116, 117, 119, 122, 123, 126, 129, 130, 133, 134, 137, 138, 141, 144, 145, 148, 149]
abbrev nX7_divide : Nat := 75
def kX7_certificate : List Instr := [.aload 0, .getfield 5061, .ifCond .eq 6, .aload 0, .getfield 5101, .ifCond .ne 8, .iconst (-3), .ireturn, .aload 0, .iload 1, .invokevirtual 862205, .ifCond .eq 15, .iload 2, .invokestatic 821200, .ifCond .ne 17, .iconst (-1), .ireturn, .aload 0, .getfield 5112, .invokevirtual 431004, .iconst 0, .istore 3, .iload 3, .aload 0, .getfield 5052, .getfield 2020, .if_icmp .ge 48, .aload 0, .getfield 5112, .aload 0, .getfield 5092, .getfield 22, .iload 3, .ret 0, .aload 0, .getfield 5052, .getfield 2012, .iload 3, .ret 1, .getfield 1012, .iload 1, .ret 0, .invokevirtual 523204, .ifCond .ne 46, .iconst (-7), .ireturn, .iinc 3 1, .goto 22, .aload 0, .aload 0, .getfield 5112, .iload 2, .invokevirtual 873105, .ireturn]
def pX7_certificate : List Nat := [0, 1, 4, 7, 8, 11, 14, 16, 17, 18, 19, 22, 25, 26, 29, 32, 33, 34, 35, 38, 41, 42, 43, 44, 45, 48, 51, 54, 55, 58, 59, 62, 65, 66, 67, 68, 71, 74, 75, 76, 79, 80, 81, 84, 87, 89, 90, 93, 96, 97, 98, 101, 102, 105]
abbrev nX7_certificate : Nat := 76
def kX7_check : List Instr := [.aload 0, .getfield 5061, .ifCond .ne 5, .iconst (-3), .ireturn, .iconst 1, .istore 1, .iconst 0, .istore 2, .iload 2, .aload 0, .getfield 5052, .getfield 2020, .if_icmp .ge 37, .aload 0, .getfield 5052, .getfield 2012, .iload 2, .ret 1, .astore 3, .aload 0, .aload 3, .getfield 1012, .invokevirtual 892205, .ifCond .ne 27, .iconst (-7), .ireturn, .aload 0, .getfield 5112, .aload 3, .getfield 1002, .invokevirtual 452204, .ifCond .ne 35, .iconst 0, .istore 1, .iinc 2 1, .goto 9, .iload 1, .ireturn]
def pX7_check : List Nat := [0, 1, 4, 7, 9, 10, 11, 12, 13, 14, 15, 16, 19, 22, 25, 26, 29, 32, 33, 34, 35, 36, 37, 40, 43, 46, 48, 49, 50, 53, 54, 57, 60, 63, 64, 65, 68, 71, 72]
abbrev nX7_check : Nat := 77
def kX7_radical : List Instr := [.iload 1, .invokestatic 821200, .ifCond .ne 5, .iconst (-1), .ireturn, .iload 2, .ifCond .lt 10, .iload 2, .iconst 20000, .if_icmp .le 12, .iconst (-2), .ireturn, .aload 0, .getfield 5000, .iconst 4, .if_icmp .lt 18, .iconst (-3), .ireturn, .aload 0, .getfield 5032, .aload 0, .getfield 5040, .ret 0, .astore 3, .aload 3, .invokevirtual 431004, .aload 3, .jsr_w 4294967297, .iconst 0, .invokevirtual 473204, .ifCond .eq 42, .aload 3, .jsr_w (-4294967295), .aload 0, .getfield 5000, .invokestatic 351100, .aload 0, .getfield 5022, .iload 1, .ret 0, .invokevirtual 514204, .ifCond .ne 44, .iconst (-7), .ireturn, .aload 0, .getfield 5072, .aload 0, .getfield 5032, .aload 0, .getfield 5040, .iconst 1, .iadd, .iconst 0, .aload 0, .getfield 5082, .iload 2, .invokevirtual 166102, .istore 4, .iload 4, .ifCond .eq 62, .iload 4, .ireturn, .aload 0, .getfield 5072, .invokevirtual 301202, .ifCond .eq 68, .iconst 1, .goto 69, .iconst 0, .ireturn]
def pX7_radical : List Nat := [0, 1, 4, 7, 8, 9, 10, 13, 14, 17, 20, 22, 23, 24, 27, 28, 31, 33, 34, 35, 38, 39, 42, 43, 44, 45, 48, 49, 52, 53, 56, 59, 60, 63, 64, 67, 70, 71, 74, 75, 76, 79, 82, 84, 85, 86, 89, 90, 93, 94, 97, 98, 99, 100, 101, 104, 105, 108, 110, 112, 115, 117, 118, 119, 122, 125, 128, 129, 132, 133]
abbrev nX7_radical : Nat := 78
def kX7_free : List Instr := [.iload 1, .ifCond .lt 6, .iload 1, .aload 0, .getfield 5000, .if_icmp .le 8, .iconst (-2), .ireturn, .aload 0, .getfield 5061, .ifCond .ne 13, .iconst (-3), .ireturn, .iconst 0, .istore 2, .iconst 0, .istore 3, .iload 3, .aload 0, .getfield 5052, .getfield 2020, .if_icmp .ge 34, .aload 0, .getfield 5052, .getfield 2012, .iload 3, .ret 1, .getfield 1002, .iload 1, .invokevirtual 462204, .ifCond .eq 32, .iinc 2 1, .iinc 3 1, .goto 17, .iload 2, .ireturn]
def pX7_free : List Nat := [0, 1, 4, 5, 6, 9, 12, 14, 15, 16, 19, 22, 24, 25, 26, 27, 28, 29, 30, 31, 34, 37, 40, 41, 44, 47, 48, 49, 52, 53, 56, 59, 62, 65, 68, 69]
abbrev nX7_free : Nat := 79
def kX7_stairs : List Instr := [.aload 0, .getfield 5061, .ifCond .eq 9, .aload 0, .getfield 5052, .aload 0, .getfield 5000, .invokevirtual 312102, .goto 10, .iconst (-3), .ireturn]
def pX7_stairs : List Nat := [0, 1, 4, 7, 8, 11, 12, 15, 18, 21, 23]
abbrev nX7_stairs : Nat := 80
def kX7_row : List Instr := [.iload 0, .anewarray 0, .astore 2, .iconst 0, .istore 3, .iload 3, .iload 0, .if_icmp .ge 17, .aload 2, .iload 3, .new 405, .dup, .aload 1, .invokespecial 422004, .putstatic 40, .iinc 3 1, .goto 5, .aload 2, .areturn]
def pX7_row : List Nat := [0, 1, 4, 5, 6, 7, 8, 9, 12, 13, 14, 17, 18, 19, 22, 23, 26, 29, 30]
abbrev nX7_row : Nat := 81
def kX7_isPlace : List Instr := [.iload 0, .ifCond .lt 7, .iload 0, .iconst 40, .if_icmp .ge 7, .iconst 1, .goto 8, .iconst 0, .ireturn]
def pX7_isPlace : List Nat := [0, 1, 4, 5, 7, 10, 11, 14, 15]
abbrev nX7_isPlace : Nat := 82
def kX7_isLarge : List Instr := [.iload 0, .iload 1, .if_icmp .gt 7, .iload 0, .iload 1, .ineg, .if_icmp .ge 9, .iconst 1, .goto 10, .iconst 0, .ireturn]
def pX7_isLarge : List Nat := [0, 1, 2, 5, 6, 7, 8, 11, 12, 15, 16]
abbrev nX7_isLarge : Nat := 83
def kX7_isTold : List Instr := [.iload 1, .invokestatic 361200, .ifCond .ne 5, .iconst 0, .ireturn, .aload 0, .getfield 5000, .istore 2, .iload 2, .iconst 4, .if_icmp .ge 19, .iload 1, .iload 2, .invokestatic 342100, .ifCond .eq 17, .iconst 0, .ireturn, .iinc 2 1, .goto 8, .iconst 1, .ireturn]
def pX7_isTold : List Nat := [0, 1, 4, 7, 8, 9, 10, 13, 14, 15, 16, 19, 20, 21, 24, 27, 28, 29, 32, 35, 36]
abbrev nX7_isTold : Nat := 84
def kX7_isElement : List Instr := [.iload 1, .ifCond .lt 9, .iload 1, .aload 0, .getfield 5052, .getfield 2020, .if_icmp .ge 9, .iconst 1, .goto 10, .iconst 0, .ireturn]
def pX7_isElement : List Nat := [0, 1, 4, 5, 6, 9, 12, 15, 16, 19, 20]
abbrev nX7_isElement : Nat := 85
def kX7_isGenerator : List Instr := [.iload 1, .ifCond .lt 8, .iload 1, .aload 0, .getfield 5040, .if_icmp .ge 8, .iconst 1, .goto 9, .iconst 0, .ireturn]
def pX7_isGenerator : List Nat := [0, 1, 4, 5, 6, 9, 12, 13, 16, 17]
abbrev nX7_isGenerator : Nat := 86
def kX7_put : List Instr := [.aload 0, .getfield 5022, .iload 2, .ret 0, .aload 1, .invokevirtual 442004, .aload 1, .getfield 4040, .ireturn]
def pX7_put : List Nat := [0, 1, 4, 5, 6, 7, 10, 11, 14]
abbrev nX7_put : Nat := 87
def kX7_forgetBasis : List Instr := [.aload 0, .iconst 0, .putfield 5061, .aload 0, .iconst 0, .putfield 5101, .return_]
def pX7_forgetBasis : List Nat := [0, 1, 2, 5, 6, 7, 10]
abbrev nX7_forgetBasis : Nat := 88
def kX7_sumUp : List Instr := [.aload 0, .getfield 5112, .invokevirtual 431004, .iconst 0, .istore 2, .iload 2, .aload 0, .getfield 5040, .if_icmp .ge 32, .aload 0, .getfield 5122, .aload 1, .iload 2, .ret 0, .aload 0, .getfield 5032, .iload 2, .ret 0, .invokevirtual 533204, .ifCond .eq 28, .aload 0, .getfield 5112, .jsr_w 4294967297, .iconst 0, .aload 0, .getfield 5122, .invokevirtual 514204, .ifCond .ne 30, .iconst 0, .ireturn, .iinc 2 1, .goto 5, .iconst 1, .ireturn]
def pX7_sumUp : List Nat := [0, 1, 4, 7, 8, 9, 10, 11, 14, 17, 18, 21, 22, 23, 24, 25, 28, 29, 30, 33, 36, 37, 40, 43, 44, 45, 48, 51, 54, 55, 56, 59, 62, 63]
abbrev nX7_sumUp : Nat := 89
def kX8_init : List Instr := [.aload 0, .nop, .aload 0, .iconst 37200, .newarray .int, .putfield 6032, .aload 0, .iconst 37200, .newarray .int, .putfield 6042, .aload 0, .iconst 37200, .newarray .int, .putfield 6052, .aload 0, .iconst 372, .newarray .int, .putfield 6062, .aload 0, .iconst 4, .newarray .int, .putfield 6152, .aload 0, .iconst 4, .newarray .int, .putfield 6182, .aload 0, .iconst 625, .newarray .boolean, .putfield 6232, .aload 0, .iconst 25, .newarray .boolean, .putfield 6272, .aload 0, .iload 1, .iconst 1, .if_icmp .ge 40, .iconst 1, .goto 46, .iload 1, .iconst 4, .if_icmp .le 45, .iconst 4, .goto 46, .iload 1, .putfield 6000, .aload 0, .aload 0, .getfield 6000, .putfield 6010, .return_]
def pX8_init : List Nat := [0, 1, 4, 5, 7, 9, 12, 13, 15, 17, 20, 21, 23, 25, 28, 29, 32, 34, 37, 38, 39, 41, 44, 45, 46, 48, 51, 52, 55, 57, 60, 61, 63, 65, 68, 69, 70, 71, 74, 75, 78, 79, 80, 83, 84, 87, 88, 91, 92, 93, 96, 99]
abbrev nX8_init : Nat := 90
def kX8_variables : List Instr := [.aload 0, .getfield 6000, .ireturn]
def pX8_variables : List Nat := [0, 1, 4]
abbrev nX8_variables : Nat := 91
def kX8_exponent : List Instr := [.iload 0, .iconst 5, .iload 1, .imul, .ishr, .iconst 31, .iand, .ireturn]
def pX8_exponent : List Nat := [0, 1, 2, 3, 4, 5, 7, 8]
abbrev nX8_exponent : Nat := 92
def kX8_sum : List Instr := [.iconst 0, .istore 2, .iconst 0, .istore 3, .iload 3, .aload 0, .getfield 6010, .if_icmp .ge 16, .iload 2, .iload 1, .iload 3, .invokestatic 922100, .iadd, .istore 2, .iinc 3 1, .goto 4, .iload 2, .ireturn]
def pX8_sum : List Nat := [0, 1, 2, 3, 4, 5, 6, 9, 12, 13, 14, 15, 18, 19, 20, 23, 26, 27]
abbrev nX8_sum : Nat := 93
def kX8_compare : List Instr := [.aload 0, .getfield 6020, .ifCond .ne 31, .iconst 0, .istore 3, .iload 3, .aload 0, .getfield 6010, .if_icmp .ge 29, .iload 1, .iload 3, .invokestatic 922100, .iload 2, .iload 3, .invokestatic 922100, .if_icmp .eq 27, .iload 1, .iload 3, .invokestatic 922100, .iload 2, .iload 3, .invokestatic 922100, .if_icmp .ge 25, .iconst (-1), .goto 26, .iconst 1, .ireturn, .iinc 3 1, .goto 5, .iconst 0, .ireturn, .aload 0, .getfield 6020, .iconst 2, .if_icmp .ne 53, .iload 1, .iconst 0, .invokestatic 922100, .iload 2, .iconst 0, .invokestatic 922100, .if_icmp .eq 53, .iload 1, .iconst 0, .invokestatic 922100, .iload 2, .iconst 0, .invokestatic 922100, .if_icmp .ge 51, .iconst (-1), .goto 52, .iconst 1, .ireturn, .aload 0, .iload 1, .invokevirtual 932106, .aload 0, .iload 2, .invokevirtual 932106, .if_icmp .eq 71, .aload 0, .iload 1, .invokevirtual 932106, .aload 0, .iload 2, .invokevirtual 932106, .if_icmp .ge 69, .iconst (-1), .goto 70, .iconst 1, .ireturn, .aload 0, .getfield 6010, .iconst 1, .isub, .istore 3, .iload 3, .ifCond .lt 98, .iload 1, .iload 3, .invokestatic 922100, .iload 2, .iload 3, .invokestatic 922100, .if_icmp .eq 96, .iload 1, .iload 3, .invokestatic 922100, .iload 2, .iload 3, .invokestatic 922100, .if_icmp .le 94, .iconst (-1), .goto 95, .iconst 1, .ireturn, .iinc 3 (-1), .goto 76, .iconst 0, .ireturn]
def pX8_compare : List Nat := [0, 1, 4, 7, 8, 9, 10, 11, 14, 17, 18, 19, 22, 23, 24, 27, 30, 31, 32, 35, 36, 37, 40, 43, 44, 47, 48, 49, 52, 55, 56, 57, 58, 61, 62, 65, 66, 67, 70, 71, 72, 75, 78, 79, 80, 83, 84, 85, 88, 91, 92, 95, 96, 97, 98, 99, 102, 103, 104, 107, 110, 111, 112, 115, 116, 117, 120, 123, 124, 127, 128, 129, 130, 133, 134, 135, 136, 137, 140, 141, 142, 145, 146, 147, 150, 153, 154, 155, 158, 159, 160, 163, 166, 167, 170, 171, 172, 175, 178, 179]
abbrev nX8_compare : Nat := 94
def kX8_divides : List Instr := [.iconst 0, .istore 3, .iload 3, .aload 0, .getfield 6010, .if_icmp .ge 17, .iload 1, .iload 3, .invokestatic 922100, .iload 2, .iload 3, .invokestatic 922100, .if_icmp .le 15, .iconst 0, .ireturn, .iinc 3 1, .goto 2, .iconst 1, .ireturn]
def pX8_divides : List Nat := [0, 1, 2, 3, 4, 7, 10, 11, 12, 15, 16, 17, 20, 23, 24, 25, 28, 31, 32]
abbrev nX8_divides : Nat := 95
def kX8_common : List Instr := [.iconst 0, .istore 3, .iconst 0, .istore 4, .iload 4, .aload 0, .getfield 6010, .if_icmp .ge 31, .iload 1, .iload 4, .invokestatic 922100, .istore 5, .iload 2, .iload 4, .invokestatic 922100, .istore 6, .iload 3, .iload 5, .iload 6, .if_icmp .le 22, .iload 5, .goto 23, .iload 6, .iconst 5, .iload 4, .imul, .ishl, .ior, .istore 3, .iinc 4 1, .goto 4, .iload 3, .ireturn]
def pX8_common : List Nat := [0, 1, 2, 3, 5, 7, 8, 11, 14, 15, 17, 20, 22, 23, 25, 28, 30, 31, 33, 35, 38, 40, 43, 45, 46, 48, 49, 50, 51, 52, 55, 58, 59]
abbrev nX8_common : Nat := 96
def kX8_product : List Instr := [.iconst 0, .istore 3, .iload 3, .aload 0, .getfield 6010, .if_icmp .ge 25, .aload 0, .aload 0, .getfield 6111, .ifCond .ne 19, .iload 1, .iload 3, .invokestatic 922100, .iload 2, .iload 3, .invokestatic 922100, .iadd, .iconst 30, .if_icmp .le 21, .iconst 1, .goto 22, .iconst 0, .putfield 6111, .iinc 3 1, .goto 2, .aload 0, .getfield 6111, .ifCond .eq 30, .iconst 0, .goto 33, .iload 1, .iload 2, .iadd, .ireturn]
def pX8_product : List Nat := [0, 1, 2, 3, 4, 7, 10, 11, 12, 15, 18, 19, 20, 23, 24, 25, 28, 29, 31, 34, 35, 38, 39, 42, 45, 48, 49, 52, 55, 56, 59, 60, 61, 62]
abbrev nX8_product : Nat := 97
def kX8_lowest : List Instr := [.lload 1, .jsr_w 0, .lcmp, .ifCond .ge 7, .lload 1, .lneg, .goto 8, .lload 1, .lstore 5, .lload 3, .lstore 7, .lload 7, .jsr_w 0, .lcmp, .ifCond .eq 24, .lload 5, .lload 7, .lrem, .lstore 9, .lload 7, .lstore 5, .lload 9, .lstore 7, .goto 11, .lload 1, .lload 5, .ldiv, .lstore 9, .lload 3, .lload 5, .ldiv, .lstore 11, .aload 0, .aload 0, .getfield 6111, .ifCond .ne 48, .lload 9, .jsr_w 1000000000, .lcmp, .ifCond .gt 48, .lload 9, .jsr_w (-1000000000), .lcmp, .ifCond .lt 48, .lload 11, .jsr_w 1000000000, .lcmp, .ifCond .le 50, .iconst 1, .goto 51, .iconst 0, .putfield 6111, .aload 0, .aload 0, .getfield 6111, .ifCond .eq 58, .iconst 0, .goto 60, .lload 9, .l2i, .putfield 6160, .aload 0, .aload 0, .getfield 6111, .ifCond .eq 67, .iconst 1, .goto 69, .lload 11, .l2i, .putfield 6170, .return_]
def pX8_lowest : List Nat := [0, 1, 2, 3, 6, 7, 8, 11, 12, 14, 15, 17, 19, 20, 21, 24, 26, 28, 29, 31, 33, 35, 37, 39, 42, 43, 45, 46, 48, 49, 51, 52, 54, 55, 56, 59, 62, 64, 67, 68, 71, 73, 76, 77, 80, 82, 85, 86, 89, 90, 93, 94, 97, 98, 99, 102, 105, 106, 109, 111, 112, 115, 116, 117, 120, 123, 124, 127, 129, 130, 133]
abbrev nX8_lowest : Nat := 98
def kX8_multiplied : List Instr := [.aload 0, .lload 1, .lload 5, .lmul, .lload 3, .lload 7, .lmul, .invokevirtual 983006, .return_]
def pX8_multiplied : List Nat := [0, 1, 2, 4, 5, 6, 8, 9, 12]
abbrev nX8_multiplied : Nat := 99
def kX8_copy : List Instr := [.aload 0, .getfield 6062, .iload 2, .aload 0, .getfield 6062, .iload 1, .iaload, .iastore, .iconst 0, .istore 3, .iload 3, .aload 0, .getfield 6062, .iload 1, .iaload, .if_icmp .ge 66, .aload 0, .getfield 6032, .iconst 100, .iload 2, .imul, .iload 3, .iadd, .aload 0, .getfield 6032, .iconst 100, .iload 1, .imul, .iload 3, .iadd, .iaload, .iastore, .aload 0, .getfield 6042, .iconst 100, .iload 2, .imul, .iload 3, .iadd, .aload 0, .getfield 6042, .iconst 100, .iload 1, .imul, .iload 3, .iadd, .iaload, .iastore, .aload 0, .getfield 6052, .iconst 100, .iload 2, .imul, .iload 3, .iadd, .aload 0, .getfield 6052, .iconst 100, .iload 1, .imul, .iload 3, .iadd, .iaload, .iastore, .iinc 3 1, .goto 10, .return_]
def pX8_copy : List Nat := [0, 1, 4, 5, 6, 9, 10, 11, 12, 13, 14, 15, 16, 19, 20, 21, 24, 25, 28, 30, 31, 32, 33, 34, 35, 38, 40, 41, 42, 43, 44, 45, 46, 47, 50, 52, 53, 54, 55, 56, 57, 60, 62, 63, 64, 65, 66, 67, 68, 69, 72, 74, 75, 76, 77, 78, 79, 82, 84, 85, 86, 87, 88, 89, 90, 93, 96]
abbrev nX8_copy : Nat := 100
def kX8_lead : List Instr := [.aload 0, .getfield 6052, .iconst 100, .iload 1, .imul, .iaload, .ireturn]
def pX8_lead : List Nat := [0, 1, 4, 6, 7, 8, 9]
abbrev nX8_lead : Nat := 101
def kX8_comes : List Instr := [.aload 0, .getfield 6111, .ifCond .eq 4, .return_, .iconst 100, .iload 1, .imul, .istore 5, .iconst 0, .istore 6, .iload 6, .aload 0, .getfield 6062, .iload 1, .iaload, .if_icmp .ge 28, .aload 0, .aload 0, .getfield 6052, .iload 5, .iload 6, .iadd, .iaload, .iload 4, .invokevirtual 943106, .ifCond .le 28, .iinc 6 1, .goto 10, .iload 6, .aload 0, .getfield 6062, .iload 1, .iaload, .if_icmp .ge 159, .aload 0, .getfield 6052, .iload 5, .iload 6, .iadd, .iaload, .iload 4, .if_icmp .ne 159, .aload 0, .aload 0, .getfield 6032, .iload 5, .iload 6, .iadd, .iaload, .i2l, .iload 3, .i2l, .lmul, .iload 2, .i2l, .aload 0, .getfield 6042, .iload 5, .iload 6, .iadd, .iaload, .i2l, .lmul, .ladd, .aload 0, .getfield 6042, .iload 5, .iload 6, .iadd, .iaload, .i2l, .iload 3, .i2l, .lmul, .invokevirtual 983006, .aload 0, .getfield 6111, .ifCond .eq 79, .return_, .aload 0, .getfield 6032, .iload 5, .iload 6, .iadd, .aload 0, .getfield 6160, .iastore, .aload 0, .getfield 6042, .iload 5, .iload 6, .iadd, .aload 0, .getfield 6170, .iastore, .aload 0, .getfield 6160, .ifCond .ne 158, .aload 0, .getfield 6062, .iload 1, .dup2, .iaload, .iconst 1, .isub, .iastore, .iload 6, .istore 7, .iload 7, .aload 0, .getfield 6062, .iload 1, .iaload, .if_icmp .ge 158, .aload 0, .getfield 6032, .iload 5, .iload 7, .iadd, .aload 0, .getfield 6032, .iload 5, .iload 7, .iadd, .iconst 1, .iadd, .iaload, .iastore, .aload 0, .getfield 6042, .iload 5, .iload 7, .iadd, .aload 0, .getfield 6042, .iload 5, .iload 7, .iadd, .iconst 1, .iadd, .iaload, .iastore, .aload 0, .getfield 6052, .iload 5, .iload 7, .iadd, .aload 0, .getfield 6052, .iload 5, .iload 7, .iadd, .iconst 1, .iadd, .iaload, .iastore, .iinc 7 1, .goto 108, .return_, .aload 0, .getfield 6062, .iload 1, .iaload, .iconst 100, .if_icmp .ne 169, .aload 0, .iconst 1, .putfield 6111, .return_, .aload 0, .getfield 6062, .iload 1, .iaload, .istore 7, .iload 7, .iload 6, .if_icmp .le 221, .aload 0, .getfield 6032, .iload 5, .iload 7, .iadd, .aload 0, .getfield 6032, .iload 5, .iload 7, .iadd, .iconst 1, .isub, .iaload, .iastore, .aload 0, .getfield 6042, .iload 5, .iload 7, .iadd, .aload 0, .getfield 6042, .iload 5, .iload 7, .iadd, .iconst 1, .isub, .iaload, .iastore, .aload 0, .getfield 6052, .iload 5, .iload 7, .iadd, .aload 0, .getfield 6052, .iload 5, .iload 7, .iadd, .iconst 1, .isub, .iaload, .iastore, .iinc 7 (-1), .goto 174, .aload 0, .getfield 6032, .iload 5, .iload 6, .iadd, .iload 2, .iastore, .aload 0, .getfield 6042, .iload 5, .iload 6, .iadd, .iload 3, .iastore, .aload 0, .getfield 6052, .iload 5, .iload 6, .iadd, .iload 4, .iastore, .aload 0, .getfield 6062, .iload 1, .dup2, .iaload, .iconst 1, .iadd, .iastore, .return_]
def pX8_comes : List Nat := [0, 1, 4, 7, 8, 10, 11, 12, 14, 15, 17, 19, 20, 23, 24, 25, 28, 29, 30, 33, 35, 37, 38, 39, 41, 44, 47, 50, 53, 55, 56, 59, 60, 61, 64, 65, 68, 70, 72, 73, 74, 76, 79, 80, 81, 84, 86, 88, 89, 90, 91, 92, 93, 94, 95, 96, 97, 100, 102, 104, 105, 106, 107, 108, 109, 110, 113, 115, 117, 118, 119, 120, 121, 122, 123, 126, 127, 130, 133, 134, 135, 138, 140, 142, 143, 144, 147, 148, 149, 152, 154, 156, 157, 158, 161, 162, 163, 166, 169, 170, 173, 174, 175, 176, 177, 178, 179, 181, 183, 185, 186, 189, 190, 191, 194, 195, 198, 200, 202, 203, 204, 207, 209, 211, 212, 213, 214, 215, 216, 217, 220, 222, 224, 225, 226, 229, 231, 233, 234, 235, 236, 237, 238, 239, 242, 244, 246, 247, 248, 251, 253, 255, 256, 257, 258, 259, 260, 263, 266, 267, 268, 271, 272, 273, 275, 278, 279, 280, 283, 284, 285, 288, 289, 290, 292, 294, 296, 299, 300, 303, 305, 307, 308, 309, 312, 314, 316, 317, 318, 319, 320, 321, 322, 325, 327, 329, 330, 331, 334, 336, 338, 339, 340, 341, 342, 343, 344, 347, 349, 351, 352, 353, 356, 358, 360, 361, 362, 363, 364, 365, 368, 371, 372, 375, 377, 379, 380, 381, 382, 383, 386, 388, 390, 391, 392, 393, 394, 397, 399, 401, 402, 404, 405, 406, 409, 410, 411, 412, 413, 414, 415]
abbrev nX8_comes : Nat := 102
def kX8_adds : List Instr := [.iconst 0, .istore 6, .iload 6, .aload 0, .getfield 6062, .iload 5, .iaload, .if_icmp .ge 57, .aload 0, .getfield 6111, .ifCond .ne 57, .iconst 100, .iload 5, .imul, .iload 6, .iadd, .istore 7, .aload 0, .iload 4, .aload 0, .getfield 6052, .iload 7, .iaload, .invokevirtual 973106, .istore 8, .aload 0, .getfield 6111, .ifCond .ne 44, .aload 0, .iload 2, .i2l, .iload 3, .i2l, .aload 0, .getfield 6032, .iload 7, .iaload, .i2l, .aload 0, .getfield 6042, .iload 7, .iaload, .i2l, .invokevirtual 995006, .aload 0, .getfield 6111, .ifCond .ne 55, .aload 0, .iload 1, .aload 0, .getfield 6160, .aload 0, .getfield 6170, .iload 8, .invokevirtual 1025006, .iinc 6 1, .goto 2, .return_]
def pX8_adds : List Nat := [0, 1, 3, 5, 6, 9, 11, 12, 15, 16, 19, 22, 24, 26, 27, 29, 30, 32, 33, 35, 36, 39, 41, 42, 45, 47, 48, 51, 54, 55, 56, 57, 58, 59, 60, 63, 65, 66, 67, 68, 71, 73, 74, 75, 78, 79, 82, 85, 86, 87, 88, 91, 92, 95, 97, 100, 103, 106]
abbrev nX8_adds : Nat := 103
def kX8_made : List Instr := [.aload 0, .getfield 6062, .iload 3, .iconst 0, .iastore, .iconst 0, .istore 4, .iload 4, .aload 0, .getfield 6062, .iload 1, .iaload, .if_icmp .ge 46, .aload 0, .getfield 6111, .ifCond .ne 46, .aload 0, .iload 3, .aload 0, .getfield 6032, .iconst 100, .iload 1, .imul, .iload 4, .iadd, .iaload, .aload 0, .getfield 6042, .iconst 100, .iload 1, .imul, .iload 4, .iadd, .iaload, .aload 0, .getfield 6052, .iconst 100, .iload 1, .imul, .iload 4, .iadd, .iaload, .iload 2, .invokevirtual 1036006, .iinc 4 1, .goto 7, .return_]
def pX8_made : List Nat := [0, 1, 4, 5, 6, 7, 8, 10, 12, 13, 16, 17, 18, 21, 22, 25, 28, 29, 30, 31, 34, 36, 37, 38, 40, 41, 42, 43, 46, 48, 49, 50, 52, 53, 54, 55, 58, 60, 61, 62, 64, 65, 66, 67, 70, 73, 76]
abbrev nX8_made : Nat := 104
def kX8_isSame : List Instr := [.aload 0, .getfield 6062, .iload 1, .iaload, .aload 0, .getfield 6062, .iload 2, .iaload, .if_icmp .eq 11, .iconst 0, .ireturn, .iconst 0, .istore 3, .iload 3, .aload 0, .getfield 6062, .iload 1, .iaload, .if_icmp .ge 74, .aload 0, .getfield 6032, .iconst 100, .iload 1, .imul, .iload 3, .iadd, .iaload, .aload 0, .getfield 6032, .iconst 100, .iload 2, .imul, .iload 3, .iadd, .iaload, .if_icmp .ne 70, .aload 0, .getfield 6042, .iconst 100, .iload 1, .imul, .iload 3, .iadd, .iaload, .aload 0, .getfield 6042, .iconst 100, .iload 2, .imul, .iload 3, .iadd, .iaload, .if_icmp .ne 70, .aload 0, .getfield 6052, .iconst 100, .iload 1, .imul, .iload 3, .iadd, .iaload, .aload 0, .getfield 6052, .iconst 100, .iload 2, .imul, .iload 3, .iadd, .iaload, .if_icmp .eq 72, .iconst 0, .ireturn, .iinc 3 1, .goto 13, .iconst 1, .ireturn]
def pX8_isSame : List Nat := [0, 1, 4, 5, 6, 7, 10, 11, 12, 15, 16, 17, 18, 19, 20, 21, 24, 25, 26, 29, 30, 33, 35, 36, 37, 38, 39, 40, 41, 44, 46, 47, 48, 49, 50, 51, 54, 55, 58, 60, 61, 62, 63, 64, 65, 66, 69, 71, 72, 73, 74, 75, 76, 79, 80, 83, 85, 86, 87, 88, 89, 90, 91, 94, 96, 97, 98, 99, 100, 101, 104, 105, 106, 109, 112, 113]
abbrev nX8_isSame : Nat := 105
def kX8_sorted : List Instr := [.iconst 1, .istore 2, .iload 2, .aload 0, .getfield 6062, .iload 1, .iaload, .if_icmp .ge 109, .iload 2, .istore 3, .iload 3, .ifCond .le 107, .aload 0, .aload 0, .getfield 6052, .iconst 100, .iload 1, .imul, .iload 3, .iadd, .iconst 1, .isub, .iaload, .aload 0, .getfield 6052, .iconst 100, .iload 1, .imul, .iload 3, .iadd, .iaload, .invokevirtual 943106, .ifCond .ge 107, .iconst 100, .iload 1, .imul, .iload 3, .iadd, .istore 4, .aload 0, .getfield 6032, .iload 4, .iaload, .istore 5, .aload 0, .getfield 6042, .iload 4, .iaload, .istore 6, .aload 0, .getfield 6052, .iload 4, .iaload, .istore 7, .aload 0, .getfield 6032, .iload 4, .aload 0, .getfield 6032, .iload 4, .iconst 1, .isub, .iaload, .iastore, .aload 0, .getfield 6042, .iload 4, .aload 0, .getfield 6042, .iload 4, .iconst 1, .isub, .iaload, .iastore, .aload 0, .getfield 6052, .iload 4, .aload 0, .getfield 6052, .iload 4, .iconst 1, .isub, .iaload, .iastore, .aload 0, .getfield 6032, .iload 4, .iconst 1, .isub, .iload 5, .iastore, .aload 0, .getfield 6042, .iload 4, .iconst 1, .isub, .iload 6, .iastore, .aload 0, .getfield 6052, .iload 4, .iconst 1, .isub, .iload 7, .iastore, .iinc 3 (-1), .goto 10, .iinc 2 1, .goto 2, .return_]
def pX8_sorted : List Nat := [0, 1, 2, 3, 4, 7, 8, 9, 12, 13, 14, 15, 18, 19, 20, 23, 25, 26, 27, 28, 29, 30, 31, 32, 33, 36, 38, 39, 40, 41, 42, 43, 46, 49, 51, 52, 53, 54, 55, 57, 58, 61, 63, 64, 66, 67, 70, 72, 73, 75, 76, 79, 81, 82, 84, 85, 88, 90, 91, 94, 96, 97, 98, 99, 100, 101, 104, 106, 107, 110, 112, 113, 114, 115, 116, 117, 120, 122, 123, 126, 128, 129, 130, 131, 132, 133, 136, 138, 139, 140, 142, 143, 144, 147, 149, 150, 151, 153, 154, 155, 158, 160, 161, 162, 164, 165, 168, 171, 174, 177]
abbrev nX8_sorted : Nat := 106
def kX8_order : List Instr := [.iload 1, .ifCond .lt 5, .iload 1, .iconst 2, .if_icmp .le 7, .iconst (-2), .ireturn, .aload 0, .getfield 6020, .istore 2, .aload 0, .iload 1, .putfield 6020, .iconst 0, .istore 3, .iload 3, .iconst 40, .aload 0, .getfield 6070, .iadd, .if_icmp .ge 26, .aload 0, .iload 3, .invokevirtual 1062006, .iinc 3 1, .goto 15, .aload 0, .iconst 0, .putfield 6091, .iload 2, .ireturn]
def pX8_order : List Nat := [0, 1, 4, 5, 6, 9, 11, 12, 13, 16, 17, 18, 19, 22, 23, 24, 25, 27, 28, 31, 32, 35, 36, 37, 40, 43, 46, 47, 48, 51, 52]
abbrev nX8_order : Nat := 107
def kX8_isPlace : List Instr := [.iload 0, .ifCond .lt 7, .iload 0, .iconst 40, .if_icmp .ge 7, .iconst 1, .goto 8, .iconst 0, .ireturn]
def pX8_isPlace : List Nat := [0, 1, 4, 5, 7, 10, 11, 14, 15]
abbrev nX8_isPlace : Nat := 108
def kX8_term : List Instr := [.iload 1, .invokestatic 1081200, .ifCond .ne 5, .iconst (-1), .ireturn, .iload 2, .iconst (-1000000000), .if_icmp .lt 21, .iload 2, .iconst 1000000000, .if_icmp .gt 21, .iload 3, .iconst (-1000000000), .if_icmp .lt 21, .iload 3, .iconst 1000000000, .if_icmp .gt 21, .iload 3, .ifCond .eq 21, .iconst 1, .goto 22, .iconst 0, .istore 5, .iconst 0, .istore 6, .iconst 0, .istore 7, .iload 7, .iconst 4, .if_icmp .ge 65, .iload 4, .iconst 8, .iload 7, .imul, .iushr, .iconst 255, .iand, .istore 8, .iload 5, .ifCond .eq 51, .iload 8, .iload 7, .aload 0, .getfield 6000, .if_icmp .ge 47, .iconst 30, .goto 48, .iconst 0, .if_icmp .gt 51, .iconst 1, .goto 52, .iconst 0, .istore 5, .iload 6, .iload 8, .iconst 31, .iand, .iconst 5, .iload 7, .imul, .ishl, .ior, .istore 6, .iinc 7 1, .goto 27, .iload 5, .ifCond .ne 69, .iconst (-2), .ireturn, .iload 2, .ifCond .ne 76, .aload 0, .getfield 6062, .iload 1, .iaload, .ireturn, .aload 0, .iconst 0, .putfield 6111, .aload 0, .iload 1, .iconst 150, .invokevirtual 1003006, .aload 0, .iload 3, .ifCond .ge 90, .iload 2, .ineg, .i2l, .goto 92, .iload 2, .i2l, .iload 3, .ifCond .ge 98, .iload 3, .ineg, .i2l, .goto 100, .iload 3, .i2l, .invokevirtual 983006, .aload 0, .iconst 150, .aload 0, .getfield 6160, .aload 0, .getfield 6170, .iload 6, .invokevirtual 1025006, .aload 0, .iconst 150, .iload 1, .invokevirtual 1103106, .ireturn]
def pX8_term : List Nat := [0, 1, 4, 7, 8, 9, 10, 12, 15, 16, 18, 21, 22, 24, 27, 28, 30, 33, 34, 37, 38, 41, 42, 44, 45, 47, 48, 50, 52, 53, 56, 58, 60, 62, 63, 64, 67, 68, 70, 72, 75, 77, 79, 80, 83, 86, 88, 91, 92, 95, 96, 99, 100, 102, 104, 106, 108, 109, 110, 112, 113, 114, 115, 117, 120, 123, 125, 128, 130, 131, 132, 135, 136, 139, 140, 141, 142, 143, 144, 147, 148, 149, 152, 155, 156, 157, 160, 161, 162, 163, 166, 167, 168, 169, 172, 173, 174, 175, 178, 179, 180, 183, 184, 187, 188, 191, 192, 195, 197, 200, 201, 204, 205, 208]
abbrev nX8_term : Nat := 109
def kX8_taken : List Instr := [.aload 0, .getfield 6111, .ifCond .eq 5, .iconst (-7), .ireturn, .aload 0, .iload 1, .iload 2, .invokevirtual 1003006, .aload 0, .getfield 6062, .iload 2, .iaload, .ireturn]
def pX8_taken : List Nat := [0, 1, 4, 7, 9, 10, 11, 12, 13, 16, 17, 20, 21, 22]
abbrev nX8_taken : Nat := 110
def kX8_zero : List Instr := [.iload 1, .invokestatic 1081200, .ifCond .ne 5, .iconst (-1), .ireturn, .aload 0, .getfield 6062, .iload 1, .iaload, .istore 2, .aload 0, .getfield 6062, .iload 1, .iconst 0, .iastore, .iload 2, .ireturn]
def pX8_zero : List Nat := [0, 1, 4, 7, 8, 9, 10, 13, 14, 15, 16, 17, 20, 21, 22, 23, 24]
abbrev nX8_zero : Nat := 111
def kX8_size : List Instr := [.iload 1, .invokestatic 1081200, .ifCond .eq 8, .aload 0, .getfield 6062, .iload 1, .iaload, .goto 9, .iconst (-1), .ireturn]
def pX8_size : List Nat := [0, 1, 4, 7, 8, 11, 12, 13, 16, 17]
abbrev nX8_size : Nat := 112
def kX8_told : List Instr := [.iload 1, .invokestatic 1081200, .ifCond .eq 11, .iload 2, .ifCond .lt 11, .iload 2, .aload 0, .getfield 6062, .iload 1, .iaload, .if_icmp .lt 13, .iconst (-1), .ireturn, .iconst 100, .iload 1, .imul, .iload 2, .iadd, .istore 4, .iconst 0, .istore 5, .iconst 0, .istore 6, .iload 6, .iconst 4, .if_icmp .ge 41, .iload 5, .aload 0, .getfield 6052, .iload 4, .iaload, .iload 6, .invokestatic 922100, .iconst 8, .iload 6, .imul, .ishl, .ior, .istore 5, .iinc 6 1, .goto 23, .iload 3, .ifCond .ne 48, .aload 0, .getfield 6032, .iload 4, .iaload, .goto 62, .iload 3, .iconst 1, .if_icmp .ne 56, .aload 0, .getfield 6042, .iload 4, .iaload, .goto 62, .iload 3, .iconst 2, .if_icmp .ne 61, .iload 5, .goto 62, .iconst (-2), .ireturn]
def pX8_told : List Nat := [0, 1, 4, 7, 8, 11, 12, 13, 16, 17, 18, 21, 22, 23, 25, 26, 27, 28, 29, 31, 32, 34, 35, 37, 39, 40, 43, 45, 46, 49, 51, 52, 54, 57, 59, 61, 62, 63, 64, 66, 69, 72, 73, 76, 77, 80, 82, 83, 86, 87, 88, 91, 92, 95, 97, 98, 101, 102, 103, 106, 108, 111, 113]
abbrev nX8_told : Nat := 113
def kX8_plus : List Instr := [.iload 1, .invokestatic 1081200, .ifCond .eq 9, .iload 2, .invokestatic 1081200, .ifCond .eq 9, .iload 3, .invokestatic 1081200, .ifCond .ne 11, .iconst (-1), .ireturn, .aload 0, .iconst 0, .putfield 6111, .aload 0, .iload 1, .iconst 150, .invokevirtual 1003006, .aload 0, .iconst 150, .iconst 1, .iconst 1, .iconst 0, .iload 2, .invokevirtual 1036006, .aload 0, .iconst 150, .iload 3, .invokevirtual 1103106, .ireturn]
def pX8_plus : List Nat := [0, 1, 4, 7, 8, 11, 14, 15, 18, 21, 22, 23, 24, 25, 28, 29, 30, 33, 36, 37, 40, 41, 42, 43, 44, 47, 48, 51, 52, 55]
abbrev nX8_plus : Nat := 114
def kX8_times : List Instr := [.iload 1, .invokestatic 1081200, .ifCond .eq 9, .iload 2, .invokestatic 1081200, .ifCond .eq 9, .iload 3, .invokestatic 1081200, .ifCond .ne 11, .iconst (-1), .ireturn, .aload 0, .iconst 0, .putfield 6111, .aload 0, .iload 1, .iload 2, .iconst 150, .invokevirtual 1044006, .aload 0, .iconst 150, .iload 3, .invokevirtual 1103106, .ireturn]
def pX8_times : List Nat := [0, 1, 4, 7, 8, 11, 14, 15, 18, 21, 22, 23, 24, 25, 28, 29, 30, 31, 34, 37, 38, 41, 42, 45]
abbrev nX8_times : Nat := 115
def kX8_same : List Instr := [.iload 1, .invokestatic 1081200, .ifCond .eq 6, .iload 2, .invokestatic 1081200, .ifCond .ne 8, .iconst (-1), .goto 16, .aload 0, .iload 1, .iload 2, .invokevirtual 1053206, .ifCond .eq 15, .iconst 1, .goto 16, .iconst 0, .ireturn]
def pX8_same : List Nat := [0, 1, 4, 7, 8, 11, 14, 15, 18, 19, 20, 21, 24, 27, 28, 31, 32]
abbrev nX8_same : Nat := 116
def kX8_vanishes : List Instr := [.iload 1, .invokestatic 1081200, .ifCond .ne 5, .iconst (-1), .ireturn, .aload 0, .getfield 6182, .iconst 0, .iload 2, .iastore, .aload 0, .getfield 6182, .iconst 1, .iload 3, .iastore, .aload 0, .getfield 6182, .iconst 2, .iload 4, .iastore, .aload 0, .getfield 6182, .iconst 3, .iload 5, .iastore, .iconst 0, .istore 6, .iload 6, .aload 0, .getfield 6000, .if_icmp .ge 47, .aload 0, .getfield 6182, .iload 6, .iaload, .iconst (-1000), .if_icmp .lt 43, .aload 0, .getfield 6182, .iload 6, .iaload, .iconst 1000, .if_icmp .le 45, .iconst (-2), .ireturn, .iinc 6 1, .goto 27, .aload 0, .iconst 0, .putfield 6111, .iconst 0, .istore 6, .iconst 1, .istore 7, .iconst 0, .istore 8, .iload 8, .aload 0, .getfield 6062, .iload 1, .iaload, .if_icmp .ge 158, .aload 0, .getfield 6032, .iconst 100, .iload 1, .imul, .iload 8, .iadd, .iaload, .istore 9, .aload 0, .getfield 6042, .iconst 100, .iload 1, .imul, .iload 8, .iadd, .iaload, .istore 10, .iconst 0, .istore 11, .iload 11, .aload 0, .getfield 6000, .if_icmp .ge 127, .iconst 0, .istore 12, .iload 12, .aload 0, .getfield 6052, .iconst 100, .iload 1, .imul, .iload 8, .iadd, .iaload, .iload 11, .invokestatic 922100, .if_icmp .ge 125, .aload 0, .iload 9, .i2l, .iload 10, .i2l, .aload 0, .getfield 6182, .iload 11, .iaload, .i2l, .jsr_w 1, .invokevirtual 995006, .aload 0, .getfield 6111, .ifCond .eq 117, .iconst (-7), .ireturn, .aload 0, .getfield 6160, .istore 9, .aload 0, .getfield 6170, .istore 10, .iinc 12 1, .goto 88, .iinc 11 1, .goto 82, .aload 0, .iload 6, .i2l, .iload 10, .i2l, .lmul, .iload 9, .i2l, .iload 7, .i2l, .lmul, .ladd, .iload 7, .i2l, .iload 10, .i2l, .lmul, .invokevirtual 983006, .aload 0, .getfield 6111, .ifCond .eq 150, .iconst (-7), .ireturn, .aload 0, .getfield 6160, .istore 6, .aload 0, .getfield 6170, .istore 7, .iinc 8 1, .goto 56, .iload 6, .ifCond .ne 162, .iconst 1, .goto 163, .iconst 0, .ireturn]
def pX8_vanishes : List Nat := [0, 1, 4, 7, 8, 9, 10, 13, 14, 15, 16, 17, 20, 21, 22, 23, 24, 27, 28, 30, 31, 32, 35, 36, 38, 39, 40, 42, 44, 45, 48, 51, 52, 55, 57, 58, 61, 64, 65, 68, 70, 71, 74, 77, 79, 80, 83, 86, 87, 88, 91, 92, 94, 95, 97, 98, 100, 102, 103, 106, 107, 108, 111, 112, 115, 117, 118, 119, 121, 122, 123, 125, 126, 129, 131, 132, 133, 135, 136, 137, 139, 140, 142, 144, 145, 148, 151, 152, 154, 156, 157, 160, 162, 163, 164, 166, 167, 168, 170, 173, 176, 177, 179, 180, 182, 183, 184, 187, 189, 190, 191, 192, 195, 196, 199, 202, 204, 205, 206, 209, 211, 212, 215, 217, 220, 223, 226, 229, 230, 232, 233, 235, 236, 237, 239, 240, 242, 243, 244, 245, 247, 248, 250, 251, 252, 255, 256, 259, 262, 264, 265, 266, 269, 271, 272, 275, 277, 280, 283, 285, 288, 289, 292, 293]
abbrev nX8_vanishes : Nat := 117
def kX8_divided : List Instr := [.aload 0, .getfield 6062, .iload 2, .iconst 0, .iastore, .iconst 0, .istore 3, .iload 3, .iconst 25, .if_icmp .ge 19, .aload 0, .getfield 6062, .iconst 100, .iload 3, .iadd, .iconst 0, .iastore, .iinc 3 1, .goto 7, .aload 0, .getfield 6062, .iload 1, .iaload, .ifCond .le 225, .aload 0, .getfield 6111, .ifCond .ne 225, .aload 0, .getfield 6130, .aload 0, .getfield 6140, .if_icmp .ne 36, .aload 0, .iconst 1, .putfield 6121, .return_, .aload 0, .dup, .getfield 6130, .iconst 1, .iadd, .putfield 6130, .aload 0, .iload 1, .invokevirtual 1012106, .istore 3, .iconst 0, .istore 4, .iload 4, .aload 0, .getfield 6200, .if_icmp .ge 68, .iload 4, .aload 0, .getfield 6210, .if_icmp .eq 66, .aload 0, .aload 0, .aload 0, .getfield 6190, .iload 4, .iadd, .invokevirtual 1012106, .iload 3, .invokevirtual 953206, .ifCond .ne 68, .iinc 4 1, .goto 48, .iconst 100, .iload 1, .imul, .istore 5, .iload 4, .aload 0, .getfield 6200, .if_icmp .ne 149, .aload 0, .iload 2, .aload 0, .getfield 6032, .iload 5, .iaload, .aload 0, .getfield 6042, .iload 5, .iaload, .iload 3, .invokevirtual 1025006, .aload 0, .getfield 6062, .iload 1, .dup2, .iaload, .iconst 1, .isub, .iastore, .iconst 0, .istore 6, .iload 6, .aload 0, .getfield 6062, .iload 1, .iaload, .if_icmp .ge 148, .aload 0, .getfield 6032, .iload 5, .iload 6, .iadd, .aload 0, .getfield 6032, .iload 5, .iload 6, .iadd, .iconst 1, .iadd, .iaload, .iastore, .aload 0, .getfield 6042, .iload 5, .iload 6, .iadd, .aload 0, .getfield 6042, .iload 5, .iload 6, .iadd, .iconst 1, .iadd, .iaload, .iastore, .aload 0, .getfield 6052, .iload 5, .iload 6, .iadd, .aload 0, .getfield 6052, .iload 5, .iload 6, .iadd, .iconst 1, .iadd, .iaload, .iastore, .iinc 6 1, .goto 98, .goto 224, .aload 0, .getfield 6190, .iload 4, .iadd, .istore 6, .aload 0, .getfield 6032, .iconst 100, .iload 6, .imul, .iaload, .istore 7, .aload 0, .getfield 6042, .iconst 100, .iload 6, .imul, .iaload, .istore 8, .aload 0, .aload 0, .getfield 6032, .iload 5, .iaload, .i2l, .aload 0, .getfield 6042, .iload 5, .iaload, .i2l, .iload 7, .ifCond .ge 185, .iload 8, .ineg, .i2l, .goto 187, .iload 8, .i2l, .iload 7, .ifCond .ge 193, .iload 7, .ineg, .i2l, .goto 195, .iload 7, .i2l, .invokevirtual 995006, .aload 0, .getfield 6160, .istore 9, .aload 0, .getfield 6170, .istore 10, .iload 3, .aload 0, .iload 6, .invokevirtual 1012106, .isub, .istore 11, .aload 0, .iload 1, .iload 9, .ineg, .iload 10, .iload 11, .iload 6, .invokevirtual 1036006, .aload 0, .iconst 100, .iload 4, .iadd, .iload 9, .iload 10, .iload 11, .invokevirtual 1025006, .goto 19, .return_]
def pX8_divided : List Nat := [0, 1, 4, 5, 6, 7, 8, 9, 10, 12, 15, 16, 19, 21, 22, 23, 24, 25, 28, 31, 32, 35, 36, 37, 40, 41, 44, 47, 48, 51, 52, 55, 58, 59, 60, 63, 64, 65, 66, 69, 70, 71, 74, 75, 76, 79, 80, 81, 83, 85, 86, 89, 92, 94, 95, 98, 101, 102, 103, 104, 107, 109, 110, 113, 114, 117, 120, 123, 126, 128, 129, 130, 132, 134, 135, 138, 141, 142, 143, 144, 147, 149, 150, 151, 154, 156, 157, 158, 161, 162, 165, 166, 167, 168, 169, 170, 171, 172, 174, 176, 177, 180, 181, 182, 185, 186, 189, 191, 193, 194, 195, 198, 200, 202, 203, 204, 205, 206, 207, 208, 211, 213, 215, 216, 217, 220, 222, 224, 225, 226, 227, 228, 229, 230, 233, 235, 237, 238, 239, 242, 244, 246, 247, 248, 249, 250, 251, 254, 257, 260, 261, 264, 266, 267, 269, 270, 273, 275, 277, 278, 279, 281, 282, 285, 287, 289, 290, 291, 293, 294, 295, 298, 300, 301, 302, 303, 306, 308, 309, 310, 312, 315, 317, 318, 319, 322, 324, 325, 327, 330, 332, 333, 334, 337, 339, 340, 343, 344, 347, 349, 350, 353, 355, 356, 357, 359, 362, 363, 365, 366, 367, 369, 370, 372, 374, 376, 379, 380, 382, 384, 385, 387, 389, 391, 394, 397]
abbrev nX8_divided : Nat := 118
def kX8_cofactor : List Instr := [.iconst 170, .iconst 8, .iload 1, .imul, .iadd, .iload 2, .iadd, .ireturn]
def pX8_cofactor : List Nat := [0, 3, 5, 6, 7, 8, 9, 10]
abbrev nX8_cofactor : Nat := 119
def kX8_lessShares : List Instr := [.iconst 0, .istore 4, .iload 4, .aload 0, .getfield 6200, .if_icmp .ge 55, .aload 0, .getfield 6111, .ifCond .ne 55, .iconst 0, .istore 5, .iload 5, .aload 0, .getfield 6062, .iconst 100, .iload 4, .iadd, .iaload, .if_icmp .ge 53, .aload 0, .getfield 6111, .ifCond .ne 53, .iconst 100, .iconst 100, .iload 4, .iadd, .imul, .iload 5, .iadd, .istore 6, .aload 0, .iload 1, .iload 3, .aload 0, .getfield 6032, .iload 6, .iaload, .imul, .aload 0, .getfield 6042, .iload 6, .iaload, .aload 0, .getfield 6052, .iload 6, .iaload, .aload 0, .iload 4, .iload 2, .invokevirtual 1193106, .invokevirtual 1036006, .iinc 5 1, .goto 11, .iinc 4 1, .goto 2, .return_]
def pX8_lessShares : List Nat := [0, 1, 3, 5, 6, 9, 12, 13, 16, 19, 20, 22, 24, 25, 28, 30, 32, 33, 34, 37, 38, 41, 44, 46, 48, 50, 51, 52, 54, 55, 57, 58, 59, 60, 61, 64, 66, 67, 68, 69, 72, 74, 75, 76, 79, 81, 82, 83, 85, 86, 89, 92, 95, 98, 101, 104]
abbrev nX8_lessShares : Nat := 120
def kX8_scaled : List Instr := [.iconst 0, .istore 4, .iload 4, .aload 0, .getfield 6062, .iload 1, .iaload, .if_icmp .ge 57, .aload 0, .getfield 6111, .ifCond .ne 57, .aload 0, .aload 0, .getfield 6032, .iconst 100, .iload 1, .imul, .iload 4, .iadd, .iaload, .i2l, .aload 0, .getfield 6042, .iconst 100, .iload 1, .imul, .iload 4, .iadd, .iaload, .i2l, .iload 2, .i2l, .iload 3, .i2l, .invokevirtual 995006, .aload 0, .getfield 6032, .iconst 100, .iload 1, .imul, .iload 4, .iadd, .aload 0, .getfield 6160, .iastore, .aload 0, .getfield 6042, .iconst 100, .iload 1, .imul, .iload 4, .iadd, .aload 0, .getfield 6170, .iastore, .iinc 4 1, .goto 2, .return_]
def pX8_scaled : List Nat := [0, 1, 3, 5, 6, 9, 10, 11, 14, 15, 18, 21, 22, 23, 26, 28, 29, 30, 32, 33, 34, 35, 36, 39, 41, 42, 43, 45, 46, 47, 48, 49, 50, 51, 52, 55, 56, 59, 61, 62, 63, 65, 66, 67, 70, 71, 72, 75, 77, 78, 79, 81, 82, 83, 86, 87, 90, 93]
abbrev nX8_scaled : Nat := 121
def kX8_monic : List Instr := [.aload 0, .getfield 6190, .iload 1, .iadd, .istore 2, .aload 0, .getfield 6032, .iconst 100, .iload 2, .imul, .iaload, .istore 3, .aload 0, .getfield 6042, .iconst 100, .iload 2, .imul, .iaload, .istore 4, .iload 3, .ifCond .ge 24, .iload 4, .ineg, .goto 25, .iload 4, .istore 5, .iload 3, .ifCond .ge 31, .iload 3, .ineg, .goto 32, .iload 3, .istore 6, .aload 0, .iload 2, .iload 5, .iload 6, .invokevirtual 1214006, .iconst 0, .istore 7, .iload 7, .aload 0, .getfield 6070, .if_icmp .ge 60, .aload 0, .getfield 6221, .ifCond .eq 60, .aload 0, .getfield 6111, .ifCond .ne 60, .aload 0, .aload 0, .iload 1, .iload 7, .invokevirtual 1193106, .iload 5, .iload 6, .invokevirtual 1214006, .iinc 7 1, .goto 40, .return_]
def pX8_monic : List Nat := [0, 1, 4, 5, 6, 7, 8, 11, 13, 14, 15, 16, 17, 18, 21, 23, 24, 25, 26, 28, 29, 32, 34, 35, 38, 40, 42, 43, 46, 47, 48, 51, 52, 54, 55, 56, 58, 60, 63, 64, 66, 68, 69, 72, 75, 76, 79, 82, 83, 86, 89, 90, 91, 92, 94, 97, 99, 101, 104, 107, 110]
abbrev nX8_monic : Nat := 122
def kX8_isWaiting : List Instr := [.aload 0, .getfield 6232, .iload 1, .iload 2, .if_icmp .ge 11, .iconst 25, .iload 1, .imul, .iload 2, .iadd, .goto 16, .iconst 25, .iload 2, .imul, .iload 1, .iadd, .baload, .ireturn]
def pX8_isWaiting : List Nat := [0, 1, 4, 5, 6, 9, 11, 12, 13, 14, 15, 18, 20, 21, 22, 23, 24, 25]
abbrev nX8_isWaiting : Nat := 123
def kX8_addPairs : List Instr := [.iconst 0, .istore 2, .iload 2, .iload 1, .if_icmp .ge 16, .aload 0, .getfield 6232, .iconst 25, .iload 2, .imul, .iload 1, .iadd, .iconst 1, .bastore, .iinc 2 1, .goto 2, .return_]
def pX8_addPairs : List Nat := [0, 1, 2, 3, 4, 7, 8, 11, 13, 14, 15, 16, 17, 18, 19, 22, 25]
abbrev nX8_addPairs : Nat := 124
def kX8_isPassed : List Instr := [.aload 0, .aload 0, .getfield 6190, .iload 1, .iadd, .invokevirtual 1012106, .istore 4, .aload 0, .aload 0, .getfield 6190, .iload 2, .iadd, .invokevirtual 1012106, .istore 5, .iconst 1, .istore 6, .iconst 0, .istore 7, .iload 7, .aload 0, .getfield 6010, .if_icmp .ge 38, .iload 6, .ifCond .eq 34, .iload 4, .iload 7, .invokestatic 922100, .ifCond .eq 32, .iload 5, .iload 7, .invokestatic 922100, .ifCond .ne 34, .iconst 1, .goto 35, .iconst 0, .istore 6, .iinc 7 1, .goto 18, .iconst 0, .istore 7, .iload 7, .aload 0, .getfield 6200, .if_icmp .ge 78, .iload 6, .ifCond .ne 78, .iload 7, .iload 1, .if_icmp .eq 74, .iload 7, .iload 2, .if_icmp .eq 74, .aload 0, .aload 0, .aload 0, .getfield 6190, .iload 7, .iadd, .invokevirtual 1012106, .iload 3, .invokevirtual 953206, .ifCond .eq 74, .aload 0, .iload 7, .iload 1, .invokevirtual 1233206, .ifCond .ne 74, .aload 0, .iload 7, .iload 2, .invokevirtual 1233206, .ifCond .ne 74, .iconst 1, .goto 75, .iconst 0, .istore 6, .iinc 7 1, .goto 40, .iload 6, .ireturn]
def pX8_isPassed : List Nat := [0, 1, 2, 5, 6, 7, 10, 12, 13, 14, 17, 18, 19, 22, 24, 25, 27, 28, 30, 32, 33, 36, 39, 41, 44, 46, 48, 51, 54, 56, 58, 61, 64, 65, 68, 69, 71, 74, 77, 78, 80, 82, 83, 86, 89, 91, 94, 96, 97, 100, 102, 103, 106, 107, 108, 109, 112, 114, 115, 118, 119, 122, 125, 126, 128, 129, 132, 135, 136, 138, 139, 142, 145, 146, 149, 150, 152, 155, 158, 160]
abbrev nX8_isPassed : Nat := 125
def kX8_make : List Instr := [.aload 0, .iload 1, .putfield 6190, .aload 0, .iconst 0, .putfield 6200, .aload 0, .iconst (-1), .putfield 6210, .aload 0, .iload 3, .putfield 6221, .aload 0, .iconst 0, .putfield 6240, .aload 0, .iconst 0, .putfield 6250, .iconst 0, .istore 4, .iload 4, .iconst 625, .if_icmp .ge 30, .aload 0, .getfield 6232, .iload 4, .iconst 0, .bastore, .iinc 4 1, .goto 20, .iconst 0, .istore 4, .iload 4, .iload 2, .if_icmp .ge 106, .aload 0, .getfield 6111, .ifCond .ne 106, .aload 0, .getfield 6062, .iconst 40, .iload 4, .iadd, .iaload, .ifCond .ne 46, .goto 104, .aload 0, .iconst 40, .iload 4, .iadd, .iload 1, .aload 0, .getfield 6200, .iadd, .invokevirtual 1003006, .iconst 0, .istore 5, .iload 5, .aload 0, .getfield 6070, .if_icmp .ge 87, .iload 3, .ifCond .eq 87, .aload 0, .getfield 6062, .aload 0, .aload 0, .getfield 6200, .iload 5, .invokevirtual 1193106, .iconst 0, .iastore, .iload 5, .iload 4, .if_icmp .ne 85, .aload 0, .aload 0, .aload 0, .getfield 6200, .iload 5, .invokevirtual 1193106, .iconst 1, .iconst 1, .iconst 0, .invokevirtual 1025006, .iinc 5 1, .goto 57, .aload 0, .aload 0, .getfield 6200, .invokevirtual 1222006, .aload 0, .getfield 6111, .ifCond .ne 104, .aload 0, .aload 0, .getfield 6200, .invokevirtual 1242006, .aload 0, .dup, .getfield 6200, .iconst 1, .iadd, .putfield 6200, .iinc 4 1, .goto 32, .aload 0, .getfield 6111, .ifCond .ne 122, .aload 0, .getfield 6121, .ifCond .ne 122, .aload 0, .invokevirtual 1271206, .ifCond .eq 122, .aload 0, .dup, .getfield 6240, .iconst 0, .iadd, .putfield 6240, .goto 106, .aload 0, .aload 0, .getfield 6200, .putfield 6260, .aload 0, .getfield 6111, .ifCond .ne 134, .aload 0, .getfield 6121, .ifCond .ne 134, .aload 0, .invokevirtual 1281006, .iconst 0, .istore 4, .iload 4, .aload 0, .getfield 6200, .if_icmp .ge 151, .aload 0, .getfield 6111, .ifCond .ne 151, .aload 0, .getfield 6121, .ifCond .ne 151, .aload 0, .iload 4, .invokevirtual 1302006, .iinc 4 1, .goto 136, .return_]
def pX8_make : List Nat := [0, 1, 2, 5, 6, 7, 10, 11, 12, 15, 16, 17, 20, 21, 22, 25, 26, 27, 30, 31, 33, 35, 38, 41, 42, 45, 47, 48, 49, 52, 55, 56, 58, 60, 61, 64, 65, 68, 71, 72, 75, 77, 79, 80, 81, 84, 87, 88, 90, 92, 93, 94, 95, 98, 99, 102, 103, 105, 107, 108, 111, 114, 115, 118, 119, 122, 123, 124, 127, 129, 132, 133, 134, 136, 138, 141, 142, 143, 144, 147, 149, 152, 153, 154, 155, 158, 161, 164, 165, 166, 169, 172, 173, 176, 179, 180, 181, 184, 187, 188, 189, 192, 193, 194, 197, 200, 203, 204, 207, 210, 211, 214, 217, 218, 221, 224, 225, 226, 229, 230, 231, 234, 237, 238, 239, 242, 245, 246, 249, 252, 253, 256, 259, 260, 263, 264, 266, 268, 269, 272, 275, 276, 279, 282, 283, 286, 289, 290, 292, 295, 298, 301]
abbrev nX8_make : Nat := 126
def kX8_onePair : List Instr := [.iconst (-1), .istore 1, .iconst (-1), .istore 2, .iconst 0, .istore 3, .iconst 0, .istore 4, .iload 4, .aload 0, .getfield 6200, .if_icmp .ge 58, .iconst 0, .istore 5, .iload 5, .iload 4, .if_icmp .ge 56, .aload 0, .getfield 6232, .iconst 25, .iload 5, .imul, .iload 4, .iadd, .baload, .ifCond .eq 54, .aload 0, .aload 0, .aload 0, .getfield 6190, .iload 5, .iadd, .invokevirtual 1012106, .aload 0, .aload 0, .getfield 6190, .iload 4, .iadd, .invokevirtual 1012106, .invokevirtual 963106, .istore 6, .iload 1, .ifCond .lt 48, .aload 0, .iload 6, .iload 3, .invokevirtual 943106, .ifCond .ge 54, .iload 5, .istore 1, .iload 4, .istore 2, .iload 6, .istore 3, .iinc 5 1, .goto 14, .iinc 4 1, .goto 8, .iload 1, .ifCond .ge 62, .iconst 0, .ireturn, .aload 0, .getfield 6232, .iconst 25, .iload 1, .imul, .iload 2, .iadd, .iconst 0, .bastore, .aload 0, .dup, .getfield 6240, .iconst 1, .iadd, .putfield 6240, .aload 0, .iload 1, .iload 2, .iload 3, .invokevirtual 1254206, .ifCond .eq 91, .aload 0, .dup, .getfield 6250, .iconst 1, .iadd, .putfield 6250, .iconst 1, .ireturn, .iload 3, .aload 0, .aload 0, .getfield 6190, .iload 1, .iadd, .invokevirtual 1012106, .isub, .istore 4, .iload 3, .aload 0, .aload 0, .getfield 6190, .iload 2, .iadd, .invokevirtual 1012106, .isub, .istore 5, .iconst 151, .istore 6, .aload 0, .getfield 6062, .iload 6, .iconst 0, .iastore, .aload 0, .iload 6, .iconst 1, .iconst 1, .iload 4, .aload 0, .getfield 6190, .iload 1, .iadd, .invokevirtual 1036006, .aload 0, .iload 6, .iconst (-1), .iconst 1, .iload 5, .aload 0, .getfield 6190, .iload 2, .iadd, .invokevirtual 1036006, .iconst 0, .istore 7, .iload 7, .aload 0, .getfield 6070, .if_icmp .ge 181, .aload 0, .getfield 6221, .ifCond .eq 181, .aload 0, .getfield 6111, .ifCond .ne 181, .aload 0, .getfield 6062, .iconst 154, .iload 7, .iadd, .iconst 0, .iastore, .aload 0, .iconst 154, .iload 7, .iadd, .iconst 1, .iconst 1, .iload 4, .aload 0, .iload 1, .iload 7, .invokevirtual 1193106, .invokevirtual 1036006, .aload 0, .iconst 154, .iload 7, .iadd, .iconst (-1), .iconst 1, .iload 5, .aload 0, .iload 2, .iload 7, .invokevirtual 1193106, .invokevirtual 1036006, .iinc 7 1, .goto 138, .aload 0, .getfield 6111, .ifCond .eq 186, .iconst 1, .ireturn, .aload 0, .iload 6, .iconst 152, .invokevirtual 1183006, .aload 0, .getfield 6111, .ifCond .ne 201, .aload 0, .getfield 6121, .ifCond .ne 201, .aload 0, .getfield 6062, .iconst 152, .iaload, .ifCond .ne 203, .iconst 1, .ireturn, .aload 0, .getfield 6200, .iconst 24, .if_icmp .ne 212, .aload 0, .iconst 1, .putfield 6111, .iconst 1, .ireturn, .iconst 0, .istore 7, .iload 7, .aload 0, .getfield 6070, .if_icmp .ge 233, .aload 0, .getfield 6221, .ifCond .eq 233, .aload 0, .getfield 6111, .ifCond .ne 233, .aload 0, .iconst 154, .iload 7, .iadd, .iload 7, .iconst (-1), .invokevirtual 1204006, .iinc 7 1, .goto 214, .aload 0, .getfield 6111, .ifCond .eq 238, .iconst 1, .ireturn, .aload 0, .iconst 152, .aload 0, .getfield 6190, .aload 0, .getfield 6200, .iadd, .invokevirtual 1003006, .iconst 0, .istore 7, .iload 7, .aload 0, .getfield 6070, .if_icmp .ge 267, .aload 0, .getfield 6221, .ifCond .eq 267, .aload 0, .iconst 154, .iload 7, .iadd, .aload 0, .aload 0, .getfield 6200, .iload 7, .invokevirtual 1193106, .invokevirtual 1003006, .iinc 7 1, .goto 248, .aload 0, .aload 0, .getfield 6200, .invokevirtual 1222006, .aload 0, .getfield 6111, .ifCond .eq 276, .iconst 1, .ireturn, .aload 0, .aload 0, .getfield 6200, .invokevirtual 1242006, .aload 0, .dup, .getfield 6200, .iconst 1, .iadd, .putfield 6200, .iconst 1, .ireturn]
def pX8_onePair : List Nat := [0, 1, 2, 3, 4, 5, 6, 7, 9, 11, 12, 15, 18, 19, 21, 23, 25, 28, 29, 32, 34, 36, 37, 39, 40, 41, 44, 45, 46, 47, 50, 52, 53, 56, 57, 58, 61, 63, 64, 67, 70, 72, 73, 76, 77, 79, 80, 83, 86, 88, 89, 91, 92, 94, 95, 98, 101, 104, 107, 108, 111, 112, 113, 114, 117, 119, 120, 121, 122, 123, 124, 125, 126, 127, 130, 131, 132, 135, 136, 137, 138, 139, 142, 145, 146, 147, 150, 151, 152, 155, 156, 157, 158, 159, 160, 163, 164, 165, 168, 169, 171, 172, 173, 174, 177, 178, 179, 182, 183, 185, 188, 190, 191, 194, 196, 197, 198, 199, 201, 202, 203, 205, 206, 209, 210, 211, 214, 215, 217, 218, 219, 221, 222, 225, 226, 227, 230, 231, 233, 235, 236, 239, 242, 243, 246, 249, 250, 253, 256, 257, 260, 263, 265, 266, 267, 268, 269, 272, 274, 275, 276, 277, 279, 280, 281, 283, 286, 289, 290, 293, 295, 296, 297, 298, 300, 301, 302, 304, 307, 310, 313, 316, 317, 320, 323, 324, 325, 326, 328, 331, 334, 335, 338, 341, 342, 345, 348, 349, 352, 355, 356, 359, 360, 361, 362, 365, 367, 370, 371, 372, 375, 376, 377, 378, 380, 382, 383, 386, 389, 390, 393, 396, 397, 400, 403, 404, 407, 409, 410, 412, 413, 416, 419, 422, 423, 426, 429, 430, 431, 432, 435, 436, 439, 440, 443, 444, 447, 448, 450, 452, 453, 456, 459, 460, 463, 466, 467, 470, 472, 473, 474, 475, 478, 480, 483, 486, 489, 492, 493, 494, 497, 500, 501, 504, 507, 508, 509, 510, 511, 514, 517, 518, 519, 522, 523, 524, 527, 528]
abbrev nX8_onePair : Nat := 127
def kX8_clean : List Instr := [.iconst 0, .istore 1, .iload 1, .aload 0, .getfield 6200, .if_icmp .ge 61, .aload 0, .getfield 6272, .iload 1, .iconst 0, .bastore, .iconst 0, .istore 2, .iload 2, .aload 0, .getfield 6200, .if_icmp .ge 59, .aload 0, .aload 0, .getfield 6190, .iload 2, .iadd, .invokevirtual 1012106, .istore 3, .aload 0, .aload 0, .getfield 6190, .iload 1, .iadd, .invokevirtual 1012106, .istore 4, .aload 0, .getfield 6272, .iload 1, .aload 0, .getfield 6272, .iload 1, .baload, .ifCond .ne 53, .iload 2, .iload 1, .if_icmp .eq 55, .aload 0, .iload 3, .iload 4, .invokevirtual 953206, .ifCond .eq 55, .iload 3, .iload 4, .if_icmp .ne 53, .iload 2, .iload 1, .if_icmp .ge 55, .iconst 1, .goto 56, .iconst 0, .bastore, .iinc 2 1, .goto 13, .iinc 1 1, .goto 2, .iconst 0, .istore 1, .iconst 0, .istore 2, .iload 2, .aload 0, .getfield 6200, .if_icmp .ge 81, .aload 0, .getfield 6272, .iload 2, .baload, .ifCond .ne 79, .aload 0, .iload 2, .iload 1, .invokevirtual 1293006, .iinc 1 1, .iinc 2 1, .goto 65, .aload 0, .iload 1, .putfield 6200, .iconst 1, .istore 2, .iload 2, .aload 0, .getfield 6200, .if_icmp .ge 131, .iload 2, .istore 3, .iload 3, .ifCond .le 129, .aload 0, .aload 0, .aload 0, .getfield 6190, .iload 3, .iadd, .iconst 1, .isub, .invokevirtual 1012106, .aload 0, .aload 0, .getfield 6190, .iload 3, .iadd, .invokevirtual 1012106, .invokevirtual 943106, .ifCond .le 129, .aload 0, .iload 3, .iconst 24, .invokevirtual 1293006, .aload 0, .iload 3, .iconst 1, .isub, .iload 3, .invokevirtual 1293006, .aload 0, .iconst 24, .iload 3, .iconst 1, .isub, .invokevirtual 1293006, .iinc 3 (-1), .goto 92, .iinc 2 1, .goto 86, .return_]
def pX8_clean : List Nat := [0, 1, 2, 3, 4, 7, 10, 11, 14, 15, 16, 17, 18, 19, 20, 21, 24, 27, 28, 29, 32, 33, 34, 37, 38, 39, 40, 43, 44, 45, 48, 50, 51, 54, 55, 56, 59, 60, 61, 64, 65, 66, 69, 70, 71, 73, 76, 79, 80, 82, 85, 86, 87, 90, 91, 94, 95, 96, 99, 102, 105, 108, 109, 110, 111, 112, 113, 114, 117, 120, 121, 124, 125, 126, 129, 130, 131, 132, 135, 138, 141, 144, 145, 146, 149, 150, 151, 152, 153, 156, 159, 160, 161, 162, 165, 166, 167, 168, 171, 172, 173, 174, 175, 178, 179, 180, 183, 184, 185, 188, 191, 194, 195, 196, 198, 201, 202, 203, 204, 205, 206, 209, 210, 212, 213, 214, 215, 218, 221, 224, 227, 230]
abbrev nX8_clean : Nat := 128
def kX8_move : List Instr := [.iload 1, .iload 2, .if_icmp .ne 4, .return_, .aload 0, .aload 0, .getfield 6190, .iload 1, .iadd, .aload 0, .getfield 6190, .iload 2, .iadd, .invokevirtual 1003006, .iconst 0, .istore 3, .iload 3, .aload 0, .getfield 6070, .if_icmp .ge 35, .aload 0, .getfield 6221, .ifCond .eq 35, .aload 0, .aload 0, .iload 1, .iload 3, .invokevirtual 1193106, .aload 0, .iload 2, .iload 3, .invokevirtual 1193106, .invokevirtual 1003006, .iinc 3 1, .goto 16, .return_]
def pX8_move : List Nat := [0, 1, 2, 5, 6, 7, 8, 11, 12, 13, 14, 17, 18, 19, 22, 23, 24, 25, 26, 29, 32, 33, 36, 39, 40, 41, 42, 43, 46, 47, 48, 49, 52, 55, 58, 61]
abbrev nX8_move : Nat := 129
def kX8_reduce : List Instr := [.aload 0, .getfield 6190, .iload 1, .iadd, .istore 2, .iconst 151, .istore 3, .aload 0, .getfield 6032, .iconst 100, .iload 2, .imul, .iaload, .istore 4, .aload 0, .getfield 6042, .iconst 100, .iload 2, .imul, .iaload, .istore 5, .aload 0, .iload 2, .invokevirtual 1012106, .istore 6, .aload 0, .iload 2, .iload 3, .invokevirtual 1003006, .aload 0, .iload 3, .iload 4, .ineg, .iload 5, .iload 6, .invokevirtual 1025006, .aload 0, .iload 1, .putfield 6210, .aload 0, .iload 3, .iconst 152, .invokevirtual 1183006, .aload 0, .iconst (-1), .putfield 6210, .aload 0, .getfield 6111, .ifCond .ne 52, .aload 0, .getfield 6121, .ifCond .eq 53, .return_, .aload 0, .iconst 152, .iload 4, .iload 5, .iload 6, .invokevirtual 1025006, .aload 0, .iconst 152, .iload 2, .invokevirtual 1003006, .iconst 0, .istore 7, .iload 7, .aload 0, .getfield 6070, .if_icmp .ge 102, .aload 0, .getfield 6221, .ifCond .eq 102, .aload 0, .getfield 6111, .ifCond .ne 102, .aload 0, .aload 0, .iload 1, .iload 7, .invokevirtual 1193106, .iconst 154, .iload 7, .iadd, .invokevirtual 1003006, .aload 0, .iconst 154, .iload 7, .iadd, .iload 7, .iconst (-1), .invokevirtual 1204006, .aload 0, .iconst 154, .iload 7, .iadd, .aload 0, .iload 1, .iload 7, .invokevirtual 1193106, .invokevirtual 1003006, .iinc 7 1, .goto 65, .return_]
def pX8_reduce : List Nat := [0, 1, 4, 5, 6, 7, 10, 11, 12, 15, 17, 18, 19, 20, 22, 23, 26, 28, 29, 30, 31, 33, 34, 35, 38, 40, 41, 42, 43, 46, 47, 48, 50, 51, 53, 55, 58, 59, 60, 63, 64, 65, 68, 71, 72, 73, 76, 77, 80, 83, 84, 87, 90, 91, 92, 95, 97, 99, 101, 104, 105, 108, 109, 112, 113, 115, 117, 118, 121, 124, 125, 128, 131, 132, 135, 138, 139, 140, 141, 143, 146, 149, 151, 152, 155, 156, 159, 161, 162, 164, 165, 168, 169, 172, 174, 175, 176, 177, 179, 182, 185, 188, 191]
abbrev nX8_reduce : Nat := 130
def kX8_generator : List Instr := [.iload 1, .invokestatic 1081200, .ifCond .ne 5, .iconst (-1), .ireturn, .aload 0, .getfield 6070, .iconst 8, .if_icmp .ne 11, .iconst (-4), .ireturn, .aload 0, .iload 1, .iconst 40, .aload 0, .getfield 6070, .iadd, .invokevirtual 1003006, .aload 0, .dup, .getfield 6070, .iconst 1, .iadd, .putfield 6070, .aload 0, .iconst 0, .putfield 6091, .aload 0, .getfield 6070, .iconst 1, .isub, .ireturn]
def pX8_generator : List Nat := [0, 1, 4, 7, 8, 9, 10, 13, 15, 18, 20, 21, 22, 23, 25, 26, 29, 30, 33, 34, 35, 38, 39, 40, 43, 44, 45, 48, 49, 52, 53, 54]
abbrev nX8_generator : Nat := 131
def kX8_clear : List Instr := [.aload 0, .getfield 6070, .istore 1, .aload 0, .iconst 0, .putfield 6070, .aload 0, .iconst 0, .putfield 6091, .iload 1, .ireturn]
def pX8_clear : List Nat := [0, 1, 4, 5, 6, 7, 10, 11, 12, 15, 16]
abbrev nX8_clear : Nat := 132
def kX8_basis : List Instr := [.iload 1, .ifCond .lt 5, .iload 1, .iconst 20000, .if_icmp .le 7, .iconst (-2), .ireturn, .aload 0, .iconst 0, .putfield 6111, .aload 0, .iconst 0, .putfield 6121, .aload 0, .iconst 0, .putfield 6130, .aload 0, .iload 1, .putfield 6140, .aload 0, .iconst 0, .putfield 6101, .aload 0, .iconst 50, .aload 0, .getfield 6070, .iconst 1, .invokevirtual 1264006, .aload 0, .getfield 6152, .iconst 0, .aload 0, .getfield 6130, .iastore, .aload 0, .getfield 6152, .iconst 1, .aload 0, .getfield 6240, .iastore, .aload 0, .getfield 6152, .iconst 2, .aload 0, .getfield 6250, .iastore, .aload 0, .getfield 6152, .iconst 3, .aload 0, .getfield 6260, .iastore, .aload 0, .aload 0, .getfield 6200, .putfield 6080, .aload 0, .aload 0, .getfield 6111, .ifCond .ne 65, .aload 0, .getfield 6121, .ifCond .ne 65, .iconst 1, .goto 66, .iconst 0, .putfield 6091, .aload 0, .getfield 6121, .ifCond .eq 72, .iconst (-6), .goto 79, .aload 0, .getfield 6111, .ifCond .eq 77, .iconst (-7), .goto 79, .aload 0, .getfield 6080, .ireturn]
def pX8_basis : List Nat := [0, 1, 4, 5, 8, 11, 13, 14, 15, 16, 19, 20, 21, 24, 25, 26, 29, 30, 31, 34, 35, 36, 39, 40, 42, 43, 46, 47, 50, 51, 54, 55, 56, 59, 60, 61, 64, 65, 66, 69, 70, 71, 74, 75, 76, 79, 80, 81, 84, 85, 86, 89, 90, 91, 92, 95, 98, 99, 100, 103, 106, 107, 110, 113, 114, 117, 118, 121, 122, 125, 128, 130, 133, 134, 137, 140, 142, 145, 146, 149]
abbrev nX8_basis : Nat := 133
def kX8_done : List Instr := [.iload 1, .ifCond .lt 5, .iload 1, .iconst 3, .if_icmp .le 7, .iconst (-2), .goto 11, .aload 0, .getfield 6152, .iload 1, .iaload, .ireturn]
def pX8_done : List Nat := [0, 1, 4, 5, 6, 9, 11, 14, 15, 18, 19, 20]
abbrev nX8_done : Nat := 134
def kX8_element : List Instr := [.aload 0, .getfield 6091, .ifCond .ne 5, .iconst (-3), .ireturn, .iload 1, .ifCond .lt 14, .iload 1, .aload 0, .getfield 6080, .if_icmp .ge 14, .iload 2, .invokestatic 1081200, .ifCond .ne 16, .iconst (-1), .ireturn, .aload 0, .iconst 50, .iload 1, .iadd, .iload 2, .invokevirtual 1003006, .aload 0, .getfield 6062, .iload 2, .iaload, .ireturn]
def pX8_element : List Nat := [0, 1, 4, 7, 9, 10, 11, 14, 15, 16, 19, 22, 23, 26, 29, 30, 31, 32, 34, 35, 36, 37, 40, 41, 44, 45, 46]
abbrev nX8_element : Nat := 135
def kX8_share : List Instr := [.aload 0, .getfield 6091, .ifCond .ne 5, .iconst (-3), .ireturn, .iload 1, .ifCond .lt 20, .iload 1, .aload 0, .getfield 6080, .if_icmp .ge 20, .iload 2, .ifCond .lt 20, .iload 2, .aload 0, .getfield 6070, .if_icmp .ge 20, .iload 3, .invokestatic 1081200, .ifCond .ne 22, .iconst (-1), .ireturn, .aload 0, .aload 0, .iload 1, .iload 2, .invokevirtual 1193106, .iload 3, .invokevirtual 1003006, .aload 0, .getfield 6062, .iload 3, .iaload, .ireturn]
def pX8_share : List Nat := [0, 1, 4, 7, 9, 10, 11, 14, 15, 16, 19, 22, 23, 26, 27, 28, 31, 34, 35, 38, 41, 42, 43, 44, 45, 46, 47, 50, 51, 54, 55, 58, 59, 60]
abbrev nX8_share : Nat := 136
def kX8_own : List Instr := [.aload 0, .iconst 50, .putfield 6190, .aload 0, .aload 0, .getfield 6080, .putfield 6200, .aload 0, .iconst (-1), .putfield 6210, .aload 0, .iconst 0, .putfield 6111, .aload 0, .iconst 0, .putfield 6121, .aload 0, .iconst 0, .putfield 6130, .return_]
def pX8_own : List Nat := [0, 1, 3, 6, 7, 8, 11, 14, 15, 16, 19, 20, 21, 24, 25, 26, 29, 30, 31, 34]
abbrev nX8_own : Nat := 137
def kX8_divide : List Instr := [.iload 1, .invokestatic 1081200, .ifCond .eq 6, .iload 2, .invokestatic 1081200, .ifCond .ne 8, .iconst (-1), .ireturn, .aload 0, .getfield 6091, .ifCond .ne 13, .iconst (-3), .ireturn, .aload 0, .invokevirtual 1371006, .aload 0, .iconst 5000, .putfield 6140, .aload 0, .iload 1, .iconst 151, .invokevirtual 1003006, .aload 0, .iconst 151, .iconst 152, .invokevirtual 1183006, .aload 0, .getfield 6121, .ifCond .ne 32, .aload 0, .getfield 6111, .ifCond .eq 39, .aload 0, .getfield 6121, .ifCond .eq 37, .iconst (-6), .goto 38, .iconst (-7), .ireturn, .aload 0, .iconst 152, .iload 2, .invokevirtual 1003006, .aload 0, .aload 0, .getfield 6062, .iload 2, .iaload, .ifCond .ne 51, .iconst 1, .goto 52, .iconst 0, .putfield 6101, .iconst 0, .istore 3, .iload 3, .iconst 25, .if_icmp .ge 68, .aload 0, .iconst 100, .iload 3, .iadd, .iconst 125, .iload 3, .iadd, .invokevirtual 1003006, .iinc 3 1, .goto 55, .aload 0, .getfield 6101, .ifCond .eq 73, .iconst 1, .goto 74, .iconst 0, .ireturn]
def pX8_divide : List Nat := [0, 1, 4, 7, 8, 11, 14, 15, 16, 17, 20, 23, 25, 26, 27, 30, 31, 34, 37, 38, 39, 42, 45, 46, 49, 52, 55, 56, 59, 62, 63, 66, 69, 70, 73, 76, 78, 81, 83, 84, 85, 88, 89, 92, 93, 94, 97, 98, 99, 102, 103, 106, 107, 110, 111, 112, 113, 115, 118, 119, 121, 122, 123, 125, 126, 127, 130, 133, 136, 137, 140, 143, 144, 147, 148]
abbrev nX8_divide : Nat := 138
def kX8_certificate : List Instr := [.aload 0, .getfield 6091, .ifCond .eq 6, .aload 0, .getfield 6101, .ifCond .ne 8, .iconst (-3), .ireturn, .iload 1, .ifCond .lt 17, .iload 1, .aload 0, .getfield 6070, .if_icmp .ge 17, .iload 2, .invokestatic 1081200, .ifCond .ne 19, .iconst (-1), .ireturn, .aload 0, .invokevirtual 1371006, .iconst 0, .istore 3, .iload 3, .iconst 25, .if_icmp .ge 36, .aload 0, .iconst 125, .iload 3, .iadd, .iconst 100, .iload 3, .iadd, .invokevirtual 1003006, .iinc 3 1, .goto 23, .aload 0, .getfield 6062, .iconst 150, .iconst 0, .iastore, .aload 0, .iconst 150, .iload 1, .iconst 1, .invokevirtual 1204006, .aload 0, .iconst 150, .iload 2, .invokevirtual 1103106, .ireturn]
def pX8_certificate : List Nat := [0, 1, 4, 7, 8, 11, 14, 16, 17, 18, 21, 22, 23, 26, 29, 30, 33, 36, 37, 38, 39, 42, 43, 44, 45, 47, 50, 51, 53, 54, 55, 57, 58, 59, 62, 65, 68, 69, 72, 75, 76, 77, 78, 81, 82, 83, 86, 87, 90, 91, 94]
abbrev nX8_certificate : Nat := 139
def kX8_check : List Instr := [.aload 0, .getfield 6091, .ifCond .ne 5, .iconst (-3), .ireturn, .aload 0, .iconst 0, .putfield 6111, .iconst 1, .istore 1, .iconst 0, .istore 2, .iload 2, .aload 0, .getfield 6080, .if_icmp .ge 66, .aload 0, .getfield 6062, .iconst 150, .iconst 0, .iastore, .iconst 0, .istore 3, .iload 3, .aload 0, .getfield 6070, .if_icmp .ge 46, .aload 0, .aload 0, .iload 2, .iload 3, .invokevirtual 1193106, .iconst 40, .iload 3, .iadd, .iconst 151, .invokevirtual 1044006, .aload 0, .iconst 150, .iconst 1, .iconst 1, .iconst 0, .iconst 151, .invokevirtual 1036006, .iinc 3 1, .goto 23, .aload 0, .getfield 6111, .ifCond .eq 51, .iconst (-7), .ireturn, .iload 1, .ifCond .eq 62, .aload 0, .iconst 150, .iconst 50, .iload 2, .iadd, .invokevirtual 1053206, .ifCond .eq 62, .iconst 1, .goto 63, .iconst 0, .istore 1, .iinc 2 1, .goto 12, .iload 1, .ifCond .eq 70, .iconst 1, .goto 71, .iconst 0, .ireturn]
def pX8_check : List Nat := [0, 1, 4, 7, 9, 10, 11, 12, 15, 16, 17, 18, 19, 20, 21, 24, 27, 28, 31, 34, 35, 36, 37, 38, 39, 40, 43, 46, 47, 48, 49, 50, 53, 55, 56, 57, 60, 63, 64, 67, 68, 69, 70, 73, 76, 79, 82, 83, 86, 89, 91, 92, 93, 96, 97, 100, 102, 103, 104, 107, 110, 111, 114, 115, 116, 119, 122, 123, 126, 127, 130, 131]
abbrev nX8_check : Nat := 140
def kX8_radical : List Instr := [.iload 1, .invokestatic 1081200, .ifCond .ne 5, .iconst (-1), .ireturn, .iload 2, .ifCond .lt 10, .iload 2, .iconst 20000, .if_icmp .le 12, .iconst (-2), .ireturn, .aload 0, .getfield 6000, .iconst 4, .if_icmp .ne 18, .iconst (-3), .ireturn, .aload 0, .iconst 0, .putfield 6111, .aload 0, .iconst 0, .putfield 6121, .aload 0, .iconst 0, .putfield 6130, .aload 0, .iload 2, .putfield 6140, .aload 0, .aload 0, .getfield 6000, .iconst 1, .iadd, .putfield 6010, .iconst 40, .aload 0, .getfield 6070, .iadd, .istore 3, .aload 0, .getfield 6062, .iload 3, .iconst 0, .iastore, .aload 0, .iload 3, .iconst 1, .iconst 1, .iconst 0, .invokevirtual 1025006, .aload 0, .iload 3, .iconst (-1), .iconst 1, .iconst 1, .iconst 5, .aload 0, .getfield 6000, .imul, .ishl, .iload 1, .invokevirtual 1036006, .aload 0, .getfield 6111, .ifCond .ne 75, .aload 0, .iconst 75, .aload 0, .getfield 6070, .iconst 1, .iadd, .iconst 0, .invokevirtual 1264006, .aload 0, .getfield 6111, .ifCond .ne 91, .aload 0, .getfield 6121, .ifCond .ne 91, .aload 0, .getfield 6200, .iconst 1, .if_icmp .ne 91, .aload 0, .iconst 75, .invokevirtual 1012106, .ifCond .ne 91, .iconst 1, .goto 92, .iconst 0, .istore 4, .aload 0, .aload 0, .getfield 6000, .putfield 6010, .aload 0, .getfield 6121, .ifCond .eq 102, .iconst (-6), .goto 112, .aload 0, .getfield 6111, .ifCond .eq 107, .iconst (-7), .goto 112, .iload 4, .ifCond .eq 111, .iconst 1, .goto 112, .iconst 0, .ireturn]
def pX8_radical : List Nat := [0, 1, 4, 7, 8, 9, 10, 13, 14, 17, 20, 22, 23, 24, 27, 28, 31, 33, 34, 35, 36, 39, 40, 41, 44, 45, 46, 49, 50, 51, 54, 55, 56, 59, 60, 61, 64, 66, 67, 70, 71, 72, 73, 76, 77, 78, 79, 80, 81, 82, 83, 84, 87, 88, 89, 90, 91, 92, 93, 94, 97, 98, 99, 100, 103, 104, 107, 110, 111, 113, 114, 117, 118, 119, 120, 123, 124, 127, 130, 131, 134, 137, 138, 141, 142, 145, 146, 148, 151, 154, 155, 158, 159, 161, 162, 163, 166, 169, 170, 173, 176, 178, 181, 182, 185, 188, 190, 193, 195, 198, 199, 202, 203]
abbrev nX8_radical : Nat := 141
def kX8_free : List Instr := [.iload 1, .ifCond .lt 6, .iload 1, .aload 0, .getfield 6000, .if_icmp .le 8, .iconst (-2), .ireturn, .aload 0, .getfield 6091, .ifCond .ne 13, .iconst (-3), .ireturn, .iconst 0, .istore 2, .iconst 0, .istore 3, .iload 3, .aload 0, .getfield 6080, .if_icmp .ge 70, .iconst 1, .istore 4, .iconst 0, .istore 5, .iload 5, .aload 0, .getfield 6062, .iconst 50, .iload 3, .iadd, .iaload, .if_icmp .ge 60, .iload 4, .ifCond .eq 56, .aload 0, .getfield 6052, .iconst 100, .iconst 50, .iload 3, .iadd, .imul, .iload 5, .iadd, .iaload, .iconst 1, .iconst 5, .iload 1, .imul, .ishl, .iconst 1, .isub, .iand, .ifCond .ne 56, .iconst 1, .goto 57, .iconst 0, .istore 4, .iinc 5 1, .goto 25, .iload 2, .iload 4, .ifCond .eq 65, .iconst 1, .goto 66, .iconst 0, .iadd, .istore 2, .iinc 3 1, .goto 17, .iload 2, .ireturn]
def pX8_free : List Nat := [0, 1, 4, 5, 6, 9, 12, 14, 15, 16, 19, 22, 24, 25, 26, 27, 28, 29, 30, 31, 34, 37, 38, 40, 41, 43, 45, 46, 49, 51, 52, 53, 54, 57, 59, 62, 63, 66, 68, 70, 71, 72, 73, 75, 76, 77, 78, 79, 80, 81, 82, 83, 84, 85, 88, 89, 92, 93, 95, 98, 101, 102, 104, 107, 108, 111, 112, 113, 114, 117, 120, 121]
abbrev nX8_free : Nat := 142
def kX8_stairs : List Instr := [.aload 0, .getfield 6091, .ifCond .ne 5, .iconst (-3), .ireturn, .iconst 0, .istore 1, .iload 1, .iconst 4, .if_icmp .ge 23, .aload 0, .getfield 6182, .iload 1, .iload 1, .aload 0, .getfield 6000, .if_icmp .ge 19, .iconst (-1), .goto 20, .iconst 1, .iastore, .iinc 1 1, .goto 7, .iconst 0, .istore 1, .iload 1, .aload 0, .getfield 6080, .if_icmp .ge 65, .aload 0, .iconst 50, .iload 1, .iadd, .invokevirtual 1012106, .istore 2, .iload 2, .ifCond .ne 39, .iconst 0, .ireturn, .iconst 0, .istore 3, .iload 3, .aload 0, .getfield 6000, .if_icmp .ge 63, .iload 2, .iload 2, .iload 3, .invokestatic 922100, .iconst 5, .iload 3, .imul, .ishl, .if_icmp .ne 61, .aload 0, .getfield 6182, .iload 3, .iload 2, .iload 3, .invokestatic 922100, .iastore, .iinc 3 1, .goto 41, .iinc 1 1, .goto 25, .aload 0, .getfield 6182, .iconst 0, .iaload, .ifCond .lt 85, .aload 0, .getfield 6182, .iconst 1, .iaload, .ifCond .lt 85, .aload 0, .getfield 6182, .iconst 2, .iaload, .ifCond .lt 85, .aload 0, .getfield 6182, .iconst 3, .iaload, .ifCond .ge 87, .iconst (-8), .ireturn, .iconst 0, .istore 1, .iconst 0, .istore 2, .iload 2, .aload 0, .getfield 6182, .iconst 0, .iaload, .if_icmp .ge 151, .iconst 0, .istore 3, .iload 3, .aload 0, .getfield 6182, .iconst 1, .iaload, .if_icmp .ge 149, .iconst 0, .istore 4, .iload 4, .aload 0, .getfield 6182, .iconst 2, .iaload, .if_icmp .ge 147, .iconst 0, .istore 5, .iload 5, .aload 0, .getfield 6182, .iconst 3, .iaload, .if_icmp .ge 145, .iload 1, .aload 0, .iload 2, .iload 3, .iconst 5, .ishl, .ior, .iload 4, .iconst 10, .ishl, .ior, .iload 5, .iconst 15, .ishl, .ior, .invokevirtual 1442206, .ifCond .eq 140, .iconst 1, .goto 141, .iconst 0, .iadd, .istore 1, .iinc 5 1, .goto 115, .iinc 4 1, .goto 107, .iinc 3 1, .goto 99, .iinc 2 1, .goto 91, .iload 1, .ireturn]
def pX8_stairs : List Nat := [0, 1, 4, 7, 9, 10, 11, 12, 13, 14, 17, 18, 21, 22, 23, 24, 27, 30, 31, 34, 35, 36, 39, 42, 43, 44, 45, 46, 49, 52, 53, 55, 56, 57, 60, 61, 62, 65, 66, 67, 68, 69, 70, 71, 74, 77, 78, 79, 80, 83, 84, 85, 86, 87, 90, 91, 94, 95, 96, 97, 100, 101, 104, 107, 110, 113, 114, 117, 118, 119, 122, 123, 126, 127, 128, 131, 132, 135, 136, 137, 140, 141, 144, 145, 146, 149, 151, 152, 153, 154, 155, 156, 157, 158, 161, 162, 163, 166, 167, 168, 169, 170, 173, 174, 175, 178, 179, 181, 183, 184, 187, 188, 189, 192, 193, 195, 197, 198, 201, 202, 203, 206, 207, 208, 209, 210, 211, 212, 213, 215, 217, 218, 219, 221, 223, 224, 225, 228, 231, 232, 235, 236, 237, 238, 241, 244, 247, 250, 253, 256, 259, 262, 263]
abbrev nX8_stairs : Nat := 143
def kX8_isStair : List Instr := [.iconst 0, .istore 2, .iload 2, .aload 0, .getfield 6080, .if_icmp .ge 19, .aload 0, .aload 0, .iconst 50, .iload 2, .iadd, .invokevirtual 1012106, .iload 1, .invokevirtual 953206, .ifCond .eq 17, .iconst 0, .ireturn, .iinc 2 1, .goto 2, .iconst 1, .ireturn]
def pX8_isStair : List Nat := [0, 1, 2, 3, 4, 7, 10, 11, 12, 14, 15, 16, 19, 20, 23, 26, 27, 28, 31, 34, 35]
abbrev nX8_isStair : Nat := 144
def kL_cell : List Instr := [.iload 1, .aload 0, .arraylength, .if_icmp .ge 8, .aload 0, .iload 1, .saload, .goto 9, .iconst 0, .ireturn]
def pL_cell : List Nat := [0, 1, 2, 3, 6, 7, 8, 9, 12, 13]
abbrev nL_cell : Nat := 145
def kL_law : List Instr := [.new 514, .dup, .aload 0, .iconst 0, .invokestatic 1452100, .invokespecial 582005, .astore 1, .new 628, .dup, .aload 0, .iconst 0, .invokestatic 1452100, .invokespecial 902006, .astore 2, .iconst 1, .istore 3, .iload 3, .aload 0, .arraylength, .iconst 6, .isub, .if_icmp .gt 564, .aload 0, .iload 3, .saload, .iconst 31, .iand, .tableswitch 562 0 21 #[28, 35, 52, 99, 116, 133, 170, 207, 244, 271, 328, 345, 352, 369, 386, 413, 450, 477, 504, 511, 538, 555], .aload 1, .invokevirtual 591105, .aload 2, .invokevirtual 911106, .if_icmp .eq 562, .iconst 0, .ireturn, .aload 1, .aload 0, .iload 3, .iconst 1, .iadd, .saload, .invokevirtual 602105, .aload 2, .aload 0, .iload 3, .iconst 1, .iadd, .saload, .invokevirtual 1072106, .if_icmp .eq 562, .iconst 0, .ireturn, .aload 1, .aload 0, .iload 3, .iconst 1, .iadd, .saload, .aload 0, .iload 3, .iconst 2, .iadd, .saload, .aload 0, .iload 3, .iconst 3, .iadd, .saload, .aload 0, .iload 3, .iconst 4, .iadd, .saload, .invokevirtual 615105, .aload 2, .aload 0, .iload 3, .iconst 1, .iadd, .saload, .aload 0, .iload 3, .iconst 2, .iadd, .saload, .aload 0, .iload 3, .iconst 3, .iadd, .saload, .aload 0, .iload 3, .iconst 4, .iadd, .saload, .invokevirtual 1095106, .if_icmp .eq 562, .iconst 0, .ireturn, .aload 1, .aload 0, .iload 3, .iconst 1, .iadd, .saload, .invokevirtual 622105, .aload 2, .aload 0, .iload 3, .iconst 1, .iadd, .saload, .invokevirtual 1112106, .if_icmp .eq 562, .iconst 0, .ireturn, .aload 1, .aload 0, .iload 3, .iconst 1, .iadd, .saload, .invokevirtual 632105, .aload 2, .aload 0, .iload 3, .iconst 1, .iadd, .saload, .invokevirtual 1122106, .if_icmp .eq 562, .iconst 0, .ireturn, .aload 1, .aload 0, .iload 3, .iconst 1, .iadd, .saload, .aload 0, .iload 3, .iconst 2, .iadd, .saload, .aload 0, .iload 3, .iconst 3, .iadd, .saload, .invokevirtual 644105, .aload 2, .aload 0, .iload 3, .iconst 1, .iadd, .saload, .aload 0, .iload 3, .iconst 2, .iadd, .saload, .aload 0, .iload 3, .iconst 3, .iadd, .saload, .invokevirtual 1134106, .if_icmp .eq 562, .iconst 0, .ireturn, .aload 1, .aload 0, .iload 3, .iconst 1, .iadd, .saload, .aload 0, .iload 3, .iconst 2, .iadd, .saload, .aload 0, .iload 3, .iconst 3, .iadd, .saload, .invokevirtual 654105, .aload 2, .aload 0, .iload 3, .iconst 1, .iadd, .saload, .aload 0, .iload 3, .iconst 2, .iadd, .saload, .aload 0, .iload 3, .iconst 3, .iadd, .saload, .invokevirtual 1144106, .if_icmp .eq 562, .iconst 0, .ireturn, .aload 1, .aload 0, .iload 3, .iconst 1, .iadd, .saload, .aload 0, .iload 3, .iconst 2, .iadd, .saload, .aload 0, .iload 3, .iconst 3, .iadd, .saload, .invokevirtual 664105, .aload 2, .aload 0, .iload 3, .iconst 1, .iadd, .saload, .aload 0, .iload 3, .iconst 2, .iadd, .saload, .aload 0, .iload 3, .iconst 3, .iadd, .saload, .invokevirtual 1154106, .if_icmp .eq 562, .iconst 0, .ireturn, .aload 1, .aload 0, .iload 3, .iconst 1, .iadd, .saload, .aload 0, .iload 3, .iconst 2, .iadd, .saload, .invokevirtual 673105, .aload 2, .aload 0, .iload 3, .iconst 1, .iadd, .saload, .aload 0, .iload 3, .iconst 2, .iadd, .saload, .invokevirtual 1163106, .if_icmp .eq 562, .iconst 0, .ireturn, .aload 1, .aload 0, .iload 3, .iconst 1, .iadd, .saload, .aload 0, .iload 3, .iconst 2, .iadd, .saload, .aload 0, .iload 3, .iconst 3, .iadd, .saload, .aload 0, .iload 3, .iconst 4, .iadd, .saload, .aload 0, .iload 3, .iconst 5, .iadd, .saload, .invokevirtual 686105, .aload 2, .aload 0, .iload 3, .iconst 1, .iadd, .saload, .aload 0, .iload 3, .iconst 2, .iadd, .saload, .aload 0, .iload 3, .iconst 3, .iadd, .saload, .aload 0, .iload 3, .iconst 4, .iadd, .saload, .aload 0, .iload 3, .iconst 5, .iadd, .saload, .invokevirtual 1176106, .if_icmp .eq 562, .iconst 0, .ireturn, .aload 1, .aload 0, .iload 3, .iconst 1, .iadd, .saload, .invokevirtual 692105, .aload 2, .aload 0, .iload 3, .iconst 1, .iadd, .saload, .invokevirtual 1312106, .if_icmp .eq 562, .iconst 0, .ireturn, .aload 1, .invokevirtual 701105, .aload 2, .invokevirtual 1321106, .if_icmp .eq 562, .iconst 0, .ireturn, .aload 1, .aload 0, .iload 3, .iconst 1, .iadd, .saload, .invokevirtual 712105, .aload 2, .aload 0, .iload 3, .iconst 1, .iadd, .saload, .invokevirtual 1332106, .if_icmp .eq 562, .iconst 0, .ireturn, .aload 1, .aload 0, .iload 3, .iconst 1, .iadd, .saload, .invokevirtual 722105, .aload 2, .aload 0, .iload 3, .iconst 1, .iadd, .saload, .invokevirtual 1342106, .if_icmp .eq 562, .iconst 0, .ireturn, .aload 1, .aload 0, .iload 3, .iconst 1, .iadd, .saload, .aload 0, .iload 3, .iconst 2, .iadd, .saload, .invokevirtual 733105, .aload 2, .aload 0, .iload 3, .iconst 1, .iadd, .saload, .aload 0, .iload 3, .iconst 2, .iadd, .saload, .invokevirtual 1353106, .if_icmp .eq 562, .iconst 0, .ireturn, .aload 1, .aload 0, .iload 3, .iconst 1, .iadd, .saload, .aload 0, .iload 3, .iconst 2, .iadd, .saload, .aload 0, .iload 3, .iconst 3, .iadd, .saload, .invokevirtual 744105, .aload 2, .aload 0, .iload 3, .iconst 1, .iadd, .saload, .aload 0, .iload 3, .iconst 2, .iadd, .saload, .aload 0, .iload 3, .iconst 3, .iadd, .saload, .invokevirtual 1364106, .if_icmp .eq 562, .iconst 0, .ireturn, .aload 1, .aload 0, .iload 3, .iconst 1, .iadd, .saload, .aload 0, .iload 3, .iconst 2, .iadd, .saload, .invokevirtual 753105, .aload 2, .aload 0, .iload 3, .iconst 1, .iadd, .saload, .aload 0, .iload 3, .iconst 2, .iadd, .saload, .invokevirtual 1383106, .if_icmp .eq 562, .iconst 0, .ireturn, .aload 1, .aload 0, .iload 3, .iconst 1, .iadd, .saload, .aload 0, .iload 3, .iconst 2, .iadd, .saload, .invokevirtual 763105, .aload 2, .aload 0, .iload 3, .iconst 1, .iadd, .saload, .aload 0, .iload 3, .iconst 2, .iadd, .saload, .invokevirtual 1393106, .if_icmp .eq 562, .iconst 0, .ireturn, .aload 1, .invokevirtual 771105, .aload 2, .invokevirtual 1401106, .if_icmp .eq 562, .iconst 0, .ireturn, .aload 1, .aload 0, .iload 3, .iconst 1, .iadd, .saload, .aload 0, .iload 3, .iconst 2, .iadd, .saload, .invokevirtual 783105, .aload 2, .aload 0, .iload 3, .iconst 1, .iadd, .saload, .aload 0, .iload 3, .iconst 2, .iadd, .saload, .invokevirtual 1413106, .if_icmp .eq 562, .iconst 0, .ireturn, .aload 1, .aload 0, .iload 3, .iconst 1, .iadd, .saload, .invokevirtual 792105, .aload 2, .aload 0, .iload 3, .iconst 1, .iadd, .saload, .invokevirtual 1422106, .if_icmp .eq 562, .iconst 0, .ireturn, .aload 1, .invokevirtual 801105, .aload 2, .invokevirtual 1431106, .if_icmp .eq 562, .iconst 0, .ireturn, .iinc 3 6, .goto 16, .iconst 1, .ireturn]
def pL_law : List Nat := [0, 3, 4, 5, 6, 9, 12, 13, 16, 17, 18, 19, 22, 25, 26, 27, 28, 29, 30, 31, 33, 34, 37, 38, 39, 40, 42, 43, 144, 145, 148, 149, 152, 155, 156, 157, 158, 159, 160, 161, 162, 163, 166, 167, 168, 169, 170, 171, 172, 175, 178, 179, 180, 181, 182, 183, 184, 185, 186, 187, 188, 189, 190, 191, 192, 193, 194, 195, 196, 197, 198, 199, 200, 201, 204, 205, 206, 207, 208, 209, 210, 211, 212, 213, 214, 215, 216, 217, 218, 219, 220, 221, 222, 223, 224, 225, 228, 231, 232, 233, 234, 235, 236, 237, 238, 239, 242, 243, 244, 245, 246, 247, 248, 251, 254, 255, 256, 257, 258, 259, 260, 261, 262, 265, 266, 267, 268, 269, 270, 271, 274, 277, 278, 279, 280, 281, 282, 283, 284, 285, 286, 287, 288, 289, 290, 291, 292, 293, 294, 295, 298, 299, 300, 301, 302, 303, 304, 305, 306, 307, 308, 309, 310, 311, 312, 313, 314, 317, 320, 321, 322, 323, 324, 325, 326, 327, 328, 329, 330, 331, 332, 333, 334, 335, 336, 337, 338, 341, 342, 343, 344, 345, 346, 347, 348, 349, 350, 351, 352, 353, 354, 355, 356, 357, 360, 363, 364, 365, 366, 367, 368, 369, 370, 371, 372, 373, 374, 375, 376, 377, 378, 379, 380, 381, 384, 385, 386, 387, 388, 389, 390, 391, 392, 393, 394, 395, 396, 397, 398, 399, 400, 403, 406, 407, 408, 409, 410, 411, 412, 413, 414, 415, 416, 417, 418, 419, 422, 423, 424, 425, 426, 427, 428, 429, 430, 431, 432, 433, 436, 439, 440, 441, 442, 443, 444, 445, 446, 447, 448, 449, 450, 451, 452, 453, 454, 455, 456, 457, 458, 459, 460, 461, 462, 463, 464, 465, 466, 467, 470, 471, 472, 473, 474, 475, 476, 477, 478, 479, 480, 481, 482, 483, 484, 485, 486, 487, 488, 489, 490, 491, 492, 493, 494, 495, 496, 499, 502, 503, 504, 505, 506, 507, 508, 509, 510, 513, 514, 515, 516, 517, 518, 519, 522, 525, 526, 527, 528, 531, 532, 535, 538, 539, 540, 541, 542, 543, 544, 545, 546, 549, 550, 551, 552, 553, 554, 555, 558, 561, 562, 563, 564, 565, 566, 567, 568, 569, 572, 573, 574, 575, 576, 577, 578, 581, 584, 585, 586, 587, 588, 589, 590, 591, 592, 593, 594, 595, 596, 597, 600, 601, 602, 603, 604, 605, 606, 607, 608, 609, 610, 611, 614, 617, 618, 619, 620, 621, 622, 623, 624, 625, 626, 627, 628, 629, 630, 631, 632, 633, 634, 635, 638, 639, 640, 641, 642, 643, 644, 645, 646, 647, 648, 649, 650, 651, 652, 653, 654, 657, 660, 661, 662, 663, 664, 665, 666, 667, 668, 669, 670, 671, 672, 673, 676, 677, 678, 679, 680, 681, 682, 683, 684, 685, 686, 687, 690, 693, 694, 695, 696, 697, 698, 699, 700, 701, 702, 703, 704, 705, 706, 709, 710, 711, 712, 713, 714, 715, 716, 717, 718, 719, 720, 723, 726, 727, 728, 729, 732, 733, 736, 739, 740, 741, 742, 743, 744, 745, 746, 747, 748, 749, 750, 751, 752, 755, 756, 757, 758, 759, 760, 761, 762, 763, 764, 765, 766, 769, 772, 773, 774, 775, 776, 777, 778, 779, 780, 783, 784, 785, 786, 787, 788, 789, 792, 795, 796, 797, 798, 801, 802, 805, 808, 809, 810, 813, 816, 817]
abbrev nL_law : Nat := 146
def gMeL : List zMi := [(yX0_init, cX0_init, 2, none), (yX0_allow, cX0_allow, 2, none), (yX0_makeReady, cX0_makeReady, 3, none), (yX0_run, cX0_run, 9, (some .int)), (yX0_firstDivisor, cX0_firstDivisor, 5, (some .int)), (yX1_init, cX1_init, 3, none), (yX1_leading, cX1_leading, 1, (some .int)), (yX1_makeMonic, cX1_makeMonic, 5, (some .boolean)), (yX2_over, cX2_over, 2, (some .int)), (yX2_under, cX2_under, 2, (some .int)), (yX2_lowest, cX2_lowest, 12, (some .long)), (yX2_sum, cX2_sum, 6, (some .long)), (yX2_product, cX2_product, 4, (some .long)), (yX2_negative, cX2_negative, 2, (some .long)), (yX2_inverse, cX2_inverse, 6, (some .long)), (yX3_init, cX3_init, 4, none), (yX3_build, cX3_build, 8, (some .int)), (yX3_begin, cX3_begin, 2, none), (yX3_adopt, cX3_adopt, 6, (some .int)), (yX3_add, cX3_add, 3, none), (yX3_choosePair, cX3_choosePair, 5, (some .boolean)), (yX3_settlePair, cX3_settlePair, 5, (some .int)), (yX3_isNeedless, cX3_isNeedless, 3, (some .boolean)), (yX3_isWaiting, cX3_isWaiting, 4, (some .boolean)), (yX3_crossOut, cX3_crossOut, 9, (some .boolean)), (yX3_takeQuotients, cX3_takeQuotients, 10, (some .boolean)), (yX3_dropNeedless, cX3_dropNeedless, 4, none), (yX3_isCovered, cX3_isCovered, 6, (some .boolean)), (yX3_sortElements, cX3_sortElements, 5, none), (yX3_reduceElement, cX3_reduceElement, 6, (some .int)), (yX3_isWhole, cX3_isWhole, 1, (some .boolean)), (yX3_countBelow, cX3_countBelow, 10, (some .int)), (yX3_wall, cX3_wall, 7, (some .int)), (yX3_height, cX3_height, 6, (some .int)), (yX4_exponent, cX4_exponent, 2, (some .int)), (yX4_single, cX4_single, 1, (some .int)), (yX4_isInside, cX4_isInside, 1, (some .boolean)), (yX4_divides, cX4_divides, 2, (some .boolean)), (yX4_leastCommon, cX4_leastCommon, 5, (some .int)), (yX4_haveVariableInCommon, cX4_haveVariableInCommon, 3, (some .boolean)), (yX5_init, cX5_init, 1, none), (yX5_rank, cX5_rank, 7, (some .int)), (yX6_init, cX6_init, 2, none), (yX6_empty, cX6_empty, 1, none), (yX6_become, cX6_become, 2, none), (yX6_isLike, cX6_isLike, 3, (some .boolean)), (yX6_isWithout, cX6_isWithout, 4, (some .boolean)), (yX6_come, cX6_come, 8, (some .boolean)), (yX6_find, cX6_find, 6, (some .int)), (yX6_shift, cX6_shift, 3, none), (yX6_behead, cX6_behead, 1, none), (yX6_addMultiple, cX6_addMultiple, 9, (some .boolean)), (yX6_addProduct, cX6_addProduct, 4, (some .boolean)), (yX6_becomeProduct, cX6_becomeProduct, 3, (some .boolean)), (yX6_multiply, cX6_multiply, 6, (some .boolean)), (yX6_arrange, cX6_arrange, 7, none), (yX6_valueAt, cX6_valueAt, 8, (some .long)), (yX6_termAt, cX6_termAt, 11, (some .long)), (yX7_init, cX7_init, 2, none), (yX7_variables, cX7_variables, 1, (some .int)), (yX7_order, cX7_order, 4, (some .int)), (yX7_term, cX7_term, 8, (some .int)), (yX7_zero, cX7_zero, 3, (some .int)), (yX7_size, cX7_size, 2, (some .int)), (yX7_told, cX7_told, 4, (some .int)), (yX7_plus, cX7_plus, 4, (some .int)), (yX7_times, cX7_times, 4, (some .int)), (yX7_same, cX7_same, 3, (some .int)), (yX7_vanishes, cX7_vanishes, 8, (some .int)), (yX7_generator, cX7_generator, 2, (some .int)), (yX7_clear, cX7_clear, 2, (some .int)), (yX7_basis, cX7_basis, 3, (some .int)), (yX7_done, cX7_done, 2, (some .int)), (yX7_element, cX7_element, 3, (some .int)), (yX7_share, cX7_share, 4, (some .int)), (yX7_divide, cX7_divide, 5, (some .int)), (yX7_certificate, cX7_certificate, 4, (some .int)), (yX7_check, cX7_check, 4, (some .int)), (yX7_radical, cX7_radical, 5, (some .int)), (yX7_free, cX7_free, 4, (some .int)), (yX7_stairs, cX7_stairs, 1, (some .int)), (yX7_row, cX7_row, 4, (some (.array (.object "IdealProver$Polynomial")))), (yX7_isPlace, cX7_isPlace, 1, (some .boolean)), (yX7_isLarge, cX7_isLarge, 2, (some .boolean)), (yX7_isTold, cX7_isTold, 3, (some .boolean)), (yX7_isElement, cX7_isElement, 2, (some .boolean)), (yX7_isGenerator, cX7_isGenerator, 2, (some .boolean)), (yX7_put, cX7_put, 3, (some .int)), (yX7_forgetBasis, cX7_forgetBasis, 1, none), (yX7_sumUp, cX7_sumUp, 3, (some .boolean)), (yX8_init, cX8_init, 2, none), (yX8_variables, cX8_variables, 1, (some .int)), (yX8_exponent, cX8_exponent, 2, (some .int)), (yX8_sum, cX8_sum, 4, (some .int)), (yX8_compare, cX8_compare, 4, (some .int)), (yX8_divides, cX8_divides, 4, (some .boolean)), (yX8_common, cX8_common, 7, (some .int)), (yX8_product, cX8_product, 4, (some .int)), (yX8_lowest, cX8_lowest, 13, none), (yX8_multiplied, cX8_multiplied, 9, none), (yX8_copy, cX8_copy, 4, none), (yX8_lead, cX8_lead, 2, (some .int)), (yX8_comes, cX8_comes, 8, none), (yX8_adds, cX8_adds, 9, none), (yX8_made, cX8_made, 5, none), (yX8_isSame, cX8_isSame, 4, (some .boolean)), (yX8_sorted, cX8_sorted, 8, none), (yX8_order, cX8_order, 4, (some .int)), (yX8_isPlace, cX8_isPlace, 1, (some .boolean)), (yX8_term, cX8_term, 9, (some .int)), (yX8_taken, cX8_taken, 3, (some .int)), (yX8_zero, cX8_zero, 3, (some .int)), (yX8_size, cX8_size, 2, (some .int)), (yX8_told, cX8_told, 7, (some .int)), (yX8_plus, cX8_plus, 4, (some .int)), (yX8_times, cX8_times, 4, (some .int)), (yX8_same, cX8_same, 3, (some .int)), (yX8_vanishes, cX8_vanishes, 13, (some .int)), (yX8_divided, cX8_divided, 12, none), (yX8_cofactor, cX8_cofactor, 3, (some .int)), (yX8_lessShares, cX8_lessShares, 7, none), (yX8_scaled, cX8_scaled, 5, none), (yX8_monic, cX8_monic, 8, none), (yX8_isWaiting, cX8_isWaiting, 3, (some .boolean)), (yX8_addPairs, cX8_addPairs, 3, none), (yX8_isPassed, cX8_isPassed, 8, (some .boolean)), (yX8_make, cX8_make, 6, none), (yX8_onePair, cX8_onePair, 8, (some .boolean)), (yX8_clean, cX8_clean, 5, none), (yX8_move, cX8_move, 4, none), (yX8_reduce, cX8_reduce, 8, none), (yX8_generator, cX8_generator, 2, (some .int)), (yX8_clear, cX8_clear, 2, (some .int)), (yX8_basis, cX8_basis, 2, (some .int)), (yX8_done, cX8_done, 2, (some .int)), (yX8_element, cX8_element, 3, (some .int)), (yX8_share, cX8_share, 4, (some .int)), (yX8_own, cX8_own, 1, none), (yX8_divide, cX8_divide, 4, (some .int)), (yX8_certificate, cX8_certificate, 4, (some .int)), (yX8_check, cX8_check, 4, (some .int)), (yX8_radical, cX8_radical, 5, (some .int)), (yX8_free, cX8_free, 6, (some .int)), (yX8_stairs, cX8_stairs, 6, (some .int)), (yX8_isStair, cX8_isStair, 3, (some .boolean)), (yL_cell, cL_cell, 2, (some .int)), (yL_law, cL_law, 4, (some .boolean))]
def gTbL : List zMe := [(kX0_init, 0, 2), (kX0_allow, 0, 2), (kX0_makeReady, 0, 3), (kX0_run, 1, 9), (kX0_firstDivisor, 1, 5), (kX1_init, 0, 3), (kX1_leading, 1, 1), (kX1_makeMonic, 2, 5), (kX2_over, 1, 2), (kX2_under, 1, 2), (kX2_lowest, 3, 12), (kX2_sum, 3, 6), (kX2_product, 3, 4), (kX2_negative, 3, 2), (kX2_inverse, 3, 6), (kX3_init, 0, 4), (kX3_build, 1, 8), (kX3_begin, 0, 2), (kX3_adopt, 1, 6), (kX3_add, 0, 3), (kX3_choosePair, 2, 5), (kX3_settlePair, 1, 5), (kX3_isNeedless, 2, 3), (kX3_isWaiting, 2, 4), (kX3_crossOut, 2, 9), (kX3_takeQuotients, 2, 10), (kX3_dropNeedless, 0, 4), (kX3_isCovered, 2, 6), (kX3_sortElements, 0, 5), (kX3_reduceElement, 1, 6), (kX3_isWhole, 2, 1), (kX3_countBelow, 1, 10), (kX3_wall, 1, 7), (kX3_height, 1, 6), (kX4_exponent, 1, 2), (kX4_single, 1, 1), (kX4_isInside, 2, 1), (kX4_divides, 2, 2), (kX4_leastCommon, 1, 5), (kX4_haveVariableInCommon, 2, 3), (kX5_init, 0, 1), (kX5_rank, 1, 7), (kX6_init, 0, 2), (kX6_empty, 0, 1), (kX6_become, 0, 2), (kX6_isLike, 2, 3), (kX6_isWithout, 2, 4), (kX6_come, 2, 8), (kX6_find, 1, 6), (kX6_shift, 0, 3), (kX6_behead, 0, 1), (kX6_addMultiple, 2, 9), (kX6_addProduct, 2, 4), (kX6_becomeProduct, 2, 3), (kX6_multiply, 2, 6), (kX6_arrange, 0, 7), (kX6_valueAt, 3, 8), (kX6_termAt, 3, 11), (kX7_init, 0, 2), (kX7_variables, 1, 1), (kX7_order, 1, 4), (kX7_term, 1, 8), (kX7_zero, 1, 3), (kX7_size, 1, 2), (kX7_told, 1, 4), (kX7_plus, 1, 4), (kX7_times, 1, 4), (kX7_same, 1, 3), (kX7_vanishes, 1, 8), (kX7_generator, 1, 2), (kX7_clear, 1, 2), (kX7_basis, 1, 3), (kX7_done, 1, 2), (kX7_element, 1, 3), (kX7_share, 1, 4), (kX7_divide, 1, 5), (kX7_certificate, 1, 4), (kX7_check, 1, 4), (kX7_radical, 1, 5), (kX7_free, 1, 4), (kX7_stairs, 1, 1), (kX7_row, 4, 4), (kX7_isPlace, 2, 1), (kX7_isLarge, 2, 2), (kX7_isTold, 2, 3), (kX7_isElement, 2, 2), (kX7_isGenerator, 2, 2), (kX7_put, 1, 3), (kX7_forgetBasis, 0, 1), (kX7_sumUp, 2, 3), (kX8_init, 0, 2), (kX8_variables, 1, 1), (kX8_exponent, 1, 2), (kX8_sum, 1, 4), (kX8_compare, 1, 4), (kX8_divides, 2, 4), (kX8_common, 1, 7), (kX8_product, 1, 4), (kX8_lowest, 0, 13), (kX8_multiplied, 0, 9), (kX8_copy, 0, 4), (kX8_lead, 1, 2), (kX8_comes, 0, 8), (kX8_adds, 0, 9), (kX8_made, 0, 5), (kX8_isSame, 2, 4), (kX8_sorted, 0, 8), (kX8_order, 1, 4), (kX8_isPlace, 2, 1), (kX8_term, 1, 9), (kX8_taken, 1, 3), (kX8_zero, 1, 3), (kX8_size, 1, 2), (kX8_told, 1, 7), (kX8_plus, 1, 4), (kX8_times, 1, 4), (kX8_same, 1, 3), (kX8_vanishes, 1, 13), (kX8_divided, 0, 12), (kX8_cofactor, 1, 3), (kX8_lessShares, 0, 7), (kX8_scaled, 0, 5), (kX8_monic, 0, 8), (kX8_isWaiting, 2, 3), (kX8_addPairs, 0, 3), (kX8_isPassed, 2, 8), (kX8_make, 0, 6), (kX8_onePair, 2, 8), (kX8_clean, 0, 5), (kX8_move, 0, 4), (kX8_reduce, 0, 8), (kX8_generator, 1, 2), (kX8_clear, 1, 2), (kX8_basis, 1, 2), (kX8_done, 1, 2), (kX8_element, 1, 3), (kX8_share, 1, 4), (kX8_own, 0, 1), (kX8_divide, 1, 4), (kX8_certificate, 1, 4), (kX8_check, 1, 4), (kX8_radical, 1, 5), (kX8_free, 1, 6), (kX8_stairs, 1, 6), (kX8_isStair, 2, 3), (kL_cell, 1, 2), (kL_law, 2, 4)]
def gPcL : List (List Nat) := [pX0_init, pX0_allow, pX0_makeReady, pX0_run, pX0_firstDivisor, pX1_init, pX1_leading, pX1_makeMonic, pX2_over, pX2_under, pX2_lowest, pX2_sum, pX2_product, pX2_negative, pX2_inverse, pX3_init, pX3_build, pX3_begin, pX3_adopt, pX3_add, pX3_choosePair, pX3_settlePair, pX3_isNeedless, pX3_isWaiting, pX3_crossOut, pX3_takeQuotients, pX3_dropNeedless, pX3_isCovered, pX3_sortElements, pX3_reduceElement, pX3_isWhole, pX3_countBelow, pX3_wall, pX3_height, pX4_exponent, pX4_single, pX4_isInside, pX4_divides, pX4_leastCommon, pX4_haveVariableInCommon, pX5_init, pX5_rank, pX6_init, pX6_empty, pX6_become, pX6_isLike, pX6_isWithout, pX6_come, pX6_find, pX6_shift, pX6_behead, pX6_addMultiple, pX6_addProduct, pX6_becomeProduct, pX6_multiply, pX6_arrange, pX6_valueAt, pX6_termAt, pX7_init, pX7_variables, pX7_order, pX7_term, pX7_zero, pX7_size, pX7_told, pX7_plus, pX7_times, pX7_same, pX7_vanishes, pX7_generator, pX7_clear, pX7_basis, pX7_done, pX7_element, pX7_share, pX7_divide, pX7_certificate, pX7_check, pX7_radical, pX7_free, pX7_stairs, pX7_row, pX7_isPlace, pX7_isLarge, pX7_isTold, pX7_isElement, pX7_isGenerator, pX7_put, pX7_forgetBasis, pX7_sumUp, pX8_init, pX8_variables, pX8_exponent, pX8_sum, pX8_compare, pX8_divides, pX8_common, pX8_product, pX8_lowest, pX8_multiplied, pX8_copy, pX8_lead, pX8_comes, pX8_adds, pX8_made, pX8_isSame, pX8_sorted, pX8_order, pX8_isPlace, pX8_term, pX8_taken, pX8_zero, pX8_size, pX8_told, pX8_plus, pX8_times, pX8_same, pX8_vanishes, pX8_divided, pX8_cofactor, pX8_lessShares, pX8_scaled, pX8_monic, pX8_isWaiting, pX8_addPairs, pX8_isPassed, pX8_make, pX8_onePair, pX8_clean, pX8_move, pX8_reduce, pX8_generator, pX8_clear, pX8_basis, pX8_done, pX8_element, pX8_share, pX8_own, pX8_divide, pX8_certificate, pX8_check, pX8_radical, pX8_free, pX8_stairs, pX8_isStair, pL_cell, pL_law]
def gMe (m : Nat) : zMi := (zat gMeL m).getD (objectInit, ⟨#[]⟩, 0, none)
def gTb (m : Nat) : zMe := (zat gTbL m).getD ([], 0, 0)
def gPc (m : Nat) : List Nat := (zat gPcL m).getD []
end
section
/-! calls by the kind of their answer; numbers -/
def ycV (d m : Nat) (as : List Value) (M : zM) (P : zM → Prop) : Prop := zCl gTb d m as M fun r M2 => r = [] ∧ P M2
def ycI (d m : Nat) (as : List Value) (M : zM) (P : Int32 → zM → Prop) : Prop := zCl gTb d m as M fun r M2 => ∃ x : Int32, r = [.int x] ∧ P x M2
def ycJ (d m : Nat) (as : List Value) (M : zM) (P : Int64 → zM → Prop) : Prop := zCl gTb d m as M fun r M2 => ∃ x : Int64, r = [.long x] ∧ P x M2
def ycR (d m : Nat) (as : List Value) (M : zM) (P : Nat → zM → Prop) : Prop := zCl gTb d m as M fun r M2 => ∃ x : Nat, r = [.ref x] ∧ P x M2
theorem ti_add {a b : Int32} (h : -2147483648 ≤ a.toInt + b.toInt ∧ a.toInt + b.toInt < 2147483648) : (a + b).toInt = a.toInt + b.toInt := by
  rw [Int32.toInt_add]; exact Int.bmod_eq_of_le (by omega) (by omega)
theorem ti_sub {a b : Int32} (h : -2147483648 ≤ a.toInt - b.toInt ∧ a.toInt - b.toInt < 2147483648) : (a - b).toInt = a.toInt - b.toInt := by
  rw [Int32.toInt_sub]; exact Int.bmod_eq_of_le (by omega) (by omega)
theorem ti_mul {a b : Int32} (h : -2147483648 ≤ a.toInt * b.toInt ∧ a.toInt * b.toInt < 2147483648) : (a * b).toInt = a.toInt * b.toInt := by
  rw [Int32.toInt_mul]; exact Int.bmod_eq_of_le (by omega) (by omega)
theorem ti_neg {a : Int32} (h : -2147483648 < a.toInt) : (-a).toInt = -a.toInt := by
  have := a.toInt_lt
  rw [Int32.toInt_neg]; exact Int.bmod_eq_of_le (by omega) (by omega)
theorem tl_add {a b : Int64} (h : -9223372036854775808 ≤ a.toInt + b.toInt ∧ a.toInt + b.toInt < 9223372036854775808) : (a + b).toInt = a.toInt + b.toInt := by
  rw [Int64.toInt_add]; exact Int.bmod_eq_of_le (by omega) (by omega)
theorem tl_sub {a b : Int64} (h : -9223372036854775808 ≤ a.toInt - b.toInt ∧ a.toInt - b.toInt < 9223372036854775808) : (a - b).toInt = a.toInt - b.toInt := by
  rw [Int64.toInt_sub]; exact Int.bmod_eq_of_le (by omega) (by omega)
theorem tl_mul {a b : Int64} (h : -9223372036854775808 ≤ a.toInt * b.toInt ∧ a.toInt * b.toInt < 9223372036854775808) : (a * b).toInt = a.toInt * b.toInt := by
  rw [Int64.toInt_mul]; exact Int.bmod_eq_of_le (by omega) (by omega)
theorem tl_neg {a : Int64} (h : -9223372036854775808 < a.toInt) : (-a).toInt = -a.toInt := by
  have := a.toInt_lt
  rw [Int64.toInt_neg]; exact Int.bmod_eq_of_le (by omega) (by omega)
theorem tl_div {a b : Int64} (h : 0 < b.toInt) : (a / b).toInt = a.toInt.tdiv b.toInt := Int64.toInt_div_of_ne_right a b (fun e => by rw [e] at h; exact absurd h (by decide))
theorem tI_of {n : Int} (h : -2147483648 ≤ n ∧ n < 2147483648) : (Int32.ofInt n).toInt = n := Int32.toInt_ofInt_of_le (by omega) (by omega)
theorem tL_of {n : Int} (h : -9223372036854775808 ≤ n ∧ n < 9223372036854775808) : (Int64.ofInt n).toInt = n := Int64.toInt_ofInt_of_le (by omega) (by omega)
theorem tI_eq {x : Int32} {n : Int} (h : x.toInt = n) : x = Int32.ofInt n := by rw [← h, Int32.ofInt_toInt]
theorem tL_eq {x : Int64} {n : Int} (h : x.toInt = n) : x = Int64.ofInt n := by rw [← h, Int64.ofInt_toInt]
theorem lc_le {x y : Int64} : (lg_cmp x y ≤ 0) ↔ x.toInt ≤ y.toInt := (lg_cmp_le x y).trans Int64.le_iff_toInt_le
theorem lc_ge {x y : Int64} : (0 ≤ lg_cmp x y) ↔ y.toInt ≤ x.toInt := (lg_cmp_ge x y).trans Int64.le_iff_toInt_le
theorem lc_lt {x y : Int64} : (lg_cmp x y < 0) ↔ x.toInt < y.toInt := by
  have h := lc_ge (x := x) (y := y)
  rw [← Int32.not_le, h]; omega
theorem lc_gt {x y : Int64} : (0 < lg_cmp x y) ↔ y.toInt < x.toInt := by
  have h := lc_le (x := x) (y := y)
  rw [← Int32.not_le, h]; omega
theorem lc_eq {x y : Int64} : (lg_cmp x y = 0) ↔ x.toInt = y.toInt := by
  have h1 := lc_le (x := x) (y := y)
  have h2 := lc_ge (x := x) (y := y)
  constructor
  · intro h
    rw [h] at h1 h2
    have := h1.mp (Int32.le_refl 0)
    have := h2.mp (Int32.le_refl 0)
    omega
  · intro h
    exact Int32.le_antisymm (h1.mpr (by omega)) (h2.mpr (by omega))
theorem zin_iff {j : Int32} {n : Nat} : zin j n ↔ 0 ≤ j.toInt ∧ j.toInt < n := vp_in_iff
theorem clN {j : Int32} : j.toNatClampNeg = j.toInt.toNat := rfl
/-! THE DOCUMENT'S FRACTIONS -/
abbrev aF : Type := Int × Int
def fok (f : aF) : Prop := (-1000000000 ≤ f.1 ∧ f.1 ≤ 1000000000) ∧ 0 < f.2 ∧ f.2 ≤ 1000000000
/-- in lowest terms, if both parts are small enough (the denominator is above 0) -/
def alow (a b : Int) : Option aF := if (-1000000000 ≤ a / (Int.gcd a b : Int) ∧ a / (Int.gcd a b : Int) ≤ 1000000000) ∧ b / (Int.gcd a b : Int) ≤ 1000000000 then some (a / (Int.gcd a b : Int), b / (Int.gcd a b : Int)) else none
def afsum (x y : aF) : Option aF := alow (x.1 * y.2 + y.1 * x.2) (x.2 * y.2)
def afmul (x y : aF) : Option aF := alow (x.1 * y.1) (x.2 * y.2)
/-- a fraction as the class holds it -/
def eF (f : aF) : Int64 := Int64.ofInt (f.1 * 4294967296 + f.2)
def eFo : Option aF → Int64
  | none => 0
  | some f => eF f
theorem eF_int {f : aF} (h : fok f) : (eF f).toInt = f.1 * 4294967296 + f.2 := by
  obtain ⟨⟨h1, h2⟩, h3, h4⟩ := h
  exact tL_of (by omega)
theorem eF_inj {f g : aF} (hf : fok f) (hg : fok g) (h : eF f = eF g) : f = g := by
  have e := congrArg Int64.toInt h
  rw [eF_int hf, eF_int hg] at e
  obtain ⟨⟨h1, h2⟩, h3, h4⟩ := hf
  obtain ⟨⟨g1, g2⟩, g3, g4⟩ := hg
  exact Prod.ext (by omega) (by omega)
theorem eF_ne0 {f : aF} (h : fok f) : eF f ≠ 0 := by
  intro e
  have e := congrArg Int64.toInt e
  rw [eF_int h, Int64.toInt_zero] at e
  obtain ⟨⟨h1, h2⟩, h3, h4⟩ := h
  omega
theorem sh32 : ((32 : Int32).toInt64 &&& 63) = 32 := by decide
theorem eF_over {f : aF} (h : fok f) : (eF f >>> ((32 : Int32).toInt64 &&& 63)).toInt32 = Int32.ofInt f.1 := by
  have e : (eF f >>> (32 : Int64)).toInt = f.1 := by
    have : (eF f >>> (32 : Int64)).toInt = (eF f).toInt >>> 32 := by
      rw [← Int64.toInt_toBitVec, Int64.toBitVec_shiftRight, show (Int64.toBitVec 32).smod 64 = 32#64 by decide, BitVec.sshiftRight_eq', BitVec.toInt_sshiftRight]
      rfl
    rw [this, eF_int h, Int.shiftRight_eq_div_pow]
    obtain ⟨⟨h1, h2⟩, h3, h4⟩ := h
    omega
  rw [sh32, tL_eq e, Int64.toInt32_ofInt]
theorem eF_under {f : aF} (h : fok f) : (eF f).toInt32 = Int32.ofInt f.2 := by
  unfold eF
  rw [Int64.toInt32_ofInt]
  apply Int32.toInt_inj.mp
  rw [Int32.toInt_ofInt, Int32.toInt_ofInt]
  show Int.bmod (f.1 * 4294967296 + f.2) 4294967296 = Int.bmod f.2 4294967296
  rw [Int.add_comm, Int.mul_comm]
  exact Int.add_mul_bmod_self_left _ _ _
/-- a long put together of its two halves -/
theorem eF_pack {x y : Int64} (hx : -1000000000 ≤ x.toInt ∧ x.toInt ≤ 1000000000) (hy : 0 ≤ y.toInt ∧ y.toInt < 4294967296) : (x <<< ((32 : Int32).toInt64 &&& 63)) ||| y = Int64.ofInt (x.toInt * 4294967296 + y.toInt) := by
  rw [sh32]
  apply Int64.toBitVec_inj.mp
  rw [Int64.toBitVec_or, Int64.toBitVec_shiftLeft, show (Int64.toBitVec 32).smod 64 = 32#64 by decide]
  have hyn : y.toBitVec.toNat < 2 ^ 32 := by
    have h1 : y.toInt = (y.toBitVec.toNat : Int) := by
      rw [← Int64.toInt_toBitVec, BitVec.toInt_eq_toNat_of_lt]
      have h2 := hy.1
      rw [← Int64.toInt_toBitVec] at h2
      have := y.toBitVec.isLt
      rw [BitVec.toInt_eq_toNat_cond] at h2
      split at h2 <;> omega
    omega
  have hyi : y.toInt = (y.toBitVec.toNat : Int) := by
    rw [← Int64.toInt_toBitVec, BitVec.toInt_eq_toNat_of_lt (by omega)]
  apply BitVec.eq_of_toNat_eq
  have e1 : (x.toBitVec <<< 32#64).toNat = (x.toBitVec.toNat % 2 ^ 32) <<< 32 := by
    rw [BitVec.shiftLeft_eq', BitVec.toNat_shiftLeft, Nat.shiftLeft_eq, Nat.shiftLeft_eq]
    show x.toBitVec.toNat * 2 ^ 32 % 2 ^ 64 = _
    omega
  rw [BitVec.toNat_or, e1, ← Nat.shiftLeft_add_eq_or_of_lt hyn, Nat.shiftLeft_eq]
  show _ = (BitVec.ofInt 64 (x.toInt * 4294967296 + y.toInt)).toNat
  rw [BitVec.toNat_ofInt, hyi]
  have hxi := BitVec.toInt_eq_toNat_cond x.toBitVec
  rw [Int64.toInt_toBitVec] at hxi
  have hxl := x.toBitVec.isLt
  split at hxi <;> omega
end
section
/-! THE DOCUMENT'S MONOMIALS: exponents of four variables -/
abbrev aM : Type := Nat × Nat × Nat × Nat
def aex (m : aM) : Nat → Nat
  | 0 => m.1
  | 1 => m.2.1
  | 2 => m.2.2.1
  | _ => m.2.2.2
def mok (m : aM) : Prop := m.1 ≤ 30 ∧ m.2.1 ≤ 30 ∧ m.2.2.1 ≤ 30 ∧ m.2.2.2 ≤ 30
def mby (m : aM) : Prop := m.1 < 256 ∧ m.2.1 < 256 ∧ m.2.2.1 < 256 ∧ m.2.2.2 < 256
theorem mok_by {m : aM} (h : mok m) : mby m := by unfold mok at h; unfold mby; omega
def c8 (m : aM) : Nat := m.1 + 256 * m.2.1 + 65536 * m.2.2.1 + 16777216 * m.2.2.2
/-- a monomial as the class holds it -/
def e8 (m : aM) : Int32 := nI (c8 m)
def madd (a b : aM) : aM := (a.1 + b.1, a.2.1 + b.2.1, a.2.2.1 + b.2.2.1, a.2.2.2 + b.2.2.2)
def msub (a b : aM) : aM := (a.1 - b.1, a.2.1 - b.2.1, a.2.2.1 - b.2.2.1, a.2.2.2 - b.2.2.2)
def mdvd (a b : aM) : Prop := a.1 ≤ b.1 ∧ a.2.1 ≤ b.2.1 ∧ a.2.2.1 ≤ b.2.2.1 ∧ a.2.2.2 ≤ b.2.2.2
def mlcm (a b : aM) : aM := (max a.1 b.1, max a.2.1 b.2.1, max a.2.2.1 b.2.2.1, max a.2.2.2 b.2.2.2)
def mapart (a b : aM) : Prop := (a.1 = 0 ∨ b.1 = 0) ∧ (a.2.1 = 0 ∨ b.2.1 = 0) ∧ (a.2.2.1 = 0 ∨ b.2.2.1 = 0) ∧ (a.2.2.2 = 0 ∨ b.2.2.2 = 0)
def mone : aM := (0, 0, 0, 0)
def munit : Nat → aM
  | 0 => (1, 0, 0, 0)
  | 1 => (0, 1, 0, 0)
  | 2 => (0, 0, 1, 0)
  | _ => (0, 0, 0, 1)
/-- the ORDER of a kind, as a number: the greater monomial has the greater one -/
def ark (k : Nat) (m : aM) : Nat := if k = 0 then m.1 * 16777216 + m.2.1 * 65536 + m.2.2.1 * 256 + m.2.2.2 else
  (if k = 1 then 0 else m.1 * 4194304) + ((m.1 + m.2.1 + m.2.2.1 + m.2.2.2) * 32768 + (30 - m.2.2.2) * 1024 + (30 - m.2.2.1) * 32 + (30 - m.2.1))
theorem ark_inj {k : Nat} {a b : aM} (ha : mok a) (hb : mok b) (h : ark k a = ark k b) : a = b := by
  obtain ⟨a0, a1, a2, a3⟩ := a
  obtain ⟨b0, b1, b2, b3⟩ := b
  unfold mok at ha hb
  unfold ark at h
  dsimp only at ha hb h
  have : a0 = b0 ∧ a1 = b1 ∧ a2 = b2 ∧ a3 = b3 := by
    split at h
    · omega
    · split at h <;> omega
  obtain ⟨rfl, rfl, rfl, rfl⟩ := this
  rfl
theorem ark_lt {k : Nat} {a : aM} (ha : mok a) : ark k a < 1073741824 := by
  unfold mok at ha
  unfold ark
  split
  · omega
  · split <;> omega
theorem c8_lt {m : aM} (h : mby m) : c8 m < 4294967296 := by unfold mby at h; unfold c8; omega
theorem c8_lt' {m : aM} (h : mok m) : c8 m < 536870912 := by unfold mok at h; unfold c8; omega
theorem c8_inj {a b : aM} (ha : mby a) (hb : mby b) (h : c8 a = c8 b) : a = b := by
  obtain ⟨a0, a1, a2, a3⟩ := a
  obtain ⟨b0, b1, b2, b3⟩ := b
  unfold mby at ha hb
  unfold c8 at h
  dsimp only at ha hb h
  have : a0 = b0 ∧ a1 = b1 ∧ a2 = b2 ∧ a3 = b3 := by omega
  obtain ⟨rfl, rfl, rfl, rfl⟩ := this
  rfl
theorem e8_inj {a b : aM} (ha : mok a) (hb : mok b) (h : e8 a = e8 b) : a = b := by
  have h1 := c8_lt' ha
  have h2 := c8_lt' hb
  exact c8_inj (mok_by ha) (mok_by hb) ((nI_eq (by omega) (by omega)).mp h)
theorem e8_add {a b : aM} : e8 a + e8 b = e8 (madd a b) := by
  unfold e8
  rw [nI_add]
  congr 1
  unfold c8 madd
  dsimp only
  omega
theorem e8_sub {a b : aM} (h : mdvd b a) : e8 a - e8 b = e8 (msub a b) := by
  unfold mdvd at h
  unfold e8
  rw [pk_sub (by unfold c8; omega)]
  congr 1
  unfold c8 msub
  dsimp only
  omega
theorem and2 {a a' x x' : Nat} (ha : a < 256) (ha' : a' < 256) : (a + 256 * x) &&& (a' + 256 * x') = (a &&& a') + 256 * (x &&& x') := by
  have h1 : ((a + 256 * x) &&& (a' + 256 * x')) % 2 ^ 8 = a &&& a' := by
    rw [Nat.and_mod_two_pow, show (a + 256 * x) % 2 ^ 8 = a by omega, show (a' + 256 * x') % 2 ^ 8 = a' by omega]
  have h2 : ((a + 256 * x) &&& (a' + 256 * x')) / 2 ^ 8 = x &&& x' := by
    rw [Nat.and_div_two_pow, show (a + 256 * x) / 2 ^ 8 = x by omega, show (a' + 256 * x') / 2 ^ 8 = x' by omega]
  omega
theorem or2 {a a' x x' : Nat} (ha : a < 256) (ha' : a' < 256) : (a + 256 * x) ||| (a' + 256 * x') = (a ||| a') + 256 * (x ||| x') := by
  have h1 : ((a + 256 * x) ||| (a' + 256 * x')) % 2 ^ 8 = a ||| a' := by
    rw [Nat.or_mod_two_pow, show (a + 256 * x) % 2 ^ 8 = a by omega, show (a' + 256 * x') % 2 ^ 8 = a' by omega]
  have h2 : ((a + 256 * x) ||| (a' + 256 * x')) / 2 ^ 8 = x ||| x' := by
    rw [Nat.or_div_two_pow, show (a + 256 * x) / 2 ^ 8 = x by omega, show (a' + 256 * x') / 2 ^ 8 = x' by omega]
  omega
theorem c8_n (m : aM) : c8 m = m.1 + 256 * (m.2.1 + 256 * (m.2.2.1 + 256 * m.2.2.2)) := by unfold c8; omega
theorem and4 {a b : aM} (ha : mby a) (hb : mby b) : c8 a &&& c8 b = c8 (a.1 &&& b.1, a.2.1 &&& b.2.1, a.2.2.1 &&& b.2.2.1, a.2.2.2 &&& b.2.2.2) := by
  unfold mby at ha hb
  rw [c8_n, c8_n, c8_n, and2 (by omega) (by omega), and2 (by omega) (by omega), and2 (by omega) (by omega)]
theorem or4 {a b : aM} (ha : mby a) (hb : mby b) : c8 a ||| c8 b = c8 (a.1 ||| b.1, a.2.1 ||| b.2.1, a.2.2.1 ||| b.2.2.1, a.2.2.2 ||| b.2.2.2) := by
  unfold mby at ha hb
  rw [c8_n, c8_n, c8_n, or2 (by omega) (by omega), or2 (by omega) (by omega), or2 (by omega) (by omega)]
theorem by224 : ∀ a, a < 256 → ((a &&& 224 = 0) ↔ a < 32) := by decide +kernel
theorem by128 : ∀ a, a < 256 → ((a &&& 128 = 128) ↔ 128 ≤ a) := by decide +kernel
theorem by128o : ∀ a, a < 128 → a ||| 128 = a + 128 := by decide +kernel
theorem by224z : ∀ a, a < 256 → a &&& 224 < 256 := by decide +kernel
theorem by128z : ∀ a, a < 256 → a &&& 128 < 256 := by decide +kernel
/-- every int is four bytes -/
theorem e8_all (x : Int32) : ∃ m : aM, mby m ∧ x = e8 m := by
  have hl := x.toBitVec.isLt
  refine ⟨(x.toBitVec.toNat % 256, x.toBitVec.toNat / 256 % 256, x.toBitVec.toNat / 65536 % 256, x.toBitVec.toNat / 16777216), by unfold mby; dsimp only; omega, ?_⟩
  apply Int32.toBitVec_inj.mp
  apply BitVec.eq_of_toNat_eq
  unfold e8
  rw [pk_tn (by unfold c8; dsimp only; omega)]
  unfold c8
  dsimp only
  omega
theorem tn_inj {x y : Int32} : x = y ↔ x.toBitVec.toNat = y.toBitVec.toNat := ⟨fun h => h ▸ rfl, fun h => Int32.toBitVec_inj.mp (BitVec.eq_of_toNat_eq h)⟩
theorem tn_e8 {m : aM} (h : mby m) : (e8 m).toBitVec.toNat = c8 m := pk_tn (by have := c8_lt h; omega)
theorem in_1 {m : aM} (h : mby m) : (e8 m &&& (-522133280)) = 0 ↔ m.1 < 32 ∧ m.2.1 < 32 ∧ m.2.2.1 < 32 ∧ m.2.2.2 < 32 := by
  have hm : (-522133280 : Int32).toBitVec.toNat = c8 (224, 224, 224, 224) := by decide
  have h' := h
  unfold mby at h'
  rw [tn_inj, Int32.toBitVec_and, BitVec.toNat_and, tn_e8 h, hm, and4 h (by unfold mby; decide), show (0 : Int32).toBitVec.toNat = 0 by decide]
  dsimp only
  have q1 := by224 _ h'.1
  have q2 := by224 _ h'.2.1
  have q3 := by224 _ h'.2.2.1
  have q4 := by224 _ h'.2.2.2
  rw [← q1, ← q2, ← q3, ← q4]
  unfold c8
  dsimp only
  omega
theorem in_ok {m : aM} (h : mby m) : ((e8 m &&& (-522133280)) = 0 ∧ ((e8 m + 16843009) &&& (-522133280)) = 0) ↔ mok m := by
  rw [in_1 h]
  constructor
  · rintro ⟨h1, h2⟩
    have e : e8 m + 16843009 = e8 (madd m (1, 1, 1, 1)) := by
      rw [← e8_add]
      rfl
    rw [e, in_1 (by unfold mby madd; dsimp only; omega)] at h2
    unfold madd at h2
    unfold mok
    dsimp only at h2
    omega
  · intro h1
    unfold mok at h1
    refine ⟨by omega, ?_⟩
    have e : e8 m + 16843009 = e8 (madd m (1, 1, 1, 1)) := by
      rw [← e8_add]
      rfl
    rw [e, in_1 (by unfold mby madd; dsimp only; omega)]
    unfold madd
    dsimp only
    omega
theorem dv_ok {a b : aM} (ha : mok a) (hb : mok b) : (((e8 b ||| (-2139062144)) - e8 a) &&& (-2139062144)) = (-2139062144) ↔ mdvd a b := by
  have hm : (-2139062144 : Int32).toBitVec.toNat = c8 (128, 128, 128, 128) := by decide
  have hb' := hb
  have ha' := ha
  unfold mok at ha' hb'
  have e1 : (e8 b ||| (-2139062144 : Int32)) = e8 (b.1 + 128, b.2.1 + 128, b.2.2.1 + 128, b.2.2.2 + 128) := by
    rw [tn_inj, Int32.toBitVec_or, BitVec.toNat_or, tn_e8 (mok_by hb), hm, or4 (mok_by hb) (by unfold mby; decide), tn_e8 (by unfold mby; dsimp only; omega)]
    dsimp only
    rw [by128o _ (by omega), by128o _ (by omega), by128o _ (by omega), by128o _ (by omega)]
  rw [e1, e8_sub (by unfold mdvd; dsimp only; omega)]
  have hmb : mby (msub (b.1 + 128, b.2.1 + 128, b.2.2.1 + 128, b.2.2.2 + 128) a) := by unfold mby msub; dsimp only; omega
  rw [tn_inj, Int32.toBitVec_and, BitVec.toNat_and, tn_e8 hmb, hm, and4 hmb (by unfold mby; decide)]
  unfold mdvd msub
  dsimp only
  have q1 := by128 (b.1 + 128 - a.1) (by omega)
  have q2 := by128 (b.2.1 + 128 - a.2.1) (by omega)
  have q3 := by128 (b.2.2.1 + 128 - a.2.2.1) (by omega)
  have q4 := by128 (b.2.2.2 + 128 - a.2.2.2) (by omega)
  have z1 := by128z (b.1 + 128 - a.1) (by omega)
  have z2 := by128z (b.2.1 + 128 - a.2.1) (by omega)
  have z3 := by128z (b.2.2.1 + 128 - a.2.2.1) (by omega)
  have z4 := by128z (b.2.2.2 + 128 - a.2.2.2) (by omega)
  have k : c8 ((b.1 + 128 - a.1) &&& 128, (b.2.1 + 128 - a.2.1) &&& 128, (b.2.2.1 + 128 - a.2.2.1) &&& 128, (b.2.2.2 + 128 - a.2.2.2) &&& 128) = c8 (128, 128, 128, 128) ↔ ((b.1 + 128 - a.1) &&& 128 = 128 ∧ (b.2.1 + 128 - a.2.1) &&& 128 = 128 ∧ (b.2.2.1 + 128 - a.2.2.1) &&& 128 = 128 ∧ (b.2.2.2 + 128 - a.2.2.2) &&& 128 = 128) := by
    unfold c8
    dsimp only
    omega
  rw [k, q1, q2, q3, q4]
  omega
/-- exponents out of a class's monomial -/
theorem ex_8 {m : aM} (h : mby m) {v : Nat} (hv : v < 4) : (((e8 m).toUInt32 >>> ((8 * nI v).toUInt32 &&& Int32.toUInt32 31)).toInt32 &&& 255) = nI (aex m v) := by
  have hl := c8_lt h
  unfold mby at h
  have key : ∀ (s : Int32) (k : Nat), ((s.toUInt32 &&& Int32.toUInt32 31).toBitVec % 32).toNat = k → (((e8 m).toUInt32 >>> (s.toUInt32 &&& Int32.toUInt32 31)).toInt32 &&& 255) = nI (c8 m / 2 ^ k % 2 ^ 8) := by
    intro s k hs
    unfold e8
    rw [pk_ushrN (by omega) s k hs, pk_andN (Nat.lt_of_le_of_lt (Nat.div_le_self _ _) (by omega)) 8 (by decide)]
  match v, hv with
  | 0, _ => rw [key _ 0 (by decide)]; show nI _ = nI m.1; congr 1; unfold c8; omega
  | 1, _ => rw [key _ 8 (by decide)]; show nI _ = nI m.2.1; congr 1; unfold c8; omega
  | 2, _ => rw [key _ 16 (by decide)]; show nI _ = nI m.2.2.1; congr 1; unfold c8; omega
  | 3, _ => rw [key _ 24 (by decide)]; show nI _ = nI m.2.2.2; congr 1; unfold c8; omega
end
section
/-! THE DOCUMENT'S POLYNOMIALS, and how memory holds them -/
abbrev aT : Type := aF × aM
abbrev aP : Type := List aT
def tok (t : aT) : Prop := fok t.1 ∧ t.1.1 ≠ 0 ∧ mok t.2
/-- terms from the greatest on -/
def srt (k : Nat) (L : aP) : Prop := L.Pairwise fun a b => ark k b.2 < ark k a.2
def pok (k : Nat) (L : aP) : Prop := (∀ t ∈ L, tok t) ∧ srt k L ∧ L.length ≤ 100
/-- how many terms are greater -/
def apos (k : Nat) (m : aM) : aP → Nat
  | [] => 0
  | u :: l => if ark k m < ark k u.2 then apos k m l + 1 else 0
/-- a TERM COMES -/
def acome (k : Nat) (t : aT) (L : aP) : Option aP := match L[apos k t.2 L]? with
  | some u => if u.2 = t.2 then (match afsum u.1 t.1 with
      | none => none
      | some s => if s.1 = 0 then some (L.eraseIdx (apos k t.2 L)) else some (L.set (apos k t.2 L) (s, t.2)))
    else if 100 ≤ L.length then none else some (L.insertIdx (apos k t.2 L) t)
  | none => if 100 ≤ L.length then none else some (L.insertIdx (apos k t.2 L) t)
/-- f PLUS u g -/
def aadds (k : Nat) (c : aF) (m : aM) : aP → aP → Option aP
  | [], f => some f
  | t :: g, f => if (madd t.2 m).1 ≤ 30 ∧ (madd t.2 m).2.1 ≤ 30 ∧ (madd t.2 m).2.2.1 ≤ 30 ∧ (madd t.2 m).2.2.2 ≤ 30 then (match afmul t.1 c with
      | none => none
      | some s => match acome k (s, madd t.2 m) f with
        | none => none
        | some f' => aadds k c m g f') else none
/-- f PLUS u g for each term u of the first -/
def aprod (k : Nat) (g : aP) : aP → aP → Option aP
  | [], f => some f
  | u :: us, f => match aadds k u.1 u.2 g f with
    | none => none
    | some f' => aprod k g us f'
theorem apos_le {k : Nat} {m : aM} : ∀ (L : aP), apos k m L ≤ L.length
  | [] => Nat.le_refl _
  | u :: l => by
    unfold apos
    split
    · have := apos_le (k := k) (m := m) l
      simp; omega
    · simp
theorem apos_lt {k : Nat} {m : aM} : ∀ {L : aP} {j : Nat} {u : aT}, j < apos k m L → L[j]? = some u → ark k m < ark k u.2
  | [], j, u, h, _ => by simp [apos] at h
  | v :: l, j, u, h, hu => by
    unfold apos at h
    split at h
    · rename_i hv
      cases j with
      | zero => simp at hu; subst hu; exact hv
      | succ j => exact apos_lt (L := l) (j := j) (by omega) (by simpa using hu)
    · omega
theorem apos_ge {k : Nat} {m : aM} : ∀ {L : aP} {j : Nat} {u : aT}, srt k L → apos k m L ≤ j → L[j]? = some u → ark k u.2 ≤ ark k m
  | [], j, u, _, _, hu => by simp at hu
  | v :: l, j, u, hs, h, hu => by
    unfold srt at hs
    rw [List.pairwise_cons] at hs
    unfold apos at h
    split at h
    · cases j with
      | zero => omega
      | succ j => exact apos_ge (L := l) (j := j) hs.2 (by omega) (by simpa using hu)
    · rename_i hv
      cases j with
      | zero => simp at hu; subst hu; omega
      | succ j =>
        have hu' : l[j]? = some u := by simpa using hu
        have := hs.1 u (List.mem_of_getElem? hu')
        omega
/-- the only place where a number stands between -/
theorem apos_eq {k : Nat} {m : aM} {L : aP} {p : Nat} (hp : p ≤ L.length) (h1 : ∀ j u, j < p → L[j]? = some u → ark k m < ark k u.2) (h2 : ∀ j u, p ≤ j → L[j]? = some u → ark k u.2 ≤ ark k m) : apos k m L = p := by
  have hle := apos_le (k := k) (m := m) L
  rcases Nat.lt_trichotomy (apos k m L) p with h | h | h
  · exfalso
    have hl : apos k m L < L.length := by omega
    have hu := List.getElem?_eq_getElem hl
    have a := h1 _ _ h hu
    -- the place itself holds a term that is not greater
    have key : ∀ (L : aP) (hl : apos k m L < L.length), ark k (L[apos k m L]).2 ≤ ark k m := by
      intro L
      induction L with
      | nil => intro hl; simp at hl
      | cons v l ih =>
        intro hl
        by_cases hv : ark k m < ark k v.2
        · have e : apos k m (v :: l) = apos k m l + 1 := by simp [apos, hv]
          simp only [e, List.getElem_cons_succ]
          exact ih (by rw [e] at hl; simpa using hl)
        · have e : apos k m (v :: l) = 0 := by simp [apos, hv]
          simp only [e, List.getElem_cons_zero]
          omega
    have b := key L hl
    omega
  · exact h
  · exfalso
    have hl : p < L.length := by omega
    have hu := List.getElem?_eq_getElem hl
    have a := apos_lt h hu
    have b := h2 _ _ (Nat.le_refl _) hu
    omega
/-! memory: only these rows of numbers change -/
def zfr (S : Nat → Prop) (M M' : zM) : Prop := (∀ a, zsh M' a = zsh M a) ∧ zn M' = zn M ∧ zs M' = zs M ∧ (∀ a j, zR M' a j = zR M a j) ∧ ∀ a, ¬ S a → (∀ j, zI M' a j = zI M a j) ∧ ∀ j, zL M' a j = zL M a j
theorem zfr_rf {S : Nat → Prop} {M : zM} : zfr S M M := ⟨fun _ => rfl, rfl, rfl, fun _ _ => rfl, fun _ _ => ⟨fun _ => rfl, fun _ => rfl⟩⟩
theorem zfr_tr {S : Nat → Prop} {M1 M2 M3 : zM} (h1 : zfr S M1 M2) (h2 : zfr S M2 M3) : zfr S M1 M3 := ⟨fun a => (h2.1 a).trans (h1.1 a), h2.2.1.trans h1.2.1, h2.2.2.1.trans h1.2.2.1, fun a j => (h2.2.2.2.1 a j).trans (h1.2.2.2.1 a j), fun a ha => ⟨fun j => ((h2.2.2.2.2 a ha).1 j).trans ((h1.2.2.2.2 a ha).1 j), fun j => ((h2.2.2.2.2 a ha).2 j).trans ((h1.2.2.2.2 a ha).2 j)⟩⟩
theorem zfr_up {S S' : Nat → Prop} {M M' : zM} (h : zfr S M M') (hs : ∀ a, S a → S' a) : zfr S' M M' := ⟨h.1, h.2.1, h.2.2.1, h.2.2.2.1, fun a ha => h.2.2.2.2 a fun z => ha (hs a z)⟩
theorem zI_uI {M : zM} {a k : Nat} {v : Int32} {i j : Nat} : zI (zuI M a k v) i j = if i = a ∧ j = k then v else zI M i j := rfl
theorem zL_uL {M : zM} {a k : Nat} {v : Int64} {i j : Nat} : zL (zuL M a k v) i j = if i = a ∧ j = k then v else zL M i j := rfl
theorem zI_cI {M : zM} {a sp b dp n i j : Nat} : zI (zcI M a sp b dp n) i j = if i = b ∧ dp ≤ j ∧ j < dp + n then zI M a (sp + (j - dp)) else zI M i j := rfl
theorem zL_cL {M : zM} {a sp b dp n i j : Nat} : zL (zcL M a sp b dp n) i j = if i = b ∧ dp ≤ j ∧ j < dp + n then zL M a (sp + (j - dp)) else zL M i j := rfl
theorem zfr_uI {S : Nat → Prop} {M : zM} {a k : Nat} {v : Int32} (h : S a) : zfr S M (zuI M a k v) := ⟨fun _ => rfl, rfl, rfl, fun _ _ => rfl, fun b hb => ⟨fun j => (by rw [zI_uI, if_neg]; rintro ⟨rfl, -⟩; exact hb h), fun _ => rfl⟩⟩
theorem zfr_uL {S : Nat → Prop} {M : zM} {a k : Nat} {v : Int64} (h : S a) : zfr S M (zuL M a k v) := ⟨fun _ => rfl, rfl, rfl, fun _ _ => rfl, fun b hb => ⟨fun _ => rfl, fun j => by rw [zL_uL, if_neg]; rintro ⟨rfl, -⟩; exact hb h⟩⟩
theorem zfr_cI {S : Nat → Prop} {M : zM} {a sp b dp n : Nat} (h : S b) : zfr S M (zcI M a sp b dp n) := ⟨fun _ => rfl, rfl, rfl, fun _ _ => rfl, fun c hc => ⟨fun j => (by rw [zI_cI, if_neg]; rintro ⟨rfl, -⟩; exact hc h), fun _ => rfl⟩⟩
theorem zfr_cL {S : Nat → Prop} {M : zM} {a sp b dp n : Nat} (h : S b) : zfr S M (zcL M a sp b dp n) := ⟨fun _ => rfl, rfl, rfl, fun _ _ => rfl, fun c hc => ⟨fun _ => rfl, fun j => by rw [zL_cL, if_neg]; rintro ⟨rfl, -⟩; exact hc h⟩⟩
/-- a polynomial of the class: its four rows -/
def inP (p a : Nat) : Prop := p ≤ a ∧ a < p + 4
def pst (M : zM) (p o : Nat) : Prop := (zsh M p).1 = 14 ∧ zR M p 0 = o ∧ zR M p 1 = p + 1 ∧ zR M p 2 = p + 2 ∧ zR M p 3 = p + 3 ∧ zsh M (p + 1) = (3, 100) ∧ zsh M (p + 2) = (2, 100) ∧ zsh M (p + 3) = (2, 100)
def pdy (M : zM) (p k : Nat) (L : aP) : Prop := zI M p 4 = nI L.length ∧ ∀ j t, L[j]? = some t → zL M (p + 1) j = eF t.1 ∧ zI M (p + 2) j = e8 t.2 ∧ zI M (p + 3) j = nI (ark k t.2)
def ost (M : zM) (o k : Nat) : Prop := (zsh M o).1 = 13 ∧ zI M o 0 = nI k ∧ k ≤ 2
theorem pst_fr {S : Nat → Prop} {M M' : zM} {p o : Nat} (h : zfr S M M') (hp : pst M p o) : pst M' p o := by
  unfold pst at *
  rw [h.1, h.1, h.1, h.1, h.2.2.2.1, h.2.2.2.1, h.2.2.2.1, h.2.2.2.1]
  exact hp
theorem pdy_fr {S : Nat → Prop} {M M' : zM} {p k : Nat} {L : aP} (h : zfr S M M') (hd : ∀ a, inP p a → ¬ S a) (hp : pdy M p k L) : pdy M' p k L := by
  have h0 := h.2.2.2.2 p (hd p ⟨by omega, by omega⟩)
  have h1 := h.2.2.2.2 (p + 1) (hd _ ⟨by omega, by omega⟩)
  have h2 := h.2.2.2.2 (p + 2) (hd _ ⟨by omega, by omega⟩)
  have h3 := h.2.2.2.2 (p + 3) (hd _ ⟨by omega, by omega⟩)
  refine ⟨by rw [h0.1]; exact hp.1, fun j t hj => ?_⟩
  rw [h1.2, h2.1, h3.1]
  exact hp.2 j t hj
theorem ost_fr {S : Nat → Prop} {M M' : zM} {o k : Nat} (h : zfr S M M') (hd : ¬ S o) (ho : ost M o k) : ost M' o k := by
  unfold ost at *
  rw [h.1, (h.2.2.2.2 o hd).1]
  exact ho
theorem inP_ne {p q : Nat} (h : p + 4 ≤ q ∨ q + 4 ≤ p) : ∀ a, inP p a → ¬ inP q a := fun a h1 h2 => by
  unfold inP at h1 h2
  omega
end
section
/-! stretches of the small code, by wip/whole/vcgen.py -/
abbrev wX2_over (d : Nat) (Q : List Value → zM → Prop) : Nat → zLv → List Value → zM → Prop := zW (zCl gTb d) 1 kX2_over Q
theorem en_X2_over {d : Nat} {Q : List Value → zM → Prop} (a0 : Int64) (M : zM) (h : wX2_over d Q 0 [some (.long a0), none] [] M) : zCl gTb (d + 1) nX2_over [.long a0] M Q := ⟨Nat.le_of_ble_eq_true rfl, h⟩
/-- from place 0 -/
theorem sg_X2_over_0 {d : Nat} {Q : List Value → zM → Prop} (a0 : Int64) (M : zM) (h :
Q [.int ((a0 >>> (((32 : Int32)).toInt64 &&& 63)).toInt32)] M
) : wX2_over d Q 0 [some (.long a0), none] [] M := zseg (zCl_good gTb d) (fun _ => false) 10 h
abbrev wX2_under (d : Nat) (Q : List Value → zM → Prop) : Nat → zLv → List Value → zM → Prop := zW (zCl gTb d) 1 kX2_under Q
theorem en_X2_under {d : Nat} {Q : List Value → zM → Prop} (a0 : Int64) (M : zM) (h : wX2_under d Q 0 [some (.long a0), none] [] M) : zCl gTb (d + 1) nX2_under [.long a0] M Q := ⟨Nat.le_of_ble_eq_true rfl, h⟩
/-- from place 0 -/
theorem sg_X2_under_0 {d : Nat} {Q : List Value → zM → Prop} (a0 : Int64) (M : zM) (h :
Q [.int (a0.toInt32)] M
) : wX2_under d Q 0 [some (.long a0), none] [] M := zseg (zCl_good gTb d) (fun _ => false) 8 h
abbrev wX2_lowest (d : Nat) (Q : List Value → zM → Prop) : Nat → zLv → List Value → zM → Prop := zW (zCl gTb d) 3 kX2_lowest Q
theorem en_X2_lowest {d : Nat} {Q : List Value → zM → Prop} (a0 : Int64) (a2 : Int64) (M : zM) (h : wX2_lowest d Q 0 [some (.long a0), none, some (.long a2), none, none, none, none, none, none, none, none, none] [] M) : zCl gTb (d + 1) nX2_lowest [.long a0, .long a2] M Q := ⟨Nat.le_of_ble_eq_true rfl, h⟩
/-- from place 0 -/
theorem sg_X2_lowest_0 {d : Nat} {Q : List Value → zM → Prop} (a0 : Int64) (a2 : Int64) (M : zM) (h :
(0 ≤ (lg_cmp a0 ((0 : Int64))) → (wX2_lowest d Q 8 [some (.long a0), none, some (.long a2), none, none, none, none, none, none, none, none, none] [.long a0] M)) ∧ (¬ (0 ≤ (lg_cmp a0 ((0 : Int64)))) → (wX2_lowest d Q 8 [some (.long a0), none, some (.long a2), none, none, none, none, none, none, none, none, none] [.long (-a0)] M))
) : wX2_lowest d Q 0 [some (.long a0), none, some (.long a2), none, none, none, none, none, none, none, none, none] [] M := zseg (zCl_good gTb d) (fun j => j == 8 || j == 13 || j == 30 || j == 46) 13 h
/-- from place 8 -/
theorem sg_X2_lowest_8 {d : Nat} {Q : List Value → zM → Prop} (a0 : Int64) (a2 : Int64) (o4 : Option Value) (o5 : Option Value) (o6 : Option Value) (o7 : Option Value) (o8 : Option Value) (o9 : Option Value) (o10 : Option Value) (o11 : Option Value) (s0 : Int64) (M : zM) (h :
wX2_lowest d Q 13 [some (.long a0), none, some (.long a2), none, some (.long s0), none, some (.long a2), none, some (.int ((0 : Int32))), o9, o10, o11] [] M
) : wX2_lowest d Q 8 [some (.long a0), none, some (.long a2), none, o4, o5, o6, o7, o8, o9, o10, o11] [.long s0] M := zseg (zCl_good gTb d) (fun j => j == 8 || j == 13 || j == 30 || j == 46) 10 h
/-- from place 13 -/
theorem sg_X2_lowest_13 {d : Nat} {Q : List Value → zM → Prop} (a0 : Int64) (a2 : Int64) (a4 : Int64) (a6 : Int64) (a8 : Int32) (o9 : Option Value) (o10 : Option Value) (o11 : Option Value) (M : zM) (h :
(((200 : Int32)) ≤ a8 → (wX2_lowest d Q 30 [some (.long a0), none, some (.long a2), none, some (.long a4), none, some (.long a6), none, some (.int a8), o9, o10, o11] [] M)) ∧ (¬ (((200 : Int32)) ≤ a8) → (((lg_cmp a6 ((0 : Int64))) = 0 → (wX2_lowest d Q 30 [some (.long a0), none, some (.long a2), none, some (.long a4), none, some (.long a6), none, some (.int a8), o9, o10, o11] [] M)) ∧ (¬ ((lg_cmp a6 ((0 : Int64))) = 0) → (¬ a6 = 0 ∧ (let w9_1 : Int64 := a4 - a4 / a6 * a6
let v8_2 : Int32 := a8 + 1
wX2_lowest d Q 13 [some (.long a0), none, some (.long a2), none, some (.long a6), none, some (.long w9_1), none, some (.int v8_2), some (.long w9_1), none, o11] [] M)))))
) : wX2_lowest d Q 13 [some (.long a0), none, some (.long a2), none, some (.long a4), none, some (.long a6), none, some (.int a8), o9, o10, o11] [] M := zseg (zCl_good gTb d) (fun j => j == 8 || j == 13 || j == 30 || j == 46) 22 h
/-- from place 30 -/
theorem sg_X2_lowest_30 {d : Nat} {Q : List Value → zM → Prop} (a0 : Int64) (a2 : Int64) (a4 : Int64) (o6 : Option Value) (o7 : Option Value) (o8 : Option Value) (o9 : Option Value) (o10 : Option Value) (o11 : Option Value) (M : zM) (h :
((lg_cmp a4 ((1 : Int64))) ≤ 0 → (wX2_lowest d Q 46 [some (.long a0), none, some (.long a2), none, some (.long a4), none, o6, zwipe o7, some (.long a0), none, some (.long a2), none] [] M)) ∧ (¬ ((lg_cmp a4 ((1 : Int64))) ≤ 0) → (¬ a4 = 0 ∧ (let w8_1 : Int64 := a0 / a4
¬ a4 = 0 ∧ (let w10_2 : Int64 := a2 / a4
wX2_lowest d Q 46 [some (.long a0), none, some (.long a2), none, some (.long a4), none, o6, zwipe (zwipe o7), some (.long w8_1), none, some (.long w10_2), none] [] M))))
) : wX2_lowest d Q 30 [some (.long a0), none, some (.long a2), none, some (.long a4), none, o6, o7, o8, o9, o10, o11] [] M := zseg (zCl_good gTb d) (fun j => j == 8 || j == 13 || j == 30 || j == 46) 21 h
/-- from place 46 -/
theorem sg_X2_lowest_46 {d : Nat} {Q : List Value → zM → Prop} (o0 : Option Value) (o1 : Option Value) (o2 : Option Value) (o3 : Option Value) (o4 : Option Value) (o5 : Option Value) (o6 : Option Value) (o7 : Option Value) (a8 : Int64) (a10 : Int64) (M : zM) (h :
(0 < (lg_cmp a8 ((1000000000 : Int64))) → (Q [.long ((0 : Int64))] M)) ∧ (¬ (0 < (lg_cmp a8 ((1000000000 : Int64)))) → (((lg_cmp a8 (((-1000000000) : Int64))) < 0 → (Q [.long ((0 : Int64))] M)) ∧ (¬ ((lg_cmp a8 (((-1000000000) : Int64))) < 0) → ((0 < (lg_cmp a10 ((1000000000 : Int64))) → (Q [.long ((0 : Int64))] M)) ∧ (¬ (0 < (lg_cmp a10 ((1000000000 : Int64)))) → ((0 < (lg_cmp a10 ((0 : Int64))) → (Q [.long ((a8 <<< (((32 : Int32)).toInt64 &&& 63)) ||| a10)] M)) ∧ (¬ (0 < (lg_cmp a10 ((0 : Int64)))) → (Q [.long ((0 : Int64))] M))))))))
) : wX2_lowest d Q 46 [o0, o1, o2, o3, o4, o5, o6, o7, some (.long a8), none, some (.long a10), none] [] M := zseg (zCl_good gTb d) (fun j => j == 8 || j == 13 || j == 30 || j == 46) 35 h
abbrev wX2_sum (d : Nat) (Q : List Value → zM → Prop) : Nat → zLv → List Value → zM → Prop := zW (zCl gTb d) 3 kX2_sum Q
theorem en_X2_sum {d : Nat} {Q : List Value → zM → Prop} (a0 : Int64) (a2 : Int64) (M : zM) (h : wX2_sum d Q 0 [some (.long a0), none, some (.long a2), none, none, none] [] M) : zCl gTb (d + 1) nX2_sum [.long a0, .long a2] M Q := ⟨Nat.le_of_ble_eq_true rfl, h⟩
/-- from place 0 -/
theorem sg_X2_sum_0 {d : Nat} {Q : List Value → zM → Prop} (a0 : Int64) (a2 : Int64) (M : zM) (h :
ycI d nX2_over [.long a0] M fun c2 M1 => (ycI d nX2_under [.long a2] M1 fun c4 M3 => (ycI d nX2_over [.long a2] M3 fun c6 M5 => (ycI d nX2_under [.long a0] M5 fun c8 M7 => (let w4_9 : Int64 := ((c2.toInt64) * (c4.toInt64)) + ((c6.toInt64) * (c8.toInt64))
ycI d nX2_under [.long a0] M7 fun c11 M10 => (ycI d nX2_under [.long a2] M10 fun c13 M12 => (ycJ d nX2_lowest [.long w4_9, .long ((c11.toInt64) * (c13.toInt64))] M12 fun c15 M14 => (Q [.long c15] M14)))))))
) : wX2_sum d Q 0 [some (.long a0), none, some (.long a2), none, none, none] [] M := zseg (zCl_good gTb d) (fun _ => false) 31 h
abbrev wX2_product (d : Nat) (Q : List Value → zM → Prop) : Nat → zLv → List Value → zM → Prop := zW (zCl gTb d) 3 kX2_product Q
theorem en_X2_product {d : Nat} {Q : List Value → zM → Prop} (a0 : Int64) (a2 : Int64) (M : zM) (h : wX2_product d Q 0 [some (.long a0), none, some (.long a2), none] [] M) : zCl gTb (d + 1) nX2_product [.long a0, .long a2] M Q := ⟨Nat.le_of_ble_eq_true rfl, h⟩
/-- from place 0 -/
theorem sg_X2_product_0 {d : Nat} {Q : List Value → zM → Prop} (a0 : Int64) (a2 : Int64) (M : zM) (h :
ycI d nX2_over [.long a0] M fun c2 M1 => (ycI d nX2_over [.long a2] M1 fun c4 M3 => (ycI d nX2_under [.long a0] M3 fun c6 M5 => (ycI d nX2_under [.long a2] M5 fun c8 M7 => (ycJ d nX2_lowest [.long ((c2.toInt64) * (c4.toInt64)), .long ((c6.toInt64) * (c8.toInt64))] M7 fun c10 M9 => (Q [.long c10] M9)))))
) : wX2_product d Q 0 [some (.long a0), none, some (.long a2), none] [] M := zseg (zCl_good gTb d) (fun _ => false) 21 h
abbrev wX2_negative (d : Nat) (Q : List Value → zM → Prop) : Nat → zLv → List Value → zM → Prop := zW (zCl gTb d) 3 kX2_negative Q
theorem en_X2_negative {d : Nat} {Q : List Value → zM → Prop} (a0 : Int64) (M : zM) (h : wX2_negative d Q 0 [some (.long a0), none] [] M) : zCl gTb (d + 1) nX2_negative [.long a0] M Q := ⟨Nat.le_of_ble_eq_true rfl, h⟩
/-- from place 0 -/
theorem sg_X2_negative_0 {d : Nat} {Q : List Value → zM → Prop} (a0 : Int64) (M : zM) (h :
ycI d nX2_over [.long a0] M fun c2 M1 => (ycI d nX2_under [.long a0] M1 fun c4 M3 => (Q [.long ((((-c2).toInt64) <<< (((32 : Int32)).toInt64 &&& 63)) ||| (c4.toInt64))] M3))
) : wX2_negative d Q 0 [some (.long a0), none] [] M := zseg (zCl_good gTb d) (fun _ => false) 16 h
abbrev wX2_inverse (d : Nat) (Q : List Value → zM → Prop) : Nat → zLv → List Value → zM → Prop := zW (zCl gTb d) 3 kX2_inverse Q
theorem en_X2_inverse {d : Nat} {Q : List Value → zM → Prop} (a0 : Int64) (M : zM) (h : wX2_inverse d Q 0 [some (.long a0), none, none, none, none, none] [] M) : zCl gTb (d + 1) nX2_inverse [.long a0] M Q := ⟨Nat.le_of_ble_eq_true rfl, h⟩
/-- from place 0 -/
theorem sg_X2_inverse_0 {d : Nat} {Q : List Value → zM → Prop} (a0 : Int64) (M : zM) (h :
ycI d nX2_over [.long a0] M fun c2 M1 => (let w2_3 : Int64 := c2.toInt64
ycI d nX2_under [.long a0] M1 fun c5 M4 => (let w4_6 : Int64 := c5.toInt64
(0 ≤ (lg_cmp w2_3 ((0 : Int64))) → (Q [.long ((w4_6 <<< (((32 : Int32)).toInt64 &&& 63)) ||| w2_3)] M4)) ∧ (¬ (0 ≤ (lg_cmp w2_3 ((0 : Int64)))) → (Q [.long (((-w4_6) <<< (((32 : Int32)).toInt64 &&& 63)) ||| (-w2_3))] M4))))
) : wX2_inverse d Q 0 [some (.long a0), none, none, none, none, none] [] M := zseg (zCl_good gTb d) (fun _ => false) 32 h
end
section
/-! the class's fractions -/
theorem dS {d c : Nat} (h : c + 1 ≤ d) : ∃ e, d = e + 1 ∧ c ≤ e := ⟨d - 1, by omega, by omega⟩
theorem sp_over {d : Nat} {M : zM} {f : aF} {P : Int32 → zM → Prop} (hd : 1 ≤ d) (hf : fok f) (h : P (Int32.ofInt f.1) M) : ycI d nX2_over [.long (eF f)] M P := by
  obtain ⟨d, rfl, he⟩ := dS hd
  exact en_X2_over _ M (sg_X2_over_0 _ M ⟨_, rfl, by rw [eF_over hf]; exact h⟩)
theorem sp_under {d : Nat} {M : zM} {f : aF} {P : Int32 → zM → Prop} (hd : 1 ≤ d) (hf : fok f) (h : P (Int32.ofInt f.2) M) : ycI d nX2_under [.long (eF f)] M P := by
  obtain ⟨d, rfl, he⟩ := dS hd
  exact en_X2_under _ M (sg_X2_under_0 _ M ⟨_, rfl, by rw [eF_under hf]; exact h⟩)
theorem euc_half {c r k : Nat} (h1 : c < 2 ^ (k + 1)) (h2 : r < c) (h3 : 0 < r) : c % r < 2 ^ k := by
  rw [Nat.pow_succ] at h1
  have := Nat.mod_lt c h3
  by_cases h : r ≤ c / 2
  · omega
  · have : c % r = c - r := by
      rw [Nat.mod_eq_sub_mod (by omega), Nat.mod_eq_of_lt (by omega)]
    omega
theorem tl_rem {a b : Int64} {C R : Nat} (ha : a.toInt = C) (hb : b.toInt = R) (h : 0 < R) : (a - a / b * b).toInt = ((C % R : Nat) : Int) := by
  have hl := a.toInt_lt
  have e1 : (a / b).toInt = ((C / R : Nat) : Int) := by
    rw [tl_div (by omega), ha, hb, Int.ofNat_tdiv]
  have hq := Nat.div_mul_le_self C R
  have e2 : (a / b * b).toInt = ((C / R * R : Nat) : Int) := by
    have : (a / b).toInt * b.toInt = ((C / R * R : Nat) : Int) := by rw [e1, hb, Int.natCast_mul]
    rw [tl_mul (by rw [this]; omega), this]
  have hm := Nat.div_add_mod C R
  have hc : R * (C / R) = C / R * R := Nat.mul_comm _ _
  rw [tl_sub (by rw [e2, ha]; omega), e2, ha]
  omega
theorem lw_loop {d : Nat} {Q : List Value → zM → Prop} {M : zM} {a0 a2 : Int64} {g : Nat} (hfin : ∀ (a4 : Int64) (o6 o7 o8 o9 o10 o11 : Option Value), a4.toInt = (g : Int) → wX2_lowest d Q 30 [some (.long a0), none, some (.long a2), none, some (.long a4), none, o6, o7, o8, o9, o10, o11] [] M) :
    ∀ (n k C R t : Nat) (a4 a6 : Int64) (a8 : Int32) (o9 o10 o11 : Option Value), 200 - t ≤ n → a8.toInt = (t : Int) → a4.toInt = (C : Int) → a6.toInt = (R : Int) → Nat.gcd C R = g → (R < 2 ^ k ∧ t + 2 * k ≤ 199) ∨ (C < 2 ^ k ∧ R < C ∧ t + 2 * k ≤ 200) → wX2_lowest d Q 13 [some (.long a0), none, some (.long a2), none, some (.long a4), none, some (.long a6), none, some (.int a8), o9, o10, o11] [] M := by
  intro n
  induction n with
  | zero =>
    intro k C R t a4 a6 a8 o9 o10 o11 hn h8 h4 h6 hg hk
    have hR : R = 0 := by
      rcases hk with ⟨h1, h2⟩ | ⟨h1, h2, h3⟩
      · omega
      · have : k = 0 := by omega
        subst this
        omega
    subst hR
    have hC : (C : Int) = (g : Int) := by rw [← hg, Nat.gcd_zero_right]
    refine sg_X2_lowest_13 _ _ _ _ _ _ _ _ _ ⟨fun _ => hfin _ _ _ _ _ _ _ (h4.trans hC), fun _ => ⟨fun _ => hfin _ _ _ _ _ _ _ (h4.trans hC), fun h => absurd (lc_eq.mpr h6) h⟩⟩
  | succ n ih =>
    intro k C R t a4 a6 a8 o9 o10 o11 hn h8 h4 h6 hg hk
    by_cases hR : R = 0
    · subst hR
      have hC : (C : Int) = (g : Int) := by rw [← hg, Nat.gcd_zero_right]
      refine sg_X2_lowest_13 _ _ _ _ _ _ _ _ _ ⟨fun _ => hfin _ _ _ _ _ _ _ (h4.trans hC), fun _ => ⟨fun _ => hfin _ _ _ _ _ _ _ (h4.trans hC), fun h => absurd (lc_eq.mpr h6) h⟩⟩
    · have hRp : 0 < R := Nat.pos_of_ne_zero hR
      have ht : t < 200 := by
        rcases hk with ⟨h1, h2⟩ | ⟨h1, h2, h3⟩
        · omega
        · match k, h1, h3 with
          | 0, h1, _ => omega
          | k + 1, _, h3 => omega
      refine sg_X2_lowest_13 _ _ _ _ _ _ _ _ _ ⟨fun h => ?_, fun _ => ⟨fun h => ?_, fun h => ⟨fun e => ?_, ?_⟩⟩⟩
      · rw [Int32.le_iff_toInt_le, h8] at h
        have : (200 : Int32).toInt = 200 := by decide
        omega
      · have := lc_eq.mp h
        rw [h6, Int64.toInt_zero] at this
        omega
      · rw [e, Int64.toInt_zero] at h6
        omega
      · intro w9 v8
        have h8' : v8.toInt = ((t + 1 : Nat) : Int) := by
          have : (1 : Int32).toInt = 1 := by decide
          rw [ti_add (by rw [h8, this]; omega), h8, this]; omega
        have h9 : w9.toInt = ((C % R : Nat) : Int) := tl_rem h4 h6 hRp
        have hg' : Nat.gcd R (C % R) = g := by rw [← hg, Nat.gcd_comm R, ← Nat.gcd_rec, Nat.gcd_comm]
        have hlt := Nat.mod_lt C hRp
        rcases hk with ⟨h1, h2⟩ | ⟨h1, h2, h3⟩
        · exact ih k R (C % R) (t + 1) _ _ _ _ _ _ (by omega) h8' h6 h9 hg' (Or.inr ⟨h1, hlt, by omega⟩)
        · match k, h1, h3 with
          | 0, h1, _ => omega
          | k + 1, h1, h3 => exact ih k R (C % R) (t + 1) _ _ _ _ _ _ (by omega) h8' h6 h9 hg' (Or.inl ⟨euc_half h1 h2 hRp, by omega⟩)
theorem lowest_end {d : Nat} {Q : List Value → zM → Prop} {M : zM} {x y : Int64} {A B : Int} (o0 o1 o2 o3 o4 o5 o6 o7 : Option Value) (hx : x.toInt = A / (Int.gcd A B : Int)) (hy : y.toInt = B / (Int.gcd A B : Int)) (hy0 : 0 < y.toInt) (h : Q [.long (eFo (alow A B))] M) : wX2_lowest d Q 46 [o0, o1, o2, o3, o4, o5, o6, o7, some (.long x), none, some (.long y), none] [] M := by
  have e1 : (1000000000 : Int64).toInt = 1000000000 := by decide
  have e2 : (-1000000000 : Int64).toInt = -1000000000 := by decide
  have no : ¬ ((-1000000000 ≤ x.toInt ∧ x.toInt ≤ 1000000000) ∧ y.toInt ≤ 1000000000) → Q [.long 0] M := fun hn => by
    unfold alow at h
    rw [← hx, ← hy, if_neg hn] at h
    exact h
  refine sg_X2_lowest_46 _ _ _ _ _ _ _ _ _ _ _ ⟨fun c1 => ?_, fun c1 => ⟨fun c2 => ?_, fun c2 => ⟨fun c3 => ?_, fun c3 => ⟨fun c4 => ?_, fun c4 => ?_⟩⟩⟩⟩
  · rw [lc_gt, e1] at c1
    exact no (by omega)
  · rw [lc_lt, e2] at c2
    exact no (by omega)
  · rw [lc_gt, e1] at c3
    exact no (by omega)
  · rw [lc_gt, e1] at c1 c3
    rw [lc_lt, e2] at c2
    unfold alow at h
    rw [← hx, ← hy, if_pos (by omega)] at h
    rw [eF_pack (by omega) (by omega)]
    exact h
  · rw [lc_gt, Int64.toInt_zero] at c4
    omega
theorem sp_lowest {d : Nat} {M : zM} {a b : Int64} {A B : Int} {P : Int64 → zM → Prop} (hd : 1 ≤ d) (ha : a.toInt = A) (hb : b.toInt = B) (hA : -4000000000000000000 ≤ A ∧ A ≤ 4000000000000000000) (hB : 0 < B ∧ B ≤ 1000000000000000000) (h : P (eFo (alow A B)) M) : ycJ d nX2_lowest [.long a, .long b] M P := by
  obtain ⟨d, rfl, he⟩ := dS hd
  have h0 : (0 : Int64).toInt = 0 := by decide
  have h1 : (1 : Int64).toInt = 1 := by decide
  have hg0 : 0 < Int.gcd A B := Int.gcd_pos_of_ne_zero_right _ (by omega)
  obtain ⟨b1, hb1⟩ := Int.gcd_dvd_right A B
  obtain ⟨a1, ha1⟩ := Int.gcd_dvd_left A B
  have hb1p : 0 < b1 := by
    rcases Int.lt_or_le 0 b1 with h | h
    · exact h
    · have := Int.mul_nonpos_of_nonneg_of_nonpos (Int.natCast_nonneg (Int.gcd A B)) h
      omega
  have eA : A / (Int.gcd A B : Int) = a1 := Int.ediv_eq_of_eq_mul_right (by omega) ha1
  have eB : B / (Int.gcd A B : Int) = b1 := Int.ediv_eq_of_eq_mul_right (by omega) hb1
  have fin : ∀ (a4 : Int64) (o6 o7 o8 o9 o10 o11 : Option Value), a4.toInt = ((Int.gcd A B : Nat) : Int) → wX2_lowest d (fun r M2 => ∃ x : Int64, r = [.long x] ∧ P x M2) 30 [some (.long a), none, some (.long b), none, some (.long a4), none, o6, o7, o8, o9, o10, o11] [] M := by
    intro a4 o6 o7 o8 o9 o10 o11 h4
    refine sg_X2_lowest_30 _ _ _ _ _ _ _ _ _ _ ⟨fun c => ?_, fun c => ⟨fun e => ?_, ?_⟩⟩
    · rw [lc_le, h1, h4] at c
      have hg1 : Int.gcd A B = 1 := by omega
      rw [hg1] at eA eB
      refine lowest_end (A := A) (B := B) _ _ _ _ _ _ _ _ ?_ ?_ (by omega) ⟨_, rfl, h⟩
      · rw [ha, hg1]; omega
      · rw [hb, hg1]; omega
    · rw [e, h0] at h4
      omega
    · intro w8
      refine ⟨fun e => ?_, ?_⟩
      · rw [e, h0] at h4
        omega
      · intro w10
        have e8 : w8.toInt = A / (Int.gcd A B : Int) := by
          rw [show w8 = a / a4 from rfl, tl_div (by omega), ha, h4]
          exact Int.tdiv_eq_ediv_of_dvd (Int.gcd_dvd_left A B)
        have e10 : w10.toInt = B / (Int.gcd A B : Int) := by
          rw [show w10 = b / a4 from rfl, tl_div (by omega), hb, h4]
          exact Int.tdiv_eq_ediv_of_dvd (Int.gcd_dvd_right A B)
        exact lowest_end (A := A) (B := B) _ _ _ _ _ _ _ _ e8 e10 (by rw [e10, eB]; exact hb1p) ⟨_, rfl, h⟩
  have start : ∀ (s0 : Int64) (o4 o5 o6 o7 o8 o9 o10 o11 : Option Value), s0.toInt = ((A.natAbs : Nat) : Int) → wX2_lowest d (fun r M2 => ∃ x : Int64, r = [.long x] ∧ P x M2) 8 [some (.long a), none, some (.long b), none, o4, o5, o6, o7, o8, o9, o10, o11] [.long s0] M := by
    intro s0 o4 o5 o6 o7 o8 o9 o10 o11 hs
    refine sg_X2_lowest_8 _ _ _ _ _ _ _ _ _ _ _ _ ?_
    refine lw_loop (g := Int.gcd A B) fin 200 60 A.natAbs B.natAbs 0 _ _ _ _ _ _ (by omega) (by decide) hs (by rw [hb]; omega) rfl (Or.inl ⟨by
      have : (2 : Nat) ^ 60 = 1152921504606846976 := by decide
      omega, by omega⟩)
  refine en_X2_lowest _ _ M (sg_X2_lowest_0 _ _ M ⟨fun c => start _ _ _ _ _ _ _ _ _ ?_, fun c => start _ _ _ _ _ _ _ _ _ ?_⟩)
  · rw [lc_ge, h0, ha] at c
    omega
  · rw [lc_ge, h0, ha] at c
    rw [tl_neg (by rw [ha]; omega), ha]
    omega
theorem tI64 {n : Int} (h : -2147483648 ≤ n ∧ n < 2147483648) : (Int32.ofInt n).toInt64.toInt = n := by rw [Int32.toInt_toInt64, tI_of h]
theorem mul_le_abs {a b m n : Int} (ha : -m ≤ a ∧ a ≤ m) (hb : -n ≤ b ∧ b ≤ n) (hm : 0 ≤ m) (hn : 0 ≤ n) : -(m * n) ≤ a * b ∧ a * b ≤ m * n := by
  have h := Int.natAbs_mul a b
  have h1 : a.natAbs ≤ m.natAbs := by omega
  have h2 : b.natAbs ≤ n.natAbs := by omega
  have h3 := Nat.mul_le_mul h1 h2
  rw [← h, ← Int.natAbs_mul] at h3
  have h4 : 0 ≤ m * n := Int.mul_nonneg hm hn
  omega
theorem sp_fsum {d : Nat} {M : zM} {f g : aF} {P : Int64 → zM → Prop} (hd : 2 ≤ d) (hf : fok f) (hg : fok g) (h : P (eFo (afsum f g)) M) : ycJ d nX2_sum [.long (eF f), .long (eF g)] M P := by
  obtain ⟨d, rfl, he⟩ := dS hd
  obtain ⟨⟨f1, f2⟩, f3, f4⟩ := id hf
  obtain ⟨⟨g1, g2⟩, g3, g4⟩ := id hg
  have m1 := mul_le_abs (a := f.1) (b := g.2) (m := 1000000000) (n := 1000000000) (by omega) (by omega) (by omega) (by omega)
  have m2 := mul_le_abs (a := g.1) (b := f.2) (m := 1000000000) (n := 1000000000) (by omega) (by omega) (by omega) (by omega)
  have m3 := mul_le_abs (a := f.2) (b := g.2) (m := 1000000000) (n := 1000000000) (by omega) (by omega) (by omega) (by omega)
  have m4 := Int.mul_pos f3 g3
  refine en_X2_sum _ _ M (sg_X2_sum_0 _ _ M ?_)
  refine sp_over he hf (sp_under he hg (sp_over he hg (sp_under he hf ?_)))
  intro w4
  have e1 : ((Int32.ofInt f.1).toInt64 * (Int32.ofInt g.2).toInt64).toInt = f.1 * g.2 := by
    rw [tl_mul (by rw [tI64 (by omega), tI64 (by omega)]; omega), tI64 (by omega), tI64 (by omega)]
  have e2 : ((Int32.ofInt g.1).toInt64 * (Int32.ofInt f.2).toInt64).toInt = g.1 * f.2 := by
    rw [tl_mul (by rw [tI64 (by omega), tI64 (by omega)]; omega), tI64 (by omega), tI64 (by omega)]
  have e3 : ((Int32.ofInt f.2).toInt64 * (Int32.ofInt g.2).toInt64).toInt = f.2 * g.2 := by
    rw [tl_mul (by rw [tI64 (by omega), tI64 (by omega)]; omega), tI64 (by omega), tI64 (by omega)]
  refine sp_under he hf (sp_under he hg (sp_lowest he (A := f.1 * g.2 + g.1 * f.2) (B := f.2 * g.2) ?_ e3 (by omega) (by omega) ⟨_, rfl, h⟩))
  rw [show w4 = (Int32.ofInt f.1).toInt64 * (Int32.ofInt g.2).toInt64 + (Int32.ofInt g.1).toInt64 * (Int32.ofInt f.2).toInt64 from rfl, tl_add (by rw [e1, e2]; omega), e1, e2]
theorem sp_fmul {d : Nat} {M : zM} {f g : aF} {P : Int64 → zM → Prop} (hd : 2 ≤ d) (hf : fok f) (hg : fok g) (h : P (eFo (afmul f g)) M) : ycJ d nX2_product [.long (eF f), .long (eF g)] M P := by
  obtain ⟨d, rfl, he⟩ := dS hd
  obtain ⟨⟨f1, f2⟩, f3, f4⟩ := id hf
  obtain ⟨⟨g1, g2⟩, g3, g4⟩ := id hg
  have m1 := mul_le_abs (a := f.1) (b := g.1) (m := 1000000000) (n := 1000000000) (by omega) (by omega) (by omega) (by omega)
  have m3 := mul_le_abs (a := f.2) (b := g.2) (m := 1000000000) (n := 1000000000) (by omega) (by omega) (by omega) (by omega)
  have m4 := Int.mul_pos f3 g3
  refine en_X2_product _ _ M (sg_X2_product_0 _ _ M ?_)
  refine sp_over he hf (sp_over he hg (sp_under he hf (sp_under he hg ?_)))
  have e1 : ((Int32.ofInt f.1).toInt64 * (Int32.ofInt g.1).toInt64).toInt = f.1 * g.1 := by
    rw [tl_mul (by rw [tI64 (by omega), tI64 (by omega)]; omega), tI64 (by omega), tI64 (by omega)]
  have e3 : ((Int32.ofInt f.2).toInt64 * (Int32.ofInt g.2).toInt64).toInt = f.2 * g.2 := by
    rw [tl_mul (by rw [tI64 (by omega), tI64 (by omega)]; omega), tI64 (by omega), tI64 (by omega)]
  exact sp_lowest he (A := f.1 * g.1) (B := f.2 * g.2) e1 e3 (by omega) (by omega) ⟨_, rfl, h⟩
theorem sp_fneg {d : Nat} {M : zM} {f : aF} {P : Int64 → zM → Prop} (hd : 2 ≤ d) (hf : fok f) (h : P (eF (-f.1, f.2)) M) : ycJ d nX2_negative [.long (eF f)] M P := by
  obtain ⟨d, rfl, he⟩ := dS hd
  obtain ⟨⟨f1, f2⟩, f3, f4⟩ := id hf
  refine en_X2_negative _ M (sg_X2_negative_0 _ M ?_)
  refine sp_over he hf (sp_under he hf ⟨_, rfl, ?_⟩)
  have e1 : (-(Int32.ofInt f.1)).toInt64.toInt = -f.1 := by rw [Int32.toInt_toInt64, ti_neg (by rw [tI_of (by omega)]; omega), tI_of (by omega)]
  have e2 : (Int32.ofInt f.2).toInt64.toInt = f.2 := tI64 (by omega)
  rw [eF_pack (by rw [e1]; omega) (by rw [e2]; omega), e1, e2]
  exact h
/-- one by a fraction -/
def afinv (f : aF) : aF := if f.1 < 0 then (-f.2, -f.1) else (f.2, f.1)
theorem sp_finv {d : Nat} {M : zM} {f : aF} {P : Int64 → zM → Prop} (hd : 2 ≤ d) (hf : fok f) (h0 : f.1 ≠ 0) (h : P (eF (afinv f)) M) : ycJ d nX2_inverse [.long (eF f)] M P := by
  obtain ⟨d, rfl, he⟩ := dS hd
  obtain ⟨⟨f1, f2⟩, f3, f4⟩ := id hf
  refine en_X2_inverse _ M (sg_X2_inverse_0 _ M ?_)
  refine sp_over he hf ?_
  intro w2
  refine sp_under he hf ?_
  intro w4
  have e1 : w2.toInt = f.1 := tI64 (by omega)
  have e2 : w4.toInt = f.2 := tI64 (by omega)
  have e0 : (0 : Int64).toInt = 0 := by decide
  refine ⟨fun c => ⟨_, rfl, ?_⟩, fun c => ⟨_, rfl, ?_⟩⟩
  · rw [lc_ge, e0, e1] at c
    rw [eF_pack (by rw [e2]; omega) (by rw [e1]; omega), e1, e2]
    unfold afinv at h
    rw [if_neg (by omega)] at h
    exact h
  · rw [lc_ge, e0, e1] at c
    have e3 : (-w4).toInt = -f.2 := by rw [tl_neg (by rw [e2]; omega), e2]
    have e4 : (-w2).toInt = -f.1 := by rw [tl_neg (by rw [e1]; omega), e1]
    rw [eF_pack (by rw [e3]; omega) (by rw [e4]; omega), e3, e4]
    unfold afinv at h
    rw [if_pos (by omega)] at h
    exact h
end
section
/-! stretches of the small code, by wip/whole/vcgen.py -/
abbrev wX4_exponent (d : Nat) (Q : List Value → zM → Prop) : Nat → zLv → List Value → zM → Prop := zW (zCl gTb d) 1 kX4_exponent Q
theorem en_X4_exponent {d : Nat} {Q : List Value → zM → Prop} (a0 : Int32) (a1 : Int32) (M : zM) (h : wX4_exponent d Q 0 [some (.int a0), some (.int a1)] [] M) : zCl gTb (d + 1) nX4_exponent [.int a0, .int a1] M Q := ⟨Nat.le_of_ble_eq_true rfl, h⟩
set_option maxRecDepth 100000 in
set_option maxHeartbeats 4000000 in
/-- from place 0 -/
theorem sg_X4_exponent_0 {d : Nat} {Q : List Value → zM → Prop} (a0 : Int32) (a1 : Int32) (M : zM) (h :
Q [.int (((a0.toUInt32 >>> ((((8 : Int32)) * a1).toUInt32 &&& Int32.toUInt32 31)).toInt32) &&& ((255 : Int32)))] M
) : wX4_exponent d Q 0 [some (.int a0), some (.int a1)] [] M := zseg (zCl_good gTb d) (fun _ => false) 13 h
abbrev wX4_single (d : Nat) (Q : List Value → zM → Prop) : Nat → zLv → List Value → zM → Prop := zW (zCl gTb d) 1 kX4_single Q
theorem en_X4_single {d : Nat} {Q : List Value → zM → Prop} (a0 : Int32) (M : zM) (h : wX4_single d Q 0 [some (.int a0)] [] M) : zCl gTb (d + 1) nX4_single [.int a0] M Q := ⟨Nat.le_of_ble_eq_true rfl, h⟩
set_option maxRecDepth 100000 in
set_option maxHeartbeats 4000000 in
/-- from place 0 -/
theorem sg_X4_single_0 {d : Nat} {Q : List Value → zM → Prop} (a0 : Int32) (M : zM) (h :
Q [.int (((1 : Int32)) <<< ((((8 : Int32)) * a0) &&& 31))] M
) : wX4_single d Q 0 [some (.int a0)] [] M := zseg (zCl_good gTb d) (fun _ => false) 11 h
abbrev wX4_isInside (d : Nat) (Q : List Value → zM → Prop) : Nat → zLv → List Value → zM → Prop := zW (zCl gTb d) 2 kX4_isInside Q
theorem en_X4_isInside {d : Nat} {Q : List Value → zM → Prop} (a0 : Int32) (M : zM) (h : wX4_isInside d Q 0 [some (.int a0)] [] M) : zCl gTb (d + 1) nX4_isInside [.int a0] M Q := ⟨Nat.le_of_ble_eq_true rfl, h⟩
set_option maxRecDepth 100000 in
set_option maxHeartbeats 4000000 in
/-- from place 0 -/
theorem sg_X4_isInside_0 {d : Nat} {Q : List Value → zM → Prop} (a0 : Int32) (M : zM) (h :
(¬ (a0 &&& (((-522133280) : Int32))) = 0 → (zb ((0 : Int32)) ∧ (Q [.int ((0 : Int32))] M))) ∧ (¬ (¬ (a0 &&& (((-522133280) : Int32))) = 0) → ((¬ ((a0 + ((16843009 : Int32))) &&& (((-522133280) : Int32))) = 0 → (zb ((0 : Int32)) ∧ (Q [.int ((0 : Int32))] M))) ∧ (¬ (¬ ((a0 + ((16843009 : Int32))) &&& (((-522133280) : Int32))) = 0) → (zb ((1 : Int32)) ∧ (Q [.int ((1 : Int32))] M)))))
) : wX4_isInside d Q 0 [some (.int a0)] [] M := zseg (zCl_good gTb d) (fun _ => false) 22 h
abbrev wX4_divides (d : Nat) (Q : List Value → zM → Prop) : Nat → zLv → List Value → zM → Prop := zW (zCl gTb d) 2 kX4_divides Q
theorem en_X4_divides {d : Nat} {Q : List Value → zM → Prop} (a0 : Int32) (a1 : Int32) (M : zM) (h : wX4_divides d Q 0 [some (.int a0), some (.int a1)] [] M) : zCl gTb (d + 1) nX4_divides [.int a0, .int a1] M Q := ⟨Nat.le_of_ble_eq_true rfl, h⟩
set_option maxRecDepth 100000 in
set_option maxHeartbeats 4000000 in
/-- from place 0 -/
theorem sg_X4_divides_0 {d : Nat} {Q : List Value → zM → Prop} (a0 : Int32) (a1 : Int32) (M : zM) (h :
(¬ (((a1 ||| (((-2139062144) : Int32))) - a0) &&& (((-2139062144) : Int32))) = (((-2139062144) : Int32)) → (zb ((0 : Int32)) ∧ (Q [.int ((0 : Int32))] M))) ∧ (¬ (¬ (((a1 ||| (((-2139062144) : Int32))) - a0) &&& (((-2139062144) : Int32))) = (((-2139062144) : Int32))) → (zb ((1 : Int32)) ∧ (Q [.int ((1 : Int32))] M)))
) : wX4_divides d Q 0 [some (.int a0), some (.int a1)] [] M := zseg (zCl_good gTb d) (fun _ => false) 19 h
abbrev wX4_leastCommon (d : Nat) (Q : List Value → zM → Prop) : Nat → zLv → List Value → zM → Prop := zW (zCl gTb d) 1 kX4_leastCommon Q
theorem en_X4_leastCommon {d : Nat} {Q : List Value → zM → Prop} (a0 : Int32) (a1 : Int32) (M : zM) (h : wX4_leastCommon d Q 0 [some (.int a0), some (.int a1), none, none, none] [] M) : zCl gTb (d + 1) nX4_leastCommon [.int a0, .int a1] M Q := ⟨Nat.le_of_ble_eq_true rfl, h⟩
set_option maxRecDepth 100000 in
set_option maxHeartbeats 4000000 in
/-- from place 0 -/
theorem sg_X4_leastCommon_0 {d : Nat} {Q : List Value → zM → Prop} (a0 : Int32) (a1 : Int32) (M : zM) (h :
wX4_leastCommon d Q 4 [some (.int a0), some (.int a1), some (.int ((0 : Int32))), some (.int ((0 : Int32))), none] [] M
) : wX4_leastCommon d Q 0 [some (.int a0), some (.int a1), none, none, none] [] M := zseg (zCl_good gTb d) (fun j => j == 4) 9 h
set_option maxRecDepth 100000 in
set_option maxHeartbeats 4000000 in
/-- from place 4 -/
theorem sg_X4_leastCommon_4 {d : Nat} {Q : List Value → zM → Prop} (a0 : Int32) (a1 : Int32) (a2 : Int32) (a3 : Int32) (o4 : Option Value) (M : zM) (h :
(((4 : Int32)) ≤ a3 → (Q [.int a2] M)) ∧ (¬ (((4 : Int32)) ≤ a3) → (let v4_1 : Int32 := ((255 : Int32)) <<< ((((8 : Int32)) * a3) &&& 31)
ycI d nX4_exponent [.int a0, .int a3] M fun c3 M2 => (ycI d nX4_exponent [.int a1, .int a3] M2 fun c5 M4 => ((c3 < c5 → (let v2_6 : Int32 := a2 ||| (a1 &&& v4_1)
let v3_7 : Int32 := a3 + 1
wX4_leastCommon d Q 4 [some (.int a0), some (.int a1), some (.int v2_6), some (.int v3_7), some (.int v4_1)] [] M4)) ∧ (¬ (c3 < c5) → (let v2_8 : Int32 := a2 ||| (a0 &&& v4_1)
let v3_9 : Int32 := a3 + 1
wX4_leastCommon d Q 4 [some (.int a0), some (.int a1), some (.int v2_8), some (.int v3_9), some (.int v4_1)] [] M4))))))
) : wX4_leastCommon d Q 4 [some (.int a0), some (.int a1), some (.int a2), some (.int a3), o4] [] M := zseg (zCl_good gTb d) (fun j => j == 4) 39 h
abbrev wX4_haveVariableInCommon (d : Nat) (Q : List Value → zM → Prop) : Nat → zLv → List Value → zM → Prop := zW (zCl gTb d) 2 kX4_haveVariableInCommon Q
theorem en_X4_haveVariableInCommon {d : Nat} {Q : List Value → zM → Prop} (a0 : Int32) (a1 : Int32) (M : zM) (h : wX4_haveVariableInCommon d Q 0 [some (.int a0), some (.int a1), none] [] M) : zCl gTb (d + 1) nX4_haveVariableInCommon [.int a0, .int a1] M Q := ⟨Nat.le_of_ble_eq_true rfl, h⟩
set_option maxRecDepth 100000 in
set_option maxHeartbeats 4000000 in
/-- from place 0 -/
theorem sg_X4_haveVariableInCommon_0 {d : Nat} {Q : List Value → zM → Prop} (a0 : Int32) (a1 : Int32) (M : zM) (h :
wX4_haveVariableInCommon d Q 2 [some (.int a0), some (.int a1), some (.int ((0 : Int32)))] [] M
) : wX4_haveVariableInCommon d Q 0 [some (.int a0), some (.int a1), none] [] M := zseg (zCl_good gTb d) (fun j => j == 2) 7 h
set_option maxRecDepth 100000 in
set_option maxHeartbeats 4000000 in
/-- from place 2 -/
theorem sg_X4_haveVariableInCommon_2 {d : Nat} {Q : List Value → zM → Prop} (a0 : Int32) (a1 : Int32) (a2 : Int32) (M : zM) (h :
(((4 : Int32)) ≤ a2 → (zb ((0 : Int32)) ∧ (Q [.int ((0 : Int32))] M))) ∧ (¬ (((4 : Int32)) ≤ a2) → (ycI d nX4_exponent [.int a0, .int a2] M fun c2 M1 => ((c2 = 0 → (let v2_3 : Int32 := a2 + 1
wX4_haveVariableInCommon d Q 2 [some (.int a0), some (.int a1), some (.int v2_3)] [] M1)) ∧ (¬ (c2 = 0) → (ycI d nX4_exponent [.int a1, .int a2] M1 fun c5 M4 => ((c5 = 0 → (let v2_6 : Int32 := a2 + 1
wX4_haveVariableInCommon d Q 2 [some (.int a0), some (.int a1), some (.int v2_6)] [] M4)) ∧ (¬ (c5 = 0) → (zb ((1 : Int32)) ∧ (Q [.int ((1 : Int32))] M4)))))))))
) : wX4_haveVariableInCommon d Q 2 [some (.int a0), some (.int a1), some (.int a2)] [] M := zseg (zCl_good gTb d) (fun j => j == 2) 24 h
abbrev wX5_rank (d : Nat) (Q : List Value → zM → Prop) : Nat → zLv → List Value → zM → Prop := zW (zCl gTb d) 1 kX5_rank Q
theorem en_X5_rank {d : Nat} {Q : List Value → zM → Prop} (a0 : Nat) (a1 : Int32) (M : zM) (h : wX5_rank d Q 0 [some (.ref a0), some (.int a1), none, none, none, none, none] [] M) : zCl gTb (d + 1) nX5_rank [.ref a0, .int a1] M Q := ⟨Nat.le_of_ble_eq_true rfl, h⟩
set_option maxRecDepth 100000 in
set_option maxHeartbeats 4000000 in
/-- from place 0 -/
theorem sg_X5_rank_0 {d : Nat} {Q : List Value → zM → Prop} (a0 : Nat) (a1 : Int32) (M : zM) (h :
let v2_1 : Int32 := a1 &&& ((255 : Int32))
let v3_2 : Int32 := ((a1.toUInt32 >>> (((8 : Int32)).toUInt32 &&& Int32.toUInt32 31)).toInt32) &&& ((255 : Int32))
let v4_3 : Int32 := ((a1.toUInt32 >>> (((16 : Int32)).toUInt32 &&& Int32.toUInt32 31)).toInt32) &&& ((255 : Int32))
let v5_4 : Int32 := ((a1.toUInt32 >>> (((24 : Int32)).toUInt32 &&& Int32.toUInt32 31)).toInt32) &&& ((255 : Int32))
(zsh M a0).1 = 13 ∧ ((¬ (zI M a0 0) = 0 → (let v6_5 : Int32 := ((((((v2_1 + v3_2) + v4_3) + v5_4) <<< (((15 : Int32)) &&& 31)) ||| ((((30 : Int32)) - v5_4) <<< (((10 : Int32)) &&& 31))) ||| ((((30 : Int32)) - v4_3) <<< (((5 : Int32)) &&& 31))) ||| (((30 : Int32)) - v3_2)
(zsh M a0).1 = 13 ∧ ((¬ (zI M a0 0) = ((1 : Int32)) → (Q [.int ((v2_1 <<< (((22 : Int32)) &&& 31)) ||| v6_5)] M)) ∧ (¬ (¬ (zI M a0 0) = ((1 : Int32))) → (Q [.int v6_5] M))))) ∧ (¬ (¬ (zI M a0 0) = 0) → (Q [.int ((((v2_1 <<< (((24 : Int32)) &&& 31)) ||| (v3_2 <<< (((16 : Int32)) &&& 31))) ||| (v4_3 <<< (((8 : Int32)) &&& 31))) ||| v5_4)] M)))
) : wX5_rank d Q 0 [some (.ref a0), some (.int a1), none, none, none, none, none] [] M := zseg (zCl_good gTb d) (fun _ => false) 83 h
end
section
/-! the class's monomials and their order -/
theorem iv_lt {v : Nat} {n : Nat} (hv : v < 2 ^ 31) (hn : n < 2 ^ 31) : (nI n ≤ nI v) ↔ n ≤ v := nI_leI hn hv
theorem sp_exponent {d : Nat} {M : zM} {m : aM} {v : Nat} {P : Int32 → zM → Prop} (hd : 1 ≤ d) (hm : mby m) (hv : v < 4) (h : P (nI (aex m v)) M) : ycI d nX4_exponent [.int (e8 m), .int (nI v)] M P := by
  obtain ⟨d, rfl, he⟩ := dS hd
  exact en_X4_exponent _ _ M (sg_X4_exponent_0 _ _ M ⟨_, rfl, by rw [ex_8 hm hv]; exact h⟩)
theorem sp_single {d : Nat} {M : zM} {v : Nat} {P : Int32 → zM → Prop} (hd : 1 ≤ d) (hv : v < 4) (h : P (e8 (munit v)) M) : ycI d nX4_single [.int (nI v)] M P := by
  obtain ⟨d, rfl, he⟩ := dS hd
  have e : ((1 : Int32) <<< ((8 * nI v) &&& 31)) = e8 (munit v) := by
    match v, hv with
    | 0, _ => decide
    | 1, _ => decide
    | 2, _ => decide
    | 3, _ => decide
  exact en_X4_single _ M (sg_X4_single_0 _ M ⟨_, rfl, by rw [e]; exact h⟩)
theorem sp_isInside {d : Nat} {M : zM} {m : aM} {P : Int32 → zM → Prop} (hd : 1 ≤ d) (hm : mby m) (h1 : mok m → P 1 M) (h0 : ¬ mok m → P 0 M) : ycI d nX4_isInside [.int (e8 m)] M P := by
  obtain ⟨d, rfl, he⟩ := dS hd
  have k := in_ok hm
  refine en_X4_isInside _ M (sg_X4_isInside_0 _ M ⟨fun c => ⟨Or.inl rfl, _, rfl, h0 fun z => c (k.mpr z).1⟩, fun c => ⟨fun c2 => ⟨Or.inl rfl, _, rfl, h0 fun z => c2 (k.mpr z).2⟩, fun c2 => ⟨Or.inr rfl, _, rfl, h1 (k.mp ⟨Classical.not_not.mp c, Classical.not_not.mp c2⟩)⟩⟩⟩)
theorem sp_divides {d : Nat} {M : zM} {a b : aM} {P : Int32 → zM → Prop} (hd : 1 ≤ d) (ha : mok a) (hb : mok b) (h1 : mdvd a b → P 1 M) (h0 : ¬ mdvd a b → P 0 M) : ycI d nX4_divides [.int (e8 a), .int (e8 b)] M P := by
  obtain ⟨d, rfl, he⟩ := dS hd
  have k := dv_ok ha hb
  exact en_X4_divides _ _ M (sg_X4_divides_0 _ _ M ⟨fun c => ⟨Or.inl rfl, _, rfl, h0 fun z => c (k.mpr z)⟩, fun c => ⟨Or.inr rfl, _, rfl, h1 (k.mp (Classical.not_not.mp c))⟩⟩)
/-- the first v exponents alone; the one of v alone -/
def mfst : Nat → aM → aM
  | 0, _ => (0, 0, 0, 0)
  | 1, m => (m.1, 0, 0, 0)
  | 2, m => (m.1, m.2.1, 0, 0)
  | 3, m => (m.1, m.2.1, m.2.2.1, 0)
  | _, m => m
def mnly : Nat → aM → aM
  | 0, m => (m.1, 0, 0, 0)
  | 1, m => (0, m.2.1, 0, 0)
  | 2, m => (0, 0, m.2.2.1, 0)
  | _, m => (0, 0, 0, m.2.2.2)
theorem by255 : ∀ a, a < 256 → a &&& 255 = a := by decide +kernel
theorem mnly_8 {m : aM} (h : mok m) {v : Nat} (hv : v < 4) : e8 m &&& ((255 : Int32) <<< ((8 * nI v) &&& 31)) = e8 (mnly v m) := by
  have hb := mok_by h
  have key : ∀ (mk : Int32) (q : aM), mk.toBitVec.toNat = c8 q → mby q → e8 m &&& mk = e8 (m.1 &&& q.1, m.2.1 &&& q.2.1, m.2.2.1 &&& q.2.2.1, m.2.2.2 &&& q.2.2.2) := by
    intro mk q hq hqb
    have hz : mby (m.1 &&& q.1, m.2.1 &&& q.2.1, m.2.2.1 &&& q.2.2.1, m.2.2.2 &&& q.2.2.2) := by
      unfold mby at hb ⊢
      dsimp only
      have a1 := @Nat.and_le_left m.1 q.1
      have a2 := @Nat.and_le_left m.2.1 q.2.1
      have a3 := @Nat.and_le_left m.2.2.1 q.2.2.1
      have a4 := @Nat.and_le_left m.2.2.2 q.2.2.2
      omega
    rw [tn_inj, Int32.toBitVec_and, BitVec.toNat_and, tn_e8 hb, hq, and4 hb hqb, tn_e8 hz]
  unfold mby at hb
  match v, hv with
  | 0, _ => rw [key _ (255, 0, 0, 0) (by decide) (by unfold mby; decide)]; simp [by255 _ hb.1, mnly]
  | 1, _ => rw [key _ (0, 255, 0, 0) (by decide) (by unfold mby; decide)]; simp [by255 _ hb.2.1, mnly]
  | 2, _ => rw [key _ (0, 0, 255, 0) (by decide) (by unfold mby; decide)]; simp [by255 _ hb.2.2.1, mnly]
  | 3, _ => rw [key _ (0, 0, 0, 255) (by decide) (by unfold mby; decide)]; simp [by255 _ hb.2.2.2, mnly]
theorem or_8 {a b : aM} (ha : mby a) (hb : mby b) (hc : mby (a.1 ||| b.1, a.2.1 ||| b.2.1, a.2.2.1 ||| b.2.2.1, a.2.2.2 ||| b.2.2.2)) : e8 a ||| e8 b = e8 (a.1 ||| b.1, a.2.1 ||| b.2.1, a.2.2.1 ||| b.2.2.1, a.2.2.2 ||| b.2.2.2) := by
  rw [tn_inj, Int32.toBitVec_or, BitVec.toNat_or, tn_e8 ha, tn_e8 hb, or4 ha hb, tn_e8 hc]
theorem mfst_or {m : aM} (h : mok m) {v : Nat} (hv : v < 4) : e8 (mfst v m) ||| e8 (mnly v m) = e8 (mfst (v + 1) m) := by
  have hb := mok_by h
  unfold mby at hb
  match v, hv with
  | 0, _ => rw [or_8] <;> simp [mfst, mnly, mby] <;> omega
  | 1, _ => rw [or_8] <;> simp [mfst, mnly, mby] <;> omega
  | 2, _ => rw [or_8] <;> simp [mfst, mnly, mby] <;> omega
  | 3, _ => rw [or_8] <;> simp [mfst, mnly, mby] <;> omega
theorem mlcm_ok {a b : aM} (ha : mok a) (hb : mok b) : mok (mlcm a b) := by
  unfold mok at *
  unfold mlcm
  dsimp only
  omega
theorem mnly_max {a b : aM} {v : Nat} (hv : v < 4) : (aex b v ≤ aex a v → mnly v a = mnly v (mlcm a b)) ∧ (aex a v ≤ aex b v → mnly v b = mnly v (mlcm a b)) := by
  match v, hv with
  | 0, _ => exact ⟨fun h => by simp [mnly, mlcm, aex] at *; omega, fun h => by simp [mnly, mlcm, aex] at *; omega⟩
  | 1, _ => exact ⟨fun h => by simp [mnly, mlcm, aex] at *; omega, fun h => by simp [mnly, mlcm, aex] at *; omega⟩
  | 2, _ => exact ⟨fun h => by simp [mnly, mlcm, aex] at *; omega, fun h => by simp [mnly, mlcm, aex] at *; omega⟩
  | 3, _ => exact ⟨fun h => by simp [mnly, mlcm, aex] at *; omega, fun h => by simp [mnly, mlcm, aex] at *; omega⟩
theorem aex_lt {m : aM} (h : mok m) (v : Nat) : aex m v ≤ 30 := by
  unfold mok at h
  unfold aex
  split <;> omega
theorem sp_leastCommon {d : Nat} {M : zM} {a b : aM} {P : Int32 → zM → Prop} (hd : 2 ≤ d) (ha : mok a) (hb : mok b) (h : P (e8 (mlcm a b)) M) : ycI d nX4_leastCommon [.int (e8 a), .int (e8 b)] M P := by
  obtain ⟨d, rfl, he⟩ := dS hd
  have loop : ∀ (n v : Nat) (o4 : Option Value), v + n = 4 → wX4_leastCommon d (fun r M2 => ∃ x : Int32, r = [.int x] ∧ P x M2) 4 [some (.int (e8 a)), some (.int (e8 b)), some (.int (e8 (mfst v (mlcm a b)))), some (.int (nI v)), o4] [] M := by
    intro n
    induction n with
    | zero =>
      intro v o4 hv
      have : v = 4 := by omega
      subst this
      exact sg_X4_leastCommon_4 _ _ _ _ _ _ ⟨fun _ => ⟨_, rfl, h⟩, fun c => absurd (show (4 : Int32) ≤ nI 4 by decide) c⟩
    | succ n ih =>
      intro v o4 hv
      refine sg_X4_leastCommon_4 _ _ _ _ _ _ ⟨fun c => ?_, fun _ => ?_⟩
      · have := (iv_lt (n := 4) (by omega) (by omega)).mp c
        omega
      · intro v4
        refine sp_exponent he (mok_by ha) (by omega) (sp_exponent he (mok_by hb) (by omega) ⟨fun c => ?_, fun c => ?_⟩)
        · intro v2 v3
          have h1 := aex_lt ha v
          have h2 := aex_lt hb v
          have hle := (nI_ltI (by omega) (by omega)).mp c
          have e2 : v2 = e8 (mfst (v + 1) (mlcm a b)) := by
            rw [show v2 = e8 (mfst v (mlcm a b)) ||| (e8 b &&& v4) from rfl, mnly_8 hb (by omega), (mnly_max (a := a) (b := b) (by omega)).2 (by omega), mfst_or (mlcm_ok ha hb) (by omega)]
          have e3 : v3 = nI (v + 1) := nI_1 v
          rw [e2, e3]
          exact ih (v + 1) _ (by omega)
        · intro v2 v3
          have h1 := aex_lt ha v
          have h2 := aex_lt hb v
          have hle : ¬ aex a v < aex b v := fun z => c ((nI_ltI (by omega) (by omega)).mpr z)
          have e2 : v2 = e8 (mfst (v + 1) (mlcm a b)) := by
            rw [show v2 = e8 (mfst v (mlcm a b)) ||| (e8 a &&& v4) from rfl, mnly_8 ha (by omega), (mnly_max (a := a) (b := b) (by omega)).1 (by omega), mfst_or (mlcm_ok ha hb) (by omega)]
          have e3 : v3 = nI (v + 1) := nI_1 v
          rw [e2, e3]
          exact ih (v + 1) _ (by omega)
  exact en_X4_leastCommon _ _ M (sg_X4_leastCommon_0 _ _ M (loop 4 0 _ rfl))
theorem mapart_iff {a b : aM} : mapart a b ↔ ∀ v, v < 4 → aex a v = 0 ∨ aex b v = 0 := by
  unfold mapart
  constructor
  · rintro ⟨h0, h1, h2, h3⟩ v hv
    match v, hv with
    | 0, _ => exact h0
    | 1, _ => exact h1
    | 2, _ => exact h2
    | 3, _ => exact h3
  · intro h
    exact ⟨h 0 (by omega), h 1 (by omega), h 2 (by omega), h 3 (by omega)⟩
theorem nI_z {n : Nat} (h : n < 2 ^ 31) : nI n = 0 ↔ n = 0 := by
  rw [← nI_0]
  exact nI_eq h (by omega)
theorem sp_haveVar {d : Nat} {M : zM} {a b : aM} {P : Int32 → zM → Prop} (hd : 2 ≤ d) (ha : mok a) (hb : mok b) (h1 : ¬ mapart a b → P 1 M) (h0 : mapart a b → P 0 M) : ycI d nX4_haveVariableInCommon [.int (e8 a), .int (e8 b)] M P := by
  obtain ⟨d, rfl, he⟩ := dS hd
  have loop : ∀ (n v : Nat), v + n = 4 → (∀ u, u < v → aex a u = 0 ∨ aex b u = 0) → wX4_haveVariableInCommon d (fun r M2 => ∃ x : Int32, r = [.int x] ∧ P x M2) 2 [some (.int (e8 a)), some (.int (e8 b)), some (.int (nI v))] [] M := by
    intro n
    induction n with
    | zero =>
      intro v hv hu
      have : v = 4 := by omega
      subst this
      exact sg_X4_haveVariableInCommon_2 _ _ _ _ ⟨fun _ => ⟨Or.inl rfl, _, rfl, h0 (mapart_iff.mpr hu)⟩, fun c => absurd (show (4 : Int32) ≤ nI 4 by decide) c⟩
    | succ n ih =>
      intro v hv hu
      have q1 := aex_lt ha v
      have q2 := aex_lt hb v
      have next : (aex a v = 0 ∨ aex b v = 0) → wX4_haveVariableInCommon d (fun r M2 => ∃ x : Int32, r = [.int x] ∧ P x M2) 2 [some (.int (e8 a)), some (.int (e8 b)), some (.int (nI v + 1))] [] M := fun hz => by
        rw [nI_1]
        refine ih (v + 1) (by omega) fun u hu2 => ?_
        by_cases e : u = v
        · subst e; exact hz
        · exact hu u (by omega)
      refine sg_X4_haveVariableInCommon_2 _ _ _ _ ⟨fun c => ?_, fun _ => sp_exponent he (mok_by ha) (by omega) ⟨fun c => ?_, fun c => sp_exponent he (mok_by hb) (by omega) ⟨fun c2 => ?_, fun c2 => ?_⟩⟩⟩
      · have := (iv_lt (n := 4) (by omega) (by omega)).mp c
        omega
      · exact next (Or.inl ((nI_z (by omega)).mp c))
      · exact next (Or.inr ((nI_z (by omega)).mp c2))
      · refine ⟨Or.inr rfl, _, rfl, h1 fun z => ?_⟩
        rcases (mapart_iff.mp z) v (by omega) with z | z
        · exact c ((nI_z (by omega)).mpr z)
        · exact c2 ((nI_z (by omega)).mpr z)
  exact en_X4_haveVariableInCommon _ _ M (sg_X4_haveVariableInCommon_0 _ _ M (loop 4 0 rfl fun u hu => absurd hu (by omega)))
theorem or_nI {x y : Nat} (hx : x < 2 ^ 32) (hy : y < 2 ^ 32) : nI x ||| nI y = nI (x ||| y) := by
  rw [tn_inj, Int32.toBitVec_or, BitVec.toNat_or, pk_tn hx, pk_tn hy, pk_tn (Nat.or_lt_two_pow hx hy)]
theorem or_add {i a b : Nat} (h : b < 2 ^ i) : a * 2 ^ i ||| b = a * 2 ^ i + b := by
  rw [Nat.mul_comm, Nat.two_pow_add_eq_or_of_lt h]
theorem ex_key {m : aM} (h : mby m) (s : Int32) (k : Nat) (hs : ((s.toUInt32 &&& Int32.toUInt32 31).toBitVec % 32).toNat = k) : (((e8 m).toUInt32 >>> (s.toUInt32 &&& Int32.toUInt32 31)).toInt32 &&& 255) = nI (c8 m / 2 ^ k % 2 ^ 8) := by
  have hl := c8_lt h
  unfold e8
  rw [pk_ushrN (by omega) s k hs, pk_andN (Nat.lt_of_le_of_lt (Nat.div_le_self _ _) (by omega)) 8 (by decide)]
theorem sp_rank {d : Nat} {M : zM} {o k : Nat} {m : aM} {P : Int32 → zM → Prop} (hd : 1 ≤ d) (hm : mok m) (ho : (zsh M o).1 = 13) (hk : zI M o 0 = nI k) (hk2 : k ≤ 2) (h : P (nI (ark k m)) M) : ycI d nX5_rank [.ref o, .int (e8 m)] M P := by
  obtain ⟨d, rfl, he⟩ := dS hd
  have hb := mok_by hm
  have hl := c8_lt' hm
  unfold mok at hm
  have e2 : e8 m &&& 255 = nI m.1 := by
    unfold e8
    rw [pk_andN (by omega) 8 (by decide)]
    congr 1; unfold c8; omega
  have e3 : (((e8 m).toUInt32 >>> ((8 : Int32).toUInt32 &&& Int32.toUInt32 31)).toInt32 &&& 255) = nI m.2.1 := by
    rw [ex_key hb 8 8 (by decide)]; congr 1; unfold c8; omega
  have e4 : (((e8 m).toUInt32 >>> ((16 : Int32).toUInt32 &&& Int32.toUInt32 31)).toInt32 &&& 255) = nI m.2.2.1 := by
    rw [ex_key hb 16 16 (by decide)]; congr 1; unfold c8; omega
  have e5 : (((e8 m).toUInt32 >>> ((24 : Int32).toUInt32 &&& Int32.toUInt32 31)).toInt32 &&& 255) = nI m.2.2.2 := by
    rw [ex_key hb 24 24 (by decide)]; congr 1; unfold c8; omega
  refine en_X5_rank _ _ M (sg_X5_rank_0 _ _ M ?_)
  intro v2 v3 v4 v5
  have f2 : v2 = nI m.1 := e2
  have f3 : v3 = nI m.2.1 := e3
  have f4 : v4 = nI m.2.2.1 := e4
  have f5 : v5 = nI m.2.2.2 := e5
  clear_value v2 v3 v4 v5
  subst f2 f3 f4 f5
  have e6 : (((((nI m.1 + nI m.2.1) + nI m.2.2.1) + nI m.2.2.2) <<< ((15 : Int32) &&& 31)) ||| (((30 : Int32) - nI m.2.2.2) <<< ((10 : Int32) &&& 31)) ||| (((30 : Int32) - nI m.2.2.1) <<< ((5 : Int32) &&& 31))) ||| ((30 : Int32) - nI m.2.1) = nI ((m.1 + m.2.1 + m.2.2.1 + m.2.2.2) * 32768 + (30 - m.2.2.2) * 1024 + (30 - m.2.2.1) * 32 + (30 - m.2.1)) := by
    have h30 : (30 : Int32) = nI 30 := rfl
    rw [h30, nI_add, nI_add, nI_add, pk_sub (by omega), pk_sub (by omega), pk_sub (by omega), pk_shlN _ 15 (by decide) (by omega), pk_shlN _ 10 (by decide) (by omega), pk_shlN _ 5 (by decide) (by omega), or_nI (by omega) (by omega), or_add (by omega)]
    rw [or_nI (by omega) (by omega), show (m.1 + m.2.1 + m.2.2.1 + m.2.2.2) * 2 ^ 15 + (30 - m.2.2.2) * 2 ^ 10 = ((m.1 + m.2.1 + m.2.2.1 + m.2.2.2) * 32 + (30 - m.2.2.2)) * 2 ^ 10 by omega, or_add (by omega)]
    rw [or_nI (by omega) (by omega), show ((m.1 + m.2.1 + m.2.2.1 + m.2.2.2) * 32 + (30 - m.2.2.2)) * 2 ^ 10 + (30 - m.2.2.1) * 2 ^ 5 = (((m.1 + m.2.1 + m.2.2.1 + m.2.2.2) * 32 + (30 - m.2.2.2)) * 32 + (30 - m.2.2.1)) * 2 ^ 5 by omega, or_add (by omega)]
  refine ⟨ho, fun c => ?_, fun c => ?_⟩
  · intro v6
    have f6 : v6 = _ := e6
    clear_value v6
    have hk0 : k ≠ 0 := fun z => c (by rw [hk, z]; rfl)
    refine ⟨ho, fun c2 => ⟨_, rfl, ?_⟩, fun c2 => ⟨_, rfl, ?_⟩⟩
    · have hk1 : k ≠ 1 := fun z => c2 (by rw [hk, z]; rfl)
      rw [f6, pk_shlN _ 22 (by decide) (by omega), or_nI (by omega) (by omega), or_add (by omega)]
      unfold ark at h
      rw [if_neg hk0, if_neg hk1] at h
      exact h
    · have hk1 : k = 1 := by
        have := Classical.not_not.mp c2
        rw [hk] at this
        exact (nI_eq (a := k) (b := 1) (by omega) (by omega)).mp this
      rw [f6]
      unfold ark at h
      rw [if_neg hk0, if_pos hk1, Nat.zero_add] at h
      exact h
  · have hk0 : k = 0 := by
      have := Classical.not_not.mp c
      rw [hk] at this
      exact (nI_z (by omega)).mp this
    refine ⟨_, rfl, ?_⟩
    rw [pk_shlN _ 24 (by decide) (by omega), pk_shlN _ 16 (by decide) (by omega), pk_shlN _ 8 (by decide) (by omega), or_nI (by omega) (by omega), or_add (by omega), or_nI (by omega) (by omega), show m.1 * 2 ^ 24 + m.2.1 * 2 ^ 16 = (m.1 * 256 + m.2.1) * 2 ^ 16 by omega, or_add (by omega), or_nI (by omega) (by omega), show (m.1 * 256 + m.2.1) * 2 ^ 16 + m.2.2.1 * 2 ^ 8 = ((m.1 * 256 + m.2.1) * 256 + m.2.2.1) * 2 ^ 8 by omega, or_add (by omega)]
    unfold ark at h
    rw [if_pos hk0] at h
    have e : ((m.1 * 256 + m.2.1) * 256 + m.2.2.1) * 2 ^ 8 + m.2.2.2 = m.1 * 16777216 + m.2.1 * 65536 + m.2.2.1 * 256 + m.2.2.2 := by omega
    rw [e]
    exact h
end
section
/-! stretches of the small code, by wip/whole/vcgen.py -/
abbrev wX6_empty (d : Nat) (Q : List Value → zM → Prop) : Nat → zLv → List Value → zM → Prop := zW (zCl gTb d) 0 kX6_empty Q
theorem en_X6_empty {d : Nat} {Q : List Value → zM → Prop} (a0 : Nat) (M : zM) (h : wX6_empty d Q 0 [some (.ref a0)] [] M) : zCl gTb (d + 1) nX6_empty [.ref a0] M Q := ⟨Nat.le_of_ble_eq_true rfl, h⟩
set_option maxRecDepth 100000 in
set_option maxHeartbeats 4000000 in
/-- from place 0 -/
theorem sg_X6_empty_0 {d : Nat} {Q : List Value → zM → Prop} (a0 : Nat) (M : zM) (h :
(zsh M a0).1 = 14 ∧ (let M1 : zM := zuI M a0 4 ((0 : Int32))
Q [] M1)
) : wX6_empty d Q 0 [some (.ref a0)] [] M := zseg (zCl_good gTb d) (fun _ => false) 9 h
abbrev wX6_become (d : Nat) (Q : List Value → zM → Prop) : Nat → zLv → List Value → zM → Prop := zW (zCl gTb d) 0 kX6_become Q
theorem en_X6_become {d : Nat} {Q : List Value → zM → Prop} (a0 : Nat) (a1 : Nat) (M : zM) (h : wX6_become d Q 0 [some (.ref a0), some (.ref a1)] [] M) : zCl gTb (d + 1) nX6_become [.ref a0, .ref a1] M Q := ⟨Nat.le_of_ble_eq_true rfl, h⟩
set_option maxRecDepth 100000 in
set_option maxHeartbeats 4000000 in
/-- from place 0 -/
theorem sg_X6_become_0 {d : Nat} {Q : List Value → zM → Prop} (a0 : Nat) (a1 : Nat) (M : zM) (h :
(zsh M a1).1 = 14 ∧ ((zsh M a0).1 = 14 ∧ (let M1 : zM := zuI M a0 4 (zI M a1 4)
(zsh M a1).1 = 14 ∧ ((zsh M a0).1 = 14 ∧ ((zsh M a0).1 = 14 ∧ ((zsh M (zR M a1 1)).1 = 3 ∧ ((zsh M (zR M a0 1)).1 = 3 ∧ (¬ ((0 : Int32)) < 0 ∧ (¬ ((0 : Int32)) < 0 ∧ (¬ (zI M1 a0 4) < 0 ∧ (((0 : Int32)).toNatClampNeg + (zI M1 a0 4).toNatClampNeg ≤ (zsh M (zR M a1 1)).2 ∧ (((0 : Int32)).toNatClampNeg + (zI M1 a0 4).toNatClampNeg ≤ (zsh M (zR M a0 1)).2 ∧ (let M2 : zM := zcL M1 (zR M a1 1) ((0 : Int32)).toNatClampNeg (zR M a0 1) ((0 : Int32)).toNatClampNeg (zI M1 a0 4).toNatClampNeg
(zsh M a1).1 = 14 ∧ ((zsh M a0).1 = 14 ∧ ((zsh M a0).1 = 14 ∧ ((zsh M (zR M a1 2)).1 = 2 ∧ ((zsh M (zR M a0 2)).1 = 2 ∧ (¬ ((0 : Int32)) < 0 ∧ (¬ ((0 : Int32)) < 0 ∧ (¬ (zI M2 a0 4) < 0 ∧ (((0 : Int32)).toNatClampNeg + (zI M2 a0 4).toNatClampNeg ≤ (zsh M (zR M a1 2)).2 ∧ (((0 : Int32)).toNatClampNeg + (zI M2 a0 4).toNatClampNeg ≤ (zsh M (zR M a0 2)).2 ∧ (let M3 : zM := zcI M2 (zR M a1 2) ((0 : Int32)).toNatClampNeg (zR M a0 2) ((0 : Int32)).toNatClampNeg (zI M2 a0 4).toNatClampNeg
(zsh M a1).1 = 14 ∧ ((zsh M a0).1 = 14 ∧ ((zsh M a0).1 = 14 ∧ ((zsh M (zR M a1 3)).1 = 2 ∧ ((zsh M (zR M a0 3)).1 = 2 ∧ (¬ ((0 : Int32)) < 0 ∧ (¬ ((0 : Int32)) < 0 ∧ (¬ (zI M3 a0 4) < 0 ∧ (((0 : Int32)).toNatClampNeg + (zI M3 a0 4).toNatClampNeg ≤ (zsh M (zR M a1 3)).2 ∧ (((0 : Int32)).toNatClampNeg + (zI M3 a0 4).toNatClampNeg ≤ (zsh M (zR M a0 3)).2 ∧ (let M4 : zM := zcI M3 (zR M a1 3) ((0 : Int32)).toNatClampNeg (zR M a0 3) ((0 : Int32)).toNatClampNeg (zI M3 a0 4).toNatClampNeg
Q [] M4))))))))))))))))))))))))))))))))
) : wX6_become d Q 0 [some (.ref a0), some (.ref a1)] [] M := zseg (zCl_good gTb d) (fun _ => false) 37 h
abbrev wX6_isLike (d : Nat) (Q : List Value → zM → Prop) : Nat → zLv → List Value → zM → Prop := zW (zCl gTb d) 2 kX6_isLike Q
theorem en_X6_isLike {d : Nat} {Q : List Value → zM → Prop} (a0 : Nat) (a1 : Nat) (M : zM) (h : wX6_isLike d Q 0 [some (.ref a0), some (.ref a1), none] [] M) : zCl gTb (d + 1) nX6_isLike [.ref a0, .ref a1] M Q := ⟨Nat.le_of_ble_eq_true rfl, h⟩
set_option maxRecDepth 100000 in
set_option maxHeartbeats 4000000 in
/-- from place 0 -/
theorem sg_X6_isLike_0 {d : Nat} {Q : List Value → zM → Prop} (a0 : Nat) (a1 : Nat) (M : zM) (h :
(zsh M a0).1 = 14 ∧ ((zsh M a1).1 = 14 ∧ (((zI M a0 4) = (zI M a1 4) → (wX6_isLike d Q 9 [some (.ref a0), some (.ref a1), some (.int ((0 : Int32)))] [] M)) ∧ (¬ ((zI M a0 4) = (zI M a1 4)) → (zb ((0 : Int32)) ∧ (Q [.int ((0 : Int32))] M)))))
) : wX6_isLike d Q 0 [some (.ref a0), some (.ref a1), none] [] M := zseg (zCl_good gTb d) (fun j => j == 9) 14 h
set_option maxRecDepth 100000 in
set_option maxHeartbeats 4000000 in
/-- from place 9 -/
theorem sg_X6_isLike_9 {d : Nat} {Q : List Value → zM → Prop} (a0 : Nat) (a1 : Nat) (a2 : Int32) (M : zM) (h :
(zsh M a0).1 = 14 ∧ (((zI M a0 4) ≤ a2 → (zb ((1 : Int32)) ∧ (Q [.int ((1 : Int32))] M))) ∧ (¬ ((zI M a0 4) ≤ a2) → ((zsh M a0).1 = 14 ∧ ((zsh M (zR M a0 2)).1 = 2 ∧ (zin a2 (zsh M (zR M a0 2)).2 ∧ ((zsh M a1).1 = 14 ∧ ((zsh M (zR M a1 2)).1 = 2 ∧ (zin a2 (zsh M (zR M a1 2)).2 ∧ ((¬ (zI M (zR M a0 2) a2.toNatClampNeg) = (zI M (zR M a1 2) a2.toNatClampNeg) → (zb ((0 : Int32)) ∧ (Q [.int ((0 : Int32))] M))) ∧ (¬ (¬ (zI M (zR M a0 2) a2.toNatClampNeg) = (zI M (zR M a1 2) a2.toNatClampNeg)) → ((zsh M a0).1 = 14 ∧ ((zsh M (zR M a0 1)).1 = 3 ∧ (zin a2 (zsh M (zR M a0 1)).2 ∧ ((zsh M a1).1 = 14 ∧ ((zsh M (zR M a1 1)).1 = 3 ∧ (zin a2 (zsh M (zR M a1 1)).2 ∧ (((lg_cmp (zL M (zR M a0 1) a2.toNatClampNeg) (zL M (zR M a1 1) a2.toNatClampNeg)) = 0 → (let v2_1 : Int32 := a2 + 1
wX6_isLike d Q 9 [some (.ref a0), some (.ref a1), some (.int v2_1)] [] M)) ∧ (¬ ((lg_cmp (zL M (zR M a0 1) a2.toNatClampNeg) (zL M (zR M a1 1) a2.toNatClampNeg)) = 0) → (zb ((0 : Int32)) ∧ (Q [.int ((0 : Int32))] M))))))))))))))))))))
) : wX6_isLike d Q 9 [some (.ref a0), some (.ref a1), some (.int a2)] [] M := zseg (zCl_good gTb d) (fun j => j == 9) 36 h
abbrev wX6_isWithout (d : Nat) (Q : List Value → zM → Prop) : Nat → zLv → List Value → zM → Prop := zW (zCl gTb d) 2 kX6_isWithout Q
theorem en_X6_isWithout {d : Nat} {Q : List Value → zM → Prop} (a0 : Nat) (a1 : Int32) (M : zM) (h : wX6_isWithout d Q 0 [some (.ref a0), some (.int a1), none, none] [] M) : zCl gTb (d + 1) nX6_isWithout [.ref a0, .int a1] M Q := ⟨Nat.le_of_ble_eq_true rfl, h⟩
set_option maxRecDepth 100000 in
set_option maxHeartbeats 4000000 in
/-- from place 0 -/
theorem sg_X6_isWithout_0 {d : Nat} {Q : List Value → zM → Prop} (a0 : Nat) (a1 : Int32) (M : zM) (h :
wX6_isWithout d Q 2 [some (.ref a0), some (.int a1), some (.int ((0 : Int32))), none] [] M
) : wX6_isWithout d Q 0 [some (.ref a0), some (.int a1), none, none] [] M := zseg (zCl_good gTb d) (fun j => j == 2 || j == 8) 7 h
set_option maxRecDepth 100000 in
set_option maxHeartbeats 4000000 in
/-- from place 2 -/
theorem sg_X6_isWithout_2 {d : Nat} {Q : List Value → zM → Prop} (a0 : Nat) (a1 : Int32) (a2 : Int32) (o3 : Option Value) (M : zM) (h :
(zsh M a0).1 = 14 ∧ (((zI M a0 4) ≤ a2 → (zb ((1 : Int32)) ∧ (Q [.int ((1 : Int32))] M))) ∧ (¬ ((zI M a0 4) ≤ a2) → (wX6_isWithout d Q 8 [some (.ref a0), some (.int a1), some (.int a2), some (.int ((0 : Int32)))] [] M)))
) : wX6_isWithout d Q 2 [some (.ref a0), some (.int a1), some (.int a2), o3] [] M := zseg (zCl_good gTb d) (fun j => j == 2 || j == 8) 13 h
set_option maxRecDepth 100000 in
set_option maxHeartbeats 4000000 in
/-- from place 8 -/
theorem sg_X6_isWithout_8 {d : Nat} {Q : List Value → zM → Prop} (a0 : Nat) (a1 : Int32) (a2 : Int32) (a3 : Int32) (M : zM) (h :
(a1 ≤ a3 → (let v2_1 : Int32 := a2 + 1
wX6_isWithout d Q 2 [some (.ref a0), some (.int a1), some (.int v2_1), some (.int a3)] [] M)) ∧ (¬ (a1 ≤ a3) → ((zsh M a0).1 = 14 ∧ ((zsh M (zR M a0 2)).1 = 2 ∧ (zin a2 (zsh M (zR M a0 2)).2 ∧ (ycI d nX4_exponent [.int (zI M (zR M a0 2) a2.toNatClampNeg), .int a3] M fun c3 M2 => ((c3 = 0 → (let v3_4 : Int32 := a3 + 1
wX6_isWithout d Q 8 [some (.ref a0), some (.int a1), some (.int a2), some (.int v3_4)] [] M2)) ∧ (¬ (c3 = 0) → (zb ((0 : Int32)) ∧ (Q [.int ((0 : Int32))] M2)))))))))
) : wX6_isWithout d Q 8 [some (.ref a0), some (.int a1), some (.int a2), some (.int a3)] [] M := zseg (zCl_good gTb d) (fun j => j == 2 || j == 8) 21 h
abbrev wX6_find (d : Nat) (Q : List Value → zM → Prop) : Nat → zLv → List Value → zM → Prop := zW (zCl gTb d) 1 kX6_find Q
theorem en_X6_find {d : Nat} {Q : List Value → zM → Prop} (a0 : Nat) (a1 : Int32) (M : zM) (h : wX6_find d Q 0 [some (.ref a0), some (.int a1), none, none, none, none] [] M) : zCl gTb (d + 1) nX6_find [.ref a0, .int a1] M Q := ⟨Nat.le_of_ble_eq_true rfl, h⟩
set_option maxRecDepth 100000 in
set_option maxHeartbeats 4000000 in
/-- from place 0 -/
theorem sg_X6_find_0 {d : Nat} {Q : List Value → zM → Prop} (a0 : Nat) (a1 : Int32) (M : zM) (h :
(zsh M a0).1 = 14 ∧ (let v3_1 : Int32 := zI M a0 4
wX6_find d Q 7 [some (.ref a0), some (.int a1), some (.int ((0 : Int32))), some (.int v3_1), some (.int ((0 : Int32))), none] [] M)
) : wX6_find d Q 0 [some (.ref a0), some (.int a1), none, none, none, none] [] M := zseg (zCl_good gTb d) (fun j => j == 7) 12 h
set_option maxRecDepth 100000 in
set_option maxHeartbeats 4000000 in
/-- from place 7 -/
theorem sg_X6_find_7 {d : Nat} {Q : List Value → zM → Prop} (a0 : Nat) (a1 : Int32) (a2 : Int32) (a3 : Int32) (a4 : Int32) (o5 : Option Value) (M : zM) (h :
(((8 : Int32)) ≤ a4 → (Q [.int a2] M)) ∧ (¬ (((8 : Int32)) ≤ a4) → ((a3 ≤ a2 → (Q [.int a2] M)) ∧ (¬ (a3 ≤ a2) → (let v5_1 : Int32 := ((a2 + a3).toUInt32 >>> (((1 : Int32)).toUInt32 &&& Int32.toUInt32 31)).toInt32
(zsh M a0).1 = 14 ∧ ((zsh M (zR M a0 3)).1 = 2 ∧ (zin v5_1 (zsh M (zR M a0 3)).2 ∧ (((zI M (zR M a0 3) v5_1.toNatClampNeg) ≤ a1 → (let v4_2 : Int32 := a4 + 1
wX6_find d Q 7 [some (.ref a0), some (.int a1), some (.int a2), some (.int v5_1), some (.int v4_2), some (.int v5_1)] [] M)) ∧ (¬ ((zI M (zR M a0 3) v5_1.toNatClampNeg) ≤ a1) → (let v2_3 : Int32 := v5_1 + ((1 : Int32))
let v4_4 : Int32 := a4 + 1
wX6_find d Q 7 [some (.ref a0), some (.int a1), some (.int v2_3), some (.int a3), some (.int v4_4), some (.int v5_1)] [] M)))))))))
) : wX6_find d Q 7 [some (.ref a0), some (.int a1), some (.int a2), some (.int a3), some (.int a4), o5] [] M := zseg (zCl_good gTb d) (fun j => j == 7) 38 h
abbrev wX6_shift (d : Nat) (Q : List Value → zM → Prop) : Nat → zLv → List Value → zM → Prop := zW (zCl gTb d) 0 kX6_shift Q
theorem en_X6_shift {d : Nat} {Q : List Value → zM → Prop} (a0 : Nat) (a1 : Int32) (a2 : Int32) (M : zM) (h : wX6_shift d Q 0 [some (.ref a0), some (.int a1), some (.int a2)] [] M) : zCl gTb (d + 1) nX6_shift [.ref a0, .int a1, .int a2] M Q := ⟨Nat.le_of_ble_eq_true rfl, h⟩
set_option maxRecDepth 100000 in
set_option maxHeartbeats 4000000 in
/-- from place 0 -/
theorem sg_X6_shift_0 {d : Nat} {Q : List Value → zM → Prop} (a0 : Nat) (a1 : Int32) (a2 : Int32) (M : zM) (h :
(zsh M a0).1 = 14 ∧ ((zsh M a0).1 = 14 ∧ ((zsh M a0).1 = 14 ∧ ((zsh M (zR M a0 1)).1 = 3 ∧ ((zsh M (zR M a0 1)).1 = 3 ∧ (¬ a1 < 0 ∧ (¬ a2 < 0 ∧ (¬ ((zI M a0 4) - a1) < 0 ∧ (a1.toNatClampNeg + ((zI M a0 4) - a1).toNatClampNeg ≤ (zsh M (zR M a0 1)).2 ∧ (a2.toNatClampNeg + ((zI M a0 4) - a1).toNatClampNeg ≤ (zsh M (zR M a0 1)).2 ∧ (let M1 : zM := zcL M (zR M a0 1) a1.toNatClampNeg (zR M a0 1) a2.toNatClampNeg ((zI M a0 4) - a1).toNatClampNeg
(zsh M a0).1 = 14 ∧ ((zsh M a0).1 = 14 ∧ ((zsh M a0).1 = 14 ∧ ((zsh M (zR M a0 2)).1 = 2 ∧ ((zsh M (zR M a0 2)).1 = 2 ∧ (¬ a1 < 0 ∧ (¬ a2 < 0 ∧ (¬ ((zI M1 a0 4) - a1) < 0 ∧ (a1.toNatClampNeg + ((zI M1 a0 4) - a1).toNatClampNeg ≤ (zsh M (zR M a0 2)).2 ∧ (a2.toNatClampNeg + ((zI M1 a0 4) - a1).toNatClampNeg ≤ (zsh M (zR M a0 2)).2 ∧ (let M2 : zM := zcI M1 (zR M a0 2) a1.toNatClampNeg (zR M a0 2) a2.toNatClampNeg ((zI M1 a0 4) - a1).toNatClampNeg
(zsh M a0).1 = 14 ∧ ((zsh M a0).1 = 14 ∧ ((zsh M a0).1 = 14 ∧ ((zsh M (zR M a0 3)).1 = 2 ∧ ((zsh M (zR M a0 3)).1 = 2 ∧ (¬ a1 < 0 ∧ (¬ a2 < 0 ∧ (¬ ((zI M2 a0 4) - a1) < 0 ∧ (a1.toNatClampNeg + ((zI M2 a0 4) - a1).toNatClampNeg ≤ (zsh M (zR M a0 3)).2 ∧ (a2.toNatClampNeg + ((zI M2 a0 4) - a1).toNatClampNeg ≤ (zsh M (zR M a0 3)).2 ∧ (let M3 : zM := zcI M2 (zR M a0 3) a1.toNatClampNeg (zR M a0 3) a2.toNatClampNeg ((zI M2 a0 4) - a1).toNatClampNeg
(zsh M a0).1 = 14 ∧ ((zsh M a0).1 = 14 ∧ (let M4 : zM := zuI M3 a0 4 ((zI M3 a0 4) + (a2 - a1))
Q [] M4))))))))))))))))))))))))))))))))
) : wX6_shift d Q 0 [some (.ref a0), some (.int a1), some (.int a2)] [] M := zseg (zCl_good gTb d) (fun _ => false) 47 h
abbrev wX6_behead (d : Nat) (Q : List Value → zM → Prop) : Nat → zLv → List Value → zM → Prop := zW (zCl gTb d) 0 kX6_behead Q
theorem en_X6_behead {d : Nat} {Q : List Value → zM → Prop} (a0 : Nat) (M : zM) (h : wX6_behead d Q 0 [some (.ref a0)] [] M) : zCl gTb (d + 1) nX6_behead [.ref a0] M Q := ⟨Nat.le_of_ble_eq_true rfl, h⟩
set_option maxRecDepth 100000 in
set_option maxHeartbeats 4000000 in
/-- from place 0 -/
theorem sg_X6_behead_0 {d : Nat} {Q : List Value → zM → Prop} (a0 : Nat) (M : zM) (h :
(zsh M a0).1 = 14 ∧ (((zI M a0 4) ≤ 0 → (Q [] M)) ∧ (¬ ((zI M a0 4) ≤ 0) → ((zsh M a0).1 = 14 ∧ (ycV d nX6_shift [.ref a0, .int ((1 : Int32)), .int ((0 : Int32))] M fun M1 => (Q [] M1)))))
) : wX6_behead d Q 0 [some (.ref a0)] [] M := zseg (zCl_good gTb d) (fun _ => false) 14 h
abbrev wX6_come (d : Nat) (Q : List Value → zM → Prop) : Nat → zLv → List Value → zM → Prop := zW (zCl gTb d) 2 kX6_come Q
theorem en_X6_come {d : Nat} {Q : List Value → zM → Prop} (a0 : Nat) (a1 : Int64) (a3 : Int32) (M : zM) (h : wX6_come d Q 0 [some (.ref a0), some (.long a1), none, some (.int a3), none, none, none, none] [] M) : zCl gTb (d + 1) nX6_come [.ref a0, .long a1, .int a3] M Q := ⟨Nat.le_of_ble_eq_true rfl, h⟩
set_option maxRecDepth 100000 in
set_option maxHeartbeats 4000000 in
/-- from place 0 -/
theorem sg_X6_come_0 {d : Nat} {Q : List Value → zM → Prop} (a0 : Nat) (a1 : Int64) (a3 : Int32) (M : zM) (h :
(zsh M a0).1 = 14 ∧ ((zsh M (zR M a0 0)).1 = 13 ∧ (ycI d nX5_rank [.ref (zR M a0 0), .int a3] M fun c2 M1 => ((zsh M1 a0).1 = 14 ∧ (ycI d nX6_find [.ref a0, .int c2] M1 fun c4 M3 => ((zsh M3 a0).1 = 14 ∧ (((zI M3 a0 4) ≤ c4 → (wX6_come d Q 54 [some (.ref a0), some (.long a1), none, some (.int a3), some (.int c2), some (.int c4), none, none] [] M3)) ∧ (¬ ((zI M3 a0 4) ≤ c4) → ((zsh M3 a0).1 = 14 ∧ ((zsh M3 (zR M3 a0 3)).1 = 2 ∧ (zin c4 (zsh M3 (zR M3 a0 3)).2 ∧ ((¬ (zI M3 (zR M3 a0 3) c4.toNatClampNeg) = c2 → (wX6_come d Q 54 [some (.ref a0), some (.long a1), none, some (.int a3), some (.int c2), some (.int c4), none, none] [] M3)) ∧ (¬ (¬ (zI M3 (zR M3 a0 3) c4.toNatClampNeg) = c2) → ((zsh M3 a0).1 = 14 ∧ ((zsh M3 (zR M3 a0 1)).1 = 3 ∧ (zin c4 (zsh M3 (zR M3 a0 1)).2 ∧ (ycJ d nX2_sum [.long (zL M3 (zR M3 a0 1) c4.toNatClampNeg), .long a1] M3 fun c6 M5 => ((¬ (lg_cmp c6 ((1 : Int64))) = 0 → (((lg_cmp c6 ((0 : Int64))) = 0 → (wX6_come d Q 46 [some (.ref a0), some (.long a1), none, some (.int a3), some (.int c2), some (.int c4), some (.long c6), none] [] M5)) ∧ (¬ ((lg_cmp c6 ((0 : Int64))) = 0) → ((zsh M5 a0).1 = 14 ∧ ((zsh M5 (zR M5 a0 1)).1 = 3 ∧ (zin c4 (zsh M5 (zR M5 a0 1)).2 ∧ (let M7 : zM := zuL M5 (zR M5 a0 1) c4.toNatClampNeg c6
wX6_come d Q 46 [some (.ref a0), some (.long a1), none, some (.int a3), some (.int c2), some (.int c4), some (.long c6), none] [] M7))))))) ∧ (¬ (¬ (lg_cmp c6 ((1 : Int64))) = 0) → ((zsh M5 a0).1 = 14 ∧ (ycV d nX6_shift [.ref a0, .int (c4 + ((1 : Int32))), .int c4] M5 fun M8 => (wX6_come d Q 46 [some (.ref a0), some (.long a1), none, some (.int a3), some (.int c2), some (.int c4), some (.long c6), none] [] M8)))))))))))))))))))))
) : wX6_come d Q 0 [some (.ref a0), some (.long a1), none, some (.int a3), none, none, none, none] [] M := zseg (zCl_good gTb d) (fun j => j == 46 || j == 54) 51 h
set_option maxRecDepth 100000 in
set_option maxHeartbeats 4000000 in
/-- from place 46 -/
theorem sg_X6_come_46 {d : Nat} {Q : List Value → zM → Prop} (o0 : Option Value) (o1 : Option Value) (o2 : Option Value) (o3 : Option Value) (o4 : Option Value) (o5 : Option Value) (a6 : Int64) (M : zM) (h :
((lg_cmp a6 ((0 : Int64))) = 0 → (zb ((0 : Int32)) ∧ (Q [.int ((0 : Int32))] M))) ∧ (¬ ((lg_cmp a6 ((0 : Int64))) = 0) → (zb ((1 : Int32)) ∧ (Q [.int ((1 : Int32))] M)))
) : wX6_come d Q 46 [o0, o1, o2, o3, o4, o5, some (.long a6), none] [] M := zseg (zCl_good gTb d) (fun j => j == 46 || j == 54) 14 h
set_option maxRecDepth 100000 in
set_option maxHeartbeats 4000000 in
/-- from place 54 -/
theorem sg_X6_come_54 {d : Nat} {Q : List Value → zM → Prop} (a0 : Nat) (a1 : Int64) (a3 : Int32) (a4 : Int32) (a5 : Int32) (o6 : Option Value) (o7 : Option Value) (M : zM) (h :
(zsh M a0).1 = 14 ∧ (((zI M a0 4) < ((100 : Int32)) → ((zsh M a0).1 = 14 ∧ (ycV d nX6_shift [.ref a0, .int a5, .int (a5 + ((1 : Int32)))] M fun M1 => ((zsh M1 a0).1 = 14 ∧ ((zsh M1 (zR M1 a0 1)).1 = 3 ∧ (zin a5 (zsh M1 (zR M1 a0 1)).2 ∧ (let M2 : zM := zuL M1 (zR M1 a0 1) a5.toNatClampNeg a1
(zsh M1 a0).1 = 14 ∧ ((zsh M1 (zR M1 a0 2)).1 = 2 ∧ (zin a5 (zsh M1 (zR M1 a0 2)).2 ∧ (let M3 : zM := zuI M2 (zR M1 a0 2) a5.toNatClampNeg a3
(zsh M1 a0).1 = 14 ∧ ((zsh M1 (zR M1 a0 3)).1 = 2 ∧ (zin a5 (zsh M1 (zR M1 a0 3)).2 ∧ (let M4 : zM := zuI M3 (zR M1 a0 3) a5.toNatClampNeg a4
zb ((1 : Int32)) ∧ (Q [.int ((1 : Int32))] M4)))))))))))))) ∧ (¬ ((zI M a0 4) < ((100 : Int32))) → (zb ((0 : Int32)) ∧ (Q [.int ((0 : Int32))] M))))
) : wX6_come d Q 54 [some (.ref a0), some (.long a1), none, some (.int a3), some (.int a4), some (.int a5), o6, o7] [] M := zseg (zCl_good gTb d) (fun j => j == 46 || j == 54) 34 h
abbrev wX6_addMultiple (d : Nat) (Q : List Value → zM → Prop) : Nat → zLv → List Value → zM → Prop := zW (zCl gTb d) 2 kX6_addMultiple Q
theorem en_X6_addMultiple {d : Nat} {Q : List Value → zM → Prop} (a0 : Nat) (a1 : Int64) (a3 : Int32) (a4 : Nat) (M : zM) (h : wX6_addMultiple d Q 0 [some (.ref a0), some (.long a1), none, some (.int a3), some (.ref a4), none, none, none, none] [] M) : zCl gTb (d + 1) nX6_addMultiple [.ref a0, .long a1, .int a3, .ref a4] M Q := ⟨Nat.le_of_ble_eq_true rfl, h⟩
set_option maxRecDepth 100000 in
set_option maxHeartbeats 4000000 in
/-- from place 0 -/
theorem sg_X6_addMultiple_0 {d : Nat} {Q : List Value → zM → Prop} (a0 : Nat) (a1 : Int64) (a3 : Int32) (a4 : Nat) (M : zM) (h :
wX6_addMultiple d Q 2 [some (.ref a0), some (.long a1), none, some (.int a3), some (.ref a4), some (.int ((0 : Int32))), none, none, none] [] M
) : wX6_addMultiple d Q 0 [some (.ref a0), some (.long a1), none, some (.int a3), some (.ref a4), none, none, none, none] [] M := zseg (zCl_good gTb d) (fun j => j == 2) 7 h
set_option maxRecDepth 100000 in
set_option maxHeartbeats 4000000 in
/-- from place 2 -/
theorem sg_X6_addMultiple_2 {d : Nat} {Q : List Value → zM → Prop} (a0 : Nat) (a1 : Int64) (a3 : Int32) (a4 : Nat) (a5 : Int32) (o6 : Option Value) (o7 : Option Value) (o8 : Option Value) (M : zM) (h :
(zsh M a4).1 = 14 ∧ (((zI M a4 4) ≤ a5 → (zb ((1 : Int32)) ∧ (Q [.int ((1 : Int32))] M))) ∧ (¬ ((zI M a4 4) ≤ a5) → ((zsh M a4).1 = 14 ∧ ((zsh M (zR M a4 2)).1 = 2 ∧ (zin a5 (zsh M (zR M a4 2)).2 ∧ (let v6_1 : Int32 := (zI M (zR M a4 2) a5.toNatClampNeg) + a3
ycI d nX4_isInside [.int v6_1] M fun c3 M2 => ((¬ c3 = 0 → ((zsh M2 a4).1 = 14 ∧ ((zsh M2 (zR M2 a4 1)).1 = 3 ∧ (zin a5 (zsh M2 (zR M2 a4 1)).2 ∧ (ycJ d nX2_product [.long (zL M2 (zR M2 a4 1) a5.toNatClampNeg), .long a1] M2 fun c5 M4 => (((lg_cmp c5 ((0 : Int64))) = 0 → (zb ((0 : Int32)) ∧ (Q [.int ((0 : Int32))] M4))) ∧ (¬ ((lg_cmp c5 ((0 : Int64))) = 0) → ((zsh M4 a0).1 = 14 ∧ (ycI d nX6_come [.ref a0, .long c5, .int v6_1] M4 fun c7 M6 => ((¬ c7 = 0 → (let v5_8 : Int32 := a5 + 1
wX6_addMultiple d Q 2 [some (.ref a0), some (.long a1), none, some (.int a3), some (.ref a4), some (.int v5_8), some (.int v6_1), some (.long c5), none] [] M6)) ∧ (¬ (¬ c7 = 0) → (zb ((0 : Int32)) ∧ (Q [.int ((0 : Int32))] M6))))))))))))) ∧ (¬ (¬ c3 = 0) → (zb ((0 : Int32)) ∧ (Q [.int ((0 : Int32))] M2))))))))))
) : wX6_addMultiple d Q 2 [some (.ref a0), some (.long a1), none, some (.int a3), some (.ref a4), some (.int a5), o6, o7, o8] [] M := zseg (zCl_good gTb d) (fun j => j == 2) 45 h
abbrev wX6_addProduct (d : Nat) (Q : List Value → zM → Prop) : Nat → zLv → List Value → zM → Prop := zW (zCl gTb d) 2 kX6_addProduct Q
theorem en_X6_addProduct {d : Nat} {Q : List Value → zM → Prop} (a0 : Nat) (a1 : Nat) (a2 : Nat) (M : zM) (h : wX6_addProduct d Q 0 [some (.ref a0), some (.ref a1), some (.ref a2), none] [] M) : zCl gTb (d + 1) nX6_addProduct [.ref a0, .ref a1, .ref a2] M Q := ⟨Nat.le_of_ble_eq_true rfl, h⟩
set_option maxRecDepth 100000 in
set_option maxHeartbeats 4000000 in
/-- from place 0 -/
theorem sg_X6_addProduct_0 {d : Nat} {Q : List Value → zM → Prop} (a0 : Nat) (a1 : Nat) (a2 : Nat) (M : zM) (h :
wX6_addProduct d Q 2 [some (.ref a0), some (.ref a1), some (.ref a2), some (.int ((0 : Int32)))] [] M
) : wX6_addProduct d Q 0 [some (.ref a0), some (.ref a1), some (.ref a2), none] [] M := zseg (zCl_good gTb d) (fun j => j == 2) 7 h
set_option maxRecDepth 100000 in
set_option maxHeartbeats 4000000 in
/-- from place 2 -/
theorem sg_X6_addProduct_2 {d : Nat} {Q : List Value → zM → Prop} (a0 : Nat) (a1 : Nat) (a2 : Nat) (a3 : Int32) (M : zM) (h :
(zsh M a1).1 = 14 ∧ (((zI M a1 4) ≤ a3 → (zb ((1 : Int32)) ∧ (Q [.int ((1 : Int32))] M))) ∧ (¬ ((zI M a1 4) ≤ a3) → ((zsh M a1).1 = 14 ∧ ((zsh M (zR M a1 1)).1 = 3 ∧ (zin a3 (zsh M (zR M a1 1)).2 ∧ ((zsh M a1).1 = 14 ∧ ((zsh M (zR M a1 2)).1 = 2 ∧ (zin a3 (zsh M (zR M a1 2)).2 ∧ ((zsh M a0).1 = 14 ∧ (ycI d nX6_addMultiple [.ref a0, .long (zL M (zR M a1 1) a3.toNatClampNeg), .int (zI M (zR M a1 2) a3.toNatClampNeg), .ref a2] M fun c2 M1 => ((¬ c2 = 0 → (let v3_3 : Int32 := a3 + 1
wX6_addProduct d Q 2 [some (.ref a0), some (.ref a1), some (.ref a2), some (.int v3_3)] [] M1)) ∧ (¬ (¬ c2 = 0) → (zb ((0 : Int32)) ∧ (Q [.int ((0 : Int32))] M1))))))))))))))
) : wX6_addProduct d Q 2 [some (.ref a0), some (.ref a1), some (.ref a2), some (.int a3)] [] M := zseg (zCl_good gTb d) (fun j => j == 2) 27 h
abbrev wX6_becomeProduct (d : Nat) (Q : List Value → zM → Prop) : Nat → zLv → List Value → zM → Prop := zW (zCl gTb d) 2 kX6_becomeProduct Q
theorem en_X6_becomeProduct {d : Nat} {Q : List Value → zM → Prop} (a0 : Nat) (a1 : Nat) (a2 : Nat) (M : zM) (h : wX6_becomeProduct d Q 0 [some (.ref a0), some (.ref a1), some (.ref a2)] [] M) : zCl gTb (d + 1) nX6_becomeProduct [.ref a0, .ref a1, .ref a2] M Q := ⟨Nat.le_of_ble_eq_true rfl, h⟩
set_option maxRecDepth 100000 in
set_option maxHeartbeats 4000000 in
/-- from place 0 -/
theorem sg_X6_becomeProduct_0 {d : Nat} {Q : List Value → zM → Prop} (a0 : Nat) (a1 : Nat) (a2 : Nat) (M : zM) (h :
(zsh M a0).1 = 14 ∧ (ycV d nX6_empty [.ref a0] M fun M1 => ((zsh M1 a0).1 = 14 ∧ (ycI d nX6_addProduct [.ref a0, .ref a1, .ref a2] M1 fun c3 M2 => (zb c3 ∧ (Q [.int c3] M2)))))
) : wX6_becomeProduct d Q 0 [some (.ref a0), some (.ref a1), some (.ref a2)] [] M := zseg (zCl_good gTb d) (fun _ => false) 12 h
abbrev wX6_multiply (d : Nat) (Q : List Value → zM → Prop) : Nat → zLv → List Value → zM → Prop := zW (zCl gTb d) 2 kX6_multiply Q
theorem en_X6_multiply {d : Nat} {Q : List Value → zM → Prop} (a0 : Nat) (a1 : Int64) (M : zM) (h : wX6_multiply d Q 0 [some (.ref a0), some (.long a1), none, none, none, none] [] M) : zCl gTb (d + 1) nX6_multiply [.ref a0, .long a1] M Q := ⟨Nat.le_of_ble_eq_true rfl, h⟩
set_option maxRecDepth 100000 in
set_option maxHeartbeats 4000000 in
/-- from place 0 -/
theorem sg_X6_multiply_0 {d : Nat} {Q : List Value → zM → Prop} (a0 : Nat) (a1 : Int64) (M : zM) (h :
wX6_multiply d Q 2 [some (.ref a0), some (.long a1), none, some (.int ((0 : Int32))), none, none] [] M
) : wX6_multiply d Q 0 [some (.ref a0), some (.long a1), none, none, none, none] [] M := zseg (zCl_good gTb d) (fun j => j == 2) 7 h
set_option maxRecDepth 100000 in
set_option maxHeartbeats 4000000 in
/-- from place 2 -/
theorem sg_X6_multiply_2 {d : Nat} {Q : List Value → zM → Prop} (a0 : Nat) (a1 : Int64) (a3 : Int32) (o4 : Option Value) (o5 : Option Value) (M : zM) (h :
(zsh M a0).1 = 14 ∧ (((zI M a0 4) ≤ a3 → (zb ((1 : Int32)) ∧ (Q [.int ((1 : Int32))] M))) ∧ (¬ ((zI M a0 4) ≤ a3) → ((zsh M a0).1 = 14 ∧ ((zsh M (zR M a0 1)).1 = 3 ∧ (zin a3 (zsh M (zR M a0 1)).2 ∧ (ycJ d nX2_product [.long (zL M (zR M a0 1) a3.toNatClampNeg), .long a1] M fun c2 M1 => ((¬ (lg_cmp c2 ((0 : Int64))) = 0 → ((zsh M1 a0).1 = 14 ∧ ((zsh M1 (zR M1 a0 1)).1 = 3 ∧ (zin a3 (zsh M1 (zR M1 a0 1)).2 ∧ (let M3 : zM := zuL M1 (zR M1 a0 1) a3.toNatClampNeg c2
let v3_4 : Int32 := a3 + 1
wX6_multiply d Q 2 [some (.ref a0), some (.long a1), none, some (.int v3_4), some (.long c2), none] [] M3))))) ∧ (¬ (¬ (lg_cmp c2 ((0 : Int64))) = 0) → (zb ((0 : Int32)) ∧ (Q [.int ((0 : Int32))] M1))))))))))
) : wX6_multiply d Q 2 [some (.ref a0), some (.long a1), none, some (.int a3), o4, o5] [] M := zseg (zCl_good gTb d) (fun j => j == 2) 31 h
abbrev wX6_arrange (d : Nat) (Q : List Value → zM → Prop) : Nat → zLv → List Value → zM → Prop := zW (zCl gTb d) 0 kX6_arrange Q
theorem en_X6_arrange {d : Nat} {Q : List Value → zM → Prop} (a0 : Nat) (M : zM) (h : wX6_arrange d Q 0 [some (.ref a0), none, none, none, none, none, none] [] M) : zCl gTb (d + 1) nX6_arrange [.ref a0] M Q := ⟨Nat.le_of_ble_eq_true rfl, h⟩
set_option maxRecDepth 100000 in
set_option maxHeartbeats 4000000 in
/-- from place 0 -/
theorem sg_X6_arrange_0 {d : Nat} {Q : List Value → zM → Prop} (a0 : Nat) (M : zM) (h :
wX6_arrange d Q 2 [some (.ref a0), some (.int ((0 : Int32))), none, none, none, none, none] [] M
) : wX6_arrange d Q 0 [some (.ref a0), none, none, none, none, none, none] [] M := zseg (zCl_good gTb d) (fun j => j == 2 || j == 23 || j == 65) 7 h
set_option maxRecDepth 100000 in
set_option maxHeartbeats 4000000 in
/-- from place 2 -/
theorem sg_X6_arrange_2 {d : Nat} {Q : List Value → zM → Prop} (a0 : Nat) (a1 : Int32) (o2 : Option Value) (o3 : Option Value) (o4 : Option Value) (o5 : Option Value) (o6 : Option Value) (M : zM) (h :
(zsh M a0).1 = 14 ∧ (((zI M a0 4) ≤ a1 → (Q [] M)) ∧ (¬ ((zI M a0 4) ≤ a1) → ((zsh M a0).1 = 14 ∧ ((zsh M (zR M a0 1)).1 = 3 ∧ (zin a1 (zsh M (zR M a0 1)).2 ∧ (let w2_1 : Int64 := zL M (zR M a0 1) a1.toNatClampNeg
(zsh M a0).1 = 14 ∧ ((zsh M (zR M a0 2)).1 = 2 ∧ (zin a1 (zsh M (zR M a0 2)).2 ∧ (let v4_2 : Int32 := zI M (zR M a0 2) a1.toNatClampNeg
(zsh M a0).1 = 14 ∧ ((zsh M (zR M a0 0)).1 = 13 ∧ (ycI d nX5_rank [.ref (zR M a0 0), .int v4_2] M fun c4 M3 => (wX6_arrange d Q 23 [some (.ref a0), some (.int a1), some (.long w2_1), none, some (.int v4_2), some (.int c4), some (.int a1)] [] M3))))))))))))
) : wX6_arrange d Q 2 [some (.ref a0), some (.int a1), o2, o3, o4, o5, o6] [] M := zseg (zCl_good gTb d) (fun j => j == 2 || j == 23 || j == 65) 27 h
set_option maxRecDepth 100000 in
set_option maxHeartbeats 4000000 in
/-- from place 23 -/
theorem sg_X6_arrange_23 {d : Nat} {Q : List Value → zM → Prop} (a0 : Nat) (a1 : Int32) (a2 : Int64) (a4 : Int32) (a5 : Int32) (a6 : Int32) (M : zM) (h :
(a6 ≤ 0 → (wX6_arrange d Q 65 [some (.ref a0), some (.int a1), some (.long a2), none, some (.int a4), some (.int a5), some (.int a6)] [] M)) ∧ (¬ (a6 ≤ 0) → ((zsh M a0).1 = 14 ∧ ((zsh M (zR M a0 3)).1 = 2 ∧ (zin (a6 - ((1 : Int32))) (zsh M (zR M a0 3)).2 ∧ ((a5 ≤ (zI M (zR M a0 3) (a6 - ((1 : Int32))).toNatClampNeg) → (wX6_arrange d Q 65 [some (.ref a0), some (.int a1), some (.long a2), none, some (.int a4), some (.int a5), some (.int a6)] [] M)) ∧ (¬ (a5 ≤ (zI M (zR M a0 3) (a6 - ((1 : Int32))).toNatClampNeg)) → ((zsh M a0).1 = 14 ∧ ((zsh M a0).1 = 14 ∧ ((zsh M (zR M a0 1)).1 = 3 ∧ (zin (a6 - ((1 : Int32))) (zsh M (zR M a0 1)).2 ∧ ((zsh M (zR M a0 1)).1 = 3 ∧ (zin a6 (zsh M (zR M a0 1)).2 ∧ (let M1 : zM := zuL M (zR M a0 1) a6.toNatClampNeg (zL M (zR M a0 1) (a6 - ((1 : Int32))).toNatClampNeg)
(zsh M a0).1 = 14 ∧ ((zsh M a0).1 = 14 ∧ ((zsh M (zR M a0 2)).1 = 2 ∧ (zin (a6 - ((1 : Int32))) (zsh M (zR M a0 2)).2 ∧ ((zsh M (zR M a0 2)).1 = 2 ∧ (zin a6 (zsh M (zR M a0 2)).2 ∧ (let M2 : zM := zuI M1 (zR M a0 2) a6.toNatClampNeg (zI M1 (zR M a0 2) (a6 - ((1 : Int32))).toNatClampNeg)
(zsh M a0).1 = 14 ∧ ((zsh M a0).1 = 14 ∧ ((zsh M (zR M a0 3)).1 = 2 ∧ (zin (a6 - ((1 : Int32))) (zsh M (zR M a0 3)).2 ∧ ((zsh M (zR M a0 3)).1 = 2 ∧ (zin a6 (zsh M (zR M a0 3)).2 ∧ (let M3 : zM := zuI M2 (zR M a0 3) a6.toNatClampNeg (zI M2 (zR M a0 3) (a6 - ((1 : Int32))).toNatClampNeg)
let v6_4 : Int32 := a6 + (-1)
wX6_arrange d Q 23 [some (.ref a0), some (.int a1), some (.long a2), none, some (.int a4), some (.int a5), some (.int v6_4)] [] M3)))))))))))))))))))))))))
) : wX6_arrange d Q 23 [some (.ref a0), some (.int a1), some (.long a2), none, some (.int a4), some (.int a5), some (.int a6)] [] M := zseg (zCl_good gTb d) (fun j => j == 2 || j == 23 || j == 65) 47 h
set_option maxRecDepth 100000 in
set_option maxHeartbeats 4000000 in
/-- from place 65 -/
theorem sg_X6_arrange_65 {d : Nat} {Q : List Value → zM → Prop} (a0 : Nat) (a1 : Int32) (a2 : Int64) (a4 : Int32) (a5 : Int32) (a6 : Int32) (M : zM) (h :
(zsh M a0).1 = 14 ∧ ((zsh M (zR M a0 1)).1 = 3 ∧ (zin a6 (zsh M (zR M a0 1)).2 ∧ (let M1 : zM := zuL M (zR M a0 1) a6.toNatClampNeg a2
(zsh M a0).1 = 14 ∧ ((zsh M (zR M a0 2)).1 = 2 ∧ (zin a6 (zsh M (zR M a0 2)).2 ∧ (let M2 : zM := zuI M1 (zR M a0 2) a6.toNatClampNeg a4
(zsh M a0).1 = 14 ∧ ((zsh M (zR M a0 3)).1 = 2 ∧ (zin a6 (zsh M (zR M a0 3)).2 ∧ (let M3 : zM := zuI M2 (zR M a0 3) a6.toNatClampNeg a5
let v1_4 : Int32 := a1 + 1
wX6_arrange d Q 2 [some (.ref a0), some (.int v1_4), some (.long a2), none, some (.int a4), some (.int a5), some (.int a6)] [] M3)))))))))
) : wX6_arrange d Q 65 [some (.ref a0), some (.int a1), some (.long a2), none, some (.int a4), some (.int a5), some (.int a6)] [] M := zseg (zCl_good gTb d) (fun j => j == 2 || j == 23 || j == 65) 22 h
abbrev wX6_valueAt (d : Nat) (Q : List Value → zM → Prop) : Nat → zLv → List Value → zM → Prop := zW (zCl gTb d) 3 kX6_valueAt Q
theorem en_X6_valueAt {d : Nat} {Q : List Value → zM → Prop} (a0 : Nat) (a1 : Nat) (a2 : Int32) (M : zM) (h : wX6_valueAt d Q 0 [some (.ref a0), some (.ref a1), some (.int a2), none, none, none, none, none] [] M) : zCl gTb (d + 1) nX6_valueAt [.ref a0, .ref a1, .int a2] M Q := ⟨Nat.le_of_ble_eq_true rfl, h⟩
set_option maxRecDepth 100000 in
set_option maxHeartbeats 4000000 in
/-- from place 0 -/
theorem sg_X6_valueAt_0 {d : Nat} {Q : List Value → zM → Prop} (a0 : Nat) (a1 : Nat) (a2 : Int32) (M : zM) (h :
wX6_valueAt d Q 4 [some (.ref a0), some (.ref a1), some (.int a2), some (.long ((1 : Int64))), none, some (.int ((0 : Int32))), none, none] [] M
) : wX6_valueAt d Q 0 [some (.ref a0), some (.ref a1), some (.int a2), none, none, none, none, none] [] M := zseg (zCl_good gTb d) (fun j => j == 4) 9 h
set_option maxRecDepth 100000 in
set_option maxHeartbeats 4000000 in
/-- from place 4 -/
theorem sg_X6_valueAt_4 {d : Nat} {Q : List Value → zM → Prop} (a0 : Nat) (a1 : Nat) (a2 : Int32) (a3 : Int64) (a5 : Int32) (o6 : Option Value) (o7 : Option Value) (M : zM) (h :
(zsh M a0).1 = 14 ∧ (((zI M a0 4) ≤ a5 → (Q [.long a3] M)) ∧ (¬ ((zI M a0 4) ≤ a5) → ((zsh M a0).1 = 14 ∧ (ycJ d nX6_termAt [.ref a0, .int a5, .ref a1, .int a2] M fun c2 M1 => ((¬ (lg_cmp c2 ((0 : Int64))) = 0 → (ycJ d nX2_sum [.long a3, .long c2] M1 fun c4 M3 => ((¬ (lg_cmp c4 ((0 : Int64))) = 0 → (let v5_5 : Int32 := a5 + 1
wX6_valueAt d Q 4 [some (.ref a0), some (.ref a1), some (.int a2), some (.long c4), none, some (.int v5_5), some (.long c2), none] [] M3)) ∧ (¬ (¬ (lg_cmp c4 ((0 : Int64))) = 0) → (Q [.long ((0 : Int64))] M3))))) ∧ (¬ (¬ (lg_cmp c2 ((0 : Int64))) = 0) → (Q [.long ((0 : Int64))] M1)))))))
) : wX6_valueAt d Q 4 [some (.ref a0), some (.ref a1), some (.int a2), some (.long a3), none, some (.int a5), o6, o7] [] M := zseg (zCl_good gTb d) (fun j => j == 4) 35 h
abbrev wX6_termAt (d : Nat) (Q : List Value → zM → Prop) : Nat → zLv → List Value → zM → Prop := zW (zCl gTb d) 3 kX6_termAt Q
theorem en_X6_termAt {d : Nat} {Q : List Value → zM → Prop} (a0 : Nat) (a1 : Int32) (a2 : Nat) (a3 : Int32) (M : zM) (h : wX6_termAt d Q 0 [some (.ref a0), some (.int a1), some (.ref a2), some (.int a3), none, none, none, none, none, none, none] [] M) : zCl gTb (d + 1) nX6_termAt [.ref a0, .int a1, .ref a2, .int a3] M Q := ⟨Nat.le_of_ble_eq_true rfl, h⟩
set_option maxRecDepth 100000 in
set_option maxHeartbeats 4000000 in
/-- from place 0 -/
theorem sg_X6_termAt_0 {d : Nat} {Q : List Value → zM → Prop} (a0 : Nat) (a1 : Int32) (a2 : Nat) (a3 : Int32) (M : zM) (h :
(zsh M a0).1 = 14 ∧ ((zsh M (zR M a0 1)).1 = 3 ∧ (zin a1 (zsh M (zR M a0 1)).2 ∧ (let w4_1 : Int64 := zL M (zR M a0 1) a1.toNatClampNeg
wX6_termAt d Q 7 [some (.ref a0), some (.int a1), some (.ref a2), some (.int a3), some (.long w4_1), none, some (.int ((0 : Int32))), none, none, none, none] [] M)))
) : wX6_termAt d Q 0 [some (.ref a0), some (.int a1), some (.ref a2), some (.int a3), none, none, none, none, none, none, none] [] M := zseg (zCl_good gTb d) (fun j => j == 7 || j == 26) 12 h
set_option maxRecDepth 100000 in
set_option maxHeartbeats 4000000 in
/-- from place 7 -/
theorem sg_X6_termAt_7 {d : Nat} {Q : List Value → zM → Prop} (a0 : Nat) (a1 : Int32) (a2 : Nat) (a3 : Int32) (a4 : Int64) (a6 : Int32) (o7 : Option Value) (o8 : Option Value) (o9 : Option Value) (o10 : Option Value) (M : zM) (h :
(a3 ≤ a6 → (Q [.long a4] M)) ∧ (¬ (a3 ≤ a6) → ((zsh M a0).1 = 14 ∧ ((zsh M (zR M a0 2)).1 = 2 ∧ (zin a1 (zsh M (zR M a0 2)).2 ∧ (ycI d nX4_exponent [.int (zI M (zR M a0 2) a1.toNatClampNeg), .int a6] M fun c2 M1 => ((zsh M1 a2).1 = 2 ∧ (zin a6 (zsh M1 a2).2 ∧ (ycJ d nX2_lowest [.long ((zI M1 a2 a6.toNatClampNeg).toInt64), .long ((1 : Int64))] M1 fun c4 M3 => (wX6_termAt d Q 26 [some (.ref a0), some (.int a1), some (.ref a2), some (.int a3), some (.long a4), none, some (.int a6), some (.int c2), some (.long c4), none, some (.int ((0 : Int32)))] [] M3)))))))))
) : wX6_termAt d Q 7 [some (.ref a0), some (.int a1), some (.ref a2), some (.int a3), some (.long a4), none, some (.int a6), o7, o8, o9, o10] [] M := zseg (zCl_good gTb d) (fun j => j == 7 || j == 26) 26 h
set_option maxRecDepth 100000 in
set_option maxHeartbeats 4000000 in
/-- from place 26 -/
theorem sg_X6_termAt_26 {d : Nat} {Q : List Value → zM → Prop} (a0 : Nat) (a1 : Int32) (a2 : Nat) (a3 : Int32) (a4 : Int64) (a6 : Int32) (a7 : Int32) (a8 : Int64) (a10 : Int32) (M : zM) (h :
(a7 ≤ a10 → (let v6_1 : Int32 := a6 + 1
wX6_termAt d Q 7 [some (.ref a0), some (.int a1), some (.ref a2), some (.int a3), some (.long a4), none, some (.int v6_1), some (.int a7), some (.long a8), none, some (.int a10)] [] M)) ∧ (¬ (a7 ≤ a10) → (ycJ d nX2_product [.long a4, .long a8] M fun c3 M2 => ((¬ (lg_cmp c3 ((0 : Int64))) = 0 → (let v10_4 : Int32 := a10 + 1
wX6_termAt d Q 26 [some (.ref a0), some (.int a1), some (.ref a2), some (.int a3), some (.long c3), none, some (.int a6), some (.int a7), some (.long a8), none, some (.int v10_4)] [] M2)) ∧ (¬ (¬ (lg_cmp c3 ((0 : Int64))) = 0) → (Q [.long ((0 : Int64))] M2)))))
) : wX6_termAt d Q 26 [some (.ref a0), some (.int a1), some (.ref a2), some (.int a3), some (.long a4), none, some (.int a6), some (.int a7), some (.long a8), none, some (.int a10)] [] M := zseg (zCl_good gTb d) (fun j => j == 7 || j == 26) 22 h
end
section
/-! the class's polynomials: reading and single terms -/
theorem p_k1 {M : zM} {p o : Nat} (h : pst M p o) : (zsh M (zR M p 1)).1 = 3 := by rw [h.2.2.1, h.2.2.2.2.2.1]
theorem p_l1 {M : zM} {p o : Nat} (h : pst M p o) : (zsh M (zR M p 1)).2 = 100 := by rw [h.2.2.1, h.2.2.2.2.2.1]
theorem p_k2 {M : zM} {p o : Nat} (h : pst M p o) : (zsh M (zR M p 2)).1 = 2 := by rw [h.2.2.2.1, h.2.2.2.2.2.2.1]
theorem p_l2 {M : zM} {p o : Nat} (h : pst M p o) : (zsh M (zR M p 2)).2 = 100 := by rw [h.2.2.2.1, h.2.2.2.2.2.2.1]
theorem p_k3 {M : zM} {p o : Nat} (h : pst M p o) : (zsh M (zR M p 3)).1 = 2 := by rw [h.2.2.2.2.1, h.2.2.2.2.2.2.2]
theorem p_l3 {M : zM} {p o : Nat} (h : pst M p o) : (zsh M (zR M p 3)).2 = 100 := by rw [h.2.2.2.2.1, h.2.2.2.2.2.2.2]
theorem cl_n {n : Nat} (h : n < 2 ^ 31) : (nI n).toNatClampNeg = n := nI_clamp h
theorem zin_n {j n : Nat} (h : j < n) (hn : n < 2 ^ 31) : zin (nI j) n := vp_in_nI h hn
theorem i32_addsub (a b c : Int32) : a + (b - c) = a + b - c := by rw [Int32.sub_eq_add_neg, Int32.sub_eq_add_neg, Int32.add_assoc]
theorem sp_empty {d p o k : Nat} {M : zM} {P : zM → Prop} (hd : 1 ≤ d) (hp : pst M p o) (h : ∀ M', zfr (inP p) M M' → pdy M' p k [] → P M') : ycV d nX6_empty [.ref p] M P := by
  obtain ⟨d, rfl, he⟩ := dS hd
  refine en_X6_empty _ M (sg_X6_empty_0 _ M ⟨hp.1, ?_⟩)
  intro M1
  exact ⟨rfl, h M1 (zfr_uI ⟨Nat.le_refl _, by omega⟩) ⟨by rw [show M1 = zuI M p 4 0 from rfl, zI_uI, if_pos ⟨rfl, rfl⟩]; rfl, fun j t hj => by simp at hj⟩⟩
theorem sp_become {d p q o k : Nat} {M : zM} {L : aP} {P : zM → Prop} (hd : 1 ≤ d) (hp : pst M p o) (hq : pst M q o) (hpq : p + 4 ≤ q ∨ q + 4 ≤ p) (hL : pdy M q k L) (hl : L.length ≤ 100) (h : ∀ M', zfr (inP p) M M' → pdy M' p k L → P M') : ycV d nX6_become [.ref p, .ref q] M P := by
  obtain ⟨d, rfl, he⟩ := dS hd
  have hc := hL.1
  have c0 : (0 : Int32).toNatClampNeg = 0 := by decide
  have n0 : ¬ (0 : Int32) < 0 := by decide
  refine en_X6_become _ _ M (sg_X6_become_0 _ _ M ⟨hq.1, hp.1, ?_⟩)
  intro M1
  have e1 : zI M1 p 4 = nI L.length := by rw [show M1 = zuI M p 4 (zI M q 4) from rfl, zI_uI, if_pos ⟨rfl, rfl⟩, hc]
  have cn := cl_n (n := L.length) (by omega)
  have ng := nI_pos (n := L.length) (by omega)
  refine ⟨hq.1, hp.1, hp.1, p_k1 hq, p_k1 hp, n0, n0, by rw [e1]; exact ng, by rw [e1, cn, p_l1 hq, c0]; omega, by rw [e1, cn, p_l1 hp, c0]; omega, ?_⟩
  intro M2
  have e2 : zI M2 p 4 = nI L.length := e1
  refine ⟨hq.1, hp.1, hp.1, p_k2 hq, p_k2 hp, n0, n0, by rw [e2]; exact ng, by rw [e2, cn, p_l2 hq, c0]; omega, by rw [e2, cn, p_l2 hp, c0]; omega, ?_⟩
  intro M3
  have e3 : zI M3 p 4 = nI L.length := by
    rw [show M3 = zcI M2 (zR M q 2) (0 : Int32).toNatClampNeg (zR M p 2) (0 : Int32).toNatClampNeg (zI M2 p 4).toNatClampNeg from rfl, zI_cI, if_neg (by rw [hp.2.2.2.1]; omega)]
    exact e2
  refine ⟨hq.1, hp.1, hp.1, p_k3 hq, p_k3 hp, n0, n0, by rw [e3]; exact ng, by rw [e3, cn, p_l3 hq, c0]; omega, by rw [e3, cn, p_l3 hp, c0]; omega, ?_⟩
  intro M4
  have f1 : zfr (inP p) M M1 := zfr_uI ⟨Nat.le_refl _, by omega⟩
  have f2 : zfr (inP p) M1 M2 := zfr_cL (by rw [hp.2.2.1]; exact ⟨by omega, by omega⟩)
  have f3 : zfr (inP p) M2 M3 := zfr_cI (by rw [hp.2.2.2.1]; exact ⟨by omega, by omega⟩)
  have f4 : zfr (inP p) M3 M4 := zfr_cI (by rw [hp.2.2.2.2.1]; exact ⟨by omega, by omega⟩)
  refine ⟨rfl, h M4 (zfr_tr f1 (zfr_tr f2 (zfr_tr f3 f4))) ⟨?_, fun j t hj => ?_⟩⟩
  · rw [show M4 = zcI M3 (zR M q 3) (0 : Int32).toNatClampNeg (zR M p 3) (0 : Int32).toNatClampNeg (zI M3 p 4).toNatClampNeg from rfl, zI_cI, if_neg (by rw [hp.2.2.2.2.1]; omega)]
    exact e3
  · obtain ⟨g1, g2, g3⟩ := hL.2 j t hj
    have hjl : j < L.length := (List.getElem?_eq_some_iff.mp hj).1
    refine ⟨?_, ?_, ?_⟩
    · show zL M2 (p + 1) j = _
      rw [show M2 = zcL M1 (zR M q 1) (0 : Int32).toNatClampNeg (zR M p 1) (0 : Int32).toNatClampNeg (zI M1 p 4).toNatClampNeg from rfl, e1, cn, c0, hp.2.2.1, hq.2.2.1, zL_cL, if_pos ⟨rfl, by omega, by omega⟩, Nat.zero_add, Nat.sub_zero]
      exact g1
    · have hM4 : zI M4 (p + 2) j = zI M3 (p + 2) j := by
        rw [show M4 = zcI M3 (zR M q 3) (0 : Int32).toNatClampNeg (zR M p 3) (0 : Int32).toNatClampNeg (zI M3 p 4).toNatClampNeg from rfl, zI_cI, if_neg (by rw [hp.2.2.2.2.1]; omega)]
      rw [hM4, show M3 = zcI M2 (zR M q 2) (0 : Int32).toNatClampNeg (zR M p 2) (0 : Int32).toNatClampNeg (zI M2 p 4).toNatClampNeg from rfl, e2, cn, c0, hp.2.2.2.1, hq.2.2.2.1, zI_cI, if_pos ⟨rfl, by omega, by omega⟩, Nat.zero_add, Nat.sub_zero]
      show zI M1 (q + 2) j = _
      rw [(f1.2.2.2.2 (q + 2) (by unfold inP; omega)).1]
      exact g2
    · rw [show M4 = zcI M3 (zR M q 3) (0 : Int32).toNatClampNeg (zR M p 3) (0 : Int32).toNatClampNeg (zI M3 p 4).toNatClampNeg from rfl, e3, cn, c0, hp.2.2.2.2.1, hq.2.2.2.2.1, zI_cI, if_pos ⟨rfl, by omega, by omega⟩, Nat.zero_add, Nat.sub_zero]
      rw [((zfr_tr f1 (zfr_tr f2 f3)).2.2.2.2 (q + 3) (by unfold inP; omega)).1]
      exact g3
theorem sp_find {d p o k : Nat} {M : zM} {L : aP} {m : aM} {P : Int32 → zM → Prop} (hd : 1 ≤ d) (hp : pst M p o) (hL : pdy M p k L) (hk : pok k L) (hm : mok m) (h : P (nI (apos k m L)) M) : ycI d nX6_find [.ref p, .int (nI (ark k m))] M P := by
  obtain ⟨d, rfl, he⟩ := dS hd
  obtain ⟨hk1, hk2, hk3⟩ := hk
  have hmr := ark_lt (k := k) hm
  have loop : ∀ (n t lo hi : Nat) (o5 : Option Value), n + t = 7 → lo ≤ apos k m L → apos k m L ≤ hi → hi ≤ L.length → hi - lo < 2 ^ n → wX6_find d (fun r M2 => ∃ x : Int32, r = [.int x] ∧ P x M2) 7 [some (.ref p), some (.int (nI (ark k m))), some (.int (nI lo)), some (.int (nI hi)), some (.int (nI t)), o5] [] M := by
    intro n
    induction n with
    | zero =>
      intro t lo hi o5 ht h1 h2 h3 h4
      have hlo : lo = apos k m L := by omega
      have hhi : hi = lo := by omega
      refine sg_X6_find_7 _ _ _ _ _ _ _ ⟨fun _ => ⟨_, rfl, by rw [hlo]; exact h⟩, fun _ => ⟨fun _ => ⟨_, rfl, by rw [hlo]; exact h⟩, fun c => absurd (by rw [hhi]; exact Int32.le_refl _) c⟩⟩
    | succ n ih =>
      intro t lo hi o5 ht h1 h2 h3 h4
      refine sg_X6_find_7 _ _ _ _ _ _ _ ⟨fun c => ?_, fun _ => ⟨fun c => ⟨_, rfl, ?_⟩, fun c => ?_⟩⟩
      · have := (iv_lt (n := 8) (by omega) (by omega)).mp c
        omega
      · have := (iv_lt (by omega) (by omega)).mp c
        rw [show lo = apos k m L by omega]
        exact h
      · have hlt : ¬ hi ≤ lo := fun z => c ((iv_lt (by omega) (by omega)).mpr z)
        intro v5
        have e5 : v5 = nI ((lo + hi) / 2) := by
          rw [show v5 = ((nI lo + nI hi).toUInt32 >>> ((1 : Int32).toUInt32 &&& Int32.toUInt32 31)).toInt32 from rfl, nI_add, pk_ushrN (by omega) 1 1 (by decide)]
        clear_value v5
        subst e5
        have hml : (lo + hi) / 2 < L.length := by omega
        have hu := List.getElem?_eq_getElem hml
        obtain ⟨-, -, g3⟩ := hL.2 _ _ hu
        have hmo := ark_lt (k := k) (hk1 _ (List.mem_of_getElem? hu)).2.2
        rw [cl_n (by omega)]
        refine ⟨hp.1, p_k3 hp, by rw [p_l3 hp]; exact zin_n (by omega) (by omega), fun c2 => ?_, fun c2 => ?_⟩
        · rw [hp.2.2.2.2.1, g3] at c2
          have c2 := (nI_leI (by omega) (by omega)).mp c2
          intro v4
          rw [show v4 = nI (t + 1) from nI_1 t]
          refine ih (t + 1) lo ((lo + hi) / 2) _ (by omega) h1 ?_ (by omega) (by rw [Nat.pow_succ] at h4; omega)
          apply Nat.le_of_not_lt
          intro z
          have := apos_lt z hu
          omega
        · rw [hp.2.2.2.2.1, g3] at c2
          have c2 : ¬ ark k (L[(lo + hi) / 2]).2 ≤ ark k m := fun z => c2 ((nI_leI (by omega) (by omega)).mpr z)
          intro v2 v4
          rw [show v2 = nI ((lo + hi) / 2 + 1) from nI_1 _, show v4 = nI (t + 1) from nI_1 t]
          refine ih (t + 1) ((lo + hi) / 2 + 1) hi _ (by omega) ?_ h2 h3 (by rw [Nat.pow_succ] at h4; omega)
          apply Nat.le_of_not_lt
          intro z
          have := apos_ge (m := m) hk2 (Nat.le_of_lt_succ z) hu
          exact c2 this
  refine en_X6_find _ _ M (sg_X6_find_0 _ _ M ⟨hp.1, ?_⟩)
  intro v3
  rw [show v3 = nI L.length from hL.1]
  have hle := apos_le (k := k) (m := m) L
  have h128 : (2 : Nat) ^ 7 = 128 := by decide
  exact loop 7 0 0 L.length _ rfl (Nat.zero_le _) hle (Nat.le_refl _) (by omega)
theorem sp_shift {d p o c f t : Nat} {M : zM} {P : zM → Prop} (hd : 1 ≤ d) (hp : pst M p o) (hc : zI M p 4 = nI c) (hf : f ≤ c) (ht : t + (c - f) ≤ 100) (hc2 : c ≤ 100)
    (h : ∀ M', zfr (inP p) M M' → zI M' p 4 = nI (c + t - f) → (∀ j, zL M' (p + 1) j = if t ≤ j ∧ j < t + (c - f) then zL M (p + 1) (f + (j - t)) else zL M (p + 1) j) → (∀ j, zI M' (p + 2) j = if t ≤ j ∧ j < t + (c - f) then zI M (p + 2) (f + (j - t)) else zI M (p + 2) j) → (∀ j, zI M' (p + 3) j = if t ≤ j ∧ j < t + (c - f) then zI M (p + 3) (f + (j - t)) else zI M (p + 3) j) → P M') : ycV d nX6_shift [.ref p, .int (nI f), .int (nI t)] M P := by
  obtain ⟨d, rfl, he⟩ := dS hd
  have cf := cl_n (n := f) (by omega)
  have ct := cl_n (n := t) (by omega)
  have nf := nI_pos (n := f) (by omega)
  have nt := nI_pos (n := t) (by omega)
  have es : nI c - nI f = nI (c - f) := pk_sub hf
  have cs := cl_n (n := c - f) (by omega)
  have ns := nI_pos (n := c - f) (by omega)
  refine en_X6_shift _ _ _ M (sg_X6_shift_0 _ _ _ M ⟨hp.1, hp.1, hp.1, p_k1 hp, p_k1 hp, nf, nt, by rw [hc, es]; exact ns, by rw [hc, es, cf, cs, p_l1 hp]; omega, by rw [hc, es, ct, cs, p_l1 hp]; omega, ?_⟩)
  intro M1
  have e1 : zI M1 p 4 = nI c := hc
  refine ⟨hp.1, hp.1, hp.1, p_k2 hp, p_k2 hp, nf, nt, by rw [e1, es]; exact ns, by rw [e1, es, cf, cs, p_l2 hp]; omega, by rw [e1, es, ct, cs, p_l2 hp]; omega, ?_⟩
  intro M2
  have e2 : zI M2 p 4 = nI c := by
    rw [show M2 = zcI M1 (zR M p 2) (nI f).toNatClampNeg (zR M p 2) (nI t).toNatClampNeg (zI M1 p 4 - nI f).toNatClampNeg from rfl, zI_cI, if_neg (by rw [hp.2.2.2.1]; omega)]
    exact e1
  refine ⟨hp.1, hp.1, hp.1, p_k3 hp, p_k3 hp, nf, nt, by rw [e2, es]; exact ns, by rw [e2, es, cf, cs, p_l3 hp]; omega, by rw [e2, es, ct, cs, p_l3 hp]; omega, ?_⟩
  intro M3
  have e3 : zI M3 p 4 = nI c := by
    rw [show M3 = zcI M2 (zR M p 3) (nI f).toNatClampNeg (zR M p 3) (nI t).toNatClampNeg (zI M2 p 4 - nI f).toNatClampNeg from rfl, zI_cI, if_neg (by rw [hp.2.2.2.2.1]; omega)]
    exact e2
  refine ⟨hp.1, hp.1, ?_⟩
  intro M4
  have f1 : zfr (inP p) M M1 := zfr_cL (by rw [hp.2.2.1]; exact ⟨by omega, by omega⟩)
  have f2 : zfr (inP p) M1 M2 := zfr_cI (by rw [hp.2.2.2.1]; exact ⟨by omega, by omega⟩)
  have f3 : zfr (inP p) M2 M3 := zfr_cI (by rw [hp.2.2.2.2.1]; exact ⟨by omega, by omega⟩)
  have f4 : zfr (inP p) M3 M4 := zfr_uI ⟨Nat.le_refl _, by omega⟩
  refine ⟨rfl, h M4 (zfr_tr f1 (zfr_tr f2 (zfr_tr f3 f4))) ?_ (fun j => ?_) (fun j => ?_) (fun j => ?_)⟩
  · rw [show M4 = zuI M3 p 4 (zI M3 p 4 + (nI t - nI f)) from rfl, zI_uI, if_pos ⟨rfl, rfl⟩, e3, i32_addsub, nI_add, pk_sub (by omega)]
  · show zL M1 (p + 1) j = _
    rw [show M1 = zcL M (zR M p 1) (nI f).toNatClampNeg (zR M p 1) (nI t).toNatClampNeg (zI M p 4 - nI f).toNatClampNeg from rfl, hc, es, cf, ct, cs, hp.2.2.1, zL_cL]
    simp only [true_and]
  · have q1 : zI M4 (p + 2) j = zI M3 (p + 2) j := by
      rw [show M4 = zuI M3 p 4 (zI M3 p 4 + (nI t - nI f)) from rfl, zI_uI, if_neg (by omega)]
    have q2 : zI M3 (p + 2) j = zI M2 (p + 2) j := by
      rw [show M3 = zcI M2 (zR M p 3) (nI f).toNatClampNeg (zR M p 3) (nI t).toNatClampNeg (zI M2 p 4 - nI f).toNatClampNeg from rfl, zI_cI, if_neg (by rw [hp.2.2.2.2.1]; omega)]
    rw [q1, q2, show M2 = zcI M1 (zR M p 2) (nI f).toNatClampNeg (zR M p 2) (nI t).toNatClampNeg (zI M1 p 4 - nI f).toNatClampNeg from rfl, e1, es, cf, ct, cs, hp.2.2.2.1, zI_cI]
    simp only [true_and]
    rfl
  · have q1 : zI M4 (p + 3) j = zI M3 (p + 3) j := by
      rw [show M4 = zuI M3 p 4 (zI M3 p 4 + (nI t - nI f)) from rfl, zI_uI, if_neg (by omega)]
    have q2 : ∀ i, zI M2 (p + 3) i = zI M (p + 3) i := fun i => by
      rw [show M2 = zcI M1 (zR M p 2) (nI f).toNatClampNeg (zR M p 2) (nI t).toNatClampNeg (zI M1 p 4 - nI f).toNatClampNeg from rfl, zI_cI, if_neg (by rw [hp.2.2.2.1]; omega)]
      rfl
    rw [q1, show M3 = zcI M2 (zR M p 3) (nI f).toNatClampNeg (zR M p 3) (nI t).toNatClampNeg (zI M2 p 4 - nI f).toNatClampNeg from rfl, e2, es, cf, ct, cs, hp.2.2.2.2.1, zI_cI, q2, q2]
    simp only [true_and]
theorem sp_behead {d p o k : Nat} {M : zM} {L : aP} {P : zM → Prop} (hd : 2 ≤ d) (hp : pst M p o) (hL : pdy M p k L) (hl : L.length ≤ 100) (h : ∀ M', zfr (inP p) M M' → pdy M' p k L.tail → P M') : ycV d nX6_behead [.ref p] M P := by
  obtain ⟨d, rfl, he⟩ := dS hd
  refine en_X6_behead _ M (sg_X6_behead_0 _ M ⟨hp.1, fun c => ⟨rfl, h M zfr_rf ?_⟩, fun c => ⟨hp.1, ?_⟩⟩)
  · rw [hL.1] at c
    have hz : L.length = 0 := by
      have := (nI_leI (a := L.length) (b := 0) (by omega) (by omega)).mp c
      omega
    have : L = [] := List.eq_nil_of_length_eq_zero hz
    subst this
    exact hL
  · rw [hL.1] at c
    have hz : ¬ L.length ≤ 0 := fun z => c ((nI_leI (a := L.length) (b := 0) (by omega) (by omega)).mpr z)
    refine sp_shift (c := L.length) (f := 1) (t := 0) he hp hL.1 (by omega) (by omega) hl fun M' hf h4 h1 h2 h3 => ⟨rfl, h M' hf ⟨?_, fun j t hj => ?_⟩⟩
    · rw [h4, List.length_tail]
      congr 1
    · rw [List.getElem?_tail] at hj
      have hlt : j + 1 < L.length := (List.getElem?_eq_some_iff.mp hj).1
      obtain ⟨g1, g2, g3⟩ := hL.2 _ _ hj
      rw [h1, h2, h3, if_pos (by omega), if_pos (by omega), if_pos (by omega), show 1 + (j - 0) = j + 1 by omega]
      exact ⟨g1, g2, g3⟩
end
section
/-! a term comes, in the class -/
theorem alow_ok {a b : Int} {f : aF} (hb : 0 < b) (h : alow a b = some f) : fok f ∧ (f.1 = 0 ↔ a = 0) ∧ (a = 0 → f.2 = 1) := by
  have hg0 : 0 < Int.gcd a b := Int.gcd_pos_of_ne_zero_right _ (by omega)
  obtain ⟨b1, hb1⟩ := Int.gcd_dvd_right a b
  obtain ⟨a1, ha1⟩ := Int.gcd_dvd_left a b
  have hb1p : 0 < b1 := by
    rcases Int.lt_or_le 0 b1 with h | h
    · exact h
    · have := Int.mul_nonpos_of_nonneg_of_nonpos (Int.natCast_nonneg (Int.gcd a b)) h
      omega
  have eA : a / (Int.gcd a b : Int) = a1 := Int.ediv_eq_of_eq_mul_right (by omega) ha1
  have eB : b / (Int.gcd a b : Int) = b1 := Int.ediv_eq_of_eq_mul_right (by omega) hb1
  unfold alow at h
  rw [eA, eB] at h
  split at h
  · rename_i hc
    cases h
    refine ⟨⟨hc.1, hb1p, hc.2⟩, ⟨fun z => ?_, fun z => ?_⟩, fun z => ?_⟩
    · have z : a1 = 0 := z
      rw [z, Int.mul_zero] at ha1
      exact ha1
    · show a1 = 0
      rw [z, Int.zero_ediv] at eA
      exact eA.symm
    · show b1 = 1
      rw [z, Int.gcd_zero_left] at eB
      rw [← eB]
      have : ((b.natAbs : Nat) : Int) = b := by omega
      rw [this]
      exact Int.ediv_self (by omega)
  · cases h
theorem afsum_ok {f g s : aF} (hf : fok f) (hg : fok g) (h : afsum f g = some s) : fok s ∧ (s.1 = 0 → s.2 = 1) := by
  have h1 := alow_ok (Int.mul_pos hf.2.1 hg.2.1) h
  exact ⟨h1.1, fun z => h1.2.2 (h1.2.1.mp z)⟩
theorem afmul_ok {f g s : aF} (hf : fok f) (hg : fok g) (hf0 : f.1 ≠ 0) (hg0 : g.1 ≠ 0) (h : afmul f g = some s) : fok s ∧ s.1 ≠ 0 := by
  have h1 := alow_ok (Int.mul_pos hf.2.1 hg.2.1) h
  exact ⟨h1.1, fun z => by
    rcases Int.mul_eq_zero.mp (h1.2.1.mp z) with z | z
    · exact hf0 z
    · exact hg0 z⟩
theorem srt_iff {k : Nat} {L : aP} : srt k L ↔ ∀ (i j : Nat) (u v : aT), i < j → L[i]? = some u → L[j]? = some v → ark k v.2 < ark k u.2 := by
  unfold srt
  rw [List.pairwise_iff_getElem]
  constructor
  · intro h i j u v hij hu hv
    obtain ⟨h1, e1⟩ := List.getElem?_eq_some_iff.mp hu
    obtain ⟨h2, e2⟩ := List.getElem?_eq_some_iff.mp hv
    have := h i j h1 h2 hij
    rw [e1, e2] at this
    exact this
  · intro h i j h1 h2 hij
    exact h i j _ _ hij (List.getElem?_eq_getElem h1) (List.getElem?_eq_getElem h2)
theorem acome_ok {k : Nat} {t : aT} {L L' : aP} (hk : pok k L) (ht : tok t) (h : acome k t L = some L') : pok k L' := by
  obtain ⟨h1, h2, h3⟩ := hk
  have h2' := srt_iff.mp h2
  have hins : (∀ u, L[apos k t.2 L]? = some u → u.2 ≠ t.2) → ¬ 100 ≤ L.length → pok k (L.insertIdx (apos k t.2 L) t) := by
    intro hne hlt
    have hle := apos_le (k := k) (m := t.2) L
    refine ⟨fun u hu => ?_, srt_iff.mpr ?_, ?_⟩
    · rcases (List.mem_insertIdx hle).mp hu with rfl | hu
      · exact ht
      · exact h1 u hu
    · intro i j u v hij hu hv
      rw [List.getElem?_insertIdx] at hu hv
      have low : ∀ i u, L[i]? = some u → apos k t.2 L ≤ i → ark k u.2 < ark k t.2 := by
        intro i u hu hi
        have hle2 := apos_ge (m := t.2) h2 hi hu
        rcases Nat.lt_or_eq_of_le hle2 with z | z
        · exact z
        · exfalso
          have e := ark_inj (h1 u (List.mem_of_getElem? hu)).2.2 ht.2.2 z
          rcases Nat.lt_or_eq_of_le hi with q | q
          · have hp := List.getElem?_eq_getElem (l := L) (i := apos k t.2 L) (by have := (List.getElem?_eq_some_iff.mp hu).1; omega)
            have b1 := h2' _ _ _ _ q hp hu
            have b2 := apos_ge (m := t.2) h2 (Nat.le_refl _) hp
            omega
          · rw [q] at hne
            exact hne u hu e
      split at hu
      · rename_i c1
        split at hv
        · exact h2' i j u v hij hu hv
        · split at hv
          · split at hv
            · cases hv
              exact apos_lt c1 hu
            · cases hv
          · have hvj : L[j - 1]? = some v := hv
            exact h2' i (j - 1) u v (by omega) hu hvj
      · split at hu
        · rename_i c1 c2
          split at hu
          · cases hu
            split at hv
            · omega
            · split at hv
              · omega
              · exact low (j - 1) v hv (by omega)
          · cases hu
        · rename_i c1 c2
          split at hv
          · omega
          · split at hv
            · omega
            · exact h2' (i - 1) (j - 1) u v (by omega) hu hv
    · rw [List.length_insertIdx]
      split <;> omega
  unfold acome at h
  split at h
  · rename_i u hu
    split at h
    · rename_i hut
      split at h
      · cases h
      · rename_i s hs
        have hsok := afsum_ok (h1 u (List.mem_of_getElem? hu)).1 ht.1 hs
        split at h
        · cases h
          exact ⟨fun x hx => h1 x (List.mem_of_mem_eraseIdx hx), List.Pairwise.sublist (List.eraseIdx_sublist _ _) h2, by have := List.length_eraseIdx_le L (apos k t.2 L); omega⟩
        · rename_i hs0
          cases h
          refine ⟨fun x hx => ?_, srt_iff.mpr ?_, by rw [List.length_set]; exact h3⟩
          · rcases List.mem_or_eq_of_mem_set hx with hx | rfl
            · exact h1 x hx
            · exact ⟨hsok.1, hs0, ht.2.2⟩
          · intro i j x y hij hx hy
            have key : ∀ (i : Nat) (x : aT), (L.set (apos k t.2 L) (s, t.2))[i]? = some x → ∃ x0 : aT, L[i]? = some x0 ∧ x0.2 = x.2 := by
              intro i x hx
              rw [List.getElem?_set] at hx
              split at hx
              · rename_i e
                split at hx
                · cases hx
                  subst e
                  exact ⟨u, hu, hut⟩
                · cases hx
              · exact ⟨x, hx, rfl⟩
            obtain ⟨x0, a1, a2⟩ := key i x hx
            obtain ⟨y0, b1, b2⟩ := key j y hy
            rw [← a2, ← b2]
            exact h2' i j x0 y0 hij a1 b1
    · rename_i hut
      split at h
      · cases h
      · rename_i hlt
        cases h
        exact hins (fun v hv => by rw [hu] at hv; cases hv; exact hut) hlt
  · rename_i hu
    split at h
    · cases h
    · rename_i hlt
      cases h
      exact hins (fun v hv => by rw [hu] at hv; cases hv) hlt
theorem eF_1 {s : aF} (h : fok s) (h1 : s.1 = 0 → s.2 = 1) : (lg_cmp (eF s) 1 = 0) ↔ s.1 = 0 := by
  have e1 : (1 : Int64).toInt = 1 := by decide
  rw [lc_eq, eF_int h, e1]
  obtain ⟨⟨a1, a2⟩, a3, a4⟩ := h
  constructor
  · intro z; omega
  · intro z
    have := h1 z
    omega
theorem eF_0 {s : aF} (h : fok s) : ¬ (lg_cmp (eF s) 0 = 0) := by
  rw [lc_eq, eF_int h, Int64.toInt_zero]
  obtain ⟨⟨a1, a2⟩, a3, a4⟩ := h
  omega
theorem come_ins {d p o k : Nat} {M : zM} {L : aP} {t : aT} {P : Int32 → zM → Prop} (hd : 1 ≤ d) (hp : pst M p o) (hL : pdy M p k L) (hl : L.length ≤ 100) (i : Nat) (hi : i ≤ L.length) (o6 o7 : Option Value) (h1 : ¬ 100 ≤ L.length → ∀ M', zfr (inP p) M M' → pdy M' p k (L.insertIdx i t) → P 1 M') (h0 : 100 ≤ L.length → P 0 M) : wX6_come d (fun r M2 => ∃ x : Int32, r = [.int x] ∧ P x M2) 54 [some (.ref p), some (.long (eF t.1)), none, some (.int (e8 t.2)), some (.int (nI (ark k t.2))), some (.int (nI i)), o6, o7] [] M := by
  refine sg_X6_come_54 _ _ _ _ _ _ _ _ ⟨hp.1, fun c => ⟨hp.1, ?_⟩, fun c => ⟨Or.inl rfl, _, rfl, h0 ?_⟩⟩
  · rw [hL.1] at c
    have c : L.length < 100 := (nI_ltI (a := L.length) (b := 100) (by omega) (by omega)).mp c
    rw [nI_1]
    refine sp_shift (c := L.length) (f := i) (t := i + 1) hd hp hL.1 hi (by omega) hl fun M1 hf h4 g1 g2 g3 => ?_
    have hp1 := pst_fr hf hp
    have ci := cl_n (n := i) (by omega)
    have zi : zin (nI i) 100 := zin_n (by omega) (by omega)
    refine ⟨hp1.1, p_k1 hp1, by rw [p_l1 hp1]; exact zi, ?_⟩
    intro M2
    refine ⟨hp1.1, p_k2 hp1, by rw [p_l2 hp1]; exact zi, ?_⟩
    intro M3
    refine ⟨hp1.1, p_k3 hp1, by rw [p_l3 hp1]; exact zi, ?_⟩
    intro M4
    have f2 : zfr (inP p) M1 M2 := zfr_uL (by rw [hp1.2.2.1]; exact ⟨by omega, by omega⟩)
    have f3 : zfr (inP p) M2 M3 := zfr_uI (by rw [hp1.2.2.2.1]; exact ⟨by omega, by omega⟩)
    have f4 : zfr (inP p) M3 M4 := zfr_uI (by rw [hp1.2.2.2.2.1]; exact ⟨by omega, by omega⟩)
    refine ⟨Or.inr rfl, _, rfl, h1 (by omega) M4 (zfr_tr hf (zfr_tr f2 (zfr_tr f3 f4))) ⟨?_, fun j u hj => ?_⟩⟩
    · have q1 : zI M4 p 4 = zI M1 p 4 := by
        rw [show M4 = zuI M3 (zR M1 p 3) (nI i).toNatClampNeg (nI (ark k t.2)) from rfl, zI_uI, if_neg (by rw [hp1.2.2.2.2.1]; omega), show M3 = zuI M2 (zR M1 p 2) (nI i).toNatClampNeg (e8 t.2) from rfl, zI_uI, if_neg (by rw [hp1.2.2.2.1]; omega)]
        rfl
      rw [q1, h4, List.length_insertIdx, if_pos hi]
      congr 1
      omega
    · have r1 : zL M4 (p + 1) j = if j = i then eF t.1 else zL M1 (p + 1) j := by
        show zL M2 (p + 1) j = _
        rw [show M2 = zuL M1 (zR M1 p 1) (nI i).toNatClampNeg (eF t.1) from rfl, ci, hp1.2.2.1, zL_uL]
        simp only [true_and]
      have r2 : zI M4 (p + 2) j = if j = i then e8 t.2 else zI M1 (p + 2) j := by
        rw [show M4 = zuI M3 (zR M1 p 3) (nI i).toNatClampNeg (nI (ark k t.2)) from rfl, zI_uI, if_neg (by rw [hp1.2.2.2.2.1]; omega), show M3 = zuI M2 (zR M1 p 2) (nI i).toNatClampNeg (e8 t.2) from rfl, ci, hp1.2.2.2.1, zI_uI]
        simp only [true_and]
        rfl
      have r3 : zI M4 (p + 3) j = if j = i then nI (ark k t.2) else zI M1 (p + 3) j := by
        rw [show M4 = zuI M3 (zR M1 p 3) (nI i).toNatClampNeg (nI (ark k t.2)) from rfl, ci, hp1.2.2.2.2.1, zI_uI]
        simp only [true_and]
        have : zI M3 (p + 3) j = zI M1 (p + 3) j := by
          rw [show M3 = zuI M2 (zR M1 p 2) (nI i).toNatClampNeg (e8 t.2) from rfl, zI_uI, if_neg (by rw [hp1.2.2.2.1]; omega)]
          rfl
        rw [this]
      rw [r1, r2, r3]
      rw [List.getElem?_insertIdx] at hj
      split at hj
      · rename_i c1
        rw [if_neg (by omega), if_neg (by omega), if_neg (by omega), g1, g2, g3, if_neg (by omega), if_neg (by omega), if_neg (by omega)]
        exact hL.2 j u hj
      · split at hj
        · rename_i c1 c2
          subst c2
          have hut : some t = some u := by
            first
              | (rw [if_pos hi] at hj; exact hj)
              | (rw [if_neg (by omega)] at hj; exact hj)
          cases hut
          rw [if_pos rfl, if_pos rfl, if_pos rfl]
          exact ⟨rfl, rfl, rfl⟩
        · rename_i c1 c2
          have hlt : j - 1 < L.length := (List.getElem?_eq_some_iff.mp hj).1
          rw [if_neg c2, if_neg c2, if_neg c2, g1, g2, g3, if_pos (by omega), if_pos (by omega), if_pos (by omega), show i + (j - (i + 1)) = j - 1 by omega]
          exact hL.2 _ u hj
  · rw [hL.1] at c
    have c : ¬ L.length < 100 := fun z => c ((nI_ltI (a := L.length) (b := 100) (by omega) (by omega)).mpr z)
    omega
theorem sp_come {d p o k : Nat} {M : zM} {L : aP} {t : aT} {P : Int32 → zM → Prop} (hd : 3 ≤ d) (hp : pst M p o) (ho : ost M o k) (hL : pdy M p k L) (hk : pok k L) (ht : tok t) (h1 : ∀ L' M', acome k t L = some L' → zfr (inP p) M M' → pdy M' p k L' → P 1 M') (h0 : acome k t L = none → P 0 M) : ycI d nX6_come [.ref p, .long (eF t.1), .int (e8 t.2)] M P := by
  obtain ⟨d, rfl, he⟩ := dS hd
  have hle := apos_le (k := k) (m := t.2) L
  have hl := hk.2.2
  have hmr := ark_lt (k := k) ht.2.2
  refine en_X6_come _ _ _ M (sg_X6_come_0 _ _ _ M ⟨hp.1, by rw [hp.2.1]; exact ho.1, ?_⟩)
  rw [hp.2.1]
  refine sp_rank (by omega) ht.2.2 ho.1 ho.2.1 ho.2.2 ⟨hp.1, sp_find (by omega) hp hL hk ht.2.2 ⟨hp.1, fun c => ?_, fun c => ?_⟩⟩
  · rw [hL.1] at c
    have c := (nI_leI (by omega) (by omega)).mp c
    have hn : L[apos k t.2 L]? = none := List.getElem?_eq_none c
    refine come_ins (by omega) hp hL hl _ hle _ _ (fun q M' hf hd => h1 _ M' ?_ hf hd) (fun q => h0 ?_)
    · unfold acome
      rw [hn]
      exact if_neg q
    · unfold acome
      rw [hn]
      exact if_pos q
  · rw [hL.1] at c
    have c : ¬ L.length ≤ apos k t.2 L := fun z => c ((nI_leI (by omega) (by omega)).mpr z)
    have hlt : apos k t.2 L < L.length := by omega
    have hu := List.getElem?_eq_getElem hlt
    obtain ⟨g1, g2, g3⟩ := hL.2 _ _ hu
    have htu := hk.1 _ (List.mem_of_getElem? hu)
    have hmu := ark_lt (k := k) htu.2.2
    have ci := cl_n (n := apos k t.2 L) (by omega)
    have zi : zin (nI (apos k t.2 L)) 100 := zin_n (by omega) (by omega)
    refine ⟨hp.1, p_k3 hp, by rw [p_l3 hp]; exact zi, fun c2 => ?_, fun c2 => ?_⟩
    · rw [ci, hp.2.2.2.2.1, g3] at c2
      have hne : (L[apos k t.2 L]).2 ≠ t.2 := fun z => c2 (by rw [z])
      refine come_ins (by omega) hp hL hl _ hle _ _ (fun q M' hf hd => h1 _ M' ?_ hf hd) (fun q => h0 ?_)
      · unfold acome
        rw [hu]
        dsimp only
        rw [if_neg hne]
        exact if_neg q
      · unfold acome
        rw [hu]
        dsimp only
        rw [if_neg hne]
        exact if_pos q
    · rw [ci, hp.2.2.2.2.1, g3] at c2
      have c2 := Classical.not_not.mp c2
      have heq : (L[apos k t.2 L]).2 = t.2 := ark_inj htu.2.2 ht.2.2 ((nI_eq (by omega) (by omega)).mp c2)
      refine ⟨hp.1, p_k1 hp, by rw [p_l1 hp]; exact zi, ?_⟩
      rw [ci, hp.2.2.1, g1]
      refine sp_fsum (by omega) htu.1 ht.1 ?_
      cases hs : afsum (L[apos k t.2 L]).1 t.1 with
      | none =>
        have hnone : acome k t L = none := by
          unfold acome
          rw [hu]
          dsimp only
          rw [if_pos heq, hs]
        have z0 : lg_cmp (0 : Int64) 0 = 0 := by decide
        refine ⟨fun c3 => ⟨fun c4 => sg_X6_come_46 _ _ _ _ _ _ _ _ ⟨fun _ => ⟨Or.inl rfl, _, rfl, h0 hnone⟩, fun q => absurd z0 q⟩, fun c4 => absurd z0 c4⟩, fun c3 => absurd (Classical.not_not.mp c3) (by decide)⟩
      | some s =>
        have hsok := afsum_ok htu.1 ht.1 hs
        refine ⟨fun c3 => ⟨fun c4 => absurd c4 (eF_0 hsok.1), fun c4 => ⟨hp.1, p_k1 hp, by rw [p_l1 hp]; exact zi, ?_⟩⟩, fun c3 => ⟨hp.1, ?_⟩⟩
        · intro M7
          have hs0 : ¬ s.1 = 0 := fun z => c3 ((eF_1 hsok.1 hsok.2).mpr z)
          have hsome : acome k t L = some (L.set (apos k t.2 L) (s, t.2)) := by
            unfold acome
            rw [hu]
            dsimp only
            rw [if_pos heq, hs]
            exact if_neg hs0
          refine sg_X6_come_46 _ _ _ _ _ _ _ _ ⟨fun q => absurd q (eF_0 hsok.1), fun _ => ⟨Or.inr rfl, _, rfl, h1 _ M7 hsome (zfr_uL (by rw [hp.2.2.1]; exact ⟨by omega, by omega⟩)) ⟨?_, fun j u hj => ?_⟩⟩⟩
          · rw [List.length_set]
            exact hL.1
          · have r1 : zL M7 (p + 1) j = if j = apos k t.2 L then eF s else zL M (p + 1) j := by
              rw [show M7 = zuL M (zR M p 1) (apos k t.2 L) (eF s) from rfl, hp.2.2.1, zL_uL]
              simp only [true_and]
            rw [r1]
            rw [List.getElem?_set] at hj
            split at hj
            · rename_i e
              have hj2 : some (s, t.2) = some u := by
                first
                  | exact hj
                  | (rw [if_pos (by omega)] at hj; exact hj)
              cases hj2
              subst e
              rw [if_pos rfl]
              refine ⟨rfl, ?_, ?_⟩
              · show zI M (p + 2) _ = e8 t.2
                rw [g2, heq]
              · show zI M (p + 3) _ = nI (ark k t.2)
                rw [g3, heq]
            · rename_i e
              rw [if_neg (fun z => e z.symm)]
              exact hL.2 j u hj
        · have hs0 : s.1 = 0 := (eF_1 hsok.1 hsok.2).mp (Classical.not_not.mp c3)
          have hsome : acome k t L = some (L.eraseIdx (apos k t.2 L)) := by
            unfold acome
            rw [hu]
            dsimp only
            rw [if_pos heq, hs]
            exact if_pos hs0
          rw [nI_1]
          refine sp_shift (c := L.length) (f := apos k t.2 L + 1) (t := apos k t.2 L) (by omega) hp hL.1 (by omega) (by omega) hl fun M1 hf h4 q1 q2 q3 => ?_
          refine sg_X6_come_46 _ _ _ _ _ _ _ _ ⟨fun q => absurd q (eF_0 hsok.1), fun _ => ⟨Or.inr rfl, _, rfl, h1 _ M1 hsome hf ⟨?_, fun j u hj => ?_⟩⟩⟩
          · rw [h4, List.length_eraseIdx, if_pos hlt]
            congr 1
            omega
          · rw [List.getElem?_eraseIdx] at hj
            split at hj
            · rename_i c5
              rw [q1, q2, q3, if_neg (by omega), if_neg (by omega), if_neg (by omega)]
              exact hL.2 j u hj
            · rename_i c5
              have hlj : j + 1 < L.length := (List.getElem?_eq_some_iff.mp hj).1
              rw [q1, q2, q3, if_pos (by omega), if_pos (by omega), if_pos (by omega), show apos k t.2 L + 1 + (j - apos k t.2 L) = j + 1 by omega]
              exact hL.2 _ u hj
end
section
/-! sums and products of the class's polynomials -/
theorem madd_by {a b : aM} (ha : mok a) (hb : mok b) : mby (madd a b) := by
  unfold mok at ha hb
  unfold mby madd
  dsimp only
  omega
theorem aadds_in {k : Nat} {c : aF} {m : aM} {t : aT} {g f : aP} (h : mok (madd t.2 m)) : aadds k c m (t :: g) f = (match afmul t.1 c with
      | none => none
      | some s => match acome k (s, madd t.2 m) f with
        | none => none
        | some f' => aadds k c m g f') := if_pos h
theorem aadds_out {k : Nat} {c : aF} {m : aM} {t : aT} {g f : aP} (h : ¬ mok (madd t.2 m)) : aadds k c m (t :: g) f = none := if_neg h
theorem aprod_cons {k : Nat} {u : aT} {g us f : aP} : aprod k g (u :: us) f = (match aadds k u.1 u.2 g f with
    | none => none
    | some f' => aprod k g us f') := rfl
theorem aadds_ok {k : Nat} {c : aF} {m : aM} (hc : fok c) (hc0 : c.1 ≠ 0) : ∀ {g f f' : aP}, (∀ t ∈ g, tok t) → pok k f → aadds k c m g f = some f' → pok k f'
  | [], f, f', _, hf, h => by cases h; exact hf
  | t :: g, f, f', hg, hf, h => by
    have ht := hg t List.mem_cons_self
    unfold aadds at h
    split at h
    · rename_i hmo
      split at h
      · cases h
      · rename_i s hs
        have hs2 := afmul_ok ht.1 hc ht.2.1 hc0 hs
        split at h
        · cases h
        · rename_i f1 hf1
          exact aadds_ok hc hc0 (fun t ht => hg t (List.mem_cons_of_mem _ ht)) (acome_ok (t := (s, madd t.2 m)) hf ⟨hs2.1, hs2.2, hmo⟩ hf1) h
    · cases h
theorem sp_adds {d p q o k : Nat} {M : zM} {f g : aP} {c : aF} {m : aM} {P : Int32 → zM → Prop} (hd : 4 ≤ d) (hp : pst M p o) (hq : pst M q o) (hpq : p + 4 ≤ q ∨ q + 4 ≤ p) (hop : ¬ inP p o) (ho : ost M o k) (hf : pdy M p k f) (hg : pdy M q k g) (hfk : pok k f) (hgk : pok k g) (hc : fok c) (hc0 : c.1 ≠ 0) (hm : mok m)
    (h1 : ∀ f' M', aadds k c m g f = some f' → zfr (inP p) M M' → pdy M' p k f' → P 1 M') (h0 : ∀ M', aadds k c m g f = none → zfr (inP p) M M' → P 0 M') : ycI d nX6_addMultiple [.ref p, .long (eF c), .int (e8 m), .ref q] M P := by
  obtain ⟨d, rfl, he⟩ := dS hd
  have hgl := hgk.2.2
  have loop : ∀ (n i : Nat) (fi : aP) (M' : zM) (o6 o7 o8 : Option Value), i + n = g.length → zfr (inP p) M M' → pdy M' p k fi → pok k fi → aadds k c m (g.drop i) fi = aadds k c m g f → wX6_addMultiple d (fun r M2 => ∃ x : Int32, r = [.int x] ∧ P x M2) 2 [some (.ref p), some (.long (eF c)), none, some (.int (e8 m)), some (.ref q), some (.int (nI i)), o6, o7, o8] [] M' := by
    intro n
    induction n with
    | zero =>
      intro i fi M' o6 o7 o8 hi hfr hpd hpk heq
      have hq' := pst_fr hfr hq
      have hg' := pdy_fr hfr (inP_ne hpq.symm) hg
      have hi' : i = g.length := by omega
      subst hi'
      rw [List.drop_length] at heq
      refine sg_X6_addMultiple_2 _ _ _ _ _ _ _ _ _ ⟨hq'.1, fun _ => ⟨Or.inr rfl, _, rfl, h1 fi M' heq.symm hfr hpd⟩, fun c => absurd (by rw [hg'.1]; exact Int32.le_refl _) c⟩
    | succ n ih =>
      intro i fi M' o6 o7 o8 hi hfr hpd hpk heq
      have hp' := pst_fr hfr hp
      have hq' := pst_fr hfr hq
      have ho' := ost_fr hfr hop ho
      have hg' := pdy_fr hfr (inP_ne hpq.symm) hg
      have hlt : i < g.length := by omega
      have hu := List.getElem?_eq_getElem hlt
      obtain ⟨g1, g2, g3⟩ := hg'.2 _ _ hu
      have htu := hgk.1 _ (List.mem_of_getElem? hu)
      have ci := cl_n (n := i) (by omega)
      have zi : zin (nI i) 100 := zin_n (by omega) (by omega)
      rw [List.drop_eq_getElem_cons hlt] at heq
      refine sg_X6_addMultiple_2 _ _ _ _ _ _ _ _ _ ⟨hq'.1, fun c => ?_, fun _ => ⟨hq'.1, p_k2 hq', by rw [p_l2 hq']; exact zi, ?_⟩⟩
      · rw [hg'.1] at c
        have := (nI_leI (by omega) (by omega)).mp c
        omega
      · intro v6
        have e6 : v6 = e8 (madd (g[i]).2 m) := by
          rw [show v6 = zI M' (zR M' q 2) (nI i).toNatClampNeg + e8 m from rfl, ci, hq'.2.2.2.1, g2, e8_add]
        clear_value v6
        subst e6
        refine sp_isInside (by omega) (madd_by htu.2.2 hm) (fun hin => ?_) (fun hout => ?_)
        · refine ⟨fun _ => ⟨hq'.1, p_k1 hq', by rw [p_l1 hq']; exact zi, ?_⟩, fun z => absurd (Classical.not_not.mp z) (by decide)⟩
          rw [ci, hq'.2.2.1, g1]
          rw [aadds_in hin] at heq
          refine sp_fmul (by omega) htu.1 hc ?_
          cases hs : afmul (g[i]).1 c with
          | none =>
            rw [hs] at heq
            refine ⟨fun _ => ⟨Or.inl rfl, _, rfl, h0 M' heq.symm hfr⟩, fun z => absurd (by decide) z⟩
          | some s =>
            rw [hs] at heq
            dsimp only at heq
            have hs2 := afmul_ok htu.1 hc htu.2.1 hc0 hs
            refine ⟨fun z => absurd z (eF_0 hs2.1), fun _ => ⟨hp'.1, ?_⟩⟩
            refine sp_come (t := (s, madd (g[i]).2 m)) (by omega) hp' ho' hpd hpk ⟨hs2.1, hs2.2, hin⟩ (fun L' M2 hL' hfr2 hpd2 => ?_) (fun hn => ?_)
            · rw [hL'] at heq
              dsimp only at heq
              refine ⟨fun _ => ?_, fun z => absurd (Classical.not_not.mp z) (by decide)⟩
              intro v5
              rw [show v5 = nI (i + 1) from nI_1 i]
              exact ih (i + 1) L' M2 _ _ _ (by omega) (zfr_tr hfr hfr2) hpd2 (acome_ok hpk ⟨hs2.1, hs2.2, hin⟩ hL') heq
            · rw [hn] at heq
              exact ⟨fun z => absurd rfl z, fun _ => ⟨Or.inl rfl, _, rfl, h0 M' heq.symm hfr⟩⟩
        · rw [aadds_out hout] at heq
          exact ⟨fun z => absurd rfl z, fun _ => ⟨Or.inl rfl, _, rfl, h0 M' heq.symm hfr⟩⟩
  exact en_X6_addMultiple _ _ _ _ M (sg_X6_addMultiple_0 _ _ _ _ M (loop g.length 0 f M _ _ _ (by omega) zfr_rf hf hfk rfl))
theorem aprod_ok {k : Nat} {g : aP} (hg : ∀ t ∈ g, tok t) : ∀ {us f f' : aP}, (∀ t ∈ us, tok t) → pok k f → aprod k g us f = some f' → pok k f'
  | [], f, f', _, hf, h => by cases h; exact hf
  | u :: us, f, f', hu, hf, h => by
    unfold aprod at h
    have htu := hu u List.mem_cons_self
    split at h
    · cases h
    · rename_i f1 hf1
      exact aprod_ok hg (fun t ht => hu t (List.mem_cons_of_mem _ ht)) (aadds_ok htu.1 htu.2.1 hg hf hf1) h
/-- this PLUS u g for each term u of f: three polynomials apart -/
theorem sp_addProduct {d p q r o k : Nat} {M : zM} {f us g : aP} {P : Int32 → zM → Prop} (hd : 5 ≤ d) (hp : pst M p o) (hq : pst M q o) (hr : pst M r o) (hpq : p + 4 ≤ q ∨ q + 4 ≤ p) (hpr : p + 4 ≤ r ∨ r + 4 ≤ p) (hop : ¬ inP p o) (ho : ost M o k) (hf : pdy M p k f) (hus : pdy M q k us) (hg : pdy M r k g) (hfk : pok k f) (husk : pok k us) (hgk : pok k g)
    (h1 : ∀ f' M', aprod k g us f = some f' → zfr (inP p) M M' → pdy M' p k f' → P 1 M') (h0 : ∀ M', aprod k g us f = none → zfr (inP p) M M' → P 0 M') : ycI d nX6_addProduct [.ref p, .ref q, .ref r] M P := by
  obtain ⟨d, rfl, he⟩ := dS hd
  have hul := husk.2.2
  have loop : ∀ (n i : Nat) (fi : aP) (M' : zM), i + n = us.length → zfr (inP p) M M' → pdy M' p k fi → pok k fi → aprod k g (us.drop i) fi = aprod k g us f → wX6_addProduct d (fun r M2 => ∃ x : Int32, r = [.int x] ∧ P x M2) 2 [some (.ref p), some (.ref q), some (.ref r), some (.int (nI i))] [] M' := by
    intro n
    induction n with
    | zero =>
      intro i fi M' hi hfr hpd hpk heq
      have hq' := pst_fr hfr hq
      have hu' := pdy_fr hfr (inP_ne hpq.symm) hus
      have hi' : i = us.length := by omega
      subst hi'
      rw [List.drop_length] at heq
      refine sg_X6_addProduct_2 _ _ _ _ _ ⟨hq'.1, fun _ => ⟨Or.inr rfl, _, rfl, h1 fi M' heq.symm hfr hpd⟩, fun c => absurd (by rw [hu'.1]; exact Int32.le_refl _) c⟩
    | succ n ih =>
      intro i fi M' hi hfr hpd hpk heq
      have hp' := pst_fr hfr hp
      have hq' := pst_fr hfr hq
      have hr' := pst_fr hfr hr
      have ho' := ost_fr hfr hop ho
      have hu' := pdy_fr hfr (inP_ne hpq.symm) hus
      have hg' := pdy_fr hfr (inP_ne hpr.symm) hg
      have hlt : i < us.length := by omega
      have hu := List.getElem?_eq_getElem hlt
      obtain ⟨g1, g2, g3⟩ := hu'.2 _ _ hu
      have htu := husk.1 _ (List.mem_of_getElem? hu)
      have ci := cl_n (n := i) (by omega)
      have zi : zin (nI i) 100 := zin_n (by omega) (by omega)
      rw [List.drop_eq_getElem_cons hlt, aprod_cons] at heq
      refine sg_X6_addProduct_2 _ _ _ _ _ ⟨hq'.1, fun c => ?_, fun _ => ⟨hq'.1, p_k1 hq', by rw [p_l1 hq']; exact zi, hq'.1, p_k2 hq', by rw [p_l2 hq']; exact zi, hp'.1, ?_⟩⟩
      · rw [hu'.1] at c
        have := (nI_leI (by omega) (by omega)).mp c
        omega
      · rw [ci, hq'.2.2.1, hq'.2.2.2.1, g1, g2]
        refine sp_adds (by omega) hp' hr' hpr hop ho' hpd hg' hpk hgk htu.1 htu.2.1 htu.2.2 (fun f' M2 hf' hfr2 hpd2 => ?_) (fun M2 hn hfr2 => ?_)
        · rw [hf'] at heq
          dsimp only at heq
          refine ⟨fun _ => ?_, fun z => absurd (Classical.not_not.mp z) (by decide)⟩
          intro v3
          rw [show v3 = nI (i + 1) from nI_1 i]
          exact ih (i + 1) f' M2 (by omega) (zfr_tr hfr hfr2) hpd2 (aadds_ok htu.1 htu.2.1 hgk.1 hpk hf') heq
        · rw [hn] at heq
          exact ⟨fun z => absurd rfl z, fun _ => ⟨Or.inl rfl, _, rfl, h0 M2 heq.symm (zfr_tr hfr hfr2)⟩⟩
  exact en_X6_addProduct _ _ _ M (sg_X6_addProduct_0 _ _ _ M (loop us.length 0 f M (by omega) zfr_rf hf hfk rfl))
theorem pok_nil {k : Nat} : pok k [] := ⟨fun _ h => absurd h List.not_mem_nil, List.Pairwise.nil, by simp⟩
theorem sp_becomeProduct {d p q r o k : Nat} {M : zM} {us g : aP} {P : Int32 → zM → Prop} (hd : 6 ≤ d) (hp : pst M p o) (hq : pst M q o) (hr : pst M r o) (hpq : p + 4 ≤ q ∨ q + 4 ≤ p) (hpr : p + 4 ≤ r ∨ r + 4 ≤ p) (hop : ¬ inP p o) (ho : ost M o k) (hus : pdy M q k us) (hg : pdy M r k g) (husk : pok k us) (hgk : pok k g)
    (h1 : ∀ f' M', aprod k g us [] = some f' → zfr (inP p) M M' → pdy M' p k f' → P 1 M') (h0 : ∀ M', aprod k g us [] = none → zfr (inP p) M M' → P 0 M') : ycI d nX6_becomeProduct [.ref p, .ref q, .ref r] M P := by
  obtain ⟨d, rfl, he⟩ := dS hd
  refine en_X6_becomeProduct _ _ _ M (sg_X6_becomeProduct_0 _ _ _ M ⟨hp.1, sp_empty (k := k) (by omega) hp fun M1 hfr hpd => ⟨(pst_fr hfr hp).1, ?_⟩⟩)
  refine sp_addProduct (by omega) (pst_fr hfr hp) (pst_fr hfr hq) (pst_fr hfr hr) hpq hpr hop (ost_fr hfr hop ho) hpd (pdy_fr hfr (inP_ne hpq.symm) hus) (pdy_fr hfr (inP_ne hpr.symm) hg) pok_nil husk hgk (fun f' M2 hf' hfr2 hpd2 => ⟨Or.inr rfl, _, rfl, h1 f' M2 hf' (zfr_tr hfr hfr2) hpd2⟩) (fun M2 hn hfr2 => ⟨Or.inl rfl, _, rfl, h0 M2 hn (zfr_tr hfr hfr2)⟩)
/-- all fractions multiplied -/
def ascal (c : aF) : aP → Option aP
  | [] => some []
  | t :: l => match afmul t.1 c with
    | none => none
    | some s => (ascal c l).map fun l' => (s, t.2) :: l'
theorem ascal_cons {c : aF} {t : aT} {l : aP} : ascal c (t :: l) = (match afmul t.1 c with
    | none => none
    | some s => (ascal c l).map fun l' => (s, t.2) :: l') := rfl
theorem ascal_ok {k : Nat} {c : aF} (hc : fok c) (hc0 : c.1 ≠ 0) : ∀ {L L' : aP}, (∀ t ∈ L, tok t) → ascal c L = some L' → (∀ t ∈ L', tok t) ∧ L'.map (fun t => ark k t.2) = L.map (fun t => ark k t.2) ∧ L'.map Prod.snd = L.map Prod.snd
  | [], L', _, h => by cases h; exact ⟨fun _ h => absurd h List.not_mem_nil, rfl, rfl⟩
  | t :: l, L', ht, h => by
    have ht0 := ht t List.mem_cons_self
    unfold ascal at h
    split at h
    · cases h
    · rename_i s hs
      have hs2 := afmul_ok ht0.1 hc ht0.2.1 hc0 hs
      cases hl : ascal c l with
      | none => rw [hl] at h; cases h
      | some l' =>
        rw [hl] at h
        cases h
        obtain ⟨i1, i2, i3⟩ := ascal_ok (k := k) hc hc0 (fun t h => ht t (List.mem_cons_of_mem _ h)) hl
        refine ⟨fun x hx => ?_, by simp [i2], by simp [i3]⟩
        rcases List.mem_cons.mp hx with rfl | hx
        · exact ⟨hs2.1, hs2.2, ht0.2.2⟩
        · exact i1 x hx
theorem ascal_pok {k : Nat} {c : aF} {L L' : aP} (hc : fok c) (hc0 : c.1 ≠ 0) (hL : pok k L) (h : ascal c L = some L') : pok k L' := by
  obtain ⟨h1, h2, h3⟩ := ascal_ok (k := k) hc hc0 hL.1 h
  refine ⟨h1, ?_, ?_⟩
  · have e1 : (L'.map fun t => ark k t.2).Pairwise (fun x y => y < x) ↔ srt k L' := List.pairwise_map
    have e2 : (L.map fun t => ark k t.2).Pairwise (fun x y => y < x) ↔ srt k L := List.pairwise_map
    rw [h2] at e1
    exact e1.mp (e2.mpr hL.2.1)
  · have := congrArg List.length h3
    rw [List.length_map, List.length_map] at this
    rw [this]
    exact hL.2.2
theorem sp_multiply {d p o k : Nat} {M : zM} {L : aP} {c : aF} {P : Int32 → zM → Prop} (hd : 3 ≤ d) (hp : pst M p o) (hL : pdy M p k L) (hk : pok k L) (hc : fok c) (hc0 : c.1 ≠ 0) (h1 : ∀ L' M', ascal c L = some L' → zfr (inP p) M M' → pdy M' p k L' → P 1 M') (h0 : ∀ M', ascal c L = none → zfr (inP p) M M' → P 0 M') : ycI d nX6_multiply [.ref p, .long (eF c)] M P := by
  obtain ⟨d, rfl, he⟩ := dS hd
  have hl := hk.2.2
  have loop : ∀ (n i : Nat) (pre : aP) (M' : zM) (o4 o5 : Option Value), i + n = L.length → pre.length = i → zfr (inP p) M M' → pdy M' p k (pre ++ L.drop i) → (ascal c (L.drop i)).map (fun l => pre ++ l) = ascal c L → wX6_multiply d (fun r M2 => ∃ x : Int32, r = [.int x] ∧ P x M2) 2 [some (.ref p), some (.long (eF c)), none, some (.int (nI i)), o4, o5] [] M' := by
    intro n
    induction n with
    | zero =>
      intro i pre M' o4 o5 hi hpre hfr hpd heq
      have hp' := pst_fr hfr hp
      have hi' : i = L.length := by omega
      subst hi'
      rw [List.drop_length] at heq hpd
      rw [List.append_nil] at hpd
      have heq : some (pre ++ []) = ascal c L := heq
      rw [List.append_nil] at heq
      refine sg_X6_multiply_2 _ _ _ _ _ _ ⟨hp'.1, fun _ => ⟨Or.inr rfl, _, rfl, h1 pre M' heq.symm hfr hpd⟩, fun c => absurd (by rw [hpd.1, hpre]; exact Int32.le_refl _) c⟩
    | succ n ih =>
      intro i pre M' o4 o5 hi hpre hfr hpd heq
      have hp' := pst_fr hfr hp
      have hlt : i < L.length := by omega
      have hlen : (pre ++ L.drop i).length = L.length := by rw [List.length_append, List.length_drop]; omega
      have hu : (pre ++ L.drop i)[i]? = some L[i] := by
        rw [List.getElem?_append_right (by omega), hpre, Nat.sub_self, List.drop_eq_getElem_cons hlt]
        rfl
      obtain ⟨g1, g2, g3⟩ := hpd.2 _ _ hu
      have htu := hk.1 _ (List.getElem_mem hlt)
      have ci := cl_n (n := i) (by omega)
      have zi : zin (nI i) 100 := zin_n (by omega) (by omega)
      rw [List.drop_eq_getElem_cons hlt, ascal_cons] at heq
      refine sg_X6_multiply_2 _ _ _ _ _ _ ⟨hp'.1, fun c => ?_, fun _ => ⟨hp'.1, p_k1 hp', by rw [p_l1 hp']; exact zi, ?_⟩⟩
      · rw [hpd.1, hlen] at c
        have := (nI_leI (by omega) (by omega)).mp c
        omega
      · rw [ci, hp'.2.2.1, g1]
        refine sp_fmul (by omega) htu.1 hc ?_
        cases hs : afmul (L[i]).1 c with
        | none =>
          rw [hs] at heq
          exact ⟨fun z => absurd (show lg_cmp (0 : Int64) 0 = 0 by decide) z, fun _ => ⟨Or.inl rfl, _, rfl, h0 M' heq.symm hfr⟩⟩
        | some s =>
          rw [hs] at heq
          have hs2 := afmul_ok htu.1 hc htu.2.1 hc0 hs
          refine ⟨fun _ => ⟨hp'.1, p_k1 hp', by rw [p_l1 hp']; exact zi, ?_⟩, fun z => absurd (Classical.not_not.mp z) (eF_0 hs2.1)⟩
          intro M3 v3
          rw [show v3 = nI (i + 1) from nI_1 i]
          have hfr3 : zfr (inP p) M' M3 := zfr_uL (by rw [hp'.2.2.1]; exact ⟨by omega, by omega⟩)
          refine ih (i + 1) (pre ++ [(s, (L[i]).2)]) M3 _ _ (by omega) (by rw [List.length_append, hpre]; rfl) (zfr_tr hfr hfr3) ⟨?_, fun j t hj => ?_⟩ ?_
          · rw [List.append_assoc, List.length_append, List.length_append, List.length_drop, hpre]
            have : zI M3 p 4 = zI M' p 4 := rfl
            rw [this, hpd.1, hlen]
            congr 1
            show L.length = i + (1 + (L.length - (i + 1)))
            omega
          · have r1 : zL M3 (p + 1) j = if j = i then eF s else zL M' (p + 1) j := by
              rw [show M3 = zuL M' (zR M' p 1) i (eF s) from rfl, hp'.2.2.1, zL_uL]
              simp only [true_and]
            rw [r1]
            by_cases hji : j = i
            · subst hji
              rw [List.append_assoc, List.getElem?_append_right (by omega), hpre, Nat.sub_self] at hj
              cases hj
              rw [if_pos rfl]
              exact ⟨rfl, g2, g3⟩
            · rw [if_neg hji]
              refine hpd.2 j t ?_
              rw [← hj]
              by_cases hjl : j < i
              · rw [List.append_assoc, List.getElem?_append_left (by omega), List.getElem?_append_left (by omega)]
              · rw [List.getElem?_append_right (by omega), List.getElem?_append_right (by rw [List.length_append, hpre]; simp; omega), List.getElem?_drop, List.getElem?_drop, List.length_append, hpre]
                congr 1
                simp
                omega
          · rw [← heq]
            cases ascal c (L.drop (i + 1)) with
            | none => rfl
            | some l => simp
  exact en_X6_multiply _ _ M (sg_X6_multiply_0 _ _ M (loop L.length 0 [] M _ _ (by omega) rfl zfr_rf hL (by rw [List.drop_zero]; cases ascal c L <;> rfl)))
end
section
/-! likeness, variables, values of the class's polynomials -/
theorem sp_isLike {d p q o k : Nat} {M : zM} {L L2 : aP} {P : Int32 → zM → Prop} (hd : 1 ≤ d) (hp : pst M p o) (hq : pst M q o) (hL : pdy M p k L) (hL2 : pdy M q k L2) (hk : pok k L) (hk2 : pok k L2) (h1 : L = L2 → P 1 M) (h0 : L ≠ L2 → P 0 M) : ycI d nX6_isLike [.ref p, .ref q] M P := by
  obtain ⟨d, rfl, he⟩ := dS hd
  have hl := hk.2.2
  have hl2 := hk2.2.2
  have loop : ∀ (n i : Nat), i + n = L.length → L.length = L2.length → (∀ j, j < i → L[j]? = L2[j]?) → wX6_isLike d (fun r M2 => ∃ x : Int32, r = [.int x] ∧ P x M2) 9 [some (.ref p), some (.ref q), some (.int (nI i))] [] M := by
    intro n
    induction n with
    | zero =>
      intro i hi hll hj
      refine sg_X6_isLike_9 _ _ _ _ ⟨hp.1, fun _ => ⟨Or.inr rfl, _, rfl, h1 (List.ext_getElem? fun j => ?_)⟩, fun c => absurd (by rw [hL.1, show i = L.length by omega]; exact Int32.le_refl _) c⟩
      by_cases hji : j < i
      · exact hj j hji
      · rw [List.getElem?_eq_none (by omega), List.getElem?_eq_none (by omega)]
    | succ n ih =>
      intro i hi hll hj
      have hlt : i < L.length := by omega
      have hu := List.getElem?_eq_getElem hlt
      have hu2 := List.getElem?_eq_getElem (l := L2) (i := i) (by omega)
      obtain ⟨g1, g2, g3⟩ := hL.2 _ _ hu
      obtain ⟨r1, r2, r3⟩ := hL2.2 _ _ hu2
      have ht := hk.1 _ (List.mem_of_getElem? hu)
      have ht2 := hk2.1 _ (List.mem_of_getElem? hu2)
      have ci := cl_n (n := i) (by omega)
      have zi : zin (nI i) 100 := zin_n (by omega) (by omega)
      have no : (L[i]).2 ≠ (L2[i]).2 ∨ (L[i]).1 ≠ (L2[i]).1 → P 0 M := fun hne => h0 fun e => by
        subst e
        rcases hne with h | h <;> exact h rfl
      refine sg_X6_isLike_9 _ _ _ _ ⟨hp.1, fun c => ?_, fun _ => ⟨hp.1, p_k2 hp, by rw [p_l2 hp]; exact zi, hq.1, p_k2 hq, by rw [p_l2 hq]; exact zi, fun c => ⟨Or.inl rfl, _, rfl, no (Or.inl fun e => c ?_)⟩, fun c => ⟨hp.1, p_k1 hp, by rw [p_l1 hp]; exact zi, hq.1, p_k1 hq, by rw [p_l1 hq]; exact zi, fun c2 => ?_, fun c2 => ⟨Or.inl rfl, _, rfl, no (Or.inr fun e => c2 ?_)⟩⟩⟩⟩
      · rw [hL.1] at c
        have := (nI_leI (by omega) (by omega)).mp c
        omega
      · rw [ci, hp.2.2.2.1, hq.2.2.2.1, g2, r2, e]
      · intro v2
        rw [show v2 = nI (i + 1) from nI_1 i]
        have c := Classical.not_not.mp c
        rw [ci, hp.2.2.2.1, hq.2.2.2.1, g2, r2] at c
        rw [ci, hp.2.2.1, hq.2.2.1, g1, r1, lc_eq, Int64.toInt_inj] at c2
        refine ih (i + 1) (by omega) hll fun j hj2 => ?_
        by_cases hji : j = i
        · subst hji
          rw [hu, hu2]
          congr 1
          exact Prod.ext (eF_inj ht.1 ht2.1 c2) (e8_inj ht.2.2 ht2.2.2 c)
        · exact hj j (by omega)
      · rw [ci, hp.2.2.1, hq.2.2.1, g1, r1, e, lc_eq]
  refine en_X6_isLike _ _ M (sg_X6_isLike_0 _ _ M ⟨hp.1, hq.1, fun c => ?_, fun c => ⟨Or.inl rfl, _, rfl, h0 fun e => c ?_⟩⟩)
  · rw [hL.1, hL2.1] at c
    exact loop L.length 0 (by omega) ((nI_eq (by omega) (by omega)).mp c) fun j hj => absurd hj (by omega)
  · rw [hL.1, hL2.1, e]
theorem sp_isWithout {d p o k n : Nat} {M : zM} {L : aP} {P : Int32 → zM → Prop} (hd : 2 ≤ d) (hp : pst M p o) (hL : pdy M p k L) (hk : pok k L) (hn : n ≤ 4) (h1 : (∀ t ∈ L, ∀ v, v < n → aex t.2 v = 0) → P 1 M) (h0 : ¬ (∀ t ∈ L, ∀ v, v < n → aex t.2 v = 0) → P 0 M) : ycI d nX6_isWithout [.ref p, .int (nI n)] M P := by
  obtain ⟨d, rfl, he⟩ := dS hd
  have hl := hk.2.2
  have loop : ∀ (r i : Nat) (o3 : Option Value), i + r = L.length → (∀ (j : Nat) (t : aT), j < i → L[j]? = some t → ∀ v, v < n → aex t.2 v = 0) → wX6_isWithout d (fun r M2 => ∃ x : Int32, r = [.int x] ∧ P x M2) 2 [some (.ref p), some (.int (nI n)), some (.int (nI i)), o3] [] M := by
    intro r
    induction r with
    | zero =>
      intro i o3 hi hj
      refine sg_X6_isWithout_2 _ _ _ _ _ ⟨hp.1, fun _ => ⟨Or.inr rfl, _, rfl, h1 fun t ht => ?_⟩, fun c => absurd (by rw [hL.1, show i = L.length by omega]; exact Int32.le_refl _) c⟩
      obtain ⟨j, hjt⟩ := List.getElem?_of_mem ht
      exact hj j t (by have := (List.getElem?_eq_some_iff.mp hjt).1; omega) hjt
    | succ r ih =>
      intro i o3 hi hj
      have hlt : i < L.length := by omega
      have hu := List.getElem?_eq_getElem hlt
      obtain ⟨g1, g2, g3⟩ := hL.2 _ _ hu
      have ht := hk.1 _ (List.mem_of_getElem? hu)
      have ci := cl_n (n := i) (by omega)
      have zi : zin (nI i) 100 := zin_n (by omega) (by omega)
      have inner : ∀ (s v : Nat), v + s = n → (∀ u, u < v → aex (L[i]).2 u = 0) → wX6_isWithout d (fun r M2 => ∃ x : Int32, r = [.int x] ∧ P x M2) 8 [some (.ref p), some (.int (nI n)), some (.int (nI i)), some (.int (nI v))] [] M := by
        intro s
        induction s with
        | zero =>
          intro v hv hu2
          refine sg_X6_isWithout_8 _ _ _ _ _ ⟨fun _ => ?_, fun c => absurd (by rw [show v = n by omega]; exact Int32.le_refl _) c⟩
          intro v2
          rw [show v2 = nI (i + 1) from nI_1 i]
          refine ih (i + 1) _ (by omega) fun j t hj2 hjt w hw => ?_
          by_cases hji : j = i
          · subst hji
            rw [hu] at hjt
            cases hjt
            exact hu2 w (by omega)
          · exact hj j t (by omega) hjt w hw
        | succ s ih2 =>
          intro v hv hu2
          have q1 := aex_lt ht.2.2 v
          refine sg_X6_isWithout_8 _ _ _ _ _ ⟨fun c => ?_, fun _ => ⟨hp.1, p_k2 hp, by rw [p_l2 hp]; exact zi, ?_⟩⟩
          · have := (nI_leI (by omega) (by omega)).mp c
            omega
          · rw [ci, hp.2.2.2.1, g2]
            refine sp_exponent (by omega) (mok_by ht.2.2) (by omega) ⟨fun c => ?_, fun c => ⟨Or.inl rfl, _, rfl, h0 fun z => c ?_⟩⟩
            · intro v3
              rw [show v3 = nI (v + 1) from nI_1 v]
              refine ih2 (v + 1) (by omega) fun u hu3 => ?_
              by_cases huv : u = v
              · subst huv; exact (nI_z (by omega)).mp c
              · exact hu2 u (by omega)
            · rw [z _ (List.mem_of_getElem? hu) v (by omega)]
              rfl
      refine sg_X6_isWithout_2 _ _ _ _ _ ⟨hp.1, fun c => ?_, fun _ => inner n 0 (by omega) fun u hu => absurd hu (by omega)⟩
      rw [hL.1] at c
      have := (nI_leI (by omega) (by omega)).mp c
      omega
  exact en_X6_isWithout _ _ M (sg_X6_isWithout_0 _ _ M (loop L.length 0 _ (by omega) fun j t hj => absurd hj (by omega)))
/-- a fraction times a number, so often -/
def apw (x : Int) : Nat → aF → Option aF
  | 0, c => some c
  | n + 1, c => match afmul c (x, 1) with
    | none => none
    | some s => apw x n s
def atm (pt : Nat → Int) (m : aM) : Nat → Nat → aF → Option aF
  | 0, _, c => some c
  | n + 1, v, c => match apw (pt v) (aex m v) c with
    | none => none
    | some s => atm pt m n (v + 1) s
def aval (pt : Nat → Int) (nv : Nat) : aP → aF → Option aF
  | [], tot => some tot
  | t :: l, tot => match atm pt t.2 nv 0 t.1 with
    | none => none
    | some s => match afsum tot s with
      | none => none
      | some r => aval pt nv l r
theorem fok_x1 {x : Int} (h : -1000000000 ≤ x ∧ x ≤ 1000000000) : fok (x, 1) := ⟨h, by show (0 : Int) < 1; decide, by show (1 : Int) ≤ 1000000000; decide⟩
theorem afmul_fok {f g s : aF} (hf : fok f) (hg : fok g) (h : afmul f g = some s) : fok s := (alow_ok (Int.mul_pos hf.2.1 hg.2.1) h).1
theorem alow_x1 {x : Int} (h : -1000000000 ≤ x ∧ x ≤ 1000000000) : alow x 1 = some (x, 1) := by
  unfold alow
  have hg : Int.gcd x 1 = 1 := Int.gcd_one_right x
  rw [hg]
  have e1 : x / ((1 : Nat) : Int) = x := Int.ediv_one x
  have e2 : (1 : Int) / ((1 : Nat) : Int) = 1 := by decide
  rw [e1, e2, if_pos ⟨h, by decide⟩]
theorem apw_fok {x : Int} (hx : fok (x, 1)) : ∀ {n : Nat} {c s : aF}, fok c → apw x n c = some s → fok s
  | 0, c, s, hc, h => by cases h; exact hc
  | n + 1, c, s, hc, h => by
    unfold apw at h
    split at h
    · cases h
    · rename_i s1 hs1
      exact apw_fok hx (afmul_fok hc hx hs1) h
theorem atm_fok {pt : Nat → Int} {m : aM} (hx : ∀ v, v < 4 → fok (pt v, 1)) : ∀ {n v : Nat} {c s : aF}, v + n ≤ 4 → fok c → atm pt m n v c = some s → fok s
  | 0, v, c, s, _, hc, h => by cases h; exact hc
  | n + 1, v, c, s, hv, hc, h => by
    unfold atm at h
    split at h
    · cases h
    · rename_i s1 hs1
      exact atm_fok hx (by omega) (apw_fok (hx v (by omega)) hc hs1) h
/-- the point's row -/
def ptok (M : zM) (a : Nat) (pt : Nat → Int) : Prop := zsh M a = (2, 4) ∧ ∀ v, v < 4 → zI M a v = Int32.ofInt (pt v) ∧ (-2147483648 ≤ pt v ∧ pt v < 2147483648)
theorem sp_termAt {d p o k a i nv : Nat} {M : zM} {L : aP} {t : aT} {pt : Nat → Int} {P : Int64 → zM → Prop} (hd : 3 ≤ d) (hp : pst M p o) (hL : pdy M p k L) (hk : pok k L) (hi : L[i]? = some t) (ha : ptok M a pt) (hpt : ∀ v, v < nv → -1000 ≤ pt v ∧ pt v ≤ 1000) (hnv : nv ≤ 4) (h : P (eFo (atm pt t.2 nv 0 t.1)) M) : ycJ d nX6_termAt [.ref p, .int (nI i), .ref a, .int (nI nv)] M P := by
  obtain ⟨d, rfl, he⟩ := dS hd
  have hil := (List.getElem?_eq_some_iff.mp hi).1
  have hl := hk.2.2
  obtain ⟨g1, g2, g3⟩ := hL.2 _ _ hi
  have ht := hk.1 _ (List.mem_of_getElem? hi)
  have ci := cl_n (n := i) (by omega)
  have zi : zin (nI i) 100 := zin_n (by omega) (by omega)
  have outer : ∀ (r v : Nat) (c : aF) (o7 o8 o9 o10 : Option Value), v + r = nv → fok c → atm pt t.2 r v c = atm pt t.2 nv 0 t.1 → wX6_termAt d (fun r M2 => ∃ x : Int64, r = [.long x] ∧ P x M2) 7 [some (.ref p), some (.int (nI i)), some (.ref a), some (.int (nI nv)), some (.long (eF c)), none, some (.int (nI v)), o7, o8, o9, o10] [] M := by
    intro r
    induction r with
    | zero =>
      intro v c o7 o8 o9 o10 hv hc heq
      have heq : some c = atm pt t.2 nv 0 t.1 := heq
      refine sg_X6_termAt_7 _ _ _ _ _ _ _ _ _ _ _ ⟨fun _ => ⟨_, rfl, by rw [← heq] at h; exact h⟩, fun c => absurd (by rw [show v = nv by omega]; exact Int32.le_refl _) c⟩
    | succ r ih =>
      intro v c o7 o8 o9 o10 hv hc heq
      have q1 := aex_lt ht.2.2 v
      have hx := hpt v (by omega)
      have hxf : fok (pt v, 1) := fok_x1 (by omega)
      have heq : (match apw (pt v) (aex t.2 v) c with | none => none | some s => atm pt t.2 r (v + 1) s) = atm pt t.2 nv 0 t.1 := heq
      have inner : ∀ (s u : Nat) (c' : aF), u + s = aex t.2 v → fok c' → (match apw (pt v) s c' with | none => none | some s => atm pt t.2 r (v + 1) s) = atm pt t.2 nv 0 t.1 → wX6_termAt d (fun r M2 => ∃ x : Int64, r = [.long x] ∧ P x M2) 26 [some (.ref p), some (.int (nI i)), some (.ref a), some (.int (nI nv)), some (.long (eF c')), none, some (.int (nI v)), some (.int (nI (aex t.2 v))), some (.long (eF (pt v, 1))), none, some (.int (nI u))] [] M := by
        intro s
        induction s with
        | zero =>
          intro u c' hu hc' heq'
          have heq' : atm pt t.2 r (v + 1) c' = atm pt t.2 nv 0 t.1 := heq'
          refine sg_X6_termAt_26 _ _ _ _ _ _ _ _ _ _ ⟨fun _ => ?_, fun c => absurd (by rw [show u = aex t.2 v by omega]; exact Int32.le_refl _) c⟩
          intro v6
          rw [show v6 = nI (v + 1) from nI_1 v]
          exact ih (v + 1) c' _ _ _ _ (by omega) hc' heq'
        | succ s ih2 =>
          intro u c' hu hc' heq'
          unfold apw at heq'
          refine sg_X6_termAt_26 _ _ _ _ _ _ _ _ _ _ ⟨fun c => ?_, fun _ => sp_fmul (by omega) hc' hxf ?_⟩
          · have := (nI_leI (by omega) (by omega)).mp c
            omega
          · cases hs : afmul c' (pt v, 1) with
            | none =>
              rw [hs] at heq'
              have heq' : none = atm pt t.2 nv 0 t.1 := heq'
              exact ⟨fun z => absurd (show lg_cmp (0 : Int64) 0 = 0 by decide) z, fun _ => ⟨_, rfl, by rw [← heq'] at h; exact h⟩⟩
            | some s1 =>
              rw [hs] at heq'
              have hs1 := afmul_fok hc' hxf hs
              refine ⟨fun _ => ?_, fun z => absurd (Classical.not_not.mp z) (eF_0 hs1)⟩
              intro v10
              rw [show v10 = nI (u + 1) from nI_1 u]
              exact ih2 (u + 1) s1 (by omega) hs1 heq'
      refine sg_X6_termAt_7 _ _ _ _ _ _ _ _ _ _ _ ⟨fun c => ?_, fun _ => ⟨hp.1, p_k2 hp, by rw [p_l2 hp]; exact zi, ?_⟩⟩
      · have := (nI_leI (by omega) (by omega)).mp c
        omega
      · rw [ci, hp.2.2.2.1, g2]
        refine sp_exponent (by omega) (mok_by ht.2.2) (by omega) ⟨by rw [ha.1], by rw [ha.1]; exact zin_n (by omega) (by omega), ?_⟩
        rw [cl_n (by omega), (ha.2 v (by omega)).1]
        refine sp_lowest (A := pt v) (B := 1) (by omega) (tI64 (ha.2 v (by omega)).2) (by decide) (by omega) (by omega) ?_
        rw [alow_x1 (by omega)]
        exact inner (aex t.2 v) 0 c (by omega) hc heq
  refine en_X6_termAt _ _ _ _ M (sg_X6_termAt_0 _ _ _ _ M ⟨hp.1, p_k1 hp, by rw [p_l1 hp]; exact zi, ?_⟩)
  intro w4
  rw [show w4 = eF t.1 by rw [show w4 = zL M (zR M p 1) (nI i).toNatClampNeg from rfl, ci, hp.2.2.1, g1]]
  exact outer nv 0 t.1 _ _ _ _ (by omega) ht.1 rfl
theorem sp_valueAt {d p o k a nv : Nat} {M : zM} {L : aP} {pt : Nat → Int} {P : Int64 → zM → Prop} (hd : 4 ≤ d) (hp : pst M p o) (hL : pdy M p k L) (hk : pok k L) (ha : ptok M a pt) (hpt : ∀ v, v < nv → -1000 ≤ pt v ∧ pt v ≤ 1000) (hnv : nv ≤ 4) (h : P (eFo (aval pt nv L (0, 1))) M) : ycJ d nX6_valueAt [.ref p, .ref a, .int (nI nv)] M P := by
  obtain ⟨d, rfl, he⟩ := dS hd
  have hl := hk.2.2
  have h01 : fok ((0 : Int), (1 : Int)) := ⟨⟨by decide, by decide⟩, by decide, by decide⟩
  have loop : ∀ (r i : Nat) (tot : aF) (o6 o7 : Option Value), i + r = L.length → fok tot → aval pt nv (L.drop i) tot = aval pt nv L (0, 1) → wX6_valueAt d (fun r M2 => ∃ x : Int64, r = [.long x] ∧ P x M2) 4 [some (.ref p), some (.ref a), some (.int (nI nv)), some (.long (eF tot)), none, some (.int (nI i)), o6, o7] [] M := by
    intro r
    induction r with
    | zero =>
      intro i tot o6 o7 hi hf heq
      rw [show i = L.length by omega, List.drop_length] at heq
      have heq : some tot = aval pt nv L (0, 1) := heq
      refine sg_X6_valueAt_4 _ _ _ _ _ _ _ _ ⟨hp.1, fun _ => ⟨_, rfl, by rw [← heq] at h; exact h⟩, fun c => absurd (by rw [hL.1, show i = L.length by omega]; exact Int32.le_refl _) c⟩
    | succ r ih =>
      intro i tot o6 o7 hi hf heq
      have hlt : i < L.length := by omega
      have hu := List.getElem?_eq_getElem hlt
      have ht := hk.1 _ (List.mem_of_getElem? hu)
      rw [List.drop_eq_getElem_cons hlt] at heq
      have heq : (match atm pt (L[i]).2 nv 0 (L[i]).1 with | none => none | some s => match afsum tot s with | none => none | some r => aval pt nv (L.drop (i + 1)) r) = aval pt nv L (0, 1) := heq
      refine sg_X6_valueAt_4 _ _ _ _ _ _ _ _ ⟨hp.1, fun c => ?_, fun _ => ⟨hp.1, sp_termAt (by omega) hp hL hk hu ha hpt hnv ?_⟩⟩
      · rw [hL.1] at c
        have := (nI_leI (by omega) (by omega)).mp c
        omega
      · cases hs : atm pt (L[i]).2 nv 0 (L[i]).1 with
        | none =>
          rw [hs] at heq
          have heq : none = aval pt nv L (0, 1) := heq
          exact ⟨fun z => absurd (show lg_cmp (0 : Int64) 0 = 0 by decide) z, fun _ => ⟨_, rfl, by rw [← heq] at h; exact h⟩⟩
        | some s =>
          rw [hs] at heq
          have hxs : ∀ v, v < nv → fok (pt v, 1) := fun v hv => by
            have := hpt v hv
            exact fok_x1 (by omega)
          have hsf : fok s := by
            have key : ∀ {n v : Nat} {c s : aF}, v + n ≤ nv → fok c → atm pt (L[i]).2 n v c = some s → fok s := by
              intro n
              induction n with
              | zero => intro v c s _ hc h; cases h; exact hc
              | succ n ihn =>
                intro v c s hv hc h
                unfold atm at h
                split at h
                · cases h
                · rename_i s1 hs1
                  exact ihn (by omega) (apw_fok (hxs v (by omega)) hc hs1) h
            exact key (by omega) ht.1 hs
          refine ⟨fun _ => sp_fsum (by omega) hf hsf ?_, fun z => absurd (Classical.not_not.mp z) (eF_0 hsf)⟩
          cases hr : afsum tot s with
          | none =>
            have heq : none = aval pt nv L (0, 1) := by
              rw [← heq]
              show _ = (match afsum tot s with | none => none | some r => aval pt nv (L.drop (i + 1)) r)
              rw [hr]
            exact ⟨fun z => absurd (show lg_cmp (0 : Int64) 0 = 0 by decide) z, fun _ => ⟨_, rfl, by rw [← heq] at h; exact h⟩⟩
          | some r1 =>
            have heq : aval pt nv (L.drop (i + 1)) r1 = aval pt nv L (0, 1) := by
              rw [← heq]
              show _ = (match afsum tot s with | none => none | some r => aval pt nv (L.drop (i + 1)) r)
              rw [hr]
            have hr1 := (afsum_ok hf hsf hr).1
            refine ⟨fun _ => ?_, fun z => absurd (Classical.not_not.mp z) (eF_0 hr1)⟩
            intro v5
            rw [show v5 = nI (i + 1) from nI_1 i]
            exact ih (i + 1) r1 _ _ (by omega) hr1 heq
  exact en_X6_valueAt _ _ _ M (sg_X6_valueAt_0 _ _ _ M (loop L.length 0 (0, 1) _ _ (by omega) h01 rfl))
end
section
/-! sorted anew -/
def ains (k : Nat) (t : aT) (L : aP) : aP := L.insertIdx (apos k t.2 L) t
def asrt (k : Nat) : aP → aP → aP
  | [], acc => acc
  | t :: l, acc => asrt k l (ains k t acc)
theorem ains_ok {k : Nat} {t : aT} {L : aP} (h1 : ∀ u ∈ L, tok u) (h2 : srt k L) (ht : tok t) (hne : ∀ u ∈ L, u.2 ≠ t.2) : (∀ u ∈ ains k t L, tok u) ∧ srt k (ains k t L) ∧ (ains k t L).length = L.length + 1 ∧ ∀ u ∈ ains k t L, u = t ∨ u ∈ L := by
  have hle := apos_le (k := k) (m := t.2) L
  have h2' := srt_iff.mp h2
  have hmem : ∀ u ∈ ains k t L, u = t ∨ u ∈ L := fun u hu => (List.mem_insertIdx hle).mp hu
  have low : ∀ (i : Nat) (u : aT), L[i]? = some u → apos k t.2 L ≤ i → ark k u.2 < ark k t.2 := by
    intro i u hu hi
    have hle2 := apos_ge (m := t.2) h2 hi hu
    rcases Nat.lt_or_eq_of_le hle2 with z | z
    · exact z
    · exact absurd (ark_inj (h1 u (List.mem_of_getElem? hu)).2.2 ht.2.2 z) (hne u (List.mem_of_getElem? hu))
  refine ⟨fun u hu => ?_, srt_iff.mpr ?_, ?_, hmem⟩
  · rcases hmem u hu with rfl | hu
    · exact ht
    · exact h1 u hu
  · intro i j u v hij hu hv
    unfold ains at hu hv
    rw [List.getElem?_insertIdx] at hu hv
    split at hu
    · rename_i c1
      split at hv
      · exact h2' i j u v hij hu hv
      · split at hv
        · split at hv
          · cases hv
            exact apos_lt c1 hu
          · cases hv
        · exact h2' i (j - 1) u v (by omega) hu hv
    · split at hu
      · rename_i c1 c2
        split at hu
        · cases hu
          split at hv
          · omega
          · split at hv
            · omega
            · exact low (j - 1) v hv (by omega)
        · cases hu
      · rename_i c1 c2
        split at hv
        · omega
        · split at hv
          · omega
          · exact h2' (i - 1) (j - 1) u v (by omega) hu hv
  · unfold ains
    rw [List.length_insertIdx, if_pos hle]
theorem asrt_ok {k : Nat} : ∀ {l acc : aP}, (∀ u ∈ l, tok u) → (∀ u ∈ acc, tok u) → srt k acc → l.Pairwise (fun a b => a.2 ≠ b.2) → (∀ u ∈ l, ∀ v ∈ acc, v.2 ≠ u.2) → (∀ u ∈ asrt k l acc, tok u) ∧ srt k (asrt k l acc) ∧ (asrt k l acc).length = l.length + acc.length
  | [], acc, _, h2, h3, _, _ => ⟨h2, h3, by simp [asrt]⟩
  | t :: l, acc, h1, h2, h3, h4, h5 => by
    rw [List.pairwise_cons] at h4
    obtain ⟨a1, a2, a3, a4⟩ := ains_ok h2 h3 (h1 t List.mem_cons_self) (h5 t List.mem_cons_self)
    obtain ⟨b1, b2, b3⟩ := asrt_ok (k := k) (l := l) (acc := ains k t acc) (fun u hu => h1 u (List.mem_cons_of_mem _ hu)) a1 a2 h4.2 (fun u hu v hv => by
      rcases a4 v hv with rfl | hv
      · exact h4.1 u hu
      · exact h5 u (List.mem_cons_of_mem _ hu) v hv)
    exact ⟨b1, b2, by rw [asrt, b3, a3]; simp; omega⟩
theorem srt_ne {k : Nat} {L : aP} (h : srt k L) : L.Pairwise (fun a b => a.2 ≠ b.2) := List.Pairwise.imp (fun {a b} hab => fun e => by rw [e] at hab; omega) h
theorem asrt_pok {k k' : Nat} {L : aP} (h : pok k L) : pok k' (asrt k' L []) := by
  obtain ⟨h1, h2, h3⟩ := asrt_ok (k := k') (l := L) (acc := []) h.1 (fun _ h => absurd h List.not_mem_nil) List.Pairwise.nil (srt_ne h.2.1) (fun _ _ _ h => absurd h List.not_mem_nil)
  refine ⟨h1, h2, ?_⟩
  rw [h3]
  have := h.2.2
  simp
  omega
/-- fractions and powers of a list, its ranks up to a place -/
def pdz (M : zM) (p k i : Nat) (L : aP) : Prop := zI M p 4 = nI L.length ∧ ∀ j t, L[j]? = some t → zL M (p + 1) j = eF t.1 ∧ zI M (p + 2) j = e8 t.2 ∧ (j < i → zI M (p + 3) j = nI (ark k t.2))
theorem sp_arrange {d p o k k0 : Nat} {M : zM} {L : aP} {P : zM → Prop} (hd : 2 ≤ d) (hp : pst M p o) (hop : ¬ inP p o) (ho : ost M o k) (hL : pdy M p k0 L) (hk : pok k0 L) (h : ∀ M', zfr (inP p) M M' → pdy M' p k (asrt k L []) → P M') : ycV d nX6_arrange [.ref p] M P := by
  obtain ⟨d, rfl, he⟩ := dS hd
  have hl := hk.2.2
  have outer : ∀ (r i : Nat) (acc : aP) (M' : zM) (o2 o3 o4 o5 o6 : Option Value), i + r = L.length → acc.length = i → (∀ u ∈ acc, tok u) → srt k acc → (∀ u ∈ L.drop i, ∀ v ∈ acc, v.2 ≠ u.2) → zfr (inP p) M M' → pdz M' p k i (acc ++ L.drop i) → asrt k (L.drop i) acc = asrt k L [] → wX6_arrange d (fun r M2 => r = [] ∧ P M2) 2 [some (.ref p), some (.int (nI i)), o2, o3, o4, o5, o6] [] M' := by
    intro r
    induction r with
    | zero =>
      intro i acc M' o2 o3 o4 o5 o6 hi hal hat has hdis hfr hpd heq
      have hp' := pst_fr hfr hp
      rw [show i = L.length by omega, List.drop_length, List.append_nil] at hpd
      rw [show i = L.length by omega, List.drop_length] at heq
      have heq : acc = asrt k L [] := heq
      refine sg_X6_arrange_2 _ _ _ _ _ _ _ _ ⟨hp'.1, fun _ => ⟨rfl, h M' hfr ?_⟩, fun c => absurd (by rw [hpd.1, hal]; exact Int32.le_refl _) c⟩
      rw [← heq]
      exact ⟨hpd.1, fun j t hj => ⟨(hpd.2 j t hj).1, (hpd.2 j t hj).2.1, (hpd.2 j t hj).2.2 (by have := (List.getElem?_eq_some_iff.mp hj).1; omega)⟩⟩
    | succ r ih =>
      intro i acc M' o2 o3 o4 o5 o6 hi hal hat has hdis hfr hpd heq
      have hp' := pst_fr hfr hp
      have ho' := ost_fr hfr hop ho
      have hlt : i < L.length := by omega
      have hdrop := List.drop_eq_getElem_cons hlt
      have htu := hk.1 _ (List.getElem_mem hlt)
      have hlen : (acc ++ L.drop i).length = L.length := by rw [List.length_append, List.length_drop]; omega
      have hui : (acc ++ L.drop i)[i]? = some L[i] := by
        rw [List.getElem?_append_right (by omega), hal, Nat.sub_self, hdrop]
        rfl
      obtain ⟨g1, g2, -⟩ := hpd.2 _ _ hui
      have ci := cl_n (n := i) (by omega)
      have zi : zin (nI i) 100 := zin_n (by omega) (by omega)
      have hmr := ark_lt (k := k) htu.2.2
      have hap := apos_le (k := k) (m := (L[i]).2) acc
      have hne : ∀ v ∈ acc, v.2 ≠ (L[i]).2 := hdis _ (by rw [hdrop]; exact List.mem_cons_self)
      -- the place is found: the term is written there
      have leave : ∀ (at' : Nat) (M2 : zM), at' ≤ i → apos k (L[i]).2 acc = at' → zfr (inP p) M M2 → zI M2 p 4 = nI L.length → (∀ (j : Nat) (t : aT), (acc ++ L.drop i)[j]? = some t → j ≠ i → (j < at' → zL M2 (p + 1) j = eF t.1 ∧ zI M2 (p + 2) j = e8 t.2 ∧ zI M2 (p + 3) j = nI (ark k t.2)) ∧ (at' ≤ j → j < i → zL M2 (p + 1) (j + 1) = eF t.1 ∧ zI M2 (p + 2) (j + 1) = e8 t.2 ∧ zI M2 (p + 3) (j + 1) = nI (ark k t.2)) ∧ (i < j → zL M2 (p + 1) j = eF t.1 ∧ zI M2 (p + 2) j = e8 t.2)) → wX6_arrange d (fun r M2 => r = [] ∧ P M2) 65 [some (.ref p), some (.int (nI i)), some (.long (eF (L[i]).1)), none, some (.int (e8 (L[i]).2)), some (.int (nI (ark k (L[i]).2))), some (.int (nI at'))] [] M2 := by
        intro at' M2 h1 h2 hfr2 hc hrow
        have hp2 := pst_fr hfr2 hp
        have ca := cl_n (n := at') (by omega)
        have za : zin (nI at') 100 := zin_n (by omega) (by omega)
        refine sg_X6_arrange_65 _ _ _ _ _ _ _ ⟨hp2.1, p_k1 hp2, by rw [p_l1 hp2]; exact za, ?_⟩
        intro M3
        refine ⟨hp2.1, p_k2 hp2, by rw [p_l2 hp2]; exact za, ?_⟩
        intro M4
        refine ⟨hp2.1, p_k3 hp2, by rw [p_l3 hp2]; exact za, ?_⟩
        intro M5 v1
        rw [show v1 = nI (i + 1) from nI_1 i]
        have f3 : zfr (inP p) M2 M3 := zfr_uL (by rw [hp2.2.2.1]; exact ⟨by omega, by omega⟩)
        have f4 : zfr (inP p) M3 M4 := zfr_uI (by rw [hp2.2.2.2.1]; exact ⟨by omega, by omega⟩)
        have f5 : zfr (inP p) M4 M5 := zfr_uI (by rw [hp2.2.2.2.2.1]; exact ⟨by omega, by omega⟩)
        have r1 : ∀ j, zL M5 (p + 1) j = if j = at' then eF (L[i]).1 else zL M2 (p + 1) j := fun j => by
          show zL M3 (p + 1) j = _
          rw [show M3 = zuL M2 (zR M2 p 1) (nI at').toNatClampNeg (eF (L[i]).1) from rfl, ca, hp2.2.2.1, zL_uL]
          simp only [true_and]
        have r2 : ∀ j, zI M5 (p + 2) j = if j = at' then e8 (L[i]).2 else zI M2 (p + 2) j := fun j => by
          rw [show M5 = zuI M4 (zR M2 p 3) (nI at').toNatClampNeg (nI (ark k (L[i]).2)) from rfl, zI_uI, if_neg (by rw [hp2.2.2.2.2.1]; omega), show M4 = zuI M3 (zR M2 p 2) (nI at').toNatClampNeg (e8 (L[i]).2) from rfl, ca, hp2.2.2.2.1, zI_uI]
          simp only [true_and]
          rfl
        have r3 : ∀ j, zI M5 (p + 3) j = if j = at' then nI (ark k (L[i]).2) else zI M2 (p + 3) j := fun j => by
          rw [show M5 = zuI M4 (zR M2 p 3) (nI at').toNatClampNeg (nI (ark k (L[i]).2)) from rfl, ca, hp2.2.2.2.2.1, zI_uI]
          simp only [true_and]
          have : zI M4 (p + 3) j = zI M2 (p + 3) j := by
            rw [show M4 = zuI M3 (zR M2 p 2) (nI at').toNatClampNeg (e8 (L[i]).2) from rfl, zI_uI, if_neg (by rw [hp2.2.2.2.1]; omega)]
            rfl
          rw [this]
        have r0 : zI M5 p 4 = nI L.length := by
          rw [show M5 = zuI M4 (zR M2 p 3) (nI at').toNatClampNeg (nI (ark k (L[i]).2)) from rfl, zI_uI, if_neg (by rw [hp2.2.2.2.2.1]; omega), show M4 = zuI M3 (zR M2 p 2) (nI at').toNatClampNeg (e8 (L[i]).2) from rfl, zI_uI, if_neg (by rw [hp2.2.2.2.1]; omega)]
          exact hc
        obtain ⟨b1, b2, b3, b4⟩ := ains_ok hat has htu hne
        refine ih (i + 1) (ains k (L[i]) acc) M5 _ _ _ _ _ (by omega) (by rw [b3, hal]) b1 b2 (fun u hu v hv => ?_) (zfr_tr hfr2 (zfr_tr f3 (zfr_tr f4 f5))) ⟨?_, fun j t hj => ?_⟩ ?_
        · rcases b4 v hv with rfl | hv
          · have hpw := srt_ne hk.2.1
            obtain ⟨j, hj⟩ := List.getElem?_of_mem hu
            rw [List.getElem?_drop] at hj
            have hjl := (List.getElem?_eq_some_iff.mp hj)
            have := List.pairwise_iff_getElem.mp hpw i (i + 1 + j) hlt hjl.1 (by omega)
            rw [hjl.2] at this
            exact this
          · exact hdis u (by rw [hdrop]; exact List.mem_cons_of_mem _ hu) v hv
        · rw [r0, List.length_append, b3, List.length_drop, hal]
          congr 1
          omega
        · rw [r1, r2, r3]
          by_cases hji : j < i + 1
          · rw [List.getElem?_append_left (by rw [b3, hal]; exact hji)] at hj
            unfold ains at hj
            rw [h2, List.getElem?_insertIdx] at hj
            split at hj
            · rename_i c1
              rw [if_neg (by omega), if_neg (by omega), if_neg (by omega)]
              have hj2 : (acc ++ L.drop i)[j]? = some t := by rw [List.getElem?_append_left (by omega)]; exact hj
              obtain ⟨q1, q2, q3⟩ := (hrow j t hj2 (by omega)).1 c1
              exact ⟨q1, q2, fun _ => q3⟩
            · split at hj
              · rename_i c1 c2
                split at hj
                · cases hj
                  rw [if_pos c2, if_pos c2, if_pos c2]
                  exact ⟨rfl, rfl, fun _ => rfl⟩
                · cases hj
              · rename_i c1 c2
                rw [if_neg c2, if_neg c2, if_neg c2]
                have hj2 : (acc ++ L.drop i)[j - 1]? = some t := by rw [List.getElem?_append_left (by omega)]; exact hj
                obtain ⟨q1, q2, q3⟩ := (hrow (j - 1) t hj2 (by omega)).2.1 (by omega) (by omega)
                rw [show j - 1 + 1 = j by omega] at q1 q2 q3
                exact ⟨q1, q2, fun _ => q3⟩
          · rw [if_neg (by omega), if_neg (by omega), if_neg (by omega)]
            have hj2 : (acc ++ L.drop i)[j]? = some t := by
              rw [List.getElem?_append_right (by rw [b3, hal]; omega), List.getElem?_drop, b3, hal] at hj
              rw [List.getElem?_append_right (by omega), List.getElem?_drop, hal, ← hj]
              congr 1
              omega
            obtain ⟨q1, q2⟩ := (hrow j t hj2 (by omega)).2.2 (by omega)
            exact ⟨q1, q2, fun z => absurd z hji⟩
        · rw [← heq, hdrop]
          rfl
      -- the inner loop, downwards
      have inner : ∀ (at' : Nat) (M2 : zM), at' ≤ i → apos k (L[i]).2 acc ≤ at' → zfr (inP p) M M2 → zI M2 p 4 = nI L.length → (∀ (j : Nat) (t : aT), (acc ++ L.drop i)[j]? = some t → j ≠ i → (j < at' → zL M2 (p + 1) j = eF t.1 ∧ zI M2 (p + 2) j = e8 t.2 ∧ zI M2 (p + 3) j = nI (ark k t.2)) ∧ (at' ≤ j → j < i → zL M2 (p + 1) (j + 1) = eF t.1 ∧ zI M2 (p + 2) (j + 1) = e8 t.2 ∧ zI M2 (p + 3) (j + 1) = nI (ark k t.2)) ∧ (i < j → zL M2 (p + 1) j = eF t.1 ∧ zI M2 (p + 2) j = e8 t.2)) → wX6_arrange d (fun r M2 => r = [] ∧ P M2) 23 [some (.ref p), some (.int (nI i)), some (.long (eF (L[i]).1)), none, some (.int (e8 (L[i]).2)), some (.int (nI (ark k (L[i]).2))), some (.int (nI at'))] [] M2 := by
        intro at'
        induction at' with
        | zero =>
          intro M2 h1 h2 hfr2 hc hrow
          exact sg_X6_arrange_23 _ _ _ _ _ _ _ ⟨fun _ => leave 0 M2 h1 (by omega) hfr2 hc hrow, fun c => absurd (by decide) c⟩
        | succ at' ih2 =>
          intro M2 h1 h2 hfr2 hc hrow
          have hp2 := pst_fr hfr2 hp
          have hpr : nI (at' + 1) - 1 = nI at' := nI_pred at'
          have ca := cl_n (n := at') (by omega)
          have ca1 := cl_n (n := at' + 1) (by omega)
          have za : zin (nI at') 100 := zin_n (by omega) (by omega)
          have za1 : zin (nI (at' + 1)) 100 := zin_n (by omega) (by omega)
          have hal2 : at' < acc.length := by omega
          have hacc := List.getElem?_eq_getElem hal2
          have hj2 : (acc ++ L.drop i)[at']? = some acc[at'] := by rw [List.getElem?_append_left hal2]; exact hacc
          obtain ⟨q1, q2, q3⟩ := (hrow at' _ hj2 (by omega)).1 (by omega)
          have hmo := ark_lt (k := k) (hat _ (List.mem_of_getElem? hacc)).2.2
          refine sg_X6_arrange_23 _ _ _ _ _ _ _ ⟨fun c => ?_, fun _ => ⟨hp2.1, p_k3 hp2, by rw [p_l3 hp2, hpr]; exact za, fun c => ?_, fun c => ?_⟩⟩
          · have := (nI_leI (a := at' + 1) (b := 0) (by omega) (by omega)).mp c
            omega
          · rw [hpr, ca, hp2.2.2.2.2.1, q3] at c
            have c := (nI_leI (by omega) (by omega)).mp c
            refine leave (at' + 1) M2 h1 ?_ hfr2 hc hrow
            apply Nat.le_antisymm h2
            apply Nat.succ_le_of_lt
            apply Nat.lt_of_not_le
            intro z
            have b1 := apos_ge (m := (L[i]).2) has z hacc
            have b2 : ark k (acc[at']).2 = ark k (L[i]).2 := by omega
            exact hne _ (List.mem_of_getElem? hacc) (ark_inj (hat _ (List.mem_of_getElem? hacc)).2.2 htu.2.2 b2)
          · rw [hpr, ca, hp2.2.2.2.2.1, q3] at c
            have c : ¬ ark k (L[i]).2 ≤ ark k (acc[at']).2 := fun z => c ((nI_leI (by omega) (by omega)).mpr z)
            rw [hpr]
            refine ⟨hp2.1, hp2.1, p_k1 hp2, by rw [p_l1 hp2]; exact za, p_k1 hp2, by rw [p_l1 hp2]; exact za1, ?_⟩
            intro M3
            refine ⟨hp2.1, hp2.1, p_k2 hp2, by rw [p_l2 hp2]; exact za, p_k2 hp2, by rw [p_l2 hp2]; exact za1, ?_⟩
            intro M4
            refine ⟨hp2.1, hp2.1, p_k3 hp2, by rw [p_l3 hp2]; exact za, p_k3 hp2, by rw [p_l3 hp2]; exact za1, ?_⟩
            intro M5 v6
            rw [show v6 = nI at' from pk_m1 at']
            have f3 : zfr (inP p) M2 M3 := zfr_uL (by rw [hp2.2.2.1]; exact ⟨by omega, by omega⟩)
            have f4 : zfr (inP p) M3 M4 := zfr_uI (by rw [hp2.2.2.2.1]; exact ⟨by omega, by omega⟩)
            have f5 : zfr (inP p) M4 M5 := zfr_uI (by rw [hp2.2.2.2.2.1]; exact ⟨by omega, by omega⟩)
            have r1 : ∀ j, zL M5 (p + 1) j = if j = at' + 1 then zL M2 (p + 1) at' else zL M2 (p + 1) j := fun j => by
              show zL M3 (p + 1) j = _
              rw [show M3 = zuL M2 (zR M2 p 1) (nI (at' + 1)).toNatClampNeg (zL M2 (zR M2 p 1) (nI at').toNatClampNeg) from rfl, ca, ca1, hp2.2.2.1, zL_uL]
              simp only [true_and]
            have r2 : ∀ j, zI M5 (p + 2) j = if j = at' + 1 then zI M2 (p + 2) at' else zI M2 (p + 2) j := fun j => by
              rw [show M5 = zuI M4 (zR M2 p 3) (nI (at' + 1)).toNatClampNeg (zI M4 (zR M2 p 3) (nI at').toNatClampNeg) from rfl, zI_uI, if_neg (by rw [hp2.2.2.2.2.1]; omega), show M4 = zuI M3 (zR M2 p 2) (nI (at' + 1)).toNatClampNeg (zI M3 (zR M2 p 2) (nI at').toNatClampNeg) from rfl, ca, ca1, hp2.2.2.2.1, zI_uI]
              simp only [true_and]
              rfl
            have r4 : ∀ j, zI M4 (p + 3) j = zI M2 (p + 3) j := fun j => by
              rw [show M4 = zuI M3 (zR M2 p 2) (nI (at' + 1)).toNatClampNeg (zI M3 (zR M2 p 2) (nI at').toNatClampNeg) from rfl, zI_uI, if_neg (by rw [hp2.2.2.2.1]; omega)]
              rfl
            have r3 : ∀ j, zI M5 (p + 3) j = if j = at' + 1 then zI M2 (p + 3) at' else zI M2 (p + 3) j := fun j => by
              rw [show M5 = zuI M4 (zR M2 p 3) (nI (at' + 1)).toNatClampNeg (zI M4 (zR M2 p 3) (nI at').toNatClampNeg) from rfl, ca, ca1, hp2.2.2.2.2.1, zI_uI, r4, r4]
              simp only [true_and]
            have r0 : zI M5 p 4 = nI L.length := by
              rw [show M5 = zuI M4 (zR M2 p 3) (nI (at' + 1)).toNatClampNeg (zI M4 (zR M2 p 3) (nI at').toNatClampNeg) from rfl, zI_uI, if_neg (by rw [hp2.2.2.2.2.1]; omega), show M4 = zuI M3 (zR M2 p 2) (nI (at' + 1)).toNatClampNeg (zI M3 (zR M2 p 2) (nI at').toNatClampNeg) from rfl, zI_uI, if_neg (by rw [hp2.2.2.2.1]; omega)]
              exact hc
            refine ih2 M5 (by omega) ?_ (zfr_tr hfr2 (zfr_tr f3 (zfr_tr f4 f5))) r0 fun j t hj hji => ⟨fun z => ?_, fun z1 z2 => ?_, fun z => ?_⟩
            · apply Nat.le_of_not_lt
              intro z
              have := apos_lt z hacc
              omega
            · rw [r1, r2, r3, if_neg (by omega), if_neg (by omega), if_neg (by omega)]
              exact (hrow j t hj hji).1 (by omega)
            · rw [r1, r2, r3]
              by_cases hja : j = at'
              · subst hja
                rw [if_pos rfl, if_pos rfl, if_pos rfl]
                rw [hj2] at hj
                cases hj
                exact ⟨q1, q2, q3⟩
              · rw [if_neg (by omega), if_neg (by omega), if_neg (by omega)]
                exact (hrow j t hj hji).2.1 (by omega) z2
            · rw [r1, r2, if_neg (by omega), if_neg (by omega)]
              exact (hrow j t hj hji).2.2 z
      refine sg_X6_arrange_2 _ _ _ _ _ _ _ _ ⟨hp'.1, fun c => ?_, fun _ => ⟨hp'.1, p_k1 hp', by rw [p_l1 hp']; exact zi, ?_⟩⟩
      · rw [hpd.1, hlen] at c
        have := (nI_leI (by omega) (by omega)).mp c
        omega
      · intro w2
        refine ⟨hp'.1, p_k2 hp', by rw [p_l2 hp']; exact zi, ?_⟩
        intro v4
        rw [show w2 = eF (L[i]).1 by rw [show w2 = zL M' (zR M' p 1) (nI i).toNatClampNeg from rfl, ci, hp'.2.2.1, g1], show v4 = e8 (L[i]).2 by rw [show v4 = zI M' (zR M' p 2) (nI i).toNatClampNeg from rfl, ci, hp'.2.2.2.1, g2]]
        refine ⟨hp'.1, by rw [hp'.2.1]; exact ho'.1, ?_⟩
        rw [hp'.2.1]
        refine sp_rank (by omega) htu.2.2 ho'.1 ho'.2.1 ho'.2.2 ?_
        refine inner i M' (Nat.le_refl _) (by omega) hfr (by rw [hpd.1, hlen]) fun j t hj hji => ⟨fun hl2 => ?_, fun a b => absurd b (by omega), fun hg => ?_⟩
        · obtain ⟨q1, q2, q3⟩ := hpd.2 j t hj
          exact ⟨q1, q2, q3 hl2⟩
        · obtain ⟨q1, q2, q3⟩ := hpd.2 j t hj
          exact ⟨q1, q2⟩
  refine en_X6_arrange _ M (sg_X6_arrange_0 _ M (outer L.length 0 [] M _ _ _ _ _ (by omega) rfl (fun _ h => absurd h List.not_mem_nil) List.Pairwise.nil (fun _ _ _ h => absurd h List.not_mem_nil) zfr_rf ⟨hL.1, fun j t hj => ⟨(hL.2 j t hj).1, (hL.2 j t hj).2.1, fun z => absurd z (by omega)⟩⟩ rfl))
end
section
/-! stretches of the small code, by wip/whole/vcgen.py -/
abbrev wX1_leading (d : Nat) (Q : List Value → zM → Prop) : Nat → zLv → List Value → zM → Prop := zW (zCl gTb d) 1 kX1_leading Q
theorem en_X1_leading {d : Nat} {Q : List Value → zM → Prop} (a0 : Nat) (M : zM) (h : wX1_leading d Q 0 [some (.ref a0)] [] M) : zCl gTb (d + 1) nX1_leading [.ref a0] M Q := ⟨Nat.le_of_ble_eq_true rfl, h⟩
set_option maxRecDepth 100000 in
set_option maxHeartbeats 4000000 in
/-- from place 0 -/
theorem sg_X1_leading_0 {d : Nat} {Q : List Value → zM → Prop} (a0 : Nat) (M : zM) (h :
(zsh M a0).1 = 11 ∧ ((zsh M (zR M a0 0)).1 = 14 ∧ ((zsh M (zR M (zR M a0 0) 2)).1 = 2 ∧ (zin ((0 : Int32)) (zsh M (zR M (zR M a0 0) 2)).2 ∧ (Q [.int (zI M (zR M (zR M a0 0) 2) ((0 : Int32)).toNatClampNeg)] M))))
) : wX1_leading d Q 0 [some (.ref a0)] [] M := zseg (zCl_good gTb d) (fun _ => false) 11 h
abbrev wX1_makeMonic (d : Nat) (Q : List Value → zM → Prop) : Nat → zLv → List Value → zM → Prop := zW (zCl gTb d) 2 kX1_makeMonic Q
theorem en_X1_makeMonic {d : Nat} {Q : List Value → zM → Prop} (a0 : Nat) (a1 : Int32) (M : zM) (h : wX1_makeMonic d Q 0 [some (.ref a0), some (.int a1), none, none, none] [] M) : zCl gTb (d + 1) nX1_makeMonic [.ref a0, .int a1] M Q := ⟨Nat.le_of_ble_eq_true rfl, h⟩
set_option maxRecDepth 100000 in
set_option maxHeartbeats 4000000 in
/-- from place 0 -/
theorem sg_X1_makeMonic_0 {d : Nat} {Q : List Value → zM → Prop} (a0 : Nat) (a1 : Int32) (M : zM) (h :
(zsh M a0).1 = 11 ∧ ((zsh M (zR M a0 0)).1 = 14 ∧ ((zsh M (zR M (zR M a0 0) 1)).1 = 3 ∧ (zin ((0 : Int32)) (zsh M (zR M (zR M a0 0) 1)).2 ∧ (ycJ d nX2_inverse [.long (zL M (zR M (zR M a0 0) 1) ((0 : Int32)).toNatClampNeg)] M fun c2 M1 => ((zsh M1 a0).1 = 11 ∧ ((zsh M1 (zR M1 a0 0)).1 = 14 ∧ (ycI d nX6_multiply [.ref (zR M1 a0 0), .long c2] M1 fun c4 M3 => ((¬ c4 = 0 → (wX1_makeMonic d Q 16 [some (.ref a0), some (.int a1), some (.long c2), none, some (.int ((0 : Int32)))] [] M3)) ∧ (¬ (¬ c4 = 0) → (zb ((0 : Int32)) ∧ (Q [.int ((0 : Int32))] M3)))))))))))
) : wX1_makeMonic d Q 0 [some (.ref a0), some (.int a1), none, none, none] [] M := zseg (zCl_good gTb d) (fun j => j == 16) 21 h
set_option maxRecDepth 100000 in
set_option maxHeartbeats 4000000 in
/-- from place 16 -/
theorem sg_X1_makeMonic_16 {d : Nat} {Q : List Value → zM → Prop} (a0 : Nat) (a1 : Int32) (a2 : Int64) (a4 : Int32) (M : zM) (h :
(a1 ≤ a4 → (zb ((1 : Int32)) ∧ (Q [.int ((1 : Int32))] M))) ∧ (¬ (a1 ≤ a4) → ((zsh M a0).1 = 11 ∧ ((zsh M (zR M a0 1)).1 = 5 ∧ (zin a4 (zsh M (zR M a0 1)).2 ∧ ((zsh M (zR M (zR M a0 1) a4.toNatClampNeg)).1 = 14 ∧ (ycI d nX6_multiply [.ref (zR M (zR M a0 1) a4.toNatClampNeg), .long a2] M fun c2 M1 => ((¬ c2 = 0 → (let v4_3 : Int32 := a4 + 1
wX1_makeMonic d Q 16 [some (.ref a0), some (.int a1), some (.long a2), none, some (.int v4_3)] [] M1)) ∧ (¬ (¬ c2 = 0) → (zb ((0 : Int32)) ∧ (Q [.int ((0 : Int32))] M1))))))))))
) : wX1_makeMonic d Q 16 [some (.ref a0), some (.int a1), some (.long a2), none, some (.int a4)] [] M := zseg (zCl_good gTb d) (fun j => j == 16) 21 h
abbrev wX0_allow (d : Nat) (Q : List Value → zM → Prop) : Nat → zLv → List Value → zM → Prop := zW (zCl gTb d) 0 kX0_allow Q
theorem en_X0_allow {d : Nat} {Q : List Value → zM → Prop} (a0 : Nat) (a1 : Int32) (M : zM) (h : wX0_allow d Q 0 [some (.ref a0), some (.int a1)] [] M) : zCl gTb (d + 1) nX0_allow [.ref a0, .int a1] M Q := ⟨Nat.le_of_ble_eq_true rfl, h⟩
set_option maxRecDepth 100000 in
set_option maxHeartbeats 4000000 in
/-- from place 0 -/
theorem sg_X0_allow_0 {d : Nat} {Q : List Value → zM → Prop} (a0 : Nat) (a1 : Int32) (M : zM) (h :
(zsh M a0).1 = 10 ∧ (let M1 : zM := zuI M a0 4 a1
(zsh M a0).1 = 10 ∧ (let M2 : zM := zuI M1 a0 3 ((0 : Int32))
Q [] M2))
) : wX0_allow d Q 0 [some (.ref a0), some (.int a1)] [] M := zseg (zCl_good gTb d) (fun _ => false) 12 h
abbrev wX0_makeReady (d : Nat) (Q : List Value → zM → Prop) : Nat → zLv → List Value → zM → Prop := zW (zCl gTb d) 0 kX0_makeReady Q
theorem en_X0_makeReady {d : Nat} {Q : List Value → zM → Prop} (a0 : Nat) (a1 : Int32) (M : zM) (h : wX0_makeReady d Q 0 [some (.ref a0), some (.int a1), none] [] M) : zCl gTb (d + 1) nX0_makeReady [.ref a0, .int a1] M Q := ⟨Nat.le_of_ble_eq_true rfl, h⟩
set_option maxRecDepth 100000 in
set_option maxHeartbeats 4000000 in
/-- from place 0 -/
theorem sg_X0_makeReady_0 {d : Nat} {Q : List Value → zM → Prop} (a0 : Nat) (a1 : Int32) (M : zM) (h :
(zsh M a0).1 = 10 ∧ ((zsh M (zR M a0 0)).1 = 14 ∧ (ycV d nX6_empty [.ref (zR M a0 0)] M fun M1 => ((zsh M1 a0).1 = 10 ∧ ((zsh M1 (zR M1 a0 1)).1 = 14 ∧ (ycV d nX6_empty [.ref (zR M1 a0 1)] M1 fun M2 => (wX0_makeReady d Q 8 [some (.ref a0), some (.int a1), some (.int ((0 : Int32)))] [] M2))))))
) : wX0_makeReady d Q 0 [some (.ref a0), some (.int a1), none] [] M := zseg (zCl_good gTb d) (fun j => j == 8) 13 h
set_option maxRecDepth 100000 in
set_option maxHeartbeats 4000000 in
/-- from place 8 -/
theorem sg_X0_makeReady_8 {d : Nat} {Q : List Value → zM → Prop} (a0 : Nat) (a1 : Int32) (a2 : Int32) (M : zM) (h :
(a1 ≤ a2 → (Q [] M)) ∧ (¬ (a1 ≤ a2) → ((zsh M a0).1 = 10 ∧ ((zsh M (zR M a0 2)).1 = 5 ∧ (zin a2 (zsh M (zR M a0 2)).2 ∧ ((zsh M (zR M (zR M a0 2) a2.toNatClampNeg)).1 = 14 ∧ (ycV d nX6_empty [.ref (zR M (zR M a0 2) a2.toNatClampNeg)] M fun M1 => (let v2_2 : Int32 := a2 + 1
wX0_makeReady d Q 8 [some (.ref a0), some (.int a1), some (.int v2_2)] [] M1)))))))
) : wX0_makeReady d Q 8 [some (.ref a0), some (.int a1), some (.int a2)] [] M := zseg (zCl_good gTb d) (fun j => j == 8) 16 h
abbrev wX0_firstDivisor (d : Nat) (Q : List Value → zM → Prop) : Nat → zLv → List Value → zM → Prop := zW (zCl gTb d) 1 kX0_firstDivisor Q
theorem en_X0_firstDivisor {d : Nat} {Q : List Value → zM → Prop} (a0 : Nat) (a1 : Nat) (a2 : Int32) (a3 : Int32) (M : zM) (h : wX0_firstDivisor d Q 0 [some (.ref a0), some (.ref a1), some (.int a2), some (.int a3), none] [] M) : zCl gTb (d + 1) nX0_firstDivisor [.ref a0, .ref a1, .int a2, .int a3] M Q := ⟨Nat.le_of_ble_eq_true rfl, h⟩
set_option maxRecDepth 100000 in
set_option maxHeartbeats 4000000 in
/-- from place 0 -/
theorem sg_X0_firstDivisor_0 {d : Nat} {Q : List Value → zM → Prop} (a0 : Nat) (a1 : Nat) (a2 : Int32) (a3 : Int32) (M : zM) (h :
wX0_firstDivisor d Q 2 [some (.ref a0), some (.ref a1), some (.int a2), some (.int a3), some (.int ((0 : Int32)))] [] M
) : wX0_firstDivisor d Q 0 [some (.ref a0), some (.ref a1), some (.int a2), some (.int a3), none] [] M := zseg (zCl_good gTb d) (fun j => j == 2) 7 h
set_option maxRecDepth 100000 in
set_option maxHeartbeats 4000000 in
/-- from place 2 -/
theorem sg_X0_firstDivisor_2 {d : Nat} {Q : List Value → zM → Prop} (a0 : Nat) (a1 : Nat) (a2 : Int32) (a3 : Int32) (a4 : Int32) (M : zM) (h :
(a2 ≤ a4 → (Q [.int (((-1) : Int32))] M)) ∧ (¬ (a2 ≤ a4) → ((a4 = a3 → (let v4_1 : Int32 := a4 + 1
wX0_firstDivisor d Q 2 [some (.ref a0), some (.ref a1), some (.int a2), some (.int a3), some (.int v4_1)] [] M)) ∧ (¬ (a4 = a3) → ((zsh M a1).1 = 6 ∧ (zin a4 (zsh M a1).2 ∧ ((zsh M (zR M a1 a4.toNatClampNeg)).1 = 11 ∧ (ycI d nX1_leading [.ref (zR M a1 a4.toNatClampNeg)] M fun c3 M2 => ((zsh M2 a0).1 = 10 ∧ ((zsh M2 (zR M2 a0 0)).1 = 14 ∧ ((zsh M2 (zR M2 (zR M2 a0 0) 2)).1 = 2 ∧ (zin ((0 : Int32)) (zsh M2 (zR M2 (zR M2 a0 0) 2)).2 ∧ (ycI d nX4_divides [.int c3, .int (zI M2 (zR M2 (zR M2 a0 0) 2) ((0 : Int32)).toNatClampNeg)] M2 fun c5 M4 => ((c5 = 0 → (let v4_6 : Int32 := a4 + 1
wX0_firstDivisor d Q 2 [some (.ref a0), some (.ref a1), some (.int a2), some (.int a3), some (.int v4_6)] [] M4)) ∧ (¬ (c5 = 0) → (Q [.int a4] M4)))))))))))))))
) : wX0_firstDivisor d Q 2 [some (.ref a0), some (.ref a1), some (.int a2), some (.int a3), some (.int a4)] [] M := zseg (zCl_good gTb d) (fun j => j == 2) 30 h
abbrev wX0_run (d : Nat) (Q : List Value → zM → Prop) : Nat → zLv → List Value → zM → Prop := zW (zCl gTb d) 1 kX0_run Q
theorem en_X0_run {d : Nat} {Q : List Value → zM → Prop} (a0 : Nat) (a1 : Nat) (a2 : Int32) (a3 : Int32) (M : zM) (h : wX0_run d Q 0 [some (.ref a0), some (.ref a1), some (.int a2), some (.int a3), none, none, none, none, none] [] M) : zCl gTb (d + 1) nX0_run [.ref a0, .ref a1, .int a2, .int a3] M Q := ⟨Nat.le_of_ble_eq_true rfl, h⟩
set_option maxRecDepth 100000 in
set_option maxHeartbeats 4000000 in
/-- from place 0 -/
theorem sg_X0_run_0 {d : Nat} {Q : List Value → zM → Prop} (a0 : Nat) (a1 : Nat) (a2 : Int32) (a3 : Int32) (o4 : Option Value) (o5 : Option Value) (o6 : Option Value) (o7 : Option Value) (o8 : Option Value) (M : zM) (h :
(zsh M a0).1 = 10 ∧ ((zsh M (zR M a0 0)).1 = 14 ∧ (((zI M (zR M a0 0) 4) ≤ 0 → ((zsh M a0).1 = 10 ∧ ((zsh M (zR M a0 0)).1 = 14 ∧ (((zI M (zR M a0 0) 4) ≤ 0 → (Q [.int ((0 : Int32))] M)) ∧ (¬ ((zI M (zR M a0 0) 4) ≤ 0) → (Q [.int (((-6) : Int32))] M)))))) ∧ (¬ ((zI M (zR M a0 0) 4) ≤ 0) → ((zsh M a0).1 = 10 ∧ ((zsh M a0).1 = 10 ∧ (((zI M a0 4) ≤ (zI M a0 3) → ((zsh M a0).1 = 10 ∧ ((zsh M (zR M a0 0)).1 = 14 ∧ (((zI M (zR M a0 0) 4) ≤ 0 → (Q [.int ((0 : Int32))] M)) ∧ (¬ ((zI M (zR M a0 0) 4) ≤ 0) → (Q [.int (((-6) : Int32))] M)))))) ∧ (¬ ((zI M a0 4) ≤ (zI M a0 3)) → ((zsh M a0).1 = 10 ∧ ((zsh M a0).1 = 10 ∧ (let M1 : zM := zuI M a0 3 ((zI M a0 3) + ((1 : Int32)))
(zsh M a0).1 = 10 ∧ ((zsh M (zR M a0 0)).1 = 14 ∧ ((zsh M (zR M (zR M a0 0) 1)).1 = 3 ∧ (zin ((0 : Int32)) (zsh M (zR M (zR M a0 0) 1)).2 ∧ (let w4_2 : Int64 := zL M1 (zR M (zR M a0 0) 1) ((0 : Int32)).toNatClampNeg
(zsh M a0).1 = 10 ∧ ((zsh M (zR M a0 0)).1 = 14 ∧ ((zsh M (zR M (zR M a0 0) 2)).1 = 2 ∧ (zin ((0 : Int32)) (zsh M (zR M (zR M a0 0) 2)).2 ∧ (let v6_3 : Int32 := zI M1 (zR M (zR M a0 0) 2) ((0 : Int32)).toNatClampNeg
(zsh M a0).1 = 10 ∧ (ycI d nX0_firstDivisor [.ref a0, .ref a1, .int a2, .int a3] M1 fun c5 M4 => ((0 ≤ c5 → ((zsh M4 a1).1 = 6 ∧ (zin c5 (zsh M4 a1).2 ∧ ((zsh M4 (zR M4 a1 c5.toNatClampNeg)).1 = 11 ∧ (ycI d nX1_leading [.ref (zR M4 a1 c5.toNatClampNeg)] M4 fun c7 M6 => (let v8_8 : Int32 := v6_3 - c7
(zsh M6 a0).1 = 10 ∧ (ycJ d nX2_negative [.long w4_2] M6 fun c10 M9 => ((zsh M9 a1).1 = 6 ∧ (zin c5 (zsh M9 a1).2 ∧ ((zsh M9 (zR M9 a1 c5.toNatClampNeg)).1 = 11 ∧ ((zsh M9 (zR M6 a0 0)).1 = 14 ∧ (ycI d nX6_addMultiple [.ref (zR M6 a0 0), .long c10, .int v8_8, .ref (zR M9 (zR M9 a1 c5.toNatClampNeg) 0)] M9 fun c12 M11 => ((c12 = 0 → (Q [.int (((-7) : Int32))] M11)) ∧ (¬ (c12 = 0) → ((zsh M11 a0).1 = 10 ∧ ((zsh M11 (zR M11 a0 2)).1 = 5 ∧ (zin c5 (zsh M11 (zR M11 a0 2)).2 ∧ ((zsh M11 (zR M11 (zR M11 a0 2) c5.toNatClampNeg)).1 = 14 ∧ (ycI d nX6_come [.ref (zR M11 (zR M11 a0 2) c5.toNatClampNeg), .long w4_2, .int v8_8] M11 fun c14 M13 => ((¬ c14 = 0 → (wX0_run d Q 0 [some (.ref a0), some (.ref a1), some (.int a2), some (.int a3), some (.long w4_2), none, some (.int v6_3), some (.int c5), some (.int v8_8)] [] M13)) ∧ (¬ (¬ c14 = 0) → (Q [.int (((-7) : Int32))] M13)))))))))))))))))))))) ∧ (¬ (0 ≤ c5) → ((zsh M4 a0).1 = 10 ∧ ((zsh M4 (zR M4 a0 0)).1 = 14 ∧ (ycV d nX6_behead [.ref (zR M4 a0 0)] M4 fun M15 => ((zsh M15 a0).1 = 10 ∧ ((zsh M15 (zR M15 a0 1)).1 = 14 ∧ (ycI d nX6_come [.ref (zR M15 a0 1), .long w4_2, .int v6_3] M15 fun c17 M16 => ((¬ c17 = 0 → (wX0_run d Q 0 [some (.ref a0), some (.ref a1), some (.int a2), some (.int a3), some (.long w4_2), none, some (.int v6_3), some (.int c5), o8] [] M16)) ∧ (¬ (¬ c17 = 0) → (Q [.int (((-7) : Int32))] M16))))))))))))))))))))))))))))))
) : wX0_run d Q 0 [some (.ref a0), some (.ref a1), some (.int a2), some (.int a3), o4, o5, o6, o7, o8] [] M := zseg (zCl_good gTb d) (fun j => j == 0) 101 h
end
section
/-! elements and divisions of the class -/
abbrev aE : Type := aP × List aP
def est (M : zM) (e o w : Nat) : Prop := (zsh M e).1 = 11 ∧ zR M e 0 = e + 1 ∧ zR M e 1 = e + 5 ∧ zsh M (e + 5) = (5, w) ∧ (∀ i, i < w → zR M (e + 5) i = e + 6 + 4 * i) ∧ pst M (e + 1) o ∧ ∀ i, i < w → pst M (e + 6 + 4 * i) o
def edy (M : zM) (e k : Nat) (E : aE) : Prop := pdy M (e + 1) k E.1 ∧ ∀ (i : Nat) (L : aP), E.2[i]? = some L → pdy M (e + 6 + 4 * i) k L
def eok (k : Nat) (E : aE) : Prop := pok k E.1 ∧ ∀ L ∈ E.2, pok k L
def inE (w e a : Nat) : Prop := e ≤ a ∧ a < e + 6 + 4 * w
theorem est_fr {S : Nat → Prop} {M M' : zM} {e o w : Nat} (h : zfr S M M') (he : est M e o w) : est M' e o w := by
  obtain ⟨h1, h2, h3, h4, h5, h6, h7⟩ := he
  exact ⟨by rw [h.1]; exact h1, by rw [h.2.2.2.1]; exact h2, by rw [h.2.2.2.1]; exact h3, by rw [h.1]; exact h4, fun i hi => by rw [h.2.2.2.1]; exact h5 i hi, pst_fr h h6, fun i hi => pst_fr h (h7 i hi)⟩
theorem edy_fr {S : Nat → Prop} {M M' : zM} {e k w : Nat} {E : aE} (h : zfr S M M') (hw : E.2.length ≤ w) (hd : ∀ a, inE w e a → ¬ S a) (hE : edy M e k E) : edy M' e k E := by
  refine ⟨pdy_fr h (fun a ha => hd a (by unfold inP at ha; unfold inE; omega)) hE.1, fun i L hi => pdy_fr h (fun a ha => hd a ?_) (hE.2 i L hi)⟩
  have := (List.getElem?_eq_some_iff.mp hi).1
  unfold inP at ha
  unfold inE
  omega
theorem sp_leading {d e o w k : Nat} {M : zM} {t : aT} {l : aP} {P : Int32 → zM → Prop} (hd : 1 ≤ d) (he : est M e o w) (hE : pdy M (e + 1) k (t :: l)) (h : P (e8 t.2) M) : ycI d nX1_leading [.ref e] M P := by
  obtain ⟨d, rfl, _⟩ := dS hd
  have hp := he.2.2.2.2.2.1
  have c0 : (0 : Int32).toNatClampNeg = 0 := by decide
  refine en_X1_leading _ M (sg_X1_leading_0 _ M ⟨he.1, by rw [he.2.1]; exact hp.1, by rw [he.2.1]; exact p_k2 hp, by rw [he.2.1, p_l2 hp]; exact zin_n (j := 0) (by omega) (by omega), _, rfl, ?_⟩)
  rw [he.2.1, hp.2.2.2.1, c0, (hE.2 0 t rfl).2.1]
  exact h
def ascals (c : aF) : List aP → Option (List aP)
  | [] => some []
  | L :: Ls => match ascal c L with
    | none => none
    | some L' => (ascals c Ls).map fun l => L' :: l
theorem ascals_cons {c : aF} {L : aP} {Ls : List aP} : ascals c (L :: Ls) = (match ascal c L with
    | none => none
    | some L' => (ascals c Ls).map fun l => L' :: l) := rfl
/-- MADE MONIC -/
def amonic (E : aE) : Option aE := match E.1 with
  | [] => none
  | t :: _ => match ascal (afinv t.1) E.1 with
    | none => none
    | some b => match ascals (afinv t.1) E.2 with
      | none => none
      | some cs => some (b, cs)
theorem afinv_ok {f : aF} (hf : fok f) (h0 : f.1 ≠ 0) : fok (afinv f) ∧ (afinv f).1 ≠ 0 := by
  obtain ⟨⟨h1, h2⟩, h3, h4⟩ := hf
  unfold afinv
  split
  · exact ⟨⟨by dsimp only; omega, by dsimp only; omega⟩, by dsimp only; omega⟩
  · exact ⟨⟨by dsimp only; omega, by dsimp only; omega⟩, by dsimp only; omega⟩
theorem ascals_ok {k : Nat} {c : aF} (hc : fok c) (hc0 : c.1 ≠ 0) : ∀ {Ls Ls' : List aP}, (∀ L ∈ Ls, pok k L) → ascals c Ls = some Ls' → (∀ L ∈ Ls', pok k L) ∧ Ls'.length = Ls.length
  | [], Ls', _, h => by cases h; exact ⟨fun _ h => absurd h List.not_mem_nil, rfl⟩
  | L :: Ls, Ls', hL, h => by
    rw [ascals_cons] at h
    split at h
    · cases h
    · rename_i L' hL'
      cases hl : ascals c Ls with
      | none => rw [hl] at h; cases h
      | some l =>
        rw [hl] at h
        cases h
        obtain ⟨i1, i2⟩ := ascals_ok hc hc0 (fun L h => hL L (List.mem_cons_of_mem _ h)) hl
        refine ⟨fun x hx => ?_, by simp [i2]⟩
        rcases List.mem_cons.mp hx with rfl | hx
        · exact ascal_pok hc hc0 (hL L List.mem_cons_self) hL'
        · exact i1 x hx
theorem amonic_ok {k : Nat} {E E' : aE} (hE : eok k E) (h : amonic E = some E') : eok k E' ∧ E'.2.length = E.2.length ∧ E'.1.map Prod.snd = E.1.map Prod.snd := by
  unfold amonic at h
  split at h
  · cases h
  · rename_i t l hl
    have ht := hE.1.1 t (by rw [hl]; exact List.mem_cons_self)
    have hi := afinv_ok ht.1 ht.2.1
    split at h
    · cases h
    · rename_i b hb
      split at h
      · cases h
      · rename_i cs hcs
        cases h
        obtain ⟨a1, a2⟩ := ascals_ok hi.1 hi.2 hE.2 hcs
        exact ⟨⟨ascal_pok hi.1 hi.2 hE.1 hb, a1⟩, a2, (ascal_ok (k := k) hi.1 hi.2 hE.1.1 hb).2.2⟩
theorem sp_makeMonic {d e o w k n : Nat} {M : zM} {E : aE} {P : Int32 → zM → Prop} (hd : 4 ≤ d) (he : est M e o w) (hE : edy M e k E) (hk : eok k E) (hne : E.1 ≠ []) (hn : E.2.length = n) (hw : n ≤ w) (hw8 : w ≤ 8) (h1 : ∀ E' M', amonic E = some E' → zfr (inE w e) M M' → edy M' e k E' → P 1 M') (h0 : ∀ M', amonic E = none → zfr (inE w e) M M' → P 0 M') : ycI d nX1_makeMonic [.ref e, .int (nI n)] M P := by
  obtain ⟨d, rfl, hde⟩ := dS hd
  obtain ⟨b, cs⟩ := E
  dsimp only at hn hne
  obtain ⟨t, l, rfl⟩ : ∃ t l, b = t :: l := by
    cases b with
    | nil => exact absurd rfl hne
    | cons t l => exact ⟨t, l, rfl⟩
  have hp := he.2.2.2.2.2.1
  have c0 : (0 : Int32).toNatClampNeg = 0 := by decide
  have ht := hk.1.1 t List.mem_cons_self
  have hi := afinv_ok ht.1 ht.2.1
  have hP1 : ∀ a, inP (e + 1) a → inE w e a := fun a ha => by unfold inP at ha; unfold inE; omega
  have hPc : ∀ i, i < w → ∀ a, inP (e + 6 + 4 * i) a → inE w e a := fun i hi a ha => by unfold inP at ha; unfold inE; omega
  -- the cofactors
  have loop : ∀ (r i : Nat) (b' : aP) (pre : List aP) (M' : zM), i + r = n → pre.length = i → ascal (afinv t.1) (t :: l) = some b' → zfr (inE w e) M M' → pdy M' (e + 1) k b' → (∀ (j : Nat) (L : aP), (pre ++ cs.drop i)[j]? = some L → pdy M' (e + 6 + 4 * j) k L) → (ascals (afinv t.1) (cs.drop i)).map (fun x => pre ++ x) = ascals (afinv t.1) cs → wX1_makeMonic d (fun r M2 => ∃ x : Int32, r = [.int x] ∧ P x M2) 16 [some (.ref e), some (.int (nI n)), some (.long (eF (afinv t.1))), none, some (.int (nI i))] [] M' := by
    intro r
    induction r with
    | zero =>
      intro i b' pre M' hr hpre hb hfr hpd hcs heq
      rw [List.drop_of_length_le (by omega), List.append_nil] at hcs
      rw [List.drop_of_length_le (by omega)] at heq
      have heq : some (pre ++ []) = ascals (afinv t.1) cs := heq
      rw [List.append_nil] at heq
      refine sg_X1_makeMonic_16 _ _ _ _ _ ⟨fun _ => ⟨Or.inr rfl, _, rfl, h1 (b', pre) M' ?_ hfr ⟨hpd, hcs⟩⟩, fun c => absurd (by rw [show i = n by omega]; exact Int32.le_refl _) c⟩
      unfold amonic
      dsimp only
      rw [hb, ← heq]
    | succ r ih =>
      intro i b' pre M' hr hpre hb hfr hpd hcs heq
      have he' := est_fr hfr he
      have hlt : i < cs.length := by omega
      have hdrop := List.drop_eq_getElem_cons hlt
      have hpi := he'.2.2.2.2.2.2 i (by omega)
      have ci := cl_n (n := i) (by omega)
      have hui : (pre ++ cs.drop i)[i]? = some cs[i] := by
        rw [List.getElem?_append_right (by omega), hpre, Nat.sub_self, hdrop]
        rfl
      rw [hdrop, ascals_cons] at heq
      refine sg_X1_makeMonic_16 _ _ _ _ _ ⟨fun c => ?_, fun _ => ⟨he'.1, by rw [he'.2.2.1, he'.2.2.2.1], by rw [he'.2.2.1, he'.2.2.2.1]; exact zin_n (by omega) (by omega), by rw [he'.2.2.1, ci, he'.2.2.2.2.1 i (by omega)]; exact hpi.1, ?_⟩⟩
      · have := (nI_leI (by omega) (by omega)).mp c
        omega
      · rw [he'.2.2.1, ci, he'.2.2.2.2.1 i (by omega)]
        refine sp_multiply (by omega) hpi (hcs i _ hui) (hk.2 _ (List.getElem_mem hlt)) hi.1 hi.2 (fun L' M2 hL' hfr2 hpd2 => ?_) (fun M2 hn2 hfr2 => ?_)
        · rw [hL'] at heq
          refine ⟨fun _ => ?_, fun z => absurd (Classical.not_not.mp z) (by decide)⟩
          intro v4
          rw [show v4 = nI (i + 1) from nI_1 i]
          have hfr3 := zfr_up hfr2 (hPc i (by omega))
          refine ih (i + 1) b' (pre ++ [L']) M2 (by omega) (by rw [List.length_append, hpre]; rfl) hb (zfr_tr hfr hfr3) (pdy_fr hfr2 (inP_ne (by omega)) hpd) (fun j L hj => ?_) ?_
          · by_cases hji : j = i
            · subst hji
              rw [List.append_assoc, List.getElem?_append_right (by omega), hpre, Nat.sub_self] at hj
              cases hj
              exact hpd2
            · refine pdy_fr hfr2 (inP_ne (by omega)) (hcs j L ?_)
              rw [← hj]
              by_cases hjl : j < i
              · rw [List.append_assoc, List.getElem?_append_left (by omega), List.getElem?_append_left (by omega)]
              · rw [List.getElem?_append_right (by omega), List.getElem?_append_right (by rw [List.length_append, hpre]; simp; omega), List.getElem?_drop, List.getElem?_drop, List.length_append, hpre]
                congr 1
                simp
                omega
          · rw [← heq]
            cases ascals (afinv t.1) (cs.drop (i + 1)) with
            | none => rfl
            | some l => simp
        · rw [hn2] at heq
          have heq : none = ascals (afinv t.1) cs := heq
          refine ⟨fun z => absurd rfl z, fun _ => ⟨Or.inl rfl, _, rfl, h0 M2 ?_ (zfr_tr hfr (zfr_up hfr2 (hPc i (by omega))))⟩⟩
          unfold amonic
          dsimp only
          rw [hb, ← heq]
  refine en_X1_makeMonic _ _ M (sg_X1_makeMonic_0 _ _ M ⟨he.1, by rw [he.2.1]; exact hp.1, by rw [he.2.1]; exact p_k1 hp, by rw [he.2.1, p_l1 hp]; exact zin_n (j := 0) (by omega) (by omega), ?_⟩)
  rw [he.2.1, hp.2.2.1, c0, (hE.1.2 0 t rfl).1]
  refine sp_finv (by omega) ht.1 ht.2.1 ⟨he.1, by rw [he.2.1]; exact hp.1, ?_⟩
  rw [he.2.1]
  refine sp_multiply (by omega) hp hE.1 hk.1 hi.1 hi.2 (fun b' M2 hb hfr hpd => ⟨fun _ => ?_, fun z => absurd (Classical.not_not.mp z) (by decide)⟩) (fun M2 hn2 hfr => ⟨fun z => absurd rfl z, fun _ => ⟨Or.inl rfl, _, rfl, h0 M2 ?_ (zfr_up hfr hP1)⟩⟩)
  · refine loop n 0 b' [] M2 (by omega) rfl hb (zfr_up hfr hP1) hpd (fun j L hj => pdy_fr hfr (inP_ne (by omega)) (hE.2 j L (by simpa using hj))) ?_
    rw [List.drop_zero]
    cases ascals (afinv t.1) cs <;> rfl
  · unfold amonic
    dsimp only
    rw [hn2]
/-! divisions -/
def dst (M : zM) (D o : Nat) : Prop := (zsh M D).1 = 10 ∧ zR M D 0 = D + 1 ∧ zR M D 1 = D + 5 ∧ zR M D 2 = D + 9 ∧ zsh M (D + 9) = (5, 24) ∧ (∀ i, i < 24 → zR M (D + 9) i = D + 10 + 4 * i) ∧ pst M (D + 1) o ∧ pst M (D + 5) o ∧ ∀ i, i < 24 → pst M (D + 10 + 4 * i) o
def inD (D a : Nat) : Prop := D ≤ a ∧ a < D + 106
def ddy (M : zM) (D k : Nat) (f r : aP) (qs : List aP) : Prop := pdy M (D + 1) k f ∧ pdy M (D + 5) k r ∧ ∀ (i : Nat) (q : aP), qs[i]? = some q → pdy M (D + 10 + 4 * i) k q
theorem dst_fr {S : Nat → Prop} {M M' : zM} {D o : Nat} (h : zfr S M M') (hd : dst M D o) : dst M' D o := by
  obtain ⟨h1, h2, h3, h4, h5, h6, h7, h8, h9⟩ := hd
  exact ⟨by rw [h.1]; exact h1, by rw [h.2.2.2.1]; exact h2, by rw [h.2.2.2.1]; exact h3, by rw [h.2.2.2.1]; exact h4, by rw [h.1]; exact h5, fun i hi => by rw [h.2.2.2.1]; exact h6 i hi, pst_fr h h7, pst_fr h h8, fun i hi => pst_fr h (h9 i hi)⟩
/-- a row of elements -/
def rst (M : zM) (R o w : Nat) (eid : Nat → Nat) : Prop := zsh M R = (6, 25) ∧ ∀ i, i < 25 → zR M R i = eid i ∧ est M (eid i) o w
theorem rst_fr {S : Nat → Prop} {M M' : zM} {R o w : Nat} {eid : Nat → Nat} (h : zfr S M M') (hr : rst M R o w eid) : rst M' R o w eid := ⟨by rw [h.1]; exact hr.1, fun i hi => ⟨by rw [h.2.2.2.1]; exact (hr.2 i hi).1, est_fr h (hr.2 i hi).2⟩⟩
def lmon : aP → aM
  | [] => (0, 0, 0, 0)
  | t :: _ => t.2
def mdv (a b : aM) : Bool := decide (a.1 ≤ b.1 ∧ a.2.1 ≤ b.2.1 ∧ a.2.2.1 ≤ b.2.2.1 ∧ a.2.2.2 ≤ b.2.2.2)
theorem mdv_iff {a b : aM} : mdv a b = true ↔ mdvd a b := decide_eq_true_iff
/-- the first in the row, but the one left out, whose leading monomial divides -/
def afst (lo : Option Nat) (m : aM) : Nat → List aP → Option Nat
  | _, [] => none
  | i, b :: bs => if lo ≠ some i ∧ mdv (lmon b) m = true then some i else afst lo m (i + 1) bs
def elo : Option Nat → Int32
  | none => -1
  | some i => nI i
theorem elo_eq {lo : Option Nat} {i : Nat} (hi : i < 2 ^ 31) (hlo : ∀ j, lo = some j → j < 2 ^ 31) : nI i = elo lo ↔ lo = some i := by
  cases lo with
  | none =>
    refine ⟨fun h => ?_, fun h => by cases h⟩
    have e := congrArg Int32.toInt h
    rw [nI_toInt hi, show (elo none).toInt = -1 by decide] at e
    omega
  | some j =>
    have := hlo j rfl
    show nI i = nI j ↔ _
    rw [nI_eq hi this]
    exact ⟨fun h => by rw [h], fun h => (Option.some.inj h).symm⟩
theorem sp_firstDivisor {d D R o w k cnt : Nat} {M : zM} {t : aT} {f : aP} {bs : List aP} {eid : Nat → Nat} {lo : Option Nat} {P : Int32 → zM → Prop} (hd : 2 ≤ d) (hD : dst M D o) (hR : rst M R o w eid) (hf : pdy M (D + 1) k (t :: f)) (ht : mok t.2) (hbs : ∀ (i : Nat) (b : aP), bs[i]? = some b → pdy M (eid i + 1) k b ∧ pok k b ∧ b ≠ []) (hc : bs.length = cnt) (hcnt : cnt ≤ 24) (hlo : ∀ j, lo = some j → j < 2 ^ 31) (h : ∀ x : Int32, (∀ i, afst lo t.2 0 bs = some i → x = nI i ∧ i < cnt) → (afst lo t.2 0 bs = none → x = -1) → P x M) : ycI d nX0_firstDivisor [.ref D, .ref R, .int (nI cnt), .int (elo lo)] M P := by
  obtain ⟨d, rfl, hde⟩ := dS hd
  have hp := hD.2.2.2.2.2.2.1
  have c0 : (0 : Int32).toNatClampNeg = 0 := by decide
  have loop : ∀ (r i : Nat), i + r = cnt → afst lo t.2 i (bs.drop i) = afst lo t.2 0 bs → wX0_firstDivisor d (fun r M2 => ∃ x : Int32, r = [.int x] ∧ P x M2) 2 [some (.ref D), some (.ref R), some (.int (nI cnt)), some (.int (elo lo)), some (.int (nI i))] [] M := by
    intro r
    induction r with
    | zero =>
      intro i hr heq
      rw [List.drop_of_length_le (by omega)] at heq
      have heq : none = afst lo t.2 0 bs := heq
      exact sg_X0_firstDivisor_2 _ _ _ _ _ _ ⟨fun _ => ⟨_, rfl, h _ (fun i hi => by rw [← heq] at hi; cases hi) (fun _ => rfl)⟩, fun c => absurd (by rw [show i = cnt by omega]; exact Int32.le_refl _) c⟩
    | succ r ih =>
      intro i hr heq
      have hlt : i < bs.length := by omega
      have hu := List.getElem?_eq_getElem hlt
      obtain ⟨g1, g2, g3⟩ := hbs i _ hu
      rw [List.drop_eq_getElem_cons hlt] at heq
      have heq : (if lo ≠ some i ∧ mdv (lmon bs[i]) t.2 = true then some i else afst lo t.2 (i + 1) (bs.drop (i + 1))) = afst lo t.2 0 bs := heq
      have ci := cl_n (n := i) (by omega)
      have hRi := hR.2 i (by omega)
      have next : ¬ (lo ≠ some i ∧ mdv (lmon bs[i]) t.2 = true) → wX0_firstDivisor d (fun r M2 => ∃ x : Int32, r = [.int x] ∧ P x M2) 2 [some (.ref D), some (.ref R), some (.int (nI cnt)), some (.int (elo lo)), some (.int (nI i + 1))] [] M := fun hz => by
        rw [if_neg hz] at heq
        rw [nI_1]
        exact ih (i + 1) (by omega) heq
      obtain ⟨t2, l2, hb2⟩ : ∃ t2 l2, bs[i] = t2 :: l2 := by
        cases hb : bs[i] with
        | nil => exact absurd hb g3
        | cons t2 l2 => exact ⟨t2, l2, rfl⟩
      rw [hb2] at g1 g2
      have ht2 := g2.1 t2 List.mem_cons_self
      refine sg_X0_firstDivisor_2 _ _ _ _ _ _ ⟨fun c => ?_, fun _ => ⟨fun c => next fun z => z.1 ((elo_eq (by omega) hlo).mp c), fun c => ⟨by rw [hR.1], by rw [hR.1]; exact zin_n (by omega) (by omega), by rw [ci, hRi.1]; exact hRi.2.1, ?_⟩⟩⟩
      · have := (nI_leI (by omega) (by omega)).mp c
        omega
      · rw [ci, hRi.1]
        refine sp_leading (by omega) hRi.2 g1 ⟨hD.1, by rw [hD.2.1]; exact hp.1, by rw [hD.2.1]; exact p_k2 hp, by rw [hD.2.1, p_l2 hp]; exact zin_n (j := 0) (by omega) (by omega), ?_⟩
        rw [hD.2.1, hp.2.2.2.1, c0, (hf.2 0 t rfl).2.1]
        have hlm : lmon bs[i] = t2.2 := by rw [hb2]; rfl
        refine sp_divides (by omega) ht2.2.2 ht (fun hdv => ⟨fun z => absurd z (by decide), fun _ => ⟨_, rfl, ?_⟩⟩) (fun hdv => ⟨fun _ => next fun z => hdv ?_, fun z => absurd rfl z⟩)
        · rw [if_pos ⟨fun z => c ((elo_eq (by omega) hlo).mpr z), by rw [hlm, mdv_iff]; exact hdv⟩] at heq
          exact h _ (fun j hj => by rw [← heq] at hj; cases hj; exact ⟨rfl, by omega⟩) (fun hn => by rw [← heq] at hn; cases hn)
        · have := z.2
          rw [hlm, mdv_iff] at this
          exact this
  exact en_X0_firstDivisor _ _ _ _ M (sg_X0_firstDivisor_0 _ _ _ _ M (loop cnt 0 (by omega) rfl))
theorem sp_allow {d D o lim : Nat} {M : zM} {P : zM → Prop} (hd : 1 ≤ d) (hD : dst M D o) (h : ∀ M', zfr (fun a => a = D) M M' → zI M' D 3 = 0 → zI M' D 4 = nI lim → P M') : ycV d nX0_allow [.ref D, .int (nI lim)] M P := by
  obtain ⟨d, rfl, hde⟩ := dS hd
  refine en_X0_allow _ _ M (sg_X0_allow_0 _ _ M ⟨hD.1, ?_⟩)
  intro M1
  refine ⟨hD.1, ?_⟩
  intro M2
  refine ⟨rfl, h M2 (zfr_tr (zfr_uI rfl) (zfr_uI rfl)) ?_ ?_⟩
  · rw [show M2 = zuI M1 D 3 0 from rfl, zI_uI, if_pos ⟨rfl, rfl⟩]
  · rw [show M2 = zuI M1 D 3 0 from rfl, zI_uI, if_neg (by omega), show M1 = zuI M D 4 (nI lim) from rfl, zI_uI, if_pos ⟨rfl, rfl⟩]
def inD1 (D a : Nat) : Prop := D + 1 ≤ a ∧ a < D + 106
theorem sp_makeReady {d D o k cnt : Nat} {M : zM} {P : zM → Prop} (hd : 2 ≤ d) (hD : dst M D o) (hcnt : cnt ≤ 24) (h : ∀ M', zfr (inD1 D) M M' → ddy M' D k [] [] (List.replicate cnt []) → P M') : ycV d nX0_makeReady [.ref D, .int (nI cnt)] M P := by
  obtain ⟨d, rfl, hde⟩ := dS hd
  have loop : ∀ (r i : Nat) (M' : zM), i + r = cnt → zfr (inD1 D) M M' → pdy M' (D + 1) k [] → pdy M' (D + 5) k [] → (∀ j, j < i → pdy M' (D + 10 + 4 * j) k []) → wX0_makeReady d (fun r M2 => r = [] ∧ P M2) 8 [some (.ref D), some (.int (nI cnt)), some (.int (nI i))] [] M' := by
    intro r
    induction r with
    | zero =>
      intro i M' hr hfr h1 h2 h3
      refine sg_X0_makeReady_8 _ _ _ _ ⟨fun _ => ⟨rfl, h M' hfr ⟨h1, h2, fun j q hj => ?_⟩⟩, fun c => absurd (by rw [show i = cnt by omega]; exact Int32.le_refl _) c⟩
      rw [List.getElem?_replicate] at hj
      split at hj
      · cases hj
        exact h3 j (by omega)
      · cases hj
    | succ r ih =>
      intro i M' hr hfr h1 h2 h3
      have hD' := dst_fr hfr hD
      have ci := cl_n (n := i) (by omega)
      have hpi := hD'.2.2.2.2.2.2.2.2 i (by omega)
      refine sg_X0_makeReady_8 _ _ _ _ ⟨fun c => ?_, fun _ => ⟨hD'.1, by rw [hD'.2.2.2.1, hD'.2.2.2.2.1], by rw [hD'.2.2.2.1, hD'.2.2.2.2.1]; exact zin_n (by omega) (by omega), by rw [hD'.2.2.2.1, ci, hD'.2.2.2.2.2.1 i (by omega)]; exact hpi.1, ?_⟩⟩
      · have := (nI_leI (by omega) (by omega)).mp c
        omega
      · rw [hD'.2.2.2.1, ci, hD'.2.2.2.2.2.1 i (by omega)]
        refine sp_empty (k := k) (by omega) hpi fun M2 hfr2 hpd => ?_
        intro v2
        rw [show v2 = nI (i + 1) from nI_1 i]
        refine ih (i + 1) M2 (by omega) (zfr_tr hfr (zfr_up hfr2 fun a ha => by unfold inP at ha; unfold inD1; omega)) (pdy_fr hfr2 (inP_ne (by omega)) h1) (pdy_fr hfr2 (inP_ne (by omega)) h2) fun j hj => ?_
        by_cases hji : j = i
        · subst hji; exact hpd
        · exact pdy_fr hfr2 (inP_ne (by omega)) (h3 j (by omega))
  have hp1 := hD.2.2.2.2.2.2.1
  refine en_X0_makeReady _ _ M (sg_X0_makeReady_0 _ _ M ⟨hD.1, by rw [hD.2.1]; exact hp1.1, ?_⟩)
  rw [hD.2.1]
  refine sp_empty (k := k) (by omega) hp1 fun M1 hfr1 hpd1 => ?_
  have hD1 := dst_fr hfr1 hD
  have hp2 := hD1.2.2.2.2.2.2.2.1
  refine ⟨hD1.1, by rw [hD1.2.2.1]; exact hp2.1, ?_⟩
  rw [hD1.2.2.1]
  refine sp_empty (k := k) (by omega) hp2 fun M2 hfr2 hpd2 => ?_
  exact loop cnt 0 M2 (by omega) (zfr_tr (zfr_up hfr1 fun a ha => by unfold inP at ha; unfold inD1; omega) (zfr_up hfr2 fun a ha => by unfold inP at ha; unfold inD1; omega)) (pdy_fr hfr2 (inP_ne (by omega)) hpd1) hpd2 fun j hj => absurd hj (by omega)
end
section
/-! DIVIDING, in the class -/
/-- code (0 done, 1 SPENT, 2 FULL), steps left, rest, quotients; so many steps at most -/
def adiv (k : Nat) (bs : List aP) (lo : Option Nat) : Nat → aP → aP → List aP → Nat × Nat × aP × List aP
  | 0, [], r, qs => (0, 0, r, qs)
  | 0, _ :: _, r, qs => (1, 0, r, qs)
  | n + 1, [], r, qs => (0, n + 1, r, qs)
  | n + 1, t :: f, r, qs => match afst lo t.2 0 bs with
    | none => (match acome k t r with
      | none => (2, n, r, qs)
      | some r' => adiv k bs lo n f r' qs)
    | some i => (match aadds k (-t.1.1, t.1.2) (msub t.2 (lmon (bs.getD i []))) (bs.getD i []) (t :: f) with
      | none => (2, n, r, qs)
      | some f' => match acome k (t.1, msub t.2 (lmon (bs.getD i []))) (qs.getD i []) with
        | none => (2, n, r, qs)
        | some q => adiv k bs lo n f' r (qs.set i q))
theorem adiv_step {k : Nat} {bs : List aP} {lo : Option Nat} {n : Nat} {t : aT} {f r : aP} {qs : List aP} : adiv k bs lo (n + 1) (t :: f) r qs = (match afst lo t.2 0 bs with
    | none => (match acome k t r with
      | none => (2, n, r, qs)
      | some r' => adiv k bs lo n f r' qs)
    | some i => (match aadds k (-t.1.1, t.1.2) (msub t.2 (lmon (bs.getD i []))) (bs.getD i []) (t :: f) with
      | none => (2, n, r, qs)
      | some f' => match acome k (t.1, msub t.2 (lmon (bs.getD i []))) (qs.getD i []) with
        | none => (2, n, r, qs)
        | some q => adiv k bs lo n f' r (qs.set i q))) := rfl
theorem afst_at {lo : Option Nat} {m : aM} : ∀ {bs : List aP} {i j : Nat}, afst lo m i bs = some j → i ≤ j ∧ lo ≠ some j ∧ ∃ b, bs[j - i]? = some b ∧ mdvd (lmon b) m
  | [], _, _, h => by cases h
  | b :: bs, i, j, h => by
    unfold afst at h
    split at h
    · rename_i hc
      cases h
      exact ⟨Nat.le_refl _, hc.1, b, by simp, mdv_iff.mp hc.2⟩
    · obtain ⟨h1, h2, b', h3, h4⟩ := afst_at h
      refine ⟨by omega, h2, b', ?_, h4⟩
      rw [show j - i = (j - (i + 1)) + 1 by omega, List.getElem?_cons_succ]
      exact h3
def ecode : Nat → Int32
  | 0 => 0
  | 1 => -6
  | _ => -7
theorem msub_ok {a b : aM} (h : mok a) : mok (msub a b) := by
  unfold mok at *
  unfold msub
  dsimp only
  omega
theorem fneg_ok {f : aF} (h : fok f) : fok (-f.1, f.2) := by
  obtain ⟨⟨h1, h2⟩, h3, h4⟩ := h
  exact ⟨⟨by dsimp only; omega, by dsimp only; omega⟩, h3, h4⟩
theorem srt_tail {k : Nat} {t : aT} {f : aP} (h : pok k (t :: f)) : pok k f := ⟨fun u hu => h.1 u (List.mem_cons_of_mem _ hu), (List.pairwise_cons.mp h.2.1).2, by have := h.2.2; simp at this; omega⟩
theorem sp_run {d D R o w k cnt lim : Nat} {M : zM} {bs : List aP} {eid : Nat → Nat} {lo : Option Nat} {f0 r0 : aP} {qs0 : List aP} {st0 : Nat} {P : Int32 → zM → Prop} (hd : 5 ≤ d) (hD : dst M D o) (hR : rst M R o w eid) (ho : ost M o k) (hoD : ¬ inD D o) (hRD : ∀ i, i < 25 → D + 106 ≤ eid i ∨ eid i + 6 ≤ D) (hbs : ∀ (i : Nat) (b : aP), bs[i]? = some b → pdy M (eid i + 1) k b ∧ pok k b ∧ b ≠ []) (hc : bs.length = cnt) (hcnt : cnt ≤ 24) (hlo : ∀ j, lo = some j → j < 2 ^ 31)
    (hd0 : ddy M D k f0 r0 qs0) (hf0 : pok k f0) (hr0 : pok k r0) (hq0 : ∀ q ∈ qs0, pok k q) (hql : qs0.length = cnt) (hst : zI M D 3 = nI st0) (hlim : zI M D 4 = nI lim) (hsl : st0 ≤ lim) (hl2 : lim ≤ 20000)
    (h : ∀ M', zfr (inD D) M M' → zI M' D 4 = nI lim → zI M' D 3 = nI (lim - (adiv k bs lo (lim - st0) f0 r0 qs0).2.1) → ((adiv k bs lo (lim - st0) f0 r0 qs0).1 = 0 → ddy M' D k [] (adiv k bs lo (lim - st0) f0 r0 qs0).2.2.1 (adiv k bs lo (lim - st0) f0 r0 qs0).2.2.2 ∧ pok k (adiv k bs lo (lim - st0) f0 r0 qs0).2.2.1 ∧ (∀ q ∈ (adiv k bs lo (lim - st0) f0 r0 qs0).2.2.2, pok k q) ∧ (adiv k bs lo (lim - st0) f0 r0 qs0).2.2.2.length = cnt) → P (ecode (adiv k bs lo (lim - st0) f0 r0 qs0).1) M') : ycI d nX0_run [.ref D, .ref R, .int (nI cnt), .int (elo lo)] M P := by
  obtain ⟨d, rfl, hde⟩ := dS hd
  have c0 : (0 : Int32).toNatClampNeg = 0 := by decide
  generalize hfin : adiv k bs lo (lim - st0) f0 r0 qs0 = fin at h
  have loop : ∀ (n st : Nat) (f r : aP) (qs : List aP) (M' : zM) (o4 o5 o6 o7 o8 : Option Value), st + n = lim → zfr (inD D) M M' → ddy M' D k f r qs → pok k f → pok k r → (∀ q ∈ qs, pok k q) → qs.length = cnt → zI M' D 3 = nI st → zI M' D 4 = nI lim → adiv k bs lo n f r qs = fin → wX0_run d (fun r M2 => ∃ x : Int32, r = [.int x] ∧ P x M2) 0 [some (.ref D), some (.ref R), some (.int (nI cnt)), some (.int (elo lo)), o4, o5, o6, o7, o8] [] M' := by
    intro n
    induction n with
    | zero =>
      intro st f r qs M' o4 o5 o6 o7 o8 hn hfr hdd hf hr hq hqs hs3 hs4 heq
      have hD' := dst_fr hfr hD
      have hp1 := hD'.2.2.2.2.2.2.1
      have e4 : zI M' (zR M' D 0) 4 = nI f.length := by rw [hD'.2.1]; exact hdd.1.1
      have hfl := hf.2.2
      cases f with
      | nil =>
        have heq : (0, 0, r, qs) = fin := heq
        subst heq
        have z0 : zI M' (zR M' D 0) 4 ≤ 0 := by rw [e4]; decide
        refine sg_X0_run_0 _ _ _ _ _ _ _ _ _ _ ⟨hD'.1, by rw [hD'.2.1]; exact hp1.1, fun _ => ⟨hD'.1, by rw [hD'.2.1]; exact hp1.1, fun _ => ⟨_, rfl, h M' hfr hs4 (by rw [hs3]; congr 1) fun _ => ⟨hdd, hr, hq, hqs⟩⟩, fun z => absurd z0 z⟩, fun z => absurd z0 z⟩
      | cons t f =>
        have heq : (1, 0, r, qs) = fin := heq
        subst heq
        have z0 : ¬ zI M' (zR M' D 0) 4 ≤ 0 := by
          rw [e4]
          intro z
          have := (nI_leI (b := 0) (by omega) (by omega)).mp z
          simp at this
        have z1 : zI M' D 4 ≤ zI M' D 3 := by rw [hs3, hs4, show st = lim by omega]; exact Int32.le_refl _
        refine sg_X0_run_0 _ _ _ _ _ _ _ _ _ _ ⟨hD'.1, by rw [hD'.2.1]; exact hp1.1, fun z => absurd z z0, fun _ => ⟨hD'.1, hD'.1, fun _ => ⟨hD'.1, by rw [hD'.2.1]; exact hp1.1, fun z => absurd z z0, fun _ => ⟨_, rfl, h M' hfr hs4 (by rw [hs3]; congr 1) (fun z => absurd (show (1 : Nat) = 0 from z) (by decide))⟩⟩, fun z => absurd z1 z⟩⟩
    | succ n ih =>
      intro st f r qs M' o4 o5 o6 o7 o8 hn hfr hdd hf hr hq hqs hs3 hs4 heq
      have hD' := dst_fr hfr hD
      have hp1 := hD'.2.2.2.2.2.2.1
      have e4 : zI M' (zR M' D 0) 4 = nI f.length := by rw [hD'.2.1]; exact hdd.1.1
      have hfl := hf.2.2
      cases f with
      | nil =>
        have heq : (0, n + 1, r, qs) = fin := heq
        subst heq
        have z0 : zI M' (zR M' D 0) 4 ≤ 0 := by rw [e4]; decide
        refine sg_X0_run_0 _ _ _ _ _ _ _ _ _ _ ⟨hD'.1, by rw [hD'.2.1]; exact hp1.1, fun _ => ⟨hD'.1, by rw [hD'.2.1]; exact hp1.1, fun _ => ⟨_, rfl, h M' hfr hs4 (by rw [hs3]; congr 1; show st = lim - (n + 1); omega) fun _ => ⟨hdd, hr, hq, hqs⟩⟩, fun z => absurd z0 z⟩, fun z => absurd z0 z⟩
      | cons t f =>
        rw [adiv_step] at heq
        have ht := hf.1 t List.mem_cons_self
        have z0 : ¬ zI M' (zR M' D 0) 4 ≤ 0 := by
          rw [e4]
          intro z
          have := (nI_leI (b := 0) (by omega) (by omega)).mp z
          simp at this
        have z1 : ¬ zI M' D 4 ≤ zI M' D 3 := by
          rw [hs3, hs4]
          intro z
          have := (nI_leI (by omega) (by omega)).mp z
          omega
        refine sg_X0_run_0 _ _ _ _ _ _ _ _ _ _ ⟨hD'.1, by rw [hD'.2.1]; exact hp1.1, fun z => absurd z z0, fun _ => ⟨hD'.1, hD'.1, fun z => absurd z z1, fun _ => ⟨hD'.1, hD'.1, ?_⟩⟩⟩
        intro M1
        have hfr1 : zfr (inD D) M' M1 := zfr_uI ⟨Nat.le_refl _, by omega⟩
        have hM := zfr_tr hfr hfr1
        have hfr1' : zfr (fun a => a = D) M' M1 := zfr_uI rfl
        have hD1 := dst_fr hfr1 hD'
        have hR1 := rst_fr hM hR
        have ho1 := ost_fr hM hoD ho
        have g1 := hdd.1.2 0 t rfl
        have hdd1 : ddy M1 D k (t :: f) r qs := ⟨pdy_fr hfr1' (fun a ha => by unfold inP at ha; omega) hdd.1, pdy_fr hfr1' (fun a ha => by unfold inP at ha; omega) hdd.2.1, fun i q hi => pdy_fr hfr1' (fun a ha => by unfold inP at ha; omega) (hdd.2.2 i q hi)⟩
        have hs31 : zI M1 D 3 = nI (st + 1) := by
          rw [show M1 = zuI M' D 3 (zI M' D 3 + 1) from rfl, zI_uI, if_pos ⟨rfl, rfl⟩, hs3, nI_1]
        have hs41 : zI M1 D 4 = nI lim := by
          rw [show M1 = zuI M' D 3 (zI M' D 3 + 1) from rfl, zI_uI, if_neg (by omega)]
          exact hs4
        have hbs1 : ∀ (i : Nat) (b : aP), bs[i]? = some b → pdy M1 (eid i + 1) k b ∧ pok k b ∧ b ≠ [] := fun i b hb => by
          have hi := (List.getElem?_eq_some_iff.mp hb).1
          have hap := hRD i (by omega)
          obtain ⟨a1, a2, a3⟩ := hbs i b hb
          exact ⟨pdy_fr hM (fun a ha => by unfold inP at ha; unfold inD; omega) a1, a2, a3⟩
        refine ⟨hD'.1, by rw [hD'.2.1]; exact hp1.1, by rw [hD'.2.1]; exact p_k1 hp1, by rw [hD'.2.1, p_l1 hp1]; exact zin_n (j := 0) (by omega) (by omega), ?_⟩
        intro w4
        refine ⟨hD'.1, by rw [hD'.2.1]; exact hp1.1, by rw [hD'.2.1]; exact p_k2 hp1, by rw [hD'.2.1, p_l2 hp1]; exact zin_n (j := 0) (by omega) (by omega), ?_⟩
        intro v6
        have ew : w4 = eF t.1 := by
          rw [show w4 = zL M1 (zR M' (zR M' D 0) 1) (0 : Int32).toNatClampNeg from rfl, c0, hD'.2.1, hp1.2.2.1]
          exact (hdd1.1.2 0 t rfl).1
        have ev : v6 = e8 t.2 := by
          rw [show v6 = zI M1 (zR M' (zR M' D 0) 2) (0 : Int32).toNatClampNeg from rfl, c0, hD'.2.1, hp1.2.2.2.1]
          exact (hdd1.1.2 0 t rfl).2.1
        clear_value w4 v6
        subst ew ev
        refine ⟨hD1.1, ?_⟩
        refine sp_firstDivisor (by omega) hD1 hR1 hdd1.1 ht.2.2 hbs1 hc hcnt hlo fun x hx1 hx2 => ⟨fun c => ?_, fun c => ?_⟩
        · cases haf : afst lo t.2 0 bs with
          | none => exact absurd (hx2 haf ▸ c) (by decide)
          | some i =>
            rw [haf] at heq
            dsimp only at heq
            obtain ⟨rfl, hic⟩ := hx1 i haf
            obtain ⟨-, -, b, hb, hdv⟩ := afst_at haf
            rw [Nat.sub_zero] at hb
            have hgd : bs.getD i [] = b := by rw [List.getD_eq_getElem?_getD, hb]; rfl
            rw [hgd] at heq
            obtain ⟨a1, a2, a3⟩ := hbs1 i b hb
            obtain ⟨t2, l2, rfl⟩ : ∃ t2 l2, b = t2 :: l2 := by
              cases b with
              | nil => exact absurd rfl a3
              | cons t2 l2 => exact ⟨t2, l2, rfl⟩
            have ci := cl_n (n := i) (by omega)
            have hRi := hR1.2 i (by omega)
            have hap := hRD i (by omega)
            have zi25 : zin (nI i) 25 := zin_n (by omega) (by omega)
            refine ⟨by rw [hR1.1], by rw [hR1.1]; exact zi25, by rw [ci, hRi.1]; exact hRi.2.1, ?_⟩
            rw [ci, hRi.1]
            refine sp_leading (by omega) hRi.2 a1 ?_
            intro v8
            have hdv : mdvd t2.2 t.2 := hdv
            rw [show v8 = e8 (msub t.2 t2.2) from e8_sub hdv]
            have heq : (match aadds k (-t.1.1, t.1.2) (msub t.2 t2.2) (t2 :: l2) (t :: f) with
              | none => (2, n, r, qs)
              | some f' => match acome k (t.1, msub t.2 t2.2) (qs.getD i []) with
                | none => (2, n, r, qs)
                | some q => adiv k bs lo n f' r (qs.set i q)) = fin := heq
            refine ⟨hD1.1, sp_fneg (by omega) ht.1 ⟨by rw [hR1.1], by rw [hR1.1]; exact zi25, by rw [hRi.1]; exact hRi.2.1, by rw [hD1.2.1]; exact hD1.2.2.2.2.2.2.1.1, ?_⟩⟩
            rw [hRi.1, hRi.2.2.1, hD1.2.1]
            have hoP : ¬ inP (D + 1) o := fun z => hoD (by unfold inP at z; unfold inD; omega)
            have htn : ((-t.1.1 : Int), t.1.2).1 ≠ 0 := by
              have := ht.2.1
              dsimp only
              omega
            refine sp_adds (c := (-t.1.1, t.1.2)) (by omega) hD1.2.2.2.2.2.2.1 hRi.2.2.2.2.2.2.1 (by omega) hoP ho1 hdd1.1 a1 hf a2 (fneg_ok ht.1) htn (msub_ok ht.2.2) (fun f' M2 hf' hfr2 hpd2 => ?_) (fun M2 hn2 hfr2 => ?_)
            · rw [hf'] at heq
              dsimp only at heq
              have hD2 := dst_fr hfr2 hD1
              have hpi := hD2.2.2.2.2.2.2.2.2 i (by omega)
              have ho2 := ost_fr hfr2 hoP ho1
              have hfr2' : zfr (inD D) M1 M2 := zfr_up hfr2 fun a ha => by unfold inP at ha; unfold inD; omega
              refine ⟨fun z => absurd z (by decide), fun _ => ⟨hD2.1, by rw [hD2.2.2.2.1, hD2.2.2.2.2.1], by rw [hD2.2.2.2.1, hD2.2.2.2.2.1]; exact zin_n (by omega) (by omega), by rw [hD2.2.2.2.1, hD2.2.2.2.2.2.1 i (by omega)]; exact hpi.1, ?_⟩⟩
              rw [hD2.2.2.2.1, hD2.2.2.2.2.2.1 i (by omega)]
              have hqi : qs[i]? = some (qs.getD i []) := by
                rw [List.getD_eq_getElem?_getD, List.getElem?_eq_getElem (by omega)]
                rfl
              have hqok := hq _ (List.mem_of_getElem? hqi)
              have hqd := pdy_fr hfr2 (inP_ne (by omega)) (hdd1.2.2 i _ hqi)
              refine sp_come (t := (t.1, msub t.2 t2.2)) (by omega) hpi ho2 hqd hqok ⟨ht.1, ht.2.1, msub_ok ht.2.2⟩ (fun q' M3 hq' hfr3 hpd3 => ?_) (fun hn3 => ?_)
              · rw [hq'] at heq
                dsimp only at heq
                have hfr3' : zfr (inD D) M2 M3 := zfr_up hfr3 fun a ha => by unfold inP at ha; unfold inD; omega
                have kp : zI M3 D 3 = nI (st + 1) ∧ zI M3 D 4 = nI lim := by
                  rw [(hfr3.2.2.2.2 D (by unfold inP; omega)).1, (hfr3.2.2.2.2 D (by unfold inP; omega)).1, (hfr2.2.2.2.2 D (by unfold inP; omega)).1, (hfr2.2.2.2.2 D (by unfold inP; omega)).1]
                  exact ⟨hs31, hs41⟩
                refine ⟨fun _ => ?_, fun z => absurd (Classical.not_not.mp z) (by decide)⟩
                refine ih (st + 1) f' r (qs.set i q') M3 _ _ _ _ _ (by omega) (zfr_tr hM (zfr_tr hfr2' hfr3')) ⟨pdy_fr hfr3 (inP_ne (by omega)) hpd2, pdy_fr hfr3 (inP_ne (by omega)) (pdy_fr hfr2 (inP_ne (by omega)) hdd1.2.1), fun j q hj => ?_⟩ (aadds_ok (fneg_ok ht.1) htn a2.1 hf hf') hr (fun q hqm => ?_) (by rw [List.length_set]; exact hqs) kp.1 kp.2 heq
                · rw [List.getElem?_set] at hj
                  by_cases hji : i = j
                  · subst hji
                    have hj2 : some q' = some q := by
                      rw [if_pos rfl, if_pos (by omega)] at hj
                      exact hj
                    cases hj2
                    exact hpd3
                  · rw [if_neg hji] at hj
                    exact pdy_fr hfr3 (inP_ne (by omega)) (pdy_fr hfr2 (inP_ne (by omega)) (hdd1.2.2 j q hj))
                · rcases List.mem_or_eq_of_mem_set hqm with hqm | rfl
                  · exact hq q hqm
                  · exact acome_ok (t := (t.1, msub t.2 t2.2)) hqok ⟨ht.1, ht.2.1, msub_ok ht.2.2⟩ hq'
              · rw [hn3] at heq
                have heq : (2, n, r, qs) = fin := heq
                subst heq
                have kp : zI M2 D 3 = nI (st + 1) ∧ zI M2 D 4 = nI lim := by
                  rw [(hfr2.2.2.2.2 D (by unfold inP; omega)).1, (hfr2.2.2.2.2 D (by unfold inP; omega)).1]
                  exact ⟨hs31, hs41⟩
                exact ⟨fun z => absurd rfl z, fun _ => ⟨_, rfl, h M2 (zfr_tr hM hfr2') kp.2 (by rw [kp.1]; congr 1; show st + 1 = lim - n; omega) (fun z => absurd (show (2 : Nat) = 0 from z) (by decide))⟩⟩
            · rw [hn2] at heq
              have heq : (2, n, r, qs) = fin := heq
              subst heq
              have hfr2' : zfr (inD D) M1 M2 := zfr_up hfr2 fun a ha => by unfold inP at ha; unfold inD; omega
              have kp : zI M2 D 3 = nI (st + 1) ∧ zI M2 D 4 = nI lim := by
                rw [(hfr2.2.2.2.2 D (by unfold inP; omega)).1, (hfr2.2.2.2.2 D (by unfold inP; omega)).1]
                exact ⟨hs31, hs41⟩
              exact ⟨fun _ => ⟨_, rfl, h M2 (zfr_tr hM hfr2') kp.2 (by rw [kp.1]; congr 1; show st + 1 = lim - n; omega) (fun z => absurd (show (2 : Nat) = 0 from z) (by decide))⟩, fun z => absurd rfl z⟩
        · cases haf : afst lo t.2 0 bs with
          | some i =>
            obtain ⟨rfl, hic⟩ := hx1 i haf
            exact absurd (nI_pos' (by omega)) c
          | none =>
            rw [haf] at heq
            dsimp only at heq
            refine ⟨hD1.1, by rw [hD1.2.1]; exact hD1.2.2.2.2.2.2.1.1, ?_⟩
            rw [hD1.2.1]
            refine sp_behead (by omega) hD1.2.2.2.2.2.2.1 hdd1.1 hf.2.2 fun M2 hfr2 hpd2 => ?_
            have hD2 := dst_fr hfr2 hD1
            have hoP : ¬ inP (D + 1) o := fun z => hoD (by unfold inP at z; unfold inD; omega)
            have ho2 := ost_fr hfr2 hoP ho1
            have hfr2' : zfr (inD D) M1 M2 := zfr_up hfr2 fun a ha => by unfold inP at ha; unfold inD; omega
            refine ⟨hD2.1, by rw [hD2.2.2.1]; exact hD2.2.2.2.2.2.2.2.1.1, ?_⟩
            rw [hD2.2.2.1]
            refine sp_come (t := t) (by omega) hD2.2.2.2.2.2.2.2.1 ho2 (pdy_fr hfr2 (inP_ne (by omega)) hdd1.2.1) hr ht (fun r' M3 hr' hfr3 hpd3 => ?_) (fun hn3 => ?_)
            · rw [hr'] at heq
              dsimp only at heq
              have hfr3' : zfr (inD D) M2 M3 := zfr_up hfr3 fun a ha => by unfold inP at ha; unfold inD; omega
              have kp : zI M3 D 3 = nI (st + 1) ∧ zI M3 D 4 = nI lim := by
                rw [(hfr3.2.2.2.2 D (by unfold inP; omega)).1, (hfr3.2.2.2.2 D (by unfold inP; omega)).1, (hfr2.2.2.2.2 D (by unfold inP; omega)).1, (hfr2.2.2.2.2 D (by unfold inP; omega)).1]
                exact ⟨hs31, hs41⟩
              refine ⟨fun _ => ?_, fun z => absurd (Classical.not_not.mp z) (by decide)⟩
              exact ih (st + 1) f r' qs M3 _ _ _ _ _ (by omega) (zfr_tr hM (zfr_tr hfr2' hfr3')) ⟨pdy_fr hfr3 (inP_ne (by omega)) hpd2, hpd3, fun j q hj => pdy_fr hfr3 (inP_ne (by omega)) (pdy_fr hfr2 (inP_ne (by omega)) (hdd1.2.2 j q hj))⟩ (srt_tail hf) (acome_ok hr ht hr') hq hqs kp.1 kp.2 heq
            · rw [hn3] at heq
              have heq : (2, n, r, qs) = fin := heq
              subst heq
              have kp : zI M2 D 3 = nI (st + 1) ∧ zI M2 D 4 = nI lim := by
                rw [(hfr2.2.2.2.2 D (by unfold inP; omega)).1, (hfr2.2.2.2.2 D (by unfold inP; omega)).1]
                exact ⟨hs31, hs41⟩
              exact ⟨fun z => absurd rfl z, fun _ => ⟨_, rfl, h M2 (zfr_tr hM hfr2') kp.2 (by rw [kp.1]; congr 1; show st + 1 = lim - n; omega) (fun z => absurd (show (2 : Nat) = 0 from z) (by decide))⟩⟩
  exact en_X0_run _ _ _ _ M (loop (lim - st0) st0 f0 r0 qs0 M _ _ _ _ _ (by omega) zfr_rf hd0 hf0 hr0 hq0 hql hst hlim hfin)
end
section
/-! stretches of the small code, by wip/whole/vcgen.py -/
abbrev wX3_begin (d : Nat) (Q : List Value → zM → Prop) : Nat → zLv → List Value → zM → Prop := zW (zCl gTb d) 0 kX3_begin Q
theorem en_X3_begin {d : Nat} {Q : List Value → zM → Prop} (a0 : Nat) (a1 : Int32) (M : zM) (h : wX3_begin d Q 0 [some (.ref a0), some (.int a1)] [] M) : zCl gTb (d + 1) nX3_begin [.ref a0, .int a1] M Q := ⟨Nat.le_of_ble_eq_true rfl, h⟩
set_option maxRecDepth 100000 in
set_option maxHeartbeats 4000000 in
/-- from place 0 -/
theorem sg_X3_begin_0 {d : Nat} {Q : List Value → zM → Prop} (a0 : Nat) (a1 : Int32) (M : zM) (h :
(zsh M a0).1 = 12 ∧ (let M1 : zM := zuI M a0 10 a1
(zsh M a0).1 = 12 ∧ (let M2 : zM := zuI M1 a0 2 ((0 : Int32))
(zsh M a0).1 = 12 ∧ (let M3 : zM := zuI M2 a0 4 ((0 : Int32))
(zsh M a0).1 = 12 ∧ (let M4 : zM := zuI M3 a0 5 ((0 : Int32))
Q [] M4))))
) : wX3_begin d Q 0 [some (.ref a0), some (.int a1)] [] M := zseg (zCl_good gTb d) (fun _ => false) 18 h
abbrev wX3_add (d : Nat) (Q : List Value → zM → Prop) : Nat → zLv → List Value → zM → Prop := zW (zCl gTb d) 0 kX3_add Q
theorem en_X3_add {d : Nat} {Q : List Value → zM → Prop} (a0 : Nat) (M : zM) (h : wX3_add d Q 0 [some (.ref a0), none, none] [] M) : zCl gTb (d + 1) nX3_add [.ref a0] M Q := ⟨Nat.le_of_ble_eq_true rfl, h⟩
set_option maxRecDepth 100000 in
set_option maxHeartbeats 4000000 in
/-- from place 0 -/
theorem sg_X3_add_0 {d : Nat} {Q : List Value → zM → Prop} (a0 : Nat) (M : zM) (h :
wX3_add d Q 2 [some (.ref a0), some (.int ((0 : Int32))), none] [] M
) : wX3_add d Q 0 [some (.ref a0), none, none] [] M := zseg (zCl_good gTb d) (fun j => j == 2) 7 h
set_option maxRecDepth 100000 in
set_option maxHeartbeats 4000000 in
/-- from place 2 -/
theorem sg_X3_add_2 {d : Nat} {Q : List Value → zM → Prop} (a0 : Nat) (a1 : Int32) (o2 : Option Value) (M : zM) (h :
(zsh M a0).1 = 12 ∧ (((zI M a0 2) ≤ a1 → ((zsh M a0).1 = 12 ∧ ((zsh M a0).1 = 12 ∧ (let M1 : zM := zuI M a0 2 ((zI M a0 2) + ((1 : Int32)))
Q [] M1)))) ∧ (¬ ((zI M a0 2) ≤ a1) → ((zsh M a0).1 = 12 ∧ ((zsh M (zR M a0 1)).1 = 6 ∧ (zin a1 (zsh M (zR M a0 1)).2 ∧ ((zsh M (zR M (zR M a0 1) a1.toNatClampNeg)).1 = 11 ∧ (ycI d nX1_leading [.ref (zR M (zR M a0 1) a1.toNatClampNeg)] M fun c3 M2 => ((zsh M2 a0).1 = 12 ∧ ((zsh M2 a0).1 = 12 ∧ ((zsh M2 (zR M2 a0 1)).1 = 6 ∧ (zin (zI M2 a0 2) (zsh M2 (zR M2 a0 1)).2 ∧ ((zsh M2 (zR M2 (zR M2 a0 1) (zI M2 a0 2).toNatClampNeg)).1 = 11 ∧ (ycI d nX1_leading [.ref (zR M2 (zR M2 a0 1) (zI M2 a0 2).toNatClampNeg)] M2 fun c5 M4 => (ycI d nX4_leastCommon [.int c3, .int c5] M4 fun c7 M6 => ((zsh M6 a0).1 = 12 ∧ ((zsh M6 a0).1 = 12 ∧ ((zsh M6 a0).1 = 12 ∧ ((zsh M6 (zR M6 a0 0)).1 = 13 ∧ (ycI d nX5_rank [.ref (zR M6 a0 0), .int c7] M6 fun c9 M8 => ((zsh M8 (zR M6 a0 7)).1 = 2 ∧ (zin (((zI M6 a0 2) * ((24 : Int32))) + a1) (zsh M8 (zR M6 a0 7)).2 ∧ (let M10 : zM := zuI M8 (zR M6 a0 7) (((zI M6 a0 2) * ((24 : Int32))) + a1).toNatClampNeg c9
let v1_11 : Int32 := a1 + 1
wX3_add d Q 2 [some (.ref a0), some (.int v1_11), some (.int c7)] [] M10))))))))))))))))))))))
) : wX3_add d Q 2 [some (.ref a0), some (.int a1), o2] [] M := zseg (zCl_good gTb d) (fun j => j == 2) 44 h
abbrev wX3_choosePair (d : Nat) (Q : List Value → zM → Prop) : Nat → zLv → List Value → zM → Prop := zW (zCl gTb d) 2 kX3_choosePair Q
theorem en_X3_choosePair {d : Nat} {Q : List Value → zM → Prop} (a0 : Nat) (M : zM) (h : wX3_choosePair d Q 0 [some (.ref a0), none, none, none, none] [] M) : zCl gTb (d + 1) nX3_choosePair [.ref a0] M Q := ⟨Nat.le_of_ble_eq_true rfl, h⟩
set_option maxRecDepth 100000 in
set_option maxHeartbeats 4000000 in
/-- from place 0 -/
theorem sg_X3_choosePair_0 {d : Nat} {Q : List Value → zM → Prop} (a0 : Nat) (M : zM) (h :
let v1_1 : Int32 := ((-1) : Int32)
wX3_choosePair d Q 4 [some (.ref a0), some (.int v1_1), some (.int ((1 : Int32))), none, none] [] M
) : wX3_choosePair d Q 0 [some (.ref a0), none, none, none, none] [] M := zseg (zCl_good gTb d) (fun j => j == 4 || j == 10) 9 h
set_option maxRecDepth 100000 in
set_option maxHeartbeats 4000000 in
/-- from place 4 -/
theorem sg_X3_choosePair_4 {d : Nat} {Q : List Value → zM → Prop} (a0 : Nat) (a1 : Int32) (a2 : Int32) (o3 : Option Value) (o4 : Option Value) (M : zM) (h :
(zsh M a0).1 = 12 ∧ (((zI M a0 2) ≤ a2 → ((a1 = (((-1) : Int32)) → (zb ((0 : Int32)) ∧ (Q [.int ((0 : Int32))] M))) ∧ (¬ (a1 = (((-1) : Int32))) → (zb ((1 : Int32)) ∧ (Q [.int ((1 : Int32))] M))))) ∧ (¬ ((zI M a0 2) ≤ a2) → (wX3_choosePair d Q 10 [some (.ref a0), some (.int a1), some (.int a2), some (.int ((0 : Int32))), o4] [] M)))
) : wX3_choosePair d Q 4 [some (.ref a0), some (.int a1), some (.int a2), o3, o4] [] M := zseg (zCl_good gTb d) (fun j => j == 4 || j == 10) 19 h
set_option maxRecDepth 100000 in
set_option maxHeartbeats 4000000 in
/-- from place 10 -/
theorem sg_X3_choosePair_10 {d : Nat} {Q : List Value → zM → Prop} (a0 : Nat) (a1 : Int32) (a2 : Int32) (a3 : Int32) (o4 : Option Value) (M : zM) (h :
(a2 ≤ a3 → (let v2_1 : Int32 := a2 + 1
wX3_choosePair d Q 4 [some (.ref a0), some (.int a1), some (.int v2_1), some (.int a3), o4] [] M)) ∧ (¬ (a2 ≤ a3) → ((zsh M a0).1 = 12 ∧ ((zsh M (zR M a0 7)).1 = 2 ∧ (zin ((a2 * ((24 : Int32))) + a3) (zsh M (zR M a0 7)).2 ∧ (let v4_2 : Int32 := zI M (zR M a0 7) ((a2 * ((24 : Int32))) + a3).toNatClampNeg
(v4_2 = (((-1) : Int32)) → (let v3_3 : Int32 := a3 + 1
wX3_choosePair d Q 10 [some (.ref a0), some (.int a1), some (.int a2), some (.int v3_3), some (.int v4_2)] [] M)) ∧ (¬ (v4_2 = (((-1) : Int32))) → ((a1 = (((-1) : Int32)) → ((zsh M a0).1 = 12 ∧ (let M4 : zM := zuI M a0 8 a3
(zsh M a0).1 = 12 ∧ (let M5 : zM := zuI M4 a0 9 a2
let v3_6 : Int32 := a3 + 1
wX3_choosePair d Q 10 [some (.ref a0), some (.int v4_2), some (.int a2), some (.int v3_6), some (.int v4_2)] [] M5)))) ∧ (¬ (a1 = (((-1) : Int32))) → ((a1 ≤ v4_2 → (let v3_7 : Int32 := a3 + 1
wX3_choosePair d Q 10 [some (.ref a0), some (.int a1), some (.int a2), some (.int v3_7), some (.int v4_2)] [] M)) ∧ (¬ (a1 ≤ v4_2) → ((zsh M a0).1 = 12 ∧ (let M8 : zM := zuI M a0 8 a3
(zsh M a0).1 = 12 ∧ (let M9 : zM := zuI M8 a0 9 a2
let v3_10 : Int32 := a3 + 1
wX3_choosePair d Q 10 [some (.ref a0), some (.int v4_2), some (.int a2), some (.int v3_10), some (.int v4_2)] [] M9)))))))))))))
) : wX3_choosePair d Q 10 [some (.ref a0), some (.int a1), some (.int a2), some (.int a3), o4] [] M := zseg (zCl_good gTb d) (fun j => j == 4 || j == 10) 52 h
abbrev wX3_isWaiting (d : Nat) (Q : List Value → zM → Prop) : Nat → zLv → List Value → zM → Prop := zW (zCl gTb d) 2 kX3_isWaiting Q
theorem en_X3_isWaiting {d : Nat} {Q : List Value → zM → Prop} (a0 : Nat) (a1 : Int32) (a2 : Int32) (M : zM) (h : wX3_isWaiting d Q 0 [some (.ref a0), some (.int a1), some (.int a2), none] [] M) : zCl gTb (d + 1) nX3_isWaiting [.ref a0, .int a1, .int a2] M Q := ⟨Nat.le_of_ble_eq_true rfl, h⟩
set_option maxRecDepth 100000 in
set_option maxHeartbeats 4000000 in
/-- from place 0 -/
theorem sg_X3_isWaiting_0 {d : Nat} {Q : List Value → zM → Prop} (a0 : Nat) (a1 : Int32) (a2 : Int32) (M : zM) (h :
(a2 ≤ a1 → (let v3_1 : Int32 := (a1 * ((24 : Int32))) + a2
(zsh M a0).1 = 12 ∧ ((zsh M (zR M a0 7)).1 = 2 ∧ (zin v3_1 (zsh M (zR M a0 7)).2 ∧ (((zI M (zR M a0 7) v3_1.toNatClampNeg) = (((-1) : Int32)) → (zb ((0 : Int32)) ∧ (Q [.int ((0 : Int32))] M))) ∧ (¬ ((zI M (zR M a0 7) v3_1.toNatClampNeg) = (((-1) : Int32))) → (zb ((1 : Int32)) ∧ (Q [.int ((1 : Int32))] M)))))))) ∧ (¬ (a2 ≤ a1) → (let v3_2 : Int32 := (a2 * ((24 : Int32))) + a1
(zsh M a0).1 = 12 ∧ ((zsh M (zR M a0 7)).1 = 2 ∧ (zin v3_2 (zsh M (zR M a0 7)).2 ∧ (((zI M (zR M a0 7) v3_2.toNatClampNeg) = (((-1) : Int32)) → (zb ((0 : Int32)) ∧ (Q [.int ((0 : Int32))] M))) ∧ (¬ ((zI M (zR M a0 7) v3_2.toNatClampNeg) = (((-1) : Int32))) → (zb ((1 : Int32)) ∧ (Q [.int ((1 : Int32))] M))))))))
) : wX3_isWaiting d Q 0 [some (.ref a0), some (.int a1), some (.int a2), none] [] M := zseg (zCl_good gTb d) (fun _ => false) 43 h
abbrev wX3_isNeedless (d : Nat) (Q : List Value → zM → Prop) : Nat → zLv → List Value → zM → Prop := zW (zCl gTb d) 2 kX3_isNeedless Q
theorem en_X3_isNeedless {d : Nat} {Q : List Value → zM → Prop} (a0 : Nat) (a1 : Int32) (M : zM) (h : wX3_isNeedless d Q 0 [some (.ref a0), some (.int a1), none] [] M) : zCl gTb (d + 1) nX3_isNeedless [.ref a0, .int a1] M Q := ⟨Nat.le_of_ble_eq_true rfl, h⟩
set_option maxRecDepth 100000 in
set_option maxHeartbeats 4000000 in
/-- from place 0 -/
theorem sg_X3_isNeedless_0 {d : Nat} {Q : List Value → zM → Prop} (a0 : Nat) (a1 : Int32) (M : zM) (h :
(zsh M a0).1 = 12 ∧ ((zsh M a0).1 = 12 ∧ ((zsh M (zR M a0 1)).1 = 6 ∧ (zin (zI M a0 8) (zsh M (zR M a0 1)).2 ∧ ((zsh M (zR M (zR M a0 1) (zI M a0 8).toNatClampNeg)).1 = 11 ∧ (ycI d nX1_leading [.ref (zR M (zR M a0 1) (zI M a0 8).toNatClampNeg)] M fun c2 M1 => ((zsh M1 a0).1 = 12 ∧ ((zsh M1 a0).1 = 12 ∧ ((zsh M1 (zR M1 a0 1)).1 = 6 ∧ (zin (zI M1 a0 9) (zsh M1 (zR M1 a0 1)).2 ∧ ((zsh M1 (zR M1 (zR M1 a0 1) (zI M1 a0 9).toNatClampNeg)).1 = 11 ∧ (ycI d nX1_leading [.ref (zR M1 (zR M1 a0 1) (zI M1 a0 9).toNatClampNeg)] M1 fun c4 M3 => (ycI d nX4_haveVariableInCommon [.int c2, .int c4] M3 fun c6 M5 => ((¬ c6 = 0 → (wX3_isNeedless d Q 18 [some (.ref a0), some (.int a1), some (.int ((0 : Int32)))] [] M5)) ∧ (¬ (¬ c6 = 0) → (zb ((1 : Int32)) ∧ (Q [.int ((1 : Int32))] M5))))))))))))))))
) : wX3_isNeedless d Q 0 [some (.ref a0), some (.int a1), none] [] M := zseg (zCl_good gTb d) (fun j => j == 18) 23 h
set_option maxRecDepth 100000 in
set_option maxHeartbeats 4000000 in
/-- from place 18 -/
theorem sg_X3_isNeedless_18 {d : Nat} {Q : List Value → zM → Prop} (a0 : Nat) (a1 : Int32) (a2 : Int32) (M : zM) (h :
(zsh M a0).1 = 12 ∧ (((zI M a0 2) ≤ a2 → (zb ((0 : Int32)) ∧ (Q [.int ((0 : Int32))] M))) ∧ (¬ ((zI M a0 2) ≤ a2) → ((zsh M a0).1 = 12 ∧ ((a2 = (zI M a0 8) → (let v2_1 : Int32 := a2 + 1
wX3_isNeedless d Q 18 [some (.ref a0), some (.int a1), some (.int v2_1)] [] M)) ∧ (¬ (a2 = (zI M a0 8)) → ((zsh M a0).1 = 12 ∧ ((a2 = (zI M a0 9) → (let v2_2 : Int32 := a2 + 1
wX3_isNeedless d Q 18 [some (.ref a0), some (.int a1), some (.int v2_2)] [] M)) ∧ (¬ (a2 = (zI M a0 9)) → ((zsh M a0).1 = 12 ∧ ((zsh M (zR M a0 1)).1 = 6 ∧ (zin a2 (zsh M (zR M a0 1)).2 ∧ ((zsh M (zR M (zR M a0 1) a2.toNatClampNeg)).1 = 11 ∧ (ycI d nX1_leading [.ref (zR M (zR M a0 1) a2.toNatClampNeg)] M fun c4 M3 => (ycI d nX4_divides [.int c4, .int a1] M3 fun c6 M5 => ((c6 = 0 → (let v2_7 : Int32 := a2 + 1
wX3_isNeedless d Q 18 [some (.ref a0), some (.int a1), some (.int v2_7)] [] M5)) ∧ (¬ (c6 = 0) → ((zsh M5 a0).1 = 12 ∧ ((zsh M5 a0).1 = 12 ∧ (ycI d nX3_isWaiting [.ref a0, .int a2, .int (zI M5 a0 8)] M5 fun c9 M8 => ((¬ c9 = 0 → (let v2_10 : Int32 := a2 + 1
wX3_isNeedless d Q 18 [some (.ref a0), some (.int a1), some (.int v2_10)] [] M8)) ∧ (¬ (¬ c9 = 0) → ((zsh M8 a0).1 = 12 ∧ ((zsh M8 a0).1 = 12 ∧ (ycI d nX3_isWaiting [.ref a0, .int a2, .int (zI M8 a0 9)] M8 fun c12 M11 => ((¬ c12 = 0 → (let v2_13 : Int32 := a2 + 1
wX3_isNeedless d Q 18 [some (.ref a0), some (.int a1), some (.int v2_13)] [] M11)) ∧ (¬ (¬ c12 = 0) → (zb ((1 : Int32)) ∧ (Q [.int ((1 : Int32))] M11))))))))))))))))))))))))))))
) : wX3_isNeedless d Q 18 [some (.ref a0), some (.int a1), some (.int a2)] [] M := zseg (zCl_good gTb d) (fun j => j == 18) 51 h
abbrev wX3_crossOut (d : Nat) (Q : List Value → zM → Prop) : Nat → zLv → List Value → zM → Prop := zW (zCl gTb d) 2 kX3_crossOut Q
theorem en_X3_crossOut {d : Nat} {Q : List Value → zM → Prop} (a0 : Nat) (a1 : Int32) (a2 : Nat) (M : zM) (h : wX3_crossOut d Q 0 [some (.ref a0), some (.int a1), some (.ref a2), none, none, none, none, none, none] [] M) : zCl gTb (d + 1) nX3_crossOut [.ref a0, .int a1, .ref a2] M Q := ⟨Nat.le_of_ble_eq_true rfl, h⟩
set_option maxRecDepth 100000 in
set_option maxHeartbeats 4000000 in
/-- from place 0 -/
theorem sg_X3_crossOut_0 {d : Nat} {Q : List Value → zM → Prop} (a0 : Nat) (a1 : Int32) (a2 : Nat) (M : zM) (h :
(zsh M a0).1 = 12 ∧ ((zsh M a0).1 = 12 ∧ ((zsh M (zR M a0 1)).1 = 6 ∧ (zin (zI M a0 8) (zsh M (zR M a0 1)).2 ∧ (let r3_1 : Nat := zR M (zR M a0 1) (zI M a0 8).toNatClampNeg
(zsh M a0).1 = 12 ∧ ((zsh M a0).1 = 12 ∧ ((zsh M (zR M a0 1)).1 = 6 ∧ (zin (zI M a0 9) (zsh M (zR M a0 1)).2 ∧ (let r4_2 : Nat := zR M (zR M a0 1) (zI M a0 9).toNatClampNeg
(zsh M r3_1).1 = 11 ∧ (ycI d nX1_leading [.ref r3_1] M fun c4 M3 => (let v5_5 : Int32 := a1 - c4
(zsh M3 r4_2).1 = 11 ∧ (ycI d nX1_leading [.ref r4_2] M3 fun c7 M6 => (let v6_8 : Int32 := a1 - c7
(zsh M6 r3_1).1 = 11 ∧ ((zsh M6 a2).1 = 14 ∧ (ycI d nX6_addMultiple [.ref a2, .long ((4294967297 : Int64)), .int v5_5, .ref (zR M6 r3_1 0)] M6 fun c10 M9 => ((c10 = 0 → (zb ((0 : Int32)) ∧ (Q [.int ((0 : Int32))] M9))) ∧ (¬ (c10 = 0) → ((zsh M9 r4_2).1 = 11 ∧ ((zsh M9 a2).1 = 14 ∧ (ycI d nX6_addMultiple [.ref a2, .long (((-4294967295) : Int64)), .int v6_8, .ref (zR M9 r4_2 0)] M9 fun c12 M11 => ((¬ c12 = 0 → (wX3_crossOut d Q 40 [some (.ref a0), some (.int a1), some (.ref a2), some (.ref r3_1), some (.ref r4_2), some (.int v5_5), some (.int v6_8), some (.int ((0 : Int32))), none] [] M11)) ∧ (¬ (¬ c12 = 0) → (zb ((0 : Int32)) ∧ (Q [.int ((0 : Int32))] M11)))))))))))))))))))))))
) : wX3_crossOut d Q 0 [some (.ref a0), some (.int a1), some (.ref a2), none, none, none, none, none, none] [] M := zseg (zCl_good gTb d) (fun j => j == 40) 47 h
set_option maxRecDepth 100000 in
set_option maxHeartbeats 4000000 in
/-- from place 40 -/
theorem sg_X3_crossOut_40 {d : Nat} {Q : List Value → zM → Prop} (a0 : Nat) (o1 : Option Value) (o2 : Option Value) (a3 : Nat) (a4 : Nat) (a5 : Int32) (a6 : Int32) (a7 : Int32) (o8 : Option Value) (M : zM) (h :
(zsh M a0).1 = 12 ∧ (((zI M a0 10) ≤ a7 → (zb ((1 : Int32)) ∧ (Q [.int ((1 : Int32))] M))) ∧ (¬ ((zI M a0 10) ≤ a7) → ((zsh M a0).1 = 12 ∧ ((zsh M a0).1 = 12 ∧ ((zsh M (zR M a0 1)).1 = 6 ∧ (zin (zI M a0 2) (zsh M (zR M a0 1)).2 ∧ ((zsh M (zR M (zR M a0 1) (zI M a0 2).toNatClampNeg)).1 = 11 ∧ ((zsh M (zR M (zR M (zR M a0 1) (zI M a0 2).toNatClampNeg) 1)).1 = 5 ∧ (zin a7 (zsh M (zR M (zR M (zR M a0 1) (zI M a0 2).toNatClampNeg) 1)).2 ∧ (let r8_1 : Nat := zR M (zR M (zR M (zR M a0 1) (zI M a0 2).toNatClampNeg) 1) a7.toNatClampNeg
(zsh M r8_1).1 = 14 ∧ (ycV d nX6_empty [.ref r8_1] M fun M2 => ((zsh M2 a3).1 = 11 ∧ ((zsh M2 (zR M2 a3 1)).1 = 5 ∧ (zin a7 (zsh M2 (zR M2 a3 1)).2 ∧ ((zsh M2 r8_1).1 = 14 ∧ (ycI d nX6_addMultiple [.ref r8_1, .long ((4294967297 : Int64)), .int a5, .ref (zR M2 (zR M2 a3 1) a7.toNatClampNeg)] M2 fun c4 M3 => ((c4 = 0 → (zb ((0 : Int32)) ∧ (Q [.int ((0 : Int32))] M3))) ∧ (¬ (c4 = 0) → ((zsh M3 a4).1 = 11 ∧ ((zsh M3 (zR M3 a4 1)).1 = 5 ∧ (zin a7 (zsh M3 (zR M3 a4 1)).2 ∧ ((zsh M3 r8_1).1 = 14 ∧ (ycI d nX6_addMultiple [.ref r8_1, .long (((-4294967295) : Int64)), .int a6, .ref (zR M3 (zR M3 a4 1) a7.toNatClampNeg)] M3 fun c6 M5 => ((¬ c6 = 0 → (let v7_7 : Int32 := a7 + 1
wX3_crossOut d Q 40 [some (.ref a0), o1, o2, some (.ref a3), some (.ref a4), some (.int a5), some (.int a6), some (.int v7_7), some (.ref r8_1)] [] M5)) ∧ (¬ (¬ c6 = 0) → (zb ((0 : Int32)) ∧ (Q [.int ((0 : Int32))] M5)))))))))))))))))))))))))))
) : wX3_crossOut d Q 40 [some (.ref a0), o1, o2, some (.ref a3), some (.ref a4), some (.int a5), some (.int a6), some (.int a7), o8] [] M := zseg (zCl_good gTb d) (fun j => j == 40) 46 h
abbrev wX3_takeQuotients (d : Nat) (Q : List Value → zM → Prop) : Nat → zLv → List Value → zM → Prop := zW (zCl gTb d) 2 kX3_takeQuotients Q
theorem en_X3_takeQuotients {d : Nat} {Q : List Value → zM → Prop} (a0 : Nat) (a1 : Nat) (a2 : Nat) (M : zM) (h : wX3_takeQuotients d Q 0 [some (.ref a0), some (.ref a1), some (.ref a2), none, none, none, none, none, none, none] [] M) : zCl gTb (d + 1) nX3_takeQuotients [.ref a0, .ref a1, .ref a2] M Q := ⟨Nat.le_of_ble_eq_true rfl, h⟩
set_option maxRecDepth 100000 in
set_option maxHeartbeats 4000000 in
/-- from place 0 -/
theorem sg_X3_takeQuotients_0 {d : Nat} {Q : List Value → zM → Prop} (a0 : Nat) (a1 : Nat) (a2 : Nat) (M : zM) (h :
wX3_takeQuotients d Q 2 [some (.ref a0), some (.ref a1), some (.ref a2), some (.int ((0 : Int32))), none, none, none, none, none, none] [] M
) : wX3_takeQuotients d Q 0 [some (.ref a0), some (.ref a1), some (.ref a2), none, none, none, none, none, none, none] [] M := zseg (zCl_good gTb d) (fun j => j == 2 || j == 13 || j == 24) 7 h
set_option maxRecDepth 100000 in
set_option maxHeartbeats 4000000 in
/-- from place 2 -/
theorem sg_X3_takeQuotients_2 {d : Nat} {Q : List Value → zM → Prop} (a0 : Nat) (a1 : Nat) (a2 : Nat) (a3 : Int32) (o4 : Option Value) (o5 : Option Value) (o6 : Option Value) (o7 : Option Value) (o8 : Option Value) (o9 : Option Value) (M : zM) (h :
(zsh M a0).1 = 12 ∧ (((zI M a0 10) ≤ a3 → (zb ((1 : Int32)) ∧ (Q [.int ((1 : Int32))] M))) ∧ (¬ ((zI M a0 10) ≤ a3) → ((zsh M a1).1 = 11 ∧ ((zsh M (zR M a1 1)).1 = 5 ∧ (zin a3 (zsh M (zR M a1 1)).2 ∧ (let r4_1 : Nat := zR M (zR M a1 1) a3.toNatClampNeg
wX3_takeQuotients d Q 13 [some (.ref a0), some (.ref a1), some (.ref a2), some (.int a3), some (.ref r4_1), some (.int ((0 : Int32))), o6, o7, o8, o9] [] M))))))
) : wX3_takeQuotients d Q 2 [some (.ref a0), some (.ref a1), some (.ref a2), some (.int a3), o4, o5, o6, o7, o8, o9] [] M := zseg (zCl_good gTb d) (fun j => j == 2 || j == 13 || j == 24) 18 h
set_option maxRecDepth 100000 in
set_option maxHeartbeats 4000000 in
/-- from place 13 -/
theorem sg_X3_takeQuotients_13 {d : Nat} {Q : List Value → zM → Prop} (a0 : Nat) (a1 : Nat) (a2 : Nat) (a3 : Int32) (a4 : Nat) (a5 : Int32) (o6 : Option Value) (o7 : Option Value) (o8 : Option Value) (o9 : Option Value) (M : zM) (h :
(zsh M a0).1 = 12 ∧ (((zI M a0 2) ≤ a5 → (let v3_1 : Int32 := a3 + 1
wX3_takeQuotients d Q 2 [some (.ref a0), some (.ref a1), some (.ref a2), some (.int v3_1), some (.ref a4), some (.int a5), o6, o7, o8, o9] [] M)) ∧ (¬ ((zI M a0 2) ≤ a5) → ((zsh M a2).1 = 10 ∧ ((zsh M (zR M a2 2)).1 = 5 ∧ (zin a5 (zsh M (zR M a2 2)).2 ∧ (let r6_2 : Nat := zR M (zR M a2 2) a5.toNatClampNeg
wX3_takeQuotients d Q 24 [some (.ref a0), some (.ref a1), some (.ref a2), some (.int a3), some (.ref a4), some (.int a5), some (.ref r6_2), some (.int ((0 : Int32))), o8, o9] [] M))))))
) : wX3_takeQuotients d Q 13 [some (.ref a0), some (.ref a1), some (.ref a2), some (.int a3), some (.ref a4), some (.int a5), o6, o7, o8, o9] [] M := zseg (zCl_good gTb d) (fun j => j == 2 || j == 13 || j == 24) 18 h
set_option maxRecDepth 100000 in
set_option maxHeartbeats 4000000 in
/-- from place 24 -/
theorem sg_X3_takeQuotients_24 {d : Nat} {Q : List Value → zM → Prop} (a0 : Nat) (a1 : Nat) (a2 : Nat) (a3 : Int32) (a4 : Nat) (a5 : Int32) (a6 : Nat) (a7 : Int32) (o8 : Option Value) (o9 : Option Value) (M : zM) (h :
(zsh M a6).1 = 14 ∧ (((zI M a6 4) ≤ a7 → (let v5_1 : Int32 := a5 + 1
wX3_takeQuotients d Q 13 [some (.ref a0), some (.ref a1), some (.ref a2), some (.int a3), some (.ref a4), some (.int v5_1), some (.ref a6), some (.int a7), o8, o9] [] M)) ∧ (¬ ((zI M a6 4) ≤ a7) → ((zsh M a6).1 = 14 ∧ ((zsh M (zR M a6 1)).1 = 3 ∧ (zin a7 (zsh M (zR M a6 1)).2 ∧ (ycJ d nX2_negative [.long (zL M (zR M a6 1) a7.toNatClampNeg)] M fun c3 M2 => ((zsh M2 a6).1 = 14 ∧ ((zsh M2 (zR M2 a6 2)).1 = 2 ∧ (zin a7 (zsh M2 (zR M2 a6 2)).2 ∧ ((zsh M2 a0).1 = 12 ∧ ((zsh M2 (zR M2 a0 1)).1 = 6 ∧ (zin a5 (zsh M2 (zR M2 a0 1)).2 ∧ ((zsh M2 (zR M2 (zR M2 a0 1) a5.toNatClampNeg)).1 = 11 ∧ ((zsh M2 (zR M2 (zR M2 (zR M2 a0 1) a5.toNatClampNeg) 1)).1 = 5 ∧ (zin a3 (zsh M2 (zR M2 (zR M2 (zR M2 a0 1) a5.toNatClampNeg) 1)).2 ∧ ((zsh M2 a4).1 = 14 ∧ (ycI d nX6_addMultiple [.ref a4, .long c3, .int (zI M2 (zR M2 a6 2) a7.toNatClampNeg), .ref (zR M2 (zR M2 (zR M2 (zR M2 a0 1) a5.toNatClampNeg) 1) a3.toNatClampNeg)] M2 fun c5 M4 => ((¬ c5 = 0 → (let v7_6 : Int32 := a7 + 1
wX3_takeQuotients d Q 24 [some (.ref a0), some (.ref a1), some (.ref a2), some (.int a3), some (.ref a4), some (.int a5), some (.ref a6), some (.int v7_6), some (.long c3), none] [] M4)) ∧ (¬ (¬ c5 = 0) → (zb ((0 : Int32)) ∧ (Q [.int ((0 : Int32))] M4)))))))))))))))))))))
) : wX3_takeQuotients d Q 24 [some (.ref a0), some (.ref a1), some (.ref a2), some (.int a3), some (.ref a4), some (.int a5), some (.ref a6), some (.int a7), o8, o9] [] M := zseg (zCl_good gTb d) (fun j => j == 2 || j == 13 || j == 24) 36 h
abbrev wX3_adopt (d : Nat) (Q : List Value → zM → Prop) : Nat → zLv → List Value → zM → Prop := zW (zCl gTb d) 1 kX3_adopt Q
theorem en_X3_adopt {d : Nat} {Q : List Value → zM → Prop} (a0 : Nat) (a1 : Nat) (a2 : Int32) (M : zM) (h : wX3_adopt d Q 0 [some (.ref a0), some (.ref a1), some (.int a2), none, none, none] [] M) : zCl gTb (d + 1) nX3_adopt [.ref a0, .ref a1, .int a2] M Q := ⟨Nat.le_of_ble_eq_true rfl, h⟩
set_option maxRecDepth 100000 in
set_option maxHeartbeats 4000000 in
/-- from place 0 -/
theorem sg_X3_adopt_0 {d : Nat} {Q : List Value → zM → Prop} (a0 : Nat) (a1 : Nat) (a2 : Int32) (M : zM) (h :
wX3_adopt d Q 2 [some (.ref a0), some (.ref a1), some (.int a2), some (.int ((0 : Int32))), none, none] [] M
) : wX3_adopt d Q 0 [some (.ref a0), some (.ref a1), some (.int a2), none, none, none] [] M := zseg (zCl_good gTb d) (fun j => j == 2 || j == 24) 7 h
set_option maxRecDepth 100000 in
set_option maxHeartbeats 4000000 in
/-- from place 2 -/
theorem sg_X3_adopt_2 {d : Nat} {Q : List Value → zM → Prop} (a0 : Nat) (a1 : Nat) (a2 : Int32) (a3 : Int32) (o4 : Option Value) (o5 : Option Value) (M : zM) (h :
(a2 ≤ a3 → (Q [.int ((0 : Int32))] M)) ∧ (¬ (a2 ≤ a3) → ((zsh M a1).1 = 5 ∧ (zin a3 (zsh M a1).2 ∧ ((zsh M (zR M a1 a3.toNatClampNeg)).1 = 14 ∧ (((zI M (zR M a1 a3.toNatClampNeg) 4) ≤ 0 → (let v3_1 : Int32 := a3 + 1
wX3_adopt d Q 2 [some (.ref a0), some (.ref a1), some (.int a2), some (.int v3_1), o4, o5] [] M)) ∧ (¬ ((zI M (zR M a1 a3.toNatClampNeg) 4) ≤ 0) → ((zsh M a0).1 = 12 ∧ ((zsh M a0).1 = 12 ∧ ((zsh M (zR M a0 1)).1 = 6 ∧ (zin (zI M a0 2) (zsh M (zR M a0 1)).2 ∧ (let r4_2 : Nat := zR M (zR M a0 1) (zI M a0 2).toNatClampNeg
(zsh M r4_2).1 = 11 ∧ ((zsh M a1).1 = 5 ∧ (zin a3 (zsh M a1).2 ∧ ((zsh M (zR M r4_2 0)).1 = 14 ∧ (ycV d nX6_become [.ref (zR M r4_2 0), .ref (zR M a1 a3.toNatClampNeg)] M fun M3 => (wX3_adopt d Q 24 [some (.ref a0), some (.ref a1), some (.int a2), some (.int a3), some (.ref r4_2), some (.int ((0 : Int32)))] [] M3))))))))))))))))
) : wX3_adopt d Q 2 [some (.ref a0), some (.ref a1), some (.int a2), some (.int a3), o4, o5] [] M := zseg (zCl_good gTb d) (fun j => j == 2 || j == 24) 31 h
set_option maxRecDepth 100000 in
set_option maxHeartbeats 4000000 in
/-- from place 24 -/
theorem sg_X3_adopt_24 {d : Nat} {Q : List Value → zM → Prop} (a0 : Nat) (a1 : Nat) (a2 : Int32) (a3 : Int32) (a4 : Nat) (a5 : Int32) (M : zM) (h :
(zsh M a0).1 = 12 ∧ (((zI M a0 10) ≤ a5 → ((zsh M a0).1 = 12 ∧ (((zI M a0 10) ≤ a3 → ((zsh M a0).1 = 12 ∧ ((zsh M a4).1 = 11 ∧ (ycI d nX1_makeMonic [.ref a4, .int (zI M a0 10)] M fun c2 M1 => ((¬ c2 = 0 → ((zsh M1 a0).1 = 12 ∧ (ycV d nX3_add [.ref a0] M1 fun M3 => (let v3_4 : Int32 := a3 + 1
wX3_adopt d Q 2 [some (.ref a0), some (.ref a1), some (.int a2), some (.int v3_4), some (.ref a4), some (.int a5)] [] M3)))) ∧ (¬ (¬ c2 = 0) → (Q [.int (((-7) : Int32))] M1))))))) ∧ (¬ ((zI M a0 10) ≤ a3) → ((zsh M a4).1 = 11 ∧ ((zsh M (zR M a4 1)).1 = 5 ∧ (zin a3 (zsh M (zR M a4 1)).2 ∧ ((zsh M (zR M (zR M a4 1) a3.toNatClampNeg)).1 = 14 ∧ (ycI d nX6_come [.ref (zR M (zR M a4 1) a3.toNatClampNeg), .long ((4294967297 : Int64)), .int ((0 : Int32))] M fun c6 M5 => ((¬ c6 = 0 → ((zsh M5 a0).1 = 12 ∧ ((zsh M5 a4).1 = 11 ∧ (ycI d nX1_makeMonic [.ref a4, .int (zI M5 a0 10)] M5 fun c8 M7 => ((¬ c8 = 0 → ((zsh M7 a0).1 = 12 ∧ (ycV d nX3_add [.ref a0] M7 fun M9 => (let v3_10 : Int32 := a3 + 1
wX3_adopt d Q 2 [some (.ref a0), some (.ref a1), some (.int a2), some (.int v3_10), some (.ref a4), some (.int a5)] [] M9)))) ∧ (¬ (¬ c8 = 0) → (Q [.int (((-7) : Int32))] M7))))))) ∧ (¬ (¬ c6 = 0) → (Q [.int (((-7) : Int32))] M5)))))))))))) ∧ (¬ ((zI M a0 10) ≤ a5) → ((zsh M a4).1 = 11 ∧ ((zsh M (zR M a4 1)).1 = 5 ∧ (zin a5 (zsh M (zR M a4 1)).2 ∧ ((zsh M (zR M (zR M a4 1) a5.toNatClampNeg)).1 = 14 ∧ (ycV d nX6_empty [.ref (zR M (zR M a4 1) a5.toNatClampNeg)] M fun M11 => (let v5_12 : Int32 := a5 + 1
wX3_adopt d Q 24 [some (.ref a0), some (.ref a1), some (.int a2), some (.int a3), some (.ref a4), some (.int v5_12)] [] M11))))))))
) : wX3_adopt d Q 24 [some (.ref a0), some (.ref a1), some (.int a2), some (.int a3), some (.ref a4), some (.int a5)] [] M := zseg (zCl_good gTb d) (fun j => j == 2 || j == 24) 52 h
abbrev wX3_settlePair (d : Nat) (Q : List Value → zM → Prop) : Nat → zLv → List Value → zM → Prop := zW (zCl gTb d) 1 kX3_settlePair Q
theorem en_X3_settlePair {d : Nat} {Q : List Value → zM → Prop} (a0 : Nat) (a1 : Nat) (M : zM) (h : wX3_settlePair d Q 0 [some (.ref a0), some (.ref a1), none, none, none] [] M) : zCl gTb (d + 1) nX3_settlePair [.ref a0, .ref a1] M Q := ⟨Nat.le_of_ble_eq_true rfl, h⟩
set_option maxRecDepth 100000 in
set_option maxHeartbeats 4000000 in
/-- from place 0 -/
theorem sg_X3_settlePair_0 {d : Nat} {Q : List Value → zM → Prop} (a0 : Nat) (a1 : Nat) (M : zM) (h :
(zsh M a0).1 = 12 ∧ ((zsh M a0).1 = 12 ∧ ((zsh M a0).1 = 12 ∧ ((zsh M (zR M a0 7)).1 = 2 ∧ (zin (((zI M a0 9) * ((24 : Int32))) + (zI M a0 8)) (zsh M (zR M a0 7)).2 ∧ (let M1 : zM := zuI M (zR M a0 7) (((zI M a0 9) * ((24 : Int32))) + (zI M a0 8)).toNatClampNeg (((-1) : Int32))
(zsh M a0).1 = 12 ∧ ((zsh M a0).1 = 12 ∧ (let M2 : zM := zuI M1 a0 4 ((zI M1 a0 4) + ((1 : Int32)))
(zsh M a0).1 = 12 ∧ ((zsh M a0).1 = 12 ∧ ((zsh M (zR M a0 1)).1 = 6 ∧ (zin (zI M2 a0 8) (zsh M (zR M a0 1)).2 ∧ ((zsh M (zR M (zR M a0 1) (zI M2 a0 8).toNatClampNeg)).1 = 11 ∧ (ycI d nX1_leading [.ref (zR M (zR M a0 1) (zI M2 a0 8).toNatClampNeg)] M2 fun c4 M3 => ((zsh M3 a0).1 = 12 ∧ ((zsh M3 a0).1 = 12 ∧ ((zsh M3 (zR M3 a0 1)).1 = 6 ∧ (zin (zI M3 a0 9) (zsh M3 (zR M3 a0 1)).2 ∧ ((zsh M3 (zR M3 (zR M3 a0 1) (zI M3 a0 9).toNatClampNeg)).1 = 11 ∧ (ycI d nX1_leading [.ref (zR M3 (zR M3 a0 1) (zI M3 a0 9).toNatClampNeg)] M3 fun c6 M5 => (ycI d nX4_leastCommon [.int c4, .int c6] M5 fun c8 M7 => ((zsh M7 a0).1 = 12 ∧ (ycI d nX3_isNeedless [.ref a0, .int c8] M7 fun c10 M9 => ((c10 = 0 → ((zsh M9 a0).1 = 12 ∧ ((zsh M9 a1).1 = 10 ∧ (ycV d nX0_makeReady [.ref a1, .int (zI M9 a0 2)] M9 fun M11 => ((zsh M11 a1).1 = 10 ∧ ((zsh M11 a0).1 = 12 ∧ (ycI d nX3_crossOut [.ref a0, .int c8, .ref (zR M11 a1 0)] M11 fun c13 M12 => ((¬ c13 = 0 → ((zsh M12 a0).1 = 12 ∧ ((zsh M12 a0).1 = 12 ∧ ((zsh M12 a1).1 = 10 ∧ (ycI d nX0_run [.ref a1, .ref (zR M12 a0 1), .int (zI M12 a0 2), .int (((-1) : Int32))] M12 fun c15 M14 => ((¬ c15 = 0 → (Q [.int c15] M14)) ∧ (¬ (¬ c15 = 0) → ((zsh M14 a1).1 = 10 ∧ ((zsh M14 (zR M14 a1 1)).1 = 14 ∧ ((¬ (zI M14 (zR M14 a1 1) 4) = 0 → ((zsh M14 a0).1 = 12 ∧ ((zsh M14 a0).1 = 12 ∧ ((zsh M14 (zR M14 a0 1)).1 = 6 ∧ (zin (zI M14 a0 2) (zsh M14 (zR M14 a0 1)).2 ∧ (let r4_16 : Nat := zR M14 (zR M14 a0 1) (zI M14 a0 2).toNatClampNeg
(zsh M14 r4_16).1 = 11 ∧ ((zsh M14 a1).1 = 10 ∧ ((zsh M14 (zR M14 r4_16 0)).1 = 14 ∧ (ycV d nX6_become [.ref (zR M14 r4_16 0), .ref (zR M14 a1 1)] M14 fun M17 => ((zsh M17 a0).1 = 12 ∧ ((((24 : Int32)) ≤ (zI M17 a0 2) → (Q [.int (((-7) : Int32))] M17)) ∧ (¬ (((24 : Int32)) ≤ (zI M17 a0 2)) → ((zsh M17 a0).1 = 12 ∧ (ycI d nX3_takeQuotients [.ref a0, .ref r4_16, .ref a1] M17 fun c19 M18 => ((c19 = 0 → (Q [.int (((-7) : Int32))] M18)) ∧ (¬ (c19 = 0) → ((zsh M18 a0).1 = 12 ∧ ((zsh M18 r4_16).1 = 11 ∧ (ycI d nX1_makeMonic [.ref r4_16, .int (zI M18 a0 10)] M18 fun c21 M20 => ((¬ c21 = 0 → ((zsh M20 a0).1 = 12 ∧ (ycV d nX3_add [.ref a0] M20 fun M22 => (Q [.int ((0 : Int32))] M22)))) ∧ (¬ (¬ c21 = 0) → (Q [.int (((-7) : Int32))] M20)))))))))))))))))))))) ∧ (¬ (¬ (zI M14 (zR M14 a1 1) 4) = 0) → (Q [.int c15] M14)))))))))))) ∧ (¬ (¬ c13 = 0) → (Q [.int (((-7) : Int32))] M12)))))))))) ∧ (¬ (c10 = 0) → ((zsh M9 a0).1 = 12 ∧ ((zsh M9 a0).1 = 12 ∧ (let M23 : zM := zuI M9 a0 5 ((zI M9 a0 5) + ((1 : Int32)))
Q [.int ((0 : Int32))] M23))))))))))))))))))))))))))
) : wX3_settlePair d Q 0 [some (.ref a0), some (.ref a1), none, none, none] [] M := zseg (zCl_good gTb d) (fun _ => false) 113 h
abbrev wX3_dropNeedless (d : Nat) (Q : List Value → zM → Prop) : Nat → zLv → List Value → zM → Prop := zW (zCl gTb d) 0 kX3_dropNeedless Q
theorem en_X3_dropNeedless {d : Nat} {Q : List Value → zM → Prop} (a0 : Nat) (M : zM) (h : wX3_dropNeedless d Q 0 [some (.ref a0), none, none, none] [] M) : zCl gTb (d + 1) nX3_dropNeedless [.ref a0] M Q := ⟨Nat.le_of_ble_eq_true rfl, h⟩
set_option maxRecDepth 100000 in
set_option maxHeartbeats 4000000 in
/-- from place 0 -/
theorem sg_X3_dropNeedless_0 {d : Nat} {Q : List Value → zM → Prop} (a0 : Nat) (M : zM) (h :
wX3_dropNeedless d Q 4 [some (.ref a0), some (.int ((0 : Int32))), some (.int ((0 : Int32))), none] [] M
) : wX3_dropNeedless d Q 0 [some (.ref a0), none, none, none] [] M := zseg (zCl_good gTb d) (fun j => j == 4) 9 h
set_option maxRecDepth 100000 in
set_option maxHeartbeats 4000000 in
/-- from place 4 -/
theorem sg_X3_dropNeedless_4 {d : Nat} {Q : List Value → zM → Prop} (a0 : Nat) (a1 : Int32) (a2 : Int32) (o3 : Option Value) (M : zM) (h :
(zsh M a0).1 = 12 ∧ (((zI M a0 2) ≤ a2 → ((zsh M a0).1 = 12 ∧ (let M1 : zM := zuI M a0 2 a1
Q [] M1))) ∧ (¬ ((zI M a0 2) ≤ a2) → ((zsh M a0).1 = 12 ∧ (ycI d nX3_isCovered [.ref a0, .int a2, .int a1] M fun c3 M2 => ((¬ c3 = 0 → (let v2_4 : Int32 := a2 + 1
wX3_dropNeedless d Q 4 [some (.ref a0), some (.int a1), some (.int v2_4), o3] [] M2)) ∧ (¬ (¬ c3 = 0) → ((zsh M2 a0).1 = 12 ∧ ((zsh M2 (zR M2 a0 1)).1 = 6 ∧ (zin a2 (zsh M2 (zR M2 a0 1)).2 ∧ (let r3_5 : Nat := zR M2 (zR M2 a0 1) a2.toNatClampNeg
(zsh M2 a0).1 = 12 ∧ ((zsh M2 a0).1 = 12 ∧ ((zsh M2 (zR M2 a0 1)).1 = 6 ∧ (zin a1 (zsh M2 (zR M2 a0 1)).2 ∧ ((zsh M2 (zR M2 a0 1)).1 = 6 ∧ (zin a2 (zsh M2 (zR M2 a0 1)).2 ∧ ((zsh M2 (zR M2 (zR M2 a0 1) a1.toNatClampNeg)).1 = 11 ∧ (let M6 : zM := zuR M2 (zR M2 a0 1) a2.toNatClampNeg (zR M2 (zR M2 a0 1) a1.toNatClampNeg)
(zsh M2 a0).1 = 12 ∧ ((zsh M2 (zR M6 a0 1)).1 = 6 ∧ (zin a1 (zsh M2 (zR M6 a0 1)).2 ∧ ((zsh M2 r3_5).1 = 11 ∧ (let M7 : zM := zuR M6 (zR M6 a0 1) a1.toNatClampNeg r3_5
let v1_8 : Int32 := a1 + 1
let v2_9 : Int32 := a2 + 1
wX3_dropNeedless d Q 4 [some (.ref a0), some (.int v1_8), some (.int v2_9), some (.ref r3_5)] [] M7)))))))))))))))))))))
) : wX3_dropNeedless d Q 4 [some (.ref a0), some (.int a1), some (.int a2), o3] [] M := zseg (zCl_good gTb d) (fun j => j == 4) 41 h
abbrev wX3_isCovered (d : Nat) (Q : List Value → zM → Prop) : Nat → zLv → List Value → zM → Prop := zW (zCl gTb d) 2 kX3_isCovered Q
theorem en_X3_isCovered {d : Nat} {Q : List Value → zM → Prop} (a0 : Nat) (a1 : Int32) (a2 : Int32) (M : zM) (h : wX3_isCovered d Q 0 [some (.ref a0), some (.int a1), some (.int a2), none, none, none] [] M) : zCl gTb (d + 1) nX3_isCovered [.ref a0, .int a1, .int a2] M Q := ⟨Nat.le_of_ble_eq_true rfl, h⟩
set_option maxRecDepth 100000 in
set_option maxHeartbeats 4000000 in
/-- from place 0 -/
theorem sg_X3_isCovered_0 {d : Nat} {Q : List Value → zM → Prop} (a0 : Nat) (a1 : Int32) (a2 : Int32) (M : zM) (h :
(zsh M a0).1 = 12 ∧ ((zsh M (zR M a0 1)).1 = 6 ∧ (zin a1 (zsh M (zR M a0 1)).2 ∧ ((zsh M (zR M (zR M a0 1) a1.toNatClampNeg)).1 = 11 ∧ (ycI d nX1_leading [.ref (zR M (zR M a0 1) a1.toNatClampNeg)] M fun c2 M1 => (wX3_isCovered d Q 8 [some (.ref a0), some (.int a1), some (.int a2), some (.int c2), some (.int ((0 : Int32))), none] [] M1)))))
) : wX3_isCovered d Q 0 [some (.ref a0), some (.int a1), some (.int a2), none, none, none] [] M := zseg (zCl_good gTb d) (fun j => j == 8 || j == 27) 13 h
set_option maxRecDepth 100000 in
set_option maxHeartbeats 4000000 in
/-- from place 8 -/
theorem sg_X3_isCovered_8 {d : Nat} {Q : List Value → zM → Prop} (a0 : Nat) (a1 : Int32) (a2 : Int32) (a3 : Int32) (a4 : Int32) (o5 : Option Value) (M : zM) (h :
(a2 ≤ a4 → (let v4_1 : Int32 := a1 + ((1 : Int32))
wX3_isCovered d Q 27 [some (.ref a0), some (.int a1), some (.int a2), some (.int a3), some (.int v4_1), o5] [] M)) ∧ (¬ (a2 ≤ a4) → ((zsh M a0).1 = 12 ∧ ((zsh M (zR M a0 1)).1 = 6 ∧ (zin a4 (zsh M (zR M a0 1)).2 ∧ ((zsh M (zR M (zR M a0 1) a4.toNatClampNeg)).1 = 11 ∧ (ycI d nX1_leading [.ref (zR M (zR M a0 1) a4.toNatClampNeg)] M fun c3 M2 => (ycI d nX4_divides [.int c3, .int a3] M2 fun c5 M4 => ((c5 = 0 → (let v4_6 : Int32 := a4 + 1
wX3_isCovered d Q 8 [some (.ref a0), some (.int a1), some (.int a2), some (.int a3), some (.int v4_6), o5] [] M4)) ∧ (¬ (c5 = 0) → (zb ((1 : Int32)) ∧ (Q [.int ((1 : Int32))] M4)))))))))))
) : wX3_isCovered d Q 8 [some (.ref a0), some (.int a1), some (.int a2), some (.int a3), some (.int a4), o5] [] M := zseg (zCl_good gTb d) (fun j => j == 8 || j == 27) 24 h
set_option maxRecDepth 100000 in
set_option maxHeartbeats 4000000 in
/-- from place 27 -/
theorem sg_X3_isCovered_27 {d : Nat} {Q : List Value → zM → Prop} (a0 : Nat) (o1 : Option Value) (o2 : Option Value) (a3 : Int32) (a4 : Int32) (o5 : Option Value) (M : zM) (h :
(zsh M a0).1 = 12 ∧ (((zI M a0 2) ≤ a4 → (zb ((0 : Int32)) ∧ (Q [.int ((0 : Int32))] M))) ∧ (¬ ((zI M a0 2) ≤ a4) → ((zsh M a0).1 = 12 ∧ ((zsh M (zR M a0 1)).1 = 6 ∧ (zin a4 (zsh M (zR M a0 1)).2 ∧ ((zsh M (zR M (zR M a0 1) a4.toNatClampNeg)).1 = 11 ∧ (ycI d nX1_leading [.ref (zR M (zR M a0 1) a4.toNatClampNeg)] M fun c2 M1 => ((c2 = a3 → (let v4_3 : Int32 := a4 + 1
wX3_isCovered d Q 27 [some (.ref a0), o1, o2, some (.int a3), some (.int v4_3), some (.int c2)] [] M1)) ∧ (¬ (c2 = a3) → (ycI d nX4_divides [.int c2, .int a3] M1 fun c5 M4 => ((c5 = 0 → (let v4_6 : Int32 := a4 + 1
wX3_isCovered d Q 27 [some (.ref a0), o1, o2, some (.int a3), some (.int v4_6), some (.int c2)] [] M4)) ∧ (¬ (c5 = 0) → (zb ((1 : Int32)) ∧ (Q [.int ((1 : Int32))] M4))))))))))))))
) : wX3_isCovered d Q 27 [some (.ref a0), o1, o2, some (.int a3), some (.int a4), o5] [] M := zseg (zCl_good gTb d) (fun j => j == 8 || j == 27) 30 h
abbrev wX3_sortElements (d : Nat) (Q : List Value → zM → Prop) : Nat → zLv → List Value → zM → Prop := zW (zCl gTb d) 0 kX3_sortElements Q
theorem en_X3_sortElements {d : Nat} {Q : List Value → zM → Prop} (a0 : Nat) (M : zM) (h : wX3_sortElements d Q 0 [some (.ref a0), none, none, none, none] [] M) : zCl gTb (d + 1) nX3_sortElements [.ref a0] M Q := ⟨Nat.le_of_ble_eq_true rfl, h⟩
set_option maxRecDepth 100000 in
set_option maxHeartbeats 4000000 in
/-- from place 0 -/
theorem sg_X3_sortElements_0 {d : Nat} {Q : List Value → zM → Prop} (a0 : Nat) (M : zM) (h :
wX3_sortElements d Q 2 [some (.ref a0), some (.int ((1 : Int32))), none, none, none] [] M
) : wX3_sortElements d Q 0 [some (.ref a0), none, none, none, none] [] M := zseg (zCl_good gTb d) (fun j => j == 2 || j == 19) 7 h
set_option maxRecDepth 100000 in
set_option maxHeartbeats 4000000 in
/-- from place 2 -/
theorem sg_X3_sortElements_2 {d : Nat} {Q : List Value → zM → Prop} (a0 : Nat) (a1 : Int32) (o2 : Option Value) (o3 : Option Value) (o4 : Option Value) (M : zM) (h :
(zsh M a0).1 = 12 ∧ (((zI M a0 2) ≤ a1 → (Q [] M)) ∧ (¬ ((zI M a0 2) ≤ a1) → ((zsh M a0).1 = 12 ∧ ((zsh M (zR M a0 1)).1 = 6 ∧ (zin a1 (zsh M (zR M a0 1)).2 ∧ (let r2_1 : Nat := zR M (zR M a0 1) a1.toNatClampNeg
(zsh M a0).1 = 12 ∧ ((zsh M r2_1).1 = 11 ∧ (ycI d nX1_leading [.ref r2_1] M fun c3 M2 => ((zsh M2 (zR M a0 0)).1 = 13 ∧ (ycI d nX5_rank [.ref (zR M a0 0), .int c3] M2 fun c5 M4 => (wX3_sortElements d Q 19 [some (.ref a0), some (.int a1), some (.ref r2_1), some (.int c5), some (.int a1)] [] M4)))))))))))
) : wX3_sortElements d Q 2 [some (.ref a0), some (.int a1), o2, o3, o4] [] M := zseg (zCl_good gTb d) (fun j => j == 2 || j == 19) 23 h
set_option maxRecDepth 100000 in
set_option maxHeartbeats 4000000 in
/-- from place 19 -/
theorem sg_X3_sortElements_19 {d : Nat} {Q : List Value → zM → Prop} (a0 : Nat) (a1 : Int32) (a2 : Nat) (a3 : Int32) (a4 : Int32) (M : zM) (h :
(a4 ≤ 0 → ((zsh M a0).1 = 12 ∧ ((zsh M (zR M a0 1)).1 = 6 ∧ (zin a4 (zsh M (zR M a0 1)).2 ∧ ((zsh M a2).1 = 11 ∧ (let M1 : zM := zuR M (zR M a0 1) a4.toNatClampNeg a2
let v1_2 : Int32 := a1 + 1
wX3_sortElements d Q 2 [some (.ref a0), some (.int v1_2), some (.ref a2), some (.int a3), some (.int a4)] [] M1)))))) ∧ (¬ (a4 ≤ 0) → ((zsh M a0).1 = 12 ∧ ((zsh M a0).1 = 12 ∧ ((zsh M (zR M a0 1)).1 = 6 ∧ (zin (a4 - ((1 : Int32))) (zsh M (zR M a0 1)).2 ∧ ((zsh M (zR M (zR M a0 1) (a4 - ((1 : Int32))).toNatClampNeg)).1 = 11 ∧ (ycI d nX1_leading [.ref (zR M (zR M a0 1) (a4 - ((1 : Int32))).toNatClampNeg)] M fun c4 M3 => ((zsh M3 (zR M a0 0)).1 = 13 ∧ (ycI d nX5_rank [.ref (zR M a0 0), .int c4] M3 fun c6 M5 => ((c6 ≤ a3 → ((zsh M5 a0).1 = 12 ∧ ((zsh M5 (zR M5 a0 1)).1 = 6 ∧ (zin a4 (zsh M5 (zR M5 a0 1)).2 ∧ ((zsh M5 a2).1 = 11 ∧ (let M7 : zM := zuR M5 (zR M5 a0 1) a4.toNatClampNeg a2
let v1_8 : Int32 := a1 + 1
wX3_sortElements d Q 2 [some (.ref a0), some (.int v1_8), some (.ref a2), some (.int a3), some (.int a4)] [] M7)))))) ∧ (¬ (c6 ≤ a3) → ((zsh M5 a0).1 = 12 ∧ ((zsh M5 a0).1 = 12 ∧ ((zsh M5 (zR M5 a0 1)).1 = 6 ∧ (zin (a4 - ((1 : Int32))) (zsh M5 (zR M5 a0 1)).2 ∧ ((zsh M5 (zR M5 a0 1)).1 = 6 ∧ (zin a4 (zsh M5 (zR M5 a0 1)).2 ∧ ((zsh M5 (zR M5 (zR M5 a0 1) (a4 - ((1 : Int32))).toNatClampNeg)).1 = 11 ∧ (let M9 : zM := zuR M5 (zR M5 a0 1) a4.toNatClampNeg (zR M5 (zR M5 a0 1) (a4 - ((1 : Int32))).toNatClampNeg)
let v4_10 : Int32 := a4 + (-1)
wX3_sortElements d Q 19 [some (.ref a0), some (.int a1), some (.ref a2), some (.int a3), some (.int v4_10)] [] M9)))))))))))))))))))
) : wX3_sortElements d Q 19 [some (.ref a0), some (.int a1), some (.ref a2), some (.int a3), some (.int a4)] [] M := zseg (zCl_good gTb d) (fun j => j == 2 || j == 19) 45 h
abbrev wX3_reduceElement (d : Nat) (Q : List Value → zM → Prop) : Nat → zLv → List Value → zM → Prop := zW (zCl gTb d) 1 kX3_reduceElement Q
theorem en_X3_reduceElement {d : Nat} {Q : List Value → zM → Prop} (a0 : Nat) (a1 : Int32) (a2 : Nat) (M : zM) (h : wX3_reduceElement d Q 0 [some (.ref a0), some (.int a1), some (.ref a2), none, none, none] [] M) : zCl gTb (d + 1) nX3_reduceElement [.ref a0, .int a1, .ref a2] M Q := ⟨Nat.le_of_ble_eq_true rfl, h⟩
set_option maxRecDepth 100000 in
set_option maxHeartbeats 4000000 in
/-- from place 0 -/
theorem sg_X3_reduceElement_0 {d : Nat} {Q : List Value → zM → Prop} (a0 : Nat) (a1 : Int32) (a2 : Nat) (M : zM) (h :
(zsh M a0).1 = 12 ∧ ((zsh M (zR M a0 1)).1 = 6 ∧ (zin a1 (zsh M (zR M a0 1)).2 ∧ (let r3_1 : Nat := zR M (zR M a0 1) a1.toNatClampNeg
(zsh M r3_1).1 = 11 ∧ (ycI d nX1_leading [.ref r3_1] M fun c3 M2 => ((zsh M2 a0).1 = 12 ∧ ((zsh M2 a2).1 = 10 ∧ (ycV d nX0_makeReady [.ref a2, .int (zI M2 a0 2)] M2 fun M4 => ((zsh M4 a2).1 = 10 ∧ ((zsh M4 r3_1).1 = 11 ∧ ((zsh M4 (zR M4 a2 0)).1 = 14 ∧ (ycV d nX6_become [.ref (zR M4 a2 0), .ref (zR M4 r3_1 0)] M4 fun M5 => ((zsh M5 a2).1 = 10 ∧ ((zsh M5 (zR M5 a2 0)).1 = 14 ∧ (ycV d nX6_behead [.ref (zR M5 a2 0)] M5 fun M6 => ((zsh M6 a0).1 = 12 ∧ ((zsh M6 a0).1 = 12 ∧ ((zsh M6 a2).1 = 10 ∧ (ycI d nX0_run [.ref a2, .ref (zR M6 a0 1), .int (zI M6 a0 2), .int a1] M6 fun c8 M7 => ((c8 = 0 → ((zsh M7 a0).1 = 12 ∧ (ycI d nX3_takeQuotients [.ref a0, .ref r3_1, .ref a2] M7 fun c10 M9 => ((¬ c10 = 0 → ((zsh M9 r3_1).1 = 11 ∧ ((zsh M9 a2).1 = 10 ∧ ((zsh M9 (zR M9 r3_1 0)).1 = 14 ∧ (ycV d nX6_become [.ref (zR M9 r3_1 0), .ref (zR M9 a2 1)] M9 fun M11 => ((zsh M11 r3_1).1 = 11 ∧ ((zsh M11 (zR M11 r3_1 0)).1 = 14 ∧ (ycI d nX6_come [.ref (zR M11 r3_1 0), .long ((4294967297 : Int64)), .int c3] M11 fun c13 M12 => ((c13 = 0 → (Q [.int (((-7) : Int32))] M12)) ∧ (¬ (c13 = 0) → (Q [.int ((0 : Int32))] M12))))))))))) ∧ (¬ (¬ c10 = 0) → (Q [.int (((-7) : Int32))] M9)))))) ∧ (¬ (c8 = 0) → (Q [.int c8] M7)))))))))))))))))))))
) : wX3_reduceElement d Q 0 [some (.ref a0), some (.int a1), some (.ref a2), none, none, none] [] M := zseg (zCl_good gTb d) (fun _ => false) 60 h
abbrev wX3_build (d : Nat) (Q : List Value → zM → Prop) : Nat → zLv → List Value → zM → Prop := zW (zCl gTb d) 1 kX3_build Q
theorem en_X3_build {d : Nat} {Q : List Value → zM → Prop} (a0 : Nat) (a1 : Nat) (a2 : Int32) (a3 : Int32) (a4 : Nat) (a5 : Int32) (M : zM) (h : wX3_build d Q 0 [some (.ref a0), some (.ref a1), some (.int a2), some (.int a3), some (.ref a4), some (.int a5), none, none] [] M) : zCl gTb (d + 1) nX3_build [.ref a0, .ref a1, .int a2, .int a3, .ref a4, .int a5] M Q := ⟨Nat.le_of_ble_eq_true rfl, h⟩
set_option maxRecDepth 100000 in
set_option maxHeartbeats 4000000 in
/-- from place 0 -/
theorem sg_X3_build_0 {d : Nat} {Q : List Value → zM → Prop} (a0 : Nat) (a1 : Nat) (a2 : Int32) (a3 : Int32) (a4 : Nat) (a5 : Int32) (M : zM) (h :
(zsh M a0).1 = 12 ∧ (ycV d nX3_begin [.ref a0, .int a3] M fun M1 => ((zsh M1 a4).1 = 10 ∧ (ycV d nX0_allow [.ref a4, .int a5] M1 fun M2 => ((zsh M2 a0).1 = 12 ∧ (ycI d nX3_adopt [.ref a0, .ref a1, .int a2] M2 fun c4 M3 => (wX3_build d Q 13 [some (.ref a0), some (.ref a1), some (.int a2), some (.int a3), some (.ref a4), some (.int a5), some (.int c4), some (.int ((0 : Int32)))] [] M3))))))
) : wX3_build d Q 0 [some (.ref a0), some (.ref a1), some (.int a2), some (.int a3), some (.ref a4), some (.int a5), none, none] [] M := zseg (zCl_good gTb d) (fun j => j == 13 || j == 39) 18 h
set_option maxRecDepth 100000 in
set_option maxHeartbeats 4000000 in
/-- from place 13 -/
theorem sg_X3_build_13 {d : Nat} {Q : List Value → zM → Prop} (a0 : Nat) (o1 : Option Value) (o2 : Option Value) (o3 : Option Value) (a4 : Nat) (o5 : Option Value) (a6 : Int32) (a7 : Int32) (M : zM) (h :
(((276 : Int32)) ≤ a7 → ((zsh M a0).1 = 12 ∧ ((zsh M a0).1 = 12 ∧ (let M1 : zM := zuI M a0 6 (zI M a0 2)
(¬ a6 = 0 → (wX3_build d Q 39 [some (.ref a0), o1, o2, o3, some (.ref a4), o5, some (.int a6), some (.int ((0 : Int32)))] [] M1)) ∧ (¬ (¬ a6 = 0) → ((zsh M a0).1 = 12 ∧ (ycV d nX3_dropNeedless [.ref a0] M1 fun M2 => ((zsh M2 a0).1 = 12 ∧ (ycV d nX3_sortElements [.ref a0] M2 fun M3 => (wX3_build d Q 39 [some (.ref a0), o1, o2, o3, some (.ref a4), o5, some (.int a6), some (.int ((0 : Int32)))] [] M3)))))))))) ∧ (¬ (((276 : Int32)) ≤ a7) → ((¬ a6 = 0 → ((zsh M a0).1 = 12 ∧ ((zsh M a0).1 = 12 ∧ (let M4 : zM := zuI M a0 6 (zI M a0 2)
(¬ a6 = 0 → (wX3_build d Q 39 [some (.ref a0), o1, o2, o3, some (.ref a4), o5, some (.int a6), some (.int ((0 : Int32)))] [] M4)) ∧ (¬ (¬ a6 = 0) → ((zsh M a0).1 = 12 ∧ (ycV d nX3_dropNeedless [.ref a0] M4 fun M5 => ((zsh M5 a0).1 = 12 ∧ (ycV d nX3_sortElements [.ref a0] M5 fun M6 => (wX3_build d Q 39 [some (.ref a0), o1, o2, o3, some (.ref a4), o5, some (.int a6), some (.int ((0 : Int32)))] [] M6)))))))))) ∧ (¬ (¬ a6 = 0) → ((zsh M a0).1 = 12 ∧ (ycI d nX3_choosePair [.ref a0] M fun c8 M7 => ((c8 = 0 → ((zsh M7 a0).1 = 12 ∧ ((zsh M7 a0).1 = 12 ∧ (let M9 : zM := zuI M7 a0 6 (zI M7 a0 2)
(¬ a6 = 0 → (wX3_build d Q 39 [some (.ref a0), o1, o2, o3, some (.ref a4), o5, some (.int a6), some (.int ((0 : Int32)))] [] M9)) ∧ (¬ (¬ a6 = 0) → ((zsh M7 a0).1 = 12 ∧ (ycV d nX3_dropNeedless [.ref a0] M9 fun M10 => ((zsh M10 a0).1 = 12 ∧ (ycV d nX3_sortElements [.ref a0] M10 fun M11 => (wX3_build d Q 39 [some (.ref a0), o1, o2, o3, some (.ref a4), o5, some (.int a6), some (.int ((0 : Int32)))] [] M11)))))))))) ∧ (¬ (c8 = 0) → ((zsh M7 a0).1 = 12 ∧ (ycI d nX3_settlePair [.ref a0, .ref a4] M7 fun c13 M12 => (let v7_14 : Int32 := a7 + 1
wX3_build d Q 13 [some (.ref a0), o1, o2, o3, some (.ref a4), zwipe o5, some (.int c13), some (.int v7_14)] [] M12))))))))))
) : wX3_build d Q 13 [some (.ref a0), o1, o2, o3, some (.ref a4), o5, some (.int a6), some (.int a7)] [] M := zseg (zCl_good gTb d) (fun j => j == 13 || j == 39) 61 h
set_option maxRecDepth 100000 in
set_option maxHeartbeats 4000000 in
/-- from place 39 -/
theorem sg_X3_build_39 {d : Nat} {Q : List Value → zM → Prop} (a0 : Nat) (o1 : Option Value) (o2 : Option Value) (o3 : Option Value) (a4 : Nat) (o5 : Option Value) (a6 : Int32) (a7 : Int32) (M : zM) (h :
(zsh M a0).1 = 12 ∧ (((zI M a0 2) ≤ a7 → ((zsh M a4).1 = 10 ∧ ((zsh M a0).1 = 12 ∧ (let M1 : zM := zuI M a0 3 (zI M a4 3)
Q [.int a6] M1)))) ∧ (¬ ((zI M a0 2) ≤ a7) → ((¬ a6 = 0 → ((zsh M a4).1 = 10 ∧ ((zsh M a0).1 = 12 ∧ (let M2 : zM := zuI M a0 3 (zI M a4 3)
Q [.int a6] M2)))) ∧ (¬ (¬ a6 = 0) → ((zsh M a0).1 = 12 ∧ (ycI d nX3_reduceElement [.ref a0, .int a7, .ref a4] M fun c4 M3 => (let v7_5 : Int32 := a7 + 1
wX3_build d Q 39 [some (.ref a0), o1, o2, o3, some (.ref a4), zwipe o5, some (.int c4), some (.int v7_5)] [] M3)))))))
) : wX3_build d Q 39 [some (.ref a0), o1, o2, o3, some (.ref a4), o5, some (.int a6), some (.int a7)] [] M := zseg (zCl_good gTb d) (fun j => j == 13 || j == 39) 30 h
abbrev wX3_isWhole (d : Nat) (Q : List Value → zM → Prop) : Nat → zLv → List Value → zM → Prop := zW (zCl gTb d) 2 kX3_isWhole Q
theorem en_X3_isWhole {d : Nat} {Q : List Value → zM → Prop} (a0 : Nat) (M : zM) (h : wX3_isWhole d Q 0 [some (.ref a0)] [] M) : zCl gTb (d + 1) nX3_isWhole [.ref a0] M Q := ⟨Nat.le_of_ble_eq_true rfl, h⟩
set_option maxRecDepth 100000 in
set_option maxHeartbeats 4000000 in
/-- from place 0 -/
theorem sg_X3_isWhole_0 {d : Nat} {Q : List Value → zM → Prop} (a0 : Nat) (M : zM) (h :
(zsh M a0).1 = 12 ∧ ((¬ (zI M a0 2) = ((1 : Int32)) → (zb ((0 : Int32)) ∧ (Q [.int ((0 : Int32))] M))) ∧ (¬ (¬ (zI M a0 2) = ((1 : Int32))) → ((zsh M a0).1 = 12 ∧ ((zsh M (zR M a0 1)).1 = 6 ∧ (zin ((0 : Int32)) (zsh M (zR M a0 1)).2 ∧ ((zsh M (zR M (zR M a0 1) ((0 : Int32)).toNatClampNeg)).1 = 11 ∧ (ycI d nX1_leading [.ref (zR M (zR M a0 1) ((0 : Int32)).toNatClampNeg)] M fun c2 M1 => ((¬ c2 = 0 → (zb ((0 : Int32)) ∧ (Q [.int ((0 : Int32))] M1))) ∧ (¬ (¬ c2 = 0) → (zb ((1 : Int32)) ∧ (Q [.int ((1 : Int32))] M1)))))))))))
) : wX3_isWhole d Q 0 [some (.ref a0)] [] M := zseg (zCl_good gTb d) (fun _ => false) 22 h
abbrev wX3_wall (d : Nat) (Q : List Value → zM → Prop) : Nat → zLv → List Value → zM → Prop := zW (zCl gTb d) 1 kX3_wall Q
theorem en_X3_wall {d : Nat} {Q : List Value → zM → Prop} (a0 : Nat) (a1 : Int32) (a2 : Int32) (M : zM) (h : wX3_wall d Q 0 [some (.ref a0), some (.int a1), some (.int a2), none, none, none, none] [] M) : zCl gTb (d + 1) nX3_wall [.ref a0, .int a1, .int a2] M Q := ⟨Nat.le_of_ble_eq_true rfl, h⟩
set_option maxRecDepth 100000 in
set_option maxHeartbeats 4000000 in
/-- from place 0 -/
theorem sg_X3_wall_0 {d : Nat} {Q : List Value → zM → Prop} (a0 : Nat) (a1 : Int32) (a2 : Int32) (M : zM) (h :
(a1 < a2 → (let v3_1 : Int32 := ((-1) : Int32)
wX3_wall d Q 9 [some (.ref a0), some (.int a1), some (.int a2), some (.int v3_1), some (.int ((0 : Int32))), none, none] [] M)) ∧ (¬ (a1 < a2) → (Q [.int ((1 : Int32))] M))
) : wX3_wall d Q 0 [some (.ref a0), some (.int a1), some (.int a2), none, none, none, none] [] M := zseg (zCl_good gTb d) (fun j => j == 9) 14 h
set_option maxRecDepth 100000 in
set_option maxHeartbeats 4000000 in
/-- from place 9 -/
theorem sg_X3_wall_9 {d : Nat} {Q : List Value → zM → Prop} (a0 : Nat) (a1 : Int32) (o2 : Option Value) (a3 : Int32) (a4 : Int32) (o5 : Option Value) (o6 : Option Value) (M : zM) (h :
(zsh M a0).1 = 12 ∧ (((zI M a0 2) ≤ a4 → (Q [.int a3] M)) ∧ (¬ ((zI M a0 2) ≤ a4) → ((zsh M a0).1 = 12 ∧ ((zsh M (zR M a0 1)).1 = 6 ∧ (zin a4 (zsh M (zR M a0 1)).2 ∧ ((zsh M (zR M (zR M a0 1) a4.toNatClampNeg)).1 = 11 ∧ (ycI d nX1_leading [.ref (zR M (zR M a0 1) a4.toNatClampNeg)] M fun c2 M1 => (ycI d nX4_exponent [.int c2, .int a1] M1 fun c4 M3 => ((¬ c2 = (c4 <<< ((((8 : Int32)) * a1) &&& 31)) → (let v4_5 : Int32 := a4 + 1
wX3_wall d Q 9 [some (.ref a0), some (.int a1), o2, some (.int a3), some (.int v4_5), some (.int c2), some (.int c4)] [] M3)) ∧ (¬ (¬ c2 = (c4 <<< ((((8 : Int32)) * a1) &&& 31))) → ((a3 < 0 → (let v4_6 : Int32 := a4 + 1
wX3_wall d Q 9 [some (.ref a0), some (.int a1), zwipe o2, some (.int c4), some (.int v4_6), some (.int c2), some (.int c4)] [] M3)) ∧ (¬ (a3 < 0) → ((a3 ≤ c4 → (let v4_7 : Int32 := a4 + 1
wX3_wall d Q 9 [some (.ref a0), some (.int a1), o2, some (.int a3), some (.int v4_7), some (.int c2), some (.int c4)] [] M3)) ∧ (¬ (a3 ≤ c4) → (let v4_8 : Int32 := a4 + 1
wX3_wall d Q 9 [some (.ref a0), some (.int a1), zwipe o2, some (.int c4), some (.int v4_8), some (.int c2), some (.int c4)] [] M3)))))))))))))))
) : wX3_wall d Q 9 [some (.ref a0), some (.int a1), o2, some (.int a3), some (.int a4), o5, o6] [] M := zseg (zCl_good gTb d) (fun j => j == 9) 45 h
abbrev wX3_height (d : Nat) (Q : List Value → zM → Prop) : Nat → zLv → List Value → zM → Prop := zW (zCl gTb d) 1 kX3_height Q
theorem en_X3_height {d : Nat} {Q : List Value → zM → Prop} (a0 : Nat) (a1 : Int32) (a2 : Int32) (M : zM) (h : wX3_height d Q 0 [some (.ref a0), some (.int a1), some (.int a2), none, none, none] [] M) : zCl gTb (d + 1) nX3_height [.ref a0, .int a1, .int a2] M Q := ⟨Nat.le_of_ble_eq_true rfl, h⟩
set_option maxRecDepth 100000 in
set_option maxHeartbeats 4000000 in
/-- from place 0 -/
theorem sg_X3_height_0 {d : Nat} {Q : List Value → zM → Prop} (a0 : Nat) (a1 : Int32) (a2 : Int32) (M : zM) (h :
wX3_height d Q 4 [some (.ref a0), some (.int a1), some (.int a2), some (.int a2), some (.int ((0 : Int32))), none] [] M
) : wX3_height d Q 0 [some (.ref a0), some (.int a1), some (.int a2), none, none, none] [] M := zseg (zCl_good gTb d) (fun j => j == 4) 9 h
set_option maxRecDepth 100000 in
set_option maxHeartbeats 4000000 in
/-- from place 4 -/
theorem sg_X3_height_4 {d : Nat} {Q : List Value → zM → Prop} (a0 : Nat) (a1 : Int32) (o2 : Option Value) (a3 : Int32) (a4 : Int32) (o5 : Option Value) (M : zM) (h :
(zsh M a0).1 = 12 ∧ (((zI M a0 2) ≤ a4 → (Q [.int a3] M)) ∧ (¬ ((zI M a0 2) ≤ a4) → ((zsh M a0).1 = 12 ∧ ((zsh M (zR M a0 1)).1 = 6 ∧ (zin a4 (zsh M (zR M a0 1)).2 ∧ ((zsh M (zR M (zR M a0 1) a4.toNatClampNeg)).1 = 11 ∧ (ycI d nX1_leading [.ref (zR M (zR M a0 1) a4.toNatClampNeg)] M fun c2 M1 => (ycI d nX4_divides [.int (c2 &&& ((16777215 : Int32))), .int a1] M1 fun c4 M3 => ((c4 = 0 → (let v4_5 : Int32 := a4 + 1
wX3_height d Q 4 [some (.ref a0), some (.int a1), o2, some (.int a3), some (.int v4_5), some (.int c2)] [] M3)) ∧ (¬ (c4 = 0) → (ycI d nX4_exponent [.int c2, .int ((3 : Int32))] M3 fun c7 M6 => (let v3_8 : Int32 := if c7 < a3 then c7 else a3
let v4_9 : Int32 := a4 + 1
wX3_height d Q 4 [some (.ref a0), some (.int a1), zwipe o2, some (.int v3_8), some (.int v4_9), some (.int c2)] [] M6))))))))))))
) : wX3_height d Q 4 [some (.ref a0), some (.int a1), o2, some (.int a3), some (.int a4), o5] [] M := zseg (zCl_good gTb d) (fun j => j == 4) 33 h
abbrev wX3_countBelow (d : Nat) (Q : List Value → zM → Prop) : Nat → zLv → List Value → zM → Prop := zW (zCl gTb d) 1 kX3_countBelow Q
theorem en_X3_countBelow {d : Nat} {Q : List Value → zM → Prop} (a0 : Nat) (a1 : Int32) (M : zM) (h : wX3_countBelow d Q 0 [some (.ref a0), some (.int a1), none, none, none, none, none, none, none, none] [] M) : zCl gTb (d + 1) nX3_countBelow [.ref a0, .int a1] M Q := ⟨Nat.le_of_ble_eq_true rfl, h⟩
set_option maxRecDepth 100000 in
set_option maxHeartbeats 4000000 in
/-- from place 0 -/
theorem sg_X3_countBelow_0 {d : Nat} {Q : List Value → zM → Prop} (a0 : Nat) (a1 : Int32) (M : zM) (h :
(zsh M a0).1 = 12 ∧ (ycI d nX3_wall [.ref a0, .int ((0 : Int32)), .int a1] M fun c2 M1 => ((zsh M1 a0).1 = 12 ∧ (ycI d nX3_wall [.ref a0, .int ((1 : Int32)), .int a1] M1 fun c4 M3 => ((zsh M3 a0).1 = 12 ∧ (ycI d nX3_wall [.ref a0, .int ((2 : Int32)), .int a1] M3 fun c6 M5 => ((zsh M5 a0).1 = 12 ∧ (ycI d nX3_wall [.ref a0, .int ((3 : Int32)), .int a1] M5 fun c8 M7 => ((c2 < 0 → (Q [.int (((-8) : Int32))] M7)) ∧ (¬ (c2 < 0) → ((c4 < 0 → (Q [.int (((-8) : Int32))] M7)) ∧ (¬ (c4 < 0) → ((c6 < 0 → (Q [.int (((-8) : Int32))] M7)) ∧ (¬ (c6 < 0) → ((0 ≤ c8 → (wX3_countBelow d Q 34 [some (.ref a0), some (.int a1), some (.int c2), some (.int c4), some (.int c6), some (.int c8), some (.int ((0 : Int32))), some (.int ((0 : Int32))), none, none] [] M7)) ∧ (¬ (0 ≤ c8) → (Q [.int (((-8) : Int32))] M7))))))))))))))))
) : wX3_countBelow d Q 0 [some (.ref a0), some (.int a1), none, none, none, none, none, none, none, none] [] M := zseg (zCl_good gTb d) (fun j => j == 34 || j == 39 || j == 44) 45 h
set_option maxRecDepth 100000 in
set_option maxHeartbeats 4000000 in
/-- from place 34 -/
theorem sg_X3_countBelow_34 {d : Nat} {Q : List Value → zM → Prop} (a0 : Nat) (o1 : Option Value) (a2 : Int32) (a3 : Int32) (a4 : Int32) (a5 : Int32) (a6 : Int32) (a7 : Int32) (o8 : Option Value) (o9 : Option Value) (M : zM) (h :
(a2 ≤ a7 → (Q [.int a6] M)) ∧ (¬ (a2 ≤ a7) → (wX3_countBelow d Q 39 [some (.ref a0), o1, some (.int a2), some (.int a3), some (.int a4), some (.int a5), some (.int a6), some (.int a7), some (.int ((0 : Int32))), o9] [] M))
) : wX3_countBelow d Q 34 [some (.ref a0), o1, some (.int a2), some (.int a3), some (.int a4), some (.int a5), some (.int a6), some (.int a7), o8, o9] [] M := zseg (zCl_good gTb d) (fun j => j == 34 || j == 39 || j == 44) 12 h
set_option maxRecDepth 100000 in
set_option maxHeartbeats 4000000 in
/-- from place 39 -/
theorem sg_X3_countBelow_39 {d : Nat} {Q : List Value → zM → Prop} (a0 : Nat) (o1 : Option Value) (a2 : Int32) (a3 : Int32) (a4 : Int32) (a5 : Int32) (a6 : Int32) (a7 : Int32) (a8 : Int32) (o9 : Option Value) (M : zM) (h :
(a3 ≤ a8 → (let v7_1 : Int32 := a7 + 1
wX3_countBelow d Q 34 [some (.ref a0), o1, some (.int a2), some (.int a3), some (.int a4), some (.int a5), some (.int a6), some (.int v7_1), some (.int a8), o9] [] M)) ∧ (¬ (a3 ≤ a8) → (wX3_countBelow d Q 44 [some (.ref a0), o1, some (.int a2), some (.int a3), some (.int a4), some (.int a5), some (.int a6), some (.int a7), some (.int a8), some (.int ((0 : Int32)))] [] M))
) : wX3_countBelow d Q 39 [some (.ref a0), o1, some (.int a2), some (.int a3), some (.int a4), some (.int a5), some (.int a6), some (.int a7), some (.int a8), o9] [] M := zseg (zCl_good gTb d) (fun j => j == 34 || j == 39 || j == 44) 12 h
set_option maxRecDepth 100000 in
set_option maxHeartbeats 4000000 in
/-- from place 44 -/
theorem sg_X3_countBelow_44 {d : Nat} {Q : List Value → zM → Prop} (a0 : Nat) (o1 : Option Value) (a2 : Int32) (a3 : Int32) (a4 : Int32) (a5 : Int32) (a6 : Int32) (a7 : Int32) (a8 : Int32) (a9 : Int32) (M : zM) (h :
(a4 ≤ a9 → (let v8_1 : Int32 := a8 + 1
wX3_countBelow d Q 39 [some (.ref a0), o1, some (.int a2), some (.int a3), some (.int a4), some (.int a5), some (.int a6), some (.int a7), some (.int v8_1), some (.int a9)] [] M)) ∧ (¬ (a4 ≤ a9) → ((zsh M a0).1 = 12 ∧ (ycI d nX3_height [.ref a0, .int ((a7 ||| (a8 <<< (((8 : Int32)) &&& 31))) ||| (a9 <<< (((16 : Int32)) &&& 31))), .int a5] M fun c3 M2 => (let v6_4 : Int32 := a6 + c3
let v9_5 : Int32 := a9 + 1
wX3_countBelow d Q 44 [some (.ref a0), o1, some (.int a2), some (.int a3), some (.int a4), some (.int a5), some (.int v6_4), some (.int a7), some (.int a8), some (.int v9_5)] [] M2))))
) : wX3_countBelow d Q 44 [some (.ref a0), o1, some (.int a2), some (.int a3), some (.int a4), some (.int a5), some (.int a6), some (.int a7), some (.int a8), some (.int a9)] [] M := zseg (zCl_good gTb d) (fun j => j == 34 || j == 39 || j == 44) 27 h
end
section
/-! THE DOCUMENT'S BASES: pairs, cofactors, cleaning, sorting, reducing -/
def omp (f : Nat → Option aP) : Nat → Option (List aP)
  | 0 => some []
  | n + 1 => match omp f n with
    | none => none
    | some l => match f n with
      | none => none
      | some c => some (l ++ [c])
theorem omp_s {f : Nat → Option aP} {n : Nat} : omp f (n + 1) = (match omp f n with
    | none => none
    | some l => match f n with
      | none => none
      | some c => some (l ++ [c])) := rfl
theorem omp_none {f : Nat → Option aP} {n : Nat} (h : omp f n = none) : ∀ {m : Nat}, n ≤ m → omp f m = none
  | 0, hm => by
    have : n = 0 := by omega
    subst this
    exact h
  | m + 1, hm => by
    by_cases e : n = m + 1
    · subst e; exact h
    · rw [omp_s, omp_none h (show n ≤ m by omega)]
theorem omp_len {f : Nat → Option aP} : ∀ {n : Nat} {l : List aP}, omp f n = some l → l.length = n
  | 0, l, h => by cases h; rfl
  | n + 1, l, h => by
    rw [omp_s] at h
    split at h
    · cases h
    · rename_i l' hl
      split at h
      · cases h
      · cases h
        rw [List.length_append, omp_len hl]
        rfl
theorem omp_at {f : Nat → Option aP} : ∀ {n : Nat} {l : List aP} {i : Nat}, omp f n = some l → i < n → f i = l[i]?
  | n + 1, l, i, h, hi => by
    rw [omp_s] at h
    split at h
    · cases h
    · rename_i l' hl
      split at h
      · cases h
      · rename_i c hc
        cases h
        have hll := omp_len hl
        by_cases e : i < n
        · rw [List.getElem?_append_left (by omega)]
          exact omp_at hl e
        · have : i = n := by omega
          subst this
          rw [List.getElem?_append_right (by omega), hll, Nat.sub_self, hc]
          rfl
/-- terms with the other sign, or as they are -/
def asg (s : Bool) (q : aP) : aP := cond s (q.map fun t => ((-t.1.1, t.1.2), t.2)) q
def acof (es : List aE) (e kk : Nat) : aP := (es.getD e ([], [])).2.getD kk []
/-- f, and the quotients (with a sign) TIMES one cofactor of each -/
def als (k : Nat) (s : Bool) (kk : Nat) (es : List aE) (qs : List aP) (f : aP) : Nat → Option aP
  | 0 => some f
  | e + 1 => match als k s kk es qs f e with
    | none => none
    | some f' => aprod k (acof es e kk) (asg s (qs.getD e [])) f'
theorem als_s {k : Nat} {s : Bool} {kk : Nat} {es : List aE} {qs : List aP} {f : aP} {e : Nat} : als k s kk es qs f (e + 1) = (match als k s kk es qs f e with
    | none => none
    | some f' => aprod k (acof es e kk) (asg s (qs.getD e [])) f') := rfl
theorem als_none {k : Nat} {s : Bool} {kk : Nat} {es : List aE} {qs : List aP} {f : aP} {n : Nat} (h : als k s kk es qs f n = none) : ∀ {m : Nat}, n ≤ m → als k s kk es qs f m = none
  | 0, hm => by
    have : n = 0 := by omega
    subst this
    exact h
  | m + 1, hm => by
    by_cases e : n = m + 1
    · subst e; exact h
    · rw [als_s, als_none h (show n ≤ m by omega)]
theorem asg_tok {s : Bool} {q : aP} (h : ∀ t ∈ q, tok t) : ∀ t ∈ asg s q, tok t := by
  cases s
  · exact h
  · intro t ht
    obtain ⟨u, hu, rfl⟩ := List.mem_map.mp (show t ∈ q.map _ from ht)
    obtain ⟨h1, h2, h3⟩ := h u hu
    exact ⟨fneg_ok h1, by dsimp only; omega, h3⟩
/-- a leading monomial -/
def ald (es : List aE) (i : Nat) : aM := lmon (es.getD i ([], [])).1
def apick (rk i j : Nat) (w : Bool) (b : Option (Nat × Nat × Nat)) : Option (Nat × Nat × Nat) := cond w (match b with
  | none => some (rk, i, j)
  | some x => if rk < x.1 then some (rk, i, j) else some x) b
def achI (rk : Nat → Nat → Nat) (W : Nat → Nat → Bool) (j : Nat) : Nat → Option (Nat × Nat × Nat) → Option (Nat × Nat × Nat)
  | 0, b => b
  | i + 1, b => apick (rk i j) i j (W i j) (achI rk W j i b)
def achJ (rk : Nat → Nat → Nat) (W : Nat → Nat → Bool) : Nat → Option (Nat × Nat × Nat)
  | 0 => none
  | j + 1 => achI rk W j j (achJ rk W j)
def arp (k : Nat) (es : List aE) (i j : Nat) : Nat := ark k (mlcm (ald es i) (ald es j))
/-- the pair whose turn it is -/
def achoose (k : Nat) (es : List aE) (W : Nat → Nat → Bool) : Option (Nat × Nat × Nat) := achJ (arp k es) W es.length
def woff (W : Nat → Nat → Bool) (l r : Nat) : Nat → Nat → Bool := fun i j => if i = l ∧ j = r then false else W i j
def won (W : Nat → Nat → Bool) (n : Nat) : Nat → Nat → Bool := fun i j => if j = n then true else W i j
def awt (W : Nat → Nat → Bool) (a b : Nat) : Bool := if a < b then W a b else W b a
def mapb (a b : aM) : Bool := decide ((a.1 = 0 ∨ b.1 = 0) ∧ (a.2.1 = 0 ∨ b.2.1 = 0) ∧ (a.2.2.1 = 0 ∨ b.2.2.1 = 0) ∧ (a.2.2.2 = 0 ∨ b.2.2.2 = 0))
theorem mapb_iff {a b : aM} : mapb a b = true ↔ mapart a b := decide_eq_true_iff
def anec (es : List aE) (W : Nat → Nat → Bool) (l r c : Nat) : Bool := c != l && (c != r && (mdv (ald es c) (mlcm (ald es l) (ald es r)) && (!awt W c l && !awt W c r)))
/-- PASSED OVER -/
def aneed (es : List aE) (W : Nat → Nat → Bool) (l r : Nat) : Bool := mapb (ald es l) (ald es r) || (List.range es.length).any fun c => anec es W l r c
def aspol (k : Nat) (A B : aE) (p q : aP) : Option aP := match aadds k (1, 1) (msub (mlcm (lmon A.1) (lmon B.1)) (lmon A.1)) p [] with
  | none => none
  | some f => aadds k (-1, 1) (msub (mlcm (lmon A.1) (lmon B.1)) (lmon B.1)) q f
def anew (k sh : Nat) (es : List aE) (qs : List aP) (rest : aP) (cs : List aP) : Option aE := if 24 ≤ es.length then none else match omp (fun kk => als k true kk es qs (cs.getD kk []) es.length) sh with
  | none => none
  | some cs' => amonic (rest, cs')
def aE0 : aE := ([], [])
/-- a pair SETTLED: code, elements, what waits, steps left, 1 if passed over -/
def asettle (k sh : Nat) (es : List aE) (W : Nat → Nat → Bool) (n l r : Nat) : Nat × List aE × (Nat → Nat → Bool) × Nat × Nat :=
  if aneed es (woff W l r) l r = true then (0, es, woff W l r, n, 1) else
  match aspol k (es.getD l aE0) (es.getD r aE0) (es.getD l aE0).1 (es.getD r aE0).1 with
  | none => (2, es, woff W l r, n, 0)
  | some f => match omp (fun kk => aspol k (es.getD l aE0) (es.getD r aE0) (acof es l kk) (acof es r kk)) sh with
    | none => (2, es, woff W l r, n, 0)
    | some cs => if (adiv k (es.map Prod.fst) none n f [] (List.replicate es.length [])).1 = 0 then
        (if (adiv k (es.map Prod.fst) none n f [] (List.replicate es.length [])).2.2.1.length = 0 then (0, es, woff W l r, (adiv k (es.map Prod.fst) none n f [] (List.replicate es.length [])).2.1, 0) else
          match anew k sh es (adiv k (es.map Prod.fst) none n f [] (List.replicate es.length [])).2.2.2 (adiv k (es.map Prod.fst) none n f [] (List.replicate es.length [])).2.2.1 cs with
          | none => (2, es, woff W l r, (adiv k (es.map Prod.fst) none n f [] (List.replicate es.length [])).2.1, 0)
          | some E => (0, es ++ [E], won (woff W l r) es.length, (adiv k (es.map Prod.fst) none n f [] (List.replicate es.length [])).2.1, 0))
      else ((adiv k (es.map Prod.fst) none n f [] (List.replicate es.length [])).1, es, woff W l r, (adiv k (es.map Prod.fst) none n f [] (List.replicate es.length [])).2.1, 0)
abbrev aS : Type := List aE × (Nat → Nat → Bool) × Nat × Nat × Nat
/-- pairs one after the other, so many at most: code, and elements, what waits, steps left, pairs taken, pairs passed over -/
def apairs (k sh : Nat) : Nat → aS → Nat × aS
  | 0, s => (0, s)
  | f + 1, s => match achoose k s.1 s.2.1 with
    | none => (0, s)
    | some x => if (asettle k sh s.1 s.2.1 s.2.2.1 x.2.1 x.2.2).1 = 0 then apairs k sh f ((asettle k sh s.1 s.2.1 s.2.2.1 x.2.1 x.2.2).2.1, (asettle k sh s.1 s.2.1 s.2.2.1 x.2.1 x.2.2).2.2.1, (asettle k sh s.1 s.2.1 s.2.2.1 x.2.1 x.2.2).2.2.2.1, s.2.2.2.1 + 1, s.2.2.2.2 + (asettle k sh s.1 s.2.1 s.2.2.1 x.2.1 x.2.2).2.2.2.2)
      else ((asettle k sh s.1 s.2.1 s.2.2.1 x.2.1 x.2.2).1, ((asettle k sh s.1 s.2.1 s.2.2.1 x.2.1 x.2.2).2.1, (asettle k sh s.1 s.2.1 s.2.2.1 x.2.1 x.2.2).2.2.1, (asettle k sh s.1 s.2.1 s.2.2.1 x.2.1 x.2.2).2.2.2.1, s.2.2.2.1 + 1, s.2.2.2.2 + (asettle k sh s.1 s.2.1 s.2.2.1 x.2.1 x.2.2).2.2.2.2))
/-- 1 for the generator itself, 0 for the others -/
def aunit (sh g : Nat) : List aP := (List.range sh).map fun kk => if kk = g then [((1, 1), mone)] else []
/-- the generators that are not 0, MADE MONIC -/
def aadopt (sh : Nat) (gens : List aP) : Nat → Nat × List aE × (Nat → Nat → Bool)
  | 0 => (0, [], fun _ _ => false)
  | g + 1 => if (aadopt sh gens g).1 = 0 ∧ (gens.getD g []).length ≠ 0 then (match amonic (gens.getD g [], aunit sh g) with
      | none => (2, (aadopt sh gens g).2)
      | some E => (0, (aadopt sh gens g).2.1 ++ [E], won (aadopt sh gens g).2.2 (aadopt sh gens g).2.1.length)) else aadopt sh gens g
/-- one that GOES -/
def agoes (es : List aE) (i : Nat) : Bool := (List.range es.length).any fun j => j != i && (mdv (ald es j) (ald es i) && (ald es j != ald es i || decide (j < i)))
def aclean (es : List aE) : Nat → List aE
  | 0 => []
  | i + 1 => if agoes es i = true then aclean es i else aclean es i ++ [es.getD i aE0]
def aescan (k r : Nat) (L : List aE) : Nat → Nat
  | 0 => 0
  | n + 1 => if r < ark k (ald L n) then aescan k r L n else n + 1
def aesrt (k : Nat) (es : List aE) : Nat → List aE
  | 0 => []
  | i + 1 => (aesrt k es i).insertIdx (aescan k (ark k (ald es i)) (aesrt k es i) i) (es.getD i aE0)
/-- one REDUCED by the others: code, elements, steps left -/
def ared (k sh : Nat) (es : List aE) (n i : Nat) : Nat × List aE × Nat :=
  if (adiv k (es.map Prod.fst) (some i) n (es.getD i aE0).1.tail [] (List.replicate es.length [])).1 = 0 then
    (match omp (fun kk => als k true kk es (adiv k (es.map Prod.fst) (some i) n (es.getD i aE0).1.tail [] (List.replicate es.length [])).2.2.2 (acof es i kk) es.length) sh with
    | none => (2, es, (adiv k (es.map Prod.fst) (some i) n (es.getD i aE0).1.tail [] (List.replicate es.length [])).2.1)
    | some cs => match acome k ((1, 1), ald es i) (adiv k (es.map Prod.fst) (some i) n (es.getD i aE0).1.tail [] (List.replicate es.length [])).2.2.1 with
      | none => (2, es, (adiv k (es.map Prod.fst) (some i) n (es.getD i aE0).1.tail [] (List.replicate es.length [])).2.1)
      | some b => (0, es.set i (b, cs), (adiv k (es.map Prod.fst) (some i) n (es.getD i aE0).1.tail [] (List.replicate es.length [])).2.1))
  else ((adiv k (es.map Prod.fst) (some i) n (es.getD i aE0).1.tail [] (List.replicate es.length [])).1, es, (adiv k (es.map Prod.fst) (some i) n (es.getD i aE0).1.tail [] (List.replicate es.length [])).2.1)
def areds (k sh : Nat) (es : List aE) (n : Nat) : Nat → Nat × List aE × Nat
  | 0 => (0, es, n)
  | i + 1 => if (areds k sh es n i).1 = 0 then ared k sh (areds k sh es n i).2.1 (areds k sh es n i).2.2 i else areds k sh es n i
def acsort (k : Nat) (es : List aE) : List aE := aesrt k (aclean es es.length) (aclean es es.length).length
def abld2 (k sh : Nat) (x : Nat × aS) : Nat × List aE × Nat := if x.1 = 0 then areds k sh (acsort k x.2.1) x.2.2.2.1 (acsort k x.2.1).length else (x.1, x.2.1, x.2.2.2.1)
def abld1 (k sh lim : Nat) (x : Nat × List aE × (Nat → Nat → Bool)) : Nat × aS := if x.1 = 0 then apairs k sh 276 (x.2.1, x.2.2, lim, 0, 0) else (x.1, x.2.1, x.2.2, lim, 0, 0)
/-- A BASIS: code, elements, steps left, pairs taken, pairs passed over, elements made -/
def abuild (k sh lim : Nat) (gens : List aP) : Nat × List aE × Nat × Nat × Nat × Nat :=
  ((abld2 k sh (abld1 k sh lim (aadopt sh gens gens.length))).1, (abld2 k sh (abld1 k sh lim (aadopt sh gens gens.length))).2.1, (abld2 k sh (abld1 k sh lim (aadopt sh gens gens.length))).2.2,
   (abld1 k sh lim (aadopt sh gens gens.length)).2.2.2.2.1, (abld1 k sh lim (aadopt sh gens gens.length)).2.2.2.2.2, (abld1 k sh lim (aadopt sh gens gens.length)).2.1.length)
/-! how memory holds the class's ideals -/
def iap (H w : Nat) (eid : Nat → Nat) : Prop := (∀ i, i < 25 → H + 2 ≤ eid i ∧ eid i + 6 + 4 * w ≤ H + 152 + 100 * w) ∧ ∀ i j, i < 25 → j < 25 → i ≠ j → eid i + 6 + 4 * w ≤ eid j ∨ eid j + 6 + 4 * w ≤ eid i
def ist (M : zM) (H o w : Nat) (eid : Nat → Nat) : Prop := ((zsh M H).1 = 12 ∧ zR M H 0 = o ∧ zR M H 1 = H + 1 ∧ zR M H 7 = H + 152 + 100 * w ∧ zsh M (H + 152 + 100 * w) = (2, 576)) ∧ rst M (H + 1) o w eid ∧ iap H w eid ∧ o < H ∧ w ≤ 8
def inI (H w a : Nat) : Prop := H ≤ a ∧ a < H + 153 + 100 * w
theorem ist_fr {S : Nat → Prop} {M M' : zM} {H o w : Nat} {eid : Nat → Nat} (h : zfr S M M') (hi : ist M H o w eid) : ist M' H o w eid := by
  obtain ⟨⟨h1, h2, h3, h4, h5⟩, h6, h7⟩ := hi
  exact ⟨⟨by rw [h.1]; exact h1, by rw [h.2.2.2.1]; exact h2, by rw [h.2.2.2.1]; exact h3, by rw [h.2.2.2.1]; exact h4, by rw [h.1]; exact h5⟩, rst_fr h h6, h7⟩
def icn (M : zM) (H sh n : Nat) : Prop := zI M H 2 = nI n ∧ zI M H 10 = nI sh ∧ n ≤ 24
def iel (M : zM) (eid : Nat → Nat) (k : Nat) (es : List aE) : Prop := ∀ (i : Nat) (E : aE), es[i]? = some E → edy M (eid i) k E
def iok (k sh : Nat) (es : List aE) : Prop := ∀ E ∈ es, eok k E ∧ E.1 ≠ [] ∧ E.2.length = sh
def iwt (M : zM) (H w k : Nat) (es : List aE) (W : Nat → Nat → Bool) : Prop := ∀ i j, i < j → j < es.length → zI M (H + 152 + 100 * w) (24 * j + i) = if W i j = true then nI (arp k es i j) else -1
theorem icn_fr {S : Nat → Prop} {M M' : zM} {H sh n : Nat} (h : zfr S M M') (hd : ¬ S H) (hc : icn M H sh n) : icn M' H sh n := by
  unfold icn at *
  rw [(h.2.2.2.2 H hd).1, (h.2.2.2.2 H hd).1]
  exact hc
theorem iwt_fr {S : Nat → Prop} {M M' : zM} {H w k : Nat} {es : List aE} {W : Nat → Nat → Bool} (h : zfr S M M') (hd : ¬ S (H + 152 + 100 * w)) (hc : iwt M H w k es W) : iwt M' H w k es W := fun i j hi hj => by
  rw [(h.2.2.2.2 _ hd).1]
  exact hc i j hi hj
theorem iel_fr {S : Nat → Prop} {M M' : zM} {H o w k sh : Nat} {eid : Nat → Nat} {es : List aE} (h : zfr S M M') (hi : ist M H o w eid) (hk : iok k sh es) (hsh : sh ≤ w) (hl : es.length ≤ 24) (hd : ∀ i, i < es.length → ∀ a, inE w (eid i) a → ¬ S a) (hE : iel M eid k es) : iel M' eid k es := fun i E hiE => by
  have hlt := (List.getElem?_eq_some_iff.mp hiE).1
  exact edy_fr h (by rw [(hk E (List.mem_of_getElem? hiE)).2.2]; exact hsh) (hd i hlt) (hE i E hiE)
theorem iok_lead {k sh : Nat} {es : List aE} (hk : iok k sh es) {i : Nat} (hi : i < es.length) : ∃ t l cs, es[i]? = some (t :: l, cs) ∧ ald es i = t.2 ∧ mok t.2 ∧ cs.length = sh ∧ eok k (t :: l, cs) := by
  have hu := List.getElem?_eq_getElem hi
  obtain ⟨h1, h2, h3⟩ := hk _ (List.getElem_mem hi)
  cases hE : es[i] with
  | mk b cs =>
    rw [hE] at h1 h2 h3 hu
    cases b with
    | nil => exact absurd rfl h2
    | cons t l =>
      refine ⟨t, l, cs, hu, ?_, (h1.1.1 t List.mem_cons_self).2.2, h3, h1⟩
      unfold ald
      rw [List.getD_eq_getElem?_getD, hu]
      rfl
theorem iok_mok {k sh : Nat} {es : List aE} (hk : iok k sh es) (i : Nat) : mok (ald es i) := by
  by_cases hi : i < es.length
  · obtain ⟨t, l, cs, h1, h2, h3, -⟩ := iok_lead hk hi
    rw [h2]; exact h3
  · unfold ald
    rw [List.getD_eq_getElem?_getD, List.getElem?_eq_none (by omega)]
    exact ⟨Nat.zero_le _, Nat.zero_le _, Nat.zero_le _, Nat.zero_le _⟩
/-- the leading monomial of an element in a row -/
theorem sp_ld {d H o w k sh : Nat} {M : zM} {eid : Nat → Nat} {es : List aE} {P : Int32 → zM → Prop} {i : Nat} (hd : 1 ≤ d) (hI : ist M H o w eid) (hE : iel M eid k es) (hk : iok k sh es) (hl : es.length ≤ 25) (hi : i < es.length) (h : P (e8 (ald es i)) M) : ycI d nX1_leading [.ref (eid i)] M P := by
  obtain ⟨t, l, cs, h1, h2, h3, -⟩ := iok_lead hk hi
  rw [h2] at h
  exact sp_leading hd (hI.2.1.2 i (by omega)).2 (hE i _ h1).1 h
theorem sp_begin {d H o w sh : Nat} {M : zM} {eid : Nat → Nat} {P : zM → Prop} (hd : 1 ≤ d) (hI : ist M H o w eid) (h : ∀ M', zfr (fun a => a = H) M M' → icn M' H sh 0 → zI M' H 4 = 0 → zI M' H 5 = 0 → P M') : ycV d nX3_begin [.ref H, .int (nI sh)] M P := by
  obtain ⟨d, rfl, he⟩ := dS hd
  have s := hI.1.1
  refine en_X3_begin _ _ M (sg_X3_begin_0 _ _ M ⟨s, ?_⟩)
  intro M1
  refine ⟨s, ?_⟩
  intro M2
  refine ⟨s, ?_⟩
  intro M3
  refine ⟨s, ?_⟩
  intro M4
  have f1 : zfr (fun a => a = H) M M1 := zfr_uI rfl
  have f2 : zfr (fun a => a = H) M1 M2 := zfr_uI rfl
  have f3 : zfr (fun a => a = H) M2 M3 := zfr_uI rfl
  have f4 : zfr (fun a => a = H) M3 M4 := zfr_uI rfl
  refine ⟨rfl, h M4 (zfr_tr f1 (zfr_tr f2 (zfr_tr f3 f4))) ⟨?_, ?_, by omega⟩ ?_ ?_⟩
  · show zI (zuI (zuI (zuI (zuI M H 10 (nI sh)) H 2 0) H 4 0) H 5 0) H 2 = 0
    rw [zI_uI, if_neg (by omega), zI_uI, if_neg (by omega), zI_uI, if_pos ⟨rfl, rfl⟩]
  · show zI (zuI (zuI (zuI (zuI M H 10 (nI sh)) H 2 0) H 4 0) H 5 0) H 10 = nI sh
    rw [zI_uI, if_neg (by omega), zI_uI, if_neg (by omega), zI_uI, if_neg (by omega), zI_uI, if_pos ⟨rfl, rfl⟩]
  · show zI (zuI (zuI (zuI (zuI M H 10 (nI sh)) H 2 0) H 4 0) H 5 0) H 4 = 0
    rw [zI_uI, if_neg (by omega), zI_uI, if_pos ⟨rfl, rfl⟩]
  · show zI (zuI (zuI (zuI (zuI M H 10 (nI sh)) H 2 0) H 4 0) H 5 0) H 5 = 0
    rw [zI_uI, if_pos ⟨rfl, rfl⟩]
theorem ald_app {es : List aE} {E : aE} {i : Nat} (hi : i < es.length) : ald (es ++ [E]) i = ald es i := by
  unfold ald
  rw [List.getD_eq_getElem?_getD, List.getD_eq_getElem?_getD, List.getElem?_append_left hi]
theorem iok_app {k sh : Nat} {es : List aE} {E : aE} (hk : iok k sh es) (h1 : eok k E) (h2 : E.1 ≠ []) (h3 : E.2.length = sh) : iok k sh (es ++ [E]) := fun x hx => by
  rcases List.mem_append.mp hx with hx | hx
  · exact hk x hx
  · rw [List.mem_singleton.mp hx]; exact ⟨h1, h2, h3⟩
theorem iel_app {M : zM} {eid : Nat → Nat} {k : Nat} {es : List aE} {E : aE} (hE : iel M eid k es) (h : edy M (eid es.length) k E) : iel M eid k (es ++ [E]) := fun i x hx => by
  by_cases hi : i < es.length
  · rw [List.getElem?_append_left hi] at hx
    exact hE i x hx
  · rw [List.getElem?_append_right (by omega)] at hx
    have hl := (List.getElem?_eq_some_iff.mp hx).1
    have hi2 : i = es.length := by simp at hl; omega
    subst hi2
    rw [Nat.sub_self] at hx
    cases hx
    exact h
theorem sp_add {d H o w k sh : Nat} {M : zM} {eid : Nat → Nat} {es : List aE} {E : aE} {W : Nat → Nat → Bool} {P : zM → Prop} (hd : 3 ≤ d) (hI : ist M H o w eid) (ho : ost M o k) (hsh : sh ≤ w) (hc : icn M H sh es.length) (hl : es.length ≤ 23) (hE : iel M eid k (es ++ [E])) (hk : iok k sh (es ++ [E])) (hW : iwt M H w k es W)
    (h : ∀ M', zfr (fun a => a = H ∨ a = H + 152 + 100 * w) M M' → (∀ j, j ≠ 2 → zI M' H j = zI M H j) → icn M' H sh (es.length + 1) → iwt M' H w k (es ++ [E]) (won W es.length) → P M') : ycV d nX3_add [.ref H] M P := by
  obtain ⟨d, rfl, he⟩ := dS hd
  have s := hI.1.1
  have hel : (es ++ [E]).length = es.length + 1 := by simp
  have cn := cl_n (n := es.length) (by omega)
  have loop : ∀ (n i : Nat) (M' : zM) (o2 : Option Value), i + n = es.length → zfr (fun a => a = H + 152 + 100 * w) M M' → (∀ i', i' < i → zI M' (H + 152 + 100 * w) (24 * es.length + i') = nI (arp k (es ++ [E]) i' es.length)) → (∀ x, x < 24 * es.length → zI M' (H + 152 + 100 * w) x = zI M (H + 152 + 100 * w) x) → wX3_add d (fun r M2 => r = [] ∧ P M2) 2 [some (.ref H), some (.int (nI i)), o2] [] M' := by
    intro n
    induction n with
    | zero =>
      intro i M' o2 hi hfr h1 h2
      have hI' := ist_fr hfr hI
      have s' := hI'.1.1
      have hc' := icn_fr hfr (by omega) hc
      have hH : ∀ j, zI M' H j = zI M H j := (hfr.2.2.2.2 H (by omega)).1
      refine sg_X3_add_2 _ _ _ _ ⟨s', fun _ => ⟨s', s', ?_⟩, fun c => absurd (by rw [hc'.1, show i = es.length by omega]; exact Int32.le_refl _) c⟩
      intro M1
      refine ⟨rfl, h M1 (zfr_tr (zfr_up hfr fun a ha => Or.inr ha) (zfr_uI (Or.inl rfl))) (fun j hj => ?_) ⟨?_, ?_, by omega⟩ fun a b hab hb => ?_⟩
      · rw [show M1 = zuI M' H 2 (zI M' H 2 + 1) from rfl, zI_uI, if_neg (by omega)]
        exact hH j
      · rw [show M1 = zuI M' H 2 (zI M' H 2 + 1) from rfl, zI_uI, if_pos ⟨rfl, rfl⟩, hc'.1, nI_1]
      · rw [show M1 = zuI M' H 2 (zI M' H 2 + 1) from rfl, zI_uI, if_neg (by omega)]
        exact hc'.2.1
      · rw [hel] at hb
        rw [show M1 = zuI M' H 2 (zI M' H 2 + 1) from rfl, zI_uI, if_neg (by omega)]
        by_cases hbn : b = es.length
        · subst hbn
          rw [if_pos (show won W es.length a es.length = true from if_pos rfl)]
          exact h1 a (by omega)
        · rw [h2 _ (by omega), hW a b hab (by omega), show won W es.length a b = W a b from if_neg hbn]
          unfold arp
          rw [ald_app (by omega), ald_app (by omega)]
    | succ n ih =>
      intro i M' o2 hi hfr h1 h2
      have hI' := ist_fr hfr hI
      have s' := hI'.1.1
      have hc' := icn_fr hfr (by omega) hc
      have ho' := ost_fr hfr (by have := hI.2.2.2.1; omega) ho
      have hE' : iel M' eid k (es ++ [E]) := fun j x hj => by
        have hjl := (List.getElem?_eq_some_iff.mp hj).1
        rw [hel] at hjl
        have hap := hI.2.2.1.1 j (by omega)
        exact edy_fr (w := w) hfr (by rw [(hk x (List.mem_of_getElem? hj)).2.2]; exact hsh) (fun a ha => by
          unfold inE at ha
          omega) (hE j x hj)
      have ci := cl_n (n := i) (by omega)
      have hRi := hI'.2.1.2 i (by omega)
      have hRn := hI'.2.1.2 es.length (by omega)
      have hr1 := hI'.1.2.2.1
      refine sg_X3_add_2 _ _ _ _ ⟨s', fun c => ?_, fun _ => ⟨s', by rw [hr1, hI'.2.1.1], by rw [hr1, hI'.2.1.1]; exact zin_n (by omega) (by omega), by rw [hr1, ci, hRi.1]; exact hRi.2.1, ?_⟩⟩
      · rw [hc'.1] at c
        have := (nI_leI (by omega) (by omega)).mp c
        omega
      · rw [hr1, ci, hRi.1]
        refine sp_ld (es := es ++ [E]) (by omega) hI' hE' hk (by omega) (by omega) ⟨s', s', by rw [hr1, hI'.2.1.1], by rw [hr1, hI'.2.1.1, hc'.1]; exact zin_n (by omega) (by omega), by rw [hr1, hc'.1, cn, hRn.1]; exact hRn.2.1, ?_⟩
        rw [hr1, hc'.1, cn, hRn.1]
        refine sp_ld (es := es ++ [E]) (by omega) hI' hE' hk (by omega) (by omega) (sp_leastCommon (by omega) (iok_mok hk _) (iok_mok hk _) ?_)
        have hr0 := hI'.1.2.1
        have hr7 := hI'.1.2.2.2.1
        refine ⟨s', s', s', by rw [hr0]; exact ho'.1, ?_⟩
        rw [hr0]
        refine sp_rank (by omega) (mlcm_ok (iok_mok hk _) (iok_mok hk _)) ho'.1 ho'.2.1 ho'.2.2 ?_
        have ix : zI M' H 2 * 24 + nI i = nI (24 * es.length + i) := by
          rw [hc'.1, show (24 : Int32) = nI 24 from rfl, pk_mul, nI_add, Nat.mul_comm]
        have cx := cl_n (n := 24 * es.length + i) (by omega)
        rw [hr7, ix, cx]
        refine ⟨by rw [hI'.1.2.2.2.2], by rw [hI'.1.2.2.2.2]; exact zin_n (by omega) (by omega), ?_⟩
        intro M1 v1
        rw [show v1 = nI (i + 1) from nI_1 i]
        have ew : ∀ x, zI M1 (H + 152 + 100 * w) x = if x = 24 * es.length + i then nI (ark k (mlcm (ald (es ++ [E]) i) (ald (es ++ [E]) es.length))) else zI M' (H + 152 + 100 * w) x := fun x => by
          rw [show M1 = zuI M' (H + 152 + 100 * w) (24 * es.length + i) (nI (ark k (mlcm (ald (es ++ [E]) i) (ald (es ++ [E]) es.length)))) from rfl, zI_uI]
          simp only [true_and]
        refine ih (i + 1) M1 _ (by omega) (zfr_tr hfr (zfr_uI rfl)) (fun i' hi' => ?_) (fun x hx => ?_)
        · rw [ew]
          by_cases e : i' = i
          · subst e; rw [if_pos rfl]; rfl
          · rw [if_neg (by omega)]
            exact h1 i' (by omega)
        · rw [ew, if_neg (by omega)]
          exact h2 x hx
  exact en_X3_add _ M (sg_X3_add_0 _ M (loop es.length 0 M _ (by omega) zfr_rf (fun _ h => absurd h (Nat.not_lt_zero _)) fun _ _ => rfl))
end
section
/-! choosing pairs, in the class -/
def ebst : Option (Nat × Nat × Nat) → Int32
  | none => -1
  | some x => nI x.1
theorem nI_m1 {n : Nat} (h : n < 2 ^ 31) : ¬ nI n = -1 := fun e => by
  have e := congrArg Int32.toInt e
  rw [nI_toInt h, show (-1 : Int32).toInt = -1 by decide] at e
  omega
theorem sp_choosePair {d H o w k sh : Nat} {M : zM} {eid : Nat → Nat} {es : List aE} {W : Nat → Nat → Bool} {P : Int32 → zM → Prop} (hd : 1 ≤ d) (hI : ist M H o w eid) (hc : icn M H sh es.length) (hk : iok k sh es) (hW : iwt M H w k es W)
    (h : ∀ (c : Int32) M', zfr (fun a => a = H) M M' → (∀ j, j ≠ 8 → j ≠ 9 → zI M' H j = zI M H j) → (achoose k es W = none → c = 0) → (∀ x, achoose k es W = some x → c = 1 ∧ x.2.1 < x.2.2 ∧ x.2.2 < es.length ∧ zI M' H 8 = nI x.2.1 ∧ zI M' H 9 = nI x.2.2) → P c M') : ycI d nX3_choosePair [.ref H] M P := by
  obtain ⟨d, rfl, he⟩ := dS hd
  have hl := hc.2.2
  have hrk : ∀ i j, arp k es i j < 1073741824 := fun i j => ark_lt (mlcm_ok (iok_mok hk _) (iok_mok hk _))
  have outer : ∀ (n j : Nat) (M' : zM) (o3 o4 : Option Value), j + n = max es.length 1 → 1 ≤ j → zfr (fun a => a = H) M M' → (∀ f, f ≠ 8 → f ≠ 9 → zI M' H f = zI M H f) → (∀ x, achJ (arp k es) W j = some x → x.1 < 1073741824 ∧ x.2.1 < x.2.2 ∧ x.2.2 < es.length ∧ zI M' H 8 = nI x.2.1 ∧ zI M' H 9 = nI x.2.2) → wX3_choosePair d (fun r M2 => ∃ x : Int32, r = [.int x] ∧ P x M2) 4 [some (.ref H), some (.int (ebst (achJ (arp k es) W j))), some (.int (nI j)), o3, o4] [] M' := by
    intro n
    induction n with
    | zero =>
      intro j M' o3 o4 hj hj1 hfr hf hb
      have hI' := ist_fr hfr hI
      have s' := hI'.1.1
      have hc2 : zI M' H 2 = nI es.length := by rw [hf 2 (by omega) (by omega)]; exact hc.1
      have heq : achoose k es W = achJ (arp k es) W j := by
        unfold achoose
        by_cases h0 : es.length = 0
        · rw [h0, show j = 1 by omega]; rfl
        · rw [show es.length = j by omega]
      refine sg_X3_choosePair_4 _ _ _ _ _ _ ⟨s', fun _ => ⟨fun c => ⟨Or.inl rfl, _, rfl, h 0 M' hfr hf (fun _ => rfl) fun x hx => ?_⟩, fun c => ⟨Or.inr rfl, _, rfl, h 1 M' hfr hf (fun hn => ?_) fun x hx => ⟨rfl, ?_⟩⟩⟩, fun c => absurd (by rw [hc2]; exact (nI_leI (by omega) (by omega)).mpr (by omega)) c⟩
      · rw [heq] at hx
        rw [hx] at c
        exact absurd c (nI_m1 (by have := (hb x hx).1; omega))
      · rw [heq] at hn
        rw [hn] at c
        exact absurd rfl c
      · rw [heq] at hx
        exact (hb x hx).2
    | succ n ih =>
      intro j M' o3 o4 hj hj1 hfr hf hb
      have hjl : j < es.length := by omega
      have inner : ∀ (m i : Nat) (M2 : zM) (o4 : Option Value), i + m = j → zfr (fun a => a = H) M M2 → (∀ f, f ≠ 8 → f ≠ 9 → zI M2 H f = zI M H f) → (∀ x, achI (arp k es) W j i (achJ (arp k es) W j) = some x → x.1 < 1073741824 ∧ x.2.1 < x.2.2 ∧ x.2.2 < es.length ∧ zI M2 H 8 = nI x.2.1 ∧ zI M2 H 9 = nI x.2.2) → wX3_choosePair d (fun r M2 => ∃ x : Int32, r = [.int x] ∧ P x M2) 10 [some (.ref H), some (.int (ebst (achI (arp k es) W j i (achJ (arp k es) W j)))), some (.int (nI j)), some (.int (nI i)), o4] [] M2 := by
        intro m
        induction m with
        | zero =>
          intro i M2 o4 hi hfr2 hf2 hb2
          refine sg_X3_choosePair_10 _ _ _ _ _ _ ⟨fun _ => ?_, fun c => absurd (by rw [show i = j by omega]; exact Int32.le_refl _) c⟩
          intro v2
          rw [show v2 = nI (j + 1) from nI_1 j]
          have e : achI (arp k es) W j i (achJ (arp k es) W j) = achJ (arp k es) W (j + 1) := by rw [show i = j by omega]; rfl
          rw [e] at hb2
          rw [e]
          exact ih (j + 1) M2 _ _ (by omega) (by omega) hfr2 hf2 hb2
        | succ m ihm =>
          intro i M2 o4 hi hfr2 hf2 hb2
          have hI' := ist_fr hfr2 hI
          have s' := hI'.1.1
          have hr7 := hI'.1.2.2.2.1
          have ix : nI j * 24 + nI i = nI (24 * j + i) := by
            rw [show (24 : Int32) = nI 24 from rfl, pk_mul, nI_add, Nat.mul_comm]
          have cx := cl_n (n := 24 * j + i) (by omega)
          have hcell := iwt_fr hfr2 (by omega) hW i j (by omega) hjl
          have hr := hrk i j
          have stp : achI (arp k es) W j (i + 1) (achJ (arp k es) W j) = apick (arp k es i j) i j (W i j) (achI (arp k es) W j i (achJ (arp k es) W j)) := rfl
          refine sg_X3_choosePair_10 _ _ _ _ _ _ ⟨fun c => ?_, fun _ => ⟨s', by rw [hr7, hI'.1.2.2.2.2], by rw [hr7, ix, hI'.1.2.2.2.2]; exact zin_n (by omega) (by omega), ?_⟩⟩
          · have := (nI_leI (by omega) (by omega)).mp c
            omega
          · intro v4
            have ev : v4 = if W i j = true then nI (arp k es i j) else -1 := by
              rw [show v4 = zI M2 (zR M2 H 7) (nI j * 24 + nI i).toNatClampNeg from rfl, hr7, ix, cx]
              exact hcell
            clear_value v4
            generalize achI (arp k es) W j i (achJ (arp k es) W j) = b at hb2 stp
            cases hw : W i j with
            | false =>
              rw [hw] at ev stp
              have stp : achI (arp k es) W j (i + 1) (achJ (arp k es) W j) = b := stp
              refine ⟨fun _ => ?_, fun z => absurd ev z⟩
              intro v3
              rw [show v3 = nI (i + 1) from nI_1 i]
              rw [← stp] at hb2
              rw [← stp]
              exact ihm (i + 1) M2 _ (by omega) hfr2 hf2 hb2
            | true =>
              rw [hw] at ev stp
              have ev : v4 = nI (arp k es i j) := ev
              subst ev
              have put : achI (arp k es) W j (i + 1) (achJ (arp k es) W j) = some (arp k es i j, i, j) → wX3_choosePair d (fun r M2 => ∃ x : Int32, r = [.int x] ∧ P x M2) 10 [some (.ref H), some (.int (nI (arp k es i j))), some (.int (nI j)), some (.int (nI i + 1)), some (.int (nI (arp k es i j)))] [] (zuI (zuI M2 H 8 (nI i)) H 9 (nI j)) := fun heq => by
                rw [nI_1, show nI (arp k es i j) = ebst (achI (arp k es) W j (i + 1) (achJ (arp k es) W j)) by rw [heq]; rfl]
                refine ihm (i + 1) _ _ (by omega) (zfr_tr hfr2 (zfr_tr (zfr_uI rfl) (zfr_uI rfl))) (fun f h8 h9 => ?_) fun x hx => ?_
                · rw [zI_uI, if_neg (by omega), zI_uI, if_neg (by omega)]
                  exact hf2 f h8 h9
                · rw [heq] at hx
                  cases hx
                  refine ⟨hr, (by show i < j; omega), hjl, ?_, ?_⟩
                  · rw [zI_uI, if_neg (by omega), zI_uI, if_pos ⟨rfl, rfl⟩]
                  · rw [zI_uI, if_pos ⟨rfl, rfl⟩]
              refine ⟨fun z => absurd z (nI_m1 (by omega)), fun _ => ?_⟩
              cases b with
              | none => exact ⟨fun _ => ⟨s', s', put stp⟩, fun z => absurd rfl z⟩
              | some x =>
                have hx1 := (hb2 x rfl).1
                refine ⟨fun z => absurd z (nI_m1 (by omega)), fun _ => ⟨fun c => ?_, fun c => ?_⟩⟩
                · have c := (nI_leI (by omega) (by omega)).mp c
                  have stp : achI (arp k es) W j (i + 1) (achJ (arp k es) W j) = some x := by
                    rw [stp]
                    show (if arp k es i j < x.1 then _ else some x) = _
                    rw [if_neg (by omega)]
                  intro v3
                  rw [show v3 = nI (i + 1) from nI_1 i]
                  rw [← stp] at hb2
                  rw [← stp]
                  exact ihm (i + 1) M2 _ (by omega) hfr2 hf2 hb2
                · have c : ¬ x.1 ≤ arp k es i j := fun z => c ((nI_leI (by omega) (by omega)).mpr z)
                  refine ⟨s', s', put ?_⟩
                  rw [stp]
                  show (if arp k es i j < x.1 then _ else some x) = _
                  rw [if_pos (by omega)]
      have hI' := ist_fr hfr hI
      have s' := hI'.1.1
      have hc2 : zI M' H 2 = nI es.length := by rw [hf 2 (by omega) (by omega)]; exact hc.1
      refine sg_X3_choosePair_4 _ _ _ _ _ _ ⟨s', fun c => ?_, fun _ => inner j 0 M' o4 (by omega) hfr hf hb⟩
      rw [hc2] at c
      have := (nI_leI (by omega) (by omega)).mp c
      omega
  exact en_X3_choosePair _ M (sg_X3_choosePair_0 _ M (outer (max es.length 1 - 1) 1 M _ _ (by omega) (by omega) zfr_rf (fun _ _ _ => rfl) fun x hx => by cases hx))
theorem sp_isWaiting {d H o w k : Nat} {M : zM} {eid : Nat → Nat} {es : List aE} {W : Nat → Nat → Bool} {a b : Nat} {P : Int32 → zM → Prop} (hd : 1 ≤ d) (hI : ist M H o w eid) (hl : es.length ≤ 24) (hk : ∀ i j, arp k es i j < 1073741824) (hW : iwt M H w k es W) (ha : a < es.length) (hb : b < es.length) (hab : a ≠ b) (h1 : awt W a b = true → P 1 M) (h0 : awt W a b = false → P 0 M) : ycI d nX3_isWaiting [.ref H, .int (nI a), .int (nI b)] M P := by
  obtain ⟨d, rfl, he⟩ := dS hd
  have s := hI.1.1
  have hr7 := hI.1.2.2.2.1
  have ix : ∀ x y : Nat, nI x * 24 + nI y = nI (24 * x + y) := fun x y => by
    rw [show (24 : Int32) = nI 24 from rfl, pk_mul, nI_add, Nat.mul_comm]
  have key : ∀ i j, i < j → j < es.length → awt W a b = W i j → (zI M (zR M H 7) (nI (24 * j + i)).toNatClampNeg = -1 → (zb 0 ∧ ∃ x : Int32, [Value.int 0] = [.int x] ∧ P x M)) ∧ (¬ zI M (zR M H 7) (nI (24 * j + i)).toNatClampNeg = -1 → (zb 1 ∧ ∃ x : Int32, [Value.int 1] = [.int x] ∧ P x M)) := fun i j hij hj e => by
    rw [cl_n (by omega), hr7, hW i j hij hj]
    cases hw : W i j with
    | true => exact ⟨fun z => absurd z (nI_m1 (by have := hk i j; omega)), fun _ => ⟨Or.inr rfl, _, rfl, h1 (e.trans hw)⟩⟩
    | false => exact ⟨fun _ => ⟨Or.inl rfl, _, rfl, h0 (e.trans hw)⟩, fun z => absurd rfl z⟩
  refine en_X3_isWaiting _ _ _ M (sg_X3_isWaiting_0 _ _ _ M ⟨fun c => ?_, fun c => ?_⟩)
  · have c := (nI_leI (by omega) (by omega)).mp c
    intro v3
    rw [show v3 = nI (24 * a + b) from ix a b]
    exact ⟨s, by rw [hr7, hI.1.2.2.2.2], by rw [hr7, hI.1.2.2.2.2]; exact zin_n (by omega) (by omega), key b a (by omega) ha (if_neg (by omega))⟩
  · have c : ¬ b ≤ a := fun z => c ((nI_leI (by omega) (by omega)).mpr z)
    intro v3
    rw [show v3 = nI (24 * b + a) from ix b a]
    exact ⟨s, by rw [hr7, hI.1.2.2.2.2], by rw [hr7, hI.1.2.2.2.2]; exact zin_n (by omega) (by omega), key a b (by omega) hb (if_pos (by omega))⟩
theorem sp_isNeedless {d H o w k sh l r : Nat} {M : zM} {eid : Nat → Nat} {es : List aE} {W : Nat → Nat → Bool} {P : Int32 → zM → Prop} (hd : 3 ≤ d) (hI : ist M H o w eid) (hc : icn M H sh es.length) (hE : iel M eid k es) (hk : iok k sh es) (hW : iwt M H w k es W) (hL : zI M H 8 = nI l) (hR : zI M H 9 = nI r) (hlr : l < r) (hr : r < es.length) (h1 : aneed es W l r = true → P 1 M) (h0 : aneed es W l r = false → P 0 M) : ycI d nX3_isNeedless [.ref H, .int (e8 (mlcm (ald es l) (ald es r)))] M P := by
  obtain ⟨d, rfl, he⟩ := dS hd
  have hl := hc.2.2
  have s := hI.1.1
  have hr1 := hI.1.2.2.1
  have hrk : ∀ i j, arp k es i j < 1073741824 := fun i j => ark_lt (mlcm_ok (iok_mok hk _) (iok_mok hk _))
  have loop : ∀ (n i : Nat), i + n = es.length → mapb (ald es l) (ald es r) = false → (∀ c, c < i → anec es W l r c = false) → wX3_isNeedless d (fun r M2 => ∃ x : Int32, r = [.int x] ∧ P x M2) 18 [some (.ref H), some (.int (e8 (mlcm (ald es l) (ald es r)))), some (.int (nI i))] [] M := by
    intro n
    induction n with
    | zero =>
      intro i hi hm hb
      refine sg_X3_isNeedless_18 _ _ _ _ ⟨s, fun _ => ⟨Or.inl rfl, _, rfl, h0 ?_⟩, fun c => absurd (by rw [hc.1, show i = es.length by omega]; exact Int32.le_refl _) c⟩
      unfold aneed
      rw [hm, Bool.false_or, List.any_eq_false]
      intro c hc
      rw [hb c (by rw [List.mem_range] at hc; omega)]
      decide
    | succ n ih =>
      intro i hi hm hb
      have hil : i < es.length := by omega
      have next : anec es W l r i = false → wX3_isNeedless d (fun r M2 => ∃ x : Int32, r = [.int x] ∧ P x M2) 18 [some (.ref H), some (.int (e8 (mlcm (ald es l) (ald es r)))), some (.int (nI i + 1))] [] M := fun hf => by
        rw [nI_1]
        refine ih (i + 1) (by omega) hm fun c hc => ?_
        by_cases e : c = i
        · rw [e]; exact hf
        · exact hb c (by omega)
      have ci := cl_n (n := i) (by omega)
      have hRi := hI.2.1.2 i (by omega)
      refine sg_X3_isNeedless_18 _ _ _ _ ⟨s, fun c => ?_, fun _ => ⟨s, fun c => next ?_, fun c1 => ⟨s, fun c => next ?_, fun c2 => ⟨s, by rw [hr1, hI.2.1.1], by rw [hr1, hI.2.1.1]; exact zin_n (by omega) (by omega), by rw [hr1, ci, hRi.1]; exact hRi.2.1, ?_⟩⟩⟩⟩
      · rw [hc.1] at c
        have := (nI_leI (by omega) (by omega)).mp c
        omega
      · rw [hL] at c
        have c := (nI_eq (by omega) (by omega)).mp c
        unfold anec
        rw [c]
        simp
      · rw [hR] at c
        have c := (nI_eq (by omega) (by omega)).mp c
        unfold anec
        rw [c]
        simp
      · rw [hL] at c1
        rw [hR] at c2
        have c1 : i ≠ l := fun e => c1 (by rw [e])
        have c2 : i ≠ r := fun e => c2 (by rw [e])
        rw [hr1, ci, hRi.1]
        refine sp_ld (by omega) hI hE hk (by omega) hil (sp_divides (by omega) (iok_mok hk _) (mlcm_ok (iok_mok hk _) (iok_mok hk _)) (fun hdv => ⟨fun z => absurd z (by decide), fun _ => ⟨s, s, ?_⟩⟩) (fun hdv => ⟨fun _ => next ?_, fun z => absurd rfl z⟩))
        · have hdv := mdv_iff.mpr hdv
          rw [hL]
          refine sp_isWaiting (es := es) (by omega) hI (by omega) hrk hW hil (by omega) c1 (fun w1 => ⟨fun _ => next ?_, fun z => absurd (Classical.not_not.mp z) (by decide)⟩) (fun w1 => ⟨fun z => absurd rfl z, fun _ => ⟨s, s, ?_⟩⟩)
          · unfold anec
            rw [w1]
            simp
          · rw [hR]
            refine sp_isWaiting (es := es) (by omega) hI (by omega) hrk hW hil (by omega) c2 (fun w2 => ⟨fun _ => next ?_, fun z => absurd (Classical.not_not.mp z) (by decide)⟩) (fun w2 => ⟨fun z => absurd rfl z, fun _ => ⟨Or.inr rfl, _, rfl, h1 ?_⟩⟩)
            · unfold anec
              rw [w2]
              simp
            · unfold aneed
              rw [hm, Bool.false_or, List.any_eq_true]
              refine ⟨i, List.mem_range.mpr hil, ?_⟩
              unfold anec
              rw [w1, w2, hdv, bne_iff_ne.mpr c1, bne_iff_ne.mpr c2]
              rfl
        · have hdv : mdv (ald es i) (mlcm (ald es l) (ald es r)) = false := by
            cases hv : mdv (ald es i) (mlcm (ald es l) (ald es r)) with
            | false => rfl
            | true => exact absurd (mdv_iff.mp hv) hdv
          unfold anec
          rw [hdv]
          simp
  have cl := cl_n (n := l) (by omega)
  have cr := cl_n (n := r) (by omega)
  have hRl := hI.2.1.2 l (by omega)
  have hRr := hI.2.1.2 r (by omega)
  refine en_X3_isNeedless _ _ M (sg_X3_isNeedless_0 _ _ M ⟨s, s, by rw [hr1, hI.2.1.1], by rw [hr1, hI.2.1.1, hL]; exact zin_n (by omega) (by omega), by rw [hr1, hL, cl, hRl.1]; exact hRl.2.1, ?_⟩)
  rw [hr1, hL, cl, hRl.1]
  refine sp_ld (by omega) hI hE hk (by omega) (by omega) ⟨s, s, by rw [hr1, hI.2.1.1], by rw [hr1, hI.2.1.1, hR]; exact zin_n (by omega) (by omega), by rw [hr1, hR, cr, hRr.1]; exact hRr.2.1, ?_⟩
  rw [hr1, hR, cr, hRr.1]
  refine sp_ld (by omega) hI hE hk (by omega) hr (sp_haveVar (by omega) (iok_mok hk _) (iok_mok hk _) (fun hv => ⟨fun _ => ?_, fun z => absurd (Classical.not_not.mp z) (by decide)⟩) (fun hv => ⟨fun z => absurd rfl z, fun _ => ⟨Or.inr rfl, _, rfl, h1 ?_⟩⟩))
  · refine loop es.length 0 (by omega) ?_ fun c h => absurd h (Nat.not_lt_zero _)
    cases hm : mapb (ald es l) (ald es r) with
    | false => rfl
    | true => exact absurd (mapb_iff.mp hm) hv
  · unfold aneed
    rw [mapb_iff.mpr hv]
    rfl
end
section
/-! cofactors: of differences, and of rests, in the class -/
theorem iel_body {M : zM} {eid : Nat → Nat} {k sh i : Nat} {es : List aE} (hE : ∀ E : aE, es[i]? = some E → edy M (eid i) k E) (hk : iok k sh es) (hi : i < es.length) : pdy M (eid i + 1) k (es.getD i aE0).1 ∧ pok k (es.getD i aE0).1 ∧ (es.getD i aE0).1 ≠ [] := by
  have hu := List.getElem?_eq_getElem hi
  have e : es.getD i aE0 = es[i] := by rw [List.getD_eq_getElem?_getD, hu]; rfl
  obtain ⟨h1, h2, h3⟩ := hk _ (List.getElem_mem hi)
  rw [e]
  exact ⟨(hE _ hu).1, h1.1, h2⟩
theorem iel_cof {M : zM} {eid : Nat → Nat} {k sh i kk : Nat} {es : List aE} (hE : ∀ E : aE, es[i]? = some E → edy M (eid i) k E) (hk : iok k sh es) (hi : i < es.length) (hkk : kk < sh) : pdy M (eid i + 6 + 4 * kk) k (acof es i kk) ∧ pok k (acof es i kk) := by
  have hu := List.getElem?_eq_getElem hi
  obtain ⟨h1, h2, h3⟩ := hk _ (List.getElem_mem hi)
  have hv := List.getElem?_eq_getElem (l := es[i].2) (i := kk) (by omega)
  have e : acof es i kk = es[i].2[kk] := by
    unfold acof
    rw [List.getD_eq_getElem?_getD, List.getD_eq_getElem?_getD, hu]
    show (es[i].2[kk]?).getD [] = _
    rw [hv]
    rfl
  rw [e]
  exact ⟨(hE _ hu).2 kk _ hv, h1.2 _ (List.getElem_mem _)⟩
theorem mdv_lcm1 {a b : aM} : mdvd a (mlcm a b) := by
  unfold mdvd mlcm
  dsimp only
  omega
theorem mdv_lcm2 {a b : aM} : mdvd b (mlcm a b) := by
  unfold mdvd mlcm
  dsimp only
  omega
theorem fok_1 : fok (1, 1) := by unfold fok; decide
theorem fok_m1 : fok (-1, 1) := by unfold fok; decide
def inC (w e a : Nat) : Prop := e + 6 ≤ a ∧ a < e + 6 + 4 * w
theorem sp_crossOut {d H o w k sh l r q : Nat} {M : zM} {eid : Nat → Nat} {es : List aE} {P : Int32 → zM → Prop} (hd : 5 ≤ d) (hI : ist M H o w eid) (ho : ost M o k) (hsh : sh ≤ w) (hc : icn M H sh es.length) (hE : iel M eid k es) (hk : iok k sh es) (hL : zI M H 8 = nI l) (hR : zI M H 9 = nI r) (hlr : l < r) (hr : r < es.length) (hq : pst M q o) (hqo : ¬ inP q o) (hqH : q + 4 ≤ H ∨ H + 153 + 100 * w ≤ q) (hq0 : pdy M q k [])
    (h1 : ∀ f cs M', aspol k (es.getD l aE0) (es.getD r aE0) (es.getD l aE0).1 (es.getD r aE0).1 = some f → omp (fun kk => aspol k (es.getD l aE0) (es.getD r aE0) (acof es l kk) (acof es r kk)) sh = some cs → zfr (fun a => inP q a ∨ inC w (eid es.length) a) M M' → pdy M' q k f → pok k f → (∀ (j : Nat) (c : aP), cs[j]? = some c → pdy M' (eid es.length + 6 + 4 * j) k c ∧ pok k c) → P 1 M')
    (h0 : ∀ M', aspol k (es.getD l aE0) (es.getD r aE0) (es.getD l aE0).1 (es.getD r aE0).1 = none ∨ omp (fun kk => aspol k (es.getD l aE0) (es.getD r aE0) (acof es l kk) (acof es r kk)) sh = none → zfr (fun a => inP q a ∨ inC w (eid es.length) a) M M' → P 0 M') : ycI d nX3_crossOut [.ref H, .int (e8 (mlcm (ald es l) (ald es r))), .ref q] M P := by
  obtain ⟨d, rfl, he⟩ := dS hd
  have hl := hc.2.2
  have hw8 := hI.2.2.2.2
  have hoH := hI.2.2.2.1
  have s := hI.1.1
  have hr1 := hI.1.2.2.1
  have cl := cl_n (n := l) (by omega)
  have cr := cl_n (n := r) (by omega)
  have cn := cl_n (n := es.length) (by omega)
  have hRl := hI.2.1.2 l (by omega)
  have hRr := hI.2.1.2 r (by omega)
  have hRn := hI.2.1.2 es.length (by omega)
  have bl := hI.2.2.1.1 l (by omega)
  have br := hI.2.2.1.1 r (by omega)
  have bn := hI.2.2.1.1 es.length (by omega)
  have al := hI.2.2.1.2 l es.length (by omega) (by omega) (by omega)
  have ar := hI.2.2.1.2 r es.length (by omega) (by omega) (by omega)
  have hml := iok_mok hk l
  have hmr := iok_mok hk r
  have hmx : mok (msub (mlcm (ald es l) (ald es r)) (ald es l)) := msub_ok (mlcm_ok hml hmr)
  have hmy : mok (msub (mlcm (ald es l) (ald es r)) (ald es r)) := msub_ok (mlcm_ok hml hmr)
  have loop : ∀ (n i : Nat) (pre : List aP) (f : aP) (M' : zM) (o1 o2 o8 : Option Value), i + n = sh → aspol k (es.getD l aE0) (es.getD r aE0) (es.getD l aE0).1 (es.getD r aE0).1 = some f → omp (fun kk => aspol k (es.getD l aE0) (es.getD r aE0) (acof es l kk) (acof es r kk)) i = some pre → zfr (fun a => inP q a ∨ inC w (eid es.length) a) M M' → pdy M' q k f → pok k f → (∀ (j : Nat) (c : aP), pre[j]? = some c → pdy M' (eid es.length + 6 + 4 * j) k c ∧ pok k c) → wX3_crossOut d (fun r M2 => ∃ x : Int32, r = [.int x] ∧ P x M2) 40 [some (.ref H), o1, o2, some (.ref (eid l)), some (.ref (eid r)), some (.int (e8 (msub (mlcm (ald es l) (ald es r)) (ald es l)))), some (.int (e8 (msub (mlcm (ald es l) (ald es r)) (ald es r)))), some (.int (nI i)), o8] [] M' := by
    intro n
    induction n with
    | zero =>
      intro i pre f M' o1 o2 o8 hi hf hpre hfr hqd hqk hcs
      have hI' := ist_fr hfr hI
      have hc' := icn_fr hfr (by unfold inP inC; omega) hc
      refine sg_X3_crossOut_40 _ _ _ _ _ _ _ _ _ _ ⟨hI'.1.1, fun _ => ⟨Or.inr rfl, _, rfl, h1 f pre M' hf (by rw [← show i = sh by omega]; exact hpre) hfr hqd hqk hcs⟩, fun c => absurd (by rw [hc'.2.1, show i = sh by omega]; exact Int32.le_refl _) c⟩
    | succ n ih =>
      intro i pre f M' o1 o2 o8 hi hf hpre hfr hqd hqk hcs
      have hI' := ist_fr hfr hI
      have s' := hI'.1.1
      have hr1' := hI'.1.2.2.1
      have hc' := icn_fr hfr (by unfold inP inC; omega) hc
      have ho' := ost_fr hfr (by unfold inP inC; unfold inP at hqo; omega) ho
      have hRl' := hI'.2.1.2 l (by omega)
      have hRr' := hI'.2.1.2 r (by omega)
      have hRn' := hI'.2.1.2 es.length (by omega)
      have ci := cl_n (n := i) (by omega)
      have hli := iel_cof (fun E hx => edy_fr (w := w) hfr (by rw [(hk E (List.mem_of_getElem? hx)).2.2]; exact hsh) (fun a ha => by unfold inE at ha; unfold inP inC; omega) (hE l E hx)) hk (show l < es.length by omega) (show i < sh by omega)
      have hri := iel_cof (fun E hx => edy_fr (w := w) hfr (by rw [(hk E (List.mem_of_getElem? hx)).2.2]; exact hsh) (fun a ha => by unfold inE at ha; unfold inP inC; omega) (hE r E hx)) hk hr (show i < sh by omega)
      have hpl := hRn'.2.2.2.2.2.2.2 i (by omega)
      have r8 : zR M' (zR M' (zR M' (zR M' H 1) (zI M' H 2).toNatClampNeg) 1) (nI i).toNatClampNeg = eid es.length + 6 + 4 * i := by
        rw [hr1', hc'.1, cn, hRn'.1, hRn'.2.2.2.1, ci, hRn'.2.2.2.2.2.1 i (by omega)]
      have fin0 : ∀ M2, zfr (fun a => inP q a ∨ inC w (eid es.length) a) M M2 → aspol k (es.getD l aE0) (es.getD r aE0) (acof es l i) (acof es r i) = none → P 0 M2 := fun M2 hfr2 hn => by
        refine h0 M2 (Or.inr (omp_none (n := i + 1) ?_ (by omega))) hfr2
        rw [omp_s, hpre]
        dsimp only
        rw [hn]
      refine sg_X3_crossOut_40 _ _ _ _ _ _ _ _ _ _ ⟨s', fun c => ?_, fun _ => ⟨s', s', by rw [hr1', hI'.2.1.1], by rw [hr1', hI'.2.1.1, hc'.1]; exact zin_n (by omega) (by omega), by rw [hr1', hc'.1, cn, hRn'.1]; exact hRn'.2.1, by rw [hr1', hc'.1, cn, hRn'.1, hRn'.2.2.2.1, hRn'.2.2.2.2.1], by rw [hr1', hc'.1, cn, hRn'.1, hRn'.2.2.2.1, hRn'.2.2.2.2.1]; exact zin_n (by omega) (by omega), ?_⟩⟩
      · rw [hc'.2.1] at c
        have := (nI_leI (by omega) (by omega)).mp c
        omega
      · intro r8_1
        have e8_1 : r8_1 = eid es.length + 6 + 4 * i := r8
        clear_value r8_1
        subst e8_1
        refine ⟨hpl.1, sp_empty (k := k) (by omega) hpl fun M2 hfr2 hpd2 => ?_⟩
        have hI2 := ist_fr hfr2 hI'
        have hRl2 := hI2.2.1.2 l (by omega)
        have hRr2 := hI2.2.1.2 r (by omega)
        have ho2 := ost_fr hfr2 (by unfold inP; omega) ho'
        have hpl2 := pst_fr hfr2 hpl
        have up2 : ∀ a, inP (eid es.length + 6 + 4 * i) a → inP q a ∨ inC w (eid es.length) a := fun a ha => Or.inr (by unfold inP at ha; unfold inC; omega)
        refine ⟨hRl2.2.1, by rw [hRl2.2.2.2.1, hRl2.2.2.2.2.1], by rw [hRl2.2.2.2.1, hRl2.2.2.2.2.1]; exact zin_n (by omega) (by omega), hpl2.1, ?_⟩
        rw [hRl2.2.2.2.1, ci, hRl2.2.2.2.2.2.1 i (by omega)]
        refine sp_adds (c := (1, 1)) (by omega) hpl2 (hRl2.2.2.2.2.2.2.2 i (by omega)) (by omega) (by unfold inP; omega) ho2 hpd2 (pdy_fr hfr2 (inP_ne (by omega)) hli.1) pok_nil hli.2 fok_1 (by decide) hmx (fun g M3 hg hfr3 hpd3 => ?_) (fun M3 hn3 hfr3 => ?_)
        · have hI3 := ist_fr hfr3 hI2
          have hRr3 := hI3.2.1.2 r (by omega)
          have ho3 := ost_fr hfr3 (by unfold inP; omega) ho2
          have hpl3 := pst_fr hfr3 hpl2
          have hgk := aadds_ok fok_1 (by decide) hli.2.1 pok_nil hg
          refine ⟨fun z => absurd z (by decide), fun _ => ⟨hRr3.2.1, by rw [hRr3.2.2.2.1, hRr3.2.2.2.2.1], by rw [hRr3.2.2.2.1, hRr3.2.2.2.2.1]; exact zin_n (by omega) (by omega), hpl3.1, ?_⟩⟩
          rw [hRr3.2.2.2.1, hRr3.2.2.2.2.2.1 i (by omega)]
          refine sp_adds (c := (-1, 1)) (by omega) hpl3 (hRr3.2.2.2.2.2.2.2 i (by omega)) (by omega) (by unfold inP; omega) ho3 hpd3 (pdy_fr hfr3 (inP_ne (by omega)) (pdy_fr hfr2 (inP_ne (by omega)) hri.1)) hgk hri.2 fok_m1 (by decide) hmy (fun g' M4 hg' hfr4 hpd4 => ?_) (fun M4 hn4 hfr4 => ?_)
          · have hfa := zfr_tr hfr2 (zfr_tr hfr3 hfr4)
            refine ⟨fun _ => ?_, fun z => absurd (Classical.not_not.mp z) (by decide)⟩
            intro v7
            rw [show v7 = nI (i + 1) from nI_1 i]
            refine ih (i + 1) (pre ++ [g']) f M4 _ _ _ (by omega) hf ?_ (zfr_tr hfr (zfr_up hfa up2)) (pdy_fr hfa (inP_ne (by omega)) hqd) hqk fun j c hj => ?_
            · rw [omp_s, hpre]
              dsimp only
              rw [show aspol k (es.getD l aE0) (es.getD r aE0) (acof es l i) (acof es r i) = some g' by unfold aspol; rw [show aadds k (1, 1) (msub (mlcm (lmon (es.getD l aE0).1) (lmon (es.getD r aE0).1)) (lmon (es.getD l aE0).1)) (acof es l i) [] = some g from hg]; exact hg']
            · have hlen := omp_len hpre
              by_cases hji : j < i
              · rw [List.getElem?_append_left (by omega)] at hj
                obtain ⟨a1, a2⟩ := hcs j c hj
                exact ⟨pdy_fr hfa (inP_ne (by omega)) a1, a2⟩
              · have hjl := (List.getElem?_eq_some_iff.mp hj).1
                have : j = i := by simp at hjl; omega
                subst this
                rw [List.getElem?_append_right (by omega), hlen, Nat.sub_self] at hj
                cases hj
                exact ⟨hpd4, aadds_ok fok_m1 (by decide) hri.2.1 hgk hg'⟩
          · refine ⟨fun z => absurd rfl z, fun _ => ⟨Or.inl rfl, _, rfl, fin0 M4 (zfr_tr hfr (zfr_up (zfr_tr hfr2 (zfr_tr hfr3 hfr4)) up2)) ?_⟩⟩
            unfold aspol
            rw [show aadds k (1, 1) (msub (mlcm (lmon (es.getD l aE0).1) (lmon (es.getD r aE0).1)) (lmon (es.getD l aE0).1)) (acof es l i) [] = some g from hg]
            exact hn4
        · refine ⟨fun _ => ⟨Or.inl rfl, _, rfl, fin0 M3 (zfr_tr hfr (zfr_up (zfr_tr hfr2 hfr3) up2)) ?_⟩, fun z => absurd rfl z⟩
          unfold aspol
          rw [show aadds k (1, 1) (msub (mlcm (lmon (es.getD l aE0).1) (lmon (es.getD r aE0).1)) (lmon (es.getD l aE0).1)) (acof es l i) [] = none from hn3]
  refine en_X3_crossOut _ _ _ M (sg_X3_crossOut_0 _ _ _ M ⟨s, s, by rw [hr1, hI.2.1.1], by rw [hr1, hI.2.1.1, hL]; exact zin_n (by omega) (by omega), ?_⟩)
  intro r3
  have e3 : r3 = eid l := by rw [show r3 = zR M (zR M H 1) (zI M H 8).toNatClampNeg from rfl, hr1, hL, cl, hRl.1]
  clear_value r3
  subst e3
  refine ⟨s, s, by rw [hr1, hI.2.1.1], by rw [hr1, hI.2.1.1, hR]; exact zin_n (by omega) (by omega), ?_⟩
  intro r4
  have e4 : r4 = eid r := by rw [show r4 = zR M (zR M H 1) (zI M H 9).toNatClampNeg from rfl, hr1, hR, cr, hRr.1]
  clear_value r4
  subst e4
  refine ⟨hRl.2.1, sp_ld (by omega) hI hE hk (by omega) (by omega) ?_⟩
  intro v5
  have e5 : v5 = e8 (msub (mlcm (ald es l) (ald es r)) (ald es l)) := e8_sub mdv_lcm1
  clear_value v5
  subst e5
  refine ⟨hRr.2.1, sp_ld (by omega) hI hE hk (by omega) hr ?_⟩
  intro v6
  have e6 : v6 = e8 (msub (mlcm (ald es l) (ald es r)) (ald es r)) := e8_sub mdv_lcm2
  clear_value v6
  subst e6
  have hbl := iel_body (fun E hx => hE l E hx) hk (show l < es.length by omega)
  have hbr := iel_body (fun E hx => hE r E hx) hk hr
  have upq : ∀ a, inP q a → inP q a ∨ inC w (eid es.length) a := fun a ha => Or.inl ha
  refine ⟨hRl.2.1, hq.1, ?_⟩
  rw [hRl.2.2.1]
  refine sp_adds (c := (1, 1)) (by omega) hq hRl.2.2.2.2.2.2.1 (by omega) hqo ho hq0 hbl.1 pok_nil hbl.2.1 fok_1 (by decide) hmx (fun g M3 hg hfr3 hpd3 => ?_) (fun M3 hn3 hfr3 => ?_)
  · have hI3 := ist_fr hfr3 hI
    have hRr3 := hI3.2.1.2 r (by omega)
    have hq3 := pst_fr hfr3 hq
    have hgk := aadds_ok fok_1 (by decide) hbl.2.1.1 pok_nil hg
    refine ⟨fun z => absurd z (by decide), fun _ => ⟨hRr3.2.1, hq3.1, ?_⟩⟩
    rw [hRr3.2.2.1]
    refine sp_adds (c := (-1, 1)) (by omega) hq3 hRr3.2.2.2.2.2.2.1 (by omega) hqo (ost_fr hfr3 hqo ho) hpd3 (pdy_fr hfr3 (inP_ne (by omega)) hbr.1) hgk hbr.2.1 fok_m1 (by decide) hmy (fun g' M4 hg' hfr4 hpd4 => ?_) (fun M4 hn4 hfr4 => ?_)
    · refine ⟨fun _ => loop sh 0 [] g' M4 _ _ _ (by omega) ?_ rfl (zfr_up (zfr_tr hfr3 hfr4) upq) hpd4 (aadds_ok fok_m1 (by decide) hbr.2.1.1 hgk hg') (fun j c hj => by simp at hj), fun z => absurd (Classical.not_not.mp z) (by decide)⟩
      unfold aspol
      rw [show aadds k (1, 1) (msub (mlcm (lmon (es.getD l aE0).1) (lmon (es.getD r aE0).1)) (lmon (es.getD l aE0).1)) (es.getD l aE0).1 [] = some g from hg]
      exact hg'
    · refine ⟨fun z => absurd rfl z, fun _ => ⟨Or.inl rfl, _, rfl, h0 M4 (Or.inl ?_) (zfr_up (zfr_tr hfr3 hfr4) upq)⟩⟩
      unfold aspol
      rw [show aadds k (1, 1) (msub (mlcm (lmon (es.getD l aE0).1) (lmon (es.getD r aE0).1)) (lmon (es.getD l aE0).1)) (es.getD l aE0).1 [] = some g from hg]
      exact hn4
  · refine ⟨fun _ => ⟨Or.inl rfl, _, rfl, h0 M3 (Or.inl ?_) (zfr_up hfr3 upq)⟩, fun z => absurd rfl z⟩
    unfold aspol
    rw [show aadds k (1, 1) (msub (mlcm (lmon (es.getD l aE0).1) (lmon (es.getD r aE0).1)) (lmon (es.getD l aE0).1)) (es.getD l aE0).1 [] = none from hn3]
theorem asg_cons {t : aT} {q : aP} : asg true (t :: q) = ((-t.1.1, t.1.2), t.2) :: asg true q := rfl
theorem sp_takeQ {d H D o w k sh x : Nat} {M : zM} {eid : Nat → Nat} {es : List aE} {qs cs : List aP} {P : Int32 → zM → Prop} (hd : 5 ≤ d) (hI : ist M H o w eid) (hD : dst M D o) (ho : ost M o k) (hsh : sh ≤ w) (hHD : H + 153 + 100 * w ≤ D ∨ D + 106 ≤ H) (hc : icn M H sh es.length) (hx : x < 25) (hE : ∀ (e : Nat) (E : aE), e ≠ x → es[e]? = some E → edy M (eid e) k E) (hk : iok k sh es) (hq : ∀ (e : Nat) (q : aP), qs[e]? = some q → pdy M (D + 10 + 4 * e) k q ∧ pok k q ∧ (e = x → q = [])) (hql : qs.length = es.length) (hcs : ∀ (j : Nat) (c : aP), cs[j]? = some c → pdy M (eid x + 6 + 4 * j) k c ∧ pok k c) (hcl : cs.length = sh)
    (h1 : ∀ cs' M', omp (fun kk => als k true kk es qs (cs.getD kk []) es.length) sh = some cs' → zfr (inC w (eid x)) M M' → (∀ (j : Nat) (c : aP), cs'[j]? = some c → pdy M' (eid x + 6 + 4 * j) k c ∧ pok k c) → P 1 M')
    (h0 : ∀ M', omp (fun kk => als k true kk es qs (cs.getD kk []) es.length) sh = none → zfr (inC w (eid x)) M M' → P 0 M') : ycI d nX3_takeQuotients [.ref H, .ref (eid x), .ref D] M P := by
  obtain ⟨d, rfl, he⟩ := dS hd
  have hl := hc.2.2
  have hw8 := hI.2.2.2.2
  have hoH := hI.2.2.2.1
  have bx := hI.2.2.1.1 x hx
  have upC : ∀ i, i < sh → ∀ a, inP (eid x + 6 + 4 * i) a → inC w (eid x) a := fun i hi a ha => by unfold inP at ha; unfold inC; omega
  have loop : ∀ (n i : Nat) (pre : List aP) (M' : zM) (o4 o5 o6 o7 o8 o9 : Option Value), i + n = sh → omp (fun kk => als k true kk es qs (cs.getD kk []) es.length) i = some pre → zfr (inC w (eid x)) M M' → (∀ (j : Nat) (c : aP), (pre ++ cs.drop i)[j]? = some c → pdy M' (eid x + 6 + 4 * j) k c ∧ pok k c) → wX3_takeQuotients d (fun r M2 => ∃ x : Int32, r = [.int x] ∧ P x M2) 2 [some (.ref H), some (.ref (eid x)), some (.ref D), some (.int (nI i)), o4, o5, o6, o7, o8, o9] [] M' := by
    intro n
    induction n with
    | zero =>
      intro i pre M' o4 o5 o6 o7 o8 o9 hi hpre hfr hcp
      have hI' := ist_fr hfr hI
      have hc' := icn_fr hfr (by unfold inC; omega) hc
      rw [List.drop_of_length_le (by omega), List.append_nil] at hcp
      refine sg_X3_takeQuotients_2 _ _ _ _ _ _ _ _ _ _ _ ⟨hI'.1.1, fun _ => ⟨Or.inr rfl, _, rfl, h1 pre M' (by rw [← show i = sh by omega]; exact hpre) hfr hcp⟩, fun c => absurd (by rw [hc'.2.1, show i = sh by omega]; exact Int32.le_refl _) c⟩
    | succ n ih =>
      intro i pre M' o4 o5 o6 o7 o8 o9 hi hpre hfr hcp
      have hI' := ist_fr hfr hI
      have hRx' := hI'.2.1.2 x hx
      have hc' := icn_fr hfr (by unfold inC; omega) hc
      have ci := cl_n (n := i) (by omega)
      have hlen := omp_len hpre
      have hil : i < cs.length := by omega
      have hci : (pre ++ cs.drop i)[i]? = some (cs.getD i []) := by
        rw [List.getElem?_append_right (by omega), hlen, Nat.sub_self, List.drop_eq_getElem_cons hil, List.getD_eq_getElem?_getD, List.getElem?_eq_getElem hil]
        rfl
      obtain ⟨hf0, hf0k⟩ := hcp i _ hci
      have fin0 : ∀ M2, zfr (inC w (eid x)) M M2 → als k true i es qs (cs.getD i []) es.length = none → P 0 M2 := fun M2 hfr2 hn => by
        refine h0 M2 (omp_none (n := i + 1) ?_ (by omega)) hfr2
        rw [omp_s, hpre]
        dsimp only
        rw [hn]
      -- the elements, one by one
      have mid : ∀ (m e : Nat) (f : aP) (M2 : zM) (o6 o7 o8 o9 : Option Value), e + m = es.length → als k true i es qs (cs.getD i []) e = some f → zfr (inP (eid x + 6 + 4 * i)) M' M2 → pdy M2 (eid x + 6 + 4 * i) k f → pok k f → wX3_takeQuotients d (fun r M2 => ∃ x : Int32, r = [.int x] ∧ P x M2) 13 [some (.ref H), some (.ref (eid x)), some (.ref D), some (.int (nI i)), some (.ref (eid x + 6 + 4 * i)), some (.int (nI e)), o6, o7, o8, o9] [] M2 := by
        intro m
        induction m with
        | zero =>
          intro e f M2 o6 o7 o8 o9 hem hal hfr2 hpd hpk
          have hI2 := ist_fr hfr2 hI'
          have hc2 := icn_fr hfr2 (by unfold inP; omega) hc'
          refine sg_X3_takeQuotients_13 _ _ _ _ _ _ _ _ _ _ _ ⟨hI2.1.1, fun _ => ?_, fun c => absurd (by rw [hc2.1, show e = es.length by omega]; exact Int32.le_refl _) c⟩
          intro v3
          rw [show v3 = nI (i + 1) from nI_1 i]
          rw [show e = es.length by omega] at hal
          refine ih (i + 1) (pre ++ [f]) M2 _ _ _ _ _ _ (by omega) (by rw [omp_s, hpre]; dsimp only; rw [hal]) (zfr_tr hfr (zfr_up hfr2 (upC i (by omega)))) fun j c hj => ?_
          by_cases hji : j = i
          · subst hji
            rw [List.append_assoc, List.getElem?_append_right (by omega), hlen, Nat.sub_self] at hj
            cases hj
            exact ⟨hpd, hpk⟩
          · have hj2 : (pre ++ cs.drop i)[j]? = some c := by
              rw [← hj]
              by_cases hjl : j < i
              · rw [List.append_assoc, List.getElem?_append_left (by omega), List.getElem?_append_left (by omega)]
              · rw [List.getElem?_append_right (by omega), List.getElem?_append_right (by rw [List.length_append, hlen]; simp; omega), List.getElem?_drop, List.getElem?_drop, List.length_append, hlen]
                congr 1
                simp
                omega
            obtain ⟨a1, a2⟩ := hcp j c hj2
            exact ⟨pdy_fr hfr2 (inP_ne (by omega)) a1, a2⟩
        | succ m ihm =>
          intro e f M2 o6 o7 o8 o9 hem hal hfr2 hpd hpk
          have hI2 := ist_fr hfr2 hI'
          have hc2 := icn_fr hfr2 (by unfold inP; omega) hc'
          have hM2 := zfr_tr hfr (zfr_up hfr2 (upC i (by omega)))
          have hD2 := dst_fr hM2 hD
          have hel : e < es.length := by omega
          have ce := cl_n (n := e) (by omega)
          have hqe : qs[e]? = some (qs.getD e []) := by
            rw [List.getD_eq_getElem?_getD, List.getElem?_eq_getElem (by omega)]
            rfl
          obtain ⟨q1, q2, q3⟩ := hq e _ hqe
          have hql2 := q2.2.2
          have stp : als k true i es qs (cs.getD i []) (e + 1) = aprod k (acof es e i) (asg true (qs.getD e [])) f := by rw [als_s, hal]
          clear hqe
          generalize qs.getD e [] = q at q1 q2 q3 hql2 stp
          have inner : ∀ (u t : Nat) (g : aP) (M3 : zM) (o8 o9 : Option Value), t + u = q.length → aprod k (acof es e i) (asg true (q.drop t)) g = als k true i es qs (cs.getD i []) (e + 1) → zfr (inP (eid x + 6 + 4 * i)) M' M3 → pdy M3 (eid x + 6 + 4 * i) k g → pok k g → wX3_takeQuotients d (fun r M2 => ∃ x : Int32, r = [.int x] ∧ P x M2) 24 [some (.ref H), some (.ref (eid x)), some (.ref D), some (.int (nI i)), some (.ref (eid x + 6 + 4 * i)), some (.int (nI e)), some (.ref (D + 10 + 4 * e)), some (.int (nI t)), o8, o9] [] M3 := by
            intro u
            induction u with
            | zero =>
              intro t g M3 o8 o9 htu hap hfr3 hpd3 hpk3
              have hM3 := zfr_tr hfr (zfr_up hfr3 (upC i (by omega)))
              have hqp3 := pst_fr hM3 (hD.2.2.2.2.2.2.2.2 e (by omega))
              have q13 := pdy_fr hM3 (fun a ha => by unfold inP at ha; unfold inC; omega) q1
              refine sg_X3_takeQuotients_24 _ _ _ _ _ _ _ _ _ _ _ ⟨hqp3.1, fun _ => ?_, fun c => absurd (by rw [q13.1, show t = q.length by omega]; exact Int32.le_refl _) c⟩
              intro v5
              rw [show v5 = nI (e + 1) from nI_1 e]
              rw [List.drop_of_length_le (by omega)] at hap
              exact ihm (e + 1) g M3 _ _ _ _ (by omega) hap.symm hfr3 hpd3 hpk3
            | succ u ihu =>
              intro t g M3 o8 o9 htu hap hfr3 hpd3 hpk3
              have hM3 := zfr_tr hfr (zfr_up hfr3 (upC i (by omega)))
              have hqp3 := pst_fr hM3 (hD.2.2.2.2.2.2.2.2 e (by omega))
              have q13 := pdy_fr hM3 (fun a ha => by unfold inP at ha; unfold inC; omega) q1
              have hI3 := ist_fr hM3 hI
              have ho3 := ost_fr hM3 (by unfold inC; omega) ho
              have htl : t < q.length := by omega
              have hut := List.getElem?_eq_getElem htl
              obtain ⟨g1, g2, -⟩ := q13.2 t _ hut
              have htk := q2.1 _ (List.getElem_mem htl)
              have hex : e ≠ x := fun z => by rw [q3 z] at htl; simp at htl
              have ap := hI.2.2.1.2 e x (by omega) hx hex
              have ct := cl_n (n := t) (by omega)
              have hRe3 := hI3.2.1.2 e (by omega)
              have hcf := iel_cof (fun E hz => edy_fr (w := w) hM3 (by rw [(hk E (List.mem_of_getElem? hz)).2.2]; exact hsh) (fun a ha => by unfold inE at ha; unfold inC; omega) (hE e E hex hz)) hk hel (show i < sh by omega)
              have hpx3 := pst_fr hfr3 (hRx'.2.2.2.2.2.2.2 i (by omega))
              rw [List.drop_eq_getElem_cons htl, asg_cons, aprod_cons] at hap
              generalize q[t] = ut at hut g1 g2 htk hap
              refine sg_X3_takeQuotients_24 _ _ _ _ _ _ _ _ _ _ _ ⟨hqp3.1, fun c => ?_, fun _ => ⟨hqp3.1, p_k1 hqp3, by rw [p_l1 hqp3]; exact zin_n (by omega) (by omega), ?_⟩⟩
              · rw [q13.1] at c
                have := (nI_leI (by omega) (by omega)).mp c
                omega
              · rw [hqp3.2.2.1, ct, g1]
                refine sp_fneg (by omega) htk.1 ⟨hqp3.1, p_k2 hqp3, by rw [p_l2 hqp3]; exact zin_n (by omega) (by omega), hI3.1.1, by rw [hI3.1.2.2.1, hI3.2.1.1], by rw [hI3.1.2.2.1, hI3.2.1.1]; exact zin_n (by omega) (by omega), by rw [hI3.1.2.2.1, ce, hRe3.1]; exact hRe3.2.1, by rw [hI3.1.2.2.1, ce, hRe3.1, hRe3.2.2.2.1, hRe3.2.2.2.2.1], by rw [hI3.1.2.2.1, ce, hRe3.1, hRe3.2.2.2.1, hRe3.2.2.2.2.1]; exact zin_n (by omega) (by omega), hpx3.1, ?_⟩
                rw [hqp3.2.2.2.1, g2, hI3.1.2.2.1, ce, hRe3.1, hRe3.2.2.2.1, ci, hRe3.2.2.2.2.2.1 i (by omega)]
                have hn0 : ((-ut.1.1 : Int), ut.1.2).1 ≠ 0 := by
                  have := htk.2.1
                  dsimp only
                  omega
                refine sp_adds (c := (-ut.1.1, ut.1.2)) (by omega) hpx3 (hRe3.2.2.2.2.2.2.2 i (by omega)) (by omega) (by unfold inP; omega) ho3 hpd3 hcf.1 hpk3 hcf.2 (fneg_ok htk.1) hn0 htk.2.2 (fun g' M4 hg hfr4 hpd4 => ?_) (fun M4 hn4 hfr4 => ?_)
                · rw [hg] at hap
                  refine ⟨fun _ => ?_, fun z => absurd (Classical.not_not.mp z) (by decide)⟩
                  intro v7
                  rw [show v7 = nI (t + 1) from nI_1 t]
                  exact ihu (t + 1) g' M4 _ _ (by omega) hap (zfr_tr hfr3 hfr4) hpd4 (aadds_ok (fneg_ok htk.1) hn0 hcf.2.1 hpk3 hg)
                · rw [hn4] at hap
                  exact ⟨fun z => absurd rfl z, fun _ => ⟨Or.inl rfl, _, rfl, fin0 M4 (zfr_tr hM3 (zfr_up hfr4 (upC i (by omega)))) (als_none hap.symm (by omega))⟩⟩
          refine sg_X3_takeQuotients_13 _ _ _ _ _ _ _ _ _ _ _ ⟨hI2.1.1, fun c => ?_, fun _ => ⟨hD2.1, by rw [hD2.2.2.2.1, hD2.2.2.2.2.1], by rw [hD2.2.2.2.1, hD2.2.2.2.2.1]; exact zin_n (by omega) (by omega), ?_⟩⟩
          · rw [hc2.1] at c
            have := (nI_leI (by omega) (by omega)).mp c
            omega
          · intro r6
            have e6 : r6 = D + 10 + 4 * e := by rw [show r6 = zR M2 (zR M2 D 2) (nI e).toNatClampNeg from rfl, hD2.2.2.2.1, ce, hD2.2.2.2.2.2.1 e (by omega)]
            clear_value r6
            subst e6
            exact inner q.length 0 f M2 _ _ (by omega) stp.symm hfr2 hpd hpk
      refine sg_X3_takeQuotients_2 _ _ _ _ _ _ _ _ _ _ _ ⟨hI'.1.1, fun c => ?_, fun _ => ⟨hRx'.2.1, by rw [hRx'.2.2.2.1, hRx'.2.2.2.2.1], by rw [hRx'.2.2.2.1, hRx'.2.2.2.2.1]; exact zin_n (by omega) (by omega), ?_⟩⟩
      · rw [hc'.2.1] at c
        have := (nI_leI (by omega) (by omega)).mp c
        omega
      · intro r4
        have e4 : r4 = eid x + 6 + 4 * i := by rw [show r4 = zR M' (zR M' (eid x) 1) (nI i).toNatClampNeg from rfl, hRx'.2.2.2.1, ci, hRx'.2.2.2.2.2.1 i (by omega)]
        clear_value r4
        subst e4
        exact mid es.length 0 (cs.getD i []) M' _ _ _ _ (by omega) rfl zfr_rf hf0 hf0k
  exact en_X3_takeQuotients _ _ _ M (sg_X3_takeQuotients_0 _ _ _ M (loop sh 0 [] M _ _ _ _ _ _ (by omega) rfl zfr_rf (fun j c hj => hcs j c (by simpa using hj))))
end
section
/-! generators become elements, in the class -/
def gst (M : zM) (G o : Nat) : Prop := zsh M G = (5, 9) ∧ ∀ g, g < 9 → zR M G g = G + 1 + 4 * g ∧ pst M (G + 1 + 4 * g) o
def gdy (M : zM) (G k : Nat) (gens : List aP) : Prop := ∀ (g : Nat) (L : aP), gens[g]? = some L → pdy M (G + 1 + 4 * g) k L ∧ pok k L
theorem gst_fr {S : Nat → Prop} {M M' : zM} {G o : Nat} (h : zfr S M M') (hg : gst M G o) : gst M' G o := ⟨by rw [h.1]; exact hg.1, fun g hl => ⟨by rw [h.2.2.2.1]; exact (hg.2 g hl).1, pst_fr h (hg.2 g hl).2⟩⟩
theorem gdy_fr {S : Nat → Prop} {M M' : zM} {G k : Nat} {gens : List aP} (h : zfr S M M') (hl : gens.length ≤ 9) (hd : ∀ a, G + 1 ≤ a → a < G + 37 → ¬ S a) (hg : gdy M G k gens) : gdy M' G k gens := fun g L hL => by
  have := (List.getElem?_eq_some_iff.mp hL).1
  exact ⟨pdy_fr h (fun a ha => hd a (by unfold inP at ha; omega) (by unfold inP at ha; omega)) (hg g L hL).1, (hg g L hL).2⟩
theorem aunit_len {sh g : Nat} : (aunit sh g).length = sh := by unfold aunit; simp
theorem aunit_at {sh g i : Nat} {L : aP} (h : (aunit sh g)[i]? = some L) : i < sh ∧ L = if i = g then [((1, 1), mone)] else [] := by
  have hi := (List.getElem?_eq_some_iff.mp h).1
  rw [aunit_len] at hi
  refine ⟨hi, ?_⟩
  unfold aunit at h
  rw [List.getElem?_map, List.getElem?_range hi] at h
  exact (Option.some.inj h).symm
theorem mone_ok : mok mone := by unfold mok mone; decide
theorem tok_1 : tok ((1, 1), mone) := ⟨fok_1, by decide, mone_ok⟩
theorem pok_1 {k : Nat} {t : aT} (h : tok t) : pok k [t] := ⟨fun u hu => by rw [List.mem_singleton.mp hu]; exact h, List.pairwise_singleton _ _, by simp⟩
theorem aunit_ok {k sh g : Nat} : ∀ L ∈ aunit sh g, pok k L := fun L hL => by
  obtain ⟨i, hi⟩ := List.getElem?_of_mem hL
  rw [(aunit_at hi).2]
  split
  · exact pok_1 tok_1
  · exact pok_nil
theorem aadopt_s {sh g : Nat} {gens : List aP} : aadopt sh gens (g + 1) = if (aadopt sh gens g).1 = 0 ∧ (gens.getD g []).length ≠ 0 then (match amonic (gens.getD g [], aunit sh g) with
      | none => (2, (aadopt sh gens g).2)
      | some E => (0, (aadopt sh gens g).2.1 ++ [E], won (aadopt sh gens g).2.2 (aadopt sh gens g).2.1.length)) else aadopt sh gens g := rfl
theorem aadopt_no {sh g : Nat} {gens : List aP} (h : (aadopt sh gens g).1 ≠ 0) : ∀ {m : Nat}, g ≤ m → aadopt sh gens m = aadopt sh gens g
  | 0, hm => by rw [show g = 0 by omega]
  | m + 1, hm => by
    by_cases e : g = m + 1
    · rw [e]
    · have ih := aadopt_no h (show g ≤ m by omega)
      rw [aadopt_s, if_neg (by rw [ih]; exact fun z => h z.1), ih]
theorem amonic_ne {k : Nat} {E E' : aE} (hE : eok k E) (h : amonic E = some E') : E'.1 ≠ [] := by
  have h2 := (amonic_ok hE h).2.2
  intro z
  rw [z] at h2
  have h2 : [] = E.1.map Prod.snd := h2
  unfold amonic at h
  split at h
  · cases h
  · rename_i t l hl
    rw [hl] at h2
    cases h2
theorem sp_adopt {d H G o w k sh : Nat} {M : zM} {eid : Nat → Nat} {gens : List aP} {P : Int32 → zM → Prop} (hd : 5 ≤ d) (hI : ist M H o w eid) (ho : ost M o k) (hsh : sh ≤ w) (hGH : G + 37 ≤ H) (hG : gst M G o) (hg : gdy M G k gens) (hgl : gens.length ≤ 9) (hc : icn M H sh 0)
    (h : ∀ M', zfr (inI H w) M M' → (∀ j, j ≠ 2 → zI M' H j = zI M H j) → icn M' H sh (aadopt sh gens gens.length).2.1.length → iel M' eid k (aadopt sh gens gens.length).2.1 → iok k sh (aadopt sh gens gens.length).2.1 → iwt M' H w k (aadopt sh gens gens.length).2.1 (aadopt sh gens gens.length).2.2 → P (ecode (aadopt sh gens gens.length).1) M') : ycI d nX3_adopt [.ref H, .ref G, .int (nI gens.length)] M P := by
  obtain ⟨d, rfl, he⟩ := dS hd
  have hw8 := hI.2.2.2.2
  have hoH := hI.2.2.2.1
  have hIe : ∀ i, i < 25 → ∀ a, inE w (eid i) a → inI H w a := fun i hi a ha => by
    have := hI.2.2.1.1 i hi
    unfold inE at ha
    unfold inI
    omega
  have loop : ∀ (n g : Nat) (M' : zM) (o4 o5 : Option Value), g + n = gens.length → (aadopt sh gens g).1 = 0 → (aadopt sh gens g).2.1.length ≤ g → zfr (inI H w) M M' → (∀ j, j ≠ 2 → zI M' H j = zI M H j) → icn M' H sh (aadopt sh gens g).2.1.length → iel M' eid k (aadopt sh gens g).2.1 → iok k sh (aadopt sh gens g).2.1 → iwt M' H w k (aadopt sh gens g).2.1 (aadopt sh gens g).2.2 → wX3_adopt d (fun r M2 => ∃ x : Int32, r = [.int x] ∧ P x M2) 2 [some (.ref H), some (.ref G), some (.int (nI gens.length)), some (.int (nI g)), o4, o5] [] M' := by
    intro n
    induction n with
    | zero =>
      intro g M' o4 o5 hgn hx0 hxl hfr hf hcn hel hok hwt
      rw [show g = gens.length by omega] at hx0 hcn hel hok hwt
      refine sg_X3_adopt_2 _ _ _ _ _ _ _ ⟨fun _ => ⟨_, rfl, ?_⟩, fun c => absurd (by rw [show g = gens.length by omega]; exact Int32.le_refl _) c⟩
      have := h M' hfr hf hcn hel hok hwt
      rw [hx0] at this
      exact this
    | succ n ih =>
      intro g M' o4 o5 hgn hx0 hxl hfr hf hcn hel hok hwt
      have hgl2 : g < gens.length := by omega
      have cg := cl_n (n := g) (by omega)
      have hG' := gst_fr hfr hG
      have hI' := ist_fr hfr hI
      have ho' := ost_fr hfr (by unfold inI; omega) ho
      have hgg := gdy_fr hfr hgl (fun a h1 h2 => by unfold inI; omega) hg g _ (show gens[g]? = some (gens.getD g []) by rw [List.getD_eq_getElem?_getD, List.getElem?_eq_getElem hgl2]; rfl)
      have stp := aadopt_s (sh := sh) (g := g) (gens := gens)
      generalize hxx : aadopt sh gens g = x at hx0 hxl hcn hel hok hwt stp
      generalize gens.getD g [] = b at hgg stp
      have hbl := hgg.2.2.2
      have hGg := hG'.2 g (by omega)
      refine sg_X3_adopt_2 _ _ _ _ _ _ _ ⟨fun c => ?_, fun _ => ⟨by rw [hG'.1], by rw [hG'.1]; exact zin_n (by omega) (by omega), by rw [cg, hGg.1]; exact hGg.2.1, ?_⟩⟩
      · have := (nI_leI (by omega) (by omega)).mp c
        omega
      · rw [cg, hGg.1, hgg.1.1]
        refine ⟨fun c => ?_, fun c => ?_⟩
        · have c := (nI_leI (b := 0) (by omega) (by omega)).mp c
          rw [if_neg (fun z => z.2 (by omega))] at stp
          intro v3
          rw [show v3 = nI (g + 1) from nI_1 g]
          rw [← stp] at hx0 hxl hcn hel hok hwt
          exact ih (g + 1) M' _ _ (by omega) hx0 (by omega) hfr hf hcn hel hok hwt
        · have hb0 : b.length ≠ 0 := fun z => c (by rw [z]; decide)
          rw [if_pos ⟨hx0, hb0⟩] at stp
          have hc' := hcn
          have hlx : x.2.1.length ≤ 8 := by omega
          have cn := cl_n (n := x.2.1.length) (by omega)
          have s' := hI'.1.1
          have hr1 := hI'.1.2.2.1
          have hRn := hI'.2.1.2 x.2.1.length (by omega)
          have bn := hI'.2.2.1.1 x.2.1.length (by omega)
          refine ⟨s', s', by rw [hr1, hI'.2.1.1], by rw [hr1, hI'.2.1.1, hc'.1]; exact zin_n (by omega) (by omega), ?_⟩
          intro r4
          have e4 : r4 = eid x.2.1.length := by rw [show r4 = zR M' (zR M' H 1) (zI M' H 2).toNatClampNeg from rfl, hr1, hc'.1, cn, hRn.1]
          clear_value r4
          subst e4
          refine ⟨hRn.2.1, by rw [hG'.1], by rw [hG'.1]; exact zin_n (by omega) (by omega), by rw [hRn.2.2.1]; exact hRn.2.2.2.2.2.2.1.1, ?_⟩
          rw [hRn.2.2.1]
          refine sp_become (by omega) hRn.2.2.2.2.2.2.1 hGg.2 (by omega) hgg.1 hbl fun M3 hfr3 hpd3 => ?_
          -- the last steps: made monic, and added
          have fin : ∀ (M5 : zM) (o5 : Option Value), zfr (inE w (eid x.2.1.length)) M' M5 → edy M5 (eid x.2.1.length) k (b, aunit sh g) → ycI d nX1_makeMonic [.ref (eid x.2.1.length), .int (zI M5 H 10)] M5 fun c8 M7 => ((¬ c8 = 0 → ((zsh M7 H).1 = 12 ∧ (ycV d nX3_add [.ref H] M7 fun M9 => (let v3_10 : Int32 := nI g + 1
wX3_adopt d (fun r M2 => ∃ x : Int32, r = [.int x] ∧ P x M2) 2 [some (.ref H), some (.ref G), some (.int (nI gens.length)), some (.int v3_10), some (.ref (eid x.2.1.length)), o5] [] M9)))) ∧ (¬ (¬ c8 = 0) → (∃ x : Int32, [Value.int (((-7) : Int32))] = [.int x] ∧ P x M7))) := by
            intro M5 o5 hfr5 hed
            have hI5 := ist_fr hfr5 hI'
            have hRn5 := hI5.2.1.2 x.2.1.length (by omega)
            have hc5 := icn_fr hfr5 (by unfold inE; omega) hc'
            have hek : eok k (b, aunit sh g) := ⟨hgg.2, aunit_ok⟩
            rw [hc5.2.1]
            have hHf : ∀ {M7 : zM}, zfr (inE w (eid x.2.1.length)) M5 M7 → ∀ j, zI M7 H j = zI M' H j := fun hfr7 j => by rw [(hfr7.2.2.2.2 H (by unfold inE; omega)).1, (hfr5.2.2.2.2 H (by unfold inE; omega)).1]
            have hother : ∀ {M7 : zM}, zfr (inE w (eid x.2.1.length)) M5 M7 → iel M7 eid k x.2.1 := fun hfr7 => iel_fr (zfr_tr hfr5 hfr7) hI' hok hsh (by omega) (fun i hi a ha => by
              have := hI'.2.2.1.2 i x.2.1.length (by omega) (by omega) (by omega)
              unfold inE at ha
              unfold inE
              omega) hel
            refine sp_makeMonic (by omega) hRn5.2 hed hek (fun z => hb0 (by rw [show b = [] from z]; rfl)) aunit_len hsh hw8 (fun E' M7 hE' hfr7 hed7 => ?_) (fun M7 hn7 hfr7 => ?_)
            · rw [hE'] at stp
              have hI7 := ist_fr hfr7 hI5
              obtain ⟨k1, k2, k3⟩ := amonic_ok hek hE'
              have hok7 := iok_app hok k1 (amonic_ne hek hE') (k2.trans aunit_len)
              refine ⟨fun _ => ⟨hI7.1.1, ?_⟩, fun z => absurd (Classical.not_not.mp z) (by decide)⟩
              refine sp_add (by omega) hI7 (ost_fr (zfr_tr hfr5 hfr7) (by unfold inE; omega) ho') hsh (icn_fr hfr7 (by unfold inE; omega) hc5) (by omega) (iel_app (hother hfr7) hed7) hok7 (iwt_fr (zfr_tr hfr5 hfr7) (by unfold inE; omega) hwt) fun M9 hfr9 hf9 hc9 hw9 => ?_
              intro v3
              rw [show v3 = nI (g + 1) from nI_1 g]
              have hfa : zfr (inI H w) M' M9 := zfr_tr (zfr_up (zfr_tr hfr5 hfr7) (hIe _ (by omega))) (zfr_up hfr9 fun a ha => by unfold inI; omega)
              have hel9 : iel M9 eid k (x.2.1 ++ [E']) := iel_fr hfr9 hI7 hok7 hsh (by simp; omega) (fun i hi a ha => by
                have hi2 : i < x.2.1.length + 1 := by simpa using hi
                have := hI7.2.2.1.1 i (by omega)
                unfold inE at ha
                omega) (iel_app (hother hfr7) hed7)
              have el : (aadopt sh gens (g + 1)).2.1 = x.2.1 ++ [E'] := by rw [stp]
              have ew : (aadopt sh gens (g + 1)).2.2 = won x.2.2 x.2.1.length := by rw [stp]
              refine ih (g + 1) M9 _ _ (by omega) (by rw [stp]) (by rw [el]; simp; omega) (zfr_tr hfr hfa) (fun j hj => ?_) (by rw [el, List.length_append]; exact hc9) (by rw [el]; exact hel9) (by rw [el]; exact hok7) (by rw [el, ew]; exact hw9)
              rw [hf9 j hj, hHf hfr7 j]
              exact hf j hj
            · rw [hn7] at stp
              have stp : aadopt sh gens (g + 1) = (2, x.2) := stp
              have hno := aadopt_no (sh := sh) (g := g + 1) (gens := gens) (by rw [stp]; exact (by decide : (2 : Nat) ≠ 0)) (show g + 1 ≤ gens.length by omega)
              rw [stp] at hno
              refine ⟨fun z => absurd rfl z, fun _ => ⟨_, rfl, ?_⟩⟩
              have := h M7 (zfr_tr hfr (zfr_up (zfr_tr hfr5 hfr7) (hIe _ (by omega)))) (fun j hj => by rw [hHf hfr7 j]; exact hf j hj)
              rw [hno] at this
              exact this (icn_fr hfr7 (by unfold inE; omega) hc5) (hother hfr7) hok (iwt_fr (zfr_tr hfr5 hfr7) (by unfold inE; omega) hwt)
          -- cofactors emptied
          have inner : ∀ (m i : Nat) (M4 : zM), i + m = sh → zfr (inE w (eid x.2.1.length)) M' M4 → pdy M4 (eid x.2.1.length + 1) k b → (∀ j, j < i → pdy M4 (eid x.2.1.length + 6 + 4 * j) k []) → wX3_adopt d (fun r M2 => ∃ x : Int32, r = [.int x] ∧ P x M2) 24 [some (.ref H), some (.ref G), some (.int (nI gens.length)), some (.int (nI g)), some (.ref (eid x.2.1.length)), some (.int (nI i))] [] M4 := by
            intro m
            induction m with
            | zero =>
              intro i M4 him hfr4 hpd4 hem
              have hI4 := ist_fr hfr4 hI'
              have hRn4 := hI4.2.1.2 x.2.1.length (by omega)
              have hc4 := icn_fr hfr4 (by unfold inE; omega) hc'
              have hin : i = sh := by omega
              refine sg_X3_adopt_24 _ _ _ _ _ _ _ ⟨hI4.1.1, fun _ => ⟨hI4.1.1, fun c => ⟨hI4.1.1, hRn4.2.1, ?_⟩, fun c => ?_⟩, fun c => absurd (by rw [hc4.2.1, hin]; exact Int32.le_refl _) c⟩
              · rw [hc4.2.1] at c
                have c := (nI_leI (by omega) (by omega)).mp c
                refine fin M4 _ hfr4 ⟨hpd4, fun j L hj => ?_⟩
                obtain ⟨j1, j2⟩ := aunit_at hj
                rw [j2, if_neg (by omega)]
                exact hem j (by omega)
              · rw [hc4.2.1] at c
                have c : ¬ sh ≤ g := fun z => c ((nI_leI (by omega) (by omega)).mpr z)
                have hp := hRn4.2.2.2.2.2.2.2 g (by omega)
                refine ⟨hRn4.2.1, by rw [hRn4.2.2.2.1, hRn4.2.2.2.2.1], by rw [hRn4.2.2.2.1, hRn4.2.2.2.2.1]; exact zin_n (by omega) (by omega), by rw [hRn4.2.2.2.1, cg, hRn4.2.2.2.2.2.1 g (by omega)]; exact hp.1, ?_⟩
                rw [hRn4.2.2.2.1, cg, hRn4.2.2.2.2.2.1 g (by omega)]
                refine sp_come (t := ((1, 1), mone)) (by omega) hp (ost_fr hfr4 (by unfold inE; omega) ho') (hem g (by omega)) pok_nil tok_1 (fun L' M5 hL' hfr5 hpd5 => ?_) (fun hn => by cases hn)
                have hL' : some [((1, 1), mone)] = some L' := hL'
                cases hL'
                have hfr5' : zfr (inE w (eid x.2.1.length)) M4 M5 := zfr_up hfr5 fun a ha => by unfold inP at ha; unfold inE; omega
                have hI5 := ist_fr hfr5 hI4
                refine ⟨fun _ => ⟨hI5.1.1, (hI5.2.1.2 _ (by omega)).2.1, fin M5 _ (zfr_tr hfr4 hfr5') ⟨pdy_fr hfr5 (inP_ne (by omega)) hpd4, fun j L hj => ?_⟩⟩, fun z => absurd (Classical.not_not.mp z) (by decide)⟩
                obtain ⟨j1, j2⟩ := aunit_at hj
                by_cases hjg : j = g
                · rw [j2, if_pos hjg, hjg]
                  exact hpd5
                · rw [j2, if_neg hjg]
                  exact pdy_fr hfr5 (inP_ne (by omega)) (hem j (by omega))
            | succ m ihm =>
              intro i M4 him hfr4 hpd4 hem
              have hI4 := ist_fr hfr4 hI'
              have hRn4 := hI4.2.1.2 x.2.1.length (by omega)
              have hc4 := icn_fr hfr4 (by unfold inE; omega) hc'
              have ci := cl_n (n := i) (by omega)
              have hp := hRn4.2.2.2.2.2.2.2 i (by omega)
              refine sg_X3_adopt_24 _ _ _ _ _ _ _ ⟨hI4.1.1, fun c => ?_, fun _ => ⟨hRn4.2.1, by rw [hRn4.2.2.2.1, hRn4.2.2.2.2.1], by rw [hRn4.2.2.2.1, hRn4.2.2.2.2.1]; exact zin_n (by omega) (by omega), by rw [hRn4.2.2.2.1, ci, hRn4.2.2.2.2.2.1 i (by omega)]; exact hp.1, ?_⟩⟩
              · rw [hc4.2.1] at c
                have := (nI_leI (by omega) (by omega)).mp c
                omega
              · rw [hRn4.2.2.2.1, ci, hRn4.2.2.2.2.2.1 i (by omega)]
                refine sp_empty (k := k) (by omega) hp fun M5 hfr5 hpd5 => ?_
                intro v5
                rw [show v5 = nI (i + 1) from nI_1 i]
                refine ihm (i + 1) M5 (by omega) (zfr_tr hfr4 (zfr_up hfr5 fun a ha => by unfold inP at ha; unfold inE; omega)) (pdy_fr hfr5 (inP_ne (by omega)) hpd4) fun j hj => ?_
                by_cases hji : j = i
                · rw [hji]; exact hpd5
                · exact pdy_fr hfr5 (inP_ne (by omega)) (hem j (by omega))
          exact inner sh 0 M3 (by omega) (zfr_up hfr3 fun a ha => by unfold inP at ha; unfold inE; omega) hpd3 fun j hj => absurd hj (Nat.not_lt_zero _)
  exact en_X3_adopt _ _ _ M (sg_X3_adopt_0 _ _ _ M (loop gens.length 0 M _ _ (by omega) rfl (Nat.le_refl _) zfr_rf (fun _ _ => rfl) hc (fun i E hi => by cases hi) (fun E hE => absurd hE List.not_mem_nil) (fun i j _ hj => absurd hj (Nat.not_lt_zero _))))
end
section
/-! a pair is settled, in the class -/
theorem adiv_le {k : Nat} {bs : List aP} {lo : Option Nat} : ∀ (n : Nat) (f r : aP) (qs : List aP), (adiv k bs lo n f r qs).2.1 ≤ n
  | 0, [], r, qs => Nat.le_refl _
  | 0, _ :: _, r, qs => Nat.le_refl _
  | n + 1, [], r, qs => Nat.le_refl _
  | n + 1, t :: f, r, qs => by
    rw [adiv_step]
    split
    · split
      · exact Nat.le_succ n
      · exact Nat.le_succ_of_le (adiv_le n _ _ _)
    · split
      · exact Nat.le_succ n
      · split
        · exact Nat.le_succ n
        · exact Nat.le_succ_of_le (adiv_le n _ _ _)
theorem ecode_0 {c : Nat} : ecode c = 0 ↔ c = 0 := by
  match c with
  | 0 => exact ⟨fun _ => rfl, fun _ => rfl⟩
  | 1 => exact ⟨fun h => absurd h (by decide), fun h => absurd h (by decide)⟩
  | c + 2 => exact ⟨fun h => absurd h (by show ¬ (-7 : Int32) = 0; decide), fun h => absurd h (by omega)⟩
theorem sp_settle {d H D o w k sh l r st lim : Nat} {M : zM} {eid : Nat → Nat} {es : List aE} {W : Nat → Nat → Bool} {P : Int32 → zM → Prop} (hd : 6 ≤ d) (hI : ist M H o w eid) (hD : dst M D o) (ho : ost M o k) (hsh : sh ≤ w) (hHD : H + 153 + 100 * w ≤ D ∨ D + 106 ≤ H) (hoD : o < D) (hc : icn M H sh es.length) (hE : iel M eid k es) (hk : iok k sh es) (hW : iwt M H w k es W) (hL : zI M H 8 = nI l) (hR : zI M H 9 = nI r) (hlr : l < r) (hr : r < es.length) (hst : zI M D 3 = nI st) (hlim : zI M D 4 = nI lim) (hsl : st ≤ lim) (hl2 : lim ≤ 20000)
    (h : ∀ x, asettle k sh es W (lim - st) l r = x → ∀ M', zfr (fun a => inI H w a ∨ inD D a) M M' → zI M' H 4 = zI M H 4 + 1 → zI M' H 5 = zI M H 5 + nI x.2.2.2.2 → zI M' D 4 = nI lim → zI M' D 3 = nI (lim - x.2.2.2.1) → icn M' H sh x.2.1.length → (x.1 = 0 → x.2.2.2.1 ≤ lim ∧ iel M' eid k x.2.1 ∧ iok k sh x.2.1 ∧ iwt M' H w k x.2.1 x.2.2.1) → P (ecode x.1) M') : ycI d nX3_settlePair [.ref H, .ref D] M P := by
  obtain ⟨d, rfl, he⟩ := dS hd
  have hl := hc.2.2
  have hw8 := hI.2.2.2.2
  have hoH := hI.2.2.2.1
  have s := hI.1.1
  have hr1 := hI.1.2.2.1
  have hr7 := hI.1.2.2.2.1
  have ix : zI M H 9 * 24 + zI M H 8 = nI (24 * r + l) := by
    rw [hR, hL, show (24 : Int32) = nI 24 from rfl, pk_mul, nI_add, Nat.mul_comm]
  have cx := cl_n (n := 24 * r + l) (by omega)
  have cl := cl_n (n := l) (by omega)
  have cr := cl_n (n := r) (by omega)
  have cn := cl_n (n := es.length) (by omega)
  have bn := hI.2.2.1.1 es.length (by omega)
  refine en_X3_settlePair _ _ M (sg_X3_settlePair_0 _ _ M ⟨s, s, s, by rw [hr7, hI.1.2.2.2.2], by rw [hr7, ix, hI.1.2.2.2.2]; exact zin_n (by omega) (by omega), ?_⟩)
  intro M1
  refine ⟨s, s, ?_⟩
  intro M2
  have e1 : M1 = zuI M (H + 152 + 100 * w) (24 * r + l) (-1) := by rw [show M1 = zuI M (zR M H 7) (zI M H 9 * 24 + zI M H 8).toNatClampNeg (-1) from rfl, hr7, ix, cx]
  have e2 : M2 = zuI M1 H 4 (zI M1 H 4 + 1) := rfl
  clear_value M2 M1
  subst e2
  generalize hM2 : zuI M1 H 4 (zI M1 H 4 + 1) = M2
  have hf1 : ∀ j, zI M1 H j = zI M H j := fun j => by rw [e1, zI_uI, if_neg (by omega)]
  have hf4 : zI M2 H 4 = zI M H 4 + 1 := by rw [← hM2, zI_uI, if_pos ⟨rfl, rfl⟩, hf1]
  have hf2 : ∀ j, j ≠ 4 → zI M2 H j = zI M H j := fun j hj => by rw [← hM2, zI_uI, if_neg (by omega), hf1]
  have hfr2 : zfr (fun a => a = H ∨ a = H + 152 + 100 * w) M M2 := zfr_tr (M2 := M1) (by rw [e1]; exact zfr_uI (Or.inr rfl)) (by rw [← hM2]; exact zfr_uI (Or.inl rfl))
  have hI2 := ist_fr hfr2 hI
  have hD2 := dst_fr hfr2 hD
  have ho2 := ost_fr hfr2 (by omega) ho
  have hc2 : icn M2 H sh es.length := ⟨by rw [hf2 2 (by omega)]; exact hc.1, by rw [hf2 10 (by omega)]; exact hc.2.1, hl⟩
  have hE2 : iel M2 eid k es := iel_fr hfr2 hI hk hsh hl (fun i hi a ha => by
    have := hI.2.2.1.1 i (by omega)
    unfold inE at ha
    omega) hE
  have hW2 : iwt M2 H w k es (woff W l r) := fun i j hij hj => by
    rw [← hM2, zI_uI, if_neg (by omega), e1, zI_uI]
    by_cases hz : i = l ∧ j = r
    · rw [if_pos ⟨rfl, by omega⟩, show woff W l r i j = false from if_pos hz]
      rfl
    · rw [if_neg (by omega), hW i j hij hj, show woff W l r i j = W i j from if_neg hz]
  have hL2 : zI M2 H 8 = nI l := by rw [hf2 8 (by omega)]; exact hL
  have hR2 : zI M2 H 9 = nI r := by rw [hf2 9 (by omega)]; exact hR
  have hD32 : zI M2 D 3 = nI st := by rw [(hfr2.2.2.2.2 D (by omega)).1]; exact hst
  have hD42 : zI M2 D 4 = nI lim := by rw [(hfr2.2.2.2.2 D (by omega)).1]; exact hlim
  have hRl := hI2.2.1.2 l (by omega)
  have hRr := hI2.2.1.2 r (by omega)
  have s2 := hI2.1.1
  have hr12 := hI2.1.2.2.1
  -- what stays
  have keep : ∀ M', zfr (fun a => inE w (eid es.length) a ∨ inD D a) M2 M' → icn M' H sh es.length ∧ iel M' eid k es ∧ iwt M' H w k es (woff W l r) ∧ zI M' H 4 = zI M H 4 + 1 ∧ zI M' H 5 = zI M H 5 ∧ zfr (fun a => inI H w a ∨ inD D a) M M' := fun M' hf => by
    have hH := hf.2.2.2.2 H (by unfold inE inD; omega)
    refine ⟨icn_fr hf (by unfold inE inD; omega) hc2, iel_fr hf hI2 hk hsh hl (fun i hi a ha => ?_) hE2, iwt_fr hf (by unfold inE inD; omega) hW2, by rw [hH.1]; exact hf4, by rw [hH.1]; exact hf2 5 (by omega), zfr_tr (zfr_up hfr2 fun a ha => Or.inl (by unfold inI; omega)) (zfr_up hf fun a ha => ?_)⟩
    · have := hI.2.2.1.1 i (by omega)
      have := hI.2.2.1.2 i es.length (by omega) (by omega) (by omega)
      unfold inE at ha
      unfold inE inD
      omega
    · unfold inE inD at ha
      unfold inI inD
      omega
  rw [show zsh M = zsh M2 from funext fun a => (hfr2.1 a).symm]
  refine ⟨s2, s2, ?_⟩
  have eR : ∀ a j, zR M a j = zR M2 a j := fun a j => (hfr2.2.2.2.1 a j).symm
  rw [eR H 1, eR (zR M2 H 1) (zI M2 H 8).toNatClampNeg, hr12, hL2, cl, hRl.1]
  refine ⟨by rw [hI2.2.1.1], by rw [hI2.2.1.1]; exact zin_n (by omega) (by omega), hRl.2.1, sp_ld (by omega) hI2 hE2 hk (by omega) (by omega) ⟨s2, s2, by rw [hr12, hI2.2.1.1], by rw [hr12, hI2.2.1.1, hR2]; exact zin_n (by omega) (by omega), by rw [hr12, hR2, cr, hRr.1]; exact hRr.2.1, ?_⟩⟩
  rw [hr12, hR2, cr, hRr.1]
  refine sp_ld (by omega) hI2 hE2 hk (by omega) hr (sp_leastCommon (by omega) (iok_mok hk _) (iok_mok hk _) ⟨s2, ?_⟩)
  refine sp_isNeedless (by omega) hI2 hc2 hE2 hk hW2 hL2 hR2 hlr hr (fun hn => ⟨fun z => absurd z (by decide), fun _ => ⟨s2, s2, ?_⟩⟩) (fun hn => ⟨fun _ => ⟨s2, hD2.1, ?_⟩, fun z => absurd rfl z⟩)
  · -- passed over
    intro M3
    refine ⟨_, rfl, ?_⟩
    have hfr3 : zfr (fun a => a = H) M2 M3 := zfr_uI rfl
    have g5 : ∀ j, j ≠ 5 → zI M3 H j = zI M2 H j := fun j hj => by rw [show M3 = zuI M2 H 5 (zI M2 H 5 + 1) from rfl, zI_uI, if_neg (by omega)]
    refine h (0, es, woff W l r, lim - st, 1) (by unfold asettle; rw [if_pos hn]) M3 (zfr_tr (zfr_up hfr2 fun a ha => Or.inl (by unfold inI; omega)) (zfr_up hfr3 fun a ha => Or.inl (by unfold inI; omega))) (by rw [g5 4 (by omega)]; exact hf4) (by rw [show M3 = zuI M2 H 5 (zI M2 H 5 + 1) from rfl, zI_uI, if_pos ⟨rfl, rfl⟩, hf2 5 (by omega)]; rfl) (by rw [(hfr3.2.2.2.2 D (by omega)).1]; exact hD42) (by rw [(hfr3.2.2.2.2 D (by omega)).1, hD32]; congr 1; show st = lim - (lim - st); omega) ⟨by rw [g5 2 (by omega)]; exact hc2.1, by rw [g5 10 (by omega)]; exact hc2.2.1, hl⟩ fun _ => ⟨by show lim - st ≤ lim; omega, ?_, hk, iwt_fr hfr3 (by omega) hW2⟩
    exact iel_fr hfr3 hI2 hk hsh hl (fun i hi a ha => by
      have := hI.2.2.1.1 i (Nat.lt_of_lt_of_le (show i < es.length from hi) (by omega))
      unfold inE at ha
      omega) hE2
  · -- divided
    have hA : asettle k sh es W (lim - st) l r = (match aspol k (es.getD l aE0) (es.getD r aE0) (es.getD l aE0).1 (es.getD r aE0).1 with
      | none => (2, es, woff W l r, lim - st, 0)
      | some f => match omp (fun kk => aspol k (es.getD l aE0) (es.getD r aE0) (acof es l kk) (acof es r kk)) sh with
        | none => (2, es, woff W l r, lim - st, 0)
        | some cs => if (adiv k (es.map Prod.fst) none (lim - st) f [] (List.replicate es.length [])).1 = 0 then
            (if (adiv k (es.map Prod.fst) none (lim - st) f [] (List.replicate es.length [])).2.2.1.length = 0 then (0, es, woff W l r, (adiv k (es.map Prod.fst) none (lim - st) f [] (List.replicate es.length [])).2.1, 0) else
              match anew k sh es (adiv k (es.map Prod.fst) none (lim - st) f [] (List.replicate es.length [])).2.2.2 (adiv k (es.map Prod.fst) none (lim - st) f [] (List.replicate es.length [])).2.2.1 cs with
              | none => (2, es, woff W l r, (adiv k (es.map Prod.fst) none (lim - st) f [] (List.replicate es.length [])).2.1, 0)
              | some E => (0, es ++ [E], won (woff W l r) es.length, (adiv k (es.map Prod.fst) none (lim - st) f [] (List.replicate es.length [])).2.1, 0))
          else ((adiv k (es.map Prod.fst) none (lim - st) f [] (List.replicate es.length [])).1, es, woff W l r, (adiv k (es.map Prod.fst) none (lim - st) f [] (List.replicate es.length [])).2.1, 0)) := by
      unfold asettle
      rw [if_neg (by rw [hn]; decide)]
      rfl
    rw [hc2.1]
    refine sp_makeReady (k := k) (by omega) hD2 (by omega) fun M3 hfr3 hdd3 => ?_
    have hfr3' : zfr (fun a => inE w (eid es.length) a ∨ inD D a) M2 M3 := zfr_up hfr3 fun a ha => Or.inr (by unfold inD1 at ha; unfold inD; omega)
    obtain ⟨c3, E3, W3, -, -, -⟩ := keep M3 hfr3'
    have hI3 := ist_fr hfr3 hI2
    have hD3 := dst_fr hfr3 hD2
    have ho3 := ost_fr hfr3 (by unfold inD1; omega) ho2
    have dd : ∀ j, zI M3 D j = zI M2 D j := (hfr3.2.2.2.2 D (by unfold inD1; omega)).1
    refine ⟨hD3.1, hI3.1.1, ?_⟩
    rw [hD3.2.1]
    refine sp_crossOut (by omega) hI3 ho3 hsh c3 E3 hk (by rw [(hfr3.2.2.2.2 H (by unfold inD1; omega)).1]; exact hL2) (by rw [(hfr3.2.2.2.2 H (by unfold inD1; omega)).1]; exact hR2) hlr hr hD3.2.2.2.2.2.2.1 (by unfold inP; omega) (by omega) hdd3.1 (fun f cs M4 hf hcs hfr4 hpd4 hpk4 hcc4 => ⟨fun _ => ?_, fun z => absurd (Classical.not_not.mp z) (by decide)⟩) (fun M4 hn4 hfr4 => ⟨fun z => absurd rfl z, fun _ => ⟨_, rfl, ?_⟩⟩)
    · rw [hf, hcs] at hA
      dsimp only at hA
      have hfr4' : zfr (fun a => inE w (eid es.length) a ∨ inD D a) M2 M4 := zfr_tr hfr3' (zfr_up hfr4 fun a ha => by unfold inP inC at ha; unfold inE inD; omega)
      obtain ⟨c4, E4, W4, -, -, -⟩ := keep M4 hfr4'
      have hI4 := ist_fr hfr4 hI3
      have hD4 := dst_fr hfr4 hD3
      have ho4 := ost_fr hfr4 (by unfold inP inC; omega) ho3
      have dd4 : ∀ j, zI M4 D j = zI M2 D j := fun j => by rw [(hfr4.2.2.2.2 D (by unfold inP inC; omega)).1, dd]
      refine ⟨hI4.1.1, hI4.1.1, hD4.1, ?_⟩
      rw [hI4.1.2.2.1, c4.1]
      have hb4 : ∀ (i : Nat) (b : aP), (es.map Prod.fst)[i]? = some b → pdy M4 (eid i + 1) k b ∧ pok k b ∧ b ≠ [] := fun i b hb => by
        rw [List.getElem?_map] at hb
        cases hei : es[i]? with
        | none => rw [hei] at hb; cases hb
        | some E =>
          rw [hei] at hb
          cases hb
          have hE := hk E (List.mem_of_getElem? hei)
          exact ⟨(E4 i E hei).1, hE.1.1, hE.2.1⟩
      have hdd4 : ddy M4 D k f [] (List.replicate es.length []) := ⟨hpd4, pdy_fr hfr4 (fun a ha => by unfold inP at ha; unfold inP inC; omega) hdd3.2.1, fun i q hi => pdy_fr hfr4 (fun a ha => by
        have := (List.getElem?_eq_some_iff.mp hi).1
        rw [List.length_replicate] at this
        unfold inP at ha
        unfold inP inC
        omega) (hdd3.2.2 i q hi)⟩
      refine sp_run (lo := none) (st0 := st) (lim := lim) (by omega) hD4 hI4.2.1 ho4 (by unfold inD; omega) (fun i hi => by have := hI4.2.2.1.1 i hi; omega) hb4 (by rw [List.length_map]) (by omega) (fun j hj => by cases hj) hdd4 hpk4 pok_nil (fun q hq => by rw [(List.mem_replicate.mp hq).2]; exact pok_nil) List.length_replicate (by rw [dd4]; exact hD32) (by rw [dd4]; exact hD42) hsl hl2 fun M5 hfr5 h54 h53 h5ok => ?_
      have hle := adiv_le (k := k) (bs := es.map Prod.fst) (lo := none) (lim - st) f [] (List.replicate es.length [])
      generalize adiv k (es.map Prod.fst) none (lim - st) f [] (List.replicate es.length []) = dv at hA h53 h5ok hle
      have hfr5' : zfr (fun a => inE w (eid es.length) a ∨ inD D a) M2 M5 := zfr_tr hfr4' (zfr_up hfr5 fun a ha => Or.inr ha)
      obtain ⟨c5, E5, W5, f54, f55, fr5⟩ := keep M5 hfr5'
      refine ⟨fun z => ?_, fun z => ?_⟩
      · have z : dv.1 ≠ 0 := fun e => z (by rw [e]; rfl)
        rw [if_neg z] at hA
        exact ⟨_, rfl, h _ hA M5 fr5 f54 (by rw [f55]; exact (Int32.add_zero _).symm) h54 h53 c5 (fun e => absurd e z)⟩
      · have z : dv.1 = 0 := ecode_0.mp (Classical.not_not.mp z)
        rw [if_pos z] at hA
        obtain ⟨hdd5, hrk5, hqk5, hql5⟩ := h5ok z
        have hI5 := ist_fr hfr5 hI4
        have hD5 := dst_fr hfr5 hD4
        have hrl := hrk5.2.2
        refine ⟨hD5.1, by rw [hD5.2.2.1]; exact hD5.2.2.2.2.2.2.2.1.1, ?_⟩
        rw [hD5.2.2.1, hdd5.2.1.1]
        refine ⟨fun zr => ?_, fun zr => ?_⟩
        · have zr : ¬ dv.2.2.1.length = 0 := fun e => zr (by rw [e]; rfl)
          rw [if_neg zr] at hA
          have hRn := hI5.2.1.2 es.length (by omega)
          refine ⟨hI5.1.1, hI5.1.1, by rw [hI5.1.2.2.1, hI5.2.1.1], by rw [hI5.1.2.2.1, hI5.2.1.1, c5.1]; exact zin_n (by omega) (by omega), ?_⟩
          intro r4
          have e4 : r4 = eid es.length := by rw [show r4 = zR M5 (zR M5 H 1) (zI M5 H 2).toNatClampNeg from rfl, hI5.1.2.2.1, c5.1, cn, hRn.1]
          clear_value r4
          subst e4
          refine ⟨hRn.2.1, hD5.1, by rw [hRn.2.2.1]; exact hRn.2.2.2.2.2.2.1.1, ?_⟩
          rw [hRn.2.2.1]
          refine sp_become (by omega) hRn.2.2.2.2.2.2.1 hD5.2.2.2.2.2.2.2.1 (by omega) hdd5.2.1 hrl fun M6 hfr6 hpd6 => ?_
          have hfr6' : zfr (fun a => inE w (eid es.length) a ∨ inD D a) M2 M6 := zfr_tr hfr5' (zfr_up hfr6 fun a ha => Or.inl (by unfold inP at ha; unfold inE; omega))
          obtain ⟨c6, E6, W6, f64, f65, fr6⟩ := keep M6 hfr6'
          have hI6 := ist_fr hfr6 hI5
          have hD6 := dst_fr hfr6 hD5
          have ho6 := ost_fr hfr6' (by unfold inE inD; omega) ho2
          have d6 : ∀ j, zI M6 D j = zI M5 D j := (hfr6.2.2.2.2 D (by unfold inP; omega)).1
          refine ⟨hI6.1.1, ?_⟩
          rw [c6.1]
          refine ⟨fun c24 => ?_, fun c24 => ⟨hI6.1.1, ?_⟩⟩
          · have c24 := (nI_leI (a := 24) (by omega) (by omega)).mp c24
            rw [show anew k sh es dv.2.2.2 dv.2.2.1 cs = none from if_pos c24] at hA
            exact ⟨_, rfl, h _ hA M6 fr6 f64 (by rw [f65]; exact (Int32.add_zero _).symm) (by rw [d6]; exact h54) (by rw [d6]; exact h53) c6 (fun e => absurd (show (2 : Nat) = 0 from e) (by decide))⟩
          · have c24 : ¬ 24 ≤ es.length := fun z => c24 ((nI_leI (a := 24) (by omega) (by omega)).mpr z)
            have hnew : anew k sh es dv.2.2.2 dv.2.2.1 cs = (match omp (fun kk => als k true kk es dv.2.2.2 (cs.getD kk []) es.length) sh with
              | none => none
              | some cs' => amonic (dv.2.2.1, cs')) := if_neg c24
            refine sp_takeQ (cs := cs) (qs := dv.2.2.2) (by omega) hI6 hD6 ho6 hsh hHD c6 (by omega) (fun e E _ hx => E6 e E hx) hk (fun e q hq => ⟨pdy_fr hfr6 (fun a ha => by
                have := (List.getElem?_eq_some_iff.mp hq).1
                unfold inP at ha
                unfold inP
                omega) (hdd5.2.2 e q hq), hqk5 q (List.mem_of_getElem? hq), fun e0 => by
                have := (List.getElem?_eq_some_iff.mp hq).1
                omega⟩) hql5 (fun j c hj => ?_) (omp_len hcs) (fun cs' M7 hcs' hfr7 hcc7 => ?_) (fun M7 hn7 hfr7 => ?_)
            · have hjl := (List.getElem?_eq_some_iff.mp hj).1
              rw [omp_len hcs] at hjl
              obtain ⟨a1, a2⟩ := hcc4 j c hj
              exact ⟨pdy_fr hfr6 (inP_ne (by omega)) (pdy_fr hfr5 (fun a ha => by unfold inP at ha; unfold inD; omega) a1), a2⟩
            · rw [hcs'] at hnew
              dsimp only at hnew
              have hfr7' : zfr (fun a => inE w (eid es.length) a ∨ inD D a) M2 M7 := zfr_tr hfr6' (zfr_up hfr7 fun a ha => Or.inl (by unfold inC at ha; unfold inE; omega))
              obtain ⟨c7, E7, W7, f74, f75, fr7⟩ := keep M7 hfr7'
              have hI7 := ist_fr hfr7 hI6
              have hRn7 := hI7.2.1.2 es.length (by omega)
              have hek : eok k (dv.2.2.1, cs') := ⟨hrk5, fun L hL => by
                obtain ⟨i, hi⟩ := List.getElem?_of_mem hL
                exact (hcc7 i L hi).2⟩
              refine ⟨fun z => absurd z (by decide), fun _ => ⟨hI7.1.1, hRn7.2.1, ?_⟩⟩
              rw [c7.2.1]
              refine sp_makeMonic (E := (dv.2.2.1, cs')) (by omega) hRn7.2 ⟨pdy_fr hfr7 (fun a ha => by unfold inP at ha; unfold inC; omega) hpd6, fun j L hj => (hcc7 j L hj).1⟩ hek (fun e => zr (by rw [show dv.2.2.1 = [] from e]; rfl)) (omp_len hcs') hsh hw8 (fun E' M8 hE' hfr8 hed8 => ?_) (fun M8 hn8 hfr8 => ?_)
              · rw [hnew, hE'] at hA
                have hA : asettle k sh es W (lim - st) l r = (0, es ++ [E'], won (woff W l r) es.length, dv.2.1, 0) := hA
                have hfr8' := zfr_tr hfr7' (zfr_up hfr8 fun a ha => Or.inl ha)
                obtain ⟨c8', E8', W8, f84, f85, fr8⟩ := keep M8 hfr8'
                have hI8 := ist_fr hfr8 hI7
                obtain ⟨k1, k2, k3⟩ := amonic_ok hek hE'
                have hok8 := iok_app hk k1 (amonic_ne hek hE') (k2.trans (omp_len hcs'))
                refine ⟨fun _ => ⟨hI8.1.1, ?_⟩, fun z => absurd (Classical.not_not.mp z) (by decide)⟩
                refine sp_add (by omega) hI8 (ost_fr hfr8' (by unfold inE inD; omega) ho2) hsh c8' (by omega) (iel_app E8' hed8) hok8 W8 fun M9 hfr9 hf9 hc9 hw9 => ⟨_, rfl, ?_⟩
                have d9 : ∀ j, zI M9 D j = zI M5 D j := fun j => by
                  rw [(hfr9.2.2.2.2 D (by omega)).1, (hfr8.2.2.2.2 D (by unfold inE; omega)).1, (hfr7.2.2.2.2 D (by unfold inC; omega)).1, d6]
                refine h _ hA M9 (zfr_tr fr8 (zfr_up hfr9 fun a ha => Or.inl (by unfold inI; omega))) (by rw [hf9 4 (by omega)]; exact f84) (by rw [hf9 5 (by omega), f85]; exact (Int32.add_zero _).symm) (by rw [d9]; exact h54) (by rw [d9]; exact h53) (by rw [List.length_append]; exact hc9) fun _ => ⟨by show dv.2.1 ≤ lim; omega, ?_, hok8, hw9⟩
                exact iel_fr hfr9 hI8 hok8 hsh (by simp; omega) (fun i hi a ha => by
                  have hi2 : i < es.length + 1 := by simpa using hi
                  have := hI.2.2.1.1 i (by omega)
                  unfold inE at ha
                  omega) (iel_app E8' hed8)
              · rw [hnew, hn8] at hA
                have hfr8' := zfr_tr hfr7' (zfr_up hfr8 fun a ha => Or.inl ha)
                obtain ⟨c8', E8', W8, f84, f85, fr8⟩ := keep M8 hfr8'
                have d8 : ∀ j, zI M8 D j = zI M5 D j := fun j => by
                  rw [(hfr8.2.2.2.2 D (by unfold inE; omega)).1, (hfr7.2.2.2.2 D (by unfold inC; omega)).1, d6]
                exact ⟨fun z => absurd rfl z, fun _ => ⟨_, rfl, h _ hA M8 fr8 f84 (by rw [f85]; exact (Int32.add_zero _).symm) (by rw [d8]; exact h54) (by rw [d8]; exact h53) c8' (fun e => absurd (show (2 : Nat) = 0 from e) (by decide))⟩⟩
            · rw [hn7] at hnew
              rw [hnew] at hA
              have hfr7' : zfr (fun a => inE w (eid es.length) a ∨ inD D a) M2 M7 := zfr_tr hfr6' (zfr_up hfr7 fun a ha => Or.inl (by unfold inC at ha; unfold inE; omega))
              obtain ⟨c7, E7, W7, f74, f75, fr7⟩ := keep M7 hfr7'
              have d7 : ∀ j, zI M7 D j = zI M5 D j := fun j => by
                rw [(hfr7.2.2.2.2 D (by unfold inC; omega)).1, d6]
              exact ⟨fun _ => ⟨_, rfl, h _ hA M7 fr7 f74 (by rw [f75]; exact (Int32.add_zero _).symm) (by rw [d7]; exact h54) (by rw [d7]; exact h53) c7 (fun e => absurd (show (2 : Nat) = 0 from e) (by decide))⟩, fun z => absurd rfl z⟩
        · have zr : dv.2.2.1.length = 0 := (nI_z (by omega)).mp (Classical.not_not.mp zr)
          rw [if_pos zr] at hA
          rw [z]
          exact ⟨_, rfl, h _ hA M5 fr5 f54 (by rw [f55]; exact (Int32.add_zero _).symm) h54 h53 c5 fun _ => ⟨by show dv.2.1 ≤ lim; omega, E5, hk, W5⟩⟩
    · have hA : asettle k sh es W (lim - st) l r = (2, es, woff W l r, lim - st, 0) := by
        rw [hA]
        rcases hn4 with hn4 | hn4
        · rw [hn4]
        · rw [hn4]
          split <;> rfl
      have hfr4' : zfr (fun a => inE w (eid es.length) a ∨ inD D a) M2 M4 := zfr_tr hfr3' (zfr_up hfr4 fun a ha => by unfold inP inC at ha; unfold inE inD; omega)
      obtain ⟨c4, E4, W4, f44, f45, fr4⟩ := keep M4 hfr4'
      have dd4 : ∀ j, zI M4 D j = zI M2 D j := fun j => by rw [(hfr4.2.2.2.2 D (by unfold inP inC; omega)).1, dd]
      exact h _ hA M4 fr4 f44 (by rw [f45]; exact (Int32.add_zero _).symm) (by rw [dd4]; exact hD42) (by rw [dd4, hD32]; congr 1; show st = lim - (lim - st); omega) c4 (fun e => absurd (show (2 : Nat) = 0 from e) (by decide))
end
section
/-! cleaning, sorting, bounds: without memory -/
def mdeg (m : aM) : Nat := m.1 + m.2.1 + m.2.2.1 + m.2.2.2
theorem mdeg_lt {a b : aM} (h : mdvd a b) (hn : a ≠ b) : mdeg a < mdeg b := by
  obtain ⟨a0, a1, a2, a3⟩ := a
  obtain ⟨b0, b1, b2, b3⟩ := b
  unfold mdvd at h
  unfold mdeg
  dsimp only at h ⊢
  apply Nat.lt_of_not_le
  intro hz
  exact hn (by rw [show a0 = b0 by omega, show a1 = b1 by omega, show a2 = b2 by omega, show a3 = b3 by omega])
theorem mdvd_tr {a b c : aM} (h1 : mdvd a b) (h2 : mdvd b c) : mdvd a c := by
  unfold mdvd at *
  omega
theorem mdvd_rf {a : aM} : mdvd a a := by
  unfold mdvd
  omega
theorem agoes_iff {es : List aE} {i : Nat} : agoes es i = true ↔ ∃ j, j < es.length ∧ j ≠ i ∧ mdvd (ald es j) (ald es i) ∧ (ald es j ≠ ald es i ∨ j < i) := by
  unfold agoes
  rw [List.any_eq_true]
  constructor
  · rintro ⟨j, h1, h2⟩
    rw [Bool.and_eq_true, Bool.and_eq_true, Bool.or_eq_true, bne_iff_ne, bne_iff_ne, decide_eq_true_iff, mdv_iff] at h2
    exact ⟨j, List.mem_range.mp h1, h2⟩
  · rintro ⟨j, h1, h2⟩
    refine ⟨j, List.mem_range.mpr h1, ?_⟩
    rw [Bool.and_eq_true, Bool.and_eq_true, Bool.or_eq_true, bne_iff_ne, bne_iff_ne, decide_eq_true_iff, mdv_iff]
    exact h2
/-- one that goes has one that stays dividing it -/
theorem agoes_st {es : List aE} (hl : es.length ≤ 24) : ∀ (N j : Nat), j < es.length → 25 * mdeg (ald es j) + j ≤ N → ∃ c, c < es.length ∧ agoes es c = false ∧ mdvd (ald es c) (ald es j) := by
  intro N
  induction N with
  | zero =>
    intro j hj hN
    refine ⟨j, hj, ?_, mdvd_rf⟩
    cases hg : agoes es j with
    | false => rfl
    | true =>
      obtain ⟨c, h1, h2, h3, h4⟩ := agoes_iff.mp hg
      rcases h4 with h4 | h4
      · have := mdeg_lt h3 h4
        omega
      · omega
  | succ N ih =>
    intro j hj hN
    cases hg : agoes es j with
    | false => exact ⟨j, hj, hg, mdvd_rf⟩
    | true =>
      obtain ⟨c, h1, h2, h3, h4⟩ := agoes_iff.mp hg
      have hm : 25 * mdeg (ald es c) + c ≤ N := by
        by_cases he : ald es c = ald es j
        · rw [he]
          rcases h4 with h4 | h4
          · exact absurd he h4
          · omega
        · have := mdeg_lt h3 he
          omega
      obtain ⟨c', g1, g2, g3⟩ := ih c h1 hm
      exact ⟨c', g1, g2, mdvd_tr g3 h3⟩
theorem aclean_s {es : List aE} {i : Nat} : aclean es (i + 1) = if agoes es i = true then aclean es i else aclean es i ++ [es.getD i aE0] := rfl
theorem aclean_mem {es : List aE} {E : aE} : ∀ {i : Nat}, E ∈ aclean es i ↔ ∃ j, j < i ∧ agoes es j = false ∧ es.getD j aE0 = E
  | 0 => ⟨fun h => absurd h List.not_mem_nil, fun ⟨_, h, _⟩ => absurd h (Nat.not_lt_zero _)⟩
  | i + 1 => by
    rw [aclean_s]
    split
    · rename_i hg
      rw [aclean_mem]
      constructor
      · rintro ⟨j, h1, h2⟩
        exact ⟨j, by omega, h2⟩
      · rintro ⟨j, h1, h2, h3⟩
        refine ⟨j, ?_, h2, h3⟩
        have : j ≠ i := fun e => by rw [e, hg] at h2; cases h2
        omega
    · rename_i hg
      rw [List.mem_append, aclean_mem, List.mem_singleton]
      constructor
      · rintro (⟨j, h1, h2⟩ | rfl)
        · exact ⟨j, by omega, h2⟩
        · exact ⟨i, by omega, by simpa using hg, rfl⟩
      · rintro ⟨j, h1, h2, h3⟩
        by_cases e : j = i
        · subst e
          exact Or.inr h3.symm
        · exact Or.inl ⟨j, by omega, h2, h3⟩
theorem aclean_len {es : List aE} : ∀ {i : Nat}, (aclean es i).length ≤ i
  | 0 => Nat.le_refl _
  | i + 1 => by
    have := aclean_len (es := es) (i := i)
    rw [aclean_s]
    split
    · omega
    · rw [List.length_append]
      simp
      omega
theorem ald_getD {es : List aE} {i : Nat} : ald es i = lmon (es.getD i aE0).1 := rfl
/-- what the class looks at is enough -/
theorem acover_iff {es : List aE} (hl : es.length ≤ 24) {i : Nat} (hi : i < es.length) : agoes es i = true ↔ (∃ j, j < (aclean es i).length ∧ mdvd (ald (aclean es i) j) (ald es i)) ∨ ∃ j, i < j ∧ j < es.length ∧ ald es j ≠ ald es i ∧ mdvd (ald es j) (ald es i) := by
  constructor
  · intro hg
    obtain ⟨j, h1, h2, h3, h4⟩ := agoes_iff.mp hg
    obtain ⟨c, g1, g2, g3⟩ := agoes_st hl _ j h1 (Nat.le_refl _)
    have g3 := mdvd_tr g3 h3
    rcases Nat.lt_trichotomy c i with hc | hc | hc
    · left
      have hm : es.getD c aE0 ∈ aclean es i := aclean_mem.mpr ⟨c, hc, g2, rfl⟩
      obtain ⟨j', hj'⟩ := List.getElem?_of_mem hm
      refine ⟨j', (List.getElem?_eq_some_iff.mp hj').1, ?_⟩
      rw [ald_getD, List.getD_eq_getElem?_getD, hj']
      exact g3
    · rw [hc, hg] at g2
      cases g2
    · right
      refine ⟨c, hc, g1, fun e => ?_, g3⟩
      have : agoes es c = true := agoes_iff.mpr ⟨i, hi, by omega, by rw [e]; exact mdvd_rf, Or.inr hc⟩
      rw [this] at g2
      cases g2
  · rintro (⟨j, h1, h2⟩ | ⟨j, h1, h2, h3, h4⟩)
    · have hu := List.getElem?_eq_getElem h1
      obtain ⟨c, g1, g2, g3⟩ := aclean_mem.mp (List.mem_of_getElem? hu)
      refine agoes_iff.mpr ⟨c, by omega, by omega, ?_, Or.inr g1⟩
      rw [ald_getD, List.getD_eq_getElem?_getD, hu] at h2
      rw [ald_getD, g3]
      exact h2
    · exact agoes_iff.mpr ⟨j, h2, by omega, h4, Or.inl h3⟩
theorem aesrt_s {k : Nat} {es : List aE} {i : Nat} : aesrt k es (i + 1) = (aesrt k es i).insertIdx (aescan k (ark k (ald es i)) (aesrt k es i) i) (es.getD i aE0) := rfl
theorem aescan_le {k r : Nat} {L : List aE} : ∀ {n : Nat}, aescan k r L n ≤ n
  | 0 => Nat.le_refl _
  | n + 1 => by
    unfold aescan
    split
    · exact Nat.le_succ_of_le aescan_le
    · exact Nat.le_refl _
theorem aesrt_len {k : Nat} {es : List aE} : ∀ {i : Nat}, (aesrt k es i).length = i
  | 0 => rfl
  | i + 1 => by
    have h := aesrt_len (k := k) (es := es) (i := i)
    rw [aesrt_s, List.length_insertIdx_of_le_length (by rw [h]; exact aescan_le), h]
theorem aesrt_mem {k : Nat} {es : List aE} : ∀ {i : Nat}, i ≤ es.length → ∀ E ∈ aesrt k es i, E ∈ es
  | 0, _, E, hE => absurd hE List.not_mem_nil
  | i + 1, hi, E, hE => by
    rw [aesrt_s, List.mem_insertIdx (by rw [aesrt_len]; exact aescan_le)] at hE
    rcases hE with rfl | hE
    · rw [List.getD_eq_getElem?_getD, List.getElem?_eq_getElem (by omega)]
      exact List.getElem_mem _
    · exact aesrt_mem (by omega) E hE
theorem iok_clean {k sh : Nat} {es : List aE} (hk : iok k sh es) {i : Nat} (hi : i ≤ es.length) : iok k sh (aclean es i) := fun E hE => by
  obtain ⟨j, h1, h2, h3⟩ := aclean_mem.mp hE
  refine hk E ?_
  rw [← h3, List.getD_eq_getElem?_getD, List.getElem?_eq_getElem (by omega)]
  exact List.getElem_mem _
theorem iok_srt {k sh : Nat} {es : List aE} (hk : iok k sh es) {i : Nat} (hi : i ≤ es.length) : iok k sh (aesrt k es i) := fun E hE => hk E (aesrt_mem hi E hE)
/-! the order and sums -/
theorem ark_sum {k : Nat} {a q : aM} (ha : mok (madd a q)) : ark k (madd a q) + (if k = 0 then 0 else q.2.2.2 * 1024 + q.2.2.1 * 32 + q.2.1) = ark k a + (if k = 0 then q.1 * 16777216 + q.2.1 * 65536 + q.2.2.1 * 256 + q.2.2.2 else (if k = 1 then 0 else q.1 * 4194304) + (q.1 + q.2.1 + q.2.2.1 + q.2.2.2) * 32768) := by
  obtain ⟨a0, a1, a2, a3⟩ := a
  obtain ⟨q0, q1, q2, q3⟩ := q
  unfold mok madd at ha
  unfold ark madd
  dsimp only at ha ⊢
  split
  · omega
  · split <;> omega
theorem ark_add {k : Nat} {a b q : aM} (ha : mok (madd a q)) (hb : mok (madd b q)) (h : ark k a ≤ ark k b) : ark k (madd a q) ≤ ark k (madd b q) := by
  have e1 := ark_sum (k := k) ha
  have e2 := ark_sum (k := k) hb
  generalize ark k (madd a q) = A at *
  generalize ark k (madd b q) = B at *
  generalize (if k = 0 then 0 else q.2.2.2 * 1024 + q.2.2.1 * 32 + q.2.1) = X at *
  generalize (if k = 0 then q.1 * 16777216 + q.2.1 * 65536 + q.2.2.1 * 256 + q.2.2.2 else (if k = 1 then 0 else q.1 * 4194304) + (q.1 + q.2.1 + q.2.2.1 + q.2.2.2) * 32768) = Y at *
  omega
theorem acome_lt {k N : Nat} {u : aT} {L L' : aP} (hL : ∀ t ∈ L, ark k t.2 < N) (hu : ark k u.2 < N) (h : acome k u L = some L') : ∀ t ∈ L', ark k t.2 < N := by
  have ins : ∀ i, i ≤ L.length → ∀ t ∈ L.insertIdx i u, ark k t.2 < N := fun i hi t ht => by
    rcases (List.mem_insertIdx hi).mp ht with rfl | ht
    · exact hu
    · exact hL t ht
  have hle := apos_le (k := k) (m := u.2) L
  unfold acome at h
  split at h
  · rename_i v hv
    split at h
    · split at h
      · cases h
      · rename_i s hs
        split at h
        · cases h
          exact fun t ht => hL t (List.mem_of_mem_eraseIdx ht)
        · cases h
          intro t ht
          rcases List.mem_or_eq_of_mem_set ht with ht | rfl
          · exact hL t ht
          · exact hu
    · split at h
      · cases h
      · cases h
        exact ins _ hle
  · split at h
    · cases h
    · cases h
      exact ins _ hle
theorem aadds_lt {k N : Nat} {c : aF} {m : aM} : ∀ {g f f' : aP}, (∀ t ∈ g, mok (madd t.2 m) → ark k (madd t.2 m) < N) → (∀ t ∈ f, ark k t.2 < N) → aadds k c m g f = some f' → ∀ t ∈ f', ark k t.2 < N
  | [], f, f', _, hf, h => by cases h; exact hf
  | t :: g, f, f', hg, hf, h => by
    by_cases hm : mok (madd t.2 m)
    · rw [aadds_in hm] at h
      split at h
      · cases h
      · rename_i s hs
        split at h
        · cases h
        · rename_i f1 hf1
          exact aadds_lt (fun t ht => hg t (List.mem_cons_of_mem _ ht)) (acome_lt (u := (s, madd t.2 m)) hf (hg t List.mem_cons_self hm) hf1) h
    · rw [aadds_out hm] at h
      cases h
theorem madd_msub {a b : aM} (h : mdvd b a) : madd b (msub a b) = a := by
  obtain ⟨a0, a1, a2, a3⟩ := a
  obtain ⟨b0, b1, b2, b3⟩ := b
  unfold mdvd at h
  unfold madd msub
  dsimp only at h ⊢
  rw [show b0 + (a0 - b0) = a0 by omega, show b1 + (a1 - b1) = a1 by omega, show b2 + (a2 - b2) = a2 by omega, show b3 + (a3 - b3) = a3 by omega]
/-- the greatest of a polynomial leads it -/
theorem pok_head {k : Nat} {t : aT} {l : aP} (h : pok k (t :: l)) : ∀ u ∈ l, ark k u.2 < ark k t.2 := (List.pairwise_cons.mp h.2.1).1
theorem aadds_div {k N : Nat} {c : aF} {t t2 : aT} {l2 f f' : aP} (hb : pok k (t2 :: l2)) (ht : mok t.2) (hd : mdvd t2.2 t.2) (hN : ark k t.2 < N) (hf : ∀ u ∈ f, ark k u.2 < N) (h : aadds k c (msub t.2 t2.2) (t2 :: l2) f = some f') : ∀ u ∈ f', ark k u.2 < N := by
  refine aadds_lt (fun u hu hm => ?_) hf h
  have e := madd_msub hd
  have h1 : ark k u.2 ≤ ark k t2.2 := by
    rcases List.mem_cons.mp hu with rfl | hu
    · exact Nat.le_refl _
    · exact Nat.le_of_lt (pok_head hb u hu)
  have h2 := ark_add (q := msub t.2 t2.2) hm (by rw [e]; exact ht) h1
  rw [e] at h2
  omega
/-- what is kept through a division: the bound of the rest, the quotient of the one left out, what is well made -/
theorem adiv_lt {k N : Nat} {bs : List aP} {lo : Option Nat} (hb : ∀ b ∈ bs, pok k b ∧ b ≠ []) : ∀ (n : Nat) (f r : aP) (qs : List aP), pok k f → (∀ t ∈ f, ark k t.2 < N) → (∀ t ∈ r, ark k t.2 < N) → ∀ t ∈ (adiv k bs lo n f r qs).2.2.1, ark k t.2 < N
  | 0, [], r, qs, _, _, hr => hr
  | 0, _ :: _, r, qs, _, _, hr => hr
  | n + 1, [], r, qs, _, _, hr => hr
  | n + 1, t :: f, r, qs, hk, hf, hr => by
    have htk := hk.1 t List.mem_cons_self
    rw [adiv_step]
    split
    · split
      · exact hr
      · rename_i r' hr'
        exact adiv_lt hb n f r' qs (srt_tail hk) (fun u hu => hf u (List.mem_cons_of_mem _ hu)) (acome_lt hr (hf t List.mem_cons_self) hr')
    · rename_i i hi
      obtain ⟨-, h2, b, h3, h4⟩ := afst_at hi
      rw [Nat.sub_zero] at h3
      rw [show bs.getD i [] = b by rw [List.getD_eq_getElem?_getD, h3]; rfl]
      obtain ⟨k1, k2⟩ := hb b (List.mem_of_getElem? h3)
      cases b with
      | nil => exact absurd rfl k2
      | cons t2 l2 =>
        split
        · exact hr
        · rename_i f' hf'
          split
          · exact hr
          · exact adiv_lt hb n f' r _ (aadds_ok (fneg_ok htk.1) (by have := htk.2.1; dsimp only; omega) k1.1 hk hf') (aadds_div k1 htk.2.2 h4 (hf t List.mem_cons_self) hf hf') hr
theorem adiv_lo {k i : Nat} {bs : List aP} : ∀ (n : Nat) (f r : aP) (qs : List aP), (∀ q, qs[i]? = some q → q = []) → ∀ q, (adiv k bs (some i) n f r qs).2.2.2[i]? = some q → q = []
  | 0, [], r, qs, h => h
  | 0, _ :: _, r, qs, h => h
  | n + 1, [], r, qs, h => h
  | n + 1, t :: f, r, qs, h => by
    rw [adiv_step]
    split
    · split
      · exact h
      · exact adiv_lo n _ _ _ h
    · rename_i j hj
      obtain ⟨-, h2, -⟩ := afst_at hj
      split
      · exact h
      · split
        · exact h
        · refine adiv_lo n _ _ _ fun q hq => h q ?_
          rw [List.getElem?_set, if_neg (fun e => h2 (by rw [e]))] at hq
          exact hq
theorem acome_top {k : Nat} {u : aT} {L : aP} (h : ∀ t ∈ L, ark k t.2 < ark k u.2) : acome k u L = if 100 ≤ L.length then none else some (u :: L) := by
  cases L with
  | nil => rfl
  | cons v l =>
    have hv := h v List.mem_cons_self
    have e : apos k u.2 (v :: l) = 0 := if_neg (by omega)
    unfold acome
    rw [e]
    show (if v.2 = u.2 then _ else _) = _
    rw [if_neg (fun z => by rw [z] at hv; omega)]
    rfl
end
section
/-! memory where one row of references changes too -/
def zfq (S : Nat → Prop) (R : Nat) (M M' : zM) : Prop := (∀ a, zsh M' a = zsh M a) ∧ zn M' = zn M ∧ zs M' = zs M ∧ (∀ a j, a ≠ R → zR M' a j = zR M a j) ∧ ∀ a, ¬ S a → (∀ j, zI M' a j = zI M a j) ∧ ∀ j, zL M' a j = zL M a j
theorem zfq_rf {S : Nat → Prop} {R : Nat} {M : zM} : zfq S R M M := ⟨fun _ => rfl, rfl, rfl, fun _ _ _ => rfl, fun _ _ => ⟨fun _ => rfl, fun _ => rfl⟩⟩
theorem zfq_of {S : Nat → Prop} {R : Nat} {M M' : zM} (h : zfr S M M') : zfq S R M M' := ⟨h.1, h.2.1, h.2.2.1, fun a j _ => h.2.2.2.1 a j, h.2.2.2.2⟩
theorem zfq_tr {S : Nat → Prop} {R : Nat} {M1 M2 M3 : zM} (h1 : zfq S R M1 M2) (h2 : zfq S R M2 M3) : zfq S R M1 M3 := ⟨fun a => (h2.1 a).trans (h1.1 a), h2.2.1.trans h1.2.1, h2.2.2.1.trans h1.2.2.1, fun a j ha => (h2.2.2.2.1 a j ha).trans (h1.2.2.2.1 a j ha), fun a ha => ⟨fun j => ((h2.2.2.2.2 a ha).1 j).trans ((h1.2.2.2.2 a ha).1 j), fun j => ((h2.2.2.2.2 a ha).2 j).trans ((h1.2.2.2.2 a ha).2 j)⟩⟩
theorem zfq_up {S S' : Nat → Prop} {R : Nat} {M M' : zM} (h : zfq S R M M') (hs : ∀ a, S a → S' a) : zfq S' R M M' := ⟨h.1, h.2.1, h.2.2.1, h.2.2.2.1, fun a ha => h.2.2.2.2 a fun z => ha (hs a z)⟩
theorem zR_uR {M : zM} {a k v i j : Nat} : zR (zuR M a k v) i j = if i = a ∧ j = k then v else zR M i j := rfl
theorem zfq_uR {S : Nat → Prop} {R : Nat} {M : zM} {k v : Nat} : zfq S R M (zuR M R k v) := ⟨fun _ => rfl, rfl, rfl, fun a j h => (by rw [zR_uR, if_neg]; rintro ⟨rfl, -⟩; exact h rfl), fun _ _ => ⟨fun _ => rfl, fun _ => rfl⟩⟩
theorem pst_fq {S : Nat → Prop} {R : Nat} {M M' : zM} {p o : Nat} (h : zfq S R M M') (hR : R ≠ p) (hp : pst M p o) : pst M' p o := by
  unfold pst at *
  rw [h.1, h.1, h.1, h.1, h.2.2.2.1 _ _ (Ne.symm hR), h.2.2.2.1 _ _ (Ne.symm hR), h.2.2.2.1 _ _ (Ne.symm hR), h.2.2.2.1 _ _ (Ne.symm hR)]
  exact hp
theorem pdy_fq {S : Nat → Prop} {R : Nat} {M M' : zM} {p k : Nat} {L : aP} (h : zfq S R M M') (hd : ∀ a, inP p a → ¬ S a) (hp : pdy M p k L) : pdy M' p k L := by
  have h0 := h.2.2.2.2 p (hd p ⟨by omega, by omega⟩)
  have h1 := h.2.2.2.2 (p + 1) (hd _ ⟨by omega, by omega⟩)
  have h2 := h.2.2.2.2 (p + 2) (hd _ ⟨by omega, by omega⟩)
  have h3 := h.2.2.2.2 (p + 3) (hd _ ⟨by omega, by omega⟩)
  refine ⟨by rw [h0.1]; exact hp.1, fun j t hj => ?_⟩
  rw [h1.2, h2.1, h3.1]
  exact hp.2 j t hj
theorem ost_fq {S : Nat → Prop} {R : Nat} {M M' : zM} {o k : Nat} (h : zfq S R M M') (hd : ¬ S o) (ho : ost M o k) : ost M' o k := by
  unfold ost at *
  rw [h.1, (h.2.2.2.2 o hd).1]
  exact ho
theorem est_fq {S : Nat → Prop} {R : Nat} {M M' : zM} {e o w : Nat} (h : zfq S R M M') (hR : ¬ inE w e R) (he : est M e o w) : est M' e o w := by
  obtain ⟨h1, h2, h3, h4, h5, h6, h7⟩ := he
  have hn : ∀ a, inE w e a → a ≠ R := fun a ha e => hR (e ▸ ha)
  exact ⟨by rw [h.1]; exact h1, by rw [h.2.2.2.1 _ _ (hn _ (by unfold inE; omega))]; exact h2, by rw [h.2.2.2.1 _ _ (hn _ (by unfold inE; omega))]; exact h3, by rw [h.1]; exact h4, fun i hi => by rw [h.2.2.2.1 _ _ (hn _ (by unfold inE; omega))]; exact h5 i hi, pst_fq h (Ne.symm (hn _ (by unfold inE; omega))) h6, fun i hi => pst_fq h (Ne.symm (hn _ (by unfold inE; omega))) (h7 i hi)⟩
theorem edy_fq {S : Nat → Prop} {R : Nat} {M M' : zM} {e k w : Nat} {E : aE} (h : zfq S R M M') (hw : E.2.length ≤ w) (hd : ∀ a, inE w e a → ¬ S a) (hE : edy M e k E) : edy M' e k E := by
  refine ⟨pdy_fq h (fun a ha => hd a (by unfold inP at ha; unfold inE; omega)) hE.1, fun i L hi => pdy_fq h (fun a ha => hd a ?_) (hE.2 i L hi)⟩
  have := (List.getElem?_eq_some_iff.mp hi).1
  unfold inP at ha
  unfold inE
  omega
theorem dst_fq {S : Nat → Prop} {R : Nat} {M M' : zM} {D o : Nat} (h : zfq S R M M') (hR : ¬ inD D R) (hd : dst M D o) : dst M' D o := by
  obtain ⟨h1, h2, h3, h4, h5, h6, h7, h8, h9⟩ := hd
  have hn : ∀ a, inD D a → a ≠ R := fun a ha e => hR (e ▸ ha)
  exact ⟨by rw [h.1]; exact h1, by rw [h.2.2.2.1 _ _ (hn _ (by unfold inD; omega))]; exact h2, by rw [h.2.2.2.1 _ _ (hn _ (by unfold inD; omega))]; exact h3, by rw [h.2.2.2.1 _ _ (hn _ (by unfold inD; omega))]; exact h4, by rw [h.1]; exact h5, fun i hi => by rw [h.2.2.2.1 _ _ (hn _ (by unfold inD; omega))]; exact h6 i hi, pst_fq h (Ne.symm (hn _ (by unfold inD; omega))) h7, pst_fq h (Ne.symm (hn _ (by unfold inD; omega))) h8, fun i hi => pst_fq h (Ne.symm (hn _ (by unfold inD; omega))) (h9 i hi)⟩
theorem gst_fq {S : Nat → Prop} {R : Nat} {M M' : zM} {G o : Nat} (h : zfq S R M M') (hR : G + 37 ≤ R ∨ R < G) (hg : gst M G o) : gst M' G o := ⟨by rw [h.1]; exact hg.1, fun g hl => ⟨by rw [h.2.2.2.1 _ _ (by omega)]; exact (hg.2 g hl).1, pst_fq h (by omega) (hg.2 g hl).2⟩⟩
/-- an ideal whose elements have changed places -/
theorem ist_fq {S : Nat → Prop} {M M' : zM} {H o w : Nat} {eid e : Nat → Nat} (h : zfq S (H + 1) M M') (hi : ist M H o w eid) (he : ∀ i, i < 25 → zR M' (H + 1) i = e i) (ha : iap H w e) (hp : ∀ i, i < 25 → ∃ j, j < 25 ∧ e i = eid j) : ist M' H o w e := by
  obtain ⟨⟨h1, h2, h3, h4, h5⟩, h6, h7, h8⟩ := hi
  refine ⟨⟨by rw [h.1]; exact h1, by rw [h.2.2.2.1 _ _ (by omega)]; exact h2, by rw [h.2.2.2.1 _ _ (by omega)]; exact h3, by rw [h.2.2.2.1 _ _ (by omega)]; exact h4, by rw [h.1]; exact h5⟩, ⟨by rw [h.1]; exact h6.1, fun i hi => ⟨he i hi, ?_⟩⟩, ha, h8⟩
  obtain ⟨j, hj, ej⟩ := hp i hi
  rw [ej]
  exact est_fq h (by have := h7.1 j hj; unfold inE; omega) (h6.2 j hj).2
/-! those that go, in the class -/
theorem sp_isCovered {d H o w k n i κ : Nat} {M : zM} {e : Nat → Nat} {ls : Nat → aM} {P : Int32 → zM → Prop} (hd : 2 ≤ d) (hI : ist M H o w e) (hc : zI M H 2 = nI n) (hn : n ≤ 24) (hi : i < n) (hκ : κ ≤ i) (hls : ∀ j, (j < κ ∨ (i ≤ j ∧ j < n)) → ∃ t l, pdy M (e j + 1) k (t :: l) ∧ t.2 = ls j ∧ mok t.2)
    (h1 : ((∃ j, j < κ ∧ mdvd (ls j) (ls i)) ∨ ∃ j, i < j ∧ j < n ∧ ls j ≠ ls i ∧ mdvd (ls j) (ls i)) → P 1 M) (h0 : ¬ ((∃ j, j < κ ∧ mdvd (ls j) (ls i)) ∨ ∃ j, i < j ∧ j < n ∧ ls j ≠ ls i ∧ mdvd (ls j) (ls i)) → P 0 M) : ycI d nX3_isCovered [.ref H, .int (nI i), .int (nI κ)] M P := by
  obtain ⟨d, rfl, he⟩ := dS hd
  have s := hI.1.1
  have hr1 := hI.1.2.2.1
  have hmi : mok (ls i) := by
    obtain ⟨t, l, -, h2, h3⟩ := hls i (by omega)
    rw [← h2]; exact h3
  have ld : ∀ j (P : Int32 → zM → Prop), (j < κ ∨ (i ≤ j ∧ j < n)) → P (e8 (ls j)) M → ycI d nX1_leading [.ref (e j)] M P := fun j P hj hP => by
    obtain ⟨t, l, g1, g2, g3⟩ := hls j hj
    exact sp_leading (by omega) (hI.2.1.2 j (by omega)).2 g1 (by rw [g2]; exact hP)
  have loop2 : ∀ (m j : Nat) (o1 o2 o5 : Option Value), j + m = n → i < j → (∀ c, c < κ → ¬ mdvd (ls c) (ls i)) → (∀ c, i < c → c < j → ¬ (ls c ≠ ls i ∧ mdvd (ls c) (ls i))) → wX3_isCovered d (fun r M2 => ∃ x : Int32, r = [.int x] ∧ P x M2) 27 [some (.ref H), o1, o2, some (.int (e8 (ls i))), some (.int (nI j)), o5] [] M := by
    intro m
    induction m with
    | zero =>
      intro j o1 o2 o5 hj hij hb1 hb2
      refine sg_X3_isCovered_27 _ _ _ _ _ _ _ ⟨s, fun _ => ⟨Or.inl rfl, _, rfl, h0 ?_⟩, fun c => absurd (by rw [hc, show j = n by omega]; exact Int32.le_refl _) c⟩
      rintro (⟨c, g1, g2⟩ | ⟨c, g1, g2, g3⟩)
      · exact hb1 c g1 g2
      · exact hb2 c g1 (by omega) g3
    | succ m ih =>
      intro j o1 o2 o5 hj hij hb1 hb2
      have cj := cl_n (n := j) (by omega)
      have hRj := hI.2.1.2 j (by omega)
      have hmj : mok (ls j) := by
        obtain ⟨t, l, -, h2, h3⟩ := hls j (by omega)
        rw [← h2]; exact h3
      have next : ¬ (ls j ≠ ls i ∧ mdvd (ls j) (ls i)) → ∀ o5, wX3_isCovered d (fun r M2 => ∃ x : Int32, r = [.int x] ∧ P x M2) 27 [some (.ref H), o1, o2, some (.int (e8 (ls i))), some (.int (nI j + 1)), o5] [] M := fun hz o5 => by
        rw [nI_1]
        refine ih (j + 1) _ _ _ (by omega) (by omega) hb1 fun c g1 g2 => ?_
        by_cases e : c = j
        · rw [e]; exact hz
        · exact hb2 c g1 (by omega)
      refine sg_X3_isCovered_27 _ _ _ _ _ _ _ ⟨s, fun c => ?_, fun _ => ⟨s, by rw [hr1, hI.2.1.1], by rw [hr1, hI.2.1.1]; exact zin_n (by omega) (by omega), by rw [hr1, cj, hRj.1]; exact hRj.2.1, ?_⟩⟩
      · rw [hc] at c
        have := (nI_leI (by omega) (by omega)).mp c
        omega
      · rw [hr1, cj, hRj.1]
        refine ld j _ (by omega) ⟨fun c => next (fun z => z.1 (e8_inj hmj hmi c)) _, fun c => ?_⟩
        refine sp_divides (by omega) hmj hmi (fun hv => ⟨fun z => absurd z (by decide), fun _ => ⟨Or.inr rfl, _, rfl, h1 (Or.inr ⟨j, hij, by omega, fun z => c (by rw [z]), hv⟩)⟩⟩) (fun hv => ⟨fun _ => next (fun z => hv z.2) _, fun z => absurd rfl z⟩)
  have loop1 : ∀ (m j : Nat) (o5 : Option Value), j + m = κ → (∀ c, c < j → ¬ mdvd (ls c) (ls i)) → wX3_isCovered d (fun r M2 => ∃ x : Int32, r = [.int x] ∧ P x M2) 8 [some (.ref H), some (.int (nI i)), some (.int (nI κ)), some (.int (e8 (ls i))), some (.int (nI j)), o5] [] M := by
    intro m
    induction m with
    | zero =>
      intro j o5 hj hb
      refine sg_X3_isCovered_8 _ _ _ _ _ _ _ ⟨fun _ => ?_, fun c => absurd (by rw [show j = κ by omega]; exact Int32.le_refl _) c⟩
      intro v4
      rw [show v4 = nI (i + 1) from nI_1 i]
      exact loop2 (n - (i + 1)) (i + 1) _ _ _ (by omega) (by omega) (fun c hc => hb c (by omega)) fun c g1 g2 => by omega
    | succ m ih =>
      intro j o5 hj hb
      have cj := cl_n (n := j) (by omega)
      have hRj := hI.2.1.2 j (by omega)
      have hmj : mok (ls j) := by
        obtain ⟨t, l, -, h2, h3⟩ := hls j (by omega)
        rw [← h2]; exact h3
      refine sg_X3_isCovered_8 _ _ _ _ _ _ _ ⟨fun c => ?_, fun _ => ⟨s, by rw [hr1, hI.2.1.1], by rw [hr1, hI.2.1.1]; exact zin_n (by omega) (by omega), by rw [hr1, cj, hRj.1]; exact hRj.2.1, ?_⟩⟩
      · have := (nI_leI (by omega) (by omega)).mp c
        omega
      · rw [hr1, cj, hRj.1]
        refine ld j _ (by omega) (sp_divides (by omega) hmj hmi (fun hv => ⟨fun z => absurd z (by decide), fun _ => ⟨Or.inr rfl, _, rfl, h1 (Or.inl ⟨j, by omega, hv⟩)⟩⟩) (fun hv => ⟨fun _ => ?_, fun z => absurd rfl z⟩))
        intro v4
        rw [show v4 = nI (j + 1) from nI_1 j]
        refine ih (j + 1) _ (by omega) fun c hc => ?_
        by_cases e : c = j
        · rw [e]; exact hv
        · exact hb c (by omega)
  have ci := cl_n (n := i) (by omega)
  have hRi := hI.2.1.2 i (by omega)
  refine en_X3_isCovered _ _ _ M (sg_X3_isCovered_0 _ _ _ M ⟨s, by rw [hr1, hI.2.1.1], by rw [hr1, hI.2.1.1]; exact zin_n (by omega) (by omega), by rw [hr1, ci, hRi.1]; exact hRi.2.1, ?_⟩)
  rw [hr1, ci, hRi.1]
  exact ld i _ (by omega) (loop1 κ 0 _ (by omega) fun c hc => absurd hc (Nat.not_lt_zero _))
theorem iap_swap {H w : Nat} {e : Nat → Nat} (h : iap H w e) {a b : Nat} (ha : a < 25) (hb : b < 25) : iap H w (fun j => if j = a then e b else if j = b then e a else e j) := by
  obtain ⟨h1, h2⟩ := h
  refine ⟨fun i hi => ?_, fun i j hi hj hij => ?_⟩
  · dsimp only
    split
    · exact h1 b hb
    · split
      · exact h1 a ha
      · exact h1 i hi
  · dsimp only
    have hab := h2 a b ha hb
    have hia := h2 i a hi ha
    have hib := h2 i b hi hb
    have hja := h2 j a hj ha
    have hjb := h2 j b hj hb
    have h3 := h2 i j hi hj hij
    split
    · split
      · omega
      · split
        · rename_i x1 x2 x3
          by_cases e : a = b
          · omega
          · have := hab e; omega
        · rename_i x1 x2 x3
          have := hjb x3; omega
    · split
      · split
        · rename_i x1 x2 x3
          by_cases e : a = b
          · omega
          · have := hab e; omega
        · split
          · omega
          · rename_i x1 x2 x3 x4
            have := hja x3; omega
      · split
        · rename_i x1 x2 x3
          have := hib x2; omega
        · split
          · rename_i x1 x2 x3 x4
            have := hia x1; omega
          · exact h3
theorem sp_dropNeedless {d H o w k sh : Nat} {M : zM} {eid : Nat → Nat} {es : List aE} {P : zM → Prop} (hd : 3 ≤ d) (hI : ist M H o w eid) (hc : icn M H sh es.length) (hE : iel M eid k es) (hk : iok k sh es)
    (h : ∀ e M', zfq (fun a => a = H) (H + 1) M M' → ist M' H o w e → (∀ j, j ≠ 2 → zI M' H j = zI M H j) → icn M' H sh (aclean es es.length).length → iel M' e k (aclean es es.length) → P M') : ycV d nX3_dropNeedless [.ref H] M P := by
  obtain ⟨d, rfl, hde⟩ := dS hd
  have hl := hc.2.2
  have loop : ∀ (n i : Nat) (e : Nat → Nat) (M' : zM) (o3 : Option Value), i + n = es.length → zfq (fun _ => False) (H + 1) M M' → ist M' H o w e → (∀ j, i ≤ j → j < 25 → e j = eid j) → iel M e k (aclean es i) → wX3_dropNeedless d (fun r M2 => r = [] ∧ P M2) 4 [some (.ref H), some (.int (nI (aclean es i).length)), some (.int (nI i)), o3] [] M' := by
    intro n
    induction n with
    | zero =>
      intro i e M' o3 hi hfr hI' hu hel
      have s := hI'.1.1
      have hc2 : zI M' H 2 = nI es.length := by rw [(hfr.2.2.2.2 H (fun z => z)).1]; exact hc.1
      rw [show i = es.length by omega] at hel
      refine sg_X3_dropNeedless_4 _ _ _ _ _ ⟨s, fun _ => ⟨s, ?_⟩, fun c => absurd (by rw [hc2, show i = es.length by omega]; exact Int32.le_refl _) c⟩
      intro M1
      have hf1 : zfr (fun a => a = H) M' M1 := zfr_uI rfl
      have g : ∀ j, j ≠ 2 → zI M1 H j = zI M H j := fun j hj => by
        rw [show M1 = zuI M' H 2 (nI (aclean es i).length) from rfl, zI_uI, if_neg (by omega), (hfr.2.2.2.2 H (fun z => z)).1]
      refine ⟨rfl, h e M1 (zfq_tr (zfq_up hfr fun a ha => ha.elim) (zfq_of hf1)) (ist_fr hf1 hI') g ⟨?_, by rw [g 10 (by omega)]; exact hc.2.1, ?_⟩ fun j E hj => ?_⟩
      · rw [show M1 = zuI M' H 2 (nI (aclean es i).length) from rfl, zI_uI, if_pos ⟨rfl, rfl⟩, show i = es.length by omega]
      · have := aclean_len (es := es) (i := es.length)
        omega
      · have hjl := (List.getElem?_eq_some_iff.mp hj).1
        have := aclean_len (es := es) (i := es.length)
        have hap := hI'.2.2.1.1 j (by omega)
        refine edy_fr (w := E.2.length) hf1 (Nat.le_refl _) (fun a ha => ?_) (edy_fq (w := E.2.length) hfr (Nat.le_refl _) (fun _ _ z => z) (hel j E hj))
        unfold inE at ha
        omega
    | succ n ih =>
      intro i e M' o3 hi hfr hI' hu hel
      have s := hI'.1.1
      have hc2 : zI M' H 2 = nI es.length := by rw [(hfr.2.2.2.2 H (fun z => z)).1]; exact hc.1
      have hil : i < es.length := by omega
      have hκ := aclean_len (es := es) (i := i)
      have hokc := iok_clean hk (i := i) (by omega)
      have hr1 := hI'.1.2.2.1
      refine sg_X3_dropNeedless_4 _ _ _ _ _ ⟨s, fun c => ?_, fun _ => ⟨s, ?_⟩⟩
      · rw [hc2] at c
        have := (nI_leI (by omega) (by omega)).mp c
        omega
      · refine sp_isCovered (k := k) (n := es.length) (ls := fun j => if j < (aclean es i).length then ald (aclean es i) j else ald es j) (by omega) hI' hc2 hl hil hκ (fun j hj => ?_) (fun hcv => ⟨fun _ => ?_, fun z => absurd (Classical.not_not.mp z) (by decide)⟩) (fun hcv => ⟨fun z => absurd rfl z, fun _ => ?_⟩)
        · by_cases hjk : j < (aclean es i).length
          · obtain ⟨t, l, cs, g1, g2, g3, -⟩ := iok_lead hokc hjk
            refine ⟨t, l, pdy_fq hfr (fun _ _ z => z) (hel j _ g1).1, ?_, g3⟩
            try dsimp only
            rw [if_pos hjk, g2]
          · obtain ⟨t, l, cs, g1, g2, g3, -⟩ := iok_lead hk (show j < es.length by omega)
            refine ⟨t, l, pdy_fq hfr (fun _ _ z => z) ?_, ?_, g3⟩
            · rw [hu j (by omega) (by omega)]
              exact (hE j _ g1).1
            · try dsimp only
              rw [if_neg hjk, g2]
        · have hg : agoes es i = true := (acover_iff hl hil).mpr (by
            rcases hcv with ⟨j, g1, g2⟩ | ⟨j, g1, g2, g3, g4⟩
            · try dsimp only at g2
              rw [if_pos g1, if_neg (by omega)] at g2
              exact Or.inl ⟨j, g1, g2⟩
            · try dsimp only at g3 g4
              rw [if_neg (by omega), if_neg (by omega)] at g3 g4
              exact Or.inr ⟨j, g1, g2, g3, g4⟩)
          have heq : aclean es (i + 1) = aclean es i := by rw [aclean_s, if_pos hg]
          intro v2
          rw [show v2 = nI (i + 1) from nI_1 i, ← heq]
          exact ih (i + 1) e M' _ (by omega) hfr hI' (fun j h1 h2 => hu j (by omega) h2) (by rw [heq]; exact hel)
        · have hg : ¬ agoes es i = true := fun hg => hcv (by
            rcases (acover_iff hl hil).mp hg with ⟨j, g1, g2⟩ | ⟨j, g1, g2, g3, g4⟩
            · left
              refine ⟨j, g1, ?_⟩
              try dsimp only
              rw [if_pos g1, if_neg (by omega)]
              exact g2
            · right
              refine ⟨j, g1, g2, ?_, ?_⟩
              · try dsimp only
                rw [if_neg (by omega), if_neg (by omega)]
                exact g3
              · try dsimp only
                rw [if_neg (by omega), if_neg (by omega)]
                exact g4)
          have heq : aclean es (i + 1) = aclean es i ++ [es.getD i aE0] := by rw [aclean_s, if_neg hg]
          have ci := cl_n (n := i) (by omega)
          have ck := cl_n (n := (aclean es i).length) (by omega)
          have hRi := hI'.2.1.2 i (by omega)
          have hRk := hI'.2.1.2 (aclean es i).length (by omega)
          have zi : zin (nI i) 25 := zin_n (by omega) (by omega)
          have zk : zin (nI (aclean es i).length) 25 := zin_n (by omega) (by omega)
          refine ⟨s, by rw [hr1, hI'.2.1.1], by rw [hr1, hI'.2.1.1]; exact zi, ?_⟩
          intro r3
          have e3 : r3 = e i := by rw [show r3 = zR M' (zR M' H 1) (nI i).toNatClampNeg from rfl, hr1, ci, hRi.1]
          clear_value r3
          subst e3
          refine ⟨s, s, by rw [hr1, hI'.2.1.1], by rw [hr1, hI'.2.1.1]; exact zk, by rw [hr1, hI'.2.1.1], by rw [hr1, hI'.2.1.1]; exact zi, by rw [hr1, ck, hRk.1]; exact hRk.2.1, ?_⟩
          intro M6
          have e6 : M6 = zuR M' (H + 1) i (e (aclean es i).length) := by rw [show M6 = zuR M' (zR M' H 1) (nI i).toNatClampNeg (zR M' (zR M' H 1) (nI (aclean es i).length).toNatClampNeg) from rfl, hr1, ci, ck, hRk.1]
          clear_value M6
          have r61 : zR M6 H 1 = H + 1 := by rw [e6, zR_uR, if_neg (by omega)]; exact hr1
          refine ⟨s, by rw [r61, hI'.2.1.1], by rw [r61, hI'.2.1.1]; exact zk, hRi.2.1, ?_⟩
          intro M7
          have e7 : M7 = zuR M6 (H + 1) (aclean es i).length (e i) := by rw [show M7 = zuR M6 (zR M6 H 1) (nI (aclean es i).length).toNatClampNeg (e i) from rfl, r61, ck]
          clear_value M7
          intro v1 v2
          rw [show v1 = nI (aclean es (i + 1)).length by rw [heq, List.length_append]; exact nI_1 _, show v2 = nI (i + 1) from nI_1 i]
          have hfr7 : zfq (fun _ => False) (H + 1) M' M7 := by
            rw [e7, e6]
            exact zfq_tr zfq_uR zfq_uR
          have hz : ∀ j, zR M7 (H + 1) j = if j = (aclean es i).length then e i else if j = i then e (aclean es i).length else zR M' (H + 1) j := fun j => by
            rw [e7, zR_uR, e6, zR_uR]
            simp only [true_and]
          refine ih (i + 1) (fun j => if j = (aclean es i).length then e i else if j = i then e (aclean es i).length else e j) M7 _ (by omega) (zfq_tr hfr hfr7) (ist_fq hfr7 hI' (fun j hj => ?_) (iap_swap hI'.2.2.1 (by omega) (by omega)) fun j hj => ?_) (fun j h1 h2 => ?_) ?_
          · rw [hz, (hI'.2.1.2 j hj).1]
          · try dsimp only
            split
            · exact ⟨i, by omega, rfl⟩
            · split
              · exact ⟨_, by omega, rfl⟩
              · exact ⟨j, hj, rfl⟩
          · try dsimp only
            rw [if_neg (by omega), if_neg (by omega)]
            exact hu j (by omega) h2
          · rw [heq]
            intro j E hj
            by_cases hjk : j < (aclean es i).length
            · rw [List.getElem?_append_left hjk] at hj
              try dsimp only
              rw [if_neg (by omega), if_neg (by omega)]
              exact hel j E hj
            · have hjl := (List.getElem?_eq_some_iff.mp hj).1
              rw [List.length_append] at hjl
              have hjk2 : j = (aclean es i).length := by simp at hjl; omega
              rw [List.getElem?_append_right (by omega), hjk2, Nat.sub_self] at hj
              have hj : some (es.getD i aE0) = some E := hj
              cases hj
              try dsimp only
              rw [if_pos hjk2, hu i (by omega) (by omega)]
              refine hE i _ ?_
              rw [List.getD_eq_getElem?_getD, List.getElem?_eq_getElem hil]
              rfl
  exact en_X3_dropNeedless _ M (sg_X3_dropNeedless_0 _ M (loop es.length 0 eid M _ (by omega) zfq_rf hI (fun _ _ _ => rfl) fun j E hj => by cases hj))
end
section
/-! elements sorted, in the class -/
theorem iap_comp {H w : Nat} {e σ : Nat → Nat} (h : iap H w e) (h1 : ∀ i, i < 25 → σ i < 25) (h2 : ∀ i j, i < 25 → j < 25 → σ i = σ j → i = j) : iap H w (fun j => e (σ j)) := ⟨fun i hi => h.1 _ (h1 i hi), fun i j hi hj hij => h.2 _ _ (h1 i hi) (h1 j hj) fun z => hij (h2 i j hi hj z)⟩
def asft (i a j : Nat) : Nat := if j = a then i else if a < j ∧ j ≤ i then j - 1 else j
theorem asft_lt {i a j : Nat} (hi : i < 25) (hj : j < 25) : asft i a j < 25 := by
  unfold asft
  split
  · exact hi
  · split <;> omega
theorem asft_inj {i a j c : Nat} (ha : a ≤ i) (h : asft i a j = asft i a c) : j = c := by
  unfold asft at h
  split at h
  · split at h
    · omega
    · split at h <;> omega
  · split at h
    · split at h
      · omega
      · split at h <;> omega
    · split at h
      · omega
      · split at h <;> omega
theorem sp_sortElements {d H o w k sh : Nat} {M : zM} {eid : Nat → Nat} {cs : List aE} {P : zM → Prop} (hd : 2 ≤ d) (hI : ist M H o w eid) (ho : ost M o k) (hc : icn M H sh cs.length) (hE : iel M eid k cs) (hk : iok k sh cs)
    (h : ∀ e M', zfq (fun _ => False) (H + 1) M M' → ist M' H o w e → iel M' e k (aesrt k cs cs.length) → P M') : ycV d nX3_sortElements [.ref H] M P := by
  obtain ⟨d, rfl, hde⟩ := dS hd
  have hl := hc.2.2
  have hrk : ∀ L : List aE, iok k sh L → ∀ j, ark k (ald L j) < 1073741824 := fun L hL j => ark_lt (iok_mok hL j)
  have outer : ∀ (n i : Nat) (e : Nat → Nat) (M' : zM) (o2 o3 o4 : Option Value), i + n = max cs.length 1 → 1 ≤ i → zfq (fun _ => False) (H + 1) M M' → ist M' H o w e → (∀ (j : Nat) (E : aE), i ≤ cs.length → (aesrt k cs i)[j]? = some E → edy M (e j) k E) → (∀ (j : Nat) (E : aE), i ≤ j → cs[j]? = some E → edy M (e j) k E) → wX3_sortElements d (fun r M2 => r = [] ∧ P M2) 2 [some (.ref H), some (.int (nI i)), o2, o3, o4] [] M' := by
    intro n
    induction n with
    | zero =>
      intro i e M' o2 o3 o4 hi hi1 hfr hI' hs ht
      have hc2 : zI M' H 2 = nI cs.length := by rw [(hfr.2.2.2.2 H (fun z => z)).1]; exact hc.1
      refine sg_X3_sortElements_2 _ _ _ _ _ _ ⟨hI'.1.1, fun _ => ⟨rfl, h e M' hfr hI' fun j E hj => edy_fq (w := E.2.length) hfr (Nat.le_refl _) (fun _ _ z => z) ?_⟩, fun c => absurd (by rw [hc2]; exact (nI_leI (by omega) (by omega)).mpr (by omega)) c⟩
      by_cases h0 : cs.length = 0
      · rw [h0] at hj
        cases hj
      · rw [show cs.length = i by omega] at hj
        exact hs j E (by omega) hj
    | succ n ih =>
      intro i e M' o2 o3 o4 hi hi1 hfr hI' hs ht
      have hil : i < cs.length := by omega
      have hc2 : zI M' H 2 = nI cs.length := by rw [(hfr.2.2.2.2 H (fun z => z)).1]; exact hc.1
      have s := hI'.1.1
      have hr1 := hI'.1.2.2.1
      have hr0 := hI'.1.2.1
      have ci := cl_n (n := i) (by omega)
      have hRi := hI'.2.1.2 i (by omega)
      have hRD : ∀ j, j < 25 → ¬ inE w (e j) (H + 1) := fun j hj => by have := hI'.2.2.1.1 j hj; unfold inE; omega
      have ho' := ost_fq hfr (fun z => z) ho
      have hok := iok_srt hk (show i ≤ cs.length by omega)
      have hlen := aesrt_len (k := k) (es := cs) (i := i)
      obtain ⟨ti, li, ci2, gi1, gi2, gi3, -⟩ := iok_lead hk hil
      have hri := hrk cs hk i
      -- the place is found
      have fin : ∀ (a : Nat) (M2 : zM), a ≤ i → zfq (fun _ => False) (H + 1) M' M2 → (∀ j, zR M2 (H + 1) j = if a < j ∧ j ≤ i then zR M' (H + 1) (j - 1) else zR M' (H + 1) j) → aescan k (ark k (ald cs i)) (aesrt k cs i) i = a → wX3_sortElements d (fun r M2 => r = [] ∧ P M2) 2 [some (.ref H), some (.int (nI i + 1)), some (.ref (e i)), some (.int (nI (ark k (ald cs i)))), some (.int (nI a))] [] (zuR M2 (H + 1) a (e i)) := fun a M2 ha hfr2 hz hsc => by
        rw [nI_1]
        have hfr3 : zfq (fun _ => False) (H + 1) M' (zuR M2 (H + 1) a (e i)) := zfq_tr hfr2 zfq_uR
        have hee : ∀ j, j < 25 → zR (zuR M2 (H + 1) a (e i)) (H + 1) j = e (asft i a j) := fun j hj => by
          rw [zR_uR, hz]
          unfold asft
          by_cases hja : j = a
          · rw [if_pos ⟨rfl, hja⟩, if_pos hja]
          · rw [if_neg (fun z => hja z.2), if_neg hja]
            split
            · exact (hI'.2.1.2 (j - 1) (by omega)).1
            · exact (hI'.2.1.2 j hj).1
        refine ih (i + 1) (fun j => e (asft i a j)) _ _ _ _ (by omega) (by omega) (zfq_tr hfr hfr3) (ist_fq hfr3 hI' hee (iap_comp hI'.2.2.1 (fun j hj => asft_lt (by omega) hj) fun j c hj hc => asft_inj ha) fun j hj => ⟨asft i a j, asft_lt (by omega) hj, rfl⟩) (fun j E _ hj => ?_) (fun j E hij hj => ?_)
        · rw [aesrt_s, hsc, List.getElem?_insertIdx] at hj
          try dsimp only
          unfold asft
          by_cases hja : j < a
          · rw [if_pos hja] at hj
            rw [if_neg (by omega), if_neg (by omega)]
            exact hs j E (by omega) hj
          · rw [if_neg hja] at hj
            by_cases hje : j = a
            · rw [if_pos hje, if_pos (by omega)] at hj
              rw [if_pos hje]
              refine ht i E (Nat.le_refl _) ?_
              rw [← hj, List.getD_eq_getElem?_getD, List.getElem?_eq_getElem hil]
              rfl
            · rw [if_neg hje] at hj
              have hjl := (List.getElem?_eq_some_iff.mp hj).1
              rw [if_neg hje, if_pos (by omega)]
              exact hs (j - 1) E (by omega) hj
        · try dsimp only
          unfold asft
          rw [if_neg (by omega), if_neg (by omega)]
          exact ht j E (by omega) hj
      have inner : ∀ (a : Nat) (M2 : zM), a ≤ i → zfq (fun _ => False) (H + 1) M' M2 → (∀ j, zR M2 (H + 1) j = if a < j ∧ j ≤ i then zR M' (H + 1) (j - 1) else zR M' (H + 1) j) → aescan k (ark k (ald cs i)) (aesrt k cs i) i = aescan k (ark k (ald cs i)) (aesrt k cs i) a → wX3_sortElements d (fun r M2 => r = [] ∧ P M2) 19 [some (.ref H), some (.int (nI i)), some (.ref (e i)), some (.int (nI (ark k (ald cs i)))), some (.int (nI a))] [] M2 := by
        intro a
        induction a with
        | zero =>
          intro M2 ha hfr2 hz hsc
          have q1 : zR M2 H 1 = H + 1 := by rw [hfr2.2.2.2.1 _ _ (by omega)]; exact hr1
          have sH : (zsh M2 H).1 = 12 := by rw [hfr2.1]; exact s
          have sR : zsh M2 (H + 1) = (6, 25) := by rw [hfr2.1]; exact hI'.2.1.1
          refine sg_X3_sortElements_19 _ _ _ _ _ _ ⟨fun _ => ⟨sH, by rw [q1, sR], by rw [q1, sR]; exact zin_n (by omega) (by omega), by rw [hfr2.1]; exact hRi.2.1, ?_⟩, fun c => absurd (by decide) c⟩
          rw [q1]
          exact fin 0 M2 (by omega) hfr2 hz hsc
        | succ a iha =>
          intro M2 ha hfr2 hz hsc
          have q1 : zR M2 H 1 = H + 1 := by rw [hfr2.2.2.2.1 _ _ (by omega)]; exact hr1
          have q0 : zR M2 H 0 = o := by rw [hfr2.2.2.2.1 _ _ (by omega)]; exact hr0
          have sH : (zsh M2 H).1 = 12 := by rw [hfr2.1]; exact s
          have sR : zsh M2 (H + 1) = (6, 25) := by rw [hfr2.1]; exact hI'.2.1.1
          have ca := cl_n (n := a) (by omega)
          have ca1 := cl_n (n := a + 1) (by omega)
          have em : nI (a + 1) - 1 = nI a := nI_pred a
          have hza : zR M2 (H + 1) a = e a := by rw [hz, if_neg (by omega)]; exact (hI'.2.1.2 a (by omega)).1
          have hea := est_fq hfr2 (hRD a (by omega)) (hI'.2.1.2 a (by omega)).2
          obtain ⟨t, l, c2, g1, g2, g3, -⟩ := iok_lead hok (show a < (aesrt k cs i).length by omega)
          have hpa := pdy_fq hfr2 (fun _ _ z => z) (pdy_fq hfr (fun _ _ z => z) (hs a _ (by omega) g1).1)
          have ho2 := ost_fq hfr2 (fun z => z) ho'
          have hra := hrk _ hok a
          have zi1 : zin (nI (a + 1)) 25 := zin_n (by omega) (by omega)
          have zi0 : zin (nI a) 25 := zin_n (by omega) (by omega)
          refine sg_X3_sortElements_19 _ _ _ _ _ _ ⟨fun c => ?_, fun _ => ⟨sH, sH, by rw [q1, sR], by rw [q1, sR, em]; exact zi0, by rw [q1, em, ca, hza]; exact hea.1, ?_⟩⟩
          · have := (nI_leI (b := 0) (by omega) (by omega)).mp c
            omega
          · rw [q1, em, ca, hza, q0]
            refine sp_leading (by omega) hea hpa ⟨ho2.1, sp_rank (by omega) g3 ho2.1 ho2.2.1 ho2.2.2 ?_⟩
            rw [← g2]
            have hsc' : aescan k (ark k (ald cs i)) (aesrt k cs i) (a + 1) = if ark k (ald cs i) < ark k (ald (aesrt k cs i) a) then aescan k (ark k (ald cs i)) (aesrt k cs i) a else a + 1 := rfl
            refine ⟨fun c => ?_, fun c => ?_⟩
            · have c := (nI_leI (by omega) (by omega)).mp c
              rw [if_neg (by omega)] at hsc'
              refine ⟨sH, by rw [q1, sR], by rw [q1, sR]; exact zi1, by rw [hfr2.1]; exact hRi.2.1, ?_⟩
              rw [q1, ca1]
              exact fin (a + 1) M2 ha hfr2 hz (hsc.trans hsc')
            · have c : ¬ ark k (ald (aesrt k cs i) a) ≤ ark k (ald cs i) := fun z => c ((nI_leI (by omega) (by omega)).mpr z)
              rw [if_pos (by omega)] at hsc'
              refine ⟨sH, sH, by rw [q1, sR], by rw [q1, sR]; exact zi0, by rw [q1, sR], by rw [q1, sR]; exact zi1, by rw [q1, hza]; exact hea.1, ?_⟩
              rw [q1, ca1, hza]
              intro M9 v4
              rw [show v4 = nI a from pk_m1 a]
              refine iha M9 (by omega) (zfq_tr hfr2 zfq_uR) (fun j => ?_) (hsc.trans hsc')
              rw [show M9 = zuR M2 (H + 1) (a + 1) (e a) from rfl, zR_uR]
              by_cases hj : j = a + 1
              · rw [if_pos ⟨rfl, hj⟩, if_pos (by omega), show j - 1 = a by omega]
                exact (hI'.2.1.2 a (by omega)).1.symm
              · rw [if_neg (fun z => hj z.2), hz]
                by_cases hj2 : a + 1 < j ∧ j ≤ i
                · rw [if_pos hj2, if_pos (by omega)]
                · rw [if_neg hj2, if_neg (by omega)]
      refine sg_X3_sortElements_2 _ _ _ _ _ _ ⟨s, fun c => ?_, fun _ => ⟨s, by rw [hr1, hI'.2.1.1], by rw [hr1, hI'.2.1.1]; exact zin_n (by omega) (by omega), ?_⟩⟩
      · rw [hc2] at c
        have := (nI_leI (by omega) (by omega)).mp c
        omega
      · intro r2
        have e2 : r2 = e i := by rw [show r2 = zR M' (zR M' H 1) (nI i).toNatClampNeg from rfl, hr1, ci, hRi.1]
        clear_value r2
        subst e2
        refine ⟨s, hRi.2.1, sp_leading (by omega) hRi.2 (pdy_fq hfr (fun _ _ z => z) (ht i _ (Nat.le_refl _) gi1).1) ⟨by rw [hr0]; exact ho'.1, ?_⟩⟩
        rw [hr0]
        refine sp_rank (by omega) gi3 ho'.1 ho'.2.1 ho'.2.2 ?_
        rw [← gi2]
        exact inner i M' (Nat.le_refl _) zfq_rf (fun j => by rw [if_neg (by omega)]) rfl
  refine en_X3_sortElements _ M (sg_X3_sortElements_0 _ M (outer (max cs.length 1 - 1) 1 eid M _ _ _ (by omega) (by omega) zfq_rf hI (fun j E hl1 hj => ?_) (fun j E _ hj => hE j E hj)))
  have e1 : aesrt k cs 1 = [cs.getD 0 aE0] := rfl
  rw [e1] at hj
  have hj0 := (List.getElem?_eq_some_iff.mp hj).1
  have hj0 : j = 0 := by simp at hj0; omega
  subst hj0
  refine hE 0 E ?_
  rw [← hj, List.getD_eq_getElem?_getD, List.getElem?_eq_getElem (by omega)]
  rfl
end
section
/-! an element reduced; a basis built, in the class -/
theorem sp_reduce {d H D o w k sh i st lim : Nat} {M : zM} {eid : Nat → Nat} {es : List aE} {P : Int32 → zM → Prop} (hd : 6 ≤ d) (hI : ist M H o w eid) (hD : dst M D o) (ho : ost M o k) (hsh : sh ≤ w) (hHD : H + 153 + 100 * w ≤ D ∨ D + 106 ≤ H) (hoD : o < D) (hc : icn M H sh es.length) (hE : iel M eid k es) (hk : iok k sh es) (hi : i < es.length) (hst : zI M D 3 = nI st) (hlim : zI M D 4 = nI lim) (hsl : st ≤ lim) (hl2 : lim ≤ 20000)
    (h : ∀ x, ared k sh es (lim - st) i = x → ∀ M', zfr (fun a => inE w (eid i) a ∨ inD D a) M M' → zI M' D 4 = nI lim → zI M' D 3 = nI (lim - x.2.2) → (x.1 = 0 → x.2.2 ≤ lim ∧ x.2.1.length = es.length ∧ iel M' eid k x.2.1 ∧ iok k sh x.2.1) → P (ecode x.1) M') : ycI d nX3_reduceElement [.ref H, .int (nI i), .ref D] M P := by
  obtain ⟨d, rfl, he⟩ := dS hd
  have hl := hc.2.2
  have hw8 := hI.2.2.2.2
  have hoH := hI.2.2.2.1
  have s := hI.1.1
  have hr1 := hI.1.2.2.1
  have ci := cl_n (n := i) (by omega)
  have hRi := hI.2.1.2 i (by omega)
  have bi := hI.2.2.1.1 i (by omega)
  obtain ⟨t, l, cs, gi, gl, gm, gc, gk⟩ := iok_lead hk hi
  have gD : es.getD i aE0 = (t :: l, cs) := by rw [List.getD_eq_getElem?_getD, gi]; rfl
  have hA : ared k sh es (lim - st) i = (if (adiv k (es.map Prod.fst) (some i) (lim - st) l [] (List.replicate es.length [])).1 = 0 then
    (match omp (fun kk => als k true kk es (adiv k (es.map Prod.fst) (some i) (lim - st) l [] (List.replicate es.length [])).2.2.2 (cs.getD kk []) es.length) sh with
    | none => (2, es, (adiv k (es.map Prod.fst) (some i) (lim - st) l [] (List.replicate es.length [])).2.1)
    | some cs => match acome k ((1, 1), ald es i) (adiv k (es.map Prod.fst) (some i) (lim - st) l [] (List.replicate es.length [])).2.2.1 with
      | none => (2, es, (adiv k (es.map Prod.fst) (some i) (lim - st) l [] (List.replicate es.length [])).2.1)
      | some b => (0, es.set i (b, cs), (adiv k (es.map Prod.fst) (some i) (lim - st) l [] (List.replicate es.length [])).2.1))
    else ((adiv k (es.map Prod.fst) (some i) (lim - st) l [] (List.replicate es.length [])).1, es, (adiv k (es.map Prod.fst) (some i) (lim - st) l [] (List.replicate es.length [])).2.1)) := by
    unfold ared
    have e1 : ∀ kk, acof es i kk = cs.getD kk [] := fun kk => by
      show (es.getD i aE0).2.getD kk [] = _
      rw [gD]
    rw [show (fun kk => als k true kk es (adiv k (es.map Prod.fst) (some i) (lim - st) (es.getD i aE0).1.tail [] (List.replicate es.length [])).2.2.2 (acof es i kk) es.length) = (fun kk => als k true kk es (adiv k (es.map Prod.fst) (some i) (lim - st) (es.getD i aE0).1.tail [] (List.replicate es.length [])).2.2.2 (cs.getD kk []) es.length) from funext fun kk => by rw [e1], gD]
    rfl
  have hbs : ∀ (j : Nat) (b : aP), (es.map Prod.fst)[j]? = some b → ∃ E, es[j]? = some E ∧ E.1 = b := fun j b hb => by
    rw [List.getElem?_map] at hb
    cases hej : es[j]? with
    | none => rw [hej] at hb; cases hb
    | some E =>
      rw [hej] at hb
      cases hb
      exact ⟨E, rfl, rfl⟩
  have hlt := adiv_lt (k := k) (N := ark k t.2) (bs := es.map Prod.fst) (lo := some i) (fun b hb => by
    obtain ⟨E, h1, h2⟩ := List.mem_map.mp hb
    have := hk E h1
    rw [← h2]
    exact ⟨this.1.1, this.2.1⟩) (lim - st) l [] (List.replicate es.length []) (srt_tail gk.1) (pok_head gk.1) (fun _ hz => absurd hz List.not_mem_nil)
  have hlo := adiv_lo (k := k) (i := i) (bs := es.map Prod.fst) (lim - st) l [] (List.replicate es.length []) (fun q hq => by
    have := List.mem_of_getElem? hq
    exact (List.mem_replicate.mp this).2)
  have hle := adiv_le (k := k) (bs := es.map Prod.fst) (lo := some i) (lim - st) l [] (List.replicate es.length [])
  refine en_X3_reduceElement _ _ _ M (sg_X3_reduceElement_0 _ _ _ M ⟨s, by rw [hr1, hI.2.1.1], by rw [hr1, hI.2.1.1]; exact zin_n (by omega) (by omega), ?_⟩)
  intro r3
  have e3 : r3 = eid i := by rw [show r3 = zR M (zR M H 1) (nI i).toNatClampNeg from rfl, hr1, ci, hRi.1]
  clear_value r3
  subst e3
  refine ⟨hRi.2.1, sp_ld (by omega) hI hE hk (by omega) hi ⟨s, hD.1, ?_⟩⟩
  rw [hc.1]
  refine sp_makeReady (k := k) (by omega) hD (by omega) fun M3 hfr3 hdd3 => ?_
  have hI3 := ist_fr hfr3 hI
  have hD3 := dst_fr hfr3 hD
  have hRi3 := hI3.2.1.2 i (by omega)
  refine ⟨hD3.1, hRi3.2.1, by rw [hD3.2.1]; exact hD3.2.2.2.2.2.2.1.1, ?_⟩
  rw [hD3.2.1, hRi3.2.2.1]
  refine sp_become (by omega) hD3.2.2.2.2.2.2.1 hRi3.2.2.2.2.2.2.1 (by omega) (pdy_fr hfr3 (fun a ha => by unfold inP at ha; unfold inD1; omega) (hE i _ gi).1) gk.1.2.2 fun M4 hfr4 hpd4 => ?_
  have hD4 := dst_fr hfr4 hD3
  refine ⟨hD4.1, by rw [hD4.2.1]; exact hD4.2.2.2.2.2.2.1.1, ?_⟩
  rw [hD4.2.1]
  refine sp_behead (by omega) hD4.2.2.2.2.2.2.1 hpd4 gk.1.2.2 fun M5 hfr5 hpd5 => ?_
  have hpd5 : pdy M5 (D + 1) k l := hpd5
  have hD5 := dst_fr hfr5 hD4
  have hI5 := ist_fr hfr5 (ist_fr hfr4 hI3)
  have up1 : ∀ a, inP (D + 1) a → inD1 D a := fun a ha => by unfold inP at ha; unfold inD1; omega
  have hfa : zfr (inD1 D) M M5 := zfr_tr hfr3 (zfr_tr (zfr_up hfr4 up1) (zfr_up hfr5 up1))
  have ho5 := ost_fr hfa (by unfold inD1; omega) ho
  have hE5 := iel_fr hfa hI hk hsh hl (fun j hj a ha => by
    have := hI.2.2.1.1 j (by omega)
    unfold inE at ha
    unfold inD1
    omega) hE
  have hc5 := icn_fr hfa (by unfold inD1; omega) hc
  have d5 : ∀ j, zI M5 D j = zI M D j := (hfa.2.2.2.2 D (by unfold inD1; omega)).1
  refine ⟨hI5.1.1, hI5.1.1, hD5.1, ?_⟩
  rw [hI5.1.2.2.1, hc5.1]
  have hdd5 : ddy M5 D k l [] (List.replicate es.length []) := ⟨hpd5, pdy_fr hfr5 (inP_ne (by omega)) (pdy_fr hfr4 (inP_ne (by omega)) hdd3.2.1), fun j q hj => pdy_fr hfr5 (inP_ne (by omega)) (pdy_fr hfr4 (inP_ne (by omega)) (hdd3.2.2 j q hj))⟩
  refine sp_run (lo := some i) (st0 := st) (lim := lim) (by omega) hD5 hI5.2.1 ho5 (by unfold inD; omega) (fun j hj => by have := hI5.2.2.1.1 j hj; omega) (fun j b hb => by
      obtain ⟨E, h1, h2⟩ := hbs j b hb
      have := hk E (List.mem_of_getElem? h1)
      rw [← h2]
      exact ⟨(hE5 j E h1).1, this.1.1, this.2.1⟩) (by rw [List.length_map]) (by omega) (fun j hj => by cases hj; omega) hdd5 (srt_tail gk.1) pok_nil (fun q hq => by rw [(List.mem_replicate.mp hq).2]; exact pok_nil) List.length_replicate (by rw [d5]; exact hst) (by rw [d5]; exact hlim) hsl hl2 fun M6 hfr6 h64 h63 h6ok => ?_
  generalize adiv k (es.map Prod.fst) (some i) (lim - st) l [] (List.replicate es.length []) = dv at hA h63 h6ok hle hlt hlo
  have hfb : zfr (fun a => inE w (eid i) a ∨ inD D a) M M6 := zfr_tr (zfr_up hfa fun a ha => Or.inr (by unfold inD1 at ha; unfold inD; omega)) (zfr_up hfr6 fun a ha => Or.inr ha)
  refine ⟨fun z => ?_, fun z => ?_⟩
  · have z := ecode_0.mp z
    rw [if_pos z] at hA
    obtain ⟨hdd6, hrk6, hqk6, hql6⟩ := h6ok z
    have hI6 := ist_fr hfr6 hI5
    have hD6 := dst_fr hfr6 hD5
    have ho6 := ost_fr hfr6 (by unfold inD; omega) ho5
    have hc6 := icn_fr hfr6 (by unfold inD; omega) hc5
    have hE6 := iel_fr hfr6 hI5 hk hsh hl (fun j hj a ha => by
      have := hI.2.2.1.1 j (by omega)
      unfold inE at ha
      unfold inD
      omega) hE5
    refine ⟨hI6.1.1, ?_⟩
    refine sp_takeQ (x := i) (cs := cs) (qs := dv.2.2.2) (by omega) hI6 hD6 ho6 hsh hHD hc6 (by omega) (fun e E _ hx => hE6 e E hx) hk (fun e q hq => ⟨hdd6.2.2 e q hq, hqk6 q (List.mem_of_getElem? hq), fun e0 => hlo q (by rw [← e0]; exact hq)⟩) hql6 (fun j c hj => ⟨(hE6 i _ gi).2 j c hj, gk.2 c (List.mem_of_getElem? hj)⟩) gc (fun cs' M7 hcs' hfr7 hcc7 => ?_) (fun M7 hn7 hfr7 => ?_)
    · rw [hcs'] at hA
      dsimp only at hA
      have hI7 := ist_fr hfr7 hI6
      have hD7 := dst_fr hfr7 hD6
      have hRi7 := hI7.2.1.2 i (by omega)
      have ho7 := ost_fr hfr7 (by unfold inC; omega) ho6
      refine ⟨fun _ => ⟨hRi7.2.1, hD7.1, by rw [hRi7.2.2.1]; exact hRi7.2.2.2.2.2.2.1.1, ?_⟩, fun z => absurd (Classical.not_not.mp z) (by decide)⟩
      rw [hRi7.2.2.1, hD7.2.2.1]
      refine sp_become (by omega) hRi7.2.2.2.2.2.2.1 hD7.2.2.2.2.2.2.2.1 (by omega) (pdy_fr hfr7 (fun a ha => by unfold inP at ha; unfold inC; omega) hdd6.2.1) hrk6.2.2 fun M8 hfr8 hpd8 => ?_
      have hI8 := ist_fr hfr8 hI7
      have hRi8 := hI8.2.1.2 i (by omega)
      refine ⟨hRi8.2.1, by rw [hRi8.2.2.1]; exact hRi8.2.2.2.2.2.2.1.1, ?_⟩
      rw [hRi8.2.2.1]
      have ht1 : tok ((1, 1), ald es i) := ⟨fok_1, (by decide : (1 : Int) ≠ 0), by rw [gl]; exact gm⟩
      have htop := acome_top (k := k) (u := ((1, 1), ald es i)) (L := dv.2.2.1) (fun u hu => by rw [gl]; exact hlt u hu)
      have hfc : zfr (inE w (eid i)) M6 M8 := zfr_tr (zfr_up hfr7 fun a ha => by unfold inC at ha; unfold inE; omega) (zfr_up hfr8 fun a ha => by unfold inP at ha; unfold inE; omega)
      refine sp_come (t := ((1, 1), ald es i)) (by omega) hRi8.2.2.2.2.2.2.1 (ost_fr hfr8 (by unfold inP; omega) ho7) hpd8 hrk6 ht1 (fun b M9 hb hfr9 hpd9 => ?_) (fun hn9 => ?_)
      · rw [hb] at hA
        dsimp only at hA
        have hfd : zfr (inE w (eid i)) M6 M9 := zfr_tr hfc (zfr_up hfr9 fun a ha => by unfold inP at ha; unfold inE; omega)
        have dD : ∀ j, zI M9 D j = zI M6 D j := (hfd.2.2.2.2 D (by unfold inE; omega)).1
        have hbne : b ≠ [] := fun e => by
          rw [hb, e] at htop
          split at htop <;> cases htop
        refine ⟨fun z => absurd z (by decide), fun _ => ⟨_, rfl, h _ hA M9 (zfr_tr hfb (zfr_up hfd fun a ha => Or.inl ha)) (by rw [dD]; exact h64) (by rw [dD]; exact h63) fun _ => ⟨by show dv.2.1 ≤ lim; omega, by rw [List.length_set], fun j E hj => ?_, fun E hE => ?_⟩⟩⟩
        · rw [List.getElem?_set] at hj
          by_cases hji : i = j
          · subst hji
            rw [if_pos rfl, if_pos hi] at hj
            cases hj
            refine ⟨hpd9, fun kk c hkk => ?_⟩
            have := (List.getElem?_eq_some_iff.mp hkk).1
            exact pdy_fr hfr9 (inP_ne (by omega)) (pdy_fr hfr8 (inP_ne (by omega)) (hcc7 kk c hkk).1)
          · rw [if_neg hji] at hj
            have hjl := (List.getElem?_eq_some_iff.mp hj).1
            have := hI.2.2.1.2 i j (by omega) (by omega) hji
            exact edy_fr (w := w) hfd (by rw [(hk E (List.mem_of_getElem? hj)).2.2]; exact hsh) (fun a ha => by unfold inE at ha; unfold inE; omega) (hE6 j E hj)
        · rcases List.mem_or_eq_of_mem_set hE with hE | rfl
          · exact hk E hE
          · refine ⟨⟨acome_ok hrk6 ht1 hb, fun c hc => ?_⟩, hbne, omp_len hcs'⟩
            obtain ⟨kk, hkk⟩ := List.getElem?_of_mem hc
            exact (hcc7 kk c hkk).2
      · rw [hn9] at hA
        have dD : ∀ j, zI M8 D j = zI M6 D j := (hfc.2.2.2.2 D (by unfold inE; omega)).1
        exact ⟨fun _ => ⟨_, rfl, h _ hA M8 (zfr_tr hfb (zfr_up hfc fun a ha => Or.inl ha)) (by rw [dD]; exact h64) (by rw [dD]; exact h63) (fun e => absurd (show (2 : Nat) = 0 from e) (by decide))⟩, fun z => absurd rfl z⟩
    · rw [hn7] at hA
      have dD : ∀ j, zI M7 D j = zI M6 D j := (hfr7.2.2.2.2 D (by unfold inC; omega)).1
      exact ⟨fun z => absurd rfl z, fun _ => ⟨_, rfl, h _ hA M7 (zfr_tr hfb (zfr_up hfr7 fun a ha => Or.inl (by unfold inC at ha; unfold inE; omega))) (by rw [dD]; exact h64) (by rw [dD]; exact h63) (fun e => absurd (show (2 : Nat) = 0 from e) (by decide))⟩⟩
  · have z : dv.1 ≠ 0 := fun e => z (by rw [e]; rfl)
    rw [if_neg z] at hA
    exact ⟨_, rfl, h _ hA M6 hfb h64 h63 (fun e => absurd e z)⟩
theorem areds_s {k sh n i : Nat} {es : List aE} : areds k sh es n (i + 1) = if (areds k sh es n i).1 = 0 then ared k sh (areds k sh es n i).2.1 (areds k sh es n i).2.2 i else areds k sh es n i := rfl
theorem areds_no {k sh n i : Nat} {es : List aE} (h : (areds k sh es n i).1 ≠ 0) : ∀ {m : Nat}, i ≤ m → areds k sh es n m = areds k sh es n i
  | 0, hm => by rw [show i = 0 by omega]
  | m + 1, hm => by
    by_cases e : i = m + 1
    · rw [e]
    · have ih := areds_no h (show i ≤ m by omega)
      rw [areds_s, if_neg (by rw [ih]; exact h), ih]
theorem apairs_s {k sh f : Nat} {s : aS} : apairs k sh (f + 1) s = (match achoose k s.1 s.2.1 with
    | none => (0, s)
    | some x => if (asettle k sh s.1 s.2.1 s.2.2.1 x.2.1 x.2.2).1 = 0 then apairs k sh f ((asettle k sh s.1 s.2.1 s.2.2.1 x.2.1 x.2.2).2.1, (asettle k sh s.1 s.2.1 s.2.2.1 x.2.1 x.2.2).2.2.1, (asettle k sh s.1 s.2.1 s.2.2.1 x.2.1 x.2.2).2.2.2.1, s.2.2.2.1 + 1, s.2.2.2.2 + (asettle k sh s.1 s.2.1 s.2.2.1 x.2.1 x.2.2).2.2.2.2)
      else ((asettle k sh s.1 s.2.1 s.2.2.1 x.2.1 x.2.2).1, ((asettle k sh s.1 s.2.1 s.2.2.1 x.2.1 x.2.2).2.1, (asettle k sh s.1 s.2.1 s.2.2.1 x.2.1 x.2.2).2.2.1, (asettle k sh s.1 s.2.1 s.2.2.1 x.2.1 x.2.2).2.2.2.1, s.2.2.2.1 + 1, s.2.2.2.2 + (asettle k sh s.1 s.2.1 s.2.2.1 x.2.1 x.2.2).2.2.2.2))) := rfl
theorem sp_build {d H D G o w k sh lim : Nat} {M : zM} {eid : Nat → Nat} {gens : List aP} {P : Int32 → zM → Prop} (hd : 7 ≤ d) (hI : ist M H o w eid) (hD : dst M D o) (ho : ost M o k) (hsh : sh ≤ w) (hHD : H + 153 + 100 * w ≤ D ∨ D + 106 ≤ H) (hoD : o < D) (hGH : G + 37 ≤ H) (hGD : G + 37 ≤ D) (hG : gst M G o) (hg : gdy M G k gens) (hgl : gens.length ≤ 9) (hl2 : lim ≤ 20000)
    (h : ∀ x, abuild k sh lim gens = x → ∀ e M', zfq (fun a => inI H w a ∨ inD D a) (H + 1) M M' → ist M' H o w e → zI M' H 3 = nI (lim - x.2.2.1) → zI M' H 4 = nI x.2.2.2.1 → zI M' H 5 = nI x.2.2.2.2.1 → zI M' H 6 = nI x.2.2.2.2.2 → (x.1 = 0 → icn M' H sh x.2.1.length ∧ iel M' e k x.2.1 ∧ iok k sh x.2.1) → P (ecode x.1) M') : ycI d nX3_build [.ref H, .ref G, .int (nI gens.length), .int (nI sh), .ref D, .int (nI lim)] M P := by
  obtain ⟨d, rfl, he⟩ := dS hd
  have hw8 := hI.2.2.2.2
  have hoH := hI.2.2.2.1
  -- reducing
  have last : ∀ (n i : Nat) (es0 : List aE) (n0 : Nat) (f1 : Nat × aS) (e : Nat → Nat) (M' : zM) (o1 o2 o3 o5 : Option Value), abld1 k sh lim (aadopt sh gens gens.length) = f1 → abld2 k sh f1 = areds k sh es0 n0 es0.length → i + n = es0.length → (areds k sh es0 n0 i).1 = 0 → (areds k sh es0 n0 i).2.1.length = es0.length → (areds k sh es0 n0 i).2.2 ≤ lim → zfq (fun a => inI H w a ∨ inD D a) (H + 1) M M' → ist M' H o w e → zI M' H 4 = nI f1.2.2.2.2.1 → zI M' H 5 = nI f1.2.2.2.2.2 → zI M' H 6 = nI f1.2.1.length → icn M' H sh es0.length → iel M' e k (areds k sh es0 n0 i).2.1 → iok k sh (areds k sh es0 n0 i).2.1 → zI M' D 4 = nI lim → zI M' D 3 = nI (lim - (areds k sh es0 n0 i).2.2) → wX3_build d (fun r M2 => ∃ x : Int32, r = [.int x] ∧ P x M2) 39 [some (.ref H), o1, o2, o3, some (.ref D), o5, some (.int 0), some (.int (nI i))] [] M' := by
    intro n
    induction n with
    | zero =>
      intro i es0 n0 f1 e M' o1 o2 o3 o5 hf1 hf2 hi hx0 hxl hxn hfr hI' h4 h5 h6 hc hel hok hd4 hd3
      have hD' := dst_fq hfr (by unfold inD; omega) hD
      rw [show i = es0.length by omega] at hx0 hxl hxn hel hok hd3
      refine sg_X3_build_39 _ _ _ _ _ _ _ _ _ ⟨hI'.1.1, fun _ => ⟨hD'.1, hI'.1.1, ?_⟩, fun c => absurd (by rw [hc.1, show i = es0.length by omega]; exact Int32.le_refl _) c⟩
      intro M1
      have hfr1 : zfr (fun a => a = H) M' M1 := zfr_uI rfl
      have g : ∀ j, j ≠ 3 → zI M1 H j = zI M' H j := fun j hj => by rw [show M1 = zuI M' H 3 (zI M' D 3) from rfl, zI_uI, if_neg (by omega)]
      refine ⟨_, rfl, ?_⟩
      have := h _ rfl e M1 (zfq_tr hfr (zfq_of (zfr_up hfr1 fun a ha => Or.inl (by unfold inI; omega)))) (ist_fr hfr1 hI')
      unfold abuild at this
      rw [hf1, hf2] at this
      rw [hx0] at this
      refine this ?_ ?_ ?_ ?_ fun _ => ⟨?_, ?_, hok⟩
      · rw [show M1 = zuI M' H 3 (zI M' D 3) from rfl, zI_uI, if_pos ⟨rfl, rfl⟩]
        exact hd3
      · rw [g 4 (by omega)]; exact h4
      · rw [g 5 (by omega)]; exact h5
      · rw [g 6 (by omega)]; exact h6
      · show icn M1 H sh (areds k sh es0 n0 es0.length).2.1.length
        rw [hxl]
        exact ⟨by rw [g 2 (by omega)]; exact hc.1, by rw [g 10 (by omega)]; exact hc.2.1, hc.2.2⟩
      · exact iel_fr hfr1 hI' hok hsh (by rw [hxl]; exact hc.2.2) (fun j hj a ha => by
          have hj2 : j < es0.length := by rw [← hxl]; exact hj
          have := hI'.2.2.1.1 j (by have := hc.2.2; omega)
          unfold inE at ha
          omega) hel
    | succ n ih =>
      intro i es0 n0 f1 e M' o1 o2 o3 o5 hf1 hf2 hi hx0 hxl hxn hfr hI' h4 h5 h6 hc hel hok hd4 hd3
      have hD' := dst_fq hfr (by unfold inD; omega) hD
      have ho' := ost_fq hfr (by unfold inI inD; omega) ho
      have hcl := hc.2.2
      refine sg_X3_build_39 _ _ _ _ _ _ _ _ _ ⟨hI'.1.1, fun c => ?_, fun _ => ⟨fun z => absurd rfl z, fun _ => ⟨hI'.1.1, ?_⟩⟩⟩
      · rw [hc.1] at c
        have := (nI_leI (by omega) (by omega)).mp c
        omega
      · have stp := areds_s (k := k) (sh := sh) (n := n0) (i := i) (es := es0)
        rw [if_pos hx0] at stp
        refine sp_reduce (st := lim - (areds k sh es0 n0 i).2.2) (by omega) hI' hD' ho' hsh hHD hoD (by rw [hxl]; exact hc) hel hok (by omega) hd3 hd4 (by omega) hl2 fun x hx M2 hfr2 h24 h23 h2ok => ?_
        rw [show lim - (lim - (areds k sh es0 n0 i).2.2) = (areds k sh es0 n0 i).2.2 by omega] at hx
        rw [hx] at stp
        have bi := hI'.2.2.1.1 i (by omega)
        have hH2 : ∀ j, zI M2 H j = zI M' H j := (hfr2.2.2.2.2 H (by unfold inE inD; omega)).1
        have hfa : zfq (fun a => inI H w a ∨ inD D a) (H + 1) M M2 := zfq_tr hfr (zfq_of (zfr_up hfr2 fun a ha => by unfold inE inD at ha; unfold inI inD; omega))
        have hI2 := ist_fr hfr2 hI'
        intro v7
        rw [show v7 = nI (i + 1) from nI_1 i]
        by_cases hx1 : x.1 = 0
        · obtain ⟨y1, y2, y3, y4⟩ := h2ok hx1
          rw [hx1]
          rw [← stp] at y1 y2 y3 y4 h23 hx1
          exact ih (i + 1) es0 n0 f1 e M2 _ _ _ _ hf1 hf2 (by omega) hx1 (y2.trans hxl) y1 hfa hI2 (by rw [hH2]; exact h4) (by rw [hH2]; exact h5) (by rw [hH2]; exact h6) ⟨by rw [hH2]; exact hc.1, by rw [hH2]; exact hc.2.1, hcl⟩ y3 y4 h24 h23
        · -- it ends here
          have hno := areds_no (k := k) (sh := sh) (n := n0) (i := i + 1) (es := es0) (by rw [stp]; exact hx1) (show i + 1 ≤ es0.length by omega)
          rw [stp] at hno
          have hD2 := dst_fr hfr2 hD'
          have done : ∀ M3, M3 = zuI M2 H 3 (zI M2 D 3) → P (ecode x.1) M3 := fun M3 e3 => by
            have hfr3 : zfr (fun a => a = H) M2 M3 := by rw [e3]; exact zfr_uI rfl
            have g : ∀ j, j ≠ 3 → zI M3 H j = zI M' H j := fun j hj => by rw [e3, zI_uI, if_neg (by omega)]; exact hH2 j
            have := h _ rfl e M3 (zfq_tr hfa (zfq_of (zfr_up hfr3 fun a ha => Or.inl (by unfold inI; omega)))) (ist_fr hfr3 hI2)
            unfold abuild at this
            rw [hf1, hf2, hno] at this
            refine this ?_ ?_ ?_ ?_ fun z => absurd z hx1
            · rw [e3, zI_uI, if_pos ⟨rfl, rfl⟩]
              exact h23
            · rw [g 4 (by omega)]; exact h4
            · rw [g 5 (by omega)]; exact h5
            · rw [g 6 (by omega)]; exact h6
          refine sg_X3_build_39 _ _ _ _ _ _ _ _ _ ⟨hI2.1.1, fun _ => ⟨hD2.1, hI2.1.1, ?_⟩, fun _ => ⟨fun _ => ⟨hD2.1, hI2.1.1, ?_⟩, fun z => absurd (ecode_0.mp (Classical.not_not.mp z)) hx1⟩⟩
          · intro M3
            exact ⟨_, rfl, done M3 rfl⟩
          · intro M3
            exact ⟨_, rfl, done M3 rfl⟩
  -- pairs are through
  have exit : ∀ (c : Nat) (s : aS) (M' : zM) (o1 o2 o3 o5 : Option Value), abld1 k sh lim (aadopt sh gens gens.length) = (c, s) → zfr (fun a => inI H w a ∨ inD D a) M M' → ist M' H o w eid → icn M' H sh s.1.length → zI M' H 4 = nI s.2.2.2.1 → zI M' H 5 = nI s.2.2.2.2 → zI M' D 4 = nI lim → zI M' D 3 = nI (lim - s.2.2.1) → (c = 0 → s.2.2.1 ≤ lim ∧ iel M' eid k s.1 ∧ iok k sh s.1) → ((zsh M' H).1 = 12 ∧ ((zsh M' H).1 = 12 ∧ (let M1 : zM := zuI M' H 6 (zI M' H 2)
(¬ ecode c = 0 → (wX3_build d (fun r M2 => ∃ x : Int32, r = [.int x] ∧ P x M2) 39 [some (.ref H), o1, o2, o3, some (.ref D), o5, some (.int (ecode c)), some (.int ((0 : Int32)))] [] M1)) ∧ (¬ (¬ ecode c = 0) → ((zsh M' H).1 = 12 ∧ (ycV d nX3_dropNeedless [.ref H] M1 fun M2 => ((zsh M2 H).1 = 12 ∧ (ycV d nX3_sortElements [.ref H] M2 fun M3 => (wX3_build d (fun r M2 => ∃ x : Int32, r = [.int x] ∧ P x M2) 39 [some (.ref H), o1, o2, o3, some (.ref D), o5, some (.int (ecode c)), some (.int ((0 : Int32)))] [] M3))))))))) := by
    intro c s M' o1 o2 o3 o5 hfin hfr hI' hc h4 h5 hd4 hd3 hok
    have sH := hI'.1.1
    have hcl := hc.2.2
    refine ⟨sH, sH, ?_⟩
    intro M1
    have hfr1 : zfr (fun a => a = H) M' M1 := zfr_uI rfl
    have g : ∀ j, j ≠ 6 → zI M1 H j = zI M' H j := fun j hj => by rw [show M1 = zuI M' H 6 (zI M' H 2) from rfl, zI_uI, if_neg (by omega)]
    have g6 : zI M1 H 6 = nI s.1.length := by rw [show M1 = zuI M' H 6 (zI M' H 2) from rfl, zI_uI, if_pos ⟨rfl, rfl⟩]; exact hc.1
    have hI1 := ist_fr hfr1 hI'
    have hc1 : icn M1 H sh s.1.length := ⟨by rw [g 2 (by omega)]; exact hc.1, by rw [g 10 (by omega)]; exact hc.2.1, hcl⟩
    have hfa : zfr (fun a => inI H w a ∨ inD D a) M M1 := zfr_tr hfr (zfr_up hfr1 fun a ha => Or.inl (by unfold inI; omega))
    have d1 : ∀ j, zI M1 D j = zI M' D j := (hfr1.2.2.2.2 D (by omega)).1
    refine ⟨fun z => ?_, fun z => ?_⟩
    · have z : c ≠ 0 := fun e => z (by rw [e]; rfl)
      have hD1 := dst_fr hfa hD
      have done : ∀ M3, M3 = zuI M1 H 3 (zI M1 D 3) → P (ecode c) M3 := fun M3 e3 => by
        have hfr3 : zfr (fun a => a = H) M1 M3 := by rw [e3]; exact zfr_uI rfl
        have g3 : ∀ j, j ≠ 3 → zI M3 H j = zI M1 H j := fun j hj => by rw [e3, zI_uI, if_neg (by omega)]
        have := h _ rfl eid M3 (zfq_of (zfr_tr hfa (zfr_up hfr3 fun a ha => Or.inl (by unfold inI; omega)))) (ist_fr hfr3 hI1)
        unfold abuild at this
        rw [hfin, show abld2 k sh (c, s) = (c, s.1, s.2.2.1) from if_neg z] at this
        refine this ?_ ?_ ?_ ?_ fun e => absurd e z
        · rw [e3, zI_uI, if_pos ⟨rfl, rfl⟩, d1]
          exact hd3
        · rw [g3 4 (by omega), g 4 (by omega)]; exact h4
        · rw [g3 5 (by omega), g 5 (by omega)]; exact h5
        · rw [g3 6 (by omega)]; exact g6
      refine sg_X3_build_39 _ _ _ _ _ _ _ _ _ ⟨hI1.1.1, fun _ => ⟨hD1.1, hI1.1.1, ?_⟩, fun _ => ⟨fun _ => ⟨hD1.1, hI1.1.1, ?_⟩, fun y => absurd (ecode_0.mp (Classical.not_not.mp y)) z⟩⟩
      · intro M3
        exact ⟨_, rfl, done M3 rfl⟩
      · intro M3
        exact ⟨_, rfl, done M3 rfl⟩
    · have z : c = 0 := ecode_0.mp (Classical.not_not.mp z)
      subst z
      obtain ⟨y1, y2, y3⟩ := hok rfl
      have hel1 := iel_fr hfr1 hI' y3 hsh hcl (fun j hj a ha => by
        have := hI'.2.2.1.1 j (by omega)
        unfold inE at ha
        omega) y2
      refine ⟨sH, sp_dropNeedless (by omega) hI1 hc1 hel1 y3 fun e2 M2 hfr2 hI2 hf2 hc2 hel2 => ⟨hI2.1.1, ?_⟩⟩
      have hokc := iok_clean y3 (Nat.le_refl s.1.length)
      have ho2 := ost_fq hfr2 (by omega) (ost_fr hfa (by unfold inI inD; omega) ho)
      refine sp_sortElements (by omega) hI2 ho2 hc2 hel2 hokc fun e3 M3 hfr3 hI3 hel3 => ?_
      have hH3 : ∀ j, zI M3 H j = zI M2 H j := (hfr3.2.2.2.2 H (fun z => z)).1
      have hD3 : ∀ j, zI M3 D j = zI M' D j := fun j => by rw [(hfr3.2.2.2.2 D (fun z => z)).1, (hfr2.2.2.2.2 D (by omega)).1, d1]
      have hlen : (acsort k s.1).length = (aclean s.1 s.1.length).length := aesrt_len
      refine last (acsort k s.1).length 0 (acsort k s.1) s.2.2.1 (0, s) e3 M3 _ _ _ _ hfin (if_pos rfl) (by omega) rfl rfl y1 (zfq_tr (zfq_of hfa) (zfq_tr (zfq_up hfr2 fun a ha => Or.inl (by unfold inI; omega)) (zfq_up hfr3 fun a ha => ha.elim))) hI3 ?_ ?_ ?_ ?_ hel3 (iok_srt hokc (Nat.le_refl _)) (by rw [hD3]; exact hd4) (by rw [hD3]; exact hd3)
      · rw [hH3, hf2 4 (by omega), g 4 (by omega)]; exact h4
      · rw [hH3, hf2 5 (by omega), g 5 (by omega)]; exact h5
      · rw [hH3, hf2 6 (by omega)]; exact g6
      · rw [hlen]
        exact ⟨by rw [hH3]; exact hc2.1, by rw [hH3]; exact hc2.2.1, hc2.2.2⟩
  -- the pairs
  have pairs : ∀ (n t c : Nat) (s : aS) (M' : zM) (o1 o2 o3 o5 : Option Value), t + n = 276 → (c = 0 → abld1 k sh lim (aadopt sh gens gens.length) = apairs k sh n s) → (c ≠ 0 → abld1 k sh lim (aadopt sh gens gens.length) = (c, s)) → zfr (fun a => inI H w a ∨ inD D a) M M' → icn M' H sh s.1.length → zI M' H 4 = nI s.2.2.2.1 → zI M' H 5 = nI s.2.2.2.2 → zI M' D 4 = nI lim → zI M' D 3 = nI (lim - s.2.2.1) → (c = 0 → s.2.2.1 ≤ lim ∧ iel M' eid k s.1 ∧ iok k sh s.1 ∧ iwt M' H w k s.1 s.2.1) → wX3_build d (fun r M2 => ∃ x : Int32, r = [.int x] ∧ P x M2) 13 [some (.ref H), o1, o2, o3, some (.ref D), o5, some (.int (ecode c)), some (.int (nI t))] [] M' := by
    intro n
    induction n with
    | zero =>
      intro t c s M' o1 o2 o3 o5 ht hz hnz hfr hc h4 h5 hd4 hd3 hok
      have hI' := ist_fr hfr hI
      have hfin : abld1 k sh lim (aadopt sh gens gens.length) = (c, s) := by
        by_cases e : c = 0
        · rw [hz e, e]; rfl
        · exact hnz e
      refine sg_X3_build_13 _ _ _ _ _ _ _ _ _ ⟨fun _ => exit c s M' _ _ _ _ hfin hfr hI' hc h4 h5 hd4 hd3 fun e => ⟨(hok e).1, (hok e).2.1, (hok e).2.2.1⟩, fun z => absurd (by rw [show t = 276 by omega]; exact Int32.le_refl _) z⟩
    | succ n ih =>
      intro t c s M' o1 o2 o3 o5 ht hz hnz hfr hc h4 h5 hd4 hd3 hok
      have hI' := ist_fr hfr hI
      have hcl := hc.2.2
      refine sg_X3_build_13 _ _ _ _ _ _ _ _ _ ⟨fun z => ?_, fun _ => ⟨fun z => ?_, fun z => ⟨hI'.1.1, ?_⟩⟩⟩
      · have := (nI_leI (a := 276) (by omega) (by omega)).mp z
        omega
      · have z : c ≠ 0 := fun e => z (by rw [e]; rfl)
        exact exit c s M' _ _ _ _ (hnz z) hfr hI' hc h4 h5 hd4 hd3 fun e => absurd e z
      · have z : c = 0 := ecode_0.mp (Classical.not_not.mp z)
        subst z
        have hz := hz rfl
        obtain ⟨y1, y2, y3, y4⟩ := hok rfl
        refine sp_choosePair (by omega) hI' hc y3 y4 fun v M2 hfr2 hf2 hnone hsome => ?_
        have hI2 := ist_fr hfr2 hI'
        have hfa : zfr (fun a => inI H w a ∨ inD D a) M M2 := zfr_tr hfr (zfr_up hfr2 fun a ha => Or.inl (by unfold inI; omega))
        have hc2 : icn M2 H sh s.1.length := ⟨by rw [hf2 2 (by omega) (by omega)]; exact hc.1, by rw [hf2 10 (by omega) (by omega)]; exact hc.2.1, hcl⟩
        have d2 : ∀ j, zI M2 D j = zI M' D j := (hfr2.2.2.2.2 D (by omega)).1
        have hel2 := iel_fr hfr2 hI' y3 hsh hcl (fun j hj a ha => by
          have := hI'.2.2.1.1 j (by omega)
          unfold inE at ha
          omega) y2
        rw [apairs_s] at hz
        cases hch : achoose k s.1 s.2.1 with
        | none =>
          rw [hch] at hz
          rw [hnone hch]
          refine ⟨fun _ => exit 0 s M2 _ _ _ _ hz hfa hI2 hc2 (by rw [hf2 4 (by omega) (by omega)]; exact h4) (by rw [hf2 5 (by omega) (by omega)]; exact h5) (by rw [d2]; exact hd4) (by rw [d2]; exact hd3) fun _ => ⟨y1, hel2, y3⟩, fun z => absurd rfl z⟩
        | some x =>
          rw [hch] at hz
          dsimp only at hz
          obtain ⟨v1, x1, x2, x3, x4⟩ := hsome x hch
          rw [v1]
          refine ⟨fun z => absurd z (by decide), fun _ => ⟨hI2.1.1, ?_⟩⟩
          refine sp_settle (st := lim - s.2.2.1) (by omega) hI2 (dst_fr hfa hD) (ost_fr hfa (by unfold inI inD; omega) ho) hsh hHD hoD hc2 hel2 y3 (iwt_fr hfr2 (by omega) y4) x3 x4 x1 x2 (by rw [d2]; exact hd3) (by rw [d2]; exact hd4) (by omega) hl2 fun y hy M3 hfr3 h34 h35 h3d4 h3d3 hc3 hok3 => ?_
          rw [show lim - (lim - s.2.2.1) = s.2.2.1 by omega] at hy
          rw [hy] at hz
          intro v7
          rw [show v7 = nI (t + 1) from nI_1 t]
          refine ih (t + 1) y.1 (y.2.1, y.2.2.1, y.2.2.2.1, s.2.2.2.1 + 1, s.2.2.2.2 + y.2.2.2.2) M3 _ _ _ _ (by omega) (fun e => by rw [hz, if_pos e]) (fun e => by rw [hz, if_neg e]) (zfr_tr hfa hfr3) hc3 ?_ ?_ h3d4 h3d3 hok3
          · rw [h34, hf2 4 (by omega) (by omega), h4]
            exact nI_1 _
          · rw [h35, hf2 5 (by omega) (by omega), h5]
            exact nI_add _ _
  -- the beginning
  refine en_X3_build _ _ _ _ _ _ M (sg_X3_build_0 _ _ _ _ _ _ M ⟨hI.1.1, sp_begin (by omega) hI fun M1 hfr1 hc1 h14 h15 => ?_⟩)
  have hD1 := dst_fr hfr1 hD
  refine ⟨hD1.1, sp_allow (by omega) hD1 fun M2 hfr2 h23 h24 => ?_⟩
  have hfa : zfr (fun a => inI H w a ∨ inD D a) M M2 := zfr_tr (zfr_up hfr1 fun a ha => Or.inl (by unfold inI; omega)) (zfr_up hfr2 fun a ha => Or.inr (by unfold inD; omega))
  have hI2 := ist_fr hfa hI
  have hH2 : ∀ j, zI M2 H j = zI M1 H j := (hfr2.2.2.2.2 H (by omega)).1
  refine ⟨hI2.1.1, sp_adopt (by omega) hI2 (ost_fr hfa (by unfold inI inD; omega) ho) hsh hGH (gst_fr hfa hG) (gdy_fr hfa hgl (fun a a1 a2 => by unfold inI inD; omega) hg) hgl (icn_fr hfr2 (by omega) hc1) fun M3 hfr3 hf3 hc3 hel3 hok3 hwt3 => ?_⟩
  have d3 : ∀ j, zI M3 D j = zI M2 D j := (hfr3.2.2.2.2 D (by unfold inI; omega)).1
  refine pairs 276 0 (aadopt sh gens gens.length).1 ((aadopt sh gens gens.length).2.1, (aadopt sh gens gens.length).2.2, lim, 0, 0) M3 _ _ _ _ rfl (fun e => if_pos e) (fun e => if_neg e) (zfr_tr hfa (zfr_up hfr3 fun a ha => Or.inl ha)) hc3 ?_ ?_ (by rw [d3]; exact h24) (by rw [d3, h23]; show (0 : Int32) = nI (lim - lim); rw [Nat.sub_self]; rfl) fun _ => ⟨Nat.le_refl _, hel3, hok3, hwt3⟩
  · rw [hf3 4 (by omega), hH2, h14]; rfl
  · rw [hf3 5 (by omega), hH2, h15]; rfl
end
section
/-! STAIRS, in the class -/
def mpw : Nat → Nat → aM
  | 0, x => (x, 0, 0, 0)
  | 1, x => (0, x, 0, 0)
  | 2, x => (0, 0, x, 0)
  | _, x => (0, 0, 0, x)
def awl (es : List aE) (v : Nat) : Nat → Option Nat
  | 0 => none
  | i + 1 => if ald es i = mpw v (aex (ald es i) v) then (match awl es v i with
      | none => some (aex (ald es i) v)
      | some y => if aex (ald es i) v < y then some (aex (ald es i) v) else some y) else awl es v i
def awall (es : List aE) (nv v : Nat) : Option Nat := if v < nv then awl es v es.length else some 1
def ahgt (es : List aE) (a b c w3 : Nat) : Nat → Nat
  | 0 => w3
  | i + 1 => if mdv ((ald es i).1, (ald es i).2.1, (ald es i).2.2.1, 0) (a, b, c, 0) = true then (if (ald es i).2.2.2 < ahgt es a b c w3 i then (ald es i).2.2.2 else ahgt es a b c w3 i) else ahgt es a b c w3 i
def asum (f : Nat → Nat) : Nat → Nat
  | 0 => 0
  | n + 1 => asum f n + f n
def astot (es : List aE) (w0 w1 w2 w3 : Nat) : Nat := asum (fun a => asum (fun b => asum (fun c => ahgt es a b c w3 es.length) w2) w1) w0
def astairs (es : List aE) (nv : Nat) : Option Nat := match awall es nv 0, awall es nv 1, awall es nv 2, awall es nv 3 with
  | some w0, some w1, some w2, some w3 => some (astot es w0 w1 w2 w3)
  | _, _, _, _ => none
def eow : Option Nat → Int32
  | none => -1
  | some x => nI x
theorem shl8 {x : Nat} (hx : x ≤ 30) : ∀ v, v < 4 → nI x <<< ((8 * nI v) &&& 31) = e8 (mpw v x)
  | 0, _ => by rw [pk_shlN _ 0 (by decide) (by omega)]; show nI _ = nI (x + 256 * 0 + 65536 * 0 + 16777216 * 0); congr 1; omega
  | 1, _ => by rw [pk_shlN _ 8 (by decide) (by omega)]; show nI _ = nI (0 + 256 * x + 65536 * 0 + 16777216 * 0); congr 1; omega
  | 2, _ => by rw [pk_shlN _ 16 (by decide) (by omega)]; show nI _ = nI (0 + 256 * 0 + 65536 * x + 16777216 * 0); congr 1; omega
  | 3, _ => by rw [pk_shlN _ 24 (by decide) (by omega)]; show nI _ = nI (0 + 256 * 0 + 65536 * 0 + 16777216 * x); congr 1; omega
theorem aex_ok {m : aM} (h : mok m) (v : Nat) : aex m v ≤ 30 := by
  unfold mok at h
  unfold aex
  split <;> omega
theorem mpw_ok {v x : Nat} (h : x ≤ 30) : mok (mpw v x) := by
  unfold mok mpw
  split <;> (dsimp only; omega)
theorem awl_ok {k sh : Nat} {es : List aE} (hk : iok k sh es) {v : Nat} : ∀ {i x : Nat}, awl es v i = some x → x ≤ 30
  | 0, x, h => by cases h
  | i + 1, x, h => by
    have hx := aex_ok (iok_mok hk i) v
    unfold awl at h
    split at h
    · split at h
      · cases h; exact hx
      · rename_i y hy
        split at h
        · cases h; exact hx
        · cases h; exact awl_ok hk hy
    · exact awl_ok hk h
theorem awall_ok {k sh : Nat} {es : List aE} (hk : iok k sh es) {nv v x : Nat} (h : awall es nv v = some x) : x ≤ 30 := by
  unfold awall at h
  split at h
  · exact awl_ok hk h
  · cases h; omega
theorem sp_wall {d H o w k sh v nv : Nat} {M : zM} {eid : Nat → Nat} {es : List aE} {P : Int32 → zM → Prop} (hd : 2 ≤ d) (hI : ist M H o w eid) (hc : icn M H sh es.length) (hE : iel M eid k es) (hk : iok k sh es) (hv : v < 4) (hnv : nv ≤ 4) (h : P (eow (awall es nv v)) M) : ycI d nX3_wall [.ref H, .int (nI v), .int (nI nv)] M P := by
  obtain ⟨d, rfl, he⟩ := dS hd
  have hl := hc.2.2
  have s := hI.1.1
  have hr1 := hI.1.2.2.1
  have loop : ∀ (n i : Nat) (o2 o5 o6 : Option Value), i + n = es.length → v < nv → wX3_wall d (fun r M2 => ∃ x : Int32, r = [.int x] ∧ P x M2) 9 [some (.ref H), some (.int (nI v)), o2, some (.int (eow (awl es v i))), some (.int (nI i)), o5, o6] [] M := by
    intro n
    induction n with
    | zero =>
      intro i o2 o5 o6 hi hvn
      have e : awall es nv v = awl es v i := by
        unfold awall
        rw [if_pos hvn, show i = es.length by omega]
      rw [e] at h
      exact sg_X3_wall_9 _ _ _ _ _ _ _ _ ⟨s, fun _ => ⟨_, rfl, h⟩, fun c => absurd (by rw [hc.1, show i = es.length by omega]; exact Int32.le_refl _) c⟩
    | succ n ih =>
      intro i o2 o5 o6 hi hvn
      have hil : i < es.length := by omega
      have ci := cl_n (n := i) (by omega)
      have hRi := hI.2.1.2 i (by omega)
      have hm := iok_mok hk i
      have hx := aex_ok hm v
      have stp : awl es v (i + 1) = if ald es i = mpw v (aex (ald es i) v) then (match awl es v i with
        | none => some (aex (ald es i) v)
        | some y => if aex (ald es i) v < y then some (aex (ald es i) v) else some y) else awl es v i := rfl
      have hyy : ∀ y, awl es v i = some y → y ≤ 30 := fun y hy => awl_ok hk hy
      refine sg_X3_wall_9 _ _ _ _ _ _ _ _ ⟨s, fun c => ?_, fun _ => ⟨s, by rw [hr1, hI.2.1.1], by rw [hr1, hI.2.1.1]; exact zin_n (by omega) (by omega), by rw [hr1, ci, hRi.1]; exact hRi.2.1, ?_⟩⟩
      · rw [hc.1] at c
        have := (nI_leI (by omega) (by omega)).mp c
        omega
      · rw [hr1, ci, hRi.1]
        refine sp_ld (by omega) hI hE hk (by omega) hil (sp_exponent (by omega) (mok_by hm) hv ?_)
        rw [shl8 hx v hv]
        refine ⟨fun c => ?_, fun c => ?_⟩
        · rw [if_neg (fun z => c (congrArg e8 z))] at stp
          intro v4
          rw [show v4 = nI (i + 1) from nI_1 i, ← stp]
          exact ih (i + 1) _ _ _ (by omega) hvn
        · rw [if_pos (e8_inj hm (mpw_ok hx) (Classical.not_not.mp c))] at stp
          cases hw : awl es v i with
          | none =>
            rw [hw] at stp
            refine ⟨fun _ => ?_, fun z => absurd (show (-1 : Int32) < 0 by decide) z⟩
            intro v4
            rw [show v4 = nI (i + 1) from nI_1 i, show nI (aex (ald es i) v) = eow (awl es v (i + 1)) by rw [stp]; rfl]
            exact ih (i + 1) _ _ _ (by omega) hvn
          | some y =>
            have hy := hyy y hw
            rw [hw] at stp
            have stp : awl es v (i + 1) = if aex (ald es i) v < y then some (aex (ald es i) v) else some y := stp
            refine ⟨fun z => absurd z (nI_pos (by omega)), fun _ => ⟨fun c2 => ?_, fun c2 => ?_⟩⟩
            · have c2 := (nI_leI (by omega) (by omega)).mp c2
              rw [if_neg (by omega)] at stp
              intro v4
              rw [show v4 = nI (i + 1) from nI_1 i, ← stp]
              exact ih (i + 1) _ _ _ (by omega) hvn
            · have c2 : ¬ y ≤ aex (ald es i) v := fun z => c2 ((nI_leI (by omega) (by omega)).mpr z)
              rw [if_pos (by omega)] at stp
              intro v4
              rw [show v4 = nI (i + 1) from nI_1 i, show nI (aex (ald es i) v) = eow (awl es v (i + 1)) by rw [stp]; rfl]
              exact ih (i + 1) _ _ _ (by omega) hvn
  refine en_X3_wall _ _ _ M (sg_X3_wall_0 _ _ _ M ⟨fun c => ?_, fun c => ⟨_, rfl, ?_⟩⟩)
  · have c := (nI_ltI (by omega) (by omega)).mp c
    intro v3
    exact loop es.length 0 _ _ _ (by omega) c
  · have c : ¬ v < nv := fun z => c ((nI_ltI (by omega) (by omega)).mpr z)
    unfold awall at h
    rw [if_neg c] at h
    exact h
theorem ahgt_le {es : List aE} {a b c w3 : Nat} : ∀ {i : Nat}, ahgt es a b c w3 i ≤ w3
  | 0 => Nat.le_refl _
  | i + 1 => by
    have := ahgt_le (es := es) (a := a) (b := b) (c := c) (w3 := w3) (i := i)
    unfold ahgt
    split
    · split <;> omega
    · exact this
theorem and24 {m : aM} (h : mok m) : (e8 m &&& 16777215) = e8 (m.1, m.2.1, m.2.2.1, 0) := by
  have hl := c8_lt' h
  unfold e8
  rw [pk_andN (by omega) 24 (by decide)]
  congr 1
  unfold mok at h
  unfold c8
  dsimp only
  omega
theorem sp_height {d H o w k sh a b c w3 : Nat} {M : zM} {eid : Nat → Nat} {es : List aE} {P : Int32 → zM → Prop} (hd : 2 ≤ d) (hI : ist M H o w eid) (hc : icn M H sh es.length) (hE : iel M eid k es) (hk : iok k sh es) (ha : a ≤ 30) (hb : b ≤ 30) (hcc : c ≤ 30) (hw : w3 ≤ 30) (h : P (nI (ahgt es a b c w3 es.length)) M) : ycI d nX3_height [.ref H, .int (e8 (a, b, c, 0)), .int (nI w3)] M P := by
  obtain ⟨d, rfl, he⟩ := dS hd
  have hl := hc.2.2
  have s := hI.1.1
  have hr1 := hI.1.2.2.1
  have hmg : mok (a, b, c, 0) := ⟨ha, hb, hcc, Nat.zero_le _⟩
  have loop : ∀ (n i : Nat) (o2 o5 : Option Value), i + n = es.length → wX3_height d (fun r M2 => ∃ x : Int32, r = [.int x] ∧ P x M2) 4 [some (.ref H), some (.int (e8 (a, b, c, 0))), o2, some (.int (nI (ahgt es a b c w3 i))), some (.int (nI i)), o5] [] M := by
    intro n
    induction n with
    | zero =>
      intro i o2 o5 hi
      rw [show es.length = i by omega] at h
      exact sg_X3_height_4 _ _ _ _ _ _ _ ⟨s, fun _ => ⟨_, rfl, h⟩, fun c => absurd (by rw [hc.1, show i = es.length by omega]; exact Int32.le_refl _) c⟩
    | succ n ih =>
      intro i o2 o5 hi
      have hil : i < es.length := by omega
      have ci := cl_n (n := i) (by omega)
      have hRi := hI.2.1.2 i (by omega)
      have hm := iok_mok hk i
      have hm' : mok ((ald es i).1, (ald es i).2.1, (ald es i).2.2.1, 0) := ⟨hm.1, hm.2.1, hm.2.2.1, Nat.zero_le _⟩
      have hle := ahgt_le (es := es) (a := a) (b := b) (c := c) (w3 := w3) (i := i)
      have stp : ahgt es a b c w3 (i + 1) = if mdv ((ald es i).1, (ald es i).2.1, (ald es i).2.2.1, 0) (a, b, c, 0) = true then (if (ald es i).2.2.2 < ahgt es a b c w3 i then (ald es i).2.2.2 else ahgt es a b c w3 i) else ahgt es a b c w3 i := rfl
      refine sg_X3_height_4 _ _ _ _ _ _ _ ⟨s, fun c => ?_, fun _ => ⟨s, by rw [hr1, hI.2.1.1], by rw [hr1, hI.2.1.1]; exact zin_n (by omega) (by omega), by rw [hr1, ci, hRi.1]; exact hRi.2.1, ?_⟩⟩
      · rw [hc.1] at c
        have := (nI_leI (by omega) (by omega)).mp c
        omega
      · rw [hr1, ci, hRi.1]
        refine sp_ld (by omega) hI hE hk (by omega) hil ?_
        rw [and24 hm]
        refine sp_divides (by omega) hm' hmg (fun hv => ⟨fun z => absurd z (by decide), fun _ => ?_⟩) (fun hv => ⟨fun _ => ?_, fun z => absurd rfl z⟩)
        · rw [if_pos (mdv_iff.mpr hv)] at stp
          refine sp_exponent (v := 3) (by omega) (mok_by hm) (by omega) ?_
          intro v3 v4
          have e3 : v3 = nI (ahgt es a b c w3 (i + 1)) := by
            have hx3 : (ald es i).2.2.2 ≤ 30 := hm.2.2.2
            rw [show v3 = if nI (ald es i).2.2.2 < nI (ahgt es a b c w3 i) then nI (ald es i).2.2.2 else nI (ahgt es a b c w3 i) from rfl, stp]
            by_cases hz : (ald es i).2.2.2 < ahgt es a b c w3 i
            · rw [if_pos hz, if_pos ((nI_ltI (by omega) (by omega)).mpr hz)]
            · rw [if_neg hz, if_neg (fun y => hz ((nI_ltI (by omega) (by omega)).mp y))]
          rw [e3, show v4 = nI (i + 1) from nI_1 i]
          exact ih (i + 1) _ _ (by omega)
        · rw [if_neg (fun z => hv (mdv_iff.mp z))] at stp
          intro v4
          rw [show v4 = nI (i + 1) from nI_1 i, ← stp]
          exact ih (i + 1) _ _ (by omega)
  exact en_X3_height _ _ _ M (sg_X3_height_0 _ _ _ M (loop es.length 0 _ _ (by omega)))
theorem pk3 {a b c : Nat} (ha : a ≤ 30) (hb : b ≤ 30) (hc : c ≤ 30) : ((nI a ||| (nI b <<< ((8 : Int32) &&& 31))) ||| (nI c <<< ((16 : Int32) &&& 31))) = e8 (a, b, c, 0) := by
  rw [pk_shlN _ 8 (by decide) (by omega), pk_shlN _ 16 (by decide) (by omega), tn_inj, Int32.toBitVec_or, Int32.toBitVec_or, BitVec.toNat_or, BitVec.toNat_or, pk_tn (by omega), pk_tn (by omega), pk_tn (by omega), tn_e8 (by unfold mby; dsimp only; omega)]
  rw [show a = a + 256 * 0 by omega, show b * 2 ^ 8 = 0 + 256 * b by omega, show c * 2 ^ 16 = 0 + 256 * (256 * c) by omega, or2 (by omega) (by omega), or2 (by simp; omega) (by omega)]
  have e1 : b ||| 256 * c = b + 256 * c := by
    have := or2 (a := b) (a' := 0) (x := 0) (x' := c) (by omega) (by omega)
    simpa using this
  have e2 : a ||| 0 ||| 0 = a := by simp
  have e3 : 0 ||| b = b := by simp
  rw [e3, e1, e2]
  unfold c8
  dsimp only
  omega
theorem sp_countBelow {d H o w k sh nv : Nat} {M : zM} {eid : Nat → Nat} {es : List aE} {P : Int32 → zM → Prop} (hd : 3 ≤ d) (hI : ist M H o w eid) (hc : icn M H sh es.length) (hE : iel M eid k es) (hk : iok k sh es) (hnv : nv ≤ 4) (h : P (match astairs es nv with
    | none => -8
    | some x => nI x) M) : ycI d nX3_countBelow [.ref H, .int (nI nv)] M P := by
  obtain ⟨d, rfl, he⟩ := dS hd
  have s := hI.1.1
  have hm1 : (-1 : Int32) < 0 := by decide
  have loops : ∀ w0 w1 w2 w3, w0 ≤ 30 → w1 ≤ 30 → w2 ≤ 30 → w3 ≤ 30 → P (nI (astot es w0 w1 w2 w3)) M → ∀ o1 o8 o9 : Option Value, wX3_countBelow d (fun r M2 => ∃ x : Int32, r = [.int x] ∧ P x M2) 34 [some (.ref H), o1, some (.int (nI w0)), some (.int (nI w1)), some (.int (nI w2)), some (.int (nI w3)), some (.int 0), some (.int 0), o8, o9] [] M := by
    intro w0 w1 w2 w3 h0 h1 h2 h3 hP
    have la : ∀ (n a : Nat) (o1 o8 o9 : Option Value), a + n = w0 → wX3_countBelow d (fun r M2 => ∃ x : Int32, r = [.int x] ∧ P x M2) 34 [some (.ref H), o1, some (.int (nI w0)), some (.int (nI w1)), some (.int (nI w2)), some (.int (nI w3)), some (.int (nI (asum (fun a => asum (fun b => asum (fun c => ahgt es a b c w3 es.length) w2) w1) a))), some (.int (nI a)), o8, o9] [] M := by
      intro n
      induction n with
      | zero =>
        intro a o1 o8 o9 ha
        refine sg_X3_countBelow_34 _ _ _ _ _ _ _ _ _ _ _ ⟨fun _ => ⟨_, rfl, ?_⟩, fun c => absurd (by rw [show a = w0 by omega]; exact Int32.le_refl _) c⟩
        rw [show a = w0 by omega]
        exact hP
      | succ n iha =>
        intro a o1 o8 o9 ha
        have lb : ∀ (n b : Nat) (o1 o9 : Option Value), b + n = w1 → wX3_countBelow d (fun r M2 => ∃ x : Int32, r = [.int x] ∧ P x M2) 39 [some (.ref H), o1, some (.int (nI w0)), some (.int (nI w1)), some (.int (nI w2)), some (.int (nI w3)), some (.int (nI (asum (fun a => asum (fun b => asum (fun c => ahgt es a b c w3 es.length) w2) w1) a + asum (fun b => asum (fun c => ahgt es a b c w3 es.length) w2) b))), some (.int (nI a)), some (.int (nI b)), o9] [] M := by
          intro n
          induction n with
          | zero =>
            intro b o1 o9 hb
            refine sg_X3_countBelow_39 _ _ _ _ _ _ _ _ _ _ _ ⟨fun _ => ?_, fun c => absurd (by rw [show b = w1 by omega]; exact Int32.le_refl _) c⟩
            intro v7
            rw [show v7 = nI (a + 1) from nI_1 a, show b = w1 by omega]
            exact iha (a + 1) _ _ _ (by omega)
          | succ n ihb =>
            intro b o1 o9 hb
            have lc : ∀ (n c : Nat) (o1 : Option Value), c + n = w2 → wX3_countBelow d (fun r M2 => ∃ x : Int32, r = [.int x] ∧ P x M2) 44 [some (.ref H), o1, some (.int (nI w0)), some (.int (nI w1)), some (.int (nI w2)), some (.int (nI w3)), some (.int (nI (asum (fun a => asum (fun b => asum (fun c => ahgt es a b c w3 es.length) w2) w1) a + asum (fun b => asum (fun c => ahgt es a b c w3 es.length) w2) b + asum (fun c => ahgt es a b c w3 es.length) c))), some (.int (nI a)), some (.int (nI b)), some (.int (nI c))] [] M := by
              intro n
              induction n with
              | zero =>
                intro c o1 hc
                refine sg_X3_countBelow_44 _ _ _ _ _ _ _ _ _ _ _ ⟨fun _ => ?_, fun z => absurd (by rw [show c = w2 by omega]; exact Int32.le_refl _) z⟩
                intro v8
                rw [show v8 = nI (b + 1) from nI_1 b, show c = w2 by omega, Nat.add_assoc]
                exact ihb (b + 1) _ _ (by omega)
              | succ n ihc =>
                intro c o1 hcn
                refine sg_X3_countBelow_44 _ _ _ _ _ _ _ _ _ _ _ ⟨fun z => ?_, fun _ => ⟨s, ?_⟩⟩
                · have := (nI_leI (by omega) (by omega)).mp z
                  omega
                · rw [pk3 (by omega) (by omega) (by omega)]
                  refine sp_height (by omega) hI hc hE hk (by omega) (by omega) (by omega) h3 ?_
                  intro v6 v9
                  have e6 : v6 = nI (asum (fun a => asum (fun b => asum (fun c => ahgt es a b c w3 es.length) w2) w1) a + asum (fun b => asum (fun c => ahgt es a b c w3 es.length) w2) b + asum (fun c => ahgt es a b c w3 es.length) (c + 1)) := (nI_add _ _).trans (congrArg nI (Nat.add_assoc _ _ _))
                  rw [e6, show v9 = nI (c + 1) from nI_1 c]
                  exact ihc (c + 1) _ (by omega)
            refine sg_X3_countBelow_39 _ _ _ _ _ _ _ _ _ _ _ ⟨fun z => ?_, fun _ => ?_⟩
            · have := (nI_leI (by omega) (by omega)).mp z
              omega
            · exact lc w2 0 _ (by omega)
        refine sg_X3_countBelow_34 _ _ _ _ _ _ _ _ _ _ _ ⟨fun z => ?_, fun _ => ?_⟩
        · have := (nI_leI (by omega) (by omega)).mp z
          omega
        · exact lb w1 0 _ _ (by omega)
    intro o1 o8 o9
    exact la w0 0 _ _ _ (by omega)
  refine en_X3_countBelow _ _ M (sg_X3_countBelow_0 _ _ M ⟨s, sp_wall (v := 0) (by omega) hI hc hE hk (by omega) hnv ⟨s, sp_wall (v := 1) (by omega) hI hc hE hk (by omega) hnv ⟨s, sp_wall (v := 2) (by omega) hI hc hE hk (by omega) hnv ⟨s, sp_wall (v := 3) (by omega) hI hc hE hk (by omega) hnv ?_⟩⟩⟩⟩)
  unfold astairs at h
  have b0 : ∀ x, awall es nv 0 = some x → x ≤ 30 := fun x hx => awall_ok hk hx
  have b1 : ∀ x, awall es nv 1 = some x → x ≤ 30 := fun x hx => awall_ok hk hx
  have b2 : ∀ x, awall es nv 2 = some x → x ≤ 30 := fun x hx => awall_ok hk hx
  have b3 : ∀ x, awall es nv 3 = some x → x ≤ 30 := fun x hx => awall_ok hk hx
  generalize awall es nv 0 = x0 at *
  generalize awall es nv 1 = x1 at *
  generalize awall es nv 2 = x2 at *
  generalize awall es nv 3 = x3 at *
  cases x0 with
  | none => exact ⟨fun _ => ⟨_, rfl, h⟩, fun z => absurd hm1 z⟩
  | some w0 =>
    have c0 := b0 w0 rfl
    refine ⟨fun z => absurd z (nI_pos (by omega)), fun _ => ?_⟩
    cases x1 with
    | none => exact ⟨fun _ => ⟨_, rfl, h⟩, fun z => absurd hm1 z⟩
    | some w1 =>
      have c1 := b1 w1 rfl
      refine ⟨fun z => absurd z (nI_pos (by omega)), fun _ => ?_⟩
      cases x2 with
      | none => exact ⟨fun _ => ⟨_, rfl, h⟩, fun z => absurd hm1 z⟩
      | some w2 =>
        have c2 := b2 w2 rfl
        refine ⟨fun z => absurd z (nI_pos (by omega)), fun _ => ?_⟩
        cases x3 with
        | none => exact ⟨fun z => absurd z (by decide), fun _ => ⟨_, rfl, h⟩⟩
        | some w3 =>
          have c3 := b3 w3 rfl
          exact ⟨fun _ => loops w0 w1 w2 w3 c0 c1 c2 c3 h _ _ _, fun z => absurd (nI_pos' (by omega)) z⟩
def awhole (es : List aE) : Prop := es.length = 1 ∧ ald es 0 = mone
theorem sp_isWhole {d H o w k sh : Nat} {M : zM} {eid : Nat → Nat} {es : List aE} {P : Int32 → zM → Prop} (hd : 2 ≤ d) (hI : ist M H o w eid) (hc : icn M H sh es.length) (hE : iel M eid k es) (hk : iok k sh es) (h1 : awhole es → P 1 M) (h0 : ¬ awhole es → P 0 M) : ycI d nX3_isWhole [.ref H] M P := by
  obtain ⟨d, rfl, he⟩ := dS hd
  have s := hI.1.1
  have hr1 := hI.1.2.2.1
  have hl := hc.2.2
  have hR := hI.2.1.2 0 (by omega)
  have c0 : (0 : Int32).toNatClampNeg = 0 := by decide
  refine en_X3_isWhole _ M (sg_X3_isWhole_0 _ M ⟨s, fun c => ⟨Or.inl rfl, _, rfl, h0 fun z => c ?_⟩, fun c => ⟨s, by rw [hr1, hI.2.1.1], by rw [hr1, hI.2.1.1]; exact zin_n (j := 0) (by omega) (by omega), by rw [hr1, c0, hR.1]; exact hR.2.1, ?_⟩⟩)
  · rw [hc.1, z.1]; rfl
  · have c := Classical.not_not.mp c
    rw [hc.1] at c
    have c := (nI_eq (b := 1) (by omega) (by omega)).mp c
    rw [hr1, c0, hR.1]
    refine sp_ld (by omega) hI hE hk (by omega) (by omega) ⟨fun z => ⟨Or.inl rfl, _, rfl, h0 fun y => z (by rw [y.2]; rfl)⟩, fun z => ⟨Or.inr rfl, _, rfl, h1 ⟨c, e8_inj (iok_mok hk _) mone_ok (Classical.not_not.mp z)⟩⟩⟩
end
section
/-! stretches of the small code, by wip/whole/vcgen.py -/
abbrev wX7_variables (d : Nat) (Q : List Value → zM → Prop) : Nat → zLv → List Value → zM → Prop := zW (zCl gTb d) 1 kX7_variables Q
theorem en_X7_variables {d : Nat} {Q : List Value → zM → Prop} (a0 : Nat) (M : zM) (h : wX7_variables d Q 0 [some (.ref a0)] [] M) : zCl gTb (d + 1) nX7_variables [.ref a0] M Q := ⟨Nat.le_of_ble_eq_true rfl, h⟩
set_option maxRecDepth 100000 in
set_option maxHeartbeats 4000000 in
/-- from place 0 -/
theorem sg_X7_variables_0 {d : Nat} {Q : List Value → zM → Prop} (a0 : Nat) (M : zM) (h :
(zsh M a0).1 = 15 ∧ (Q [.int (zI M a0 0)] M)
) : wX7_variables d Q 0 [some (.ref a0)] [] M := zseg (zCl_good gTb d) (fun _ => false) 8 h
abbrev wX7_order (d : Nat) (Q : List Value → zM → Prop) : Nat → zLv → List Value → zM → Prop := zW (zCl gTb d) 1 kX7_order Q
theorem en_X7_order {d : Nat} {Q : List Value → zM → Prop} (a0 : Nat) (a1 : Int32) (M : zM) (h : wX7_order d Q 0 [some (.ref a0), some (.int a1), none, none] [] M) : zCl gTb (d + 1) nX7_order [.ref a0, .int a1] M Q := ⟨Nat.le_of_ble_eq_true rfl, h⟩
set_option maxRecDepth 100000 in
set_option maxHeartbeats 4000000 in
/-- from place 0 -/
theorem sg_X7_order_0 {d : Nat} {Q : List Value → zM → Prop} (a0 : Nat) (a1 : Int32) (M : zM) (h :
(a1 < 0 → (Q [.int (((-2) : Int32))] M)) ∧ (¬ (a1 < 0) → ((a1 ≤ ((2 : Int32)) → ((zsh M a0).1 = 15 ∧ ((zsh M (zR M a0 1)).1 = 13 ∧ (let v2_1 : Int32 := zI M (zR M a0 1) 0
(zsh M a0).1 = 15 ∧ ((zsh M (zR M a0 1)).1 = 13 ∧ (let M2 : zM := zuI M (zR M a0 1) 0 a1
wX7_order d Q 17 [some (.ref a0), some (.int a1), some (.int v2_1), some (.int ((0 : Int32)))] [] M2)))))) ∧ (¬ (a1 ≤ ((2 : Int32))) → (Q [.int (((-2) : Int32))] M))))
) : wX7_order d Q 0 [some (.ref a0), some (.int a1), none, none] [] M := zseg (zCl_good gTb d) (fun j => j == 17 || j == 29) 24 h
set_option maxRecDepth 100000 in
set_option maxHeartbeats 4000000 in
/-- from place 17 -/
theorem sg_X7_order_17 {d : Nat} {Q : List Value → zM → Prop} (a0 : Nat) (o1 : Option Value) (a2 : Int32) (a3 : Int32) (M : zM) (h :
(((40 : Int32)) ≤ a3 → (wX7_order d Q 29 [some (.ref a0), o1, some (.int a2), some (.int ((0 : Int32)))] [] M)) ∧ (¬ (((40 : Int32)) ≤ a3) → ((zsh M a0).1 = 15 ∧ ((zsh M (zR M a0 2)).1 = 5 ∧ (zin a3 (zsh M (zR M a0 2)).2 ∧ ((zsh M (zR M (zR M a0 2) a3.toNatClampNeg)).1 = 14 ∧ (ycV d nX6_arrange [.ref (zR M (zR M a0 2) a3.toNatClampNeg)] M fun M1 => (let v3_2 : Int32 := a3 + 1
wX7_order d Q 17 [some (.ref a0), o1, some (.int a2), some (.int v3_2)] [] M1)))))))
) : wX7_order d Q 17 [some (.ref a0), o1, some (.int a2), some (.int a3)] [] M := zseg (zCl_good gTb d) (fun j => j == 17 || j == 29) 17 h
set_option maxRecDepth 100000 in
set_option maxHeartbeats 4000000 in
/-- from place 29 -/
theorem sg_X7_order_29 {d : Nat} {Q : List Value → zM → Prop} (a0 : Nat) (o1 : Option Value) (a2 : Int32) (a3 : Int32) (M : zM) (h :
(zsh M a0).1 = 15 ∧ (((zI M a0 4) ≤ a3 → ((zsh M a0).1 = 15 ∧ (ycV d nX7_forgetBasis [.ref a0] M fun M1 => (Q [.int a2] M1)))) ∧ (¬ ((zI M a0 4) ≤ a3) → ((zsh M a0).1 = 15 ∧ ((zsh M (zR M a0 3)).1 = 5 ∧ (zin a3 (zsh M (zR M a0 3)).2 ∧ ((zsh M (zR M (zR M a0 3) a3.toNatClampNeg)).1 = 14 ∧ (ycV d nX6_arrange [.ref (zR M (zR M a0 3) a3.toNatClampNeg)] M fun M2 => (let v3_3 : Int32 := a3 + 1
wX7_order d Q 29 [some (.ref a0), o1, some (.int a2), some (.int v3_3)] [] M2))))))))
) : wX7_order d Q 29 [some (.ref a0), o1, some (.int a2), some (.int a3)] [] M := zseg (zCl_good gTb d) (fun j => j == 17 || j == 29) 20 h
abbrev wX7_term (d : Nat) (Q : List Value → zM → Prop) : Nat → zLv → List Value → zM → Prop := zW (zCl gTb d) 1 kX7_term Q
theorem en_X7_term {d : Nat} {Q : List Value → zM → Prop} (a0 : Nat) (a1 : Int32) (a2 : Int32) (a3 : Int32) (a4 : Int32) (M : zM) (h : wX7_term d Q 0 [some (.ref a0), some (.int a1), some (.int a2), some (.int a3), some (.int a4), none, none, none] [] M) : zCl gTb (d + 1) nX7_term [.ref a0, .int a1, .int a2, .int a3, .int a4] M Q := ⟨Nat.le_of_ble_eq_true rfl, h⟩
set_option maxRecDepth 100000 in
set_option maxHeartbeats 4000000 in
/-- from place 0 -/
theorem sg_X7_term_0 {d : Nat} {Q : List Value → zM → Prop} (a0 : Nat) (a1 : Int32) (a2 : Int32) (a3 : Int32) (a4 : Int32) (M : zM) (h :
ycI d nX7_isPlace [.int a1] M fun c2 M1 => ((¬ c2 = 0 → (ycI d nX7_isLarge [.int a2, .int ((1000000000 : Int32))] M1 fun c4 M3 => ((¬ c4 = 0 → (Q [.int (((-2) : Int32))] M3)) ∧ (¬ (¬ c4 = 0) → (ycI d nX7_isLarge [.int a3, .int ((1000000000 : Int32))] M3 fun c6 M5 => ((¬ c6 = 0 → (Q [.int (((-2) : Int32))] M5)) ∧ (¬ (¬ c6 = 0) → ((a3 = 0 → (Q [.int (((-2) : Int32))] M5)) ∧ (¬ (a3 = 0) → ((zsh M5 a0).1 = 15 ∧ (ycI d nX7_isTold [.ref a0, .int a4] M5 fun c8 M7 => ((¬ c8 = 0 → ((zsh M7 a0).1 = 15 ∧ ((zsh M7 (zR M7 a0 2)).1 = 5 ∧ (zin a1 (zsh M7 (zR M7 a0 2)).2 ∧ (let r5_9 : Nat := zR M7 (zR M7 a0 2) a1.toNatClampNeg
(a2 = 0 → ((zsh M7 r5_9).1 = 14 ∧ (Q [.int (zI M7 r5_9 4)] M7))) ∧ (¬ (a2 = 0) → ((0 ≤ a3 → (ycJ d nX2_lowest [.long (a2.toInt64), .long (a3.toInt64)] M7 fun c11 M10 => ((zsh M10 r5_9).1 = 14 ∧ (ycI d nX6_come [.ref r5_9, .long c11, .int a4] M10 fun c13 M12 => ((¬ c13 = 0 → ((zsh M12 r5_9).1 = 14 ∧ (Q [.int (zI M12 r5_9 4)] M12))) ∧ (¬ (¬ c13 = 0) → (Q [.int (((-7) : Int32))] M12))))))) ∧ (¬ (0 ≤ a3) → (ycJ d nX2_lowest [.long ((-a2).toInt64), .long ((-a3).toInt64)] M7 fun c15 M14 => ((zsh M14 r5_9).1 = 14 ∧ (ycI d nX6_come [.ref r5_9, .long c15, .int a4] M14 fun c17 M16 => ((¬ c17 = 0 → ((zsh M16 r5_9).1 = 14 ∧ (Q [.int (zI M16 r5_9 4)] M16))) ∧ (¬ (¬ c17 = 0) → (Q [.int (((-7) : Int32))] M16)))))))))))))) ∧ (¬ (¬ c8 = 0) → (Q [.int (((-2) : Int32))] M7)))))))))))))) ∧ (¬ (¬ c2 = 0) → (Q [.int (((-1) : Int32))] M1)))
) : wX7_term d Q 0 [some (.ref a0), some (.int a1), some (.int a2), some (.int a3), some (.int a4), none, none, none] [] M := zseg (zCl_good gTb d) (fun _ => false) 79 h
abbrev wX7_zero (d : Nat) (Q : List Value → zM → Prop) : Nat → zLv → List Value → zM → Prop := zW (zCl gTb d) 1 kX7_zero Q
theorem en_X7_zero {d : Nat} {Q : List Value → zM → Prop} (a0 : Nat) (a1 : Int32) (M : zM) (h : wX7_zero d Q 0 [some (.ref a0), some (.int a1), none] [] M) : zCl gTb (d + 1) nX7_zero [.ref a0, .int a1] M Q := ⟨Nat.le_of_ble_eq_true rfl, h⟩
set_option maxRecDepth 100000 in
set_option maxHeartbeats 4000000 in
/-- from place 0 -/
theorem sg_X7_zero_0 {d : Nat} {Q : List Value → zM → Prop} (a0 : Nat) (a1 : Int32) (M : zM) (h :
ycI d nX7_isPlace [.int a1] M fun c2 M1 => ((¬ c2 = 0 → ((zsh M1 a0).1 = 15 ∧ ((zsh M1 (zR M1 a0 2)).1 = 5 ∧ (zin a1 (zsh M1 (zR M1 a0 2)).2 ∧ ((zsh M1 (zR M1 (zR M1 a0 2) a1.toNatClampNeg)).1 = 14 ∧ (let v2_3 : Int32 := zI M1 (zR M1 (zR M1 a0 2) a1.toNatClampNeg) 4
(zsh M1 a0).1 = 15 ∧ ((zsh M1 (zR M1 a0 2)).1 = 5 ∧ (zin a1 (zsh M1 (zR M1 a0 2)).2 ∧ ((zsh M1 (zR M1 (zR M1 a0 2) a1.toNatClampNeg)).1 = 14 ∧ (ycV d nX6_empty [.ref (zR M1 (zR M1 a0 2) a1.toNatClampNeg)] M1 fun M4 => (Q [.int v2_3] M4))))))))))) ∧ (¬ (¬ c2 = 0) → (Q [.int (((-1) : Int32))] M1)))
) : wX7_zero d Q 0 [some (.ref a0), some (.int a1), none] [] M := zseg (zCl_good gTb d) (fun _ => false) 23 h
abbrev wX7_size (d : Nat) (Q : List Value → zM → Prop) : Nat → zLv → List Value → zM → Prop := zW (zCl gTb d) 1 kX7_size Q
theorem en_X7_size {d : Nat} {Q : List Value → zM → Prop} (a0 : Nat) (a1 : Int32) (M : zM) (h : wX7_size d Q 0 [some (.ref a0), some (.int a1)] [] M) : zCl gTb (d + 1) nX7_size [.ref a0, .int a1] M Q := ⟨Nat.le_of_ble_eq_true rfl, h⟩
set_option maxRecDepth 100000 in
set_option maxHeartbeats 4000000 in
/-- from place 0 -/
theorem sg_X7_size_0 {d : Nat} {Q : List Value → zM → Prop} (a0 : Nat) (a1 : Int32) (M : zM) (h :
ycI d nX7_isPlace [.int a1] M fun c2 M1 => ((c2 = 0 → (Q [.int (((-1) : Int32))] M1)) ∧ (¬ (c2 = 0) → ((zsh M1 a0).1 = 15 ∧ ((zsh M1 (zR M1 a0 2)).1 = 5 ∧ (zin a1 (zsh M1 (zR M1 a0 2)).2 ∧ ((zsh M1 (zR M1 (zR M1 a0 2) a1.toNatClampNeg)).1 = 14 ∧ (Q [.int (zI M1 (zR M1 (zR M1 a0 2) a1.toNatClampNeg) 4)] M1)))))))
) : wX7_size d Q 0 [some (.ref a0), some (.int a1)] [] M := zseg (zCl_good gTb d) (fun _ => false) 17 h
abbrev wX7_told (d : Nat) (Q : List Value → zM → Prop) : Nat → zLv → List Value → zM → Prop := zW (zCl gTb d) 1 kX7_told Q
theorem en_X7_told {d : Nat} {Q : List Value → zM → Prop} (a0 : Nat) (a1 : Int32) (a2 : Int32) (a3 : Int32) (M : zM) (h : wX7_told d Q 0 [some (.ref a0), some (.int a1), some (.int a2), some (.int a3)] [] M) : zCl gTb (d + 1) nX7_told [.ref a0, .int a1, .int a2, .int a3] M Q := ⟨Nat.le_of_ble_eq_true rfl, h⟩
set_option maxRecDepth 100000 in
set_option maxHeartbeats 4000000 in
/-- from place 0 -/
theorem sg_X7_told_0 {d : Nat} {Q : List Value → zM → Prop} (a0 : Nat) (a1 : Int32) (a2 : Int32) (a3 : Int32) (M : zM) (h :
ycI d nX7_isPlace [.int a1] M fun c2 M1 => ((c2 = 0 → (Q [.int (((-1) : Int32))] M1)) ∧ (¬ (c2 = 0) → ((a2 < 0 → (Q [.int (((-1) : Int32))] M1)) ∧ (¬ (a2 < 0) → ((zsh M1 a0).1 = 15 ∧ ((zsh M1 (zR M1 a0 2)).1 = 5 ∧ (zin a1 (zsh M1 (zR M1 a0 2)).2 ∧ ((zsh M1 (zR M1 (zR M1 a0 2) a1.toNatClampNeg)).1 = 14 ∧ ((a2 < (zI M1 (zR M1 (zR M1 a0 2) a1.toNatClampNeg) 4) → ((a3.toInt = 0 → ((zsh M1 a0).1 = 15 ∧ ((zsh M1 (zR M1 a0 2)).1 = 5 ∧ (zin a1 (zsh M1 (zR M1 a0 2)).2 ∧ ((zsh M1 (zR M1 (zR M1 a0 2) a1.toNatClampNeg)).1 = 14 ∧ ((zsh M1 (zR M1 (zR M1 (zR M1 a0 2) a1.toNatClampNeg) 1)).1 = 3 ∧ (zin a2 (zsh M1 (zR M1 (zR M1 (zR M1 a0 2) a1.toNatClampNeg) 1)).2 ∧ (ycI d nX2_over [.long (zL M1 (zR M1 (zR M1 (zR M1 a0 2) a1.toNatClampNeg) 1) a2.toNatClampNeg)] M1 fun c4 M3 => (Q [.int c4] M3))))))))) ∧ (¬ (a3.toInt = 0) → ((a3.toInt = 1 → ((zsh M1 a0).1 = 15 ∧ ((zsh M1 (zR M1 a0 2)).1 = 5 ∧ (zin a1 (zsh M1 (zR M1 a0 2)).2 ∧ ((zsh M1 (zR M1 (zR M1 a0 2) a1.toNatClampNeg)).1 = 14 ∧ ((zsh M1 (zR M1 (zR M1 (zR M1 a0 2) a1.toNatClampNeg) 1)).1 = 3 ∧ (zin a2 (zsh M1 (zR M1 (zR M1 (zR M1 a0 2) a1.toNatClampNeg) 1)).2 ∧ (ycI d nX2_under [.long (zL M1 (zR M1 (zR M1 (zR M1 a0 2) a1.toNatClampNeg) 1) a2.toNatClampNeg)] M1 fun c6 M5 => (Q [.int c6] M5))))))))) ∧ (¬ (a3.toInt = 1) → ((a3.toInt = 2 → ((zsh M1 a0).1 = 15 ∧ ((zsh M1 (zR M1 a0 2)).1 = 5 ∧ (zin a1 (zsh M1 (zR M1 a0 2)).2 ∧ ((zsh M1 (zR M1 (zR M1 a0 2) a1.toNatClampNeg)).1 = 14 ∧ ((zsh M1 (zR M1 (zR M1 (zR M1 a0 2) a1.toNatClampNeg) 2)).1 = 2 ∧ (zin a2 (zsh M1 (zR M1 (zR M1 (zR M1 a0 2) a1.toNatClampNeg) 2)).2 ∧ (Q [.int (zI M1 (zR M1 (zR M1 (zR M1 a0 2) a1.toNatClampNeg) 2) a2.toNatClampNeg)] M1)))))))) ∧ (¬ (a3.toInt = 2) → (Q [.int (((-2) : Int32))] M1)))))))) ∧ (¬ (a2 < (zI M1 (zR M1 (zR M1 a0 2) a1.toNatClampNeg) 4)) → (Q [.int (((-1) : Int32))] M1)))))))))))
) : wX7_told d Q 0 [some (.ref a0), some (.int a1), some (.int a2), some (.int a3)] [] M := zseg (zCl_good gTb d) (fun _ => false) 53 h
abbrev wX7_plus (d : Nat) (Q : List Value → zM → Prop) : Nat → zLv → List Value → zM → Prop := zW (zCl gTb d) 1 kX7_plus Q
theorem en_X7_plus {d : Nat} {Q : List Value → zM → Prop} (a0 : Nat) (a1 : Int32) (a2 : Int32) (a3 : Int32) (M : zM) (h : wX7_plus d Q 0 [some (.ref a0), some (.int a1), some (.int a2), some (.int a3)] [] M) : zCl gTb (d + 1) nX7_plus [.ref a0, .int a1, .int a2, .int a3] M Q := ⟨Nat.le_of_ble_eq_true rfl, h⟩
set_option maxRecDepth 100000 in
set_option maxHeartbeats 4000000 in
/-- from place 0 -/
theorem sg_X7_plus_0 {d : Nat} {Q : List Value → zM → Prop} (a0 : Nat) (a1 : Int32) (a2 : Int32) (a3 : Int32) (M : zM) (h :
ycI d nX7_isPlace [.int a1] M fun c2 M1 => ((c2 = 0 → (Q [.int (((-1) : Int32))] M1)) ∧ (¬ (c2 = 0) → (ycI d nX7_isPlace [.int a2] M1 fun c4 M3 => ((c4 = 0 → (Q [.int (((-1) : Int32))] M3)) ∧ (¬ (c4 = 0) → (ycI d nX7_isPlace [.int a3] M3 fun c6 M5 => ((¬ c6 = 0 → ((zsh M5 a0).1 = 15 ∧ ((zsh M5 a0).1 = 15 ∧ ((zsh M5 (zR M5 a0 2)).1 = 5 ∧ (zin a1 (zsh M5 (zR M5 a0 2)).2 ∧ ((zsh M5 (zR M5 a0 11)).1 = 14 ∧ (ycV d nX6_become [.ref (zR M5 a0 11), .ref (zR M5 (zR M5 a0 2) a1.toNatClampNeg)] M5 fun M7 => ((zsh M7 a0).1 = 15 ∧ ((zsh M7 a0).1 = 15 ∧ ((zsh M7 (zR M7 a0 2)).1 = 5 ∧ (zin a2 (zsh M7 (zR M7 a0 2)).2 ∧ ((zsh M7 (zR M7 a0 11)).1 = 14 ∧ (ycI d nX6_addMultiple [.ref (zR M7 a0 11), .long ((4294967297 : Int64)), .int ((0 : Int32)), .ref (zR M7 (zR M7 a0 2) a2.toNatClampNeg)] M7 fun c9 M8 => ((c9 = 0 → (Q [.int (((-7) : Int32))] M8)) ∧ (¬ (c9 = 0) → ((zsh M8 a0).1 = 15 ∧ ((zsh M8 a0).1 = 15 ∧ (ycI d nX7_put [.ref a0, .ref (zR M8 a0 11), .int a3] M8 fun c11 M10 => (Q [.int c11] M10))))))))))))))))))) ∧ (¬ (¬ c6 = 0) → (Q [.int (((-1) : Int32))] M5)))))))))
) : wX7_plus d Q 0 [some (.ref a0), some (.int a1), some (.int a2), some (.int a3)] [] M := zseg (zCl_good gTb d) (fun _ => false) 46 h
abbrev wX7_times (d : Nat) (Q : List Value → zM → Prop) : Nat → zLv → List Value → zM → Prop := zW (zCl gTb d) 1 kX7_times Q
theorem en_X7_times {d : Nat} {Q : List Value → zM → Prop} (a0 : Nat) (a1 : Int32) (a2 : Int32) (a3 : Int32) (M : zM) (h : wX7_times d Q 0 [some (.ref a0), some (.int a1), some (.int a2), some (.int a3)] [] M) : zCl gTb (d + 1) nX7_times [.ref a0, .int a1, .int a2, .int a3] M Q := ⟨Nat.le_of_ble_eq_true rfl, h⟩
set_option maxRecDepth 100000 in
set_option maxHeartbeats 4000000 in
/-- from place 0 -/
theorem sg_X7_times_0 {d : Nat} {Q : List Value → zM → Prop} (a0 : Nat) (a1 : Int32) (a2 : Int32) (a3 : Int32) (M : zM) (h :
ycI d nX7_isPlace [.int a1] M fun c2 M1 => ((c2 = 0 → (Q [.int (((-1) : Int32))] M1)) ∧ (¬ (c2 = 0) → (ycI d nX7_isPlace [.int a2] M1 fun c4 M3 => ((c4 = 0 → (Q [.int (((-1) : Int32))] M3)) ∧ (¬ (c4 = 0) → (ycI d nX7_isPlace [.int a3] M3 fun c6 M5 => ((¬ c6 = 0 → ((zsh M5 a0).1 = 15 ∧ ((zsh M5 a0).1 = 15 ∧ ((zsh M5 (zR M5 a0 2)).1 = 5 ∧ (zin a1 (zsh M5 (zR M5 a0 2)).2 ∧ ((zsh M5 a0).1 = 15 ∧ ((zsh M5 (zR M5 a0 2)).1 = 5 ∧ (zin a2 (zsh M5 (zR M5 a0 2)).2 ∧ ((zsh M5 (zR M5 a0 12)).1 = 14 ∧ (ycI d nX6_becomeProduct [.ref (zR M5 a0 12), .ref (zR M5 (zR M5 a0 2) a1.toNatClampNeg), .ref (zR M5 (zR M5 a0 2) a2.toNatClampNeg)] M5 fun c8 M7 => ((c8 = 0 → (Q [.int (((-7) : Int32))] M7)) ∧ (¬ (c8 = 0) → ((zsh M7 a0).1 = 15 ∧ ((zsh M7 a0).1 = 15 ∧ (ycI d nX7_put [.ref a0, .ref (zR M7 a0 12), .int a3] M7 fun c10 M9 => (Q [.int c10] M9)))))))))))))))) ∧ (¬ (¬ c6 = 0) → (Q [.int (((-1) : Int32))] M5)))))))))
) : wX7_times d Q 0 [some (.ref a0), some (.int a1), some (.int a2), some (.int a3)] [] M := zseg (zCl_good gTb d) (fun _ => false) 41 h
abbrev wX7_same (d : Nat) (Q : List Value → zM → Prop) : Nat → zLv → List Value → zM → Prop := zW (zCl gTb d) 1 kX7_same Q
theorem en_X7_same {d : Nat} {Q : List Value → zM → Prop} (a0 : Nat) (a1 : Int32) (a2 : Int32) (M : zM) (h : wX7_same d Q 0 [some (.ref a0), some (.int a1), some (.int a2)] [] M) : zCl gTb (d + 1) nX7_same [.ref a0, .int a1, .int a2] M Q := ⟨Nat.le_of_ble_eq_true rfl, h⟩
set_option maxRecDepth 100000 in
set_option maxHeartbeats 4000000 in
/-- from place 0 -/
theorem sg_X7_same_0 {d : Nat} {Q : List Value → zM → Prop} (a0 : Nat) (a1 : Int32) (a2 : Int32) (M : zM) (h :
ycI d nX7_isPlace [.int a1] M fun c2 M1 => ((c2 = 0 → (Q [.int (((-1) : Int32))] M1)) ∧ (¬ (c2 = 0) → (ycI d nX7_isPlace [.int a2] M1 fun c4 M3 => ((¬ c4 = 0 → ((zsh M3 a0).1 = 15 ∧ ((zsh M3 (zR M3 a0 2)).1 = 5 ∧ (zin a1 (zsh M3 (zR M3 a0 2)).2 ∧ ((zsh M3 a0).1 = 15 ∧ ((zsh M3 (zR M3 a0 2)).1 = 5 ∧ (zin a2 (zsh M3 (zR M3 a0 2)).2 ∧ ((zsh M3 (zR M3 (zR M3 a0 2) a1.toNatClampNeg)).1 = 14 ∧ (ycI d nX6_isLike [.ref (zR M3 (zR M3 a0 2) a1.toNatClampNeg), .ref (zR M3 (zR M3 a0 2) a2.toNatClampNeg)] M3 fun c6 M5 => ((c6 = 0 → (Q [.int ((0 : Int32))] M5)) ∧ (¬ (c6 = 0) → (Q [.int ((1 : Int32))] M5)))))))))))) ∧ (¬ (¬ c4 = 0) → (Q [.int (((-1) : Int32))] M3))))))
) : wX7_same d Q 0 [some (.ref a0), some (.int a1), some (.int a2)] [] M := zseg (zCl_good gTb d) (fun _ => false) 30 h
abbrev wX7_vanishes (d : Nat) (Q : List Value → zM → Prop) : Nat → zLv → List Value → zM → Prop := zW (zCl gTb d) 1 kX7_vanishes Q
theorem en_X7_vanishes {d : Nat} {Q : List Value → zM → Prop} (a0 : Nat) (a1 : Int32) (a2 : Int32) (a3 : Int32) (a4 : Int32) (a5 : Int32) (M : zM) (h : wX7_vanishes d Q 0 [some (.ref a0), some (.int a1), some (.int a2), some (.int a3), some (.int a4), some (.int a5), none, none] [] M) : zCl gTb (d + 1) nX7_vanishes [.ref a0, .int a1, .int a2, .int a3, .int a4, .int a5] M Q := ⟨Nat.le_of_ble_eq_true rfl, h⟩
set_option maxRecDepth 100000 in
set_option maxHeartbeats 4000000 in
/-- from place 0 -/
theorem sg_X7_vanishes_0 {d : Nat} {Q : List Value → zM → Prop} (a0 : Nat) (a1 : Int32) (a2 : Int32) (a3 : Int32) (a4 : Int32) (a5 : Int32) (M : zM) (h :
ycI d nX7_isPlace [.int a1] M fun c2 M1 => ((¬ c2 = 0 → ((zsh M1 a0).1 = 15 ∧ ((zsh M1 (zR M1 a0 13)).1 = 2 ∧ (zin ((0 : Int32)) (zsh M1 (zR M1 a0 13)).2 ∧ (let M3 : zM := zuI M1 (zR M1 a0 13) ((0 : Int32)).toNatClampNeg a2
(zsh M1 a0).1 = 15 ∧ ((zsh M1 (zR M1 a0 13)).1 = 2 ∧ (zin ((1 : Int32)) (zsh M1 (zR M1 a0 13)).2 ∧ (let M4 : zM := zuI M3 (zR M1 a0 13) ((1 : Int32)).toNatClampNeg a3
(zsh M1 a0).1 = 15 ∧ ((zsh M1 (zR M1 a0 13)).1 = 2 ∧ (zin ((2 : Int32)) (zsh M1 (zR M1 a0 13)).2 ∧ (let M5 : zM := zuI M4 (zR M1 a0 13) ((2 : Int32)).toNatClampNeg a4
(zsh M1 a0).1 = 15 ∧ ((zsh M1 (zR M1 a0 13)).1 = 2 ∧ (zin ((3 : Int32)) (zsh M1 (zR M1 a0 13)).2 ∧ (let M6 : zM := zuI M5 (zR M1 a0 13) ((3 : Int32)).toNatClampNeg a5
wX7_vanishes d Q 27 [some (.ref a0), some (.int a1), some (.int a2), some (.int a3), some (.int a4), some (.int a5), some (.int ((0 : Int32))), none] [] M6)))))))))))))) ∧ (¬ (¬ c2 = 0) → (Q [.int (((-1) : Int32))] M1)))
) : wX7_vanishes d Q 0 [some (.ref a0), some (.int a1), some (.int a2), some (.int a3), some (.int a4), some (.int a5), none, none] [] M := zseg (zCl_good gTb d) (fun j => j == 27) 32 h
set_option maxRecDepth 100000 in
set_option maxHeartbeats 4000000 in
/-- from place 27 -/
theorem sg_X7_vanishes_27 {d : Nat} {Q : List Value → zM → Prop} (a0 : Nat) (a1 : Int32) (o2 : Option Value) (o3 : Option Value) (o4 : Option Value) (o5 : Option Value) (a6 : Int32) (o7 : Option Value) (M : zM) (h :
(zsh M a0).1 = 15 ∧ (((zI M a0 0) ≤ a6 → ((zsh M a0).1 = 15 ∧ ((zsh M (zR M a0 2)).1 = 5 ∧ (zin a1 (zsh M (zR M a0 2)).2 ∧ ((zsh M a0).1 = 15 ∧ ((zsh M a0).1 = 15 ∧ ((zsh M (zR M (zR M a0 2) a1.toNatClampNeg)).1 = 14 ∧ (ycJ d nX6_valueAt [.ref (zR M (zR M a0 2) a1.toNatClampNeg), .ref (zR M a0 13), .int (zI M a0 0)] M fun c2 M1 => ((¬ (lg_cmp c2 ((0 : Int64))) = 0 → ((¬ (lg_cmp c2 ((1 : Int64))) = 0 → (Q [.int ((0 : Int32))] M1)) ∧ (¬ (¬ (lg_cmp c2 ((1 : Int64))) = 0) → (Q [.int ((1 : Int32))] M1)))) ∧ (¬ (¬ (lg_cmp c2 ((0 : Int64))) = 0) → (Q [.int (((-7) : Int32))] M1))))))))))) ∧ (¬ ((zI M a0 0) ≤ a6) → ((zsh M a0).1 = 15 ∧ ((zsh M (zR M a0 13)).1 = 2 ∧ (zin a6 (zsh M (zR M a0 13)).2 ∧ (ycI d nX7_isLarge [.int (zI M (zR M a0 13) a6.toNatClampNeg), .int ((1000 : Int32))] M fun c4 M3 => ((c4 = 0 → (let v6_5 : Int32 := a6 + 1
wX7_vanishes d Q 27 [some (.ref a0), some (.int a1), o2, o3, o4, zwipe o5, some (.int v6_5), o7] [] M3)) ∧ (¬ (c4 = 0) → (Q [.int (((-2) : Int32))] M3)))))))))
) : wX7_vanishes d Q 27 [some (.ref a0), some (.int a1), o2, o3, o4, o5, some (.int a6), o7] [] M := zseg (zCl_good gTb d) (fun j => j == 27) 45 h
abbrev wX7_generator (d : Nat) (Q : List Value → zM → Prop) : Nat → zLv → List Value → zM → Prop := zW (zCl gTb d) 1 kX7_generator Q
theorem en_X7_generator {d : Nat} {Q : List Value → zM → Prop} (a0 : Nat) (a1 : Int32) (M : zM) (h : wX7_generator d Q 0 [some (.ref a0), some (.int a1)] [] M) : zCl gTb (d + 1) nX7_generator [.ref a0, .int a1] M Q := ⟨Nat.le_of_ble_eq_true rfl, h⟩
set_option maxRecDepth 100000 in
set_option maxHeartbeats 4000000 in
/-- from place 0 -/
theorem sg_X7_generator_0 {d : Nat} {Q : List Value → zM → Prop} (a0 : Nat) (a1 : Int32) (M : zM) (h :
ycI d nX7_isPlace [.int a1] M fun c2 M1 => ((¬ c2 = 0 → ((zsh M1 a0).1 = 15 ∧ (((zI M1 a0 4) < ((8 : Int32)) → ((zsh M1 a0).1 = 15 ∧ ((zsh M1 a0).1 = 15 ∧ ((zsh M1 (zR M1 a0 3)).1 = 5 ∧ (zin (zI M1 a0 4) (zsh M1 (zR M1 a0 3)).2 ∧ ((zsh M1 a0).1 = 15 ∧ ((zsh M1 (zR M1 a0 2)).1 = 5 ∧ (zin a1 (zsh M1 (zR M1 a0 2)).2 ∧ ((zsh M1 (zR M1 (zR M1 a0 3) (zI M1 a0 4).toNatClampNeg)).1 = 14 ∧ (ycV d nX6_become [.ref (zR M1 (zR M1 a0 3) (zI M1 a0 4).toNatClampNeg), .ref (zR M1 (zR M1 a0 2) a1.toNatClampNeg)] M1 fun M3 => ((zsh M3 a0).1 = 15 ∧ ((zsh M3 a0).1 = 15 ∧ (let M4 : zM := zuI M3 a0 4 ((zI M3 a0 4) + ((1 : Int32)))
(zsh M3 a0).1 = 15 ∧ (ycV d nX7_forgetBasis [.ref a0] M4 fun M5 => ((zsh M5 a0).1 = 15 ∧ (Q [.int ((zI M5 a0 4) - ((1 : Int32)))] M5)))))))))))))))) ∧ (¬ ((zI M1 a0 4) < ((8 : Int32))) → (Q [.int (((-4) : Int32))] M1))))) ∧ (¬ (¬ c2 = 0) → (Q [.int (((-1) : Int32))] M1)))
) : wX7_generator d Q 0 [some (.ref a0), some (.int a1)] [] M := zseg (zCl_good gTb d) (fun _ => false) 39 h
abbrev wX7_clear (d : Nat) (Q : List Value → zM → Prop) : Nat → zLv → List Value → zM → Prop := zW (zCl gTb d) 1 kX7_clear Q
theorem en_X7_clear {d : Nat} {Q : List Value → zM → Prop} (a0 : Nat) (M : zM) (h : wX7_clear d Q 0 [some (.ref a0), none] [] M) : zCl gTb (d + 1) nX7_clear [.ref a0] M Q := ⟨Nat.le_of_ble_eq_true rfl, h⟩
set_option maxRecDepth 100000 in
set_option maxHeartbeats 4000000 in
/-- from place 0 -/
theorem sg_X7_clear_0 {d : Nat} {Q : List Value → zM → Prop} (a0 : Nat) (M : zM) (h :
(zsh M a0).1 = 15 ∧ (let v1_1 : Int32 := zI M a0 4
(zsh M a0).1 = 15 ∧ (let M2 : zM := zuI M a0 4 ((0 : Int32))
(zsh M a0).1 = 15 ∧ (ycV d nX7_forgetBasis [.ref a0] M2 fun M3 => (Q [.int v1_1] M3))))
) : wX7_clear d Q 0 [some (.ref a0), none] [] M := zseg (zCl_good gTb d) (fun _ => false) 15 h
abbrev wX7_basis (d : Nat) (Q : List Value → zM → Prop) : Nat → zLv → List Value → zM → Prop := zW (zCl gTb d) 1 kX7_basis Q
theorem en_X7_basis {d : Nat} {Q : List Value → zM → Prop} (a0 : Nat) (a1 : Int32) (M : zM) (h : wX7_basis d Q 0 [some (.ref a0), some (.int a1), none] [] M) : zCl gTb (d + 1) nX7_basis [.ref a0, .int a1] M Q := ⟨Nat.le_of_ble_eq_true rfl, h⟩
set_option maxRecDepth 100000 in
set_option maxHeartbeats 4000000 in
/-- from place 0 -/
theorem sg_X7_basis_0 {d : Nat} {Q : List Value → zM → Prop} (a0 : Nat) (a1 : Int32) (M : zM) (h :
(a1 < 0 → (Q [.int (((-2) : Int32))] M)) ∧ (¬ (a1 < 0) → ((a1 ≤ ((20000 : Int32)) → ((zsh M a0).1 = 15 ∧ (ycV d nX7_forgetBasis [.ref a0] M fun M1 => ((zsh M1 a0).1 = 15 ∧ ((zsh M1 a0).1 = 15 ∧ ((zsh M1 a0).1 = 15 ∧ ((zsh M1 a0).1 = 15 ∧ ((zsh M1 a0).1 = 15 ∧ ((zsh M1 (zR M1 a0 5)).1 = 12 ∧ (ycI d nX3_build [.ref (zR M1 a0 5), .ref (zR M1 a0 3), .int (zI M1 a0 4), .int (zI M1 a0 4), .ref (zR M1 a0 8), .int a1] M1 fun c3 M2 => ((c3 = 0 → ((zsh M2 a0).1 = 15 ∧ (zb ((1 : Int32)) ∧ (let M4 : zM := zuI M2 a0 6 ((1 : Int32))
(zsh M2 a0).1 = 15 ∧ ((zsh M2 (zR M2 a0 5)).1 = 12 ∧ (Q [.int (zI M4 (zR M2 a0 5) 2)] M4)))))) ∧ (¬ (c3 = 0) → (Q [.int c3] M2))))))))))))) ∧ (¬ (a1 ≤ ((20000 : Int32))) → (Q [.int (((-2) : Int32))] M))))
) : wX7_basis d Q 0 [some (.ref a0), some (.int a1), none] [] M := zseg (zCl_good gTb d) (fun _ => false) 40 h
abbrev wX7_done (d : Nat) (Q : List Value → zM → Prop) : Nat → zLv → List Value → zM → Prop := zW (zCl gTb d) 1 kX7_done Q
theorem en_X7_done {d : Nat} {Q : List Value → zM → Prop} (a0 : Nat) (a1 : Int32) (M : zM) (h : wX7_done d Q 0 [some (.ref a0), some (.int a1)] [] M) : zCl gTb (d + 1) nX7_done [.ref a0, .int a1] M Q := ⟨Nat.le_of_ble_eq_true rfl, h⟩
set_option maxRecDepth 100000 in
set_option maxHeartbeats 4000000 in
/-- from place 0 -/
theorem sg_X7_done_0 {d : Nat} {Q : List Value → zM → Prop} (a0 : Nat) (a1 : Int32) (M : zM) (h :
(a1.toInt = 0 → ((zsh M a0).1 = 15 ∧ ((zsh M (zR M a0 5)).1 = 12 ∧ (Q [.int (zI M (zR M a0 5) 3)] M)))) ∧ (¬ (a1.toInt = 0) → ((a1.toInt = 1 → ((zsh M a0).1 = 15 ∧ ((zsh M (zR M a0 5)).1 = 12 ∧ (Q [.int (zI M (zR M a0 5) 4)] M)))) ∧ (¬ (a1.toInt = 1) → ((a1.toInt = 2 → ((zsh M a0).1 = 15 ∧ ((zsh M (zR M a0 5)).1 = 12 ∧ (Q [.int (zI M (zR M a0 5) 5)] M)))) ∧ (¬ (a1.toInt = 2) → ((a1.toInt = 3 → ((zsh M a0).1 = 15 ∧ ((zsh M (zR M a0 5)).1 = 12 ∧ (Q [.int (zI M (zR M a0 5) 6)] M)))) ∧ (¬ (a1.toInt = 3) → (Q [.int (((-2) : Int32))] M))))))))
) : wX7_done d Q 0 [some (.ref a0), some (.int a1)] [] M := zseg (zCl_good gTb d) (fun _ => false) 25 h
abbrev wX7_element (d : Nat) (Q : List Value → zM → Prop) : Nat → zLv → List Value → zM → Prop := zW (zCl gTb d) 1 kX7_element Q
theorem en_X7_element {d : Nat} {Q : List Value → zM → Prop} (a0 : Nat) (a1 : Int32) (a2 : Int32) (M : zM) (h : wX7_element d Q 0 [some (.ref a0), some (.int a1), some (.int a2)] [] M) : zCl gTb (d + 1) nX7_element [.ref a0, .int a1, .int a2] M Q := ⟨Nat.le_of_ble_eq_true rfl, h⟩
set_option maxRecDepth 100000 in
set_option maxHeartbeats 4000000 in
/-- from place 0 -/
theorem sg_X7_element_0 {d : Nat} {Q : List Value → zM → Prop} (a0 : Nat) (a1 : Int32) (a2 : Int32) (M : zM) (h :
(zsh M a0).1 = 15 ∧ ((¬ (zI M a0 6) = 0 → ((zsh M a0).1 = 15 ∧ (ycI d nX7_isElement [.ref a0, .int a1] M fun c2 M1 => ((c2 = 0 → (Q [.int (((-1) : Int32))] M1)) ∧ (¬ (c2 = 0) → (ycI d nX7_isPlace [.int a2] M1 fun c4 M3 => ((¬ c4 = 0 → ((zsh M3 a0).1 = 15 ∧ ((zsh M3 (zR M3 a0 5)).1 = 12 ∧ ((zsh M3 (zR M3 (zR M3 a0 5) 1)).1 = 6 ∧ (zin a1 (zsh M3 (zR M3 (zR M3 a0 5) 1)).2 ∧ ((zsh M3 (zR M3 (zR M3 (zR M3 a0 5) 1) a1.toNatClampNeg)).1 = 11 ∧ ((zsh M3 a0).1 = 15 ∧ (ycI d nX7_put [.ref a0, .ref (zR M3 (zR M3 (zR M3 (zR M3 a0 5) 1) a1.toNatClampNeg) 0), .int a2] M3 fun c6 M5 => (Q [.int c6] M5))))))))) ∧ (¬ (¬ c4 = 0) → (Q [.int (((-1) : Int32))] M3))))))))) ∧ (¬ (¬ (zI M a0 6) = 0) → (Q [.int (((-3) : Int32))] M)))
) : wX7_element d Q 0 [some (.ref a0), some (.int a1), some (.int a2)] [] M := zseg (zCl_good gTb d) (fun _ => false) 31 h
abbrev wX7_share (d : Nat) (Q : List Value → zM → Prop) : Nat → zLv → List Value → zM → Prop := zW (zCl gTb d) 1 kX7_share Q
theorem en_X7_share {d : Nat} {Q : List Value → zM → Prop} (a0 : Nat) (a1 : Int32) (a2 : Int32) (a3 : Int32) (M : zM) (h : wX7_share d Q 0 [some (.ref a0), some (.int a1), some (.int a2), some (.int a3)] [] M) : zCl gTb (d + 1) nX7_share [.ref a0, .int a1, .int a2, .int a3] M Q := ⟨Nat.le_of_ble_eq_true rfl, h⟩
set_option maxRecDepth 100000 in
set_option maxHeartbeats 4000000 in
/-- from place 0 -/
theorem sg_X7_share_0 {d : Nat} {Q : List Value → zM → Prop} (a0 : Nat) (a1 : Int32) (a2 : Int32) (a3 : Int32) (M : zM) (h :
(zsh M a0).1 = 15 ∧ ((¬ (zI M a0 6) = 0 → ((zsh M a0).1 = 15 ∧ (ycI d nX7_isElement [.ref a0, .int a1] M fun c2 M1 => ((c2 = 0 → (Q [.int (((-1) : Int32))] M1)) ∧ (¬ (c2 = 0) → ((zsh M1 a0).1 = 15 ∧ (ycI d nX7_isGenerator [.ref a0, .int a2] M1 fun c4 M3 => ((c4 = 0 → (Q [.int (((-1) : Int32))] M3)) ∧ (¬ (c4 = 0) → (ycI d nX7_isPlace [.int a3] M3 fun c6 M5 => ((¬ c6 = 0 → ((zsh M5 a0).1 = 15 ∧ ((zsh M5 (zR M5 a0 5)).1 = 12 ∧ ((zsh M5 (zR M5 (zR M5 a0 5) 1)).1 = 6 ∧ (zin a1 (zsh M5 (zR M5 (zR M5 a0 5) 1)).2 ∧ ((zsh M5 (zR M5 (zR M5 (zR M5 a0 5) 1) a1.toNatClampNeg)).1 = 11 ∧ ((zsh M5 (zR M5 (zR M5 (zR M5 (zR M5 a0 5) 1) a1.toNatClampNeg) 1)).1 = 5 ∧ (zin a2 (zsh M5 (zR M5 (zR M5 (zR M5 (zR M5 a0 5) 1) a1.toNatClampNeg) 1)).2 ∧ ((zsh M5 a0).1 = 15 ∧ (ycI d nX7_put [.ref a0, .ref (zR M5 (zR M5 (zR M5 (zR M5 (zR M5 a0 5) 1) a1.toNatClampNeg) 1) a2.toNatClampNeg), .int a3] M5 fun c8 M7 => (Q [.int c8] M7))))))))))) ∧ (¬ (¬ c6 = 0) → (Q [.int (((-1) : Int32))] M5))))))))))))) ∧ (¬ (¬ (zI M a0 6) = 0) → (Q [.int (((-3) : Int32))] M)))
) : wX7_share d Q 0 [some (.ref a0), some (.int a1), some (.int a2), some (.int a3)] [] M := zseg (zCl_good gTb d) (fun _ => false) 39 h
abbrev wX7_divide (d : Nat) (Q : List Value → zM → Prop) : Nat → zLv → List Value → zM → Prop := zW (zCl gTb d) 1 kX7_divide Q
theorem en_X7_divide {d : Nat} {Q : List Value → zM → Prop} (a0 : Nat) (a1 : Int32) (a2 : Int32) (M : zM) (h : wX7_divide d Q 0 [some (.ref a0), some (.int a1), some (.int a2), none, none] [] M) : zCl gTb (d + 1) nX7_divide [.ref a0, .int a1, .int a2] M Q := ⟨Nat.le_of_ble_eq_true rfl, h⟩
set_option maxRecDepth 100000 in
set_option maxHeartbeats 4000000 in
/-- from place 0 -/
theorem sg_X7_divide_0 {d : Nat} {Q : List Value → zM → Prop} (a0 : Nat) (a1 : Int32) (a2 : Int32) (M : zM) (h :
ycI d nX7_isPlace [.int a1] M fun c2 M1 => ((c2 = 0 → (Q [.int (((-1) : Int32))] M1)) ∧ (¬ (c2 = 0) → (ycI d nX7_isPlace [.int a2] M1 fun c4 M3 => ((¬ c4 = 0 → ((zsh M3 a0).1 = 15 ∧ ((¬ (zI M3 a0 6) = 0 → ((zsh M3 a0).1 = 15 ∧ ((zsh M3 (zR M3 a0 8)).1 = 10 ∧ (ycV d nX0_allow [.ref (zR M3 a0 8), .int ((5000 : Int32))] M3 fun M5 => ((zsh M5 a0).1 = 15 ∧ ((zsh M5 a0).1 = 15 ∧ ((zsh M5 (zR M5 a0 5)).1 = 12 ∧ ((zsh M5 (zR M5 a0 8)).1 = 10 ∧ (ycV d nX0_makeReady [.ref (zR M5 a0 8), .int (zI M5 (zR M5 a0 5) 2)] M5 fun M6 => ((zsh M6 a0).1 = 15 ∧ ((zsh M6 (zR M6 a0 8)).1 = 10 ∧ ((zsh M6 a0).1 = 15 ∧ ((zsh M6 (zR M6 a0 2)).1 = 5 ∧ (zin a1 (zsh M6 (zR M6 a0 2)).2 ∧ ((zsh M6 (zR M6 (zR M6 a0 8) 0)).1 = 14 ∧ (ycV d nX6_become [.ref (zR M6 (zR M6 a0 8) 0), .ref (zR M6 (zR M6 a0 2) a1.toNatClampNeg)] M6 fun M7 => ((zsh M7 a0).1 = 15 ∧ ((zsh M7 a0).1 = 15 ∧ ((zsh M7 (zR M7 a0 5)).1 = 12 ∧ ((zsh M7 a0).1 = 15 ∧ ((zsh M7 (zR M7 a0 5)).1 = 12 ∧ ((zsh M7 (zR M7 a0 8)).1 = 10 ∧ (ycI d nX0_run [.ref (zR M7 a0 8), .ref (zR M7 (zR M7 a0 5) 1), .int (zI M7 (zR M7 a0 5) 2), .int (((-1) : Int32))] M7 fun c9 M8 => ((c9 = 0 → ((zsh M8 a0).1 = 15 ∧ (let r4_10 : Nat := zR M8 a0 8
(zsh M8 a0).1 = 15 ∧ ((zsh M8 a0).1 = 15 ∧ (let M11 : zM := zuR M8 a0 8 (zR M8 a0 9)
(zsh M8 a0).1 = 15 ∧ (let M12 : zM := zuR M11 a0 9 r4_10
(zsh M8 r4_10).1 = 10 ∧ ((zsh M8 a0).1 = 15 ∧ (ycI d nX7_put [.ref a0, .ref (zR M12 r4_10 1), .int a2] M12 fun c14 M13 => ((¬ c14 = 0 → ((zsh M13 a0).1 = 15 ∧ (zb ((0 : Int32)) ∧ (let M15 : zM := zuI M13 a0 10 ((0 : Int32))
(zsh M13 a0).1 = 15 ∧ (((zI M15 a0 10) = 0 → (Q [.int ((0 : Int32))] M15)) ∧ (¬ ((zI M15 a0 10) = 0) → (Q [.int ((1 : Int32))] M15))))))) ∧ (¬ (¬ c14 = 0) → ((zsh M13 a0).1 = 15 ∧ (zb ((1 : Int32)) ∧ (let M16 : zM := zuI M13 a0 10 ((1 : Int32))
(zsh M13 a0).1 = 15 ∧ (((zI M16 a0 10) = 0 → (Q [.int ((0 : Int32))] M16)) ∧ (¬ ((zI M16 a0 10) = 0) → (Q [.int ((1 : Int32))] M16)))))))))))))))) ∧ (¬ (c9 = 0) → (Q [.int c9] M8)))))))))))))))))))))))))) ∧ (¬ (¬ (zI M3 a0 6) = 0) → (Q [.int (((-3) : Int32))] M3))))) ∧ (¬ (¬ c4 = 0) → (Q [.int (((-1) : Int32))] M3))))))
) : wX7_divide d Q 0 [some (.ref a0), some (.int a1), some (.int a2), none, none] [] M := zseg (zCl_good gTb d) (fun _ => false) 91 h
abbrev wX7_certificate (d : Nat) (Q : List Value → zM → Prop) : Nat → zLv → List Value → zM → Prop := zW (zCl gTb d) 1 kX7_certificate Q
theorem en_X7_certificate {d : Nat} {Q : List Value → zM → Prop} (a0 : Nat) (a1 : Int32) (a2 : Int32) (M : zM) (h : wX7_certificate d Q 0 [some (.ref a0), some (.int a1), some (.int a2), none] [] M) : zCl gTb (d + 1) nX7_certificate [.ref a0, .int a1, .int a2] M Q := ⟨Nat.le_of_ble_eq_true rfl, h⟩
set_option maxRecDepth 100000 in
set_option maxHeartbeats 4000000 in
/-- from place 0 -/
theorem sg_X7_certificate_0 {d : Nat} {Q : List Value → zM → Prop} (a0 : Nat) (a1 : Int32) (a2 : Int32) (M : zM) (h :
(zsh M a0).1 = 15 ∧ (((zI M a0 6) = 0 → (Q [.int (((-3) : Int32))] M)) ∧ (¬ ((zI M a0 6) = 0) → ((zsh M a0).1 = 15 ∧ ((¬ (zI M a0 10) = 0 → ((zsh M a0).1 = 15 ∧ (ycI d nX7_isGenerator [.ref a0, .int a1] M fun c2 M1 => ((c2 = 0 → (Q [.int (((-1) : Int32))] M1)) ∧ (¬ (c2 = 0) → (ycI d nX7_isPlace [.int a2] M1 fun c4 M3 => ((¬ c4 = 0 → ((zsh M3 a0).1 = 15 ∧ ((zsh M3 (zR M3 a0 11)).1 = 14 ∧ (ycV d nX6_empty [.ref (zR M3 a0 11)] M3 fun M5 => (wX7_certificate d Q 22 [some (.ref a0), some (.int a1), some (.int a2), some (.int ((0 : Int32)))] [] M5))))) ∧ (¬ (¬ c4 = 0) → (Q [.int (((-1) : Int32))] M3))))))))) ∧ (¬ (¬ (zI M a0 10) = 0) → (Q [.int (((-3) : Int32))] M))))))
) : wX7_certificate d Q 0 [some (.ref a0), some (.int a1), some (.int a2), none] [] M := zseg (zCl_good gTb d) (fun j => j == 22) 31 h
set_option maxRecDepth 100000 in
set_option maxHeartbeats 4000000 in
/-- from place 22 -/
theorem sg_X7_certificate_22 {d : Nat} {Q : List Value → zM → Prop} (a0 : Nat) (a1 : Int32) (a2 : Int32) (a3 : Int32) (M : zM) (h :
(zsh M a0).1 = 15 ∧ ((zsh M (zR M a0 5)).1 = 12 ∧ (((zI M (zR M a0 5) 2) ≤ a3 → ((zsh M a0).1 = 15 ∧ ((zsh M a0).1 = 15 ∧ (ycI d nX7_put [.ref a0, .ref (zR M a0 11), .int a2] M fun c2 M1 => (Q [.int c2] M1))))) ∧ (¬ ((zI M (zR M a0 5) 2) ≤ a3) → ((zsh M a0).1 = 15 ∧ ((zsh M a0).1 = 15 ∧ ((zsh M (zR M a0 9)).1 = 10 ∧ ((zsh M (zR M (zR M a0 9) 2)).1 = 5 ∧ (zin a3 (zsh M (zR M (zR M a0 9) 2)).2 ∧ ((zsh M a0).1 = 15 ∧ ((zsh M (zR M a0 5)).1 = 12 ∧ ((zsh M (zR M (zR M a0 5) 1)).1 = 6 ∧ (zin a3 (zsh M (zR M (zR M a0 5) 1)).2 ∧ ((zsh M (zR M (zR M (zR M a0 5) 1) a3.toNatClampNeg)).1 = 11 ∧ ((zsh M (zR M (zR M (zR M (zR M a0 5) 1) a3.toNatClampNeg) 1)).1 = 5 ∧ (zin a1 (zsh M (zR M (zR M (zR M (zR M a0 5) 1) a3.toNatClampNeg) 1)).2 ∧ ((zsh M (zR M a0 11)).1 = 14 ∧ (ycI d nX6_addProduct [.ref (zR M a0 11), .ref (zR M (zR M (zR M a0 9) 2) a3.toNatClampNeg), .ref (zR M (zR M (zR M (zR M (zR M a0 5) 1) a3.toNatClampNeg) 1) a1.toNatClampNeg)] M fun c4 M3 => ((¬ c4 = 0 → (let v3_5 : Int32 := a3 + 1
wX7_certificate d Q 22 [some (.ref a0), some (.int a1), some (.int a2), some (.int v3_5)] [] M3)) ∧ (¬ (¬ c4 = 0) → (Q [.int (((-7) : Int32))] M3))))))))))))))))))))
) : wX7_certificate d Q 22 [some (.ref a0), some (.int a1), some (.int a2), some (.int a3)] [] M := zseg (zCl_good gTb d) (fun j => j == 22) 37 h
abbrev wX7_check (d : Nat) (Q : List Value → zM → Prop) : Nat → zLv → List Value → zM → Prop := zW (zCl gTb d) 1 kX7_check Q
theorem en_X7_check {d : Nat} {Q : List Value → zM → Prop} (a0 : Nat) (M : zM) (h : wX7_check d Q 0 [some (.ref a0), none, none, none] [] M) : zCl gTb (d + 1) nX7_check [.ref a0] M Q := ⟨Nat.le_of_ble_eq_true rfl, h⟩
set_option maxRecDepth 100000 in
set_option maxHeartbeats 4000000 in
/-- from place 0 -/
theorem sg_X7_check_0 {d : Nat} {Q : List Value → zM → Prop} (a0 : Nat) (M : zM) (h :
(zsh M a0).1 = 15 ∧ ((¬ (zI M a0 6) = 0 → (wX7_check d Q 9 [some (.ref a0), some (.int ((1 : Int32))), some (.int ((0 : Int32))), none] [] M)) ∧ (¬ (¬ (zI M a0 6) = 0) → (Q [.int (((-3) : Int32))] M)))
) : wX7_check d Q 0 [some (.ref a0), none, none, none] [] M := zseg (zCl_good gTb d) (fun j => j == 9) 14 h
set_option maxRecDepth 100000 in
set_option maxHeartbeats 4000000 in
/-- from place 9 -/
theorem sg_X7_check_9 {d : Nat} {Q : List Value → zM → Prop} (a0 : Nat) (a1 : Int32) (a2 : Int32) (o3 : Option Value) (M : zM) (h :
(zsh M a0).1 = 15 ∧ ((zsh M (zR M a0 5)).1 = 12 ∧ (((zI M (zR M a0 5) 2) ≤ a2 → (Q [.int a1] M)) ∧ (¬ ((zI M (zR M a0 5) 2) ≤ a2) → ((zsh M a0).1 = 15 ∧ ((zsh M (zR M a0 5)).1 = 12 ∧ ((zsh M (zR M (zR M a0 5) 1)).1 = 6 ∧ (zin a2 (zsh M (zR M (zR M a0 5) 1)).2 ∧ (let r3_1 : Nat := zR M (zR M (zR M a0 5) 1) a2.toNatClampNeg
(zsh M r3_1).1 = 11 ∧ ((zsh M a0).1 = 15 ∧ (ycI d nX7_sumUp [.ref a0, .ref (zR M r3_1 1)] M fun c3 M2 => ((¬ c3 = 0 → ((zsh M2 a0).1 = 15 ∧ ((zsh M2 r3_1).1 = 11 ∧ ((zsh M2 (zR M2 a0 11)).1 = 14 ∧ (ycI d nX6_isLike [.ref (zR M2 a0 11), .ref (zR M2 r3_1 0)] M2 fun c5 M4 => ((¬ c5 = 0 → (let v2_6 : Int32 := a2 + 1
wX7_check d Q 9 [some (.ref a0), some (.int a1), some (.int v2_6), some (.ref r3_1)] [] M4)) ∧ (¬ (¬ c5 = 0) → (let v2_7 : Int32 := a2 + 1
wX7_check d Q 9 [some (.ref a0), some (.int ((0 : Int32))), some (.int v2_7), some (.ref r3_1)] [] M4)))))))) ∧ (¬ (¬ c3 = 0) → (Q [.int (((-7) : Int32))] M2)))))))))))))
) : wX7_check d Q 9 [some (.ref a0), some (.int a1), some (.int a2), o3] [] M := zseg (zCl_good gTb d) (fun j => j == 9) 37 h
abbrev wX7_radical (d : Nat) (Q : List Value → zM → Prop) : Nat → zLv → List Value → zM → Prop := zW (zCl gTb d) 1 kX7_radical Q
theorem en_X7_radical {d : Nat} {Q : List Value → zM → Prop} (a0 : Nat) (a1 : Int32) (a2 : Int32) (M : zM) (h : wX7_radical d Q 0 [some (.ref a0), some (.int a1), some (.int a2), none, none] [] M) : zCl gTb (d + 1) nX7_radical [.ref a0, .int a1, .int a2] M Q := ⟨Nat.le_of_ble_eq_true rfl, h⟩
set_option maxRecDepth 100000 in
set_option maxHeartbeats 4000000 in
/-- from place 0 -/
theorem sg_X7_radical_0 {d : Nat} {Q : List Value → zM → Prop} (a0 : Nat) (a1 : Int32) (a2 : Int32) (M : zM) (h :
ycI d nX7_isPlace [.int a1] M fun c2 M1 => ((¬ c2 = 0 → ((a2 < 0 → (Q [.int (((-2) : Int32))] M1)) ∧ (¬ (a2 < 0) → ((a2 ≤ ((20000 : Int32)) → ((zsh M1 a0).1 = 15 ∧ (((zI M1 a0 0) < ((4 : Int32)) → ((zsh M1 a0).1 = 15 ∧ ((zsh M1 a0).1 = 15 ∧ ((zsh M1 (zR M1 a0 3)).1 = 5 ∧ (zin (zI M1 a0 4) (zsh M1 (zR M1 a0 3)).2 ∧ (let r3_3 : Nat := zR M1 (zR M1 a0 3) (zI M1 a0 4).toNatClampNeg
(zsh M1 r3_3).1 = 14 ∧ (ycV d nX6_empty [.ref r3_3] M1 fun M4 => ((zsh M4 r3_3).1 = 14 ∧ (ycI d nX6_come [.ref r3_3, .long ((4294967297 : Int64)), .int ((0 : Int32))] M4 fun c6 M5 => ((c6 = 0 → (Q [.int (((-7) : Int32))] M5)) ∧ (¬ (c6 = 0) → ((zsh M5 a0).1 = 15 ∧ (ycI d nX4_single [.int (zI M5 a0 0)] M5 fun c8 M7 => ((zsh M7 a0).1 = 15 ∧ ((zsh M7 (zR M7 a0 2)).1 = 5 ∧ (zin a1 (zsh M7 (zR M7 a0 2)).2 ∧ ((zsh M7 r3_3).1 = 14 ∧ (ycI d nX6_addMultiple [.ref r3_3, .long (((-4294967295) : Int64)), .int c8, .ref (zR M7 (zR M7 a0 2) a1.toNatClampNeg)] M7 fun c10 M9 => ((¬ c10 = 0 → ((zsh M9 a0).1 = 15 ∧ ((zsh M9 a0).1 = 15 ∧ ((zsh M9 a0).1 = 15 ∧ ((zsh M9 a0).1 = 15 ∧ ((zsh M9 (zR M9 a0 7)).1 = 12 ∧ (ycI d nX3_build [.ref (zR M9 a0 7), .ref (zR M9 a0 3), .int ((zI M9 a0 4) + ((1 : Int32))), .int ((0 : Int32)), .ref (zR M9 a0 8), .int a2] M9 fun c12 M11 => ((c12 = 0 → ((zsh M11 a0).1 = 15 ∧ ((zsh M11 (zR M11 a0 7)).1 = 12 ∧ (ycI d nX3_isWhole [.ref (zR M11 a0 7)] M11 fun c14 M13 => ((c14 = 0 → (Q [.int ((0 : Int32))] M13)) ∧ (¬ (c14 = 0) → (Q [.int ((1 : Int32))] M13))))))) ∧ (¬ (c12 = 0) → (Q [.int c12] M11)))))))))) ∧ (¬ (¬ c10 = 0) → (Q [.int (((-7) : Int32))] M9))))))))))))))))))))) ∧ (¬ ((zI M1 a0 0) < ((4 : Int32))) → (Q [.int (((-3) : Int32))] M1))))) ∧ (¬ (a2 ≤ ((20000 : Int32))) → (Q [.int (((-2) : Int32))] M1)))))) ∧ (¬ (¬ c2 = 0) → (Q [.int (((-1) : Int32))] M1)))
) : wX7_radical d Q 0 [some (.ref a0), some (.int a1), some (.int a2), none, none] [] M := zseg (zCl_good gTb d) (fun _ => false) 80 h
abbrev wX7_free (d : Nat) (Q : List Value → zM → Prop) : Nat → zLv → List Value → zM → Prop := zW (zCl gTb d) 1 kX7_free Q
theorem en_X7_free {d : Nat} {Q : List Value → zM → Prop} (a0 : Nat) (a1 : Int32) (M : zM) (h : wX7_free d Q 0 [some (.ref a0), some (.int a1), none, none] [] M) : zCl gTb (d + 1) nX7_free [.ref a0, .int a1] M Q := ⟨Nat.le_of_ble_eq_true rfl, h⟩
set_option maxRecDepth 100000 in
set_option maxHeartbeats 4000000 in
/-- from place 0 -/
theorem sg_X7_free_0 {d : Nat} {Q : List Value → zM → Prop} (a0 : Nat) (a1 : Int32) (M : zM) (h :
(a1 < 0 → (Q [.int (((-2) : Int32))] M)) ∧ (¬ (a1 < 0) → ((zsh M a0).1 = 15 ∧ ((a1 ≤ (zI M a0 0) → ((zsh M a0).1 = 15 ∧ ((¬ (zI M a0 6) = 0 → (wX7_free d Q 17 [some (.ref a0), some (.int a1), some (.int ((0 : Int32))), some (.int ((0 : Int32)))] [] M)) ∧ (¬ (¬ (zI M a0 6) = 0) → (Q [.int (((-3) : Int32))] M))))) ∧ (¬ (a1 ≤ (zI M a0 0)) → (Q [.int (((-2) : Int32))] M)))))
) : wX7_free d Q 0 [some (.ref a0), some (.int a1), none, none] [] M := zseg (zCl_good gTb d) (fun j => j == 17) 24 h
set_option maxRecDepth 100000 in
set_option maxHeartbeats 4000000 in
/-- from place 17 -/
theorem sg_X7_free_17 {d : Nat} {Q : List Value → zM → Prop} (a0 : Nat) (a1 : Int32) (a2 : Int32) (a3 : Int32) (M : zM) (h :
(zsh M a0).1 = 15 ∧ ((zsh M (zR M a0 5)).1 = 12 ∧ (((zI M (zR M a0 5) 2) ≤ a3 → (Q [.int a2] M)) ∧ (¬ ((zI M (zR M a0 5) 2) ≤ a3) → ((zsh M a0).1 = 15 ∧ ((zsh M (zR M a0 5)).1 = 12 ∧ ((zsh M (zR M (zR M a0 5) 1)).1 = 6 ∧ (zin a3 (zsh M (zR M (zR M a0 5) 1)).2 ∧ ((zsh M (zR M (zR M (zR M a0 5) 1) a3.toNatClampNeg)).1 = 11 ∧ ((zsh M (zR M (zR M (zR M (zR M a0 5) 1) a3.toNatClampNeg) 0)).1 = 14 ∧ (ycI d nX6_isWithout [.ref (zR M (zR M (zR M (zR M a0 5) 1) a3.toNatClampNeg) 0), .int a1] M fun c2 M1 => ((c2 = 0 → (let v3_3 : Int32 := a3 + 1
wX7_free d Q 17 [some (.ref a0), some (.int a1), some (.int a2), some (.int v3_3)] [] M1)) ∧ (¬ (c2 = 0) → (let v2_4 : Int32 := a2 + 1
let v3_5 : Int32 := a3 + 1
wX7_free d Q 17 [some (.ref a0), some (.int a1), some (.int v2_4), some (.int v3_5)] [] M1)))))))))))))
) : wX7_free d Q 17 [some (.ref a0), some (.int a1), some (.int a2), some (.int a3)] [] M := zseg (zCl_good gTb d) (fun j => j == 17) 26 h
abbrev wX7_stairs (d : Nat) (Q : List Value → zM → Prop) : Nat → zLv → List Value → zM → Prop := zW (zCl gTb d) 1 kX7_stairs Q
theorem en_X7_stairs {d : Nat} {Q : List Value → zM → Prop} (a0 : Nat) (M : zM) (h : wX7_stairs d Q 0 [some (.ref a0)] [] M) : zCl gTb (d + 1) nX7_stairs [.ref a0] M Q := ⟨Nat.le_of_ble_eq_true rfl, h⟩
set_option maxRecDepth 100000 in
set_option maxHeartbeats 4000000 in
/-- from place 0 -/
theorem sg_X7_stairs_0 {d : Nat} {Q : List Value → zM → Prop} (a0 : Nat) (M : zM) (h :
(zsh M a0).1 = 15 ∧ (((zI M a0 6) = 0 → (Q [.int (((-3) : Int32))] M)) ∧ (¬ ((zI M a0 6) = 0) → ((zsh M a0).1 = 15 ∧ ((zsh M a0).1 = 15 ∧ ((zsh M (zR M a0 5)).1 = 12 ∧ (ycI d nX3_countBelow [.ref (zR M a0 5), .int (zI M a0 0)] M fun c2 M1 => (Q [.int c2] M1)))))))
) : wX7_stairs d Q 0 [some (.ref a0)] [] M := zseg (zCl_good gTb d) (fun _ => false) 17 h
abbrev wX7_isPlace (d : Nat) (Q : List Value → zM → Prop) : Nat → zLv → List Value → zM → Prop := zW (zCl gTb d) 2 kX7_isPlace Q
theorem en_X7_isPlace {d : Nat} {Q : List Value → zM → Prop} (a0 : Int32) (M : zM) (h : wX7_isPlace d Q 0 [some (.int a0)] [] M) : zCl gTb (d + 1) nX7_isPlace [.int a0] M Q := ⟨Nat.le_of_ble_eq_true rfl, h⟩
set_option maxRecDepth 100000 in
set_option maxHeartbeats 4000000 in
/-- from place 0 -/
theorem sg_X7_isPlace_0 {d : Nat} {Q : List Value → zM → Prop} (a0 : Int32) (M : zM) (h :
(a0 < 0 → (zb ((0 : Int32)) ∧ (Q [.int ((0 : Int32))] M))) ∧ (¬ (a0 < 0) → ((((40 : Int32)) ≤ a0 → (zb ((0 : Int32)) ∧ (Q [.int ((0 : Int32))] M))) ∧ (¬ (((40 : Int32)) ≤ a0) → (zb ((1 : Int32)) ∧ (Q [.int ((1 : Int32))] M)))))
) : wX7_isPlace d Q 0 [some (.int a0)] [] M := zseg (zCl_good gTb d) (fun _ => false) 17 h
abbrev wX7_isLarge (d : Nat) (Q : List Value → zM → Prop) : Nat → zLv → List Value → zM → Prop := zW (zCl gTb d) 2 kX7_isLarge Q
theorem en_X7_isLarge {d : Nat} {Q : List Value → zM → Prop} (a0 : Int32) (a1 : Int32) (M : zM) (h : wX7_isLarge d Q 0 [some (.int a0), some (.int a1)] [] M) : zCl gTb (d + 1) nX7_isLarge [.int a0, .int a1] M Q := ⟨Nat.le_of_ble_eq_true rfl, h⟩
set_option maxRecDepth 100000 in
set_option maxHeartbeats 4000000 in
/-- from place 0 -/
theorem sg_X7_isLarge_0 {d : Nat} {Q : List Value → zM → Prop} (a0 : Int32) (a1 : Int32) (M : zM) (h :
(a1 < a0 → (zb ((1 : Int32)) ∧ (Q [.int ((1 : Int32))] M))) ∧ (¬ (a1 < a0) → (((-a1) ≤ a0 → (zb ((0 : Int32)) ∧ (Q [.int ((0 : Int32))] M))) ∧ (¬ ((-a1) ≤ a0) → (zb ((1 : Int32)) ∧ (Q [.int ((1 : Int32))] M)))))
) : wX7_isLarge d Q 0 [some (.int a0), some (.int a1)] [] M := zseg (zCl_good gTb d) (fun _ => false) 20 h
abbrev wX7_isTold (d : Nat) (Q : List Value → zM → Prop) : Nat → zLv → List Value → zM → Prop := zW (zCl gTb d) 2 kX7_isTold Q
theorem en_X7_isTold {d : Nat} {Q : List Value → zM → Prop} (a0 : Nat) (a1 : Int32) (M : zM) (h : wX7_isTold d Q 0 [some (.ref a0), some (.int a1), none] [] M) : zCl gTb (d + 1) nX7_isTold [.ref a0, .int a1] M Q := ⟨Nat.le_of_ble_eq_true rfl, h⟩
set_option maxRecDepth 100000 in
set_option maxHeartbeats 4000000 in
/-- from place 0 -/
theorem sg_X7_isTold_0 {d : Nat} {Q : List Value → zM → Prop} (a0 : Nat) (a1 : Int32) (M : zM) (h :
ycI d nX4_isInside [.int a1] M fun c2 M1 => ((¬ c2 = 0 → ((zsh M1 a0).1 = 15 ∧ (let v2_3 : Int32 := zI M1 a0 0
wX7_isTold d Q 8 [some (.ref a0), some (.int a1), some (.int v2_3)] [] M1))) ∧ (¬ (¬ c2 = 0) → (zb ((0 : Int32)) ∧ (Q [.int ((0 : Int32))] M1))))
) : wX7_isTold d Q 0 [some (.ref a0), some (.int a1), none] [] M := zseg (zCl_good gTb d) (fun j => j == 8) 13 h
set_option maxRecDepth 100000 in
set_option maxHeartbeats 4000000 in
/-- from place 8 -/
theorem sg_X7_isTold_8 {d : Nat} {Q : List Value → zM → Prop} (o0 : Option Value) (a1 : Int32) (a2 : Int32) (M : zM) (h :
(((4 : Int32)) ≤ a2 → (zb ((1 : Int32)) ∧ (Q [.int ((1 : Int32))] M))) ∧ (¬ (((4 : Int32)) ≤ a2) → (ycI d nX4_exponent [.int a1, .int a2] M fun c2 M1 => ((c2 = 0 → (let v2_3 : Int32 := a2 + 1
wX7_isTold d Q 8 [o0, some (.int a1), some (.int v2_3)] [] M1)) ∧ (¬ (c2 = 0) → (zb ((0 : Int32)) ∧ (Q [.int ((0 : Int32))] M1))))))
) : wX7_isTold d Q 8 [o0, some (.int a1), some (.int a2)] [] M := zseg (zCl_good gTb d) (fun j => j == 8) 18 h
abbrev wX7_isElement (d : Nat) (Q : List Value → zM → Prop) : Nat → zLv → List Value → zM → Prop := zW (zCl gTb d) 2 kX7_isElement Q
theorem en_X7_isElement {d : Nat} {Q : List Value → zM → Prop} (a0 : Nat) (a1 : Int32) (M : zM) (h : wX7_isElement d Q 0 [some (.ref a0), some (.int a1)] [] M) : zCl gTb (d + 1) nX7_isElement [.ref a0, .int a1] M Q := ⟨Nat.le_of_ble_eq_true rfl, h⟩
set_option maxRecDepth 100000 in
set_option maxHeartbeats 4000000 in
/-- from place 0 -/
theorem sg_X7_isElement_0 {d : Nat} {Q : List Value → zM → Prop} (a0 : Nat) (a1 : Int32) (M : zM) (h :
(a1 < 0 → (zb ((0 : Int32)) ∧ (Q [.int ((0 : Int32))] M))) ∧ (¬ (a1 < 0) → ((zsh M a0).1 = 15 ∧ ((zsh M (zR M a0 5)).1 = 12 ∧ (((zI M (zR M a0 5) 2) ≤ a1 → (zb ((0 : Int32)) ∧ (Q [.int ((0 : Int32))] M))) ∧ (¬ ((zI M (zR M a0 5) 2) ≤ a1) → (zb ((1 : Int32)) ∧ (Q [.int ((1 : Int32))] M)))))))
) : wX7_isElement d Q 0 [some (.ref a0), some (.int a1)] [] M := zseg (zCl_good gTb d) (fun _ => false) 19 h
abbrev wX7_isGenerator (d : Nat) (Q : List Value → zM → Prop) : Nat → zLv → List Value → zM → Prop := zW (zCl gTb d) 2 kX7_isGenerator Q
theorem en_X7_isGenerator {d : Nat} {Q : List Value → zM → Prop} (a0 : Nat) (a1 : Int32) (M : zM) (h : wX7_isGenerator d Q 0 [some (.ref a0), some (.int a1)] [] M) : zCl gTb (d + 1) nX7_isGenerator [.ref a0, .int a1] M Q := ⟨Nat.le_of_ble_eq_true rfl, h⟩
set_option maxRecDepth 100000 in
set_option maxHeartbeats 4000000 in
/-- from place 0 -/
theorem sg_X7_isGenerator_0 {d : Nat} {Q : List Value → zM → Prop} (a0 : Nat) (a1 : Int32) (M : zM) (h :
(a1 < 0 → (zb ((0 : Int32)) ∧ (Q [.int ((0 : Int32))] M))) ∧ (¬ (a1 < 0) → ((zsh M a0).1 = 15 ∧ (((zI M a0 4) ≤ a1 → (zb ((0 : Int32)) ∧ (Q [.int ((0 : Int32))] M))) ∧ (¬ ((zI M a0 4) ≤ a1) → (zb ((1 : Int32)) ∧ (Q [.int ((1 : Int32))] M))))))
) : wX7_isGenerator d Q 0 [some (.ref a0), some (.int a1)] [] M := zseg (zCl_good gTb d) (fun _ => false) 18 h
abbrev wX7_put (d : Nat) (Q : List Value → zM → Prop) : Nat → zLv → List Value → zM → Prop := zW (zCl gTb d) 1 kX7_put Q
theorem en_X7_put {d : Nat} {Q : List Value → zM → Prop} (a0 : Nat) (a1 : Nat) (a2 : Int32) (M : zM) (h : wX7_put d Q 0 [some (.ref a0), some (.ref a1), some (.int a2)] [] M) : zCl gTb (d + 1) nX7_put [.ref a0, .ref a1, .int a2] M Q := ⟨Nat.le_of_ble_eq_true rfl, h⟩
set_option maxRecDepth 100000 in
set_option maxHeartbeats 4000000 in
/-- from place 0 -/
theorem sg_X7_put_0 {d : Nat} {Q : List Value → zM → Prop} (a0 : Nat) (a1 : Nat) (a2 : Int32) (M : zM) (h :
(zsh M a0).1 = 15 ∧ ((zsh M (zR M a0 2)).1 = 5 ∧ (zin a2 (zsh M (zR M a0 2)).2 ∧ ((zsh M (zR M (zR M a0 2) a2.toNatClampNeg)).1 = 14 ∧ (ycV d nX6_become [.ref (zR M (zR M a0 2) a2.toNatClampNeg), .ref a1] M fun M1 => ((zsh M1 a1).1 = 14 ∧ (Q [.int (zI M1 a1 4)] M1))))))
) : wX7_put d Q 0 [some (.ref a0), some (.ref a1), some (.int a2)] [] M := zseg (zCl_good gTb d) (fun _ => false) 14 h
abbrev wX7_forgetBasis (d : Nat) (Q : List Value → zM → Prop) : Nat → zLv → List Value → zM → Prop := zW (zCl gTb d) 0 kX7_forgetBasis Q
theorem en_X7_forgetBasis {d : Nat} {Q : List Value → zM → Prop} (a0 : Nat) (M : zM) (h : wX7_forgetBasis d Q 0 [some (.ref a0)] [] M) : zCl gTb (d + 1) nX7_forgetBasis [.ref a0] M Q := ⟨Nat.le_of_ble_eq_true rfl, h⟩
set_option maxRecDepth 100000 in
set_option maxHeartbeats 4000000 in
/-- from place 0 -/
theorem sg_X7_forgetBasis_0 {d : Nat} {Q : List Value → zM → Prop} (a0 : Nat) (M : zM) (h :
(zsh M a0).1 = 15 ∧ (zb ((0 : Int32)) ∧ (let M1 : zM := zuI M a0 6 ((0 : Int32))
(zsh M a0).1 = 15 ∧ (zb ((0 : Int32)) ∧ (let M2 : zM := zuI M1 a0 10 ((0 : Int32))
Q [] M2))))
) : wX7_forgetBasis d Q 0 [some (.ref a0)] [] M := zseg (zCl_good gTb d) (fun _ => false) 12 h
abbrev wX7_sumUp (d : Nat) (Q : List Value → zM → Prop) : Nat → zLv → List Value → zM → Prop := zW (zCl gTb d) 2 kX7_sumUp Q
theorem en_X7_sumUp {d : Nat} {Q : List Value → zM → Prop} (a0 : Nat) (a1 : Nat) (M : zM) (h : wX7_sumUp d Q 0 [some (.ref a0), some (.ref a1), none] [] M) : zCl gTb (d + 1) nX7_sumUp [.ref a0, .ref a1] M Q := ⟨Nat.le_of_ble_eq_true rfl, h⟩
set_option maxRecDepth 100000 in
set_option maxHeartbeats 4000000 in
/-- from place 0 -/
theorem sg_X7_sumUp_0 {d : Nat} {Q : List Value → zM → Prop} (a0 : Nat) (a1 : Nat) (M : zM) (h :
(zsh M a0).1 = 15 ∧ ((zsh M (zR M a0 11)).1 = 14 ∧ (ycV d nX6_empty [.ref (zR M a0 11)] M fun M1 => (wX7_sumUp d Q 5 [some (.ref a0), some (.ref a1), some (.int ((0 : Int32)))] [] M1)))
) : wX7_sumUp d Q 0 [some (.ref a0), some (.ref a1), none] [] M := zseg (zCl_good gTb d) (fun j => j == 5) 10 h
set_option maxRecDepth 100000 in
set_option maxHeartbeats 4000000 in
/-- from place 5 -/
theorem sg_X7_sumUp_5 {d : Nat} {Q : List Value → zM → Prop} (a0 : Nat) (a1 : Nat) (a2 : Int32) (M : zM) (h :
(zsh M a0).1 = 15 ∧ (((zI M a0 4) ≤ a2 → (zb ((1 : Int32)) ∧ (Q [.int ((1 : Int32))] M))) ∧ (¬ ((zI M a0 4) ≤ a2) → ((zsh M a0).1 = 15 ∧ ((zsh M a1).1 = 5 ∧ (zin a2 (zsh M a1).2 ∧ ((zsh M a0).1 = 15 ∧ ((zsh M (zR M a0 3)).1 = 5 ∧ (zin a2 (zsh M (zR M a0 3)).2 ∧ ((zsh M (zR M a0 12)).1 = 14 ∧ (ycI d nX6_becomeProduct [.ref (zR M a0 12), .ref (zR M a1 a2.toNatClampNeg), .ref (zR M (zR M a0 3) a2.toNatClampNeg)] M fun c2 M1 => ((c2 = 0 → (zb ((0 : Int32)) ∧ (Q [.int ((0 : Int32))] M1))) ∧ (¬ (c2 = 0) → ((zsh M1 a0).1 = 15 ∧ ((zsh M1 a0).1 = 15 ∧ ((zsh M1 (zR M1 a0 11)).1 = 14 ∧ (ycI d nX6_addMultiple [.ref (zR M1 a0 11), .long ((4294967297 : Int64)), .int ((0 : Int32)), .ref (zR M1 a0 12)] M1 fun c4 M3 => ((¬ c4 = 0 → (let v2_5 : Int32 := a2 + 1
wX7_sumUp d Q 5 [some (.ref a0), some (.ref a1), some (.int v2_5)] [] M3)) ∧ (¬ (¬ c4 = 0) → (zb ((0 : Int32)) ∧ (Q [.int ((0 : Int32))] M3))))))))))))))))))))
) : wX7_sumUp d Q 5 [some (.ref a0), some (.ref a1), some (.int a2)] [] M := zseg (zCl_good gTb d) (fun j => j == 5) 36 h
end
section
/-! THE DOCUMENT'S CALLS: a state, and what each call answers and leaves -/
abbrev aX : Type := Nat × Nat × List aP × List aP × Bool × List aE × (Nat × Nat × Nat × Nat) × Bool × List aP
def xn (s : aX) : Nat := s.1
def xk (s : aX) : Nat := s.2.1
def xpl (s : aX) : List aP := s.2.2.1
def xgs (s : aX) : List aP := s.2.2.2.1
def xhs (s : aX) : Bool := s.2.2.2.2.1
def xes (s : aX) : List aE := s.2.2.2.2.2.1
def xdn (s : aX) : Nat × Nat × Nat × Nat := s.2.2.2.2.2.2.1
def xpv (s : aX) : Bool := s.2.2.2.2.2.2.2.1
def xqs (s : aX) : List aP := s.2.2.2.2.2.2.2.2
def ipl (p : Int32) : Bool := decide (0 ≤ p.toInt ∧ p.toInt < 40)
def idx (p : Int32) (n : Nat) : Bool := decide (0 ≤ p.toInt ∧ p.toInt < n)
def xat (s : aX) (p : Int32) : aP := (xpl s).getD p.toNatClampNeg []
def xput (s : aX) (r : Int32) (L : aP) : aX := (xn s, xk s, (xpl s).set r.toNatClampNeg L, xgs s, xhs s, xes s, xdn s, xpv s, xqs s)
def xgen (s : aX) (gs : List aP) : aX := (xn s, xk s, xpl s, gs, false, [], xdn s, false, [])
def xdone (s : aX) (d : Nat × Nat × Nat × Nat) : aX := (xn s, xk s, xpl s, xgs s, false, [], d, false, [])
def xstand (s : aX) (es : List aE) (d : Nat × Nat × Nat × Nat) : aX := (xn s, xk s, xpl s, xgs s, true, es, d, false, [])
def xprove (s : aX) (b : Bool) (qs : List aP) : aX := (xn s, xk s, xpl s, xgs s, xhs s, xes s, xdn s, b, qs)
/-- the four bytes of an int -/
def b4 (x : Int32) : aM := (x.toBitVec.toNat % 256, x.toBitVec.toNat / 256 % 256, x.toBitVec.toNat / 65536 % 256, x.toBitVec.toNat / 16777216)
theorem b4_by (x : Int32) : mby (b4 x) := by
  have hl := x.toBitVec.isLt
  unfold mby b4
  dsimp only
  omega
theorem b4_e8 (x : Int32) : e8 (b4 x) = x := by
  have hl := x.toBitVec.isLt
  apply Int32.toBitVec_inj.mp
  apply BitVec.eq_of_toNat_eq
  rw [tn_e8 (b4_by x)]
  unfold c8 b4
  dsimp only
  omega
/-- exponents of the variables that there are -/
def vin (n : Nat) (m : aM) : Prop := (n ≤ 0 → m.1 = 0) ∧ (n ≤ 1 → m.2.1 = 0) ∧ (n ≤ 2 → m.2.2.1 = 0) ∧ (n ≤ 3 → m.2.2.2 = 0)
def atold (n : Nat) (m : aM) : Bool := decide ((m.1 ≤ 30 ∧ m.2.1 ≤ 30 ∧ m.2.2.1 ≤ 30 ∧ m.2.2.2 ≤ 30) ∧ (n ≤ 0 → m.1 = 0) ∧ (n ≤ 1 → m.2.1 = 0) ∧ (n ≤ 2 → m.2.2.1 = 0) ∧ (n ≤ 3 → m.2.2.2 = 0))
theorem atold_iff {n : Nat} {m : aM} : atold n m = true ↔ mok m ∧ vin n m := decide_eq_true_iff
def alg (a : Int32) (n : Int) : Bool := decide (n < a.toInt ∨ a.toInt < -n)
def A_variables (s : aX) : Int32 × aX := (nI (xn s), s)
def A_order (s : aX) (a : Int32) : Int32 × aX := if idx a 3 = true then (nI (xk s), (xn s, a.toNatClampNeg, (xpl s).map (fun L => asrt a.toNatClampNeg L []), (xgs s).map (fun L => asrt a.toNatClampNeg L []), false, [], xdn s, false, [])) else (-2, s)
def A_term (s : aX) (p a b w : Int32) : Int32 × aX := if ipl p = true then (if alg a 1000000000 = true ∨ alg b 1000000000 = true ∨ b = 0 ∨ atold (xn s) (b4 w) = false then (-2, s) else
  if a = 0 then (nI (xat s p).length, s) else match alow (if b.toInt < 0 then -a.toInt else a.toInt) (if b.toInt < 0 then -b.toInt else b.toInt) with
    | none => (-7, s)
    | some f => match acome (xk s) (f, b4 w) (xat s p) with
      | none => (-7, s)
      | some L => (nI L.length, xput s p L)) else (-1, s)
def A_zero (s : aX) (p : Int32) : Int32 × aX := if ipl p = true then (nI (xat s p).length, xput s p []) else (-1, s)
def A_size (s : aX) (p : Int32) : Int32 × aX := if ipl p = true then (nI (xat s p).length, s) else (-1, s)
def A_told (s : aX) (p i w : Int32) : Int32 × aX := if ipl p = true ∧ idx i (xat s p).length = true then
    (if w.toInt = 0 then (Int32.ofInt ((xat s p).getD i.toNatClampNeg ((0, 1), mone)).1.1, s) else if w.toInt = 1 then (Int32.ofInt ((xat s p).getD i.toNatClampNeg ((0, 1), mone)).1.2, s) else if w.toInt = 2 then (e8 ((xat s p).getD i.toNatClampNeg ((0, 1), mone)).2, s) else (-2, s)) else (-1, s)
def A_plus (s : aX) (p q r : Int32) : Int32 × aX := if ipl p = true ∧ ipl q = true ∧ ipl r = true then (match aadds (xk s) (1, 1) mone (xat s q) (xat s p) with
    | none => (-7, s)
    | some f => (nI f.length, xput s r f)) else (-1, s)
def A_times (s : aX) (p q r : Int32) : Int32 × aX := if ipl p = true ∧ ipl q = true ∧ ipl r = true then (match aprod (xk s) (xat s q) (xat s p) [] with
    | none => (-7, s)
    | some f => (nI f.length, xput s r f)) else (-1, s)
def A_same (s : aX) (p q : Int32) : Int32 × aX := if ipl p = true ∧ ipl q = true then (if xat s p = xat s q then (1, s) else (0, s)) else (-1, s)
def xpt (a b c d : Int32) : Nat → Int
  | 0 => a.toInt
  | 1 => b.toInt
  | 2 => c.toInt
  | _ => d.toInt
def A_vanishes (s : aX) (p a b c d : Int32) : Int32 × aX := if ipl p = true then (if (List.range (xn s)).any (fun v => decide (1000 < xpt a b c d v ∨ xpt a b c d v < -1000)) = true then (-2, s) else
  match aval (xpt a b c d) (xn s) (xat s p) (0, 1) with
    | none => (-7, s)
    | some f => if f.1 = 0 then (1, s) else (0, s)) else (-1, s)
def A_generator (s : aX) (p : Int32) : Int32 × aX := if ipl p = true then (if 8 ≤ (xgs s).length then (-4, s) else (nI (xgs s).length, xgen s (xgs s ++ [xat s p]))) else (-1, s)
def A_clear (s : aX) : Int32 × aX := (nI (xgs s).length, xgen s [])
def xnum (lim : Nat) (x : Nat × List aE × Nat × Nat × Nat × Nat) : Nat × Nat × Nat × Nat := (lim - x.2.2.1, x.2.2.2.1, x.2.2.2.2.1, x.2.2.2.2.2)
def A_basis (s : aX) (l : Int32) : Int32 × aX := if idx l 20001 = true then
    (if (abuild (xk s) (xgs s).length l.toNatClampNeg (xgs s)).1 = 0 then (nI (abuild (xk s) (xgs s).length l.toNatClampNeg (xgs s)).2.1.length, xstand s (abuild (xk s) (xgs s).length l.toNatClampNeg (xgs s)).2.1 (xnum l.toNatClampNeg (abuild (xk s) (xgs s).length l.toNatClampNeg (xgs s))))
      else (ecode (abuild (xk s) (xgs s).length l.toNatClampNeg (xgs s)).1, xdone s (xnum l.toNatClampNeg (abuild (xk s) (xgs s).length l.toNatClampNeg (xgs s))))) else (-2, s)
def A_done (s : aX) (w : Int32) : Int32 × aX := if w.toInt = 0 then (nI (xdn s).1, s) else if w.toInt = 1 then (nI (xdn s).2.1, s) else if w.toInt = 2 then (nI (xdn s).2.2.1, s) else if w.toInt = 3 then (nI (xdn s).2.2.2, s) else (-2, s)
def xel (s : aX) (i : Int32) : aE := (xes s).getD i.toNatClampNeg aE0
def A_element (s : aX) (i r : Int32) : Int32 × aX := if xhs s = true then (if idx i (xes s).length = true ∧ ipl r = true then (nI (xel s i).1.length, xput s r (xel s i).1) else (-1, s)) else (-3, s)
def A_share (s : aX) (i g r : Int32) : Int32 × aX := if xhs s = true then (if idx i (xes s).length = true ∧ idx g (xgs s).length = true ∧ ipl r = true then (nI ((xel s i).2.getD g.toNatClampNeg []).length, xput s r ((xel s i).2.getD g.toNatClampNeg [])) else (-1, s)) else (-3, s)
def xdv (s : aX) (p : Int32) : Nat × Nat × aP × List aP := adiv (xk s) ((xes s).map Prod.fst) none 5000 (xat s p) [] (List.replicate (xes s).length [])
def A_divide (s : aX) (p r : Int32) : Int32 × aX := if ipl p = true ∧ ipl r = true then (if xhs s = true then (if (xdv s p).1 = 0 then (if (xdv s p).2.2.1.length = 0 then (1, xprove (xput s r (xdv s p).2.2.1) true (xdv s p).2.2.2) else (0, xprove (xput s r (xdv s p).2.2.1) false (xdv s p).2.2.2)) else (ecode (xdv s p).1, s)) else (-3, s)) else (-1, s)
def A_certificate (s : aX) (g r : Int32) : Int32 × aX := if xhs s = true ∧ xpv s = true then (if idx g (xgs s).length = true ∧ ipl r = true then (match als (xk s) false g.toNatClampNeg (xes s) (xqs s) [] (xes s).length with
    | none => (-7, s)
    | some f => (nI f.length, xput s r f)) else (-1, s)) else (-3, s)
/-- the sum of cofactors TIMES generators -/
def asmu (k : Nat) (gs cs : List aP) : Nat → Option aP
  | 0 => some []
  | g + 1 => match asmu k gs cs g with
    | none => none
    | some f => match aprod k (gs.getD g []) (cs.getD g []) [] with
      | none => none
      | some p => aadds k (1, 1) mone p f
def achk (k : Nat) (gs : List aP) (es : List aE) : Nat → Option Bool
  | 0 => some true
  | i + 1 => match achk k gs es i with
    | none => none
    | some b => match asmu k gs (es.getD i aE0).2 gs.length with
      | none => none
      | some f => some (b && decide (f = (es.getD i aE0).1))
def A_check (s : aX) : Int32 × aX := if xhs s = true then (match achk (xk s) (xgs s) (xes s) (xes s).length with
    | none => (-7, s)
    | some b => if b = true then (1, s) else (0, s)) else (-3, s)
def xrad (s : aX) (p : Int32) : Option aP := aadds (xk s) (-1, 1) (munit (xn s)) (xat s p) [((1, 1), mone)]
def awhb (es : List aE) : Bool := decide (es.length = 1 ∧ ald es 0 = mone)
theorem awhb_iff {es : List aE} : awhb es = true ↔ awhole es := decide_eq_true_iff
def A_radical (s : aX) (p l : Int32) : Int32 × aX := if ipl p = true then (if idx l 20001 = true then (if 4 ≤ xn s then (-3, s) else match xrad s p with
    | none => (-7, s)
    | some g => if (abuild (xk s) 0 l.toNatClampNeg (xgs s ++ [g])).1 = 0 then (if awhb (abuild (xk s) 0 l.toNatClampNeg (xgs s ++ [g])).2.1 = true then (1, s) else (0, s)) else (ecode (abuild (xk s) 0 l.toNatClampNeg (xgs s ++ [g])).1, s)) else (-2, s)) else (-1, s)
/-- free of the first variables -/
def afr (n : Nat) (L : aP) : Bool := L.all fun t => (List.range n).all fun v => aex t.2 v == 0
def afrs (n : Nat) (es : List aE) : Nat → Nat
  | 0 => 0
  | i + 1 => if afr n (es.getD i aE0).1 = true then afrs n es i + 1 else afrs n es i
def A_free (s : aX) (g : Int32) : Int32 × aX := if idx g (xn s + 1) = true then (if xhs s = true then (nI (afrs g.toNatClampNeg (xes s) (xes s).length), s) else (-3, s)) else (-2, s)
def A_stairs (s : aX) : Int32 × aX := if xhs s = true then ((match astairs (xes s) (xn s) with
    | none => -8
    | some x => nI x), s) else (-3, s)
/-- what is so in every state -/
def xok (s : aX) : Prop := (1 ≤ xn s ∧ xn s ≤ 4) ∧ xk s ≤ 2 ∧ ((xpl s).length = 40 ∧ ∀ L ∈ xpl s, pok (xk s) L) ∧ ((xgs s).length ≤ 8 ∧ ∀ L ∈ xgs s, pok (xk s) L) ∧ (xhs s = true → iok (xk s) (xgs s).length (xes s) ∧ (xes s).length ≤ 24) ∧ (xhs s = true → xpv s = true → (xqs s).length = (xes s).length ∧ ∀ q ∈ xqs s, pok (xk s) q)
/-! how the class's memory holds a state -/
def eB (b : Bool) : Int32 := cond b 1 0
def xS (M : zM) (D F : Nat) (e e2 : Nat → Nat) : Prop := ((zsh M 2).1 = 15 ∧ (zsh M 3).1 = 13) ∧ (zR M 2 1 = 3 ∧ zR M 2 2 = 4 ∧ zR M 2 3 = 165 ∧ zR M 2 5 = 202 ∧ zR M 2 7 = 1155 ∧ zR M 2 8 = D ∧ zR M 2 9 = F ∧ zR M 2 11 = 1520 ∧ zR M 2 12 = 1524 ∧ zR M 2 13 = 1528) ∧ (zsh M 4 = (5, 40) ∧ ∀ i, i < 40 → zR M 4 i = 5 + 4 * i ∧ pst M (5 + 4 * i) 3) ∧ gst M 165 3 ∧ (ist M 202 3 8 e ∧ ist M 1155 3 0 e2) ∧ (dst M D 3 ∧ dst M F 3 ∧ ((D = 1308 ∧ F = 1414) ∨ (D = 1414 ∧ F = 1308))) ∧ pst M 1520 3 ∧ pst M 1524 3 ∧ zsh M 1528 = (2, 4)
def xN (M : zM) (s : aX) : Prop := zI M 3 0 = nI (xk s) ∧ zI M 2 0 = nI (xn s) ∧ zI M 2 4 = nI (xgs s).length ∧ zI M 2 6 = eB (xhs s) ∧ zI M 2 10 = eB (xpv s)
def xP (M : zM) (s : aX) : Prop := ∀ (i : Nat) (L : aP), (xpl s)[i]? = some L → pdy M (5 + 4 * i) (xk s) L
def xG (M : zM) (s : aX) : Prop := ∀ (i : Nat) (L : aP), (xgs s)[i]? = some L → pdy M (166 + 4 * i) (xk s) L
def xE (M : zM) (s : aX) (e : Nat → Nat) : Prop := xhs s = true → icn M 202 (xgs s).length (xes s).length ∧ iel M e (xk s) (xes s)
def xD (M : zM) (s : aX) : Prop := zI M 202 3 = nI (xdn s).1 ∧ zI M 202 4 = nI (xdn s).2.1 ∧ zI M 202 5 = nI (xdn s).2.2.1 ∧ zI M 202 6 = nI (xdn s).2.2.2
def xQ (M : zM) (s : aX) (F : Nat) : Prop := xhs s = true → xpv s = true → ∀ (i : Nat) (q : aP), (xqs s)[i]? = some q → pdy M (F + 10 + 4 * i) (xk s) q
def xX (M : zM) (s : aX) (D F : Nat) (e e2 : Nat → Nat) : Prop := xok s ∧ xS M D F e e2 ∧ xN M s ∧ xP M s ∧ xG M s ∧ xE M s e ∧ xD M s ∧ xQ M s F
/-- a call of the class changes its own rows alone -/
def zfc (M M' : zM) : Prop := (∀ a, zsh M' a = zsh M a) ∧ zn M' = zn M ∧ zs M' = zs M ∧ ∀ a, (a < 2 ∨ 1529 ≤ a) → (∀ j, zI M' a j = zI M a j) ∧ (∀ j, zL M' a j = zL M a j) ∧ ∀ j, zR M' a j = zR M a j
theorem zfc_rf {M : zM} : zfc M M := ⟨fun _ => rfl, rfl, rfl, fun _ _ => ⟨fun _ => rfl, fun _ => rfl, fun _ => rfl⟩⟩
theorem zfc_tr {M1 M2 M3 : zM} (h1 : zfc M1 M2) (h2 : zfc M2 M3) : zfc M1 M3 := ⟨fun a => (h2.1 a).trans (h1.1 a), h2.2.1.trans h1.2.1, h2.2.2.1.trans h1.2.2.1, fun a ha => ⟨fun j => ((h2.2.2.2 a ha).1 j).trans ((h1.2.2.2 a ha).1 j), fun j => ((h2.2.2.2 a ha).2.1 j).trans ((h1.2.2.2 a ha).2.1 j), fun j => ((h2.2.2.2 a ha).2.2 j).trans ((h1.2.2.2 a ha).2.2 j)⟩⟩
theorem zfc_of {S : Nat → Prop} {M M' : zM} (h : zfr S M M') (hs : ∀ a, S a → 2 ≤ a ∧ a < 1529) : zfc M M' := ⟨h.1, h.2.1, h.2.2.1, fun a ha => ⟨(h.2.2.2.2 a fun z => by have := hs a z; omega).1, (h.2.2.2.2 a fun z => by have := hs a z; omega).2, fun j => h.2.2.2.1 a j⟩⟩
theorem zfc_ofq {S : Nat → Prop} {R : Nat} {M M' : zM} (h : zfq S R M M') (hR : 2 ≤ R ∧ R < 1529) (hs : ∀ a, S a → 2 ≤ a ∧ a < 1529) : zfc M M' := ⟨h.1, h.2.1, h.2.2.1, fun a ha => ⟨(h.2.2.2.2 a fun z => by have := hs a z; omega).1, (h.2.2.2.2 a fun z => by have := hs a z; omega).2, fun j => h.2.2.2.1 a j (by omega)⟩⟩
theorem xS_fr {S : Nat → Prop} {M M' : zM} {D F : Nat} {e e2 : Nat → Nat} (h : zfr S M M') (hx : xS M D F e e2) : xS M' D F e e2 := by
  obtain ⟨⟨h1, h1'⟩, ⟨r1, r2, r3, r5, r7, r8, r9, r11, r12, r13⟩, h3, h4, ⟨h5, h5'⟩, ⟨h6, h6', h6''⟩, h7, h8, h9⟩ := hx
  have R := h.2.2.2.1
  exact ⟨⟨by rw [h.1]; exact h1, by rw [h.1]; exact h1'⟩, ⟨by rw [R]; exact r1, by rw [R]; exact r2, by rw [R]; exact r3, by rw [R]; exact r5, by rw [R]; exact r7, by rw [R]; exact r8, by rw [R]; exact r9, by rw [R]; exact r11, by rw [R]; exact r12, by rw [R]; exact r13⟩, ⟨by rw [h.1]; exact h3.1, fun i hi => ⟨by rw [R]; exact (h3.2 i hi).1, pst_fr h (h3.2 i hi).2⟩⟩, gst_fr h h4, ⟨ist_fr h h5, ist_fr h h5'⟩, ⟨dst_fr h h6, dst_fr h h6', h6''⟩, pst_fr h h7, pst_fr h h8, by rw [h.1]; exact h9⟩
/-- rows that no state is held in: the division at work, sums, the point, the guest -/
def scr (D a : Nat) : Prop := inD D a ∨ inI 1155 0 a ∨ (1520 ≤ a ∧ a ≤ 1528)
theorem xX_fr {S : Nat → Prop} {M M' : zM} {s : aX} {D F : Nat} {e e2 : Nat → Nat} (h : zfr S M M') (hs : ∀ a, S a → scr D a) (hx : xX M s D F e e2) : xX M' s D F e e2 := by
  obtain ⟨ok, hS, ⟨n1, n2, n3, n4, n5⟩, hP, hG, hE, ⟨d1, d2, d3, d4⟩, hQ⟩ := hx
  have hD := hS.2.2.2.2.2.1.2.2
  have ns : ∀ a, ¬ scr D a → ¬ S a := fun a ha z => ha (hs a z)
  have f2 := h.2.2.2.2 2 (ns 2 (by unfold scr inD inI; omega))
  have f3 := h.2.2.2.2 3 (ns 3 (by unfold scr inD inI; omega))
  have f202 := h.2.2.2.2 202 (ns 202 (by unfold scr inD inI; omega))
  refine ⟨ok, xS_fr h hS, ⟨by rw [f3.1]; exact n1, by rw [f2.1]; exact n2, by rw [f2.1]; exact n3, by rw [f2.1]; exact n4, by rw [f2.1]; exact n5⟩, fun i L hi => pdy_fr h (fun a ha => ns a ?_) (hP i L hi), fun i L hi => pdy_fr h (fun a ha => ns a ?_) (hG i L hi), fun hh => ⟨icn_fr h (ns 202 (by unfold scr inD inI; omega)) (hE hh).1, iel_fr h hS.2.2.2.2.1.1 (ok.2.2.2.2.1 hh).1 ok.2.2.2.1.1 (ok.2.2.2.2.1 hh).2 (fun i hi a ha => ns a ?_) (hE hh).2⟩, ⟨by rw [f202.1]; exact d1, by rw [f202.1]; exact d2, by rw [f202.1]; exact d3, by rw [f202.1]; exact d4⟩, fun hh hp i q hi => pdy_fr h (fun a ha => ns a ?_) (hQ hh hp i q hi)⟩
  · have := (List.getElem?_eq_some_iff.mp hi).1
    rw [ok.2.2.1.1] at this
    unfold inP at ha
    unfold scr inD inI
    omega
  · have := (List.getElem?_eq_some_iff.mp hi).1
    have := ok.2.2.2.1.1
    unfold inP at ha
    unfold scr inD inI
    omega
  · have hl := (ok.2.2.2.2.1 hh).2
    have := hS.2.2.2.2.1.1.2.2.1.1 i (by omega)
    unfold inE at ha
    unfold scr inD inI
    omega
  · have := (List.getElem?_eq_some_iff.mp hi).1
    have := (ok.2.2.2.2.2 hh hp).1
    have := (ok.2.2.2.2.1 hh).2
    unfold inP at ha
    unfold scr inD inI
    omega
end
section
/-! calls of the class: what all of them use -/
theorem idx_n {a : Int32} {n : Nat} (h : idx a n = true) : ∃ i, i < n ∧ i < 2 ^ 31 ∧ a = nI i ∧ a.toNatClampNeg = i := by
  have h := of_decide_eq_true h
  obtain ⟨j, hj, rfl⟩ := nI_of (x := a) (fun z => by
    have := Int32.lt_iff_toInt_lt.mp z
    rw [Int32.toInt_zero] at this
    omega)
  rw [nI_toInt hj] at h
  exact ⟨j, by omega, hj, rfl, cl_n hj⟩
theorem idx_no {a : Int32} {n : Nat} (hn : n < 2 ^ 31) (h : idx a n = false) : a < 0 ∨ (¬ a < 0 ∧ nI n ≤ a) := by
  have h := of_decide_eq_false h
  by_cases h0 : a < 0
  · exact Or.inl h0
  · right
    refine ⟨h0, ?_⟩
    obtain ⟨j, hj, rfl⟩ := nI_of h0
    rw [nI_toInt hj] at h
    exact (nI_leI hn hj).mpr (by omega)
theorem idx_lt {a : Int32} {n : Nat} (hn : n < 2 ^ 31) (h0 : ¬ a < 0) (h : ¬ nI n ≤ a) : idx a n = true := by
  cases hc : idx a n with
  | true => rfl
  | false =>
    rcases idx_no hn hc with z | z
    · exact absurd z h0
    · exact absurd z.2 h
theorem idx_ge {a : Int32} {n : Nat} (hn : n < 2 ^ 31) (h : a < 0 ∨ nI n ≤ a) : idx a n = false := by
  cases hc : idx a n with
  | false => rfl
  | true =>
    obtain ⟨i, h1, h2, rfl, h3⟩ := idx_n hc
    rcases h with z | z
    · exact absurd z (nI_pos h2)
    · have := (nI_leI hn h2).mp z
      omega
theorem sp_isPlace {d : Nat} {M : zM} {a : Int32} {P : Int32 → zM → Prop} (hd : 1 ≤ d) (h1 : ipl a = true → P 1 M) (h0 : ipl a = false → P 0 M) : ycI d nX7_isPlace [.int a] M P := by
  obtain ⟨d, rfl, he⟩ := dS hd
  exact en_X7_isPlace _ M (sg_X7_isPlace_0 _ M ⟨fun c => ⟨Or.inl rfl, _, rfl, h0 (idx_ge (n := 40) (by omega) (Or.inl c))⟩, fun c => ⟨fun c2 => ⟨Or.inl rfl, _, rfl, h0 (idx_ge (n := 40) (by omega) (Or.inr c2))⟩, fun c2 => ⟨Or.inr rfl, _, rfl, h1 (idx_lt (n := 40) (by omega) c c2)⟩⟩⟩)
theorem sp_isLarge {d : Nat} {M : zM} {a b : Int32} {n : Int} {P : Int32 → zM → Prop} (hd : 1 ≤ d) (hb : b.toInt = n) (hn : 0 ≤ n) (h1 : alg a n = true → P 1 M) (h0 : alg a n = false → P 0 M) : ycI d nX7_isLarge [.int a, .int b] M P := by
  obtain ⟨d, rfl, he⟩ := dS hd
  have en : (-b).toInt = -n := by rw [ti_neg (by omega), hb]
  refine en_X7_isLarge _ _ M (sg_X7_isLarge_0 _ _ M ⟨fun c => ⟨Or.inr rfl, _, rfl, h1 ?_⟩, fun c => ⟨fun c2 => ⟨Or.inl rfl, _, rfl, h0 ?_⟩, fun c2 => ⟨Or.inr rfl, _, rfl, h1 ?_⟩⟩⟩)
  · have := Int32.lt_iff_toInt_lt.mp c
    exact decide_eq_true (Or.inl (by omega))
  · have c2 := Int32.le_iff_toInt_le.mp c2
    rw [en] at c2
    exact decide_eq_false fun z => by
      rcases z with z | z
      · exact c (Int32.lt_iff_toInt_lt.mpr (by omega))
      · omega
  · exact decide_eq_true (Or.inr (by
      apply Int.lt_of_not_ge
      intro z
      exact c2 (Int32.le_iff_toInt_le.mpr (by rw [en]; exact z))))
theorem sp_put {d D F q r k : Nat} {M : zM} {e e2 : Nat → Nat} {L : aP} {P : Int32 → zM → Prop} (hd : 2 ≤ d) (hS : xS M D F e e2) (hr : r < 40) (hq : pst M q 3) (hqr : 9 + 4 * r ≤ q ∨ q + 4 ≤ 5 + 4 * r) (hL : pdy M q k L) (hl : L.length ≤ 100) (h : ∀ M', zfr (inP (5 + 4 * r)) M M' → pdy M' (5 + 4 * r) k L → P (nI L.length) M') : ycI d nX7_put [.ref 2, .ref q, .int (nI r)] M P := by
  obtain ⟨d, rfl, he⟩ := dS hd
  have cr := cl_n (n := r) (by omega)
  have h2 := hS.2.1.2.1
  have h4 := hS.2.2.1
  have hpr := h4.2 r hr
  refine en_X7_put _ _ _ M (sg_X7_put_0 _ _ _ M ⟨hS.1.1, by rw [h2, h4.1], by rw [h2, h4.1]; exact zin_n hr (by omega), by rw [h2, cr, hpr.1]; exact hpr.2.1, ?_⟩)
  rw [h2, cr, hpr.1]
  refine sp_become (by omega) hpr.2 hq (by omega) hL hl fun M1 hfr hpd => ⟨(pst_fr hfr hq).1, _, rfl, ?_⟩
  rw [(pdy_fr hfr (inP_ne (by omega)) hL).1]
  exact h M1 hfr hpd
theorem xput_n {s : aX} {r : Nat} {L : aP} (hr : r < 2 ^ 31) : xput s (nI r) L = (xn s, xk s, (xpl s).set r L, xgs s, xhs s, xes s, xdn s, xpv s, xqs s) := by
  unfold xput
  rw [cl_n hr]
theorem xok_put {s : aX} {r : Int32} {L : aP} (h : xok s) (hL : pok (xk s) L) : xok (xput s r L) := by
  obtain ⟨h1, h2, ⟨h3, h3'⟩, h4, h5, h6⟩ := h
  refine ⟨h1, h2, ⟨?_, fun x hx => ?_⟩, h4, h5, h6⟩
  · show ((xpl s).set r.toNatClampNeg L).length = 40
    rw [List.length_set]; exact h3
  · rcases List.mem_or_eq_of_mem_set (show x ∈ (xpl s).set r.toNatClampNeg L from hx) with hx | rfl
    · exact h3' x hx
    · exact hL
theorem xX_put {M M' : zM} {s : aX} {D F r : Nat} {e e2 : Nat → Nat} {L : aP} (h : zfr (inP (5 + 4 * r)) M M') (hr : r < 40) (hp : pdy M' (5 + 4 * r) (xk s) L) (hL : pok (xk s) L) (hx : xX M s D F e e2) : xX M' (xput s (nI r) L) D F e e2 := by
  obtain ⟨ok, hS, ⟨n1, n2, n3, n4, n5⟩, hP, hG, hE, ⟨d1, d2, d3, d4⟩, hQ⟩ := hx
  have hD := hS.2.2.2.2.2.1.2.2
  have f2 := h.2.2.2.2 2 (by unfold inP; omega)
  have f3 := h.2.2.2.2 3 (by unfold inP; omega)
  have f202 := h.2.2.2.2 202 (by unfold inP; omega)
  refine ⟨xok_put ok hL, xS_fr h hS, ⟨by rw [f3.1]; exact n1, by rw [f2.1]; exact n2, by rw [f2.1]; exact n3, by rw [f2.1]; exact n4, by rw [f2.1]; exact n5⟩, fun i L' hi => ?_, fun i L' hi => pdy_fr h (fun a ha => ?_) (hG i L' hi), fun hh => ⟨icn_fr h (by unfold inP; omega) (hE hh).1, iel_fr h hS.2.2.2.2.1.1 (ok.2.2.2.2.1 hh).1 ok.2.2.2.1.1 (ok.2.2.2.2.1 hh).2 (fun i hi a ha => ?_) (hE hh).2⟩, ⟨by rw [f202.1]; exact d1, by rw [f202.1]; exact d2, by rw [f202.1]; exact d3, by rw [f202.1]; exact d4⟩, fun hh hp i q hi => pdy_fr h (fun a ha => ?_) (hQ hh hp i q hi)⟩
  · rw [xput_n (by omega)] at hi
    have hi : ((xpl s).set r L)[i]? = some L' := hi
    rw [List.getElem?_set] at hi
    by_cases hir : r = i
    · subst hir
      rw [if_pos rfl, if_pos (by rw [ok.2.2.1.1]; exact hr)] at hi
      cases hi
      exact hp
    · rw [if_neg hir] at hi
      exact pdy_fr h (inP_ne (by omega)) (hP i L' hi)
  · unfold inP at ha
    unfold inP
    omega
  · have hl := (ok.2.2.2.2.1 hh).2
    have hi : i < (xes s).length := hi
    have := hS.2.2.2.2.1.1.2.2.1.1 i (by omega)
    unfold inE at ha
    unfold inP
    omega
  · unfold inP at ha
    unfold inP
    omega
theorem inP_c {r : Nat} (hr : r < 40) : ∀ a, inP (5 + 4 * r) a → 2 ≤ a ∧ a < 1529 := fun a ha => by unfold inP at ha; omega
/-- a place -/
theorem xX_at {M : zM} {s : aX} {D F i : Nat} {e e2 : Nat → Nat} (hx : xX M s D F e e2) (hi : i < 40) : xat s (nI i) = (xpl s).getD i [] ∧ pdy M (5 + 4 * i) (xk s) (xat s (nI i)) ∧ pok (xk s) (xat s (nI i)) ∧ pst M (5 + 4 * i) 3 := by
  have e1 : xat s (nI i) = (xpl s).getD i [] := by
    unfold xat
    rw [cl_n (by omega)]
  have hl : i < (xpl s).length := by rw [hx.1.2.2.1.1]; exact hi
  have hu : (xpl s)[i]? = some ((xpl s).getD i []) := by
    rw [List.getD_eq_getElem?_getD, List.getElem?_eq_getElem hl]
    rfl
  rw [e1]
  exact ⟨rfl, hx.2.2.2.1 i _ hu, hx.1.2.2.1.2 _ (List.mem_of_getElem? hu), (hx.2.1.2.2.1.2 i hi).2⟩
theorem xX_ost {M : zM} {s : aX} {D F : Nat} {e e2 : Nat → Nat} (hx : xX M s D F e e2) : ost M 3 (xk s) := ⟨hx.2.1.1.2, hx.2.2.1.1, hx.1.2.1⟩
theorem sp_forget {d D F : Nat} {M : zM} {e e2 : Nat → Nat} {P : zM → Prop} (hd : 1 ≤ d) (hS : xS M D F e e2) (h : ∀ M', zfr (fun a => a = 2) M M' → zI M' 2 6 = 0 → zI M' 2 10 = 0 → (∀ j, j ≠ 6 → j ≠ 10 → zI M' 2 j = zI M 2 j) → P M') : ycV d nX7_forgetBasis [.ref 2] M P := by
  obtain ⟨d, rfl, he⟩ := dS hd
  refine en_X7_forgetBasis _ M (sg_X7_forgetBasis_0 _ M ⟨hS.1.1, Or.inl rfl, ?_⟩)
  intro M1
  refine ⟨hS.1.1, Or.inl rfl, ?_⟩
  intro M2
  have e2 : M2 = zuI (zuI M 2 6 0) 2 10 0 := rfl
  refine ⟨rfl, h M2 (zfr_tr (zfr_uI rfl) (zfr_uI rfl)) ?_ ?_ fun j h6 h10 => ?_⟩
  · rw [e2, zI_uI, if_neg (by omega), zI_uI, if_pos ⟨rfl, rfl⟩]
  · rw [e2, zI_uI, if_pos ⟨rfl, rfl⟩]
  · rw [e2, zI_uI, if_neg (by omega), zI_uI, if_neg (by omega)]
theorem sp_isTold {d D F : Nat} {M : zM} {s : aX} {e e2 : Nat → Nat} {w : Int32} {P : Int32 → zM → Prop} (hd : 2 ≤ d) (hx : xX M s D F e e2) (h1 : atold (xn s) (b4 w) = true → P 1 M) (h0 : atold (xn s) (b4 w) = false → P 0 M) : ycI d nX7_isTold [.ref 2, .int w] M P := by
  obtain ⟨d, rfl, he⟩ := dS hd
  have hby := b4_by w
  have hn := hx.1.1
  have no : ¬ (mok (b4 w) ∧ vin (xn s) (b4 w)) → P 0 M := fun z => h0 (by
    cases hc : atold (xn s) (b4 w) with
    | false => rfl
    | true => exact absurd (atold_iff.mp hc) z)
  have loop : ∀ (n v : Nat) (o0 : Option Value), v + n = 4 → mok (b4 w) → xn s ≤ v → (∀ u, xn s ≤ u → u < v → aex (b4 w) u = 0) → wX7_isTold d (fun r M2 => ∃ x : Int32, r = [.int x] ∧ P x M2) 8 [o0, some (.int w), some (.int (nI v))] [] M := by
    intro n
    induction n with
    | zero =>
      intro v o0 hv hm hnv hz
      refine sg_X7_isTold_8 _ _ _ _ ⟨fun _ => ⟨Or.inr rfl, _, rfl, h1 (atold_iff.mpr ⟨hm, ?_⟩)⟩, fun c => absurd (by rw [show v = 4 by omega]; exact Int32.le_refl _) c⟩
      refine ⟨fun z => by omega, fun z => hz 1 z (by omega), fun z => hz 2 z (by omega), fun z => hz 3 z (by omega)⟩
    | succ n ih =>
      intro v o0 hv hm hnv hz
      refine sg_X7_isTold_8 _ _ _ _ ⟨fun c => ?_, fun _ => ?_⟩
      · have := (nI_leI (a := 4) (by omega) (by omega)).mp c
        omega
      · have hs := sp_exponent (d := d) (M := M) (m := b4 w) (v := v) (P := fun c2 M1 => ((c2 = 0 → (let v2_3 : Int32 := nI v + 1
wX7_isTold d (fun r M2 => ∃ x : Int32, r = [.int x] ∧ P x M2) 8 [o0, some (.int w), some (.int v2_3)] [] M1)) ∧ (¬ (c2 = 0) → (zb ((0 : Int32)) ∧ (∃ x : Int32, [Value.int 0] = [.int x] ∧ P x M1))))) (by omega) hby (by omega)
        rw [b4_e8] at hs
        have hb2 : aex (b4 w) v ≤ 30 := aex_ok hm v
        refine hs ⟨fun c => ?_, fun c => ⟨Or.inl rfl, _, rfl, no fun z => c ?_⟩⟩
        · have c := (nI_z (by omega)).mp c
          intro v2
          rw [show v2 = nI (v + 1) from nI_1 v]
          refine ih (v + 1) _ (by omega) hm (by omega) fun u h1 h2 => ?_
          by_cases e : u = v
          · rw [e]; exact c
          · exact hz u h1 (by omega)
        · obtain ⟨-, z0, z1, z2, z3⟩ := z
          match v, hv, hnv with
          | 0, _, hnv => omega
          | 1, _, hnv => show nI (b4 w).2.1 = 0; rw [z1 hnv]; rfl
          | 2, _, hnv => show nI (b4 w).2.2.1 = 0; rw [z2 hnv]; rfl
          | 3, _, hnv => show nI (b4 w).2.2.2 = 0; rw [z3 hnv]; rfl
          | v + 4, hv, _ => omega
  refine en_X7_isTold _ _ M (sg_X7_isTold_0 _ _ M ?_)
  have hs := sp_isInside (d := d) (M := M) (m := b4 w) (P := fun c2 M1 => ((¬ c2 = 0 → ((zsh M1 2).1 = 15 ∧ (let v2_3 : Int32 := zI M1 2 0
wX7_isTold d (fun r M2 => ∃ x : Int32, r = [.int x] ∧ P x M2) 8 [some (.ref 2), some (.int w), some (.int v2_3)] [] M1))) ∧ (¬ (¬ c2 = 0) → (zb ((0 : Int32)) ∧ (∃ x : Int32, [Value.int 0] = [.int x] ∧ P x M1))))) (by omega) hby
  rw [b4_e8] at hs
  refine hs (fun hm => ⟨fun _ => ⟨hx.2.1.1.1, ?_⟩, fun z => absurd (Classical.not_not.mp z) (by decide)⟩) (fun hm => ⟨fun z => absurd rfl z, fun _ => ⟨Or.inl rfl, _, rfl, no fun z => hm z.1⟩⟩)
  intro v2
  rw [show v2 = nI (xn s) from hx.2.2.1.2.1]
  exact loop (4 - xn s) (xn s) _ (by omega) hm (Nat.le_refl _) fun u h1 h2 => by omega
end
section
/-! calls of the class: polynomials -/
def xres (x : Int32 × aX) (M : zM) (P : Int32 → zM → Prop) : Prop := ∀ (M' : zM) (D F : Nat) (e e2 : Nat → Nat), xX M' x.2 D F e e2 → zfc M M' → P x.1 M'
theorem cX_variables {d D F : Nat} {M : zM} {s : aX} {e e2 : Nat → Nat} {P : Int32 → zM → Prop} (hd : 10 ≤ d) (hx : xX M s D F e e2) (h : xres (A_variables s) M P) : ycI d nX7_variables [.ref 2] M P := by
  obtain ⟨d, rfl, he⟩ := dS hd
  refine en_X7_variables _ M (sg_X7_variables_0 _ M ⟨hx.2.1.1.1, _, rfl, ?_⟩)
  rw [hx.2.2.1.2.1]
  exact h M D F e e2 hx zfc_rf
theorem cX_zero {d D F : Nat} {M : zM} {s : aX} {e e2 : Nat → Nat} {p : Int32} {P : Int32 → zM → Prop} (hd : 10 ≤ d) (hx : xX M s D F e e2) (h : xres (A_zero s p) M P) : ycI d nX7_zero [.ref 2, .int p] M P := by
  obtain ⟨d, rfl, he⟩ := dS hd
  have h2 := hx.2.1.2.1.2.1
  have h4 := hx.2.1.2.2.1
  unfold A_zero at h
  refine en_X7_zero _ _ M (sg_X7_zero_0 _ _ M (sp_isPlace (by omega) (fun hp => ⟨fun _ => ?_, fun z => absurd (Classical.not_not.mp z) (by decide)⟩) (fun hp => ⟨fun z => absurd rfl z, fun _ => ⟨_, rfl, ?_⟩⟩)))
  · rw [if_pos hp] at h
    obtain ⟨i, hi, -, rfl, ci⟩ := idx_n (n := 40) hp
    obtain ⟨-, pd, pk, ps⟩ := xX_at hx hi
    have z4 : zin (nI i) 40 := zin_n hi (by omega)
    refine ⟨hx.2.1.1.1, by rw [h2, h4.1], by rw [h2, h4.1]; exact z4, by rw [h2, ci, (h4.2 i hi).1]; exact ps.1, ?_⟩
    intro v2
    refine ⟨hx.2.1.1.1, by rw [h2, h4.1], by rw [h2, h4.1]; exact z4, by rw [h2, ci, (h4.2 i hi).1]; exact ps.1, ?_⟩
    have ev : v2 = nI (xat s (nI i)).length := by rw [show v2 = zI M (zR M (zR M 2 2) (nI i).toNatClampNeg) 4 from rfl, h2, ci, (h4.2 i hi).1]; exact pd.1
    rw [h2, ci, (h4.2 i hi).1, ev]
    exact sp_empty (k := xk s) (by omega) ps fun M1 hfr hpd => ⟨_, rfl, h M1 D F e e2 (xX_put hfr hi hpd pok_nil hx) (zfc_of hfr (inP_c hi))⟩
  · rw [if_neg (by rw [hp]; decide)] at h
    exact h M D F e e2 hx zfc_rf
theorem cX_size {d D F : Nat} {M : zM} {s : aX} {e e2 : Nat → Nat} {p : Int32} {P : Int32 → zM → Prop} (hd : 10 ≤ d) (hx : xX M s D F e e2) (h : xres (A_size s p) M P) : ycI d nX7_size [.ref 2, .int p] M P := by
  obtain ⟨d, rfl, he⟩ := dS hd
  have h2 := hx.2.1.2.1.2.1
  have h4 := hx.2.1.2.2.1
  unfold A_size at h
  refine en_X7_size _ _ M (sg_X7_size_0 _ _ M (sp_isPlace (by omega) (fun hp => ⟨fun z => absurd z (by decide), fun _ => ?_⟩) (fun hp => ⟨fun _ => ⟨_, rfl, ?_⟩, fun z => absurd rfl z⟩)))
  · rw [if_pos hp] at h
    obtain ⟨i, hi, -, rfl, ci⟩ := idx_n (n := 40) hp
    obtain ⟨-, pd, pk, ps⟩ := xX_at hx hi
    refine ⟨hx.2.1.1.1, by rw [h2, h4.1], by rw [h2, h4.1]; exact zin_n hi (by omega), by rw [h2, ci, (h4.2 i hi).1]; exact ps.1, _, rfl, ?_⟩
    rw [h2, ci, (h4.2 i hi).1, pd.1]
    exact h M D F e e2 hx zfc_rf
  · rw [if_neg (by rw [hp]; decide)] at h
    exact h M D F e e2 hx zfc_rf
theorem cX_told {d D F : Nat} {M : zM} {s : aX} {e e2 : Nat → Nat} {p i w : Int32} {P : Int32 → zM → Prop} (hd : 10 ≤ d) (hx : xX M s D F e e2) (h : xres (A_told s p i w) M P) : ycI d nX7_told [.ref 2, .int p, .int i, .int w] M P := by
  obtain ⟨d, rfl, he⟩ := dS hd
  have h2 := hx.2.1.2.1.2.1
  have h4 := hx.2.1.2.2.1
  have s15 := hx.2.1.1.1
  unfold A_told at h
  refine en_X7_told _ _ _ _ M (sg_X7_told_0 _ _ _ _ M (sp_isPlace (by omega) (fun hp => ⟨fun z => absurd z (by decide), fun _ => ?_⟩) (fun hp => ⟨fun _ => ⟨_, rfl, ?_⟩, fun z => absurd rfl z⟩)))
  · obtain ⟨c, hc, -, rfl, cc⟩ := idx_n (n := 40) hp
    obtain ⟨-, pd, pk, ps⟩ := xX_at hx hc
    have hl := pk.2.2
    have z4 : zin (nI c) 40 := zin_n hc (by omega)
    refine ⟨fun c0 => ⟨_, rfl, ?_⟩, fun c0 => ⟨s15, by rw [h2, h4.1], by rw [h2, h4.1]; exact z4, by rw [h2, cc, (h4.2 c hc).1]; exact ps.1, ?_⟩⟩
    · rw [if_neg (fun z => by rw [idx_ge (by omega) (Or.inl c0)] at z; exact absurd z.2 (by decide))] at h
      exact h M D F e e2 hx zfc_rf
    · rw [h2, cc, (h4.2 c hc).1, pd.1]
      refine ⟨fun c1 => ?_, fun c1 => ⟨_, rfl, ?_⟩⟩
      · have hid : idx i (xat s (nI c)).length = true := idx_lt (by omega) c0 (Int32.not_le.mpr c1)
        rw [if_pos ⟨hp, hid⟩] at h
        obtain ⟨j, hj, -, rfl, cj⟩ := idx_n hid
        rw [cj] at h
        have hu : (xat s (nI c))[j]? = some ((xat s (nI c)).getD j ((0, 1), mone)) := by
          rw [List.getD_eq_getElem?_getD, List.getElem?_eq_getElem hj]
          rfl
        obtain ⟨g1, g2, -⟩ := pd.2 j _ hu
        have htk := pk.1 _ (List.mem_of_getElem? hu)
        have zj : zin (nI j) 100 := zin_n (by omega) (by omega)
        refine ⟨fun w0 => ?_, fun w0 => ⟨fun w1 => ?_, fun w1 => ⟨fun w2 => ?_, fun w2 => ⟨_, rfl, ?_⟩⟩⟩⟩
        · rw [if_pos w0] at h
          refine ⟨s15, by rw [h4.1], by rw [h4.1]; exact z4, ps.1, p_k1 ps, by rw [p_l1 ps]; exact zj, ?_⟩
          rw [ps.2.2.1, cj, g1]
          exact sp_over (by omega) htk.1 ⟨_, rfl, h M D F e e2 hx zfc_rf⟩
        · rw [if_neg w0, if_pos w1] at h
          refine ⟨s15, by rw [h4.1], by rw [h4.1]; exact z4, ps.1, p_k1 ps, by rw [p_l1 ps]; exact zj, ?_⟩
          rw [ps.2.2.1, cj, g1]
          exact sp_under (by omega) htk.1 ⟨_, rfl, h M D F e e2 hx zfc_rf⟩
        · rw [if_neg w0, if_neg w1, if_pos w2] at h
          refine ⟨s15, by rw [h4.1], by rw [h4.1]; exact z4, ps.1, p_k2 ps, by rw [p_l2 ps]; exact zj, _, rfl, ?_⟩
          rw [ps.2.2.2.1, cj, g2]
          exact h M D F e e2 hx zfc_rf
        · rw [if_neg w0, if_neg w1, if_neg w2] at h
          exact h M D F e e2 hx zfc_rf
      · rw [if_neg (fun z => by rw [idx_ge (by omega) (Or.inr (Int32.not_lt.mp c1))] at z; exact absurd z.2 (by decide))] at h
        exact h M D F e e2 hx zfc_rf
  · rw [if_neg (fun z => by rw [hp] at z; exact absurd z.1 (by decide))] at h
    exact h M D F e e2 hx zfc_rf
theorem mone_e8 : (0 : Int32) = e8 mone := by decide
theorem cX_plus {d D F : Nat} {M : zM} {s : aX} {e e2 : Nat → Nat} {p q r : Int32} {P : Int32 → zM → Prop} (hd : 10 ≤ d) (hx : xX M s D F e e2) (h : xres (A_plus s p q r) M P) : ycI d nX7_plus [.ref 2, .int p, .int q, .int r] M P := by
  obtain ⟨d, rfl, he⟩ := dS hd
  have h2 := hx.2.1.2.1.2.1
  have h4 := hx.2.1.2.2.1
  have s15 := hx.2.1.1.1
  have r11 := hx.2.1.2.1.2.2.2.2.2.2.2.1
  have ps11 := hx.2.1.2.2.2.2.2.2.1
  have hDF := hx.2.1.2.2.2.2.2.1.2.2
  unfold A_plus at h
  have no : ¬ (ipl p = true ∧ ipl q = true ∧ ipl r = true) → P (-1) M := fun z => by
    rw [if_neg z] at h
    exact h M D F e e2 hx zfc_rf
  refine en_X7_plus _ _ _ _ M (sg_X7_plus_0 _ _ _ _ M (sp_isPlace (by omega) (fun hp => ⟨fun z => absurd z (by decide), fun _ => ?_⟩) (fun hp => ⟨fun _ => ⟨_, rfl, no fun z => by rw [hp] at z; exact absurd z.1 (by decide)⟩, fun z => absurd rfl z⟩)))
  refine sp_isPlace (by omega) (fun hq => ⟨fun z => absurd z (by decide), fun _ => ?_⟩) (fun hq => ⟨fun _ => ⟨_, rfl, no fun z => by rw [hq] at z; exact absurd z.2.1 (by decide)⟩, fun z => absurd rfl z⟩)
  refine sp_isPlace (by omega) (fun hr => ⟨fun _ => ?_, fun z => absurd (Classical.not_not.mp z) (by decide)⟩) (fun hr => ⟨fun z => absurd rfl z, fun _ => ⟨_, rfl, no fun z => by rw [hr] at z; exact absurd z.2.2 (by decide)⟩⟩)
  rw [if_pos ⟨hp, hq, hr⟩] at h
  obtain ⟨i, hi, -, rfl, ci⟩ := idx_n (n := 40) hp
  obtain ⟨j, hj, -, rfl, cj⟩ := idx_n (n := 40) hq
  obtain ⟨l, hl, -, rfl, cl⟩ := idx_n (n := 40) hr
  obtain ⟨-, pdi, pki, psi⟩ := xX_at hx hi
  obtain ⟨-, pdj, pkj, psj⟩ := xX_at hx hj
  refine ⟨s15, s15, by rw [h2, h4.1], by rw [h2, h4.1]; exact zin_n hi (by omega), by rw [r11]; exact ps11.1, ?_⟩
  rw [r11, h2, ci, (h4.2 i hi).1]
  refine sp_become (by omega) ps11 psi (by omega) pdi pki.2.2 fun M1 hfr1 hpd1 => ?_
  have hs1 : ∀ a, inP 1520 a → scr D a := fun a ha => Or.inr (Or.inr (by unfold inP at ha; omega))
  have hx1 := xX_fr hfr1 hs1 hx
  have hS1 := hx1.2.1
  refine ⟨hS1.1.1, hS1.1.1, by rw [hS1.2.1.2.1, hS1.2.2.1.1], by rw [hS1.2.1.2.1, hS1.2.2.1.1]; exact zin_n hj (by omega), by rw [hS1.2.1.2.2.2.2.2.2.2.1]; exact hS1.2.2.2.2.2.2.1.1, ?_⟩
  rw [hS1.2.1.2.2.2.2.2.2.2.1, hS1.2.1.2.1, cj, (hS1.2.2.1.2 j hj).1]
  refine sp_adds (c := (1, 1)) (m := mone) (by omega) hS1.2.2.2.2.2.2.1 (hS1.2.2.1.2 j hj).2 (by omega) (by unfold inP; omega) (xX_ost hx1) hpd1 (xX_at hx1 hj).2.1 pki pkj fok_1 (by decide) mone_ok (fun f M2 hf hfr2 hpd2 => ?_) (fun M2 hn hfr2 => ?_)
  · rw [hf] at h
    have hx2 := xX_fr hfr2 hs1 hx1
    have hS2 := hx2.2.1
    have hfk := aadds_ok fok_1 (by decide) pkj.1 pki hf
    refine ⟨fun z => absurd z (by decide), fun _ => ⟨hS2.1.1, hS2.1.1, ?_⟩⟩
    rw [hS2.2.1.2.2.2.2.2.2.2.1]
    refine sp_put (by omega) hS2 hl hS2.2.2.2.2.2.2.1 (by omega) hpd2 hfk.2.2 fun M3 hfr3 hpd3 => ⟨_, rfl, h M3 D F e e2 (xX_put hfr3 hl hpd3 hfk hx2) ?_⟩
    exact zfc_tr (zfc_of hfr1 fun a ha => by unfold inP at ha; omega) (zfc_tr (zfc_of hfr2 fun a ha => by unfold inP at ha; omega) (zfc_of hfr3 (inP_c hl)))
  · rw [hn] at h
    exact ⟨fun _ => ⟨_, rfl, h M2 D F e e2 (xX_fr hfr2 hs1 hx1) (zfc_tr (zfc_of hfr1 fun a ha => by unfold inP at ha; omega) (zfc_of hfr2 fun a ha => by unfold inP at ha; omega))⟩, fun z => absurd rfl z⟩
theorem cX_times {d D F : Nat} {M : zM} {s : aX} {e e2 : Nat → Nat} {p q r : Int32} {P : Int32 → zM → Prop} (hd : 10 ≤ d) (hx : xX M s D F e e2) (h : xres (A_times s p q r) M P) : ycI d nX7_times [.ref 2, .int p, .int q, .int r] M P := by
  obtain ⟨d, rfl, he⟩ := dS hd
  have h2 := hx.2.1.2.1.2.1
  have h4 := hx.2.1.2.2.1
  have s15 := hx.2.1.1.1
  have r12 := hx.2.1.2.1.2.2.2.2.2.2.2.2.1
  have ps12 := hx.2.1.2.2.2.2.2.2.2.1
  have hDF := hx.2.1.2.2.2.2.2.1.2.2
  unfold A_times at h
  have no : ¬ (ipl p = true ∧ ipl q = true ∧ ipl r = true) → P (-1) M := fun z => by
    rw [if_neg z] at h
    exact h M D F e e2 hx zfc_rf
  refine en_X7_times _ _ _ _ M (sg_X7_times_0 _ _ _ _ M (sp_isPlace (by omega) (fun hp => ⟨fun z => absurd z (by decide), fun _ => ?_⟩) (fun hp => ⟨fun _ => ⟨_, rfl, no fun z => by rw [hp] at z; exact absurd z.1 (by decide)⟩, fun z => absurd rfl z⟩)))
  refine sp_isPlace (by omega) (fun hq => ⟨fun z => absurd z (by decide), fun _ => ?_⟩) (fun hq => ⟨fun _ => ⟨_, rfl, no fun z => by rw [hq] at z; exact absurd z.2.1 (by decide)⟩, fun z => absurd rfl z⟩)
  refine sp_isPlace (by omega) (fun hr => ⟨fun _ => ?_, fun z => absurd (Classical.not_not.mp z) (by decide)⟩) (fun hr => ⟨fun z => absurd rfl z, fun _ => ⟨_, rfl, no fun z => by rw [hr] at z; exact absurd z.2.2 (by decide)⟩⟩)
  rw [if_pos ⟨hp, hq, hr⟩] at h
  obtain ⟨i, hi, -, rfl, ci⟩ := idx_n (n := 40) hp
  obtain ⟨j, hj, -, rfl, cj⟩ := idx_n (n := 40) hq
  obtain ⟨l, hl, -, rfl, cl⟩ := idx_n (n := 40) hr
  obtain ⟨-, pdi, pki, psi⟩ := xX_at hx hi
  obtain ⟨-, pdj, pkj, psj⟩ := xX_at hx hj
  refine ⟨s15, s15, by rw [h2, h4.1], by rw [h2, h4.1]; exact zin_n hi (by omega), s15, by rw [h2, h4.1], by rw [h2, h4.1]; exact zin_n hj (by omega), by rw [r12]; exact ps12.1, ?_⟩
  rw [r12, h2, ci, cj, (h4.2 i hi).1, (h4.2 j hj).1]
  have hs1 : ∀ a, inP 1524 a → scr D a := fun a ha => Or.inr (Or.inr (by unfold inP at ha; omega))
  refine sp_becomeProduct (by omega) ps12 psi psj (by omega) (by omega) (by unfold inP; omega) (xX_ost hx) pdi pdj pki pkj (fun f M2 hf hfr2 hpd2 => ?_) (fun M2 hn hfr2 => ?_)
  · rw [hf] at h
    have hx2 := xX_fr hfr2 hs1 hx
    have hS2 := hx2.2.1
    have hfk := aprod_ok pkj.1 pki.1 pok_nil hf
    refine ⟨fun z => absurd z (by decide), fun _ => ⟨hS2.1.1, hS2.1.1, ?_⟩⟩
    rw [hS2.2.1.2.2.2.2.2.2.2.2.1]
    refine sp_put (by omega) hS2 hl hS2.2.2.2.2.2.2.2.1 (by omega) hpd2 hfk.2.2 fun M3 hfr3 hpd3 => ⟨_, rfl, h M3 D F e e2 (xX_put hfr3 hl hpd3 hfk hx2) ?_⟩
    exact zfc_tr (zfc_of hfr2 fun a ha => by unfold inP at ha; omega) (zfc_of hfr3 (inP_c hl))
  · rw [hn] at h
    exact ⟨fun _ => ⟨_, rfl, h M2 D F e e2 (xX_fr hfr2 hs1 hx) (zfc_of hfr2 fun a ha => by unfold inP at ha; omega)⟩, fun z => absurd rfl z⟩
theorem cX_same {d D F : Nat} {M : zM} {s : aX} {e e2 : Nat → Nat} {p q : Int32} {P : Int32 → zM → Prop} (hd : 10 ≤ d) (hx : xX M s D F e e2) (h : xres (A_same s p q) M P) : ycI d nX7_same [.ref 2, .int p, .int q] M P := by
  obtain ⟨d, rfl, he⟩ := dS hd
  have h2 := hx.2.1.2.1.2.1
  have h4 := hx.2.1.2.2.1
  have s15 := hx.2.1.1.1
  unfold A_same at h
  have no : ¬ (ipl p = true ∧ ipl q = true) → P (-1) M := fun z => by
    rw [if_neg z] at h
    exact h M D F e e2 hx zfc_rf
  refine en_X7_same _ _ _ M (sg_X7_same_0 _ _ _ M (sp_isPlace (by omega) (fun hp => ⟨fun z => absurd z (by decide), fun _ => ?_⟩) (fun hp => ⟨fun _ => ⟨_, rfl, no fun z => by rw [hp] at z; exact absurd z.1 (by decide)⟩, fun z => absurd rfl z⟩)))
  refine sp_isPlace (by omega) (fun hq => ⟨fun _ => ?_, fun z => absurd (Classical.not_not.mp z) (by decide)⟩) (fun hq => ⟨fun z => absurd rfl z, fun _ => ⟨_, rfl, no fun z => by rw [hq] at z; exact absurd z.2 (by decide)⟩⟩)
  rw [if_pos ⟨hp, hq⟩] at h
  obtain ⟨i, hi, -, rfl, ci⟩ := idx_n (n := 40) hp
  obtain ⟨j, hj, -, rfl, cj⟩ := idx_n (n := 40) hq
  obtain ⟨-, pdi, pki, psi⟩ := xX_at hx hi
  obtain ⟨-, pdj, pkj, psj⟩ := xX_at hx hj
  refine ⟨s15, by rw [h2, h4.1], by rw [h2, h4.1]; exact zin_n hi (by omega), s15, by rw [h2, h4.1], by rw [h2, h4.1]; exact zin_n hj (by omega), by rw [h2, ci, (h4.2 i hi).1]; exact psi.1, ?_⟩
  rw [h2, ci, cj, (h4.2 i hi).1, (h4.2 j hj).1]
  refine sp_isLike (by omega) psi psj pdi pdj pki pkj (fun heq => ⟨fun z => absurd z (by decide), fun _ => ⟨_, rfl, ?_⟩⟩) (fun heq => ⟨fun _ => ⟨_, rfl, ?_⟩, fun z => absurd rfl z⟩)
  · rw [if_pos heq] at h
    exact h M D F e e2 hx zfc_rf
  · rw [if_neg heq] at h
    exact h M D F e e2 hx zfc_rf
theorem gcd_le {a b : Int} (hb : 0 < b) : 0 < (Int.gcd a b : Int) := by
  have : 0 < Int.gcd a b := Int.gcd_pos_of_ne_zero_right a (by omega)
  omega
theorem ediv_bd {a g n : Int} (hg : 0 < g) (hn : 0 ≤ n) (h1 : -n ≤ a) (h2 : a ≤ n) : -n ≤ a / g ∧ a / g ≤ n := by
  have hgn : n ≤ n * g := by
    have := Int.mul_le_mul_of_nonneg_left (show (1 : Int) ≤ g by omega) hn
    rw [Int.mul_one] at this
    exact this
  constructor
  · apply Int.le_ediv_of_mul_le hg
    rw [Int.neg_mul]
    omega
  · by_cases h0 : 0 ≤ a
    · exact Int.le_trans (Int.ediv_le_self g h0) h2
    · have : a / g < 0 := Int.ediv_neg_of_neg_of_pos (by omega) hg
      omega
theorem alow_in {a b : Int} (ha : -1000000000 ≤ a ∧ a ≤ 1000000000) (hb : 0 < b ∧ b ≤ 1000000000) : alow a b = some (a / (Int.gcd a b : Int), b / (Int.gcd a b : Int)) := by
  have hg := gcd_le (a := a) hb.1
  unfold alow
  rw [if_pos ⟨ediv_bd hg (by omega) ha.1 ha.2, (ediv_bd hg (by omega) (by omega) hb.2).2⟩]
theorem cX_term {d D F : Nat} {M : zM} {s : aX} {e e2 : Nat → Nat} {p a b w : Int32} {P : Int32 → zM → Prop} (hd : 10 ≤ d) (hx : xX M s D F e e2) (h : xres (A_term s p a b w) M P) : ycI d nX7_term [.ref 2, .int p, .int a, .int b, .int w] M P := by
  obtain ⟨d, rfl, he⟩ := dS hd
  have h2 := hx.2.1.2.1.2.1
  have h4 := hx.2.1.2.2.1
  have s15 := hx.2.1.1.1
  unfold A_term at h
  refine en_X7_term _ _ _ _ _ M (sg_X7_term_0 _ _ _ _ _ M (sp_isPlace (by omega) (fun hp => ⟨fun _ => ?_, fun z => absurd (Classical.not_not.mp z) (by decide)⟩) (fun hp => ⟨fun z => absurd rfl z, fun _ => ⟨_, rfl, ?_⟩⟩)))
  · rw [if_pos hp] at h
    have no : (alg a 1000000000 = true ∨ alg b 1000000000 = true ∨ b = 0 ∨ atold (xn s) (b4 w) = false) → P (-2) M := fun z => by
      rw [if_pos z] at h
      exact h M D F e e2 hx zfc_rf
    refine sp_isLarge (n := 1000000000) (by omega) (by decide) (by omega) (fun l1 => ⟨fun _ => ⟨_, rfl, no (Or.inl l1)⟩, fun z => absurd (Classical.not_not.mp z) (by decide)⟩) (fun l1 => ⟨fun z => absurd rfl z, fun _ => ?_⟩)
    refine sp_isLarge (n := 1000000000) (by omega) (by decide) (by omega) (fun l2 => ⟨fun _ => ⟨_, rfl, no (Or.inr (Or.inl l2))⟩, fun z => absurd (Classical.not_not.mp z) (by decide)⟩) (fun l2 => ⟨fun z => absurd rfl z, fun _ => ⟨fun b0 => ⟨_, rfl, no (Or.inr (Or.inr (Or.inl b0)))⟩, fun b0 => ⟨s15, ?_⟩⟩⟩)
    refine sp_isTold (by omega) hx (fun l3 => ⟨fun _ => ?_, fun z => absurd (Classical.not_not.mp z) (by decide)⟩) (fun l3 => ⟨fun z => absurd rfl z, fun _ => ⟨_, rfl, no (Or.inr (Or.inr (Or.inr l3)))⟩⟩)
    rw [if_neg (fun z => by
      rcases z with z | z | z | z
      · rw [l1] at z; cases z
      · rw [l2] at z; cases z
      · exact b0 z
      · rw [l3] at z; cases z)] at h
    obtain ⟨i, hi, -, rfl, ci⟩ := idx_n (n := 40) hp
    obtain ⟨-, pd, pk, ps⟩ := xX_at hx hi
    refine ⟨s15, by rw [h2, h4.1], by rw [h2, h4.1]; exact zin_n hi (by omega), ?_⟩
    intro r5
    have e5 : r5 = 5 + 4 * i := by rw [show r5 = zR M (zR M 2 2) (nI i).toNatClampNeg from rfl, h2, ci, (h4.2 i hi).1]
    clear_value r5
    subst e5
    have hm := (atold_iff.mp l3).1
    have la := of_decide_eq_false l1
    have lb := of_decide_eq_false l2
    have hb0 : b.toInt ≠ 0 := fun z => b0 (Int32.toInt_inj.mp (by rw [z, Int32.toInt_zero]))
    refine ⟨fun a0 => ⟨ps.1, _, rfl, ?_⟩, fun a0 => ?_⟩
    · rw [if_pos a0] at h
      rw [pd.1]
      exact h M D F e e2 hx zfc_rf
    · rw [if_neg a0] at h
      have ha0 : a.toInt ≠ 0 := fun z => a0 (Int32.toInt_inj.mp (by rw [z, Int32.toInt_zero]))
      -- what comes
      have fin : ∀ (A B : Int), -1000000000 ≤ A ∧ A ≤ 1000000000 → 0 < B ∧ B ≤ 1000000000 → A ≠ 0 → A = (if b.toInt < 0 then -a.toInt else a.toInt) → B = (if b.toInt < 0 then -b.toInt else b.toInt) → ∀ (x y : Int64), x.toInt = A → y.toInt = B → ycJ d nX2_lowest [.long x, .long y] M fun c11 M10 => ((zsh M10 (5 + 4 * i)).1 = 14 ∧ (ycI d nX6_come [.ref (5 + 4 * i), .long c11, .int w] M10 fun c13 M12 => ((¬ c13 = 0 → ((zsh M12 (5 + 4 * i)).1 = 14 ∧ (∃ x : Int32, [Value.int (zI M12 (5 + 4 * i) 4)] = [.int x] ∧ P x M12))) ∧ (¬ (¬ c13 = 0) → (∃ x : Int32, [Value.int (-7)] = [.int x] ∧ P x M12))))) := by
        intro A B hA hB hA0 eA eB x y hxA hyB
        rw [← eA, ← eB] at h
        refine sp_lowest (by omega) hxA hyB (by omega) (by omega) ⟨ps.1, ?_⟩
        have hal := alow_in hA hB
        cases hf : alow A B with
        | none => rw [hal] at hf; cases hf
        | some f =>
          rw [hf] at h
          obtain ⟨k1, k2, k3⟩ := alow_ok hB.1 hf
          have ht : tok (f, b4 w) := ⟨k1, fun z => hA0 (k2.mp z), hm⟩
          have hc := sp_come (d := d) (p := 5 + 4 * i) (o := 3) (k := xk s) (M := M) (L := xat s (nI i)) (t := (f, b4 w)) (P := fun c13 M12 => ((¬ c13 = 0 → ((zsh M12 (5 + 4 * i)).1 = 14 ∧ (∃ x : Int32, [Value.int (zI M12 (5 + 4 * i) 4)] = [.int x] ∧ P x M12))) ∧ (¬ (¬ c13 = 0) → (∃ x : Int32, [Value.int (-7)] = [.int x] ∧ P x M12)))) (by omega) ps (xX_ost hx) pd pk ht
          have hc := by
            have e : e8 (f, b4 w).2 = w := b4_e8 w
            rw [e] at hc
            exact hc
          refine hc (fun L' M' hL' hfr hpd => ⟨fun _ => ⟨(pst_fr hfr ps).1, _, rfl, ?_⟩, fun z => absurd (Classical.not_not.mp z) (by decide)⟩) (fun hn => ⟨fun z => absurd rfl z, fun _ => ⟨_, rfl, ?_⟩⟩)
          · have h : xres (match acome (xk s) (f, b4 w) (xat s (nI i)) with
              | none => (-7, s)
              | some L => (nI L.length, xput s (nI i) L)) M P := h
            rw [hL'] at h
            rw [hpd.1]
            exact h M' D F e e2 (xX_put hfr hi hpd (acome_ok pk ht hL') hx) (zfc_of hfr (inP_c hi))
          · have h : xres (match acome (xk s) (f, b4 w) (xat s (nI i)) with
              | none => (-7, s)
              | some L => (nI L.length, xput s (nI i) L)) M P := h
            rw [hn] at h
            exact h M D F e e2 hx zfc_rf
      refine ⟨fun c => ?_, fun c => ?_⟩
      · have c := Int32.le_iff_toInt_le.mp c
        rw [Int32.toInt_zero] at c
        exact fin a.toInt b.toInt (by omega) (by omega) ha0 (by rw [if_neg (by omega)]) (by rw [if_neg (by omega)]) _ _ (Int32.toInt_toInt64 a) (Int32.toInt_toInt64 b)
      · have c : ¬ 0 ≤ b.toInt := fun z => c (Int32.le_iff_toInt_le.mpr (by rw [Int32.toInt_zero]; exact z))
        exact fin (-a.toInt) (-b.toInt) (by omega) (by omega) (by omega) (by rw [if_pos (by omega)]) (by rw [if_pos (by omega)]) _ _ (by rw [Int32.toInt_toInt64, ti_neg (by omega)]) (by rw [Int32.toInt_toInt64, ti_neg (by omega)])
  · rw [if_neg (by rw [hp]; decide)] at h
    exact h M D F e e2 hx zfc_rf
end
section
/-! calls of the class: points, order, generators, what stands -/
theorem atm_fk {pt : Nat → Int} {m : aM} {N : Nat} (hx : ∀ v, v < N → fok (pt v, 1)) : ∀ {n v : Nat} {c s : aF}, v + n ≤ N → fok c → atm pt m n v c = some s → fok s
  | 0, v, c, s, _, hc, h => by cases h; exact hc
  | n + 1, v, c, s, hv, hc, h => by
    unfold atm at h
    split at h
    · cases h
    · rename_i s1 hs1
      exact atm_fk hx (by omega) (apw_fok (hx v (by omega)) hc hs1) h
theorem aval_fk {pt : Nat → Int} {N : Nat} (hx : ∀ v, v < N → fok (pt v, 1)) : ∀ {L : aP} {c r : aF}, (∀ t ∈ L, tok t) → fok c → (c.1 = 0 → c.2 = 1) → aval pt N L c = some r → fok r ∧ (r.1 = 0 → r.2 = 1)
  | [], c, r, _, hc, h1, h => by cases h; exact ⟨hc, h1⟩
  | t :: l, c, r, hL, hc, h1, h => by
    unfold aval at h
    split at h
    · cases h
    · rename_i s hs
      split at h
      · cases h
      · rename_i q hq
        have hsk := atm_fk hx (by omega) (hL t List.mem_cons_self).1 hs
        obtain ⟨q1, q2⟩ := afsum_ok hc hsk hq
        exact aval_fk hx (fun u hu => hL u (List.mem_cons_of_mem _ hu)) q1 q2 h
theorem cX_vanishes {d D F : Nat} {M : zM} {s : aX} {e e2 : Nat → Nat} {p a b c g : Int32} {P : Int32 → zM → Prop} (hd : 10 ≤ d) (hx : xX M s D F e e2) (h : xres (A_vanishes s p a b c g) M P) : ycI d nX7_vanishes [.ref 2, .int p, .int a, .int b, .int c, .int g] M P := by
  obtain ⟨d, rfl, he⟩ := dS hd
  have r13 := hx.2.1.2.1.2.2.2.2.2.2.2.2.2
  have s13 := hx.2.1.2.2.2.2.2.2.2.2
  have s15 := hx.2.1.1.1
  have hnv := hx.1.1
  unfold A_vanishes at h
  refine en_X7_vanishes _ _ _ _ _ _ M (sg_X7_vanishes_0 _ _ _ _ _ _ M (sp_isPlace (by omega) (fun hp => ⟨fun _ => ?_, fun z => absurd (Classical.not_not.mp z) (by decide)⟩) (fun hp => ⟨fun z => absurd rfl z, fun _ => ⟨_, rfl, ?_⟩⟩)))
  · rw [if_pos hp] at h
    obtain ⟨i, hi, -, rfl, ci⟩ := idx_n (n := 40) hp
    have z0 : zin 0 4 := zin_n (j := 0) (by omega) (by omega)
    have z1 : zin 1 4 := zin_n (j := 1) (by omega) (by omega)
    have z2 : zin 2 4 := zin_n (j := 2) (by omega) (by omega)
    have z3 : zin 3 4 := zin_n (j := 3) (by omega) (by omega)
    refine ⟨s15, by rw [r13, s13], by rw [r13, s13]; exact z0, ?_⟩
    intro M3
    refine ⟨s15, by rw [r13, s13], by rw [r13, s13]; exact z1, ?_⟩
    intro M4
    refine ⟨s15, by rw [r13, s13], by rw [r13, s13]; exact z2, ?_⟩
    intro M5
    refine ⟨s15, by rw [r13, s13], by rw [r13, s13]; exact z3, ?_⟩
    intro M6
    have e6 : M6 = zuI (zuI (zuI (zuI M 1528 0 a) 1528 1 b) 1528 2 c) 1528 3 g := by
      rw [show M6 = zuI (zuI (zuI (zuI M (zR M 2 13) (0 : Int32).toNatClampNeg a) (zR M 2 13) (1 : Int32).toNatClampNeg b) (zR M 2 13) (2 : Int32).toNatClampNeg c) (zR M 2 13) (3 : Int32).toNatClampNeg g from rfl, r13]
      rfl
    clear_value M6
    have hfr : zfr (fun x => x = 1528) M M6 := by
      rw [e6]
      exact zfr_tr (zfr_uI rfl) (zfr_tr (zfr_uI rfl) (zfr_tr (zfr_uI rfl) (zfr_uI rfl)))
    have hx6 := xX_fr hfr (fun x hz => Or.inr (Or.inr (by omega))) hx
    have hfc : zfc M M6 := zfc_of hfr fun x hz => by omega
    have hpt : ptok M6 1528 (xpt a b c g) := by
      refine ⟨by rw [hfr.1]; exact s13, fun v hv => ?_⟩
      have rg : ∀ y : Int32, -2147483648 ≤ y.toInt ∧ y.toInt < 2147483648 := fun y => ⟨y.le_toInt, y.toInt_lt⟩
      match v, hv with
      | 0, _ => exact ⟨by rw [e6, zI_uI, if_neg (by omega), zI_uI, if_neg (by omega), zI_uI, if_neg (by omega), zI_uI, if_pos ⟨rfl, rfl⟩]; exact (Int32.ofInt_toInt a).symm, rg a⟩
      | 1, _ => exact ⟨by rw [e6, zI_uI, if_neg (by omega), zI_uI, if_neg (by omega), zI_uI, if_pos ⟨rfl, rfl⟩]; exact (Int32.ofInt_toInt b).symm, rg b⟩
      | 2, _ => exact ⟨by rw [e6, zI_uI, if_neg (by omega), zI_uI, if_pos ⟨rfl, rfl⟩]; exact (Int32.ofInt_toInt c).symm, rg c⟩
      | 3, _ => exact ⟨by rw [e6, zI_uI, if_pos ⟨rfl, rfl⟩]; exact (Int32.ofInt_toInt g).symm, rg g⟩
    have hS6 := hx6.2.1
    obtain ⟨-, pd, pk, ps⟩ := xX_at hx6 hi
    have loop : ∀ (n v : Nat) (o2 o3 o4 o5 o7 : Option Value), v + n = xn s → (∀ u, u < v → -1000 ≤ xpt a b c g u ∧ xpt a b c g u ≤ 1000) → wX7_vanishes d (fun r M2 => ∃ x : Int32, r = [.int x] ∧ P x M2) 27 [some (.ref 2), some (.int (nI i)), o2, o3, o4, o5, some (.int (nI v)), o7] [] M6 := by
      intro n
      induction n with
      | zero =>
        intro v o2 o3 o4 o5 o7 hv hb
        have hvn : v = xn s := by omega
        rw [hvn] at hb
        rw [if_neg (by
          rw [List.any_eq_true]
          rintro ⟨u, h1, h2⟩
          have := hb u (List.mem_range.mp h1)
          have := of_decide_eq_true h2
          omega)] at h
        refine sg_X7_vanishes_27 _ _ _ _ _ _ _ _ _ ⟨hS6.1.1, fun _ => ⟨hS6.1.1, by rw [hS6.2.1.2.1, hS6.2.2.1.1], by rw [hS6.2.1.2.1, hS6.2.2.1.1]; exact zin_n hi (by omega), hS6.1.1, hS6.1.1, by rw [hS6.2.1.2.1, ci, (hS6.2.2.1.2 i hi).1]; exact ps.1, ?_⟩, fun z => absurd (by rw [hx6.2.2.1.2.1, hvn]; exact Int32.le_refl _) z⟩
        rw [hS6.2.1.2.1, ci, (hS6.2.2.1.2 i hi).1, hS6.2.1.2.2.2.2.2.2.2.2.2, hx6.2.2.1.2.1]
        refine sp_valueAt (by omega) ps pd pk hpt hb hnv.2 ?_
        have hk2 : ∀ r, aval (xpt a b c g) (xn s) (xat s (nI i)) (0, 1) = some r → fok r ∧ (r.1 = 0 → r.2 = 1) := fun r hr => aval_fk (fun v hv => fok_x1 (by have := hb v hv; omega)) pk.1 (by unfold fok; decide) (fun _ => rfl) hr
        cases hv : aval (xpt a b c g) (xn s) (xat s (nI i)) (0, 1) with
        | none =>
          rw [hv] at h
          exact ⟨fun z => absurd (by decide) z, fun _ => ⟨_, rfl, h M6 D F e e2 hx6 hfc⟩⟩
        | some f =>
          rw [hv] at h
          obtain ⟨f1, f2⟩ := hk2 f hv
          have h : xres (if f.1 = 0 then (1, s) else (0, s)) M P := h
          refine ⟨fun _ => ⟨fun z => ⟨_, rfl, ?_⟩, fun z => ⟨_, rfl, ?_⟩⟩, fun z => absurd (Classical.not_not.mp z) (eF_0 f1)⟩
          · rw [if_neg (fun y => z ((eF_1 f1 f2).mpr y))] at h
            exact h M6 D F e e2 hx6 hfc
          · rw [if_pos ((eF_1 f1 f2).mp (Classical.not_not.mp z))] at h
            exact h M6 D F e e2 hx6 hfc
      | succ n ih =>
        intro v o2 o3 o4 o5 o7 hv hb
        have cv := cl_n (n := v) (by omega)
        refine sg_X7_vanishes_27 _ _ _ _ _ _ _ _ _ ⟨hS6.1.1, fun z => ?_, fun _ => ⟨hS6.1.1, by rw [hS6.2.1.2.2.2.2.2.2.2.2.2, hpt.1], by rw [hS6.2.1.2.2.2.2.2.2.2.2.2, hpt.1]; exact zin_n (by omega) (by omega), ?_⟩⟩
        · rw [hx6.2.2.1.2.1] at z
          have := (nI_leI (by omega) (by omega)).mp z
          omega
        · rw [hS6.2.1.2.2.2.2.2.2.2.2.2, cv, (hpt.2 v (by omega)).1]
          have hti : (Int32.ofInt (xpt a b c g v)).toInt = xpt a b c g v := tI_of (hpt.2 v (by omega)).2
          refine sp_isLarge (n := 1000) (by omega) (by decide) (by omega) (fun l1 => ⟨fun z => absurd z (by decide), fun _ => ⟨_, rfl, ?_⟩⟩) (fun l1 => ⟨fun _ => ?_, fun z => absurd rfl z⟩)
          · have l1 := of_decide_eq_true l1
            rw [hti] at l1
            rw [if_pos (by
              rw [List.any_eq_true]
              exact ⟨v, List.mem_range.mpr (by omega), decide_eq_true (by omega)⟩)] at h
            exact h M6 D F e e2 hx6 hfc
          · have l1 := of_decide_eq_false l1
            rw [hti] at l1
            intro v6
            rw [show v6 = nI (v + 1) from nI_1 v]
            refine ih (v + 1) _ _ _ _ _ (by omega) fun u hu => ?_
            by_cases e : u = v
            · rw [e]; omega
            · exact hb u (by omega)
    exact loop (xn s) 0 _ _ _ _ _ (by omega) fun u hu => absurd hu (Nat.not_lt_zero _)
  · rw [if_neg (by rw [hp]; decide)] at h
    exact h M D F e e2 hx zfc_rf
theorem cX_order {d D F : Nat} {M : zM} {s : aX} {e e2 : Nat → Nat} {a : Int32} {P : Int32 → zM → Prop} (hd : 10 ≤ d) (hx : xX M s D F e e2) (h : xres (A_order s a) M P) : ycI d nX7_order [.ref 2, .int a] M P := by
  obtain ⟨d, rfl, he⟩ := dS hd
  have r1 := hx.2.1.2.1.1
  have s15 := hx.2.1.1.1
  have s13 := hx.2.1.1.2
  obtain ⟨ok, hS, hN, hP, hG, hE, hDn, hQ⟩ := hx
  unfold A_order at h
  have no : idx a 3 = false → P (-2) M := fun z => by
    rw [if_neg (by rw [z]; decide)] at h
    exact h M D F e e2 ⟨ok, hS, hN, hP, hG, hE, hDn, hQ⟩ zfc_rf
  refine en_X7_order _ _ M (sg_X7_order_0 _ _ M ⟨fun c => ⟨_, rfl, no (idx_ge (by omega) (Or.inl c))⟩, fun c0 => ⟨fun c => ⟨s15, by rw [r1]; exact s13, ?_⟩, fun c => ⟨_, rfl, no (idx_ge (by omega) (Or.inr ?_))⟩⟩⟩)
  · have hid : idx a 3 = true := idx_lt (by omega) c0 fun z => by
      have z1 := Int32.le_iff_toInt_le.mp z
      have z2 := Int32.le_iff_toInt_le.mp c
      rw [show (nI 3).toInt = 3 by decide] at z1
      rw [show (2 : Int32).toInt = 2 by decide] at z2
      omega
    rw [if_pos hid] at h
    obtain ⟨k', hk', -, rfl, ck⟩ := idx_n hid
    rw [ck] at h
    intro v2
    rw [show v2 = nI (xk s) by rw [show v2 = zI M (zR M 2 1) 0 from rfl, r1]; exact hN.1]
    refine ⟨s15, by rw [r1]; exact s13, ?_⟩
    intro M2
    have e2' : M2 = zuI M 3 0 (nI k') := by rw [show M2 = zuI M (zR M 2 1) 0 (nI k') from rfl, r1]
    clear_value M2
    have hfr2 : zfr (fun x => x = 3) M M2 := by rw [e2']; exact zfr_uI rfl
    have ho2 : ost M2 3 k' := ⟨by rw [hfr2.1]; exact s13, by rw [e2', zI_uI, if_pos ⟨rfl, rfl⟩], by omega⟩
    have hP2 : ∀ (i : Nat) (L : aP), (xpl s)[i]? = some L → pdy M2 (5 + 4 * i) (xk s) L := fun i L hi => pdy_fr hfr2 (fun x hz => by unfold inP at hz; omega) (hP i L hi)
    have hG2 : ∀ (i : Nat) (L : aP), (xgs s)[i]? = some L → pdy M2 (166 + 4 * i) (xk s) L := fun i L hi => pdy_fr hfr2 (fun x hz => by unfold inP at hz; omega) (hG i L hi)
    have hpl := ok.2.2.1
    have hgl := ok.2.2.2.1
    -- generators
    have loopG : ∀ (n i : Nat) (M' : zM) (o1 : Option Value), i + n = (xgs s).length → zfr (fun x => x = 3 ∨ (5 ≤ x ∧ x < 202)) M M' → ost M' 3 k' → (∀ (j : Nat) (L : aP), (xpl s)[j]? = some L → pdy M' (5 + 4 * j) k' (asrt k' L [])) → (∀ (j : Nat) (L : aP), (xgs s)[j]? = some L → (j < i → pdy M' (166 + 4 * j) k' (asrt k' L [])) ∧ (i ≤ j → pdy M' (166 + 4 * j) (xk s) L)) → wX7_order d (fun r M2 => ∃ x : Int32, r = [.int x] ∧ P x M2) 29 [some (.ref 2), o1, some (.int (nI (xk s))), some (.int (nI i))] [] M' := by
      intro n
      induction n with
      | zero =>
        intro i M' o1 hi hfr ho' hp' hg'
        have hS' := xS_fr hfr hS
        have f2 : ∀ j, zI M' 2 j = zI M 2 j := (hfr.2.2.2.2 2 (by omega)).1
        refine sg_X7_order_29 _ _ _ _ _ ⟨hS'.1.1, fun _ => ⟨hS'.1.1, ?_⟩, fun z => absurd (by rw [f2, hN.2.2.1, show i = (xgs s).length by omega]; exact Int32.le_refl _) z⟩
        refine sp_forget (by omega) hS' fun M3 hfr3 h36 h310 h3o => ⟨_, rfl, ?_⟩
        have hfa : zfr (fun x => x = 2 ∨ x = 3 ∨ (5 ≤ x ∧ x < 202)) M M3 := zfr_tr (zfr_up hfr fun x hz => Or.inr hz) (zfr_up hfr3 fun x hz => Or.inl hz)
        refine h M3 D F e e2 ⟨⟨ok.1, by show k' ≤ 2; omega, ⟨?_, fun L hL => ?_⟩, ⟨?_, fun L hL => ?_⟩, fun z => (by cases z), fun z => (by cases z)⟩, xS_fr hfr3 hS', ⟨?_, ?_, ?_, h36, h310⟩, fun j L hj => ?_, fun j L hj => ?_, fun z => (by cases z), ?_, fun z => (by cases z)⟩ (zfc_of hfa fun x hz => by omega)
        · show ((xpl s).map _).length = 40
          rw [List.length_map]; exact hpl.1
        · obtain ⟨L0, h1, rfl⟩ := List.mem_map.mp (show L ∈ (xpl s).map _ from hL)
          exact asrt_pok (hpl.2 L0 h1)
        · show ((xgs s).map _).length ≤ 8
          rw [List.length_map]; exact hgl.1
        · obtain ⟨L0, h1, rfl⟩ := List.mem_map.mp (show L ∈ (xgs s).map _ from hL)
          exact asrt_pok (hgl.2 L0 h1)
        · rw [(hfr3.2.2.2.2 3 (by omega)).1]; exact ho'.2.1
        · rw [h3o 0 (by omega) (by omega), f2]; exact hN.2.1
        · rw [h3o 4 (by omega) (by omega), f2, hN.2.2.1]
          show _ = nI ((xgs s).map _).length
          rw [List.length_map]
        · have hj : ((xpl s).map fun L => asrt k' L [])[j]? = some L := hj
          rw [List.getElem?_map] at hj
          cases hu : (xpl s)[j]? with
          | none => rw [hu] at hj; cases hj
          | some L0 =>
            rw [hu] at hj
            cases hj
            exact pdy_fr hfr3 (fun x hz => by unfold inP at hz; omega) (hp' j L0 hu)
        · have hj : ((xgs s).map fun L => asrt k' L [])[j]? = some L := hj
          rw [List.getElem?_map] at hj
          cases hu : (xgs s)[j]? with
          | none => rw [hu] at hj; cases hj
          | some L0 =>
            rw [hu] at hj
            cases hj
            have := (List.getElem?_eq_some_iff.mp hu).1
            exact pdy_fr hfr3 (fun x hz => by unfold inP at hz; omega) ((hg' j L0 hu).1 (by omega))
        · have f202 : ∀ j, zI M3 202 j = zI M 202 j := (hfa.2.2.2.2 202 (by omega)).1
          exact ⟨by rw [f202]; exact hDn.1, by rw [f202]; exact hDn.2.1, by rw [f202]; exact hDn.2.2.1, by rw [f202]; exact hDn.2.2.2⟩
      | succ n ih =>
        intro i M' o1 hi hfr ho' hp' hg'
        have hS' := xS_fr hfr hS
        have f2 : ∀ j, zI M' 2 j = zI M 2 j := (hfr.2.2.2.2 2 (by omega)).1
        have ci := cl_n (n := i) (by omega)
        have hgi := hS'.2.2.2.1.2 i (by omega)
        have r3 := hS'.2.1.2.2.1
        have hil : i < (xgs s).length := by omega
        have hu := List.getElem?_eq_getElem hil
        refine sg_X7_order_29 _ _ _ _ _ ⟨hS'.1.1, fun z => ?_, fun _ => ⟨hS'.1.1, by rw [r3, hS'.2.2.2.1.1], by rw [r3, hS'.2.2.2.1.1]; exact zin_n (by omega) (by omega), by rw [r3, ci, hgi.1]; exact hgi.2.1, ?_⟩⟩
        · rw [f2, hN.2.2.1] at z
          have := (nI_leI (by omega) (by omega)).mp z
          omega
        · rw [r3, ci, hgi.1]
          refine sp_arrange (by omega) hgi.2 (by unfold inP; omega) ho' ((hg' i _ hu).2 (Nat.le_refl _)) (hgl.2 _ (List.getElem_mem hil)) fun M3 hfr3 hpd3 => ?_
          intro v3
          rw [show v3 = nI (i + 1) from nI_1 i]
          refine ih (i + 1) M3 _ (by omega) (zfr_tr hfr (zfr_up hfr3 fun x hz => Or.inr (by unfold inP at hz; omega))) (ost_fr hfr3 (by unfold inP; omega) ho') (fun j L hj => ?_) fun j L hj => ⟨fun hji => ?_, fun hji => ?_⟩
          · have hjl := (List.getElem?_eq_some_iff.mp hj).1
            rw [hpl.1] at hjl
            exact pdy_fr hfr3 (fun x hz => by unfold inP at hz; unfold inP; omega) (hp' j L hj)
          · by_cases hje : j = i
            · subst hje
              rw [hu] at hj
              cases hj
              rw [show 166 + 4 * j = 165 + 1 + 4 * j by omega]
              exact hpd3
            · exact pdy_fr hfr3 (fun x hz => by unfold inP at hz; unfold inP; omega) ((hg' j L hj).1 (by omega))
          · exact pdy_fr hfr3 (fun x hz => by unfold inP at hz; unfold inP; omega) ((hg' j L hj).2 (by omega))
    -- places
    have loopP : ∀ (n i : Nat) (M' : zM) (o1 : Option Value), i + n = 40 → zfr (fun x => x = 3 ∨ (5 ≤ x ∧ x < 165)) M M' → ost M' 3 k' → (∀ (j : Nat) (L : aP), (xpl s)[j]? = some L → (j < i → pdy M' (5 + 4 * j) k' (asrt k' L [])) ∧ (i ≤ j → pdy M' (5 + 4 * j) (xk s) L)) → wX7_order d (fun r M2 => ∃ x : Int32, r = [.int x] ∧ P x M2) 17 [some (.ref 2), o1, some (.int (nI (xk s))), some (.int (nI i))] [] M' := by
      intro n
      induction n with
      | zero =>
        intro i M' o1 hi hfr ho' hp'
        refine sg_X7_order_17 _ _ _ _ _ ⟨fun _ => ?_, fun z => absurd (by rw [show i = 40 by omega]; exact Int32.le_refl _) z⟩
        refine loopG (xgs s).length 0 M' _ (by omega) (zfr_up hfr fun x hz => by omega) ho' (fun j L hj => (hp' j L hj).1 ?_) fun j L hj => ⟨fun z => absurd z (Nat.not_lt_zero _), fun _ => ?_⟩
        · have := (List.getElem?_eq_some_iff.mp hj).1
          rw [hpl.1] at this
          omega
        · exact pdy_fr hfr (fun x hz => by unfold inP at hz; omega) (hG j L hj)
      | succ n ih =>
        intro i M' o1 hi hfr ho' hp'
        have hS' := xS_fr hfr hS
        have ci := cl_n (n := i) (by omega)
        have hgi := hS'.2.2.1.2 i (by omega)
        have r2 := hS'.2.1.2.1
        have hil : i < (xpl s).length := by rw [hpl.1]; omega
        have hu := List.getElem?_eq_getElem hil
        refine sg_X7_order_17 _ _ _ _ _ ⟨fun z => ?_, fun _ => ⟨hS'.1.1, by rw [r2, hS'.2.2.1.1], by rw [r2, hS'.2.2.1.1]; exact zin_n (by omega) (by omega), by rw [r2, ci, hgi.1]; exact hgi.2.1, ?_⟩⟩
        · have := (nI_leI (a := 40) (by omega) (by omega)).mp z
          omega
        · rw [r2, ci, hgi.1]
          refine sp_arrange (by omega) hgi.2 (by unfold inP; omega) ho' ((hp' i _ hu).2 (Nat.le_refl _)) (hpl.2 _ (List.getElem_mem hil)) fun M3 hfr3 hpd3 => ?_
          intro v3
          rw [show v3 = nI (i + 1) from nI_1 i]
          refine ih (i + 1) M3 _ (by omega) (zfr_tr hfr (zfr_up hfr3 fun x hz => Or.inr (by unfold inP at hz; omega))) (ost_fr hfr3 (by unfold inP; omega) ho') fun j L hj => ⟨fun hji => ?_, fun hji => ?_⟩
          · by_cases hje : j = i
            · subst hje
              rw [hu] at hj
              cases hj
              exact hpd3
            · exact pdy_fr hfr3 (inP_ne (by omega)) ((hp' j L hj).1 (by omega))
          · exact pdy_fr hfr3 (inP_ne (by omega)) ((hp' j L hj).2 (by omega))
    exact loopP 40 0 M2 _ (by omega) (zfr_up hfr2 fun x hz => Or.inl hz) ho2 fun j L hj => ⟨fun z => absurd z (Nat.not_lt_zero _), fun _ => hP2 j L hj⟩
  · have c := Int32.not_le.mp c
    have c1 := Int32.lt_iff_toInt_lt.mp c
    rw [show (2 : Int32).toInt = 2 by decide] at c1
    exact Int32.le_iff_toInt_le.mpr (by rw [show (nI 3).toInt = 3 by decide]; omega)
/-- generators are other ones -/
theorem xX_gen {M M' : zM} {s : aX} {D F : Nat} {e e2 : Nat → Nat} {gs : List aP} (hx : xX M s D F e e2) (h : zfr (fun x => x = 2 ∨ (166 ≤ x ∧ x < 202)) M M') (h6 : zI M' 2 6 = 0) (h10 : zI M' 2 10 = 0) (h0 : zI M' 2 0 = zI M 2 0) (h4 : zI M' 2 4 = nI gs.length) (hl : gs.length ≤ 8) (hk : ∀ L ∈ gs, pok (xk s) L) (hg : ∀ (i : Nat) (L : aP), gs[i]? = some L → pdy M' (166 + 4 * i) (xk s) L) : xX M' (xgen s gs) D F e e2 := by
  obtain ⟨ok, hS, hN, hP, hG, hE, hDn, hQ⟩ := hx
  have f202 : ∀ j, zI M' 202 j = zI M 202 j := (h.2.2.2.2 202 (by omega)).1
  refine ⟨⟨ok.1, ok.2.1, ok.2.2.1, ⟨hl, hk⟩, fun z => (by cases z), fun z => (by cases z)⟩, xS_fr h hS, ⟨?_, ?_, h4, h6, h10⟩, fun i L hi => ?_, hg, fun z => (by cases z), ⟨by rw [f202]; exact hDn.1, by rw [f202]; exact hDn.2.1, by rw [f202]; exact hDn.2.2.1, by rw [f202]; exact hDn.2.2.2⟩, fun z => (by cases z)⟩
  · rw [(h.2.2.2.2 3 (by omega)).1]; exact hN.1
  · rw [h0]; exact hN.2.1
  · have := (List.getElem?_eq_some_iff.mp hi).1
    have h40 := ok.2.2.1.1
    have : i < 40 := by rw [← h40]; exact this
    exact pdy_fr h (fun a ha => by unfold inP at ha; omega) (hP i L hi)
theorem cX_clear {d D F : Nat} {M : zM} {s : aX} {e e2 : Nat → Nat} {P : Int32 → zM → Prop} (hd : 10 ≤ d) (hx : xX M s D F e e2) (h : xres (A_clear s) M P) : ycI d nX7_clear [.ref 2] M P := by
  obtain ⟨d, rfl, he⟩ := dS hd
  have s15 := hx.2.1.1.1
  refine en_X7_clear _ M (sg_X7_clear_0 _ M ⟨s15, ?_⟩)
  intro v1
  rw [show v1 = nI (xgs s).length from hx.2.2.1.2.2.1]
  refine ⟨s15, ?_⟩
  intro M2
  have hfr2 : zfr (fun x => x = 2) M M2 := zfr_uI rfl
  have g : ∀ j, j ≠ 4 → zI M2 2 j = zI M 2 j := fun j hj => by rw [show M2 = zuI M 2 4 0 from rfl, zI_uI, if_neg (by omega)]
  refine ⟨s15, sp_forget (by omega) (xS_fr hfr2 hx.2.1) fun M3 hfr3 h36 h310 h3o => ⟨_, rfl, ?_⟩⟩
  have hfa := zfr_tr hfr2 hfr3
  refine h M3 D F e e2 (xX_gen hx (zfr_up hfa fun x hz => Or.inl hz) h36 h310 (by rw [h3o 0 (by omega) (by omega), g 0 (by omega)]) ?_ (Nat.zero_le _) (fun _ hL => absurd hL List.not_mem_nil) fun i L hi => by cases hi) (zfc_of hfa fun x hz => by omega)
  rw [h3o 4 (by omega) (by omega), show M2 = zuI M 2 4 0 from rfl, zI_uI, if_pos ⟨rfl, rfl⟩]
  rfl
theorem cX_generator {d D F : Nat} {M : zM} {s : aX} {e e2 : Nat → Nat} {p : Int32} {P : Int32 → zM → Prop} (hd : 10 ≤ d) (hx : xX M s D F e e2) (h : xres (A_generator s p) M P) : ycI d nX7_generator [.ref 2, .int p] M P := by
  obtain ⟨d, rfl, he⟩ := dS hd
  have h2 := hx.2.1.2.1.2.1
  have h4 := hx.2.1.2.2.1
  have s15 := hx.2.1.1.1
  have r3 := hx.2.1.2.1.2.2.1
  have hgl := hx.1.2.2.2.1
  have n4 := hx.2.2.1.2.2.1
  unfold A_generator at h
  refine en_X7_generator _ _ M (sg_X7_generator_0 _ _ M (sp_isPlace (by omega) (fun hp => ⟨fun _ => ⟨s15, fun c => ?_, fun c => ⟨_, rfl, ?_⟩⟩, fun z => absurd (Classical.not_not.mp z) (by decide)⟩) (fun hp => ⟨fun z => absurd rfl z, fun _ => ⟨_, rfl, ?_⟩⟩)))
  · rw [n4] at c
    have c := (nI_ltI (b := 8) (by omega) (by omega)).mp c
    rw [if_pos hp, if_neg (by omega)] at h
    obtain ⟨i, hi, -, rfl, ci⟩ := idx_n (n := 40) hp
    obtain ⟨-, pd, pk, ps⟩ := xX_at hx hi
    have cg := cl_n (n := (xgs s).length) (by omega)
    have hgn := hx.2.1.2.2.2.1.2 (xgs s).length (by omega)
    refine ⟨s15, s15, by rw [r3, hx.2.1.2.2.2.1.1], by rw [r3, hx.2.1.2.2.2.1.1, n4]; exact zin_n (by omega) (by omega), s15, by rw [h2, h4.1], by rw [h2, h4.1]; exact zin_n hi (by omega), by rw [r3, n4, cg, hgn.1]; exact hgn.2.1, ?_⟩
    rw [r3, n4, cg, hgn.1, h2, ci, (h4.2 i hi).1]
    refine sp_become (by omega) hgn.2 ps (by omega) pd pk.2.2 fun M1 hfr1 hpd1 => ?_
    have hS1 := xS_fr hfr1 hx.2.1
    have f2 : ∀ j, zI M1 2 j = zI M 2 j := (hfr1.2.2.2.2 2 (by unfold inP; omega)).1
    refine ⟨hS1.1.1, hS1.1.1, ?_⟩
    intro M2
    have hfr2 : zfr (fun x => x = 2) M1 M2 := zfr_uI rfl
    have g : ∀ j, j ≠ 4 → zI M2 2 j = zI M1 2 j := fun j hj => by rw [show M2 = zuI M1 2 4 (zI M1 2 4 + 1) from rfl, zI_uI, if_neg (by omega)]
    have g4 : zI M2 2 4 = nI ((xgs s).length + 1) := by rw [show M2 = zuI M1 2 4 (zI M1 2 4 + 1) from rfl, zI_uI, if_pos ⟨rfl, rfl⟩, f2, n4, nI_1]
    refine ⟨hS1.1.1, sp_forget (by omega) (xS_fr hfr2 hS1) fun M3 hfr3 h36 h310 h3o => ?_⟩
    have e4 : zI M3 2 4 = nI ((xgs s).length + 1) := by rw [h3o 4 (by omega) (by omega)]; exact g4
    have hfa : zfr (fun x => x = 2 ∨ (166 ≤ x ∧ x < 202)) M M3 := zfr_tr (zfr_up hfr1 fun x hz => Or.inr (by unfold inP at hz; omega)) (zfr_up (zfr_tr hfr2 hfr3) fun x hz => Or.inl hz)
    refine ⟨(xS_fr hfr3 (xS_fr hfr2 hS1)).1.1, _, rfl, ?_⟩
    rw [e4, show nI ((xgs s).length + 1) - 1 = nI (xgs s).length from nI_pred _]
    refine h M3 D F e e2 (xX_gen hx hfa h36 h310 (by rw [h3o 0 (by omega) (by omega), g 0 (by omega), f2]) (by rw [e4, List.length_append]; rfl) (by rw [List.length_append]; simp; omega) (fun L hL => ?_) fun j L hj => ?_) (zfc_of hfa fun x hz => by omega)
    · rcases List.mem_append.mp hL with hL | hL
      · exact hgl.2 L hL
      · rw [List.mem_singleton.mp hL]; exact pk
    · have h3p : ∀ {p : Nat} {L : aP}, 166 ≤ p → pdy M1 p (xk s) L → pdy M3 p (xk s) L := fun hp hq => pdy_fr (zfr_tr hfr2 hfr3) (fun x hz => by unfold inP at hz; omega) hq
      by_cases hjl : j < (xgs s).length
      · rw [List.getElem?_append_left hjl] at hj
        exact h3p (by omega) (pdy_fr hfr1 (fun x hz => by unfold inP at hz; unfold inP; omega) (hx.2.2.2.2.1 j L hj))
      · have hjj := (List.getElem?_eq_some_iff.mp hj).1
        rw [List.length_append] at hjj
        have hje : j = (xgs s).length := by simp at hjj; omega
        rw [List.getElem?_append_right (by omega), hje, Nat.sub_self] at hj
        have hj : some (xat s (nI i)) = some L := hj
        cases hj
        rw [hje]
        refine h3p (by omega) ?_
        rw [show 166 + 4 * (xgs s).length = 165 + 1 + 4 * (xgs s).length by omega]
        exact hpd1
  · rw [n4] at c
    have c : 8 ≤ (xgs s).length := Nat.le_of_not_lt fun z => c ((nI_ltI (b := 8) (by omega) (by omega)).mpr z)
    rw [if_pos hp, if_pos c] at h
    exact h M D F e e2 hx zfc_rf
  · rw [if_neg (by rw [hp]; decide)] at h
    exact h M D F e e2 hx zfc_rf
theorem cX_done {d D F : Nat} {M : zM} {s : aX} {e e2 : Nat → Nat} {w : Int32} {P : Int32 → zM → Prop} (hd : 10 ≤ d) (hx : xX M s D F e e2) (h : xres (A_done s w) M P) : ycI d nX7_done [.ref 2, .int w] M P := by
  obtain ⟨d, rfl, he⟩ := dS hd
  have s15 := hx.2.1.1.1
  have r5 := hx.2.1.2.1.2.2.2.1
  have s12 := hx.2.1.2.2.2.2.1.1.1.1
  have dn := hx.2.2.2.2.2.2.1
  unfold A_done at h
  refine en_X7_done _ _ M (sg_X7_done_0 _ _ M ⟨fun w0 => ⟨s15, by rw [r5]; exact s12, _, rfl, ?_⟩, fun w0 => ⟨fun w1 => ⟨s15, by rw [r5]; exact s12, _, rfl, ?_⟩, fun w1 => ⟨fun w2 => ⟨s15, by rw [r5]; exact s12, _, rfl, ?_⟩, fun w2 => ⟨fun w3 => ⟨s15, by rw [r5]; exact s12, _, rfl, ?_⟩, fun w3 => ⟨_, rfl, ?_⟩⟩⟩⟩⟩)
  · rw [if_pos w0] at h
    rw [r5, dn.1]
    exact h M D F e e2 hx zfc_rf
  · rw [if_neg w0, if_pos w1] at h
    rw [r5, dn.2.1]
    exact h M D F e e2 hx zfc_rf
  · rw [if_neg w0, if_neg w1, if_pos w2] at h
    rw [r5, dn.2.2.1]
    exact h M D F e e2 hx zfc_rf
  · rw [if_neg w0, if_neg w1, if_neg w2, if_pos w3] at h
    rw [r5, dn.2.2.2]
    exact h M D F e e2 hx zfc_rf
  · rw [if_neg w0, if_neg w1, if_neg w2, if_neg w3] at h
    exact h M D F e e2 hx zfc_rf
end
section
/-! calls of the class: bases -/
theorem eB_1 {b : Bool} : ¬ eB b = 0 ↔ b = true := by cases b <;> decide
theorem eB_0 {b : Bool} : eB b = 0 ↔ b = false := by cases b <;> decide
theorem ist_fo {S : Nat → Prop} {R : Nat} {M M' : zM} {H o w : Nat} {eid : Nat → Nat} (h : zfq S R M M') (hR : ¬ inI H w R) (hi : ist M H o w eid) : ist M' H o w eid := by
  obtain ⟨⟨h1, h2, h3, h4, h5⟩, h6, h7, h8⟩ := hi
  have hn : ∀ a, inI H w a → a ≠ R := fun a ha e => hR (e ▸ ha)
  refine ⟨⟨by rw [h.1]; exact h1, by rw [h.2.2.2.1 _ _ (hn _ (by unfold inI; omega))]; exact h2, by rw [h.2.2.2.1 _ _ (hn _ (by unfold inI; omega))]; exact h3, by rw [h.2.2.2.1 _ _ (hn _ (by unfold inI; omega))]; exact h4, by rw [h.1]; exact h5⟩, ⟨by rw [h.1]; exact h6.1, fun i hi => ⟨by rw [h.2.2.2.1 _ _ (hn _ (by unfold inI; omega))]; exact (h6.2 i hi).1, est_fq h (fun z => hR ?_) (h6.2 i hi).2⟩⟩, h7, h8⟩
  have := h7.1 i hi
  unfold inE at z
  unfold inI
  omega
theorem xS_fq {S : Nat → Prop} {R : Nat} {M M' : zM} {D F : Nat} {e e2 e' e2' : Nat → Nat} (hR : R = 203 ∨ R = 1156) (h : zfq S R M M') (hx : xS M D F e e2) (g1 : ist M' 202 3 8 e') (g2 : ist M' 1155 3 0 e2') : xS M' D F e' e2' := by
  obtain ⟨⟨h1, h1'⟩, ⟨r1, r2, r3, r5, r7, r8, r9, r11, r12, r13⟩, h3, h4, ⟨h5, h5'⟩, ⟨h6, h6', h6''⟩, h7, h8, h9⟩ := hx
  have R2 : ∀ j, zR M' 2 j = zR M 2 j := fun j => h.2.2.2.1 2 j (by omega)
  exact ⟨⟨by rw [h.1]; exact h1, by rw [h.1]; exact h1'⟩, ⟨by rw [R2]; exact r1, by rw [R2]; exact r2, by rw [R2]; exact r3, by rw [R2]; exact r5, by rw [R2]; exact r7, by rw [R2]; exact r8, by rw [R2]; exact r9, by rw [R2]; exact r11, by rw [R2]; exact r12, by rw [R2]; exact r13⟩, ⟨by rw [h.1]; exact h3.1, fun i hi => ⟨by rw [h.2.2.2.1 _ _ (by omega)]; exact (h3.2 i hi).1, pst_fq h (by omega) (h3.2 i hi).2⟩⟩, gst_fq h (by omega) h4, ⟨g1, g2⟩, ⟨dst_fq h (by unfold inD; omega) h6, dst_fq h (by unfold inD; omega) h6', h6''⟩, pst_fq h (by omega) h7, pst_fq h (by omega) h8, by rw [h.1]; exact h9⟩
theorem xX_fq {S : Nat → Prop} {M M' : zM} {s : aX} {D F : Nat} {e e2 e2' : Nat → Nat} (h : zfq S 1156 M M') (hs : ∀ a, S a → scr D a ∨ (166 + 4 * (xgs s).length ≤ a ∧ a < 202)) (g2 : ist M' 1155 3 0 e2') (hx : xX M s D F e e2) : xX M' s D F e e2' := by
  obtain ⟨ok, hS, ⟨n1, n2, n3, n4, n5⟩, hP, hG, hE, ⟨d1, d2, d3, d4⟩, hQ⟩ := hx
  have hD := hS.2.2.2.2.2.1.2.2
  have gl := ok.2.2.2.1.1
  have ns : ∀ a, ¬ (scr D a ∨ (166 + 4 * (xgs s).length ≤ a ∧ a < 202)) → ¬ S a := fun a ha z => ha (hs a z)
  have f2 := h.2.2.2.2 2 (ns 2 (by unfold scr inD inI; omega))
  have f3 := h.2.2.2.2 3 (ns 3 (by unfold scr inD inI; omega))
  have f202 := h.2.2.2.2 202 (ns 202 (by unfold scr inD inI; omega))
  refine ⟨ok, xS_fq (Or.inr rfl) h hS (ist_fo h (by unfold inI; omega) hS.2.2.2.2.1.1) g2, ⟨by rw [f3.1]; exact n1, by rw [f2.1]; exact n2, by rw [f2.1]; exact n3, by rw [f2.1]; exact n4, by rw [f2.1]; exact n5⟩, fun i L hi => pdy_fq h (fun a ha => ns a ?_) (hP i L hi), fun i L hi => pdy_fq h (fun a ha => ns a ?_) (hG i L hi), fun hh => ⟨?_, fun i E hi => edy_fq (w := 8) h ?_ (fun a ha => ns a ?_) ((hE hh).2 i E hi)⟩, ⟨by rw [f202.1]; exact d1, by rw [f202.1]; exact d2, by rw [f202.1]; exact d3, by rw [f202.1]; exact d4⟩, fun hh hp i q hi => pdy_fq h (fun a ha => ns a ?_) (hQ hh hp i q hi)⟩
  · have := (List.getElem?_eq_some_iff.mp hi).1
    rw [ok.2.2.1.1] at this
    unfold inP at ha
    unfold scr inD inI
    omega
  · have := (List.getElem?_eq_some_iff.mp hi).1
    unfold inP at ha
    unfold scr inD inI
    omega
  · obtain ⟨i1, i2, i3⟩ := (hE hh).1
    exact ⟨by rw [f202.1]; exact i1, by rw [f202.1]; exact i2, i3⟩
  · rw [((ok.2.2.2.2.1 hh).1 E (List.mem_of_getElem? hi)).2.2]; exact gl
  · have hil := (List.getElem?_eq_some_iff.mp hi).1
    have hl := (ok.2.2.2.2.1 hh).2
    have := hS.2.2.2.2.1.1.2.2.1.1 i (by omega)
    unfold inE at ha
    unfold scr inD inI
    omega
  · have := (List.getElem?_eq_some_iff.mp hi).1
    have := (ok.2.2.2.2.2 hh hp).1
    have := (ok.2.2.2.2.1 hh).2
    unfold inP at ha
    unfold scr inD inI
    omega
theorem xX_gdy {M : zM} {s : aX} {D F : Nat} {e e2 : Nat → Nat} (hx : xX M s D F e e2) : gdy M 165 (xk s) (xgs s) := fun g L hg => by
  refine ⟨?_, hx.1.2.2.2.1.2 L (List.mem_of_getElem? hg)⟩
  rw [show 165 + 1 + 4 * g = 166 + 4 * g by omega]
  exact hx.2.2.2.2.1 g L hg
theorem sp_isElement {d D F : Nat} {M : zM} {s : aX} {e e2 : Nat → Nat} {i : Int32} {P : Int32 → zM → Prop} (hd : 1 ≤ d) (hx : xX M s D F e e2) (hh : xhs s = true) (h1 : idx i (xes s).length = true → P 1 M) (h0 : idx i (xes s).length = false → P 0 M) : ycI d nX7_isElement [.ref 2, .int i] M P := by
  obtain ⟨d, rfl, he⟩ := dS hd
  have r5 := hx.2.1.2.1.2.2.2.1
  have hc := (hx.2.2.2.2.2.1 hh).1
  have hl := hc.2.2
  refine en_X7_isElement _ _ M (sg_X7_isElement_0 _ _ M ⟨fun c => ⟨Or.inl rfl, _, rfl, h0 (idx_ge (by omega) (Or.inl c))⟩, fun c => ⟨hx.2.1.1.1, by rw [r5]; exact hx.2.1.2.2.2.2.1.1.1.1, ?_⟩⟩)
  rw [r5, hc.1]
  exact ⟨fun c2 => ⟨Or.inl rfl, _, rfl, h0 (idx_ge (by omega) (Or.inr c2))⟩, fun c2 => ⟨Or.inr rfl, _, rfl, h1 (idx_lt (by omega) c c2)⟩⟩
theorem sp_isGenerator {d D F : Nat} {M : zM} {s : aX} {e e2 : Nat → Nat} {i : Int32} {P : Int32 → zM → Prop} (hd : 1 ≤ d) (hx : xX M s D F e e2) (h1 : idx i (xgs s).length = true → P 1 M) (h0 : idx i (xgs s).length = false → P 0 M) : ycI d nX7_isGenerator [.ref 2, .int i] M P := by
  obtain ⟨d, rfl, he⟩ := dS hd
  have hl := hx.1.2.2.2.1.1
  refine en_X7_isGenerator _ _ M (sg_X7_isGenerator_0 _ _ M ⟨fun c => ⟨Or.inl rfl, _, rfl, h0 (idx_ge (by omega) (Or.inl c))⟩, fun c => ⟨hx.2.1.1.1, ?_⟩⟩)
  rw [hx.2.2.1.2.2.1]
  exact ⟨fun c2 => ⟨Or.inl rfl, _, rfl, h0 (idx_ge (by omega) (Or.inr c2))⟩, fun c2 => ⟨Or.inr rfl, _, rfl, h1 (idx_lt (by omega) c c2)⟩⟩
theorem cX_element {d D F : Nat} {M : zM} {s : aX} {e e2 : Nat → Nat} {i r : Int32} {P : Int32 → zM → Prop} (hd : 10 ≤ d) (hx : xX M s D F e e2) (h : xres (A_element s i r) M P) : ycI d nX7_element [.ref 2, .int i, .int r] M P := by
  obtain ⟨d, rfl, he⟩ := dS hd
  have s15 := hx.2.1.1.1
  have r5 := hx.2.1.2.1.2.2.2.1
  have hI := hx.2.1.2.2.2.2.1.1
  unfold A_element at h
  refine en_X7_element _ _ _ M (sg_X7_element_0 _ _ _ M ⟨s15, fun c => ⟨s15, ?_⟩, fun c => ⟨_, rfl, ?_⟩⟩)
  · rw [hx.2.2.1.2.2.2.1] at c
    have hh := eB_1.mp c
    rw [if_pos hh] at h
    have no : ¬ (idx i (xes s).length = true ∧ ipl r = true) → P (-1) M := fun z => by
      rw [if_neg z] at h
      exact h M D F e e2 hx zfc_rf
    refine sp_isElement (by omega) hx hh (fun hi => ⟨fun z => absurd z (by decide), fun _ => ?_⟩) (fun hi => ⟨fun _ => ⟨_, rfl, no fun z => by rw [hi] at z; exact absurd z.1 (by decide)⟩, fun z => absurd rfl z⟩)
    refine sp_isPlace (by omega) (fun hr => ⟨fun _ => ?_, fun z => absurd (Classical.not_not.mp z) (by decide)⟩) (fun hr => ⟨fun z => absurd rfl z, fun _ => ⟨_, rfl, no fun z => by rw [hr] at z; exact absurd z.2 (by decide)⟩⟩)
    rw [if_pos ⟨hi, hr⟩] at h
    obtain ⟨a, ha, -, rfl, ca⟩ := idx_n hi
    obtain ⟨l, hl, -, rfl, cl⟩ := idx_n (n := 40) hr
    have h24 := (hx.1.2.2.2.2.1 hh).2
    have hok := (hx.1.2.2.2.2.1 hh).1
    have hR := hI.2.1.2 a (by omega)
    have hb := iel_body (fun E hE => (hx.2.2.2.2.2.1 hh).2 a E hE) hok ha
    have ba := hI.2.2.1.1 a (by omega)
    have ex : xel s (nI a) = (xes s).getD a aE0 := by unfold xel; rw [ca]
    rw [ex] at h
    refine ⟨s15, by rw [r5]; exact hI.1.1, by rw [r5, hI.1.2.2.1, hI.2.1.1], by rw [r5, hI.1.2.2.1, hI.2.1.1]; exact zin_n (by omega) (by omega), by rw [r5, hI.1.2.2.1, ca, hR.1]; exact hR.2.1, s15, ?_⟩
    rw [r5, hI.1.2.2.1, ca, hR.1, hR.2.2.1]
    exact sp_put (by omega) hx.2.1 hl hR.2.2.2.2.2.2.1 (by omega) hb.1 hb.2.1.2.2 fun M1 hfr hpd => ⟨_, rfl, h M1 D F e e2 (xX_put hfr hl hpd hb.2.1 hx) (zfc_of hfr (inP_c hl))⟩
  · rw [hx.2.2.1.2.2.2.1] at c
    have hh := eB_0.mp (Classical.not_not.mp c)
    rw [if_neg (by rw [hh]; decide)] at h
    exact h M D F e e2 hx zfc_rf
theorem cX_share {d D F : Nat} {M : zM} {s : aX} {e e2 : Nat → Nat} {i g r : Int32} {P : Int32 → zM → Prop} (hd : 10 ≤ d) (hx : xX M s D F e e2) (h : xres (A_share s i g r) M P) : ycI d nX7_share [.ref 2, .int i, .int g, .int r] M P := by
  obtain ⟨d, rfl, he⟩ := dS hd
  have s15 := hx.2.1.1.1
  have r5 := hx.2.1.2.1.2.2.2.1
  have hI := hx.2.1.2.2.2.2.1.1
  unfold A_share at h
  refine en_X7_share _ _ _ _ M (sg_X7_share_0 _ _ _ _ M ⟨s15, fun c => ⟨s15, ?_⟩, fun c => ⟨_, rfl, ?_⟩⟩)
  · rw [hx.2.2.1.2.2.2.1] at c
    have hh := eB_1.mp c
    rw [if_pos hh] at h
    have no : ¬ (idx i (xes s).length = true ∧ idx g (xgs s).length = true ∧ ipl r = true) → P (-1) M := fun z => by
      rw [if_neg z] at h
      exact h M D F e e2 hx zfc_rf
    refine sp_isElement (by omega) hx hh (fun hi => ⟨fun z => absurd z (by decide), fun _ => ⟨s15, ?_⟩⟩) (fun hi => ⟨fun _ => ⟨_, rfl, no fun z => by rw [hi] at z; exact absurd z.1 (by decide)⟩, fun z => absurd rfl z⟩)
    refine sp_isGenerator (by omega) hx (fun hg => ⟨fun z => absurd z (by decide), fun _ => ?_⟩) (fun hg => ⟨fun _ => ⟨_, rfl, no fun z => by rw [hg] at z; exact absurd z.2.1 (by decide)⟩, fun z => absurd rfl z⟩)
    refine sp_isPlace (by omega) (fun hr => ⟨fun _ => ?_, fun z => absurd (Classical.not_not.mp z) (by decide)⟩) (fun hr => ⟨fun z => absurd rfl z, fun _ => ⟨_, rfl, no fun z => by rw [hr] at z; exact absurd z.2.2 (by decide)⟩⟩)
    rw [if_pos ⟨hi, hg, hr⟩] at h
    obtain ⟨a, ha, -, rfl, ca⟩ := idx_n hi
    obtain ⟨b, hb, -, rfl, cb⟩ := idx_n hg
    obtain ⟨l, hl, -, rfl, cl⟩ := idx_n (n := 40) hr
    have h24 := (hx.1.2.2.2.2.1 hh).2
    have hok := (hx.1.2.2.2.2.1 hh).1
    have gl := hx.1.2.2.2.1.1
    have hR := hI.2.1.2 a (by omega)
    have hcf := iel_cof (fun E hE => (hx.2.2.2.2.2.1 hh).2 a E hE) hok ha hb
    have ba := hI.2.2.1.1 a (by omega)
    have ex : (xel s (nI a)).2.getD (nI b).toNatClampNeg [] = acof (xes s) a b := by unfold xel acof; rw [ca, cb]; rfl
    rw [ex] at h
    refine ⟨s15, by rw [r5]; exact hI.1.1, by rw [r5, hI.1.2.2.1, hI.2.1.1], by rw [r5, hI.1.2.2.1, hI.2.1.1]; exact zin_n (by omega) (by omega), by rw [r5, hI.1.2.2.1, ca, hR.1]; exact hR.2.1, by rw [r5, hI.1.2.2.1, ca, hR.1, hR.2.2.2.1, hR.2.2.2.2.1], by rw [r5, hI.1.2.2.1, ca, hR.1, hR.2.2.2.1, hR.2.2.2.2.1]; exact zin_n (by omega) (by omega), s15, ?_⟩
    rw [r5, hI.1.2.2.1, ca, hR.1, hR.2.2.2.1, cb, hR.2.2.2.2.2.1 b (by omega)]
    exact sp_put (by omega) hx.2.1 hl (hR.2.2.2.2.2.2.2 b (by omega)) (by omega) hcf.1 hcf.2.2.2 fun M1 hfr hpd => ⟨_, rfl, h M1 D F e e2 (xX_put hfr hl hpd hcf.2 hx) (zfc_of hfr (inP_c hl))⟩
  · rw [hx.2.2.1.2.2.2.1] at c
    have hh := eB_0.mp (Classical.not_not.mp c)
    rw [if_neg (by rw [hh]; decide)] at h
    exact h M D F e e2 hx zfc_rf
theorem lim_ok {l : Int32} (c0 : ¬ l < 0) (c1 : l ≤ 20000) : idx l 20001 = true := idx_lt (by omega) c0 fun z => by
  have z1 := Int32.le_iff_toInt_le.mp z
  have z2 := Int32.le_iff_toInt_le.mp c1
  rw [show (nI 20001).toInt = 20001 by decide] at z1
  rw [show (20000 : Int32).toInt = 20000 by decide] at z2
  omega
theorem lim_no {l : Int32} (c1 : ¬ l ≤ 20000) : idx l 20001 = false := idx_ge (by omega) (Or.inr (by
  have c1 := Int32.lt_iff_toInt_lt.mp (Int32.not_le.mp c1)
  rw [show (20000 : Int32).toInt = 20000 by decide] at c1
  exact Int32.le_iff_toInt_le.mpr (by rw [show (nI 20001).toInt = 20001 by decide]; omega)))
theorem cX_basis {d D F : Nat} {M : zM} {s : aX} {e e2 : Nat → Nat} {l : Int32} {P : Int32 → zM → Prop} (hd : 10 ≤ d) (hx : xX M s D F e e2) (h : xres (A_basis s l) M P) : ycI d nX7_basis [.ref 2, .int l] M P := by
  obtain ⟨d, rfl, he⟩ := dS hd
  have s15 := hx.2.1.1.1
  unfold A_basis at h
  have no : idx l 20001 = false → P (-2) M := fun z => by
    rw [if_neg (by rw [z]; decide)] at h
    exact h M D F e e2 hx zfc_rf
  refine en_X7_basis _ _ M (sg_X7_basis_0 _ _ M ⟨fun c => ⟨_, rfl, no (idx_ge (by omega) (Or.inl c))⟩, fun c0 => ⟨fun c1 => ⟨s15, ?_⟩, fun c1 => ⟨_, rfl, no (lim_no c1)⟩⟩⟩)
  have hid := lim_ok c0 c1
  rw [if_pos hid] at h
  obtain ⟨lim, hlim, -, rfl, cl⟩ := idx_n hid
  rw [cl] at h
  refine sp_forget (by omega) hx.2.1 fun M1 hfr1 h16 h110 h1o => ?_
  have hS1 := xS_fr hfr1 hx.2.1
  have gl := hx.1.2.2.2.1
  have hDF := hx.2.1.2.2.2.2.2.1.2.2
  have hg1 : gdy M1 165 (xk s) (xgs s) := gdy_fr hfr1 (by omega) (fun a a1 a2 => by omega) (xX_gdy hx)
  have ho1 : ost M1 3 (xk s) := ost_fr hfr1 (by omega) (xX_ost hx)
  have n4 : zI M1 2 4 = nI (xgs s).length := by rw [h1o 4 (by omega) (by omega)]; exact hx.2.2.1.2.2.1
  have q15 := hS1.1.1
  refine ⟨q15, q15, q15, q15, q15, by rw [hS1.2.1.2.2.2.1]; exact hS1.2.2.2.2.1.1.1.1, ?_⟩
  rw [hS1.2.1.2.2.2.1, hS1.2.1.2.2.1, hS1.2.1.2.2.2.2.2.1, n4]
  refine sp_build (by omega) hS1.2.2.2.2.1.1 hS1.2.2.2.2.2.1.1 ho1 gl.1 (by omega) (by omega) (by omega) (by omega) hS1.2.2.2.1 hg1 (by omega) (by omega) fun x hxx e' M2 hfr2 hI2 d3 d4 d5 d6 hok2 => ?_
  rw [hxx] at h
  have hS2 := xS_fq (Or.inl rfl) hfr2 hS1 hI2 (ist_fo hfr2 (by unfold inI; omega) hS1.2.2.2.2.1.2)
  have f2 : ∀ j, zI M2 2 j = zI M1 2 j := (hfr2.2.2.2.2 2 (by unfold inI inD; omega)).1
  have f3 : ∀ j, zI M2 3 j = zI M 3 j := fun j => by rw [(hfr2.2.2.2.2 3 (by unfold inI inD; omega)).1, (hfr1.2.2.2.2 3 (by omega)).1]
  have hfc : zfc M M2 := zfc_tr (zfc_of hfr1 fun a ha => by omega) (zfc_ofq hfr2 (by omega) fun a ha => by unfold inI inD at ha; omega)
  have hP2 : xP M2 s := fun i L hi => by
    have := (List.getElem?_eq_some_iff.mp hi).1
    rw [hx.1.2.2.1.1] at this
    exact pdy_fq hfr2 (fun a ha => by unfold inP at ha; unfold inI inD; omega) (pdy_fr hfr1 (fun a ha => by unfold inP at ha; omega) (hx.2.2.2.1 i L hi))
  have hG2 : xG M2 s := fun i L hi => by
    have := (List.getElem?_eq_some_iff.mp hi).1
    exact pdy_fq hfr2 (fun a ha => by unfold inP at ha; unfold inI inD; omega) (pdy_fr hfr1 (fun a ha => by unfold inP at ha; omega) (hx.2.2.2.2.1 i L hi))
  refine ⟨fun z => ?_, fun z => ⟨_, rfl, ?_⟩⟩
  · have z := ecode_0.mp z
    rw [if_pos z] at h
    obtain ⟨y1, y2, y3⟩ := hok2 z
    refine ⟨hS2.1.1, Or.inr rfl, ?_⟩
    intro M4
    have hfr4 : zfr (fun a => a = 2) M2 M4 := zfr_uI rfl
    have hS4 := xS_fr hfr4 hS2
    have f4 : ∀ j, j ≠ 6 → zI M4 2 j = zI M1 2 j := fun j hj => by rw [show M4 = zuI M2 2 6 1 from rfl, zI_uI, if_neg (by omega), f2]
    have f202 : ∀ j, zI M4 202 j = zI M2 202 j := (hfr4.2.2.2.2 202 (by omega)).1
    refine ⟨hS2.1.1, by rw [hS2.2.1.2.2.2.1]; exact hI2.1.1, _, rfl, ?_⟩
    rw [hS2.2.1.2.2.2.1, f202, y1.1]
    refine h M4 D F e' e2 ⟨⟨hx.1.1, hx.1.2.1, hx.1.2.2.1, gl, fun _ => ⟨y3, y1.2.2⟩, fun _ z => (by cases z)⟩, hS4, ⟨?_, ?_, ?_, ?_, ?_⟩, fun i L hi => ?_, fun i L hi => ?_, fun _ => ⟨icn_fr hfr4 (by omega) y1, fun i E hi => ?_⟩, ⟨by rw [f202]; exact d3, by rw [f202]; exact d4, by rw [f202]; exact d5, by rw [f202]; exact d6⟩, fun _ z => (by cases z)⟩ (zfc_tr hfc (zfc_of hfr4 fun a ha => by omega))
    · rw [(hfr4.2.2.2.2 3 (by omega)).1, f3]; exact hx.2.2.1.1
    · rw [f4 0 (by omega), h1o 0 (by omega) (by omega)]; exact hx.2.2.1.2.1
    · rw [f4 4 (by omega)]; exact n4
    · rw [show M4 = zuI M2 2 6 1 from rfl, zI_uI, if_pos ⟨rfl, rfl⟩]; rfl
    · rw [f4 10 (by omega)]; exact h110
    · exact pdy_fr hfr4 (fun a ha => by unfold inP at ha; omega) (hP2 i L hi)
    · exact pdy_fr hfr4 (fun a ha => by unfold inP at ha; omega) (hG2 i L hi)
    · have hil := (List.getElem?_eq_some_iff.mp hi).1
      have hil : i < x.2.1.length := hil
      have y24 := y1.2.2
      have hap := hI2.2.2.1.1 i (by omega)
      exact edy_fr (w := 8) hfr4 (by rw [(y3 E (List.mem_of_getElem? hi)).2.2]; exact gl.1) (fun a ha => by unfold inE at ha; omega) (y2 i E hi)
  · have z : x.1 ≠ 0 := fun y => z (ecode_0.mpr y)
    rw [if_neg z] at h
    refine h M2 D F e' e2 ⟨⟨hx.1.1, hx.1.2.1, hx.1.2.2.1, gl, fun z => (by cases z), fun z => (by cases z)⟩, hS2, ⟨?_, ?_, ?_, ?_, ?_⟩, hP2, hG2, fun z => (by cases z), ⟨d3, d4, d5, d6⟩, fun z => (by cases z)⟩ hfc
    · rw [f3]; exact hx.2.2.1.1
    · rw [f2, h1o 0 (by omega) (by omega)]; exact hx.2.2.1.2.1
    · rw [f2]; exact n4
    · rw [f2]; exact h16
    · rw [f2]; exact h110
theorem cX_stairs {d D F : Nat} {M : zM} {s : aX} {e e2 : Nat → Nat} {P : Int32 → zM → Prop} (hd : 10 ≤ d) (hx : xX M s D F e e2) (h : xres (A_stairs s) M P) : ycI d nX7_stairs [.ref 2] M P := by
  obtain ⟨d, rfl, he⟩ := dS hd
  have s15 := hx.2.1.1.1
  have r5 := hx.2.1.2.1.2.2.2.1
  have hI := hx.2.1.2.2.2.2.1.1
  unfold A_stairs at h
  refine en_X7_stairs _ M (sg_X7_stairs_0 _ M ⟨s15, fun c => ⟨_, rfl, ?_⟩, fun c => ⟨s15, s15, by rw [r5]; exact hI.1.1, ?_⟩⟩)
  · rw [hx.2.2.1.2.2.2.1] at c
    have hh := eB_0.mp c
    rw [if_neg (by rw [hh]; decide)] at h
    exact h M D F e e2 hx zfc_rf
  · rw [hx.2.2.1.2.2.2.1] at c
    have hh := eB_1.mp c
    rw [if_pos hh] at h
    rw [r5, hx.2.2.1.2.1]
    exact sp_countBelow (by omega) hI (hx.2.2.2.2.2.1 hh).1 (hx.2.2.2.2.2.1 hh).2 (hx.1.2.2.2.2.1 hh).1 hx.1.1.2 ⟨_, rfl, h M D F e e2 hx zfc_rf⟩
theorem afr_iff {n : Nat} {L : aP} : afr n L = true ↔ ∀ t ∈ L, ∀ v, v < n → aex t.2 v = 0 := by
  unfold afr
  rw [List.all_eq_true]
  constructor
  · intro h t ht v hv
    have := h t ht
    rw [List.all_eq_true] at this
    exact eq_of_beq (this v (List.mem_range.mpr hv))
  · intro h t ht
    rw [List.all_eq_true]
    intro v hv
    exact beq_iff_eq.mpr (h t ht v (List.mem_range.mp hv))
theorem cX_free {d D F : Nat} {M : zM} {s : aX} {e e2 : Nat → Nat} {g : Int32} {P : Int32 → zM → Prop} (hd : 10 ≤ d) (hx : xX M s D F e e2) (h : xres (A_free s g) M P) : ycI d nX7_free [.ref 2, .int g] M P := by
  obtain ⟨d, rfl, he⟩ := dS hd
  have s15 := hx.2.1.1.1
  have r5 := hx.2.1.2.1.2.2.2.1
  have hI := hx.2.1.2.2.2.2.1.1
  have n0 := hx.2.2.1.2.1
  have hnv := hx.1.1
  unfold A_free at h
  have no : idx g (xn s + 1) = false → P (-2) M := fun z => by
    rw [if_neg (by rw [z]; decide)] at h
    exact h M D F e e2 hx zfc_rf
  refine en_X7_free _ _ M (sg_X7_free_0 _ _ M ⟨fun c => ⟨_, rfl, no (idx_ge (by omega) (Or.inl c))⟩, fun c0 => ⟨s15, fun c1 => ⟨s15, fun c => ?_, fun c => ⟨_, rfl, ?_⟩⟩, fun c1 => ⟨_, rfl, no ?_⟩⟩⟩)
  · rw [n0] at c1
    rw [hx.2.2.1.2.2.2.1] at c
    have hh := eB_1.mp c
    have hid : idx g (xn s + 1) = true := by
      obtain ⟨j, hj, rfl⟩ := nI_of c0
      have := (nI_leI hj (by omega)).mp c1
      exact decide_eq_true ⟨by rw [nI_toInt hj]; omega, by rw [nI_toInt hj]; omega⟩
    rw [if_pos hid, if_pos hh] at h
    obtain ⟨n, hn, -, rfl, cn⟩ := idx_n hid
    rw [cn] at h
    have hc := (hx.2.2.2.2.2.1 hh).1
    have hE := (hx.2.2.2.2.2.1 hh).2
    have hok := (hx.1.2.2.2.2.1 hh).1
    have hl := hc.2.2
    have loop : ∀ (m i : Nat), i + m = (xes s).length → wX7_free d (fun r M2 => ∃ x : Int32, r = [.int x] ∧ P x M2) 17 [some (.ref 2), some (.int (nI n)), some (.int (nI (afrs n (xes s) i))), some (.int (nI i))] [] M := by
      intro m
      induction m with
      | zero =>
        intro i hi
        refine sg_X7_free_17 _ _ _ _ _ ⟨s15, by rw [r5]; exact hI.1.1, fun _ => ⟨_, rfl, ?_⟩, fun z => absurd (by rw [r5, hc.1, show i = (xes s).length by omega]; exact Int32.le_refl _) z⟩
        rw [show i = (xes s).length by omega]
        exact h M D F e e2 hx zfc_rf
      | succ m ih =>
        intro i hi
        have ci := cl_n (n := i) (by omega)
        have hR := hI.2.1.2 i (by omega)
        have hb := iel_body (fun E hz => hE i E hz) hok (show i < (xes s).length by omega)
        have stp : afrs n (xes s) (i + 1) = if afr n ((xes s).getD i aE0).1 = true then afrs n (xes s) i + 1 else afrs n (xes s) i := rfl
        refine sg_X7_free_17 _ _ _ _ _ ⟨s15, by rw [r5]; exact hI.1.1, fun z => ?_, fun _ => ⟨s15, by rw [r5]; exact hI.1.1, by rw [r5, hI.1.2.2.1, hI.2.1.1], by rw [r5, hI.1.2.2.1, hI.2.1.1]; exact zin_n (by omega) (by omega), by rw [r5, hI.1.2.2.1, ci, hR.1]; exact hR.2.1, by rw [r5, hI.1.2.2.1, ci, hR.1, hR.2.2.1]; exact hR.2.2.2.2.2.2.1.1, ?_⟩⟩
        · rw [r5, hc.1] at z
          have := (nI_leI (by omega) (by omega)).mp z
          omega
        · rw [r5, hI.1.2.2.1, ci, hR.1, hR.2.2.1]
          refine sp_isWithout (by omega) hR.2.2.2.2.2.2.1 hb.1 hb.2.1 (by omega) (fun hf => ⟨fun z => absurd z (by decide), fun _ => ?_⟩) (fun hf => ⟨fun _ => ?_, fun z => absurd rfl z⟩)
          · rw [if_pos (afr_iff.mpr hf)] at stp
            intro v2 v3
            rw [show v2 = nI (afrs n (xes s) (i + 1)) by rw [stp]; exact nI_1 _, show v3 = nI (i + 1) from nI_1 i]
            exact ih (i + 1) (by omega)
          · rw [if_neg (fun z => hf (afr_iff.mp z))] at stp
            intro v3
            rw [show v3 = nI (i + 1) from nI_1 i, ← stp]
            exact ih (i + 1) (by omega)
    exact loop (xes s).length 0 (by omega)
  · rw [n0] at c1
    rw [hx.2.2.1.2.2.2.1] at c
    have hh := eB_0.mp (Classical.not_not.mp c)
    have hid : idx g (xn s + 1) = true := by
      obtain ⟨j, hj, rfl⟩ := nI_of c0
      have := (nI_leI hj (by omega)).mp c1
      exact decide_eq_true ⟨by rw [nI_toInt hj]; omega, by rw [nI_toInt hj]; omega⟩
    rw [if_pos hid, if_neg (by rw [hh]; decide)] at h
    exact h M D F e e2 hx zfc_rf
  · rw [n0] at c1
    obtain ⟨j, hj, rfl⟩ := nI_of c0
    have : ¬ j ≤ xn s := fun z => c1 ((nI_leI hj (by omega)).mpr z)
    exact decide_eq_false fun z => by
      rw [nI_toInt hj] at z
      omega
end
section
/-! calls of the class: divisions, certificates, checks, radicals -/
theorem zfr_uu {S : Nat → Prop} {M M' : zM} {a k : Nat} {v : Int32} (h : zfr S M M') : zfr S (zuI M a k v) (zuI M' a k v) := ⟨h.1, h.2.1, h.2.2.1, h.2.2.2.1, fun b hb => ⟨fun j => by rw [zI_uI, zI_uI, (h.2.2.2.2 b hb).1], (h.2.2.2.2 b hb).2⟩⟩
theorem zfq_un {M : zM} {R k v a n : Nat} {x : Int32} : zfq (fun y => y = a) R M (zuI (zuR M R k v) a n x) := zfq_tr (zfq_uR (S := fun y => y = a)) (zfq_of (zfr_uI rfl))
/-- the division at work becomes the proof -/
theorem xX_swap {M : zM} {s : aX} {D F : Nat} {e e2 : Nat → Nat} {b : Bool} {qs : List aP} (hx : xX M s D F e e2) (hh : xhs s = true) (hq : ∀ (i : Nat) (q : aP), qs[i]? = some q → pdy M (D + 10 + 4 * i) (xk s) q) (hl : qs.length = (xes s).length) (hk : ∀ q ∈ qs, pok (xk s) q) : xX (zuI (zuR (zuR M 2 8 F) 2 9 D) 2 10 (eB b)) (xprove s b qs) F D e e2 := by
  obtain ⟨ok, hS, hN, hP, hG, hE, hDn, hQ⟩ := hx
  have hD := hS.2.2.2.2.2.1.2.2
  have h : zfq (fun y => y = 2) 2 M (zuI (zuR (zuR M 2 8 F) 2 9 D) 2 10 (eB b)) := zfq_tr (zfq_uR (S := fun y => y = 2)) zfq_un
  have r89 : ∀ j, zR (zuI (zuR (zuR M 2 8 F) 2 9 D) 2 10 (eB b)) 2 j = if j = 9 then D else if j = 8 then F else zR M 2 j := fun j => by
    show zR (zuR (zuR M 2 8 F) 2 9 D) 2 j = _
    rw [zR_uR, zR_uR]
    simp only [true_and]
  have n2 : ∀ j, zI (zuI (zuR (zuR M 2 8 F) 2 9 D) 2 10 (eB b)) 2 j = if j = 10 then eB b else zI M 2 j := fun j => by
    rw [zI_uI]
    simp only [true_and]
    rfl
  generalize zuI (zuR (zuR M 2 8 F) 2 9 D) 2 10 (eB b) = M' at *
  obtain ⟨⟨h1, h1'⟩, ⟨r1, r2, r3, r5, r7, r8, r9, r11, r12, r13⟩, h3, h4, ⟨h5, h5'⟩, ⟨h6, h6', h6''⟩, h7, h8, h9⟩ := hS
  have f202 : ∀ j, zI M' 202 j = zI M 202 j := (h.2.2.2.2 202 (by omega)).1
  refine ⟨⟨ok.1, ok.2.1, ok.2.2.1, ok.2.2.2.1, ok.2.2.2.2.1, fun _ _ => ⟨hl, hk⟩⟩, ⟨⟨by rw [h.1]; exact h1, by rw [h.1]; exact h1'⟩, ⟨by rw [r89]; exact r1, by rw [r89]; exact r2, by rw [r89]; exact r3, by rw [r89]; exact r5, by rw [r89]; exact r7, by rw [r89]; rfl, by rw [r89]; rfl, by rw [r89]; exact r11, by rw [r89]; exact r12, by rw [r89]; exact r13⟩, ⟨by rw [h.1]; exact h3.1, fun i hi => ⟨by rw [h.2.2.2.1 _ _ (by omega)]; exact (h3.2 i hi).1, pst_fq h (by omega) (h3.2 i hi).2⟩⟩, gst_fq h (by omega) h4, ⟨ist_fo h (by unfold inI; omega) h5, ist_fo h (by unfold inI; omega) h5'⟩, ⟨dst_fq h (by unfold inD; omega) h6', dst_fq h (by unfold inD; omega) h6, by omega⟩, pst_fq h (by omega) h7, pst_fq h (by omega) h8, by rw [h.1]; exact h9⟩, ⟨?_, ?_, ?_, ?_, ?_⟩, fun i L hi => ?_, fun i L hi => ?_, fun _ => ⟨?_, fun i E hi => ?_⟩, ⟨by rw [f202]; exact hDn.1, by rw [f202]; exact hDn.2.1, by rw [f202]; exact hDn.2.2.1, by rw [f202]; exact hDn.2.2.2⟩, fun _ _ i q hi => ?_⟩
  · rw [(h.2.2.2.2 3 (by omega)).1]; exact hN.1
  · rw [n2]; exact hN.2.1
  · rw [n2]; exact hN.2.2.1
  · rw [n2]; exact hN.2.2.2.1
  · rw [n2]; rfl
  · exact pdy_fq h (fun a ha => by unfold inP at ha; omega) (hP i L hi)
  · exact pdy_fq h (fun a ha => by unfold inP at ha; omega) (hG i L hi)
  · obtain ⟨i1, i2, i3⟩ := (hE hh).1
    exact ⟨by rw [f202]; exact i1, by rw [f202]; exact i2, i3⟩
  · have hil : i < (xes s).length := (List.getElem?_eq_some_iff.mp hi).1
    have hl := (ok.2.2.2.2.1 hh).2
    have := h5.2.2.1.1 i (by omega)
    exact edy_fq (w := E.2.length) h (Nat.le_refl _) (fun a ha => by unfold inE at ha; omega) ((hE hh).2 i E hi)
  · exact pdy_fq h (fun a ha => by unfold inP at ha; omega) (hq i q hi)
theorem cX_divide {d D F : Nat} {M : zM} {s : aX} {e e2 : Nat → Nat} {p r : Int32} {P : Int32 → zM → Prop} (hd : 10 ≤ d) (hx : xX M s D F e e2) (h : xres (A_divide s p r) M P) : ycI d nX7_divide [.ref 2, .int p, .int r] M P := by
  obtain ⟨d, rfl, he⟩ := dS hd
  have s15 := hx.2.1.1.1
  have hDF := hx.2.1.2.2.2.2.2.1.2.2
  unfold A_divide at h
  have no : ¬ (ipl p = true ∧ ipl r = true) → P (-1) M := fun z => by
    rw [if_neg z] at h
    exact h M D F e e2 hx zfc_rf
  refine en_X7_divide _ _ _ M (sg_X7_divide_0 _ _ _ M (sp_isPlace (by omega) (fun hp => ⟨fun z => absurd z (by decide), fun _ => ?_⟩) (fun hp => ⟨fun _ => ⟨_, rfl, no fun z => by rw [hp] at z; exact absurd z.1 (by decide)⟩, fun z => absurd rfl z⟩)))
  refine sp_isPlace (by omega) (fun hr => ⟨fun _ => ⟨s15, fun c => ?_, fun c => ⟨_, rfl, ?_⟩⟩, fun z => absurd (Classical.not_not.mp z) (by decide)⟩) (fun hr => ⟨fun z => absurd rfl z, fun _ => ⟨_, rfl, no fun z => by rw [hr] at z; exact absurd z.2 (by decide)⟩⟩)
  · rw [hx.2.2.1.2.2.2.1] at c
    have hh := eB_1.mp c
    rw [if_pos ⟨hp, hr⟩, if_pos hh] at h
    obtain ⟨i, hi, -, rfl, ci⟩ := idx_n (n := 40) hp
    obtain ⟨l, hl, -, rfl, cl⟩ := idx_n (n := 40) hr
    have hDst := hx.2.1.2.2.2.2.2.1.1
    have r8 := hx.2.1.2.1.2.2.2.2.2.1
    have hok := (hx.1.2.2.2.2.1 hh).1
    have h24 := (hx.1.2.2.2.2.1 hh).2
    refine ⟨s15, by rw [r8]; exact hDst.1, ?_⟩
    rw [r8]
    refine sp_allow (lim := 5000) (by omega) hDst fun M1 hfr1 h13 h14 => ?_
    have hsD : ∀ a, inD D a → scr D a := fun a ha => Or.inl ha
    have hx1 := xX_fr hfr1 (fun a ha => Or.inl (by unfold inD; omega)) hx
    have hS1 := hx1.2.1
    have hc1 := (hx1.2.2.2.2.2.1 hh).1
    refine ⟨hS1.1.1, hS1.1.1, by rw [hS1.2.1.2.2.2.1]; exact hS1.2.2.2.2.1.1.1.1, by rw [hS1.2.1.2.2.2.2.2.1]; exact hS1.2.2.2.2.2.1.1.1, ?_⟩
    rw [hS1.2.1.2.2.2.2.2.1, hS1.2.1.2.2.2.1, hc1.1]
    refine sp_makeReady (k := xk s) (by omega) hS1.2.2.2.2.2.1.1 h24 fun M2 hfr2 hdd2 => ?_
    have hx2 := xX_fr hfr2 (fun a ha => Or.inl (by unfold inD1 at ha; unfold inD; omega)) hx1
    have hS2 := hx2.2.1
    have hD2 := hS2.2.2.2.2.2.1.1
    obtain ⟨-, pd, pk, ps⟩ := xX_at hx2 hi
    refine ⟨hS2.1.1, by rw [hS2.2.1.2.2.2.2.2.1]; exact hD2.1, hS2.1.1, by rw [hS2.2.1.2.1, hS2.2.2.1.1], by rw [hS2.2.1.2.1, hS2.2.2.1.1]; exact zin_n hi (by omega), by rw [hS2.2.1.2.2.2.2.2.1, hD2.2.1]; exact hD2.2.2.2.2.2.2.1.1, ?_⟩
    rw [hS2.2.1.2.2.2.2.2.1, hD2.2.1, hS2.2.1.2.1, ci, (hS2.2.2.1.2 i hi).1]
    refine sp_become (by omega) hD2.2.2.2.2.2.2.1 ps (by omega) pd pk.2.2 fun M3 hfr3 hpd3 => ?_
    have hx3 := xX_fr hfr3 (fun a ha => Or.inl (by unfold inP at ha; unfold inD; omega)) hx2
    have hS3 := hx3.2.1
    have hI3 := hS3.2.2.2.2.1.1
    have hD3 := hS3.2.2.2.2.2.1.1
    have hc3 := (hx3.2.2.2.2.2.1 hh).1
    have hE3 := (hx3.2.2.2.2.2.1 hh).2
    have d3 : ∀ j, zI M3 D j = zI M1 D j := fun j => by rw [(hfr3.2.2.2.2 D (by unfold inP; omega)).1, (hfr2.2.2.2.2 D (by unfold inD1; omega)).1]
    refine ⟨hS3.1.1, hS3.1.1, by rw [hS3.2.1.2.2.2.1]; exact hI3.1.1, hS3.1.1, by rw [hS3.2.1.2.2.2.1]; exact hI3.1.1, by rw [hS3.2.1.2.2.2.2.2.1]; exact hD3.1, ?_⟩
    rw [hS3.2.1.2.2.2.2.2.1, hS3.2.1.2.2.2.1, hI3.1.2.2.1, hc3.1]
    have hdd3 : ddy M3 D (xk s) (xat s (nI i)) [] (List.replicate (xes s).length []) := ⟨hpd3, pdy_fr hfr3 (inP_ne (by omega)) hdd2.2.1, fun j q hj => pdy_fr hfr3 (inP_ne (by omega)) (hdd2.2.2 j q hj)⟩
    have hb3 : ∀ (j : Nat) (b : aP), ((xes s).map Prod.fst)[j]? = some b → pdy M3 (e j + 1) (xk s) b ∧ pok (xk s) b ∧ b ≠ [] := fun j b hb => by
      rw [List.getElem?_map] at hb
      cases hej : (xes s)[j]? with
      | none => rw [hej] at hb; cases hb
      | some E =>
        rw [hej] at hb
        cases hb
        have hEk := hok E (List.mem_of_getElem? hej)
        exact ⟨(hE3 j E hej).1, hEk.1.1, hEk.2.1⟩
    refine sp_run (lo := none) (st0 := 0) (lim := 5000) (by omega) hD3 hI3.2.1 (xX_ost hx3) (by unfold inD; omega) (fun j hj => by have := hI3.2.2.1.1 j hj; omega) hb3 (by rw [List.length_map]) h24 (fun j hj => by cases hj) hdd3 pk pok_nil (fun q hq => by rw [(List.mem_replicate.mp hq).2]; exact pok_nil) List.length_replicate (by rw [d3, h13]; rfl) (by rw [d3]; exact h14) (by omega) (by omega) fun M4 hfr4 h44 h43 h4ok => ?_
    have h : xres (if (xdv s (nI i)).1 = 0 then (if (xdv s (nI i)).2.2.1.length = 0 then (1, xprove (xput s (nI l) (xdv s (nI i)).2.2.1) true (xdv s (nI i)).2.2.2) else (0, xprove (xput s (nI l) (xdv s (nI i)).2.2.1) false (xdv s (nI i)).2.2.2)) else (ecode (xdv s (nI i)).1, s)) M P := h
    have edv : adiv (xk s) ((xes s).map Prod.fst) none (5000 - 0) (xat s (nI i)) [] (List.replicate (xes s).length []) = xdv s (nI i) := rfl
    rw [edv] at h43 h4ok
    rw [edv]
    generalize xdv s (nI i) = dv at h h43 h4ok
    have hx4 := xX_fr hfr4 hsD hx3
    have hS4 := hx4.2.1
    have hfc4 : zfc M M4 := zfc_tr (zfc_of hfr1 fun a ha => by omega) (zfc_tr (zfc_of hfr2 fun a ha => by unfold inD1 at ha; omega) (zfc_tr (zfc_of hfr3 fun a ha => by unfold inP at ha; omega) (zfc_of hfr4 fun a ha => by unfold inD at ha; omega)))
    refine ⟨fun z => ⟨hS4.1.1, ?_⟩, fun z => ⟨_, rfl, ?_⟩⟩
    · have z := ecode_0.mp z
      rw [if_pos z] at h
      obtain ⟨hdd, hrk, hqk, hql⟩ := h4ok z
      intro r4
      have e4 : r4 = D := hS4.2.1.2.2.2.2.2.1
      clear_value r4
      subst e4
      refine ⟨hS4.1.1, hS4.1.1, ?_⟩
      intro M11
      refine ⟨hS4.1.1, ?_⟩
      intro M12
      have hD4 := hS4.2.2.2.2.2.1.1
      have e12 : M12 = zuR (zuR M4 2 8 F) 2 9 r4 := by rw [show M12 = zuR (zuR M4 2 8 (zR M4 2 9)) 2 9 r4 from rfl, hS4.2.1.2.2.2.2.2.2.1]
      clear_value M12
      have hsw : ∀ b, xX (zuI M12 2 10 (eB b)) (xprove s b dv.2.2.2) F r4 e e2 := fun b => by
        rw [e12]
        exact xX_swap hx4 hh hdd.2.2 hql hqk
      have hS12 : xS M12 F r4 e e2 := by
        have := (hsw true).2.1
        exact this
      refine ⟨hD4.1, hS4.1.1, ?_⟩
      have r12 : zR M12 r4 1 = r4 + 5 := by
        rw [e12, zR_uR, if_neg (by omega), zR_uR, if_neg (by omega)]
        exact hD4.2.2.1
      rw [r12]
      have hpd12 : pdy M12 (r4 + 5) (xk s) dv.2.2.1 := by
        rw [e12]
        exact hdd.2.1
      have hps12 := hS12.2.2.2.2.2.1.2.1.2.2.2.2.2.2.2.1
      have hfc12 : zfc M4 M12 := by
        rw [e12]
        exact zfc_ofq (S := fun _ => False) (zfq_tr (zfq_uR (R := 2)) zfq_uR) (by omega) fun a ha => ha.elim
      refine sp_put (by omega) hS12 hl hps12 (by omega) hpd12 hrk.2.2 fun M13 hfr13 hpd13 => ?_
      have hS13 := xS_fr hfr13 hS12
      have key : ∀ b, xX (zuI M13 2 10 (eB b)) (xprove (xput s (nI l) dv.2.2.1) b dv.2.2.2) F r4 e e2 := fun b => xX_put (s := xprove s b dv.2.2.2) (zfr_uu hfr13) hl (pdy_fr (zfr_uI (S := fun x => x = 2) rfl) (fun a ha => by unfold inP at ha; omega) hpd13) hrk (hsw b)
      have hfcb : ∀ b, zfc M (zuI M13 2 10 (eB b)) := fun b => zfc_tr hfc4 (zfc_tr hfc12 (zfc_tr (zfc_of hfr13 (inP_c hl)) (zfc_of (zfr_uI (S := fun x => x = 2) rfl) fun a ha => by omega)))
      have f10 : ∀ v : Int32, zI (zuI M13 2 10 v) 2 10 = v := fun v => by rw [zI_uI, if_pos ⟨rfl, rfl⟩]
      refine ⟨fun zl => ⟨hS13.1.1, Or.inl rfl, ?_⟩, fun zl => ⟨hS13.1.1, Or.inr rfl, ?_⟩⟩
      · intro M15
        have zl : ¬ dv.2.2.1.length = 0 := fun y => zl (by rw [y]; rfl)
        rw [if_neg zl] at h
        refine ⟨hS13.1.1, fun _ => ⟨_, rfl, h M15 F r4 e e2 (key false) (hfcb false)⟩, fun y => absurd (f10 0) y⟩
      · intro M15
        have zl : dv.2.2.1.length = 0 := (nI_z (by have := hrk.2.2; omega)).mp (Classical.not_not.mp zl)
        rw [if_pos zl] at h
        refine ⟨hS13.1.1, fun y => absurd ((f10 1).symm.trans y) (by decide), fun _ => ⟨_, rfl, h M15 F r4 e e2 (key true) (hfcb true)⟩⟩
    · have z : dv.1 ≠ 0 := fun y => z (ecode_0.mpr y)
      rw [if_neg z] at h
      exact h M4 D F e e2 hx4 hfc4
  · rw [hx.2.2.1.2.2.2.1] at c
    have hh := eB_0.mp (Classical.not_not.mp c)
    rw [if_pos ⟨hp, hr⟩, if_neg (by rw [hh]; decide)] at h
    exact h M D F e e2 hx zfc_rf
theorem als_ok {k kk : Nat} {es : List aE} {qs : List aP} (hes : ∀ e, pok k (acof es e kk)) (hqs : ∀ q ∈ qs, pok k q) {s : Bool} : ∀ {n : Nat} {f f' : aP}, pok k f → als k s kk es qs f n = some f' → pok k f'
  | 0, f, f', hf, h => by cases h; exact hf
  | n + 1, f, f', hf, h => by
    rw [als_s] at h
    split at h
    · cases h
    · rename_i f1 hf1
      refine aprod_ok (hes n).1 (asg_tok ?_) (als_ok hes hqs hf hf1) h
      by_cases hn : n < qs.length
      · rw [List.getD_eq_getElem?_getD, List.getElem?_eq_getElem hn]
        exact (hqs _ (List.getElem_mem hn)).1
      · rw [List.getD_eq_getElem?_getD, List.getElem?_eq_none (by omega)]
        exact fun t ht => absurd ht List.not_mem_nil
theorem acof_ok {k sh kk : Nat} {es : List aE} (hk : iok k sh es) (e : Nat) : pok k (acof es e kk) := by
  unfold acof
  by_cases he : e < es.length
  · rw [List.getD_eq_getElem?_getD, List.getD_eq_getElem?_getD, List.getElem?_eq_getElem he]
    show pok k ((es[e].2)[kk]?.getD [])
    by_cases hkk : kk < es[e].2.length
    · rw [List.getElem?_eq_getElem hkk]
      exact (hk _ (List.getElem_mem he)).1.2 _ (List.getElem_mem hkk)
    · rw [List.getElem?_eq_none (by omega)]
      exact pok_nil
  · rw [show es.getD e ([], []) = ([], []) by rw [List.getD_eq_getElem?_getD, List.getElem?_eq_none (by omega)]; rfl]
    exact pok_nil
theorem cX_certificate {d D F : Nat} {M : zM} {s : aX} {e e2 : Nat → Nat} {g r : Int32} {P : Int32 → zM → Prop} (hd : 10 ≤ d) (hx : xX M s D F e e2) (h : xres (A_certificate s g r) M P) : ycI d nX7_certificate [.ref 2, .int g, .int r] M P := by
  obtain ⟨d, rfl, he⟩ := dS hd
  have s15 := hx.2.1.1.1
  have hDF := hx.2.1.2.2.2.2.2.1.2.2
  unfold A_certificate at h
  have no3 : ¬ (xhs s = true ∧ xpv s = true) → P (-3) M := fun z => by
    rw [if_neg z] at h
    exact h M D F e e2 hx zfc_rf
  refine en_X7_certificate _ _ _ M (sg_X7_certificate_0 _ _ _ M ⟨s15, fun c => ⟨_, rfl, no3 fun z => ?_⟩, fun c => ⟨s15, fun c2 => ⟨s15, ?_⟩, fun c2 => ⟨_, rfl, no3 fun z => ?_⟩⟩⟩)
  · rw [hx.2.2.1.2.2.2.1, z.1] at c
    exact absurd c (by decide)
  · rw [hx.2.2.1.2.2.2.1] at c
    rw [hx.2.2.1.2.2.2.2] at c2
    have hh := eB_1.mp c
    have hpv := eB_1.mp c2
    rw [if_pos ⟨hh, hpv⟩] at h
    have no : ¬ (idx g (xgs s).length = true ∧ ipl r = true) → P (-1) M := fun z => by
      rw [if_neg z] at h
      exact h M D F e e2 hx zfc_rf
    refine sp_isGenerator (by omega) hx (fun hg => ⟨fun z => absurd z (by decide), fun _ => ?_⟩) (fun hg => ⟨fun _ => ⟨_, rfl, no fun z => by rw [hg] at z; exact absurd z.1 (by decide)⟩, fun z => absurd rfl z⟩)
    refine sp_isPlace (by omega) (fun hr => ⟨fun _ => ?_, fun z => absurd (Classical.not_not.mp z) (by decide)⟩) (fun hr => ⟨fun z => absurd rfl z, fun _ => ⟨_, rfl, no fun z => by rw [hr] at z; exact absurd z.2 (by decide)⟩⟩)
    rw [if_pos ⟨hg, hr⟩] at h
    obtain ⟨b, hb, -, rfl, cb⟩ := idx_n hg
    obtain ⟨l, hl, -, rfl, cl⟩ := idx_n (n := 40) hr
    rw [cb] at h
    have gl := hx.1.2.2.2.1.1
    have r11 := hx.2.1.2.1.2.2.2.2.2.2.2.1
    have ps11 := hx.2.1.2.2.2.2.2.2.1
    have hok := (hx.1.2.2.2.2.1 hh).1
    have h24 := (hx.1.2.2.2.2.1 hh).2
    obtain ⟨hql, hqk⟩ := hx.1.2.2.2.2.2 hh hpv
    have hs1 : ∀ a, inP 1520 a → scr D a := fun a ha => Or.inr (Or.inr (by unfold inP at ha; omega))
    have hfc1 : ∀ a, inP 1520 a → 2 ≤ a ∧ a < 1529 := fun a ha => by unfold inP at ha; omega
    refine ⟨s15, by rw [r11]; exact ps11.1, ?_⟩
    rw [r11]
    refine sp_empty (k := xk s) (by omega) ps11 fun M1 hfr1 hpd1 => ?_
    have loop : ∀ (n i : Nat) (f : aP) (M' : zM), i + n = (xes s).length → als (xk s) false b (xes s) (xqs s) [] i = some f → zfr (inP 1520) M M' → pdy M' 1520 (xk s) f → pok (xk s) f → wX7_certificate d (fun r M2 => ∃ x : Int32, r = [.int x] ∧ P x M2) 22 [some (.ref 2), some (.int (nI b)), some (.int (nI l)), some (.int (nI i))] [] M' := by
      intro n
      induction n with
      | zero =>
        intro i f M' hi hal hfr hpd hpk
        have hx' := xX_fr hfr hs1 hx
        have hS' := hx'.2.1
        have hc' := (hx'.2.2.2.2.2.1 hh).1
        rw [show i = (xes s).length by omega] at hal
        rw [hal] at h
        refine sg_X7_certificate_22 _ _ _ _ _ ⟨hS'.1.1, by rw [hS'.2.1.2.2.2.1]; exact hS'.2.2.2.2.1.1.1.1, fun _ => ⟨hS'.1.1, hS'.1.1, ?_⟩, fun z => absurd (by rw [hS'.2.1.2.2.2.1, hc'.1, show i = (xes s).length by omega]; exact Int32.le_refl _) z⟩
        rw [hS'.2.1.2.2.2.2.2.2.2.1]
        exact sp_put (by omega) hS' hl hS'.2.2.2.2.2.2.1 (by omega) hpd hpk.2.2 fun M3 hfr3 hpd3 => ⟨_, rfl, h M3 D F e e2 (xX_put hfr3 hl hpd3 hpk hx') (zfc_tr (zfc_of hfr hfc1) (zfc_of hfr3 (inP_c hl)))⟩
      | succ n ih =>
        intro i f M' hi hal hfr hpd hpk
        have hx' := xX_fr hfr hs1 hx
        have hS' := hx'.2.1
        have hI' := hS'.2.2.2.2.1.1
        have hF' := hS'.2.2.2.2.2.1.2.1
        have hc' := (hx'.2.2.2.2.2.1 hh).1
        have hil : i < (xes s).length := by omega
        have ci := cl_n (n := i) (by omega)
        have hR := hI'.2.1.2 i (by omega)
        have bi := hI'.2.2.1.1 i (by omega)
        have hcf := iel_cof (fun E hE => (hx'.2.2.2.2.2.1 hh).2 i E hE) hok hil hb
        have hqi : (xqs s)[i]? = some ((xqs s).getD i []) := by
          rw [List.getD_eq_getElem?_getD, List.getElem?_eq_getElem (by omega)]
          rfl
        have hqd := hx'.2.2.2.2.2.2.2 hh hpv i _ hqi
        have hqo := hqk _ (List.mem_of_getElem? hqi)
        have stp : als (xk s) false b (xes s) (xqs s) [] (i + 1) = aprod (xk s) (acof (xes s) i b) ((xqs s).getD i []) f := by rw [als_s, hal]; rfl
        have z24 : zin (nI i) 24 := zin_n (by omega) (by omega)
        have z25 : zin (nI i) 25 := zin_n (by omega) (by omega)
        refine sg_X7_certificate_22 _ _ _ _ _ ⟨hS'.1.1, by rw [hS'.2.1.2.2.2.1]; exact hI'.1.1, fun z => ?_, fun _ => ⟨hS'.1.1, hS'.1.1, by rw [hS'.2.1.2.2.2.2.2.2.1]; exact hF'.1, by rw [hS'.2.1.2.2.2.2.2.2.1, hF'.2.2.2.1, hF'.2.2.2.2.1], by rw [hS'.2.1.2.2.2.2.2.2.1, hF'.2.2.2.1, hF'.2.2.2.2.1]; exact z24, hS'.1.1, by rw [hS'.2.1.2.2.2.1]; exact hI'.1.1, by rw [hS'.2.1.2.2.2.1, hI'.1.2.2.1, hI'.2.1.1], by rw [hS'.2.1.2.2.2.1, hI'.1.2.2.1, hI'.2.1.1]; exact z25, by rw [hS'.2.1.2.2.2.1, hI'.1.2.2.1, ci, hR.1]; exact hR.2.1, by rw [hS'.2.1.2.2.2.1, hI'.1.2.2.1, ci, hR.1, hR.2.2.2.1, hR.2.2.2.2.1], by rw [hS'.2.1.2.2.2.1, hI'.1.2.2.1, ci, hR.1, hR.2.2.2.1, hR.2.2.2.2.1]; exact zin_n (by omega) (by omega), by rw [hS'.2.1.2.2.2.2.2.2.2.1]; exact hS'.2.2.2.2.2.2.1.1, ?_⟩⟩
        · rw [hS'.2.1.2.2.2.1, hc'.1] at z
          have := (nI_leI (by omega) (by omega)).mp z
          omega
        · rw [hS'.2.1.2.2.2.2.2.2.2.1, hS'.2.1.2.2.2.2.2.2.1, hF'.2.2.2.1, ci, hF'.2.2.2.2.2.1 i (by omega), hS'.2.1.2.2.2.1, hI'.1.2.2.1, hR.1, hR.2.2.2.1, cb, hR.2.2.2.2.2.1 b (by omega)]
          refine sp_addProduct (by omega) hS'.2.2.2.2.2.2.1 (hF'.2.2.2.2.2.2.2.2 i (by omega)) (hR.2.2.2.2.2.2.2 b (by omega)) (by omega) (by omega) (by unfold inP; omega) (xX_ost hx') hpd hqd hcf.1 hpk hqo hcf.2 (fun f' M2 hf' hfr2 hpd2 => ?_) (fun M2 hn hfr2 => ?_)
          · rw [hf'] at stp
            refine ⟨fun _ => ?_, fun z => absurd (Classical.not_not.mp z) (by decide)⟩
            intro v3
            rw [show v3 = nI (i + 1) from nI_1 i]
            exact ih (i + 1) f' M2 (by omega) stp (zfr_tr hfr hfr2) hpd2 (aprod_ok hcf.2.1 hqo.1 hpk hf')
          · rw [hn] at stp
            rw [als_none stp (by omega)] at h
            exact ⟨fun z => absurd rfl z, fun _ => ⟨_, rfl, h M2 D F e e2 (xX_fr (zfr_tr hfr hfr2) hs1 hx) (zfc_of (zfr_tr hfr hfr2) hfc1)⟩⟩
    exact loop (xes s).length 0 [] M1 (by omega) rfl hfr1 hpd1 pok_nil
  · rw [hx.2.2.1.2.2.2.2, z.2] at c2
    exact c2 (by decide)
end
section
/-! calls of the class: checks, radicals -/
theorem asmu_s {k g : Nat} {gs cs : List aP} : asmu k gs cs (g + 1) = (match asmu k gs cs g with
    | none => none
    | some f => match aprod k (gs.getD g []) (cs.getD g []) [] with
      | none => none
      | some p => aadds k (1, 1) mone p f) := rfl
theorem asmu_none {k n : Nat} {gs cs : List aP} (h : asmu k gs cs n = none) : ∀ {m : Nat}, n ≤ m → asmu k gs cs m = none
  | 0, hm => by rw [show n = 0 by omega] at h; exact h
  | m + 1, hm => by
    by_cases e : n = m + 1
    · rw [← e]; exact h
    · rw [asmu_s, asmu_none h (show n ≤ m by omega)]
theorem sp_sumUp {d D F c k : Nat} {M : zM} {s : aX} {e e2 : Nat → Nat} {cs : List aP} {P : Int32 → zM → Prop} (hd : 7 ≤ d) (hx : xX M s D F e e2) (hk : xk s = k) (hcs : zsh M c = (5, 8)) (hcr : ∀ i, i < 8 → zR M c i = c + 1 + 4 * i ∧ pst M (c + 1 + 4 * i) 3) (hcd : ∀ (i : Nat) (L : aP), cs[i]? = some L → pdy M (c + 1 + 4 * i) k L ∧ pok k L) (hcl : cs.length = (xgs s).length) (hc : 205 ≤ c ∧ c < 1155)
    (h1 : ∀ f M', asmu k (xgs s) cs (xgs s).length = some f → zfr (fun a => 1520 ≤ a ∧ a < 1528) M M' → pdy M' 1520 k f → pok k f → P 1 M') (h0 : ∀ M', asmu k (xgs s) cs (xgs s).length = none → zfr (fun a => 1520 ≤ a ∧ a < 1528) M M' → P 0 M') : ycI d nX7_sumUp [.ref 2, .ref c] M P := by
  obtain ⟨d, rfl, he⟩ := dS hd
  subst hk
  have gl := hx.1.2.2.2.1
  have r11 := hx.2.1.2.1.2.2.2.2.2.2.2.1
  have ps11 := hx.2.1.2.2.2.2.2.2.1
  have up1 : ∀ a, inP 1520 a → 1520 ≤ a ∧ a < 1528 := fun a ha => by unfold inP at ha; omega
  have up2 : ∀ a, inP 1524 a → 1520 ≤ a ∧ a < 1528 := fun a ha => by unfold inP at ha; omega
  have loop : ∀ (n g : Nat) (f : aP) (M' : zM), g + n = (xgs s).length → asmu (xk s) (xgs s) cs g = some f → zfr (fun a => 1520 ≤ a ∧ a < 1528) M M' → pdy M' 1520 (xk s) f → pok (xk s) f → wX7_sumUp d (fun r M2 => ∃ x : Int32, r = [.int x] ∧ P x M2) 5 [some (.ref 2), some (.ref c), some (.int (nI g))] [] M' := by
    intro n
    induction n with
    | zero =>
      intro g f M' hg has hfr hpd hpk
      have hx' := xX_fr hfr (fun a ha => Or.inr (Or.inr (by omega))) hx
      rw [show g = (xgs s).length by omega] at has
      exact sg_X7_sumUp_5 _ _ _ _ ⟨hx'.2.1.1.1, fun _ => ⟨Or.inr rfl, _, rfl, h1 f M' has hfr hpd hpk⟩, fun z => absurd (by rw [hx'.2.2.1.2.2.1, show g = (xgs s).length by omega]; exact Int32.le_refl _) z⟩
    | succ n ih =>
      intro g f M' hg has hfr hpd hpk
      have hx' := xX_fr hfr (fun a ha => Or.inr (Or.inr (by omega))) hx
      have hS' := hx'.2.1
      have hgl : g < (xgs s).length := by omega
      have cg := cl_n (n := g) (by omega)
      have hcg := hcr g (by omega)
      have hgg := hS'.2.2.2.1.2 g (by omega)
      have hug : (xgs s)[g]? = some ((xgs s).getD g []) := by
        rw [List.getD_eq_getElem?_getD, List.getElem?_eq_getElem hgl]
        rfl
      have huc : cs[g]? = some (cs.getD g []) := by
        rw [List.getD_eq_getElem?_getD, List.getElem?_eq_getElem (by omega)]
        rfl
      obtain ⟨gd, gk⟩ := xX_gdy hx' g _ hug
      obtain ⟨cd, ck⟩ := hcd g _ huc
      have cd := pdy_fr hfr (fun a ha => by unfold inP at ha; omega) cd
      have cs' := pst_fr hfr hcg.2
      have zr : zR M' c g = c + 1 + 4 * g := by rw [hfr.2.2.2.1]; exact hcg.1
      have zs' : zsh M' c = (5, 8) := by rw [hfr.1]; exact hcs
      have stp := asmu_s (k := xk s) (g := g) (gs := xgs s) (cs := cs)
      rw [has] at stp
      dsimp only at stp
      refine sg_X7_sumUp_5 _ _ _ _ ⟨hS'.1.1, fun z => ?_, fun _ => ⟨hS'.1.1, by rw [zs'], by rw [zs']; exact zin_n (by omega) (by omega), hS'.1.1, by rw [hS'.2.1.2.2.1, hS'.2.2.2.1.1], by rw [hS'.2.1.2.2.1, hS'.2.2.2.1.1]; exact zin_n (by omega) (by omega), by rw [hS'.2.1.2.2.2.2.2.2.2.2.1]; exact hS'.2.2.2.2.2.2.2.1.1, ?_⟩⟩
      · rw [hx'.2.2.1.2.2.1] at z
        have := (nI_leI (by omega) (by omega)).mp z
        omega
      · rw [hS'.2.1.2.2.2.2.2.2.2.2.1, cg, zr, hS'.2.1.2.2.1, hgg.1]
        refine sp_becomeProduct (by omega) hS'.2.2.2.2.2.2.2.1 cs' hgg.2 (by omega) (by omega) (by unfold inP; omega) (xX_ost hx') cd gd ck gk (fun p M2 hp hfr2 hpd2 => ?_) (fun M2 hn hfr2 => ?_)
        · rw [hp] at stp
          dsimp only at stp
          have hpk2 := aprod_ok gk.1 ck.1 pok_nil hp
          have hfa := zfr_tr hfr (zfr_up hfr2 up2)
          have hx2 := xX_fr hfa (fun a ha => Or.inr (Or.inr (by omega))) hx
          have hS2 := hx2.2.1
          refine ⟨fun z => absurd z (by decide), fun _ => ⟨hS2.1.1, hS2.1.1, by rw [hS2.2.1.2.2.2.2.2.2.2.1]; exact hS2.2.2.2.2.2.2.1.1, ?_⟩⟩
          rw [hS2.2.1.2.2.2.2.2.2.2.1, hS2.2.1.2.2.2.2.2.2.2.2.1]
          refine sp_adds (c := (1, 1)) (m := mone) (by omega) hS2.2.2.2.2.2.2.1 hS2.2.2.2.2.2.2.2.1 (by omega) (by unfold inP; omega) (xX_ost hx2) (pdy_fr hfr2 (inP_ne (by omega)) hpd) hpd2 hpk hpk2 fok_1 (by decide) mone_ok (fun f' M3 hf' hfr3 hpd3 => ?_) (fun M3 hn3 hfr3 => ?_)
          · rw [hf'] at stp
            refine ⟨fun _ => ?_, fun z => absurd (Classical.not_not.mp z) (by decide)⟩
            intro v2
            rw [show v2 = nI (g + 1) from nI_1 g]
            exact ih (g + 1) f' M3 (by omega) stp (zfr_tr hfa (zfr_up hfr3 up1)) hpd3 (aadds_ok fok_1 (by decide) hpk2.1 hpk hf')
          · rw [hn3] at stp
            exact ⟨fun z => absurd rfl z, fun _ => ⟨Or.inl rfl, _, rfl, h0 M3 (asmu_none stp (by omega)) (zfr_tr hfa (zfr_up hfr3 up1))⟩⟩
        · rw [hn] at stp
          exact ⟨fun _ => ⟨Or.inl rfl, _, rfl, h0 M2 (asmu_none stp (by omega)) (zfr_tr hfr (zfr_up hfr2 up2))⟩, fun z => absurd rfl z⟩
  refine en_X7_sumUp _ _ M (sg_X7_sumUp_0 _ _ M ⟨hx.2.1.1.1, by rw [r11]; exact ps11.1, ?_⟩)
  rw [r11]
  exact sp_empty (k := xk s) (by omega) ps11 fun M1 hfr1 hpd1 => loop (xgs s).length 0 [] M1 (by omega) rfl (zfr_up hfr1 up1) hpd1 pok_nil
theorem achk_s {k i : Nat} {gs : List aP} {es : List aE} : achk k gs es (i + 1) = (match achk k gs es i with
    | none => none
    | some b => match asmu k gs (es.getD i aE0).2 gs.length with
      | none => none
      | some f => some (b && decide (f = (es.getD i aE0).1))) := rfl
theorem achk_none {k n : Nat} {gs : List aP} {es : List aE} (h : achk k gs es n = none) : ∀ {m : Nat}, n ≤ m → achk k gs es m = none
  | 0, hm => by rw [show n = 0 by omega] at h; exact h
  | m + 1, hm => by
    by_cases e : n = m + 1
    · rw [← e]; exact h
    · rw [achk_s, achk_none h (show n ≤ m by omega)]
theorem cX_check {d D F : Nat} {M : zM} {s : aX} {e e2 : Nat → Nat} {P : Int32 → zM → Prop} (hd : 10 ≤ d) (hx : xX M s D F e e2) (h : xres (A_check s) M P) : ycI d nX7_check [.ref 2] M P := by
  obtain ⟨d, rfl, he⟩ := dS hd
  have s15 := hx.2.1.1.1
  unfold A_check at h
  refine en_X7_check _ M (sg_X7_check_0 _ M ⟨s15, fun c => ?_, fun c => ⟨_, rfl, ?_⟩⟩)
  · rw [hx.2.2.1.2.2.2.1] at c
    have hh := eB_1.mp c
    rw [if_pos hh] at h
    have hok := (hx.1.2.2.2.2.1 hh).1
    have h24 := (hx.1.2.2.2.2.1 hh).2
    have gl := hx.1.2.2.2.1.1
    have hsc : ∀ a, (1520 ≤ a ∧ a < 1528) → scr D a := fun a ha => Or.inr (Or.inr (by omega))
    have hfc1 : ∀ a, (1520 ≤ a ∧ a < 1528) → 2 ≤ a ∧ a < 1529 := fun a ha => by omega
    have loop : ∀ (n i : Nat) (b : Bool) (M' : zM) (o3 : Option Value), i + n = (xes s).length → achk (xk s) (xgs s) (xes s) i = some b → zfr (fun a => 1520 ≤ a ∧ a < 1528) M M' → wX7_check d (fun r M2 => ∃ x : Int32, r = [.int x] ∧ P x M2) 9 [some (.ref 2), some (.int (eB b)), some (.int (nI i)), o3] [] M' := by
      intro n
      induction n with
      | zero =>
        intro i b M' o3 hi hb hfr
        have hx' := xX_fr hfr hsc hx
        have hS' := hx'.2.1
        have hc' := (hx'.2.2.2.2.2.1 hh).1
        rw [show i = (xes s).length by omega] at hb
        rw [hb] at h
        refine sg_X7_check_9 _ _ _ _ _ ⟨hS'.1.1, by rw [hS'.2.1.2.2.2.1]; exact hS'.2.2.2.2.1.1.1.1, fun _ => ⟨_, rfl, ?_⟩, fun z => absurd (by rw [hS'.2.1.2.2.2.1, hc'.1, show i = (xes s).length by omega]; exact Int32.le_refl _) z⟩
        cases b with
        | true => exact h M' D F e e2 hx' (zfc_of hfr hfc1)
        | false => exact h M' D F e e2 hx' (zfc_of hfr hfc1)
      | succ n ih =>
        intro i b M' o3 hi hb hfr
        have hx' := xX_fr hfr hsc hx
        have hS' := hx'.2.1
        have hI' := hS'.2.2.2.2.1.1
        have hc' := (hx'.2.2.2.2.2.1 hh).1
        have hil : i < (xes s).length := by omega
        have ci := cl_n (n := i) (by omega)
        have hR := hI'.2.1.2 i (by omega)
        have bi := hI'.2.2.1.1 i (by omega)
        have hui : (xes s)[i]? = some ((xes s).getD i aE0) := by
          rw [List.getD_eq_getElem?_getD, List.getElem?_eq_getElem hil]
          rfl
        have hEi := (hx'.2.2.2.2.2.1 hh).2 i _ hui
        have hki := hok _ (List.mem_of_getElem? hui)
        have stp := achk_s (k := xk s) (i := i) (gs := xgs s) (es := xes s)
        rw [hb] at stp
        dsimp only at stp
        generalize (xes s).getD i aE0 = E at hui hEi hki stp
        refine sg_X7_check_9 _ _ _ _ _ ⟨hS'.1.1, by rw [hS'.2.1.2.2.2.1]; exact hI'.1.1, fun z => ?_, fun _ => ⟨hS'.1.1, by rw [hS'.2.1.2.2.2.1]; exact hI'.1.1, by rw [hS'.2.1.2.2.2.1, hI'.1.2.2.1, hI'.2.1.1], by rw [hS'.2.1.2.2.2.1, hI'.1.2.2.1, hI'.2.1.1]; exact zin_n (by omega) (by omega), ?_⟩⟩
        · rw [hS'.2.1.2.2.2.1, hc'.1] at z
          have := (nI_leI (by omega) (by omega)).mp z
          omega
        · intro r3
          have e3 : r3 = e i := by rw [show r3 = zR M' (zR M' (zR M' 2 5) 1) (nI i).toNatClampNeg from rfl, hS'.2.1.2.2.2.1, hI'.1.2.2.1, ci, hR.1]
          clear_value r3
          subst e3
          refine ⟨hR.2.1, hS'.1.1, ?_⟩
          rw [hR.2.2.2.1]
          refine sp_sumUp (k := xk s) (by omega) hx' rfl hR.2.2.2.2.1 (fun j hj => ⟨by rw [hR.2.2.2.2.2.1 j hj], hR.2.2.2.2.2.2.2 j hj⟩) (fun j L hj => ⟨hEi.2 j L hj, hki.1.2 L (List.mem_of_getElem? hj)⟩) hki.2.2 (by omega) (fun f M2 hf hfr2 hpd2 hpk2 => ?_) (fun M2 hn hfr2 => ?_)
          · rw [hf] at stp
            dsimp only at stp
            have hfa := zfr_tr hfr hfr2
            have hx2 := xX_fr hfa hsc hx
            have hS2 := hx2.2.1
            have hR2 := hS2.2.2.2.2.1.1.2.1.2 i (by omega)
            refine ⟨fun _ => ⟨hS2.1.1, hR2.2.1, by rw [hS2.2.1.2.2.2.2.2.2.2.1]; exact hS2.2.2.2.2.2.2.1.1, ?_⟩, fun z => absurd (Classical.not_not.mp z) (by decide)⟩
            rw [hS2.2.1.2.2.2.2.2.2.2.1, hR2.2.2.1]
            refine sp_isLike (by omega) hS2.2.2.2.2.2.2.1 hR2.2.2.2.2.2.2.1 hpd2 (pdy_fr hfr2 (fun a ha => by unfold inP at ha; omega) hEi.1) hpk2 hki.1.1 (fun heq => ⟨fun _ => ?_, fun z => absurd (Classical.not_not.mp z) (by decide)⟩) (fun heq => ⟨fun z => absurd rfl z, fun _ => ?_⟩)
            · intro v2
              rw [show v2 = nI (i + 1) from nI_1 i]
              exact ih (i + 1) b M2 _ (by omega) (by rw [stp, decide_eq_true heq, Bool.and_true]) hfa
            · intro v2
              rw [show v2 = nI (i + 1) from nI_1 i]
              exact ih (i + 1) false M2 _ (by omega) (by rw [stp, decide_eq_false heq, Bool.and_false]) hfa
          · rw [hn] at stp
            rw [achk_none stp (by omega)] at h
            exact ⟨fun z => absurd rfl z, fun _ => ⟨_, rfl, h M2 D F e e2 (xX_fr (zfr_tr hfr hfr2) hsc hx) (zfc_of (zfr_tr hfr hfr2) hfc1)⟩⟩
    exact loop (xes s).length 0 true M _ (by omega) rfl zfr_rf
  · rw [hx.2.2.1.2.2.2.1] at c
    have hh := eB_0.mp (Classical.not_not.mp c)
    rw [if_neg (by rw [hh]; decide)] at h
    exact h M D F e e2 hx zfc_rf
theorem munit_ok {v : Nat} : mok (munit v) := by
  unfold mok munit
  split <;> decide
theorem cX_radical {d D F : Nat} {M : zM} {s : aX} {e e2 : Nat → Nat} {p l : Int32} {P : Int32 → zM → Prop} (hd : 10 ≤ d) (hx : xX M s D F e e2) (h : xres (A_radical s p l) M P) : ycI d nX7_radical [.ref 2, .int p, .int l] M P := by
  obtain ⟨d, rfl, he⟩ := dS hd
  have s15 := hx.2.1.1.1
  have hnv := hx.1.1
  have n0 := hx.2.2.1.2.1
  have n4 := hx.2.2.1.2.2.1
  have r3 := hx.2.1.2.1.2.2.1
  have gl := hx.1.2.2.2.1
  have hDF := hx.2.1.2.2.2.2.2.1.2.2
  unfold A_radical at h
  refine en_X7_radical _ _ _ M (sg_X7_radical_0 _ _ _ M (sp_isPlace (by omega) (fun hp => ⟨fun _ => ?_, fun z => absurd (Classical.not_not.mp z) (by decide)⟩) (fun hp => ⟨fun z => absurd rfl z, fun _ => ⟨_, rfl, ?_⟩⟩)))
  · rw [if_pos hp] at h
    have no : idx l 20001 = false → P (-2) M := fun z => by
      rw [if_neg (by rw [z]; decide)] at h
      exact h M D F e e2 hx zfc_rf
    refine ⟨fun c => ⟨_, rfl, no (idx_ge (by omega) (Or.inl c))⟩, fun c0 => ⟨fun c1 => ⟨s15, ?_⟩, fun c1 => ⟨_, rfl, no (lim_no c1)⟩⟩⟩
    have hid := lim_ok c0 c1
    rw [if_pos hid] at h
    obtain ⟨lim, hlim, -, rfl, cl⟩ := idx_n hid
    rw [cl] at h
    rw [n0]
    refine ⟨fun c4 => ?_, fun c4 => ⟨_, rfl, ?_⟩⟩
    · have c4 := (nI_ltI (b := 4) (by omega) (by omega)).mp c4
      rw [if_neg (by omega)] at h
      obtain ⟨i, hi, -, rfl, ci⟩ := idx_n (n := 40) hp
      have cg := cl_n (n := (xgs s).length) (by omega)
      have hgn := hx.2.1.2.2.2.1.2 (xgs s).length (by omega)
      refine ⟨s15, s15, by rw [r3, hx.2.1.2.2.2.1.1], by rw [r3, hx.2.1.2.2.2.1.1, n4]; exact zin_n (by omega) (by omega), ?_⟩
      intro r3'
      have e3 : r3' = 165 + 1 + 4 * (xgs s).length := by rw [show r3' = zR M (zR M 2 3) (zI M 2 4).toNatClampNeg from rfl, r3, n4, cg, hgn.1]
      clear_value r3'
      subst e3
      have hs : ∀ a, inP (165 + 1 + 4 * (xgs s).length) a → scr D a ∨ (166 + 4 * (xgs s).length ≤ a ∧ a < 202) := fun a ha => Or.inr (by unfold inP at ha; omega)
      have hfcs : ∀ a, inP (165 + 1 + 4 * (xgs s).length) a → 2 ≤ a ∧ a < 1529 := fun a ha => by unfold inP at ha; omega
      refine ⟨hgn.2.1, sp_empty (k := xk s) (by omega) hgn.2 fun M1 hfr1 hpd1 => ?_⟩
      have hx1 := xX_fq (zfq_of hfr1) hs (ist_fr hfr1 hx.2.1.2.2.2.2.1.2) hx
      have hgn1 := pst_fr hfr1 hgn.2
      refine ⟨hgn1.1, ?_⟩
      refine sp_come (t := ((1, 1), mone)) (by omega) hgn1 (xX_ost hx1) hpd1 pok_nil tok_1 (fun L' M2 hL' hfr2 hpd2 => ?_) (fun hn => by cases hn)
      have hL' : some [((1, 1), mone)] = some L' := hL'
      cases hL'
      have hfa2 := zfr_tr hfr1 hfr2
      have hx2 := xX_fq (zfq_of hfa2) hs (ist_fr hfa2 hx.2.1.2.2.2.2.1.2) hx
      have hS2 := hx2.2.1
      have hgn2 := pst_fr hfr2 hgn1
      refine ⟨fun z => absurd z (by decide), fun _ => ⟨hS2.1.1, ?_⟩⟩
      rw [hx2.2.2.1.2.1]
      refine sp_single (by omega) (by omega) ⟨hS2.1.1, by rw [hS2.2.1.2.1, hS2.2.2.1.1], by rw [hS2.2.1.2.1, hS2.2.2.1.1]; exact zin_n hi (by omega), hgn2.1, ?_⟩
      obtain ⟨-, pd, pk, ps⟩ := xX_at hx2 hi
      rw [hS2.2.1.2.1, ci, (hS2.2.2.1.2 i hi).1]
      refine sp_adds (c := (-1, 1)) (m := munit (xn s)) (by omega) hgn2 ps (by omega) (by unfold inP; omega) (xX_ost hx2) hpd2 pd (pok_1 tok_1) pk fok_m1 (by decide) munit_ok (fun g M3 hg hfr3 hpd3 => ?_) (fun M3 hn hfr3 => ?_)
      · rw [show xrad s (nI i) = some g from hg] at h
        have hgk := aadds_ok fok_m1 (by decide) pk.1 (pok_1 tok_1) hg
        have hfa3 := zfr_tr hfa2 hfr3
        have hx3 := xX_fq (zfq_of hfa3) hs (ist_fr hfa3 hx.2.1.2.2.2.2.1.2) hx
        have hS3 := hx3.2.1
        have q15 := hS3.1.1
        refine ⟨fun _ => ⟨q15, q15, q15, q15, by rw [hS3.2.1.2.2.2.2.1]; exact hS3.2.2.2.2.1.2.1.1, ?_⟩, fun z => absurd (Classical.not_not.mp z) (by decide)⟩
        rw [hS3.2.1.2.2.2.2.1, hS3.2.1.2.2.1, hS3.2.1.2.2.2.2.2.1, hx3.2.2.1.2.2.1, nI_1, show (xgs s).length + 1 = (xgs s ++ [g]).length by rw [List.length_append]; rfl]
        have hgd : gdy M3 165 (xk s) (xgs s ++ [g]) := fun j L hj => by
          by_cases hjl : j < (xgs s).length
          · rw [List.getElem?_append_left hjl] at hj
            exact xX_gdy hx3 j L hj
          · have hjj := (List.getElem?_eq_some_iff.mp hj).1
            rw [List.length_append] at hjj
            have hje : j = (xgs s).length := by simp at hjj; omega
            rw [List.getElem?_append_right (by omega), hje, Nat.sub_self] at hj
            have hj : some g = some L := hj
            cases hj
            rw [hje]
            exact ⟨hpd3, hgk⟩
        refine sp_build (sh := 0) (by omega) hS3.2.2.2.2.1.2 hS3.2.2.2.2.2.1.1 (xX_ost hx3) (by omega) (by omega) (by omega) (by omega) (by omega) hS3.2.2.2.1 hgd (by rw [List.length_append]; simp; omega) (by omega) fun x hxx e' M4 hfr4 hI4 d3 d4 d5 d6 hok4 => ?_
        dsimp only at h
        rw [hxx] at h
        have hx4 := xX_fq hfr4 (fun a ha => Or.inl (by
          rcases ha with ha | ha
          · exact Or.inr (Or.inl ha)
          · exact Or.inl ha)) hI4 hx3
        have hS4 := hx4.2.1
        have hfc4 : zfc M M4 := zfc_tr (zfc_of hfa3 hfcs) (zfc_ofq hfr4 (by omega) fun a ha => by unfold inI inD at ha; omega)
        refine ⟨fun z => ⟨hS4.1.1, by rw [hS4.2.1.2.2.2.2.1]; exact hI4.1.1, ?_⟩, fun z => ⟨_, rfl, ?_⟩⟩
        · have z := ecode_0.mp z
          rw [if_pos z] at h
          obtain ⟨y1, y2, y3⟩ := hok4 z
          rw [hS4.2.1.2.2.2.2.1]
          refine sp_isWhole (by omega) hI4 y1 y2 y3 (fun hw => ⟨fun z => absurd z (by decide), fun _ => ⟨_, rfl, ?_⟩⟩) (fun hw => ⟨fun _ => ⟨_, rfl, ?_⟩, fun z => absurd rfl z⟩)
          · rw [if_pos (awhb_iff.mpr hw)] at h
            exact h M4 D F e e' hx4 hfc4
          · rw [if_neg (fun y => hw (awhb_iff.mp y))] at h
            exact h M4 D F e e' hx4 hfc4
        · have z : x.1 ≠ 0 := fun y => z (ecode_0.mpr y)
          rw [if_neg z] at h
          exact h M4 D F e e' hx4 hfc4
      · rw [show xrad s (nI i) = none from hn] at h
        have hfa3 := zfr_tr hfa2 hfr3
        exact ⟨fun z => absurd rfl z, fun _ => ⟨_, rfl, h M3 D F e e2 (xX_fq (zfq_of hfa3) hs (ist_fr hfa3 hx.2.1.2.2.2.2.1.2) hx) (zfc_of hfa3 hfcs)⟩⟩
    · have c4 : 4 ≤ xn s := Nat.le_of_not_lt fun z => c4 ((nI_ltI (b := 4) (by omega) (by omega)).mpr z)
      rw [if_pos c4] at h
      exact h M D F e e2 hx zfc_rf
  · rw [if_neg (by rw [hp]; decide)] at h
    exact h M D F e e2 hx zfc_rf
end
section
/-! stretches of the small code, by wip/whole/vcgen.py -/
abbrev wX5_init (d : Nat) (Q : List Value → zM → Prop) : Nat → zLv → List Value → zM → Prop := zW (zCl gTb d) 0 kX5_init Q
theorem en_X5_init {d : Nat} {Q : List Value → zM → Prop} (a0 : Nat) (M : zM) (h : wX5_init d Q 0 [some (.ref a0)] [] M) : zCl gTb (d + 1) nX5_init [.ref a0] M Q := ⟨Nat.le_of_ble_eq_true rfl, h⟩
set_option maxRecDepth 100000 in
set_option maxHeartbeats 4000000 in
/-- from place 0 -/
theorem sg_X5_init_0 {d : Nat} {Q : List Value → zM → Prop} (a0 : Nat) (M : zM) (h :
¬ a0 = 0 ∧ (Q [] M)
) : wX5_init d Q 0 [some (.ref a0)] [] M := zseg (zCl_good gTb d) (fun _ => false) 8 h
abbrev wX6_init (d : Nat) (Q : List Value → zM → Prop) : Nat → zLv → List Value → zM → Prop := zW (zCl gTb d) 0 kX6_init Q
theorem en_X6_init {d : Nat} {Q : List Value → zM → Prop} (a0 : Nat) (a1 : Nat) (M : zM) (h : wX6_init d Q 0 [some (.ref a0), some (.ref a1)] [] M) : zCl gTb (d + 1) nX6_init [.ref a0, .ref a1] M Q := ⟨Nat.le_of_ble_eq_true rfl, h⟩
set_option maxRecDepth 100000 in
set_option maxHeartbeats 4000000 in
/-- from place 0 -/
theorem sg_X6_init_0 {d : Nat} {Q : List Value → zM → Prop} (a0 : Nat) (a1 : Nat) (M : zM) (h :
¬ a0 = 0 ∧ ((zsh M a0).1 = 14 ∧ (let M1 : zM := zuR M a0 0 a1
¬ ((100 : Int32)) < 0 ∧ (((100 : Int32)).toNatClampNeg ≤ 100000 ∧ (let n2 : Nat := zn M1
let M3 : zM := zal M1 (3, ((100 : Int32)).toNatClampNeg) ((100 : Int32)).toNatClampNeg
(zsh M3 a0).1 = 14 ∧ (let M4 : zM := zuR M3 a0 1 n2
¬ ((100 : Int32)) < 0 ∧ (((100 : Int32)).toNatClampNeg ≤ 100000 ∧ (let n5 : Nat := zn M4
let M6 : zM := zal M4 (2, ((100 : Int32)).toNatClampNeg) ((100 : Int32)).toNatClampNeg
(zsh M6 a0).1 = 14 ∧ (let M7 : zM := zuR M6 a0 2 n5
¬ ((100 : Int32)) < 0 ∧ (((100 : Int32)).toNatClampNeg ≤ 100000 ∧ (let n8 : Nat := zn M7
let M9 : zM := zal M7 (2, ((100 : Int32)).toNatClampNeg) ((100 : Int32)).toNatClampNeg
(zsh M9 a0).1 = 14 ∧ (let M10 : zM := zuR M9 a0 3 n8
Q [] M10)))))))))))
) : wX6_init d Q 0 [some (.ref a0), some (.ref a1)] [] M := zseg (zCl_good gTb d) (fun _ => false) 23 h
abbrev wX7_row (d : Nat) (Q : List Value → zM → Prop) : Nat → zLv → List Value → zM → Prop := zW (zCl gTb d) 4 kX7_row Q
theorem en_X7_row {d : Nat} {Q : List Value → zM → Prop} (a0 : Int32) (a1 : Nat) (M : zM) (h : wX7_row d Q 0 [some (.int a0), some (.ref a1), none, none] [] M) : zCl gTb (d + 1) nX7_row [.int a0, .ref a1] M Q := ⟨Nat.le_of_ble_eq_true rfl, h⟩
set_option maxRecDepth 100000 in
set_option maxHeartbeats 4000000 in
/-- from place 0 -/
theorem sg_X7_row_0 {d : Nat} {Q : List Value → zM → Prop} (a0 : Int32) (a1 : Nat) (M : zM) (h :
¬ a0 < 0 ∧ (a0.toNatClampNeg ≤ 100000 ∧ (let n1 : Nat := zn M
let M2 : zM := zal M (5, a0.toNatClampNeg) a0.toNatClampNeg
wX7_row d Q 5 [some (.int a0), some (.ref a1), some (.ref n1), some (.int ((0 : Int32)))] [] M2))
) : wX7_row d Q 0 [some (.int a0), some (.ref a1), none, none] [] M := zseg (zCl_good gTb d) (fun j => j == 5) 10 h
set_option maxRecDepth 100000 in
set_option maxHeartbeats 4000000 in
/-- from place 5 -/
theorem sg_X7_row_5 {d : Nat} {Q : List Value → zM → Prop} (a0 : Int32) (a1 : Nat) (a2 : Nat) (a3 : Int32) (M : zM) (h :
(a0 ≤ a3 → (Q [.ref a2] M)) ∧ (¬ (a0 ≤ a3) → (let n1 : Nat := zn M
let M2 : zM := zal M (14, 0) 5
(zsh M2 n1).1 = 14 ∧ (ycV d nX6_init [.ref n1, .ref a1] M2 fun M3 => ((zsh M3 a2).1 = 5 ∧ (zin a3 (zsh M3 a2).2 ∧ ((zsh M3 n1).1 = 14 ∧ (let M4 : zM := zuR M3 a2 a3.toNatClampNeg n1
let v3_5 : Int32 := a3 + 1
wX7_row d Q 5 [some (.int a0), some (.ref a1), some (.ref a2), some (.int v3_5)] [] M4)))))))
) : wX7_row d Q 5 [some (.int a0), some (.ref a1), some (.ref a2), some (.int a3)] [] M := zseg (zCl_good gTb d) (fun j => j == 5) 19 h
abbrev wX1_init (d : Nat) (Q : List Value → zM → Prop) : Nat → zLv → List Value → zM → Prop := zW (zCl gTb d) 0 kX1_init Q
theorem en_X1_init {d : Nat} {Q : List Value → zM → Prop} (a0 : Nat) (a1 : Nat) (a2 : Int32) (M : zM) (h : wX1_init d Q 0 [some (.ref a0), some (.ref a1), some (.int a2)] [] M) : zCl gTb (d + 1) nX1_init [.ref a0, .ref a1, .int a2] M Q := ⟨Nat.le_of_ble_eq_true rfl, h⟩
set_option maxRecDepth 100000 in
set_option maxHeartbeats 4000000 in
/-- from place 0 -/
theorem sg_X1_init_0 {d : Nat} {Q : List Value → zM → Prop} (a0 : Nat) (a1 : Nat) (a2 : Int32) (M : zM) (h :
¬ a0 = 0 ∧ (let n1 : Nat := zn M
let M2 : zM := zal M (14, 0) 5
(zsh M2 n1).1 = 14 ∧ (ycV d nX6_init [.ref n1, .ref a1] M2 fun M3 => ((zsh M3 a0).1 = 11 ∧ (let M4 : zM := zuR M3 a0 0 n1
ycR d nX7_row [.int a2, .ref a1] M4 fun c6 M5 => ((zsh M5 a0).1 = 11 ∧ (let M7 : zM := zuR M5 a0 1 c6
Q [] M7))))))
) : wX1_init d Q 0 [some (.ref a0), some (.ref a1), some (.int a2)] [] M := zseg (zCl_good gTb d) (fun _ => false) 19 h
abbrev wX0_init (d : Nat) (Q : List Value → zM → Prop) : Nat → zLv → List Value → zM → Prop := zW (zCl gTb d) 0 kX0_init Q
theorem en_X0_init {d : Nat} {Q : List Value → zM → Prop} (a0 : Nat) (a1 : Nat) (M : zM) (h : wX0_init d Q 0 [some (.ref a0), some (.ref a1)] [] M) : zCl gTb (d + 1) nX0_init [.ref a0, .ref a1] M Q := ⟨Nat.le_of_ble_eq_true rfl, h⟩
set_option maxRecDepth 100000 in
set_option maxHeartbeats 4000000 in
/-- from place 0 -/
theorem sg_X0_init_0 {d : Nat} {Q : List Value → zM → Prop} (a0 : Nat) (a1 : Nat) (M : zM) (h :
¬ a0 = 0 ∧ (let n1 : Nat := zn M
let M2 : zM := zal M (14, 0) 5
(zsh M2 n1).1 = 14 ∧ (ycV d nX6_init [.ref n1, .ref a1] M2 fun M3 => ((zsh M3 a0).1 = 10 ∧ (let M4 : zM := zuR M3 a0 0 n1
let n5 : Nat := zn M4
let M6 : zM := zal M4 (14, 0) 5
(zsh M6 n5).1 = 14 ∧ (ycV d nX6_init [.ref n5, .ref a1] M6 fun M7 => ((zsh M7 a0).1 = 10 ∧ (let M8 : zM := zuR M7 a0 1 n5
ycR d nX7_row [.int ((24 : Int32)), .ref a1] M8 fun c10 M9 => ((zsh M9 a0).1 = 10 ∧ (let M11 : zM := zuR M9 a0 2 c10
Q [] M11)))))))))
) : wX0_init d Q 0 [some (.ref a0), some (.ref a1)] [] M := zseg (zCl_good gTb d) (fun _ => false) 25 h
abbrev wX3_init (d : Nat) (Q : List Value → zM → Prop) : Nat → zLv → List Value → zM → Prop := zW (zCl gTb d) 0 kX3_init Q
theorem en_X3_init {d : Nat} {Q : List Value → zM → Prop} (a0 : Nat) (a1 : Nat) (a2 : Int32) (M : zM) (h : wX3_init d Q 0 [some (.ref a0), some (.ref a1), some (.int a2), none] [] M) : zCl gTb (d + 1) nX3_init [.ref a0, .ref a1, .int a2] M Q := ⟨Nat.le_of_ble_eq_true rfl, h⟩
set_option maxRecDepth 100000 in
set_option maxHeartbeats 4000000 in
/-- from place 0 -/
theorem sg_X3_init_0 {d : Nat} {Q : List Value → zM → Prop} (a0 : Nat) (a1 : Nat) (a2 : Int32) (M : zM) (h :
¬ a0 = 0 ∧ ((zsh M a0).1 = 12 ∧ (let M1 : zM := zuR M a0 0 a1
¬ ((25 : Int32)) < 0 ∧ (((25 : Int32)).toNatClampNeg ≤ 100000 ∧ (let n2 : Nat := zn M1
let M3 : zM := zal M1 (6, ((25 : Int32)).toNatClampNeg) ((25 : Int32)).toNatClampNeg
(zsh M3 a0).1 = 12 ∧ (let M4 : zM := zuR M3 a0 1 n2
wX3_init d Q 11 [some (.ref a0), some (.ref a1), some (.int a2), some (.int ((0 : Int32)))] [] M4)))))
) : wX3_init d Q 0 [some (.ref a0), some (.ref a1), some (.int a2), none] [] M := zseg (zCl_good gTb d) (fun j => j == 11) 16 h
set_option maxRecDepth 100000 in
set_option maxHeartbeats 4000000 in
/-- from place 11 -/
theorem sg_X3_init_11 {d : Nat} {Q : List Value → zM → Prop} (a0 : Nat) (a1 : Nat) (a2 : Int32) (a3 : Int32) (M : zM) (h :
(((24 : Int32)) < a3 → (¬ ((576 : Int32)) < 0 ∧ (((576 : Int32)).toNatClampNeg ≤ 100000 ∧ (let n1 : Nat := zn M
let M2 : zM := zal M (2, ((576 : Int32)).toNatClampNeg) ((576 : Int32)).toNatClampNeg
(zsh M2 a0).1 = 12 ∧ (let M3 : zM := zuR M2 a0 7 n1
Q [] M3))))) ∧ (¬ (((24 : Int32)) < a3) → ((zsh M a0).1 = 12 ∧ (let n4 : Nat := zn M
let M5 : zM := zal M (11, 0) 2
(zsh M5 n4).1 = 11 ∧ (ycV d nX1_init [.ref n4, .ref a1, .int a2] M5 fun M6 => ((zsh M6 (zR M a0 1)).1 = 6 ∧ (zin a3 (zsh M6 (zR M a0 1)).2 ∧ ((zsh M6 n4).1 = 11 ∧ (let M7 : zM := zuR M6 (zR M a0 1) a3.toNatClampNeg n4
let v3_8 : Int32 := a3 + 1
wX3_init d Q 11 [some (.ref a0), some (.ref a1), some (.int a2), some (.int v3_8)] [] M7))))))))
) : wX3_init d Q 11 [some (.ref a0), some (.ref a1), some (.int a2), some (.int a3)] [] M := zseg (zCl_good gTb d) (fun j => j == 11) 24 h
abbrev wX7_init (d : Nat) (Q : List Value → zM → Prop) : Nat → zLv → List Value → zM → Prop := zW (zCl gTb d) 0 kX7_init Q
theorem en_X7_init {d : Nat} {Q : List Value → zM → Prop} (a0 : Nat) (a1 : Int32) (M : zM) (h : wX7_init d Q 0 [some (.ref a0), some (.int a1)] [] M) : zCl gTb (d + 1) nX7_init [.ref a0, .int a1] M Q := ⟨Nat.le_of_ble_eq_true rfl, h⟩
set_option maxRecDepth 100000 in
set_option maxHeartbeats 4000000 in
/-- from place 0 -/
theorem sg_X7_init_0 {d : Nat} {Q : List Value → zM → Prop} (a0 : Nat) (a1 : Int32) (M : zM) (h :
¬ a0 = 0 ∧ ((((1 : Int32)) ≤ a1 → ((a1 ≤ ((4 : Int32)) → ((zsh M a0).1 = 15 ∧ (let M1 : zM := zuI M a0 0 a1
wX7_init d Q 15 [some (.ref a0), some (.int a1)] [] M1))) ∧ (¬ (a1 ≤ ((4 : Int32))) → ((zsh M a0).1 = 15 ∧ (let M2 : zM := zuI M a0 0 ((4 : Int32))
wX7_init d Q 15 [some (.ref a0), some (.int a1)] [] M2))))) ∧ (¬ (((1 : Int32)) ≤ a1) → ((zsh M a0).1 = 15 ∧ (let M3 : zM := zuI M a0 0 ((1 : Int32))
wX7_init d Q 15 [some (.ref a0), some (.int a1)] [] M3))))
) : wX7_init d Q 0 [some (.ref a0), some (.int a1)] [] M := zseg (zCl_good gTb d) (fun j => j == 15) 22 h
set_option maxRecDepth 100000 in
set_option maxHeartbeats 4000000 in
/-- from place 15 -/
theorem sg_X7_init_15 {d : Nat} {Q : List Value → zM → Prop} (a0 : Nat) (o1 : Option Value) (M : zM) (h :
let n1 : Nat := zn M
let M2 : zM := zal M (13, 0) 1
(zsh M2 n1).1 = 13 ∧ (ycV d nX5_init [.ref n1] M2 fun M3 => ((zsh M3 a0).1 = 15 ∧ (let M4 : zM := zuR M3 a0 1 n1
(zsh M3 a0).1 = 15 ∧ (ycR d nX7_row [.int ((40 : Int32)), .ref (zR M4 a0 1)] M4 fun c6 M5 => ((zsh M5 a0).1 = 15 ∧ (let M7 : zM := zuR M5 a0 2 c6
(zsh M5 a0).1 = 15 ∧ (ycR d nX7_row [.int ((9 : Int32)), .ref (zR M7 a0 1)] M7 fun c9 M8 => ((zsh M8 a0).1 = 15 ∧ (let M10 : zM := zuR M8 a0 3 c9
let n11 : Nat := zn M10
let M12 : zM := zal M10 (12, 0) 11
(zsh M12 a0).1 = 15 ∧ ((zsh M12 n11).1 = 12 ∧ (ycV d nX3_init [.ref n11, .ref (zR M12 a0 1), .int ((8 : Int32))] M12 fun M13 => ((zsh M13 a0).1 = 15 ∧ (let M14 : zM := zuR M13 a0 5 n11
let n15 : Nat := zn M14
let M16 : zM := zal M14 (12, 0) 11
(zsh M16 a0).1 = 15 ∧ ((zsh M16 n15).1 = 12 ∧ (ycV d nX3_init [.ref n15, .ref (zR M16 a0 1), .int ((0 : Int32))] M16 fun M17 => ((zsh M17 a0).1 = 15 ∧ (let M18 : zM := zuR M17 a0 7 n15
let n19 : Nat := zn M18
let M20 : zM := zal M18 (10, 0) 5
(zsh M20 a0).1 = 15 ∧ ((zsh M20 n19).1 = 10 ∧ (ycV d nX0_init [.ref n19, .ref (zR M20 a0 1)] M20 fun M21 => ((zsh M21 a0).1 = 15 ∧ (let M22 : zM := zuR M21 a0 8 n19
let n23 : Nat := zn M22
let M24 : zM := zal M22 (10, 0) 5
(zsh M24 a0).1 = 15 ∧ ((zsh M24 n23).1 = 10 ∧ (ycV d nX0_init [.ref n23, .ref (zR M24 a0 1)] M24 fun M25 => ((zsh M25 a0).1 = 15 ∧ (let M26 : zM := zuR M25 a0 9 n23
let n27 : Nat := zn M26
let M28 : zM := zal M26 (14, 0) 5
(zsh M28 a0).1 = 15 ∧ ((zsh M28 n27).1 = 14 ∧ (ycV d nX6_init [.ref n27, .ref (zR M28 a0 1)] M28 fun M29 => ((zsh M29 a0).1 = 15 ∧ (let M30 : zM := zuR M29 a0 11 n27
let n31 : Nat := zn M30
let M32 : zM := zal M30 (14, 0) 5
(zsh M32 a0).1 = 15 ∧ ((zsh M32 n31).1 = 14 ∧ (ycV d nX6_init [.ref n31, .ref (zR M32 a0 1)] M32 fun M33 => ((zsh M33 a0).1 = 15 ∧ (let M34 : zM := zuR M33 a0 12 n31
¬ ((4 : Int32)) < 0 ∧ (((4 : Int32)).toNatClampNeg ≤ 100000 ∧ (let n35 : Nat := zn M34
let M36 : zM := zal M34 (2, ((4 : Int32)).toNatClampNeg) ((4 : Int32)).toNatClampNeg
(zsh M36 a0).1 = 15 ∧ (let M37 : zM := zuR M36 a0 13 n35
Q [] M37))))))))))))))))))))))))))))))))))))
) : wX7_init d Q 15 [some (.ref a0), o1] [] M := zseg (zCl_good gTb d) (fun j => j == 15) 71 h
end
section
/-! what constructors make, in the class -/
def zgf (p : Nat) (M M' : zM) : Prop := ∀ a, a < p → zsh M' a = zsh M a ∧ (∀ j, zI M' a j = zI M a j) ∧ (∀ j, zL M' a j = zL M a j) ∧ ∀ j, zR M' a j = zR M a j
theorem zgf_rf {p : Nat} {M : zM} : zgf p M M := fun _ _ => ⟨rfl, fun _ => rfl, fun _ => rfl, fun _ => rfl⟩
theorem zgf_tr {p : Nat} {M1 M2 M3 : zM} (h1 : zgf p M1 M2) (h2 : zgf p M2 M3) : zgf p M1 M3 := fun a ha => ⟨(h2 a ha).1.trans (h1 a ha).1, fun j => ((h2 a ha).2.1 j).trans ((h1 a ha).2.1 j), fun j => ((h2 a ha).2.2.1 j).trans ((h1 a ha).2.2.1 j), fun j => ((h2 a ha).2.2.2 j).trans ((h1 a ha).2.2.2 j)⟩
theorem zgf_le {p q : Nat} {M M' : zM} (h : zgf p M M') (hq : q ≤ p) : zgf q M M' := fun a ha => h a (by omega)
theorem zgf_uR {p a k v : Nat} {M : zM} (h : p ≤ a) : zgf p M (zuR M a k v) := fun b hb => ⟨rfl, fun _ => rfl, fun _ => rfl, fun j => by rw [zR_uR, if_neg (by omega)]⟩
theorem zgf_al {M : zM} {sh : Nat × Nat} {w p : Nat} (h : p ≤ zn M) : zgf p M (zal M sh w) := fun b hb => by
  have hn : b ≠ M.2.1 := fun e => by
    have : zn M = M.2.1 := rfl
    omega
  exact ⟨if_neg hn, fun j => if_neg hn, fun j => if_neg hn, fun j => if_neg hn⟩
theorem zsh_al {M : zM} {sh : Nat × Nat} {w a : Nat} : zsh (zal M sh w) a = if a = zn M then sh else zsh M a := rfl
theorem zn_al {M : zM} {sh : Nat × Nat} {w : Nat} : zn (zal M sh w) = zn M + 1 := rfl
theorem zs_al {M : zM} {sh : Nat × Nat} {w : Nat} : zs (zal M sh w) = zs M + w := rfl
theorem zI_al {M : zM} {sh : Nat × Nat} {w a j : Nat} : zI (zal M sh w) a j = if a = zn M then 0 else zI M a j := rfl
theorem zR_al {M : zM} {sh : Nat × Nat} {w a j : Nat} : zR (zal M sh w) a j = if a = zn M then 0 else zR M a j := rfl
theorem pst_g {q : Nat} {M M' : zM} {p o : Nat} (h : zgf q M M') (hq : p + 4 ≤ q) (hp : pst M p o) : pst M' p o := by
  unfold pst at *
  rw [(h p (by omega)).1, (h (p + 1) (by omega)).1, (h (p + 2) (by omega)).1, (h (p + 3) (by omega)).1, (h p (by omega)).2.2.2, (h p (by omega)).2.2.2, (h p (by omega)).2.2.2, (h p (by omega)).2.2.2]
  exact hp
theorem est_g {q : Nat} {M M' : zM} {e o w : Nat} (h : zgf q M M') (hq : e + 6 + 4 * w ≤ q) (he : est M e o w) : est M' e o w := by
  obtain ⟨h1, h2, h3, h4, h5, h6, h7⟩ := he
  exact ⟨by rw [(h e (by omega)).1]; exact h1, by rw [(h e (by omega)).2.2.2]; exact h2, by rw [(h e (by omega)).2.2.2]; exact h3, by rw [(h (e + 5) (by omega)).1]; exact h4, fun i hi => by rw [(h (e + 5) (by omega)).2.2.2]; exact h5 i hi, pst_g h (by omega) h6, fun i hi => pst_g h (by omega) (h7 i hi)⟩
theorem dst_g {q : Nat} {M M' : zM} {D o : Nat} (h : zgf q M M') (hq : D + 106 ≤ q) (hd : dst M D o) : dst M' D o := by
  obtain ⟨h1, h2, h3, h4, h5, h6, h7, h8, h9⟩ := hd
  exact ⟨by rw [(h D (by omega)).1]; exact h1, by rw [(h D (by omega)).2.2.2]; exact h2, by rw [(h D (by omega)).2.2.2]; exact h3, by rw [(h D (by omega)).2.2.2]; exact h4, by rw [(h (D + 9) (by omega)).1]; exact h5, fun i hi => by rw [(h (D + 9) (by omega)).2.2.2]; exact h6 i hi, pst_g h (by omega) h7, pst_g h (by omega) h8, fun i hi => pst_g h (by omega) (h9 i hi)⟩
theorem ist_g {q : Nat} {M M' : zM} {H o w : Nat} {eid : Nat → Nat} (h : zgf q M M') (hq : H + 153 + 100 * w ≤ q) (hi : ist M H o w eid) : ist M' H o w eid := by
  obtain ⟨⟨h1, h2, h3, h4, h5⟩, h6, h7, h8⟩ := hi
  refine ⟨⟨by rw [(h H (by omega)).1]; exact h1, by rw [(h H (by omega)).2.2.2]; exact h2, by rw [(h H (by omega)).2.2.2]; exact h3, by rw [(h H (by omega)).2.2.2]; exact h4, by rw [(h _ (by omega)).1]; exact h5⟩, ⟨by rw [(h (H + 1) (by omega)).1]; exact h6.1, fun i hi => ⟨by rw [(h (H + 1) (by omega)).2.2.2]; exact (h6.2 i hi).1, est_g h ?_ (h6.2 i hi).2⟩⟩, h7, h8⟩
  have := h7.1 i hi
  omega
theorem gst_g {q : Nat} {M M' : zM} {G o : Nat} (h : zgf q M M') (hq : G + 37 ≤ q) (hg : gst M G o) : gst M' G o := ⟨by rw [(h G (by omega)).1]; exact hg.1, fun g hl => ⟨by rw [(h G (by omega)).2.2.2]; exact (hg.2 g hl).1, pst_g h (by omega) (hg.2 g hl).2⟩⟩
theorem sp_init6 {d p o : Nat} {M : zM} {P : zM → Prop} (hd : 1 ≤ d) (hp : (zsh M p).1 = 14) (hn : zn M = p + 1) (h0 : p ≠ 0) (h : ∀ M', zgf p M M' → pst M' p o → zI M' p 4 = zI M p 4 → zn M' = p + 4 → zs M' = zs M + 300 → P M') : ycV d nX6_init [.ref p, .ref o] M P := by
  obtain ⟨d, rfl, he⟩ := dS hd
  have c100 : (100 : Int32).toNatClampNeg = 100 := by decide
  have n100 : ¬ (100 : Int32) < 0 := by decide
  refine en_X6_init _ _ M (sg_X6_init_0 _ _ M ⟨h0, hp, ?_⟩)
  rw [c100]
  intro M1
  refine ⟨n100, by omega, ?_⟩
  intro n2 M3
  have e2 : n2 = p + 1 := hn
  have k3 : zn M3 = p + 2 := by show zn M + 1 = _; omega
  refine ⟨by rw [show M3 = zal M1 (3, 100) 100 from rfl, zsh_al, if_neg (by show p ≠ zn M; omega)]; exact hp, ?_⟩
  intro M4
  refine ⟨n100, by omega, ?_⟩
  intro n5 M6
  have e5 : n5 = p + 2 := k3
  have k6 : zn M6 = p + 3 := by show zn M3 + 1 = _; omega
  have s6 : zsh M6 p = zsh M p := by
    rw [show M6 = zal M4 (2, 100) 100 from rfl, zsh_al, if_neg (by show p ≠ zn M3; omega)]
    show zsh M3 p = _
    rw [show M3 = zal M1 (3, 100) 100 from rfl, zsh_al, if_neg (by show p ≠ zn M; omega)]
    rfl
  refine ⟨by rw [s6]; exact hp, ?_⟩
  intro M7
  refine ⟨n100, by omega, ?_⟩
  intro n8 M9
  have e8 : n8 = p + 3 := k6
  have s9 : zsh M9 p = zsh M p := by
    rw [show M9 = zal M7 (2, 100) 100 from rfl, zsh_al, if_neg (by show p ≠ zn M6; omega)]
    exact s6
  refine ⟨by rw [s9]; exact hp, ?_⟩
  intro M10
  have g1 : zgf p M M1 := zgf_uR (Nat.le_refl _)
  have g3 : zgf p M1 M3 := zgf_al (by show p ≤ zn M; omega)
  have g4 : zgf p M3 M4 := zgf_uR (Nat.le_refl _)
  have g6 : zgf p M4 M6 := zgf_al (by show p ≤ zn M3; omega)
  have g7 : zgf p M6 M7 := zgf_uR (Nat.le_refl _)
  have g9 : zgf p M7 M9 := zgf_al (by show p ≤ zn M6; omega)
  have g10 : zgf p M9 M10 := zgf_uR (Nat.le_refl _)
  have rr : ∀ j, zR M10 p j = if j = 3 then p + 3 else if j = 2 then p + 2 else if j = 1 then p + 1 else if j = 0 then o else zR M p j := fun j => by
    rw [show M10 = zuR M9 p 3 n8 from rfl, zR_uR, show M9 = zal M7 (2, 100) 100 from rfl, zR_al, if_neg (show p ≠ zn M7 by show p ≠ zn M6; omega), show M7 = zuR M6 p 2 n5 from rfl, zR_uR, show M6 = zal M4 (2, 100) 100 from rfl, zR_al, if_neg (show p ≠ zn M4 by show p ≠ zn M3; omega), show M4 = zuR M3 p 1 n2 from rfl, zR_uR, show M3 = zal M1 (3, 100) 100 from rfl, zR_al, if_neg (show p ≠ zn M1 by show p ≠ zn M; omega), show M1 = zuR M p 0 o from rfl, zR_uR, e2, e5, e8]
    simp only [true_and]
  have ss : ∀ a, zsh M10 a = if a = p + 3 then (2, 100) else if a = p + 2 then (2, 100) else if a = p + 1 then (3, 100) else zsh M a := fun a => by
    show zsh M9 a = _
    rw [show M9 = zal M7 (2, 100) 100 from rfl, zsh_al, show zn M7 = p + 3 from k6]
    show (if a = p + 3 then _ else zsh M6 a) = _
    rw [show M6 = zal M4 (2, 100) 100 from rfl, zsh_al, show zn M4 = p + 2 from k3]
    show (if a = p + 3 then _ else if a = p + 2 then _ else zsh M3 a) = _
    rw [show M3 = zal M1 (3, 100) 100 from rfl, zsh_al, show zn M1 = p + 1 from hn]
    rfl
  refine ⟨rfl, h M10 (zgf_tr g1 (zgf_tr g3 (zgf_tr g4 (zgf_tr g6 (zgf_tr g7 (zgf_tr g9 g10)))))) ⟨?_, ?_, ?_, ?_, ?_, ?_, ?_, ?_⟩ ?_ ?_ ?_⟩
  · rw [ss, if_neg (by omega), if_neg (by omega), if_neg (by omega)]; exact hp
  · rw [rr]; rfl
  · rw [rr]; rfl
  · rw [rr]; rfl
  · rw [rr]; rfl
  · rw [ss, if_neg (by omega), if_neg (by omega), if_pos rfl]
  · rw [ss, if_neg (by omega), if_pos rfl]
  · rw [ss, if_pos rfl]
  · show zI M9 p 4 = _
    rw [show M9 = zal M7 (2, 100) 100 from rfl, zI_al, if_neg (show p ≠ zn M7 by show p ≠ zn M6; omega)]
    show zI M6 p 4 = _
    rw [show M6 = zal M4 (2, 100) 100 from rfl, zI_al, if_neg (show p ≠ zn M4 by show p ≠ zn M3; omega)]
    show zI M3 p 4 = _
    rw [show M3 = zal M1 (3, 100) 100 from rfl, zI_al, if_neg (show p ≠ zn M1 by show p ≠ zn M; omega)]
    rfl
  · show zn M6 + 1 = _; omega
  · show zs M + 100 + 100 + 100 = _; omega
theorem sp_row {d o n : Nat} {M : zM} {P : Nat → zM → Prop} (hd : 2 ≤ d) (hn : n ≤ 100) (h0 : zn M ≠ 0) (h : ∀ M', zgf (zn M) M M' → zsh M' (zn M) = (5, n) → (∀ i, i < n → zR M' (zn M) i = zn M + 1 + 4 * i ∧ pst M' (zn M + 1 + 4 * i) o ∧ zI M' (zn M + 1 + 4 * i) 4 = 0) → zn M' = zn M + 1 + 4 * n → zs M' = zs M + 306 * n → P (zn M) M') : ycR d nX7_row [.int (nI n), .ref o] M P := by
  obtain ⟨d, rfl, he⟩ := dS hd
  have cn := cl_n (n := n) (by omega)
  generalize hA : zn M = A at h h0
  have loop : ∀ (m i : Nat) (M' : zM), i + m = n → zgf A M M' → zsh M' A = (5, n) → (∀ j, j < i → zR M' A j = A + 1 + 4 * j ∧ pst M' (A + 1 + 4 * j) o ∧ zI M' (A + 1 + 4 * j) 4 = 0) → zn M' = A + 1 + 4 * i → zs M' = zs M + n + 305 * i → wX7_row d (fun r M2 => ∃ x : Nat, r = [.ref x] ∧ P x M2) 5 [some (.int (nI n)), some (.ref o), some (.ref A), some (.int (nI i))] [] M' := by
    intro m
    induction m with
    | zero =>
      intro i M' hi hg hs hr hzn hzs
      exact sg_X7_row_5 _ _ _ _ _ ⟨fun _ => ⟨_, rfl, h M' hg hs (fun j hj => hr j (by omega)) (by omega) (by omega)⟩, fun c => absurd (by rw [show i = n by omega]; exact Int32.le_refl _) c⟩
    | succ m ih =>
      intro i M' hi hg hs hr hzn hzs
      have ci := cl_n (n := i) (by omega)
      refine sg_X7_row_5 _ _ _ _ _ ⟨fun c => ?_, fun _ => ?_⟩
      · have := (nI_leI (by omega) (by omega)).mp c
        omega
      · intro n1 M2
        have e1 : n1 = A + 1 + 4 * i := hzn
        clear_value n1
        subst e1
        have s2 : zsh M2 (A + 1 + 4 * i) = (14, 0) := by rw [show M2 = zal M' (14, 0) 5 from rfl, zsh_al, if_pos hzn.symm]
        have g2 : zgf (A + 1 + 4 * i) M' M2 := zgf_al (by omega)
        refine ⟨by rw [s2], sp_init6 (by omega) (by rw [s2]) (by show zn M' + 1 = _; omega) (by omega) fun M3 hg3 hp3 hi3 hn3 hs3 => ?_⟩
        have g23 := zgf_tr g2 hg3
        have s3 : zsh M3 A = (5, n) := by rw [(g23 A (by omega)).1]; exact hs
        refine ⟨by rw [s3], by rw [s3]; exact zin_n (by omega) (by omega), hp3.1, ?_⟩
        rw [ci]
        intro M4 v3
        rw [show v3 = nI (i + 1) from nI_1 i]
        refine ih (i + 1) M4 (by omega) (zgf_tr hg (zgf_tr (zgf_le g23 (by omega)) (zgf_uR (Nat.le_refl _)))) s3 (fun j hj => ?_) (by show zn M3 = _; omega) (by show zs M3 = _; rw [hs3, show zs M2 = zs M' + 5 from rfl]; omega)
        have r4 : ∀ a j, a ≠ A → zR M4 a j = zR M3 a j := fun a j ha => by rw [show M4 = zuR M3 A i (A + 1 + 4 * i) from rfl, zR_uR, if_neg (fun z => ha z.1)]
        have p4 : ∀ {p : Nat}, p ≠ A → pst M3 p o → pst M4 p o := fun hne hp => by
          obtain ⟨q1, q2, q3, q4, q5, q6⟩ := hp
          exact ⟨q1, by rw [r4 _ _ hne]; exact q2, by rw [r4 _ _ hne]; exact q3, by rw [r4 _ _ hne]; exact q4, by rw [r4 _ _ hne]; exact q5, q6⟩
        by_cases hji : j = i
        · subst hji
          refine ⟨by rw [show M4 = zuR M3 A j (A + 1 + 4 * j) from rfl, zR_uR, if_pos ⟨rfl, rfl⟩], p4 (by omega) hp3, ?_⟩
          show zI M3 _ 4 = 0
          rw [hi3, show M2 = zal M' (14, 0) 5 from rfl, zI_al, if_pos hzn.symm]
        · obtain ⟨t1, t2, t3⟩ := hr j (by omega)
          refine ⟨?_, p4 (by omega) (pst_g g23 (by omega) t2), ?_⟩
          · rw [show M4 = zuR M3 A i (A + 1 + 4 * i) from rfl, zR_uR, if_neg (fun z => hji z.2), (g23 A (by omega)).2.2.2]
            exact t1
          · show zI M3 _ 4 = 0
            rw [(g23 _ (by omega)).2.1]
            exact t3
  refine en_X7_row _ _ M (sg_X7_row_0 _ _ M ⟨nI_pos (by omega), by rw [cn]; omega, ?_⟩)
  rw [cn]
  intro n1 M2
  have e1 : n1 = A := hA
  clear_value n1
  subst e1
  refine loop n 0 M2 (by omega) (zgf_al (by omega)) ?_ (fun j hj => absurd hj (Nat.not_lt_zero _)) (by show zn M + 1 = _; omega) (by show zs M + n = _; omega)
  rw [show M2 = zal M (5, n) n from rfl, zsh_al, if_pos hA.symm]
theorem zgf_1 {p k v : Nat} {M : zM} : zgf p M (zuR M p k v) := zgf_uR (Nat.le_refl _)
theorem pst_u {M : zM} {p o a k v : Nat} (h : a ≠ p) (hp : pst M p o) : pst (zuR M a k v) p o := by
  obtain ⟨q1, q2, q3, q4, q5, q6⟩ := hp
  have r : ∀ j, zR (zuR M a k v) p j = zR M p j := fun j => by rw [zR_uR, if_neg (fun z => h z.1.symm)]
  exact ⟨q1, by rw [r]; exact q2, by rw [r]; exact q3, by rw [r]; exact q4, by rw [r]; exact q5, q6⟩
theorem sp_init1 {d e o w : Nat} {M : zM} {P : zM → Prop} (hd : 3 ≤ d) (hp : (zsh M e).1 = 11) (hn : zn M = e + 1) (h0 : e ≠ 0) (hw : w ≤ 8) (h : ∀ M', zgf e M M' → est M' e o w → zn M' = e + 6 + 4 * w → zs M' = zs M + 305 + 306 * w → P M') : ycV d nX1_init [.ref e, .ref o, .int (nI w)] M P := by
  obtain ⟨d, rfl, he⟩ := dS hd
  refine en_X1_init _ _ _ M (sg_X1_init_0 _ _ _ M ⟨h0, ?_⟩)
  intro n1 M2
  have e1 : n1 = e + 1 := hn
  clear_value n1
  subst e1
  have s2 : zsh M2 (e + 1) = (14, 0) := by rw [show M2 = zal M (14, 0) 5 from rfl, zsh_al, if_pos hn.symm]
  have g2 : zgf (e + 1) M M2 := zgf_al (by omega)
  refine ⟨by rw [s2], sp_init6 (by omega) (by rw [s2]) (by show zn M + 1 = _; omega) (by omega) fun M3 g3 hp3 hi3 hn3 hs3 => ?_⟩
  have g23 := zgf_tr g2 g3
  have k3 : (zsh M3 e).1 = 11 := by rw [(g23 e (by omega)).1]; exact hp
  refine ⟨k3, ?_⟩
  intro M4
  have hn4 : zn M4 = e + 5 := hn3
  refine sp_row (by omega) (by omega) (by omega) fun M5 g5 h5s h5r h5n h5z => ?_
  rw [hn4] at g5 h5s h5r h5n
  rw [hn4]
  refine ⟨by rw [(g5 e (by omega)).1]; exact k3, ?_⟩
  intro M7
  have rE : ∀ j, zR M7 e j = if j = 1 then e + 5 else if j = 0 then e + 1 else zR M e j := fun j => by
    rw [show M7 = zuR M5 e 1 (e + 5) from rfl, zR_uR, (g5 e (by omega)).2.2.2, show M4 = zuR M3 e 0 (e + 1) from rfl, zR_uR, (g23 e (by omega)).2.2.2]
    simp only [true_and]
  have rO : ∀ a j, a ≠ e → zR M7 a j = zR M5 a j := fun a j ha => by rw [show M7 = zuR M5 e 1 (e + 5) from rfl, zR_uR, if_neg (fun z => ha z.1)]
  refine ⟨rfl, h M7 (zgf_tr (zgf_le g23 (by omega)) (zgf_tr zgf_1 (zgf_tr (zgf_le g5 (by omega)) zgf_1))) ⟨?_, by rw [rE]; rfl, by rw [rE]; rfl, h5s, fun i hi => ?_, pst_u (by omega) (pst_g g5 (by omega) (pst_u (by omega) hp3)), fun i hi => ?_⟩ (by show zn M5 = _; omega) (by show zs M5 = _; rw [h5z, show zs M4 = zs M3 from rfl, hs3, show zs M2 = zs M + 5 from rfl])⟩
  · show (zsh M5 e).1 = 11
    rw [(g5 e (by omega)).1]; exact k3
  · rw [rO _ _ (by omega), (h5r i hi).1]
  · exact pst_u (by omega) (by have := (h5r i hi).2.1; rw [show e + 6 + 4 * i = e + 5 + 1 + 4 * i by omega]; exact this)
theorem sp_init0 {d D o : Nat} {M : zM} {P : zM → Prop} (hd : 3 ≤ d) (hp : (zsh M D).1 = 10) (hn : zn M = D + 1) (h0 : D ≠ 0) (h : ∀ M', zgf D M M' → dst M' D o → zn M' = D + 106 → zs M' = zs M + 7954 → P M') : ycV d nX0_init [.ref D, .ref o] M P := by
  obtain ⟨d, rfl, he⟩ := dS hd
  refine en_X0_init _ _ M (sg_X0_init_0 _ _ M ⟨h0, ?_⟩)
  intro n1 M2
  have e1 : n1 = D + 1 := hn
  clear_value n1
  subst e1
  have s2 : zsh M2 (D + 1) = (14, 0) := by rw [show M2 = zal M (14, 0) 5 from rfl, zsh_al, if_pos hn.symm]
  have g2 : zgf (D + 1) M M2 := zgf_al (by omega)
  refine ⟨by rw [s2], sp_init6 (by omega) (by rw [s2]) (by show zn M + 1 = _; omega) (by omega) fun M3 g3 hp3 hi3 hn3 hs3 => ?_⟩
  have g23 := zgf_tr g2 g3
  have k3 : (zsh M3 D).1 = 10 := by rw [(g23 D (by omega)).1]; exact hp
  refine ⟨k3, ?_⟩
  intro M4 n5 M6
  have e5 : n5 = D + 5 := hn3
  clear_value n5
  subst e5
  have hn4 : zn M4 = D + 5 := hn3
  have s6 : zsh M6 (D + 5) = (14, 0) := by rw [show M6 = zal M4 (14, 0) 5 from rfl, zsh_al, if_pos hn4.symm]
  have g6 : zgf (D + 5) M4 M6 := zgf_al (by omega)
  refine ⟨by rw [s6], sp_init6 (by omega) (by rw [s6]) (by show zn M4 + 1 = _; omega) (by omega) fun M7 g7 hp7 hi7 hn7 hs7 => ?_⟩
  have g67 := zgf_tr g6 g7
  have k7 : (zsh M7 D).1 = 10 := by rw [(g67 D (by omega)).1]; exact k3
  refine ⟨k7, ?_⟩
  intro M8
  have hn8 : zn M8 = D + 9 := hn7
  refine sp_row (n := 24) (by omega) (by omega) (by omega) fun M9 g9 h9s h9r h9n h9z => ?_
  rw [hn8] at g9 h9s h9r h9n
  rw [hn8]
  have k9 : (zsh M9 D).1 = 10 := by rw [(g9 D (by omega)).1]; exact k7
  refine ⟨k9, ?_⟩
  intro M11
  have rE : ∀ j, zR M11 D j = if j = 2 then D + 9 else if j = 1 then D + 5 else if j = 0 then D + 1 else zR M D j := fun j => by
    rw [show M11 = zuR M9 D 2 (D + 9) from rfl, zR_uR, (g9 D (by omega)).2.2.2, show M8 = zuR M7 D 1 (D + 5) from rfl, zR_uR, (g67 D (by omega)).2.2.2, show M4 = zuR M3 D 0 (D + 1) from rfl, zR_uR, (g23 D (by omega)).2.2.2]
    simp only [true_and]
  have rO : ∀ a j, a ≠ D → zR M11 a j = zR M9 a j := fun a j ha => by rw [show M11 = zuR M9 D 2 (D + 9) from rfl, zR_uR, if_neg (fun z => ha z.1)]
  refine ⟨rfl, h M11 (zgf_tr (zgf_le g23 (by omega)) (zgf_tr zgf_1 (zgf_tr (zgf_le g67 (by omega)) (zgf_tr zgf_1 (zgf_tr (zgf_le g9 (by omega)) zgf_1))))) ⟨k9, by rw [rE]; rfl, by rw [rE]; rfl, by rw [rE]; rfl, h9s, fun i hi => by rw [rO _ _ (by omega), (h9r i hi).1], pst_u (by omega) (pst_g g9 (by omega) (pst_u (by omega) (pst_g g67 (by omega) (pst_u (by omega) hp3)))), pst_u (by omega) (pst_g g9 (by omega) (pst_u (by omega) hp7)), fun i hi => pst_u (by omega) ?_⟩ (by show zn M9 = _; omega) (by show zs M9 = _; rw [h9z, show zs M8 = zs M7 from rfl, hs7, show zs M6 = zs M3 + 5 from rfl, hs3, show zs M2 = zs M + 5 from rfl])⟩
  rw [show D + 10 + 4 * i = D + 9 + 1 + 4 * i by omega]
  exact (h9r i hi).2.1
theorem est_u {M : zM} {e o w a k v : Nat} (h : ¬ inE w e a) (he : est M e o w) : est (zuR M a k v) e o w := by
  obtain ⟨h1, h2, h3, h4, h5, h6, h7⟩ := he
  have r : ∀ b j, inE w e b → zR (zuR M a k v) b j = zR M b j := fun b j hb => by
    rw [zR_uR, if_neg]
    rintro ⟨rfl, -⟩
    exact h hb
  exact ⟨h1, by rw [r _ _ (by unfold inE; omega)]; exact h2, by rw [r _ _ (by unfold inE; omega)]; exact h3, h4, fun i hi => by rw [r _ _ (by unfold inE; omega)]; exact h5 i hi, pst_u (fun z => h (by unfold inE; omega)) h6, fun i hi => pst_u (fun z => h (by unfold inE; omega)) (h7 i hi)⟩
theorem sp_init3 {d H o w : Nat} {M : zM} {P : zM → Prop} (hd : 4 ≤ d) (hp : (zsh M H).1 = 12) (hn : zn M = H + 1) (h0 : H ≠ 0) (hw : w = 8 ∨ w = 0) (ho : o < H) (h : ∀ M', zgf H M M' → ist M' H o w (fun i => H + 2 + (6 + 4 * w) * i) → (∀ j, zI M' H j = zI M H j) → zn M' = H + 153 + 100 * w → zs M' = zs M + 8276 + 7650 * w → P M') : ycV d nX3_init [.ref H, .ref o, .int (nI w)] M P := by
  obtain ⟨d, rfl, he⟩ := dS hd
  have c25 : (25 : Int32).toNatClampNeg = 25 := by decide
  have c576 : (576 : Int32).toNatClampNeg = 576 := by decide
  have iap0 : iap H w (fun i => H + 2 + (6 + 4 * w) * i) := by
    rcases hw with rfl | rfl
    · exact ⟨fun i hi => by dsimp only; omega, fun i j hi hj hij => by dsimp only; omega⟩
    · exact ⟨fun i hi => by dsimp only; omega, fun i j hi hj hij => by dsimp only; omega⟩
  have loop : ∀ (m i : Nat) (M' : zM), i + m = 25 → zgf H M M' → (zsh M' H).1 = 12 → (∀ j, zI M' H j = zI M H j) → zR M' H 0 = o → zR M' H 1 = H + 1 → zsh M' (H + 1) = (6, 25) → (∀ j, j < i → zR M' (H + 1) j = H + 2 + (6 + 4 * w) * j ∧ est M' (H + 2 + (6 + 4 * w) * j) o w) → zn M' = H + 2 + (6 + 4 * w) * i → zs M' = zs M + 25 + (307 + 306 * w) * i → wX3_init d (fun r M2 => r = [] ∧ P M2) 11 [some (.ref H), some (.ref o), some (.int (nI w)), some (.int (nI i))] [] M' := by
    intro m
    induction m with
    | zero =>
      intro i M' hi hg hs hI hr0 hr1 hs1 hr hzn hzs
      have hin : i = 25 := by omega
      subst hin
      have hz2 : zn M' = H + 152 + 100 * w := by rcases hw with rfl | rfl <;> omega
      refine sg_X3_init_11 _ _ _ _ _ ⟨fun _ => ⟨by decide, by decide, ?_⟩, fun c => absurd (by decide) c⟩
      rw [c576]
      intro n1 M2
      have e1 : n1 = H + 152 + 100 * w := hz2
      clear_value n1
      subst e1
      have g2 : zgf (H + 152 + 100 * w) M' M2 := zgf_al (by omega)
      refine ⟨by rw [(g2 H (by omega)).1]; exact hs, ?_⟩
      intro M3
      have r3 : ∀ a j, a ≠ H → zR M3 a j = zR M2 a j := fun a j ha => by rw [show M3 = zuR M2 H 7 (H + 152 + 100 * w) from rfl, zR_uR, if_neg (fun z => ha z.1)]
      have rH : ∀ j, j ≠ 7 → zR M3 H j = zR M' H j := fun j hj => by rw [show M3 = zuR M2 H 7 (H + 152 + 100 * w) from rfl, zR_uR, if_neg (fun z => hj z.2), (g2 H (by omega)).2.2.2]
      refine ⟨rfl, h M3 (zgf_tr hg (zgf_tr (zgf_le g2 (by omega)) zgf_1)) ⟨⟨?_, by rw [rH 0 (by omega)]; exact hr0, by rw [rH 1 (by omega)]; exact hr1, by rw [show M3 = zuR M2 H 7 (H + 152 + 100 * w) from rfl, zR_uR, if_pos ⟨rfl, rfl⟩], ?_⟩, ⟨?_, fun j hj => ⟨?_, ?_⟩⟩, iap0, ho, by omega⟩ (fun j => ?_) (by show zn M' + 1 = _; omega) ?_⟩
      · show (zsh M2 H).1 = 12
        rw [(g2 H (by omega)).1]; exact hs
      · show zsh M2 _ = _
        rw [show M2 = zal M' (2, 576) 576 from rfl, zsh_al, if_pos hz2.symm]
      · show zsh M2 (H + 1) = _
        rw [(g2 (H + 1) (by omega)).1]; exact hs1
      · rw [r3 _ _ (by omega), (g2 (H + 1) (by omega)).2.2.2]
        exact (hr j hj).1
      · have := iap0.1 j hj
        exact est_u (by unfold inE; omega) (est_g g2 (by omega) (hr j hj).2)
      · show zI M2 H j = _
        rw [(g2 H (by omega)).2.1]; exact hI j
      · show zs M' + 576 = _
        rw [hzs]
        rcases hw with rfl | rfl <;> omega
    | succ m ih =>
      intro i M' hi hg hs hI hr0 hr1 hs1 hr hzn hzs
      have ci := cl_n (n := i) (by omega)
      refine sg_X3_init_11 _ _ _ _ _ ⟨fun c => ?_, fun _ => ⟨hs, ?_⟩⟩
      · have := (nI_ltI (a := 24) (by omega) (by omega)).mp c
        omega
      · intro n4 M5
        have e4 : n4 = H + 2 + (6 + 4 * w) * i := hzn
        clear_value n4
        subst e4
        have s5 : zsh M5 (H + 2 + (6 + 4 * w) * i) = (11, 0) := by rw [show M5 = zal M' (11, 0) 2 from rfl, zsh_al, if_pos hzn.symm]
        have g5 : zgf (H + 2 + (6 + 4 * w) * i) M' M5 := zgf_al (by omega)
        refine ⟨by rw [s5], sp_init1 (by omega) (by rw [s5]) (by show zn M' + 1 = _; omega) (by omega) (by omega) fun M6 g6 he6 hn6 hs6 => ?_⟩
        have g56 := zgf_tr g5 g6
        rw [hr1]
        have s6 : zsh M6 (H + 1) = (6, 25) := by rw [(g56 (H + 1) (by omega)).1]; exact hs1
        refine ⟨by rw [s6], by rw [s6]; exact zin_n (by omega) (by omega), he6.1, ?_⟩
        rw [ci]
        intro M7 v3
        rw [show v3 = nI (i + 1) from nI_1 i]
        have rO : ∀ a j, a ≠ H + 1 → zR M7 a j = zR M6 a j := fun a j ha => by rw [show M7 = zuR M6 (H + 1) i (H + 2 + (6 + 4 * w) * i) from rfl, zR_uR, if_neg (fun z => ha z.1)]
        refine ih (i + 1) M7 (by omega) (zgf_tr hg (zgf_tr (zgf_le g56 (by omega)) (zgf_uR (by omega)))) ?_ (fun j => ?_) ?_ ?_ s6 (fun j hj => ?_) ?_ ?_
        · show (zsh M6 H).1 = 12
          rw [(g56 H (by omega)).1]; exact hs
        · show zI M6 H j = _
          rw [(g56 H (by omega)).2.1]; exact hI j
        · rw [rO _ _ (by omega), (g56 H (by omega)).2.2.2]; exact hr0
        · rw [rO _ _ (by omega), (g56 H (by omega)).2.2.2]; exact hr1
        · by_cases hji : j = i
          · subst hji
            exact ⟨by rw [show M7 = zuR M6 (H + 1) j (H + 2 + (6 + 4 * w) * j) from rfl, zR_uR, if_pos ⟨rfl, rfl⟩], est_u (by unfold inE; omega) he6⟩
          · obtain ⟨t1, t2⟩ := hr j (by omega)
            refine ⟨?_, est_u ?_ (est_g g56 ?_ t2)⟩
            · rw [show M7 = zuR M6 (H + 1) i (H + 2 + (6 + 4 * w) * i) from rfl, zR_uR, if_neg (fun z => hji z.2), (g56 (H + 1) (by omega)).2.2.2]
              exact t1
            · unfold inE
              rcases hw with rfl | rfl <;> omega
            · rcases hw with rfl | rfl <;> omega
        · show zn M6 = _
          rw [hn6]
          rcases hw with rfl | rfl <;> omega
        · show zs M6 = _
          rw [hs6, show zs M5 = zs M' + 2 from rfl, hzs]
          rcases hw with rfl | rfl <;> omega
  refine en_X3_init _ _ _ M (sg_X3_init_0 _ _ _ M ⟨h0, hp, ?_⟩)
  intro M1
  refine ⟨by decide, by decide, ?_⟩
  rw [c25]
  intro n2 M3
  have e2 : n2 = H + 1 := hn
  clear_value n2
  subst e2
  have hn1 : zn M1 = H + 1 := hn
  have g3 : zgf (H + 1) M1 M3 := zgf_al (by omega)
  have k3 : (zsh M3 H).1 = 12 := by rw [(g3 H (by omega)).1]; exact hp
  refine ⟨k3, ?_⟩
  intro M4
  refine loop 25 0 M4 (by omega) (zgf_tr zgf_1 (zgf_tr (zgf_le g3 (by omega)) zgf_1)) k3 (fun j => ?_) ?_ ?_ ?_ (fun j hj => absurd hj (Nat.not_lt_zero _)) (by show zn M + 1 = _; omega) (by show zs M + 25 = _; omega)
  · show zI M3 H j = _
    rw [(g3 H (by omega)).2.1]; rfl
  · rw [show M4 = zuR M3 H 1 (H + 1) from rfl, zR_uR, if_neg (by omega), (g3 H (by omega)).2.2.2, show M1 = zuR M H 0 o from rfl, zR_uR, if_pos ⟨rfl, rfl⟩]
  · rw [show M4 = zuR M3 H 1 (H + 1) from rfl, zR_uR, if_pos ⟨rfl, rfl⟩]
  · show zsh M3 (H + 1) = _
    rw [show M3 = zal M1 (6, 25) 25 from rfl, zsh_al, if_pos hn1.symm]
end
section
/-! a new object of the class -/
def zgw (q : Nat) (M M' : zM) : Prop := ∀ a, 3 ≤ a → a < q → zsh M' a = zsh M a ∧ (∀ j, zI M' a j = zI M a j) ∧ (∀ j, zL M' a j = zL M a j) ∧ ∀ j, zR M' a j = zR M a j
theorem zgw_tr {q : Nat} {M1 M2 M3 : zM} (h1 : zgw q M1 M2) (h2 : zgw q M2 M3) : zgw q M1 M3 := fun a h3 ha => ⟨(h2 a h3 ha).1.trans (h1 a h3 ha).1, fun j => ((h2 a h3 ha).2.1 j).trans ((h1 a h3 ha).2.1 j), fun j => ((h2 a h3 ha).2.2.1 j).trans ((h1 a h3 ha).2.2.1 j), fun j => ((h2 a h3 ha).2.2.2 j).trans ((h1 a h3 ha).2.2.2 j)⟩
theorem zgw_f {p q : Nat} {M M' : zM} (h : zgf p M M') (hq : q ≤ p) : zgw q M M' := fun a _ ha => h a (by omega)
theorem zgw_u {q k v : Nat} {M : zM} : zgw q M (zuR M 2 k v) := fun a h3 _ => ⟨rfl, fun _ => rfl, fun _ => rfl, fun j => by rw [zR_uR, if_neg (by omega)]⟩
/-- all but the object itself, that is made a second time as one that is not there -/
theorem pst_w {q : Nat} {M M' : zM} {p o : Nat} (h : zgw q M M') (h3 : 3 ≤ p) (hq : p + 4 ≤ q) (hp : pst M p o) : pst M' p o := by
  unfold pst at *
  rw [(h p (by omega) (by omega)).1, (h (p + 1) (by omega) (by omega)).1, (h (p + 2) (by omega) (by omega)).1, (h (p + 3) (by omega) (by omega)).1, (h p (by omega) (by omega)).2.2.2, (h p (by omega) (by omega)).2.2.2, (h p (by omega) (by omega)).2.2.2, (h p (by omega) (by omega)).2.2.2]
  exact hp
theorem est_w {q : Nat} {M M' : zM} {e o w : Nat} (h : zgw q M M') (h3 : 3 ≤ e) (hq : e + 6 + 4 * w ≤ q) (he : est M e o w) : est M' e o w := by
  obtain ⟨h1, h2, h3', h4, h5, h6, h7⟩ := he
  exact ⟨by rw [(h e (by omega) (by omega)).1]; exact h1, by rw [(h e (by omega) (by omega)).2.2.2]; exact h2, by rw [(h e (by omega) (by omega)).2.2.2]; exact h3', by rw [(h (e + 5) (by omega) (by omega)).1]; exact h4, fun i hi => by rw [(h (e + 5) (by omega) (by omega)).2.2.2]; exact h5 i hi, pst_w h (by omega) (by omega) h6, fun i hi => pst_w h (by omega) (by omega) (h7 i hi)⟩
theorem dst_w {q : Nat} {M M' : zM} {D o : Nat} (h : zgw q M M') (h3 : 3 ≤ D) (hq : D + 106 ≤ q) (hd : dst M D o) : dst M' D o := by
  obtain ⟨h1, h2, h3', h4, h5, h6, h7, h8, h9⟩ := hd
  exact ⟨by rw [(h D (by omega) (by omega)).1]; exact h1, by rw [(h D (by omega) (by omega)).2.2.2]; exact h2, by rw [(h D (by omega) (by omega)).2.2.2]; exact h3', by rw [(h D (by omega) (by omega)).2.2.2]; exact h4, by rw [(h (D + 9) (by omega) (by omega)).1]; exact h5, fun i hi => by rw [(h (D + 9) (by omega) (by omega)).2.2.2]; exact h6 i hi, pst_w h (by omega) (by omega) h7, pst_w h (by omega) (by omega) h8, fun i hi => pst_w h (by omega) (by omega) (h9 i hi)⟩
theorem ist_w {q : Nat} {M M' : zM} {H o w : Nat} {eid : Nat → Nat} (h : zgw q M M') (h3 : 3 ≤ H) (hq : H + 153 + 100 * w ≤ q) (hi : ist M H o w eid) : ist M' H o w eid := by
  obtain ⟨⟨h1, h2, h3', h4, h5⟩, h6, h7, h8⟩ := hi
  refine ⟨⟨by rw [(h H (by omega) (by omega)).1]; exact h1, by rw [(h H (by omega) (by omega)).2.2.2]; exact h2, by rw [(h H (by omega) (by omega)).2.2.2]; exact h3', by rw [(h H (by omega) (by omega)).2.2.2]; exact h4, by rw [(h _ (by omega) (by omega)).1]; exact h5⟩, ⟨by rw [(h (H + 1) (by omega) (by omega)).1]; exact h6.1, fun i hi => ⟨by rw [(h (H + 1) (by omega) (by omega)).2.2.2]; exact (h6.2 i hi).1, est_w h ?_ ?_ (h6.2 i hi).2⟩⟩, h7, h8⟩
  · have := h7.1 i hi
    omega
  · have := h7.1 i hi
    omega
def s0 (nv : Nat) : aX := (nv, 0, List.replicate 40 [], [], false, [], (0, 0, 0, 0), false, [])
theorem sp_init5 {d n : Nat} {M : zM} {P : zM → Prop} (hd : 1 ≤ d) (h0 : n ≠ 0) (h : P M) : ycV d nX5_init [.ref n] M P := by
  obtain ⟨d, rfl, he⟩ := dS hd
  exact en_X5_init _ M (sg_X5_init_0 _ M ⟨h0, rfl, h⟩)
/-- so many variables -/
def anv (a : Int32) : Nat := if a.toInt < 1 then 1 else if 4 < a.toInt then 4 else a.toInt.toNat
theorem anv_ok {a : Int32} : 1 ≤ anv a ∧ anv a ≤ 4 := by
  unfold anv
  split
  · omega
  · split <;> omega
theorem sp_init7 {d : Nat} {M : zM} {a : Int32} {P : zM → Prop} (hd : 10 ≤ d) (hs : zsh M 2 = (15, 0)) (hn : zn M = 3) (hz : ∀ j, zI M 2 j = 0) (h : ∀ M' e e2, zgf 2 M M' → xX M' (s0 (anv a)) 1308 1414 e e2 → zn M' = 1529 → zs M' = zs M + 109301 → P M') : ycV d nX7_init [.ref 2, .int a] M P := by
  obtain ⟨d, rfl, he⟩ := dS hd
  have body : ∀ (M : zM) (o1 : Option Value), zsh M 2 = (15, 0) → zn M = 3 → zI M 2 0 = nI (anv a) → (∀ j, j ≠ 0 → zI M 2 j = 0) → (∀ M' e e2, zgf 2 M M' → xX M' (s0 (anv a)) 1308 1414 e e2 → zn M' = 1529 → zs M' = zs M + 109301 → P M') → wX7_init d (fun r M2 => r = [] ∧ P M2) 15 [some (.ref 2), o1] [] M := by
    intro M o1 hs hn hz0 hz h
    refine sg_X7_init_15 _ _ M ?_
    intro n1 M2
    have e1 : n1 = 3 := hn
    clear_value n1
    subst e1
    have g2 : zgf 3 M M2 := zgf_al (by omega)
    have o2 : zsh M2 3 = (13, 0) := by rw [show M2 = zal M (13, 0) 1 from rfl, zsh_al, if_pos hn.symm]
    have z2 : ∀ j, zI M2 3 j = 0 := fun j => by rw [show M2 = zal M (13, 0) 1 from rfl, zI_al, if_pos hn.symm]
    refine ⟨by rw [o2], sp_init5 (by omega) (by omega) ?_⟩
    have k2 : zsh M2 2 = (15, 0) := by rw [(g2 2 (by omega)).1]; exact hs
    refine ⟨by rw [k2], ?_⟩
    intro M4
    have n4 : zn M4 = 4 := by show zn M + 1 = _; omega
    have r4 : ∀ j, zR M4 2 j = if j = 1 then 3 else zR M 2 j := fun j => by
      rw [show M4 = zuR M2 2 1 3 from rfl, zR_uR, (g2 2 (by omega)).2.2.2]
      simp only [true_and]
    refine ⟨by rw [k2], ?_⟩
    rw [show zR M4 2 1 = 3 by rw [r4]; rfl]
    refine sp_row (n := 40) (by omega) (by omega) (by omega) fun M5 g5 h5s h5r h5n h5z => ?_
    rw [n4] at g5 h5s h5r h5n
    rw [n4]
    have k5 : zsh M5 2 = (15, 0) := by rw [(g5 2 (by omega)).1]; exact k2
    refine ⟨by rw [k5], ?_⟩
    intro M7
    have n7 : zn M7 = 165 := h5n
    have r7 : ∀ j, zR M7 2 j = if j = 2 then 4 else if j = 1 then 3 else zR M 2 j := fun j => by
      rw [show M7 = zuR M5 2 2 4 from rfl, zR_uR, (g5 2 (by omega)).2.2.2, r4]
      simp only [true_and]
    refine ⟨by rw [k5], ?_⟩
    rw [show zR M7 2 1 = 3 by rw [r7]; rfl]
    refine sp_row (n := 9) (by omega) (by omega) (by omega) fun M8 g8 h8s h8r h8n h8z => ?_
    rw [n7] at g8 h8s h8r h8n
    rw [n7]
    have k8 : zsh M8 2 = (15, 0) := by rw [(g8 2 (by omega)).1]; exact k5
    refine ⟨by rw [k8], ?_⟩
    intro M10 n11 M12
    have e11 : n11 = 202 := h8n
    clear_value n11
    subst e11
    have n10 : zn M10 = 202 := h8n
    have r10 : ∀ j, zR M10 2 j = if j = 3 then 165 else if j = 2 then 4 else if j = 1 then 3 else zR M 2 j := fun j => by
      rw [show M10 = zuR M8 2 3 165 from rfl, zR_uR, (g8 2 (by omega)).2.2.2, r7]
      simp only [true_and]
    have g12 : zgf 202 M10 M12 := zgf_al (by omega)
    have k12 : zsh M12 2 = (15, 0) := by rw [(g12 2 (by omega)).1]; exact k8
    have s12 : zsh M12 202 = (12, 0) := by rw [show M12 = zal M10 (12, 0) 11 from rfl, zsh_al, if_pos n10.symm]
    have z12 : ∀ j, zI M12 202 j = 0 := fun j => by rw [show M12 = zal M10 (12, 0) 11 from rfl, zI_al, if_pos n10.symm]
    have r12 : ∀ j, zR M12 2 j = zR M10 2 j := (g12 2 (by omega)).2.2.2
    refine ⟨by rw [k12], by rw [s12], ?_⟩
    rw [show zR M12 2 1 = 3 by rw [r12, r10]; rfl]
    refine sp_init3 (w := 8) (by omega) (by rw [s12]) (by show zn M10 + 1 = _; omega) (by omega) (Or.inl rfl) (by omega) fun M13 g13 hI13 hi13 hn13 hs13 => ?_
    have k13 : zsh M13 2 = (15, 0) := by rw [(g13 2 (by omega)).1]; exact k12
    refine ⟨by rw [k13], ?_⟩
    intro M14 n15 M16
    have e15 : n15 = 1155 := hn13
    clear_value n15
    subst e15
    have n14 : zn M14 = 1155 := hn13
    have r14 : ∀ j, zR M14 2 j = if j = 5 then 202 else zR M10 2 j := fun j => by
      rw [show M14 = zuR M13 2 5 202 from rfl, zR_uR, (g13 2 (by omega)).2.2.2, r12]
      simp only [true_and]
    have g16 : zgf 1155 M14 M16 := zgf_al (by omega)
    have k16 : zsh M16 2 = (15, 0) := by rw [(g16 2 (by omega)).1]; exact k13
    have s16 : zsh M16 1155 = (12, 0) := by rw [show M16 = zal M14 (12, 0) 11 from rfl, zsh_al, if_pos n14.symm]
    have r16 : ∀ j, zR M16 2 j = zR M14 2 j := (g16 2 (by omega)).2.2.2
    refine ⟨by rw [k16], by rw [s16], ?_⟩
    rw [show zR M16 2 1 = 3 by rw [r16, r14, r10]; rfl]
    refine sp_init3 (w := 0) (by omega) (by rw [s16]) (by show zn M14 + 1 = _; omega) (by omega) (Or.inr rfl) (by omega) fun M17 g17 hI17 hi17 hn17 hs17 => ?_
    have k17 : zsh M17 2 = (15, 0) := by rw [(g17 2 (by omega)).1]; exact k16
    refine ⟨by rw [k17], ?_⟩
    intro M18 n19 M20
    have e19 : n19 = 1308 := hn17
    clear_value n19
    subst e19
    have n18 : zn M18 = 1308 := hn17
    have r18 : ∀ j, zR M18 2 j = if j = 7 then 1155 else zR M14 2 j := fun j => by
      rw [show M18 = zuR M17 2 7 1155 from rfl, zR_uR, (g17 2 (by omega)).2.2.2, r16]
      simp only [true_and]
    have g20 : zgf 1308 M18 M20 := zgf_al (by omega)
    have k20 : zsh M20 2 = (15, 0) := by rw [(g20 2 (by omega)).1]; exact k17
    have s20 : zsh M20 1308 = (10, 0) := by rw [show M20 = zal M18 (10, 0) 5 from rfl, zsh_al, if_pos n18.symm]
    have r20 : ∀ j, zR M20 2 j = zR M18 2 j := (g20 2 (by omega)).2.2.2
    refine ⟨by rw [k20], by rw [s20], ?_⟩
    rw [show zR M20 2 1 = 3 by rw [r20, r18, r14, r10]; rfl]
    refine sp_init0 (by omega) (by rw [s20]) (by show zn M18 + 1 = _; omega) (by omega) fun M21 g21 hD21 hn21 hs21 => ?_
    have k21 : zsh M21 2 = (15, 0) := by rw [(g21 2 (by omega)).1]; exact k20
    refine ⟨by rw [k21], ?_⟩
    intro M22 n23 M24
    have e23 : n23 = 1414 := hn21
    clear_value n23
    subst e23
    have n22 : zn M22 = 1414 := hn21
    have r22 : ∀ j, zR M22 2 j = if j = 8 then 1308 else zR M18 2 j := fun j => by
      rw [show M22 = zuR M21 2 8 1308 from rfl, zR_uR, (g21 2 (by omega)).2.2.2, r20]
      simp only [true_and]
    have g24 : zgf 1414 M22 M24 := zgf_al (by omega)
    have k24 : zsh M24 2 = (15, 0) := by rw [(g24 2 (by omega)).1]; exact k21
    have s24 : zsh M24 1414 = (10, 0) := by rw [show M24 = zal M22 (10, 0) 5 from rfl, zsh_al, if_pos n22.symm]
    have r24 : ∀ j, zR M24 2 j = zR M22 2 j := (g24 2 (by omega)).2.2.2
    refine ⟨by rw [k24], by rw [s24], ?_⟩
    rw [show zR M24 2 1 = 3 by rw [r24, r22, r18, r14, r10]; rfl]
    refine sp_init0 (by omega) (by rw [s24]) (by show zn M22 + 1 = _; omega) (by omega) fun M25 g25 hD25 hn25 hs25 => ?_
    have k25 : zsh M25 2 = (15, 0) := by rw [(g25 2 (by omega)).1]; exact k24
    refine ⟨by rw [k25], ?_⟩
    intro M26 n27 M28
    have e27 : n27 = 1520 := hn25
    clear_value n27
    subst e27
    have n26 : zn M26 = 1520 := hn25
    have r26 : ∀ j, zR M26 2 j = if j = 9 then 1414 else zR M22 2 j := fun j => by
      rw [show M26 = zuR M25 2 9 1414 from rfl, zR_uR, (g25 2 (by omega)).2.2.2, r24]
      simp only [true_and]
    have g28 : zgf 1520 M26 M28 := zgf_al (by omega)
    have k28 : zsh M28 2 = (15, 0) := by rw [(g28 2 (by omega)).1]; exact k25
    have s28 : zsh M28 1520 = (14, 0) := by rw [show M28 = zal M26 (14, 0) 5 from rfl, zsh_al, if_pos n26.symm]
    have r28 : ∀ j, zR M28 2 j = zR M26 2 j := (g28 2 (by omega)).2.2.2
    refine ⟨by rw [k28], by rw [s28], ?_⟩
    rw [show zR M28 2 1 = 3 by rw [r28, r26, r22, r18, r14, r10]; rfl]
    refine sp_init6 (by omega) (by rw [s28]) (by show zn M26 + 1 = _; omega) (by omega) fun M29 g29 hp29 hi29 hn29 hs29 => ?_
    have k29 : zsh M29 2 = (15, 0) := by rw [(g29 2 (by omega)).1]; exact k28
    refine ⟨by rw [k29], ?_⟩
    intro M30 n31 M32
    have e31 : n31 = 1524 := hn29
    clear_value n31
    subst e31
    have n30 : zn M30 = 1524 := hn29
    have r30 : ∀ j, zR M30 2 j = if j = 11 then 1520 else zR M26 2 j := fun j => by
      rw [show M30 = zuR M29 2 11 1520 from rfl, zR_uR, (g29 2 (by omega)).2.2.2, r28]
      simp only [true_and]
    have g32 : zgf 1524 M30 M32 := zgf_al (by omega)
    have k32 : zsh M32 2 = (15, 0) := by rw [(g32 2 (by omega)).1]; exact k29
    have s32 : zsh M32 1524 = (14, 0) := by rw [show M32 = zal M30 (14, 0) 5 from rfl, zsh_al, if_pos n30.symm]
    have r32 : ∀ j, zR M32 2 j = zR M30 2 j := (g32 2 (by omega)).2.2.2
    refine ⟨by rw [k32], by rw [s32], ?_⟩
    rw [show zR M32 2 1 = 3 by rw [r32, r30, r26, r22, r18, r14, r10]; rfl]
    refine sp_init6 (by omega) (by rw [s32]) (by show zn M30 + 1 = _; omega) (by omega) fun M33 g33 hp33 hi33 hn33 hs33 => ?_
    have k33 : zsh M33 2 = (15, 0) := by rw [(g33 2 (by omega)).1]; exact k32
    refine ⟨by rw [k33], ?_⟩
    intro M34
    have n34 : zn M34 = 1528 := hn33
    refine ⟨by decide, by decide, ?_⟩
    rw [show (4 : Int32).toNatClampNeg = 4 by decide]
    intro n35 M36
    have e35 : n35 = 1528 := n34
    clear_value n35
    subst e35
    have r34 : ∀ j, zR M34 2 j = if j = 12 then 1524 else zR M30 2 j := fun j => by
      rw [show M34 = zuR M33 2 12 1524 from rfl, zR_uR, (g33 2 (by omega)).2.2.2, r32]
      simp only [true_and]
    have g36 : zgf 1528 M34 M36 := zgf_al (by omega)
    have k36 : zsh M36 2 = (15, 0) := by rw [(g36 2 (by omega)).1]; exact k33
    have s36 : zsh M36 1528 = (2, 4) := by rw [show M36 = zal M34 (2, 4) 4 from rfl, zsh_al, if_pos n34.symm]
    refine ⟨by rw [k36], ?_⟩
    intro M37
    have r37 : ∀ j, zR M37 2 j = if j = 13 then 1528 else zR M34 2 j := fun j => by
      rw [show M37 = zuR M36 2 13 1528 from rfl, zR_uR, (g36 2 (by omega)).2.2.2]
      simp only [true_and]
    -- what stays to the end
    have w36 : zgw 1529 M36 M37 := zgw_u
    have w34 : zgw 1528 M34 M37 := zgw_tr (zgw_f g36 (by omega)) (fun a h3 ha => w36 a h3 (by omega))
    have w33 : zgw 1528 M33 M37 := zgw_tr zgw_u w34
    have w30 : zgw 1524 M30 M37 := zgw_tr (zgw_f g32 (by omega)) (zgw_tr (zgw_f g33 (by omega)) (fun a h3 ha => w33 a h3 (by omega)))
    have w29 : zgw 1524 M29 M37 := zgw_tr zgw_u w30
    have w26 : zgw 1520 M26 M37 := zgw_tr (zgw_f g28 (by omega)) (zgw_tr (zgw_f g29 (by omega)) (fun a h3 ha => w29 a h3 (by omega)))
    have w25 : zgw 1520 M25 M37 := zgw_tr zgw_u w26
    have w22 : zgw 1414 M22 M37 := zgw_tr (zgw_f g24 (by omega)) (zgw_tr (zgw_f g25 (by omega)) (fun a h3 ha => w25 a h3 (by omega)))
    have w21 : zgw 1414 M21 M37 := zgw_tr zgw_u w22
    have w18 : zgw 1308 M18 M37 := zgw_tr (zgw_f g20 (by omega)) (zgw_tr (zgw_f g21 (by omega)) (fun a h3 ha => w21 a h3 (by omega)))
    have w17 : zgw 1308 M17 M37 := zgw_tr zgw_u w18
    have w14 : zgw 1155 M14 M37 := zgw_tr (zgw_f g16 (by omega)) (zgw_tr (zgw_f g17 (by omega)) (fun a h3 ha => w17 a h3 (by omega)))
    have w13 : zgw 1155 M13 M37 := zgw_tr zgw_u w14
    have w10 : zgw 202 M10 M37 := zgw_tr (zgw_f g12 (by omega)) (zgw_tr (zgw_f g13 (by omega)) (fun a h3 ha => w13 a h3 (by omega)))
    have w8 : zgw 202 M8 M37 := zgw_tr zgw_u w10
    have w7 : zgw 165 M7 M37 := zgw_tr (zgw_f g8 (by omega)) (fun a h3 ha => w8 a h3 (by omega))
    have w5 : zgw 165 M5 M37 := zgw_tr zgw_u w7
    have w4 : zgw 4 M4 M37 := zgw_tr (zgw_f g5 (by omega)) (fun a h3 ha => w5 a h3 (by omega))
    have w2 : zgw 4 M2 M37 := zgw_tr zgw_u w4
    have z37 : ∀ j, zI M37 2 j = zI M 2 j := fun j => by
      show zI M36 2 j = _
      rw [(g36 2 (by omega)).2.1]
      show zI M33 2 j = _
      rw [(g33 2 (by omega)).2.1, (g32 2 (by omega)).2.1]
      show zI M29 2 j = _
      rw [(g29 2 (by omega)).2.1, (g28 2 (by omega)).2.1]
      show zI M25 2 j = _
      rw [(g25 2 (by omega)).2.1, (g24 2 (by omega)).2.1]
      show zI M21 2 j = _
      rw [(g21 2 (by omega)).2.1, (g20 2 (by omega)).2.1]
      show zI M17 2 j = _
      rw [(g17 2 (by omega)).2.1, (g16 2 (by omega)).2.1]
      show zI M13 2 j = _
      rw [(g13 2 (by omega)).2.1, (g12 2 (by omega)).2.1]
      show zI M8 2 j = _
      rw [(g8 2 (by omega)).2.1]
      show zI M5 2 j = _
      rw [(g5 2 (by omega)).2.1]
      show zI M2 2 j = _
      rw [(g2 2 (by omega)).2.1]
    have below : zgf 2 M M37 := zgf_tr (zgf_le g2 (by omega)) (zgf_tr zgf_1 (zgf_tr (zgf_le g5 (by omega)) (zgf_tr zgf_1 (zgf_tr (zgf_le g8 (by omega)) (zgf_tr zgf_1 (zgf_tr (zgf_le g12 (by omega)) (zgf_tr (zgf_le g13 (by omega)) (zgf_tr zgf_1 (zgf_tr (zgf_le g16 (by omega)) (zgf_tr (zgf_le g17 (by omega)) (zgf_tr zgf_1 (zgf_tr (zgf_le g20 (by omega)) (zgf_tr (zgf_le g21 (by omega)) (zgf_tr zgf_1 (zgf_tr (zgf_le g24 (by omega)) (zgf_tr (zgf_le g25 (by omega)) (zgf_tr zgf_1 (zgf_tr (zgf_le g28 (by omega)) (zgf_tr (zgf_le g29 (by omega)) (zgf_tr zgf_1 (zgf_tr (zgf_le g32 (by omega)) (zgf_tr (zgf_le g33 (by omega)) (zgf_tr zgf_1 (zgf_tr (zgf_le g36 (by omega)) zgf_1))))))))))))))))))))))))
    have hI202 := ist_w w13 (by omega) (by omega) hI13
    have f202 : ∀ j, zI M37 202 j = 0 := fun j => by rw [(w13 202 (by omega) (by omega)).2.1, hi13]; exact z12 j
    have rr : ∀ j v, (if j = 13 then 1528 else if j = 12 then 1524 else if j = 11 then 1520 else if j = 9 then 1414 else if j = 8 then 1308 else if j = 7 then 1155 else if j = 5 then 202 else if j = 3 then 165 else if j = 2 then 4 else if j = 1 then 3 else zR M 2 j) = v → zR M37 2 j = v := fun j v hv => by
      rw [r37, r34, r30, r26, r22, r18, r14, r10]
      exact hv
    refine ⟨rfl, h M37 _ _ below ⟨⟨anv_ok, by show (0 : Nat) ≤ 2; omega, ⟨rfl, fun L hL => ?_⟩, ⟨by show (0 : Nat) ≤ 8; omega, fun L hL => absurd hL List.not_mem_nil⟩, fun z => (by cases z), fun z => (by cases z)⟩, ⟨⟨by show (zsh M36 2).1 = 15; rw [k36], ?_⟩, ⟨rr 1 3 rfl, rr 2 4 rfl, rr 3 165 rfl, rr 5 202 rfl, rr 7 1155 rfl, rr 8 1308 rfl, rr 9 1414 rfl, rr 11 1520 rfl, rr 12 1524 rfl, rr 13 1528 rfl⟩, ⟨?_, fun i hi => ⟨?_, ?_⟩⟩, ⟨?_, fun i hi => ⟨?_, ?_⟩⟩, ⟨hI202, ist_w w17 (by omega) (by omega) hI17⟩, ⟨dst_w w21 (by omega) (by omega) hD21, dst_w w25 (by omega) (by omega) hD25, Or.inl ⟨rfl, rfl⟩⟩, pst_w w29 (by omega) (by omega) hp29, pst_w w33 (by omega) (by omega) hp33, ?_⟩, ⟨?_, ?_, ?_, ?_, ?_⟩, fun i L hi => ?_, fun i L hi => (by cases hi), fun z => (by cases z), ⟨by rw [f202]; rfl, by rw [f202]; rfl, by rw [f202]; rfl, by rw [f202]; rfl⟩, fun z => (by cases z)⟩ (by show zn M34 + 1 = _; omega) ?_⟩
    · rw [(List.mem_replicate.mp (show L ∈ List.replicate 40 [] from hL)).2]; exact pok_nil
    · rw [(w2 3 (by omega) (by omega)).1, o2]
    · rw [(w5 4 (by omega) (by omega)).1]; exact h5s
    · rw [(w5 4 (by omega) (by omega)).2.2.2, (h5r i hi).1]
    · exact pst_w w5 (by omega) (by omega) (h5r i hi).2.1
    · rw [(w8 165 (by omega) (by omega)).1]; exact h8s
    · rw [(w8 165 (by omega) (by omega)).2.2.2, (h8r i hi).1]
    · exact pst_w w8 (by omega) (by omega) (h8r i hi).2.1
    · show zsh M36 1528 = _
      exact s36
    · rw [(w2 3 (by omega) (by omega)).2.1, z2]; rfl
    · rw [z37]; exact hz0
    · rw [z37, hz 4 (by omega)]; rfl
    · rw [z37, hz 6 (by omega)]; rfl
    · rw [z37, hz 10 (by omega)]; rfl
    · have hi : (List.replicate 40 ([] : aP))[i]? = some L := hi
      have hil := (List.getElem?_eq_some_iff.mp hi).1
      rw [List.length_replicate] at hil
      have hL := (List.mem_replicate.mp (List.mem_of_getElem? hi)).2
      subst hL
      refine ⟨?_, fun j t hj => by cases hj⟩
      rw [(w5 (5 + 4 * i) (by omega) (by omega)).2.1]
      exact (h5r i hil).2.2
    · have q1 : zs M37 = zs M33 + 4 := rfl
      have q2 : zs M32 = zs M29 + 5 := rfl
      have q3 : zs M28 = zs M25 + 5 := rfl
      have q4 : zs M24 = zs M21 + 5 := rfl
      have q5 : zs M20 = zs M17 + 5 := rfl
      have q6 : zs M16 = zs M13 + 11 := rfl
      have q7 : zs M12 = zs M8 + 11 := rfl
      have q8 : zs M7 = zs M5 := rfl
      have q9 : zs M4 = zs M + 1 := rfl
      omega
  have put : ∀ v : Int32, v = nI (anv a) → wX7_init d (fun r M2 => r = [] ∧ P M2) 15 [some (.ref 2), some (.int a)] [] (zuI M 2 0 v) := fun v hv => by
    have hg0 : zgf 2 M (zuI M 2 0 v) := fun b hb => ⟨rfl, fun j => by rw [zI_uI, if_neg (by omega)], fun _ => rfl, fun _ => rfl⟩
    refine body (zuI M 2 0 v) _ hs hn ?_ (fun j hj => ?_) fun M' e e2 hg hx hn' hs' => h M' e e2 (zgf_tr hg0 hg) hx hn' hs'
    · rw [zI_uI, if_pos ⟨rfl, rfl⟩]; exact hv
    · rw [zI_uI, if_neg (by omega)]; exact hz j
  have k15 : (zsh M 2).1 = 15 := by rw [hs]
  refine en_X7_init _ _ M (sg_X7_init_0 _ _ M ⟨by omega, fun c1 => ⟨fun c2 => ⟨k15, put a ?_⟩, fun c2 => ⟨k15, put 4 ?_⟩⟩, fun c1 => ⟨k15, put 1 ?_⟩⟩)
  · have c1 := Int32.le_iff_toInt_le.mp c1
    have c2 := Int32.le_iff_toInt_le.mp c2
    rw [show (1 : Int32).toInt = 1 by decide] at c1
    rw [show (4 : Int32).toInt = 4 by decide] at c2
    obtain ⟨j, hj, rfl⟩ := nI_of (x := a) (fun z => by
      have := Int32.lt_iff_toInt_lt.mp z
      rw [Int32.toInt_zero] at this
      omega)
    rw [nI_toInt hj] at c1 c2
    unfold anv
    rw [nI_toInt hj, if_neg (by omega), if_neg (by omega)]
    rfl
  · have c2 := Int32.lt_iff_toInt_lt.mp (Int32.not_le.mp c2)
    have c1 := Int32.le_iff_toInt_le.mp c1
    rw [show (1 : Int32).toInt = 1 by decide] at c1
    rw [show (4 : Int32).toInt = 4 by decide] at c2
    unfold anv
    rw [if_neg (by omega), if_pos (by omega)]
    rfl
  · have c1 := Int32.lt_iff_toInt_lt.mp (Int32.not_le.mp c1)
    rw [show (1 : Int32).toInt = 1 by decide] at c1
    unfold anv
    rw [if_pos (by omega)]
    rfl
end
